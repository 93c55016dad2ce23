/-! the words that hold: those of the tables that stay -/
def tb : List Cond := lw_tbl.filter goodWord
theorem tb_good : GoodIn tb tb := fun w h => ⟨h, good_of_word (List.mem_filter.mp h).2⟩
theorem tb_in {w : Cond} (h : w ∈ lw_tbl) (g : goodWord w = true) : w ∈ tb := List.mem_filter.mpr ⟨h, g⟩
theorem tb_t {w : Cond} (h : w ∈ tables_1) (g : goodWord w = true) : w ∈ tb := tb_in (List.mem_append_right _ h) g
theorem tb_1 {w : Cond} (i : Nat) (h : tables_1_1[i]? = some w) (g : goodWord w = true) : w ∈ tb := tb_t (List.mem_append_left _ (List.mem_of_getElem? h)) g
theorem tb_2 {w : Cond} (i : Nat) (h : tables_1_2[i]? = some w) (g : goodWord w = true) : w ∈ tb := tb_t (List.mem_append_right _ (List.mem_append_left _ (List.mem_of_getElem? h))) g
theorem tb_3 {w : Cond} (i : Nat) (h : tables_1_3[i]? = some w) (g : goodWord w = true) : w ∈ tb := tb_t (List.mem_append_right _ (List.mem_append_right _ (List.mem_append_left _ (List.mem_of_getElem? h)))) g
theorem tb_4 {w : Cond} (i : Nat) (h : tables_1_4[i]? = some w) (g : goodWord w = true) : w ∈ tb := tb_t (List.mem_append_right _ (List.mem_append_right _ (List.mem_append_right _ (List.mem_append_left _ (List.mem_of_getElem? h))))) g
theorem tb_5 {w : Cond} (i : Nat) (h : tables_1_5[i]? = some w) (g : goodWord w = true) : w ∈ tb := tb_t (List.mem_append_right _ (List.mem_append_right _ (List.mem_append_right _ (List.mem_append_right _ (List.mem_append_left _ (List.mem_of_getElem? h)))))) g
theorem tb_6 {w : Cond} (i : Nat) (h : tables_1_6[i]? = some w) (g : goodWord w = true) : w ∈ tb := tb_t (List.mem_append_right _ (List.mem_append_right _ (List.mem_append_right _ (List.mem_append_right _ (List.mem_append_right _ (List.mem_append_left _ (List.mem_of_getElem? h))))))) g
theorem tb_7 {w : Cond} (i : Nat) (h : tables_1_7[i]? = some w) (g : goodWord w = true) : w ∈ tb := tb_t (List.mem_append_right _ (List.mem_append_right _ (List.mem_append_right _ (List.mem_append_right _ (List.mem_append_right _ (List.mem_append_right _ (List.mem_append_left _ (List.mem_of_getElem? h)))))))) g
theorem tb_8 {w : Cond} (i : Nat) (h : tables_1_8[i]? = some w) (g : goodWord w = true) : w ∈ tb := tb_t (List.mem_append_right _ (List.mem_append_right _ (List.mem_append_right _ (List.mem_append_right _ (List.mem_append_right _ (List.mem_append_right _ (List.mem_append_right _ (List.mem_append_left _ (List.mem_of_getElem? h))))))))) g
theorem tb_9 {w : Cond} (i : Nat) (h : tables_1_9[i]? = some w) (g : goodWord w = true) : w ∈ tb := tb_t (List.mem_append_right _ (List.mem_append_right _ (List.mem_append_right _ (List.mem_append_right _ (List.mem_append_right _ (List.mem_append_right _ (List.mem_append_right _ (List.mem_append_right _ (List.mem_of_getElem? h))))))))) g
theorem tb_s {q : MethodName × Nat} (i : Nat) (h : lw_privs[i]? = some q) (g : goodWord (Cond.selects q.1.cls q.1 q.1) = true) : Cond.selects q.1.cls q.1 q.1 ∈ tb := tb_in (List.mem_append_left _ (List.mem_map.mpr ⟨q, List.mem_of_getElem? h, rfl⟩)) g
/-! the store and the world -/
abbrev St : Type := (Nat → Nat → Int32) × (Nat → Nat → Int64)
def sI (σ : St) (a k : Nat) (v : Int32) : St := (fun x => if x = a then upd (σ.1 a) k v else σ.1 x, σ.2)
def sL (σ : St) (a k : Nat) (v : Int64) : St := (σ.1, fun x => if x = a then vp_updL (σ.2 a) k v else σ.2 x)
def sC (σ : St) (a b n : Nat) : St := (fun x => if x = b then va_cpy (σ.1 a) (σ.1 b) 0 0 n else σ.1 x, σ.2)
abbrev NW : Nat := 226
def shL : List Nat := [10, 9, 20, 1, 24, 25, 4, 21, 4, 21, 4, 21, 4, 21, 4, 21, 4, 21, 4, 21, 4, 21, 8, 8, 8, 8, 1, 24, 25, 4, 21, 4, 21, 4, 21, 4, 21, 4, 21, 4, 21, 4, 21, 4, 21, 8, 8, 8, 8, 6, 20, 20, 20, 20, 20, 6, 20, 20, 20, 20, 20, 7, 20, 20, 20, 20, 7, 20, 20, 20, 20, 0, 20, 20, 20, 5, 26, 6, 20, 20, 20, 20, 20, 6, 20, 20, 20, 20, 20, 6, 20, 20, 20, 20, 20, 6, 20, 20, 20, 20, 20, 6, 20, 20, 20, 20, 20, 6, 20, 20, 20, 20, 20, 6, 20, 20, 20, 20, 20, 6, 20, 20, 20, 20, 20, 6, 20, 20, 20, 20, 20, 2, 27, 20, 20, 20, 3, 1, 24, 25, 4, 21, 4, 21, 4, 21, 4, 21, 4, 21, 4, 21, 4, 21, 4, 21, 8, 8, 8, 8, 7, 20, 20, 20, 20, 6, 20, 20, 20, 20, 20, 3, 1, 24, 25, 4, 21, 4, 21, 4, 21, 4, 21, 4, 21, 4, 21, 4, 21, 4, 21, 8, 8, 8, 8, 7, 20, 20, 20, 20, 6, 20, 20, 20, 20, 20, 11, 22, 20, 20, 20, 23, 23, 20, 20, 20, 21, 20, 22, 20, 20, 21, 20, 23, 21, 23]
def lnL : List Nat := [0, 0, 940, 0, 8, 4, 0, 160, 0, 160, 0, 160, 0, 160, 0, 160, 0, 160, 0, 160, 0, 160, 0, 0, 0, 0, 0, 8, 4, 0, 160, 0, 160, 0, 160, 0, 160, 0, 160, 0, 160, 0, 160, 0, 160, 0, 0, 0, 0, 0, 8, 8, 4, 4, 4, 0, 8, 8, 4, 4, 4, 0, 40, 40, 40, 40, 0, 40, 40, 40, 40, 0, 40, 40, 40, 0, 9, 0, 8, 8, 4, 4, 4, 0, 8, 8, 4, 4, 4, 0, 8, 8, 4, 4, 4, 0, 8, 8, 4, 4, 4, 0, 8, 8, 4, 4, 4, 0, 8, 8, 4, 4, 4, 0, 8, 8, 4, 4, 4, 0, 8, 8, 4, 4, 4, 0, 8, 8, 4, 4, 4, 0, 2, 8, 4, 32, 0, 0, 8, 4, 0, 160, 0, 160, 0, 160, 0, 160, 0, 160, 0, 160, 0, 160, 0, 160, 0, 0, 0, 0, 0, 40, 40, 40, 40, 0, 8, 8, 4, 4, 4, 0, 0, 8, 4, 0, 160, 0, 160, 0, 160, 0, 160, 0, 160, 0, 160, 0, 160, 0, 160, 0, 0, 0, 0, 0, 40, 40, 40, 40, 0, 8, 8, 4, 4, 4, 0, 940, 359, 147, 135, 24, 27, 248, 31, 8, 160, 8, 40, 4, 45, 45, 718, 24, 2, 1]
def rrL : List (List Nat) := [[1, 3, 26, 49, 55, 61, 66, 71, 75, 131, 132, 133, 134, 135, 0, 0, 0, 0, 0, 0], [2, 0, 0, 0, 0, 0, 0, 0, 0, 0, 0, 0], [], [4, 5, 0, 0, 0, 0, 0], [6, 8, 10, 12, 14, 16, 18, 20], [22, 23, 24, 25], [0, 0, 0, 0, 0, 0, 0, 0, 0, 0, 0, 7, 0, 0], [], [0, 0, 0, 0, 0, 0, 0, 0, 0, 0, 0, 9, 0, 0], [], [0, 0, 0, 0, 0, 0, 0, 0, 0, 0, 0, 11, 0, 0], [], [0, 0, 0, 0, 0, 0, 0, 0, 0, 0, 0, 13, 0, 0], [], [0, 0, 0, 0, 0, 0, 0, 0, 0, 0, 0, 15, 0, 0], [], [0, 0, 0, 0, 0, 0, 0, 0, 0, 0, 0, 17, 0, 0], [], [0, 0, 0, 0, 0, 0, 0, 0, 0, 0, 0, 19, 0, 0], [], [0, 0, 0, 0, 0, 0, 0, 0, 0, 0, 0, 21, 0, 0], [], [0, 0, 0, 0, 0], [0, 0, 0, 0, 0], [0, 0, 0, 0, 0], [0, 0, 0, 0, 0], [27, 28, 0, 0, 0, 0, 0], [29, 31, 33, 35, 37, 39, 41, 43], [45, 46, 47, 48], [0, 0, 0, 0, 0, 0, 0, 0, 0, 0, 0, 30, 0, 0], [], [0, 0, 0, 0, 0, 0, 0, 0, 0, 0, 0, 32, 0, 0], [], [0, 0, 0, 0, 0, 0, 0, 0, 0, 0, 0, 34, 0, 0], [], [0, 0, 0, 0, 0, 0, 0, 0, 0, 0, 0, 36, 0, 0], [], [0, 0, 0, 0, 0, 0, 0, 0, 0, 0, 0, 38, 0, 0], [], [0, 0, 0, 0, 0, 0, 0, 0, 0, 0, 0, 40, 0, 0], [], [0, 0, 0, 0, 0, 0, 0, 0, 0, 0, 0, 42, 0, 0], [], [0, 0, 0, 0, 0, 0, 0, 0, 0, 0, 0, 44, 0, 0], [], [0, 0, 0, 0, 0], [0, 0, 0, 0, 0], [0, 0, 0, 0, 0], [0, 0, 0, 0, 0], [3, 0, 0, 0, 50, 51, 52, 53, 54], [], [], [], [], [], [3, 0, 0, 0, 56, 57, 58, 59, 60], [], [], [], [], [], [0, 0, 62, 63, 64, 65], [], [], [], [], [0, 0, 67, 68, 69, 70], [], [], [], [], [72, 73, 74, 0, 0, 0], [], [], [], [76, 0, 0], [77, 83, 89, 95, 101, 107, 113, 119, 125], [3, 0, 0, 0, 78, 79, 80, 81, 82], [], [], [], [], [], [3, 0, 0, 0, 84, 85, 86, 87, 88], [], [], [], [], [], [3, 0, 0, 0, 90, 91, 92, 93, 94], [], [], [], [], [], [3, 0, 0, 0, 96, 97, 98, 99, 100], [], [], [], [], [], [3, 0, 0, 0, 102, 103, 104, 105, 106], [], [], [], [], [], [3, 0, 0, 0, 108, 109, 110, 111, 112], [], [], [], [], [], [3, 0, 0, 0, 114, 115, 116, 117, 118], [], [], [], [], [], [3, 0, 0, 0, 120, 121, 122, 123, 124], [], [], [], [], [], [3, 0, 0, 0, 126, 127, 128, 129, 130], [], [], [], [], [], [0], [136, 171], [], [], [], [137, 165, 160, 0], [138, 139, 0, 0, 0, 0, 0], [140, 142, 144, 146, 148, 150, 152, 154], [156, 157, 158, 159], [0, 0, 0, 0, 0, 0, 0, 0, 0, 0, 0, 141, 0, 0], [], [0, 0, 0, 0, 0, 0, 0, 0, 0, 0, 0, 143, 0, 0], [], [0, 0, 0, 0, 0, 0, 0, 0, 0, 0, 0, 145, 0, 0], [], [0, 0, 0, 0, 0, 0, 0, 0, 0, 0, 0, 147, 0, 0], [], [0, 0, 0, 0, 0, 0, 0, 0, 0, 0, 0, 149, 0, 0], [], [0, 0, 0, 0, 0, 0, 0, 0, 0, 0, 0, 151, 0, 0], [], [0, 0, 0, 0, 0, 0, 0, 0, 0, 0, 0, 153, 0, 0], [], [0, 0, 0, 0, 0, 0, 0, 0, 0, 0, 0, 155, 0, 0], [], [0, 0, 0, 0, 0], [0, 0, 0, 0, 0], [0, 0, 0, 0, 0], [0, 0, 0, 0, 0], [0, 0, 161, 162, 163, 164], [], [], [], [], [3, 0, 0, 0, 166, 167, 168, 169, 170], [], [], [], [], [], [172, 200, 195, 0], [173, 174, 0, 0, 0, 0, 0], [175, 177, 179, 181, 183, 185, 187, 189], [191, 192, 193, 194], [0, 0, 0, 0, 0, 0, 0, 0, 0, 0, 0, 176, 0, 0], [], [0, 0, 0, 0, 0, 0, 0, 0, 0, 0, 0, 178, 0, 0], [], [0, 0, 0, 0, 0, 0, 0, 0, 0, 0, 0, 180, 0, 0], [], [0, 0, 0, 0, 0, 0, 0, 0, 0, 0, 0, 182, 0, 0], [], [0, 0, 0, 0, 0, 0, 0, 0, 0, 0, 0, 184, 0, 0], [], [0, 0, 0, 0, 0, 0, 0, 0, 0, 0, 0, 186, 0, 0], [], [0, 0, 0, 0, 0, 0, 0, 0, 0, 0, 0, 188, 0, 0], [], [0, 0, 0, 0, 0, 0, 0, 0, 0, 0, 0, 190, 0, 0], [], [0, 0, 0, 0, 0], [0, 0, 0, 0, 0], [0, 0, 0, 0, 0], [0, 0, 0, 0, 0], [0, 0, 196, 197, 198, 199], [], [], [], [], [3, 0, 0, 0, 201, 202, 203, 204, 205], [], [], [], [], [], [0, 207, 0, 0, 0, 0, 208, 209, 210, 211, 212, 0, 0, 0, 0, 0, 0, 0, 0, 0, 0, 0, 213, 214, 0, 215, 0, 0, 216, 217, 0, 0, 0, 0, 0, 0, 0, 218, 0, 0, 0, 219, 0, 220, 0, 0, 0, 0, 0, 221, 222, 223, 224], [], [], [], [], [], [], [], [], [], [], [], [], [], [], [], [], [], [], []]
def kdL : List (List Nat) := [[2, 2, 2, 0, 0, 0], [2, 2, 0, 0, 0, 0, 0], [0], [2, 2, 2, 0], [1, 0, 0, 0, 0, 0, 0, 0, 0, 0, 0, 2, 0, 0], [2, 0, 0], [2, 0, 0, 0, 2, 2, 2, 2, 2], [0, 0, 2, 2, 2, 2], [1, 0, 0, 0, 0], [2, 0, 0, 1, 0, 0, 0, 0, 0, 0, 0, 0], [2, 2, 2, 2, 2, 2, 2, 2, 2, 2, 2, 2, 2, 2, 0, 0, 0, 0, 0, 0], [0, 2, 0, 0, 0, 0, 2, 2, 2, 2, 2, 0, 0, 0, 0, 0, 0, 1, 0, 0, 0, 0, 2, 2, 0, 2, 0, 0, 2, 2, 0, 0, 0, 0, 0, 0, 0, 2, 0, 0, 0, 2, 0, 2, 0, 0, 0, 0, 0, 2, 2, 2, 2]]
def sh (i : Nat) : Nat := shL.getD i 99
def ln (i : Nat) : Nat := lnL.getD i 0
def rr (i k : Nat) : Nat := (rrL.getD i []).getD k 0
def kd (c k : Nat) : Nat := (kdL.getD c []).getD k 9
def fv (ad : Nat → Nat) (σ : St) (t i k : Nat) : Value := if t = 0 then .int (σ.1 i k) else if t = 1 then .long (σ.2 i k) else .ref (ad (rr i k))
def fvs (ad : Nat → Nat) (σ : St) (i : Nat) : List Value := (List.range (kdL.getD (sh i) []).length).map (fun k => fv ad σ (kd (sh i) k) i k)
def ent (ad : Nat → Nat) (dA : Nat → ClassId) (σ : St) (i : Nat) : va_E :=
  if sh i < 20 then .inr (sh i, fvs ad σ i) else if sh i < 23 then .inl (dA (sh i), ln i, .inl (σ.1 i)) else if sh i = 23 then .inl (dA (sh i), ln i, .inr (.inl (σ.2 i))) else .inl (dA (sh i), ln i, .inr (.inr (.inr (.inr (fun j => some (ad (rr i j)))))))
def wld (ad : Nat → Nat) (dA : Nat → ClassId) (σ : St) : va_W := (List.range NW).map (fun i => (ad i, ent ad dA σ i))
def AW (ad : Nat → Nat) : Nat → Prop := fun q => ∃ i, i < NW ∧ q = ad i
def Inj (ad : Nat → Nat) : Prop := ∀ i j, i < NW → j < NW → ad i = ad j → i = j
def tys (dA : Nat → ClassId) : List (ClassId × FieldType) := [(dA 20, .int), (dA 21, .boolean), (dA 22, .byte), (dA 23, .long), (dA 24, .object "CoastLights$Light"), (dA 25, .object "CoastLights$Ship"), (dA 26, .object "CoastLights$Scene"), (dA 27, .object "CoastLights$Image")]
theorem sh_lt {i c : Nat} (h : sh i = c) (hc : c ≠ 99) : i < NW := by
  rcases Nat.lt_or_ge i NW with q | q
  · exact q
  · exfalso; apply hc; rw [← h, sh, List.getD_eq_getElem?_getD, List.getElem?_eq_none (by exact q)]; rfl
theorem wld_get {ad : Nat → Nat} {dA : Nat → ClassId} {σ : St} {i : Nat} (h : i < NW) : (wld ad dA σ)[i]? = some (ad i, ent ad dA σ i) := by
  simp [wld, h]
theorem wld_D {ad : Nat → Nat} {dA : Nat → ClassId} {σ : St} (h : Inj ad) : va_D (AW ad) (wld ad dA σ) := by
  have key : ∀ (k : Nat) (q : Nat × va_E), (wld ad dA σ)[k]? = some q → k < NW ∧ q.1 = ad k := by
    intro k q hk
    have hl : k < (wld ad dA σ).length := (List.getElem?_eq_some_iff.mp hk).1
    have hl2 : k < NW := by simpa [wld] using hl
    rw [wld_get hl2] at hk
    cases hk
    exact ⟨hl2, rfl⟩
  exact ⟨fun i j p q hi hj e => h i j (key i p hi).1 (key j q hj).1 (by rw [← (key i p hi).2, ← (key j q hj).2]; exact e), fun k q hk => ⟨k, (key k q hk).1, (key k q hk).2⟩⟩
theorem wld_set {ad : Nat → Nat} {dA : Nat → ClassId} {σ τ : St} {i : Nat} (h : ∀ j, j ≠ i → ent ad dA σ j = ent ad dA τ j) : (wld ad dA σ).set i (ad i, ent ad dA τ i) = wld ad dA τ := by
  apply List.ext_getElem?
  intro k
  rw [List.getElem?_set]
  by_cases hk : i = k
  · subst hk
    rw [if_pos rfl]
    by_cases hl : i < NW
    · rw [wld_get hl, if_pos (by simpa [wld] using hl)]
    · rw [if_neg (by simpa [wld] using hl)]
      symm
      apply List.getElem?_eq_none
      simp only [wld, List.length_map, List.length_range]; omega
  · rw [if_neg hk]
    by_cases hl : k < NW
    · rw [wld_get hl, wld_get hl, h k (fun z => hk z.symm)]
    · rw [List.getElem?_eq_none (by simp only [wld, List.length_map, List.length_range]; omega), List.getElem?_eq_none (by simp only [wld, List.length_map, List.length_range]; omega)]
theorem fvs_get {ad : Nat → Nat} {σ : St} {i k t : Nat} (h : kd (sh i) k = t) (ht : t ≠ 9) : (fvs ad σ i)[k]? = some (fv ad σ t i k) := by
  have hk : k < (kdL.getD (sh i) []).length := by
    rcases Nat.lt_or_ge k (kdL.getD (sh i) []).length with q | q
    · exact q
    · exfalso; apply ht; rw [← h, kd, List.getD_eq_getElem?_getD, List.getElem?_eq_none q]; rfl
  rw [← h]
  unfold fvs
  rw [List.getElem?_map, List.getElem?_range hk]
  rfl
theorem fvs_set {ad : Nat → Nat} {σ τ : St} {i k t : Nat} (h : kd (sh i) k = t) (ht : t ≠ 9) (hn : ∀ j, j ≠ k → fv ad σ (kd (sh i) j) i j = fv ad τ (kd (sh i) j) i j) : (fvs ad σ i).set k (fv ad τ t i k) = fvs ad τ i := by
  apply List.ext_getElem?
  intro j
  rw [List.getElem?_set]
  by_cases hj : k = j
  · subst hj
    rw [if_pos rfl, if_pos (List.getElem?_eq_some_iff.mp (fvs_get (ad := ad) (σ := σ) h ht)).1, fvs_get h ht]
  · rw [if_neg hj]
    by_cases hl : j < (kdL.getD (sh i) []).length
    · unfold fvs
      rw [List.getElem?_map, List.getElem?_map, List.getElem?_range hl]
      exact congrArg some (hn j (fun z => hj z.symm))
    · unfold fvs
      rw [List.getElem?_map, List.getElem?_map, List.getElem?_eq_none (by simpa using hl)]
      rfl
theorem ent_o {ad : Nat → Nat} {dA : Nat → ClassId} {σ : St} {i c : Nat} (h : sh i = c) (hc : c < 20) : ent ad dA σ i = .inr (c, fvs ad σ i) := by
  subst h; simp [ent, hc]
theorem ent_i {ad : Nat → Nat} {dA : Nat → ClassId} {σ : St} {i c : Nat} (h : sh i = c) (h1 : 20 ≤ c) (h2 : c < 23) : ent ad dA σ i = .inl (dA c, ln i, .inl (σ.1 i)) := by
  subst h; simp [ent, Nat.not_lt.mpr h1, h2]
theorem ent_l {ad : Nat → Nat} {dA : Nat → ClassId} {σ : St} {i : Nat} (h : sh i = 23) : ent ad dA σ i = .inl (dA 23, ln i, .inr (.inl (σ.2 i))) := by
  simp [ent, h]
theorem ent_r {ad : Nat → Nat} {dA : Nat → ClassId} {σ : St} {i c : Nat} (h : sh i = c) (h1 : 24 ≤ c) : ent ad dA σ i = .inl (dA c, ln i, .inr (.inr (.inr (.inr (fun j => some (ad (rr i j))))))) := by
  subst h
  have a1 : ¬ sh i < 20 := by omega
  have a2 : ¬ sh i < 23 := by omega
  have a3 : ¬ sh i = 23 := by omega
  simp [ent, a1, a2, a3]
theorem ent_cong {ad : Nat → Nat} {dA : Nat → ClassId} {σ τ : St} {j : Nat} (h1 : σ.1 j = τ.1 j) (h2 : σ.2 j = τ.2 j) : ent ad dA σ j = ent ad dA τ j := by
  simp [ent, fvs, fv, h1, h2]
theorem sI_ne {σ : St} {a k j : Nat} {v : Int32} (h : j ≠ a) : (sI σ a k v).1 j = σ.1 j := if_neg h
theorem sI_eq {σ : St} {a k : Nat} {v : Int32} : (sI σ a k v).1 a = upd (σ.1 a) k v := if_pos rfl
theorem sL_ne {σ : St} {a k j : Nat} {v : Int64} (h : j ≠ a) : (sL σ a k v).2 j = σ.2 j := if_neg h
theorem sL_eq {σ : St} {a k : Nat} {v : Int64} : (sL σ a k v).2 a = vp_updL (σ.2 a) k v := if_pos rfl
theorem sC_ne {σ : St} {a b n j : Nat} (h : j ≠ b) : (sC σ a b n).1 j = σ.1 j := if_neg h
theorem sC_eq {σ : St} {a b n : Nat} : (sC σ a b n).1 b = va_cpy (σ.1 a) (σ.1 b) 0 0 n := if_pos rfl
/-! statics: the enum's constants, its row, the two rows of steps -/
def wnm (i : Nat) : String := (["LIGHT", "FLASH", "FROM", "DARK", "SHIP", "HAZE", "WHITE", "RED", "GREEN", "DOUSE", "KINDLE", "FILL", "SHIFT", "STEER", "SECOND", "OR", "AND", "NOT", "OUT", "SHINING", "FIXED", "LIKE", "BY", "OIL", "PERIOD", "RANGE", "NUMBER"] : List String).getD i ""

def wc (i : Nat) : Int64 := ([12885268, 6686312, 215533, 132683, 631088, 264005, 24389253, 18596, 7935150, 4707941, 378999173, 206220, 20194516, 20583602, 642891204, 498, 1476, 14836, 16052, 20679435719, 6611108, 402789, 89, 15660, 542713316, 18921701, 492210354] : List Int64).getD i 0
def sx (i : Nat) : Int32 := ([1, 1, 0, -1, -1, -1, 0, 1, 0] : List Int32).getD i 0
def sy (i : Nat) : Int32 := ([0, 1, 1, 1, 0, -1, -1, -1, 0] : List Int32).getD i 0
def lenS : List Nat := [4, 1, 6]
def bytS : List (List Int32) := [[32, 97, 116, 32], [32], [32, 115, 101, 101, 115, 32]]
def Sta (sa : Nat → Nat) (A : Nat → Prop) (U : State) (H : Heap) : Prop :=
  (∀ i, i < 27 → va_Z "CoastLights$Word" (wnm i) "LCoastLights$Word;" (.ref (sa i)) A U H ∧ va_OF "CoastLights$Word" "code" "J" (.long (wc i)) (sa i) A U H) ∧
  va_Z "CoastLights$Word" "ALL" "[LCoastLights$Word;" (.ref (sa 27)) A U H ∧ va_T (.object "CoastLights$Word") (sa 27) 27 (fun j => .ref (sa j)) A U H ∧
  va_Z "CoastLights" "STEP_X" "[I" (.ref (sa 28)) A U H ∧ va_T .int (sa 28) 9 (fun j => .int (sx j)) A U H ∧
  va_Z "CoastLights" "STEP_Y" "[I" (.ref (sa 29)) A U H ∧ va_T .int (sa 29) 9 (fun j => .int (sy j)) A U H ∧
  vk_S 3 lenS bytS (fun i => sa (1000 + i)) (fun i => sa (1010 + i)) A U H ∧ va_Z "java/lang/String" "COMPACT_STRINGS" "Z" (.int 1) A U H ∧ va_Zq "jdk/internal/util/Preconditions" "SIOOBE_FORMATTER" "Ljava/util/function/BiFunction;" A U H
theorem Sta.moved {sa : Nat → Nat} {A : Nat → Prop} {u U : State} {H : Heap} (hvm : u.vm.Alike U.vm) (h : Sta sa A u H) : Sta sa A U H := by
  obtain ⟨h1, h2, h3, h4, h5, h6, h7, h8, h9, h10⟩ := h
  exact ⟨fun i hi => ⟨(h1 i hi).1.moved hvm, (h1 i hi).2.moved hvm⟩, h2.moved hvm, h3.moved hvm, h4.moved hvm, h5.moved hvm, h6.moved hvm, h7.moved hvm, h8.moved hvm, h9.moved hvm, h10.moved hvm⟩
theorem Sta.kept {sa : Nat → Nat} {A : Nat → Prop} {U : State} {H H1 : Heap} (h : Sta sa A U H) (hq : ∀ a : Nat, a < H.size → ¬ A a → H1[a]? = H[a]?) : Sta sa A U H1 := by
  obtain ⟨h1, h2, h3, h4, h5, h6, h7, h8, h9, h10⟩ := h
  exact ⟨fun i hi => ⟨(h1 i hi).1.kept hq, (h1 i hi).2.kept hq⟩, h2.kept hq, h3.kept hq, h4.kept hq, h5.kept hq, h6.kept hq, h7.kept hq, h8.kept hq, h9.kept hq, h10.kept hq⟩
/-! the locals: by place, where known -/
def lvs (ls : Array Slot) (nL : Nat) (lv : List (Option Value)) : Prop := lv.length = nL ∧ ls.size = nL ∧ lv_wf ls ∧ ∀ (j : Nat) (v : Value), lv[j]? = some (some v) → ls[j]? = some (Slot.val v)
def asc (lv : List (Option Value)) : List (Nat × Value) := (List.range lv.length).filterMap (fun j => (lv.getD j none).map (fun v => (j, v)))
theorem asc_mem {lv : List (Option Value)} {j : Nat} {v : Value} : (j, v) ∈ asc lv ↔ lv[j]? = some (some v) := by
  unfold asc
  rw [List.mem_filterMap]
  constructor
  · rintro ⟨i, hi, h⟩
    rw [List.getD_eq_getElem?_getD] at h
    cases e : lv[i]? with
    | none => rw [e] at h; cases h
    | some x =>
      rw [e] at h
      cases x with
      | none => cases h
      | some y => cases h; exact e
  · intro h
    exact ⟨j, List.mem_range.mpr (List.getElem?_eq_some_iff.mp h).1, by rw [List.getD_eq_getElem?_getD, h]; rfl⟩
theorem lvs.has {ls : Array Slot} {nL : Nat} {lv : List (Option Value)} (h : lvs ls nL lv) : lv_has ls nL (asc lv) := ⟨h.2.1, h.2.2.1, fun q hq => h.2.2.2 q.1 q.2 (asc_mem.mp hq)⟩
def nl (o : Option Value) : Prop := ∀ w, o = some w → w.category = 1
theorem nl_n : nl none := fun _ h => by cases h
theorem nl_i {x : Int32} : nl (some (.int x)) := fun _ h => by cases h; rfl
theorem nl_r {x : Nat} : nl (some (.ref x)) := fun _ h => by cases h; rfl
theorem lvs_s1 {ls : Array Slot} {nL k : Nat} {lv : List (Option Value)} {v : Value} (hl : lv.length = nL) (hp : ∀ j, j + 1 = k → ∀ o, lv[j]? = some o → nl o) (h : lv_has ls nL ((k, v) :: (asc lv).filter (fun q => !(q.1 == k) && !(q.1 + 1 == k && q.2.category == 2)))) : lvs ls nL (lv.set k (some v)) := by
  refine ⟨by rw [List.length_set]; exact hl, h.1, h.2.1, fun j w hj => ?_⟩
  rw [List.getElem?_set] at hj
  by_cases e : k = j
  · subst e
    rw [if_pos rfl] at hj
    split at hj
    · cases hj; exact h.2.2 (k, v) List.mem_cons_self
    · cases hj
  · rw [if_neg e] at hj
    refine h.2.2 (j, w) (List.mem_cons_of_mem _ (List.mem_filter.mpr ⟨asc_mem.mpr hj, ?_⟩))
    have h1 : (j == k) = false := by simpa using fun z => e z.symm
    by_cases h2 : j + 1 = k
    · have h3 := hp j h2 _ hj w rfl
      simp [h1, h3]
    · simp [h1, h2]
theorem lvs_s2 {ls : Array Slot} {nL k : Nat} {lv : List (Option Value)} {v : Value} (hl : lv.length = nL) (hp : ∀ j, j + 1 = k → ∀ o, lv[j]? = some o → nl o) (h : lv_has ls nL ((k, v) :: (asc lv).filter (fun q => !(q.1 == k) && (!(q.1 == k + 1) && !(q.1 + 1 == k && q.2.category == 2))))) : lvs ls nL ((lv.set k (some v)).set (k + 1) none) := by
  refine ⟨by rw [List.length_set, List.length_set]; exact hl, h.1, h.2.1, fun j w hj => ?_⟩
  rw [List.getElem?_set] at hj
  by_cases e1 : k + 1 = j
  · rw [if_pos e1] at hj
    split at hj <;> cases hj
  · rw [if_neg e1, List.getElem?_set] at hj
    by_cases e : k = j
    · subst e
      rw [if_pos rfl] at hj
      split at hj
      · cases hj; exact h.2.2 (k, v) List.mem_cons_self
      · cases hj
    · rw [if_neg e] at hj
      refine h.2.2 (j, w) (List.mem_cons_of_mem _ (List.mem_filter.mpr ⟨asc_mem.mpr hj, ?_⟩))
      have h1 : (j == k) = false := by simpa using fun z => e z.symm
      have h0 : (j == k + 1) = false := by simpa using fun z => e1 z.symm
      by_cases h2 : j + 1 = k
      · have h3 := hp j h2 _ hj w rfl
        simp [h1, h0, h3]
      · simp [h1, h0, h2]
def lvle : List (Option Value) → List (Option Value) → Prop
  | [], [] => True
  | a :: as, b :: bs => (a = none ∨ a = b) ∧ lvle as bs
  | _, _ => False
theorem lvle_at : ∀ {a b : List (Option Value)}, lvle a b → a.length = b.length ∧ ∀ (j : Nat) (v : Value), a[j]? = some (some v) → b[j]? = some (some v)
  | [], [], _ => ⟨rfl, fun _ _ h => h⟩
  | x :: xs, y :: ys, h => by
    obtain ⟨h1, h2⟩ := lvle_at h.2
    refine ⟨by simp [h1], fun j v hj => ?_⟩
    cases j with
    | zero =>
      simp only [List.getElem?_cons_zero, Option.some.injEq] at hj ⊢
      rcases h.1 with e | e
      · rw [e] at hj; cases hj
      · rw [← e]; exact hj
    | succ j => simpa using h2 j v (by simpa using hj)
  | [], _ :: _, h => absurd h (by simp [lvle])
  | _ :: _, [], h => absurd h (by simp [lvle])
/-! the judgement -/
def tr (ad : Nat → Nat) : Value → Value
  | .ref a => .ref (ad a)
  | v => v
theorem tr_cat (ad : Nat → Nat) (v : Value) : (tr ad v).category = v.category := by cases v <;> rfl
theorem tr_cats (ad : Nat → Nat) (st : List Value) : (st.map (tr ad)).map (fun v => v.category) = st.map Value.category := by
  rw [List.map_map]; exact List.map_congr_left (fun v _ => tr_cat ad v)
abbrev trL (ad : Nat → Nat) (lv : List (Option Value)) : List (Option Value) := lv.map (Option.map (tr ad))
theorem trL_at {ad : Nat → Nat} {lv : List (Option Value)} {i : Nat} {v : Value} (h : lv[i]? = some (some v)) : (trL ad lv)[i]? = some (some (tr ad v)) := by
  rw [List.getElem?_map, h]; rfl
def nestL : List Cond := [(Cond.methodLinkNest "CoastLights" (11 : Nat) ({ cls := "CoastLights$Tokens", name := "<init>", desc := "()V" } : MethodName) "CoastLights"), (Cond.methodLinkNest "CoastLights$Chart" (27 : Nat) ({ cls := "CoastLights$Light", name := "<init>", desc := "()V" } : MethodName) "CoastLights"), (Cond.methodLinkNest "CoastLights$Chart" (28 : Nat) ({ cls := "CoastLights$Ship", name := "<init>", desc := "()V" } : MethodName) "CoastLights"), (Cond.methodLinkNest "CoastLights" (40 : Nat) ({ cls := "CoastLights$Sentence", name := "<init>", desc := "()V" } : MethodName) "CoastLights"), (Cond.methodLinkNest "CoastLights" (50 : Nat) ({ cls := "CoastLights$Book", name := "<init>", desc := "()V" } : MethodName) "CoastLights"), (Cond.methodLinkNest "CoastLights" (64 : Nat) ({ cls := "CoastLights$Draws", name := "<init>", desc := "()V" } : MethodName) "CoastLights"), (Cond.methodLinkNest "CoastLights$Image" (18 : Nat) ({ cls := "CoastLights$Sentence", name := "<init>", desc := "()V" } : MethodName) "CoastLights"), (Cond.methodLinkNest "CoastLights$Light" (87 : Nat) ({ cls := "CoastLights", name := "octantOf", desc := "(II)I" } : MethodName) "CoastLights"), (Cond.methodLinkNest "CoastLights$Scene" (86 : Nat) ({ cls := "CoastLights", name := "remainder", desc := "(II)I" } : MethodName) "CoastLights"), (Cond.fieldLinkNest "CoastLights$Scene" (129 : Nat) "CoastLights" "STEP_X" "[I" "CoastLights"), (Cond.fieldLinkNest "CoastLights$Scene" (132 : Nat) "CoastLights" "STEP_Y" "[I" "CoastLights"), (Cond.methodLinkNest "CoastLights$Scene" (135 : Nat) ({ cls := "CoastLights", name := "isCell", desc := "(II)Z" } : MethodName) "CoastLights"), (Cond.methodLinkNest "CoastLights$Light" (67 : Nat) ({ cls := "CoastLights", name := "remainder", desc := "(II)I" } : MethodName) "CoastLights"), (Cond.methodLinkNest "CoastLights$Draws" (28 : Nat) ({ cls := "CoastLights", name := "remainder", desc := "(II)I" } : MethodName) "CoastLights")]
def strI (i : Nat) : Nat := if i = 0 then 336 else if i = 1 then 345 else 347
def strT (i : Nat) : String := if i = 0 then " at " else if i = 1 then " " else " sees "
def Nst (ad : Nat → Nat) (U : State) : Prop := (∀ w ∈ nestL, va_Nw w U) ∧ ∀ i, i < 3 → vk_R "CoastLights" (strI i) (strT i) (ad (2000 + i)) U
theorem nest_kind : ∀ w ∈ nestL, (∃ a i x h, w = .methodLinkNest a i x h) ∨ ∃ a i b n d h, w = .fieldLinkNest a i b n d h := by
  intro w hw
  simp only [nestL, List.mem_cons, List.not_mem_nil, or_false] at hw
  rcases hw with rfl | rfl | rfl | rfl | rfl | rfl | rfl | rfl | rfl | rfl | rfl | rfl | rfl | rfl
  all_goals first | exact Or.inl ⟨_, _, _, _, rfl⟩ | exact Or.inr ⟨_, _, _, _, _, _, rfl⟩
theorem Nst.warm {ad : Nat → Nat} {s U : State} (hW : s.WarmedH U.vm) (h : Nst ad s) : Nst ad U := ⟨fun w hw => by
  rcases nest_kind w hw with ⟨a, i, x, q, rfl⟩ | ⟨a, i, b, n, d, q, rfl⟩
  · exact va_Nw.warmM hW (h.1 _ hw)
  · exact va_Nw.warmF hW (h.1 _ hw), fun i hi => vk_R.warm hW (h.2 i hi)⟩
theorem Nst.same {ad : Nat → Nat} {s U : State} (e : s.vm = U.vm) (h : Nst ad s) : Nst ad U := ⟨fun w hw => by
  rcases nest_kind w hw with ⟨a, i, x, q, rfl⟩ | ⟨a, i, b, n, d, q, rfl⟩
  · exact va_Nw.same rfl e (h.1 _ hw)
  · exact va_Nw.same rfl e (h.1 _ hw), fun i hi => vk_R.same e.symm (h.2 i hi)⟩
abbrev MI : Type := MethodName × ByteArray × Nat × Option FieldType
def Ctx (μ : MI) (d : Nat) (p : Program) (R : Room) (s : State) (m : MethodId) (args : Array Value) (meth : Method) (c : Code) (D : va_G) (dA : Nat → ClassId) (ad : Nat → Nat) : Prop :=
  p.tables.exec = Jvm.exec ∧ c.code = μ.2.1 ∧ s.vm.findClass μ.1.cls = some m.cls ∧ (∀ w ∈ tb, w.before args s = true) ∧ va_K D vwCl (tys dA) s ∧ Inj ad ∧ Sta (fun i => ad (1000 + i)) (AW ad) s s.heap ∧ Nst ad s ∧ c.maxLocals = μ.2.2.1 ∧ meth.locks = false ∧ d ≤ R.frames ∧ 40 * d ≤ R.locals
/-- a return instruction with the answer leads to the end -/
def Fin (μ : MI) (Z : Option Value × St) (p : Program) (l : Launch) (e : Env) (R : Room) (s : State) (m : MethodId) (args : Array Value) (below : List Frame) (meth : Method) (c : Code) (D : va_G) (dA : Nat → ClassId) (ad : Nat → Nat) (Q : State → Prop) : Prop :=
  ∀ (H : Heap) (locs : List Loc) (ls : Array Slot) (pc : Nat), va_P D vwCl (wld ad dA Z.2) H → va_S (AW ad) s.heap H locs →
    match Z.1 with
    | some (.int v) => decode μ.2.1 pc = .ok (.ireturn, 1) → (∃ ty, μ.2.2.2 = some ty ∧ narrow ty (.int v) = .int v) → W p l e R s m args below meth c H locs 0 0 Q (F0 m pc ls [.int v])
    | some (.long v) => decode μ.2.1 pc = .ok (.lreturn, 1) → μ.2.2.2 = some .long → W p l e R s m args below meth c H locs 0 0 Q (F0 m pc ls [.long v])
    | none => decode μ.2.1 pc = .ok (.return_, 1) → μ.2.2.2 = none → W p l e R s m args below meth c H locs 0 0 Q (F0 m pc ls [])
    | _ => True
def E (μ : MI) (d : Nat) (Z : Option Value × St) (pc : Nat) (lv : List (Option Value)) (st : List Value) (σ : St) : Prop :=
  ∀ (p : Program) (l : Launch) (e : Env) (R : Room) (s : State) (m : MethodId) (args : Array Value) (below : List Frame) (meth : Method) (c : Code) (D : va_G) (dA : Nat → ClassId) (ad : Nat → Nat) (Q : State → Prop),
    Ctx μ d p R s m args meth c D dA ad → Fin μ Z p l e R s m args below meth c D dA ad Q → ∀ (H : Heap) (locs : List Loc) (ls : Array Slot), va_P D vwCl (wld ad dA σ) H → va_S (AW ad) s.heap H locs → lvs ls μ.2.2.1 (trL ad lv) → W p l e R s m args below meth c H locs 0 0 Q (F0 m pc ls (st.map (tr ad)))
def Qx (D : va_G) (dA : Nat → ClassId) (ad : Nat → Nat) (Z : Option Value × St) : Array Value → State → Outcome → State → Prop := fun _ st oc t => (oc = .returned Z.1 ∧ va_P D vwCl (wld ad dA Z.2) t.heap) ∧ va_F (AW ad) st t
def PreC (D : va_G) (dA : Nat → ClassId) (ad : Nat → Nat) (σ : St) (U : State) : Prop := va_P D vwCl (wld ad dA σ) U.heap ∧ va_K D vwCl (tys dA) U ∧ Inj ad ∧ Sta (fun i => ad (1000 + i)) (AW ad) U U.heap ∧ Nst ad U
def rm (d : Nat) : Room := { frames := d, cells := 0, slots := 0, locals := 40 * d }
abbrev wsM (μ : MI) : List Cond := .code μ.1 μ.2.1 μ.2.2.1 μ.2.2.2 :: tb
/-- a method's contract: from the store σ it comes to the answer and the store Z -/
def Ct (μ : MI) (d : Nat) (av : List Value) (σ : St) (Z : Option Value × St) : Prop :=
  ∀ (l : Launch) (D : va_G) (dA : Nat → ClassId) (ad : Nat → Nat), Met l μ.1 (wsM μ) (rm d) (va_Pc (av.map (tr ad)) (PreC D dA ad σ)) (Qx D dA ad Z) 0 0 (AW ad)
def lv0 (nL : Nat) (av : List Value) : List (Option Value) := (av.flatMap fun v => if v.category = 2 then [some v, none] else [some v]) ++ List.replicate (nL - (lg_sl av).length) none
def Dc (μ : MI) (pc : Nat) (i : Instr) (n pc' : Nat) : Prop := decode μ.2.1 pc = .ok (i, n) ∧ pc + n = pc'

