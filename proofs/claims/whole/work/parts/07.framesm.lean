def Fm (R : List Nat) (σ τ : St) : Prop := ∀ k, k ∉ R → σ.1 206 k = τ.1 206 k ∧ σ.2 206 k = τ.2 206 k
theorem Fm.rf {R : List Nat} {σ : St} : Fm R σ σ := fun _ _ => ⟨rfl, rfl⟩
theorem Fm.trans {R : List Nat} {σ τ υ : St} (h : Fm R σ τ) (g : Fm R τ υ) : Fm R σ υ := fun j hj => ⟨(h j hj).1.trans (g j hj).1, (h j hj).2.trans (g j hj).2⟩
theorem Fm.mono {R R' : List Nat} {σ τ : St} (h : Fm R σ τ) (g : ∀ x ∈ R, x ∈ R') : Fm R' σ τ := fun j hj => h j (fun q => hj (g _ q))
theorem Fm.sI {R : List Nat} {σ τ : St} {k : Nat} {v : Int32} (h : Fm R σ τ) (hk : k ∈ R) : Fm R σ (sI τ 206 k v) := fun j hj => ⟨(h j hj).1.trans (by
  show τ.1 206 j = (if 206 = 206 then upd (τ.1 206) k v else τ.1 206) j
  rw [if_pos rfl]
  exact (if_neg (fun e => hj (by rw [e]; exact hk))).symm), (h j hj).2⟩
theorem Fm.sL {R : List Nat} {σ τ : St} {k : Nat} {v : Int64} (h : Fm R σ τ) (hk : k ∈ R) : Fm R σ (sL τ 206 k v) := fun j hj => ⟨(h j hj).1, (h j hj).2.trans (by
  show τ.2 206 j = (if 206 = 206 then vp_updL (τ.2 206) k v else τ.2 206) j
  rw [if_pos rfl]
  exact (if_neg (fun e => hj (by rw [e]; exact hk))).symm)⟩
theorem Fm_aI {R : List Nat} {σ τ : St} {a k : Nat} {v : Int32} (h : Fm R σ τ) (ha : 206 ≠ a) : Fm R σ (sI τ a k v) := fun j hj => ⟨(h j hj).1.trans (by rw [sI_ne ha]), (h j hj).2⟩
theorem Fm_aL {R : List Nat} {σ τ : St} {a k : Nat} {v : Int64} (h : Fm R σ τ) (ha : 206 ≠ a) : Fm R σ (sL τ a k v) := fun j hj => ⟨(h j hj).1, (h j hj).2.trans (by rw [sL_ne ha])⟩
section FmG
variable {T : Type} {r : T} {G : Prop} {R : List Nat} {s0 : St}
theorem vl_m {x : St} {K : St → Option T} (h : vl x K = some r) (hF : Fm R s0 x) (k : ∀ s, Fm R s0 s → K s = some r → G) : G := k x hF h
theorem ald_m {f : Nat → St} {n : Nat} {i : Int32} {K : St → Option T} (h : ald f n i K = some r) (hF : ∀ j, Fm R s0 (f j)) (k : ∀ s, Fm R s0 s → K s = some r → G) : G := ald_i h (fun j _ h => k _ (hF j) h)
theorem ret_mv {s s' : St} (h : some s = some s') (hF : Fm R s0 s) : Fm R s0 s' := by cases h; exact hF
theorem ret_mi {α : Type} {x r : α} {s s' : St} (h : some (x, s) = some (r, s')) (hF : Fm R s0 s) : Fm R s0 s' := by cases h; exact hF
end FmG

set_option maxHeartbeats 4000000 in
theorem fm_X12_throwsIf {R : List Nat} {x1 : Int32} {s0 : St} {r : Int32} {sr : St} (hL : ∀ x ∈ ([0] : List Nat), x ∈ R) (h : f_X12_throwsIf x1 s0 = some (r, sr)) : Fm R s0 sr := by
  have hF : Fm R s0 s0 := Fm.rf
  unfold f_X12_throwsIf at h
  refine jn_e (fun j => ∀ (v1 : Int32), j v1 = some (r, sr) → Fm R s0 sr) h ?_ (fun j2 hj2 h => ?_)
  · intro v1 h
    refine vl_m h (hF.sI (hL _ (by decide))) (fun s3 hF h => ?_)
    refine rz_e h (fun _ h => ?_)
    exact ret_mi h hF
  refine e_ite h (fun _ h => ?_) (fun _ h => ?_)
  · exact hj2 _ h
  exact hj2 _ h

set_option maxHeartbeats 4000000 in
theorem fm_X12_four_L3 {R : List Nat} {N : Nat} {c1 : Int32}  {s0 : St} {sr : St} (hL : ∀ x ∈ ([2] : List Nat), x ∈ R)   : ∀ (n4 : Nat) (v2 : Int32) (s3 : St), Fm R s0 s3 → f_X12_four_L3 N c1 n4 v2 s3 = some sr → Fm R s0 sr := by
  intro n4
  induction n4 with
  | zero =>
    intro v2 s3 hF h
    rw [f_X12_four_L3] at h; cases h
  | succ n4 ih5 =>
    intro v2 s3 hF h
    rw [f_X12_four_L3] at h
    refine e_ite h (fun _ h => ?_) (fun _ h => ?_)
    · exact ret_mv h hF
    refine vl_g h (fun v6 h => ?_)
    refine ald_m h (fun _ => Fm_aI (a := 207) hF (by decide)) (fun s7 hF h => ?_)
    refine vl_g h (fun v8 h => ?_)
    refine vl_m h (hF.sI (hL _ (by decide))) (fun s9 hF h => ?_)
    refine vl_g h (fun v10 h => ?_)
    exact ih5 _ _ hF h

set_option maxHeartbeats 4000000 in
theorem fm_X12_four {R : List Nat} {N : Nat} {x1 : Int32} {s0 : St} {sr : St} (hL : ∀ x ∈ ([2] : List Nat), x ∈ R) (h : f_X12_four N x1 s0 = some sr) : Fm R s0 sr := by
  have hF : Fm R s0 s0 := Fm.rf
  unfold f_X12_four at h
  exact fm_X12_four_L3 (hLsub hL rfl)  _ _ _ hF h

set_option maxHeartbeats 4000000 in
theorem fm_X12_end {R : List Nat} {x1 : Int32} {s0 : St} {r : Int32} {sr : St} (hL : ∀ x ∈ ([0, 2] : List Nat), x ∈ R) (h : f_X12_end x1 s0 = some (r, sr)) : Fm R s0 sr := by
  have hF : Fm R s0 s0 := Fm.rf
  unfold f_X12_end at h
  refine vl_m h (hF.sI (hL _ (by decide))) (fun s1 hF h => ?_)
  refine e_ite h (fun _ h => ?_) (fun _ h => ?_)
  · exact ret_mi h hF
  refine vl_g h (fun v2 h => ?_)
  refine e_ite h (fun _ h => ?_) (fun _ h => ?_)
  · refine vl_m h (hF.sI (hL _ (by decide))) (fun s3 hF h => ?_)
    exact ret_mi h hF
  exact ret_mi h hF

set_option maxHeartbeats 4000000 in
theorem fm_X12_taken {R : List Nat} {x1 : Int32} {s0 : St} {sr : St} (hL : ∀ x ∈ ([2, 3, 4, 5] : List Nat), x ∈ R) (h : f_X12_taken x1 s0 = some sr) : Fm R s0 sr := by
  have hF : Fm R s0 s0 := Fm.rf
  unfold f_X12_taken at h
  refine vl_g h (fun v1 h => ?_)
  refine vl_m h (hF.sI (hL _ (by decide))) (fun s2 hF h => ?_)
  refine vl_m h (hF.sI (hL _ (by decide))) (fun s3 hF h => ?_)
  refine vl_m h (hF.sI (hL _ (by decide))) (fun s4 hF h => ?_)
  refine vl_m h (hF.sI (hL _ (by decide))) (fun s5 hF h => ?_)
  exact ret_mv h hF

set_option maxHeartbeats 4000000 in
theorem fm_X12_clears_L2 {R : List Nat} {N : Nat}  {k3 : St → Option (St)} {s0 : St} {sr : St} (hL : ∀ x ∈ ([] : List Nat), x ∈ R) (hk3 : ∀ (s4 : St), Fm R s0 s4 → k3 s4 = some sr → Fm R s0 sr)  : ∀ (n5 : Nat) (v1 : Int32) (s2 : St), Fm R s0 s2 → f_X12_clears_L2 N k3 n5 v1 s2 = some sr → Fm R s0 sr := by
  intro n5
  induction n5 with
  | zero =>
    intro v1 s2 hF h
    rw [f_X12_clears_L2] at h; cases h
  | succ n5 ih6 =>
    intro v1 s2 hF h
    rw [f_X12_clears_L2] at h
    refine e_ite h (fun _ h => ?_) (fun _ h => ?_)
    · exact hk3 _ hF h
    refine ald_m h (fun _ => Fm_aI (a := 209) hF (by decide)) (fun s7 hF h => ?_)
    refine vl_g h (fun v8 h => ?_)
    exact ih6 _ _ hF h

set_option maxHeartbeats 4000000 in
theorem fm_X12_clears {R : List Nat} {N : Nat}  {s0 : St} {sr : St} (hL : ∀ x ∈ ([] : List Nat), x ∈ R) (h : f_X12_clears N  s0 = some sr) : Fm R s0 sr := by
  have hF : Fm R s0 s0 := Fm.rf
  unfold f_X12_clears at h
  refine fm_X12_clears_L2 (hLsub hL rfl) (fun s9 hF h => ?_) _ _ _ hF h
  refine ald_m h (fun _ => Fm_aI (a := 209) hF (by decide)) (fun s10 hF h => ?_)
  exact ret_mv h hF

set_option maxHeartbeats 4000000 in
theorem fm_X12_next_L0 {R : List Nat} {N : Nat}  {k2 : St → Option (St)} {s0 : St} {sr : St} (hL : ∀ x ∈ ([4] : List Nat), x ∈ R) (hk2 : ∀ (s3 : St), Fm R s0 s3 → k2 s3 = some sr → Fm R s0 sr)  : ∀ (n4 : Nat) (s1 : St), Fm R s0 s1 → f_X12_next_L0 N k2 n4 s1 = some sr → Fm R s0 sr := by
  intro n4
  induction n4 with
  | zero =>
    intro s1 hF h
    rw [f_X12_next_L0] at h; cases h
  | succ n4 ih5 =>
    intro s1 hF h
    rw [f_X12_next_L0] at h
    refine bp_g h (fun v6 h => ?_)
    refine jn_e (fun j => j = some sr → Fm R s0 sr) h ?_ (fun j7 hj7 h => ?_)
    · intro h
      refine vl_g h (fun v8 h => ?_)
      refine vl_m h (hF.sI (hL _ (by decide))) (fun s9 hF h => ?_)
      exact ih5 _ hF h
    refine e_ite h (fun _ h => ?_) (fun _ h => ?_)
    · exact hj7 h
    refine bp_g h (fun v10 h => ?_)
    refine e_ite h (fun _ h => ?_) (fun _ h => ?_)
    · exact hj7 h
    exact hk2 _ hF h

set_option maxHeartbeats 4000000 in
theorem fm_X12_next_L181 {R : List Nat} {N : Nat} {c24 : Int32} {k27 : Int32 → St → Option (St)} {s0 : St} {sr : St} (hL : ∀ x ∈ ([4, 13, 14, 17] : List Nat), x ∈ R) (hk27 : ∀ (v28 : Int32) (s29 : St), Fm R s0 s29 → k27 v28 s29 = some sr → Fm R s0 sr)  : ∀ (n30 : Nat) (v25 : Int32) (s26 : St), Fm R s0 s26 → f_X12_next_L181 N c24 k27 n30 v25 s26 = some sr → Fm R s0 sr := by
  intro n30
  induction n30 with
  | zero =>
    intro v25 s26 hF h
    rw [f_X12_next_L181] at h; cases h
  | succ n30 ih31 =>
    intro v25 s26 hF h
    rw [f_X12_next_L181] at h
    refine bp_g h (fun v32 h => ?_)
    refine bp_g h (fun v33 h => ?_)
    refine jn_e (fun j => j = some sr → Fm R s0 sr) h ?_ (fun j34 hj34 h => ?_)
    · intro h
      refine jn_e (fun j => ∀ (v35 : Int32), j v35 = some sr → Fm R s0 sr) h ?_ (fun j36 hj36 h => ?_)
      · intro v35 h
        refine vl_g h (fun v37 h => ?_)
        refine jn_e (fun j => ∀ (s38 : St), Fm R s0 s38 → j s38 = some sr → Fm R s0 sr) h ?_ (fun j39 hj39 h => ?_)
        · intro s38 hF h
          refine vl_g h (fun v40 h => ?_)
          refine jn_e (fun j => ∀ (s41 : St), Fm R s0 s41 → j s41 = some sr → Fm R s0 sr) h ?_ (fun j42 hj42 h => ?_)
          · intro s41 hF h
            refine vl_g h (fun v43 h => ?_)
            refine vl_m h (hF.sI (hL _ (by decide))) (fun s44 hF h => ?_)
            refine vl_g h (fun v45 h => ?_)
            refine vl_m h (hF.sI (hL _ (by decide))) (fun s46 hF h => ?_)
            exact ih31 _ _ hF h
          refine e_ite h (fun _ h => ?_) (fun _ h => ?_)
          · exact hj42 _ hF h
          refine vl_g h (fun v47 h => ?_)
          refine bp_g h (fun v48 h => ?_)
          refine vl_m h (hF.sI (hL _ (by decide))) (fun s49 hF h => ?_)
          exact hj42 _ hF h
        refine e_ite h (fun _ h => ?_) (fun _ h => ?_)
        · exact hj39 _ hF h
        refine vl_g h (fun v50 h => ?_)
        refine bp_g h (fun v51 h => ?_)
        refine vl_m h (hF.sL (hL _ (by decide))) (fun s52 hF h => ?_)
        exact hj39 _ hF h
      refine jn_e (fun j => j = some sr → Fm R s0 sr) h ?_ (fun j53 hj53 h => ?_)
      · intro h
        exact hj36 _ h
      refine e_ite h (fun _ h => ?_) (fun _ h => ?_)
      · exact hj53 h
      refine bp_g h (fun v54 h => ?_)
      refine bp_g h (fun v55 h => ?_)
      refine e_ite h (fun _ h => ?_) (fun _ h => ?_)
      · exact hj36 _ h
      exact hj53 h
    refine e_ite h (fun _ h => ?_) (fun _ h => ?_)
    · refine bp_g h (fun v56 h => ?_)
      refine bp_g h (fun v57 h => ?_)
      refine e_ite h (fun _ h => ?_) (fun _ h => ?_)
      · exact hk27 _ _ hF h
      exact hj34 h
    exact hj34 h

set_option maxHeartbeats 4000000 in
theorem fm_X12_next {R : List Nat} {N : Nat}  {s0 : St} {sr : St} (hL : ∀ x ∈ ([4, 11, 12, 13, 14, 17] : List Nat), x ∈ R) (h : f_X12_next N  s0 = some sr) : Fm R s0 sr := by
  have hF : Fm R s0 s0 := Fm.rf
  unfold f_X12_next at h
  refine fm_X12_next_L0 (hLsub hL rfl) (fun s11 hF h => ?_) _ _ hF h
  refine vl_g h (fun v12 h => ?_)
  refine vl_m h (hF.sI (hL _ (by decide))) (fun s13 hF h => ?_)
  refine vl_m h (hF.sI (hL _ (by decide))) (fun s14 hF h => ?_)
  refine vl_g h (fun v15 h => ?_)
  refine vl_g h (fun v16 h => ?_)
  refine jn_e (fun j => j = some sr → Fm R s0 sr) h ?_ (fun j17 hj17 h => ?_)
  · intro h
    refine bp_g h (fun v18 h => ?_)
    refine e_ite h (fun _ h => ?_) (fun _ h => ?_)
    · refine bp_g h (fun v19 h => ?_)
      refine jn_e (fun j => j = some sr → Fm R s0 sr) h ?_ (fun j20 hj20 h => ?_)
      · intro h
        refine bp_g h (fun v21 h => ?_)
        refine vl_m h (hF.sL (hL _ (by decide))) (fun s22 hF h => ?_)
        refine vl_m h (hF.sI (hL _ (by decide))) (fun s23 hF h => ?_)
        refine fm_X12_next_L181 (hLsub hL rfl) (fun v58 s59 hF h => ?_) _ _ _ hF h
        refine jn_e (fun j => ∀ (v60 : Int32), j v60 = some sr → Fm R s0 sr) h ?_ (fun j61 hj61 h => ?_)
        · intro v60 h
          refine vl_m h (hF.sI (hL _ (by decide))) (fun s62 hF h => ?_)
          exact ret_mv h hF
        refine jn_e (fun j => j = some sr → Fm R s0 sr) h ?_ (fun j63 hj63 h => ?_)
        · intro h
          exact hj61 _ h
        refine e_ite h (fun _ h => ?_) (fun _ h => ?_)
        · exact hj63 h
        refine vl_g h (fun v64 h => ?_)
        refine jn_e (fun j => ∀ (v65 : Int32), j v65 = some sr → Fm R s0 sr) h ?_ (fun j66 hj66 h => ?_)
        · intro v65 h
          refine e_ite h (fun _ h => ?_) (fun _ h => ?_)
          · refine e_ite h (fun _ h => ?_) (fun _ h => ?_)
            · exact hj61 _ h
            exact hj61 _ h
          exact hj63 h
        refine e_ite h (fun _ h => ?_) (fun _ h => ?_)
        · exact hj66 _ h
        exact hj66 _ h
      refine e_ite h (fun _ h => ?_) (fun _ h => ?_)
      · refine bp_g h (fun v67 h => ?_)
        refine e_ite h (fun _ h => ?_) (fun _ h => ?_)
        · refine jn_e (fun j => ∀ (v68 : Int32), j v68 = some sr → Fm R s0 sr) h ?_ (fun j69 hj69 h => ?_)
          · intro v68 h
            refine vl_m h (hF.sI (hL _ (by decide))) (fun s70 hF h => ?_)
            refine vl_m h (hF.sI (hL _ (by decide))) (fun s71 hF h => ?_)
            refine vl_g h (fun v72 h => ?_)
            refine vl_m h (hF.sI (hL _ (by decide))) (fun s73 hF h => ?_)
            exact ret_mv h hF
          refine jn_e (fun j => j = some sr → Fm R s0 sr) h ?_ (fun j74 hj74 h => ?_)
          · intro h
            exact hj69 _ h
          refine e_ite h (fun _ h => ?_) (fun _ h => ?_)
          · exact hj74 h
          refine e_ite h (fun _ h => ?_) (fun _ h => ?_)
          · exact hj74 h
          refine e_ite h (fun _ h => ?_) (fun _ h => ?_)
          · exact hj74 h
          refine jn_e (fun j => j = some sr → Fm R s0 sr) h ?_ (fun j75 hj75 h => ?_)
          · intro h
            exact hj69 _ h
          refine e_ite h (fun _ h => ?_) (fun _ h => ?_)
          · exact hj75 h
          refine e_ite h (fun _ h => ?_) (fun _ h => ?_)
          · exact hj75 h
          exact hj74 h
        exact hj20 h
      exact hj20 h
    refine vl_m h (hF.sI (hL _ (by decide))) (fun s76 hF h => ?_)
    exact ret_mv h hF
  refine e_ite h (fun _ h => ?_) (fun _ h => ?_)
  · exact hj17 h
  refine vl_g h (fun v77 h => ?_)
  refine vl_g h (fun v78 h => ?_)
  refine e_ite h (fun _ h => ?_) (fun _ h => ?_)
  · exact hj17 h
  refine vl_g h (fun v79 h => ?_)
  refine vl_m h (hF.sI (hL _ (by decide))) (fun s80 hF h => ?_)
  refine vl_m h (hF.sI (hL _ (by decide))) (fun s81 hF h => ?_)
  exact ret_mv h hF

set_option maxHeartbeats 4000000 in
theorem fm_X12_bad {R : List Nat} {x1 : Int32} {s0 : St} {r : Int32} {sr : St} (hL : ∀ x ∈ ([15, 16] : List Nat), x ∈ R) (h : f_X12_bad x1 s0 = some (r, sr)) : Fm R s0 sr := by
  have hF : Fm R s0 s0 := Fm.rf
  unfold f_X12_bad at h
  refine vl_m h (hF.sI (hL _ (by decide))) (fun s1 hF h => ?_)
  refine vl_g h (fun v2 h => ?_)
  refine vl_m h (hF.sI (hL _ (by decide))) (fun s3 hF h => ?_)
  exact ret_mi h hF

set_option maxHeartbeats 4000000 in
theorem fm_X12_sign {R : List Nat} {N : Nat} {x1 : Int32} {s0 : St} {r : Int32} {sr : St} (hL : ∀ x ∈ ([4, 11, 12, 13, 14, 15, 16, 17] : List Nat), x ∈ R) (h : f_X12_sign N x1 s0 = some (r, sr)) : Fm R s0 sr := by
  have hF : Fm R s0 s0 := Fm.rf
  unfold f_X12_sign at h
  refine bp_g h (fun v1 h => ?_)
  refine e_ite h (fun _ h => ?_) (fun _ h => ?_)
  · obtain ⟨v2, s3, hc, h⟩ := bd_e h
    have hF := hF.trans (fm_X12_bad (hLsub hL rfl) hc)
    refine rz_e h (fun _ h => ?_)
    exact ret_mi h hF
  obtain ⟨s4, hc, h⟩ := bp_e h
  have hF := hF.trans (fm_X12_next (hLsub hL rfl) hc)
  exact ret_mi h hF

set_option maxHeartbeats 4000000 in
theorem fm_X12_takes {R : List Nat} {N : Nat} {x1 : Int32} {x2 : Int32} {s0 : St} {r : Int32} {sr : St} (hL : ∀ x ∈ ([4, 11, 12, 13, 14, 15, 16, 17, 18] : List Nat), x ∈ R) (h : f_X12_takes N x1 x2 s0 = some (r, sr)) : Fm R s0 sr := by
  have hF : Fm R s0 s0 := Fm.rf
  unfold f_X12_takes at h
  refine vl_g h (fun v1 h => ?_)
  refine e_ite h (fun _ h => ?_) (fun _ h => ?_)
  · refine vl_g h (fun v2 h => ?_)
    refine bp_g h (fun v3 h => ?_)
    refine e_ite h (fun _ h => ?_) (fun _ h => ?_)
    · obtain ⟨v4, s5, hc, h⟩ := bd_e h
      have hF := hF.trans (fm_X12_bad (hLsub hL rfl) hc)
      refine rz_e h (fun _ h => ?_)
      exact ret_mi h hF
    refine vl_g h (fun v6 h => ?_)
    refine vl_m h (hF.sI (hL _ (by decide))) (fun s7 hF h => ?_)
    obtain ⟨s8, hc, h⟩ := bp_e h
    have hF := hF.trans (fm_X12_next (hLsub hL rfl) hc)
    exact ret_mi h hF
  obtain ⟨v9, s10, hc, h⟩ := bd_e h
  have hF := hF.trans (fm_X12_bad (hLsub hL rfl) hc)
  refine rz_e h (fun _ h => ?_)
  exact ret_mi h hF

set_option maxHeartbeats 4000000 in
theorem fm_X12_puts {R : List Nat} {N : Nat} {x1 : Int32} {x2 : Int32} {x3 : Int32} {s0 : St} {r : Int32} {sr : St} (hL : ∀ x ∈ ([4, 11, 12, 13, 14, 15, 16, 17, 18] : List Nat), x ∈ R) (h : f_X12_puts N x1 x2 x3 s0 = some (r, sr)) : Fm R s0 sr := by
  have hF : Fm R s0 s0 := Fm.rf
  unfold f_X12_puts at h
  obtain ⟨v1, s2, hc, h⟩ := bd_e h
  have hF := hF.trans (fm_X12_takes (hLsub hL rfl) hc)
  refine e_ite h (fun _ h => ?_) (fun _ h => ?_)
  · exact ret_mi h hF
  refine vl_g h (fun v3 h => ?_)
  refine ald_m h (fun _ => Fm_aI (a := 209) hF (by decide)) (fun s4 hF h => ?_)
  exact ret_mi h hF

set_option maxHeartbeats 4000000 in
theorem fm_X12_fresh {R : List Nat} {N : Nat} {x1 : Int32} {s0 : St} {r : Int32} {sr : St} (hL : ∀ x ∈ ([4, 11, 12, 13, 14, 15, 16, 17] : List Nat), x ∈ R) (h : f_X12_fresh N x1 s0 = some (r, sr)) : Fm R s0 sr := by
  have hF : Fm R s0 s0 := Fm.rf
  unfold f_X12_fresh at h
  refine bp_g h (fun v1 h => ?_)
  refine e_ite h (fun _ h => ?_) (fun _ h => ?_)
  · obtain ⟨v2, s3, hc, h⟩ := bd_e h
    have hF := hF.trans (fm_X12_bad (hLsub hL rfl) hc)
    refine rz_e h (fun _ h => ?_)
    exact ret_mi h hF
  refine ald_g h (fun v4 h => ?_)
  refine bp_g h (fun v5 h => ?_)
  refine jn_e (fun j => j = some (r, sr) → Fm R s0 sr) h ?_ (fun j6 hj6 h => ?_)
  · intro h
    obtain ⟨v7, s8, hc, h⟩ := bd_e h
    have hF := hF.trans (fm_X12_bad (hLsub hL rfl) hc)
    refine rz_e h (fun _ h => ?_)
    exact ret_mi h hF
  refine e_ite h (fun _ h => ?_) (fun _ h => ?_)
  · exact hj6 h
  refine ald_g h (fun v9 h => ?_)
  refine bp_g h (fun v10 h => ?_)
  refine e_ite h (fun _ h => ?_) (fun _ h => ?_)
  · refine vl_g h (fun v11 h => ?_)
    refine ald_m h (fun _ => Fm_aL (a := 211) hF (by decide)) (fun s12 hF h => ?_)
    obtain ⟨s13, hc, h⟩ := bp_e h
    have hF := hF.trans (fm_X12_next (hLsub hL rfl) hc)
    exact ret_mi h hF
  exact hj6 h

set_option maxHeartbeats 4000000 in
theorem fm_X12_looksAt {R : List Nat} {N : Nat} {x1 : Int32} {x2 : Int32} {s0 : St} {r : Int32} {sr : St} (hL : ∀ x ∈ ([15, 16, 18] : List Nat), x ∈ R) (h : f_X12_looksAt N x1 x2 s0 = some (r, sr)) : Fm R s0 sr := by
  have hF : Fm R s0 s0 := Fm.rf
  unfold f_X12_looksAt at h
  refine bp_g h (fun v1 h => ?_)
  refine e_ite h (fun _ h => ?_) (fun _ h => ?_)
  · obtain ⟨v2, s3, hc, h⟩ := bd_e h
    have hF := hF.trans (fm_X12_bad (hLsub hL rfl) hc)
    refine rz_e h (fun _ h => ?_)
    exact ret_mi h hF
  refine bp_g h (fun v4 h => ?_)
  refine vl_m h (hF.sI (hL _ (by decide))) (fun s5 hF h => ?_)
  refine vl_g h (fun v6 h => ?_)
  refine e_ite h (fun _ h => ?_) (fun _ h => ?_)
  · exact ret_mi h hF
  obtain ⟨v7, s8, hc, h⟩ := bd_e h
  have hF := hF.trans (fm_X12_bad (hLsub hL rfl) hc)
  refine e_ite h (fun _ h => ?_) (fun _ h => ?_)
  · exact ret_mi h hF
  exact ret_mi h hF

set_option maxHeartbeats 4000000 in
theorem fm_X12_takesName {R : List Nat} {N : Nat} {x1 : Int32} {x2 : Int32} {s0 : St} {r : Int32} {sr : St} (hL : ∀ x ∈ ([4, 11, 12, 13, 14, 15, 16, 17, 18] : List Nat), x ∈ R) (h : f_X12_takesName N x1 x2 s0 = some (r, sr)) : Fm R s0 sr := by
  have hF : Fm R s0 s0 := Fm.rf
  unfold f_X12_takesName at h
  obtain ⟨v1, s2, hc, h⟩ := bd_e h
  have hF := hF.trans (fm_X12_looksAt (hLsub hL rfl) hc)
  refine e_ite h (fun _ h => ?_) (fun _ h => ?_)
  · exact ret_mi h hF
  obtain ⟨s3, hc, h⟩ := bp_e h
  have hF := hF.trans (fm_X12_next (hLsub hL rfl) hc)
  exact ret_mi h hF

set_option maxHeartbeats 4000000 in
theorem fm_X12_readLight {R : List Nat} {N : Nat}  {s0 : St} {r : Int32} {sr : St} (hL : ∀ x ∈ ([4, 11, 12, 13, 14, 15, 16, 17, 18] : List Nat), x ∈ R) (h : f_X12_readLight N  s0 = some (r, sr)) : Fm R s0 sr := by
  have hF : Fm R s0 s0 := Fm.rf
  unfold f_X12_readLight at h
  refine ald_g h (fun v1 h => ?_)
  refine e_ite h (fun _ h => ?_) (fun _ h => ?_)
  · obtain ⟨v2, s3, hc, h⟩ := bd_e h
    have hF := hF.trans (fm_X12_bad (hLsub hL rfl) hc)
    refine rz_e h (fun _ h => ?_)
    exact ret_mi h hF
  obtain ⟨s4, hc, h⟩ := bp_e h
  have hF := hF.trans (fm_X12_next (hLsub hL rfl) hc)
  obtain ⟨v5, s6, hc, h⟩ := bd_e h
  have hF := hF.trans (fm_X12_fresh (hLsub hL rfl) hc)
  refine e_ite h (fun _ h => ?_) (fun _ h => ?_)
  · exact ret_mi h hF
  obtain ⟨v7, s8, hc, h⟩ := bd_e h
  have hF := hF.trans (fm_X12_puts (hLsub hL rfl) hc)
  refine e_ite h (fun _ h => ?_) (fun _ h => ?_)
  · exact ret_mi h hF
  obtain ⟨v9, s10, hc, h⟩ := bd_e h
  have hF := hF.trans (fm_X12_puts (hLsub hL rfl) hc)
  refine e_ite h (fun _ h => ?_) (fun _ h => ?_)
  · exact ret_mi h hF
  obtain ⟨v11, s12, hc, h⟩ := bd_e h
  have hF := hF.trans (fm_X12_puts (hLsub hL rfl) hc)
  refine e_ite h (fun _ h => ?_) (fun _ h => ?_)
  · exact ret_mi h hF
  refine bp_g h (fun v13 h => ?_)
  refine jn_e (fun j => ∀ (v14 : Int32), j v14 = some (r, sr) → Fm R s0 sr) h ?_ (fun j15 hj15 h => ?_)
  · intro v14 h
    refine e_ite h (fun _ h => ?_) (fun _ h => ?_)
    · obtain ⟨v16, s17, hc, h⟩ := bd_e h
      have hF := hF.trans (fm_X12_bad (hLsub hL rfl) hc)
      refine rz_e h (fun _ h => ?_)
      exact ret_mi h hF
    refine ald_m h (fun _ => Fm_aI (a := 209) hF (by decide)) (fun s18 hF h => ?_)
    obtain ⟨s19, hc, h⟩ := bp_e h
    have hF := hF.trans (fm_X12_next (hLsub hL rfl) hc)
    obtain ⟨v20, s21, hc, h⟩ := bd_e h
    have hF := hF.trans (fm_X12_puts (hLsub hL rfl) hc)
    refine e_ite h (fun _ h => ?_) (fun _ h => ?_)
    · exact ret_mi h hF
    refine ald_g h (fun v22 h => ?_)
    refine ald_m h (fun _ => Fm_aI (a := 209) hF (by decide)) (fun s23 hF h => ?_)
    exact ret_mi h hF
  refine e_ite h (fun _ h => ?_) (fun _ h => ?_)
  · refine bp_g h (fun v24 h => ?_)
    refine e_ite h (fun _ h => ?_) (fun _ h => ?_)
    · refine bp_g h (fun v25 h => ?_)
      refine e_ite h (fun _ h => ?_) (fun _ h => ?_)
      · exact hj15 _ h
      exact hj15 _ h
    exact hj15 _ h
  exact hj15 _ h

set_option maxHeartbeats 4000000 in
theorem fm_X12_readFlash {R : List Nat} {N : Nat}  {s0 : St} {r : Int32} {sr : St} (hL : ∀ x ∈ ([4, 11, 12, 13, 14, 15, 16, 17, 18] : List Nat), x ∈ R) (h : f_X12_readFlash N  s0 = some (r, sr)) : Fm R s0 sr := by
  have hF : Fm R s0 s0 := Fm.rf
  unfold f_X12_readFlash at h
  obtain ⟨s1, hc, h⟩ := bp_e h
  have hF := hF.trans (fm_X12_next (hLsub hL rfl) hc)
  refine ald_g h (fun v2 h => ?_)
  obtain ⟨v3, s4, hc, h⟩ := bd_e h
  have hF := hF.trans (fm_X12_looksAt (hLsub hL rfl) hc)
  refine e_ite h (fun _ h => ?_) (fun _ h => ?_)
  · exact ret_mi h hF
  refine vl_g h (fun v5 h => ?_)
  refine ald_g h (fun v6 h => ?_)
  refine e_ite h (fun _ h => ?_) (fun _ h => ?_)
  · obtain ⟨v7, s8, hc, h⟩ := bd_e h
    have hF := hF.trans (fm_X12_bad (hLsub hL rfl) hc)
    refine rz_e h (fun _ h => ?_)
    exact ret_mi h hF
  obtain ⟨s9, hc, h⟩ := bp_e h
  have hF := hF.trans (fm_X12_next (hLsub hL rfl) hc)
  obtain ⟨v10, s11, hc, h⟩ := bd_e h
  have hF := hF.trans (fm_X12_puts (hLsub hL rfl) hc)
  refine e_ite h (fun _ h => ?_) (fun _ h => ?_)
  · exact ret_mi h hF
  obtain ⟨v12, s13, hc, h⟩ := bd_e h
  have hF := hF.trans (fm_X12_puts (hLsub hL rfl) hc)
  refine e_ite h (fun _ h => ?_) (fun _ h => ?_)
  · exact ret_mi h hF
  refine ald_g h (fun v14 h => ?_)
  refine ald_m h (fun _ => Fm_aI (a := 209) hF (by decide)) (fun s15 hF h => ?_)
  exact ret_mi h hF

set_option maxHeartbeats 4000000 in
theorem fm_X12_readFrom {R : List Nat} {N : Nat}  {s0 : St} {r : Int32} {sr : St} (hL : ∀ x ∈ ([4, 11, 12, 13, 14, 15, 16, 17, 18, 20] : List Nat), x ∈ R) (h : f_X12_readFrom N  s0 = some (r, sr)) : Fm R s0 sr := by
  have hF : Fm R s0 s0 := Fm.rf
  unfold f_X12_readFrom at h
  obtain ⟨s1, hc, h⟩ := bp_e h
  have hF := hF.trans (fm_X12_next (hLsub hL rfl) hc)
  refine ald_g h (fun v2 h => ?_)
  obtain ⟨v3, s4, hc, h⟩ := bd_e h
  have hF := hF.trans (fm_X12_looksAt (hLsub hL rfl) hc)
  refine e_ite h (fun _ h => ?_) (fun _ h => ?_)
  · exact ret_mi h hF
  refine vl_g h (fun v5 h => ?_)
  refine vl_g h (fun v6 h => ?_)
  refine bp_g h (fun v7 h => ?_)
  refine e_ite h (fun _ h => ?_) (fun _ h => ?_)
  · refine vl_g h (fun v8 h => ?_)
    refine vl_m h (hF.sI (hL _ (by decide))) (fun s9 hF h => ?_)
    obtain ⟨s10, hc, h⟩ := bp_e h
    have hF := hF.trans (fm_X12_next (hLsub hL rfl) hc)
    obtain ⟨v11, s12, hc, h⟩ := bd_e h
    have hF := hF.trans (fm_X12_puts (hLsub hL rfl) hc)
    refine rz_e h (fun _ h => ?_)
    exact ret_mi h hF
  obtain ⟨v13, s14, hc, h⟩ := bd_e h
  have hF := hF.trans (fm_X12_bad (hLsub hL rfl) hc)
  refine rz_e h (fun _ h => ?_)
  exact ret_mi h hF

set_option maxHeartbeats 4000000 in
theorem fm_X12_readDark {R : List Nat} {N : Nat}  {s0 : St} {r : Int32} {sr : St} (hL : ∀ x ∈ ([4, 11, 12, 13, 14, 15, 16, 17, 18] : List Nat), x ∈ R) (h : f_X12_readDark N  s0 = some (r, sr)) : Fm R s0 sr := by
  have hF : Fm R s0 s0 := Fm.rf
  unfold f_X12_readDark at h
  obtain ⟨s1, hc, h⟩ := bp_e h
  have hF := hF.trans (fm_X12_next (hLsub hL rfl) hc)
  refine ald_g h (fun v2 h => ?_)
  obtain ⟨v3, s4, hc, h⟩ := bd_e h
  have hF := hF.trans (fm_X12_takesName (hLsub hL rfl) hc)
  refine e_ite h (fun _ h => ?_) (fun _ h => ?_)
  · exact ret_mi h hF
  refine vl_g h (fun v5 h => ?_)
  refine vl_g h (fun v6 h => ?_)
  refine e_ite h (fun _ h => ?_) (fun _ h => ?_)
  · refine vl_g h (fun v7 h => ?_)
    refine e_ite h (fun _ h => ?_) (fun _ h => ?_)
    · refine ald_g h (fun v8 h => ?_)
      refine vl_g h (fun v9 h => ?_)
      refine bp_g h (fun v10 h => ?_)
      refine e_ite h (fun _ h => ?_) (fun _ h => ?_)
      · refine ald_g h (fun v11 h => ?_)
        refine vl_g h (fun v12 h => ?_)
        refine ald_m h (fun _ => Fm_aI (a := 209) hF (by decide)) (fun s13 hF h => ?_)
        obtain ⟨s14, hc, h⟩ := bp_e h
        have hF := hF.trans (fm_X12_next (hLsub hL rfl) hc)
        exact ret_mi h hF
      obtain ⟨v15, s16, hc, h⟩ := bd_e h
      have hF := hF.trans (fm_X12_bad (hLsub hL rfl) hc)
      refine rz_e h (fun _ h => ?_)
      exact ret_mi h hF
    obtain ⟨v17, s18, hc, h⟩ := bd_e h
    have hF := hF.trans (fm_X12_bad (hLsub hL rfl) hc)
    refine rz_e h (fun _ h => ?_)
    exact ret_mi h hF
  obtain ⟨v19, s20, hc, h⟩ := bd_e h
  have hF := hF.trans (fm_X12_bad (hLsub hL rfl) hc)
  refine rz_e h (fun _ h => ?_)
  exact ret_mi h hF

set_option maxHeartbeats 4000000 in
theorem fm_X12_readShip {R : List Nat} {N : Nat}  {s0 : St} {r : Int32} {sr : St} (hL : ∀ x ∈ ([4, 11, 12, 13, 14, 15, 16, 17, 18] : List Nat), x ∈ R) (h : f_X12_readShip N  s0 = some (r, sr)) : Fm R s0 sr := by
  have hF : Fm R s0 s0 := Fm.rf
  unfold f_X12_readShip at h
  refine ald_g h (fun v1 h => ?_)
  refine e_ite h (fun _ h => ?_) (fun _ h => ?_)
  · obtain ⟨v2, s3, hc, h⟩ := bd_e h
    have hF := hF.trans (fm_X12_bad (hLsub hL rfl) hc)
    refine rz_e h (fun _ h => ?_)
    exact ret_mi h hF
  obtain ⟨s4, hc, h⟩ := bp_e h
  have hF := hF.trans (fm_X12_next (hLsub hL rfl) hc)
  obtain ⟨v5, s6, hc, h⟩ := bd_e h
  have hF := hF.trans (fm_X12_fresh (hLsub hL rfl) hc)
  refine e_ite h (fun _ h => ?_) (fun _ h => ?_)
  · exact ret_mi h hF
  obtain ⟨v7, s8, hc, h⟩ := bd_e h
  have hF := hF.trans (fm_X12_puts (hLsub hL rfl) hc)
  refine e_ite h (fun _ h => ?_) (fun _ h => ?_)
  · exact ret_mi h hF
  obtain ⟨v9, s10, hc, h⟩ := bd_e h
  have hF := hF.trans (fm_X12_puts (hLsub hL rfl) hc)
  refine e_ite h (fun _ h => ?_) (fun _ h => ?_)
  · exact ret_mi h hF
  obtain ⟨v11, s12, hc, h⟩ := bd_e h
  have hF := hF.trans (fm_X12_puts (hLsub hL rfl) hc)
  refine e_ite h (fun _ h => ?_) (fun _ h => ?_)
  · exact ret_mi h hF
  obtain ⟨v13, s14, hc, h⟩ := bd_e h
  have hF := hF.trans (fm_X12_puts (hLsub hL rfl) hc)
  refine e_ite h (fun _ h => ?_) (fun _ h => ?_)
  · exact ret_mi h hF
  refine ald_g h (fun v15 h => ?_)
  refine ald_m h (fun _ => Fm_aI (a := 209) hF (by decide)) (fun s16 hF h => ?_)
  exact ret_mi h hF

set_option maxHeartbeats 4000000 in
theorem fm_X12_fault {R : List Nat}  {s0 : St} {r : Int32} {sr : St} (hL : ∀ x ∈ ([0] : List Nat), x ∈ R) (h : f_X12_fault  s0 = some (r, sr)) : Fm R s0 sr := by
  have hF : Fm R s0 s0 := Fm.rf
  unfold f_X12_fault at h
  refine vl_m h (hF.sI (hL _ (by decide))) (fun s1 hF h => ?_)
  refine vl_g h (fun v2 h => ?_)
  exact ret_mi h hF

set_option maxHeartbeats 4000000 in
theorem fm_X12_light {R : List Nat} {N : Nat} {x1 : Int32} {x2 : Int32} {s0 : St} {r : Int32} {sr : St} (hL : ∀ x ∈ ([0] : List Nat), x ∈ R) (h : f_X12_light N x1 x2 s0 = some (r, sr)) : Fm R s0 sr := by
  have hF : Fm R s0 s0 := Fm.rf
  unfold f_X12_light at h
  refine bp_g h (fun v1 h => ?_)
  refine jn_e (fun j => ∀ (v2 : Int32), j v2 = some (r, sr) → Fm R s0 sr) h ?_ (fun j3 hj3 h => ?_)
  · intro v2 h
    obtain ⟨v4, s5, hc, h⟩ := bd_e h
    have hF := hF.trans (fm_X12_throwsIf (hLsub hL rfl) hc)
    refine e_ite h (fun _ h => ?_) (fun _ h => ?_)
    · refine e_ite h (fun _ h => ?_) (fun _ h => ?_)
      · refine ald_g h (fun v6 h => ?_)
        exact ret_mi h hF
      refine e_ite h (fun _ h => ?_) (fun _ h => ?_)
      · refine ald_g h (fun v7 h => ?_)
        exact ret_mi h hF
      refine e_ite h (fun _ h => ?_) (fun _ h => ?_)
      · refine ald_g h (fun v8 h => ?_)
        exact ret_mi h hF
      refine e_ite h (fun _ h => ?_) (fun _ h => ?_)
      · refine ald_g h (fun v9 h => ?_)
        exact ret_mi h hF
      refine e_ite h (fun _ h => ?_) (fun _ h => ?_)
      · refine ald_g h (fun v10 h => ?_)
        exact ret_mi h hF
      refine e_ite h (fun _ h => ?_) (fun _ h => ?_)
      · refine bp_g h (fun v11 h => ?_)
        exact ret_mi h hF
      refine e_ite h (fun _ h => ?_) (fun _ h => ?_)
      · refine bp_g h (fun v12 h => ?_)
        exact ret_mi h hF
      refine e_ite h (fun _ h => ?_) (fun _ h => ?_)
      · refine ald_g h (fun v13 h => ?_)
        exact ret_mi h hF
      refine e_ite h (fun _ h => ?_) (fun _ h => ?_)
      · refine bp_g h (fun v14 h => ?_)
        refine e_ite h (fun _ h => ?_) (fun _ h => ?_)
        · exact ret_mi h hF
        exact ret_mi h hF
      refine e_ite h (fun _ h => ?_) (fun _ h => ?_)
      · refine bp_g h (fun v15 h => ?_)
        exact ret_mi h hF
      refine ald_g h (fun v16 h => ?_)
      exact ret_mi h hF
    exact ret_mi h hF
  refine jn_e (fun j => j = some (r, sr) → Fm R s0 sr) h ?_ (fun j17 hj17 h => ?_)
  · intro h
    exact hj3 _ h
  refine e_ite h (fun _ h => ?_) (fun _ h => ?_)
  · exact hj17 h
  refine bp_g h (fun v18 h => ?_)
  refine e_ite h (fun _ h => ?_) (fun _ h => ?_)
  · exact hj17 h
  exact hj3 _ h

set_option maxHeartbeats 4000000 in
theorem fm_X12_character {R : List Nat} {N : Nat} {x1 : Int32} {x2 : Int32} {s0 : St} {r : Int32} {sr : St} (hL : ∀ x ∈ ([0] : List Nat), x ∈ R) (h : f_X12_character N x1 x2 s0 = some (r, sr)) : Fm R s0 sr := by
  have hF : Fm R s0 s0 := Fm.rf
  unfold f_X12_character at h
  refine vl_m h (hF.sI (hL _ (by decide))) (fun s1 hF h => ?_)
  refine bp_g h (fun v2 h => ?_)
  refine jn_e (fun j => j = some (r, sr) → Fm R s0 sr) h ?_ (fun j3 hj3 h => ?_)
  · intro h
    exact ret_mi h hF
  refine e_ite h (fun _ h => ?_) (fun _ h => ?_)
  · exact hj3 h
  refine bp_g h (fun v4 h => ?_)
  refine bp_g h (fun v5 h => ?_)
  refine e_ite h (fun _ h => ?_) (fun _ h => ?_)
  · exact hj3 h
  refine bp_g h (fun v6 h => ?_)
  refine e_ite h (fun _ h => ?_) (fun _ h => ?_)
  · exact ret_mi h hF
  exact ret_mi h hF

set_option maxHeartbeats 4000000 in
theorem fm_X12_ship {R : List Nat} {N : Nat} {x1 : Int32} {x2 : Int32} {s0 : St} {r : Int32} {sr : St} (hL : ∀ x ∈ ([0] : List Nat), x ∈ R) (h : f_X12_ship N x1 x2 s0 = some (r, sr)) : Fm R s0 sr := by
  have hF : Fm R s0 s0 := Fm.rf
  unfold f_X12_ship at h
  refine vl_m h (hF.sI (hL _ (by decide))) (fun s1 hF h => ?_)
  refine bp_g h (fun v2 h => ?_)
  refine e_ite h (fun _ h => ?_) (fun _ h => ?_)
  · exact ret_mi h hF
  refine e_ite h (fun _ h => ?_) (fun _ h => ?_)
  · refine ald_g h (fun v3 h => ?_)
    exact ret_mi h hF
  refine e_ite h (fun _ h => ?_) (fun _ h => ?_)
  · refine ald_g h (fun v4 h => ?_)
    exact ret_mi h hF
  refine e_ite h (fun _ h => ?_) (fun _ h => ?_)
  · refine ald_g h (fun v5 h => ?_)
    exact ret_mi h hF
  refine e_ite h (fun _ h => ?_) (fun _ h => ?_)
  · refine ald_g h (fun v6 h => ?_)
    exact ret_mi h hF
  refine e_ite h (fun _ h => ?_) (fun _ h => ?_)
  · refine ald_g h (fun v7 h => ?_)
    refine ald_g h (fun v8 h => ?_)
    refine ald_g h (fun v9 h => ?_)
    refine bp_g h (fun v10 h => ?_)
    exact ret_mi h hF
  refine e_ite h (fun _ h => ?_) (fun _ h => ?_)
  · refine bp_g h (fun v11 h => ?_)
    exact ret_mi h hF
  exact ret_mi h hF

set_option maxHeartbeats 4000000 in
theorem fm_X12_visible {R : List Nat} {N : Nat} {x1 : Int32} {x2 : Int32} {s0 : St} {r : Int32} {sr : St} (hL : ∀ x ∈ ([0] : List Nat), x ∈ R) (h : f_X12_visible N x1 x2 s0 = some (r, sr)) : Fm R s0 sr := by
  have hF : Fm R s0 s0 := Fm.rf
  unfold f_X12_visible at h
  refine vl_m h (hF.sI (hL _ (by decide))) (fun s1 hF h => ?_)
  refine bp_g h (fun v2 h => ?_)
  refine jn_e (fun j => j = some (r, sr) → Fm R s0 sr) h ?_ (fun j3 hj3 h => ?_)
  · intro h
    exact ret_mi h hF
  refine e_ite h (fun _ h => ?_) (fun _ h => ?_)
  · exact hj3 h
  refine bp_g h (fun v4 h => ?_)
  refine e_ite h (fun _ h => ?_) (fun _ h => ?_)
  · exact hj3 h
  refine ald_g h (fun v5 h => ?_)
  refine bp_g h (fun v6 h => ?_)
  exact ret_mi h hF

set_option maxHeartbeats 4000000 in
theorem fm_X12_now_L9 {R : List Nat} {N : Nat} {c2 : Int32} {s5 : St} {k6 : Int32 → Option (Int32 × St)} {s0 : St} {r : Int32} {sr : St} (hL : ∀ x ∈ ([] : List Nat), x ∈ R) (hk6 : ∀ (v7 : Int32), k6 v7 = some (r, sr) → Fm R s0 sr) (hF : Fm R s0 s5) : ∀ (n8 : Nat) (v3 : Int32) (v4 : Int32), f_X12_now_L9 N c2 s5 k6 n8 v3 v4 = some (r, sr) → Fm R s0 sr := by
  intro n8
  induction n8 with
  | zero =>
    intro v3 v4 h
    rw [f_X12_now_L9] at h; cases h
  | succ n8 ih9 =>
    intro v3 v4 h
    rw [f_X12_now_L9] at h
    refine ald_g h (fun v10 h => ?_)
    refine e_ite h (fun _ h => ?_) (fun _ h => ?_)
    · exact hk6 _ h
    refine ald_g h (fun v11 h => ?_)
    refine jn_e (fun j => ∀ (v12 : Int32), j v12 = some (r, sr) → Fm R s0 sr) h ?_ (fun j13 hj13 h => ?_)
    · intro v12 h
      refine vl_g h (fun v14 h => ?_)
      refine vl_g h (fun v15 h => ?_)
      exact ih9 _ _ h
    refine e_ite h (fun _ h => ?_) (fun _ h => ?_)
    · exact hj13 _ h
    exact hj13 _ h

set_option maxHeartbeats 4000000 in
theorem fm_X12_now {R : List Nat} {N : Nat} {x1 : Int32} {s0 : St} {r : Int32} {sr : St} (hL : ∀ x ∈ ([0] : List Nat), x ∈ R) (h : f_X12_now N x1 s0 = some (r, sr)) : Fm R s0 sr := by
  have hF : Fm R s0 s0 := Fm.rf
  unfold f_X12_now at h
  refine vl_m h (hF.sI (hL _ (by decide))) (fun s1 hF h => ?_)
  refine fm_X12_now_L9 (hLsub hL rfl) (fun v16 h => ?_) hF _ _ _ h
  refine e_ite h (fun _ h => ?_) (fun _ h => ?_)
  · refine ald_g h (fun v17 h => ?_)
    exact ret_mi h hF
  refine e_ite h (fun _ h => ?_) (fun _ h => ?_)
  · refine bp_g h (fun v18 h => ?_)
    exact ret_mi h hF
  refine e_ite h (fun _ h => ?_) (fun _ h => ?_)
  · refine ald_g h (fun v19 h => ?_)
    exact ret_mi h hF
  refine e_ite h (fun _ h => ?_) (fun _ h => ?_)
  · exact ret_mi h hF
  refine e_ite h (fun _ h => ?_) (fun _ h => ?_)
  · refine ald_g h (fun v20 h => ?_)
    exact ret_mi h hF
  refine e_ite h (fun _ h => ?_) (fun _ h => ?_)
  · refine bp_g h (fun v21 h => ?_)
    exact ret_mi h hF
  exact ret_mi h hF

set_option maxHeartbeats 4000000 in
theorem fm_X12_turns {R : List Nat} {N : Nat} {x1 : Int32} {x2 : Int32} {s0 : St} {sr : St} (hL : ∀ x ∈ ([] : List Nat), x ∈ R) (h : f_X12_turns N x1 x2 s0 = some sr) : Fm R s0 sr := by
  have hF : Fm R s0 s0 := Fm.rf
  unfold f_X12_turns at h
  refine ald_g h (fun v1 h => ?_)
  refine bp_g h (fun v2 h => ?_)
  refine rm_g h (fun v3 h => ?_)
  refine ald_m h (fun _ => Fm_aI (a := 208) hF (by decide)) (fun s4 hF h => ?_)
  exact ret_mv h hF

set_option maxHeartbeats 4000000 in
theorem fm_X12_sails {R : List Nat} {x1 : Int32} {s0 : St} {sr : St} (hL : ∀ x ∈ ([] : List Nat), x ∈ R) (h : f_X12_sails x1 s0 = some sr) : Fm R s0 sr := by
  have hF : Fm R s0 s0 := Fm.rf
  unfold f_X12_sails at h
  refine ald_g h (fun v1 h => ?_)
  refine ald_g h (fun v2 h => ?_)
  refine bp_g h (fun v3 h => ?_)
  refine vl_g h (fun v4 h => ?_)
  refine ald_g h (fun v5 h => ?_)
  refine ald_g h (fun v6 h => ?_)
  refine bp_g h (fun v7 h => ?_)
  refine vl_g h (fun v8 h => ?_)
  refine bp_g h (fun v9 h => ?_)
  refine jn_e (fun j => j = some sr → Fm R s0 sr) h ?_ (fun j10 hj10 h => ?_)
  · intro h
    refine ald_m h (fun _ => Fm_aI (a := 208) hF (by decide)) (fun s11 hF h => ?_)
    exact ret_mv h hF
  refine e_ite h (fun _ h => ?_) (fun _ h => ?_)
  · exact hj10 h
  refine bp_g h (fun v12 h => ?_)
  refine e_ite h (fun _ h => ?_) (fun _ h => ?_)
  · exact hj10 h
  refine ald_m h (fun _ => Fm_aI (a := 208) hF (by decide)) (fun s13 hF h => ?_)
  refine ald_m h (fun _ => Fm_aI (a := 208) hF (by decide)) (fun s14 hF h => ?_)
  exact ret_mv h hF

set_option maxHeartbeats 4000000 in
theorem fm_X12_second_L7 {R : List Nat} {N : Nat} {c2 : Int32} {k5 : St → Option (St)} {s0 : St} {sr : St} (hL : ∀ x ∈ ([] : List Nat), x ∈ R) (hk5 : ∀ (s6 : St), Fm R s0 s6 → k5 s6 = some sr → Fm R s0 sr)  : ∀ (n7 : Nat) (v3 : Int32) (s4 : St), Fm R s0 s4 → f_X12_second_L7 N c2 k5 n7 v3 s4 = some sr → Fm R s0 sr := by
  intro n7
  induction n7 with
  | zero =>
    intro v3 s4 hF h
    rw [f_X12_second_L7] at h; cases h
  | succ n7 ih8 =>
    intro v3 s4 hF h
    rw [f_X12_second_L7] at h
    refine ald_g h (fun v9 h => ?_)
    refine e_ite h (fun _ h => ?_) (fun _ h => ?_)
    · exact hk5 _ hF h
    refine ald_g h (fun v10 h => ?_)
    refine bp_g h (fun v11 h => ?_)
    refine jn_e (fun j => ∀ (v12 : Int32), j v12 = some sr → Fm R s0 sr) h ?_ (fun j13 hj13 h => ?_)
    · intro v12 h
      refine ald_m h (fun _ => Fm_aI (a := 208) hF (by decide)) (fun s14 hF h => ?_)
      refine vl_g h (fun v15 h => ?_)
      exact ih8 _ _ hF h
    refine e_ite h (fun _ h => ?_) (fun _ h => ?_)
    · exact hj13 _ h
    exact hj13 _ h

set_option maxHeartbeats 4000000 in
theorem fm_X12_second_L51 {R : List Nat} {N : Nat}  {k19 : St → Option (St)} {s0 : St} {sr : St} (hL : ∀ x ∈ ([] : List Nat), x ∈ R) (hk19 : ∀ (s20 : St), Fm R s0 s20 → k19 s20 = some sr → Fm R s0 sr)  : ∀ (n21 : Nat) (v17 : Int32) (s18 : St), Fm R s0 s18 → f_X12_second_L51 N k19 n21 v17 s18 = some sr → Fm R s0 sr := by
  intro n21
  induction n21 with
  | zero =>
    intro v17 s18 hF h
    rw [f_X12_second_L51] at h; cases h
  | succ n21 ih22 =>
    intro v17 s18 hF h
    rw [f_X12_second_L51] at h
    refine ald_g h (fun v23 h => ?_)
    refine e_ite h (fun _ h => ?_) (fun _ h => ?_)
    · exact hk19 _ hF h
    refine ald_g h (fun v24 h => ?_)
    refine ald_g h (fun v25 h => ?_)
    refine rm_g h (fun v26 h => ?_)
    refine jn_e (fun j => ∀ (s27 : St), Fm R s0 s27 → j s27 = some sr → Fm R s0 sr) h ?_ (fun j28 hj28 h => ?_)
    · intro s27 hF h
      refine vl_g h (fun v29 h => ?_)
      exact ih22 _ _ hF h
    refine e_ite h (fun _ h => ?_) (fun _ h => ?_)
    · obtain ⟨s30, hc, h⟩ := bp_e h
      have hF := hF.trans (fm_X12_sails (hLsub hL rfl) hc)
      exact hj28 _ hF h
    exact hj28 _ hF h

set_option maxHeartbeats 4000000 in
theorem fm_X12_second {R : List Nat} {N : Nat}  {s0 : St} {sr : St} (hL : ∀ x ∈ ([] : List Nat), x ∈ R) (h : f_X12_second N  s0 = some sr) : Fm R s0 sr := by
  have hF : Fm R s0 s0 := Fm.rf
  unfold f_X12_second at h
  refine bp_g h (fun v1 h => ?_)
  refine fm_X12_second_L7 (hLsub hL rfl) (fun s16 hF h => ?_) _ _ _ hF h
  refine fm_X12_second_L51 (hLsub hL rfl) (fun s31 hF h => ?_) _ _ _ hF h
  refine ald_g h (fun v32 h => ?_)
  refine ald_m h (fun _ => Fm_aI (a := 208) hF (by decide)) (fun s33 hF h => ?_)
  exact ret_mv h hF

set_option maxHeartbeats 4000000 in
theorem fm_X12_goesOn_L2 {R : List Nat} {N : Nat} {c1 : Int32}  {s0 : St} {r : Int32} {sr : St} (hL : ∀ x ∈ ([] : List Nat), x ∈ R)   : ∀ (n4 : Nat) (v2 : Int32) (s3 : St), Fm R s0 s3 → f_X12_goesOn_L2 N c1 n4 v2 s3 = some (r, sr) → Fm R s0 sr := by
  intro n4
  induction n4 with
  | zero =>
    intro v2 s3 hF h
    rw [f_X12_goesOn_L2] at h; cases h
  | succ n4 ih5 =>
    intro v2 s3 hF h
    rw [f_X12_goesOn_L2] at h
    refine e_ite h (fun _ h => ?_) (fun _ h => ?_)
    · exact ret_mi h hF
    refine ald_g h (fun v6 h => ?_)
    refine e_ite h (fun _ h => ?_) (fun _ h => ?_)
    · exact ret_mi h hF
    obtain ⟨s7, hc, h⟩ := bp_e h
    have hF := hF.trans (fm_X12_second (hLsub hL rfl) hc)
    refine vl_g h (fun v8 h => ?_)
    exact ih5 _ _ hF h

set_option maxHeartbeats 4000000 in
theorem fm_X12_goesOn {R : List Nat} {N : Nat} {x1 : Int32} {s0 : St} {r : Int32} {sr : St} (hL : ∀ x ∈ ([] : List Nat), x ∈ R) (h : f_X12_goesOn N x1 s0 = some (r, sr)) : Fm R s0 sr := by
  have hF : Fm R s0 s0 := Fm.rf
  unfold f_X12_goesOn at h
  exact fm_X12_goesOn_L2 (hLsub hL rfl)  _ _ _ hF h

set_option maxHeartbeats 4000000 in
theorem fm_X12_stores_L47 {R : List Nat} {N : Nat}  {k6 : St → Option (St)} {s0 : St} {sr : St} (hL : ∀ x ∈ ([] : List Nat), x ∈ R) (hk6 : ∀ (s7 : St), Fm R s0 s7 → k6 s7 = some sr → Fm R s0 sr)  : ∀ (n8 : Nat) (v4 : Int32) (s5 : St), Fm R s0 s5 → f_X12_stores_L47 N k6 n8 v4 s5 = some sr → Fm R s0 sr := by
  intro n8
  induction n8 with
  | zero =>
    intro v4 s5 hF h
    rw [f_X12_stores_L47] at h; cases h
  | succ n8 ih9 =>
    intro v4 s5 hF h
    rw [f_X12_stores_L47] at h
    refine e_ite h (fun _ h => ?_) (fun _ h => ?_)
    · exact hk6 _ hF h
    refine vl_g h (fun v10 h => ?_)
    refine ald_g h (fun v11 h => ?_)
    refine ald_m h (fun _ => Fm_aI (a := 213) hF (by decide)) (fun s12 hF h => ?_)
    refine vl_g h (fun v13 h => ?_)
    exact ih9 _ _ hF h

set_option maxHeartbeats 4000000 in
theorem fm_X12_stores_L11 {R : List Nat} {N : Nat}  {k19 : St → Option (St)} {s0 : St} {sr : St} (hL : ∀ x ∈ ([] : List Nat), x ∈ R) (hk19 : ∀ (s20 : St), Fm R s0 s20 → k19 s20 = some sr → Fm R s0 sr)  : ∀ (n21 : Nat) (v17 : Int32) (s18 : St), Fm R s0 s18 → f_X12_stores_L11 N k19 n21 v17 s18 = some sr → Fm R s0 sr := by
  intro n21
  induction n21 with
  | zero =>
    intro v17 s18 hF h
    rw [f_X12_stores_L11] at h; cases h
  | succ n21 ih22 =>
    intro v17 s18 hF h
    rw [f_X12_stores_L11] at h
    refine e_ite h (fun _ h => ?_) (fun _ h => ?_)
    · exact hk19 _ hF h
    refine ald_g h (fun v23 h => ?_)
    refine ald_m h (fun _ => Fm_aI (a := 213) hF (by decide)) (fun s24 hF h => ?_)
    refine vl_g h (fun v25 h => ?_)
    exact ih22 _ _ hF h

set_option maxHeartbeats 4000000 in
theorem fm_X12_stores {R : List Nat} {N : Nat}  {s0 : St} {sr : St} (hL : ∀ x ∈ ([24] : List Nat), x ∈ R) (h : f_X12_stores N  s0 = some sr) : Fm R s0 sr := by
  have hF : Fm R s0 s0 := Fm.rf
  unfold f_X12_stores at h
  refine vl_g h (fun v1 h => ?_)
  refine jn_e (fun j => ∀ (s2 : St), Fm R s0 s2 → j s2 = some sr → Fm R s0 sr) h ?_ (fun j3 hj3 h => ?_)
  · intro s2 hF h
    refine fm_X12_stores_L47 (hLsub hL rfl) (fun s14 hF h => ?_) _ _ _ hF h
    refine vl_g h (fun v15 h => ?_)
    refine vl_m h (hF.sI (hL _ (by decide))) (fun s16 hF h => ?_)
    exact ret_mv h hF
  refine e_ite h (fun _ h => ?_) (fun _ h => ?_)
  · refine fm_X12_stores_L11 (hLsub hL rfl) (fun s26 hF h => ?_) _ _ _ hF h
    refine vl_m h (hF.sI (hL _ (by decide))) (fun s27 hF h => ?_)
    exact hj3 _ hF h
  exact hj3 _ hF h

set_option maxHeartbeats 4000000 in
theorem fm_X12_undo_L26 {R : List Nat} {N : Nat}  {k7 : St → Option (Int32 × St)} {s0 : St} {r : Int32} {sr : St} (hL : ∀ x ∈ ([] : List Nat), x ∈ R) (hk7 : ∀ (s8 : St), Fm R s0 s8 → k7 s8 = some (r, sr) → Fm R s0 sr)  : ∀ (n9 : Nat) (v5 : Int32) (s6 : St), Fm R s0 s6 → f_X12_undo_L26 N k7 n9 v5 s6 = some (r, sr) → Fm R s0 sr := by
  intro n9
  induction n9 with
  | zero =>
    intro v5 s6 hF h
    rw [f_X12_undo_L26] at h; cases h
  | succ n9 ih10 =>
    intro v5 s6 hF h
    rw [f_X12_undo_L26] at h
    refine e_ite h (fun _ h => ?_) (fun _ h => ?_)
    · exact hk7 _ hF h
    refine vl_g h (fun v11 h => ?_)
    refine ald_g h (fun v12 h => ?_)
    refine ald_m h (fun _ => Fm_aI (a := 208) hF (by decide)) (fun s13 hF h => ?_)
    refine vl_g h (fun v14 h => ?_)
    exact ih10 _ _ hF h

set_option maxHeartbeats 4000000 in
theorem fm_X12_undo {R : List Nat} {N : Nat}  {s0 : St} {r : Int32} {sr : St} (hL : ∀ x ∈ ([0, 24] : List Nat), x ∈ R) (h : f_X12_undo N  s0 = some (r, sr)) : Fm R s0 sr := by
  have hF : Fm R s0 s0 := Fm.rf
  unfold f_X12_undo at h
  refine vl_m h (hF.sI (hL _ (by decide))) (fun s1 hF h => ?_)
  refine vl_g h (fun v2 h => ?_)
  refine e_ite h (fun _ h => ?_) (fun _ h => ?_)
  · exact ret_mi h hF
  refine vl_g h (fun v3 h => ?_)
  refine vl_m h (hF.sI (hL _ (by decide))) (fun s4 hF h => ?_)
  refine fm_X12_undo_L26 (hLsub hL rfl) (fun s15 hF h => ?_) _ _ _ hF h
  refine vl_g h (fun v16 h => ?_)
  exact ret_mi h hF

set_option maxHeartbeats 4000000 in
theorem fm_X12_tries_L2 {R : List Nat} {N : Nat}   {s0 : St} {sr : St} (hL : ∀ x ∈ ([] : List Nat), x ∈ R)   : ∀ (n3 : Nat) (v1 : Int32) (s2 : St), Fm R s0 s2 → f_X12_tries_L2 N n3 v1 s2 = some sr → Fm R s0 sr := by
  intro n3
  induction n3 with
  | zero =>
    intro v1 s2 hF h
    rw [f_X12_tries_L2] at h; cases h
  | succ n3 ih4 =>
    intro v1 s2 hF h
    rw [f_X12_tries_L2] at h
    refine e_ite h (fun _ h => ?_) (fun _ h => ?_)
    · exact ret_mv h hF
    refine ald_g h (fun v5 h => ?_)
    refine ald_m h (fun _ => Fm_aI (a := 214) hF (by decide)) (fun s6 hF h => ?_)
    refine vl_g h (fun v7 h => ?_)
    exact ih4 _ _ hF h

set_option maxHeartbeats 4000000 in
theorem fm_X12_tries {R : List Nat} {N : Nat}  {s0 : St} {sr : St} (hL : ∀ x ∈ ([] : List Nat), x ∈ R) (h : f_X12_tries N  s0 = some sr) : Fm R s0 sr := by
  have hF : Fm R s0 s0 := Fm.rf
  unfold f_X12_tries at h
  exact fm_X12_tries_L2 (hLsub hL rfl)  _ _ _ hF h

set_option maxHeartbeats 4000000 in
theorem fm_X12_back_L2 {R : List Nat} {N : Nat}   {s0 : St} {sr : St} (hL : ∀ x ∈ ([] : List Nat), x ∈ R)   : ∀ (n3 : Nat) (v1 : Int32) (s2 : St), Fm R s0 s2 → f_X12_back_L2 N n3 v1 s2 = some sr → Fm R s0 sr := by
  intro n3
  induction n3 with
  | zero =>
    intro v1 s2 hF h
    rw [f_X12_back_L2] at h; cases h
  | succ n3 ih4 =>
    intro v1 s2 hF h
    rw [f_X12_back_L2] at h
    refine e_ite h (fun _ h => ?_) (fun _ h => ?_)
    · exact ret_mv h hF
    refine ald_g h (fun v5 h => ?_)
    refine ald_m h (fun _ => Fm_aI (a := 208) hF (by decide)) (fun s6 hF h => ?_)
    refine vl_g h (fun v7 h => ?_)
    exact ih4 _ _ hF h

set_option maxHeartbeats 4000000 in
theorem fm_X12_back {R : List Nat} {N : Nat}  {s0 : St} {sr : St} (hL : ∀ x ∈ ([] : List Nat), x ∈ R) (h : f_X12_back N  s0 = some sr) : Fm R s0 sr := by
  have hF : Fm R s0 s0 := Fm.rf
  unfold f_X12_back at h
  exact fm_X12_back_L2 (hLsub hL rfl)  _ _ _ hF h

set_option maxHeartbeats 4000000 in
theorem fm_X12_laysPairs_L23 {R : List Nat} {N : Nat} {c9 : Int32} {k12 : Int32 → St → Option (Int32 × St)} {s0 : St} {r : Int32} {sr : St} (hL : ∀ x ∈ ([] : List Nat), x ∈ R) (hk12 : ∀ (v13 : Int32) (s14 : St), Fm R s0 s14 → k12 v13 s14 = some (r, sr) → Fm R s0 sr)  : ∀ (n15 : Nat) (v8 : Int32) (v10 : Int32) (s11 : St), Fm R s0 s11 → f_X12_laysPairs_L23 N c9 k12 n15 v8 v10 s11 = some (r, sr) → Fm R s0 sr := by
  intro n15
  induction n15 with
  | zero =>
    intro v8 v10 s11 hF h
    rw [f_X12_laysPairs_L23] at h; cases h
  | succ n15 ih16 =>
    intro v8 v10 s11 hF h
    rw [f_X12_laysPairs_L23] at h
    refine e_ite h (fun _ h => ?_) (fun _ h => ?_)
    · exact hk12 _ _ hF h
    refine bp_g h (fun v17 h => ?_)
    refine jn_e (fun j => ∀ (v18 : Int32) (s19 : St), Fm R s0 s19 → j v18 s19 = some (r, sr) → Fm R s0 sr) h ?_ (fun j20 hj20 h => ?_)
    · intro v18 s19 hF h
      refine vl_g h (fun v21 h => ?_)
      exact ih16 _ _ _ hF h
    refine e_ite h (fun _ h => ?_) (fun _ h => ?_)
    · exact hj20 _ _ hF h
    refine bp_g h (fun v22 h => ?_)
    refine e_ite h (fun _ h => ?_) (fun _ h => ?_)
    · exact hj20 _ _ hF h
    refine ald_g h (fun v23 h => ?_)
    refine ald_m h (fun _ => Fm_aI (a := 215) hF (by decide)) (fun s24 hF h => ?_)
    refine vl_g h (fun v25 h => ?_)
    exact hj20 _ _ hF h

set_option maxHeartbeats 4000000 in
theorem fm_X12_laysPairs_L4 {R : List Nat} {N : Nat}   {s0 : St} {r : Int32} {sr : St} (hL : ∀ x ∈ ([] : List Nat), x ∈ R)   : ∀ (n4 : Nat) (v1 : Int32) (v2 : Int32) (s3 : St), Fm R s0 s3 → f_X12_laysPairs_L4 N n4 v1 v2 s3 = some (r, sr) → Fm R s0 sr := by
  intro n4
  induction n4 with
  | zero =>
    intro v1 v2 s3 hF h
    rw [f_X12_laysPairs_L4] at h; cases h
  | succ n4 ih5 =>
    intro v1 v2 s3 hF h
    rw [f_X12_laysPairs_L4] at h
    refine ald_g h (fun v6 h => ?_)
    refine e_ite h (fun _ h => ?_) (fun _ h => ?_)
    · exact ret_mi h hF
    refine ald_m h (fun _ => Fm_aI (a := 215) hF (by decide)) (fun s7 hF h => ?_)
    refine fm_X12_laysPairs_L23 (hLsub hL rfl) (fun v26 s27 hF h => ?_) _ _ _ _ hF h
    refine vl_g h (fun v28 h => ?_)
    exact ih5 _ _ _ hF h

set_option maxHeartbeats 4000000 in
theorem fm_X12_laysPairs {R : List Nat} {N : Nat}  {s0 : St} {r : Int32} {sr : St} (hL : ∀ x ∈ ([] : List Nat), x ∈ R) (h : f_X12_laysPairs N  s0 = some (r, sr)) : Fm R s0 sr := by
  have hF : Fm R s0 s0 := Fm.rf
  unfold f_X12_laysPairs at h
  exact fm_X12_laysPairs_L4 (hLsub hL rfl)  _ _ _ _ hF h

set_option maxHeartbeats 4000000 in
theorem fm_X12_confused {R : List Nat} {N : Nat}  {s0 : St} {r : Int32} {sr : St} (hL : ∀ x ∈ ([0] : List Nat), x ∈ R) (h : f_X12_confused N  s0 = some (r, sr)) : Fm R s0 sr := by
  have hF : Fm R s0 s0 := Fm.rf
  unfold f_X12_confused at h
  refine vl_m h (hF.sI (hL _ (by decide))) (fun s1 hF h => ?_)
  obtain ⟨v2, s3, hc, h⟩ := bd_e h
  have hF := hF.trans (fm_X12_laysPairs (hLsub hL rfl) hc)
  exact ret_mi h hF

set_option maxHeartbeats 4000000 in
theorem fm_X12_change_L47 {R : List Nat} {N : Nat} {c17 : Int32} {c18 : Int32} {s21 : St} {k22 : Int32 → Option (Int32 × St)} {s0 : St} {r : Int32} {sr : St} (hL : ∀ x ∈ ([] : List Nat), x ∈ R) (hk22 : ∀ (v23 : Int32), k22 v23 = some (r, sr) → Fm R s0 sr) (hF : Fm R s0 s21) : ∀ (n24 : Nat) (v19 : Int32) (v20 : Int32), f_X12_change_L47 N c17 c18 s21 k22 n24 v19 v20 = some (r, sr) → Fm R s0 sr := by
  intro n24
  induction n24 with
  | zero =>
    intro v19 v20 h
    rw [f_X12_change_L47] at h; cases h
  | succ n24 ih25 =>
    intro v19 v20 h
    rw [f_X12_change_L47] at h
    refine ald_g h (fun v26 h => ?_)
    refine e_ite h (fun _ h => ?_) (fun _ h => ?_)
    · exact hk22 _ h
    refine e_ite h (fun _ h => ?_) (fun _ h => ?_)
    · exact hk22 _ h
    refine bp_g h (fun v27 h => ?_)
    refine jn_e (fun j => ∀ (v28 : Int32), j v28 = some (r, sr) → Fm R s0 sr) h ?_ (fun j29 hj29 h => ?_)
    · intro v28 h
      refine vl_g h (fun v30 h => ?_)
      exact ih25 _ _ h
    refine jn_e (fun j => j = some (r, sr) → Fm R s0 sr) h ?_ (fun j31 hj31 h => ?_)
    · intro h
      exact hj29 _ h
    refine e_ite h (fun _ h => ?_) (fun _ h => ?_)
    · refine ald_g h (fun v32 h => ?_)
      refine e_ite h (fun _ h => ?_) (fun _ h => ?_)
      · exact hj31 h
      exact hj29 _ h
    exact hj31 h

set_option maxHeartbeats 4000000 in
theorem fm_X12_change_L23 {R : List Nat} {N : Nat}  {s8 : St} {k9 : Int32 → Option (Int32 × St)} {s0 : St} {r : Int32} {sr : St} (hL : ∀ x ∈ ([] : List Nat), x ∈ R) (hk9 : ∀ (v10 : Int32), k9 v10 = some (r, sr) → Fm R s0 sr) (hF : Fm R s0 s8) : ∀ (n11 : Nat) (v6 : Int32) (v7 : Int32), f_X12_change_L23 N s8 k9 n11 v6 v7 = some (r, sr) → Fm R s0 sr := by
  intro n11
  induction n11 with
  | zero =>
    intro v6 v7 h
    rw [f_X12_change_L23] at h; cases h
  | succ n11 ih12 =>
    intro v6 v7 h
    rw [f_X12_change_L23] at h
    refine e_ite h (fun _ h => ?_) (fun _ h => ?_)
    · exact hk9 _ h
    refine bp_g h (fun v13 h => ?_)
    refine bp_g h (fun v14 h => ?_)
    refine jn_e (fun j => ∀ (v15 : Int32), j v15 = some (r, sr) → Fm R s0 sr) h ?_ (fun j16 hj16 h => ?_)
    · intro v15 h
      refine fm_X12_change_L47 (hLsub hL rfl) (fun v33 h => ?_) hF _ _ _ h
      refine jn_e (fun j => ∀ (v34 : Int32), j v34 = some (r, sr) → Fm R s0 sr) h ?_ (fun j35 hj35 h => ?_)
      · intro v34 h
        refine vl_g h (fun v36 h => ?_)
        exact ih12 _ _ h
      refine e_ite h (fun _ h => ?_) (fun _ h => ?_)
      · exact hj35 _ h
      exact hj35 _ h
    refine e_ite h (fun _ h => ?_) (fun _ h => ?_)
    · exact hj16 _ h
    exact hj16 _ h

set_option maxHeartbeats 4000000 in
theorem fm_X12_change {R : List Nat} {N : Nat}  {s0 : St} {r : Int32} {sr : St} (hL : ∀ x ∈ ([0, 26, 27] : List Nat), x ∈ R) (h : f_X12_change N  s0 = some (r, sr)) : Fm R s0 sr := by
  have hF : Fm R s0 s0 := Fm.rf
  unfold f_X12_change at h
  refine vl_m h (hF.sI (hL _ (by decide))) (fun s1 hF h => ?_)
  obtain ⟨v2, s3, hc, h⟩ := bd_e h
  have hF := hF.trans (fm_X12_laysPairs (hLsub hL rfl) hc)
  refine ald_g h (fun v4 h => ?_)
  refine vl_g h (fun v5 h => ?_)
  refine fm_X12_change_L23 (hLsub hL rfl) (fun v37 h => ?_) hF _ _ _ h
  refine vl_m h (hF.sI (hL _ (by decide))) (fun s38 hF h => ?_)
  refine vl_m h (hF.sI (hL _ (by decide))) (fun s39 hF h => ?_)
  refine bp_g h (fun v40 h => ?_)
  exact ret_mi h hF

set_option maxHeartbeats 4000000 in
theorem fm_X12_changes {R : List Nat}  {s0 : St} {r : Int32} {sr : St} (hL : ∀ x ∈ ([0] : List Nat), x ∈ R) (h : f_X12_changes  s0 = some (r, sr)) : Fm R s0 sr := by
  have hF : Fm R s0 s0 := Fm.rf
  unfold f_X12_changes at h
  refine vl_m h (hF.sI (hL _ (by decide))) (fun s1 hF h => ?_)
  refine vl_g h (fun v2 h => ?_)
  refine e_ite h (fun _ h => ?_) (fun _ h => ?_)
  · exact ret_mi h hF
  refine vl_g h (fun v3 h => ?_)
  exact ret_mi h hF

set_option maxHeartbeats 4000000 in
theorem fm_X12_apart_L32 {R : List Nat} {N : Nat} {c5 : Int32} {c6 : Int32} {c7 : Int32} {k10 : St → Option (Int32 × St)} {s0 : St} {r : Int32} {sr : St} (hL : ∀ x ∈ ([] : List Nat), x ∈ R) (hk10 : ∀ (s11 : St), Fm R s0 s11 → k10 s11 = some (r, sr) → Fm R s0 sr)  : ∀ (n12 : Nat) (v8 : Int32) (s9 : St), Fm R s0 s9 → f_X12_apart_L32 N c5 c6 c7 k10 n12 v8 s9 = some (r, sr) → Fm R s0 sr := by
  intro n12
  induction n12 with
  | zero =>
    intro v8 s9 hF h
    rw [f_X12_apart_L32] at h; cases h
  | succ n12 ih13 =>
    intro v8 s9 hF h
    rw [f_X12_apart_L32] at h
    refine e_ite h (fun _ h => ?_) (fun _ h => ?_)
    · exact hk10 _ hF h
    refine ald_m h (fun _ => Fm_aI (a := 216) hF (by decide)) (fun s14 hF h => ?_)
    refine vl_g h (fun v15 h => ?_)
    exact ih13 _ _ hF h

set_option maxHeartbeats 4000000 in
theorem fm_X12_apart_L85 {R : List Nat} {N : Nat} {c26 : Int32} {c27 : Int32} {c28 : Int32} {c29 : Int32} {c30 : Int32} {k34 : Int32 → St → Option (Int32 × St)} {s0 : St} {r : Int32} {sr : St} (hL : ∀ x ∈ ([] : List Nat), x ∈ R) (hk34 : ∀ (v35 : Int32) (s36 : St), Fm R s0 s36 → k34 v35 s36 = some (r, sr) → Fm R s0 sr)  : ∀ (n37 : Nat) (v31 : Int32) (v32 : Int32) (s33 : St), Fm R s0 s33 → f_X12_apart_L85 N c26 c27 c28 c29 c30 k34 n37 v31 v32 s33 = some (r, sr) → Fm R s0 sr := by
  intro n37
  induction n37 with
  | zero =>
    intro v31 v32 s33 hF h
    rw [f_X12_apart_L85] at h; cases h
  | succ n37 ih38 =>
    intro v31 v32 s33 hF h
    rw [f_X12_apart_L85] at h
    refine e_ite h (fun _ h => ?_) (fun _ h => ?_)
    · exact hk34 _ _ hF h
    refine ald_g h (fun v39 h => ?_)
    refine jn_e (fun j => ∀ (v40 : Int32), j v40 = some (r, sr) → Fm R s0 sr) h ?_ (fun j41 hj41 h => ?_)
    · intro v40 h
      refine ald_m h (fun _ => Fm_aI (a := 216) hF (by decide)) (fun s42 hF h => ?_)
      refine jn_e (fun j => ∀ (v43 : Int32), j v43 = some (r, sr) → Fm R s0 sr) h ?_ (fun j44 hj44 h => ?_)
      · intro v43 h
        refine vl_g h (fun v45 h => ?_)
        exact ih38 _ _ _ hF h
      refine jn_e (fun j => j = some (r, sr) → Fm R s0 sr) h ?_ (fun j46 hj46 h => ?_)
      · intro h
        exact hj44 _ h
      refine e_ite h (fun _ h => ?_) (fun _ h => ?_)
      · refine ald_g h (fun v47 h => ?_)
        refine e_ite h (fun _ h => ?_) (fun _ h => ?_)
        · exact hj44 _ h
        exact hj46 h
      exact hj46 h
    refine jn_e (fun j => j = some (r, sr) → Fm R s0 sr) h ?_ (fun j48 hj48 h => ?_)
    · intro h
      exact hj41 _ h
    refine e_ite h (fun _ h => ?_) (fun _ h => ?_)
    · exact hj48 h
    refine bp_g h (fun v49 h => ?_)
    refine e_ite h (fun _ h => ?_) (fun _ h => ?_)
    · exact hj41 _ h
    exact hj48 h

set_option maxHeartbeats 4000000 in
theorem fm_X12_apart_L55 {R : List Nat} {N : Nat} {c17 : Int32} {c18 : Int32} {c19 : Int32}  {s0 : St} {r : Int32} {sr : St} (hL : ∀ x ∈ ([] : List Nat), x ∈ R)   : ∀ (n22 : Nat) (v20 : Int32) (s21 : St), Fm R s0 s21 → f_X12_apart_L55 N c17 c18 c19 n22 v20 s21 = some (r, sr) → Fm R s0 sr := by
  intro n22
  induction n22 with
  | zero =>
    intro v20 s21 hF h
    rw [f_X12_apart_L55] at h; cases h
  | succ n22 ih23 =>
    intro v20 s21 hF h
    rw [f_X12_apart_L55] at h
    refine e_ite h (fun _ h => ?_) (fun _ h => ?_)
    · exact ret_mi h hF
    refine bp_g h (fun v24 h => ?_)
    refine bp_g h (fun v25 h => ?_)
    refine fm_X12_apart_L85 (hLsub hL rfl) (fun v50 s51 hF h => ?_) _ _ _ _ hF h
    refine e_ite h (fun _ h => ?_) (fun _ h => ?_)
    · exact ret_mi h hF
    refine vl_g h (fun v52 h => ?_)
    exact ih23 _ _ hF h

set_option maxHeartbeats 4000000 in
theorem fm_X12_apart {R : List Nat} {N : Nat} {x1 : Int32} {x2 : Int32} {s0 : St} {r : Int32} {sr : St} (hL : ∀ x ∈ ([0] : List Nat), x ∈ R) (h : f_X12_apart N x1 x2 s0 = some (r, sr)) : Fm R s0 sr := by
  have hF : Fm R s0 s0 := Fm.rf
  unfold f_X12_apart at h
  refine vl_m h (hF.sI (hL _ (by decide))) (fun s1 hF h => ?_)
  refine bp_g h (fun v2 h => ?_)
  refine e_ite h (fun _ h => ?_) (fun _ h => ?_)
  · exact ret_mi h hF
  refine bp_g h (fun v3 h => ?_)
  refine e_ite h (fun _ h => ?_) (fun _ h => ?_)
  · exact ret_mi h hF
  refine bp_g h (fun v4 h => ?_)
  refine fm_X12_apart_L32 (hLsub hL rfl) (fun s16 hF h => ?_) _ _ _ hF h
  exact fm_X12_apart_L55 (hLsub hL rfl)  _ _ _ hF h

set_option maxHeartbeats 4000000 in
theorem fm_X12_both_L25 {R : List Nat} {N : Nat} {c4 : Int32} {c5 : Int32} {s7 : St}  {s0 : St} {r : Int32} {sr : St} (hL : ∀ x ∈ ([] : List Nat), x ∈ R)  (hF : Fm R s0 s7) : ∀ (n8 : Nat) (v6 : Int32), f_X12_both_L25 N c4 c5 s7 n8 v6 = some (r, sr) → Fm R s0 sr := by
  intro n8
  induction n8 with
  | zero =>
    intro v6 h
    rw [f_X12_both_L25] at h; cases h
  | succ n8 ih9 =>
    intro v6 h
    rw [f_X12_both_L25] at h
    refine e_ite h (fun _ h => ?_) (fun _ h => ?_)
    · exact ret_mi h hF
    refine bp_g h (fun v10 h => ?_)
    refine bp_g h (fun v11 h => ?_)
    refine jn_e (fun j => j = some (r, sr) → Fm R s0 sr) h ?_ (fun j12 hj12 h => ?_)
    · intro h
      refine vl_g h (fun v13 h => ?_)
      exact ih9 _ h
    refine e_ite h (fun _ h => ?_) (fun _ h => ?_)
    · exact hj12 h
    refine bp_g h (fun v14 h => ?_)
    refine bp_g h (fun v15 h => ?_)
    refine e_ite h (fun _ h => ?_) (fun _ h => ?_)
    · exact hj12 h
    exact ret_mi h hF

set_option maxHeartbeats 4000000 in
theorem fm_X12_both {R : List Nat} {N : Nat} {x1 : Int32} {x2 : Int32} {s0 : St} {r : Int32} {sr : St} (hL : ∀ x ∈ ([0] : List Nat), x ∈ R) (h : f_X12_both N x1 x2 s0 = some (r, sr)) : Fm R s0 sr := by
  have hF : Fm R s0 s0 := Fm.rf
  unfold f_X12_both at h
  refine vl_m h (hF.sI (hL _ (by decide))) (fun s1 hF h => ?_)
  refine bp_g h (fun v2 h => ?_)
  refine e_ite h (fun _ h => ?_) (fun _ h => ?_)
  · exact ret_mi h hF
  refine bp_g h (fun v3 h => ?_)
  refine e_ite h (fun _ h => ?_) (fun _ h => ?_)
  · exact ret_mi h hF
  exact fm_X12_both_L25 (hLsub hL rfl)  hF _ _ h

set_option maxHeartbeats 4000000 in
theorem fm_X12_fits_L29 {R : List Nat} {N : Nat}  {s6 : St} {k7 : Option (Int32 × St)} {s0 : St} {r : Int32} {sr : St} (hL : ∀ x ∈ ([] : List Nat), x ∈ R) (hk7 : k7 = some (r, sr) → Fm R s0 sr) (hF : Fm R s0 s6) : ∀ (n8 : Nat) (v5 : Int32), f_X12_fits_L29 N s6 k7 n8 v5 = some (r, sr) → Fm R s0 sr := by
  intro n8
  induction n8 with
  | zero =>
    intro v5 h
    rw [f_X12_fits_L29] at h; cases h
  | succ n8 ih9 =>
    intro v5 h
    rw [f_X12_fits_L29] at h
    refine vl_g h (fun v10 h => ?_)
    refine e_ite h (fun _ h => ?_) (fun _ h => ?_)
    · exact hk7 h
    refine bp_g h (fun v11 h => ?_)
    refine e_ite h (fun _ h => ?_) (fun _ h => ?_)
    · refine vl_g h (fun v12 h => ?_)
      exact ih9 _ h
    exact ret_mi h hF

set_option maxHeartbeats 4000000 in
theorem fm_X12_fits_L58 {R : List Nat} {N : Nat}  {s15 : St} {k16 : Int32 → Option (Int32 × St)} {s0 : St} {r : Int32} {sr : St} (hL : ∀ x ∈ ([] : List Nat), x ∈ R) (hk16 : ∀ (v17 : Int32), k16 v17 = some (r, sr) → Fm R s0 sr) (hF : Fm R s0 s15) : ∀ (n18 : Nat) (v13 : Int32) (v14 : Int32), f_X12_fits_L58 N s15 k16 n18 v13 v14 = some (r, sr) → Fm R s0 sr := by
  intro n18
  induction n18 with
  | zero =>
    intro v13 v14 h
    rw [f_X12_fits_L58] at h; cases h
  | succ n18 ih19 =>
    intro v13 v14 h
    rw [f_X12_fits_L58] at h
    refine ald_g h (fun v20 h => ?_)
    refine e_ite h (fun _ h => ?_) (fun _ h => ?_)
    · exact hk16 _ h
    refine bp_g h (fun v21 h => ?_)
    refine jn_e (fun j => ∀ (v22 : Int32), j v22 = some (r, sr) → Fm R s0 sr) h ?_ (fun j23 hj23 h => ?_)
    · intro v22 h
      refine vl_g h (fun v24 h => ?_)
      refine vl_g h (fun v25 h => ?_)
      exact ih19 _ _ h
    refine e_ite h (fun _ h => ?_) (fun _ h => ?_)
    · exact hj23 _ h
    exact hj23 _ h

set_option maxHeartbeats 4000000 in
theorem fm_X12_fits_L115 {R : List Nat} {N : Nat} {c30 : Int32} {k33 : St → Option (Int32 × St)} {s0 : St} {r : Int32} {sr : St} (hL : ∀ x ∈ ([] : List Nat), x ∈ R) (hk33 : ∀ (s34 : St), Fm R s0 s34 → k33 s34 = some (r, sr) → Fm R s0 sr)  : ∀ (n35 : Nat) (v31 : Int32) (s32 : St), Fm R s0 s32 → f_X12_fits_L115 N c30 k33 n35 v31 s32 = some (r, sr) → Fm R s0 sr := by
  intro n35
  induction n35 with
  | zero =>
    intro v31 s32 hF h
    rw [f_X12_fits_L115] at h; cases h
  | succ n35 ih36 =>
    intro v31 s32 hF h
    rw [f_X12_fits_L115] at h
    refine ald_g h (fun v37 h => ?_)
    refine e_ite h (fun _ h => ?_) (fun _ h => ?_)
    · exact hk33 _ hF h
    refine bp_g h (fun v38 h => ?_)
    refine ald_m h (fun _ => Fm_aI (a := 217) hF (by decide)) (fun s39 hF h => ?_)
    refine vl_g h (fun v40 h => ?_)
    exact ih36 _ _ hF h

set_option maxHeartbeats 4000000 in
theorem fm_X12_fits_L149 {R : List Nat} {N : Nat} {c43 : Int32}  {s0 : St} {r : Int32} {sr : St} (hL : ∀ x ∈ ([32] : List Nat), x ∈ R)   : ∀ (n46 : Nat) (v44 : Int32) (s45 : St), Fm R s0 s45 → f_X12_fits_L149 N c43 n46 v44 s45 = some (r, sr) → Fm R s0 sr := by
  intro n46
  induction n46 with
  | zero =>
    intro v44 s45 hF h
    rw [f_X12_fits_L149] at h; cases h
  | succ n46 ih47 =>
    intro v44 s45 hF h
    rw [f_X12_fits_L149] at h
    refine e_ite h (fun _ h => ?_) (fun _ h => ?_)
    · exact ret_mi h hF
    refine vl_g h (fun v48 h => ?_)
    refine bp_g h (fun v49 h => ?_)
    refine vl_g h (fun v50 h => ?_)
    refine vl_g h (fun v51 h => ?_)
    refine bp_g h (fun v52 h => ?_)
    refine jn_e (fun j => ∀ (s53 : St), Fm R s0 s53 → j s53 = some (r, sr) → Fm R s0 sr) h ?_ (fun j54 hj54 h => ?_)
    · intro s53 hF h
      refine vl_g h (fun v55 h => ?_)
      exact ih47 _ _ hF h
    refine e_ite h (fun _ h => ?_) (fun _ h => ?_)
    · exact hj54 _ hF h
    refine vl_m h (hF.sI (hL _ (by decide))) (fun s56 hF h => ?_)
    exact hj54 _ hF h

set_option maxHeartbeats 4000000 in
theorem fm_X12_fits {R : List Nat} {N : Nat}  {s0 : St} {r : Int32} {sr : St} (hL : ∀ x ∈ ([0, 2, 3, 4, 5, 30, 31, 32] : List Nat), x ∈ R) (h : f_X12_fits N  s0 = some (r, sr)) : Fm R s0 sr := by
  have hF : Fm R s0 s0 := Fm.rf
  unfold f_X12_fits at h
  refine vl_m h (hF.sI (hL _ (by decide))) (fun s1 hF h => ?_)
  obtain ⟨s2, hc, h⟩ := bp_e h
  have hF := hF.trans (fm_X12_taken (hLsub hL rfl) hc)
  refine vl_g h (fun v3 h => ?_)
  refine bp_g h (fun v4 h => ?_)
  refine e_ite h (fun _ h => ?_) (fun _ h => ?_)
  · exact ret_mi h hF
  refine fm_X12_fits_L29 (hLsub hL rfl) (fun h => ?_) hF _ _ h
  refine fm_X12_fits_L58 (hLsub hL rfl) (fun v26 h => ?_) hF _ _ _ h
  refine e_ite h (fun _ h => ?_) (fun _ h => ?_)
  · exact ret_mi h hF
  refine vl_m h (hF.sI (hL _ (by decide))) (fun s27 hF h => ?_)
  refine ald_g h (fun v28 h => ?_)
  refine vl_m h (hF.sI (hL _ (by decide))) (fun s29 hF h => ?_)
  refine fm_X12_fits_L115 (hLsub hL rfl) (fun s41 hF h => ?_) _ _ _ hF h
  refine vl_m h (hF.sI (hL _ (by decide))) (fun s42 hF h => ?_)
  exact fm_X12_fits_L149 (hLsub hL rfl)  _ _ _ hF h

set_option maxHeartbeats 4000000 in
theorem fm_X12_fitsAt {R : List Nat} {x1 : Int32} {s0 : St} {r : Int32} {sr : St} (hL : ∀ x ∈ ([0] : List Nat), x ∈ R) (h : f_X12_fitsAt x1 s0 = some (r, sr)) : Fm R s0 sr := by
  have hF : Fm R s0 s0 := Fm.rf
  unfold f_X12_fitsAt at h
  refine vl_m h (hF.sI (hL _ (by decide))) (fun s1 hF h => ?_)
  refine vl_g h (fun v2 h => ?_)
  refine bp_g h (fun v3 h => ?_)
  refine e_ite h (fun _ h => ?_) (fun _ h => ?_)
  · exact ret_mi h hF
  refine ald_g h (fun v4 h => ?_)
  exact ret_mi h hF

set_option maxHeartbeats 4000000 in
theorem fm_X12_ask {R : List Nat}  {s0 : St} {r : Int32} {sr : St} (hL : ∀ x ∈ ([0] : List Nat), x ∈ R) (h : f_X12_ask  s0 = some (r, sr)) : Fm R s0 sr := by
  have hF : Fm R s0 s0 := Fm.rf
  unfold f_X12_ask at h
  refine vl_m h (hF.sI (hL _ (by decide))) (fun s1 hF h => ?_)
  refine vl_g h (fun v2 h => ?_)
  refine e_ite h (fun _ h => ?_) (fun _ h => ?_)
  · exact ret_mi h hF
  refine vl_g h (fun v3 h => ?_)
  exact ret_mi h hF

set_option maxHeartbeats 4000000 in
theorem fm_X12_spots_L34 {R : List Nat} {N : Nat} {c4 : Int32} {s8 : St} {k9 : Int32 → Int32 → Option (Int32 × St)} {s0 : St} {r : Int32} {sr : St} (hL : ∀ x ∈ ([] : List Nat), x ∈ R) (hk9 : ∀ (v10 : Int32) (v11 : Int32), k9 v10 v11 = some (r, sr) → Fm R s0 sr) (hF : Fm R s0 s8) : ∀ (n12 : Nat) (v5 : Int32) (v6 : Int32) (v7 : Int32), f_X12_spots_L34 N c4 s8 k9 n12 v5 v6 v7 = some (r, sr) → Fm R s0 sr := by
  intro n12
  induction n12 with
  | zero =>
    intro v5 v6 v7 h
    rw [f_X12_spots_L34] at h; cases h
  | succ n12 ih13 =>
    intro v5 v6 v7 h
    rw [f_X12_spots_L34] at h
    refine e_ite h (fun _ h => ?_) (fun _ h => ?_)
    · exact hk9 _ _ h
    refine rm_g h (fun v14 h => ?_)
    refine dv_g h (fun v15 h => ?_)
    refine ald_g h (fun v16 h => ?_)
    refine bp_g h (fun v17 h => ?_)
    refine jn_e (fun j => ∀ (v18 : Int32) (v19 : Int32), j v18 v19 = some (r, sr) → Fm R s0 sr) h ?_ (fun j20 hj20 h => ?_)
    · intro v18 v19 h
      refine vl_g h (fun v21 h => ?_)
      exact ih13 _ _ _ h
    refine e_ite h (fun _ h => ?_) (fun _ h => ?_)
    · refine vl_g h (fun v22 h => ?_)
      exact hj20 _ _ h
    exact hj20 _ _ h

set_option maxHeartbeats 4000000 in
theorem fm_X12_spots {R : List Nat} {N : Nat} {x1 : Int32} {s0 : St} {r : Int32} {sr : St} (hL : ∀ x ∈ ([0, 33, 35] : List Nat), x ∈ R) (h : f_X12_spots N x1 s0 = some (r, sr)) : Fm R s0 sr := by
  have hF : Fm R s0 s0 := Fm.rf
  unfold f_X12_spots at h
  refine vl_m h (hF.sI (hL _ (by decide))) (fun s1 hF h => ?_)
  refine ald_g h (fun v2 h => ?_)
  refine bp_g h (fun v3 h => ?_)
  refine e_ite h (fun _ h => ?_) (fun _ h => ?_)
  · exact ret_mi h hF
  refine fm_X12_spots_L34 (hLsub hL rfl) (fun v23 v24 h => ?_) hF _ _ _ _ h
  refine e_ite h (fun _ h => ?_) (fun _ h => ?_)
  · exact ret_mi h hF
  refine vl_m h (hF.sI (hL _ (by decide))) (fun s25 hF h => ?_)
  refine vl_m h (hF.sI (hL _ (by decide))) (fun s26 hF h => ?_)
  exact ret_mi h hF

set_option maxHeartbeats 4000000 in
theorem fm_X12_spotsAt {R : List Nat}  {s0 : St} {r : Int32} {sr : St} (hL : ∀ x ∈ ([0] : List Nat), x ∈ R) (h : f_X12_spotsAt  s0 = some (r, sr)) : Fm R s0 sr := by
  have hF : Fm R s0 s0 := Fm.rf
  unfold f_X12_spotsAt at h
  refine vl_m h (hF.sI (hL _ (by decide))) (fun s1 hF h => ?_)
  refine vl_g h (fun v2 h => ?_)
  refine e_ite h (fun _ h => ?_) (fun _ h => ?_)
  · exact ret_mi h hF
  refine vl_g h (fun v3 h => ?_)
  exact ret_mi h hF

set_option maxHeartbeats 4000000 in
theorem fm_X12_fix_L39 {R : List Nat} {N : Nat}  {s8 : St} {k9 : Option (Int32 × St)} {s0 : St} {r : Int32} {sr : St} (hL : ∀ x ∈ ([] : List Nat), x ∈ R) (hk9 : k9 = some (r, sr) → Fm R s0 sr) (hF : Fm R s0 s8) : ∀ (n10 : Nat) (v7 : Int32), f_X12_fix_L39 N s8 k9 n10 v7 = some (r, sr) → Fm R s0 sr := by
  intro n10
  induction n10 with
  | zero =>
    intro v7 h
    rw [f_X12_fix_L39] at h; cases h
  | succ n10 ih11 =>
    intro v7 h
    rw [f_X12_fix_L39] at h
    refine vl_g h (fun v12 h => ?_)
    refine e_ite h (fun _ h => ?_) (fun _ h => ?_)
    · exact hk9 h
    refine bp_g h (fun v13 h => ?_)
    refine bp_g h (fun v14 h => ?_)
    refine e_ite h (fun _ h => ?_) (fun _ h => ?_)
    · exact ret_mi h hF
    refine bp_g h (fun v15 h => ?_)
    refine e_ite h (fun _ h => ?_) (fun _ h => ?_)
    · refine vl_g h (fun v16 h => ?_)
      exact ih11 _ h
    exact ret_mi h hF

set_option maxHeartbeats 4000000 in
theorem fm_X12_fix_L97 {R : List Nat} {N : Nat} {c26 : Int32} {c27 : Int32} {c28 : Int32} {s31 : St} {k32 : Int32 → Option (Int32 × St)} {s0 : St} {r : Int32} {sr : St} (hL : ∀ x ∈ ([] : List Nat), x ∈ R) (hk32 : ∀ (v33 : Int32), k32 v33 = some (r, sr) → Fm R s0 sr) (hF : Fm R s0 s31) : ∀ (n34 : Nat) (v29 : Int32) (v30 : Int32), f_X12_fix_L97 N c26 c27 c28 s31 k32 n34 v29 v30 = some (r, sr) → Fm R s0 sr := by
  intro n34
  induction n34 with
  | zero =>
    intro v29 v30 h
    rw [f_X12_fix_L97] at h; cases h
  | succ n34 ih35 =>
    intro v29 v30 h
    rw [f_X12_fix_L97] at h
    refine vl_g h (fun v36 h => ?_)
    refine e_ite h (fun _ h => ?_) (fun _ h => ?_)
    · exact hk32 _ h
    refine jn_e (fun j => ∀ (v37 : Int32), j v37 = some (r, sr) → Fm R s0 sr) h ?_ (fun j38 hj38 h => ?_)
    · intro v37 h
      refine vl_g h (fun v39 h => ?_)
      exact ih35 _ _ h
    refine jn_e (fun j => j = some (r, sr) → Fm R s0 sr) h ?_ (fun j40 hj40 h => ?_)
    · intro h
      exact hj38 _ h
    refine e_ite h (fun _ h => ?_) (fun _ h => ?_)
    · exact hj40 h
    refine bp_g h (fun v41 h => ?_)
    refine rm_g h (fun v42 h => ?_)
    refine dv_g h (fun v43 h => ?_)
    refine bp_g h (fun v44 h => ?_)
    refine bp_g h (fun v45 h => ?_)
    refine e_ite h (fun _ h => ?_) (fun _ h => ?_)
    · exact hj38 _ h
    exact hj40 h

set_option maxHeartbeats 4000000 in
theorem fm_X12_fix_L87 {R : List Nat} {N : Nat}  {s20 : St} {k21 : Int32 → Int32 → Option (Int32 × St)} {s0 : St} {r : Int32} {sr : St} (hL : ∀ x ∈ ([] : List Nat), x ∈ R) (hk21 : ∀ (v22 : Int32) (v23 : Int32), k21 v22 v23 = some (r, sr) → Fm R s0 sr) (hF : Fm R s0 s20) : ∀ (n24 : Nat) (v17 : Int32) (v18 : Int32) (v19 : Int32), f_X12_fix_L87 N s20 k21 n24 v17 v18 v19 = some (r, sr) → Fm R s0 sr := by
  intro n24
  induction n24 with
  | zero =>
    intro v17 v18 v19 h
    rw [f_X12_fix_L87] at h; cases h
  | succ n24 ih25 =>
    intro v17 v18 v19 h
    rw [f_X12_fix_L87] at h
    refine e_ite h (fun _ h => ?_) (fun _ h => ?_)
    · exact hk21 _ _ h
    refine fm_X12_fix_L97 (hLsub hL rfl) (fun v46 h => ?_) hF _ _ _ h
    refine jn_e (fun j => ∀ (v47 : Int32) (v48 : Int32), j v47 v48 = some (r, sr) → Fm R s0 sr) h ?_ (fun j49 hj49 h => ?_)
    · intro v47 v48 h
      refine vl_g h (fun v50 h => ?_)
      exact ih25 _ _ _ h
    refine e_ite h (fun _ h => ?_) (fun _ h => ?_)
    · exact hj49 _ _ h
    refine vl_g h (fun v51 h => ?_)
    exact hj49 _ _ h

set_option maxHeartbeats 4000000 in
theorem fm_X12_fix {R : List Nat} {N : Nat}  {s0 : St} {r : Int32} {sr : St} (hL : ∀ x ∈ ([0, 2, 3, 4, 5, 34, 36] : List Nat), x ∈ R) (h : f_X12_fix N  s0 = some (r, sr)) : Fm R s0 sr := by
  have hF : Fm R s0 s0 := Fm.rf
  unfold f_X12_fix at h
  refine vl_m h (hF.sI (hL _ (by decide))) (fun s1 hF h => ?_)
  obtain ⟨s2, hc, h⟩ := bp_e h
  have hF := hF.trans (fm_X12_taken (hLsub hL rfl) hc)
  refine vl_g h (fun v3 h => ?_)
  refine bp_g h (fun v4 h => ?_)
  refine e_ite h (fun _ h => ?_) (fun _ h => ?_)
  · exact ret_mi h hF
  refine vl_g h (fun v5 h => ?_)
  refine rm_g h (fun v6 h => ?_)
  refine e_ite h (fun _ h => ?_) (fun _ h => ?_)
  · exact ret_mi h hF
  refine fm_X12_fix_L39 (hLsub hL rfl) (fun h => ?_) hF _ _ h
  refine fm_X12_fix_L87 (hLsub hL rfl) (fun v52 v53 h => ?_) hF _ _ _ _ h
  refine e_ite h (fun _ h => ?_) (fun _ h => ?_)
  · exact ret_mi h hF
  refine vl_m h (hF.sI (hL _ (by decide))) (fun s54 hF h => ?_)
  refine vl_m h (hF.sI (hL _ (by decide))) (fun s55 hF h => ?_)
  exact ret_mi h hF

set_option maxHeartbeats 4000000 in
theorem fm_X12_fixAt {R : List Nat}  {s0 : St} {r : Int32} {sr : St} (hL : ∀ x ∈ ([0] : List Nat), x ∈ R) (h : f_X12_fixAt  s0 = some (r, sr)) : Fm R s0 sr := by
  have hF : Fm R s0 s0 := Fm.rf
  unfold f_X12_fixAt at h
  refine vl_m h (hF.sI (hL _ (by decide))) (fun s1 hF h => ?_)
  refine vl_g h (fun v2 h => ?_)
  refine e_ite h (fun _ h => ?_) (fun _ h => ?_)
  · exact ret_mi h hF
  refine vl_g h (fun v3 h => ?_)
  exact ret_mi h hF

set_option maxHeartbeats 4000000 in
theorem fm_X12_most_L22 {R : List Nat} {N : Nat}  {s6 : St}  {s0 : St} {r : Int32} {sr : St} (hL : ∀ x ∈ ([] : List Nat), x ∈ R)  (hF : Fm R s0 s6) : ∀ (n7 : Nat) (v3 : Int32) (v4 : Int32) (v5 : Int32), f_X12_most_L22 N s6 n7 v3 v4 v5 = some (r, sr) → Fm R s0 sr := by
  intro n7
  induction n7 with
  | zero =>
    intro v3 v4 v5 h
    rw [f_X12_most_L22] at h; cases h
  | succ n7 ih8 =>
    intro v3 v4 v5 h
    rw [f_X12_most_L22] at h
    refine e_ite h (fun _ h => ?_) (fun _ h => ?_)
    · exact ret_mi h hF
    refine rm_g h (fun v9 h => ?_)
    refine dv_g h (fun v10 h => ?_)
    refine ald_g h (fun v11 h => ?_)
    refine bp_g h (fun v12 h => ?_)
    refine bp_g h (fun v13 h => ?_)
    refine jn_e (fun j => ∀ (v14 : Int32) (v15 : Int32), j v14 v15 = some (r, sr) → Fm R s0 sr) h ?_ (fun j16 hj16 h => ?_)
    · intro v14 v15 h
      refine vl_g h (fun v17 h => ?_)
      exact ih8 _ _ _ h
    refine e_ite h (fun _ h => ?_) (fun _ h => ?_)
    · exact hj16 _ _ h
    exact hj16 _ _ h

set_option maxHeartbeats 4000000 in
theorem fm_X12_most {R : List Nat} {N : Nat}  {s0 : St} {r : Int32} {sr : St} (hL : ∀ x ∈ ([0] : List Nat), x ∈ R) (h : f_X12_most N  s0 = some (r, sr)) : Fm R s0 sr := by
  have hF : Fm R s0 s0 := Fm.rf
  unfold f_X12_most at h
  refine vl_m h (hF.sI (hL _ (by decide))) (fun s1 hF h => ?_)
  refine ald_g h (fun v2 h => ?_)
  refine e_ite h (fun _ h => ?_) (fun _ h => ?_)
  · exact ret_mi h hF
  exact fm_X12_most_L22 (hLsub hL rfl)  hF _ _ _ _ h

set_option maxHeartbeats 4000000 in
theorem fm_X12_burn_L49 {R : List Nat} {N : Nat} {c5 : Int32} {s8 : St}  {s0 : St} {r : Int32} {sr : St} (hL : ∀ x ∈ ([] : List Nat), x ∈ R)  (hF : Fm R s0 s8) : ∀ (n9 : Nat) (v6 : Int32) (v7 : Int32), f_X12_burn_L49 N c5 s8 n9 v6 v7 = some (r, sr) → Fm R s0 sr := by
  intro n9
  induction n9 with
  | zero =>
    intro v6 v7 h
    rw [f_X12_burn_L49] at h; cases h
  | succ n9 ih10 =>
    intro v6 v7 h
    rw [f_X12_burn_L49] at h
    refine e_ite h (fun _ h => ?_) (fun _ h => ?_)
    · exact ret_mi h hF
    refine bp_g h (fun v11 h => ?_)
    refine bp_g h (fun v12 h => ?_)
    refine jn_e (fun j => ∀ (v13 : Int32), j v13 = some (r, sr) → Fm R s0 sr) h ?_ (fun j14 hj14 h => ?_)
    · intro v13 h
      refine vl_g h (fun v15 h => ?_)
      refine vl_g h (fun v16 h => ?_)
      exact ih10 _ _ h
    refine e_ite h (fun _ h => ?_) (fun _ h => ?_)
    · exact hj14 _ h
    exact hj14 _ h

set_option maxHeartbeats 4000000 in
theorem fm_X12_burn {R : List Nat} {N : Nat} {x1 : Int32} {s0 : St} {r : Int32} {sr : St} (hL : ∀ x ∈ ([0] : List Nat), x ∈ R) (h : f_X12_burn N x1 s0 = some (r, sr)) : Fm R s0 sr := by
  have hF : Fm R s0 s0 := Fm.rf
  unfold f_X12_burn at h
  refine vl_m h (hF.sI (hL _ (by decide))) (fun s1 hF h => ?_)
  refine bp_g h (fun v2 h => ?_)
  refine e_ite h (fun _ h => ?_) (fun _ h => ?_)
  · exact ret_mi h hF
  refine ald_g h (fun v3 h => ?_)
  refine jn_e (fun j => j = some (r, sr) → Fm R s0 sr) h ?_ (fun j4 hj4 h => ?_)
  · intro h
    exact fm_X12_burn_L49 (hLsub hL rfl)  hF _ _ _ h
  refine e_ite h (fun _ h => ?_) (fun _ h => ?_)
  · exact hj4 h
  refine ald_g h (fun v17 h => ?_)
  refine bp_g h (fun v18 h => ?_)
  refine e_ite h (fun _ h => ?_) (fun _ h => ?_)
  · exact hj4 h
  exact ret_mi h hF

set_option maxHeartbeats 4000000 in
theorem fm_X12_waits_L23 {R : List Nat} {N : Nat} {c4 : Int32} {k8 : Int32 → St → Option (Int32 × St)} {s0 : St} {r : Int32} {sr : St} (hL : ∀ x ∈ ([] : List Nat), x ∈ R) (hk8 : ∀ (v9 : Int32) (s10 : St), Fm R s0 s10 → k8 v9 s10 = some (r, sr) → Fm R s0 sr)  : ∀ (n11 : Nat) (v5 : Int32) (v6 : Int32) (s7 : St), Fm R s0 s7 → f_X12_waits_L23 N c4 k8 n11 v5 v6 s7 = some (r, sr) → Fm R s0 sr := by
  intro n11
  induction n11 with
  | zero =>
    intro v5 v6 s7 hF h
    rw [f_X12_waits_L23] at h; cases h
  | succ n11 ih12 =>
    intro v5 v6 s7 hF h
    rw [f_X12_waits_L23] at h
    refine e_ite h (fun _ h => ?_) (fun _ h => ?_)
    · exact hk8 _ _ hF h
    refine e_ite h (fun _ h => ?_) (fun _ h => ?_)
    · exact hk8 _ _ hF h
    refine bp_g h (fun v13 h => ?_)
    refine jn_e (fun j => ∀ (v14 : Int32), j v14 = some (r, sr) → Fm R s0 sr) h ?_ (fun j15 hj15 h => ?_)
    · intro v14 h
      obtain ⟨s16, hc, h⟩ := bp_e h
      have hF := hF.trans (fm_X12_second (hLsub hL rfl) hc)
      refine vl_g h (fun v17 h => ?_)
      exact ih12 _ _ _ hF h
    refine e_ite h (fun _ h => ?_) (fun _ h => ?_)
    · exact hj15 _ h
    exact hj15 _ h

set_option maxHeartbeats 4000000 in
theorem fm_X12_waits {R : List Nat} {N : Nat} {x1 : Int32} {s0 : St} {r : Int32} {sr : St} (hL : ∀ x ∈ ([0] : List Nat), x ∈ R) (h : f_X12_waits N x1 s0 = some (r, sr)) : Fm R s0 sr := by
  have hF : Fm R s0 s0 := Fm.rf
  unfold f_X12_waits at h
  refine vl_m h (hF.sI (hL _ (by decide))) (fun s1 hF h => ?_)
  refine bp_g h (fun v2 h => ?_)
  refine e_ite h (fun _ h => ?_) (fun _ h => ?_)
  · exact ret_mi h hF
  obtain ⟨s3, hc, h⟩ := bp_e h
  have hF := hF.trans (fm_X12_tries (hLsub hL rfl) hc)
  refine fm_X12_waits_L23 (hLsub hL rfl) (fun v18 s19 hF h => ?_) _ _ _ _ hF h
  obtain ⟨s20, hc, h⟩ := bp_e h
  have hF := hF.trans (fm_X12_back (hLsub hL rfl) hc)
  exact ret_mi h hF

set_option maxHeartbeats 4000000 in
theorem fm_X12_mean_L44 {R : List Nat} {N : Nat} {c8 : Int32} {s11 : St} {k12 : Int32 → Option (Int32 × St)} {s0 : St} {r : Int32} {sr : St} (hL : ∀ x ∈ ([] : List Nat), x ∈ R) (hk12 : ∀ (v13 : Int32), k12 v13 = some (r, sr) → Fm R s0 sr) (hF : Fm R s0 s11) : ∀ (n14 : Nat) (v9 : Int32) (v10 : Int32), f_X12_mean_L44 N c8 s11 k12 n14 v9 v10 = some (r, sr) → Fm R s0 sr := by
  intro n14
  induction n14 with
  | zero =>
    intro v9 v10 h
    rw [f_X12_mean_L44] at h; cases h
  | succ n14 ih15 =>
    intro v9 v10 h
    rw [f_X12_mean_L44] at h
    refine e_ite h (fun _ h => ?_) (fun _ h => ?_)
    · exact hk12 _ h
    refine rm_g h (fun v16 h => ?_)
    exact ih15 _ _ h

set_option maxHeartbeats 4000000 in
theorem fm_X12_mean {R : List Nat} {N : Nat} {x1 : Int32} {s0 : St} {r : Int32} {sr : St} (hL : ∀ x ∈ ([0] : List Nat), x ∈ R) (h : f_X12_mean N x1 s0 = some (r, sr)) : Fm R s0 sr := by
  have hF : Fm R s0 s0 := Fm.rf
  unfold f_X12_mean at h
  refine ald_g h (fun v1 h => ?_)
  refine jn_e (fun j => ∀ (v2 : Int32), j v2 = some (r, sr) → Fm R s0 sr) h ?_ (fun j3 hj3 h => ?_)
  · intro v2 h
    obtain ⟨v4, s5, hc, h⟩ := bd_e h
    have hF := hF.trans (fm_X12_throwsIf (hLsub hL rfl) hc)
    refine e_ite h (fun _ h => ?_) (fun _ h => ?_)
    · refine ald_g h (fun v6 h => ?_)
      refine bp_g h (fun v7 h => ?_)
      refine fm_X12_mean_L44 (hLsub hL rfl) (fun v17 h => ?_) hF _ _ _ h
      refine jn_e (fun j => ∀ (v18 : Int32), j v18 = some (r, sr) → Fm R s0 sr) h ?_ (fun j19 hj19 h => ?_)
      · intro v18 h
        refine dv_g h (fun v20 h => ?_)
        exact ret_mi h hF
      refine e_ite h (fun _ h => ?_) (fun _ h => ?_)
      · refine bp_g h (fun v21 h => ?_)
        exact hj19 _ h
      refine ald_g h (fun v22 h => ?_)
      exact hj19 _ h
    exact ret_mi h hF
  refine jn_e (fun j => j = some (r, sr) → Fm R s0 sr) h ?_ (fun j23 hj23 h => ?_)
  · intro h
    exact hj3 _ h
  refine e_ite h (fun _ h => ?_) (fun _ h => ?_)
  · exact hj23 h
  refine bp_g h (fun v24 h => ?_)
  refine e_ite h (fun _ h => ?_) (fun _ h => ?_)
  · exact hj23 h
  exact hj3 _ h

set_option maxHeartbeats 4000000 in
theorem fm_X12_lays {R : List Nat} {x1 : Int32} {s0 : St} {sr : St} (hL : ∀ x ∈ ([38] : List Nat), x ∈ R) (h : f_X12_lays x1 s0 = some sr) : Fm R s0 sr := by
  have hF : Fm R s0 s0 := Fm.rf
  unfold f_X12_lays at h
  refine vl_g h (fun v1 h => ?_)
  refine ald_m h (fun _ => Fm_aI (a := 218) hF (by decide)) (fun s2 hF h => ?_)
  refine vl_g h (fun v3 h => ?_)
  refine vl_m h (hF.sI (hL _ (by decide))) (fun s4 hF h => ?_)
  exact ret_mv h hF

set_option maxHeartbeats 4000000 in
theorem fm_X12_spells_L3 {R : List Nat} {N : Nat} {c1 : Int64}  {s0 : St} {sr : St} (hL : ∀ x ∈ ([38] : List Nat), x ∈ R)   : ∀ (n4 : Nat) (v2 : Int32) (s3 : St), Fm R s0 s3 → f_X12_spells_L3 N c1 n4 v2 s3 = some sr → Fm R s0 sr := by
  intro n4
  induction n4 with
  | zero =>
    intro v2 s3 hF h
    rw [f_X12_spells_L3] at h; cases h
  | succ n4 ih5 =>
    intro v2 s3 hF h
    rw [f_X12_spells_L3] at h
    refine e_ite h (fun _ h => ?_) (fun _ h => ?_)
    · exact ret_mv h hF
    refine jn_e (fun j => ∀ (s6 : St), Fm R s0 s6 → j s6 = some sr → Fm R s0 sr) h ?_ (fun j7 hj7 h => ?_)
    · intro s6 hF h
      refine vl_g h (fun v8 h => ?_)
      exact ih5 _ _ hF h
    refine e_ite h (fun _ h => ?_) (fun _ h => ?_)
    · exact hj7 _ hF h
    obtain ⟨s9, hc, h⟩ := bp_e h
    have hF := hF.trans (fm_X12_lays (hLsub hL rfl) hc)
    exact hj7 _ hF h

set_option maxHeartbeats 4000000 in
theorem fm_X12_spells {R : List Nat} {N : Nat} {x1 : Int64} {s0 : St} {sr : St} (hL : ∀ x ∈ ([38] : List Nat), x ∈ R) (h : f_X12_spells N x1 s0 = some sr) : Fm R s0 sr := by
  have hF : Fm R s0 s0 := Fm.rf
  unfold f_X12_spells at h
  exact fm_X12_spells_L3 (hLsub hL rfl)  _ _ _ hF h

set_option maxHeartbeats 4000000 in
theorem fm_X12_says {R : List Nat} {N : Nat} {x1 : Int64} {s0 : St} {sr : St} (hL : ∀ x ∈ ([38] : List Nat), x ∈ R) (h : f_X12_says N x1 s0 = some sr) : Fm R s0 sr := by
  have hF : Fm R s0 s0 := Fm.rf
  unfold f_X12_says at h
  obtain ⟨s1, hc, h⟩ := bp_e h
  have hF := hF.trans (fm_X12_lays (hLsub hL rfl) hc)
  obtain ⟨s2, hc, h⟩ := bp_e h
  have hF := hF.trans (fm_X12_spells (hLsub hL rfl) hc)
  exact ret_mv h hF

set_option maxHeartbeats 4000000 in
theorem fm_X12_twoDigits {R : List Nat} {x1 : Int32} {s0 : St} {sr : St} (hL : ∀ x ∈ ([38] : List Nat), x ∈ R) (h : f_X12_twoDigits x1 s0 = some sr) : Fm R s0 sr := by
  have hF : Fm R s0 s0 := Fm.rf
  unfold f_X12_twoDigits at h
  obtain ⟨s1, hc, h⟩ := bp_e h
  have hF := hF.trans (fm_X12_lays (hLsub hL rfl) hc)
  refine jn_e (fun j => ∀ (s2 : St), Fm R s0 s2 → j s2 = some sr → Fm R s0 sr) h ?_ (fun j3 hj3 h => ?_)
  · intro s2 hF h
    refine rm_g h (fun v4 h => ?_)
    obtain ⟨s5, hc, h⟩ := bp_e h
    have hF := hF.trans (fm_X12_lays (hLsub hL rfl) hc)
    exact ret_mv h hF
  refine e_ite h (fun _ h => ?_) (fun _ h => ?_)
  · exact hj3 _ hF h
  refine dv_g h (fun v6 h => ?_)
  obtain ⟨s7, hc, h⟩ := bp_e h
  have hF := hF.trans (fm_X12_lays (hLsub hL rfl) hc)
  exact hj3 _ hF h

set_option maxHeartbeats 4000000 in
theorem fm_X12_tag {R : List Nat} {N : Nat} {x1 : Int32} {s0 : St} {r : Int32} {sr : St} (hL : ∀ x ∈ ([0, 38] : List Nat), x ∈ R) (h : f_X12_tag N x1 s0 = some (r, sr)) : Fm R s0 sr := by
  have hF : Fm R s0 s0 := Fm.rf
  unfold f_X12_tag at h
  refine vl_m h (hF.sI (hL _ (by decide))) (fun s1 hF h => ?_)
  refine bp_g h (fun v2 h => ?_)
  refine e_ite h (fun _ h => ?_) (fun _ h => ?_)
  · exact ret_mi h hF
  refine vl_m h (hF.sI (hL _ (by decide))) (fun s3 hF h => ?_)
  refine ald_g h (fun v4 h => ?_)
  obtain ⟨s5, hc, h⟩ := bp_e h
  have hF := hF.trans (fm_X12_spells (hLsub hL rfl) hc)
  obtain ⟨s6, hc, h⟩ := bp_e h
  have hF := hF.trans (fm_X12_says (hLsub hL rfl) hc)
  refine ald_g h (fun v7 h => ?_)
  obtain ⟨s8, hc, h⟩ := bp_e h
  have hF := hF.trans (fm_X12_twoDigits (hLsub hL rfl) hc)
  refine ald_g h (fun v9 h => ?_)
  obtain ⟨s10, hc, h⟩ := bp_e h
  have hF := hF.trans (fm_X12_twoDigits (hLsub hL rfl) hc)
  obtain ⟨s11, hc, h⟩ := bp_e h
  have hF := hF.trans (fm_X12_says (hLsub hL rfl) hc)
  refine bp_g h (fun v12 h => ?_)
  refine bp_g h (fun v13 h => ?_)
  obtain ⟨s14, hc, h⟩ := bp_e h
  have hF := hF.trans (fm_X12_twoDigits (hLsub hL rfl) hc)
  refine vl_g h (fun v15 h => ?_)
  exact ret_mi h hF

set_option maxHeartbeats 4000000 in
theorem fm_X12_byteAt {R : List Nat} {x1 : Int32} {s0 : St} {r : Int32} {sr : St} (hL : ∀ x ∈ ([0] : List Nat), x ∈ R) (h : f_X12_byteAt x1 s0 = some (r, sr)) : Fm R s0 sr := by
  have hF : Fm R s0 s0 := Fm.rf
  unfold f_X12_byteAt at h
  refine vl_m h (hF.sI (hL _ (by decide))) (fun s1 hF h => ?_)
  refine vl_g h (fun v2 h => ?_)
  refine bp_g h (fun v3 h => ?_)
  refine e_ite h (fun _ h => ?_) (fun _ h => ?_)
  · exact ret_mi h hF
  refine ald_g h (fun v4 h => ?_)
  exact ret_mi h hF

set_option maxHeartbeats 4000000 in
theorem fm_X12_draw {R : List Nat} {x1 : Int32} {s0 : St} {r : Int32} {sr : St} (hL : ∀ x ∈ ([39] : List Nat), x ∈ R) (h : f_X12_draw x1 s0 = some (r, sr)) : Fm R s0 sr := by
  have hF : Fm R s0 s0 := Fm.rf
  unfold f_X12_draw at h
  refine vl_g h (fun v1 h => ?_)
  refine vl_m h (hF.sI (hL _ (by decide))) (fun s2 hF h => ?_)
  refine vl_g h (fun v3 h => ?_)
  refine rm_g h (fun v4 h => ?_)
  exact ret_mi h hF

set_option maxHeartbeats 4000000 in
theorem fm_X12_drawSecond {R : List Nat}  {s0 : St} {sr : St} (hL : ∀ x ∈ ([39] : List Nat), x ∈ R) (h : f_X12_drawSecond  s0 = some sr) : Fm R s0 sr := by
  have hF : Fm R s0 s0 := Fm.rf
  unfold f_X12_drawSecond at h
  obtain ⟨v1, s2, hc, h⟩ := bd_e h
  have hF := hF.trans (fm_X12_draw (hLsub hL rfl) hc)
  refine jn_e (fun j => j = some sr → Fm R s0 sr) h ?_ (fun j3 hj3 h => ?_)
  · intro h
    refine jn_e (fun j => j = some sr → Fm R s0 sr) h ?_ (fun j4 hj4 h => ?_)
    · intro h
      refine jn_e (fun j => j = some sr → Fm R s0 sr) h ?_ (fun j5 hj5 h => ?_)
      · intro h
        refine e_ite h (fun _ h => ?_) (fun _ h => ?_)
        · obtain ⟨v6, s7, hc, h⟩ := bd_e h
          have hF := hF.trans (fm_X12_draw (hLsub hL rfl) hc)
          refine ald_m h (fun _ => Fm_aI (a := 208) hF (by decide)) (fun s8 hF h => ?_)
          exact ret_mv h hF
        exact ret_mv h hF
      refine e_ite h (fun _ h => ?_) (fun _ h => ?_)
      · refine ald_g h (fun v9 h => ?_)
        refine e_ite h (fun _ h => ?_) (fun _ h => ?_)
        · exact hj5 h
        refine ald_g h (fun v10 h => ?_)
        obtain ⟨v11, s12, hc, h⟩ := bd_e h
        have hF := hF.trans (fm_X12_draw (hLsub hL rfl) hc)
        obtain ⟨v13, s14, hc, h⟩ := bd_e h
        have hF := hF.trans (fm_X12_draw (hLsub hL rfl) hc)
        refine vl_g h (fun v15 h => ?_)
        refine bp_g h (fun v16 h => ?_)
        refine jn_e (fun j => ∀ (s17 : St), Fm R s0 s17 → j s17 = some sr → Fm R s0 sr) h ?_ (fun j18 hj18 h => ?_)
        · intro s17 hF h
          exact ret_mv h hF
        refine e_ite h (fun _ h => ?_) (fun _ h => ?_)
        · refine ald_g h (fun v19 h => ?_)
          refine ald_m h (fun _ => Fm_aI (a := 208) hF (by decide)) (fun s20 hF h => ?_)
          exact hj18 _ hF h
        exact hj18 _ hF h
      exact hj5 h
    refine e_ite h (fun _ h => ?_) (fun _ h => ?_)
    · refine ald_g h (fun v21 h => ?_)
      refine e_ite h (fun _ h => ?_) (fun _ h => ?_)
      · exact hj4 h
      refine ald_g h (fun v22 h => ?_)
      obtain ⟨v23, s24, hc, h⟩ := bd_e h
      have hF := hF.trans (fm_X12_draw (hLsub hL rfl) hc)
      obtain ⟨v25, s26, hc, h⟩ := bd_e h
      have hF := hF.trans (fm_X12_draw (hLsub hL rfl) hc)
      refine ald_m h (fun _ => Fm_aI (a := 208) hF (by decide)) (fun s27 hF h => ?_)
      exact ret_mv h hF
    exact hj4 h
  refine e_ite h (fun _ h => ?_) (fun _ h => ?_)
  · refine ald_g h (fun v28 h => ?_)
    refine e_ite h (fun _ h => ?_) (fun _ h => ?_)
    · exact hj3 h
    refine ald_g h (fun v29 h => ?_)
    obtain ⟨v30, s31, hc, h⟩ := bd_e h
    have hF := hF.trans (fm_X12_draw (hLsub hL rfl) hc)
    refine ald_g h (fun v32 h => ?_)
    refine bp_g h (fun v33 h => ?_)
    refine jn_e (fun j => ∀ (s34 : St), Fm R s0 s34 → j s34 = some sr → Fm R s0 sr) h ?_ (fun j35 hj35 h => ?_)
    · intro s34 hF h
      exact ret_mv h hF
    refine e_ite h (fun _ h => ?_) (fun _ h => ?_)
    · refine ald_g h (fun v36 h => ?_)
      refine ald_m h (fun _ => Fm_aI (a := 208) hF (by decide)) (fun s37 hF h => ?_)
      exact hj35 _ hF h
    refine bp_g h (fun v38 h => ?_)
    refine e_ite h (fun _ h => ?_) (fun _ h => ?_)
    · refine ald_g h (fun v39 h => ?_)
      refine ald_m h (fun _ => Fm_aI (a := 208) hF (by decide)) (fun s40 hF h => ?_)
      exact hj35 _ hF h
    exact hj35 _ hF h
  exact hj3 h

set_option maxHeartbeats 4000000 in
theorem fm_X12_draws_L7 {R : List Nat} {N : Nat} {c2 : Int32}  {s0 : St} {r : Int32} {sr : St} (hL : ∀ x ∈ ([39] : List Nat), x ∈ R)   : ∀ (n5 : Nat) (v3 : Int32) (s4 : St), Fm R s0 s4 → f_X12_draws_L7 N c2 n5 v3 s4 = some (r, sr) → Fm R s0 sr := by
  intro n5
  induction n5 with
  | zero =>
    intro v3 s4 hF h
    rw [f_X12_draws_L7] at h; cases h
  | succ n5 ih6 =>
    intro v3 s4 hF h
    rw [f_X12_draws_L7] at h
    refine e_ite h (fun _ h => ?_) (fun _ h => ?_)
    · exact ret_mi h hF
    refine ald_g h (fun v7 h => ?_)
    refine e_ite h (fun _ h => ?_) (fun _ h => ?_)
    · exact ret_mi h hF
    obtain ⟨s8, hc, h⟩ := bp_e h
    have hF := hF.trans (fm_X12_drawSecond (hLsub hL rfl) hc)
    obtain ⟨s9, hc, h⟩ := bp_e h
    have hF := hF.trans (fm_X12_second (hLsub hL rfl) hc)
    refine vl_g h (fun v10 h => ?_)
    exact ih6 _ _ hF h

set_option maxHeartbeats 4000000 in
theorem fm_X12_draws {R : List Nat} {N : Nat} {x1 : Int32} {x2 : Int32} {s0 : St} {r : Int32} {sr : St} (hL : ∀ x ∈ ([39] : List Nat), x ∈ R) (h : f_X12_draws N x1 x2 s0 = some (r, sr)) : Fm R s0 sr := by
  have hF : Fm R s0 s0 := Fm.rf
  unfold f_X12_draws at h
  refine vl_m h (hF.sI (hL _ (by decide))) (fun s1 hF h => ?_)
  exact fm_X12_draws_L7 (hLsub hL rfl)  _ _ _ hF h

set_option maxHeartbeats 4000000 in
theorem fm_X12_drawn {R : List Nat} {N : Nat} {x1 : Int32} {x2 : Int32} {s0 : St} {r : Int32} {sr : St} (hL : ∀ x ∈ ([0, 24, 39] : List Nat), x ∈ R) (h : f_X12_drawn N x1 x2 s0 = some (r, sr)) : Fm R s0 sr := by
  have hF : Fm R s0 s0 := Fm.rf
  unfold f_X12_drawn at h
  refine vl_m h (hF.sI (hL _ (by decide))) (fun s1 hF h => ?_)
  refine bp_g h (fun v2 h => ?_)
  refine e_ite h (fun _ h => ?_) (fun _ h => ?_)
  · exact ret_mi h hF
  refine ald_g h (fun v3 h => ?_)
  refine jn_e (fun j => ∀ (s4 : St), Fm R s0 s4 → j s4 = some (r, sr) → Fm R s0 sr) h ?_ (fun j5 hj5 h => ?_)
  · intro s4 hF h
    obtain ⟨v6, s7, hc, h⟩ := bd_e h
    have hF := hF.trans (fm_X12_draws (hLsub hL rfl) hc)
    exact ret_mi h hF
  refine e_ite h (fun _ h => ?_) (fun _ h => ?_)
  · exact hj5 _ hF h
  obtain ⟨s8, hc, h⟩ := bp_e h
  have hF := hF.trans (fm_X12_stores (hLsub hL rfl) hc)
  exact hj5 _ hF h

set_option maxHeartbeats 4000000 in
theorem fm_X12_odds_L35 {R : List Nat} {N : Nat} {c5 : Int32} {c6 : Int32} {c7 : Int32}  {s0 : St} {r : Int32} {sr : St} (hL : ∀ x ∈ ([39] : List Nat), x ∈ R)   : ∀ (n11 : Nat) (v8 : Int32) (v9 : Int32) (s10 : St), Fm R s0 s10 → f_X12_odds_L35 N c5 c6 c7 n11 v8 v9 s10 = some (r, sr) → Fm R s0 sr := by
  intro n11
  induction n11 with
  | zero =>
    intro v8 v9 s10 hF h
    rw [f_X12_odds_L35] at h; cases h
  | succ n11 ih12 =>
    intro v8 v9 s10 hF h
    rw [f_X12_odds_L35] at h
    refine e_ite h (fun _ h => ?_) (fun _ h => ?_)
    · exact ret_mi h hF
    obtain ⟨v13, s14, hc, h⟩ := bd_e h
    have hF := hF.trans (fm_X12_draws (hLsub hL rfl) hc)
    refine bp_g h (fun v15 h => ?_)
    refine jn_e (fun j => ∀ (v16 : Int32), j v16 = some (r, sr) → Fm R s0 sr) h ?_ (fun j17 hj17 h => ?_)
    · intro v16 h
      refine vl_g h (fun v18 h => ?_)
      obtain ⟨s19, hc, h⟩ := bp_e h
      have hF := hF.trans (fm_X12_back (hLsub hL rfl) hc)
      refine vl_g h (fun v20 h => ?_)
      exact ih12 _ _ _ hF h
    refine e_ite h (fun _ h => ?_) (fun _ h => ?_)
    · exact hj17 _ h
    exact hj17 _ h

set_option maxHeartbeats 4000000 in
theorem fm_X12_odds {R : List Nat} {N : Nat} {x1 : Int32} {x2 : Int32} {x3 : Int32} {s0 : St} {r : Int32} {sr : St} (hL : ∀ x ∈ ([0, 39] : List Nat), x ∈ R) (h : f_X12_odds N x1 x2 x3 s0 = some (r, sr)) : Fm R s0 sr := by
  have hF : Fm R s0 s0 := Fm.rf
  unfold f_X12_odds at h
  refine vl_m h (hF.sI (hL _ (by decide))) (fun s1 hF h => ?_)
  refine bp_g h (fun v2 h => ?_)
  refine e_ite h (fun _ h => ?_) (fun _ h => ?_)
  · exact ret_mi h hF
  refine bp_g h (fun v3 h => ?_)
  refine e_ite h (fun _ h => ?_) (fun _ h => ?_)
  · exact ret_mi h hF
  obtain ⟨s4, hc, h⟩ := bp_e h
  have hF := hF.trans (fm_X12_tries (hLsub hL rfl) hc)
  exact fm_X12_odds_L35 (hLsub hL rfl)  _ _ _ _ hF h

set_option maxHeartbeats 4000000 in
theorem fm_X12_bookLine {R : List Nat} {N : Nat}  {s0 : St} {r : Int32} {sr : St} (hL : ∀ x ∈ ([4, 11, 12, 13, 14, 15, 16, 17, 18] : List Nat), x ∈ R) (h : f_X12_bookLine N  s0 = some (r, sr)) : Fm R s0 sr := by
  have hF : Fm R s0 s0 := Fm.rf
  unfold f_X12_bookLine at h
  refine vl_g h (fun v1 h => ?_)
  refine vl_g h (fun v2 h => ?_)
  refine bp_g h (fun v3 h => ?_)
  refine jn_e (fun j => ∀ (v4 : Int32), j v4 = some (r, sr) → Fm R s0 sr) h ?_ (fun j5 hj5 h => ?_)
  · intro v4 h
    refine e_ite h (fun _ h => ?_) (fun _ h => ?_)
    · refine vl_g h (fun v6 h => ?_)
      refine e_ite h (fun _ h => ?_) (fun _ h => ?_)
      · obtain ⟨v7, s8, hc, h⟩ := bd_e h
        have hF := hF.trans (fm_X12_bad (hLsub hL rfl) hc)
        refine rz_e h (fun _ h => ?_)
        exact ret_mi h hF
      obtain ⟨s9, hc, h⟩ := bp_e h
      have hF := hF.trans (fm_X12_next (hLsub hL rfl) hc)
      refine ald_m h (fun _ => Fm_aI (a := 210) hF (by decide)) (fun s10 hF h => ?_)
      refine e_ite h (fun _ h => ?_) (fun _ h => ?_)
      · refine jn_e (fun j => ∀ (v11 : Int32) (s12 : St), Fm R s0 s12 → j v11 s12 = some (r, sr) → Fm R s0 sr) h ?_ (fun j13 hj13 h => ?_)
        · intro v11 s12 hF h
          refine vl_g h (fun v14 h => ?_)
          refine ald_m h (fun _ => Fm_aI (a := 210) hF (by decide)) (fun s15 hF h => ?_)
          refine e_ite h (fun _ h => ?_) (fun _ h => ?_)
          · refine rz_e h (fun _ h => ?_)
            exact ret_mi h hF
          refine e_ite h (fun _ h => ?_) (fun _ h => ?_)
          · refine jn_e (fun j => ∀ (v16 : Int32) (s17 : St), Fm R s0 s17 → j v16 s17 = some (r, sr) → Fm R s0 sr) h ?_ (fun j18 hj18 h => ?_)
            · intro v16 s17 hF h
              refine vl_g h (fun v19 h => ?_)
              refine ald_m h (fun _ => Fm_aI (a := 210) hF (by decide)) (fun s20 hF h => ?_)
              refine rz_e h (fun _ h => ?_)
              exact ret_mi h hF
            refine e_ite h (fun _ h => ?_) (fun _ h => ?_)
            · obtain ⟨v21, s22, hc, h⟩ := bd_e h
              have hF := hF.trans (fm_X12_takes (hLsub hL rfl) hc)
              exact hj18 _ _ hF h
            refine e_ite h (fun _ h => ?_) (fun _ h => ?_)
            · obtain ⟨v23, s24, hc, h⟩ := bd_e h
              have hF := hF.trans (fm_X12_takes (hLsub hL rfl) hc)
              exact hj18 _ _ hF h
            obtain ⟨v25, s26, hc, h⟩ := bd_e h
            have hF := hF.trans (fm_X12_takes (hLsub hL rfl) hc)
            exact hj18 _ _ hF h
          refine rz_e h (fun _ h => ?_)
          exact ret_mi h hF
        refine e_ite h (fun _ h => ?_) (fun _ h => ?_)
        · refine ald_g h (fun v27 h => ?_)
          obtain ⟨v28, s29, hc, h⟩ := bd_e h
          have hF := hF.trans (fm_X12_takesName (hLsub hL rfl) hc)
          exact hj13 _ _ hF h
        refine ald_g h (fun v30 h => ?_)
        obtain ⟨v31, s32, hc, h⟩ := bd_e h
        have hF := hF.trans (fm_X12_takesName (hLsub hL rfl) hc)
        exact hj13 _ _ hF h
      refine jn_e (fun j => ∀ (v33 : Int32), j v33 = some (r, sr) → Fm R s0 sr) h ?_ (fun j34 hj34 h => ?_)
      · intro v33 h
        obtain ⟨v35, s36, hc, h⟩ := bd_e h
        have hF := hF.trans (fm_X12_takes (hLsub hL rfl) hc)
        refine e_ite h (fun _ h => ?_) (fun _ h => ?_)
        · exact ret_mi h hF
        refine vl_g h (fun v37 h => ?_)
        refine ald_m h (fun _ => Fm_aI (a := 210) hF (by decide)) (fun s38 hF h => ?_)
        exact ret_mi h hF
      refine e_ite h (fun _ h => ?_) (fun _ h => ?_)
      · exact hj34 _ h
      exact hj34 _ h
    obtain ⟨v39, s40, hc, h⟩ := bd_e h
    have hF := hF.trans (fm_X12_bad (hLsub hL rfl) hc)
    refine rz_e h (fun _ h => ?_)
    exact ret_mi h hF
  refine e_ite h (fun _ h => ?_) (fun _ h => ?_)
  · refine bp_g h (fun v41 h => ?_)
    refine e_ite h (fun _ h => ?_) (fun _ h => ?_)
    · refine bp_g h (fun v42 h => ?_)
      refine e_ite h (fun _ h => ?_) (fun _ h => ?_)
      · refine bp_g h (fun v43 h => ?_)
        refine e_ite h (fun _ h => ?_) (fun _ h => ?_)
        · refine bp_g h (fun v44 h => ?_)
          refine e_ite h (fun _ h => ?_) (fun _ h => ?_)
          · refine bp_g h (fun v45 h => ?_)
            refine e_ite h (fun _ h => ?_) (fun _ h => ?_)
            · refine bp_g h (fun v46 h => ?_)
              refine e_ite h (fun _ h => ?_) (fun _ h => ?_)
              · exact hj5 _ h
              exact hj5 _ h
            exact hj5 _ h
          exact hj5 _ h
        exact hj5 _ h
      exact hj5 _ h
    exact hj5 _ h
  exact hj5 _ h

set_option maxHeartbeats 4000000 in
theorem fm_X12_does {R : List Nat} {N : Nat} {x1 : Int32} {x2 : Int32} {x3 : Int32} {s0 : St} {r : Int32} {sr : St} (hL : ∀ x ∈ ([] : List Nat), x ∈ R) (h : f_X12_does N x1 x2 x3 s0 = some (r, sr)) : Fm R s0 sr := by
  have hF : Fm R s0 s0 := Fm.rf
  unfold f_X12_does at h
  refine jn_e (fun j => ∀ (v1 : Int32) (s2 : St), Fm R s0 s2 → j v1 s2 = some (r, sr) → Fm R s0 sr) h ?_ (fun j3 hj3 h => ?_)
  · intro v1 s2 hF h
    refine e_ite h (fun _ h => ?_) (fun _ h => ?_)
    · exact ret_mi h hF
    exact ret_mi h hF
  refine e_ite h (fun _ h => ?_) (fun _ h => ?_)
  · refine ald_g h (fun v4 h => ?_)
    refine bp_g h (fun v5 h => ?_)
    refine jn_e (fun j => ∀ (v6 : Int32), j v6 = some (r, sr) → Fm R s0 sr) h ?_ (fun j7 hj7 h => ?_)
    · intro v6 h
      refine ald_g h (fun v8 h => ?_)
      refine ald_m h (fun _ => Fm_aI (a := 208) hF (by decide)) (fun s9 hF h => ?_)
      exact hj3 _ _ hF h
    refine e_ite h (fun _ h => ?_) (fun _ h => ?_)
    · exact hj7 _ h
    exact hj7 _ h
  refine e_ite h (fun _ h => ?_) (fun _ h => ?_)
  · refine bp_g h (fun v10 h => ?_)
    refine e_ite h (fun _ h => ?_) (fun _ h => ?_)
    · refine ald_g h (fun v11 h => ?_)
      refine ald_m h (fun _ => Fm_aI (a := 208) hF (by decide)) (fun s12 hF h => ?_)
      exact hj3 _ _ hF h
    exact hj3 _ _ hF h
  refine e_ite h (fun _ h => ?_) (fun _ h => ?_)
  · refine bp_g h (fun v13 h => ?_)
    refine e_ite h (fun _ h => ?_) (fun _ h => ?_)
    · refine ald_g h (fun v14 h => ?_)
      refine ald_m h (fun _ => Fm_aI (a := 208) hF (by decide)) (fun s15 hF h => ?_)
      exact hj3 _ _ hF h
    exact hj3 _ _ hF h
  refine e_ite h (fun _ h => ?_) (fun _ h => ?_)
  · refine ald_g h (fun v16 h => ?_)
    refine jn_e (fun j => ∀ (v17 : Int32), j v17 = some (r, sr) → Fm R s0 sr) h ?_ (fun j18 hj18 h => ?_)
    · intro v17 h
      refine e_ite h (fun _ h => ?_) (fun _ h => ?_)
      · obtain ⟨s19, hc, h⟩ := bp_e h
        have hF := hF.trans (fm_X12_turns (hLsub hL rfl) hc)
        exact hj3 _ _ hF h
      exact hj3 _ _ hF h
    refine e_ite h (fun _ h => ?_) (fun _ h => ?_)
    · exact hj18 _ h
    exact hj18 _ h
  refine e_ite h (fun _ h => ?_) (fun _ h => ?_)
  · refine ald_g h (fun v20 h => ?_)
    refine jn_e (fun j => ∀ (v21 : Int32), j v21 = some (r, sr) → Fm R s0 sr) h ?_ (fun j22 hj22 h => ?_)
    · intro v21 h
      refine ald_m h (fun _ => Fm_aI (a := 208) hF (by decide)) (fun s23 hF h => ?_)
      exact hj3 _ _ hF h
    refine e_ite h (fun _ h => ?_) (fun _ h => ?_)
    · exact hj22 _ h
    exact hj22 _ h
  refine e_ite h (fun _ h => ?_) (fun _ h => ?_)
  · refine ald_g h (fun v24 h => ?_)
    refine jn_e (fun j => ∀ (v25 : Int32), j v25 = some (r, sr) → Fm R s0 sr) h ?_ (fun j26 hj26 h => ?_)
    · intro v25 h
      refine ald_m h (fun _ => Fm_aI (a := 208) hF (by decide)) (fun s27 hF h => ?_)
      exact hj3 _ _ hF h
    refine e_ite h (fun _ h => ?_) (fun _ h => ?_)
    · exact hj26 _ h
    exact hj26 _ h
  refine ald_g h (fun v28 h => ?_)
  refine jn_e (fun j => ∀ (v29 : Int32), j v29 = some (r, sr) → Fm R s0 sr) h ?_ (fun j30 hj30 h => ?_)
  · intro v29 h
    refine e_ite h (fun _ h => ?_) (fun _ h => ?_)
    · obtain ⟨v31, s32, hc, h⟩ := bd_e h
      have hF := hF.trans (fm_X12_goesOn (hLsub hL rfl) hc)
      exact hj3 _ _ hF h
    exact hj3 _ _ hF h
  refine e_ite h (fun _ h => ?_) (fun _ h => ?_)
  · exact hj30 _ h
  exact hj30 _ h

set_option maxHeartbeats 4000000 in
theorem fm_X12_book_L39 {R : List Nat} {N : Nat} {c7 : Int32} {k9 : St → Option (Int32 × St)} {k11 : St → Option (Int32 × St)} {s0 : St} {r : Int32} {sr : St} (hL : ∀ x ∈ ([4, 11, 12, 13, 14, 15, 16, 17, 18, 40] : List Nat), x ∈ R) (hk9 : ∀ (s10 : St), Fm R s0 s10 → k9 s10 = some (r, sr) → Fm R s0 sr) (hk11 : ∀ (s12 : St), Fm R s0 s12 → k11 s12 = some (r, sr) → Fm R s0 sr)  : ∀ (n13 : Nat) (s8 : St), Fm R s0 s8 → f_X12_book_L39 N c7 k9 k11 n13 s8 = some (r, sr) → Fm R s0 sr := by
  intro n13
  induction n13 with
  | zero =>
    intro s8 hF h
    rw [f_X12_book_L39] at h; cases h
  | succ n13 ih14 =>
    intro s8 hF h
    rw [f_X12_book_L39] at h
    refine vl_g h (fun v15 h => ?_)
    refine e_ite h (fun _ h => ?_) (fun _ h => ?_)
    · exact hk9 _ hF h
    obtain ⟨v16, s17, hc, h⟩ := bd_e h
    have hF := hF.trans (fm_X12_bookLine (hLsub hL rfl) hc)
    refine e_ite h (fun _ h => ?_) (fun _ h => ?_)
    · exact hk11 _ hF h
    obtain ⟨v18, s19, hc, h⟩ := bd_e h
    have hF := hF.trans (fm_X12_sign (hLsub hL rfl) hc)
    refine e_ite h (fun _ h => ?_) (fun _ h => ?_)
    · exact hk11 _ hF h
    refine vl_g h (fun v20 h => ?_)
    refine vl_m h (hF.sI (hL _ (by decide))) (fun s21 hF h => ?_)
    exact ih14 _ hF h

set_option maxHeartbeats 4000000 in
theorem fm_X12_book_L89 {R : List Nat} {N : Nat} {c24 : Int32} {k27 : St → Option (Int32 × St)} {s0 : St} {r : Int32} {sr : St} (hL : ∀ x ∈ ([] : List Nat), x ∈ R) (hk27 : ∀ (s28 : St), Fm R s0 s28 → k27 s28 = some (r, sr) → Fm R s0 sr)  : ∀ (n29 : Nat) (v25 : Int32) (s26 : St), Fm R s0 s26 → f_X12_book_L89 N c24 k27 n29 v25 s26 = some (r, sr) → Fm R s0 sr := by
  intro n29
  induction n29 with
  | zero =>
    intro v25 s26 hF h
    rw [f_X12_book_L89] at h; cases h
  | succ n29 ih30 =>
    intro v25 s26 hF h
    rw [f_X12_book_L89] at h
    refine e_ite h (fun _ h => ?_) (fun _ h => ?_)
    · exact hk27 _ hF h
    refine ald_m h (fun _ => Fm_aI (a := 219) hF (by decide)) (fun s31 hF h => ?_)
    refine vl_g h (fun v32 h => ?_)
    exact ih30 _ _ hF h

set_option maxHeartbeats 4000000 in
theorem fm_X12_book_L111 {R : List Nat} {N : Nat} {c34 : Int32} {k38 : Int32 → St → Option (Int32 × St)} {s0 : St} {r : Int32} {sr : St} (hL : ∀ x ∈ ([] : List Nat), x ∈ R) (hk38 : ∀ (v39 : Int32) (s40 : St), Fm R s0 s40 → k38 v39 s40 = some (r, sr) → Fm R s0 sr)  : ∀ (n41 : Nat) (v35 : Int32) (v36 : Int32) (s37 : St), Fm R s0 s37 → f_X12_book_L111 N c34 k38 n41 v35 v36 s37 = some (r, sr) → Fm R s0 sr := by
  intro n41
  induction n41 with
  | zero =>
    intro v35 v36 s37 hF h
    rw [f_X12_book_L111] at h; cases h
  | succ n41 ih42 =>
    intro v35 v36 s37 hF h
    rw [f_X12_book_L111] at h
    refine vl_g h (fun v43 h => ?_)
    refine e_ite h (fun _ h => ?_) (fun _ h => ?_)
    · exact hk38 _ _ hF h
    refine e_ite h (fun _ h => ?_) (fun _ h => ?_)
    · exact hk38 _ _ hF h
    refine ald_g h (fun v44 h => ?_)
    refine ald_g h (fun v45 h => ?_)
    refine ald_g h (fun v46 h => ?_)
    obtain ⟨v47, s48, hc, h⟩ := bd_e h
    have hF := hF.trans (fm_X12_does (hLsub hL rfl) hc)
    refine ald_m h (fun _ => Fm_aI (a := 219) hF (by decide)) (fun s49 hF h => ?_)
    refine ald_g h (fun v50 h => ?_)
    refine jn_e (fun j => ∀ (v51 : Int32) (s52 : St), Fm R s0 s52 → j v51 s52 = some (r, sr) → Fm R s0 sr) h ?_ (fun j53 hj53 h => ?_)
    · intro v51 s52 hF h
      refine vl_g h (fun v54 h => ?_)
      exact ih42 _ _ _ hF h
    refine e_ite h (fun _ h => ?_) (fun _ h => ?_)
    · refine ald_g h (fun v55 h => ?_)
      refine ald_m h (fun _ => Fm_aI (a := 219) hF (by decide)) (fun s56 hF h => ?_)
      exact hj53 _ _ hF h
    exact hj53 _ _ hF h

set_option maxHeartbeats 4000000 in
theorem fm_X12_book_L240 {R : List Nat} {N : Nat} {c69 : Int32} {c70 : Int32} {k73 : St → Option (Int32 × St)} {s0 : St} {r : Int32} {sr : St} (hL : ∀ x ∈ ([] : List Nat), x ∈ R) (hk73 : ∀ (s74 : St), Fm R s0 s74 → k73 s74 = some (r, sr) → Fm R s0 sr)  : ∀ (n75 : Nat) (v71 : Int32) (s72 : St), Fm R s0 s72 → f_X12_book_L240 N c69 c70 k73 n75 v71 s72 = some (r, sr) → Fm R s0 sr := by
  intro n75
  induction n75 with
  | zero =>
    intro v71 s72 hF h
    rw [f_X12_book_L240] at h; cases h
  | succ n75 ih76 =>
    intro v71 s72 hF h
    rw [f_X12_book_L240] at h
    refine e_ite h (fun _ h => ?_) (fun _ h => ?_)
    · exact hk73 _ hF h
    refine vl_g h (fun v77 h => ?_)
    refine ald_g h (fun v78 h => ?_)
    refine ald_m h (fun _ => Fm_aI (a := 213) hF (by decide)) (fun s79 hF h => ?_)
    refine vl_g h (fun v80 h => ?_)
    exact ih76 _ _ hF h

set_option maxHeartbeats 4000000 in
theorem fm_X12_book {R : List Nat} {N : Nat} {x1 : Int32} {s0 : St} {r : Int32} {sr : St} (hL : ∀ x ∈ ([0, 2, 3, 4, 5, 11, 12, 13, 14, 15, 16, 17, 18, 24, 40, 42] : List Nat), x ∈ R) (h : f_X12_book N x1 s0 = some (r, sr)) : Fm R s0 sr := by
  have hF : Fm R s0 s0 := Fm.rf
  unfold f_X12_book at h
  refine vl_m h (hF.sI (hL _ (by decide))) (fun s1 hF h => ?_)
  refine bp_g h (fun v2 h => ?_)
  refine e_ite h (fun _ h => ?_) (fun _ h => ?_)
  · exact ret_mi h hF
  obtain ⟨s3, hc, h⟩ := bp_e h
  have hF := hF.trans (fm_X12_taken (hLsub hL rfl) hc)
  refine vl_m h (hF.sI (hL _ (by decide))) (fun s4 hF h => ?_)
  refine vl_m h (hF.sI (hL _ (by decide))) (fun s5 hF h => ?_)
  obtain ⟨s6, hc, h⟩ := bp_e h
  have hF := hF.trans (fm_X12_next (hLsub hL rfl) hc)
  refine fm_X12_book_L39 (hLsub hL rfl) (fun s22 hF h => ?_) (fun s82 hF h => ?_) _ _ hF h
  · obtain ⟨s23, hc, h⟩ := bp_e h
    have hF := hF.trans (fm_X12_tries (hLsub hL rfl) hc)
    refine fm_X12_book_L89 (hLsub hL rfl) (fun s33 hF h => ?_) _ _ _ hF h
    refine fm_X12_book_L111 (hLsub hL rfl) (fun v57 s58 hF h => ?_) _ _ _ _ hF h
    refine ald_g h (fun v59 h => ?_)
    refine ald_m h (fun _ => Fm_aI (a := 219) hF (by decide)) (fun s60 hF h => ?_)
    refine bp_g h (fun v61 h => ?_)
    refine ald_m h (fun _ => Fm_aI (a := 219) hF (by decide)) (fun s62 hF h => ?_)
    refine vl_m h (hF.sI (hL _ (by decide))) (fun s63 hF h => ?_)
    refine jn_e (fun j => ∀ (s64 : St), Fm R s0 s64 → j s64 = some (r, sr) → Fm R s0 sr) h ?_ (fun j65 hj65 h => ?_)
    · intro s64 hF h
      refine e_ite h (fun _ h => ?_) (fun _ h => ?_)
      · obtain ⟨s66, hc, h⟩ := bp_e h
        have hF := hF.trans (fm_X12_back (hLsub hL rfl) hc)
        exact ret_mi h hF
      exact ret_mi h hF
    refine e_ite h (fun _ h => ?_) (fun _ h => ?_)
    · refine ald_g h (fun v67 h => ?_)
      refine e_ite h (fun _ h => ?_) (fun _ h => ?_)
      · exact hj65 _ hF h
      obtain ⟨s68, hc, h⟩ := bp_e h
      have hF := hF.trans (fm_X12_stores (hLsub hL rfl) hc)
      refine fm_X12_book_L240 (hLsub hL rfl) (fun s81 hF h => ?_) _ _ _ hF h
      exact hj65 _ hF h
    exact hj65 _ hF h
  refine vl_g h (fun v83 h => ?_)
  exact ret_mi h hF

set_option maxHeartbeats 4000000 in
theorem fm_X12_told {R : List Nat} {x1 : Int32} {s0 : St} {r : Int32} {sr : St} (hL : ∀ x ∈ ([0] : List Nat), x ∈ R) (h : f_X12_told x1 s0 = some (r, sr)) : Fm R s0 sr := by
  have hF : Fm R s0 s0 := Fm.rf
  unfold f_X12_told at h
  refine vl_m h (hF.sI (hL _ (by decide))) (fun s1 hF h => ?_)
  refine vl_g h (fun v2 h => ?_)
  refine jn_e (fun j => j = some (r, sr) → Fm R s0 sr) h ?_ (fun j3 hj3 h => ?_)
  · intro h
    exact ret_mi h hF
  refine e_ite h (fun _ h => ?_) (fun _ h => ?_)
  · exact hj3 h
  refine bp_g h (fun v4 h => ?_)
  refine e_ite h (fun _ h => ?_) (fun _ h => ?_)
  · exact hj3 h
  refine ald_g h (fun v5 h => ?_)
  exact ret_mi h hF

set_option maxHeartbeats 4000000 in
theorem fm_X12_code {R : List Nat} {x1 : Int32} {x2 : Int32} {x3 : Int32} {s0 : St} {sr : St} (hL : ∀ x ∈ ([44] : List Nat), x ∈ R) (h : f_X12_code x1 x2 x3 s0 = some sr) : Fm R s0 sr := by
  have hF : Fm R s0 s0 := Fm.rf
  unfold f_X12_code at h
  refine vl_g h (fun v1 h => ?_)
  refine ald_m h (fun _ => Fm_aI (a := 210) hF (by decide)) (fun s2 hF h => ?_)
  refine vl_g h (fun v3 h => ?_)
  refine ald_m h (fun _ => Fm_aI (a := 210) hF (by decide)) (fun s4 hF h => ?_)
  refine vl_g h (fun v5 h => ?_)
  refine ald_m h (fun _ => Fm_aI (a := 210) hF (by decide)) (fun s6 hF h => ?_)
  refine vl_g h (fun v7 h => ?_)
  refine vl_m h (hF.sI (hL _ (by decide))) (fun s8 hF h => ?_)
  exact ret_mv h hF

set_option maxHeartbeats 4000000 in
theorem fm_X12_joins_L0 {R : List Nat} {N : Nat} {c1 : Int32}  {s0 : St} {sr : St} (hL : ∀ x ∈ ([44, 46] : List Nat), x ∈ R)   : ∀ (n3 : Nat) (s2 : St), Fm R s0 s2 → f_X12_joins_L0 N c1 n3 s2 = some sr → Fm R s0 sr := by
  intro n3
  induction n3 with
  | zero =>
    intro s2 hF h
    rw [f_X12_joins_L0] at h; cases h
  | succ n3 ih4 =>
    intro s2 hF h
    rw [f_X12_joins_L0] at h
    refine vl_g h (fun v5 h => ?_)
    refine e_ite h (fun _ h => ?_) (fun _ h => ?_)
    · exact ret_mv h hF
    refine vl_g h (fun v6 h => ?_)
    refine ald_g h (fun v7 h => ?_)
    refine jn_e (fun j => j = some sr → Fm R s0 sr) h ?_ (fun j8 hj8 h => ?_)
    · intro h
      refine vl_g h (fun v9 h => ?_)
      refine vl_m h (hF.sI (hL _ (by decide))) (fun s10 hF h => ?_)
      refine vl_g h (fun v11 h => ?_)
      refine ald_g h (fun v12 h => ?_)
      obtain ⟨s13, hc, h⟩ := bp_e h
      have hF := hF.trans (fm_X12_code (hLsub hL rfl) hc)
      exact ih4 _ hF h
    refine e_ite h (fun _ h => ?_) (fun _ h => ?_)
    · exact hj8 h
    refine vl_g h (fun v14 h => ?_)
    refine ald_g h (fun v15 h => ?_)
    refine e_ite h (fun _ h => ?_) (fun _ h => ?_)
    · refine e_ite h (fun _ h => ?_) (fun _ h => ?_)
      · exact hj8 h
      exact ret_mv h hF
    exact ret_mv h hF

set_option maxHeartbeats 4000000 in
theorem fm_X12_joins {R : List Nat} {N : Nat} {x1 : Int32} {s0 : St} {sr : St} (hL : ∀ x ∈ ([44, 46] : List Nat), x ∈ R) (h : f_X12_joins N x1 s0 = some sr) : Fm R s0 sr := by
  have hF : Fm R s0 s0 := Fm.rf
  unfold f_X12_joins at h
  exact fm_X12_joins_L0 (hLsub hL rfl)  _ _ hF h

set_option maxHeartbeats 4000000 in
theorem fm_X12_nots_L0 {R : List Nat} {N : Nat}   {s0 : St} {sr : St} (hL : ∀ x ∈ ([44, 46, 47] : List Nat), x ∈ R)   : ∀ (n2 : Nat) (s1 : St), Fm R s0 s1 → f_X12_nots_L0 N n2 s1 = some sr → Fm R s0 sr := by
  intro n2
  induction n2 with
  | zero =>
    intro s1 hF h
    rw [f_X12_nots_L0] at h; cases h
  | succ n2 ih3 =>
    intro s1 hF h
    rw [f_X12_nots_L0] at h
    refine vl_g h (fun v4 h => ?_)
    refine e_ite h (fun _ h => ?_) (fun _ h => ?_)
    · exact ret_mv h hF
    refine vl_g h (fun v5 h => ?_)
    refine ald_g h (fun v6 h => ?_)
    refine e_ite h (fun _ h => ?_) (fun _ h => ?_)
    · refine vl_g h (fun v7 h => ?_)
      refine vl_m h (hF.sI (hL _ (by decide))) (fun s8 hF h => ?_)
      refine vl_g h (fun v9 h => ?_)
      refine vl_m h (hF.sI (hL _ (by decide))) (fun s10 hF h => ?_)
      obtain ⟨s11, hc, h⟩ := bp_e h
      have hF := hF.trans (fm_X12_code (hLsub hL rfl) hc)
      exact ih3 _ hF h
    exact ret_mv h hF

set_option maxHeartbeats 4000000 in
theorem fm_X12_nots {R : List Nat} {N : Nat}  {s0 : St} {sr : St} (hL : ∀ x ∈ ([44, 46, 47] : List Nat), x ∈ R) (h : f_X12_nots N  s0 = some sr) : Fm R s0 sr := by
  have hF : Fm R s0 s0 := Fm.rf
  unfold f_X12_nots at h
  exact fm_X12_nots_L0 (hLsub hL rfl)  _ _ hF h

set_option maxHeartbeats 4000000 in
theorem fm_X12_operand {R : List Nat} {N : Nat}  {s0 : St} {r : Int32} {sr : St} (hL : ∀ x ∈ ([4, 11, 12, 13, 14, 15, 16, 17, 18, 44, 45, 46, 47, 48] : List Nat), x ∈ R) (h : f_X12_operand N  s0 = some (r, sr)) : Fm R s0 sr := by
  have hF : Fm R s0 s0 := Fm.rf
  unfold f_X12_operand at h
  refine bp_g h (fun v1 h => ?_)
  refine bp_g h (fun v2 h => ?_)
  refine bp_g h (fun v3 h => ?_)
  refine jn_e (fun j => j = some (r, sr) → Fm R s0 sr) h ?_ (fun j4 hj4 h => ?_)
  · intro h
    refine vl_g h (fun v5 h => ?_)
    refine jn_e (fun j => j = some (r, sr) → Fm R s0 sr) h ?_ (fun j6 hj6 h => ?_)
    · intro h
      obtain ⟨v7, s8, hc, h⟩ := bd_e h
      have hF := hF.trans (fm_X12_bad (hLsub hL rfl) hc)
      refine rz_e h (fun _ h => ?_)
      exact ret_mi h hF
    refine e_ite h (fun _ h => ?_) (fun _ h => ?_)
    · exact hj6 h
    refine vl_g h (fun v9 h => ?_)
    refine e_ite h (fun _ h => ?_) (fun _ h => ?_)
    · refine vl_g h (fun v10 h => ?_)
      refine vl_m h (hF.sI (hL _ (by decide))) (fun s11 hF h => ?_)
      obtain ⟨s12, hc, h⟩ := bp_e h
      have hF := hF.trans (fm_X12_next (hLsub hL rfl) hc)
      refine jn_e (fun j => j = some (r, sr) → Fm R s0 sr) h ?_ (fun j13 hj13 h => ?_)
      · intro h
        refine vl_g h (fun v14 h => ?_)
        refine jn_e (fun j => ∀ (v15 : Int32), j v15 = some (r, sr) → Fm R s0 sr) h ?_ (fun j16 hj16 h => ?_)
        · intro v15 h
          refine ald_m h (fun _ => Fm_aI (a := 220) hF (by decide)) (fun s17 hF h => ?_)
          refine vl_g h (fun v18 h => ?_)
          refine vl_m h (hF.sI (hL _ (by decide))) (fun s19 hF h => ?_)
          refine vl_g h (fun v20 h => ?_)
          refine vl_m h (hF.sI (hL _ (by decide))) (fun s21 hF h => ?_)
          exact ret_mi h hF
        refine e_ite h (fun _ h => ?_) (fun _ h => ?_)
        · exact hj16 _ h
        exact hj16 _ h
      refine e_ite h (fun _ h => ?_) (fun _ h => ?_)
      · refine e_ite h (fun _ h => ?_) (fun _ h => ?_)
        · refine vl_m h (hF.sI (hL _ (by decide))) (fun s22 hF h => ?_)
          refine e_ite h (fun _ h => ?_) (fun _ h => ?_)
          · refine e_ite h (fun _ h => ?_) (fun _ h => ?_)
            · refine vl_g h (fun v23 h => ?_)
              refine jn_e (fun j => j = some (r, sr) → Fm R s0 sr) h ?_ (fun j24 hj24 h => ?_)
              · intro h
                obtain ⟨v25, s26, hc, h⟩ := bd_e h
                have hF := hF.trans (fm_X12_bad (hLsub hL rfl) hc)
                refine rz_e h (fun _ h => ?_)
                exact ret_mi h hF
              refine e_ite h (fun _ h => ?_) (fun _ h => ?_)
              · refine vl_g h (fun v27 h => ?_)
                refine e_ite h (fun _ h => ?_) (fun _ h => ?_)
                · exact hj24 h
                refine vl_g h (fun v28 h => ?_)
                refine e_ite h (fun _ h => ?_) (fun _ h => ?_)
                · refine vl_g h (fun v29 h => ?_)
                  obtain ⟨s30, hc, h⟩ := bp_e h
                  have hF := hF.trans (fm_X12_next (hLsub hL rfl) hc)
                  refine vl_g h (fun v31 h => ?_)
                  refine e_ite h (fun _ h => ?_) (fun _ h => ?_)
                  · refine vl_g h (fun v32 h => ?_)
                    obtain ⟨s33, hc, h⟩ := bp_e h
                    have hF := hF.trans (fm_X12_code (hLsub hL rfl) hc)
                    obtain ⟨s34, hc, h⟩ := bp_e h
                    have hF := hF.trans (fm_X12_next (hLsub hL rfl) hc)
                    exact ret_mi h hF
                  obtain ⟨v35, s36, hc, h⟩ := bd_e h
                  have hF := hF.trans (fm_X12_bad (hLsub hL rfl) hc)
                  refine rz_e h (fun _ h => ?_)
                  exact ret_mi h hF
                exact hj24 h
              exact hj24 h
            refine jn_e (fun j => ∀ (v37 : Int32) (s38 : St), Fm R s0 s38 → j v37 s38 = some (r, sr) → Fm R s0 sr) h ?_ (fun j39 hj39 h => ?_)
            · intro v37 s38 hF h
              refine e_ite h (fun _ h => ?_) (fun _ h => ?_)
              · exact ret_mi h hF
              refine vl_g h (fun v40 h => ?_)
              obtain ⟨s41, hc, h⟩ := bp_e h
              have hF := hF.trans (fm_X12_code (hLsub hL rfl) hc)
              obtain ⟨s42, hc, h⟩ := bp_e h
              have hF := hF.trans (fm_X12_next (hLsub hL rfl) hc)
              exact ret_mi h hF
            refine e_ite h (fun _ h => ?_) (fun _ h => ?_)
            · refine ald_g h (fun v43 h => ?_)
              obtain ⟨v44, s45, hc, h⟩ := bd_e h
              have hF := hF.trans (fm_X12_looksAt (hLsub hL rfl) hc)
              exact hj39 _ _ hF h
            refine ald_g h (fun v46 h => ?_)
            obtain ⟨v47, s48, hc, h⟩ := bd_e h
            have hF := hF.trans (fm_X12_looksAt (hLsub hL rfl) hc)
            exact hj39 _ _ hF h
          obtain ⟨s49, hc, h⟩ := bp_e h
          have hF := hF.trans (fm_X12_code (hLsub hL rfl) hc)
          exact ret_mi h hF
        exact hj13 h
      exact hj13 h
    exact hj6 h
  refine e_ite h (fun _ h => ?_) (fun _ h => ?_)
  · refine e_ite h (fun _ h => ?_) (fun _ h => ?_)
    · refine e_ite h (fun _ h => ?_) (fun _ h => ?_)
      · exact hj4 h
      obtain ⟨v50, s51, hc, h⟩ := bd_e h
      have hF := hF.trans (fm_X12_bad (hLsub hL rfl) hc)
      refine rz_e h (fun _ h => ?_)
      exact ret_mi h hF
    exact hj4 h
  exact hj4 h

set_option maxHeartbeats 4000000 in
theorem fm_X12_behind {R : List Nat} {N : Nat}  {s0 : St} {r : Int32} {sr : St} (hL : ∀ x ∈ ([4, 11, 12, 13, 14, 15, 16, 17, 44, 46, 47, 48] : List Nat), x ∈ R) (h : f_X12_behind N  s0 = some (r, sr)) : Fm R s0 sr := by
  have hF : Fm R s0 s0 := Fm.rf
  unfold f_X12_behind at h
  obtain ⟨s1, hc, h⟩ := bp_e h
  have hF := hF.trans (fm_X12_nots (hLsub hL rfl) hc)
  refine bp_g h (fun v2 h => ?_)
  refine jn_e (fun j => j = some (r, sr) → Fm R s0 sr) h ?_ (fun j3 hj3 h => ?_)
  · intro h
    refine bp_g h (fun v4 h => ?_)
    refine jn_e (fun j => ∀ (v5 : Int32), j v5 = some (r, sr) → Fm R s0 sr) h ?_ (fun j6 hj6 h => ?_)
    · intro v5 h
      obtain ⟨s7, hc, h⟩ := bp_e h
      have hF := hF.trans (fm_X12_joins (hLsub hL rfl) hc)
      refine vl_g h (fun v8 h => ?_)
      refine bp_g h (fun v9 h => ?_)
      refine jn_e (fun j => ∀ (v10 : Int32), j v10 = some (r, sr) → Fm R s0 sr) h ?_ (fun j11 hj11 h => ?_)
      · intro v10 h
        refine ald_m h (fun _ => Fm_aI (a := 220) hF (by decide)) (fun s12 hF h => ?_)
        refine vl_g h (fun v13 h => ?_)
        refine vl_m h (hF.sI (hL _ (by decide))) (fun s14 hF h => ?_)
        refine vl_m h (hF.sI (hL _ (by decide))) (fun s15 hF h => ?_)
        obtain ⟨s16, hc, h⟩ := bp_e h
        have hF := hF.trans (fm_X12_next (hLsub hL rfl) hc)
        exact ret_mi h hF
      refine e_ite h (fun _ h => ?_) (fun _ h => ?_)
      · exact hj11 _ h
      exact hj11 _ h
    refine e_ite h (fun _ h => ?_) (fun _ h => ?_)
    · exact hj6 _ h
    exact hj6 _ h
  refine e_ite h (fun _ h => ?_) (fun _ h => ?_)
  · refine bp_g h (fun v17 h => ?_)
    refine e_ite h (fun _ h => ?_) (fun _ h => ?_)
    · obtain ⟨s18, hc, h⟩ := bp_e h
      have hF := hF.trans (fm_X12_joins (hLsub hL rfl) hc)
      refine bp_g h (fun v19 h => ?_)
      refine jn_e (fun j => j = some (r, sr) → Fm R s0 sr) h ?_ (fun j20 hj20 h => ?_)
      · intro h
        obtain ⟨v21, s22, hc, h⟩ := bd_e h
        have hF := hF.trans (fm_X12_bad (hLsub hL rfl) hc)
        refine rz_e h (fun _ h => ?_)
        exact ret_mi h hF
      refine e_ite h (fun _ h => ?_) (fun _ h => ?_)
      · exact hj20 h
      refine vl_g h (fun v23 h => ?_)
      refine e_ite h (fun _ h => ?_) (fun _ h => ?_)
      · exact hj20 h
      refine vl_g h (fun v24 h => ?_)
      refine vl_m h (hF.sI (hL _ (by decide))) (fun s25 hF h => ?_)
      refine vl_g h (fun v26 h => ?_)
      refine vl_m h (hF.sI (hL _ (by decide))) (fun s27 hF h => ?_)
      obtain ⟨s28, hc, h⟩ := bp_e h
      have hF := hF.trans (fm_X12_next (hLsub hL rfl) hc)
      exact ret_mi h hF
    exact hj3 h
  exact hj3 h

set_option maxHeartbeats 4000000 in
theorem fm_X12_sentence_L48 {R : List Nat} {N : Nat}  {k12 : St → Option (Int32 × St)} {k14 : St → Option (Int32 × St)} {k16 : St → Option (Int32 × St)} {k18 : St → Option (Int32 × St)} {s0 : St} {r : Int32} {sr : St} (hL : ∀ x ∈ ([4, 11, 12, 13, 14, 15, 16, 17, 18, 44, 45, 46, 47, 48] : List Nat), x ∈ R) (hk12 : ∀ (s13 : St), Fm R s0 s13 → k12 s13 = some (r, sr) → Fm R s0 sr) (hk14 : ∀ (s15 : St), Fm R s0 s15 → k14 s15 = some (r, sr) → Fm R s0 sr) (hk16 : ∀ (s17 : St), Fm R s0 s17 → k16 s17 = some (r, sr) → Fm R s0 sr) (hk18 : ∀ (s19 : St), Fm R s0 s19 → k18 s19 = some (r, sr) → Fm R s0 sr)  : ∀ (n20 : Nat) (v10 : Int32) (s11 : St), Fm R s0 s11 → f_X12_sentence_L48 N k12 k14 k16 k18 n20 v10 s11 = some (r, sr) → Fm R s0 sr := by
  intro n20
  induction n20 with
  | zero =>
    intro v10 s11 hF h
    rw [f_X12_sentence_L48] at h; cases h
  | succ n20 ih21 =>
    intro v10 s11 hF h
    rw [f_X12_sentence_L48] at h
    refine e_ite h (fun _ h => ?_) (fun _ h => ?_)
    · exact hk12 _ hF h
    refine vl_g h (fun v22 h => ?_)
    refine jn_e (fun j => j = some (r, sr) → Fm R s0 sr) h ?_ (fun j23 hj23 h => ?_)
    · intro h
      refine vl_g h (fun v24 h => ?_)
      refine e_ite h (fun _ h => ?_) (fun _ h => ?_)
      · obtain ⟨v25, s26, hc, h⟩ := bd_e h
        have hF := hF.trans (fm_X12_operand (hLsub hL rfl) hc)
        refine e_ite h (fun _ h => ?_) (fun _ h => ?_)
        · exact hk16 _ hF h
        exact ih21 _ _ hF h
      obtain ⟨v27, s28, hc, h⟩ := bd_e h
      have hF := hF.trans (fm_X12_behind (hLsub hL rfl) hc)
      refine e_ite h (fun _ h => ?_) (fun _ h => ?_)
      · exact hk14 _ hF h
      exact ih21 _ _ hF h
    refine e_ite h (fun _ h => ?_) (fun _ h => ?_)
    · exact hj23 h
    refine vl_g h (fun v29 h => ?_)
    refine e_ite h (fun _ h => ?_) (fun _ h => ?_)
    · obtain ⟨s30, hc, h⟩ := bp_e h
      have hF := hF.trans (fm_X12_nots (hLsub hL rfl) hc)
      obtain ⟨s31, hc, h⟩ := bp_e h
      have hF := hF.trans (fm_X12_joins (hLsub hL rfl) hc)
      refine vl_g h (fun v32 h => ?_)
      refine e_ite h (fun _ h => ?_) (fun _ h => ?_)
      · exact ih21 _ _ hF h
      exact hk18 _ hF h
    exact hj23 h

set_option maxHeartbeats 4000000 in
theorem fm_X12_sentence_L146 {R : List Nat} {N : Nat}  {k38 : St → Option (Int32 × St)} {s0 : St} {r : Int32} {sr : St} (hL : ∀ x ∈ ([] : List Nat), x ∈ R) (hk38 : ∀ (s39 : St), Fm R s0 s39 → k38 s39 = some (r, sr) → Fm R s0 sr)  : ∀ (n40 : Nat) (v36 : Int32) (s37 : St), Fm R s0 s37 → f_X12_sentence_L146 N k38 n40 v36 s37 = some (r, sr) → Fm R s0 sr := by
  intro n40
  induction n40 with
  | zero =>
    intro v36 s37 hF h
    rw [f_X12_sentence_L146] at h; cases h
  | succ n40 ih41 =>
    intro v36 s37 hF h
    rw [f_X12_sentence_L146] at h
    refine vl_g h (fun v42 h => ?_)
    refine e_ite h (fun _ h => ?_) (fun _ h => ?_)
    · exact hk38 _ hF h
    refine ald_g h (fun v43 h => ?_)
    refine ald_m h (fun _ => Fm_aI (a := 208) hF (by decide)) (fun s44 hF h => ?_)
    refine vl_g h (fun v45 h => ?_)
    exact ih41 _ _ hF h

set_option maxHeartbeats 4000000 in
theorem fm_X12_sentence {R : List Nat} {N : Nat}  {s0 : St} {r : Int32} {sr : St} (hL : ∀ x ∈ ([0, 2, 3, 4, 5, 11, 12, 13, 14, 15, 16, 17, 18, 44, 45, 46, 47, 48] : List Nat), x ∈ R) (h : f_X12_sentence N  s0 = some (r, sr)) : Fm R s0 sr := by
  have hF : Fm R s0 s0 := Fm.rf
  unfold f_X12_sentence at h
  refine vl_m h (hF.sI (hL _ (by decide))) (fun s1 hF h => ?_)
  obtain ⟨s2, hc, h⟩ := bp_e h
  have hF := hF.trans (fm_X12_taken (hLsub hL rfl) hc)
  refine vl_m h (hF.sI (hL _ (by decide))) (fun s3 hF h => ?_)
  refine vl_m h (hF.sI (hL _ (by decide))) (fun s4 hF h => ?_)
  refine vl_m h (hF.sI (hL _ (by decide))) (fun s5 hF h => ?_)
  refine vl_m h (hF.sI (hL _ (by decide))) (fun s6 hF h => ?_)
  refine vl_m h (hF.sI (hL _ (by decide))) (fun s7 hF h => ?_)
  refine vl_m h (hF.sI (hL _ (by decide))) (fun s8 hF h => ?_)
  obtain ⟨s9, hc, h⟩ := bp_e h
  have hF := hF.trans (fm_X12_next (hLsub hL rfl) hc)
  refine fm_X12_sentence_L48 (hLsub hL rfl) (fun s33 hF h => ?_) (fun s48 hF h => ?_) (fun s50 hF h => ?_) (fun s52 hF h => ?_) _ _ _ hF h
  · refine vl_g h (fun v34 h => ?_)
    refine ald_m h (fun _ => Fm_aI (a := 208) hF (by decide)) (fun s35 hF h => ?_)
    refine fm_X12_sentence_L146 (hLsub hL rfl) (fun s46 hF h => ?_) _ _ _ hF h
    refine vl_g h (fun v47 h => ?_)
    exact ret_mi h hF
  · refine vl_g h (fun v49 h => ?_)
    exact ret_mi h hF
  · refine vl_g h (fun v51 h => ?_)
    exact ret_mi h hF
  obtain ⟨v53, s54, hc, h⟩ := bd_e h
  have hF := hF.trans (fm_X12_bad (hLsub hL rfl) hc)
  refine vl_g h (fun v55 h => ?_)
  exact ret_mi h hF

set_option maxHeartbeats 4000000 in
theorem fm_X12_isSaid_L4 {R : List Nat} {N : Nat} {c1 : Int32} {k5 : St → Option (Int32 × St)} {s0 : St} {r : Int32} {sr : St} (hL : ∀ x ∈ ([] : List Nat), x ∈ R) (hk5 : ∀ (s6 : St), Fm R s0 s6 → k5 s6 = some (r, sr) → Fm R s0 sr)  : ∀ (n7 : Nat) (v2 : Int32) (v3 : Int32) (s4 : St), Fm R s0 s4 → f_X12_isSaid_L4 N c1 k5 n7 v2 v3 s4 = some (r, sr) → Fm R s0 sr := by
  intro n7
  induction n7 with
  | zero =>
    intro v2 v3 s4 hF h
    rw [f_X12_isSaid_L4] at h; cases h
  | succ n7 ih8 =>
    intro v2 v3 s4 hF h
    rw [f_X12_isSaid_L4] at h
    refine ald_g h (fun v9 h => ?_)
    refine e_ite h (fun _ h => ?_) (fun _ h => ?_)
    · exact hk5 _ hF h
    refine vl_g h (fun v10 h => ?_)
    refine ald_g h (fun v11 h => ?_)
    refine jn_e (fun j => ∀ (v12 : Int32) (s13 : St), Fm R s0 s13 → j v12 s13 = some (r, sr) → Fm R s0 sr) h ?_ (fun j14 hj14 h => ?_)
    · intro v12 s13 hF h
      refine vl_g h (fun v15 h => ?_)
      exact ih8 _ _ _ hF h
    refine e_ite h (fun _ h => ?_) (fun _ h => ?_)
    · refine ald_g h (fun v16 h => ?_)
      refine jn_e (fun j => ∀ (v17 : Int32), j v17 = some (r, sr) → Fm R s0 sr) h ?_ (fun j18 hj18 h => ?_)
      · intro v17 h
        refine ald_m h (fun _ => Fm_aI (a := 221) hF (by decide)) (fun s19 hF h => ?_)
        exact hj14 _ _ hF h
      refine e_ite h (fun _ h => ?_) (fun _ h => ?_)
      · exact hj18 _ h
      exact hj18 _ h
    refine ald_g h (fun v20 h => ?_)
    refine jn_e (fun j => j = some (r, sr) → Fm R s0 sr) h ?_ (fun j21 hj21 h => ?_)
    · intro h
      refine vl_g h (fun v22 h => ?_)
      refine ald_g h (fun v23 h => ?_)
      refine jn_e (fun j => ∀ (v24 : Int32), j v24 = some (r, sr) → Fm R s0 sr) h ?_ (fun j25 hj25 h => ?_)
      · intro v24 h
        refine ald_m h (fun _ => Fm_aI (a := 221) hF (by decide)) (fun s26 hF h => ?_)
        exact hj14 _ _ hF h
      refine e_ite h (fun _ h => ?_) (fun _ h => ?_)
      · refine ald_g h (fun v27 h => ?_)
        refine jn_e (fun j => j = some (r, sr) → Fm R s0 sr) h ?_ (fun j28 hj28 h => ?_)
        · intro h
          exact hj25 _ h
        refine e_ite h (fun _ h => ?_) (fun _ h => ?_)
        · exact hj28 h
        refine ald_g h (fun v29 h => ?_)
        refine e_ite h (fun _ h => ?_) (fun _ h => ?_)
        · exact hj28 h
        exact hj25 _ h
      refine ald_g h (fun v30 h => ?_)
      refine jn_e (fun j => j = some (r, sr) → Fm R s0 sr) h ?_ (fun j31 hj31 h => ?_)
      · intro h
        exact hj25 _ h
      refine e_ite h (fun _ h => ?_) (fun _ h => ?_)
      · refine ald_g h (fun v32 h => ?_)
        refine e_ite h (fun _ h => ?_) (fun _ h => ?_)
        · exact hj25 _ h
        exact hj31 h
      exact hj31 h
    refine e_ite h (fun _ h => ?_) (fun _ h => ?_)
    · exact hj21 h
    refine ald_g h (fun v33 h => ?_)
    refine e_ite h (fun _ h => ?_) (fun _ h => ?_)
    · exact hj21 h
    refine ald_g h (fun v34 h => ?_)
    refine ald_g h (fun v35 h => ?_)
    refine ald_g h (fun v36 h => ?_)
    refine bp_g h (fun v37 h => ?_)
    refine ald_m h (fun _ => Fm_aI (a := 221) hF (by decide)) (fun s38 hF h => ?_)
    refine vl_g h (fun v39 h => ?_)
    exact hj14 _ _ hF h

set_option maxHeartbeats 4000000 in
theorem fm_X12_isSaid {R : List Nat} {N : Nat} {x1 : Int32} {s0 : St} {r : Int32} {sr : St} (hL : ∀ x ∈ ([] : List Nat), x ∈ R) (h : f_X12_isSaid N x1 s0 = some (r, sr)) : Fm R s0 sr := by
  have hF : Fm R s0 s0 := Fm.rf
  unfold f_X12_isSaid at h
  refine fm_X12_isSaid_L4 (hLsub hL rfl) (fun s40 hF h => ?_) _ _ _ _ hF h
  refine ald_g h (fun v41 h => ?_)
  refine rz_e h (fun _ h => ?_)
  exact ret_mi h hF

set_option maxHeartbeats 4000000 in
theorem fm_X12_said_L27 {R : List Nat} {N : Nat} {c3 : Int32} {k7 : Int32 → St → Option (Int32 × St)} {s0 : St} {r : Int32} {sr : St} (hL : ∀ x ∈ ([] : List Nat), x ∈ R) (hk7 : ∀ (v8 : Int32) (s9 : St), Fm R s0 s9 → k7 v8 s9 = some (r, sr) → Fm R s0 sr)  : ∀ (n10 : Nat) (v4 : Int32) (v5 : Int32) (s6 : St), Fm R s0 s6 → f_X12_said_L27 N c3 k7 n10 v4 v5 s6 = some (r, sr) → Fm R s0 sr := by
  intro n10
  induction n10 with
  | zero =>
    intro v4 v5 s6 hF h
    rw [f_X12_said_L27] at h; cases h
  | succ n10 ih11 =>
    intro v4 v5 s6 hF h
    rw [f_X12_said_L27] at h
    refine ald_g h (fun v12 h => ?_)
    refine e_ite h (fun _ h => ?_) (fun _ h => ?_)
    · exact hk7 _ _ hF h
    obtain ⟨v13, s14, hc, h⟩ := bd_e h
    have hF := hF.trans (fm_X12_isSaid (hLsub hL rfl) hc)
    refine jn_e (fun j => ∀ (v15 : Int32), j v15 = some (r, sr) → Fm R s0 sr) h ?_ (fun j16 hj16 h => ?_)
    · intro v15 h
      refine vl_g h (fun v17 h => ?_)
      exact ih11 _ _ _ hF h
    refine e_ite h (fun _ h => ?_) (fun _ h => ?_)
    · exact hj16 _ h
    refine e_ite h (fun _ h => ?_) (fun _ h => ?_)
    · exact ret_mi h hF
    refine vl_g h (fun v18 h => ?_)
    exact hj16 _ h

set_option maxHeartbeats 4000000 in
theorem fm_X12_said {R : List Nat} {N : Nat} {x1 : Int32} {s0 : St} {r : Int32} {sr : St} (hL : ∀ x ∈ ([0] : List Nat), x ∈ R) (h : f_X12_said N x1 s0 = some (r, sr)) : Fm R s0 sr := by
  have hF : Fm R s0 s0 := Fm.rf
  unfold f_X12_said at h
  refine vl_m h (hF.sI (hL _ (by decide))) (fun s1 hF h => ?_)
  refine ald_g h (fun v2 h => ?_)
  refine e_ite h (fun _ h => ?_) (fun _ h => ?_)
  · exact ret_mi h hF
  refine e_ite h (fun _ h => ?_) (fun _ h => ?_)
  · refine fm_X12_said_L27 (hLsub hL rfl) (fun v19 s20 hF h => ?_) _ _ _ _ hF h
    refine e_ite h (fun _ h => ?_) (fun _ h => ?_)
    · exact ret_mi h hF
    exact ret_mi h hF
  exact ret_mi h hF

set_option maxHeartbeats 4000000 in
theorem fm_X12_image_L18 {R : List Nat} {N : Nat} {c3 : Int32} {k6 : St → Option (Int32 × St)} {s0 : St} {r : Int32} {sr : St} (hL : ∀ x ∈ ([] : List Nat), x ∈ R) (hk6 : ∀ (s7 : St), Fm R s0 s7 → k6 s7 = some (r, sr) → Fm R s0 sr)  : ∀ (n8 : Nat) (v4 : Int32) (s5 : St), Fm R s0 s5 → f_X12_image_L18 N c3 k6 n8 v4 s5 = some (r, sr) → Fm R s0 sr := by
  intro n8
  induction n8 with
  | zero =>
    intro v4 s5 hF h
    rw [f_X12_image_L18] at h; cases h
  | succ n8 ih9 =>
    intro v4 s5 hF h
    rw [f_X12_image_L18] at h
    refine e_ite h (fun _ h => ?_) (fun _ h => ?_)
    · exact hk6 _ hF h
    refine ald_g h (fun v10 h => ?_)
    refine ald_m h (fun _ => Fm_aI (a := 222) hF (by decide)) (fun s11 hF h => ?_)
    refine vl_g h (fun v12 h => ?_)
    exact ih9 _ _ hF h

set_option maxHeartbeats 4000000 in
theorem fm_X12_image_L51 {R : List Nat} {N : Nat} {c14 : Int32} {k17 : St → Option (Int32 × St)} {s0 : St} {r : Int32} {sr : St} (hL : ∀ x ∈ ([] : List Nat), x ∈ R) (hk17 : ∀ (s18 : St), Fm R s0 s18 → k17 s18 = some (r, sr) → Fm R s0 sr)  : ∀ (n19 : Nat) (v15 : Int32) (s16 : St), Fm R s0 s16 → f_X12_image_L51 N c14 k17 n19 v15 s16 = some (r, sr) → Fm R s0 sr := by
  intro n19
  induction n19 with
  | zero =>
    intro v15 s16 hF h
    rw [f_X12_image_L51] at h; cases h
  | succ n19 ih20 =>
    intro v15 s16 hF h
    rw [f_X12_image_L51] at h
    refine e_ite h (fun _ h => ?_) (fun _ h => ?_)
    · exact hk17 _ hF h
    refine ald_g h (fun v21 h => ?_)
    refine ald_m h (fun _ => Fm_aL (a := 223) hF (by decide)) (fun s22 hF h => ?_)
    refine vl_g h (fun v23 h => ?_)
    exact ih20 _ _ hF h

set_option maxHeartbeats 4000000 in
theorem fm_X12_image {R : List Nat} {N : Nat} {x1 : Int32} {s0 : St} {r : Int32} {sr : St} (hL : ∀ x ∈ ([0] : List Nat), x ∈ R) (h : f_X12_image N x1 s0 = some (r, sr)) : Fm R s0 sr := by
  have hF : Fm R s0 s0 := Fm.rf
  unfold f_X12_image at h
  refine vl_m h (hF.sI (hL _ (by decide))) (fun s1 hF h => ?_)
  refine bp_g h (fun v2 h => ?_)
  refine e_ite h (fun _ h => ?_) (fun _ h => ?_)
  · exact ret_mi h hF
  refine fm_X12_image_L18 (hLsub hL rfl) (fun s13 hF h => ?_) _ _ _ hF h
  refine fm_X12_image_L51 (hLsub hL rfl) (fun s24 hF h => ?_) _ _ _ hF h
  refine ald_m h (fun _ => Fm_aI (a := 224) hF (by decide)) (fun s25 hF h => ?_)
  exact ret_mi h hF

set_option maxHeartbeats 4000000 in
theorem fm_X12_restore_L27 {R : List Nat} {N : Nat} {c4 : Int32} {k7 : St → Option (Int32 × St)} {s0 : St} {r : Int32} {sr : St} (hL : ∀ x ∈ ([] : List Nat), x ∈ R) (hk7 : ∀ (s8 : St), Fm R s0 s8 → k7 s8 = some (r, sr) → Fm R s0 sr)  : ∀ (n9 : Nat) (v5 : Int32) (s6 : St), Fm R s0 s6 → f_X12_restore_L27 N c4 k7 n9 v5 s6 = some (r, sr) → Fm R s0 sr := by
  intro n9
  induction n9 with
  | zero =>
    intro v5 s6 hF h
    rw [f_X12_restore_L27] at h; cases h
  | succ n9 ih10 =>
    intro v5 s6 hF h
    rw [f_X12_restore_L27] at h
    refine e_ite h (fun _ h => ?_) (fun _ h => ?_)
    · exact hk7 _ hF h
    refine ald_g h (fun v11 h => ?_)
    refine ald_m h (fun _ => Fm_aI (a := 208) hF (by decide)) (fun s12 hF h => ?_)
    refine vl_g h (fun v13 h => ?_)
    exact ih10 _ _ hF h

set_option maxHeartbeats 4000000 in
theorem fm_X12_restore_L60 {R : List Nat} {N : Nat} {c15 : Int32} {k18 : St → Option (Int32 × St)} {s0 : St} {r : Int32} {sr : St} (hL : ∀ x ∈ ([] : List Nat), x ∈ R) (hk18 : ∀ (s19 : St), Fm R s0 s19 → k18 s19 = some (r, sr) → Fm R s0 sr)  : ∀ (n20 : Nat) (v16 : Int32) (s17 : St), Fm R s0 s17 → f_X12_restore_L60 N c15 k18 n20 v16 s17 = some (r, sr) → Fm R s0 sr := by
  intro n20
  induction n20 with
  | zero =>
    intro v16 s17 hF h
    rw [f_X12_restore_L60] at h; cases h
  | succ n20 ih21 =>
    intro v16 s17 hF h
    rw [f_X12_restore_L60] at h
    refine e_ite h (fun _ h => ?_) (fun _ h => ?_)
    · exact hk18 _ hF h
    refine ald_g h (fun v22 h => ?_)
    refine ald_m h (fun _ => Fm_aL (a := 211) hF (by decide)) (fun s23 hF h => ?_)
    refine vl_g h (fun v24 h => ?_)
    exact ih21 _ _ hF h

set_option maxHeartbeats 4000000 in
theorem fm_X12_restore {R : List Nat} {N : Nat} {x1 : Int32} {s0 : St} {r : Int32} {sr : St} (hL : ∀ x ∈ ([0, 24] : List Nat), x ∈ R) (h : f_X12_restore N x1 s0 = some (r, sr)) : Fm R s0 sr := by
  have hF : Fm R s0 s0 := Fm.rf
  unfold f_X12_restore at h
  refine vl_m h (hF.sI (hL _ (by decide))) (fun s1 hF h => ?_)
  refine bp_g h (fun v2 h => ?_)
  refine e_ite h (fun _ h => ?_) (fun _ h => ?_)
  · exact ret_mi h hF
  refine ald_g h (fun v3 h => ?_)
  refine e_ite h (fun _ h => ?_) (fun _ h => ?_)
  · exact ret_mi h hF
  refine fm_X12_restore_L27 (hLsub hL rfl) (fun s14 hF h => ?_) _ _ _ hF h
  refine fm_X12_restore_L60 (hLsub hL rfl) (fun s25 hF h => ?_) _ _ _ hF h
  refine vl_m h (hF.sI (hL _ (by decide))) (fun s26 hF h => ?_)
  exact ret_mi h hF

set_option maxHeartbeats 4000000 in
theorem fm_X12_count {R : List Nat} {x1 : Int32} {s0 : St} {r : Int32} {sr : St} (hL : ∀ x ∈ ([0] : List Nat), x ∈ R) (h : f_X12_count x1 s0 = some (r, sr)) : Fm R s0 sr := by
  have hF : Fm R s0 s0 := Fm.rf
  unfold f_X12_count at h
  refine vl_m h (hF.sI (hL _ (by decide))) (fun s1 hF h => ?_)
  refine e_ite h (fun _ h => ?_) (fun _ h => ?_)
  · refine vl_g h (fun v2 h => ?_)
    exact ret_mi h hF
  refine bp_g h (fun v3 h => ?_)
  refine e_ite h (fun _ h => ?_) (fun _ h => ?_)
  · exact ret_mi h hF
  refine ald_g h (fun v4 h => ?_)
  exact ret_mi h hF

set_option maxHeartbeats 4000000 in
theorem fm_X12_feed {R : List Nat} {N : Nat} {x1 : Int32} {x2 : Int32} {x3 : Int32} {x4 : Int32} {x5 : Int32} {s0 : St} {r : Int32} {sr : St} (hL : ∀ x ∈ ([0, 2] : List Nat), x ∈ R) (h : f_X12_feed N x1 x2 x3 x4 x5 s0 = some (r, sr)) : Fm R s0 sr := by
  have hF : Fm R s0 s0 := Fm.rf
  unfold f_X12_feed at h
  refine vl_m h (hF.sI (hL _ (by decide))) (fun s1 hF h => ?_)
  refine vl_g h (fun v2 h => ?_)
  refine e_ite h (fun _ h => ?_) (fun _ h => ?_)
  · obtain ⟨s3, hc, h⟩ := bp_e h
    have hF := hF.trans (fm_X12_four (hLsub hL rfl) hc)
    obtain ⟨s4, hc, h⟩ := bp_e h
    have hF := hF.trans (fm_X12_four (hLsub hL rfl) hc)
    obtain ⟨s5, hc, h⟩ := bp_e h
    have hF := hF.trans (fm_X12_four (hLsub hL rfl) hc)
    obtain ⟨s6, hc, h⟩ := bp_e h
    have hF := hF.trans (fm_X12_four (hLsub hL rfl) hc)
    obtain ⟨s7, hc, h⟩ := bp_e h
    have hF := hF.trans (fm_X12_four (hLsub hL rfl) hc)
    refine vl_g h (fun v8 h => ?_)
    exact ret_mi h hF
  exact ret_mi h hF

set_option maxHeartbeats 4000000 in
theorem fm_X12_readLine {R : List Nat} {N : Nat}  {s0 : St} {r : Int32} {sr : St} (hL : ∀ x ∈ ([4, 11, 12, 13, 14, 15, 16, 17, 18, 20, 21] : List Nat), x ∈ R) (h : f_X12_readLine N  s0 = some (r, sr)) : Fm R s0 sr := by
  have hF : Fm R s0 s0 := Fm.rf
  unfold f_X12_readLine at h
  refine bp_g h (fun v1 h => ?_)
  refine e_ite h (fun _ h => ?_) (fun _ h => ?_)
  · refine bp_g h (fun v2 h => ?_)
    refine e_ite h (fun _ h => ?_) (fun _ h => ?_)
    · refine bp_g h (fun v3 h => ?_)
      refine e_ite h (fun _ h => ?_) (fun _ h => ?_)
      · refine bp_g h (fun v4 h => ?_)
        refine e_ite h (fun _ h => ?_) (fun _ h => ?_)
        · refine bp_g h (fun v5 h => ?_)
          refine e_ite h (fun _ h => ?_) (fun _ h => ?_)
          · refine bp_g h (fun v6 h => ?_)
            refine e_ite h (fun _ h => ?_) (fun _ h => ?_)
            · obtain ⟨v7, s8, hc, h⟩ := bd_e h
              have hF := hF.trans (fm_X12_bad (hLsub hL rfl) hc)
              refine rz_e h (fun _ h => ?_)
              exact ret_mi h hF
            refine vl_g h (fun v9 h => ?_)
            refine e_ite h (fun _ h => ?_) (fun _ h => ?_)
            · refine vl_m h (hF.sI (hL _ (by decide))) (fun s10 hF h => ?_)
              obtain ⟨s11, hc, h⟩ := bp_e h
              have hF := hF.trans (fm_X12_next (hLsub hL rfl) hc)
              obtain ⟨v12, s13, hc, h⟩ := bd_e h
              have hF := hF.trans (fm_X12_puts (hLsub hL rfl) hc)
              refine rz_e h (fun _ h => ?_)
              exact ret_mi h hF
            obtain ⟨v14, s15, hc, h⟩ := bd_e h
            have hF := hF.trans (fm_X12_bad (hLsub hL rfl) hc)
            refine rz_e h (fun _ h => ?_)
            exact ret_mi h hF
          obtain ⟨v16, s17, hc, h⟩ := bd_e h
          have hF := hF.trans (fm_X12_readShip (hLsub hL rfl) hc)
          refine rz_e h (fun _ h => ?_)
          exact ret_mi h hF
        obtain ⟨v18, s19, hc, h⟩ := bd_e h
        have hF := hF.trans (fm_X12_readDark (hLsub hL rfl) hc)
        refine rz_e h (fun _ h => ?_)
        exact ret_mi h hF
      obtain ⟨v20, s21, hc, h⟩ := bd_e h
      have hF := hF.trans (fm_X12_readFrom (hLsub hL rfl) hc)
      refine rz_e h (fun _ h => ?_)
      exact ret_mi h hF
    obtain ⟨v22, s23, hc, h⟩ := bd_e h
    have hF := hF.trans (fm_X12_readFlash (hLsub hL rfl) hc)
    refine rz_e h (fun _ h => ?_)
    exact ret_mi h hF
  obtain ⟨v24, s25, hc, h⟩ := bd_e h
  have hF := hF.trans (fm_X12_readLight (hLsub hL rfl) hc)
  refine rz_e h (fun _ h => ?_)
  exact ret_mi h hF

set_option maxHeartbeats 4000000 in
theorem fm_X12_chart_L40 {R : List Nat} {N : Nat}  {k10 : St → Option (Int32 × St)} {k12 : St → Option (Int32 × St)} {s0 : St} {r : Int32} {sr : St} (hL : ∀ x ∈ ([4, 11, 12, 13, 14, 15, 16, 17, 18, 19, 20, 21] : List Nat), x ∈ R) (hk10 : ∀ (s11 : St), Fm R s0 s11 → k10 s11 = some (r, sr) → Fm R s0 sr) (hk12 : ∀ (s13 : St), Fm R s0 s13 → k12 s13 = some (r, sr) → Fm R s0 sr)  : ∀ (n14 : Nat) (s9 : St), Fm R s0 s9 → f_X12_chart_L40 N k10 k12 n14 s9 = some (r, sr) → Fm R s0 sr := by
  intro n14
  induction n14 with
  | zero =>
    intro s9 hF h
    rw [f_X12_chart_L40] at h; cases h
  | succ n14 ih15 =>
    intro s9 hF h
    rw [f_X12_chart_L40] at h
    refine vl_g h (fun v16 h => ?_)
    refine e_ite h (fun _ h => ?_) (fun _ h => ?_)
    · exact hk10 _ hF h
    obtain ⟨v17, s18, hc, h⟩ := bd_e h
    have hF := hF.trans (fm_X12_readLine (hLsub hL rfl) hc)
    refine e_ite h (fun _ h => ?_) (fun _ h => ?_)
    · exact hk12 _ hF h
    obtain ⟨v19, s20, hc, h⟩ := bd_e h
    have hF := hF.trans (fm_X12_sign (hLsub hL rfl) hc)
    refine e_ite h (fun _ h => ?_) (fun _ h => ?_)
    · exact hk12 _ hF h
    refine vl_g h (fun v21 h => ?_)
    refine vl_m h (hF.sI (hL _ (by decide))) (fun s22 hF h => ?_)
    exact ih15 _ hF h

set_option maxHeartbeats 4000000 in
theorem fm_X12_chart_L85 {R : List Nat} {N : Nat}  {k26 : St → Option (Int32 × St)} {s0 : St} {r : Int32} {sr : St} (hL : ∀ x ∈ ([] : List Nat), x ∈ R) (hk26 : ∀ (s27 : St), Fm R s0 s27 → k26 s27 = some (r, sr) → Fm R s0 sr)  : ∀ (n28 : Nat) (v24 : Int32) (s25 : St), Fm R s0 s25 → f_X12_chart_L85 N k26 n28 v24 s25 = some (r, sr) → Fm R s0 sr := by
  intro n28
  induction n28 with
  | zero =>
    intro v24 s25 hF h
    rw [f_X12_chart_L85] at h; cases h
  | succ n28 ih29 =>
    intro v24 s25 hF h
    rw [f_X12_chart_L85] at h
    refine e_ite h (fun _ h => ?_) (fun _ h => ?_)
    · exact hk26 _ hF h
    refine jn_e (fun j => ∀ (v30 : Int32), j v30 = some (r, sr) → Fm R s0 sr) h ?_ (fun j31 hj31 h => ?_)
    · intro v30 h
      refine ald_m h (fun _ => Fm_aI (a := 208) hF (by decide)) (fun s32 hF h => ?_)
      refine vl_g h (fun v33 h => ?_)
      exact ih29 _ _ hF h
    refine e_ite h (fun _ h => ?_) (fun _ h => ?_)
    · exact hj31 _ h
    refine ald_g h (fun v34 h => ?_)
    exact hj31 _ h

set_option maxHeartbeats 4000000 in
theorem fm_X12_chart_L123 {R : List Nat} {N : Nat}  {k38 : St → Option (Int32 × St)} {s0 : St} {r : Int32} {sr : St} (hL : ∀ x ∈ ([] : List Nat), x ∈ R) (hk38 : ∀ (s39 : St), Fm R s0 s39 → k38 s39 = some (r, sr) → Fm R s0 sr)  : ∀ (n40 : Nat) (v36 : Int32) (s37 : St), Fm R s0 s37 → f_X12_chart_L123 N k38 n40 v36 s37 = some (r, sr) → Fm R s0 sr := by
  intro n40
  induction n40 with
  | zero =>
    intro v36 s37 hF h
    rw [f_X12_chart_L123] at h; cases h
  | succ n40 ih41 =>
    intro v36 s37 hF h
    rw [f_X12_chart_L123] at h
    refine e_ite h (fun _ h => ?_) (fun _ h => ?_)
    · exact hk38 _ hF h
    refine ald_g h (fun v42 h => ?_)
    refine ald_m h (fun _ => Fm_aL (a := 211) hF (by decide)) (fun s43 hF h => ?_)
    refine vl_g h (fun v44 h => ?_)
    exact ih41 _ _ hF h

set_option maxHeartbeats 4000000 in
theorem fm_X12_chart_L166 {R : List Nat} {N : Nat}  {k50 : St → Option (Int32 × St)} {s0 : St} {r : Int32} {sr : St} (hL : ∀ x ∈ ([] : List Nat), x ∈ R) (hk50 : ∀ (s51 : St), Fm R s0 s51 → k50 s51 = some (r, sr) → Fm R s0 sr)  : ∀ (n52 : Nat) (v48 : Int32) (s49 : St), Fm R s0 s49 → f_X12_chart_L166 N k50 n52 v48 s49 = some (r, sr) → Fm R s0 sr := by
  intro n52
  induction n52 with
  | zero =>
    intro v48 s49 hF h
    rw [f_X12_chart_L166] at h; cases h
  | succ n52 ih53 =>
    intro v48 s49 hF h
    rw [f_X12_chart_L166] at h
    refine e_ite h (fun _ h => ?_) (fun _ h => ?_)
    · exact hk50 _ hF h
    refine ald_g h (fun v54 h => ?_)
    refine ald_m h (fun _ => Fm_aI (a := 208) hF (by decide)) (fun s55 hF h => ?_)
    refine ald_g h (fun v56 h => ?_)
    refine ald_m h (fun _ => Fm_aI (a := 208) hF (by decide)) (fun s57 hF h => ?_)
    refine vl_g h (fun v58 h => ?_)
    exact ih53 _ _ hF h

set_option maxHeartbeats 4000000 in
theorem fm_X12_chart_L218 {R : List Nat} {N : Nat}  {k62 : St → Option (Int32 × St)} {s0 : St} {r : Int32} {sr : St} (hL : ∀ x ∈ ([] : List Nat), x ∈ R) (hk62 : ∀ (s63 : St), Fm R s0 s63 → k62 s63 = some (r, sr) → Fm R s0 sr)  : ∀ (n64 : Nat) (v60 : Int32) (s61 : St), Fm R s0 s61 → f_X12_chart_L218 N k62 n64 v60 s61 = some (r, sr) → Fm R s0 sr := by
  intro n64
  induction n64 with
  | zero =>
    intro v60 s61 hF h
    rw [f_X12_chart_L218] at h; cases h
  | succ n64 ih65 =>
    intro v60 s61 hF h
    rw [f_X12_chart_L218] at h
    refine e_ite h (fun _ h => ?_) (fun _ h => ?_)
    · exact hk62 _ hF h
    refine ald_g h (fun v66 h => ?_)
    refine ald_m h (fun _ => Fm_aI (a := 208) hF (by decide)) (fun s67 hF h => ?_)
    refine ald_g h (fun v68 h => ?_)
    refine ald_m h (fun _ => Fm_aI (a := 208) hF (by decide)) (fun s69 hF h => ?_)
    refine ald_g h (fun v70 h => ?_)
    refine ald_m h (fun _ => Fm_aI (a := 208) hF (by decide)) (fun s71 hF h => ?_)
    refine vl_g h (fun v72 h => ?_)
    exact ih65 _ _ hF h

set_option maxHeartbeats 4000000 in
theorem fm_X12_chart {R : List Nat} {N : Nat}  {s0 : St} {r : Int32} {sr : St} (hL : ∀ x ∈ ([0, 2, 3, 4, 5, 11, 12, 13, 14, 15, 16, 17, 18, 19, 20, 21, 24] : List Nat), x ∈ R) (h : f_X12_chart N  s0 = some (r, sr)) : Fm R s0 sr := by
  have hF : Fm R s0 s0 := Fm.rf
  unfold f_X12_chart at h
  refine vl_m h (hF.sI (hL _ (by decide))) (fun s1 hF h => ?_)
  obtain ⟨s2, hc, h⟩ := bp_e h
  have hF := hF.trans (fm_X12_taken (hLsub hL rfl) hc)
  refine vl_m h (hF.sI (hL _ (by decide))) (fun s3 hF h => ?_)
  refine vl_m h (hF.sI (hL _ (by decide))) (fun s4 hF h => ?_)
  refine vl_m h (hF.sI (hL _ (by decide))) (fun s5 hF h => ?_)
  refine vl_m h (hF.sI (hL _ (by decide))) (fun s6 hF h => ?_)
  obtain ⟨s7, hc, h⟩ := bp_e h
  have hF := hF.trans (fm_X12_clears (hLsub hL rfl) hc)
  obtain ⟨s8, hc, h⟩ := bp_e h
  have hF := hF.trans (fm_X12_next (hLsub hL rfl) hc)
  refine fm_X12_chart_L40 (hLsub hL rfl) (fun s23 hF h => ?_) (fun s76 hF h => ?_) _ _ hF h
  · refine fm_X12_chart_L85 (hLsub hL rfl) (fun s35 hF h => ?_) _ _ _ hF h
    refine fm_X12_chart_L123 (hLsub hL rfl) (fun s45 hF h => ?_) _ _ _ hF h
    refine ald_g h (fun v46 h => ?_)
    refine ald_m h (fun _ => Fm_aI (a := 208) hF (by decide)) (fun s47 hF h => ?_)
    refine fm_X12_chart_L166 (hLsub hL rfl) (fun s59 hF h => ?_) _ _ _ hF h
    refine fm_X12_chart_L218 (hLsub hL rfl) (fun s73 hF h => ?_) _ _ _ hF h
    refine vl_m h (hF.sI (hL _ (by decide))) (fun s74 hF h => ?_)
    refine vl_g h (fun v75 h => ?_)
    exact ret_mi h hF
  refine vl_g h (fun v77 h => ?_)
  exact ret_mi h hF

set_option maxHeartbeats 4000000 in
theorem fm_X12_douse {R : List Nat} {N : Nat} {x1 : Int32} {s0 : St} {r : Int32} {sr : St} (hL : ∀ x ∈ ([0, 24] : List Nat), x ∈ R) (h : f_X12_douse N x1 s0 = some (r, sr)) : Fm R s0 sr := by
  have hF : Fm R s0 s0 := Fm.rf
  unfold f_X12_douse at h
  refine vl_m h (hF.sI (hL _ (by decide))) (fun s1 hF h => ?_)
  refine bp_g h (fun v2 h => ?_)
  refine e_ite h (fun _ h => ?_) (fun _ h => ?_)
  · exact ret_mi h hF
  refine ald_g h (fun v3 h => ?_)
  refine bp_g h (fun v4 h => ?_)
  refine e_ite h (fun _ h => ?_) (fun _ h => ?_)
  · obtain ⟨s5, hc, h⟩ := bp_e h
    have hF := hF.trans (fm_X12_stores (hLsub hL rfl) hc)
    refine ald_g h (fun v6 h => ?_)
    refine ald_m h (fun _ => Fm_aI (a := 208) hF (by decide)) (fun s7 hF h => ?_)
    exact ret_mi h hF
  exact ret_mi h hF

set_option maxHeartbeats 4000000 in
theorem fm_X12_kindle {R : List Nat} {N : Nat} {x1 : Int32} {s0 : St} {r : Int32} {sr : St} (hL : ∀ x ∈ ([0, 24] : List Nat), x ∈ R) (h : f_X12_kindle N x1 s0 = some (r, sr)) : Fm R s0 sr := by
  have hF : Fm R s0 s0 := Fm.rf
  unfold f_X12_kindle at h
  refine vl_m h (hF.sI (hL _ (by decide))) (fun s1 hF h => ?_)
  refine bp_g h (fun v2 h => ?_)
  refine e_ite h (fun _ h => ?_) (fun _ h => ?_)
  · exact ret_mi h hF
  refine bp_g h (fun v3 h => ?_)
  refine e_ite h (fun _ h => ?_) (fun _ h => ?_)
  · obtain ⟨s4, hc, h⟩ := bp_e h
    have hF := hF.trans (fm_X12_stores (hLsub hL rfl) hc)
    refine ald_g h (fun v5 h => ?_)
    refine ald_m h (fun _ => Fm_aI (a := 208) hF (by decide)) (fun s6 hF h => ?_)
    exact ret_mi h hF
  exact ret_mi h hF

set_option maxHeartbeats 4000000 in
theorem fm_X12_fill {R : List Nat} {N : Nat} {x1 : Int32} {x2 : Int32} {s0 : St} {r : Int32} {sr : St} (hL : ∀ x ∈ ([0, 24] : List Nat), x ∈ R) (h : f_X12_fill N x1 x2 s0 = some (r, sr)) : Fm R s0 sr := by
  have hF : Fm R s0 s0 := Fm.rf
  unfold f_X12_fill at h
  refine vl_m h (hF.sI (hL _ (by decide))) (fun s1 hF h => ?_)
  refine bp_g h (fun v2 h => ?_)
  refine e_ite h (fun _ h => ?_) (fun _ h => ?_)
  · exact ret_mi h hF
  refine bp_g h (fun v3 h => ?_)
  refine e_ite h (fun _ h => ?_) (fun _ h => ?_)
  · exact ret_mi h hF
  refine bp_g h (fun v4 h => ?_)
  refine e_ite h (fun _ h => ?_) (fun _ h => ?_)
  · obtain ⟨s5, hc, h⟩ := bp_e h
    have hF := hF.trans (fm_X12_stores (hLsub hL rfl) hc)
    refine ald_g h (fun v6 h => ?_)
    refine ald_m h (fun _ => Fm_aI (a := 208) hF (by decide)) (fun s7 hF h => ?_)
    exact ret_mi h hF
  exact ret_mi h hF

set_option maxHeartbeats 4000000 in
theorem fm_X12_shift {R : List Nat} {N : Nat} {x1 : Int32} {x2 : Int32} {s0 : St} {r : Int32} {sr : St} (hL : ∀ x ∈ ([0, 24] : List Nat), x ∈ R) (h : f_X12_shift N x1 x2 s0 = some (r, sr)) : Fm R s0 sr := by
  have hF : Fm R s0 s0 := Fm.rf
  unfold f_X12_shift at h
  refine vl_m h (hF.sI (hL _ (by decide))) (fun s1 hF h => ?_)
  refine bp_g h (fun v2 h => ?_)
  refine e_ite h (fun _ h => ?_) (fun _ h => ?_)
  · exact ret_mi h hF
  refine bp_g h (fun v3 h => ?_)
  refine e_ite h (fun _ h => ?_) (fun _ h => ?_)
  · exact ret_mi h hF
  refine ald_g h (fun v4 h => ?_)
  refine e_ite h (fun _ h => ?_) (fun _ h => ?_)
  · exact ret_mi h hF
  obtain ⟨s5, hc, h⟩ := bp_e h
  have hF := hF.trans (fm_X12_stores (hLsub hL rfl) hc)
  obtain ⟨s6, hc, h⟩ := bp_e h
  have hF := hF.trans (fm_X12_turns (hLsub hL rfl) hc)
  exact ret_mi h hF

set_option maxHeartbeats 4000000 in
theorem fm_X12_steer {R : List Nat} {N : Nat} {x1 : Int32} {x2 : Int32} {s0 : St} {r : Int32} {sr : St} (hL : ∀ x ∈ ([0, 24] : List Nat), x ∈ R) (h : f_X12_steer N x1 x2 s0 = some (r, sr)) : Fm R s0 sr := by
  have hF : Fm R s0 s0 := Fm.rf
  unfold f_X12_steer at h
  refine vl_m h (hF.sI (hL _ (by decide))) (fun s1 hF h => ?_)
  refine bp_g h (fun v2 h => ?_)
  refine e_ite h (fun _ h => ?_) (fun _ h => ?_)
  · exact ret_mi h hF
  refine bp_g h (fun v3 h => ?_)
  refine e_ite h (fun _ h => ?_) (fun _ h => ?_)
  · exact ret_mi h hF
  refine ald_g h (fun v4 h => ?_)
  refine e_ite h (fun _ h => ?_) (fun _ h => ?_)
  · exact ret_mi h hF
  obtain ⟨s5, hc, h⟩ := bp_e h
  have hF := hF.trans (fm_X12_stores (hLsub hL rfl) hc)
  refine ald_m h (fun _ => Fm_aI (a := 208) hF (by decide)) (fun s6 hF h => ?_)
  exact ret_mi h hF

set_option maxHeartbeats 4000000 in
theorem fm_X12_haze {R : List Nat} {N : Nat} {x1 : Int32} {s0 : St} {r : Int32} {sr : St} (hL : ∀ x ∈ ([0, 24] : List Nat), x ∈ R) (h : f_X12_haze N x1 s0 = some (r, sr)) : Fm R s0 sr := by
  have hF : Fm R s0 s0 := Fm.rf
  unfold f_X12_haze at h
  refine vl_m h (hF.sI (hL _ (by decide))) (fun s1 hF h => ?_)
  refine bp_g h (fun v2 h => ?_)
  refine e_ite h (fun _ h => ?_) (fun _ h => ?_)
  · exact ret_mi h hF
  refine ald_g h (fun v3 h => ?_)
  refine e_ite h (fun _ h => ?_) (fun _ h => ?_)
  · exact ret_mi h hF
  obtain ⟨s4, hc, h⟩ := bp_e h
  have hF := hF.trans (fm_X12_stores (hLsub hL rfl) hc)
  refine ald_m h (fun _ => Fm_aI (a := 208) hF (by decide)) (fun s5 hF h => ?_)
  exact ret_mi h hF

set_option maxHeartbeats 4000000 in
theorem fm_X12_seconds {R : List Nat} {N : Nat} {x1 : Int32} {s0 : St} {r : Int32} {sr : St} (hL : ∀ x ∈ ([0, 24] : List Nat), x ∈ R) (h : f_X12_seconds N x1 s0 = some (r, sr)) : Fm R s0 sr := by
  have hF : Fm R s0 s0 := Fm.rf
  unfold f_X12_seconds at h
  refine vl_m h (hF.sI (hL _ (by decide))) (fun s1 hF h => ?_)
  refine bp_g h (fun v2 h => ?_)
  refine e_ite h (fun _ h => ?_) (fun _ h => ?_)
  · exact ret_mi h hF
  refine ald_g h (fun v3 h => ?_)
  refine e_ite h (fun _ h => ?_) (fun _ h => ?_)
  · exact ret_mi h hF
  obtain ⟨s4, hc, h⟩ := bp_e h
  have hF := hF.trans (fm_X12_stores (hLsub hL rfl) hc)
  obtain ⟨v5, s6, hc, h⟩ := bd_e h
  have hF := hF.trans (fm_X12_goesOn (hLsub hL rfl) hc)
  exact ret_mi h hF
