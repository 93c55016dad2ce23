section RowsG
variable {M : MX} {ad : Nat → Nat} {cc : ByteArray} {own : String} {d pc pc2 : Nat} {lv : List (Option Value)} {st : List Value} {σ : St}
theorem g_iconst (X : Ctx M ad cc own d) {n : Int} {v : Int32} (hd : Dc cc pc (.iconst n) 1 pc2) (hv : Int32.ofInt n = v) (k : G M ad pc2 lv (.int v :: st) σ) : G M ad pc lv (st) σ := by
  obtain ⟨p, l, e, R, s, m, args, below, meth, c, Q, nL, D, dA, sa⟩ := M
  obtain ⟨hx, hb, hown, hts, hK, hJ, hSt, hml, hlk, hR1, hR2⟩ := X
  obtain ⟨hd, rfl⟩ := hd
  intro H locs ls hP hS hl
  exact lv_iconst hx hb hd hv (k H locs ls hP hS hl)
theorem g_bipush (X : Ctx M ad cc own d) {n : Int} {v : Int32} (hd : Dc cc pc (.bipush n) 2 pc2) (hv : (Int8.ofInt n).toInt32 = v) (k : G M ad pc2 lv (.int v :: st) σ) : G M ad pc lv (st) σ := by
  obtain ⟨p, l, e, R, s, m, args, below, meth, c, Q, nL, D, dA, sa⟩ := M
  obtain ⟨hx, hb, hown, hts, hK, hJ, hSt, hml, hlk, hR1, hR2⟩ := X
  obtain ⟨hd, rfl⟩ := hd
  intro H locs ls hP hS hl
  exact lv_bipush hx hb hd hv (k H locs ls hP hS hl)
theorem g_sipush (X : Ctx M ad cc own d) {n : Int} {v : Int32} (hd : Dc cc pc (.sipush n) 3 pc2) (hv : (Int16.ofInt n).toInt32 = v) (k : G M ad pc2 lv (.int v :: st) σ) : G M ad pc lv (st) σ := by
  obtain ⟨p, l, e, R, s, m, args, below, meth, c, Q, nL, D, dA, sa⟩ := M
  obtain ⟨hx, hb, hown, hts, hK, hJ, hSt, hml, hlk, hR1, hR2⟩ := X
  obtain ⟨hd, rfl⟩ := hd
  intro H locs ls hP hS hl
  exact lv_sipush hx hb hd hv (k H locs ls hP hS hl)
theorem g_lconst (X : Ctx M ad cc own d) {n : Int} {v : Int64} (hd : Dc cc pc (.lconst n) 1 pc2) (hv : Int64.ofInt n = v) (k : G M ad pc2 lv (.long v :: st) σ) : G M ad pc lv (st) σ := by
  obtain ⟨p, l, e, R, s, m, args, below, meth, c, Q, nL, D, dA, sa⟩ := M
  obtain ⟨hx, hb, hown, hts, hK, hJ, hSt, hml, hlk, hR1, hR2⟩ := X
  obtain ⟨hd, rfl⟩ := hd
  intro H locs ls hP hS hl
  exact lv_lconst hx hb hd hv (k H locs ls hP hS hl)
theorem g_ldc (X : Ctx M ad cc own d) {n : Nat} {v : Int32} (hd : Dc cc pc (.ldc n) 2 pc2) (hw : Cond.constant own n v ∈ tb) (k : G M ad pc2 lv (.int v :: st) σ) : G M ad pc lv (st) σ := by
  obtain ⟨p, l, e, R, s, m, args, below, meth, c, Q, nL, D, dA, sa⟩ := M
  obtain ⟨hx, hb, hown, hts, hK, hJ, hSt, hml, hlk, hR1, hR2⟩ := X
  obtain ⟨hd, rfl⟩ := hd
  intro H locs ls hP hS hl
  exact lv_ldc hx hb hown (hts _ hw) hd (k H locs ls hP hS hl)
theorem g_ldcw (X : Ctx M ad cc own d) {n : Nat} {v : Int32} (hd : Dc cc pc (.ldc_w n) 3 pc2) (hw : Cond.constant own n v ∈ tb) (k : G M ad pc2 lv (.int v :: st) σ) : G M ad pc lv (st) σ := by
  obtain ⟨p, l, e, R, s, m, args, below, meth, c, Q, nL, D, dA, sa⟩ := M
  obtain ⟨hx, hb, hown, hts, hK, hJ, hSt, hml, hlk, hR1, hR2⟩ := X
  obtain ⟨hd, rfl⟩ := hd
  intro H locs ls hP hS hl
  exact lv_ldcw hx hb hown (hts _ hw) hd (k H locs ls hP hS hl)
theorem g_ldc2 (X : Ctx M ad cc own d) {n : Nat} {v : Int64} (hd : Dc cc pc (.ldc2_w n) 3 pc2) (hw : Cond.constantLong own n v ∈ tb) (k : G M ad pc2 lv (.long v :: st) σ) : G M ad pc lv (st) σ := by
  obtain ⟨p, l, e, R, s, m, args, below, meth, c, Q, nL, D, dA, sa⟩ := M
  obtain ⟨hx, hb, hown, hts, hK, hJ, hSt, hml, hlk, hR1, hR2⟩ := X
  obtain ⟨hd, rfl⟩ := hd
  intro H locs ls hP hS hl
  exact lv_ldc2 hx hb hown (hts _ hw) hd (k H locs ls hP hS hl)
theorem g_iload (X : Ctx M ad cc own d) {i : Nat} {x : Int32} (hd : Dc cc pc (.iload i) 2 pc2) (h : lv[i]? = some (some (.int x))) (k : G M ad pc2 lv (.int x :: st) σ) : G M ad pc lv (st) σ := by
  obtain ⟨p, l, e, R, s, m, args, below, meth, c, Q, nL, D, dA, sa⟩ := M
  obtain ⟨hx, hb, hown, hts, hK, hJ, hSt, hml, hlk, hR1, hR2⟩ := X
  obtain ⟨hd, rfl⟩ := hd
  intro H locs ls hP hS hl
  exact lv_iload hx hb hd (hl.2.2.2 _ _ h) (k H locs ls hP hS hl)
theorem g_iload_n (X : Ctx M ad cc own d) {i : Fin 4} {x : Int32} (hd : Dc cc pc (.iload_n i) 1 pc2) (h : lv[i.val]? = some (some (.int x))) (k : G M ad pc2 lv (.int x :: st) σ) : G M ad pc lv (st) σ := by
  obtain ⟨p, l, e, R, s, m, args, below, meth, c, Q, nL, D, dA, sa⟩ := M
  obtain ⟨hx, hb, hown, hts, hK, hJ, hSt, hml, hlk, hR1, hR2⟩ := X
  obtain ⟨hd, rfl⟩ := hd
  intro H locs ls hP hS hl
  exact lv_iload_n hx hb hd rfl (hl.2.2.2 _ _ h) (k H locs ls hP hS hl)
theorem g_lload (X : Ctx M ad cc own d) {i : Nat} {x : Int64} (hd : Dc cc pc (.lload i) 2 pc2) (h : lv[i]? = some (some (.long x))) (k : G M ad pc2 lv (.long x :: st) σ) : G M ad pc lv (st) σ := by
  obtain ⟨p, l, e, R, s, m, args, below, meth, c, Q, nL, D, dA, sa⟩ := M
  obtain ⟨hx, hb, hown, hts, hK, hJ, hSt, hml, hlk, hR1, hR2⟩ := X
  obtain ⟨hd, rfl⟩ := hd
  intro H locs ls hP hS hl
  exact lv_lload hx hb hd (hl.2.2.2 _ _ h) (k H locs ls hP hS hl)
theorem g_lload_n (X : Ctx M ad cc own d) {i : Fin 4} {x : Int64} (hd : Dc cc pc (.lload_n i) 1 pc2) (h : lv[i.val]? = some (some (.long x))) (k : G M ad pc2 lv (.long x :: st) σ) : G M ad pc lv (st) σ := by
  obtain ⟨p, l, e, R, s, m, args, below, meth, c, Q, nL, D, dA, sa⟩ := M
  obtain ⟨hx, hb, hown, hts, hK, hJ, hSt, hml, hlk, hR1, hR2⟩ := X
  obtain ⟨hd, rfl⟩ := hd
  intro H locs ls hP hS hl
  exact lv_lload_n hx hb hd rfl (hl.2.2.2 _ _ h) (k H locs ls hP hS hl)
theorem g_aload (X : Ctx M ad cc own d) {i : Nat} {x : Nat} (hd : Dc cc pc (.aload i) 2 pc2) (h : lv[i]? = some (some (.ref x))) (k : G M ad pc2 lv (.ref x :: st) σ) : G M ad pc lv (st) σ := by
  obtain ⟨p, l, e, R, s, m, args, below, meth, c, Q, nL, D, dA, sa⟩ := M
  obtain ⟨hx, hb, hown, hts, hK, hJ, hSt, hml, hlk, hR1, hR2⟩ := X
  obtain ⟨hd, rfl⟩ := hd
  intro H locs ls hP hS hl
  exact lv_aload hx hb hd (hl.2.2.2 _ _ h) (k H locs ls hP hS hl)
theorem g_aload_n (X : Ctx M ad cc own d) {i : Fin 4} {x : Nat} (hd : Dc cc pc (.aload_n i) 1 pc2) (h : lv[i.val]? = some (some (.ref x))) (k : G M ad pc2 lv (.ref x :: st) σ) : G M ad pc lv (st) σ := by
  obtain ⟨p, l, e, R, s, m, args, below, meth, c, Q, nL, D, dA, sa⟩ := M
  obtain ⟨hx, hb, hown, hts, hK, hJ, hSt, hml, hlk, hR1, hR2⟩ := X
  obtain ⟨hd, rfl⟩ := hd
  intro H locs ls hP hS hl
  exact lv_aload_n hx hb hd rfl (hl.2.2.2 _ _ h) (k H locs ls hP hS hl)
theorem g_iadd (X : Ctx M ad cc own d) {x y : Int32} (hd : Dc cc pc (.iadd) 1 pc2)  (k : G M ad pc2 lv (.int (x + y) :: st) σ) : G M ad pc lv (.int y :: .int x :: st) σ := by
  obtain ⟨p, l, e, R, s, m, args, below, meth, c, Q, nL, D, dA, sa⟩ := M
  obtain ⟨hx, hb, hown, hts, hK, hJ, hSt, hml, hlk, hR1, hR2⟩ := X
  obtain ⟨hd, rfl⟩ := hd
  intro H locs ls hP hS hl
  exact lv_iadd hx hb hd (k H locs ls hP hS hl)
theorem g_isub (X : Ctx M ad cc own d) {x y : Int32} (hd : Dc cc pc (.isub) 1 pc2)  (k : G M ad pc2 lv (.int (x - y) :: st) σ) : G M ad pc lv (.int y :: .int x :: st) σ := by
  obtain ⟨p, l, e, R, s, m, args, below, meth, c, Q, nL, D, dA, sa⟩ := M
  obtain ⟨hx, hb, hown, hts, hK, hJ, hSt, hml, hlk, hR1, hR2⟩ := X
  obtain ⟨hd, rfl⟩ := hd
  intro H locs ls hP hS hl
  exact lv_isub hx hb hd (k H locs ls hP hS hl)
theorem g_imul (X : Ctx M ad cc own d) {x y : Int32} (hd : Dc cc pc (.imul) 1 pc2)  (k : G M ad pc2 lv (.int (x * y) :: st) σ) : G M ad pc lv (.int y :: .int x :: st) σ := by
  obtain ⟨p, l, e, R, s, m, args, below, meth, c, Q, nL, D, dA, sa⟩ := M
  obtain ⟨hx, hb, hown, hts, hK, hJ, hSt, hml, hlk, hR1, hR2⟩ := X
  obtain ⟨hd, rfl⟩ := hd
  intro H locs ls hP hS hl
  exact lv_imul hx hb hd (k H locs ls hP hS hl)
theorem g_iand (X : Ctx M ad cc own d) {x y : Int32} (hd : Dc cc pc (.iand) 1 pc2)  (k : G M ad pc2 lv (.int (x &&& y) :: st) σ) : G M ad pc lv (.int y :: .int x :: st) σ := by
  obtain ⟨p, l, e, R, s, m, args, below, meth, c, Q, nL, D, dA, sa⟩ := M
  obtain ⟨hx, hb, hown, hts, hK, hJ, hSt, hml, hlk, hR1, hR2⟩ := X
  obtain ⟨hd, rfl⟩ := hd
  intro H locs ls hP hS hl
  exact lv_iand hx hb hd (k H locs ls hP hS hl)
theorem g_ior (X : Ctx M ad cc own d) {x y : Int32} (hd : Dc cc pc (.ior) 1 pc2)  (k : G M ad pc2 lv (.int (x ||| y) :: st) σ) : G M ad pc lv (.int y :: .int x :: st) σ := by
  obtain ⟨p, l, e, R, s, m, args, below, meth, c, Q, nL, D, dA, sa⟩ := M
  obtain ⟨hx, hb, hown, hts, hK, hJ, hSt, hml, hlk, hR1, hR2⟩ := X
  obtain ⟨hd, rfl⟩ := hd
  intro H locs ls hP hS hl
  exact lv_ior hx hb hd (k H locs ls hP hS hl)
theorem g_ixor (X : Ctx M ad cc own d) {x y : Int32} (hd : Dc cc pc (.ixor) 1 pc2)  (k : G M ad pc2 lv (.int (x ^^^ y) :: st) σ) : G M ad pc lv (.int y :: .int x :: st) σ := by
  obtain ⟨p, l, e, R, s, m, args, below, meth, c, Q, nL, D, dA, sa⟩ := M
  obtain ⟨hx, hb, hown, hts, hK, hJ, hSt, hml, hlk, hR1, hR2⟩ := X
  obtain ⟨hd, rfl⟩ := hd
  intro H locs ls hP hS hl
  exact lv_ixor hx hb hd (k H locs ls hP hS hl)
theorem g_ishl (X : Ctx M ad cc own d) {x y : Int32} (hd : Dc cc pc (.ishl) 1 pc2)  (k : G M ad pc2 lv (.int (x <<< (y &&& 31)) :: st) σ) : G M ad pc lv (.int y :: .int x :: st) σ := by
  obtain ⟨p, l, e, R, s, m, args, below, meth, c, Q, nL, D, dA, sa⟩ := M
  obtain ⟨hx, hb, hown, hts, hK, hJ, hSt, hml, hlk, hR1, hR2⟩ := X
  obtain ⟨hd, rfl⟩ := hd
  intro H locs ls hP hS hl
  exact lv_ishl hx hb hd (k H locs ls hP hS hl)
theorem g_ishr (X : Ctx M ad cc own d) {x y : Int32} (hd : Dc cc pc (.ishr) 1 pc2)  (k : G M ad pc2 lv (.int (x >>> (y &&& 31)) :: st) σ) : G M ad pc lv (.int y :: .int x :: st) σ := by
  obtain ⟨p, l, e, R, s, m, args, below, meth, c, Q, nL, D, dA, sa⟩ := M
  obtain ⟨hx, hb, hown, hts, hK, hJ, hSt, hml, hlk, hR1, hR2⟩ := X
  obtain ⟨hd, rfl⟩ := hd
  intro H locs ls hP hS hl
  exact lv_ishr hx hb hd (k H locs ls hP hS hl)
def ush (x y : Int32) : Int32 := (x.toUInt32 >>> (y.toUInt32 &&& Int32.toUInt32 31)).toInt32
def irm (x y : Int32) : Int32 := x - x / y * y
def lsl (x : Int64) (y : Int32) : Int64 := x <<< (y.toInt64 &&& 63)
def lsr (x : Int64) (y : Int32) : Int64 := x >>> (y.toInt64 &&& 63)
theorem g_iushr (X : Ctx M ad cc own d) {x y : Int32} (hd : Dc cc pc (.iushr) 1 pc2)  (k : G M ad pc2 lv (.int (ush x y) :: st) σ) : G M ad pc lv (.int y :: .int x :: st) σ := by
  obtain ⟨p, l, e, R, s, m, args, below, meth, c, Q, nL, D, dA, sa⟩ := M
  obtain ⟨hx, hb, hown, hts, hK, hJ, hSt, hml, hlk, hR1, hR2⟩ := X
  obtain ⟨hd, rfl⟩ := hd
  intro H locs ls hP hS hl
  exact lv_iushr hx hb hd rfl (k H locs ls hP hS hl)
theorem g_idiv (X : Ctx M ad cc own d) {x y : Int32} (hd : Dc cc pc (.idiv) 1 pc2) (hne : ¬ y = 0) (k : G M ad pc2 lv (.int (x / y) :: st) σ) : G M ad pc lv (.int y :: .int x :: st) σ := by
  obtain ⟨p, l, e, R, s, m, args, below, meth, c, Q, nL, D, dA, sa⟩ := M
  obtain ⟨hx, hb, hown, hts, hK, hJ, hSt, hml, hlk, hR1, hR2⟩ := X
  obtain ⟨hd, rfl⟩ := hd
  intro H locs ls hP hS hl
  exact lv_idiv hx hb hd hne (k H locs ls hP hS hl)
theorem g_irem (X : Ctx M ad cc own d) {x y : Int32} (hd : Dc cc pc (.irem) 1 pc2) (hne : ¬ y = 0) (k : G M ad pc2 lv (.int (irm x y) :: st) σ) : G M ad pc lv (.int y :: .int x :: st) σ := by
  obtain ⟨p, l, e, R, s, m, args, below, meth, c, Q, nL, D, dA, sa⟩ := M
  obtain ⟨hx, hb, hown, hts, hK, hJ, hSt, hml, hlk, hR1, hR2⟩ := X
  obtain ⟨hd, rfl⟩ := hd
  intro H locs ls hP hS hl
  exact lv_irem hx hb hd hne (k H locs ls hP hS hl)
theorem g_ineg (X : Ctx M ad cc own d) {x : Int32} (hd : Dc cc pc (.ineg) 1 pc2)  (k : G M ad pc2 lv (.int (-x) :: st) σ) : G M ad pc lv (.int x :: st) σ := by
  obtain ⟨p, l, e, R, s, m, args, below, meth, c, Q, nL, D, dA, sa⟩ := M
  obtain ⟨hx, hb, hown, hts, hK, hJ, hSt, hml, hlk, hR1, hR2⟩ := X
  obtain ⟨hd, rfl⟩ := hd
  intro H locs ls hP hS hl
  exact lv_ineg hx hb hd (k H locs ls hP hS hl)
theorem g_ladd (X : Ctx M ad cc own d) {x y : Int64} (hd : Dc cc pc (.ladd) 1 pc2)  (k : G M ad pc2 lv (.long (x + y) :: st) σ) : G M ad pc lv (.long y :: .long x :: st) σ := by
  obtain ⟨p, l, e, R, s, m, args, below, meth, c, Q, nL, D, dA, sa⟩ := M
  obtain ⟨hx, hb, hown, hts, hK, hJ, hSt, hml, hlk, hR1, hR2⟩ := X
  obtain ⟨hd, rfl⟩ := hd
  intro H locs ls hP hS hl
  exact lv_ladd hx hb hd (k H locs ls hP hS hl)
theorem g_land (X : Ctx M ad cc own d) {x y : Int64} (hd : Dc cc pc (.land) 1 pc2)  (k : G M ad pc2 lv (.long (x &&& y) :: st) σ) : G M ad pc lv (.long y :: .long x :: st) σ := by
  obtain ⟨p, l, e, R, s, m, args, below, meth, c, Q, nL, D, dA, sa⟩ := M
  obtain ⟨hx, hb, hown, hts, hK, hJ, hSt, hml, hlk, hR1, hR2⟩ := X
  obtain ⟨hd, rfl⟩ := hd
  intro H locs ls hP hS hl
  exact lv_land hx hb hd (k H locs ls hP hS hl)
theorem g_lor (X : Ctx M ad cc own d) {x y : Int64} (hd : Dc cc pc (.lor) 1 pc2)  (k : G M ad pc2 lv (.long (x ||| y) :: st) σ) : G M ad pc lv (.long y :: .long x :: st) σ := by
  obtain ⟨p, l, e, R, s, m, args, below, meth, c, Q, nL, D, dA, sa⟩ := M
  obtain ⟨hx, hb, hown, hts, hK, hJ, hSt, hml, hlk, hR1, hR2⟩ := X
  obtain ⟨hd, rfl⟩ := hd
  intro H locs ls hP hS hl
  exact lv_lor hx hb hd (k H locs ls hP hS hl)
theorem g_lshl (X : Ctx M ad cc own d) {x : Int64} {y : Int32} (hd : Dc cc pc (.lshl) 1 pc2)  (k : G M ad pc2 lv (.long (lsl x y) :: st) σ) : G M ad pc lv (.int y :: .long x :: st) σ := by
  obtain ⟨p, l, e, R, s, m, args, below, meth, c, Q, nL, D, dA, sa⟩ := M
  obtain ⟨hx, hb, hown, hts, hK, hJ, hSt, hml, hlk, hR1, hR2⟩ := X
  obtain ⟨hd, rfl⟩ := hd
  intro H locs ls hP hS hl
  exact lv_lshl hx hb hd rfl (k H locs ls hP hS hl)
theorem g_lshr (X : Ctx M ad cc own d) {x : Int64} {y : Int32} (hd : Dc cc pc (.lshr) 1 pc2)  (k : G M ad pc2 lv (.long (lsr x y) :: st) σ) : G M ad pc lv (.int y :: .long x :: st) σ := by
  obtain ⟨p, l, e, R, s, m, args, below, meth, c, Q, nL, D, dA, sa⟩ := M
  obtain ⟨hx, hb, hown, hts, hK, hJ, hSt, hml, hlk, hR1, hR2⟩ := X
  obtain ⟨hd, rfl⟩ := hd
  intro H locs ls hP hS hl
  exact lv_lshr hx hb hd rfl (k H locs ls hP hS hl)
theorem g_lcmp (X : Ctx M ad cc own d) {x y : Int64} (hd : Dc cc pc (.lcmp) 1 pc2)  (k : G M ad pc2 lv (.int (lg_cmp x y) :: st) σ) : G M ad pc lv (.long y :: .long x :: st) σ := by
  obtain ⟨p, l, e, R, s, m, args, below, meth, c, Q, nL, D, dA, sa⟩ := M
  obtain ⟨hx, hb, hown, hts, hK, hJ, hSt, hml, hlk, hR1, hR2⟩ := X
  obtain ⟨hd, rfl⟩ := hd
  intro H locs ls hP hS hl
  exact W.lcmp hx hb hd (k H locs ls hP hS hl)
theorem g_i2l (X : Ctx M ad cc own d) {x : Int32} (hd : Dc cc pc (.i2l) 1 pc2)  (k : G M ad pc2 lv (.long x.toInt64 :: st) σ) : G M ad pc lv (.int x :: st) σ := by
  obtain ⟨p, l, e, R, s, m, args, below, meth, c, Q, nL, D, dA, sa⟩ := M
  obtain ⟨hx, hb, hown, hts, hK, hJ, hSt, hml, hlk, hR1, hR2⟩ := X
  obtain ⟨hd, rfl⟩ := hd
  intro H locs ls hP hS hl
  exact lv_i2l hx hb hd rfl (k H locs ls hP hS hl)
theorem g_l2i (X : Ctx M ad cc own d) {x : Int64} (hd : Dc cc pc (.l2i) 1 pc2)  (k : G M ad pc2 lv (.int x.toInt32 :: st) σ) : G M ad pc lv (.long x :: st) σ := by
  obtain ⟨p, l, e, R, s, m, args, below, meth, c, Q, nL, D, dA, sa⟩ := M
  obtain ⟨hx, hb, hown, hts, hK, hJ, hSt, hml, hlk, hR1, hR2⟩ := X
  obtain ⟨hd, rfl⟩ := hd
  intro H locs ls hP hS hl
  exact lv_l2i hx hb hd rfl (k H locs ls hP hS hl)
theorem g_i2b (X : Ctx M ad cc own d) {x : Int32} (hd : Dc cc pc (.i2b) 1 pc2)  (k : G M ad pc2 lv (.int x.toInt8.toInt32 :: st) σ) : G M ad pc lv (.int x :: st) σ := by
  obtain ⟨p, l, e, R, s, m, args, below, meth, c, Q, nL, D, dA, sa⟩ := M
  obtain ⟨hx, hb, hown, hts, hK, hJ, hSt, hml, hlk, hR1, hR2⟩ := X
  obtain ⟨hd, rfl⟩ := hd
  intro H locs ls hP hS hl
  exact lv_i2b hx hb hd rfl (k H locs ls hP hS hl)
theorem g_dup (X : Ctx M ad cc own d) {v : Value} (hd : Dc cc pc (.dup) 1 pc2) (hc : v.category = 1) (k : G M ad pc2 lv (v :: v :: st) σ) : G M ad pc lv (v :: st) σ := by
  obtain ⟨p, l, e, R, s, m, args, below, meth, c, Q, nL, D, dA, sa⟩ := M
  obtain ⟨hx, hb, hown, hts, hK, hJ, hSt, hml, hlk, hR1, hR2⟩ := X
  obtain ⟨hd, rfl⟩ := hd
  intro H locs ls hP hS hl
  exact lv_dup hx hb hd hc (k H locs ls hP hS hl)
theorem g_pop (X : Ctx M ad cc own d) {v : Value} (hd : Dc cc pc (.pop) 1 pc2) (hc : v.category = 1) (k : G M ad pc2 lv (st) σ) : G M ad pc lv (v :: st) σ := by
  obtain ⟨p, l, e, R, s, m, args, below, meth, c, Q, nL, D, dA, sa⟩ := M
  obtain ⟨hx, hb, hown, hts, hK, hJ, hSt, hml, hlk, hR1, hR2⟩ := X
  obtain ⟨hd, rfl⟩ := hd
  intro H locs ls hP hS hl
  exact lv_pop hx hb hd hc (k H locs ls hP hS hl)
theorem g_dup2 (X : Ctx M ad cc own d) {v w : Value} (hd : Dc cc pc (.dup2) 1 pc2) (hc : v.category = 1) (he : w.category = 1) (k : G M ad pc2 lv (v :: w :: v :: w :: st) σ) : G M ad pc lv (v :: w :: st) σ := by
  obtain ⟨p, l, e, R, s, m, args, below, meth, c, Q, nL, D, dA, sa⟩ := M
  obtain ⟨hx, hb, hown, hts, hK, hJ, hSt, hml, hlk, hR1, hR2⟩ := X
  obtain ⟨hd, rfl⟩ := hd
  intro H locs ls hP hS hl
  exact lv_dup2_11 hx hb hd hc he (k H locs ls hP hS hl)
theorem g_if_eq (X : Ctx M ad cc own d) {x : Int32} {off : Int} {tgt : Nat} (hd : Dc cc pc (.ifCond .eq off) 3 pc2) (ht : (pc : Int) + off = (tgt : Int)) (kt : x = 0 → G M ad tgt lv st σ) (kf : ¬ (x = 0) → G M ad pc2 lv st σ) : G M ad pc lv (.int x :: st) σ := by
  obtain ⟨p, l, e, R, s, m, args, below, meth, c, Q, nL, D, dA, sa⟩ := M
  obtain ⟨hx, hb, hown, hts, hK, hJ, hSt, hml, hlk, hR1, hR2⟩ := X
  obtain ⟨hd, rfl⟩ := hd
  intro H locs ls hP hS hl
  exact lv_if_eq hx hb hd ht (fun z => kt z H locs ls hP hS hl) (fun z => kf z H locs ls hP hS hl)
theorem g_if_ne (X : Ctx M ad cc own d) {x : Int32} {off : Int} {tgt : Nat} (hd : Dc cc pc (.ifCond .ne off) 3 pc2) (ht : (pc : Int) + off = (tgt : Int)) (kt : ¬ x = 0 → G M ad tgt lv st σ) (kf : ¬ (¬ x = 0) → G M ad pc2 lv st σ) : G M ad pc lv (.int x :: st) σ := by
  obtain ⟨p, l, e, R, s, m, args, below, meth, c, Q, nL, D, dA, sa⟩ := M
  obtain ⟨hx, hb, hown, hts, hK, hJ, hSt, hml, hlk, hR1, hR2⟩ := X
  obtain ⟨hd, rfl⟩ := hd
  intro H locs ls hP hS hl
  exact lv_if_ne hx hb hd ht (fun z => kt z H locs ls hP hS hl) (fun z => kf z H locs ls hP hS hl)
theorem g_if_lt (X : Ctx M ad cc own d) {x : Int32} {off : Int} {tgt : Nat} (hd : Dc cc pc (.ifCond .lt off) 3 pc2) (ht : (pc : Int) + off = (tgt : Int)) (kt : x < 0 → G M ad tgt lv st σ) (kf : ¬ (x < 0) → G M ad pc2 lv st σ) : G M ad pc lv (.int x :: st) σ := by
  obtain ⟨p, l, e, R, s, m, args, below, meth, c, Q, nL, D, dA, sa⟩ := M
  obtain ⟨hx, hb, hown, hts, hK, hJ, hSt, hml, hlk, hR1, hR2⟩ := X
  obtain ⟨hd, rfl⟩ := hd
  intro H locs ls hP hS hl
  exact lv_if_lt hx hb hd ht (fun z => kt z H locs ls hP hS hl) (fun z => kf z H locs ls hP hS hl)
theorem g_if_ge (X : Ctx M ad cc own d) {x : Int32} {off : Int} {tgt : Nat} (hd : Dc cc pc (.ifCond .ge off) 3 pc2) (ht : (pc : Int) + off = (tgt : Int)) (kt : 0 ≤ x → G M ad tgt lv st σ) (kf : ¬ (0 ≤ x) → G M ad pc2 lv st σ) : G M ad pc lv (.int x :: st) σ := by
  obtain ⟨p, l, e, R, s, m, args, below, meth, c, Q, nL, D, dA, sa⟩ := M
  obtain ⟨hx, hb, hown, hts, hK, hJ, hSt, hml, hlk, hR1, hR2⟩ := X
  obtain ⟨hd, rfl⟩ := hd
  intro H locs ls hP hS hl
  exact lv_if_ge hx hb hd ht (fun z => kt z H locs ls hP hS hl) (fun z => kf z H locs ls hP hS hl)
theorem g_if_gt (X : Ctx M ad cc own d) {x : Int32} {off : Int} {tgt : Nat} (hd : Dc cc pc (.ifCond .gt off) 3 pc2) (ht : (pc : Int) + off = (tgt : Int)) (kt : 0 < x → G M ad tgt lv st σ) (kf : ¬ (0 < x) → G M ad pc2 lv st σ) : G M ad pc lv (.int x :: st) σ := by
  obtain ⟨p, l, e, R, s, m, args, below, meth, c, Q, nL, D, dA, sa⟩ := M
  obtain ⟨hx, hb, hown, hts, hK, hJ, hSt, hml, hlk, hR1, hR2⟩ := X
  obtain ⟨hd, rfl⟩ := hd
  intro H locs ls hP hS hl
  exact lv_if_gt hx hb hd ht (fun z => kt z H locs ls hP hS hl) (fun z => kf z H locs ls hP hS hl)
theorem g_if_le (X : Ctx M ad cc own d) {x : Int32} {off : Int} {tgt : Nat} (hd : Dc cc pc (.ifCond .le off) 3 pc2) (ht : (pc : Int) + off = (tgt : Int)) (kt : x ≤ 0 → G M ad tgt lv st σ) (kf : ¬ (x ≤ 0) → G M ad pc2 lv st σ) : G M ad pc lv (.int x :: st) σ := by
  obtain ⟨p, l, e, R, s, m, args, below, meth, c, Q, nL, D, dA, sa⟩ := M
  obtain ⟨hx, hb, hown, hts, hK, hJ, hSt, hml, hlk, hR1, hR2⟩ := X
  obtain ⟨hd, rfl⟩ := hd
  intro H locs ls hP hS hl
  exact lv_if_le hx hb hd ht (fun z => kt z H locs ls hP hS hl) (fun z => kf z H locs ls hP hS hl)
theorem g_icmp_eq (X : Ctx M ad cc own d) {x y : Int32} {off : Int} {tgt : Nat} (hd : Dc cc pc (.if_icmp .eq off) 3 pc2) (ht : (pc : Int) + off = (tgt : Int)) (kt : x = y → G M ad tgt lv st σ) (kf : ¬ (x = y) → G M ad pc2 lv st σ) : G M ad pc lv (.int y :: .int x :: st) σ := by
  obtain ⟨p, l, e, R, s, m, args, below, meth, c, Q, nL, D, dA, sa⟩ := M
  obtain ⟨hx, hb, hown, hts, hK, hJ, hSt, hml, hlk, hR1, hR2⟩ := X
  obtain ⟨hd, rfl⟩ := hd
  intro H locs ls hP hS hl
  exact lv_icmp_eq hx hb hd ht (fun z => kt z H locs ls hP hS hl) (fun z => kf z H locs ls hP hS hl)
theorem g_icmp_ne (X : Ctx M ad cc own d) {x y : Int32} {off : Int} {tgt : Nat} (hd : Dc cc pc (.if_icmp .ne off) 3 pc2) (ht : (pc : Int) + off = (tgt : Int)) (kt : ¬ x = y → G M ad tgt lv st σ) (kf : ¬ (¬ x = y) → G M ad pc2 lv st σ) : G M ad pc lv (.int y :: .int x :: st) σ := by
  obtain ⟨p, l, e, R, s, m, args, below, meth, c, Q, nL, D, dA, sa⟩ := M
  obtain ⟨hx, hb, hown, hts, hK, hJ, hSt, hml, hlk, hR1, hR2⟩ := X
  obtain ⟨hd, rfl⟩ := hd
  intro H locs ls hP hS hl
  exact lv_icmp_ne hx hb hd ht (fun z => kt z H locs ls hP hS hl) (fun z => kf z H locs ls hP hS hl)
theorem g_icmp_lt (X : Ctx M ad cc own d) {x y : Int32} {off : Int} {tgt : Nat} (hd : Dc cc pc (.if_icmp .lt off) 3 pc2) (ht : (pc : Int) + off = (tgt : Int)) (kt : x < y → G M ad tgt lv st σ) (kf : ¬ (x < y) → G M ad pc2 lv st σ) : G M ad pc lv (.int y :: .int x :: st) σ := by
  obtain ⟨p, l, e, R, s, m, args, below, meth, c, Q, nL, D, dA, sa⟩ := M
  obtain ⟨hx, hb, hown, hts, hK, hJ, hSt, hml, hlk, hR1, hR2⟩ := X
  obtain ⟨hd, rfl⟩ := hd
  intro H locs ls hP hS hl
  exact lv_icmp_lt hx hb hd ht (fun z => kt z H locs ls hP hS hl) (fun z => kf z H locs ls hP hS hl)
theorem g_icmp_ge (X : Ctx M ad cc own d) {x y : Int32} {off : Int} {tgt : Nat} (hd : Dc cc pc (.if_icmp .ge off) 3 pc2) (ht : (pc : Int) + off = (tgt : Int)) (kt : y ≤ x → G M ad tgt lv st σ) (kf : ¬ (y ≤ x) → G M ad pc2 lv st σ) : G M ad pc lv (.int y :: .int x :: st) σ := by
  obtain ⟨p, l, e, R, s, m, args, below, meth, c, Q, nL, D, dA, sa⟩ := M
  obtain ⟨hx, hb, hown, hts, hK, hJ, hSt, hml, hlk, hR1, hR2⟩ := X
  obtain ⟨hd, rfl⟩ := hd
  intro H locs ls hP hS hl
  exact lv_icmp_ge hx hb hd ht (fun z => kt z H locs ls hP hS hl) (fun z => kf z H locs ls hP hS hl)
theorem g_icmp_gt (X : Ctx M ad cc own d) {x y : Int32} {off : Int} {tgt : Nat} (hd : Dc cc pc (.if_icmp .gt off) 3 pc2) (ht : (pc : Int) + off = (tgt : Int)) (kt : y < x → G M ad tgt lv st σ) (kf : ¬ (y < x) → G M ad pc2 lv st σ) : G M ad pc lv (.int y :: .int x :: st) σ := by
  obtain ⟨p, l, e, R, s, m, args, below, meth, c, Q, nL, D, dA, sa⟩ := M
  obtain ⟨hx, hb, hown, hts, hK, hJ, hSt, hml, hlk, hR1, hR2⟩ := X
  obtain ⟨hd, rfl⟩ := hd
  intro H locs ls hP hS hl
  exact lv_icmp_gt hx hb hd ht (fun z => kt z H locs ls hP hS hl) (fun z => kf z H locs ls hP hS hl)
theorem g_icmp_le (X : Ctx M ad cc own d) {x y : Int32} {off : Int} {tgt : Nat} (hd : Dc cc pc (.if_icmp .le off) 3 pc2) (ht : (pc : Int) + off = (tgt : Int)) (kt : x ≤ y → G M ad tgt lv st σ) (kf : ¬ (x ≤ y) → G M ad pc2 lv st σ) : G M ad pc lv (.int y :: .int x :: st) σ := by
  obtain ⟨p, l, e, R, s, m, args, below, meth, c, Q, nL, D, dA, sa⟩ := M
  obtain ⟨hx, hb, hown, hts, hK, hJ, hSt, hml, hlk, hR1, hR2⟩ := X
  obtain ⟨hd, rfl⟩ := hd
  intro H locs ls hP hS hl
  exact lv_icmp_le hx hb hd ht (fun z => kt z H locs ls hP hS hl) (fun z => kf z H locs ls hP hS hl)
theorem g_goto (X : Ctx M ad cc own d) {off : Int} {tgt : Nat} (hd : Dc cc pc (.goto off) 3 pc2) (ht : (pc : Int) + off = (tgt : Int)) (k : G M ad tgt lv st σ) : G M ad pc lv st σ := by
  obtain ⟨p, l, e, R, s, m, args, below, meth, c, Q, nL, D, dA, sa⟩ := M
  obtain ⟨hx, hb, hown, hts, hK, hJ, hSt, hml, hlk, hR1, hR2⟩ := X
  obtain ⟨hd, rfl⟩ := hd
  intro H locs ls hP hS hl
  exact lv_goto hx hb hd ht (k H locs ls hP hS hl)
theorem g_tswo (X : Ctx M ad cc own d) {df lo hi : Int} {offs : Array Int} {len : Nat} {x : Int32} {tgt : Nat} (hd : decode cc pc = .ok (.tableswitch df lo hi offs, len)) (h : x.toInt < lo ∨ hi < x.toInt) (ht : (pc : Int) + df = (tgt : Int)) (k : G M ad tgt lv st σ) : G M ad pc lv (.int x :: st) σ := by
  obtain ⟨p, l, e, R, s, m, args, below, meth, c, Q, nL, D, dA, sa⟩ := M
  obtain ⟨hx, hb, hown, hts, hK, hJ, hSt, hml, hlk, hR1, hR2⟩ := X
  intro H locs ls hP hS hl
  exact lv_tableOut hx hb hd h ht (k H locs ls hP hS hl)
theorem g_tswi (X : Ctx M ad cc own d) {df lo hi : Int} {offs : Array Int} {len : Nat} {x : Int32} {off : Int} {tgt : Nat} (hd : decode cc pc = .ok (.tableswitch df lo hi offs, len)) (h1 : ¬ x.toInt < lo) (h2 : ¬ hi < x.toInt) (ho : offs[(x.toInt - lo).toNat]? = some off) (ht : (pc : Int) + off = (tgt : Int)) (k : G M ad tgt lv st σ) : G M ad pc lv (.int x :: st) σ := by
  obtain ⟨p, l, e, R, s, m, args, below, meth, c, Q, nL, D, dA, sa⟩ := M
  obtain ⟨hx, hb, hown, hts, hK, hJ, hSt, hml, hlk, hR1, hR2⟩ := X
  intro H locs ls hP hS hl
  exact lv_tableIn hx hb hd h1 h2 ho ht (k H locs ls hP hS hl)
theorem gw {lv2 : List (Option Value)} (k : G M ad pc lv2 st σ) (h : lvle lv2 lv) : G M ad pc lv st σ := by
  obtain ⟨p, l, e, R, s, m, args, below, meth, c, Q, nL, D, dA, sa⟩ := M
  intro H locs ls hP hS hl
  exact k H locs ls hP hS ⟨(lvle_at h).1.trans hl.1, hl.2.1, hl.2.2.1, fun j v hj => hl.2.2.2 j v ((lvle_at h).2 j v hj)⟩
theorem g_istore_n0 (X : Ctx M ad cc own d) {x0 : Option Value} {r : List (Option Value)} {x y : Int32} (hd : Dc cc pc (.istore_n 0) 1 pc2) (ey : y = x) (k : G M ad pc2 (some (.int y) :: r) st σ) : G M ad pc (x0 :: r) (.int x :: st) σ := by
  obtain ⟨p, l, e, R, s, m, args, below, meth, c, Q, nL, D, dA, sa⟩ := M
  obtain ⟨hx, hb, hown, hts, hK, hJ, hSt, hml, hlk, hR1, hR2⟩ := X
  obtain ⟨hd, rfl⟩ := hd
  intro H locs ls hP hS hl
  subst ey
  exact lv_istore_n hx hb hd rfl hl.has (by have := hl.1; simp only [List.length_cons] at this; omega) rfl (fun ls2 h2 => k H locs ls2 hP hS (lvs_s1 hl.1 (fun j hj => absurd hj (by omega)) h2))
theorem g_istore0 (X : Ctx M ad cc own d) {x0 : Option Value} {r : List (Option Value)} {x y : Int32} (hd : Dc cc pc (.istore 0) 2 pc2) (ey : y = x) (k : G M ad pc2 (some (.int y) :: r) st σ) : G M ad pc (x0 :: r) (.int x :: st) σ := by
  obtain ⟨p, l, e, R, s, m, args, below, meth, c, Q, nL, D, dA, sa⟩ := M
  obtain ⟨hx, hb, hown, hts, hK, hJ, hSt, hml, hlk, hR1, hR2⟩ := X
  obtain ⟨hd, rfl⟩ := hd
  intro H locs ls hP hS hl
  subst ey
  exact lv_istore hx hb hd hl.has (by have := hl.1; simp only [List.length_cons] at this; omega) rfl (fun ls2 h2 => k H locs ls2 hP hS (lvs_s1 hl.1 (fun j hj => absurd hj (by omega)) h2))
theorem g_istore_n1 (X : Ctx M ad cc own d) {x0 x1 : Option Value} {r : List (Option Value)} {x y : Int32} (hd : Dc cc pc (.istore_n 1) 1 pc2) (hp : nl x0) (ey : y = x) (k : G M ad pc2 (x0 :: some (.int y) :: r) st σ) : G M ad pc (x0 :: x1 :: r) (.int x :: st) σ := by
  obtain ⟨p, l, e, R, s, m, args, below, meth, c, Q, nL, D, dA, sa⟩ := M
  obtain ⟨hx, hb, hown, hts, hK, hJ, hSt, hml, hlk, hR1, hR2⟩ := X
  obtain ⟨hd, rfl⟩ := hd
  intro H locs ls hP hS hl
  subst ey
  exact lv_istore_n hx hb hd rfl hl.has (by have := hl.1; simp only [List.length_cons] at this; omega) rfl (fun ls2 h2 => k H locs ls2 hP hS (lvs_s1 hl.1 (fun j hj o ho => by obtain rfl : j = 0 := by omega
                       cases ho; exact hp) h2))
theorem g_istore1 (X : Ctx M ad cc own d) {x0 x1 : Option Value} {r : List (Option Value)} {x y : Int32} (hd : Dc cc pc (.istore 1) 2 pc2) (hp : nl x0) (ey : y = x) (k : G M ad pc2 (x0 :: some (.int y) :: r) st σ) : G M ad pc (x0 :: x1 :: r) (.int x :: st) σ := by
  obtain ⟨p, l, e, R, s, m, args, below, meth, c, Q, nL, D, dA, sa⟩ := M
  obtain ⟨hx, hb, hown, hts, hK, hJ, hSt, hml, hlk, hR1, hR2⟩ := X
  obtain ⟨hd, rfl⟩ := hd
  intro H locs ls hP hS hl
  subst ey
  exact lv_istore hx hb hd hl.has (by have := hl.1; simp only [List.length_cons] at this; omega) rfl (fun ls2 h2 => k H locs ls2 hP hS (lvs_s1 hl.1 (fun j hj o ho => by obtain rfl : j = 0 := by omega
                       cases ho; exact hp) h2))
theorem g_istore_n2 (X : Ctx M ad cc own d) {x0 x1 x2 : Option Value} {r : List (Option Value)} {x y : Int32} (hd : Dc cc pc (.istore_n 2) 1 pc2) (hp : nl x1) (ey : y = x) (k : G M ad pc2 (x0 :: x1 :: some (.int y) :: r) st σ) : G M ad pc (x0 :: x1 :: x2 :: r) (.int x :: st) σ := by
  obtain ⟨p, l, e, R, s, m, args, below, meth, c, Q, nL, D, dA, sa⟩ := M
  obtain ⟨hx, hb, hown, hts, hK, hJ, hSt, hml, hlk, hR1, hR2⟩ := X
  obtain ⟨hd, rfl⟩ := hd
  intro H locs ls hP hS hl
  subst ey
  exact lv_istore_n hx hb hd rfl hl.has (by have := hl.1; simp only [List.length_cons] at this; omega) rfl (fun ls2 h2 => k H locs ls2 hP hS (lvs_s1 hl.1 (fun j hj o ho => by obtain rfl : j = 1 := by omega
                       cases ho; exact hp) h2))
theorem g_istore2 (X : Ctx M ad cc own d) {x0 x1 x2 : Option Value} {r : List (Option Value)} {x y : Int32} (hd : Dc cc pc (.istore 2) 2 pc2) (hp : nl x1) (ey : y = x) (k : G M ad pc2 (x0 :: x1 :: some (.int y) :: r) st σ) : G M ad pc (x0 :: x1 :: x2 :: r) (.int x :: st) σ := by
  obtain ⟨p, l, e, R, s, m, args, below, meth, c, Q, nL, D, dA, sa⟩ := M
  obtain ⟨hx, hb, hown, hts, hK, hJ, hSt, hml, hlk, hR1, hR2⟩ := X
  obtain ⟨hd, rfl⟩ := hd
  intro H locs ls hP hS hl
  subst ey
  exact lv_istore hx hb hd hl.has (by have := hl.1; simp only [List.length_cons] at this; omega) rfl (fun ls2 h2 => k H locs ls2 hP hS (lvs_s1 hl.1 (fun j hj o ho => by obtain rfl : j = 1 := by omega
                       cases ho; exact hp) h2))
theorem g_istore_n3 (X : Ctx M ad cc own d) {x0 x1 x2 x3 : Option Value} {r : List (Option Value)} {x y : Int32} (hd : Dc cc pc (.istore_n 3) 1 pc2) (hp : nl x2) (ey : y = x) (k : G M ad pc2 (x0 :: x1 :: x2 :: some (.int y) :: r) st σ) : G M ad pc (x0 :: x1 :: x2 :: x3 :: r) (.int x :: st) σ := by
  obtain ⟨p, l, e, R, s, m, args, below, meth, c, Q, nL, D, dA, sa⟩ := M
  obtain ⟨hx, hb, hown, hts, hK, hJ, hSt, hml, hlk, hR1, hR2⟩ := X
  obtain ⟨hd, rfl⟩ := hd
  intro H locs ls hP hS hl
  subst ey
  exact lv_istore_n hx hb hd rfl hl.has (by have := hl.1; simp only [List.length_cons] at this; omega) rfl (fun ls2 h2 => k H locs ls2 hP hS (lvs_s1 hl.1 (fun j hj o ho => by obtain rfl : j = 2 := by omega
                       cases ho; exact hp) h2))
theorem g_istore3 (X : Ctx M ad cc own d) {x0 x1 x2 x3 : Option Value} {r : List (Option Value)} {x y : Int32} (hd : Dc cc pc (.istore 3) 2 pc2) (hp : nl x2) (ey : y = x) (k : G M ad pc2 (x0 :: x1 :: x2 :: some (.int y) :: r) st σ) : G M ad pc (x0 :: x1 :: x2 :: x3 :: r) (.int x :: st) σ := by
  obtain ⟨p, l, e, R, s, m, args, below, meth, c, Q, nL, D, dA, sa⟩ := M
  obtain ⟨hx, hb, hown, hts, hK, hJ, hSt, hml, hlk, hR1, hR2⟩ := X
  obtain ⟨hd, rfl⟩ := hd
  intro H locs ls hP hS hl
  subst ey
  exact lv_istore hx hb hd hl.has (by have := hl.1; simp only [List.length_cons] at this; omega) rfl (fun ls2 h2 => k H locs ls2 hP hS (lvs_s1 hl.1 (fun j hj o ho => by obtain rfl : j = 2 := by omega
                       cases ho; exact hp) h2))
theorem g_istore4 (X : Ctx M ad cc own d) {x0 x1 x2 x3 x4 : Option Value} {r : List (Option Value)} {x y : Int32} (hd : Dc cc pc (.istore 4) 2 pc2) (hp : nl x3) (ey : y = x) (k : G M ad pc2 (x0 :: x1 :: x2 :: x3 :: some (.int y) :: r) st σ) : G M ad pc (x0 :: x1 :: x2 :: x3 :: x4 :: r) (.int x :: st) σ := by
  obtain ⟨p, l, e, R, s, m, args, below, meth, c, Q, nL, D, dA, sa⟩ := M
  obtain ⟨hx, hb, hown, hts, hK, hJ, hSt, hml, hlk, hR1, hR2⟩ := X
  obtain ⟨hd, rfl⟩ := hd
  intro H locs ls hP hS hl
  subst ey
  exact lv_istore hx hb hd hl.has (by have := hl.1; simp only [List.length_cons] at this; omega) rfl (fun ls2 h2 => k H locs ls2 hP hS (lvs_s1 hl.1 (fun j hj o ho => by obtain rfl : j = 3 := by omega
                       cases ho; exact hp) h2))
theorem g_istore5 (X : Ctx M ad cc own d) {x0 x1 x2 x3 x4 x5 : Option Value} {r : List (Option Value)} {x y : Int32} (hd : Dc cc pc (.istore 5) 2 pc2) (hp : nl x4) (ey : y = x) (k : G M ad pc2 (x0 :: x1 :: x2 :: x3 :: x4 :: some (.int y) :: r) st σ) : G M ad pc (x0 :: x1 :: x2 :: x3 :: x4 :: x5 :: r) (.int x :: st) σ := by
  obtain ⟨p, l, e, R, s, m, args, below, meth, c, Q, nL, D, dA, sa⟩ := M
  obtain ⟨hx, hb, hown, hts, hK, hJ, hSt, hml, hlk, hR1, hR2⟩ := X
  obtain ⟨hd, rfl⟩ := hd
  intro H locs ls hP hS hl
  subst ey
  exact lv_istore hx hb hd hl.has (by have := hl.1; simp only [List.length_cons] at this; omega) rfl (fun ls2 h2 => k H locs ls2 hP hS (lvs_s1 hl.1 (fun j hj o ho => by obtain rfl : j = 4 := by omega
                       cases ho; exact hp) h2))
theorem g_istore6 (X : Ctx M ad cc own d) {x0 x1 x2 x3 x4 x5 x6 : Option Value} {r : List (Option Value)} {x y : Int32} (hd : Dc cc pc (.istore 6) 2 pc2) (hp : nl x5) (ey : y = x) (k : G M ad pc2 (x0 :: x1 :: x2 :: x3 :: x4 :: x5 :: some (.int y) :: r) st σ) : G M ad pc (x0 :: x1 :: x2 :: x3 :: x4 :: x5 :: x6 :: r) (.int x :: st) σ := by
  obtain ⟨p, l, e, R, s, m, args, below, meth, c, Q, nL, D, dA, sa⟩ := M
  obtain ⟨hx, hb, hown, hts, hK, hJ, hSt, hml, hlk, hR1, hR2⟩ := X
  obtain ⟨hd, rfl⟩ := hd
  intro H locs ls hP hS hl
  subst ey
  exact lv_istore hx hb hd hl.has (by have := hl.1; simp only [List.length_cons] at this; omega) rfl (fun ls2 h2 => k H locs ls2 hP hS (lvs_s1 hl.1 (fun j hj o ho => by obtain rfl : j = 5 := by omega
                       cases ho; exact hp) h2))
theorem g_istore7 (X : Ctx M ad cc own d) {x0 x1 x2 x3 x4 x5 x6 x7 : Option Value} {r : List (Option Value)} {x y : Int32} (hd : Dc cc pc (.istore 7) 2 pc2) (hp : nl x6) (ey : y = x) (k : G M ad pc2 (x0 :: x1 :: x2 :: x3 :: x4 :: x5 :: x6 :: some (.int y) :: r) st σ) : G M ad pc (x0 :: x1 :: x2 :: x3 :: x4 :: x5 :: x6 :: x7 :: r) (.int x :: st) σ := by
  obtain ⟨p, l, e, R, s, m, args, below, meth, c, Q, nL, D, dA, sa⟩ := M
  obtain ⟨hx, hb, hown, hts, hK, hJ, hSt, hml, hlk, hR1, hR2⟩ := X
  obtain ⟨hd, rfl⟩ := hd
  intro H locs ls hP hS hl
  subst ey
  exact lv_istore hx hb hd hl.has (by have := hl.1; simp only [List.length_cons] at this; omega) rfl (fun ls2 h2 => k H locs ls2 hP hS (lvs_s1 hl.1 (fun j hj o ho => by obtain rfl : j = 6 := by omega
                       cases ho; exact hp) h2))
theorem g_istore8 (X : Ctx M ad cc own d) {x0 x1 x2 x3 x4 x5 x6 x7 x8 : Option Value} {r : List (Option Value)} {x y : Int32} (hd : Dc cc pc (.istore 8) 2 pc2) (hp : nl x7) (ey : y = x) (k : G M ad pc2 (x0 :: x1 :: x2 :: x3 :: x4 :: x5 :: x6 :: x7 :: some (.int y) :: r) st σ) : G M ad pc (x0 :: x1 :: x2 :: x3 :: x4 :: x5 :: x6 :: x7 :: x8 :: r) (.int x :: st) σ := by
  obtain ⟨p, l, e, R, s, m, args, below, meth, c, Q, nL, D, dA, sa⟩ := M
  obtain ⟨hx, hb, hown, hts, hK, hJ, hSt, hml, hlk, hR1, hR2⟩ := X
  obtain ⟨hd, rfl⟩ := hd
  intro H locs ls hP hS hl
  subst ey
  exact lv_istore hx hb hd hl.has (by have := hl.1; simp only [List.length_cons] at this; omega) rfl (fun ls2 h2 => k H locs ls2 hP hS (lvs_s1 hl.1 (fun j hj o ho => by obtain rfl : j = 7 := by omega
                       cases ho; exact hp) h2))
theorem g_istore9 (X : Ctx M ad cc own d) {x0 x1 x2 x3 x4 x5 x6 x7 x8 x9 : Option Value} {r : List (Option Value)} {x y : Int32} (hd : Dc cc pc (.istore 9) 2 pc2) (hp : nl x8) (ey : y = x) (k : G M ad pc2 (x0 :: x1 :: x2 :: x3 :: x4 :: x5 :: x6 :: x7 :: x8 :: some (.int y) :: r) st σ) : G M ad pc (x0 :: x1 :: x2 :: x3 :: x4 :: x5 :: x6 :: x7 :: x8 :: x9 :: r) (.int x :: st) σ := by
  obtain ⟨p, l, e, R, s, m, args, below, meth, c, Q, nL, D, dA, sa⟩ := M
  obtain ⟨hx, hb, hown, hts, hK, hJ, hSt, hml, hlk, hR1, hR2⟩ := X
  obtain ⟨hd, rfl⟩ := hd
  intro H locs ls hP hS hl
  subst ey
  exact lv_istore hx hb hd hl.has (by have := hl.1; simp only [List.length_cons] at this; omega) rfl (fun ls2 h2 => k H locs ls2 hP hS (lvs_s1 hl.1 (fun j hj o ho => by obtain rfl : j = 8 := by omega
                       cases ho; exact hp) h2))
theorem g_astore_n0 (X : Ctx M ad cc own d) {x0 : Option Value} {r : List (Option Value)} {x y : Nat} (hd : Dc cc pc (.astore_n 0) 1 pc2) (ey : y = x) (k : G M ad pc2 (some (.ref y) :: r) st σ) : G M ad pc (x0 :: r) (.ref x :: st) σ := by
  obtain ⟨p, l, e, R, s, m, args, below, meth, c, Q, nL, D, dA, sa⟩ := M
  obtain ⟨hx, hb, hown, hts, hK, hJ, hSt, hml, hlk, hR1, hR2⟩ := X
  obtain ⟨hd, rfl⟩ := hd
  intro H locs ls hP hS hl
  subst ey
  exact lv_astore_n hx hb hd rfl hl.has (by have := hl.1; simp only [List.length_cons] at this; omega) rfl (fun ls2 h2 => k H locs ls2 hP hS (lvs_s1 hl.1 (fun j hj => absurd hj (by omega)) h2))
theorem g_astore0 (X : Ctx M ad cc own d) {x0 : Option Value} {r : List (Option Value)} {x y : Nat} (hd : Dc cc pc (.astore 0) 2 pc2) (ey : y = x) (k : G M ad pc2 (some (.ref y) :: r) st σ) : G M ad pc (x0 :: r) (.ref x :: st) σ := by
  obtain ⟨p, l, e, R, s, m, args, below, meth, c, Q, nL, D, dA, sa⟩ := M
  obtain ⟨hx, hb, hown, hts, hK, hJ, hSt, hml, hlk, hR1, hR2⟩ := X
  obtain ⟨hd, rfl⟩ := hd
  intro H locs ls hP hS hl
  subst ey
  exact lv_astore hx hb hd hl.has (by have := hl.1; simp only [List.length_cons] at this; omega) rfl (fun ls2 h2 => k H locs ls2 hP hS (lvs_s1 hl.1 (fun j hj => absurd hj (by omega)) h2))
theorem g_astore_n1 (X : Ctx M ad cc own d) {x0 x1 : Option Value} {r : List (Option Value)} {x y : Nat} (hd : Dc cc pc (.astore_n 1) 1 pc2) (hp : nl x0) (ey : y = x) (k : G M ad pc2 (x0 :: some (.ref y) :: r) st σ) : G M ad pc (x0 :: x1 :: r) (.ref x :: st) σ := by
  obtain ⟨p, l, e, R, s, m, args, below, meth, c, Q, nL, D, dA, sa⟩ := M
  obtain ⟨hx, hb, hown, hts, hK, hJ, hSt, hml, hlk, hR1, hR2⟩ := X
  obtain ⟨hd, rfl⟩ := hd
  intro H locs ls hP hS hl
  subst ey
  exact lv_astore_n hx hb hd rfl hl.has (by have := hl.1; simp only [List.length_cons] at this; omega) rfl (fun ls2 h2 => k H locs ls2 hP hS (lvs_s1 hl.1 (fun j hj o ho => by obtain rfl : j = 0 := by omega
                       cases ho; exact hp) h2))
theorem g_astore1 (X : Ctx M ad cc own d) {x0 x1 : Option Value} {r : List (Option Value)} {x y : Nat} (hd : Dc cc pc (.astore 1) 2 pc2) (hp : nl x0) (ey : y = x) (k : G M ad pc2 (x0 :: some (.ref y) :: r) st σ) : G M ad pc (x0 :: x1 :: r) (.ref x :: st) σ := by
  obtain ⟨p, l, e, R, s, m, args, below, meth, c, Q, nL, D, dA, sa⟩ := M
  obtain ⟨hx, hb, hown, hts, hK, hJ, hSt, hml, hlk, hR1, hR2⟩ := X
  obtain ⟨hd, rfl⟩ := hd
  intro H locs ls hP hS hl
  subst ey
  exact lv_astore hx hb hd hl.has (by have := hl.1; simp only [List.length_cons] at this; omega) rfl (fun ls2 h2 => k H locs ls2 hP hS (lvs_s1 hl.1 (fun j hj o ho => by obtain rfl : j = 0 := by omega
                       cases ho; exact hp) h2))
theorem g_astore_n2 (X : Ctx M ad cc own d) {x0 x1 x2 : Option Value} {r : List (Option Value)} {x y : Nat} (hd : Dc cc pc (.astore_n 2) 1 pc2) (hp : nl x1) (ey : y = x) (k : G M ad pc2 (x0 :: x1 :: some (.ref y) :: r) st σ) : G M ad pc (x0 :: x1 :: x2 :: r) (.ref x :: st) σ := by
  obtain ⟨p, l, e, R, s, m, args, below, meth, c, Q, nL, D, dA, sa⟩ := M
  obtain ⟨hx, hb, hown, hts, hK, hJ, hSt, hml, hlk, hR1, hR2⟩ := X
  obtain ⟨hd, rfl⟩ := hd
  intro H locs ls hP hS hl
  subst ey
  exact lv_astore_n hx hb hd rfl hl.has (by have := hl.1; simp only [List.length_cons] at this; omega) rfl (fun ls2 h2 => k H locs ls2 hP hS (lvs_s1 hl.1 (fun j hj o ho => by obtain rfl : j = 1 := by omega
                       cases ho; exact hp) h2))
theorem g_astore2 (X : Ctx M ad cc own d) {x0 x1 x2 : Option Value} {r : List (Option Value)} {x y : Nat} (hd : Dc cc pc (.astore 2) 2 pc2) (hp : nl x1) (ey : y = x) (k : G M ad pc2 (x0 :: x1 :: some (.ref y) :: r) st σ) : G M ad pc (x0 :: x1 :: x2 :: r) (.ref x :: st) σ := by
  obtain ⟨p, l, e, R, s, m, args, below, meth, c, Q, nL, D, dA, sa⟩ := M
  obtain ⟨hx, hb, hown, hts, hK, hJ, hSt, hml, hlk, hR1, hR2⟩ := X
  obtain ⟨hd, rfl⟩ := hd
  intro H locs ls hP hS hl
  subst ey
  exact lv_astore hx hb hd hl.has (by have := hl.1; simp only [List.length_cons] at this; omega) rfl (fun ls2 h2 => k H locs ls2 hP hS (lvs_s1 hl.1 (fun j hj o ho => by obtain rfl : j = 1 := by omega
                       cases ho; exact hp) h2))
theorem g_astore_n3 (X : Ctx M ad cc own d) {x0 x1 x2 x3 : Option Value} {r : List (Option Value)} {x y : Nat} (hd : Dc cc pc (.astore_n 3) 1 pc2) (hp : nl x2) (ey : y = x) (k : G M ad pc2 (x0 :: x1 :: x2 :: some (.ref y) :: r) st σ) : G M ad pc (x0 :: x1 :: x2 :: x3 :: r) (.ref x :: st) σ := by
  obtain ⟨p, l, e, R, s, m, args, below, meth, c, Q, nL, D, dA, sa⟩ := M
  obtain ⟨hx, hb, hown, hts, hK, hJ, hSt, hml, hlk, hR1, hR2⟩ := X
  obtain ⟨hd, rfl⟩ := hd
  intro H locs ls hP hS hl
  subst ey
  exact lv_astore_n hx hb hd rfl hl.has (by have := hl.1; simp only [List.length_cons] at this; omega) rfl (fun ls2 h2 => k H locs ls2 hP hS (lvs_s1 hl.1 (fun j hj o ho => by obtain rfl : j = 2 := by omega
                       cases ho; exact hp) h2))
theorem g_astore3 (X : Ctx M ad cc own d) {x0 x1 x2 x3 : Option Value} {r : List (Option Value)} {x y : Nat} (hd : Dc cc pc (.astore 3) 2 pc2) (hp : nl x2) (ey : y = x) (k : G M ad pc2 (x0 :: x1 :: x2 :: some (.ref y) :: r) st σ) : G M ad pc (x0 :: x1 :: x2 :: x3 :: r) (.ref x :: st) σ := by
  obtain ⟨p, l, e, R, s, m, args, below, meth, c, Q, nL, D, dA, sa⟩ := M
  obtain ⟨hx, hb, hown, hts, hK, hJ, hSt, hml, hlk, hR1, hR2⟩ := X
  obtain ⟨hd, rfl⟩ := hd
  intro H locs ls hP hS hl
  subst ey
  exact lv_astore hx hb hd hl.has (by have := hl.1; simp only [List.length_cons] at this; omega) rfl (fun ls2 h2 => k H locs ls2 hP hS (lvs_s1 hl.1 (fun j hj o ho => by obtain rfl : j = 2 := by omega
                       cases ho; exact hp) h2))
theorem g_astore4 (X : Ctx M ad cc own d) {x0 x1 x2 x3 x4 : Option Value} {r : List (Option Value)} {x y : Nat} (hd : Dc cc pc (.astore 4) 2 pc2) (hp : nl x3) (ey : y = x) (k : G M ad pc2 (x0 :: x1 :: x2 :: x3 :: some (.ref y) :: r) st σ) : G M ad pc (x0 :: x1 :: x2 :: x3 :: x4 :: r) (.ref x :: st) σ := by
  obtain ⟨p, l, e, R, s, m, args, below, meth, c, Q, nL, D, dA, sa⟩ := M
  obtain ⟨hx, hb, hown, hts, hK, hJ, hSt, hml, hlk, hR1, hR2⟩ := X
  obtain ⟨hd, rfl⟩ := hd
  intro H locs ls hP hS hl
  subst ey
  exact lv_astore hx hb hd hl.has (by have := hl.1; simp only [List.length_cons] at this; omega) rfl (fun ls2 h2 => k H locs ls2 hP hS (lvs_s1 hl.1 (fun j hj o ho => by obtain rfl : j = 3 := by omega
                       cases ho; exact hp) h2))
theorem g_astore5 (X : Ctx M ad cc own d) {x0 x1 x2 x3 x4 x5 : Option Value} {r : List (Option Value)} {x y : Nat} (hd : Dc cc pc (.astore 5) 2 pc2) (hp : nl x4) (ey : y = x) (k : G M ad pc2 (x0 :: x1 :: x2 :: x3 :: x4 :: some (.ref y) :: r) st σ) : G M ad pc (x0 :: x1 :: x2 :: x3 :: x4 :: x5 :: r) (.ref x :: st) σ := by
  obtain ⟨p, l, e, R, s, m, args, below, meth, c, Q, nL, D, dA, sa⟩ := M
  obtain ⟨hx, hb, hown, hts, hK, hJ, hSt, hml, hlk, hR1, hR2⟩ := X
  obtain ⟨hd, rfl⟩ := hd
  intro H locs ls hP hS hl
  subst ey
  exact lv_astore hx hb hd hl.has (by have := hl.1; simp only [List.length_cons] at this; omega) rfl (fun ls2 h2 => k H locs ls2 hP hS (lvs_s1 hl.1 (fun j hj o ho => by obtain rfl : j = 4 := by omega
                       cases ho; exact hp) h2))
theorem g_astore6 (X : Ctx M ad cc own d) {x0 x1 x2 x3 x4 x5 x6 : Option Value} {r : List (Option Value)} {x y : Nat} (hd : Dc cc pc (.astore 6) 2 pc2) (hp : nl x5) (ey : y = x) (k : G M ad pc2 (x0 :: x1 :: x2 :: x3 :: x4 :: x5 :: some (.ref y) :: r) st σ) : G M ad pc (x0 :: x1 :: x2 :: x3 :: x4 :: x5 :: x6 :: r) (.ref x :: st) σ := by
  obtain ⟨p, l, e, R, s, m, args, below, meth, c, Q, nL, D, dA, sa⟩ := M
  obtain ⟨hx, hb, hown, hts, hK, hJ, hSt, hml, hlk, hR1, hR2⟩ := X
  obtain ⟨hd, rfl⟩ := hd
  intro H locs ls hP hS hl
  subst ey
  exact lv_astore hx hb hd hl.has (by have := hl.1; simp only [List.length_cons] at this; omega) rfl (fun ls2 h2 => k H locs ls2 hP hS (lvs_s1 hl.1 (fun j hj o ho => by obtain rfl : j = 5 := by omega
                       cases ho; exact hp) h2))
theorem g_astore7 (X : Ctx M ad cc own d) {x0 x1 x2 x3 x4 x5 x6 x7 : Option Value} {r : List (Option Value)} {x y : Nat} (hd : Dc cc pc (.astore 7) 2 pc2) (hp : nl x6) (ey : y = x) (k : G M ad pc2 (x0 :: x1 :: x2 :: x3 :: x4 :: x5 :: x6 :: some (.ref y) :: r) st σ) : G M ad pc (x0 :: x1 :: x2 :: x3 :: x4 :: x5 :: x6 :: x7 :: r) (.ref x :: st) σ := by
  obtain ⟨p, l, e, R, s, m, args, below, meth, c, Q, nL, D, dA, sa⟩ := M
  obtain ⟨hx, hb, hown, hts, hK, hJ, hSt, hml, hlk, hR1, hR2⟩ := X
  obtain ⟨hd, rfl⟩ := hd
  intro H locs ls hP hS hl
  subst ey
  exact lv_astore hx hb hd hl.has (by have := hl.1; simp only [List.length_cons] at this; omega) rfl (fun ls2 h2 => k H locs ls2 hP hS (lvs_s1 hl.1 (fun j hj o ho => by obtain rfl : j = 6 := by omega
                       cases ho; exact hp) h2))
theorem g_astore8 (X : Ctx M ad cc own d) {x0 x1 x2 x3 x4 x5 x6 x7 x8 : Option Value} {r : List (Option Value)} {x y : Nat} (hd : Dc cc pc (.astore 8) 2 pc2) (hp : nl x7) (ey : y = x) (k : G M ad pc2 (x0 :: x1 :: x2 :: x3 :: x4 :: x5 :: x6 :: x7 :: some (.ref y) :: r) st σ) : G M ad pc (x0 :: x1 :: x2 :: x3 :: x4 :: x5 :: x6 :: x7 :: x8 :: r) (.ref x :: st) σ := by
  obtain ⟨p, l, e, R, s, m, args, below, meth, c, Q, nL, D, dA, sa⟩ := M
  obtain ⟨hx, hb, hown, hts, hK, hJ, hSt, hml, hlk, hR1, hR2⟩ := X
  obtain ⟨hd, rfl⟩ := hd
  intro H locs ls hP hS hl
  subst ey
  exact lv_astore hx hb hd hl.has (by have := hl.1; simp only [List.length_cons] at this; omega) rfl (fun ls2 h2 => k H locs ls2 hP hS (lvs_s1 hl.1 (fun j hj o ho => by obtain rfl : j = 7 := by omega
                       cases ho; exact hp) h2))
theorem g_astore9 (X : Ctx M ad cc own d) {x0 x1 x2 x3 x4 x5 x6 x7 x8 x9 : Option Value} {r : List (Option Value)} {x y : Nat} (hd : Dc cc pc (.astore 9) 2 pc2) (hp : nl x8) (ey : y = x) (k : G M ad pc2 (x0 :: x1 :: x2 :: x3 :: x4 :: x5 :: x6 :: x7 :: x8 :: some (.ref y) :: r) st σ) : G M ad pc (x0 :: x1 :: x2 :: x3 :: x4 :: x5 :: x6 :: x7 :: x8 :: x9 :: r) (.ref x :: st) σ := by
  obtain ⟨p, l, e, R, s, m, args, below, meth, c, Q, nL, D, dA, sa⟩ := M
  obtain ⟨hx, hb, hown, hts, hK, hJ, hSt, hml, hlk, hR1, hR2⟩ := X
  obtain ⟨hd, rfl⟩ := hd
  intro H locs ls hP hS hl
  subst ey
  exact lv_astore hx hb hd hl.has (by have := hl.1; simp only [List.length_cons] at this; omega) rfl (fun ls2 h2 => k H locs ls2 hP hS (lvs_s1 hl.1 (fun j hj o ho => by obtain rfl : j = 8 := by omega
                       cases ho; exact hp) h2))
theorem g_lstore_n0 (X : Ctx M ad cc own d) {x0 x1 : Option Value} {r : List (Option Value)} {x y : Int64} (hd : Dc cc pc (.lstore_n 0) 1 pc2) (ey : y = x) (k : G M ad pc2 (some (.long y) :: none :: r) st σ) : G M ad pc (x0 :: x1 :: r) (.long x :: st) σ := by
  obtain ⟨p, l, e, R, s, m, args, below, meth, c, Q, nL, D, dA, sa⟩ := M
  obtain ⟨hx, hb, hown, hts, hK, hJ, hSt, hml, hlk, hR1, hR2⟩ := X
  obtain ⟨hd, rfl⟩ := hd
  intro H locs ls hP hS hl
  subst ey
  exact lv_lstore_n hx hb hd rfl hl.has (by have := hl.1; simp only [List.length_cons] at this; omega) rfl (fun ls2 h2 => k H locs ls2 hP hS (lvs_s2 hl.1 (fun j hj => absurd hj (by omega)) h2))
theorem g_lstore0 (X : Ctx M ad cc own d) {x0 x1 : Option Value} {r : List (Option Value)} {x y : Int64} (hd : Dc cc pc (.lstore 0) 2 pc2) (ey : y = x) (k : G M ad pc2 (some (.long y) :: none :: r) st σ) : G M ad pc (x0 :: x1 :: r) (.long x :: st) σ := by
  obtain ⟨p, l, e, R, s, m, args, below, meth, c, Q, nL, D, dA, sa⟩ := M
  obtain ⟨hx, hb, hown, hts, hK, hJ, hSt, hml, hlk, hR1, hR2⟩ := X
  obtain ⟨hd, rfl⟩ := hd
  intro H locs ls hP hS hl
  subst ey
  exact lv_lstore hx hb hd hl.has (by have := hl.1; simp only [List.length_cons] at this; omega) rfl (fun ls2 h2 => k H locs ls2 hP hS (lvs_s2 hl.1 (fun j hj => absurd hj (by omega)) h2))
theorem g_lstore_n1 (X : Ctx M ad cc own d) {x0 x1 x2 : Option Value} {r : List (Option Value)} {x y : Int64} (hd : Dc cc pc (.lstore_n 1) 1 pc2) (hp : nl x0) (ey : y = x) (k : G M ad pc2 (x0 :: some (.long y) :: none :: r) st σ) : G M ad pc (x0 :: x1 :: x2 :: r) (.long x :: st) σ := by
  obtain ⟨p, l, e, R, s, m, args, below, meth, c, Q, nL, D, dA, sa⟩ := M
  obtain ⟨hx, hb, hown, hts, hK, hJ, hSt, hml, hlk, hR1, hR2⟩ := X
  obtain ⟨hd, rfl⟩ := hd
  intro H locs ls hP hS hl
  subst ey
  exact lv_lstore_n hx hb hd rfl hl.has (by have := hl.1; simp only [List.length_cons] at this; omega) rfl (fun ls2 h2 => k H locs ls2 hP hS (lvs_s2 hl.1 (fun j hj o ho => by obtain rfl : j = 0 := by omega
                       cases ho; exact hp) h2))
theorem g_lstore1 (X : Ctx M ad cc own d) {x0 x1 x2 : Option Value} {r : List (Option Value)} {x y : Int64} (hd : Dc cc pc (.lstore 1) 2 pc2) (hp : nl x0) (ey : y = x) (k : G M ad pc2 (x0 :: some (.long y) :: none :: r) st σ) : G M ad pc (x0 :: x1 :: x2 :: r) (.long x :: st) σ := by
  obtain ⟨p, l, e, R, s, m, args, below, meth, c, Q, nL, D, dA, sa⟩ := M
  obtain ⟨hx, hb, hown, hts, hK, hJ, hSt, hml, hlk, hR1, hR2⟩ := X
  obtain ⟨hd, rfl⟩ := hd
  intro H locs ls hP hS hl
  subst ey
  exact lv_lstore hx hb hd hl.has (by have := hl.1; simp only [List.length_cons] at this; omega) rfl (fun ls2 h2 => k H locs ls2 hP hS (lvs_s2 hl.1 (fun j hj o ho => by obtain rfl : j = 0 := by omega
                       cases ho; exact hp) h2))
theorem g_lstore_n2 (X : Ctx M ad cc own d) {x0 x1 x2 x3 : Option Value} {r : List (Option Value)} {x y : Int64} (hd : Dc cc pc (.lstore_n 2) 1 pc2) (hp : nl x1) (ey : y = x) (k : G M ad pc2 (x0 :: x1 :: some (.long y) :: none :: r) st σ) : G M ad pc (x0 :: x1 :: x2 :: x3 :: r) (.long x :: st) σ := by
  obtain ⟨p, l, e, R, s, m, args, below, meth, c, Q, nL, D, dA, sa⟩ := M
  obtain ⟨hx, hb, hown, hts, hK, hJ, hSt, hml, hlk, hR1, hR2⟩ := X
  obtain ⟨hd, rfl⟩ := hd
  intro H locs ls hP hS hl
  subst ey
  exact lv_lstore_n hx hb hd rfl hl.has (by have := hl.1; simp only [List.length_cons] at this; omega) rfl (fun ls2 h2 => k H locs ls2 hP hS (lvs_s2 hl.1 (fun j hj o ho => by obtain rfl : j = 1 := by omega
                       cases ho; exact hp) h2))
theorem g_lstore2 (X : Ctx M ad cc own d) {x0 x1 x2 x3 : Option Value} {r : List (Option Value)} {x y : Int64} (hd : Dc cc pc (.lstore 2) 2 pc2) (hp : nl x1) (ey : y = x) (k : G M ad pc2 (x0 :: x1 :: some (.long y) :: none :: r) st σ) : G M ad pc (x0 :: x1 :: x2 :: x3 :: r) (.long x :: st) σ := by
  obtain ⟨p, l, e, R, s, m, args, below, meth, c, Q, nL, D, dA, sa⟩ := M
  obtain ⟨hx, hb, hown, hts, hK, hJ, hSt, hml, hlk, hR1, hR2⟩ := X
  obtain ⟨hd, rfl⟩ := hd
  intro H locs ls hP hS hl
  subst ey
  exact lv_lstore hx hb hd hl.has (by have := hl.1; simp only [List.length_cons] at this; omega) rfl (fun ls2 h2 => k H locs ls2 hP hS (lvs_s2 hl.1 (fun j hj o ho => by obtain rfl : j = 1 := by omega
                       cases ho; exact hp) h2))
theorem g_lstore_n3 (X : Ctx M ad cc own d) {x0 x1 x2 x3 x4 : Option Value} {r : List (Option Value)} {x y : Int64} (hd : Dc cc pc (.lstore_n 3) 1 pc2) (hp : nl x2) (ey : y = x) (k : G M ad pc2 (x0 :: x1 :: x2 :: some (.long y) :: none :: r) st σ) : G M ad pc (x0 :: x1 :: x2 :: x3 :: x4 :: r) (.long x :: st) σ := by
  obtain ⟨p, l, e, R, s, m, args, below, meth, c, Q, nL, D, dA, sa⟩ := M
  obtain ⟨hx, hb, hown, hts, hK, hJ, hSt, hml, hlk, hR1, hR2⟩ := X
  obtain ⟨hd, rfl⟩ := hd
  intro H locs ls hP hS hl
  subst ey
  exact lv_lstore_n hx hb hd rfl hl.has (by have := hl.1; simp only [List.length_cons] at this; omega) rfl (fun ls2 h2 => k H locs ls2 hP hS (lvs_s2 hl.1 (fun j hj o ho => by obtain rfl : j = 2 := by omega
                       cases ho; exact hp) h2))
theorem g_lstore3 (X : Ctx M ad cc own d) {x0 x1 x2 x3 x4 : Option Value} {r : List (Option Value)} {x y : Int64} (hd : Dc cc pc (.lstore 3) 2 pc2) (hp : nl x2) (ey : y = x) (k : G M ad pc2 (x0 :: x1 :: x2 :: some (.long y) :: none :: r) st σ) : G M ad pc (x0 :: x1 :: x2 :: x3 :: x4 :: r) (.long x :: st) σ := by
  obtain ⟨p, l, e, R, s, m, args, below, meth, c, Q, nL, D, dA, sa⟩ := M
  obtain ⟨hx, hb, hown, hts, hK, hJ, hSt, hml, hlk, hR1, hR2⟩ := X
  obtain ⟨hd, rfl⟩ := hd
  intro H locs ls hP hS hl
  subst ey
  exact lv_lstore hx hb hd hl.has (by have := hl.1; simp only [List.length_cons] at this; omega) rfl (fun ls2 h2 => k H locs ls2 hP hS (lvs_s2 hl.1 (fun j hj o ho => by obtain rfl : j = 2 := by omega
                       cases ho; exact hp) h2))
theorem g_lstore4 (X : Ctx M ad cc own d) {x0 x1 x2 x3 x4 x5 : Option Value} {r : List (Option Value)} {x y : Int64} (hd : Dc cc pc (.lstore 4) 2 pc2) (hp : nl x3) (ey : y = x) (k : G M ad pc2 (x0 :: x1 :: x2 :: x3 :: some (.long y) :: none :: r) st σ) : G M ad pc (x0 :: x1 :: x2 :: x3 :: x4 :: x5 :: r) (.long x :: st) σ := by
  obtain ⟨p, l, e, R, s, m, args, below, meth, c, Q, nL, D, dA, sa⟩ := M
  obtain ⟨hx, hb, hown, hts, hK, hJ, hSt, hml, hlk, hR1, hR2⟩ := X
  obtain ⟨hd, rfl⟩ := hd
  intro H locs ls hP hS hl
  subst ey
  exact lv_lstore hx hb hd hl.has (by have := hl.1; simp only [List.length_cons] at this; omega) rfl (fun ls2 h2 => k H locs ls2 hP hS (lvs_s2 hl.1 (fun j hj o ho => by obtain rfl : j = 3 := by omega
                       cases ho; exact hp) h2))
theorem g_lstore5 (X : Ctx M ad cc own d) {x0 x1 x2 x3 x4 x5 x6 : Option Value} {r : List (Option Value)} {x y : Int64} (hd : Dc cc pc (.lstore 5) 2 pc2) (hp : nl x4) (ey : y = x) (k : G M ad pc2 (x0 :: x1 :: x2 :: x3 :: x4 :: some (.long y) :: none :: r) st σ) : G M ad pc (x0 :: x1 :: x2 :: x3 :: x4 :: x5 :: x6 :: r) (.long x :: st) σ := by
  obtain ⟨p, l, e, R, s, m, args, below, meth, c, Q, nL, D, dA, sa⟩ := M
  obtain ⟨hx, hb, hown, hts, hK, hJ, hSt, hml, hlk, hR1, hR2⟩ := X
  obtain ⟨hd, rfl⟩ := hd
  intro H locs ls hP hS hl
  subst ey
  exact lv_lstore hx hb hd hl.has (by have := hl.1; simp only [List.length_cons] at this; omega) rfl (fun ls2 h2 => k H locs ls2 hP hS (lvs_s2 hl.1 (fun j hj o ho => by obtain rfl : j = 4 := by omega
                       cases ho; exact hp) h2))
theorem g_lstore6 (X : Ctx M ad cc own d) {x0 x1 x2 x3 x4 x5 x6 x7 : Option Value} {r : List (Option Value)} {x y : Int64} (hd : Dc cc pc (.lstore 6) 2 pc2) (hp : nl x5) (ey : y = x) (k : G M ad pc2 (x0 :: x1 :: x2 :: x3 :: x4 :: x5 :: some (.long y) :: none :: r) st σ) : G M ad pc (x0 :: x1 :: x2 :: x3 :: x4 :: x5 :: x6 :: x7 :: r) (.long x :: st) σ := by
  obtain ⟨p, l, e, R, s, m, args, below, meth, c, Q, nL, D, dA, sa⟩ := M
  obtain ⟨hx, hb, hown, hts, hK, hJ, hSt, hml, hlk, hR1, hR2⟩ := X
  obtain ⟨hd, rfl⟩ := hd
  intro H locs ls hP hS hl
  subst ey
  exact lv_lstore hx hb hd hl.has (by have := hl.1; simp only [List.length_cons] at this; omega) rfl (fun ls2 h2 => k H locs ls2 hP hS (lvs_s2 hl.1 (fun j hj o ho => by obtain rfl : j = 5 := by omega
                       cases ho; exact hp) h2))
theorem g_lstore7 (X : Ctx M ad cc own d) {x0 x1 x2 x3 x4 x5 x6 x7 x8 : Option Value} {r : List (Option Value)} {x y : Int64} (hd : Dc cc pc (.lstore 7) 2 pc2) (hp : nl x6) (ey : y = x) (k : G M ad pc2 (x0 :: x1 :: x2 :: x3 :: x4 :: x5 :: x6 :: some (.long y) :: none :: r) st σ) : G M ad pc (x0 :: x1 :: x2 :: x3 :: x4 :: x5 :: x6 :: x7 :: x8 :: r) (.long x :: st) σ := by
  obtain ⟨p, l, e, R, s, m, args, below, meth, c, Q, nL, D, dA, sa⟩ := M
  obtain ⟨hx, hb, hown, hts, hK, hJ, hSt, hml, hlk, hR1, hR2⟩ := X
  obtain ⟨hd, rfl⟩ := hd
  intro H locs ls hP hS hl
  subst ey
  exact lv_lstore hx hb hd hl.has (by have := hl.1; simp only [List.length_cons] at this; omega) rfl (fun ls2 h2 => k H locs ls2 hP hS (lvs_s2 hl.1 (fun j hj o ho => by obtain rfl : j = 6 := by omega
                       cases ho; exact hp) h2))
theorem g_lstore8 (X : Ctx M ad cc own d) {x0 x1 x2 x3 x4 x5 x6 x7 x8 x9 : Option Value} {r : List (Option Value)} {x y : Int64} (hd : Dc cc pc (.lstore 8) 2 pc2) (hp : nl x7) (ey : y = x) (k : G M ad pc2 (x0 :: x1 :: x2 :: x3 :: x4 :: x5 :: x6 :: x7 :: some (.long y) :: none :: r) st σ) : G M ad pc (x0 :: x1 :: x2 :: x3 :: x4 :: x5 :: x6 :: x7 :: x8 :: x9 :: r) (.long x :: st) σ := by
  obtain ⟨p, l, e, R, s, m, args, below, meth, c, Q, nL, D, dA, sa⟩ := M
  obtain ⟨hx, hb, hown, hts, hK, hJ, hSt, hml, hlk, hR1, hR2⟩ := X
  obtain ⟨hd, rfl⟩ := hd
  intro H locs ls hP hS hl
  subst ey
  exact lv_lstore hx hb hd hl.has (by have := hl.1; simp only [List.length_cons] at this; omega) rfl (fun ls2 h2 => k H locs ls2 hP hS (lvs_s2 hl.1 (fun j hj o ho => by obtain rfl : j = 7 := by omega
                       cases ho; exact hp) h2))
theorem g_lstore9 (X : Ctx M ad cc own d) {x0 x1 x2 x3 x4 x5 x6 x7 x8 x9 x10 : Option Value} {r : List (Option Value)} {x y : Int64} (hd : Dc cc pc (.lstore 9) 2 pc2) (hp : nl x8) (ey : y = x) (k : G M ad pc2 (x0 :: x1 :: x2 :: x3 :: x4 :: x5 :: x6 :: x7 :: x8 :: some (.long y) :: none :: r) st σ) : G M ad pc (x0 :: x1 :: x2 :: x3 :: x4 :: x5 :: x6 :: x7 :: x8 :: x9 :: x10 :: r) (.long x :: st) σ := by
  obtain ⟨p, l, e, R, s, m, args, below, meth, c, Q, nL, D, dA, sa⟩ := M
  obtain ⟨hx, hb, hown, hts, hK, hJ, hSt, hml, hlk, hR1, hR2⟩ := X
  obtain ⟨hd, rfl⟩ := hd
  intro H locs ls hP hS hl
  subst ey
  exact lv_lstore hx hb hd hl.has (by have := hl.1; simp only [List.length_cons] at this; omega) rfl (fun ls2 h2 => k H locs ls2 hP hS (lvs_s2 hl.1 (fun j hj o ho => by obtain rfl : j = 8 := by omega
                       cases ho; exact hp) h2))
theorem g_iinc0 (X : Ctx M ad cc own d) {r : List (Option Value)} {n : Int} {x y v : Int32} (hd : Dc cc pc (.iinc 0 n) 3 pc2) (hv : Int32.ofInt n = v) (ey : y = x + v) (k : G M ad pc2 (some (.int y) :: r) st σ) : G M ad pc (some (.int x) :: r) st σ := by
  obtain ⟨p, l, e, R, s, m, args, below, meth, c, Q, nL, D, dA, sa⟩ := M
  obtain ⟨hx, hb, hown, hts, hK, hJ, hSt, hml, hlk, hR1, hR2⟩ := X
  obtain ⟨hd, rfl⟩ := hd
  intro H locs ls hP hS hl
  obtain ⟨q, hq⟩ := List.getElem?_of_mem (asc_mem.mpr (show (some (.int x) :: r)[0]? = some (some (.int x)) from rfl))
  exact lv_iinc (v := y) hx hb hd hl.has hq (by rw [ey, hv]) (by have := hl.1; simp only [List.length_cons] at this; omega) rfl (fun ls2 h2 => k H locs ls2 hP hS (lvs_s1 hl.1 (fun j hj => absurd hj (by omega)) h2))
theorem g_iinc1 (X : Ctx M ad cc own d) {x0 : Option Value} {r : List (Option Value)} {n : Int} {x y v : Int32} (hd : Dc cc pc (.iinc 1 n) 3 pc2) (hp : nl x0) (hv : Int32.ofInt n = v) (ey : y = x + v) (k : G M ad pc2 (x0 :: some (.int y) :: r) st σ) : G M ad pc (x0 :: some (.int x) :: r) st σ := by
  obtain ⟨p, l, e, R, s, m, args, below, meth, c, Q, nL, D, dA, sa⟩ := M
  obtain ⟨hx, hb, hown, hts, hK, hJ, hSt, hml, hlk, hR1, hR2⟩ := X
  obtain ⟨hd, rfl⟩ := hd
  intro H locs ls hP hS hl
  obtain ⟨q, hq⟩ := List.getElem?_of_mem (asc_mem.mpr (show (x0 :: some (.int x) :: r)[1]? = some (some (.int x)) from rfl))
  exact lv_iinc (v := y) hx hb hd hl.has hq (by rw [ey, hv]) (by have := hl.1; simp only [List.length_cons] at this; omega) rfl (fun ls2 h2 => k H locs ls2 hP hS (lvs_s1 hl.1 (fun j hj o ho => by obtain rfl : j = 0 := by omega
                       cases ho; exact hp) h2))
theorem g_iinc2 (X : Ctx M ad cc own d) {x0 x1 : Option Value} {r : List (Option Value)} {n : Int} {x y v : Int32} (hd : Dc cc pc (.iinc 2 n) 3 pc2) (hp : nl x1) (hv : Int32.ofInt n = v) (ey : y = x + v) (k : G M ad pc2 (x0 :: x1 :: some (.int y) :: r) st σ) : G M ad pc (x0 :: x1 :: some (.int x) :: r) st σ := by
  obtain ⟨p, l, e, R, s, m, args, below, meth, c, Q, nL, D, dA, sa⟩ := M
  obtain ⟨hx, hb, hown, hts, hK, hJ, hSt, hml, hlk, hR1, hR2⟩ := X
  obtain ⟨hd, rfl⟩ := hd
  intro H locs ls hP hS hl
  obtain ⟨q, hq⟩ := List.getElem?_of_mem (asc_mem.mpr (show (x0 :: x1 :: some (.int x) :: r)[2]? = some (some (.int x)) from rfl))
  exact lv_iinc (v := y) hx hb hd hl.has hq (by rw [ey, hv]) (by have := hl.1; simp only [List.length_cons] at this; omega) rfl (fun ls2 h2 => k H locs ls2 hP hS (lvs_s1 hl.1 (fun j hj o ho => by obtain rfl : j = 1 := by omega
                       cases ho; exact hp) h2))
theorem g_iinc3 (X : Ctx M ad cc own d) {x0 x1 x2 : Option Value} {r : List (Option Value)} {n : Int} {x y v : Int32} (hd : Dc cc pc (.iinc 3 n) 3 pc2) (hp : nl x2) (hv : Int32.ofInt n = v) (ey : y = x + v) (k : G M ad pc2 (x0 :: x1 :: x2 :: some (.int y) :: r) st σ) : G M ad pc (x0 :: x1 :: x2 :: some (.int x) :: r) st σ := by
  obtain ⟨p, l, e, R, s, m, args, below, meth, c, Q, nL, D, dA, sa⟩ := M
  obtain ⟨hx, hb, hown, hts, hK, hJ, hSt, hml, hlk, hR1, hR2⟩ := X
  obtain ⟨hd, rfl⟩ := hd
  intro H locs ls hP hS hl
  obtain ⟨q, hq⟩ := List.getElem?_of_mem (asc_mem.mpr (show (x0 :: x1 :: x2 :: some (.int x) :: r)[3]? = some (some (.int x)) from rfl))
  exact lv_iinc (v := y) hx hb hd hl.has hq (by rw [ey, hv]) (by have := hl.1; simp only [List.length_cons] at this; omega) rfl (fun ls2 h2 => k H locs ls2 hP hS (lvs_s1 hl.1 (fun j hj o ho => by obtain rfl : j = 2 := by omega
                       cases ho; exact hp) h2))
theorem g_iinc4 (X : Ctx M ad cc own d) {x0 x1 x2 x3 : Option Value} {r : List (Option Value)} {n : Int} {x y v : Int32} (hd : Dc cc pc (.iinc 4 n) 3 pc2) (hp : nl x3) (hv : Int32.ofInt n = v) (ey : y = x + v) (k : G M ad pc2 (x0 :: x1 :: x2 :: x3 :: some (.int y) :: r) st σ) : G M ad pc (x0 :: x1 :: x2 :: x3 :: some (.int x) :: r) st σ := by
  obtain ⟨p, l, e, R, s, m, args, below, meth, c, Q, nL, D, dA, sa⟩ := M
  obtain ⟨hx, hb, hown, hts, hK, hJ, hSt, hml, hlk, hR1, hR2⟩ := X
  obtain ⟨hd, rfl⟩ := hd
  intro H locs ls hP hS hl
  obtain ⟨q, hq⟩ := List.getElem?_of_mem (asc_mem.mpr (show (x0 :: x1 :: x2 :: x3 :: some (.int x) :: r)[4]? = some (some (.int x)) from rfl))
  exact lv_iinc (v := y) hx hb hd hl.has hq (by rw [ey, hv]) (by have := hl.1; simp only [List.length_cons] at this; omega) rfl (fun ls2 h2 => k H locs ls2 hP hS (lvs_s1 hl.1 (fun j hj o ho => by obtain rfl : j = 3 := by omega
                       cases ho; exact hp) h2))
theorem g_iinc5 (X : Ctx M ad cc own d) {x0 x1 x2 x3 x4 : Option Value} {r : List (Option Value)} {n : Int} {x y v : Int32} (hd : Dc cc pc (.iinc 5 n) 3 pc2) (hp : nl x4) (hv : Int32.ofInt n = v) (ey : y = x + v) (k : G M ad pc2 (x0 :: x1 :: x2 :: x3 :: x4 :: some (.int y) :: r) st σ) : G M ad pc (x0 :: x1 :: x2 :: x3 :: x4 :: some (.int x) :: r) st σ := by
  obtain ⟨p, l, e, R, s, m, args, below, meth, c, Q, nL, D, dA, sa⟩ := M
  obtain ⟨hx, hb, hown, hts, hK, hJ, hSt, hml, hlk, hR1, hR2⟩ := X
  obtain ⟨hd, rfl⟩ := hd
  intro H locs ls hP hS hl
  obtain ⟨q, hq⟩ := List.getElem?_of_mem (asc_mem.mpr (show (x0 :: x1 :: x2 :: x3 :: x4 :: some (.int x) :: r)[5]? = some (some (.int x)) from rfl))
  exact lv_iinc (v := y) hx hb hd hl.has hq (by rw [ey, hv]) (by have := hl.1; simp only [List.length_cons] at this; omega) rfl (fun ls2 h2 => k H locs ls2 hP hS (lvs_s1 hl.1 (fun j hj o ho => by obtain rfl : j = 4 := by omega
                       cases ho; exact hp) h2))
theorem g_iinc6 (X : Ctx M ad cc own d) {x0 x1 x2 x3 x4 x5 : Option Value} {r : List (Option Value)} {n : Int} {x y v : Int32} (hd : Dc cc pc (.iinc 6 n) 3 pc2) (hp : nl x5) (hv : Int32.ofInt n = v) (ey : y = x + v) (k : G M ad pc2 (x0 :: x1 :: x2 :: x3 :: x4 :: x5 :: some (.int y) :: r) st σ) : G M ad pc (x0 :: x1 :: x2 :: x3 :: x4 :: x5 :: some (.int x) :: r) st σ := by
  obtain ⟨p, l, e, R, s, m, args, below, meth, c, Q, nL, D, dA, sa⟩ := M
  obtain ⟨hx, hb, hown, hts, hK, hJ, hSt, hml, hlk, hR1, hR2⟩ := X
  obtain ⟨hd, rfl⟩ := hd
  intro H locs ls hP hS hl
  obtain ⟨q, hq⟩ := List.getElem?_of_mem (asc_mem.mpr (show (x0 :: x1 :: x2 :: x3 :: x4 :: x5 :: some (.int x) :: r)[6]? = some (some (.int x)) from rfl))
  exact lv_iinc (v := y) hx hb hd hl.has hq (by rw [ey, hv]) (by have := hl.1; simp only [List.length_cons] at this; omega) rfl (fun ls2 h2 => k H locs ls2 hP hS (lvs_s1 hl.1 (fun j hj o ho => by obtain rfl : j = 5 := by omega
                       cases ho; exact hp) h2))
theorem g_iinc7 (X : Ctx M ad cc own d) {x0 x1 x2 x3 x4 x5 x6 : Option Value} {r : List (Option Value)} {n : Int} {x y v : Int32} (hd : Dc cc pc (.iinc 7 n) 3 pc2) (hp : nl x6) (hv : Int32.ofInt n = v) (ey : y = x + v) (k : G M ad pc2 (x0 :: x1 :: x2 :: x3 :: x4 :: x5 :: x6 :: some (.int y) :: r) st σ) : G M ad pc (x0 :: x1 :: x2 :: x3 :: x4 :: x5 :: x6 :: some (.int x) :: r) st σ := by
  obtain ⟨p, l, e, R, s, m, args, below, meth, c, Q, nL, D, dA, sa⟩ := M
  obtain ⟨hx, hb, hown, hts, hK, hJ, hSt, hml, hlk, hR1, hR2⟩ := X
  obtain ⟨hd, rfl⟩ := hd
  intro H locs ls hP hS hl
  obtain ⟨q, hq⟩ := List.getElem?_of_mem (asc_mem.mpr (show (x0 :: x1 :: x2 :: x3 :: x4 :: x5 :: x6 :: some (.int x) :: r)[7]? = some (some (.int x)) from rfl))
  exact lv_iinc (v := y) hx hb hd hl.has hq (by rw [ey, hv]) (by have := hl.1; simp only [List.length_cons] at this; omega) rfl (fun ls2 h2 => k H locs ls2 hP hS (lvs_s1 hl.1 (fun j hj o ho => by obtain rfl : j = 6 := by omega
                       cases ho; exact hp) h2))
theorem g_iinc8 (X : Ctx M ad cc own d) {x0 x1 x2 x3 x4 x5 x6 x7 : Option Value} {r : List (Option Value)} {n : Int} {x y v : Int32} (hd : Dc cc pc (.iinc 8 n) 3 pc2) (hp : nl x7) (hv : Int32.ofInt n = v) (ey : y = x + v) (k : G M ad pc2 (x0 :: x1 :: x2 :: x3 :: x4 :: x5 :: x6 :: x7 :: some (.int y) :: r) st σ) : G M ad pc (x0 :: x1 :: x2 :: x3 :: x4 :: x5 :: x6 :: x7 :: some (.int x) :: r) st σ := by
  obtain ⟨p, l, e, R, s, m, args, below, meth, c, Q, nL, D, dA, sa⟩ := M
  obtain ⟨hx, hb, hown, hts, hK, hJ, hSt, hml, hlk, hR1, hR2⟩ := X
  obtain ⟨hd, rfl⟩ := hd
  intro H locs ls hP hS hl
  obtain ⟨q, hq⟩ := List.getElem?_of_mem (asc_mem.mpr (show (x0 :: x1 :: x2 :: x3 :: x4 :: x5 :: x6 :: x7 :: some (.int x) :: r)[8]? = some (some (.int x)) from rfl))
  exact lv_iinc (v := y) hx hb hd hl.has hq (by rw [ey, hv]) (by have := hl.1; simp only [List.length_cons] at this; omega) rfl (fun ls2 h2 => k H locs ls2 hP hS (lvs_s1 hl.1 (fun j hj o ho => by obtain rfl : j = 7 := by omega
                       cases ho; exact hp) h2))
theorem g_iinc9 (X : Ctx M ad cc own d) {x0 x1 x2 x3 x4 x5 x6 x7 x8 : Option Value} {r : List (Option Value)} {n : Int} {x y v : Int32} (hd : Dc cc pc (.iinc 9 n) 3 pc2) (hp : nl x8) (hv : Int32.ofInt n = v) (ey : y = x + v) (k : G M ad pc2 (x0 :: x1 :: x2 :: x3 :: x4 :: x5 :: x6 :: x7 :: x8 :: some (.int y) :: r) st σ) : G M ad pc (x0 :: x1 :: x2 :: x3 :: x4 :: x5 :: x6 :: x7 :: x8 :: some (.int x) :: r) st σ := by
  obtain ⟨p, l, e, R, s, m, args, below, meth, c, Q, nL, D, dA, sa⟩ := M
  obtain ⟨hx, hb, hown, hts, hK, hJ, hSt, hml, hlk, hR1, hR2⟩ := X
  obtain ⟨hd, rfl⟩ := hd
  intro H locs ls hP hS hl
  obtain ⟨q, hq⟩ := List.getElem?_of_mem (asc_mem.mpr (show (x0 :: x1 :: x2 :: x3 :: x4 :: x5 :: x6 :: x7 :: x8 :: some (.int x) :: r)[9]? = some (some (.int x)) from rfl))
  exact lv_iinc (v := y) hx hb hd hl.has hq (by rw [ey, hv]) (by have := hl.1; simp only [List.length_cons] at this; omega) rfl (fun ls2 h2 => k H locs ls2 hP hS (lvs_s1 hl.1 (fun j hj o ho => by obtain rfl : j = 8 := by omega
                       cases ho; exact hp) h2))
end RowsG
