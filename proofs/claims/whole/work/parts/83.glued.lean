/-! every call of the law over one store -/
theorem G_feed {N : Nat} (hN : 300000 ≤ N) (a b c d e : Int32) {ζ : St} (h : Inv ζ ζ) : ∃ r ζ1 ζ2, f_X11_feed N a b c d e ζ = some (r, ζ1) ∧ f_X12_feed N a b c d e ζ1 = some (r, ζ2) ∧ Inv ζ2 ζ2 := glue (C_feed hN a b c d e) (fun _ _ _ h => fr_X11_feed (R := loR) (by decide) h) (fun _ _ _ h => fr_X12_feed (R := hiR) (by decide) h) h
theorem G_end (a : Int32) {ζ : St} (h : Inv ζ ζ) : ∃ r ζ1 ζ2, f_X11_end a ζ = some (r, ζ1) ∧ f_X12_end a ζ1 = some (r, ζ2) ∧ Inv ζ2 ζ2 := glue (C_end a) (fun _ _ _ h => fr_X11_end (R := loR) (by decide) h) (fun _ _ _ h => fr_X12_end (R := hiR) (by decide) h) h
theorem G_chart {N : Nat} (hN : 300000 ≤ N) {ζ : St} (h : Inv ζ ζ) : ∃ r ζ1 ζ2, f_X11_chart N ζ = some (r, ζ1) ∧ f_X12_chart N ζ1 = some (r, ζ2) ∧ Inv ζ2 ζ2 := glue (C_chart hN) (fun _ _ _ h => fr_X11_chart (R := loR) (by decide) h) (fun _ _ _ h => fr_X12_chart (R := hiR) (by decide) h) h
theorem G_fault {ζ : St} (h : Inv ζ ζ) : ∃ r ζ2, f_X11_fault ζ = some r ∧ f_X12_fault ζ = some (r, ζ2) ∧ Inv ζ2 ζ2 := by
  obtain ⟨r, ζ1, ζ2, e1, e2, i⟩ := glue (C_fault) (fun _ _ _ h => pu_fr h) (fun _ _ _ h => fr_X12_fault (R := hiR) (by decide) h) h
  obtain ⟨e1, rfl⟩ := pu_e e1
  exact ⟨r, ζ2, e1, e2, i⟩
theorem G_character {N : Nat} (hN : 300000 ≤ N) (a b : Int32) {ζ : St} (h : Inv ζ ζ) : ∃ r ζ2, f_X11_character a b ζ = some r ∧ f_X12_character N a b ζ = some (r, ζ2) ∧ Inv ζ2 ζ2 := by
  obtain ⟨r, ζ1, ζ2, e1, e2, i⟩ := glue (C_character hN a b) (fun _ _ _ h => pu_fr h) (fun _ _ _ h => fr_X12_character (R := hiR) (by decide) h) h
  obtain ⟨e1, rfl⟩ := pu_e e1
  exact ⟨r, ζ2, e1, e2, i⟩
theorem G_ship {N : Nat} (hN : 300000 ≤ N) (a b : Int32) {ζ : St} (h : Inv ζ ζ) : ∃ r ζ2, f_X11_ship N a b ζ = some r ∧ f_X12_ship N a b ζ = some (r, ζ2) ∧ Inv ζ2 ζ2 := by
  obtain ⟨r, ζ1, ζ2, e1, e2, i⟩ := glue (C_ship hN a b) (fun _ _ _ h => pu_fr h) (fun _ _ _ h => fr_X12_ship (R := hiR) (by decide) h) h
  obtain ⟨e1, rfl⟩ := pu_e e1
  exact ⟨r, ζ2, e1, e2, i⟩
theorem G_visible {N : Nat} (hN : 300000 ≤ N) (a b : Int32) {ζ : St} (h : Inv ζ ζ) : ∃ r ζ2, f_X11_visible N a b ζ = some r ∧ f_X12_visible N a b ζ = some (r, ζ2) ∧ Inv ζ2 ζ2 := by
  obtain ⟨r, ζ1, ζ2, e1, e2, i⟩ := glue (C_visible hN a b) (fun _ _ _ h => pu_fr h) (fun _ _ _ h => fr_X12_visible (R := hiR) (by decide) h) h
  obtain ⟨e1, rfl⟩ := pu_e e1
  exact ⟨r, ζ2, e1, e2, i⟩
theorem G_now {N : Nat} (hN : 300000 ≤ N) (a : Int32) {ζ : St} (h : Inv ζ ζ) : ∃ r ζ2, f_X11_now N a ζ = some r ∧ f_X12_now N a ζ = some (r, ζ2) ∧ Inv ζ2 ζ2 := by
  obtain ⟨r, ζ1, ζ2, e1, e2, i⟩ := glue (C_now hN a) (fun _ _ _ h => pu_fr h) (fun _ _ _ h => fr_X12_now (R := hiR) (by decide) h) h
  obtain ⟨e1, rfl⟩ := pu_e e1
  exact ⟨r, ζ2, e1, e2, i⟩
theorem G_douse {N : Nat} (hN : 300000 ≤ N) (a : Int32) {ζ : St} (h : Inv ζ ζ) : ∃ r ζ1 ζ2, f_X11_douse a ζ = some (r, ζ1) ∧ f_X12_douse N a ζ1 = some (r, ζ2) ∧ Inv ζ2 ζ2 := glue (C_douse hN a) (fun _ _ _ h => fr_X11_douse (R := loR) (by decide) h) (fun _ _ _ h => fr_X12_douse (R := hiR) (by decide) h) h
theorem G_kindle {N : Nat} (hN : 300000 ≤ N) (a : Int32) {ζ : St} (h : Inv ζ ζ) : ∃ r ζ1 ζ2, f_X11_kindle a ζ = some (r, ζ1) ∧ f_X12_kindle N a ζ1 = some (r, ζ2) ∧ Inv ζ2 ζ2 := glue (C_kindle hN a) (fun _ _ _ h => fr_X11_kindle (R := loR) (by decide) h) (fun _ _ _ h => fr_X12_kindle (R := hiR) (by decide) h) h
theorem G_fill {N : Nat} (hN : 300000 ≤ N) (a b : Int32) {ζ : St} (h : Inv ζ ζ) : ∃ r ζ1 ζ2, f_X11_fill a b ζ = some (r, ζ1) ∧ f_X12_fill N a b ζ1 = some (r, ζ2) ∧ Inv ζ2 ζ2 := glue (C_fill hN a b) (fun _ _ _ h => fr_X11_fill (R := loR) (by decide) h) (fun _ _ _ h => fr_X12_fill (R := hiR) (by decide) h) h
theorem G_shift {N : Nat} (hN : 300000 ≤ N) (a b : Int32) {ζ : St} (h : Inv ζ ζ) : ∃ r ζ1 ζ2, f_X11_shift a b ζ = some (r, ζ1) ∧ f_X12_shift N a b ζ1 = some (r, ζ2) ∧ Inv ζ2 ζ2 := glue (C_shift hN a b) (fun _ _ _ h => fr_X11_shift (R := loR) (by decide) h) (fun _ _ _ h => fr_X12_shift (R := hiR) (by decide) h) h
theorem G_steer {N : Nat} (hN : 300000 ≤ N) (a b : Int32) {ζ : St} (h : Inv ζ ζ) : ∃ r ζ1 ζ2, f_X11_steer a b ζ = some (r, ζ1) ∧ f_X12_steer N a b ζ1 = some (r, ζ2) ∧ Inv ζ2 ζ2 := glue (C_steer hN a b) (fun _ _ _ h => fr_X11_steer (R := loR) (by decide) h) (fun _ _ _ h => fr_X12_steer (R := hiR) (by decide) h) h
theorem G_haze {N : Nat} (hN : 300000 ≤ N) (a : Int32) {ζ : St} (h : Inv ζ ζ) : ∃ r ζ1 ζ2, f_X11_haze a ζ = some (r, ζ1) ∧ f_X12_haze N a ζ1 = some (r, ζ2) ∧ Inv ζ2 ζ2 := glue (C_haze hN a) (fun _ _ _ h => fr_X11_haze (R := loR) (by decide) h) (fun _ _ _ h => fr_X12_haze (R := hiR) (by decide) h) h
theorem G_seconds {N : Nat} (hN : 300000 ≤ N) (a : Int32) {ζ : St} (h : Inv ζ ζ) : ∃ r ζ1 ζ2, f_X11_seconds N a ζ = some (r, ζ1) ∧ f_X12_seconds N a ζ1 = some (r, ζ2) ∧ Inv ζ2 ζ2 := glue (C_seconds hN a) (fun _ _ _ h => fr_X11_seconds (R := loR) (by decide) h) (fun _ _ _ h => fr_X12_seconds (R := hiR) (by decide) h) h
theorem G_undo {N : Nat} (hN : 300000 ≤ N) {ζ : St} (h : Inv ζ ζ) : ∃ r ζ1 ζ2, f_X11_undo ζ = some (r, ζ1) ∧ f_X12_undo N ζ1 = some (r, ζ2) ∧ Inv ζ2 ζ2 := glue (C_undo hN) (fun _ _ _ h => fr_X11_undo (R := loR) (by decide) h) (fun _ _ _ h => fr_X12_undo (R := hiR) (by decide) h) h
theorem G_confused {N : Nat} (hN : 300000 ≤ N) {ζ : St} (h : Inv ζ ζ) : ∃ r ζ2, f_X11_confused N ζ = some r ∧ f_X12_confused N ζ = some (r, ζ2) ∧ Inv ζ2 ζ2 := by
  obtain ⟨r, ζ1, ζ2, e1, e2, i⟩ := glue (C_confused hN) (fun _ _ _ h => pu_fr h) (fun _ _ _ h => fr_X12_confused (R := hiR) (by decide) h) h
  obtain ⟨e1, rfl⟩ := pu_e e1
  exact ⟨r, ζ2, e1, e2, i⟩
theorem G_change {N : Nat} (hN : 300000 ≤ N) {ζ : St} (h : Inv ζ ζ) : ∃ r ζ1 ζ2, f_X11_change N ζ = some (r, ζ1) ∧ f_X12_change N ζ1 = some (r, ζ2) ∧ Inv ζ2 ζ2 := glue (C_change hN) (fun _ _ _ h => fr_X11_change (R := loR) (by decide) h) (fun _ _ _ h => fr_X12_change (R := hiR) (by decide) h) h
theorem G_changes {ζ : St} (h : Inv ζ ζ) : ∃ r ζ2, f_X11_changes ζ = some r ∧ f_X12_changes ζ = some (r, ζ2) ∧ Inv ζ2 ζ2 := by
  obtain ⟨r, ζ1, ζ2, e1, e2, i⟩ := glue (C_changes) (fun _ _ _ h => pu_fr h) (fun _ _ _ h => fr_X12_changes (R := hiR) (by decide) h) h
  obtain ⟨e1, rfl⟩ := pu_e e1
  exact ⟨r, ζ2, e1, e2, i⟩
theorem G_apart {N : Nat} (hN : 300000 ≤ N) (a b : Int32) {ζ : St} (h : Inv ζ ζ) : ∃ r ζ2, f_X11_apart N a b ζ = some r ∧ f_X12_apart N a b ζ = some (r, ζ2) ∧ Inv ζ2 ζ2 := by
  obtain ⟨r, ζ1, ζ2, e1, e2, i⟩ := glue (C_apart hN a b) (fun _ _ _ h => pu_fr h) (fun _ _ _ h => fr_X12_apart (R := hiR) (by decide) h) h
  obtain ⟨e1, rfl⟩ := pu_e e1
  exact ⟨r, ζ2, e1, e2, i⟩
theorem G_both {N : Nat} (hN : 300000 ≤ N) (a b : Int32) {ζ : St} (h : Inv ζ ζ) : ∃ r ζ2, f_X11_both N a b ζ = some r ∧ f_X12_both N a b ζ = some (r, ζ2) ∧ Inv ζ2 ζ2 := by
  obtain ⟨r, ζ1, ζ2, e1, e2, i⟩ := glue (C_both hN a b) (fun _ _ _ h => pu_fr h) (fun _ _ _ h => fr_X12_both (R := hiR) (by decide) h) h
  obtain ⟨e1, rfl⟩ := pu_e e1
  exact ⟨r, ζ2, e1, e2, i⟩
theorem G_fits {N : Nat} (hN : 300000 ≤ N) {ζ : St} (h : Inv ζ ζ) : ∃ r ζ1 ζ2, f_X11_fits N ζ = some (r, ζ1) ∧ f_X12_fits N ζ1 = some (r, ζ2) ∧ Inv ζ2 ζ2 := glue (C_fits hN) (fun _ _ _ h => fr_X11_fits (R := loR) (by decide) h) (fun _ _ _ h => fr_X12_fits (R := hiR) (by decide) h) h
theorem G_fitsAt (a : Int32) {ζ : St} (h : Inv ζ ζ) : ∃ r ζ2, f_X11_fitsAt a ζ = some r ∧ f_X12_fitsAt a ζ = some (r, ζ2) ∧ Inv ζ2 ζ2 := by
  obtain ⟨r, ζ1, ζ2, e1, e2, i⟩ := glue (C_fitsAt a) (fun _ _ _ h => pu_fr h) (fun _ _ _ h => fr_X12_fitsAt (R := hiR) (by decide) h) h
  obtain ⟨e1, rfl⟩ := pu_e e1
  exact ⟨r, ζ2, e1, e2, i⟩
theorem G_ask {ζ : St} (h : Inv ζ ζ) : ∃ r ζ2, f_X11_ask ζ = some r ∧ f_X12_ask ζ = some (r, ζ2) ∧ Inv ζ2 ζ2 := by
  obtain ⟨r, ζ1, ζ2, e1, e2, i⟩ := glue (C_ask) (fun _ _ _ h => pu_fr h) (fun _ _ _ h => fr_X12_ask (R := hiR) (by decide) h) h
  obtain ⟨e1, rfl⟩ := pu_e e1
  exact ⟨r, ζ2, e1, e2, i⟩
theorem G_spots {N : Nat} (hN : 300000 ≤ N) (a : Int32) {ζ : St} (h : Inv ζ ζ) : ∃ r ζ1 ζ2, f_X11_spots N a ζ = some (r, ζ1) ∧ f_X12_spots N a ζ1 = some (r, ζ2) ∧ Inv ζ2 ζ2 := glue (C_spots hN a) (fun _ _ _ h => fr_X11_spots (R := loR) (by decide) h) (fun _ _ _ h => fr_X12_spots (R := hiR) (by decide) h) h
theorem G_spotsAt {ζ : St} (h : Inv ζ ζ) : ∃ r ζ2, f_X11_spotsAt ζ = some r ∧ f_X12_spotsAt ζ = some (r, ζ2) ∧ Inv ζ2 ζ2 := by
  obtain ⟨r, ζ1, ζ2, e1, e2, i⟩ := glue (C_spotsAt) (fun _ _ _ h => pu_fr h) (fun _ _ _ h => fr_X12_spotsAt (R := hiR) (by decide) h) h
  obtain ⟨e1, rfl⟩ := pu_e e1
  exact ⟨r, ζ2, e1, e2, i⟩
theorem G_fix {N : Nat} (hN : 300000 ≤ N) {ζ : St} (h : Inv ζ ζ) : ∃ r ζ1 ζ2, f_X11_fix N ζ = some (r, ζ1) ∧ f_X12_fix N ζ1 = some (r, ζ2) ∧ Inv ζ2 ζ2 := glue (C_fix hN) (fun _ _ _ h => fr_X11_fix (R := loR) (by decide) h) (fun _ _ _ h => fr_X12_fix (R := hiR) (by decide) h) h
theorem G_fixAt {ζ : St} (h : Inv ζ ζ) : ∃ r ζ2, f_X11_fixAt ζ = some r ∧ f_X12_fixAt ζ = some (r, ζ2) ∧ Inv ζ2 ζ2 := by
  obtain ⟨r, ζ1, ζ2, e1, e2, i⟩ := glue (C_fixAt) (fun _ _ _ h => pu_fr h) (fun _ _ _ h => fr_X12_fixAt (R := hiR) (by decide) h) h
  obtain ⟨e1, rfl⟩ := pu_e e1
  exact ⟨r, ζ2, e1, e2, i⟩
theorem G_most {N : Nat} (hN : 300000 ≤ N) {ζ : St} (h : Inv ζ ζ) : ∃ r ζ2, f_X11_most N ζ = some r ∧ f_X12_most N ζ = some (r, ζ2) ∧ Inv ζ2 ζ2 := by
  obtain ⟨r, ζ1, ζ2, e1, e2, i⟩ := glue (C_most hN) (fun _ _ _ h => pu_fr h) (fun _ _ _ h => fr_X12_most (R := hiR) (by decide) h) h
  obtain ⟨e1, rfl⟩ := pu_e e1
  exact ⟨r, ζ2, e1, e2, i⟩
theorem G_burn {N : Nat} (hN : 300000 ≤ N) (a : Int32) {ζ : St} (h : Inv ζ ζ) : ∃ r ζ2, f_X11_burn N a ζ = some r ∧ f_X12_burn N a ζ = some (r, ζ2) ∧ Inv ζ2 ζ2 := by
  obtain ⟨r, ζ1, ζ2, e1, e2, i⟩ := glue (C_burn hN a) (fun _ _ _ h => pu_fr h) (fun _ _ _ h => fr_X12_burn (R := hiR) (by decide) h) h
  obtain ⟨e1, rfl⟩ := pu_e e1
  exact ⟨r, ζ2, e1, e2, i⟩
theorem G_waits {N : Nat} (hN : 300000 ≤ N) (a : Int32) {ζ : St} (h : Inv ζ ζ) : ∃ r ζ1 ζ2, f_X11_waits N a ζ = some (r, ζ1) ∧ f_X12_waits N a ζ1 = some (r, ζ2) ∧ Inv ζ2 ζ2 := glue (C_waits hN a) (fun _ _ _ h => fr_X11_waits (R := loR) (by decide) h) (fun _ _ _ h => fr_X12_waits (R := hiR) (by decide) h) h
theorem G_byteAt (a : Int32) {ζ : St} (h : Inv ζ ζ) : ∃ r ζ2, f_X11_byteAt a ζ = some r ∧ f_X12_byteAt a ζ = some (r, ζ2) ∧ Inv ζ2 ζ2 := by
  obtain ⟨r, ζ1, ζ2, e1, e2, i⟩ := glue (C_byteAt a) (fun _ _ _ h => pu_fr h) (fun _ _ _ h => fr_X12_byteAt (R := hiR) (by decide) h) h
  obtain ⟨e1, rfl⟩ := pu_e e1
  exact ⟨r, ζ2, e1, e2, i⟩
theorem G_drawn {N : Nat} (hN : 300000 ≤ N) (a b : Int32) {ζ : St} (h : Inv ζ ζ) : ∃ r ζ1 ζ2, f_X11_drawn N a b ζ = some (r, ζ1) ∧ f_X12_drawn N a b ζ1 = some (r, ζ2) ∧ Inv ζ2 ζ2 := glue (C_drawn hN a b) (fun _ _ _ h => fr_X11_drawn (R := loR) (by decide) h) (fun _ _ _ h => fr_X12_drawn (R := hiR) (by decide) h) h
theorem G_odds {N : Nat} (hN : 300000 ≤ N) (a b c : Int32) {ζ : St} (h : Inv ζ ζ) : ∃ r ζ1 ζ2, f_X11_odds N a b c ζ = some (r, ζ1) ∧ f_X12_odds N a b c ζ1 = some (r, ζ2) ∧ Inv ζ2 ζ2 := glue (C_odds hN a b c) (fun _ _ _ h => fr_X11_odds (R := loR) (by decide) h) (fun _ _ _ h => fr_X12_odds (R := hiR) (by decide) h) h
theorem G_book {N : Nat} (hN : 300000 ≤ N) (a : Int32) {ζ : St} (h : Inv ζ ζ) : ∃ r ζ1 ζ2, f_X11_book N a ζ = some (r, ζ1) ∧ f_X12_book N a ζ1 = some (r, ζ2) ∧ Inv ζ2 ζ2 := glue (C_book hN a) (fun _ _ _ h => fr_X11_book (R := loR) (by decide) h) (fun _ _ _ h => fr_X12_book (R := hiR) (by decide) h) h
theorem G_told (a : Int32) {ζ : St} (h : Inv ζ ζ) : ∃ r ζ2, f_X11_told a ζ = some r ∧ f_X12_told a ζ = some (r, ζ2) ∧ Inv ζ2 ζ2 := by
  obtain ⟨r, ζ1, ζ2, e1, e2, i⟩ := glue (C_told a) (fun _ _ _ h => pu_fr h) (fun _ _ _ h => fr_X12_told (R := hiR) (by decide) h) h
  obtain ⟨e1, rfl⟩ := pu_e e1
  exact ⟨r, ζ2, e1, e2, i⟩
theorem G_sentence {N : Nat} (hN : 300000 ≤ N) {ζ : St} (h : Inv ζ ζ) : ∃ r ζ1 ζ2, f_X11_sentence N ζ = some (r, ζ1) ∧ f_X12_sentence N ζ1 = some (r, ζ2) ∧ Inv ζ2 ζ2 := glue (C_sentence hN) (fun _ _ _ h => fr_X11_sentence (R := loR) (by decide) h) (fun _ _ _ h => fr_X12_sentence (R := hiR) (by decide) h) h
theorem G_said {N : Nat} (hN : 300000 ≤ N) (a : Int32) {ζ : St} (h : Inv ζ ζ) : ∃ r ζ1 ζ2, f_X11_said N a ζ = some (r, ζ1) ∧ f_X12_said N a ζ1 = some (r, ζ2) ∧ Inv ζ2 ζ2 := glue (C_said hN a) (fun _ _ _ h => fr_X11_said (R := loR) (by decide) h) (fun _ _ _ h => fr_X12_said (R := hiR) (by decide) h) h
theorem G_image {N : Nat} (hN : 300000 ≤ N) (a : Int32) {ζ : St} (h : Inv ζ ζ) : ∃ r ζ1 ζ2, f_X11_image N a ζ = some (r, ζ1) ∧ f_X12_image N a ζ1 = some (r, ζ2) ∧ Inv ζ2 ζ2 := glue (C_image hN a) (fun _ _ _ h => fr_X11_image (R := loR) (by decide) h) (fun _ _ _ h => fr_X12_image (R := hiR) (by decide) h) h
theorem G_restore {N : Nat} (hN : 300000 ≤ N) (a : Int32) {ζ : St} (h : Inv ζ ζ) : ∃ r ζ1 ζ2, f_X11_restore N a ζ = some (r, ζ1) ∧ f_X12_restore N a ζ1 = some (r, ζ2) ∧ Inv ζ2 ζ2 := glue (C_restore hN a) (fun _ _ _ h => fr_X11_restore (R := loR) (by decide) h) (fun _ _ _ h => fr_X12_restore (R := hiR) (by decide) h) h
theorem G_count (a : Int32) {ζ : St} (h : Inv ζ ζ) : ∃ r ζ2, f_X11_count a ζ = some r ∧ f_X12_count a ζ = some (r, ζ2) ∧ Inv ζ2 ζ2 := by
  obtain ⟨r, ζ1, ζ2, e1, e2, i⟩ := glue (C_count a) (fun _ _ _ h => pu_fr h) (fun _ _ _ h => fr_X12_count (R := hiR) (by decide) h) h
  obtain ⟨e1, rfl⟩ := pu_e e1
  exact ⟨r, ζ2, e1, e2, i⟩
theorem tg_fr {N : Nat} (hN : 300000 ≤ N) (a : Int32) {ζ ζ1 : St} {r : Int32} (h : Inv ζ ζ) (e : f_X11_tag N a ζ = some (r, ζ1)) : Fr loR ζ ζ1 := by
  obtain ⟨S, u, top, H, hs⟩ := id h
  obtain ⟨r', σ', τ', e1, e2, x⟩ := k_tag (N := N) (by omega) hs.1 hs.2.2.2.1.2 a
  cases e.symm.trans e1
  rcases x with ⟨rfl, rfl⟩ | ⟨L, hL, ⟨c1, c2, c3, c4, c5⟩, -⟩
  · exact Fr.rf
  · exact fun j hj => ⟨(c3 j (fun e => hj (by rw [e]; decide)) (fun e => hj (by rw [e]; decide))).symm, by rw [c5]⟩
theorem G_tag {N : Nat} (hN : 300000 ≤ N) (a : Int32) {ζ : St} (h : Inv ζ ζ) : ∃ r ζ1 ζ2, f_X11_tag N a ζ = some (r, ζ1) ∧ f_X12_tag N a ζ1 = some (r, ζ2) ∧ Inv ζ2 ζ2 := by
  obtain ⟨r, ζ1, τ1, e1, e2, -⟩ := C_tag hN a ζ ζ h
  have h2 : Inv ζ ζ1 := Inv_hi h (Fr_hi (tg_fr hN a h e1))
  obtain ⟨r', σ', ζ2, e3, e4, i⟩ := C_tag hN a ζ ζ1 h2
  cases e1.symm.trans e3
  exact ⟨r, ζ1, ζ2, e1, e4, Inv_lo i (Fr_lo (fr_X12_tag (R := hiR) (by decide) e4))⟩
/-! the two calls that may throw -/
theorem G_light {N : Nat} (hN : 300000 ≤ N) (x y : Int32) {ζ : St} (h : Inv ζ ζ) : ∃ v, f_X11_isLight x ζ = some v ∧ ((∃ r ζ2, f_X11_light x y ζ = some r ∧ f_X12_light N x y ζ = some (r, ζ2) ∧ ζ2.1 206 0 = nI 0 ∧ Inv ζ2 ζ2) ∨ ((v = 0 ∨ (v ≠ 0 ∧ y < 0) ∨ (v ≠ 0 ∧ ¬ y < 0 ∧ ¬ y ≤ nI 10)) ∧ ∃ r ζ2, f_X12_light N x y ζ = some (r, ζ2) ∧ ζ2.1 206 0 = nI 1 ∧ Inv ζ2 ζ2)) := by
  obtain ⟨S, u, top, H, hs⟩ := id h
  have hK := hs.1
  have c1 := hK.2.1.1
  have h5 := hK.2.2.2.2.1
  refine ⟨_, c_isLight c1 h5.1 x, ?_⟩
  have thr : ∀ v, Inv (sI ζ 206 0 v) (sI ζ 206 0 v) := fun v => Inv_lo (Inv_thr h v) (fun b hb => ⟨sI_ne (by omega), rfl⟩)
  by_cases hx : isN x (S 0) = true ∧ 0 ≤ y.toInt ∧ y.toInt ≤ 10
  · obtain ⟨r, e1, e2⟩ := k_light (N := N) (by omega) hK x y hx.1 hx.2
    exact Or.inl ⟨r, _, e1, e2, by rw [sI1, if_pos rfl, if_pos rfl], thr _⟩
  · refine Or.inr ⟨?_, _, _, k_lightT hK x y hx, by rw [sI1, if_pos rfl, if_pos rfl], thr _⟩
    rw [bI_0, ne_eq, bI_0]
    rw [Int32.lt_iff_toInt_lt, Int32.le_iff_toInt_le]
    have t : (0 : Int32).toInt = 0 := rfl
    have t2 : (nI 10).toInt = 10 := rfl
    rw [t, t2]
    cases e : isN x (S 0)
    · exact Or.inl rfl
    · refine Or.inr ?_
      by_cases z : y.toInt < 0
      · exact Or.inl ⟨by decide, z⟩
      · exact Or.inr ⟨by decide, z, fun q => hx ⟨e, by omega, q⟩⟩
theorem G_mean {N : Nat} (hN : 300000 ≤ N) (x : Int32) {ζ : St} (h : Inv ζ ζ) : (∃ r ζ2, f_X11_mean N x ζ = some r ∧ f_X12_mean N x ζ = some (r, ζ2) ∧ ζ2.1 206 0 = nI 0 ∧ Inv ζ2 ζ2) ∨ ((ζ.1 3 2 = 0 ∨ (ζ.1 3 2 ≠ 0 ∧ x < 0) ∨ (ζ.1 3 2 ≠ 0 ∧ ¬ x < 0 ∧ ¬ x ≤ nI 1)) ∧ ∃ r ζ2, f_X12_mean N x ζ = some (r, ζ2) ∧ ζ2.1 206 0 = nI 1 ∧ Inv ζ2 ζ2) := by
  obtain ⟨S, u, top, H, hs⟩ := id h
  have hK := hs.1
  have c1 := hK.2.1.1
  have h5 := hK.2.2.2.2.1
  have thr : ∀ v, Inv (sI ζ 206 0 v) (sI ζ 206 0 v) := fun v => Inv_lo (Inv_thr h v) (fun b hb => ⟨sI_ne (by omega), rfl⟩)
  by_cases hx : S 0 ≠ 0 ∧ 0 ≤ x.toInt ∧ x.toInt ≤ 1
  · obtain ⟨r, e1, e2⟩ := k_mean (N := N) (by omega) hK x hx.1 hx.2
    exact Or.inl ⟨r, _, e1, e2, by rw [sI1, if_pos rfl, if_pos rfl], thr _⟩
  · refine Or.inr ⟨?_, _, _, k_meanT hK x hx, by rw [sI1, if_pos rfl, if_pos rfl], thr _⟩
    rw [h5.1, ne_eq, nI_eq0 (by omega), Int32.lt_iff_toInt_lt, Int32.le_iff_toInt_le]
    have t : (0 : Int32).toInt = 0 := rfl
    have t2 : (nI 1).toInt = 1 := rfl
    rw [t, t2]
    by_cases e : S 0 = 0
    · exact Or.inl e
    · refine Or.inr ?_
      by_cases z : x.toInt < 0
      · exact Or.inl ⟨e, z⟩
      · exact Or.inr ⟨e, z, fun q => hx ⟨e, by omega, q⟩⟩
