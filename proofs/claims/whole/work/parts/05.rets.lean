theorem ret_v {s s' : St} (h : some s = some s') : ((none, s') : Option Value × St) = (none, s) := by cases h; rfl
theorem ret_p {x r : Int32} {s : St} (h : some x = some r) : ((some (.int r), s) : Option Value × St) = (some (.int x), s) := by cases h; rfl
theorem ret_pl {x r : Int64} {s : St} (h : some x = some r) : ((some (.long r), s) : Option Value × St) = (some (.long x), s) := by cases h; rfl
theorem ret_i {x r : Int32} {s s' : St} (h : some (x, s) = some (r, s')) : ((some (.int r), s') : Option Value × St) = (some (.int x), s) := by cases h; rfl
theorem ret_il {x r : Int64} {s s' : St} (h : some (x, s) = some (r, s')) : ((some (.long r), s') : Option Value × St) = (some (.long x), s) := by cases h; rfl
