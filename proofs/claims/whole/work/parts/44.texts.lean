/-! Rules for texts and the script -/
section AMX10
variable {sc : Option (Nat × (Nat → Int32))} {d y : Nat} {P : am_O → Prop}
variable {pc k n x : Nat} {ls : am_L} {st : List Value} {w : am_W}
theorem am_s_sval (hd : decode (am_by y) pc = .ok (.getfield 9, 3)) (ho : Nat.beq (am_ow y) 18 = true) (hx : am_strq x = true) (kk : am_go sc d y (pc + 3, ls, .retAddr (x + 100) :: st, w, k, n) P) : am_go sc d y (pc, ls, .retAddr x :: st, w, k, n) P := by
  refine am_go_xo hd ?_ kk
  show am_ck 3 3 (am_if (am_strq x && Nat.beq (am_ow y) 18) (some (pc + 3, ls, .retAddr (x + 100) :: st))) = _
  rw [ho, hx]
  rfl
theorem am_s_scod (hd : decode (am_by y) pc = .ok (.getfield 15, 3)) (ho : Nat.beq (am_ow y) 18 = true) (hx : am_strq x = true) (kk : am_go sc d y (pc + 3, ls, .int 0 :: st, w, k, n) P) : am_go sc d y (pc, ls, .retAddr x :: st, w, k, n) P := by
  refine am_go_xo hd ?_ kk
  show am_ck 3 3 (am_if (am_strq x && Nat.beq (am_ow y) 18) (some (pc + 3, ls, .int 0 :: st))) = _
  rw [ho, hx]
  rfl
theorem am_s_scst (hd : decode (am_by y) pc = .ok (.getstatic 38, 3)) (ho : Nat.beq (am_ow y) 18 = true) (kk : am_go sc d y (pc + 3, ls, .int 1 :: st, w, k, n) P) : am_go sc d y (pc, ls, st, w, k, n) P := by
  refine am_go_xo hd ?_ kk
  show am_ck 3 3 (am_if (Nat.beq (am_ow y) 18) (some (pc + 3, ls, .int 1 :: st))) = _
  rw [ho]
  rfl
theorem am_s_sfmt (hd : decode (am_by y) pc = .ok (.getstatic 1053, 3)) (ho : Nat.beq (am_ow y) 18 = true) (kk : am_go sc d y (pc + 3, ls, .retAddr 200 :: st, w, k, n) P) : am_go sc d y (pc, ls, st, w, k, n) P := by
  refine am_go_xo hd ?_ kk
  show am_ck 3 3 (am_if (Nat.beq (am_ow y) 18) (some (pc + 3, ls, .retAddr 200 :: st))) = _
  rw [ho]
  rfl
theorem am_s_slen (hd : decode (am_by y) pc = .ok (.arraylength, 1)) (hx : am_bytq (x + 1) = true) (kk : am_go sc d y (pc + 1, ls, .int (Int32.ofNat (am_sb (x - 101)).length) :: st, w, k, n) P) : am_go sc d y (pc, ls, .retAddr (x + 1) :: st, w, k, n) P := by
  refine am_go_xo hd ?_ kk
  show am_ck 1 1 (am_if (am_bytq (x + 1)) (some (pc + 1, ls, .int (Int32.ofNat (am_sb (x - 101)).length) :: st))) = _
  rw [hx]
  rfl
theorem am_s_sbl {i : Int32} (hd : decode (am_by y) pc = .ok (.baload, 1)) (hx : am_bytq x = true) (hi : am_in i (am_sb (x - 102)).length = true) (kk : am_go sc d y (pc + 1, ls, .int ((am_sb (x - 102)).getD i.toNatClampNeg 0) :: st, w, k, n) P) : am_go sc d y (pc, ls, .int i :: .retAddr x :: st, w, k, n) P := by
  refine am_go_xo hd ?_ kk
  show am_ck 1 1 (am_if (am_bytq x && am_in i (am_sb (x - 102)).length) (some (pc + 1, ls, .int ((am_sb (x - 102)).getD i.toNatClampNeg 0) :: st))) = _
  rw [hx, hi]
  rfl
theorem am_s_sclen {L : Nat} {xs : Nat → Int32} (hd : decode (am_by y) pc = .ok (.arraylength, 1)) (kk : am_go (some (L, xs)) d y (pc + 1, ls, .int (Int32.ofNat L) :: st, w, k, n) P) : am_go (some (L, xs)) d y (pc, ls, .retAddr 0 :: st, w, k, n) P := am_go_xo hd rfl kk
theorem am_s_scld {L : Nat} {xs : Nat → Int32} {i : Int32} (hd : decode (am_by y) pc = .ok (.iaload, 1)) (hi : am_in i L = true) (kk : am_go (some (L, xs)) d y (pc + 1, ls, .int (xs i.toNatClampNeg) :: st, w, k, n) P) : am_go (some (L, xs)) d y (pc, ls, .int i :: .retAddr 0 :: st, w, k, n) P := by
  refine am_go_xo hd ?_ kk
  show am_ck 1 1 (am_if (am_in i L) (some (pc + 1, ls, .int (xs i.toNatClampNeg) :: st))) = _
  rw [hi]
  rfl
theorem am_s_nreturn {v : Int32} (hd : decode (am_by y) pc = .ok (.ireturn, 1)) (hr : am_rr y v = true) (kk : P (.inl (some (.int v)), w, k, n)) : am_go sc d y (pc, ls, [.int v], w, k, n) P := by
  refine am_go_ed hd rfl rfl ?_ kk
  show am_ck 1 1 (am_if (am_rr y v) _) = _
  rw [hr]
  rfl
end AMX10
