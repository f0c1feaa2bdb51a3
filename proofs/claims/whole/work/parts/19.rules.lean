/-! A rule for each instruction -/
theorem am_jp_t {b : Bool} {pc t : Nat} {off : Int} {ls : am_L} {r : List Value} (ht : am_tg pc off = some t) (hb : b = true) : am_jp b pc off ls r = some (t, ls, r) := by
  unfold am_jp
  rw [ht, hb]
theorem am_jp_f {b : Bool} {pc t : Nat} {off : Int} {ls : am_L} {r : List Value} (ht : am_tg pc off = some t) (hb : b = false) : am_jp b pc off ls r = some (pc + 3, ls, r) := by
  unfold am_jp
  rw [ht, hb]
section AMS
variable {sc : Option (Nat × (Nat → Int32))} {d y : Nat} {P : am_O → Prop}
variable {pc len k n t : Nat} {ls ls' : am_L} {st : List Value} {w : am_W} {off : Int}
theorem am_s_iconst {v : Int} {x : Int32} (hv : Int32.ofInt v = x) (hd : decode (am_by y) pc = .ok (.iconst v, 1)) (kk : am_go sc d y (pc + 1, ls, .int x :: st, w, k, n) P) : am_go sc d y (pc, ls, st, w, k, n) P := am_go_pu hd rfl rfl (by subst hv; rfl) kk
theorem am_s_bipush {v : Int} {x : Int32} (hv : (Int8.ofInt v).toInt32 = x) (hd : decode (am_by y) pc = .ok (.bipush v, 2)) (kk : am_go sc d y (pc + 2, ls, .int x :: st, w, k, n) P) : am_go sc d y (pc, ls, st, w, k, n) P := am_go_pu hd rfl rfl (by subst hv; rfl) kk
theorem am_s_sipush {v : Int} {x : Int32} (hv : (Int16.ofInt v).toInt32 = x) (hd : decode (am_by y) pc = .ok (.sipush v, 3)) (kk : am_go sc d y (pc + 3, ls, .int x :: st, w, k, n) P) : am_go sc d y (pc, ls, st, w, k, n) P := am_go_pu hd rfl rfl (by subst hv; rfl) kk
theorem am_s_lconst {v : Fin 2} {x : Int64} (hv : Int64.ofNat (v : Nat) = x) (hd : decode (am_by y) pc = .ok (.lconst v, 1)) (kk : am_go sc d y (pc + 1, ls, .long x :: st, w, k, n) P) : am_go sc d y (pc, ls, st, w, k, n) P := am_go_pu hd rfl rfl (by subst hv; rfl) kk
theorem am_s_iload_n {j : Fin 4} {x : Int32} (hl : ls[j.val]? = some (some (.int x))) (hd : decode (am_by y) pc = .ok (.iload_n j, 1)) (kk : am_go sc d y (pc + 1, ls, .int x :: st, w, k, n) P) : am_go sc d y (pc, ls, st, w, k, n) P := am_go_pu hd rfl rfl (by show am_ck 1 1 (am_ldi (pc + 1) ls st j.val) = _; unfold am_ldi; rw [hl]; rfl) kk
theorem am_s_iload {j : Nat} {x : Int32} (hl : ls[j]? = some (some (.int x))) (hd : decode (am_by y) pc = .ok (.iload j, 2)) (kk : am_go sc d y (pc + 2, ls, .int x :: st, w, k, n) P) : am_go sc d y (pc, ls, st, w, k, n) P := am_go_pu hd rfl rfl (by show am_ck 2 2 (am_ldi (pc + 2) ls st j) = _; unfold am_ldi; rw [hl]; rfl) kk
theorem am_s_lload_n {j : Fin 4} {x : Int64} (hl : ls[j.val]? = some (some (.long x))) (hd : decode (am_by y) pc = .ok (.lload_n j, 1)) (kk : am_go sc d y (pc + 1, ls, .long x :: st, w, k, n) P) : am_go sc d y (pc, ls, st, w, k, n) P := am_go_pu hd rfl rfl (by show am_ck 1 1 (am_ldl (pc + 1) ls st j.val) = _; unfold am_ldl; rw [hl]; rfl) kk
theorem am_s_lload {j : Nat} {x : Int64} (hl : ls[j]? = some (some (.long x))) (hd : decode (am_by y) pc = .ok (.lload j, 2)) (kk : am_go sc d y (pc + 2, ls, .long x :: st, w, k, n) P) : am_go sc d y (pc, ls, st, w, k, n) P := am_go_pu hd rfl rfl (by show am_ck 2 2 (am_ldl (pc + 2) ls st j) = _; unfold am_ldl; rw [hl]; rfl) kk
theorem am_s_aload_n {j : Fin 4} {x : Nat} (hl : ls[j.val]? = some (some (.ref x))) (hd : decode (am_by y) pc = .ok (.aload_n j, 1)) (kk : am_go sc d y (pc + 1, ls, .ref x :: st, w, k, n) P) : am_go sc d y (pc, ls, st, w, k, n) P := am_go_pu hd rfl rfl (by show am_ck 1 1 (am_lda (pc + 1) ls st j.val) = _; unfold am_lda; rw [hl]; rfl) kk
theorem am_s_aload {j : Nat} {x : Nat} (hl : ls[j]? = some (some (.ref x))) (hd : decode (am_by y) pc = .ok (.aload j, 2)) (kk : am_go sc d y (pc + 2, ls, .ref x :: st, w, k, n) P) : am_go sc d y (pc, ls, st, w, k, n) P := am_go_pu hd rfl rfl (by show am_ck 2 2 (am_lda (pc + 2) ls st j) = _; unfold am_lda; rw [hl]; rfl) kk
theorem am_s_astore_n {j : Fin 4} {x : Nat} (hj : Nat.blt j.val ls.length = true) (hs : am_set1 ls j.val (.ref x) = ls') (hd : decode (am_by y) pc = .ok (.astore_n j, 1)) (kk : am_go sc d y (pc + 1, ls', st, w, k, n) P) : am_go sc d y (pc, ls, .ref x :: st, w, k, n) P := am_go_pu hd rfl rfl (by subst hs; show am_ck 1 1 (am_if _ _) = _; rw [hj]; rfl) kk
theorem am_s_astore {j : Nat} {x : Nat} (hj : Nat.blt j ls.length = true) (hs : am_set1 ls j (.ref x) = ls') (hd : decode (am_by y) pc = .ok (.astore j, 2)) (kk : am_go sc d y (pc + 2, ls', st, w, k, n) P) : am_go sc d y (pc, ls, .ref x :: st, w, k, n) P := am_go_pu hd rfl rfl (by subst hs; show am_ck 2 2 (am_if _ _) = _; rw [hj]; rfl) kk
theorem am_s_aload_nT {j : Fin 4} {x : Nat} (hl : ls[j.val]? = some (some (.retAddr x))) (hd : decode (am_by y) pc = .ok (.aload_n j, 1)) (kk : am_go sc d y (pc + 1, ls, .retAddr x :: st, w, k, n) P) : am_go sc d y (pc, ls, st, w, k, n) P := am_go_pu hd rfl rfl (by show am_ck 1 1 (am_lda (pc + 1) ls st j.val) = _; unfold am_lda; rw [hl]; rfl) kk
theorem am_s_aloadT {j : Nat} {x : Nat} (hl : ls[j]? = some (some (.retAddr x))) (hd : decode (am_by y) pc = .ok (.aload j, 2)) (kk : am_go sc d y (pc + 2, ls, .retAddr x :: st, w, k, n) P) : am_go sc d y (pc, ls, st, w, k, n) P := am_go_pu hd rfl rfl (by show am_ck 2 2 (am_lda (pc + 2) ls st j) = _; unfold am_lda; rw [hl]; rfl) kk
theorem am_s_astore_nT {j : Fin 4} {x : Nat} (hj : Nat.blt j.val ls.length = true) (hs : am_set1 ls j.val (.retAddr x) = ls') (hd : decode (am_by y) pc = .ok (.astore_n j, 1)) (kk : am_go sc d y (pc + 1, ls', st, w, k, n) P) : am_go sc d y (pc, ls, .retAddr x :: st, w, k, n) P := am_go_pu hd rfl rfl (by subst hs; show am_ck 1 1 (am_if _ _) = _; rw [hj]; rfl) kk
theorem am_s_astoreT {j : Nat} {x : Nat} (hj : Nat.blt j ls.length = true) (hs : am_set1 ls j (.retAddr x) = ls') (hd : decode (am_by y) pc = .ok (.astore j, 2)) (kk : am_go sc d y (pc + 2, ls', st, w, k, n) P) : am_go sc d y (pc, ls, .retAddr x :: st, w, k, n) P := am_go_pu hd rfl rfl (by subst hs; show am_ck 2 2 (am_if _ _) = _; rw [hj]; rfl) kk
theorem am_s_istore_n {j : Fin 4} {x : Int32} (hj : Nat.blt j.val ls.length = true) (hs : am_set1 ls j.val (.int x) = ls') (hd : decode (am_by y) pc = .ok (.istore_n j, 1)) (kk : am_go sc d y (pc + 1, ls', st, w, k, n) P) : am_go sc d y (pc, ls, .int x :: st, w, k, n) P := am_go_pu hd rfl rfl (by subst hs; show am_ck 1 1 (am_if _ _) = _; rw [hj]; rfl) kk
theorem am_s_istore {j : Nat} {x : Int32} (hj : Nat.blt j ls.length = true) (hs : am_set1 ls j (.int x) = ls') (hd : decode (am_by y) pc = .ok (.istore j, 2)) (kk : am_go sc d y (pc + 2, ls', st, w, k, n) P) : am_go sc d y (pc, ls, .int x :: st, w, k, n) P := am_go_pu hd rfl rfl (by subst hs; show am_ck 2 2 (am_if _ _) = _; rw [hj]; rfl) kk
theorem am_s_lstore_n {j : Fin 4} {x : Int64} (hj : Nat.blt (j.val + 1) ls.length = true) (hs : am_set2 ls j.val (.long x) = ls') (hd : decode (am_by y) pc = .ok (.lstore_n j, 1)) (kk : am_go sc d y (pc + 1, ls', st, w, k, n) P) : am_go sc d y (pc, ls, .long x :: st, w, k, n) P := am_go_pu hd rfl rfl (by subst hs; show am_ck 1 1 (am_if _ _) = _; rw [hj]; rfl) kk
theorem am_s_lstore {j : Nat} {x : Int64} (hj : Nat.blt (j + 1) ls.length = true) (hs : am_set2 ls j (.long x) = ls') (hd : decode (am_by y) pc = .ok (.lstore j, 2)) (kk : am_go sc d y (pc + 2, ls', st, w, k, n) P) : am_go sc d y (pc, ls, .long x :: st, w, k, n) P := am_go_pu hd rfl rfl (by subst hs; show am_ck 2 2 (am_if _ _) = _; rw [hj]; rfl) kk
theorem am_s_iinc {j : Nat} {v : Int} {x c : Int32} (hv : Int32.ofInt v = c) (hl : ls[j]? = some (some (.int x))) (hs : am_set1 ls j (.int (x + c)) = ls') (hd : decode (am_by y) pc = .ok (.iinc j v, 3)) (kk : am_go sc d y (pc + 3, ls', st, w, k, n) P) : am_go sc d y (pc, ls, st, w, k, n) P := am_go_pu hd rfl rfl (by subst hv; subst hs; show am_ck 3 3 (match ls[j]? with | some (some (.int x)) => _ | _ => none) = _; rw [hl]; rfl) kk
theorem am_s_iadd {a b : Int32} (hd : decode (am_by y) pc = .ok (.iadd, 1)) (kk : am_go sc d y (pc + 1, ls, .int (a + b) :: st, w, k, n) P) : am_go sc d y (pc, ls, .int b :: .int a :: st, w, k, n) P := am_go_pu hd rfl rfl (rfl) kk
theorem am_s_isub {a b : Int32} (hd : decode (am_by y) pc = .ok (.isub, 1)) (kk : am_go sc d y (pc + 1, ls, .int (a - b) :: st, w, k, n) P) : am_go sc d y (pc, ls, .int b :: .int a :: st, w, k, n) P := am_go_pu hd rfl rfl (rfl) kk
theorem am_s_imul {a b : Int32} (hd : decode (am_by y) pc = .ok (.imul, 1)) (kk : am_go sc d y (pc + 1, ls, .int (a * b) :: st, w, k, n) P) : am_go sc d y (pc, ls, .int b :: .int a :: st, w, k, n) P := am_go_pu hd rfl rfl (rfl) kk
theorem am_s_iand {a b : Int32} (hd : decode (am_by y) pc = .ok (.iand, 1)) (kk : am_go sc d y (pc + 1, ls, .int (a &&& b) :: st, w, k, n) P) : am_go sc d y (pc, ls, .int b :: .int a :: st, w, k, n) P := am_go_pu hd rfl rfl (rfl) kk
theorem am_s_ior {a b : Int32} (hd : decode (am_by y) pc = .ok (.ior, 1)) (kk : am_go sc d y (pc + 1, ls, .int (a ||| b) :: st, w, k, n) P) : am_go sc d y (pc, ls, .int b :: .int a :: st, w, k, n) P := am_go_pu hd rfl rfl (rfl) kk
theorem am_s_ixor {a b : Int32} (hd : decode (am_by y) pc = .ok (.ixor, 1)) (kk : am_go sc d y (pc + 1, ls, .int (a ^^^ b) :: st, w, k, n) P) : am_go sc d y (pc, ls, .int b :: .int a :: st, w, k, n) P := am_go_pu hd rfl rfl (rfl) kk
theorem am_s_ishl {a b : Int32} (hd : decode (am_by y) pc = .ok (.ishl, 1)) (kk : am_go sc d y (pc + 1, ls, .int (a <<< (b &&& 31)) :: st, w, k, n) P) : am_go sc d y (pc, ls, .int b :: .int a :: st, w, k, n) P := am_go_pu hd rfl rfl (rfl) kk
theorem am_s_ishr {a b : Int32} (hd : decode (am_by y) pc = .ok (.ishr, 1)) (kk : am_go sc d y (pc + 1, ls, .int (a >>> (b &&& 31)) :: st, w, k, n) P) : am_go sc d y (pc, ls, .int b :: .int a :: st, w, k, n) P := am_go_pu hd rfl rfl (rfl) kk
theorem am_s_iushr {a b : Int32} (hd : decode (am_by y) pc = .ok (.iushr, 1)) (kk : am_go sc d y (pc + 1, ls, .int ((a.toUInt32 >>> (b.toUInt32 &&& Int32.toUInt32 31)).toInt32) :: st, w, k, n) P) : am_go sc d y (pc, ls, .int b :: .int a :: st, w, k, n) P := am_go_pu hd rfl rfl (rfl) kk
theorem am_s_idiv {a b : Int32} (hb : ¬ b = 0) (hd : decode (am_by y) pc = .ok (.idiv, 1)) (kk : am_go sc d y (pc + 1, ls, .int (a / b) :: st, w, k, n) P) : am_go sc d y (pc, ls, .int b :: .int a :: st, w, k, n) P := am_go_pu hd rfl rfl (by show am_ck 1 1 (am_if (!decide (b = 0)) _) = _; rw [decide_eq_false hb]; rfl) kk
theorem am_s_irem {a b : Int32} (hb : ¬ b = 0) (hd : decode (am_by y) pc = .ok (.irem, 1)) (kk : am_go sc d y (pc + 1, ls, .int (a - a / b * b) :: st, w, k, n) P) : am_go sc d y (pc, ls, .int b :: .int a :: st, w, k, n) P := am_go_pu hd rfl rfl (by show am_ck 1 1 (am_if (!decide (b = 0)) _) = _; rw [decide_eq_false hb]; rfl) kk
theorem am_s_ladd {a b : Int64} (hd : decode (am_by y) pc = .ok (.ladd, 1)) (kk : am_go sc d y (pc + 1, ls, .long (a + b) :: st, w, k, n) P) : am_go sc d y (pc, ls, .long b :: .long a :: st, w, k, n) P := am_go_pu hd rfl rfl (rfl) kk
theorem am_s_lsub {a b : Int64} (hd : decode (am_by y) pc = .ok (.lsub, 1)) (kk : am_go sc d y (pc + 1, ls, .long (a - b) :: st, w, k, n) P) : am_go sc d y (pc, ls, .long b :: .long a :: st, w, k, n) P := am_go_pu hd rfl rfl (rfl) kk
theorem am_s_lmul {a b : Int64} (hd : decode (am_by y) pc = .ok (.lmul, 1)) (kk : am_go sc d y (pc + 1, ls, .long (a * b) :: st, w, k, n) P) : am_go sc d y (pc, ls, .long b :: .long a :: st, w, k, n) P := am_go_pu hd rfl rfl (rfl) kk
theorem am_s_land {a b : Int64} (hd : decode (am_by y) pc = .ok (.land, 1)) (kk : am_go sc d y (pc + 1, ls, .long (a &&& b) :: st, w, k, n) P) : am_go sc d y (pc, ls, .long b :: .long a :: st, w, k, n) P := am_go_pu hd rfl rfl (rfl) kk
theorem am_s_lor {a b : Int64} (hd : decode (am_by y) pc = .ok (.lor, 1)) (kk : am_go sc d y (pc + 1, ls, .long (a ||| b) :: st, w, k, n) P) : am_go sc d y (pc, ls, .long b :: .long a :: st, w, k, n) P := am_go_pu hd rfl rfl (rfl) kk
theorem am_s_lxor {a b : Int64} (hd : decode (am_by y) pc = .ok (.lxor, 1)) (kk : am_go sc d y (pc + 1, ls, .long (a ^^^ b) :: st, w, k, n) P) : am_go sc d y (pc, ls, .long b :: .long a :: st, w, k, n) P := am_go_pu hd rfl rfl (rfl) kk
theorem am_s_lshl {a : Int64} {b : Int32} (hd : decode (am_by y) pc = .ok (.lshl, 1)) (kk : am_go sc d y (pc + 1, ls, .long (a <<< (b.toInt64 &&& 63)) :: st, w, k, n) P) : am_go sc d y (pc, ls, .int b :: .long a :: st, w, k, n) P := am_go_pu hd rfl rfl (rfl) kk
theorem am_s_lushr {a : Int64} {b : Int32} (hd : decode (am_by y) pc = .ok (.lushr, 1)) (kk : am_go sc d y (pc + 1, ls, .long ((a.toUInt64 >>> (b.toInt64.toUInt64 &&& Int64.toUInt64 63)).toInt64) :: st, w, k, n) P) : am_go sc d y (pc, ls, .int b :: .long a :: st, w, k, n) P := am_go_pu hd rfl rfl (rfl) kk
theorem am_s_i2l {a : Int32} (hd : decode (am_by y) pc = .ok (.i2l, 1)) (kk : am_go sc d y (pc + 1, ls, .long a.toInt64 :: st, w, k, n) P) : am_go sc d y (pc, ls, .int a :: st, w, k, n) P := am_go_pu hd rfl rfl (rfl) kk
theorem am_s_l2i {a : Int64} (hd : decode (am_by y) pc = .ok (.l2i, 1)) (kk : am_go sc d y (pc + 1, ls, .int a.toInt32 :: st, w, k, n) P) : am_go sc d y (pc, ls, .long a :: st, w, k, n) P := am_go_pu hd rfl rfl (rfl) kk
theorem am_s_i2c {a : Int32} (hd : decode (am_by y) pc = .ok (.i2c, 1)) (kk : am_go sc d y (pc + 1, ls, .int (a.toUInt32 % 65536).toInt32 :: st, w, k, n) P) : am_go sc d y (pc, ls, .int a :: st, w, k, n) P := am_go_pu hd rfl rfl (rfl) kk
theorem am_s_lcmp {a b : Int64} (hd : decode (am_by y) pc = .ok (.lcmp, 1)) (kk : am_go sc d y (pc + 1, ls, .int (lg_cmp a b) :: st, w, k, n) P) : am_go sc d y (pc, ls, .long b :: .long a :: st, w, k, n) P := am_go_pu hd rfl rfl (rfl) kk
theorem am_s_goto (ht : am_tg pc off = some t) (hd : decode (am_by y) pc = .ok (.goto off, 3)) (kk : am_go sc d y (t, ls, st, w, k, n) P) : am_go sc d y (pc, ls, st, w, k, n) P := am_go_pu hd rfl rfl (by show am_ck 3 3 (am_gt (am_tg pc off) ls st) = _; rw [ht]; rfl) kk
theorem am_s_dup {v : Value} (hv : Nat.beq v.category 1 = true) (hd : decode (am_by y) pc = .ok (.dup, 1)) (kk : am_go sc d y (pc + 1, ls, v :: v :: st, w, k, n) P) : am_go sc d y (pc, ls, v :: st, w, k, n) P := am_go_pu hd rfl rfl (by show am_ck 1 1 (am_if _ _) = _; rw [hv]; rfl) kk
theorem am_s_dup2l {a : Int64} {u : Value} (hd : decode (am_by y) pc = .ok (.dup2, 1)) (kk : am_go sc d y (pc + 1, ls, .long a :: .long a :: u :: st, w, k, n) P) : am_go sc d y (pc, ls, .long a :: u :: st, w, k, n) P := am_go_pu hd rfl rfl (rfl) kk
theorem am_s_dup2 {u v : Value} (hv : Nat.beq v.category 2 = false) (hw : (Nat.beq u.category 1 && Nat.beq v.category 1) = true) (hd : decode (am_by y) pc = .ok (.dup2, 1)) (kk : am_go sc d y (pc + 1, ls, v :: u :: v :: u :: st, w, k, n) P) : am_go sc d y (pc, ls, v :: u :: st, w, k, n) P := am_go_pu hd rfl rfl (by show am_ck 1 1 (am_dup2 pc ls (v :: u :: st)) = _; unfold am_dup2; dsimp only; rw [hv, hw]; rfl) kk
theorem am_s_pop {v : Value} (hv : Nat.beq v.category 1 = true) (hd : decode (am_by y) pc = .ok (.pop, 1)) (kk : am_go sc d y (pc + 1, ls, st, w, k, n) P) : am_go sc d y (pc, ls, v :: st, w, k, n) P := am_go_pu hd rfl rfl (by show am_ck 1 1 (am_if _ _) = _; rw [hv]; rfl) kk
theorem am_s_ldc {j : Nat} {q : Int32 × Nat} {x : Int32} (hd : decode (am_by y) pc = .ok (.ldc j, 2)) (h0 : am_lk (am_sts (am_ow y)) j = none) (hq : am_lk (am_kis (am_ow y)) j = some q) (hx : q.1 = x) (kk : am_go sc d y (pc + 2, ls, .int x :: st, w, k, n) P) : am_go sc d y (pc, ls, st, w, k, n) P := by
  refine am_go_pu hd ?_ rfl ?_ kk
  · show am_ck 2 2 (match am_lk (am_sts (am_ow y)) j with | some q => _ | none => none) = _
    rw [h0]
    rfl
  · subst hx
    show am_ck 2 2 (match am_lk (am_kis (am_ow y)) j with | some q => _ | none => none) = _
    rw [hq]
    rfl
theorem am_s_ldcw {j : Nat} {q : Int32 × Nat} {x : Int32} (hd : decode (am_by y) pc = .ok (.ldc_w j, 3)) (h0 : am_lk (am_sts (am_ow y)) j = none) (hq : am_lk (am_kis (am_ow y)) j = some q) (hx : q.1 = x) (kk : am_go sc d y (pc + 3, ls, .int x :: st, w, k, n) P) : am_go sc d y (pc, ls, st, w, k, n) P := by
  refine am_go_pu hd ?_ rfl ?_ kk
  · show am_ck 3 3 (match am_lk (am_sts (am_ow y)) j with | some q => _ | none => none) = _
    rw [h0]
    rfl
  · subst hx
    show am_ck 3 3 (match am_lk (am_kis (am_ow y)) j with | some q => _ | none => none) = _
    rw [hq]
    rfl
theorem am_s_ldc2 {j : Nat} {q : Int64 × Nat} {x : Int64} (hd : decode (am_by y) pc = .ok (.ldc2_w j, 3)) (hq : am_lk (am_kls (am_ow y)) j = some q) (hx : q.1 = x) (kk : am_go sc d y (pc + 3, ls, .long x :: st, w, k, n) P) : am_go sc d y (pc, ls, st, w, k, n) P := by
  refine am_go_pu hd rfl rfl ?_ kk
  subst hx
  show am_ck 3 3 (match am_lk (am_kls (am_ow y)) j with | some q => _ | none => none) = _
  rw [hq]
  rfl
theorem am_s_ldcT {j : Nat} {q : Nat × Nat} {x : Nat} (hd : decode (am_by y) pc = .ok (.ldc j, 2)) (hq : am_lk (am_sts (am_ow y)) j = some q) (hx : q.1 + 2 = x) (kk : am_go sc d y (pc + 2, ls, .retAddr x :: st, w, k, n) P) : am_go sc d y (pc, ls, st, w, k, n) P := by
  refine am_go_xo hd ?_ kk
  subst hx
  show am_ck 2 2 (match am_lk (am_sts (am_ow y)) j with | some q => _ | none => none) = _
  rw [hq]
  rfl
theorem am_s_ldcwT {j : Nat} {q : Nat × Nat} {x : Nat} (hd : decode (am_by y) pc = .ok (.ldc_w j, 3)) (hq : am_lk (am_sts (am_ow y)) j = some q) (hx : q.1 + 2 = x) (kk : am_go sc d y (pc + 3, ls, .retAddr x :: st, w, k, n) P) : am_go sc d y (pc, ls, st, w, k, n) P := by
  refine am_go_xo hd ?_ kk
  subst hx
  show am_ck 3 3 (match am_lk (am_sts (am_ow y)) j with | some q => _ | none => none) = _
  rw [hq]
  rfl
theorem am_s_if_eq {x : Int32} (hd : decode (am_by y) pc = .ok (.ifCond .eq off, 3)) (ht : am_tg pc off = some t) (kt : x = 0 → am_go sc d y (t, ls, st, w, k, n) P) (kf : ¬ (x = 0) → am_go sc d y (pc + 3, ls, st, w, k, n) P) : am_go sc d y (pc, ls, .int x :: st, w, k, n) P := by
  by_cases h : x = 0
  · exact am_go_pu hd rfl rfl (am_jp_t ht (decide_eq_true h)) (kt h)
  · exact am_go_pu hd rfl rfl (am_jp_f ht (decide_eq_false h)) (kf h)
theorem am_s_if_ne {x : Int32} (hd : decode (am_by y) pc = .ok (.ifCond .ne off, 3)) (ht : am_tg pc off = some t) (kt : ¬ x = 0 → am_go sc d y (t, ls, st, w, k, n) P) (kf : ¬ (¬ x = 0) → am_go sc d y (pc + 3, ls, st, w, k, n) P) : am_go sc d y (pc, ls, .int x :: st, w, k, n) P := by
  by_cases h : ¬ x = 0
  · exact am_go_pu hd rfl rfl (am_jp_t ht (decide_eq_true h)) (kt h)
  · exact am_go_pu hd rfl rfl (am_jp_f ht (decide_eq_false h)) (kf h)
theorem am_s_if_lt {x : Int32} (hd : decode (am_by y) pc = .ok (.ifCond .lt off, 3)) (ht : am_tg pc off = some t) (kt : x < 0 → am_go sc d y (t, ls, st, w, k, n) P) (kf : ¬ (x < 0) → am_go sc d y (pc + 3, ls, st, w, k, n) P) : am_go sc d y (pc, ls, .int x :: st, w, k, n) P := by
  by_cases h : x < 0
  · exact am_go_pu hd rfl rfl (am_jp_t ht (decide_eq_true h)) (kt h)
  · exact am_go_pu hd rfl rfl (am_jp_f ht (decide_eq_false h)) (kf h)
theorem am_s_if_ge {x : Int32} (hd : decode (am_by y) pc = .ok (.ifCond .ge off, 3)) (ht : am_tg pc off = some t) (kt : 0 ≤ x → am_go sc d y (t, ls, st, w, k, n) P) (kf : ¬ (0 ≤ x) → am_go sc d y (pc + 3, ls, st, w, k, n) P) : am_go sc d y (pc, ls, .int x :: st, w, k, n) P := by
  by_cases h : 0 ≤ x
  · exact am_go_pu hd rfl rfl (am_jp_t ht (decide_eq_true h)) (kt h)
  · exact am_go_pu hd rfl rfl (am_jp_f ht (decide_eq_false h)) (kf h)
theorem am_s_if_gt {x : Int32} (hd : decode (am_by y) pc = .ok (.ifCond .gt off, 3)) (ht : am_tg pc off = some t) (kt : 0 < x → am_go sc d y (t, ls, st, w, k, n) P) (kf : ¬ (0 < x) → am_go sc d y (pc + 3, ls, st, w, k, n) P) : am_go sc d y (pc, ls, .int x :: st, w, k, n) P := by
  by_cases h : 0 < x
  · exact am_go_pu hd rfl rfl (am_jp_t ht (decide_eq_true h)) (kt h)
  · exact am_go_pu hd rfl rfl (am_jp_f ht (decide_eq_false h)) (kf h)
theorem am_s_if_le {x : Int32} (hd : decode (am_by y) pc = .ok (.ifCond .le off, 3)) (ht : am_tg pc off = some t) (kt : x ≤ 0 → am_go sc d y (t, ls, st, w, k, n) P) (kf : ¬ (x ≤ 0) → am_go sc d y (pc + 3, ls, st, w, k, n) P) : am_go sc d y (pc, ls, .int x :: st, w, k, n) P := by
  by_cases h : x ≤ 0
  · exact am_go_pu hd rfl rfl (am_jp_t ht (decide_eq_true h)) (kt h)
  · exact am_go_pu hd rfl rfl (am_jp_f ht (decide_eq_false h)) (kf h)
theorem am_s_ic_eq {x z : Int32} (hd : decode (am_by y) pc = .ok (.if_icmp .eq off, 3)) (ht : am_tg pc off = some t) (kt : x = z → am_go sc d y (t, ls, st, w, k, n) P) (kf : ¬ (x = z) → am_go sc d y (pc + 3, ls, st, w, k, n) P) : am_go sc d y (pc, ls, .int z :: .int x :: st, w, k, n) P := by
  by_cases h : x = z
  · exact am_go_pu hd rfl rfl (am_jp_t ht (decide_eq_true h)) (kt h)
  · exact am_go_pu hd rfl rfl (am_jp_f ht (decide_eq_false h)) (kf h)
theorem am_s_ic_ne {x z : Int32} (hd : decode (am_by y) pc = .ok (.if_icmp .ne off, 3)) (ht : am_tg pc off = some t) (kt : ¬ x = z → am_go sc d y (t, ls, st, w, k, n) P) (kf : ¬ (¬ x = z) → am_go sc d y (pc + 3, ls, st, w, k, n) P) : am_go sc d y (pc, ls, .int z :: .int x :: st, w, k, n) P := by
  by_cases h : ¬ x = z
  · exact am_go_pu hd rfl rfl (am_jp_t ht (decide_eq_true h)) (kt h)
  · exact am_go_pu hd rfl rfl (am_jp_f ht (decide_eq_false h)) (kf h)
theorem am_s_ic_lt {x z : Int32} (hd : decode (am_by y) pc = .ok (.if_icmp .lt off, 3)) (ht : am_tg pc off = some t) (kt : x < z → am_go sc d y (t, ls, st, w, k, n) P) (kf : ¬ (x < z) → am_go sc d y (pc + 3, ls, st, w, k, n) P) : am_go sc d y (pc, ls, .int z :: .int x :: st, w, k, n) P := by
  by_cases h : x < z
  · exact am_go_pu hd rfl rfl (am_jp_t ht (decide_eq_true h)) (kt h)
  · exact am_go_pu hd rfl rfl (am_jp_f ht (decide_eq_false h)) (kf h)
theorem am_s_ic_ge {x z : Int32} (hd : decode (am_by y) pc = .ok (.if_icmp .ge off, 3)) (ht : am_tg pc off = some t) (kt : z ≤ x → am_go sc d y (t, ls, st, w, k, n) P) (kf : ¬ (z ≤ x) → am_go sc d y (pc + 3, ls, st, w, k, n) P) : am_go sc d y (pc, ls, .int z :: .int x :: st, w, k, n) P := by
  by_cases h : z ≤ x
  · exact am_go_pu hd rfl rfl (am_jp_t ht (decide_eq_true h)) (kt h)
  · exact am_go_pu hd rfl rfl (am_jp_f ht (decide_eq_false h)) (kf h)
theorem am_s_ic_gt {x z : Int32} (hd : decode (am_by y) pc = .ok (.if_icmp .gt off, 3)) (ht : am_tg pc off = some t) (kt : z < x → am_go sc d y (t, ls, st, w, k, n) P) (kf : ¬ (z < x) → am_go sc d y (pc + 3, ls, st, w, k, n) P) : am_go sc d y (pc, ls, .int z :: .int x :: st, w, k, n) P := by
  by_cases h : z < x
  · exact am_go_pu hd rfl rfl (am_jp_t ht (decide_eq_true h)) (kt h)
  · exact am_go_pu hd rfl rfl (am_jp_f ht (decide_eq_false h)) (kf h)
theorem am_s_ic_le {x z : Int32} (hd : decode (am_by y) pc = .ok (.if_icmp .le off, 3)) (ht : am_tg pc off = some t) (kt : x ≤ z → am_go sc d y (t, ls, st, w, k, n) P) (kf : ¬ (x ≤ z) → am_go sc d y (pc + 3, ls, st, w, k, n) P) : am_go sc d y (pc, ls, .int z :: .int x :: st, w, k, n) P := by
  by_cases h : x ≤ z
  · exact am_go_pu hd rfl rfl (am_jp_t ht (decide_eq_true h)) (kt h)
  · exact am_go_pu hd rfl rfl (am_jp_f ht (decide_eq_false h)) (kf h)
theorem am_s_tsw {x : Int32} {dflt lo hi : Int} {offs : Array Int} (hd : decode (am_by y) pc = .ok (.tableswitch dflt lo hi offs, len)) {v : Int} {o : Int} (hx : x.toInt = v) (h1 : (decide (v < lo) || decide (hi < v)) = false) (ho : offs[(v - lo).toNat]? = some o) (ht : am_tg pc o = some t) (kk : am_go sc d y (t, ls, st, w, k, n) P) : am_go sc d y (pc, ls, .int x :: st, w, k, n) P := by
  refine am_go_pu hd rfl rfl ?_ kk
  show am_sw pc dflt lo hi offs ls (.int x :: st) = _
  unfold am_sw
  subst hx
  simp only [h1, ho]
  unfold am_gt
  rw [ht]
theorem am_s_tswd {x : Int32} {dflt lo hi : Int} {offs : Array Int} (hd : decode (am_by y) pc = .ok (.tableswitch dflt lo hi offs, len)) (h1 : (decide (x.toInt < lo) || decide (hi < x.toInt)) = true) (ht : am_tg pc dflt = some t) (kk : am_go sc d y (t, ls, st, w, k, n) P) : am_go sc d y (pc, ls, .int x :: st, w, k, n) P := by
  refine am_go_pu hd rfl rfl ?_ kk
  show am_sw pc dflt lo hi offs ls (.int x :: st) = _
  unfold am_sw
  simp only [h1]
  unfold am_gt
  rw [ht]
theorem am_s_lsw {x : Int32} {dflt o : Int} {ps : Array (Int × Int)} (hd : decode (am_by y) pc = .ok (.lookupswitch dflt ps, len)) (h1 : ((ps.toList.zip (ps.toList.drop 1)).all (fun (a, next) => a.1 < next.1)) = true) (ho : Op.lookupswitch.offset ps.toList dflt x.toInt = o) (ht : am_tg pc o = some t) (kk : am_go sc d y (t, ls, st, w, k, n) P) : am_go sc d y (pc, ls, .int x :: st, w, k, n) P := by
  refine am_go_pu hd rfl rfl ?_ kk
  show am_lw pc dflt ps ls (.int x :: st) = _
  unfold am_lw
  dsimp only
  rw [h1, ho]
  unfold am_gt am_if
  rw [ht]
/-! the heap -/
variable {Sh : List am_K} {I : am_I} {J : am_J} {Pf : am_R} {j a c f p : Nat}
theorem am_s_getI (hd : decode (am_by y) pc = .ok (.getfield j, 3)) (hj : am_lk (am_fds (am_ow y)) j = some (c, f, p)) (ha : Sh[a]? = some (.inl c)) (ht : am_cty c f = .int ∨ am_cty c f = .boolean) (kk : am_go sc d y (pc + 3, ls, .int (I a f) :: st, (Sh, I, J, Pf), k, n) P) : am_go sc d y (pc, ls, .ref a :: st, (Sh, I, J, Pf), k, n) P := by
  refine am_go_he hd rfl rfl ?_ kk
  show am_ck 3 3 (am_gf pc ls (.ref a :: st) (Sh, I, J, Pf) k n (am_lk (am_fds (am_ow y)) j)) = _
  rw [hj]
  unfold am_gf
  simp only [ha, Nat.beq_refl]
  rcases ht with ht | ht <;> (rw [ht]; rfl)
theorem am_s_getJ (hd : decode (am_by y) pc = .ok (.getfield j, 3)) (hj : am_lk (am_fds (am_ow y)) j = some (c, f, p)) (ha : Sh[a]? = some (.inl c)) (ht : am_cty c f = .long) (kk : am_go sc d y (pc + 3, ls, .long (J a f) :: st, (Sh, I, J, Pf), k, n) P) : am_go sc d y (pc, ls, .ref a :: st, (Sh, I, J, Pf), k, n) P := by
  refine am_go_he hd rfl rfl ?_ kk
  show am_ck 3 3 (am_gf pc ls (.ref a :: st) (Sh, I, J, Pf) k n (am_lk (am_fds (am_ow y)) j)) = _
  rw [hj]
  unfold am_gf
  simp only [ha, Nat.beq_refl]
  rw [ht]
  rfl
theorem am_blt0 : True := trivial
def am_isR (ty : FieldType) : Bool := match ty with
  | .object _ => true
  | .array _ => true
  | _ => false
theorem am_s_getR {r : Nat} (hd : decode (am_by y) pc = .ok (.getfield j, 3)) (hj : am_lk (am_fds (am_ow y)) j = some (c, f, p)) (ha : Sh[a]? = some (.inl c)) (ht : am_isR (am_cty c f) = true) (hr : Pf a f = some r) (kk : am_go sc d y (pc + 3, ls, .ref r :: st, (Sh, I, J, Pf), k, n) P) : am_go sc d y (pc, ls, .ref a :: st, (Sh, I, J, Pf), k, n) P := by
  refine am_go_he hd rfl rfl ?_ kk
  show am_ck 3 3 (am_gf pc ls (.ref a :: st) (Sh, I, J, Pf) k n (am_lk (am_fds (am_ow y)) j)) = _
  rw [hj]
  unfold am_gf
  simp only [ha, Nat.beq_refl]
  have e : am_rd (Sh, I, J, Pf) a f (am_cty c f) = .ref r := by
    unfold am_isR at ht
    split at ht
    · rename_i q hq; rw [hq]; show va_rf (Pf a f) = _; rw [hr]; rfl
    · rename_i q hq; rw [hq]; show va_rf (Pf a f) = _; rw [hr]; rfl
    · cases ht
  rw [e]
  rfl
theorem am_s_putI {x : Int32} (hd : decode (am_by y) pc = .ok (.putfield j, 3)) (hj : am_lk (am_fds (am_ow y)) j = some (c, f, p)) (ha : Sh[a]? = some (.inl c)) (hf : (!am_fin c f || (am_ini y && Nat.beq (am_ow y) c)) = true) (ht : am_cty c f = .int) (kk : am_go sc d y (pc + 3, ls, st, (Sh, am_u I a f x, J, Pf), k, n) P) : am_go sc d y (pc, ls, .int x :: .ref a :: st, (Sh, I, J, Pf), k, n) P := by
  refine am_go_he hd rfl rfl ?_ kk
  show am_ck 3 3 (am_pf (am_ow y) (am_ini y) pc ls (.int x :: .ref a :: st) (Sh, I, J, Pf) k n (am_lk (am_fds (am_ow y)) j)) = _
  rw [hj]
  unfold am_pf
  simp only [ha, Nat.beq_refl, hf, Bool.and_self]
  rw [ht]
  rfl
theorem am_s_putZ {x : Int32} (hd : decode (am_by y) pc = .ok (.putfield j, 3)) (hj : am_lk (am_fds (am_ow y)) j = some (c, f, p)) (ha : Sh[a]? = some (.inl c)) (hf : (!am_fin c f || (am_ini y && Nat.beq (am_ow y) c)) = true) (ht : am_cty c f = .boolean) (hx : x = 0 ∨ x = 1) (kk : am_go sc d y (pc + 3, ls, st, (Sh, am_u I a f x, J, Pf), k, n) P) : am_go sc d y (pc, ls, .int x :: .ref a :: st, (Sh, I, J, Pf), k, n) P := by
  refine am_go_he hd rfl rfl ?_ kk
  show am_ck 3 3 (am_pf (am_ow y) (am_ini y) pc ls (.int x :: .ref a :: st) (Sh, I, J, Pf) k n (am_lk (am_fds (am_ow y)) j)) = _
  rw [hj]
  unfold am_pf
  simp only [ha, Nat.beq_refl, hf, Bool.and_self]
  rw [ht]
  rcases hx with rfl | rfl <;> rfl
theorem am_s_putJ {x : Int64} (hd : decode (am_by y) pc = .ok (.putfield j, 3)) (hj : am_lk (am_fds (am_ow y)) j = some (c, f, p)) (ha : Sh[a]? = some (.inl c)) (hf : (!am_fin c f || (am_ini y && Nat.beq (am_ow y) c)) = true) (ht : am_cty c f = .long) (kk : am_go sc d y (pc + 3, ls, st, (Sh, I, am_u J a f x, Pf), k, n) P) : am_go sc d y (pc, ls, .long x :: .ref a :: st, (Sh, I, J, Pf), k, n) P := by
  refine am_go_he hd rfl rfl ?_ kk
  show am_ck 3 3 (am_pf (am_ow y) (am_ini y) pc ls (.long x :: .ref a :: st) (Sh, I, J, Pf) k n (am_lk (am_fds (am_ow y)) j)) = _
  rw [hj]
  unfold am_pf
  simp only [ha, Nat.beq_refl, hf, Bool.and_self]
  rw [ht]
  rfl
theorem am_s_putR {q : Nat} (hd : decode (am_by y) pc = .ok (.putfield j, 3)) (hj : am_lk (am_fds (am_ow y)) j = some (c, f, p)) (ha : Sh[a]? = some (.inl c)) (hf : (!am_fin c f || (am_ini y && Nat.beq (am_ow y) c)) = true) (ht : am_isR (am_cty c f) = true) (hq : Nat.blt q Sh.length = true) (kk : am_go sc d y (pc + 3, ls, st, (Sh, I, J, am_u Pf a f (some q)), k, n) P) : am_go sc d y (pc, ls, .ref q :: .ref a :: st, (Sh, I, J, Pf), k, n) P := by
  refine am_go_he hd rfl rfl ?_ kk
  show am_ck 3 3 (am_pf (am_ow y) (am_ini y) pc ls (.ref q :: .ref a :: st) (Sh, I, J, Pf) k n (am_lk (am_fds (am_ow y)) j)) = _
  rw [hj]
  unfold am_pf
  simp only [ha, Nat.beq_refl, hf, Bool.and_self]
  have e : am_wr (Sh, I, J, Pf) a f (am_cty c f) (.ref q) = some (Sh, I, J, am_u Pf a f (some q)) := by
    unfold am_isR at ht
    split at ht
    · rename_i z hz; rw [hz]; show am_if (Nat.blt q Sh.length) _ = _; rw [hq]; rfl
    · rename_i z hz; rw [hz]; show am_if (Nat.blt q Sh.length) _ = _; rw [hq]; rfl
    · cases ht
  rw [e]
  rfl
variable {i x : Int32} {L m : Nat}
theorem am_s_iaload (hd : decode (am_by y) pc = .ok (.iaload, 1)) (ha : Sh[a]? = some (.inr (0, L))) (hi : am_in i L = true) (hm : i.toNatClampNeg = m) (kk : am_go sc d y (pc + 1, ls, .int (I a m) :: st, (Sh, I, J, Pf), k, n) P) : am_go sc d y (pc, ls, .int i :: .ref a :: st, (Sh, I, J, Pf), k, n) P := by
  subst hm
  refine am_go_he hd rfl rfl ?_ kk
  show am_ck 1 1 (am_ia pc ls (.int i :: .ref a :: st) (Sh, I, J, Pf) k n) = _
  unfold am_ia
  simp only [ha, hi]
  rfl
theorem am_s_baload (hd : decode (am_by y) pc = .ok (.baload, 1)) (ha : Sh[a]? = some (.inr (1, L))) (hi : am_in i L = true) (hm : i.toNatClampNeg = m) (kk : am_go sc d y (pc + 1, ls, .int (I a m) :: st, (Sh, I, J, Pf), k, n) P) : am_go sc d y (pc, ls, .int i :: .ref a :: st, (Sh, I, J, Pf), k, n) P := by
  subst hm
  refine am_go_he hd rfl rfl ?_ kk
  show am_ck 1 1 (am_za pc ls (.int i :: .ref a :: st) (Sh, I, J, Pf) k n) = _
  unfold am_za
  simp only [ha, hi]
  rfl
theorem am_s_laload (hd : decode (am_by y) pc = .ok (.laload, 1)) (ha : Sh[a]? = some (.inr (2, L))) (hi : am_in i L = true) (hm : i.toNatClampNeg = m) (kk : am_go sc d y (pc + 1, ls, .long (J a m) :: st, (Sh, I, J, Pf), k, n) P) : am_go sc d y (pc, ls, .int i :: .ref a :: st, (Sh, I, J, Pf), k, n) P := by
  subst hm
  refine am_go_he hd rfl rfl ?_ kk
  show am_ck 1 1 (am_la pc ls (.int i :: .ref a :: st) (Sh, I, J, Pf) k n) = _
  unfold am_la
  simp only [ha, hi]
  rfl
theorem am_s_aaload {t r : Nat} {z : Nat × Nat} (hd : decode (am_by y) pc = .ok (.aaload, 1)) (ha : Sh[a]? = some (.inr (t, L))) (htp : am_tp t = some z) (hi : am_in i L = true) (hr : Pf a i.toNatClampNeg = some r) (kk : am_go sc d y (pc + 1, ls, .ref r :: st, (Sh, I, J, Pf), k, n) P) : am_go sc d y (pc, ls, .int i :: .ref a :: st, (Sh, I, J, Pf), k, n) P := by
  refine am_go_he hd rfl rfl ?_ kk
  show am_ck 1 1 (am_qa pc ls (.int i :: .ref a :: st) (Sh, I, J, Pf) k n) = _
  unfold am_qa
  simp only [ha, htp, hi, hr]
  rfl
theorem am_s_iastore (hd : decode (am_by y) pc = .ok (.iastore, 1)) (ha : Sh[a]? = some (.inr (0, L))) (hi : am_in i L = true) (hm : i.toNatClampNeg = m) (kk : am_go sc d y (pc + 1, ls, st, (Sh, am_u I a m x, J, Pf), k, n) P) : am_go sc d y (pc, ls, .int x :: .int i :: .ref a :: st, (Sh, I, J, Pf), k, n) P := by
  subst hm
  refine am_go_he hd rfl rfl ?_ kk
  show am_ck 1 1 (am_is1 pc ls (.int x :: .int i :: .ref a :: st) (Sh, I, J, Pf) k n) = _
  unfold am_is1
  simp only [ha, hi]
  rfl
theorem am_s_bastore (hd : decode (am_by y) pc = .ok (.bastore, 1)) (ha : Sh[a]? = some (.inr (1, L))) (hi : am_in i L = true) (hx : x = 0 ∨ x = 1) (hm : i.toNatClampNeg = m) (kk : am_go sc d y (pc + 1, ls, st, (Sh, am_u I a m x, J, Pf), k, n) P) : am_go sc d y (pc, ls, .int x :: .int i :: .ref a :: st, (Sh, I, J, Pf), k, n) P := by
  subst hm
  refine am_go_he hd rfl rfl ?_ kk
  show am_ck 1 1 (am_zs pc ls (.int x :: .int i :: .ref a :: st) (Sh, I, J, Pf) k n) = _
  unfold am_zs
  simp only [ha, hi]
  rcases hx with rfl | rfl <;> rfl
theorem am_s_lastore {x : Int64} (hd : decode (am_by y) pc = .ok (.lastore, 1)) (ha : Sh[a]? = some (.inr (2, L))) (hi : am_in i L = true) (hm : i.toNatClampNeg = m) (kk : am_go sc d y (pc + 1, ls, st, (Sh, I, am_u J a m x, Pf), k, n) P) : am_go sc d y (pc, ls, .long x :: .int i :: .ref a :: st, (Sh, I, J, Pf), k, n) P := by
  subst hm
  refine am_go_he hd rfl rfl ?_ kk
  show am_ck 1 1 (am_ls pc ls (.long x :: .int i :: .ref a :: st) (Sh, I, J, Pf) k n) = _
  unfold am_ls
  simp only [ha, hi]
  rfl
theorem am_s_aastore {t q c' : Nat} {z : Nat} (hd : decode (am_by y) pc = .ok (.aastore, 1)) (ha : Sh[a]? = some (.inr (t, L))) (htp : am_tp t = some (z, c')) (hq : Sh[q]? = some (.inl c')) (hi : am_in i L = true) (hm : i.toNatClampNeg = m) (kk : am_go sc d y (pc + 1, ls, st, (Sh, I, J, am_u Pf a m (some q)), k, n) P) : am_go sc d y (pc, ls, .ref q :: .int i :: .ref a :: st, (Sh, I, J, Pf), k, n) P := by
  subst hm
  refine am_go_he hd rfl rfl ?_ kk
  show am_ck 1 1 (am_qs pc ls (.ref q :: .int i :: .ref a :: st) (Sh, I, J, Pf) k n) = _
  unfold am_qs
  simp only [ha, htp, hq, hi, Nat.beq_refl]
  rfl
theorem am_s_len {t : Nat} (hd : decode (am_by y) pc = .ok (.arraylength, 1)) (ha : Sh[a]? = some (.inr (t, L))) (ht : Nat.blt t 3 = true) (hx : Int32.ofNat L = x) (kk : am_go sc d y (pc + 1, ls, .int x :: st, (Sh, I, J, Pf), k, n) P) : am_go sc d y (pc, ls, .ref a :: st, (Sh, I, J, Pf), k, n) P := by
  subst hx
  refine am_go_he hd rfl rfl ?_ kk
  show am_ck 1 1 (match am_al1 pc ls (.ref a :: st) (Sh, I, J, Pf) k n with | some r => some r | none => _) = _
  unfold am_al1
  simp only [ha, ht]
  rfl
theorem am_s_lenq {t : Nat} {z : Nat × Nat} (hd : decode (am_by y) pc = .ok (.arraylength, 1)) (ha : Sh[a]? = some (.inr (t, L))) (ht : Nat.blt t 3 = false) (htp : am_tp t = some z) (hx : Int32.ofNat L = x) (kk : am_go sc d y (pc + 1, ls, .int x :: st, (Sh, I, J, Pf), k, n) P) : am_go sc d y (pc, ls, .ref a :: st, (Sh, I, J, Pf), k, n) P := by
  subst hx
  refine am_go_he hd rfl rfl ?_ kk
  show am_ck 1 1 (match am_al1 pc ls (.ref a :: st) (Sh, I, J, Pf) k n with | some r => some r | none => am_al2 pc ls (.ref a :: st) (Sh, I, J, Pf) k n) = _
  unfold am_al1 am_al2
  simp only [ha, ht, htp]
  rfl
theorem am_s_new {q : Nat × Nat} {N : Nat} (hd : decode (am_by y) pc = .ok (.new j, 3)) (hj : am_lk (am_nws (am_ow y)) j = some q) (hN : Sh.length = N) (hv : am_vld N ls st = true) (kk : am_go sc d y (pc + 3, ls, .ref N :: st, (Sh ++ [.inl q.1], am_z I N 0, am_z J N 0, am_z Pf N none), k + 1, n + am_cn q.1) P) : am_go sc d y (pc, ls, st, (Sh, I, J, Pf), k, n) P := by
  subst hN
  refine am_go_he hd rfl rfl ?_ kk
  show am_ck 3 3 (am_nw pc ls st (Sh, I, J, Pf) k n (am_lk (am_nws (am_ow y)) j)) = _
  rw [hj]
  unfold am_nw
  dsimp only
  rw [hv]
  rfl
theorem am_s_newarray {at' : ArrayType} {t N : Nat} (hd : decode (am_by y) pc = .ok (.newarray at', 2)) (ht : am_at at' = some t) (hN : Sh.length = N) (hv : (am_vld N ls st && decide (¬ x < 0) && Nat.blt x.toNatClampNeg 1000000) = true) (hL : x.toNatClampNeg = L) (kk : am_go sc d y (pc + 2, ls, .ref N :: st, (Sh ++ [.inr (t, L)], am_z I N 0, am_z J N 0, am_z Pf N none), k + 1, n + L) P) : am_go sc d y (pc, ls, .int x :: st, (Sh, I, J, Pf), k, n) P := by
  subst hN
  subst hL
  refine am_go_he hd rfl rfl ?_ kk
  show am_ck 2 2 (am_na at' pc ls (.int x :: st) (Sh, I, J, Pf) k n) = _
  unfold am_na
  dsimp only
  rw [ht]
  dsimp only
  rw [hv]
  rfl
theorem am_s_anewarray {q z : Nat × Nat} {N : Nat} (hd : decode (am_by y) pc = .ok (.anewarray j, 3)) (hj : am_lk (am_nws (am_ow y)) j = some q) (htp : am_tp (3 + q.1) = some z) (hN : Sh.length = N) (hv : (am_vld N ls st && decide (¬ x < 0) && Nat.blt x.toNatClampNeg 1000000) = true) (hL : x.toNatClampNeg = L) (kk : am_go sc d y (pc + 3, ls, .ref N :: st, (Sh ++ [.inr (3 + q.1, L)], am_z I N 0, am_z J N 0, am_z Pf N none), k + 1, n + L) P) : am_go sc d y (pc, ls, .int x :: st, (Sh, I, J, Pf), k, n) P := by
  subst hN
  subst hL
  refine am_go_he hd rfl rfl ?_ kk
  show am_ck 3 3 (am_nq pc ls (.int x :: st) (Sh, I, J, Pf) k n (am_lk (am_nws (am_ow y)) j)) = _
  rw [hj]
  unfold am_nq
  dsimp only
  rw [htp]
  dsimp only
  rw [hv]
  rfl
/-! ends -/
theorem am_s_ireturn (hd : decode (am_by y) pc = .ok (.ireturn, 1)) (hr : am_rt y = some .int) (kk : P (.inl (some (.int x)), w, k, n)) : am_go sc d y (pc, ls, [.int x], w, k, n) P := by
  refine am_go_ed hd rfl rfl ?_ kk
  show am_ck 1 1 (am_if (am_rr y x) _) = _
  unfold am_rr
  rw [hr]
  rfl
theorem am_s_zreturn (hd : decode (am_by y) pc = .ok (.ireturn, 1)) (hr : am_rt y = some .boolean) (hx : x = 0 ∨ x = 1) (kk : P (.inl (some (.int x)), w, k, n)) : am_go sc d y (pc, ls, [.int x], w, k, n) P := by
  refine am_go_ed hd rfl rfl ?_ kk
  show am_ck 1 1 (am_if (am_rr y x) _) = _
  unfold am_rr
  rw [hr]
  rcases hx with rfl | rfl <;> rfl
theorem am_s_lreturn {x : Int64} (hd : decode (am_by y) pc = .ok (.lreturn, 1)) (hr : am_rl y = true) (kk : P (.inl (some (.long x)), w, k, n)) : am_go sc d y (pc, ls, [.long x], w, k, n) P := by
  refine am_go_ed hd rfl rfl ?_ kk
  show am_ck 1 1 (am_if (am_rl y) _) = _
  rw [hr]
  rfl
theorem am_s_areturn {x : Nat} (hd : decode (am_by y) pc = .ok (.areturn, 1)) (hr : am_ra y = true) (kk : P (.inl (some (.ref x)), w, k, n)) : am_go sc d y (pc, ls, [.ref x], w, k, n) P := by
  refine am_go_ed hd rfl rfl ?_ kk
  show am_ck 1 1 (am_if (am_ra y) _) = _
  rw [hr]
  rfl
theorem am_s_return (hd : decode (am_by y) pc = .ok (.return_, 1)) (hr : am_rv y = true) (kk : P (.inl none, w, k, n)) : am_go sc d y (pc, ls, [], w, k, n) P := by
  refine am_go_ed hd rfl rfl ?_ kk
  show am_ck 1 1 (am_if (am_rv y) _) = _
  rw [hr]
  rfl
end AMS
section AMX9
variable {sc : Option (Nat × (Nat → Int32))} {d y : Nat} {P : am_O → Prop}
variable {pc len k n t : Nat} {ls ls' : am_L} {st : List Value} {Sh : List am_K} {I : am_I} {J : am_J} {Pf : am_R} {j a c f p : Nat} {i : Int32} {L m : Nat}
theorem am_x_getI {x : Int32} (hd : decode (am_by y) pc = .ok (.getfield j, 3)) (hj : am_lk (am_fds (am_ow y)) j = some (c, f, p)) (ha : Sh[a]? = some (.inl c)) (ht : am_cty c f = .int ∨ am_cty c f = .boolean) (hx : I a f = x) (kk : am_go sc d y (pc + 3, ls, .int x :: st, (Sh, I, J, Pf), k, n) P) : am_go sc d y (pc, ls, .ref a :: st, (Sh, I, J, Pf), k, n) P := by
  subst hx; exact am_s_getI hd hj ha ht kk
theorem am_x_getJ {x : Int64} (hd : decode (am_by y) pc = .ok (.getfield j, 3)) (hj : am_lk (am_fds (am_ow y)) j = some (c, f, p)) (ha : Sh[a]? = some (.inl c)) (ht : am_cty c f = .long) (hx : J a f = x) (kk : am_go sc d y (pc + 3, ls, .long x :: st, (Sh, I, J, Pf), k, n) P) : am_go sc d y (pc, ls, .ref a :: st, (Sh, I, J, Pf), k, n) P := by
  subst hx; exact am_s_getJ hd hj ha ht kk
theorem am_x_iaload {x : Int32} (hd : decode (am_by y) pc = .ok (.iaload, 1)) (ha : Sh[a]? = some (.inr (0, L))) (hi : am_in i L = true) (hm : i.toNatClampNeg = m) (hx : I a m = x) (kk : am_go sc d y (pc + 1, ls, .int x :: st, (Sh, I, J, Pf), k, n) P) : am_go sc d y (pc, ls, .int i :: .ref a :: st, (Sh, I, J, Pf), k, n) P := by
  subst hx; exact am_s_iaload hd ha hi hm kk
theorem am_x_baload {x : Int32} (hd : decode (am_by y) pc = .ok (.baload, 1)) (ha : Sh[a]? = some (.inr (1, L))) (hi : am_in i L = true) (hm : i.toNatClampNeg = m) (hx : I a m = x) (kk : am_go sc d y (pc + 1, ls, .int x :: st, (Sh, I, J, Pf), k, n) P) : am_go sc d y (pc, ls, .int i :: .ref a :: st, (Sh, I, J, Pf), k, n) P := by
  subst hx; exact am_s_baload hd ha hi hm kk
theorem am_x_laload {x : Int64} (hd : decode (am_by y) pc = .ok (.laload, 1)) (ha : Sh[a]? = some (.inr (2, L))) (hi : am_in i L = true) (hm : i.toNatClampNeg = m) (hx : J a m = x) (kk : am_go sc d y (pc + 1, ls, .long x :: st, (Sh, I, J, Pf), k, n) P) : am_go sc d y (pc, ls, .int i :: .ref a :: st, (Sh, I, J, Pf), k, n) P := by
  subst hx; exact am_s_laload hd ha hi hm kk
end AMX9
