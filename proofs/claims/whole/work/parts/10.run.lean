/-! The abstract machine's steps, runs and calls -/
def am_cls (i : Instr) : Nat := match i with
  | .getfield _ => 1
  | .putfield _ => 1
  | .iaload => 1
  | .baload => 1
  | .laload => 1
  | .aaload => 1
  | .iastore => 1
  | .bastore => 1
  | .lastore => 1
  | .aastore => 1
  | .arraylength => 1
  | .new _ => 1
  | .newarray _ => 1
  | .anewarray _ => 1
  | .invokevirtual _ => 2
  | .invokestatic _ => 2
  | .invokespecial _ => 2
  | .ireturn => 3
  | .lreturn => 3
  | .areturn => 3
  | .return_ => 3
  | _ => 0
abbrev am_T : Type := Option (am_S ⊕ am_O)
abbrev am_C : Type := Nat → List Value → am_W → Option am_O
def am_rk (ty : FieldType) (x : Int32) : Bool := match ty with
  | .int => true
  | .boolean => decide (x = 0) || decide (x = 1)
  | ty => decide (narrow ty (.int x) = .int x)
def am_rr (y : Nat) (x : Int32) : Bool := match am_rt y with
  | some ty => am_rk ty x
  | none => false
def am_ra (y : Nat) : Bool := match am_rt y with
  | some (.object _) => true
  | some (.array _) => true
  | _ => false
def am_rl (y : Nat) : Bool := match am_rt y with
  | some .long => true
  | _ => false
def am_rv (y : Nat) : Bool := match am_rt y with
  | none => true
  | _ => false
/-- a method's end -/
def am_ed (y : Nat) (i : Instr) (len : Nat) (st : List Value) (w : am_W) (k n : Nat) : Option am_O := match i with
  | .ireturn => am_ck len 1 (match st with
    | [.int x] => am_if (am_rr y x) (some (.inl (some (.int x)), w, k, n))
    | _ => none)
  | .lreturn => am_ck len 1 (match st with
    | [.long x] => am_if (am_rl y) (some (.inl (some (.long x)), w, k, n))
    | _ => none)
  | .areturn => am_ck len 1 (match st with
    | [.ref x] => am_if (am_ra y) (some (.inl (some (.ref x)), w, k, n))
    | _ => none)
  | .return_ => am_ck len 1 (match st with
    | [] => am_if (am_rv y) (some (.inl none, w, k, n))
    | _ => none)
  | _ => none
def am_sum (r : List Value) : Nat := (r.map fun v => v.category).sum
/-- behind a call: thr says whether a throw may go through -/
def am_rs (pc : Nat) (ls : am_L) (r : List Value) (w : am_W) (k n : Nat) (thr : Bool) (res : Option am_O) : am_T := match res with
  | some (.inl v, w', k', n') => am_if (Nat.beq w'.1.length w.1.length || am_vld w.1.length ls r) (some (.inl (pc + 3, ls, v.toList ++ r, w', k + k', n + n')))
  | some (.inr E, w', k', n') => am_if thr (some (.inr (.inr E, w', k + k', n + n')))
  | none => none
def am_rm (na : Nat) (st r : List Value) : Bool := Nat.ble na st.length && Nat.ble (am_sum r) 8
/-- the references beside the world: 0 the script, 1 what was caught, 2 and on the text constants, 102 and on their bytes, 200 a static of the JDK's -/
def am_strq (q : Nat) : Bool := Nat.ble 2 q && Nat.blt q 23
def am_bytq (q : Nat) : Bool := Nat.ble 102 q && Nat.blt q 123
def am_vc (call : am_C) (pc : Nat) (ls : am_L) (st : List Value) (w : am_W) (k n y' na : Nat) (thr : Bool) : am_T := match st.drop na with
  | .ref q :: r => match w.1[q]? with
    | some (.inl c) => am_if (Nat.beq c (am_ow y') && Nat.blt c 13 && am_rm na st r) (am_rs pc ls r w k n thr (call y' (.ref q :: (st.take na).reverse) w))
    | _ => none
  | .retAddr q :: r => am_if (am_strq q && Nat.beq (am_ow y') 18 && am_rm na st r) (am_rs pc ls r w k n false (call y' (.retAddr q :: (st.take na).reverse) w))
  | _ => none
def am_sc (call : am_C) (pc : Nat) (ls : am_L) (st : List Value) (w : am_W) (k n y' na : Nat) (thr : Bool) : am_T :=
  am_if (am_rm na st (st.drop na)) (am_rs pc ls (st.drop na) w k n thr (call y' (st.take na).reverse w))
def am_ic (call : am_C) (pc : Nat) (ls : am_L) (st : List Value) (w : am_W) (k n y' na : Nat) : am_T := match st.drop na with
  | .ref q :: r => am_if (am_rm na st r && am_rv y') (am_rs pc ls r w k n false (call y' (.ref q :: (st.take na).reverse) w))
  | _ => none
def am_cp (f : am_I) (o : Nat) (g : Nat → Int32) : am_I := fun o' k => if o' = o then g k else f o' k
def am_ac (pc : Nat) (ls : am_L) (st : List Value) (w : am_W) (k n : Nat) : am_T := match st with
  | .int L :: .int dp :: .ref a1 :: .int sp :: .ref a0 :: r => match w.1[a0]? with
    | some (.inr (0, L0)) => match w.1[a1]? with
      | some (.inr (0, L1)) => am_if (decide (¬ sp < 0) && decide (¬ dp < 0) && decide (¬ L < 0) && decide (sp.toNatClampNeg + L.toNatClampNeg ≤ L0) && decide (dp.toNatClampNeg + L.toNatClampNeg ≤ L1) && Nat.ble (am_sum r) 8)
        (some (.inl (pc + 3, ls, r, (w.1, am_cp w.2.1 a1 (va_cpy (w.2.1 a0) (w.2.1 a1) sp.toNatClampNeg dp.toNatClampNeg L.toNatClampNeg), w.2.2.1, w.2.2.2), k, n)))
      | _ => none
    | _ => none
  | _ => none
def am_oi (pc : Nat) (ls : am_L) (st : List Value) (w : am_W) (k n : Nat) : am_T := match st with
  | .ref _ :: r => am_if (Nat.ble (am_sum r) 8) (some (.inl (pc + 3, ls, r, w, k, n)))
  | _ => none
/-- a call -/
def am_ca (call : am_C) (o : Nat) (i : Instr) (len pc : Nat) (ls : am_L) (st : List Value) (w : am_W) (k n : Nat) : am_T := match i with
  | .invokevirtual j => am_ck len 3 (match am_lk (am_mds o) j with
    | some (y', na, kd, _) => match kd with
      | 0 => am_vc call pc ls st w k n y' na true
      | 1 => am_vc call pc ls st w k n y' na false
      | _ => none
    | none => none)
  | .invokestatic j => am_ck len 3 (match am_lk (am_mds o) j with
    | some (y', na, kd, _) => match kd with
      | 2 => am_sc call pc ls st w k n y' na false
      | 3 => am_sc call pc ls st w k n y' na false
      | 7 => am_ac pc ls st w k n
      | 8 => am_sc call pc ls st w k n y' na false
      | _ => none
    | none => none)
  | .invokespecial j => am_ck len 3 (match am_lk (am_mds o) j with
    | some (y', na, kd, _) => match kd with
      | 4 => am_ic call pc ls st w k n y' na
      | 5 => am_ic call pc ls st w k n y' na
      | 6 => am_oi pc ls st w k n
      | _ => none
    | none => none)
  | _ => none
def am_ini (y : Nat) : Bool := decide ((am_mn y).name = "<init>")
def am_xg (o j pc : Nat) (ls : am_L) (st : List Value) : am_Q := match st with
  | .retAddr k :: r => am_if (am_strq k && Nat.beq o 18) (match j with
    | 9 => some (pc + 3, ls, .retAddr (k + 100) :: r)
    | 15 => some (pc + 3, ls, .int 0 :: r)
    | _ => none)
  | _ => none
def am_xl (sc : Option (Nat × (Nat → Int32))) (pc : Nat) (ls : am_L) (st : List Value) : am_Q := match st with
  | .retAddr k :: r => match k with
    | 0 => match sc with
      | some (L, _) => some (pc + 1, ls, .int (Int32.ofNat L) :: r)
      | none => none
    | k + 1 => am_if (am_bytq (k + 1)) (some (pc + 1, ls, .int (Int32.ofNat (am_sb (k - 101)).length) :: r))
  | _ => none
def am_xi (sc : Option (Nat × (Nat → Int32))) (pc : Nat) (ls : am_L) (st : List Value) : am_Q := match st with
  | .int i :: .retAddr 0 :: r => match sc with
    | some (L, xs) => am_if (am_in i L) (some (pc + 1, ls, .int (xs i.toNatClampNeg) :: r))
    | none => none
  | _ => none
def am_xb (pc : Nat) (ls : am_L) (st : List Value) : am_Q := match st with
  | .int i :: .retAddr k :: r => am_if (am_bytq k && am_in i (am_sb (k - 102)).length) (some (pc + 1, ls, .int ((am_sb (k - 102)).getD i.toNatClampNeg 0) :: r))
  | _ => none
def am_xs (o j pc : Nat) (ls : am_L) (st : List Value) : am_Q := am_if (Nat.beq o 18) (match j with
    | 38 => some (pc + 3, ls, .int 1 :: st)
    | 1053 => some (pc + 3, ls, .retAddr 200 :: st)
    | _ => none)
/-- what reads beside the world -/
def am_xo (sc : Option (Nat × (Nat → Int32))) (o : Nat) (i : Instr) (len pc : Nat) (ls : am_L) (st : List Value) : am_Q := match i with
  | .getfield j => am_ck len 3 (am_xg o j pc ls st)
  | .arraylength => am_ck len 1 (am_xl sc pc ls st)
  | .iaload => am_ck len 1 (am_xi sc pc ls st)
  | .baload => am_ck len 1 (am_xb pc ls st)
  | .getstatic j => am_ck len 3 (am_xs o j pc ls st)
  | .ldc j => am_ck len 2 (match am_lk (am_sts o) j with
    | some q => some (pc + 2, ls, .retAddr (q.1 + 2) :: st)
    | none => none)
  | .ldc_w j => am_ck len 3 (match am_lk (am_sts o) j with
    | some q => some (pc + 3, ls, .retAddr (q.1 + 2) :: st)
    | none => none)
  | _ => none
/-- a throw: where it stands, what is thrown -/
def am_th (y pc : Nat) : Option Nat := match Nat.beq y nX_X11_needOne && Nat.beq pc 20 with
  | true => some 0
  | false => match Nat.beq y nX_X11_needWithin && Nat.beq pc 21 with
    | true => some 1
    | false => none
def am_s0 (sc : Option (Nat × (Nat → Int32))) (call : am_C) (d y : Nat) (i : Instr) (len : Nat) (s : am_S) : am_T := match am_cls i with
  | 0 => match am_pu (am_ow y) i len s.1 s.2.1 s.2.2.1 with
    | some q => some (.inl (q.1, q.2.1, q.2.2, s.2.2.2.1, s.2.2.2.2.1, s.2.2.2.2.2))
    | none => none
  | 1 => match am_he (am_ow y) (am_ini y) i len s.1 s.2.1 s.2.2.1 s.2.2.2.1 s.2.2.2.2.1 s.2.2.2.2.2 with
    | some q => some (.inl q)
    | none => match am_th y s.1 with
      | some E => am_if (Nat.ble 6 d && Nat.ble (am_sum s.2.2.1) 8 && (am_hd y).isEmpty) (some (.inr (.inr E, s.2.2.2.1, s.2.2.2.2.1 + 1, s.2.2.2.2.2 + 6)))
      | none => none
  | 2 => am_ca call (am_ow y) i len s.1 s.2.1 s.2.2.1 s.2.2.2.1 s.2.2.2.2.1 s.2.2.2.2.2
  | _ => match am_ed y i len s.2.2.1 s.2.2.2.1 s.2.2.2.2.1 s.2.2.2.2.2 with
    | some q => some (.inr q)
    | none => none
def am_step (sc : Option (Nat × (Nat → Int32))) (call : am_C) (d y : Nat) (s : am_S) : am_T := match decode (am_by y) s.1 with
  | .ok (i, len) => match am_xo sc (am_ow y) i len s.1 s.2.1 s.2.2.1 with
    | some q => some (.inl (q.1, q.2.1, q.2.2, s.2.2.2.1, s.2.2.2.2.1, s.2.2.2.2.2))
    | none => am_s0 sc call d y i len s
  | .error _ => none
def am_ct (E : Nat) : Nat := match E with
  | 0 => 28
  | _ => 13
/-- the first handler that takes it -/
def am_hf (E pc : Nat) : List (Nat × Nat × Nat × Nat) → Option Nat
  | [] => none
  | (a, z, h, t) :: r => match Nat.ble a pc && Nat.blt pc z && Nat.beq t (am_ct E) with
    | true => some h
    | false => match Nat.beq t 13 || Nat.beq t 28 with
      | true => am_hf E pc r
      | false => none
def am_n1 (ls : am_L) : Bool := ls.all (fun x => match x with
  | some (.retAddr k) => !Nat.beq k 1
  | _ => true)
/-- a throw that comes to a frame: it goes through, or a handler takes it -/
def am_cat (y : Nat) (s : am_S) (E : Nat) (w' : am_W) (k' n' : Nat) : am_T := match am_hd y with
  | [] => some (.inr (.inr E, w', k', n'))
  | h :: t => match am_hf E s.1 (h :: t) with
    | some hp => am_if (Nat.blt E 2 && am_n1 s.2.1 && Nat.beq (am_ow y) 13 && (Nat.beq w'.1.length s.2.2.2.1.1.length || am_vld s.2.2.2.1.1.length s.2.1 [])) (some (.inl (hp, s.2.1, [.retAddr 1], w', k', n')))
    | none => none
def am_st2 (sc : Option (Nat × (Nat → Int32))) (call : am_C) (d y : Nat) (s : am_S) : am_T := match am_step sc call d y s with
  | some (.inr (.inr E, w', k', n')) => am_cat y s E w' k' n'
  | t => t
def am_run (sc : Option (Nat × (Nat → Int32))) (call : am_C) (d y : Nat) : Nat → am_S → Option am_O
  | 0, _ => none
  | N + 1, s => match am_st2 sc call d y s with
    | some (.inl s') => am_run sc call d y N s'
    | some (.inr q) => some q
    | none => none
def am_lay : List Value → am_L
  | [] => []
  | v :: r => match Nat.beq v.category 2 with
    | true => some v :: none :: am_lay r
    | false => some v :: am_lay r
def am_ent (y : Nat) (args : List Value) : am_L := am_lay args ++ List.replicate (am_ml y - (am_lay args).length) none
/-- a call: at most N steps a method, d levels deep -/
def am_call (N : Nat) : Nat → am_C
  | 0 => fun _ _ _ => none
  | d + 1 => fun y args w => am_if (!Nat.beq (am_pc y) 9999 && Nat.ble (am_lay args).length (am_ml y)) (am_run none (am_call N d) (d + 1) y N (0, am_ent y args, [], w, 0, 0))
/-! what never falls: what has been made -/
def am_up (w : am_W) (k n : Nat) (w' : am_W) (k' n' : Nat) : Prop := k ≤ k' ∧ n ≤ n' ∧ w.1.length ≤ w'.1.length ∧ (am_wf w → am_wf w')
theorem am_up_rf {w : am_W} {k n : Nat} : am_up w k n w k n := ⟨Nat.le_refl _, Nat.le_refl _, Nat.le_refl _, fun h => h⟩
theorem am_up_tr {w w1 w2 : am_W} {k n k1 n1 k2 n2 : Nat} (h : am_up w k n w1 k1 n1) (g : am_up w1 k1 n1 w2 k2 n2) : am_up w k n w2 k2 n2 := ⟨Nat.le_trans h.1 g.1, Nat.le_trans h.2.1 g.2.1, Nat.le_trans h.2.2.1 g.2.2.1, fun x => g.2.2.2 (h.2.2.2 x)⟩
theorem am_up_grow {w : am_W} {k n a b : Nat} {s : am_K} : am_up w k n (am_grow w s) (k + a) (n + b) := ⟨Nat.le_add_right _ _, Nat.le_add_right _ _, by unfold am_grow; simp, am_wf_grow⟩
theorem am_wf_set {w : am_W} {o f : Nat} {v : Option Nat} (hv : ∀ q, v = some q → q < w.1.length) (h : am_wf w) : am_wf (w.1, w.2.1, w.2.2.1, am_u w.2.2.2 o f v) := by
  intro o' k q hq
  dsimp only at hq
  unfold am_u at hq
  split at hq
  · split at hq
    · exact hv q hq
    · exact h _ _ _ hq
  · exact h _ _ _ hq
theorem am_wr_up {w w' : am_W} {o f k n : Nat} {ty : FieldType} {v : Value} (h : am_wr w o f ty v = some w') : am_up w k n w' k n := by
  unfold am_wr at h
  split at h
  · split at h
    · cases h; exact ⟨Nat.le_refl _, Nat.le_refl _, Nat.le_refl _, fun h => h⟩
    · cases h
  · split at h
    · obtain ⟨-, h⟩ := am_if_some h
      cases h; exact ⟨Nat.le_refl _, Nat.le_refl _, Nat.le_refl _, fun h => h⟩
    · cases h
  · split at h
    · cases h; exact ⟨Nat.le_refl _, Nat.le_refl _, Nat.le_refl _, fun h => h⟩
    · cases h
  · split at h
    · obtain ⟨h1, h⟩ := am_if_some h
      cases h; exact ⟨Nat.le_refl _, Nat.le_refl _, Nat.le_refl _, am_wf_set (fun q e => by cases e; exact Nat.blt_eq.mp h1)⟩
    · cases h; exact ⟨Nat.le_refl _, Nat.le_refl _, Nat.le_refl _, am_wf_set (fun q e => by cases e)⟩
    · cases h
  · split at h
    · obtain ⟨h1, h⟩ := am_if_some h
      cases h; exact ⟨Nat.le_refl _, Nat.le_refl _, Nat.le_refl _, am_wf_set (fun q e => by cases e; exact Nat.blt_eq.mp h1)⟩
    · cases h; exact ⟨Nat.le_refl _, Nat.le_refl _, Nat.le_refl _, am_wf_set (fun q e => by cases e)⟩
    · cases h
  · cases h
theorem am_he_up {o : Nat} {ini : Bool} {i : Instr} {len pc : Nat} {ls : am_L} {st : List Value} {w : am_W} {k n : Nat} {q : am_S} (h : am_he o ini i len pc ls st w k n = some q) : am_up w k n q.2.2.2.1 q.2.2.2.2.1 q.2.2.2.2.2 := by
  unfold am_he at h
  split at h
  · obtain ⟨-, h⟩ := am_ck_some h
    unfold am_gf at h
    split at h
    · split at h
      · split at h
        · obtain ⟨-, h⟩ := am_if_some h
          cases h; exact am_up_rf
        · cases h
      · cases h
    · cases h
  · obtain ⟨-, h⟩ := am_ck_some h
    unfold am_pf at h
    split at h
    · split at h
      · split at h
        · obtain ⟨-, h⟩ := am_if_some h
          split at h
          · rename_i w' hw
            cases h; exact am_wr_up hw
          · cases h
        · cases h
      · cases h
    · cases h
  · obtain ⟨-, h⟩ := am_ck_some h
    unfold am_ia at h
    split at h
    · split at h
      · obtain ⟨-, h⟩ := am_if_some h
        cases h; exact am_up_rf
      · cases h
    · cases h
  · obtain ⟨-, h⟩ := am_ck_some h
    unfold am_za at h
    split at h
    · split at h
      · obtain ⟨-, h⟩ := am_if_some h
        cases h; exact am_up_rf
      · cases h
    · cases h
  · obtain ⟨-, h⟩ := am_ck_some h
    unfold am_la at h
    split at h
    · split at h
      · obtain ⟨-, h⟩ := am_if_some h
        cases h; exact am_up_rf
      · cases h
    · cases h
  · obtain ⟨-, h⟩ := am_ck_some h
    unfold am_qa at h
    split at h
    · split at h
      · split at h
        · obtain ⟨-, h⟩ := am_if_some h
          cases h; exact am_up_rf
        · cases h
      · cases h
    · cases h
  · obtain ⟨-, h⟩ := am_ck_some h
    unfold am_is1 at h
    split at h
    · split at h
      · obtain ⟨-, h⟩ := am_if_some h
        cases h; exact ⟨Nat.le_refl _, Nat.le_refl _, Nat.le_refl _, fun h => h⟩
      · cases h
    · cases h
  · obtain ⟨-, h⟩ := am_ck_some h
    unfold am_zs at h
    split at h
    · split at h
      · obtain ⟨-, h⟩ := am_if_some h
        cases h; exact ⟨Nat.le_refl _, Nat.le_refl _, Nat.le_refl _, fun h => h⟩
      · cases h
    · cases h
  · obtain ⟨-, h⟩ := am_ck_some h
    unfold am_ls at h
    split at h
    · split at h
      · obtain ⟨-, h⟩ := am_if_some h
        cases h; exact ⟨Nat.le_refl _, Nat.le_refl _, Nat.le_refl _, fun h => h⟩
      · cases h
    · cases h
  · obtain ⟨-, h⟩ := am_ck_some h
    unfold am_qs at h
    split at h
    · split at h
      · split at h
        · split at h
          · rename_i hv
            obtain ⟨-, h⟩ := am_if_some h
            cases h; exact ⟨Nat.le_refl _, Nat.le_refl _, Nat.le_refl _, am_wf_set (fun q e => by cases e; exact (List.getElem?_eq_some_iff.mp hv).1)⟩
          · cases h
        · cases h
      · cases h
    · cases h
  · obtain ⟨-, h⟩ := am_ck_some h
    split at h
    · rename_i r hr
      cases h
      unfold am_al1 at hr
      split at hr
      · split at hr
        · obtain ⟨-, hr⟩ := am_if_some hr
          cases hr; exact am_up_rf
        · cases hr
      · cases hr
    · unfold am_al2 at h
      split at h
      · split at h
        · split at h
          · cases h; exact am_up_rf
          · cases h
        · cases h
      · cases h
  · obtain ⟨-, h⟩ := am_ck_some h
    unfold am_nw at h
    split at h
    · obtain ⟨-, h⟩ := am_if_some h
      cases h; exact am_up_grow
    · cases h
  · obtain ⟨-, h⟩ := am_ck_some h
    unfold am_na at h
    split at h
    · split at h
      · obtain ⟨-, h⟩ := am_if_some h
        cases h; exact am_up_grow
      · cases h
    · cases h
  · obtain ⟨-, h⟩ := am_ck_some h
    unfold am_nq at h
    split at h
    · split at h
      · split at h
        · obtain ⟨-, h⟩ := am_if_some h
          cases h; exact am_up_grow
        · cases h
      · cases h
    · cases h
  · cases h
/-- a callee's part -/
def am_cup (call : am_C) : Prop := ∀ (y : Nat) (args : List Value) (w : am_W) (q : am_O), call y args w = some q → am_up w 0 0 q.2.1 q.2.2.1 q.2.2.2
def am_tup (w : am_W) (k n : Nat) (t : am_S ⊕ am_O) : Prop := match t with
  | .inl q => am_up w k n q.2.2.2.1 q.2.2.2.2.1 q.2.2.2.2.2
  | .inr q => am_up w k n q.2.1 q.2.2.1 q.2.2.2
theorem am_up_add {w w' : am_W} {k n k' n' : Nat} (h : am_up w 0 0 w' k' n') : am_up w k n w' (k + k') (n + n') := ⟨Nat.le_add_right _ _, Nat.le_add_right _ _, h.2.2.1, h.2.2.2⟩
theorem am_rs_up {pc : Nat} {ls : am_L} {r : List Value} {w : am_W} {k n : Nat} {thr : Bool} {res : Option am_O} {t : am_S ⊕ am_O} (hr : ∀ q, res = some q → am_up w 0 0 q.2.1 q.2.2.1 q.2.2.2) (h : am_rs pc ls r w k n thr res = some t) : am_tup w k n t := by
  unfold am_rs at h
  split at h
  · obtain ⟨-, h⟩ := am_if_some h
    cases h
    exact am_up_add (hr _ rfl)
  · obtain ⟨-, h⟩ := am_if_some h
    cases h
    exact am_up_add (hr _ rfl)
  · cases h
theorem am_ca_up {call : am_C} (hc : am_cup call) {o : Nat} {i : Instr} {len pc : Nat} {ls : am_L} {st : List Value} {w : am_W} {k n : Nat} {t : am_S ⊕ am_O} (h : am_ca call o i len pc ls st w k n = some t) : am_tup w k n t := by
  have v : ∀ {y' na : Nat} {thr : Bool}, am_vc call pc ls st w k n y' na thr = some t → am_tup w k n t := by
    intro y' na thr h
    unfold am_vc at h
    split at h
    · split at h
      · obtain ⟨-, h⟩ := am_if_some h
        exact am_rs_up (fun q e => hc _ _ _ _ e) h
      · cases h
    · obtain ⟨-, h⟩ := am_if_some h
      exact am_rs_up (fun q e => hc _ _ _ _ e) h
    · cases h
  have s : ∀ {y' na : Nat} {thr : Bool}, am_sc call pc ls st w k n y' na thr = some t → am_tup w k n t := by
    intro y' na thr h
    unfold am_sc at h
    obtain ⟨-, h⟩ := am_if_some h
    exact am_rs_up (fun q e => hc _ _ _ _ e) h
  have ic : ∀ {y' na : Nat}, am_ic call pc ls st w k n y' na = some t → am_tup w k n t := by
    intro y' na h
    unfold am_ic at h
    split at h
    · obtain ⟨-, h⟩ := am_if_some h
      exact am_rs_up (fun q e => hc _ _ _ _ e) h
    · cases h
  unfold am_ca at h
  split at h
  · obtain ⟨-, h⟩ := am_ck_some h
    split at h
    · split at h
      · exact v h
      · exact v h
      · cases h
    · cases h
  · obtain ⟨-, h⟩ := am_ck_some h
    split at h
    · split at h
      · exact s h
      · exact s h
      · unfold am_ac at h
        split at h
        · split at h
          · split at h
            · obtain ⟨-, h⟩ := am_if_some h
              cases h
              exact ⟨Nat.le_refl _, Nat.le_refl _, Nat.le_refl _, fun h => h⟩
            · cases h
          · cases h
        · cases h
      · exact s h
      · cases h
    · cases h
  · obtain ⟨-, h⟩ := am_ck_some h
    split at h
    · split at h
      · exact ic h
      · exact ic h
      · unfold am_oi at h
        split at h
        · obtain ⟨-, h⟩ := am_if_some h
          cases h
          exact am_up_rf
        · cases h
      · cases h
    · cases h
  · cases h
theorem am_ed_up {y : Nat} {i : Instr} {len : Nat} {st : List Value} {w : am_W} {k n : Nat} {q : am_O} (h : am_ed y i len st w k n = some q) : q.2 = (w, k, n) := by
  unfold am_ed at h
  split at h
  · obtain ⟨-, h⟩ := am_ck_some h
    split at h
    · obtain ⟨-, h⟩ := am_if_some h
      cases h; rfl
    · cases h
  · obtain ⟨-, h⟩ := am_ck_some h
    split at h
    · obtain ⟨-, h⟩ := am_if_some h
      cases h; rfl
    · cases h
  · obtain ⟨-, h⟩ := am_ck_some h
    split at h
    · obtain ⟨-, h⟩ := am_if_some h
      cases h; rfl
    · cases h
  · obtain ⟨-, h⟩ := am_ck_some h
    split at h
    · obtain ⟨-, h⟩ := am_if_some h
      cases h; rfl
    · cases h
  · cases h
theorem am_step_up {sc : Option (Nat × (Nat → Int32))} {call : am_C} (hc : am_cup call) {d y : Nat} {s : am_S} {t : am_S ⊕ am_O} (h : am_step sc call d y s = some t) : am_tup s.2.2.2.1 s.2.2.2.2.1 s.2.2.2.2.2 t := by
  unfold am_step at h
  split at h
  · split at h
    · cases h
      exact am_up_rf
    · unfold am_s0 at h
      split at h
      · split at h
        · cases h
          exact am_up_rf
        · cases h
      · split at h
        · rename_i q hq
          cases h
          exact am_he_up hq
        · split at h
          · obtain ⟨-, h⟩ := am_if_some h
            cases h
            exact ⟨Nat.le_add_right _ _, Nat.le_add_right _ _, Nat.le_refl _, fun h => h⟩
          · cases h
      · exact am_ca_up hc h
      · split at h
        · rename_i q hq
          cases h
          have e := am_ed_up hq
          obtain ⟨v, w, k, n⟩ := q
          cases e
          exact am_up_rf
        · cases h
  · cases h
theorem am_cat_up {y : Nat} {s : am_S} {E : Nat} {w' : am_W} {k' n' : Nat} {t : am_S ⊕ am_O} (h : am_cat y s E w' k' n' = some t) (u : am_up s.2.2.2.1 s.2.2.2.2.1 s.2.2.2.2.2 w' k' n') : am_tup s.2.2.2.1 s.2.2.2.2.1 s.2.2.2.2.2 t := by
  unfold am_cat at h
  split at h
  · cases h
    exact u
  · split at h
    · obtain ⟨-, h⟩ := am_if_some h
      cases h
      exact u
    · cases h
theorem am_st2_up {sc : Option (Nat × (Nat → Int32))} {call : am_C} (hc : am_cup call) {d y : Nat} {s : am_S} {t : am_S ⊕ am_O} (h : am_st2 sc call d y s = some t) : am_tup s.2.2.2.1 s.2.2.2.2.1 s.2.2.2.2.2 t := by
  unfold am_st2 at h
  split at h
  · rename_i E w' k' n' hs
    exact am_cat_up h (am_step_up (t := .inr (.inr E, w', k', n')) hc hs)
  · exact am_step_up hc h
theorem am_run_up {sc : Option (Nat × (Nat → Int32))} {call : am_C} (hc : am_cup call) {d y : Nat} : ∀ {N : Nat} {s : am_S} {q : am_O}, am_run sc call d y N s = some q → am_up s.2.2.2.1 s.2.2.2.2.1 s.2.2.2.2.2 q.2.1 q.2.2.1 q.2.2.2
  | 0, _, _, h => by cases h
  | N + 1, s, q, h => by
    unfold am_run at h
    split at h
    · rename_i s' hs
      exact am_up_tr (am_st2_up hc hs) (am_run_up hc h)
    · rename_i q' hs
      cases h
      exact am_st2_up hc hs
    · cases h
theorem am_call_up (N : Nat) : ∀ d, am_cup (am_call N d)
  | 0 => fun _ _ _ _ h => by cases h
  | d + 1 => fun y args w q h => by
    unfold am_call at h
    obtain ⟨-, h⟩ := am_if_some h
    exact am_run_up (am_call_up N d) h

