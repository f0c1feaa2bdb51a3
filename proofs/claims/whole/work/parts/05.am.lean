/-! THE ABSTRACT MACHINE: a machine without addresses, tables and room that runs the bytecode of this program: a world of numbered objects and arrays; every call by its callee's outcome. What it does the machine itself does (07 and 08). -/
abbrev am_K : Type := Nat ⊕ (Nat × Nat)
abbrev am_I : Type := Nat → Nat → Int32
abbrev am_J : Type := Nat → Nat → Int64
abbrev am_R : Type := Nat → Nat → Option Nat
/-- a world: of each number its class, or its row's kind (0 int, 1 boolean, 2 long, 3 and the class) and length; what each holds at each place: ints (and booleans), longs, references -/
abbrev am_W : Type := List am_K × am_I × am_J × am_R
abbrev am_L : Type := List (Option Value)
abbrev am_S : Type := Nat × am_L × List Value × am_W × Nat × Nat
abbrev am_O : Type := (Option Value ⊕ Nat) × am_W × Nat × Nat
def am_u {α : Type} (f : Nat → Nat → α) (o k : Nat) (v : α) : Nat → Nat → α := fun o' k' => if o' = o then (if k' = k then v else f o' k') else f o' k'
def am_z {α : Type} (f : Nat → Nat → α) (o : Nat) (v : α) : Nat → Nat → α := fun o' k' => if o' = o then v else f o' k'
def am_ck {α : Type} (len L : Nat) (t : Option α) : Option α := match Nat.beq len L with
  | true => t
  | false => none
theorem am_ck_some {α : Type} {len L : Nat} {t : Option α} {r : α} (h : am_ck len L t = some r) : len = L ∧ t = some r := by
  unfold am_ck at h
  split at h
  · exact ⟨Nat.eq_of_beq_eq_true (by assumption), h⟩
  · cases h
def am_if {α : Type} (b : Bool) (t : Option α) : Option α := match b with
  | true => t
  | false => none
theorem am_if_some {α : Type} {b : Bool} {t : Option α} {r : α} (h : am_if b t = some r) : b = true ∧ t = some r := by
  cases b
  · cases h
  · exact ⟨rfl, h⟩
def am_tg (pc : Nat) (off : Int) : Option Nat := match (pc : Int) + off with
  | .ofNat t => some t
  | .negSucc _ => none
theorem am_tg_some {pc t : Nat} {off : Int} (h : am_tg pc off = some t) : (pc : Int) + off = (t : Int) := by
  unfold am_tg at h
  split at h
  · rename_i t' e
    cases h
    exact e
  · cases h
/-- locals: a store at i spoils a long whose second half i is -/
def am_kill (ls : am_L) (i : Nat) : am_L := match i with
  | 0 => ls
  | j + 1 => match ls[j]? with
    | some (some v) => match Nat.beq v.category 2 with
      | true => ls.set j none
      | false => ls
    | _ => ls
def am_set1 (ls : am_L) (i : Nat) (v : Value) : am_L := (am_kill ls i).set i (some v)
def am_set2 (ls : am_L) (i : Nat) (v : Value) : am_L := ((am_kill ls i).set i (some v)).set (i + 1) none
abbrev am_Q : Type := Option (Nat × am_L × List Value)
def am_ldi (pc : Nat) (ls : am_L) (st : List Value) (j : Nat) : am_Q := match ls[j]? with
  | some (some (.int x)) => some (pc, ls, .int x :: st)
  | _ => none
def am_ldl (pc : Nat) (ls : am_L) (st : List Value) (j : Nat) : am_Q := match ls[j]? with
  | some (some (.long x)) => some (pc, ls, .long x :: st)
  | _ => none
def am_lda (pc : Nat) (ls : am_L) (st : List Value) (j : Nat) : am_Q := match ls[j]? with
  | some (some (.ref x)) => some (pc, ls, .ref x :: st)
  | some (some (.retAddr x)) => some (pc, ls, .retAddr x :: st)
  | _ => none
def am_sti (pc : Nat) (ls : am_L) (st : List Value) (j : Nat) : am_Q := match st with
  | .int x :: r => am_if (Nat.blt j ls.length) (some (pc, am_set1 ls j (.int x), r))
  | _ => none
def am_stl (pc : Nat) (ls : am_L) (st : List Value) (j : Nat) : am_Q := match st with
  | .long x :: r => am_if (Nat.blt (j + 1) ls.length) (some (pc, am_set2 ls j (.long x), r))
  | _ => none
def am_sta (pc : Nat) (ls : am_L) (st : List Value) (j : Nat) : am_Q := match st with
  | .ref x :: r => am_if (Nat.blt j ls.length) (some (pc, am_set1 ls j (.ref x), r))
  | .retAddr x :: r => am_if (Nat.blt j ls.length) (some (pc, am_set1 ls j (.retAddr x), r))
  | _ => none
def am_bi (f : Int32 → Int32 → Int32) (pc : Nat) (ls : am_L) (st : List Value) : am_Q := match st with
  | .int b :: .int a :: r => some (pc + 1, ls, .int (f a b) :: r)
  | _ => none
def am_bd (f : Int32 → Int32 → Int32) (pc : Nat) (ls : am_L) (st : List Value) : am_Q := match st with
  | .int b :: .int a :: r => am_if (!decide (b = 0)) (some (pc + 1, ls, .int (f a b) :: r))
  | _ => none
def am_bl (f : Int64 → Int64 → Int64) (pc : Nat) (ls : am_L) (st : List Value) : am_Q := match st with
  | .long b :: .long a :: r => some (pc + 1, ls, .long (f a b) :: r)
  | _ => none
def am_bs (f : Int64 → Int32 → Int64) (pc : Nat) (ls : am_L) (st : List Value) : am_Q := match st with
  | .int b :: .long a :: r => some (pc + 1, ls, .long (f a b) :: r)
  | _ => none
/-- a branch -/
def am_jp (b : Bool) (pc : Nat) (off : Int) (ls : am_L) (r : List Value) : am_Q := match am_tg pc off with
  | some t => some (match b with
    | true => t
    | false => pc + 3, ls, r)
  | none => none
def am_j1 (f : Int32 → Bool) (pc : Nat) (off : Int) (ls : am_L) (st : List Value) : am_Q := match st with
  | .int x :: r => am_jp (f x) pc off ls r
  | _ => none
def am_j2 (f : Int32 → Int32 → Bool) (pc : Nat) (off : Int) (ls : am_L) (st : List Value) : am_Q := match st with
  | .int y :: .int x :: r => am_jp (f x y) pc off ls r
  | _ => none
def am_gt (t : Option Nat) (ls : am_L) (r : List Value) : am_Q := match t with
  | some t => some (t, ls, r)
  | none => none
def am_sw (pc : Nat) (dflt lo hi : Int) (offs : Array Int) (ls : am_L) (st : List Value) : am_Q := match st with
  | .int x :: r => match decide (x.toInt < lo) || decide (hi < x.toInt) with
    | true => am_gt (am_tg pc dflt) ls r
    | false => match offs[(x.toInt - lo).toNat]? with
      | some o => am_gt (am_tg pc o) ls r
      | none => none
  | _ => none
def am_lw (pc : Nat) (dflt : Int) (ps : Array (Int × Int)) (ls : am_L) (st : List Value) : am_Q := match st with
  | .int x :: r => am_if ((ps.toList.zip (ps.toList.drop 1)).all (fun (a, next) => a.1 < next.1)) (am_gt (am_tg pc (Op.lookupswitch.offset ps.toList dflt x.toInt)) ls r)
  | _ => none
def am_dup (pc : Nat) (ls : am_L) (st : List Value) : am_Q := match st with
  | v :: r => am_if (Nat.beq v.category 1) (some (pc + 1, ls, v :: v :: r))
  | _ => none
def am_dup2 (pc : Nat) (ls : am_L) (st : List Value) : am_Q := match st with
  | v :: u :: r => match Nat.beq v.category 2 with
    | true => some (pc + 1, ls, v :: v :: u :: r)
    | false => am_if (Nat.beq u.category 1 && Nat.beq v.category 1) (some (pc + 1, ls, v :: u :: v :: u :: r))
  | _ => none
def am_pop (pc : Nat) (ls : am_L) (st : List Value) : am_Q := match st with
  | v :: r => am_if (Nat.beq v.category 1) (some (pc + 1, ls, r))
  | _ => none
def am_c1 (pc : Nat) (ls : am_L) (st : List Value) : am_Q := match st with
  | .int x :: r => some (pc + 1, ls, .long x.toInt64 :: r)
  | _ => none
def am_c2 (pc : Nat) (ls : am_L) (st : List Value) : am_Q := match st with
  | .long x :: r => some (pc + 1, ls, .int x.toInt32 :: r)
  | _ => none
def am_c3 (pc : Nat) (ls : am_L) (st : List Value) : am_Q := match st with
  | .int x :: r => some (pc + 1, ls, .int (x.toUInt32 % 65536).toInt32 :: r)
  | _ => none
def am_c4 (pc : Nat) (ls : am_L) (st : List Value) : am_Q := match st with
  | .long y :: .long x :: r => some (pc + 1, ls, .int (lg_cmp x y) :: r)
  | _ => none
/-- what touches locals and stack alone -/
def am_pu (o : Nat) (i : Instr) (len pc : Nat) (ls : am_L) (st : List Value) : am_Q := match i with
  | .iconst v => am_ck len 1 (some (pc + 1, ls, .int (Int32.ofInt v) :: st))
  | .bipush v => am_ck len 2 (some (pc + 2, ls, .int (Int8.ofInt v).toInt32 :: st))
  | .sipush v => am_ck len 3 (some (pc + 3, ls, .int (Int16.ofInt v).toInt32 :: st))
  | .lconst v => am_ck len 1 (some (pc + 1, ls, .long (Int64.ofNat (v : Nat)) :: st))
  | .iload_n j => am_ck len 1 (am_ldi (pc + 1) ls st j.val)
  | .iload j => am_ck len 2 (am_ldi (pc + 2) ls st j)
  | .lload_n j => am_ck len 1 (am_ldl (pc + 1) ls st j.val)
  | .lload j => am_ck len 2 (am_ldl (pc + 2) ls st j)
  | .aload_n j => am_ck len 1 (am_lda (pc + 1) ls st j.val)
  | .aload j => am_ck len 2 (am_lda (pc + 2) ls st j)
  | .istore_n j => am_ck len 1 (am_sti (pc + 1) ls st j.val)
  | .istore j => am_ck len 2 (am_sti (pc + 2) ls st j)
  | .lstore_n j => am_ck len 1 (am_stl (pc + 1) ls st j.val)
  | .lstore j => am_ck len 2 (am_stl (pc + 2) ls st j)
  | .astore_n j => am_ck len 1 (am_sta (pc + 1) ls st j.val)
  | .astore j => am_ck len 2 (am_sta (pc + 2) ls st j)
  | .iinc j v => am_ck len 3 (match ls[j]? with
    | some (some (.int x)) => some (pc + 3, am_set1 ls j (.int (x + Int32.ofInt v)), st)
    | _ => none)
  | .iadd => am_ck len 1 (am_bi (fun a b => a + b) pc ls st)
  | .isub => am_ck len 1 (am_bi (fun a b => a - b) pc ls st)
  | .imul => am_ck len 1 (am_bi (fun a b => a * b) pc ls st)
  | .iand => am_ck len 1 (am_bi (fun a b => a &&& b) pc ls st)
  | .ior => am_ck len 1 (am_bi (fun a b => a ||| b) pc ls st)
  | .ixor => am_ck len 1 (am_bi (fun a b => a ^^^ b) pc ls st)
  | .ishl => am_ck len 1 (am_bi (fun a b => a <<< (b &&& 31)) pc ls st)
  | .ishr => am_ck len 1 (am_bi (fun a b => a >>> (b &&& 31)) pc ls st)
  | .iushr => am_ck len 1 (am_bi (fun a b => (a.toUInt32 >>> (b.toUInt32 &&& Int32.toUInt32 31)).toInt32) pc ls st)
  | .idiv => am_ck len 1 (am_bd (fun a b => a / b) pc ls st)
  | .irem => am_ck len 1 (am_bd (fun a b => a - a / b * b) pc ls st)
  | .ladd => am_ck len 1 (am_bl (fun a b => a + b) pc ls st)
  | .lsub => am_ck len 1 (am_bl (fun a b => a - b) pc ls st)
  | .lmul => am_ck len 1 (am_bl (fun a b => a * b) pc ls st)
  | .land => am_ck len 1 (am_bl (fun a b => a &&& b) pc ls st)
  | .lor => am_ck len 1 (am_bl (fun a b => a ||| b) pc ls st)
  | .lxor => am_ck len 1 (am_bl (fun a b => a ^^^ b) pc ls st)
  | .lshl => am_ck len 1 (am_bs (fun a b => a <<< (b.toInt64 &&& 63)) pc ls st)
  | .lushr => am_ck len 1 (am_bs (fun a b => (a.toUInt64 >>> (b.toInt64.toUInt64 &&& Int64.toUInt64 63)).toInt64) pc ls st)
  | .ifCond .eq off => am_ck len 3 (am_j1 (fun x => decide (x = 0)) pc off ls st)
  | .ifCond .ne off => am_ck len 3 (am_j1 (fun x => decide (¬ x = 0)) pc off ls st)
  | .ifCond .lt off => am_ck len 3 (am_j1 (fun x => decide (x < 0)) pc off ls st)
  | .ifCond .ge off => am_ck len 3 (am_j1 (fun x => decide (0 ≤ x)) pc off ls st)
  | .ifCond .gt off => am_ck len 3 (am_j1 (fun x => decide (0 < x)) pc off ls st)
  | .ifCond .le off => am_ck len 3 (am_j1 (fun x => decide (x ≤ 0)) pc off ls st)
  | .if_icmp .eq off => am_ck len 3 (am_j2 (fun x y => decide (x = y)) pc off ls st)
  | .if_icmp .ne off => am_ck len 3 (am_j2 (fun x y => decide (¬ x = y)) pc off ls st)
  | .if_icmp .lt off => am_ck len 3 (am_j2 (fun x y => decide (x < y)) pc off ls st)
  | .if_icmp .ge off => am_ck len 3 (am_j2 (fun x y => decide (y ≤ x)) pc off ls st)
  | .if_icmp .gt off => am_ck len 3 (am_j2 (fun x y => decide (y < x)) pc off ls st)
  | .if_icmp .le off => am_ck len 3 (am_j2 (fun x y => decide (x ≤ y)) pc off ls st)
  | .goto off => am_ck len 3 (am_gt (am_tg pc off) ls st)
  | .tableswitch dflt lo hi offs => am_sw pc dflt lo hi offs ls st
  | .lookupswitch dflt ps => am_lw pc dflt ps ls st
  | .dup => am_ck len 1 (am_dup pc ls st)
  | .dup2 => am_ck len 1 (am_dup2 pc ls st)
  | .pop => am_ck len 1 (am_pop pc ls st)
  | .i2l => am_ck len 1 (am_c1 pc ls st)
  | .l2i => am_ck len 1 (am_c2 pc ls st)
  | .i2c => am_ck len 1 (am_c3 pc ls st)
  | .lcmp => am_ck len 1 (am_c4 pc ls st)
  | .ldc j => am_ck len 2 (match am_lk (am_kis o) j with
    | some q => some (pc + 2, ls, .int q.1 :: st)
    | none => none)
  | .ldc_w j => am_ck len 3 (match am_lk (am_kis o) j with
    | some q => some (pc + 3, ls, .int q.1 :: st)
    | none => none)
  | .ldc2_w j => am_ck len 3 (match am_lk (am_kls o) j with
    | some q => some (pc + 3, ls, .long q.1 :: st)
    | none => none)
  | _ => none
/-- values, with addresses for numbers (b: the script's) -/
def am_v (b : Nat → Option Nat) (ad : Nat → Nat) (v : Value) : Value := match v with
  | .ref i => .ref (ad i)
  | .retAddr k => va_rf (b k)
  | v => v
theorem am_v_cat (b : Nat → Option Nat) (ad : Nat → Nat) (v : Value) : (am_v b ad v).category = v.category := by
  cases v <;> first | rfl | (rename_i k; show (va_rf (b k)).category = 1; cases b k <;> rfl)
/-- the words that stay when the machine warms: every method's own -/
def am_good : List Cond := lw_tbl.filter goodWord
theorem am_good_in {w : Cond} (h : w ∈ lw_tbl) (hg : goodWord w = true) : w ∈ am_good := List.mem_filter.mpr ⟨h, hg⟩
def am_al (V : Value → Value) : Nat → am_L → List (Nat × Value)
  | _, [] => []
  | i, none :: r => am_al V (i + 1) r
  | i, some v :: r => (i, V v) :: am_al V (i + 1) r
theorem am_al_mem {V : Value → Value} : ∀ {ls : am_L} {i j : Nat} {u : Value}, (j, u) ∈ am_al V i ls ↔ ∃ (k : Nat) (v : Value), j = i + k ∧ ls[k]? = some (some v) ∧ u = V v
  | [], i, j, u => by simp [am_al]
  | none :: r, i, j, u => by
    rw [am_al, am_al_mem]
    constructor
    · rintro ⟨k, v, h1, h2, h3⟩
      exact ⟨k + 1, v, by omega, by simpa using h2, h3⟩
    · rintro ⟨k, v, h1, h2, h3⟩
      cases k with
      | zero => simp at h2
      | succ k => exact ⟨k, v, by omega, by simpa using h2, h3⟩
  | some w :: r, i, j, u => by
    rw [am_al, List.mem_cons, am_al_mem]
    constructor
    · rintro (h | ⟨k, v, h1, h2, h3⟩)
      · cases h
        exact ⟨0, w, rfl, rfl, rfl⟩
      · exact ⟨k + 1, v, by omega, by simpa using h2, h3⟩
    · rintro ⟨k, v, h1, h2, h3⟩
      cases k with
      | zero =>
        simp at h2
        subst h2; subst h3; subst h1
        exact Or.inl rfl
      | succ k => exact Or.inr ⟨k, v, by omega, by simpa using h2, h3⟩
/-- the machine's locals hold what the abstract ones say -/
def am_lr (V : Value → Value) (ls : am_L) (LS : Array Slot) (nL : Nat) : Prop := lv_has LS nL (am_al V 0 ls) ∧ ls.length = nL
theorem am_lr_at {V : Value → Value} {ls : am_L} {LS : Array Slot} {nL j : Nat} {v : Value} (h : am_lr V ls LS nL) (hj : ls[j]? = some (some v)) : LS[j]? = some (.val (V v)) :=
  h.1.2.2 (j, V v) (am_al_mem.mpr ⟨j, v, by omega, hj, rfl⟩)
theorem am_lr_pl {V : Value → Value} {ls : am_L} {LS : Array Slot} {nL j : Nat} {v : Value} (_ : am_lr V ls LS nL) (hj : ls[j]? = some (some v)) : ∃ k : Nat, (am_al V 0 ls)[k]? = some (j, V v) :=
  List.getElem?_of_mem (am_al_mem.mpr ⟨j, v, by omega, hj, rfl⟩)
theorem am_kill_at {ls : am_L} {i j : Nat} {u : Value} (h : (am_kill ls i)[j]? = some (some u)) : ls[j]? = some (some u) ∧ ¬ (j + 1 = i ∧ u.category = 2) := by
  unfold am_kill at h
  split at h
  · exact ⟨h, by omega⟩
  · rename_i q
    split at h
    · rename_i v hv
      split at h
      · rename_i hc
        by_cases hq : j = q
        · subst hq
          have hlt := (List.getElem?_eq_some_iff.mp hv).1
          rw [List.getElem?_set_self hlt] at h
          cases h
        · rw [List.getElem?_set_ne (Ne.symm hq)] at h
          exact ⟨h, by omega⟩
      · rename_i hc
        refine ⟨h, ?_⟩
        rintro ⟨e, e2⟩
        have : j = q := by omega
        subst this
        rw [hv] at h
        cases h
        rw [e2] at hc
        cases hc
    · rename_i hn
      refine ⟨h, ?_⟩
      rintro ⟨e, e2⟩
      have : j = q := by omega
      subst this
      exact hn _ h
theorem am_kill_len (ls : am_L) (i : Nat) : (am_kill ls i).length = ls.length := by
  unfold am_kill
  split
  · rfl
  · split
    · split
      · simp
      · rfl
    · rfl
theorem am_lr_set1 {b : Nat → Option Nat} {ad : Nat → Nat} {ls : am_L} {LS LS1 : Array Slot} {nL i : Nat} {v : Value} (h : am_lr (am_v b ad) ls LS nL) (h2 : lv_has LS1 nL ((i, am_v b ad v) :: (am_al (am_v b ad) 0 ls).filter (fun q => !(q.1 == i) && !(q.1 + 1 == i && q.2.category == 2)))) : am_lr (am_v b ad) (am_set1 ls i v) LS1 nL := by
  refine ⟨⟨h2.1, h2.2.1, fun q hq => ?_⟩, by unfold am_set1; rw [List.length_set, am_kill_len]; exact h.2⟩
  obtain ⟨j, u⟩ := q
  obtain ⟨k, v', e1, e2, e3⟩ := am_al_mem.mp hq
  have e1 : j = k := by omega
  subst e1
  refine h2.2.2 _ ?_
  unfold am_set1 at e2
  by_cases hj : j = i
  · subst hj
    have hlt := (List.getElem?_eq_some_iff.mp e2).1
    rw [List.length_set] at hlt
    rw [List.getElem?_set_self hlt] at e2
    cases e2
    rw [e3]
    exact List.mem_cons_self
  · rw [List.getElem?_set_ne (Ne.symm hj)] at e2
    obtain ⟨g1, g2⟩ := am_kill_at e2
    refine List.mem_cons_of_mem _ (List.mem_filter.mpr ⟨am_al_mem.mpr ⟨j, v', by omega, g1, e3⟩, ?_⟩)
    have hc : u.category = v'.category := by rw [e3, am_v_cat]
    simp only [Bool.and_eq_true, Bool.not_eq_true', beq_eq_false_iff_ne, ne_eq, Bool.and_eq_false_iff, hc]
    refine ⟨hj, ?_⟩
    by_cases hx : j + 1 = i
    · exact Or.inr (fun q => g2 ⟨hx, q⟩)
    · exact Or.inl hx
theorem am_lr_set2 {b : Nat → Option Nat} {ad : Nat → Nat} {ls : am_L} {LS LS1 : Array Slot} {nL i : Nat} {v : Value} (h : am_lr (am_v b ad) ls LS nL) (h2 : lv_has LS1 nL ((i, am_v b ad v) :: (am_al (am_v b ad) 0 ls).filter (fun q => !(q.1 == i) && (!(q.1 == i + 1) && !(q.1 + 1 == i && q.2.category == 2))))) : am_lr (am_v b ad) (am_set2 ls i v) LS1 nL := by
  refine ⟨⟨h2.1, h2.2.1, fun q hq => ?_⟩, by unfold am_set2; rw [List.length_set, List.length_set, am_kill_len]; exact h.2⟩
  obtain ⟨j, u⟩ := q
  obtain ⟨k, v', e1, e2, e3⟩ := am_al_mem.mp hq
  have e1 : j = k := by omega
  subst e1
  refine h2.2.2 _ ?_
  unfold am_set2 at e2
  by_cases hj1 : j = i + 1
  · subst hj1
    have hlt := (List.getElem?_eq_some_iff.mp e2).1
    rw [List.length_set] at hlt
    rw [List.getElem?_set_self hlt] at e2
    cases e2
  · rw [List.getElem?_set_ne (Ne.symm hj1)] at e2
    by_cases hj : j = i
    · subst hj
      have hlt := (List.getElem?_eq_some_iff.mp e2).1
      rw [List.length_set] at hlt
      rw [List.getElem?_set_self hlt] at e2
      cases e2
      rw [e3]
      exact List.mem_cons_self
    · rw [List.getElem?_set_ne (Ne.symm hj)] at e2
      obtain ⟨g1, g2⟩ := am_kill_at e2
      refine List.mem_cons_of_mem _ (List.mem_filter.mpr ⟨am_al_mem.mpr ⟨j, v', by omega, g1, e3⟩, ?_⟩)
      have hc : u.category = v'.category := by rw [e3, am_v_cat]
      simp only [Bool.and_eq_true, Bool.not_eq_true', beq_eq_false_iff_ne, ne_eq, Bool.and_eq_false_iff, hc]
      refine ⟨hj, hj1, ?_⟩
      by_cases hx : j + 1 = i
      · exact Or.inr (fun q => g2 ⟨hx, q⟩)
      · exact Or.inl hx
theorem am_gt_some {t : Option Nat} {ls : am_L} {r : List Value} {q : Nat × am_L × List Value} (h : am_gt t ls r = some q) : ∃ t', t = some t' ∧ q = (t', ls, r) := by
  unfold am_gt at h
  split at h
  · cases h
    exact ⟨_, rfl, rfl⟩
  · cases h
theorem am_all_in {α : Type} {f : Nat → List α} {g : Nat → α → Bool} (h : (List.range 21).all (fun o => (f o).all (g o)) = true) {o : Nat} (ho : o < 21) {q : α} (hq : q ∈ f o) : g o q = true :=
  List.all_eq_true.mp (List.all_eq_true.mp h o (List.mem_range.mpr ho)) q hq
theorem am_kis_big {o : Nat} (h : ¬ o < 21) : am_kis o = [] := by
  match o, h with
  | o + 21, _ => rfl
theorem am_kls_big {o : Nat} (h : ¬ o < 21) : am_kls o = [] := by
  match o, h with
  | o + 21, _ => rfl
theorem am_ki_mem {o j : Nat} {q : Int32 × Nat} (h : am_lk (am_kis o) j = some q) : Cond.constant (am_onm o) j q.1 ∈ lw_tbl := by
  by_cases ho : o < 21
  · exact am_is_mem (am_all_in am_kis_ok ho (am_lk_mem h))
  · rw [am_kis_big ho] at h
    cases h
theorem am_kl_mem {o j : Nat} {q : Int64 × Nat} (h : am_lk (am_kls o) j = some q) : Cond.constantLong (am_onm o) j q.1 ∈ lw_tbl := by
  by_cases ho : o < 21
  · exact am_is_mem (am_all_in am_kls_ok ho (am_lk_mem h))
  · rw [am_kls_big ho] at h
    cases h

