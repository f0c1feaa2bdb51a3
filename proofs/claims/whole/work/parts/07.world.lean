/-! Worlds: fields, rows, what is made; the machine does what the abstract one does -/
def am_lps : List (List Nat) := [
  [1225, 1227, 1229, 1231, 1233, 1235, 1237, 1239, 2001, 2003],
  [112, 114, 116, 118, 120, 122, 124],
  [1098, 1100, 1102, 1104, 1106],
  [62, 64, 66, 68, 70, 72, 74, 76, 78, 80],
  [1036, 1038, 1040, 1042, 1044, 1046, 1048, 1050, 1052, 1054, 1056, 1058, 1060, 1062, 1064, 1066, 1068, 1070, 1072, 1074, 1076],
  [1159, 1161, 1163],
  [99, 101],
  [162, 164, 166, 168, 170, 172, 174, 176, 178],
  [1128, 1130, 1132, 1134, 1136, 1138, 1140, 1142, 1144, 1146],
  [1201, 1203, 1205, 1207, 1209],
  [2030, 2032, 2034, 2036, 2038, 2040, 2042, 2044, 2046, 2048, 2050, 2052, 2054, 2056, 2058, 2060],
  [2090, 2092, 2094, 2096, 2098, 2100, 2102, 2104, 2106, 2108, 2110, 2112, 2114, 2116, 2118, 2120, 2122, 2124, 2126, 2128],
  [7031, 7033, 7035, 7037, 7039, 7041, 7043, 7045, 7047, 7049, 7051, 7053, 7055, 7057, 7059, 7061, 7063, 7065, 7067, 7069, 7071, 7073, 7075, 7077, 7079, 7081, 7083, 7085, 7087, 7089, 7091, 7093, 7095, 7097, 7099, 7101, 7103, 7105, 7107, 7109, 7111, 7113, 7115, 7117, 7119, 7121, 7123, 7125, 7127, 7129, 7131, 7133, 7135, 7137, 7139, 7141, 7143, 7145, 7147, 7149, 7151, 7153, 7155, 7157, 7159, 7161]]
def am_ips : List Nat := [1168, 85, 1080, 37, 128, 1150, 92, 135, 1110, 1177, 2009, 29, 6180]
def am_nps : List Nat := [10, 3, 7, 2, 5, 9, 4, 6, 8, 11, 12, 1, 14]
def am_cn (c : Nat) : Nat := (am_cl c).2.2.1
def am_cty (c f : Nat) : FieldType := (am_cl c).2.2.2 f
def am_fin (c f : Nat) : Bool := ((am_cl c).2.1 f).2.2.2
def am_lp (c f : Nat) : Nat := (((am_lps[c]?).getD [])[f]?).getD 0
def am_plain (t : FieldType) : Bool := match t with
  | .int => true
  | .boolean => true
  | .long => true
  | .object _ => true
  | .array _ => true
  | _ => false
theorem am_lay_ok : (List.range 13).all (fun c => (List.range (am_cn c)).all (fun f => am_is (am_lp c f) (u_lay (am_cl c).1 (am_cl c).2.1 f) && goodWord (u_lay (am_cl c).1 (am_cl c).2.1 f) && am_plain (am_cty c f))) = true := by decide +kernel
theorem am_ins_ok : (List.range 13).all (fun c => am_is ((am_ips[c]?).getD 0) (.instantiable (am_cl c).1 (am_cn c)) && am_is ((am_nps[c]?).getD 0) (.initialized (am_cl c).1)) = true := by decide +kernel
theorem am_13 {P : Nat → Prop} (h0 : P 0) (h1 : P 1) (h2 : P 2) (h3 : P 3) (h4 : P 4) (h5 : P 5) (h6 : P 6) (h7 : P 7) (h8 : P 8) (h9 : P 9) (h10 : P 10) (h11 : P 11) (h12 : P 12) {c : Nat} (hc : c < 13) : P c := by
  match c, hc with
  | 0, _ => exact h0
  | 1, _ => exact h1
  | 2, _ => exact h2
  | 3, _ => exact h3
  | 4, _ => exact h4
  | 5, _ => exact h5
  | 6, _ => exact h6
  | 7, _ => exact h7
  | 8, _ => exact h8
  | 9, _ => exact h9
  | 10, _ => exact h10
  | 11, _ => exact h11
  | 12, _ => exact h12
theorem am_vw {c : Nat} (hc : c < 13) : vwCl[c]? = some ((am_cl c).1, (am_cl c).2.1, am_cn c) := am_13 (P := fun c => vwCl[c]? = some ((am_cl c).1, (am_cl c).2.1, am_cn c)) rfl rfl rfl rfl rfl rfl rfl rfl rfl rfl rfl rfl rfl hc
theorem am_nm {c : Nat} (hc : c < 13) : ∀ a, a < am_cn c → ∀ b, b < am_cn c → a ≠ b → ((am_cl c).2.1 a).2.1 ≠ ((am_cl c).2.1 b).2.1 := am_13 (P := fun c => ∀ a, a < am_cn c → ∀ b, b < am_cn c → a ≠ b → ((am_cl c).2.1 a).2.1 ≠ ((am_cl c).2.1 b).2.1) nmX0 nmX1 nmX2 nmX3 nmX4 nmX5 nmX6 nmX7 nmX8 nmX9 nmX10 nmX11 nmX12 hc
theorem am_ty {c : Nat} (hc : c < 13) : ∀ k, k < am_cn c → parseFieldDescriptor ((am_cl c).2.1 k).2.2.1 = some (am_cty c k) := am_13 (P := fun c => ∀ k, k < am_cn c → parseFieldDescriptor ((am_cl c).2.1 k).2.2.1 = some (am_cty c k)) tyX0_ok tyX1_ok tyX2_ok tyX3_ok tyX4_ok tyX5_ok tyX6_ok tyX7_ok tyX8_ok tyX9_ok tyX10_ok tyX11_ok tyX12_ok hc
theorem am_lay_at {c f : Nat} (hc : c < 13) (hf : f < am_cn c) : u_lay (am_cl c).1 (am_cl c).2.1 f ∈ am_good ∧ am_plain (am_cty c f) = true := by
  have h := List.all_eq_true.mp (List.all_eq_true.mp am_lay_ok c (List.mem_range.mpr hc)) f (List.mem_range.mpr hf)
  simp only [Bool.and_eq_true] at h
  exact ⟨am_good_in (am_is_mem h.1.1) h.1.2, h.2⟩
theorem am_lays {c : Nat} (hc : c < 13) : ∀ w ∈ u_ws (am_cl c).1 (am_cl c).2.1 (am_cn c), w ∈ am_good := by
  intro w hw
  obtain ⟨k, hk, rfl⟩ := List.mem_map.mp hw
  exact (am_lay_at hc (List.mem_range.mp hk)).1
theorem am_insw {c : Nat} (hc : c < 13) : Cond.instantiable (am_cl c).1 (am_cn c) ∈ am_good ∧ Cond.initialized (am_cl c).1 ∈ am_good := by
  have h := List.all_eq_true.mp am_ins_ok c (List.mem_range.mpr hc)
  simp only [Bool.and_eq_true] at h
  exact ⟨am_good_in (am_is_mem h.1) rfl, am_good_in (am_is_mem h.2) rfl⟩
/-- what a place of an object holds -/
def am_rd (w : am_W) (o f : Nat) (ty : FieldType) : Value := match ty with
  | .int => .int (w.2.1 o f)
  | .boolean => .int (w.2.1 o f)
  | .long => .long (w.2.2.1 o f)
  | _ => va_rf (w.2.2.2 o f)
def am_wr (w : am_W) (o f : Nat) (ty : FieldType) (v : Value) : Option am_W := match ty with
  | .int => match v with
    | .int x => some (w.1, am_u w.2.1 o f x, w.2.2.1, w.2.2.2)
    | _ => none
  | .boolean => match v with
    | .int x => am_if (decide (x = 0) || decide (x = 1)) (some (w.1, am_u w.2.1 o f x, w.2.2.1, w.2.2.2))
    | _ => none
  | .long => match v with
    | .long x => some (w.1, w.2.1, am_u w.2.2.1 o f x, w.2.2.2)
    | _ => none
  | .object _ => match v with
    | .ref q => am_if (Nat.blt q w.1.length) (some (w.1, w.2.1, w.2.2.1, am_u w.2.2.2 o f (some q)))
    | .null => some (w.1, w.2.1, w.2.2.1, am_u w.2.2.2 o f none)
    | _ => none
  | .array _ => match v with
    | .ref q => am_if (Nat.blt q w.1.length) (some (w.1, w.2.1, w.2.2.1, am_u w.2.2.2 o f (some q)))
    | .null => some (w.1, w.2.1, w.2.2.1, am_u w.2.2.2 o f none)
    | _ => none
  | _ => none
def am_in (i : Int32) (n : Nat) : Bool := decide (¬ (i < 0 ∨ n ≤ i.toNatClampNeg))
abbrev am_H : Type := Option am_S
def am_gf (pc : Nat) (ls : am_L) (st : List Value) (w : am_W) (k n : Nat) (q : Option (Nat × Nat × Nat)) : am_H := match q with
  | some (c, f, _) => match st with
    | .ref a :: r => match w.1[a]? with
      | some (.inl c') => am_if (Nat.beq c' c) (some (pc + 3, ls, am_rd w a f (am_cty c f) :: r, w, k, n))
      | _ => none
    | _ => none
  | none => none
def am_pf (o : Nat) (ini : Bool) (pc : Nat) (ls : am_L) (st : List Value) (w : am_W) (k n : Nat) (q : Option (Nat × Nat × Nat)) : am_H := match q with
  | some (c, f, _) => match st with
    | v :: .ref a :: r => match w.1[a]? with
      | some (.inl c') => am_if (Nat.beq c' c && (!am_fin c f || (ini && Nat.beq o c))) (match am_wr w a f (am_cty c f) v with
        | some w' => some (pc + 3, ls, r, w', k, n)
        | none => none)
      | _ => none
    | _ => none
  | none => none
def am_ia (pc : Nat) (ls : am_L) (st : List Value) (w : am_W) (k n : Nat) : am_H := match st with
  | .int i :: .ref a :: r => match w.1[a]? with
    | some (.inr (0, L)) => am_if (am_in i L) (some (pc + 1, ls, .int (w.2.1 a i.toNatClampNeg) :: r, w, k, n))
    | _ => none
  | _ => none
def am_za (pc : Nat) (ls : am_L) (st : List Value) (w : am_W) (k n : Nat) : am_H := match st with
  | .int i :: .ref a :: r => match w.1[a]? with
    | some (.inr (1, L)) => am_if (am_in i L) (some (pc + 1, ls, .int (w.2.1 a i.toNatClampNeg) :: r, w, k, n))
    | _ => none
  | _ => none
def am_la (pc : Nat) (ls : am_L) (st : List Value) (w : am_W) (k n : Nat) : am_H := match st with
  | .int i :: .ref a :: r => match w.1[a]? with
    | some (.inr (2, L)) => am_if (am_in i L) (some (pc + 1, ls, .long (w.2.2.1 a i.toNatClampNeg) :: r, w, k, n))
    | _ => none
  | _ => none
/-- a row's kind, its place in the list of array classes -/
def am_tp (t : Nat) : Option (Nat × Nat) := match t with
  | 8 => some (3, 5)
  | 9 => some (4, 6)
  | 12 => some (5, 9)
  | _ => none
def am_qa (pc : Nat) (ls : am_L) (st : List Value) (w : am_W) (k n : Nat) : am_H := match st with
  | .int i :: .ref a :: r => match w.1[a]? with
    | some (.inr (t, L)) => match am_tp t with
      | some _ => am_if (am_in i L) (some (pc + 1, ls, va_rf (w.2.2.2 a i.toNatClampNeg) :: r, w, k, n))
      | none => none
    | _ => none
  | _ => none
def am_is1 (pc : Nat) (ls : am_L) (st : List Value) (w : am_W) (k n : Nat) : am_H := match st with
  | .int x :: .int i :: .ref a :: r => match w.1[a]? with
    | some (.inr (0, L)) => am_if (am_in i L) (some (pc + 1, ls, r, (w.1, am_u w.2.1 a i.toNatClampNeg x, w.2.2.1, w.2.2.2), k, n))
    | _ => none
  | _ => none
def am_zs (pc : Nat) (ls : am_L) (st : List Value) (w : am_W) (k n : Nat) : am_H := match st with
  | .int x :: .int i :: .ref a :: r => match w.1[a]? with
    | some (.inr (1, L)) => am_if (am_in i L && (decide (x = 0) || decide (x = 1))) (some (pc + 1, ls, r, (w.1, am_u w.2.1 a i.toNatClampNeg x, w.2.2.1, w.2.2.2), k, n))
    | _ => none
  | _ => none
def am_ls (pc : Nat) (ls : am_L) (st : List Value) (w : am_W) (k n : Nat) : am_H := match st with
  | .long x :: .int i :: .ref a :: r => match w.1[a]? with
    | some (.inr (2, L)) => am_if (am_in i L) (some (pc + 1, ls, r, (w.1, w.2.1, am_u w.2.2.1 a i.toNatClampNeg x, w.2.2.2), k, n))
    | _ => none
  | _ => none
def am_qs (pc : Nat) (ls : am_L) (st : List Value) (w : am_W) (k n : Nat) : am_H := match st with
  | .ref v :: .int i :: .ref a :: r => match w.1[a]? with
    | some (.inr (t, L)) => match am_tp t with
      | some (_, c) => match w.1[v]? with
        | some (.inl c') => am_if (am_in i L && Nat.beq c' c) (some (pc + 1, ls, r, (w.1, w.2.1, w.2.2.1, am_u w.2.2.2 a i.toNatClampNeg (some v)), k, n))
        | _ => none
      | none => none
    | _ => none
  | _ => none
def am_al1 (pc : Nat) (ls : am_L) (st : List Value) (w : am_W) (k n : Nat) : am_H := match st with
  | .ref a :: r => match w.1[a]? with
    | some (.inr (t, L)) => am_if (Nat.blt t 3) (some (pc + 1, ls, .int (Int32.ofNat L) :: r, w, k, n))
    | _ => none
  | _ => none
def am_al2 (pc : Nat) (ls : am_L) (st : List Value) (w : am_W) (k n : Nat) : am_H := match st with
  | .ref a :: r => match w.1[a]? with
    | some (.inr (t, L)) => match am_tp t with
      | some _ => some (pc + 1, ls, .int (Int32.ofNat L) :: r, w, k, n)
      | none => none
    | _ => none
  | _ => none
def am_okv (N : Nat) (v : Value) : Bool := match v with
  | .ref q => Nat.blt q N
  | _ => true
def am_vld (N : Nat) (ls : am_L) (st : List Value) : Bool := ls.all (fun x => match x with
  | some v => am_okv N v
  | none => true) && st.all (am_okv N)
def am_grow (w : am_W) (s : am_K) : am_W := (w.1 ++ [s], am_z w.2.1 w.1.length 0, am_z w.2.2.1 w.1.length 0, am_z w.2.2.2 w.1.length none)
def am_nw (pc : Nat) (ls : am_L) (st : List Value) (w : am_W) (k n : Nat) (q : Option (Nat × Nat)) : am_H := match q with
  | some (c, _) => am_if (am_vld w.1.length ls st) (some (pc + 3, ls, .ref w.1.length :: st, am_grow w (.inl c), k + 1, n + am_cn c))
  | none => none
def am_at (t : ArrayType) : Option Nat := match t with
  | .int => some 0
  | .boolean => some 1
  | .long => some 2
  | _ => none
def am_na (t : ArrayType) (pc : Nat) (ls : am_L) (st : List Value) (w : am_W) (k n : Nat) : am_H := match st with
  | .int L :: r => match am_at t with
    | some t' => am_if (am_vld w.1.length ls r && decide (¬ L < 0) && Nat.blt L.toNatClampNeg 1000000) (some (pc + 2, ls, .ref w.1.length :: r, am_grow w (.inr (t', L.toNatClampNeg)), k + 1, n + L.toNatClampNeg))
    | none => none
  | _ => none
def am_nq (pc : Nat) (ls : am_L) (st : List Value) (w : am_W) (k n : Nat) (q : Option (Nat × Nat)) : am_H := match q with
  | some (c, _) => match st with
    | .int L :: r => match am_tp (3 + c) with
      | some _ => am_if (am_vld w.1.length ls r && decide (¬ L < 0) && Nat.blt L.toNatClampNeg 1000000) (some (pc + 3, ls, .ref w.1.length :: r, am_grow w (.inr (3 + c, L.toNatClampNeg)), k + 1, n + L.toNatClampNeg))
      | none => none
    | _ => none
  | none => none
/-- what touches the world -/
def am_he (o : Nat) (ini : Bool) (i : Instr) (len pc : Nat) (ls : am_L) (st : List Value) (w : am_W) (k n : Nat) : am_H := match i with
  | .getfield j => am_ck len 3 (am_gf pc ls st w k n (am_lk (am_fds o) j))
  | .putfield j => am_ck len 3 (am_pf o ini pc ls st w k n (am_lk (am_fds o) j))
  | .iaload => am_ck len 1 (am_ia pc ls st w k n)
  | .baload => am_ck len 1 (am_za pc ls st w k n)
  | .laload => am_ck len 1 (am_la pc ls st w k n)
  | .aaload => am_ck len 1 (am_qa pc ls st w k n)
  | .iastore => am_ck len 1 (am_is1 pc ls st w k n)
  | .bastore => am_ck len 1 (am_zs pc ls st w k n)
  | .lastore => am_ck len 1 (am_ls pc ls st w k n)
  | .aastore => am_ck len 1 (am_qs pc ls st w k n)
  | .arraylength => am_ck len 1 (match am_al1 pc ls st w k n with
    | some r => some r
    | none => am_al2 pc ls st w k n)
  | .new j => am_ck len 3 (am_nw pc ls st w k n (am_lk (am_nws o) j))
  | .newarray t => am_ck len 2 (am_na t pc ls st w k n)
  | .anewarray j => am_ck len 3 (am_nq pc ls st w k n (am_lk (am_nws o) j))
  | _ => none
/-! the machine's world -/
def am_fv (ad : Nat → Nat) (w : am_W) (o f : Nat) (ty : FieldType) : Value := match ty with
  | .int => .int (w.2.1 o f)
  | .boolean => .int (w.2.1 o f)
  | .long => .long (w.2.2.1 o f)
  | _ => va_rf ((w.2.2.2 o f).map ad)
def am_fl (ad : Nat → Nat) (w : am_W) (o c : Nat) : List Value := (List.range (am_cn c)).map (fun f => am_fv ad w o f (am_cty c f))
def am_row (ad : Nat → Nat) (w : am_W) (o t : Nat) : (Nat → Int32) ⊕ (Nat → Int64) ⊕ (Nat → UInt32) ⊕ (Nat → UInt64) ⊕ (Nat → Option Nat) := match t with
  | 0 => .inl (w.2.1 o)
  | 1 => .inl (w.2.1 o)
  | 2 => .inr (.inl (w.2.2.1 o))
  | _ => .inr (.inr (.inr (.inr (fun j => (w.2.2.2 o j).map ad))))
def am_ek (cA : Nat → ClassId) (ad : Nat → Nat) (w : am_W) (o : Nat) (s : am_K) : va_E := match s with
  | .inl c => .inr (c, am_fl ad w o c)
  | .inr (t, L) => .inl (cA t, L, am_row ad w o t)
def am_en (cA : Nat → ClassId) (ad : Nat → Nat) (w : am_W) (o : Nat) : va_E := match w.1[o]? with
  | some s => am_ek cA ad w o s
  | none => .inr (0, [])
def am_ws (cA : Nat → ClassId) (ad : Nat → Nat) (w : am_W) : va_W := (List.range w.1.length).map (fun o => (ad o, am_en cA ad w o))
def am_tys (cA : Nat → ClassId) : List (ClassId × FieldType) := [(cA 0, .int), (cA 1, .boolean), (cA 2, .long), (cA 8, .object RX5), (cA 9, .object RX6), (cA 12, .object RX9)]
theorem am_ws_at {cA : Nat → ClassId} {ad : Nat → Nat} {w : am_W} {o : Nat} {s : am_K} (h : w.1[o]? = some s) : (am_ws cA ad w)[o]? = some (ad o, am_ek cA ad w o s) := by
  have hlt := (List.getElem?_eq_some_iff.mp h).1
  unfold am_ws
  rw [List.getElem?_map, List.getElem?_range hlt]
  show some (ad o, am_en cA ad w o) = _
  unfold am_en
  rw [h]
theorem am_ws_set {cA : Nat → ClassId} {ad : Nat → Nat} {w w' : am_W} {o : Nat} {s : am_K} (hs : w'.1 = w.1) (ho : w.1[o]? = some s) (hoth : ∀ (o' : Nat) (s' : am_K), o' ≠ o → am_ek cA ad w' o' s' = am_ek cA ad w o' s') : (am_ws cA ad w).set o (ad o, am_ek cA ad w' o s) = am_ws cA ad w' := by
  have hlt := (List.getElem?_eq_some_iff.mp ho).1
  apply List.ext_getElem?
  intro q
  by_cases hq : q = o
  · subst hq
    rw [List.getElem?_set_self (by unfold am_ws; simpa using hlt), am_ws_at (w := w') (s := s) (by rw [hs]; exact ho)]
  · rw [List.getElem?_set_ne (Ne.symm hq)]
    cases hw : w.1[q]? with
    | some s' =>
      rw [am_ws_at hw, am_ws_at (w := w') (s := s') (by rw [hs]; exact hw), hoth q s' hq]
    | none =>
      have h1 : w.1.length ≤ q := by simpa using hw
      rw [List.getElem?_eq_none (by unfold am_ws; simpa using h1), List.getElem?_eq_none (by unfold am_ws; simpa [hs] using h1)]
theorem am_fl_at {ad : Nat → Nat} {w : am_W} {o c f : Nat} (hf : f < am_cn c) : (am_fl ad w o c)[f]? = some (am_fv ad w o f (am_cty c f)) := by
  unfold am_fl
  rw [List.getElem?_map, List.getElem?_range hf]
  rfl
theorem am_fl_len {ad : Nat → Nat} {w : am_W} {o c : Nat} : (am_fl ad w o c).length = am_cn c := by simp [am_fl]
theorem am_fl_set {ad : Nat → Nat} {w w' : am_W} {o c f : Nat} {v : Value} (hoth : ∀ f', f' ≠ f → am_fv ad w' o f' (am_cty c f') = am_fv ad w o f' (am_cty c f')) (hv : v = am_fv ad w' o f (am_cty c f)) : (am_fl ad w o c).set f v = am_fl ad w' o c := by
  apply List.ext_getElem?
  intro q
  by_cases hq : q < am_cn c
  · by_cases he : q = f
    · subst he
      rw [List.getElem?_set_self (by rw [am_fl_len]; exact hq), am_fl_at hq, hv]
    · rw [List.getElem?_set_ne (Ne.symm he), am_fl_at hq, am_fl_at hq, hoth q he]
  · rw [List.getElem?_eq_none (by rw [List.length_set, am_fl_len]; omega), List.getElem?_eq_none (by rw [am_fl_len]; omega)]
theorem am_u_ne {α : Type} {f : Nat → Nat → α} {o k o' : Nat} {v : α} (h : o' ≠ o) : am_u f o k v o' = f o' := by
  funext q
  simp [am_u, h]
theorem am_u_at {α : Type} {f : Nat → Nat → α} {o k : Nat} {v : α} : am_u f o k v o k = v := by simp [am_u]
theorem am_u_nk {α : Type} {f : Nat → Nat → α} {o k k' : Nat} {v : α} (h : k' ≠ k) : am_u f o k v o k' = f o k' := by simp [am_u, h]
/-- all references of the world are of it -/
def am_wf (w : am_W) : Prop := ∀ (o k q : Nat), w.2.2.2 o k = some q → q < w.1.length

