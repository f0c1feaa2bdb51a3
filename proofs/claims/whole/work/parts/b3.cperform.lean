/-! WORK: the class does its steps -/
theorem ins_congr {T : TX} {p k : Nat} {s s' : Nat → Int32} (h : ∀ i, i < k → s i = s' i) : txIns T p k s = txIns T p k s' := by
  unfold txIns
  congr 1
  funext i
  by_cases c : i < p
  · rw [if_pos c, if_pos c]
  · rw [if_neg c, if_neg c]
    by_cases c2 : i < p + k
    · rw [if_pos c2, if_pos c2]; exact h _ (by omega)
    · rw [if_neg c2, if_neg c2]
def pM (I : am_I) (x : WX) : Prop := cTx 135 I x.1 ∧ I 102 8 = ni x.2.2.1 ∧ I 102 9 = ni x.2.2.2
def pF (I I' : am_I) : Prop := ∀ o k, ¬ (o = 135 ∧ k = 1) → o ≠ 136 → ¬ (o = 102 ∧ (k = 8 ∨ k = 9)) → o ≠ 107 → I' o k = I o k
theorem pF.rfl' {I : am_I} : pF I I := fun _ _ _ _ _ _ => rfl
theorem pF.trans {I I' I'' : am_I} (h : pF I I') (g : pF I' I'') : pF I I'' := fun o k e1 e2 e3 e4 => (g o k e1 e2 e3 e4).trans (h o k e1 e2 e3 e4)
def rwK (I : am_I) (K A B W : Nat → Int32) (cnt : Nat) : Prop := I 103 = K ∧ I 104 = A ∧ I 105 = B ∧ I 106 = W ∧ I 102 4 = ni cnt
theorem rwK.of {I I' : am_I} {K A B W : Nat → Int32} {cnt : Nat} (h : rwK I K A B W cnt) (f : pF I I') : rwK I' K A B W cnt := by
  obtain ⟨h1, h2, h3, h4, h5⟩ := h
  refine ⟨?_, ?_, ?_, ?_, ?_⟩
  · rw [← h1]; funext k; exact f _ _ (by omega) (by omega) (by omega) (by omega)
  · rw [← h2]; funext k; exact f _ _ (by omega) (by omega) (by omega) (by omega)
  · rw [← h3]; funext k; exact f _ _ (by omega) (by omega) (by omega) (by omega)
  · rw [← h4]; funext k; exact f _ _ (by omega) (by omega) (by omega) (by omega)
  · rw [← h5]; exact f _ _ (by omega) (by omega) (by omega) (by omega)
section PRF
variable {Pf : am_R} {K A B W : Nat → Int32}
theorem sc_one1 (hp : am_PF Pf) {P : am_O → Prop} {I : am_I} {J : am_J} {cnt p d : Nat} {e : SE} {T : TX} (he : seOK e) (hI : rwK I K A B W cnt) (hT : cTx 135 I T) (hp1 : p < 150) (h1 : K p = ni e.1) (h2 : A p = ni e.2.1) (h3 : B p = ni e.2.2.1) (h4 : e.1 = 1 → ∀ i, i < e.2.2.1 → W (8 * p + i) = e.2.2.2.getD i 0) (kk : ∀ I', cTx 135 I' (one1 e T).2 → cTf 135 I I' → P (.inl (some (.int (b2 (one1 e T).1))), (am_SH, I', J, Pf), 0, 0)) : am_mth (d + 4) 107 [.ref 102, .ref 135, .int (ni p)] (am_SH, I, J, Pf) P := by
  obtain ⟨⟨g1, g2⟩, g3, g4, g5⟩ := he
  obtain ⟨r1, r2, r3, r4, r5⟩ := hI
  have h24 := hT.2.1
  refine am_mth_of rfl rfl (v107_0 hp rfl ?_)
  rw [show (ni p).toNatClampNeg = p from ni_nat (by omega), r1, r2, r3, h1, h2, h3]
  refine ⟨ni_in (by omega) (by omega), ?_⟩
  unfold one1 at kk
  by_cases c1 : e.1 = 1
  · obtain ⟨k1, k2, k3, k4⟩ := g5 c1
    rw [if_pos c1] at kk
    rw [if_pos ((leq 1 (by omega) (by omega)).mpr c1), show (8 : Int32) = ni 8 from rfl, ni_mul]
    refine ⟨ni_in (by omega) (by omega), ni_in (by omega) (by omega), ?_⟩
    refine sc_types (d := d + 1) (Ly := 1200) hp rfl rfl (by omega) (by omega) hT (by omega) k1 (by omega) (by omega) ?_
    have e0 : txIns T e.2.1 e.2.2.1 (fun i => I 106 (p * 8 + i)) = txIns T e.2.1 e.2.2.1 (fun i => e.2.2.2.getD i 0) := ins_congr (fun i hi => by
      rw [r4, show p * 8 + i = 8 * p + i by omega]; exact h4 c1 i hi)
    split
    · rename_i c
      rw [if_pos c] at kk
      rw [e0]
      exact fun I' q1 q2 => am_back (v107_34 hp ⟨Or.inr rfl, kk I' q1 q2⟩)
    · rename_i c
      rw [if_neg c] at kk
      exact am_back (v107_34 hp ⟨Or.inl rfl, kk I hT (fun _ _ _ _ => rfl)⟩)
  · rw [if_neg c1] at kk
    rw [if_neg (fun z => c1 ((leq 1 (by omega) (by omega)).mp z))]
    refine ⟨ni_in (by omega) (by omega), ?_⟩
    by_cases c2 : e.1 = 2
    · rw [if_pos c2] at kk
      rw [if_pos ((leq 2 (by omega) (by omega)).mpr c2)]
      refine ⟨ni_in (by omega) (by omega), ni_in (by omega) (by omega), ?_⟩
      refine sc_cut (d := d + 2) hp rfl hT (by omega) (by omega) ?_
      split
      · rename_i c
        rw [if_pos c] at kk
        exact fun I' q1 q2 => am_back (v107_61 hp ⟨Or.inr rfl, kk I' q1 q2⟩)
      · rename_i c
        rw [if_neg c] at kk
        exact am_back (v107_61 hp ⟨Or.inl rfl, kk I hT (fun _ _ _ _ => rfl)⟩)
    · rw [if_neg c2] at kk
      rw [if_neg (fun z => c2 ((leq 2 (by omega) (by omega)).mp z))]
      refine ⟨ni_in (by omega) (by omega), ni_in (by omega) (by omega), ?_⟩
      refine sc_swap (d := d + 2) hp rfl hT (by omega) (by omega) ?_
      split
      · rename_i c
        rw [if_pos c] at kk
        exact fun I' q1 q2 => am_back (v107_78 hp ⟨Or.inr rfl, kk I' q1 q2⟩)
      · rename_i c
        rw [if_neg c] at kk
        exact am_back (v107_78 hp ⟨Or.inl rfl, kk I hT (fun _ _ _ _ => rfl)⟩)
/-- a row of steps is done: either it ends with 200 begun, or it goes on behind them -/
def cPF (Pf : am_R) (D : Nat) (K A B W : Nat → Int32) (cnt d : Nat) : Prop := ∀ (P : am_O → Prop) (J : am_J) (L : List (ST d)) (p dp turn c : Nat) (x : WX) (I : am_I), (∀ y, y ∈ L → stOK d y) → layL (cLa K A B W d) (csz d) p L → rwK I K A B W cnt → p + szL (csz d) L ≤ cnt → dp + d ≤ 6 → wxOK x → turn + c ≤ 2 * x.2.1 → pM I x →
  (∀ I', pM I' (exL (exS d) L x) → pF I I' → (exL (exS d) L x).2.1 = 200 → P (.inl none, (am_SH, I', J, Pf), 0, 0)) →
  (∀ I' turn', pM I' (exL (exS d) L x) → pF I I' → (∀ j, j ≤ dp → I' 107 j = I 107 j) → turn' + c + min 1 L.length ≤ 2 * (exL (exS d) L x).2.1 → am_go none D 106 (20, [some (.ref 102), some (.ref 135), some (.int (ni (exL (exS d) L x).2.1)), some (.int (ni dp)), some (.int (ni (p + szL (csz d) L))), some (.int (ni turn'))], [], (am_SH, I', J, Pf), 0, 0) P) →
  am_go none D 106 (20, [some (.ref 102), some (.ref 135), some (.int (ni x.2.1)), some (.int (ni dp)), some (.int (ni p)), some (.int (ni turn))], [], (am_SH, I, J, Pf), 0, 0) P
theorem pM.u7 {I : am_I} {x : WX} (h : pM I x) {j : Nat} {v : Int32} : pM (am_u I 107 j v) x := ⟨⟨by rw [am_u_nq (by omega)]; exact h.1.1, h.1.2.1, fun i hi => by rw [am_u_nq (by omega)]; exact h.1.2.2 i hi⟩, by rw [am_u_nq (by omega)]; exact h.2.1, by rw [am_u_nq (by omega)]; exact h.2.2⟩
theorem pF.u7 {I : am_I} {j : Nat} {v : Int32} : pF I (am_u I 107 j v) := fun o k e1 e2 e3 e4 => am_u_nq (by omega)
/-- one step that is no again -/
theorem cPF_I (hp : am_PF Pf) {D cnt d : Nat} (hcnt : cnt < 150) {P : am_O → Prop} {J : am_J} {e : SE} {p dp turn : Nat} {x : WX} {I : am_I} (he : seOK e) (hI : rwK I K A B W cnt) (hla : cLa K A B W d p (sI d e)) (hpc : p < cnt) (hx : wxOK x) (ht : turn ≤ 400) (hM : pM I x)
    (fin : x.2.1 = 200 → P (.inl none, (am_SH, I, J, Pf), 0, 0))
    (next : x.2.1 < 200 → ∀ I', pM I' (exO e x) → (exO e x).2.1 = x.2.1 + 1 → pF I I' → (∀ j, I' 107 j = I 107 j) → am_go none (D + 5) 106 (20, [some (.ref 102), some (.ref 135), some (.int (ni (exO e x).2.1)), some (.int (ni dp)), some (.int (ni (p + 1))), some (.int (ni (turn + 1)))], [], (am_SH, I', J, Pf), 0, 0) P) :
    am_go none (D + 5) 106 (20, [some (.ref 102), some (.ref 135), some (.int (ni x.2.1)), some (.int (ni dp)), some (.int (ni p)), some (.int (ni turn))], [], (am_SH, I, J, Pf), 0, 0) P := by
  obtain ⟨a1, a2, a3, a4⟩ := cLa_I.mp hla
  obtain ⟨x1, x2, x3, x4⟩ := hx
  have g1 := he.1
  refine v106_20 hp rfl ?_
  rw [if_neg (fun z => absurd ((gle 1000 (by omega) (by omega)).mp z) (by omega)), if_neg (ni_ge0 (by omega)), hI.2.2.2.2, if_neg (fun z => absurd ((ni_le (by omega) (by omega)).mp z) (by omega)), show (ni p).toNatClampNeg = p from ni_nat (by omega), hI.1, a1, if_neg (fun z => absurd ((leq 5 (by omega) (by omega)).mp z) (by omega))]
  refine ⟨ni_in (by omega) (by omega), ?_⟩
  by_cases c : x.2.1 = 200
  · rw [c, if_pos (by decide)]
    exact fin c
  · rw [if_neg (fun z => c ((leq 200 (by omega) (by omega)).mp z)), if_neg (fun z => absurd ((leq 4 (by omega) (by omega)).mp z) (by omega)), ni_p1]
    refine ⟨ni_in (by omega) (by omega), ?_⟩
    have hE : exO e x = ((one1 e x.1).2, x.2.1 + 1, x.2.2.1 + (if (one1 e x.1).1 = true then 1 else 0), x.2.2.2 + (if (one1 e x.1).1 = true then 0 else 1)) := by
      unfold exO
      rw [if_neg c]
    rw [hE] at next
    refine sc_one1 (d := D + 1) hp he hI hM.1 (by omega) a1 a2 a3 a4 (fun I' q1 q2 => am_back (v106_124 hp rfl ?_))
    have f8 : I' 102 8 = ni x.2.2.1 := by rw [q2 _ _ (by omega) (by omega)]; exact hM.2.1
    have f9 : I' 102 9 = ni x.2.2.2 := by rw [q2 _ _ (by omega) (by omega)]; exact hM.2.2
    have hx' : ∀ k v, cTx 135 (am_u I' 102 k v) (one1 e x.1).2 := fun k v => ⟨by rw [am_u_nq (by omega)]; exact q1.1, q1.2.1, fun i hi => by rw [am_u_nq (by omega)]; exact q1.2.2 i hi⟩
    rw [ni_p1, ni_p1]
    cases hb : (one1 e x.1).1 with
    | true =>
      rw [hb] at next
      rw [show b2 true = 1 from rfl, if_neg (by decide), f8, ni_p1]
      refine next (by omega) _ ⟨hx' _ _, am_u_same, ?_⟩ rfl (fun o k e1 e2 e3 e4 => by rw [am_u_nq (by omega)]; exact q2 _ _ e1 e2) (fun j => by rw [am_u_nq (by omega)]; exact q2 _ _ (by omega) (by omega))
      rw [am_u_nq (by omega)]
      exact f9
    | false =>
      rw [hb] at next
      rw [show b2 false = 0 from rfl, if_pos rfl, f9, ni_p1]
      refine next (by omega) _ ⟨hx' _ _, ?_, am_u_same⟩ rfl (fun o k e1 e2 e3 e4 => by rw [am_u_nq (by omega)]; exact q2 _ _ e1 e2) (fun j => by rw [am_u_nq (by omega)]; exact q2 _ _ (by omega) (by omega))
      rw [am_u_nq (by omega)]
      exact f8
theorem cPF_all (hp : am_PF Pf) {D cnt : Nat} (hcnt : cnt < 150) : ∀ d, cPF Pf (D + 5) K A B W cnt d := by
  intro d
  induction d with
  | zero =>
    intro P J L
    induction L with
    | nil =>
      intro p dp turn c x I hs hla hI hpc hdp hx ht hM fin next
      exact next I turn hM pF.rfl' (fun _ _ => rfl) ht
    | cons s L ihL =>
      intro p dp turn c x I hs hla hI hpc hdp hx ht hM fin next
      obtain ⟨l1, l2⟩ := hla
      have e1 : szL (csz 0) (s :: L) = 1 + szL (csz 0) L := rfl
      have s1 : seOK s := hs s (List.mem_cons_self ..)
      have x2 := hx.2.1
      refine cPF_I (d := 0) hp hcnt s1 hI l1 (by omega) hx (by omega) hM (fun h200 => ?_) (fun hlt I' q1 q2 q3 q4 => ?_)
      · have := exL_200 (f := exS 0) (exS_200 0) (s :: L) x h200
        exact fin I (by rw [this]; exact hM) pF.rfl' (by rw [this]; exact h200)
      · have hx' := (exO_ok s1 hx).1
        refine ihL (p + 1) dp (turn + 1) (c + 1) (exO s x) I' (fun y hy => hs y (List.mem_cons_of_mem _ hy)) l2 (hI.of q3) (by omega) hdp hx' (by omega) q1 (fun I2 r1 r2 r3 => fin I2 r1 (q3.trans r2) r3) (fun I2 t2 r1 r2 r3 r4 => ?_)
        have r4' : t2 + (c + 1) + min 1 L.length ≤ 2 * (exL (exS 0) (s :: L) x).2.1 := r4
        have := next I2 t2 r1 (q3.trans r2) (fun j hj => (r3 j hj).trans (q4 j)) (by simp only [List.length_cons]; omega)
        rw [show p + szL (csz 0) (s :: L) = p + 1 + szL (csz 0) L by omega] at this
        exact this
  | succ d ihd =>
    intro P J L
    induction L with
    | nil =>
      intro p dp turn c x I hs hla hI hpc hdp hx ht hM fin next
      exact next I turn hM pF.rfl' (fun _ _ => rfl) ht
    | cons s L ihL =>
      intro p dp turn c x I hs hla hI hpc hdp hx ht hM fin next
      obtain ⟨l1, l2⟩ := hla
      have e1 : szL (csz (d + 1)) (s :: L) = csz (d + 1) s + szL (csz (d + 1)) L := rfl
      have e0 : exL (exS (d + 1)) (s :: L) x = exL (exS (d + 1)) L (exS (d + 1) s x) := rfl
      have s1 := hs s (List.mem_cons_self ..)
      have x2 := hx.2.1
      rcases ST_cs s with ⟨e, rfl⟩ | ⟨t, body, rfl⟩
      · rw [csz_I] at e1 l2
        rw [exS_I] at e0
        have s1 := stOK_I.mp s1
        refine cPF_I (d := d + 1) hp hcnt s1 hI l1 (by omega) hx (by omega) hM (fun h200 => ?_) (fun hlt I' q1 q2 q3 q4 => ?_)
        · have := exL_200 (f := exS (d + 1)) (exS_200 (d + 1)) (sI (d + 1) e :: L) x h200
          exact fin I (by rw [this]; exact hM) pF.rfl' (by rw [this]; exact h200)
        · have hx' := (exO_ok s1 hx).1
          refine ihL (p + 1) dp (turn + 1) (c + 1) (exO e x) I' (fun y hy => hs y (List.mem_cons_of_mem _ hy)) l2 (hI.of q3) (by omega) hdp hx' (by omega) q1 (fun I2 r1 r2 r3 => fin I2 (by rw [e0]; exact r1) (q3.trans r2) (by rw [e0]; exact r3)) (fun I2 t2 r1 r2 r3 r4 => ?_)
          have := next I2 t2 (by rw [e0]; exact r1) (q3.trans r2) (fun j hj => (r3 j hj).trans (q4 j)) (by rw [e0]; simp only [List.length_cons]; omega)
          rw [show p + szL (csz (d + 1)) (sI (d + 1) e :: L) = p + 1 + szL (csz (d + 1)) L by omega, e0] at this
          exact this
      · rw [csz_A] at e1 l2
        rw [exS_A] at e0
        obtain ⟨t40, sb⟩ := stOK_A.mp s1
        obtain ⟨a1, a2, a3, a4, a5, a6⟩ := cLa_A.mp l1
        generalize hq : szL (csz d) body = qn at e1 l2 a3 a5 a6 ihL
        by_cases c200 : x.2.1 = 200
        · have := exL_200 (f := exS (d + 1)) (exS_200 (d + 1)) (sA d t body :: L) x c200
          refine v106_20 hp rfl ?_
          rw [if_neg (fun z => absurd ((gle 1000 (by omega) (by omega)).mp z) (by omega)), if_neg (ni_ge0 (by omega)), hI.2.2.2.2, if_neg (fun z => absurd ((ni_le (by omega) (by omega)).mp z) (by omega)), show (ni p).toNatClampNeg = p from ni_nat (by omega), hI.1, a1, if_neg (by decide), c200, if_pos (by decide)]
          exact ⟨ni_in (by omega) (by omega), fin I (by rw [this]; exact hM) pF.rfl' (by rw [this]; exact c200)⟩
        rw [if_neg c200] at e0
        have hx0 : wxOK (x.1, x.2.1 + 1, x.2.2) := by
          obtain ⟨h1, h2, h3, h4⟩ := hx
          exact ⟨h1, by show x.2.1 + 1 ≤ 200; omega, by show x.2.2.1 ≤ x.2.1 + 1; omega, by show x.2.2.2 ≤ x.2.1 + 1; omega⟩
        have hM0 : pM I (x.1, x.2.1 + 1, x.2.2) := hM
        have hfok : ∀ x, wxOK x → wxOK (exL (exS d) body x) ∧ x.2.1 ≤ (exL (exS d) body x).2.1 := fun x hx => exL_ok body x (fun y x hy hx => exS_ok d y x (sb y hy) hx) hx
        have hf200 : ∀ x : WX, x.2.1 = 200 → exL (exS d) body x = x := exL_200 (exS_200 d) body
        generalize hx0e : ((x.1, x.2.1 + 1, x.2.2) : WX) = x0 at hx0 hM0 e0
        have hb0 : x0.2.1 = x.2.1 + 1 := by rw [← hx0e]
        -- behind the again
        have BEH : ∀ (I' : am_I) (t2 : Nat) (y : WX), y = itr (exL (exS d) body) t x0 → pM I' y → pF I I' → (∀ j, j ≤ dp → I' 107 j = I 107 j) → wxOK y → t2 + (c + 1) ≤ 2 * y.2.1 → am_go none (D + 5) 106 (20, [some (.ref 102), some (.ref 135), some (.int (ni y.2.1)), some (.int (ni dp)), some (.int (ni (p + (qn + 2)))), some (.int (ni t2))], [], (am_SH, I', J, Pf), 0, 0) P := by
          intro I' t2 y hy q1 q2 q3 q4 q5
          rw [← hy] at e0
          refine ihL (p + (qn + 2)) dp t2 (c + 1) y I' (fun y hy => hs y (List.mem_cons_of_mem _ hy)) l2 (hI.of q2) (by omega) hdp q4 q5 q1 (fun I2 r1 r2 r3 => fin I2 (by rw [e0]; exact r1) (q2.trans r2) (by rw [e0]; exact r3)) (fun I2 t3 r1 r2 r3 r4 => ?_)
          have := next I2 t3 (by rw [e0]; exact r1) (q2.trans r2) (fun j hj => (r3 j hj).trans (q3 j hj)) (by rw [e0]; simp only [List.length_cons]; omega)
          rw [show p + szL (csz (d + 1)) (sA d t body :: L) = p + (qn + 2) + szL (csz (d + 1)) L by omega, e0] at this
          exact this
        -- an again that is passed over
        have SKIP : t = 0 ∨ qn = 0 → am_go none (D + 5) 106 (186, [some (.ref 102), some (.ref 135), some (.int (ni x0.2.1)), some (.int (ni dp)), some (.int (ni p)), some (.int (ni turn))], [], (am_SH, I, J, Pf), 0, 0) P := by
          intro hz
          refine v106_186 hp rfl ?_
          rw [show (ni p).toNatClampNeg = p from ni_nat (by omega), hI.2.2.1, a3, ni_p1, ni_p1, show p + 1 + qn + 1 = p + (qn + 2) by omega]
          refine ⟨ni_in (by omega) (by omega), BEH I (turn + 1) x0 ?_ hM0 pF.rfl' (fun _ _ => rfl) hx0 (by omega)⟩
          rcases hz with z | z
          · rw [z]; rfl
          · cases body with
            | nil => exact (itr_nil t x0).symm
            | cons y ys =>
              have : szL (csz d) (y :: ys) = csz d y + szL (csz d) ys := rfl
              have := csz_pos d y
              omega
        -- the turns
        have ITER : body ≠ [] → ∀ (n : Nat) (y : WX) (t2 : Nat) (I' : am_I), itr (exL (exS d) body) (n + 1) y = itr (exL (exS d) body) t x0 → n + 1 ≤ 40 → pM I' y → pF I I' → (∀ j, j ≤ dp → I' 107 j = I 107 j) → I' 107 (dp + 1) = ni (n + 1) → wxOK y → t2 + (c + 1) ≤ 2 * y.2.1 → am_go none (D + 5) 106 (20, [some (.ref 102), some (.ref 135), some (.int (ni y.2.1)), some (.int (ni (dp + 1))), some (.int (ni (p + 1))), some (.int (ni t2))], [], (am_SH, I', J, Pf), 0, 0) P := by
          intro hne n
          induction n with
          | zero =>
            intro y t2 I' hy hn q1 q2 q3 q4 q5 q6
            have hy' : exL (exS d) body y = itr (exL (exS d) body) t x0 := hy
            obtain ⟨k1, k2⟩ := hfok y q5
            have k3 := k1.2.1
            refine ihd P J body (p + 1) (dp + 1) t2 (c + 1) y I' sb a4 (hI.of q2) (by omega) (by omega) q5 q6 q1 (fun I2 r1 r2 r3 => ?_) (fun I2 t3 r1 r2 r3 r4 => ?_)
            · have e2 := exL_200 (f := exS (d + 1)) (exS_200 (d + 1)) L (exL (exS d) body y) r3
              rw [hy'] at e2
              refine fin I2 ?_ (q2.trans r2) ?_
              · rw [e0, e2, ← hy']; exact r1
              · rw [e0, e2, ← hy']; exact r3
            · have hl : 1 ≤ body.length := by
                cases body with
                | nil => exact absurd rfl hne
                | cons _ _ => simp
              have hmin : min 1 body.length = 1 := by omega
              rw [hmin] at r4
              have hI2 := hI.of (q2.trans r2)
              refine v106_20 hp rfl ?_
              rw [hq, if_neg (fun z => absurd ((gle 1000 (by omega) (by omega)).mp z) (by omega)), if_neg (ni_ge0 (by omega)), hI2.2.2.2.2, if_neg (fun z => absurd ((ni_le (by omega) (by omega)).mp z) (by omega)), show (ni (p + 1 + qn)).toNatClampNeg = p + 1 + qn from ni_nat (by omega), hI2.1, a5, if_pos rfl, show (ni (dp + 1)).toNatClampNeg = dp + 1 from ni_nat (by omega), r3 _ (Nat.le_refl _), q4, show ni (0 + 1) - 1 = ni 0 from by decide, if_pos (show ni 0 ≤ (0 : Int32) from by decide), show ni (dp + 1) + -1 = ni dp by
                rw [← Int32.sub_eq_add_neg]; exact ni_sub (a := dp + 1) (b := 1) (by omega), ni_p1, ni_p1, show p + 1 + qn + 1 = p + (qn + 2) by omega]
              refine ⟨ni_in (by omega) (by omega), ni_in (by omega) (by omega), ni_in (by omega) (by omega), ni_in (by omega) (by omega), ?_⟩
              exact BEH _ (t3 + 1) _ hy' r1.u7 ((q2.trans r2).trans pF.u7) (fun j hj => by rw [am_u_nq (by omega), r3 j (by omega), q3 j hj]) k1 (by omega)
          | succ n ihn =>
            intro y t2 I' hy hn q1 q2 q3 q4 q5 q6
            have hy' : itr (exL (exS d) body) (n + 1) (exL (exS d) body y) = itr (exL (exS d) body) t x0 := hy
            obtain ⟨k1, k2⟩ := hfok y q5
            have k3 := k1.2.1
            refine ihd P J body (p + 1) (dp + 1) t2 (c + 1) y I' sb a4 (hI.of q2) (by omega) (by omega) q5 q6 q1 (fun I2 r1 r2 r3 => ?_) (fun I2 t3 r1 r2 r3 r4 => ?_)
            · have e3 := itr_200 hf200 (n + 1) (exL (exS d) body y) r3
              rw [hy'] at e3
              have e2 := exL_200 (f := exS (d + 1)) (exS_200 (d + 1)) L (exL (exS d) body y) r3
              rw [← e3] at e2
              refine fin I2 ?_ (q2.trans r2) ?_
              · rw [e0, e2, e3]; exact r1
              · rw [e0, e2, e3]; exact r3
            · have hl : 1 ≤ body.length := by
                cases body with
                | nil => exact absurd rfl hne
                | cons _ _ => simp
              have hmin : min 1 body.length = 1 := by omega
              rw [hmin] at r4
              have hI2 := hI.of (q2.trans r2)
              refine v106_20 hp rfl ?_
              rw [hq, if_neg (fun z => absurd ((gle 1000 (by omega) (by omega)).mp z) (by omega)), if_neg (ni_ge0 (by omega)), hI2.2.2.2.2, if_neg (fun z => absurd ((ni_le (by omega) (by omega)).mp z) (by omega)), show (ni (p + 1 + qn)).toNatClampNeg = p + 1 + qn from ni_nat (by omega), hI2.1, a5, if_pos rfl, show (ni (dp + 1)).toNatClampNeg = dp + 1 from ni_nat (by omega), r3 _ (Nat.le_refl _), q4, show ni (n + 1 + 1) - 1 = ni (n + 1) from ni_sub (a := n + 1 + 1) (b := 1) (by omega), if_neg (fun z => absurd ((lle 0 (by omega) (by omega)).mp z) (by omega)), hI2.2.2.1, a6, ni_p1, ni_p1]
              refine ⟨ni_in (by omega) (by omega), ni_in (by omega) (by omega), ni_in (by omega) (by omega), ni_in (by omega) (by omega), ni_in (by omega) (by omega), ?_⟩
              exact ihn _ (t3 + 1) _ hy' (by omega) r1.u7 ((q2.trans r2).trans pF.u7) (fun j hj => by rw [am_u_nq (by omega), r3 j (by omega), q3 j hj]) am_u_same k1 (by omega)
        refine v106_20 hp rfl ?_
        rw [if_neg (fun z => absurd ((gle 1000 (by omega) (by omega)).mp z) (by omega)), if_neg (ni_ge0 (by omega)), hI.2.2.2.2, if_neg (fun z => absurd ((ni_le (by omega) (by omega)).mp z) (by omega)), show (ni p).toNatClampNeg = p from ni_nat (by omega), hI.1, a1, if_neg (by decide), if_neg (fun z => c200 ((leq 200 (by omega) (by omega)).mp z)), if_pos rfl, hI.2.1, a2, hI.2.2.1, a3, ni_p1, ni_p1, ni_p1, ni_p1, ← hb0]
        refine ⟨ni_in (by omega) (by omega), ni_in (by omega) (by omega), ni_in (by omega) (by omega), ?_⟩
        by_cases ct : t = 0
        · rw [if_pos ((leq 0 (by omega) (by omega)).mpr ct)]
          exact SKIP (Or.inl ct)
        · rw [if_neg (fun z => ct ((leq 0 (by omega) (by omega)).mp z))]
          refine ⟨ni_in (by omega) (by omega), ?_⟩
          by_cases cb : qn = 0
          · rw [if_pos (by rw [cb])]
            exact SKIP (Or.inr cb)
          · rw [if_neg (fun z => cb (by have := (ni_inj (by omega) (by omega)).mp z; omega)), if_pos ((llt 6 (by omega) (by omega)).mpr (by omega)), show (ni (dp + 1)).toNatClampNeg = dp + 1 from ni_nat (by omega)]
            refine ⟨ni_in (by omega) (by omega), ni_in (by omega) (by omega), ?_⟩
            obtain ⟨n, rfl⟩ : ∃ n, t = n + 1 := ⟨t - 1, by omega⟩
            exact ITER (fun z => cb (by rw [← hq, z]; rfl)) n x0 (turn + 1) _ rfl t40 hM0.u7 pF.u7 (fun j hj => am_u_nq (by omega)) am_u_same hx0 (by omega)
end PRF
