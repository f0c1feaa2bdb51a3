/-! WORK: the reference does its steps -/
def qM (I : am_I) (x : WX) : Prop := rTx 180 I x.1 ∧ I 163 36 = ni x.2.1 ∧ I 163 37 = ni x.2.2.1 ∧ I 163 38 = ni x.2.2.2
def qF (I I' : am_I) : Prop := ∀ o k, ¬ (o = 163 ∧ (k = 36 ∨ k = 37 ∨ k = 38)) → o ≠ 180 → I' o k = I o k
theorem qF.rfl' {I : am_I} : qF I I := fun _ _ _ _ => rfl
theorem qF.trans {I I' I'' : am_I} (h : qF I I') (g : qF I' I'') : qF I I'' := fun o k e1 e2 => (g o k e1 e2).trans (h o k e1 e2)
theorem qF.row {I I' : am_I} {R : Nat → Int32} (h : qF I I') (e : I 179 = R) : I' 179 = R := by
  rw [← e]; funext k; exact h _ _ (by omega) (by omega)
section PRR
variable {Pf : am_R} {R : Nat → Int32}
/-- one step that is no again -/
theorem sr_one1 (hp : am_PF Pf) {D d u : Nat} {P : am_O → Prop} {J : am_J} {e : SE} {to : Nat} {x : WX} {I : am_I} {l1 l4 l5 : Option Value} (he : seOK e) (hI : I 179 = R) (hla : rLa R d u (sI d e)) (hu : u + 1 ≤ 50) (hto : 12 * (u + 1) ≤ to) (hto2 : to ≤ 600) (hx : wxOK x) (hM : qM I x)
    (fin : x.2.1 = 200 → P (.inl none, (am_SH, I, J, Pf), 0, 0))
    (next : x.2.1 < 200 → ∀ I' l4, qM I' (exO e x) → qF I I' → am_go none (D + 3) 249 (2, [some (.ref 163), l1, some (.int (ni to)), some (.int (ni (12 * (u + 1)))), l4, l5], [], (am_SH, I', J, Pf), 0, 0) P) :
    am_go none (D + 3) 249 (2, [some (.ref 163), l1, some (.int (ni to)), some (.int (ni (12 * u))), l4, l5], [], (am_SH, I, J, Pf), 0, 0) P := by
  obtain ⟨a1, a2, a3, a4⟩ := rLa_I.mp hla
  obtain ⟨x1, x2, x3, x4⟩ := hx
  obtain ⟨⟨g1, g2⟩, g3, g4, g5⟩ := he
  have h24 := hM.1.2.1
  refine v249_2 hp ?_
  rw [if_neg (fun z => absurd ((ni_le (by omega) (by omega)).mp z) (by omega)), hM.2.1]
  by_cases c : x.2.1 = 200
  · rw [c, if_pos (by decide)]
    exact fin c
  · have hlt : x.2.1 < 200 := by omega
    rw [if_neg (fun z => absurd ((gle 200 (by omega) (by omega)).mp z) (by omega)), ni_p1 x.2.1, ni_p1 (12 * u), ni_p2, show ni (12 * u) + 3 = ni (12 * u + 3) from ni_add (12 * u) 3, show ni (12 * u) + 4 = ni (12 * u + 4) from ni_add (12 * u) 4, ni_nat (show 12 * u < 2147483648 by omega), ni_nat (show 12 * u + 1 < 2147483648 by omega), ni_nat (show 12 * u + 2 < 2147483648 by omega), ni_nat (show 12 * u + 3 < 2147483648 by omega), hI, a1, a2, if_neg (fun z => absurd ((leq 3 (by omega) (by omega)).mp z) (by omega))]
    have hTu : rTx 180 (am_u I 163 36 (ni (x.2.1 + 1))) x.1 := ⟨by rw [am_u_nq (by omega)]; exact hM.1.1, h24, fun i hi => by rw [am_u_nq (by omega)]; exact hM.1.2.2 i hi⟩
    have hE : exO e x = ((one1 e x.1).2, x.2.1 + 1, x.2.2.1 + (if (one1 e x.1).1 = true then 1 else 0), x.2.2.2 + (if (one1 e x.1).1 = true then 0 else 1)) := by
      unfold exO
      rw [if_neg c]
    have hfu : ∀ o k, ¬ (o = 163 ∧ k = 36) → (am_u I 163 36 (ni (x.2.1 + 1))) o k = I o k := fun o k e => am_u_nq e
    have h36 : (am_u I 163 36 (ni (x.2.1 + 1))) 163 36 = ni (x.2.1 + 1) := am_u_same
    have hR' : (am_u I 163 36 (ni (x.2.1 + 1))) 179 = R := by rw [← hI]; funext k; exact hfu _ _ (by omega)
    generalize am_u I 163 36 (ni (x.2.1 + 1)) = I0 at hTu hfu h36 hR' ⊢
    -- behind the step
    have nx1 : ∀ I' v, (one1 e x.1).1 = true → rTx 180 I' (one1 e x.1).2 → rTf 180 I0 I' → am_go none (D + 3) 249 (2, [some (.ref 163), l1, some (.int (ni to)), some (.int (ni (12 * u) + 12)), v, l5], [], (am_SH, am_u I' 163 37 (I' 163 37 + 1), J, Pf), 0, 0) P := by
      intro I' v hb q1 q2
      have f7 : I' 163 37 = ni x.2.2.1 := by rw [q2 _ _ (by omega), hfu _ _ (by omega)]; exact hM.2.2.1
      have f8 : I' 163 38 = ni x.2.2.2 := by rw [q2 _ _ (by omega), hfu _ _ (by omega)]; exact hM.2.2.2
      rw [hE, hb] at next
      rw [f7, ni_p1, show ni (12 * u) + 12 = ni (12 * (u + 1)) from ni_add (12 * u) 12]
      refine next hlt _ _ ⟨⟨by rw [am_u_nq (by omega)]; exact q1.1, q1.2.1, fun i hi => by rw [am_u_nq (by omega)]; exact q1.2.2 i hi⟩, ?_, am_u_same, ?_⟩ (fun o k e1 e2 => by rw [am_u_nq (by omega), q2 _ _ e2, hfu _ _ (by omega)])
      · rw [am_u_nq (by omega), q2 _ _ (by omega)]; exact h36
      · rw [am_u_nq (by omega)]; exact f8
    have nx0 : ∀ v, (one1 e x.1).1 = false → (one1 e x.1).2 = x.1 → am_go none (D + 3) 249 (2, [some (.ref 163), l1, some (.int (ni to)), some (.int (ni (12 * u) + 12)), v, l5], [], (am_SH, am_u I0 163 38 (I0 163 38 + 1), J, Pf), 0, 0) P := by
      intro v hb hT
      have f7 : I0 163 37 = ni x.2.2.1 := by rw [hfu _ _ (by omega)]; exact hM.2.2.1
      have f8 : I0 163 38 = ni x.2.2.2 := by rw [hfu _ _ (by omega)]; exact hM.2.2.2
      rw [hE, hb, hT] at next
      rw [f8, ni_p1, show ni (12 * u) + 12 = ni (12 * (u + 1)) from ni_add (12 * u) 12]
      refine next hlt _ _ ⟨⟨by rw [am_u_nq (by omega)]; exact hTu.1, hTu.2.1, fun i hi => by rw [am_u_nq (by omega)]; exact hTu.2.2 i hi⟩, ?_, ?_, am_u_same⟩ (fun o k e1 e2 => by rw [am_u_nq (by omega), hfu _ _ (by omega)])
      · rw [am_u_nq (by omega)]; exact h36
      · rw [am_u_nq (by omega)]; exact f7
    refine ⟨ni_in (by omega) (by omega), ni_in (by omega) (by omega), ?_⟩
    by_cases c1 : e.1 = 1
    · obtain ⟨k1, k2, k3, k4⟩ := g5 c1
      obtain ⟨k5, k6⟩ := a4 c1
      have hone : one1 e x.1 = if e.2.1 ≤ x.1.1 ∧ x.1.1 + e.2.2.1 ≤ 24 then (true, txIns x.1 e.2.1 e.2.2.1 (fun i => e.2.2.2.getD i 0)) else (false, x.1) := by
        unfold one1; rw [if_pos c1]
      rw [k5, show e.1 - 1 = 0 by omega, if_pos (show ni 0 = (0 : Int32) from by decide)]
      refine ⟨ni_in (by omega) (by omega), ni_in (by omega) (by omega), ?_⟩
      refine sr_types (d := D + 2) (La := 25) (y := 179) (Ly := 600) hp rfl (by omega) (by omega) rfl (by omega) (by omega) hTu (by omega) k1 (by omega) (by omega) ?_
      have e0 : txIns x.1 e.2.1 e.2.2.1 (fun i => I0 179 (12 * u + 4 + i)) = txIns x.1 e.2.1 e.2.2.1 (fun i => e.2.2.2.getD i 0) := ins_congr (fun i hi => by
        rw [hR']; exact k6 i hi)
      rw [e0]
      split
      · rename_i c
        rw [if_pos c] at hone
        intro I' q1 q2
        refine am_back (v249_134 hp ?_)
        rw [if_neg (by decide)]
        exact nx1 I' _ (by rw [hone]) (by rw [hone]; exact q1) q2
      · rename_i c
        rw [if_neg c] at hone
        refine am_back (v249_134 hp ?_)
        rw [if_pos rfl]
        exact nx0 _ (by rw [hone]) (by rw [hone])
    · rw [if_neg (fun z => c1 (by have := (leq 0 (by omega) (by omega)).mp z; omega)), a3 c1]
      refine ⟨ni_in (by omega) (by omega), ?_⟩
      by_cases c2 : e.1 = 2
      · have hone : one1 e x.1 = if 1 ≤ e.2.2.1 ∧ e.2.1 + e.2.2.1 ≤ x.1.1 then (true, txCut x.1 e.2.1 e.2.2.1) else (false, x.1) := by
          unfold one1; rw [if_neg c1, if_pos c2]
        rw [c2, if_pos (show ni (2 - 1) = (1 : Int32) from by decide)]
        refine ⟨ni_in (by omega) (by omega), ni_in (by omega) (by omega), ?_⟩
        refine sr_cut (d := D + 2) (La := 25) hp rfl (by omega) (by omega) hTu (by omega) (by omega) ?_
        split
        · rename_i c
          rw [if_pos c] at hone
          intro I' q1 q2
          refine am_back (v249_170 hp ?_)
          rw [if_neg (by decide)]
          exact nx1 I' _ (by rw [hone]) (by rw [hone]; exact q1) q2
        · rename_i c
          rw [if_neg c] at hone
          refine am_back (v249_170 hp ?_)
          rw [if_pos rfl]
          exact nx0 _ (by rw [hone]) (by rw [hone])
      · have hone : one1 e x.1 = if e.2.1 < x.1.1 ∧ e.2.2.1 < x.1.1 ∧ x.1.2 e.2.1 ≠ x.1.2 e.2.2.1 then (true, txSwp x.1 e.2.1 e.2.2.1) else (false, x.1) := by
          unfold one1; rw [if_neg c1, if_neg c2]
        rw [if_neg (fun z => c2 (by have := (leq 1 (by omega) (by omega)).mp z; omega))]
        refine ⟨ni_in (by omega) (by omega), ni_in (by omega) (by omega), ?_⟩
        refine sr_swap (d := D + 2) (La := 25) hp rfl (by omega) (by omega) hTu (by omega) (by omega) ?_
        split
        · rename_i c
          rw [if_pos c] at hone
          intro I' q1 q2
          refine am_back (v249_196 hp ?_)
          rw [if_neg (by decide)]
          exact nx1 I' _ (by rw [hone]) (by rw [hone]; exact q1) q2
        · rename_i c
          rw [if_neg c] at hone
          refine am_back (v249_196 hp ?_)
          rw [if_pos rfl]
          exact nx0 _ (by rw [hone]) (by rw [hone])
def rSG (Pf : am_R) (R : Nat → Int32) (d : Nat) : Prop := ∀ (D : Nat) (P : am_O → Prop) (J : am_J) (L : List (ST d)) (u to : Nat) (x : WX) (I : am_I) (l1 l4 l5 : Option Value), d + 5 ≤ D → (∀ y, y ∈ L → stOK d y) → layL (rLa R d) (rsz d) u L → I 179 = R → u + szL (rsz d) L ≤ 50 → 12 * (u + szL (rsz d) L) ≤ to → to ≤ 600 → wxOK x → qM I x →
  (∀ I', qM I' (exL (exS d) L x) → qF I I' → (exL (exS d) L x).2.1 = 200 → P (.inl none, (am_SH, I', J, Pf), 0, 0)) →
  (∀ I' l4 l5, qM I' (exL (exS d) L x) → qF I I' → am_go none D 249 (2, [some (.ref 163), l1, some (.int (ni to)), some (.int (ni (12 * (u + szL (rsz d) L)))), l4, l5], [], (am_SH, I', J, Pf), 0, 0) P) →
  am_go none D 249 (2, [some (.ref 163), l1, some (.int (ni to)), some (.int (ni (12 * u))), l4, l5], [], (am_SH, I, J, Pf), 0, 0) P
def rMT (Pf : am_R) (R : Nat → Int32) (d : Nat) : Prop := ∀ (D : Nat) (P : am_O → Prop) (J : am_J) (L : List (ST d)) (u : Nat) (x : WX) (I : am_I), d + 6 ≤ D → (∀ y, y ∈ L → stOK d y) → layL (rLa R d) (rsz d) u L → I 179 = R → u + szL (rsz d) L ≤ 50 → wxOK x → qM I x →
  (∀ I', qM I' (exL (exS d) L x) → qF I I' → P (.inl none, (am_SH, I', J, Pf), 0, 0)) →
  am_mth D 249 [.ref 163, .int (ni (12 * u)), .int (ni (12 * (u + szL (rsz d) L)))] (am_SH, I, J, Pf) P
theorem rMT_of (hp : am_PF Pf) {d : Nat} (h : rSG Pf R d) : rMT Pf R d := by
  intro D P J L u x I hD hs hla hI hu hx hM kk
  obtain ⟨D', rfl⟩ : ∃ D', D = D' + 1 := ⟨D - 1, by omega⟩
  refine am_mth_of rfl rfl (v249_0 hp ?_)
  refine h D' P J L u (12 * (u + szL (rsz d) L)) x I _ _ _ (by omega) hs hla hI hu (Nat.le_refl _) (by omega) hx hM (fun I' a b _ => kk I' a b) (fun I' l4 l5 a b => ?_)
  obtain ⟨D2, rfl⟩ : ∃ D2, D' = D2 + 1 := ⟨D' - 1, by omega⟩
  refine v249_2 hp ?_
  rw [if_pos ((ni_le (by omega) (by omega)).mpr (Nat.le_refl _))]
  exact kk I' a b
theorem rSG_all (hp : am_PF Pf) : ∀ d, rSG Pf R d := by
  intro d
  induction d with
  | zero =>
    intro D P J L
    induction L with
    | nil =>
      intro u to x I l1 l4 l5 hD hs hla hI hu hto hto2 hx hM fin next
      exact next I l4 l5 hM qF.rfl'
    | cons s L ihL =>
      intro u to x I l1 l4 l5 hD hs hla hI hu hto hto2 hx hM fin next
      obtain ⟨D', rfl⟩ : ∃ D', D = D' + 3 := ⟨D - 3, by omega⟩
      obtain ⟨q1, q2⟩ := hla
      have e1 : szL (rsz 0) (s :: L) = 1 + szL (rsz 0) L := rfl
      have s1 : seOK s := hs s (List.mem_cons_self ..)
      refine sr_one1 (d := 0) hp s1 hI q1 (by omega) (by omega) hto2 hx hM (fun h200 => ?_) (fun hlt I' l4 r1 r2 => ?_)
      · have := exL_200 (f := exS 0) (exS_200 0) (s :: L) x h200
        exact fin I (by rw [this]; exact hM) qF.rfl' (by rw [this]; exact h200)
      · refine ihL (u + 1) to (exO s x) I' l1 l4 l5 hD (fun y hy => hs y (List.mem_cons_of_mem _ hy)) q2 (r2.row hI) (by omega) (by omega) hto2 (exO_ok s1 hx).1 r1 (fun I2 t1 t2 t3 => fin I2 t1 (r2.trans t2) t3) (fun I2 l4 l5 t1 t2 => ?_)
        have := next I2 l4 l5 t1 (r2.trans t2)
        rw [show u + szL (rsz 0) (s :: L) = u + 1 + szL (rsz 0) L by omega] at this
        exact this
  | succ d ihd =>
    intro D P J L
    induction L with
    | nil =>
      intro u to x I l1 l4 l5 hD hs hla hI hu hto hto2 hx hM fin next
      exact next I l4 l5 hM qF.rfl'
    | cons s L ihL =>
      intro u to x I l1 l4 l5 hD hs hla hI hu hto hto2 hx hM fin next
      obtain ⟨D', rfl⟩ : ∃ D', D = D' + 3 := ⟨D - 3, by omega⟩
      obtain ⟨q1, q2⟩ := hla
      have e1 : szL (rsz (d + 1)) (s :: L) = rsz (d + 1) s + szL (rsz (d + 1)) L := rfl
      have e0 : exL (exS (d + 1)) (s :: L) x = exL (exS (d + 1)) L (exS (d + 1) s x) := rfl
      have s1 := hs s (List.mem_cons_self ..)
      have x2 := hx.2.1
      rcases ST_cs s with ⟨e, rfl⟩ | ⟨t, body, rfl⟩
      · rw [rsz_I] at e1 q2
        rw [exS_I] at e0
        have s1 := stOK_I.mp s1
        refine sr_one1 (d := d + 1) hp s1 hI q1 (by omega) (by omega) hto2 hx hM (fun h200 => ?_) (fun hlt I' l4 r1 r2 => ?_)
        · have := exL_200 (f := exS (d + 1)) (exS_200 (d + 1)) (sI (d + 1) e :: L) x h200
          exact fin I (by rw [this]; exact hM) qF.rfl' (by rw [this]; exact h200)
        · refine ihL (u + 1) to (exO e x) I' l1 l4 l5 hD (fun y hy => hs y (List.mem_cons_of_mem _ hy)) q2 (r2.row hI) (by omega) (by omega) hto2 (exO_ok s1 hx).1 r1 (fun I2 t1 t2 t3 => fin I2 (by rw [e0]; exact t1) (r2.trans t2) (by rw [e0]; exact t3)) (fun I2 l4 l5 t1 t2 => ?_)
          have := next I2 l4 l5 (by rw [e0]; exact t1) (r2.trans t2)
          rw [show u + szL (rsz (d + 1)) (sI (d + 1) e :: L) = u + 1 + szL (rsz (d + 1)) L by omega] at this
          exact this
      · rw [rsz_A] at e1 q2
        rw [exS_A] at e0
        obtain ⟨t40, sb⟩ := stOK_A.mp s1
        obtain ⟨a1, a2, a3, a4⟩ := rLa_A.mp q1
        refine v249_2 hp ?_
        rw [if_neg (fun z => absurd ((ni_le (by omega) (by omega)).mp z) (by omega)), hM.2.1]
        by_cases c200 : x.2.1 = 200
        · have := exL_200 (f := exS (d + 1)) (exS_200 (d + 1)) (sA d t body :: L) x c200
          rw [c200, if_pos (by decide)]
          exact fin I (by rw [this]; exact hM) qF.rfl' (by rw [this]; exact c200)
        rw [if_neg c200] at e0
        have hx0 : wxOK (x.1, x.2.1 + 1, x.2.2) := by
          obtain ⟨h1, h2, h3, h4⟩ := hx
          exact ⟨h1, by show x.2.1 + 1 ≤ 200; omega, by show x.2.2.1 ≤ x.2.1 + 1; omega, by show x.2.2.2 ≤ x.2.1 + 1; omega⟩
        have hfok : ∀ x, wxOK x → wxOK (exL (exS d) body x) ∧ x.2.1 ≤ (exL (exS d) body x).2.1 := fun x hx => exL_ok body x (fun y x hy hx => exS_ok d y x (sb y hy) hx) hx
        have hf200 : ∀ x : WX, x.2.1 = 200 → exL (exS d) body x = x := exL_200 (exS_200 d) body
        rw [if_neg (fun z => absurd ((gle 200 (by omega) (by omega)).mp z) (by omega)), ni_p1 x.2.1, ni_p2, ni_nat (show 12 * u < 2147483648 by omega), ni_nat (show 12 * u + 2 < 2147483648 by omega), hI, a1, a3, if_pos rfl]
        refine ⟨ni_in (by omega) (by omega), ni_in (by omega) (by omega), ?_⟩
        have hM0 : qM (am_u I 163 36 (ni (x.2.1 + 1))) (x.1, x.2.1 + 1, x.2.2) := ⟨⟨by rw [am_u_nq (by omega)]; exact hM.1.1, hM.1.2.1, fun i hi => by rw [am_u_nq (by omega)]; exact hM.1.2.2 i hi⟩, am_u_same, by rw [am_u_nq (by omega)]; exact hM.2.2.1, by rw [am_u_nq (by omega)]; exact hM.2.2.2⟩
        have hF0 : qF I (am_u I 163 36 (ni (x.2.1 + 1))) := fun o k e1 e2 => am_u_nq (by omega)
        generalize hqn : szL (rsz d) body = qn at e1 q2 a3 ihL
        -- behind the turns
        have BEH : ∀ (I' : am_I) (y : WX) (l5 : Option Value), y = itr (exL (exS d) body) t (x.1, x.2.1 + 1, x.2.2) → qM I' y → qF I I' → wxOK y → am_go none (D' + 3) 249 (2, [some (.ref 163), l1, some (.int (ni to)), some (.int (ni (12 * (u + 1 + qn)))), some (.int (ni (12 * (u + 1 + qn)))), l5], [], (am_SH, I', J, Pf), 0, 0) P := by
          intro I' y l5 hy t1 t2 t3
          rw [← hy] at e0
          rw [show u + 1 + qn = u + (qn + 1) by omega]
          refine ihL (u + (qn + 1)) to y I' l1 _ l5 hD (fun y hy => hs y (List.mem_cons_of_mem _ hy)) q2 (t2.row hI) (by omega) (by omega) hto2 t3 t1 (fun I2 r1 r2 r3 => fin I2 (by rw [e0]; exact r1) (t2.trans r2) (by rw [e0]; exact r3)) (fun I2 l4 l5 r1 r2 => ?_)
          have := next I2 l4 l5 (by rw [e0]; exact r1) (t2.trans r2)
          rw [show u + szL (rsz (d + 1)) (sA d t body :: L) = u + (qn + 1) + szL (rsz (d + 1)) L by omega] at this
          exact this
        have ITER : ∀ (m n : Nat) (y : WX) (I' : am_I), n + m = t → itr (exL (exS d) body) m y = itr (exL (exS d) body) t (x.1, x.2.1 + 1, x.2.2) → qM I' y → qF I I' → wxOK y → am_go none (D' + 3) 249 (50, [some (.ref 163), l1, some (.int (ni to)), some (.int (ni (12 * u))), some (.int (ni (12 * (u + 1 + qn)))), some (.int (ni n))], [], (am_SH, I', J, Pf), 0, 0) P := by
          intro m
          induction m with
          | zero =>
            intro n y I' hn hy t1 t2 t3
            refine v249_50 hp ?_
            rw [ni_p1 (12 * u), ni_nat (show 12 * u + 1 < 2147483648 by omega), t2.row hI, a2, if_pos ((ni_le (by omega) (by omega)).mpr (by omega))]
            exact ⟨ni_in (by omega) (by omega), BEH I' y _ hy t1 t2 t3⟩
          | succ m ihm =>
            intro n y I' hn hy t1 t2 t3
            have hy' : itr (exL (exS d) body) m (exL (exS d) body y) = itr (exL (exS d) body) t (x.1, x.2.1 + 1, x.2.2) := hy
            have y200 := t3.2.1
            refine v249_50 hp ?_
            rw [ni_p1 (12 * u), ni_nat (show 12 * u + 1 < 2147483648 by omega), t2.row hI, a2, if_neg (fun z => absurd ((ni_le (by omega) (by omega)).mp z) (by omega)), t1.2.1]
            refine ⟨ni_in (by omega) (by omega), ?_⟩
            by_cases c2 : y.2.1 = 200
            · rw [if_pos ((gle 200 (by omega) (by omega)).mpr (by omega))]
              refine BEH I' y _ ?_ t1 t2 t3
              rw [← hy]
              exact (itr_200 hf200 (m + 1) y c2).symm
            · rw [if_neg (fun z => absurd ((gle 200 (by omega) (by omega)).mp z) (by omega)), show ni (12 * u) + 12 = ni (12 * (u + 1)) from ni_add (12 * u) 12]
              have := rMT_of hp ihd (D' + 3) (am_af none (D' + 3) 249 80 [some (.ref 163), l1, some (.int (ni to)), some (.int (ni (12 * u))), some (.int (ni (12 * (u + 1 + qn)))), some (.int (ni n))] [.int (ni (12 * (u + 1 + qn))), .int (ni (12 * (u + 1))), .ref 163] [] (am_SH, I', J, Pf) 0 0 true P) J body (u + 1) y I' (by omega) sb a4 (t2.row hI) (by omega) t3 t1
              rw [hqn] at this
              refine this (fun I2 r1 r2 => am_back (v249_83 hp ?_))
              rw [ni_p1]
              exact ihm (n + 1) _ I2 (by omega) hy' r1 (t2.trans r2) (hfok y t3).1
        exact ITER t 0 _ _ (by omega) rfl hM0 hF0 hx0
end PRR
