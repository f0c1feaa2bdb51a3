/-! The class: CE and CT -/
def cO (r : Nat) : Nat := if r = 16 then 47 else 86
theorem cls_obj {Pf : am_R} (hp : am_PF Pf) {r c : Nat} (hr : r = 16 ∨ r = 55) (hc : c < 8) : Pf (r + 1) c = some (cO r + c) ∧ am_SH[cO r + c]? = some (.inl 6) := by
  rcases hr with rfl | rfl
  · have := of_decide_eq_true (List.all_eq_true.mp am_e17 c (List.mem_range.mpr hc))
    rw [Nat.one_mul] at this
    exact ⟨hp _ _ _ this.1, this.2⟩
  · have := of_decide_eq_true (List.all_eq_true.mp am_e56 c (List.mem_range.mpr hc))
    rw [Nat.one_mul] at this
    exact ⟨hp _ _ _ this.1, this.2⟩
theorem rul_sh {r : Nat} (hr : r = 16 ∨ r = 55) : am_SH[r]? = some (.inl 4) := by rcases hr with rfl | rfl <;> rfl
theorem cO_le {r : Nat} (hr : r = 16 ∨ r = 55) : r + 31 = cO r ∧ 16 ≤ r ∧ r ≤ 55 := by rcases hr with rfl | rfl <;> decide
/-- the classes told so far -/
def cCl (r : Nat) (I : am_I) (J : am_J) (cc : Nat) (cls : Nat → Nat → Bool) : Prop := I r 1 = ni cc ∧ cc ≤ 8 ∧ ∀ c, c < cc → (∀ k, k < 95 → sgD J (cO r + c) k = cls c k) ∧ sgT J (cO r + c)
theorem cCl.of {r : Nat} {I I' : am_I} {J J' : am_J} {cc : Nat} {cls : Nat → Nat → Bool} (h : cCl r I J cc cls) (e : I' r 1 = I r 1) (eJ : ∀ o, 16 ≤ o → J' o = J o) (hr : r = 16 ∨ r = 55) : cCl r I' J' cc cls := by
  have hO := cO_le hr
  refine ⟨e.trans h.1, h.2.1, fun c hc => ?_⟩
  obtain ⟨g1, g2⟩ := h.2.2 c hc
  exact ⟨fun k hk => by rw [sgD_o (eJ _ (by omega))]; exact g1 k hk, sgT_o (eJ _ (by omega)) g2⟩
section CRE
variable {Pf : am_R} {n r : Nat}
theorem cSX.fr {I I' : am_I} {J J' : am_J} {s : Nat} {z : (Nat → Bool) × Nat} (h : cSX I I' J J' n s z) : cFr r I I' ∧ cJr r J J' := ⟨h.2.1.fr, fun o e _ => h.2.2.2.2 o (by omega)⟩
theorem cr_set (hp : am_PF Pf) (h30 : Pf 3 0 = some 1) (hr : r = 16 ∨ r = 55) {b : Nat → Int32} {u : Nat → (Nat × Nat) ⊕ ((Nat → Bool) × Nat)} {d o cc s : Nat} (hs8 : s < 7) {cls : Nat → Nat → Bool} {P : am_O → Prop} {a0 : Nat}
    (hu : ∀ (I : am_I) (J : am_J) (a : Nat) (Q : am_O → Prop), a0 ≤ a → I 2 = b → RD I n a → I 1 5 = 0 → I 1 4 = ni o → cCl r I J cc cls → rm2 (u a) (fun z => ∀ I' J', cSX I I' J J' n (s + 1) z → a < z.2 → Q (.inl (some (.int 1)), (am_SH, I', J', Pf), 0, 0)) (fun kd pl => ∀ I' J', cFF r I I' J J' kd pl → pl ≤ 600 → Q (.inl (some (.int 0)), (am_SH, I', J', Pf), 0, 0)) → am_mth (d + 3) 30 [.ref 3, .int (ni (s + 1))] (am_SH, I, J, Pf) Q) :
    ∀ (G : Nat) (I : am_I) (J : am_J) (a x : Nat) (f : Nat → Bool) (l3 : Option Value), n - a < G → a0 ≤ a → x < a → I 2 = b → RD I n a → I 1 5 = 0 → I 1 4 = ni o → cCl r I J cc cls → (∀ k, k < 95 → sgD J (8 + s) k = f k) → sgT J (8 + s) →
    rm2 (mSL b n u G f a) (fun z => ∀ I' J', cSX I I' J J' n s z → a ≤ z.2 → P (.inl (some (.int 1)), (am_SH, I', J', Pf), 0, 0)) (fun kd pl => ∀ I' J', cFF r I I' J J' kd pl → pl ≤ 600 → P (.inl (some (.int 0)), (am_SH, I', J', Pf), 0, 0)) →
    am_go none (d + 3) 29 (12, [some (.ref 3), some (.int (ni s)), some (.int (ni x)), l3], [], (am_SH, I, J, Pf), 0, 0) P := by
  obtain ⟨o1, o2⟩ := set_obj hp (s := s) (by omega)
  obtain ⟨o3, o4⟩ := set_obj hp (s := s + 1) (by omega)
  intro G
  induction G with
  | zero => intro I J a x f l3 hG; omega
  | succ G ih =>
    intro I J a x f l3 hG ha0 hx hb h h5 h4 hC hS hT kk
    have hq := rsk_le (b := I 2) h.2.2.1
    have hn6 := h.2.2.2
    unfold mSL at kk
    rw [← hb] at kk
    generalize hqe : rsk (I 2) n a = q at *
    refine v29_12 hp ?_
    rw [if_neg (fun z => absurd ((gle 600 (by omega) (by omega)).mp z) (by omega))]
    refine ⟨h30, sp_rd_hbb hp h (am_back (v29_26 hp ?_))⟩
    rw [hqe]
    have hR := h.at hq.2
    have f1 : cRd I (am_u I 1 3 (ni q)) := cRd.rfl'.u (by omega)
    have z1 : ∀ c : Int32, c ≠ 0 → c ≠ -1 → ((hv (I 2) n q = c) ↔ hz (I 2) n q = c) := fun c e1 e2 => hv_hz e1 e2
    have on : (hz (I 2) n q = 124 ∨ hz (I 2) n q = 38 ∨ hz (I 2) n q = 45) → am_go none (d + 3) 29 (47, [some (.ref 3), some (.int (ni s)), some (.int (ni x)), some (.int (hv (I 2) n q))], [], (am_SH, am_u I 1 3 (ni q), J, Pf), 0, 0) P := by
      intro hc
      rw [if_pos hc] at kk
      have hlt : q < n := by
        rcases hc with c | c | c <;> exact hz_0 c (by decide)
      have evz : hv (I 2) n q = hz (I 2) n q := (if_pos hlt).trans (if_pos hlt).symm
      refine v29_47 hp ⟨h30, ?_⟩
      rw [am_u_same, am_u_u, ni_1, ni_add, ni_add]
      have f2 : cRd I (am_u I 1 3 (ni (q + 1))) := cRd.rfl'.u (by omega)
      have e2 : (am_u I 1 3 (ni (q + 1))) 2 = I 2 := am_u_o (by omega)
      refine hu _ J (q + 1) _ (by omega) (e2.trans hb) (h.at (by omega)) (by rw [am_u_nq (by omega)]; exact h5) (by rw [am_u_nq (by omega)]; exact h4) (hC.of (am_u_nq (by rcases hr with rfl | rfl <;> omega)) (fun _ _ => rfl) hr) ?_
      rw [hb] at kk ⊢
      cases hm : u (q + 1) with
      | inl e =>
        rw [hm] at kk
        intro I' J' hF hpl
        refine am_back (v29_67 hp ?_)
        rw [if_pos rfl]
        exact kk _ _ (cFF.after f2.fr cJr.rfl' hF) hpl
      | inr z =>
        rw [hm] at kk
        dsimp only [rb] at kk
        intro I' J' hX hlt2
        refine am_back (v29_67 hp ?_)
        rw [if_neg (by decide)]
        obtain ⟨x1, x2, x3, x4, x5⟩ := hX
        have hSs : ∀ k, sgD J' (8 + s) k = sgD J (8 + s) k := fun k => sgD_o (x5 _ (by omega)) k
        have hTs : sgT J' (8 + s) := sgT_o (x5 _ (by omega)) hT
        have fin : ∀ (J2 : am_J) (g : Nat → Bool), sgS J' J2 (8 + s) g → (∀ k, k < 95 → g k = sOp (hz b n q) f z.1 k) → am_go none (d + 3) 29 (12, [some (.ref 3), some (.int (ni s)), some (.int (ni x + 1)), some (.int (hv b n q))], [], (am_SH, I', J2, Pf), 0, 0) P := by
          intro J2 g hJ hg
          rw [ni_1, ni_add]
          have eb : I' 2 = b := by rw [← hb, ← e2]; funext k; exact x2 2 k (by omega)
          have fI := f2.trans x2
          have fJ : ∀ o, (o < 8 + s ∨ 16 ≤ o) → J2 o = J o := fun o ho => (hJ.1 o (by omega)).trans (x5 o (by omega))
          refine ih I' J2 z.2 (x + 1) (sOp (hz b n q) f z.1) _ (by omega) (by omega) (by omega) eb x1 (by rw [fI _ _ (by omega)]; exact h5) (by rw [fI _ _ (by omega)]; exact h4) (hC.of (fI _ _ (by rcases hr with rfl | rfl <;> omega)) (fun o ho => fJ o (Or.inr ho)) hr) (fun k hk => by rw [hJ.2.1 k hk]; exact hg k hk) hJ.2.2 ?_
          revert kk
          cases mSL b n u G (sOp (hz b n q) f z.1) z.2 with
          | inl e => exact fun kk I'' J'' hF hpl => kk I'' J'' (cFF.after fI.fr (fun o e _ => fJ o (by omega)) hF) hpl
          | inr y => exact fun kk I'' J'' hX hle => kk I'' J'' ⟨hX.1, fI.trans hX.2.1, hX.2.2.1, hX.2.2.2.1, fun o ho => (hX.2.2.2.2 o ho).trans (fJ o ho)⟩ (by omega)
        have g1 : am_in (ni s) 8 = true := ni_in (by omega) (by omega)
        have g2 : am_in (ni s + 1) 8 = true := by rw [ni_1, ni_add]; exact ni_in (by omega) (by omega)
        have p1 : Pf 4 (ni s).toNatClampNeg = some (8 + s) := by rw [ni_nat (by omega)]; exact o1
        have p2 : Pf 4 (ni s + 1).toNatClampNeg = some (8 + (s + 1)) := by rw [ni_1, ni_add, ni_nat (by omega)]; exact o3
        rw [hb] at evz
        rw [evz]
        by_cases d1 : hz b n q = 124
        · rw [if_pos d1]
          refine ⟨g1, _, p1, o2, g2, _, p2, o4, sg_join hp o2 o4 hTs x4 (fun J2 hJ => am_back (v29_95 hp ?_))⟩
          rw [← evz]
          refine fin J2 _ hJ (fun k hk => ?_)
          rw [hSs, hS k hk, x3 k hk]
          unfold sOp
          rw [if_pos d1]
        · by_cases d2 : hz b n q = 38
          · rw [if_neg d1, if_pos d2]
            refine ⟨g1, _, p1, o2, g2, _, p2, o4, sg_meet hp o2 o4 hTs (fun J2 hJ => am_back (v29_121 hp ?_))⟩
            rw [← evz]
            refine fin J2 _ hJ (fun k hk => ?_)
            rw [hSs, hS k hk, x3 k hk]
            unfold sOp
            rw [if_neg d1, if_pos d2]
          · rw [if_neg d1, if_neg d2]
            refine ⟨g1, _, p1, o2, g2, _, p2, o4, sg_less hp o2 o4 hTs (fun J2 hJ => am_back (v29_141 hp ?_))⟩
            rw [← evz]
            refine fin J2 _ hJ (fun k hk => ?_)
            rw [hSs, hS k hk, x3 k hk]
            unfold sOp
            rw [if_neg d1, if_neg d2]
    by_cases c1 : hv (I 2) n q = 124
    · rw [if_pos c1]
      exact on (Or.inl ((z1 _ (by decide) (by decide)).mp c1))
    · rw [if_neg c1]
      by_cases c2 : hv (I 2) n q = 38
      · rw [if_pos c2]
        exact on (Or.inr (Or.inl ((z1 _ (by decide) (by decide)).mp c2)))
      · rw [if_neg c2]
        by_cases c3 : hv (I 2) n q = 45
        · rw [if_pos c3]
          exact on (Or.inr (Or.inr ((z1 _ (by decide) (by decide)).mp c3)))
        · rw [if_neg c3]
          rw [if_neg (by
            rintro (z | z | z)
            · exact c1 ((z1 _ (by decide) (by decide)).mpr z)
            · exact c2 ((z1 _ (by decide) (by decide)).mpr z)
            · exact c3 ((z1 _ (by decide) (by decide)).mpr z))] at kk
          exact kk _ _ ⟨hR, f1, hS, hT, fun _ _ => rfl⟩ hq.1
theorem sc_set (hp : am_PF Pf) (h30 : Pf 3 0 = some 1) (h31 : Pf 3 1 = some r) (hr : r = 16 ∨ r = 55) {b : Nat → Int32} {cc : Nat} {cls : Nat → Nat → Bool} : ∀ (F : Nat) (mode : Bool) (o a d s : Nat) (I : am_I) (J : am_J) (P : am_O → Prop), 2 * (n - a) + (if mode = true then 1 else 2) ≤ F → I 2 = b → RD I n a → I 1 5 = 0 → I 1 4 = ni o → o ≤ 6 → s ≤ o + (if mode = true then 1 else 0) → cCl r I J cc cls → 8 + 3 * (6 - o) + (if mode = true then 0 else 1) ≤ d →
    rm2 (mS b n cc cls F o mode a) (fun z => ∀ I' J', cSX I I' J J' n s z → a < z.2 → P (.inl (some (.int 1)), (am_SH, I', J', Pf), 0, 0)) (fun kd pl => ∀ I' J', cFF r I I' J J' kd pl → pl ≤ 600 → P (.inl (some (.int 0)), (am_SH, I', J', Pf), 0, 0)) →
    am_mth d (if mode = true then 30 else 29) [.ref 3, .int (ni s)] (am_SH, I, J, Pf) P := by
  have r1 : r ≠ 1 := by rcases hr with rfl | rfl <;> decide
  have r2 : r ≠ 2 := by rcases hr with rfl | rfl <;> decide
  intro F
  induction F with
  | zero =>
    intro mode o a d s I J P hF
    cases mode <;> simp at hF
  | succ F ih =>
    intro mode o a d s I J P hF hb h h5 h4 ho hso hC hd kk
    obtain ⟨d, rfl⟩ : ∃ e, d = e + 8 := ⟨d - 8, by omega⟩
    cases mode with
    | false =>
      simp only [Bool.false_eq_true, if_false] at hF hd hso
      unfold mS at kk
      show am_mth (d + 8) 29 _ _ _
      have un := fun (I : am_I) (J : am_J) (a s : Nat) (Q : am_O → Prop) (ha : 2 * (n - a) + 1 ≤ F) gb hR g5 g4 (gs : s ≤ o + 1) gC => ih true o a (d + 7) s I J Q ha gb hR g5 g4 ho (by simp only [if_true]; omega) gC (by simp only [if_true]; omega)
      refine am_mth_of rfl rfl (v29_0 hp (un I J a s _ (by omega) hb h h5 h4 (by omega) hC ?_))
      cases hm : mS b n cc cls F o true a with
      | inl e =>
        rw [hm] at kk
        intro I' J' hF' hpl
        refine am_back (v29_5 hp ?_)
        rw [if_pos rfl]
        exact kk I' J' hF' hpl
      | inr z =>
        rw [hm] at kk
        dsimp only [rb] at kk
        intro I' J' hX hlt
        refine am_back (v29_5 hp ?_)
        rw [if_neg (by decide)]
        have hn := hX.1.2.2.1
        have hf := hX.2.1
        have eb : I' 2 = b := by rw [← hb]; funext k; exact hf 2 k (by omega)
        refine cr_set (d := d + 4) (a0 := a) hp h30 hr (u := mS b n cc cls F o true) (o := o) (cc := cc) (cls := cls) (by omega) ?_ (n - z.2 + 1) I' J' z.2 0 z.1 _ (by omega) (by omega) (by omega) eb hX.1 (by rw [hf _ _ (by omega)]; exact h5) (by rw [hf _ _ (by omega)]; exact h4) (hC.of (hf _ _ (by omega)) (fun o ho => hX.2.2.2.2 o (Or.inr ho)) hr) hX.2.2.1 hX.2.2.2.1 ?_
        · intro I1 J1 a1 Q g0 gb g1 g2 g3 g4
          exact un I1 J1 a1 (s + 1) Q (by omega) gb g1 g2 g3 (by omega) g4
        · revert kk
          cases mSL b n (mS b n cc cls F o true) (n - z.2 + 1) z.1 z.2 with
          | inl e => exact fun kk I'' J'' hF hpl => kk I'' J'' (cFF.after hX.fr.1 hX.fr.2 hF) hpl
          | inr y => exact fun kk I'' J'' hY hle => kk I'' J'' ⟨hY.1, hf.trans hY.2.1, hY.2.2.1, hY.2.2.2.1, fun o ho => (hY.2.2.2.2 o ho).trans (hX.2.2.2.2 o ho)⟩ (by omega)
    | true =>
      simp only [if_true] at hF hd hso
      obtain ⟨o1, o2⟩ := set_obj hp (s := s) (by omega)
      unfold mS at kk
      show am_mth (d + 8) 30 _ _ _
      have hq := rsk_le (b := I 2) h.2.2.1
      have hn6 := h.2.2.2
      have hqq := rsk_rsk (b := I 2) h.2.2.1
      rw [← hb] at kk
      generalize hqe : rsk (I 2) n a = q at *
      have hR := h.at hq.2
      have f1 : cRd I (am_u I 1 3 (ni q)) := cRd.rfl'.u (by omega)
      have e2 : (am_u I 1 3 (ni q)) 2 = I 2 := am_u_o (by omega)
      have m5 : am_u I 1 3 (ni q) 1 5 = 0 := by rw [am_u_nq (by omega)]; exact h5
      have m4 : am_u I 1 3 (ni q) 1 4 = ni o := by rw [am_u_nq (by omega)]; exact h4
      have hC1 : cCl r (am_u I 1 3 (ni q)) J cc cls := hC.of (am_u_nq (by omega)) (fun _ _ => rfl) hr
      refine am_mth_of rfl rfl (v30_0 hp ⟨h30, sp_rd_hbb hp h (am_back (v30_7 hp ?_))⟩)
      rw [hqe, if_neg (ni_nonneg (by omega)), ni_1, ni_add, if_pos ((lle 8 (by omega) (by omega)).mpr (by omega))]
      have z1 : ∀ c : Int32, c ≠ 0 → c ≠ -1 → ((hv (I 2) n q = c) ↔ hz (I 2) n q = c) := fun c e1 e2 => hv_hz e1 e2
      have six : (ni o + 1 ≤ 6) ↔ o < 6 := by rw [ni_1, ni_add]; exact (lle 6 (by omega) (by omega)).trans (by omega)
      -- what is opened
      have opn : ∀ x : Int32, (x = 126 ∨ x = 40) → hz (I 2) n q = x → hv (I 2) n q = x →
          (if o = 6 then (fun kd pl => ∀ I' J', cFF r I I' J J' kd pl → pl ≤ 600 → P (.inl (some (.int 0)), (am_SH, I', J', Pf), 0, 0)) 3 q else rm2 (if x = 126 then rb (mS b n cc cls F (o + 1) true (q + 1)) (fun z => .inr (fun k => !z.1 k, z.2)) else rb (mS b n cc cls F (o + 1) false (q + 1)) (fun z => rb (mTake b n 41 z.2) (fun e => .inr (z.1, e)))) (fun z => ∀ I' J', cSX I I' J J' n s z → a < z.2 → P (.inl (some (.int 1)), (am_SH, I', J', Pf), 0, 0)) (fun kd pl => ∀ I' J', cFF r I I' J J' kd pl → pl ≤ 600 → P (.inl (some (.int 0)), (am_SH, I', J', Pf), 0, 0))) →
          ∀ Q : am_O → Prop, (∀ (I' : am_I) (J' : am_J), (P (.inl (some (.int 1)), (am_SH, I', J', Pf), 0, 0) → Q (.inl (some (.int 1)), (am_SH, I', J', Pf), 0, 0)) ∧ (P (.inl (some (.int 0)), (am_SH, I', J', Pf), 0, 0) → Q (.inl (some (.int 0)), (am_SH, I', J', Pf), 0, 0))) → am_mth (d + 7) 31 [.ref 3, .int x, .int (ni s)] (am_SH, am_u I 1 3 (ni q), J, Pf) Q := by
        intro x hx hzx hvx kk Q hQ
        have hlt : q < n := hz_0 hzx (by rcases hx with rfl | rfl <;> decide)
        refine am_mth_of rfl rfl (v31_0 hp ⟨h30, ?_⟩)
        rw [m4]
        by_cases c6 : o = 6
        · rw [if_pos c6] at kk
          rw [if_neg (fun z => absurd (six.mp z) (by omega)), if_pos m5]
          refine (hQ _ _).2 (kk _ _ ?_ (by omega))
          rw [am_u_same]
          refine ⟨by rw [am_u_nq (by omega), am_u_same]; rfl, am_u_same, fun o' k e1 e2 e3 e4 => ?_, cJr.rfl'⟩
          rw [am_u_nq (by omega), am_u_nq (by omega), am_u_nq (by omega), am_u_nq (by omega)]
        · rw [if_neg c6] at kk
          rw [if_pos (six.mpr (by omega))]
          rw [am_u_same, ni_1, ni_add, ni_add]
          -- the state within
          have gI2 : ∀ o' k, ¬ (o' = 1 ∧ (k = 3 ∨ k = 4)) → am_u (am_u (am_u I 1 3 (ni q)) 1 4 (ni (o + 1))) 1 3 (ni (q + 1)) o' k = I o' k := fun o' k e => by rw [am_u_nq (by omega), am_u_nq (by omega), am_u_nq (by omega)]
          have gR : RD (am_u (am_u (am_u I 1 3 (ni q)) 1 4 (ni (o + 1))) 1 3 (ni (q + 1))) n (q + 1) := ⟨by rw [gI2 _ _ (by omega)]; exact h.1, am_u_same, by omega, hn6⟩
          have gb : am_u (am_u (am_u I 1 3 (ni q)) 1 4 (ni (o + 1))) 1 3 (ni (q + 1)) 2 = b := by rw [← hb]; funext k; exact gI2 2 k (by omega)
          have g5 : am_u (am_u (am_u I 1 3 (ni q)) 1 4 (ni (o + 1))) 1 3 (ni (q + 1)) 1 5 = 0 := by rw [gI2 _ _ (by omega)]; exact h5
          have g4 : am_u (am_u (am_u I 1 3 (ni q)) 1 4 (ni (o + 1))) 1 3 (ni (q + 1)) 1 4 = ni (o + 1) := by rw [am_u_nq (by omega), am_u_same]
          have gC : cCl r (am_u (am_u (am_u I 1 3 (ni q)) 1 4 (ni (o + 1))) 1 3 (ni (q + 1))) J cc cls := hC.of (gI2 _ _ (by omega)) (fun _ _ => rfl) hr
          have gfr : cFr r I (am_u (am_u (am_u I 1 3 (ni q)) 1 4 (ni (o + 1))) 1 3 (ni (q + 1))) := fun o' k e1 _ _ _ => gI2 o' k (by omega)
          generalize am_u (am_u (am_u I 1 3 (ni q)) 1 4 (ni (o + 1))) 1 3 (ni (q + 1)) = I2 at *
          -- the end
          have done : ∀ (I3 : am_I) (J3 : am_J) (z : (Nat → Bool) × Nat), cSX I2 I3 J J3 n s z → a < z.2 → (∀ I' J', cSX I I' J J' n s z → a < z.2 → P (.inl (some (.int 1)), (am_SH, I', J', Pf), 0, 0)) → P (.inl (some (.int 1)), (am_SH, am_u I3 1 4 (I3 1 4 - 1), J3, Pf), 0, 0) := by
            intro I3 J3 z hX hlt kk
            refine kk _ _ ⟨hX.1.oth (by omega) (by omega), fun o' k e => ?_, hX.2.2⟩ hlt
            by_cases e4 : o' = 1 ∧ k = 4
            · obtain ⟨rfl, rfl⟩ := e4
              rw [am_u_same, hX.2.1 _ _ (by omega), g4, h4, show ni (o + 1) - 1 = ni (o + 1 - 1) from ni_sub (b := 1) (by omega)]
              rfl
            · rw [am_u_nq (by omega), hX.2.1 _ _ e, gI2 _ _ (by omega)]
          rcases hx with rfl | rfl
          · rw [if_pos rfl] at kk ⊢
            refine ih true (o + 1) (q + 1) (d + 6) s I2 J _ (by simp only [if_true]; omega) gb gR g5 g4 (by omega) (by simp only [if_true]; omega) gC (by simp only [if_true]; omega) ?_
            cases hm : mS b n cc cls F (o + 1) true (q + 1) with
            | inl e =>
              rw [hm] at kk
              intro I' J' hF' hpl
              refine am_back (v31_43 hp ?_)
              rw [if_pos rfl]
              exact (hQ _ _).2 (kk _ _ (cFF.after gfr cJr.rfl' hF') hpl)
            | inr z =>
              rw [hm] at kk
              intro I' J' hX hlt2
              refine am_back (v31_43 hp ?_)
              rw [if_neg (by decide), if_pos rfl]
              refine ⟨ni_in (by omega) (by omega), 8 + s, by rw [ni_nat (by omega)]; exact o1, o2, sg_turn hp o2 (fun J3 hJ => am_back (v31_93 hp ⟨h30, ?_⟩))⟩
              refine (hQ _ _).1 (done I' J3 (fun k => !z.1 k, z.2) ⟨hX.1, hX.2.1, fun k hk => ?_, hJ.2.2, fun o ho => (hJ.1 o (by omega)).trans (hX.2.2.2.2 o ho)⟩ (by show a < z.2; omega) kk)
              rw [hJ.2.1 k hk]
              dsimp only
              rw [hX.2.2.1 k hk]
          · rw [if_neg (by decide)] at kk ⊢
            refine ih false (o + 1) (q + 1) (d + 6) s I2 J _ (by simp only [Bool.false_eq_true, if_false]; omega) gb gR g5 g4 (by omega) (by simp only [Bool.false_eq_true, if_false]; omega) gC (by simp only [Bool.false_eq_true, if_false]; omega) ?_
            cases hm : mS b n cc cls F (o + 1) false (q + 1) with
            | inl e =>
              rw [hm] at kk
              intro I' J' hF' hpl
              refine am_back (v31_51 hp ?_)
              rw [if_pos rfl]
              exact (hQ _ _).2 (kk _ _ (cFF.after gfr cJr.rfl' hF') hpl)
            | inr z =>
              rw [hm] at kk
              dsimp only [rb] at kk
              intro I' J' hX hlt2
              refine am_back (v31_51 hp ?_)
              rw [if_neg (by decide)]
              have eb' : I' 2 = b := by rw [← gb]; funext k; exact hX.2.1 2 k (by omega)
              refine ⟨h30, sc_take (r := r) (d := d + 4) hp (by decide) (by decide) hX.1 (by rw [hX.2.1 _ _ (by omega)]; exact g5) ?_⟩
              rw [eb']
              cases hm2 : mTake b n 41 z.2 with
              | inl e =>
                rw [hm2] at kk
                intro I'' hF' hpl
                refine am_back (v31_63 hp ?_)
                rw [if_pos rfl]
                exact (hQ _ _).2 (kk _ _ (cFF.after (gfr.trans hX.fr.1) hX.fr.2 hF') hpl)
              | inr e =>
                rw [hm2] at kk
                have hlt3 := mTake_lt hm2
                intro I'' hR9 hf9 _ _
                refine am_back (v31_63 hp ?_)
                rw [if_neg (by decide), if_neg (by decide)]
                refine ⟨h30, (hQ _ _).1 (done I'' J' (z.1, e) ⟨hR9, hX.2.1.trans hf9, hX.2.2⟩ (by dsimp only; omega) kk)⟩
      by_cases c35 : hv (I 2) n q = 35
      · have z35 := (z1 _ (by decide) (by decide)).mp c35
        rw [if_neg (by rw [z35]; decide), if_neg (by rw [z35]; decide), if_pos z35] at kk
        rw [if_pos c35]
        have et : mTake (am_u I 1 3 (ni q) 2) n 35 q = .inr (q + 1) := by unfold mTake; rw [e2, hqq, if_pos z35]
        refine sc_class (r := r) (d := d + 4) hp h30 h31 (rul_sh hr) hC1.2.1 hC1.1 r1 hR m5 ?_
        unfold mCl
        rw [et, e2]
        dsimp only [rb] at kk ⊢
        cases hm : mNum (I 2) n cc (q + 1) with
        | inl e =>
          rw [hm] at kk
          intro I' hF' hpl
          refine am_back (v30_125 hp rfl ?_)
          rw [if_pos rfl]
          exact kk _ _ (cFF.after f1.fr cJr.rfl' hF') hpl
        | inr z =>
          rw [hm] at kk
          have hl := mNum_lt hm
          intro I' hR9 hf9 hlt _
          obtain ⟨k1, k2⟩ := cls_obj hp hr (c := z.1) (by have := hC.2.1; omega)
          obtain ⟨g1, g2⟩ := hC.2.2 z.1 hlt
          have hc8 := hC.2.1
          refine am_back (v30_125 hp rfl ?_)
          rw [if_neg (ni_neg1 (by omega))]
          refine ⟨ni_in (by omega) (by omega), 8 + s, by rw [ni_nat (by omega)]; exact o1, o2, r, h31, rul_sh hr, ni_in (by omega) (by omega), cO r + z.1, by rw [ni_nat (by omega)]; exact k1, k2, sg_copy hp o2 k2 g2 (fun J3 hJ => am_back (v30_151 hp ?_))⟩
          refine kk _ _ ⟨hR9, f1.trans hf9, fun k hk => ?_, hJ.2.2, fun o ho => hJ.1 o (by omega)⟩ (by dsimp only; omega)
          rw [hJ.2.1 k hk, g1 k hk]
      · rw [if_neg c35]
        by_cases c40 : hv (I 2) n q = 40
        · have z40 := (z1 _ (by decide) (by decide)).mp c40
          rw [if_neg (by rw [z40]; decide), if_pos z40] at kk
          rw [if_pos c40, c40]
          refine opn 40 (Or.inr rfl) z40 c40 ?_ _ (fun I' J' => ⟨fun k => am_back (v30_104 hp ⟨Or.inr rfl, k⟩), fun k => am_back (v30_104 hp ⟨Or.inl rfl, k⟩)⟩)
          by_cases c6 : o = 6
          · rw [if_pos c6] at kk ⊢; exact kk
          · rw [if_neg c6] at kk ⊢; rw [if_neg (by decide)]; rw [hb] at kk; exact kk
        · rw [if_neg c40]
          by_cases c91 : hv (I 2) n q = 91
          · have z91 := (z1 _ (by decide) (by decide)).mp c91
            rw [if_neg (by rw [z91]; decide), if_neg (by rw [z91]; decide), if_neg (by rw [z91]; decide), if_pos z91] at kk
            rw [if_pos c91]
            refine ⟨ni_in (by omega) (by omega), 8 + s, by rw [ni_nat (by omega)]; exact o1, o2, sc_rng (r := r) (d := d + 4) hp h30 (by omega) hR m5 (hz_0 z91 (by decide)) ?_⟩
            rw [e2]
            cases hm : mRng (I 2) n (n - q) (q + 1) (fun _ => false) with
            | inl e =>
              rw [hm] at kk
              intro I' J' hF' hpl
              exact am_back (v30_97 hp ⟨Or.inl rfl, kk _ _ (cFF.after f1.fr cJr.rfl' hF') hpl⟩)
            | inr z =>
              rw [hm] at kk
              have hl := mRng_lt _ _ _ _ hm
              intro I' J' hX _
              exact am_back (v30_97 hp ⟨Or.inr rfl, kk _ _ ⟨hX.1, f1.trans hX.2.1, hX.2.2⟩ (by omega)⟩)
          · rw [if_neg c91]
            by_cases c126 : hv (I 2) n q = 126
            · have z126 := (z1 _ (by decide) (by decide)).mp c126
              rw [if_pos z126] at kk
              rw [if_pos c126, c126]
              refine opn 126 (Or.inl rfl) z126 c126 ?_ _ (fun I' J' => ⟨fun k => am_back (v30_104 hp ⟨Or.inr rfl, k⟩), fun k => am_back (v30_104 hp ⟨Or.inl rfl, k⟩)⟩)
              by_cases c6 : o = 6
              · rw [if_pos c6] at kk ⊢; exact kk
              · rw [if_neg c6] at kk ⊢; rw [if_pos rfl]; rw [hb] at kk; exact kk
            · rw [if_neg c126]
              refine ⟨h30, ?_⟩
              rw [if_neg (fun z => c126 ((z1 _ (by decide) (by decide)).mpr z)), if_neg (fun z => c40 ((z1 _ (by decide) (by decide)).mpr z)), if_neg (fun z => c35 ((z1 _ (by decide) (by decide)).mpr z)), if_neg (fun z => c91 ((z1 _ (by decide) (by decide)).mpr z))] at kk
              rw [if_pos m5, am_u_same]
              exact kk _ _ (cFF.set f1.fr cJr.rfl') (by omega)
end CRE
