/-! The class: what is named; the rest of the sorts -/
def nmQ (w : Nat → Int32) (c x : Nat) : Bool := decide (w (972 + 5 * (x / 3) + 2 + x % 3) = ni (c + 32))
def nmE (w : Nat → Int32) (c e i : Nat) : Bool := decide (w (e + 3 + i) = ni (c + 32))
def nmP (w : Nat → Int32) (c p k : Nat) : Bool := decide (w (eP p k) = 2) && anyB (wN w (eP p k + 2)) (nmE w c (eP p k))
/-- the signs that are named -/
def nmS (w : Nat → Int32) (c : Nat) : Bool := anyB (3 * wN w 2) (nmQ w c) || anyB (wN w 1) (fun p => anyB (wN w (32 + 3 * p + 2)) (nmP w c p))
/-- a set alone has changed -/
def sgX (J J' : am_J) (s : Nat) (f : Nat → Bool) : Prop := (∀ k, k < 95 → sgD J' s k = f k) ∧ sgT J' s ∧ ∀ o, o ≠ s → J' o = J o
def clsR (r : Nat) (I : am_I) (w : Nat → Int32) : Prop := ∀ c, c < 95 → ∀ t, t < 32 → bI (I (r + 22) (c + 32)) t = (decide (t < wN w 0) && wCls w t c)
section NR
variable {d0 : Nat} {P : am_O → Prop} {I : am_I} {Pf : am_R} {w : Nat → Int32} {r : Nat}
theorem cGc.o {J J' : am_J} {c : Nat} (h : cGc r J w c) (this : J' (cO r + c) = J (cO r + c)) : cGc r J' w c := ⟨fun k hk => by rw [sgD_o this]; exact h.1 k hk, sgT_o this h.2⟩
theorem srt_sh2 {r : Nat} (hr : r = 16 ∨ r = 55) : am_SH[r + 21]? = some (.inl 6) ∧ am_SH[r + 22]? = some (.inr (0, 127)) := by rcases hr with rfl | rfl <;> exact ⟨rfl, rfl⟩
theorem sc_named (hp : am_PF Pf) (hr : r = 16 ∨ r = 55) (hG : WG w) {J : am_J} (hw : cG r I J w)
    (kk : ∀ J', sgX J J' (r + 21) (nmS w) → P (.inl none, (am_SH, I, J', Pf), 0, 0)) : am_mth (d0 + 3) 97 [.ref (r + 15), .ref r] (am_SH, I, J, Pf) P := by
  obtain ⟨⟨w0, w0'⟩, ⟨w1, w1'⟩, ⟨w2, w2'⟩, -, -, wk⟩ := id hG.1
  have s15 := (srt_sh hr).1
  have s21 := (srt_sh2 hr).1
  have hrs := rul_sh hr
  obtain ⟨⟨c0, c1, c2, c3, c4, c5⟩, hC, hP, hQ, -, -⟩ := id hw
  -- a word's signs
  have LI : ∀ (m : Nat) (J1 : am_J) (p k i : Nat) (f : Nat → Bool), wN w (eP p k + 2) - i = m → i ≤ wN w (eP p k + 2) → w (eP p k) = 2 → k < wN w (32 + 3 * p + 2) → p < wN w 1 → sgX J J1 (r + 21) (fun c => f c || anyB i (nmE w c (eP p k))) → (∀ (J' : am_J) (l4 : Option Value), sgX J J' (r + 21) (fun c => f c || anyB (wN w (eP p k + 2)) (nmE w c (eP p k))) → am_go none (d0 + 2) 97 (52, [some (.ref (r + 15)), some (.ref r), some (.int (ni p)), some (.int (ni (4 * p + (k + 1)))), l4], [], (am_SH, I, J', Pf), 0, 0) P) → am_go none (d0 + 2) 97 (82, [some (.ref (r + 15)), some (.ref r), some (.int (ni p)), some (.int (ni (4 * p + k))), some (.int (ni i))], [], (am_SH, I, J1, Pf), 0, 0) P := by
    intro m
    induction m with
    | zero =>
      intro J1 p k i f hm hi h2 hk hpp hX kk
      have : i = wN w (eP p k + 2) := by omega
      subst this
      obtain ⟨g1, g2, g3, g4, g5, g6⟩ := hG.pr (p := p) hpp
      obtain ⟨e1, e2, e3⟩ := (hP p hpp).2.2.2 k hk
      obtain ⟨y1, y2⟩ := e3 h2
      rcases g6 k hk with ⟨t1, -⟩ | ⟨t1, -⟩ | ⟨-, mm, t2, t3, t4, t5⟩
      · rw [h2] at t1; cases t1
      · rw [h2] at t1; cases t1
      have emm : w (eP p k + 2) = ni (wN w (eP p k + 2)) ∧ wN w (eP p k + 2) ≤ 8 := by unfold wN; rw [t4, ni_nat (by omega)]; exact ⟨rfl, t3⟩
      refine v97_82 hp s15 hrs ?_
      rw [show (ni (4 * p + k)).toNatClampNeg = 4 * p + k from ni_nat (by omega), y1, emm.1, if_pos ((ni_le (by omega) (by omega)).mpr (by omega)), ni_p1]
      exact ⟨ni_in (by omega) (by omega), kk J1 _ hX⟩
    | succ m ih =>
      intro J1 p k i f hm hi h2 hk hpp hX kk
      obtain ⟨g1, g2, g3, g4, g5, g6⟩ := hG.pr (p := p) hpp
      obtain ⟨e1, e2, e3⟩ := (hP p hpp).2.2.2 k hk
      obtain ⟨y1, y2⟩ := e3 h2
      rcases g6 k hk with ⟨t1, -⟩ | ⟨t1, -⟩ | ⟨-, mm, t2, t3, t4, t5⟩
      · rw [h2] at t1; cases t1
      · rw [h2] at t1; cases t1
      have emm : w (eP p k + 2) = ni (wN w (eP p k + 2)) ∧ wN w (eP p k + 2) ≤ 8 ∧ wN w (eP p k + 2) = mm := by unfold wN; rw [t4, ni_nat (by omega)]; exact ⟨rfl, t3, rfl⟩
      obtain ⟨cs, cs1, cs2, cs3⟩ := isSg_ni (t5 i (by omega))
      refine v97_82 hp s15 hrs ?_
      rw [show (ni (4 * p + k)).toNatClampNeg = 4 * p + k from ni_nat (by omega), y1, emm.1, if_neg (fun z => absurd ((ni_le (by omega) (by omega)).mp z) (by omega)), show ni (4 * p + k) * 8 = ni (8 * (4 * p + k)) by rw [Nat.mul_comm 8]; exact ni_mul _ 8, ni_add, show (ni (8 * (4 * p + k) + i)).toNatClampNeg = 8 * (4 * p + k) + i from ni_nat (by omega), y2 i (by omega), cs3]
      refine ⟨ni_in (by omega) (by omega), ni_in (by omega) (by omega), sg_add (d := d0 + 1) hp s21 hX.2.1 (by omega) (fun J2 z => am_back (v97_112 hp s15 hrs ?_))⟩
      rw [ni_p1]
      refine ih J2 p k (i + 1) f (by omega) (by omega) h2 hk hpp ⟨fun c hc => ?_, z.2.2, fun o e => (z.1 o e).trans (hX.2.2 o e)⟩ kk
      rw [z.2.1 c hc]
      show (sgD J1 (r + 21) c || decide (c + 32 = cs)) = _
      rw [hX.1 c hc]
      show _ = (f c || (anyB i (nmE w c (eP p k)) || nmE w c (eP p k) i))
      unfold nmE
      rw [cs3, decide_eq_decide.mpr (show (ni cs = ni (c + 32)) ↔ c + 32 = cs from by rw [ni_inj (by omega) (by omega)]; omega), Bool.or_assoc]
  have LE : ∀ (m : Nat) (J1 : am_J) (p k : Nat) (f : Nat → Bool) (l4 : Option Value), wN w (32 + 3 * p + 2) - k = m → k ≤ wN w (32 + 3 * p + 2) → p < wN w 1 → sgX J J1 (r + 21) (fun c => f c || anyB k (nmP w c p)) → (∀ (J' : am_J) (l3 l4 : Option Value), sgX J J' (r + 21) (fun c => f c || anyB (wN w (32 + 3 * p + 2)) (nmP w c p)) → am_go none (d0 + 2) 97 (40, [some (.ref (r + 15)), some (.ref r), some (.int (ni (p + 1))), l3, l4], [], (am_SH, I, J', Pf), 0, 0) P) → am_go none (d0 + 2) 97 (52, [some (.ref (r + 15)), some (.ref r), some (.int (ni p)), some (.int (ni (4 * p + k))), l4], [], (am_SH, I, J1, Pf), 0, 0) P := by
    intro m
    induction m with
    | zero =>
      intro J1 p k f l4 hm hk hpp hX kk
      have : k = wN w (32 + 3 * p + 2) := by omega
      subst this
      obtain ⟨g1, g2, g3, g4, g5, g6⟩ := hG.pr (p := p) hpp
      obtain ⟨q1, q2, q3, q4⟩ := hP p hpp
      refine v97_52 hp s15 hrs ?_
      rw [show (ni p).toNatClampNeg = p from ni_nat (by omega), q3, g4, show ni p * 4 = ni (4 * p) by rw [Nat.mul_comm]; exact ni_mul p 4, ni_add, if_pos ((ni_le (by omega) (by omega)).mpr (by omega)), ni_p1]
      exact ⟨ni_in (by omega) (by omega), kk J1 _ _ hX⟩
    | succ m ih =>
      intro J1 p k f l4 hm hk hpp hX kk
      obtain ⟨g1, g2, g3, g4, g5, g6⟩ := hG.pr (p := p) hpp
      obtain ⟨q1, q2, q3, q4⟩ := hP p hpp
      obtain ⟨e1, e2, e3⟩ := q4 k (by omega)
      refine v97_52 hp s15 hrs ?_
      rw [show (ni p).toNatClampNeg = p from ni_nat (by omega), q3, g4, show ni p * 4 = ni (4 * p) by rw [Nat.mul_comm]; exact ni_mul p 4, ni_add, if_neg (fun z => absurd ((ni_le (by omega) (by omega)).mp z) (by omega)), show (ni (4 * p + k)).toNatClampNeg = 4 * p + k from ni_nat (by omega), e1]
      refine ⟨ni_in (by omega) (by omega), ni_in (by omega) (by omega), ?_⟩
      have e9 : ∀ c, anyB (k + 1) (nmP w c p) = (anyB k (nmP w c p) || nmP w c p k) := fun _ => rfl
      by_cases c : w (eP p k) = 2
      · rw [if_pos c, show (0 : Int32) = ni 0 from rfl]
        refine LI _ J1 p k 0 (fun c => f c || anyB k (nmP w c p)) rfl (Nat.zero_le _) c (by omega) hpp ⟨fun x hx => ?_, hX.2.1, hX.2.2⟩ (fun J2 l4 z => ih J2 p (k + 1) f l4 (by omega) (by omega) hpp ⟨fun x hx => ?_, z.2.1, z.2.2⟩ kk)
        · rw [hX.1 x hx]; exact (Bool.or_false _).symm
        · rw [z.1 x hx]
          dsimp only
          rw [e9, ← Bool.or_assoc]
          congr 1
          unfold nmP
          rw [decide_eq_true c, Bool.true_and]
      · rw [if_neg c, ni_p1]
        refine ih J1 p (k + 1) f l4 (by omega) (by omega) hpp ⟨fun x hx => ?_, hX.2.1, hX.2.2⟩ kk
        rw [hX.1 x hx]
        dsimp only
        rw [e9]
        have : nmP w x p k = false := by unfold nmP; rw [decide_eq_false c, Bool.false_and]
        rw [this, Bool.or_false]
  have LP : ∀ (m : Nat) (J1 : am_J) (p : Nat) (l3 l4 : Option Value), wN w 1 - p = m → p ≤ wN w 1 → sgX J J1 (r + 21) (fun c => anyB (3 * wN w 2) (nmQ w c) || anyB p (fun p => anyB (wN w (32 + 3 * p + 2)) (nmP w c p))) → am_go none (d0 + 2) 97 (40, [some (.ref (r + 15)), some (.ref r), some (.int (ni p)), l3, l4], [], (am_SH, I, J1, Pf), 0, 0) P := by
    intro m
    induction m with
    | zero =>
      intro J1 p l3 l4 hm hpp hX
      have : p = wN w 1 := by omega
      subst this
      refine v97_40 hp s15 hrs ?_
      rw [c1, w1, if_pos ((ni_le (by omega) (by omega)).mpr (by omega))]
      exact kk J1 hX
    | succ m ih =>
      intro J1 p l3 l4 hm hpp hX
      refine v97_40 hp s15 hrs ?_
      rw [c1, w1, if_neg (fun z => absurd ((ni_le (by omega) (by omega)).mp z) (by omega)), show ni p * 4 = ni (4 * p + 0) by rw [Nat.add_zero, Nat.mul_comm 4]; exact ni_mul p 4]
      refine LE _ J1 p 0 (fun c => anyB (3 * wN w 2) (nmQ w c) || anyB p (fun p => anyB (wN w (32 + 3 * p + 2)) (nmP w c p))) _ rfl (Nat.zero_le _) (by omega) ⟨fun x hx => ?_, hX.2.1, hX.2.2⟩ (fun J' l3 l4 z => ih J' (p + 1) l3 l4 (by omega) (by omega) ⟨fun x hx => ?_, z.2.1, z.2.2⟩)
      · rw [hX.1 x hx]; exact (Bool.or_false _).symm
      · rw [z.1 x hx]
        exact Bool.or_assoc _ _ _
  have LQ : ∀ (m : Nat) (J1 : am_J) (x : Nat) (l3 l4 : Option Value), 3 * wN w 2 - x = m → x ≤ 3 * wN w 2 → sgX J J1 (r + 21) (fun c => anyB x (nmQ w c)) → am_go none (d0 + 2) 97 (9, [some (.ref (r + 15)), some (.ref r), some (.int (ni x)), l3, l4], [], (am_SH, I, J1, Pf), 0, 0) P := by
    intro m
    induction m with
    | zero =>
      intro J1 x l3 l4 hm hx hX
      have : x = 3 * wN w 2 := by omega
      subst this
      refine v97_9 hp s15 hrs ?_
      rw [c2, w2, show ni (wN w 2) * 3 = ni (3 * wN w 2) by rw [Nat.mul_comm 3]; exact ni_mul _ 3, if_pos ((ni_le (by omega) (by omega)).mpr (by omega)), show (0 : Int32) = ni 0 from rfl]
      exact LP _ J1 0 _ _ rfl (Nat.zero_le _) ⟨fun y hy => by rw [hX.1 y hy]; exact (Bool.or_false _).symm, hX.2.1, hX.2.2⟩
    | succ m ih =>
      intro J1 x l3 l4 hm hx hX
      obtain ⟨-, -, q3⟩ := hQ (x / 3) (by omega)
      obtain ⟨-, -, -, -, -, -, t6, t7, t8, -⟩ := hG.2.2.1 (x / 3) (by omega)
      have y3 := q3 (x % 3) (by omega)
      rw [show 3 * (x / 3) + x % 3 = x by omega] at y3
      have t9 : isSg (w (972 + 5 * (x / 3) + 2 + x % 3)) = true := by
        have : x % 3 = 0 ∨ x % 3 = 1 ∨ x % 3 = 2 := by omega
        rcases this with e | e | e <;> rw [e]
        · exact t6
        · exact t7
        · exact t8
      obtain ⟨cs, cs1, cs2, cs3⟩ := isSg_ni t9
      refine v97_9 hp s15 hrs ?_
      rw [c2, w2, show ni (wN w 2) * 3 = ni (3 * wN w 2) by rw [Nat.mul_comm 3]; exact ni_mul _ 3, if_neg (fun z => absurd ((ni_le (by omega) (by omega)).mp z) (by omega)), show (ni x).toNatClampNeg = x from ni_nat (by omega), y3, cs3]
      refine ⟨ni_in (by omega) (by omega), sg_add (d := d0 + 1) hp s21 hX.2.1 (by omega) (fun J2 z => am_back (v97_32 hp s15 hrs ?_))⟩
      rw [ni_p1]
      refine ih J2 (x + 1) _ _ (by omega) (by omega) ⟨fun c hc => ?_, z.2.2, fun o e => (z.1 o e).trans (hX.2.2 o e)⟩
      rw [z.2.1 c hc]
      show (sgD J1 (r + 21) c || decide (c + 32 = cs)) = _
      rw [hX.1 c hc]
      show _ = (anyB x (nmQ w c) || nmQ w c x)
      unfold nmQ
      rw [cs3, decide_eq_decide.mpr (show (ni cs = ni (c + 32)) ↔ c + 32 = cs from by rw [ni_inj (by omega) (by omega)]; omega)]
  refine am_mth_of rfl rfl (v97_0 hp s15 hrs ?_)
  refine sg_clear (d := d0 + 1) hp s21 (fun J1 z => am_back (v97_7 hp s15 hrs ?_))
  rw [show (0 : Int32) = ni 0 from rfl]
  exact LQ _ J1 0 _ _ rfl (Nat.zero_le _) ⟨fun c hc => z.2.1 c hc, z.2.2, z.1⟩
theorem sc_classes (hp : am_PF Pf) (hr : r = 16 ∨ r = 55) (hG : WG w) {J : am_J} (hw : cG r I J w) {c : Nat} (h1 : 32 ≤ c) (h2 : c ≤ 126)
    (kk : ∀ v, (∀ t, t < 32 → bI v t = (decide (t < wN w 0) && wCls w t (c - 32))) → P (.inl (some (.int v)), (am_SH, I, J, Pf), 0, 0)) : am_mth (d0 + 2) 69 [.ref r, .int (ni c)] (am_SH, I, J, Pf) P := by
  have hrs := rul_sh hr
  obtain ⟨⟨w0, w0'⟩, -, -, -, -, wk⟩ := id hG.1
  obtain ⟨⟨c0, -, -, -, -, -⟩, hC, -, -, -, -⟩ := id hw
  have LP : ∀ (m k : Nat) (v : Int32), wN w 0 - k = m → k ≤ wN w 0 → (∀ t, t < 32 → bI v t = (decide (t < k) && wCls w t (c - 32))) → am_go none (d0 + 1) 69 (4, [some (.ref r), some (.int (ni c)), some (.int v), some (.int (ni k))], [], (am_SH, I, J, Pf), 0, 0) P := by
    intro m
    induction m with
    | zero =>
      intro k v hm hk hv
      have : k = wN w 0 := by omega
      subst this
      refine v69_4 hp hrs ?_
      rw [c0, w0, if_pos ((ni_le (by omega) (by omega)).mpr (by omega))]
      exact kk v hv
    | succ m ih =>
      intro k v hm hk hv
      obtain ⟨o1, o2⟩ := cls_obj hp hr (c := k) (by omega)
      have hCc := hC k (by omega)
      refine v69_4 hp hrs ?_
      rw [c0, w0, if_neg (fun z => absurd ((ni_le (by omega) (by omega)).mp z) (by omega)), if_neg (fun z => absurd ((gle 8 (by omega) (by omega)).mp z) (by omega)), show (ni k).toNatClampNeg = k from ni_nat (by omega)]
      refine ⟨ni_in (by omega) (by omega), _, o1, o2, sp_sg_has (d := d0) hp o2 (by omega) (am_back (v69_28 hp hrs ?_))⟩
      have eh : sgH (sgD J (cO r + k)) c = wCls w k (c - 32) := by
        unfold sgH
        rw [decide_eq_true ⟨h1, h2⟩, Bool.true_and, hCc.1 _ (by omega)]
      rw [eh, ni_p1]
      have hs : ∀ t, (decide (t < k + 1) && wCls w t (c - 32)) = ((decide (t < k) && wCls w t (c - 32)) || (decide (t = k) && wCls w k (c - 32))) := by
        intro t
        by_cases e : t = k
        · subst e; rw [decide_eq_true (show t < t + 1 by omega), decide_eq_false (show ¬ t < t by omega), decide_eq_true rfl]; simp
        · rw [decide_eq_false e, Bool.false_and, Bool.or_false]
          congr 1
          exact decide_eq_decide.mpr (by omega)
      cases e : wCls w k (c - 32) with
      | false =>
        rw [if_pos (show b2 false = 0 from rfl)]
        refine ih (k + 1) v (by omega) (by omega) (fun t ht => ?_)
        rw [hv t ht, hs, e, Bool.and_false, Bool.or_false]
      | true =>
        rw [if_neg (show ¬ b2 true = 0 by decide)]
        refine ih (k + 1) _ (by omega) (by omega) (fun t ht => ?_)
        rw [bI_or, hv t ht, hs, e, bI_one (by omega) ht, Bool.and_true]
  refine am_mth_of rfl rfl (v69_0 hp hrs ?_)
  rw [show (0 : Int32) = ni 0 from rfl]
  exact LP _ 0 _ rfl (Nat.zero_le _) (fun t ht => by rw [decide_eq_false (by omega), Bool.false_and]; exact bI_0)
end NR
