/-! Rows that are alike: the same empties, begins, names -/
theorem allB_congr {f g : Nat → Bool} {n : Nat} (h : ∀ i, i < n → f i = g i) : allB n f = allB n g := by
  rw [Bool.eq_iff_iff, allB_iff, allB_iff]
  exact ⟨fun z i hi => by rw [← h i hi]; exact z i hi, fun z i hi => by rw [h i hi]; exact z i hi⟩
section AG
variable {w w2 : Nat → Int32}
theorem emPt_agr (hG : WG w) (h : agr w w2) {E : Nat → Bool} {p k : Nat} (hp : p < wN w 1) (hk : k < wN w (32 + 3 * p + 2)) : emPt w2 E p k = emPt w E p k := by
  have w1 := hG.1.2.1.2
  have hc := (hG.pr hp).2.2.1
  unfold emPt
  rw [h _ (by unfold eP; omega), h.N (by unfold eP; omega)]
theorem emOk_agr (hG : WG w) (h : agr w w2) {E : Nat → Bool} {p k : Nat} (hp : p < wN w 1) (hk : k ≤ wN w (32 + 3 * p + 2)) : emOk w2 p k E = emOk w p k E := allB_congr (fun i hi => emPt_agr hG h hp (by omega))
theorem emX_agr (hG : WG w) (h : agr w w2) (j : Nat) : emX w2 j = emX w j := by
  have w1 := hG.1.2.1.2
  unfold emX
  refine foldN_congr j (fun i y _ => ?_)
  unfold emR
  rw [h.N (i := 1) (by omega)]
  refine foldN_congr _ (fun p z hp => ?_)
  funext s
  unfold emP
  rw [h.N (i := 32 + 3 * p) (by omega), h.N (i := 32 + 3 * p + 2) (by omega), emOk_agr hG h hp (Nat.le_refl _)]
theorem wCls_agr (h : agr w w2) {c : Nat} (hc : c < 8) : wCls w2 c = wCls w c := by
  unfold wCls
  rw [h _ (by omega), h _ (by omega), h _ (by omega)]
theorem bgE_agr (hG : WG w) (h : agr w w2) {B : Nat → Nat → Bool} {p k c : Nat} (hp : p < wN w 1) (hk : k < wN w (32 + 3 * p + 2)) : bgE w2 B p k c = bgE w B p k c := by
  have w1 := hG.1.2.1.2
  have w0' := hG.1.1.2
  obtain ⟨-, -, hc, -, -, g6⟩ := hG.pr hp
  unfold bgE
  rw [h (eP p k) (by unfold eP; omega), h.N (i := eP p k + 1) (by unfold eP; omega), h (eP p k + 3) (by unfold eP; omega)]
  split
  · rename_i e
    rcases g6 k hk with ⟨-, cc, t2, t3⟩ | ⟨t1, -⟩ | ⟨t1, -⟩
    · have : wN w (eP p k + 1) = cc := by unfold wN; rw [t3]; exact ni_nat (by omega)
      rw [wCls_agr h (by omega)]
    · rw [e] at t1; cases t1
    · rw [e] at t1; cases t1
  · rfl
theorem bgC_agr (hG : WG w) (h : agr w w2) (j : Nat) : bgC w2 j = bgC w j := by
  have w1 := hG.1.2.1.2
  have w2' := hG.1.2.2.1.2
  unfold bgC
  rw [emX_agr hG h]
  refine foldN_congr j (fun i y _ => ?_)
  have e1 : bgR w2 (emX w 8) (wN w2 1) y = bgR w (emX w 8) (wN w 1) y := by
    unfold bgR
    rw [h.N (i := 1) (by omega)]
    refine foldN_congr _ (fun p z hp => ?_)
    unfold bgP
    rw [h.N (i := 32 + 3 * p + 2) (by omega)]
    have key : ∀ (m k : Nat) (B : Nat → Nat → Bool), k + m = wN w (32 + 3 * p + 2) → bgGo w2 (emX w 8) p m k B = bgGo w (emX w 8) p m k B := by
      intro m
      induction m with
      | zero => intro k B _; rfl
      | succ m ih =>
        intro k B hk
        have eK : bgK w2 p k B = bgK w p k B := by
          funext s c
          unfold bgK
          rw [h.N (i := 32 + 3 * p) (by omega), bgE_agr hG h hp (by omega)]
        unfold bgGo
        rw [emPt_agr hG h hp (by omega), eK, ih (k + 1) _ (by omega)]
    exact key _ 0 z (by omega)
  rw [e1]
  unfold bgQs
  rw [h.N (i := 2) (by omega)]
  refine foldN_congr _ (fun q z hq => ?_)
  funext s c
  unfold bgQ
  rw [h.N (i := 972 + 5 * q) (by omega), h _ (by omega)]
theorem nmS_agr (hG : WG w) (h : agr w w2) : nmS w2 = nmS w := by
  have w1 := hG.1.2.1.2
  have w2' := hG.1.2.2.1.2
  funext c
  unfold nmS
  rw [h.N (i := 1) (by omega), h.N (i := 2) (by omega)]
  congr 1
  · refine anyB_congr (fun x hx => ?_)
    unfold nmQ
    rw [h _ (by omega)]
  · refine anyB_congr (fun p hp => ?_)
    obtain ⟨-, -, hc, -, -, g6⟩ := hG.pr hp
    rw [h.N (i := 32 + 3 * p + 2) (by omega)]
    refine anyB_congr (fun k hk => ?_)
    unfold nmP
    rw [h (eP p k) (by unfold eP; omega), h.N (i := eP p k + 2) (by unfold eP; omega)]
    by_cases e : w (eP p k) = 2
    · rcases g6 k hk with ⟨t1, -⟩ | ⟨t1, -⟩ | ⟨-, mm, t2, t3, t4, t5⟩
      · rw [e] at t1; cases t1
      · rw [e] at t1; cases t1
      · have : wN w (eP p k + 2) = mm := by unfold wN; rw [t4]; exact ni_nat (by omega)
        congr 1
        refine anyB_congr (fun i hi => ?_)
        unfold nmE
        rw [h _ (by unfold eP; omega)]
    · rw [decide_eq_false e, Bool.false_and, Bool.false_and]
end AG
