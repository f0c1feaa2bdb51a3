/-! Rows that are alike: the class holds both -/
section AG2
variable {w w2 : Nat → Int32} {r : Nat} {I : am_I} {J : am_J}
theorem cG.agr (hG : WG w) (h : agr w w2) (g : cG r I J w) : cG r I J w2 := by
  obtain ⟨⟨w0, w0'⟩, ⟨w1, w1'⟩, ⟨x2, w2'⟩, ⟨w3, w3'⟩, ⟨w4, w4'⟩, wk⟩ := id hG.1
  obtain ⟨⟨c0, c1, c2, c3, c4, c5⟩, hC, hP, hQ, hN, hD⟩ := g
  refine ⟨⟨by rw [h _ (by omega)]; exact c0, by rw [h _ (by omega)]; exact c1, by rw [h _ (by omega)]; exact c2, by rw [h _ (by omega)]; exact c3, by rw [h _ (by omega)]; exact c4, by rw [h _ (by omega)]; exact c5⟩, fun c hc => ?_, fun p hp => ?_, fun q hq => ?_, fun j hj => ?_, fun d hd => ?_⟩
  · rw [h.N (by omega)] at hc
    obtain ⟨a1, a2⟩ := hC c hc
    exact ⟨fun k hk => by rw [wCls_agr h (by omega)]; exact a1 k hk, a2⟩
  · rw [h.N (by omega)] at hp
    obtain ⟨-, -, hc, -, -, g6⟩ := hG.pr hp
    obtain ⟨a1, a2, a3, a4⟩ := hP p hp
    refine ⟨by rw [h _ (by omega)]; exact a1, by rw [h _ (by omega)]; exact a2, by rw [h _ (by omega)]; exact a3, fun k hk => ?_⟩
    rw [h.N (by omega)] at hk
    obtain ⟨b1, b2, b3⟩ := a4 k hk
    have e0 := h (eP p k) (by unfold eP; omega)
    refine ⟨by rw [e0]; exact b1, fun z => ?_, fun z => ?_⟩
    · rw [h (eP p k + 1) (by unfold eP; omega)]; exact b2 (by rw [← e0]; exact z)
    · rw [e0] at z
      obtain ⟨d1, d2⟩ := b3 z
      refine ⟨by rw [h _ (by unfold eP; omega)]; exact d1, fun i hi => ?_⟩
      rw [h.N (by unfold eP; omega)] at hi
      rcases g6 k hk with ⟨t1, -⟩ | ⟨t1, -⟩ | ⟨-, mm, t2, t3, t4, t5⟩
      · rw [z] at t1; cases t1
      · rw [z] at t1; cases t1
      · have : wN w (eP p k + 2) = mm := by unfold wN; rw [t4]; exact ni_nat (by omega)
        rw [h _ (by unfold eP; omega)]; exact d2 i hi
  · rw [h.N (by omega)] at hq
    obtain ⟨a1, a2, a3⟩ := hQ q hq
    exact ⟨by rw [h _ (by omega)]; exact a1, by rw [h _ (by omega)]; exact a2, fun i hi => by rw [h _ (by omega)]; exact a3 i hi⟩
  · rw [h.N (by omega)] at hj
    obtain ⟨a1, a2⟩ := hN j hj
    exact ⟨by rw [h _ (by omega)]; exact a1, by rw [h _ (by omega)]; exact a2⟩
  · rw [h.N (by omega)] at hd
    obtain ⟨a1, a2⟩ := hD d hd
    exact ⟨by rw [h _ (by omega)]; exact a1, by rw [h _ (by omega)]; exact a2⟩
theorem cSo.agr (hG : WG w) (h : agr w w2) (g : cSo r I J w) : cSo r I J w2 := by
  have w0' := hG.1.1.2
  unfold cSo at *
  rw [useW_agr hG h, drpW_agr hG h, ndW_agr hG h, lyW_agr hG h, emX_agr hG h, bgC_agr hG h, nmS_agr hG h]
  refine ⟨g.1, g.2.1, g.2.2.1, g.2.2.2.1, g.2.2.2.2.1, fun c hc t ht => ?_⟩
  rw [g.2.2.2.2.2 c hc t ht, h.N (by omega)]
  by_cases c0 : t < wN w 0
  · rw [wCls_agr h (by omega)]
  · rw [decide_eq_false c0, Bool.false_and, Bool.false_and]
end AG2
