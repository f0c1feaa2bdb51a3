/-! A law's text: the class's whole reading -/
section LWW
variable {b : Nat → Int32} {n x d : Nat} {P : am_O → Prop} {J : am_J} {Pf : am_R}
theorem sc_law (hp : am_PF Pf) (hx : am_SH[x]? = some (.inl 2)) (hx0 : am_pf0 x 4 = none) (hx7 : 7 < x) (hx9 : x < 203) (hn : n ≤ 150) (hb0 : ∀ k, b k ≠ -1) {I : am_I} (hb : I 2 = b) (h : RD I n 0) (h5 : I 1 5 = 0) (h14 : I 1 4 = 0)
    (kk : rm2 (mLaw b n) (fun L => ∀ I', cLs x I I' → cLw x I' L → P (.inl (some (.int 1)), (am_SH, I', J, am_u Pf x 4 (some 1)), 0, 0)) (fun kd pl => ∀ I', cLf x I I' kd pl → pl ≤ 600 → P (.inl (some (.int 0)), (am_SH, I', J, am_u Pf x 4 (some 1)), 0, 0))) :
    am_mth (d + 40) 42 [.ref x, .ref 1] (am_SH, I, J, Pf) P := by
  have hp2 : am_PF (am_u Pf x 4 (some 1)) := hp.set hx0
  have h4 : am_u Pf x 4 (some 1) x 4 = some 1 := am_u_same
  refine am_mth_of rfl rfl (v42_0 hp hx ?_)
  have s0 : cLs x I (am_u I x 2 0) := fun o k _ e2 => am_u_nq (by omega)
  have z2 : am_u I x 2 0 2 = b := (am_u_o (by omega)).trans hb
  have zR : RD (am_u I x 2 0) n 0 := h.of (fun k => am_u_nq (by omega))
  have zL : cLw x (am_u I x 2 0) (0, fun _ => (0, 0)) := ⟨am_u_same, fun i hi => absurd hi (by show ¬ i < 0; omega)⟩
  unfold mLaw at kk
  have main := sc_lw (J := J) (b := b) hp2 hx h4 hx7 hx9 hn (3 * n + 3) 0 0 0 (d + 39) (am_u I x 2 0) (0, fun _ => (0, 0)) (am_af none (d + 39) 42 12 [some (.ref x), some (.ref 1)] [.int 0, .ref x] [] (am_SH, am_u I x 2 0, J, am_u Pf x 4 (some 1)) 0 0 true P) (by omega) (by omega) (by omega) (by omega) z2 zR ((am_u_nq (by omega)).trans h5) ((am_u_nq (by omega)).trans h14) zL (Nat.zero_le _)
  refine main ?_
  cases hm : mLw b n (3 * n + 3) 0 0 (0, fun _ => (0, 0)) 0 with
  | inl e =>
    rw [hm] at kk
    intro I' hF hpl
    refine am_back (v42_15 hp2 hx ?_)
    rw [if_pos rfl]
    exact kk I' (hF.after s0) hpl
  | inr z =>
    rw [hm] at kk
    dsimp only [rb] at kk
    obtain ⟨k1, k2, k3⟩ := mLw_ok _ 0 0 _ 0 z (Nat.zero_le _) hm
    intro I1 hR1 hs1 hL1
    refine am_back (v42_15 hp2 hx ?_)
    rw [if_neg (by decide)]
    have p2 : I1 2 = b := by rw [← z2]; funext k; exact hs1 _ _ (by omega) (by omega)
    have hq := rsk_le (b := b) hR1.2.2.1
    have hn6 := hR1.2.2.2
    have s1 : cLs x I I1 := s0.trans hs1
    refine ⟨h4, sp_rd_takeEnd (d := d + 37) hp2 hR1 ?_ ?_⟩
    · rw [p2]
      intro c
      have : rsk b n z.2 = n := by
        by_cases e : rsk b n z.2 < n
        · unfold hv at c
          rw [if_pos e] at c
          exact absurd c (hb0 _)
        · omega
      rw [if_pos this] at kk
      refine am_back (v42_25 hp2 ?_)
      rw [if_neg (by decide)]
      exact kk _ (s1.rd (by omega)) (hL1.s4 hx7)
    · rw [p2]
      intro c
      have : ¬ rsk b n z.2 = n := fun e => c (if_neg (by omega))
      rw [if_neg this] at kk
      refine am_back (v42_25 hp2 ?_)
      rw [if_pos rfl]
      refine kk _ ((cFF.fail (r := 1000) (J := J) (I := I1) ((cRd.rfl'.u (by omega)).fr) cJr.rfl' ?_).lf.after s1) (by show rsk b n z.2 ≤ 600; omega)
      rw [am_u_nq (by omega), hs1 _ _ (by omega) (by omega), am_u_nq (by omega)]; exact h5
end LWW
