/-! Questions of the text, asked of both -/
theorem cif_E {p : Nat → Prop} {c : Prop} {x y : Sum Nat Int32} (hx : ∀ E, x = .inl E → p E) (hy : ∀ E, y = .inl E → p E) : ∀ E, cif c x y = .inl E → p E := by
  intro E h
  by_cases hc : c
  · rw [cif_t hc] at h; exact hx E h
  · rw [cif_f hc] at h; exact hy E h
theorem inl_E {p : Nat → Prop} {k : Nat} (hk : p k) : ∀ E, (Sum.inl k : Sum Nat Int32) = .inl E → p E := fun E h => by cases h; exact hk
theorem inr_E {p : Nat → Prop} {a : Int32} : ∀ E, (Sum.inr a : Sum Nat Int32) = .inl E → p E := fun E h => by cases h
theorem lcO_wf {L : LW} (h : L.1 = 0 ∨ (lwWf L 1 ∧ L.1 ≤ 150 ∧ lwSm L)) : lwWf (lcO L) 1 ∧ (lcO L).1 ≤ 150 ∧ ∀ i, i < (lcO L).1 → ((lcO L).2 i).2 < 10000 := by
  unfold lcO
  rcases h with h | ⟨h1, h2, h3⟩
  · rw [if_pos h]
    exact ⟨⟨fun i hi => ⟨Nat.zero_le _, fun z => absurd z (by show ¬ (0 = 1); omega), fun z => absurd z (by show ¬ (2 ≤ 0); omega)⟩, rfl⟩, by show 1 ≤ 150; omega, fun i _ => by show 1 < 10000; omega⟩
  · by_cases c : L.1 = 0
    · rw [if_pos c]
      exact ⟨⟨fun i hi => ⟨Nat.zero_le _, fun z => absurd z (by show ¬ (0 = 1); omega), fun z => absurd z (by show ¬ (2 ≤ 0); omega)⟩, rfl⟩, by show 1 ≤ 150; omega, fun i _ => by show 1 < 10000; omega⟩
    · rw [if_neg c]
      exact ⟨h1, h2, fun i hi => by have := h3 i hi; omega⟩
theorem aWoc_eq {w : Nat → Int32} {T : TX} {L : LW} {s : Nat} : aWoc w T (lcO L) s = aWo w T L s := by
  have e : (fun n => lwVal (lcO L) (fxN w T n)) = (fun n => vlN L (fxN w T n)) := by
    funext n
    unfold vlN lcO
    by_cases c : L.1 = 0
    · rw [if_pos c, if_pos c]; rfl
    · rw [if_neg c, if_neg c]
  unfold aWoc aWo
  rw [e]
section QUE
variable {I : am_I} {J : am_J} {Pf : am_R}
theorem yrE_k : ∀ U z1, txOK U → txOK (yrE U z1).2.1 := fun U z1 h => yrD_ok h
theorem yrE_e : ∀ U z1, yrD U (dV (dS z1) 4) (dS z1) = yrE U z1 := fun _ _ => rfl
theorem rLh.up {I1 : am_I} {L : LW} (h : rLh I L) (f : ∀ o k, 163 ≤ o → I1 o k = I o k) : rLh I1 L := ⟨h.1, by rw [f _ _ (by omega)]; exact h.2.1, fun i hi => by rw [f _ _ (by omega), f _ _ (by omega)]; exact h.2.2 i hi⟩
theorem pr_told (h : INV I J Pf) (x1 : Int32) : PAIR cd1 147 274 [.int x1] I J Pf := by
  obtain ⟨r, la, w, T, p, m, q, c, ms, L, h1, h2, h3, h4, h5, h6, h7, h8, h9⟩ := h
  obtain ⟨hp, hr, k2, k3, kF, hla, k4, k5⟩ := id h1
  exact PAIR_q (v := qSt 9 (aTd w T (I 0 16)) x1) (cif_E inr_E (inl_E rfl)) h1 h2 h3 h4 h5 h6 h7 h8 h9 (fun D P hD kk => sc_toldq hp hr k2 kF h2 h3 h4 rfl (by omega) kk) (fun D P I1 J1 hD hQ f kk => sr_toldq hp h2 h3 hQ ((f 163 35 (by omega)).trans h7.2.1.symm) (by omega) kk)
theorem pr_group (h : INV I J Pf) (x1 x2 : Int32) : PAIR cd2 148 276 [.int x1, .int x2] I J Pf := by
  obtain ⟨r, la, w, T, p, m, q, c, ms, L, h1, h2, h3, h4, h5, h6, h7, h8, h9⟩ := h
  obtain ⟨hp, hr, k2, k3, kF, hla, k4, k5⟩ := id h1
  exact PAIR_q (v := qC (wN w 0) 3 (aGr w) x1 x2) (cif_E (cif_E inr_E (inl_E rfl)) (inl_E rfl)) h1 h2 h3 h4 h5 h6 h7 h8 h9 (fun D P hD kk => sc_group hp hr k2 h2 h4 (by omega) kk) (fun D P I1 J1 hD hQ f kk => sr_group hp h2 hQ (by omega) kk)
theorem pr_holds (h : INV I J Pf) (x1 x2 : Int32) : PAIR cd2 149 277 [.int x1, .int x2] I J Pf := by
  obtain ⟨r, la, w, T, p, m, q, c, ms, L, h1, h2, h3, h4, h5, h6, h7, h8, h9⟩ := h
  obtain ⟨hp, hr, k2, k3, kF, hla, k4, k5⟩ := id h1
  exact PAIR_q (v := qCS (wN w 0) (aHo w) x1 x2) (cif_E (cif_E inr_E (inl_E rfl)) (inl_E rfl)) h1 h2 h3 h4 h5 h6 h7 h8 h9 (fun D P hD kk => sc_holds hp hr k2 h2 h4 (by omega) kk) (fun D P I1 J1 hD hQ f kk => sr_holds hp h2 hQ (by omega) kk)
theorem pr_beside (h : INV I J Pf) (x1 x2 : Int32) : PAIR cd1 150 278 [.int x1, .int x2] I J Pf := by
  obtain ⟨r, la, w, T, p, m, q, c, ms, L, h1, h2, h3, h4, h5, h6, h7, h8, h9⟩ := h
  obtain ⟨hp, hr, k2, k3, kF, hla, k4, k5⟩ := id h1
  exact PAIR_q (v := qBs (wN w 0) (fun a c => aBs (wCls w a) (wCls w c)) x1 x2) (cif_E inr_E (inl_E rfl)) h1 h2 h3 h4 h5 h6 h7 h8 h9 (fun D P hD kk => sc_beside hp hr k2 h2 h4 (by omega) kk) (fun D P I1 J1 hD hQ f kk => sr_beside hp h2 hQ (by omega) kk)
theorem pr_production (h : INV I J Pf) (x1 x2 : Int32) : PAIR cd2 151 279 [.int x1, .int x2] I J Pf := by
  obtain ⟨r, la, w, T, p, m, q, c, ms, L, h1, h2, h3, h4, h5, h6, h7, h8, h9⟩ := h
  obtain ⟨hp, hr, k2, k3, kF, hla, k4, k5⟩ := id h1
  exact PAIR_q (v := qC (wN w 1) 2 (fun p x => w (32 + 3 * p + x)) x1 x2) (cif_E (cif_E inr_E (inl_E rfl)) (inl_E rfl)) h1 h2 h3 h4 h5 h6 h7 h8 h9 (fun D P hD kk => sc_prodq hp hr k2 h2 h4 (by omega) kk) (fun D P I1 J1 hD hQ f kk => sr_prodq hp h2 hQ (by omega) kk)
theorem pr_sort (h : INV I J Pf) (x1 x2 : Int32) : PAIR cd1 152 285 [.int x1, .int x2] I J Pf := by
  obtain ⟨r, la, w, T, p, m, q, c, ms, L, h1, h2, h3, h4, h5, h6, h7, h8, h9⟩ := h
  obtain ⟨hp, hr, k2, k3, kF, hla, k4, k5⟩ := id h1
  exact PAIR_q (v := qS2 5 (aSo w) x1 x2) (cif_E inr_E (inl_E rfl)) h1 h2 h3 h4 h5 h6 h7 h8 h9 (fun D P hD kk => sc_sortq hp hr k2 h2 h4 (by omega) kk) (fun D P I1 J1 hD hQ f kk => sr_sortq hp h2 hQ (h6.of (fun o k a b => f o k (by omega))).1 (h6.of (fun o k a b => f o k (by omega))).2.1 (by omega) kk)
theorem pr_begins (h : INV I J Pf) (x1 x2 : Int32) : PAIR cd1 153 286 [.int x1, .int x2] I J Pf := by
  obtain ⟨r, la, w, T, p, m, q, c, ms, L, h1, h2, h3, h4, h5, h6, h7, h8, h9⟩ := h
  obtain ⟨hp, hr, k2, k3, kF, hla, k4, k5⟩ := id h1
  exact PAIR_q (v := qSS (aBe w) x1 x2) (cif_E inr_E (inl_E rfl)) h1 h2 h3 h4 h5 h6 h7 h8 h9 (fun D P hD kk => sc_begq hp hr k2 h2 h4 (by omega) kk) (fun D P I1 J1 hD hQ f kk => sr_begq hp h2 hQ (by omega) kk)
theorem pr_sign (h : INV I J Pf) (x1 : Int32) : PAIR cd1 154 287 [.int x1] I J Pf := by
  obtain ⟨r, la, w, T, p, m, q, c, ms, L, h1, h2, h3, h4, h5, h6, h7, h8, h9⟩ := h
  obtain ⟨hp, hr, k2, k3, kF, hla, k4, k5⟩ := id h1
  exact PAIR_q (v := qPl T.1 T.2 x1) (cif_E inr_E (inl_E rfl)) h1 h2 h3 h4 h5 h6 h7 h8 h9 (fun D P hD kk => sc_signq hp h4 (by omega) kk) (fun D P I1 J1 hD hQ f kk => sr_signq hp hQ (by omega) kk)
theorem pr_run (h : INV I J Pf) (x1 : Int32) : PAIR cd1 155 288 [.int x1] I J Pf := by
  obtain ⟨r, la, w, T, p, m, q, c, ms, L, h1, h2, h3, h4, h5, h6, h7, h8, h9⟩ := h
  obtain ⟨hp, hr, k2, k3, kF, hla, k4, k5⟩ := id h1
  exact PAIR_q (v := qPl (T.1 + 1) (fun a => ni (rnT w T a)) x1) (cif_E inr_E (inl_E rfl)) h1 h2 h3 h4 h5 h6 h7 h8 h9 (fun D P hD kk => sc_runq hp hr kF h2 h3 h4 (by omega) kk) (fun D P I1 J1 hD hQ f kk => sr_runq hp h2 h3 hQ (by omega) kk)
theorem pr_is (h : INV I J Pf) (x1 x2 x3 : Int32) : PAIR cd1 156 290 [.int x1, .int x2, .int x3] I J Pf := by
  obtain ⟨r, la, w, T, p, m, q, c, ms, L, h1, h2, h3, h4, h5, h6, h7, h8, h9⟩ := h
  obtain ⟨hp, hr, k2, k3, kF, hla, k4, k5⟩ := id h1
  exact PAIR_q (v := qPc T.1 (aIs w T) x1 x2 x3) (cif_E inr_E (inl_E rfl)) h1 h2 h3 h4 h5 h6 h7 h8 h9 (fun D P hD kk => sc_is hp hr kF h2 h3 h4 (by omega) kk) (fun D P I1 J1 hD hQ f kk => sr_is hp h2 h3 hQ (by omega) kk)
theorem pr_ends (h : INV I J Pf) (x1 x2 : Int32) : PAIR cd1 157 291 [.int x1, .int x2] I J Pf := by
  obtain ⟨r, la, w, T, p, m, q, c, ms, L, h1, h2, h3, h4, h5, h6, h7, h8, h9⟩ := h
  obtain ⟨hp, hr, k2, k3, kF, hla, k4, k5⟩ := id h1
  exact PAIR_q (v := qPc T.1 (fun s i _ => aEn w T s i) x1 x2 x2) (cif_E inr_E (inl_E rfl)) h1 h2 h3 h4 h5 h6 h7 h8 h9 (fun D P hD kk => sc_en hp hr kF h2 h3 h4 (by omega) kk) (fun D P I1 J1 hD hQ f kk => sr_en hp h2 h3 hQ (by omega) kk)
theorem pr_ways (h : INV I J Pf) (x1 x2 x3 : Int32) : PAIR cd1 158 294 [.int x1, .int x2, .int x3] I J Pf := by
  obtain ⟨r, la, w, T, p, m, q, c, ms, L, h1, h2, h3, h4, h5, h6, h7, h8, h9⟩ := h
  obtain ⟨hp, hr, k2, k3, kF, hla, k4, k5⟩ := id h1
  exact PAIR_q (v := qPc T.1 (aWy w T) x1 x2 x3) (cif_E inr_E (inl_E rfl)) h1 h2 h3 h4 h5 h6 h7 h8 h9 (fun D P hD kk => sc_wy hp hr kF h2 h3 h4 (by omega) kk) (fun D P I1 J1 hD hQ f kk => sr_wy hp h2 h3 hQ (by omega) kk)
theorem pr_height (h : INV I J Pf) (x1 x2 x3 : Int32) : PAIR cd1 159 295 [.int x1, .int x2, .int x3] I J Pf := by
  obtain ⟨r, la, w, T, p, m, q, c, ms, L, h1, h2, h3, h4, h5, h6, h7, h8, h9⟩ := h
  obtain ⟨hp, hr, k2, k3, kF, hla, k4, k5⟩ := id h1
  exact PAIR_q (v := qPc T.1 (aHt w T) x1 x2 x3) (cif_E inr_E (inl_E rfl)) h1 h2 h3 h4 h5 h6 h7 h8 h9 (fun D P hD kk => sc_ht hp hr kF h2 h3 h4 (by omega) kk) (fun D P I1 J1 hD hQ f kk => sr_ht hp h2 h3 hQ (by omega) kk)
theorem pr_nodes (h : INV I J Pf) (x1 x2 x3 : Int32) : PAIR cd1 160 304 [.int x1, .int x2, .int x3] I J Pf := by
  obtain ⟨r, la, w, T, p, m, q, c, ms, L, h1, h2, h3, h4, h5, h6, h7, h8, h9⟩ := h
  obtain ⟨hp, hr, k2, k3, kF, hla, k4, k5⟩ := id h1
  exact PAIR_q (v := qPc T.1 (aNs w T) x1 x2 x3) (cif_E inr_E (inl_E rfl)) h1 h2 h3 h4 h5 h6 h7 h8 h9 (fun D P hD kk => sc_ns hp hr kF h2 h3 h4 (by omega) kk) (fun D P I1 J1 hD hQ f kk => sr_nodes hp h2 h3 hQ (by omega) kk)
theorem pr_node (h : INV I J Pf) (x1 x2 x3 : Int32) : PAIR cd1 161 305 [.int x1, .int x2, .int x3] I J Pf := by
  obtain ⟨r, la, w, T, p, m, q, c, ms, L, h1, h2, h3, h4, h5, h6, h7, h8, h9⟩ := h
  obtain ⟨hp, hr, k2, k3, kF, hla, k4, k5⟩ := id h1
  exact PAIR_q (v := qNd w T x1 x2 x3) (cif_E inr_E (inl_E rfl)) h1 h2 h3 h4 h5 h6 h7 h8 h9 (fun D P hD kk => sc_node hp hr kF h2 h3 h4 (by omega) kk) (fun D P I1 J1 hD hQ f kk => sr_node hp h2 h3 hQ (by omega) kk)
theorem pr_worth (h : INV I J Pf) (x1 : Int32) : PAIR cd1 162 306 [.int x1] I J Pf := by
  obtain ⟨r, la, w, T, p, m, q, c, ms, L, h1, h2, h3, h4, h5, h6, h7, h8, h9⟩ := h
  obtain ⟨hp, hr, k2, k3, kF, hla, k4, k5⟩ := id h1
  exact PAIR_q (v := qSt 7 (aWo w T L) x1) (cif_E inr_E (inl_E rfl)) h1 h2 h3 h4 h5 h6 h7 h8 h9 (fun D P hD kk => sc_wo hp hr kF h2 h3 h4 hla k4 (lcO_wf h9.2.1).1 (lcO_wf h9.2.1).2.1 (lcO_wf h9.2.1).2.2 h9.1 (by omega) (by rw [show aWoc w T (lcO L) = aWo w T L from funext (fun s => aWoc_eq)]; exact kk)) (fun D P I1 J1 hD hQ f kk => sr_wo hp h2 h3 hQ (h9.2.up f) (by omega) kk)
theorem pr_pieces (h : INV I J Pf) (x1 : Int32) : PAIR cd1 163 296 [.int x1] I J Pf := by
  obtain ⟨r, la, w, T, p, m, q, c, ms, L, h1, h2, h3, h4, h5, h6, h7, h8, h9⟩ := h
  obtain ⟨hp, hr, k2, k3, kF, hla, k4, k5⟩ := id h1
  exact PAIR_q (v := qSt 7 (fun s => ni (pcN w T s)) x1) (cif_E inr_E (inl_E rfl)) h1 h2 h3 h4 h5 h6 h7 h8 h9 (fun D P hD kk => sc_pieces hp hr kF h2 h3 h4 (by omega) kk) (fun D P I1 J1 hD hQ f kk => sr_pieces hp h2 h3 hQ (by omega) kk)
theorem pr_wrong (h : INV I J Pf) (x1 x2 x3 : Int32) : PAIR cd1 164 309 [.int x1, .int x2, .int x3] I J Pf := by
  obtain ⟨r, la, w, T, p, m, q, c, ms, L, h1, h2, h3, h4, h5, h6, h7, h8, h9⟩ := h
  obtain ⟨hp, hr, k2, k3, kF, hla, k4, k5⟩ := id h1
  exact PAIR_q (v := qSn 2 (aWr w T) x1 x2 x3) (cif_E inr_E (inl_E rfl)) h1 h2 h3 h4 h5 h6 h7 h8 h9 (fun D P hD kk => sc_wrongq hp hr kF h2 h3 h4 (by omega) kk) (fun D P I1 J1 hD hQ f kk => sr_wrongq hp h2 h3 hQ (by omega) kk)
theorem pr_body (h : INV I J Pf) (x1 x2 : Int32) : PAIR cd1 165 312 [.int x1, .int x2] I J Pf := by
  obtain ⟨r, la, w, T, p, m, q, c, ms, L, h1, h2, h3, h4, h5, h6, h7, h8, h9⟩ := h
  obtain ⟨hp, hr, k2, k3, kF, hla, k4, k5⟩ := id h1
  exact PAIR_q (v := qQu (wN w 2) T.1 (aBd w T) x1 x2) (cif_E inr_E (inl_E rfl)) h1 h2 h3 h4 h5 h6 h7 h8 h9 (fun D P hD kk => sc_bodyq hp hr k2 h2 h4 (by omega) kk) (fun D P I1 J1 hD hQ f kk => sr_bodyq hp h2 h3 hQ (by omega) kk)
theorem pr_inside (h : INV I J Pf) (x1 x2 x3 : Int32) : PAIR cd2 166 313 [.int x1, .int x2, .int x3] I J Pf := by
  obtain ⟨r, la, w, T, p, m, q, c, ms, L, h1, h2, h3, h4, h5, h6, h7, h8, h9⟩ := h
  obtain ⟨hp, hr, k2, k3, kF, hla, k4, k5⟩ := id h1
  exact PAIR_q (v := qIn (wN w 2) T.1 (aIn w T) x1 x2 x3) (cif_E (cif_E inr_E (inl_E rfl)) (inl_E rfl)) h1 h2 h3 h4 h5 h6 h7 h8 h9 (fun D P hD kk => sc_insideq hp hr k2 h2 h4 (by omega) kk) (fun D P I1 J1 hD hQ f kk => sr_insideq hp h2 h3 hQ (by omega) kk)
theorem pr_fits (h : INV I J Pf) (x1 x2 x3 : Int32) : PAIR cd2 167 315 [.int x1, .int x2, .int x3] I J Pf := by
  obtain ⟨r, la, w, T, p, m, q, c, ms, L, h1, h2, h3, h4, h5, h6, h7, h8, h9⟩ := h
  obtain ⟨hp, hr, k2, k3, kF, hla, k4, k5⟩ := id h1
  exact PAIR_q (v := qFt T.1 (aFt w T) x1 x2 x3) (cif_E (cif_E inr_E (inl_E rfl)) (inl_E rfl)) h1 h2 h3 h4 h5 h6 h7 h8 h9 (fun D P hD kk => sc_fitq hp hr k2 kF h2 h3 h4 (by omega) kk) (fun D P I1 J1 hD hQ f kk => sr_fitq hp h2 h3 hQ (by omega) kk)
theorem pr_commonest (h : INV I J Pf) (x1 : Int32) : PAIR cd1 168 298 [.int x1] I J Pf := by
  obtain ⟨r, la, w, T, p, m, q, c, ms, L, h1, h2, h3, h4, h5, h6, h7, h8, h9⟩ := h
  obtain ⟨hp, hr, k2, k3, kF, hla, k4, k5⟩ := id h1
  exact PAIR_q (v := qSt 1 (aCm w T) x1) (cif_E inr_E (inl_E rfl)) h1 h2 h3 h4 h5 h6 h7 h8 h9 (fun D P hD kk => sc_commonest hp hr kF h2 h3 h4 (by omega) kk) (fun D P I1 J1 hD hQ f kk => sr_commonest hp h2 h3 hQ (by omega) kk)
theorem pr_year (h : INV I J Pf) (x1 x2 x3 : Int32) : PAIR cd1 169 319 [.int x1, .int x2, .int x3] I J Pf := by
  obtain ⟨r, la, w, T, p, m, q, c, ms, L, h1, h2, h3, h4, h5, h6, h7, h8, h9⟩ := h
  obtain ⟨hp, hr, k2, k3, kF, hla, k4, k5⟩ := id h1
  exact PAIR_q (v := qYr (aYr yrE w T) x1 x2 x3) (cif_E inr_E (inl_E rfl)) h1 h2 h3 h4 h5 h6 h7 h8 h9 (fun D P hD kk => sc_yearq yrE_k yrE_e hp hr kF h2 h3 h4 (by omega) kk) (fun D P I1 J1 hD hQ f kk => sr_yearq yrE_k yrE_e hp h2 h3 hQ (by omega) kk)
theorem pr_span (h : INV I J Pf) (x1 x2 x3 x4 x5 : Int32) : PAIR cd1 170 320 [.int x1, .int x2, .int x3, .int x4, .int x5] I J Pf := by
  obtain ⟨r, la, w, T, p, m, q, c, ms, L, h1, h2, h3, h4, h5, h6, h7, h8, h9⟩ := h
  obtain ⟨hp, hr, k2, k3, kF, hla, k4, k5⟩ := id h1
  exact PAIR_q (v := qSp (aSp yrE w T) x1 x2 x3 x4 x5) (cif_E inr_E (inl_E rfl)) h1 h2 h3 h4 h5 h6 h7 h8 h9 (fun D P hD kk => sc_spanq yrE_k yrE_e hp hr kF h2 h3 h4 (by omega) kk) (fun D P I1 J1 hD hQ f kk => sr_spanq yrE_k yrE_e hp h2 h3 hQ (by omega) kk)
end QUE
