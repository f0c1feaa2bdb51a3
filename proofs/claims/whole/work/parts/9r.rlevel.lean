/-! The reference's heights: all layers, all levels, what is kept of bodies -/
/-- what is kept of bodies is right -/
def rCa (I : am_I) (w : Nat → Int32) : Prop := ∃ c, c ≤ 600 ∧ I 163 48 = ni c ∧ ∀ e, e < c → ∃ d B, 1 ≤ d ∧ d ≤ 3 ∧ txOK B ∧ I 187 (27 * e) = ni d ∧ I 187 (27 * e + 1) = ni B.1 ∧ (∀ i, i < B.1 → I 187 (27 * e + 2 + i) = B.2 i) ∧ bts (I 187 (27 * e + 26)) (fun s => s < 8 ∧ 0 < HHx w (3 - d) B s 0 B.1)
/-- what solving a level changes -/
def rSf (d : Nat) (I I' : am_I) : Prop := ∀ o k, ¬ (o = 183 ∧ 25 * (d + 1) ≤ k) → ¬ (o = 184 ∧ 5000 * d ≤ k) → ¬ ((o = 185 ∨ o = 186) ∧ 96 * d ≤ k) → ¬ (o = 187 ∨ o = 188 ∨ o = 189) → ¬ (o = 163 ∧ k = 48) → I' o k = I o k
theorem rSf.trans {d : Nat} {I I' I'' : am_I} (h : rSf d I I') (g : rSf d I' I'') : rSf d I I'' := fun o k e1 e2 e3 e4 e5 => (g o k e1 e2 e3 e4 e5).trans (h o k e1 e2 e3 e4 e5)
theorem rSf.rfl' {d : Nat} {I : am_I} : rSf d I I := fun _ _ _ _ _ _ _ => rfl
theorem rSf.lower {d e : Nat} {I I' : am_I} (h : rSf e I I') (hd : d ≤ e) : rSf d I I' := fun o k e1 e2 e3 e4 e5 => h o k (by omega) (by omega) (by omega) e4 e5
theorem rSf.ofU {d : Nat} {I I' : am_I} (h : rUf d I I') : rSf d I I' := fun o k e1 e2 e3 e4 e5 => h o k (by omega)
theorem rSf.ofM {d : Nat} {I I' : am_I} (h : rMf d I I') : rSf d I I' := fun o k e1 e2 e3 e4 e5 => h o k (by omega) (by omega) (by omega)
theorem rTd.ofS {d e : Nat} {I I' : am_I} {T : TX} (h : rTd d I T) (f : rSf e I I') (hd : d ≤ e) : rTd d I' T := by
  have := h.2.1
  exact ⟨(f _ _ (by omega) (by omega) (by omega) (by omega) (by omega)).trans h.1, h.2.1, fun i hi => (f _ _ (by omega) (by omega) (by omega) (by omega) (by omega)).trans (h.2.2 i hi)⟩
theorem rCa.of {I I' : am_I} {w : Nat → Int32} (h : rCa I w) (f1 : I' 163 48 = I 163 48) (f2 : ∀ k, I' 187 k = I 187 k) : rCa I' w := by
  obtain ⟨c, h1, h2, h3⟩ := h
  refine ⟨c, h1, f1.trans h2, fun e he => ?_⟩
  obtain ⟨d, B, g⟩ := h3 e he
  refine ⟨d, B, ?_⟩
  rw [f2, f2, f2]
  exact ⟨g.1, g.2.1, g.2.2.1, g.2.2.2.1, g.2.2.2.2.1, fun i hi => by rw [f2]; exact g.2.2.2.2.2.1 i hi, g.2.2.2.2.2.2⟩
theorem rCa.ofU {d : Nat} {I I' : am_I} {w : Nat → Int32} (h : rCa I w) (f : rUf d I I') : rCa I' w := h.of (f _ _ (by omega)) (fun k => f _ _ (by omega))
theorem rCa.ofM {d : Nat} {I I' : am_I} {w : Nat → Int32} (h : rCa I w) (f : rMf d I I') : rCa I' w := h.of (f _ _ (by omega) (by omega) (by omega)) (fun k => f _ _ (by omega) (by omega) (by omega))
/-- texts that are told alike -/
theorem HHx_ext {w : Nat → Int32} (hG : WG w) (hs : sndW w) {k : Nat} {T U : TX} (h1 : T.1 = U.1) (h2 : ∀ i, i < T.1 → T.2 i = U.2 i) : ∀ s i j, s < 8 → i ≤ j → j ≤ T.1 → HHx w k T s i j = HHx w k U s i j := fun s i j h8 hij hj => (HHx_tr hG hs k 0 T U ⟨h1, fun i _ hi => Or.inl (h2 i hi)⟩).1 s i j h8 (Nat.zero_le _) hij hj
/-- a level's heights are right -/
def rSd (d : Nat) (I : am_I) (w : Nat → Int32) (k : Nat) (T : TX) : Prop := (∃ H, rHi d I H ∧ hBd H 5000 ∧ ∀ s i j, s < 8 → i < 25 → j < 25 → hC H s i j = (if i ≤ j ∧ j ≤ T.1 then HHx w k T s i j else 0)) ∧ rQg d I w T.1 (QQx w k T)
theorem HHx_sol {w : Nat → Int32} (hG : WG w) (hs : sndW w) (k : Nat) (T : TX) : Sol w T (QQx w k T) 0 (HHx w k T) := by
  rw [HHx_eq]
  exact (solH_sol hG hs).1
theorem QQx_lt {w : Nat → Int32} {k : Nat} {T : TX} {q i e : Nat} (h : QQx w k T q i e) : i < T.1 := by
  cases k with
  | zero => exact h.elim
  | succ k =>
    obtain ⟨B, h1, -⟩ := h
    unfold unq at h1
    split at h1
    · rename_i c; exact c.1
    · cases h1
section SLV
variable {P : am_O → Prop} {J : am_J} {Pf : am_R} {w : Nat → Int32}
/-- the layers -/
theorem rr_layers9 (hp : am_PF Pf) (hG : WG w) (hs : sndW w) {d : Nat} (hd : d ≤ 3) {T : TX} (hTo : txOK T) {Q : Nat → Nat → Nat → Prop} {Ht : Nat → Nat → Nat → Nat} (hQn : ∀ q i e, Q q i e → i < T.1) (hS : Sol w T Q 0 Ht) {I0 : am_I} {d0 : Nat} (hg : I0 167 = w) (hly : nmR I0 171 (lyW w 64)) (hT0 : rTd d I0 T) (hQ0 : rQg d I0 w T.1 Q)
    (kk : ∀ I' H', rMf d I0 I' → rHi d I' H' → hIv w T Ht 8 H' → P (.inl none, (am_SH, I', J, Pf), 0, 0)) : ∀ (m L : Nat) (I1 : am_I) (H : Nat → Nat) (l3 l4 : Option Value), 8 - L = m → L ≤ 8 → rMf d I0 I1 → rHi d I1 H → hIv w T Ht L H → am_go none (d0 + 6) 263 (139, [some (.ref 163), some (.int (ni d)), some (.int (ni L)), l3, l4], [], (am_SH, I1, J, Pf), 0, 0) P := by
  have l7 := (lyW_least hG hs).2.2
  intro m
  induction m with
  | zero =>
    intro L I1 H l3 l4 hm hL hf hH hI
    have : L = 8 := by omega
    subst this
    refine v263_139 hp ?_
    rw [if_pos ((gle 8 (by omega) (by omega)).mpr (by omega))]
    exact kk I1 H hf hH hI
  | succ m ih =>
    intro L I1 H l3 l4 hm hL hf hH hI
    -- turns until nothing changes
    have TU : ∀ (f : Nat) (I2 : am_I) (H2 : Nat → Nat) (l4 : Option Value), muN H2 < f → rMf d I0 I2 → rHi d I2 H2 → hIv w T Ht L H2 → am_go none (d0 + 6) 263 (156, [some (.ref 163), some (.int (ni d)), some (.int (ni L)), some (.int (ni 0)), some (.int (ni 0))], [], (am_SH, I2, J, Pf), 0, 0) P := by
      intro f
      induction f with
      | zero => intro I2 H2 _ h; omega
      | succ f ihf =>
        intro I2 H2 l4 hmu hf2 hH2 hI2
        have TT : ∀ (m t x : Nat) (I3 : am_I) (H3 : Nat → Nat), 8 - t = m → t ≤ 8 → rMf d I0 I3 → rHi d I3 H3 → hIv w T Ht L H3 → ((x = 0 ∧ H3 = H2 ∧ ∀ t', t' < t → lyW w 64 t' = L → hCl w T Q H2 t') ∨ (x = 1 ∧ muN H3 < muN H2)) → am_go none (d0 + 6) 263 (156, [some (.ref 163), some (.int (ni d)), some (.int (ni L)), some (.int (ni x)), some (.int (ni t))], [], (am_SH, I3, J, Pf), 0, 0) P := by
          intro m
          induction m with
          | zero =>
            intro t x I3 H3 hm3 ht hf3 hH3 hI3 hx
            have : t = 8 := by omega
            subst this
            refine v263_156 hp ?_
            rw [if_pos ((gle 8 (by omega) (by omega)).mpr (by omega))]
            refine v263_147 hp ?_
            rcases hx with ⟨rfl, rfl, hx⟩ | ⟨rfl, hx⟩
            · rw [if_pos (show ni 0 = 0 from rfl), ni_p1]
              exact ih (L + 1) I3 H3 _ _ (by omega) (by omega) hf3 hH3 (hI3.up hG hs hTo.1 hS hx)
            · rw [if_neg (by decide), show (0 : Int32) = ni 0 from rfl]
              exact ihf I3 H3 none (by omega) hf3 hH3 hI3
          | succ m ihm =>
            intro t x I3 H3 hm3 ht hf3 hH3 hI3 hx
            refine v263_156 hp ?_
            rw [if_neg (fun z => absurd ((gle 8 (by omega) (by omega)).mp z) (by omega)), show (ni t).toNatClampNeg = t from ni_nat (by omega), hf3 171 t (by omega) (by omega) (by omega), hly t (by omega), ni_p1]
            refine ⟨ni_in (by omega) (by omega), ?_⟩
            have := l7 t (by omega)
            by_cases c : lyW w 64 t = L
            · rw [if_pos ((ni_inj (by omega) (by omega)).mpr c)]
              refine sr_turn (d0 := d0) hp hG hs hd (by rw [← hg]; funext k; exact hf3 _ _ (by omega) (by omega) (by omega)) (hT0.ofM hf3) hTo (hQ0.ofM hf3) hQn hS hH3 hI3 (by omega) c (fun I4 f4 h4 hcl => am_back (v263_181 hp ?_)) (fun I4 H4 f4 h4 i4 m4 => am_back (v263_181 hp ?_))
              · rw [if_pos rfl, ni_p1]
                refine ihm (t + 1) x I4 H3 (by omega) (by omega) (hf3.trans f4) h4 hI3 ?_
                rcases hx with ⟨h1, h2, h3⟩ | h1
                · refine Or.inl ⟨h1, h2, fun t' ht' e => ?_⟩
                  by_cases et : t' = t
                  · subst et; rw [← h2]; exact hcl
                  · exact h3 t' (by omega) e
                · exact Or.inr h1
              · rw [if_neg (by decide), ni_p1, show (1 : Int32) = ni 1 from rfl]
                refine ihm (t + 1) 1 I4 H4 (by omega) (by omega) (hf3.trans f4) h4 i4 (Or.inr ⟨rfl, ?_⟩)
                rcases hx with ⟨h1, h2, h3⟩ | h1
                · rw [← h2]; exact m4
                · omega
            · rw [if_neg (fun z => c ((ni_inj (by omega) (by omega)).mp z))]
              refine ihm (t + 1) x I3 H3 (by omega) (by omega) hf3 hH3 hI3 ?_
              rcases hx with ⟨h1, h2, h3⟩ | h1
              · refine Or.inl ⟨h1, h2, fun t' ht' e => ?_⟩
                by_cases et : t' = t
                · subst et; exact absurd e c
                · exact h3 t' (by omega) e
              · exact Or.inr h1
        exact TT _ 0 0 I2 H2 rfl (by omega) hf2 hH2 hI2 (Or.inl ⟨rfl, rfl, fun t' ht' => absurd ht' (by omega)⟩)
    refine v263_139 hp ?_
    rw [if_neg (fun z => absurd ((gle 8 (by omega) (by omega)).mp z) (by omega))]
    refine v263_147 hp ?_
    rw [if_neg (by decide), show (0 : Int32) = ni 0 from rfl]
    exact TU _ I1 H none (Nat.lt_succ_self _) hf hH hI
theorem sr_wholeof (hp : am_PF Pf) {d : Nat} (hd : d ≤ 3) {T : TX} {I : am_I} (hT : rTd d I T) {H : Nat → Nat} {M : Nat} (hH : rHi d I H) (hM : hBd H M) (hM2 : M ≤ 100000) {d0 : Nat} (kk : ∀ v, bts v (fun s => s < 8 ∧ 0 < hC H s 0 T.1) → P (.inl (some (.int v)), (am_SH, I, J, Pf), 0, 0)) : am_mth (d0 + 3) 262 [.ref 163, .int (ni d)] (am_SH, I, J, Pf) P := by
  have h24 := hT.2.1
  have LP : ∀ (m c : Nat) (u : Int32), 8 - c = m → c ≤ 8 → bts u (fun s => s < c ∧ 0 < hC H s 0 T.1) → am_go none (d0 + 2) 262 (4, [some (.ref 163), some (.int (ni d)), some (.int u), some (.int (ni c))], [], (am_SH, I, J, Pf), 0, 0) P := by
    intro m
    induction m with
    | zero =>
      intro c u hm hc hu
      have : c = 8 := by omega
      subst this
      refine v262_4 hp ?_
      rw [if_pos ((gle 8 (by omega) (by omega)).mpr (by omega))]
      exact kk u hu
    | succ m ih =>
      intro c u hm hc hu
      have hcell : 625 * c + T.1 < 5000 := by omega
      have hB := hM _ hcell
      refine v262_4 hp ?_
      rw [if_neg (fun z => absurd ((gle 8 (by omega) (by omega)).mp z) (by omega)), show (25 : Int32) = ni 25 from rfl, show (625 : Int32) = ni 625 from rfl, ni_mul 25 d, show (ni (25 * d)).toNatClampNeg = 25 * d from ni_nat (by omega), hT.1, show (8 : Int32) = ni 8 from rfl, show (0 : Int32) * ni 25 = ni 0 from rfl, ni_mul, ni_add, ni_mul, ni_add, ni_add, show (ni ((d * 8 + c) * 625 + 0 + T.1)).toNatClampNeg = 5000 * d + (625 * c + T.1) by rw [ni_nat (by omega)]; omega, hH _ hcell, ni_p1]
      refine ⟨ni_in (by omega) (by omega), ni_in (by omega) (by omega), ?_⟩
      have eC : hC H c 0 T.1 = H (625 * c + T.1) := rfl
      by_cases cc : H (625 * c + T.1) = 0
      · rw [if_pos ((lle 0 (by omega) (by omega)).mpr (by omega)), show u ||| 0 = u from Int32.or_zero]
        refine ih (c + 1) u (by omega) (by omega) (hu.of (fun j _ => ⟨fun ⟨z1, z2⟩ => ⟨by omega, z2⟩, fun ⟨z1, z2⟩ => ?_⟩))
        by_cases e : j = c
        · subst e; rw [eC] at z2; omega
        · exact ⟨by omega, z2⟩
      · rw [if_neg (fun z => absurd ((lle 0 (by omega) (by omega)).mp z) (by omega))]
        refine ih (c + 1) _ (by omega) (by omega) ((bts_or hu (bts_one (by omega))).of (fun j _ => ?_))
        constructor
        · rintro (⟨z1, z2⟩ | z)
          · exact ⟨by omega, z2⟩
          · subst z; exact ⟨by omega, by rw [eC]; omega⟩
        · rintro ⟨z1, z2⟩
          by_cases e : j = c
          · exact Or.inr e
          · exact Or.inl ⟨by omega, z2⟩
  refine am_mth_of rfl rfl (v262_0 hp ?_)
  rw [show (0 : Int32) = ni 0 from rfl]
  exact LP _ 0 _ rfl (Nat.zero_le _) (bts_0 (fun j _ z => by omega))
/-- whether a kept body is this one -/
theorem sr_entry (hp : am_PF Pf) {d e d' : Nat} (hd : d ≤ 4) (he : e < 600) {T B : TX} {I : am_I} (hT : rTd d I T) (hB : txOK B) (hd' : d' ≤ 3) (b0 : I 187 (27 * e) = ni d') (b1 : I 187 (27 * e + 1) = ni B.1) (b2' : ∀ i, i < B.1 → I 187 (27 * e + 2 + i) = B.2 i) {d0 : Nat}
    (kk1 : d' = d → B.1 = T.1 → (∀ i, i < T.1 → B.2 i = T.2 i) → P (.inl (some (.int 1)), (am_SH, I, J, Pf), 0, 0)) (kk0 : P (.inl (some (.int 0)), (am_SH, I, J, Pf), 0, 0)) : am_mth (d0 + 2) 260 [.ref 163, .int (ni e), .int (ni d)] (am_SH, I, J, Pf) P := by
  have h24 := hT.2.1
  have hB24 := hB.1
  refine am_mth_of rfl rfl (v260_0 hp ?_)
  rw [show (27 : Int32) = ni 27 from rfl, ni_mul, show (ni (27 * e)).toNatClampNeg = 27 * e from ni_nat (by omega), b0]
  refine ⟨ni_in (by omega) (by omega), ?_⟩
  by_cases c : d' = d
  · rw [if_pos ((ni_inj (by omega) (by omega)).mpr c)]
    by_cases cl : B.1 = T.1
    · have LP : ∀ (m k : Nat), T.1 + 1 - k = m → 1 ≤ k → k ≤ T.1 + 1 → (∀ i, i + 1 < k → B.2 i = T.2 i) → am_go none (d0 + 1) 260 (20, [some (.ref 163), some (.int (ni e)), some (.int (ni d)), some (.int (ni (27 * e))), some (.int (ni k))], [], (am_SH, I, J, Pf), 0, 0) P := by
        intro m
        induction m with
        | zero =>
          intro k hm h1 hk hh
          refine v260_20 hp ?_
          rw [show (25 : Int32) = ni 25 from rfl, ni_mul, show (ni (25 * d)).toNatClampNeg = 25 * d from ni_nat (by omega), hT.1, if_pos ((ni_lt (by omega) (by omega)).mpr (by omega))]
          exact ⟨ni_in (by omega) (by omega), kk1 c cl (fun i hi => hh i (by omega))⟩
        | succ m ih =>
          intro k hm h1 hk hh
          obtain ⟨y, rfl⟩ : ∃ y, k = y + 1 := ⟨k - 1, by omega⟩
          refine v260_20 hp ?_
          rw [show (25 : Int32) = ni 25 from rfl, ni_mul, show (ni (25 * d)).toNatClampNeg = 25 * d from ni_nat (by omega), hT.1, if_neg (fun z => absurd ((ni_lt (by omega) (by omega)).mp z) (by omega)), ni_p1 (27 * e), ni_add, ni_add, show (ni (27 * e + 1 + (y + 1))).toNatClampNeg = 27 * e + 2 + y by rw [ni_nat (by omega)]; omega, show (ni (25 * d + (y + 1))).toNatClampNeg = 25 * d + 1 + y by rw [ni_nat (by omega)]; omega, b2' y (by omega), hT.2.2 y (by omega), ni_p1]
          refine ⟨ni_in (by omega) (by omega), ni_in (by omega) (by omega), ni_in (by omega) (by omega), ?_⟩
          by_cases c2 : B.2 y = T.2 y
          · rw [if_pos c2]
            refine ih (y + 1 + 1) (by omega) (by omega) (by omega) (fun i hi => ?_)
            by_cases ei : i = y
            · subst ei; exact c2
            · exact hh i (by omega)
          · rw [if_neg c2]; exact kk0
      refine v260_20 hp ?_
      rw [show (25 : Int32) = ni 25 from rfl, ni_mul, show (ni (25 * d)).toNatClampNeg = 25 * d from ni_nat (by omega), hT.1, if_neg (fun z => absurd ((llt 0 (by omega) (by omega)).mp z) (by omega)), ni_p1 (27 * e), show ni (27 * e + 1) + 0 = ni (27 * e + 1) from Int32.add_zero _, show ni (25 * d) + 0 = ni (25 * d) from Int32.add_zero _, show (ni (27 * e + 1)).toNatClampNeg = 27 * e + 1 from ni_nat (by omega), show (ni (25 * d)).toNatClampNeg = 25 * d from ni_nat (by omega), b1, hT.1, if_pos ((ni_inj (by omega) (by omega)).mpr cl)]
      exact ⟨ni_in (by omega) (by omega), ni_in (by omega) (by omega), ni_in (by omega) (by omega), LP _ 1 rfl (Nat.le_refl _) (by omega) (fun i hi => absurd hi (by omega))⟩
    · refine v260_20 hp ?_
      rw [show (25 : Int32) = ni 25 from rfl, ni_mul, show (ni (25 * d)).toNatClampNeg = 25 * d from ni_nat (by omega), hT.1, if_neg (fun z => absurd ((llt 0 (by omega) (by omega)).mp z) (by omega)), ni_p1 (27 * e), show ni (27 * e + 1) + 0 = ni (27 * e + 1) from Int32.add_zero _, show ni (25 * d) + 0 = ni (25 * d) from Int32.add_zero _, show (ni (27 * e + 1)).toNatClampNeg = 27 * e + 1 from ni_nat (by omega), show (ni (25 * d)).toNatClampNeg = 25 * d from ni_nat (by omega), b1, hT.1, if_neg (fun z => cl ((ni_inj (by omega) (by omega)).mp z))]
      exact ⟨ni_in (by omega) (by omega), ni_in (by omega) (by omega), ni_in (by omega) (by omega), kk0⟩
  · rw [if_neg (fun z => c ((ni_inj (by omega) (by omega)).mp z))]
    exact kk0
end SLV
