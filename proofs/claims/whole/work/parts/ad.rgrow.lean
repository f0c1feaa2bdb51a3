/-! The reference's trees grow -/
def rNd (I : am_I) (x : Nat) (n : ND) : Prop := I 194 x = ni n.1 ∧ I 195 x = ni n.2.1 ∧ I 196 x = ni n.2.2.1 ∧ I 197 x = ni n.2.2.2
def rLs2 (I : am_I) (L : List ND) : Prop := I 163 60 = ni L.length ∧ ∀ x n, L[x]? = some n → rNd I x n
def rGw (dp : Nat) (I I' : am_I) : Prop := ∀ o y, ¬ (194 ≤ o ∧ o ≤ 197) → ¬ (o = 163 ∧ y = 60) → ¬ (o = 198 ∧ 12 * dp ≤ y) → I' o y = I o y
theorem rGw.trans {dp : Nat} {I I' I'' : am_I} (h : rGw dp I I') (g : rGw dp I' I'') : rGw dp I I'' := fun o y e1 e2 e3 => (g o y e1 e2 e3).trans (h o y e1 e2 e3)
theorem rGw.kn {dp : Nat} {I I' : am_I} {w : Nat → Int32} {k : Nat} {T : TX} (h : rKn I w k T) (f : rGw dp I I') : rKn I' w k T := h.of (fun o y e => f o y (by omega) (by omega) (by omega))
/-- the parts of a node, as they are kept -/
def rKd (I : am_I) (base : Nat) (K : List (Nat × Nat × Nat)) : Prop := ∀ y n, K[y]? = some n → I 198 (base + 3 * y) = ni n.1 ∧ I 198 (base + 3 * y + 1) = ni n.2.1 ∧ I 198 (base + 3 * y + 2) = ni n.2.2
section RGR
variable {J : am_J} {Pf : am_R} {T : TX} {w : Nat → Int32}
theorem sr_grows (hp : am_PF Pf) (hG : WG w) {k0 : Nat} (hTo : txOK T) : ∀ (n : Nat) (P : am_O → Prop) (D : Nat) (I : am_I) (L : List ND) (x : ND), 200 - L.length ≤ n → L.length ≤ 200 → okN T.1 (HHx w k0 T) L.length x → rKn I w k0 T → rLs2 I L → 30 + n ≤ D → (∀ I' M, rLs2 I' (L ++ M) → (L ++ M).length ≤ 200 → (L.length < 200 → 1 ≤ M.length) → (∀ st, groW w T (HHx w k0 T) (200 - L.length) (x :: st) = M ++ groW w T (HHx w k0 T) (200 - (L ++ M).length) st) → rGw x.2.2.2 I I' → P (.inl none, (am_SH, I', J, Pf), 0, 0)) → am_mth D 302 [.ref 163, .int (ni x.1), .int (ni x.2.1), .int (ni x.2.2.1), .int (ni x.2.2.2)] (am_SH, I, J, Pf) P := by
  have h24 := hTo.1
  intro n
  induction n with
  | zero =>
    intro P D I L x hn hL hx hK hLs hD kk
    obtain ⟨D', rfl⟩ : ∃ D', D = D' + 3 := ⟨D - 3, by omega⟩
    have eL : L.length = 200 := by omega
    refine am_mth_of rfl rfl (v302_0 hp ?_)
    rw [hLs.1, eL, if_pos (show ni 200 = 200 from rfl)]
    refine kk I [] (by rw [List.append_nil]; exact hLs) (by rw [List.append_nil]; exact hL) (fun z => absurd z (by omega)) (fun st => ?_) (fun _ _ _ _ _ => rfl)
    rw [List.append_nil, eL]
    rfl
  | succ n ihn =>
    intro P D I L x hn hL hx hK hLs hD kk
    obtain ⟨D', rfl⟩ : ∃ D', D = D' + 3 := ⟨D - 3, by omega⟩
    obtain ⟨x8, xij, xj, xp, xd⟩ := id hx
    obtain ⟨s, i, j, dp⟩ := x
    dsimp only at x8 xij xj xp xd kk ⊢
    refine am_mth_of rfl rfl (v302_0 hp ?_)
    by_cases cL : L.length = 200
    · rw [hLs.1, cL, if_pos (show ni 200 = 200 from rfl)]
      refine kk I [] (by rw [List.append_nil]; exact hLs) (by rw [List.append_nil]; exact hL) (fun z => absurd z (by omega)) (fun st => ?_) (fun _ _ _ _ _ => rfl)
      rw [List.append_nil, cL]
      rfl
    rw [hLs.1, if_neg (fun z => cL ((leq 200 (by omega) (by omega)).mp z)), show (ni L.length).toNatClampNeg = L.length from ni_nat (by omega), ni_p1]
    have bL : am_in (ni L.length) 200 = true := ni_in (by omega) (by omega)
    refine ⟨bL, bL, bL, bL, ?_⟩
    generalize hI1 : am_u (am_u (am_u (am_u (am_u I 194 L.length (ni s)) 195 L.length (ni i)) 196 L.length (ni j)) 197 L.length (ni dp)) 163 60 (ni (L.length + 1)) = I1
    have f1 : rGw dp I I1 := fun o y e1 e2 e3 => by rw [← hI1, am_u_nq (by omega), am_u_nq (by omega), am_u_nq (by omega), am_u_nq (by omega), am_u_nq (by omega)]
    have hlen1 : (L ++ [((s, i, j, dp) : ND)]).length = L.length + 1 := by rw [List.length_append]; rfl
    have hLs1 : rLs2 I1 (L ++ [(s, i, j, dp)]) := by
      refine ⟨by rw [← hI1, am_u_same, hlen1], fun y m hy => ?_⟩
      by_cases c : y < L.length
      · rw [List.getElem?_append_left c] at hy
        obtain ⟨a1, a2, a3, a4⟩ := hLs.2 y m hy
        refine ⟨?_, ?_, ?_, ?_⟩
        · rw [← hI1, am_u_nq (by omega), am_u_nq (by omega), am_u_nq (by omega), am_u_nq (by omega), am_u_nq (by omega)]; exact a1
        · rw [← hI1, am_u_nq (by omega), am_u_nq (by omega), am_u_nq (by omega), am_u_nq (by omega), am_u_nq (by omega)]; exact a2
        · rw [← hI1, am_u_nq (by omega), am_u_nq (by omega), am_u_nq (by omega), am_u_nq (by omega), am_u_nq (by omega)]; exact a3
        · rw [← hI1, am_u_nq (by omega), am_u_nq (by omega), am_u_nq (by omega), am_u_nq (by omega), am_u_nq (by omega)]; exact a4
      · rw [List.getElem?_append_right (by omega)] at hy
        by_cases c2 : y = L.length
        · subst c2
          rw [Nat.sub_self] at hy
          cases hy
          refine ⟨?_, ?_, ?_, ?_⟩
          · rw [← hI1, am_u_nq (by omega), am_u_nq (by omega), am_u_nq (by omega), am_u_nq (by omega)]; exact am_u_same
          · rw [← hI1, am_u_nq (by omega), am_u_nq (by omega), am_u_nq (by omega)]; exact am_u_same
          · rw [← hI1, am_u_nq (by omega), am_u_nq (by omega)]; exact am_u_same
          · rw [← hI1, am_u_nq (by omega)]; exact am_u_same
        · rw [show ([((s, i, j, dp) : ND)] : List ND)[y - L.length]? = none from List.getElem?_eq_none (by simp only [List.length_cons, List.length_nil]; omega)] at hy
          cases hy
    have hK1 : rKn I1 w k0 T := f1.kn hK
    have gro1 : ∀ st, groW w T (HHx w k0 T) (200 - L.length) ((s, i, j, dp) :: st) = (s, i, j, dp) :: groW w T (HHx w k0 T) (200 - (L.length + 1)) (kidsN w T (HHx w k0 T) (s, i, j, dp) ++ st) := by
      intro st
      rw [show 200 - L.length = (200 - (L.length + 1)) + 1 by omega]
      rfl
    have hkN : kidsN w T (HHx w k0 T) (s, i, j, dp) = (kidsW w T (HHx w k0 T) s i j).map (ndK (dp + 1)) := rfl
    refine sr_prodof hp hG hK1 hTo x8 xij xj xp (by omega) (fun p hpd hl => am_back (v302_69 hp ?_)) (fun hno => am_back (v302_69 hp ?_))
    · obtain ⟨hpp, hps, hce⟩ := hpd
      obtain ⟨-, ⟨w1, w1'⟩, -⟩ := id hG.1
      obtain ⟨g1, g2, g3, g4, g5, g6⟩ := hG.pr hpp
      have hh := hK1.h h24 x8 xij xj
      have hx0 := ix0 x8 (show i < 25 by omega) (show j < 25 by omega)
      have hkW : kidsW w T (HHx w k0 T) s i j = kidW w T (HHx w k0 T) p j (HHx w k0 T s i j - 1) (wN w (32 + 3 * p + 2)) 0 i := by
        show cif _ _ _ = _
        rw [cif_t ⟨p, hpp, hps, hce⟩, hl]
      rw [if_neg (ni_neg1 (by omega)), hx0.1, hx0.2.2, hh.1, show ni (HHx w k0 T s i j) - 1 = ni (HHx w k0 T s i j - 1) from ni_sub (b := 1) (by omega), show (12 : Int32) = ni 12 from rfl, ni_mul, show (0 : Int32) = ni 0 from rfl]
      refine ⟨hx0.2.1, ?_⟩
      generalize hmm : HHx w k0 T s i j - 1 = m at *
      have hm5 : m < 100000 := by omega
      -- the second loop: the parts grow
      have LG : ∀ (q y : Nat) (I2 : am_I) (M : List ND) (l1 l2 l3 l5 l6 l9 l11 l12 l13 : Option Value), am_k1 l9 = true → (kidsW w T (HHx w k0 T) s i j).length - y = q → y ≤ (kidsW w T (HHx w k0 T) s i j).length → rLs2 I2 (L ++ M) → (L ++ M).length ≤ 200 → 1 ≤ M.length → rKn I2 w k0 T → rGw dp I I2 → rKd I2 (12 * dp) (kidsW w T (HHx w k0 T) s i j) → (∀ st, groW w T (HHx w k0 T) (200 - L.length) ((s, i, j, dp) :: st) = M ++ groW w T (HHx w k0 T) (200 - (L ++ M).length) (((kidsW w T (HHx w k0 T) s i j).drop y).map (ndK (dp + 1)) ++ st)) → am_go none (D' + 2) 302 (301, [some (.ref 163), l1, l2, l3, some (.int (ni dp)), l5, l6, some (.int (ni (12 * dp))), some (.int (ni (kidsW w T (HHx w k0 T) s i j).length)), l9, some (.int (ni y)), l11, l12, l13], [], (am_SH, I2, J, Pf), 0, 0) P := by
        have hok := (kidsN_ok hG (c := L.length) (x := (s, i, j, dp)) hx)
        rw [hkN] at hok
        have hk4 := hok.1
        rw [List.length_map] at hk4
        intro q
        induction q with
        | zero =>
          intro y I2 M l1 l2 l3 l5 l6 l9 l11 l12 l13 h9 hq hy hLs2 hl2 hM1 hK2 f2 hKd hgr
          have : y = (kidsW w T (HHx w k0 T) s i j).length := by omega
          subst this
          refine v302_301 hp ?_
          rw [if_pos ((ni_le (by omega) (by omega)).mpr (Nat.le_refl _))]
          refine kk I2 M hLs2 hl2 (fun _ => hM1) (fun st => ?_) f2
          rw [hgr st, List.drop_length]
          rfl
        | succ q ihq =>
          intro y I2 M l1 l2 l3 l5 l6 l9 l11 l12 l13 h9 hq hy hLs2 hl2 hM1 hK2 f2 hKd hgr
          obtain ⟨kd, hkd⟩ : ∃ kd, (kidsW w T (HHx w k0 T) s i j)[y]? = some kd := ⟨_, List.getElem?_eq_getElem (by omega)⟩
          obtain ⟨r1, r2, r3⟩ := hKd y kd hkd
          have hokd := hok.2 (ndK (dp + 1) kd) (List.mem_map.mpr ⟨kd, List.mem_of_getElem? hkd, rfl⟩)
          have e3 : ni (12 * dp) + 3 * ni y = ni (12 * dp + 3 * y) := by rw [show (3 : Int32) = ni 3 from rfl, ni_mul, ni_add]
          refine v302_301 hp ?_
          rw [if_neg (fun z => absurd ((ni_le (by omega) (by omega)).mp z) (by omega)), e3, ni_p1 (12 * dp + 3 * y), ni_p2 (12 * dp + 3 * y), show (ni (12 * dp + 3 * y)).toNatClampNeg = 12 * dp + 3 * y from ni_nat (by omega), show (ni (12 * dp + 3 * y + 1)).toNatClampNeg = 12 * dp + 3 * y + 1 from ni_nat (by omega), show (ni (12 * dp + 3 * y + 2)).toNatClampNeg = 12 * dp + 3 * y + 2 from ni_nat (by omega), r1, r2, r3, ni_p1 dp]
          refine ⟨ni_in (by omega) (by omega), ni_in (by omega) (by omega), ni_in (by omega) (by omega), ?_⟩
          have hlM : L.length + 1 ≤ (L ++ M).length := by rw [List.length_append]; omega
          refine ihn _ (D' + 2) I2 (L ++ M) (ndK (dp + 1) kd) (by omega) hl2 (hokd.mono hlM) hK2 hLs2 (by omega) (fun I3 M2 z1 z2 z3 z4 z5 => am_back (v302_356 hp h9 ?_))
          rw [ni_p1]
          have z5' : rGw (dp + 1) I2 I3 := z5
          refine ihq (y + 1) I3 (M ++ M2) _ _ _ _ _ _ _ _ _ h9 (by omega) (by omega) (by rw [← List.append_assoc]; exact z1) (by rw [← List.append_assoc]; exact z2) (by rw [List.length_append]; omega) (z5'.kn hK2) (fun o u e1 e2 e3 => (z5' o u e1 e2 (by omega)).trans (f2 o u e1 e2 e3)) (fun u m hu => ?_) (fun st => ?_)
          · have hu4 := (List.getElem?_eq_some_iff.mp hu).1
            obtain ⟨b1, b2, b3⟩ := hKd u m hu
            rw [z5' _ _ (by omega) (by omega) (by omega), z5' _ _ (by omega) (by omega) (by omega), z5' _ _ (by omega) (by omega) (by omega)]
            exact ⟨b1, b2, b3⟩
          · rw [hgr st, List.drop_eq_getElem_cons (by omega)]
            have hge : (kidsW w T (HHx w k0 T) s i j)[y]'(by omega) = kd := by
              have := List.getElem?_eq_getElem (l := kidsW w T (HHx w k0 T) s i j) (i := y) (by omega)
              rw [hkd] at this
              exact (Option.some.inj this).symm
            rw [hge, List.map_cons, List.cons_append, z4, ← List.append_assoc, ← List.append_assoc]
      -- the first loop: which parts
      have LK : ∀ (q k a : Nat) (I2 : am_I) (K : List (Nat × Nat × Nat)) (l1 l2 l11 l12 l13 : Option Value), q = wN w (32 + 3 * p + 2) - k → k ≤ wN w (32 + 3 * p + 2) → i ≤ a → a ≤ j → ceW w T (HHx w k0 T) p j m q k a → K.length ≤ k → rKd I2 (12 * dp) K → rLs2 I2 (L ++ [(s, i, j, dp)]) → rKn I2 w k0 T → rGw dp I I2 → kidsW w T (HHx w k0 T) s i j = K ++ kidW w T (HHx w k0 T) p j m q k a → am_go none (D' + 2) 302 (110, [some (.ref 163), l1, l2, some (.int (ni j)), some (.int (ni dp)), some (.int (ni p)), some (.int (ni m)), some (.int (ni (12 * dp))), some (.int (ni K.length)), some (.int (ni a)), some (.int (ni k)), l11, l12, l13], [], (am_SH, I2, J, Pf), 0, 0) P := by
        intro q
        induction q with
        | zero =>
          intro k a I2 K l1 l2 l11 l12 l13 hq hk hia haj hcek hKl hKd hLs2 hK2 f2 hkid
          have hkN' : k = wN w (32 + 3 * p + 2) := by omega
          have hKe : kidsW w T (HHx w k0 T) s i j = K := by rw [hkid]; unfold kidW; exact List.append_nil _
          refine v302_110 hp ?_
          rw [show (3 : Int32) = ni 3 from rfl, ni_mul, show (32 : Int32) + ni (3 * p) = ni (32 + 3 * p) from ni_add 32 _, ni_p2, show (ni (32 + 3 * p + 2)).toNatClampNeg = 32 + 3 * p + 2 from ni_nat (by omega), hK2.1, g4, if_pos ((ni_le (by omega) (by omega)).mpr (by omega)), show (0 : Int32) = ni 0 from rfl]
          refine ⟨ni_in (by omega) (by omega), ?_⟩
          have := LG (kidsW w T (HHx w k0 T) s i j).length 0 I2 [(s, i, j, dp)] l1 l2 (some (.int (ni j))) (some (.int (ni p))) (some (.int (ni m))) (some (.int (ni a))) l11 l12 l13 rfl (by omega) (Nat.zero_le _) hLs2 (by rw [hlen1]; omega) (Nat.le_refl _) hK2 f2 (by rw [hKe]; exact hKd) (fun st => by rw [gro1 st, hlen1, hkN]; rfl)
          rw [hKe] at this
          exact this
        | succ q ihq =>
          intro k a I2 K l1 l2 l11 l12 l13 hq hk hia haj hcek hKl hKd hLs2 hK2 f2 hkid
          have hE : eP p k + 11 ≤ 1040 := by unfold eP; omega
          have hb2 := bgW_le (w := w) (p := p) (k := k) (show a ≤ T.1 by omega)
          obtain ⟨e0, he0⟩ := ceW_go (by omega) hcek
          obtain ⟨l1', l2', l3'⟩ := lst_le he0
          have hge0 := goW_le hG he0
          have hgel := goW_le hG l1'
          have ekid : kidW w T (HHx w k0 T) p j m (q + 1) k a = if w (eP p k) = 1 then (wN w (eP p k + 1), bgW w T p k a, lst (goW w T (HHx w k0 T) p j m k (bgW w T p k a))) :: kidW w T (HHx w k0 T) p j m q (k + 1) (lst (goW w T (HHx w k0 T) p j m k (bgW w T p k a))) else kidW w T (HHx w k0 T) p j m q (k + 1) (lst (goW w T (HHx w k0 T) p j m k (bgW w T p k a))) := rfl
          rw [ekid] at hkid
          refine v302_110 hp ?_
          rw [show (3 : Int32) = ni 3 from rfl, ni_mul, show (32 : Int32) + ni (3 * p) = ni (32 + 3 * p) from ni_add 32 _, ni_p2, show (ni (32 + 3 * p + 2)).toNatClampNeg = 32 + 3 * p + 2 from ni_nat (by omega), hK2.1, g4, if_neg (fun z => absurd ((ni_le (by omega) (by omega)).mp z) (by omega)), show (92 : Int32) + ((4 : Int32) * ni p + ni k) * 11 = ni (eP p k) by
            rw [show (92 : Int32) = ni 92 from rfl, show (4 : Int32) = ni 4 from rfl, show (11 : Int32) = ni 11 from rfl, ni_mul, ni_add, ni_mul, ni_add]; rfl, show (0 : Int32) = ni 0 from rfl]
          refine ⟨ni_in (by omega) (by omega), ?_⟩
          obtain ⟨D2, hD2⟩ : ∃ D2, D' + 2 = D2 + 5 := ⟨D' - 3, by omega⟩
          have hsb := sr_begin (d0 := D2 + 2) (J := J) (P := am_af none (D' + 2) 302 152 [some (.ref 163), l1, l2, some (.int (ni j)), some (.int (ni dp)), some (.int (ni p)), some (.int (ni m)), some (.int (ni (12 * dp))), some (.int (ni K.length)), some (.int (ni a)), some (.int (ni k)), some (.int (ni (eP p k))), l12, l13] [.int (ni a), .int (ni k), .int (ni p), .int (ni 0), .ref 163] [] (am_SH, I2, J, Pf) 0 0 true P) hp hG (Nat.zero_le 3) hK2.1 hK2.2.1 hTo hpp (show k < 100 by omega) (show a ≤ T.1 by omega)
          rw [← hD2] at hsb
          refine hsb (am_back (v302_155 hp ?_))
          generalize hbb : bgW w T p k a = b at *
          generalize hee : lst (goW w T (HHx w k0 T) p j m k b) = e at *
          have hce2 : ceW w T (HHx w k0 T) p j m q (k + 1) e := by
            have := l1'.2.2
            rw [show wN w (32 + 3 * p + 2) - k - 1 = q by omega] at this
            exact this
          rw [hK2.1, show (ni (eP p k)).toNatClampNeg = eP p k from ni_nat (by omega)]
          refine ⟨ni_in (by omega) (by omega), ?_⟩
          by_cases c1 : w (eP p k) = 1
          · rw [if_pos c1]
            rw [if_pos c1] at hkid
            obtain ⟨t8, te⟩ := WG.so (g6 k (by omega)) c1
            generalize htt : wN w (eP p k + 1) = t at *
            have LE : ∀ (m2 y : Nat), e - y = m2 → b ≤ y → y ≤ e → am_go none (D' + 2) 302 (186, [some (.ref 163), l1, l2, some (.int (ni j)), some (.int (ni dp)), some (.int (ni p)), some (.int (ni m)), some (.int (ni (12 * dp))), some (.int (ni K.length)), some (.int (ni a)), some (.int (ni k)), some (.int (ni (eP p k))), some (.int (ni b)), some (.int (ni y))], [], (am_SH, I2, J, Pf), 0, 0) P := by
              intro m2
              induction m2 with
              | zero =>
                intro y hm2 hby hye
                have : y = e := by omega
                subst this
                have hlow : lo (HHx w k0 T) m t b y := by
                  rcases l1'.2.1 with z | z | z
                  · have := z.1; rw [c1] at this; cases this
                  · have := z.2.2.2; rw [htt] at this; exact this
                  · have := z.1; rw [c1] at this; cases this
                have hh2 := hK2.h h24 t8 hby (show y ≤ T.1 by omega)
                have hx2 := ix0 t8 (show b < 25 by omega) (show y < 25 by omega)
                have e3 : ni (12 * dp) + 3 * ni K.length = ni (12 * dp + 3 * K.length) := by rw [show (3 : Int32) = ni 3 from rfl, ni_mul, ni_add]
                refine v302_186 hp ?_
                rw [hK2.1, ni_p1 (eP p k), show (ni (eP p k + 1)).toNatClampNeg = eP p k + 1 from ni_nat (by omega), te, hx2.1, hx2.2.2, hh2.1, if_neg (fun z => absurd ((lle 0 (by omega) (by omega)).mp z) (by unfold lo at hlow; omega)), if_neg (fun z => absurd ((ni_lt (by omega) (by omega)).mp z) (by unfold lo at hlow; omega)), ni_p1 k]
                refine ⟨ni_in (by omega) (by omega), hx2.2.1, ?_⟩
                refine sr_canend hp hG hK2 hTo hpp xj hm5 q (k + 1) y (D' + 2) _ (by omega) (by omega) (by omega) (by omega) (fun z => am_back (v302_223 hp ?_)) (fun z => absurd hce2 z)
                rw [if_neg (by decide), hK2.1, ni_p1 (eP p k), show (ni (eP p k + 1)).toNatClampNeg = eP p k + 1 from ni_nat (by omega), te, e3, ni_p1 (12 * dp + 3 * K.length), ni_p2 (12 * dp + 3 * K.length), show (ni (12 * dp + 3 * K.length)).toNatClampNeg = 12 * dp + 3 * K.length from ni_nat (by omega), show (ni (12 * dp + 3 * K.length + 1)).toNatClampNeg = 12 * dp + 3 * K.length + 1 from ni_nat (by omega), show (ni (12 * dp + 3 * K.length + 2)).toNatClampNeg = 12 * dp + 3 * K.length + 2 from ni_nat (by omega), ni_p1 K.length, ni_p1 k]
                refine ⟨ni_in (by omega) (by omega), ni_in (by omega) (by omega), ni_in (by omega) (by omega), ni_in (by omega) (by omega), ?_⟩
                have hlK : (K ++ [(t, b, y)]).length = K.length + 1 := by rw [List.length_append]; rfl
                have := ihq (k + 1) y (am_u (am_u (am_u I2 198 (12 * dp + 3 * K.length) (ni t)) 198 (12 * dp + 3 * K.length + 1) (ni b)) 198 (12 * dp + 3 * K.length + 2) (ni y)) (K ++ [(t, b, y)]) l1 l2 (some (.int (ni (eP p k)))) (some (.int (ni b))) (some (.int (ni y))) (by omega) (by omega) (by omega) (by omega) hce2 (by rw [hlK]; omega) (fun u nn hu => ?_) ⟨by rw [am_u_nq (by omega), am_u_nq (by omega), am_u_nq (by omega)]; exact hLs2.1, fun u nn hu => ?_⟩ (hK2.of (fun o u ho => by rw [am_u_nq (by omega), am_u_nq (by omega), am_u_nq (by omega)])) (fun o u e1 e2 e3 => by rw [am_u_nq (by omega), am_u_nq (by omega), am_u_nq (by omega)]; exact f2 o u e1 e2 e3) (by rw [hkid, List.append_assoc]; rfl)
                · rw [hlK] at this
                  exact this
                · by_cases cu : u < K.length
                  · rw [List.getElem?_append_left cu] at hu
                    obtain ⟨b1, b2, b3⟩ := hKd u nn hu
                    refine ⟨?_, ?_, ?_⟩
                    · rw [am_u_nq (by omega), am_u_nq (by omega), am_u_nq (by omega)]; exact b1
                    · rw [am_u_nq (by omega), am_u_nq (by omega), am_u_nq (by omega)]; exact b2
                    · rw [am_u_nq (by omega), am_u_nq (by omega), am_u_nq (by omega)]; exact b3
                  · rw [List.getElem?_append_right (by omega)] at hu
                    by_cases cu2 : u = K.length
                    · subst cu2
                      rw [Nat.sub_self] at hu
                      cases hu
                      refine ⟨?_, ?_, ?_⟩
                      · rw [am_u_nq (by omega), am_u_nq (by omega)]; exact am_u_same
                      · rw [am_u_nq (by omega)]; exact am_u_same
                      · exact am_u_same
                    · rw [show ([(t, b, y)] : List (Nat × Nat × Nat))[u - K.length]? = none from List.getElem?_eq_none (by simp only [List.length_cons, List.length_nil]; omega)] at hu
                      cases hu
                · obtain ⟨b1, b2, b3, b4⟩ := hLs2.2 u nn hu
                  refine ⟨?_, ?_, ?_, ?_⟩
                  · rw [am_u_nq (by omega), am_u_nq (by omega), am_u_nq (by omega)]; exact b1
                  · rw [am_u_nq (by omega), am_u_nq (by omega), am_u_nq (by omega)]; exact b2
                  · rw [am_u_nq (by omega), am_u_nq (by omega), am_u_nq (by omega)]; exact b3
                  · rw [am_u_nq (by omega), am_u_nq (by omega), am_u_nq (by omega)]; exact b4
              | succ m2 ihm =>
                intro y hm2 hby hye
                have hngo := l2' y (by omega)
                have hh2 := hK2.h h24 t8 hby (show y ≤ T.1 by omega)
                have hx2 := ix0 t8 (show b < 25 by omega) (show y < 25 by omega)
                refine v302_186 hp ?_
                rw [hK2.1, ni_p1 (eP p k), show (ni (eP p k + 1)).toNatClampNeg = eP p k + 1 from ni_nat (by omega), te, hx2.1, hx2.2.2, hh2.1, ni_p1 y, ni_p1 k]
                refine ⟨ni_in (by omega) (by omega), hx2.2.1, ?_⟩
                by_cases c2 : HHx w k0 T t b y = 0
                · rw [if_pos ((lle 0 (by omega) (by omega)).mpr (by omega))]
                  exact ihm (y + 1) (by omega) (by omega) (by omega)
                · rw [if_neg (fun z => absurd ((lle 0 (by omega) (by omega)).mp z) (by omega))]
                  by_cases c3 : m < HHx w k0 T t b y
                  · rw [if_pos ((ni_lt (by omega) (by omega)).mpr c3)]
                    exact ihm (y + 1) (by omega) (by omega) (by omega)
                  · rw [if_neg (fun z => c3 ((ni_lt (by omega) (by omega)).mp z))]
                    refine sr_canend hp hG hK2 hTo hpp xj hm5 q (k + 1) y (D' + 2) _ (by omega) (by omega) (by omega) (by omega) (fun z => ?_) (fun z => am_back (v302_223 hp ?_))
                    · refine absurd ⟨by omega, Or.inr (Or.inl ⟨c1, hby, by omega, by rw [htt]; exact ⟨by omega, by omega⟩⟩), ?_⟩ hngo
                      rw [show wN w (32 + 3 * p + 2) - k - 1 = q by omega]
                      exact z
                    · rw [if_pos rfl, ni_p1]
                      exact ihm (y + 1) (by omega) (by omega) (by omega)
            exact LE _ b rfl (Nat.le_refl _) (by omega)
          · rw [if_neg c1] at hkid
            rw [if_neg c1]
            have hse := sr_endof (d0 := D2 + 3) (J := J) (P := am_af none (D' + 2) 302 174 [some (.ref 163), l1, l2, some (.int (ni j)), some (.int (ni dp)), some (.int (ni p)), some (.int (ni m)), some (.int (ni (12 * dp))), some (.int (ni K.length)), some (.int (ni a)), some (.int (ni k)), some (.int (ni (eP p k))), some (.int (ni b)), l13] [.int (ni b), .int (ni (eP p k)), .int (ni 0), .ref 163] [] (am_SH, I2, J, Pf) 0 0 true P) hp hG (Nat.zero_le 3) hK2.1 hK2.2.1 hTo hpp (show k < wN w (32 + 3 * p + 2) by omega) c1 (show b < 100 by omega) (lo (HHx w k0 T) m)
            rw [← hD2] at hse
            refine hse (fun e' he' => am_back (v302_177 hp ?_)) (fun he' => absurd l1'.2.1 (he' e))
            have : e' = e := by
              rcases he' with z | z | z
              · rcases l1'.2.1 with y | y | y
                · omega
                · exact absurd y.1 c1
                · have := y.1; rw [z.1] at this; cases this
              · exact absurd z.1 c1
              · rcases l1'.2.1 with y | y | y
                · have := y.1; rw [z.1] at this; cases this
                · exact absurd y.1 c1
                · omega
            subst this
            rw [ni_p1]
            exact ihq (k + 1) e' I2 K _ _ _ _ _ (by omega) (by omega) (by omega) (by omega) hce2 (by omega) hKd hLs2 hK2 f2 hkid
      exact LK (wN w (32 + 3 * p + 2)) 0 i I1 [] _ _ _ _ _ (by rw [Nat.sub_zero]) (Nat.zero_le _) (Nat.le_refl _) xij hce (Nat.le_refl _) (fun u nn hu => by cases hu) hLs1 hK1 f1 (by rw [hkW]; rfl)
    · rw [if_pos rfl]
      refine kk I1 [(s, i, j, dp)] hLs1 (by rw [hlen1]; omega) (fun _ => Nat.le_refl _) (fun st => ?_) f1
      rw [gro1 st, hlen1, hkN]
      have : kidsW w T (HHx w k0 T) s i j = [] := cif_f hno
      rw [this]
      rfl
end RGR
