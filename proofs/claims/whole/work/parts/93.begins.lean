/-! The signs that a sort can begin with; the class -/
theorem isSg_ni {v : Int32} (h : isSg v = true) : ∃ c, 32 ≤ c ∧ c ≤ 126 ∧ v = ni c := by
  unfold isSg at h
  have h := of_decide_eq_true h
  have h1 := Int32.le_iff_toInt_le.mp h.1
  have h2 := Int32.le_iff_toInt_le.mp h.2
  rw [show (32 : Int32).toInt = 32 from rfl] at h1
  rw [show (126 : Int32).toInt = 126 from rfl] at h2
  refine ⟨v.toInt.toNat, by omega, by omega, Int32.toInt_inj.mp ?_⟩
  rw [ni_int (by omega)]
  omega
/-- part k of production p can begin with sign c -/
def bgE (w : Nat → Int32) (B : Nat → Nat → Bool) (p k c : Nat) : Bool := if w (eP p k) = 0 then wCls w (wN w (eP p k + 1)) c else if w (eP p k) = 1 then B (wN w (eP p k + 1)) c else decide (w (eP p k + 3) = ni (c + 32))
def bgK (w : Nat → Int32) (p k : Nat) (B : Nat → Nat → Bool) : Nat → Nat → Bool := fun s c => B s c || (decide (wN w (32 + 3 * p) = s) && bgE w B p k c)
def bgGo (w : Nat → Int32) (E : Nat → Bool) (p : Nat) : Nat → Nat → (Nat → Nat → Bool) → Nat → Nat → Bool
  | 0, _, B => B
  | m + 1, k, B => if emPt w E p k = true then bgGo w E p m (k + 1) (bgK w p k B) else bgK w p k B
def bgP (w : Nat → Int32) (E : Nat → Bool) (p : Nat) (B : Nat → Nat → Bool) : Nat → Nat → Bool := bgGo w E p (wN w (32 + 3 * p + 2)) 0 B
def bgR (w : Nat → Int32) (E : Nat → Bool) (m : Nat) (B : Nat → Nat → Bool) : Nat → Nat → Bool := foldN m (bgP w E) B
def bgQ (w : Nat → Int32) (q : Nat) (B : Nat → Nat → Bool) : Nat → Nat → Bool := fun s c => B s c || (decide (wN w (972 + 5 * q) = s) && decide (w (972 + 5 * q + 2) = ni (c + 32)))
def bgQs (w : Nat → Int32) (m : Nat) (B : Nat → Nat → Bool) : Nat → Nat → Bool := foldN m (bgQ w) B
/-- the class's rounds; the reference's -/
def bgC (w : Nat → Int32) (j : Nat) : Nat → Nat → Bool := foldN j (fun _ B => bgQs w (wN w 2) (bgR w (emX w 8) (wN w 1) B)) (fun _ _ => false)
def bgF (w : Nat → Int32) (j : Nat) : Nat → Nat → Bool := foldN j (fun _ B => bgR w (emX w 8) (wN w 1) B) (bgQs w (wN w 2) (fun _ _ => false))
/-- closed under a production's parts; under a quote -/
def bgCp (w : Nat → Int32) (E : Nat → Bool) (B : Nat → Nat → Bool) (p : Nat) : Prop := ∀ k, k < wN w (32 + 3 * p + 2) → emOk w p k E = true → ∀ c, bgE w B p k c = true → B (wN w (32 + 3 * p)) c = true
def bgCq (w : Nat → Int32) (B : Nat → Nat → Bool) (q : Nat) : Prop := ∀ c, w (972 + 5 * q + 2) = ni (c + 32) → B (wN w (972 + 5 * q)) c = true
def bgT (w : Nat → Int32) (s c : Nat) : Prop := ∀ B : Nat → Nat → Bool, (∀ p, p < wN w 1 → bgCp w (emX w 8) B p) → (∀ q, q < wN w 2 → bgCq w B q) → B s c = true
def bgLe (B F : Nat → Nat → Bool) : Prop := ∀ s c, B s c = true → F s c = true
theorem bgE_mono {w : Nat → Int32} {B F : Nat → Nat → Bool} {p k c : Nat} (h : bgLe B F) (g : bgE w B p k c = true) : bgE w F p k c = true := by
  unfold bgE at *
  split
  · rename_i e; rw [if_pos e] at g; exact g
  · rename_i e
    rw [if_neg e] at g
    split
    · rename_i e2; rw [if_pos e2] at g; exact h _ _ g
    · rename_i e2; rw [if_neg e2] at g; exact g
theorem bgK_up {w : Nat → Int32} {p k : Nat} {B : Nat → Nat → Bool} : bgLe B (bgK w p k B) := fun s c h => by unfold bgK; rw [h]; rfl
theorem bgGo_up {w : Nat → Int32} {E : Nat → Bool} {p : Nat} : ∀ (m k : Nat) (B : Nat → Nat → Bool), bgLe B (bgGo w E p m k B)
  | 0, k, B => fun _ _ h => h
  | m + 1, k, B => fun s c h => by
    unfold bgGo
    split
    · exact bgGo_up m (k + 1) _ s c (bgK_up s c h)
    · exact bgK_up s c h
theorem bgGo_at {w : Nat → Int32} {E : Nat → Bool} {p : Nat} : ∀ (m k i : Nat) (B : Nat → Nat → Bool) (c : Nat), k ≤ i → i < k + m → emOk w p i E = true → bgE w B p i c = true → bgGo w E p m k B (wN w (32 + 3 * p)) c = true
  | 0, k, i, B, c, h1, h2, _, _ => absurd h2 (by omega)
  | m + 1, k, i, B, c, h1, h2, h3, h4 => by
    unfold bgGo
    have hk : bgE w B p k c = true → bgK w p k B (wN w (32 + 3 * p)) c = true := fun h => by unfold bgK; rw [h, decide_eq_true rfl]; simp
    by_cases e : i = k
    · subst e
      split
      · exact bgGo_up m (i + 1) _ _ c (hk h4)
      · exact hk h4
    · rw [if_pos ((allB_iff i).mp h3 k (by omega))]
      exact bgGo_at m (k + 1) i _ c (by omega) (by omega) h3 (bgE_mono bgK_up h4)
theorem bgGo_le {w : Nat → Int32} {E : Nat → Bool} {p : Nat} {F : Nat → Nat → Bool} (hF : bgCp w E F p) : ∀ (m k : Nat) (B : Nat → Nat → Bool), k + m = wN w (32 + 3 * p + 2) → emOk w p k E = true → bgLe B F → bgLe (bgGo w E p m k B) F
  | 0, k, B, _, _, h => h
  | m + 1, k, B, h1, h2, h => by
    have hk : bgLe (bgK w p k B) F := by
      intro s c g
      unfold bgK at g
      rw [Bool.or_eq_true, Bool.and_eq_true, decide_eq_true_iff] at g
      rcases g with g | ⟨rfl, g⟩
      · exact h s c g
      · exact hF k (by omega) h2 c (bgE_mono h g)
    unfold bgGo
    split
    · rename_i e
      exact bgGo_le hF m (k + 1) _ (by omega) (by show (emOk w p k E && emPt w E p k) = true; rw [h2, e]; rfl) hk
    · exact hk
theorem bgR_p {w : Nat → Int32} {E : Nat → Bool} {m : Nat} {B : Nat → Nat → Bool} : bgLe B (bgR w E m B) ∧ ∀ p, p < m → ∀ k, k < wN w (32 + 3 * p + 2) → emOk w p k E = true → ∀ c, bgE w B p k c = true → bgR w E m B (wN w (32 + 3 * p)) c = true := by
  refine foldN_ind (Q := fun (n : Nat) (y : Nat → Nat → Bool) => bgLe B y ∧ ∀ p, p < n → ∀ k, k < wN w (32 + 3 * p + 2) → emOk w p k E = true → ∀ c, bgE w B p k c = true → y (wN w (32 + 3 * p)) c = true) ⟨fun _ _ h => h, fun p hp => absurd hp (by omega)⟩ (fun n y hn hy => ⟨fun s c h => bgGo_up _ _ _ s c (hy.1 s c h), fun p hp k hk h1 c h2 => ?_⟩)
  by_cases e : p = n
  · subst e
    exact bgGo_at _ 0 k y c (by omega) (by omega) h1 (bgE_mono hy.1 h2)
  · exact bgGo_up _ _ _ _ c (hy.2 p (by omega) k hk h1 c h2)
theorem bgQs_p {w : Nat → Int32} {m : Nat} {B : Nat → Nat → Bool} : bgLe B (bgQs w m B) ∧ ∀ q, q < m → bgCq w (bgQs w m B) q := by
  refine foldN_ind (Q := fun (n : Nat) (y : Nat → Nat → Bool) => bgLe B y ∧ ∀ q, q < n → bgCq w y q) ⟨fun _ _ h => h, fun q hq => absurd hq (by omega)⟩ (fun n y hn hy => ⟨fun s c h => ?_, fun q hq c hc => ?_⟩)
  · unfold bgQ; rw [hy.1 s c h]; rfl
  · unfold bgQ
    by_cases e : q = n
    · subst e; rw [decide_eq_true rfl, decide_eq_true hc]; simp
    · rw [hy.2 q (by omega) c hc]; rfl
theorem bgR_le {w : Nat → Int32} {E : Nat → Bool} {m : Nat} {B F : Nat → Nat → Bool} (h : bgLe B F) (hF : ∀ p, p < m → bgCp w E F p) : bgLe (bgR w E m B) F :=
  foldN_ind (Q := fun _ (y : Nat → Nat → Bool) => bgLe y F) h (fun p y hp hy => bgGo_le (hF p hp) _ 0 y (by omega) rfl hy)
theorem bgQs_le {w : Nat → Int32} {m : Nat} {B F : Nat → Nat → Bool} (h : bgLe B F) (hF : ∀ q, q < m → bgCq w F q) : bgLe (bgQs w m B) F :=
  foldN_ind (Q := fun _ (y : Nat → Nat → Bool) => bgLe y F) h (fun q y hq hy s c g => by
    unfold bgQ at g
    rw [Bool.or_eq_true, Bool.and_eq_true, decide_eq_true_iff, decide_eq_true_iff] at g
    rcases g with g | ⟨rfl, g⟩
    · exact hy s c g
    · exact hF q hq c g)
theorem bgC_T {w : Nat → Int32} {j s c : Nat} (h : bgC w j s c = true) : bgT w s c := fun F h1 h2 =>
  foldN_ind (n := j) (Q := fun _ (y : Nat → Nat → Bool) => bgLe y F) (fun _ _ h => by cases h) (fun _ y _ hy => bgQs_le (bgR_le hy h1) h2) s c h
theorem bgF_T {w : Nat → Int32} {j s c : Nat} (h : bgF w j s c = true) : bgT w s c := fun F h1 h2 =>
  foldN_ind (n := j) (Q := fun _ (y : Nat → Nat → Bool) => bgLe y F) (bgQs_le (fun _ _ h => by cases h) h2) (fun _ y _ hy => bgR_le hy h1) s c h
theorem bgC_up {w : Nat → Int32} {j : Nat} : bgLe (bgC w j) (bgC w (j + 1)) := fun s c h => bgQs_p.1 s c (bgR_p.1 s c h)
theorem bgF_up {w : Nat → Int32} {j : Nat} : bgLe (bgF w j) (bgF w (j + 1)) := fun s c h => bgR_p.1 s c h
theorem bgF_0 {w : Nat → Int32} {j : Nat} : bgLe (bgF w 0) (bgF w j) := foldN_ind (Q := fun _ (y : Nat → Nat → Bool) => bgLe (bgF w 0) y) (fun _ _ h => h) (fun _ y _ hy s c h => bgR_p.1 s c (hy s c h))
/-- for one sign: what is told of that sign alone, closed -/
theorem bg_one {w : Nat → Int32} (hG : WG w) {c0 : Nat} {B : Nat → Nat → Bool} (h1 : ∀ p, p < wN w 1 → ∀ k, k < wN w (32 + 3 * p + 2) → emOk w p k (emX w 8) = true → bgE w B p k c0 = true → B (wN w (32 + 3 * p)) c0 = true) (h2 : ∀ q, q < wN w 2 → w (972 + 5 * q + 2) = ni (c0 + 32) → B (wN w (972 + 5 * q)) c0 = true) {s : Nat} (h : bgT w s c0) : B s c0 = true := by
  have := h (fun s c => if c = c0 then B s c0 else true) (fun p hp k hk he c hb => ?_) (fun q hq c hc => ?_)
  · rwa [if_pos rfl] at this
  · by_cases e : c = c0
    · subst e
      dsimp only
      rw [if_pos rfl]
      refine h1 p hp k hk he ?_
      unfold bgE at *
      split
      · rename_i z; rw [if_pos z] at hb; exact hb
      · rename_i z
        rw [if_neg z] at hb
        split
        · rename_i z2; rw [if_pos z2] at hb; dsimp only at hb; rw [if_pos rfl] at hb; exact hb
        · rename_i z2; rw [if_neg z2] at hb; exact hb
    · dsimp only; rw [if_neg e]
  · by_cases e : c = c0
    · subst e; dsimp only; rw [if_pos rfl]; exact h2 q hq hc
    · dsimp only; rw [if_neg e]
theorem bgE_eq {w : Nat → Int32} (hG : WG w) {B F : Nat → Nat → Bool} {p k c : Nat} (hp : p < wN w 1) (hk : k < wN w (32 + 3 * p + 2)) (h : ∀ t, t < 8 → B t c = F t c) : bgE w B p k c = bgE w F p k c := by
  unfold bgE
  split
  · rfl
  · split
    · rename_i e
      exact h _ (WG.so ((hG.pr hp).2.2.2.2.2 k hk) e).1
    · rfl
theorem bgT_C {w : Nat → Int32} (hG : WG w) (c : Nat) : ∀ t, t < 8 → bgT w t c → bgC w 8 t c = true :=
  lfp8 (X := fun j t => bgC w j t c) (fun j t _ h => bgC_up t c h) (fun j he t ht hT => bg_one hG (fun p hp k hk h1 h2 => by
    rw [← he _ (hG.pr hp).1]
    exact bgQs_p.1 _ _ (bgR_p.2 p hp k hk h1 c h2)) (fun q hq h => by
    rw [← he _ (hG.qu hq).1]
    exact bgQs_p.2 q hq c h) hT)
theorem bgT_F {w : Nat → Int32} (hG : WG w) (c : Nat) : ∀ t, t < 8 → bgT w t c → bgF w 8 t c = true :=
  lfp8 (X := fun j t => bgF w j t c) (fun j t _ h => bgF_up t c h) (fun j he t ht hT => bg_one hG (fun p hp k hk h1 h2 => by
    rw [← he _ (hG.pr hp).1]
    exact bgR_p.2 p hp k hk h1 c h2) (fun q hq h => bgF_0 _ _ (bgQs_p.2 q hq c h)) hT)
/-- both are one -/
theorem bg_CF {w : Nat → Int32} (hG : WG w) {s c : Nat} (hs : s < 8) : bgF w 9 s c = bgC w 8 s c := by
  rw [Bool.eq_iff_iff]
  exact ⟨fun h => bgT_C hG c s hs (bgF_T h), fun h => bgF_up s c (bgT_F hG c s hs (bgC_T h))⟩
section BG
variable {d0 : Nat} {P : am_O → Prop} {I : am_I} {Pf : am_R} {w : Nat → Int32} {r : Nat}
theorem beg_obj (hp : am_PF Pf) (hr : r = 16 ∨ r = 55) {s : Nat} (hs : s < 8) : Pf (r + 20) s = some (r + 23 + s) ∧ am_SH[r + 23 + s]? = some (.inl 6) := by
  rcases hr with rfl | rfl
  · have := of_decide_eq_true (List.all_eq_true.mp am_e36 s (List.mem_range.mpr hs))
    rw [Nat.one_mul] at this
    exact ⟨hp _ _ _ this.1, this.2⟩
  · have := of_decide_eq_true (List.all_eq_true.mp am_e75 s (List.mem_range.mpr hs))
    rw [Nat.one_mul] at this
    exact ⟨hp _ _ _ this.1, this.2⟩
/-- the begins, as they stand -/
def bgJ (r : Nat) (J : am_J) (B : Nat → Nat → Bool) : Prop := ∀ s, s < 8 → (∀ k, k < 95 → sgD J (r + 23 + s) k = B s k) ∧ sgT J (r + 23 + s)
/-- nothing else has changed -/
def bgO (r : Nat) (J J' : am_J) : Prop := ∀ o, ¬ (r + 23 ≤ o ∧ o < r + 31) → J' o = J o
theorem bgJ.set {J J' : am_J} {B B' : Nat → Nat → Bool} {s : Nat} (hs : s < 8) (h : bgJ r J B) {f : Nat → Bool} (g : sgS J J' (r + 23 + s) f) (e : ∀ a c, a < 8 → c < 95 → B' a c = if a = s then f c else B a c) : bgJ r J' B' ∧ bgO r J J' := by
  refine ⟨fun a ha => ?_, fun o ho => g.1 o (by omega)⟩
  by_cases c : a = s
  · subst c
    exact ⟨fun k hk => by rw [e a k ha hk, if_pos rfl]; exact g.2.1 k hk, g.2.2⟩
  · have ho : J' (r + 23 + a) = J (r + 23 + a) := g.1 _ (by omega)
    exact ⟨fun k hk => by rw [e a k ha hk, if_neg c, sgD_o ho]; exact (h a ha).1 k hk, sgT_o ho (h a ha).2⟩
theorem bgO.rfl' {J : am_J} : bgO r J J := fun _ _ => rfl
theorem bgO.trans {J J' J'' : am_J} (h : bgO r J J') (g : bgO r J' J'') : bgO r J J'' := fun o e => (g o e).trans (h o e)
theorem cGc.bg {J J' : am_J} {c : Nat} (hr : r = 16 ∨ r = 55) (h : cGc r J w c) (g : bgO r J J') : cGc r J' w c := by
  have hO := cO_le hr
  have : J' (cO r + c) = J (cO r + c) := g _ (by omega)
  exact ⟨fun k hk => by rw [sgD_o this]; exact h.1 k hk, sgT_o this h.2⟩
theorem sc_begins (hp : am_PF Pf) (hr : r = 16 ∨ r = 55) (hG : WG w) {J : am_J} (hw : cG r I J w) (hE : ∀ t, t < 32 → bI (I (r + 15) 5) t = emX w 8 t) {B : Nat → Nat → Bool} (hB : bgJ r J B)
    (kk : ∀ J', bgJ r J' (bgQs w (wN w 2) (bgR w (emX w 8) (wN w 1) B)) → bgO r J J' → P (.inl none, (am_SH, I, J', Pf), 0, 0)) : am_mth (d0 + 3) 96 [.ref (r + 15), .ref r] (am_SH, I, J, Pf) P := by
  obtain ⟨⟨w0, w0'⟩, ⟨w1, w1'⟩, ⟨w2, w2'⟩, -, -, wk⟩ := id hG.1
  have s15 := (srt_sh hr).1
  have hrs := rul_sh hr
  have hO := cO_le hr
  obtain ⟨⟨c0, c1, c2, c3, c4, c5⟩, hC, hP, hQ, -, -⟩ := id hw
  -- a production's parts
  have LE : ∀ (m : Nat) (J1 : am_J) (p k : Nat) (F : Nat → Nat → Bool) (l5 : Option Value), wN w (32 + 3 * p + 2) - k = m → k ≤ wN w (32 + 3 * p + 2) → p < wN w 1 → bgJ r J1 F → bgO r J J1 → (∀ (J' : am_J) (l3 l4 l5 : Option Value), bgJ r J' (bgGo w (emX w 8) p m k F) → bgO r J J' → am_go none (d0 + 2) 96 (2, [some (.ref (r + 15)), some (.ref r), some (.int (ni (p + 1))), l3, l4, l5], [], (am_SH, I, J', Pf), 0, 0) P) → am_go none (d0 + 2) 96 (27, [some (.ref (r + 15)), some (.ref r), some (.int (ni p)), some (.ref (r + 23 + wN w (32 + 3 * p))), some (.int (ni (4 * p + k))), l5], [], (am_SH, I, J1, Pf), 0, 0) P := by
    intro m
    induction m with
    | zero =>
      intro J1 p k F l5 hm hk hpp hF hf kk
      have : k = wN w (32 + 3 * p + 2) := by omega
      subst this
      obtain ⟨g1, g2, g3, g4, g5, g6⟩ := hG.pr (p := p) hpp
      obtain ⟨q1, q2, q3, q4⟩ := hP p hpp
      refine v96_27 hp s15 hrs (beg_obj hp hr g1).2 ?_
      rw [show (ni p).toNatClampNeg = p from ni_nat (by omega), q3, g4, show ni p * 4 = ni (4 * p) by rw [Nat.mul_comm]; exact ni_mul p 4, ni_add, if_pos ((ni_le (by omega) (by omega)).mpr (by omega)), ni_p1]
      exact ⟨ni_in (by omega) (by omega), kk J1 _ _ _ hF hf⟩
    | succ m ih =>
      intro J1 p k F l5 hm hk hpp hF hf kk
      obtain ⟨g1, g2, g3, g4, g5, g6⟩ := hG.pr (p := p) hpp
      obtain ⟨q1, q2, q3, q4⟩ := hP p hpp
      obtain ⟨e1, e2, e3⟩ := q4 k (by omega)
      have hob := (beg_obj hp hr g1).2
      have eR : (ni (4 * p + k)).toNatClampNeg = 4 * p + k := ni_nat (by omega)
      -- behind the part
      have TL : ∀ (J2 : am_J), bgJ r J2 (bgK w p k F) → bgO r J J2 → ∀ (pc : Nat) (l5 : Option Value), (pc = 72 ∨ pc = 97 ∨ pc = 114) → am_go none (d0 + 2) 96 (pc, [some (.ref (r + 15)), some (.ref r), some (.int (ni p)), some (.ref (r + 23 + wN w (32 + 3 * p))), some (.int (ni (4 * p + k))), l5], [], (am_SH, I, J2, Pf), 0, 0) P := by
        intro J2 h1 h2 pc l5 hpc
        have GO : ∀ Q : Prop, Q = (am_in (ni (4 * p + k)) 80 = true ∧ if w (eP p k) = 1 then am_in (ni (4 * p + k)) 80 = true ∧ if ((UInt32.toInt32 (Int32.toUInt32 (I (r + 15) 5) >>> (Int32.toUInt32 (I (r + 6) (4 * p + k)) &&& Int32.toUInt32 31))) &&& 1) = 0 then am_go none (d0 + 2) 96 (2, [some (.ref (r + 15)), some (.ref r), some (.int (ni (p + 1))), some (.ref (r + 23 + wN w (32 + 3 * p))), some (.int (ni (4 * p + k))), l5], [], (am_SH, I, J2, Pf), 0, 0) P else am_go none (d0 + 2) 96 (27, [some (.ref (r + 15)), some (.ref r), some (.int (ni p)), some (.ref (r + 23 + wN w (32 + 3 * p))), some (.int (ni (4 * p + (k + 1)))), l5], [], (am_SH, I, J2, Pf), 0, 0) P else am_go none (d0 + 2) 96 (2, [some (.ref (r + 15)), some (.ref r), some (.int (ni (p + 1))), some (.ref (r + 23 + wN w (32 + 3 * p))), some (.int (ni (4 * p + k))), l5], [], (am_SH, I, J2, Pf), 0, 0) P) → Q := by
          rintro Q rfl
          refine ⟨ni_in (by omega) (by omega), ?_⟩
          have stop : emPt w (emX w 8) p k = false → am_go none (d0 + 2) 96 (2, [some (.ref (r + 15)), some (.ref r), some (.int (ni (p + 1))), some (.ref (r + 23 + wN w (32 + 3 * p))), some (.int (ni (4 * p + k))), l5], [], (am_SH, I, J2, Pf), 0, 0) P := fun e => kk J2 _ _ _ (by unfold bgGo; rw [if_neg (by rw [e]; decide)]; exact h1) h2
          by_cases c : w (eP p k) = 1
          · rw [if_pos c]
            obtain ⟨z1, z2⟩ := WG.so (g6 k (by omega)) c
            rw [e2 (by rw [c]; decide), z2]
            have hbit := bI_us (v := I (r + 15) 5) (j := wN w (eP p k + 1)) (by omega)
            rw [hE _ (by omega)] at hbit
            have ep : emPt w (emX w 8) p k = emX w 8 (wN w (eP p k + 1)) := by unfold emPt; rw [decide_eq_true c, Bool.true_and]
            refine ⟨ni_in (by omega) (by omega), ?_⟩
            by_cases c2 : emX w 8 (wN w (eP p k + 1)) = true
            · rw [if_neg (fun z => hbit.mp z c2)]
              exact ih J2 p (k + 1) _ _ (by omega) (by omega) hpp h1 h2 (fun J' l3 l4 l5 k1 k2 => kk J' l3 l4 l5 (by unfold bgGo; rw [if_pos (by rw [ep]; exact c2)]; exact k1) k2)
            · rw [if_pos (hbit.mpr c2)]
              exact stop (by rw [ep]; exact (Bool.not_eq_true _).mp c2)
          · rw [if_neg c]
            exact stop (by unfold emPt; rw [decide_eq_false c, Bool.false_and])
        rcases hpc with rfl | rfl | rfl
        · refine v96_72 hp s15 hrs hob ?_
          rw [eR, e1, ni_p1, ni_p1]
          exact GO _ rfl
        · refine v96_97 hp s15 hrs hob ?_
          rw [eR, e1, ni_p1, ni_p1]
          exact GO _ rfl
        · refine v96_114 hp s15 hrs hob ?_
          rw [eR, e1, ni_p1, ni_p1]
          exact GO _ rfl
      have KS : ∀ (J2 : am_J) (f : Nat → Bool), sgS J1 J2 (r + 23 + wN w (32 + 3 * p)) f → (∀ c, c < 95 → f c = (F (wN w (32 + 3 * p)) c || bgE w F p k c)) → bgJ r J2 (bgK w p k F) ∧ bgO r J J2 := by
        intro J2 f h1 h2
        obtain ⟨z1, z2⟩ := hF.set (B' := bgK w p k F) g1 h1 (fun a c ha hc => by
          unfold bgK
          by_cases z : a = wN w (32 + 3 * p)
          · subst z; rw [if_pos rfl, h2 c hc, decide_eq_true rfl, Bool.true_and]
          · rw [if_neg z, decide_eq_false (fun y => z y.symm), Bool.false_and, Bool.or_false])
        exact ⟨z1, hf.trans z2⟩
      refine v96_27 hp s15 hrs hob ?_
      rw [show (ni p).toNatClampNeg = p from ni_nat (by omega), q3, g4, show ni p * 4 = ni (4 * p) by rw [Nat.mul_comm]; exact ni_mul p 4, ni_add, if_neg (fun z => absurd ((ni_le (by omega) (by omega)).mp z) (by omega)), eR, e1]
      refine ⟨ni_in (by omega) (by omega), ni_in (by omega) (by omega), ni_in (by omega) (by omega), ?_⟩
      obtain ⟨s1, s2⟩ := hF _ g1
      rcases g6 k (by omega) with ⟨t1, cc, t2, t3⟩ | ⟨t1, ss, t2, t3⟩ | ⟨t1, mm, t2, t3, t4, t5⟩
      · rw [if_pos t1, e2 (by rw [t1]; decide), t3, show (ni cc).toNatClampNeg = cc from ni_nat (by omega)]
        obtain ⟨o1, o2⟩ := cls_obj hp hr (c := cc) (by omega)
        have hCc := (hC cc t2).bg hr hf
        have ecc : wN w (eP p k + 1) = cc := by unfold wN; rw [t3]; exact ni_nat (by omega)
        refine ⟨ni_in (by omega) (by omega), cO r + cc, o1, o2, sg_join (d := d0 + 1) hp hob o2 s2 hCc.2 (fun J2 z => am_back (TL J2 (KS J2 _ z (fun c hc => ?_)).1 (KS J2 _ z (fun c hc => ?_)).2 72 _ (Or.inl rfl)))⟩
        all_goals (rw [s1 c hc, hCc.1 c hc]; unfold bgE; rw [if_pos t1, ecc])
      · rw [if_neg (by rw [t1]; decide), if_pos t1, e2 (by rw [t1]; decide), t3, show (ni ss).toNatClampNeg = ss from ni_nat (by omega)]
        obtain ⟨o1, o2⟩ := beg_obj hp hr (s := ss) t2
        have ess : wN w (eP p k + 1) = ss := by unfold wN; rw [t3]; exact ni_nat (by omega)
        refine ⟨ni_in (by omega) (by omega), ni_in (by omega) t2, r + 23 + ss, o1, o2, sg_join (d := d0 + 1) hp hob o2 s2 (hF ss t2).2 (fun J2 z => am_back (TL J2 (KS J2 _ z (fun c hc => ?_)).1 (KS J2 _ z (fun c hc => ?_)).2 97 _ (Or.inr (Or.inl rfl))))⟩
        all_goals (rw [s1 c hc, (hF ss t2).1 c hc]; unfold bgE; rw [if_neg (by rw [t1]; decide), if_pos t1, ess])
      · rw [if_neg (by rw [t1]; decide), if_neg (by rw [t1]; decide)]
        obtain ⟨y1, y2⟩ := e3 t1
        have emm : wN w (eP p k + 2) = mm := by unfold wN; rw [t4]; exact ni_nat (by omega)
        have y3 : I (r + 7) (8 * (4 * p + k)) = w (eP p k + 3) := y2 0 (by omega)
        have t6 : isSg (w (eP p k + 3)) = true := t5 0 (by omega)
        obtain ⟨cs, cs1, cs2, cs3⟩ := isSg_ni t6
        rw [show ni (4 * p + k) * 8 = ni (8 * (4 * p + k)) by rw [Nat.mul_comm 8]; exact ni_mul _ 8, show (ni (8 * (4 * p + k))).toNatClampNeg = 8 * (4 * p + k) from ni_nat (by omega), y3, cs3]
        refine ⟨ni_in (by omega) (by omega), ni_in (by omega) (by omega), sg_add (d := d0 + 1) hp hob s2 (by omega) (fun J2 z => am_back (TL J2 (KS J2 _ z (fun c hc => ?_)).1 (KS J2 _ z (fun c hc => ?_)).2 114 _ (Or.inr (Or.inr rfl))))⟩
        all_goals
          rw [s1 c hc]
          unfold bgE
          rw [if_neg (by rw [t1]; decide), if_neg (by rw [t1]; decide), cs3, decide_eq_decide.mpr (show (ni cs = ni (c + 32)) ↔ c + 32 = cs from by rw [ni_inj (by omega) (by omega)]; omega)]
  have LQ : ∀ (m : Nat) (J1 : am_J) (q : Nat) (F : Nat → Nat → Bool) (l3 l4 l5 : Option Value), wN w 2 - q = m → q ≤ wN w 2 → bgJ r J1 (bgQs w q F) → bgO r J J1 → (∀ J', bgJ r J' (bgQs w (wN w 2) F) → bgO r J J' → P (.inl none, (am_SH, I, J', Pf), 0, 0)) → am_go none (d0 + 2) 96 (141, [some (.ref (r + 15)), some (.ref r), some (.int (ni q)), l3, l4, l5], [], (am_SH, I, J1, Pf), 0, 0) P := by
    intro m
    induction m with
    | zero =>
      intro J1 q F l3 l4 l5 hm hq hF hf kk
      have : q = wN w 2 := by omega
      subst this
      refine v96_141 hp s15 hrs ?_
      rw [c2, w2, if_pos ((ni_le (by omega) (by omega)).mpr (by omega))]
      exact kk J1 hF hf
    | succ m ih =>
      intro J1 q F l3 l4 l5 hm hq hF hf kk
      obtain ⟨g1, g2, g3, g4⟩ := hG.qu (q := q) (by omega)
      obtain ⟨q1, q2, q3⟩ := hQ q (by omega)
      obtain ⟨o1, o2⟩ := beg_obj hp hr g1
      obtain ⟨-, -, -, -, -, -, t6, -⟩ := hG.2.2.1 q (by omega)
      obtain ⟨cs, cs1, cs2, cs3⟩ := isSg_ni t6
      have y3 : I (r + 10) (3 * q) = w (972 + 5 * q + 2) := q3 0 (by omega)
      refine v96_141 hp s15 hrs ?_
      rw [c2, w2, if_neg (fun z => absurd ((ni_le (by omega) (by omega)).mp z) (by omega)), show (ni q).toNatClampNeg = q from ni_nat (by omega), q1, g2, show (ni (wN w (972 + 5 * q))).toNatClampNeg = wN w (972 + 5 * q) from ni_nat (by omega), show ni q * 3 = ni (3 * q) by rw [Nat.mul_comm 3]; exact ni_mul _ 3, show (ni (3 * q)).toNatClampNeg = 3 * q from ni_nat (by omega), y3, cs3]
      refine ⟨ni_in (by omega) (by omega), ni_in (by omega) g1, _, o1, o2, ni_in (by omega) (by omega), sg_add (d := d0 + 1) hp o2 (hF _ g1).2 (by omega) (fun J2 z => am_back (v96_171 hp s15 hrs ?_))⟩
      obtain ⟨z1, z2⟩ := hF.set (B' := bgQs w (q + 1) F) g1 z (fun a c ha hc => by
        show bgQ w q (bgQs w q F) a c = _
        unfold bgQ
        by_cases y : a = wN w (972 + 5 * q)
        · subst y
          rw [if_pos rfl, (hF _ g1).1 c hc, decide_eq_true rfl, Bool.true_and, cs3, decide_eq_decide.mpr (show (ni cs = ni (c + 32)) ↔ c + 32 = cs from by rw [ni_inj (by omega) (by omega)]; omega)]
        · rw [if_neg y, decide_eq_false (fun x => y x.symm), Bool.false_and, Bool.or_false])
      rw [ni_p1]
      exact ih J2 (q + 1) F _ _ _ (by omega) (by omega) z1 (hf.trans z2) kk
  have LP : ∀ (m : Nat) (J1 : am_J) (p : Nat) (l3 l4 l5 : Option Value), wN w 1 - p = m → p ≤ wN w 1 → bgJ r J1 (bgR w (emX w 8) p B) → bgO r J J1 → am_go none (d0 + 2) 96 (2, [some (.ref (r + 15)), some (.ref r), some (.int (ni p)), l3, l4, l5], [], (am_SH, I, J1, Pf), 0, 0) P := by
    intro m
    induction m with
    | zero =>
      intro J1 p l3 l4 l5 hm hpp hF hf
      have : p = wN w 1 := by omega
      subst this
      refine v96_2 hp s15 hrs ?_
      rw [c1, w1, if_pos ((ni_le (by omega) (by omega)).mpr (by omega)), show (0 : Int32) = ni 0 from rfl]
      exact LQ _ J1 0 _ _ _ _ rfl (Nat.zero_le _) hF hf kk
    | succ m ih =>
      intro J1 p l3 l4 l5 hm hpp hF hf
      obtain ⟨g1, g2, g3, g4, g5, g6⟩ := hG.pr (p := p) (by omega)
      obtain ⟨q1, q2, q3, q4⟩ := hP p (by omega)
      obtain ⟨o1, o2⟩ := beg_obj hp hr g1
      refine v96_2 hp s15 hrs ?_
      rw [c1, w1, if_neg (fun z => absurd ((ni_le (by omega) (by omega)).mp z) (by omega)), show (ni p).toNatClampNeg = p from ni_nat (by omega), q1, g2, show (ni (wN w (32 + 3 * p))).toNatClampNeg = wN w (32 + 3 * p) from ni_nat (by omega), show ni p * 4 = ni (4 * p + 0) by rw [Nat.add_zero, Nat.mul_comm 4]; exact ni_mul p 4]
      exact ⟨ni_in (by omega) (by omega), ni_in (by omega) g1, _, o1, o2, LE _ J1 p 0 _ _ rfl (Nat.zero_le _) (by omega) hF hf (fun J' l3 l4 l5 f1 f2 => ih J' (p + 1) l3 l4 l5 (by omega) (by omega) f1 f2)⟩
  refine am_mth_of rfl rfl (v96_0 hp s15 hrs ?_)
  rw [show (0 : Int32) = ni 0 from rfl]
  exact LP _ J 0 _ _ _ rfl (Nat.zero_le _) hB bgO.rfl'
end BG
