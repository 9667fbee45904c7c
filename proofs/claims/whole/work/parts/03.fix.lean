def fx_le (L M : Nat → Int32) : Prop := ∀ i, i < 45 → ∀ j, bt (L i) j = true → bt (M i) j = true
def fx_cl (pc op ra rb rc rn L : Nat → Int32) (W : Nat → Bool) (p k : Nat) : Prop :=
  (∀ j, fx_bp pc op ra rb rc rn L W p k j → bt (L (9 * p + k)) j = true)
  ∧ (op (8 * p + k) = 5 → fx_ap op rn L p k (ra (8 * p + k)).toNatClampNeg → W (rn (8 * p + k)).toNatClampNeg = true)
def fx_closed (D : Nat) (pc ln op ra rb rc rn L : Nat → Int32) (W : Nat → Bool) : Prop :=
  ∀ p, p < D → ∀ k, k < (ln p).toNatClampNeg → fx_cl pc op ra rb rc rn L W p k
def fx_inv (D : Nat) (pc ln op ra rb rc rn L : Nat → Int32) (W : Nat → Bool) : Prop :=
  W 0 = true ∧ (∀ i, i < 45 → ∀ j, bt (L i) j = true → j < 6)
  ∧ (∀ p, p < D → ∀ k, k < (ln p).toNatClampNeg → ∀ j, bt (L (9 * p + k)) j = true → fx_bp pc op ra rb rc rn L W p k j)
  ∧ (∀ (M : Nat → Int32) (V : Nat → Bool), V 0 = true → fx_closed D pc ln op ra rb rc rn M V → fx_le L M ∧ ∀ q, q < 5 → W q = true → V q = true)
def fx_st (pc op ra rb rc rn L : Nat → Int32) (W : Nat → Bool) (p k : Nat) (L' : Nat → Int32) (W' : Nat → Bool) : Prop :=
  (∀ i, i ≠ 9 * p + k → L' i = L i)
  ∧ (∀ j, bt (L' (9 * p + k)) j = true ↔ (bt (L (9 * p + k)) j = true ∨ fx_bp pc op ra rb rc rn L W p k j))
  ∧ (∀ q, W' q = true ↔ (W q = true ∨ ((op (8 * p + k) = 5 ∧ fx_ap op rn L p k (ra (8 * p + k)).toNatClampNeg) ∧ q = (rn (8 * p + k)).toNatClampNeg)))
section
variable {D : Nat} {pc ln op ra rb rc rn L M L' : Nat → Int32} {W V W' : Nat → Bool} {p k : Nat}
theorem fx_dep (h1 : ∀ j, fx_ap op rn L p k j → fx_ap op rn M p k j) (hW : W p = true → V p = true) (h9 : op (8 * p + k) = 5 → ∀ i, i < (pc (rn (8 * p + k)).toNatClampNeg).toNatClampNeg → bt (L (9 * (rn (8 * p + k)).toNatClampNeg)) i = true → bt (M (9 * (rn (8 * p + k)).toNatClampNeg)) i = true) {j : Nat} (h : fx_bp pc op ra rb rc rn L W p k j) : fx_bp pc op ra rb rc rn M V p k j := by
  unfold fx_bp at h ⊢
  rcases h with ⟨e, h⟩ | ⟨e, h, z⟩ | ⟨e, h⟩ | ⟨e, h, z⟩ | ⟨e, h⟩
  · exact .inl ⟨e, h.imp (h1 j) id⟩
  · exact .inr (.inl ⟨e, hW h, z⟩)
  · refine .inr (.inr (.inl ⟨e, ?_⟩))
    rcases h with ⟨h, z⟩ | ⟨h, y, z⟩
    · exact .inl ⟨h1 j h, z⟩
    · exact .inr ⟨h, y, h9 e _ y z⟩
  · exact .inr (.inr (.inr (.inl ⟨e, h1 j h, z⟩)))
  · refine .inr (.inr (.inr (.inr ⟨e, ?_⟩)))
    rcases h with ⟨h, z⟩ | ⟨h, z⟩
    · exact .inl ⟨h1 j h, z⟩
    · exact .inr ⟨h1 _ h, z⟩
theorem fx_rng (hok : fx_ok D pc ln op ra rb rc rn) (hp : p < D) (hk : k < (ln p).toNatClampNeg) : p < 5 ∧ k < 8 ∧ (op (8 * p + k) = 4 → k < (rn (8 * p + k)).toNatClampNeg ∧ (rn (8 * p + k)).toNatClampNeg ≤ 8) ∧ (op (8 * p + k) = 5 → (rn (8 * p + k)).toNatClampNeg < D ∧ (rn (8 * p + k)).toNatClampNeg < 5) := by
  obtain ⟨hD, hpl, hcs⟩ := hok
  obtain ⟨ho, ha, hb, hc, h13, h4, h5⟩ := hcs p hp k hk
  have := (hpl p hp).2.2
  refine ⟨by omega, by omega, fun e => ⟨(h4 e).2, (h4 e).1.2⟩, fun e => ⟨(h5 e).2.1, ?_⟩⟩
  have := (h5 e).2.1
  omega
theorem fx_ap_le (hok : fx_ok D pc ln op ra rb rc rn) (hp : p < D) (hk : k < (ln p).toNatClampNeg) (hle : fx_le L M) {j : Nat} (h : fx_ap op rn L p k j) : fx_ap op rn M p k j := by
  obtain ⟨a, b, c, d⟩ := fx_rng hok hp hk
  refine ⟨h.1, h.2.imp (hle _ (by omega) j) fun z => ⟨z.1, hle _ ?_ j z.2⟩⟩
  have := c z.1
  omega
theorem fx_bp_le (hok : fx_ok D pc ln op ra rb rc rn) (hp : p < D) (hk : k < (ln p).toNatClampNeg) (hle : fx_le L M) (hW : ∀ q, q < 5 → W q = true → V q = true) {j : Nat} (h : fx_bp pc op ra rb rc rn L W p k j) : fx_bp pc op ra rb rc rn M V p k j := by
  obtain ⟨a, b, c, d⟩ := fx_rng hok hp hk
  refine fx_dep (fun j => fx_ap_le hok hp hk hle) (hW p a) (fun e i _ => hle _ ?_ i) h
  have := d e
  omega
theorem fx_bp_lt (hok : fx_ok D pc ln op ra rb rc rn) (hp : p < D) (hk : k < (ln p).toNatClampNeg) (hL : ∀ i, i < 45 → ∀ j, bt (L i) j = true → j < 6) {j : Nat} (h : fx_bp pc op ra rb rc rn L W p k j) : j < 6 := by
  obtain ⟨a, b, c, d⟩ := fx_rng hok hp hk
  obtain ⟨hD, hpl, hcs⟩ := hok
  obtain ⟨ho, ha, hb, hc, h13, h4, h5⟩ := hcs p hp k hk
  have ha2 := ha.2
  have hap : ∀ j, fx_ap op rn L p k j → j < 6 := by
    intro j h
    rcases h.2 with z | z
    · exact hL _ (by omega) j z
    · have := c z.1
      exact hL _ (by omega) j z.2
  rcases h with ⟨e, h | h⟩ | ⟨e, h, z⟩ | ⟨e, ⟨h, z⟩ | ⟨h, y, z⟩⟩ | ⟨e, h, z⟩ | ⟨e, ⟨h, z⟩ | ⟨h, z⟩⟩
  · exact hap j h
  · omega
  · omega
  · exact hap j h
  · have := (h5 e).2.2
    omega
  · exact hap j h
  · exact hap j h
  · have := h13 e
    omega
theorem fx_st_up (hs : fx_st pc op ra rb rc rn L W p k L' W') : fx_le L L' ∧ ∀ q, W q = true → W' q = true := by
  obtain ⟨s1, s2, s3⟩ := hs
  refine ⟨fun i _ j h => ?_, fun q h => (s3 q).mpr (.inl h)⟩
  by_cases e : i = 9 * p + k
  · subst e
    exact (s2 j).mpr (.inl h)
  · rw [s1 i e]; exact h
theorem fx_st_inv (hok : fx_ok D pc ln op ra rb rc rn) (hp : p < D) (hk : k < (ln p).toNatClampNeg) (hI : fx_inv D pc ln op ra rb rc rn L W) (hs : fx_st pc op ra rb rc rn L W p k L' W') : fx_inv D pc ln op ra rb rc rn L' W' := by
  obtain ⟨u1, u2⟩ := fx_st_up hs
  obtain ⟨s1, s2, s3⟩ := hs
  obtain ⟨i1, i2, i3, i4⟩ := hI
  obtain ⟨r1, r2, r3, r4⟩ := fx_rng hok hp hk
  refine ⟨u2 0 i1, fun i hi j h => ?_, fun p' hp' k' hk' j h => ?_, fun M V hV hM => ?_⟩
  · by_cases e : i = 9 * p + k
    · subst e
      rcases (s2 j).mp h with z | z
      · exact i2 _ hi j z
      · exact fx_bp_lt hok hp hk i2 z
    · rw [s1 i e] at h
      exact i2 i hi j h
  · refine fx_bp_le hok hp' hk' u1 (fun q _ => u2 q) ?_
    obtain ⟨r1', r2', _, _⟩ := fx_rng hok hp' hk'
    by_cases e : 9 * p' + k' = 9 * p + k
    · have e1 : p' = p := by omega
      have e2 : k' = k := by omega
      subst e1 e2
      rcases (s2 j).mp h with z | z
      · exact i3 _ hp _ hk j z
      · exact z
    · rw [s1 _ e] at h
      exact i3 p' hp' k' hk' j h
  · obtain ⟨m1, m2⟩ := i4 M V hV hM
    refine ⟨fun i hi j h => ?_, fun q hq h => ?_⟩
    · by_cases e : i = 9 * p + k
      · subst e
        rcases (s2 j).mp h with z | z
        · exact m1 _ hi j z
        · exact (hM p hp k hk).1 j (fx_bp_le hok hp hk m1 m2 z)
      · rw [s1 i e] at h
        exact m1 i hi j h
    · rcases (s3 q).mp h with z | ⟨⟨z, y⟩, rfl⟩
      · exact m2 q hq z
      · exact (hM p hp k hk).2 z (fx_ap_le hok hp hk m1 y)
theorem fx_inv0 (hok : fx_ok D pc ln op ra rb rc rn) (hL : ∀ i, i < 45 → L i = 0) (hW : ∀ q, q < 5 → (W q = true ↔ q = 0)) : fx_inv D pc ln op ra rb rc rn L W := by
  have z : ∀ i, i < 45 → ∀ j, ¬ bt (L i) j = true := fun i hi j h => by
    rw [hL i hi, b_0] at h
    exact absurd h (by decide)
  refine ⟨(hW 0 (by omega)).mpr rfl, fun i hi j h => absurd h (z i hi j), fun p hp k hk j h => ?_, fun M V hV _ => ⟨fun i hi j h => absurd h (z i hi j), fun q hq h => ?_⟩⟩
  · obtain ⟨r1, r2, r3, r4⟩ := fx_rng hok hp hk
    exact absurd h (z _ (by omega) j)
  · rw [(hW q hq).mp h]; exact hV
/-- what two least closed sets are: the same -/
theorem fx_same (h1 : fx_inv D pc ln op ra rb rc rn L W) (c1 : fx_closed D pc ln op ra rb rc rn L W) (h2 : fx_inv D pc ln op ra rb rc rn M V) (c2 : fx_closed D pc ln op ra rb rc rn M V) : (∀ i, i < 45 → L i = M i) ∧ ∀ q, q < 5 → W q = V q := by
  obtain ⟨a1, a2⟩ := h1.2.2.2 M V h2.1 c2
  obtain ⟨b1, b2⟩ := h2.2.2.2 L W h1.1 c1
  refine ⟨fun i hi => b_ext fun j _ => Bool.eq_iff_iff.mpr ⟨a1 i hi j, b1 i hi j⟩, fun q hq => Bool.eq_iff_iff.mpr ⟨a2 q hq, b2 q hq⟩⟩
/-- a step of a closed state changes nothing -/
theorem fx_st_same (hc : fx_cl pc op ra rb rc rn L W p k) (hs : fx_st pc op ra rb rc rn L W p k L' W') : L' = L ∧ W' = W := by
  obtain ⟨s1, s2, s3⟩ := hs
  constructor
  · funext i
    by_cases e : i = 9 * p + k
    · subst e
      exact b_ext fun j _ => Bool.eq_iff_iff.mpr ⟨fun h => ((s2 j).mp h).elim id (hc.1 j), fun h => (s2 j).mpr (.inl h)⟩
    · exact s1 i e
  · funext q
    refine Bool.eq_iff_iff.mpr ⟨fun h => ?_, fun h => (s3 q).mpr (.inl h)⟩
    rcases (s3 q).mp h with z | ⟨⟨z, y⟩, rfl⟩
    · exact z
    · exact hc.2 z y
end
/-! the two measures -/
def fx_py (L : Nat → Int32) (W : Nat → Bool) (j : Nat) : Bool := if j < 240 then bt (L (9 * (j / 48) + j / 6 % 8)) (j % 6) else W (j - 240)
def fx_px (L : Nat → Int32) (W : Nat → Bool) (j : Nat) : Bool := if j < 15 then bt (L (9 * (j / 3))) (j % 3) else W (j - 15)
section
variable {D : Nat} {pc ln op ra rb rc rn L M L' : Nat → Int32} {W V W' : Nat → Bool} {p k : Nat}
theorem fx_py_up (h1 : fx_le L L') (h2 : ∀ q, W q = true → W' q = true) : ∀ j, j < 245 → fx_py L W j = true → fx_py L' W' j = true := by
  intro j hj
  unfold fx_py
  by_cases h : j < 240
  · rw [if_pos h, if_pos h]
    exact h1 _ (by omega) _
  · rw [if_neg h, if_neg h]
    exact h2 _
theorem fx_px_up (h1 : fx_le L L') (h2 : ∀ q, W q = true → W' q = true) : ∀ j, j < 20 → fx_px L W j = true → fx_px L' W' j = true := by
  intro j hj
  unfold fx_px
  by_cases h : j < 15
  · rw [if_pos h, if_pos h]
    exact h1 _ (by omega) _
  · rw [if_neg h, if_neg h]
    exact h2 _
theorem fx_py_l {p k j : Nat} (hp : p < 5) (hk : k < 8) (hj : j < 6) : 48 * p + 6 * k + j < 245 ∧ fx_py L W (48 * p + 6 * k + j) = bt (L (9 * p + k)) j := by
  refine ⟨by omega, ?_⟩
  unfold fx_py
  rw [if_pos (by omega)]
  have e1 : (48 * p + 6 * k + j) / 48 = p := by omega
  have e2 : (48 * p + 6 * k + j) / 6 % 8 = k := by omega
  have e3 : (48 * p + 6 * k + j) % 6 = j := by omega
  rw [e1, e2, e3]
theorem fx_py_w {q : Nat} (hq : q < 5) : 240 + q < 245 ∧ fx_py L W (240 + q) = W q := by
  refine ⟨by omega, ?_⟩
  unfold fx_py
  rw [if_neg (by omega)]
  have e1 : 240 + q - 240 = q := by omega
  rw [e1]
theorem fx_px_l {q i : Nat} (hq : q < 5) (hi : i < 3) : 3 * q + i < 20 ∧ fx_px L W (3 * q + i) = bt (L (9 * q)) i := by
  refine ⟨by omega, ?_⟩
  unfold fx_px
  rw [if_pos (by omega)]
  have e1 : (3 * q + i) / 3 = q := by omega
  have e3 : (3 * q + i) % 3 = i := by omega
  rw [e1, e3]
theorem fx_px_w {q : Nat} (hq : q < 5) : 15 + q < 20 ∧ fx_px L W (15 + q) = W q := by
  refine ⟨by omega, ?_⟩
  unfold fx_px
  rw [if_neg (by omega)]
  have e1 : 15 + q - 15 = q := by omega
  rw [e1]
/-- a step that adds something adds to Y's measure -/
theorem fx_py_lt (hok : fx_ok D pc ln op ra rb rc rn) (hp : p < D) (hk : k < (ln p).toNatClampNeg) (hI : fx_inv D pc ln op ra rb rc rn L W) (hs : fx_st pc op ra rb rc rn L W p k L' W') (h : ¬ L' (9 * p + k) = L (9 * p + k) ∨ ∃ q, q < 5 ∧ W q = false ∧ W' q = true) : fx_cnt (fx_py L W) 245 < fx_cnt (fx_py L' W') 245 := by
  obtain ⟨u1, u2⟩ := fx_st_up hs
  have hI' := fx_st_inv hok hp hk hI hs
  obtain ⟨r1, r2, r3, r4⟩ := fx_rng hok hp hk
  rcases h with h | ⟨q, hq, h0, h1⟩
  · have : ∃ j, bt (L (9 * p + k)) j = false ∧ bt (L' (9 * p + k)) j = true := by
      apply Classical.byContradiction
      intro hn
      apply h
      apply b_ext
      intro j _
      cases hb : bt (L (9 * p + k)) j
      · cases hb' : bt (L' (9 * p + k)) j
        · rfl
        · exact absurd ⟨j, hb, hb'⟩ hn
      · exact u1 _ (by omega) j hb
    obtain ⟨j, h0, h1⟩ := this
    have hj : j < 6 := hI'.2.1 _ (by omega) j h1
    have e1 := fx_py_l (L := L) (W := W) r1 r2 hj
    have e2 := fx_py_l (L := L') (W := W') r1 r2 hj
    exact fx_cnt_lt (fx_py_up u1 u2) e1.1 (by rw [e1.2]; exact h0) (by rw [e2.2]; exact h1)
  · have e1 := fx_py_w (L := L) (W := W) hq
    have e2 := fx_py_w (L := L') (W := W') hq
    exact fx_cnt_lt (fx_py_up u1 u2) e1.1 (by rw [e1.2]; exact h0) (by rw [e2.2]; exact h1)
/-- X's rounds: c0 the measure at the round's start, cl0 whether it was closed there, P the cells seen -/
def fx_ri (D : Nat) (pc ln op ra rb rc rn L : Nat → Int32) (W : Nat → Bool) (cl0 : Prop) (c0 : Nat) (P : Nat → Nat → Prop) : Prop :=
  fx_inv D pc ln op ra rb rc rn L W ∧ c0 ≤ fx_cnt (fx_px L W) 20 ∧ (cl0 → fx_closed D pc ln op ra rb rc rn L W)
  ∧ (fx_cnt (fx_px L W) 20 = c0 → ∀ p', p' < D → ∀ k', k' < (ln p').toNatClampNeg → P p' k' → fx_cl pc op ra rb rc rn L W p' k')
theorem fx_ri_st {cl0 : Prop} {c0 : Nat} (hok : fx_ok D pc ln op ra rb rc rn) (hp : p < D) (hk : k < (ln p).toNatClampNeg) (h : fx_ri D pc ln op ra rb rc rn L W cl0 c0 (fun p' k' => p' < p ∨ (p' = p ∧ k + 1 ≤ k'))) (hs : fx_st pc op ra rb rc rn L W p k L' W') : fx_ri D pc ln op ra rb rc rn L' W' cl0 c0 (fun p' k' => p' < p ∨ (p' = p ∧ k ≤ k')) := by
  obtain ⟨g1, g2, g3, g4⟩ := h
  obtain ⟨u1, u2⟩ := fx_st_up hs
  obtain ⟨m1, m2⟩ := fx_cnt_mono 20 (fx_px_up u1 u2)
  obtain ⟨r1, r2, r3, r4⟩ := fx_rng hok hp hk
  refine ⟨fx_st_inv hok hp hk g1 hs, by omega, fun hc => ?_, fun he p' hp' k' hk' hP => ?_⟩
  · obtain ⟨e1, e2⟩ := fx_st_same (g3 hc p hp k hk) hs
    rw [e1, e2]
    exact g3 hc
  · have hme := m2 (by omega)
    have hold := g4 (by omega)
    obtain ⟨s1, s2, s3⟩ := hs
    obtain ⟨r1', r2', r3', r4'⟩ := fx_rng hok hp' hk'
    have hW : W p' = W' p' := by
      have a := fx_px_w (L := L) (W := W) r1'
      have b := fx_px_w (L := L') (W := W') r1'
      rw [← a.2, ← b.2]; exact hme _ a.1
    have hap : ∀ j, fx_ap op rn L' p' k' j → fx_ap op rn L p' k' j := by
      intro j z
      have q1 : 9 * p' + k' + 1 ≠ 9 * p + k := by omega
      refine ⟨z.1, ?_⟩
      rcases z.2 with y | ⟨y, x⟩
      · rw [s1 _ q1] at y; exact .inl y
      · have q2 : 9 * p' + (rn (8 * p' + k')).toNatClampNeg ≠ 9 * p + k := by
          have := r3' y
          omega
        rw [s1 _ q2] at x; exact .inr ⟨y, x⟩
    have hbp : ∀ j, fx_bp pc op ra rb rc rn L' W' p' k' j → fx_bp pc op ra rb rc rn L W p' k' j := by
      intro j z
      refine fx_dep hap (fun y => by rw [hW]; exact y) (fun e i hi y => ?_) z
      have hq := r4' e
      have hpc := (hok.2.1 _ hq.1).1.2
      have hi3 : i < 3 := by omega
      have a := fx_px_l (L := L) (W := W) hq.2 hi3
      have b := fx_px_l (L := L') (W := W') hq.2 hi3
      rw [← a.2, hme _ a.1, b.2]; exact y
    by_cases e : p' = p ∧ k' = k
    · obtain ⟨rfl, rfl⟩ := e
      exact ⟨fun j z => (s2 j).mpr (.inr (hbp j z)), fun z y => (s3 _).mpr (.inr ⟨⟨z, hap _ y⟩, rfl⟩)⟩
    · have hc := hold p' hp' k' hk' (by omega)
      have q0 : 9 * p' + k' ≠ 9 * p + k := by omega
      exact ⟨fun j z => by rw [s1 _ q0]; exact hc.1 j (hbp j z), fun z y => u2 _ (hc.2 z (hap _ y))⟩
end
