/-! X's rounds -/
theorem xw_hbT {post : Int32 → Prop} {x y : Int32} {n : Nat} (hn : n < 32) (hy : y = nI n) (h : bt x n = true) (hp : post 1) : wpX_hasBit post x y := by
  subst hy
  exact xw_hb_t hn h hp
theorem xw_hbF {post : Int32 → Prop} {x y : Int32} {n : Nat} (hn : n < 32) (hy : y = nI n) (h : ¬ bt x n = true) (hp : post 0) : wpX_hasBit post x y := by
  subst hy
  exact xw_hb_f hn h hp
theorem xw_79 {post : SX → Prop} {J : Int32 → Int32 → (Nat → Int32) → (Nat → Int32) → (Nat → Int32) → (Nat → Int32) → (Nat → Int32) → (Nat → Int32) → (Nat → Int32) → (Nat → Int32) → (Nat → Int32) → (Nat → Int32) → (Nat → Int32) → (Nat → Int32) → (Nat → Int32) → Prop} {d oc rs st ot ac mr : Int32} {pc ln op ra rb rc rn ko pr ap rr rg lv : Nat → Int32} {p k : Nat} {x4 x5 : Int32} (hp : p < 5) (hk : k < 8) (h : J (nI k + (-1)) mr pc ln op ra rb rc rn ko pr ap rr rg (upd lv (9 * p + k) (x5 ||| (x4 &&& (fx_rs op ra (8 * p + k) ^^^ (-1)))))) : wX_traceProcedure_79 post J (nI p) (nI k) (nI (8 * p + k)) x4 x5 d oc rs st ot ac mr pc ln op ra rb rc rn ko pr ap rr rg lv := by
  have e9 : nI p * 9 + nI k = nI (9 * p + k) := by rw [fx_i9, nI_add]
  have c9 : (nI (9 * p + k)).toNatClampNeg = 9 * p + k := nI_clamp (by omega)
  unfold wX_traceProcedure_79
  rw [e9, c9]
  exact xw_rset (by omega) ⟨vp_in_nI (by omega) (by omega), nm_e (nm_e h)⟩
theorem xw_step {D : Nat} {d oc rs st ot ac mr : Int32} {pc ln op ra rb rc rn ko pr ap rr rg lv : Nat → Int32} {p k : Nat} (hok : fx_ok D pc ln op ra rb rc rn) (hI : fx_inv D pc ln op ra rb rc rn lv (bt mr)) (hp : p < D) (hk : k < (ln p).toNatClampNeg) : ∃ (mr' : Int32) (lv' : Nat → Int32), fx_st pc op ra rb rc rn lv (bt mr) p k lv' (bt mr') ∧ ∀ (post : SX → Prop) (n : Nat), wX_traceProcedure_9 post (nI p) d oc rs st ot ac n (nI k + (-1)) mr' pc ln op ra rb rc rn ko pr ap rr rg lv' → wX_traceProcedure_9 post (nI p) d oc rs st ot ac (n + 1) (nI k) mr pc ln op ra rb rc rn ko pr ap rr rg lv := by
  obtain ⟨r1, r2, r3, r4⟩ := fx_rng hok hp hk
  have hcell := hok.2.2 p hp k hk
  obtain ⟨ho, ha, hb, hc, h13, h4, h5⟩ := hcell
  have ha2 := ha.2
  have c8 : (nI (8 * p + k)).toNatClampNeg = 8 * p + k := nI_clamp (by omega)
  have i8 : vp_in (nI (8 * p + k)) 40 := vp_in_nI (by omega) (by omega)
  have k0 : ¬ nI k < 0 := nI_pos (by omega)
  have hst2 : ∀ i, i ≠ 9 * p + k → upd lv (9 * p + k) (fx_bf pc op ra rb rc rn lv (bt mr) p k) i = lv i := fun i hi => pk_un hi
  have hst3 : ∀ j, bt (upd lv (9 * p + k) (fx_bf pc op ra rb rc rn lv (bt mr) p k) (9 * p + k)) j = true ↔ (bt (lv (9 * p + k)) j = true ∨ fx_bp pc op ra rb rc rn lv (bt mr) p k j) := by
    intro j
    rw [pk_us, fx_bf_bit hok lv (bt mr) hp hk j]
    exact ⟨.inr, fun z => z.elim (hI.2.2.1 p hp k hk j) id⟩
  have hbf := fx_rd_eq hok lv (bt mr) hp hk
  by_cases e5 : op (8 * p + k) = 5
  · obtain ⟨hn, hnD, _⟩ := h5 e5
    have hn2 := hn.2
    by_cases hit : bt (fx_af op rn lv p k) (ra (8 * p + k)).toNatClampNeg = true
    · refine ⟨mr ||| ((1 : Int32) <<< (rn (8 * p + k) &&& 31)), upd lv (9 * p + k) (fx_bf pc op ra rb rc rn lv (bt mr) p k), ⟨hst2, hst3, fun q => ?_⟩, fun post n h => ?_⟩
      · have e : bt ((1 : Int32) <<< (rn (8 * p + k) &&& 31)) q = decide (q = (rn (8 * p + k)).toNatClampNeg) := by
          conv => lhs; rw [hn.1]
          exact fx_one (by omega) q
        rw [b_or, Bool.or_eq_true, e, decide_eq_true_eq]
        rw [fx_af_bit] at hit
        exact ⟨fun z => z.imp id fun y => ⟨⟨e5, hit⟩, y⟩, fun z => z.imp id fun y => y.2⟩
      · refine br_f k0 (nm_r (fx_i8 p k) (xw_liveAfter r1 r2 (fun e => (h4 e).1) (xw_reads r1 (by omega) (fun e => (h5 e).1) ⟨i8, ?_⟩)))
        rw [c8]
        refine br_t e5 ⟨i8, xw_hbT (by omega) ha.1 hit (br_f (by decide) ⟨i8, nm_e (xw_79 r1 r2 ?_)⟩)⟩
        rw [hbf]
        exact h
    · refine ⟨mr, upd lv (9 * p + k) (fx_bf pc op ra rb rc rn lv (bt mr) p k), ⟨hst2, hst3, fun q => ?_⟩, fun post n h => ?_⟩
      · rw [fx_af_bit] at hit
        exact ⟨.inl, fun z => z.elim id fun y => absurd y.1.2 hit⟩
      · refine br_f k0 (nm_r (fx_i8 p k) (xw_liveAfter r1 r2 (fun e => (h4 e).1) (xw_reads r1 (by omega) (fun e => (h5 e).1) ⟨i8, ?_⟩)))
        rw [c8]
        refine br_t e5 ⟨i8, xw_hbF (by omega) ha.1 hit (br_t rfl (xw_79 r1 r2 ?_))⟩
        rw [hbf]
        exact h
  · refine ⟨mr, upd lv (9 * p + k) (fx_bf pc op ra rb rc rn lv (bt mr) p k), ⟨hst2, hst3, fun q => ?_⟩, fun post n h => ?_⟩
    · exact ⟨.inl, fun z => z.elim id fun y => absurd y.1.1 e5⟩
    · refine br_f k0 (nm_r (fx_i8 p k) (xw_liveAfter r1 r2 (fun e => (h4 e).1) (xw_reads r1 (by omega) (fun e => (h5 e).1) ⟨i8, ?_⟩)))
      rw [c8]
      refine br_f e5 (xw_79 r1 r2 ?_)
      rw [hbf]
      exact h
theorem fx_ri_weak {D : Nat} {pc ln op ra rb rc rn L : Nat → Int32} {W : Nat → Bool} {cl0 : Prop} {c0 : Nat} {P Q : Nat → Nat → Prop} (hPQ : ∀ p' k', p' < D → k' < (ln p').toNatClampNeg → Q p' k' → P p' k') (h : fx_ri D pc ln op ra rb rc rn L W cl0 c0 P) : fx_ri D pc ln op ra rb rc rn L W cl0 c0 Q :=
  ⟨h.1, h.2.1, h.2.2.1, fun e p' hp' k' hk' hq => h.2.2.2 e p' hp' k' hk' (hPQ p' k' hp' hk' hq)⟩
theorem xw_trace9 {D : Nat} {d oc rs st ot ac : Int32} {pc ln op ra rb rc rn ko pr ap rr rg : Nat → Int32} {p : Nat} {cl0 : Prop} {c0 : Nat} (hok : fx_ok D pc ln op ra rb rc rn) (hp : p < D) : ∀ (m : Nat) (mr : Int32) (lv : Nat → Int32), m ≤ (ln p).toNatClampNeg → fx_ri D pc ln op ra rb rc rn lv (bt mr) cl0 c0 (fun p' k' => p' < p ∨ (p' = p ∧ m ≤ k')) → ∃ (mr' : Int32) (lv' : Nat → Int32), fx_ri D pc ln op ra rb rc rn lv' (bt mr') cl0 c0 (fun p' k' => p' < p ∨ (p' = p ∧ 0 ≤ k')) ∧ ∀ (post : SX → Prop), post (d, oc, rs, st, ot, ac, mr', pc, ln, op, ra, rb, rc, rn, ko, pr, ap, rr, rg, lv') → wX_traceProcedure_9 post (nI p) d oc rs st ot ac (m + 1) (nI m + (-1)) mr pc ln op ra rb rc rn ko pr ap rr rg lv := by
  intro m
  induction m with
  | zero =>
    intro mr lv _ hri
    exact ⟨mr, lv, hri, fun post h => br_t (by decide) h⟩
  | succ m ih =>
    intro mr lv hm hri
    obtain ⟨mr1, lv1, hst, hw⟩ := xw_step (d := d) (oc := oc) (rs := rs) (st := st) (ot := ot) (ac := ac) (ko := ko) (pr := pr) (ap := ap) (rr := rr) (rg := rg) hok hri.1 hp (show m < (ln p).toNatClampNeg by omega)
    obtain ⟨mr2, lv2, hri2, hw2⟩ := ih mr1 lv1 (by omega) (fx_ri_st hok hp (by omega) hri hst)
    refine ⟨mr2, lv2, hri2, fun post h => ?_⟩
    rw [pk_m1]
    exact hw post _ (hw2 post h)
theorem xw_trace {D : Nat} {d oc rs st ot ac mr : Int32} {pc ln op ra rb rc rn ko pr ap rr rg lv : Nat → Int32} {p : Nat} {cl0 : Prop} {c0 : Nat} (hok : fx_ok D pc ln op ra rb rc rn) (hp : p < D) (hri : fx_ri D pc ln op ra rb rc rn lv (bt mr) cl0 c0 (fun p' _ => p' < p)) : ∃ (mr' : Int32) (lv' : Nat → Int32), fx_ri D pc ln op ra rb rc rn lv' (bt mr') cl0 c0 (fun p' _ => p' < p + 1) ∧ ∀ (post : SX → Prop), post (d, oc, rs, st, ot, ac, mr', pc, ln, op, ra, rb, rc, rn, ko, pr, ap, rr, rg, lv') → wpX_traceProcedure post (d, oc, rs, st, ot, ac, mr, pc, ln, op, ra, rb, rc, rn, ko, pr, ap, rr, rg, lv) (nI p) := by
  have hD := hok.1
  have hl := (hok.2.1 p hp).2
  obtain ⟨mr', lv', h1, h2⟩ := xw_trace9 (d := d) (oc := oc) (rs := rs) (st := st) (ot := ot) (ac := ac) (ko := ko) (pr := pr) (ap := ap) (rr := rr) (rg := rg) hok hp (ln p).toNatClampNeg mr lv (Nat.le_refl _) (fx_ri_weak (fun p' k' _ hk' hq => by rcases hq with z | ⟨rfl, z⟩; exact z; omega) hri)
  refine ⟨mr', lv', fx_ri_weak (fun p' k' _ _ hq => by omega) h1, fun post h => ?_⟩
  unfold wpX_traceProcedure
  have cp : (nI p).toNatClampNeg = p := nI_clamp (by omega)
  rw [cp]
  refine ⟨vp_in_nI (by omega) (by omega), nm_r (e' := nI (ln p).toNatClampNeg + (-1)) ?_ ⟨_, h2 post h⟩⟩
  conv => lhs; rw [hl.1]
  exact Int32.sub_eq_add_neg _ _
theorem xw_36 {D : Nat} {oc rs st ot ac : Int32} {pc ln op ra rb rc rn ko pr ap rr rg : Nat → Int32} {cl0 : Prop} {c0 : Nat} {x1 : Int32} (hok : fx_ok D pc ln op ra rb rc rn) : ∀ (m p : Nat), p + m = D → ∀ (mr : Int32) (lv : Nat → Int32), fx_ri D pc ln op ra rb rc rn lv (bt mr) cl0 c0 (fun p' _ => p' < p) → ∃ (mr' : Int32) (lv' : Nat → Int32), fx_ri D pc ln op ra rb rc rn lv' (bt mr') cl0 c0 (fun p' _ => p' < D) ∧ ∀ (post : SX → Prop) (J : Int32 → Int32 → Int32 → Int32 → Int32 → Int32 → Int32 → Int32 → (Nat → Int32) → (Nat → Int32) → (Nat → Int32) → (Nat → Int32) → (Nat → Int32) → (Nat → Int32) → (Nat → Int32) → (Nat → Int32) → (Nat → Int32) → (Nat → Int32) → (Nat → Int32) → (Nat → Int32) → (Nat → Int32) → Prop), J (x1 + 1) (nI D) oc rs st ot ac mr' pc ln op ra rb rc rn ko pr ap rr rg lv' → wX_findWhatMatters_36 post J x1 (m + 1) (nI p) (nI D) oc rs st ot ac mr pc ln op ra rb rc rn ko pr ap rr rg lv := by
  intro m
  have hD := hok.1
  induction m with
  | zero =>
    intro p hp mr lv hri
    have : p = D := by omega
    subst this
    exact ⟨mr, lv, hri, fun post J h => br_t (Int32.le_refl _) (nm_e h)⟩
  | succ m ih =>
    intro p hp mr lv hri
    obtain ⟨mr1, lv1, h1, hw1⟩ := xw_trace (d := nI D) (oc := oc) (rs := rs) (st := st) (ot := ot) (ac := ac) (ko := ko) (pr := pr) (ap := ap) (rr := rr) (rg := rg) hok (show p < D by omega) hri
    obtain ⟨mr2, lv2, h2, hw2⟩ := ih (p + 1) (by omega) mr1 lv1 h1
    refine ⟨mr2, lv2, h2, fun post J h => br_f (nI_ge (by omega) (by omega)) (hw1 _ (nm_r (nI_1 p) (hw2 post J h)))⟩
def fx_ro (D : Nat) (pc ln op ra rb rc rn L : Nat → Int32) (W : Nat → Bool) (r : Nat) : Prop :=
  fx_inv D pc ln op ra rb rc rn L W ∧ (fx_closed D pc ln op ra rb rc rn L W ∨ r + 1 ≤ fx_cnt (fx_px L W) 20)
theorem xw_28 {D : Nat} {oc rs st ot ac : Int32} {pc ln op ra rb rc rn ko pr ap rr rg : Nat → Int32} (hok : fx_ok D pc ln op ra rb rc rn) : ∀ (m r : Nat), r + m = 21 → ∀ (mr : Int32) (lv : Nat → Int32), fx_ro D pc ln op ra rb rc rn lv (bt mr) r → ∃ (mr' : Int32) (lv' : Nat → Int32), fx_ro D pc ln op ra rb rc rn lv' (bt mr') 21 ∧ ∀ (post : SX → Prop), post (nI D, oc, rs, st, ot, ac, mr', pc, ln, op, ra, rb, rc, rn, ko, pr, ap, rr, rg, lv') → wX_findWhatMatters_28 post (m + 1) (nI r) (nI D) oc rs st ot ac mr pc ln op ra rb rc rn ko pr ap rr rg lv := by
  intro m
  have hD := hok.1
  induction m with
  | zero =>
    intro r hr mr lv hro
    have : r = 21 := by omega
    subst this
    exact ⟨mr, lv, hro, fun post h => br_t (by decide) h⟩
  | succ m ih =>
    intro r hr mr lv hro
    obtain ⟨mr1, lv1, h1, hw1⟩ := xw_36 (oc := oc) (rs := rs) (st := st) (ot := ot) (ac := ac) (ko := ko) (pr := pr) (ap := ap) (rr := rr) (rg := rg) (x1 := nI r) (cl0 := fx_closed D pc ln op ra rb rc rn lv (bt mr)) (c0 := fx_cnt (fx_px lv (bt mr)) 20) hok D 0 (by omega) mr lv ⟨hro.1, Nat.le_refl _, id, fun _ p' _ k' _ z => absurd z (by omega)⟩
    have hro1 : fx_ro D pc ln op ra rb rc rn lv1 (bt mr1) (r + 1) := by
      refine ⟨h1.1, ?_⟩
      rcases hro.2 with hc | hc
      · exact .inl (h1.2.2.1 hc)
      · rcases Nat.lt_or_ge (fx_cnt (fx_px lv (bt mr)) 20) (fx_cnt (fx_px lv1 (bt mr1)) 20) with z | z
        · exact .inr (by omega)
        · have := h1.2.1
          exact .inl fun p' hp' k' hk' => h1.2.2.2 (by omega) p' hp' k' hk' hp'
    obtain ⟨mr2, lv2, h2, hw2⟩ := ih (r + 1) (by omega) mr1 lv1 hro1
    refine ⟨mr2, lv2, h2, fun post h => br_f (nI_ge (b := 21) (by omega) (by decide)) ⟨D + 1, hw1 post _ ?_⟩⟩
    rw [nI_1]
    exact hw2 post h
theorem xw_7 {d oc rs st ot ac mr : Int32} {pc ln op ra rb rc rn ko pr ap rr rg : Nat → Int32} : ∀ (m i : Nat), i + m = 45 → ∀ (lv : Nat → Int32), (∀ j, j < i → lv j = 0) → ∃ lv' : Nat → Int32, (∀ j, j < 45 → lv' j = 0) ∧ ∀ (post : SX → Prop), (∃ n28, wX_findWhatMatters_28 post n28 0 d oc rs st ot ac mr pc ln op ra rb rc rn ko pr ap rr rg lv') → wX_findWhatMatters_7 post d oc rs st ot ac mr (m + 1) (nI i) pc ln op ra rb rc rn ko pr ap rr rg lv := by
  intro m
  induction m with
  | zero =>
    intro i hi lv h
    have : i = 45 := by omega
    subst this
    exact ⟨lv, h, fun post h => br_t (by decide) h⟩
  | succ m ih =>
    intro i hi lv h
    have ci : (nI i).toNatClampNeg = i := nI_clamp (by omega)
    obtain ⟨lv', h1, h2⟩ := ih (i + 1) (by omega) (upd lv i 0) (fun j hj => by
      by_cases e : j = i
      · rw [e, pk_us]
      · rw [pk_un e]; exact h j (by omega))
    refine ⟨lv', h1, fun post hp => br_f (nI_ge (b := 45) (by omega) (by decide)) ⟨vp_in_nI (by omega) (by omega), nm_r (by rw [ci]) (nm_r (nI_1 i) (h2 post hp))⟩⟩
theorem xw_find {D : Nat} {oc rs st ot ac mr : Int32} {pc ln op ra rb rc rn ko pr ap rr rg lv : Nat → Int32} (hok : fx_ok D pc ln op ra rb rc rn) : ∃ (mr' : Int32) (lv' : Nat → Int32), (fx_inv D pc ln op ra rb rc rn lv' (bt mr') ∧ fx_closed D pc ln op ra rb rc rn lv' (bt mr')) ∧ ∀ (post : SX → Prop), post (nI D, oc, rs, st, ot, ac, mr', pc, ln, op, ra, rb, rc, rn, ko, pr, ap, rr, rg, lv') → wpX_findWhatMatters post (nI D, oc, rs, st, ot, ac, mr, pc, ln, op, ra, rb, rc, rn, ko, pr, ap, rr, rg, lv) := by
  obtain ⟨lv0, h0, hw0⟩ := xw_7 (d := nI D) (oc := oc) (rs := rs) (st := st) (ot := ot) (ac := ac) (mr := 1) (pc := pc) (ln := ln) (op := op) (ra := ra) (rb := rb) (rc := rc) (rn := rn) (ko := ko) (pr := pr) (ap := ap) (rr := rr) (rg := rg) 45 0 rfl lv (fun j hj => absurd hj (by omega))
  have hinv : fx_inv D pc ln op ra rb rc rn lv0 (bt 1) := fx_inv0 hok h0 (fun q _ => by rw [fx_b1, decide_eq_true_eq])
  have hro : fx_ro D pc ln op ra rb rc rn lv0 (bt 1) 0 := by
    refine ⟨hinv, .inr ?_⟩
    have e := fx_px_w (L := lv0) (W := bt 1) (q := 0) (by omega)
    exact fx_cnt_pos e.1 (by rw [e.2]; decide)
  obtain ⟨mr1, lv1, h1, hw1⟩ := xw_28 (oc := oc) (rs := rs) (st := st) (ot := ot) (ac := ac) (ko := ko) (pr := pr) (ap := ap) (rr := rr) (rg := rg) hok 21 0 rfl 1 lv0 hro
  refine ⟨mr1, lv1, ⟨h1.1, ?_⟩, fun post h => ⟨46, hw0 post ⟨22, hw1 post h⟩⟩⟩
  rcases h1.2 with z | z
  · exact z
  · have := fx_cnt_le (fx_px lv1 (bt mr1)) 20
    omega
