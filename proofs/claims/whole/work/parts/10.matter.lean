/-! the three questions of what matters -/
theorem i_vc_parametersThatMatter {k : Nat} {u : SX} {v : SY} (I : i_Rel k u v) (hk : k + 5 ≤ 2560) (v1 : Int32) : wpX_parametersThatMatter (fun r u' => wpY_parametersThatMatter (fun r' v' => r' = r ∧ i_Rel (k + 5) u' v') v v1) u v1 := by
  obtain ⟨D, oc, rs, st, ot, ac, mr, pc, ln, op, ra, rb, rc, rn, ko, pr, ap, rr, rg, lv, po, ly, wa, rfl, rfl, hok⟩ := I
  have hD := hok.1
  obtain ⟨mr', lv', hx, hwx⟩ := xw_find (oc := oc) (rs := rs) (st := st) (ot := ot) (ac := ac) (mr := mr) (ko := ko) (pr := pr) (ap := ap) (rr := rr) (rg := rg) (lv := lv) hok
  obtain ⟨ly', wa', hy, hwy⟩ := yw_collect (oc := oc) (rs := rs) (st := st) (ot := ot) (ac := ac) (ko := ko) (pr := pr) (po := po) (rg := rg) (ly := ly) (wa := wa) hok
  obtain ⟨s1, s2⟩ := fx_same hx.1 hx.2 hy.1 hy.2
  unfold wpX_parametersThatMatter
  rcases zr_ix v1 hD with hv | ⟨p, hp, rfl⟩
  · refine xw_dec_f hv ?_
    refine br_t rfl ?_
    unfold wpY_parametersThatMatter
    refine hwy _ ?_
    refine yw_dec_f hv ?_
    exact br_t rfl ⟨rfl, zr_mk _ hok⟩
  · have ip : vp_in (nI p) 5 := vp_in_nI (by omega) (by omega)
    have cp : (nI p).toNatClampNeg = p := nI_clamp (by omega)
    have c9 : (nI (9 * p)).toNatClampNeg = 9 * p := nI_clamp (by omega)
    refine xw_dec_t hD hp ?_
    refine br_f (by decide) ?_
    refine hwx _ ?_
    refine xw_mpar (by omega) ?_
    unfold wpY_parametersThatMatter
    refine hwy _ ?_
    refine yw_dec_t hD hp ?_
    refine br_f (by decide) ?_
    rw [fx_j9, c9, cp]
    refine ⟨vp_in_nI (by omega) (by omega), ip, ?_, zr_mk _ hok⟩
    rw [s1 _ (by omega)]
theorem i_vc_resultMatters {k : Nat} {u : SX} {v : SY} (I : i_Rel k u v) (hk : k + 5 ≤ 2560) (v1 : Int32) : wpX_resultMatters (fun r u' => wpY_resultMatters (fun r' v' => r' = r ∧ i_Rel (k + 5) u' v') v v1) u v1 := by
  obtain ⟨D, oc, rs, st, ot, ac, mr, pc, ln, op, ra, rb, rc, rn, ko, pr, ap, rr, rg, lv, po, ly, wa, rfl, rfl, hok⟩ := I
  have hD := hok.1
  obtain ⟨mr', lv', hx, hwx⟩ := xw_find (oc := oc) (rs := rs) (st := st) (ot := ot) (ac := ac) (mr := mr) (ko := ko) (pr := pr) (ap := ap) (rr := rr) (rg := rg) (lv := lv) hok
  obtain ⟨ly', wa', hy, hwy⟩ := yw_collect (oc := oc) (rs := rs) (st := st) (ot := ot) (ac := ac) (ko := ko) (pr := pr) (po := po) (rg := rg) (ly := ly) (wa := wa) hok
  obtain ⟨s1, s2⟩ := fx_same hx.1 hx.2 hy.1 hy.2
  unfold wpX_resultMatters
  rcases zr_ix v1 hD with hv | ⟨p, hp, rfl⟩
  · refine xw_dec_f hv ?_
    refine br_t rfl ?_
    unfold wpY_resultMatters
    refine hwy _ ?_
    refine yw_dec_f hv ?_
    exact br_t rfl ⟨rfl, zr_mk _ hok⟩
  · have ip : vp_in (nI p) 5 := vp_in_nI (by omega) (by omega)
    have cp : (nI p).toNatClampNeg = p := nI_clamp (by omega)
    have e := s2 p (by omega)
    refine xw_dec_t hD hp ?_
    refine br_f (by decide) ?_
    refine hwx _ ?_
    by_cases hb : bt mr' p = true
    · refine xw_hb_t (by omega) hb ⟨rfl, ?_⟩
      unfold wpY_resultMatters
      refine hwy _ ?_
      refine yw_dec_t hD hp ?_
      refine br_f (by decide) ⟨ip, ?_⟩
      rw [cp]
      rw [hb] at e
      exact br_f ((fx_yw_t wa' p).mp e.symm) ⟨rfl, zr_mk _ hok⟩
    · refine xw_hb_f (by omega) hb ⟨rfl, ?_⟩
      unfold wpY_resultMatters
      refine hwy _ ?_
      refine yw_dec_t hD hp ?_
      refine br_f (by decide) ⟨ip, ?_⟩
      rw [cp]
      refine br_t ?_ ⟨rfl, zr_mk _ hok⟩
      apply Classical.byContradiction
      intro z
      exact hb (by rw [e]; exact (fx_yw_t wa' p).mpr z)
theorem xw_28T {post : Int32 → Prop} {d oc rs st ot ac mr : Int32} {pc ln op ra rb rc rn ko pr ap rr rg lv : Nat → Int32} {p k : Nat} (hp : p < 5) (hk : k < 8) (h4 : op (8 * p + k) = 4 → fx_nn (rn (8 * p + k)) 8) (ha : fx_nn (ra (8 * p + k)) 5) (hT : bt (fx_af op rn lv p k) (ra (8 * p + k)).toNatClampNeg = true → post 1) (hF : ¬ bt (fx_af op rn lv p k) (ra (8 * p + k)).toNatClampNeg = true → post 0) : wX_instructionMatters_28 post (nI p) (nI k) (nI (8 * p + k)) d oc rs st ot ac mr pc ln op ra rb rc rn ko pr ap rr rg lv := by
  have ha2 := ha.2
  have c8 : (nI (8 * p + k)).toNatClampNeg = 8 * p + k := nI_clamp (by omega)
  have i8 : vp_in (nI (8 * p + k)) 40 := vp_in_nI (by omega) (by omega)
  unfold wX_instructionMatters_28
  rw [c8]
  refine xw_liveAfter hp hk h4 ?_
  refine ⟨i8, ?_⟩
  by_cases hb : bt (fx_af op rn lv p k) (ra (8 * p + k)).toNatClampNeg = true
  · exact xw_hbT (by omega) ha.1 hb ⟨rfl, hT hb⟩
  · exact xw_hbF (by omega) ha.1 hb ⟨rfl, hF hb⟩
theorem xw_im {post : Int32 → Prop} {D : Nat} {d oc rs st ot ac mr : Int32} {pc ln op ra rb rc rn ko pr ap rr rg lv : Nat → Int32} {p k : Nat} (hok : fx_ok D pc ln op ra rb rc rn) (hp : p < D) (hk : k < (ln p).toNatClampNeg) (hT : (¬ op (8 * p + k) < 4 ∨ bt (fx_af op rn lv p k) (ra (8 * p + k)).toNatClampNeg = true) → post 1) (hF : op (8 * p + k) < 4 → ¬ bt (fx_af op rn lv p k) (ra (8 * p + k)).toNatClampNeg = true → post 0) : wpX_instructionMatters post (d, oc, rs, st, ot, ac, mr, pc, ln, op, ra, rb, rc, rn, ko, pr, ap, rr, rg, lv) (nI p) (nI k) := by
  obtain ⟨r1, r2, r3, r4⟩ := fx_rng hok hp hk
  obtain ⟨ho, ha, hb, hc, h13, h4, h5⟩ := hok.2.2 p hp k hk
  have c8 : (nI (8 * p + k)).toNatClampNeg = 8 * p + k := nI_clamp (by omega)
  have i8 : vp_in (nI (8 * p + k)) 40 := vp_in_nI (by omega) (by omega)
  unfold wpX_instructionMatters
  refine nm_r (fx_i8 p k) ⟨i8, nm_e ?_⟩
  rw [c8]
  have h28 : op (8 * p + k) < 4 → wX_instructionMatters_28 post (nI p) (nI k) (nI (8 * p + k)) d oc rs st ot ac mr pc ln op ra rb rc rn ko pr ap rr rg lv := fun z => xw_28T r1 r2 (fun e => (h4 e).1) ha (fun y => hT (.inr y)) (hF z)
  rcases fx_op ho with e | e | e | e | e | e | e | e
  · exact br_t e (h28 (by rw [e]; decide))
  · exact br_f (by rw [e]; decide) (xw_ar_t (by rw [e]; decide) (br_f (by decide) (h28 (by rw [e]; decide))))
  · exact br_f (by rw [e]; decide) (xw_ar_t (by rw [e]; decide) (br_f (by decide) (h28 (by rw [e]; decide))))
  · exact br_f (by rw [e]; decide) (xw_ar_t (by rw [e]; decide) (br_f (by decide) (h28 (by rw [e]; decide))))
  iterate 4
    · exact br_f (by rw [e]; decide) (xw_ar_f (by rw [e]; decide) (by rw [e]; decide) (by rw [e]; decide) (br_t rfl (hT (.inl (by rw [e]; decide)))))
theorem zw_18 {D : Nat} {oc rs st ot ac mr : Int32} {pc ln op ra rb rc rn ko pr ap rr rg lv po ly wa : Nat → Int32} {p : Nat} (hok : fx_ok D pc ln op ra rb rc rn) (hp : p < D) (hs : ∀ i, i < 45 → lv i = ly i) : ∀ (m i : Nat), i + m = (ln p).toNatClampNeg → ∀ x : Int32, ∃ r : Int32, (∀ post : Int32 → SX → Prop, post r (nI D, oc, rs, st, ot, ac, mr, pc, ln, op, ra, rb, rc, rn, ko, pr, ap, rr, rg, lv) → wX_instructionsThatMatter_18 post (nI p) (nI D) oc rs st ot ac mr pc ln op ra rb rc rn ko pr ap rr rg lv (m + 1) x (nI i)) ∧ (∀ post : Int32 → SY → Prop, post r (nI D, oc, rs, st, ot, ac, pc, ln, op, ra, rb, rc, rn, ko, pr, po, rg, ly, wa) → wY_instructionsThatMatter_8 post (nI p) (nI D) oc rs st ot ac pc ln op ra rb rc rn ko pr po rg ly wa (m + 1) x (nI i)) := by
  have hD := hok.1
  have ip : vp_in (nI p) 5 := vp_in_nI (by omega) (by omega)
  have cp : (nI p).toNatClampNeg = p := nI_clamp (by omega)
  have hl := (hok.2.1 p hp).2
  have hl2 := hl.2
  intro m
  induction m with
  | zero =>
    intro i hi x
    have q : ln (nI p).toNatClampNeg ≤ nI i := by
      rw [cp, hl.1]; exact nI_le (by omega) (by omega)
    refine ⟨x, fun post h => ⟨ip, br_t q h⟩, fun post h => ?_⟩
    unfold wY_instructionsThatMatter_8
    refine yw_dec_t hD hp ?_
    exact br_f (by decide) ⟨ip, br_t q h⟩
  | succ m ih =>
    intro i hi x
    have hki : i < (ln p).toNatClampNeg := by omega
    obtain ⟨r1, r2, r3, r4⟩ := fx_rng hok hp hki
    obtain ⟨ho, ha, hb, hc, h13, h4, h5⟩ := hok.2.2 p hp i hki
    have ha2 := ha.2
    have c8 : (nI (8 * p + i)).toNatClampNeg = 8 * p + i := nI_clamp (by omega)
    have i8 : vp_in (nI (8 * p + i)) 40 := vp_in_nI (by omega) (by omega)
    have q : ¬ ln (nI p).toNatClampNeg ≤ nI i := by
      rw [cp, hl.1]; exact nI_ge (by omega) (by omega)
    have eaf : fx_af op rn lv p i = fx_af op rn ly p i := by
      unfold fx_af
      rw [hs (9 * p + i + 1) (by omega)]
      by_cases e4 : op (8 * p + i) = 4
      · have := r3 e4
        rw [hs (9 * p + (rn (8 * p + i)).toNatClampNeg) (by omega)]
      · rw [if_neg e4, if_neg e4]
    by_cases hm : ¬ op (8 * p + i) < 4 ∨ bt (fx_af op rn lv p i) (ra (8 * p + i)).toNatClampNeg = true
    · obtain ⟨r, hX, hY⟩ := ih (i + 1) (by omega) (x ||| ((1 : Int32) <<< (nI i &&& 31)))
      refine ⟨r, fun post h => ⟨ip, br_f q ?_⟩, fun post h => ?_⟩
      · refine xw_im hok hp hki (fun _ => ?_) (fun z y => absurd hm (by rintro (a | a); exact a z; exact y a))
        exact br_f (by decide) (nm_e (nm_r (nI_1 i) (hX post h)))
      · unfold wY_instructionsThatMatter_8
        refine yw_dec_t hD hp ?_
        refine br_f (by decide) ⟨ip, br_f q ?_⟩
        rw [fx_j8, c8]
        have h77 : wY_instructionsThatMatter_77 post (wY_instructionsThatMatter_8 post (nI p) (nI D) oc rs st ot ac pc ln op ra rb rc rn ko pr po rg ly wa (m + 1)) (nI p) x (nI i) (nI D) oc rs st ot ac pc ln op ra rb rc rn ko pr po rg ly wa := nm_e (nm_r (nI_1 i) (hY post h))
        refine ⟨i8, br_c (fun z => ?_) (fun z => ?_)⟩
        · unfold wY_instructionsThatMatter_46
          rw [fx_j8, c8]
          refine br_t rfl ?_
          refine yw_after r1 r2 (fun e => (h4 e).1) ?_
          rw [eaf] at hm
          exact ⟨i8, yw_hb (by omega) ha.1 (fun _ => h77) (fun y => absurd hm (by rintro (a | a); exact a z; exact y a))⟩
        · exact br_f (by decide) h77
    · obtain ⟨r, hX, hY⟩ := ih (i + 1) (by omega) x
      have hm1 : op (8 * p + i) < 4 := Classical.not_not.mp fun z => hm (.inl z)
      have hm2 : ¬ bt (fx_af op rn lv p i) (ra (8 * p + i)).toNatClampNeg = true := fun z => hm (.inr z)
      refine ⟨r, fun post h => ⟨ip, br_f q ?_⟩, fun post h => ?_⟩
      · refine xw_im hok hp hki (fun z => absurd z hm) (fun _ _ => ?_)
        exact br_t rfl (nm_r (nI_1 i) (hX post h))
      · unfold wY_instructionsThatMatter_8
        refine yw_dec_t hD hp ?_
        refine br_f (by decide) ⟨ip, br_f q ?_⟩
        rw [fx_j8, c8]
        refine ⟨i8, br_t hm1 ?_⟩
        unfold wY_instructionsThatMatter_46
        rw [fx_j8, c8]
        refine br_t rfl ?_
        refine yw_after r1 r2 (fun e => (h4 e).1) ?_
        rw [eaf] at hm2
        exact ⟨i8, yw_hb (by omega) ha.1 (fun y => absurd y hm2) (fun _ => nm_r (nI_1 i) (hY post h))⟩
theorem i_vc_instructionsThatMatter {k : Nat} {u : SX} {v : SY} (I : i_Rel k u v) (hk : k + 5 ≤ 2560) (v1 : Int32) : wpX_instructionsThatMatter (fun r u' => wpY_instructionsThatMatter (fun r' v' => r' = r ∧ i_Rel (k + 5) u' v') v v1) u v1 := by
  obtain ⟨D, oc, rs, st, ot, ac, mr, pc, ln, op, ra, rb, rc, rn, ko, pr, ap, rr, rg, lv, po, ly, wa, rfl, rfl, hok⟩ := I
  have hD := hok.1
  obtain ⟨mr', lv', hx, hwx⟩ := xw_find (oc := oc) (rs := rs) (st := st) (ot := ot) (ac := ac) (mr := mr) (ko := ko) (pr := pr) (ap := ap) (rr := rr) (rg := rg) (lv := lv) hok
  obtain ⟨ly', wa', hy, hwy⟩ := yw_collect (oc := oc) (rs := rs) (st := st) (ot := ot) (ac := ac) (ko := ko) (pr := pr) (po := po) (rg := rg) (ly := ly) (wa := wa) hok
  obtain ⟨s1, s2⟩ := fx_same hx.1 hx.2 hy.1 hy.2
  unfold wpX_instructionsThatMatter
  rcases zr_ix v1 hD with hv | ⟨p, hp, rfl⟩
  · refine xw_dec_f hv ?_
    refine br_t rfl ?_
    unfold wpY_instructionsThatMatter
    refine hwy _ ⟨1, ?_⟩
    unfold wY_instructionsThatMatter_8
    refine yw_dec_f hv ?_
    exact br_t rfl ⟨rfl, zr_mk _ hok⟩
  · obtain ⟨r, hX, hY⟩ := zw_18 (oc := oc) (rs := rs) (st := st) (ot := ot) (ac := ac) (mr := mr') (ko := ko) (pr := pr) (ap := ap) (rr := rr) (rg := rg) (lv := lv') (po := po) (ly := ly') (wa := wa') hok hp s1 (ln p).toNatClampNeg 0 (by omega) 0
    refine xw_dec_t hD hp ?_
    refine br_f (by decide) ?_
    refine hwx _ ⟨_, hX _ ?_⟩
    unfold wpY_instructionsThatMatter
    exact hwy _ ⟨_, hY _ ⟨rfl, zr_mk _ hok⟩⟩
