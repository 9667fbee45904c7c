theorem zw_carry {D : Nat} {rs mr : Int32} {pc ln op ra rb rc rn ko pr ap rr rg lv po ly wa : Nat → Int32} {s s' o f p k : Nat} (hok : fx_ok D pc ln op ra rb rc rn) (hp : p < D) (hk : k < (ln p).toNatClampNeg) (hf : f < 10) (hpr : pr f = nI p) (hap : ap f = nI (k + 1)) (hpo : po f = nI k) (hlow : fr_low D ln ra pr ap rr po (f + 1)) (hs : s + 1 ≤ s') (hs' : s' ≤ 150) (ho : o + 1 ≤ s') (hd : op (8 * p + k) = 5 → f + 1 < 10) : zw_res D mr pc ln op ra rb rc rn lv ly wa s f (fun post => wpX_carryOut post (nI D, 0, rs, nI s', nI o, nI (f + 1), mr, pc, ln, op, ra, rb, rc, rn, ko, pr, ap, rr, rg, lv) (nI (8 * p + k)) (nI f)) (fun post => wpY_carryOut post (nI D, 0, rs, nI s', nI o, nI (f + 1), pc, ln, op, ra, rb, rc, rn, ko, pr, po, rg, ly, wa) (nI (8 * p + k)) (nI f)) := by
  have hD := hok.1
  obtain ⟨r1, r2, r3, r4⟩ := fx_rng hok hp hk
  obtain ⟨hop, ha, hb, hcc, h13, h4, h5⟩ := hok.2.2 p hp k hk
  have ha2 := ha.2
  have hc : 8 * p + k < 40 := by omega
  rcases fx_op hop with e | e | e | e | e | e | e | e
  · exact ⟨0, rs, nI s', nI o, nI (f + 1), ko, pr, ap, rr, upd rg (6 * f + (ra (8 * p + k)).toNatClampNeg) (rn (8 * p + k)), upd po f (nI (k + 1)), fun post h => xc_set e hc hf ha h, fun post h => yc_pre_n e (.inl (by decide)) hc ha (yc_set hf hc (by omega) hpo h), .inr ⟨rfl, s', o, f, rfl, rfl, rfl, hs', by omega, by omega, hf, fr_low_po hlow, ⟨p, k + 1, hp, by omega, hpr, hap, pk_us⟩⟩⟩
  iterate 3
    · have hbc := h13 (by rw [e]; decide)
      have e' : op (8 * p + k) = 1 ∨ op (8 * p + k) = 2 ∨ op (8 * p + k) = 3 := by rw [e]; decide
      exact ⟨0, rs, nI s', nI o, nI (f + 1), ko, pr, ap, rr, upd rg (6 * f + (ra (8 * p + k)).toNatClampNeg) (zr_alu (op (8 * p + k)) (rg (6 * f + (rb (8 * p + k)).toNatClampNeg)) (rg (6 * f + (rc (8 * p + k)).toNatClampNeg))), upd po f (nI (k + 1)), fun post h => xc_alu e' hc hf ha ⟨hb.1, hbc.1⟩ ⟨hcc.1, hbc.2⟩ h, fun post h => yc_pre_a rfl e' hc hf ha ⟨hb.1, hbc.1⟩ ⟨hcc.1, hbc.2⟩ (yc_alu e' hf (by omega) hpo h), .inr ⟨rfl, s', o, f, rfl, rfl, rfl, hs', by omega, by omega, hf, fr_low_po hlow, ⟨p, k + 1, hp, by omega, hpr, hap, pk_us⟩⟩⟩
  · by_cases hz : rg (6 * f + (ra (8 * p + k)).toNatClampNeg) = 0
    · have hn := (h4 e).1
      exact ⟨0, rs, nI s', nI o, nI (f + 1), ko, pr, upd ap f (rn (8 * p + k)), rr, rg, upd po f (rn (8 * p + k)), fun post h => xc_fork0 e hc hf ha hz h, fun post h => yc_pre_n e (.inr (by decide)) hc ha (yc_fork hf hc (by omega) hpo (fun _ => h) (fun z => absurd hz z)), .inr ⟨rfl, s', o, f, rfl, rfl, rfl, hs', by omega, by omega, hf, fr_low_ap (fr_low_po hlow), ⟨p, (rn (8 * p + k)).toNatClampNeg, hp, hn.2, hpr, by rw [pk_us]; exact hn.1, by rw [pk_us]; exact hn.1⟩⟩⟩
    · exact ⟨0, rs, nI s', nI o, nI (f + 1), ko, pr, ap, rr, rg, upd po f (nI (k + 1)), fun post h => xc_fork1 e hc hf ha hz h, fun post h => yc_pre_n e (.inr (by decide)) hc ha (yc_fork hf hc (by omega) hpo (fun z => absurd z hz) (fun _ => h)), .inr ⟨rfl, s', o, f, rfl, rfl, rfl, hs', by omega, by omega, hf, fr_low_po hlow, ⟨p, k + 1, hp, by omega, hpr, hap, pk_us⟩⟩⟩
  · obtain ⟨hn, hnD, hbp⟩ := h5 e
    have hf1 := hd e
    have hpc := (hok.2.1 _ hnD).1
    have hpc2 := hpc.2
    refine ⟨0, rs, nI s', nI o, nI (f + 1 + 1), ko, upd pr (f + 1) (nI (rn (8 * p + k)).toNatClampNeg), upd ap (f + 1) 0, upd rr (f + 1) (nI (6 * f + (ra (8 * p + k)).toNatClampNeg)), zr_Q (f + 1) (pc (rn (8 * p + k)).toNatClampNeg).toNatClampNeg (6 * f + (rb (8 * p + k)).toNatClampNeg) 0 rg, upd po (f + 1) 0, fun post h => ?_, fun post h => ?_, .inr ⟨rfl, s', o, f + 1, rfl, rfl, rfl, hs', by omega, by omega, by omega, ?_, ⟨(rn (8 * p + k)).toNatClampNeg, 0, hnD, by omega, pk_us, pk_us, pk_us⟩⟩⟩
    · refine xc_call e hc hf ha hb (fun q hq => ?_) h
      rw [hn.1]
      exact xw_callp (by omega) (by omega) hpc2 hpc.1 (by omega) hq
    · refine yc_pre_n e (.inr (by decide)) hc ha (yc_call hf (fun q hq => ?_) h)
      exact yw_call (by omega) hc (by omega) hpc2 hpc.1 hb.1 hn.1 (by omega) hq
    · intro g hg
      by_cases eg : g = f
      · subst eg
        exact ⟨p, k, hp, hk, by rw [pk_un (by omega)]; exact hpr, by rw [pk_un (by omega)]; exact hpo, by rw [pk_un (by omega)]; exact hap, by rw [pk_us]⟩
      · obtain ⟨p', k', g1, g2, g3, g4, g5, g6⟩ := hlow g (by omega)
        exact ⟨p', k', g1, g2, by rw [pk_un (by omega)]; exact g3, by rw [pk_un (by omega)]; exact g4, by rw [pk_un (by omega)]; exact g5, by rw [pk_un (by omega)]; exact g6⟩
  · exact ⟨0, rs, nI s', nI (o + 1), nI (f + 1), if o < 16 then upd ko o (rg (6 * f + (ra (8 * p + k)).toNatClampNeg)) else ko, pr, ap, rr, rg, upd po f (nI (k + 1)), fun post h => xc_out e hc hf (by omega) ha h, fun post h => yc_pre_n e (.inr (by decide)) hc ha (yc_out hf (by omega) (by omega) hpo h), .inr ⟨rfl, s', o + 1, f, rfl, rfl, rfl, hs', by omega, by omega, hf, fr_low_po hlow, ⟨p, k + 1, hp, by omega, hpr, hap, pk_us⟩⟩⟩
  · obtain ⟨oc1, rs1, st1, ot1, ac1, ko1, pr1, ap1, rr1, rg1, po1, hX, hY, hR⟩ := zw_end (rs := rs) (mr := mr) (ko := ko) (pr := pr) (ap := ap) (rr := rr) (rg := rg) (lv := lv) (po := po) (ly := ly) (wa := wa) (s := s) (s' := s') (o := o) (f := f) hok hf hlow (by omega) hs' (by omega) (rg (6 * f + (ra (8 * p + k)).toNatClampNeg))
    exact ⟨oc1, rs1, st1, ot1, ac1, ko1, pr1, ap1, rr1, rg1, po1, fun post h => xc_back e hc hf ha hX h, fun post h => yc_pre_n e (.inr (by decide)) hc ha (yc_back hf (by omega) hY h), hR⟩
theorem zw_look {D : Nat} {rs mr : Int32} {pc ln op ra rb rc rn ko pr ap rr rg lv po ly wa : Nat → Int32} {s o f : Nat} (hok : fx_ok D pc ln op ra rb rc rn) (hf : f < 10) (hlow : fr_low D ln ra pr ap rr po (f + 1)) (htop : fr_top D pr ap po f) (hs : s ≤ 150) (ho : o ≤ s) : zw_res D mr pc ln op ra rb rc rn lv ly wa s f (fun post => wpX_makeMove post (nI D, 0, rs, nI s, nI o, nI (f + 1), mr, pc, ln, op, ra, rb, rc, rn, ko, pr, ap, rr, rg, lv)) (fun post => wpY_look post (nI D, 0, rs, nI s, nI o, nI (f + 1), pc, ln, op, ra, rb, rc, rn, ko, pr, po, rg, ly, wa)) := by
  have hD := hok.1
  obtain ⟨p, k, hp, hk8, hpr, hap, hpo⟩ := htop
  have hl := (hok.2.1 p hp).2
  have hl2 := hl.2
  have cf : (nI f).toNatClampNeg = f := nI_clamp (by omega)
  have jf : vp_in (nI f) 10 := vp_in_nI (by omega) (by omega)
  have cp : (nI p).toNatClampNeg = p := nI_clamp (by omega)
  have jp : vp_in (nI p) 5 := vp_in_nI (by omega) (by omega)
  have k0 : ¬ nI k < 0 := nI_pos (by omega)
  by_cases hkl : k < (ln p).toNatClampNeg
  · have q1 : nI k < ln p := by rw [hl.1]; exact nI_lt hkl (by omega)
    have c8 : (nI (8 * p + k)).toNatClampNeg = 8 * p + k := nI_clamp (by omega)
    have i8 : vp_in (nI (8 * p + k)) 40 := vp_in_nI (by omega) (by omega)
    by_cases hs1 : s < 150
    · have q2 : nI s < 150 := nI_lt (b := 150) hs1 (by decide)
      by_cases hdeep : op (8 * p + k) = 5 ∧ ¬ f + 1 < 10
      · have q3 : ¬ nI (f + 1) < 10 := nI_nlt (b := 10) (by omega) (by omega)
        refine ⟨3, rs, nI s, nI o, nI (f + 1), ko, pr, ap, rr, rg, po, fun post h => ?_, fun post h => ?_, .inl (by decide)⟩
        · unfold wpX_makeMove
          refine nm_r (nI_pred f) ?_
          rw [cf]
          refine ⟨jf, nm_r hpr ⟨jf, nm_r hap ?_⟩⟩
          rw [cp]
          refine ⟨jp, br_t q1 (nm_r (fx_i8 p k) (br_t q2 ⟨i8, ?_⟩))⟩
          rw [c8]
          exact br_t hdeep.1 (br_f q3 h)
        · unfold wpY_look
          refine nm_r (nI_pred f) ?_
          rw [cf]
          refine ⟨jf, nm_r hpr ⟨jf, nm_r hpo (br_f k0 ?_)⟩⟩
          rw [cp, fx_j8, c8]
          exact ⟨jp, br_t q1 (br_t q2 ⟨i8, br_t hdeep.1 (br_f q3 h)⟩)⟩
      · obtain ⟨oc1, rs1, st1, ot1, ac1, ko1, pr1, ap1, rr1, rg1, po1, hX, hY, hR⟩ := zw_carry (rs := rs) (mr := mr) (ko := ko) (pr := pr) (ap := upd ap f (nI (k + 1))) (rr := rr) (rg := rg) (lv := lv) (po := po) (ly := ly) (wa := wa) (s := s) (s' := s + 1) (o := o) (f := f) hok hp hkl hf hpr pk_us hpo (fr_low_ap hlow) (Nat.le_refl _) hs1 (by omega) (fun e => Classical.not_not.mp fun z => hdeep ⟨e, z⟩)
        refine ⟨oc1, rs1, st1, ot1, ac1, ko1, pr1, ap1, rr1, rg1, po1, fun post h => ?_, fun post h => ?_, hR⟩
        · have h91 : wX_makeMove_91 post (nI f) (nI k) (nI (8 * p + k)) (nI D) 0 rs (nI s) (nI o) (nI (f + 1)) mr pc ln op ra rb rc rn ko pr ap rr rg lv := by
            unfold wX_makeMove_91
            rw [cf, nI_1 k]
            exact nm_r (nI_1 s) ⟨jf, nm_e (hX _ h)⟩
          unfold wpX_makeMove
          refine nm_r (nI_pred f) ?_
          rw [cf]
          refine ⟨jf, nm_r hpr ⟨jf, nm_r hap ?_⟩⟩
          rw [cp]
          refine ⟨jp, br_t q1 (nm_r (fx_i8 p k) (br_t q2 ⟨i8, ?_⟩))⟩
          rw [c8]
          exact br_c (fun e => br_t (nI_lt (b := 10) (Classical.not_not.mp fun z => hdeep ⟨e, z⟩) (by decide)) h91) (fun _ => h91)
        · have h93 : wY_look_93 post (nI f) (nI p) (nI k) (nI D) 0 rs (nI s) (nI o) (nI (f + 1)) pc ln op ra rb rc rn ko pr po rg ly wa := by
            unfold wY_look_93
            rw [fx_j8]
            exact nm_r (nI_1 s) (hY _ h)
          unfold wpY_look
          refine nm_r (nI_pred f) ?_
          rw [cf]
          refine ⟨jf, nm_r hpr ⟨jf, nm_r hpo (br_f k0 ?_)⟩⟩
          rw [cp, fx_j8, c8]
          exact ⟨jp, br_t q1 (br_t q2 ⟨i8, br_c (fun e => br_t (nI_lt (b := 10) (Classical.not_not.mp fun z => hdeep ⟨e, z⟩) (by decide)) h93) (fun _ => h93)⟩)⟩
    · have q2 : ¬ nI s < 150 := nI_nlt (b := 150) (by omega) (by omega)
      refine ⟨2, rs, nI s, nI o, nI (f + 1), ko, pr, ap, rr, rg, po, fun post h => ?_, fun post h => ?_, .inl (by decide)⟩
      · unfold wpX_makeMove
        refine nm_r (nI_pred f) ?_
        rw [cf]
        refine ⟨jf, nm_r hpr ⟨jf, nm_r hap ?_⟩⟩
        rw [cp]
        exact ⟨jp, br_t q1 (nm_e (br_f q2 h))⟩
      · unfold wpY_look
        refine nm_r (nI_pred f) ?_
        rw [cf]
        refine ⟨jf, nm_r hpr ⟨jf, nm_r hpo (br_f k0 ?_)⟩⟩
        rw [cp]
        exact ⟨jp, br_t q1 (br_f q2 h)⟩
  · have q1 : ¬ nI k < ln p := by rw [hl.1]; exact nI_nlt (by omega) (by omega)
    obtain ⟨oc1, rs1, st1, ot1, ac1, ko1, pr1, ap1, rr1, rg1, po1, hX, hY, hR⟩ := zw_end (rs := rs) (mr := mr) (ko := ko) (pr := pr) (ap := ap) (rr := rr) (rg := rg) (lv := lv) (po := po) (ly := ly) (wa := wa) (s := s) (s' := s) (o := o) (f := f) hok hf hlow (Nat.le_refl _) hs ho 0
    refine ⟨oc1, rs1, st1, ot1, ac1, ko1, pr1, ap1, rr1, rg1, po1, fun post h => ?_, fun post h => ?_, hR⟩
    · unfold wpX_makeMove
      refine nm_r (nI_pred f) ?_
      rw [cf]
      refine ⟨jf, nm_r hpr ⟨jf, nm_r hap ?_⟩⟩
      rw [cp]
      exact ⟨jp, br_f q1 (hX _ h)⟩
    · unfold wpY_look
      refine nm_r (nI_pred f) ?_
      rw [cf]
      refine ⟨jf, nm_r hpr ⟨jf, nm_r hpo (br_f k0 ?_)⟩⟩
      rw [cp]
      refine ⟨jp, br_f q1 ?_⟩
      unfold wY_look_35
      exact hY _ h
theorem zw_run {D : Nat} {mr : Int32} {pc ln op ra rb rc rn lv ly wa : Nat → Int32} (hok : fx_ok D pc ln op ra rb rc rn) : ∀ (m s o f t : Nat) (rs : Int32) (ko pr ap rr rg po : Nat → Int32), 310 < m + (2 * s + 10 - f) → t + f ≤ 2 * s → s ≤ 150 → o ≤ s → f < 10 → fr_low D ln ra pr ap rr po (f + 1) → fr_top D pr ap po f → ∃ (oc' rs' st' ot' ac' : Int32) (ko' pr' ap' rr' rg' po' : Nat → Int32), (∀ post : Int32 → SX → Prop, post oc' (nI D, oc', rs', st', ot', ac', mr, pc, ln, op, ra, rb, rc, rn, ko', pr', ap', rr', rg', lv) → wX_run_23 post (m + 1) (nI t) (nI D) 0 rs (nI s) (nI o) (nI (f + 1)) mr pc ln op ra rb rc rn ko pr ap rr rg lv) ∧ (∀ post : Int32 → SY → Prop, post oc' (nI D, oc', rs', st', ot', ac', pc, ln, op, ra, rb, rc, rn, ko', pr', po', rg', ly, wa) → wY_run_93 post (m + 1) (nI t) (nI D) 0 rs (nI s) (nI o) (nI (f + 1)) pc ln op ra rb rc rn ko pr po rg ly wa) := by
  intro m
  induction m with
  | zero =>
    intro s o f t rs ko pr ap rr rg po hm ht hs
    omega
  | succ m ih =>
    intro s o f t rs ko pr ap rr rg po hm ht hs ho hf hlow htop
    obtain ⟨oc1, rs1, st1, ot1, ac1, ko1, pr1, ap1, rr1, rg1, po1, hX, hY, hR⟩ := zw_look (rs := rs) (mr := mr) (ko := ko) (rg := rg) (lv := lv) (ly := ly) (wa := wa) hok hf hlow htop hs ho
    have q1 : ¬ (1000 : Int32) ≤ nI t := nI_ge (b := 1000) (by omega) (by decide)
    have q2 : ¬ (400 : Int32) ≤ nI t := nI_ge (b := 400) (by omega) (by decide)
    rcases hR with hoc | ⟨rfl, s', o', f', rfl, rfl, rfl, b1, b2, b3, b4, b5, b6⟩
    · have q3 : ¬ (1000 : Int32) ≤ nI (t + 1) := nI_ge (b := 1000) (by omega) (by decide)
      have q4 : ¬ (400 : Int32) ≤ nI (t + 1) := nI_ge (b := 400) (by omega) (by decide)
      exact ⟨oc1, rs1, st1, ot1, ac1, ko1, pr1, ap1, rr1, rg1, po1, fun post h => br_f q1 (br_t rfl (hX _ (nm_r (nI_1 t) (br_f q3 (br_f hoc h))))), fun post h => br_f q2 (br_t rfl (hY _ (nm_r (nI_1 t) (br_f q4 (br_f hoc h)))))⟩
    · obtain ⟨oc2, rs2, st2, ot2, ac2, ko2, pr2, ap2, rr2, rg2, po2, hX2, hY2⟩ := ih s' o' f' (t + 1) rs1 ko1 pr1 ap1 rr1 rg1 po1 (by omega) (by omega) b1 b2 b4 b5 b6
      exact ⟨oc2, rs2, st2, ot2, ac2, ko2, pr2, ap2, rr2, rg2, po2, fun post h => br_f q1 (br_t rfl (hX _ (nm_r (nI_1 t) (hX2 post h)))), fun post h => br_f q2 (br_t rfl (hY _ (nm_r (nI_1 t) (hY2 post h))))⟩
