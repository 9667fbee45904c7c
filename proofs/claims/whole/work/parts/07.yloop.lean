/-! Y's passes -/
def fx_yi (D : Nat) (pc ln op ra rb rc rn L : Nat → Int32) (W : Nat → Bool) (c0 m : Nat) (x1 : Int32) : Prop :=
  fx_inv D pc ln op ra rb rc rn L W ∧ (x1 = 0 → ∀ c, m ≤ c → c < 40 → c / 8 < D → c % 8 < (ln (c / 8)).toNatClampNeg → fx_cl pc op ra rb rc rn L W (c / 8) (c % 8)) ∧ (x1 = 1 → c0 < fx_cnt (fx_py L W) 245) ∧ c0 ≤ fx_cnt (fx_py L W) 245 ∧ (x1 = 0 ∨ x1 = 1)
theorem yw_115 {post : SY → Prop} {J53 J69 : Int32 → Int32 → Int32 → Int32 → Int32 → Int32 → Int32 → Int32 → (Nat → Int32) → (Nat → Int32) → (Nat → Int32) → (Nat → Int32) → (Nat → Int32) → (Nat → Int32) → (Nat → Int32) → (Nat → Int32) → (Nat → Int32) → (Nat → Int32) → (Nat → Int32) → (Nat → Int32) → (Nat → Int32) → Prop} {x1 x2 x3 : Int32} {d oc rs st ot ac : Int32} {pc ln op ra rb rc rn ko pr po rg ly wa : Nat → Int32} (hx : x1 = 0 ∨ x1 = 1) (h : J69 x1 (x3 + (-1)) d oc rs st ot ac pc ln op ra rb rc rn ko pr po rg ly wa) : wY_collect_115 post J53 J69 x1 x2 x3 d oc rs st ot ac pc ln op ra rb rc rn ko pr po rg ly wa := by
  unfold wY_collect_115
  rcases hx with rfl | rfl
  · exact br_t rfl (nm_e h)
  · exact br_f (by decide) (nm_e h)
theorem yw_69 {D : Nat} {oc rs st ot ac : Int32} {pc ln op ra rb rc rn ko pr po rg : Nat → Int32} {x2 : Int32} {c0 : Nat} (hok : fx_ok D pc ln op ra rb rc rn) : ∀ (m : Nat) (x1 : Int32) (ly wa : Nat → Int32), m ≤ 40 → fx_yi D pc ln op ra rb rc rn ly (fx_yw wa) c0 m x1 → ∃ (x1' : Int32) (ly' wa' : Nat → Int32), fx_yi D pc ln op ra rb rc rn ly' (fx_yw wa') c0 0 x1' ∧ ∀ (post : SY → Prop) (J : Int32 → Int32 → Int32 → Int32 → Int32 → Int32 → Int32 → Int32 → (Nat → Int32) → (Nat → Int32) → (Nat → Int32) → (Nat → Int32) → (Nat → Int32) → (Nat → Int32) → (Nat → Int32) → (Nat → Int32) → (Nat → Int32) → (Nat → Int32) → (Nat → Int32) → (Nat → Int32) → (Nat → Int32) → Prop), J x1' (x2 + 1) (nI D) oc rs st ot ac pc ln op ra rb rc rn ko pr po rg ly' wa' → wY_collect_69 post J x2 (m + 1) x1 (nI m + (-1)) (nI D) oc rs st ot ac pc ln op ra rb rc rn ko pr po rg ly wa := by
  intro m
  have hD := hok.1
  induction m with
  | zero =>
    intro x1 ly wa _ hyi
    exact ⟨x1, ly, wa, hyi, fun post J h => br_t (by decide) (nm_e h)⟩
  | succ m ih =>
    intro x1 ly wa hm hyi
    have e1 : nI m / 8 = nI (m / 8) := pk_div (d := 8) (by omega) (by decide) (by decide)
    have e2 : nI m - nI m / 8 * 8 = nI (m % 8) := pk_rem (d := 8) (by omega) (by decide) (by decide)
    have c8 : (nI (m / 8)).toNatClampNeg = m / 8 := nI_clamp (by omega)
    have k0 : ¬ nI m < 0 := nI_pos (by omega)
    have n8 : ¬ (8 : Int32) = 0 := by decide
    rw [pk_m1]
    obtain ⟨g1, g2, g3, g4, g5⟩ := hyi
    by_cases hin : m / 8 < D ∧ m % 8 < (ln (m / 8)).toNatClampNeg
    · have hl := (hok.2.1 _ hin.1).2
      have hl2 := hl.2
      have q1 : ¬ nI D ≤ nI (m / 8) := nI_ge hin.1 (by omega)
      have q2 : ¬ ln (m / 8) ≤ nI (m % 8) := by
        rw [hl.1]; exact nI_ge hin.2 (by omega)
      obtain ⟨r, ly1, wa1, hst, hr, hw⟩ := yw_add (d := nI D) (oc := oc) (rs := rs) (st := st) (ot := ot) (ac := ac) (ko := ko) (pr := pr) (po := po) (rg := rg) hok g1 hin.1 hin.2
      have hI1 := fx_st_inv hok hin.1 hin.2 g1 hst
      have hup := fx_st_up hst
      have hmono := (fx_cnt_mono 245 (fx_py_up hup.1 hup.2)).1
      rcases hr with ⟨r0, rfl, rfl, hcl⟩ | ⟨r1, hlt⟩
      · obtain ⟨x1', ly', wa', hyi', hw'⟩ := ih x1 ly1 wa1 (by omega) ⟨g1, fun z c hc hc40 hcD hcl' => by
          by_cases e : c = m
          · subst e; exact hcl
          · exact g2 z c (by omega) hc40 hcD hcl', g3, g4, g5⟩
        refine ⟨x1', ly', wa', hyi', fun post J h => br_f k0 ⟨n8, ?_⟩⟩
        rw [e2, e1, c8]
        refine br_f q1 ⟨n8, n8, vp_in_nI (by omega) (by omega), br_f q2 ⟨n8, n8, hw _ (br_t r0 (yw_115 g5 (hw' post J h)))⟩⟩
      · obtain ⟨x1', ly', wa', hyi', hw'⟩ := ih 1 ly1 wa1 (by omega) ⟨hI1, fun z => absurd z (by decide), fun _ => by omega, by omega, .inr rfl⟩
        refine ⟨x1', ly', wa', hyi', fun post J h => br_f k0 ⟨n8, ?_⟩⟩
        rw [e2, e1, c8]
        refine br_f q1 ⟨n8, n8, vp_in_nI (by omega) (by omega), br_f q2 ⟨n8, n8, hw _ (br_f (by rw [r1]; decide) (nm_e (hw' post J h)))⟩⟩
    · obtain ⟨x1', ly', wa', hyi', hw'⟩ := ih x1 ly wa (by omega) ⟨g1, fun z c hc hc40 hcD hcl' => by
          by_cases e : c = m
          · subst e; exact absurd ⟨hcD, hcl'⟩ hin
          · exact g2 z c (by omega) hc40 hcD hcl', g3, g4, g5⟩
      refine ⟨x1', ly', wa', hyi', fun post J h => br_f k0 ⟨n8, ?_⟩⟩
      rw [e2, e1, c8]
      by_cases hq : m / 8 < D
      · have hl := (hok.2.1 _ hq).2
        have hl2 := hl.2
        have q1 : ¬ nI D ≤ nI (m / 8) := nI_ge hq (by omega)
        have q2 : ln (m / 8) ≤ nI (m % 8) := by
          rw [hl.1]; exact nI_le (by omega) (by omega)
        exact br_f q1 ⟨n8, n8, vp_in_nI (by omega) (by omega), br_t q2 (yw_115 g5 (hw' post J h))⟩
      · exact br_t (nI_le (by omega) (by omega)) (yw_115 g5 (hw' post J h))
theorem yw_53 {D : Nat} {oc rs st ot ac : Int32} {pc ln op ra rb rc rn ko pr po rg : Nat → Int32} (hok : fx_ok D pc ln op ra rb rc rn) : ∀ (m t : Nat), t + m = 250 → ∀ (x1 : Int32) (ly wa : Nat → Int32), (x1 = 0 ∨ x1 = 1) → fx_inv D pc ln op ra rb rc rn ly (fx_yw wa) → (x1 = 0 → fx_closed D pc ln op ra rb rc rn ly (fx_yw wa)) → (x1 = 1 → t + 1 ≤ fx_cnt (fx_py ly (fx_yw wa)) 245) → ∃ (ly' wa' : Nat → Int32), (fx_inv D pc ln op ra rb rc rn ly' (fx_yw wa') ∧ fx_closed D pc ln op ra rb rc rn ly' (fx_yw wa')) ∧ ∀ (post : SY → Prop), post (nI D, oc, rs, st, ot, ac, pc, ln, op, ra, rb, rc, rn, ko, pr, po, rg, ly', wa') → wY_collect_53 post (m + 1) x1 (nI t) (nI D) oc rs st ot ac pc ln op ra rb rc rn ko pr po rg ly wa := by
  intro m
  induction m with
  | zero =>
    intro t ht x1 ly wa hx hI h0 h1
    have : t = 250 := by omega
    subst this
    have hc := fx_cnt_le (fx_py ly (fx_yw wa)) 245
    have hx0 : x1 = 0 := hx.elim id fun z => by have := h1 z; omega
    exact ⟨ly, wa, ⟨hI, h0 hx0⟩, fun post h => br_t (by decide) h⟩
  | succ m ih =>
    intro t ht x1 ly wa hx hI h0 h1
    have q : ¬ (250 : Int32) ≤ nI t := nI_ge (b := 250) (by omega) (by decide)
    rcases hx with rfl | rfl
    · exact ⟨ly, wa, ⟨hI, h0 rfl⟩, fun post h => br_f q (br_t rfl h)⟩
    · obtain ⟨x1', ly1, wa1, hyi, hw⟩ := yw_69 (oc := oc) (rs := rs) (st := st) (ot := ot) (ac := ac) (ko := ko) (pr := pr) (po := po) (rg := rg) (x2 := nI t) (c0 := fx_cnt (fx_py ly (fx_yw wa)) 245) hok 40 0 ly wa (Nat.le_refl _) ⟨hI, fun _ c hc hc' => by omega, fun z => absurd z (by decide), Nat.le_refl _, .inl rfl⟩
      have hcnt := h1 rfl
      obtain ⟨ly2, wa2, h2, hw2⟩ := ih (t + 1) (by omega) x1' ly1 wa1 hyi.2.2.2.2 hyi.1 (fun z p hp k hk => by
        have hr := fx_rng hok hp hk
        have := hyi.2.1 z (8 * p + k) (by omega) (by omega)
        have e1 : (8 * p + k) / 8 = p := by omega
        have e2 : (8 * p + k) % 8 = k := by omega
        rw [e1, e2] at this
        exact this hp hk) (fun z => by have := hyi.2.2.1 z; omega)
      refine ⟨ly2, wa2, h2, fun post h => br_f q (br_f (by decide) ⟨41, hw post _ ?_⟩)⟩
      rw [nI_1]
      exact hw2 post h
theorem yw_23 {d oc rs st ot ac : Int32} {pc ln op ra rb rc rn ko pr po rg ly : Nat → Int32} : ∀ (m i : Nat), i + m = 5 → ∀ (wa : Nat → Int32), (∀ j, j < i → (fx_yw wa j = true ↔ j = 0)) → ∃ wa' : Nat → Int32, (∀ j, j < 5 → (fx_yw wa' j = true ↔ j = 0)) ∧ ∀ (post : SY → Prop), (∃ n53, wY_collect_53 post n53 1 0 d oc rs st ot ac pc ln op ra rb rc rn ko pr po rg ly wa') → wY_collect_23 post d oc rs st ot ac (m + 1) (nI i) pc ln op ra rb rc rn ko pr po rg ly wa := by
  intro m
  induction m with
  | zero =>
    intro i hi wa h
    have : i = 5 := by omega
    subst this
    exact ⟨wa, h, fun post h => br_t (by decide) h⟩
  | succ m ih =>
    intro i hi wa h
    have ci : (nI i).toNatClampNeg = i := nI_clamp (by omega)
    have q : ¬ (5 : Int32) ≤ nI i := nI_ge (b := 5) (by omega) (by decide)
    by_cases e : i = 0
    · subst e
      obtain ⟨wa', h1, h2⟩ := ih 1 (by omega) (upd wa 0 1) (fun j hj => by
        have : j = 0 := by omega
        subst this
        rw [fx_yw_t, pk_us]
        exact ⟨fun _ => rfl, fun _ => by decide⟩)
      exact ⟨wa', h1, fun post hp => br_f q (br_t (by decide) ⟨vp_in_nI (by omega) (by omega), nm_r (e' := upd wa 0 1) (by rw [ci]; rfl) (nm_r (nI_1 0) (h2 post hp))⟩)⟩
    · obtain ⟨wa', h1, h2⟩ := ih (i + 1) (by omega) (upd wa i 0) (fun j hj => by
        by_cases e' : j = i
        · rw [fx_yw_t, e', pk_us]
          exact ⟨fun z => absurd rfl z, fun z => absurd z e⟩
        · rw [fx_yw_t, pk_un e', ← fx_yw_t]; exact h j (by omega))
      exact ⟨wa', h1, fun post hp => br_f q (br_f (nI_ne0 (by omega) (by omega)) ⟨vp_in_nI (by omega) (by omega), nm_r (e' := upd wa i 0) (by rw [ci]; rfl) (nm_r (nI_1 i) (h2 post hp))⟩)⟩
theorem yw_2 {d oc rs st ot ac : Int32} {pc ln op ra rb rc rn ko pr po rg wa : Nat → Int32} : ∀ (m i : Nat), i + m = 45 → ∀ (ly : Nat → Int32), (∀ j, j < i → ly j = 0) → ∃ ly' : Nat → Int32, (∀ j, j < 45 → ly' j = 0) ∧ ∀ (post : SY → Prop), (∃ n23, wY_collect_23 post d oc rs st ot ac n23 0 pc ln op ra rb rc rn ko pr po rg ly' wa) → wY_collect_2 post d oc rs st ot ac (m + 1) (nI i) pc ln op ra rb rc rn ko pr po rg ly wa := by
  intro m
  induction m with
  | zero =>
    intro i hi ly h
    have : i = 45 := by omega
    subst this
    exact ⟨ly, h, fun post h => br_t (by decide) h⟩
  | succ m ih =>
    intro i hi ly h
    have ci : (nI i).toNatClampNeg = i := nI_clamp (by omega)
    obtain ⟨ly', h1, h2⟩ := ih (i + 1) (by omega) (upd ly i 0) (fun j hj => by
      by_cases e : j = i
      · rw [e, pk_us]
      · rw [pk_un e]; exact h j (by omega))
    refine ⟨ly', h1, fun post hp => br_f (nI_ge (b := 45) (by omega) (by decide)) ⟨vp_in_nI (by omega) (by omega), nm_r (by rw [ci]) (nm_r (nI_1 i) (h2 post hp))⟩⟩
theorem yw_collect {D : Nat} {oc rs st ot ac : Int32} {pc ln op ra rb rc rn ko pr po rg ly wa : Nat → Int32} (hok : fx_ok D pc ln op ra rb rc rn) : ∃ (ly' wa' : Nat → Int32), (fx_inv D pc ln op ra rb rc rn ly' (fx_yw wa') ∧ fx_closed D pc ln op ra rb rc rn ly' (fx_yw wa')) ∧ ∀ (post : SY → Prop), post (nI D, oc, rs, st, ot, ac, pc, ln, op, ra, rb, rc, rn, ko, pr, po, rg, ly', wa') → wpY_collect post (nI D, oc, rs, st, ot, ac, pc, ln, op, ra, rb, rc, rn, ko, pr, po, rg, ly, wa) := by
  obtain ⟨ly0, h0, hw0⟩ := yw_2 (d := nI D) (oc := oc) (rs := rs) (st := st) (ot := ot) (ac := ac) (pc := pc) (ln := ln) (op := op) (ra := ra) (rb := rb) (rc := rc) (rn := rn) (ko := ko) (pr := pr) (po := po) (rg := rg) (wa := wa) 45 0 rfl ly (fun j hj => absurd hj (by omega))
  obtain ⟨wa0, v0, hv0⟩ := yw_23 (d := nI D) (oc := oc) (rs := rs) (st := st) (ot := ot) (ac := ac) (pc := pc) (ln := ln) (op := op) (ra := ra) (rb := rb) (rc := rc) (rn := rn) (ko := ko) (pr := pr) (po := po) (rg := rg) (ly := ly0) 5 0 rfl wa (fun j hj => absurd hj (by omega))
  have hinv : fx_inv D pc ln op ra rb rc rn ly0 (fx_yw wa0) := fx_inv0 hok h0 v0
  have hc : 0 + 1 ≤ fx_cnt (fx_py ly0 (fx_yw wa0)) 245 := by
    have e := fx_py_w (L := ly0) (W := fx_yw wa0) (q := 0) (by omega)
    exact fx_cnt_pos e.1 (by rw [e.2]; exact hinv.1)
  obtain ⟨ly1, wa1, h1, hw1⟩ := yw_53 (oc := oc) (rs := rs) (st := st) (ot := ot) (ac := ac) (ko := ko) (pr := pr) (po := po) (rg := rg) hok 250 0 rfl 1 ly0 wa0 (.inr rfl) hinv (fun z => absurd z (by decide)) (fun _ => hc)
  exact ⟨ly1, wa1, h1, fun post h => ⟨46, hw0 post ⟨6, hv0 post ⟨251, hw1 post h⟩⟩⟩⟩
