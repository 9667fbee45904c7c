/-! Y's question of what matters -/
theorem fx_j8 (p k : Nat) : 8 * nI p + nI k = nI (8 * p + k) := by
  show nI 8 * nI p + nI k = _
  rw [pk_mul, nI_add]
theorem fx_j9 (p : Nat) : 9 * nI p = nI (9 * p) := by
  show nI 9 * nI p = _
  rw [pk_mul]
def fx_yw (wa : Nat → Int32) (q : Nat) : Bool := !decide (wa q = 0)
theorem fx_yw_t (wa : Nat → Int32) (q : Nat) : fx_yw wa q = true ↔ ¬ wa q = 0 := by
  unfold fx_yw
  simp
theorem yw_after {post : Int32 → Prop} {d oc rs st ot ac : Int32} {pc ln op ra rb rc rn ko pr po rg ly wa : Nat → Int32} {p k : Nat} (hp : p < 5) (hk : k < 8) (h4 : op (8 * p + k) = 4 → fx_nn (rn (8 * p + k)) 8) (h : post (fx_af op rn ly p k)) : wpY_after post (d, oc, rs, st, ot, ac, pc, ln, op, ra, rb, rc, rn, ko, pr, po, rg, ly, wa) (nI p) (nI k) := by
  have c8 : (nI (8 * p + k)).toNatClampNeg = 8 * p + k := nI_clamp (by omega)
  have ck : (nI (9 * p + k + 1)).toNatClampNeg = 9 * p + k + 1 := nI_clamp (by omega)
  have i8 : vp_in (nI (8 * p + k)) 40 := vp_in_nI (by omega) (by omega)
  unfold wpY_after
  refine nm_r (fx_j8 p k) ?_
  rw [fx_j9, fx_add1, c8, ck]
  refine ⟨i8, ?_⟩
  unfold fx_af at h
  by_cases h7 : op (8 * p + k) = 7
  · rw [if_pos h7] at h
    exact br_t h7 h
  · rw [if_neg h7] at h
    refine br_f h7 ⟨vp_in_nI (by omega) (by omega), i8, ?_⟩
    by_cases e4 : op (8 * p + k) = 4
    · rw [if_pos e4] at h
      have hn := h4 e4
      have hn2 := hn.2
      have cn : (nI (9 * p + (rn (8 * p + k)).toNatClampNeg)).toNatClampNeg = 9 * p + (rn (8 * p + k)).toNatClampNeg := nI_clamp (by omega)
      rw [fx_addn _ hn, cn]
      exact br_t e4 ⟨i8, vp_in_nI (by omega) (by omega), h⟩
    · rw [if_neg e4] at h
      rw [Int32.or_zero]
      exact br_f e4 h
theorem yw_before {post : Int32 → Prop} {d oc rs st ot ac : Int32} {pc ln op ra rb rc rn ko pr po rg ly wa : Nat → Int32} {p k : Nat} (hp : p < 5) (hk : k < 8) (h4 : op (8 * p + k) = 4 → fx_nn (rn (8 * p + k)) 8) (h5 : op (8 * p + k) = 5 → fx_nn (rn (8 * p + k)) 4) (h : post (fx_bf pc op ra rb rc rn ly (fx_yw wa) p k)) : wpY_before post (d, oc, rs, st, ot, ac, pc, ln, op, ra, rb, rc, rn, ko, pr, po, rg, ly, wa) (nI p) (nI k) := by
  have c8 : (nI (8 * p + k)).toNatClampNeg = 8 * p + k := nI_clamp (by omega)
  have cp : (nI p).toNatClampNeg = p := nI_clamp (by omega)
  have i8 : vp_in (nI (8 * p + k)) 40 := vp_in_nI (by omega) (by omega)
  unfold wpY_before
  refine nm_r (fx_j8 p k) ⟨i8, nm_e (yw_after hp hk h4 ⟨i8, nm_e ?_⟩)⟩
  rw [c8, cp]
  unfold fx_bf at h
  by_cases e4 : op (8 * p + k) = 4
  · rw [if_pos e4] at h
    exact br_t e4 h
  · rw [if_neg e4] at h
    refine br_f e4 ?_
    by_cases e6 : op (8 * p + k) = 6
    · rw [if_pos e6] at h
      exact br_t e6 h
    · rw [if_neg e6] at h
      refine br_f e6 ?_
      by_cases e7 : op (8 * p + k) = 7
      · rw [if_pos e7] at h
        refine br_t e7 ⟨vp_in_nI hp (by omega), ?_⟩
        by_cases hw : wa p = 0
        · rw [if_neg (fun z => (fx_yw_t wa p).mp z hw)] at h
          exact br_t hw h
        · rw [if_pos ((fx_yw_t wa p).mpr hw)] at h
          exact br_f hw h
      · rw [if_neg e7] at h
        refine br_f e7 ?_
        by_cases e5 : op (8 * p + k) = 5
        · rw [if_pos e5] at h
          have hn := h5 e5
          have hn2 := hn.2
          have cn : (nI (9 * (rn (8 * p + k)).toNatClampNeg)).toNatClampNeg = 9 * (rn (8 * p + k)).toNatClampNeg := nI_clamp (by omega)
          have cq : (nI (rn (8 * p + k)).toNatClampNeg).toNatClampNeg = (rn (8 * p + k)).toNatClampNeg := nI_clamp (by omega)
          refine br_t e5 ⟨i8, nm_r hn.1 ?_⟩
          rw [fx_j9, cn, cq]
          exact ⟨vp_in_nI (by omega) (by omega), vp_in_nI (by omega) (by omega), i8, nm_e h⟩
        · rw [if_neg e5] at h
          refine br_f e5 ?_
          by_cases e0 : op (8 * p + k) = 0
          · rw [if_pos e0] at h
            exact br_t e0 h
          · rw [if_neg e0] at h
            refine br_f e0 ?_
            by_cases hz : (fx_af op rn ly p k &&& ((1 : Int32) <<< (ra (8 * p + k) &&& 31))) = 0
            · rw [if_pos hz] at h
              exact br_t hz h
            · rw [if_neg hz] at h
              exact br_f hz ⟨i8, i8, nm_e h⟩
theorem fx_upd_self (f : Nat → Int32) (i : Nat) : upd f i (f i) = f := by
  funext j
  by_cases e : j = i
  · rw [e, pk_us]
  · rw [pk_un e]
theorem yw_hb {A B : Prop} {x y : Int32} {n : Nat} (hn : n < 32) (hy : y = nI n) (f : bt x n = true → A) (g : ¬ bt x n = true → B) : ((((x >>> (y &&& 31)) &&& 1) = 1 → A) ∧ (¬ ((x >>> (y &&& 31)) &&& 1) = 1 → B)) := by
  subst hy
  exact br_c (fun z => f ((fx_hb hn x).mp z)) (fun z => g (fun q => z ((fx_hb hn x).mpr q)))
theorem yw_39 {post : Int32 → SY → Prop} {D : Nat} {d oc rs st ot ac : Int32} {pc ln op ra rb rc rn ko pr po rg ly wa : Nat → Int32} {p k : Nat} {x3 z0 r : Int32} {wa' : Nat → Int32} (hok : fx_ok D pc ln op ra rb rc rn) (hp : p < D) (hk : k < (ln p).toNatClampNeg) (hz : z0 = 0 ∨ z0 = 1) (hr : (op (8 * p + k) = 5 ∧ bt (fx_af op rn ly p k) (ra (8 * p + k)).toNatClampNeg = true ∧ wa (rn (8 * p + k)).toNatClampNeg = 0 ∧ r = 1 ∧ wa' = upd wa (rn (8 * p + k)).toNatClampNeg 1) ∨ (¬ (op (8 * p + k) = 5 ∧ bt (fx_af op rn ly p k) (ra (8 * p + k)).toNatClampNeg = true ∧ wa (rn (8 * p + k)).toNatClampNeg = 0) ∧ r = z0 ∧ wa' = wa)) (h : post r (d, oc, rs, st, ot, ac, pc, ln, op, ra, rb, rc, rn, ko, pr, po, rg, upd ly (9 * p + k) x3, wa')) : wY_add_39 post (nI p) (nI k) x3 z0 d oc rs st ot ac pc ln op ra rb rc rn ko pr po rg ly wa := by
  obtain ⟨r1, r2, r3, r4⟩ := fx_rng hok hp hk
  obtain ⟨ho, ha, hb, hc, h13, h4, h5⟩ := hok.2.2 p hp k hk
  have ha2 := ha.2
  have c8 : (nI (8 * p + k)).toNatClampNeg = 8 * p + k := nI_clamp (by omega)
  have c9 : (nI (9 * p + k)).toNatClampNeg = 9 * p + k := nI_clamp (by omega)
  have i8 : vp_in (nI (8 * p + k)) 40 := vp_in_nI (by omega) (by omega)
  have hnz : narrow .boolean (.int z0) = .int z0 := by
    rcases hz with rfl | rfl <;> rfl
  unfold wY_add_39
  rw [fx_j9, nI_add, c9]
  refine ⟨vp_in_nI (by omega) (by omega), nm_e (nm_r (fx_j8 p k) ⟨i8, ?_⟩)⟩
  rw [c8]
  by_cases e5 : op (8 * p + k) = 5
  · obtain ⟨hn, hnD, _⟩ := h5 e5
    have hn2 := hn.2
    have hin : vp_in (rn (8 * p + k)) 5 := by
      rw [hn.1]; exact vp_in_nI (by omega) (by omega)
    have eaf : fx_af op rn (upd ly (9 * p + k) x3) p k = fx_af op rn ly p k := by
      unfold fx_af
      rw [e5, if_neg (by decide), if_neg (by decide), if_neg (by decide), if_neg (by decide), pk_un (by omega)]
    refine br_t e5 (yw_after r1 r2 (fun e => (h4 e).1) ⟨i8, ?_⟩)
    rw [eaf]
    refine yw_hb (by omega) ha.1 (fun hit => ?_) (fun hit => ?_)
    · refine ⟨i8, hin, ?_⟩
      by_cases hw : wa (rn (8 * p + k)).toNatClampNeg = 0
      · rcases hr with ⟨_, _, _, q1, q2⟩ | ⟨q, _⟩
        · subst q1 q2
          refine br_t hw ⟨i8, hin, nm_r (e' := upd wa (rn (8 * p + k)).toNatClampNeg 1) rfl h⟩
        · exact absurd ⟨e5, hit, hw⟩ q
      · rcases hr with ⟨_, _, q, _⟩ | ⟨_, q1, q2⟩
        · exact absurd q hw
        · subst q1 q2
          exact br_f hw ⟨hnz, h⟩
    · rcases hr with ⟨_, q, _⟩ | ⟨_, q1, q2⟩
      · exact absurd q hit
      · subst q1 q2
        exact ⟨hnz, h⟩
  · rcases hr with ⟨q, _⟩ | ⟨_, q1, q2⟩
    · exact absurd q e5
    · subst q1 q2
      exact br_f e5 ⟨hnz, h⟩
theorem yw_add {D : Nat} {d oc rs st ot ac : Int32} {pc ln op ra rb rc rn ko pr po rg ly wa : Nat → Int32} {p k : Nat} (hok : fx_ok D pc ln op ra rb rc rn) (hI : fx_inv D pc ln op ra rb rc rn ly (fx_yw wa)) (hp : p < D) (hk : k < (ln p).toNatClampNeg) : ∃ (r : Int32) (ly' wa' : Nat → Int32), fx_st pc op ra rb rc rn ly (fx_yw wa) p k ly' (fx_yw wa') ∧ ((r = 0 ∧ ly' = ly ∧ wa' = wa ∧ fx_cl pc op ra rb rc rn ly (fx_yw wa) p k) ∨ (r = 1 ∧ fx_cnt (fx_py ly (fx_yw wa)) 245 < fx_cnt (fx_py ly' (fx_yw wa')) 245)) ∧ ∀ (post : Int32 → SY → Prop), post r (d, oc, rs, st, ot, ac, pc, ln, op, ra, rb, rc, rn, ko, pr, po, rg, ly', wa') → wpY_add post (d, oc, rs, st, ot, ac, pc, ln, op, ra, rb, rc, rn, ko, pr, po, rg, ly, wa) (nI p) (nI k) := by
  obtain ⟨r1, r2, r3, r4⟩ := fx_rng hok hp hk
  have hcell := hok.2.2 p hp k hk
  obtain ⟨ho, ha, hb, hc, h13, h4, h5⟩ := hcell
  have c9 : (nI (9 * p + k)).toNatClampNeg = 9 * p + k := nI_clamp (by omega)
  have i9 : vp_in (nI (9 * p + k)) 45 := vp_in_nI (by omega) (by omega)
  have hst2 : ∀ i, i ≠ 9 * p + k → upd ly (9 * p + k) (ly (9 * p + k) ||| fx_bf pc op ra rb rc rn ly (fx_yw wa) p k) i = ly i := fun i hi => pk_un hi
  have hst3 : ∀ j, bt (upd ly (9 * p + k) (ly (9 * p + k) ||| fx_bf pc op ra rb rc rn ly (fx_yw wa) p k) (9 * p + k)) j = true ↔ (bt (ly (9 * p + k)) j = true ∨ fx_bp pc op ra rb rc rn ly (fx_yw wa) p k j) := by
    intro j
    rw [pk_us, b_or, Bool.or_eq_true, fx_bf_bit hok ly (fx_yw wa) hp hk j]
  have hwalk : ∀ (z0 r : Int32) (wa' : Nat → Int32), ((ly (9 * p + k) ||| fx_bf pc op ra rb rc rn ly (fx_yw wa) p k) = ly (9 * p + k) → z0 = 0) → (¬ (ly (9 * p + k) ||| fx_bf pc op ra rb rc rn ly (fx_yw wa) p k) = ly (9 * p + k) → z0 = 1) → ((op (8 * p + k) = 5 ∧ bt (fx_af op rn ly p k) (ra (8 * p + k)).toNatClampNeg = true ∧ wa (rn (8 * p + k)).toNatClampNeg = 0 ∧ r = 1 ∧ wa' = upd wa (rn (8 * p + k)).toNatClampNeg 1) ∨ (¬ (op (8 * p + k) = 5 ∧ bt (fx_af op rn ly p k) (ra (8 * p + k)).toNatClampNeg = true ∧ wa (rn (8 * p + k)).toNatClampNeg = 0) ∧ r = z0 ∧ wa' = wa)) → ∀ (post : Int32 → SY → Prop), post r (d, oc, rs, st, ot, ac, pc, ln, op, ra, rb, rc, rn, ko, pr, po, rg, upd ly (9 * p + k) (ly (9 * p + k) ||| fx_bf pc op ra rb rc rn ly (fx_yw wa) p k), wa') → wpY_add post (d, oc, rs, st, ot, ac, pc, ln, op, ra, rb, rc, rn, ko, pr, po, rg, ly, wa) (nI p) (nI k) := by
    intro z0 r wa' hz0 hz1 hr post h
    unfold wpY_add
    rw [fx_j9, nI_add, c9]
    refine ⟨i9, yw_before r1 r2 (fun e => (h4 e).1) (fun e => (h5 e).1) (nm_e ⟨i9, ?_⟩)⟩
    refine br_c (fun z => ?_) (fun z => ?_)
    · have := hz0 z
      subst this
      exact yw_39 hok hp hk (.inl rfl) hr h
    · have := hz1 z
      subst this
      exact yw_39 hok hp hk (.inr rfl) hr h
  by_cases hA : op (8 * p + k) = 5 ∧ bt (fx_af op rn ly p k) (ra (8 * p + k)).toNatClampNeg = true ∧ wa (rn (8 * p + k)).toNatClampNeg = 0
  · have hst : fx_st pc op ra rb rc rn ly (fx_yw wa) p k (upd ly (9 * p + k) (ly (9 * p + k) ||| fx_bf pc op ra rb rc rn ly (fx_yw wa) p k)) (fx_yw (upd wa (rn (8 * p + k)).toNatClampNeg 1)) := by
      refine ⟨hst2, hst3, fun q => ?_⟩
      rw [fx_yw_t, fx_yw_t]
      have hit := (fx_af_bit op rn ly p k _).mp hA.2.1
      by_cases e : q = (rn (8 * p + k)).toNatClampNeg
      · rw [e, pk_us]
        exact ⟨fun _ => .inr ⟨⟨hA.1, hit⟩, rfl⟩, fun _ => by decide⟩
      · rw [pk_un e]
        exact ⟨.inl, fun z => z.elim id fun y => absurd y.2 e⟩
    refine ⟨1, _, _, hst, .inr ⟨rfl, fx_py_lt hok hp hk hI hst (.inr ⟨(rn (8 * p + k)).toNatClampNeg, (r4 hA.1).2, ?_, ?_⟩)⟩, ?_⟩
    · cases hb : fx_yw wa (rn (8 * p + k)).toNatClampNeg
      · rfl
      · exact absurd hA.2.2 ((fx_yw_t _ _).mp hb)
    · rw [fx_yw_t, pk_us]; decide
    · by_cases hz : (ly (9 * p + k) ||| fx_bf pc op ra rb rc rn ly (fx_yw wa) p k) = ly (9 * p + k)
      · exact hwalk 0 1 _ (fun _ => rfl) (fun z => absurd hz z) (.inl ⟨hA.1, hA.2.1, hA.2.2, rfl, rfl⟩)
      · exact hwalk 1 1 _ (fun z => absurd z hz) (fun _ => rfl) (.inl ⟨hA.1, hA.2.1, hA.2.2, rfl, rfl⟩)
  · have hst : fx_st pc op ra rb rc rn ly (fx_yw wa) p k (upd ly (9 * p + k) (ly (9 * p + k) ||| fx_bf pc op ra rb rc rn ly (fx_yw wa) p k)) (fx_yw wa) := by
      refine ⟨hst2, hst3, fun q => ⟨.inl, fun z => z.elim id fun y => ?_⟩⟩
      obtain ⟨⟨y1, y2⟩, rfl⟩ := y
      rw [fx_yw_t]
      exact fun x => hA ⟨y1, (fx_af_bit op rn ly p k _).mpr y2, x⟩
    by_cases hz : (ly (9 * p + k) ||| fx_bf pc op ra rb rc rn ly (fx_yw wa) p k) = ly (9 * p + k)
    · refine ⟨0, _, _, hst, .inl ⟨rfl, ?_, rfl, fun j z => ?_, fun z y => ?_⟩, hwalk 0 0 _ (fun _ => rfl) (fun z => absurd hz z) (.inr ⟨hA, rfl, rfl⟩)⟩
      · rw [hz, fx_upd_self]
      · rw [← fx_bf_bit hok ly (fx_yw wa) hp hk j] at z
        rw [← hz, b_or, z, Bool.or_true]
      · rw [fx_yw_t]
        exact fun x => hA ⟨z, (fx_af_bit op rn ly p k _).mpr y, x⟩
    · exact ⟨1, _, _, hst, .inr ⟨rfl, fx_py_lt hok hp hk hI hst (.inl (by rw [pk_us]; exact hz))⟩, hwalk 1 1 _ (fun z => absurd z hz) (fun _ => rfl) (.inr ⟨hA, rfl, rfl⟩)⟩
