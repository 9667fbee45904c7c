/-! an activation, an instruction: each side's walk -/
theorem zr_6 (f : Nat) : nI f * 6 = nI (6 * f) := by
  show nI f * nI 6 = _
  rw [pk_mul, Nat.mul_comm]
theorem zr_j6 (f : Nat) : 6 * nI f = nI (6 * f) := by
  show nI 6 * nI f = _
  rw [pk_mul]
theorem zr_ck {x : Int32} {a b N : Nat} (h : fx_nn x b) (hb : a + b < N) (hN : N < 1000) : (nI (a + x.toNatClampNeg)).toNatClampNeg = a + x.toNatClampNeg ∧ vp_in (nI (a + x.toNatClampNeg)) N := by
  have := h.2
  exact ⟨nI_clamp (by omega), vp_in_nI (by omega) (by omega)⟩
def zr_alu (o x y : Int32) : Int32 := if o = 1 then x + y else if o = 2 then x - y else if y ≤ x then 0 else 1
theorem xw_comp {post : Int32 → Prop} {o x y : Int32} (h : post (zr_alu o x y)) : wpX_compute post o x y := by
  unfold wpX_compute
  unfold zr_alu at h
  refine br_c (fun z => ?_) (fun z => br_c (fun z2 => ?_) (fun z2 => br_c (fun z3 => ?_) (fun z3 => ?_)))
  · rw [if_pos z] at h; exact h
  · rw [if_neg z, if_pos z2] at h; exact h
  · rw [if_neg z, if_neg z2, if_pos z3] at h; exact h
  · rw [if_neg z, if_neg z2, if_neg z3] at h; exact h
section
variable {post : SX → Prop} {d oc rs st ot ac mr : Int32} {pc ln op ra rb rc rn ko pr ap rr rg lv : Nat → Int32} {c f : Nat}
theorem xc_alu (e : op c = 1 ∨ op c = 2 ∨ op c = 3) (hc : c < 40) (hf : f < 10) (ha : fx_nn (ra c) 5) (hb : fx_nn (rb c) 5) (hcc : fx_nn (rc c) 5) (h : post (d, oc, rs, st, ot, ac, mr, pc, ln, op, ra, rb, rc, rn, ko, pr, ap, rr, upd rg (6 * f + (ra c).toNatClampNeg) (zr_alu (op c) (rg (6 * f + (rb c).toNatClampNeg)) (rg (6 * f + (rc c).toNatClampNeg))), lv)) : wpX_carryOut post (d, oc, rs, st, ot, ac, mr, pc, ln, op, ra, rb, rc, rn, ko, pr, ap, rr, rg, lv) (nI c) (nI f) := by
  have cc : (nI c).toNatClampNeg = c := nI_clamp (by omega)
  have ic : vp_in (nI c) 40 := vp_in_nI (by omega) (by omega)
  obtain ⟨ca, ia⟩ := zr_ck (a := 6 * f) (N := 60) ha (by omega) (by omega)
  obtain ⟨cb, ib⟩ := zr_ck (a := 6 * f) (N := 60) hb (by omega) (by omega)
  obtain ⟨ccc, icc⟩ := zr_ck (a := 6 * f) (N := 60) hcc (by omega) (by omega)
  unfold wpX_carryOut
  refine nm_r (zr_6 f) ?_
  rw [cc]
  refine ⟨ic, nm_r (fx_addn _ ha) ⟨ic, nm_e (xw_ar_t e (br_f (by decide) ⟨ic, ?_⟩))⟩⟩
  rw [fx_addn _ hb, fx_addn _ hcc, ca, cb, ccc]
  exact ⟨ib, nm_e ⟨ic, icc, nm_e (xw_comp ⟨ia, nm_e h⟩)⟩⟩
theorem xc_set (e : op c = 0) (hc : c < 40) (hf : f < 10) (ha : fx_nn (ra c) 5) (h : post (d, oc, rs, st, ot, ac, mr, pc, ln, op, ra, rb, rc, rn, ko, pr, ap, rr, upd rg (6 * f + (ra c).toNatClampNeg) (rn c), lv)) : wpX_carryOut post (d, oc, rs, st, ot, ac, mr, pc, ln, op, ra, rb, rc, rn, ko, pr, ap, rr, rg, lv) (nI c) (nI f) := by
  have cc : (nI c).toNatClampNeg = c := nI_clamp (by omega)
  have ic : vp_in (nI c) 40 := vp_in_nI (by omega) (by omega)
  obtain ⟨ca, ia⟩ := zr_ck (a := 6 * f) (N := 60) ha (by omega) (by omega)
  unfold wpX_carryOut
  refine nm_r (zr_6 f) ?_
  rw [cc]
  refine ⟨ic, nm_r (fx_addn _ ha) ⟨ic, nm_r e (xw_ar_f (by decide) (by decide) (by decide) (br_t rfl ?_))⟩⟩
  rw [ca]
  exact br_t rfl ⟨ic, ia, nm_e h⟩
theorem xc_fork0 (e : op c = 4) (hc : c < 40) (hf : f < 10) (ha : fx_nn (ra c) 5) (hz : rg (6 * f + (ra c).toNatClampNeg) = 0) (h : post (d, oc, rs, st, ot, ac, mr, pc, ln, op, ra, rb, rc, rn, ko, pr, upd ap f (rn c), rr, rg, lv)) : wpX_carryOut post (d, oc, rs, st, ot, ac, mr, pc, ln, op, ra, rb, rc, rn, ko, pr, ap, rr, rg, lv) (nI c) (nI f) := by
  have cc : (nI c).toNatClampNeg = c := nI_clamp (by omega)
  have cf : (nI f).toNatClampNeg = f := nI_clamp (by omega)
  have ic : vp_in (nI c) 40 := vp_in_nI (by omega) (by omega)
  have jf : vp_in (nI f) 10 := vp_in_nI (by omega) (by omega)
  obtain ⟨ca, ia⟩ := zr_ck (a := 6 * f) (N := 60) ha (by omega) (by omega)
  unfold wpX_carryOut
  refine nm_r (zr_6 f) ?_
  rw [cc, cf]
  refine ⟨ic, nm_r (fx_addn _ ha) ⟨ic, nm_r e (xw_ar_f (by decide) (by decide) (by decide) (br_t rfl ?_))⟩⟩
  rw [ca]
  exact br_f (by decide) (br_t rfl ⟨ia, br_t hz ⟨ic, jf, nm_e h⟩⟩)
theorem xc_fork1 (e : op c = 4) (hc : c < 40) (hf : f < 10) (ha : fx_nn (ra c) 5) (hz : ¬ rg (6 * f + (ra c).toNatClampNeg) = 0) (h : post (d, oc, rs, st, ot, ac, mr, pc, ln, op, ra, rb, rc, rn, ko, pr, ap, rr, rg, lv)) : wpX_carryOut post (d, oc, rs, st, ot, ac, mr, pc, ln, op, ra, rb, rc, rn, ko, pr, ap, rr, rg, lv) (nI c) (nI f) := by
  have cc : (nI c).toNatClampNeg = c := nI_clamp (by omega)
  have ic : vp_in (nI c) 40 := vp_in_nI (by omega) (by omega)
  obtain ⟨ca, ia⟩ := zr_ck (a := 6 * f) (N := 60) ha (by omega) (by omega)
  unfold wpX_carryOut
  refine nm_r (zr_6 f) ?_
  rw [cc]
  refine ⟨ic, nm_r (fx_addn _ ha) ⟨ic, nm_r e (xw_ar_f (by decide) (by decide) (by decide) (br_t rfl ?_))⟩⟩
  rw [ca]
  exact br_f (by decide) (br_t rfl ⟨ia, br_f hz h⟩)
theorem xc_call {X' : SX} (e : op c = 5) (hc : c < 40) (hf : f < 10) (ha : fx_nn (ra c) 5) (hb : fx_nn (rb c) 7) (hX : ∀ q : SX → Prop, q X' → wpX_callProcedure q (d, oc, rs, st, ot, ac, mr, pc, ln, op, ra, rb, rc, rn, ko, pr, ap, rr, rg, lv) (rn c) (nI (6 * f + (rb c).toNatClampNeg)) (nI (6 * f + (ra c).toNatClampNeg))) (h : post X') : wpX_carryOut post (d, oc, rs, st, ot, ac, mr, pc, ln, op, ra, rb, rc, rn, ko, pr, ap, rr, rg, lv) (nI c) (nI f) := by
  have cc : (nI c).toNatClampNeg = c := nI_clamp (by omega)
  have ic : vp_in (nI c) 40 := vp_in_nI (by omega) (by omega)
  unfold wpX_carryOut
  refine nm_r (zr_6 f) ?_
  rw [cc]
  refine ⟨ic, nm_r (fx_addn _ ha) ⟨ic, nm_r e (xw_ar_f (by decide) (by decide) (by decide) (br_t rfl ?_))⟩⟩
  rw [fx_addn _ hb]
  exact br_f (by decide) (br_f (by decide) (br_t rfl ⟨ic, ic, hX _ h⟩))
theorem xc_back {X' : SX} (e : op c = 7) (hc : c < 40) (hf : f < 10) (ha : fx_nn (ra c) 5) (hX : ∀ q : SX → Prop, q X' → wpX_endActivation q (d, oc, rs, st, ot, ac, mr, pc, ln, op, ra, rb, rc, rn, ko, pr, ap, rr, rg, lv) (rg (6 * f + (ra c).toNatClampNeg))) (h : post X') : wpX_carryOut post (d, oc, rs, st, ot, ac, mr, pc, ln, op, ra, rb, rc, rn, ko, pr, ap, rr, rg, lv) (nI c) (nI f) := by
  have cc : (nI c).toNatClampNeg = c := nI_clamp (by omega)
  have ic : vp_in (nI c) 40 := vp_in_nI (by omega) (by omega)
  obtain ⟨ca, ia⟩ := zr_ck (a := 6 * f) (N := 60) ha (by omega) (by omega)
  unfold wpX_carryOut
  refine nm_r (zr_6 f) ?_
  rw [cc]
  refine ⟨ic, nm_r (fx_addn _ ha) ⟨ic, nm_r e (xw_ar_f (by decide) (by decide) (by decide) (br_t rfl ?_))⟩⟩
  rw [ca]
  exact br_f (by decide) (br_f (by decide) (br_f (by decide) (br_f (by decide) ⟨ia, hX _ h⟩)))
end
theorem xc_out {post : SX → Prop} {d oc rs st ac mr : Int32} {pc ln op ra rb rc rn ko pr ap rr rg lv : Nat → Int32} {c f o : Nat} (e : op c = 6) (hc : c < 40) (hf : f < 10) (ho : o < 1000) (ha : fx_nn (ra c) 5) (h : post (d, oc, rs, st, nI (o + 1), ac, mr, pc, ln, op, ra, rb, rc, rn, if o < 16 then upd ko o (rg (6 * f + (ra c).toNatClampNeg)) else ko, pr, ap, rr, rg, lv)) : wpX_carryOut post (d, oc, rs, st, nI o, ac, mr, pc, ln, op, ra, rb, rc, rn, ko, pr, ap, rr, rg, lv) (nI c) (nI f) := by
  have cc : (nI c).toNatClampNeg = c := nI_clamp (by omega)
  have co : (nI o).toNatClampNeg = o := nI_clamp (by omega)
  have ic : vp_in (nI c) 40 := vp_in_nI (by omega) (by omega)
  obtain ⟨ca, ia⟩ := zr_ck (a := 6 * f) (N := 60) ha (by omega) (by omega)
  unfold wpX_carryOut
  refine nm_r (zr_6 f) ?_
  rw [cc]
  refine ⟨ic, nm_r (fx_addn _ ha) ⟨ic, nm_r e (xw_ar_f (by decide) (by decide) (by decide) (br_t rfl ?_))⟩⟩
  rw [ca]
  refine br_f (by decide) (br_f (by decide) (br_f (by decide) (br_t rfl ⟨ia, ?_⟩)))
  unfold wpX_putOut
  dsimp only
  rw [co]
  by_cases h16 : o < 16
  · rw [if_pos h16] at h
    exact br_f (nI_ge (b := 16) h16 (by decide)) ⟨vp_in_nI h16 (by omega), nm_e (nm_r (nI_1 o) h)⟩
  · rw [if_neg h16] at h
    exact br_t (nI_le (a := 16) (by omega) (by omega)) (nm_r (nI_1 o) h)
section
variable {post : SY → Prop} {d oc rs st ot ac : Int32} {pc ln op ra rb rc rn ko pr po rg ly wa : Nat → Int32} {c f k : Nat}
theorem yc_pre_n {o : Int32} (e : op c = o) (ho : o < 1 ∨ 3 < o) (hc : c < 40) (ha : fx_nn (ra c) 5) (h : wY_carryOut_82 post (nI c) (nI f) o (nI (6 * f + (ra c).toNatClampNeg)) 0 0 d oc rs st ot ac pc ln op ra rb rc rn ko pr po rg ly wa) : wpY_carryOut post (d, oc, rs, st, ot, ac, pc, ln, op, ra, rb, rc, rn, ko, pr, po, rg, ly, wa) (nI c) (nI f) := by
  have cc : (nI c).toNatClampNeg = c := nI_clamp (by omega)
  have ic : vp_in (nI c) 40 := vp_in_nI (by omega) (by omega)
  have h50 : wY_carryOut_49 post (nI c) (nI f) o (nI (6 * f + (ra c).toNatClampNeg)) d oc rs st ot ac pc ln op ra rb rc rn ko pr po rg ly wa := by
    unfold wY_carryOut_49 wY_carryOut_50 wY_carryOut_81
    exact br_c (fun _ => h) fun z => br_t (ho.elim (fun y => absurd y z) id) h
  unfold wpY_carryOut
  rw [zr_j6, cc]
  exact ⟨ic, nm_r e ⟨ic, nm_r (fx_addn _ ha) (br_c (fun _ => h50) fun z => br_t (ho.elim (fun y => absurd y z) id) h50)⟩⟩
theorem yc_pre_a {o : Int32} (e : op c = o) (ho : o = 1 ∨ o = 2 ∨ o = 3) (hc : c < 40) (hf : f < 10) (ha : fx_nn (ra c) 5) (hb : fx_nn (rb c) 5) (hcc : fx_nn (rc c) 5) (h : wY_carryOut_82 post (nI c) (nI f) o (nI (6 * f + (ra c).toNatClampNeg)) (rg (6 * f + (rb c).toNatClampNeg)) (rg (6 * f + (rc c).toNatClampNeg)) d oc rs st ot ac pc ln op ra rb rc rn ko pr po rg ly wa) : wpY_carryOut post (d, oc, rs, st, ot, ac, pc, ln, op, ra, rb, rc, rn, ko, pr, po, rg, ly, wa) (nI c) (nI f) := by
  have cc : (nI c).toNatClampNeg = c := nI_clamp (by omega)
  have ic : vp_in (nI c) 40 := vp_in_nI (by omega) (by omega)
  obtain ⟨cb, ib⟩ := zr_ck (a := 6 * f) (N := 60) hb (by omega) (by omega)
  obtain ⟨ccc, icc⟩ := zr_ck (a := 6 * f) (N := 60) hcc (by omega) (by omega)
  have q1 : ¬ o < 1 := by rcases ho with rfl | rfl | rfl <;> decide
  have q2 : ¬ 3 < o := by rcases ho with rfl | rfl | rfl <;> decide
  unfold wpY_carryOut
  dsimp only
  rw [zr_j6, cc, fx_addn _ hb, cb]
  refine ⟨ic, nm_r e ⟨ic, nm_r (fx_addn _ ha) (br_f q1 (br_f q2 ⟨ic, ib, ?_⟩))⟩⟩
  unfold wY_carryOut_50
  rw [zr_j6, cc, fx_addn _ hcc, ccc]
  exact br_f q1 (br_f q2 ⟨ic, icc, h⟩)
theorem yc_253 {o x4 x7 : Int32} (h5 : ¬ o = 5) (h7 : ¬ o = 7) (hf : f < 10) (h : post (d, oc, rs, st, ot, ac, pc, ln, op, ra, rb, rc, rn, ko, pr, upd po f x7, rg, ly, wa)) : wY_carryOut_253 post (nI c) (nI f) o x4 x7 d oc rs st ot ac pc ln op ra rb rc rn ko pr po rg ly wa := by
  have cf : (nI f).toNatClampNeg = f := nI_clamp (by omega)
  unfold wY_carryOut_253
  rw [cf]
  exact br_f h5 (br_f h7 ⟨vp_in_nI hf (by omega), nm_e h⟩)
theorem yc_alu {o x y : Int32} {a : Nat} (ho : o = 1 ∨ o = 2 ∨ o = 3) (hf : f < 10) (ha : a < 60) (hpo : po f = nI k) (h : post (d, oc, rs, st, ot, ac, pc, ln, op, ra, rb, rc, rn, ko, pr, upd po f (nI (k + 1)), upd rg a (zr_alu o x y), ly, wa)) : wY_carryOut_82 post (nI c) (nI f) o (nI a) x y d oc rs st ot ac pc ln op ra rb rc rn ko pr po rg ly wa := by
  have cf : (nI f).toNatClampNeg = f := nI_clamp (by omega)
  have ca : (nI a).toNatClampNeg = a := nI_clamp (by omega)
  have ia : vp_in (nI a) 60 := vp_in_nI (by omega) (by omega)
  unfold wY_carryOut_82
  refine ⟨vp_in_nI hf (by omega), nm_r (e' := nI (k + 1)) (by rw [cf, hpo, nI_1]) ?_⟩
  rw [ca]
  rcases ho with rfl | rfl | rfl
  · exact br_f (by decide) (br_t rfl ⟨ia, nm_e (yc_253 (by decide) (by decide) hf h)⟩)
  · exact br_f (by decide) (br_f (by decide) (br_t rfl ⟨ia, nm_e (yc_253 (by decide) (by decide) hf h)⟩))
  · refine br_f (by decide) (br_f (by decide) (br_f (by decide) (br_t rfl ?_)))
    unfold wY_carryOut_177
    rw [ca]
    by_cases hz : y ≤ x
    · have e : zr_alu 3 x y = 0 := by
        unfold zr_alu
        rw [if_neg (by decide), if_neg (by decide), if_pos hz]
      rw [e] at h
      exact br_t hz ⟨ia, nm_e (yc_253 (by decide) (by decide) hf h)⟩
    · have e : zr_alu 3 x y = 1 := by
        unfold zr_alu
        rw [if_neg (by decide), if_neg (by decide), if_neg hz]
      rw [e] at h
      exact br_f hz ⟨ia, nm_e (yc_253 (by decide) (by decide) hf h)⟩
theorem yc_set {x y : Int32} {a : Nat} (hf : f < 10) (hc : c < 40) (ha : a < 60) (hpo : po f = nI k) (h : post (d, oc, rs, st, ot, ac, pc, ln, op, ra, rb, rc, rn, ko, pr, upd po f (nI (k + 1)), upd rg a (rn c), ly, wa)) : wY_carryOut_82 post (nI c) (nI f) 0 (nI a) x y d oc rs st ot ac pc ln op ra rb rc rn ko pr po rg ly wa := by
  have cf : (nI f).toNatClampNeg = f := nI_clamp (by omega)
  have cc : (nI c).toNatClampNeg = c := nI_clamp (by omega)
  have ca : (nI a).toNatClampNeg = a := nI_clamp (by omega)
  have ia : vp_in (nI a) 60 := vp_in_nI (by omega) (by omega)
  unfold wY_carryOut_82
  refine ⟨vp_in_nI hf (by omega), nm_r (e' := nI (k + 1)) (by rw [cf, hpo, nI_1]) ?_⟩
  rw [ca, cc]
  exact br_t rfl ⟨vp_in_nI hc (by omega), ia, nm_e (yc_253 (by decide) (by decide) hf h)⟩
theorem yc_fork {x y : Int32} {a : Nat} (hf : f < 10) (hc : c < 40) (ha : a < 60) (hpo : po f = nI k) (h0 : rg a = 0 → post (d, oc, rs, st, ot, ac, pc, ln, op, ra, rb, rc, rn, ko, pr, upd po f (rn c), rg, ly, wa)) (h1 : ¬ rg a = 0 → post (d, oc, rs, st, ot, ac, pc, ln, op, ra, rb, rc, rn, ko, pr, upd po f (nI (k + 1)), rg, ly, wa)) : wY_carryOut_82 post (nI c) (nI f) 4 (nI a) x y d oc rs st ot ac pc ln op ra rb rc rn ko pr po rg ly wa := by
  have cf : (nI f).toNatClampNeg = f := nI_clamp (by omega)
  have cc : (nI c).toNatClampNeg = c := nI_clamp (by omega)
  have ca : (nI a).toNatClampNeg = a := nI_clamp (by omega)
  have ia : vp_in (nI a) 60 := vp_in_nI (by omega) (by omega)
  unfold wY_carryOut_82
  refine ⟨vp_in_nI hf (by omega), nm_r (e' := nI (k + 1)) (by rw [cf, hpo, nI_1]) ?_⟩
  rw [ca, cc]
  refine br_f (by decide) (br_f (by decide) (br_f (by decide) (br_f (by decide) (br_t rfl ⟨ia, br_c (fun z => ⟨vp_in_nI hc (by omega), ?_⟩) (fun z => ?_)⟩))))
  · exact yc_253 (by decide) (by decide) hf (h0 z)
  · exact yc_253 (by decide) (by decide) hf (h1 z)
theorem yc_call {x y : Int32} {a : Nat} {Y' : SY} (hf : f < 10) (hY : ∀ q : SY → Prop, q Y' → wpY_call q (d, oc, rs, st, ot, ac, pc, ln, op, ra, rb, rc, rn, ko, pr, po, rg, ly, wa) (nI c) (nI f)) (h : post Y') : wY_carryOut_82 post (nI c) (nI f) 5 (nI a) x y d oc rs st ot ac pc ln op ra rb rc rn ko pr po rg ly wa := by
  unfold wY_carryOut_82
  refine ⟨vp_in_nI hf (by omega), nm_e ?_⟩
  refine br_f (by decide) (br_f (by decide) (br_f (by decide) (br_f (by decide) (br_f (by decide) (br_f (by decide) ?_)))))
  exact br_t rfl (hY _ h)
theorem yc_back {x y : Int32} {a : Nat} {Y' : SY} (hf : f < 10) (ha : a < 60) (hY : ∀ q : SY → Prop, q Y' → wpY_end q (d, oc, rs, st, ot, ac, pc, ln, op, ra, rb, rc, rn, ko, pr, po, rg, ly, wa) (rg a)) (h : post Y') : wY_carryOut_82 post (nI c) (nI f) 7 (nI a) x y d oc rs st ot ac pc ln op ra rb rc rn ko pr po rg ly wa := by
  have ca : (nI a).toNatClampNeg = a := nI_clamp (by omega)
  have ia : vp_in (nI a) 60 := vp_in_nI (by omega) (by omega)
  unfold wY_carryOut_82
  refine ⟨vp_in_nI hf (by omega), nm_e ?_⟩
  refine br_f (by decide) (br_f (by decide) (br_f (by decide) (br_f (by decide) (br_f (by decide) (br_f (by decide) ?_)))))
  unfold wY_carryOut_253
  rw [ca]
  exact br_f (by decide) (br_t rfl ⟨ia, hY _ h⟩)
end
theorem yc_out {post : SY → Prop} {d oc rs st ac : Int32} {pc ln op ra rb rc rn ko pr po rg ly wa : Nat → Int32} {c f k o a : Nat} {x y : Int32} (hf : f < 10) (ho : o < 1000) (ha : a < 60) (hpo : po f = nI k) (h : post (d, oc, rs, st, nI (o + 1), ac, pc, ln, op, ra, rb, rc, rn, if o < 16 then upd ko o (rg a) else ko, pr, upd po f (nI (k + 1)), rg, ly, wa)) : wY_carryOut_82 post (nI c) (nI f) 6 (nI a) x y d oc rs st (nI o) ac pc ln op ra rb rc rn ko pr po rg ly wa := by
  have cf : (nI f).toNatClampNeg = f := nI_clamp (by omega)
  have co : (nI o).toNatClampNeg = o := nI_clamp (by omega)
  have ca : (nI a).toNatClampNeg = a := nI_clamp (by omega)
  have ia : vp_in (nI a) 60 := vp_in_nI (by omega) (by omega)
  unfold wY_carryOut_82
  refine ⟨vp_in_nI hf (by omega), nm_r (e' := nI (k + 1)) (by rw [cf, hpo, nI_1]) ?_⟩
  rw [ca, co]
  refine br_f (by decide) (br_f (by decide) (br_f (by decide) (br_f (by decide) (br_f (by decide) (br_t rfl ?_)))))
  unfold wY_carryOut_243
  by_cases h16 : o < 16
  · rw [if_pos h16] at h
    exact br_f (nI_ge (b := 16) h16 (by decide)) ⟨ia, vp_in_nI h16 (by omega), nm_e (nm_r (nI_1 o) (yc_253 (by decide) (by decide) hf h))⟩
  · rw [if_neg h16] at h
    exact br_t (nI_le (a := 16) (by omega) (by omega)) (nm_r (nI_1 o) (yc_253 (by decide) (by decide) hf h))
