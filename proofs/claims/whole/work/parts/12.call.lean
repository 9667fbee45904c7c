/-! calls and ends -/
def zr_Z (n i : Nat) (rg : Nat → Int32) : Nat → Int32 := fun j => if 6 * n + i ≤ j ∧ j < 6 * n + 6 then 0 else rg j
def zr_C (n np src i : Nat) (rg : Nat → Int32) : Nat → Int32 := fun j => if 6 * n + i ≤ j ∧ j < 6 * n + np then rg (src + (j - 6 * n)) else rg j
def zr_Q (n np src i : Nat) (rg : Nat → Int32) : Nat → Int32 := fun j => if 6 * n + i ≤ j ∧ j < 6 * n + 6 then (if j - 6 * n < np then rg (src + (j - 6 * n)) else 0) else rg j
theorem zr_Z6 (n : Nat) (rg : Nat → Int32) : zr_Z n 6 rg = rg := by
  funext j
  exact if_neg (by omega)
theorem zr_Zs {n i : Nat} (hi : i < 6) (rg : Nat → Int32) : zr_Z n (i + 1) (upd rg (6 * n + i) 0) = zr_Z n i rg := by
  funext j
  unfold zr_Z
  by_cases e : j = 6 * n + i
  · rw [e, if_neg (by omega), if_pos (by omega), pk_us]
  · by_cases h : 6 * n + (i + 1) ≤ j ∧ j < 6 * n + 6
    · rw [if_pos h, if_pos (by omega)]
    · rw [if_neg h, if_neg (by omega), pk_un e]
theorem zr_Cn (n np src : Nat) (rg : Nat → Int32) : zr_C n np src np rg = rg := by
  funext j
  exact if_neg (by omega)
theorem zr_Cs {n np src i : Nat} (hi : i < np) (hs : src + np ≤ 6 * n) (rg : Nat → Int32) : zr_C n np src (i + 1) (upd rg (6 * n + i) (rg (src + i))) = zr_C n np src i rg := by
  funext j
  unfold zr_C
  by_cases e : j = 6 * n + i
  · rw [e, if_neg (by omega), if_pos (by omega), pk_us]
    congr 1
    omega
  · by_cases h : 6 * n + (i + 1) ≤ j ∧ j < 6 * n + np
    · rw [if_pos h, if_pos (by omega), pk_un (by omega)]
    · rw [if_neg h, if_neg (by omega), pk_un e]
theorem zr_Q6 (n np src : Nat) (rg : Nat → Int32) : zr_Q n np src 6 rg = rg := by
  funext j
  exact if_neg (by omega)
theorem zr_Qs {n np src i : Nat} {v : Int32} (hi : i < 6) (hs : src + np ≤ 6 * n) (rg : Nat → Int32) (hv : v = if i < np then rg (src + i) else 0) : zr_Q n np src (i + 1) (upd rg (6 * n + i) v) = zr_Q n np src i rg := by
  funext j
  unfold zr_Q
  by_cases e : j = 6 * n + i
  · have q : j - 6 * n = i := by omega
    rw [q, if_neg (by omega), if_pos (by omega), e, pk_us, hv]
  · by_cases h : 6 * n + (i + 1) ≤ j ∧ j < 6 * n + 6
    · have h' : 6 * n + i ≤ j ∧ j < 6 * n + 6 := by omega
      rw [if_pos h, if_pos h']
      by_cases q : j - 6 * n < np
      · rw [if_pos q, if_pos q, pk_un (by omega)]
      · rw [if_neg q, if_neg q]
    · rw [if_neg h, if_neg (by omega), pk_un e]
theorem zr_CZ {n np src : Nat} (hn : np ≤ 6) (hs : src + np ≤ 6 * n) (rg : Nat → Int32) : zr_C n np src 0 (zr_Z n 0 rg) = zr_Q n np src 0 rg := by
  funext j
  unfold zr_C zr_Q zr_Z
  by_cases h : 6 * n + 0 ≤ j ∧ j < 6 * n + 6
  · by_cases q : j - 6 * n < np
    · have h1 : 6 * n + 0 ≤ j ∧ j < 6 * n + np := by omega
      have h2 : ¬ (6 * n + 0 ≤ src + (j - 6 * n) ∧ src + (j - 6 * n) < 6 * n + 6) := by omega
      rw [if_pos h1, if_neg h2, if_pos h, if_pos q]
    · have h1 : ¬ (6 * n + 0 ≤ j ∧ j < 6 * n + np) := by omega
      rw [if_neg h1, if_pos h, if_pos h, if_neg q]
  · have h1 : ¬ (6 * n + 0 ≤ j ∧ j < 6 * n + np) := by omega
    rw [if_neg h1, if_neg h, if_neg h]
theorem xw_29 {d oc rs st ot ac mr : Int32} {pc ln op ra rb rc rn ko pr ap rr lv : Nat → Int32} {n : Nat} (hn : n < 10) : ∀ (m i : Nat), i + m = 6 → ∀ (rg : Nat → Int32) (post : SX → Prop), post (d, oc, rs, st, ot, nI (n + 1), mr, pc, ln, op, ra, rb, rc, rn, ko, pr, ap, rr, zr_Z n i rg, lv) → wX_addActivation_29 post (nI n) d oc rs st ot ac mr (m + 1) (nI i) pc ln op ra rb rc rn ko pr ap rr rg lv := by
  intro m
  induction m with
  | zero =>
    intro i hi rg post h
    have : i = 6 := by omega
    subst this
    rw [zr_Z6] at h
    exact br_t (by decide) (nm_r (nI_1 n) h)
  | succ m ih =>
    intro i hi rg post h
    have e : nI n * 6 + nI i = nI (6 * n + i) := by rw [zr_6, nI_add]
    have ce : (nI n * 6 + nI i).toNatClampNeg = 6 * n + i := by rw [e]; exact nI_clamp (by omega)
    refine br_f (nI_ge (b := 6) (by omega) (by decide)) ⟨by rw [e]; exact vp_in_nI (by omega) (by omega), nm_r (e' := upd rg (6 * n + i) 0) (by rw [ce]) (nm_r (nI_1 i) (ih (i + 1) (by omega) _ post ?_))⟩
    rw [zr_Zs (by omega)]
    exact h
theorem xw_add {post : SX → Prop} {d oc rs st ot mr : Int32} {pc ln op ra rb rc rn ko pr ap rr rg lv : Nat → Int32} {n : Nat} {x y : Int32} (hn : n < 10) (h : post (d, oc, rs, st, ot, nI (n + 1), mr, pc, ln, op, ra, rb, rc, rn, ko, upd pr n x, upd ap n 0, upd rr n y, zr_Z n 0 rg, lv)) : wpX_addActivation post (d, oc, rs, st, ot, nI n, mr, pc, ln, op, ra, rb, rc, rn, ko, pr, ap, rr, rg, lv) x y := by
  have cn : (nI n).toNatClampNeg = n := nI_clamp (by omega)
  have jn : vp_in (nI n) 10 := vp_in_nI (by omega) (by omega)
  unfold wpX_addActivation
  dsimp only
  rw [cn]
  exact ⟨jn, nm_e ⟨jn, nm_e ⟨jn, nm_e ⟨7, xw_29 hn 6 0 rfl rg post h⟩⟩⟩⟩
theorem xw_18c {d oc rs st ot ac mr : Int32} {pc ln op ra rb rc rn ko pr ap rr lv : Nat → Int32} {n np src q : Nat} (hn : n < 10) (hq : q < 5) (hnp : np ≤ 3) (hpc : pc q = nI np) (hs : src + np ≤ 6 * n) : ∀ (m i : Nat), i + m = np → ∀ (rg : Nat → Int32) (post : SX → Prop), post (d, oc, rs, st, ot, ac, mr, pc, ln, op, ra, rb, rc, rn, ko, pr, ap, rr, zr_C n np src i rg, lv) → wX_callProcedure_18 post (nI q) (nI src) (nI (6 * n)) d oc rs st ot ac mr (m + 1) (nI i) pc ln op ra rb rc rn ko pr ap rr rg lv := by
  have cq : (nI q).toNatClampNeg = q := nI_clamp (by omega)
  have jq : vp_in (nI q) 5 := vp_in_nI (by omega) (by omega)
  intro m
  induction m with
  | zero =>
    intro i hi rg post h
    have : i = np := by omega
    subst this
    rw [zr_Cn] at h
    exact ⟨jq, br_t (by rw [cq, hpc]; exact Int32.le_refl _) h⟩
  | succ m ih =>
    intro i hi rg post h
    have c1 : (nI src + nI i).toNatClampNeg = src + i := by rw [nI_add]; exact nI_clamp (by omega)
    have c2 : (nI (6 * n) + nI i).toNatClampNeg = 6 * n + i := by rw [nI_add]; exact nI_clamp (by omega)
    refine ⟨jq, br_f (by rw [cq, hpc]; exact nI_ge (by omega) (by omega)) ⟨by rw [nI_add]; exact vp_in_nI (by omega) (by omega), by rw [nI_add]; exact vp_in_nI (by omega) (by omega), nm_r (e' := upd rg (6 * n + i) (rg (src + i))) (by rw [c1, c2]) (nm_r (nI_1 i) (ih (i + 1) (by omega) _ post ?_))⟩⟩
    rw [zr_Cs (by omega) hs]
    exact h
theorem xw_callp {post : SX → Prop} {d oc rs st ot mr : Int32} {pc ln op ra rb rc rn ko pr ap rr rg lv : Nat → Int32} {n np src q : Nat} {y : Int32} (hn : n < 10) (hq : q < 5) (hnp : np ≤ 3) (hpc : pc q = nI np) (hs : src + np ≤ 6 * n) (h : post (d, oc, rs, st, ot, nI (n + 1), mr, pc, ln, op, ra, rb, rc, rn, ko, upd pr n (nI q), upd ap n 0, upd rr n y, zr_Q n np src 0 rg, lv)) : wpX_callProcedure post (d, oc, rs, st, ot, nI n, mr, pc, ln, op, ra, rb, rc, rn, ko, pr, ap, rr, rg, lv) (nI q) (nI src) y := by
  unfold wpX_callProcedure
  refine nm_r (zr_6 n) (xw_add hn ⟨np + 1, xw_18c hn hq hnp hpc hs np 0 (by omega) _ post ?_⟩)
  rw [zr_CZ (by omega) hs]
  exact h
theorem yw_30 {d oc rs st ot : Int32} {pc ln op ra rb rc rn ko pr po ly wa : Nat → Int32} {n np f c q b : Nat} (hn : n < 10) (hc : c < 40) (hq : q < 5) (hnp : np ≤ 3) (hpc : pc q = nI np) (hb : rb c = nI b) (hs : 6 * f + b + np ≤ 6 * n) : ∀ (m i : Nat), i + m = 6 → ∀ (rg : Nat → Int32) (post : SY → Prop), post (d, oc, rs, st, ot, nI (n + 1), pc, ln, op, ra, rb, rc, rn, ko, pr, po, zr_Q n np (6 * f + b) i rg, ly, wa) → wY_call_30 post (nI c) (nI f) (nI q) d oc rs st ot (nI n) (m + 1) (nI i) pc ln op ra rb rc rn ko pr po rg ly wa := by
  have cq : (nI q).toNatClampNeg = q := nI_clamp (by omega)
  have jq : vp_in (nI q) 5 := vp_in_nI (by omega) (by omega)
  have cc : (nI c).toNatClampNeg = c := nI_clamp (by omega)
  intro m
  induction m with
  | zero =>
    intro i hi rg post h
    have : i = 6 := by omega
    subst this
    rw [zr_Q6] at h
    exact br_t (by decide) (nm_r (nI_1 n) h)
  | succ m ih =>
    intro i hi rg post h
    have e1 : 6 * nI f + rb (nI c).toNatClampNeg + nI i = nI (6 * f + b + i) := by rw [cc, hb, zr_j6, nI_add, nI_add]
    have e2 : 6 * nI n + nI i = nI (6 * n + i) := by rw [zr_j6, nI_add]
    have c2 : (6 * nI n + nI i).toNatClampNeg = 6 * n + i := by rw [e2]; exact nI_clamp (by omega)
    have j2 : vp_in (6 * nI n + nI i) 60 := by rw [e2]; exact vp_in_nI (by omega) (by omega)
    refine br_f (nI_ge (b := 6) (by omega) (by decide)) ⟨jq, ?_⟩
    by_cases hlt : i < np
    · have c1 : (6 * nI f + rb (nI c).toNatClampNeg + nI i).toNatClampNeg = 6 * f + b + i := by rw [e1]; exact nI_clamp (by omega)
      refine br_f (by rw [cq, hpc]; exact nI_ge (by omega) (by omega)) ⟨vp_in_nI hc (by omega), by rw [e1]; exact vp_in_nI (by omega) (by omega), j2, nm_r (e' := upd rg (6 * n + i) (rg (6 * f + b + i))) (by rw [c1, c2]) (nm_r (nI_1 i) (ih (i + 1) (by omega) _ post ?_))⟩
      rw [zr_Qs (by omega) hs rg (by rw [if_pos hlt])]
      exact h
    · refine br_t (by rw [cq, hpc]; exact nI_le (by omega) (by omega)) ⟨j2, nm_r (e' := upd rg (6 * n + i) 0) (by rw [c2]) (nm_r (nI_1 i) (ih (i + 1) (by omega) _ post ?_))⟩
      rw [zr_Qs (by omega) hs rg (by rw [if_neg hlt])]
      exact h
theorem yw_call {post : SY → Prop} {d oc rs st ot : Int32} {pc ln op ra rb rc rn ko pr po rg ly wa : Nat → Int32} {n np f c q b : Nat} (hn : n < 10) (hc : c < 40) (hq : q < 5) (hnp : np ≤ 3) (hpc : pc q = nI np) (hb : rb c = nI b) (hrn : rn c = nI q) (hs : 6 * f + b + np ≤ 6 * n) (h : post (d, oc, rs, st, ot, nI (n + 1), pc, ln, op, ra, rb, rc, rn, ko, upd pr n (nI q), upd po n 0, zr_Q n np (6 * f + b) 0 rg, ly, wa)) : wpY_call post (d, oc, rs, st, ot, nI n, pc, ln, op, ra, rb, rc, rn, ko, pr, po, rg, ly, wa) (nI c) (nI f) := by
  have cn : (nI n).toNatClampNeg = n := nI_clamp (by omega)
  have jn : vp_in (nI n) 10 := vp_in_nI (by omega) (by omega)
  have cc : (nI c).toNatClampNeg = c := nI_clamp (by omega)
  unfold wpY_call
  dsimp only
  rw [cn, cc]
  exact ⟨vp_in_nI hc (by omega), nm_r hrn ⟨jn, nm_e ⟨jn, nm_e ⟨7, yw_30 hn hc hq hnp hpc hb hs 6 0 rfl rg post h⟩⟩⟩⟩
/-! both sides, one move -/
def fr_low (D : Nat) (ln ra pr ap rr po : Nat → Int32) (n : Nat) : Prop := ∀ f, f + 1 < n → ∃ p k, p < D ∧ k < (ln p).toNatClampNeg ∧ pr f = nI p ∧ po f = nI k ∧ ap f = nI (k + 1) ∧ rr (f + 1) = nI (6 * f + (ra (8 * p + k)).toNatClampNeg)
def fr_top (D : Nat) (pr ap po : Nat → Int32) (f : Nat) : Prop := ∃ p k, p < D ∧ k ≤ 8 ∧ pr f = nI p ∧ ap f = nI k ∧ po f = nI k
def zw_res (D : Nat) (mr : Int32) (pc ln op ra rb rc rn lv ly wa : Nat → Int32) (s f : Nat) (wX : (SX → Prop) → Prop) (wY : (SY → Prop) → Prop) : Prop :=
  ∃ (oc rs st ot ac : Int32) (ko pr ap rr rg po : Nat → Int32), (∀ post : SX → Prop, post (nI D, oc, rs, st, ot, ac, mr, pc, ln, op, ra, rb, rc, rn, ko, pr, ap, rr, rg, lv) → wX post) ∧ (∀ post : SY → Prop, post (nI D, oc, rs, st, ot, ac, pc, ln, op, ra, rb, rc, rn, ko, pr, po, rg, ly, wa) → wY post) ∧ (¬ oc = 0 ∨ (oc = 0 ∧ ∃ s' o' f', st = nI s' ∧ ot = nI o' ∧ ac = nI (f' + 1) ∧ s' ≤ 150 ∧ o' ≤ s' ∧ 2 * s + f' + 1 ≤ 2 * s' + f ∧ f' < 10 ∧ fr_low D ln ra pr ap rr po (f' + 1) ∧ fr_top D pr ap po f'))
theorem fr_low_po {D : Nat} {ln ra pr ap rr po : Nat → Int32} {f : Nat} {x : Int32} (h : fr_low D ln ra pr ap rr po (f + 1)) : fr_low D ln ra pr ap rr (upd po f x) (f + 1) := by
  intro g hg
  obtain ⟨p, k, h1, h2, h3, h4, h5, h6⟩ := h g hg
  exact ⟨p, k, h1, h2, h3, by rw [pk_un (by omega)]; exact h4, h5, h6⟩
theorem fr_low_ap {D : Nat} {ln ra pr ap rr po : Nat → Int32} {f : Nat} {x : Int32} (h : fr_low D ln ra pr ap rr po (f + 1)) : fr_low D ln ra pr (upd ap f x) rr po (f + 1) := by
  intro g hg
  obtain ⟨p, k, h1, h2, h3, h4, h5, h6⟩ := h g hg
  exact ⟨p, k, h1, h2, h3, h4, by rw [pk_un (by omega)]; exact h5, h6⟩
theorem zw_end {D : Nat} {rs mr : Int32} {pc ln op ra rb rc rn ko pr ap rr rg lv po ly wa : Nat → Int32} {s s' o f : Nat} (hok : fx_ok D pc ln op ra rb rc rn) (hf : f < 10) (hlow : fr_low D ln ra pr ap rr po (f + 1)) (hs : s ≤ s') (hs' : s' ≤ 150) (ho : o ≤ s') (val : Int32) : zw_res D mr pc ln op ra rb rc rn lv ly wa s f (fun post => wpX_endActivation post (nI D, 0, rs, nI s', nI o, nI (f + 1), mr, pc, ln, op, ra, rb, rc, rn, ko, pr, ap, rr, rg, lv) val) (fun post => wpY_end post (nI D, 0, rs, nI s', nI o, nI (f + 1), pc, ln, op, ra, rb, rc, rn, ko, pr, po, rg, ly, wa) val) := by
  have hD := hok.1
  rcases f with _ | g
  · refine ⟨1, val, nI s', nI o, nI 0, ko, pr, ap, rr, rg, po, fun post h => ?_, fun post h => ?_, .inl (by decide)⟩
    · exact nm_r (nI_pred 0) (br_t rfl h)
    · exact nm_r (nI_pred 0) (br_t rfl h)
  · obtain ⟨p, k, h1, h2, h3, h4, h5, h6⟩ := hlow g (by omega)
    obtain ⟨r1, r2, r3, r4⟩ := fx_rng hok h1 h2
    have ha := (hok.2.2 p h1 k h2).2.1
    have ha2 := ha.2
    have cg : (nI g).toNatClampNeg = g := nI_clamp (by omega)
    have jg : vp_in (nI g) 10 := vp_in_nI (by omega) (by omega)
    have cg1 : (nI (g + 1)).toNatClampNeg = g + 1 := nI_clamp (by omega)
    have c8 : (nI (8 * p + k)).toNatClampNeg = 8 * p + k := nI_clamp (by omega)
    obtain ⟨ca, ia⟩ := zr_ck (a := 6 * g) (N := 60) ha (by omega) (by omega)
    have e0 : ¬ nI (g + 1) = 0 := nI_ne0 (by omega) (by omega)
    refine ⟨0, rs, nI s', nI o, nI (g + 1), ko, pr, ap, rr, upd rg (6 * g + (ra (8 * p + k)).toNatClampNeg) val, upd po g (nI (k + 1)), fun post h => ?_, fun post h => ?_, .inr ⟨rfl, s', o, g, rfl, rfl, rfl, hs', ho, by omega, by omega, ?_, ⟨p, k + 1, h1, by omega, h3, h5, pk_us⟩⟩⟩
    · unfold wpX_endActivation
      refine nm_r (nI_pred (g + 1)) (br_f e0 ?_)
      rw [cg1, h6, ca]
      exact ⟨vp_in_nI (by omega) (by omega), ia, nm_e h⟩
    · unfold wpY_end
      refine nm_r (nI_pred (g + 1)) (br_f e0 (nm_r (nI_pred g) ?_))
      rw [cg, h3, h4]
      refine ⟨jg, jg, nm_r (fx_j8 p k) ?_⟩
      rw [c8, zr_j6, fx_addn _ ha, ca, nI_1]
      exact ⟨vp_in_nI (by omega) (by omega), ia, nm_e ⟨jg, jg, nm_e h⟩⟩
    · exact fr_low_po fun f' hf' => hlow f' (by omega)
