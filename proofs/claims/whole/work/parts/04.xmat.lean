/-! X's question of what matters: each method's value -/
theorem fx_i8 (p k : Nat) : nI p * 8 + nI k = nI (8 * p + k) := by
  show nI p * nI 8 + nI k = _
  rw [pk_mul, nI_add, Nat.mul_comm]
theorem fx_i9 (p : Nat) : nI p * 9 = nI (9 * p) := by
  show nI p * nI 9 = _
  rw [pk_mul, Nat.mul_comm]
theorem fx_add1 (a b : Nat) : nI a + nI b + 1 = nI (a + b + 1) := by rw [nI_add, nI_1]
theorem fx_addn {x : Int32} {b : Nat} (a : Nat) (h : fx_nn x b) : nI a + x = nI (a + x.toNatClampNeg) := by
  conv => lhs; rw [h.1]
  exact nI_add _ _
theorem xw_ar_t {post : Int32 → Prop} {x : Int32} (h : x = 1 ∨ x = 2 ∨ x = 3) (hp : post 1) : wpX_isArithmetic post x :=
  br_c (fun _ => hp) fun h1 => br_c (fun _ => hp) fun h2 => br_t (h.elim (fun z => absurd z h1) fun z => z.elim (fun y => absurd y h2) id) hp
theorem xw_ar_f {post : Int32 → Prop} {x : Int32} (h1 : ¬ x = 1) (h2 : ¬ x = 2) (h3 : ¬ x = 3) (hp : post 0) : wpX_isArithmetic post x :=
  br_f h1 (br_f h2 (br_f h3 hp))
theorem xw_hb_t {post : Int32 → Prop} {x : Int32} {n : Nat} (hn : n < 32) (h : bt x n = true) (hp : post 1) : wpX_hasBit post x (nI n) := br_t ((fx_hb hn x).mpr h) hp
theorem xw_hb_f {post : Int32 → Prop} {x : Int32} {n : Nat} (hn : n < 32) (h : ¬ bt x n = true) (hp : post 0) : wpX_hasBit post x (nI n) := br_f (fun z => h ((fx_hb hn x).mp z)) hp
theorem xw_liveAfter {post : Int32 → Prop} {d oc rs st ot ac mr : Int32} {pc ln op ra rb rc rn ko pr ap rr rg lv : Nat → Int32} {p k : Nat} (hp : p < 5) (hk : k < 8) (h4 : op (8 * p + k) = 4 → fx_nn (rn (8 * p + k)) 8) (h : post (fx_af op rn lv p k)) : wpX_liveAfter post (d, oc, rs, st, ot, ac, mr, pc, ln, op, ra, rb, rc, rn, ko, pr, ap, rr, rg, lv) (nI p) (nI k) := by
  have c8 : (nI (8 * p + k)).toNatClampNeg = 8 * p + k := nI_clamp (by omega)
  have ck : (nI (9 * p + k + 1)).toNatClampNeg = 9 * p + k + 1 := nI_clamp (by omega)
  have i8 : vp_in (nI (8 * p + k)) 40 := vp_in_nI (by omega) (by omega)
  unfold wpX_liveAfter
  refine nm_r (fx_i8 p k) (nm_r (fx_i9 p) ?_)
  rw [fx_add1, c8, ck]
  refine ⟨vp_in_nI (by omega) (by omega), nm_e ⟨i8, ?_⟩⟩
  unfold fx_af at h
  by_cases h7 : op (8 * p + k) = 7
  · rw [if_pos h7] at h
    exact br_t h7 h
  · rw [if_neg h7] at h
    refine br_f h7 ⟨i8, ?_⟩
    by_cases e4 : op (8 * p + k) = 4
    · rw [if_pos e4] at h
      have hn := h4 e4
      have hn2 := hn.2
      have cn : (nI (9 * p + (rn (8 * p + k)).toNatClampNeg)).toNatClampNeg = 9 * p + (rn (8 * p + k)).toNatClampNeg := nI_clamp (by omega)
      rw [fx_addn _ hn, cn]
      exact br_t e4 ⟨i8, vp_in_nI (by omega) (by omega), h⟩
    · rw [if_neg e4] at h
      exact br_f e4 h
theorem xw_mpar {post : Int32 → Prop} {d oc rs st ot ac mr : Int32} {pc ln op ra rb rc rn ko pr ap rr rg lv : Nat → Int32} {p : Nat} (hp : p < 5) (h : post (lv (9 * p) &&& (((1 : Int32) <<< (pc p &&& 31)) - 1))) : wpX_matteringParameters post (d, oc, rs, st, ot, ac, mr, pc, ln, op, ra, rb, rc, rn, ko, pr, ap, rr, rg, lv) (nI p) := by
  have c8 : (nI p).toNatClampNeg = p := nI_clamp (by omega)
  have c9 : (nI (9 * p)).toNatClampNeg = 9 * p := nI_clamp (by omega)
  unfold wpX_matteringParameters
  refine ⟨vp_in_nI hp (by omega), nm_e ?_⟩
  rw [fx_i9, c8, c9]
  exact ⟨vp_in_nI (by omega) (by omega), h⟩
def fx_rd (pc op ra rb rc rn L : Nat → Int32) (W : Nat → Bool) (p c : Nat) (x : Int32) : Int32 :=
  if op c = 1 ∨ op c = 2 ∨ op c = 3 then (if (x &&& ((1 : Int32) <<< (ra c &&& 31))) = 0 then 0 else ((1 : Int32) <<< (rb c &&& 31)) ||| ((1 : Int32) <<< (rc c &&& 31)))
  else if op c = 4 then (1 : Int32) <<< (ra c &&& 31)
  else if op c = 6 then (1 : Int32) <<< (ra c &&& 31)
  else if op c = 7 then (if W p = true then (1 : Int32) <<< (ra c &&& 31) else 0)
  else if op c = 5 then (L (9 * (rn c).toNatClampNeg) &&& (((1 : Int32) <<< (pc (rn c).toNatClampNeg &&& 31)) - 1)) <<< (rb c &&& 31)
  else 0
def fx_rs (op ra : Nat → Int32) (c : Nat) : Int32 := if op c = 0 ∨ op c = 5 ∨ op c = 1 ∨ op c = 2 ∨ op c = 3 then (1 : Int32) <<< (ra c &&& 31) else 0
theorem xw_reads {post : Int32 → Prop} {d oc rs st ot ac mr : Int32} {pc ln op ra rb rc rn ko pr ap rr rg lv : Nat → Int32} {p c : Nat} {x : Int32} (hp : p < 5) (hc : c < 40) (h5 : op c = 5 → fx_nn (rn c) 4) (h : post (fx_rd pc op ra rb rc rn lv (bt mr) p c x)) : wpX_readsThatMatter post (d, oc, rs, st, ot, ac, mr, pc, ln, op, ra, rb, rc, rn, ko, pr, ap, rr, rg, lv) (nI p) (nI c) x := by
  have cc : (nI c).toNatClampNeg = c := nI_clamp (by omega)
  have ic : vp_in (nI c) 40 := vp_in_nI hc (by omega)
  unfold wpX_readsThatMatter
  refine ⟨ic, nm_e ⟨ic, nm_e ?_⟩⟩
  rw [cc]
  unfold fx_rd at h
  by_cases ha : op c = 1 ∨ op c = 2 ∨ op c = 3
  · rw [if_pos ha] at h
    refine xw_ar_t ha (br_f (by decide) ?_)
    by_cases hz : (x &&& ((1 : Int32) <<< (ra c &&& 31))) = 0
    · rw [if_pos hz] at h
      exact br_t hz (br_t rfl h)
    · rw [if_neg hz] at h
      refine br_f hz ?_
      unfold wX_readsThatMatter_38
      rw [cc]
      exact br_f (by decide) ⟨ic, ic, h⟩
  · rw [if_neg ha] at h
    have n1 : ¬ op c = 1 := fun z => ha (.inl z)
    have n2 : ¬ op c = 2 := fun z => ha (.inr (.inl z))
    have n3 : ¬ op c = 3 := fun z => ha (.inr (.inr z))
    refine xw_ar_f n1 n2 n3 (br_t rfl ?_)
    by_cases e4 : op c = 4
    · rw [if_pos e4] at h
      exact br_t e4 h
    · rw [if_neg e4] at h
      refine br_f e4 ?_
      by_cases e6 : op c = 6
      · rw [if_pos e6] at h
        exact br_t e6 h
      · rw [if_neg e6] at h
        refine br_f e6 ?_
        by_cases e7 : op c = 7
        · rw [if_pos e7] at h
          refine br_t e7 ?_
          by_cases hw : bt mr p = true
          · rw [if_pos hw] at h
            exact xw_hb_t (by omega) hw (br_f (by decide) h)
          · rw [if_neg hw] at h
            exact xw_hb_f (by omega) hw (br_t rfl h)
        · rw [if_neg e7] at h
          refine br_f e7 ?_
          by_cases e5 : op c = 5
          · rw [if_pos e5] at h
            have hn := h5 e5
            have hn2 := hn.2
            refine br_t e5 ⟨ic, ?_⟩
            rw [hn.1]
            exact xw_mpar (by omega) ⟨ic, h⟩
          · rw [if_neg e5] at h
            exact br_f e5 h
theorem xw_rset {post : Int32 → Prop} {d oc rs st ot ac mr : Int32} {pc ln op ra rb rc rn ko pr ap rr rg lv : Nat → Int32} {c : Nat} (hc : c < 40) (h : post (fx_rs op ra c)) : wpX_registersSet post (d, oc, rs, st, ot, ac, mr, pc, ln, op, ra, rb, rc, rn, ko, pr, ap, rr, rg, lv) (nI c) := by
  have cc : (nI c).toNatClampNeg = c := nI_clamp (by omega)
  have ic : vp_in (nI c) 40 := vp_in_nI hc (by omega)
  unfold wpX_registersSet
  refine ⟨ic, nm_e ?_⟩
  rw [cc]
  unfold fx_rs at h
  have hs : ∀ h' : post ((1 : Int32) <<< (ra c &&& 31)), wX_registersSet_23 post (nI c) d oc rs st ot ac mr pc ln op ra rb rc rn ko pr ap rr rg lv := by
    intro h'
    unfold wX_registersSet_23 wX_registersSet_28
    rw [cc]
    exact br_f (by decide) ⟨ic, h'⟩
  by_cases h0 : op c = 0
  · rw [if_pos (.inl h0)] at h
    exact br_t h0 (hs h)
  · refine br_f h0 ?_
    by_cases e5 : op c = 5
    · rw [if_pos (.inr (.inl e5))] at h
      exact br_t e5 (hs h)
    · refine br_f e5 ?_
      by_cases ha : op c = 1 ∨ op c = 2 ∨ op c = 3
      · rw [if_pos (.inr (.inr ha))] at h
        exact xw_ar_t ha (br_f (by decide) (hs h))
      · rw [if_neg (by rintro (z | z | z); exact h0 z; exact e5 z; exact ha z)] at h
        refine xw_ar_f (fun z => ha (.inl z)) (fun z => ha (.inr (.inl z))) (fun z => ha (.inr (.inr z))) (br_t rfl ?_)
        exact br_t rfl h
theorem fx_and_m1 (x : Int32) : x &&& ((0 : Int32) ^^^ (-1)) = x := by
  apply b_ext
  intro j hj
  rw [b_and, fx_xm _ _ hj, b_0]
  simp
theorem fx_rd_eq {D : Nat} {pc ln op ra rb rc rn : Nat → Int32} (hok : fx_ok D pc ln op ra rb rc rn) (L : Nat → Int32) (W : Nat → Bool) {p k : Nat} (hp : p < D) (hk : k < (ln p).toNatClampNeg) : fx_rd pc op ra rb rc rn L W p (8 * p + k) (fx_af op rn L p k) ||| (fx_af op rn L p k &&& (fx_rs op ra (8 * p + k) ^^^ (-1))) = fx_bf pc op ra rb rc rn L W p k := by
  obtain ⟨hD, hpl, hcs⟩ := hok
  obtain ⟨ho, ha, hb, hc, h13, h4, h5⟩ := hcs p hp k hk
  unfold fx_rd fx_rs fx_bf
  rcases fx_op ho with e | e | e | e | e | e | e | e <;> simp only [e]
  · simp [Int32.or_comm]
  · by_cases hz : (fx_af op rn L p k &&& ((1 : Int32) <<< (ra (8 * p + k) &&& 31))) = 0
    · simp [hz]
    · simp [hz, Int32.or_comm]
  · by_cases hz : (fx_af op rn L p k &&& ((1 : Int32) <<< (ra (8 * p + k) &&& 31))) = 0
    · simp [hz]
    · simp [hz, Int32.or_comm]
  · by_cases hz : (fx_af op rn L p k &&& ((1 : Int32) <<< (ra (8 * p + k) &&& 31))) = 0
    · simp [hz]
    · simp [hz, Int32.or_comm]
  · simp [Int32.or_comm]
  · simp [Int32.or_comm]
  · simp [Int32.or_comm]
  · have : fx_af op rn L p k = 0 := if_pos e
    simp [this]
