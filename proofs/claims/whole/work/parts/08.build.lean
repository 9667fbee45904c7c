/-! the relation, and the calls that build -/
def i_Rel (_ : Nat) (u : SX) (v : SY) : Prop := ∃ (D : Nat) (oc rs st ot ac mr : Int32) (pc ln op ra rb rc rn ko pr ap rr rg lv po ly wa : Nat → Int32), u = (nI D, oc, rs, st, ot, ac, mr, pc, ln, op, ra, rb, rc, rn, ko, pr, ap, rr, rg, lv) ∧ v = (nI D, oc, rs, st, ot, ac, pc, ln, op, ra, rb, rc, rn, ko, pr, po, rg, ly, wa) ∧ fx_ok D pc ln op ra rb rc rn
theorem i_up {k : Nat} {u : SX} {v : SY} (h : i_Rel k u v) : i_Rel (k + 5) u v := h
theorem zr_mk (k : Nat) {D : Nat} {oc rs st ot ac mr : Int32} {pc ln op ra rb rc rn ko pr ap rr rg lv po ly wa : Nat → Int32} (h : fx_ok D pc ln op ra rb rc rn) : i_Rel k (nI D, oc, rs, st, ot, ac, mr, pc, ln, op, ra, rb, rc, rn, ko, pr, ap, rr, rg, lv) (nI D, oc, rs, st, ot, ac, pc, ln, op, ra, rb, rc, rn, ko, pr, po, rg, ly, wa) :=
  ⟨D, oc, rs, st, ot, ac, mr, pc, ln, op, ra, rb, rc, rn, ko, pr, ap, rr, rg, lv, po, ly, wa, rfl, rfl, h⟩
theorem zr_ok0 {pc ln op ra rb rc rn : Nat → Int32} : fx_ok 0 pc ln op ra rb rc rn := ⟨by omega, fun p hp => absurd hp (by omega), fun p hp => absurd hp (by omega)⟩
theorem i_vc0 : wpX_init (fun u => wpY_init (fun v => i_Rel 0 u v)) := zr_mk 0 zr_ok0
theorem xw_dec_t {post : Int32 → Prop} {D j : Nat} {oc rs st ot ac mr : Int32} {pc ln op ra rb rc rn ko pr ap rr rg lv : Nat → Int32} (hD : D ≤ 5) (hj : j < D) (h : post 1) : wpX_isDeclared post (nI D, oc, rs, st, ot, ac, mr, pc, ln, op, ra, rb, rc, rn, ko, pr, ap, rr, rg, lv) (nI j) := br_f (nI_pos (by omega)) (br_f (nI_ge hj (by omega)) h)
theorem xw_dec_f {post : Int32 → Prop} {D : Nat} {x : Int32} {oc rs st ot ac mr : Int32} {pc ln op ra rb rc rn ko pr ap rr rg lv : Nat → Int32} (hx : x < 0 ∨ nI D ≤ x) (h : post 0) : wpX_isDeclared post (nI D, oc, rs, st, ot, ac, mr, pc, ln, op, ra, rb, rc, rn, ko, pr, ap, rr, rg, lv) x := br_c (fun _ => h) fun hn => br_t (hx.elim (fun z => absurd z hn) id) h
theorem yw_dec_t {post : Int32 → Prop} {D j : Nat} {oc rs st ot ac : Int32} {pc ln op ra rb rc rn ko pr po rg ly wa : Nat → Int32} (hD : D ≤ 5) (hj : j < D) (h : post 1) : wpY_declared post (nI D, oc, rs, st, ot, ac, pc, ln, op, ra, rb, rc, rn, ko, pr, po, rg, ly, wa) (nI j) := br_f (nI_pos (by omega)) (br_f (nI_ge hj (by omega)) h)
theorem yw_dec_f {post : Int32 → Prop} {D : Nat} {x : Int32} {oc rs st ot ac : Int32} {pc ln op ra rb rc rn ko pr po rg ly wa : Nat → Int32} (hx : x < 0 ∨ nI D ≤ x) (h : post 0) : wpY_declared post (nI D, oc, rs, st, ot, ac, pc, ln, op, ra, rb, rc, rn, ko, pr, po, rg, ly, wa) x := br_c (fun _ => h) fun hn => br_t (hx.elim (fun z => absurd z hn) id) h
theorem zr_ix (x : Int32) {D : Nat} (hD : D ≤ 5) : (x < 0 ∨ nI D ≤ x) ∨ ∃ j : Nat, j < D ∧ x = nI j := by
  rcases pk_ix x (n := D) (by omega) with h | h | h
  · exact .inl (.inl h)
  · exact .inl (.inr h)
  · exact .inr h
theorem zr_ok_decl {D a : Nat} {pc ln op ra rb rc rn : Nat → Int32} (h : fx_ok D pc ln op ra rb rc rn) (hD : D < 5) (ha : a ≤ 3) : fx_ok (D + 1) (upd pc D (nI a)) (upd ln D 0) op ra rb rc rn := by
  obtain ⟨h1, h2, h3⟩ := h
  refine ⟨by omega, fun p hp => ?_, fun p hp k hk => ?_⟩
  · by_cases e : p = D
    · subst e
      rw [pk_us, pk_us]
      exact ⟨fx_nn_nI ha (by omega), fx_nn_nI (n := 0) (by omega) (by omega)⟩
    · rw [pk_un e, pk_un e]
      exact h2 p (by omega)
  · by_cases e : p = D
    · subst e
      rw [pk_us] at hk
      exact absurd hk (Nat.not_lt_zero _)
    · rw [pk_un e] at hk
      obtain ⟨g1, g2, g3, g4, g5, g6, g7⟩ := h3 p (by omega) k hk
      refine ⟨g1, g2, g3, g4, g5, g6, fun z => ?_⟩
      obtain ⟨z1, z2, z3⟩ := g7 z
      refine ⟨z1, by omega, ?_⟩
      rw [pk_un (by omega)]
      exact z3
theorem i_vc_declare {k : Nat} {u : SX} {v : SY} (I : i_Rel k u v) (hk : k + 5 ≤ 2560) (v1 : Int32) : wpX_declare (fun r u' => wpY_declare (fun r' v' => r' = r ∧ i_Rel (k + 5) u' v') v v1) u v1 := by
  obtain ⟨D, oc, rs, st, ot, ac, mr, pc, ln, op, ra, rb, rc, rn, ko, pr, ap, rr, rg, lv, po, ly, wa, rfl, rfl, hok⟩ := I
  have hD := hok.1
  by_cases h0 : v1 < 0
  · exact br_t h0 (br_t h0 ⟨rfl, zr_mk _ hok⟩)
  · by_cases h3 : v1 ≤ 3
    · obtain ⟨a, ha, rfl⟩ := nI_of2 (M := 3) (n := 3) (by decide) h0 h3
      by_cases hd : D < 5
      · have q : nI D < 5 := nI_lt (b := 5) hd (by decide)
        have cD : (nI D).toNatClampNeg = D := nI_clamp (by omega)
        have iD : vp_in (nI D) 5 := vp_in_nI hd (by omega)
        refine br_f h0 (br_t h3 (br_t q ⟨iD, nm_r (by rw [cD]) ⟨iD, nm_r (by rw [cD]) (nm_r (nI_1 D) ?_)⟩⟩))
        refine br_f h0 (br_t h3 (br_t q ⟨iD, nm_r (by rw [cD]) ⟨iD, nm_r (by rw [cD]) (nm_r (nI_1 D) ⟨nI_pred D, ?_⟩)⟩⟩))
        exact zr_mk _ (zr_ok_decl hok hd ha)
      · have q : ¬ nI D < 5 := nI_nlt (b := 5) (by omega) (by omega)
        exact br_f h0 (br_t h3 (br_f q (br_f h0 (br_t h3 (br_f q ⟨rfl, zr_mk _ hok⟩)))))
    · exact br_f h0 (br_f h3 (br_f h0 (br_f h3 ⟨rfl, zr_mk _ hok⟩)))
theorem i_vc_clear {k : Nat} {u : SX} {v : SY} (I : i_Rel k u v) (hk : k + 5 ≤ 2560) : wpX_clear (fun u' => wpY_clear (fun v' => i_Rel (k + 5) u' v') v) u := by
  obtain ⟨D, oc, rs, st, ot, ac, mr, pc, ln, op, ra, rb, rc, rn, ko, pr, ap, rr, rg, lv, po, ly, wa, rfl, rfl, hok⟩ := I
  unfold wpX_clear wpX_forgetRun
  dsimp only
  unfold wpY_clear wpY_forget
  exact zr_mk (D := 0) (k + 5) zr_ok0
theorem i_vc_length {k : Nat} {u : SX} {v : SY} (I : i_Rel k u v) (hk : k + 5 ≤ 2560) (v1 : Int32) : wpX_length (fun r => wpY_length (fun r' => r' = r ∧ i_Rel (k + 5) u v) v v1) u v1 := by
  obtain ⟨D, oc, rs, st, ot, ac, mr, pc, ln, op, ra, rb, rc, rn, ko, pr, ap, rr, rg, lv, po, ly, wa, rfl, rfl, hok⟩ := I
  have hD := hok.1
  rcases zr_ix v1 hD with hx | ⟨p, hp, rfl⟩
  · unfold wpX_length
    refine xw_dec_f hx ?_
    refine br_t rfl ?_
    unfold wpY_length
    refine yw_dec_f hx ?_
    exact br_t rfl ⟨rfl, zr_mk _ hok⟩
  · have ip : vp_in (nI p) 5 := vp_in_nI (by omega) (by omega)
    unfold wpX_length
    refine xw_dec_t hD hp ?_
    refine br_f (by decide) ⟨ip, ?_⟩
    unfold wpY_length
    refine yw_dec_t hD hp ?_
    exact br_f (by decide) ⟨ip, rfl, zr_mk _ hok⟩
theorem i_vc_outcome {k : Nat} {u : SX} {v : SY} (I : i_Rel k u v) (hk : k + 5 ≤ 2560) : wpX_outcome (fun r => wpY_outcome (fun r' => r' = r ∧ i_Rel (k + 5) u v) v) u := by
  obtain ⟨D, oc, rs, st, ot, ac, mr, pc, ln, op, ra, rb, rc, rn, ko, pr, ap, rr, rg, lv, po, ly, wa, rfl, rfl, hok⟩ := I
  exact ⟨rfl, zr_mk _ hok⟩
theorem i_vc_result {k : Nat} {u : SX} {v : SY} (I : i_Rel k u v) (hk : k + 5 ≤ 2560) : wpX_result (fun r => wpY_result (fun r' => r' = r ∧ i_Rel (k + 5) u v) v) u := by
  obtain ⟨D, oc, rs, st, ot, ac, mr, pc, ln, op, ra, rb, rc, rn, ko, pr, ap, rr, rg, lv, po, ly, wa, rfl, rfl, hok⟩ := I
  exact ⟨rfl, zr_mk _ hok⟩
theorem i_vc_steps {k : Nat} {u : SX} {v : SY} (I : i_Rel k u v) (hk : k + 5 ≤ 2560) : wpX_steps (fun r => wpY_steps (fun r' => r' = r ∧ i_Rel (k + 5) u v) v) u := by
  obtain ⟨D, oc, rs, st, ot, ac, mr, pc, ln, op, ra, rb, rc, rn, ko, pr, ap, rr, rg, lv, po, ly, wa, rfl, rfl, hok⟩ := I
  exact ⟨rfl, zr_mk _ hok⟩
theorem i_vc_outs {k : Nat} {u : SX} {v : SY} (I : i_Rel k u v) (hk : k + 5 ≤ 2560) : wpX_outs (fun r => wpY_outs (fun r' => r' = r ∧ i_Rel (k + 5) u v) v) u := by
  obtain ⟨D, oc, rs, st, ot, ac, mr, pc, ln, op, ra, rb, rc, rn, ko, pr, ap, rr, rg, lv, po, ly, wa, rfl, rfl, hok⟩ := I
  exact ⟨rfl, zr_mk _ hok⟩
theorem i_vc_out {k : Nat} {u : SX} {v : SY} (I : i_Rel k u v) (hk : k + 5 ≤ 2560) (v1 : Int32) : wpX_out (fun r => wpY_out (fun r' => r' = r ∧ i_Rel (k + 5) u v) v v1) u v1 := by
  obtain ⟨D, oc, rs, st, ot, ac, mr, pc, ln, op, ra, rb, rc, rn, ko, pr, ap, rr, rg, lv, po, ly, wa, rfl, rfl, hok⟩ := I
  by_cases h0 : v1 < 0
  · exact br_t h0 (br_t h0 ⟨rfl, zr_mk _ hok⟩)
  · by_cases h16 : 16 ≤ v1
    · exact br_f h0 (br_t h16 (br_f h0 (br_t h16 ⟨rfl, zr_mk _ hok⟩)))
    · by_cases ho : ot ≤ v1
      · exact br_f h0 (br_f h16 (br_t ho (br_f h0 (br_f h16 (br_t ho ⟨rfl, zr_mk _ hok⟩)))))
      · have hin : vp_in v1 16 := by
          obtain ⟨j, hj, rfl⟩ := nI_of h0
          have : j < 16 := by
            apply Classical.byContradiction
            intro z
            exact h16 (nI_le (a := 16) (by omega) (by omega))
          exact vp_in_nI this (by omega)
        exact br_f h0 (br_f h16 (br_f ho ⟨hin, br_f h0 (br_f h16 (br_f ho ⟨hin, rfl, zr_mk _ hok⟩))⟩))
theorem zr_ok_drop {D p l : Nat} {pc ln op ra rb rc rn : Nat → Int32} (h : fx_ok D pc ln op ra rb rc rn) (hp : p < D) (hl : l ≤ (ln p).toNatClampNeg) : fx_ok D pc (upd ln p (nI l)) op ra rb rc rn := by
  obtain ⟨h1, h2, h3⟩ := h
  have h28 := (h2 p hp).2.2
  refine ⟨h1, fun p' hp' => ⟨(h2 p' hp').1, ?_⟩, fun p' hp' k' hk' => h3 p' hp' k' ?_⟩
  · by_cases e : p' = p
    · subst e
      rw [pk_us]
      exact fx_nn_nI (by omega) (by omega)
    · rw [pk_un e]; exact (h2 p' hp').2
  · by_cases e : p' = p
    · subst e
      rw [pk_us, nI_clamp (by omega)] at hk'
      omega
    · rw [pk_un e] at hk'; exact hk'
theorem i_vc_drop {k : Nat} {u : SX} {v : SY} (I : i_Rel k u v) (hk : k + 5 ≤ 2560) (v1 : Int32) : wpX_drop (fun r u' => wpY_drop (fun r' v' => r' = r ∧ i_Rel (k + 5) u' v') v v1) u v1 := by
  obtain ⟨D, oc, rs, st, ot, ac, mr, pc, ln, op, ra, rb, rc, rn, ko, pr, ap, rr, rg, lv, po, ly, wa, rfl, rfl, hok⟩ := I
  have hD := hok.1
  rcases zr_ix v1 hD with hx | ⟨p, hp, rfl⟩
  · unfold wpX_drop
    refine xw_dec_f hx ?_
    refine br_t rfl ?_
    unfold wpY_drop
    refine yw_dec_f hx ?_
    exact br_t rfl ⟨rfl, zr_mk _ hok⟩
  · have ip : vp_in (nI p) 5 := vp_in_nI (by omega) (by omega)
    have cp : (nI p).toNatClampNeg = p := nI_clamp (by omega)
    have hl := (hok.2.1 p hp).2
    unfold wpX_drop
    refine xw_dec_t hD hp ?_
    refine br_f (by decide) ⟨ip, ?_⟩
    by_cases hz : ln (nI p).toNatClampNeg = 0
    · refine br_t hz ?_
      unfold wpY_drop
      refine yw_dec_t hD hp ?_
      exact br_f (by decide) ⟨ip, br_t hz ⟨rfl, zr_mk _ hok⟩⟩
    · have e : upd ln (nI p).toNatClampNeg (ln (nI p).toNatClampNeg - 1) = upd ln p (nI ((ln p).toNatClampNeg - 1)) := by
        rw [cp] at hz ⊢
        have h0 : (ln p).toNatClampNeg ≠ 0 := fun z => hz (by rw [hl.1, z]; rfl)
        have : ln p - 1 = nI ((ln p).toNatClampNeg - 1) := by
          conv => lhs; rw [hl.1]
          exact pk_sub (b := 1) (by omega)
        rw [this]
      have hok' := zr_ok_drop (l := (ln p).toNatClampNeg - 1) hok hp (by omega)
      refine br_f hz ⟨ip, ip, nm_r e ⟨ip, ?_⟩⟩
      unfold wpY_drop
      refine yw_dec_t hD hp ?_
      refine br_f (by decide) ⟨ip, br_f hz ⟨ip, ip, nm_r e ⟨ip, rfl, ?_⟩⟩⟩
      exact zr_mk _ hok'
