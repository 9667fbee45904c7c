/-! run: the first activation, then the moves -/
def zr_R (np : Nat) (x y z : Int32) (i : Nat) (rg : Nat → Int32) : Nat → Int32 := fun j => if i ≤ j ∧ j < 6 then (if j < np then (if j = 0 then x else if j = 1 then y else z) else 0) else rg j
theorem zr_R6 (np : Nat) (x y z : Int32) (rg : Nat → Int32) : zr_R np x y z 6 rg = rg := by
  funext j
  exact if_neg (by omega)
theorem zr_Rs {np i : Nat} {x y z v : Int32} (hi : i < 6) (rg : Nat → Int32) (hv : v = if i < np then (if i = 0 then x else if i = 1 then y else z) else 0) : zr_R np x y z (i + 1) (upd rg i v) = zr_R np x y z i rg := by
  funext j
  unfold zr_R
  by_cases e : j = i
  · subst e
    rw [if_neg (by omega), if_pos ⟨Nat.le_refl _, hi⟩, pk_us, hv]
  · by_cases h : i + 1 ≤ j ∧ j < 6
    · have h' : i ≤ j ∧ j < 6 := by omega
      rw [if_pos h, if_pos h']
    · have h' : ¬ (i ≤ j ∧ j < 6) := by omega
      rw [if_neg h, if_neg h', pk_un e]
theorem zr_six {P : Nat → Prop} (h0 : P 0) (h1 : P 1) (h2 : P 2) (h3 : P 3) (h4 : P 4) (h5 : P 5) (h6 : ∀ j, 6 ≤ j → P j) (j : Nat) : P j := by
  rcases Nat.lt_or_ge j 6 with h | h
  · have : j = 0 ∨ j = 1 ∨ j = 2 ∨ j = 3 ∨ j = 4 ∨ j = 5 := by omega
    rcases this with rfl | rfl | rfl | rfl | rfl | rfl
    · exact h0
    · exact h1
    · exact h2
    · exact h3
    · exact h4
    · exact h5
  · exact h6 j h
theorem zr_big {np : Nat} {x y z : Int32} {rg : Nat → Int32} {j : Nat} (hj : 6 ≤ j) : zr_R np x y z 0 rg j = rg j ∧ zr_Z 0 0 rg j = rg j := ⟨if_neg (by omega), if_neg (by omega)⟩
theorem zr_R_0 (x y z : Int32) (rg : Nat → Int32) : zr_Z 0 0 rg = zr_R 0 x y z 0 rg := by
  funext j
  revert j
  refine zr_six rfl rfl rfl rfl rfl rfl fun j hj => ?_
  obtain ⟨h1, h2⟩ := zr_big (np := 0) (x := x) (y := y) (z := z) (rg := rg) hj
  rw [h1, h2]
theorem zr_R_1 (x y z : Int32) (rg : Nat → Int32) : upd (zr_Z 0 0 rg) 0 x = zr_R 1 x y z 0 rg := by
  funext j
  revert j
  refine zr_six rfl rfl rfl rfl rfl rfl fun j hj => ?_
  obtain ⟨h1, h2⟩ := zr_big (np := 1) (x := x) (y := y) (z := z) (rg := rg) hj
  rw [h1, pk_un (by omega), h2]
theorem zr_R_2 (x y z : Int32) (rg : Nat → Int32) : upd (upd (zr_Z 0 0 rg) 0 x) 1 y = zr_R 2 x y z 0 rg := by
  funext j
  revert j
  refine zr_six rfl rfl rfl rfl rfl rfl fun j hj => ?_
  obtain ⟨h1, h2⟩ := zr_big (np := 2) (x := x) (y := y) (z := z) (rg := rg) hj
  rw [h1, pk_un (by omega), pk_un (by omega), h2]
theorem zr_R_3 (x y z : Int32) (rg : Nat → Int32) : upd (upd (upd (zr_Z 0 0 rg) 0 x) 1 y) 2 z = zr_R 3 x y z 0 rg := by
  funext j
  revert j
  refine zr_six rfl rfl rfl rfl rfl rfl fun j hj => ?_
  obtain ⟨h1, h2⟩ := zr_big (np := 3) (x := x) (y := y) (z := z) (rg := rg) hj
  rw [h1, pk_un (by omega), pk_un (by omega), pk_un (by omega), h2]
theorem xw_begin {post : SX → Prop} {d oc rs st ot ac mr : Int32} {pc ln op ra rb rc rn ko pr ap rr rg lv : Nat → Int32} {np : Nat} {x y z : Int32} (hnp : np ≤ 3) (hpc : pc 0 = nI np) (h : post (d, oc, rs, st, ot, nI (0 + 1), mr, pc, ln, op, ra, rb, rc, rn, ko, upd pr 0 0, upd ap 0 0, upd rr 0 0, zr_R np x y z 0 rg, lv)) : wpX_beginFirstActivation post (d, oc, rs, st, ot, ac, mr, pc, ln, op, ra, rb, rc, rn, ko, pr, ap, rr, rg, lv) x y z := by
  unfold wpX_beginFirstActivation
  refine xw_add (n := 0) (by omega) ?_
  refine nm_r hpc ?_
  have hn : np = 0 ∨ np = 1 ∨ np = 2 ∨ np = 3 := by omega
  rcases hn with rfl | rfl | rfl | rfl
  · rw [← zr_R_0] at h
    exact br_t (by decide) (br_t (by decide) (br_t (by decide) h))
  · rw [← zr_R_1] at h
    exact br_f (by decide) (nm_e (br_t (by decide) (br_t (by decide) h)))
  · rw [← zr_R_2] at h
    exact br_f (by decide) (nm_e (br_f (by decide) (nm_e (br_t (by decide) h))))
  · rw [← zr_R_3] at h
    exact br_f (by decide) (nm_e (br_f (by decide) (nm_e (br_f (by decide) (nm_e h)))))
theorem yw_35 {d oc rs st ot ac : Int32} {pc ln op ra rb rc rn ko pr po ly wa : Nat → Int32} {np : Nat} {x y z : Int32} (hnp : np ≤ 3) (hpc : pc 0 = nI np) : ∀ (m i : Nat), i + m = 6 → ∀ (rg : Nat → Int32) (post : Int32 → SY → Prop), (∃ n93, wY_run_93 post n93 0 d oc rs st ot ac pc ln op ra rb rc rn ko pr po (zr_R np x y z i rg) ly wa) → wY_run_35 post x y z d oc rs st ot ac (m + 1) (nI i) pc ln op ra rb rc rn ko pr po rg ly wa := by
  intro m
  induction m with
  | zero =>
    intro i hi rg post h
    have : i = 6 := by omega
    subst this
    rw [zr_R6] at h
    exact br_t (by decide) h
  | succ m ih =>
    intro i hi rg post h
    have ci : (nI i).toNatClampNeg = i := nI_clamp (by omega)
    have ji : vp_in (nI i) 60 := vp_in_nI (by omega) (by omega)
    refine br_f (nI_ge (b := 6) (by omega) (by decide)) ?_
    rw [hpc]
    by_cases hlt : i < np
    · refine br_t (nI_lt hlt (by omega)) ?_
      by_cases e0 : i = 0
      · refine br_t (by rw [e0]; rfl) ⟨ji, nm_r (e' := upd rg i x) (by rw [ci]) (nm_r (nI_1 i) (ih (i + 1) (by omega) _ post ?_))⟩
        rw [zr_Rs (by omega) rg (by rw [if_pos hlt, if_pos e0])]
        exact h
      · refine br_f (nI_ne0 (by omega) (by omega)) ?_
        by_cases e1 : i = 1
        · refine br_t (by rw [e1]; rfl) ⟨ji, nm_r (e' := upd rg i y) (by rw [ci]) (nm_r (nI_1 i) (ih (i + 1) (by omega) _ post ?_))⟩
          rw [zr_Rs (by omega) rg (by rw [if_pos hlt, if_neg e0, if_pos e1])]
          exact h
        · refine br_f (zr_o (n := 1) (by omega) (by omega) e1) ⟨ji, nm_r (e' := upd rg i z) (by rw [ci]) (nm_r (nI_1 i) (ih (i + 1) (by omega) _ post ?_))⟩
          rw [zr_Rs (by omega) rg (by rw [if_pos hlt, if_neg e0, if_neg e1])]
          exact h
    · refine br_f (nI_nlt (by omega) (by omega)) ⟨ji, nm_r (e' := upd rg i 0) (by rw [ci]) (nm_r (nI_1 i) (ih (i + 1) (by omega) _ post ?_))⟩
      rw [zr_Rs (by omega) rg (by rw [if_neg hlt])]
      exact h
theorem i_vc_run {k : Nat} {u : SX} {v : SY} (I : i_Rel k u v) (hk : k + 5 ≤ 2560) (v1 : Int32) (v2 : Int32) (v3 : Int32) : wpX_run (fun r u' => wpY_run (fun r' v' => r' = r ∧ i_Rel (k + 5) u' v') v v1 v2 v3) u v1 v2 v3 := by
  obtain ⟨D, oc, rs, st, ot, ac, mr, pc, ln, op, ra, rb, rc, rn, ko, pr, ap, rr, rg, lv, po, ly, wa, rfl, rfl, hok⟩ := I
  have hD := hok.1
  by_cases h0 : D = 0
  · subst h0
    exact br_t rfl (br_t rfl ⟨rfl, zr_mk _ hok⟩)
  · have q : ¬ nI D = 0 := nI_ne0 (by omega) (by omega)
    have hpc := (hok.2.1 0 (by omega)).1
    obtain ⟨oc1, rs1, st1, ot1, ac1, ko1, pr1, ap1, rr1, rg1, po1, hX, hY⟩ := zw_run (mr := mr) (lv := lv) (ly := ly) (wa := wa) hok 301 0 0 0 0 0 ko (upd pr 0 0) (upd ap 0 0) (upd rr 0 0) (zr_R (pc 0).toNatClampNeg v1 v2 v3 0 rg) (upd po 0 0) (by omega) (by omega) (by omega) (by omega) (by omega) (fun g hg => absurd hg (by omega)) ⟨0, 0, by omega, by omega, pk_us, pk_us, pk_us⟩
    refine br_f q ?_
    unfold wpX_forgetRun
    dsimp only
    refine xw_begin hpc.2 hpc.1 ⟨_, hX _ ?_⟩
    refine br_f q ?_
    unfold wpY_forget
    dsimp only
    refine nm_e (nm_e ⟨_, yw_35 hpc.2 hpc.1 6 0 rfl rg _ ⟨_, hY _ ⟨rfl, zr_mk _ hok⟩⟩⟩)
