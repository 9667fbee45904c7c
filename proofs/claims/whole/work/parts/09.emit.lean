theorem zr_o {o n : Nat} (ho : o ≤ 7) (hn : n ≤ 7) (h : o ≠ n) : ¬ nI o = nI n := fun z => h ((nI_eq (by omega) (by omega)).mp z)
theorem xw_reg_t {post : Int32 → Prop} {a : Nat} (h : a ≤ 5) (hp : post 1) : wpX_isRegister post (nI a) := br_f (nI_pos (by omega)) (br_f (nI_ge (b := 6) (by omega) (by decide)) hp)
theorem xw_reg_f {post : Int32 → Prop} {a : Nat} (h : ¬ a ≤ 5) (ha : a < 8) (hp : post 0) : wpX_isRegister post (nI a) := br_f (nI_pos (by omega)) (br_t (nI_le (a := 6) (by omega) (by omega)) hp)
theorem xw_arN_t {post : Int32 → Prop} {o : Nat} (h : 1 ≤ o ∧ o ≤ 3) (hp : post 1) : wpX_isArithmetic post (nI o) := by
  have : o = 1 ∨ o = 2 ∨ o = 3 := by omega
  rcases this with rfl | rfl | rfl
  · exact xw_ar_t (.inl rfl) hp
  · exact xw_ar_t (.inr (.inl rfl)) hp
  · exact xw_ar_t (.inr (.inr rfl)) hp
theorem xw_arN_f {post : Int32 → Prop} {o : Nat} (ho : o ≤ 7) (h : ¬ (1 ≤ o ∧ o ≤ 3)) (hp : post 0) : wpX_isArithmetic post (nI o) :=
  xw_ar_f (zr_o (n := 1) ho (by omega) (by omega)) (zr_o (n := 2) ho (by omega) (by omega)) (zr_o (n := 3) ho (by omega) (by omega)) hp
def zr_fit (o a b c : Nat) : Prop := a ≤ 5 ∧ (1 ≤ o ∧ o ≤ 3 → b ≤ 5 ∧ c ≤ 5)
theorem xw_fit {post : Int32 → Prop} {o a b c : Nat} (ho : o ≤ 7) (ha : a < 8) (hb : b < 8) (hc : c < 8) (hT : zr_fit o a b c → post 1) (hF : ¬ zr_fit o a b c → post 0) : wpX_registersFit post (nI o) (nI a) (nI b) (nI c) := by
  unfold wpX_registersFit
  by_cases h1 : a ≤ 5
  · refine xw_reg_t h1 ?_
    refine br_f (by decide) ?_
    by_cases h2 : 1 ≤ o ∧ o ≤ 3
    · refine xw_arN_t h2 ?_
      refine br_f (by decide) ?_
      by_cases h3 : b ≤ 5
      · refine xw_reg_t h3 ?_
        refine br_f (by decide) ?_
        by_cases h4 : c ≤ 5
        · refine xw_reg_t h4 ?_
          exact br_f (by decide) (hT ⟨h1, fun _ => ⟨h3, h4⟩⟩)
        · refine xw_reg_f h4 hc ?_
          exact br_t rfl (hF fun z => h4 (z.2 h2).2)
      · refine xw_reg_f h3 hb ?_
        exact br_t rfl (hF fun z => h3 (z.2 h2).1)
    · refine xw_arN_f ho h2 ?_
      exact br_t rfl (hT ⟨h1, fun z => absurd z h2⟩)
  · refine xw_reg_f h1 ha ?_
    exact br_t rfl (hF fun z => h1 z.1)
def zr_tgt (D : Nat) (pc ln : Nat → Int32) (p o b : Nat) (x : Int32) : Prop := (o = 4 → ln p < x ∧ x ≤ 8) ∧ (o = 5 → ∃ q, q < D ∧ x = nI q ∧ b + (pc q).toNatClampNeg ≤ 6)
theorem zr_nin {D : Nat} {x : Int32} (hD : D ≤ 5) (hx : x < 0 ∨ nI D ≤ x) {q : Nat} (hq : q < D) : ¬ x = nI q := by
  intro z
  subst z
  rcases hx with h | h
  · exact nI_pos (by omega) h
  · exact nI_ge hq (by omega) h
theorem xw_tgt {post : Int32 → Prop} {D : Nat} {oc rs st ot ac mr : Int32} {pc ln op ra rb rc rn ko pr ap rr rg lv : Nat → Int32} {p o b : Nat} {x : Int32} (hok : fx_ok D pc ln op ra rb rc rn) (hp : p < D) (ho : o ≤ 7) (hb : b < 8) (hT : zr_tgt D pc ln p o b x → post 1) (hF : ¬ zr_tgt D pc ln p o b x → post 0) : wpX_targetFits post (nI D, oc, rs, st, ot, ac, mr, pc, ln, op, ra, rb, rc, rn, ko, pr, ap, rr, rg, lv) (nI p) (nI o) (nI b) x := by
  have hD := hok.1
  have ip : vp_in (nI p) 5 := vp_in_nI (by omega) (by omega)
  have cp : (nI p).toNatClampNeg = p := nI_clamp (by omega)
  unfold wpX_targetFits
  rw [cp]
  by_cases h4 : o = 4
  · subst h4
    refine br_t rfl ⟨ip, ?_⟩
    by_cases h1 : x ≤ ln p
    · exact br_t h1 (hF fun z => Int32.not_lt.mpr h1 (z.1 rfl).1)
    · refine br_f h1 ?_
      by_cases h2 : 8 < x
      · exact br_t h2 (hF fun z => Int32.not_lt.mpr (z.1 rfl).2 h2)
      · exact br_f h2 (hT ⟨fun _ => ⟨Int32.not_le.mp h1, Int32.not_lt.mp h2⟩, fun z => absurd z (by decide)⟩)
  · refine br_f (zr_o (n := 4) ho (by omega) h4) ?_
    by_cases h5 : o = 5
    · subst h5
      refine br_t rfl ?_
      rcases zr_ix x hD with hx | ⟨q, hq, rfl⟩
      · refine xw_dec_f hx ?_
        exact br_t rfl (hF fun z => by
          obtain ⟨q, hq, e, _⟩ := z.2 rfl
          exact zr_nin hD hx hq e)
      · refine xw_dec_t hD hq ?_
        have cq : (nI q).toNatClampNeg = q := nI_clamp (by omega)
        have hpc := (hok.2.1 q hq).1
        have hpc2 := hpc.2
        rw [cq, fx_addn _ hpc]
        refine br_f (by decide) ⟨vp_in_nI (by omega) (by omega), ?_⟩
        refine pk_lt 6 (b + (pc q).toNatClampNeg) (fun z => hF fun y => ?_) (fun z => hT ⟨fun y => absurd y (by decide), fun _ => ⟨q, hq, rfl, z⟩⟩)
        obtain ⟨q', hq', e, y'⟩ := y.2 rfl
        have : q = q' := (nI_eq (by omega) (by omega)).mp e
        subst this
        omega
    · exact br_f (zr_o (n := 5) ho (by omega) h5) (hT ⟨fun z => absurd z h4, fun z => absurd z h5⟩)
theorem yw_73 {post : Int32 → Prop} {D : Nat} {oc rs st ot ac : Int32} {pc ln op ra rb rc rn ko pr po rg ly wa : Nat → Int32} {p o b : Nat} {x : Int32} (hok : fx_ok D pc ln op ra rb rc rn) (hp : p < D) (ho : o ≤ 7) (hb : b < 8) (hT : zr_tgt D pc ln p o b x → post 0) (hF : ¬ zr_tgt D pc ln p o b x → post 1) : wY_bad_73 post (nI p) (nI o) x (nI b) (nI D) oc rs st ot ac pc ln op ra rb rc rn ko pr po rg ly wa := by
  have hD := hok.1
  have ip : vp_in (nI p) 5 := vp_in_nI (by omega) (by omega)
  have cp : (nI p).toNatClampNeg = p := nI_clamp (by omega)
  unfold wY_bad_73
  rw [cp]
  by_cases h4 : o = 4
  · subst h4
    refine br_t rfl ⟨ip, ?_⟩
    by_cases h1 : x ≤ ln p
    · exact br_t h1 (hF fun z => Int32.not_lt.mpr h1 (z.1 rfl).1)
    · refine br_f h1 ?_
      by_cases h2 : x ≤ 8
      · exact br_t h2 (hT ⟨fun _ => ⟨Int32.not_le.mp h1, h2⟩, fun z => absurd z (by decide)⟩)
      · exact br_f h2 (hF fun z => h2 (z.1 rfl).2)
  · refine br_f (zr_o (n := 4) ho (by omega) h4) ?_
    by_cases h5 : o = 5
    · subst h5
      refine br_t rfl ?_
      rcases zr_ix x hD with hx | ⟨q, hq, rfl⟩
      · refine yw_dec_f hx ?_
        exact br_t rfl (hF fun z => by
          obtain ⟨q, hq, e, _⟩ := z.2 rfl
          exact zr_nin hD hx hq e)
      · refine yw_dec_t hD hq ?_
        have cq : (nI q).toNatClampNeg = q := nI_clamp (by omega)
        have hpc := (hok.2.1 q hq).1
        have hpc2 := hpc.2
        rw [cq, fx_addn _ hpc]
        refine br_f (by decide) ⟨vp_in_nI (by omega) (by omega), ?_⟩
        refine pk_le (b + (pc q).toNatClampNeg) 6 (fun z => hT ⟨fun y => absurd y (by decide), fun _ => ⟨q, hq, rfl, z⟩⟩) (fun z => hF fun y => ?_)
        obtain ⟨q', hq', e, y'⟩ := y.2 rfl
        have : q = q' := (nI_eq (by omega) (by omega)).mp e
        subst this
        omega
    · exact br_f (zr_o (n := 5) ho (by omega) h5) (hT ⟨fun z => absurd z h4, fun z => absurd z h5⟩)
theorem zr_a {m : Nat} (hm : m ≤ 511) : nI m &&& 7 = nI (m % 8) := pk_andN (by omega) 3 (by decide)
theorem zr_s3 {m : Nat} (hm : m ≤ 511) : nI m >>> ((3 : Int32) &&& 31) = nI (m / 8) := pk_shrN (by omega) _ 3 (by decide)
theorem zr_b {m : Nat} (hm : m ≤ 511) : (nI m >>> ((3 : Int32) &&& 31)) &&& 7 = nI (m / 8 % 8) := by
  rw [zr_s3 hm]
  exact pk_andN (by omega) 3 (by decide)
theorem zr_c {m : Nat} (hm : m ≤ 511) : nI m >>> ((6 : Int32) &&& 31) = nI (m / 64) := pk_shrN (by omega) _ 6 (by decide)
theorem yw_bad {post : Int32 → Prop} {D : Nat} {oc rs st ot ac : Int32} {pc ln op ra rb rc rn ko pr po rg ly wa : Nat → Int32} {p o m : Nat} {x : Int32} (hok : fx_ok D pc ln op ra rb rc rn) (hp : p < D) (ho : o ≤ 7) (hm : m ≤ 511) (hT : zr_fit o (m % 8) (m / 8 % 8) (m / 64) → zr_tgt D pc ln p o (m / 8 % 8) x → post 0) (hF : ¬ (zr_fit o (m % 8) (m / 8 % 8) (m / 64) ∧ zr_tgt D pc ln p o (m / 8 % 8) x) → post 1) : wpY_bad post (nI D, oc, rs, st, ot, ac, pc, ln, op, ra, rb, rc, rn, ko, pr, po, rg, ly, wa) (nI p) (nI o) (nI m) x := by
  have hD := hok.1
  unfold wpY_bad
  refine yw_dec_t hD hp ?_
  refine br_f (by decide) (br_f (nI_pos (by omega)) (br_f (nI_nlt (a := 7) (by omega) (by decide)) (br_f (nI_pos (by omega)) (br_t (nI_le (b := 511) (by omega) (by decide)) ?_))))
  refine nm_r (zr_b hm) ?_
  rw [zr_a hm, zr_c hm]
  by_cases h1 : m % 8 ≤ 5
  · refine br_f (nI_nlt (a := 5) (by omega) (by decide)) ?_
    have h73 : zr_fit o (m % 8) (m / 8 % 8) (m / 64) → wY_bad_73 post (nI p) (nI o) x (nI (m / 8 % 8)) (nI D) oc rs st ot ac pc ln op ra rb rc rn ko pr po rg ly wa := fun hf => yw_73 hok hp ho (by omega) (hT hf) (fun z => hF fun y => z y.2)
    refine pk_lt o 1 (fun h2 => h73 ⟨h1, fun z => by omega⟩) (fun h2 => ?_)
    refine pk_lt 3 o (fun h3 => h73 ⟨h1, fun z => by omega⟩) (fun h3 => ?_)
    refine pk_lt 5 (m / 8 % 8) (fun h4 => hF fun z => ?_) (fun h4 => ?_)
    · have := z.1.2 ⟨h2, h3⟩
      omega
    · refine pk_le (m / 64) 5 (fun h5 => h73 ⟨h1, fun _ => ⟨h4, h5⟩⟩) (fun h5 => hF fun z => ?_)
      have := z.1.2 ⟨h2, h3⟩
      omega
  · exact br_t (nI_lt (a := 5) (by omega) (by omega)) (hF fun z => h1 z.1.1)
theorem zr_ok_emit {D p l o a b c : Nat} {x : Int32} {pc ln op ra rb rc rn : Nat → Int32} (h : fx_ok D pc ln op ra rb rc rn) (hp : p < D) (hl : l = (ln p).toNatClampNeg) (hl8 : l < 8) (ho : o ≤ 7) (ha : a ≤ 5) (hb : b ≤ 7) (hc : c ≤ 7) (h13 : 1 ≤ o ∧ o ≤ 3 → b ≤ 5 ∧ c ≤ 5) (h4 : o = 4 → ∃ n, x = nI n ∧ l < n ∧ n ≤ 8) (h5 : o = 5 → ∃ q, q < D ∧ x = nI q ∧ b + (pc q).toNatClampNeg ≤ 6) : fx_ok D pc (upd ln p (nI (l + 1))) (upd op (8 * p + l) (nI o)) (upd ra (8 * p + l) (nI a)) (upd rb (8 * p + l) (nI b)) (upd rc (8 * p + l) (nI c)) (upd rn (8 * p + l) x) := by
  obtain ⟨h1, h2, h3⟩ := h
  refine ⟨h1, fun p' hp' => ⟨(h2 p' hp').1, ?_⟩, fun p' hp' k' hk' => ?_⟩
  · by_cases e : p' = p
    · subst e
      rw [pk_us]
      exact fx_nn_nI (by omega) (by omega)
    · rw [pk_un e]; exact (h2 p' hp').2
  · have hk8 : k' < 8 := by
      by_cases e : p' = p
      · subst e
        rw [pk_us, nI_clamp (by omega)] at hk'
        omega
      · rw [pk_un e] at hk'
        have := (h2 p' hp').2.2
        omega
    by_cases e : p' = p ∧ k' = l
    · obtain ⟨rfl, rfl⟩ := e
      unfold fx_cell
      rw [pk_us, pk_us, pk_us, pk_us, pk_us]
      refine ⟨fx_nn_nI ho (by omega), fx_nn_nI ha (by omega), fx_nn_nI hb (by omega), fx_nn_nI hc (by omega), fun z => ?_, fun z => ?_, fun z => ?_⟩
      · rw [nI_clamp (by omega), nI_clamp (by omega)]
        refine h13 ?_
        rcases z with z | z | z
        · have := (nI_eq (a := o) (b := 1) (by omega) (by decide)).mp z
          omega
        · have := (nI_eq (a := o) (b := 2) (by omega) (by decide)).mp z
          omega
        · have := (nI_eq (a := o) (b := 3) (by omega) (by decide)).mp z
          omega
      · obtain ⟨n, rfl, q1, q2⟩ := h4 ((nI_eq (a := o) (b := 4) (by omega) (by decide)).mp z)
        rw [nI_clamp (by omega)]
        exact ⟨fx_nn_nI q2 (by omega), q1⟩
      · obtain ⟨q, hq, rfl, q1⟩ := h5 ((nI_eq (a := o) (b := 5) (by omega) (by decide)).mp z)
        rw [nI_clamp (by omega), nI_clamp (by omega)]
        exact ⟨fx_nn_nI (by omega) (by omega), hq, q1⟩
    · have hk0 : k' < (ln p').toNatClampNeg := by
        by_cases e' : p' = p
        · subst e'
          rw [pk_us, nI_clamp (by omega)] at hk'
          have : k' ≠ l := fun z => e ⟨rfl, z⟩
          omega
        · rw [pk_un e'] at hk'
          exact hk'
      have hne : 8 * p' + k' ≠ 8 * p + l := by omega
      have := h3 p' hp' k' hk0
      unfold fx_cell at this ⊢
      rw [pk_un hne, pk_un hne, pk_un hne, pk_un hne, pk_un hne]
      exact this
theorem i_vc_emit {k : Nat} {u : SX} {v : SY} (I : i_Rel k u v) (hk : k + 5 ≤ 2560) (v1 : Int32) (v2 : Int32) (v3 : Int32) (v4 : Int32) : wpX_emit (fun r u' => wpY_emit (fun r' v' => r' = r ∧ i_Rel (k + 5) u' v') v v1 v2 v3 v4) u v1 v2 v3 v4 := by
  obtain ⟨D, oc, rs, st, ot, ac, mr, pc, ln, op, ra, rb, rc, rn, ko, pr, ap, rr, rg, lv, po, ly, wa, rfl, rfl, hok⟩ := I
  have hD := hok.1
  unfold wpX_emit
  rcases zr_ix v1 hD with hx | ⟨p, hp, rfl⟩
  · refine xw_dec_f hx ?_
    refine br_t rfl ?_
    unfold wpY_emit wpY_bad
    refine yw_dec_f hx ?_
    exact br_t rfl (br_f (by decide) ⟨rfl, zr_mk _ hok⟩)
  · refine xw_dec_t hD hp ?_
    refine br_f (by decide) ?_
    have hbad : ∀ (hb : v2 < 0 ∨ 7 < v2 ∨ v3 < 0 ∨ ¬ v3 ≤ 511), wpY_emit (fun r' v' => r' = -1 ∧ i_Rel (k + 5) (nI D, oc, rs, st, ot, ac, mr, pc, ln, op, ra, rb, rc, rn, ko, pr, ap, rr, rg, lv) v') (nI D, oc, rs, st, ot, ac, pc, ln, op, ra, rb, rc, rn, ko, pr, po, rg, ly, wa) (nI p) v2 v3 v4 := by
      intro hb
      unfold wpY_emit wpY_bad
      refine yw_dec_t hD hp ?_
      refine br_f (by decide) (br_c (fun _ => br_f (by decide) ⟨rfl, zr_mk _ hok⟩) fun g1 => br_c (fun _ => br_f (by decide) ⟨rfl, zr_mk _ hok⟩) fun g2 => br_c (fun _ => br_f (by decide) ⟨rfl, zr_mk _ hok⟩) fun g3 => br_f ?_ (br_f (by decide) ⟨rfl, zr_mk _ hok⟩))
      rcases hb with z | z | z | z
      · exact absurd z g1
      · exact absurd z g2
      · exact absurd z g3
      · exact z
    by_cases g1 : v2 < 0
    · exact br_t g1 (hbad (.inl g1))
    · refine br_f g1 ?_
      by_cases g2 : 7 < v2
      · exact br_t g2 (hbad (.inr (.inl g2)))
      · refine br_f g2 ?_
        by_cases g3 : v3 < 0
        · exact br_t g3 (hbad (.inr (.inr (.inl g3))))
        · refine br_f g3 ?_
          by_cases g4 : v3 ≤ 511
          · refine br_t g4 ?_
            clear hbad
            obtain ⟨o, ho, rfl⟩ := nI_of2 (M := 7) (n := 7) (by decide) g1 (Int32.not_lt.mp g2)
            obtain ⟨m, hm, rfl⟩ := nI_of2 (M := 511) (n := 511) (by decide) g3 g4
            refine nm_r (zr_a hm) (nm_r (zr_b hm) (nm_r (zr_c hm) ?_))
            have hneg : ¬ (zr_fit o (m % 8) (m / 8 % 8) (m / 64) ∧ zr_tgt D pc ln p o (m / 8 % 8) v4) → wpY_emit (fun r' v' => r' = -1 ∧ i_Rel (k + 5) (nI D, oc, rs, st, ot, ac, mr, pc, ln, op, ra, rb, rc, rn, ko, pr, ap, rr, rg, lv) v') (nI D, oc, rs, st, ot, ac, pc, ln, op, ra, rb, rc, rn, ko, pr, po, rg, ly, wa) (nI p) (nI o) (nI m) v4 := by
              intro hn
              unfold wpY_emit
              refine yw_bad hok hp ho hm (fun z y => absurd ⟨z, y⟩ hn) (fun _ => ?_)
              exact br_f (by decide) ⟨rfl, zr_mk _ hok⟩
            refine xw_fit ho (by omega) (by omega) (by omega) (fun hf => ?_) (fun hf => br_t rfl (hneg fun z => hf z.1))
            refine br_f (by decide) ?_
            refine xw_tgt hok hp ho (by omega) (fun ht => ?_) (fun ht => br_t rfl (hneg fun z => ht z.2))
            clear hneg
            have ip : vp_in (nI p) 5 := vp_in_nI (by omega) (by omega)
            have cp : (nI p).toNatClampNeg = p := nI_clamp (by omega)
            have hl := (hok.2.1 p hp).2
            have hl2 := hl.2
            refine br_f (by decide) ⟨ip, nm_r (e' := nI (ln p).toNatClampNeg) (by rw [cp]; exact hl.1) ?_⟩
            have hY : ∀ (post : Int32 → SY → Prop), (nI (ln p).toNatClampNeg < 8 → post (nI (ln p).toNatClampNeg) (nI D, 0, 0, 0, 0, ac, pc, upd ln p (nI ((ln p).toNatClampNeg + 1)), upd op (8 * p + (ln p).toNatClampNeg) (nI o), upd ra (8 * p + (ln p).toNatClampNeg) (nI (m % 8)), upd rb (8 * p + (ln p).toNatClampNeg) (nI (m / 8 % 8)), upd rc (8 * p + (ln p).toNatClampNeg) (nI (m / 64)), upd rn (8 * p + (ln p).toNatClampNeg) v4, ko, pr, po, rg, ly, wa)) → (¬ nI (ln p).toNatClampNeg < 8 → post (-2) (nI D, oc, rs, st, ot, ac, pc, ln, op, ra, rb, rc, rn, ko, pr, po, rg, ly, wa)) → wpY_emit post (nI D, oc, rs, st, ot, ac, pc, ln, op, ra, rb, rc, rn, ko, pr, po, rg, ly, wa) (nI p) (nI o) (nI m) v4 := by
              intro post h1 h2
              unfold wpY_emit
              refine yw_bad hok hp ho hm (fun _ _ => ?_) (fun z => absurd ⟨hf, ht⟩ z)
              rw [zr_b hm, zr_a hm, zr_c hm, cp]
              have e : ln p = nI (ln p).toNatClampNeg := hl.1
              refine br_t rfl ⟨ip, ?_⟩
              by_cases hq : nI (ln p).toNatClampNeg < 8
              · have hq' : (ln p).toNatClampNeg < 8 := (nI_ltI (b := 8) (by omega) (by decide)).mp hq
                have i8 : vp_in (nI (8 * p + (ln p).toNatClampNeg)) 40 := vp_in_nI (by omega) (by omega)
                have c8 : (nI (8 * p + (ln p).toNatClampNeg)).toNatClampNeg = 8 * p + (ln p).toNatClampNeg := nI_clamp (by omega)
                refine br_t (by rw [e]; exact hq) ⟨ip, nm_r (e' := nI (8 * p + (ln p).toNatClampNeg)) (by conv => lhs; rw [e]
                                                                                                          exact fx_j8 _ _) ?_⟩
                rw [c8]
                refine ⟨i8, nm_e ⟨i8, nm_e ⟨i8, nm_e ⟨i8, nm_e ⟨i8, nm_e ⟨ip, ip, nm_r (e' := upd ln p (nI ((ln p).toNatClampNeg + 1))) ?_ ⟨ip, ?_⟩⟩⟩⟩⟩⟩⟩
                · congr 1
                  conv => lhs; rw [e]
                  exact nI_1 _
                · rw [pk_us, nI_pred]
                  exact h1 hq
              · exact br_f (by rw [e]; exact hq) (h2 hq)
            by_cases hq : nI (ln p).toNatClampNeg < 8
            · have hq' : (ln p).toNatClampNeg < 8 := (nI_ltI (b := 8) (by omega) (by decide)).mp hq
              have i8 : vp_in (nI (8 * p + (ln p).toNatClampNeg)) 40 := vp_in_nI (by omega) (by omega)
              have c8 : (nI (8 * p + (ln p).toNatClampNeg)).toNatClampNeg = 8 * p + (ln p).toNatClampNeg := nI_clamp (by omega)
              refine br_t hq (nm_r (fx_i8 _ _) ?_)
              rw [c8, cp, nI_1]
              refine ⟨i8, nm_e ⟨i8, nm_e ⟨i8, nm_e ⟨i8, nm_e ⟨i8, nm_e ⟨ip, nm_e ?_⟩⟩⟩⟩⟩⟩
              unfold wpX_forgetRun
              dsimp only
              refine hY _ (fun _ => ⟨rfl, zr_mk _ ?_⟩) (fun z => absurd hq z)
              refine zr_ok_emit hok hp rfl hq' ho hf.1 (by omega) (by omega) hf.2 (fun z => ?_) (fun z => ht.2 z)
              obtain ⟨t1, t2⟩ := ht.1 z
              have t0 : ¬ v4 < 0 := fun y => by
                have y1 : (0 : Int32) ≤ ln p := by rw [hl.1]; exact nI_pos' (by omega)
                exact Int32.not_lt.mpr (Int32.le_of_lt t1) (Int32.lt_of_lt_of_le y y1)
              obtain ⟨n, hn, rfl⟩ := nI_of2 (M := 8) (n := 8) (by decide) t0 t2
              refine ⟨n, rfl, ?_, hn⟩
              rw [hl.1] at t1
              exact (nI_ltI (by omega) (by omega)).mp t1
            · exact br_f hq (hY _ (fun z => absurd z hq) (fun _ => ⟨rfl, zr_mk _ hok⟩))
          · exact br_f g4 (hbad (.inr (.inr (.inr g4))))
