section
/-! rows pasted from kit/rows -/
theorem pk_us {f : Nat → Int32} {k : Nat} {x : Int32} : upd f k x k = x := if_pos rfl
theorem pk_un {f : Nat → Int32} {k j : Nat} {x : Int32} (h : j ≠ k) : upd f k x j = f j := if_neg h
theorem pk_sub {a b : Nat} (h : b ≤ a) : nI a - nI b = nI (a - b) := by
  obtain ⟨c, rfl⟩ : ∃ c, a = c + b := ⟨a - b, by omega⟩
  rw [← nI_add, Int32.add_sub_cancel, Nat.add_sub_cancel]
theorem pk_m1 (n : Nat) : nI (n + 1) + (-1) = nI n := by
  rw [← nI_1, Int32.add_assoc, show (1 : Int32) + (-1) = 0 from rfl, Int32.add_zero]
theorem pk_mul (a b : Nat) : nI a * nI b = nI (a * b) := (Int32.ofNat_mul a b).symm
theorem pk_div {a d : Nat} (ha : a < 2 ^ 31) (h0 : 0 < d) (hd : d < 2 ^ 31) : nI a / nI d = nI (a / d) := by
  apply Int32.toInt_inj.mp
  rw [lg_idiv_nonneg (by rw [nI_toInt ha]; omega) (by rw [nI_toInt hd]; omega), nI_toInt ha, nI_toInt hd, nI_toInt (Nat.lt_of_le_of_lt (Nat.div_le_self a d) ha)]
  first | rfl | exact (Int.natCast_ediv _ _).symm
theorem pk_rem {a d : Nat} (ha : a < 2 ^ 31) (h0 : 0 < d) (hd : d < 2 ^ 31) : nI a - nI a / nI d * nI d = nI (a % d) := by
  rw [pk_div ha h0 hd, pk_mul, pk_sub (Nat.div_mul_le_self a d)]
  exact congrArg nI (by have := Nat.div_add_mod' a d; omega)
theorem pk_ix (x : Int32) {n : Nat} (hn : n < 2 ^ 31) : x < 0 ∨ nI n ≤ x ∨ ∃ j : Nat, j < n ∧ x = nI j := by
  by_cases h : x < 0
  · exact Or.inl h
  · obtain ⟨j, hj, rfl⟩ := nI_of h
    by_cases h2 : j < n
    · exact Or.inr (Or.inr ⟨j, h2, rfl⟩)
    · exact Or.inr (Or.inl (nI_le (by omega) hj))
theorem pk_le {x y : Int32} {A B : Prop} (a b : Nat) (f : a ≤ b → A) (g : b < a → B) (hx : x = nI a := by rfl) (hy : y = nI b := by rfl) (ha : a < 2 ^ 31 := by omega) (hb : b < 2 ^ 31 := by omega) : (x ≤ y → A) ∧ (¬ x ≤ y → B) := by
  subst hx hy
  rw [nI_leI ha hb]
  exact ⟨f, fun z => g (by omega)⟩
theorem pk_lt {x y : Int32} {A B : Prop} (a b : Nat) (f : a < b → A) (g : b ≤ a → B) (hx : x = nI a := by rfl) (hy : y = nI b := by rfl) (ha : a < 2 ^ 31 := by omega) (hb : b < 2 ^ 31 := by omega) : (x < y → A) ∧ (¬ x < y → B) := by
  subst hx hy
  rw [nI_ltI ha hb]
  exact ⟨f, fun z => g (by omega)⟩
theorem pk_eq {x y : Int32} {A B : Prop} (a b : Nat) (f : a = b → A) (g : a ≠ b → B) (hx : x = nI a := by rfl) (hy : y = nI b := by rfl) (ha : a < 2 ^ 31 := by omega) (hb : b < 2 ^ 31 := by omega) : (x = y → A) ∧ (¬ x = y → B) := by
  subst hx hy
  rw [nI_eq ha hb]
  exact ⟨f, g⟩
theorem pk_in {x : Int32} (n N : Nat) (h : n < N) (hx : x = nI n := by rfl) (hN : N < 2 ^ 31 := by omega) : vp_in x N := by
  subst hx
  exact vp_in_nI h hN
theorem pk_cl {x : Int32} (n : Nat) (hx : x = nI n := by rfl) (h : n < 2 ^ 31 := by omega) : x.toNatClampNeg = n := by
  subst hx
  exact nI_clamp h
theorem pk_tn {n : Nat} (h : n < 2 ^ 32) : (nI n).toBitVec.toNat = n := Nat.mod_eq_of_lt h
theorem pk_and (x : Int32) {m : Int32} (k : Nat) (hm : m.toBitVec.toNat = 2 ^ k - 1) : x &&& m = nI (x.toBitVec.toNat % 2 ^ k) := by
  apply Int32.toBitVec_inj.mp
  apply BitVec.eq_of_toNat_eq
  rw [Int32.toBitVec_and, BitVec.toNat_and, hm, Nat.and_two_pow_sub_one_eq_mod]
  show _ = (BitVec.ofNat 32 _).toNat
  rw [BitVec.toNat_ofNat]
  exact (Nat.mod_eq_of_lt (Nat.lt_of_le_of_lt (Nat.mod_le _ _) x.toBitVec.isLt)).symm
theorem pk_andN {n : Nat} (h : n < 2 ^ 32) {m : Int32} (k : Nat) (hm : m.toBitVec.toNat = 2 ^ k - 1) : nI n &&& m = nI (n % 2 ^ k) := by
  rw [pk_and _ k hm, pk_tn h]
theorem pk_andE (x : Int32) {m : Int32} (k : Nat) (hm : m.toBitVec.toNat = 2 ^ k - 1) : ∃ j : Nat, j < 2 ^ k ∧ x &&& m = nI j := ⟨_, Nat.mod_lt _ (Nat.two_pow_pos k), pk_and x k hm⟩
theorem pk_shr (a s : Int32) (k : Nat) (hs : (s.toBitVec.smod 32).toNat = k) : (a >>> s).toInt = a.toInt >>> k := by
  show (a.toBitVec.sshiftRight (s.toBitVec.smod 32).toNat).toInt = _
  rw [hs, BitVec.toInt_sshiftRight]
  rfl
theorem pk_shrN {n : Nat} (h : n < 2 ^ 31) (s : Int32) (k : Nat) (hs : (s.toBitVec.smod 32).toNat = k) : nI n >>> s = nI (n / 2 ^ k) := by
  apply Int32.toInt_inj.mp
  have h2 : n / 2 ^ k ≤ n := Nat.div_le_self _ _
  rw [pk_shr _ _ k hs, nI_toInt h, nI_toInt (by omega), Int.shiftRight_eq_div_pow]
  rfl
def bt (x : Int32) (i : Nat) : Bool := x.toBitVec.getLsbD i
theorem b_ext {x y : Int32} (h : ∀ i, i < 32 → bt x i = bt y i) : x = y := Int32.toBitVec_inj.mp (BitVec.eq_of_getLsbD_eq (fun i hi => h i hi))
theorem b_or (x y : Int32) (i : Nat) : bt (x ||| y) i = (bt x i || bt y i) := by unfold bt; rw [Int32.toBitVec_or, BitVec.getLsbD_or]
theorem b_and (x y : Int32) (i : Nat) : bt (x &&& y) i = (bt x i && bt y i) := by unfold bt; rw [Int32.toBitVec_and, BitVec.getLsbD_and]
theorem b_xor (x y : Int32) (i : Nat) : bt (x ^^^ y) i = (bt x i ^^ bt y i) := by unfold bt; rw [Int32.toBitVec_xor, BitVec.getLsbD_xor]
theorem b_big {x : Int32} {i : Nat} (h : 32 ≤ i) : bt x i = false := BitVec.getLsbD_of_ge _ _ h
theorem b_m1 : ∀ i, i < 32 → bt (-1) i = true := by decide +kernel
theorem b_0 (i : Nat) : bt 0 i = false := BitVec.getLsbD_zero
theorem s_l : ∀ n, n < 32 → ((nI n &&& 31).toBitVec.smod 32).toNat = n := by decide +kernel
theorem b_shl (n : Nat) (hn : n < 32) (x : Int32) {i : Nat} (hi : i < 32) : bt (x <<< (nI n &&& 31)) i = (decide (n ≤ i) && bt x (i - n)) := by
  unfold bt
  rw [Int32.toBitVec_shiftLeft]
  show (x.toBitVec <<< ((nI n &&& 31).toBitVec.smod 32).toNat).getLsbD i = _
  rw [s_l n hn, BitVec.getLsbD_shiftLeft]
  rcases Nat.lt_or_ge i n with h | h
  · simp [h, Nat.not_le.mpr h]
  · simp [hi, h, Nat.not_lt.mpr h]
theorem b_sshr (n : Nat) (hn : n < 32) (x : Int32) {i : Nat} (hi : i < 32) : bt (x >>> (nI n &&& 31)) i = if n + i < 32 then bt x (n + i) else bt x 31 := by
  unfold bt
  rw [Int32.toBitVec_shiftRight]
  show (x.toBitVec.sshiftRight ((nI n &&& 31).toBitVec.smod 32).toNat).getLsbD i = _
  rw [s_l n hn, BitVec.getLsbD_sshiftRight, BitVec.msb_eq_getLsbD_last]
  simp [hi]
end
section
/-! counting -/
def fx_cnt (f : Nat → Bool) : Nat → Nat
  | 0 => 0
  | n + 1 => fx_cnt f n + (f n).toNat
theorem fx_cnt_le (f : Nat → Bool) : ∀ n, fx_cnt f n ≤ n
  | 0 => Nat.le_refl 0
  | n + 1 => Nat.add_le_add (fx_cnt_le f n) (Bool.toNat_le (f n))
theorem fx_cnt_mono {f g : Nat → Bool} : ∀ n, (∀ i, i < n → f i = true → g i = true) → fx_cnt f n ≤ fx_cnt g n ∧ (fx_cnt f n = fx_cnt g n → ∀ i, i < n → f i = g i) := by
  intro n
  induction n with
  | zero => intro _; exact ⟨Nat.le_refl _, fun _ i hi => absurd hi (by omega)⟩
  | succ n ih =>
    intro h
    obtain ⟨h1, h2⟩ := ih (fun i hi => h i (by omega))
    have hn := h n (by omega)
    have e1 : fx_cnt f (n + 1) = fx_cnt f n + (f n).toNat := rfl
    have e2 : fx_cnt g (n + 1) = fx_cnt g n + (g n).toNat := rfl
    cases hf : f n
    · cases hg : g n
      · rw [hf] at e1; rw [hg] at e2
        simp only [Bool.toNat_false] at e1 e2
        refine ⟨by omega, fun e i hi => ?_⟩
        rcases Nat.lt_or_ge i n with h3 | h3
        · exact h2 (by omega) i h3
        · have : i = n := by omega
          rw [this, hf, hg]
      · rw [hf] at e1; rw [hg] at e2
        simp only [Bool.toNat_false, Bool.toNat_true] at e1 e2
        exact ⟨by omega, fun e => by omega⟩
    · have hg := hn hf
      rw [hf] at e1; rw [hg] at e2
      simp only [Bool.toNat_true] at e1 e2
      refine ⟨by omega, fun e i hi => ?_⟩
      rcases Nat.lt_or_ge i n with h3 | h3
      · exact h2 (by omega) i h3
      · have : i = n := by omega
        rw [this, hf, hg]
theorem fx_cnt_lt {f g : Nat → Bool} {n : Nat} (h : ∀ i, i < n → f i = true → g i = true) {i : Nat} (hi : i < n) (h0 : f i = false) (h1 : g i = true) : fx_cnt f n < fx_cnt g n := by
  obtain ⟨a, b⟩ := fx_cnt_mono n h
  rcases Nat.lt_or_ge (fx_cnt f n) (fx_cnt g n) with c | c
  · exact c
  · have := b (by omega) i hi
    rw [h0, h1] at this
    exact absurd this (by decide)
theorem fx_cnt_pos {f : Nat → Bool} {n i : Nat} (hi : i < n) (h : f i = true) : 1 ≤ fx_cnt f n := by
  have h0 : fx_cnt (fun _ => false) n < fx_cnt f n := fx_cnt_lt (fun _ _ z => absurd z (by decide)) hi rfl h
  omega
/-! numbers and single bits -/
def fx_nn (x : Int32) (b : Nat) : Prop := x = nI x.toNatClampNeg ∧ x.toNatClampNeg ≤ b
theorem fx_nn_nI {n b : Nat} (h : n ≤ b) (hb : b < 2 ^ 31) : fx_nn (nI n) b := by
  unfold fx_nn
  rw [nI_clamp (by omega)]
  exact ⟨rfl, h⟩
theorem fx_one {n : Nat} (hn : n < 8) (j : Nat) : bt ((1 : Int32) <<< (nI n &&& 31)) j = decide (j = n) := by
  rcases Nat.lt_or_ge j 32 with h | h
  · exact (by decide +kernel : ∀ n, n < 8 → ∀ j, j < 32 → bt ((1 : Int32) <<< (nI n &&& 31)) j = decide (j = n)) n hn j h
  · rw [b_big h, decide_eq_false (by omega)]
theorem fx_mask {n : Nat} (hn : n < 4) (j : Nat) : bt (((1 : Int32) <<< (nI n &&& 31)) - 1) j = decide (j < n) := by
  rcases Nat.lt_or_ge j 32 with h | h
  · exact (by decide +kernel : ∀ n, n < 4 → ∀ j, j < 32 → bt (((1 : Int32) <<< (nI n &&& 31)) - 1) j = decide (j < n)) n hn j h
  · rw [b_big h, decide_eq_false (by omega)]
theorem fx_b1 (j : Nat) : bt 1 j = decide (j = 0) := by
  rcases Nat.lt_or_ge j 32 with h | h
  · exact (by decide +kernel : ∀ j, j < 32 → bt 1 j = decide (j = 0)) j h
  · rw [b_big h, decide_eq_false (by omega)]
theorem fx_lt {x : Int32} {j : Nat} (h : bt x j = true) : j < 32 := by
  rcases Nat.lt_or_ge j 32 with h1 | h1
  · exact h1
  · rw [b_big h1] at h; exact absurd h (by decide)
theorem fx_and0 {n : Nat} (hn : n < 8) (x : Int32) : (x &&& ((1 : Int32) <<< (nI n &&& 31))) = 0 ↔ ¬ bt x n = true := by
  constructor
  · intro h z
    have e : bt (x &&& ((1 : Int32) <<< (nI n &&& 31))) n = bt 0 n := by rw [h]
    rw [b_and, fx_one hn, z, b_0] at e
    simp at e
  · intro h
    apply b_ext
    intro i _
    rw [b_and, fx_one hn, b_0]
    by_cases e : i = n
    · subst e
      cases hb : bt x i
      · rfl
      · exact absurd hb h
    · simp [e]
theorem fx_hb {n : Nat} (hn : n < 32) (x : Int32) : ((x >>> (nI n &&& 31)) &&& 1) = 1 ↔ bt x n = true := by
  have e0 : bt ((x >>> (nI n &&& 31)) &&& 1) 0 = bt x n := by
    rw [b_and, b_sshr n hn x (by omega), fx_b1]
    simp [hn]
  constructor
  · intro h
    rw [← e0, h]
    decide +kernel
  · intro h
    apply b_ext
    intro i hi
    by_cases e : i = 0
    · subst e
      rw [e0, h]
      decide +kernel
    · rw [b_and, fx_b1, decide_eq_false e, Bool.and_false]
theorem fx_xm (x : Int32) (j : Nat) (hj : j < 32) : bt (x ^^^ (-1)) j = !(bt x j) := by
  rw [b_xor, b_m1 j hj, Bool.xor_true]
/-! the two sets of an instruction, as numbers and as bits -/
def fx_af (op rn L : Nat → Int32) (p k : Nat) : Int32 :=
  if op (8 * p + k) = 7 then 0 else if op (8 * p + k) = 4 then L (9 * p + k + 1) ||| L (9 * p + (rn (8 * p + k)).toNatClampNeg) else L (9 * p + k + 1)
def fx_ap (op rn L : Nat → Int32) (p k j : Nat) : Prop :=
  ¬ op (8 * p + k) = 7 ∧ (bt (L (9 * p + k + 1)) j = true ∨ (op (8 * p + k) = 4 ∧ bt (L (9 * p + (rn (8 * p + k)).toNatClampNeg)) j = true))
theorem fx_af_bit (op rn L : Nat → Int32) (p k j : Nat) : bt (fx_af op rn L p k) j = true ↔ fx_ap op rn L p k j := by
  unfold fx_af fx_ap
  by_cases h7 : op (8 * p + k) = 7
  · rw [if_pos h7, b_0]
    exact ⟨fun z => absurd z (by decide), fun z => absurd h7 z.1⟩
  · rw [if_neg h7]
    by_cases h4 : op (8 * p + k) = 4
    · rw [if_pos h4, b_or, Bool.or_eq_true]
      exact ⟨fun z => ⟨h7, z.imp id fun y => ⟨h4, y⟩⟩, fun z => z.2.imp id fun y => y.2⟩
    · rw [if_neg h4]
      exact ⟨fun z => ⟨h7, .inl z⟩, fun z => z.2.elim id fun y => absurd y.1 h4⟩
def fx_bf (pc op ra rb rc rn L : Nat → Int32) (W : Nat → Bool) (p k : Nat) : Int32 :=
  if op (8 * p + k) = 4 then fx_af op rn L p k ||| ((1 : Int32) <<< (ra (8 * p + k) &&& 31))
  else if op (8 * p + k) = 6 then fx_af op rn L p k ||| ((1 : Int32) <<< (ra (8 * p + k) &&& 31))
  else if op (8 * p + k) = 7 then (if W p = true then (1 : Int32) <<< (ra (8 * p + k) &&& 31) else 0)
  else if op (8 * p + k) = 5 then (fx_af op rn L p k &&& (((1 : Int32) <<< (ra (8 * p + k) &&& 31)) ^^^ (-1))) ||| ((L (9 * (rn (8 * p + k)).toNatClampNeg) &&& (((1 : Int32) <<< (pc (rn (8 * p + k)).toNatClampNeg &&& 31)) - 1)) <<< (rb (8 * p + k) &&& 31))
  else if op (8 * p + k) = 0 then (fx_af op rn L p k &&& (((1 : Int32) <<< (ra (8 * p + k) &&& 31)) ^^^ (-1))) ||| 0
  else if (fx_af op rn L p k &&& ((1 : Int32) <<< (ra (8 * p + k) &&& 31))) = 0 then (fx_af op rn L p k &&& (((1 : Int32) <<< (ra (8 * p + k) &&& 31)) ^^^ (-1))) ||| 0
  else (fx_af op rn L p k &&& (((1 : Int32) <<< (ra (8 * p + k) &&& 31)) ^^^ (-1))) ||| (((1 : Int32) <<< (rb (8 * p + k) &&& 31)) ||| ((1 : Int32) <<< (rc (8 * p + k) &&& 31)))
def fx_bp (pc op ra rb rc rn L : Nat → Int32) (W : Nat → Bool) (p k j : Nat) : Prop :=
  ((op (8 * p + k) = 4 ∨ op (8 * p + k) = 6) ∧ (fx_ap op rn L p k j ∨ j = (ra (8 * p + k)).toNatClampNeg))
  ∨ (op (8 * p + k) = 7 ∧ W p = true ∧ j = (ra (8 * p + k)).toNatClampNeg)
  ∨ (op (8 * p + k) = 5 ∧ ((fx_ap op rn L p k j ∧ j ≠ (ra (8 * p + k)).toNatClampNeg) ∨ ((rb (8 * p + k)).toNatClampNeg ≤ j ∧ j - (rb (8 * p + k)).toNatClampNeg < (pc (rn (8 * p + k)).toNatClampNeg).toNatClampNeg ∧ bt (L (9 * (rn (8 * p + k)).toNatClampNeg)) (j - (rb (8 * p + k)).toNatClampNeg) = true)))
  ∨ (op (8 * p + k) = 0 ∧ fx_ap op rn L p k j ∧ j ≠ (ra (8 * p + k)).toNatClampNeg)
  ∨ ((op (8 * p + k) = 1 ∨ op (8 * p + k) = 2 ∨ op (8 * p + k) = 3) ∧ ((fx_ap op rn L p k j ∧ j ≠ (ra (8 * p + k)).toNatClampNeg) ∨ (fx_ap op rn L p k (ra (8 * p + k)).toNatClampNeg ∧ (j = (rb (8 * p + k)).toNatClampNeg ∨ j = (rc (8 * p + k)).toNatClampNeg))))
def fx_cell (D : Nat) (pc op ra rb rc rn : Nat → Int32) (p k : Nat) : Prop :=
  fx_nn (op (8 * p + k)) 7 ∧ fx_nn (ra (8 * p + k)) 5 ∧ fx_nn (rb (8 * p + k)) 7 ∧ fx_nn (rc (8 * p + k)) 7
  ∧ ((op (8 * p + k) = 1 ∨ op (8 * p + k) = 2 ∨ op (8 * p + k) = 3) → (rb (8 * p + k)).toNatClampNeg ≤ 5 ∧ (rc (8 * p + k)).toNatClampNeg ≤ 5)
  ∧ (op (8 * p + k) = 4 → fx_nn (rn (8 * p + k)) 8 ∧ k < (rn (8 * p + k)).toNatClampNeg)
  ∧ (op (8 * p + k) = 5 → fx_nn (rn (8 * p + k)) 4 ∧ (rn (8 * p + k)).toNatClampNeg < D ∧ (rb (8 * p + k)).toNatClampNeg + (pc (rn (8 * p + k)).toNatClampNeg).toNatClampNeg ≤ 6)
def fx_ok (D : Nat) (pc ln op ra rb rc rn : Nat → Int32) : Prop :=
  D ≤ 5 ∧ (∀ p, p < D → fx_nn (pc p) 3 ∧ fx_nn (ln p) 8) ∧ ∀ p, p < D → ∀ k, k < (ln p).toNatClampNeg → fx_cell D pc op ra rb rc rn p k
theorem fx_op {x : Int32} (h : fx_nn x 7) : x = 0 ∨ x = 1 ∨ x = 2 ∨ x = 3 ∨ x = 4 ∨ x = 5 ∨ x = 6 ∨ x = 7 := by
  obtain ⟨h1, h2⟩ := h
  generalize x.toNatClampNeg = n at h1 h2
  subst h1
  exact (by decide +kernel : ∀ n, n ≤ 7 → (nI n = 0 ∨ nI n = 1 ∨ nI n = 2 ∨ nI n = 3 ∨ nI n = 4 ∨ nI n = 5 ∨ nI n = 6 ∨ nI n = 7)) n h2
theorem fx_bf_bit {D : Nat} {pc ln op ra rb rc rn : Nat → Int32} (hok : fx_ok D pc ln op ra rb rc rn) (L : Nat → Int32) (W : Nat → Bool) {p k : Nat} (hp : p < D) (hk : k < (ln p).toNatClampNeg) (j : Nat) : bt (fx_bf pc op ra rb rc rn L W p k) j = true ↔ fx_bp pc op ra rb rc rn L W p k j := by
  obtain ⟨hD, hpl, hcs⟩ := hok
  obtain ⟨ho, ha, hb, hc, h13, h4, h5⟩ := hcs p hp k hk
  have hA : ∀ j, bt ((1 : Int32) <<< (ra (8 * p + k) &&& 31)) j = decide (j = (ra (8 * p + k)).toNatClampNeg) := by
    intro j
    conv => lhs; rw [ha.1]
    exact fx_one (by have := ha.2; omega) j
  have hB : ∀ j, bt ((1 : Int32) <<< (rb (8 * p + k) &&& 31)) j = decide (j = (rb (8 * p + k)).toNatClampNeg) := by
    intro j
    conv => lhs; rw [hb.1]
    exact fx_one (by have := hb.2; omega) j
  have hC : ∀ j, bt ((1 : Int32) <<< (rc (8 * p + k) &&& 31)) j = decide (j = (rc (8 * p + k)).toNatClampNeg) := by
    intro j
    conv => lhs; rw [hc.1]
    exact fx_one (by have := hc.2; omega) j
  have hX : ∀ j, bt (fx_af op rn L p k &&& (((1 : Int32) <<< (ra (8 * p + k) &&& 31)) ^^^ (-1))) j = true ↔ (fx_ap op rn L p k j ∧ j ≠ (ra (8 * p + k)).toNatClampNeg) := by
    intro j
    rw [b_and, Bool.and_eq_true, fx_af_bit]
    refine and_congr_right fun z => ?_
    have hj : j < 32 := fx_lt ((fx_af_bit op rn L p k j).mpr z)
    rw [fx_xm _ _ hj, hA]
    simp
  have hZ : (fx_af op rn L p k &&& ((1 : Int32) <<< (ra (8 * p + k) &&& 31))) = 0 ↔ ¬ fx_ap op rn L p k (ra (8 * p + k)).toNatClampNeg := by
    rw [← fx_af_bit]
    conv => lhs; rw [ha.1]
    exact fx_and0 (by have := ha.2; omega) _
  unfold fx_bf fx_bp
  rcases fx_op ho with e | e | e | e | e | e | e | e
  · rw [if_neg (by rw [e]; decide), if_neg (by rw [e]; decide), if_neg (by rw [e]; decide), if_neg (by rw [e]; decide), if_pos e, b_or, Bool.or_eq_true, hX, b_0]
    rw [e]
    constructor
    · rintro (z | z)
      · exact .inr (.inr (.inr (.inl ⟨rfl, z⟩)))
      · exact absurd z (by decide)
    · rintro (⟨z | z, _⟩ | ⟨z, _⟩ | ⟨z, _⟩ | ⟨_, z⟩ | ⟨z | z | z, _⟩)
      · exact absurd z (by decide)
      · exact absurd z (by decide)
      · exact absurd z (by decide)
      · exact absurd z (by decide)
      · exact .inl z
      · exact absurd z (by decide)
      · exact absurd z (by decide)
      · exact absurd z (by decide)
  iterate 3
    · rw [if_neg (by rw [e]; decide), if_neg (by rw [e]; decide), if_neg (by rw [e]; decide), if_neg (by rw [e]; decide), if_neg (by rw [e]; decide)]
      constructor
      · intro z
        by_cases hz : (fx_af op rn L p k &&& ((1 : Int32) <<< (ra (8 * p + k) &&& 31))) = 0
        · rw [if_pos hz, b_or, Bool.or_eq_true, hX, b_0] at z
          refine .inr (.inr (.inr (.inr ⟨by rw [e]; decide, .inl (z.elim id fun y => absurd y (by decide))⟩)))
        · rw [if_neg hz, b_or, Bool.or_eq_true, hX, b_or, Bool.or_eq_true, hB, hC, decide_eq_true_eq, decide_eq_true_eq] at z
          refine .inr (.inr (.inr (.inr ⟨by rw [e]; decide, z.imp id fun y => ⟨?_, y⟩⟩)))
          rw [hZ] at hz
          exact Classical.not_not.mp hz
      · rintro (⟨z | z, _⟩ | ⟨z, _⟩ | ⟨z, _⟩ | ⟨z, _⟩ | ⟨_, z⟩)
        · rw [e] at z; exact absurd z (by decide)
        · rw [e] at z; exact absurd z (by decide)
        · rw [e] at z; exact absurd z (by decide)
        · rw [e] at z; exact absurd z (by decide)
        · rw [e] at z; exact absurd z (by decide)
        · rcases z with z | ⟨z, y⟩
          · by_cases hz : (fx_af op rn L p k &&& ((1 : Int32) <<< (ra (8 * p + k) &&& 31))) = 0
            · rw [if_pos hz, b_or, Bool.or_eq_true, hX]; exact .inl z
            · rw [if_neg hz, b_or, Bool.or_eq_true, hX]; exact .inl z
          · rw [if_neg (fun q => hZ.mp q z), b_or, Bool.or_eq_true, b_or, Bool.or_eq_true, hB, hC, decide_eq_true_eq, decide_eq_true_eq]; exact .inr y
  · rw [if_pos e, b_or, Bool.or_eq_true, fx_af_bit, hA, decide_eq_true_eq]
    constructor
    · intro z; exact .inl ⟨.inl e, z⟩
    · rintro (⟨_, z⟩ | ⟨z, _⟩ | ⟨z, _⟩ | ⟨z, _⟩ | ⟨z | z | z, _⟩)
      · exact z
      all_goals (rw [e] at z; exact absurd z (by decide))
  · rw [if_neg (by rw [e]; decide), if_neg (by rw [e]; decide), if_neg (by rw [e]; decide), if_pos e, b_or, Bool.or_eq_true, hX]
    obtain ⟨hn, hnD, hbp⟩ := h5 e
    have hq := (hpl _ hnD).1
    have hS : bt ((L (9 * (rn (8 * p + k)).toNatClampNeg) &&& (((1 : Int32) <<< (pc (rn (8 * p + k)).toNatClampNeg &&& 31)) - 1)) <<< (rb (8 * p + k) &&& 31)) j = true ↔ ((rb (8 * p + k)).toNatClampNeg ≤ j ∧ j - (rb (8 * p + k)).toNatClampNeg < (pc (rn (8 * p + k)).toNatClampNeg).toNatClampNeg ∧ bt (L (9 * (rn (8 * p + k)).toNatClampNeg)) (j - (rb (8 * p + k)).toNatClampNeg) = true) := by
      have hM : ∀ j, bt (((1 : Int32) <<< (pc (rn (8 * p + k)).toNatClampNeg &&& 31)) - 1) j = decide (j < (pc (rn (8 * p + k)).toNatClampNeg).toNatClampNeg) := by
        intro j
        conv => lhs; rw [hq.1]
        exact fx_mask (by have := hq.2; omega) j
      have hb2 := hb.2
      rcases Nat.lt_or_ge j 32 with hj | hj
      · conv => lhs; rw [hb.1]
        rw [b_shl _ (by omega) _ hj, b_and, hM, Bool.and_eq_true, Bool.and_eq_true, decide_eq_true_eq, decide_eq_true_eq]
        exact ⟨fun z => ⟨z.1, z.2.2, z.2.1⟩, fun z => ⟨z.1, z.2.2, z.2.1⟩⟩
      · rw [b_big hj]
        exact ⟨fun z => absurd z (by decide), fun z => by have := hq.2; have := z.2.1; omega⟩
    rw [hS]
    constructor
    · intro z; exact .inr (.inr (.inl ⟨e, z⟩))
    · rintro (⟨z | z, _⟩ | ⟨z, _⟩ | ⟨_, z⟩ | ⟨z, _⟩ | ⟨z | z | z, _⟩)
      rotate_left 3
      · exact z
      all_goals (rw [e] at z; exact absurd z (by decide))
  · rw [if_neg (by rw [e]; decide), if_pos e, b_or, Bool.or_eq_true, fx_af_bit, hA, decide_eq_true_eq]
    constructor
    · intro z; exact .inl ⟨.inr e, z⟩
    · rintro (⟨_, z⟩ | ⟨z, _⟩ | ⟨z, _⟩ | ⟨z, _⟩ | ⟨z | z | z, _⟩)
      · exact z
      all_goals (rw [e] at z; exact absurd z (by decide))
  · rw [if_neg (by rw [e]; decide), if_neg (by rw [e]; decide), if_pos e]
    constructor
    · intro z
      by_cases hw : W p = true
      · rw [if_pos hw, hA, decide_eq_true_eq] at z
        exact .inr (.inl ⟨e, hw, z⟩)
      · rw [if_neg hw, b_0] at z
        exact absurd z (by decide)
    · rintro (⟨z | z, _⟩ | ⟨_, z, y⟩ | ⟨z, _⟩ | ⟨z, _⟩ | ⟨z | z | z, _⟩)
      rotate_left 2
      · rw [if_pos z, hA, decide_eq_true_eq]; exact y
      all_goals (rw [e] at z; exact absurd z (by decide))
end
section
def fx_le (L M : Nat → Int32) : Prop := ∀ i, i < 45 → ∀ j, bt (L i) j = true → bt (M i) j = true
def fx_cl (pc op ra rb rc rn L : Nat → Int32) (W : Nat → Bool) (p k : Nat) : Prop :=
  (∀ j, fx_bp pc op ra rb rc rn L W p k j → bt (L (9 * p + k)) j = true)
  ∧ (op (8 * p + k) = 5 → fx_ap op rn L p k (ra (8 * p + k)).toNatClampNeg → W (rn (8 * p + k)).toNatClampNeg = true)
def fx_closed (D : Nat) (pc ln op ra rb rc rn L : Nat → Int32) (W : Nat → Bool) : Prop :=
  ∀ p, p < D → ∀ k, k < (ln p).toNatClampNeg → fx_cl pc op ra rb rc rn L W p k
def fx_inv (D : Nat) (pc ln op ra rb rc rn L : Nat → Int32) (W : Nat → Bool) : Prop :=
  W 0 = true ∧ (∀ i, i < 45 → ∀ j, bt (L i) j = true → j < 6)
  ∧ (∀ p, p < D → ∀ k, k < (ln p).toNatClampNeg → ∀ j, bt (L (9 * p + k)) j = true → fx_bp pc op ra rb rc rn L W p k j)
  ∧ (∀ (M : Nat → Int32) (V : Nat → Bool), V 0 = true → fx_closed D pc ln op ra rb rc rn M V → fx_le L M ∧ ∀ q, q < 5 → W q = true → V q = true)
def fx_st (pc op ra rb rc rn L : Nat → Int32) (W : Nat → Bool) (p k : Nat) (L' : Nat → Int32) (W' : Nat → Bool) : Prop :=
  (∀ i, i ≠ 9 * p + k → L' i = L i)
  ∧ (∀ j, bt (L' (9 * p + k)) j = true ↔ (bt (L (9 * p + k)) j = true ∨ fx_bp pc op ra rb rc rn L W p k j))
  ∧ (∀ q, W' q = true ↔ (W q = true ∨ ((op (8 * p + k) = 5 ∧ fx_ap op rn L p k (ra (8 * p + k)).toNatClampNeg) ∧ q = (rn (8 * p + k)).toNatClampNeg)))
section
variable {D : Nat} {pc ln op ra rb rc rn L M L' : Nat → Int32} {W V W' : Nat → Bool} {p k : Nat}
theorem fx_dep (h1 : ∀ j, fx_ap op rn L p k j → fx_ap op rn M p k j) (hW : W p = true → V p = true) (h9 : op (8 * p + k) = 5 → ∀ i, i < (pc (rn (8 * p + k)).toNatClampNeg).toNatClampNeg → bt (L (9 * (rn (8 * p + k)).toNatClampNeg)) i = true → bt (M (9 * (rn (8 * p + k)).toNatClampNeg)) i = true) {j : Nat} (h : fx_bp pc op ra rb rc rn L W p k j) : fx_bp pc op ra rb rc rn M V p k j := by
  unfold fx_bp at h ⊢
  rcases h with ⟨e, h⟩ | ⟨e, h, z⟩ | ⟨e, h⟩ | ⟨e, h, z⟩ | ⟨e, h⟩
  · exact .inl ⟨e, h.imp (h1 j) id⟩
  · exact .inr (.inl ⟨e, hW h, z⟩)
  · refine .inr (.inr (.inl ⟨e, ?_⟩))
    rcases h with ⟨h, z⟩ | ⟨h, y, z⟩
    · exact .inl ⟨h1 j h, z⟩
    · exact .inr ⟨h, y, h9 e _ y z⟩
  · exact .inr (.inr (.inr (.inl ⟨e, h1 j h, z⟩)))
  · refine .inr (.inr (.inr (.inr ⟨e, ?_⟩)))
    rcases h with ⟨h, z⟩ | ⟨h, z⟩
    · exact .inl ⟨h1 j h, z⟩
    · exact .inr ⟨h1 _ h, z⟩
theorem fx_rng (hok : fx_ok D pc ln op ra rb rc rn) (hp : p < D) (hk : k < (ln p).toNatClampNeg) : p < 5 ∧ k < 8 ∧ (op (8 * p + k) = 4 → k < (rn (8 * p + k)).toNatClampNeg ∧ (rn (8 * p + k)).toNatClampNeg ≤ 8) ∧ (op (8 * p + k) = 5 → (rn (8 * p + k)).toNatClampNeg < D ∧ (rn (8 * p + k)).toNatClampNeg < 5) := by
  obtain ⟨hD, hpl, hcs⟩ := hok
  obtain ⟨ho, ha, hb, hc, h13, h4, h5⟩ := hcs p hp k hk
  have := (hpl p hp).2.2
  refine ⟨by omega, by omega, fun e => ⟨(h4 e).2, (h4 e).1.2⟩, fun e => ⟨(h5 e).2.1, ?_⟩⟩
  have := (h5 e).2.1
  omega
theorem fx_ap_le (hok : fx_ok D pc ln op ra rb rc rn) (hp : p < D) (hk : k < (ln p).toNatClampNeg) (hle : fx_le L M) {j : Nat} (h : fx_ap op rn L p k j) : fx_ap op rn M p k j := by
  obtain ⟨a, b, c, d⟩ := fx_rng hok hp hk
  refine ⟨h.1, h.2.imp (hle _ (by omega) j) fun z => ⟨z.1, hle _ ?_ j z.2⟩⟩
  have := c z.1
  omega
theorem fx_bp_le (hok : fx_ok D pc ln op ra rb rc rn) (hp : p < D) (hk : k < (ln p).toNatClampNeg) (hle : fx_le L M) (hW : ∀ q, q < 5 → W q = true → V q = true) {j : Nat} (h : fx_bp pc op ra rb rc rn L W p k j) : fx_bp pc op ra rb rc rn M V p k j := by
  obtain ⟨a, b, c, d⟩ := fx_rng hok hp hk
  refine fx_dep (fun j => fx_ap_le hok hp hk hle) (hW p a) (fun e i _ => hle _ ?_ i) h
  have := d e
  omega
theorem fx_bp_lt (hok : fx_ok D pc ln op ra rb rc rn) (hp : p < D) (hk : k < (ln p).toNatClampNeg) (hL : ∀ i, i < 45 → ∀ j, bt (L i) j = true → j < 6) {j : Nat} (h : fx_bp pc op ra rb rc rn L W p k j) : j < 6 := by
  obtain ⟨a, b, c, d⟩ := fx_rng hok hp hk
  obtain ⟨hD, hpl, hcs⟩ := hok
  obtain ⟨ho, ha, hb, hc, h13, h4, h5⟩ := hcs p hp k hk
  have ha2 := ha.2
  have hap : ∀ j, fx_ap op rn L p k j → j < 6 := by
    intro j h
    rcases h.2 with z | z
    · exact hL _ (by omega) j z
    · have := c z.1
      exact hL _ (by omega) j z.2
  rcases h with ⟨e, h | h⟩ | ⟨e, h, z⟩ | ⟨e, ⟨h, z⟩ | ⟨h, y, z⟩⟩ | ⟨e, h, z⟩ | ⟨e, ⟨h, z⟩ | ⟨h, z⟩⟩
  · exact hap j h
  · omega
  · omega
  · exact hap j h
  · have := (h5 e).2.2
    omega
  · exact hap j h
  · exact hap j h
  · have := h13 e
    omega
theorem fx_st_up (hs : fx_st pc op ra rb rc rn L W p k L' W') : fx_le L L' ∧ ∀ q, W q = true → W' q = true := by
  obtain ⟨s1, s2, s3⟩ := hs
  refine ⟨fun i _ j h => ?_, fun q h => (s3 q).mpr (.inl h)⟩
  by_cases e : i = 9 * p + k
  · subst e
    exact (s2 j).mpr (.inl h)
  · rw [s1 i e]; exact h
theorem fx_st_inv (hok : fx_ok D pc ln op ra rb rc rn) (hp : p < D) (hk : k < (ln p).toNatClampNeg) (hI : fx_inv D pc ln op ra rb rc rn L W) (hs : fx_st pc op ra rb rc rn L W p k L' W') : fx_inv D pc ln op ra rb rc rn L' W' := by
  obtain ⟨u1, u2⟩ := fx_st_up hs
  obtain ⟨s1, s2, s3⟩ := hs
  obtain ⟨i1, i2, i3, i4⟩ := hI
  obtain ⟨r1, r2, r3, r4⟩ := fx_rng hok hp hk
  refine ⟨u2 0 i1, fun i hi j h => ?_, fun p' hp' k' hk' j h => ?_, fun M V hV hM => ?_⟩
  · by_cases e : i = 9 * p + k
    · subst e
      rcases (s2 j).mp h with z | z
      · exact i2 _ hi j z
      · exact fx_bp_lt hok hp hk i2 z
    · rw [s1 i e] at h
      exact i2 i hi j h
  · refine fx_bp_le hok hp' hk' u1 (fun q _ => u2 q) ?_
    obtain ⟨r1', r2', _, _⟩ := fx_rng hok hp' hk'
    by_cases e : 9 * p' + k' = 9 * p + k
    · have e1 : p' = p := by omega
      have e2 : k' = k := by omega
      subst e1 e2
      rcases (s2 j).mp h with z | z
      · exact i3 _ hp _ hk j z
      · exact z
    · rw [s1 _ e] at h
      exact i3 p' hp' k' hk' j h
  · obtain ⟨m1, m2⟩ := i4 M V hV hM
    refine ⟨fun i hi j h => ?_, fun q hq h => ?_⟩
    · by_cases e : i = 9 * p + k
      · subst e
        rcases (s2 j).mp h with z | z
        · exact m1 _ hi j z
        · exact (hM p hp k hk).1 j (fx_bp_le hok hp hk m1 m2 z)
      · rw [s1 i e] at h
        exact m1 i hi j h
    · rcases (s3 q).mp h with z | ⟨⟨z, y⟩, rfl⟩
      · exact m2 q hq z
      · exact (hM p hp k hk).2 z (fx_ap_le hok hp hk m1 y)
theorem fx_inv0 (hok : fx_ok D pc ln op ra rb rc rn) (hL : ∀ i, i < 45 → L i = 0) (hW : ∀ q, q < 5 → (W q = true ↔ q = 0)) : fx_inv D pc ln op ra rb rc rn L W := by
  have z : ∀ i, i < 45 → ∀ j, ¬ bt (L i) j = true := fun i hi j h => by
    rw [hL i hi, b_0] at h
    exact absurd h (by decide)
  refine ⟨(hW 0 (by omega)).mpr rfl, fun i hi j h => absurd h (z i hi j), fun p hp k hk j h => ?_, fun M V hV _ => ⟨fun i hi j h => absurd h (z i hi j), fun q hq h => ?_⟩⟩
  · obtain ⟨r1, r2, r3, r4⟩ := fx_rng hok hp hk
    exact absurd h (z _ (by omega) j)
  · rw [(hW q hq).mp h]; exact hV
/-- what two least closed sets are: the same -/
theorem fx_same (h1 : fx_inv D pc ln op ra rb rc rn L W) (c1 : fx_closed D pc ln op ra rb rc rn L W) (h2 : fx_inv D pc ln op ra rb rc rn M V) (c2 : fx_closed D pc ln op ra rb rc rn M V) : (∀ i, i < 45 → L i = M i) ∧ ∀ q, q < 5 → W q = V q := by
  obtain ⟨a1, a2⟩ := h1.2.2.2 M V h2.1 c2
  obtain ⟨b1, b2⟩ := h2.2.2.2 L W h1.1 c1
  refine ⟨fun i hi => b_ext fun j _ => Bool.eq_iff_iff.mpr ⟨a1 i hi j, b1 i hi j⟩, fun q hq => Bool.eq_iff_iff.mpr ⟨a2 q hq, b2 q hq⟩⟩
/-- a step of a closed state changes nothing -/
theorem fx_st_same (hc : fx_cl pc op ra rb rc rn L W p k) (hs : fx_st pc op ra rb rc rn L W p k L' W') : L' = L ∧ W' = W := by
  obtain ⟨s1, s2, s3⟩ := hs
  constructor
  · funext i
    by_cases e : i = 9 * p + k
    · subst e
      exact b_ext fun j _ => Bool.eq_iff_iff.mpr ⟨fun h => ((s2 j).mp h).elim id (hc.1 j), fun h => (s2 j).mpr (.inl h)⟩
    · exact s1 i e
  · funext q
    refine Bool.eq_iff_iff.mpr ⟨fun h => ?_, fun h => (s3 q).mpr (.inl h)⟩
    rcases (s3 q).mp h with z | ⟨⟨z, y⟩, rfl⟩
    · exact z
    · exact hc.2 z y
end
/-! the two measures -/
def fx_py (L : Nat → Int32) (W : Nat → Bool) (j : Nat) : Bool := if j < 240 then bt (L (9 * (j / 48) + j / 6 % 8)) (j % 6) else W (j - 240)
def fx_px (L : Nat → Int32) (W : Nat → Bool) (j : Nat) : Bool := if j < 15 then bt (L (9 * (j / 3))) (j % 3) else W (j - 15)
section
variable {D : Nat} {pc ln op ra rb rc rn L M L' : Nat → Int32} {W V W' : Nat → Bool} {p k : Nat}
theorem fx_py_up (h1 : fx_le L L') (h2 : ∀ q, W q = true → W' q = true) : ∀ j, j < 245 → fx_py L W j = true → fx_py L' W' j = true := by
  intro j hj
  unfold fx_py
  by_cases h : j < 240
  · rw [if_pos h, if_pos h]
    exact h1 _ (by omega) _
  · rw [if_neg h, if_neg h]
    exact h2 _
theorem fx_px_up (h1 : fx_le L L') (h2 : ∀ q, W q = true → W' q = true) : ∀ j, j < 20 → fx_px L W j = true → fx_px L' W' j = true := by
  intro j hj
  unfold fx_px
  by_cases h : j < 15
  · rw [if_pos h, if_pos h]
    exact h1 _ (by omega) _
  · rw [if_neg h, if_neg h]
    exact h2 _
theorem fx_py_l {p k j : Nat} (hp : p < 5) (hk : k < 8) (hj : j < 6) : 48 * p + 6 * k + j < 245 ∧ fx_py L W (48 * p + 6 * k + j) = bt (L (9 * p + k)) j := by
  refine ⟨by omega, ?_⟩
  unfold fx_py
  rw [if_pos (by omega)]
  have e1 : (48 * p + 6 * k + j) / 48 = p := by omega
  have e2 : (48 * p + 6 * k + j) / 6 % 8 = k := by omega
  have e3 : (48 * p + 6 * k + j) % 6 = j := by omega
  rw [e1, e2, e3]
theorem fx_py_w {q : Nat} (hq : q < 5) : 240 + q < 245 ∧ fx_py L W (240 + q) = W q := by
  refine ⟨by omega, ?_⟩
  unfold fx_py
  rw [if_neg (by omega)]
  have e1 : 240 + q - 240 = q := by omega
  rw [e1]
theorem fx_px_l {q i : Nat} (hq : q < 5) (hi : i < 3) : 3 * q + i < 20 ∧ fx_px L W (3 * q + i) = bt (L (9 * q)) i := by
  refine ⟨by omega, ?_⟩
  unfold fx_px
  rw [if_pos (by omega)]
  have e1 : (3 * q + i) / 3 = q := by omega
  have e3 : (3 * q + i) % 3 = i := by omega
  rw [e1, e3]
theorem fx_px_w {q : Nat} (hq : q < 5) : 15 + q < 20 ∧ fx_px L W (15 + q) = W q := by
  refine ⟨by omega, ?_⟩
  unfold fx_px
  rw [if_neg (by omega)]
  have e1 : 15 + q - 15 = q := by omega
  rw [e1]
/-- a step that adds something adds to Y's measure -/
theorem fx_py_lt (hok : fx_ok D pc ln op ra rb rc rn) (hp : p < D) (hk : k < (ln p).toNatClampNeg) (hI : fx_inv D pc ln op ra rb rc rn L W) (hs : fx_st pc op ra rb rc rn L W p k L' W') (h : ¬ L' (9 * p + k) = L (9 * p + k) ∨ ∃ q, q < 5 ∧ W q = false ∧ W' q = true) : fx_cnt (fx_py L W) 245 < fx_cnt (fx_py L' W') 245 := by
  obtain ⟨u1, u2⟩ := fx_st_up hs
  have hI' := fx_st_inv hok hp hk hI hs
  obtain ⟨r1, r2, r3, r4⟩ := fx_rng hok hp hk
  rcases h with h | ⟨q, hq, h0, h1⟩
  · have : ∃ j, bt (L (9 * p + k)) j = false ∧ bt (L' (9 * p + k)) j = true := by
      apply Classical.byContradiction
      intro hn
      apply h
      apply b_ext
      intro j _
      cases hb : bt (L (9 * p + k)) j
      · cases hb' : bt (L' (9 * p + k)) j
        · rfl
        · exact absurd ⟨j, hb, hb'⟩ hn
      · exact u1 _ (by omega) j hb
    obtain ⟨j, h0, h1⟩ := this
    have hj : j < 6 := hI'.2.1 _ (by omega) j h1
    have e1 := fx_py_l (L := L) (W := W) r1 r2 hj
    have e2 := fx_py_l (L := L') (W := W') r1 r2 hj
    exact fx_cnt_lt (fx_py_up u1 u2) e1.1 (by rw [e1.2]; exact h0) (by rw [e2.2]; exact h1)
  · have e1 := fx_py_w (L := L) (W := W) hq
    have e2 := fx_py_w (L := L') (W := W') hq
    exact fx_cnt_lt (fx_py_up u1 u2) e1.1 (by rw [e1.2]; exact h0) (by rw [e2.2]; exact h1)
/-- X's rounds: c0 the measure at the round's start, cl0 whether it was closed there, P the cells seen -/
def fx_ri (D : Nat) (pc ln op ra rb rc rn L : Nat → Int32) (W : Nat → Bool) (cl0 : Prop) (c0 : Nat) (P : Nat → Nat → Prop) : Prop :=
  fx_inv D pc ln op ra rb rc rn L W ∧ c0 ≤ fx_cnt (fx_px L W) 20 ∧ (cl0 → fx_closed D pc ln op ra rb rc rn L W)
  ∧ (fx_cnt (fx_px L W) 20 = c0 → ∀ p', p' < D → ∀ k', k' < (ln p').toNatClampNeg → P p' k' → fx_cl pc op ra rb rc rn L W p' k')
theorem fx_ri_st {cl0 : Prop} {c0 : Nat} (hok : fx_ok D pc ln op ra rb rc rn) (hp : p < D) (hk : k < (ln p).toNatClampNeg) (h : fx_ri D pc ln op ra rb rc rn L W cl0 c0 (fun p' k' => p' < p ∨ (p' = p ∧ k + 1 ≤ k'))) (hs : fx_st pc op ra rb rc rn L W p k L' W') : fx_ri D pc ln op ra rb rc rn L' W' cl0 c0 (fun p' k' => p' < p ∨ (p' = p ∧ k ≤ k')) := by
  obtain ⟨g1, g2, g3, g4⟩ := h
  obtain ⟨u1, u2⟩ := fx_st_up hs
  obtain ⟨m1, m2⟩ := fx_cnt_mono 20 (fx_px_up u1 u2)
  obtain ⟨r1, r2, r3, r4⟩ := fx_rng hok hp hk
  refine ⟨fx_st_inv hok hp hk g1 hs, by omega, fun hc => ?_, fun he p' hp' k' hk' hP => ?_⟩
  · obtain ⟨e1, e2⟩ := fx_st_same (g3 hc p hp k hk) hs
    rw [e1, e2]
    exact g3 hc
  · have hme := m2 (by omega)
    have hold := g4 (by omega)
    obtain ⟨s1, s2, s3⟩ := hs
    obtain ⟨r1', r2', r3', r4'⟩ := fx_rng hok hp' hk'
    have hW : W p' = W' p' := by
      have a := fx_px_w (L := L) (W := W) r1'
      have b := fx_px_w (L := L') (W := W') r1'
      rw [← a.2, ← b.2]; exact hme _ a.1
    have hap : ∀ j, fx_ap op rn L' p' k' j → fx_ap op rn L p' k' j := by
      intro j z
      have q1 : 9 * p' + k' + 1 ≠ 9 * p + k := by omega
      refine ⟨z.1, ?_⟩
      rcases z.2 with y | ⟨y, x⟩
      · rw [s1 _ q1] at y; exact .inl y
      · have q2 : 9 * p' + (rn (8 * p' + k')).toNatClampNeg ≠ 9 * p + k := by
          have := r3' y
          omega
        rw [s1 _ q2] at x; exact .inr ⟨y, x⟩
    have hbp : ∀ j, fx_bp pc op ra rb rc rn L' W' p' k' j → fx_bp pc op ra rb rc rn L W p' k' j := by
      intro j z
      refine fx_dep hap (fun y => by rw [hW]; exact y) (fun e i hi y => ?_) z
      have hq := r4' e
      have hpc := (hok.2.1 _ hq.1).1.2
      have hi3 : i < 3 := by omega
      have a := fx_px_l (L := L) (W := W) hq.2 hi3
      have b := fx_px_l (L := L') (W := W') hq.2 hi3
      rw [← a.2, hme _ a.1, b.2]; exact y
    by_cases e : p' = p ∧ k' = k
    · obtain ⟨rfl, rfl⟩ := e
      exact ⟨fun j z => (s2 j).mpr (.inr (hbp j z)), fun z y => (s3 _).mpr (.inr ⟨⟨z, hap _ y⟩, rfl⟩)⟩
    · have hc := hold p' hp' k' hk' (by omega)
      have q0 : 9 * p' + k' ≠ 9 * p + k := by omega
      exact ⟨fun j z => by rw [s1 _ q0]; exact hc.1 j (hbp j z), fun z y => u2 _ (hc.2 z (hap _ y))⟩
end
end
section
/-! X's question of what matters: each method's value -/
theorem fx_i8 (p k : Nat) : nI p * 8 + nI k = nI (8 * p + k) := by
  show nI p * nI 8 + nI k = _
  rw [pk_mul, nI_add, Nat.mul_comm]
theorem fx_i9 (p : Nat) : nI p * 9 = nI (9 * p) := by
  show nI p * nI 9 = _
  rw [pk_mul, Nat.mul_comm]
theorem fx_add1 (a b : Nat) : nI a + nI b + 1 = nI (a + b + 1) := by rw [nI_add, nI_1]
theorem fx_addn {x : Int32} {b : Nat} (a : Nat) (h : fx_nn x b) : nI a + x = nI (a + x.toNatClampNeg) := by
  conv => lhs; rw [h.1]
  exact nI_add _ _
theorem xw_ar_t {post : Int32 → Prop} {x : Int32} (h : x = 1 ∨ x = 2 ∨ x = 3) (hp : post 1) : wpX_isArithmetic post x :=
  br_c (fun _ => hp) fun h1 => br_c (fun _ => hp) fun h2 => br_t (h.elim (fun z => absurd z h1) fun z => z.elim (fun y => absurd y h2) id) hp
theorem xw_ar_f {post : Int32 → Prop} {x : Int32} (h1 : ¬ x = 1) (h2 : ¬ x = 2) (h3 : ¬ x = 3) (hp : post 0) : wpX_isArithmetic post x :=
  br_f h1 (br_f h2 (br_f h3 hp))
theorem xw_hb_t {post : Int32 → Prop} {x : Int32} {n : Nat} (hn : n < 32) (h : bt x n = true) (hp : post 1) : wpX_hasBit post x (nI n) := br_t ((fx_hb hn x).mpr h) hp
theorem xw_hb_f {post : Int32 → Prop} {x : Int32} {n : Nat} (hn : n < 32) (h : ¬ bt x n = true) (hp : post 0) : wpX_hasBit post x (nI n) := br_f (fun z => h ((fx_hb hn x).mp z)) hp
theorem xw_liveAfter {post : Int32 → Prop} {d oc rs st ot ac mr : Int32} {pc ln op ra rb rc rn ko pr ap rr rg lv : Nat → Int32} {p k : Nat} (hp : p < 5) (hk : k < 8) (h4 : op (8 * p + k) = 4 → fx_nn (rn (8 * p + k)) 8) (h : post (fx_af op rn lv p k)) : wpX_liveAfter post (d, oc, rs, st, ot, ac, mr, pc, ln, op, ra, rb, rc, rn, ko, pr, ap, rr, rg, lv) (nI p) (nI k) := by
  have c8 : (nI (8 * p + k)).toNatClampNeg = 8 * p + k := nI_clamp (by omega)
  have ck : (nI (9 * p + k + 1)).toNatClampNeg = 9 * p + k + 1 := nI_clamp (by omega)
  have i8 : vp_in (nI (8 * p + k)) 40 := vp_in_nI (by omega) (by omega)
  unfold wpX_liveAfter
  refine nm_r (fx_i8 p k) (nm_r (fx_i9 p) ?_)
  rw [fx_add1, c8, ck]
  refine ⟨vp_in_nI (by omega) (by omega), nm_e ⟨i8, ?_⟩⟩
  unfold fx_af at h
  by_cases h7 : op (8 * p + k) = 7
  · rw [if_pos h7] at h
    exact br_t h7 h
  · rw [if_neg h7] at h
    refine br_f h7 ⟨i8, ?_⟩
    by_cases e4 : op (8 * p + k) = 4
    · rw [if_pos e4] at h
      have hn := h4 e4
      have hn2 := hn.2
      have cn : (nI (9 * p + (rn (8 * p + k)).toNatClampNeg)).toNatClampNeg = 9 * p + (rn (8 * p + k)).toNatClampNeg := nI_clamp (by omega)
      rw [fx_addn _ hn, cn]
      exact br_t e4 ⟨i8, vp_in_nI (by omega) (by omega), h⟩
    · rw [if_neg e4] at h
      exact br_f e4 h
theorem xw_mpar {post : Int32 → Prop} {d oc rs st ot ac mr : Int32} {pc ln op ra rb rc rn ko pr ap rr rg lv : Nat → Int32} {p : Nat} (hp : p < 5) (h : post (lv (9 * p) &&& (((1 : Int32) <<< (pc p &&& 31)) - 1))) : wpX_matteringParameters post (d, oc, rs, st, ot, ac, mr, pc, ln, op, ra, rb, rc, rn, ko, pr, ap, rr, rg, lv) (nI p) := by
  have c8 : (nI p).toNatClampNeg = p := nI_clamp (by omega)
  have c9 : (nI (9 * p)).toNatClampNeg = 9 * p := nI_clamp (by omega)
  unfold wpX_matteringParameters
  refine ⟨vp_in_nI hp (by omega), nm_e ?_⟩
  rw [fx_i9, c8, c9]
  exact ⟨vp_in_nI (by omega) (by omega), h⟩
def fx_rd (pc op ra rb rc rn L : Nat → Int32) (W : Nat → Bool) (p c : Nat) (x : Int32) : Int32 :=
  if op c = 1 ∨ op c = 2 ∨ op c = 3 then (if (x &&& ((1 : Int32) <<< (ra c &&& 31))) = 0 then 0 else ((1 : Int32) <<< (rb c &&& 31)) ||| ((1 : Int32) <<< (rc c &&& 31)))
  else if op c = 4 then (1 : Int32) <<< (ra c &&& 31)
  else if op c = 6 then (1 : Int32) <<< (ra c &&& 31)
  else if op c = 7 then (if W p = true then (1 : Int32) <<< (ra c &&& 31) else 0)
  else if op c = 5 then (L (9 * (rn c).toNatClampNeg) &&& (((1 : Int32) <<< (pc (rn c).toNatClampNeg &&& 31)) - 1)) <<< (rb c &&& 31)
  else 0
def fx_rs (op ra : Nat → Int32) (c : Nat) : Int32 := if op c = 0 ∨ op c = 5 ∨ op c = 1 ∨ op c = 2 ∨ op c = 3 then (1 : Int32) <<< (ra c &&& 31) else 0
theorem xw_reads {post : Int32 → Prop} {d oc rs st ot ac mr : Int32} {pc ln op ra rb rc rn ko pr ap rr rg lv : Nat → Int32} {p c : Nat} {x : Int32} (hp : p < 5) (hc : c < 40) (h5 : op c = 5 → fx_nn (rn c) 4) (h : post (fx_rd pc op ra rb rc rn lv (bt mr) p c x)) : wpX_readsThatMatter post (d, oc, rs, st, ot, ac, mr, pc, ln, op, ra, rb, rc, rn, ko, pr, ap, rr, rg, lv) (nI p) (nI c) x := by
  have cc : (nI c).toNatClampNeg = c := nI_clamp (by omega)
  have ic : vp_in (nI c) 40 := vp_in_nI hc (by omega)
  unfold wpX_readsThatMatter
  refine ⟨ic, nm_e ⟨ic, nm_e ?_⟩⟩
  rw [cc]
  unfold fx_rd at h
  by_cases ha : op c = 1 ∨ op c = 2 ∨ op c = 3
  · rw [if_pos ha] at h
    refine xw_ar_t ha (br_f (by decide) ?_)
    by_cases hz : (x &&& ((1 : Int32) <<< (ra c &&& 31))) = 0
    · rw [if_pos hz] at h
      exact br_t hz (br_t rfl h)
    · rw [if_neg hz] at h
      refine br_f hz ?_
      unfold wX_readsThatMatter_38
      rw [cc]
      exact br_f (by decide) ⟨ic, ic, h⟩
  · rw [if_neg ha] at h
    have n1 : ¬ op c = 1 := fun z => ha (.inl z)
    have n2 : ¬ op c = 2 := fun z => ha (.inr (.inl z))
    have n3 : ¬ op c = 3 := fun z => ha (.inr (.inr z))
    refine xw_ar_f n1 n2 n3 (br_t rfl ?_)
    by_cases e4 : op c = 4
    · rw [if_pos e4] at h
      exact br_t e4 h
    · rw [if_neg e4] at h
      refine br_f e4 ?_
      by_cases e6 : op c = 6
      · rw [if_pos e6] at h
        exact br_t e6 h
      · rw [if_neg e6] at h
        refine br_f e6 ?_
        by_cases e7 : op c = 7
        · rw [if_pos e7] at h
          refine br_t e7 ?_
          by_cases hw : bt mr p = true
          · rw [if_pos hw] at h
            exact xw_hb_t (by omega) hw (br_f (by decide) h)
          · rw [if_neg hw] at h
            exact xw_hb_f (by omega) hw (br_t rfl h)
        · rw [if_neg e7] at h
          refine br_f e7 ?_
          by_cases e5 : op c = 5
          · rw [if_pos e5] at h
            have hn := h5 e5
            have hn2 := hn.2
            refine br_t e5 ⟨ic, ?_⟩
            rw [hn.1]
            exact xw_mpar (by omega) ⟨ic, h⟩
          · rw [if_neg e5] at h
            exact br_f e5 h
theorem xw_rset {post : Int32 → Prop} {d oc rs st ot ac mr : Int32} {pc ln op ra rb rc rn ko pr ap rr rg lv : Nat → Int32} {c : Nat} (hc : c < 40) (h : post (fx_rs op ra c)) : wpX_registersSet post (d, oc, rs, st, ot, ac, mr, pc, ln, op, ra, rb, rc, rn, ko, pr, ap, rr, rg, lv) (nI c) := by
  have cc : (nI c).toNatClampNeg = c := nI_clamp (by omega)
  have ic : vp_in (nI c) 40 := vp_in_nI hc (by omega)
  unfold wpX_registersSet
  refine ⟨ic, nm_e ?_⟩
  rw [cc]
  unfold fx_rs at h
  have hs : ∀ h' : post ((1 : Int32) <<< (ra c &&& 31)), wX_registersSet_23 post (nI c) d oc rs st ot ac mr pc ln op ra rb rc rn ko pr ap rr rg lv := by
    intro h'
    unfold wX_registersSet_23 wX_registersSet_28
    rw [cc]
    exact br_f (by decide) ⟨ic, h'⟩
  by_cases h0 : op c = 0
  · rw [if_pos (.inl h0)] at h
    exact br_t h0 (hs h)
  · refine br_f h0 ?_
    by_cases e5 : op c = 5
    · rw [if_pos (.inr (.inl e5))] at h
      exact br_t e5 (hs h)
    · refine br_f e5 ?_
      by_cases ha : op c = 1 ∨ op c = 2 ∨ op c = 3
      · rw [if_pos (.inr (.inr ha))] at h
        exact xw_ar_t ha (br_f (by decide) (hs h))
      · rw [if_neg (by rintro (z | z | z); exact h0 z; exact e5 z; exact ha z)] at h
        refine xw_ar_f (fun z => ha (.inl z)) (fun z => ha (.inr (.inl z))) (fun z => ha (.inr (.inr z))) (br_t rfl ?_)
        exact br_t rfl h
theorem fx_and_m1 (x : Int32) : x &&& ((0 : Int32) ^^^ (-1)) = x := by
  apply b_ext
  intro j hj
  rw [b_and, fx_xm _ _ hj, b_0]
  simp
theorem fx_rd_eq {D : Nat} {pc ln op ra rb rc rn : Nat → Int32} (hok : fx_ok D pc ln op ra rb rc rn) (L : Nat → Int32) (W : Nat → Bool) {p k : Nat} (hp : p < D) (hk : k < (ln p).toNatClampNeg) : fx_rd pc op ra rb rc rn L W p (8 * p + k) (fx_af op rn L p k) ||| (fx_af op rn L p k &&& (fx_rs op ra (8 * p + k) ^^^ (-1))) = fx_bf pc op ra rb rc rn L W p k := by
  obtain ⟨hD, hpl, hcs⟩ := hok
  obtain ⟨ho, ha, hb, hc, h13, h4, h5⟩ := hcs p hp k hk
  unfold fx_rd fx_rs fx_bf
  rcases fx_op ho with e | e | e | e | e | e | e | e <;> simp only [e]
  · simp [Int32.or_comm]
  · by_cases hz : (fx_af op rn L p k &&& ((1 : Int32) <<< (ra (8 * p + k) &&& 31))) = 0
    · simp [hz]
    · simp [hz, Int32.or_comm]
  · by_cases hz : (fx_af op rn L p k &&& ((1 : Int32) <<< (ra (8 * p + k) &&& 31))) = 0
    · simp [hz]
    · simp [hz, Int32.or_comm]
  · by_cases hz : (fx_af op rn L p k &&& ((1 : Int32) <<< (ra (8 * p + k) &&& 31))) = 0
    · simp [hz]
    · simp [hz, Int32.or_comm]
  · simp [Int32.or_comm]
  · simp [Int32.or_comm]
  · simp [Int32.or_comm]
  · have : fx_af op rn L p k = 0 := if_pos e
    simp [this]
end
section
/-! X's rounds -/
theorem xw_hbT {post : Int32 → Prop} {x y : Int32} {n : Nat} (hn : n < 32) (hy : y = nI n) (h : bt x n = true) (hp : post 1) : wpX_hasBit post x y := by
  subst hy
  exact xw_hb_t hn h hp
theorem xw_hbF {post : Int32 → Prop} {x y : Int32} {n : Nat} (hn : n < 32) (hy : y = nI n) (h : ¬ bt x n = true) (hp : post 0) : wpX_hasBit post x y := by
  subst hy
  exact xw_hb_f hn h hp
theorem xw_79 {post : SX → Prop} {J : Int32 → Int32 → (Nat → Int32) → (Nat → Int32) → (Nat → Int32) → (Nat → Int32) → (Nat → Int32) → (Nat → Int32) → (Nat → Int32) → (Nat → Int32) → (Nat → Int32) → (Nat → Int32) → (Nat → Int32) → (Nat → Int32) → (Nat → Int32) → Prop} {d oc rs st ot ac mr : Int32} {pc ln op ra rb rc rn ko pr ap rr rg lv : Nat → Int32} {p k : Nat} {x4 x5 : Int32} (hp : p < 5) (hk : k < 8) (h : J (nI k + (-1)) mr pc ln op ra rb rc rn ko pr ap rr rg (upd lv (9 * p + k) (x5 ||| (x4 &&& (fx_rs op ra (8 * p + k) ^^^ (-1)))))) : wX_traceProcedure_79 post J (nI p) (nI k) (nI (8 * p + k)) x4 x5 d oc rs st ot ac mr pc ln op ra rb rc rn ko pr ap rr rg lv := by
  have e9 : nI p * 9 + nI k = nI (9 * p + k) := by rw [fx_i9, nI_add]
  have c9 : (nI (9 * p + k)).toNatClampNeg = 9 * p + k := nI_clamp (by omega)
  unfold wX_traceProcedure_79
  rw [e9, c9]
  exact xw_rset (by omega) ⟨vp_in_nI (by omega) (by omega), nm_e (nm_e h)⟩
theorem xw_step {D : Nat} {d oc rs st ot ac mr : Int32} {pc ln op ra rb rc rn ko pr ap rr rg lv : Nat → Int32} {p k : Nat} (hok : fx_ok D pc ln op ra rb rc rn) (hI : fx_inv D pc ln op ra rb rc rn lv (bt mr)) (hp : p < D) (hk : k < (ln p).toNatClampNeg) : ∃ (mr' : Int32) (lv' : Nat → Int32), fx_st pc op ra rb rc rn lv (bt mr) p k lv' (bt mr') ∧ ∀ (post : SX → Prop) (n : Nat), wX_traceProcedure_9 post (nI p) d oc rs st ot ac n (nI k + (-1)) mr' pc ln op ra rb rc rn ko pr ap rr rg lv' → wX_traceProcedure_9 post (nI p) d oc rs st ot ac (n + 1) (nI k) mr pc ln op ra rb rc rn ko pr ap rr rg lv := by
  obtain ⟨r1, r2, r3, r4⟩ := fx_rng hok hp hk
  have hcell := hok.2.2 p hp k hk
  obtain ⟨ho, ha, hb, hc, h13, h4, h5⟩ := hcell
  have ha2 := ha.2
  have c8 : (nI (8 * p + k)).toNatClampNeg = 8 * p + k := nI_clamp (by omega)
  have i8 : vp_in (nI (8 * p + k)) 40 := vp_in_nI (by omega) (by omega)
  have k0 : ¬ nI k < 0 := nI_pos (by omega)
  have hst2 : ∀ i, i ≠ 9 * p + k → upd lv (9 * p + k) (fx_bf pc op ra rb rc rn lv (bt mr) p k) i = lv i := fun i hi => pk_un hi
  have hst3 : ∀ j, bt (upd lv (9 * p + k) (fx_bf pc op ra rb rc rn lv (bt mr) p k) (9 * p + k)) j = true ↔ (bt (lv (9 * p + k)) j = true ∨ fx_bp pc op ra rb rc rn lv (bt mr) p k j) := by
    intro j
    rw [pk_us, fx_bf_bit hok lv (bt mr) hp hk j]
    exact ⟨.inr, fun z => z.elim (hI.2.2.1 p hp k hk j) id⟩
  have hbf := fx_rd_eq hok lv (bt mr) hp hk
  by_cases e5 : op (8 * p + k) = 5
  · obtain ⟨hn, hnD, _⟩ := h5 e5
    have hn2 := hn.2
    by_cases hit : bt (fx_af op rn lv p k) (ra (8 * p + k)).toNatClampNeg = true
    · refine ⟨mr ||| ((1 : Int32) <<< (rn (8 * p + k) &&& 31)), upd lv (9 * p + k) (fx_bf pc op ra rb rc rn lv (bt mr) p k), ⟨hst2, hst3, fun q => ?_⟩, fun post n h => ?_⟩
      · have e : bt ((1 : Int32) <<< (rn (8 * p + k) &&& 31)) q = decide (q = (rn (8 * p + k)).toNatClampNeg) := by
          conv => lhs; rw [hn.1]
          exact fx_one (by omega) q
        rw [b_or, Bool.or_eq_true, e, decide_eq_true_eq]
        rw [fx_af_bit] at hit
        exact ⟨fun z => z.imp id fun y => ⟨⟨e5, hit⟩, y⟩, fun z => z.imp id fun y => y.2⟩
      · refine br_f k0 (nm_r (fx_i8 p k) (xw_liveAfter r1 r2 (fun e => (h4 e).1) (xw_reads r1 (by omega) (fun e => (h5 e).1) ⟨i8, ?_⟩)))
        rw [c8]
        refine br_t e5 ⟨i8, xw_hbT (by omega) ha.1 hit (br_f (by decide) ⟨i8, nm_e (xw_79 r1 r2 ?_)⟩)⟩
        rw [hbf]
        exact h
    · refine ⟨mr, upd lv (9 * p + k) (fx_bf pc op ra rb rc rn lv (bt mr) p k), ⟨hst2, hst3, fun q => ?_⟩, fun post n h => ?_⟩
      · rw [fx_af_bit] at hit
        exact ⟨.inl, fun z => z.elim id fun y => absurd y.1.2 hit⟩
      · refine br_f k0 (nm_r (fx_i8 p k) (xw_liveAfter r1 r2 (fun e => (h4 e).1) (xw_reads r1 (by omega) (fun e => (h5 e).1) ⟨i8, ?_⟩)))
        rw [c8]
        refine br_t e5 ⟨i8, xw_hbF (by omega) ha.1 hit (br_t rfl (xw_79 r1 r2 ?_))⟩
        rw [hbf]
        exact h
  · refine ⟨mr, upd lv (9 * p + k) (fx_bf pc op ra rb rc rn lv (bt mr) p k), ⟨hst2, hst3, fun q => ?_⟩, fun post n h => ?_⟩
    · exact ⟨.inl, fun z => z.elim id fun y => absurd y.1.1 e5⟩
    · refine br_f k0 (nm_r (fx_i8 p k) (xw_liveAfter r1 r2 (fun e => (h4 e).1) (xw_reads r1 (by omega) (fun e => (h5 e).1) ⟨i8, ?_⟩)))
      rw [c8]
      refine br_f e5 (xw_79 r1 r2 ?_)
      rw [hbf]
      exact h
theorem fx_ri_weak {D : Nat} {pc ln op ra rb rc rn L : Nat → Int32} {W : Nat → Bool} {cl0 : Prop} {c0 : Nat} {P Q : Nat → Nat → Prop} (hPQ : ∀ p' k', p' < D → k' < (ln p').toNatClampNeg → Q p' k' → P p' k') (h : fx_ri D pc ln op ra rb rc rn L W cl0 c0 P) : fx_ri D pc ln op ra rb rc rn L W cl0 c0 Q :=
  ⟨h.1, h.2.1, h.2.2.1, fun e p' hp' k' hk' hq => h.2.2.2 e p' hp' k' hk' (hPQ p' k' hp' hk' hq)⟩
theorem xw_trace9 {D : Nat} {d oc rs st ot ac : Int32} {pc ln op ra rb rc rn ko pr ap rr rg : Nat → Int32} {p : Nat} {cl0 : Prop} {c0 : Nat} (hok : fx_ok D pc ln op ra rb rc rn) (hp : p < D) : ∀ (m : Nat) (mr : Int32) (lv : Nat → Int32), m ≤ (ln p).toNatClampNeg → fx_ri D pc ln op ra rb rc rn lv (bt mr) cl0 c0 (fun p' k' => p' < p ∨ (p' = p ∧ m ≤ k')) → ∃ (mr' : Int32) (lv' : Nat → Int32), fx_ri D pc ln op ra rb rc rn lv' (bt mr') cl0 c0 (fun p' k' => p' < p ∨ (p' = p ∧ 0 ≤ k')) ∧ ∀ (post : SX → Prop), post (d, oc, rs, st, ot, ac, mr', pc, ln, op, ra, rb, rc, rn, ko, pr, ap, rr, rg, lv') → wX_traceProcedure_9 post (nI p) d oc rs st ot ac (m + 1) (nI m + (-1)) mr pc ln op ra rb rc rn ko pr ap rr rg lv := by
  intro m
  induction m with
  | zero =>
    intro mr lv _ hri
    exact ⟨mr, lv, hri, fun post h => br_t (by decide) h⟩
  | succ m ih =>
    intro mr lv hm hri
    obtain ⟨mr1, lv1, hst, hw⟩ := xw_step (d := d) (oc := oc) (rs := rs) (st := st) (ot := ot) (ac := ac) (ko := ko) (pr := pr) (ap := ap) (rr := rr) (rg := rg) hok hri.1 hp (show m < (ln p).toNatClampNeg by omega)
    obtain ⟨mr2, lv2, hri2, hw2⟩ := ih mr1 lv1 (by omega) (fx_ri_st hok hp (by omega) hri hst)
    refine ⟨mr2, lv2, hri2, fun post h => ?_⟩
    rw [pk_m1]
    exact hw post _ (hw2 post h)
theorem xw_trace {D : Nat} {d oc rs st ot ac mr : Int32} {pc ln op ra rb rc rn ko pr ap rr rg lv : Nat → Int32} {p : Nat} {cl0 : Prop} {c0 : Nat} (hok : fx_ok D pc ln op ra rb rc rn) (hp : p < D) (hri : fx_ri D pc ln op ra rb rc rn lv (bt mr) cl0 c0 (fun p' _ => p' < p)) : ∃ (mr' : Int32) (lv' : Nat → Int32), fx_ri D pc ln op ra rb rc rn lv' (bt mr') cl0 c0 (fun p' _ => p' < p + 1) ∧ ∀ (post : SX → Prop), post (d, oc, rs, st, ot, ac, mr', pc, ln, op, ra, rb, rc, rn, ko, pr, ap, rr, rg, lv') → wpX_traceProcedure post (d, oc, rs, st, ot, ac, mr, pc, ln, op, ra, rb, rc, rn, ko, pr, ap, rr, rg, lv) (nI p) := by
  have hD := hok.1
  have hl := (hok.2.1 p hp).2
  obtain ⟨mr', lv', h1, h2⟩ := xw_trace9 (d := d) (oc := oc) (rs := rs) (st := st) (ot := ot) (ac := ac) (ko := ko) (pr := pr) (ap := ap) (rr := rr) (rg := rg) hok hp (ln p).toNatClampNeg mr lv (Nat.le_refl _) (fx_ri_weak (fun p' k' _ hk' hq => by rcases hq with z | ⟨rfl, z⟩; exact z; omega) hri)
  refine ⟨mr', lv', fx_ri_weak (fun p' k' _ _ hq => by omega) h1, fun post h => ?_⟩
  unfold wpX_traceProcedure
  have cp : (nI p).toNatClampNeg = p := nI_clamp (by omega)
  rw [cp]
  refine ⟨vp_in_nI (by omega) (by omega), nm_r (e' := nI (ln p).toNatClampNeg + (-1)) ?_ ⟨_, h2 post h⟩⟩
  conv => lhs; rw [hl.1]
  exact Int32.sub_eq_add_neg _ _
theorem xw_36 {D : Nat} {oc rs st ot ac : Int32} {pc ln op ra rb rc rn ko pr ap rr rg : Nat → Int32} {cl0 : Prop} {c0 : Nat} {x1 : Int32} (hok : fx_ok D pc ln op ra rb rc rn) : ∀ (m p : Nat), p + m = D → ∀ (mr : Int32) (lv : Nat → Int32), fx_ri D pc ln op ra rb rc rn lv (bt mr) cl0 c0 (fun p' _ => p' < p) → ∃ (mr' : Int32) (lv' : Nat → Int32), fx_ri D pc ln op ra rb rc rn lv' (bt mr') cl0 c0 (fun p' _ => p' < D) ∧ ∀ (post : SX → Prop) (J : Int32 → Int32 → Int32 → Int32 → Int32 → Int32 → Int32 → Int32 → (Nat → Int32) → (Nat → Int32) → (Nat → Int32) → (Nat → Int32) → (Nat → Int32) → (Nat → Int32) → (Nat → Int32) → (Nat → Int32) → (Nat → Int32) → (Nat → Int32) → (Nat → Int32) → (Nat → Int32) → (Nat → Int32) → Prop), J (x1 + 1) (nI D) oc rs st ot ac mr' pc ln op ra rb rc rn ko pr ap rr rg lv' → wX_findWhatMatters_36 post J x1 (m + 1) (nI p) (nI D) oc rs st ot ac mr pc ln op ra rb rc rn ko pr ap rr rg lv := by
  intro m
  have hD := hok.1
  induction m with
  | zero =>
    intro p hp mr lv hri
    have : p = D := by omega
    subst this
    exact ⟨mr, lv, hri, fun post J h => br_t (Int32.le_refl _) (nm_e h)⟩
  | succ m ih =>
    intro p hp mr lv hri
    obtain ⟨mr1, lv1, h1, hw1⟩ := xw_trace (d := nI D) (oc := oc) (rs := rs) (st := st) (ot := ot) (ac := ac) (ko := ko) (pr := pr) (ap := ap) (rr := rr) (rg := rg) hok (show p < D by omega) hri
    obtain ⟨mr2, lv2, h2, hw2⟩ := ih (p + 1) (by omega) mr1 lv1 h1
    refine ⟨mr2, lv2, h2, fun post J h => br_f (nI_ge (by omega) (by omega)) (hw1 _ (nm_r (nI_1 p) (hw2 post J h)))⟩
def fx_ro (D : Nat) (pc ln op ra rb rc rn L : Nat → Int32) (W : Nat → Bool) (r : Nat) : Prop :=
  fx_inv D pc ln op ra rb rc rn L W ∧ (fx_closed D pc ln op ra rb rc rn L W ∨ r + 1 ≤ fx_cnt (fx_px L W) 20)
theorem xw_28 {D : Nat} {oc rs st ot ac : Int32} {pc ln op ra rb rc rn ko pr ap rr rg : Nat → Int32} (hok : fx_ok D pc ln op ra rb rc rn) : ∀ (m r : Nat), r + m = 21 → ∀ (mr : Int32) (lv : Nat → Int32), fx_ro D pc ln op ra rb rc rn lv (bt mr) r → ∃ (mr' : Int32) (lv' : Nat → Int32), fx_ro D pc ln op ra rb rc rn lv' (bt mr') 21 ∧ ∀ (post : SX → Prop), post (nI D, oc, rs, st, ot, ac, mr', pc, ln, op, ra, rb, rc, rn, ko, pr, ap, rr, rg, lv') → wX_findWhatMatters_28 post (m + 1) (nI r) (nI D) oc rs st ot ac mr pc ln op ra rb rc rn ko pr ap rr rg lv := by
  intro m
  have hD := hok.1
  induction m with
  | zero =>
    intro r hr mr lv hro
    have : r = 21 := by omega
    subst this
    exact ⟨mr, lv, hro, fun post h => br_t (by decide) h⟩
  | succ m ih =>
    intro r hr mr lv hro
    obtain ⟨mr1, lv1, h1, hw1⟩ := xw_36 (oc := oc) (rs := rs) (st := st) (ot := ot) (ac := ac) (ko := ko) (pr := pr) (ap := ap) (rr := rr) (rg := rg) (x1 := nI r) (cl0 := fx_closed D pc ln op ra rb rc rn lv (bt mr)) (c0 := fx_cnt (fx_px lv (bt mr)) 20) hok D 0 (by omega) mr lv ⟨hro.1, Nat.le_refl _, id, fun _ p' _ k' _ z => absurd z (by omega)⟩
    have hro1 : fx_ro D pc ln op ra rb rc rn lv1 (bt mr1) (r + 1) := by
      refine ⟨h1.1, ?_⟩
      rcases hro.2 with hc | hc
      · exact .inl (h1.2.2.1 hc)
      · rcases Nat.lt_or_ge (fx_cnt (fx_px lv (bt mr)) 20) (fx_cnt (fx_px lv1 (bt mr1)) 20) with z | z
        · exact .inr (by omega)
        · have := h1.2.1
          exact .inl fun p' hp' k' hk' => h1.2.2.2 (by omega) p' hp' k' hk' hp'
    obtain ⟨mr2, lv2, h2, hw2⟩ := ih (r + 1) (by omega) mr1 lv1 hro1
    refine ⟨mr2, lv2, h2, fun post h => br_f (nI_ge (b := 21) (by omega) (by decide)) ⟨D + 1, hw1 post _ ?_⟩⟩
    rw [nI_1]
    exact hw2 post h
theorem xw_7 {d oc rs st ot ac mr : Int32} {pc ln op ra rb rc rn ko pr ap rr rg : Nat → Int32} : ∀ (m i : Nat), i + m = 45 → ∀ (lv : Nat → Int32), (∀ j, j < i → lv j = 0) → ∃ lv' : Nat → Int32, (∀ j, j < 45 → lv' j = 0) ∧ ∀ (post : SX → Prop), (∃ n28, wX_findWhatMatters_28 post n28 0 d oc rs st ot ac mr pc ln op ra rb rc rn ko pr ap rr rg lv') → wX_findWhatMatters_7 post d oc rs st ot ac mr (m + 1) (nI i) pc ln op ra rb rc rn ko pr ap rr rg lv := by
  intro m
  induction m with
  | zero =>
    intro i hi lv h
    have : i = 45 := by omega
    subst this
    exact ⟨lv, h, fun post h => br_t (by decide) h⟩
  | succ m ih =>
    intro i hi lv h
    have ci : (nI i).toNatClampNeg = i := nI_clamp (by omega)
    obtain ⟨lv', h1, h2⟩ := ih (i + 1) (by omega) (upd lv i 0) (fun j hj => by
      by_cases e : j = i
      · rw [e, pk_us]
      · rw [pk_un e]; exact h j (by omega))
    refine ⟨lv', h1, fun post hp => br_f (nI_ge (b := 45) (by omega) (by decide)) ⟨vp_in_nI (by omega) (by omega), nm_r (by rw [ci]) (nm_r (nI_1 i) (h2 post hp))⟩⟩
theorem xw_find {D : Nat} {oc rs st ot ac mr : Int32} {pc ln op ra rb rc rn ko pr ap rr rg lv : Nat → Int32} (hok : fx_ok D pc ln op ra rb rc rn) : ∃ (mr' : Int32) (lv' : Nat → Int32), (fx_inv D pc ln op ra rb rc rn lv' (bt mr') ∧ fx_closed D pc ln op ra rb rc rn lv' (bt mr')) ∧ ∀ (post : SX → Prop), post (nI D, oc, rs, st, ot, ac, mr', pc, ln, op, ra, rb, rc, rn, ko, pr, ap, rr, rg, lv') → wpX_findWhatMatters post (nI D, oc, rs, st, ot, ac, mr, pc, ln, op, ra, rb, rc, rn, ko, pr, ap, rr, rg, lv) := by
  obtain ⟨lv0, h0, hw0⟩ := xw_7 (d := nI D) (oc := oc) (rs := rs) (st := st) (ot := ot) (ac := ac) (mr := 1) (pc := pc) (ln := ln) (op := op) (ra := ra) (rb := rb) (rc := rc) (rn := rn) (ko := ko) (pr := pr) (ap := ap) (rr := rr) (rg := rg) 45 0 rfl lv (fun j hj => absurd hj (by omega))
  have hinv : fx_inv D pc ln op ra rb rc rn lv0 (bt 1) := fx_inv0 hok h0 (fun q _ => by rw [fx_b1, decide_eq_true_eq])
  have hro : fx_ro D pc ln op ra rb rc rn lv0 (bt 1) 0 := by
    refine ⟨hinv, .inr ?_⟩
    have e := fx_px_w (L := lv0) (W := bt 1) (q := 0) (by omega)
    exact fx_cnt_pos e.1 (by rw [e.2]; decide)
  obtain ⟨mr1, lv1, h1, hw1⟩ := xw_28 (oc := oc) (rs := rs) (st := st) (ot := ot) (ac := ac) (ko := ko) (pr := pr) (ap := ap) (rr := rr) (rg := rg) hok 21 0 rfl 1 lv0 hro
  refine ⟨mr1, lv1, ⟨h1.1, ?_⟩, fun post h => ⟨46, hw0 post ⟨22, hw1 post h⟩⟩⟩
  rcases h1.2 with z | z
  · exact z
  · have := fx_cnt_le (fx_px lv1 (bt mr1)) 20
    omega
end
section
/-! Y's question of what matters -/
theorem fx_j8 (p k : Nat) : 8 * nI p + nI k = nI (8 * p + k) := by
  show nI 8 * nI p + nI k = _
  rw [pk_mul, nI_add]
theorem fx_j9 (p : Nat) : 9 * nI p = nI (9 * p) := by
  show nI 9 * nI p = _
  rw [pk_mul]
def fx_yw (wa : Nat → Int32) (q : Nat) : Bool := !decide (wa q = 0)
theorem fx_yw_t (wa : Nat → Int32) (q : Nat) : fx_yw wa q = true ↔ ¬ wa q = 0 := by
  unfold fx_yw
  simp
theorem yw_after {post : Int32 → Prop} {d oc rs st ot ac : Int32} {pc ln op ra rb rc rn ko pr po rg ly wa : Nat → Int32} {p k : Nat} (hp : p < 5) (hk : k < 8) (h4 : op (8 * p + k) = 4 → fx_nn (rn (8 * p + k)) 8) (h : post (fx_af op rn ly p k)) : wpY_after post (d, oc, rs, st, ot, ac, pc, ln, op, ra, rb, rc, rn, ko, pr, po, rg, ly, wa) (nI p) (nI k) := by
  have c8 : (nI (8 * p + k)).toNatClampNeg = 8 * p + k := nI_clamp (by omega)
  have ck : (nI (9 * p + k + 1)).toNatClampNeg = 9 * p + k + 1 := nI_clamp (by omega)
  have i8 : vp_in (nI (8 * p + k)) 40 := vp_in_nI (by omega) (by omega)
  unfold wpY_after
  refine nm_r (fx_j8 p k) ?_
  rw [fx_j9, fx_add1, c8, ck]
  refine ⟨i8, ?_⟩
  unfold fx_af at h
  by_cases h7 : op (8 * p + k) = 7
  · rw [if_pos h7] at h
    exact br_t h7 h
  · rw [if_neg h7] at h
    refine br_f h7 ⟨vp_in_nI (by omega) (by omega), i8, ?_⟩
    by_cases e4 : op (8 * p + k) = 4
    · rw [if_pos e4] at h
      have hn := h4 e4
      have hn2 := hn.2
      have cn : (nI (9 * p + (rn (8 * p + k)).toNatClampNeg)).toNatClampNeg = 9 * p + (rn (8 * p + k)).toNatClampNeg := nI_clamp (by omega)
      rw [fx_addn _ hn, cn]
      exact br_t e4 ⟨i8, vp_in_nI (by omega) (by omega), h⟩
    · rw [if_neg e4] at h
      rw [Int32.or_zero]
      exact br_f e4 h
theorem yw_before {post : Int32 → Prop} {d oc rs st ot ac : Int32} {pc ln op ra rb rc rn ko pr po rg ly wa : Nat → Int32} {p k : Nat} (hp : p < 5) (hk : k < 8) (h4 : op (8 * p + k) = 4 → fx_nn (rn (8 * p + k)) 8) (h5 : op (8 * p + k) = 5 → fx_nn (rn (8 * p + k)) 4) (h : post (fx_bf pc op ra rb rc rn ly (fx_yw wa) p k)) : wpY_before post (d, oc, rs, st, ot, ac, pc, ln, op, ra, rb, rc, rn, ko, pr, po, rg, ly, wa) (nI p) (nI k) := by
  have c8 : (nI (8 * p + k)).toNatClampNeg = 8 * p + k := nI_clamp (by omega)
  have cp : (nI p).toNatClampNeg = p := nI_clamp (by omega)
  have i8 : vp_in (nI (8 * p + k)) 40 := vp_in_nI (by omega) (by omega)
  unfold wpY_before
  refine nm_r (fx_j8 p k) ⟨i8, nm_e (yw_after hp hk h4 ⟨i8, nm_e ?_⟩)⟩
  rw [c8, cp]
  unfold fx_bf at h
  by_cases e4 : op (8 * p + k) = 4
  · rw [if_pos e4] at h
    exact br_t e4 h
  · rw [if_neg e4] at h
    refine br_f e4 ?_
    by_cases e6 : op (8 * p + k) = 6
    · rw [if_pos e6] at h
      exact br_t e6 h
    · rw [if_neg e6] at h
      refine br_f e6 ?_
      by_cases e7 : op (8 * p + k) = 7
      · rw [if_pos e7] at h
        refine br_t e7 ⟨vp_in_nI hp (by omega), ?_⟩
        by_cases hw : wa p = 0
        · rw [if_neg (fun z => (fx_yw_t wa p).mp z hw)] at h
          exact br_t hw h
        · rw [if_pos ((fx_yw_t wa p).mpr hw)] at h
          exact br_f hw h
      · rw [if_neg e7] at h
        refine br_f e7 ?_
        by_cases e5 : op (8 * p + k) = 5
        · rw [if_pos e5] at h
          have hn := h5 e5
          have hn2 := hn.2
          have cn : (nI (9 * (rn (8 * p + k)).toNatClampNeg)).toNatClampNeg = 9 * (rn (8 * p + k)).toNatClampNeg := nI_clamp (by omega)
          have cq : (nI (rn (8 * p + k)).toNatClampNeg).toNatClampNeg = (rn (8 * p + k)).toNatClampNeg := nI_clamp (by omega)
          refine br_t e5 ⟨i8, nm_r hn.1 ?_⟩
          rw [fx_j9, cn, cq]
          exact ⟨vp_in_nI (by omega) (by omega), vp_in_nI (by omega) (by omega), i8, nm_e h⟩
        · rw [if_neg e5] at h
          refine br_f e5 ?_
          by_cases e0 : op (8 * p + k) = 0
          · rw [if_pos e0] at h
            exact br_t e0 h
          · rw [if_neg e0] at h
            refine br_f e0 ?_
            by_cases hz : (fx_af op rn ly p k &&& ((1 : Int32) <<< (ra (8 * p + k) &&& 31))) = 0
            · rw [if_pos hz] at h
              exact br_t hz h
            · rw [if_neg hz] at h
              exact br_f hz ⟨i8, i8, nm_e h⟩
theorem fx_upd_self (f : Nat → Int32) (i : Nat) : upd f i (f i) = f := by
  funext j
  by_cases e : j = i
  · rw [e, pk_us]
  · rw [pk_un e]
theorem yw_hb {A B : Prop} {x y : Int32} {n : Nat} (hn : n < 32) (hy : y = nI n) (f : bt x n = true → A) (g : ¬ bt x n = true → B) : ((((x >>> (y &&& 31)) &&& 1) = 1 → A) ∧ (¬ ((x >>> (y &&& 31)) &&& 1) = 1 → B)) := by
  subst hy
  exact br_c (fun z => f ((fx_hb hn x).mp z)) (fun z => g (fun q => z ((fx_hb hn x).mpr q)))
theorem yw_39 {post : Int32 → SY → Prop} {D : Nat} {d oc rs st ot ac : Int32} {pc ln op ra rb rc rn ko pr po rg ly wa : Nat → Int32} {p k : Nat} {x3 z0 r : Int32} {wa' : Nat → Int32} (hok : fx_ok D pc ln op ra rb rc rn) (hp : p < D) (hk : k < (ln p).toNatClampNeg) (hz : z0 = 0 ∨ z0 = 1) (hr : (op (8 * p + k) = 5 ∧ bt (fx_af op rn ly p k) (ra (8 * p + k)).toNatClampNeg = true ∧ wa (rn (8 * p + k)).toNatClampNeg = 0 ∧ r = 1 ∧ wa' = upd wa (rn (8 * p + k)).toNatClampNeg 1) ∨ (¬ (op (8 * p + k) = 5 ∧ bt (fx_af op rn ly p k) (ra (8 * p + k)).toNatClampNeg = true ∧ wa (rn (8 * p + k)).toNatClampNeg = 0) ∧ r = z0 ∧ wa' = wa)) (h : post r (d, oc, rs, st, ot, ac, pc, ln, op, ra, rb, rc, rn, ko, pr, po, rg, upd ly (9 * p + k) x3, wa')) : wY_add_39 post (nI p) (nI k) x3 z0 d oc rs st ot ac pc ln op ra rb rc rn ko pr po rg ly wa := by
  obtain ⟨r1, r2, r3, r4⟩ := fx_rng hok hp hk
  obtain ⟨ho, ha, hb, hc, h13, h4, h5⟩ := hok.2.2 p hp k hk
  have ha2 := ha.2
  have c8 : (nI (8 * p + k)).toNatClampNeg = 8 * p + k := nI_clamp (by omega)
  have c9 : (nI (9 * p + k)).toNatClampNeg = 9 * p + k := nI_clamp (by omega)
  have i8 : vp_in (nI (8 * p + k)) 40 := vp_in_nI (by omega) (by omega)
  have hnz : narrow .boolean (.int z0) = .int z0 := by
    rcases hz with rfl | rfl <;> rfl
  unfold wY_add_39
  rw [fx_j9, nI_add, c9]
  refine ⟨vp_in_nI (by omega) (by omega), nm_e (nm_r (fx_j8 p k) ⟨i8, ?_⟩)⟩
  rw [c8]
  by_cases e5 : op (8 * p + k) = 5
  · obtain ⟨hn, hnD, _⟩ := h5 e5
    have hn2 := hn.2
    have hin : vp_in (rn (8 * p + k)) 5 := by
      rw [hn.1]; exact vp_in_nI (by omega) (by omega)
    have eaf : fx_af op rn (upd ly (9 * p + k) x3) p k = fx_af op rn ly p k := by
      unfold fx_af
      rw [e5, if_neg (by decide), if_neg (by decide), if_neg (by decide), if_neg (by decide), pk_un (by omega)]
    refine br_t e5 (yw_after r1 r2 (fun e => (h4 e).1) ⟨i8, ?_⟩)
    rw [eaf]
    refine yw_hb (by omega) ha.1 (fun hit => ?_) (fun hit => ?_)
    · refine ⟨i8, hin, ?_⟩
      by_cases hw : wa (rn (8 * p + k)).toNatClampNeg = 0
      · rcases hr with ⟨_, _, _, q1, q2⟩ | ⟨q, _⟩
        · subst q1 q2
          refine br_t hw ⟨i8, hin, nm_r (e' := upd wa (rn (8 * p + k)).toNatClampNeg 1) rfl h⟩
        · exact absurd ⟨e5, hit, hw⟩ q
      · rcases hr with ⟨_, _, q, _⟩ | ⟨_, q1, q2⟩
        · exact absurd q hw
        · subst q1 q2
          exact br_f hw ⟨hnz, h⟩
    · rcases hr with ⟨_, q, _⟩ | ⟨_, q1, q2⟩
      · exact absurd q hit
      · subst q1 q2
        exact ⟨hnz, h⟩
  · rcases hr with ⟨q, _⟩ | ⟨_, q1, q2⟩
    · exact absurd q e5
    · subst q1 q2
      exact br_f e5 ⟨hnz, h⟩
theorem yw_add {D : Nat} {d oc rs st ot ac : Int32} {pc ln op ra rb rc rn ko pr po rg ly wa : Nat → Int32} {p k : Nat} (hok : fx_ok D pc ln op ra rb rc rn) (hI : fx_inv D pc ln op ra rb rc rn ly (fx_yw wa)) (hp : p < D) (hk : k < (ln p).toNatClampNeg) : ∃ (r : Int32) (ly' wa' : Nat → Int32), fx_st pc op ra rb rc rn ly (fx_yw wa) p k ly' (fx_yw wa') ∧ ((r = 0 ∧ ly' = ly ∧ wa' = wa ∧ fx_cl pc op ra rb rc rn ly (fx_yw wa) p k) ∨ (r = 1 ∧ fx_cnt (fx_py ly (fx_yw wa)) 245 < fx_cnt (fx_py ly' (fx_yw wa')) 245)) ∧ ∀ (post : Int32 → SY → Prop), post r (d, oc, rs, st, ot, ac, pc, ln, op, ra, rb, rc, rn, ko, pr, po, rg, ly', wa') → wpY_add post (d, oc, rs, st, ot, ac, pc, ln, op, ra, rb, rc, rn, ko, pr, po, rg, ly, wa) (nI p) (nI k) := by
  obtain ⟨r1, r2, r3, r4⟩ := fx_rng hok hp hk
  have hcell := hok.2.2 p hp k hk
  obtain ⟨ho, ha, hb, hc, h13, h4, h5⟩ := hcell
  have c9 : (nI (9 * p + k)).toNatClampNeg = 9 * p + k := nI_clamp (by omega)
  have i9 : vp_in (nI (9 * p + k)) 45 := vp_in_nI (by omega) (by omega)
  have hst2 : ∀ i, i ≠ 9 * p + k → upd ly (9 * p + k) (ly (9 * p + k) ||| fx_bf pc op ra rb rc rn ly (fx_yw wa) p k) i = ly i := fun i hi => pk_un hi
  have hst3 : ∀ j, bt (upd ly (9 * p + k) (ly (9 * p + k) ||| fx_bf pc op ra rb rc rn ly (fx_yw wa) p k) (9 * p + k)) j = true ↔ (bt (ly (9 * p + k)) j = true ∨ fx_bp pc op ra rb rc rn ly (fx_yw wa) p k j) := by
    intro j
    rw [pk_us, b_or, Bool.or_eq_true, fx_bf_bit hok ly (fx_yw wa) hp hk j]
  have hwalk : ∀ (z0 r : Int32) (wa' : Nat → Int32), ((ly (9 * p + k) ||| fx_bf pc op ra rb rc rn ly (fx_yw wa) p k) = ly (9 * p + k) → z0 = 0) → (¬ (ly (9 * p + k) ||| fx_bf pc op ra rb rc rn ly (fx_yw wa) p k) = ly (9 * p + k) → z0 = 1) → ((op (8 * p + k) = 5 ∧ bt (fx_af op rn ly p k) (ra (8 * p + k)).toNatClampNeg = true ∧ wa (rn (8 * p + k)).toNatClampNeg = 0 ∧ r = 1 ∧ wa' = upd wa (rn (8 * p + k)).toNatClampNeg 1) ∨ (¬ (op (8 * p + k) = 5 ∧ bt (fx_af op rn ly p k) (ra (8 * p + k)).toNatClampNeg = true ∧ wa (rn (8 * p + k)).toNatClampNeg = 0) ∧ r = z0 ∧ wa' = wa)) → ∀ (post : Int32 → SY → Prop), post r (d, oc, rs, st, ot, ac, pc, ln, op, ra, rb, rc, rn, ko, pr, po, rg, upd ly (9 * p + k) (ly (9 * p + k) ||| fx_bf pc op ra rb rc rn ly (fx_yw wa) p k), wa') → wpY_add post (d, oc, rs, st, ot, ac, pc, ln, op, ra, rb, rc, rn, ko, pr, po, rg, ly, wa) (nI p) (nI k) := by
    intro z0 r wa' hz0 hz1 hr post h
    unfold wpY_add
    rw [fx_j9, nI_add, c9]
    refine ⟨i9, yw_before r1 r2 (fun e => (h4 e).1) (fun e => (h5 e).1) (nm_e ⟨i9, ?_⟩)⟩
    refine br_c (fun z => ?_) (fun z => ?_)
    · have := hz0 z
      subst this
      exact yw_39 hok hp hk (.inl rfl) hr h
    · have := hz1 z
      subst this
      exact yw_39 hok hp hk (.inr rfl) hr h
  by_cases hA : op (8 * p + k) = 5 ∧ bt (fx_af op rn ly p k) (ra (8 * p + k)).toNatClampNeg = true ∧ wa (rn (8 * p + k)).toNatClampNeg = 0
  · have hst : fx_st pc op ra rb rc rn ly (fx_yw wa) p k (upd ly (9 * p + k) (ly (9 * p + k) ||| fx_bf pc op ra rb rc rn ly (fx_yw wa) p k)) (fx_yw (upd wa (rn (8 * p + k)).toNatClampNeg 1)) := by
      refine ⟨hst2, hst3, fun q => ?_⟩
      rw [fx_yw_t, fx_yw_t]
      have hit := (fx_af_bit op rn ly p k _).mp hA.2.1
      by_cases e : q = (rn (8 * p + k)).toNatClampNeg
      · rw [e, pk_us]
        exact ⟨fun _ => .inr ⟨⟨hA.1, hit⟩, rfl⟩, fun _ => by decide⟩
      · rw [pk_un e]
        exact ⟨.inl, fun z => z.elim id fun y => absurd y.2 e⟩
    refine ⟨1, _, _, hst, .inr ⟨rfl, fx_py_lt hok hp hk hI hst (.inr ⟨(rn (8 * p + k)).toNatClampNeg, (r4 hA.1).2, ?_, ?_⟩)⟩, ?_⟩
    · cases hb : fx_yw wa (rn (8 * p + k)).toNatClampNeg
      · rfl
      · exact absurd hA.2.2 ((fx_yw_t _ _).mp hb)
    · rw [fx_yw_t, pk_us]; decide
    · by_cases hz : (ly (9 * p + k) ||| fx_bf pc op ra rb rc rn ly (fx_yw wa) p k) = ly (9 * p + k)
      · exact hwalk 0 1 _ (fun _ => rfl) (fun z => absurd hz z) (.inl ⟨hA.1, hA.2.1, hA.2.2, rfl, rfl⟩)
      · exact hwalk 1 1 _ (fun z => absurd z hz) (fun _ => rfl) (.inl ⟨hA.1, hA.2.1, hA.2.2, rfl, rfl⟩)
  · have hst : fx_st pc op ra rb rc rn ly (fx_yw wa) p k (upd ly (9 * p + k) (ly (9 * p + k) ||| fx_bf pc op ra rb rc rn ly (fx_yw wa) p k)) (fx_yw wa) := by
      refine ⟨hst2, hst3, fun q => ⟨.inl, fun z => z.elim id fun y => ?_⟩⟩
      obtain ⟨⟨y1, y2⟩, rfl⟩ := y
      rw [fx_yw_t]
      exact fun x => hA ⟨y1, (fx_af_bit op rn ly p k _).mpr y2, x⟩
    by_cases hz : (ly (9 * p + k) ||| fx_bf pc op ra rb rc rn ly (fx_yw wa) p k) = ly (9 * p + k)
    · refine ⟨0, _, _, hst, .inl ⟨rfl, ?_, rfl, fun j z => ?_, fun z y => ?_⟩, hwalk 0 0 _ (fun _ => rfl) (fun z => absurd hz z) (.inr ⟨hA, rfl, rfl⟩)⟩
      · rw [hz, fx_upd_self]
      · rw [← fx_bf_bit hok ly (fx_yw wa) hp hk j] at z
        rw [← hz, b_or, z, Bool.or_true]
      · rw [fx_yw_t]
        exact fun x => hA ⟨z, (fx_af_bit op rn ly p k _).mpr y, x⟩
    · exact ⟨1, _, _, hst, .inr ⟨rfl, fx_py_lt hok hp hk hI hst (.inl (by rw [pk_us]; exact hz))⟩, hwalk 1 1 _ (fun z => absurd z hz) (fun _ => rfl) (.inr ⟨hA, rfl, rfl⟩)⟩
end
section
/-! Y's passes -/
def fx_yi (D : Nat) (pc ln op ra rb rc rn L : Nat → Int32) (W : Nat → Bool) (c0 m : Nat) (x1 : Int32) : Prop :=
  fx_inv D pc ln op ra rb rc rn L W ∧ (x1 = 0 → ∀ c, m ≤ c → c < 40 → c / 8 < D → c % 8 < (ln (c / 8)).toNatClampNeg → fx_cl pc op ra rb rc rn L W (c / 8) (c % 8)) ∧ (x1 = 1 → c0 < fx_cnt (fx_py L W) 245) ∧ c0 ≤ fx_cnt (fx_py L W) 245 ∧ (x1 = 0 ∨ x1 = 1)
theorem yw_115 {post : SY → Prop} {J53 J69 : Int32 → Int32 → Int32 → Int32 → Int32 → Int32 → Int32 → Int32 → (Nat → Int32) → (Nat → Int32) → (Nat → Int32) → (Nat → Int32) → (Nat → Int32) → (Nat → Int32) → (Nat → Int32) → (Nat → Int32) → (Nat → Int32) → (Nat → Int32) → (Nat → Int32) → (Nat → Int32) → (Nat → Int32) → Prop} {x1 x2 x3 : Int32} {d oc rs st ot ac : Int32} {pc ln op ra rb rc rn ko pr po rg ly wa : Nat → Int32} (hx : x1 = 0 ∨ x1 = 1) (h : J69 x1 (x3 + (-1)) d oc rs st ot ac pc ln op ra rb rc rn ko pr po rg ly wa) : wY_collect_115 post J53 J69 x1 x2 x3 d oc rs st ot ac pc ln op ra rb rc rn ko pr po rg ly wa := by
  unfold wY_collect_115
  rcases hx with rfl | rfl
  · exact br_t rfl (nm_e h)
  · exact br_f (by decide) (nm_e h)
theorem yw_69 {D : Nat} {oc rs st ot ac : Int32} {pc ln op ra rb rc rn ko pr po rg : Nat → Int32} {x2 : Int32} {c0 : Nat} (hok : fx_ok D pc ln op ra rb rc rn) : ∀ (m : Nat) (x1 : Int32) (ly wa : Nat → Int32), m ≤ 40 → fx_yi D pc ln op ra rb rc rn ly (fx_yw wa) c0 m x1 → ∃ (x1' : Int32) (ly' wa' : Nat → Int32), fx_yi D pc ln op ra rb rc rn ly' (fx_yw wa') c0 0 x1' ∧ ∀ (post : SY → Prop) (J : Int32 → Int32 → Int32 → Int32 → Int32 → Int32 → Int32 → Int32 → (Nat → Int32) → (Nat → Int32) → (Nat → Int32) → (Nat → Int32) → (Nat → Int32) → (Nat → Int32) → (Nat → Int32) → (Nat → Int32) → (Nat → Int32) → (Nat → Int32) → (Nat → Int32) → (Nat → Int32) → (Nat → Int32) → Prop), J x1' (x2 + 1) (nI D) oc rs st ot ac pc ln op ra rb rc rn ko pr po rg ly' wa' → wY_collect_69 post J x2 (m + 1) x1 (nI m + (-1)) (nI D) oc rs st ot ac pc ln op ra rb rc rn ko pr po rg ly wa := by
  intro m
  have hD := hok.1
  induction m with
  | zero =>
    intro x1 ly wa _ hyi
    exact ⟨x1, ly, wa, hyi, fun post J h => br_t (by decide) (nm_e h)⟩
  | succ m ih =>
    intro x1 ly wa hm hyi
    have e1 : nI m / 8 = nI (m / 8) := pk_div (d := 8) (by omega) (by decide) (by decide)
    have e2 : nI m - nI m / 8 * 8 = nI (m % 8) := pk_rem (d := 8) (by omega) (by decide) (by decide)
    have c8 : (nI (m / 8)).toNatClampNeg = m / 8 := nI_clamp (by omega)
    have k0 : ¬ nI m < 0 := nI_pos (by omega)
    have n8 : ¬ (8 : Int32) = 0 := by decide
    rw [pk_m1]
    obtain ⟨g1, g2, g3, g4, g5⟩ := hyi
    by_cases hin : m / 8 < D ∧ m % 8 < (ln (m / 8)).toNatClampNeg
    · have hl := (hok.2.1 _ hin.1).2
      have hl2 := hl.2
      have q1 : ¬ nI D ≤ nI (m / 8) := nI_ge hin.1 (by omega)
      have q2 : ¬ ln (m / 8) ≤ nI (m % 8) := by
        rw [hl.1]; exact nI_ge hin.2 (by omega)
      obtain ⟨r, ly1, wa1, hst, hr, hw⟩ := yw_add (d := nI D) (oc := oc) (rs := rs) (st := st) (ot := ot) (ac := ac) (ko := ko) (pr := pr) (po := po) (rg := rg) hok g1 hin.1 hin.2
      have hI1 := fx_st_inv hok hin.1 hin.2 g1 hst
      have hup := fx_st_up hst
      have hmono := (fx_cnt_mono 245 (fx_py_up hup.1 hup.2)).1
      rcases hr with ⟨r0, rfl, rfl, hcl⟩ | ⟨r1, hlt⟩
      · obtain ⟨x1', ly', wa', hyi', hw'⟩ := ih x1 ly1 wa1 (by omega) ⟨g1, fun z c hc hc40 hcD hcl' => by
          by_cases e : c = m
          · subst e; exact hcl
          · exact g2 z c (by omega) hc40 hcD hcl', g3, g4, g5⟩
        refine ⟨x1', ly', wa', hyi', fun post J h => br_f k0 ⟨n8, ?_⟩⟩
        rw [e2, e1, c8]
        refine br_f q1 ⟨n8, n8, vp_in_nI (by omega) (by omega), br_f q2 ⟨n8, n8, hw _ (br_t r0 (yw_115 g5 (hw' post J h)))⟩⟩
      · obtain ⟨x1', ly', wa', hyi', hw'⟩ := ih 1 ly1 wa1 (by omega) ⟨hI1, fun z => absurd z (by decide), fun _ => by omega, by omega, .inr rfl⟩
        refine ⟨x1', ly', wa', hyi', fun post J h => br_f k0 ⟨n8, ?_⟩⟩
        rw [e2, e1, c8]
        refine br_f q1 ⟨n8, n8, vp_in_nI (by omega) (by omega), br_f q2 ⟨n8, n8, hw _ (br_f (by rw [r1]; decide) (nm_e (hw' post J h)))⟩⟩
    · obtain ⟨x1', ly', wa', hyi', hw'⟩ := ih x1 ly wa (by omega) ⟨g1, fun z c hc hc40 hcD hcl' => by
          by_cases e : c = m
          · subst e; exact absurd ⟨hcD, hcl'⟩ hin
          · exact g2 z c (by omega) hc40 hcD hcl', g3, g4, g5⟩
      refine ⟨x1', ly', wa', hyi', fun post J h => br_f k0 ⟨n8, ?_⟩⟩
      rw [e2, e1, c8]
      by_cases hq : m / 8 < D
      · have hl := (hok.2.1 _ hq).2
        have hl2 := hl.2
        have q1 : ¬ nI D ≤ nI (m / 8) := nI_ge hq (by omega)
        have q2 : ln (m / 8) ≤ nI (m % 8) := by
          rw [hl.1]; exact nI_le (by omega) (by omega)
        exact br_f q1 ⟨n8, n8, vp_in_nI (by omega) (by omega), br_t q2 (yw_115 g5 (hw' post J h))⟩
      · exact br_t (nI_le (by omega) (by omega)) (yw_115 g5 (hw' post J h))
theorem yw_53 {D : Nat} {oc rs st ot ac : Int32} {pc ln op ra rb rc rn ko pr po rg : Nat → Int32} (hok : fx_ok D pc ln op ra rb rc rn) : ∀ (m t : Nat), t + m = 250 → ∀ (x1 : Int32) (ly wa : Nat → Int32), (x1 = 0 ∨ x1 = 1) → fx_inv D pc ln op ra rb rc rn ly (fx_yw wa) → (x1 = 0 → fx_closed D pc ln op ra rb rc rn ly (fx_yw wa)) → (x1 = 1 → t + 1 ≤ fx_cnt (fx_py ly (fx_yw wa)) 245) → ∃ (ly' wa' : Nat → Int32), (fx_inv D pc ln op ra rb rc rn ly' (fx_yw wa') ∧ fx_closed D pc ln op ra rb rc rn ly' (fx_yw wa')) ∧ ∀ (post : SY → Prop), post (nI D, oc, rs, st, ot, ac, pc, ln, op, ra, rb, rc, rn, ko, pr, po, rg, ly', wa') → wY_collect_53 post (m + 1) x1 (nI t) (nI D) oc rs st ot ac pc ln op ra rb rc rn ko pr po rg ly wa := by
  intro m
  induction m with
  | zero =>
    intro t ht x1 ly wa hx hI h0 h1
    have : t = 250 := by omega
    subst this
    have hc := fx_cnt_le (fx_py ly (fx_yw wa)) 245
    have hx0 : x1 = 0 := hx.elim id fun z => by have := h1 z; omega
    exact ⟨ly, wa, ⟨hI, h0 hx0⟩, fun post h => br_t (by decide) h⟩
  | succ m ih =>
    intro t ht x1 ly wa hx hI h0 h1
    have q : ¬ (250 : Int32) ≤ nI t := nI_ge (b := 250) (by omega) (by decide)
    rcases hx with rfl | rfl
    · exact ⟨ly, wa, ⟨hI, h0 rfl⟩, fun post h => br_f q (br_t rfl h)⟩
    · obtain ⟨x1', ly1, wa1, hyi, hw⟩ := yw_69 (oc := oc) (rs := rs) (st := st) (ot := ot) (ac := ac) (ko := ko) (pr := pr) (po := po) (rg := rg) (x2 := nI t) (c0 := fx_cnt (fx_py ly (fx_yw wa)) 245) hok 40 0 ly wa (Nat.le_refl _) ⟨hI, fun _ c hc hc' => by omega, fun z => absurd z (by decide), Nat.le_refl _, .inl rfl⟩
      have hcnt := h1 rfl
      obtain ⟨ly2, wa2, h2, hw2⟩ := ih (t + 1) (by omega) x1' ly1 wa1 hyi.2.2.2.2 hyi.1 (fun z p hp k hk => by
        have hr := fx_rng hok hp hk
        have := hyi.2.1 z (8 * p + k) (by omega) (by omega)
        have e1 : (8 * p + k) / 8 = p := by omega
        have e2 : (8 * p + k) % 8 = k := by omega
        rw [e1, e2] at this
        exact this hp hk) (fun z => by have := hyi.2.2.1 z; omega)
      refine ⟨ly2, wa2, h2, fun post h => br_f q (br_f (by decide) ⟨41, hw post _ ?_⟩)⟩
      rw [nI_1]
      exact hw2 post h
theorem yw_23 {d oc rs st ot ac : Int32} {pc ln op ra rb rc rn ko pr po rg ly : Nat → Int32} : ∀ (m i : Nat), i + m = 5 → ∀ (wa : Nat → Int32), (∀ j, j < i → (fx_yw wa j = true ↔ j = 0)) → ∃ wa' : Nat → Int32, (∀ j, j < 5 → (fx_yw wa' j = true ↔ j = 0)) ∧ ∀ (post : SY → Prop), (∃ n53, wY_collect_53 post n53 1 0 d oc rs st ot ac pc ln op ra rb rc rn ko pr po rg ly wa') → wY_collect_23 post d oc rs st ot ac (m + 1) (nI i) pc ln op ra rb rc rn ko pr po rg ly wa := by
  intro m
  induction m with
  | zero =>
    intro i hi wa h
    have : i = 5 := by omega
    subst this
    exact ⟨wa, h, fun post h => br_t (by decide) h⟩
  | succ m ih =>
    intro i hi wa h
    have ci : (nI i).toNatClampNeg = i := nI_clamp (by omega)
    have q : ¬ (5 : Int32) ≤ nI i := nI_ge (b := 5) (by omega) (by decide)
    by_cases e : i = 0
    · subst e
      obtain ⟨wa', h1, h2⟩ := ih 1 (by omega) (upd wa 0 1) (fun j hj => by
        have : j = 0 := by omega
        subst this
        rw [fx_yw_t, pk_us]
        exact ⟨fun _ => rfl, fun _ => by decide⟩)
      exact ⟨wa', h1, fun post hp => br_f q (br_t (by decide) ⟨vp_in_nI (by omega) (by omega), nm_r (e' := upd wa 0 1) (by rw [ci]; rfl) (nm_r (nI_1 0) (h2 post hp))⟩)⟩
    · obtain ⟨wa', h1, h2⟩ := ih (i + 1) (by omega) (upd wa i 0) (fun j hj => by
        by_cases e' : j = i
        · rw [fx_yw_t, e', pk_us]
          exact ⟨fun z => absurd rfl z, fun z => absurd z e⟩
        · rw [fx_yw_t, pk_un e', ← fx_yw_t]; exact h j (by omega))
      exact ⟨wa', h1, fun post hp => br_f q (br_f (nI_ne0 (by omega) (by omega)) ⟨vp_in_nI (by omega) (by omega), nm_r (e' := upd wa i 0) (by rw [ci]; rfl) (nm_r (nI_1 i) (h2 post hp))⟩)⟩
theorem yw_2 {d oc rs st ot ac : Int32} {pc ln op ra rb rc rn ko pr po rg wa : Nat → Int32} : ∀ (m i : Nat), i + m = 45 → ∀ (ly : Nat → Int32), (∀ j, j < i → ly j = 0) → ∃ ly' : Nat → Int32, (∀ j, j < 45 → ly' j = 0) ∧ ∀ (post : SY → Prop), (∃ n23, wY_collect_23 post d oc rs st ot ac n23 0 pc ln op ra rb rc rn ko pr po rg ly' wa) → wY_collect_2 post d oc rs st ot ac (m + 1) (nI i) pc ln op ra rb rc rn ko pr po rg ly wa := by
  intro m
  induction m with
  | zero =>
    intro i hi ly h
    have : i = 45 := by omega
    subst this
    exact ⟨ly, h, fun post h => br_t (by decide) h⟩
  | succ m ih =>
    intro i hi ly h
    have ci : (nI i).toNatClampNeg = i := nI_clamp (by omega)
    obtain ⟨ly', h1, h2⟩ := ih (i + 1) (by omega) (upd ly i 0) (fun j hj => by
      by_cases e : j = i
      · rw [e, pk_us]
      · rw [pk_un e]; exact h j (by omega))
    refine ⟨ly', h1, fun post hp => br_f (nI_ge (b := 45) (by omega) (by decide)) ⟨vp_in_nI (by omega) (by omega), nm_r (by rw [ci]) (nm_r (nI_1 i) (h2 post hp))⟩⟩
theorem yw_collect {D : Nat} {oc rs st ot ac : Int32} {pc ln op ra rb rc rn ko pr po rg ly wa : Nat → Int32} (hok : fx_ok D pc ln op ra rb rc rn) : ∃ (ly' wa' : Nat → Int32), (fx_inv D pc ln op ra rb rc rn ly' (fx_yw wa') ∧ fx_closed D pc ln op ra rb rc rn ly' (fx_yw wa')) ∧ ∀ (post : SY → Prop), post (nI D, oc, rs, st, ot, ac, pc, ln, op, ra, rb, rc, rn, ko, pr, po, rg, ly', wa') → wpY_collect post (nI D, oc, rs, st, ot, ac, pc, ln, op, ra, rb, rc, rn, ko, pr, po, rg, ly, wa) := by
  obtain ⟨ly0, h0, hw0⟩ := yw_2 (d := nI D) (oc := oc) (rs := rs) (st := st) (ot := ot) (ac := ac) (pc := pc) (ln := ln) (op := op) (ra := ra) (rb := rb) (rc := rc) (rn := rn) (ko := ko) (pr := pr) (po := po) (rg := rg) (wa := wa) 45 0 rfl ly (fun j hj => absurd hj (by omega))
  obtain ⟨wa0, v0, hv0⟩ := yw_23 (d := nI D) (oc := oc) (rs := rs) (st := st) (ot := ot) (ac := ac) (pc := pc) (ln := ln) (op := op) (ra := ra) (rb := rb) (rc := rc) (rn := rn) (ko := ko) (pr := pr) (po := po) (rg := rg) (ly := ly0) 5 0 rfl wa (fun j hj => absurd hj (by omega))
  have hinv : fx_inv D pc ln op ra rb rc rn ly0 (fx_yw wa0) := fx_inv0 hok h0 v0
  have hc : 0 + 1 ≤ fx_cnt (fx_py ly0 (fx_yw wa0)) 245 := by
    have e := fx_py_w (L := ly0) (W := fx_yw wa0) (q := 0) (by omega)
    exact fx_cnt_pos e.1 (by rw [e.2]; exact hinv.1)
  obtain ⟨ly1, wa1, h1, hw1⟩ := yw_53 (oc := oc) (rs := rs) (st := st) (ot := ot) (ac := ac) (ko := ko) (pr := pr) (po := po) (rg := rg) hok 250 0 rfl 1 ly0 wa0 (.inr rfl) hinv (fun z => absurd z (by decide)) (fun _ => hc)
  exact ⟨ly1, wa1, h1, fun post h => ⟨46, hw0 post ⟨6, hv0 post ⟨251, hw1 post h⟩⟩⟩⟩
end
section
/-! the relation, and the calls that build -/
def i_Rel (_ : Nat) (u : SX) (v : SY) : Prop := ∃ (D : Nat) (oc rs st ot ac mr : Int32) (pc ln op ra rb rc rn ko pr ap rr rg lv po ly wa : Nat → Int32), u = (nI D, oc, rs, st, ot, ac, mr, pc, ln, op, ra, rb, rc, rn, ko, pr, ap, rr, rg, lv) ∧ v = (nI D, oc, rs, st, ot, ac, pc, ln, op, ra, rb, rc, rn, ko, pr, po, rg, ly, wa) ∧ fx_ok D pc ln op ra rb rc rn
theorem i_up {k : Nat} {u : SX} {v : SY} (h : i_Rel k u v) : i_Rel (k + 5) u v := h
theorem zr_mk (k : Nat) {D : Nat} {oc rs st ot ac mr : Int32} {pc ln op ra rb rc rn ko pr ap rr rg lv po ly wa : Nat → Int32} (h : fx_ok D pc ln op ra rb rc rn) : i_Rel k (nI D, oc, rs, st, ot, ac, mr, pc, ln, op, ra, rb, rc, rn, ko, pr, ap, rr, rg, lv) (nI D, oc, rs, st, ot, ac, pc, ln, op, ra, rb, rc, rn, ko, pr, po, rg, ly, wa) :=
  ⟨D, oc, rs, st, ot, ac, mr, pc, ln, op, ra, rb, rc, rn, ko, pr, ap, rr, rg, lv, po, ly, wa, rfl, rfl, h⟩
theorem zr_ok0 {pc ln op ra rb rc rn : Nat → Int32} : fx_ok 0 pc ln op ra rb rc rn := ⟨by omega, fun p hp => absurd hp (by omega), fun p hp => absurd hp (by omega)⟩
theorem i_vc0 : wpX_init (fun u => wpY_init (fun v => i_Rel 0 u v)) := zr_mk 0 zr_ok0
theorem xw_dec_t {post : Int32 → Prop} {D j : Nat} {oc rs st ot ac mr : Int32} {pc ln op ra rb rc rn ko pr ap rr rg lv : Nat → Int32} (hD : D ≤ 5) (hj : j < D) (h : post 1) : wpX_isDeclared post (nI D, oc, rs, st, ot, ac, mr, pc, ln, op, ra, rb, rc, rn, ko, pr, ap, rr, rg, lv) (nI j) := br_f (nI_pos (by omega)) (br_f (nI_ge hj (by omega)) h)
theorem xw_dec_f {post : Int32 → Prop} {D : Nat} {x : Int32} {oc rs st ot ac mr : Int32} {pc ln op ra rb rc rn ko pr ap rr rg lv : Nat → Int32} (hx : x < 0 ∨ nI D ≤ x) (h : post 0) : wpX_isDeclared post (nI D, oc, rs, st, ot, ac, mr, pc, ln, op, ra, rb, rc, rn, ko, pr, ap, rr, rg, lv) x := br_c (fun _ => h) fun hn => br_t (hx.elim (fun z => absurd z hn) id) h
theorem yw_dec_t {post : Int32 → Prop} {D j : Nat} {oc rs st ot ac : Int32} {pc ln op ra rb rc rn ko pr po rg ly wa : Nat → Int32} (hD : D ≤ 5) (hj : j < D) (h : post 1) : wpY_declared post (nI D, oc, rs, st, ot, ac, pc, ln, op, ra, rb, rc, rn, ko, pr, po, rg, ly, wa) (nI j) := br_f (nI_pos (by omega)) (br_f (nI_ge hj (by omega)) h)
theorem yw_dec_f {post : Int32 → Prop} {D : Nat} {x : Int32} {oc rs st ot ac : Int32} {pc ln op ra rb rc rn ko pr po rg ly wa : Nat → Int32} (hx : x < 0 ∨ nI D ≤ x) (h : post 0) : wpY_declared post (nI D, oc, rs, st, ot, ac, pc, ln, op, ra, rb, rc, rn, ko, pr, po, rg, ly, wa) x := br_c (fun _ => h) fun hn => br_t (hx.elim (fun z => absurd z hn) id) h
theorem zr_ix (x : Int32) {D : Nat} (hD : D ≤ 5) : (x < 0 ∨ nI D ≤ x) ∨ ∃ j : Nat, j < D ∧ x = nI j := by
  rcases pk_ix x (n := D) (by omega) with h | h | h
  · exact .inl (.inl h)
  · exact .inl (.inr h)
  · exact .inr h
theorem zr_ok_decl {D a : Nat} {pc ln op ra rb rc rn : Nat → Int32} (h : fx_ok D pc ln op ra rb rc rn) (hD : D < 5) (ha : a ≤ 3) : fx_ok (D + 1) (upd pc D (nI a)) (upd ln D 0) op ra rb rc rn := by
  obtain ⟨h1, h2, h3⟩ := h
  refine ⟨by omega, fun p hp => ?_, fun p hp k hk => ?_⟩
  · by_cases e : p = D
    · subst e
      rw [pk_us, pk_us]
      exact ⟨fx_nn_nI ha (by omega), fx_nn_nI (n := 0) (by omega) (by omega)⟩
    · rw [pk_un e, pk_un e]
      exact h2 p (by omega)
  · by_cases e : p = D
    · subst e
      rw [pk_us] at hk
      exact absurd hk (Nat.not_lt_zero _)
    · rw [pk_un e] at hk
      obtain ⟨g1, g2, g3, g4, g5, g6, g7⟩ := h3 p (by omega) k hk
      refine ⟨g1, g2, g3, g4, g5, g6, fun z => ?_⟩
      obtain ⟨z1, z2, z3⟩ := g7 z
      refine ⟨z1, by omega, ?_⟩
      rw [pk_un (by omega)]
      exact z3
theorem i_vc_declare {k : Nat} {u : SX} {v : SY} (I : i_Rel k u v) (hk : k + 5 ≤ 2560) (v1 : Int32) : wpX_declare (fun r u' => wpY_declare (fun r' v' => r' = r ∧ i_Rel (k + 5) u' v') v v1) u v1 := by
  obtain ⟨D, oc, rs, st, ot, ac, mr, pc, ln, op, ra, rb, rc, rn, ko, pr, ap, rr, rg, lv, po, ly, wa, rfl, rfl, hok⟩ := I
  have hD := hok.1
  by_cases h0 : v1 < 0
  · exact br_t h0 (br_t h0 ⟨rfl, zr_mk _ hok⟩)
  · by_cases h3 : v1 ≤ 3
    · obtain ⟨a, ha, rfl⟩ := nI_of2 (M := 3) (n := 3) (by decide) h0 h3
      by_cases hd : D < 5
      · have q : nI D < 5 := nI_lt (b := 5) hd (by decide)
        have cD : (nI D).toNatClampNeg = D := nI_clamp (by omega)
        have iD : vp_in (nI D) 5 := vp_in_nI hd (by omega)
        refine br_f h0 (br_t h3 (br_t q ⟨iD, nm_r (by rw [cD]) ⟨iD, nm_r (by rw [cD]) (nm_r (nI_1 D) ?_)⟩⟩))
        refine br_f h0 (br_t h3 (br_t q ⟨iD, nm_r (by rw [cD]) ⟨iD, nm_r (by rw [cD]) (nm_r (nI_1 D) ⟨nI_pred D, ?_⟩)⟩⟩))
        exact zr_mk _ (zr_ok_decl hok hd ha)
      · have q : ¬ nI D < 5 := nI_nlt (b := 5) (by omega) (by omega)
        exact br_f h0 (br_t h3 (br_f q (br_f h0 (br_t h3 (br_f q ⟨rfl, zr_mk _ hok⟩)))))
    · exact br_f h0 (br_f h3 (br_f h0 (br_f h3 ⟨rfl, zr_mk _ hok⟩)))
theorem i_vc_clear {k : Nat} {u : SX} {v : SY} (I : i_Rel k u v) (hk : k + 5 ≤ 2560) : wpX_clear (fun u' => wpY_clear (fun v' => i_Rel (k + 5) u' v') v) u := by
  obtain ⟨D, oc, rs, st, ot, ac, mr, pc, ln, op, ra, rb, rc, rn, ko, pr, ap, rr, rg, lv, po, ly, wa, rfl, rfl, hok⟩ := I
  unfold wpX_clear wpX_forgetRun
  dsimp only
  unfold wpY_clear wpY_forget
  exact zr_mk (D := 0) (k + 5) zr_ok0
theorem i_vc_length {k : Nat} {u : SX} {v : SY} (I : i_Rel k u v) (hk : k + 5 ≤ 2560) (v1 : Int32) : wpX_length (fun r => wpY_length (fun r' => r' = r ∧ i_Rel (k + 5) u v) v v1) u v1 := by
  obtain ⟨D, oc, rs, st, ot, ac, mr, pc, ln, op, ra, rb, rc, rn, ko, pr, ap, rr, rg, lv, po, ly, wa, rfl, rfl, hok⟩ := I
  have hD := hok.1
  rcases zr_ix v1 hD with hx | ⟨p, hp, rfl⟩
  · unfold wpX_length
    refine xw_dec_f hx ?_
    refine br_t rfl ?_
    unfold wpY_length
    refine yw_dec_f hx ?_
    exact br_t rfl ⟨rfl, zr_mk _ hok⟩
  · have ip : vp_in (nI p) 5 := vp_in_nI (by omega) (by omega)
    unfold wpX_length
    refine xw_dec_t hD hp ?_
    refine br_f (by decide) ⟨ip, ?_⟩
    unfold wpY_length
    refine yw_dec_t hD hp ?_
    exact br_f (by decide) ⟨ip, rfl, zr_mk _ hok⟩
theorem i_vc_outcome {k : Nat} {u : SX} {v : SY} (I : i_Rel k u v) (hk : k + 5 ≤ 2560) : wpX_outcome (fun r => wpY_outcome (fun r' => r' = r ∧ i_Rel (k + 5) u v) v) u := by
  obtain ⟨D, oc, rs, st, ot, ac, mr, pc, ln, op, ra, rb, rc, rn, ko, pr, ap, rr, rg, lv, po, ly, wa, rfl, rfl, hok⟩ := I
  exact ⟨rfl, zr_mk _ hok⟩
theorem i_vc_result {k : Nat} {u : SX} {v : SY} (I : i_Rel k u v) (hk : k + 5 ≤ 2560) : wpX_result (fun r => wpY_result (fun r' => r' = r ∧ i_Rel (k + 5) u v) v) u := by
  obtain ⟨D, oc, rs, st, ot, ac, mr, pc, ln, op, ra, rb, rc, rn, ko, pr, ap, rr, rg, lv, po, ly, wa, rfl, rfl, hok⟩ := I
  exact ⟨rfl, zr_mk _ hok⟩
theorem i_vc_steps {k : Nat} {u : SX} {v : SY} (I : i_Rel k u v) (hk : k + 5 ≤ 2560) : wpX_steps (fun r => wpY_steps (fun r' => r' = r ∧ i_Rel (k + 5) u v) v) u := by
  obtain ⟨D, oc, rs, st, ot, ac, mr, pc, ln, op, ra, rb, rc, rn, ko, pr, ap, rr, rg, lv, po, ly, wa, rfl, rfl, hok⟩ := I
  exact ⟨rfl, zr_mk _ hok⟩
theorem i_vc_outs {k : Nat} {u : SX} {v : SY} (I : i_Rel k u v) (hk : k + 5 ≤ 2560) : wpX_outs (fun r => wpY_outs (fun r' => r' = r ∧ i_Rel (k + 5) u v) v) u := by
  obtain ⟨D, oc, rs, st, ot, ac, mr, pc, ln, op, ra, rb, rc, rn, ko, pr, ap, rr, rg, lv, po, ly, wa, rfl, rfl, hok⟩ := I
  exact ⟨rfl, zr_mk _ hok⟩
theorem i_vc_out {k : Nat} {u : SX} {v : SY} (I : i_Rel k u v) (hk : k + 5 ≤ 2560) (v1 : Int32) : wpX_out (fun r => wpY_out (fun r' => r' = r ∧ i_Rel (k + 5) u v) v v1) u v1 := by
  obtain ⟨D, oc, rs, st, ot, ac, mr, pc, ln, op, ra, rb, rc, rn, ko, pr, ap, rr, rg, lv, po, ly, wa, rfl, rfl, hok⟩ := I
  by_cases h0 : v1 < 0
  · exact br_t h0 (br_t h0 ⟨rfl, zr_mk _ hok⟩)
  · by_cases h16 : 16 ≤ v1
    · exact br_f h0 (br_t h16 (br_f h0 (br_t h16 ⟨rfl, zr_mk _ hok⟩)))
    · by_cases ho : ot ≤ v1
      · exact br_f h0 (br_f h16 (br_t ho (br_f h0 (br_f h16 (br_t ho ⟨rfl, zr_mk _ hok⟩)))))
      · have hin : vp_in v1 16 := by
          obtain ⟨j, hj, rfl⟩ := nI_of h0
          have : j < 16 := by
            apply Classical.byContradiction
            intro z
            exact h16 (nI_le (a := 16) (by omega) (by omega))
          exact vp_in_nI this (by omega)
        exact br_f h0 (br_f h16 (br_f ho ⟨hin, br_f h0 (br_f h16 (br_f ho ⟨hin, rfl, zr_mk _ hok⟩))⟩))
theorem zr_ok_drop {D p l : Nat} {pc ln op ra rb rc rn : Nat → Int32} (h : fx_ok D pc ln op ra rb rc rn) (hp : p < D) (hl : l ≤ (ln p).toNatClampNeg) : fx_ok D pc (upd ln p (nI l)) op ra rb rc rn := by
  obtain ⟨h1, h2, h3⟩ := h
  have h28 := (h2 p hp).2.2
  refine ⟨h1, fun p' hp' => ⟨(h2 p' hp').1, ?_⟩, fun p' hp' k' hk' => h3 p' hp' k' ?_⟩
  · by_cases e : p' = p
    · subst e
      rw [pk_us]
      exact fx_nn_nI (by omega) (by omega)
    · rw [pk_un e]; exact (h2 p' hp').2
  · by_cases e : p' = p
    · subst e
      rw [pk_us, nI_clamp (by omega)] at hk'
      omega
    · rw [pk_un e] at hk'; exact hk'
theorem i_vc_drop {k : Nat} {u : SX} {v : SY} (I : i_Rel k u v) (hk : k + 5 ≤ 2560) (v1 : Int32) : wpX_drop (fun r u' => wpY_drop (fun r' v' => r' = r ∧ i_Rel (k + 5) u' v') v v1) u v1 := by
  obtain ⟨D, oc, rs, st, ot, ac, mr, pc, ln, op, ra, rb, rc, rn, ko, pr, ap, rr, rg, lv, po, ly, wa, rfl, rfl, hok⟩ := I
  have hD := hok.1
  rcases zr_ix v1 hD with hx | ⟨p, hp, rfl⟩
  · unfold wpX_drop
    refine xw_dec_f hx ?_
    refine br_t rfl ?_
    unfold wpY_drop
    refine yw_dec_f hx ?_
    exact br_t rfl ⟨rfl, zr_mk _ hok⟩
  · have ip : vp_in (nI p) 5 := vp_in_nI (by omega) (by omega)
    have cp : (nI p).toNatClampNeg = p := nI_clamp (by omega)
    have hl := (hok.2.1 p hp).2
    unfold wpX_drop
    refine xw_dec_t hD hp ?_
    refine br_f (by decide) ⟨ip, ?_⟩
    by_cases hz : ln (nI p).toNatClampNeg = 0
    · refine br_t hz ?_
      unfold wpY_drop
      refine yw_dec_t hD hp ?_
      exact br_f (by decide) ⟨ip, br_t hz ⟨rfl, zr_mk _ hok⟩⟩
    · have e : upd ln (nI p).toNatClampNeg (ln (nI p).toNatClampNeg - 1) = upd ln p (nI ((ln p).toNatClampNeg - 1)) := by
        rw [cp] at hz ⊢
        have h0 : (ln p).toNatClampNeg ≠ 0 := fun z => hz (by rw [hl.1, z]; rfl)
        have : ln p - 1 = nI ((ln p).toNatClampNeg - 1) := by
          conv => lhs; rw [hl.1]
          exact pk_sub (b := 1) (by omega)
        rw [this]
      have hok' := zr_ok_drop (l := (ln p).toNatClampNeg - 1) hok hp (by omega)
      refine br_f hz ⟨ip, ip, nm_r e ⟨ip, ?_⟩⟩
      unfold wpY_drop
      refine yw_dec_t hD hp ?_
      refine br_f (by decide) ⟨ip, br_f hz ⟨ip, ip, nm_r e ⟨ip, rfl, ?_⟩⟩⟩
      exact zr_mk _ hok'
end
section
theorem zr_o {o n : Nat} (ho : o ≤ 7) (hn : n ≤ 7) (h : o ≠ n) : ¬ nI o = nI n := fun z => h ((nI_eq (by omega) (by omega)).mp z)
theorem xw_reg_t {post : Int32 → Prop} {a : Nat} (h : a ≤ 5) (hp : post 1) : wpX_isRegister post (nI a) := br_f (nI_pos (by omega)) (br_f (nI_ge (b := 6) (by omega) (by decide)) hp)
theorem xw_reg_f {post : Int32 → Prop} {a : Nat} (h : ¬ a ≤ 5) (ha : a < 8) (hp : post 0) : wpX_isRegister post (nI a) := br_f (nI_pos (by omega)) (br_t (nI_le (a := 6) (by omega) (by omega)) hp)
theorem xw_arN_t {post : Int32 → Prop} {o : Nat} (h : 1 ≤ o ∧ o ≤ 3) (hp : post 1) : wpX_isArithmetic post (nI o) := by
  have : o = 1 ∨ o = 2 ∨ o = 3 := by omega
  rcases this with rfl | rfl | rfl
  · exact xw_ar_t (.inl rfl) hp
  · exact xw_ar_t (.inr (.inl rfl)) hp
  · exact xw_ar_t (.inr (.inr rfl)) hp
theorem xw_arN_f {post : Int32 → Prop} {o : Nat} (ho : o ≤ 7) (h : ¬ (1 ≤ o ∧ o ≤ 3)) (hp : post 0) : wpX_isArithmetic post (nI o) :=
  xw_ar_f (zr_o (n := 1) ho (by omega) (by omega)) (zr_o (n := 2) ho (by omega) (by omega)) (zr_o (n := 3) ho (by omega) (by omega)) hp
def zr_fit (o a b c : Nat) : Prop := a ≤ 5 ∧ (1 ≤ o ∧ o ≤ 3 → b ≤ 5 ∧ c ≤ 5)
theorem xw_fit {post : Int32 → Prop} {o a b c : Nat} (ho : o ≤ 7) (ha : a < 8) (hb : b < 8) (hc : c < 8) (hT : zr_fit o a b c → post 1) (hF : ¬ zr_fit o a b c → post 0) : wpX_registersFit post (nI o) (nI a) (nI b) (nI c) := by
  unfold wpX_registersFit
  by_cases h1 : a ≤ 5
  · refine xw_reg_t h1 ?_
    refine br_f (by decide) ?_
    by_cases h2 : 1 ≤ o ∧ o ≤ 3
    · refine xw_arN_t h2 ?_
      refine br_f (by decide) ?_
      by_cases h3 : b ≤ 5
      · refine xw_reg_t h3 ?_
        refine br_f (by decide) ?_
        by_cases h4 : c ≤ 5
        · refine xw_reg_t h4 ?_
          exact br_f (by decide) (hT ⟨h1, fun _ => ⟨h3, h4⟩⟩)
        · refine xw_reg_f h4 hc ?_
          exact br_t rfl (hF fun z => h4 (z.2 h2).2)
      · refine xw_reg_f h3 hb ?_
        exact br_t rfl (hF fun z => h3 (z.2 h2).1)
    · refine xw_arN_f ho h2 ?_
      exact br_t rfl (hT ⟨h1, fun z => absurd z h2⟩)
  · refine xw_reg_f h1 ha ?_
    exact br_t rfl (hF fun z => h1 z.1)
def zr_tgt (D : Nat) (pc ln : Nat → Int32) (p o b : Nat) (x : Int32) : Prop := (o = 4 → ln p < x ∧ x ≤ 8) ∧ (o = 5 → ∃ q, q < D ∧ x = nI q ∧ b + (pc q).toNatClampNeg ≤ 6)
theorem zr_nin {D : Nat} {x : Int32} (hD : D ≤ 5) (hx : x < 0 ∨ nI D ≤ x) {q : Nat} (hq : q < D) : ¬ x = nI q := by
  intro z
  subst z
  rcases hx with h | h
  · exact nI_pos (by omega) h
  · exact nI_ge hq (by omega) h
theorem xw_tgt {post : Int32 → Prop} {D : Nat} {oc rs st ot ac mr : Int32} {pc ln op ra rb rc rn ko pr ap rr rg lv : Nat → Int32} {p o b : Nat} {x : Int32} (hok : fx_ok D pc ln op ra rb rc rn) (hp : p < D) (ho : o ≤ 7) (hb : b < 8) (hT : zr_tgt D pc ln p o b x → post 1) (hF : ¬ zr_tgt D pc ln p o b x → post 0) : wpX_targetFits post (nI D, oc, rs, st, ot, ac, mr, pc, ln, op, ra, rb, rc, rn, ko, pr, ap, rr, rg, lv) (nI p) (nI o) (nI b) x := by
  have hD := hok.1
  have ip : vp_in (nI p) 5 := vp_in_nI (by omega) (by omega)
  have cp : (nI p).toNatClampNeg = p := nI_clamp (by omega)
  unfold wpX_targetFits
  rw [cp]
  by_cases h4 : o = 4
  · subst h4
    refine br_t rfl ⟨ip, ?_⟩
    by_cases h1 : x ≤ ln p
    · exact br_t h1 (hF fun z => Int32.not_lt.mpr h1 (z.1 rfl).1)
    · refine br_f h1 ?_
      by_cases h2 : 8 < x
      · exact br_t h2 (hF fun z => Int32.not_lt.mpr (z.1 rfl).2 h2)
      · exact br_f h2 (hT ⟨fun _ => ⟨Int32.not_le.mp h1, Int32.not_lt.mp h2⟩, fun z => absurd z (by decide)⟩)
  · refine br_f (zr_o (n := 4) ho (by omega) h4) ?_
    by_cases h5 : o = 5
    · subst h5
      refine br_t rfl ?_
      rcases zr_ix x hD with hx | ⟨q, hq, rfl⟩
      · refine xw_dec_f hx ?_
        exact br_t rfl (hF fun z => by
          obtain ⟨q, hq, e, _⟩ := z.2 rfl
          exact zr_nin hD hx hq e)
      · refine xw_dec_t hD hq ?_
        have cq : (nI q).toNatClampNeg = q := nI_clamp (by omega)
        have hpc := (hok.2.1 q hq).1
        have hpc2 := hpc.2
        rw [cq, fx_addn _ hpc]
        refine br_f (by decide) ⟨vp_in_nI (by omega) (by omega), ?_⟩
        refine pk_lt 6 (b + (pc q).toNatClampNeg) (fun z => hF fun y => ?_) (fun z => hT ⟨fun y => absurd y (by decide), fun _ => ⟨q, hq, rfl, z⟩⟩)
        obtain ⟨q', hq', e, y'⟩ := y.2 rfl
        have : q = q' := (nI_eq (by omega) (by omega)).mp e
        subst this
        omega
    · exact br_f (zr_o (n := 5) ho (by omega) h5) (hT ⟨fun z => absurd z h4, fun z => absurd z h5⟩)
theorem yw_73 {post : Int32 → Prop} {D : Nat} {oc rs st ot ac : Int32} {pc ln op ra rb rc rn ko pr po rg ly wa : Nat → Int32} {p o b : Nat} {x : Int32} (hok : fx_ok D pc ln op ra rb rc rn) (hp : p < D) (ho : o ≤ 7) (hb : b < 8) (hT : zr_tgt D pc ln p o b x → post 0) (hF : ¬ zr_tgt D pc ln p o b x → post 1) : wY_bad_73 post (nI p) (nI o) x (nI b) (nI D) oc rs st ot ac pc ln op ra rb rc rn ko pr po rg ly wa := by
  have hD := hok.1
  have ip : vp_in (nI p) 5 := vp_in_nI (by omega) (by omega)
  have cp : (nI p).toNatClampNeg = p := nI_clamp (by omega)
  unfold wY_bad_73
  rw [cp]
  by_cases h4 : o = 4
  · subst h4
    refine br_t rfl ⟨ip, ?_⟩
    by_cases h1 : x ≤ ln p
    · exact br_t h1 (hF fun z => Int32.not_lt.mpr h1 (z.1 rfl).1)
    · refine br_f h1 ?_
      by_cases h2 : x ≤ 8
      · exact br_t h2 (hT ⟨fun _ => ⟨Int32.not_le.mp h1, h2⟩, fun z => absurd z (by decide)⟩)
      · exact br_f h2 (hF fun z => h2 (z.1 rfl).2)
  · refine br_f (zr_o (n := 4) ho (by omega) h4) ?_
    by_cases h5 : o = 5
    · subst h5
      refine br_t rfl ?_
      rcases zr_ix x hD with hx | ⟨q, hq, rfl⟩
      · refine yw_dec_f hx ?_
        exact br_t rfl (hF fun z => by
          obtain ⟨q, hq, e, _⟩ := z.2 rfl
          exact zr_nin hD hx hq e)
      · refine yw_dec_t hD hq ?_
        have cq : (nI q).toNatClampNeg = q := nI_clamp (by omega)
        have hpc := (hok.2.1 q hq).1
        have hpc2 := hpc.2
        rw [cq, fx_addn _ hpc]
        refine br_f (by decide) ⟨vp_in_nI (by omega) (by omega), ?_⟩
        refine pk_le (b + (pc q).toNatClampNeg) 6 (fun z => hT ⟨fun y => absurd y (by decide), fun _ => ⟨q, hq, rfl, z⟩⟩) (fun z => hF fun y => ?_)
        obtain ⟨q', hq', e, y'⟩ := y.2 rfl
        have : q = q' := (nI_eq (by omega) (by omega)).mp e
        subst this
        omega
    · exact br_f (zr_o (n := 5) ho (by omega) h5) (hT ⟨fun z => absurd z h4, fun z => absurd z h5⟩)
theorem zr_a {m : Nat} (hm : m ≤ 511) : nI m &&& 7 = nI (m % 8) := pk_andN (by omega) 3 (by decide)
theorem zr_s3 {m : Nat} (hm : m ≤ 511) : nI m >>> ((3 : Int32) &&& 31) = nI (m / 8) := pk_shrN (by omega) _ 3 (by decide)
theorem zr_b {m : Nat} (hm : m ≤ 511) : (nI m >>> ((3 : Int32) &&& 31)) &&& 7 = nI (m / 8 % 8) := by
  rw [zr_s3 hm]
  exact pk_andN (by omega) 3 (by decide)
theorem zr_c {m : Nat} (hm : m ≤ 511) : nI m >>> ((6 : Int32) &&& 31) = nI (m / 64) := pk_shrN (by omega) _ 6 (by decide)
theorem yw_bad {post : Int32 → Prop} {D : Nat} {oc rs st ot ac : Int32} {pc ln op ra rb rc rn ko pr po rg ly wa : Nat → Int32} {p o m : Nat} {x : Int32} (hok : fx_ok D pc ln op ra rb rc rn) (hp : p < D) (ho : o ≤ 7) (hm : m ≤ 511) (hT : zr_fit o (m % 8) (m / 8 % 8) (m / 64) → zr_tgt D pc ln p o (m / 8 % 8) x → post 0) (hF : ¬ (zr_fit o (m % 8) (m / 8 % 8) (m / 64) ∧ zr_tgt D pc ln p o (m / 8 % 8) x) → post 1) : wpY_bad post (nI D, oc, rs, st, ot, ac, pc, ln, op, ra, rb, rc, rn, ko, pr, po, rg, ly, wa) (nI p) (nI o) (nI m) x := by
  have hD := hok.1
  unfold wpY_bad
  refine yw_dec_t hD hp ?_
  refine br_f (by decide) (br_f (nI_pos (by omega)) (br_f (nI_nlt (a := 7) (by omega) (by decide)) (br_f (nI_pos (by omega)) (br_t (nI_le (b := 511) (by omega) (by decide)) ?_))))
  refine nm_r (zr_b hm) ?_
  rw [zr_a hm, zr_c hm]
  by_cases h1 : m % 8 ≤ 5
  · refine br_f (nI_nlt (a := 5) (by omega) (by decide)) ?_
    have h73 : zr_fit o (m % 8) (m / 8 % 8) (m / 64) → wY_bad_73 post (nI p) (nI o) x (nI (m / 8 % 8)) (nI D) oc rs st ot ac pc ln op ra rb rc rn ko pr po rg ly wa := fun hf => yw_73 hok hp ho (by omega) (hT hf) (fun z => hF fun y => z y.2)
    refine pk_lt o 1 (fun h2 => h73 ⟨h1, fun z => by omega⟩) (fun h2 => ?_)
    refine pk_lt 3 o (fun h3 => h73 ⟨h1, fun z => by omega⟩) (fun h3 => ?_)
    refine pk_lt 5 (m / 8 % 8) (fun h4 => hF fun z => ?_) (fun h4 => ?_)
    · have := z.1.2 ⟨h2, h3⟩
      omega
    · refine pk_le (m / 64) 5 (fun h5 => h73 ⟨h1, fun _ => ⟨h4, h5⟩⟩) (fun h5 => hF fun z => ?_)
      have := z.1.2 ⟨h2, h3⟩
      omega
  · exact br_t (nI_lt (a := 5) (by omega) (by omega)) (hF fun z => h1 z.1.1)
theorem zr_ok_emit {D p l o a b c : Nat} {x : Int32} {pc ln op ra rb rc rn : Nat → Int32} (h : fx_ok D pc ln op ra rb rc rn) (hp : p < D) (hl : l = (ln p).toNatClampNeg) (hl8 : l < 8) (ho : o ≤ 7) (ha : a ≤ 5) (hb : b ≤ 7) (hc : c ≤ 7) (h13 : 1 ≤ o ∧ o ≤ 3 → b ≤ 5 ∧ c ≤ 5) (h4 : o = 4 → ∃ n, x = nI n ∧ l < n ∧ n ≤ 8) (h5 : o = 5 → ∃ q, q < D ∧ x = nI q ∧ b + (pc q).toNatClampNeg ≤ 6) : fx_ok D pc (upd ln p (nI (l + 1))) (upd op (8 * p + l) (nI o)) (upd ra (8 * p + l) (nI a)) (upd rb (8 * p + l) (nI b)) (upd rc (8 * p + l) (nI c)) (upd rn (8 * p + l) x) := by
  obtain ⟨h1, h2, h3⟩ := h
  refine ⟨h1, fun p' hp' => ⟨(h2 p' hp').1, ?_⟩, fun p' hp' k' hk' => ?_⟩
  · by_cases e : p' = p
    · subst e
      rw [pk_us]
      exact fx_nn_nI (by omega) (by omega)
    · rw [pk_un e]; exact (h2 p' hp').2
  · have hk8 : k' < 8 := by
      by_cases e : p' = p
      · subst e
        rw [pk_us, nI_clamp (by omega)] at hk'
        omega
      · rw [pk_un e] at hk'
        have := (h2 p' hp').2.2
        omega
    by_cases e : p' = p ∧ k' = l
    · obtain ⟨rfl, rfl⟩ := e
      unfold fx_cell
      rw [pk_us, pk_us, pk_us, pk_us, pk_us]
      refine ⟨fx_nn_nI ho (by omega), fx_nn_nI ha (by omega), fx_nn_nI hb (by omega), fx_nn_nI hc (by omega), fun z => ?_, fun z => ?_, fun z => ?_⟩
      · rw [nI_clamp (by omega), nI_clamp (by omega)]
        refine h13 ?_
        rcases z with z | z | z
        · have := (nI_eq (a := o) (b := 1) (by omega) (by decide)).mp z
          omega
        · have := (nI_eq (a := o) (b := 2) (by omega) (by decide)).mp z
          omega
        · have := (nI_eq (a := o) (b := 3) (by omega) (by decide)).mp z
          omega
      · obtain ⟨n, rfl, q1, q2⟩ := h4 ((nI_eq (a := o) (b := 4) (by omega) (by decide)).mp z)
        rw [nI_clamp (by omega)]
        exact ⟨fx_nn_nI q2 (by omega), q1⟩
      · obtain ⟨q, hq, rfl, q1⟩ := h5 ((nI_eq (a := o) (b := 5) (by omega) (by decide)).mp z)
        rw [nI_clamp (by omega), nI_clamp (by omega)]
        exact ⟨fx_nn_nI (by omega) (by omega), hq, q1⟩
    · have hk0 : k' < (ln p').toNatClampNeg := by
        by_cases e' : p' = p
        · subst e'
          rw [pk_us, nI_clamp (by omega)] at hk'
          have : k' ≠ l := fun z => e ⟨rfl, z⟩
          omega
        · rw [pk_un e'] at hk'
          exact hk'
      have hne : 8 * p' + k' ≠ 8 * p + l := by omega
      have := h3 p' hp' k' hk0
      unfold fx_cell at this ⊢
      rw [pk_un hne, pk_un hne, pk_un hne, pk_un hne, pk_un hne]
      exact this
theorem i_vc_emit {k : Nat} {u : SX} {v : SY} (I : i_Rel k u v) (hk : k + 5 ≤ 2560) (v1 : Int32) (v2 : Int32) (v3 : Int32) (v4 : Int32) : wpX_emit (fun r u' => wpY_emit (fun r' v' => r' = r ∧ i_Rel (k + 5) u' v') v v1 v2 v3 v4) u v1 v2 v3 v4 := by
  obtain ⟨D, oc, rs, st, ot, ac, mr, pc, ln, op, ra, rb, rc, rn, ko, pr, ap, rr, rg, lv, po, ly, wa, rfl, rfl, hok⟩ := I
  have hD := hok.1
  unfold wpX_emit
  rcases zr_ix v1 hD with hx | ⟨p, hp, rfl⟩
  · refine xw_dec_f hx ?_
    refine br_t rfl ?_
    unfold wpY_emit wpY_bad
    refine yw_dec_f hx ?_
    exact br_t rfl (br_f (by decide) ⟨rfl, zr_mk _ hok⟩)
  · refine xw_dec_t hD hp ?_
    refine br_f (by decide) ?_
    have hbad : ∀ (hb : v2 < 0 ∨ 7 < v2 ∨ v3 < 0 ∨ ¬ v3 ≤ 511), wpY_emit (fun r' v' => r' = -1 ∧ i_Rel (k + 5) (nI D, oc, rs, st, ot, ac, mr, pc, ln, op, ra, rb, rc, rn, ko, pr, ap, rr, rg, lv) v') (nI D, oc, rs, st, ot, ac, pc, ln, op, ra, rb, rc, rn, ko, pr, po, rg, ly, wa) (nI p) v2 v3 v4 := by
      intro hb
      unfold wpY_emit wpY_bad
      refine yw_dec_t hD hp ?_
      refine br_f (by decide) (br_c (fun _ => br_f (by decide) ⟨rfl, zr_mk _ hok⟩) fun g1 => br_c (fun _ => br_f (by decide) ⟨rfl, zr_mk _ hok⟩) fun g2 => br_c (fun _ => br_f (by decide) ⟨rfl, zr_mk _ hok⟩) fun g3 => br_f ?_ (br_f (by decide) ⟨rfl, zr_mk _ hok⟩))
      rcases hb with z | z | z | z
      · exact absurd z g1
      · exact absurd z g2
      · exact absurd z g3
      · exact z
    by_cases g1 : v2 < 0
    · exact br_t g1 (hbad (.inl g1))
    · refine br_f g1 ?_
      by_cases g2 : 7 < v2
      · exact br_t g2 (hbad (.inr (.inl g2)))
      · refine br_f g2 ?_
        by_cases g3 : v3 < 0
        · exact br_t g3 (hbad (.inr (.inr (.inl g3))))
        · refine br_f g3 ?_
          by_cases g4 : v3 ≤ 511
          · refine br_t g4 ?_
            clear hbad
            obtain ⟨o, ho, rfl⟩ := nI_of2 (M := 7) (n := 7) (by decide) g1 (Int32.not_lt.mp g2)
            obtain ⟨m, hm, rfl⟩ := nI_of2 (M := 511) (n := 511) (by decide) g3 g4
            refine nm_r (zr_a hm) (nm_r (zr_b hm) (nm_r (zr_c hm) ?_))
            have hneg : ¬ (zr_fit o (m % 8) (m / 8 % 8) (m / 64) ∧ zr_tgt D pc ln p o (m / 8 % 8) v4) → wpY_emit (fun r' v' => r' = -1 ∧ i_Rel (k + 5) (nI D, oc, rs, st, ot, ac, mr, pc, ln, op, ra, rb, rc, rn, ko, pr, ap, rr, rg, lv) v') (nI D, oc, rs, st, ot, ac, pc, ln, op, ra, rb, rc, rn, ko, pr, po, rg, ly, wa) (nI p) (nI o) (nI m) v4 := by
              intro hn
              unfold wpY_emit
              refine yw_bad hok hp ho hm (fun z y => absurd ⟨z, y⟩ hn) (fun _ => ?_)
              exact br_f (by decide) ⟨rfl, zr_mk _ hok⟩
            refine xw_fit ho (by omega) (by omega) (by omega) (fun hf => ?_) (fun hf => br_t rfl (hneg fun z => hf z.1))
            refine br_f (by decide) ?_
            refine xw_tgt hok hp ho (by omega) (fun ht => ?_) (fun ht => br_t rfl (hneg fun z => ht z.2))
            clear hneg
            have ip : vp_in (nI p) 5 := vp_in_nI (by omega) (by omega)
            have cp : (nI p).toNatClampNeg = p := nI_clamp (by omega)
            have hl := (hok.2.1 p hp).2
            have hl2 := hl.2
            refine br_f (by decide) ⟨ip, nm_r (e' := nI (ln p).toNatClampNeg) (by rw [cp]; exact hl.1) ?_⟩
            have hY : ∀ (post : Int32 → SY → Prop), (nI (ln p).toNatClampNeg < 8 → post (nI (ln p).toNatClampNeg) (nI D, 0, 0, 0, 0, ac, pc, upd ln p (nI ((ln p).toNatClampNeg + 1)), upd op (8 * p + (ln p).toNatClampNeg) (nI o), upd ra (8 * p + (ln p).toNatClampNeg) (nI (m % 8)), upd rb (8 * p + (ln p).toNatClampNeg) (nI (m / 8 % 8)), upd rc (8 * p + (ln p).toNatClampNeg) (nI (m / 64)), upd rn (8 * p + (ln p).toNatClampNeg) v4, ko, pr, po, rg, ly, wa)) → (¬ nI (ln p).toNatClampNeg < 8 → post (-2) (nI D, oc, rs, st, ot, ac, pc, ln, op, ra, rb, rc, rn, ko, pr, po, rg, ly, wa)) → wpY_emit post (nI D, oc, rs, st, ot, ac, pc, ln, op, ra, rb, rc, rn, ko, pr, po, rg, ly, wa) (nI p) (nI o) (nI m) v4 := by
              intro post h1 h2
              unfold wpY_emit
              refine yw_bad hok hp ho hm (fun _ _ => ?_) (fun z => absurd ⟨hf, ht⟩ z)
              rw [zr_b hm, zr_a hm, zr_c hm, cp]
              have e : ln p = nI (ln p).toNatClampNeg := hl.1
              refine br_t rfl ⟨ip, ?_⟩
              by_cases hq : nI (ln p).toNatClampNeg < 8
              · have hq' : (ln p).toNatClampNeg < 8 := (nI_ltI (b := 8) (by omega) (by decide)).mp hq
                have i8 : vp_in (nI (8 * p + (ln p).toNatClampNeg)) 40 := vp_in_nI (by omega) (by omega)
                have c8 : (nI (8 * p + (ln p).toNatClampNeg)).toNatClampNeg = 8 * p + (ln p).toNatClampNeg := nI_clamp (by omega)
                refine br_t (by rw [e]; exact hq) ⟨ip, nm_r (e' := nI (8 * p + (ln p).toNatClampNeg)) (by conv => lhs; rw [e]
                                                                                                          exact fx_j8 _ _) ?_⟩
                rw [c8]
                refine ⟨i8, nm_e ⟨i8, nm_e ⟨i8, nm_e ⟨i8, nm_e ⟨i8, nm_e ⟨ip, ip, nm_r (e' := upd ln p (nI ((ln p).toNatClampNeg + 1))) ?_ ⟨ip, ?_⟩⟩⟩⟩⟩⟩⟩
                · congr 1
                  conv => lhs; rw [e]
                  exact nI_1 _
                · rw [pk_us, nI_pred]
                  exact h1 hq
              · exact br_f (by rw [e]; exact hq) (h2 hq)
            by_cases hq : nI (ln p).toNatClampNeg < 8
            · have hq' : (ln p).toNatClampNeg < 8 := (nI_ltI (b := 8) (by omega) (by decide)).mp hq
              have i8 : vp_in (nI (8 * p + (ln p).toNatClampNeg)) 40 := vp_in_nI (by omega) (by omega)
              have c8 : (nI (8 * p + (ln p).toNatClampNeg)).toNatClampNeg = 8 * p + (ln p).toNatClampNeg := nI_clamp (by omega)
              refine br_t hq (nm_r (fx_i8 _ _) ?_)
              rw [c8, cp, nI_1]
              refine ⟨i8, nm_e ⟨i8, nm_e ⟨i8, nm_e ⟨i8, nm_e ⟨i8, nm_e ⟨ip, nm_e ?_⟩⟩⟩⟩⟩⟩
              unfold wpX_forgetRun
              dsimp only
              refine hY _ (fun _ => ⟨rfl, zr_mk _ ?_⟩) (fun z => absurd hq z)
              refine zr_ok_emit hok hp rfl hq' ho hf.1 (by omega) (by omega) hf.2 (fun z => ?_) (fun z => ht.2 z)
              obtain ⟨t1, t2⟩ := ht.1 z
              have t0 : ¬ v4 < 0 := fun y => by
                have y1 : (0 : Int32) ≤ ln p := by rw [hl.1]; exact nI_pos' (by omega)
                exact Int32.not_lt.mpr (Int32.le_of_lt t1) (Int32.lt_of_lt_of_le y y1)
              obtain ⟨n, hn, rfl⟩ := nI_of2 (M := 8) (n := 8) (by decide) t0 t2
              refine ⟨n, rfl, ?_, hn⟩
              rw [hl.1] at t1
              exact (nI_ltI (by omega) (by omega)).mp t1
            · exact br_f hq (hY _ (fun z => absurd z hq) (fun _ => ⟨rfl, zr_mk _ hok⟩))
          · exact br_f g4 (hbad (.inr (.inr (.inr g4))))
end
section
/-! the three questions of what matters -/
theorem i_vc_parametersThatMatter {k : Nat} {u : SX} {v : SY} (I : i_Rel k u v) (hk : k + 5 ≤ 2560) (v1 : Int32) : wpX_parametersThatMatter (fun r u' => wpY_parametersThatMatter (fun r' v' => r' = r ∧ i_Rel (k + 5) u' v') v v1) u v1 := by
  obtain ⟨D, oc, rs, st, ot, ac, mr, pc, ln, op, ra, rb, rc, rn, ko, pr, ap, rr, rg, lv, po, ly, wa, rfl, rfl, hok⟩ := I
  have hD := hok.1
  obtain ⟨mr', lv', hx, hwx⟩ := xw_find (oc := oc) (rs := rs) (st := st) (ot := ot) (ac := ac) (mr := mr) (ko := ko) (pr := pr) (ap := ap) (rr := rr) (rg := rg) (lv := lv) hok
  obtain ⟨ly', wa', hy, hwy⟩ := yw_collect (oc := oc) (rs := rs) (st := st) (ot := ot) (ac := ac) (ko := ko) (pr := pr) (po := po) (rg := rg) (ly := ly) (wa := wa) hok
  obtain ⟨s1, s2⟩ := fx_same hx.1 hx.2 hy.1 hy.2
  unfold wpX_parametersThatMatter
  rcases zr_ix v1 hD with hv | ⟨p, hp, rfl⟩
  · refine xw_dec_f hv ?_
    refine br_t rfl ?_
    unfold wpY_parametersThatMatter
    refine hwy _ ?_
    refine yw_dec_f hv ?_
    exact br_t rfl ⟨rfl, zr_mk _ hok⟩
  · have ip : vp_in (nI p) 5 := vp_in_nI (by omega) (by omega)
    have cp : (nI p).toNatClampNeg = p := nI_clamp (by omega)
    have c9 : (nI (9 * p)).toNatClampNeg = 9 * p := nI_clamp (by omega)
    refine xw_dec_t hD hp ?_
    refine br_f (by decide) ?_
    refine hwx _ ?_
    refine xw_mpar (by omega) ?_
    unfold wpY_parametersThatMatter
    refine hwy _ ?_
    refine yw_dec_t hD hp ?_
    refine br_f (by decide) ?_
    rw [fx_j9, c9, cp]
    refine ⟨vp_in_nI (by omega) (by omega), ip, ?_, zr_mk _ hok⟩
    rw [s1 _ (by omega)]
theorem i_vc_resultMatters {k : Nat} {u : SX} {v : SY} (I : i_Rel k u v) (hk : k + 5 ≤ 2560) (v1 : Int32) : wpX_resultMatters (fun r u' => wpY_resultMatters (fun r' v' => r' = r ∧ i_Rel (k + 5) u' v') v v1) u v1 := by
  obtain ⟨D, oc, rs, st, ot, ac, mr, pc, ln, op, ra, rb, rc, rn, ko, pr, ap, rr, rg, lv, po, ly, wa, rfl, rfl, hok⟩ := I
  have hD := hok.1
  obtain ⟨mr', lv', hx, hwx⟩ := xw_find (oc := oc) (rs := rs) (st := st) (ot := ot) (ac := ac) (mr := mr) (ko := ko) (pr := pr) (ap := ap) (rr := rr) (rg := rg) (lv := lv) hok
  obtain ⟨ly', wa', hy, hwy⟩ := yw_collect (oc := oc) (rs := rs) (st := st) (ot := ot) (ac := ac) (ko := ko) (pr := pr) (po := po) (rg := rg) (ly := ly) (wa := wa) hok
  obtain ⟨s1, s2⟩ := fx_same hx.1 hx.2 hy.1 hy.2
  unfold wpX_resultMatters
  rcases zr_ix v1 hD with hv | ⟨p, hp, rfl⟩
  · refine xw_dec_f hv ?_
    refine br_t rfl ?_
    unfold wpY_resultMatters
    refine hwy _ ?_
    refine yw_dec_f hv ?_
    exact br_t rfl ⟨rfl, zr_mk _ hok⟩
  · have ip : vp_in (nI p) 5 := vp_in_nI (by omega) (by omega)
    have cp : (nI p).toNatClampNeg = p := nI_clamp (by omega)
    have e := s2 p (by omega)
    refine xw_dec_t hD hp ?_
    refine br_f (by decide) ?_
    refine hwx _ ?_
    by_cases hb : bt mr' p = true
    · refine xw_hb_t (by omega) hb ⟨rfl, ?_⟩
      unfold wpY_resultMatters
      refine hwy _ ?_
      refine yw_dec_t hD hp ?_
      refine br_f (by decide) ⟨ip, ?_⟩
      rw [cp]
      rw [hb] at e
      exact br_f ((fx_yw_t wa' p).mp e.symm) ⟨rfl, zr_mk _ hok⟩
    · refine xw_hb_f (by omega) hb ⟨rfl, ?_⟩
      unfold wpY_resultMatters
      refine hwy _ ?_
      refine yw_dec_t hD hp ?_
      refine br_f (by decide) ⟨ip, ?_⟩
      rw [cp]
      refine br_t ?_ ⟨rfl, zr_mk _ hok⟩
      apply Classical.byContradiction
      intro z
      exact hb (by rw [e]; exact (fx_yw_t wa' p).mpr z)
theorem xw_28T {post : Int32 → Prop} {d oc rs st ot ac mr : Int32} {pc ln op ra rb rc rn ko pr ap rr rg lv : Nat → Int32} {p k : Nat} (hp : p < 5) (hk : k < 8) (h4 : op (8 * p + k) = 4 → fx_nn (rn (8 * p + k)) 8) (ha : fx_nn (ra (8 * p + k)) 5) (hT : bt (fx_af op rn lv p k) (ra (8 * p + k)).toNatClampNeg = true → post 1) (hF : ¬ bt (fx_af op rn lv p k) (ra (8 * p + k)).toNatClampNeg = true → post 0) : wX_instructionMatters_28 post (nI p) (nI k) (nI (8 * p + k)) d oc rs st ot ac mr pc ln op ra rb rc rn ko pr ap rr rg lv := by
  have ha2 := ha.2
  have c8 : (nI (8 * p + k)).toNatClampNeg = 8 * p + k := nI_clamp (by omega)
  have i8 : vp_in (nI (8 * p + k)) 40 := vp_in_nI (by omega) (by omega)
  unfold wX_instructionMatters_28
  rw [c8]
  refine xw_liveAfter hp hk h4 ?_
  refine ⟨i8, ?_⟩
  by_cases hb : bt (fx_af op rn lv p k) (ra (8 * p + k)).toNatClampNeg = true
  · exact xw_hbT (by omega) ha.1 hb ⟨rfl, hT hb⟩
  · exact xw_hbF (by omega) ha.1 hb ⟨rfl, hF hb⟩
theorem xw_im {post : Int32 → Prop} {D : Nat} {d oc rs st ot ac mr : Int32} {pc ln op ra rb rc rn ko pr ap rr rg lv : Nat → Int32} {p k : Nat} (hok : fx_ok D pc ln op ra rb rc rn) (hp : p < D) (hk : k < (ln p).toNatClampNeg) (hT : (¬ op (8 * p + k) < 4 ∨ bt (fx_af op rn lv p k) (ra (8 * p + k)).toNatClampNeg = true) → post 1) (hF : op (8 * p + k) < 4 → ¬ bt (fx_af op rn lv p k) (ra (8 * p + k)).toNatClampNeg = true → post 0) : wpX_instructionMatters post (d, oc, rs, st, ot, ac, mr, pc, ln, op, ra, rb, rc, rn, ko, pr, ap, rr, rg, lv) (nI p) (nI k) := by
  obtain ⟨r1, r2, r3, r4⟩ := fx_rng hok hp hk
  obtain ⟨ho, ha, hb, hc, h13, h4, h5⟩ := hok.2.2 p hp k hk
  have c8 : (nI (8 * p + k)).toNatClampNeg = 8 * p + k := nI_clamp (by omega)
  have i8 : vp_in (nI (8 * p + k)) 40 := vp_in_nI (by omega) (by omega)
  unfold wpX_instructionMatters
  refine nm_r (fx_i8 p k) ⟨i8, nm_e ?_⟩
  rw [c8]
  have h28 : op (8 * p + k) < 4 → wX_instructionMatters_28 post (nI p) (nI k) (nI (8 * p + k)) d oc rs st ot ac mr pc ln op ra rb rc rn ko pr ap rr rg lv := fun z => xw_28T r1 r2 (fun e => (h4 e).1) ha (fun y => hT (.inr y)) (hF z)
  rcases fx_op ho with e | e | e | e | e | e | e | e
  · exact br_t e (h28 (by rw [e]; decide))
  · exact br_f (by rw [e]; decide) (xw_ar_t (by rw [e]; decide) (br_f (by decide) (h28 (by rw [e]; decide))))
  · exact br_f (by rw [e]; decide) (xw_ar_t (by rw [e]; decide) (br_f (by decide) (h28 (by rw [e]; decide))))
  · exact br_f (by rw [e]; decide) (xw_ar_t (by rw [e]; decide) (br_f (by decide) (h28 (by rw [e]; decide))))
  iterate 4
    · exact br_f (by rw [e]; decide) (xw_ar_f (by rw [e]; decide) (by rw [e]; decide) (by rw [e]; decide) (br_t rfl (hT (.inl (by rw [e]; decide)))))
theorem zw_18 {D : Nat} {oc rs st ot ac mr : Int32} {pc ln op ra rb rc rn ko pr ap rr rg lv po ly wa : Nat → Int32} {p : Nat} (hok : fx_ok D pc ln op ra rb rc rn) (hp : p < D) (hs : ∀ i, i < 45 → lv i = ly i) : ∀ (m i : Nat), i + m = (ln p).toNatClampNeg → ∀ x : Int32, ∃ r : Int32, (∀ post : Int32 → SX → Prop, post r (nI D, oc, rs, st, ot, ac, mr, pc, ln, op, ra, rb, rc, rn, ko, pr, ap, rr, rg, lv) → wX_instructionsThatMatter_18 post (nI p) (nI D) oc rs st ot ac mr pc ln op ra rb rc rn ko pr ap rr rg lv (m + 1) x (nI i)) ∧ (∀ post : Int32 → SY → Prop, post r (nI D, oc, rs, st, ot, ac, pc, ln, op, ra, rb, rc, rn, ko, pr, po, rg, ly, wa) → wY_instructionsThatMatter_8 post (nI p) (nI D) oc rs st ot ac pc ln op ra rb rc rn ko pr po rg ly wa (m + 1) x (nI i)) := by
  have hD := hok.1
  have ip : vp_in (nI p) 5 := vp_in_nI (by omega) (by omega)
  have cp : (nI p).toNatClampNeg = p := nI_clamp (by omega)
  have hl := (hok.2.1 p hp).2
  have hl2 := hl.2
  intro m
  induction m with
  | zero =>
    intro i hi x
    have q : ln (nI p).toNatClampNeg ≤ nI i := by
      rw [cp, hl.1]; exact nI_le (by omega) (by omega)
    refine ⟨x, fun post h => ⟨ip, br_t q h⟩, fun post h => ?_⟩
    unfold wY_instructionsThatMatter_8
    refine yw_dec_t hD hp ?_
    exact br_f (by decide) ⟨ip, br_t q h⟩
  | succ m ih =>
    intro i hi x
    have hki : i < (ln p).toNatClampNeg := by omega
    obtain ⟨r1, r2, r3, r4⟩ := fx_rng hok hp hki
    obtain ⟨ho, ha, hb, hc, h13, h4, h5⟩ := hok.2.2 p hp i hki
    have ha2 := ha.2
    have c8 : (nI (8 * p + i)).toNatClampNeg = 8 * p + i := nI_clamp (by omega)
    have i8 : vp_in (nI (8 * p + i)) 40 := vp_in_nI (by omega) (by omega)
    have q : ¬ ln (nI p).toNatClampNeg ≤ nI i := by
      rw [cp, hl.1]; exact nI_ge (by omega) (by omega)
    have eaf : fx_af op rn lv p i = fx_af op rn ly p i := by
      unfold fx_af
      rw [hs (9 * p + i + 1) (by omega)]
      by_cases e4 : op (8 * p + i) = 4
      · have := r3 e4
        rw [hs (9 * p + (rn (8 * p + i)).toNatClampNeg) (by omega)]
      · rw [if_neg e4, if_neg e4]
    by_cases hm : ¬ op (8 * p + i) < 4 ∨ bt (fx_af op rn lv p i) (ra (8 * p + i)).toNatClampNeg = true
    · obtain ⟨r, hX, hY⟩ := ih (i + 1) (by omega) (x ||| ((1 : Int32) <<< (nI i &&& 31)))
      refine ⟨r, fun post h => ⟨ip, br_f q ?_⟩, fun post h => ?_⟩
      · refine xw_im hok hp hki (fun _ => ?_) (fun z y => absurd hm (by rintro (a | a); exact a z; exact y a))
        exact br_f (by decide) (nm_e (nm_r (nI_1 i) (hX post h)))
      · unfold wY_instructionsThatMatter_8
        refine yw_dec_t hD hp ?_
        refine br_f (by decide) ⟨ip, br_f q ?_⟩
        rw [fx_j8, c8]
        have h77 : wY_instructionsThatMatter_77 post (wY_instructionsThatMatter_8 post (nI p) (nI D) oc rs st ot ac pc ln op ra rb rc rn ko pr po rg ly wa (m + 1)) (nI p) x (nI i) (nI D) oc rs st ot ac pc ln op ra rb rc rn ko pr po rg ly wa := nm_e (nm_r (nI_1 i) (hY post h))
        refine ⟨i8, br_c (fun z => ?_) (fun z => ?_)⟩
        · unfold wY_instructionsThatMatter_46
          rw [fx_j8, c8]
          refine br_t rfl ?_
          refine yw_after r1 r2 (fun e => (h4 e).1) ?_
          rw [eaf] at hm
          exact ⟨i8, yw_hb (by omega) ha.1 (fun _ => h77) (fun y => absurd hm (by rintro (a | a); exact a z; exact y a))⟩
        · exact br_f (by decide) h77
    · obtain ⟨r, hX, hY⟩ := ih (i + 1) (by omega) x
      have hm1 : op (8 * p + i) < 4 := Classical.not_not.mp fun z => hm (.inl z)
      have hm2 : ¬ bt (fx_af op rn lv p i) (ra (8 * p + i)).toNatClampNeg = true := fun z => hm (.inr z)
      refine ⟨r, fun post h => ⟨ip, br_f q ?_⟩, fun post h => ?_⟩
      · refine xw_im hok hp hki (fun z => absurd z hm) (fun _ _ => ?_)
        exact br_t rfl (nm_r (nI_1 i) (hX post h))
      · unfold wY_instructionsThatMatter_8
        refine yw_dec_t hD hp ?_
        refine br_f (by decide) ⟨ip, br_f q ?_⟩
        rw [fx_j8, c8]
        refine ⟨i8, br_t hm1 ?_⟩
        unfold wY_instructionsThatMatter_46
        rw [fx_j8, c8]
        refine br_t rfl ?_
        refine yw_after r1 r2 (fun e => (h4 e).1) ?_
        rw [eaf] at hm2
        exact ⟨i8, yw_hb (by omega) ha.1 (fun y => absurd y hm2) (fun _ => nm_r (nI_1 i) (hY post h))⟩
theorem i_vc_instructionsThatMatter {k : Nat} {u : SX} {v : SY} (I : i_Rel k u v) (hk : k + 5 ≤ 2560) (v1 : Int32) : wpX_instructionsThatMatter (fun r u' => wpY_instructionsThatMatter (fun r' v' => r' = r ∧ i_Rel (k + 5) u' v') v v1) u v1 := by
  obtain ⟨D, oc, rs, st, ot, ac, mr, pc, ln, op, ra, rb, rc, rn, ko, pr, ap, rr, rg, lv, po, ly, wa, rfl, rfl, hok⟩ := I
  have hD := hok.1
  obtain ⟨mr', lv', hx, hwx⟩ := xw_find (oc := oc) (rs := rs) (st := st) (ot := ot) (ac := ac) (mr := mr) (ko := ko) (pr := pr) (ap := ap) (rr := rr) (rg := rg) (lv := lv) hok
  obtain ⟨ly', wa', hy, hwy⟩ := yw_collect (oc := oc) (rs := rs) (st := st) (ot := ot) (ac := ac) (ko := ko) (pr := pr) (po := po) (rg := rg) (ly := ly) (wa := wa) hok
  obtain ⟨s1, s2⟩ := fx_same hx.1 hx.2 hy.1 hy.2
  unfold wpX_instructionsThatMatter
  rcases zr_ix v1 hD with hv | ⟨p, hp, rfl⟩
  · refine xw_dec_f hv ?_
    refine br_t rfl ?_
    unfold wpY_instructionsThatMatter
    refine hwy _ ⟨1, ?_⟩
    unfold wY_instructionsThatMatter_8
    refine yw_dec_f hv ?_
    exact br_t rfl ⟨rfl, zr_mk _ hok⟩
  · obtain ⟨r, hX, hY⟩ := zw_18 (oc := oc) (rs := rs) (st := st) (ot := ot) (ac := ac) (mr := mr') (ko := ko) (pr := pr) (ap := ap) (rr := rr) (rg := rg) (lv := lv') (po := po) (ly := ly') (wa := wa') hok hp s1 (ln p).toNatClampNeg 0 (by omega) 0
    refine xw_dec_t hD hp ?_
    refine br_f (by decide) ?_
    refine hwx _ ⟨_, hX _ ?_⟩
    unfold wpY_instructionsThatMatter
    exact hwy _ ⟨_, hY _ ⟨rfl, zr_mk _ hok⟩⟩
end
section
/-! an activation, an instruction: each side's walk -/
theorem zr_6 (f : Nat) : nI f * 6 = nI (6 * f) := by
  show nI f * nI 6 = _
  rw [pk_mul, Nat.mul_comm]
theorem zr_j6 (f : Nat) : 6 * nI f = nI (6 * f) := by
  show nI 6 * nI f = _
  rw [pk_mul]
theorem zr_ck {x : Int32} {a b N : Nat} (h : fx_nn x b) (hb : a + b < N) (hN : N < 1000) : (nI (a + x.toNatClampNeg)).toNatClampNeg = a + x.toNatClampNeg ∧ vp_in (nI (a + x.toNatClampNeg)) N := by
  have := h.2
  exact ⟨nI_clamp (by omega), vp_in_nI (by omega) (by omega)⟩
def zr_alu (o x y : Int32) : Int32 := if o = 1 then x + y else if o = 2 then x - y else if y ≤ x then 0 else 1
theorem xw_comp {post : Int32 → Prop} {o x y : Int32} (h : post (zr_alu o x y)) : wpX_compute post o x y := by
  unfold wpX_compute
  unfold zr_alu at h
  refine br_c (fun z => ?_) (fun z => br_c (fun z2 => ?_) (fun z2 => br_c (fun z3 => ?_) (fun z3 => ?_)))
  · rw [if_pos z] at h; exact h
  · rw [if_neg z, if_pos z2] at h; exact h
  · rw [if_neg z, if_neg z2, if_pos z3] at h; exact h
  · rw [if_neg z, if_neg z2, if_neg z3] at h; exact h
section
variable {post : SX → Prop} {d oc rs st ot ac mr : Int32} {pc ln op ra rb rc rn ko pr ap rr rg lv : Nat → Int32} {c f : Nat}
theorem xc_alu (e : op c = 1 ∨ op c = 2 ∨ op c = 3) (hc : c < 40) (hf : f < 10) (ha : fx_nn (ra c) 5) (hb : fx_nn (rb c) 5) (hcc : fx_nn (rc c) 5) (h : post (d, oc, rs, st, ot, ac, mr, pc, ln, op, ra, rb, rc, rn, ko, pr, ap, rr, upd rg (6 * f + (ra c).toNatClampNeg) (zr_alu (op c) (rg (6 * f + (rb c).toNatClampNeg)) (rg (6 * f + (rc c).toNatClampNeg))), lv)) : wpX_carryOut post (d, oc, rs, st, ot, ac, mr, pc, ln, op, ra, rb, rc, rn, ko, pr, ap, rr, rg, lv) (nI c) (nI f) := by
  have cc : (nI c).toNatClampNeg = c := nI_clamp (by omega)
  have ic : vp_in (nI c) 40 := vp_in_nI (by omega) (by omega)
  obtain ⟨ca, ia⟩ := zr_ck (a := 6 * f) (N := 60) ha (by omega) (by omega)
  obtain ⟨cb, ib⟩ := zr_ck (a := 6 * f) (N := 60) hb (by omega) (by omega)
  obtain ⟨ccc, icc⟩ := zr_ck (a := 6 * f) (N := 60) hcc (by omega) (by omega)
  unfold wpX_carryOut
  refine nm_r (zr_6 f) ?_
  rw [cc]
  refine ⟨ic, nm_r (fx_addn _ ha) ⟨ic, nm_e (xw_ar_t e (br_f (by decide) ⟨ic, ?_⟩))⟩⟩
  rw [fx_addn _ hb, fx_addn _ hcc, ca, cb, ccc]
  exact ⟨ib, nm_e ⟨ic, icc, nm_e (xw_comp ⟨ia, nm_e h⟩)⟩⟩
theorem xc_set (e : op c = 0) (hc : c < 40) (hf : f < 10) (ha : fx_nn (ra c) 5) (h : post (d, oc, rs, st, ot, ac, mr, pc, ln, op, ra, rb, rc, rn, ko, pr, ap, rr, upd rg (6 * f + (ra c).toNatClampNeg) (rn c), lv)) : wpX_carryOut post (d, oc, rs, st, ot, ac, mr, pc, ln, op, ra, rb, rc, rn, ko, pr, ap, rr, rg, lv) (nI c) (nI f) := by
  have cc : (nI c).toNatClampNeg = c := nI_clamp (by omega)
  have ic : vp_in (nI c) 40 := vp_in_nI (by omega) (by omega)
  obtain ⟨ca, ia⟩ := zr_ck (a := 6 * f) (N := 60) ha (by omega) (by omega)
  unfold wpX_carryOut
  refine nm_r (zr_6 f) ?_
  rw [cc]
  refine ⟨ic, nm_r (fx_addn _ ha) ⟨ic, nm_r e (xw_ar_f (by decide) (by decide) (by decide) (br_t rfl ?_))⟩⟩
  rw [ca]
  exact br_t rfl ⟨ic, ia, nm_e h⟩
theorem xc_fork0 (e : op c = 4) (hc : c < 40) (hf : f < 10) (ha : fx_nn (ra c) 5) (hz : rg (6 * f + (ra c).toNatClampNeg) = 0) (h : post (d, oc, rs, st, ot, ac, mr, pc, ln, op, ra, rb, rc, rn, ko, pr, upd ap f (rn c), rr, rg, lv)) : wpX_carryOut post (d, oc, rs, st, ot, ac, mr, pc, ln, op, ra, rb, rc, rn, ko, pr, ap, rr, rg, lv) (nI c) (nI f) := by
  have cc : (nI c).toNatClampNeg = c := nI_clamp (by omega)
  have cf : (nI f).toNatClampNeg = f := nI_clamp (by omega)
  have ic : vp_in (nI c) 40 := vp_in_nI (by omega) (by omega)
  have jf : vp_in (nI f) 10 := vp_in_nI (by omega) (by omega)
  obtain ⟨ca, ia⟩ := zr_ck (a := 6 * f) (N := 60) ha (by omega) (by omega)
  unfold wpX_carryOut
  refine nm_r (zr_6 f) ?_
  rw [cc, cf]
  refine ⟨ic, nm_r (fx_addn _ ha) ⟨ic, nm_r e (xw_ar_f (by decide) (by decide) (by decide) (br_t rfl ?_))⟩⟩
  rw [ca]
  exact br_f (by decide) (br_t rfl ⟨ia, br_t hz ⟨ic, jf, nm_e h⟩⟩)
theorem xc_fork1 (e : op c = 4) (hc : c < 40) (hf : f < 10) (ha : fx_nn (ra c) 5) (hz : ¬ rg (6 * f + (ra c).toNatClampNeg) = 0) (h : post (d, oc, rs, st, ot, ac, mr, pc, ln, op, ra, rb, rc, rn, ko, pr, ap, rr, rg, lv)) : wpX_carryOut post (d, oc, rs, st, ot, ac, mr, pc, ln, op, ra, rb, rc, rn, ko, pr, ap, rr, rg, lv) (nI c) (nI f) := by
  have cc : (nI c).toNatClampNeg = c := nI_clamp (by omega)
  have ic : vp_in (nI c) 40 := vp_in_nI (by omega) (by omega)
  obtain ⟨ca, ia⟩ := zr_ck (a := 6 * f) (N := 60) ha (by omega) (by omega)
  unfold wpX_carryOut
  refine nm_r (zr_6 f) ?_
  rw [cc]
  refine ⟨ic, nm_r (fx_addn _ ha) ⟨ic, nm_r e (xw_ar_f (by decide) (by decide) (by decide) (br_t rfl ?_))⟩⟩
  rw [ca]
  exact br_f (by decide) (br_t rfl ⟨ia, br_f hz h⟩)
theorem xc_call {X' : SX} (e : op c = 5) (hc : c < 40) (hf : f < 10) (ha : fx_nn (ra c) 5) (hb : fx_nn (rb c) 7) (hX : ∀ q : SX → Prop, q X' → wpX_callProcedure q (d, oc, rs, st, ot, ac, mr, pc, ln, op, ra, rb, rc, rn, ko, pr, ap, rr, rg, lv) (rn c) (nI (6 * f + (rb c).toNatClampNeg)) (nI (6 * f + (ra c).toNatClampNeg))) (h : post X') : wpX_carryOut post (d, oc, rs, st, ot, ac, mr, pc, ln, op, ra, rb, rc, rn, ko, pr, ap, rr, rg, lv) (nI c) (nI f) := by
  have cc : (nI c).toNatClampNeg = c := nI_clamp (by omega)
  have ic : vp_in (nI c) 40 := vp_in_nI (by omega) (by omega)
  unfold wpX_carryOut
  refine nm_r (zr_6 f) ?_
  rw [cc]
  refine ⟨ic, nm_r (fx_addn _ ha) ⟨ic, nm_r e (xw_ar_f (by decide) (by decide) (by decide) (br_t rfl ?_))⟩⟩
  rw [fx_addn _ hb]
  exact br_f (by decide) (br_f (by decide) (br_t rfl ⟨ic, ic, hX _ h⟩))
theorem xc_back {X' : SX} (e : op c = 7) (hc : c < 40) (hf : f < 10) (ha : fx_nn (ra c) 5) (hX : ∀ q : SX → Prop, q X' → wpX_endActivation q (d, oc, rs, st, ot, ac, mr, pc, ln, op, ra, rb, rc, rn, ko, pr, ap, rr, rg, lv) (rg (6 * f + (ra c).toNatClampNeg))) (h : post X') : wpX_carryOut post (d, oc, rs, st, ot, ac, mr, pc, ln, op, ra, rb, rc, rn, ko, pr, ap, rr, rg, lv) (nI c) (nI f) := by
  have cc : (nI c).toNatClampNeg = c := nI_clamp (by omega)
  have ic : vp_in (nI c) 40 := vp_in_nI (by omega) (by omega)
  obtain ⟨ca, ia⟩ := zr_ck (a := 6 * f) (N := 60) ha (by omega) (by omega)
  unfold wpX_carryOut
  refine nm_r (zr_6 f) ?_
  rw [cc]
  refine ⟨ic, nm_r (fx_addn _ ha) ⟨ic, nm_r e (xw_ar_f (by decide) (by decide) (by decide) (br_t rfl ?_))⟩⟩
  rw [ca]
  exact br_f (by decide) (br_f (by decide) (br_f (by decide) (br_f (by decide) ⟨ia, hX _ h⟩)))
end
theorem xc_out {post : SX → Prop} {d oc rs st ac mr : Int32} {pc ln op ra rb rc rn ko pr ap rr rg lv : Nat → Int32} {c f o : Nat} (e : op c = 6) (hc : c < 40) (hf : f < 10) (ho : o < 1000) (ha : fx_nn (ra c) 5) (h : post (d, oc, rs, st, nI (o + 1), ac, mr, pc, ln, op, ra, rb, rc, rn, if o < 16 then upd ko o (rg (6 * f + (ra c).toNatClampNeg)) else ko, pr, ap, rr, rg, lv)) : wpX_carryOut post (d, oc, rs, st, nI o, ac, mr, pc, ln, op, ra, rb, rc, rn, ko, pr, ap, rr, rg, lv) (nI c) (nI f) := by
  have cc : (nI c).toNatClampNeg = c := nI_clamp (by omega)
  have co : (nI o).toNatClampNeg = o := nI_clamp (by omega)
  have ic : vp_in (nI c) 40 := vp_in_nI (by omega) (by omega)
  obtain ⟨ca, ia⟩ := zr_ck (a := 6 * f) (N := 60) ha (by omega) (by omega)
  unfold wpX_carryOut
  refine nm_r (zr_6 f) ?_
  rw [cc]
  refine ⟨ic, nm_r (fx_addn _ ha) ⟨ic, nm_r e (xw_ar_f (by decide) (by decide) (by decide) (br_t rfl ?_))⟩⟩
  rw [ca]
  refine br_f (by decide) (br_f (by decide) (br_f (by decide) (br_t rfl ⟨ia, ?_⟩)))
  unfold wpX_putOut
  dsimp only
  rw [co]
  by_cases h16 : o < 16
  · rw [if_pos h16] at h
    exact br_f (nI_ge (b := 16) h16 (by decide)) ⟨vp_in_nI h16 (by omega), nm_e (nm_r (nI_1 o) h)⟩
  · rw [if_neg h16] at h
    exact br_t (nI_le (a := 16) (by omega) (by omega)) (nm_r (nI_1 o) h)
section
variable {post : SY → Prop} {d oc rs st ot ac : Int32} {pc ln op ra rb rc rn ko pr po rg ly wa : Nat → Int32} {c f k : Nat}
theorem yc_pre_n {o : Int32} (e : op c = o) (ho : o < 1 ∨ 3 < o) (hc : c < 40) (ha : fx_nn (ra c) 5) (h : wY_carryOut_82 post (nI c) (nI f) o (nI (6 * f + (ra c).toNatClampNeg)) 0 0 d oc rs st ot ac pc ln op ra rb rc rn ko pr po rg ly wa) : wpY_carryOut post (d, oc, rs, st, ot, ac, pc, ln, op, ra, rb, rc, rn, ko, pr, po, rg, ly, wa) (nI c) (nI f) := by
  have cc : (nI c).toNatClampNeg = c := nI_clamp (by omega)
  have ic : vp_in (nI c) 40 := vp_in_nI (by omega) (by omega)
  have h50 : wY_carryOut_49 post (nI c) (nI f) o (nI (6 * f + (ra c).toNatClampNeg)) d oc rs st ot ac pc ln op ra rb rc rn ko pr po rg ly wa := by
    unfold wY_carryOut_49 wY_carryOut_50 wY_carryOut_81
    exact br_c (fun _ => h) fun z => br_t (ho.elim (fun y => absurd y z) id) h
  unfold wpY_carryOut
  rw [zr_j6, cc]
  exact ⟨ic, nm_r e ⟨ic, nm_r (fx_addn _ ha) (br_c (fun _ => h50) fun z => br_t (ho.elim (fun y => absurd y z) id) h50)⟩⟩
theorem yc_pre_a {o : Int32} (e : op c = o) (ho : o = 1 ∨ o = 2 ∨ o = 3) (hc : c < 40) (hf : f < 10) (ha : fx_nn (ra c) 5) (hb : fx_nn (rb c) 5) (hcc : fx_nn (rc c) 5) (h : wY_carryOut_82 post (nI c) (nI f) o (nI (6 * f + (ra c).toNatClampNeg)) (rg (6 * f + (rb c).toNatClampNeg)) (rg (6 * f + (rc c).toNatClampNeg)) d oc rs st ot ac pc ln op ra rb rc rn ko pr po rg ly wa) : wpY_carryOut post (d, oc, rs, st, ot, ac, pc, ln, op, ra, rb, rc, rn, ko, pr, po, rg, ly, wa) (nI c) (nI f) := by
  have cc : (nI c).toNatClampNeg = c := nI_clamp (by omega)
  have ic : vp_in (nI c) 40 := vp_in_nI (by omega) (by omega)
  obtain ⟨cb, ib⟩ := zr_ck (a := 6 * f) (N := 60) hb (by omega) (by omega)
  obtain ⟨ccc, icc⟩ := zr_ck (a := 6 * f) (N := 60) hcc (by omega) (by omega)
  have q1 : ¬ o < 1 := by rcases ho with rfl | rfl | rfl <;> decide
  have q2 : ¬ 3 < o := by rcases ho with rfl | rfl | rfl <;> decide
  unfold wpY_carryOut
  dsimp only
  rw [zr_j6, cc, fx_addn _ hb, cb]
  refine ⟨ic, nm_r e ⟨ic, nm_r (fx_addn _ ha) (br_f q1 (br_f q2 ⟨ic, ib, ?_⟩))⟩⟩
  unfold wY_carryOut_50
  rw [zr_j6, cc, fx_addn _ hcc, ccc]
  exact br_f q1 (br_f q2 ⟨ic, icc, h⟩)
theorem yc_253 {o x4 x7 : Int32} (h5 : ¬ o = 5) (h7 : ¬ o = 7) (hf : f < 10) (h : post (d, oc, rs, st, ot, ac, pc, ln, op, ra, rb, rc, rn, ko, pr, upd po f x7, rg, ly, wa)) : wY_carryOut_253 post (nI c) (nI f) o x4 x7 d oc rs st ot ac pc ln op ra rb rc rn ko pr po rg ly wa := by
  have cf : (nI f).toNatClampNeg = f := nI_clamp (by omega)
  unfold wY_carryOut_253
  rw [cf]
  exact br_f h5 (br_f h7 ⟨vp_in_nI hf (by omega), nm_e h⟩)
theorem yc_alu {o x y : Int32} {a : Nat} (ho : o = 1 ∨ o = 2 ∨ o = 3) (hf : f < 10) (ha : a < 60) (hpo : po f = nI k) (h : post (d, oc, rs, st, ot, ac, pc, ln, op, ra, rb, rc, rn, ko, pr, upd po f (nI (k + 1)), upd rg a (zr_alu o x y), ly, wa)) : wY_carryOut_82 post (nI c) (nI f) o (nI a) x y d oc rs st ot ac pc ln op ra rb rc rn ko pr po rg ly wa := by
  have cf : (nI f).toNatClampNeg = f := nI_clamp (by omega)
  have ca : (nI a).toNatClampNeg = a := nI_clamp (by omega)
  have ia : vp_in (nI a) 60 := vp_in_nI (by omega) (by omega)
  unfold wY_carryOut_82
  refine ⟨vp_in_nI hf (by omega), nm_r (e' := nI (k + 1)) (by rw [cf, hpo, nI_1]) ?_⟩
  rw [ca]
  rcases ho with rfl | rfl | rfl
  · exact br_f (by decide) (br_t rfl ⟨ia, nm_e (yc_253 (by decide) (by decide) hf h)⟩)
  · exact br_f (by decide) (br_f (by decide) (br_t rfl ⟨ia, nm_e (yc_253 (by decide) (by decide) hf h)⟩))
  · refine br_f (by decide) (br_f (by decide) (br_f (by decide) (br_t rfl ?_)))
    unfold wY_carryOut_177
    rw [ca]
    by_cases hz : y ≤ x
    · have e : zr_alu 3 x y = 0 := by
        unfold zr_alu
        rw [if_neg (by decide), if_neg (by decide), if_pos hz]
      rw [e] at h
      exact br_t hz ⟨ia, nm_e (yc_253 (by decide) (by decide) hf h)⟩
    · have e : zr_alu 3 x y = 1 := by
        unfold zr_alu
        rw [if_neg (by decide), if_neg (by decide), if_neg hz]
      rw [e] at h
      exact br_f hz ⟨ia, nm_e (yc_253 (by decide) (by decide) hf h)⟩
theorem yc_set {x y : Int32} {a : Nat} (hf : f < 10) (hc : c < 40) (ha : a < 60) (hpo : po f = nI k) (h : post (d, oc, rs, st, ot, ac, pc, ln, op, ra, rb, rc, rn, ko, pr, upd po f (nI (k + 1)), upd rg a (rn c), ly, wa)) : wY_carryOut_82 post (nI c) (nI f) 0 (nI a) x y d oc rs st ot ac pc ln op ra rb rc rn ko pr po rg ly wa := by
  have cf : (nI f).toNatClampNeg = f := nI_clamp (by omega)
  have cc : (nI c).toNatClampNeg = c := nI_clamp (by omega)
  have ca : (nI a).toNatClampNeg = a := nI_clamp (by omega)
  have ia : vp_in (nI a) 60 := vp_in_nI (by omega) (by omega)
  unfold wY_carryOut_82
  refine ⟨vp_in_nI hf (by omega), nm_r (e' := nI (k + 1)) (by rw [cf, hpo, nI_1]) ?_⟩
  rw [ca, cc]
  exact br_t rfl ⟨vp_in_nI hc (by omega), ia, nm_e (yc_253 (by decide) (by decide) hf h)⟩
theorem yc_fork {x y : Int32} {a : Nat} (hf : f < 10) (hc : c < 40) (ha : a < 60) (hpo : po f = nI k) (h0 : rg a = 0 → post (d, oc, rs, st, ot, ac, pc, ln, op, ra, rb, rc, rn, ko, pr, upd po f (rn c), rg, ly, wa)) (h1 : ¬ rg a = 0 → post (d, oc, rs, st, ot, ac, pc, ln, op, ra, rb, rc, rn, ko, pr, upd po f (nI (k + 1)), rg, ly, wa)) : wY_carryOut_82 post (nI c) (nI f) 4 (nI a) x y d oc rs st ot ac pc ln op ra rb rc rn ko pr po rg ly wa := by
  have cf : (nI f).toNatClampNeg = f := nI_clamp (by omega)
  have cc : (nI c).toNatClampNeg = c := nI_clamp (by omega)
  have ca : (nI a).toNatClampNeg = a := nI_clamp (by omega)
  have ia : vp_in (nI a) 60 := vp_in_nI (by omega) (by omega)
  unfold wY_carryOut_82
  refine ⟨vp_in_nI hf (by omega), nm_r (e' := nI (k + 1)) (by rw [cf, hpo, nI_1]) ?_⟩
  rw [ca, cc]
  refine br_f (by decide) (br_f (by decide) (br_f (by decide) (br_f (by decide) (br_t rfl ⟨ia, br_c (fun z => ⟨vp_in_nI hc (by omega), ?_⟩) (fun z => ?_)⟩))))
  · exact yc_253 (by decide) (by decide) hf (h0 z)
  · exact yc_253 (by decide) (by decide) hf (h1 z)
theorem yc_call {x y : Int32} {a : Nat} {Y' : SY} (hf : f < 10) (hY : ∀ q : SY → Prop, q Y' → wpY_call q (d, oc, rs, st, ot, ac, pc, ln, op, ra, rb, rc, rn, ko, pr, po, rg, ly, wa) (nI c) (nI f)) (h : post Y') : wY_carryOut_82 post (nI c) (nI f) 5 (nI a) x y d oc rs st ot ac pc ln op ra rb rc rn ko pr po rg ly wa := by
  unfold wY_carryOut_82
  refine ⟨vp_in_nI hf (by omega), nm_e ?_⟩
  refine br_f (by decide) (br_f (by decide) (br_f (by decide) (br_f (by decide) (br_f (by decide) (br_f (by decide) ?_)))))
  exact br_t rfl (hY _ h)
theorem yc_back {x y : Int32} {a : Nat} {Y' : SY} (hf : f < 10) (ha : a < 60) (hY : ∀ q : SY → Prop, q Y' → wpY_end q (d, oc, rs, st, ot, ac, pc, ln, op, ra, rb, rc, rn, ko, pr, po, rg, ly, wa) (rg a)) (h : post Y') : wY_carryOut_82 post (nI c) (nI f) 7 (nI a) x y d oc rs st ot ac pc ln op ra rb rc rn ko pr po rg ly wa := by
  have ca : (nI a).toNatClampNeg = a := nI_clamp (by omega)
  have ia : vp_in (nI a) 60 := vp_in_nI (by omega) (by omega)
  unfold wY_carryOut_82
  refine ⟨vp_in_nI hf (by omega), nm_e ?_⟩
  refine br_f (by decide) (br_f (by decide) (br_f (by decide) (br_f (by decide) (br_f (by decide) (br_f (by decide) ?_)))))
  unfold wY_carryOut_253
  rw [ca]
  exact br_f (by decide) (br_t rfl ⟨ia, hY _ h⟩)
end
theorem yc_out {post : SY → Prop} {d oc rs st ac : Int32} {pc ln op ra rb rc rn ko pr po rg ly wa : Nat → Int32} {c f k o a : Nat} {x y : Int32} (hf : f < 10) (ho : o < 1000) (ha : a < 60) (hpo : po f = nI k) (h : post (d, oc, rs, st, nI (o + 1), ac, pc, ln, op, ra, rb, rc, rn, if o < 16 then upd ko o (rg a) else ko, pr, upd po f (nI (k + 1)), rg, ly, wa)) : wY_carryOut_82 post (nI c) (nI f) 6 (nI a) x y d oc rs st (nI o) ac pc ln op ra rb rc rn ko pr po rg ly wa := by
  have cf : (nI f).toNatClampNeg = f := nI_clamp (by omega)
  have co : (nI o).toNatClampNeg = o := nI_clamp (by omega)
  have ca : (nI a).toNatClampNeg = a := nI_clamp (by omega)
  have ia : vp_in (nI a) 60 := vp_in_nI (by omega) (by omega)
  unfold wY_carryOut_82
  refine ⟨vp_in_nI hf (by omega), nm_r (e' := nI (k + 1)) (by rw [cf, hpo, nI_1]) ?_⟩
  rw [ca, co]
  refine br_f (by decide) (br_f (by decide) (br_f (by decide) (br_f (by decide) (br_f (by decide) (br_t rfl ?_)))))
  unfold wY_carryOut_243
  by_cases h16 : o < 16
  · rw [if_pos h16] at h
    exact br_f (nI_ge (b := 16) h16 (by decide)) ⟨ia, vp_in_nI h16 (by omega), nm_e (nm_r (nI_1 o) (yc_253 (by decide) (by decide) hf h))⟩
  · rw [if_neg h16] at h
    exact br_t (nI_le (a := 16) (by omega) (by omega)) (nm_r (nI_1 o) (yc_253 (by decide) (by decide) hf h))
end
section
/-! calls and ends -/
def zr_Z (n i : Nat) (rg : Nat → Int32) : Nat → Int32 := fun j => if 6 * n + i ≤ j ∧ j < 6 * n + 6 then 0 else rg j
def zr_C (n np src i : Nat) (rg : Nat → Int32) : Nat → Int32 := fun j => if 6 * n + i ≤ j ∧ j < 6 * n + np then rg (src + (j - 6 * n)) else rg j
def zr_Q (n np src i : Nat) (rg : Nat → Int32) : Nat → Int32 := fun j => if 6 * n + i ≤ j ∧ j < 6 * n + 6 then (if j - 6 * n < np then rg (src + (j - 6 * n)) else 0) else rg j
theorem zr_Z6 (n : Nat) (rg : Nat → Int32) : zr_Z n 6 rg = rg := by
  funext j
  exact if_neg (by omega)
theorem zr_Zs {n i : Nat} (hi : i < 6) (rg : Nat → Int32) : zr_Z n (i + 1) (upd rg (6 * n + i) 0) = zr_Z n i rg := by
  funext j
  unfold zr_Z
  by_cases e : j = 6 * n + i
  · rw [e, if_neg (by omega), if_pos (by omega), pk_us]
  · by_cases h : 6 * n + (i + 1) ≤ j ∧ j < 6 * n + 6
    · rw [if_pos h, if_pos (by omega)]
    · rw [if_neg h, if_neg (by omega), pk_un e]
theorem zr_Cn (n np src : Nat) (rg : Nat → Int32) : zr_C n np src np rg = rg := by
  funext j
  exact if_neg (by omega)
theorem zr_Cs {n np src i : Nat} (hi : i < np) (hs : src + np ≤ 6 * n) (rg : Nat → Int32) : zr_C n np src (i + 1) (upd rg (6 * n + i) (rg (src + i))) = zr_C n np src i rg := by
  funext j
  unfold zr_C
  by_cases e : j = 6 * n + i
  · rw [e, if_neg (by omega), if_pos (by omega), pk_us]
    congr 1
    omega
  · by_cases h : 6 * n + (i + 1) ≤ j ∧ j < 6 * n + np
    · rw [if_pos h, if_pos (by omega), pk_un (by omega)]
    · rw [if_neg h, if_neg (by omega), pk_un e]
theorem zr_Q6 (n np src : Nat) (rg : Nat → Int32) : zr_Q n np src 6 rg = rg := by
  funext j
  exact if_neg (by omega)
theorem zr_Qs {n np src i : Nat} {v : Int32} (hi : i < 6) (hs : src + np ≤ 6 * n) (rg : Nat → Int32) (hv : v = if i < np then rg (src + i) else 0) : zr_Q n np src (i + 1) (upd rg (6 * n + i) v) = zr_Q n np src i rg := by
  funext j
  unfold zr_Q
  by_cases e : j = 6 * n + i
  · have q : j - 6 * n = i := by omega
    rw [q, if_neg (by omega), if_pos (by omega), e, pk_us, hv]
  · by_cases h : 6 * n + (i + 1) ≤ j ∧ j < 6 * n + 6
    · have h' : 6 * n + i ≤ j ∧ j < 6 * n + 6 := by omega
      rw [if_pos h, if_pos h']
      by_cases q : j - 6 * n < np
      · rw [if_pos q, if_pos q, pk_un (by omega)]
      · rw [if_neg q, if_neg q]
    · rw [if_neg h, if_neg (by omega), pk_un e]
theorem zr_CZ {n np src : Nat} (hn : np ≤ 6) (hs : src + np ≤ 6 * n) (rg : Nat → Int32) : zr_C n np src 0 (zr_Z n 0 rg) = zr_Q n np src 0 rg := by
  funext j
  unfold zr_C zr_Q zr_Z
  by_cases h : 6 * n + 0 ≤ j ∧ j < 6 * n + 6
  · by_cases q : j - 6 * n < np
    · have h1 : 6 * n + 0 ≤ j ∧ j < 6 * n + np := by omega
      have h2 : ¬ (6 * n + 0 ≤ src + (j - 6 * n) ∧ src + (j - 6 * n) < 6 * n + 6) := by omega
      rw [if_pos h1, if_neg h2, if_pos h, if_pos q]
    · have h1 : ¬ (6 * n + 0 ≤ j ∧ j < 6 * n + np) := by omega
      rw [if_neg h1, if_pos h, if_pos h, if_neg q]
  · have h1 : ¬ (6 * n + 0 ≤ j ∧ j < 6 * n + np) := by omega
    rw [if_neg h1, if_neg h, if_neg h]
theorem xw_29 {d oc rs st ot ac mr : Int32} {pc ln op ra rb rc rn ko pr ap rr lv : Nat → Int32} {n : Nat} (hn : n < 10) : ∀ (m i : Nat), i + m = 6 → ∀ (rg : Nat → Int32) (post : SX → Prop), post (d, oc, rs, st, ot, nI (n + 1), mr, pc, ln, op, ra, rb, rc, rn, ko, pr, ap, rr, zr_Z n i rg, lv) → wX_addActivation_29 post (nI n) d oc rs st ot ac mr (m + 1) (nI i) pc ln op ra rb rc rn ko pr ap rr rg lv := by
  intro m
  induction m with
  | zero =>
    intro i hi rg post h
    have : i = 6 := by omega
    subst this
    rw [zr_Z6] at h
    exact br_t (by decide) (nm_r (nI_1 n) h)
  | succ m ih =>
    intro i hi rg post h
    have e : nI n * 6 + nI i = nI (6 * n + i) := by rw [zr_6, nI_add]
    have ce : (nI n * 6 + nI i).toNatClampNeg = 6 * n + i := by rw [e]; exact nI_clamp (by omega)
    refine br_f (nI_ge (b := 6) (by omega) (by decide)) ⟨by rw [e]; exact vp_in_nI (by omega) (by omega), nm_r (e' := upd rg (6 * n + i) 0) (by rw [ce]) (nm_r (nI_1 i) (ih (i + 1) (by omega) _ post ?_))⟩
    rw [zr_Zs (by omega)]
    exact h
theorem xw_add {post : SX → Prop} {d oc rs st ot mr : Int32} {pc ln op ra rb rc rn ko pr ap rr rg lv : Nat → Int32} {n : Nat} {x y : Int32} (hn : n < 10) (h : post (d, oc, rs, st, ot, nI (n + 1), mr, pc, ln, op, ra, rb, rc, rn, ko, upd pr n x, upd ap n 0, upd rr n y, zr_Z n 0 rg, lv)) : wpX_addActivation post (d, oc, rs, st, ot, nI n, mr, pc, ln, op, ra, rb, rc, rn, ko, pr, ap, rr, rg, lv) x y := by
  have cn : (nI n).toNatClampNeg = n := nI_clamp (by omega)
  have jn : vp_in (nI n) 10 := vp_in_nI (by omega) (by omega)
  unfold wpX_addActivation
  dsimp only
  rw [cn]
  exact ⟨jn, nm_e ⟨jn, nm_e ⟨jn, nm_e ⟨7, xw_29 hn 6 0 rfl rg post h⟩⟩⟩⟩
theorem xw_18c {d oc rs st ot ac mr : Int32} {pc ln op ra rb rc rn ko pr ap rr lv : Nat → Int32} {n np src q : Nat} (hn : n < 10) (hq : q < 5) (hnp : np ≤ 3) (hpc : pc q = nI np) (hs : src + np ≤ 6 * n) : ∀ (m i : Nat), i + m = np → ∀ (rg : Nat → Int32) (post : SX → Prop), post (d, oc, rs, st, ot, ac, mr, pc, ln, op, ra, rb, rc, rn, ko, pr, ap, rr, zr_C n np src i rg, lv) → wX_callProcedure_18 post (nI q) (nI src) (nI (6 * n)) d oc rs st ot ac mr (m + 1) (nI i) pc ln op ra rb rc rn ko pr ap rr rg lv := by
  have cq : (nI q).toNatClampNeg = q := nI_clamp (by omega)
  have jq : vp_in (nI q) 5 := vp_in_nI (by omega) (by omega)
  intro m
  induction m with
  | zero =>
    intro i hi rg post h
    have : i = np := by omega
    subst this
    rw [zr_Cn] at h
    exact ⟨jq, br_t (by rw [cq, hpc]; exact Int32.le_refl _) h⟩
  | succ m ih =>
    intro i hi rg post h
    have c1 : (nI src + nI i).toNatClampNeg = src + i := by rw [nI_add]; exact nI_clamp (by omega)
    have c2 : (nI (6 * n) + nI i).toNatClampNeg = 6 * n + i := by rw [nI_add]; exact nI_clamp (by omega)
    refine ⟨jq, br_f (by rw [cq, hpc]; exact nI_ge (by omega) (by omega)) ⟨by rw [nI_add]; exact vp_in_nI (by omega) (by omega), by rw [nI_add]; exact vp_in_nI (by omega) (by omega), nm_r (e' := upd rg (6 * n + i) (rg (src + i))) (by rw [c1, c2]) (nm_r (nI_1 i) (ih (i + 1) (by omega) _ post ?_))⟩⟩
    rw [zr_Cs (by omega) hs]
    exact h
theorem xw_callp {post : SX → Prop} {d oc rs st ot mr : Int32} {pc ln op ra rb rc rn ko pr ap rr rg lv : Nat → Int32} {n np src q : Nat} {y : Int32} (hn : n < 10) (hq : q < 5) (hnp : np ≤ 3) (hpc : pc q = nI np) (hs : src + np ≤ 6 * n) (h : post (d, oc, rs, st, ot, nI (n + 1), mr, pc, ln, op, ra, rb, rc, rn, ko, upd pr n (nI q), upd ap n 0, upd rr n y, zr_Q n np src 0 rg, lv)) : wpX_callProcedure post (d, oc, rs, st, ot, nI n, mr, pc, ln, op, ra, rb, rc, rn, ko, pr, ap, rr, rg, lv) (nI q) (nI src) y := by
  unfold wpX_callProcedure
  refine nm_r (zr_6 n) (xw_add hn ⟨np + 1, xw_18c hn hq hnp hpc hs np 0 (by omega) _ post ?_⟩)
  rw [zr_CZ (by omega) hs]
  exact h
theorem yw_30 {d oc rs st ot : Int32} {pc ln op ra rb rc rn ko pr po ly wa : Nat → Int32} {n np f c q b : Nat} (hn : n < 10) (hc : c < 40) (hq : q < 5) (hnp : np ≤ 3) (hpc : pc q = nI np) (hb : rb c = nI b) (hs : 6 * f + b + np ≤ 6 * n) : ∀ (m i : Nat), i + m = 6 → ∀ (rg : Nat → Int32) (post : SY → Prop), post (d, oc, rs, st, ot, nI (n + 1), pc, ln, op, ra, rb, rc, rn, ko, pr, po, zr_Q n np (6 * f + b) i rg, ly, wa) → wY_call_30 post (nI c) (nI f) (nI q) d oc rs st ot (nI n) (m + 1) (nI i) pc ln op ra rb rc rn ko pr po rg ly wa := by
  have cq : (nI q).toNatClampNeg = q := nI_clamp (by omega)
  have jq : vp_in (nI q) 5 := vp_in_nI (by omega) (by omega)
  have cc : (nI c).toNatClampNeg = c := nI_clamp (by omega)
  intro m
  induction m with
  | zero =>
    intro i hi rg post h
    have : i = 6 := by omega
    subst this
    rw [zr_Q6] at h
    exact br_t (by decide) (nm_r (nI_1 n) h)
  | succ m ih =>
    intro i hi rg post h
    have e1 : 6 * nI f + rb (nI c).toNatClampNeg + nI i = nI (6 * f + b + i) := by rw [cc, hb, zr_j6, nI_add, nI_add]
    have e2 : 6 * nI n + nI i = nI (6 * n + i) := by rw [zr_j6, nI_add]
    have c2 : (6 * nI n + nI i).toNatClampNeg = 6 * n + i := by rw [e2]; exact nI_clamp (by omega)
    have j2 : vp_in (6 * nI n + nI i) 60 := by rw [e2]; exact vp_in_nI (by omega) (by omega)
    refine br_f (nI_ge (b := 6) (by omega) (by decide)) ⟨jq, ?_⟩
    by_cases hlt : i < np
    · have c1 : (6 * nI f + rb (nI c).toNatClampNeg + nI i).toNatClampNeg = 6 * f + b + i := by rw [e1]; exact nI_clamp (by omega)
      refine br_f (by rw [cq, hpc]; exact nI_ge (by omega) (by omega)) ⟨vp_in_nI hc (by omega), by rw [e1]; exact vp_in_nI (by omega) (by omega), j2, nm_r (e' := upd rg (6 * n + i) (rg (6 * f + b + i))) (by rw [c1, c2]) (nm_r (nI_1 i) (ih (i + 1) (by omega) _ post ?_))⟩
      rw [zr_Qs (by omega) hs rg (by rw [if_pos hlt])]
      exact h
    · refine br_t (by rw [cq, hpc]; exact nI_le (by omega) (by omega)) ⟨j2, nm_r (e' := upd rg (6 * n + i) 0) (by rw [c2]) (nm_r (nI_1 i) (ih (i + 1) (by omega) _ post ?_))⟩
      rw [zr_Qs (by omega) hs rg (by rw [if_neg hlt])]
      exact h
theorem yw_call {post : SY → Prop} {d oc rs st ot : Int32} {pc ln op ra rb rc rn ko pr po rg ly wa : Nat → Int32} {n np f c q b : Nat} (hn : n < 10) (hc : c < 40) (hq : q < 5) (hnp : np ≤ 3) (hpc : pc q = nI np) (hb : rb c = nI b) (hrn : rn c = nI q) (hs : 6 * f + b + np ≤ 6 * n) (h : post (d, oc, rs, st, ot, nI (n + 1), pc, ln, op, ra, rb, rc, rn, ko, upd pr n (nI q), upd po n 0, zr_Q n np (6 * f + b) 0 rg, ly, wa)) : wpY_call post (d, oc, rs, st, ot, nI n, pc, ln, op, ra, rb, rc, rn, ko, pr, po, rg, ly, wa) (nI c) (nI f) := by
  have cn : (nI n).toNatClampNeg = n := nI_clamp (by omega)
  have jn : vp_in (nI n) 10 := vp_in_nI (by omega) (by omega)
  have cc : (nI c).toNatClampNeg = c := nI_clamp (by omega)
  unfold wpY_call
  dsimp only
  rw [cn, cc]
  exact ⟨vp_in_nI hc (by omega), nm_r hrn ⟨jn, nm_e ⟨jn, nm_e ⟨7, yw_30 hn hc hq hnp hpc hb hs 6 0 rfl rg post h⟩⟩⟩⟩
/-! both sides, one move -/
def fr_low (D : Nat) (ln ra pr ap rr po : Nat → Int32) (n : Nat) : Prop := ∀ f, f + 1 < n → ∃ p k, p < D ∧ k < (ln p).toNatClampNeg ∧ pr f = nI p ∧ po f = nI k ∧ ap f = nI (k + 1) ∧ rr (f + 1) = nI (6 * f + (ra (8 * p + k)).toNatClampNeg)
def fr_top (D : Nat) (pr ap po : Nat → Int32) (f : Nat) : Prop := ∃ p k, p < D ∧ k ≤ 8 ∧ pr f = nI p ∧ ap f = nI k ∧ po f = nI k
def zw_res (D : Nat) (mr : Int32) (pc ln op ra rb rc rn lv ly wa : Nat → Int32) (s f : Nat) (wX : (SX → Prop) → Prop) (wY : (SY → Prop) → Prop) : Prop :=
  ∃ (oc rs st ot ac : Int32) (ko pr ap rr rg po : Nat → Int32), (∀ post : SX → Prop, post (nI D, oc, rs, st, ot, ac, mr, pc, ln, op, ra, rb, rc, rn, ko, pr, ap, rr, rg, lv) → wX post) ∧ (∀ post : SY → Prop, post (nI D, oc, rs, st, ot, ac, pc, ln, op, ra, rb, rc, rn, ko, pr, po, rg, ly, wa) → wY post) ∧ (¬ oc = 0 ∨ (oc = 0 ∧ ∃ s' o' f', st = nI s' ∧ ot = nI o' ∧ ac = nI (f' + 1) ∧ s' ≤ 150 ∧ o' ≤ s' ∧ 2 * s + f' + 1 ≤ 2 * s' + f ∧ f' < 10 ∧ fr_low D ln ra pr ap rr po (f' + 1) ∧ fr_top D pr ap po f'))
theorem fr_low_po {D : Nat} {ln ra pr ap rr po : Nat → Int32} {f : Nat} {x : Int32} (h : fr_low D ln ra pr ap rr po (f + 1)) : fr_low D ln ra pr ap rr (upd po f x) (f + 1) := by
  intro g hg
  obtain ⟨p, k, h1, h2, h3, h4, h5, h6⟩ := h g hg
  exact ⟨p, k, h1, h2, h3, by rw [pk_un (by omega)]; exact h4, h5, h6⟩
theorem fr_low_ap {D : Nat} {ln ra pr ap rr po : Nat → Int32} {f : Nat} {x : Int32} (h : fr_low D ln ra pr ap rr po (f + 1)) : fr_low D ln ra pr (upd ap f x) rr po (f + 1) := by
  intro g hg
  obtain ⟨p, k, h1, h2, h3, h4, h5, h6⟩ := h g hg
  exact ⟨p, k, h1, h2, h3, h4, by rw [pk_un (by omega)]; exact h5, h6⟩
theorem zw_end {D : Nat} {rs mr : Int32} {pc ln op ra rb rc rn ko pr ap rr rg lv po ly wa : Nat → Int32} {s s' o f : Nat} (hok : fx_ok D pc ln op ra rb rc rn) (hf : f < 10) (hlow : fr_low D ln ra pr ap rr po (f + 1)) (hs : s ≤ s') (hs' : s' ≤ 150) (ho : o ≤ s') (val : Int32) : zw_res D mr pc ln op ra rb rc rn lv ly wa s f (fun post => wpX_endActivation post (nI D, 0, rs, nI s', nI o, nI (f + 1), mr, pc, ln, op, ra, rb, rc, rn, ko, pr, ap, rr, rg, lv) val) (fun post => wpY_end post (nI D, 0, rs, nI s', nI o, nI (f + 1), pc, ln, op, ra, rb, rc, rn, ko, pr, po, rg, ly, wa) val) := by
  have hD := hok.1
  rcases f with _ | g
  · refine ⟨1, val, nI s', nI o, nI 0, ko, pr, ap, rr, rg, po, fun post h => ?_, fun post h => ?_, .inl (by decide)⟩
    · exact nm_r (nI_pred 0) (br_t rfl h)
    · exact nm_r (nI_pred 0) (br_t rfl h)
  · obtain ⟨p, k, h1, h2, h3, h4, h5, h6⟩ := hlow g (by omega)
    obtain ⟨r1, r2, r3, r4⟩ := fx_rng hok h1 h2
    have ha := (hok.2.2 p h1 k h2).2.1
    have ha2 := ha.2
    have cg : (nI g).toNatClampNeg = g := nI_clamp (by omega)
    have jg : vp_in (nI g) 10 := vp_in_nI (by omega) (by omega)
    have cg1 : (nI (g + 1)).toNatClampNeg = g + 1 := nI_clamp (by omega)
    have c8 : (nI (8 * p + k)).toNatClampNeg = 8 * p + k := nI_clamp (by omega)
    obtain ⟨ca, ia⟩ := zr_ck (a := 6 * g) (N := 60) ha (by omega) (by omega)
    have e0 : ¬ nI (g + 1) = 0 := nI_ne0 (by omega) (by omega)
    refine ⟨0, rs, nI s', nI o, nI (g + 1), ko, pr, ap, rr, upd rg (6 * g + (ra (8 * p + k)).toNatClampNeg) val, upd po g (nI (k + 1)), fun post h => ?_, fun post h => ?_, .inr ⟨rfl, s', o, g, rfl, rfl, rfl, hs', ho, by omega, by omega, ?_, ⟨p, k + 1, h1, by omega, h3, h5, pk_us⟩⟩⟩
    · unfold wpX_endActivation
      refine nm_r (nI_pred (g + 1)) (br_f e0 ?_)
      rw [cg1, h6, ca]
      exact ⟨vp_in_nI (by omega) (by omega), ia, nm_e h⟩
    · unfold wpY_end
      refine nm_r (nI_pred (g + 1)) (br_f e0 (nm_r (nI_pred g) ?_))
      rw [cg, h3, h4]
      refine ⟨jg, jg, nm_r (fx_j8 p k) ?_⟩
      rw [c8, zr_j6, fx_addn _ ha, ca, nI_1]
      exact ⟨vp_in_nI (by omega) (by omega), ia, nm_e ⟨jg, jg, nm_e h⟩⟩
    · exact fr_low_po fun f' hf' => hlow f' (by omega)
end
section
theorem zw_carry {D : Nat} {rs mr : Int32} {pc ln op ra rb rc rn ko pr ap rr rg lv po ly wa : Nat → Int32} {s s' o f p k : Nat} (hok : fx_ok D pc ln op ra rb rc rn) (hp : p < D) (hk : k < (ln p).toNatClampNeg) (hf : f < 10) (hpr : pr f = nI p) (hap : ap f = nI (k + 1)) (hpo : po f = nI k) (hlow : fr_low D ln ra pr ap rr po (f + 1)) (hs : s + 1 ≤ s') (hs' : s' ≤ 150) (ho : o + 1 ≤ s') (hd : op (8 * p + k) = 5 → f + 1 < 10) : zw_res D mr pc ln op ra rb rc rn lv ly wa s f (fun post => wpX_carryOut post (nI D, 0, rs, nI s', nI o, nI (f + 1), mr, pc, ln, op, ra, rb, rc, rn, ko, pr, ap, rr, rg, lv) (nI (8 * p + k)) (nI f)) (fun post => wpY_carryOut post (nI D, 0, rs, nI s', nI o, nI (f + 1), pc, ln, op, ra, rb, rc, rn, ko, pr, po, rg, ly, wa) (nI (8 * p + k)) (nI f)) := by
  have hD := hok.1
  obtain ⟨r1, r2, r3, r4⟩ := fx_rng hok hp hk
  obtain ⟨hop, ha, hb, hcc, h13, h4, h5⟩ := hok.2.2 p hp k hk
  have ha2 := ha.2
  have hc : 8 * p + k < 40 := by omega
  rcases fx_op hop with e | e | e | e | e | e | e | e
  · exact ⟨0, rs, nI s', nI o, nI (f + 1), ko, pr, ap, rr, upd rg (6 * f + (ra (8 * p + k)).toNatClampNeg) (rn (8 * p + k)), upd po f (nI (k + 1)), fun post h => xc_set e hc hf ha h, fun post h => yc_pre_n e (.inl (by decide)) hc ha (yc_set hf hc (by omega) hpo h), .inr ⟨rfl, s', o, f, rfl, rfl, rfl, hs', by omega, by omega, hf, fr_low_po hlow, ⟨p, k + 1, hp, by omega, hpr, hap, pk_us⟩⟩⟩
  iterate 3
    · have hbc := h13 (by rw [e]; decide)
      have e' : op (8 * p + k) = 1 ∨ op (8 * p + k) = 2 ∨ op (8 * p + k) = 3 := by rw [e]; decide
      exact ⟨0, rs, nI s', nI o, nI (f + 1), ko, pr, ap, rr, upd rg (6 * f + (ra (8 * p + k)).toNatClampNeg) (zr_alu (op (8 * p + k)) (rg (6 * f + (rb (8 * p + k)).toNatClampNeg)) (rg (6 * f + (rc (8 * p + k)).toNatClampNeg))), upd po f (nI (k + 1)), fun post h => xc_alu e' hc hf ha ⟨hb.1, hbc.1⟩ ⟨hcc.1, hbc.2⟩ h, fun post h => yc_pre_a rfl e' hc hf ha ⟨hb.1, hbc.1⟩ ⟨hcc.1, hbc.2⟩ (yc_alu e' hf (by omega) hpo h), .inr ⟨rfl, s', o, f, rfl, rfl, rfl, hs', by omega, by omega, hf, fr_low_po hlow, ⟨p, k + 1, hp, by omega, hpr, hap, pk_us⟩⟩⟩
  · by_cases hz : rg (6 * f + (ra (8 * p + k)).toNatClampNeg) = 0
    · have hn := (h4 e).1
      exact ⟨0, rs, nI s', nI o, nI (f + 1), ko, pr, upd ap f (rn (8 * p + k)), rr, rg, upd po f (rn (8 * p + k)), fun post h => xc_fork0 e hc hf ha hz h, fun post h => yc_pre_n e (.inr (by decide)) hc ha (yc_fork hf hc (by omega) hpo (fun _ => h) (fun z => absurd hz z)), .inr ⟨rfl, s', o, f, rfl, rfl, rfl, hs', by omega, by omega, hf, fr_low_ap (fr_low_po hlow), ⟨p, (rn (8 * p + k)).toNatClampNeg, hp, hn.2, hpr, by rw [pk_us]; exact hn.1, by rw [pk_us]; exact hn.1⟩⟩⟩
    · exact ⟨0, rs, nI s', nI o, nI (f + 1), ko, pr, ap, rr, rg, upd po f (nI (k + 1)), fun post h => xc_fork1 e hc hf ha hz h, fun post h => yc_pre_n e (.inr (by decide)) hc ha (yc_fork hf hc (by omega) hpo (fun z => absurd z hz) (fun _ => h)), .inr ⟨rfl, s', o, f, rfl, rfl, rfl, hs', by omega, by omega, hf, fr_low_po hlow, ⟨p, k + 1, hp, by omega, hpr, hap, pk_us⟩⟩⟩
  · obtain ⟨hn, hnD, hbp⟩ := h5 e
    have hf1 := hd e
    have hpc := (hok.2.1 _ hnD).1
    have hpc2 := hpc.2
    refine ⟨0, rs, nI s', nI o, nI (f + 1 + 1), ko, upd pr (f + 1) (nI (rn (8 * p + k)).toNatClampNeg), upd ap (f + 1) 0, upd rr (f + 1) (nI (6 * f + (ra (8 * p + k)).toNatClampNeg)), zr_Q (f + 1) (pc (rn (8 * p + k)).toNatClampNeg).toNatClampNeg (6 * f + (rb (8 * p + k)).toNatClampNeg) 0 rg, upd po (f + 1) 0, fun post h => ?_, fun post h => ?_, .inr ⟨rfl, s', o, f + 1, rfl, rfl, rfl, hs', by omega, by omega, by omega, ?_, ⟨(rn (8 * p + k)).toNatClampNeg, 0, hnD, by omega, pk_us, pk_us, pk_us⟩⟩⟩
    · refine xc_call e hc hf ha hb (fun q hq => ?_) h
      rw [hn.1]
      exact xw_callp (by omega) (by omega) hpc2 hpc.1 (by omega) hq
    · refine yc_pre_n e (.inr (by decide)) hc ha (yc_call hf (fun q hq => ?_) h)
      exact yw_call (by omega) hc (by omega) hpc2 hpc.1 hb.1 hn.1 (by omega) hq
    · intro g hg
      by_cases eg : g = f
      · subst eg
        exact ⟨p, k, hp, hk, by rw [pk_un (by omega)]; exact hpr, by rw [pk_un (by omega)]; exact hpo, by rw [pk_un (by omega)]; exact hap, by rw [pk_us]⟩
      · obtain ⟨p', k', g1, g2, g3, g4, g5, g6⟩ := hlow g (by omega)
        exact ⟨p', k', g1, g2, by rw [pk_un (by omega)]; exact g3, by rw [pk_un (by omega)]; exact g4, by rw [pk_un (by omega)]; exact g5, by rw [pk_un (by omega)]; exact g6⟩
  · exact ⟨0, rs, nI s', nI (o + 1), nI (f + 1), if o < 16 then upd ko o (rg (6 * f + (ra (8 * p + k)).toNatClampNeg)) else ko, pr, ap, rr, rg, upd po f (nI (k + 1)), fun post h => xc_out e hc hf (by omega) ha h, fun post h => yc_pre_n e (.inr (by decide)) hc ha (yc_out hf (by omega) (by omega) hpo h), .inr ⟨rfl, s', o + 1, f, rfl, rfl, rfl, hs', by omega, by omega, hf, fr_low_po hlow, ⟨p, k + 1, hp, by omega, hpr, hap, pk_us⟩⟩⟩
  · obtain ⟨oc1, rs1, st1, ot1, ac1, ko1, pr1, ap1, rr1, rg1, po1, hX, hY, hR⟩ := zw_end (rs := rs) (mr := mr) (ko := ko) (pr := pr) (ap := ap) (rr := rr) (rg := rg) (lv := lv) (po := po) (ly := ly) (wa := wa) (s := s) (s' := s') (o := o) (f := f) hok hf hlow (by omega) hs' (by omega) (rg (6 * f + (ra (8 * p + k)).toNatClampNeg))
    exact ⟨oc1, rs1, st1, ot1, ac1, ko1, pr1, ap1, rr1, rg1, po1, fun post h => xc_back e hc hf ha hX h, fun post h => yc_pre_n e (.inr (by decide)) hc ha (yc_back hf (by omega) hY h), hR⟩
theorem zw_look {D : Nat} {rs mr : Int32} {pc ln op ra rb rc rn ko pr ap rr rg lv po ly wa : Nat → Int32} {s o f : Nat} (hok : fx_ok D pc ln op ra rb rc rn) (hf : f < 10) (hlow : fr_low D ln ra pr ap rr po (f + 1)) (htop : fr_top D pr ap po f) (hs : s ≤ 150) (ho : o ≤ s) : zw_res D mr pc ln op ra rb rc rn lv ly wa s f (fun post => wpX_makeMove post (nI D, 0, rs, nI s, nI o, nI (f + 1), mr, pc, ln, op, ra, rb, rc, rn, ko, pr, ap, rr, rg, lv)) (fun post => wpY_look post (nI D, 0, rs, nI s, nI o, nI (f + 1), pc, ln, op, ra, rb, rc, rn, ko, pr, po, rg, ly, wa)) := by
  have hD := hok.1
  obtain ⟨p, k, hp, hk8, hpr, hap, hpo⟩ := htop
  have hl := (hok.2.1 p hp).2
  have hl2 := hl.2
  have cf : (nI f).toNatClampNeg = f := nI_clamp (by omega)
  have jf : vp_in (nI f) 10 := vp_in_nI (by omega) (by omega)
  have cp : (nI p).toNatClampNeg = p := nI_clamp (by omega)
  have jp : vp_in (nI p) 5 := vp_in_nI (by omega) (by omega)
  have k0 : ¬ nI k < 0 := nI_pos (by omega)
  by_cases hkl : k < (ln p).toNatClampNeg
  · have q1 : nI k < ln p := by rw [hl.1]; exact nI_lt hkl (by omega)
    have c8 : (nI (8 * p + k)).toNatClampNeg = 8 * p + k := nI_clamp (by omega)
    have i8 : vp_in (nI (8 * p + k)) 40 := vp_in_nI (by omega) (by omega)
    by_cases hs1 : s < 150
    · have q2 : nI s < 150 := nI_lt (b := 150) hs1 (by decide)
      by_cases hdeep : op (8 * p + k) = 5 ∧ ¬ f + 1 < 10
      · have q3 : ¬ nI (f + 1) < 10 := nI_nlt (b := 10) (by omega) (by omega)
        refine ⟨3, rs, nI s, nI o, nI (f + 1), ko, pr, ap, rr, rg, po, fun post h => ?_, fun post h => ?_, .inl (by decide)⟩
        · unfold wpX_makeMove
          refine nm_r (nI_pred f) ?_
          rw [cf]
          refine ⟨jf, nm_r hpr ⟨jf, nm_r hap ?_⟩⟩
          rw [cp]
          refine ⟨jp, br_t q1 (nm_r (fx_i8 p k) (br_t q2 ⟨i8, ?_⟩))⟩
          rw [c8]
          exact br_t hdeep.1 (br_f q3 h)
        · unfold wpY_look
          refine nm_r (nI_pred f) ?_
          rw [cf]
          refine ⟨jf, nm_r hpr ⟨jf, nm_r hpo (br_f k0 ?_)⟩⟩
          rw [cp, fx_j8, c8]
          exact ⟨jp, br_t q1 (br_t q2 ⟨i8, br_t hdeep.1 (br_f q3 h)⟩)⟩
      · obtain ⟨oc1, rs1, st1, ot1, ac1, ko1, pr1, ap1, rr1, rg1, po1, hX, hY, hR⟩ := zw_carry (rs := rs) (mr := mr) (ko := ko) (pr := pr) (ap := upd ap f (nI (k + 1))) (rr := rr) (rg := rg) (lv := lv) (po := po) (ly := ly) (wa := wa) (s := s) (s' := s + 1) (o := o) (f := f) hok hp hkl hf hpr pk_us hpo (fr_low_ap hlow) (Nat.le_refl _) hs1 (by omega) (fun e => Classical.not_not.mp fun z => hdeep ⟨e, z⟩)
        refine ⟨oc1, rs1, st1, ot1, ac1, ko1, pr1, ap1, rr1, rg1, po1, fun post h => ?_, fun post h => ?_, hR⟩
        · have h91 : wX_makeMove_91 post (nI f) (nI k) (nI (8 * p + k)) (nI D) 0 rs (nI s) (nI o) (nI (f + 1)) mr pc ln op ra rb rc rn ko pr ap rr rg lv := by
            unfold wX_makeMove_91
            rw [cf, nI_1 k]
            exact nm_r (nI_1 s) ⟨jf, nm_e (hX _ h)⟩
          unfold wpX_makeMove
          refine nm_r (nI_pred f) ?_
          rw [cf]
          refine ⟨jf, nm_r hpr ⟨jf, nm_r hap ?_⟩⟩
          rw [cp]
          refine ⟨jp, br_t q1 (nm_r (fx_i8 p k) (br_t q2 ⟨i8, ?_⟩))⟩
          rw [c8]
          exact br_c (fun e => br_t (nI_lt (b := 10) (Classical.not_not.mp fun z => hdeep ⟨e, z⟩) (by decide)) h91) (fun _ => h91)
        · have h93 : wY_look_93 post (nI f) (nI p) (nI k) (nI D) 0 rs (nI s) (nI o) (nI (f + 1)) pc ln op ra rb rc rn ko pr po rg ly wa := by
            unfold wY_look_93
            rw [fx_j8]
            exact nm_r (nI_1 s) (hY _ h)
          unfold wpY_look
          refine nm_r (nI_pred f) ?_
          rw [cf]
          refine ⟨jf, nm_r hpr ⟨jf, nm_r hpo (br_f k0 ?_)⟩⟩
          rw [cp, fx_j8, c8]
          exact ⟨jp, br_t q1 (br_t q2 ⟨i8, br_c (fun e => br_t (nI_lt (b := 10) (Classical.not_not.mp fun z => hdeep ⟨e, z⟩) (by decide)) h93) (fun _ => h93)⟩)⟩
    · have q2 : ¬ nI s < 150 := nI_nlt (b := 150) (by omega) (by omega)
      refine ⟨2, rs, nI s, nI o, nI (f + 1), ko, pr, ap, rr, rg, po, fun post h => ?_, fun post h => ?_, .inl (by decide)⟩
      · unfold wpX_makeMove
        refine nm_r (nI_pred f) ?_
        rw [cf]
        refine ⟨jf, nm_r hpr ⟨jf, nm_r hap ?_⟩⟩
        rw [cp]
        exact ⟨jp, br_t q1 (nm_e (br_f q2 h))⟩
      · unfold wpY_look
        refine nm_r (nI_pred f) ?_
        rw [cf]
        refine ⟨jf, nm_r hpr ⟨jf, nm_r hpo (br_f k0 ?_)⟩⟩
        rw [cp]
        exact ⟨jp, br_t q1 (br_f q2 h)⟩
  · have q1 : ¬ nI k < ln p := by rw [hl.1]; exact nI_nlt (by omega) (by omega)
    obtain ⟨oc1, rs1, st1, ot1, ac1, ko1, pr1, ap1, rr1, rg1, po1, hX, hY, hR⟩ := zw_end (rs := rs) (mr := mr) (ko := ko) (pr := pr) (ap := ap) (rr := rr) (rg := rg) (lv := lv) (po := po) (ly := ly) (wa := wa) (s := s) (s' := s) (o := o) (f := f) hok hf hlow (Nat.le_refl _) hs ho 0
    refine ⟨oc1, rs1, st1, ot1, ac1, ko1, pr1, ap1, rr1, rg1, po1, fun post h => ?_, fun post h => ?_, hR⟩
    · unfold wpX_makeMove
      refine nm_r (nI_pred f) ?_
      rw [cf]
      refine ⟨jf, nm_r hpr ⟨jf, nm_r hap ?_⟩⟩
      rw [cp]
      exact ⟨jp, br_f q1 (hX _ h)⟩
    · unfold wpY_look
      refine nm_r (nI_pred f) ?_
      rw [cf]
      refine ⟨jf, nm_r hpr ⟨jf, nm_r hpo (br_f k0 ?_)⟩⟩
      rw [cp]
      refine ⟨jp, br_f q1 ?_⟩
      unfold wY_look_35
      exact hY _ h
theorem zw_run {D : Nat} {mr : Int32} {pc ln op ra rb rc rn lv ly wa : Nat → Int32} (hok : fx_ok D pc ln op ra rb rc rn) : ∀ (m s o f t : Nat) (rs : Int32) (ko pr ap rr rg po : Nat → Int32), 310 < m + (2 * s + 10 - f) → t + f ≤ 2 * s → s ≤ 150 → o ≤ s → f < 10 → fr_low D ln ra pr ap rr po (f + 1) → fr_top D pr ap po f → ∃ (oc' rs' st' ot' ac' : Int32) (ko' pr' ap' rr' rg' po' : Nat → Int32), (∀ post : Int32 → SX → Prop, post oc' (nI D, oc', rs', st', ot', ac', mr, pc, ln, op, ra, rb, rc, rn, ko', pr', ap', rr', rg', lv) → wX_run_23 post (m + 1) (nI t) (nI D) 0 rs (nI s) (nI o) (nI (f + 1)) mr pc ln op ra rb rc rn ko pr ap rr rg lv) ∧ (∀ post : Int32 → SY → Prop, post oc' (nI D, oc', rs', st', ot', ac', pc, ln, op, ra, rb, rc, rn, ko', pr', po', rg', ly, wa) → wY_run_93 post (m + 1) (nI t) (nI D) 0 rs (nI s) (nI o) (nI (f + 1)) pc ln op ra rb rc rn ko pr po rg ly wa) := by
  intro m
  induction m with
  | zero =>
    intro s o f t rs ko pr ap rr rg po hm ht hs
    omega
  | succ m ih =>
    intro s o f t rs ko pr ap rr rg po hm ht hs ho hf hlow htop
    obtain ⟨oc1, rs1, st1, ot1, ac1, ko1, pr1, ap1, rr1, rg1, po1, hX, hY, hR⟩ := zw_look (rs := rs) (mr := mr) (ko := ko) (rg := rg) (lv := lv) (ly := ly) (wa := wa) hok hf hlow htop hs ho
    have q1 : ¬ (1000 : Int32) ≤ nI t := nI_ge (b := 1000) (by omega) (by decide)
    have q2 : ¬ (400 : Int32) ≤ nI t := nI_ge (b := 400) (by omega) (by decide)
    rcases hR with hoc | ⟨rfl, s', o', f', rfl, rfl, rfl, b1, b2, b3, b4, b5, b6⟩
    · have q3 : ¬ (1000 : Int32) ≤ nI (t + 1) := nI_ge (b := 1000) (by omega) (by decide)
      have q4 : ¬ (400 : Int32) ≤ nI (t + 1) := nI_ge (b := 400) (by omega) (by decide)
      exact ⟨oc1, rs1, st1, ot1, ac1, ko1, pr1, ap1, rr1, rg1, po1, fun post h => br_f q1 (br_t rfl (hX _ (nm_r (nI_1 t) (br_f q3 (br_f hoc h))))), fun post h => br_f q2 (br_t rfl (hY _ (nm_r (nI_1 t) (br_f q4 (br_f hoc h)))))⟩
    · obtain ⟨oc2, rs2, st2, ot2, ac2, ko2, pr2, ap2, rr2, rg2, po2, hX2, hY2⟩ := ih s' o' f' (t + 1) rs1 ko1 pr1 ap1 rr1 rg1 po1 (by omega) (by omega) b1 b2 b4 b5 b6
      exact ⟨oc2, rs2, st2, ot2, ac2, ko2, pr2, ap2, rr2, rg2, po2, fun post h => br_f q1 (br_t rfl (hX _ (nm_r (nI_1 t) (hX2 post h)))), fun post h => br_f q2 (br_t rfl (hY _ (nm_r (nI_1 t) (hY2 post h))))⟩
end
section
/-! run: the first activation, then the moves -/
def zr_R (np : Nat) (x y z : Int32) (i : Nat) (rg : Nat → Int32) : Nat → Int32 := fun j => if i ≤ j ∧ j < 6 then (if j < np then (if j = 0 then x else if j = 1 then y else z) else 0) else rg j
theorem zr_R6 (np : Nat) (x y z : Int32) (rg : Nat → Int32) : zr_R np x y z 6 rg = rg := by
  funext j
  exact if_neg (by omega)
theorem zr_Rs {np i : Nat} {x y z v : Int32} (hi : i < 6) (rg : Nat → Int32) (hv : v = if i < np then (if i = 0 then x else if i = 1 then y else z) else 0) : zr_R np x y z (i + 1) (upd rg i v) = zr_R np x y z i rg := by
  funext j
  unfold zr_R
  by_cases e : j = i
  · subst e
    rw [if_neg (by omega), if_pos ⟨Nat.le_refl _, hi⟩, pk_us, hv]
  · by_cases h : i + 1 ≤ j ∧ j < 6
    · have h' : i ≤ j ∧ j < 6 := by omega
      rw [if_pos h, if_pos h']
    · have h' : ¬ (i ≤ j ∧ j < 6) := by omega
      rw [if_neg h, if_neg h', pk_un e]
theorem zr_six {P : Nat → Prop} (h0 : P 0) (h1 : P 1) (h2 : P 2) (h3 : P 3) (h4 : P 4) (h5 : P 5) (h6 : ∀ j, 6 ≤ j → P j) (j : Nat) : P j := by
  rcases Nat.lt_or_ge j 6 with h | h
  · have : j = 0 ∨ j = 1 ∨ j = 2 ∨ j = 3 ∨ j = 4 ∨ j = 5 := by omega
    rcases this with rfl | rfl | rfl | rfl | rfl | rfl
    · exact h0
    · exact h1
    · exact h2
    · exact h3
    · exact h4
    · exact h5
  · exact h6 j h
theorem zr_big {np : Nat} {x y z : Int32} {rg : Nat → Int32} {j : Nat} (hj : 6 ≤ j) : zr_R np x y z 0 rg j = rg j ∧ zr_Z 0 0 rg j = rg j := ⟨if_neg (by omega), if_neg (by omega)⟩
theorem zr_R_0 (x y z : Int32) (rg : Nat → Int32) : zr_Z 0 0 rg = zr_R 0 x y z 0 rg := by
  funext j
  revert j
  refine zr_six rfl rfl rfl rfl rfl rfl fun j hj => ?_
  obtain ⟨h1, h2⟩ := zr_big (np := 0) (x := x) (y := y) (z := z) (rg := rg) hj
  rw [h1, h2]
theorem zr_R_1 (x y z : Int32) (rg : Nat → Int32) : upd (zr_Z 0 0 rg) 0 x = zr_R 1 x y z 0 rg := by
  funext j
  revert j
  refine zr_six rfl rfl rfl rfl rfl rfl fun j hj => ?_
  obtain ⟨h1, h2⟩ := zr_big (np := 1) (x := x) (y := y) (z := z) (rg := rg) hj
  rw [h1, pk_un (by omega), h2]
theorem zr_R_2 (x y z : Int32) (rg : Nat → Int32) : upd (upd (zr_Z 0 0 rg) 0 x) 1 y = zr_R 2 x y z 0 rg := by
  funext j
  revert j
  refine zr_six rfl rfl rfl rfl rfl rfl fun j hj => ?_
  obtain ⟨h1, h2⟩ := zr_big (np := 2) (x := x) (y := y) (z := z) (rg := rg) hj
  rw [h1, pk_un (by omega), pk_un (by omega), h2]
theorem zr_R_3 (x y z : Int32) (rg : Nat → Int32) : upd (upd (upd (zr_Z 0 0 rg) 0 x) 1 y) 2 z = zr_R 3 x y z 0 rg := by
  funext j
  revert j
  refine zr_six rfl rfl rfl rfl rfl rfl fun j hj => ?_
  obtain ⟨h1, h2⟩ := zr_big (np := 3) (x := x) (y := y) (z := z) (rg := rg) hj
  rw [h1, pk_un (by omega), pk_un (by omega), pk_un (by omega), h2]
theorem xw_begin {post : SX → Prop} {d oc rs st ot ac mr : Int32} {pc ln op ra rb rc rn ko pr ap rr rg lv : Nat → Int32} {np : Nat} {x y z : Int32} (hnp : np ≤ 3) (hpc : pc 0 = nI np) (h : post (d, oc, rs, st, ot, nI (0 + 1), mr, pc, ln, op, ra, rb, rc, rn, ko, upd pr 0 0, upd ap 0 0, upd rr 0 0, zr_R np x y z 0 rg, lv)) : wpX_beginFirstActivation post (d, oc, rs, st, ot, ac, mr, pc, ln, op, ra, rb, rc, rn, ko, pr, ap, rr, rg, lv) x y z := by
  unfold wpX_beginFirstActivation
  refine xw_add (n := 0) (by omega) ?_
  refine nm_r hpc ?_
  have hn : np = 0 ∨ np = 1 ∨ np = 2 ∨ np = 3 := by omega
  rcases hn with rfl | rfl | rfl | rfl
  · rw [← zr_R_0] at h
    exact br_t (by decide) (br_t (by decide) (br_t (by decide) h))
  · rw [← zr_R_1] at h
    exact br_f (by decide) (nm_e (br_t (by decide) (br_t (by decide) h)))
  · rw [← zr_R_2] at h
    exact br_f (by decide) (nm_e (br_f (by decide) (nm_e (br_t (by decide) h))))
  · rw [← zr_R_3] at h
    exact br_f (by decide) (nm_e (br_f (by decide) (nm_e (br_f (by decide) (nm_e h)))))
theorem yw_35 {d oc rs st ot ac : Int32} {pc ln op ra rb rc rn ko pr po ly wa : Nat → Int32} {np : Nat} {x y z : Int32} (hnp : np ≤ 3) (hpc : pc 0 = nI np) : ∀ (m i : Nat), i + m = 6 → ∀ (rg : Nat → Int32) (post : Int32 → SY → Prop), (∃ n93, wY_run_93 post n93 0 d oc rs st ot ac pc ln op ra rb rc rn ko pr po (zr_R np x y z i rg) ly wa) → wY_run_35 post x y z d oc rs st ot ac (m + 1) (nI i) pc ln op ra rb rc rn ko pr po rg ly wa := by
  intro m
  induction m with
  | zero =>
    intro i hi rg post h
    have : i = 6 := by omega
    subst this
    rw [zr_R6] at h
    exact br_t (by decide) h
  | succ m ih =>
    intro i hi rg post h
    have ci : (nI i).toNatClampNeg = i := nI_clamp (by omega)
    have ji : vp_in (nI i) 60 := vp_in_nI (by omega) (by omega)
    refine br_f (nI_ge (b := 6) (by omega) (by decide)) ?_
    rw [hpc]
    by_cases hlt : i < np
    · refine br_t (nI_lt hlt (by omega)) ?_
      by_cases e0 : i = 0
      · refine br_t (by rw [e0]; rfl) ⟨ji, nm_r (e' := upd rg i x) (by rw [ci]) (nm_r (nI_1 i) (ih (i + 1) (by omega) _ post ?_))⟩
        rw [zr_Rs (by omega) rg (by rw [if_pos hlt, if_pos e0])]
        exact h
      · refine br_f (nI_ne0 (by omega) (by omega)) ?_
        by_cases e1 : i = 1
        · refine br_t (by rw [e1]; rfl) ⟨ji, nm_r (e' := upd rg i y) (by rw [ci]) (nm_r (nI_1 i) (ih (i + 1) (by omega) _ post ?_))⟩
          rw [zr_Rs (by omega) rg (by rw [if_pos hlt, if_neg e0, if_pos e1])]
          exact h
        · refine br_f (zr_o (n := 1) (by omega) (by omega) e1) ⟨ji, nm_r (e' := upd rg i z) (by rw [ci]) (nm_r (nI_1 i) (ih (i + 1) (by omega) _ post ?_))⟩
          rw [zr_Rs (by omega) rg (by rw [if_pos hlt, if_neg e0, if_neg e1])]
          exact h
    · refine br_f (nI_nlt (by omega) (by omega)) ⟨ji, nm_r (e' := upd rg i 0) (by rw [ci]) (nm_r (nI_1 i) (ih (i + 1) (by omega) _ post ?_))⟩
      rw [zr_Rs (by omega) rg (by rw [if_neg hlt])]
      exact h
theorem i_vc_run {k : Nat} {u : SX} {v : SY} (I : i_Rel k u v) (hk : k + 5 ≤ 2560) (v1 : Int32) (v2 : Int32) (v3 : Int32) : wpX_run (fun r u' => wpY_run (fun r' v' => r' = r ∧ i_Rel (k + 5) u' v') v v1 v2 v3) u v1 v2 v3 := by
  obtain ⟨D, oc, rs, st, ot, ac, mr, pc, ln, op, ra, rb, rc, rn, ko, pr, ap, rr, rg, lv, po, ly, wa, rfl, rfl, hok⟩ := I
  have hD := hok.1
  by_cases h0 : D = 0
  · subst h0
    exact br_t rfl (br_t rfl ⟨rfl, zr_mk _ hok⟩)
  · have q : ¬ nI D = 0 := nI_ne0 (by omega) (by omega)
    have hpc := (hok.2.1 0 (by omega)).1
    obtain ⟨oc1, rs1, st1, ot1, ac1, ko1, pr1, ap1, rr1, rg1, po1, hX, hY⟩ := zw_run (mr := mr) (lv := lv) (ly := ly) (wa := wa) hok 301 0 0 0 0 0 ko (upd pr 0 0) (upd ap 0 0) (upd rr 0 0) (zr_R (pc 0).toNatClampNeg v1 v2 v3 0 rg) (upd po 0 0) (by omega) (by omega) (by omega) (by omega) (by omega) (fun g hg => absurd hg (by omega)) ⟨0, 0, by omega, by omega, pk_us, pk_us, pk_us⟩
    refine br_f q ?_
    unfold wpX_forgetRun
    dsimp only
    refine xw_begin hpc.2 hpc.1 ⟨_, hX _ ?_⟩
    refine br_f q ?_
    unfold wpY_forget
    dsimp only
    refine nm_e (nm_e ⟨_, yw_35 hpc.2 hpc.1 6 0 rfl rg _ ⟨_, hY _ ⟨rfl, zr_mk _ hok⟩⟩⟩)
end
