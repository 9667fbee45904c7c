section
/-! rows pasted from kit/rows -/
theorem pk_us {f : Nat → Int32} {k : Nat} {x : Int32} : upd f k x k = x := if_pos rfl
theorem pk_un {f : Nat → Int32} {k j : Nat} {x : Int32} (h : j ≠ k) : upd f k x j = f j := if_neg h
theorem pk_sub {a b : Nat} (h : b ≤ a) : nI a - nI b = nI (a - b) := by
  obtain ⟨c, rfl⟩ : ∃ c, a = c + b := ⟨a - b, by omega⟩
  rw [← nI_add, Int32.add_sub_cancel, Nat.add_sub_cancel]
theorem pk_m1 (n : Nat) : nI (n + 1) + (-1) = nI n := by
  rw [← nI_1, Int32.add_assoc, show (1 : Int32) + (-1) = 0 from rfl, Int32.add_zero]
theorem pk_mul (a b : Nat) : nI a * nI b = nI (a * b) := (Int32.ofNat_mul a b).symm
theorem pk_div {a d : Nat} (ha : a < 2 ^ 31) (h0 : 0 < d) (hd : d < 2 ^ 31) : nI a / nI d = nI (a / d) := by
  apply Int32.toInt_inj.mp
  rw [lg_idiv_nonneg (by rw [nI_toInt ha]; omega) (by rw [nI_toInt hd]; omega), nI_toInt ha, nI_toInt hd, nI_toInt (Nat.lt_of_le_of_lt (Nat.div_le_self a d) ha)]
  first | rfl | exact (Int.natCast_ediv _ _).symm
theorem pk_rem {a d : Nat} (ha : a < 2 ^ 31) (h0 : 0 < d) (hd : d < 2 ^ 31) : nI a - nI a / nI d * nI d = nI (a % d) := by
  rw [pk_div ha h0 hd, pk_mul, pk_sub (Nat.div_mul_le_self a d)]
  exact congrArg nI (by have := Nat.div_add_mod' a d; omega)
theorem pk_ix (x : Int32) {n : Nat} (hn : n < 2 ^ 31) : x < 0 ∨ nI n ≤ x ∨ ∃ j : Nat, j < n ∧ x = nI j := by
  by_cases h : x < 0
  · exact Or.inl h
  · obtain ⟨j, hj, rfl⟩ := nI_of h
    by_cases h2 : j < n
    · exact Or.inr (Or.inr ⟨j, h2, rfl⟩)
    · exact Or.inr (Or.inl (nI_le (by omega) hj))
theorem pk_le {x y : Int32} {A B : Prop} (a b : Nat) (f : a ≤ b → A) (g : b < a → B) (hx : x = nI a := by rfl) (hy : y = nI b := by rfl) (ha : a < 2 ^ 31 := by omega) (hb : b < 2 ^ 31 := by omega) : (x ≤ y → A) ∧ (¬ x ≤ y → B) := by
  subst hx hy
  rw [nI_leI ha hb]
  exact ⟨f, fun z => g (by omega)⟩
theorem pk_lt {x y : Int32} {A B : Prop} (a b : Nat) (f : a < b → A) (g : b ≤ a → B) (hx : x = nI a := by rfl) (hy : y = nI b := by rfl) (ha : a < 2 ^ 31 := by omega) (hb : b < 2 ^ 31 := by omega) : (x < y → A) ∧ (¬ x < y → B) := by
  subst hx hy
  rw [nI_ltI ha hb]
  exact ⟨f, fun z => g (by omega)⟩
theorem pk_eq {x y : Int32} {A B : Prop} (a b : Nat) (f : a = b → A) (g : a ≠ b → B) (hx : x = nI a := by rfl) (hy : y = nI b := by rfl) (ha : a < 2 ^ 31 := by omega) (hb : b < 2 ^ 31 := by omega) : (x = y → A) ∧ (¬ x = y → B) := by
  subst hx hy
  rw [nI_eq ha hb]
  exact ⟨f, g⟩
theorem pk_in {x : Int32} (n N : Nat) (h : n < N) (hx : x = nI n := by rfl) (hN : N < 2 ^ 31 := by omega) : vp_in x N := by
  subst hx
  exact vp_in_nI h hN
theorem pk_cl {x : Int32} (n : Nat) (hx : x = nI n := by rfl) (h : n < 2 ^ 31 := by omega) : x.toNatClampNeg = n := by
  subst hx
  exact nI_clamp h
theorem pk_tn {n : Nat} (h : n < 2 ^ 32) : (nI n).toBitVec.toNat = n := Nat.mod_eq_of_lt h
theorem pk_and (x : Int32) {m : Int32} (k : Nat) (hm : m.toBitVec.toNat = 2 ^ k - 1) : x &&& m = nI (x.toBitVec.toNat % 2 ^ k) := by
  apply Int32.toBitVec_inj.mp
  apply BitVec.eq_of_toNat_eq
  rw [Int32.toBitVec_and, BitVec.toNat_and, hm, Nat.and_two_pow_sub_one_eq_mod]
  show _ = (BitVec.ofNat 32 _).toNat
  rw [BitVec.toNat_ofNat]
  exact (Nat.mod_eq_of_lt (Nat.lt_of_le_of_lt (Nat.mod_le _ _) x.toBitVec.isLt)).symm
theorem pk_andN {n : Nat} (h : n < 2 ^ 32) {m : Int32} (k : Nat) (hm : m.toBitVec.toNat = 2 ^ k - 1) : nI n &&& m = nI (n % 2 ^ k) := by
  rw [pk_and _ k hm, pk_tn h]
theorem pk_andE (x : Int32) {m : Int32} (k : Nat) (hm : m.toBitVec.toNat = 2 ^ k - 1) : ∃ j : Nat, j < 2 ^ k ∧ x &&& m = nI j := ⟨_, Nat.mod_lt _ (Nat.two_pow_pos k), pk_and x k hm⟩
theorem pk_shr (a s : Int32) (k : Nat) (hs : (s.toBitVec.smod 32).toNat = k) : (a >>> s).toInt = a.toInt >>> k := by
  show (a.toBitVec.sshiftRight (s.toBitVec.smod 32).toNat).toInt = _
  rw [hs, BitVec.toInt_sshiftRight]
  rfl
theorem pk_shrN {n : Nat} (h : n < 2 ^ 31) (s : Int32) (k : Nat) (hs : (s.toBitVec.smod 32).toNat = k) : nI n >>> s = nI (n / 2 ^ k) := by
  apply Int32.toInt_inj.mp
  have h2 : n / 2 ^ k ≤ n := Nat.div_le_self _ _
  rw [pk_shr _ _ k hs, nI_toInt h, nI_toInt (by omega), Int.shiftRight_eq_div_pow]
  rfl
def bt (x : Int32) (i : Nat) : Bool := x.toBitVec.getLsbD i
theorem b_ext {x y : Int32} (h : ∀ i, i < 32 → bt x i = bt y i) : x = y := Int32.toBitVec_inj.mp (BitVec.eq_of_getLsbD_eq (fun i hi => h i hi))
theorem b_or (x y : Int32) (i : Nat) : bt (x ||| y) i = (bt x i || bt y i) := by unfold bt; rw [Int32.toBitVec_or, BitVec.getLsbD_or]
theorem b_and (x y : Int32) (i : Nat) : bt (x &&& y) i = (bt x i && bt y i) := by unfold bt; rw [Int32.toBitVec_and, BitVec.getLsbD_and]
theorem b_xor (x y : Int32) (i : Nat) : bt (x ^^^ y) i = (bt x i ^^ bt y i) := by unfold bt; rw [Int32.toBitVec_xor, BitVec.getLsbD_xor]
theorem b_big {x : Int32} {i : Nat} (h : 32 ≤ i) : bt x i = false := BitVec.getLsbD_of_ge _ _ h
theorem b_m1 : ∀ i, i < 32 → bt (-1) i = true := by decide +kernel
theorem b_0 (i : Nat) : bt 0 i = false := BitVec.getLsbD_zero
theorem s_l : ∀ n, n < 32 → ((nI n &&& 31).toBitVec.smod 32).toNat = n := by decide +kernel
theorem b_shl (n : Nat) (hn : n < 32) (x : Int32) {i : Nat} (hi : i < 32) : bt (x <<< (nI n &&& 31)) i = (decide (n ≤ i) && bt x (i - n)) := by
  unfold bt
  rw [Int32.toBitVec_shiftLeft]
  show (x.toBitVec <<< ((nI n &&& 31).toBitVec.smod 32).toNat).getLsbD i = _
  rw [s_l n hn, BitVec.getLsbD_shiftLeft]
  rcases Nat.lt_or_ge i n with h | h
  · simp [h, Nat.not_le.mpr h]
  · simp [hi, h, Nat.not_lt.mpr h]
theorem b_sshr (n : Nat) (hn : n < 32) (x : Int32) {i : Nat} (hi : i < 32) : bt (x >>> (nI n &&& 31)) i = if n + i < 32 then bt x (n + i) else bt x 31 := by
  unfold bt
  rw [Int32.toBitVec_shiftRight]
  show (x.toBitVec.sshiftRight ((nI n &&& 31).toBitVec.smod 32).toNat).getLsbD i = _
  rw [s_l n hn, BitVec.getLsbD_sshiftRight, BitVec.msb_eq_getLsbD_last]
  simp [hi]
end
section
/-! counting -/
def fx_cnt (f : Nat → Bool) : Nat → Nat
  | 0 => 0
  | n + 1 => fx_cnt f n + (f n).toNat
theorem fx_cnt_le (f : Nat → Bool) : ∀ n, fx_cnt f n ≤ n
  | 0 => Nat.le_refl 0
  | n + 1 => Nat.add_le_add (fx_cnt_le f n) (Bool.toNat_le (f n))
theorem fx_cnt_mono {f g : Nat → Bool} : ∀ n, (∀ i, i < n → f i = true → g i = true) → fx_cnt f n ≤ fx_cnt g n ∧ (fx_cnt f n = fx_cnt g n → ∀ i, i < n → f i = g i) := by
  intro n
  induction n with
  | zero => intro _; exact ⟨Nat.le_refl _, fun _ i hi => absurd hi (by omega)⟩
  | succ n ih =>
    intro h
    obtain ⟨h1, h2⟩ := ih (fun i hi => h i (by omega))
    have hn := h n (by omega)
    have e1 : fx_cnt f (n + 1) = fx_cnt f n + (f n).toNat := rfl
    have e2 : fx_cnt g (n + 1) = fx_cnt g n + (g n).toNat := rfl
    cases hf : f n
    · cases hg : g n
      · rw [hf] at e1; rw [hg] at e2
        simp only [Bool.toNat_false] at e1 e2
        refine ⟨by omega, fun e i hi => ?_⟩
        rcases Nat.lt_or_ge i n with h3 | h3
        · exact h2 (by omega) i h3
        · have : i = n := by omega
          rw [this, hf, hg]
      · rw [hf] at e1; rw [hg] at e2
        simp only [Bool.toNat_false, Bool.toNat_true] at e1 e2
        exact ⟨by omega, fun e => by omega⟩
    · have hg := hn hf
      rw [hf] at e1; rw [hg] at e2
      simp only [Bool.toNat_true] at e1 e2
      refine ⟨by omega, fun e i hi => ?_⟩
      rcases Nat.lt_or_ge i n with h3 | h3
      · exact h2 (by omega) i h3
      · have : i = n := by omega
        rw [this, hf, hg]
theorem fx_cnt_lt {f g : Nat → Bool} {n : Nat} (h : ∀ i, i < n → f i = true → g i = true) {i : Nat} (hi : i < n) (h0 : f i = false) (h1 : g i = true) : fx_cnt f n < fx_cnt g n := by
  obtain ⟨a, b⟩ := fx_cnt_mono n h
  rcases Nat.lt_or_ge (fx_cnt f n) (fx_cnt g n) with c | c
  · exact c
  · have := b (by omega) i hi
    rw [h0, h1] at this
    exact absurd this (by decide)
theorem fx_cnt_pos {f : Nat → Bool} {n i : Nat} (hi : i < n) (h : f i = true) : 1 ≤ fx_cnt f n := by
  have h0 : fx_cnt (fun _ => false) n < fx_cnt f n := fx_cnt_lt (fun _ _ z => absurd z (by decide)) hi rfl h
  omega
/-! numbers and single bits -/
def fx_nn (x : Int32) (b : Nat) : Prop := x = nI x.toNatClampNeg ∧ x.toNatClampNeg ≤ b
theorem fx_nn_nI {n b : Nat} (h : n ≤ b) (hb : b < 2 ^ 31) : fx_nn (nI n) b := by
  unfold fx_nn
  rw [nI_clamp (by omega)]
  exact ⟨rfl, h⟩
theorem fx_one {n : Nat} (hn : n < 8) (j : Nat) : bt ((1 : Int32) <<< (nI n &&& 31)) j = decide (j = n) := by
  rcases Nat.lt_or_ge j 32 with h | h
  · exact (by decide +kernel : ∀ n, n < 8 → ∀ j, j < 32 → bt ((1 : Int32) <<< (nI n &&& 31)) j = decide (j = n)) n hn j h
  · rw [b_big h, decide_eq_false (by omega)]
theorem fx_mask {n : Nat} (hn : n < 4) (j : Nat) : bt (((1 : Int32) <<< (nI n &&& 31)) - 1) j = decide (j < n) := by
  rcases Nat.lt_or_ge j 32 with h | h
  · exact (by decide +kernel : ∀ n, n < 4 → ∀ j, j < 32 → bt (((1 : Int32) <<< (nI n &&& 31)) - 1) j = decide (j < n)) n hn j h
  · rw [b_big h, decide_eq_false (by omega)]
theorem fx_b1 (j : Nat) : bt 1 j = decide (j = 0) := by
  rcases Nat.lt_or_ge j 32 with h | h
  · exact (by decide +kernel : ∀ j, j < 32 → bt 1 j = decide (j = 0)) j h
  · rw [b_big h, decide_eq_false (by omega)]
theorem fx_lt {x : Int32} {j : Nat} (h : bt x j = true) : j < 32 := by
  rcases Nat.lt_or_ge j 32 with h1 | h1
  · exact h1
  · rw [b_big h1] at h; exact absurd h (by decide)
theorem fx_and0 {n : Nat} (hn : n < 8) (x : Int32) : (x &&& ((1 : Int32) <<< (nI n &&& 31))) = 0 ↔ ¬ bt x n = true := by
  constructor
  · intro h z
    have e : bt (x &&& ((1 : Int32) <<< (nI n &&& 31))) n = bt 0 n := by rw [h]
    rw [b_and, fx_one hn, z, b_0] at e
    simp at e
  · intro h
    apply b_ext
    intro i _
    rw [b_and, fx_one hn, b_0]
    by_cases e : i = n
    · subst e
      cases hb : bt x i
      · rfl
      · exact absurd hb h
    · simp [e]
theorem fx_hb {n : Nat} (hn : n < 32) (x : Int32) : ((x >>> (nI n &&& 31)) &&& 1) = 1 ↔ bt x n = true := by
  have e0 : bt ((x >>> (nI n &&& 31)) &&& 1) 0 = bt x n := by
    rw [b_and, b_sshr n hn x (by omega), fx_b1]
    simp [hn]
  constructor
  · intro h
    rw [← e0, h]
    decide +kernel
  · intro h
    apply b_ext
    intro i hi
    by_cases e : i = 0
    · subst e
      rw [e0, h]
      decide +kernel
    · rw [b_and, fx_b1, decide_eq_false e, Bool.and_false]
theorem fx_xm (x : Int32) (j : Nat) (hj : j < 32) : bt (x ^^^ (-1)) j = !(bt x j) := by
  rw [b_xor, b_m1 j hj, Bool.xor_true]
/-! the two sets of an instruction, as numbers and as bits -/
def fx_af (op rn L : Nat → Int32) (p k : Nat) : Int32 :=
  if op (8 * p + k) = 7 then 0 else if op (8 * p + k) = 4 then L (9 * p + k + 1) ||| L (9 * p + (rn (8 * p + k)).toNatClampNeg) else L (9 * p + k + 1)
def fx_ap (op rn L : Nat → Int32) (p k j : Nat) : Prop :=
  ¬ op (8 * p + k) = 7 ∧ (bt (L (9 * p + k + 1)) j = true ∨ (op (8 * p + k) = 4 ∧ bt (L (9 * p + (rn (8 * p + k)).toNatClampNeg)) j = true))
theorem fx_af_bit (op rn L : Nat → Int32) (p k j : Nat) : bt (fx_af op rn L p k) j = true ↔ fx_ap op rn L p k j := by
  unfold fx_af fx_ap
  by_cases h7 : op (8 * p + k) = 7
  · rw [if_pos h7, b_0]
    exact ⟨fun z => absurd z (by decide), fun z => absurd h7 z.1⟩
  · rw [if_neg h7]
    by_cases h4 : op (8 * p + k) = 4
    · rw [if_pos h4, b_or, Bool.or_eq_true]
      exact ⟨fun z => ⟨h7, z.imp id fun y => ⟨h4, y⟩⟩, fun z => z.2.imp id fun y => y.2⟩
    · rw [if_neg h4]
      exact ⟨fun z => ⟨h7, .inl z⟩, fun z => z.2.elim id fun y => absurd y.1 h4⟩
def fx_bf (pc op ra rb rc rn L : Nat → Int32) (W : Nat → Bool) (p k : Nat) : Int32 :=
  if op (8 * p + k) = 4 then fx_af op rn L p k ||| ((1 : Int32) <<< (ra (8 * p + k) &&& 31))
  else if op (8 * p + k) = 6 then fx_af op rn L p k ||| ((1 : Int32) <<< (ra (8 * p + k) &&& 31))
  else if op (8 * p + k) = 7 then (if W p = true then (1 : Int32) <<< (ra (8 * p + k) &&& 31) else 0)
  else if op (8 * p + k) = 5 then (fx_af op rn L p k &&& (((1 : Int32) <<< (ra (8 * p + k) &&& 31)) ^^^ (-1))) ||| ((L (9 * (rn (8 * p + k)).toNatClampNeg) &&& (((1 : Int32) <<< (pc (rn (8 * p + k)).toNatClampNeg &&& 31)) - 1)) <<< (rb (8 * p + k) &&& 31))
  else if op (8 * p + k) = 0 then (fx_af op rn L p k &&& (((1 : Int32) <<< (ra (8 * p + k) &&& 31)) ^^^ (-1))) ||| 0
  else if (fx_af op rn L p k &&& ((1 : Int32) <<< (ra (8 * p + k) &&& 31))) = 0 then (fx_af op rn L p k &&& (((1 : Int32) <<< (ra (8 * p + k) &&& 31)) ^^^ (-1))) ||| 0
  else (fx_af op rn L p k &&& (((1 : Int32) <<< (ra (8 * p + k) &&& 31)) ^^^ (-1))) ||| (((1 : Int32) <<< (rb (8 * p + k) &&& 31)) ||| ((1 : Int32) <<< (rc (8 * p + k) &&& 31)))
def fx_bp (pc op ra rb rc rn L : Nat → Int32) (W : Nat → Bool) (p k j : Nat) : Prop :=
  ((op (8 * p + k) = 4 ∨ op (8 * p + k) = 6) ∧ (fx_ap op rn L p k j ∨ j = (ra (8 * p + k)).toNatClampNeg))
  ∨ (op (8 * p + k) = 7 ∧ W p = true ∧ j = (ra (8 * p + k)).toNatClampNeg)
  ∨ (op (8 * p + k) = 5 ∧ ((fx_ap op rn L p k j ∧ j ≠ (ra (8 * p + k)).toNatClampNeg) ∨ ((rb (8 * p + k)).toNatClampNeg ≤ j ∧ j - (rb (8 * p + k)).toNatClampNeg < (pc (rn (8 * p + k)).toNatClampNeg).toNatClampNeg ∧ bt (L (9 * (rn (8 * p + k)).toNatClampNeg)) (j - (rb (8 * p + k)).toNatClampNeg) = true)))
  ∨ (op (8 * p + k) = 0 ∧ fx_ap op rn L p k j ∧ j ≠ (ra (8 * p + k)).toNatClampNeg)
  ∨ ((op (8 * p + k) = 1 ∨ op (8 * p + k) = 2 ∨ op (8 * p + k) = 3) ∧ ((fx_ap op rn L p k j ∧ j ≠ (ra (8 * p + k)).toNatClampNeg) ∨ (fx_ap op rn L p k (ra (8 * p + k)).toNatClampNeg ∧ (j = (rb (8 * p + k)).toNatClampNeg ∨ j = (rc (8 * p + k)).toNatClampNeg))))
def fx_cell (D : Nat) (pc op ra rb rc rn : Nat → Int32) (p k : Nat) : Prop :=
  fx_nn (op (8 * p + k)) 7 ∧ fx_nn (ra (8 * p + k)) 5 ∧ fx_nn (rb (8 * p + k)) 7 ∧ fx_nn (rc (8 * p + k)) 7
  ∧ ((op (8 * p + k) = 1 ∨ op (8 * p + k) = 2 ∨ op (8 * p + k) = 3) → (rb (8 * p + k)).toNatClampNeg ≤ 5 ∧ (rc (8 * p + k)).toNatClampNeg ≤ 5)
  ∧ (op (8 * p + k) = 4 → fx_nn (rn (8 * p + k)) 8 ∧ k < (rn (8 * p + k)).toNatClampNeg)
  ∧ (op (8 * p + k) = 5 → fx_nn (rn (8 * p + k)) 4 ∧ (rn (8 * p + k)).toNatClampNeg < D ∧ (rb (8 * p + k)).toNatClampNeg + (pc (rn (8 * p + k)).toNatClampNeg).toNatClampNeg ≤ 6)
def fx_ok (D : Nat) (pc ln op ra rb rc rn : Nat → Int32) : Prop :=
  D ≤ 5 ∧ (∀ p, p < D → fx_nn (pc p) 3 ∧ fx_nn (ln p) 8) ∧ ∀ p, p < D → ∀ k, k < (ln p).toNatClampNeg → fx_cell D pc op ra rb rc rn p k
theorem fx_op {x : Int32} (h : fx_nn x 7) : x = 0 ∨ x = 1 ∨ x = 2 ∨ x = 3 ∨ x = 4 ∨ x = 5 ∨ x = 6 ∨ x = 7 := by
  obtain ⟨h1, h2⟩ := h
  generalize x.toNatClampNeg = n at h1 h2
  subst h1
  exact (by decide +kernel : ∀ n, n ≤ 7 → (nI n = 0 ∨ nI n = 1 ∨ nI n = 2 ∨ nI n = 3 ∨ nI n = 4 ∨ nI n = 5 ∨ nI n = 6 ∨ nI n = 7)) n h2
theorem fx_bf_bit {D : Nat} {pc ln op ra rb rc rn : Nat → Int32} (hok : fx_ok D pc ln op ra rb rc rn) (L : Nat → Int32) (W : Nat → Bool) {p k : Nat} (hp : p < D) (hk : k < (ln p).toNatClampNeg) (j : Nat) : bt (fx_bf pc op ra rb rc rn L W p k) j = true ↔ fx_bp pc op ra rb rc rn L W p k j := by
  obtain ⟨hD, hpl, hcs⟩ := hok
  obtain ⟨ho, ha, hb, hc, h13, h4, h5⟩ := hcs p hp k hk
  have hA : ∀ j, bt ((1 : Int32) <<< (ra (8 * p + k) &&& 31)) j = decide (j = (ra (8 * p + k)).toNatClampNeg) := by
    intro j
    conv => lhs; rw [ha.1]
    exact fx_one (by have := ha.2; omega) j
  have hB : ∀ j, bt ((1 : Int32) <<< (rb (8 * p + k) &&& 31)) j = decide (j = (rb (8 * p + k)).toNatClampNeg) := by
    intro j
    conv => lhs; rw [hb.1]
    exact fx_one (by have := hb.2; omega) j
  have hC : ∀ j, bt ((1 : Int32) <<< (rc (8 * p + k) &&& 31)) j = decide (j = (rc (8 * p + k)).toNatClampNeg) := by
    intro j
    conv => lhs; rw [hc.1]
    exact fx_one (by have := hc.2; omega) j
  have hX : ∀ j, bt (fx_af op rn L p k &&& (((1 : Int32) <<< (ra (8 * p + k) &&& 31)) ^^^ (-1))) j = true ↔ (fx_ap op rn L p k j ∧ j ≠ (ra (8 * p + k)).toNatClampNeg) := by
    intro j
    rw [b_and, Bool.and_eq_true, fx_af_bit]
    refine and_congr_right fun z => ?_
    have hj : j < 32 := fx_lt ((fx_af_bit op rn L p k j).mpr z)
    rw [fx_xm _ _ hj, hA]
    simp
  have hZ : (fx_af op rn L p k &&& ((1 : Int32) <<< (ra (8 * p + k) &&& 31))) = 0 ↔ ¬ fx_ap op rn L p k (ra (8 * p + k)).toNatClampNeg := by
    rw [← fx_af_bit]
    conv => lhs; rw [ha.1]
    exact fx_and0 (by have := ha.2; omega) _
  unfold fx_bf fx_bp
  rcases fx_op ho with e | e | e | e | e | e | e | e
  · rw [if_neg (by rw [e]; decide), if_neg (by rw [e]; decide), if_neg (by rw [e]; decide), if_neg (by rw [e]; decide), if_pos e, b_or, Bool.or_eq_true, hX, b_0]
    rw [e]
    constructor
    · rintro (z | z)
      · exact .inr (.inr (.inr (.inl ⟨rfl, z⟩)))
      · exact absurd z (by decide)
    · rintro (⟨z | z, _⟩ | ⟨z, _⟩ | ⟨z, _⟩ | ⟨_, z⟩ | ⟨z | z | z, _⟩)
      · exact absurd z (by decide)
      · exact absurd z (by decide)
      · exact absurd z (by decide)
      · exact absurd z (by decide)
      · exact .inl z
      · exact absurd z (by decide)
      · exact absurd z (by decide)
      · exact absurd z (by decide)
  iterate 3
    · rw [if_neg (by rw [e]; decide), if_neg (by rw [e]; decide), if_neg (by rw [e]; decide), if_neg (by rw [e]; decide), if_neg (by rw [e]; decide)]
      constructor
      · intro z
        by_cases hz : (fx_af op rn L p k &&& ((1 : Int32) <<< (ra (8 * p + k) &&& 31))) = 0
        · rw [if_pos hz, b_or, Bool.or_eq_true, hX, b_0] at z
          refine .inr (.inr (.inr (.inr ⟨by rw [e]; decide, .inl (z.elim id fun y => absurd y (by decide))⟩)))
        · rw [if_neg hz, b_or, Bool.or_eq_true, hX, b_or, Bool.or_eq_true, hB, hC, decide_eq_true_eq, decide_eq_true_eq] at z
          refine .inr (.inr (.inr (.inr ⟨by rw [e]; decide, z.imp id fun y => ⟨?_, y⟩⟩)))
          rw [hZ] at hz
          exact Classical.not_not.mp hz
      · rintro (⟨z | z, _⟩ | ⟨z, _⟩ | ⟨z, _⟩ | ⟨z, _⟩ | ⟨_, z⟩)
        · rw [e] at z; exact absurd z (by decide)
        · rw [e] at z; exact absurd z (by decide)
        · rw [e] at z; exact absurd z (by decide)
        · rw [e] at z; exact absurd z (by decide)
        · rw [e] at z; exact absurd z (by decide)
        · rcases z with z | ⟨z, y⟩
          · by_cases hz : (fx_af op rn L p k &&& ((1 : Int32) <<< (ra (8 * p + k) &&& 31))) = 0
            · rw [if_pos hz, b_or, Bool.or_eq_true, hX]; exact .inl z
            · rw [if_neg hz, b_or, Bool.or_eq_true, hX]; exact .inl z
          · rw [if_neg (fun q => hZ.mp q z), b_or, Bool.or_eq_true, b_or, Bool.or_eq_true, hB, hC, decide_eq_true_eq, decide_eq_true_eq]; exact .inr y
  · rw [if_pos e, b_or, Bool.or_eq_true, fx_af_bit, hA, decide_eq_true_eq]
    constructor
    · intro z; exact .inl ⟨.inl e, z⟩
    · rintro (⟨_, z⟩ | ⟨z, _⟩ | ⟨z, _⟩ | ⟨z, _⟩ | ⟨z | z | z, _⟩)
      · exact z
      all_goals (rw [e] at z; exact absurd z (by decide))
  · rw [if_neg (by rw [e]; decide), if_neg (by rw [e]; decide), if_neg (by rw [e]; decide), if_pos e, b_or, Bool.or_eq_true, hX]
    obtain ⟨hn, hnD, hbp⟩ := h5 e
    have hq := (hpl _ hnD).1
    have hS : bt ((L (9 * (rn (8 * p + k)).toNatClampNeg) &&& (((1 : Int32) <<< (pc (rn (8 * p + k)).toNatClampNeg &&& 31)) - 1)) <<< (rb (8 * p + k) &&& 31)) j = true ↔ ((rb (8 * p + k)).toNatClampNeg ≤ j ∧ j - (rb (8 * p + k)).toNatClampNeg < (pc (rn (8 * p + k)).toNatClampNeg).toNatClampNeg ∧ bt (L (9 * (rn (8 * p + k)).toNatClampNeg)) (j - (rb (8 * p + k)).toNatClampNeg) = true) := by
      have hM : ∀ j, bt (((1 : Int32) <<< (pc (rn (8 * p + k)).toNatClampNeg &&& 31)) - 1) j = decide (j < (pc (rn (8 * p + k)).toNatClampNeg).toNatClampNeg) := by
        intro j
        conv => lhs; rw [hq.1]
        exact fx_mask (by have := hq.2; omega) j
      have hb2 := hb.2
      rcases Nat.lt_or_ge j 32 with hj | hj
      · conv => lhs; rw [hb.1]
        rw [b_shl _ (by omega) _ hj, b_and, hM, Bool.and_eq_true, Bool.and_eq_true, decide_eq_true_eq, decide_eq_true_eq]
        exact ⟨fun z => ⟨z.1, z.2.2, z.2.1⟩, fun z => ⟨z.1, z.2.2, z.2.1⟩⟩
      · rw [b_big hj]
        exact ⟨fun z => absurd z (by decide), fun z => by have := hq.2; have := z.2.1; omega⟩
    rw [hS]
    constructor
    · intro z; exact .inr (.inr (.inl ⟨e, z⟩))
    · rintro (⟨z | z, _⟩ | ⟨z, _⟩ | ⟨_, z⟩ | ⟨z, _⟩ | ⟨z | z | z, _⟩)
      rotate_left 3
      · exact z
      all_goals (rw [e] at z; exact absurd z (by decide))
  · rw [if_neg (by rw [e]; decide), if_pos e, b_or, Bool.or_eq_true, fx_af_bit, hA, decide_eq_true_eq]
    constructor
    · intro z; exact .inl ⟨.inr e, z⟩
    · rintro (⟨_, z⟩ | ⟨z, _⟩ | ⟨z, _⟩ | ⟨z, _⟩ | ⟨z | z | z, _⟩)
      · exact z
      all_goals (rw [e] at z; exact absurd z (by decide))
  · rw [if_neg (by rw [e]; decide), if_neg (by rw [e]; decide), if_pos e]
    constructor
    · intro z
      by_cases hw : W p = true
      · rw [if_pos hw, hA, decide_eq_true_eq] at z
        exact .inr (.inl ⟨e, hw, z⟩)
      · rw [if_neg hw, b_0] at z
        exact absurd z (by decide)
    · rintro (⟨z | z, _⟩ | ⟨_, z, y⟩ | ⟨z, _⟩ | ⟨z, _⟩ | ⟨z | z | z, _⟩)
      rotate_left 2
      · rw [if_pos z, hA, decide_eq_true_eq]; exact y
      all_goals (rw [e] at z; exact absurd z (by decide))
end
section
theorem zz_end : True := trivial
end
