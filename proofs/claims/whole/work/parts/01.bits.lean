/-! rows of kit/rows, pasted: pk_us .. pk_cl; bt .. b_sshr -/
theorem pk_us {f : Nat → Int32} {k : Nat} {x : Int32} : upd f k x k = x := if_pos rfl
theorem pk_un {f : Nat → Int32} {k j : Nat} {x : Int32} (h : j ≠ k) : upd f k x j = f j := if_neg h
theorem pk_sub {a b : Nat} (h : b ≤ a) : nI a - nI b = nI (a - b) := by
  obtain ⟨c, rfl⟩ : ∃ c, a = c + b := ⟨a - b, by omega⟩
  rw [← nI_add, Int32.add_sub_cancel, Nat.add_sub_cancel]
theorem pk_m1 (n : Nat) : nI (n + 1) + (-1) = nI n := by
  rw [← nI_1, Int32.add_assoc, show (1 : Int32) + (-1) = 0 from rfl, Int32.add_zero]
theorem pk_mul (a b : Nat) : nI a * nI b = nI (a * b) := (Int32.ofNat_mul a b).symm
theorem pk_ix (x : Int32) {n : Nat} (hn : n < 2 ^ 31) : x < 0 ∨ nI n ≤ x ∨ ∃ j : Nat, j < n ∧ x = nI j := by
  by_cases h : x < 0
  · exact Or.inl h
  · obtain ⟨j, hj, rfl⟩ := nI_of h
    by_cases h2 : j < n
    · exact Or.inr (Or.inr ⟨j, h2, rfl⟩)
    · exact Or.inr (Or.inl (nI_le (by omega) hj))
theorem pk_le {x y : Int32} {A B : Prop} (a b : Nat) (f : a ≤ b → A) (g : b < a → B) (hx : x = nI a := by rfl) (hy : y = nI b := by rfl) (ha : a < 2 ^ 31 := by omega) (hb : b < 2 ^ 31 := by omega) : (x ≤ y → A) ∧ (¬ x ≤ y → B) := by
  subst hx hy
  rw [nI_leI ha hb]
  exact ⟨f, fun z => g (by omega)⟩
theorem pk_lt {x y : Int32} {A B : Prop} (a b : Nat) (f : a < b → A) (g : b ≤ a → B) (hx : x = nI a := by rfl) (hy : y = nI b := by rfl) (ha : a < 2 ^ 31 := by omega) (hb : b < 2 ^ 31 := by omega) : (x < y → A) ∧ (¬ x < y → B) := by
  subst hx hy
  rw [nI_ltI ha hb]
  exact ⟨f, fun z => g (by omega)⟩
theorem pk_eq {x y : Int32} {A B : Prop} (a b : Nat) (f : a = b → A) (g : a ≠ b → B) (hx : x = nI a := by rfl) (hy : y = nI b := by rfl) (ha : a < 2 ^ 31 := by omega) (hb : b < 2 ^ 31 := by omega) : (x = y → A) ∧ (¬ x = y → B) := by
  subst hx hy
  rw [nI_eq ha hb]
  exact ⟨f, g⟩
theorem pk_in {x : Int32} (n N : Nat) (h : n < N) (hx : x = nI n := by rfl) (hN : N < 2 ^ 31 := by omega) : vp_in x N := by
  subst hx
  exact vp_in_nI h hN
theorem pk_cl {x : Int32} (n : Nat) (hx : x = nI n := by rfl) (h : n < 2 ^ 31 := by omega) : x.toNatClampNeg = n := by
  subst hx
  exact nI_clamp h
def bt (x : Int32) (i : Nat) : Bool := x.toBitVec.getLsbD i
theorem b_ext {x y : Int32} (h : ∀ i, i < 32 → bt x i = bt y i) : x = y := Int32.toBitVec_inj.mp (BitVec.eq_of_getLsbD_eq (fun i hi => h i hi))
theorem b_or (x y : Int32) (i : Nat) : bt (x ||| y) i = (bt x i || bt y i) := by unfold bt; rw [Int32.toBitVec_or, BitVec.getLsbD_or]
theorem b_and (x y : Int32) (i : Nat) : bt (x &&& y) i = (bt x i && bt y i) := by unfold bt; rw [Int32.toBitVec_and, BitVec.getLsbD_and]
theorem b_xor (x y : Int32) (i : Nat) : bt (x ^^^ y) i = (bt x i ^^ bt y i) := by unfold bt; rw [Int32.toBitVec_xor, BitVec.getLsbD_xor]
theorem b_big {x : Int32} {i : Nat} (h : 32 ≤ i) : bt x i = false := BitVec.getLsbD_of_ge _ _ h
theorem b_m1 : ∀ i, i < 32 → bt (-1) i = true := by decide +kernel
theorem b_0 (i : Nat) : bt 0 i = false := BitVec.getLsbD_zero
theorem s_l : ∀ n, n < 32 → ((nI n &&& 31).toBitVec.smod 32).toNat = n := by decide +kernel
theorem s_u : ∀ n, n < 32 → (((nI n).toUInt32 &&& Int32.toUInt32 31).toBitVec % 32).toNat = n := by decide +kernel
theorem b_shl (n : Nat) (hn : n < 32) (x : Int32) {i : Nat} (hi : i < 32) : bt (x <<< (nI n &&& 31)) i = (decide (n ≤ i) && bt x (i - n)) := by
  unfold bt
  rw [Int32.toBitVec_shiftLeft]
  show (x.toBitVec <<< ((nI n &&& 31).toBitVec.smod 32).toNat).getLsbD i = _
  rw [s_l n hn, BitVec.getLsbD_shiftLeft]
  rcases Nat.lt_or_ge i n with h | h
  · simp [h, Nat.not_le.mpr h]
  · simp [hi, h, Nat.not_lt.mpr h]
theorem b_ushr (n : Nat) (hn : n < 32) (x : Int32) (i : Nat) : bt ((x.toUInt32 >>> ((nI n).toUInt32 &&& Int32.toUInt32 31)).toInt32) i = bt x (n + i) := by
  show (x.toUInt32 >>> ((nI n).toUInt32 &&& Int32.toUInt32 31)).toBitVec.getLsbD i = x.toUInt32.toBitVec.getLsbD (n + i)
  rw [UInt32.toBitVec_shiftRight]
  show (x.toUInt32.toBitVec >>> (((nI n).toUInt32 &&& Int32.toUInt32 31).toBitVec % 32).toNat).getLsbD i = _
  rw [s_u n hn, BitVec.getLsbD_ushiftRight]
theorem b_sshr (n : Nat) (hn : n < 32) (x : Int32) {i : Nat} (hi : i < 32) : bt (x >>> (nI n &&& 31)) i = if n + i < 32 then bt x (n + i) else bt x 31 := by
  unfold bt
  rw [Int32.toBitVec_shiftRight]
  show (x.toBitVec.sshiftRight ((nI n &&& 31).toBitVec.smod 32).toNat).getLsbD i = _
  rw [s_l n hn, BitVec.getLsbD_sshiftRight, BitVec.msb_eq_getLsbD_last]
  simp [hi]
/-! ===== own rows on bits ===== -/
def dp_bo (n : Nat) : Int32 := (1 : Int32) <<< (nI n &&& 31)
theorem dp_bo_lo : ∀ n, n < 32 → ∀ i, i < 32 → bt (dp_bo n) i = decide (i = n) := by decide +kernel
theorem dp_bo_bt {n : Nat} (hn : n < 32) (i : Nat) : bt (dp_bo n) i = decide (i = n) := by
  rcases Nat.lt_or_ge i 32 with h | h
  · exact dp_bo_lo n hn i h
  · rw [b_big h, decide_eq_false (by omega)]
theorem dp_bt1 : ∀ i, i < 32 → bt 1 i = decide (i = 0) := by decide +kernel
def dp_c (b : Bool) : Int32 := if b = true then 1 else 0
theorem dp_c_t {b : Bool} (h : b = true) : dp_c b = 1 := if_pos h
theorem dp_c_f {b : Bool} (h : b = false) : dp_c b = 0 := by rw [h]; rfl
theorem dp_c_1 {b : Bool} : dp_c b = 1 ↔ b = true := by cases b <;> decide
theorem dp_c_0 {b : Bool} : dp_c b = 0 ↔ b = false := by cases b <;> decide
theorem dp_c_hi (b : Bool) {i : Nat} (h : i + 1 < 32) : bt (dp_c b) (i + 1) = false := by
  cases b
  · exact b_0 _
  · show bt 1 (i + 1) = false
    rw [dp_bt1 _ h]; exact decide_eq_false (by omega)
theorem dp_c_lo (b : Bool) : bt (dp_c b) 0 = b := by cases b <;> decide
theorem dp_xb (x : Int32) {n : Nat} (hn : n < 32) : ((x.toUInt32 >>> ((nI n).toUInt32 &&& Int32.toUInt32 31)).toInt32 &&& 1) = dp_c (bt x n) := by
  apply b_ext
  intro i hi
  rw [b_and, b_ushr n hn, dp_bt1 i hi]
  cases i with
  | zero => rw [dp_c_lo, Nat.add_zero, decide_eq_true rfl, Bool.and_true]
  | succ i => rw [dp_c_hi _ hi, decide_eq_false (by omega), Bool.and_false]
theorem dp_yb (x : Int32) {n : Nat} (hn : n < 32) : ((x >>> (nI n &&& 31)) &&& 1) = dp_c (bt x n) := by
  apply b_ext
  intro i hi
  rw [b_and, b_sshr n hn x hi, dp_bt1 i hi]
  cases i with
  | zero => rw [dp_c_lo, Nat.add_zero, if_pos hn, decide_eq_true rfl, Bool.and_true]
  | succ i => rw [dp_c_hi _ hi, decide_eq_false (by omega), Bool.and_false]
theorem dp_bt_or (x : Int32) {n : Nat} (hn : n < 32) (i : Nat) : bt (x ||| dp_bo n) i = (bt x i || decide (i = n)) := by rw [b_or, dp_bo_bt hn]
theorem dp_bt_not (x : Int32) {i : Nat} (hi : i < 32) : bt (x ^^^ (-1)) i = !bt x i := by rw [b_xor, b_m1 i hi, Bool.xor_true]
theorem dp_bt_clr (x : Int32) {n : Nat} (hn : n < 32) {i : Nat} (hi : i < 32) : bt (x &&& (dp_bo n ^^^ (-1))) i = (bt x i && !decide (i = n)) := by rw [b_and, dp_bt_not _ hi, dp_bo_bt hn]
theorem dp_bt_lt {x : Int32} {i : Nat} (h : bt x i = true) : i < 32 := by
  rcases Nat.lt_or_ge i 32 with z | z
  · exact z
  · rw [b_big z] at h; cases h
theorem dp_zero {x : Int32} (h : ∀ i, i < 32 → bt x i = false) : x = 0 := b_ext fun i hi => by rw [h i hi, b_0]
theorem dp_nz {x : Int32} : x ≠ 0 ↔ ∃ i, i < 32 ∧ bt x i = true := by
  constructor
  · intro h
    apply Classical.byContradiction
    intro z
    exact h (dp_zero fun i hi => by
      cases hb : bt x i
      · rfl
      · exact absurd ⟨i, hi, hb⟩ z)
  · rintro ⟨i, _, h⟩ rfl
    rw [b_0] at h; cases h
theorem dp_nle1 {n : Nat} (h : n < 2 ^ 31) : nI n ≠ -1 := by
  intro z
  have := nI_pos (n := n) h
  rw [z] at this
  exact this (by decide)
theorem dp_nge (n : Nat) (h : n < 2 ^ 31) : ¬ nI n < 0 := nI_pos h
theorem dp_inj {a b : Nat} (ha : a < 2 ^ 31) (hb : b < 2 ^ 31) (h : nI a = nI b) : a = b := (nI_eq ha hb).mp h
theorem dp_or_self (x : Int32) : x ||| x = x := b_ext fun i _ => by rw [b_or, Bool.or_self]
theorem dp_0_or (x : Int32) : (0 : Int32) ||| x = x := b_ext fun i _ => by rw [b_or, b_0, Bool.false_or]
