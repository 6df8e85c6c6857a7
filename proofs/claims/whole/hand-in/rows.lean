section
/-! rows of kit/rows, pasted: pk_us .. pk_cl; bt .. b_sshr -/
theorem pk_us {f : Nat → Int32} {k : Nat} {x : Int32} : upd f k x k = x := if_pos rfl
theorem pk_un {f : Nat → Int32} {k j : Nat} {x : Int32} (h : j ≠ k) : upd f k x j = f j := if_neg h
theorem pk_sub {a b : Nat} (h : b ≤ a) : nI a - nI b = nI (a - b) := by
  obtain ⟨c, rfl⟩ : ∃ c, a = c + b := ⟨a - b, by omega⟩
  rw [← nI_add, Int32.add_sub_cancel, Nat.add_sub_cancel]
theorem pk_m1 (n : Nat) : nI (n + 1) + (-1) = nI n := by
  rw [← nI_1, Int32.add_assoc, show (1 : Int32) + (-1) = 0 from rfl, Int32.add_zero]
theorem pk_mul (a b : Nat) : nI a * nI b = nI (a * b) := (Int32.ofNat_mul a b).symm
theorem pk_ix (x : Int32) {n : Nat} (hn : n < 2 ^ 31) : x < 0 ∨ nI n ≤ x ∨ ∃ j : Nat, j < n ∧ x = nI j := by
  by_cases h : x < 0
  · exact Or.inl h
  · obtain ⟨j, hj, rfl⟩ := nI_of h
    by_cases h2 : j < n
    · exact Or.inr (Or.inr ⟨j, h2, rfl⟩)
    · exact Or.inr (Or.inl (nI_le (by omega) hj))
theorem pk_le {x y : Int32} {A B : Prop} (a b : Nat) (f : a ≤ b → A) (g : b < a → B) (hx : x = nI a := by rfl) (hy : y = nI b := by rfl) (ha : a < 2 ^ 31 := by omega) (hb : b < 2 ^ 31 := by omega) : (x ≤ y → A) ∧ (¬ x ≤ y → B) := by
  subst hx hy
  rw [nI_leI ha hb]
  exact ⟨f, fun z => g (by omega)⟩
theorem pk_lt {x y : Int32} {A B : Prop} (a b : Nat) (f : a < b → A) (g : b ≤ a → B) (hx : x = nI a := by rfl) (hy : y = nI b := by rfl) (ha : a < 2 ^ 31 := by omega) (hb : b < 2 ^ 31 := by omega) : (x < y → A) ∧ (¬ x < y → B) := by
  subst hx hy
  rw [nI_ltI ha hb]
  exact ⟨f, fun z => g (by omega)⟩
theorem pk_eq {x y : Int32} {A B : Prop} (a b : Nat) (f : a = b → A) (g : a ≠ b → B) (hx : x = nI a := by rfl) (hy : y = nI b := by rfl) (ha : a < 2 ^ 31 := by omega) (hb : b < 2 ^ 31 := by omega) : (x = y → A) ∧ (¬ x = y → B) := by
  subst hx hy
  rw [nI_eq ha hb]
  exact ⟨f, g⟩
theorem pk_in {x : Int32} (n N : Nat) (h : n < N) (hx : x = nI n := by rfl) (hN : N < 2 ^ 31 := by omega) : vp_in x N := by
  subst hx
  exact vp_in_nI h hN
theorem pk_cl {x : Int32} (n : Nat) (hx : x = nI n := by rfl) (h : n < 2 ^ 31 := by omega) : x.toNatClampNeg = n := by
  subst hx
  exact nI_clamp h
def bt (x : Int32) (i : Nat) : Bool := x.toBitVec.getLsbD i
theorem b_ext {x y : Int32} (h : ∀ i, i < 32 → bt x i = bt y i) : x = y := Int32.toBitVec_inj.mp (BitVec.eq_of_getLsbD_eq (fun i hi => h i hi))
theorem b_or (x y : Int32) (i : Nat) : bt (x ||| y) i = (bt x i || bt y i) := by unfold bt; rw [Int32.toBitVec_or, BitVec.getLsbD_or]
theorem b_and (x y : Int32) (i : Nat) : bt (x &&& y) i = (bt x i && bt y i) := by unfold bt; rw [Int32.toBitVec_and, BitVec.getLsbD_and]
theorem b_xor (x y : Int32) (i : Nat) : bt (x ^^^ y) i = (bt x i ^^ bt y i) := by unfold bt; rw [Int32.toBitVec_xor, BitVec.getLsbD_xor]
theorem b_big {x : Int32} {i : Nat} (h : 32 ≤ i) : bt x i = false := BitVec.getLsbD_of_ge _ _ h
theorem b_m1 : ∀ i, i < 32 → bt (-1) i = true := by decide +kernel
theorem b_0 (i : Nat) : bt 0 i = false := BitVec.getLsbD_zero
theorem s_l : ∀ n, n < 32 → ((nI n &&& 31).toBitVec.smod 32).toNat = n := by decide +kernel
theorem s_u : ∀ n, n < 32 → (((nI n).toUInt32 &&& Int32.toUInt32 31).toBitVec % 32).toNat = n := by decide +kernel
theorem b_shl (n : Nat) (hn : n < 32) (x : Int32) {i : Nat} (hi : i < 32) : bt (x <<< (nI n &&& 31)) i = (decide (n ≤ i) && bt x (i - n)) := by
  unfold bt
  rw [Int32.toBitVec_shiftLeft]
  show (x.toBitVec <<< ((nI n &&& 31).toBitVec.smod 32).toNat).getLsbD i = _
  rw [s_l n hn, BitVec.getLsbD_shiftLeft]
  rcases Nat.lt_or_ge i n with h | h
  · simp [h, Nat.not_le.mpr h]
  · simp [hi, h, Nat.not_lt.mpr h]
theorem b_ushr (n : Nat) (hn : n < 32) (x : Int32) (i : Nat) : bt ((x.toUInt32 >>> ((nI n).toUInt32 &&& Int32.toUInt32 31)).toInt32) i = bt x (n + i) := by
  show (x.toUInt32 >>> ((nI n).toUInt32 &&& Int32.toUInt32 31)).toBitVec.getLsbD i = x.toUInt32.toBitVec.getLsbD (n + i)
  rw [UInt32.toBitVec_shiftRight]
  show (x.toUInt32.toBitVec >>> (((nI n).toUInt32 &&& Int32.toUInt32 31).toBitVec % 32).toNat).getLsbD i = _
  rw [s_u n hn, BitVec.getLsbD_ushiftRight]
theorem b_sshr (n : Nat) (hn : n < 32) (x : Int32) {i : Nat} (hi : i < 32) : bt (x >>> (nI n &&& 31)) i = if n + i < 32 then bt x (n + i) else bt x 31 := by
  unfold bt
  rw [Int32.toBitVec_shiftRight]
  show (x.toBitVec.sshiftRight ((nI n &&& 31).toBitVec.smod 32).toNat).getLsbD i = _
  rw [s_l n hn, BitVec.getLsbD_sshiftRight, BitVec.msb_eq_getLsbD_last]
  simp [hi]
/-! ===== own rows on bits ===== -/
def dp_bo (n : Nat) : Int32 := (1 : Int32) <<< (nI n &&& 31)
theorem dp_bo_lo : ∀ n, n < 32 → ∀ i, i < 32 → bt (dp_bo n) i = decide (i = n) := by decide +kernel
theorem dp_bo_bt {n : Nat} (hn : n < 32) (i : Nat) : bt (dp_bo n) i = decide (i = n) := by
  rcases Nat.lt_or_ge i 32 with h | h
  · exact dp_bo_lo n hn i h
  · rw [b_big h, decide_eq_false (by omega)]
theorem dp_bt1 : ∀ i, i < 32 → bt 1 i = decide (i = 0) := by decide +kernel
def dp_c (b : Bool) : Int32 := if b = true then 1 else 0
theorem dp_c_t {b : Bool} (h : b = true) : dp_c b = 1 := if_pos h
theorem dp_c_f {b : Bool} (h : b = false) : dp_c b = 0 := by rw [h]; rfl
theorem dp_c_1 {b : Bool} : dp_c b = 1 ↔ b = true := by cases b <;> decide
theorem dp_c_0 {b : Bool} : dp_c b = 0 ↔ b = false := by cases b <;> decide
theorem dp_c_hi (b : Bool) {i : Nat} (h : i + 1 < 32) : bt (dp_c b) (i + 1) = false := by
  cases b
  · exact b_0 _
  · show bt 1 (i + 1) = false
    rw [dp_bt1 _ h]; exact decide_eq_false (by omega)
theorem dp_c_lo (b : Bool) : bt (dp_c b) 0 = b := by cases b <;> decide
theorem dp_xb (x : Int32) {n : Nat} (hn : n < 32) : ((x.toUInt32 >>> ((nI n).toUInt32 &&& Int32.toUInt32 31)).toInt32 &&& 1) = dp_c (bt x n) := by
  apply b_ext
  intro i hi
  rw [b_and, b_ushr n hn, dp_bt1 i hi]
  cases i with
  | zero => rw [dp_c_lo, Nat.add_zero, decide_eq_true rfl, Bool.and_true]
  | succ i => rw [dp_c_hi _ hi, decide_eq_false (by omega), Bool.and_false]
theorem dp_yb (x : Int32) {n : Nat} (hn : n < 32) : ((x >>> (nI n &&& 31)) &&& 1) = dp_c (bt x n) := by
  apply b_ext
  intro i hi
  rw [b_and, b_sshr n hn x hi, dp_bt1 i hi]
  cases i with
  | zero => rw [dp_c_lo, Nat.add_zero, if_pos hn, decide_eq_true rfl, Bool.and_true]
  | succ i => rw [dp_c_hi _ hi, decide_eq_false (by omega), Bool.and_false]
theorem dp_bt_or (x : Int32) {n : Nat} (hn : n < 32) (i : Nat) : bt (x ||| dp_bo n) i = (bt x i || decide (i = n)) := by rw [b_or, dp_bo_bt hn]
theorem dp_bt_not (x : Int32) {i : Nat} (hi : i < 32) : bt (x ^^^ (-1)) i = !bt x i := by rw [b_xor, b_m1 i hi, Bool.xor_true]
theorem dp_bt_clr (x : Int32) {n : Nat} (hn : n < 32) {i : Nat} (hi : i < 32) : bt (x &&& (dp_bo n ^^^ (-1))) i = (bt x i && !decide (i = n)) := by rw [b_and, dp_bt_not _ hi, dp_bo_bt hn]
theorem dp_bt_lt {x : Int32} {i : Nat} (h : bt x i = true) : i < 32 := by
  rcases Nat.lt_or_ge i 32 with z | z
  · exact z
  · rw [b_big z] at h; cases h
theorem dp_zero {x : Int32} (h : ∀ i, i < 32 → bt x i = false) : x = 0 := b_ext fun i hi => by rw [h i hi, b_0]
theorem dp_nz {x : Int32} : x ≠ 0 ↔ ∃ i, i < 32 ∧ bt x i = true := by
  constructor
  · intro h
    apply Classical.byContradiction
    intro z
    exact h (dp_zero fun i hi => by
      cases hb : bt x i
      · rfl
      · exact absurd ⟨i, hi, hb⟩ z)
  · rintro ⟨i, _, h⟩ rfl
    rw [b_0] at h; cases h
theorem dp_nle1 {n : Nat} (h : n < 2 ^ 31) : nI n ≠ -1 := by
  intro z
  have := nI_pos (n := n) h
  rw [z] at this
  exact this (by decide)
theorem dp_nge (n : Nat) (h : n < 2 ^ 31) : ¬ nI n < 0 := nI_pos h
theorem dp_inj {a b : Nat} (ha : a < 2 ^ 31) (hb : b < 2 ^ 31) (h : nI a = nI b) : a = b := (nI_eq ha hb).mp h
theorem dp_or_self (x : Int32) : x ||| x = x := b_ext fun i _ => by rw [b_or, Bool.or_self]
theorem dp_0_or (x : Int32) : (0 : Int32) ||| x = x := b_ext fun i _ => by rw [b_or, b_0, Bool.false_or]
end
section
/-! counting, picking, folds into a set -/
def dp_fc (P : Nat → Bool) : Nat → Nat
  | 0 => 0
  | k + 1 => dp_fc P k + (if P k = true then 1 else 0)
theorem dp_fc_t {P : Nat → Bool} {k : Nat} (h : P k = true) : dp_fc P (k + 1) = dp_fc P k + 1 := by
  show dp_fc P k + (if P k = true then 1 else 0) = _
  rw [if_pos h]
theorem dp_fc_f {P : Nat → Bool} {k : Nat} (h : P k = false) : dp_fc P (k + 1) = dp_fc P k := by
  show dp_fc P k + (if P k = true then 1 else 0) = _
  rw [h]; rfl
theorem dp_fc_le (P : Nat → Bool) : ∀ k, dp_fc P k ≤ k
  | 0 => Nat.le_refl _
  | k + 1 => by
    have := dp_fc_le P k
    cases h : P k
    · rw [dp_fc_f h]; omega
    · rw [dp_fc_t h]; omega
theorem dp_fc_congr {P Q : Nat → Bool} : ∀ {k : Nat}, (∀ i, i < k → P i = Q i) → dp_fc P k = dp_fc Q k
  | 0, _ => rfl
  | k + 1, h => by
    have e := dp_fc_congr (P := P) (Q := Q) (k := k) (fun i hi => h i (by omega))
    show dp_fc P k + (if P k = true then 1 else 0) = dp_fc Q k + (if Q k = true then 1 else 0)
    rw [e, h k (by omega)]
theorem dp_fc_const {P : Nat → Bool} {a : Nat} : ∀ {b : Nat}, a ≤ b → (∀ i, a ≤ i → i < b → P i = false) → dp_fc P b = dp_fc P a
  | 0, h, _ => by rw [show a = 0 from by omega]
  | b + 1, h, hp => by
    rcases Nat.lt_or_ge b a with z | z
    · rw [show a = b + 1 from by omega]
    · rw [dp_fc_f (hp b z (by omega))]
      exact dp_fc_const z (fun i h1 h2 => hp i h1 (by omega))
theorem dp_fc_none {P : Nat → Bool} {k : Nat} (h : ∀ i, i < k → P i = false) : dp_fc P k = 0 := dp_fc_const (a := 0) (Nat.zero_le _) (fun i _ hi => h i hi)
theorem dp_fc_full {P : Nat → Bool} : ∀ {k : Nat}, (∀ i, i < k → P i = true) → dp_fc P k = k
  | 0, _ => rfl
  | k + 1, h => by rw [dp_fc_t (h k (by omega)), dp_fc_full (fun i hi => h i (by omega))]
theorem dp_fc_ex {P : Nat → Bool} {k : Nat} (h : dp_fc P k < k) : ∃ i, i < k ∧ P i = false := by
  apply Classical.byContradiction
  intro z
  have : dp_fc P k = k := dp_fc_full fun i hi => by
    cases hb : P i
    · exact absurd ⟨i, hi, hb⟩ z
    · rfl
  omega
theorem dp_fc_set {P : Nat → Bool} {n : Nat} (hp : P n = false) : ∀ {k : Nat}, n < k → dp_fc (fun i => P i || decide (i = n)) k = dp_fc P k + 1
  | 0, h => by omega
  | k + 1, h => by
    rcases Nat.lt_or_ge n k with z | z
    · have e := dp_fc_set hp z
      have e2 : (P k || decide (k = n)) = P k := by rw [decide_eq_false (by omega), Bool.or_false]
      cases hk : P k
      · rw [dp_fc_f (P := fun i => P i || decide (i = n)) (e2.trans hk), dp_fc_f hk, e]
      · rw [dp_fc_t (P := fun i => P i || decide (i = n)) (e2.trans hk), dp_fc_t hk, e]
    · obtain rfl : k = n := by omega
      rw [dp_fc_t (P := fun i => P i || decide (i = k)) (by rw [decide_eq_true rfl, Bool.or_true]), dp_fc_f hp]
      rw [dp_fc_congr (P := fun i => P i || decide (i = k)) (Q := P) (fun i hi => by rw [decide_eq_false (by omega), Bool.or_false])]
theorem dp_fc_clr {P : Nat → Bool} {n : Nat} (hp : P n = true) : ∀ {k : Nat}, n < k → dp_fc (fun i => P i && !decide (i = n)) k + 1 = dp_fc P k
  | 0, h => by omega
  | k + 1, h => by
    rcases Nat.lt_or_ge n k with z | z
    · have e := dp_fc_clr hp z
      have e2 : (P k && !decide (k = n)) = P k := by rw [decide_eq_false (by omega), Bool.not_false, Bool.and_true]
      cases hk : P k
      · rw [dp_fc_f (P := fun i => P i && !decide (i = n)) (e2.trans hk), dp_fc_f hk, e]
      · rw [dp_fc_t (P := fun i => P i && !decide (i = n)) (e2.trans hk), dp_fc_t hk, e]
    · obtain rfl : k = n := by omega
      rw [dp_fc_f (P := fun i => P i && !decide (i = k)) (by rw [decide_eq_true rfl, Bool.not_true, Bool.and_false]), dp_fc_t hp]
      rw [dp_fc_congr (P := fun i => P i && !decide (i = k)) (Q := P) (fun i hi => by rw [decide_eq_false (by omega), Bool.not_false, Bool.and_true])]
/-- the first place below r whose number among the true ones is k -/
def dp_fk (P : Nat → Bool) (k : Int32) : Nat → Option Nat
  | 0 => none
  | r + 1 => match dp_fk P k r with
    | some i => some i
    | none => if P r = true ∧ nI (dp_fc P r) = k then some r else none
theorem dp_fk_s {P : Nat → Bool} {k : Int32} {r i : Nat} (h : dp_fk P k r = some i) : dp_fk P k (r + 1) = some i := by simp only [dp_fk, h]
theorem dp_fk_hit {P : Nat → Bool} {k : Int32} {r : Nat} (h : dp_fk P k r = none) (hp : P r = true) (hk : nI (dp_fc P r) = k) : dp_fk P k (r + 1) = some r := by simp only [dp_fk, h]; rw [if_pos ⟨hp, hk⟩]
theorem dp_fk_miss {P : Nat → Bool} {k : Int32} {r : Nat} (h : dp_fk P k r = none) (hp : ¬ (P r = true ∧ nI (dp_fc P r) = k)) : dp_fk P k (r + 1) = none := by simp only [dp_fk, h]; rw [if_neg hp]
theorem dp_fk_up {P : Nat → Bool} {k : Int32} {i a : Nat} (h : dp_fk P k a = some i) : ∀ {b : Nat}, a ≤ b → dp_fk P k b = some i
  | 0, hb => by rw [show a = 0 from by omega] at h; exact h
  | b + 1, hb => by
    rcases Nat.lt_or_ge b a with z | z
    · rw [show b + 1 = a from by omega]; exact h
    · exact dp_fk_s (dp_fk_up h z)
theorem dp_fk_const {P : Nat → Bool} {k : Int32} {a : Nat} : ∀ {b : Nat}, a ≤ b → (∀ i, a ≤ i → i < b → P i = false) → dp_fk P k b = dp_fk P k a
  | 0, hb, _ => by rw [show a = 0 from by omega]
  | b + 1, hb, hp => by
    rcases Nat.lt_or_ge b a with z | z
    · rw [show b + 1 = a from by omega]
    · have e := dp_fk_const (k := k) z (fun i h1 h2 => hp i h1 (by omega))
      have hf := hp b z (by omega)
      rw [← e]
      cases h : dp_fk P k b with
      | none => exact dp_fk_miss h (fun q => by rw [hf] at q; exact absurd q.1 (by decide))
      | some i => exact dp_fk_s h
theorem dp_fk_none {P : Nat → Bool} {k : Int32} {b : Nat} (h : ∀ i, i < b → P i = false) : dp_fk P k b = none := dp_fk_const (a := 0) (Nat.zero_le _) (fun i _ hi => h i hi)
theorem dp_fk_some {P : Nat → Bool} {k : Int32} {i : Nat} : ∀ {b : Nat}, dp_fk P k b = some i → i < b ∧ P i = true ∧ nI (dp_fc P i) = k
  | 0, h => by cases h
  | b + 1, h => by
    cases e : dp_fk P k b with
    | some j =>
      rw [dp_fk_s e] at h
      obtain rfl : j = i := by injection h
      obtain ⟨h1, h2⟩ := dp_fk_some e
      exact ⟨by omega, h2⟩
    | none =>
      by_cases q : P b = true ∧ nI (dp_fc P b) = k
      · rw [dp_fk_hit e q.1 q.2] at h
        obtain rfl : b = i := by injection h
        exact ⟨by omega, q⟩
      · rw [dp_fk_miss e q] at h; cases h
theorem dp_fk_neg {P : Nat → Bool} {k : Int32} (hk : k < 0) : ∀ {b : Nat}, b < 2 ^ 31 → dp_fk P k b = none
  | 0, _ => rfl
  | b + 1, hb => by
    refine dp_fk_miss (dp_fk_neg hk (by omega)) (fun q => ?_)
    rw [← q.2] at hk
    exact nI_pos (Nat.lt_of_le_of_lt (dp_fc_le P b) (by omega)) hk
/-- if fewer than j + 1 are true, none is picked; if more, one is -/
theorem dp_fk_lt {P : Nat → Bool} {j : Nat} : ∀ {b : Nat}, b < 2 ^ 31 → j < dp_fc P b → ∃ i, dp_fk P (nI j) b = some i
  | 0, _, h => by exact absurd h (Nat.not_lt_zero _)
  | b + 1, hb, h => by
    cases e : dp_fk P (nI j) b with
    | some i => exact ⟨i, dp_fk_s e⟩
    | none =>
      cases hp : P b
      · rw [dp_fc_f hp] at h
        obtain ⟨i, hi⟩ := dp_fk_lt (by omega) h
        rw [e] at hi; cases hi
      · rw [dp_fc_t hp] at h
        rcases Nat.lt_or_ge j (dp_fc P b) with z | z
        · obtain ⟨i, hi⟩ := dp_fk_lt (by omega) z
          rw [e] at hi; cases hi
        · exact ⟨b, dp_fk_hit e hp (by rw [show dp_fc P b = j from by omega])⟩
theorem dp_fk_congr {P Q : Nat → Bool} {k : Int32} : ∀ {b : Nat}, (∀ i, i < b → P i = Q i) → dp_fk P k b = dp_fk Q k b
  | 0, _ => rfl
  | b + 1, h => by
    have e := dp_fk_congr (k := k) (b := b) (fun i hi => h i (by omega))
    have e2 := dp_fc_congr (k := b) (fun i hi => h i (by omega))
    simp only [dp_fk]
    rw [e, e2, h b (by omega)]
/-- what is picked, as an answer -/
def dp_an (o : Nat → Nat) (d : Int32) : Option Nat → Int32
  | some i => nI (o i)
  | none => d
/-- a set, filled by numbers -/
def dp_mk (P : Nat → Bool) : Nat → Int32
  | 0 => 0
  | k + 1 => if P k = true then dp_mk P k ||| dp_bo k else dp_mk P k
theorem dp_mk_t {P : Nat → Bool} {k : Nat} (h : P k = true) : dp_mk P (k + 1) = dp_mk P k ||| dp_bo k := if_pos h
theorem dp_mk_f {P : Nat → Bool} {k : Nat} (h : ¬ P k = true) : dp_mk P (k + 1) = dp_mk P k := if_neg h
theorem dp_mk_bt (P : Nat → Bool) : ∀ k, k ≤ 32 → ∀ i, bt (dp_mk P k) i = (decide (i < k) && P i)
  | 0, _, i => by show bt 0 i = _; rw [b_0]; simp
  | k + 1, hk, i => by
    have ih := dp_mk_bt P k (by omega) i
    by_cases h : P k = true
    · rw [dp_mk_t h, dp_bt_or _ (by omega), ih]
      by_cases e : i = k
      · subst e; rw [h]; simp
      · rw [decide_eq_false e, Bool.or_false]
        rcases Nat.lt_or_ge i k with z | z
        · rw [decide_eq_true z, decide_eq_true (show i < k + 1 by omega)]
        · rw [decide_eq_false (show ¬ i < k by omega), decide_eq_false (show ¬ i < k + 1 by omega)]
    · rw [dp_mk_f h, ih]
      by_cases e : i = k
      · subst e
        rw [Bool.eq_false_iff.mpr h, Bool.and_false, Bool.and_false]
      · rcases Nat.lt_or_ge i k with z | z
        · rw [decide_eq_true z, decide_eq_true (show i < k + 1 by omega)]
        · rw [decide_eq_false (show ¬ i < k by omega), decide_eq_false (show ¬ i < k + 1 by omega)]
theorem dp_mk_32 (P : Nat → Bool) {i : Nat} (hi : i < 32) : bt (dp_mk P 32) i = P i := by rw [dp_mk_bt P 32 (Nat.le_refl _), decide_eq_true hi, Bool.true_and]
theorem dp_mk_congr {P Q : Nat → Bool} : ∀ {k : Nat}, (∀ i, i < k → P i = Q i) → dp_mk P k = dp_mk Q k
  | 0, _ => rfl
  | k + 1, h => by
    have e := dp_mk_congr (P := P) (Q := Q) (k := k) (fun i hi => h i (by omega))
    show (if P k = true then dp_mk P k ||| dp_bo k else dp_mk P k) = (if Q k = true then dp_mk Q k ||| dp_bo k else dp_mk Q k)
    rw [e, h k (by omega)]
/-- a set, filled by ranks -/
def dp_fr (o : Nat → Nat) (P : Nat → Bool) : Nat → Int32
  | 0 => 0
  | r + 1 => if P r = true then dp_fr o P r ||| dp_bo (o r) else dp_fr o P r
theorem dp_fr_t {o : Nat → Nat} {P : Nat → Bool} {k : Nat} (h : P k = true) : dp_fr o P (k + 1) = dp_fr o P k ||| dp_bo (o k) := if_pos h
theorem dp_fr_f {o : Nat → Nat} {P : Nat → Bool} {k : Nat} (h : ¬ P k = true) : dp_fr o P (k + 1) = dp_fr o P k := if_neg h
theorem dp_fr_bt (o : Nat → Nat) (P : Nat → Bool) : ∀ c, (∀ r, r < c → o r < 32) → ∀ y, (bt (dp_fr o P c) y = true ↔ ∃ r, r < c ∧ o r = y ∧ P r = true)
  | 0, _, y => by
    show bt 0 y = true ↔ _
    rw [b_0]
    exact ⟨fun h => (by cases h), fun ⟨r, h, _⟩ => by omega⟩
  | c + 1, ho, y => by
    have ih := dp_fr_bt o P c (fun r hr => ho r (by omega)) y
    by_cases h : P c = true
    · rw [dp_fr_t h, dp_bt_or _ (ho c (by omega)), Bool.or_eq_true, ih, decide_eq_true_iff]
      constructor
      · rintro (⟨r, h1, h2⟩ | e)
        · exact ⟨r, by omega, h2⟩
        · exact ⟨c, by omega, e.symm, h⟩
      · rintro ⟨r, h1, h2, h3⟩
        rcases Nat.lt_or_ge r c with z | z
        · exact Or.inl ⟨r, z, h2, h3⟩
        · obtain rfl : r = c := by omega
          exact Or.inr h2.symm
    · rw [dp_fr_f h, ih]
      constructor
      · rintro ⟨r, h1, h2⟩
        exact ⟨r, by omega, h2⟩
      · rintro ⟨r, h1, h2, h3⟩
        rcases Nat.lt_or_ge r c with z | z
        · exact ⟨r, z, h2, h3⟩
        · obtain rfl : r = c := by omega
          exact absurd h3 h
theorem dp_fr_congr {o : Nat → Nat} {P Q : Nat → Bool} : ∀ {k : Nat}, (∀ i, i < k → P i = Q i) → dp_fr o P k = dp_fr o Q k
  | 0, _ => rfl
  | k + 1, h => by
    have e := dp_fr_congr (o := o) (P := P) (Q := Q) (k := k) (fun i hi => h i (by omega))
    show (if P k = true then dp_fr o P k ||| dp_bo (o k) else dp_fr o P k) = (if Q k = true then dp_fr o Q k ||| dp_bo (o k) else dp_fr o Q k)
    rw [e, h k (by omega)]
/-- is one below n true -/
def dp_any (P : Nat → Bool) : Nat → Bool
  | 0 => false
  | n + 1 => dp_any P n || P n
theorem dp_any_iff {P : Nat → Bool} : ∀ {n : Nat}, dp_any P n = true ↔ ∃ i, i < n ∧ P i = true
  | 0 => ⟨fun h => (by cases h), fun ⟨i, h, _⟩ => by omega⟩
  | n + 1 => by
    show (dp_any P n || P n) = true ↔ _
    rw [Bool.or_eq_true, dp_any_iff]
    constructor
    · rintro (⟨i, h1, h2⟩ | h)
      · exact ⟨i, by omega, h2⟩
      · exact ⟨n, by omega, h⟩
    · rintro ⟨i, h1, h2⟩
      rcases Nat.lt_or_ge i n with z | z
      · exact Or.inl ⟨i, z, h2⟩
      · obtain rfl : i = n := by omega
        exact Or.inr h2
end
section
/-! ordered trees by levels along the document order -/
def dp_fe (l : Nat → Nat) (b : Nat) : Nat → Nat → Nat
  | 0, r => r
  | k + 1, r => if l b < l r then dp_fe l b k (r + 1) else r
theorem dp_fe_spec (l : Nat → Nat) (b : Nat) : ∀ k r, r ≤ dp_fe l b k r ∧ dp_fe l b k r ≤ r + k ∧ (∀ s, r ≤ s → s < dp_fe l b k r → l b < l s) ∧ (dp_fe l b k r = r + k ∨ l (dp_fe l b k r) ≤ l b)
  | 0, r => ⟨Nat.le_refl _, Nat.le_refl _, fun s h1 h2 => absurd h2 (by show ¬ s < r; omega), Or.inl rfl⟩
  | k + 1, r => by
    by_cases h : l b < l r
    · have e : dp_fe l b (k + 1) r = dp_fe l b k (r + 1) := if_pos h
      obtain ⟨h1, h2, h3, h4⟩ := dp_fe_spec l b k (r + 1)
      rw [e]
      refine ⟨by omega, by omega, fun s g1 g2 => ?_, ?_⟩
      · rcases Nat.lt_or_ge r s with z | z
        · exact h3 s z g2
        · rw [show s = r from by omega]; exact h
      · rcases h4 with h4 | h4
        · exact Or.inl (by omega)
        · exact Or.inr h4
    · have e : dp_fe l b (k + 1) r = r := if_neg h
      rw [e]
      exact ⟨Nat.le_refl _, by omega, fun s g1 g2 => absurd g2 (by omega), Or.inr (by omega)⟩
def dp_en (l : Nat → Nat) (c r : Nat) : Nat := dp_fe l r (c - (r + 1)) (r + 1)
def dp_Ed (l : Nat → Nat) (c r e : Nat) : Prop := r < e ∧ e ≤ c ∧ (∀ s, r < s → s < e → l r < l s) ∧ (e = c ∨ l e ≤ l r)
theorem dp_en_spec (l : Nat → Nat) {c r : Nat} (h : r < c) : dp_Ed l c r (dp_en l c r) := by
  obtain ⟨h1, h2, h3, h4⟩ := dp_fe_spec l r (c - (r + 1)) (r + 1)
  unfold dp_Ed dp_en
  refine ⟨by omega, by omega, fun s g1 g2 => h3 s g1 g2, ?_⟩
  rcases h4 with h4 | h4
  · exact Or.inl (by omega)
  · exact Or.inr h4
theorem dp_Ed_uniq {l : Nat → Nat} {c r e f : Nat} (h : dp_Ed l c r e) (g : dp_Ed l c r f) : e = f := by
  obtain ⟨h1, h2, h3, h4⟩ := h
  obtain ⟨g1, g2, g3, g4⟩ := g
  rcases Nat.lt_trichotomy e f with z | z | z
  · have := g3 e h1 z
    omega
  · exact z
  · have := h3 f g1 z
    omega
theorem dp_en_of {l : Nat → Nat} {c r e : Nat} (h : dp_Ed l c r e) : dp_en l c r = e := dp_Ed_uniq (dp_en_spec l (by have := h.1; have := h.2.1; omega)) h
def dp_fp (l : Nat → Nat) (b : Nat) : Nat → Nat
  | 0 => 0
  | q + 1 => if l q < l b then q else dp_fp l b q
theorem dp_fp_spec (l : Nat → Nat) (b : Nat) : ∀ k, (∃ q, q < k ∧ l q < l b) → dp_fp l b k < k ∧ l (dp_fp l b k) < l b ∧ ∀ s, dp_fp l b k < s → s < k → l b ≤ l s
  | 0, ⟨q, h, _⟩ => by omega
  | k + 1, ⟨q, hq, hl⟩ => by
    by_cases h : l k < l b
    · have e : dp_fp l b (k + 1) = k := if_pos h
      rw [e]
      exact ⟨by omega, h, fun s g1 g2 => by omega⟩
    · have e : dp_fp l b (k + 1) = dp_fp l b k := if_neg h
      have hqk : q < k := by
        rcases Nat.lt_or_ge q k with z | z
        · exact z
        · rw [show q = k from by omega] at hl; exact absurd hl h
      obtain ⟨h1, h2, h3⟩ := dp_fp_spec l b k ⟨q, hqk, hl⟩
      rw [e]
      refine ⟨by omega, h2, fun s g1 g2 => ?_⟩
      rcases Nat.lt_or_ge s k with z | z
      · exact h3 s g1 z
      · rw [show s = k from by omega]; omega
def dp_pa (l : Nat → Nat) (r : Nat) : Nat := dp_fp l r r
def dp_Pa (l : Nat → Nat) (q r : Nat) : Prop := q < r ∧ l q < l r ∧ ∀ s, q < s → s < r → l r ≤ l s
theorem dp_Pa_uniq {l : Nat → Nat} {r p q : Nat} (h : dp_Pa l p r) (g : dp_Pa l q r) : p = q := by
  obtain ⟨h1, h2, h3⟩ := h
  obtain ⟨g1, g2, g3⟩ := g
  rcases Nat.lt_trichotomy p q with z | z | z
  · have := h3 q z g1
    omega
  · exact z
  · have := g3 p z h1
    omega
theorem dp_pa_of {l : Nat → Nat} {r q : Nat} (h : dp_Pa l q r) : dp_pa l r = q := by
  obtain ⟨h1, h2, h3⟩ := dp_fp_spec l r r ⟨q, h.1, h.2.1⟩
  exact dp_Pa_uniq ⟨h1, h2, h3⟩ h
def dp_WF (l : Nat → Nat) (c : Nat) : Prop := 0 < c ∧ l 0 = 0 ∧ ∀ r, 0 < r → r < c → 1 ≤ l r ∧ l r ≤ l (r - 1) + 1
theorem dp_wf_pa {l : Nat → Nat} {c r : Nat} (W : dp_WF l c) (h0 : 0 < r) (hr : r < c) : dp_Pa l (dp_pa l r) r ∧ l (dp_pa l r) + 1 = l r := by
  obtain ⟨w1, w2, w3⟩ := W
  obtain ⟨h1, h2, h3⟩ := dp_fp_spec l r r ⟨0, h0, by have := (w3 r h0 hr).1; omega⟩
  have P : dp_Pa l (dp_pa l r) r := ⟨h1, h2, h3⟩
  refine ⟨P, ?_⟩
  generalize dp_pa l r = q at P ⊢
  obtain ⟨p1, p2, p3⟩ := P
  rcases Nat.lt_or_ge (q + 1) r with z | z
  · have a := p3 (q + 1) (by omega) z
    have b := (w3 (q + 1) (by omega) (by omega)).2
    rw [show q + 1 - 1 = q from by omega] at b
    omega
  · have b := (w3 r h0 hr).2
    rw [show r - 1 = q from by omega] at b
    omega
theorem dp_wf_pl {l : Nat → Nat} {c r : Nat} (W : dp_WF l c) (h0 : 0 < r) (hr : r < c) : dp_pa l r < r := (dp_wf_pa W h0 hr).1.1
theorem dp_wf_rank {l : Nat → Nat} {c : Nat} (W : dp_WF l c) : ∀ r, r < c → l r ≤ r
  | 0, _ => by have := W.2.1; omega
  | r + 1, h => by
    have a := dp_wf_rank W r (by omega)
    have b := (W.2.2 (r + 1) (by omega) h).2
    rw [show r + 1 - 1 = r from by omega] at b
    omega
/-- s is below r just when every level behind r up to s is greater -/
theorem dp_bl {l : Nat → Nat} {c r s : Nat} (hs : s < c) : (r < s ∧ s < dp_en l c r) ↔ (r < s ∧ ∀ t, r < t → t ≤ s → l r < l t) := by
  constructor
  · rintro ⟨h1, h2⟩
    obtain ⟨e1, e2, e3, e4⟩ := dp_en_spec l (c := c) (r := r) (by omega)
    exact ⟨h1, fun t g1 g2 => e3 t g1 (by omega)⟩
  · rintro ⟨h1, h2⟩
    obtain ⟨e1, e2, e3, e4⟩ := dp_en_spec l (c := c) (r := r) (by omega)
    refine ⟨h1, ?_⟩
    rcases Nat.lt_or_ge s (dp_en l c r) with z | z
    · exact z
    · have := h2 _ e1 z
      omega
theorem dp_climb {l : Nat → Nat} {c r s : Nat} (W : dp_WF l c) (h0 : 0 < s) (hs : s < c) : (r < s ∧ s < dp_en l c r) ↔ (dp_pa l s = r ∨ (r < dp_pa l s ∧ dp_pa l s < dp_en l c r)) := by
  obtain ⟨⟨p1, p2, p3⟩, p4⟩ := dp_wf_pa W h0 hs
  rw [dp_bl hs, dp_bl (show dp_pa l s < c by omega)]
  generalize dp_pa l s = q at *
  constructor
  · rintro ⟨h1, h2⟩
    rcases Nat.lt_trichotomy q r with z | z | z
    · have a := p3 r z h1
      have b := h2 s h1 (Nat.le_refl _)
      omega
    · exact Or.inl z
    · exact Or.inr ⟨z, fun t g1 g2 => h2 t g1 (by omega)⟩
  · rintro (z | ⟨z, h⟩)
    · subst z
      refine ⟨p1, fun t g1 g2 => ?_⟩
      rcases Nat.lt_or_ge t s with y | y
      · have := p3 t g1 y
        omega
      · rw [show t = s from by omega]; exact p2
    · refine ⟨by omega, fun t g1 g2 => ?_⟩
      have b := h q z (Nat.le_refl _)
      rcases Nat.lt_or_ge q t with y | y
      · rcases Nat.lt_or_ge t s with x | x
        · have := p3 t y x
          omega
        · rw [show t = s from by omega]; omega
      · exact h t g1 y
/-- children -/
def dp_ch (l : Nat → Nat) (x j : Nat) : Bool := decide (0 < j ∧ dp_pa l j = x)
theorem dp_ch_iff {l : Nat → Nat} {x j : Nat} : dp_ch l x j = true ↔ 0 < j ∧ dp_pa l j = x := decide_eq_true_iff
theorem dp_ch_in {l : Nat → Nat} {c x j : Nat} (W : dp_WF l c) (hj : j < c) (h : dp_ch l x j = true) : x < j ∧ j < dp_en l c x := by
  obtain ⟨h0, h1⟩ := dp_ch_iff.mp h
  exact (dp_climb W h0 hj).mpr (Or.inl h1)
theorem dp_ch_lo {l : Nat → Nat} {c x j : Nat} (W : dp_WF l c) (hj : j < c) (h : j ≤ x) : dp_ch l x j = false := by
  cases hb : dp_ch l x j
  · rfl
  · have := (dp_ch_in W hj hb).1; omega
theorem dp_ch_hi {l : Nat → Nat} {c x j : Nat} (W : dp_WF l c) (hj : j < c) (h : dp_en l c x ≤ j) : dp_ch l x j = false := by
  cases hb : dp_ch l x j
  · rfl
  · have := (dp_ch_in W hj hb).2; omega
/-- the rank of a node: the last place that holds it -/
def dp_rk (o : Nat → Nat) (n : Nat) : Nat → Nat
  | 0 => 0
  | i + 1 => if o i = n then i else dp_rk o n i
theorem dp_rk_at {o : Nat → Nat} {n r : Nat} (hr : o r = n) : ∀ {c : Nat}, r < c → (∀ s, s < c → o s = n → s = r) → dp_rk o n c = r
  | 0, h, _ => by omega
  | c + 1, h, hu => by
    by_cases e : o c = n
    · have : dp_rk o n (c + 1) = c := if_pos e
      rw [this]; exact hu c (by omega) e
    · have : dp_rk o n (c + 1) = dp_rk o n c := if_neg e
      rw [this]
      have hrc : r < c := by
        rcases Nat.lt_or_ge r c with z | z
        · exact z
        · rw [show c = r from by omega] at e; exact absurd hr e
      exact dp_rk_at hr hrc (fun s hs => hu s (by omega))
/-! putting a piece in -/
def dp_in (f : Nat → Nat) (t k : Nat) (g : Nat → Nat) : Nat → Nat := fun r => if r < t then f r else if r < t + k then g (r - t) else f (r - k)
theorem dp_in_lo {f g : Nat → Nat} {t k r : Nat} (h : r < t) : dp_in f t k g r = f r := if_pos h
theorem dp_in_mid {f g : Nat → Nat} {t k i : Nat} (h : i < k) : dp_in f t k g (t + i) = g i := by
  show (if t + i < t then f (t + i) else if t + i < t + k then g (t + i - t) else f (t + i - k)) = _
  rw [if_neg (by omega), if_pos (by omega), show t + i - t = i from by omega]
theorem dp_in_hi {f g : Nat → Nat} {t k r : Nat} (h : t ≤ r) : dp_in f t k g (r + k) = f r := by
  show (if r + k < t then f (r + k) else if r + k < t + k then g (r + k - t) else f (r + k - k)) = _
  rw [if_neg (by omega), if_neg (by omega), Nat.add_sub_cancel]
def dp_Gp (l : Nat → Nat) (c p t : Nat) : Prop := p < t ∧ t ≤ c ∧ (∀ s, p < s → s < t → l p < l s) ∧ (t = c ∨ l t ≤ l p + 1)
theorem dp_gp_en {l : Nat → Nat} {c p : Nat} (hp : p < c) : dp_Gp l c p (dp_en l c p) := by
  obtain ⟨e1, e2, e3, e4⟩ := dp_en_spec l hp
  exact ⟨e1, e2, e3, e4.elim Or.inl (fun h => Or.inr (by omega))⟩
theorem dp_gp_ch {l : Nat → Nat} {c p t : Nat} (W : dp_WF l c) (ht : t < c) (h : dp_ch l p t = true) : dp_Gp l c p t := by
  obtain ⟨h0, rfl⟩ := dp_ch_iff.mp h
  obtain ⟨⟨p1, p2, p3⟩, p4⟩ := dp_wf_pa W h0 ht
  exact ⟨p1, by omega, fun s g1 g2 => by have := p3 s g1 g2; omega, Or.inr (by omega)⟩
theorem dp_wf_in {l g : Nat → Nat} {c p t k : Nat} (W : dp_WF l c) (G : dp_Gp l c p t) (hk : 0 < k) (g0 : g 0 = l p + 1) (g1 : ∀ i, 0 < i → i < k → l p + 1 ≤ g i ∧ g i ≤ g (i - 1) + 1) : dp_WF (dp_in l t k g) (c + k) := by
  obtain ⟨w1, w2, w3⟩ := W
  obtain ⟨a1, a2, a3, a4⟩ := G
  have gk : ∀ i, i < k → l p + 1 ≤ g i := fun i hi => by
    rcases Nat.eq_zero_or_pos i with z | z
    · rw [z]; omega
    · exact (g1 i z hi).1
  refine ⟨by omega, by rw [dp_in_lo (by omega)]; exact w2, fun r h0 hr => ?_⟩
  rcases Nat.lt_or_ge r t with z | z
  · rw [dp_in_lo z, dp_in_lo (show r - 1 < t by omega)]
    exact w3 r h0 (by omega)
  · rcases Nat.lt_or_ge r (t + k) with y | y
    · obtain ⟨i, rfl⟩ : ∃ i, r = t + i := ⟨r - t, by omega⟩
      rw [dp_in_mid (show i < k by omega)]
      have := gk i (by omega)
      refine ⟨by omega, ?_⟩
      rcases Nat.eq_zero_or_pos i with x | x
      · subst x
        rw [show t + 0 - 1 = t - 1 from by omega, dp_in_lo (show t - 1 < t by omega)]
        rcases Nat.lt_or_ge p (t - 1) with u | u
        · have := a3 (t - 1) u (by omega)
          omega
        · rw [show t - 1 = p from by omega]; omega
      · rw [show t + i - 1 = t + (i - 1) from by omega, dp_in_mid (show i - 1 < k by omega)]
        exact (g1 i x (by omega)).2
    · obtain ⟨s, rfl⟩ : ∃ s, r = s + k := ⟨r - k, by omega⟩
      have ht : t ≤ s := by omega
      rw [dp_in_hi ht]
      have hs := w3 s (by omega) (by omega)
      refine ⟨hs.1, ?_⟩
      rcases Nat.lt_or_ge t s with x | x
      · rw [show s + k - 1 = (s - 1) + k from by omega, dp_in_hi (show t ≤ s - 1 by omega)]
        exact hs.2
      · obtain rfl : t = s := by omega
        have := gk (k - 1) (by omega)
        rw [show t + k - 1 = t + (k - 1) from by omega, dp_in_mid (show k - 1 < k by omega)]
        omega
theorem dp_pa_in_lo {l g : Nat → Nat} {c t k r : Nat} (W : dp_WF l c) (ht : t ≤ c) (h0 : 0 < r) (hr : r < t) : dp_pa (dp_in l t k g) r = dp_pa l r := by
  obtain ⟨⟨p1, p2, p3⟩, -⟩ := dp_wf_pa W h0 (by omega)
  apply dp_pa_of
  refine ⟨p1, ?_, fun s h1 h2 => ?_⟩
  · rw [dp_in_lo (by omega), dp_in_lo hr]; exact p2
  · rw [dp_in_lo hr, dp_in_lo (by omega)]; exact p3 s h1 h2
theorem dp_pa_in_top {l g : Nat → Nat} {c p t k : Nat} (G : dp_Gp l c p t) (hk : 0 < k) (g0 : g 0 = l p + 1) : dp_pa (dp_in l t k g) t = p := by
  obtain ⟨a1, a2, a3, a4⟩ := G
  have e : dp_in l t k g t = l p + 1 := (dp_in_mid (i := 0) hk).trans g0
  apply dp_pa_of
  refine ⟨a1, ?_, fun s h1 h2 => ?_⟩
  · rw [e, dp_in_lo a1]; omega
  · rw [e, dp_in_lo h2]; exact a3 s h1 h2
theorem dp_pa_in_mid {l g : Nat → Nat} {t k i j : Nat} (hi : i < k) (h : dp_Pa g j i) : dp_pa (dp_in l t k g) (t + i) = t + j := by
  obtain ⟨p1, p2, p3⟩ := h
  apply dp_pa_of
  refine ⟨by omega, ?_, fun s h1 h2 => ?_⟩
  · rw [dp_in_mid (by omega), dp_in_mid hi]; exact p2
  · obtain ⟨m, rfl⟩ : ∃ m, s = t + m := ⟨s - t, by omega⟩
    rw [dp_in_mid hi, dp_in_mid (by omega)]; exact p3 m (by omega) (by omega)
theorem dp_pa_in_hi {l g : Nat → Nat} {c p t k r : Nat} (W : dp_WF l c) (G : dp_Gp l c p t) (gk : ∀ i, i < k → l p + 1 ≤ g i) (h0 : t ≤ r) (hr : r < c) : dp_pa (dp_in l t k g) (r + k) = if dp_pa l r < t then dp_pa l r else dp_pa l r + k := by
  obtain ⟨a1, a2, a3, a4⟩ := G
  obtain ⟨⟨p1, p2, p3⟩, -⟩ := dp_wf_pa W (show 0 < r by omega) hr
  generalize dp_pa l r = q at *
  by_cases z : q < t
  · rw [if_pos z]
    apply dp_pa_of
    refine ⟨by omega, ?_, fun s h1 h2 => ?_⟩
    · rw [dp_in_lo z, dp_in_hi h0]; exact p2
    · rw [dp_in_hi h0]
      rcases Nat.lt_or_ge s t with y | y
      · rw [dp_in_lo y]; exact p3 s h1 (by omega)
      · rcases Nat.lt_or_ge s (t + k) with x | x
        · obtain ⟨m, rfl⟩ : ∃ m, s = t + m := ⟨s - t, by omega⟩
          rw [dp_in_mid (by omega)]
          have b := gk m (by omega)
          have d : l r ≤ l t := by
            rcases Nat.lt_or_ge t r with u | u
            · exact p3 t z u
            · rw [show t = r from by omega]; exact Nat.le_refl _
          omega
        · obtain ⟨m, rfl⟩ : ∃ m, s = m + k := ⟨s - k, by omega⟩
          rw [dp_in_hi (by omega)]; exact p3 m (by omega) (by omega)
  · rw [if_neg z]
    apply dp_pa_of
    refine ⟨by omega, ?_, fun s h1 h2 => ?_⟩
    · rw [dp_in_hi (by omega), dp_in_hi h0]; exact p2
    · obtain ⟨m, rfl⟩ : ∃ m, s = m + k := ⟨s - k, by omega⟩
      rw [dp_in_hi h0, dp_in_hi (by omega)]; exact p3 m (by omega) (by omega)
/-! taking a piece out -/
def dp_ot (f : Nat → Nat) (a k : Nat) : Nat → Nat := fun r => if r < a then f r else f (r + k)
theorem dp_ot_lo {f : Nat → Nat} {a k r : Nat} (h : r < a) : dp_ot f a k r = f r := if_pos h
theorem dp_ot_hi {f : Nat → Nat} {a k r : Nat} (h : a ≤ r) : dp_ot f a k r = f (r + k) := if_neg (by omega)
theorem dp_wf_ot {l : Nat → Nat} {c a k : Nat} (W : dp_WF l c) (ha : 0 < a) (E : dp_Ed l c a (a + k)) : dp_WF (dp_ot l a k) (c - k) := by
  obtain ⟨w1, w2, w3⟩ := W
  obtain ⟨e1, e2, e3, e4⟩ := E
  refine ⟨by omega, by rw [dp_ot_lo ha]; exact w2, fun r h0 hr => ?_⟩
  rcases Nat.lt_trichotomy r a with z | z | z
  · rw [dp_ot_lo z, dp_ot_lo (by omega)]; exact w3 r h0 (by omega)
  · subst z
    rw [dp_ot_hi (Nat.le_refl _), dp_ot_lo (by omega)]
    have x := w3 (r + k) (by omega) (by omega)
    have y := w3 r h0 (by omega)
    omega
  · rw [dp_ot_hi (by omega), dp_ot_hi (show a ≤ r - 1 by omega), show r - 1 + k = r + k - 1 from by omega]
    exact w3 (r + k) (by omega) (by omega)
theorem dp_pa_ot_lo {l : Nat → Nat} {c a k r : Nat} (W : dp_WF l c) (ha : a ≤ c) (h0 : 0 < r) (hr : r < a) : dp_pa (dp_ot l a k) r = dp_pa l r := by
  obtain ⟨⟨p1, p2, p3⟩, -⟩ := dp_wf_pa W h0 (by omega)
  apply dp_pa_of
  refine ⟨p1, ?_, fun s h1 h2 => ?_⟩
  · rw [dp_ot_lo (by omega), dp_ot_lo hr]; exact p2
  · rw [dp_ot_lo hr, dp_ot_lo (by omega)]; exact p3 s h1 h2
theorem dp_pa_ot_hi {l : Nat → Nat} {c a k r : Nat} (W : dp_WF l c) (E : dp_Ed l c a (a + k)) (h0 : a ≤ r) (hr : r + k < c) : (dp_pa l (r + k) < a ∧ dp_pa (dp_ot l a k) r = dp_pa l (r + k)) ∨ (a + k ≤ dp_pa l (r + k) ∧ dp_pa (dp_ot l a k) r = dp_pa l (r + k) - k) := by
  obtain ⟨e1, e2, e3, e4⟩ := E
  obtain ⟨⟨p1, p2, p3⟩, -⟩ := dp_wf_pa W (show 0 < r + k by omega) hr
  generalize dp_pa l (r + k) = q at *
  have le : l (a + k) ≤ l a := by omega
  rcases Nat.lt_or_ge q a with z | z
  · refine Or.inl ⟨z, ?_⟩
    apply dp_pa_of
    refine ⟨by omega, ?_, fun s h1 h2 => ?_⟩
    · rw [dp_ot_lo z, dp_ot_hi h0]; exact p2
    · rw [dp_ot_hi h0]
      rcases Nat.lt_or_ge s a with y | y
      · rw [dp_ot_lo y]; exact p3 s h1 (by omega)
      · rw [dp_ot_hi y]; exact p3 (s + k) (by omega) (by omega)
  · rcases Nat.lt_or_ge q (a + k) with y | y
    · exfalso
      have lq : l a ≤ l q := by
        rcases Nat.lt_or_ge a q with x | x
        · have := e3 q x y
          omega
        · rw [show a = q from by omega]; exact Nat.le_refl _
      rcases Nat.lt_or_ge (a + k) (r + k) with x | x
      · have := p3 (a + k) y x
        omega
      · rw [show r + k = a + k from by omega] at p2
        omega
    · refine Or.inr ⟨y, ?_⟩
      apply dp_pa_of
      refine ⟨by omega, ?_, fun s h1 h2 => ?_⟩
      · rw [dp_ot_hi (by omega), dp_ot_hi h0, show q - k + k = q from by omega]; exact p2
      · rw [dp_ot_hi h0, dp_ot_hi (by omega)]; exact p3 (s + k) (by omega) (by omega)
/-- inside a piece the parents are inside -/
theorem dp_pa_sub {l : Nat → Nat} {c a k i : Nat} (W : dp_WF l c) (E : dp_Ed l c a (a + k)) (h0 : 0 < i) (hi : i < k) : ∃ j, j < i ∧ dp_pa l (a + i) = a + j ∧ dp_Pa l (a + j) (a + i) ∧ l a < l (a + i) := by
  obtain ⟨e1, e2, e3, e4⟩ := E
  obtain ⟨P, -⟩ := dp_wf_pa W (show 0 < a + i by omega) (by omega)
  have la := e3 (a + i) (by omega) (by omega)
  have ge : a ≤ dp_pa l (a + i) := by
    rcases Nat.lt_or_ge (dp_pa l (a + i)) a with z | z
    · have := P.2.2 a z (by omega)
      omega
    · exact z
  have lt := P.1
  refine ⟨dp_pa l (a + i) - a, by omega, by omega, ?_, la⟩
  rw [show a + (dp_pa l (a + i) - a) = dp_pa l (a + i) from by omega]
  exact P
end
section
/-! the entries of a token program, as rows of bits -/
def dp_ax (l : Nat → Nat) (c : Nat) (a : Int32) (i j : Nat) : Bool :=
  if a = 0 then decide (j = i) else if a = 1 then decide (0 < j ∧ dp_pa l j = i) else if a = 2 then decide (0 < i ∧ dp_pa l i = j)
  else if a = 3 then decide (i < j ∧ j < dp_en l c i) else if a = 4 then decide (j < i ∧ i < dp_en l c j)
  else if a = 5 then decide (i < j ∧ 0 < i ∧ 0 < j ∧ dp_pa l i = dp_pa l j) else if a = 6 then decide (j < i ∧ 0 < i ∧ 0 < j ∧ dp_pa l i = dp_pa l j)
  else if a = 7 then decide (dp_en l c i ≤ j) else decide (dp_en l c j ≤ i)
def dp_c0 (s : Int32) : Nat → Int32 := fun x => if x = 0 then s else 0
theorem dp_c0_0 (s : Int32) : dp_c0 s 0 = s := if_pos rfl
theorem dp_c0_n {s : Int32} {x : Nat} (h : 0 < x) : dp_c0 s x = 0 := if_neg (by omega)
def dp_jn (w : Int32) (q : Nat → Int32) : Nat → Int32
  | 0 => 0
  | y + 1 => if bt w y = true then dp_jn w q y ||| q y else dp_jn w q y
theorem dp_jn_t {w : Int32} {q : Nat → Int32} {y : Nat} (h : bt w y = true) : dp_jn w q (y + 1) = dp_jn w q y ||| q y := if_pos h
theorem dp_jn_f {w : Int32} {q : Nat → Int32} {y : Nat} (h : ¬ bt w y = true) : dp_jn w q (y + 1) = dp_jn w q y := if_neg h
theorem dp_jn_bt {w : Int32} {q : Nat → Int32} {i : Nat} : ∀ {n : Nat}, bt (dp_jn w q n) i = true → ∃ z, z < n ∧ bt w z = true ∧ bt (q z) i = true
  | 0, h => by
    have : bt 0 i = true := h
    rw [b_0] at this; cases this
  | n + 1, h => by
    by_cases e : bt w n = true
    · rw [dp_jn_t e, b_or, Bool.or_eq_true] at h
      rcases h with h | h
      · obtain ⟨z, h1, h2⟩ := dp_jn_bt h
        exact ⟨z, by omega, h2⟩
      · exact ⟨n, by omega, e, h⟩
    · rw [dp_jn_f e] at h
      obtain ⟨z, h1, h2⟩ := dp_jn_bt h
      exact ⟨z, by omega, h2⟩
theorem dp_jn_congr {w : Int32} {q q' : Nat → Int32} : ∀ {n : Nat}, (∀ y, y < n → q y = q' y) → dp_jn w q n = dp_jn w q' n
  | 0, _ => rfl
  | n + 1, h => by
    have e := dp_jn_congr (w := w) (n := n) (fun y hy => h y (by omega))
    show (if bt w n = true then dp_jn w q n ||| q n else dp_jn w q n) = (if bt w n = true then dp_jn w q' n ||| q' n else dp_jn w q' n)
    rw [e, h n (by omega)]
def dp_wr (p : Nat → Int32) : Nat → Nat → Int32
  | 0 => p
  | k + 1 => fun a => if bt (dp_wr p k a) k = true then dp_wr p k a ||| dp_wr p k k else dp_wr p k a
theorem dp_wr_t {p : Nat → Int32} {k a : Nat} (h : bt (dp_wr p k a) k = true) : dp_wr p (k + 1) a = dp_wr p k a ||| dp_wr p k k := if_pos h
theorem dp_wr_f {p : Nat → Int32} {k a : Nat} (h : ¬ bt (dp_wr p k a) k = true) : dp_wr p (k + 1) a = dp_wr p k a := if_neg h
theorem dp_wr_row (p : Nat → Int32) (k : Nat) : dp_wr p (k + 1) k = dp_wr p k k := by
  by_cases h : bt (dp_wr p k k) k = true
  · rw [dp_wr_t h, dp_or_self]
  · rw [dp_wr_f h]
theorem dp_wr_bt (p : Nat → Int32) (k a b : Nat) : bt (dp_wr p (k + 1) a) b = (bt (dp_wr p k a) b || (bt (dp_wr p k a) k && bt (dp_wr p k k) b)) := by
  by_cases h : bt (dp_wr p k a) k = true
  · rw [dp_wr_t h, b_or, h, Bool.true_and]
  · rw [dp_wr_f h, Bool.eq_false_iff.mpr h, Bool.false_and, Bool.or_false]
theorem dp_wr_congr {p q : Nat → Int32} (h : ∀ x, x < 32 → p x = q x) : ∀ k, k ≤ 32 → ∀ a, a < 32 → dp_wr p k a = dp_wr q k a
  | 0, _, a, ha => h a ha
  | k + 1, hk, a, ha => by
    have e1 := dp_wr_congr h k (by omega) a ha
    have e2 := dp_wr_congr h k (by omega) k (by omega)
    show (if bt (dp_wr p k a) k = true then dp_wr p k a ||| dp_wr p k k else dp_wr p k a) = (if bt (dp_wr q k a) k = true then dp_wr q k a ||| dp_wr q k k else dp_wr q k a)
    rw [e1, e2]
def dp_nk (a w : Int32) : Int32 := if a < 0 then nI (dp_fc (bt w) 32) + a else a - 1
def dp_ob (o : Nat → Nat) : Option Nat → Int32
  | some i => dp_bo (o i)
  | none => 0
def dp_nt (c : Nat) (o : Nat → Nat) (a w : Int32) : Int32 := dp_ob o (dp_fk (fun i => bt w (o i)) (dp_nk a w) c)
def dp_mt (vs : Nat → Int32) (p q : Int32) : Bool := dp_any (fun y => dp_any (fun z => bt p y && bt q z && decide (vs y = vs z)) 32) 32
def dp_op (c : Nat) (o l : Nat → Nat) (pr : Int32) (tg vs : Nat → Int32) (kind : Nat) (a : Int32) (p q : Nat → Int32) : Nat → Int32 :=
  if kind = 0 then fun x => if bt pr x = true then dp_fr o (dp_ax l c a (dp_rk o x c)) c else 0
  else if kind = 1 then fun x => dp_jn (p x) q 32
  else if kind = 2 then fun x => p x ||| q x
  else if kind = 3 then fun x => p x &&& q x
  else if kind = 4 then fun x => p x &&& (q x ^^^ (-1))
  else if kind = 5 then fun x => dp_mk (fun y => bt (p y) x) 32
  else if kind = 6 then fun x => dp_wr p 32 x ||| (pr &&& dp_bo x)
  else if kind = 7 then fun x => dp_nt c o a (p x)
  else if kind = 8 then fun x => p x &&& q 0
  else if kind = 9 then dp_c0 (dp_fr o (fun r => decide (tg (o r) = a)) c)
  else if kind = 10 then dp_c0 (dp_fr o (fun r => decide (a ≤ vs (o r))) c)
  else if kind = 11 then dp_c0 (dp_mk (fun x => decide (a ≤ nI (dp_fc (bt (p x)) 32))) 32)
  else if kind = 12 then dp_c0 (pr &&& (p 0 ^^^ (-1)))
  else if kind = 13 then fun x => p x &&& q x
  else if kind = 14 then fun x => p x ||| q x
  else dp_c0 (dp_mk (fun x => dp_mt vs (p x) (q x)) 32)
/-! bits lie within the present nodes -/
def dp_PP (pr : Int32) (p : Nat → Int32) : Prop := ∀ x, x < 32 → ∀ y, bt (p x) y = true → bt pr x = true ∧ bt pr y = true
def dp_PC (pr : Int32) (p : Nat → Int32) : Prop := (∀ x, 0 < x → x < 32 → p x = 0) ∧ ∀ y, bt (p 0) y = true → bt pr y = true
theorem dp_PP_0 {pr : Int32} {p : Nat → Int32} (h : dp_PP pr p) {x : Nat} (hx : x < 32) (hn : bt pr x = false) : p x = 0 := dp_zero fun i _ => by
  cases hb : bt (p x) i
  · rfl
  · have := (h x hx i hb).1
    rw [hn] at this; cases this
theorem dp_PC_c0 {pr s : Int32} (h : ∀ y, bt s y = true → bt pr y = true) : dp_PC pr (dp_c0 s) := ⟨fun x h0 _ => dp_c0_n h0, fun y hy => h y (by rw [dp_c0_0] at hy; exact hy)⟩
/-- Warshall with the identity put in ahead, against Warshall with it put in behind -/
theorem dp_wr_refl {pr : Int32} {p q : Nat → Int32} (hp : dp_PP pr p) (hq : ∀ x, x < 32 → q x = if bt pr x = true then p x ||| dp_bo x else 0) : ∀ k, k ≤ 32 → ∀ a, a < 32 → ∀ b, b < 32 → bt (dp_wr q k a) b = (bt (dp_wr p k a) b || (decide (b = a) && bt pr a))
  | 0, _, a, ha, b, hb => by
    show bt (q a) b = (bt (p a) b || (decide (b = a) && bt pr a))
    rw [hq a ha]
    cases h : bt pr a
    · rw [if_neg (by decide), dp_PP_0 hp ha h, b_0, Bool.and_false, Bool.or_false]
    · rw [if_pos rfl, dp_bt_or _ ha, Bool.and_true]
  | k + 1, hk, a, ha, b, hb => by
    have e1 := dp_wr_refl hp hq k (by omega) a ha b hb
    have e2 := dp_wr_refl hp hq k (by omega) a ha k (by omega)
    have e3 := dp_wr_refl hp hq k (by omega) k (by omega) b hb
    rw [dp_wr_bt, dp_wr_bt, e1, e2, e3]
    by_cases h1 : k = a
    · subst h1
      cases bt (dp_wr p k k) b <;> cases bt (dp_wr p k k) k <;> cases bt pr k <;> cases decide (b = k) <;> cases decide (k = k) <;> rfl
    · rw [decide_eq_false h1]
      by_cases h2 : b = k
      · subst h2
        cases bt (dp_wr p b a) b <;> cases bt (dp_wr p b b) b <;> cases bt pr b <;> cases bt pr a <;> cases decide (b = a) <;> cases decide (b = b) <;> rfl
      · rw [decide_eq_false h2]
        cases bt (dp_wr p k a) b <;> cases bt (dp_wr p k a) k <;> cases bt (dp_wr p k k) b <;> cases bt pr a <;> cases bt pr k <;> cases decide (b = a) <;> rfl
theorem dp_wr_PP {pr : Int32} {p : Nat → Int32} (hp : dp_PP pr p) : ∀ k, k ≤ 32 → dp_PP pr (dp_wr p k)
  | 0, _ => hp
  | k + 1, hk => by
    have ih := dp_wr_PP hp k (by omega)
    intro x hx y h
    rw [dp_wr_bt, Bool.or_eq_true, Bool.and_eq_true] at h
    rcases h with h | ⟨h1, h2⟩
    · exact ih x hx y h
    · exact ⟨(ih x hx k h1).1, (ih k (by omega) y h2).2⟩
section SE
variable {c : Nat} {o l : Nat → Nat} {pr a : Int32} {tg vs : Nat → Int32} {p q : Nat → Int32}
theorem dp_fr_pr {P : Nat → Bool} (ho : ∀ r, o r < 32) (hp : ∀ n, bt pr n = true ↔ ∃ r, r < c ∧ o r = n) {y : Nat} (h : bt (dp_fr o P c) y = true) : bt pr y = true := by
  obtain ⟨r, h1, h2, -⟩ := (dp_fr_bt o P c (fun r _ => ho r) y).mp h
  exact (hp y).mpr ⟨r, h1, h2⟩
theorem dp_op0 (ho : ∀ r, o r < 32) (hp : ∀ n, bt pr n = true ↔ ∃ r, r < c ∧ o r = n) : dp_PP pr (dp_op c o l pr tg vs 0 a p q) := by
  intro x hx y h
  change bt (if bt pr x = true then dp_fr o (dp_ax l c a (dp_rk o x c)) c else 0) y = true at h
  by_cases e : bt pr x = true
  · rw [if_pos e] at h
    exact ⟨e, dp_fr_pr ho hp h⟩
  · rw [if_neg e, b_0] at h; cases h
theorem dp_op1 (h1 : dp_PP pr p) (h2 : dp_PP pr q) : dp_PP pr (dp_op c o l pr tg vs 1 a p q) := by
  intro x hx y h
  obtain ⟨z, g1, g2, g3⟩ := dp_jn_bt (show bt (dp_jn (p x) q 32) y = true from h)
  exact ⟨(h1 x hx z g2).1, (h2 z g1 y g3).2⟩
theorem dp_op2 (h1 : dp_PP pr p) (h2 : dp_PP pr q) : dp_PP pr (dp_op c o l pr tg vs 2 a p q) := by
  intro x hx y h
  have h' : bt (p x ||| q x) y = true := h
  rw [b_or, Bool.or_eq_true] at h'
  exact h'.elim (h1 x hx y) (h2 x hx y)
theorem dp_and_l {s t : Int32} {y : Nat} (h : bt (s &&& t) y = true) : bt s y = true := by
  rw [b_and, Bool.and_eq_true] at h
  exact h.1
theorem dp_op3 (h1 : dp_PP pr p) : dp_PP pr (dp_op c o l pr tg vs 3 a p q) := fun x hx y h => h1 x hx y (dp_and_l (show bt (p x &&& q x) y = true from h))
theorem dp_op4 (h1 : dp_PP pr p) : dp_PP pr (dp_op c o l pr tg vs 4 a p q) := fun x hx y h => h1 x hx y (dp_and_l (show bt (p x &&& (q x ^^^ (-1))) y = true from h))
theorem dp_op8 (h1 : dp_PP pr p) : dp_PP pr (dp_op c o l pr tg vs 8 a p q) := fun x hx y h => h1 x hx y (dp_and_l (show bt (p x &&& q 0) y = true from h))
theorem dp_op5 (h1 : dp_PP pr p) : dp_PP pr (dp_op c o l pr tg vs 5 a p q) := by
  intro x hx y h
  have h' : bt (dp_mk (fun y => bt (p y) x) 32) y = true := h
  have hy := dp_bt_lt h'
  rw [dp_mk_32 _ hy] at h'
  exact (h1 y hy x h').symm
theorem dp_op6 (h1 : dp_PP pr p) : dp_PP pr (dp_op c o l pr tg vs 6 a p q) := by
  intro x hx y h
  have h' : bt (dp_wr p 32 x ||| (pr &&& dp_bo x)) y = true := h
  rw [b_or, Bool.or_eq_true, b_and, Bool.and_eq_true, dp_bo_bt hx, decide_eq_true_iff] at h'
  rcases h' with h' | ⟨g1, g2⟩
  · exact dp_wr_PP h1 32 (Nat.le_refl _) x hx y h'
  · rw [g2] at g1 ⊢; exact ⟨g1, g1⟩
theorem dp_op7 (ho : ∀ r, o r < 32) (h1 : dp_PP pr p) : dp_PP pr (dp_op c o l pr tg vs 7 a p q) := by
  intro x hx y h
  have h' : bt (dp_ob o (dp_fk (fun i => bt (p x) (o i)) (dp_nk a (p x)) c)) y = true := h
  cases e : dp_fk (fun i => bt (p x) (o i)) (dp_nk a (p x)) c with
  | none =>
    rw [e] at h'
    have : bt 0 y = true := h'
    rw [b_0] at this; cases this
  | some i =>
    rw [e] at h'
    have h2 : bt (dp_bo (o i)) y = true := h'
    rw [dp_bo_bt (ho i), decide_eq_true_iff] at h2
    rw [h2]
    exact h1 x hx (o i) (dp_fk_some e).2.1
theorem dp_op9 (ho : ∀ r, o r < 32) (hp : ∀ n, bt pr n = true ↔ ∃ r, r < c ∧ o r = n) : dp_PC pr (dp_op c o l pr tg vs 9 a p q) := dp_PC_c0 (fun _ hy => dp_fr_pr ho hp hy)
theorem dp_op10 (ho : ∀ r, o r < 32) (hp : ∀ n, bt pr n = true ↔ ∃ r, r < c ∧ o r = n) : dp_PC pr (dp_op c o l pr tg vs 10 a p q) := dp_PC_c0 (fun _ hy => dp_fr_pr ho hp hy)
theorem dp_has0 (h1 : dp_PP pr p) (ha : 1 ≤ a) {x : Nat} (hx : x < 32) (hn : bt pr x = false) : ¬ a ≤ nI (dp_fc (bt (p x)) 32) := by
  intro z
  rw [dp_PP_0 h1 hx hn, dp_fc_none (fun i _ => b_0 i), nI_0] at z
  exact absurd (Int32.le_trans ha z) (by decide)
theorem dp_op11 (h1 : dp_PP pr p) (ha : 1 ≤ a) : dp_PC pr (dp_op c o l pr tg vs 11 a p q) := dp_PC_c0 fun x h => by
  have hx := dp_bt_lt h
  rw [dp_mk_32 _ hx, decide_eq_true_iff] at h
  cases e : bt pr x
  · exact absurd h (dp_has0 h1 ha hx e)
  · rfl
theorem dp_op12 : dp_PC pr (dp_op c o l pr tg vs 12 a p q) := dp_PC_c0 fun _ h => dp_and_l h
theorem dp_op13 (h1 : dp_PC pr p) : dp_PC pr (dp_op c o l pr tg vs 13 a p q) := ⟨fun x h0 hx => by
  show p x &&& q x = 0
  rw [h1.1 x h0 hx]
  exact dp_zero fun i _ => by rw [b_and, b_0, Bool.false_and], fun y h => h1.2 y (dp_and_l (show bt (p 0 &&& q 0) y = true from h))⟩
theorem dp_op14 (h1 : dp_PC pr p) (h2 : dp_PC pr q) : dp_PC pr (dp_op c o l pr tg vs 14 a p q) := ⟨fun x h0 hx => by
  show p x ||| q x = 0
  rw [h1.1 x h0 hx, h2.1 x h0 hx]
  exact dp_or_self 0, fun y h => by
  have h' : bt (p 0 ||| q 0) y = true := h
  rw [b_or, Bool.or_eq_true] at h'
  exact h'.elim (h1.2 y) (h2.2 y)⟩
theorem dp_op15 (h1 : dp_PP pr p) : dp_PC pr (dp_op c o l pr tg vs 15 a p q) := dp_PC_c0 fun x h => by
  have hx := dp_bt_lt h
  rw [dp_mk_32 _ hx] at h
  obtain ⟨y, -, hy⟩ := dp_any_iff.mp h
  obtain ⟨z, -, hz⟩ := dp_any_iff.mp hy
  rw [Bool.and_eq_true, Bool.and_eq_true] at hz
  exact (h1 x hx y hz.1.1).1
end SE
/-! the machine -/
def dp_tk (k : Nat) : Nat := if k = 0 ∨ k = 9 ∨ k = 10 then 0 else if k = 5 ∨ k = 6 ∨ k = 7 ∨ k = 11 ∨ k = 12 then 1 else 2
def dp_gp (k : Nat) : Bool := decide (k ≤ 8)
def dp_tp (k : Nat) : Bool := decide (k ≠ 8 ∧ k ≠ 12 ∧ k ≠ 13 ∧ k ≠ 14)
def dp_bp (k : Nat) : Bool := decide (k ≠ 13 ∧ k ≠ 14)
def dp_ty (kn : Nat → Nat) : Nat → Nat × (Nat → Bool)
  | 0 => (0, fun _ => false)
  | i + 1 => ((dp_ty kn i).1 - dp_tk (kn i) + 1, fun j => if j = (dp_ty kn i).1 - dp_tk (kn i) then dp_gp (kn i) else (dp_ty kn i).2 j)
def dp_ft (h : Nat) (F : Nat → Bool) (k : Nat) : Prop := dp_tk k ≤ h ∧ (0 < dp_tk k → F (h - 1) = dp_tp k) ∧ (dp_tk k = 2 → F (h - 2) = dp_bp k)
def dp_ok (k : Nat) (a : Int32) : Prop := k ≤ 15 ∧ (k = 7 → a ≠ 0) ∧ (k = 11 → 1 ≤ a)
def dp_WT (kn : Nat → Nat) (an : Nat → Int32) (n : Nat) : Prop := ∀ i, i < n → dp_ok (kn i) (an i) ∧ dp_ft (dp_ty kn i).1 (dp_ty kn i).2 (kn i) ∧ (dp_ty kn (i + 1)).1 ≤ 8
def dp_vl (c : Nat) (o l : Nat → Nat) (pr : Int32) (tg vs : Nat → Int32) (kn : Nat → Nat) (an : Nat → Int32) : Nat → Nat → Nat → Int32
  | 0 => fun _ _ => 0
  | i + 1 => fun j => if j = (dp_ty kn i).1 - dp_tk (kn i) then dp_op c o l pr tg vs (kn i) (an i) (dp_vl c o l pr tg vs kn an i ((dp_ty kn i).1 - dp_tk (kn i))) (dp_vl c o l pr tg vs kn an i ((dp_ty kn i).1 - dp_tk (kn i) + 1)) else dp_vl c o l pr tg vs kn an i j
def dp_PI (pr : Int32) (b : Bool) (p : Nat → Int32) : Prop := (b = true → dp_PP pr p) ∧ (b = false → dp_PC pr p)
theorem dp_op_PI {c : Nat} {o l : Nat → Nat} {pr a : Int32} {tg vs : Nat → Int32} {V : Nat → Nat → Int32} {h k : Nat} {F : Nat → Bool} (ho : ∀ r, o r < 32) (hp : ∀ n, bt pr n = true ↔ ∃ r, r < c ∧ o r = n) (hk : dp_ok k a) (hf : dp_ft h F k) (hv : ∀ e, e < h → dp_PI pr (F e) (V e)) : dp_PI pr (dp_gp k) (dp_op c o l pr tg vs k a (V (h - dp_tk k)) (V (h - dp_tk k + 1))) := by
  obtain ⟨k1, k2, k3⟩ := hk
  obtain ⟨f1, f2, f3⟩ := hf
  have top1 : dp_tk k = 1 → dp_PI pr (dp_tp k) (V (h - 1)) := fun e => by rw [← f2 (by omega)]; exact hv _ (by omega)
  have top2 : dp_tk k = 2 → dp_PI pr (dp_bp k) (V (h - 2)) ∧ dp_PI pr (dp_tp k) (V (h - 2 + 1)) := fun e => by
    rw [← f2 (by omega), ← f3 e]
    refine ⟨hv _ (by omega), ?_⟩
    rw [show h - 2 + 1 = h - 1 from by omega]
    exact hv _ (by omega)
  have cs : k = 0 ∨ k = 1 ∨ k = 2 ∨ k = 3 ∨ k = 4 ∨ k = 5 ∨ k = 6 ∨ k = 7 ∨ k = 8 ∨ k = 9 ∨ k = 10 ∨ k = 11 ∨ k = 12 ∨ k = 13 ∨ k = 14 ∨ k = 15 := by omega
  clear f1 f2 f3 hv k1
  rcases cs with rfl | rfl | rfl | rfl | rfl | rfl | rfl | rfl | rfl | rfl | rfl | rfl | rfl | rfl | rfl | rfl
  · exact ⟨fun _ => dp_op0 ho hp, fun z => (by cases z)⟩
  · exact ⟨fun _ => dp_op1 ((top2 rfl).1.1 rfl) ((top2 rfl).2.1 rfl), fun z => (by cases z)⟩
  · exact ⟨fun _ => dp_op2 ((top2 rfl).1.1 rfl) ((top2 rfl).2.1 rfl), fun z => (by cases z)⟩
  · exact ⟨fun _ => dp_op3 ((top2 rfl).1.1 rfl), fun z => (by cases z)⟩
  · exact ⟨fun _ => dp_op4 ((top2 rfl).1.1 rfl), fun z => (by cases z)⟩
  · exact ⟨fun _ => dp_op5 ((top1 rfl).1 rfl), fun z => (by cases z)⟩
  · exact ⟨fun _ => dp_op6 ((top1 rfl).1 rfl), fun z => (by cases z)⟩
  · exact ⟨fun _ => dp_op7 ho ((top1 rfl).1 rfl), fun z => (by cases z)⟩
  · exact ⟨fun _ => dp_op8 ((top2 rfl).1.1 rfl), fun z => (by cases z)⟩
  · exact ⟨fun z => (by cases z), fun _ => dp_op9 ho hp⟩
  · exact ⟨fun z => (by cases z), fun _ => dp_op10 ho hp⟩
  · exact ⟨fun z => (by cases z), fun _ => dp_op11 ((top1 rfl).1 rfl) (k3 rfl)⟩
  · exact ⟨fun z => (by cases z), fun _ => dp_op12⟩
  · exact ⟨fun z => (by cases z), fun _ => dp_op13 ((top2 rfl).1.2 rfl)⟩
  · exact ⟨fun z => (by cases z), fun _ => dp_op14 ((top2 rfl).1.2 rfl) ((top2 rfl).2.2 rfl)⟩
  · exact ⟨fun z => (by cases z), fun _ => dp_op15 ((top2 rfl).1.1 rfl)⟩
theorem dp_vl_PI {c : Nat} {o l : Nat → Nat} {pr : Int32} {tg vs : Nat → Int32} {kn : Nat → Nat} {an : Nat → Int32} {n : Nat} (ho : ∀ r, o r < 32) (hp : ∀ n, bt pr n = true ↔ ∃ r, r < c ∧ o r = n) (W : dp_WT kn an n) : ∀ i, i ≤ n → ∀ e, e < (dp_ty kn i).1 → dp_PI pr ((dp_ty kn i).2 e) (dp_vl c o l pr tg vs kn an i e)
  | 0, _, e, he => absurd he (Nat.not_lt_zero _)
  | i + 1, hi, e, he => by
    have ih := dp_vl_PI (l := l) (tg := tg) (vs := vs) ho hp W i (by omega)
    obtain ⟨w1, w2, w3⟩ := W i (by omega)
    have he' : e < (dp_ty kn i).1 - dp_tk (kn i) + 1 := he
    show dp_PI pr (if e = (dp_ty kn i).1 - dp_tk (kn i) then dp_gp (kn i) else (dp_ty kn i).2 e) ((if e = (dp_ty kn i).1 - dp_tk (kn i) then dp_op c o l pr tg vs (kn i) (an i) (dp_vl c o l pr tg vs kn an i ((dp_ty kn i).1 - dp_tk (kn i))) (dp_vl c o l pr tg vs kn an i ((dp_ty kn i).1 - dp_tk (kn i) + 1)) else dp_vl c o l pr tg vs kn an i e))
    by_cases z : e = (dp_ty kn i).1 - dp_tk (kn i)
    · rw [if_pos z, if_pos z]
      exact dp_op_PI ho hp w1 w2 ih
    · rw [if_neg z, if_neg z]
      exact ih e (by omega)
theorem dp_ty_congr {kn kn' : Nat → Nat} : ∀ {i : Nat}, (∀ j, j < i → kn j = kn' j) → dp_ty kn i = dp_ty kn' i
  | 0, _ => rfl
  | i + 1, h => by
    have e := dp_ty_congr (i := i) (fun j hj => h j (by omega))
    simp only [dp_ty]
    rw [e, h i (by omega)]
theorem dp_vl_congr {c : Nat} {o l : Nat → Nat} {pr : Int32} {tg vs : Nat → Int32} {kn kn' : Nat → Nat} {an an' : Nat → Int32} : ∀ {i : Nat}, (∀ j, j < i → kn j = kn' j) → (∀ j, j < i → an j = an' j) → dp_vl c o l pr tg vs kn an i = dp_vl c o l pr tg vs kn' an' i
  | 0, _, _ => rfl
  | i + 1, h, g => by
    have e := dp_vl_congr (c := c) (o := o) (l := l) (pr := pr) (tg := tg) (vs := vs) (i := i) (fun j hj => h j (by omega)) (fun j hj => g j (by omega))
    have e2 := dp_ty_congr (i := i) (fun j hj => h j (by omega))
    simp only [dp_vl]
    rw [e, e2, h i (by omega), g i (by omega)]
theorem dp_WT_congr {kn kn' : Nat → Nat} {an an' : Nat → Int32} {n : Nat} (h : ∀ j, j < n → kn j = kn' j) (g : ∀ j, j < n → an j = an' j) (W : dp_WT kn an n) : dp_WT kn' an' n := fun i hi => by
  have e1 := dp_ty_congr (i := i) (fun j hj => h j (by omega))
  have e2 := dp_ty_congr (i := i + 1) (fun j hj => h j (by omega))
  rw [← e1, ← e2, ← h i hi, ← g i hi]
  exact W i hi
end
section
/-! the tree's core: order, levels; what putting in and taking out make of it -/
theorem dp_WF_congr {l m : Nat → Nat} {c : Nat} (h : ∀ r, r < c → l r = m r) (W : dp_WF l c) : dp_WF m c := by
  obtain ⟨w1, w2, w3⟩ := W
  refine ⟨w1, by rw [← h 0 w1]; exact w2, fun r h0 hr => ?_⟩
  rw [← h r hr, ← h (r - 1) (by omega)]
  exact w3 r h0 hr
theorem dp_pa_congr {l m : Nat → Nat} {c r : Nat} (h : ∀ s, s < c → l s = m s) (W : dp_WF l c) (h0 : 0 < r) (hr : r < c) : dp_pa m r = dp_pa l r := by
  obtain ⟨⟨p1, p2, p3⟩, -⟩ := dp_wf_pa W h0 hr
  apply dp_pa_of
  refine ⟨p1, ?_, fun s h1 h2 => ?_⟩
  · rw [← h r hr, ← h _ (by omega)]; exact p2
  · rw [← h r hr, ← h s (by omega)]; exact p3 s h1 h2
theorem dp_Ed_congr {l m : Nat → Nat} {c r e : Nat} (h : ∀ s, s < c → l s = m s) (E : dp_Ed l c r e) : dp_Ed m c r e := by
  obtain ⟨e1, e2, e3, e4⟩ := E
  refine ⟨e1, e2, fun s h1 h2 => ?_, ?_⟩
  · rw [← h r (by omega), ← h s (by omega)]; exact e3 s h1 h2
  · rcases Nat.lt_or_ge e c with z | z
    · rw [← h r (by omega), ← h e z]; exact e4
    · exact Or.inl (by omega)
theorem dp_en_congr {l m : Nat → Nat} {c r : Nat} (h : ∀ s, s < c → l s = m s) (hr : r < c) : dp_en m c r = dp_en l c r := dp_en_of (dp_Ed_congr h (dp_en_spec l hr))
def dp_Tc (c : Nat) (o lv : Nat → Nat) : Prop := c ≤ 32 ∧ o 0 = 0 ∧ (∀ r, o r < 32) ∧ (∀ r s, r < c → s < c → o r = o s → r = s) ∧ dp_WF (fun r => lv (o r)) c
def dp_Ab (c : Nat) (o l : Nat → Nat) (ab : Nat → Int32) : Prop := ∀ r, r < c → ab (o r) = if r = 0 then -1 else nI (o (dp_pa l r))
theorem dp_rk_o {c : Nat} {o lv : Nat → Nat} (T : dp_Tc c o lv) {r : Nat} (hr : r < c) : dp_rk o (o r) c = r := dp_rk_at rfl hr (fun s hs e => T.2.2.2.1 s r hs hr e)
theorem dp_in_cases (f g : Nat → Nat) {c t k r : Nat} (ht : t ≤ c) (hr : r < c + k) : (r < t ∧ dp_in f t k g r = f r) ∨ (∃ i, i < k ∧ r = t + i ∧ dp_in f t k g r = g i) ∨ (∃ s, t ≤ s ∧ s < c ∧ r = s + k ∧ dp_in f t k g r = f s) := by
  rcases Nat.lt_or_ge r t with z | z
  · exact Or.inl ⟨z, dp_in_lo z⟩
  · rcases Nat.lt_or_ge r (t + k) with y | y
    · obtain ⟨i, rfl⟩ : ∃ i, r = t + i := ⟨r - t, by omega⟩
      exact Or.inr (Or.inl ⟨i, by omega, rfl, dp_in_mid (by omega)⟩)
    · obtain ⟨s, rfl⟩ : ∃ s, r = s + k := ⟨r - k, by omega⟩
      exact Or.inr (Or.inr ⟨s, by omega, by omega, rfl, dp_in_hi (by omega)⟩)
section SI
variable {c k p t : Nat} {o lv g o' lv' : Nat → Nat}
theorem dp_lv_in (ht : t ≤ c) (he : ∀ r, r < c + k → o' r = dp_in o t k g r) (hl : ∀ r, r < c → lv' (o r) = lv (o r)) {r : Nat} (hr : r < c + k) : dp_in (fun r => lv (o r)) t k (fun i => lv' (g i)) r = lv' (o' r) := by
  rw [he r hr]
  rcases dp_in_cases o g ht hr with ⟨h1, h2⟩ | ⟨i, h1, rfl, h2⟩ | ⟨s, h1, h3, rfl, h2⟩
  · rw [h2, dp_in_lo h1, hl r (by omega)]
  · rw [h2, dp_in_mid h1]
  · rw [h2, dp_in_hi h1, hl s h3]
theorem dp_Tc_in (T : dp_Tc c o lv) (G : dp_Gp (fun r => lv (o r)) c p t) (hk : 0 < k) (hc : c + k ≤ 32) (ho : ∀ r, o' r < 32) (he : ∀ r, r < c + k → o' r = dp_in o t k g r) (gi : ∀ i j, i < k → j < k → g i = g j → i = j) (gn : ∀ i r, i < k → r < c → g i ≠ o r) (hl : ∀ r, r < c → lv' (o r) = lv (o r)) (g0 : lv' (g 0) = lv (o p) + 1) (g1 : ∀ i, 0 < i → i < k → lv (o p) + 1 ≤ lv' (g i) ∧ lv' (g i) ≤ lv' (g (i - 1)) + 1) : dp_Tc (c + k) o' lv' := by
  obtain ⟨t1, t2, t3, t4, t5⟩ := T
  have ht := G.2.1
  have hpt := G.1
  refine ⟨hc, ?_, ho, fun r s hr hs e => ?_, ?_⟩
  · rw [he 0 (by omega), dp_in_lo (by omega)]; exact t2
  · rw [he r hr, he s hs] at e
    rcases dp_in_cases o g ht hr with ⟨h1, h2⟩ | ⟨i, h1, h3, h2⟩ | ⟨a, h1, h4, h3, h2⟩ <;> rcases dp_in_cases o g ht hs with ⟨m1, m2⟩ | ⟨j, m1, m3, m2⟩ | ⟨b, m1, m4, m3, m2⟩ <;> rw [h2, m2] at e
    · exact t4 r s (by omega) (by omega) e
    · exact absurd e.symm (gn j r m1 (by omega))
    · have := t4 r b (by omega) m4 e; omega
    · exact absurd e (gn i s h1 (by omega))
    · have := gi i j h1 m1 e; omega
    · exact absurd e (gn i b h1 m4)
    · have := t4 a s h4 (by omega) e; omega
    · exact absurd e.symm (gn j a m1 h4)
    · have := t4 a b h4 m4 e; omega
  · exact dp_WF_congr (fun r hr => dp_lv_in ht he hl hr) (dp_wf_in t5 G hk g0 g1)
theorem dp_Ab_in {ab ab' : Nat → Int32} (T : dp_Tc c o lv) (G : dp_Gp (fun r => lv (o r)) c p t) (hk : 0 < k) (he : ∀ r, r < c + k → o' r = dp_in o t k g r) (hl : ∀ r, r < c → lv' (o r) = lv (o r)) (g0 : lv' (g 0) = lv (o p) + 1) (g1 : ∀ i, 0 < i → i < k → lv (o p) + 1 ≤ lv' (g i) ∧ lv' (g i) ≤ lv' (g (i - 1)) + 1) (A : dp_Ab c o (fun r => lv (o r)) ab) (A1 : ∀ r, r < c → ab' (o r) = ab (o r)) (A2 : ab' (g 0) = nI (o p)) (A3 : ∀ i, 0 < i → i < k → ∃ j, dp_Pa (fun i => lv' (g i)) j i ∧ ab' (g i) = nI (g j)) : dp_Ab (c + k) o' (fun r => lv' (o' r)) ab' := by
  obtain ⟨t1, t2, t3, t4, t5⟩ := T
  have ht := G.2.1
  have hpt := G.1
  have gk : ∀ i, i < k → lv (o p) + 1 ≤ lv' (g i) := fun i hi => by
    rcases Nat.eq_zero_or_pos i with z | z
    · rw [z, g0]; exact Nat.le_refl _
    · exact (g1 i z hi).1
  have W := dp_wf_in (k := k) (g := fun i => lv' (g i)) t5 G hk g0 g1
  have ag : ∀ r, r < c + k → dp_in (fun r => lv (o r)) t k (fun i => lv' (g i)) r = lv' (o' r) := fun r hr => dp_lv_in ht he hl hr
  have pe : ∀ r, 0 < r → r < c + k → dp_pa (fun r => lv' (o' r)) r = dp_pa (dp_in (fun r => lv (o r)) t k (fun i => lv' (g i))) r := fun r h0 hr => dp_pa_congr ag W h0 hr
  intro r hr
  rcases dp_in_cases o g ht hr with ⟨h1, h2⟩ | ⟨i, h1, h3, h2⟩ | ⟨s, h1, h4, h3, h2⟩
  · rw [he r hr, h2, A1 r (by omega), A r (by omega)]
    by_cases z : r = 0
    · rw [if_pos z, if_pos z]
    · have pl := dp_wf_pl t5 (show 0 < r by omega) (by omega)
      rw [if_neg z, if_neg z, pe r (by omega) hr, dp_pa_in_lo t5 ht (by omega) h1, he _ (by omega), dp_in_lo (by omega)]
  · rw [he r hr, h2, if_neg (by omega), pe r (by omega) hr, h3]
    rcases Nat.eq_zero_or_pos i with z | z
    · subst z
      rw [A2, Nat.add_zero, dp_pa_in_top G hk g0, he p (by omega), dp_in_lo hpt]
    · obtain ⟨j, P, e⟩ := A3 i z h1
      have := P.1
      rw [e, dp_pa_in_mid h1 P, he (t + j) (by omega), dp_in_mid (by omega)]
  · have pl := dp_wf_pl t5 (show 0 < s by omega) h4
    rw [he r hr, h2, if_neg (by omega), A1 s h4, A s h4, if_neg (by omega), pe r (by omega) hr, h3, dp_pa_in_hi t5 G gk h1 h4]
    by_cases z : dp_pa (fun r => lv (o r)) s < t
    · rw [if_pos z, he _ (by omega), dp_in_lo z]
    · rw [if_neg z, he _ (by omega), dp_in_hi (by omega)]
theorem dp_in_mem (o g : Nat → Nat) (ht : t ≤ c) (n : Nat) : (∃ r, r < c + k ∧ dp_in o t k g r = n) ↔ ((∃ r, r < c ∧ o r = n) ∨ ∃ i, i < k ∧ g i = n) := by
  constructor
  · rintro ⟨r, hr, e⟩
    rcases dp_in_cases o g ht hr with ⟨h1, h2⟩ | ⟨i, h1, h3, h2⟩ | ⟨s, h1, h4, h3, h2⟩
    · exact Or.inl ⟨r, by omega, by rw [← h2]; exact e⟩
    · exact Or.inr ⟨i, h1, by rw [← h2]; exact e⟩
    · exact Or.inl ⟨s, h4, by rw [← h2]; exact e⟩
  · rintro (⟨r, h1, h2⟩ | ⟨i, h1, h2⟩)
    · rcases Nat.lt_or_ge r t with z | z
      · exact ⟨r, by omega, by rw [dp_in_lo z]; exact h2⟩
      · exact ⟨r + k, by omega, by rw [dp_in_hi z]; exact h2⟩
    · exact ⟨t + i, by omega, by rw [dp_in_mid h1]; exact h2⟩
end SI
section SO
variable {c k a : Nat} {o lv o' : Nat → Nat}
theorem dp_ot_cases (hr : ∀ r, r < c - k → o' r = dp_ot o a k r) {r : Nat} (h : r < c - k) : (r < a ∧ o' r = o r) ∨ (a ≤ r ∧ r + k < c ∧ o' r = o (r + k)) := by
  rcases Nat.lt_or_ge r a with z | z
  · exact Or.inl ⟨z, (hr r h).trans (dp_ot_lo z)⟩
  · exact Or.inr ⟨z, by omega, (hr r h).trans (dp_ot_hi z)⟩
theorem dp_lv_ot (he : ∀ r, r < c - k → o' r = dp_ot o a k r) {r : Nat} (h : r < c - k) : dp_ot (fun r => lv (o r)) a k r = lv (o' r) := by
  rcases dp_ot_cases he h with ⟨h1, h2⟩ | ⟨h1, h3, h2⟩
  · rw [h2, dp_ot_lo h1]
  · rw [h2, dp_ot_hi h1]
theorem dp_Tc_ot (T : dp_Tc c o lv) (ha : 0 < a) (E : dp_Ed (fun r => lv (o r)) c a (a + k)) (ho : ∀ r, o' r < 32) (he : ∀ r, r < c - k → o' r = dp_ot o a k r) : dp_Tc (c - k) o' lv := by
  obtain ⟨t1, t2, t3, t4, t5⟩ := T
  have e1 := E.1
  have e2 := E.2.1
  refine ⟨by omega, ?_, ho, fun r s hr hs e => ?_, ?_⟩
  · rw [he 0 (by omega), dp_ot_lo ha]; exact t2
  · rcases dp_ot_cases he hr with ⟨h1, h2⟩ | ⟨h1, h3, h2⟩ <;> rcases dp_ot_cases he hs with ⟨m1, m2⟩ | ⟨m1, m3, m2⟩ <;> rw [h2, m2] at e
    · exact t4 r s (by omega) (by omega) e
    · have := t4 r (s + k) (by omega) m3 e; omega
    · have := t4 (r + k) s h3 (by omega) e; omega
    · have := t4 (r + k) (s + k) h3 m3 e; omega
  · exact dp_WF_congr (fun r hr => dp_lv_ot he hr) (dp_wf_ot t5 ha E)
theorem dp_Ab_ot {ab : Nat → Int32} (T : dp_Tc c o lv) (ha : 0 < a) (E : dp_Ed (fun r => lv (o r)) c a (a + k)) (he : ∀ r, r < c - k → o' r = dp_ot o a k r) (A : dp_Ab c o (fun r => lv (o r)) ab) : dp_Ab (c - k) o' (fun r => lv (o' r)) ab := by
  obtain ⟨t1, t2, t3, t4, t5⟩ := T
  have e1 := E.1
  have e2 := E.2.1
  have W := dp_wf_ot t5 ha E
  have pe : ∀ r, 0 < r → r < c - k → dp_pa (fun r => lv (o' r)) r = dp_pa (dp_ot (fun r => lv (o r)) a k) r := fun r h0 hr => dp_pa_congr (fun r hr => dp_lv_ot he hr) W h0 hr
  intro r hr
  rcases dp_ot_cases he hr with ⟨h1, h2⟩ | ⟨h1, h3, h2⟩
  · rw [h2, A r (by omega)]
    by_cases z : r = 0
    · rw [if_pos z, if_pos z]
    · have pl := dp_wf_pl t5 (show 0 < r by omega) (by omega)
      rw [if_neg z, if_neg z, pe r (by omega) hr, dp_pa_ot_lo t5 (by omega) (by omega) h1, he _ (by omega), dp_ot_lo (by omega)]
  · have pl := dp_wf_pl t5 (show 0 < r + k by omega) h3
    rw [h2, A (r + k) h3, if_neg (by omega), if_neg (by omega), pe r (by omega) hr]
    rcases dp_pa_ot_hi t5 E h1 h3 with ⟨z, e⟩ | ⟨z, e⟩
    · rw [e, he _ (by omega), dp_ot_lo z]
    · rw [e, he _ (by omega), dp_ot_hi (by omega), Nat.sub_add_cancel (by omega)]
theorem dp_ot_mem (he : ∀ r, r < c - k → o' r = dp_ot o a k r) (hk : a + k ≤ c) (n : Nat) : (∃ r, r < c - k ∧ o' r = n) ↔ ∃ r, r < c ∧ (r < a ∨ a + k ≤ r) ∧ o r = n := by
  constructor
  · rintro ⟨r, hr, e⟩
    rcases dp_ot_cases he hr with ⟨h1, h2⟩ | ⟨h1, h3, h2⟩
    · exact ⟨r, by omega, Or.inl h1, by rw [← h2]; exact e⟩
    · exact ⟨r + k, h3, Or.inr (by omega), by rw [← h2]; exact e⟩
  · rintro ⟨r, h1, h2 | h2, e⟩
    · exact ⟨r, by omega, by rw [he r (by omega), dp_ot_lo h2]; exact e⟩
    · exact ⟨r - k, by omega, by rw [he _ (by omega), dp_ot_hi (by omega), Nat.sub_add_cancel (by omega)]; exact e⟩
end SO
/-! the arrays that the shifting loops leave -/
def dp_cl (o : Nat → Nat) (c a k : Nat) : Nat → Nat := fun j => if a ≤ j ∧ j + k < c then o (j + k) else o j
def dp_og (o : Nat → Nat) (c t k : Nat) : Nat → Nat := fun j => if t + k ≤ j ∧ j < c + k then o (j - k) else o j
def dp_fl (f : Nat → Nat) (t k : Nat) (g : Nat → Nat) : Nat → Nat := fun j => if t ≤ j ∧ j < t + k then g (j - t) else f j
theorem dp_cl_ot {o : Nat → Nat} {c a k r : Nat} (h : r < c - k) : dp_cl o c a k r = dp_ot o a k r := by
  unfold dp_cl dp_ot
  rcases Nat.lt_or_ge r a with z | z
  · rw [if_neg (by omega), if_pos z]
  · rw [if_pos (by omega), if_neg (by omega)]
theorem dp_fl_in {o g : Nat → Nat} {c t k r : Nat} (h : r < c + k) : dp_fl (dp_og o c t k) t k g r = dp_in o t k g r := by
  unfold dp_fl dp_og dp_in
  rcases Nat.lt_or_ge r t with z | z
  · rw [if_neg (by omega), if_neg (by omega), if_pos z]
  · rcases Nat.lt_or_ge r (t + k) with y | y
    · rw [if_pos (by omega), if_neg (by omega), if_pos y]
    · rw [if_neg (by omega), if_pos (by omega), if_neg (by omega), if_neg (by omega)]
theorem dp_cl_lt {o : Nat → Nat} {c a k : Nat} (h : ∀ r, o r < 32) : ∀ r, dp_cl o c a k r < 32 := fun r => by
  unfold dp_cl
  split
  · exact h _
  · exact h _
theorem dp_og_lt {o : Nat → Nat} {c t k : Nat} (h : ∀ r, o r < 32) : ∀ r, dp_og o c t k r < 32 := fun r => by
  unfold dp_og
  split
  · exact h _
  · exact h _
theorem dp_fl_lt {f g : Nat → Nat} {t k : Nat} (h : ∀ r, f r < 32) (hg : ∀ i, i < k → g i < 32) : ∀ r, dp_fl f t k g r < 32 := fun r => by
  unfold dp_fl
  split
  · exact hg _ (by omega)
  · exact h _
def dp_nu (f : Nat → Nat) (k x : Nat) : Nat → Nat := fun j => if j = k then x else f j
theorem dp_nu_s {f : Nat → Nat} {k x : Nat} : dp_nu f k x k = x := if_pos rfl
theorem dp_nu_n {f : Nat → Nat} {k x j : Nat} (h : j ≠ k) : dp_nu f k x j = f j := if_neg h
theorem dp_upd {f : Nat → Nat} {k x : Nat} : upd (fun j => nI (f j)) k (nI x) = fun j => nI (dp_nu f k x j) := by
  funext j
  show (if j = k then nI x else nI (f j)) = nI (if j = k then x else f j)
  split <;> rfl
theorem dp_cl_0 (o : Nat → Nat) (c a k : Nat) : dp_cl o (a + k) a k = o := by
  funext j
  unfold dp_cl
  rw [if_neg (by omega)]
theorem dp_cl_s {o : Nat → Nat} {a k r : Nat} (h : a + k ≤ r) (hk : 0 < k) : dp_nu (dp_cl o r a k) (r - k) (dp_cl o r a k r) = dp_cl o (r + 1) a k := by
  funext j
  have e : dp_cl o r a k r = o r := by
    unfold dp_cl
    rw [if_neg (by omega)]
  rw [e]
  unfold dp_nu dp_cl
  by_cases z : j = r - k
  · rw [if_pos z, if_pos (by omega), show j + k = r from by omega]
  · rw [if_neg z]
    by_cases y : a ≤ j ∧ j + k < r
    · rw [if_pos y, if_pos (by omega)]
    · rw [if_neg y, if_neg (by omega)]
/-- the opening loop, from above: cells from r + k on are moved -/
def dp_oh (o : Nat → Nat) (c k r : Nat) : Nat → Nat := fun j => if r + k ≤ j ∧ j < c + k then o (j - k) else o j
theorem dp_oh_0 (o : Nat → Nat) (c k : Nat) : dp_oh o c k c = o := by
  funext j
  unfold dp_oh
  rw [if_neg (by omega)]
theorem dp_oh_s {o : Nat → Nat} {c k r : Nat} (h : r < c) : dp_nu (dp_oh o c k (r + 1)) (r + k) (dp_oh o c k (r + 1) r) = dp_oh o c k r := by
  funext j
  have e : dp_oh o c k (r + 1) r = o r := by
    unfold dp_oh
    rw [if_neg (by omega)]
  rw [e]
  unfold dp_nu dp_oh
  by_cases z : j = r + k
  · rw [if_pos z, if_pos (by omega), show j - k = r from by omega]
  · rw [if_neg z]
    by_cases y : r + k ≤ j ∧ j < c + k
    · rw [if_pos y, if_pos (by omega)]
    · rw [if_neg y, if_neg (by omega)]
theorem dp_fl_0 (f : Nat → Nat) (t : Nat) (g : Nat → Nat) : dp_fl f t 0 g = f := by
  funext j
  unfold dp_fl
  rw [if_neg (by omega)]
theorem dp_fl_s {f g : Nat → Nat} {t i : Nat} : dp_nu (dp_fl f t i g) (t + i) (g i) = dp_fl f t (i + 1) g := by
  funext j
  unfold dp_nu dp_fl
  by_cases z : j = t + i
  · rw [if_pos z, if_pos (by omega), show j - t = i from by omega]
  · rw [if_neg z]
    by_cases y : t ≤ j ∧ j < t + i
    · rw [if_pos y, if_pos (by omega)]
    · rw [if_neg y, if_neg (by omega)]
theorem dp_fl_congr {f g g' : Nat → Nat} {t k : Nat} (h : ∀ i, i < k → g i = g' i) : dp_fl f t k g = dp_fl f t k g' := by
  funext j
  unfold dp_fl
  by_cases y : t ≤ j ∧ j < t + k
  · rw [if_pos y, if_pos y, h _ (by omega)]
  · rw [if_neg y, if_neg y]
end
section
/-! least free number, fresh numbers -/
def dp_lf (P : Nat → Bool) : Nat → Nat → Nat
  | 0, n => n
  | d + 1, n => if P n = true then dp_lf P d (n + 1) else n
theorem dp_lf_t {P : Nat → Bool} {d n : Nat} (h : P n = true) : dp_lf P (d + 1) n = dp_lf P d (n + 1) := if_pos h
theorem dp_lf_f {P : Nat → Bool} {d n : Nat} (h : ¬ P n = true) : dp_lf P (d + 1) n = n := if_neg h
theorem dp_lf_spec (P : Nat → Bool) : ∀ d n, n + d = 31 → (∃ i, n ≤ i ∧ i < 32 ∧ P i = false) → P (dp_lf P d n) = false ∧ dp_lf P d n < 32
  | 0, n, hn, ⟨i, h1, h2, h3⟩ => by
    obtain rfl : i = n := by omega
    exact ⟨h3, h2⟩
  | d + 1, n, hn, ⟨i, h1, h2, h3⟩ => by
    by_cases h : P n = true
    · rw [dp_lf_t h]
      refine dp_lf_spec P d (n + 1) (by omega) ⟨i, ?_, h2, h3⟩
      rcases Nat.lt_or_ge n i with z | z
      · exact z
      · rw [show i = n from by omega, h] at h3; cases h3
    · rw [dp_lf_f h]
      exact ⟨Bool.eq_false_iff.mpr h, by omega⟩
def dp_ln (pr : Int32) : Nat := dp_lf (bt pr) 31 0
theorem dp_ln_spec {pr : Int32} (h : dp_fc (bt pr) 32 < 32) : bt pr (dp_ln pr) = false ∧ dp_ln pr < 32 := by
  obtain ⟨i, h1, h2⟩ := dp_fc_ex h
  exact dp_lf_spec (bt pr) 31 0 rfl ⟨i, Nat.zero_le _, h1, h2⟩
theorem dp_fc_or {pr : Int32} {n : Nat} (hn : n < 32) (h : bt pr n = false) : dp_fc (bt (pr ||| dp_bo n)) 32 = dp_fc (bt pr) 32 + 1 := by
  rw [← dp_fc_set h hn]
  exact dp_fc_congr fun i _ => dp_bt_or pr hn i
theorem dp_fc_cl {pr : Int32} {n : Nat} (hn : n < 32) (h : bt pr n = true) : dp_fc (bt (pr &&& (dp_bo n ^^^ (-1)))) 32 + 1 = dp_fc (bt pr) 32 := by
  rw [← dp_fc_clr h hn]
  exact congrArg (· + 1) (dp_fc_congr fun i hi => dp_bt_clr pr hn hi)
def dp_ps (pr : Int32) : Nat → Int32
  | 0 => pr
  | i + 1 => dp_ps pr i ||| dp_bo (dp_ln (dp_ps pr i))
def dp_fn (pr : Int32) (i : Nat) : Nat := dp_ln (dp_ps pr i)
theorem dp_ps_fc {pr : Int32} {c k : Nat} (hc : dp_fc (bt pr) 32 = c) (hk : c + k ≤ 32) : ∀ i, i ≤ k → dp_fc (bt (dp_ps pr i)) 32 = c + i
  | 0, _ => hc
  | i + 1, hi => by
    have ih := dp_ps_fc hc hk i (by omega)
    obtain ⟨h1, h2⟩ := dp_ln_spec (pr := dp_ps pr i) (by omega)
    show dp_fc (bt (dp_ps pr i ||| dp_bo (dp_ln (dp_ps pr i)))) 32 = _
    rw [dp_fc_or h2 h1, ih]
    omega
theorem dp_fn_spec {pr : Int32} {c k : Nat} (hc : dp_fc (bt pr) 32 = c) (hk : c + k ≤ 32) {i : Nat} (hi : i < k) : bt (dp_ps pr i) (dp_fn pr i) = false ∧ dp_fn pr i < 32 := dp_ln_spec (by rw [dp_ps_fc hc hk i (by omega)]; omega)
theorem dp_ps_bt {pr : Int32} {c k : Nat} (hc : dp_fc (bt pr) 32 = c) (hk : c + k ≤ 32) (n : Nat) : ∀ i, i ≤ k → (bt (dp_ps pr i) n = true ↔ bt pr n = true ∨ ∃ j, j < i ∧ dp_fn pr j = n)
  | 0, _ => ⟨Or.inl, fun h => h.elim id (fun ⟨j, hj, _⟩ => absurd hj (Nat.not_lt_zero _))⟩
  | i + 1, hi => by
    have ih := dp_ps_bt hc hk n i (by omega)
    have h2 := (dp_fn_spec hc hk (i := i) (by omega)).2
    show bt (dp_ps pr i ||| dp_bo (dp_fn pr i)) n = true ↔ _
    rw [dp_bt_or _ h2, Bool.or_eq_true, ih, decide_eq_true_iff]
    constructor
    · rintro ((h | ⟨j, h, e⟩) | h)
      · exact Or.inl h
      · exact Or.inr ⟨j, by omega, e⟩
      · exact Or.inr ⟨i, by omega, h.symm⟩
    · rintro (h | ⟨j, h, e⟩)
      · exact Or.inl (Or.inl h)
      · rcases Nat.lt_or_ge j i with z | z
        · exact Or.inl (Or.inr ⟨j, z, e⟩)
        · obtain rfl : j = i := by omega
          exact Or.inr e.symm
theorem dp_fn_new {pr : Int32} {c k : Nat} (hc : dp_fc (bt pr) 32 = c) (hk : c + k ≤ 32) {i : Nat} (hi : i < k) : bt pr (dp_fn pr i) = false := by
  have h := (dp_fn_spec hc hk hi).1
  cases e : bt pr (dp_fn pr i)
  · rfl
  · rw [(dp_ps_bt hc hk _ i (by omega)).mpr (Or.inl e)] at h; cases h
theorem dp_fn_lt {pr : Int32} {c k : Nat} (hc : dp_fc (bt pr) 32 = c) (hk : c + k ≤ 32) {i j : Nat} (hi : i < k) (hj : j < i) : dp_fn pr i ≠ dp_fn pr j := by
  intro e
  have h := (dp_fn_spec hc hk hi).1
  rw [(dp_ps_bt hc hk _ i (by omega)).mpr (Or.inr ⟨j, hj, e.symm⟩)] at h; cases h
theorem dp_fn_inj {pr : Int32} {c k : Nat} (hc : dp_fc (bt pr) 32 = c) (hk : c + k ≤ 32) (i j : Nat) (hi : i < k) (hj : j < k) (e : dp_fn pr i = dp_fn pr j) : i = j := by
  rcases Nat.lt_trichotomy i j with z | z | z
  · exact absurd e.symm (dp_fn_lt hc hk hj z)
  · exact z
  · exact absurd e (dp_fn_lt hc hk hi z)
/-! which nodes are there, as an array of booleans -/
def dp_th (pr : Int32) : Nat → Int32 := fun n => dp_c (bt pr n)
theorem dp_th_set {pr : Int32} {n : Nat} (hn : n < 32) : upd (dp_th pr) n 1 = dp_th (pr ||| dp_bo n) := by
  funext j
  show (if j = n then 1 else dp_c (bt pr j)) = dp_c (bt (pr ||| dp_bo n) j)
  rw [dp_bt_or _ hn]
  by_cases z : j = n
  · rw [if_pos z, decide_eq_true z, Bool.or_true]; rfl
  · rw [if_neg z, decide_eq_false z, Bool.or_false]
theorem dp_th_clr {pr : Int32} {n : Nat} (hn : n < 32) : upd (dp_th pr) n 0 = dp_th (pr &&& (dp_bo n ^^^ (-1))) := by
  funext j
  show (if j = n then 0 else dp_c (bt pr j)) = dp_c (bt (pr &&& (dp_bo n ^^^ (-1))) j)
  rcases Nat.lt_or_ge j 32 with y | y
  · rw [dp_bt_clr _ hn y]
    by_cases z : j = n
    · rw [if_pos z, decide_eq_true z, Bool.not_true, Bool.and_false]; rfl
    · rw [if_neg z, decide_eq_false z, Bool.not_false, Bool.and_true]
  · rw [if_neg (by omega), b_big y, b_big y]
/-! the conditions on both sides -/
section SC
variable {c : Nat} {o : Nat → Nat} {pr : Int32}
theorem dp_mkfr {P Q : Nat → Bool} (ho : ∀ r, o r < 32) (hp : ∀ n, bt pr n = true ↔ ∃ r, r < c ∧ o r = n) (h : ∀ r, r < c → Q r = P (o r)) : dp_mk (fun n => bt pr n && P n) 32 = dp_fr o Q c := by
  apply b_ext
  intro i hi
  rw [dp_mk_32 _ hi, Bool.eq_iff_iff, dp_fr_bt o Q c (fun r _ => ho r), Bool.and_eq_true, hp]
  constructor
  · rintro ⟨⟨r, h1, h2⟩, h3⟩
    exact ⟨r, h1, h2, by rw [h r h1, h2]; exact h3⟩
  · rintro ⟨r, h1, h2, h3⟩
    exact ⟨⟨r, h1, h2⟩, by rw [← h2, ← h r h1]; exact h3⟩
theorem dp_not_mk (pr p : Int32) : dp_mk (fun x => bt pr x && !bt p x) 32 = pr &&& (p ^^^ (-1)) := by
  apply b_ext
  intro i hi
  rw [dp_mk_32 _ hi, b_and, dp_bt_not _ hi]
theorem dp_has_mk {p : Nat → Int32} {a : Int32} (h1 : dp_PP pr p) (ha : 1 ≤ a) : dp_mk (fun x => bt pr x && decide (a ≤ nI (dp_fc (bt (p x)) 32))) 32 = dp_mk (fun x => decide (a ≤ nI (dp_fc (bt (p x)) 32))) 32 := dp_mk_congr fun x hx => by
  cases e : bt pr x
  · rw [decide_eq_false (dp_has0 h1 ha hx e), Bool.and_false]
  · rw [Bool.true_and]
/-- a node's partners by value, as the component makes them -/
def dp_al (c : Nat) (o : Nat → Nat) (vs : Nat → Int32) (least most : Int32) : Int32 := dp_fr o (fun r => decide (least ≤ vs (o r) ∧ vs (o r) ≤ most)) c
theorem dp_al_tag {tg : Nat → Int32} {a : Int32} : dp_al c o tg a a = dp_fr o (fun r => decide (tg (o r) = a)) c := dp_fr_congr fun r _ => by
  by_cases h : tg (o r) = a
  · rw [decide_eq_true h, decide_eq_true (by rw [h]; exact ⟨Int32.le_refl _, Int32.le_refl _⟩)]
  · rw [decide_eq_false h, decide_eq_false (fun z => h (Int32.le_antisymm z.2 z.1))]
theorem dp_al_least {vs : Nat → Int32} {a m : Int32} (hm : ∀ n, vs n ≤ m) : dp_al c o vs a m = dp_fr o (fun r => decide (a ≤ vs (o r))) c := dp_fr_congr fun r _ => by
  by_cases h : a ≤ vs (o r)
  · rw [decide_eq_true h, decide_eq_true ⟨h, hm _⟩]
  · rw [decide_eq_false h, decide_eq_false (fun z => h z.1)]
def dp_ma (c : Nat) (o : Nat → Nat) (vs : Nat → Int32) (p q : Nat → Int32) (r x : Nat) : Bool := bt (p x) (o r) && decide ((q x &&& dp_al c o vs (vs (o r)) (vs (o r))) ≠ 0)
theorem dp_ma_mt {vs : Nat → Int32} {p q : Nat → Int32} (ho : ∀ r, o r < 32) (hp : ∀ n, bt pr n = true ↔ ∃ r, r < c ∧ o r = n) (h1 : dp_PP pr p) (h2 : dp_PP pr q) {x : Nat} (hx : x < 32) : dp_any (fun r => dp_ma c o vs p q r x) c = dp_mt vs (p x) (q x) := by
  rw [Bool.eq_iff_iff, dp_any_iff]
  unfold dp_mt
  rw [dp_any_iff]
  constructor
  · rintro ⟨r, hr, h⟩
    unfold dp_ma at h
    rw [Bool.and_eq_true, decide_eq_true_iff, dp_nz] at h
    obtain ⟨g1, z, hz, g2⟩ := h
    rw [b_and, Bool.and_eq_true, dp_al_tag, dp_fr_bt _ _ _ (fun r _ => ho r)] at g2
    obtain ⟨g2, s, hs, e, g3⟩ := g2
    refine ⟨o r, ho r, dp_any_iff.mpr ⟨z, hz, ?_⟩⟩
    rw [Bool.and_eq_true, Bool.and_eq_true, decide_eq_true_iff]
    rw [e, decide_eq_true_iff] at g3
    exact ⟨⟨g1, g2⟩, g3.symm⟩
  · rintro ⟨y, hy, h⟩
    obtain ⟨z, hz, h⟩ := dp_any_iff.mp h
    rw [Bool.and_eq_true, Bool.and_eq_true, decide_eq_true_iff] at h
    obtain ⟨⟨g1, g2⟩, g3⟩ := h
    obtain ⟨r, hr, rfl⟩ := (hp y).mp (h1 x hx y g1).2
    obtain ⟨s, hs, rfl⟩ := (hp z).mp (h2 x hx z g2).2
    refine ⟨r, hr, ?_⟩
    unfold dp_ma
    rw [Bool.and_eq_true, decide_eq_true_iff, dp_nz]
    refine ⟨g1, o s, hz, ?_⟩
    rw [b_and, Bool.and_eq_true, dp_al_tag, dp_fr_bt _ _ _ (fun r _ => ho r)]
    exact ⟨g2, s, hs, rfl, by rw [decide_eq_true_iff]; exact g3.symm⟩
end SC
/-! turning in place -/
def dp_sw (x y a b : Nat) : Prop := (a < x ∧ b < x) ∨ (a = x ∧ b < y) ∨ (b = x ∧ a < y)
/-- the bits while the component turns: R by rows, p as they were -/
def dp_Sw (p R : Nat → Int32) (x y : Nat) : Prop := ∀ a, a < 32 → ∀ b, b < 32 → (dp_sw x y a b → bt (R a) b = bt (p b) a) ∧ (¬ dp_sw x y a b → bt (R a) b = bt (p a) b)
theorem dp_Sw_0 (p : Nat → Int32) : dp_Sw p p 0 0 := fun a _ b _ => ⟨fun h => by unfold dp_sw at h; omega, fun _ => rfl⟩
theorem dp_Sw_row {p R : Nat → Int32} {x : Nat} (h : dp_Sw p R x x) : dp_Sw p R (x + 1) 0 := fun a ha b hb => by
  obtain ⟨h1, h2⟩ := h a ha b hb
  by_cases z : dp_sw x x a b
  · exact ⟨fun _ => h1 z, fun y => absurd (show dp_sw (x + 1) 0 a b by unfold dp_sw at z ⊢; omega) y⟩
  · refine ⟨fun y => ?_, fun _ => h2 z⟩
    have : a = b := by unfold dp_sw at y z; omega
    subst this
    exact h2 z
theorem dp_Sw_end {p R : Nat → Int32} (h : dp_Sw p R 32 0) {a : Nat} (ha : a < 32) : R a = dp_mk (fun y => bt (p y) a) 32 := by
  apply b_ext
  intro b hb
  rw [dp_mk_32 _ hb]
  exact (h a ha b hb).1 (Or.inl ⟨ha, hb⟩)
theorem dp_Sw_eq {p R : Nat → Int32} {x y : Nat} (h : dp_Sw p R x y) (hx : x < 32) (hy : y < x) (e : bt (R x) y = bt (R y) x) : dp_Sw p R x (y + 1) := fun a ha b hb => by
  have n1 : ¬ dp_sw x y x y := by unfold dp_sw; omega
  have n2 : ¬ dp_sw x y y x := by unfold dp_sw; omega
  rw [(h x hx y (by omega)).2 n1, (h y (by omega) x hx).2 n2] at e
  obtain ⟨h1, h2⟩ := h a ha b hb
  by_cases z : dp_sw x y a b
  · exact ⟨fun _ => h1 z, fun w => absurd (show dp_sw x (y + 1) a b by unfold dp_sw at z ⊢; omega) w⟩
  · refine ⟨fun w => ?_, fun _ => h2 z⟩
    have : (a = x ∧ b = y) ∨ (a = y ∧ b = x) := by unfold dp_sw at w z; omega
    rw [h2 z]
    rcases this with ⟨rfl, rfl⟩ | ⟨rfl, rfl⟩
    · exact e
    · exact e.symm
theorem dp_Sw_ne {p R R' : Nat → Int32} {x y : Nat} (h : dp_Sw p R x y) (hx : x < 32) (hy : y < x) (e : bt (R x) y ≠ bt (R y) x) (r1 : R' x = R x ^^^ dp_bo y) (r2 : R' y = R y ^^^ dp_bo x) (r3 : ∀ a, a < 32 → a ≠ x → a ≠ y → R' a = R a) : dp_Sw p R' x (y + 1) := fun a ha b hb => by
  have n1 : ¬ dp_sw x y x y := by unfold dp_sw; omega
  have n2 : ¬ dp_sw x y y x := by unfold dp_sw; omega
  have hxy := (h x hx y (by omega)).2 n1
  have hyx := (h y (by omega) x hx).2 n2
  have flip : ∀ s t : Bool, s ≠ t → (s ^^ true) = t := by decide
  have bits : bt (R' a) b = if (a = x ∧ b = y) ∨ (a = y ∧ b = x) then bt (R b) a else bt (R a) b := by
    by_cases ax : a = x
    · subst ax
      rw [r1, b_xor, dp_bo_bt (by omega)]
      by_cases z : b = y
      · subst z
        rw [if_pos (Or.inl ⟨rfl, rfl⟩), decide_eq_true rfl]
        exact flip _ _ e
      · rw [if_neg (by omega), decide_eq_false z, Bool.xor_false]
    · by_cases ay : a = y
      · subst ay
        rw [r2, b_xor, dp_bo_bt hx]
        by_cases z : b = x
        · subst z
          rw [if_pos (Or.inr ⟨rfl, rfl⟩), decide_eq_true rfl]
          exact flip _ _ (Ne.symm e)
        · rw [if_neg (by omega), decide_eq_false z, Bool.xor_false]
      · rw [r3 a ha ax ay, if_neg (by omega)]
  rw [bits]
  obtain ⟨h1, h2⟩ := h a ha b hb
  by_cases z : (a = x ∧ b = y) ∨ (a = y ∧ b = x)
  · rw [if_pos z]
    refine ⟨fun _ => ?_, fun w => absurd (show dp_sw x (y + 1) a b by unfold dp_sw; omega) w⟩
    rcases z with ⟨rfl, rfl⟩ | ⟨rfl, rfl⟩
    · exact hyx
    · exact hxy
  · rw [if_neg z]
    exact ⟨fun w => h1 (by unfold dp_sw at w ⊢; omega), fun w => h2 (fun u => w (by unfold dp_sw at u ⊢; omega))⟩
end
section
/-! a row of stores -/
def dp_fu (f : Nat → Nat) (m v : Nat → Nat) : Nat → Nat → Nat
  | 0 => f
  | i + 1 => dp_nu (dp_fu f m v i) (m i) (v i)
theorem dp_fu_at {f m v : Nat → Nat} {k : Nat} (hm : ∀ i j, i < k → j < k → m i = m j → i = j) : ∀ {i : Nat}, i ≤ k → ∀ {j : Nat}, j < i → dp_fu f m v i (m j) = v j
  | 0, _, j, h => absurd h (Nat.not_lt_zero _)
  | i + 1, hi, j, h => by
    show dp_nu (dp_fu f m v i) (m i) (v i) (m j) = v j
    by_cases z : j = i
    · subst z; exact dp_nu_s
    · rw [dp_nu_n (fun e => z (hm j i (by omega) (by omega) e))]
      exact dp_fu_at hm (by omega) (by omega)
theorem dp_fu_n {f m v : Nat → Nat} {n : Nat} : ∀ {i : Nat}, (∀ j, j < i → m j ≠ n) → dp_fu f m v i n = f n
  | 0, _ => rfl
  | i + 1, h => by
    show dp_nu (dp_fu f m v i) (m i) (v i) n = f n
    rw [dp_nu_n (fun e => h i (by omega) e.symm)]
    exact dp_fu_n (fun j hj => h j (by omega))
def dp_fU (f : Nat → Int32) (m : Nat → Nat) (v : Nat → Int32) : Nat → Nat → Int32
  | 0 => f
  | i + 1 => upd (dp_fU f m v i) (m i) (v i)
theorem dp_fU_at {f v : Nat → Int32} {m : Nat → Nat} {k : Nat} (hm : ∀ i j, i < k → j < k → m i = m j → i = j) : ∀ {i : Nat}, i ≤ k → ∀ {j : Nat}, j < i → dp_fU f m v i (m j) = v j
  | 0, _, j, h => absurd h (Nat.not_lt_zero _)
  | i + 1, hi, j, h => by
    show upd (dp_fU f m v i) (m i) (v i) (m j) = v j
    by_cases z : j = i
    · subst z; exact pk_us
    · rw [pk_un (fun e => z (hm j i (by omega) (by omega) e))]
      exact dp_fU_at hm (by omega) (by omega)
theorem dp_fU_n {f v : Nat → Int32} {m : Nat → Nat} {n : Nat} : ∀ {i : Nat}, (∀ j, j < i → m j ≠ n) → dp_fU f m v i n = f n
  | 0, _ => rfl
  | i + 1, h => by
    show upd (dp_fU f m v i) (m i) (v i) n = f n
    rw [pk_un (fun e => h i (by omega) e.symm)]
    exact dp_fU_n (fun j hj => h j (by omega))
theorem dp_fU_P {f v : Nat → Int32} {m : Nat → Nat} {P : Int32 → Prop} (hf : ∀ n, P (f n)) (hv : ∀ i, P (v i)) : ∀ i n, P (dp_fU f m v i n)
  | 0, n => hf n
  | i + 1, n => by
    show P (if n = m i then v i else dp_fU f m v i n)
    split
    · exact hv i
    · exact dp_fU_P hf hv i n
/-! the tree with its nodes -/
def dp_Tr (c : Nat) (o lv : Nat → Nat) (pr : Int32) : Prop := dp_Tc c o lv ∧ (∀ n, bt pr n = true ↔ ∃ r, r < c ∧ o r = n) ∧ dp_fc (bt pr) 32 = c
/-! the four edits of the shape -/
section SM
variable {c k p t a : Nat} {o lv : Nat → Nat} {pr : Int32} {ab : Nat → Int32}
theorem dp_inj_sub (T : dp_Tc c o lv) (hk : a + k ≤ c) : ∀ i j, i < k → j < k → o (a + i) = o (a + j) → i = j := fun i j hi hj e => by
  have := T.2.2.2.1 (a + i) (a + j) (by omega) (by omega) e
  omega
/-- the levels of a piece that is put below p -/
theorem dp_piece {lp : Nat} (T : dp_Tc c o lv) (E : dp_Ed (fun r => lv (o r)) c a (a + k)) : ∀ i, 0 < i → i < k → lp + 1 ≤ lv (o (a + i)) + lp + 1 - lv (o a) ∧ lv (o (a + i)) + lp + 1 - lv (o a) ≤ (lv (o (a + (i - 1))) + lp + 1 - lv (o a)) + 1 := fun i h0 hi => by
  have t5 := T.2.2.2.2
  obtain ⟨e1, e2, e3, e4⟩ := E
  have x := e3 (a + i) (by omega) (by omega)
  have y := (t5.2.2 (a + i) (by omega) (by omega)).2
  have z : lv (o a) ≤ lv (o (a + (i - 1))) := by
    rcases Nat.eq_zero_or_pos (i - 1) with w | w
    · rw [w]; exact Nat.le_refl _
    · have := e3 (a + (i - 1)) (by omega) (by omega)
      exact Nat.le_of_lt this
  rw [show a + i - 1 = a + (i - 1) from by omega] at y
  have x' : lv (o a) < lv (o (a + i)) := x
  have y' : lv (o (a + i)) ≤ lv (o (a + (i - 1))) + 1 := y
  omega
theorem dp_piece_pa {lp : Nat} {g : Nat → Nat} (T : dp_Tc c o lv) (E : dp_Ed (fun r => lv (o r)) c a (a + k)) (hg : ∀ i, i < k → g i = lv (o (a + i)) + lp + 1 - lv (o a)) {i : Nat} (h0 : 0 < i) (hi : i < k) : ∃ j, j < i ∧ dp_pa (fun r => lv (o r)) (a + i) = a + j ∧ dp_Pa g j i := by
  obtain ⟨j, hj, e, ⟨p1, p2, p3⟩, la⟩ := dp_pa_sub T.2.2.2.2 E h0 hi
  obtain ⟨e1, e2, e3, e4⟩ := E
  have ge : ∀ m, m < k → lv (o a) ≤ lv (o (a + m)) := fun m hm => by
    rcases Nat.eq_zero_or_pos m with w | w
    · rw [w]; exact Nat.le_refl _
    · exact Nat.le_of_lt (e3 (a + m) (by omega) (by omega))
  refine ⟨j, hj, e, hj, ?_, fun s h1 h2 => ?_⟩
  · rw [hg j (by omega), hg i hi]
    have p2' : lv (o (a + j)) < lv (o (a + i)) := p2
    have := ge j (by omega)
    omega
  · rw [hg s (by omega), hg i hi]
    have p3' : lv (o (a + i)) ≤ lv (o (a + s)) := p3 (a + s) (by omega) (by omega)
    have := ge s (by omega)
    omega
theorem dp_add_T (T : dp_Tr c o lv pr) (hc : c < 32) (G : dp_Gp (fun r => lv (o r)) c p t) : dp_Tr (c + 1) (dp_nu (dp_og o c t 1) t (dp_ln pr)) (dp_nu lv (dp_ln pr) (lv (o p) + 1)) (pr ||| dp_bo (dp_ln pr)) ∧ (dp_Ab c o (fun r => lv (o r)) ab → dp_Ab (c + 1) (dp_nu (dp_og o c t 1) t (dp_ln pr)) (fun r => dp_nu lv (dp_ln pr) (lv (o p) + 1) (dp_nu (dp_og o c t 1) t (dp_ln pr) r)) (upd ab (dp_ln pr) (nI (o p)))) := by
  obtain ⟨T, hp, hf⟩ := T
  obtain ⟨n1, n2⟩ := dp_ln_spec (pr := pr) (by omega)
  generalize dp_ln pr = n at *
  have fr : ∀ r, r < c → o r ≠ n := fun r hr e => by
    rw [(hp n).mpr ⟨r, hr, e⟩] at n1; cases n1
  have eq : dp_nu (dp_og o c t 1) t n = dp_fl (dp_og o c t 1) t 1 (fun _ => n) := by
    rw [← dp_fl_s, dp_fl_0, Nat.add_zero]
  have he : ∀ r, r < c + 1 → dp_nu (dp_og o c t 1) t n r = dp_in o t 1 (fun _ => n) r := fun r hr => by rw [eq]; exact dp_fl_in hr
  have ho : ∀ r, dp_nu (dp_og o c t 1) t n r < 32 := fun r => by rw [eq]; exact dp_fl_lt (dp_og_lt T.2.2.1) (fun _ _ => n2) r
  have hl : ∀ r, r < c → dp_nu lv n (lv (o p) + 1) (o r) = lv (o r) := fun r hr => dp_nu_n (fr r hr)
  have g0 : dp_nu lv n (lv (o p) + 1) n = lv (o p) + 1 := dp_nu_s
  have g1 : ∀ i, 0 < i → i < 1 → lv (o p) + 1 ≤ dp_nu lv n (lv (o p) + 1) ((fun _ => n) i) ∧ dp_nu lv n (lv (o p) + 1) ((fun _ => n) i) ≤ dp_nu lv n (lv (o p) + 1) ((fun _ => n) (i - 1)) + 1 := fun i h1 h2 => absurd h2 (by omega)
  refine ⟨⟨dp_Tc_in (g := fun _ => n) T G (by omega) (by omega) ho he (fun i j hi hj _ => by omega) (fun i r _ hr e => fr r hr e.symm) hl g0 g1, fun m => ?_, ?_⟩, fun A => ?_⟩
  · have e1 : (∃ r, r < c + 1 ∧ dp_nu (dp_og o c t 1) t n r = m) ↔ ∃ r, r < c + 1 ∧ dp_in o t 1 (fun _ => n) r = m := ⟨fun ⟨r, h1, h2⟩ => ⟨r, h1, by rw [← he r h1]; exact h2⟩, fun ⟨r, h1, h2⟩ => ⟨r, h1, by rw [he r h1]; exact h2⟩⟩
    rw [e1, dp_in_mem o (fun _ => n) G.2.1 m, dp_bt_or _ n2, Bool.or_eq_true, hp m, decide_eq_true_iff]
    exact ⟨fun h => h.elim Or.inl (fun e => Or.inr ⟨0, by omega, e.symm⟩), fun h => h.elim Or.inl (fun ⟨_, _, e⟩ => Or.inr e.symm)⟩
  · rw [dp_fc_or n2 n1, hf]
  · exact dp_Ab_in (g := fun _ => n) T G (by omega) he hl g0 g1 A (fun r hr => pk_un (fr r hr)) pk_us (fun i h1 h2 => absurd h2 (by omega))
/-- nodes taken off a set, one after the other -/
def dp_pc (o : Nat → Nat) (a : Nat) (pr : Int32) : Nat → Int32
  | 0 => pr
  | i + 1 => dp_pc o a pr i &&& (dp_bo (o (a + i)) ^^^ (-1))
theorem dp_pc_bt (ho : ∀ r, o r < 32) {n : Nat} (hn : n < 32) : ∀ i, (bt (dp_pc o a pr i) n = true ↔ bt pr n = true ∧ ∀ j, j < i → o (a + j) ≠ n)
  | 0 => ⟨fun h => ⟨h, fun j hj => absurd hj (Nat.not_lt_zero _)⟩, fun h => h.1⟩
  | i + 1 => by
    show bt (dp_pc o a pr i &&& (dp_bo (o (a + i)) ^^^ (-1))) n = true ↔ _
    rw [dp_bt_clr _ (ho _) hn, Bool.and_eq_true, dp_pc_bt ho hn i, Bool.not_eq_true', decide_eq_false_iff_not]
    constructor
    · rintro ⟨⟨h1, h2⟩, h3⟩
      refine ⟨h1, fun j hj => ?_⟩
      rcases Nat.lt_or_ge j i with z | z
      · exact h2 j z
      · rw [show j = i from by omega]; exact fun e => h3 e.symm
    · rintro ⟨h1, h2⟩
      exact ⟨⟨h1, fun j hj => h2 j (by omega)⟩, fun e => h2 i (by omega) e.symm⟩
theorem dp_pc_fc (ho : ∀ r, o r < 32) (hm : ∀ i j, i < k → j < k → o (a + i) = o (a + j) → i = j) (hb : ∀ i, i < k → bt pr (o (a + i)) = true) : ∀ i, i ≤ k → dp_fc (bt (dp_pc o a pr i)) 32 + i = dp_fc (bt pr) 32
  | 0, _ => rfl
  | i + 1, hi => by
    have ih := dp_pc_fc ho hm hb i (by omega)
    have h : bt (dp_pc o a pr i) (o (a + i)) = true := (dp_pc_bt ho (ho _) i).mpr ⟨hb i (by omega), fun j hj e => by have := hm j i (by omega) (by omega) e; omega⟩
    have := dp_fc_cl (ho (a + i)) h
    show dp_fc (bt (dp_pc o a pr i &&& (dp_bo (o (a + i)) ^^^ (-1)))) 32 + (i + 1) = _
    omega
theorem dp_rem_T (T : dp_Tr c o lv pr) (ha : 0 < a) (E : dp_Ed (fun r => lv (o r)) c a (a + k)) : dp_Tr (c - k) (dp_cl o c a k) lv (dp_pc o a pr k) ∧ (dp_Ab c o (fun r => lv (o r)) ab → dp_Ab (c - k) (dp_cl o c a k) (fun r => lv (dp_cl o c a k r)) ab) := by
  obtain ⟨T, hp, hf⟩ := T
  have e1 := E.1
  have e2 := E.2.1
  have he : ∀ r, r < c - k → dp_cl o c a k r = dp_ot o a k r := fun r hr => dp_cl_ot hr
  have hm := dp_inj_sub (k := k) (a := a) T e2
  refine ⟨⟨dp_Tc_ot T ha E (dp_cl_lt T.2.2.1) he, fun n => ?_, ?_⟩, fun A => dp_Ab_ot T ha E he A⟩
  · rw [dp_ot_mem he e2 n]
    constructor
    · intro h
      obtain ⟨h1, h2⟩ := (dp_pc_bt T.2.2.1 (dp_bt_lt h) k).mp h
      obtain ⟨r, hr, e⟩ := (hp n).mp h1
      refine ⟨r, hr, ?_, e⟩
      rcases Nat.lt_or_ge r a with z | z
      · exact Or.inl z
      · rcases Nat.lt_or_ge r (a + k) with y | y
        · exact absurd (by rw [show a + (r - a) = r from by omega]; exact e) (h2 (r - a) (by omega))
        · exact Or.inr y
    · rintro ⟨r, hr, hx, e⟩
      refine (dp_pc_bt T.2.2.1 (by rw [← e]; exact T.2.2.1 r) k).mpr ⟨(hp n).mpr ⟨r, hr, e⟩, fun j hj e3 => ?_⟩
      have := T.2.2.2.1 (a + j) r (by omega) hr (e3.trans e.symm)
      omega
  · have := dp_pc_fc (k := k) T.2.2.1 hm (fun i hi => (hp _).mpr ⟨a + i, by omega, rfl⟩) k (Nat.le_refl _)
    omega
/-- copying: numbers m, levels by a row of stores -/
theorem dp_cp_T (T : dp_Tr c o lv pr) (hc : c + k ≤ 32) (G : dp_Gp (fun r => lv (o r)) c p t) (E : dp_Ed (fun r => lv (o r)) c a (a + k)) : dp_Tr (c + k) (dp_fl (dp_og o c t k) t k (dp_fn pr)) (dp_fu lv (dp_fn pr) (fun i => lv (o (a + i)) + lv (o p) + 1 - lv (o a)) k) (dp_ps pr k) ∧ (∀ ab', dp_Ab c o (fun r => lv (o r)) ab → (∀ r, r < c → ab' (o r) = ab (o r)) → ab' (dp_fn pr 0) = nI (o p) → (∀ i j, 0 < i → i < k → dp_pa (fun r => lv (o r)) (a + i) = a + j → ab' (dp_fn pr i) = nI (dp_fn pr j)) → dp_Ab (c + k) (dp_fl (dp_og o c t k) t k (dp_fn pr)) (fun r => dp_fu lv (dp_fn pr) (fun i => lv (o (a + i)) + lv (o p) + 1 - lv (o a)) k (dp_fl (dp_og o c t k) t k (dp_fn pr) r)) ab') := by
  obtain ⟨T, hp, hf⟩ := T
  have e1 := E.1
  have e2 := E.2.1
  have hk : 0 < k := by omega
  have fr : ∀ i r, i < k → r < c → dp_fn pr i ≠ o r := fun i r hi hr e => by
    have := dp_fn_new hf hc hi
    rw [(hp _).mpr ⟨r, hr, e.symm⟩] at this; cases this
  have hm := dp_fn_inj (pr := pr) hf hc
  have he : ∀ r, r < c + k → dp_fl (dp_og o c t k) t k (dp_fn pr) r = dp_in o t k (dp_fn pr) r := fun r hr => dp_fl_in hr
  have ho : ∀ r, dp_fl (dp_og o c t k) t k (dp_fn pr) r < 32 := dp_fl_lt (dp_og_lt T.2.2.1) (fun i hi => (dp_fn_spec hf hc hi).2)
  have la : ∀ i, i < k → dp_fu lv (dp_fn pr) (fun i => lv (o (a + i)) + lv (o p) + 1 - lv (o a)) k (dp_fn pr i) = lv (o (a + i)) + lv (o p) + 1 - lv (o a) := fun i hi => dp_fu_at hm (Nat.le_refl _) hi
  have hl : ∀ r, r < c → dp_fu lv (dp_fn pr) (fun i => lv (o (a + i)) + lv (o p) + 1 - lv (o a)) k (o r) = lv (o r) := fun r hr => dp_fu_n (fun j hj => fr j r hj hr)
  generalize dp_fu lv (dp_fn pr) (fun i => lv (o (a + i)) + lv (o p) + 1 - lv (o a)) k = lw at *
  have g0 : lw (dp_fn pr 0) = lv (o p) + 1 := by
    have q := la 0 hk
    simp only [Nat.add_zero] at q ⊢
    omega
  have g1 : ∀ i, 0 < i → i < k → lv (o p) + 1 ≤ lw (dp_fn pr i) ∧ lw (dp_fn pr i) ≤ lw (dp_fn pr (i - 1)) + 1 := fun i h0 hi => by
    rw [la i hi, la (i - 1) (by omega)]
    exact dp_piece T E i h0 hi
  refine ⟨⟨dp_Tc_in T G hk hc ho he hm fr hl g0 g1, fun n => ?_, dp_ps_fc hf hc k (Nat.le_refl _)⟩, fun ab' A A1 A2 A3 => ?_⟩
  · have e1 : (∃ r, r < c + k ∧ dp_fl (dp_og o c t k) t k (dp_fn pr) r = n) ↔ ∃ r, r < c + k ∧ dp_in o t k (dp_fn pr) r = n := ⟨fun ⟨r, h1, h2⟩ => ⟨r, h1, by rw [← he r h1]; exact h2⟩, fun ⟨r, h1, h2⟩ => ⟨r, h1, by rw [he r h1]; exact h2⟩⟩
    rw [e1, dp_in_mem o (dp_fn pr) G.2.1 n, dp_ps_bt hf hc n k (Nat.le_refl _), hp n]
  · refine dp_Ab_in T G hk he hl g0 g1 A A1 A2 (fun i h0 hi => ?_)
    obtain ⟨j, hj, e, P⟩ := dp_piece_pa (lp := lv (o p)) (g := fun i => lw (dp_fn pr i)) T E la h0 hi
    exact ⟨j, P, A3 i j h0 hi e⟩
/-- moving: o1 the order without the piece, p and t ranks there -/
theorem dp_mv_T (T : dp_Tr c o lv pr) (ha : 0 < a) (E : dp_Ed (fun r => lv (o r)) c a (a + k)) (G : dp_Gp (fun r => lv (dp_cl o c a k r)) (c - k) p t) : dp_Tr c (dp_fl (dp_og (dp_cl o c a k) (c - k) t k) t k (fun i => o (a + i))) (dp_fu lv (fun i => o (a + i)) (fun i => lv (o (a + i)) + lv (dp_cl o c a k p) + 1 - lv (o a)) k) pr ∧ (dp_Ab c o (fun r => lv (o r)) ab → dp_Ab c (dp_fl (dp_og (dp_cl o c a k) (c - k) t k) t k (fun i => o (a + i))) (fun r => dp_fu lv (fun i => o (a + i)) (fun i => lv (o (a + i)) + lv (dp_cl o c a k p) + 1 - lv (o a)) k (dp_fl (dp_og (dp_cl o c a k) (c - k) t k) t k (fun i => o (a + i)) r)) (upd ab (o a) (nI (dp_cl o c a k p)))) := by
  obtain ⟨T, hp, hf⟩ := T
  have e1 := E.1
  have e2 := E.2.1
  have hk : 0 < k := by omega
  have he1 : ∀ r, r < c - k → dp_cl o c a k r = dp_ot o a k r := fun r hr => dp_cl_ot hr
  have T1 := dp_Tc_ot T ha E (dp_cl_lt T.2.2.1) he1
  have A1 := fun A : dp_Ab c o (fun r => lv (o r)) ab => dp_Ab_ot T ha E he1 A
  have mem := dp_ot_mem he1 e2
  generalize dp_cl o c a k = o1 at *
  generalize hd : c - k = d at *
  obtain rfl : c = d + k := by omega
  have hm := dp_inj_sub (k := k) (a := a) T e2
  have fr : ∀ i r, i < k → r < d → o (a + i) ≠ o1 r := fun i r hi hr e => by
    obtain ⟨s, h1, h2, h3⟩ := (mem (o1 r)).mp ⟨r, hr, rfl⟩
    have := T.2.2.2.1 s (a + i) h1 (by omega) (h3.trans e.symm)
    omega
  have he : ∀ r, r < d + k → dp_fl (dp_og o1 d t k) t k (fun i => o (a + i)) r = dp_in o1 t k (fun i => o (a + i)) r := fun r hr => dp_fl_in hr
  have ho : ∀ r, dp_fl (dp_og o1 d t k) t k (fun i => o (a + i)) r < 32 := dp_fl_lt (dp_og_lt T1.2.2.1) (fun i hi => T.2.2.1 _)
  have la : ∀ i, i < k → dp_fu lv (fun i => o (a + i)) (fun i => lv (o (a + i)) + lv (o1 p) + 1 - lv (o a)) k (o (a + i)) = lv (o (a + i)) + lv (o1 p) + 1 - lv (o a) := fun i hi => dp_fu_at (m := fun i => o (a + i)) hm (Nat.le_refl _) hi
  have hl : ∀ r, r < d → dp_fu lv (fun i => o (a + i)) (fun i => lv (o (a + i)) + lv (o1 p) + 1 - lv (o a)) k (o1 r) = lv (o1 r) := fun r hr => dp_fu_n (fun j hj => fr j r hj hr)
  generalize dp_fu lv (fun i => o (a + i)) (fun i => lv (o (a + i)) + lv (o1 p) + 1 - lv (o a)) k = lw at *
  have g0 : lw (o (a + 0)) = lv (o1 p) + 1 := by
    have q := la 0 hk
    simp only [Nat.add_zero] at q ⊢
    omega
  have g1 : ∀ i, 0 < i → i < k → lv (o1 p) + 1 ≤ lw (o (a + i)) ∧ lw (o (a + i)) ≤ lw (o (a + (i - 1))) + 1 := fun i h0 hi => by
    rw [la i hi, la (i - 1) (by omega)]
    exact dp_piece T E i h0 hi
  refine ⟨⟨dp_Tc_in (g := fun i => o (a + i)) T1 G hk T.1 ho he hm fr hl g0 g1, fun n => ?_, hf⟩, fun A => ?_⟩
  · have e1 : (∃ r, r < d + k ∧ dp_fl (dp_og o1 d t k) t k (fun i => o (a + i)) r = n) ↔ ∃ r, r < d + k ∧ dp_in o1 t k (fun i => o (a + i)) r = n := ⟨fun ⟨r, h1, h2⟩ => ⟨r, h1, by rw [← he r h1]; exact h2⟩, fun ⟨r, h1, h2⟩ => ⟨r, h1, by rw [he r h1]; exact h2⟩⟩
    rw [e1, dp_in_mem o1 (fun i => o (a + i)) G.2.1 n, mem n, hp n]
    constructor
    · rintro ⟨r, h1, h2⟩
      rcases Nat.lt_or_ge r a with z | z
      · exact Or.inl ⟨r, h1, Or.inl z, h2⟩
      · rcases Nat.lt_or_ge r (a + k) with y | y
        · exact Or.inr ⟨r - a, by omega, by rw [show a + (r - a) = r from by omega]; exact h2⟩
        · exact Or.inl ⟨r, h1, Or.inr y, h2⟩
    · rintro (⟨r, h1, -, h2⟩ | ⟨i, h1, h2⟩)
      · exact ⟨r, h1, h2⟩
      · exact ⟨a + i, by omega, h2⟩
  · refine dp_Ab_in (g := fun i => o (a + i)) T1 G hk he hl g0 g1 (A1 A) (fun r hr => pk_un (fun e => fr 0 r hk hr (by rw [Nat.add_zero]; exact e.symm))) (by rw [Nat.add_zero]; exact pk_us) (fun i h0 hi => ?_)
    obtain ⟨j, hj, e, P⟩ := dp_piece_pa (lp := lv (o1 p)) (g := fun i => lw (o (a + i))) T E la h0 hi
    refine ⟨j, P, ?_⟩
    rw [pk_un (fun e => by have := T.2.2.2.1 (a + i) a (by omega) (by omega) e; omega), A (a + i) (by omega), if_neg (by omega), e]
end SM
end
section
/-! how the two sides hold the entries -/
def dp_ag (R R' : Nat → Int32) (e : Nat) : Prop := ∀ j, j < 32 * e ∨ 32 * e + 32 ≤ j → R' j = R j
section SR
variable {c : Nat} {o l : Nat → Nat} {pr : Int32} {tg vs : Nat → Int32} {kn : Nat → Nat} {an : Nat → Int32} {i e : Nat}
def dp_XR (c : Nat) (o l : Nat → Nat) (pr : Int32) (tg vs : Nat → Int32) (kn : Nat → Nat) (an : Nat → Int32) (i : Nat) (rows mem : Nat → Int32) : Prop := ∀ e, e < (dp_ty kn i).1 → ((dp_ty kn i).2 e = true → ∀ x, x < 32 → rows (32 * e + x) = dp_vl c o l pr tg vs kn an i e x) ∧ ((dp_ty kn i).2 e = false → mem e = dp_vl c o l pr tg vs kn an i e 0)
def dp_YR (c : Nat) (o l : Nat → Nat) (pr : Int32) (tg vs : Nat → Int32) (kn : Nat → Nat) (an : Nat → Int32) (i : Nat) (rows isP : Nat → Int32) : Prop := ∀ e, e < (dp_ty kn i).1 → isP e = dp_c ((dp_ty kn i).2 e) ∧ ∀ x, x < 32 → rows (32 * e + x) = dp_vl c o l pr tg vs kn an i e x
theorem dp_ty_h (kn : Nat → Nat) (i : Nat) : (dp_ty kn (i + 1)).1 = (dp_ty kn i).1 - dp_tk (kn i) + 1 := rfl
theorem dp_ty_at (he : (dp_ty kn i).1 - dp_tk (kn i) = e) : (dp_ty kn (i + 1)).2 e = dp_gp (kn i) := if_pos he.symm
theorem dp_ty_ne (he : (dp_ty kn i).1 - dp_tk (kn i) = e) {j : Nat} (h : j ≠ e) : (dp_ty kn (i + 1)).2 j = (dp_ty kn i).2 j := if_neg (by rw [he]; exact h)
theorem dp_vl_at (he : (dp_ty kn i).1 - dp_tk (kn i) = e) : dp_vl c o l pr tg vs kn an (i + 1) e = dp_op c o l pr tg vs (kn i) (an i) (dp_vl c o l pr tg vs kn an i e) (dp_vl c o l pr tg vs kn an i (e + 1)) := by
  subst he
  exact if_pos rfl
theorem dp_vl_ne (he : (dp_ty kn i).1 - dp_tk (kn i) = e) {j : Nat} (h : j ≠ e) : dp_vl c o l pr tg vs kn an (i + 1) j = dp_vl c o l pr tg vs kn an i j := if_neg (by rw [he]; exact h)
theorem dp_XR_path {rows rows' mem : Nat → Int32} (he : (dp_ty kn i).1 - dp_tk (kn i) = e) (hg : dp_gp (kn i) = true) (H : dp_XR c o l pr tg vs kn an i rows mem) (ag : dp_ag rows rows' e) (hr : ∀ x, x < 32 → rows' (32 * e + x) = dp_op c o l pr tg vs (kn i) (an i) (dp_vl c o l pr tg vs kn an i e) (dp_vl c o l pr tg vs kn an i (e + 1)) x) : dp_XR c o l pr tg vs kn an (i + 1) rows' mem := by
  intro j hj
  rw [dp_ty_h, he] at hj
  by_cases z : j = e
  · subst z
    rw [dp_ty_at he, dp_vl_at he, hg]
    exact ⟨fun _ => hr, fun h => by cases h⟩
  · rw [dp_ty_ne he z, dp_vl_ne he z]
    obtain ⟨h1, h2⟩ := H j (by omega)
    exact ⟨fun h x hx => by rw [ag _ (Or.inl (by omega))]; exact h1 h x hx, h2⟩
theorem dp_XR_cond {rows mem : Nat → Int32} {s : Int32} (he : (dp_ty kn i).1 - dp_tk (kn i) = e) (hg : dp_gp (kn i) = false) (H : dp_XR c o l pr tg vs kn an i rows mem) (hs : s = dp_op c o l pr tg vs (kn i) (an i) (dp_vl c o l pr tg vs kn an i e) (dp_vl c o l pr tg vs kn an i (e + 1)) 0) : dp_XR c o l pr tg vs kn an (i + 1) rows (upd mem e s) := by
  intro j hj
  rw [dp_ty_h, he] at hj
  by_cases z : j = e
  · subst z
    rw [dp_ty_at he, dp_vl_at he, hg]
    exact ⟨fun h => (by cases h), fun _ => by rw [pk_us]; exact hs⟩
  · rw [dp_ty_ne he z, dp_vl_ne he z]
    obtain ⟨h1, h2⟩ := H j (by omega)
    exact ⟨h1, fun h => by rw [pk_un z]; exact h2 h⟩
theorem dp_YR_step {rows rows' isP isP' : Nat → Int32} (he : (dp_ty kn i).1 - dp_tk (kn i) = e) (H : dp_YR c o l pr tg vs kn an i rows isP) (ag : dp_ag rows rows' e) (hr : ∀ x, x < 32 → rows' (32 * e + x) = dp_op c o l pr tg vs (kn i) (an i) (dp_vl c o l pr tg vs kn an i e) (dp_vl c o l pr tg vs kn an i (e + 1)) x) (hi : isP' e = dp_c (dp_gp (kn i))) (hn : ∀ j, j < e → isP' j = isP j) : dp_YR c o l pr tg vs kn an (i + 1) rows' isP' := by
  intro j hj
  rw [dp_ty_h, he] at hj
  by_cases z : j = e
  · subst z
    rw [dp_ty_at he, dp_vl_at he]
    exact ⟨hi, hr⟩
  · rw [dp_ty_ne he z, dp_vl_ne he z]
    obtain ⟨h1, h2⟩ := H j (by omega)
    exact ⟨by rw [hn j (by omega)]; exact h1, fun x hx => by rw [ag _ (Or.inl (by omega))]; exact h2 x hx⟩
end SR
/-! one entry's rows while they are made anew -/
def dp_In (R : Nat → Int32) (e : Nat) (F : Nat → Int32) (R' : Nat → Int32) : Prop := dp_ag R R' e ∧ ∀ a, a < 32 → R' (32 * e + a) = F a
def dp_mx (x : Nat) (f p : Nat → Int32) : Nat → Int32 := fun a => if a < x then f a else p a
theorem dp_mx_lo {x a : Nat} {f p : Nat → Int32} (h : a < x) : dp_mx x f p a = f a := if_pos h
theorem dp_mx_hi {x a : Nat} {f p : Nat → Int32} (h : x ≤ a) : dp_mx x f p a = p a := if_neg (by omega)
theorem dp_ag_upd {R R' : Nat → Int32} {e y : Nat} {v : Int32} (h : dp_ag R R' e) (hy : y < 32) : dp_ag R (upd R' (32 * e + y) v) e := fun j hj => by rw [pk_un (by omega)]; exact h j hj
theorem dp_In_upd {R R' F F' : Nat → Int32} {e y : Nat} {v : Int32} (h : dp_In R e F R') (hy : y < 32) (hv : F' y = v) (hn : ∀ a, a < 32 → a ≠ y → F' a = F a) : dp_In R e F' (upd R' (32 * e + y) v) := ⟨dp_ag_upd h.1 hy, fun a ha => by
  by_cases z : a = y
  · subst z; rw [pk_us, hv]
  · rw [pk_un (by omega), h.2 a ha, hn a ha z]⟩
theorem dp_In_0 {R p f : Nat → Int32} {e : Nat} (h : ∀ a, a < 32 → R (32 * e + a) = p a) : dp_In R e (dp_mx 0 f p) R := ⟨fun _ _ => rfl, fun a ha => by rw [dp_mx_hi (Nat.zero_le _)]; exact h a ha⟩
theorem dp_In_s {R R' f p : Nat → Int32} {e x : Nat} {v : Int32} (h : dp_In R e (dp_mx x f p) R') (hx : x < 32) (hv : v = f x) : dp_In R e (dp_mx (x + 1) f p) (upd R' (32 * e + x) v) := dp_In_upd h hx (by rw [dp_mx_lo (by omega), hv]) (fun a _ hn => by
  rcases Nat.lt_or_ge a x with z | z
  · rw [dp_mx_lo z, dp_mx_lo (by omega)]
  · rw [dp_mx_hi z, dp_mx_hi (by omega)])
theorem dp_In_k {R R' f p : Nat → Int32} {e x : Nat} (h : dp_In R e (dp_mx x f p) R') (hv : p x = f x) : dp_In R e (dp_mx (x + 1) f p) R' := ⟨h.1, fun a ha => by
  rw [h.2 a ha]
  rcases Nat.lt_trichotomy a x with z | z | z
  · rw [dp_mx_lo z, dp_mx_lo (by omega)]
  · subst z; rw [dp_mx_hi (Nat.le_refl _), dp_mx_lo (by omega), hv]
  · rw [dp_mx_hi (by omega), dp_mx_hi (by omega)]⟩
theorem dp_In_32 {R R' f p : Nat → Int32} {e : Nat} (h : dp_In R e (dp_mx 32 f p) R') : dp_ag R R' e ∧ ∀ a, a < 32 → R' (32 * e + a) = f a := ⟨h.1, fun a ha => by rw [h.2 a ha, dp_mx_lo ha]⟩
theorem dp_In_nx {R R' F : Nat → Int32} {e a : Nat} (h : dp_In R e F R') : R' (32 * e + 32 + a) = R (32 * e + 32 + a) := h.1 _ (Or.inr (by omega))
theorem dp_ag_trans {R R' R'' : Nat → Int32} {e : Nat} (h : dp_ag R R' e) (g : dp_ag R' R'' e) : dp_ag R R'' e := fun j hj => (g j hj).trans (h j hj)
/-! indices -/
theorem dp_m32 (e : Nat) : nI e * 32 = nI (32 * e) := (pk_mul e 32).trans (by rw [Nat.mul_comm])
theorem dp_32m (e : Nat) : (32 : Int32) * nI e = nI (32 * e) := pk_mul 32 e
theorem dp_24m (e : Nat) : (24 : Int32) * nI e = nI (24 * e) := pk_mul 24 e
theorem dp_m24 (e : Nat) : nI e * 24 = nI (24 * e) := (pk_mul e 24).trans (by rw [Nat.mul_comm])
end
section
/-! the relation -/
def dp_TX (c : Nat) (o l : Nat → Nat) (ranks ends parents : Nat → Int32) : Prop := (∀ r, r < c → ranks (o r) = nI r ∧ ends (o r) = nI (dp_en l c r)) ∧ dp_Ab c o l parents
def dp_px (w : Nat) : Nat := if w = 0 then 3 else w - 1
def dp_kn (K : Nat → Nat) (w : Nat) : Nat → Nat := fun i => K (24 * w + i)
def dp_am (A : Nat → Int32) (w : Nat) : Nat → Int32 := fun i => A (24 * w + i)
def dp_Pg (K N : Nat → Nat) (A kx ax lx : Nat → Int32) : Prop := ∀ w, w < 4 → N w ≤ 24 ∧ dp_WT (dp_kn K w) (dp_am A w) (N w) ∧ lx (dp_px w) = nI (N w) ∧ ∀ i, i < N w → kx (24 * dp_px w + i) = nI (K (24 * w + i)) ∧ ax (24 * dp_px w + i) = A (24 * w + i)
def dp_hq (K N : Nat → Nat) (w : Nat) : Nat := (dp_ty (dp_kn K w) (N w)).1
def dp_Fq (K N : Nat → Nat) (w : Nat) : Nat → Bool := (dp_ty (dp_kn K w) (N w)).2
def dp_Qs (K N : Nat → Nat) (h : Int32) (isp : Nat → Int32) : Prop := h = nI (dp_hq K N 0) ∧ ∀ e, e < dp_hq K N 0 → isp e = dp_c (dp_Fq K N 0 e)
def dp_sv (c : Nat) (o l : Nat → Nat) (pr : Int32) (tg vs : Nat → Int32) (K N : Nat → Nat) (A : Nat → Int32) (w n : Nat) : Int32 := dp_vl c o l pr tg vs (dp_kn K w) (dp_am A w) (N w) (dp_hq K N w - 1) n
/-- slot s: set, alive, edited; the component's node, selection, selection before; the reference's node and selection before -/
def dp_Ws (c : Nat) (o l : Nat → Nat) (pr : Int32) (tg vs : Nat → Int32) (K N : Nat → Nat) (A : Nat → Int32) (s : Nat) (S al ed xw xs xb yw yb : Int32) : Prop :=
  (S = 0 ∨ S = 1) ∧ (ed = 0 ∨ ed = 1) ∧
  ((al = 0 ∧ xw = -1 ∧ xs = 0) ∨ (al = 1 ∧ S = 1 ∧ 0 < dp_hq K N (s + 1) ∧ dp_Fq K N (s + 1) (dp_hq K N (s + 1) - 1) = true ∧ ∃ w, bt pr w = true ∧ xw = nI w ∧ yw = nI w ∧ xs = dp_sv c o l pr tg vs K N A (s + 1) w)) ∧
  (S = 1 ∧ ed = 1 → xb = yb) ∧ (¬ (S = 1 ∧ ed = 1) → xb = xs)
def dp_Wa (c : Nat) (o l : Nat → Nat) (pr : Int32) (tg vs : Nat → Int32) (K N : Nat → Nat) (A S al ed xw xs xb yw yb : Nat → Int32) : Prop := ∀ s, s < 3 → dp_Ws c o l pr tg vs K N A s (S s) (al s) (ed s) (xw s) (xs s) (xb s) (yw s) (yb s)
def dp_Re (c : Nat) (o lv : Nat → Nat) (pr : Int32) (tg vs : Nat → Int32) (K N : Nat → Nat) (A S ranks ends parents kx ax lx isp above al ed xw xs xb yw yb : Nat → Int32) (h : Int32) : Prop :=
  dp_Tr c o lv pr ∧ (∀ n, vs n ≤ 99) ∧ dp_TX c o (fun r => lv (o r)) ranks ends parents ∧ dp_Ab c o (fun r => lv (o r)) above ∧ dp_Pg K N A kx ax lx ∧ dp_Qs K N h isp ∧ dp_Wa c o (fun r => lv (o r)) pr tg vs K N A S al ed xw xs xb yw yb
def i_Rel (_ : Nat) (u : SX) (v : SY) : Prop := ∃ (c : Nat) (o lv : Nat → Nat) (pr : Int32) (tg vs : Nat → Int32) (K N : Nat → Nat) (A S ranks ends parents kx ax lx isp above al ed xw xs xb yw yb run rows mem held twin yp yr sp : Nat → Int32) (h hy : Int32),
  u = ((nI c), pr, h, (fun j => nI (o j)), (fun j => nI (lv j)), tg, vs, ranks, ends, parents, run, kx, ax, lx, isp, rows, mem, S, xw, xs, xb) ∧
  v = ((nI c), hy, (fun j => nI (o j)), (dp_th pr), above, tg, vs, held, twin, (fun j => nI (K j)), A, (fun j => nI (N j)), yp, yr, sp, S, al, ed, yw, yb) ∧
  dp_Re c o lv pr tg vs K N A S ranks ends parents kx ax lx isp above al ed xw xs xb yw yb h
theorem i_up {k : Nat} {u : SX} {v : SY} (h : i_Rel k u v) : i_Rel (k + 4) u v := h
theorem dp_Ws_edit {c c' : Nat} {o l o' l' : Nat → Nat} {pr pr' : Int32} {tg vs tg' vs' : Nat → Int32} {K N : Nat → Nat} {A : Nat → Int32} {s : Nat} {S al al' ed xw xw' xs xs' xb yw yb : Int32} (H : dp_Ws c o l pr tg vs K N A s S al ed xw xs xb yw yb) (h : (al' = 0 ∧ xw' = -1 ∧ xs' = 0) ∨ (al = 1 ∧ al' = 1 ∧ xw' = xw ∧ ∀ w, xw = nI w → bt pr w = true → bt pr' w = true ∧ xs' = dp_sv c' o' l' pr' tg' vs' K N A (s + 1) w)) : dp_Ws c' o' l' pr' tg' vs' K N A s S al' 1 xw' xs' xs yw xs := by
  obtain ⟨h1, h2, h3, h4, h5⟩ := H
  have z : ¬ S = 1 → xs = 0 := fun hS => h3.elim (fun q => q.2.2) (fun q => absurd q.2.1 hS)
  refine ⟨h1, Or.inr rfl, ?_, fun _ => rfl, fun hS => ?_⟩
  · rcases h with h | ⟨g1, g2, g3, g4⟩
    · exact Or.inl h
    · rcases h3 with ⟨q, -⟩ | ⟨-, q1, q2, q3, w, q4, q5, q6, q7⟩
      · rw [q] at g1; exact absurd g1 (by decide)
      · obtain ⟨g5, g6⟩ := g4 w q5 q4
        exact Or.inr ⟨g2, q1, q2, q3, w, g5, by rw [g3]; exact q5, q6, g6⟩
  · have hS' : ¬ S = 1 := fun e => hS ⟨e, rfl⟩
    rw [z hS']
    rcases h with h | ⟨g1, g2, g3, g4⟩
    · exact h.2.2.symm
    · rcases h3 with ⟨q, -⟩ | ⟨-, q1, -⟩
      · rw [q] at g1; exact absurd g1 (by decide)
      · exact absurd q1 hS'
def dp_isn (pr v : Int32) : Bool := decide (¬ v < 0 ∧ v < 32) && bt pr v.toNatClampNeg
theorem dp_isn_o {pr v : Int32} {c : Nat} {o lv : Nat → Nat} (T : dp_Tr c o lv pr) (h : dp_isn pr v = true) : ∃ r, r < c ∧ v = nI (o r) := by
  unfold dp_isn at h
  rw [Bool.and_eq_true, decide_eq_true_iff] at h
  obtain ⟨⟨h1, h2⟩, h3⟩ := h
  obtain ⟨j, hj, rfl⟩ := nI_of h1
  rw [nI_clamp hj] at h3
  obtain ⟨r, hr, e⟩ := (T.2.1 j).mp h3
  exact ⟨r, hr, by rw [e]⟩
theorem dp_isn_at {pr : Int32} {n : Nat} (hn : n < 32) : dp_isn pr (nI n) = bt pr n := by
  unfold dp_isn
  rw [nI_clamp (by omega), decide_eq_true (⟨nI_pos (by omega), nI_lt (b := 32) hn (by decide)⟩ : ¬ nI n < 0 ∧ nI n < 32), Bool.true_and]
end
section
/-! the component's walks over the tree -/
theorem dp_v32 {n : Nat} (h : n < 32) : vp_in (nI n) 32 := vp_in_nI h (by decide)
theorem dp_cl32 {n : Nat} (h : n < 32) : (nI n).toNatClampNeg = n := nI_clamp (by omega)
theorem dp_ge32 {n : Nat} (h : n < 32) : ¬ (32 : Int32) ≤ nI n := nI_ge (b := 32) h (by decide)
theorem dp_le32 : (32 : Int32) ≤ nI 32 := nI_le (Nat.le_refl 32) (by decide)
section XT
variable {f_size f_present f_height : Int32} {a_order a_levels a_tags a_values a_ranks a_ends a_parents a_run a_kinds a_numbers a_lengths a_entryIsPath a_rows a_members a_wasSet a_watchNode a_selects a_selectedBefore : Nat → Int32} {c : Nat} {o lv : Nat → Nat} {pr : Int32}
theorem xx_findEnd_l (T : dp_Tc c o lv) {r : Nat} (hr : r < c) {post : Int32 → Prop} : ∀ k i, i + k = c → post (nI (dp_fe (fun r => lv (o r)) r k i)) → wX_findEnd_4 post (nI r) (nI c) f_present f_height (fun j => nI (o j)) (fun j => nI (lv j)) a_tags a_values a_ranks a_ends a_parents a_run a_kinds a_numbers a_lengths a_entryIsPath a_rows a_members a_wasSet a_watchNode a_selects a_selectedBefore (k + 1) (nI i) := by
  obtain ⟨t1, t2, t3, t4, t5⟩ := T
  have lr : lv (o r) ≤ r := dp_wf_rank t5 r hr
  intro k
  induction k with
  | zero =>
    intro i hi h
    obtain rfl : i = c := by omega
    exact br_t (nI_le (Nat.le_refl _) (by omega)) h
  | succ k ih =>
    intro i hi h
    have li : lv (o i) ≤ i := dp_wf_rank t5 i (by omega)
    refine br_f (nI_ge (by omega) (by omega)) ⟨dp_v32 (by omega), ?_⟩
    simp only [dp_cl32 (show i < 32 by omega), dp_cl32 (show r < 32 by omega), dp_cl32 (t3 i), dp_cl32 (t3 r)]
    refine ⟨dp_v32 (t3 i), dp_v32 (by omega), dp_v32 (t3 r), ?_⟩
    by_cases z : lv (o r) < lv (o i)
    · refine br_f (nI_ge z (by omega)) (nm_r (nI_1 i) (ih (i + 1) (by omega) ?_))
      have e : dp_fe (fun r => lv (o r)) r (k + 1) i = dp_fe (fun r => lv (o r)) r k (i + 1) := if_pos z
      rw [e] at h; exact h
    · refine br_t (nI_le (by omega) (by omega)) ?_
      have e : dp_fe (fun r => lv (o r)) r (k + 1) i = i := if_neg z
      rw [e] at h; exact h
theorem xx_findEnd (T : dp_Tc c o lv) {r : Nat} (hr : r < c) {post : Int32 → Prop} (h : post (nI (dp_en (fun r => lv (o r)) c r))) : wpX_findEnd post ((nI c), f_present, f_height, (fun j => nI (o j)), (fun j => nI (lv j)), a_tags, a_values, a_ranks, a_ends, a_parents, a_run, a_kinds, a_numbers, a_lengths, a_entryIsPath, a_rows, a_members, a_wasSet, a_watchNode, a_selects, a_selectedBefore) (nI r) :=
  nm_r (nI_1 r) ⟨_, xx_findEnd_l T hr (c - (r + 1)) (r + 1) (by omega) h⟩
theorem xx_findParent_l (T : dp_Tc c o lv) {r : Nat} (hr : r < c) {post : Int32 → Prop} : ∀ q, q < r → (∃ s, s < q + 1 ∧ lv (o s) < lv (o r)) → post (nI (o (dp_fp (fun r => lv (o r)) r (q + 1)))) → wX_findParent_4 post (nI r) (nI c) f_present f_height (fun j => nI (o j)) (fun j => nI (lv j)) a_tags a_values a_ranks a_ends a_parents a_run a_kinds a_numbers a_lengths a_entryIsPath a_rows a_members a_wasSet a_watchNode a_selects a_selectedBefore (q + 1) (nI q) := by
  obtain ⟨t1, t2, t3, t4, t5⟩ := T
  have lr : lv (o r) ≤ r := dp_wf_rank t5 r hr
  intro q
  induction q with
  | zero =>
    intro hq hs h
    obtain ⟨s, hs, z⟩ := hs
    obtain rfl : s = 0 := by omega
    refine br_f (nI_pos (by omega)) ⟨dp_v32 (by omega), ?_⟩
    simp only [dp_cl32 (show 0 < 32 by omega), dp_cl32 (show r < 32 by omega), dp_cl32 (t3 0), dp_cl32 (t3 r)]
    refine ⟨dp_v32 (t3 _), dp_v32 (by omega), dp_v32 (t3 r), br_f (nI_ge z (by omega)) ⟨dp_v32 (by omega), ?_⟩⟩
    have e : dp_fp (fun r => lv (o r)) r (0 + 1) = 0 := if_pos z
    rw [e] at h; exact h
  | succ q ih =>
    intro hq hs h
    have lq : lv (o (q + 1)) ≤ q + 1 := dp_wf_rank t5 (q + 1) (by omega)
    refine br_f (nI_pos (by omega)) ⟨dp_v32 (by omega), ?_⟩
    simp only [dp_cl32 (show q + 1 < 32 by omega), dp_cl32 (show r < 32 by omega), dp_cl32 (t3 (q + 1)), dp_cl32 (t3 r)]
    refine ⟨dp_v32 (t3 _), dp_v32 (by omega), dp_v32 (t3 r), ?_⟩
    by_cases z : lv (o (q + 1)) < lv (o r)
    · refine br_f (nI_ge z (by omega)) ⟨dp_v32 (by omega), ?_⟩
      have e : dp_fp (fun r => lv (o r)) r (q + 1 + 1) = q + 1 := if_pos z
      rw [e] at h; exact h
    · refine br_t (nI_le (by omega) (by omega)) (nm_r (pk_m1 q) (ih (by omega) ?_ ?_))
      · obtain ⟨s, hs, y⟩ := hs
        refine ⟨s, ?_, y⟩
        rcases Nat.lt_or_ge s (q + 1) with x | x
        · exact x
        · rw [show s = q + 1 from by omega] at y; exact absurd y z
      · have e : dp_fp (fun r => lv (o r)) r (q + 1 + 1) = dp_fp (fun r => lv (o r)) r (q + 1) := if_neg z
        rw [e] at h; exact h
theorem xx_findParent (T : dp_Tc c o lv) {r : Nat} (hr : r < c) {post : Int32 → Prop} (h : post (if r = 0 then -1 else nI (o (dp_pa (fun r => lv (o r)) r)))) : wpX_findParent post ((nI c), f_present, f_height, (fun j => nI (o j)), (fun j => nI (lv j)), a_tags, a_values, a_ranks, a_ends, a_parents, a_run, a_kinds, a_numbers, a_lengths, a_entryIsPath, a_rows, a_members, a_wasSet, a_watchNode, a_selects, a_selectedBefore) (nI r) := by
  cases r with
  | zero =>
    exact nm_e ⟨1, br_t (by decide) h⟩
  | succ r =>
    rw [if_neg (by omega)] at h
    refine nm_r (nI_pred r) ⟨_, xx_findParent_l T hr r (by omega) ⟨0, by omega, ?_⟩ h⟩
    have w := T.2.2.2.2
    have a : lv (o 0) = 0 := w.2.1
    have b := (w.2.2 (r + 1) (by omega) hr).1
    exact Nat.lt_of_lt_of_le (show lv (o 0) < 1 by omega) b
theorem xx_indexTree_l (T : dp_Tc c o lv) {post : SX → Prop} (h : ∀ ra en pa : Nat → Int32, dp_TX c o (fun r => lv (o r)) ra en pa → post ((nI c), f_present, f_height, (fun j => nI (o j)), (fun j => nI (lv j)), a_tags, a_values, ra, en, pa, a_run, a_kinds, a_numbers, a_lengths, a_entryIsPath, a_rows, a_members, a_wasSet, a_watchNode, a_selects, a_selectedBefore)) : ∀ k i (ra en pa : Nat → Int32), i + k = c → (∀ r, r < i → ra (o r) = nI r ∧ en (o r) = nI (dp_en (fun r => lv (o r)) c r) ∧ pa (o r) = if r = 0 then -1 else nI (o (dp_pa (fun r => lv (o r)) r))) → wX_indexTree_2 post (nI c) f_present f_height (k + 1) (nI i) (fun j => nI (o j)) (fun j => nI (lv j)) a_tags a_values ra en pa a_run a_kinds a_numbers a_lengths a_entryIsPath a_rows a_members a_wasSet a_watchNode a_selects a_selectedBefore := by
  have t1 := T.1
  have t3 := T.2.2.1
  have t4 := T.2.2.2.1
  intro k
  induction k with
  | zero =>
    intro i ra en pa hi H
    obtain rfl : i = c := by omega
    exact br_t (nI_le (Nat.le_refl _) (by omega)) (h ra en pa ⟨fun r hr => ⟨(H r hr).1, (H r hr).2.1⟩, fun r hr => (H r hr).2.2⟩)
  | succ k ih =>
    intro i ra en pa hi H
    refine br_f (nI_ge (by omega) (by omega)) ⟨dp_v32 (by omega), ?_⟩
    simp only [dp_cl32 (show i < 32 by omega)]
    refine nm_e ⟨dp_v32 (t3 i), nm_e ?_⟩
    simp only [dp_cl32 (t3 i)]
    refine xx_findEnd T (by omega) ⟨dp_v32 (t3 i), nm_e (xx_findParent T (by omega) ⟨dp_v32 (t3 i), nm_e (nm_r (nI_1 i) (ih (i + 1) _ _ _ (by omega) fun r hr => ?_))⟩)⟩
    by_cases z : r = i
    · subst z
      exact ⟨pk_us, pk_us, pk_us⟩
    · have ne : o r ≠ o i := fun e => z (t4 r i (by omega) (by omega) e)
      rw [pk_un ne, pk_un ne, pk_un ne]
      exact H r (by omega)
theorem xx_indexTree (T : dp_Tc c o lv) {post : SX → Prop} (h : ∀ ra en pa : Nat → Int32, dp_TX c o (fun r => lv (o r)) ra en pa → post ((nI c), f_present, f_height, (fun j => nI (o j)), (fun j => nI (lv j)), a_tags, a_values, ra, en, pa, a_run, a_kinds, a_numbers, a_lengths, a_entryIsPath, a_rows, a_members, a_wasSet, a_watchNode, a_selects, a_selectedBefore)) : wpX_indexTree post ((nI c), f_present, f_height, (fun j => nI (o j)), (fun j => nI (lv j)), a_tags, a_values, a_ranks, a_ends, a_parents, a_run, a_kinds, a_numbers, a_lengths, a_entryIsPath, a_rows, a_members, a_wasSet, a_watchNode, a_selects, a_selectedBefore) :=
  ⟨_, xx_indexTree_l T h c 0 _ _ _ (Nat.zero_add c) (fun r hr => absurd hr (Nat.not_lt_zero r))⟩
theorem xx_isNode {v : Int32} {post : Int32 → Prop} (h : post (dp_c (dp_isn f_present v))) : wpX_isNode post (f_size, f_present, f_height, a_order, a_levels, a_tags, a_values, a_ranks, a_ends, a_parents, a_run, a_kinds, a_numbers, a_lengths, a_entryIsPath, a_rows, a_members, a_wasSet, a_watchNode, a_selects, a_selectedBefore) v := by
  refine br_c (fun h0 => ?_) (fun h0 => ?_)
  · rw [dp_c_f (by unfold dp_isn; rw [decide_eq_false (fun z => z.1 h0), Bool.false_and])] at h; exact h
  · refine br_c (fun h1 => ?_) (fun h1 => ?_)
    · rw [dp_c_f (by unfold dp_isn; rw [decide_eq_false (fun z => absurd z.2 (Int32.not_lt.mpr h1)), Bool.false_and])] at h; exact h
    · have h2 : v < 32 := Int32.not_le.mp h1
      obtain ⟨j, hj, rfl⟩ := nI_of h0
      have hj2 : j < 32 := (nI_ltI hj (by decide)).mp h2
      rw [dp_isn_at hj2] at h
      rw [dp_xb f_present hj2]
      cases e : bt f_present j
      · rw [e] at h; exact br_f (by decide) h
      · rw [e] at h; exact br_t rfl h
theorem xx_isBelow (T : dp_Tc c o lv) (X : dp_TX c o (fun r => lv (o r)) a_ranks a_ends a_parents) {s r : Nat} (hs : s < c) (hr : r < c) {post : Int32 → Prop} (h : post (dp_c (decide (r < s ∧ s < dp_en (fun r => lv (o r)) c r)))) : wpX_isBelow post ((nI c), f_present, f_height, (fun j => nI (o j)), (fun j => nI (lv j)), a_tags, a_values, a_ranks, a_ends, a_parents, a_run, a_kinds, a_numbers, a_lengths, a_entryIsPath, a_rows, a_members, a_wasSet, a_watchNode, a_selects, a_selectedBefore) (nI (o s)) (nI (o r)) := by
  have t1 := T.1
  have t3 := T.2.2.1
  have e2 := (dp_en_spec (fun r => lv (o r)) hr).2.1
  refine ⟨dp_v32 (t3 s), dp_v32 (t3 r), ?_⟩
  simp only [dp_cl32 (t3 s), dp_cl32 (t3 r), (X.1 s hs).1, (X.1 r hr).1, (X.1 r hr).2]
  by_cases z : r < s
  · refine br_f (nI_ge z (by omega)) ⟨dp_v32 (t3 s), dp_v32 (t3 r), ?_⟩
    by_cases y : s < dp_en (fun r => lv (o r)) c r
    · rw [dp_c_t (decide_eq_true ⟨z, y⟩)] at h
      exact br_f (nI_ge y (by omega)) h
    · rw [dp_c_f (decide_eq_false (fun q => y q.2))] at h
      exact br_t (nI_le (by omega) (by omega)) h
  · rw [dp_c_f (decide_eq_false (fun q => z q.1))] at h
    exact br_t (nI_le (by omega) (by omega)) h
/-- is j a child of x: as both sides ask it -/
theorem dp_ask {ab : Nat → Int32} (T : dp_Tc c o lv) (A : dp_Ab c o (fun r => lv (o r)) ab) {x j : Nat} (hx : x < c) (hj : j < c) : ab (o j) = nI (o x) ↔ dp_ch (fun r => lv (o r)) x j = true := by
  have t3 := T.2.2.1
  have hox := t3 x
  rw [A j hj, dp_ch_iff]
  by_cases z : j = 0
  · rw [if_pos z]
    exact ⟨fun e => absurd e.symm (dp_nle1 (by omega)), fun e => absurd e.1 (by omega)⟩
  · have pl := dp_wf_pl T.2.2.2.2 (show 0 < j by omega) hj
    have hop := t3 (dp_pa (fun r => lv (o r)) j)
    rw [if_neg z, nI_eq (by omega) (by omega)]
    exact ⟨fun e => ⟨by omega, T.2.2.2.1 _ _ (by omega) hx e⟩, fun e => by rw [e.2]⟩
theorem xx_countChildren_l (T : dp_Tc c o lv) (X : dp_TX c o (fun r => lv (o r)) a_ranks a_ends a_parents) {x : Nat} (hx : x < c) {post : Int32 → Prop} (h : post (nI (dp_fc (dp_ch (fun r => lv (o r)) x) (dp_en (fun r => lv (o r)) c x)))) : ∀ k i, i + k = dp_en (fun r => lv (o r)) c x → wX_countChildren_11 post (nI (o x)) (nI c) f_present f_height (fun j => nI (o j)) (fun j => nI (lv j)) a_tags a_values a_ranks a_ends a_parents a_run a_kinds a_numbers a_lengths a_entryIsPath a_rows a_members a_wasSet a_watchNode a_selects a_selectedBefore (k + 1) (nI (dp_fc (dp_ch (fun r => lv (o r)) x) i)) (nI i) := by
  have t1 := T.1
  have t3 := T.2.2.1
  have e2 := (dp_en_spec (fun r => lv (o r)) hx).2.1
  intro k
  induction k with
  | zero =>
    intro i hi
    obtain rfl : i = dp_en (fun r => lv (o r)) c x := by omega
    refine ⟨dp_v32 (t3 x), ?_⟩
    simp only [dp_cl32 (t3 x), (X.1 x hx).2]
    exact br_t (nI_le (Nat.le_refl _) (by omega)) h
  | succ k ih =>
    intro i hi
    refine ⟨dp_v32 (t3 x), ?_⟩
    simp only [dp_cl32 (t3 x), (X.1 x hx).2]
    refine br_f (nI_ge (by omega) (by omega)) ⟨dp_v32 (by omega), ?_⟩
    simp only [dp_cl32 (show i < 32 by omega), dp_cl32 (t3 i)]
    refine ⟨dp_v32 (t3 i), ?_⟩
    have q := dp_ask T X.2 hx (show i < c by omega)
    cases e : dp_ch (fun r => lv (o r)) x i
    · refine br_f (fun z => by rw [q.mp z] at e; cases e) (nm_r (nI_1 i) ?_)
      have := ih (i + 1) (by omega)
      rw [dp_fc_f e] at this; exact this
    · refine br_t (q.mpr e) (nm_r (nI_1 _) (nm_r (nI_1 i) ?_))
      have := ih (i + 1) (by omega)
      rw [dp_fc_t e] at this; exact this
theorem dp_ch_n0 (W : dp_WF (fun r => lv (o r)) c) {x : Nat} (hx : x < c) : dp_fc (dp_ch (fun r => lv (o r)) x) (x + 1) = 0 := dp_fc_none fun i hi => dp_ch_lo W (by omega) (by omega)
theorem dp_ch_nE (W : dp_WF (fun r => lv (o r)) c) {x : Nat} (hx : x < c) : dp_fc (dp_ch (fun r => lv (o r)) x) c = dp_fc (dp_ch (fun r => lv (o r)) x) (dp_en (fun r => lv (o r)) c x) := dp_fc_const (dp_en_spec _ hx).2.1 (fun i h1 h2 => dp_ch_hi W h2 h1)
theorem xx_countChildren (T : dp_Tc c o lv) (X : dp_TX c o (fun r => lv (o r)) a_ranks a_ends a_parents) {x : Nat} (hx : x < c) {post : Int32 → Prop} (h : post (nI (dp_fc (dp_ch (fun r => lv (o r)) x) c))) : wpX_countChildren post ((nI c), f_present, f_height, (fun j => nI (o j)), (fun j => nI (lv j)), a_tags, a_values, a_ranks, a_ends, a_parents, a_run, a_kinds, a_numbers, a_lengths, a_entryIsPath, a_rows, a_members, a_wasSet, a_watchNode, a_selects, a_selectedBefore) (nI (o x)) := by
  have t3 := T.2.2.1
  have e1 := (dp_en_spec (fun r => lv (o r)) hx).1
  refine ⟨dp_v32 (t3 x), ?_⟩
  simp only [dp_cl32 (t3 x), (X.1 x hx).1]
  rw [dp_ch_nE T.2.2.2.2 hx] at h
  have := xx_countChildren_l (f_present := f_present) (f_height := f_height) (a_tags := a_tags) (a_values := a_values) (a_run := a_run) (a_kinds := a_kinds) (a_numbers := a_numbers) (a_lengths := a_lengths) (a_entryIsPath := a_entryIsPath) (a_rows := a_rows) (a_members := a_members) (a_wasSet := a_wasSet) (a_watchNode := a_watchNode) (a_selects := a_selects) (a_selectedBefore := a_selectedBefore) T X hx h (dp_en (fun r => lv (o r)) c x - (x + 1)) (x + 1) (by omega)
  rw [dp_ch_n0 T.2.2.2.2 hx] at this
  exact nm_r (nI_1 x) ⟨_, this⟩
theorem xx_findChild_l (T : dp_Tc c o lv) (X : dp_TX c o (fun r => lv (o r)) a_ranks a_ends a_parents) {x : Nat} (hx : x < c) {p : Int32} {post : Int32 → Prop} (h : post (dp_an o (-1) (dp_fk (dp_ch (fun r => lv (o r)) x) p (dp_en (fun r => lv (o r)) c x)))) : ∀ k i, i + k = dp_en (fun r => lv (o r)) c x → dp_fk (dp_ch (fun r => lv (o r)) x) p i = none → wX_findChild_12 post (nI (o x)) p (nI c) f_present f_height (fun j => nI (o j)) (fun j => nI (lv j)) a_tags a_values a_ranks a_ends a_parents a_run a_kinds a_numbers a_lengths a_entryIsPath a_rows a_members a_wasSet a_watchNode a_selects a_selectedBefore (k + 1) (nI (dp_fc (dp_ch (fun r => lv (o r)) x) i)) (nI i) := by
  have t1 := T.1
  have t3 := T.2.2.1
  have e2 := (dp_en_spec (fun r => lv (o r)) hx).2.1
  intro k
  induction k with
  | zero =>
    intro i hi hn
    obtain rfl : i = dp_en (fun r => lv (o r)) c x := by omega
    refine ⟨dp_v32 (t3 x), ?_⟩
    simp only [dp_cl32 (t3 x), (X.1 x hx).2]
    rw [hn] at h
    exact br_t (nI_le (Nat.le_refl _) (by omega)) h
  | succ k ih =>
    intro i hi hn
    refine ⟨dp_v32 (t3 x), ?_⟩
    simp only [dp_cl32 (t3 x), (X.1 x hx).2]
    refine br_f (nI_ge (by omega) (by omega)) ⟨dp_v32 (by omega), ?_⟩
    simp only [dp_cl32 (show i < 32 by omega), dp_cl32 (t3 i)]
    refine ⟨dp_v32 (t3 i), ?_⟩
    have q := dp_ask T X.2 hx (show i < c by omega)
    cases e : dp_ch (fun r => lv (o r)) x i
    · refine br_f (fun z => by rw [q.mp z] at e; cases e) (nm_r (nI_1 i) ?_)
      have := ih (i + 1) (by omega) (dp_fk_miss hn (fun z => by rw [e] at z; exact absurd z.1 (by decide)))
      rw [dp_fc_f e] at this; exact this
    · refine br_t (q.mpr e) ?_
      by_cases z : nI (dp_fc (dp_ch (fun r => lv (o r)) x) i) = p
      · refine br_t z ⟨dp_v32 (by omega), ?_⟩
        rw [dp_fk_up (dp_fk_hit hn e z) (show i + 1 ≤ dp_en (fun r => lv (o r)) c x by omega)] at h
        exact h
      · refine br_f z (nm_r (nI_1 _) (nm_r (nI_1 i) ?_))
        have := ih (i + 1) (by omega) (dp_fk_miss hn (fun w => z w.2))
        rw [dp_fc_t e] at this; exact this
theorem dp_ch_k0 (W : dp_WF (fun r => lv (o r)) c) {x : Nat} (hx : x < c) {p : Int32} : dp_fk (dp_ch (fun r => lv (o r)) x) p (x + 1) = none := dp_fk_none fun i hi => dp_ch_lo W (by omega) (by omega)
theorem dp_ch_kE (W : dp_WF (fun r => lv (o r)) c) {x : Nat} (hx : x < c) {p : Int32} : dp_fk (dp_ch (fun r => lv (o r)) x) p c = dp_fk (dp_ch (fun r => lv (o r)) x) p (dp_en (fun r => lv (o r)) c x) := dp_fk_const (dp_en_spec _ hx).2.1 (fun i h1 h2 => dp_ch_hi W h2 h1)
theorem xx_findChild (T : dp_Tc c o lv) (X : dp_TX c o (fun r => lv (o r)) a_ranks a_ends a_parents) {x : Nat} (hx : x < c) {p : Int32} {post : Int32 → Prop} (h : post (dp_an o (-1) (dp_fk (dp_ch (fun r => lv (o r)) x) p c))) : wpX_findChild post ((nI c), f_present, f_height, (fun j => nI (o j)), (fun j => nI (lv j)), a_tags, a_values, a_ranks, a_ends, a_parents, a_run, a_kinds, a_numbers, a_lengths, a_entryIsPath, a_rows, a_members, a_wasSet, a_watchNode, a_selects, a_selectedBefore) (nI (o x)) p := by
  have t3 := T.2.2.1
  have e1 := (dp_en_spec (fun r => lv (o r)) hx).1
  refine ⟨dp_v32 (t3 x), ?_⟩
  simp only [dp_cl32 (t3 x), (X.1 x hx).1]
  rw [dp_ch_kE T.2.2.2.2 hx] at h
  have := xx_findChild_l (f_present := f_present) (f_height := f_height) (a_tags := a_tags) (a_values := a_values) (a_run := a_run) (a_kinds := a_kinds) (a_numbers := a_numbers) (a_lengths := a_lengths) (a_entryIsPath := a_entryIsPath) (a_rows := a_rows) (a_members := a_members) (a_wasSet := a_wasSet) (a_watchNode := a_watchNode) (a_selects := a_selects) (a_selectedBefore := a_selectedBefore) T X hx h (dp_en (fun r => lv (o r)) c x - (x + 1)) (x + 1) (by omega) (dp_ch_k0 T.2.2.2.2 hx)
  rw [dp_ch_n0 T.2.2.2.2 hx] at this
  exact nm_r (nI_1 x) ⟨_, this⟩
/-- the rank at which a child at place p is put -/
def dp_gr (l : Nat → Nat) (c x : Nat) (p : Int32) : Nat := match dp_fk (dp_ch l x) p c with
  | some i => i
  | none => dp_en l c x
theorem dp_gr_Gp {l : Nat → Nat} {x : Nat} {p : Int32} (W : dp_WF l c) (hx : x < c) : dp_Gp l c x (dp_gr l c x p) := by
  unfold dp_gr
  cases e : dp_fk (dp_ch l x) p c with
  | none => exact dp_gp_en hx
  | some i =>
    obtain ⟨h1, h2, -⟩ := dp_fk_some e
    exact dp_gp_ch W h1 h2
theorem xx_rankForChild (T : dp_Tc c o lv) (X : dp_TX c o (fun r => lv (o r)) a_ranks a_ends a_parents) {x : Nat} (hx : x < c) {p : Int32} {post : Int32 → Prop} (h : post (nI (dp_gr (fun r => lv (o r)) c x p))) : wpX_rankForChild post ((nI c), f_present, f_height, (fun j => nI (o j)), (fun j => nI (lv j)), a_tags, a_values, a_ranks, a_ends, a_parents, a_run, a_kinds, a_numbers, a_lengths, a_entryIsPath, a_rows, a_members, a_wasSet, a_watchNode, a_selects, a_selectedBefore) (nI (o x)) p := by
  have t3 := T.2.2.1
  refine xx_findChild T X hx ?_
  unfold dp_gr at h
  cases e : dp_fk (dp_ch (fun r => lv (o r)) x) p c with
  | none =>
    rw [e] at h
    refine br_t rfl ⟨dp_v32 (t3 x), ?_⟩
    rw [dp_cl32 (t3 x), (X.1 x hx).2]
    exact h
  | some i =>
    rw [e] at h
    have oi := t3 i
    refine br_f (dp_nle1 (by omega)) ⟨dp_v32 oi, ?_⟩
    show post (a_ranks (nI (o i)).toNatClampNeg)
    rw [dp_cl32 oi, (X.1 i (dp_fk_some e).1).1]
    exact h
end XT
end
section
/-! the reference's walks over the tree -/
section YT
variable {f_count f_height : Int32} {a_list a_there a_above a_tags a_values a_held a_twin a_kinds a_args a_sizes a_isPath a_rows a_spare a_isSet a_alive a_edited a_watchNode a_before : Nat → Int32} {c : Nat} {o lv : Nat → Nat} {pr : Int32}
theorem yy_isNode {v : Int32} {post : Int32 → Prop} (h : post (dp_c (dp_isn pr v))) : wpY_isNode post (f_count, f_height, a_list, (dp_th pr), a_above, a_tags, a_values, a_held, a_twin, a_kinds, a_args, a_sizes, a_isPath, a_rows, a_spare, a_isSet, a_alive, a_edited, a_watchNode, a_before) v := by
  refine br_c (fun h0 => ?_) (fun h0 => ?_)
  · rw [dp_c_f (by unfold dp_isn; rw [decide_eq_false (fun z => z.1 h0), Bool.false_and])] at h; exact h
  · obtain ⟨j, hj, rfl⟩ := nI_of h0
    by_cases hj2 : j < 32
    · refine br_f (nI_nlt (b := j) (a := 31) (by omega) (by decide)) ⟨dp_v32 hj2, ?_⟩
      rw [dp_isn_at hj2] at h
      rw [dp_cl32 hj2]
      show ((dp_c (bt pr j) = 0 → post 0) ∧ (¬ dp_c (bt pr j) = 0 → post 1))
      cases e : bt pr j
      · rw [e] at h; exact br_t rfl h
      · rw [e] at h; exact br_f (by decide) h
    · refine br_t (nI_lt (a := 31) (b := j) (by omega) hj) ?_
      rw [dp_c_f (by unfold dp_isn; rw [decide_eq_false (fun z => hj2 ((nI_ltI hj (by decide)).mp z.2)), Bool.false_and])] at h; exact h
theorem yy_place_l (ho : ∀ r, o r < 32) (hc : c ≤ 32) {n : Nat} (hn : n < 32) {post : Int32 → Prop} (h : post (nI (dp_rk o n c))) : ∀ k i, i + k = c → wY_placeInList_4 post (nI n) (nI c) f_height (fun j => nI (o j)) a_there a_above a_tags a_values a_held a_twin a_kinds a_args a_sizes a_isPath a_rows a_spare a_isSet a_alive a_edited a_watchNode a_before (k + 1) (nI (dp_rk o n i)) (nI i) := by
  intro k
  induction k with
  | zero =>
    intro i hi
    obtain rfl : i = c := by omega
    exact br_t (nI_le (Nat.le_refl _) (by omega)) h
  | succ k ih =>
    intro i hi
    refine br_f (nI_ge (by omega) (by omega)) ⟨dp_v32 (by omega), ?_⟩
    have oi := ho i
    simp only [dp_cl32 (show i < 32 by omega)]
    have := ih (i + 1) (by omega)
    by_cases z : o i = n
    · refine br_t (by rw [z]) (nm_r (nI_1 i) ?_)
      rw [show dp_rk o n (i + 1) = i from if_pos z] at this; exact this
    · refine br_f (fun e => z (dp_inj (by omega) (by omega) e)) (nm_r (nI_1 i) ?_)
      rw [show dp_rk o n (i + 1) = dp_rk o n i from if_neg z] at this; exact this
theorem yy_place (T : dp_Tc c o lv) {r : Nat} (hr : r < c) {post : Int32 → Prop} (h : post (nI r)) : wpY_placeInList post ((nI c), f_height, (fun j => nI (o j)), a_there, a_above, a_tags, a_values, a_held, a_twin, a_kinds, a_args, a_sizes, a_isPath, a_rows, a_spare, a_isSet, a_alive, a_edited, a_watchNode, a_before) (nI (o r)) := by
  rw [← dp_rk_o T hr] at h
  exact ⟨_, yy_place_l T.2.2.1 T.1 (T.2.2.1 r) h c 0 (Nat.zero_add c)⟩
theorem yy_isBelow_l (T : dp_Tc c o lv) (A : dp_Ab c o (fun r => lv (o r)) a_above) {r : Nat} (hr : r < c) {post : Int32 → Prop} : ∀ k s i, s < c → lv (o s) + i ≤ 31 → lv (o s) ≤ k → post (dp_c (decide (r < s ∧ s < dp_en (fun r => lv (o r)) c r))) → wY_isBelow_10 post (nI (o r)) (nI c) f_height (fun j => nI (o j)) a_there a_above a_tags a_values a_held a_twin a_kinds a_args a_sizes a_isPath a_rows a_spare a_isSet a_alive a_edited a_watchNode a_before (k + 1) (if s = 0 then -1 else nI (o (dp_pa (fun r => lv (o r)) s))) (nI i) := by
  have t1 := T.1
  have t3 := T.2.2.1
  have t5 := T.2.2.2.2
  intro k
  induction k with
  | zero =>
    intro s i hs h1 h2 h
    have s0 : s = 0 := by
      rcases Nat.eq_zero_or_pos s with z | z
      · exact z
      · have : 1 ≤ lv (o s) := (t5.2.2 s z hs).1
        omega
    rw [dp_c_f (decide_eq_false (fun q => by omega))] at h
    rw [if_pos s0]
    exact br_f (dp_ge32 (by omega)) (br_t (by decide) h)
  | succ k ih =>
    intro s i hs h1 h2 h
    by_cases s0 : s = 0
    · rw [dp_c_f (decide_eq_false (fun q => by omega))] at h
      rw [if_pos s0]
      exact br_f (dp_ge32 (by omega)) (br_t (by decide) h)
    · have w := dp_wf_pa t5 (show 0 < s by omega) hs
      have w1 : dp_pa (fun r => lv (o r)) s < s := w.1.1
      have w2 : lv (o (dp_pa (fun r => lv (o r)) s)) + 1 = lv (o s) := w.2
      have cl := dp_climb t5 (show 0 < s by omega) hs (r := r)
      have oq := t3 (dp_pa (fun r => lv (o r)) s)
      have or' := t3 r
      rw [if_neg s0]
      refine br_f (dp_ge32 (by omega)) (br_f (nI_pos (by omega)) ?_)
      by_cases z : dp_pa (fun r => lv (o r)) s = r
      · rw [dp_c_t (decide_eq_true (cl.mpr (Or.inl z)))] at h
        exact br_t (by rw [z]) h
      · refine br_f (fun e => z (T.2.2.2.1 _ _ (by omega) hr (dp_inj (by omega) (by omega) e))) ⟨dp_v32 oq, ?_⟩
        rw [dp_cl32 oq]
        refine nm_r (A _ (by omega)) (nm_r (nI_1 i) (ih _ (i + 1) (by omega) (by omega) (by omega) ?_))
        have e : decide (r < s ∧ s < dp_en (fun r => lv (o r)) c r) = decide (r < dp_pa (fun r => lv (o r)) s ∧ dp_pa (fun r => lv (o r)) s < dp_en (fun r => lv (o r)) c r) := by
          rw [decide_eq_decide, cl]
          exact ⟨fun q => q.elim (fun q => absurd q z) id, Or.inr⟩
        rw [e] at h; exact h
theorem yy_isBelow (T : dp_Tc c o lv) (A : dp_Ab c o (fun r => lv (o r)) a_above) {s r : Nat} (hs : s < c) (hr : r < c) {post : Int32 → Prop} (h : post (dp_c (decide (r < s ∧ s < dp_en (fun r => lv (o r)) c r)))) : wpY_isBelow post ((nI c), f_height, (fun j => nI (o j)), a_there, a_above, a_tags, a_values, a_held, a_twin, a_kinds, a_args, a_sizes, a_isPath, a_rows, a_spare, a_isSet, a_alive, a_edited, a_watchNode, a_before) (nI (o s)) (nI (o r)) := by
  have t1 := T.1
  have t3 := T.2.2.1
  have l31 : lv (o s) ≤ s := dp_wf_rank T.2.2.2.2 s hs
  refine ⟨dp_v32 (t3 s), ?_⟩
  rw [dp_cl32 (t3 s)]
  exact nm_r (A s hs) ⟨_, yy_isBelow_l T A hr (lv (o s)) s 0 hs (by omega) (Nat.le_refl _) h⟩
theorem yy_endOf_l (T : dp_Tc c o lv) (A : dp_Ab c o (fun r => lv (o r)) a_above) {r : Nat} (hr : r < c) {post : Int32 → Prop} (h : post (nI (dp_en (fun r => lv (o r)) c r))) : ∀ k i, r < i → i + k = dp_en (fun r => lv (o r)) c r → wY_endOf_8 post (nI (o r)) (nI c) f_height (fun j => nI (o j)) a_there a_above a_tags a_values a_held a_twin a_kinds a_args a_sizes a_isPath a_rows a_spare a_isSet a_alive a_edited a_watchNode a_before (k + 1) (nI i) := by
  have t1 := T.1
  have t3 := T.2.2.1
  obtain ⟨e1, e2, -, -⟩ := dp_en_spec (fun r => lv (o r)) hr
  intro k
  induction k with
  | zero =>
    intro i hi he
    obtain rfl : i = dp_en (fun r => lv (o r)) c r := by omega
    refine br_c (fun _ => h) (fun z => ⟨?_, ?_⟩)
    · rw [nI_leI (by omega) (by omega)] at z
      exact dp_v32 (by omega)
    · rw [nI_leI (by omega) (by omega)] at z
      rw [dp_cl32 (by omega)]
      refine yy_isBelow T A (by omega) hr ?_
      rw [dp_c_f (decide_eq_false (fun q => by omega))]
      exact br_t rfl h
  | succ k ih =>
    intro i hi he
    refine br_f (nI_ge (by omega) (by omega)) ⟨dp_v32 (by omega), ?_⟩
    rw [dp_cl32 (by omega)]
    refine yy_isBelow T A (by omega) hr ?_
    rw [dp_c_t (decide_eq_true ⟨by omega, by omega⟩)]
    exact br_f (by decide) (nm_r (nI_1 i) (ih (i + 1) (by omega) (by omega)))
theorem yy_endOf (T : dp_Tc c o lv) (A : dp_Ab c o (fun r => lv (o r)) a_above) {r : Nat} (hr : r < c) {post : Int32 → Prop} (h : post (nI (dp_en (fun r => lv (o r)) c r))) : wpY_endOf post ((nI c), f_height, (fun j => nI (o j)), a_there, a_above, a_tags, a_values, a_held, a_twin, a_kinds, a_args, a_sizes, a_isPath, a_rows, a_spare, a_isSet, a_alive, a_edited, a_watchNode, a_before) (nI (o r)) := by
  have e1 := (dp_en_spec (fun r => lv (o r)) hr).1
  exact yy_place T hr (nm_r (nI_1 r) ⟨_, yy_endOf_l T A hr h (dp_en (fun r => lv (o r)) c r - (r + 1)) (r + 1) (by omega) (by omega)⟩)
theorem yy_childrenOf_l (T : dp_Tc c o lv) (A : dp_Ab c o (fun r => lv (o r)) a_above) {x : Nat} (hx : x < c) {post : Int32 → Prop} (h : post (nI (dp_fc (dp_ch (fun r => lv (o r)) x) c))) : ∀ k i, i + k = c → wY_childrenOf_4 post (nI (o x)) (nI c) f_height (fun j => nI (o j)) a_there a_above a_tags a_values a_held a_twin a_kinds a_args a_sizes a_isPath a_rows a_spare a_isSet a_alive a_edited a_watchNode a_before (k + 1) (nI (dp_fc (dp_ch (fun r => lv (o r)) x) i)) (nI i) := by
  have t1 := T.1
  have t3 := T.2.2.1
  intro k
  induction k with
  | zero =>
    intro i hi
    obtain rfl : i = c := by omega
    exact br_t (nI_le (Nat.le_refl _) (by omega)) h
  | succ k ih =>
    intro i hi
    refine br_f (nI_ge (by omega) (by omega)) ⟨dp_v32 (by omega), ?_⟩
    simp only [dp_cl32 (show i < 32 by omega), dp_cl32 (t3 i)]
    refine ⟨dp_v32 (t3 i), ?_⟩
    have q := dp_ask T A hx (show i < c by omega)
    have := ih (i + 1) (by omega)
    cases e : dp_ch (fun r => lv (o r)) x i
    · refine br_f (fun z => by rw [q.mp z] at e; cases e) (nm_r (nI_1 i) ?_)
      rw [dp_fc_f e] at this; exact this
    · refine br_t (q.mpr e) (nm_r (nI_1 _) (nm_r (nI_1 i) ?_))
      rw [dp_fc_t e] at this; exact this
theorem yy_childrenOf (T : dp_Tc c o lv) (A : dp_Ab c o (fun r => lv (o r)) a_above) {x : Nat} (hx : x < c) {post : Int32 → Prop} (h : post (nI (dp_fc (dp_ch (fun r => lv (o r)) x) c))) : wpY_childrenOf post ((nI c), f_height, (fun j => nI (o j)), a_there, a_above, a_tags, a_values, a_held, a_twin, a_kinds, a_args, a_sizes, a_isPath, a_rows, a_spare, a_isSet, a_alive, a_edited, a_watchNode, a_before) (nI (o x)) :=
  ⟨_, yy_childrenOf_l T A hx h c 0 (Nat.zero_add c)⟩
theorem dp_left (p : Int32) (f : Nat) : p - nI f + (-1) = p - nI (f + 1) := by
  rw [← nI_1]
  grind
theorem dp_left0 {p : Int32} {f : Nat} : p - nI f = 0 ↔ nI f = p := by
  constructor
  · intro h; grind
  · intro h; rw [h]; grind
theorem yy_child_l (T : dp_Tc c o lv) (A : dp_Ab c o (fun r => lv (o r)) a_above) {x : Nat} (hx : x < c) {p : Int32} {post : Int32 → Prop} (h : post (dp_an o (-1) (dp_fk (dp_ch (fun r => lv (o r)) x) p c))) : ∀ k i, i + k = c → dp_fk (dp_ch (fun r => lv (o r)) x) p i = none → wY_child_5 post (nI (o x)) (nI c) f_height (fun j => nI (o j)) a_there a_above a_tags a_values a_held a_twin a_kinds a_args a_sizes a_isPath a_rows a_spare a_isSet a_alive a_edited a_watchNode a_before (k + 1) (p - nI (dp_fc (dp_ch (fun r => lv (o r)) x) i)) (nI i) := by
  have t1 := T.1
  have t3 := T.2.2.1
  intro k
  induction k with
  | zero =>
    intro i hi hn
    obtain rfl : i = c := by omega
    rw [hn] at h
    exact br_t (nI_le (Nat.le_refl _) (by omega)) h
  | succ k ih =>
    intro i hi hn
    refine br_f (nI_ge (by omega) (by omega)) ⟨dp_v32 (by omega), ?_⟩
    simp only [dp_cl32 (show i < 32 by omega), dp_cl32 (t3 i)]
    refine ⟨dp_v32 (t3 i), ?_⟩
    have q := dp_ask T A hx (show i < c by omega)
    cases e : dp_ch (fun r => lv (o r)) x i
    · refine br_f (fun z => by rw [q.mp z] at e; cases e) (nm_r (nI_1 i) ?_)
      have := ih (i + 1) (by omega) (dp_fk_miss hn (fun z => by rw [e] at z; exact absurd z.1 (by decide)))
      rw [dp_fc_f e] at this; exact this
    · refine br_t (q.mpr e) ?_
      by_cases z : nI (dp_fc (dp_ch (fun r => lv (o r)) x) i) = p
      · refine br_t (dp_left0.mpr z) ⟨dp_v32 (by omega), ?_⟩
        rw [dp_fk_up (dp_fk_hit hn e z) (show i + 1 ≤ c by omega)] at h
        exact h
      · refine br_f (fun w => z (dp_left0.mp w)) (nm_r (dp_left _ _) (nm_r (nI_1 i) ?_))
        have := ih (i + 1) (by omega) (dp_fk_miss hn (fun w => z w.2))
        rw [dp_fc_t e] at this; exact this
theorem dp_sub0 (p : Int32) : p - nI 0 = p := by rw [nI_0]; grind
theorem yy_child (T : dp_Tc c o lv) (A : dp_Ab c o (fun r => lv (o r)) a_above) {x : Nat} (hx : x < c) {p : Int32} {post : Int32 → Prop} (h : post (dp_an o (-1) (dp_fk (dp_ch (fun r => lv (o r)) x) p c))) : wpY_child post ((nI c), f_height, (fun j => nI (o j)), a_there, a_above, a_tags, a_values, a_held, a_twin, a_kinds, a_args, a_sizes, a_isPath, a_rows, a_spare, a_isSet, a_alive, a_edited, a_watchNode, a_before) (nI (o x)) p := by
  refine ⟨c + 1, ?_⟩
  have := yy_child_l (f_height := f_height) (a_there := a_there) (a_above := a_above) (a_tags := a_tags) (a_values := a_values) (a_held := a_held) (a_twin := a_twin) (a_kinds := a_kinds) (a_args := a_args) (a_sizes := a_sizes) (a_isPath := a_isPath) (a_rows := a_rows) (a_spare := a_spare) (a_isSet := a_isSet) (a_alive := a_alive) (a_edited := a_edited) (a_watchNode := a_watchNode) (a_before := a_before) T A hx h c 0 (Nat.zero_add c) rfl
  rw [show dp_fc (dp_ch (fun r => lv (o r)) x) 0 = 0 from rfl, dp_sub0] at this
  exact this
theorem yy_gapFor (T : dp_Tc c o lv) (A : dp_Ab c o (fun r => lv (o r)) a_above) {x : Nat} (hx : x < c) {p : Int32} {post : Int32 → Prop} (h : post (nI (dp_gr (fun r => lv (o r)) c x p))) : wpY_gapFor post ((nI c), f_height, (fun j => nI (o j)), a_there, a_above, a_tags, a_values, a_held, a_twin, a_kinds, a_args, a_sizes, a_isPath, a_rows, a_spare, a_isSet, a_alive, a_edited, a_watchNode, a_before) (nI (o x)) p := by
  have t3 := T.2.2.1
  refine yy_child T A hx ?_
  unfold dp_gr at h
  cases e : dp_fk (dp_ch (fun r => lv (o r)) x) p c with
  | none =>
    rw [e] at h
    exact br_t (show (-1 : Int32) < 0 by decide) (yy_endOf T A hx h)
  | some i =>
    rw [e] at h
    have oi := t3 i
    exact br_f (nI_pos (by omega)) (yy_place T (dp_fk_some e).1 h)
theorem yy_newNumber_l {post : Int32 → Prop} : ∀ d n, n + d = 31 → post (nI (dp_lf (bt pr) d n)) → wY_newNumber_2 post f_count f_height a_list (dp_th pr) a_above a_tags a_values a_held a_twin a_kinds a_args a_sizes a_isPath a_rows a_spare a_isSet a_alive a_edited a_watchNode a_before (d + 1) (nI n) := by
  intro d
  induction d with
  | zero =>
    intro n hn h
    exact br_t (nI_le (a := 31) (b := n) (by omega) (by omega)) h
  | succ d ih =>
    intro n hn h
    refine br_f (nI_ge (b := 31) (by omega) (by decide)) ⟨dp_v32 (by omega), ?_⟩
    rw [dp_cl32 (by omega)]
    show ((dp_c (bt pr n) = 0 → _) ∧ (¬ dp_c (bt pr n) = 0 → _))
    by_cases z : bt pr n = true
    · rw [dp_lf_t z] at h
      rw [dp_c_t z]
      exact br_f (by decide) (nm_r (nI_1 n) (ih (n + 1) (by omega) h))
    · rw [dp_lf_f z] at h
      rw [dp_c_f (Bool.eq_false_iff.mpr z)]
      exact br_t rfl h
theorem yy_newNumber {post : Int32 → Prop} (h : post (nI (dp_ln pr))) : wpY_newNumber post (f_count, f_height, a_list, (dp_th pr), a_above, a_tags, a_values, a_held, a_twin, a_kinds, a_args, a_sizes, a_isPath, a_rows, a_spare, a_isSet, a_alive, a_edited, a_watchNode, a_before) := ⟨_, yy_newNumber_l 31 0 rfl h⟩
theorem yy_takeOut_39 (ho : ∀ r, o r < 32) (hc : c ≤ 32) {a k : Nat} (hk : 0 < k) (hak : a + k ≤ c) {post : SY → Prop} (h : post ((nI (c - k)), f_height, (fun j => nI (dp_cl o c a k j)), a_there, a_above, a_tags, a_values, a_held, a_twin, a_kinds, a_args, a_sizes, a_isPath, a_rows, a_spare, a_isSet, a_alive, a_edited, a_watchNode, a_before)) : ∀ d i, i + k + d = c → a ≤ i → wY_takeOut_39 post (nI k) (nI (c - k)) f_height (d + 1) (nI i) (fun j => nI (dp_cl o (i + k) a k j)) a_there a_above a_tags a_values a_held a_twin a_kinds a_args a_sizes a_isPath a_rows a_spare a_isSet a_alive a_edited a_watchNode a_before := by
  intro d
  induction d with
  | zero =>
    intro i hi ha
    rw [show i + k = c from by omega]
    exact br_t (nI_le (by omega) (by omega)) h
  | succ d ih =>
    intro i hi ha
    refine br_f (nI_ge (by omega) (by omega)) ?_
    rw [nI_add]
    refine ⟨dp_v32 (by omega), dp_v32 (by omega), ?_⟩
    simp only [dp_cl32 (show i < 32 by omega), dp_cl32 (show i + k < 32 by omega)]
    refine nm_r dp_upd (nm_r (nI_1 i) ?_)
    have e := dp_cl_s (o := o) (a := a) (k := k) (r := i + k) (by omega) hk
    rw [Nat.add_sub_cancel] at e
    rw [e, show i + k + 1 = i + 1 + k from by omega]
    exact ih (i + 1) (by omega) (by omega)
theorem yy_takeOut_2 (ho : ∀ r, o r < 32) (hc : c ≤ 32) {a k : Nat} (hk : 0 < k) (hak : a + k ≤ c) {post : SY → Prop} (h : ∀ hd : Nat → Int32, (∀ i, i < k → hd i = nI (o (a + i))) → post ((nI (c - k)), f_height, (fun j => nI (dp_cl o c a k j)), a_there, a_above, a_tags, a_values, hd, a_twin, a_kinds, a_args, a_sizes, a_isPath, a_rows, a_spare, a_isSet, a_alive, a_edited, a_watchNode, a_before)) : ∀ d i (hd : Nat → Int32), i + d = k → (∀ j, j < i → hd j = nI (o (a + j))) → wY_takeOut_2 post (nI a) (nI k) (nI c) f_height (d + 1) (nI i) (fun j => nI (o j)) a_there a_above a_tags a_values hd a_twin a_kinds a_args a_sizes a_isPath a_rows a_spare a_isSet a_alive a_edited a_watchNode a_before := by
  intro d
  induction d with
  | zero =>
    intro i hd hi H
    obtain rfl : i = k := by omega
    refine br_t (nI_le (Nat.le_refl _) (by omega)) (nm_r (pk_sub (by omega)) ⟨c - (a + i) + 1, ?_⟩)
    have := yy_takeOut_39 ho hc hk hak (h hd H) (c - (a + i)) a (by omega) (Nat.le_refl _)
    rw [dp_cl_0 o c a i] at this
    exact this
  | succ d ih =>
    intro i hd hi H
    refine br_f (nI_ge (by omega) (by omega)) ?_
    rw [nI_add]
    refine ⟨dp_v32 (by omega), dp_v32 (by omega), ?_⟩
    simp only [dp_cl32 (show i < 32 by omega), dp_cl32 (show a + i < 32 by omega)]
    refine nm_e (nm_r (nI_1 i) (ih (i + 1) _ (by omega) fun j hj => ?_))
    by_cases z : j = i
    · subst z; exact pk_us
    · rw [pk_un z]; exact H j (by omega)
theorem yy_takeOut (ho : ∀ r, o r < 32) (hc : c ≤ 32) {a k : Nat} (hk : 0 < k) (hak : a + k ≤ c) {post : SY → Prop} (h : ∀ hd : Nat → Int32, (∀ i, i < k → hd i = nI (o (a + i))) → post ((nI (c - k)), f_height, (fun j => nI (dp_cl o c a k j)), a_there, a_above, a_tags, a_values, hd, a_twin, a_kinds, a_args, a_sizes, a_isPath, a_rows, a_spare, a_isSet, a_alive, a_edited, a_watchNode, a_before)) : wpY_takeOut post ((nI c), f_height, (fun j => nI (o j)), a_there, a_above, a_tags, a_values, a_held, a_twin, a_kinds, a_args, a_sizes, a_isPath, a_rows, a_spare, a_isSet, a_alive, a_edited, a_watchNode, a_before) (nI a) (nI k) :=
  ⟨_, yy_takeOut_2 ho hc hk hak h k 0 _ (Nat.zero_add k) (fun j hj => absurd hj (Nat.not_lt_zero j))⟩
theorem yy_putIn_34 {t k : Nat} {g f : Nat → Nat} (hk : 0 < k) (hc : c + k ≤ 32) (ht : t ≤ c) (hg : ∀ i, i < k → a_held i = nI (g i)) {post : SY → Prop} (h : post ((nI (c + k)), f_height, (fun j => nI (dp_fl f t k g j)), a_there, a_above, a_tags, a_values, a_held, a_twin, a_kinds, a_args, a_sizes, a_isPath, a_rows, a_spare, a_isSet, a_alive, a_edited, a_watchNode, a_before)) : ∀ d i, i + d = k → wY_putIn_34 post (nI t) (nI k) (nI c) f_height (d + 1) (nI i) (fun j => nI (dp_fl f t i g j)) a_there a_above a_tags a_values a_held a_twin a_kinds a_args a_sizes a_isPath a_rows a_spare a_isSet a_alive a_edited a_watchNode a_before := by
  intro d
  induction d with
  | zero =>
    intro i hi
    obtain rfl : i = k := by omega
    exact br_t (nI_le (Nat.le_refl _) (by omega)) (nm_r (nI_add c i) h)
  | succ d ih =>
    intro i hi
    refine br_f (nI_ge (by omega) (by omega)) ⟨dp_v32 (by omega), ?_⟩
    rw [nI_add]
    refine ⟨dp_v32 (by omega), ?_⟩
    simp only [dp_cl32 (show i < 32 by omega), dp_cl32 (show t + i < 32 by omega), hg i (by omega)]
    refine nm_r dp_upd (nm_r (nI_1 i) ?_)
    rw [dp_fl_s]
    exact ih (i + 1) (by omega)
theorem dp_m1 (x : Int32) : x + (-1) = x - 1 := by grind
theorem yy_putIn_7 {t k : Nat} {g : Nat → Nat} (hk : 0 < k) (hc : c + k ≤ 32) (ht : t ≤ c) (hg : ∀ i, i < k → a_held i = nI (g i)) {post : SY → Prop} (h : post ((nI (c + k)), f_height, (fun j => nI (dp_fl (dp_og o c t k) t k g j)), a_there, a_above, a_tags, a_values, a_held, a_twin, a_kinds, a_args, a_sizes, a_isPath, a_rows, a_spare, a_isSet, a_alive, a_edited, a_watchNode, a_before)) : ∀ d, t + d ≤ c → wY_putIn_7 post (nI t) (nI k) (nI c) f_height (d + 1) (nI (t + d) - 1) (fun j => nI (dp_oh o c k (t + d) j)) a_there a_above a_tags a_values a_held a_twin a_kinds a_args a_sizes a_isPath a_rows a_spare a_isSet a_alive a_edited a_watchNode a_before := by
  intro d
  induction d with
  | zero =>
    intro hd
    refine br_t ?_ ⟨k + 1, ?_⟩
    · rw [Nat.add_zero]
      cases t with
      | zero => decide
      | succ t => rw [nI_pred]; exact nI_lt (by omega) (by omega)
    · have := yy_putIn_34 (f := dp_og o c t k) hk hc ht hg h k 0 (Nat.zero_add k)
      rw [dp_fl_0] at this
      exact this
  | succ d ih =>
    intro hd
    rw [show t + (d + 1) = t + d + 1 from by omega, nI_pred]
    refine br_f (nI_nlt (by omega) (by omega)) ⟨dp_v32 (by omega), ?_⟩
    rw [nI_add]
    refine ⟨dp_v32 (by omega), ?_⟩
    simp only [dp_cl32 (show t + d < 32 by omega), dp_cl32 (show t + d + k < 32 by omega)]
    refine nm_r dp_upd (nm_r (dp_m1 _) ?_)
    rw [dp_oh_s (by omega)]
    exact ih (by omega)
theorem yy_putIn {t k : Nat} {g : Nat → Nat} (hk : 0 < k) (hc : c + k ≤ 32) (ht : t ≤ c) (hg : ∀ i, i < k → a_held i = nI (g i)) {post : SY → Prop} (h : post ((nI (c + k)), f_height, (fun j => nI (dp_fl (dp_og o c t k) t k g j)), a_there, a_above, a_tags, a_values, a_held, a_twin, a_kinds, a_args, a_sizes, a_isPath, a_rows, a_spare, a_isSet, a_alive, a_edited, a_watchNode, a_before)) : wpY_putIn post ((nI c), f_height, (fun j => nI (o j)), a_there, a_above, a_tags, a_values, a_held, a_twin, a_kinds, a_args, a_sizes, a_isPath, a_rows, a_spare, a_isSet, a_alive, a_edited, a_watchNode, a_before) (nI t) (nI k) := by
  refine nm_e ⟨c - t + 1, ?_⟩
  have := yy_putIn_7 hk hc ht hg h (c - t) (by omega)
  rw [show t + (c - t) = c from by omega, dp_oh_0] at this
  exact this
end YT
end
section
/-! the component's shifting and taking -/
section XS
variable {f_size f_present f_height : Int32} {a_order a_levels a_tags a_values a_ranks a_ends a_parents a_run a_kinds a_numbers a_lengths a_entryIsPath a_rows a_members a_wasSet a_watchNode a_selects a_selectedBefore : Nat → Int32} {c : Nat} {o lv : Nat → Nat} {pr : Int32}
theorem xx_openGap_7 {t k : Nat} (hk : 0 < k) (hc : c + k ≤ 32) (ht : t ≤ c) {post : SX → Prop} (h : post ((nI (c + k)), f_present, f_height, (fun j => nI (dp_og o c t k j)), a_levels, a_tags, a_values, a_ranks, a_ends, a_parents, a_run, a_kinds, a_numbers, a_lengths, a_entryIsPath, a_rows, a_members, a_wasSet, a_watchNode, a_selects, a_selectedBefore)) : ∀ d, t + d ≤ c → wX_openGap_7 post (nI t) (nI k) (nI c) f_present f_height (d + 1) (nI (t + d) - 1) (fun j => nI (dp_oh o c k (t + d) j)) a_levels a_tags a_values a_ranks a_ends a_parents a_run a_kinds a_numbers a_lengths a_entryIsPath a_rows a_members a_wasSet a_watchNode a_selects a_selectedBefore := by
  intro d
  induction d with
  | zero =>
    intro hd
    refine br_t ?_ (nm_r (nI_add c k) h)
    rw [Nat.add_zero]
    cases t with
    | zero => decide
    | succ t => rw [nI_pred]; exact nI_lt (by omega) (by omega)
  | succ d ih =>
    intro hd
    rw [show t + (d + 1) = t + d + 1 from by omega, nI_pred]
    refine br_f (nI_nlt (by omega) (by omega)) ⟨dp_v32 (by omega), ?_⟩
    rw [nI_add]
    refine ⟨dp_v32 (by omega), ?_⟩
    simp only [dp_cl32 (show t + d < 32 by omega), dp_cl32 (show t + d + k < 32 by omega)]
    refine nm_r dp_upd (nm_r (dp_m1 _) ?_)
    rw [dp_oh_s (by omega)]
    exact ih (by omega)
theorem xx_openGap {t k : Nat} (hk : 0 < k) (hc : c + k ≤ 32) (ht : t ≤ c) {post : SX → Prop} (h : post ((nI (c + k)), f_present, f_height, (fun j => nI (dp_og o c t k j)), a_levels, a_tags, a_values, a_ranks, a_ends, a_parents, a_run, a_kinds, a_numbers, a_lengths, a_entryIsPath, a_rows, a_members, a_wasSet, a_watchNode, a_selects, a_selectedBefore)) : wpX_openGap post ((nI c), f_present, f_height, (fun j => nI (o j)), a_levels, a_tags, a_values, a_ranks, a_ends, a_parents, a_run, a_kinds, a_numbers, a_lengths, a_entryIsPath, a_rows, a_members, a_wasSet, a_watchNode, a_selects, a_selectedBefore) (nI t) (nI k) := by
  refine nm_e ⟨c - t + 1, ?_⟩
  have := xx_openGap_7 hk hc ht h (c - t) (by omega)
  rw [show t + (c - t) = c from by omega, dp_oh_0] at this
  exact this
theorem xx_closeGap_4 {a k : Nat} (hk : 0 < k) (hc : c ≤ 32) (hak : a + k ≤ c) {post : SX → Prop} (h : post ((nI (c - k)), f_present, f_height, (fun j => nI (dp_cl o c a k j)), a_levels, a_tags, a_values, a_ranks, a_ends, a_parents, a_run, a_kinds, a_numbers, a_lengths, a_entryIsPath, a_rows, a_members, a_wasSet, a_watchNode, a_selects, a_selectedBefore)) : ∀ d r, r + d = c → a + k ≤ r → wX_closeGap_4 post (nI k) (nI c) f_present f_height (d + 1) (nI r) (fun j => nI (dp_cl o r a k j)) a_levels a_tags a_values a_ranks a_ends a_parents a_run a_kinds a_numbers a_lengths a_entryIsPath a_rows a_members a_wasSet a_watchNode a_selects a_selectedBefore := by
  intro d
  induction d with
  | zero =>
    intro r hr ha
    obtain rfl : r = c := by omega
    exact br_t (nI_le (Nat.le_refl _) (by omega)) (nm_r (pk_sub (by omega)) h)
  | succ d ih =>
    intro r hr ha
    refine br_f (nI_ge (by omega) (by omega)) ⟨dp_v32 (by omega), ?_⟩
    rw [pk_sub (show k ≤ r by omega)]
    refine ⟨dp_v32 (by omega), ?_⟩
    simp only [dp_cl32 (show r < 32 by omega), dp_cl32 (show r - k < 32 by omega)]
    refine nm_r dp_upd (nm_r (nI_1 r) ?_)
    rw [dp_cl_s (by omega) hk]
    exact ih (r + 1) (by omega) (by omega)
theorem xx_closeGap {a k : Nat} (hk : 0 < k) (hc : c ≤ 32) (hak : a + k ≤ c) {post : SX → Prop} (h : post ((nI (c - k)), f_present, f_height, (fun j => nI (dp_cl o c a k j)), a_levels, a_tags, a_values, a_ranks, a_ends, a_parents, a_run, a_kinds, a_numbers, a_lengths, a_entryIsPath, a_rows, a_members, a_wasSet, a_watchNode, a_selects, a_selectedBefore)) : wpX_closeGap post ((nI c), f_present, f_height, (fun j => nI (o j)), a_levels, a_tags, a_values, a_ranks, a_ends, a_parents, a_run, a_kinds, a_numbers, a_lengths, a_entryIsPath, a_rows, a_members, a_wasSet, a_watchNode, a_selects, a_selectedBefore) (nI a) (nI k) := by
  refine nm_r (nI_add a k) ⟨c - (a + k) + 1, ?_⟩
  have := xx_closeGap_4 hk hc hak h (c - (a + k)) (a + k) (by omega) (Nat.le_refl _)
  rw [dp_cl_0 o c a k] at this
  exact this
theorem xx_take_26 {n : Nat} {post : Int32 → SX → Prop} (h : post (nI n) (f_size, (pr ||| dp_bo n), f_height, a_order, a_levels, a_tags, a_values, a_ranks, a_ends, a_parents, a_run, a_kinds, a_numbers, a_lengths, a_entryIsPath, a_rows, a_members, a_wasSet, a_watchNode, a_selects, a_selectedBefore)) : wX_takeLeastNumber_26 post (nI n) f_size pr f_height a_order a_levels a_tags a_values a_ranks a_ends a_parents a_run a_kinds a_numbers a_lengths a_entryIsPath a_rows a_members a_wasSet a_watchNode a_selects a_selectedBefore := nm_e h
theorem xx_take_l {post : Int32 → SX → Prop} : ∀ d n, n + d = 31 → post (nI (dp_lf (bt pr) d n)) (f_size, (pr ||| dp_bo (dp_lf (bt pr) d n)), f_height, a_order, a_levels, a_tags, a_values, a_ranks, a_ends, a_parents, a_run, a_kinds, a_numbers, a_lengths, a_entryIsPath, a_rows, a_members, a_wasSet, a_watchNode, a_selects, a_selectedBefore) → wX_takeLeastNumber_2 post f_size pr f_height a_order a_levels a_tags a_values a_ranks a_ends a_parents a_run a_kinds a_numbers a_lengths a_entryIsPath a_rows a_members a_wasSet a_watchNode a_selects a_selectedBefore (d + 1) (nI n) := by
  intro d
  induction d with
  | zero =>
    intro n hn h
    exact br_t (nI_le (a := 31) (b := n) (by omega) (by omega)) (xx_take_26 h)
  | succ d ih =>
    intro n hn h
    refine br_f (nI_ge (b := 31) (by omega) (by decide)) ?_
    rw [dp_xb pr (show n < 32 by omega)]
    by_cases z : bt pr n = true
    · rw [dp_lf_t z] at h
      rw [dp_c_t z]
      exact br_t rfl (nm_r (nI_1 n) (ih (n + 1) (by omega) h))
    · rw [dp_lf_f z] at h
      rw [dp_c_f (Bool.eq_false_iff.mpr z)]
      exact br_f (by decide) (xx_take_26 h)
theorem xx_take {post : Int32 → SX → Prop} (h : post (nI (dp_ln pr)) (f_size, (pr ||| dp_bo (dp_ln pr)), f_height, a_order, a_levels, a_tags, a_values, a_ranks, a_ends, a_parents, a_run, a_kinds, a_numbers, a_lengths, a_entryIsPath, a_rows, a_members, a_wasSet, a_watchNode, a_selects, a_selectedBefore)) : wpX_takeLeastNumber post (f_size, pr, f_height, a_order, a_levels, a_tags, a_values, a_ranks, a_ends, a_parents, a_run, a_kinds, a_numbers, a_lengths, a_entryIsPath, a_rows, a_members, a_wasSet, a_watchNode, a_selects, a_selectedBefore) := ⟨_, xx_take_l 31 0 rfl h⟩
theorem xx_noteRun_l (ho : ∀ r, o r < 32) (hc : c ≤ 32) {a k : Nat} (hak : a + k ≤ c) (ha : a_ranks (o a) = nI a) {post : Int32 → SX → Prop} (h : ∀ ru : Nat → Int32, (∀ i, i < k → ru i = nI (o (a + i))) → post (nI k) ((nI c), f_present, f_height, (fun j => nI (o j)), (fun j => nI (lv j)), a_tags, a_values, a_ranks, a_ends, a_parents, ru, a_kinds, a_numbers, a_lengths, a_entryIsPath, a_rows, a_members, a_wasSet, a_watchNode, a_selects, a_selectedBefore)) : ∀ d i (ru : Nat → Int32), i + d = k → (∀ j, j < i → ru j = nI (o (a + j))) → wX_noteRun_16 post (nI (o a)) (nI k) (nI c) f_present f_height (d + 1) (nI i) (fun j => nI (o j)) (fun j => nI (lv j)) a_tags a_values a_ranks a_ends a_parents ru a_kinds a_numbers a_lengths a_entryIsPath a_rows a_members a_wasSet a_watchNode a_selects a_selectedBefore := by
  intro d
  induction d with
  | zero =>
    intro i ru hi H
    obtain rfl : i = k := by omega
    exact br_t (nI_le (Nat.le_refl _) (by omega)) (h ru H)
  | succ d ih =>
    intro i ru hi H
    refine br_f (nI_ge (by omega) (by omega)) ⟨dp_v32 (ho a), ?_⟩
    simp only [dp_cl32 (ho a), ha, nI_add, dp_cl32 (show i < 32 by omega), dp_cl32 (show a + i < 32 by omega)]
    refine ⟨dp_v32 (by omega), dp_v32 (by omega), nm_e (nm_r (nI_1 i) (ih (i + 1) _ (by omega) fun j hj => ?_))⟩
    by_cases z : j = i
    · subst z; exact pk_us
    · rw [pk_un z]; exact H j (by omega)
theorem xx_noteRun (ho : ∀ r, o r < 32) (hc : c ≤ 32) {a k : Nat} (hak : a + k ≤ c) (ha : a_ranks (o a) = nI a) (he : a_ends (o a) = nI (a + k)) {post : Int32 → SX → Prop} (h : ∀ ru : Nat → Int32, (∀ i, i < k → ru i = nI (o (a + i))) → post (nI k) ((nI c), f_present, f_height, (fun j => nI (o j)), (fun j => nI (lv j)), a_tags, a_values, a_ranks, a_ends, a_parents, ru, a_kinds, a_numbers, a_lengths, a_entryIsPath, a_rows, a_members, a_wasSet, a_watchNode, a_selects, a_selectedBefore)) : wpX_noteRun post ((nI c), f_present, f_height, (fun j => nI (o j)), (fun j => nI (lv j)), a_tags, a_values, a_ranks, a_ends, a_parents, a_run, a_kinds, a_numbers, a_lengths, a_entryIsPath, a_rows, a_members, a_wasSet, a_watchNode, a_selects, a_selectedBefore) (nI (o a)) := by
  refine ⟨dp_v32 (ho a), dp_v32 (ho a), ?_⟩
  simp only [dp_cl32 (ho a), ha, he]
  refine nm_r (by rw [pk_sub (by omega), Nat.add_sub_cancel_left]) ⟨_, xx_noteRun_l ho hc hak ha h k 0 _ (Nat.zero_add k) (fun j hj => absurd hj (Nat.not_lt_zero j))⟩
end XS
end
section
/-! the component's work on entries -/
theorem dp_p32 (a : Nat) : nI a + 32 = nI (a + 32) := nI_add a 32
theorem dp_v256 {n : Nat} (h : n < 256) : vp_in (nI n) 256 := vp_in_nI h (by decide)
theorem dp_cl256 {n : Nat} (h : n < 256) : (nI n).toNatClampNeg = n := nI_clamp (by omega)
theorem dp_v8 {n : Nat} (h : n < 8) : vp_in (nI n) 8 := vp_in_nI h (by decide)
theorem dp_fc_add (P : Nat → Bool) (i : Nat) : nI (dp_fc P i) + dp_c (P i) = nI (dp_fc P (i + 1)) := by
  cases e : P i
  · rw [dp_fc_f e]; exact (nI_add (dp_fc P i) 0)
  · rw [dp_fc_t e]; exact nI_1 _
theorem xx_countBits_l {w : Int32} {post : Int32 → Prop} (h : post (nI (dp_fc (bt w) 32))) : ∀ d i, i + d = 32 → wX_countBits_4 post w (d + 1) (nI (dp_fc (bt w) i)) (nI i) := by
  intro d
  induction d with
  | zero =>
    intro i hi
    obtain rfl : i = 32 := by omega
    exact br_t dp_le32 h
  | succ d ih =>
    intro i hi
    refine br_f (dp_ge32 (by omega)) (nm_r ?_ (nm_r (nI_1 i) (ih (i + 1) (by omega))))
    rw [dp_xb w (by omega), dp_fc_add]
theorem xx_countBits {w : Int32} {post : Int32 → Prop} (h : post (nI (dp_fc (bt w) 32))) : wpX_countBits post w := ⟨_, xx_countBits_l h 32 0 rfl⟩
section XO
variable {f_size f_present f_height : Int32} {a_order a_levels a_tags a_values a_ranks a_ends a_parents a_run a_kinds a_numbers a_lengths a_entryIsPath a_rows a_members a_wasSet a_watchNode a_selects a_selectedBefore : Nat → Int32} {c : Nat} {o lv : Nat → Nat} {pr : Int32} {tg vs : Nat → Int32}
theorem xx_pick_l (ho : ∀ r, o r < 32) (hc : c ≤ 32) {w k : Int32} {post : Int32 → Prop} (h : post (dp_an o (-1) (dp_fk (fun i => bt w (o i)) k c))) : ∀ d i, i + d = c → dp_fk (fun i => bt w (o i)) k i = none → wX_pick_5 post w k (nI c) f_present f_height (fun j => nI (o j)) (fun j => nI (lv j)) a_tags a_values a_ranks a_ends a_parents a_run a_kinds a_numbers a_lengths a_entryIsPath a_rows a_members a_wasSet a_watchNode a_selects a_selectedBefore (d + 1) (nI (dp_fc (fun i => bt w (o i)) i)) (nI i) := by
  intro d
  induction d with
  | zero =>
    intro i hi hn
    obtain rfl : i = c := by omega
    rw [hn] at h
    exact br_t (nI_le (Nat.le_refl _) (by omega)) h
  | succ d ih =>
    intro i hi hn
    refine br_f (nI_ge (by omega) (by omega)) ⟨dp_v32 (by omega), ?_⟩
    simp only [dp_cl32 (show i < 32 by omega), dp_xb w (ho i)]
    cases e : bt w (o i)
    · refine br_f (by decide) (nm_r (nI_1 i) ?_)
      have := ih (i + 1) (by omega) (dp_fk_miss hn (fun z => by rw [e] at z; exact absurd z.1 (by decide)))
      rw [dp_fc_f (P := fun i => bt w (o i)) e] at this; exact this
    · refine br_t rfl ?_
      by_cases z : nI (dp_fc (fun i => bt w (o i)) i) = k
      · refine br_t z ⟨dp_v32 (by omega), ?_⟩
        rw [dp_fk_up (dp_fk_hit (P := fun i => bt w (o i)) hn e z) (show i + 1 ≤ c by omega)] at h
        exact h
      · refine br_f z (nm_r (nI_1 _) (nm_r (nI_1 i) ?_))
        have := ih (i + 1) (by omega) (dp_fk_miss hn (fun w => z w.2))
        rw [dp_fc_t (P := fun i => bt w (o i)) e] at this; exact this
theorem xx_pick (ho : ∀ r, o r < 32) (hc : c ≤ 32) {w k : Int32} {post : Int32 → Prop} (h : post (dp_an o (-1) (dp_fk (fun i => bt w (o i)) k c))) : wpX_pick post ((nI c), f_present, f_height, (fun j => nI (o j)), (fun j => nI (lv j)), a_tags, a_values, a_ranks, a_ends, a_parents, a_run, a_kinds, a_numbers, a_lengths, a_entryIsPath, a_rows, a_members, a_wasSet, a_watchNode, a_selects, a_selectedBefore) w k := ⟨_, xx_pick_l ho hc h c 0 (Nat.zero_add c) rfl⟩
theorem xx_isOnAxis (T : dp_Tc c o lv) (X : dp_TX c o (fun r => lv (o r)) a_ranks a_ends a_parents) {a : Int32} {i j : Nat} (hi : i < c) (hj : j < c) {post : Int32 → Prop} (h : post (dp_c (dp_ax (fun r => lv (o r)) c a i j))) : wpX_isOnAxis post ((nI c), f_present, f_height, (fun j => nI (o j)), (fun j => nI (lv j)), a_tags, a_values, a_ranks, a_ends, a_parents, a_run, a_kinds, a_numbers, a_lengths, a_entryIsPath, a_rows, a_members, a_wasSet, a_watchNode, a_selects, a_selectedBefore) a (nI (o i)) (nI (o j)) := by
  have t1 := T.1
  have t3 := T.2.2.1
  have ei := (dp_en_spec (fun r => lv (o r)) hi).2.1
  have ej := (dp_en_spec (fun r => lv (o r)) hj).2.1
  have vi := dp_v32 (t3 i)
  have vj := dp_v32 (t3 j)
  have oi := t3 i
  have oj := t3 j
  have inj : nI (o j) = nI (o i) ↔ j = i := ⟨fun e => T.2.2.2.1 _ _ hj hi (dp_inj (by omega) (by omega) e), fun e => by rw [e]⟩
  have ask1 := dp_ask T X.2 hi hj
  have ask2 := dp_ask T X.2 hj hi
  have fam : a_parents (o i) = a_parents (o j) ↔ (i = 0 ∧ j = 0) ∨ (0 < i ∧ 0 < j ∧ dp_pa (fun r => lv (o r)) i = dp_pa (fun r => lv (o r)) j) := by
    have oi' := t3 (dp_pa (fun r => lv (o r)) i)
    have oj' := t3 (dp_pa (fun r => lv (o r)) j)
    rw [X.2 i hi, X.2 j hj]
    by_cases zi : i = 0 <;> by_cases zj : j = 0
    · rw [if_pos zi, if_pos zj]; exact ⟨fun _ => Or.inl ⟨zi, zj⟩, fun _ => rfl⟩
    · rw [if_pos zi, if_neg zj]; exact ⟨fun e => absurd e.symm (dp_nle1 (by omega)), fun e => by omega⟩
    · rw [if_neg zi, if_pos zj]; exact ⟨fun e => absurd e (dp_nle1 (by omega)), fun e => by omega⟩
    · have pi := dp_wf_pl T.2.2.2.2 (show 0 < i by omega) hi
      have pj := dp_wf_pl T.2.2.2.2 (show 0 < j by omega) hj
      rw [if_neg zi, if_neg zj]
      exact ⟨fun e => Or.inr ⟨by omega, by omega, T.2.2.2.1 _ _ (by omega) (by omega) (dp_inj (by omega) (by omega) e)⟩, fun e => by
        rcases e with e | e
        · omega
        · rw [e.2.2]⟩
  simp only [wpX_isOnAxis, dp_cl32 oi, dp_cl32 oj, (X.1 i hi).1, (X.1 i hi).2, (X.1 j hj).1, (X.1 j hj).2, inj, ask1, ask2, fam, vi, vj, true_and]
  have df : a ≠ 0 → a ≠ 1 → a ≠ 2 → a ≠ 3 → a ≠ 4 → a ≠ 5 → a ≠ 6 → a ≠ 7 → ((nI i < nI (dp_en (fun r => lv (o r)) c j) → post 0) ∧ (¬ nI i < nI (dp_en (fun r => lv (o r)) c j) → post 1)) := fun h0 h1 h2 h3 h4 h5 h6 h7 => by
    unfold dp_ax at h
    rw [if_neg h0, if_neg h1, if_neg h2, if_neg h3, if_neg h4, if_neg h5, if_neg h6, if_neg h7] at h
    by_cases z : dp_en (fun r => lv (o r)) c j ≤ i
    · rw [dp_c_t (decide_eq_true z)] at h
      exact br_f (nI_nlt z (by omega)) h
    · rw [dp_c_f (decide_eq_false z)] at h
      exact br_t (nI_lt (by omega) (by omega)) h
  have pd : ∀ {p : Prop} [inst : Decidable p], post (dp_c (decide p)) → ((p → post 1) ∧ (¬ p → post 0)) := fun {p} _ h => by
    by_cases z : p
    · rw [dp_c_t (decide_eq_true z)] at h; exact br_t z h
    · rw [dp_c_f (decide_eq_false z)] at h; exact br_f z h
  by_cases h0 : a = 0
  · subst h0
    exact br_f (by decide) (br_f (by decide) (br_t rfl (pd h)))
  by_cases h1 : a = 1
  · subst h1
    refine br_f (by decide) (br_f (by decide) (br_f (by decide) (br_t rfl ?_)))
    rw [dp_ch_iff]
    exact pd h
  by_cases h2 : a = 2
  · subst h2
    refine br_f (by decide) (br_f (by decide) (br_f (by decide) (br_f (by decide) (br_t rfl ?_))))
    rw [dp_ch_iff]
    exact pd h
  by_cases h3 : a = 3
  · subst h3
    refine br_f (by decide) (br_f (by decide) (br_f (by decide) (br_f (by decide) (br_f (by decide) (br_t rfl ?_)))))
    have h' : post (dp_c (decide (i < j ∧ j < dp_en (fun r => lv (o r)) c i))) := h
    by_cases z : i < j
    · refine br_f (nI_ge z (by omega)) ?_
      by_cases y : j < dp_en (fun r => lv (o r)) c i
      · rw [dp_c_t (decide_eq_true ⟨z, y⟩)] at h'; exact br_f (nI_ge y (by omega)) h'
      · rw [dp_c_f (decide_eq_false (fun q => y q.2))] at h'; exact br_t (nI_le (by omega) (by omega)) h'
    · rw [dp_c_f (decide_eq_false (fun q => z q.1))] at h'; exact br_t (nI_le (by omega) (by omega)) h'
  by_cases h4 : a = 4
  · subst h4
    refine br_f (by decide) (br_f (by decide) (br_f (by decide) (br_f (by decide) (br_f (by decide) (br_f (by decide) (br_t rfl ?_))))))
    have h' : post (dp_c (decide (j < i ∧ i < dp_en (fun r => lv (o r)) c j))) := h
    by_cases z : j < i
    · refine br_f (nI_ge z (by omega)) ?_
      by_cases y : i < dp_en (fun r => lv (o r)) c j
      · rw [dp_c_t (decide_eq_true ⟨z, y⟩)] at h'; exact br_f (nI_ge y (by omega)) h'
      · rw [dp_c_f (decide_eq_false (fun q => y q.2))] at h'; exact br_t (nI_le (by omega) (by omega)) h'
    · rw [dp_c_f (decide_eq_false (fun q => z q.1))] at h'; exact br_t (nI_le (by omega) (by omega)) h'
  by_cases h5 : a = 5
  · subst h5
    refine br_f (by decide) (br_f (by decide) (br_f (by decide) (br_f (by decide) (br_f (by decide) (br_f (by decide) (br_f (by decide) (br_t rfl ?_)))))))
    have h' : post (dp_c (decide (i < j ∧ 0 < i ∧ 0 < j ∧ dp_pa (fun r => lv (o r)) i = dp_pa (fun r => lv (o r)) j))) := h
    by_cases z : i < j
    · by_cases y : 0 < i ∧ 0 < j ∧ dp_pa (fun r => lv (o r)) i = dp_pa (fun r => lv (o r)) j
      · rw [dp_c_t (decide_eq_true ⟨z, y⟩)] at h'; exact br_t (Or.inr y) (br_f (nI_ge z (by omega)) h')
      · rw [dp_c_f (decide_eq_false (fun q => y q.2))] at h'; exact br_f (fun q => q.elim (fun q => by omega) y) h'
    · rw [dp_c_f (decide_eq_false (fun q => z q.1))] at h'
      exact br_c (fun _ => br_t (nI_le (by omega) (by omega)) h') (fun _ => h')
  by_cases h6 : a = 6
  · subst h6
    refine br_f (by decide) (br_f (by decide) (br_f (by decide) (br_f (by decide) (br_f (by decide) (br_f (by decide) (br_f (by decide) (br_f (by decide) (br_t rfl ?_))))))))
    have h' : post (dp_c (decide (j < i ∧ 0 < i ∧ 0 < j ∧ dp_pa (fun r => lv (o r)) i = dp_pa (fun r => lv (o r)) j))) := h
    by_cases z : j < i
    · by_cases y : 0 < i ∧ 0 < j ∧ dp_pa (fun r => lv (o r)) i = dp_pa (fun r => lv (o r)) j
      · rw [dp_c_t (decide_eq_true ⟨z, y⟩)] at h'; exact br_t (Or.inr y) (br_f (nI_ge z (by omega)) h')
      · rw [dp_c_f (decide_eq_false (fun q => y q.2))] at h'; exact br_f (fun q => q.elim (fun q => by omega) y) h'
    · rw [dp_c_f (decide_eq_false (fun q => z q.1))] at h'
      exact br_c (fun _ => br_t (nI_le (by omega) (by omega)) h') (fun _ => h')
  by_cases h7 : a = 7
  · subst h7
    refine br_f (by decide) (br_f (by decide) (br_f (by decide) (br_f (by decide) (br_f (by decide) (br_f (by decide) (br_f (by decide) (br_f (by decide) (br_f (by decide) (br_t rfl ?_)))))))))
    have h' : post (dp_c (decide (dp_en (fun r => lv (o r)) c i ≤ j))) := h
    by_cases z : dp_en (fun r => lv (o r)) c i ≤ j
    · rw [dp_c_t (decide_eq_true z)] at h'; exact br_f (nI_nlt z (by omega)) h'
    · rw [dp_c_f (decide_eq_false z)] at h'; exact br_t (nI_lt (by omega) (by omega)) h'
  have d := df h0 h1 h2 h3 h4 h5 h6 h7
  exact br_c (fun _ => d) (fun _ => br_c (fun _ => d) (fun _ => br_f h0 (br_f h1 (br_f h2 (br_f h3 (br_f h4 (br_f h5 (br_f h6 (br_f h7 trivial)))))))))
end XO
end
section
/-! the component's work on entries: rows -/
section XR
variable {f_size f_present f_height : Int32} {a_order a_levels a_tags a_values a_ranks a_ends a_parents a_run a_kinds a_numbers a_lengths a_entryIsPath a_rows a_members a_wasSet a_watchNode a_selects a_selectedBefore : Nat → Int32} {c e : Nat} {o lv : Nat → Nat} {pr a : Int32} {p q R : Nat → Int32}
/-! axis -/
theorem xx_ax_zero (he : e < 8) {post : SX → Prop} (h : ∀ R', dp_In R e (fun _ => 0) R' → ∃ n, wX_putAxis_25 post a (nI (32 * e)) (nI c) f_present f_height n 0 (fun j => nI (o j)) (fun j => nI (lv j)) a_tags a_values a_ranks a_ends a_parents a_run a_kinds a_numbers a_lengths a_entryIsPath R' a_members a_wasSet a_watchNode a_selects a_selectedBefore) : ∀ d x R', x + d = 32 → dp_In R e (dp_mx x (fun _ => 0) p) R' → wX_putAxis_2 post a (nI (32 * e)) (nI c) f_present f_height (d + 1) (nI x) (fun j => nI (o j)) (fun j => nI (lv j)) a_tags a_values a_ranks a_ends a_parents a_run a_kinds a_numbers a_lengths a_entryIsPath R' a_members a_wasSet a_watchNode a_selects a_selectedBefore := by
  intro d
  induction d with
  | zero =>
    intro x R' hx H
    obtain rfl : x = 32 := by omega
    exact br_t dp_le32 (h R' (dp_In_32 H))
  | succ d ih =>
    intro x R' hx H
    refine br_f (dp_ge32 (by omega)) ?_
    rw [nI_add]
    refine ⟨dp_v256 (by omega), ?_⟩
    rw [dp_cl256 (by omega)]
    exact nm_e (nm_r (nI_1 x) (ih (x + 1) _ (by omega) (dp_In_s H (by omega) rfl)))
/-- the rows of the first i nodes are made -/
def dp_F (o l : Nat → Nat) (c : Nat) (a : Int32) (i : Nat) : Nat → Int32 := fun x => if dp_any (fun r => decide (o r = x)) i = true then dp_fr o (dp_ax l c a (dp_rk o x c)) c else 0
def dp_G (o l : Nat → Nat) (c : Nat) (a : Int32) (i j : Nat) : Nat → Int32 := fun x => if x = o i then dp_fr o (dp_ax l c a i) j else dp_F o l c a i x
theorem dp_F_0 {l : Nat → Nat} : dp_F o l c a 0 = fun _ => 0 := by
  funext x
  exact if_neg (show ¬ false = true by decide)
theorem dp_G_0 (T : dp_Tc c o lv) {l : Nat → Nat} {i : Nat} (hi : i < c) : dp_G o l c a i 0 = dp_F o l c a i := by
  funext x
  unfold dp_G
  by_cases z : x = o i
  · rw [if_pos z]
    unfold dp_F
    rw [if_neg (fun w => ?_)]
    · rfl
    · obtain ⟨r, hr, e⟩ := dp_any_iff.mp w
      rw [decide_eq_true_iff] at e
      have := T.2.2.2.1 r i (by omega) hi (e.trans z)
      omega
  · rw [if_neg z]
theorem dp_G_c (T : dp_Tc c o lv) {l : Nat → Nat} {i : Nat} (hi : i < c) : dp_G o l c a i c = dp_F o l c a (i + 1) := by
  funext x
  unfold dp_G
  by_cases z : x = o i
  · rw [if_pos z]
    unfold dp_F
    rw [if_pos (dp_any_iff.mpr ⟨i, by omega, decide_eq_true z.symm⟩), z, dp_rk_o T hi]
  · rw [if_neg z]
    unfold dp_F
    have e : dp_any (fun r => decide (o r = x)) (i + 1) = dp_any (fun r => decide (o r = x)) i := by
      show (dp_any (fun r => decide (o r = x)) i || decide (o i = x)) = _
      rw [decide_eq_false (fun e => z e.symm), Bool.or_false]
    rw [e]
theorem dp_F_c {l : Nat → Nat} (hp : ∀ n, bt pr n = true ↔ ∃ r, r < c ∧ o r = n) (x : Nat) : dp_F o l c a c x = if bt pr x = true then dp_fr o (dp_ax l c a (dp_rk o x c)) c else 0 := by
  unfold dp_F
  have e : dp_any (fun r => decide (o r = x)) c = bt pr x := by
    rw [Bool.eq_iff_iff, dp_any_iff, hp x]
    exact ⟨fun ⟨r, h1, h2⟩ => ⟨r, h1, decide_eq_true_iff.mp h2⟩, fun ⟨r, h1, h2⟩ => ⟨r, h1, decide_eq_true h2⟩⟩
  rw [e]
theorem xx_ax_in (T : dp_Tc c o lv) (X : dp_TX c o (fun r => lv (o r)) a_ranks a_ends a_parents) (he : e < 8) {i : Nat} (hi : i < c) {post : SX → Prop} {J : Int32 → (Nat → Int32) → (Nat → Int32) → (Nat → Int32) → (Nat → Int32) → (Nat → Int32) → (Nat → Int32) → (Nat → Int32) → (Nat → Int32) → (Nat → Int32) → (Nat → Int32) → (Nat → Int32) → (Nat → Int32) → (Nat → Int32) → (Nat → Int32) → (Nat → Int32) → (Nat → Int32) → (Nat → Int32) → (Nat → Int32) → Prop} (h : ∀ R', dp_In R e (dp_G o (fun r => lv (o r)) c a i c) R' → J (nI (i + 1)) (fun j => nI (o j)) (fun j => nI (lv j)) a_tags a_values a_ranks a_ends a_parents a_run a_kinds a_numbers a_lengths a_entryIsPath R' a_members a_wasSet a_watchNode a_selects a_selectedBefore) : ∀ d j R', j + d = c → dp_In R e (dp_G o (fun r => lv (o r)) c a i j) R' → wX_putAxis_44 post J a (nI (32 * e)) (nI i) (nI (o i)) (nI c) f_present f_height (d + 1) (nI j) (fun j => nI (o j)) (fun j => nI (lv j)) a_tags a_values a_ranks a_ends a_parents a_run a_kinds a_numbers a_lengths a_entryIsPath R' a_members a_wasSet a_watchNode a_selects a_selectedBefore := by
  have t1 := T.1
  have t3 := T.2.2.1
  have oi := t3 i
  intro d
  induction d with
  | zero =>
    intro j R' hj H
    obtain rfl : j = c := by omega
    exact br_t (nI_le (Nat.le_refl _) (by omega)) (nm_r (nI_1 i) (h R' H))
  | succ d ih =>
    intro j R' hj H
    refine br_f (nI_ge (by omega) (by omega)) ⟨dp_v32 (by omega), ?_⟩
    rw [dp_cl32 (show j < 32 by omega)]
    refine nm_e (xx_isOnAxis T X hi (by omega) ?_)
    have rd := H.2 (o i) oi
    have gi : dp_G o (fun r => lv (o r)) c a i j (o i) = dp_fr o (dp_ax (fun r => lv (o r)) c a i) j := if_pos rfl
    cases z : dp_ax (fun r => lv (o r)) c a i j
    · refine br_t rfl (nm_r (nI_1 j) (ih (j + 1) _ (by omega) ⟨H.1, fun x hx => ?_⟩))
      rw [H.2 x hx]
      unfold dp_G
      rw [dp_fr_f (by rw [z]; decide)]
    · refine br_f (by decide) ?_
      rw [nI_add]
      refine ⟨dp_v256 (by omega), dp_v256 (by omega), ?_⟩
      rw [dp_cl256 (by omega), rd, gi]
      refine nm_e (nm_r (nI_1 j) (ih (j + 1) _ (by omega) (dp_In_upd H oi ?_ (fun x hx hn => ?_))))
      · show (if o i = o i then dp_fr o (dp_ax (fun r => lv (o r)) c a i) (j + 1) else _) = _
        rw [if_pos rfl, dp_fr_t z]; rfl
      · unfold dp_G
        rw [if_neg hn, if_neg hn]
theorem xx_ax_out (T : dp_Tc c o lv) (X : dp_TX c o (fun r => lv (o r)) a_ranks a_ends a_parents) (he : e < 8) {post : SX → Prop} (h : ∀ R', dp_In R e (dp_F o (fun r => lv (o r)) c a c) R' → post ((nI c), f_present, f_height, (fun j => nI (o j)), (fun j => nI (lv j)), a_tags, a_values, a_ranks, a_ends, a_parents, a_run, a_kinds, a_numbers, a_lengths, a_entryIsPath, R', a_members, a_wasSet, a_watchNode, a_selects, a_selectedBefore)) : ∀ d i R', i + d = c → dp_In R e (dp_F o (fun r => lv (o r)) c a i) R' → wX_putAxis_25 post a (nI (32 * e)) (nI c) f_present f_height (d + 1) (nI i) (fun j => nI (o j)) (fun j => nI (lv j)) a_tags a_values a_ranks a_ends a_parents a_run a_kinds a_numbers a_lengths a_entryIsPath R' a_members a_wasSet a_watchNode a_selects a_selectedBefore := by
  have t1 := T.1
  intro d
  induction d with
  | zero =>
    intro i R' hi H
    obtain rfl : i = c := by omega
    exact br_t (nI_le (Nat.le_refl _) (by omega)) (h R' H)
  | succ d ih =>
    intro i R' hi H
    refine br_f (nI_ge (by omega) (by omega)) ⟨dp_v32 (by omega), ?_⟩
    rw [dp_cl32 (show i < 32 by omega)]
    refine nm_e ⟨c + 1, ?_⟩
    refine xx_ax_in T X he (by omega) (fun R2 H2 => ?_) c 0 R' (Nat.zero_add c) (by rw [dp_G_0 T (by omega)]; exact H)
    rw [dp_G_c T (by omega)] at H2
    exact ih (i + 1) R2 (by omega) H2
theorem xx_putAxis (T : dp_Tr c o lv pr) (X : dp_TX c o (fun r => lv (o r)) a_ranks a_ends a_parents) (he : e < 8) {post : SX → Prop} (h : ∀ R', dp_ag R R' e → (∀ x, x < 32 → R' (32 * e + x) = dp_op c o (fun r => lv (o r)) pr a_tags a_values 0 a p q x) → post ((nI c), f_present, f_height, (fun j => nI (o j)), (fun j => nI (lv j)), a_tags, a_values, a_ranks, a_ends, a_parents, a_run, a_kinds, a_numbers, a_lengths, a_entryIsPath, R', a_members, a_wasSet, a_watchNode, a_selects, a_selectedBefore)) : wpX_putAxis post ((nI c), f_present, f_height, (fun j => nI (o j)), (fun j => nI (lv j)), a_tags, a_values, a_ranks, a_ends, a_parents, a_run, a_kinds, a_numbers, a_lengths, a_entryIsPath, R, a_members, a_wasSet, a_watchNode, a_selects, a_selectedBefore) a (nI (32 * e)) := by
  refine ⟨33, xx_ax_zero (p := fun x => R (32 * e + x)) he (fun R' H => ⟨c + 1, ?_⟩) 32 0 R rfl (dp_In_0 (fun _ _ => rfl))⟩
  refine xx_ax_out T.1 X he (fun R2 H2 => h R2 H2.1 (fun x hx => ?_)) c 0 R' (Nat.zero_add c) (by rw [dp_F_0]; exact H)
  rw [H2.2 x hx]
  exact dp_F_c T.2.1 x
/-! join -/
theorem xx_join_in (he : e < 7) {x : Nat} (hx : x < 32) (hp : R (32 * e + x) = p x) (hq : ∀ y, y < 32 → R (32 * e + 32 + y) = q y) {post : SX → Prop} {J : Int32 → (Nat → Int32) → (Nat → Int32) → (Nat → Int32) → (Nat → Int32) → (Nat → Int32) → (Nat → Int32) → (Nat → Int32) → (Nat → Int32) → (Nat → Int32) → (Nat → Int32) → (Nat → Int32) → (Nat → Int32) → (Nat → Int32) → (Nat → Int32) → (Nat → Int32) → (Nat → Int32) → (Nat → Int32) → (Nat → Int32) → Prop} (h : J (nI (x + 1)) a_order a_levels a_tags a_values a_ranks a_ends a_parents a_run a_kinds a_numbers a_lengths a_entryIsPath (upd R (32 * e + x) (dp_jn (p x) q 32)) a_members a_wasSet a_watchNode a_selects a_selectedBefore) : ∀ d y, y + d = 32 → wX_joinRows_13 post J (nI (32 * e)) (nI x) f_size f_present f_height a_order a_levels a_tags a_values a_ranks a_ends a_parents a_run a_kinds a_numbers a_lengths a_entryIsPath R a_members a_wasSet a_watchNode a_selects a_selectedBefore (d + 1) (dp_jn (p x) q y) (nI y) := by
  intro d
  induction d with
  | zero =>
    intro y hy
    obtain rfl : y = 32 := by omega
    refine br_t dp_le32 ?_
    rw [nI_add]
    refine ⟨dp_v256 (by omega), ?_⟩
    rw [dp_cl256 (by omega)]
    exact nm_e (nm_r (nI_1 x) h)
  | succ d ih =>
    intro y hy
    refine br_f (dp_ge32 (by omega)) ?_
    rw [nI_add]
    refine ⟨dp_v256 (by omega), ?_⟩
    rw [dp_cl256 (by omega), hp, dp_xb _ (show y < 32 by omega)]
    have := ih (y + 1) (by omega)
    by_cases z : bt (p x) y = true
    · rw [dp_c_t z]
      refine br_t rfl ?_
      rw [dp_p32, nI_add]
      refine ⟨dp_v256 (by omega), ?_⟩
      rw [dp_cl256 (by omega), hq y (by omega)]
      rw [dp_jn_t z] at this
      exact nm_e (nm_r (nI_1 y) this)
    · rw [dp_c_f (Bool.eq_false_iff.mpr z)]
      rw [dp_jn_f z] at this
      exact br_f (by decide) (nm_r (nI_1 y) this)
theorem xx_join_l (he : e < 7) (hq : ∀ y, y < 32 → R (32 * e + 32 + y) = q y) {post : SX → Prop} (h : ∀ R', dp_ag R R' e → (∀ x, x < 32 → R' (32 * e + x) = dp_jn (p x) q 32) → post (f_size, f_present, f_height, a_order, a_levels, a_tags, a_values, a_ranks, a_ends, a_parents, a_run, a_kinds, a_numbers, a_lengths, a_entryIsPath, R', a_members, a_wasSet, a_watchNode, a_selects, a_selectedBefore)) : ∀ d x R', x + d = 32 → dp_In R e (dp_mx x (fun x => dp_jn (p x) q 32) p) R' → wX_joinRows_2 post (nI (32 * e)) f_size f_present f_height (d + 1) (nI x) a_order a_levels a_tags a_values a_ranks a_ends a_parents a_run a_kinds a_numbers a_lengths a_entryIsPath R' a_members a_wasSet a_watchNode a_selects a_selectedBefore := by
  intro d
  induction d with
  | zero =>
    intro x R' hx H
    obtain rfl : x = 32 := by omega
    exact br_t dp_le32 (h R' (dp_In_32 H).1 (dp_In_32 H).2)
  | succ d ih =>
    intro x R' hx H
    refine br_f (dp_ge32 (by omega)) ⟨33, ?_⟩
    exact xx_join_in he (by omega) (by rw [H.2 x (by omega), dp_mx_hi (Nat.le_refl _)]) (fun y hy => by rw [dp_In_nx H]; exact hq y hy) (ih (x + 1) _ (by omega) (dp_In_s H (by omega) rfl)) 32 0 rfl
theorem xx_joinRows (he : e < 7) (hp : ∀ x, x < 32 → R (32 * e + x) = p x) (hq : ∀ y, y < 32 → R (32 * e + 32 + y) = q y) {post : SX → Prop} (h : ∀ R', dp_ag R R' e → (∀ x, x < 32 → R' (32 * e + x) = dp_jn (p x) q 32) → post (f_size, f_present, f_height, a_order, a_levels, a_tags, a_values, a_ranks, a_ends, a_parents, a_run, a_kinds, a_numbers, a_lengths, a_entryIsPath, R', a_members, a_wasSet, a_watchNode, a_selects, a_selectedBefore)) : wpX_joinRows post (f_size, f_present, f_height, a_order, a_levels, a_tags, a_values, a_ranks, a_ends, a_parents, a_run, a_kinds, a_numbers, a_lengths, a_entryIsPath, R, a_members, a_wasSet, a_watchNode, a_selects, a_selectedBefore) (nI (32 * e)) := ⟨33, xx_join_l he hq h 32 0 R rfl (dp_In_0 hp)⟩
/-! the three that combine -/
theorem xx_comb_l (he : e < 7) {k : Int32} {f : Nat → Int32} (hf : ∀ x, (k = 2 → f x = p x ||| q x) ∧ (¬ k = 2 → (k = 3 → f x = p x &&& q x) ∧ (¬ k = 3 → f x = p x &&& (q x ^^^ (-1))))) (hq : ∀ y, y < 32 → R (32 * e + 32 + y) = q y) {post : SX → Prop} (h : ∀ R', dp_ag R R' e → (∀ x, x < 32 → R' (32 * e + x) = f x) → post (f_size, f_present, f_height, a_order, a_levels, a_tags, a_values, a_ranks, a_ends, a_parents, a_run, a_kinds, a_numbers, a_lengths, a_entryIsPath, R', a_members, a_wasSet, a_watchNode, a_selects, a_selectedBefore)) : ∀ d x R', x + d = 32 → dp_In R e (dp_mx x f p) R' → wX_combineRows_2 post k (nI (32 * e)) f_size f_present f_height (d + 1) (nI x) a_order a_levels a_tags a_values a_ranks a_ends a_parents a_run a_kinds a_numbers a_lengths a_entryIsPath R' a_members a_wasSet a_watchNode a_selects a_selectedBefore := by
  intro d
  induction d with
  | zero =>
    intro x R' hx H
    obtain rfl : x = 32 := by omega
    exact br_t dp_le32 (h R' (dp_In_32 H).1 (dp_In_32 H).2)
  | succ d ih =>
    intro x R' hx H
    have e1 : R' (32 * e + x) = p x := by rw [H.2 x (by omega), dp_mx_hi (Nat.le_refl _)]
    have e2 : R' (32 * e + 32 + x) = q x := by rw [dp_In_nx H]; exact hq x (by omega)
    have go : ∀ v, v = f x → wX_combineRows_2 post k (nI (32 * e)) f_size f_present f_height (d + 1) (nI (x + 1)) a_order a_levels a_tags a_values a_ranks a_ends a_parents a_run a_kinds a_numbers a_lengths a_entryIsPath (upd R' (32 * e + x) v) a_members a_wasSet a_watchNode a_selects a_selectedBefore := fun v hv => ih (x + 1) _ (by omega) (dp_In_s H (by omega) hv)
    refine br_f (dp_ge32 (by omega)) ?_
    simp only [dp_p32, nI_add, dp_cl256 (show 32 * e + 32 + x < 256 by omega), dp_cl256 (show 32 * e + x < 256 by omega), e1, e2]
    refine ⟨dp_v256 (by omega), nm_e (br_c (fun z => ?_) (fun z => br_c (fun y => ?_) (fun y => ?_)))⟩
    · exact ⟨dp_v256 (by omega), dp_v256 (by omega), nm_e (nm_r (nI_1 x) (go _ ((hf x).1 z).symm))⟩
    · exact ⟨dp_v256 (by omega), dp_v256 (by omega), nm_e (nm_r (nI_1 x) (go _ (((hf x).2 z).1 y).symm))⟩
    · exact ⟨dp_v256 (by omega), dp_v256 (by omega), nm_e (nm_r (nI_1 x) (go _ (((hf x).2 z).2 y).symm))⟩
theorem xx_combineRows (he : e < 7) {k : Int32} {f : Nat → Int32} (hf : ∀ x, (k = 2 → f x = p x ||| q x) ∧ (¬ k = 2 → (k = 3 → f x = p x &&& q x) ∧ (¬ k = 3 → f x = p x &&& (q x ^^^ (-1))))) (hp : ∀ x, x < 32 → R (32 * e + x) = p x) (hq : ∀ y, y < 32 → R (32 * e + 32 + y) = q y) {post : SX → Prop} (h : ∀ R', dp_ag R R' e → (∀ x, x < 32 → R' (32 * e + x) = f x) → post (f_size, f_present, f_height, a_order, a_levels, a_tags, a_values, a_ranks, a_ends, a_parents, a_run, a_kinds, a_numbers, a_lengths, a_entryIsPath, R', a_members, a_wasSet, a_watchNode, a_selects, a_selectedBefore)) : wpX_combineRows post (f_size, f_present, f_height, a_order, a_levels, a_tags, a_values, a_ranks, a_ends, a_parents, a_run, a_kinds, a_numbers, a_lengths, a_entryIsPath, R, a_members, a_wasSet, a_watchNode, a_selects, a_selectedBefore) k (nI (32 * e)) := ⟨33, xx_comb_l he hf hq h 32 0 R rfl (dp_In_0 hp)⟩
/-! where -/
theorem xx_keep_l (he : e < 8) {s : Int32} {post : SX → Prop} (h : ∀ R', dp_ag R R' e → (∀ x, x < 32 → R' (32 * e + x) = p x &&& s) → post (f_size, f_present, f_height, a_order, a_levels, a_tags, a_values, a_ranks, a_ends, a_parents, a_run, a_kinds, a_numbers, a_lengths, a_entryIsPath, R', a_members, a_wasSet, a_watchNode, a_selects, a_selectedBefore)) : ∀ d x R', x + d = 32 → dp_In R e (dp_mx x (fun x => p x &&& s) p) R' → wX_keepMembers_2 post s (nI (32 * e)) f_size f_present f_height (d + 1) (nI x) a_order a_levels a_tags a_values a_ranks a_ends a_parents a_run a_kinds a_numbers a_lengths a_entryIsPath R' a_members a_wasSet a_watchNode a_selects a_selectedBefore := by
  intro d
  induction d with
  | zero =>
    intro x R' hx H
    obtain rfl : x = 32 := by omega
    exact br_t dp_le32 (h R' (dp_In_32 H).1 (dp_In_32 H).2)
  | succ d ih =>
    intro x R' hx H
    have e1 : R' (32 * e + x) = p x := by rw [H.2 x (by omega), dp_mx_hi (Nat.le_refl _)]
    refine br_f (dp_ge32 (by omega)) ?_
    simp only [nI_add, dp_cl256 (show 32 * e + x < 256 by omega), e1]
    exact ⟨dp_v256 (by omega), dp_v256 (by omega), nm_e (nm_r (nI_1 x) (ih (x + 1) _ (by omega) (dp_In_s H (by omega) rfl)))⟩
theorem xx_keepMembers (he : e < 8) {s : Int32} (hp : ∀ x, x < 32 → R (32 * e + x) = p x) {post : SX → Prop} (h : ∀ R', dp_ag R R' e → (∀ x, x < 32 → R' (32 * e + x) = p x &&& s) → post (f_size, f_present, f_height, a_order, a_levels, a_tags, a_values, a_ranks, a_ends, a_parents, a_run, a_kinds, a_numbers, a_lengths, a_entryIsPath, R', a_members, a_wasSet, a_watchNode, a_selects, a_selectedBefore)) : wpX_keepMembers post (f_size, f_present, f_height, a_order, a_levels, a_tags, a_values, a_ranks, a_ends, a_parents, a_run, a_kinds, a_numbers, a_lengths, a_entryIsPath, R, a_members, a_wasSet, a_watchNode, a_selects, a_selectedBefore) s (nI (32 * e)) := ⟨33, xx_keep_l he h 32 0 R rfl (dp_In_0 hp)⟩
end XR
end
section
/-! the component's work on entries: turning, repeating, the nth, conditions -/
section XQ
variable {f_size f_present f_height : Int32} {a_order a_levels a_tags a_values a_ranks a_ends a_parents a_run a_kinds a_numbers a_lengths a_entryIsPath a_rows a_members a_wasSet a_watchNode a_selects a_selectedBefore : Nat → Int32} {c e : Nat} {o lv : Nat → Nat} {pr a : Int32} {p q R : Nat → Int32}
/-! turn -/
theorem xx_turn_in (he : e < 8) {x : Nat} (hx : x < 32) {post : SX → Prop} {J : Int32 → (Nat → Int32) → (Nat → Int32) → (Nat → Int32) → (Nat → Int32) → (Nat → Int32) → (Nat → Int32) → (Nat → Int32) → (Nat → Int32) → (Nat → Int32) → (Nat → Int32) → (Nat → Int32) → (Nat → Int32) → (Nat → Int32) → (Nat → Int32) → (Nat → Int32) → (Nat → Int32) → (Nat → Int32) → (Nat → Int32) → Prop} (h : ∀ R', dp_ag R R' e → dp_Sw p (fun b => R' (32 * e + b)) x x → J (nI (x + 1)) a_order a_levels a_tags a_values a_ranks a_ends a_parents a_run a_kinds a_numbers a_lengths a_entryIsPath R' a_members a_wasSet a_watchNode a_selects a_selectedBefore) : ∀ d y R', y + d = x → dp_ag R R' e → dp_Sw p (fun b => R' (32 * e + b)) x y → wX_turnRows_10 post J (nI (32 * e)) (nI x) f_size f_present f_height (d + 1) (nI y) a_order a_levels a_tags a_values a_ranks a_ends a_parents a_run a_kinds a_numbers a_lengths a_entryIsPath R' a_members a_wasSet a_watchNode a_selects a_selectedBefore := by
  intro d
  induction d with
  | zero =>
    intro y R' hy ag H
    obtain rfl : y = x := by omega
    exact br_t (nI_le (Nat.le_refl _) (by omega)) (nm_r (nI_1 y) (h R' ag H))
  | succ d ih =>
    intro y R' hy ag H
    refine br_f (nI_ge (by omega) (by omega)) ?_
    simp only [nI_add, dp_cl256 (show 32 * e + x < 256 by omega), dp_cl256 (show 32 * e + y < 256 by omega), dp_xb _ (show y < 32 by omega), dp_xb _ hx]
    refine ⟨dp_v256 (by omega), nm_e ⟨dp_v256 (by omega), nm_e ?_⟩⟩
    by_cases z : bt (R' (32 * e + x)) y = bt (R' (32 * e + y)) x
    · exact br_t (by rw [z]) (nm_r (nI_1 y) (ih (y + 1) R' (by omega) ag (dp_Sw_eq H hx (by omega) z)))
    · have hne : ¬ dp_c (bt (R' (32 * e + x)) y) = dp_c (bt (R' (32 * e + y)) x) := fun w => z (by
        cases h1 : bt (R' (32 * e + x)) y <;> cases h2 : bt (R' (32 * e + y)) x <;> rw [h1, h2] at w <;> first | rfl | exact absurd w (by decide))
      have k1 : 32 * e + y ≠ 32 * e + x := by omega
      refine br_f hne ⟨dp_v256 (by omega), dp_v256 (by omega), nm_e ⟨dp_v256 (by omega), dp_v256 (by omega), nm_e (nm_r (nI_1 y) (ih (y + 1) _ (by omega) (dp_ag_upd (dp_ag_upd ag hx) (by omega)) (dp_Sw_ne H hx (by omega) z ?_ ?_ ?_)))⟩⟩
      · show upd (upd R' (32 * e + x) _) (32 * e + y) _ (32 * e + x) = _
        rw [pk_un (by omega), pk_us]; rfl
      · show upd (upd R' (32 * e + x) _) (32 * e + y) _ (32 * e + y) = _
        rw [pk_us, pk_un k1]; rfl
      · intro b hb h1 h2
        show upd (upd R' (32 * e + x) _) (32 * e + y) _ (32 * e + b) = _
        rw [pk_un (by omega), pk_un (by omega)]
theorem xx_turn_l (he : e < 8) {post : SX → Prop} (h : ∀ R', dp_ag R R' e → dp_Sw p (fun b => R' (32 * e + b)) 32 0 → post (f_size, f_present, f_height, a_order, a_levels, a_tags, a_values, a_ranks, a_ends, a_parents, a_run, a_kinds, a_numbers, a_lengths, a_entryIsPath, R', a_members, a_wasSet, a_watchNode, a_selects, a_selectedBefore)) : ∀ d x R', x + d = 32 → dp_ag R R' e → dp_Sw p (fun b => R' (32 * e + b)) x 0 → wX_turnRows_2 post (nI (32 * e)) f_size f_present f_height (d + 1) (nI x) a_order a_levels a_tags a_values a_ranks a_ends a_parents a_run a_kinds a_numbers a_lengths a_entryIsPath R' a_members a_wasSet a_watchNode a_selects a_selectedBefore := by
  intro d
  induction d with
  | zero =>
    intro x R' hx ag H
    obtain rfl : x = 32 := by omega
    exact br_t dp_le32 (h R' ag H)
  | succ d ih =>
    intro x R' hx ag H
    refine br_f (dp_ge32 (by omega)) ⟨x + 1, ?_⟩
    exact xx_turn_in he (by omega) (fun R2 ag2 H2 => ih (x + 1) R2 (by omega) ag2 (dp_Sw_row H2)) x 0 R' (Nat.zero_add x) ag H
theorem xx_turnRows (he : e < 8) (hp : ∀ x, x < 32 → R (32 * e + x) = p x) {post : SX → Prop} (h : ∀ R', dp_ag R R' e → (∀ x, x < 32 → R' (32 * e + x) = dp_mk (fun y => bt (p y) x) 32) → post (f_size, f_present, f_height, a_order, a_levels, a_tags, a_values, a_ranks, a_ends, a_parents, a_run, a_kinds, a_numbers, a_lengths, a_entryIsPath, R', a_members, a_wasSet, a_watchNode, a_selects, a_selectedBefore)) : wpX_turnRows post (f_size, f_present, f_height, a_order, a_levels, a_tags, a_values, a_ranks, a_ends, a_parents, a_run, a_kinds, a_numbers, a_lengths, a_entryIsPath, R, a_members, a_wasSet, a_watchNode, a_selects, a_selectedBefore) (nI (32 * e)) := by
  refine ⟨33, xx_turn_l (p := fun b => R (32 * e + b)) he (fun R' ag H => h R' ag (fun x hx => ?_)) 32 0 R rfl (fun _ _ => rfl) (dp_Sw_0 _)⟩
  rw [dp_Sw_end H hx]
  exact dp_mk_congr fun y hy => by rw [hp y hy]
/-! repeat -/
theorem xx_rep_in (he : e < 8) {z : Nat} (hz : z < 32) {post : SX → Prop} {J : Int32 → (Nat → Int32) → (Nat → Int32) → (Nat → Int32) → (Nat → Int32) → (Nat → Int32) → (Nat → Int32) → (Nat → Int32) → (Nat → Int32) → (Nat → Int32) → (Nat → Int32) → (Nat → Int32) → (Nat → Int32) → (Nat → Int32) → (Nat → Int32) → (Nat → Int32) → (Nat → Int32) → (Nat → Int32) → (Nat → Int32) → Prop} (h : ∀ R', dp_In R e (dp_wr p (z + 1)) R' → J (nI (z + 1)) a_order a_levels a_tags a_values a_ranks a_ends a_parents a_run a_kinds a_numbers a_lengths a_entryIsPath R' a_members a_wasSet a_watchNode a_selects a_selectedBefore) : ∀ d x R', x + d = 32 → dp_In R e (dp_mx x (dp_wr p (z + 1)) (dp_wr p z)) R' → wX_repeatRows_10 post J (nI (32 * e)) (nI z) f_size f_present f_height (d + 1) (nI x) a_order a_levels a_tags a_values a_ranks a_ends a_parents a_run a_kinds a_numbers a_lengths a_entryIsPath R' a_members a_wasSet a_watchNode a_selects a_selectedBefore := by
  intro d
  induction d with
  | zero =>
    intro x R' hx H
    obtain rfl : x = 32 := by omega
    exact br_t dp_le32 (nm_r (nI_1 z) (h R' (dp_In_32 H)))
  | succ d ih =>
    intro x R' hx H
    have e1 : R' (32 * e + x) = dp_wr p z x := by rw [H.2 x (by omega), dp_mx_hi (Nat.le_refl _)]
    have e2 : R' (32 * e + z) = dp_wr p z z := by
      rw [H.2 z hz]
      rcases Nat.lt_or_ge z x with w | w
      · rw [dp_mx_lo w, dp_wr_row]
      · rw [dp_mx_hi w]
    refine br_f (dp_ge32 (by omega)) ?_
    simp only [nI_add, dp_cl256 (show 32 * e + x < 256 by omega), dp_cl256 (show 32 * e + z < 256 by omega), e1, e2, dp_xb _ hz]
    refine ⟨dp_v256 (by omega), ?_⟩
    by_cases w : bt (dp_wr p z x) z = true
    · rw [dp_c_t w]
      exact br_t rfl ⟨dp_v256 (by omega), dp_v256 (by omega), dp_v256 (by omega), nm_e (nm_r (nI_1 x) (ih (x + 1) _ (by omega) (dp_In_s H (by omega) (dp_wr_t w).symm)))⟩
    · rw [dp_c_f (Bool.eq_false_iff.mpr w)]
      exact br_f (by decide) (nm_r (nI_1 x) (ih (x + 1) _ (by omega) (dp_In_k H (dp_wr_f w).symm)))
theorem xx_rep_end (he : e < 8) {post : SX → Prop} (h : ∀ R', dp_ag R R' e → (∀ x, x < 32 → R' (32 * e + x) = dp_wr p 32 x ||| (pr &&& dp_bo x)) → post (f_size, pr, f_height, a_order, a_levels, a_tags, a_values, a_ranks, a_ends, a_parents, a_run, a_kinds, a_numbers, a_lengths, a_entryIsPath, R', a_members, a_wasSet, a_watchNode, a_selects, a_selectedBefore)) : ∀ d x R', x + d = 32 → dp_In R e (dp_mx x (fun x => dp_wr p 32 x ||| (pr &&& dp_bo x)) (dp_wr p 32)) R' → wX_repeatRows_65 post (nI (32 * e)) f_size pr f_height (d + 1) (nI x) a_order a_levels a_tags a_values a_ranks a_ends a_parents a_run a_kinds a_numbers a_lengths a_entryIsPath R' a_members a_wasSet a_watchNode a_selects a_selectedBefore := by
  intro d
  induction d with
  | zero =>
    intro x R' hx H
    obtain rfl : x = 32 := by omega
    exact br_t dp_le32 (h R' (dp_In_32 H).1 (dp_In_32 H).2)
  | succ d ih =>
    intro x R' hx H
    have e1 : R' (32 * e + x) = dp_wr p 32 x := by rw [H.2 x (by omega), dp_mx_hi (Nat.le_refl _)]
    refine br_f (dp_ge32 (by omega)) ?_
    simp only [nI_add, dp_cl256 (show 32 * e + x < 256 by omega), e1]
    exact ⟨dp_v256 (by omega), dp_v256 (by omega), nm_e (nm_r (nI_1 x) (ih (x + 1) _ (by omega) (dp_In_s H (by omega) rfl)))⟩
theorem xx_rep_l (he : e < 8) {post : SX → Prop} (h : ∀ R', dp_ag R R' e → (∀ x, x < 32 → R' (32 * e + x) = dp_wr p 32 x ||| (pr &&& dp_bo x)) → post (f_size, pr, f_height, a_order, a_levels, a_tags, a_values, a_ranks, a_ends, a_parents, a_run, a_kinds, a_numbers, a_lengths, a_entryIsPath, R', a_members, a_wasSet, a_watchNode, a_selects, a_selectedBefore)) : ∀ d z R', z + d = 32 → dp_In R e (dp_wr p z) R' → wX_repeatRows_2 post (nI (32 * e)) f_size pr f_height (d + 1) (nI z) a_order a_levels a_tags a_values a_ranks a_ends a_parents a_run a_kinds a_numbers a_lengths a_entryIsPath R' a_members a_wasSet a_watchNode a_selects a_selectedBefore := by
  intro d
  induction d with
  | zero =>
    intro z R' hz H
    obtain rfl : z = 32 := by omega
    refine br_t dp_le32 ⟨33, xx_rep_end (R := R') he (fun R2 ag H2 => h R2 (dp_ag_trans H.1 ag) H2) 32 0 R' rfl (dp_In_0 H.2)⟩
  | succ d ih =>
    intro z R' hz H
    refine br_f (dp_ge32 (by omega)) ⟨33, xx_rep_in (R := R') he (by omega) (fun R2 H2 => ih (z + 1) R2 (by omega) ⟨dp_ag_trans H.1 H2.1, H2.2⟩) 32 0 R' rfl (dp_In_0 H.2)⟩
theorem xx_repeatRows (he : e < 8) (hp : ∀ x, x < 32 → R (32 * e + x) = p x) {post : SX → Prop} (h : ∀ R', dp_ag R R' e → (∀ x, x < 32 → R' (32 * e + x) = dp_wr p 32 x ||| (pr &&& dp_bo x)) → post (f_size, pr, f_height, a_order, a_levels, a_tags, a_values, a_ranks, a_ends, a_parents, a_run, a_kinds, a_numbers, a_lengths, a_entryIsPath, R', a_members, a_wasSet, a_watchNode, a_selects, a_selectedBefore)) : wpX_repeatRows post (f_size, pr, f_height, a_order, a_levels, a_tags, a_values, a_ranks, a_ends, a_parents, a_run, a_kinds, a_numbers, a_lengths, a_entryIsPath, R, a_members, a_wasSet, a_watchNode, a_selects, a_selectedBefore) (nI (32 * e)) := ⟨33, xx_rep_l he h 32 0 R rfl ⟨fun _ _ => rfl, hp⟩⟩
/-! the nth -/
theorem xx_nth_32 (ho : ∀ r, o r < 32) (hc : c ≤ 32) (he : e < 8) {x : Nat} (hx : x < 32) {w k : Int32} (hw : R (32 * e + x) = w) {post : SX → Prop} {J : Int32 → (Nat → Int32) → (Nat → Int32) → (Nat → Int32) → (Nat → Int32) → (Nat → Int32) → (Nat → Int32) → (Nat → Int32) → (Nat → Int32) → (Nat → Int32) → (Nat → Int32) → (Nat → Int32) → (Nat → Int32) → (Nat → Int32) → (Nat → Int32) → (Nat → Int32) → (Nat → Int32) → (Nat → Int32) → (Nat → Int32) → Prop} (h : J (nI (x + 1)) (fun j => nI (o j)) (fun j => nI (lv j)) a_tags a_values a_ranks a_ends a_parents a_run a_kinds a_numbers a_lengths a_entryIsPath (upd R (32 * e + x) (dp_ob o (dp_fk (fun i => bt w (o i)) k c))) a_members a_wasSet a_watchNode a_selects a_selectedBefore) : wX_keepNth_32 post J a (nI (32 * e)) (nI x) k (nI c) f_present f_height (fun j => nI (o j)) (fun j => nI (lv j)) a_tags a_values a_ranks a_ends a_parents a_run a_kinds a_numbers a_lengths a_entryIsPath R a_members a_wasSet a_watchNode a_selects a_selectedBefore := by
  unfold wX_keepNth_32
  simp only [nI_add, dp_cl256 (show 32 * e + x < 256 by omega), hw]
  refine ⟨dp_v256 (by omega), xx_pick ho hc ?_⟩
  cases z : dp_fk (fun i => bt w (o i)) k c with
  | none =>
    rw [z] at h
    exact br_t rfl ⟨dp_v256 (by omega), nm_e (nm_r (nI_1 x) h)⟩
  | some i =>
    rw [z] at h
    have oi := ho i
    exact br_f (dp_nle1 (by omega)) ⟨dp_v256 (by omega), nm_e (nm_r (nI_1 x) h)⟩
theorem xx_nth_l (ho : ∀ r, o r < 32) (hc : c ≤ 32) (he : e < 8) {post : SX → Prop} (h : ∀ R', dp_ag R R' e → (∀ x, x < 32 → R' (32 * e + x) = dp_nt c o a (p x)) → post ((nI c), f_present, f_height, (fun j => nI (o j)), (fun j => nI (lv j)), a_tags, a_values, a_ranks, a_ends, a_parents, a_run, a_kinds, a_numbers, a_lengths, a_entryIsPath, R', a_members, a_wasSet, a_watchNode, a_selects, a_selectedBefore)) : ∀ d x R', x + d = 32 → dp_In R e (dp_mx x (fun x => dp_nt c o a (p x)) p) R' → wX_keepNth_2 post a (nI (32 * e)) (nI c) f_present f_height (d + 1) (nI x) (fun j => nI (o j)) (fun j => nI (lv j)) a_tags a_values a_ranks a_ends a_parents a_run a_kinds a_numbers a_lengths a_entryIsPath R' a_members a_wasSet a_watchNode a_selects a_selectedBefore := by
  intro d
  induction d with
  | zero =>
    intro x R' hx H
    obtain rfl : x = 32 := by omega
    exact br_t dp_le32 (h R' (dp_In_32 H).1 (dp_In_32 H).2)
  | succ d ih =>
    intro x R' hx H
    have e1 : R' (32 * e + x) = p x := by rw [H.2 x (by omega), dp_mx_hi (Nat.le_refl _)]
    have go : ∀ k, k = dp_nk a (p x) → wX_keepNth_2 post a (nI (32 * e)) (nI c) f_present f_height (d + 1) (nI (x + 1)) (fun j => nI (o j)) (fun j => nI (lv j)) a_tags a_values a_ranks a_ends a_parents a_run a_kinds a_numbers a_lengths a_entryIsPath (upd R' (32 * e + x) (dp_ob o (dp_fk (fun i => bt (p x) (o i)) k c))) a_members a_wasSet a_watchNode a_selects a_selectedBefore := fun k hk => ih (x + 1) _ (by omega) (dp_In_s H (by omega) (by rw [hk]; rfl))
    refine br_f (dp_ge32 (by omega)) (nm_e (br_c (fun z => ?_) (fun z => ?_)))
    · exact xx_nth_32 ho hc he (by omega) e1 (go _ (by unfold dp_nk; rw [if_neg (Int32.not_lt.mpr z)]))
    · rw [nI_add]
      refine ⟨dp_v256 (by omega), ?_⟩
      rw [dp_cl256 (by omega), e1]
      refine xx_countBits (nm_e (xx_nth_32 ho hc he (by omega) e1 (go _ ?_)))
      unfold dp_nk
      rw [if_pos (Int32.not_le.mp z)]
theorem xx_keepNth (ho : ∀ r, o r < 32) (hc : c ≤ 32) (he : e < 8) (hp : ∀ x, x < 32 → R (32 * e + x) = p x) {post : SX → Prop} (h : ∀ R', dp_ag R R' e → (∀ x, x < 32 → R' (32 * e + x) = dp_nt c o a (p x)) → post ((nI c), f_present, f_height, (fun j => nI (o j)), (fun j => nI (lv j)), a_tags, a_values, a_ranks, a_ends, a_parents, a_run, a_kinds, a_numbers, a_lengths, a_entryIsPath, R', a_members, a_wasSet, a_watchNode, a_selects, a_selectedBefore)) : wpX_keepNth post ((nI c), f_present, f_height, (fun j => nI (o j)), (fun j => nI (lv j)), a_tags, a_values, a_ranks, a_ends, a_parents, a_run, a_kinds, a_numbers, a_lengths, a_entryIsPath, R, a_members, a_wasSet, a_watchNode, a_selects, a_selectedBefore) a (nI (32 * e)) := ⟨33, xx_nth_l ho hc he h 32 0 R rfl (dp_In_0 hp)⟩
/-! conditions -/
theorem xx_from_values_l (ho : ∀ r, o r < 32) (hc : c ≤ 32) {s m : Int32} {post : Int32 → Prop} (h : post (dp_al c o a_values s m)) : ∀ d i, i + d = c → wX_nodesFromTo__values_6 post s m (nI c) f_present f_height (fun j => nI (o j)) (fun j => nI (lv j)) a_tags a_values a_ranks a_ends a_parents a_run a_kinds a_numbers a_lengths a_entryIsPath a_rows a_members a_wasSet a_watchNode a_selects a_selectedBefore (d + 1) (dp_fr o (fun r => decide (s ≤ a_values (o r) ∧ a_values (o r) ≤ m)) i) (nI i) := by
  intro d
  induction d with
  | zero =>
    intro i hi
    obtain rfl : i = c := by omega
    exact br_t (nI_le (Nat.le_refl _) (by omega)) h
  | succ d ih =>
    intro i hi
    have := ih (i + 1) (by omega)
    refine br_f (nI_ge (by omega) (by omega)) ⟨dp_v32 (by omega), ?_⟩
    simp only [dp_cl32 (show i < 32 by omega), dp_cl32 (ho i)]
    refine ⟨dp_v32 (ho i), nm_e (br_c (fun z => ?_) (fun z => br_c (fun y => ?_) (fun y => ⟨dp_v32 (by omega), ?_⟩)))⟩
    · rw [dp_fr_f (fun w => absurd (of_decide_eq_true w).1 (Int32.not_le.mpr z))] at this
      exact nm_r (nI_1 i) this
    · rw [dp_fr_f (fun w => absurd (of_decide_eq_true w).2 (Int32.not_le.mpr y))] at this
      exact nm_r (nI_1 i) this
    · rw [dp_fr_t (decide_eq_true ⟨Int32.not_lt.mp z, Int32.not_lt.mp y⟩)] at this
      exact nm_e (nm_r (nI_1 i) this)
theorem xx_from_values (ho : ∀ r, o r < 32) (hc : c ≤ 32) {s m : Int32} {post : Int32 → Prop} (h : post (dp_al c o a_values s m)) : wpX_nodesFromTo__values post ((nI c), f_present, f_height, (fun j => nI (o j)), (fun j => nI (lv j)), a_tags, a_values, a_ranks, a_ends, a_parents, a_run, a_kinds, a_numbers, a_lengths, a_entryIsPath, a_rows, a_members, a_wasSet, a_watchNode, a_selects, a_selectedBefore) s m := ⟨_, xx_from_values_l ho hc h c 0 (Nat.zero_add c)⟩
theorem xx_from_tags_l (ho : ∀ r, o r < 32) (hc : c ≤ 32) {s m : Int32} {post : Int32 → Prop} (h : post (dp_al c o a_tags s m)) : ∀ d i, i + d = c → wX_nodesFromTo__tags_6 post s m (nI c) f_present f_height (fun j => nI (o j)) (fun j => nI (lv j)) a_tags a_values a_ranks a_ends a_parents a_run a_kinds a_numbers a_lengths a_entryIsPath a_rows a_members a_wasSet a_watchNode a_selects a_selectedBefore (d + 1) (dp_fr o (fun r => decide (s ≤ a_tags (o r) ∧ a_tags (o r) ≤ m)) i) (nI i) := by
  intro d
  induction d with
  | zero =>
    intro i hi
    obtain rfl : i = c := by omega
    exact br_t (nI_le (Nat.le_refl _) (by omega)) h
  | succ d ih =>
    intro i hi
    have := ih (i + 1) (by omega)
    refine br_f (nI_ge (by omega) (by omega)) ⟨dp_v32 (by omega), ?_⟩
    simp only [dp_cl32 (show i < 32 by omega), dp_cl32 (ho i)]
    refine ⟨dp_v32 (ho i), nm_e (br_c (fun z => ?_) (fun z => br_c (fun y => ?_) (fun y => ⟨dp_v32 (by omega), ?_⟩)))⟩
    · rw [dp_fr_f (fun w => absurd (of_decide_eq_true w).1 (Int32.not_le.mpr z))] at this
      exact nm_r (nI_1 i) this
    · rw [dp_fr_f (fun w => absurd (of_decide_eq_true w).2 (Int32.not_le.mpr y))] at this
      exact nm_r (nI_1 i) this
    · rw [dp_fr_t (decide_eq_true ⟨Int32.not_lt.mp z, Int32.not_lt.mp y⟩)] at this
      exact nm_e (nm_r (nI_1 i) this)
theorem xx_from_tags (ho : ∀ r, o r < 32) (hc : c ≤ 32) {s m : Int32} {post : Int32 → Prop} (h : post (dp_al c o a_tags s m)) : wpX_nodesFromTo__tags post ((nI c), f_present, f_height, (fun j => nI (o j)), (fun j => nI (lv j)), a_tags, a_values, a_ranks, a_ends, a_parents, a_run, a_kinds, a_numbers, a_lengths, a_entryIsPath, a_rows, a_members, a_wasSet, a_watchNode, a_selects, a_selectedBefore) s m := ⟨_, xx_from_tags_l ho hc h c 0 (Nat.zero_add c)⟩
theorem xx_many_l (he : e < 8) {post : Int32 → Prop} (hp : ∀ x, x < 32 → a_rows (32 * e + x) = p x) (h : post (dp_mk (fun x => decide (a ≤ nI (dp_fc (bt (p x)) 32))) 32)) : ∀ d x, x + d = 32 → wX_nodesWithMany_5 post a (nI (32 * e)) f_size f_present f_height a_order a_levels a_tags a_values a_ranks a_ends a_parents a_run a_kinds a_numbers a_lengths a_entryIsPath a_rows a_members a_wasSet a_watchNode a_selects a_selectedBefore (d + 1) (dp_mk (fun x => decide (a ≤ nI (dp_fc (bt (p x)) 32))) x) (nI x) := by
  intro d
  induction d with
  | zero =>
    intro x hx
    obtain rfl : x = 32 := by omega
    exact br_t dp_le32 h
  | succ d ih =>
    intro x hx
    have := ih (x + 1) (by omega)
    refine br_f (dp_ge32 (by omega)) ?_
    simp only [nI_add, dp_cl256 (show 32 * e + x < 256 by omega), hp x (by omega)]
    refine ⟨dp_v256 (by omega), xx_countBits (br_c (fun z => ?_) (fun z => ?_))⟩
    · rw [dp_mk_f (fun w => absurd (of_decide_eq_true w) (Int32.not_le.mpr z))] at this
      exact nm_r (nI_1 x) this
    · rw [dp_mk_t (decide_eq_true (Int32.not_lt.mp z))] at this
      exact nm_e (nm_r (nI_1 x) this)
theorem xx_many (he : e < 8) {post : Int32 → Prop} (hp : ∀ x, x < 32 → a_rows (32 * e + x) = p x) (h : post (dp_mk (fun x => decide (a ≤ nI (dp_fc (bt (p x)) 32))) 32)) : wpX_nodesWithMany post (f_size, f_present, f_height, a_order, a_levels, a_tags, a_values, a_ranks, a_ends, a_parents, a_run, a_kinds, a_numbers, a_lengths, a_entryIsPath, a_rows, a_members, a_wasSet, a_watchNode, a_selects, a_selectedBefore) a (nI (32 * e)) := ⟨33, xx_many_l he hp h 32 0 rfl⟩
/-- the set while nodes r and numbers x are gone through -/
def dp_Ms (c : Nat) (o : Nat → Nat) (vs : Nat → Int32) (p q : Nat → Int32) (r x : Nat) (s : Int32) : Prop := ∀ i, i < 32 → bt s i = (dp_any (fun r => dp_ma c o vs p q r i) r || (decide (i < x) && dp_ma c o vs p q r i))
theorem dp_Ms_row {vs : Nat → Int32} {r : Nat} {s : Int32} (h : dp_Ms c o vs p q r 32 s) : dp_Ms c o vs p q (r + 1) 0 s := fun i hi => by
  rw [h i hi, decide_eq_true hi, decide_eq_false (Nat.not_lt_zero i), Bool.true_and, Bool.false_and, Bool.or_false]
  rfl
theorem dp_Ms_t {vs : Nat → Int32} {r x : Nat} {s : Int32} (hx : x < 32) (h : dp_Ms c o vs p q r x s) (z : dp_ma c o vs p q r x = true) : dp_Ms c o vs p q r (x + 1) (s ||| dp_bo x) := fun i hi => by
  rw [dp_bt_or _ hx, h i hi]
  by_cases y : i = x
  · subst y
    rw [z, decide_eq_true rfl, decide_eq_true (show i < i + 1 by omega), Bool.or_true, Bool.true_and, Bool.or_true]
  · rw [decide_eq_false y, Bool.or_false]
    rcases Nat.lt_or_ge i x with w | w
    · rw [decide_eq_true w, decide_eq_true (show i < x + 1 by omega)]
    · rw [decide_eq_false (show ¬ i < x by omega), decide_eq_false (show ¬ i < x + 1 by omega)]
theorem dp_Ms_f {vs : Nat → Int32} {r x : Nat} {s : Int32} (h : dp_Ms c o vs p q r x s) (z : dp_ma c o vs p q r x = false) : dp_Ms c o vs p q r (x + 1) s := fun i hi => by
  rw [h i hi]
  by_cases y : i = x
  · subst y
    rw [z, Bool.and_false, Bool.and_false]
  · rcases Nat.lt_or_ge i x with w | w
    · rw [decide_eq_true w, decide_eq_true (show i < x + 1 by omega)]
    · rw [decide_eq_false (show ¬ i < x by omega), decide_eq_false (show ¬ i < x + 1 by omega)]
theorem xx_match_in (ho : ∀ r, o r < 32) (he : e < 7) {r : Nat} (hp : ∀ x, x < 32 → a_rows (32 * e + x) = p x) (hq : ∀ x, x < 32 → a_rows (32 * e + 32 + x) = q x) {post : Int32 → Prop} {J : Int32 → Int32 → Prop} (h : ∀ s, dp_Ms c o a_values p q r 32 s → J s (nI (r + 1))) : ∀ d x s, x + d = 32 → dp_Ms c o a_values p q r x s → wX_nodesThatMatch_47 post J (nI (32 * e)) (nI r) (nI (o r)) (dp_al c o a_values (a_values (o r)) (a_values (o r))) (nI c) f_present f_height (fun j => nI (o j)) (fun j => nI (lv j)) a_tags a_values a_ranks a_ends a_parents a_run a_kinds a_numbers a_lengths a_entryIsPath a_rows a_members a_wasSet a_watchNode a_selects a_selectedBefore (d + 1) s (nI x) := by
  intro d
  induction d with
  | zero =>
    intro x s hx H
    obtain rfl : x = 32 := by omega
    exact br_t dp_le32 (nm_r (nI_1 r) (h s H))
  | succ d ih =>
    intro x s hx H
    refine br_f (dp_ge32 (by omega)) ?_
    simp only [dp_p32, nI_add, dp_cl256 (show 32 * e + 32 + x < 256 by omega), hq x (by omega)]
    refine ⟨dp_v256 (by omega), br_c (fun z => ?_) (fun z => ?_)⟩
    · refine br_t rfl (nm_r (nI_1 x) (ih (x + 1) s (by omega) (dp_Ms_f H ?_)))
      unfold dp_ma
      rw [decide_eq_false (fun w => w z), Bool.and_false]
    · refine br_f (by decide) ?_
      simp only [nI_add, dp_cl256 (show 32 * e + x < 256 by omega), hp x (by omega), dp_xb _ (ho r)]
      refine ⟨dp_v256 (by omega), ?_⟩
      by_cases y : bt (p x) (o r) = true
      · rw [dp_c_t y]
        refine br_t rfl (nm_e (nm_r (nI_1 x) (ih (x + 1) _ (by omega) (dp_Ms_t (by omega) H ?_))))
        unfold dp_ma
        rw [y, decide_eq_true z, Bool.true_and]
      · rw [dp_c_f (Bool.eq_false_iff.mpr y)]
        refine br_f (by decide) (nm_r (nI_1 x) (ih (x + 1) s (by omega) (dp_Ms_f H ?_)))
        unfold dp_ma
        rw [Bool.eq_false_iff.mpr y, Bool.false_and]
theorem xx_match_l (ho : ∀ r, o r < 32) (hc : c ≤ 32) (he : e < 7) (hp : ∀ x, x < 32 → a_rows (32 * e + x) = p x) (hq : ∀ x, x < 32 → a_rows (32 * e + 32 + x) = q x) {post : Int32 → Prop} (h : ∀ s, dp_Ms c o a_values p q c 0 s → post s) : ∀ d r s, r + d = c → dp_Ms c o a_values p q r 0 s → wX_nodesThatMatch_4 post (nI (32 * e)) (nI c) f_present f_height (fun j => nI (o j)) (fun j => nI (lv j)) a_tags a_values a_ranks a_ends a_parents a_run a_kinds a_numbers a_lengths a_entryIsPath a_rows a_members a_wasSet a_watchNode a_selects a_selectedBefore (d + 1) s (nI r) := by
  intro d
  induction d with
  | zero =>
    intro r s hr H
    obtain rfl : r = c := by omega
    exact br_t (nI_le (Nat.le_refl _) (by omega)) (h s H)
  | succ d ih =>
    intro r s hr H
    refine br_f (nI_ge (by omega) (by omega)) ⟨dp_v32 (by omega), ?_⟩
    rw [dp_cl32 (show r < 32 by omega)]
    refine nm_e ⟨dp_v32 (ho r), dp_v32 (ho r), ?_⟩
    rw [dp_cl32 (ho r)]
    exact xx_from_values ho hc ⟨33, xx_match_in ho he hp hq (fun s2 H2 => ih (r + 1) s2 (by omega) (dp_Ms_row H2)) 32 0 s rfl H⟩
theorem xx_match (T : dp_Tr c o lv pr) (he : e < 7) (hp : ∀ x, x < 32 → a_rows (32 * e + x) = p x) (hq : ∀ x, x < 32 → a_rows (32 * e + 32 + x) = q x) (h1 : dp_PP pr p) (h2 : dp_PP pr q) {post : Int32 → Prop} (h : post (dp_mk (fun x => dp_mt a_values (p x) (q x)) 32)) : wpX_nodesThatMatch post ((nI c), f_present, f_height, (fun j => nI (o j)), (fun j => nI (lv j)), a_tags, a_values, a_ranks, a_ends, a_parents, a_run, a_kinds, a_numbers, a_lengths, a_entryIsPath, a_rows, a_members, a_wasSet, a_watchNode, a_selects, a_selectedBefore) (nI (32 * e)) := by
  refine ⟨c + 1, xx_match_l T.1.2.2.1 T.1.1 he hp hq (fun s H => ?_) c 0 0 (Nat.zero_add c) (fun i hi => ?_)⟩
  · have : s = dp_mk (fun x => dp_mt a_values (p x) (q x)) 32 := b_ext fun i hi => by
      rw [H i hi, dp_mk_32 _ hi, decide_eq_false (Nat.not_lt_zero i), Bool.false_and, Bool.or_false]
      exact dp_ma_mt T.1.2.2.1 T.2.1 h1 h2 hi
    rw [this]; exact h
  · rw [b_0, decide_eq_false (Nat.not_lt_zero i), Bool.false_and]; rfl
end XQ
end
section
/-! the reference's work on entries -/
theorem dp_upd2 (R : Nat → Int32) (i : Nat) (x y : Int32) : upd (upd R i x) i y = upd R i y := by
  funext j
  show (if j = i then y else if j = i then x else R j) = if j = i then y else R j
  by_cases z : j = i
  · rw [if_pos z, if_pos z]
  · rw [if_neg z, if_neg z, if_neg z]
theorem dp_upd_id (R : Nat → Int32) (i : Nat) : upd R i (R i) = R := by
  funext j
  show (if j = i then R i else R j) = R j
  by_cases z : j = i
  · rw [if_pos z, z]
  · rw [if_neg z]
section YO
variable {f_count f_height : Int32} {a_list a_there a_above a_tags a_values a_held a_twin a_kinds a_args a_sizes a_isPath a_rows a_spare a_isSet a_alive a_edited a_watchNode a_before : Nat → Int32} {c e : Nat} {o lv : Nat → Nat} {pr a : Int32} {p q R : Nat → Int32}
theorem yy_in {w : Int32} {n : Nat} (hn : n < 32) {post : Int32 → Prop} (h : post (dp_c (bt w n))) : wpY_in post (f_count, f_height, a_list, a_there, a_above, a_tags, a_values, a_held, a_twin, a_kinds, a_args, a_sizes, a_isPath, a_rows, a_spare, a_isSet, a_alive, a_edited, a_watchNode, a_before) w (nI n) := by
  show ((((w >>> (nI n &&& 31)) &&& 1) = 1 → post 1) ∧ (¬ ((w >>> (nI n &&& 31)) &&& 1) = 1 → post 0))
  rw [dp_yb w hn]
  cases z : bt w n
  · rw [z] at h; exact br_f (by decide) h
  · rw [z] at h; exact br_t rfl h
theorem yy_ones_l {w : Int32} {post : Int32 → Prop} (h : post (nI (dp_fc (bt w) 32))) : ∀ d i, i + d = 32 → wY_ones_4 post w f_count f_height a_list a_there a_above a_tags a_values a_held a_twin a_kinds a_args a_sizes a_isPath a_rows a_spare a_isSet a_alive a_edited a_watchNode a_before (d + 1) (nI (dp_fc (bt w) i)) (nI i) := by
  intro d
  induction d with
  | zero =>
    intro i hi
    obtain rfl : i = 32 := by omega
    exact br_t dp_le32 h
  | succ d ih =>
    intro i hi
    refine br_f (dp_ge32 (by omega)) (nm_r ?_ (nm_r (nI_1 i) (ih (i + 1) (by omega))))
    rw [dp_yb w (by omega), dp_fc_add]
theorem yy_ones {w : Int32} {post : Int32 → Prop} (h : post (nI (dp_fc (bt w) 32))) : wpY_ones post (f_count, f_height, a_list, a_there, a_above, a_tags, a_values, a_held, a_twin, a_kinds, a_args, a_sizes, a_isPath, a_rows, a_spare, a_isSet, a_alive, a_edited, a_watchNode, a_before) w := ⟨_, yy_ones_l h 32 0 rfl⟩
theorem yy_kth_l (ho : ∀ r, o r < 32) (hc : c ≤ 32) {w k : Int32} {post : Int32 → Prop} (h : post (dp_an o (-2) (dp_fk (fun i => bt w (o i)) k c))) : ∀ d i, i + d = c → dp_fk (fun i => bt w (o i)) k i = none → wY_kth_5 post w (nI c) f_height (fun j => nI (o j)) a_there a_above a_tags a_values a_held a_twin a_kinds a_args a_sizes a_isPath a_rows a_spare a_isSet a_alive a_edited a_watchNode a_before (d + 1) (k - nI (dp_fc (fun i => bt w (o i)) i)) (nI i) := by
  intro d
  induction d with
  | zero =>
    intro i hi hn
    obtain rfl : i = c := by omega
    rw [hn] at h
    exact br_t (nI_le (Nat.le_refl _) (by omega)) h
  | succ d ih =>
    intro i hi hn
    refine br_f (nI_ge (by omega) (by omega)) ⟨dp_v32 (by omega), ?_⟩
    rw [dp_cl32 (show i < 32 by omega)]
    refine yy_in (ho i) ?_
    cases e : bt w (o i)
    · refine br_t rfl (nm_r (nI_1 i) ?_)
      have := ih (i + 1) (by omega) (dp_fk_miss hn (fun z => by rw [e] at z; exact absurd z.1 (by decide)))
      rw [dp_fc_f (P := fun i => bt w (o i)) e] at this; exact this
    · refine br_f (by decide) ?_
      by_cases z : nI (dp_fc (fun i => bt w (o i)) i) = k
      · refine br_t (dp_left0.mpr z) ⟨dp_v32 (by omega), ?_⟩
        rw [dp_fk_up (dp_fk_hit (P := fun i => bt w (o i)) hn e z) (show i + 1 ≤ c by omega)] at h
        exact h
      · refine br_f (fun w => z (dp_left0.mp w)) (nm_r (dp_left _ _) (nm_r (nI_1 i) ?_))
        have := ih (i + 1) (by omega) (dp_fk_miss hn (fun w => z w.2))
        rw [dp_fc_t (P := fun i => bt w (o i)) e] at this; exact this
theorem yy_kth (ho : ∀ r, o r < 32) (hc : c ≤ 32) {w k : Int32} {post : Int32 → Prop} (h : post (dp_an o (-2) (dp_fk (fun i => bt w (o i)) k c))) : wpY_kth post ((nI c), f_height, (fun j => nI (o j)), a_there, a_above, a_tags, a_values, a_held, a_twin, a_kinds, a_args, a_sizes, a_isPath, a_rows, a_spare, a_isSet, a_alive, a_edited, a_watchNode, a_before) w k := by
  refine ⟨c + 1, ?_⟩
  have := yy_kth_l (f_height := f_height) (a_there := a_there) (a_above := a_above) (a_tags := a_tags) (a_values := a_values) (a_held := a_held) (a_twin := a_twin) (a_kinds := a_kinds) (a_args := a_args) (a_sizes := a_sizes) (a_isPath := a_isPath) (a_rows := a_rows) (a_spare := a_spare) (a_isSet := a_isSet) (a_alive := a_alive) (a_edited := a_edited) (a_watchNode := a_watchNode) (a_before := a_before) ho hc h c 0 (Nat.zero_add c) rfl
  rw [show dp_fc (fun i => bt w (o i)) 0 = 0 from rfl, dp_sub0] at this
  exact this
theorem yy_nth_33 (ho : ∀ r, o r < 32) {post : Int32 → Prop} {z : Option Nat} (h : post (dp_ob o z)) : wY_nthOf_33 post (dp_an o (-2) z) f_count f_height a_list a_there a_above a_tags a_values a_held a_twin a_kinds a_args a_sizes a_isPath a_rows a_spare a_isSet a_alive a_edited a_watchNode a_before := by
  cases z with
  | none => exact br_f (show ¬ (0 : Int32) ≤ -2 by decide) h
  | some i => have := ho i; exact br_t (nI_pos' (by omega)) h
theorem yy_nth_17 (ho : ∀ r, o r < 32) (hc : c ≤ 32) {w k : Int32} {post : Int32 → Prop} (h : post (dp_ob o (dp_fk (fun i => bt w (o i)) k c))) : wY_nthOf_17 post w k (nI c) f_height (fun j => nI (o j)) a_there a_above a_tags a_values a_held a_twin a_kinds a_args a_sizes a_isPath a_rows a_spare a_isSet a_alive a_edited a_watchNode a_before := by
  refine br_c (fun _ => yy_kth ho hc (yy_nth_33 ho h)) (fun z => ?_)
  rw [dp_fk_neg (Int32.not_le.mp z) (by omega)] at h
  exact yy_nth_33 (z := none) ho h
theorem yy_nthOf (ho : ∀ r, o r < 32) (hc : c ≤ 32) {w : Int32} (ha : a ≠ 0) {post : Int32 → Prop} (h : post (dp_nt c o a w)) : wpY_nthOf post ((nI c), f_height, (fun j => nI (o j)), a_there, a_above, a_tags, a_values, a_held, a_twin, a_kinds, a_args, a_sizes, a_isPath, a_rows, a_spare, a_isSet, a_alive, a_edited, a_watchNode, a_before) w a := by
  unfold dp_nt dp_nk at h
  refine br_c (fun z => ?_) (fun z => ?_)
  · rw [if_pos (Int32.lt_iff_le_and_ne.mpr ⟨z, ha⟩)] at h
    exact yy_ones (yy_nth_17 ho hc h)
  · rw [if_neg (fun w => z (Int32.le_of_lt w))] at h
    exact yy_nth_17 ho hc h
theorem yy_onAxis_34 (T : dp_Tc c o lv) (A : dp_Ab c o (fun r => lv (o r)) a_above) {i j : Nat} (hi : i < c) (hj : j < c) {post : Int32 → Prop} (h : post (dp_c (dp_ax (fun r => lv (o r)) c a i j))) : wY_onAxis_34 post a (nI (o i)) (nI (o j)) (dp_c (decide (i < j))) (dp_c (decide (i ≠ j ∧ 0 < i ∧ 0 < j ∧ dp_pa (fun r => lv (o r)) i = dp_pa (fun r => lv (o r)) j))) (nI c) f_height (fun j => nI (o j)) a_there a_above a_tags a_values a_held a_twin a_kinds a_args a_sizes a_isPath a_rows a_spare a_isSet a_alive a_edited a_watchNode a_before := by
  have t1 := T.1
  have t3 := T.2.2.1
  have ei := (dp_en_spec (fun r => lv (o r)) hi).1
  have ej := (dp_en_spec (fun r => lv (o r)) hj).1
  have oi := t3 i
  have oj := t3 j
  have inj : nI (o i) = nI (o j) ↔ i = j := ⟨fun e => T.2.2.2.1 _ _ hi hj (dp_inj (by omega) (by omega) e), fun e => by rw [e]⟩
  have ask1 := dp_ask T A hi hj
  have ask2 := dp_ask T A hj hi
  unfold wY_onAxis_34
  simp only [dp_cl32 oi, dp_cl32 oj, inj, ask1, ask2]
  have pd : ∀ {p : Prop} [inst : Decidable p], post (dp_c (decide p)) → ((p → post 1) ∧ (¬ p → post 0)) := fun {p} _ h => by
    by_cases z : p
    · rw [dp_c_t (decide_eq_true z)] at h; exact br_t z h
    · rw [dp_c_f (decide_eq_false z)] at h; exact br_f z h
  have nb : ∀ b : Bool, post (dp_c b) → narrow .boolean (.int (dp_c b)) = .int (dp_c b) ∧ post (dp_c b) := fun b h => ⟨by cases b <;> rfl, h⟩
  have pp : ∀ {b b' : Bool}, b = b' → post (dp_c b) → post (dp_c b') := fun e h => by rw [← e]; exact h
  have df : a ≠ 0 → a ≠ 1 → a ≠ 2 → a ≠ 3 → a ≠ 4 → a ≠ 5 → a ≠ 6 → a ≠ 7 → ((i = j → post 0) ∧ (¬ i = j → ((dp_c (decide (i < j)) = 0 → wpY_isBelow (fun r => (r = 0 → post 1) ∧ (¬ r = 0 → post 0)) ((nI c), f_height, (fun j => nI (o j)), a_there, a_above, a_tags, a_values, a_held, a_twin, a_kinds, a_args, a_sizes, a_isPath, a_rows, a_spare, a_isSet, a_alive, a_edited, a_watchNode, a_before) (nI (o i)) (nI (o j))) ∧ (¬ dp_c (decide (i < j)) = 0 → post 0)))) := fun h0 h1 h2 h3 h4 h5 h6 h7 => by
    unfold dp_ax at h
    rw [if_neg h0, if_neg h1, if_neg h2, if_neg h3, if_neg h4, if_neg h5, if_neg h6, if_neg h7] at h
    have no : i ≤ j → post 0 := fun z => by
      rw [dp_c_f (decide_eq_false (by omega))] at h; exact h
    refine br_c (fun z => no (by omega)) (fun z => br_c (fun y => ?_) (fun y => ?_))
    · rw [dp_c_0, decide_eq_false_iff_not] at y
      refine yy_isBelow T A hi hj ?_
      by_cases x : j < i ∧ i < dp_en (fun r => lv (o r)) c j
      · rw [dp_c_t (decide_eq_true x)]
        rw [dp_c_f (decide_eq_false (by omega))] at h
        exact br_f (by decide) h
      · rw [dp_c_f (decide_eq_false x)]
        rw [dp_c_t (decide_eq_true (by omega))] at h
        exact br_t rfl h
    · rw [dp_c_0, decide_eq_false_iff_not] at y
      exact no (by omega)
  by_cases h0 : a = 0
  · subst h0
    refine br_f (by decide) (br_f (by decide) (br_t rfl (pd (pp (b := decide (j = i)) ?_ h))))
    rw [decide_eq_decide]; exact ⟨Eq.symm, Eq.symm⟩
  by_cases h1 : a = 1
  · subst h1
    refine br_f (by decide) (br_f (by decide) (br_f (by decide) (br_t rfl ⟨dp_v32 oj, ?_⟩)))
    rw [dp_ch_iff]
    exact pd h
  by_cases h2 : a = 2
  · subst h2
    refine br_f (by decide) (br_f (by decide) (br_f (by decide) (br_f (by decide) (br_t rfl ⟨dp_v32 oi, ?_⟩))))
    rw [dp_ch_iff]
    exact pd h
  by_cases h3 : a = 3
  · subst h3
    exact br_f (by decide) (br_f (by decide) (br_f (by decide) (br_f (by decide) (br_f (by decide) (br_t rfl (yy_isBelow T A hj hi (nb _ h)))))))
  by_cases h4 : a = 4
  · subst h4
    exact br_f (by decide) (br_f (by decide) (br_f (by decide) (br_f (by decide) (br_f (by decide) (br_f (by decide) (br_t rfl (yy_isBelow T A hi hj (nb _ h))))))))
  by_cases h5 : a = 5
  · subst h5
    refine br_f (by decide) (br_f (by decide) (br_f (by decide) (br_f (by decide) (br_f (by decide) (br_f (by decide) (br_f (by decide) (br_t rfl ?_)))))))
    have h' : post (dp_c (decide (i < j ∧ 0 < i ∧ 0 < j ∧ dp_pa (fun r => lv (o r)) i = dp_pa (fun r => lv (o r)) j))) := h
    simp only [dp_c_0, decide_eq_false_iff_not]
    refine br_c (fun z => ?_) (fun z => br_c (fun y => ?_) (fun y => ?_))
    · rw [dp_c_f (decide_eq_false (fun q => z ⟨by omega, q.2⟩))] at h'; exact h'
    · rw [dp_c_f (decide_eq_false (fun q => y q.1))] at h'; exact h'
    · rw [dp_c_t (decide_eq_true ⟨Classical.not_not.mp y, (Classical.not_not.mp z).2⟩)] at h'; exact h'
  by_cases h6 : a = 6
  · subst h6
    refine br_f (by decide) (br_f (by decide) (br_f (by decide) (br_f (by decide) (br_f (by decide) (br_f (by decide) (br_f (by decide) (br_f (by decide) (br_t rfl ?_))))))))
    have h' : post (dp_c (decide (j < i ∧ 0 < i ∧ 0 < j ∧ dp_pa (fun r => lv (o r)) i = dp_pa (fun r => lv (o r)) j))) := h
    simp only [dp_c_0, decide_eq_false_iff_not]
    refine br_c (fun z => ?_) (fun z => br_c (fun y => ?_) (fun y => ?_))
    · rw [dp_c_f (decide_eq_false (fun q => z ⟨by omega, q.2⟩))] at h'; exact h'
    · have z' := Classical.not_not.mp z
      rw [dp_c_t (decide_eq_true ⟨by omega, z'.2⟩)] at h'; exact h'
    · rw [dp_c_f (decide_eq_false (fun q => y (by omega)))] at h'; exact h'
  by_cases h7 : a = 7
  · subst h7
    refine br_f (by decide) (br_f (by decide) (br_f (by decide) (br_f (by decide) (br_f (by decide) (br_f (by decide) (br_f (by decide) (br_f (by decide) (br_f (by decide) (br_t rfl ?_)))))))))
    have h' : post (dp_c (decide (dp_en (fun r => lv (o r)) c i ≤ j))) := h
    simp only [dp_c_0, decide_eq_false_iff_not]
    refine br_c (fun z => ?_) (fun z => ?_)
    · rw [dp_c_f (decide_eq_false (by omega))] at h'; exact h'
    · refine yy_isBelow T A hj hi ?_
      by_cases x : i < j ∧ j < dp_en (fun r => lv (o r)) c i
      · rw [dp_c_t (decide_eq_true x)]
        rw [dp_c_f (decide_eq_false (by omega))] at h'
        exact br_f (by decide) h'
      · rw [dp_c_f (decide_eq_false x)]
        rw [dp_c_t (decide_eq_true (by omega))] at h'
        exact br_t rfl h'
  have d := df h0 h1 h2 h3 h4 h5 h6 h7
  exact br_c (fun _ => d) (fun _ => br_c (fun _ => d) (fun _ => br_f h0 (br_f h1 (br_f h2 (br_f h3 (br_f h4 (br_f h5 (br_f h6 (br_f h7 trivial)))))))))
theorem yy_onAxis (T : dp_Tc c o lv) (A : dp_Ab c o (fun r => lv (o r)) a_above) {i j : Nat} (hi : i < c) (hj : j < c) {post : Int32 → Prop} (h : post (dp_c (dp_ax (fun r => lv (o r)) c a i j))) : wpY_onAxis post ((nI c), f_height, (fun j => nI (o j)), a_there, a_above, a_tags, a_values, a_held, a_twin, a_kinds, a_args, a_sizes, a_isPath, a_rows, a_spare, a_isSet, a_alive, a_edited, a_watchNode, a_before) a (nI (o i)) (nI (o j)) (dp_c (decide (i < j))) := by
  have t3 := T.2.2.1
  have oi := t3 i
  have oj := t3 j
  have go := yy_onAxis_34 (f_height := f_height) (a_there := a_there) (a_above := a_above) (a_tags := a_tags) (a_values := a_values) (a_held := a_held) (a_twin := a_twin) (a_kinds := a_kinds) (a_args := a_args) (a_sizes := a_sizes) (a_isPath := a_isPath) (a_rows := a_rows) (a_spare := a_spare) (a_isSet := a_isSet) (a_alive := a_alive) (a_edited := a_edited) (a_watchNode := a_watchNode) (a_before := a_before) (post := post) T A hi hj h
  have fam : ¬ (i ≠ j ∧ 0 < i ∧ 0 < j ∧ dp_pa (fun r => lv (o r)) i = dp_pa (fun r => lv (o r)) j) → wY_onAxis_33 post a (nI (o i)) (nI (o j)) (dp_c (decide (i < j))) (nI c) f_height (fun j => nI (o j)) a_there a_above a_tags a_values a_held a_twin a_kinds a_args a_sizes a_isPath a_rows a_spare a_isSet a_alive a_edited a_watchNode a_before := fun z => by
    rw [dp_c_f (decide_eq_false z)] at go; exact go
  have oi' := t3 (dp_pa (fun r => lv (o r)) i)
  have oj' := t3 (dp_pa (fun r => lv (o r)) j)
  refine br_c (fun z => fam (fun q => q.1 (T.2.2.2.1 _ _ hi hj (dp_inj (by omega) (by omega) z)))) (fun z => ⟨dp_v32 oi, ?_⟩)
  have zn : i ≠ j := fun e => z (by rw [e])
  simp only [dp_cl32 oi, dp_cl32 oj]
  rw [A i hi]
  by_cases zi : i = 0
  · rw [if_pos zi]
    exact br_t (by decide) (fam (fun q => by omega))
  · rw [if_neg zi]
    refine br_f (nI_pos (by omega)) ⟨dp_v32 oi, dp_v32 oj, ?_⟩
    rw [A j hj]
    by_cases zj : j = 0
    · rw [if_pos zj]
      exact br_f (dp_nle1 (by omega)) (fam (fun q => by omega))
    · have pi := dp_wf_pl T.2.2.2.2 (show 0 < i by omega) hi
      have pj := dp_wf_pl T.2.2.2.2 (show 0 < j by omega) hj
      rw [if_neg zj]
      by_cases y : dp_pa (fun r => lv (o r)) i = dp_pa (fun r => lv (o r)) j
      · rw [dp_c_t (decide_eq_true (show i ≠ j ∧ 0 < i ∧ 0 < j ∧ dp_pa (fun r => lv (o r)) i = dp_pa (fun r => lv (o r)) j from ⟨zn, by omega, by omega, y⟩))] at go
        exact br_t (by rw [y]) go
      · exact br_f (fun e => y (T.2.2.2.1 _ _ (by omega) (by omega) (dp_inj (by omega) (by omega) e))) (fam (fun q => y q.2.2.2))
theorem yy_axisRow_l (T : dp_Tc c o lv) (A : dp_Ab c o (fun r => lv (o r)) a_above) {i : Nat} (hi : i < c) {post : Int32 → Prop} (h : post (dp_fr o (dp_ax (fun r => lv (o r)) c a i) c)) : ∀ d j, j + d = c → wY_axisRow_12 post a (nI (o i)) (nI i) (nI c) f_height (fun j => nI (o j)) a_there a_above a_tags a_values a_held a_twin a_kinds a_args a_sizes a_isPath a_rows a_spare a_isSet a_alive a_edited a_watchNode a_before (d + 1) (dp_fr o (dp_ax (fun r => lv (o r)) c a i) j) (nI j) := by
  have t1 := T.1
  have t3 := T.2.2.1
  intro d
  induction d with
  | zero =>
    intro j hj
    obtain rfl : j = c := by omega
    exact br_t (nI_le (Nat.le_refl _) (by omega)) h
  | succ d ih =>
    intro j hj
    have := ih (j + 1) (by omega)
    have go : wY_axisRow_43 post (wY_axisRow_12 post a (nI (o i)) (nI i) (nI c) f_height (fun j => nI (o j)) a_there a_above a_tags a_values a_held a_twin a_kinds a_args a_sizes a_isPath a_rows a_spare a_isSet a_alive a_edited a_watchNode a_before (d + 1)) a (nI (o i)) (dp_fr o (dp_ax (fun r => lv (o r)) c a i) j) (nI i) (nI j) (dp_c (decide (i < j))) (nI (o j)) (nI (o i)) a (nI c) f_height (fun j => nI (o j)) a_there a_above a_tags a_values a_held a_twin a_kinds a_args a_sizes a_isPath a_rows a_spare a_isSet a_alive a_edited a_watchNode a_before := by
      refine yy_onAxis T A hi (by omega) ?_
      by_cases z : dp_ax (fun r => lv (o r)) c a i j = true
      · rw [z]
        rw [dp_fr_t z] at this
        refine br_f (by decide) ⟨dp_v32 (by omega), ?_⟩
        rw [dp_cl32 (show j < 32 by omega)]
        exact nm_e (nm_r (nI_1 j) this)
      · rw [Bool.eq_false_iff.mpr z]
        rw [dp_fr_f z] at this
        exact br_t rfl (nm_r (nI_1 j) this)
    refine br_f (nI_ge (by omega) (by omega)) ⟨dp_v32 (by omega), ?_⟩
    rw [dp_cl32 (show j < 32 by omega)]
    by_cases z : i < j
    · rw [dp_c_t (decide_eq_true z)] at go
      exact br_f (nI_ge z (by omega)) go
    · rw [dp_c_f (decide_eq_false z)] at go
      exact br_t (nI_le (by omega) (by omega)) go
theorem yy_axisRow (T : dp_Tc c o lv) (A : dp_Ab c o (fun r => lv (o r)) a_above) {i : Nat} (hi : i < c) {post : Int32 → Prop} (h : post (dp_fr o (dp_ax (fun r => lv (o r)) c a i) c)) : wpY_axisRow post ((nI c), f_height, (fun j => nI (o j)), a_there, a_above, a_tags, a_values, a_held, a_twin, a_kinds, a_args, a_sizes, a_isPath, a_rows, a_spare, a_isSet, a_alive, a_edited, a_watchNode, a_before) a (nI (o i)) := yy_place T hi ⟨c + 1, yy_axisRow_l T A hi h c 0 (Nat.zero_add c)⟩
theorem yy_mkc_l (he : e < 8) {s : Int32} {post : SY → Prop} (h : ∀ R', dp_ag R R' e → (∀ x, x < 32 → R' (32 * e + x) = dp_c0 s x) → post (f_count, f_height, a_list, a_there, a_above, a_tags, a_values, a_held, a_twin, a_kinds, a_args, a_sizes, (upd a_isPath e 0), R', a_spare, a_isSet, a_alive, a_edited, a_watchNode, a_before)) : ∀ d x R', x + d = 32 → dp_In R e (dp_mx x (dp_c0 s) p) R' → wY_makeCondition_2 post (nI e) s f_count f_height (d + 1) (nI x) a_list a_there a_above a_tags a_values a_held a_twin a_kinds a_args a_sizes a_isPath R' a_spare a_isSet a_alive a_edited a_watchNode a_before := by
  intro d
  induction d with
  | zero =>
    intro x R' hx H
    obtain rfl : x = 32 := by omega
    refine br_t dp_le32 ⟨dp_v8 he, ?_⟩
    rw [nI_clamp (show e < 2 ^ 31 by omega)]
    exact nm_r (by rfl) (h R' (dp_In_32 H).1 (dp_In_32 H).2)
  | succ d ih =>
    intro x R' hx H
    refine br_f (dp_ge32 (by omega)) ?_
    simp only [dp_32m, nI_add, dp_cl256 (show 32 * e + x < 256 by omega)]
    refine br_c (fun z => ⟨dp_v256 (by omega), nm_e (nm_r (nI_1 x) (ih (x + 1) _ (by omega) (dp_In_s H (by omega) ?_)))⟩) (fun z => ⟨dp_v256 (by omega), nm_e (nm_r (nI_1 x) (ih (x + 1) _ (by omega) (dp_In_s H (by omega) ?_)))⟩)
    · have : x = 0 := dp_inj (by omega) (by omega) z
      rw [this, dp_c0_0]
    · rw [dp_c0_n]
      rcases Nat.eq_zero_or_pos x with y | y
      · exact absurd (by rw [y]; rfl) z
      · exact y
theorem yy_makeCondition (he : e < 8) {s : Int32} {post : SY → Prop} (h : ∀ R', dp_ag R R' e → (∀ x, x < 32 → R' (32 * e + x) = dp_c0 s x) → post (f_count, f_height, a_list, a_there, a_above, a_tags, a_values, a_held, a_twin, a_kinds, a_args, a_sizes, (upd a_isPath e 0), R', a_spare, a_isSet, a_alive, a_edited, a_watchNode, a_before)) : wpY_makeCondition post (f_count, f_height, a_list, a_there, a_above, a_tags, a_values, a_held, a_twin, a_kinds, a_args, a_sizes, a_isPath, R, a_spare, a_isSet, a_alive, a_edited, a_watchNode, a_before) (nI e) s := ⟨33, yy_mkc_l (p := fun x => R (32 * e + x)) he h 32 0 R rfl (dp_In_0 (fun _ _ => rfl))⟩
end YO
end
section
/-! the reference's work on entries: the three kinds of tokens -/
theorem dp_s1 {h : Nat} (hh : 1 ≤ h) : nI h - 1 = nI (h - 1) := by
  obtain ⟨k, rfl⟩ : ∃ k, h = k + 1 := ⟨h - 1, by omega⟩
  rw [nI_pred, Nat.add_sub_cancel]
theorem dp_s2 {h : Nat} (hh : 2 ≤ h) : nI h - 2 = nI (h - 2) := pk_sub (b := 2) hh
section YR
variable {f_count f_height : Int32} {a_list a_there a_above a_tags a_values a_held a_twin a_kinds a_args a_sizes a_isPath a_rows a_spare a_isSet a_alive a_edited a_watchNode a_before : Nat → Int32} {c e : Nat} {o lv : Nat → Nat} {pr a : Int32} {p q R : Nat → Int32}
/-! bare: axis -/
theorem yy_bare0_l {tl : Nat → Int32} (T : dp_Tr c o lv pr) (A : dp_Ab c o (fun r => lv (o r)) a_above) (he : e < 8) {post : SY → Prop} (h : ∀ R', dp_ag R R' e → (∀ x, x < 32 → R' (32 * e + x) = dp_op c o (fun r => lv (o r)) pr a_tags a_values 0 a p q x) → post ((nI c), (nI (e + 1)), (fun j => nI (o j)), (dp_th pr), a_above, a_tags, a_values, a_held, a_twin, a_kinds, a_args, a_sizes, (upd a_isPath e 1), R', a_spare, a_isSet, a_alive, a_edited, a_watchNode, a_before)) : ∀ d x s R', x + d = 32 → dp_In R e (dp_mx x (dp_op c o (fun r => lv (o r)) pr a_tags a_values 0 a p q) tl) R' → wY_bare_11 post 0 a (nI e) (nI c) (nI e) (d + 1) s (nI x) (fun j => nI (o j)) (dp_th pr) a_above a_tags a_values a_held a_twin a_kinds a_args a_sizes a_isPath R' a_spare a_isSet a_alive a_edited a_watchNode a_before := by
  intro d
  induction d with
  | zero =>
    intro x s R' hx H
    obtain rfl : x = 32 := by omega
    refine br_t dp_le32 (br_t rfl ⟨dp_v8 he, ?_⟩)
    rw [nI_clamp (show e < 2 ^ 31 by omega)]
    exact nm_r (by rfl) (nm_r (nI_1 e) (h R' (dp_In_32 H).1 (dp_In_32 H).2))
  | succ d ih =>
    intro x s R' hx H
    refine br_f (dp_ge32 (by omega)) ?_
    simp only [dp_32m, nI_add, dp_cl256 (show 32 * e + x < 256 by omega)]
    refine ⟨dp_v256 (by omega), nm_e ⟨dp_v32 (by omega), ?_⟩⟩
    rw [dp_cl32 (show x < 32 by omega)]
    by_cases z : bt pr x = true
    · obtain ⟨r, hr, rfl⟩ := (T.2.1 x).mp z
      have th : dp_th pr (o r) = 1 := dp_c_t z
      rw [th]
      refine br_f (by decide) (br_t (by trivial) (yy_axisRow T.1 A hr ⟨dp_v256 (by omega), nm_e ⟨dp_v32 (by omega), ?_⟩⟩))
      rw [dp_cl32 (show o r < 32 by omega), th, dp_upd2]
      refine br_f (by decide) (br_t rfl (nm_r (nI_1 _) (ih (o r + 1) s _ (by omega) (dp_In_s H (by omega) ?_))))
      show _ = if bt pr (o r) = true then dp_fr o (dp_ax (fun r => lv (o r)) c a (dp_rk o (o r) c)) c else 0
      rw [if_pos z, dp_rk_o T.1 hr]
    · have th : dp_th pr x = 0 := dp_c_f (Bool.eq_false_iff.mpr z)
      rw [th]
      refine br_t rfl ⟨dp_v32 (by omega), ?_⟩
      rw [dp_cl32 (show x < 32 by omega), th]
      refine br_t rfl (nm_r (nI_1 x) (ih (x + 1) s _ (by omega) (dp_In_s H (by omega) ?_)))
      show _ = if bt pr x = true then _ else 0
      rw [if_neg z]
theorem yy_bare0 (T : dp_Tr c o lv pr) (A : dp_Ab c o (fun r => lv (o r)) a_above) (he : e < 8) {post : SY → Prop} (h : ∀ R', dp_ag R R' e → (∀ x, x < 32 → R' (32 * e + x) = dp_op c o (fun r => lv (o r)) pr a_tags a_values 0 a p q x) → post ((nI c), (nI (e + 1)), (fun j => nI (o j)), (dp_th pr), a_above, a_tags, a_values, a_held, a_twin, a_kinds, a_args, a_sizes, (upd a_isPath e 1), R', a_spare, a_isSet, a_alive, a_edited, a_watchNode, a_before)) : wpY_bare post ((nI c), (nI e), (fun j => nI (o j)), (dp_th pr), a_above, a_tags, a_values, a_held, a_twin, a_kinds, a_args, a_sizes, a_isPath, R, a_spare, a_isSet, a_alive, a_edited, a_watchNode, a_before) 0 a := by
  exact ⟨33, yy_bare0_l (p := p) (q := q) (tl := fun x => R (32 * e + x)) T A he h 32 0 0 R rfl (dp_In_0 (fun _ _ => rfl))⟩
/-! bare: tag and least -/
theorem yy_bare9_l (he : e < 8) {post : SY → Prop} (h : ∀ R', dp_ag R R' e → wY_bare_11 post 9 a (nI e) f_count (nI e) 1 (dp_mk (fun n => bt pr n && decide (a_tags n = a)) 32) (nI 32) a_list (dp_th pr) a_above a_tags a_values a_held a_twin a_kinds a_args a_sizes a_isPath R' a_spare a_isSet a_alive a_edited a_watchNode a_before) : ∀ d x R', x + d = 32 → dp_ag R R' e → wY_bare_11 post 9 a (nI e) f_count (nI e) (d + 1) (dp_mk (fun n => bt pr n && decide (a_tags n = a)) x) (nI x) a_list (dp_th pr) a_above a_tags a_values a_held a_twin a_kinds a_args a_sizes a_isPath R' a_spare a_isSet a_alive a_edited a_watchNode a_before := by
  intro d
  induction d with
  | zero =>
    intro x R' hx ag
    obtain rfl : x = 32 := by omega
    exact h R' ag
  | succ d ih =>
    intro x R' hx ag
    have ih' := fun R2 ag2 => ih (x + 1) R2 (by omega) ag2
    refine br_f (dp_ge32 (by omega)) ?_
    simp only [dp_32m, nI_add, dp_cl256 (show 32 * e + x < 256 by omega)]
    refine ⟨dp_v256 (by omega), nm_e ⟨dp_v32 (by omega), ?_⟩⟩
    rw [dp_cl32 (show x < 32 by omega)]
    have ag2 : dp_ag R (upd R' (32 * e + x) 0) e := dp_ag_upd ag (by omega)
    have go : wY_bare_68 post (wY_bare_11 post 9 a (nI e) f_count (nI e) (d + 1)) 9 a (nI e) (dp_mk (fun n => bt pr n && decide (a_tags n = a)) x) (nI x) f_count (nI e) a_list (dp_th pr) a_above a_tags a_values a_held a_twin a_kinds a_args a_sizes a_isPath (upd R' (32 * e + x) 0) a_spare a_isSet a_alive a_edited a_watchNode a_before := by
      refine ⟨dp_v32 (by omega), ?_⟩
      rw [dp_cl32 (show x < 32 by omega)]
      have g := ih' _ ag2
      by_cases z : bt pr x = true
      · have th : dp_th pr x = 1 := dp_c_t z
        rw [th]
        refine br_f (by decide) (br_f (by decide) ?_)
        refine br_t rfl ⟨dp_v32 (by omega), ?_⟩
        rw [dp_cl32 (show x < 32 by omega)]
        by_cases y : a_tags x = a
        · rw [dp_mk_t (by rw [z, decide_eq_true y, Bool.true_and])] at g
          exact br_t y (br_f (by decide) (nm_e (nm_r (nI_1 x) g)))
        · rw [dp_mk_f (by rw [decide_eq_false y, Bool.and_false]; decide)] at g
          exact br_f y (br_t rfl (nm_r (nI_1 x) g))
      · have th : dp_th pr x = 0 := dp_c_f (Bool.eq_false_iff.mpr z)
        rw [th]
        rw [dp_mk_f (by rw [Bool.eq_false_iff.mpr z, Bool.false_and]; decide)] at g
        exact br_t rfl (nm_r (nI_1 x) g)
    by_cases z : dp_th pr x = 0
    · exact br_t z go
    · exact br_f z (br_f (by decide) go)
theorem yy_bare10_l (he : e < 8) {post : SY → Prop} (h : ∀ R', dp_ag R R' e → wY_bare_11 post 10 a (nI e) f_count (nI e) 1 (dp_mk (fun n => bt pr n && decide (a ≤ a_values n)) 32) (nI 32) a_list (dp_th pr) a_above a_tags a_values a_held a_twin a_kinds a_args a_sizes a_isPath R' a_spare a_isSet a_alive a_edited a_watchNode a_before) : ∀ d x R', x + d = 32 → dp_ag R R' e → wY_bare_11 post 10 a (nI e) f_count (nI e) (d + 1) (dp_mk (fun n => bt pr n && decide (a ≤ a_values n)) x) (nI x) a_list (dp_th pr) a_above a_tags a_values a_held a_twin a_kinds a_args a_sizes a_isPath R' a_spare a_isSet a_alive a_edited a_watchNode a_before := by
  intro d
  induction d with
  | zero =>
    intro x R' hx ag
    obtain rfl : x = 32 := by omega
    exact h R' ag
  | succ d ih =>
    intro x R' hx ag
    have ih' := fun R2 ag2 => ih (x + 1) R2 (by omega) ag2
    refine br_f (dp_ge32 (by omega)) ?_
    simp only [dp_32m, nI_add, dp_cl256 (show 32 * e + x < 256 by omega)]
    refine ⟨dp_v256 (by omega), nm_e ⟨dp_v32 (by omega), ?_⟩⟩
    rw [dp_cl32 (show x < 32 by omega)]
    have ag2 : dp_ag R (upd R' (32 * e + x) 0) e := dp_ag_upd ag (by omega)
    have go : wY_bare_68 post (wY_bare_11 post 10 a (nI e) f_count (nI e) (d + 1)) 10 a (nI e) (dp_mk (fun n => bt pr n && decide (a ≤ a_values n)) x) (nI x) f_count (nI e) a_list (dp_th pr) a_above a_tags a_values a_held a_twin a_kinds a_args a_sizes a_isPath (upd R' (32 * e + x) 0) a_spare a_isSet a_alive a_edited a_watchNode a_before := by
      refine ⟨dp_v32 (by omega), ?_⟩
      rw [dp_cl32 (show x < 32 by omega)]
      have g := ih' _ ag2
      by_cases z : bt pr x = true
      · have th : dp_th pr x = 1 := dp_c_t z
        rw [th]
        refine br_f (by decide) (br_f (by decide) ?_)
        refine br_f (by decide) ⟨dp_v32 (by omega), ?_⟩
        rw [dp_cl32 (show x < 32 by omega)]
        by_cases y : a ≤ a_values x
        · rw [dp_mk_t (by rw [z, decide_eq_true y, Bool.true_and])] at g
          exact br_f (Int32.not_lt.mpr y) (br_f (by decide) (nm_e (nm_r (nI_1 x) g)))
        · rw [dp_mk_f (by rw [decide_eq_false y, Bool.and_false]; decide)] at g
          exact br_t (Int32.not_le.mp y) (br_t rfl (nm_r (nI_1 x) g))
      · have th : dp_th pr x = 0 := dp_c_f (Bool.eq_false_iff.mpr z)
        rw [th]
        rw [dp_mk_f (by rw [Bool.eq_false_iff.mpr z, Bool.false_and]; decide)] at g
        exact br_t rfl (nm_r (nI_1 x) g)
    by_cases z : dp_th pr x = 0
    · exact br_t z go
    · exact br_f z (br_f (by decide) go)
theorem yy_bare9 (T : dp_Tr c o lv pr) (he : e < 8) {post : SY → Prop} (h : ∀ R', dp_ag R R' e → (∀ x, x < 32 → R' (32 * e + x) = dp_op c o (fun r => lv (o r)) pr a_tags a_values 9 a p q x) → post ((nI c), (nI (e + 1)), (fun j => nI (o j)), (dp_th pr), a_above, a_tags, a_values, a_held, a_twin, a_kinds, a_args, a_sizes, (upd a_isPath e 0), R', a_spare, a_isSet, a_alive, a_edited, a_watchNode, a_before)) : wpY_bare post ((nI c), (nI e), (fun j => nI (o j)), (dp_th pr), a_above, a_tags, a_values, a_held, a_twin, a_kinds, a_args, a_sizes, a_isPath, R, a_spare, a_isSet, a_alive, a_edited, a_watchNode, a_before) 9 a := by
  refine ⟨33, yy_bare9_l he (fun R' ag => br_t dp_le32 (br_f (by decide) (yy_makeCondition he (fun R2 ag2 H2 => nm_r (nI_1 e) (h R2 (dp_ag_trans ag ag2) (fun x hx => ?_)))))) 32 0 R rfl (fun _ _ => rfl)⟩
  rw [H2 x hx]
  exact congrArg (fun s => dp_c0 s x) (dp_mkfr T.1.2.2.1 T.2.1 (P := fun n => decide (a_tags n = a)) (fun r _ => rfl))
theorem yy_bare10 (T : dp_Tr c o lv pr) (he : e < 8) {post : SY → Prop} (h : ∀ R', dp_ag R R' e → (∀ x, x < 32 → R' (32 * e + x) = dp_op c o (fun r => lv (o r)) pr a_tags a_values 10 a p q x) → post ((nI c), (nI (e + 1)), (fun j => nI (o j)), (dp_th pr), a_above, a_tags, a_values, a_held, a_twin, a_kinds, a_args, a_sizes, (upd a_isPath e 0), R', a_spare, a_isSet, a_alive, a_edited, a_watchNode, a_before)) : wpY_bare post ((nI c), (nI e), (fun j => nI (o j)), (dp_th pr), a_above, a_tags, a_values, a_held, a_twin, a_kinds, a_args, a_sizes, a_isPath, R, a_spare, a_isSet, a_alive, a_edited, a_watchNode, a_before) 10 a := by
  refine ⟨33, yy_bare10_l he (fun R' ag => br_t dp_le32 (br_f (by decide) (yy_makeCondition he (fun R2 ag2 H2 => nm_r (nI_1 e) (h R2 (dp_ag_trans ag ag2) (fun x hx => ?_)))))) 32 0 R rfl (fun _ _ => rfl)⟩
  rw [H2 x hx]
  exact congrArg (fun s => dp_c0 s x) (dp_mkfr T.1.2.2.1 T.2.1 (P := fun n => decide (a ≤ a_values n)) (fun r _ => rfl))
/-! turn -/
theorem yy_turn_17 (he : e < 8) {x : Nat} (hx : x < 32) (hp : ∀ y, y < 32 → a_rows (32 * e + y) = p y) {post : SY → Prop} {J : Int32 → (Nat → Int32) → (Nat → Int32) → (Nat → Int32) → (Nat → Int32) → (Nat → Int32) → (Nat → Int32) → (Nat → Int32) → (Nat → Int32) → (Nat → Int32) → (Nat → Int32) → (Nat → Int32) → (Nat → Int32) → (Nat → Int32) → (Nat → Int32) → (Nat → Int32) → (Nat → Int32) → (Nat → Int32) → (Nat → Int32) → Prop} {Z : Nat → Int32} (h : ∀ Z', (∀ b, b ≠ x → Z' b = Z b) → Z' x = dp_mk (fun y => bt (p y) x) 32 → J (nI (x + 1)) a_list a_there a_above a_tags a_values a_held a_twin a_kinds a_args a_sizes a_isPath a_rows Z' a_isSet a_alive a_edited a_watchNode a_before) : ∀ d y Z', y + d = 32 → (∀ b, b ≠ x → Z' b = Z b) → Z' x = dp_mk (fun y => bt (p y) x) y → wY_turn_17 post J (nI e) (nI x) f_count f_height (d + 1) (nI y) a_list a_there a_above a_tags a_values a_held a_twin a_kinds a_args a_sizes a_isPath a_rows Z' a_isSet a_alive a_edited a_watchNode a_before := by
  intro d
  induction d with
  | zero =>
    intro y Z' hy H1 H2
    obtain rfl : y = 32 := by omega
    exact br_t dp_le32 (nm_r (nI_1 x) (h Z' H1 H2))
  | succ d ih =>
    intro y Z' hy H1 H2
    refine br_f (dp_ge32 (by omega)) ?_
    simp only [dp_32m, nI_add, dp_cl256 (show 32 * e + y < 256 by omega), hp y (by omega), dp_cl32 hx]
    refine ⟨dp_v256 (by omega), yy_in hx ?_⟩
    by_cases z : bt (p y) x = true
    · rw [z]
      refine br_f (by decide) ⟨dp_v32 hx, dp_v32 hx, nm_e (nm_r (nI_1 y) (ih (y + 1) _ (by omega) (fun b hb => by rw [pk_un hb]; exact H1 b hb) ?_))⟩
      rw [pk_us, dp_mk_t (P := fun y => bt (p y) x) z, H2]
      rfl
    · rw [Bool.eq_false_iff.mpr z]
      refine br_t rfl ⟨dp_v32 hx, dp_v32 hx, nm_e (nm_r (nI_1 y) (ih (y + 1) _ (by omega) (fun b hb => by rw [pk_un hb]; exact H1 b hb) ?_))⟩
      rw [pk_us, dp_mk_f (P := fun y => bt (p y) x) z, H2]
theorem yy_turn_81 (he : e < 8) {f : Nat → Int32} (hf : ∀ x, x < 32 → a_spare x = f x) {post : SY → Prop} (h : ∀ R', dp_ag R R' e → (∀ x, x < 32 → R' (32 * e + x) = f x) → post (f_count, f_height, a_list, a_there, a_above, a_tags, a_values, a_held, a_twin, a_kinds, a_args, a_sizes, a_isPath, R', a_spare, a_isSet, a_alive, a_edited, a_watchNode, a_before)) : ∀ d x R', x + d = 32 → dp_In R e (dp_mx x f p) R' → wY_turn_81 post (nI e) f_count f_height (d + 1) (nI x) a_list a_there a_above a_tags a_values a_held a_twin a_kinds a_args a_sizes a_isPath R' a_spare a_isSet a_alive a_edited a_watchNode a_before := by
  intro d
  induction d with
  | zero =>
    intro x R' hx H
    obtain rfl : x = 32 := by omega
    exact br_t dp_le32 (h R' (dp_In_32 H).1 (dp_In_32 H).2)
  | succ d ih =>
    intro x R' hx H
    refine br_f (dp_ge32 (by omega)) ⟨dp_v32 (by omega), ?_⟩
    simp only [dp_32m, nI_add, dp_cl256 (show 32 * e + x < 256 by omega), dp_cl32 (show x < 32 by omega)]
    exact ⟨dp_v256 (by omega), nm_e (nm_r (nI_1 x) (ih (x + 1) _ (by omega) (dp_In_s H (by omega) (hf x (by omega)))))⟩
theorem yy_turn_2 (he : e < 8) (hp : ∀ y, y < 32 → R (32 * e + y) = p y) {post : SY → Prop} (h : ∀ R' Z, dp_ag R R' e → (∀ x, x < 32 → R' (32 * e + x) = dp_mk (fun y => bt (p y) x) 32) → post (f_count, f_height, a_list, a_there, a_above, a_tags, a_values, a_held, a_twin, a_kinds, a_args, a_sizes, a_isPath, R', Z, a_isSet, a_alive, a_edited, a_watchNode, a_before)) : ∀ d x Z, x + d = 32 → (∀ b, b < x → Z b = dp_mk (fun y => bt (p y) b) 32) → wY_turn_2 post (nI e) f_count f_height (d + 1) (nI x) a_list a_there a_above a_tags a_values a_held a_twin a_kinds a_args a_sizes a_isPath R Z a_isSet a_alive a_edited a_watchNode a_before := by
  intro d
  induction d with
  | zero =>
    intro x Z hx H
    obtain rfl : x = 32 := by omega
    exact br_t dp_le32 ⟨33, yy_turn_81 (f := fun x => dp_mk (fun y => bt (p y) x) 32) he H (fun R' ag H2 => h R' Z ag H2) 32 0 R rfl (dp_In_0 hp)⟩
  | succ d ih =>
    intro x Z hx H
    refine br_f (dp_ge32 (by omega)) ⟨dp_v32 (by omega), ?_⟩
    rw [dp_cl32 (show x < 32 by omega)]
    refine nm_e ⟨33, yy_turn_17 he (by omega) hp (Z := Z) (fun Z' H1 H2 => ih (x + 1) Z' (by omega) (fun b hb => ?_)) 32 0 _ rfl (fun b hb => pk_un hb) pk_us⟩
    by_cases z : b = x
    · subst z; exact H2
    · rw [H1 b z]; exact H b (by omega)
theorem yy_turn (he : e < 8) (hp : ∀ y, y < 32 → R (32 * e + y) = p y) {post : SY → Prop} (h : ∀ R' Z, dp_ag R R' e → (∀ x, x < 32 → R' (32 * e + x) = dp_mk (fun y => bt (p y) x) 32) → post (f_count, f_height, a_list, a_there, a_above, a_tags, a_values, a_held, a_twin, a_kinds, a_args, a_sizes, a_isPath, R', Z, a_isSet, a_alive, a_edited, a_watchNode, a_before)) : wpY_turn post (f_count, f_height, a_list, a_there, a_above, a_tags, a_values, a_held, a_twin, a_kinds, a_args, a_sizes, a_isPath, R, a_spare, a_isSet, a_alive, a_edited, a_watchNode, a_before) (nI e) := ⟨33, yy_turn_2 he hp h 32 0 _ rfl (fun b hb => absurd hb (Nat.not_lt_zero b))⟩
/-! repeat -/
theorem yy_rep_63 (he : e < 8) {z : Nat} (hz : z < 32) {post : SY → Prop} {J : Int32 → (Nat → Int32) → (Nat → Int32) → (Nat → Int32) → (Nat → Int32) → (Nat → Int32) → (Nat → Int32) → (Nat → Int32) → (Nat → Int32) → (Nat → Int32) → (Nat → Int32) → (Nat → Int32) → (Nat → Int32) → (Nat → Int32) → (Nat → Int32) → (Nat → Int32) → (Nat → Int32) → (Nat → Int32) → (Nat → Int32) → Prop} (h : ∀ R', dp_In R e (dp_wr p (z + 1)) R' → J (nI (z + 1)) a_list a_there a_above a_tags a_values a_held a_twin a_kinds a_args a_sizes a_isPath R' a_spare a_isSet a_alive a_edited a_watchNode a_before) : ∀ d x R', x + d = 32 → dp_In R e (dp_mx x (dp_wr p (z + 1)) (dp_wr p z)) R' → wY_repeat_63 post J (nI e) (nI z) f_count f_height (d + 1) (nI x) a_list a_there a_above a_tags a_values a_held a_twin a_kinds a_args a_sizes a_isPath R' a_spare a_isSet a_alive a_edited a_watchNode a_before := by
  intro d
  induction d with
  | zero =>
    intro x R' hx H
    obtain rfl : x = 32 := by omega
    exact br_t dp_le32 (nm_r (nI_1 z) (h R' (dp_In_32 H)))
  | succ d ih =>
    intro x R' hx H
    have e1 : R' (32 * e + x) = dp_wr p z x := by rw [H.2 x (by omega), dp_mx_hi (Nat.le_refl _)]
    have e2 : R' (32 * e + z) = dp_wr p z z := by
      rw [H.2 z hz]
      rcases Nat.lt_or_ge z x with w | w
      · rw [dp_mx_lo w, dp_wr_row]
      · rw [dp_mx_hi w]
    refine br_f (dp_ge32 (by omega)) ?_
    simp only [dp_32m, nI_add, dp_cl256 (show 32 * e + x < 256 by omega), dp_cl256 (show 32 * e + z < 256 by omega), e1, e2]
    refine ⟨dp_v256 (by omega), yy_in hz ?_⟩
    by_cases w : bt (dp_wr p z x) z = true
    · rw [w]
      exact br_f (by decide) ⟨dp_v256 (by omega), dp_v256 (by omega), dp_v256 (by omega), nm_e (nm_r (nI_1 x) (ih (x + 1) _ (by omega) (dp_In_s H (by omega) (dp_wr_t w).symm)))⟩
    · rw [Bool.eq_false_iff.mpr w]
      exact br_t rfl ⟨dp_v256 (by omega), dp_v256 (by omega), nm_e (nm_r (nI_1 x) (ih (x + 1) _ (by omega) (dp_In_s H (by omega) (dp_wr_f w).symm)))⟩
theorem yy_rep_55 (he : e < 8) {post : SY → Prop} (h : ∀ R', dp_ag R R' e → (∀ x, x < 32 → R' (32 * e + x) = dp_wr p 32 x) → post (f_count, f_height, a_list, a_there, a_above, a_tags, a_values, a_held, a_twin, a_kinds, a_args, a_sizes, a_isPath, R', a_spare, a_isSet, a_alive, a_edited, a_watchNode, a_before)) : ∀ d z R', z + d = 32 → dp_In R e (dp_wr p z) R' → wY_repeat_55 post (nI e) f_count f_height (d + 1) (nI z) a_list a_there a_above a_tags a_values a_held a_twin a_kinds a_args a_sizes a_isPath R' a_spare a_isSet a_alive a_edited a_watchNode a_before := by
  intro d
  induction d with
  | zero =>
    intro z R' hz H
    obtain rfl : z = 32 := by omega
    exact br_t dp_le32 (h R' H.1 H.2)
  | succ d ih =>
    intro z R' hz H
    exact br_f (dp_ge32 (by omega)) ⟨33, yy_rep_63 (R := R') he (by omega) (fun R2 H2 => ih (z + 1) R2 (by omega) ⟨dp_ag_trans H.1 H2.1, H2.2⟩) 32 0 R' rfl (dp_In_0 H.2)⟩
theorem yy_rep_2 (he : e < 8) {post : SY → Prop} (h : ∀ R', dp_ag R R' e → (∀ x, x < 32 → R' (32 * e + x) = dp_wr (fun x => if bt pr x = true then p x ||| dp_bo x else 0) 32 x) → post (f_count, f_height, a_list, (dp_th pr), a_above, a_tags, a_values, a_held, a_twin, a_kinds, a_args, a_sizes, a_isPath, R', a_spare, a_isSet, a_alive, a_edited, a_watchNode, a_before)) : ∀ d x R', x + d = 32 → dp_In R e (dp_mx x (fun x => if bt pr x = true then p x ||| dp_bo x else 0) p) R' → wY_repeat_2 post (nI e) f_count f_height (d + 1) (nI x) a_list (dp_th pr) a_above a_tags a_values a_held a_twin a_kinds a_args a_sizes a_isPath R' a_spare a_isSet a_alive a_edited a_watchNode a_before := by
  intro d
  induction d with
  | zero =>
    intro x R' hx H
    obtain rfl : x = 32 := by omega
    exact br_t dp_le32 ⟨33, yy_rep_55 (R := R') he (fun R2 ag H2 => h R2 (dp_ag_trans H.1 ag) H2) 32 0 R' rfl ⟨fun _ _ => rfl, (dp_In_32 H).2⟩⟩
  | succ d ih =>
    intro x R' hx H
    have e1 : R' (32 * e + x) = p x := by rw [H.2 x (by omega), dp_mx_hi (Nat.le_refl _)]
    refine br_f (dp_ge32 (by omega)) ⟨dp_v32 (by omega), ?_⟩
    simp only [dp_32m, nI_add, dp_cl256 (show 32 * e + x < 256 by omega), dp_cl32 (show x < 32 by omega), e1]
    by_cases z : bt pr x = true
    · have th : dp_th pr x = 1 := dp_c_t z
      rw [th]
      exact br_f (by decide) ⟨dp_v256 (by omega), dp_v256 (by omega), nm_e (nm_r (nI_1 x) (ih (x + 1) _ (by omega) (dp_In_s H (by omega) (if_pos z).symm)))⟩
    · have th : dp_th pr x = 0 := dp_c_f (Bool.eq_false_iff.mpr z)
      rw [th]
      exact br_t rfl ⟨dp_v256 (by omega), nm_e (nm_r (nI_1 x) (ih (x + 1) _ (by omega) (dp_In_s H (by omega) (if_neg z).symm)))⟩
theorem yy_repeat (he : e < 8) (hp : ∀ y, y < 32 → R (32 * e + y) = p y) (h1 : dp_PP pr p) {post : SY → Prop} (h : ∀ R', dp_ag R R' e → (∀ x, x < 32 → R' (32 * e + x) = dp_wr p 32 x ||| (pr &&& dp_bo x)) → post (f_count, f_height, a_list, (dp_th pr), a_above, a_tags, a_values, a_held, a_twin, a_kinds, a_args, a_sizes, a_isPath, R', a_spare, a_isSet, a_alive, a_edited, a_watchNode, a_before)) : wpY_repeat post (f_count, f_height, a_list, (dp_th pr), a_above, a_tags, a_values, a_held, a_twin, a_kinds, a_args, a_sizes, a_isPath, R, a_spare, a_isSet, a_alive, a_edited, a_watchNode, a_before) (nI e) := by
  refine ⟨33, yy_rep_2 he (fun R' ag H => h R' ag (fun x hx => ?_)) 32 0 R rfl (dp_In_0 hp)⟩
  rw [H x hx]
  apply b_ext
  intro b hb
  rw [dp_wr_refl h1 (fun _ _ => rfl) 32 (Nat.le_refl _) x hx b hb, b_or, b_and, dp_bo_bt hx]
  by_cases z : b = x
  · rw [z, Bool.and_comm]
  · rw [decide_eq_false z, Bool.false_and, Bool.and_false]
end YR
end
section
/-! the reference: tokens that take one entry, and two -/
section YN
variable {f_count f_height : Int32} {a_list a_there a_above a_tags a_values a_held a_twin a_kinds a_args a_sizes a_isPath a_rows a_spare a_isSet a_alive a_edited a_watchNode a_before : Nat → Int32} {c e : Nat} {o lv : Nat → Nat} {pr a : Int32} {p q R : Nat → Int32}
theorem yy_one_skip {k s w z : Int32} {x : Nat} (h11 : ¬ k = 11) (h12 : ¬ k = 12) {post : SY → Prop} {J : Int32 → Int32 → (Nat → Int32) → (Nat → Int32) → (Nat → Int32) → (Nat → Int32) → (Nat → Int32) → (Nat → Int32) → (Nat → Int32) → (Nat → Int32) → (Nat → Int32) → (Nat → Int32) → (Nat → Int32) → (Nat → Int32) → (Nat → Int32) → (Nat → Int32) → (Nat → Int32) → (Nat → Int32) → (Nat → Int32) → (Nat → Int32) → Prop} (h : J s (nI (x + 1)) a_list a_there a_above a_tags a_values a_held a_twin a_kinds a_args a_sizes a_isPath a_rows a_spare a_isSet a_alive a_edited a_watchNode a_before) : wY_one_63 post J k a z s (nI x) w f_count f_height a_list a_there a_above a_tags a_values a_held a_twin a_kinds a_args a_sizes a_isPath a_rows a_spare a_isSet a_alive a_edited a_watchNode a_before := br_f h11 (br_f h12 (br_t rfl (br_t rfl (nm_r (nI_1 x) h))))
theorem yy_one_through {k : Int32} (h7 : ¬ k = 7) (h11 : ¬ k = 11) (h12 : ¬ k = 12) (he : e < 8) {post : SY → Prop} (h : wY_one_13 post k a (nI e) f_count (nI (e + 1)) 1 0 (nI 32) a_list a_there a_above a_tags a_values a_held a_twin a_kinds a_args a_sizes a_isPath a_rows a_spare a_isSet a_alive a_edited a_watchNode a_before) : ∀ d x, x + d = 32 → wY_one_13 post k a (nI e) f_count (nI (e + 1)) (d + 1) 0 (nI x) a_list a_there a_above a_tags a_values a_held a_twin a_kinds a_args a_sizes a_isPath a_rows a_spare a_isSet a_alive a_edited a_watchNode a_before := by
  intro d
  induction d with
  | zero =>
    intro x hx
    obtain rfl : x = 32 := by omega
    exact h
  | succ d ih =>
    intro x hx
    refine br_f (dp_ge32 (by omega)) ?_
    simp only [dp_32m, nI_add]
    exact ⟨dp_v256 (by omega), nm_e (br_f h7 (yy_one_skip h11 h12 (ih (x + 1) (by omega))))⟩
theorem yy_one5 (he : e < 8) (hp : ∀ y, y < 32 → R (32 * e + y) = p y) {post : SY → Prop} (h : ∀ R' Z, dp_ag R R' e → (∀ x, x < 32 → R' (32 * e + x) = dp_mk (fun y => bt (p y) x) 32) → post (f_count, (nI (e + 1)), a_list, a_there, a_above, a_tags, a_values, a_held, a_twin, a_kinds, a_args, a_sizes, a_isPath, R', Z, a_isSet, a_alive, a_edited, a_watchNode, a_before)) : wpY_one post (f_count, (nI (e + 1)), a_list, a_there, a_above, a_tags, a_values, a_held, a_twin, a_kinds, a_args, a_sizes, a_isPath, R, a_spare, a_isSet, a_alive, a_edited, a_watchNode, a_before) 5 a :=
  nm_r (nI_pred e) ⟨33, yy_one_through (by decide) (by decide) (by decide) he (br_t dp_le32 (br_t rfl (yy_turn he hp (fun R' Z ag H => br_f (by decide) (br_f (by decide) (br_f (by decide) (h R' Z ag H))))))) 32 0 rfl⟩
theorem yy_one6 (he : e < 8) (hp : ∀ y, y < 32 → R (32 * e + y) = p y) (h1 : dp_PP pr p) {post : SY → Prop} (h : ∀ R', dp_ag R R' e → (∀ x, x < 32 → R' (32 * e + x) = dp_wr p 32 x ||| (pr &&& dp_bo x)) → post (f_count, (nI (e + 1)), a_list, (dp_th pr), a_above, a_tags, a_values, a_held, a_twin, a_kinds, a_args, a_sizes, a_isPath, R', a_spare, a_isSet, a_alive, a_edited, a_watchNode, a_before)) : wpY_one post (f_count, (nI (e + 1)), a_list, (dp_th pr), a_above, a_tags, a_values, a_held, a_twin, a_kinds, a_args, a_sizes, a_isPath, R, a_spare, a_isSet, a_alive, a_edited, a_watchNode, a_before) 6 a :=
  nm_r (nI_pred e) ⟨33, yy_one_through (by decide) (by decide) (by decide) he (br_t dp_le32 (br_f (by decide) (br_t rfl (yy_repeat he hp h1 (fun R' ag H => br_f (by decide) (br_f (by decide) (h R' ag H))))))) 32 0 rfl⟩
theorem yy_one7_l (ho : ∀ r, o r < 32) (hc : c ≤ 32) (he : e < 8) (ha : a ≠ 0) {post : SY → Prop} (h : ∀ R', dp_ag R R' e → (∀ x, x < 32 → R' (32 * e + x) = dp_nt c o a (p x)) → post ((nI c), (nI (e + 1)), (fun j => nI (o j)), a_there, a_above, a_tags, a_values, a_held, a_twin, a_kinds, a_args, a_sizes, a_isPath, R', a_spare, a_isSet, a_alive, a_edited, a_watchNode, a_before)) : ∀ d x R', x + d = 32 → dp_In R e (dp_mx x (fun x => dp_nt c o a (p x)) p) R' → wY_one_13 post 7 a (nI e) (nI c) (nI (e + 1)) (d + 1) 0 (nI x) (fun j => nI (o j)) a_there a_above a_tags a_values a_held a_twin a_kinds a_args a_sizes a_isPath R' a_spare a_isSet a_alive a_edited a_watchNode a_before := by
  intro d
  induction d with
  | zero =>
    intro x R' hx H
    obtain rfl : x = 32 := by omega
    exact br_t dp_le32 (br_f (by decide) (br_f (by decide) (br_f (by decide) (br_f (by decide) (h R' (dp_In_32 H).1 (dp_In_32 H).2)))))
  | succ d ih =>
    intro x R' hx H
    have e1 : R' (32 * e + x) = p x := by rw [H.2 x (by omega), dp_mx_hi (Nat.le_refl _)]
    refine br_f (dp_ge32 (by omega)) ?_
    simp only [dp_32m, nI_add, dp_cl256 (show 32 * e + x < 256 by omega), e1]
    exact ⟨dp_v256 (by omega), nm_e (br_t (by trivial) (yy_nthOf ho hc ha ⟨dp_v256 (by omega), nm_e (yy_one_skip (by decide) (by decide) (ih (x + 1) _ (by omega) (dp_In_s H (by omega) rfl)))⟩))⟩
theorem yy_one7 (ho : ∀ r, o r < 32) (hc : c ≤ 32) (he : e < 8) (ha : a ≠ 0) (hp : ∀ y, y < 32 → R (32 * e + y) = p y) {post : SY → Prop} (h : ∀ R', dp_ag R R' e → (∀ x, x < 32 → R' (32 * e + x) = dp_nt c o a (p x)) → post ((nI c), (nI (e + 1)), (fun j => nI (o j)), a_there, a_above, a_tags, a_values, a_held, a_twin, a_kinds, a_args, a_sizes, a_isPath, R', a_spare, a_isSet, a_alive, a_edited, a_watchNode, a_before)) : wpY_one post ((nI c), (nI (e + 1)), (fun j => nI (o j)), a_there, a_above, a_tags, a_values, a_held, a_twin, a_kinds, a_args, a_sizes, a_isPath, R, a_spare, a_isSet, a_alive, a_edited, a_watchNode, a_before) 7 a := nm_r (nI_pred e) ⟨33, yy_one7_l ho hc he ha h 32 0 R rfl (dp_In_0 hp)⟩
theorem yy_one11_l (he : e < 8) (hp : ∀ y, y < 32 → R (32 * e + y) = p y) {post : SY → Prop} (h : wY_one_13 post 11 a (nI e) f_count (nI (e + 1)) 1 (dp_mk (fun x => bt pr x && decide (a ≤ nI (dp_fc (bt (p x)) 32))) 32) (nI 32) a_list (dp_th pr) a_above a_tags a_values a_held a_twin a_kinds a_args a_sizes a_isPath R a_spare a_isSet a_alive a_edited a_watchNode a_before) : ∀ d x, x + d = 32 → wY_one_13 post 11 a (nI e) f_count (nI (e + 1)) (d + 1) (dp_mk (fun x => bt pr x && decide (a ≤ nI (dp_fc (bt (p x)) 32))) x) (nI x) a_list (dp_th pr) a_above a_tags a_values a_held a_twin a_kinds a_args a_sizes a_isPath R a_spare a_isSet a_alive a_edited a_watchNode a_before := by
  intro d
  induction d with
  | zero =>
    intro x hx
    obtain rfl : x = 32 := by omega
    exact h
  | succ d ih =>
    intro x hx
    have g := ih (x + 1) (by omega)
    refine br_f (dp_ge32 (by omega)) ?_
    simp only [dp_32m, nI_add, dp_cl256 (show 32 * e + x < 256 by omega), hp x (by omega)]
    refine ⟨dp_v256 (by omega), nm_e (br_f (by decide) (br_t rfl ⟨dp_v32 (by omega), ?_⟩))⟩
    rw [dp_cl32 (show x < 32 by omega)]
    by_cases z : bt pr x = true
    · have th : dp_th pr x = 1 := dp_c_t z
      rw [th]
      refine br_f (by decide) (yy_ones ?_)
      by_cases y : a ≤ nI (dp_fc (bt (p x)) 32)
      · rw [dp_mk_t (by rw [z, decide_eq_true y, Bool.true_and])] at g
        exact br_f (Int32.not_lt.mpr y) (br_f (by decide) (br_f (by decide) (nm_e (nm_r (nI_1 x) g))))
      · rw [dp_mk_f (by rw [decide_eq_false y, Bool.and_false]; decide)] at g
        exact br_t (Int32.not_le.mp y) (br_f (by decide) (br_t rfl (br_t rfl (nm_r (nI_1 x) g))))
    · have th : dp_th pr x = 0 := dp_c_f (Bool.eq_false_iff.mpr z)
      rw [th]
      rw [dp_mk_f (by rw [Bool.eq_false_iff.mpr z, Bool.false_and]; decide)] at g
      exact br_t rfl (br_f (by decide) (br_t rfl (br_t rfl (nm_r (nI_1 x) g))))
theorem yy_one11 (he : e < 8) (hp : ∀ y, y < 32 → R (32 * e + y) = p y) (h1 : dp_PP pr p) (ha : 1 ≤ a) {post : SY → Prop} (h : ∀ R', dp_ag R R' e → (∀ x, x < 32 → R' (32 * e + x) = dp_c0 (dp_mk (fun x => decide (a ≤ nI (dp_fc (bt (p x)) 32))) 32) x) → post (f_count, (nI (e + 1)), a_list, (dp_th pr), a_above, a_tags, a_values, a_held, a_twin, a_kinds, a_args, a_sizes, (upd a_isPath e 0), R', a_spare, a_isSet, a_alive, a_edited, a_watchNode, a_before)) : wpY_one post (f_count, (nI (e + 1)), a_list, (dp_th pr), a_above, a_tags, a_values, a_held, a_twin, a_kinds, a_args, a_sizes, a_isPath, R, a_spare, a_isSet, a_alive, a_edited, a_watchNode, a_before) 11 a := by
  refine nm_r (nI_pred e) ⟨33, yy_one11_l he hp (br_t dp_le32 (br_f (by decide) (br_f (by decide) (br_t rfl (yy_makeCondition he (fun R' ag H => h R' ag (fun x hx => ?_))))))) 32 0 rfl⟩
  rw [H x hx, dp_has_mk h1 ha]
theorem yy_one12_l (he : e < 8) (hp : R (32 * e) = p 0) {post : SY → Prop} (h : wY_one_13 post 12 a (nI e) f_count (nI (e + 1)) 1 (dp_mk (fun x => bt pr x && !bt (p 0) x) 32) (nI 32) a_list (dp_th pr) a_above a_tags a_values a_held a_twin a_kinds a_args a_sizes a_isPath R a_spare a_isSet a_alive a_edited a_watchNode a_before) : ∀ d x, x + d = 32 → wY_one_13 post 12 a (nI e) f_count (nI (e + 1)) (d + 1) (dp_mk (fun x => bt pr x && !bt (p 0) x) x) (nI x) a_list (dp_th pr) a_above a_tags a_values a_held a_twin a_kinds a_args a_sizes a_isPath R a_spare a_isSet a_alive a_edited a_watchNode a_before := by
  intro d
  induction d with
  | zero =>
    intro x hx
    obtain rfl : x = 32 := by omega
    exact h
  | succ d ih =>
    intro x hx
    have g := ih (x + 1) (by omega)
    refine br_f (dp_ge32 (by omega)) ?_
    simp only [dp_32m, nI_add]
    refine ⟨dp_v256 (by omega), nm_e (br_f (by decide) (br_f (by decide) (br_t rfl ⟨dp_v32 (by omega), ?_⟩)))⟩
    simp only [dp_32m, nI_add, dp_cl32 (show x < 32 by omega), dp_cl256 (show 32 * e < 256 by omega), hp]
    by_cases z : bt pr x = true
    · have th : dp_th pr x = 1 := dp_c_t z
      rw [th]
      refine br_f (by decide) ⟨dp_v256 (by omega), yy_in (by omega) ?_⟩
      by_cases y : bt (p 0) x = true
      · rw [dp_mk_f (by rw [y, Bool.not_true, Bool.and_false]; decide)] at g
        rw [y]
        exact br_f (by decide) (br_t rfl (br_t rfl (nm_r (nI_1 x) g)))
      · rw [dp_mk_t (by rw [z, Bool.eq_false_iff.mpr y]; rfl)] at g
        rw [Bool.eq_false_iff.mpr y]
        exact br_t rfl (br_t rfl (br_f (by decide) (nm_e (nm_r (nI_1 x) g))))
    · have th : dp_th pr x = 0 := dp_c_f (Bool.eq_false_iff.mpr z)
      rw [th]
      rw [dp_mk_f (by rw [Bool.eq_false_iff.mpr z, Bool.false_and]; decide)] at g
      exact br_t rfl (br_t rfl (br_t rfl (nm_r (nI_1 x) g)))
theorem yy_one12 (he : e < 8) (hp : R (32 * e) = p 0) {post : SY → Prop} (h : ∀ R', dp_ag R R' e → (∀ x, x < 32 → R' (32 * e + x) = dp_c0 (pr &&& (p 0 ^^^ (-1))) x) → post (f_count, (nI (e + 1)), a_list, (dp_th pr), a_above, a_tags, a_values, a_held, a_twin, a_kinds, a_args, a_sizes, (upd a_isPath e 0), R', a_spare, a_isSet, a_alive, a_edited, a_watchNode, a_before)) : wpY_one post (f_count, (nI (e + 1)), a_list, (dp_th pr), a_above, a_tags, a_values, a_held, a_twin, a_kinds, a_args, a_sizes, a_isPath, R, a_spare, a_isSet, a_alive, a_edited, a_watchNode, a_before) 12 a := by
  refine nm_r (nI_pred e) ⟨33, yy_one12_l he hp (br_t dp_le32 (br_f (by decide) (br_f (by decide) (br_f (by decide) (br_t rfl (yy_makeCondition he (fun R' ag H => h R' ag (fun x hx => ?_)))))))) 32 0 rfl⟩
  rw [H x hx, dp_not_mk]
/-! two -/
theorem yy_joined_l (he : e < 8) (hq : ∀ y, y < 32 → a_rows (32 * e + y) = q y) {w : Int32} {post : Int32 → Prop} (h : post (dp_jn w q 32)) : ∀ d y, y + d = 32 → wY_joined_5 post w (nI e) f_count f_height a_list a_there a_above a_tags a_values a_held a_twin a_kinds a_args a_sizes a_isPath a_rows a_spare a_isSet a_alive a_edited a_watchNode a_before (d + 1) (dp_jn w q y) (nI y) := by
  intro d
  induction d with
  | zero =>
    intro y hy
    obtain rfl : y = 32 := by omega
    exact br_t dp_le32 h
  | succ d ih =>
    intro y hy
    have g := ih (y + 1) (by omega)
    refine br_f (dp_ge32 (by omega)) (yy_in (by omega) ?_)
    by_cases z : bt w y = true
    · rw [dp_jn_t z] at g
      rw [z]
      refine br_f (by decide) ?_
      simp only [dp_32m, nI_add, dp_cl256 (show 32 * e + y < 256 by omega), hq y (by omega)]
      exact ⟨dp_v256 (by omega), nm_e (nm_r (nI_1 y) g)⟩
    · rw [dp_jn_f z] at g
      rw [Bool.eq_false_iff.mpr z]
      exact br_t rfl (nm_r (nI_1 y) g)
theorem yy_joined (he : e < 8) (hq : ∀ y, y < 32 → a_rows (32 * e + y) = q y) {w : Int32} {post : Int32 → Prop} (h : post (dp_jn w q 32)) : wpY_joined post (f_count, f_height, a_list, a_there, a_above, a_tags, a_values, a_held, a_twin, a_kinds, a_args, a_sizes, a_isPath, a_rows, a_spare, a_isSet, a_alive, a_edited, a_watchNode, a_before) w (nI e) := ⟨33, yy_joined_l he hq h 32 0 rfl⟩
theorem yy_match_11 {s w : Int32} {y : Nat} (hy : y < 32) {post : Int32 → Prop} {J : Int32 → Prop} (h1 : dp_any (fun z => bt s y && bt w z && decide (a_values y = a_values z)) 32 = true → post 1) (h0 : dp_any (fun z => bt s y && bt w z && decide (a_values y = a_values z)) 32 = false → J (nI (y + 1))) : ∀ d z, z + d = 32 → dp_any (fun z => bt s y && bt w z && decide (a_values y = a_values z)) z = false → wY_match_11 post J s w (nI y) f_count f_height a_list a_there a_above a_tags a_values a_held a_twin a_kinds a_args a_sizes a_isPath a_rows a_spare a_isSet a_alive a_edited a_watchNode a_before (d + 1) (nI z) := by
  intro d
  induction d with
  | zero =>
    intro z hz H
    obtain rfl : z = 32 := by omega
    exact br_t dp_le32 (nm_r (nI_1 y) (h0 H))
  | succ d ih =>
    intro z hz H
    have g : (bt s y && bt w z && decide (a_values y = a_values z)) = false → wY_match_11 post J s w (nI y) f_count f_height a_list a_there a_above a_tags a_values a_held a_twin a_kinds a_args a_sizes a_isPath a_rows a_spare a_isSet a_alive a_edited a_watchNode a_before (d + 1) (nI (z + 1)) := fun q => ih (z + 1) (by omega) (by
      show (dp_any _ z || _) = false
      rw [H]; exact q)
    refine br_f (dp_ge32 (by omega)) (yy_in hy ?_)
    by_cases a1 : bt s y = true
    · rw [a1]
      refine br_f (by decide) (yy_in (by omega) ?_)
      by_cases a2 : bt w z = true
      · rw [a2]
        refine br_f (by decide) ⟨dp_v32 hy, dp_v32 (by omega), ?_⟩
        rw [dp_cl32 hy, dp_cl32 (show z < 32 by omega)]
        by_cases a3 : a_values y = a_values z
        · exact br_t a3 (h1 (dp_any_iff.mpr ⟨z, by omega, by rw [a1, a2, decide_eq_true a3]; rfl⟩))
        · exact br_f a3 (nm_r (nI_1 z) (g (by rw [decide_eq_false a3, Bool.and_false])))
      · rw [Bool.eq_false_iff.mpr a2]
        exact br_t rfl (nm_r (nI_1 z) (g (by rw [Bool.eq_false_iff.mpr a2, Bool.and_false, Bool.false_and])))
    · rw [Bool.eq_false_iff.mpr a1]
      exact br_t rfl (nm_r (nI_1 z) (g (by rw [Bool.eq_false_iff.mpr a1, Bool.false_and, Bool.false_and])))
theorem yy_match_2 {s w : Int32} {post : Int32 → Prop} (h : post (dp_c (dp_mt a_values s w))) : ∀ d y, y + d = 32 → dp_any (fun y => dp_any (fun z => bt s y && bt w z && decide (a_values y = a_values z)) 32) y = false → wY_match_2 post s w f_count f_height a_list a_there a_above a_tags a_values a_held a_twin a_kinds a_args a_sizes a_isPath a_rows a_spare a_isSet a_alive a_edited a_watchNode a_before (d + 1) (nI y) := by
  intro d
  induction d with
  | zero =>
    intro y hy H
    obtain rfl : y = 32 := by omega
    have e : dp_mt a_values s w = false := H
    rw [e] at h
    exact br_t dp_le32 h
  | succ d ih =>
    intro y hy H
    refine br_f (dp_ge32 (by omega)) ⟨33, yy_match_11 (by omega) (fun z => ?_) (fun z => ih (y + 1) (by omega) ?_) 32 0 rfl rfl⟩
    · have e : dp_mt a_values s w = true := dp_any_iff.mpr ⟨y, by omega, z⟩
      rw [e] at h; exact h
    · show (dp_any _ y || _) = false
      rw [H]; exact z
theorem yy_match {s w : Int32} {post : Int32 → Prop} (h : post (dp_c (dp_mt a_values s w))) : wpY_match post (f_count, f_height, a_list, a_there, a_above, a_tags, a_values, a_held, a_twin, a_kinds, a_args, a_sizes, a_isPath, a_rows, a_spare, a_isSet, a_alive, a_edited, a_watchNode, a_before) s w := ⟨33, yy_match_2 h 32 0 rfl rfl⟩
theorem yy_two_174 {k v s : Int32} {x : Nat} (he : e < 8) (hx : x < 32) {post : SY → Prop} {J : Int32 → Int32 → (Nat → Int32) → (Nat → Int32) → (Nat → Int32) → (Nat → Int32) → (Nat → Int32) → (Nat → Int32) → (Nat → Int32) → (Nat → Int32) → (Nat → Int32) → (Nat → Int32) → (Nat → Int32) → (Nat → Int32) → (Nat → Int32) → (Nat → Int32) → (Nat → Int32) → (Nat → Int32) → (Nat → Int32) → (Nat → Int32) → Prop} (h : J s (nI (x + 1)) a_list a_there a_above a_tags a_values a_held a_twin a_kinds a_args a_sizes a_isPath (upd R (32 * e + x) v) a_spare a_isSet a_alive a_edited a_watchNode a_before) : wY_two_174 post J k (nI e) (nI x) v s f_count f_height a_list a_there a_above a_tags a_values a_held a_twin a_kinds a_args a_sizes a_isPath R a_spare a_isSet a_alive a_edited a_watchNode a_before := by
  unfold wY_two_174
  simp only [dp_32m, nI_add, dp_cl256 (show 32 * e + x < 256 by omega)]
  exact ⟨dp_v256 (by omega), nm_e (nm_r (nI_1 x) h)⟩
theorem yy_two1_l (he : e < 7) (hq : ∀ y, y < 32 → R (32 * e + 32 + y) = q y) {post : SY → Prop} (h : ∀ R', dp_ag R R' e → (∀ x, x < 32 → R' (32 * e + x) = dp_jn (p x) q 32) → post (f_count, (nI (e + 1)), a_list, a_there, a_above, a_tags, a_values, a_held, a_twin, a_kinds, a_args, a_sizes, a_isPath, R', a_spare, a_isSet, a_alive, a_edited, a_watchNode, a_before)) : ∀ d x R', x + d = 32 → dp_In R e (dp_mx x (fun x => dp_jn (p x) q 32) p) R' → wY_two_12 post 1 (nI e) f_count (nI (e + 2)) (d + 1) 0 (nI x) a_list a_there a_above a_tags a_values a_held a_twin a_kinds a_args a_sizes a_isPath R' a_spare a_isSet a_alive a_edited a_watchNode a_before := by
  intro d
  induction d with
  | zero =>
    intro x R' hx H
    obtain rfl : x = 32 := by omega
    exact br_t dp_le32 (br_f (by decide) (nm_r (nI_pred (e + 1)) (h R' (dp_In_32 H).1 (dp_In_32 H).2)))
  | succ d ih =>
    intro x R' hx H
    have e1 : R' (32 * e + x) = p x := by rw [H.2 x (by omega), dp_mx_hi (Nat.le_refl _)]
    have e2 : ∀ y, y < 32 → R' (32 * e + 32 + y) = q y := fun y hy => by rw [dp_In_nx H]; exact hq y hy
    have e0 : R' (32 * e + 32) = q 0 := e2 0 (by omega)
    have t := fun v (hv : v = (fun x => dp_jn (p x) q 32) x) => ih (x + 1) _ (by omega) (dp_In_s H (show x < 32 by omega) hv)
    refine br_f (dp_ge32 (by omega)) ?_
    simp only [dp_32m, dp_p32, nI_add, dp_cl256 (show 32 * e + x < 256 by omega), dp_cl256 (show 32 * e + 32 + x < 256 by omega), e1, e2 x (by omega)]
    refine ⟨dp_v256 (by omega), nm_e ⟨dp_v256 (by omega), nm_e ?_⟩⟩
    refine br_f (by decide) (br_f (by decide) (br_f (by decide) (br_f (by decide) (br_t rfl ?_))))
    have e3 : ∀ y, y < 32 → R' (32 * (e + 1) + y) = q y := fun y hy => by rw [show 32 * (e + 1) + y = 32 * e + 32 + y from by omega]; exact e2 y hy
    rw [nI_1]
    refine yy_joined (e := e + 1) (q := q) (by omega) e3 ?_
    exact br_f (by decide) (br_t rfl (yy_two_174 (by omega) (by omega) (t _ rfl)))
theorem yy_two1 (he : e < 7) (hp : ∀ y, y < 32 → R (32 * e + y) = p y) (hq : ∀ y, y < 32 → R (32 * e + 32 + y) = q y) {post : SY → Prop} (h : ∀ R', dp_ag R R' e → (∀ x, x < 32 → R' (32 * e + x) = dp_jn (p x) q 32) → post (f_count, (nI (e + 1)), a_list, a_there, a_above, a_tags, a_values, a_held, a_twin, a_kinds, a_args, a_sizes, a_isPath, R', a_spare, a_isSet, a_alive, a_edited, a_watchNode, a_before)) : wpY_two post (f_count, (nI (e + 2)), a_list, a_there, a_above, a_tags, a_values, a_held, a_twin, a_kinds, a_args, a_sizes, a_isPath, R, a_spare, a_isSet, a_alive, a_edited, a_watchNode, a_before) 1 := nm_r (by rw [dp_s2 (by omega), Nat.add_sub_cancel]) ⟨33, yy_two1_l he hq h 32 0 R rfl (dp_In_0 hp)⟩
theorem yy_two2_l (he : e < 7) (hq : ∀ y, y < 32 → R (32 * e + 32 + y) = q y) {post : SY → Prop} (h : ∀ R', dp_ag R R' e → (∀ x, x < 32 → R' (32 * e + x) = p x ||| q x) → post (f_count, (nI (e + 1)), a_list, a_there, a_above, a_tags, a_values, a_held, a_twin, a_kinds, a_args, a_sizes, a_isPath, R', a_spare, a_isSet, a_alive, a_edited, a_watchNode, a_before)) : ∀ d x R', x + d = 32 → dp_In R e (dp_mx x (fun x => p x ||| q x) p) R' → wY_two_12 post 2 (nI e) f_count (nI (e + 2)) (d + 1) 0 (nI x) a_list a_there a_above a_tags a_values a_held a_twin a_kinds a_args a_sizes a_isPath R' a_spare a_isSet a_alive a_edited a_watchNode a_before := by
  intro d
  induction d with
  | zero =>
    intro x R' hx H
    obtain rfl : x = 32 := by omega
    exact br_t dp_le32 (br_f (by decide) (nm_r (nI_pred (e + 1)) (h R' (dp_In_32 H).1 (dp_In_32 H).2)))
  | succ d ih =>
    intro x R' hx H
    have e1 : R' (32 * e + x) = p x := by rw [H.2 x (by omega), dp_mx_hi (Nat.le_refl _)]
    have e2 : ∀ y, y < 32 → R' (32 * e + 32 + y) = q y := fun y hy => by rw [dp_In_nx H]; exact hq y hy
    have e0 : R' (32 * e + 32) = q 0 := e2 0 (by omega)
    have t := fun v (hv : v = (fun x => p x ||| q x) x) => ih (x + 1) _ (by omega) (dp_In_s H (show x < 32 by omega) hv)
    refine br_f (dp_ge32 (by omega)) ?_
    simp only [dp_32m, dp_p32, nI_add, dp_cl256 (show 32 * e + x < 256 by omega), dp_cl256 (show 32 * e + 32 + x < 256 by omega), e1, e2 x (by omega)]
    refine ⟨dp_v256 (by omega), nm_e ⟨dp_v256 (by omega), nm_e ?_⟩⟩
    exact br_f (by decide) (br_f (by decide) (br_f (by decide) (br_f (by decide) (br_f (by decide) (br_f (by decide) (br_t rfl (yy_two_174 (by omega) (by omega) (t _ rfl))))))))
theorem yy_two2 (he : e < 7) (hp : ∀ y, y < 32 → R (32 * e + y) = p y) (hq : ∀ y, y < 32 → R (32 * e + 32 + y) = q y) {post : SY → Prop} (h : ∀ R', dp_ag R R' e → (∀ x, x < 32 → R' (32 * e + x) = p x ||| q x) → post (f_count, (nI (e + 1)), a_list, a_there, a_above, a_tags, a_values, a_held, a_twin, a_kinds, a_args, a_sizes, a_isPath, R', a_spare, a_isSet, a_alive, a_edited, a_watchNode, a_before)) : wpY_two post (f_count, (nI (e + 2)), a_list, a_there, a_above, a_tags, a_values, a_held, a_twin, a_kinds, a_args, a_sizes, a_isPath, R, a_spare, a_isSet, a_alive, a_edited, a_watchNode, a_before) 2 := nm_r (by rw [dp_s2 (by omega), Nat.add_sub_cancel]) ⟨33, yy_two2_l he hq h 32 0 R rfl (dp_In_0 hp)⟩
theorem yy_two3_l (he : e < 7) (hq : ∀ y, y < 32 → R (32 * e + 32 + y) = q y) {post : SY → Prop} (h : ∀ R', dp_ag R R' e → (∀ x, x < 32 → R' (32 * e + x) = p x &&& q x) → post (f_count, (nI (e + 1)), a_list, a_there, a_above, a_tags, a_values, a_held, a_twin, a_kinds, a_args, a_sizes, a_isPath, R', a_spare, a_isSet, a_alive, a_edited, a_watchNode, a_before)) : ∀ d x R', x + d = 32 → dp_In R e (dp_mx x (fun x => p x &&& q x) p) R' → wY_two_12 post 3 (nI e) f_count (nI (e + 2)) (d + 1) 0 (nI x) a_list a_there a_above a_tags a_values a_held a_twin a_kinds a_args a_sizes a_isPath R' a_spare a_isSet a_alive a_edited a_watchNode a_before := by
  intro d
  induction d with
  | zero =>
    intro x R' hx H
    obtain rfl : x = 32 := by omega
    exact br_t dp_le32 (br_f (by decide) (nm_r (nI_pred (e + 1)) (h R' (dp_In_32 H).1 (dp_In_32 H).2)))
  | succ d ih =>
    intro x R' hx H
    have e1 : R' (32 * e + x) = p x := by rw [H.2 x (by omega), dp_mx_hi (Nat.le_refl _)]
    have e2 : ∀ y, y < 32 → R' (32 * e + 32 + y) = q y := fun y hy => by rw [dp_In_nx H]; exact hq y hy
    have e0 : R' (32 * e + 32) = q 0 := e2 0 (by omega)
    have t := fun v (hv : v = (fun x => p x &&& q x) x) => ih (x + 1) _ (by omega) (dp_In_s H (show x < 32 by omega) hv)
    refine br_f (dp_ge32 (by omega)) ?_
    simp only [dp_32m, dp_p32, nI_add, dp_cl256 (show 32 * e + x < 256 by omega), dp_cl256 (show 32 * e + 32 + x < 256 by omega), e1, e2 x (by omega)]
    refine ⟨dp_v256 (by omega), nm_e ⟨dp_v256 (by omega), nm_e ?_⟩⟩
    exact br_t (by trivial) (br_f (by decide) (br_f (by decide) (br_f (by decide) (br_t rfl (yy_two_174 (by omega) (by omega) (t _ rfl))))))
theorem yy_two3 (he : e < 7) (hp : ∀ y, y < 32 → R (32 * e + y) = p y) (hq : ∀ y, y < 32 → R (32 * e + 32 + y) = q y) {post : SY → Prop} (h : ∀ R', dp_ag R R' e → (∀ x, x < 32 → R' (32 * e + x) = p x &&& q x) → post (f_count, (nI (e + 1)), a_list, a_there, a_above, a_tags, a_values, a_held, a_twin, a_kinds, a_args, a_sizes, a_isPath, R', a_spare, a_isSet, a_alive, a_edited, a_watchNode, a_before)) : wpY_two post (f_count, (nI (e + 2)), a_list, a_there, a_above, a_tags, a_values, a_held, a_twin, a_kinds, a_args, a_sizes, a_isPath, R, a_spare, a_isSet, a_alive, a_edited, a_watchNode, a_before) 3 := nm_r (by rw [dp_s2 (by omega), Nat.add_sub_cancel]) ⟨33, yy_two3_l he hq h 32 0 R rfl (dp_In_0 hp)⟩
theorem yy_two4_l (he : e < 7) (hq : ∀ y, y < 32 → R (32 * e + 32 + y) = q y) {post : SY → Prop} (h : ∀ R', dp_ag R R' e → (∀ x, x < 32 → R' (32 * e + x) = p x &&& (q x ^^^ (-1))) → post (f_count, (nI (e + 1)), a_list, a_there, a_above, a_tags, a_values, a_held, a_twin, a_kinds, a_args, a_sizes, a_isPath, R', a_spare, a_isSet, a_alive, a_edited, a_watchNode, a_before)) : ∀ d x R', x + d = 32 → dp_In R e (dp_mx x (fun x => p x &&& (q x ^^^ (-1))) p) R' → wY_two_12 post 4 (nI e) f_count (nI (e + 2)) (d + 1) 0 (nI x) a_list a_there a_above a_tags a_values a_held a_twin a_kinds a_args a_sizes a_isPath R' a_spare a_isSet a_alive a_edited a_watchNode a_before := by
  intro d
  induction d with
  | zero =>
    intro x R' hx H
    obtain rfl : x = 32 := by omega
    exact br_t dp_le32 (br_f (by decide) (nm_r (nI_pred (e + 1)) (h R' (dp_In_32 H).1 (dp_In_32 H).2)))
  | succ d ih =>
    intro x R' hx H
    have e1 : R' (32 * e + x) = p x := by rw [H.2 x (by omega), dp_mx_hi (Nat.le_refl _)]
    have e2 : ∀ y, y < 32 → R' (32 * e + 32 + y) = q y := fun y hy => by rw [dp_In_nx H]; exact hq y hy
    have e0 : R' (32 * e + 32) = q 0 := e2 0 (by omega)
    have t := fun v (hv : v = (fun x => p x &&& (q x ^^^ (-1))) x) => ih (x + 1) _ (by omega) (dp_In_s H (show x < 32 by omega) hv)
    refine br_f (dp_ge32 (by omega)) ?_
    simp only [dp_32m, dp_p32, nI_add, dp_cl256 (show 32 * e + x < 256 by omega), dp_cl256 (show 32 * e + 32 + x < 256 by omega), e1, e2 x (by omega)]
    refine ⟨dp_v256 (by omega), nm_e ⟨dp_v256 (by omega), nm_e ?_⟩⟩
    exact br_f (by decide) (br_f (by decide) (br_t (by trivial) (br_f (by decide) (br_f (by decide) (br_f (by decide) (br_t rfl (yy_two_174 (by omega) (by omega) (t _ rfl))))))))
theorem yy_two4 (he : e < 7) (hp : ∀ y, y < 32 → R (32 * e + y) = p y) (hq : ∀ y, y < 32 → R (32 * e + 32 + y) = q y) {post : SY → Prop} (h : ∀ R', dp_ag R R' e → (∀ x, x < 32 → R' (32 * e + x) = p x &&& (q x ^^^ (-1))) → post (f_count, (nI (e + 1)), a_list, a_there, a_above, a_tags, a_values, a_held, a_twin, a_kinds, a_args, a_sizes, a_isPath, R', a_spare, a_isSet, a_alive, a_edited, a_watchNode, a_before)) : wpY_two post (f_count, (nI (e + 2)), a_list, a_there, a_above, a_tags, a_values, a_held, a_twin, a_kinds, a_args, a_sizes, a_isPath, R, a_spare, a_isSet, a_alive, a_edited, a_watchNode, a_before) 4 := nm_r (by rw [dp_s2 (by omega), Nat.add_sub_cancel]) ⟨33, yy_two4_l he hq h 32 0 R rfl (dp_In_0 hp)⟩
theorem yy_two8_l (he : e < 7) (hq : ∀ y, y < 32 → R (32 * e + 32 + y) = q y) {post : SY → Prop} (h : ∀ R', dp_ag R R' e → (∀ x, x < 32 → R' (32 * e + x) = p x &&& q 0) → post (f_count, (nI (e + 1)), a_list, a_there, a_above, a_tags, a_values, a_held, a_twin, a_kinds, a_args, a_sizes, a_isPath, R', a_spare, a_isSet, a_alive, a_edited, a_watchNode, a_before)) : ∀ d x R', x + d = 32 → dp_In R e (dp_mx x (fun x => p x &&& q 0) p) R' → wY_two_12 post 8 (nI e) f_count (nI (e + 2)) (d + 1) 0 (nI x) a_list a_there a_above a_tags a_values a_held a_twin a_kinds a_args a_sizes a_isPath R' a_spare a_isSet a_alive a_edited a_watchNode a_before := by
  intro d
  induction d with
  | zero =>
    intro x R' hx H
    obtain rfl : x = 32 := by omega
    exact br_t dp_le32 (br_f (by decide) (nm_r (nI_pred (e + 1)) (h R' (dp_In_32 H).1 (dp_In_32 H).2)))
  | succ d ih =>
    intro x R' hx H
    have e1 : R' (32 * e + x) = p x := by rw [H.2 x (by omega), dp_mx_hi (Nat.le_refl _)]
    have e2 : ∀ y, y < 32 → R' (32 * e + 32 + y) = q y := fun y hy => by rw [dp_In_nx H]; exact hq y hy
    have e0 : R' (32 * e + 32) = q 0 := e2 0 (by omega)
    have t := fun v (hv : v = (fun x => p x &&& q 0) x) => ih (x + 1) _ (by omega) (dp_In_s H (show x < 32 by omega) hv)
    refine br_f (dp_ge32 (by omega)) ?_
    simp only [dp_32m, dp_p32, nI_add, dp_cl256 (show 32 * e + x < 256 by omega), dp_cl256 (show 32 * e + 32 + x < 256 by omega), e1, e2 x (by omega)]
    refine ⟨dp_v256 (by omega), nm_e ⟨dp_v256 (by omega), nm_e ?_⟩⟩
    refine br_f (by decide) (br_f (by decide) (br_f (by decide) (br_t rfl ?_)))
    simp only [dp_32m, dp_p32, dp_cl256 (show 32 * e + 32 < 256 by omega), e0]
    exact ⟨dp_v256 (by omega), br_f (by decide) (br_f (by decide) (br_t rfl (yy_two_174 (by omega) (by omega) (t _ rfl))))⟩
theorem yy_two8 (he : e < 7) (hp : ∀ y, y < 32 → R (32 * e + y) = p y) (hq : ∀ y, y < 32 → R (32 * e + 32 + y) = q y) {post : SY → Prop} (h : ∀ R', dp_ag R R' e → (∀ x, x < 32 → R' (32 * e + x) = p x &&& q 0) → post (f_count, (nI (e + 1)), a_list, a_there, a_above, a_tags, a_values, a_held, a_twin, a_kinds, a_args, a_sizes, a_isPath, R', a_spare, a_isSet, a_alive, a_edited, a_watchNode, a_before)) : wpY_two post (f_count, (nI (e + 2)), a_list, a_there, a_above, a_tags, a_values, a_held, a_twin, a_kinds, a_args, a_sizes, a_isPath, R, a_spare, a_isSet, a_alive, a_edited, a_watchNode, a_before) 8 := nm_r (by rw [dp_s2 (by omega), Nat.add_sub_cancel]) ⟨33, yy_two8_l he hq h 32 0 R rfl (dp_In_0 hp)⟩
theorem yy_two13_l (he : e < 7) (hq : ∀ y, y < 32 → R (32 * e + 32 + y) = q y) {post : SY → Prop} (h : ∀ R', dp_ag R R' e → (∀ x, x < 32 → R' (32 * e + x) = p x &&& q x) → post (f_count, (nI (e + 1)), a_list, a_there, a_above, a_tags, a_values, a_held, a_twin, a_kinds, a_args, a_sizes, a_isPath, R', a_spare, a_isSet, a_alive, a_edited, a_watchNode, a_before)) : ∀ d x R', x + d = 32 → dp_In R e (dp_mx x (fun x => p x &&& q x) p) R' → wY_two_12 post 13 (nI e) f_count (nI (e + 2)) (d + 1) 0 (nI x) a_list a_there a_above a_tags a_values a_held a_twin a_kinds a_args a_sizes a_isPath R' a_spare a_isSet a_alive a_edited a_watchNode a_before := by
  intro d
  induction d with
  | zero =>
    intro x R' hx H
    obtain rfl : x = 32 := by omega
    exact br_t dp_le32 (br_f (by decide) (nm_r (nI_pred (e + 1)) (h R' (dp_In_32 H).1 (dp_In_32 H).2)))
  | succ d ih =>
    intro x R' hx H
    have e1 : R' (32 * e + x) = p x := by rw [H.2 x (by omega), dp_mx_hi (Nat.le_refl _)]
    have e2 : ∀ y, y < 32 → R' (32 * e + 32 + y) = q y := fun y hy => by rw [dp_In_nx H]; exact hq y hy
    have e0 : R' (32 * e + 32) = q 0 := e2 0 (by omega)
    have t := fun v (hv : v = (fun x => p x &&& q x) x) => ih (x + 1) _ (by omega) (dp_In_s H (show x < 32 by omega) hv)
    refine br_f (dp_ge32 (by omega)) ?_
    simp only [dp_32m, dp_p32, nI_add, dp_cl256 (show 32 * e + x < 256 by omega), dp_cl256 (show 32 * e + 32 + x < 256 by omega), e1, e2 x (by omega)]
    refine ⟨dp_v256 (by omega), nm_e ⟨dp_v256 (by omega), nm_e ?_⟩⟩
    exact br_f (by decide) (br_t (by trivial) (br_f (by decide) (br_f (by decide) (br_f (by decide) (br_t rfl (yy_two_174 (by omega) (by omega) (t _ rfl)))))))
theorem yy_two13 (he : e < 7) (hp : ∀ y, y < 32 → R (32 * e + y) = p y) (hq : ∀ y, y < 32 → R (32 * e + 32 + y) = q y) {post : SY → Prop} (h : ∀ R', dp_ag R R' e → (∀ x, x < 32 → R' (32 * e + x) = p x &&& q x) → post (f_count, (nI (e + 1)), a_list, a_there, a_above, a_tags, a_values, a_held, a_twin, a_kinds, a_args, a_sizes, a_isPath, R', a_spare, a_isSet, a_alive, a_edited, a_watchNode, a_before)) : wpY_two post (f_count, (nI (e + 2)), a_list, a_there, a_above, a_tags, a_values, a_held, a_twin, a_kinds, a_args, a_sizes, a_isPath, R, a_spare, a_isSet, a_alive, a_edited, a_watchNode, a_before) 13 := nm_r (by rw [dp_s2 (by omega), Nat.add_sub_cancel]) ⟨33, yy_two13_l he hq h 32 0 R rfl (dp_In_0 hp)⟩
theorem yy_two14_l (he : e < 7) (hq : ∀ y, y < 32 → R (32 * e + 32 + y) = q y) {post : SY → Prop} (h : ∀ R', dp_ag R R' e → (∀ x, x < 32 → R' (32 * e + x) = p x ||| q x) → post (f_count, (nI (e + 1)), a_list, a_there, a_above, a_tags, a_values, a_held, a_twin, a_kinds, a_args, a_sizes, a_isPath, R', a_spare, a_isSet, a_alive, a_edited, a_watchNode, a_before)) : ∀ d x R', x + d = 32 → dp_In R e (dp_mx x (fun x => p x ||| q x) p) R' → wY_two_12 post 14 (nI e) f_count (nI (e + 2)) (d + 1) 0 (nI x) a_list a_there a_above a_tags a_values a_held a_twin a_kinds a_args a_sizes a_isPath R' a_spare a_isSet a_alive a_edited a_watchNode a_before := by
  intro d
  induction d with
  | zero =>
    intro x R' hx H
    obtain rfl : x = 32 := by omega
    exact br_t dp_le32 (br_f (by decide) (nm_r (nI_pred (e + 1)) (h R' (dp_In_32 H).1 (dp_In_32 H).2)))
  | succ d ih =>
    intro x R' hx H
    have e1 : R' (32 * e + x) = p x := by rw [H.2 x (by omega), dp_mx_hi (Nat.le_refl _)]
    have e2 : ∀ y, y < 32 → R' (32 * e + 32 + y) = q y := fun y hy => by rw [dp_In_nx H]; exact hq y hy
    have e0 : R' (32 * e + 32) = q 0 := e2 0 (by omega)
    have t := fun v (hv : v = (fun x => p x ||| q x) x) => ih (x + 1) _ (by omega) (dp_In_s H (show x < 32 by omega) hv)
    refine br_f (dp_ge32 (by omega)) ?_
    simp only [dp_32m, dp_p32, nI_add, dp_cl256 (show 32 * e + x < 256 by omega), dp_cl256 (show 32 * e + 32 + x < 256 by omega), e1, e2 x (by omega)]
    refine ⟨dp_v256 (by omega), nm_e ⟨dp_v256 (by omega), nm_e ?_⟩⟩
    exact br_f (by decide) (br_f (by decide) (br_f (by decide) (br_f (by decide) (br_f (by decide) (br_f (by decide) (br_t rfl (yy_two_174 (by omega) (by omega) (t _ rfl))))))))
theorem yy_two14 (he : e < 7) (hp : ∀ y, y < 32 → R (32 * e + y) = p y) (hq : ∀ y, y < 32 → R (32 * e + 32 + y) = q y) {post : SY → Prop} (h : ∀ R', dp_ag R R' e → (∀ x, x < 32 → R' (32 * e + x) = p x ||| q x) → post (f_count, (nI (e + 1)), a_list, a_there, a_above, a_tags, a_values, a_held, a_twin, a_kinds, a_args, a_sizes, a_isPath, R', a_spare, a_isSet, a_alive, a_edited, a_watchNode, a_before)) : wpY_two post (f_count, (nI (e + 2)), a_list, a_there, a_above, a_tags, a_values, a_held, a_twin, a_kinds, a_args, a_sizes, a_isPath, R, a_spare, a_isSet, a_alive, a_edited, a_watchNode, a_before) 14 := nm_r (by rw [dp_s2 (by omega), Nat.add_sub_cancel]) ⟨33, yy_two14_l he hq h 32 0 R rfl (dp_In_0 hp)⟩
theorem yy_two15_l (he : e < 7) (hq : ∀ y, y < 32 → R (32 * e + 32 + y) = q y) {post : SY → Prop} (h : ∀ R', dp_ag R R' e → wY_two_12 post 15 (nI e) f_count (nI (e + 2)) 1 (dp_mk (fun x => dp_mt a_values (p x) (q x)) 32) (nI 32) a_list a_there a_above a_tags a_values a_held a_twin a_kinds a_args a_sizes a_isPath R' a_spare a_isSet a_alive a_edited a_watchNode a_before) : ∀ d x R', x + d = 32 → dp_In R e (dp_mx x (fun x => p x ||| q x) p) R' → wY_two_12 post 15 (nI e) f_count (nI (e + 2)) (d + 1) (dp_mk (fun x => dp_mt a_values (p x) (q x)) x) (nI x) a_list a_there a_above a_tags a_values a_held a_twin a_kinds a_args a_sizes a_isPath R' a_spare a_isSet a_alive a_edited a_watchNode a_before := by
  intro d
  induction d with
  | zero =>
    intro x R' hx H
    obtain rfl : x = 32 := by omega
    exact h R' H.1
  | succ d ih =>
    intro x R' hx H
    have e1 : R' (32 * e + x) = p x := by rw [H.2 x (by omega), dp_mx_hi (Nat.le_refl _)]
    have e2 : ∀ y, y < 32 → R' (32 * e + 32 + y) = q y := fun y hy => by rw [dp_In_nx H]; exact hq y hy
    have t := ih (x + 1) _ (by omega) (dp_In_s H (show x < 32 by omega) (v := p x ||| q x) rfl)
    refine br_f (dp_ge32 (by omega)) ?_
    simp only [dp_32m, dp_p32, nI_add, dp_cl256 (show 32 * e + x < 256 by omega), dp_cl256 (show 32 * e + 32 + x < 256 by omega), e1, e2 x (by omega)]
    refine ⟨dp_v256 (by omega), nm_e ⟨dp_v256 (by omega), nm_e (br_f (by decide) (br_f (by decide) (br_f (by decide) (br_f (by decide) (br_f (by decide) (br_t rfl (yy_match ?_)))))))⟩⟩
    by_cases z : dp_mt a_values (p x) (q x) = true
    · rw [dp_mk_t (P := fun x => dp_mt a_values (p x) (q x)) z] at t
      rw [z]
      exact br_f (by decide) (br_f (by decide) (yy_two_174 (by omega) (by omega) t))
    · rw [dp_mk_f (P := fun x => dp_mt a_values (p x) (q x)) z] at t
      rw [Bool.eq_false_iff.mpr z]
      exact br_t rfl (br_t rfl (yy_two_174 (by omega) (by omega) t))
theorem yy_two15 (he : e < 7) (hp : ∀ y, y < 32 → R (32 * e + y) = p y) (hq : ∀ y, y < 32 → R (32 * e + 32 + y) = q y) {post : SY → Prop} (h : ∀ R', dp_ag R R' e → (∀ x, x < 32 → R' (32 * e + x) = dp_c0 (dp_mk (fun x => dp_mt a_values (p x) (q x)) 32) x) → post (f_count, (nI (e + 1)), a_list, a_there, a_above, a_tags, a_values, a_held, a_twin, a_kinds, a_args, a_sizes, (upd a_isPath e 0), R', a_spare, a_isSet, a_alive, a_edited, a_watchNode, a_before)) : wpY_two post (f_count, (nI (e + 2)), a_list, a_there, a_above, a_tags, a_values, a_held, a_twin, a_kinds, a_args, a_sizes, a_isPath, R, a_spare, a_isSet, a_alive, a_edited, a_watchNode, a_before) 15 := by
  refine nm_r (by rw [dp_s2 (by omega), Nat.add_sub_cancel]) ⟨33, yy_two15_l he hq (fun R' ag => br_t dp_le32 (br_t rfl (yy_makeCondition (by omega) (fun R2 ag2 H => nm_r (nI_pred (e + 1)) (h R2 (dp_ag_trans ag ag2) H))))) 32 0 R rfl (dp_In_0 hp)⟩
end YN
end
section
/-! the evaluations -/
theorem dp_h8 {kn : Nat → Nat} {an : Nat → Int32} {n : Nat} (W : dp_WT kn an n) : ∀ {i : Nat}, i ≤ n → (dp_ty kn i).1 ≤ 8
  | 0, _ => Nat.zero_le _
  | i + 1, h => (W i (by omega)).2.2
theorem dp_cases {k : Nat} (h : k ≤ 15) : k = 0 ∨ k = 1 ∨ k = 2 ∨ k = 3 ∨ k = 4 ∨ k = 5 ∨ k = 6 ∨ k = 7 ∨ k = 8 ∨ k = 9 ∨ k = 10 ∨ k = 11 ∨ k = 12 ∨ k = 13 ∨ k = 14 ∨ k = 15 := by omega
theorem xx_countTaken {k : Nat} (hk : k ≤ 15) {post : Int32 → Prop} (h : post (nI (dp_tk k))) : wpX_countTaken post (nI k) := by
  rcases dp_cases hk with rfl | rfl | rfl | rfl | rfl | rfl | rfl | rfl | rfl | rfl | rfl | rfl | rfl | rfl | rfl | rfl
  · exact br_f (by decide) (br_f (by decide) (br_t rfl h))
  · exact br_f (by decide) (br_f (by decide) (br_f (by decide) (br_t rfl h)))
  · exact br_f (by decide) (br_f (by decide) (br_f (by decide) (br_f (by decide) (br_t rfl h))))
  · exact br_f (by decide) (br_f (by decide) (br_f (by decide) (br_f (by decide) (br_f (by decide) (br_t rfl h)))))
  · exact br_f (by decide) (br_f (by decide) (br_f (by decide) (br_f (by decide) (br_f (by decide) (br_f (by decide) (br_t rfl h))))))
  · exact br_f (by decide) (br_f (by decide) (br_f (by decide) (br_f (by decide) (br_f (by decide) (br_f (by decide) (br_f (by decide) (br_t rfl h)))))))
  · exact br_f (by decide) (br_f (by decide) (br_f (by decide) (br_f (by decide) (br_f (by decide) (br_f (by decide) (br_f (by decide) (br_f (by decide) (br_t rfl h))))))))
  · exact br_f (by decide) (br_f (by decide) (br_f (by decide) (br_f (by decide) (br_f (by decide) (br_f (by decide) (br_f (by decide) (br_f (by decide) (br_f (by decide) (br_t rfl h)))))))))
  · exact br_f (by decide) (br_f (by decide) (br_f (by decide) (br_f (by decide) (br_f (by decide) (br_f (by decide) (br_f (by decide) (br_f (by decide) (br_f (by decide) (br_f (by decide) (br_t rfl h))))))))))
  · exact br_f (by decide) (br_f (by decide) (br_f (by decide) (br_f (by decide) (br_f (by decide) (br_f (by decide) (br_f (by decide) (br_f (by decide) (br_f (by decide) (br_f (by decide) (br_f (by decide) (br_t rfl h)))))))))))
  · exact br_f (by decide) (br_f (by decide) (br_f (by decide) (br_f (by decide) (br_f (by decide) (br_f (by decide) (br_f (by decide) (br_f (by decide) (br_f (by decide) (br_f (by decide) (br_f (by decide) (br_f (by decide) (br_t rfl h))))))))))))
  · exact br_f (by decide) (br_f (by decide) (br_f (by decide) (br_f (by decide) (br_f (by decide) (br_f (by decide) (br_f (by decide) (br_f (by decide) (br_f (by decide) (br_f (by decide) (br_f (by decide) (br_f (by decide) (br_f (by decide) (br_t rfl h)))))))))))))
  · exact br_f (by decide) (br_f (by decide) (br_f (by decide) (br_f (by decide) (br_f (by decide) (br_f (by decide) (br_f (by decide) (br_f (by decide) (br_f (by decide) (br_f (by decide) (br_f (by decide) (br_f (by decide) (br_f (by decide) (br_f (by decide) (br_t rfl h))))))))))))))
  · exact br_f (by decide) (br_t (by decide) h)
  · exact br_f (by decide) (br_t (by decide) h)
  · exact br_f (by decide) (br_t (by decide) h)
theorem xx_givesPath {k : Nat} (hk : k ≤ 15) {post : Int32 → Prop} (h : post (dp_c (dp_gp k))) : wpX_givesPath post (nI k) := by
  by_cases z : k ≤ 8
  · rw [show dp_gp k = true from decide_eq_true z] at h
    exact br_f (nI_nlt (a := 8) z (by decide)) h
  · rw [show dp_gp k = false from decide_eq_false z] at h
    exact br_t (nI_lt (a := 8) (by omega) (by omega)) h
section XE
variable {f_size f_present f_height : Int32} {a_order a_levels a_tags a_values a_ranks a_ends a_parents a_run a_kinds a_numbers a_lengths a_entryIsPath a_rows a_members a_wasSet a_watchNode a_selects a_selectedBefore : Nat → Int32} {c e : Nat} {o lv : Nat → Nat} {pr a : Int32} {p q R : Nat → Int32}
theorem xx_makePath (T : dp_Tr c o lv pr) (X : dp_TX c o (fun r => lv (o r)) a_ranks a_ends a_parents) (he : e < 8) {k : Nat} (hk : k ≤ 8) (h7 : dp_tk k = 2 → e < 7) (hp : 0 < dp_tk k → ∀ x, x < 32 → R (32 * e + x) = p x) (hq : dp_tk k = 2 → k ≠ 8 → ∀ x, x < 32 → R (32 * e + 32 + x) = q x) (hm : k = 8 → a_members (e + 1) = q 0) {post : SX → Prop} (h : ∀ R', dp_ag R R' e → (∀ x, x < 32 → R' (32 * e + x) = dp_op c o (fun r => lv (o r)) pr a_tags a_values k a p q x) → post ((nI c), pr, f_height, (fun j => nI (o j)), (fun j => nI (lv j)), a_tags, a_values, a_ranks, a_ends, a_parents, a_run, a_kinds, a_numbers, a_lengths, a_entryIsPath, R', a_members, a_wasSet, a_watchNode, a_selects, a_selectedBefore)) : wpX_makePath post ((nI c), pr, f_height, (fun j => nI (o j)), (fun j => nI (lv j)), a_tags, a_values, a_ranks, a_ends, a_parents, a_run, a_kinds, a_numbers, a_lengths, a_entryIsPath, R, a_members, a_wasSet, a_watchNode, a_selects, a_selectedBefore) (nI k) a (nI e) := by
  have ho := T.1.2.2.1
  have hc := T.1.1
  have cs : k = 0 ∨ k = 1 ∨ k = 2 ∨ k = 3 ∨ k = 4 ∨ k = 5 ∨ k = 6 ∨ k = 7 ∨ k = 8 := by omega
  rcases cs with rfl | rfl | rfl | rfl | rfl | rfl | rfl | rfl | rfl
  · exact nm_r (dp_m32 e) (br_f (by decide) (br_f (by decide) (br_t rfl (xx_putAxis T X he h))))
  · exact nm_r (dp_m32 e) (br_f (by decide) (br_f (by decide) (br_f (by decide) (br_t rfl (xx_joinRows (h7 rfl) (hp (by decide)) (hq rfl (by decide)) h)))))
  · exact nm_r (dp_m32 e) (br_f (by decide) (br_f (by decide) (br_f (by decide) (br_f (by decide) (br_t rfl (xx_combineRows (h7 rfl) (f := dp_op c o (fun r => lv (o r)) pr a_tags a_values 2 a p q) (fun x => ⟨fun _ => rfl, fun z => absurd rfl z⟩) (hp (by decide)) (hq rfl (by decide)) h))))))
  · exact nm_r (dp_m32 e) (br_f (by decide) (br_f (by decide) (br_f (by decide) (br_f (by decide) (br_f (by decide) (br_t rfl (xx_combineRows (h7 rfl) (f := dp_op c o (fun r => lv (o r)) pr a_tags a_values 3 a p q) (fun x => ⟨fun z => absurd z (by decide), fun _ => ⟨fun _ => rfl, fun z => absurd rfl z⟩⟩) (hp (by decide)) (hq rfl (by decide)) h)))))))
  · exact nm_r (dp_m32 e) (br_f (by decide) (br_f (by decide) (br_f (by decide) (br_f (by decide) (br_f (by decide) (br_f (by decide) (br_t rfl (xx_combineRows (h7 rfl) (f := dp_op c o (fun r => lv (o r)) pr a_tags a_values 4 a p q) (fun x => ⟨fun z => absurd z (by decide), fun _ => ⟨fun z => absurd z (by decide), fun _ => rfl⟩⟩) (hp (by decide)) (hq rfl (by decide)) h))))))))
  · exact nm_r (dp_m32 e) (br_f (by decide) (br_f (by decide) (br_f (by decide) (br_f (by decide) (br_f (by decide) (br_f (by decide) (br_f (by decide) (br_t rfl (xx_turnRows he (hp (by decide)) h)))))))))
  · exact nm_r (dp_m32 e) (br_f (by decide) (br_f (by decide) (br_f (by decide) (br_f (by decide) (br_f (by decide) (br_f (by decide) (br_f (by decide) (br_f (by decide) (br_t rfl (xx_repeatRows he (hp (by decide)) h))))))))))
  · exact nm_r (dp_m32 e) (br_f (by decide) (br_f (by decide) (br_f (by decide) (br_f (by decide) (br_f (by decide) (br_f (by decide) (br_f (by decide) (br_f (by decide) (br_f (by decide) (br_t rfl (xx_keepNth ho hc he (hp (by decide)) h)))))))))))
  · refine nm_r (dp_m32 e) (br_f (by decide) (br_f (by decide) (br_f (by decide) (br_f (by decide) (br_f (by decide) (br_f (by decide) (br_f (by decide) (br_f (by decide) (br_f (by decide) (br_f (by decide) (br_t rfl ?_)))))))))))
    have h7' := h7 rfl
    rw [nI_1]
    refine ⟨dp_v8 (by omega), ?_⟩
    rw [nI_clamp (show e + 1 < 2 ^ 31 by omega), hm rfl]
    exact xx_keepMembers he (hp (by decide)) h
theorem xx_makeCondition (T : dp_Tr c o lv pr) (hv : ∀ n, a_values n ≤ 99) (he : e < 8) {k : Nat} (hk : 9 ≤ k) (hk2 : k ≤ 15) (h7 : dp_tk k = 2 → e < 7) (hp : k = 11 ∨ k = 15 → (∀ x, x < 32 → a_rows (32 * e + x) = p x) ∧ dp_PP pr p) (hq : k = 15 → (∀ x, x < 32 → a_rows (32 * e + 32 + x) = q x) ∧ dp_PP pr q) (hm : k = 12 ∨ k = 13 ∨ k = 14 → a_members e = p 0) (hn : k = 13 ∨ k = 14 → a_members (e + 1) = q 0) {post : SX → Prop} (h : ∀ s, s = dp_op c o (fun r => lv (o r)) pr a_tags a_values k a p q 0 → post ((nI c), pr, f_height, (fun j => nI (o j)), (fun j => nI (lv j)), a_tags, a_values, a_ranks, a_ends, a_parents, a_run, a_kinds, a_numbers, a_lengths, a_entryIsPath, a_rows, (upd a_members e s), a_wasSet, a_watchNode, a_selects, a_selectedBefore)) : wpX_makeCondition post ((nI c), pr, f_height, (fun j => nI (o j)), (fun j => nI (lv j)), a_tags, a_values, a_ranks, a_ends, a_parents, a_run, a_kinds, a_numbers, a_lengths, a_entryIsPath, a_rows, a_members, a_wasSet, a_watchNode, a_selects, a_selectedBefore) (nI k) a (nI e) := by
  have ho := T.1.2.2.1
  have hc := T.1.1
  have cl : (nI e).toNatClampNeg = e := nI_clamp (by omega)
  have ve := dp_v8 he
  have fin : ∀ s, s = dp_op c o (fun r => lv (o r)) pr a_tags a_values k a p q 0 → vp_in (nI e) 8 ∧ ∀ m : Nat → Int32, m = upd a_members (nI e).toNatClampNeg s → post ((nI c), pr, f_height, (fun j => nI (o j)), (fun j => nI (lv j)), a_tags, a_values, a_ranks, a_ends, a_parents, a_run, a_kinds, a_numbers, a_lengths, a_entryIsPath, a_rows, m, a_wasSet, a_watchNode, a_selects, a_selectedBefore) := fun s hs => ⟨ve, fun m em => by rw [em, cl]; exact h s hs⟩
  have cs : k = 9 ∨ k = 10 ∨ k = 11 ∨ k = 12 ∨ k = 13 ∨ k = 14 ∨ k = 15 := by omega
  rcases cs with rfl | rfl | rfl | rfl | rfl | rfl | rfl
  · exact nm_r (dp_m32 e) (br_f (by decide) (br_f (by decide) (br_t rfl (xx_from_tags ho hc (fin _ dp_al_tag)))))
  · exact nm_r (dp_m32 e) (br_f (by decide) (br_f (by decide) (br_f (by decide) (br_t rfl (xx_from_values ho hc (fin _ (dp_al_least hv)))))))
  · exact nm_r (dp_m32 e) (br_f (by decide) (br_f (by decide) (br_f (by decide) (br_f (by decide) (br_t rfl (xx_many he (hp (Or.inl rfl)).1 (fin _ rfl)))))))
  · refine nm_r (dp_m32 e) (br_f (by decide) (br_f (by decide) (br_f (by decide) (br_f (by decide) (br_f (by decide) (br_t rfl ⟨ve, fin _ ?_⟩))))))
    rw [cl, hm (Or.inl rfl)]; rfl
  · refine nm_r (dp_m32 e) (br_f (by decide) (br_f (by decide) (br_f (by decide) (br_f (by decide) (br_f (by decide) (br_f (by decide) (br_t rfl ⟨ve, ?_⟩)))))))
    have h7' := h7 rfl
    rw [nI_1]
    refine ⟨dp_v8 (by omega), fin _ ?_⟩
    rw [cl, nI_clamp (show e + 1 < 2 ^ 31 by omega), hm (Or.inr (Or.inl rfl)), hn (Or.inl rfl)]; rfl
  · refine nm_r (dp_m32 e) (br_f (by decide) (br_f (by decide) (br_f (by decide) (br_f (by decide) (br_f (by decide) (br_f (by decide) (br_f (by decide) (br_t rfl ⟨ve, ?_⟩))))))))
    have h7' := h7 rfl
    rw [nI_1]
    refine ⟨dp_v8 (by omega), fin _ ?_⟩
    rw [cl, nI_clamp (show e + 1 < 2 ^ 31 by omega), hm (Or.inr (Or.inr rfl)), hn (Or.inr rfl)]; rfl
  · exact nm_r (dp_m32 e) (br_f (by decide) (br_t (by decide) (xx_match T (h7 rfl) (hp (Or.inr rfl)).1 (hq rfl).1 (hp (Or.inr rfl)).2 (hq rfl).2 (fin _ rfl))))
theorem xx_eval_l (T : dp_Tr c o lv pr) (X : dp_TX c o (fun r => lv (o r)) a_ranks a_ends a_parents) (hv : ∀ n, a_values n ≤ 99) {w n : Nat} {kn : Nat → Nat} {an : Nat → Int32} (hw : w < 4) (hn : n ≤ 24) (W : dp_WT kn an n) (hK : ∀ i, i < n → a_kinds (24 * w + i) = nI (kn i) ∧ a_numbers (24 * w + i) = an i) {post : Int32 → SX → Prop} (h : ∀ R' m, dp_XR c o (fun r => lv (o r)) pr a_tags a_values kn an n R' m → post (nI (dp_ty kn n).1 - 1) ((nI c), pr, f_height, (fun j => nI (o j)), (fun j => nI (lv j)), a_tags, a_values, a_ranks, a_ends, a_parents, a_run, a_kinds, a_numbers, a_lengths, a_entryIsPath, R', m, a_wasSet, a_watchNode, a_selects, a_selectedBefore)) : ∀ d i R' m, i + d = n → dp_XR c o (fun r => lv (o r)) pr a_tags a_values kn an i R' m → wX_evaluate_20 post (nI (24 * w + n)) (d + 1) (nI (dp_ty kn i).1 - 1) (nI (24 * w + i)) (nI c) pr f_height (fun j => nI (o j)) (fun j => nI (lv j)) a_tags a_values a_ranks a_ends a_parents a_run a_kinds a_numbers a_lengths a_entryIsPath R' m a_wasSet a_watchNode a_selects a_selectedBefore := by
  have ho := T.1.2.2.1
  intro d
  induction d with
  | zero =>
    intro i R' m hi H
    obtain rfl : i = n := by omega
    exact br_t (nI_le (Nat.le_refl _) (by omega)) (h R' m H)
  | succ d ih =>
    intro i R' m hi H
    obtain ⟨w1, w2, w3⟩ := W i (by omega)
    have h8 := dp_h8 W (show i ≤ n by omega)
    have PI := dp_vl_PI (l := fun r => lv (o r)) (tg := a_tags) (vs := a_values) ho T.2.1 W i (by omega)
    have w3' : (dp_ty kn i).1 - dp_tk (kn i) + 1 ≤ 8 := w3
    obtain ⟨f1, f2, f3⟩ := w2
    have tk2 : dp_tk (kn i) ≤ 2 := by unfold dp_tk; split; · omega
                                      split <;> omega
    have next : ∀ R2 m2, dp_XR c o (fun r => lv (o r)) pr a_tags a_values kn an (i + 1) R2 m2 → ∀ y, y = nI (24 * w + i) + 1 → wX_evaluate_20 post (nI (24 * w + n)) (d + 1) (nI ((dp_ty kn i).1 - dp_tk (kn i))) y (nI c) pr f_height (fun j => nI (o j)) (fun j => nI (lv j)) a_tags a_values a_ranks a_ends a_parents a_run a_kinds a_numbers a_lengths a_entryIsPath R2 m2 a_wasSet a_watchNode a_selects a_selectedBefore := fun R2 m2 H2 y ey => by
      have := ih (i + 1) R2 m2 (by omega) H2
      rw [dp_ty_h, nI_pred] at this
      rw [ey, nI_1, show 24 * w + i + 1 = 24 * w + (i + 1) from by omega]
      exact this
    have v96 : vp_in (nI (24 * w + i)) 96 := vp_in_nI (by omega) (by decide)
    have cl : (nI (24 * w + i)).toNatClampNeg = 24 * w + i := nI_clamp (by omega)
    refine br_f (nI_ge (by omega) (by omega)) ⟨v96, ?_⟩
    simp only [cl, (hK i (by omega)).1, (hK i (by omega)).2]
    refine xx_countTaken w1.1 (nm_r (e' := nI ((dp_ty kn i).1 - dp_tk (kn i))) ?_ ⟨v96, xx_givesPath w1.1 ?_⟩)
    · rw [← pk_sub f1]; grind
    generalize he : (dp_ty kn i).1 - dp_tk (kn i) = e at *
    have he8 : e < 8 := by omega
    have top1 : dp_tk (kn i) = 1 → e < (dp_ty kn i).1 ∧ (dp_ty kn i).2 e = dp_tp (kn i) := fun t => ⟨by omega, by rw [← f2 (by omega), show (dp_ty kn i).1 - 1 = e from by omega]⟩
    have top2 : dp_tk (kn i) = 2 → e < (dp_ty kn i).1 ∧ e + 1 < (dp_ty kn i).1 ∧ (dp_ty kn i).2 e = dp_bp (kn i) ∧ (dp_ty kn i).2 (e + 1) = dp_tp (kn i) := fun t => ⟨by omega, by omega, by rw [← f3 t, show (dp_ty kn i).1 - 2 = e from by omega], by rw [← f2 (by omega), show (dp_ty kn i).1 - 1 = e + 1 from by omega]⟩
    cases z : dp_gp (kn i)
    · have k9 : 9 ≤ kn i := by
        have := of_decide_eq_false z
        omega
      refine br_t rfl ⟨v96, v96, ?_⟩
      refine xx_makeCondition (p := dp_vl c o (fun r => lv (o r)) pr a_tags a_values kn an i e) (q := dp_vl c o (fun r => lv (o r)) pr a_tags a_values kn an i (e + 1)) T hv he8 k9 w1.1 (fun q => by omega) ?_ ?_ ?_ ?_ (fun s hs => next _ _ (dp_XR_cond he z H hs))
      · intro q
        have b : e < (dp_ty kn i).1 ∧ (dp_ty kn i).2 e = true := by
          rcases q with q | q
          · have t := top1 (by rw [q]; rfl)
            rw [q] at t; exact t
          · have t := top2 (by rw [q]; rfl)
            rw [q] at t; exact ⟨t.1, t.2.2.1⟩
        exact ⟨(H e b.1).1 b.2, (PI e b.1).1 b.2⟩
      · intro q
        have t := top2 (by rw [q]; rfl)
        rw [q] at t
        refine ⟨fun x hx => ?_, (PI (e + 1) t.2.1).1 t.2.2.2⟩
        rw [show 32 * e + 32 + x = 32 * (e + 1) + x from by omega]
        exact (H (e + 1) t.2.1).1 t.2.2.2 x hx
      · intro q
        have b : e < (dp_ty kn i).1 ∧ (dp_ty kn i).2 e = false := by
          rcases q with q | q | q
          · have t := top1 (by rw [q]; rfl)
            rw [q] at t; exact t
          · have t := top2 (by rw [q]; rfl)
            rw [q] at t; exact ⟨t.1, t.2.2.1⟩
          · have t := top2 (by rw [q]; rfl)
            rw [q] at t; exact ⟨t.1, t.2.2.1⟩
        exact (H e b.1).2 b.2
      · intro q
        have b : e + 1 < (dp_ty kn i).1 ∧ (dp_ty kn i).2 (e + 1) = false := by
          rcases q with q | q
          · have t := top2 (by rw [q]; rfl)
            rw [q] at t; exact ⟨t.2.1, t.2.2.2⟩
          · have t := top2 (by rw [q]; rfl)
            rw [q] at t; exact ⟨t.2.1, t.2.2.2⟩
        exact (H (e + 1) b.1).2 b.2
    · have k8 : kn i ≤ 8 := of_decide_eq_true z
      refine br_f (by decide) ⟨v96, v96, ?_⟩
      refine xx_makePath (p := dp_vl c o (fun r => lv (o r)) pr a_tags a_values kn an i e) (q := dp_vl c o (fun r => lv (o r)) pr a_tags a_values kn an i (e + 1)) T X he8 k8 (fun q => by omega) (fun q => ?_) (fun q q8 => ?_) (fun q => ?_) (fun R2 ag H2 => next _ _ (dp_XR_path he z H ag H2))
      · have b : e < (dp_ty kn i).1 ∧ (dp_ty kn i).2 e = true := by
          rcases Nat.lt_or_ge (dp_tk (kn i)) 2 with y | y
          · have t := top1 (by omega)
            refine ⟨t.1, t.2.trans (decide_eq_true ⟨fun e8 => ?_, by omega, by omega, by omega⟩)⟩
            rw [e8] at y; exact absurd y (by decide)
          · have t := top2 (by omega)
            exact ⟨t.1, t.2.2.1.trans (decide_eq_true ⟨by omega, by omega⟩)⟩
        exact (H e b.1).1 b.2
      · have t := top2 q
        have b : (dp_ty kn i).2 (e + 1) = true := t.2.2.2.trans (decide_eq_true ⟨q8, by omega, by omega, by omega⟩)
        intro x hx
        rw [show 32 * e + 32 + x = 32 * (e + 1) + x from by omega]
        exact (H (e + 1) t.2.1).1 b x hx
      · have t := top2 (by rw [q]; rfl)
        have b : (dp_ty kn i).2 (e + 1) = false := t.2.2.2.trans (by rw [q]; rfl)
        exact (H (e + 1) t.2.1).2 b
theorem xx_evaluate (T : dp_Tr c o lv pr) (X : dp_TX c o (fun r => lv (o r)) a_ranks a_ends a_parents) (hv : ∀ n, a_values n ≤ 99) {w n : Nat} {kn : Nat → Nat} {an : Nat → Int32} (hw : w < 4) (hn : n ≤ 24) (W : dp_WT kn an n) (hl : a_lengths w = nI n) (hK : ∀ i, i < n → a_kinds (24 * w + i) = nI (kn i) ∧ a_numbers (24 * w + i) = an i) {post : Int32 → SX → Prop} (h : ∀ R' m, dp_XR c o (fun r => lv (o r)) pr a_tags a_values kn an n R' m → post (nI (dp_ty kn n).1 - 1) ((nI c), pr, f_height, (fun j => nI (o j)), (fun j => nI (lv j)), a_tags, a_values, a_ranks, a_ends, a_parents, a_run, a_kinds, a_numbers, a_lengths, a_entryIsPath, R', m, a_wasSet, a_watchNode, a_selects, a_selectedBefore)) : wpX_evaluate post ((nI c), pr, f_height, (fun j => nI (o j)), (fun j => nI (lv j)), a_tags, a_values, a_ranks, a_ends, a_parents, a_run, a_kinds, a_numbers, a_lengths, a_entryIsPath, a_rows, a_members, a_wasSet, a_watchNode, a_selects, a_selectedBefore) (nI w) := by
  refine nm_r (dp_m24 w) ⟨vp_in_nI hw (by decide), ?_⟩
  rw [nI_clamp (show w < 2 ^ 31 by omega), hl]
  exact nm_r (nI_add _ _) ⟨n + 1, xx_eval_l T X hv hw hn W hK h n 0 _ _ (Nat.zero_add n) (fun e he => absurd he (Nat.not_lt_zero e))⟩
end XE
end
section
/-! the reference's evaluation -/
section YW
variable {f_count f_height : Int32} {a_list a_there a_above a_tags a_values a_held a_twin a_kinds a_args a_sizes a_isPath a_rows a_spare a_isSet a_alive a_edited a_watchNode a_before : Nat → Int32} {c e : Nat} {o lv : Nat → Nat} {pr a : Int32} {p q R : Nat → Int32}
theorem yy_isBare {k : Nat} (hk : k ≤ 15) {post : Int32 → Prop} (h : post (dp_c (decide (dp_tk k = 0)))) : wpY_isBare post (f_count, f_height, a_list, a_there, a_above, a_tags, a_values, a_held, a_twin, a_kinds, a_args, a_sizes, a_isPath, a_rows, a_spare, a_isSet, a_alive, a_edited, a_watchNode, a_before) (nI k) := by
  rcases dp_cases hk with rfl | rfl | rfl | rfl | rfl | rfl | rfl | rfl | rfl | rfl | rfl | rfl | rfl | rfl | rfl | rfl
  · exact br_t rfl h
  · exact br_f (by decide) (br_f (by decide) (br_f (by decide) h))
  · exact br_f (by decide) (br_f (by decide) (br_f (by decide) h))
  · exact br_f (by decide) (br_f (by decide) (br_f (by decide) h))
  · exact br_f (by decide) (br_f (by decide) (br_f (by decide) h))
  · exact br_f (by decide) (br_f (by decide) (br_f (by decide) h))
  · exact br_f (by decide) (br_f (by decide) (br_f (by decide) h))
  · exact br_f (by decide) (br_f (by decide) (br_f (by decide) h))
  · exact br_f (by decide) (br_f (by decide) (br_f (by decide) h))
  · exact br_f (by decide) (br_t rfl h)
  · exact br_f (by decide) (br_f (by decide) (br_t rfl h))
  · exact br_f (by decide) (br_f (by decide) (br_f (by decide) h))
  · exact br_f (by decide) (br_f (by decide) (br_f (by decide) h))
  · exact br_f (by decide) (br_f (by decide) (br_f (by decide) h))
  · exact br_f (by decide) (br_f (by decide) (br_f (by decide) h))
  · exact br_f (by decide) (br_f (by decide) (br_f (by decide) h))
/-- one token: from the entries of i tokens to those of i + 1; G is what stands behind -/
theorem yy_tok (T : dp_Tr c o lv pr) (A : dp_Ab c o (fun r => lv (o r)) a_above) {k h : Nat} {F : Nat → Bool} {V : Nat → Nat → Int32} {a : Int32} (hk : dp_ok k a) (hf : dp_ft h F k) (h8 : h ≤ 8) (he : h - dp_tk k + 1 ≤ 8) (PI : ∀ e, e < h → dp_PI pr (F e) (V e)) (H : ∀ e, e < h → a_isPath e = dp_c (F e) ∧ ∀ x, x < 32 → R (32 * e + x) = V e x) {post : SY → Prop} (G : ∀ R' P' Z, dp_ag R R' (h - dp_tk k) → (∀ x, x < 32 → R' (32 * (h - dp_tk k) + x) = dp_op c o (fun r => lv (o r)) pr a_tags a_values k a (V (h - dp_tk k)) (V (h - dp_tk k + 1)) x) → P' (h - dp_tk k) = dp_c (dp_gp k) → (∀ j, j < h - dp_tk k → P' j = a_isPath j) → post ((nI c), (nI (h - dp_tk k + 1)), (fun j => nI (o j)), (dp_th pr), a_above, a_tags, a_values, a_held, a_twin, a_kinds, a_args, a_sizes, P', R', Z, a_isSet, a_alive, a_edited, a_watchNode, a_before)) : (dp_tk k = 0 → wpY_bare post ((nI c), (nI h), (fun j => nI (o j)), (dp_th pr), a_above, a_tags, a_values, a_held, a_twin, a_kinds, a_args, a_sizes, a_isPath, R, a_spare, a_isSet, a_alive, a_edited, a_watchNode, a_before) (nI k) a) ∧ (dp_tk k = 1 → wpY_one post ((nI c), (nI h), (fun j => nI (o j)), (dp_th pr), a_above, a_tags, a_values, a_held, a_twin, a_kinds, a_args, a_sizes, a_isPath, R, a_spare, a_isSet, a_alive, a_edited, a_watchNode, a_before) (nI k) a) ∧ (dp_tk k = 2 → wpY_two post ((nI c), (nI h), (fun j => nI (o j)), (dp_th pr), a_above, a_tags, a_values, a_held, a_twin, a_kinds, a_args, a_sizes, a_isPath, R, a_spare, a_isSet, a_alive, a_edited, a_watchNode, a_before) (nI k)) := by
  have ho := T.1.2.2.1
  have hc := T.1.1
  obtain ⟨k15, k7, k11⟩ := hk
  obtain ⟨f1, f2, f3⟩ := hf
  have no0 : ∀ {Q : Prop}, (0 : Nat) = 1 → Q := fun z => absurd z (by decide)
  rcases dp_cases k15 with rfl | rfl | rfl | rfl | rfl | rfl | rfl | rfl | rfl | rfl | rfl | rfl | rfl | rfl | rfl | rfl
  · refine ⟨fun _ => ?_, fun z => absurd z (by decide), fun z => absurd z (by decide)⟩
    exact yy_bare0 T A (show h < 8 from he) (fun R' ag H2 => G R' _ _ ag H2 pk_us (fun j hj => pk_un (Nat.ne_of_lt hj)))
  · refine ⟨fun z => absurd z (by decide), fun z => absurd z (by decide), fun _ => ?_⟩
    obtain ⟨e, rfl⟩ : ∃ e, h = e + 2 := ⟨h - 2, by have : 2 ≤ h := f1; omega⟩
    have F1 : F (e + 1) = true := f2 (by decide)
    have F2 : F e = true := f3 rfl
    have hp := (H e (by omega)).2
    have hq : ∀ y, y < 32 → R (32 * e + 32 + y) = V (e + 1) y := fun y hy => by rw [show 32 * e + 32 + y = 32 * (e + 1) + y from by omega]; exact (H (e + 1) (by omega)).2 y hy
    exact yy_two1 (by omega) hp hq (fun R' ag H2 => G R' _ _ ag H2 ((H e (by omega)).1.trans (by rw [F2]; rfl)) (fun _ _ => rfl))
  · refine ⟨fun z => absurd z (by decide), fun z => absurd z (by decide), fun _ => ?_⟩
    obtain ⟨e, rfl⟩ : ∃ e, h = e + 2 := ⟨h - 2, by have : 2 ≤ h := f1; omega⟩
    have F1 : F (e + 1) = true := f2 (by decide)
    have F2 : F e = true := f3 rfl
    have hp := (H e (by omega)).2
    have hq : ∀ y, y < 32 → R (32 * e + 32 + y) = V (e + 1) y := fun y hy => by rw [show 32 * e + 32 + y = 32 * (e + 1) + y from by omega]; exact (H (e + 1) (by omega)).2 y hy
    exact yy_two2 (by omega) hp hq (fun R' ag H2 => G R' _ _ ag H2 ((H e (by omega)).1.trans (by rw [F2]; rfl)) (fun _ _ => rfl))
  · refine ⟨fun z => absurd z (by decide), fun z => absurd z (by decide), fun _ => ?_⟩
    obtain ⟨e, rfl⟩ : ∃ e, h = e + 2 := ⟨h - 2, by have : 2 ≤ h := f1; omega⟩
    have F1 : F (e + 1) = true := f2 (by decide)
    have F2 : F e = true := f3 rfl
    have hp := (H e (by omega)).2
    have hq : ∀ y, y < 32 → R (32 * e + 32 + y) = V (e + 1) y := fun y hy => by rw [show 32 * e + 32 + y = 32 * (e + 1) + y from by omega]; exact (H (e + 1) (by omega)).2 y hy
    exact yy_two3 (by omega) hp hq (fun R' ag H2 => G R' _ _ ag H2 ((H e (by omega)).1.trans (by rw [F2]; rfl)) (fun _ _ => rfl))
  · refine ⟨fun z => absurd z (by decide), fun z => absurd z (by decide), fun _ => ?_⟩
    obtain ⟨e, rfl⟩ : ∃ e, h = e + 2 := ⟨h - 2, by have : 2 ≤ h := f1; omega⟩
    have F1 : F (e + 1) = true := f2 (by decide)
    have F2 : F e = true := f3 rfl
    have hp := (H e (by omega)).2
    have hq : ∀ y, y < 32 → R (32 * e + 32 + y) = V (e + 1) y := fun y hy => by rw [show 32 * e + 32 + y = 32 * (e + 1) + y from by omega]; exact (H (e + 1) (by omega)).2 y hy
    exact yy_two4 (by omega) hp hq (fun R' ag H2 => G R' _ _ ag H2 ((H e (by omega)).1.trans (by rw [F2]; rfl)) (fun _ _ => rfl))
  · refine ⟨fun z => absurd z (by decide), fun _ => ?_, fun z => absurd z (by decide)⟩
    obtain ⟨e, rfl⟩ : ∃ e, h = e + 1 := ⟨h - 1, by have : 1 ≤ h := f1; omega⟩
    have F1 : F e = true := f2 (by decide)
    have hp := (H e (by omega)).2
    have P1 := (PI e (by omega)).1 F1
    exact yy_one5 (by omega) hp (fun R' Z ag H2 => G R' _ Z ag H2 ((H e (by omega)).1.trans (by rw [F1]; rfl)) (fun _ _ => rfl))
  · refine ⟨fun z => absurd z (by decide), fun _ => ?_, fun z => absurd z (by decide)⟩
    obtain ⟨e, rfl⟩ : ∃ e, h = e + 1 := ⟨h - 1, by have : 1 ≤ h := f1; omega⟩
    have F1 : F e = true := f2 (by decide)
    have hp := (H e (by omega)).2
    have P1 := (PI e (by omega)).1 F1
    exact yy_one6 (by omega) hp P1 (fun R' ag H2 => G R' _ _ ag H2 ((H e (by omega)).1.trans (by rw [F1]; rfl)) (fun _ _ => rfl))
  · refine ⟨fun z => absurd z (by decide), fun _ => ?_, fun z => absurd z (by decide)⟩
    obtain ⟨e, rfl⟩ : ∃ e, h = e + 1 := ⟨h - 1, by have : 1 ≤ h := f1; omega⟩
    have F1 : F e = true := f2 (by decide)
    have hp := (H e (by omega)).2
    have P1 := (PI e (by omega)).1 F1
    exact yy_one7 ho hc (by omega) (k7 rfl) hp (fun R' ag H2 => G R' _ _ ag H2 ((H e (by omega)).1.trans (by rw [F1]; rfl)) (fun _ _ => rfl))
  · refine ⟨fun z => absurd z (by decide), fun z => absurd z (by decide), fun _ => ?_⟩
    obtain ⟨e, rfl⟩ : ∃ e, h = e + 2 := ⟨h - 2, by have : 2 ≤ h := f1; omega⟩
    have F1 : F (e + 1) = false := f2 (by decide)
    have F2 : F e = true := f3 rfl
    have hp := (H e (by omega)).2
    have hq : ∀ y, y < 32 → R (32 * e + 32 + y) = V (e + 1) y := fun y hy => by rw [show 32 * e + 32 + y = 32 * (e + 1) + y from by omega]; exact (H (e + 1) (by omega)).2 y hy
    exact yy_two8 (by omega) hp hq (fun R' ag H2 => G R' _ _ ag H2 ((H e (by omega)).1.trans (by rw [F2]; rfl)) (fun _ _ => rfl))
  · refine ⟨fun _ => ?_, fun z => absurd z (by decide), fun z => absurd z (by decide)⟩
    exact yy_bare9 T (show h < 8 from he) (fun R' ag H2 => G R' _ _ ag H2 pk_us (fun j hj => pk_un (Nat.ne_of_lt hj)))
  · refine ⟨fun _ => ?_, fun z => absurd z (by decide), fun z => absurd z (by decide)⟩
    exact yy_bare10 T (show h < 8 from he) (fun R' ag H2 => G R' _ _ ag H2 pk_us (fun j hj => pk_un (Nat.ne_of_lt hj)))
  · refine ⟨fun z => absurd z (by decide), fun _ => ?_, fun z => absurd z (by decide)⟩
    obtain ⟨e, rfl⟩ : ∃ e, h = e + 1 := ⟨h - 1, by have : 1 ≤ h := f1; omega⟩
    have F1 : F e = true := f2 (by decide)
    have hp := (H e (by omega)).2
    have P1 := (PI e (by omega)).1 F1
    exact yy_one11 (by omega) hp P1 (k11 rfl) (fun R' ag H2 => G R' _ _ ag H2 pk_us (fun j hj => pk_un (Nat.ne_of_lt hj)))
  · refine ⟨fun z => absurd z (by decide), fun _ => ?_, fun z => absurd z (by decide)⟩
    obtain ⟨e, rfl⟩ : ∃ e, h = e + 1 := ⟨h - 1, by have : 1 ≤ h := f1; omega⟩
    have F1 : F e = false := f2 (by decide)
    have hp := (H e (by omega)).2
    exact yy_one12 (p := V e) (by omega) (hp 0 (by omega)) (fun R' ag H2 => G R' _ _ ag H2 pk_us (fun j hj => pk_un (Nat.ne_of_lt hj)))
  · refine ⟨fun z => absurd z (by decide), fun z => absurd z (by decide), fun _ => ?_⟩
    obtain ⟨e, rfl⟩ : ∃ e, h = e + 2 := ⟨h - 2, by have : 2 ≤ h := f1; omega⟩
    have F1 : F (e + 1) = false := f2 (by decide)
    have F2 : F e = false := f3 rfl
    have hp := (H e (by omega)).2
    have hq : ∀ y, y < 32 → R (32 * e + 32 + y) = V (e + 1) y := fun y hy => by rw [show 32 * e + 32 + y = 32 * (e + 1) + y from by omega]; exact (H (e + 1) (by omega)).2 y hy
    exact yy_two13 (by omega) hp hq (fun R' ag H2 => G R' _ _ ag H2 ((H e (by omega)).1.trans (by rw [F2]; rfl)) (fun _ _ => rfl))
  · refine ⟨fun z => absurd z (by decide), fun z => absurd z (by decide), fun _ => ?_⟩
    obtain ⟨e, rfl⟩ : ∃ e, h = e + 2 := ⟨h - 2, by have : 2 ≤ h := f1; omega⟩
    have F1 : F (e + 1) = false := f2 (by decide)
    have F2 : F e = false := f3 rfl
    have hp := (H e (by omega)).2
    have hq : ∀ y, y < 32 → R (32 * e + 32 + y) = V (e + 1) y := fun y hy => by rw [show 32 * e + 32 + y = 32 * (e + 1) + y from by omega]; exact (H (e + 1) (by omega)).2 y hy
    exact yy_two14 (by omega) hp hq (fun R' ag H2 => G R' _ _ ag H2 ((H e (by omega)).1.trans (by rw [F2]; rfl)) (fun _ _ => rfl))
  · refine ⟨fun z => absurd z (by decide), fun z => absurd z (by decide), fun _ => ?_⟩
    obtain ⟨e, rfl⟩ : ∃ e, h = e + 2 := ⟨h - 2, by have : 2 ≤ h := f1; omega⟩
    have F1 : F (e + 1) = true := f2 (by decide)
    have F2 : F e = true := f3 rfl
    have hp := (H e (by omega)).2
    have hq : ∀ y, y < 32 → R (32 * e + 32 + y) = V (e + 1) y := fun y hy => by rw [show 32 * e + 32 + y = 32 * (e + 1) + y from by omega]; exact (H (e + 1) (by omega)).2 y hy
    exact yy_two15 (by omega) hp hq (fun R' ag H2 => G R' _ _ ag H2 pk_us (fun j hj => pk_un (Nat.ne_of_lt hj)))
theorem yy_work_l (T : dp_Tr c o lv pr) (A : dp_Ab c o (fun r => lv (o r)) a_above) {w n : Nat} {kn : Nat → Nat} {an : Nat → Int32} (hw : w < 4) (hn : n ≤ 24) (W : dp_WT kn an n) (hs : a_sizes w = nI n) (hK : ∀ i, i < n → a_kinds (24 * w + i) = nI (kn i) ∧ a_args (24 * w + i) = an i) {post : SY → Prop} (h : ∀ R' P' Z, dp_YR c o (fun r => lv (o r)) pr a_tags a_values kn an n R' P' → post ((nI c), (nI (dp_ty kn n).1), (fun j => nI (o j)), (dp_th pr), a_above, a_tags, a_values, a_held, a_twin, a_kinds, a_args, a_sizes, P', R', Z, a_isSet, a_alive, a_edited, a_watchNode, a_before)) : ∀ d i R' P' Z, i + d = n → dp_YR c o (fun r => lv (o r)) pr a_tags a_values kn an i R' P' → wY_work_7 post (nI w) (d + 1) (nI i) (nI c) (nI (dp_ty kn i).1) (fun j => nI (o j)) (dp_th pr) a_above a_tags a_values a_held a_twin a_kinds a_args a_sizes P' R' Z a_isSet a_alive a_edited a_watchNode a_before := by
  have ho := T.1.2.2.1
  have vw : vp_in (nI w) 4 := vp_in_nI hw (by decide)
  have cw : (nI w).toNatClampNeg = w := nI_clamp (by omega)
  intro d
  induction d with
  | zero =>
    intro i R' P' Z hi H
    obtain rfl : i = n := by omega
    refine ⟨vw, ?_⟩
    rw [cw, hs]
    exact br_t (nI_le (Nat.le_refl _) (by omega)) (h R' P' Z H)
  | succ d ih =>
    intro i R' P' Z hi H
    obtain ⟨w1, w2, w3⟩ := W i (by omega)
    have h8 := dp_h8 W (show i ≤ n by omega)
    have PI := dp_vl_PI (l := fun r => lv (o r)) (tg := a_tags) (vs := a_values) ho T.2.1 W i (by omega)
    have v96 : vp_in (nI (24 * w + i)) 96 := vp_in_nI (by omega) (by decide)
    have cl : (nI (24 * w + i)).toNatClampNeg = 24 * w + i := nI_clamp (by omega)
    have tk2 : dp_tk (kn i) ≤ 2 := by
      unfold dp_tk
      split
      · omega
      · split <;> omega
    have tok := fun (post : SY → Prop) G => yy_tok (a_tags := a_tags) (a_values := a_values) (a_held := a_held) (a_twin := a_twin) (a_kinds := a_kinds) (a_args := a_args) (a_sizes := a_sizes) (a_spare := Z) (a_isSet := a_isSet) (a_alive := a_alive) (a_edited := a_edited) (a_watchNode := a_watchNode) (a_before := a_before) (post := post) T A w1 w2 h8 w3 PI H G
    refine ⟨vw, ?_⟩
    rw [cw, hs]
    refine br_f (nI_ge (by omega) (by omega)) ?_
    simp only [dp_24m, nI_add, cl, (hK i (by omega)).1, (hK i (by omega)).2]
    refine ⟨v96, nm_e ⟨v96, nm_e (yy_isBare w1.1 ?_)⟩⟩
    have next : ∀ R2 P2 Z2, dp_ag R' R2 ((dp_ty kn i).1 - dp_tk (kn i)) → (∀ x, x < 32 → R2 (32 * ((dp_ty kn i).1 - dp_tk (kn i)) + x) = dp_op c o (fun r => lv (o r)) pr a_tags a_values (kn i) (an i) (dp_vl c o (fun r => lv (o r)) pr a_tags a_values kn an i ((dp_ty kn i).1 - dp_tk (kn i))) (dp_vl c o (fun r => lv (o r)) pr a_tags a_values kn an i ((dp_ty kn i).1 - dp_tk (kn i) + 1)) x) → P2 ((dp_ty kn i).1 - dp_tk (kn i)) = dp_c (dp_gp (kn i)) → (∀ j, j < (dp_ty kn i).1 - dp_tk (kn i) → P2 j = P' j) → ∀ y, y = nI i + 1 → wY_work_7 post (nI w) (d + 1) y (nI c) (nI ((dp_ty kn i).1 - dp_tk (kn i) + 1)) (fun j => nI (o j)) (dp_th pr) a_above a_tags a_values a_held a_twin a_kinds a_args a_sizes P2 R2 Z2 a_isSet a_alive a_edited a_watchNode a_before := fun R2 P2 Z2 g1 g2 g3 g4 y ey => by
      rw [ey, nI_1]
      exact ih (i + 1) R2 P2 Z2 (by omega) (dp_YR_step rfl H g1 g2 g3 g4)
    rcases dp_cases w1.1 with z | z | z | z | z | z | z | z | z | z | z | z | z | z | z | z
    · have t := tok
      rw [z] at next t ⊢
      exact br_f (by decide) ((t _ next).1 rfl)
    · have t := tok
      rw [z] at next t ⊢
      exact br_t rfl (br_f (by decide) (br_f (by decide) (br_f (by decide) (br_f (by decide) (br_f (by decide) ((t _ next).2.2 rfl))))))
    · have t := tok
      rw [z] at next t ⊢
      exact br_t rfl (br_f (by decide) (br_f (by decide) (br_f (by decide) (br_f (by decide) (br_f (by decide) ((t _ next).2.2 rfl))))))
    · have t := tok
      rw [z] at next t ⊢
      exact br_t rfl (br_f (by decide) (br_f (by decide) (br_f (by decide) (br_f (by decide) (br_f (by decide) ((t _ next).2.2 rfl))))))
    · have t := tok
      rw [z] at next t ⊢
      exact br_t rfl (br_f (by decide) (br_f (by decide) (br_f (by decide) (br_f (by decide) (br_f (by decide) ((t _ next).2.2 rfl))))))
    · have t := tok
      rw [z] at next t ⊢
      exact br_t rfl (br_t rfl ((t _ next).2.1 rfl))
    · have t := tok
      rw [z] at next t ⊢
      exact br_t rfl (br_f (by decide) (br_t rfl ((t _ next).2.1 rfl)))
    · have t := tok
      rw [z] at next t ⊢
      exact br_t rfl (br_f (by decide) (br_f (by decide) (br_t rfl ((t _ next).2.1 rfl))))
    · have t := tok
      rw [z] at next t ⊢
      exact br_t rfl (br_f (by decide) (br_f (by decide) (br_f (by decide) (br_f (by decide) (br_f (by decide) ((t _ next).2.2 rfl))))))
    · have t := tok
      rw [z] at next t ⊢
      exact br_f (by decide) ((t _ next).1 rfl)
    · have t := tok
      rw [z] at next t ⊢
      exact br_f (by decide) ((t _ next).1 rfl)
    · have t := tok
      rw [z] at next t ⊢
      exact br_t rfl (br_f (by decide) (br_f (by decide) (br_f (by decide) (br_t rfl ((t _ next).2.1 rfl)))))
    · have t := tok
      rw [z] at next t ⊢
      exact br_t rfl (br_f (by decide) (br_f (by decide) (br_f (by decide) (br_f (by decide) (br_t rfl ((t _ next).2.1 rfl))))))
    · have t := tok
      rw [z] at next t ⊢
      exact br_t rfl (br_f (by decide) (br_f (by decide) (br_f (by decide) (br_f (by decide) (br_f (by decide) ((t _ next).2.2 rfl))))))
    · have t := tok
      rw [z] at next t ⊢
      exact br_t rfl (br_f (by decide) (br_f (by decide) (br_f (by decide) (br_f (by decide) (br_f (by decide) ((t _ next).2.2 rfl))))))
    · have t := tok
      rw [z] at next t ⊢
      exact br_t rfl (br_f (by decide) (br_f (by decide) (br_f (by decide) (br_f (by decide) (br_f (by decide) ((t _ next).2.2 rfl))))))
theorem yy_work (T : dp_Tr c o lv pr) (A : dp_Ab c o (fun r => lv (o r)) a_above) {w n : Nat} {kn : Nat → Nat} {an : Nat → Int32} (hw : w < 4) (hn : n ≤ 24) (W : dp_WT kn an n) (hs : a_sizes w = nI n) (hK : ∀ i, i < n → a_kinds (24 * w + i) = nI (kn i) ∧ a_args (24 * w + i) = an i) {post : SY → Prop} (h : ∀ R' P' Z, dp_YR c o (fun r => lv (o r)) pr a_tags a_values kn an n R' P' → post ((nI c), (nI (dp_ty kn n).1), (fun j => nI (o j)), (dp_th pr), a_above, a_tags, a_values, a_held, a_twin, a_kinds, a_args, a_sizes, P', R', Z, a_isSet, a_alive, a_edited, a_watchNode, a_before)) : wpY_work post ((nI c), f_height, (fun j => nI (o j)), (dp_th pr), a_above, a_tags, a_values, a_held, a_twin, a_kinds, a_args, a_sizes, a_isPath, a_rows, a_spare, a_isSet, a_alive, a_edited, a_watchNode, a_before) (nI w) :=
  ⟨n + 1, yy_work_l T A hw hn W hs hK h n 0 _ _ _ (Nat.zero_add n) (fun e he => absurd he (Nat.not_lt_zero e))⟩
end YW
end
section
/-! watches and the query's top -/
theorem dp_px_s (s : Nat) : dp_px (s + 1) = s := rfl
theorem dp_px_0 : dp_px 0 = 3 := rfl
theorem dp_v3 {n : Nat} (h : n < 3) : vp_in (nI n) 3 := vp_in_nI h (by decide)
theorem dp_ge3 {n : Nat} (h : n < 3) : ¬ (3 : Int32) ≤ nI n := nI_ge (b := 3) h (by decide)
theorem dp_le3 : (3 : Int32) ≤ nI 3 := nI_le (Nat.le_refl 3) (by decide)
section XW
variable {f_size f_present f_height : Int32} {a_order a_levels a_tags a_values a_ranks a_ends a_parents a_run a_kinds a_numbers a_lengths a_entryIsPath a_rows a_members a_wasSet a_watchNode a_selects a_selectedBefore : Nat → Int32} {c : Nat} {o lv : Nat → Nat} {pr : Int32} {K N : Nat → Nat} {A : Nat → Int32}
theorem xx_evalP (T : dp_Tr c o lv pr) (X : dp_TX c o (fun r => lv (o r)) a_ranks a_ends a_parents) (hv : ∀ n, a_values n ≤ 99) (G : dp_Pg K N A a_kinds a_numbers a_lengths) {w : Nat} (hw : w < 4) (hx : dp_px w < 4) {post : Int32 → SX → Prop} (h : ∀ R' m, dp_XR c o (fun r => lv (o r)) pr a_tags a_values (dp_kn K w) (dp_am A w) (N w) R' m → post (nI (dp_hq K N w) - 1) ((nI c), pr, f_height, (fun j => nI (o j)), (fun j => nI (lv j)), a_tags, a_values, a_ranks, a_ends, a_parents, a_run, a_kinds, a_numbers, a_lengths, a_entryIsPath, R', m, a_wasSet, a_watchNode, a_selects, a_selectedBefore)) : wpX_evaluate post ((nI c), pr, f_height, (fun j => nI (o j)), (fun j => nI (lv j)), a_tags, a_values, a_ranks, a_ends, a_parents, a_run, a_kinds, a_numbers, a_lengths, a_entryIsPath, a_rows, a_members, a_wasSet, a_watchNode, a_selects, a_selectedBefore) (nI (dp_px w)) := by
  obtain ⟨g1, g2, g3, g4⟩ := G w hw
  exact xx_evaluate T X hv hx g1 g2 g3 g4 h
def dp_Rf (c : Nat) (o l : Nat → Nat) (pr : Int32) (tg vs : Nat → Int32) (K N : Nat → Nat) (A xw xs0 xs xb : Nat → Int32) (s : Nat) : Prop := xb s = xs0 s ∧ (xw s = -1 → xs s = 0) ∧ ∀ w, w < 32 → xw s = nI w → xs s = dp_sv c o l pr tg vs K N A (s + 1) w
theorem xx_refresh_l (T : dp_Tr c o lv pr) (X : dp_TX c o (fun r => lv (o r)) a_ranks a_ends a_parents) (hv : ∀ n, a_values n ≤ 99) (G : dp_Pg K N A a_kinds a_numbers a_lengths) (hw : ∀ s, s < 3 → a_watchNode s = -1 ∨ (∃ w, w < 32 ∧ a_watchNode s = nI w) ∧ 0 < dp_hq K N (s + 1) ∧ dp_Fq K N (s + 1) (dp_hq K N (s + 1) - 1) = true) {post : SX → Prop} (h : ∀ R' m xs xb, (∀ s, s < 3 → dp_Rf c o (fun r => lv (o r)) pr a_tags a_values K N A a_watchNode a_selects xs xb s) → post ((nI c), pr, f_height, (fun j => nI (o j)), (fun j => nI (lv j)), a_tags, a_values, a_ranks, a_ends, a_parents, a_run, a_kinds, a_numbers, a_lengths, a_entryIsPath, R', m, a_wasSet, a_watchNode, xs, xb)) : ∀ d i R' m xs xb, i + d = 3 → (∀ s, s < i → dp_Rf c o (fun r => lv (o r)) pr a_tags a_values K N A a_watchNode a_selects xs xb s) → (∀ s, i ≤ s → xs s = a_selects s) → wX_refreshWatches_2 post (d + 1) (nI i) (nI c) pr f_height (fun j => nI (o j)) (fun j => nI (lv j)) a_tags a_values a_ranks a_ends a_parents a_run a_kinds a_numbers a_lengths a_entryIsPath R' m a_wasSet a_watchNode xs xb := by
  intro d
  induction d with
  | zero =>
    intro i R' m xs xb hi H _
    obtain rfl : i = 3 := by omega
    exact br_t dp_le3 (h R' m xs xb H)
  | succ d ih =>
    intro i R' m xs xb hi H H2
    have cl : (nI i).toNatClampNeg = i := nI_clamp (by omega)
    have v3 : vp_in (nI i) 3 := dp_v3 (by omega)
    have old : ∀ xs' xb' : Nat → Int32, (∀ s, s ≠ i → xs' s = xs s ∧ xb' s = xb s) → ∀ s, s < i → dp_Rf c o (fun r => lv (o r)) pr a_tags a_values K N A a_watchNode a_selects xs' xb' s := fun xs' xb' q s hs => by
      unfold dp_Rf
      rw [(q s (by omega)).1, (q s (by omega)).2]
      exact H s hs
    refine br_f (dp_ge3 (by omega)) ?_
    simp only [cl]
    refine ⟨v3, v3, nm_e ⟨v3, nm_e ⟨v3, ?_⟩⟩⟩
    rcases hw i (by omega) with z | ⟨⟨w, w1, w2⟩, w3, w4⟩
    · refine br_t z (nm_r (nI_1 i) (ih (i + 1) _ _ _ _ (by omega) (fun s hs => ?_) (fun s hs => by rw [pk_un (by omega)]; exact H2 s (by omega))))
      by_cases y : s = i
      · subst y
        exact ⟨by rw [pk_us]; exact H2 s (Nat.le_refl _), fun _ => pk_us, fun w hw e => absurd (e.symm.trans z) (dp_nle1 (by omega))⟩
      · exact old _ _ (fun s hs => ⟨pk_un hs, pk_un hs⟩) s (by omega)
    · have nz : ¬ a_watchNode i = -1 := by rw [w2]; exact dp_nle1 (by omega)
      refine br_f nz ?_
      have e0 : nI i = nI (dp_px (i + 1)) := by rw [dp_px_s]
      rw [e0]
      refine xx_evalP T X hv G (w := i + 1) (by omega) (by rw [dp_px_s]; omega) (fun R2 m2 H3 => ?_)
      rw [← e0, dp_s1 (by omega)]
      have h8 : dp_hq K N (i + 1) ≤ 8 := dp_h8 (G (i + 1) (by omega)).2.1 (Nat.le_refl _)
      simp only [cl, w2, dp_m32, nI_add]
      refine ⟨v3, dp_v256 (by omega), v3, ?_⟩
      rw [dp_cl256 (show 32 * (dp_hq K N (i + 1) - 1) + w < 256 by omega), (H3 (dp_hq K N (i + 1) - 1) (show dp_hq K N (i + 1) - 1 < dp_hq K N (i + 1) by omega)).1 w4 w w1]
      refine nm_e (nm_r (nI_1 i) (ih (i + 1) _ _ _ _ (by omega) (fun s hs => ?_) (fun s hs => by rw [pk_un (by omega), pk_un (by omega)]; exact H2 s (by omega))))
      by_cases y : s = i
      · subst y
        refine ⟨by rw [pk_us]; exact H2 s (Nat.le_refl _), fun q => absurd q nz, fun w' hw' e => ?_⟩
        rw [pk_us, dp_inj (show w' < 2 ^ 31 by omega) (show w < 2 ^ 31 by omega) (e.symm.trans w2)]
        rfl
      · exact old _ _ (fun s hs => ⟨by rw [pk_un hs, pk_un hs], pk_un hs⟩) s (by omega)
theorem xx_refresh (T : dp_Tr c o lv pr) (X : dp_TX c o (fun r => lv (o r)) a_ranks a_ends a_parents) (hv : ∀ n, a_values n ≤ 99) (G : dp_Pg K N A a_kinds a_numbers a_lengths) (hw : ∀ s, s < 3 → a_watchNode s = -1 ∨ (∃ w, w < 32 ∧ a_watchNode s = nI w) ∧ 0 < dp_hq K N (s + 1) ∧ dp_Fq K N (s + 1) (dp_hq K N (s + 1) - 1) = true) {post : SX → Prop} (h : ∀ R' m xs xb, (∀ s, s < 3 → dp_Rf c o (fun r => lv (o r)) pr a_tags a_values K N A a_watchNode a_selects xs xb s) → post ((nI c), pr, f_height, (fun j => nI (o j)), (fun j => nI (lv j)), a_tags, a_values, a_ranks, a_ends, a_parents, a_run, a_kinds, a_numbers, a_lengths, a_entryIsPath, R', m, a_wasSet, a_watchNode, xs, xb)) : wpX_refreshWatches post ((nI c), pr, f_height, (fun j => nI (o j)), (fun j => nI (lv j)), a_tags, a_values, a_ranks, a_ends, a_parents, a_run, a_kinds, a_numbers, a_lengths, a_entryIsPath, a_rows, a_members, a_wasSet, a_watchNode, a_selects, a_selectedBefore) :=
  ⟨4, xx_refresh_l T X hv G hw h 3 0 _ _ _ _ rfl (fun s hs => absurd hs (Nat.not_lt_zero s)) (fun _ _ => rfl)⟩
theorem dp_top {b b' : Bool} {h : Nat} {F : Nat → Bool} : decide (0 < h ∧ F (h - 1) = b) = b' ↔ (b' = true ∧ 0 < h ∧ F (h - 1) = b) ∨ (b' = false ∧ ¬ (0 < h ∧ F (h - 1) = b)) := by
  cases b'
  · rw [decide_eq_false_iff_not]; exact ⟨fun z => Or.inr ⟨rfl, z⟩, fun z => z.elim (fun z => absurd z.1 (by decide)) (fun z => z.2)⟩
  · rw [decide_eq_true_iff]; exact ⟨fun z => Or.inl ⟨rfl, z⟩, fun z => z.elim (fun z => z.2) (fun z => absurd z.1 (by decide))⟩
theorem xx_topIsPath (G : dp_Pg K N A a_kinds a_numbers a_lengths) (Q : dp_Qs K N f_height a_entryIsPath) {post : Int32 → Prop} (h : post (dp_c (decide (0 < dp_hq K N 0 ∧ dp_Fq K N 0 (dp_hq K N 0 - 1) = true)))) : wpX_topIsPath post (f_size, f_present, f_height, a_order, a_levels, a_tags, a_values, a_ranks, a_ends, a_parents, a_run, a_kinds, a_numbers, a_lengths, a_entryIsPath, a_rows, a_members, a_wasSet, a_watchNode, a_selects, a_selectedBefore) := by
  obtain ⟨q1, q2⟩ := Q
  have h8 : dp_hq K N 0 ≤ 8 := dp_h8 (G 0 (by decide)).2.1 (Nat.le_refl _)
  rw [q1]
  by_cases z : 0 < dp_hq K N 0
  · refine br_f (nI_nle z (by omega)) ?_
    rw [dp_s1 z]
    refine ⟨dp_v8 (by omega), ?_⟩
    rw [nI_clamp (show dp_hq K N 0 - 1 < 2 ^ 31 by omega), q2 _ (by omega), dp_c_0]
    cases y : dp_Fq K N 0 (dp_hq K N 0 - 1)
    · rw [y, dp_c_f (decide_eq_false (fun w => absurd w.2 (by decide)))] at h
      exact br_t rfl h
    · rw [y, dp_c_t (decide_eq_true ⟨z, rfl⟩)] at h
      exact br_f (by decide) h
  · rw [dp_c_f (decide_eq_false (fun w => z w.1))] at h
    exact br_t (nI_le (a := dp_hq K N 0) (b := 0) (by omega) (by decide)) h
theorem xx_topIsCondition (G : dp_Pg K N A a_kinds a_numbers a_lengths) (Q : dp_Qs K N f_height a_entryIsPath) {post : Int32 → Prop} (h : post (dp_c (decide (0 < dp_hq K N 0 ∧ dp_Fq K N 0 (dp_hq K N 0 - 1) = false)))) : wpX_topIsCondition post (f_size, f_present, f_height, a_order, a_levels, a_tags, a_values, a_ranks, a_ends, a_parents, a_run, a_kinds, a_numbers, a_lengths, a_entryIsPath, a_rows, a_members, a_wasSet, a_watchNode, a_selects, a_selectedBefore) := by
  obtain ⟨q1, q2⟩ := Q
  have h8 : dp_hq K N 0 ≤ 8 := dp_h8 (G 0 (by decide)).2.1 (Nat.le_refl _)
  rw [q1]
  by_cases z : 0 < dp_hq K N 0
  · refine br_f (nI_nle z (by omega)) ?_
    rw [dp_s1 z]
    refine ⟨dp_v8 (by omega), ?_⟩
    rw [nI_clamp (show dp_hq K N 0 - 1 < 2 ^ 31 by omega), q2 _ (by omega), dp_c_0]
    cases y : dp_Fq K N 0 (dp_hq K N 0 - 1)
    · rw [y, dp_c_t (decide_eq_true ⟨z, rfl⟩)] at h
      exact br_t rfl h
    · rw [y, dp_c_f (decide_eq_false (fun w => absurd w.2 (by decide)))] at h
      exact br_f (by decide) h
  · rw [dp_c_f (decide_eq_false (fun w => z w.1))] at h
    exact br_t (nI_le (a := dp_hq K N 0) (b := 0) (by omega) (by decide)) h
theorem xx_rowOfTop (T : dp_Tr c o lv pr) (X : dp_TX c o (fun r => lv (o r)) a_ranks a_ends a_parents) (hv : ∀ n, a_values n ≤ 99) (G : dp_Pg K N A a_kinds a_numbers a_lengths) (h0 : 0 < dp_hq K N 0) (hF : dp_Fq K N 0 (dp_hq K N 0 - 1) = true) {n : Nat} (hn : n < 32) {post : Int32 → SX → Prop} (h : ∀ R' m, post (dp_sv c o (fun r => lv (o r)) pr a_tags a_values K N A 0 n) ((nI c), pr, f_height, (fun j => nI (o j)), (fun j => nI (lv j)), a_tags, a_values, a_ranks, a_ends, a_parents, a_run, a_kinds, a_numbers, a_lengths, a_entryIsPath, R', m, a_wasSet, a_watchNode, a_selects, a_selectedBefore)) : wpX_rowOfTop post ((nI c), pr, f_height, (fun j => nI (o j)), (fun j => nI (lv j)), a_tags, a_values, a_ranks, a_ends, a_parents, a_run, a_kinds, a_numbers, a_lengths, a_entryIsPath, a_rows, a_members, a_wasSet, a_watchNode, a_selects, a_selectedBefore) (nI n) := by
  have h8 : dp_hq K N 0 ≤ 8 := dp_h8 (G 0 (by decide)).2.1 (Nat.le_refl _)
  refine xx_evalP T X hv G (w := 0) (by decide) (by decide) (fun R' m H => ?_)
  rw [dp_s1 h0]
  simp only [dp_m32, nI_add]
  refine ⟨dp_v256 (by omega), ?_⟩
  rw [dp_cl256 (show 32 * (dp_hq K N 0 - 1) + n < 256 by omega), (H (dp_hq K N 0 - 1) (show dp_hq K N 0 - 1 < dp_hq K N 0 by omega)).1 hF n hn]
  exact h R' m
end XW
section YWa
variable {f_count f_height : Int32} {a_list a_there a_above a_tags a_values a_held a_twin a_kinds a_args a_sizes a_isPath a_rows a_spare a_isSet a_alive a_edited a_watchNode a_before : Nat → Int32} {c : Nat} {o lv : Nat → Nat} {pr : Int32} {K N : Nat → Nat} {A kx ax lx : Nat → Int32}
theorem yy_workP (T : dp_Tr c o lv pr) (B : dp_Ab c o (fun r => lv (o r)) a_above) (G : dp_Pg K N A kx ax lx) {w : Nat} (hw : w < 4) {post : SY → Prop} (h : ∀ R' P' Z, dp_YR c o (fun r => lv (o r)) pr a_tags a_values (dp_kn K w) (dp_am A w) (N w) R' P' → post ((nI c), (nI (dp_hq K N w)), (fun j => nI (o j)), (dp_th pr), a_above, a_tags, a_values, a_held, a_twin, (fun j => nI (K j)), A, (fun j => nI (N j)), P', R', Z, a_isSet, a_alive, a_edited, a_watchNode, a_before)) : wpY_work post ((nI c), f_height, (fun j => nI (o j)), (dp_th pr), a_above, a_tags, a_values, a_held, a_twin, (fun j => nI (K j)), A, (fun j => nI (N j)), a_isPath, a_rows, a_spare, a_isSet, a_alive, a_edited, a_watchNode, a_before) (nI w) := by
  obtain ⟨g1, g2, g3, g4⟩ := G w hw
  exact yy_work T B hw g1 g2 rfl (fun i _ => ⟨rfl, rfl⟩) h
theorem yy_topRow {h n : Nat} {s : Int32} (h0 : 0 < h) (h8 : h ≤ 8) (hn : n < 32) (hr : a_rows (32 * (h - 1) + n) = s) {post : Int32 → Prop} (H : post s) : wpY_topRow post (f_count, (nI h), a_list, a_there, a_above, a_tags, a_values, a_held, a_twin, a_kinds, a_args, a_sizes, a_isPath, a_rows, a_spare, a_isSet, a_alive, a_edited, a_watchNode, a_before) (nI n) := by
  obtain ⟨k, rfl⟩ : ∃ k, h = k + 1 := ⟨h - 1, by omega⟩
  rw [Nat.add_sub_cancel] at hr
  have e : (32 : Int32) * nI (k + 1) - 32 + nI n = nI (32 * k + n) := by
    rw [dp_32m, show nI (32 * (k + 1)) - 32 = nI (32 * (k + 1)) - nI 32 from rfl, pk_sub (by omega), nI_add, show 32 * (k + 1) - 32 = 32 * k from by omega]
  unfold wpY_topRow
  dsimp only
  rw [e]
  refine ⟨dp_v256 (by omega), ?_⟩
  rw [dp_cl256 (show 32 * k + n < 256 by omega), hr]
  exact H
theorem yy_selection (T : dp_Tr c o lv pr) (B : dp_Ab c o (fun r => lv (o r)) a_above) (G : dp_Pg K N A kx ax lx) {s : Nat} (hs : s < 3) {ed xw xs xb yb : Int32} (W : dp_Ws c o (fun r => lv (o r)) pr a_tags a_values K N A s (a_isSet s) (a_alive s) ed xw xs xb (a_watchNode s) yb) {post : Int32 → SY → Prop} (h : ∀ hy R' P' Z, post xs ((nI c), hy, (fun j => nI (o j)), (dp_th pr), a_above, a_tags, a_values, a_held, a_twin, (fun j => nI (K j)), A, (fun j => nI (N j)), P', R', Z, a_isSet, a_alive, a_edited, a_watchNode, a_before)) : wpY_selection post ((nI c), f_height, (fun j => nI (o j)), (dp_th pr), a_above, a_tags, a_values, a_held, a_twin, (fun j => nI (K j)), A, (fun j => nI (N j)), a_isPath, a_rows, a_spare, a_isSet, a_alive, a_edited, a_watchNode, a_before) (nI s) := by
  obtain ⟨w1, w2, w3, w4, w5⟩ := W
  have cl : (nI s).toNatClampNeg = s := nI_clamp (by omega)
  have v3 : vp_in (nI s) 3 := dp_v3 hs
  refine ⟨v3, ?_⟩
  rw [cl]
  rcases w3 with ⟨z1, z2, z3⟩ | ⟨z1, z2, z3, z4, w, z5, z6, z7, z8⟩
  · rw [z3] at h
    exact br_c (fun _ => h _ _ _ _) (fun _ => ⟨v3, br_t z1 (h _ _ _ _)⟩)
  · have h8 : dp_hq K N (s + 1) ≤ 8 := dp_h8 (G (s + 1) (by omega)).2.1 (Nat.le_refl _)
    refine br_f (by rw [z2]; decide) ⟨v3, br_f (by rw [z1]; decide) ?_⟩
    rw [nI_1]
    refine yy_workP T B G (w := s + 1) (by omega) (fun R' P' Z H => ?_)
    refine ⟨v3, ?_⟩
    rw [z7]
    refine yy_topRow z3 h8 (dp_bt_lt z5) ((H (dp_hq K N (s + 1) - 1) (show dp_hq K N (s + 1) - 1 < dp_hq K N (s + 1) by omega)).2 w (dp_bt_lt z5)) ?_
    rw [z8] at h
    exact h _ _ _ _
theorem yy_noteEdit_l (T : dp_Tr c o lv pr) (B : dp_Ab c o (fun r => lv (o r)) a_above) (G : dp_Pg K N A kx ax lx) {ed xw xs xb yb : Nat → Int32} (W : dp_Wa c o (fun r => lv (o r)) pr a_tags a_values K N A a_isSet a_alive ed xw xs xb a_watchNode yb) {post : SY → Prop} (h : ∀ hy R' P' Z ed' yb', (∀ s, s < 3 → ed' s = 1 ∧ yb' s = xs s) → post ((nI c), hy, (fun j => nI (o j)), (dp_th pr), a_above, a_tags, a_values, a_held, a_twin, (fun j => nI (K j)), A, (fun j => nI (N j)), P', R', Z, a_isSet, a_alive, ed', a_watchNode, yb')) : ∀ d i hy R' P' Z ed' yb', i + d = 3 → (∀ s, s < i → ed' s = 1 ∧ yb' s = xs s) → wY_noteEdit_2 post (d + 1) (nI i) (nI c) hy (fun j => nI (o j)) (dp_th pr) a_above a_tags a_values a_held a_twin (fun j => nI (K j)) A (fun j => nI (N j)) P' R' Z a_isSet a_alive ed' a_watchNode yb' := by
  intro d
  induction d with
  | zero =>
    intro i hy R' P' Z ed' yb' hi H
    obtain rfl : i = 3 := by omega
    exact br_t dp_le3 (h hy R' P' Z ed' yb' H)
  | succ d ih =>
    intro i hy R' P' Z ed' yb' hi H
    have cl : (nI i).toNatClampNeg = i := nI_clamp (by omega)
    have v3 : vp_in (nI i) 3 := dp_v3 (by omega)
    refine br_f (dp_ge3 (by omega)) (yy_selection T B G (by omega) (W i (by omega)) (fun hy2 R2 P2 Z2 => ?_))
    refine ⟨v3, nm_e ⟨v3, nm_e (nm_r (nI_1 i) (ih (i + 1) _ _ _ _ _ _ (by omega) (fun s hs => ?_)))⟩⟩
    rw [cl]
    by_cases y : s = i
    · subst y; exact ⟨by rw [pk_us]; rfl, pk_us⟩
    · rw [pk_un y, pk_un y]; exact H s (by omega)
theorem yy_noteEdit (T : dp_Tr c o lv pr) (B : dp_Ab c o (fun r => lv (o r)) a_above) (G : dp_Pg K N A kx ax lx) {ed xw xs xb yb : Nat → Int32} (W : dp_Wa c o (fun r => lv (o r)) pr a_tags a_values K N A a_isSet a_alive ed xw xs xb a_watchNode yb) {post : SY → Prop} (h : ∀ hy R' P' Z ed' yb', (∀ s, s < 3 → ed' s = 1 ∧ yb' s = xs s) → post ((nI c), hy, (fun j => nI (o j)), (dp_th pr), a_above, a_tags, a_values, a_held, a_twin, (fun j => nI (K j)), A, (fun j => nI (N j)), P', R', Z, a_isSet, a_alive, ed', a_watchNode, yb')) : wpY_noteEdit post ((nI c), f_height, (fun j => nI (o j)), (dp_th pr), a_above, a_tags, a_values, a_held, a_twin, (fun j => nI (K j)), A, (fun j => nI (N j)), a_isPath, a_rows, a_spare, a_isSet, a_alive, a_edited, a_watchNode, a_before) :=
  ⟨4, yy_noteEdit_l T B G W h 3 0 _ _ _ _ _ _ rfl (fun s hs => absurd hs (Nat.not_lt_zero s))⟩
theorem yy_has {h j : Nat} {F : Nat → Bool} {b : Bool} (h8 : h ≤ 8) (hj : 0 < j) (hj2 : j < 3) (hF : ∀ e, e < h → a_isPath e = dp_c (F e)) {post : Int32 → Prop} (H : post (dp_c (decide (j ≤ h ∧ F (h - j) = b)))) : wpY_has post (f_count, (nI h), a_list, a_there, a_above, a_tags, a_values, a_held, a_twin, a_kinds, a_args, a_sizes, a_isPath, a_rows, a_spare, a_isSet, a_alive, a_edited, a_watchNode, a_before) (nI j) (dp_c b) := by
  by_cases z : j ≤ h
  · refine br_f (nI_nlt z (by omega)) ?_
    rw [pk_sub z]
    refine ⟨dp_v8 (by omega), ?_⟩
    rw [nI_clamp (show h - j < 2 ^ 31 by omega), hF _ (by omega)]
    by_cases y : F (h - j) = b
    · rw [dp_c_t (decide_eq_true ⟨z, y⟩)] at H
      exact br_t (by rw [y]) H
    · rw [dp_c_f (decide_eq_false (fun w => y w.2))] at H
      refine br_f (fun w => y ?_) H
      cases h1 : F (h - j) <;> cases h2 : b <;> rw [h1, h2] at w <;> first | rfl | exact absurd w (by decide)
  · rw [dp_c_f (decide_eq_false (fun w => z w.1))] at H
    exact br_t (nI_lt (by omega) (by omega)) H
theorem yy_topIs (T : dp_Tr c o lv pr) (B : dp_Ab c o (fun r => lv (o r)) a_above) (G : dp_Pg K N A kx ax lx) {b : Bool} {post : Int32 → SY → Prop} (h : ∀ R' P' Z, dp_YR c o (fun r => lv (o r)) pr a_tags a_values (dp_kn K 0) (dp_am A 0) (N 0) R' P' → post (dp_c (decide (0 < dp_hq K N 0 ∧ dp_Fq K N 0 (dp_hq K N 0 - 1) = b))) ((nI c), (nI (dp_hq K N 0)), (fun j => nI (o j)), (dp_th pr), a_above, a_tags, a_values, a_held, a_twin, (fun j => nI (K j)), A, (fun j => nI (N j)), P', R', Z, a_isSet, a_alive, a_edited, a_watchNode, a_before)) : wpY_topIs post ((nI c), f_height, (fun j => nI (o j)), (dp_th pr), a_above, a_tags, a_values, a_held, a_twin, (fun j => nI (K j)), A, (fun j => nI (N j)), a_isPath, a_rows, a_spare, a_isSet, a_alive, a_edited, a_watchNode, a_before) (dp_c b) := by
  have h8 : dp_hq K N 0 ≤ 8 := dp_h8 (G 0 (by decide)).2.1 (Nat.le_refl _)
  unfold wpY_topIs
  dsimp only
  refine yy_workP T B G (w := 0) (by decide) (fun R' P' Z H => ?_)
  refine yy_has (j := 1) (F := dp_Fq K N 0) h8 (by decide) (by decide) (fun e he => (H e he).1) ?_
  refine ⟨?_, h R' P' Z H⟩
  cases decide (1 ≤ dp_hq K N 0 ∧ dp_Fq K N 0 (dp_hq K N 0 - 1) = b) <;> rfl
end YWa
end
section
/-! the calls that only read -/
section XY
variable {c : Nat} {o lv : Nat → Nat} {pr : Int32} {tg vs : Nat → Int32} {K N : Nat → Nat} {A S ranks ends parents kx ax lx isp above al ed xw xs xb yw yb run rows mem held twin yp yr sp : Nat → Int32} {h hy : Int32}
theorem dp_rel {k : Nat} (R : dp_Re c o lv pr tg vs K N A S ranks ends parents kx ax lx isp above al ed xw xs xb yw yb h) : i_Rel k ((nI c), pr, h, (fun j => nI (o j)), (fun j => nI (lv j)), tg, vs, ranks, ends, parents, run, kx, ax, lx, isp, rows, mem, S, xw, xs, xb) ((nI c), hy, (fun j => nI (o j)), (dp_th pr), above, tg, vs, held, twin, (fun j => nI (K j)), A, (fun j => nI (N j)), yp, yr, sp, S, al, ed, yw, yb) :=
  ⟨c, o, lv, pr, tg, vs, K, N, A, S, ranks, ends, parents, kx, ax, lx, isp, above, al, ed, xw, xs, xb, yw, yb, run, rows, mem, held, twin, yp, yr, sp, h, hy, rfl, rfl, R⟩
theorem dp_node (T : dp_Tr c o lv pr) (v : Int32) : dp_isn pr v = false ∨ ∃ r, r < c ∧ v = nI (o r) := by
  cases e : dp_isn pr v
  · exact Or.inl rfl
  · exact Or.inr (dp_isn_o T e)
theorem dp_isn_yes (T : dp_Tr c o lv pr) {r : Nat} (hr : r < c) : dp_isn pr (nI (o r)) = true := by
  rw [dp_isn_at (T.1.2.2.1 r)]
  exact (T.2.1 _).mpr ⟨r, hr, rfl⟩
theorem dp_slot (v : Int32) : (v < 0 ∨ 3 ≤ v) ∨ ∃ s, s < 3 ∧ v = nI s := by
  rcases pk_ix v (n := 3) (by decide) with z | z | z
  · exact Or.inl (Or.inl z)
  · exact Or.inl (Or.inr z)
  · exact Or.inr z
end XY
section XI
variable {f_size f_present f_height : Int32} {a_order a_levels a_tags a_values a_ranks a_ends a_parents a_run a_kinds a_numbers a_lengths a_entryIsPath a_rows a_members a_wasSet a_watchNode a_selects a_selectedBefore : Nat → Int32} {c : Nat} {o lv : Nat → Nat} {pr v : Int32}
theorem xx_no (e : dp_isn f_present v = false) {post : Int32 → Prop} (h : post 0) : wpX_isNode post (f_size, f_present, f_height, a_order, a_levels, a_tags, a_values, a_ranks, a_ends, a_parents, a_run, a_kinds, a_numbers, a_lengths, a_entryIsPath, a_rows, a_members, a_wasSet, a_watchNode, a_selects, a_selectedBefore) v := xx_isNode (by rw [e]; exact h)
theorem xx_yes (T : dp_Tr c o lv f_present) {r : Nat} (hr : r < c) {post : Int32 → Prop} (h : post 1) : wpX_isNode post (f_size, f_present, f_height, a_order, a_levels, a_tags, a_values, a_ranks, a_ends, a_parents, a_run, a_kinds, a_numbers, a_lengths, a_entryIsPath, a_rows, a_members, a_wasSet, a_watchNode, a_selects, a_selectedBefore) (nI (o r)) := xx_isNode (by rw [dp_isn_yes T hr]; exact h)
theorem xx_slotNo (z : v < 0 ∨ 3 ≤ v) {post : Int32 → Prop} (h : post 0) : wpX_isSlot post v := br_c (fun _ => h) (fun n => br_t (z.resolve_left n) h)
theorem xx_slotYes {s : Nat} (hs : s < 3) {post : Int32 → Prop} (h : post 1) : wpX_isSlot post (nI s) := br_f (nI_pos (by omega)) (br_f (dp_ge3 hs) h)
end XI
section YI
variable {f_count f_height : Int32} {a_list a_there a_above a_tags a_values a_held a_twin a_kinds a_args a_sizes a_isPath a_rows a_spare a_isSet a_alive a_edited a_watchNode a_before : Nat → Int32} {c : Nat} {o lv : Nat → Nat} {pr v : Int32}
theorem yy_no (e : dp_isn pr v = false) {post : Int32 → Prop} (h : post 0) : wpY_isNode post (f_count, f_height, a_list, (dp_th pr), a_above, a_tags, a_values, a_held, a_twin, a_kinds, a_args, a_sizes, a_isPath, a_rows, a_spare, a_isSet, a_alive, a_edited, a_watchNode, a_before) v := yy_isNode (by rw [e]; exact h)
theorem yy_yes (T : dp_Tr c o lv pr) {r : Nat} (hr : r < c) {post : Int32 → Prop} (h : post 1) : wpY_isNode post (f_count, f_height, a_list, (dp_th pr), a_above, a_tags, a_values, a_held, a_twin, a_kinds, a_args, a_sizes, a_isPath, a_rows, a_spare, a_isSet, a_alive, a_edited, a_watchNode, a_before) (nI (o r)) := yy_isNode (by rw [dp_isn_yes T hr]; exact h)
theorem yy_slotNo (z : v < 0 ∨ 3 ≤ v) {post : Int32 → Prop} (h : post 0) : wpY_isSlot post (f_count, f_height, a_list, a_there, a_above, a_tags, a_values, a_held, a_twin, a_kinds, a_args, a_sizes, a_isPath, a_rows, a_spare, a_isSet, a_alive, a_edited, a_watchNode, a_before) v := br_c (fun _ => h) (fun n => br_t (Int32.lt_of_lt_of_le (show (2 : Int32) < 3 by decide) (z.resolve_left n)) h)
theorem yy_slotYes {s : Nat} (hs : s < 3) {post : Int32 → Prop} (h : post 1) : wpY_isSlot post (f_count, f_height, a_list, a_there, a_above, a_tags, a_values, a_held, a_twin, a_kinds, a_args, a_sizes, a_isPath, a_rows, a_spare, a_isSet, a_alive, a_edited, a_watchNode, a_before) (nI s) := br_f (nI_pos (by omega)) (br_f (nI_nlt (b := s) (a := 2) (by omega) (by decide)) h)
end YI
theorem i_vc_nodes {k : Nat} {u : SX} {v : SY} (I : i_Rel k u v) (hk : k + 4 ≤ 2048) : wpX_nodes (fun r => wpY_nodes (fun r' => r' = r ∧ i_Rel (k + 4) u v) v) u := by
  have I0 : i_Rel (k + 4) u v := I
  obtain ⟨c, o, lv, pr, tg, vs, K, N, A, S, ranks, ends, parents, kx, ax, lx, isp, above, al, ed, xw, xs, xb, yw, yb, run, rows, mem, held, twin, yp, yr, sp, h, hy, rfl, rfl, R⟩ := I
  have R' := R
  obtain ⟨T, hv, X, B, G, Q, W⟩ := R'
  have ho := T.1.2.2.1
  have hc := T.1.1
  exact ⟨rfl, I0⟩
theorem i_vc_nodeAt {k : Nat} {u : SX} {v : SY} (I : i_Rel k u v) (hk : k + 4 ≤ 2048) (v1 : Int32) : wpX_nodeAt (fun r => wpY_nodeAt (fun r' => r' = r ∧ i_Rel (k + 4) u v) v v1) u v1 := by
  have I0 : i_Rel (k + 4) u v := I
  obtain ⟨c, o, lv, pr, tg, vs, K, N, A, S, ranks, ends, parents, kx, ax, lx, isp, above, al, ed, xw, xs, xb, yw, yb, run, rows, mem, held, twin, yp, yr, sp, h, hy, rfl, rfl, R⟩ := I
  have R' := R
  obtain ⟨T, hv, X, B, G, Q, W⟩ := R'
  have ho := T.1.2.2.1
  have hc := T.1.1
  by_cases h0 : v1 < 0
  · exact br_t h0 (br_t h0 ⟨rfl, I0⟩)
  · obtain ⟨j, hj, rfl⟩ := nI_of h0
    by_cases hc : j < c
    · have vj := dp_v32 (show j < 32 by omega)
      exact br_f h0 (br_t (nI_lt hc (by omega)) ⟨vj, br_f h0 (br_f (nI_ge hc (by omega)) ⟨vj, rfl, I0⟩)⟩)
    · exact br_f h0 (br_f (nI_nlt (by omega) hj) (br_f h0 (br_t (nI_le (by omega) hj) ⟨rfl, I0⟩)))
theorem i_vc_childAt {k : Nat} {u : SX} {v : SY} (I : i_Rel k u v) (hk : k + 4 ≤ 2048) (v1 : Int32) (v2 : Int32) : wpX_childAt (fun r => wpY_childAt (fun r' => r' = r ∧ i_Rel (k + 4) u v) v v1 v2) u v1 v2 := by
  have I0 : i_Rel (k + 4) u v := I
  obtain ⟨c, o, lv, pr, tg, vs, K, N, A, S, ranks, ends, parents, kx, ax, lx, isp, above, al, ed, xw, xs, xb, yw, yb, run, rows, mem, held, twin, yp, yr, sp, h, hy, rfl, rfl, R⟩ := I
  have R' := R
  obtain ⟨T, hv, X, B, G, Q, W⟩ := R'
  have ho := T.1.2.2.1
  have hc := T.1.1
  unfold wpX_childAt wpY_childAt
  rcases dp_node T v1 with e | ⟨r, hr, rfl⟩
  · exact xx_no e (br_t rfl (yy_no e (br_t rfl ⟨rfl, I0⟩)))
  · refine xx_yes T hr (br_f (by decide) (xx_findChild T.1 X hr (yy_yes T hr (br_f (by decide) (br_c (fun z => ⟨?_, I0⟩) (fun z => yy_child T.1 B hr ⟨rfl, I0⟩))))))
    rw [dp_fk_neg z (by omega)]; rfl
theorem i_vc_tagOf {k : Nat} {u : SX} {v : SY} (I : i_Rel k u v) (hk : k + 4 ≤ 2048) (v1 : Int32) : wpX_tagOf (fun r => wpY_tagOf (fun r' => r' = r ∧ i_Rel (k + 4) u v) v v1) u v1 := by
  have I0 : i_Rel (k + 4) u v := I
  obtain ⟨c, o, lv, pr, tg, vs, K, N, A, S, ranks, ends, parents, kx, ax, lx, isp, above, al, ed, xw, xs, xb, yw, yb, run, rows, mem, held, twin, yp, yr, sp, h, hy, rfl, rfl, R⟩ := I
  have R' := R
  obtain ⟨T, hv, X, B, G, Q, W⟩ := R'
  have ho := T.1.2.2.1
  have hc := T.1.1
  unfold wpX_tagOf wpY_tagOf
  rcases dp_node T v1 with e | ⟨r, hr, rfl⟩
  · exact xx_no e (br_t rfl (yy_no e (br_t rfl ⟨rfl, I0⟩)))
  · exact xx_yes T hr (br_f (by decide) ⟨dp_v32 (ho r), yy_yes T hr (br_f (by decide) ⟨dp_v32 (ho r), rfl, I0⟩)⟩)
theorem i_vc_valueOf {k : Nat} {u : SX} {v : SY} (I : i_Rel k u v) (hk : k + 4 ≤ 2048) (v1 : Int32) : wpX_valueOf (fun r => wpY_valueOf (fun r' => r' = r ∧ i_Rel (k + 4) u v) v v1) u v1 := by
  have I0 : i_Rel (k + 4) u v := I
  obtain ⟨c, o, lv, pr, tg, vs, K, N, A, S, ranks, ends, parents, kx, ax, lx, isp, above, al, ed, xw, xs, xb, yw, yb, run, rows, mem, held, twin, yp, yr, sp, h, hy, rfl, rfl, R⟩ := I
  have R' := R
  obtain ⟨T, hv, X, B, G, Q, W⟩ := R'
  have ho := T.1.2.2.1
  have hc := T.1.1
  unfold wpX_valueOf wpY_valueOf
  rcases dp_node T v1 with e | ⟨r, hr, rfl⟩
  · exact xx_no e (br_t rfl (yy_no e (br_t rfl ⟨rfl, I0⟩)))
  · exact xx_yes T hr (br_f (by decide) ⟨dp_v32 (ho r), yy_yes T hr (br_f (by decide) ⟨dp_v32 (ho r), rfl, I0⟩)⟩)
theorem i_vc_watched {k : Nat} {u : SX} {v : SY} (I : i_Rel k u v) (hk : k + 4 ≤ 2048) (v1 : Int32) (v2 : Int32) : wpX_watched (fun r => wpY_watched (fun r' v' => r' = r ∧ i_Rel (k + 4) u v') v v1 v2) u v1 v2 := by
  have I0 : i_Rel (k + 4) u v := I
  obtain ⟨c, o, lv, pr, tg, vs, K, N, A, S, ranks, ends, parents, kx, ax, lx, isp, above, al, ed, xw, xs, xb, yw, yb, run, rows, mem, held, twin, yp, yr, sp, h, hy, rfl, rfl, R⟩ := I
  have R' := R
  obtain ⟨T, hv, X, B, G, Q, W⟩ := R'
  have ho := T.1.2.2.1
  have hc := T.1.1
  unfold wpX_watched
  rcases dp_slot v1 with e | ⟨s, hs, rfl⟩
  · have YN : wpY_watched (fun r' v' => r' = -1 ∧ i_Rel (k + 4) ((nI c), pr, h, (fun j => nI (o j)), (fun j => nI (lv j)), tg, vs, ranks, ends, parents, run, kx, ax, lx, isp, rows, mem, S, xw, xs, xb) v') ((nI c), hy, (fun j => nI (o j)), (dp_th pr), above, tg, vs, held, twin, (fun j => nI (K j)), A, (fun j => nI (N j)), yp, yr, sp, S, al, ed, yw, yb) v1 v2 := by
      unfold wpY_watched
      exact yy_slotNo e (br_t rfl ⟨rfl, I0⟩)
    exact xx_slotNo e (br_t rfl YN)
  · have cl : (nI s).toNatClampNeg = s := nI_clamp (by omega)
    have v3 := dp_v3 hs
    refine xx_slotYes hs (br_f (by decide) ⟨v3, ?_⟩)
    rw [cl]
    have Y0 : ∀ r, (S s = 0 → r = -1) → (¬ S s = 0 → r = dp_an o (-2) (dp_fk (fun i => bt (xs s) (o i)) v2 c)) → wpY_watched (fun r' v' => r' = r ∧ i_Rel (k + 4) ((nI c), pr, h, (fun j => nI (o j)), (fun j => nI (lv j)), tg, vs, ranks, ends, parents, run, kx, ax, lx, isp, rows, mem, S, xw, xs, xb) v') ((nI c), hy, (fun j => nI (o j)), (dp_th pr), above, tg, vs, held, twin, (fun j => nI (K j)), A, (fun j => nI (N j)), yp, yr, sp, S, al, ed, yw, yb) (nI s) v2 := fun r r1 r2 => by
      unfold wpY_watched
      refine yy_slotYes hs (br_f (by decide) ⟨v3, ?_⟩)
      rw [cl]
      refine br_c (fun z => ⟨(r1 z).symm, I0⟩) (fun z => yy_selection T B G hs (W s hs) (fun hy2 R2 P2 Z2 => br_c (fun y => yy_kth ho hc ⟨(r2 z).symm, dp_rel R⟩) (fun y => ⟨?_, dp_rel R⟩)))
      rw [r2 z, dp_fk_neg (Int32.not_le.mp y) (by omega)]; rfl
    refine br_c (fun z => Y0 _ (fun _ => rfl) (fun n => absurd z n)) (fun z => ⟨v3, xx_pick ho hc ?_⟩)
    cases e : dp_fk (fun i => bt (xs s) (o i)) v2 c with
    | none => exact br_t rfl (Y0 _ (fun y => absurd y z) (fun _ => by rw [e]; rfl))
    | some i => exact br_f (dp_nle1 (Nat.lt_trans (ho i) (by decide))) (Y0 _ (fun y => absurd y z) (fun _ => by rw [e]; rfl))
theorem i_vc_gained {k : Nat} {u : SX} {v : SY} (I : i_Rel k u v) (hk : k + 4 ≤ 2048) (v1 : Int32) : wpX_gained (fun r => wpY_gained (fun r' v' => r' = r ∧ i_Rel (k + 4) u v') v v1) u v1 := by
  have I0 : i_Rel (k + 4) u v := I
  obtain ⟨c, o, lv, pr, tg, vs, K, N, A, S, ranks, ends, parents, kx, ax, lx, isp, above, al, ed, xw, xs, xb, yw, yb, run, rows, mem, held, twin, yp, yr, sp, h, hy, rfl, rfl, R⟩ := I
  have R' := R
  obtain ⟨T, hv, X, B, G, Q, W⟩ := R'
  have ho := T.1.2.2.1
  have hc := T.1.1
  unfold wpX_gained wpY_gained
  rcases dp_slot v1 with e | ⟨s, hs, rfl⟩
  · exact xx_slotNo e (br_t rfl (yy_slotNo e (br_t rfl ⟨rfl, I0⟩)))
  · have cl : (nI s).toNatClampNeg = s := nI_clamp (by omega)
    have v3 := dp_v3 hs
    have ws := W s hs
    refine xx_slotYes hs (br_f (by decide) ⟨v3, v3, xx_countBits ?_⟩)
    rw [cl]
    have nil : ¬ (S s = 1 ∧ ed s = 1) → nI (dp_fc (bt (xs s &&& (xb s ^^^ (-1)))) 32) = 0 := fun z => by
      rw [ws.2.2.2.2 z, dp_fc_none (fun i hi => by rw [b_and, dp_bt_not _ hi]; cases bt (xs s) i <;> rfl)]; rfl
    refine yy_slotYes hs (br_f (by decide) ⟨v3, ?_⟩)
    refine br_c (fun z => ⟨(nil (fun q => by rw [z] at q; exact absurd q.1 (by decide))).symm, I0⟩) (fun z => ⟨v3, br_c (fun y => ⟨(nil (fun q => by rw [y] at q; exact absurd q.2 (by decide))).symm, I0⟩) (fun y => yy_selection T B G hs ws (fun hy2 R2 P2 Z2 => ⟨v3, yy_ones ⟨?_, dp_rel R⟩⟩))⟩)
    rw [ws.2.2.2.1 ⟨ws.1.resolve_left z, ws.2.1.resolve_left y⟩]
theorem i_vc_lost {k : Nat} {u : SX} {v : SY} (I : i_Rel k u v) (hk : k + 4 ≤ 2048) (v1 : Int32) : wpX_lost (fun r => wpY_lost (fun r' v' => r' = r ∧ i_Rel (k + 4) u v') v v1) u v1 := by
  have I0 : i_Rel (k + 4) u v := I
  obtain ⟨c, o, lv, pr, tg, vs, K, N, A, S, ranks, ends, parents, kx, ax, lx, isp, above, al, ed, xw, xs, xb, yw, yb, run, rows, mem, held, twin, yp, yr, sp, h, hy, rfl, rfl, R⟩ := I
  have R' := R
  obtain ⟨T, hv, X, B, G, Q, W⟩ := R'
  have ho := T.1.2.2.1
  have hc := T.1.1
  unfold wpX_lost wpY_lost
  rcases dp_slot v1 with e | ⟨s, hs, rfl⟩
  · exact xx_slotNo e (br_t rfl (yy_slotNo e (br_t rfl ⟨rfl, I0⟩)))
  · have cl : (nI s).toNatClampNeg = s := nI_clamp (by omega)
    have v3 := dp_v3 hs
    have ws := W s hs
    refine xx_slotYes hs (br_f (by decide) ⟨v3, v3, xx_countBits ?_⟩)
    rw [cl]
    have nil : ¬ (S s = 1 ∧ ed s = 1) → nI (dp_fc (bt (xb s &&& (xs s ^^^ (-1)))) 32) = 0 := fun z => by
      rw [ws.2.2.2.2 z, dp_fc_none (fun i hi => by rw [b_and, dp_bt_not _ hi]; cases bt (xs s) i <;> rfl)]; rfl
    refine yy_slotYes hs (br_f (by decide) ⟨v3, ?_⟩)
    refine br_c (fun z => ⟨(nil (fun q => by rw [z] at q; exact absurd q.1 (by decide))).symm, I0⟩) (fun z => ⟨v3, br_c (fun y => ⟨(nil (fun q => by rw [y] at q; exact absurd q.2 (by decide))).symm, I0⟩) (fun y => yy_selection T B G hs ws (fun hy2 R2 P2 Z2 => ⟨v3, yy_ones ⟨?_, dp_rel R⟩⟩))⟩)
    rw [ws.2.2.2.1 ⟨ws.1.resolve_left z, ws.2.1.resolve_left y⟩]
end
section
/-! the calls that read the query -/
section QX
variable {f_size f_present f_height : Int32} {a_order a_levels a_tags a_values a_ranks a_ends a_parents a_run a_kinds a_numbers a_lengths a_entryIsPath a_rows a_members a_wasSet a_watchNode a_selects a_selectedBefore : Nat → Int32} {x : Nat}
def dp_sm (f : Nat → Int32) : Nat → Int32
  | 0 => 0
  | x + 1 => dp_sm f x + nI (dp_fc (bt (f x)) 32)
theorem xx_pairs_l {e : Nat} {p : Nat → Int32} (he : e < 8) (hp : ∀ x, x < 32 → a_rows (32 * e + x) = p x) {post : Int32 → SX → Prop} (h : post (dp_sm p 32) (f_size, f_present, f_height, a_order, a_levels, a_tags, a_values, a_ranks, a_ends, a_parents, a_run, a_kinds, a_numbers, a_lengths, a_entryIsPath, a_rows, a_members, a_wasSet, a_watchNode, a_selects, a_selectedBefore)) : ∀ d x, x + d = 32 → wX_pairs_22 post (nI (32 * e)) f_size f_present f_height a_order a_levels a_tags a_values a_ranks a_ends a_parents a_run a_kinds a_numbers a_lengths a_entryIsPath a_rows a_members a_wasSet a_watchNode a_selects a_selectedBefore (d + 1) (dp_sm p x) (nI x) := by
  intro d
  induction d with
  | zero =>
    intro x hx
    obtain rfl : x = 32 := by omega
    exact br_t dp_le32 h
  | succ d ih =>
    intro x hx
    refine br_f (dp_ge32 (by omega)) ?_
    simp only [nI_add, dp_cl256 (show 32 * e + x < 256 by omega), hp x (by omega)]
    exact ⟨dp_v256 (by omega), xx_countBits (nm_e (nm_r (nI_1 x) (ih (x + 1) (by omega))))⟩
theorem xx_samePaths_l {e : Nat} {p q : Nat → Int32} (he : e < 7) (hp : ∀ x, x < 32 → a_rows (32 * e + x) = p x) (hq : ∀ x, x < 32 → a_rows (32 * e + 32 + x) = q x) {post : Int32 → Prop} (h1 : (∀ x, x < 32 → p x = q x) → post 1) (h0 : (∃ x, x < 32 ∧ p x ≠ q x) → post 0) : ∀ d x, x + d = 32 → (∀ y, y < x → p y = q y) → wX_samePaths_7 post (nI (32 * e)) f_size f_present f_height a_order a_levels a_tags a_values a_ranks a_ends a_parents a_run a_kinds a_numbers a_lengths a_entryIsPath a_rows a_members a_wasSet a_watchNode a_selects a_selectedBefore (d + 1) (nI x) := by
  intro d
  induction d with
  | zero =>
    intro x hx H
    obtain rfl : x = 32 := by omega
    exact br_t dp_le32 (h1 H)
  | succ d ih =>
    intro x hx H
    refine br_f (dp_ge32 (by omega)) ?_
    simp only [dp_p32, nI_add, dp_cl256 (show 32 * e + x < 256 by omega), dp_cl256 (show 32 * e + 32 + x < 256 by omega), hp x (by omega), hq x (by omega)]
    refine ⟨dp_v256 (by omega), dp_v256 (by omega), br_c (fun z => nm_r (nI_1 x) (ih (x + 1) (by omega) (fun y hy => ?_))) (fun z => h0 ⟨x, by omega, z⟩)⟩
    rcases Nat.lt_or_ge y x with w | w
    · exact H y w
    · rw [show y = x from by omega]; exact z
theorem xx_samePaths {e : Nat} {p q : Nat → Int32} (he : e < 7) (hp : ∀ x, x < 32 → a_rows (32 * e + x) = p x) (hq : ∀ x, x < 32 → a_rows (32 * e + 32 + x) = q x) {post : Int32 → Prop} (h1 : (∀ x, x < 32 → p x = q x) → post 1) (h0 : (∃ x, x < 32 ∧ p x ≠ q x) → post 0) : wpX_samePaths post (f_size, f_present, f_height, a_order, a_levels, a_tags, a_values, a_ranks, a_ends, a_parents, a_run, a_kinds, a_numbers, a_lengths, a_entryIsPath, a_rows, a_members, a_wasSet, a_watchNode, a_selects, a_selectedBefore) (nI e) := nm_r (dp_m32 e) ⟨33, xx_samePaths_l he hp hq h1 h0 32 0 rfl (fun y hy => absurd hy (Nat.not_lt_zero y))⟩
end QX
section QY
variable {f_count f_height : Int32} {a_list a_there a_above a_tags a_values a_held a_twin a_kinds a_args a_sizes a_isPath a_rows a_spare a_isSet a_alive a_edited a_watchNode a_before : Nat → Int32}
theorem yy_pairs_l {h : Nat} {p : Nat → Int32} (h0 : 0 < h) (h8 : h ≤ 8) (hp : ∀ x, x < 32 → a_rows (32 * (h - 1) + x) = p x) {post : Int32 → SY → Prop} (H : post (dp_sm p 32) (f_count, (nI h), a_list, a_there, a_above, a_tags, a_values, a_held, a_twin, a_kinds, a_args, a_sizes, a_isPath, a_rows, a_spare, a_isSet, a_alive, a_edited, a_watchNode, a_before)) : ∀ d x, x + d = 32 → wY_pairs_14 post f_count (nI h) a_list a_there a_above a_tags a_values a_held a_twin a_kinds a_args a_sizes a_isPath a_rows a_spare a_isSet a_alive a_edited a_watchNode a_before (d + 1) (dp_sm p x) (nI x) := by
  intro d
  induction d with
  | zero =>
    intro x hx
    obtain rfl : x = 32 := by omega
    exact br_t dp_le32 H
  | succ d ih =>
    intro x hx
    exact br_f (dp_ge32 (by omega)) (yy_topRow h0 h8 (by omega) (hp x (by omega)) (yy_ones (nm_e (nm_r (nI_1 x) (ih (x + 1) (by omega))))))
theorem yy_same_l {h : Nat} {p q : Nat → Int32} (h0 : 1 < h) (h8 : h ≤ 8) (hp : ∀ x, x < 32 → a_rows (32 * (h - 1) + x) = q x) (hq : ∀ x, x < 32 → a_rows (32 * (h - 2) + x) = p x) {post : Int32 → SY → Prop} (H1 : (∀ x, x < 32 → p x = q x) → post 1 (f_count, (nI h), a_list, a_there, a_above, a_tags, a_values, a_held, a_twin, a_kinds, a_args, a_sizes, a_isPath, a_rows, a_spare, a_isSet, a_alive, a_edited, a_watchNode, a_before)) (H0 : (∃ x, x < 32 ∧ p x ≠ q x) → post 0 (f_count, (nI h), a_list, a_there, a_above, a_tags, a_values, a_held, a_twin, a_kinds, a_args, a_sizes, a_isPath, a_rows, a_spare, a_isSet, a_alive, a_edited, a_watchNode, a_before)) : ∀ d x s, x + d = 32 → (s = 1 ∧ ∀ y, y < x → p y = q y) ∨ (s = 0 ∧ ∃ y, y < x ∧ p y ≠ q y) → wY_same_44 post f_count (nI h) a_list a_there a_above a_tags a_values a_held a_twin a_kinds a_args a_sizes a_isPath a_rows a_spare a_isSet a_alive a_edited a_watchNode a_before (d + 1) s (nI x) := by
  have e1 : (32 : Int32) * nI h - 32 = nI (32 * (h - 1)) := by
    rw [dp_32m, show nI (32 * h) - 32 = nI (32 * h) - nI 32 from rfl, pk_sub (by omega), show 32 * h - 32 = 32 * (h - 1) from by omega]
  have e2 : (32 : Int32) * nI h - 64 = nI (32 * (h - 2)) := by
    rw [dp_32m, show nI (32 * h) - 64 = nI (32 * h) - nI 64 from rfl, pk_sub (by omega), show 32 * h - 64 = 32 * (h - 2) from by omega]
  intro d
  induction d with
  | zero =>
    intro x s hx H
    obtain rfl : x = 32 := by omega
    rcases H with ⟨rfl, H⟩ | ⟨rfl, H⟩
    · exact br_t dp_le32 (H1 H)
    · exact br_t dp_le32 (H0 H)
  | succ d ih =>
    intro x s hx H
    refine br_f (dp_ge32 (by omega)) ?_
    simp only [e1, e2, nI_add, dp_cl256 (show 32 * (h - 1) + x < 256 by omega), dp_cl256 (show 32 * (h - 2) + x < 256 by omega), hp x (by omega), hq x (by omega)]
    refine ⟨dp_v256 (by omega), dp_v256 (by omega), br_c (fun z => nm_r (nI_1 x) (ih (x + 1) s (by omega) ?_)) (fun z => nm_r (nI_1 x) (ih (x + 1) 0 (by omega) (Or.inr ⟨rfl, x, by omega, fun w => z w.symm⟩)))⟩
    rcases H with ⟨hs, H⟩ | ⟨hs, y, hy, H⟩
    · refine Or.inl ⟨hs, fun y hy => ?_⟩
      rcases Nat.lt_or_ge y x with w | w
      · exact H y w
      · rw [show y = x from by omega]; exact z.symm
    · exact Or.inr ⟨hs, y, by omega, H⟩
end QY
theorem i_vc_select {k : Nat} {u : SX} {v : SY} (I : i_Rel k u v) (hk : k + 4 ≤ 2048) (v1 : Int32) (v2 : Int32) : wpX_select (fun r u' => wpY_select (fun r' v' => r' = r ∧ i_Rel (k + 4) u' v') v v1 v2) u v1 v2 := by
  obtain ⟨c, o, lv, pr, tg, vs, K, N, A, S, ranks, ends, parents, kx, ax, lx, isp, above, al, ed, xw, xs, xb, yw, yb, run, rows, mem, held, twin, yp, yr, sp, h, hy, rfl, rfl, R⟩ := I
  have R' := R
  obtain ⟨T, hv, X, B, G, Q, W⟩ := R'
  have ho := T.1.2.2.1
  have hc := T.1.1
  unfold wpX_select wpY_select
  rcases dp_node T v1 with e | ⟨r, hr, rfl⟩
  · exact xx_no e (br_t rfl (yy_no e (br_t rfl ⟨rfl, dp_rel R⟩)))
  · refine xx_yes T hr (br_f (by decide) (xx_topIsPath G Q ?_))
    by_cases P : 0 < dp_hq K N 0 ∧ dp_Fq K N 0 (dp_hq K N 0 - 1) = true
    · rw [dp_c_t (decide_eq_true P)]
      have h8 : dp_hq K N 0 ≤ 8 := dp_h8 (G 0 (by decide)).2.1 (Nat.le_refl _)
      refine br_f (by decide) (xx_rowOfTop T X hv G P.1 P.2 (ho r) (fun R1 m1 => xx_pick ho hc ?_))
      have fin : ∀ a, a = dp_an o (-2) (dp_fk (fun i => bt (dp_sv c o (fun r => lv (o r)) pr tg vs K N A 0 (o r)) (o i)) v2 c) → wpY_select (fun r' v' => r' = a ∧ i_Rel (k + 4) ((nI c), pr, h, (fun j => nI (o j)), (fun j => nI (lv j)), tg, vs, ranks, ends, parents, run, kx, ax, lx, isp, R1, m1, S, xw, xs, xb) v') ((nI c), hy, (fun j => nI (o j)), (dp_th pr), above, tg, vs, held, twin, (fun j => nI (K j)), A, (fun j => nI (N j)), yp, yr, sp, S, al, ed, yw, yb) (nI (o r)) v2 := fun a ea => by
        unfold wpY_select
        refine yy_yes T hr (br_f (by decide) (yy_topIs (b := true) T B G (fun R2 P2 Z2 H => ?_)))
        rw [dp_c_t (decide_eq_true P)]
        refine br_f (by decide) (yy_topRow P.1 h8 (ho r) ((H _ (show dp_hq K N 0 - 1 < dp_hq K N 0 by omega)).2 (o r) (ho r)) (br_c (fun z => yy_kth ho hc ⟨ea.symm, dp_rel R⟩) (fun z => ⟨?_, dp_rel R⟩)))
        rw [ea, dp_fk_neg (Int32.not_le.mp z) (by omega)]; rfl
      cases e : dp_fk (fun i => bt (dp_sv c o (fun r => lv (o r)) pr tg vs K N A 0 (o r)) (o i)) v2 c with
      | none => exact br_t rfl (fin _ (by rw [e]; rfl))
      | some i => exact br_f (dp_nle1 (Nat.lt_trans (ho i) (by decide))) (fin _ (by rw [e]; rfl))
    · rw [dp_c_f (decide_eq_false P)]
      refine br_t rfl (yy_yes T hr (br_f (by decide) (yy_topIs (b := true) T B G (fun R2 P2 Z2 H => ?_))))
      rw [dp_c_f (decide_eq_false P)]
      exact br_t rfl ⟨rfl, dp_rel R⟩
theorem i_vc_selected {k : Nat} {u : SX} {v : SY} (I : i_Rel k u v) (hk : k + 4 ≤ 2048) (v1 : Int32) : wpX_selected (fun r u' => wpY_selected (fun r' v' => r' = r ∧ i_Rel (k + 4) u' v') v v1) u v1 := by
  obtain ⟨c, o, lv, pr, tg, vs, K, N, A, S, ranks, ends, parents, kx, ax, lx, isp, above, al, ed, xw, xs, xb, yw, yb, run, rows, mem, held, twin, yp, yr, sp, h, hy, rfl, rfl, R⟩ := I
  have R' := R
  obtain ⟨T, hv, X, B, G, Q, W⟩ := R'
  have ho := T.1.2.2.1
  have hc := T.1.1
  unfold wpX_selected wpY_selected
  rcases dp_node T v1 with e | ⟨r, hr, rfl⟩
  · exact xx_no e (br_t rfl (yy_no e (br_t rfl ⟨rfl, dp_rel R⟩)))
  · refine xx_yes T hr (br_f (by decide) (xx_topIsPath G Q ?_))
    by_cases P : 0 < dp_hq K N 0 ∧ dp_Fq K N 0 (dp_hq K N 0 - 1) = true
    · rw [dp_c_t (decide_eq_true P)]
      have h8 : dp_hq K N 0 ≤ 8 := dp_h8 (G 0 (by decide)).2.1 (Nat.le_refl _)
      refine br_f (by decide) (xx_rowOfTop T X hv G P.1 P.2 (ho r) (fun R1 m1 => xx_countBits (yy_yes T hr (br_f (by decide) (yy_topIs (b := true) T B G (fun R2 P2 Z2 H => ?_))))))
      rw [dp_c_t (decide_eq_true P)]
      exact br_f (by decide) (yy_topRow P.1 h8 (ho r) ((H _ (show dp_hq K N 0 - 1 < dp_hq K N 0 by omega)).2 (o r) (ho r)) (yy_ones ⟨rfl, dp_rel R⟩))
    · rw [dp_c_f (decide_eq_false P)]
      refine br_t rfl (yy_yes T hr (br_f (by decide) (yy_topIs (b := true) T B G (fun R2 P2 Z2 H => ?_))))
      rw [dp_c_f (decide_eq_false P)]
      exact br_t rfl ⟨rfl, dp_rel R⟩
theorem i_vc_related {k : Nat} {u : SX} {v : SY} (I : i_Rel k u v) (hk : k + 4 ≤ 2048) (v1 : Int32) (v2 : Int32) : wpX_related (fun r u' => wpY_related (fun r' v' => r' = r ∧ i_Rel (k + 4) u' v') v v1 v2) u v1 v2 := by
  obtain ⟨c, o, lv, pr, tg, vs, K, N, A, S, ranks, ends, parents, kx, ax, lx, isp, above, al, ed, xw, xs, xb, yw, yb, run, rows, mem, held, twin, yp, yr, sp, h, hy, rfl, rfl, R⟩ := I
  have R' := R
  obtain ⟨T, hv, X, B, G, Q, W⟩ := R'
  have ho := T.1.2.2.1
  have hc := T.1.1
  unfold wpX_related wpY_related
  rcases dp_node T v1 with e | ⟨r, hr, rfl⟩
  · exact xx_no e (br_t rfl (yy_no e (br_t rfl ⟨rfl, dp_rel R⟩)))
  rcases dp_node T v2 with e | ⟨r2, hr2, rfl⟩
  · exact xx_yes T hr (br_f (by decide) (xx_no e (br_t rfl (yy_yes T hr (br_f (by decide) (yy_no e (br_t rfl ⟨rfl, dp_rel R⟩)))))))
  · refine xx_yes T hr (br_f (by decide) (xx_yes T hr2 (br_f (by decide) (xx_topIsPath G Q ?_))))
    by_cases P : 0 < dp_hq K N 0 ∧ dp_Fq K N 0 (dp_hq K N 0 - 1) = true
    · rw [dp_c_t (decide_eq_true P)]
      have h8 : dp_hq K N 0 ≤ 8 := dp_h8 (G 0 (by decide)).2.1 (Nat.le_refl _)
      refine br_f (by decide) (xx_rowOfTop T X hv G P.1 P.2 (ho r) (fun R1 m1 => yy_yes T hr (br_f (by decide) (yy_yes T hr2 (br_f (by decide) (yy_topIs (b := true) T B G (fun R2 P2 Z2 H => ?_)))))))
      rw [dp_c_t (decide_eq_true P), dp_xb _ (ho r2)]
      refine br_f (by decide) (yy_topRow (s := dp_sv c o (fun r => lv (o r)) pr tg vs K N A 0 (o r)) P.1 h8 (ho r) ((H _ (show dp_hq K N 0 - 1 < dp_hq K N 0 by omega)).2 (o r) (ho r)) (yy_in (ho r2) ?_))
      generalize bt (dp_sv c o (fun r => lv (o r)) pr tg vs K N A 0 (o r)) (o r2) = b
      cases b
      · exact br_t rfl ⟨rfl, dp_rel R⟩
      · exact br_f (by decide) ⟨rfl, dp_rel R⟩
    · rw [dp_c_f (decide_eq_false P)]
      refine br_t rfl (yy_yes T hr (br_f (by decide) (yy_yes T hr2 (br_f (by decide) (yy_topIs (b := true) T B G (fun R2 P2 Z2 H => ?_))))))
      rw [dp_c_f (decide_eq_false P)]
      exact br_t rfl ⟨rfl, dp_rel R⟩
theorem i_vc_pairs {k : Nat} {u : SX} {v : SY} (I : i_Rel k u v) (hk : k + 4 ≤ 2048) : wpX_pairs (fun r u' => wpY_pairs (fun r' v' => r' = r ∧ i_Rel (k + 4) u' v') v) u := by
  obtain ⟨c, o, lv, pr, tg, vs, K, N, A, S, ranks, ends, parents, kx, ax, lx, isp, above, al, ed, xw, xs, xb, yw, yb, run, rows, mem, held, twin, yp, yr, sp, h, hy, rfl, rfl, R⟩ := I
  have R' := R
  obtain ⟨T, hv, X, B, G, Q, W⟩ := R'
  have ho := T.1.2.2.1
  have hc := T.1.1
  unfold wpX_pairs wpY_pairs
  refine xx_topIsPath G Q ?_
  have h8 : dp_hq K N 0 ≤ 8 := dp_h8 (G 0 (by decide)).2.1 (Nat.le_refl _)
  by_cases P : 0 < dp_hq K N 0 ∧ dp_Fq K N 0 (dp_hq K N 0 - 1) = true
  · rw [dp_c_t (decide_eq_true P)]
    refine br_f (by decide) (xx_evalP T X hv G (w := 0) (by decide) (by decide) (fun R1 m1 H1 => ?_))
    have hl : dp_hq K N 0 - 1 < dp_hq K N 0 := by omega
    refine nm_r (e' := nI (32 * (dp_hq K N 0 - 1))) (by rw [dp_s1 P.1, dp_m32]) ⟨33, xx_pairs_l (p := dp_sv c o (fun r => lv (o r)) pr tg vs K N A 0) (by omega) ((H1 _ hl).1 P.2) (yy_topIs (b := true) T B G (fun R2 P2 Z2 H => ?_)) 32 0 rfl⟩
    rw [dp_c_t (decide_eq_true P)]
    exact br_f (by decide) ⟨33, yy_pairs_l P.1 h8 (H _ hl).2 ⟨rfl, dp_rel R⟩ 32 0 rfl⟩
  · rw [dp_c_f (decide_eq_false P)]
    refine br_t rfl (yy_topIs (b := true) T B G (fun R2 P2 Z2 H => ?_))
    rw [dp_c_f (decide_eq_false P)]
    exact br_t rfl ⟨rfl, dp_rel R⟩
theorem i_vc_holds {k : Nat} {u : SX} {v : SY} (I : i_Rel k u v) (hk : k + 4 ≤ 2048) (v1 : Int32) : wpX_holds (fun r u' => wpY_holds (fun r' v' => r' = r ∧ i_Rel (k + 4) u' v') v v1) u v1 := by
  obtain ⟨c, o, lv, pr, tg, vs, K, N, A, S, ranks, ends, parents, kx, ax, lx, isp, above, al, ed, xw, xs, xb, yw, yb, run, rows, mem, held, twin, yp, yr, sp, h, hy, rfl, rfl, R⟩ := I
  have R' := R
  obtain ⟨T, hv, X, B, G, Q, W⟩ := R'
  have ho := T.1.2.2.1
  have hc := T.1.1
  unfold wpX_holds wpY_holds
  rcases dp_node T v1 with e | ⟨r, hr, rfl⟩
  · exact xx_no e (br_t rfl (yy_no e (br_t rfl ⟨rfl, dp_rel R⟩)))
  · refine xx_yes T hr (br_f (by decide) (xx_topIsCondition G Q ?_))
    have h8 : dp_hq K N 0 ≤ 8 := dp_h8 (G 0 (by decide)).2.1 (Nat.le_refl _)
    by_cases P : 0 < dp_hq K N 0 ∧ dp_Fq K N 0 (dp_hq K N 0 - 1) = false
    · rw [dp_c_t (decide_eq_true P)]
      have hl : dp_hq K N 0 - 1 < dp_hq K N 0 := by omega
      refine br_f (by decide) (xx_evalP T X hv G (w := 0) (by decide) (by decide) (fun R1 m1 H1 => ?_))
      rw [dp_s1 P.1]
      refine ⟨dp_v8 (by omega), ?_⟩
      rw [nI_clamp (show dp_hq K N 0 - 1 < 2 ^ 31 by omega), (H1 _ hl).2 P.2, dp_xb _ (ho r)]
      refine yy_yes T hr (br_f (by decide) (yy_topIs (b := false) T B G (fun R2 P2 Z2 H => ?_)))
      rw [dp_c_t (decide_eq_true P)]
      refine br_f (by decide) (yy_topRow (n := 0) P.1 h8 (by decide) ((H _ hl).2 0 (by decide)) (yy_in (ho r) ?_))
      generalize bt (dp_vl c o (fun r => lv (o r)) pr tg vs (dp_kn K 0) (dp_am A 0) (N 0) (dp_hq K N 0 - 1) 0) (o r) = b
      cases b
      · exact br_t rfl ⟨rfl, dp_rel R⟩
      · exact br_f (by decide) ⟨rfl, dp_rel R⟩
    · rw [dp_c_f (decide_eq_false P)]
      refine br_t rfl (yy_yes T hr (br_f (by decide) (yy_topIs (b := false) T B G (fun R2 P2 Z2 H => ?_))))
      rw [dp_c_f (decide_eq_false P)]
      exact br_t rfl ⟨rfl, dp_rel R⟩
theorem i_vc_holders {k : Nat} {u : SX} {v : SY} (I : i_Rel k u v) (hk : k + 4 ≤ 2048) : wpX_holders (fun r u' => wpY_holders (fun r' v' => r' = r ∧ i_Rel (k + 4) u' v') v) u := by
  obtain ⟨c, o, lv, pr, tg, vs, K, N, A, S, ranks, ends, parents, kx, ax, lx, isp, above, al, ed, xw, xs, xb, yw, yb, run, rows, mem, held, twin, yp, yr, sp, h, hy, rfl, rfl, R⟩ := I
  have R' := R
  obtain ⟨T, hv, X, B, G, Q, W⟩ := R'
  have ho := T.1.2.2.1
  have hc := T.1.1
  unfold wpX_holders wpY_holders
  refine xx_topIsCondition G Q ?_
  have h8 : dp_hq K N 0 ≤ 8 := dp_h8 (G 0 (by decide)).2.1 (Nat.le_refl _)
  by_cases P : 0 < dp_hq K N 0 ∧ dp_Fq K N 0 (dp_hq K N 0 - 1) = false
  · rw [dp_c_t (decide_eq_true P)]
    have hl : dp_hq K N 0 - 1 < dp_hq K N 0 := by omega
    refine br_f (by decide) (xx_evalP T X hv G (w := 0) (by decide) (by decide) (fun R1 m1 H1 => ?_))
    rw [dp_s1 P.1]
    refine ⟨dp_v8 (by omega), ?_⟩
    rw [nI_clamp (show dp_hq K N 0 - 1 < 2 ^ 31 by omega), (H1 _ hl).2 P.2]
    refine xx_countBits (yy_topIs (b := false) T B G (fun R2 P2 Z2 H => ?_))
    rw [dp_c_t (decide_eq_true P)]
    exact br_f (by decide) (yy_topRow (n := 0) P.1 h8 (by decide) ((H _ hl).2 0 (by decide)) (yy_ones ⟨rfl, dp_rel R⟩))
  · rw [dp_c_f (decide_eq_false P)]
    refine br_t rfl (yy_topIs (b := false) T B G (fun R2 P2 Z2 H => ?_))
    rw [dp_c_f (decide_eq_false P)]
    exact br_t rfl ⟨rfl, dp_rel R⟩
theorem i_vc_same {k : Nat} {u : SX} {v : SY} (I : i_Rel k u v) (hk : k + 4 ≤ 2048) : wpX_same (fun r u' => wpY_same (fun r' v' => r' = r ∧ i_Rel (k + 4) u' v') v) u := by
  obtain ⟨c, o, lv, pr, tg, vs, K, N, A, S, ranks, ends, parents, kx, ax, lx, isp, above, al, ed, xw, xs, xb, yw, yb, run, rows, mem, held, twin, yp, yr, sp, h, hy, rfl, rfl, R⟩ := I
  have R' := R
  obtain ⟨T, hv, X, B, G, Q, W⟩ := R'
  have ho := T.1.2.2.1
  have hc := T.1.1
  unfold wpX_same
  obtain ⟨q1, q2⟩ := Q
  have h8 : dp_hq K N 0 ≤ 8 := dp_h8 (G 0 (by decide)).2.1 (Nat.le_refl _)
  have YN : ∀ {run' rows' mem' : Nat → Int32}, ¬ (2 ≤ dp_hq K N 0 ∧ dp_Fq K N 0 (dp_hq K N 0 - 1) = dp_Fq K N 0 (dp_hq K N 0 - 2)) → wpY_same (fun r' v' => r' = -1 ∧ i_Rel (k + 4) ((nI c), pr, h, (fun j => nI (o j)), (fun j => nI (lv j)), tg, vs, ranks, ends, parents, run', kx, ax, lx, isp, rows', mem', S, xw, xs, xb) v') ((nI c), hy, (fun j => nI (o j)), (dp_th pr), above, tg, vs, held, twin, (fun j => nI (K j)), A, (fun j => nI (N j)), yp, yr, sp, S, al, ed, yw, yb) := fun {_ _ _} z => by
    unfold wpY_same
    refine yy_workP T B G (w := 0) (by decide) (fun R2 P2 Z2 H => ?_)
    by_cases h2 : 2 ≤ dp_hq K N 0
    · refine br_f (nI_nlt (b := 2) h2 (by omega)) ?_
      rw [dp_s1 (by omega), dp_s2 h2]
      refine ⟨dp_v8 (by omega), dp_v8 (by omega), ?_⟩
      rw [nI_clamp (show dp_hq K N 0 - 1 < 2 ^ 31 by omega), nI_clamp (show dp_hq K N 0 - 2 < 2 ^ 31 by omega), (H _ (show dp_hq K N 0 - 1 < dp_hq K N 0 by omega)).1, (H _ (show dp_hq K N 0 - 2 < dp_hq K N 0 by omega)).1]
      refine br_f (fun w => z ⟨h2, ?_⟩) ⟨rfl, dp_rel R⟩
      show (dp_ty (dp_kn K 0) (N 0)).2 (dp_hq K N 0 - 1) = (dp_ty (dp_kn K 0) (N 0)).2 (dp_hq K N 0 - 2)
      revert w
      generalize (dp_ty (dp_kn K 0) (N 0)).2 (dp_hq K N 0 - 1) = b1
      generalize (dp_ty (dp_kn K 0) (N 0)).2 (dp_hq K N 0 - 2) = b2
      cases b1 <;> cases b2 <;> decide
    · exact br_t (nI_lt (b := 2) (by omega) (by decide)) ⟨rfl, dp_rel R⟩
  subst q1
  by_cases h2 : 2 ≤ dp_hq K N 0
  · refine br_f (nI_nlt (b := 2) h2 (by omega)) ?_
    have hl1 : dp_hq K N 0 - 1 < dp_hq K N 0 := by omega
    have hl2 : dp_hq K N 0 - 2 < dp_hq K N 0 := by omega
    rw [dp_s1 (by omega), dp_s2 h2]
    refine ⟨dp_v8 (by omega), dp_v8 (by omega), ?_⟩
    rw [nI_clamp (show dp_hq K N 0 - 1 < 2 ^ 31 by omega), nI_clamp (show dp_hq K N 0 - 2 < 2 ^ 31 by omega), q2 _ hl1, q2 _ hl2]
    by_cases P : dp_Fq K N 0 (dp_hq K N 0 - 1) = dp_Fq K N 0 (dp_hq K N 0 - 2)
    · refine br_t (by rw [P]) (xx_evalP T X hv G (w := 0) (by decide) (by decide) (fun R1 m1 H1 => ?_))
      have PI := dp_vl_PI (l := fun r => lv (o r)) (tg := tg) (vs := vs) ho T.2.1 (G 0 (by decide)).2.1 (N 0) (Nat.le_refl _)
      have Y1 : ∀ a, ((∀ x, x < 32 → dp_vl c o (fun r => lv (o r)) pr tg vs (dp_kn K 0) (dp_am A 0) (N 0) (dp_hq K N 0 - 2) x = dp_vl c o (fun r => lv (o r)) pr tg vs (dp_kn K 0) (dp_am A 0) (N 0) (dp_hq K N 0 - 1) x) → a = 1) → ((∃ x, x < 32 ∧ dp_vl c o (fun r => lv (o r)) pr tg vs (dp_kn K 0) (dp_am A 0) (N 0) (dp_hq K N 0 - 2) x ≠ dp_vl c o (fun r => lv (o r)) pr tg vs (dp_kn K 0) (dp_am A 0) (N 0) (dp_hq K N 0 - 1) x) → a = 0) → wpY_same (fun r' v' => r' = a ∧ i_Rel (k + 4) ((nI c), pr, (nI (dp_hq K N 0)), (fun j => nI (o j)), (fun j => nI (lv j)), tg, vs, ranks, ends, parents, run, kx, ax, lx, isp, R1, m1, S, xw, xs, xb) v') ((nI c), hy, (fun j => nI (o j)), (dp_th pr), above, tg, vs, held, twin, (fun j => nI (K j)), A, (fun j => nI (N j)), yp, yr, sp, S, al, ed, yw, yb) := fun a a1 a0 => by
        unfold wpY_same
        refine yy_workP T B G (w := 0) (by decide) (fun R2 P2 Z2 H => ?_)
        refine br_f (nI_nlt (b := 2) h2 (by omega)) ?_
        rw [dp_s1 (by omega), dp_s2 h2]
        refine ⟨dp_v8 (by omega), dp_v8 (by omega), ?_⟩
        rw [nI_clamp (show dp_hq K N 0 - 1 < 2 ^ 31 by omega), nI_clamp (show dp_hq K N 0 - 2 < 2 ^ 31 by omega), (H _ hl1).1, (H _ hl2).1]
        exact br_t (congrArg dp_c P) ⟨33, yy_same_l (by omega) h8 (H _ hl1).2 (H _ hl2).2 (fun z => ⟨(a1 z).symm, dp_rel R⟩) (fun z => ⟨(a0 z).symm, dp_rel R⟩) 32 0 1 rfl (Or.inl ⟨rfl, fun y hy => absurd hy (Nat.not_lt_zero y)⟩)⟩
      rw [dp_s1 (by omega)]
      refine ⟨dp_v8 (by omega), ?_⟩
      rw [nI_clamp (show dp_hq K N 0 - 1 < 2 ^ 31 by omega), q2 _ hl1, dp_s1 (show 1 ≤ dp_hq K N 0 - 1 by omega), show dp_hq K N 0 - 1 - 1 = dp_hq K N 0 - 2 from by omega]
      cases F1 : dp_Fq K N 0 (dp_hq K N 0 - 1)
      · have F2 := P.symm.trans F1
        refine br_t rfl ⟨dp_v8 (by omega), dp_v8 (by omega), ?_⟩
        rw [nI_clamp (show dp_hq K N 0 - 2 < 2 ^ 31 by omega), (H1 _ hl1).2 F1, (H1 _ hl2).2 F2]
        have C1 := (PI _ hl1).2 F1
        have C2 := (PI _ hl2).2 F2
        refine br_c (fun z => br_f (by decide) (Y1 _ (fun _ => rfl) (fun ⟨x, hx, ne⟩ => absurd ?_ ne))) (fun z => br_t rfl (Y1 _ (fun all => absurd (all 0 (by decide)) z) (fun _ => rfl)))
        rcases Nat.eq_zero_or_pos x with y | y
        · rw [y]; exact z
        · rw [C1.1 x y hx, C2.1 x y hx]
      · have F2 := P.symm.trans F1
        refine br_f (by decide) (xx_samePaths (e := dp_hq K N 0 - 2) (by omega) ((H1 _ hl2).1 F2) (fun x hx => ?_) (fun z => br_f (by decide) (Y1 _ (fun _ => rfl) (fun ⟨x, hx, ne⟩ => absurd (z x hx) ne))) (fun z => br_t rfl (Y1 _ (fun all => ?_) (fun _ => rfl))))
        · rw [show 32 * (dp_hq K N 0 - 2) + 32 + x = 32 * (dp_hq K N 0 - 1) + x from by omega]
          exact (H1 _ hl1).1 F1 x hx
        · obtain ⟨x, hx, ne⟩ := z
          exact absurd (all x hx) ne
    · refine br_f (fun w => P ?_) (YN (fun z => P z.2))
      revert w
      generalize dp_Fq K N 0 (dp_hq K N 0 - 1) = b1
      generalize dp_Fq K N 0 (dp_hq K N 0 - 2) = b2
      cases b1 <;> cases b2 <;> decide
  · exact br_t (nI_lt (b := 2) (by omega) (by decide)) (YN (fun z => h2 z.1))
end
section
/-! edits of tags and values; the query is cleared -/
section WE
variable {c c' : Nat} {o l o' l' : Nat → Nat} {pr pr' : Int32} {tg vs tg' vs' : Nat → Int32} {K N : Nat → Nat} {A S al al' ed ed' xw xw' xs xs' xb xb' yw yb yb' : Nat → Int32}
theorem dp_Wa_edit (W : dp_Wa c o l pr tg vs K N A S al ed xw xs xb yw yb) (F : ∀ s, s < 3 → dp_Rf c' o' l' pr' tg' vs' K N A xw' xs xs' xb' s) (E : ∀ s, s < 3 → ed' s = 1 ∧ yb' s = xs s) (L : ∀ s, s < 3 → (al' s = 0 ∧ xw' s = -1) ∨ (al s = 1 ∧ al' s = 1 ∧ xw' s = xw s ∧ ∀ w, xw s = nI w → bt pr w = true → bt pr' w = true)) : dp_Wa c' o' l' pr' tg' vs' K N A S al' ed' xw' xs' xb' yw yb' := fun s hs => by
  obtain ⟨f1, f2, f3⟩ := F s hs
  rw [f1, (E s hs).1, (E s hs).2]
  refine dp_Ws_edit (W s hs) ?_
  rcases L s hs with ⟨z1, z2⟩ | ⟨z1, z2, z3, z4⟩
  · exact Or.inl ⟨z1, z2, f2 z2⟩
  · exact Or.inr ⟨z1, z2, z3, fun w w1 w2 => ⟨z4 w w1 w2, f3 w (dp_bt_lt w2) (z3.trans w1)⟩⟩
theorem dp_L_same (W : dp_Wa c o l pr tg vs K N A S al ed xw xs xb yw yb) (hp : ∀ w, bt pr w = true → bt pr' w = true) : ∀ s, s < 3 → (al s = 0 ∧ xw s = -1) ∨ (al s = 1 ∧ al s = 1 ∧ xw s = xw s ∧ ∀ w, xw s = nI w → bt pr w = true → bt pr' w = true) := fun s hs => by
  rcases (W s hs).2.2.1 with ⟨z1, z2, z3⟩ | ⟨z1, -⟩
  · exact Or.inl ⟨z1, z2⟩
  · exact Or.inr ⟨z1, z1, rfl, fun w _ h => hp w h⟩
theorem dp_hw (W : dp_Wa c o l pr tg vs K N A S al ed xw xs xb yw yb) : ∀ s, s < 3 → xw s = -1 ∨ (∃ w, w < 32 ∧ xw s = nI w) ∧ 0 < dp_hq K N (s + 1) ∧ dp_Fq K N (s + 1) (dp_hq K N (s + 1) - 1) = true := fun s hs => by
  rcases (W s hs).2.2.1 with ⟨-, z2, -⟩ | ⟨-, -, z3, z4, w, z5, z6, -⟩
  · exact Or.inl z2
  · exact Or.inr ⟨⟨w, dp_bt_lt z5, z6⟩, z3, z4⟩
end WE
theorem i_vc_label {k : Nat} {u : SX} {v : SY} (I : i_Rel k u v) (hk : k + 4 ≤ 2048) (v1 : Int32) (v2 : Int32) : wpX_label (fun r u' => wpY_label (fun r' v' => r' = r ∧ i_Rel (k + 4) u' v') v v1 v2) u v1 v2 := by
  obtain ⟨c, o, lv, pr, tg, vs, K, N, A, S, ranks, ends, parents, kx, ax, lx, isp, above, al, ed, xw, xs, xb, yw, yb, run, rows, mem, held, twin, yp, yr, sp, h, hy, rfl, rfl, R⟩ := I
  have R' := R
  obtain ⟨T, hv, X, B, G, Q, W⟩ := R'
  have ho := T.1.2.2.1
  have hc := T.1.1
  unfold wpX_label wpY_label
  rcases dp_node T v1 with e | ⟨r, hr, rfl⟩
  · exact xx_no e (br_t rfl (yy_no e (br_t rfl ⟨rfl, dp_rel R⟩)))
  · by_cases h0 : v2 < 0
    · exact xx_yes T hr (br_f (by decide) (br_t h0 (yy_yes T hr (br_f (by decide) (br_t h0 ⟨rfl, dp_rel R⟩)))))
    by_cases h7 : v2 ≤ 7
    · refine xx_yes T hr (br_f (by decide) (br_f h0 (br_t h7 ⟨dp_v32 (ho r), nm_e ⟨dp_v32 (ho r), ?_⟩⟩)))
      rw [dp_cl32 (ho r)]
      refine nm_e (xx_refresh T X hv G (dp_hw W) (fun R1 m1 xs1 xb1 H1 => ?_))
      refine yy_yes T hr (br_f (by decide) (br_f h0 (br_t h7 (yy_noteEdit T B G W (fun hy2 R2 P2 Z2 ed2 yb2 H2 => ?_)))))
      exact ⟨dp_v32 (ho r), nm_e ⟨dp_v32 (ho r), nm_e ⟨rfl, dp_rel ⟨T, hv, X, B, G, Q, dp_Wa_edit W H1 H2 (dp_L_same W (fun _ z => z))⟩⟩⟩⟩
    · exact xx_yes T hr (br_f (by decide) (br_f h0 (br_f h7 (yy_yes T hr (br_f (by decide) (br_f h0 (br_f h7 ⟨rfl, dp_rel R⟩)))))))
theorem i_vc_mark {k : Nat} {u : SX} {v : SY} (I : i_Rel k u v) (hk : k + 4 ≤ 2048) (v1 : Int32) (v2 : Int32) : wpX_mark (fun r u' => wpY_mark (fun r' v' => r' = r ∧ i_Rel (k + 4) u' v') v v1 v2) u v1 v2 := by
  obtain ⟨c, o, lv, pr, tg, vs, K, N, A, S, ranks, ends, parents, kx, ax, lx, isp, above, al, ed, xw, xs, xb, yw, yb, run, rows, mem, held, twin, yp, yr, sp, h, hy, rfl, rfl, R⟩ := I
  have R' := R
  obtain ⟨T, hv, X, B, G, Q, W⟩ := R'
  have ho := T.1.2.2.1
  have hc := T.1.1
  unfold wpX_mark wpY_mark
  rcases dp_node T v1 with e | ⟨r, hr, rfl⟩
  · exact xx_no e (br_t rfl (yy_no e (br_t rfl ⟨rfl, dp_rel R⟩)))
  · by_cases h0 : v2 < -99
    · exact xx_yes T hr (br_f (by decide) (br_t h0 (yy_yes T hr (br_f (by decide) (br_t h0 ⟨rfl, dp_rel R⟩)))))
    by_cases h7 : v2 ≤ 99
    · have hv' : ∀ n, upd vs (o r) v2 n ≤ 99 := fun n => by
        show (if n = o r then v2 else vs n) ≤ 99
        split
        · exact h7
        · exact hv n
      refine xx_yes T hr (br_f (by decide) (br_f h0 (br_t h7 ⟨dp_v32 (ho r), nm_r (e' := vs (o r)) (congrArg vs (dp_cl32 (ho r))) ⟨dp_v32 (ho r), nm_r (e' := upd vs (o r) v2) (by rw [dp_cl32 (ho r)]) (xx_refresh T X hv' G (dp_hw W) (fun R1 m1 xs1 xb1 H1 => ?_))⟩⟩)))
      have fin : ∀ a, (vs (o r) = v2 → a = 0) → (¬ vs (o r) = v2 → a = 1) → wpY_mark (fun r' v' => r' = a ∧ i_Rel (k + 4) ((nI c), pr, h, (fun j => nI (o j)), (fun j => nI (lv j)), tg, (upd vs (o r) v2), ranks, ends, parents, run, kx, ax, lx, isp, R1, m1, S, xw, xs1, xb1) v') ((nI c), hy, (fun j => nI (o j)), (dp_th pr), above, tg, vs, held, twin, (fun j => nI (K j)), A, (fun j => nI (N j)), yp, yr, sp, S, al, ed, yw, yb) (nI (o r)) v2 := fun a a0 a1 => by
        unfold wpY_mark
        refine yy_yes T hr (br_f (by decide) (br_f h0 (br_t h7 (yy_noteEdit T B G W (fun hy2 R2 P2 Z2 ed2 yb2 H2 => ?_)))))
        have RR := dp_rel (k := k + 4) (run := run) (rows := R1) (mem := m1) (held := held) (twin := twin) (yp := P2) (yr := R2) (sp := Z2) (hy := hy2) (show dp_Re c o lv pr tg (upd vs (o r) v2) K N A S ranks ends parents kx ax lx isp above al ed2 xw xs1 xb1 yw yb2 h from ⟨T, hv', X, B, G, Q, dp_Wa_edit W H1 H2 (dp_L_same W (fun _ z => z))⟩)
        refine ⟨dp_v32 (ho r), ?_⟩
        rw [dp_cl32 (ho r)]
        exact nm_e ⟨dp_v32 (ho r), nm_e (br_c (fun z => ⟨(a0 z).symm, RR⟩) (fun z => ⟨(a1 z).symm, RR⟩))⟩
      exact br_c (fun z => fin 0 (fun _ => rfl) (fun n => absurd z n)) (fun z => fin 1 (fun n => absurd n z) (fun _ => rfl))
    · exact xx_yes T hr (br_f (by decide) (br_f h0 (br_f h7 (yy_yes T hr (br_f (by decide) (br_f h0 (br_f h7 ⟨rfl, dp_rel R⟩)))))))
/-! programs -/
theorem dp_prog {c : Nat} {o l : Nat → Nat} {pr : Int32} {tg vs : Nat → Int32} {K K' N N' : Nat → Nat} {A A' : Nat → Int32} {w w' : Nat} (hN : N' w' = N w) (hK : ∀ i, i < N w → K (24 * w + i) = K' (24 * w' + i)) (hA : ∀ i, i < N w → A (24 * w + i) = A' (24 * w' + i)) : dp_hq K' N' w' = dp_hq K N w ∧ dp_Fq K' N' w' = dp_Fq K N w ∧ (∀ n, dp_sv c o l pr tg vs K' N' A' w' n = dp_sv c o l pr tg vs K N A w n) ∧ (dp_WT (dp_kn K w) (dp_am A w) (N w) → dp_WT (dp_kn K' w') (dp_am A' w') (N' w')) := by
  have e1 : dp_ty (dp_kn K w) (N w) = dp_ty (dp_kn K' w') (N w) := dp_ty_congr hK
  have e2 : dp_vl c o l pr tg vs (dp_kn K w) (dp_am A w) (N w) = dp_vl c o l pr tg vs (dp_kn K' w') (dp_am A' w') (N w) := dp_vl_congr hK hA
  have h1 : dp_hq K' N' w' = dp_hq K N w := by unfold dp_hq; rw [hN, e1]
  refine ⟨h1, ?_, fun n => ?_, fun W => ?_⟩
  · unfold dp_Fq; rw [hN, e1]
  · unfold dp_sv; rw [h1, hN, e2]
  · rw [hN]; exact dp_WT_congr hK hA W
theorem dp_Ws_prog {c : Nat} {o l : Nat → Nat} {pr : Int32} {tg vs : Nat → Int32} {K K' N N' : Nat → Nat} {A A' : Nat → Int32} {s : Nat} {S al ed xw xs xb yw yb : Int32} (hN : N' (s + 1) = N (s + 1)) (hK : ∀ i, i < N (s + 1) → K (24 * (s + 1) + i) = K' (24 * (s + 1) + i)) (hA : ∀ i, i < N (s + 1) → A (24 * (s + 1) + i) = A' (24 * (s + 1) + i)) (W : dp_Ws c o l pr tg vs K N A s S al ed xw xs xb yw yb) : dp_Ws c o l pr tg vs K' N' A' s S al ed xw xs xb yw yb := by
  obtain ⟨p1, p2, p3, -⟩ := dp_prog (c := c) (o := o) (l := l) (pr := pr) (tg := tg) (vs := vs) hN hK hA
  obtain ⟨w1, w2, w3, w4, w5⟩ := W
  refine ⟨w1, w2, ?_, w4, w5⟩
  rcases w3 with z | ⟨z1, z2, z3, z4, w, z5, z6, z7, z8⟩
  · exact Or.inl z
  · exact Or.inr ⟨z1, z2, by rw [p1]; exact z3, by rw [p1, p2]; exact z4, w, z5, z6, z7, by rw [p3]; exact z8⟩
theorem i_vc_clearQuery {k : Nat} {u : SX} {v : SY} (I : i_Rel k u v) (hk : k + 4 ≤ 2048) : wpX_clearQuery (fun r u' => wpY_clearQuery (fun r' v' => r' = r ∧ i_Rel (k + 4) u' v') v) u := by
  obtain ⟨c, o, lv, pr, tg, vs, K, N, A, S, ranks, ends, parents, kx, ax, lx, isp, above, al, ed, xw, xs, xb, yw, yb, run, rows, mem, held, twin, yp, yr, sp, h, hy, rfl, rfl, R⟩ := I
  have R' := R
  obtain ⟨T, hv, X, B, G, Q, W⟩ := R'
  have ho := T.1.2.2.1
  have hc := T.1.1
  obtain ⟨q1, q2⟩ := Q
  unfold wpX_clearQuery wpY_clearQuery
  refine nm_e (yy_workP T B G (w := 0) (by decide) (fun R2 P2 Z2 H => ?_))
  refine nm_r (e' := fun j => nI (dp_nu N 0 0 j)) (dp_upd (x := 0)) ⟨q1.symm, dp_rel ⟨T, hv, X, B, fun w hw => ?_, ⟨rfl, fun e he => absurd he (Nat.not_lt_zero e)⟩, fun s hs => dp_Ws_prog (dp_nu_n (by omega)) (fun _ _ => rfl) (fun _ _ => rfl) (W s hs)⟩⟩
  obtain ⟨g1, g2, g3, g4⟩ := G w hw
  by_cases z : w = 0
  · subst z
    exact ⟨by rw [dp_nu_s]; omega, by rw [dp_nu_s]; exact fun i hi => absurd hi (Nat.not_lt_zero i), by rw [dp_nu_s, dp_px_0]; exact pk_us, fun i hi => absurd hi (by rw [dp_nu_s]; exact Nat.not_lt_zero i)⟩
  · rw [dp_nu_n z]
    refine ⟨g1, g2, ?_, g4⟩
    rw [pk_un (by unfold dp_px; rw [if_neg z]; omega)]
    exact g3
end
section
/-! a token is put on the query -/
def dp_nb (k : Nat) (a : Int32) : Bool :=
  if k = 0 then decide (¬ a < 0 ∧ ¬ 8 < a) else if k = 7 then decide (¬ a < -9 ∧ ¬ 9 < a ∧ ¬ a = 0) else if k = 9 then decide (¬ a < 0 ∧ ¬ 7 < a) else if k = 10 then decide (¬ a < -99 ∧ ¬ 99 < a) else if k = 11 then decide (¬ a < 1 ∧ ¬ 9 < a) else true
theorem dp_nb_ok {k : Nat} {a : Int32} (hk : k ≤ 15) (h : dp_nb k a = true) : dp_ok k a := by
  refine ⟨hk, fun z => ?_, fun z => ?_⟩
  · subst z
    exact (of_decide_eq_true (show decide (¬ a < -9 ∧ ¬ 9 < a ∧ ¬ a = 0) = true from h)).2.2
  · subst z
    exact Int32.not_lt.mp (of_decide_eq_true (show decide (¬ a < 1 ∧ ¬ 9 < a) = true from h)).1
theorem dp_w2 {A B : Prop} [Decidable A] [Decidable B] {post : Int32 → Prop} (h : post (dp_c (decide (¬ A ∧ ¬ B)))) : (A → post 0) ∧ (¬ A → ((B → post 0) ∧ (¬ B → post 1))) := by
  by_cases a : A
  · rw [dp_c_f (decide_eq_false (fun z => z.1 a))] at h; exact br_t a h
  · by_cases b : B
    · rw [dp_c_f (decide_eq_false (fun z => z.2 b))] at h; exact br_f a (br_t b h)
    · rw [dp_c_t (decide_eq_true ⟨a, b⟩)] at h; exact br_f a (br_f b h)
theorem dp_w3 {A B C : Prop} [Decidable A] [Decidable B] [Decidable C] {post : Int32 → Prop} (h : post (dp_c (decide (¬ A ∧ ¬ B ∧ ¬ C)))) : (A → post 0) ∧ (¬ A → ((B → post 0) ∧ (¬ B → ((C → post 0) ∧ (¬ C → post 1))))) := by
  by_cases a : A
  · rw [dp_c_f (decide_eq_false (fun z => z.1 a))] at h; exact br_t a h
  · by_cases b : B
    · rw [dp_c_f (decide_eq_false (fun z => z.2.1 b))] at h; exact br_f a (br_t b h)
    · by_cases c : C
      · rw [dp_c_f (decide_eq_false (fun z => z.2.2 c))] at h; exact br_f a (br_f b (br_t c h))
      · rw [dp_c_t (decide_eq_true ⟨a, b, c⟩)] at h; exact br_f a (br_f b (br_f c h))
theorem xx_isNumberFor {k : Nat} {a : Int32} (hk : k ≤ 15) {post : Int32 → Prop} (h : post (dp_c (dp_nb k a))) : wpX_isNumberFor post (nI k) a := by
  rcases dp_cases hk with rfl | rfl | rfl | rfl | rfl | rfl | rfl | rfl | rfl | rfl | rfl | rfl | rfl | rfl | rfl | rfl
  · exact br_f (by decide) (br_f (by decide) (br_t rfl (dp_w2 h)))
  · exact br_f (by decide) (br_f (by decide) (br_f (by decide) (br_t rfl (h))))
  · exact br_f (by decide) (br_f (by decide) (br_f (by decide) (br_f (by decide) (br_t rfl (h)))))
  · exact br_f (by decide) (br_f (by decide) (br_f (by decide) (br_f (by decide) (br_f (by decide) (br_t rfl (h))))))
  · exact br_f (by decide) (br_f (by decide) (br_f (by decide) (br_f (by decide) (br_f (by decide) (br_f (by decide) (br_t rfl (h)))))))
  · exact br_f (by decide) (br_f (by decide) (br_f (by decide) (br_f (by decide) (br_f (by decide) (br_f (by decide) (br_f (by decide) (br_t rfl (h))))))))
  · exact br_f (by decide) (br_f (by decide) (br_f (by decide) (br_f (by decide) (br_f (by decide) (br_f (by decide) (br_f (by decide) (br_f (by decide) (br_t rfl (h)))))))))
  · exact br_f (by decide) (br_f (by decide) (br_f (by decide) (br_f (by decide) (br_f (by decide) (br_f (by decide) (br_f (by decide) (br_f (by decide) (br_f (by decide) (br_t rfl (dp_w3 h))))))))))
  · exact br_f (by decide) (br_f (by decide) (br_f (by decide) (br_f (by decide) (br_f (by decide) (br_f (by decide) (br_f (by decide) (br_f (by decide) (br_f (by decide) (br_f (by decide) (br_t rfl (h)))))))))))
  · exact br_f (by decide) (br_f (by decide) (br_f (by decide) (br_f (by decide) (br_f (by decide) (br_f (by decide) (br_f (by decide) (br_f (by decide) (br_f (by decide) (br_f (by decide) (br_f (by decide) (br_t rfl (dp_w2 h))))))))))))
  · exact br_f (by decide) (br_f (by decide) (br_f (by decide) (br_f (by decide) (br_f (by decide) (br_f (by decide) (br_f (by decide) (br_f (by decide) (br_f (by decide) (br_f (by decide) (br_f (by decide) (br_f (by decide) (br_t rfl (dp_w2 h)))))))))))))
  · exact br_f (by decide) (br_f (by decide) (br_f (by decide) (br_f (by decide) (br_f (by decide) (br_f (by decide) (br_f (by decide) (br_f (by decide) (br_f (by decide) (br_f (by decide) (br_f (by decide) (br_f (by decide) (br_f (by decide) (br_t rfl (dp_w2 h))))))))))))))
  · exact br_f (by decide) (br_t (by decide) h)
  · exact br_f (by decide) (br_t (by decide) h)
  · exact br_f (by decide) (br_t (by decide) h)
  · exact br_f (by decide) (br_t (by decide) h)
section YF
variable {f_count f_height : Int32} {a_list a_there a_above a_tags a_values a_held a_twin a_kinds a_args a_sizes a_isPath a_rows a_spare a_isSet a_alive a_edited a_watchNode a_before : Nat → Int32}
theorem yy_fits {k : Nat} {a : Int32} (hk : k ≤ 15) {post : Int32 → Prop} (h : post (dp_c (dp_nb k a))) : wpY_fits post (f_count, f_height, a_list, a_there, a_above, a_tags, a_values, a_held, a_twin, a_kinds, a_args, a_sizes, a_isPath, a_rows, a_spare, a_isSet, a_alive, a_edited, a_watchNode, a_before) (nI k) a := by
  rcases dp_cases hk with rfl | rfl | rfl | rfl | rfl | rfl | rfl | rfl | rfl | rfl | rfl | rfl | rfl | rfl | rfl | rfl
  · exact br_t rfl (dp_w2 h)
  · exact br_f (by decide) (br_f (by decide) (br_f (by decide) (br_f (by decide) (br_f (by decide) (h)))))
  · exact br_f (by decide) (br_f (by decide) (br_f (by decide) (br_f (by decide) (br_f (by decide) (h)))))
  · exact br_f (by decide) (br_f (by decide) (br_f (by decide) (br_f (by decide) (br_f (by decide) (h)))))
  · exact br_f (by decide) (br_f (by decide) (br_f (by decide) (br_f (by decide) (br_f (by decide) (h)))))
  · exact br_f (by decide) (br_f (by decide) (br_f (by decide) (br_f (by decide) (br_f (by decide) (h)))))
  · exact br_f (by decide) (br_f (by decide) (br_f (by decide) (br_f (by decide) (br_f (by decide) (h)))))
  · exact br_f (by decide) (br_t rfl (dp_w3 h))
  · exact br_f (by decide) (br_f (by decide) (br_f (by decide) (br_f (by decide) (br_f (by decide) (h)))))
  · exact br_f (by decide) (br_f (by decide) (br_t rfl (dp_w2 h)))
  · exact br_f (by decide) (br_f (by decide) (br_f (by decide) (br_t rfl (dp_w2 h))))
  · exact br_f (by decide) (br_f (by decide) (br_f (by decide) (br_f (by decide) (br_t rfl (dp_w2 h)))))
  · exact br_f (by decide) (br_f (by decide) (br_f (by decide) (br_f (by decide) (br_f (by decide) (h)))))
  · exact br_f (by decide) (br_f (by decide) (br_f (by decide) (br_f (by decide) (br_f (by decide) (h)))))
  · exact br_f (by decide) (br_f (by decide) (br_f (by decide) (br_f (by decide) (br_f (by decide) (h)))))
  · exact br_f (by decide) (br_f (by decide) (br_f (by decide) (br_f (by decide) (br_f (by decide) (h)))))
theorem yy_finds {k h : Nat} {F : Nat → Bool} (hk : k ≤ 15) (h8 : h ≤ 8) (hF : ∀ e, e < h → a_isPath e = dp_c (F e)) {post : Int32 → Prop} (h1 : dp_ft h F k → post 1) (h0 : ¬ dp_ft h F k → post 0) : wpY_finds post (f_count, (nI h), a_list, a_there, a_above, a_tags, a_values, a_held, a_twin, a_kinds, a_args, a_sizes, a_isPath, a_rows, a_spare, a_isSet, a_alive, a_edited, a_watchNode, a_before) (nI k) := by
  have nb : ∀ b : Bool, post (dp_c b) → narrow .boolean (.int (dp_c b)) = .int (dp_c b) ∧ post (dp_c b) := fun b h => ⟨by cases b <;> rfl, h⟩
  have one : ∀ b : Bool, dp_tk k = 1 → dp_tp k = b → post (dp_c (decide (1 ≤ h ∧ F (h - 1) = b))) := fun b t e => by
    by_cases z : 1 ≤ h ∧ F (h - 1) = b
    · rw [dp_c_t (decide_eq_true z)]
      exact h1 ⟨by omega, fun _ => by rw [e]; exact z.2, fun q => absurd (t.symm.trans q) (by decide)⟩
    · rw [dp_c_f (decide_eq_false z)]
      exact h0 (fun q => z ⟨by have := q.1; omega, by rw [← e]; exact q.2.1 (by omega)⟩)
  have two : ∀ b b' : Bool, dp_tk k = 2 → dp_tp k = b → dp_bp k = b' → wpY_has (fun r => (r = 0 → post 0) ∧ (¬ r = 0 → wpY_has (fun r => (r = 0 → post 0) ∧ (¬ r = 0 → post 1)) (f_count, (nI h), a_list, a_there, a_above, a_tags, a_values, a_held, a_twin, a_kinds, a_args, a_sizes, a_isPath, a_rows, a_spare, a_isSet, a_alive, a_edited, a_watchNode, a_before) 2 (dp_c b'))) (f_count, (nI h), a_list, a_there, a_above, a_tags, a_values, a_held, a_twin, a_kinds, a_args, a_sizes, a_isPath, a_rows, a_spare, a_isSet, a_alive, a_edited, a_watchNode, a_before) 1 (dp_c b) := fun b b' t e e' => by
    refine yy_has (j := 1) h8 (by decide) (by decide) hF ?_
    by_cases z : 1 ≤ h ∧ F (h - 1) = b
    · rw [dp_c_t (decide_eq_true z)]
      refine br_f (by decide) (yy_has (j := 2) h8 (by decide) (by decide) hF ?_)
      by_cases y : 2 ≤ h ∧ F (h - 2) = b'
      · rw [dp_c_t (decide_eq_true y)]
        exact br_f (by decide) (h1 ⟨by omega, fun _ => by rw [e]; exact z.2, fun _ => by rw [e']; exact y.2⟩)
      · rw [dp_c_f (decide_eq_false y)]
        exact br_t rfl (h0 (fun q => y ⟨by have := q.1; omega, by rw [← e']; exact q.2.2 t⟩))
    · rw [dp_c_f (decide_eq_false z)]
      exact br_t rfl (h0 (fun q => z ⟨by have := q.1; omega, by rw [← e]; exact q.2.1 (by omega)⟩))
  have one' : ∀ b : Bool, dp_tk k = 1 → dp_tp k = b → wpY_has (fun r => narrow .boolean (.int r) = .int r ∧ post r) (f_count, (nI h), a_list, a_there, a_above, a_tags, a_values, a_held, a_twin, a_kinds, a_args, a_sizes, a_isPath, a_rows, a_spare, a_isSet, a_alive, a_edited, a_watchNode, a_before) 1 (dp_c b) := fun b t e => yy_has (j := 1) h8 (by decide) (by decide) hF (nb _ (one b t e))
  unfold wpY_finds
  refine yy_isBare hk ?_
  rcases dp_cases hk with rfl | rfl | rfl | rfl | rfl | rfl | rfl | rfl | rfl | rfl | rfl | rfl | rfl | rfl | rfl | rfl
  · exact br_f (by decide) (h1 ⟨Nat.zero_le _, fun z => absurd z (by decide), fun z => absurd z (by decide)⟩)
  · exact br_t rfl (br_f (by decide) (br_f (by decide) (br_f (by decide) (br_f (by decide) (br_f (by decide) (br_f (by decide) (br_f (by decide) (br_f (by decide) (two true true rfl rfl rfl)))))))))
  · exact br_t rfl (br_f (by decide) (br_f (by decide) (br_f (by decide) (br_f (by decide) (br_f (by decide) (br_f (by decide) (br_f (by decide) (br_f (by decide) (two true true rfl rfl rfl)))))))))
  · exact br_t rfl (br_f (by decide) (br_f (by decide) (br_f (by decide) (br_f (by decide) (br_f (by decide) (br_f (by decide) (br_f (by decide) (br_f (by decide) (two true true rfl rfl rfl)))))))))
  · exact br_t rfl (br_f (by decide) (br_f (by decide) (br_f (by decide) (br_f (by decide) (br_f (by decide) (br_f (by decide) (br_f (by decide) (br_f (by decide) (two true true rfl rfl rfl)))))))))
  · exact br_t rfl (br_f (by decide) (br_f (by decide) (br_f (by decide) (br_f (by decide) (br_t rfl (one' true rfl rfl))))))
  · exact br_t rfl (br_f (by decide) (br_f (by decide) (br_f (by decide) (br_f (by decide) (br_f (by decide) (br_t rfl (one' true rfl rfl)))))))
  · exact br_t rfl (br_f (by decide) (br_f (by decide) (br_f (by decide) (br_f (by decide) (br_f (by decide) (br_f (by decide) (br_t rfl (one' true rfl rfl))))))))
  · exact br_t rfl (br_f (by decide) (br_f (by decide) (br_f (by decide) (br_t rfl (two false true rfl rfl rfl)))))
  · exact br_f (by decide) (h1 ⟨Nat.zero_le _, fun z => absurd z (by decide), fun z => absurd z (by decide)⟩)
  · exact br_f (by decide) (h1 ⟨Nat.zero_le _, fun z => absurd z (by decide), fun z => absurd z (by decide)⟩)
  · exact br_t rfl (br_f (by decide) (br_f (by decide) (br_f (by decide) (br_f (by decide) (br_f (by decide) (br_f (by decide) (br_f (by decide) (br_t rfl (one' true rfl rfl)))))))))
  · exact br_t rfl (br_t rfl (one' false rfl rfl))
  · exact br_t rfl (br_f (by decide) (br_t rfl (two false false rfl rfl rfl)))
  · exact br_t rfl (br_f (by decide) (br_f (by decide) (br_t rfl (two false false rfl rfl rfl))))
  · exact br_t rfl (br_f (by decide) (br_f (by decide) (br_f (by decide) (br_f (by decide) (br_f (by decide) (br_f (by decide) (br_f (by decide) (br_f (by decide) (two true true rfl rfl rfl)))))))))
end YF
section XF
variable {f_size f_present f_height : Int32} {a_order a_levels a_tags a_values a_ranks a_ends a_parents a_run a_kinds a_numbers a_lengths a_entryIsPath a_rows a_members a_wasSet a_watchNode a_selects a_selectedBefore : Nat → Int32}
theorem xx_onTop {k : Nat} (hk : k ≤ 15) {post : Int32 → Prop} (h : post (dp_c (dp_tp k))) : wpX_takesPathOnTop post (nI k) := by
  rcases dp_cases hk with rfl | rfl | rfl | rfl | rfl | rfl | rfl | rfl | rfl | rfl | rfl | rfl | rfl | rfl | rfl | rfl
  · exact br_f (by decide) (br_f (by decide) (br_f (by decide) (br_f (by decide) (h))))
  · exact br_f (by decide) (br_f (by decide) (br_f (by decide) (br_f (by decide) (h))))
  · exact br_f (by decide) (br_f (by decide) (br_f (by decide) (br_f (by decide) (h))))
  · exact br_f (by decide) (br_f (by decide) (br_f (by decide) (br_f (by decide) (h))))
  · exact br_f (by decide) (br_f (by decide) (br_f (by decide) (br_f (by decide) (h))))
  · exact br_f (by decide) (br_f (by decide) (br_f (by decide) (br_f (by decide) (h))))
  · exact br_f (by decide) (br_f (by decide) (br_f (by decide) (br_f (by decide) (h))))
  · exact br_f (by decide) (br_f (by decide) (br_f (by decide) (br_f (by decide) (h))))
  · exact br_t rfl h
  · exact br_f (by decide) (br_f (by decide) (br_f (by decide) (br_f (by decide) (h))))
  · exact br_f (by decide) (br_f (by decide) (br_f (by decide) (br_f (by decide) (h))))
  · exact br_f (by decide) (br_f (by decide) (br_f (by decide) (br_f (by decide) (h))))
  · exact br_f (by decide) (br_t rfl h)
  · exact br_f (by decide) (br_f (by decide) (br_t rfl h))
  · exact br_f (by decide) (br_f (by decide) (br_f (by decide) (br_t rfl h)))
  · exact br_f (by decide) (br_f (by decide) (br_f (by decide) (br_f (by decide) (h))))
theorem xx_below {k : Nat} (hk : k ≤ 15) {post : Int32 → Prop} (h : post (dp_c (dp_bp k))) : wpX_takesPathBelowTop post (nI k) := by
  rcases dp_cases hk with rfl | rfl | rfl | rfl | rfl | rfl | rfl | rfl | rfl | rfl | rfl | rfl | rfl | rfl | rfl | rfl
  · exact br_f (by decide) (br_f (by decide) (h))
  · exact br_f (by decide) (br_f (by decide) (h))
  · exact br_f (by decide) (br_f (by decide) (h))
  · exact br_f (by decide) (br_f (by decide) (h))
  · exact br_f (by decide) (br_f (by decide) (h))
  · exact br_f (by decide) (br_f (by decide) (h))
  · exact br_f (by decide) (br_f (by decide) (h))
  · exact br_f (by decide) (br_f (by decide) (h))
  · exact br_f (by decide) (br_f (by decide) (h))
  · exact br_f (by decide) (br_f (by decide) (h))
  · exact br_f (by decide) (br_f (by decide) (h))
  · exact br_f (by decide) (br_f (by decide) (h))
  · exact br_f (by decide) (br_f (by decide) (h))
  · exact br_t rfl h
  · exact br_f (by decide) (br_t rfl h)
  · exact br_f (by decide) (br_f (by decide) (h))
theorem dp_c_inj {b b' : Bool} (h : dp_c b = dp_c b') : b = b' := by
  revert h
  cases b <;> cases b' <;> decide
theorem dp_tk2 (k : Nat) : dp_tk k ≤ 2 := by
  unfold dp_tk
  split
  · omega
  · split <;> omega
theorem xx_fitsOnTop {k h : Nat} {F : Nat → Bool} (hk : k ≤ 15) (h8 : h ≤ 8) (hF : ∀ e, e < h → a_entryIsPath e = dp_c (F e)) {post : Int32 → Prop} (h1 : dp_ft h F k → post 1) (h0 : ¬ dp_ft h F k → post 0) : wpX_fitsOnTop post (f_size, f_present, (nI h), a_order, a_levels, a_tags, a_values, a_ranks, a_ends, a_parents, a_run, a_kinds, a_numbers, a_lengths, a_entryIsPath, a_rows, a_members, a_wasSet, a_watchNode, a_selects, a_selectedBefore) (nI k) := by
  have t2 := dp_tk2 k
  unfold wpX_fitsOnTop
  refine xx_countTaken hk ?_
  have bl : dp_tk k ≤ h → (0 < dp_tk k → F (h - 1) = dp_tp k) → wX_fitsOnTop_39 post (nI k) (nI (dp_tk k)) f_size f_present (nI h) a_order a_levels a_tags a_values a_ranks a_ends a_parents a_run a_kinds a_numbers a_lengths a_entryIsPath a_rows a_members a_wasSet a_watchNode a_selects a_selectedBefore := fun z1 z2 => by
    rcases Nat.lt_or_ge (dp_tk k) 2 with z | z
    · exact br_t (nI_lt (b := 2) z (by decide)) (h1 ⟨z1, z2, fun q => absurd q (by omega)⟩)
    · refine br_f (nI_nlt (b := 2) z (by omega)) ?_
      rw [dp_s2 (by omega)]
      refine ⟨dp_v8 (by omega), xx_below hk ?_⟩
      rw [nI_clamp (show h - 2 < 2 ^ 31 by omega), hF _ (by omega)]
      by_cases y : F (h - 2) = dp_bp k
      · exact br_t (by rw [y]) (h1 ⟨z1, z2, fun _ => y⟩)
      · exact br_f (fun w => y (dp_c_inj w)) (h0 (fun q => y (q.2.2 (by omega))))
  by_cases z : dp_tk k ≤ h
  · refine br_t (nI_le z (by omega)) ?_
    rcases Nat.eq_zero_or_pos (dp_tk k) with y | y
    · refine br_t (nI_le (b := 0) (by omega) (by decide)) (bl z (fun q => by omega))
    · refine br_f (nI_nle y (by omega)) ?_
      rw [dp_s1 (by omega)]
      refine ⟨dp_v8 (by omega), xx_onTop hk ?_⟩
      rw [nI_clamp (show h - 1 < 2 ^ 31 by omega), hF _ (by omega)]
      by_cases x : F (h - 1) = dp_tp k
      · exact br_t (by rw [x]) (bl z (fun _ => x))
      · exact br_f (fun w => x (dp_c_inj w)) (h0 (fun q => x (q.2.1 y)))
  · exact br_f (nI_ge (by omega) (by omega)) (h0 (fun q => z q.1))
end XF
end
section
/-! token -/
theorem dp_nar (b : Bool) : vp_nar .boolean (dp_c b) = dp_c b := by cases b <;> rfl
section TP
variable {K N : Nat → Nat} {A kx ax lx isp : Nat → Int32} {h : Int32} {q : Nat} {a : Int32}
/-- the programs with one token more on the query -/
theorem dp_Pg_tok (G : dp_Pg K N A kx ax lx) (hn : N 0 < 24) (hok : dp_ok q a) (hft : dp_ft (dp_hq K N 0) (dp_Fq K N 0) q) (h8 : dp_hq K N 0 - dp_tk q + 1 ≤ 8) : dp_Pg (dp_nu K (N 0) q) (dp_nu N 0 (N 0 + 1)) (upd A (N 0) a) (upd kx (72 + N 0) (nI q)) (upd ax (72 + N 0) a) (upd lx 3 (nI (N 0 + 1))) := by
  intro w hw
  obtain ⟨g1, g2, g3, g4⟩ := G w hw
  by_cases z : w = 0
  · subst z
    have kk : ∀ i, i < N 0 → dp_kn K 0 i = dp_kn (dp_nu K (N 0) q) 0 i := fun i hi => by
      show K (24 * 0 + i) = dp_nu K (N 0) q (24 * 0 + i)
      rw [dp_nu_n (by omega)]
    have aa : ∀ i, i < N 0 → dp_am A 0 i = dp_am (upd A (N 0) a) 0 i := fun i hi => by
      show A (24 * 0 + i) = upd A (N 0) a (24 * 0 + i)
      rw [pk_un (by omega)]
    have kl : dp_kn (dp_nu K (N 0) q) 0 (N 0) = q := by
      show dp_nu K (N 0) q (24 * 0 + N 0) = q
      rw [show 24 * 0 + N 0 = N 0 from by omega, dp_nu_s]
    have al : dp_am (upd A (N 0) a) 0 (N 0) = a := by
      show upd A (N 0) a (24 * 0 + N 0) = a
      rw [show 24 * 0 + N 0 = N 0 from by omega, pk_us]
    have ty : dp_ty (dp_kn (dp_nu K (N 0) q) 0) (N 0) = dp_ty (dp_kn K 0) (N 0) := (dp_ty_congr kk).symm
    rw [dp_nu_s]
    refine ⟨by omega, fun i hi => ?_, by rw [dp_px_0]; exact pk_us, fun i hi => ?_⟩
    · rcases Nat.lt_or_ge i (N 0) with y | y
      · exact (dp_WT_congr kk aa g2) i y
      · obtain rfl : i = N 0 := by omega
        refine ⟨by rw [kl, al]; exact hok, by rw [kl, ty]; exact hft, ?_⟩
        rw [dp_ty_h, kl, ty]; exact h8
    · rw [dp_px_0]
      rcases Nat.lt_or_ge i (N 0) with y | y
      · have := g4 i y
        rw [dp_px_0] at this
        rw [pk_un (by omega), pk_un (by omega), dp_nu_n (by omega), pk_un (by omega)]
        exact this
      · obtain rfl : i = N 0 := by omega
        rw [show 24 * 3 + N 0 = 72 + N 0 from by omega, show 24 * 0 + N 0 = N 0 from by omega, pk_us, pk_us, dp_nu_s, pk_us]
        exact ⟨rfl, rfl⟩
  · have px : dp_px w = w - 1 := if_neg z
    have kk : ∀ i, i < N w → K (24 * w + i) = dp_nu K (N 0) q (24 * w + i) := fun i hi => (dp_nu_n (by omega)).symm
    have aa : ∀ i, i < N w → A (24 * w + i) = upd A (N 0) a (24 * w + i) := fun i hi => (pk_un (by omega)).symm
    rw [dp_nu_n z]
    refine ⟨g1, dp_WT_congr kk aa g2, by rw [pk_un (by omega)]; exact g3, fun i hi => ?_⟩
    rw [← kk i hi, ← aa i hi, pk_un (by omega), pk_un (by omega)]
    exact g4 i hi
theorem dp_Qs_tok (Q : dp_Qs K N h isp) : dp_hq (dp_nu K (N 0) q) (dp_nu N 0 (N 0 + 1)) 0 = dp_hq K N 0 - dp_tk q + 1 ∧ dp_Qs (dp_nu K (N 0) q) (dp_nu N 0 (N 0 + 1)) (nI (dp_hq K N 0 - dp_tk q + 1)) (upd isp (dp_hq K N 0 - dp_tk q) (dp_c (dp_gp q))) := by
  have kk : ∀ i, i < N 0 → dp_kn K 0 i = dp_kn (dp_nu K (N 0) q) 0 i := fun i hi => by
    show K (24 * 0 + i) = dp_nu K (N 0) q (24 * 0 + i)
    rw [dp_nu_n (by omega)]
  have kl : dp_kn (dp_nu K (N 0) q) 0 (N 0) = q := by
    show dp_nu K (N 0) q (24 * 0 + N 0) = q
    rw [show 24 * 0 + N 0 = N 0 from by omega, dp_nu_s]
  have ty : dp_ty (dp_kn (dp_nu K (N 0) q) 0) (N 0) = dp_ty (dp_kn K 0) (N 0) := (dp_ty_congr kk).symm
  have e1 : dp_hq (dp_nu K (N 0) q) (dp_nu N 0 (N 0 + 1)) 0 = dp_hq K N 0 - dp_tk q + 1 := by
    unfold dp_hq
    rw [dp_nu_s, dp_ty_h, kl, ty]
  refine ⟨e1, by rw [e1], fun e he => ?_⟩
  rw [e1] at he
  have hh : (dp_ty (dp_kn (dp_nu K (N 0) q) 0) (N 0)).1 - dp_tk (dp_kn (dp_nu K (N 0) q) 0 (N 0)) = dp_hq K N 0 - dp_tk q := by rw [kl, ty]; rfl
  unfold dp_Fq
  rw [dp_nu_s]
  by_cases z : e = dp_hq K N 0 - dp_tk q
  · subst z
    rw [pk_us, dp_ty_at hh, kl]
  · rw [pk_un z, dp_ty_ne hh z, ty]
    exact Q.2 e (by omega)
end TP
theorem i_vc_token {k : Nat} {u : SX} {v : SY} (I : i_Rel k u v) (hk : k + 4 ≤ 2048) (v1 : Int32) (v2 : Int32) : wpX_token (fun r u' => wpY_token (fun r' v' => r' = r ∧ i_Rel (k + 4) u' v') v v1 v2) u v1 v2 := by
  obtain ⟨c, o, lv, pr, tg, vs, K, N, A, S, ranks, ends, parents, kx, ax, lx, isp, above, al, ed, xw, xs, xb, yw, yb, run, rows, mem, held, twin, yp, yr, sp, h, hy, rfl, rfl, R⟩ := I
  have R' := R
  obtain ⟨T, hv, X, B, G, Q, W⟩ := R'
  have ho := T.1.2.2.1
  have hc := T.1.1
  obtain ⟨q1, q2⟩ := Q
  subst q1
  have h8 : dp_hq K N 0 ≤ 8 := dp_h8 (G 0 (by decide)).2.1 (Nat.le_refl _)
  have g1 := (G 0 (by decide)).1
  have l3 : lx 3 = nI (N 0) := (G 0 (by decide)).2.2.1
  by_cases h0 : v1 < 0
  · exact br_t h0 (br_t h0 ⟨rfl, dp_rel R⟩)
  by_cases h15 : 15 < v1
  · exact br_f h0 (br_t h15 (br_f h0 (br_t h15 ⟨rfl, dp_rel R⟩)))
  obtain ⟨q, hq, rfl⟩ := nI_of h0
  have q15 : q ≤ 15 := by
    rcases Nat.lt_or_ge 15 q with z | z
    · exact absurd (nI_lt (a := 15) z hq) h15
    · exact z
  have t2 := dp_tk2 q
  cases nb : dp_nb q v2
  · exact br_f h0 (br_f h15 (xx_isNumberFor q15 (by rw [nb]; exact br_t rfl (br_f h0 (br_f h15 (yy_fits q15 (by rw [nb]; exact br_t rfl ⟨rfl, dp_rel R⟩)))))))
  have ok := dp_nb_ok q15 nb
  refine br_f h0 (br_f h15 (xx_isNumberFor q15 ?_))
  rw [nb]
  refine br_f (by decide) ?_
  rw [l3]
  by_cases full : N 0 < 24
  · refine br_t (nI_lt (b := 24) full (by decide)) ?_
    have YW : ∀ (r : Int32) (u' : SX), (∀ R2 P2 Z2, dp_YR c o (fun r => lv (o r)) pr tg vs (dp_kn K 0) (dp_am A 0) (N 0) R2 P2 → wpY_finds (fun r_47 => (r_47 = 0 → (-3) = r ∧ i_Rel (k + 4) u' ((nI c), (nI (dp_hq K N 0)), (fun j => nI (o j)), (dp_th pr), above, tg, vs, held, twin, (fun j => nI (K j)), A, (fun j => nI (N j)), P2, R2, Z2, S, al, ed, yw, yb)) ∧ (¬ r_47 = 0 → wpY_isBare (fun r_69 => (r_69 = 0 → wY_token_71 (fun r' v' => r' = r ∧ i_Rel (k + 4) u' v') (nI q) v2 (nI c) (nI (dp_hq K N 0)) (fun j => nI (o j)) (dp_th pr) above tg vs held twin (fun j => nI (K j)) A (fun j => nI (N j)) P2 R2 Z2 S al ed yw yb) ∧ (¬ r_69 = 0 → (nI (dp_hq K N 0) = 8 → (-4) = r ∧ i_Rel (k + 4) u' ((nI c), (nI (dp_hq K N 0)), (fun j => nI (o j)), (dp_th pr), above, tg, vs, held, twin, (fun j => nI (K j)), A, (fun j => nI (N j)), P2, R2, Z2, S, al, ed, yw, yb)) ∧ (¬ nI (dp_hq K N 0) = 8 → wY_token_71 (fun r' v' => r' = r ∧ i_Rel (k + 4) u' v') (nI q) v2 (nI c) (nI (dp_hq K N 0)) (fun j => nI (o j)) (dp_th pr) above tg vs held twin (fun j => nI (K j)) A (fun j => nI (N j)) P2 R2 Z2 S al ed yw yb))) ((nI c), (nI (dp_hq K N 0)), (fun j => nI (o j)), (dp_th pr), above, tg, vs, held, twin, (fun j => nI (K j)), A, (fun j => nI (N j)), P2, R2, Z2, S, al, ed, yw, yb) (nI q))) ((nI c), (nI (dp_hq K N 0)), (fun j => nI (o j)), (dp_th pr), above, tg, vs, held, twin, (fun j => nI (K j)), A, (fun j => nI (N j)), P2, R2, Z2, S, al, ed, yw, yb) (nI q)) → wpY_token (fun r' v' => r' = r ∧ i_Rel (k + 4) u' v') ((nI c), hy, (fun j => nI (o j)), (dp_th pr), above, tg, vs, held, twin, (fun j => nI (K j)), A, (fun j => nI (N j)), yp, yr, sp, S, al, ed, yw, yb) (nI q) v2 := fun r u' H => by
      refine br_f h0 (br_f h15 (yy_fits q15 ?_))
      rw [nb]
      refine br_f (by decide) (br_f (fun w => ?_) (yy_workP T B G (w := 0) (by decide) (fun R2 P2 Z2 HY => H R2 P2 Z2 HY)))
      have := dp_inj (a := N 0) (b := 24) (by omega) (by decide) w
      omega
    refine xx_fitsOnTop q15 h8 q2 (fun ft => ?_) (fun ft => br_t rfl (YW _ _ (fun R2 P2 Z2 HY => yy_finds (F := dp_Fq K N 0) q15 h8 (fun e he => (HY e he).1) (fun z => absurd z ft) (fun _ => br_t rfl ⟨rfl, dp_rel R⟩))))
    refine br_f (by decide) (xx_countTaken q15 (nm_r (pk_sub ft.1) ?_))
    by_cases room : dp_hq K N 0 - dp_tk q < 8
    · obtain ⟨Q1, Q2⟩ := dp_Qs_tok (q := q) (show dp_Qs K N (nI (dp_hq K N 0)) isp from ⟨rfl, q2⟩)
      have G' := dp_Pg_tok G full ok ft (by omega)
      refine br_t (nI_lt (b := 8) room (by decide)) (nm_r (e' := nI (72 + N 0)) (nI_add 72 (N 0)) ?_)
      have v96 : vp_in (nI (72 + N 0)) 96 := vp_in_nI (by omega) (by decide)
      have cl : (nI (72 + N 0)).toNatClampNeg = 72 + N 0 := nI_clamp (by omega)
      refine ⟨v96, ?_⟩
      rw [cl]
      refine nm_e ⟨v96, nm_e (nm_r (e' := upd lx 3 (nI (N 0 + 1))) (by rw [nI_1]) (xx_givesPath q15 ?_))⟩
      refine ⟨dp_v8 room, ?_⟩
      rw [nI_clamp (show dp_hq K N 0 - dp_tk q < 2 ^ 31 by omega), dp_nar]
      refine nm_e (nm_r (nI_1 _) (YW _ _ (fun R2 P2 Z2 HY => yy_finds (F := dp_Fq K N 0) q15 h8 (fun e he => (HY e he).1) (fun _ => br_f (by decide) (yy_isBare q15 ?_)) (fun z => absurd ft z))))
      have fin : wY_token_71 (fun r' v' => r' = nI (dp_hq K N 0 - dp_tk q + 1) ∧ i_Rel (k + 4) ((nI c), pr, (nI (dp_hq K N 0 - dp_tk q + 1)), (fun j => nI (o j)), (fun j => nI (lv j)), tg, vs, ranks, ends, parents, run, (upd kx (72 + N 0) (nI q)), (upd ax (72 + N 0) v2), (upd lx 3 (nI (N 0 + 1))), (upd isp (dp_hq K N 0 - dp_tk q) (dp_c (dp_gp q))), rows, mem, S, xw, xs, xb) v') (nI q) v2 (nI c) (nI (dp_hq K N 0)) (fun j => nI (o j)) (dp_th pr) above tg vs held twin (fun j => nI (K j)) A (fun j => nI (N j)) P2 R2 Z2 S al ed yw yb := by
        have w96 : vp_in (nI (N 0)) 96 := vp_in_nI (by omega) (by decide)
        have wl : (nI (N 0)).toNatClampNeg = N 0 := nI_clamp (by omega)
        refine ⟨w96, ?_⟩
        rw [wl]
        refine nm_r dp_upd ⟨w96, ?_⟩
        refine nm_e (nm_r (e' := fun j => nI (dp_nu N 0 (N 0 + 1) j)) (show upd (fun j => nI (N j)) 0 (nI (N 0) + 1) = _ from by rw [nI_1]; exact dp_upd) (yy_workP T B G' (w := 0) (by decide) (fun R3 P3 Z3 H3 => ⟨by rw [Q1], dp_rel ⟨T, hv, X, B, G', Q2, fun s hs => dp_Ws_prog (dp_nu_n (by omega)) (fun i hi => (dp_nu_n (by omega)).symm) (fun i hi => (pk_un (by omega)).symm) (W s hs)⟩⟩)))
      by_cases tz : dp_tk q = 0
      · rw [dp_c_t (decide_eq_true tz)]
        refine br_f (by decide) (br_f (fun w => ?_) fin)
        have := dp_inj (a := dp_hq K N 0) (b := 8) (by omega) (by decide) w
        omega
      · rw [dp_c_f (decide_eq_false tz)]
        exact br_t rfl fin
    · have tz : dp_tk q = 0 := by omega
      refine br_f (nI_nlt (b := 8) (by omega) (by omega)) (YW _ _ (fun R2 P2 Z2 HY => yy_finds (F := dp_Fq K N 0) q15 h8 (fun e he => (HY e he).1) (fun _ => br_f (by decide) (yy_isBare q15 ?_)) (fun z => absurd ft z)))
      rw [dp_c_t (decide_eq_true tz)]
      refine br_f (by decide) (br_t ?_ ⟨rfl, dp_rel R⟩)
      rw [show dp_hq K N 0 = 8 from by omega]; rfl
  · refine br_f (nI_nlt (b := 24) (by omega) (by omega)) (br_f h0 (br_f h15 (yy_fits q15 ?_)))
    rw [nb]
    refine br_f (by decide) (br_t ?_ ⟨rfl, dp_rel R⟩)
    show nI (N 0) = 24
    rw [show N 0 = 24 from by omega]; rfl
end
section
/-! watch -/
def dp_gl (f : Nat → Int32) (t k : Nat) (g : Nat → Int32) : Nat → Int32 := fun j => if t ≤ j ∧ j < t + k then g (j - t) else f j
theorem dp_gl_0 (f : Nat → Int32) (t : Nat) (g : Nat → Int32) : dp_gl f t 0 g = f := by
  funext j
  unfold dp_gl
  rw [if_neg (by omega)]
theorem dp_gl_s {f g : Nat → Int32} {t i : Nat} : upd (dp_gl f t i g) (t + i) (g i) = dp_gl f t (i + 1) g := by
  funext j
  show (if j = t + i then g i else dp_gl f t i g j) = _
  unfold dp_gl
  by_cases z : j = t + i
  · rw [if_pos z, if_pos (by omega), show j - t = i from by omega]
  · rw [if_neg z]
    by_cases y : t ≤ j ∧ j < t + i
    · rw [if_pos y, if_pos (by omega)]
    · rw [if_neg y, if_neg (by omega)]
theorem dp_gl_in {f g : Nat → Int32} {t k i : Nat} (h : i < k) : dp_gl f t k g (t + i) = g i := by
  unfold dp_gl
  rw [if_pos (by omega), show t + i - t = i from by omega]
theorem dp_gl_out {f g : Nat → Int32} {t k j : Nat} (h : j < t ∨ t + k ≤ j) : dp_gl f t k g j = f j := by
  unfold dp_gl
  rw [if_neg (by omega)]
theorem dp_fl_mid {f g : Nat → Nat} {t k i : Nat} (h : i < k) : dp_fl f t k g (t + i) = g i := by
  unfold dp_fl
  rw [if_pos (by omega), show t + i - t = i from by omega]
theorem dp_fl_out {f g : Nat → Nat} {t k j : Nat} (h : j < t ∨ t + k ≤ j) : dp_fl f t k g j = f j := by
  unfold dp_fl
  rw [if_neg (by omega)]
theorem dp_v96 {n : Nat} (h : n < 96) : vp_in (nI n) 96 := vp_in_nI h (by decide)
theorem dp_cl96 {n : Nat} (h : n < 96) : (nI n).toNatClampNeg = n := nI_clamp (by omega)
theorem dp_p24 (a : Nat) : nI a + 24 = nI (a + 24) := nI_add a 24
section KX
variable {f_size f_present f_height : Int32} {a_order a_levels a_tags a_values a_ranks a_ends a_parents a_run a_kinds a_numbers a_lengths a_entryIsPath a_rows a_members a_wasSet a_watchNode a_selects a_selectedBefore : Nat → Int32}
theorem xx_keep_q {s n : Nat} (hs : s < 3) (hn : n ≤ 24) (hl : a_lengths 3 = nI n) {post : SX → Prop} (h : post (f_size, f_present, f_height, a_order, a_levels, a_tags, a_values, a_ranks, a_ends, a_parents, a_run, (dp_gl a_kinds (24 * s) n (fun i => a_kinds (72 + i))), (dp_gl a_numbers (24 * s) n (fun i => a_numbers (72 + i))), (upd a_lengths s (nI n)), a_entryIsPath, a_rows, a_members, a_wasSet, a_watchNode, a_selects, a_selectedBefore)) : ∀ d i, i + d = n → wX_keepQuery_11 post (nI s) 72 (nI (24 * s)) f_size f_present f_height (d + 1) (nI i) a_order a_levels a_tags a_values a_ranks a_ends a_parents a_run (dp_gl a_kinds (24 * s) i (fun i => a_kinds (72 + i))) (dp_gl a_numbers (24 * s) i (fun i => a_numbers (72 + i))) a_lengths a_entryIsPath a_rows a_members a_wasSet a_watchNode a_selects a_selectedBefore := by
  intro d
  induction d with
  | zero =>
    intro i hi
    obtain rfl : i = n := by omega
    rw [show wX_keepQuery_11 = wX_keepQuery_11 from rfl]
    refine br_t (by rw [hl]; exact nI_le (Nat.le_refl _) (by omega)) ⟨vp_in_nI (by omega) (by decide), ?_⟩
    rw [nI_clamp (show s < 2 ^ 31 by omega), hl]
    exact nm_e h
  | succ d ih =>
    intro i hi
    have e7 : (72 : Int32) + nI i = nI (72 + i) := nI_add 72 i
    have r1 : dp_gl a_kinds (24 * s) i (fun i => a_kinds (72 + i)) (72 + i) = a_kinds (72 + i) := dp_gl_out (by omega)
    have r2 : dp_gl a_numbers (24 * s) i (fun i => a_numbers (72 + i)) (72 + i) = a_numbers (72 + i) := dp_gl_out (by omega)
    refine br_f (by rw [hl]; exact nI_ge (by omega) (by omega)) ?_
    simp only [e7, nI_add, dp_cl96 (show 72 + i < 96 by omega), dp_cl96 (show 24 * s + i < 96 by omega), r1, r2]
    exact ⟨dp_v96 (by omega), dp_v96 (by omega), nm_r (dp_gl_s (g := fun i => a_kinds (72 + i))) ⟨dp_v96 (by omega), dp_v96 (by omega), nm_r (dp_gl_s (g := fun i => a_numbers (72 + i))) (nm_r (nI_1 i) (ih (i + 1) (by omega)))⟩⟩
theorem xx_keepQuery {s n : Nat} (hs : s < 3) (hn : n ≤ 24) (hl : a_lengths 3 = nI n) {post : SX → Prop} (h : post (f_size, f_present, f_height, a_order, a_levels, a_tags, a_values, a_ranks, a_ends, a_parents, a_run, (dp_gl a_kinds (24 * s) n (fun i => a_kinds (72 + i))), (dp_gl a_numbers (24 * s) n (fun i => a_numbers (72 + i))), (upd a_lengths s (nI n)), a_entryIsPath, a_rows, a_members, a_wasSet, a_watchNode, a_selects, a_selectedBefore)) : wpX_keepQuery post (f_size, f_present, f_height, a_order, a_levels, a_tags, a_values, a_ranks, a_ends, a_parents, a_run, a_kinds, a_numbers, a_lengths, a_entryIsPath, a_rows, a_members, a_wasSet, a_watchNode, a_selects, a_selectedBefore) (nI s) := by
  refine nm_r (dp_m24 s) ⟨n + 1, ?_⟩
  have := xx_keep_q hs hn hl h n 0 (Nat.zero_add n)
  rw [dp_gl_0, dp_gl_0] at this
  exact this
end KX
section KY
variable {f_count f_height : Int32} {a_list a_there a_above a_tags a_values a_held a_twin a_kinds a_args a_sizes a_isPath a_rows a_spare a_isSet a_alive a_edited a_watchNode a_before : Nat → Int32} {K N : Nat → Nat} {A : Nat → Int32}
theorem yy_keep_q {s n : Nat} {nd : Int32} (hs : s < 3) (hn : n ≤ 24) (hl : a_sizes 0 = nI n) {post : Int32 → SY → Prop} (h : wY_watch_45 post (nI s) nd f_count f_height 1 (nI n) a_list a_there a_above a_tags a_values a_held a_twin (fun j => nI (dp_fl K (24 * s + 24) n K j)) (dp_gl A (24 * s + 24) n A) a_sizes a_isPath a_rows a_spare a_isSet a_alive a_edited a_watchNode a_before) : ∀ d i, i + d = n → wY_watch_45 post (nI s) nd f_count f_height (d + 1) (nI i) a_list a_there a_above a_tags a_values a_held a_twin (fun j => nI (dp_fl K (24 * s + 24) i K j)) (dp_gl A (24 * s + 24) i A) a_sizes a_isPath a_rows a_spare a_isSet a_alive a_edited a_watchNode a_before := by
  intro d
  induction d with
  | zero =>
    intro i hi
    obtain rfl : i = n := by omega
    exact h
  | succ d ih =>
    intro i hi
    have r1 : dp_fl K (24 * s + 24) i K i = K i := dp_fl_out (by omega)
    have r2 : dp_gl A (24 * s + 24) i A i = A i := dp_gl_out (by omega)
    refine br_f (by rw [hl]; exact nI_ge (by omega) (by omega)) ?_
    simp only [dp_24m, dp_p24, nI_add, dp_cl96 (show i < 96 by omega), dp_cl96 (show 24 * s + 24 + i < 96 by omega), r1, r2]
    refine ⟨dp_v96 (by omega), dp_v96 (by omega), nm_r dp_upd ⟨dp_v96 (by omega), dp_v96 (by omega), nm_r dp_gl_s (nm_r (nI_1 i) ?_)⟩⟩
    rw [dp_fl_s]
    exact ih (i + 1) (by omega)
end KY
section KP
variable {K N : Nat → Nat} {A kx ax lx : Nat → Int32} {s : Nat}
theorem dp_Pg_keep (G : dp_Pg K N A kx ax lx) (hs : s < 3) : dp_Pg (dp_fl K (24 * s + 24) (N 0) K) (dp_nu N (s + 1) (N 0)) (dp_gl A (24 * s + 24) (N 0) A) (dp_gl kx (24 * s) (N 0) (fun i => kx (72 + i))) (dp_gl ax (24 * s) (N 0) (fun i => ax (72 + i))) (upd lx s (nI (N 0))) := by
  have n24 := (G 0 (by decide)).1
  intro w hw
  obtain ⟨g1, g2, g3, g4⟩ := G w hw
  by_cases z : w = s + 1
  · subst z
    obtain ⟨f1, f2, f3, f4⟩ := G 0 (by decide)
    have kk : ∀ i, i < N 0 → dp_kn K 0 i = dp_kn (dp_fl K (24 * s + 24) (N 0) K) (s + 1) i := fun i hi => by
      show K (24 * 0 + i) = dp_fl K (24 * s + 24) (N 0) K (24 * (s + 1) + i)
      rw [show 24 * (s + 1) + i = 24 * s + 24 + i from by omega, dp_fl_mid hi, show 24 * 0 + i = i from by omega]
    have aa : ∀ i, i < N 0 → dp_am A 0 i = dp_am (dp_gl A (24 * s + 24) (N 0) A) (s + 1) i := fun i hi => by
      show A (24 * 0 + i) = dp_gl A (24 * s + 24) (N 0) A (24 * (s + 1) + i)
      rw [show 24 * (s + 1) + i = 24 * s + 24 + i from by omega, dp_gl_in hi, show 24 * 0 + i = i from by omega]
    rw [dp_nu_s, dp_px_s]
    refine ⟨f1, dp_WT_congr kk aa f2, pk_us, fun i hi => ?_⟩
    have q := f4 i hi
    rw [dp_px_0] at q
    rw [dp_gl_in hi, dp_gl_in hi]
    exact ⟨q.1.trans (congrArg nI (kk i hi)), q.2.trans (aa i hi)⟩
  · rw [dp_nu_n z]
    have ks : ∀ i, i < N w → K (24 * w + i) = dp_fl K (24 * s + 24) (N 0) K (24 * w + i) := fun i hi => (dp_fl_out (by omega)).symm
    have as : ∀ i, i < N w → A (24 * w + i) = dp_gl A (24 * s + 24) (N 0) A (24 * w + i) := fun i hi => (dp_gl_out (by omega)).symm
    have px : dp_px w ≠ s ∧ dp_px w < 4 := by
      unfold dp_px
      split <;> omega
    refine ⟨g1, dp_WT_congr ks as g2, by rw [pk_un px.1]; exact g3, fun i hi => ?_⟩
    rw [← ks i hi, ← as i hi, dp_gl_out (by omega), dp_gl_out (by omega)]
    exact g4 i hi
end KP
end
section
/-! watch: the two sides together -/
theorem i_vc_watch {k : Nat} {u : SX} {v : SY} (I : i_Rel k u v) (hk : k + 4 ≤ 2048) (v1 : Int32) (v2 : Int32) : wpX_watch (fun r u' => wpY_watch (fun r' v' => r' = r ∧ i_Rel (k + 4) u' v') v v1 v2) u v1 v2 := by
  obtain ⟨c, o, lv, pr, tg, vs, K, N, A, S, ranks, ends, parents, kx, ax, lx, isp, above, al, ed, xw, xs, xb, yw, yb, run, rows, mem, held, twin, yp, yr, sp, h, hy, rfl, rfl, R⟩ := I
  have R' := R
  obtain ⟨T, hv, X, B, G, Q, W⟩ := R'
  have ho := T.1.2.2.1
  have hc := T.1.1
  unfold wpX_watch
  rcases dp_slot v1 with e | ⟨s, hs, rfl⟩
  · have YN : wpY_watch (fun r' v' => r' = -1 ∧ i_Rel (k + 4) ((nI c), pr, h, (fun j => nI (o j)), (fun j => nI (lv j)), tg, vs, ranks, ends, parents, run, kx, ax, lx, isp, rows, mem, S, xw, xs, xb) v') ((nI c), hy, (fun j => nI (o j)), (dp_th pr), above, tg, vs, held, twin, (fun j => nI (K j)), A, (fun j => nI (N j)), yp, yr, sp, S, al, ed, yw, yb) v1 v2 := by
      unfold wpY_watch
      exact yy_slotNo e (br_t rfl ⟨rfl, dp_rel R⟩)
    exact xx_slotNo e (br_t rfl YN)
  rcases dp_node T v2 with e | ⟨r, hr, rfl⟩
  · have YN : wpY_watch (fun r' v' => r' = -2 ∧ i_Rel (k + 4) ((nI c), pr, h, (fun j => nI (o j)), (fun j => nI (lv j)), tg, vs, ranks, ends, parents, run, kx, ax, lx, isp, rows, mem, S, xw, xs, xb) v') ((nI c), hy, (fun j => nI (o j)), (dp_th pr), above, tg, vs, held, twin, (fun j => nI (K j)), A, (fun j => nI (N j)), yp, yr, sp, S, al, ed, yw, yb) (nI s) v2 := by
      unfold wpY_watch
      exact yy_slotYes hs (br_f (by decide) (yy_no e (br_t rfl ⟨rfl, dp_rel R⟩)))
    exact xx_slotYes hs (br_f (by decide) (xx_no e (br_t rfl YN)))
  refine xx_slotYes hs (br_f (by decide) (xx_yes T hr (br_f (by decide) (xx_topIsPath G Q ?_))))
  have h8 : dp_hq K N 0 ≤ 8 := dp_h8 (G 0 (by decide)).2.1 (Nat.le_refl _)
  have n24 := (G 0 (by decide)).1
  have l3 : lx 3 = nI (N 0) := (G 0 (by decide)).2.2.1
  have cl : (nI s).toNatClampNeg = s := nI_clamp (by omega)
  have v3 := dp_v3 hs
  by_cases P : 0 < dp_hq K N 0 ∧ dp_Fq K N 0 (dp_hq K N 0 - 1) = true
  · rw [dp_c_t (decide_eq_true P)]
    have hl : dp_hq K N 0 - 1 < dp_hq K N 0 := by omega
    have G' := dp_Pg_keep G hs
    obtain ⟨a1, a2, a3, -⟩ := dp_prog (c := c) (o := o) (l := fun r => lv (o r)) (pr := pr) (tg := tg) (vs := vs) (K := K) (N := N) (A := A) (w := 0) (K' := dp_fl K (24 * s + 24) (N 0) K) (N' := dp_nu N (s + 1) (N 0)) (A' := dp_gl A (24 * s + 24) (N 0) A) (w' := 0) (dp_nu_n (by omega)) (fun i hi => (dp_fl_out (by omega)).symm) (fun i hi => (dp_gl_out (by omega)).symm)
    obtain ⟨b1, b2, b3, -⟩ := dp_prog (c := c) (o := o) (l := fun r => lv (o r)) (pr := pr) (tg := tg) (vs := vs) (K := K) (N := N) (A := A) (w := 0) (K' := dp_fl K (24 * s + 24) (N 0) K) (N' := dp_nu N (s + 1) (N 0)) (A' := dp_gl A (24 * s + 24) (N 0) A) (w' := s + 1) dp_nu_s (fun i hi => by rw [show 24 * (s + 1) + i = 24 * s + 24 + i from by omega, dp_fl_mid hi, show 24 * 0 + i = i from by omega]) (fun i hi => by rw [show 24 * (s + 1) + i = 24 * s + 24 + i from by omega, dp_gl_in hi, show 24 * 0 + i = i from by omega])
    generalize hval : dp_sv c o (fun r => lv (o r)) pr tg vs K N A 0 (o r) = val
    refine br_f (by decide) (xx_keepQuery hs n24 l3 ⟨v3, ?_⟩)
    have N1 : vp_nar .boolean 1 = 1 := rfl
    refine nm_r (e' := upd S s 1) (by rw [cl, N1]) ⟨v3, nm_r (e' := upd xw s (nI (o r))) (by rw [cl]) (xx_rowOfTop T X hv G' (by rw [a1]; exact P.1) (by rw [a1, a2]; exact P.2) (ho r) (fun R1 m1 => ?_))⟩
    rw [a3, hval]
    refine ⟨v3, nm_r (e' := upd xs s val) (by rw [cl]) ⟨v3, v3, nm_r (e' := upd xb s val) (by rw [cl, pk_us]) ⟨v3, ?_⟩⟩⟩
    rw [cl, pk_us]
    refine xx_countBits ?_
    have Rn : dp_Re c o lv pr tg vs (dp_fl K (24 * s + 24) (N 0) K) (dp_nu N (s + 1) (N 0)) (dp_gl A (24 * s + 24) (N 0) A) (upd S s 1) ranks ends parents (dp_gl kx (24 * s) (N 0) (fun i => kx (72 + i))) (dp_gl ax (24 * s) (N 0) (fun i => ax (72 + i))) (upd lx s (nI (N 0))) isp above (upd al s 1) (upd ed s 0) (upd xw s (nI (o r))) (upd xs s val) (upd xb s val) (upd yw s (nI (o r))) yb h := by
      refine ⟨T, hv, X, B, G', ⟨by rw [a1]; exact Q.1, fun e he => by rw [a2]; exact Q.2 e (by rw [a1] at he; exact he)⟩, fun t ht => ?_⟩
      by_cases z : t = s
      · subst z
        rw [pk_us, pk_us, pk_us, pk_us, pk_us, pk_us, pk_us]
        refine ⟨Or.inr rfl, Or.inl rfl, Or.inr ⟨rfl, rfl, by rw [b1]; exact P.1, by rw [b1, b2]; exact P.2, o r, (T.2.1 _).mpr ⟨r, hr, rfl⟩, rfl, rfl, by rw [b3, hval]⟩, fun q => absurd q.2 (by decide), fun _ => rfl⟩
      · rw [pk_un z, pk_un z, pk_un z, pk_un z, pk_un z, pk_un z, pk_un z]
        have nt := (G (t + 1) (by omega)).1
        exact dp_Ws_prog (dp_nu_n (by omega)) (fun i hi => (dp_fl_out (by omega)).symm) (fun i hi => (dp_gl_out (by omega)).symm) (W t ht)
    unfold wpY_watch
    refine yy_slotYes hs (br_f (by decide) (yy_yes T hr (br_f (by decide) (yy_topIs (b := true) T B G (fun R2 P2 Z2 H => ?_)))))
    rw [dp_c_t (decide_eq_true P)]
    have e1 : nI s + 1 = nI (s + 1) := nI_1 s
    refine br_f (by decide) ?_
    rw [e1]
    refine ⟨vp_in_nI (by omega) (by decide), ?_⟩
    rw [nI_clamp (show s + 1 < 2 ^ 31 by omega)]
    refine nm_r dp_upd ⟨N 0 + 1, ?_⟩
    have sz : (fun j => nI (dp_nu N (s + 1) (N 0) j)) 0 = nI (N 0) := congrArg nI (dp_nu_n (by omega))
    have kp := @yy_keep_q (f_count := nI c) (f_height := nI (dp_hq K N 0)) (a_list := fun j => nI (o j)) (a_there := dp_th pr) (a_above := above) (a_tags := tg) (a_values := vs) (a_held := held) (a_twin := twin) (a_sizes := fun j => nI (dp_nu N (s + 1) (N 0) j)) (a_isPath := P2) (a_rows := R2) (a_spare := Z2) (a_isSet := S) (a_alive := al) (a_edited := ed) (a_watchNode := yw) (a_before := yb) (K := K) (A := A) (s := s) (n := N 0) (nd := nI (o r)) hs n24 sz (post := fun r' v' => r' = nI (dp_fc (bt val) 32) ∧ i_Rel (k + 4) ((nI c), pr, h, (fun j => nI (o j)), (fun j => nI (lv j)), tg, vs, ranks, ends, parents, run, (dp_gl kx (24 * s) (N 0) (fun i => kx (72 + i))), (dp_gl ax (24 * s) (N 0) (fun i => ax (72 + i))), (upd lx s (nI (N 0))), isp, R1, m1, (upd S s 1), (upd xw s (nI (o r))), (upd xs s val), (upd xb s val)) v') ?_ (N 0) 0 (Nat.zero_add _)
    · rw [dp_fl_0, dp_gl_0] at kp
      exact kp
    · refine br_t (by rw [sz]; exact nI_le (Nat.le_refl _) (by omega)) ⟨v3, nm_r (e' := upd S s 1) (by rw [cl, N1]) ⟨v3, nm_r (e' := upd al s 1) (by rw [cl, N1]) ⟨v3, nm_r (e' := upd ed s 0) (by rw [cl]; rfl) ⟨v3, nm_r (e' := upd yw s (nI (o r))) (by rw [cl]) ?_⟩⟩⟩⟩
      refine yy_topRow (s := val) P.1 h8 (ho r) (by rw [← hval]; exact (H _ hl).2 (o r) (ho r)) (yy_ones ⟨rfl, dp_rel Rn⟩)
  · rw [dp_c_f (decide_eq_false P)]
    have YN : wpY_watch (fun r' v' => r' = -2 ∧ i_Rel (k + 4) ((nI c), pr, h, (fun j => nI (o j)), (fun j => nI (lv j)), tg, vs, ranks, ends, parents, run, kx, ax, lx, isp, rows, mem, S, xw, xs, xb) v') ((nI c), hy, (fun j => nI (o j)), (dp_th pr), above, tg, vs, held, twin, (fun j => nI (K j)), A, (fun j => nI (N j)), yp, yr, sp, S, al, ed, yw, yb) (nI s) (nI (o r)) := by
      unfold wpY_watch
      refine yy_slotYes hs (br_f (by decide) (yy_yes T hr (br_f (by decide) (yy_topIs (b := true) T B G (fun R2 P2 Z2 H => ?_)))))
      rw [dp_c_f (decide_eq_false P)]
      exact br_t rfl ⟨rfl, dp_rel R⟩
    exact br_t rfl YN
end
section
/-! add -/
theorem dp_fl_1 (f : Nat → Nat) (t n : Nat) : dp_fl f t 1 (fun _ => n) = dp_nu f t n := by
  rw [← dp_fl_s, dp_fl_0, Nat.add_zero]
theorem i_vc_add {k : Nat} {u : SX} {v : SY} (I : i_Rel k u v) (hk : k + 4 ≤ 2048) (v1 : Int32) (v2 : Int32) (v3 : Int32) : wpX_add (fun r u' => wpY_add (fun r' v' => r' = r ∧ i_Rel (k + 4) u' v') v v1 v2 v3) u v1 v2 v3 := by
  obtain ⟨c, o, lv, pr, tg, vs, K, N, A, S, ranks, ends, parents, kx, ax, lx, isp, above, al, ed, xw, xs, xb, yw, yb, run, rows, mem, held, twin, yp, yr, sp, h, hy, rfl, rfl, R⟩ := I
  have R' := R
  obtain ⟨T, hv, X, B, G, Q, W⟩ := R'
  have ho := T.1.2.2.1
  have hc := T.1.1
  unfold wpX_add
  rcases dp_node T v1 with e | ⟨p, hp, rfl⟩
  · refine xx_no e (br_t rfl ?_)
    show wpY_add _ _ _ _ _
    unfold wpY_add
    exact (yy_no e (br_t rfl ⟨rfl, dp_rel R⟩))
  refine xx_yes T hp (br_f (by decide) ?_)
  by_cases a0 : v2 < 0
  · refine br_t a0 ?_
    show wpY_add _ _ _ _ _
    unfold wpY_add
    exact (yy_yes T hp (br_f (by decide) (br_t a0 ⟨rfl, dp_rel R⟩)))
  refine br_f a0 (xx_countChildren T.1 X hp ?_)
  by_cases aj : ¬ (v2 ≤ nI (dp_fc (dp_ch (fun r => lv (o r)) p) c))
  · refine br_f aj ?_
    show wpY_add _ _ _ _ _
    unfold wpY_add
    exact (yy_yes T hp (br_f (by decide) (br_f a0 (yy_childrenOf T.1 B hp (br_f aj ⟨rfl, dp_rel R⟩)))))
  replace aj := Classical.not_not.mp aj
  refine br_t aj ?_
  by_cases t0 : v3 < 0
  · refine br_t t0 ?_
    show wpY_add _ _ _ _ _
    unfold wpY_add
    exact (yy_yes T hp (br_f (by decide) (br_f a0 (yy_childrenOf T.1 B hp (br_t aj (br_t t0 ⟨rfl, dp_rel R⟩))))))
  by_cases t7 : ¬ (v3 ≤ 7)
  · refine br_f t0 (br_f t7 ?_)
    show wpY_add _ _ _ _ _
    unfold wpY_add
    exact (yy_yes T hp (br_f (by decide) (br_f a0 (yy_childrenOf T.1 B hp (br_t aj (br_f t0 (br_f t7 ⟨rfl, dp_rel R⟩)))))))
  replace t7 := Classical.not_not.mp t7
  refine br_f t0 (br_t t7 ?_)
  by_cases full : ¬ (c < 32)
  · have e32 : nI c = 32 := by rw [show c = 32 from by omega]; rfl
    refine br_f (nI_nlt (b := 32) (by omega) (by omega)) ?_
    show wpY_add _ _ _ _ _
    unfold wpY_add
    exact (yy_yes T hp (br_f (by decide) (br_f a0 (yy_childrenOf T.1 B hp (br_t aj (br_f t0 (br_t t7 (br_t e32 ⟨rfl, dp_rel R⟩))))))))
  replace full := Classical.not_not.mp full
  have n32 : ¬ nI c = 32 := fun e => by
    have := dp_inj (a := c) (b := 32) (by omega) (by decide) e
    omega
  have Gp := dp_gr_Gp (p := v2) T.1.2.2.2.2 hp
  obtain ⟨T', A'⟩ := dp_add_T (ab := above) T full Gp
  obtain ⟨n1, n2⟩ := dp_ln_spec (pr := pr) (by rw [T.2.2]; exact full)
  have A2 := A' B
  refine br_t (nI_lt (b := 32) full (by decide)) (xx_rankForChild T.1 X hp (xx_openGap (k := 1) (by decide) (by omega) Gp.2.1 (xx_take ?_)))
  generalize ht : dp_gr (fun r => lv (o r)) c p v2 = t at *
  generalize hn : dp_ln pr = n at *
  have t32 : t < 32 := by have := Gp.2.1; omega
  have v32 := dp_v32 n2
  have hv' : ∀ m, upd vs n 0 m ≤ 99 := fun m => by
    show (if m = n then 0 else vs m) ≤ 99
    split
    · decide
    · exact hv m
  refine ⟨dp_v32 t32, nm_r (e' := fun j => nI (dp_nu (dp_og o c t 1) t n j)) (by rw [dp_cl32 t32]; exact dp_upd) ⟨dp_v32 (ho p), v32, nm_r (e' := fun j => nI (dp_nu lv n (lv (o p) + 1) j)) (by rw [dp_cl32 n2, dp_cl32 (ho p), nI_1]; exact dp_upd) ⟨v32, nm_r (e' := upd tg n v3) (by rw [dp_cl32 n2]) ⟨v32, nm_r (e' := upd vs n 0) (by rw [dp_cl32 n2]) ?_⟩⟩⟩⟩
  refine xx_indexTree T'.1 (fun ra en pa X' => xx_refresh T' X' hv' G (dp_hw W) (fun R1 m1 xs1 xb1 H1 => ?_))
  show wpY_add _ _ _ _ _
  unfold wpY_add
  refine (yy_yes T hp (br_f (by decide) (br_f a0 (yy_childrenOf T.1 B hp (br_t aj (br_f t0 (br_t t7 (br_f n32 (yy_noteEdit T B G W (fun hy2 R2 P2 Z2 ed2 yb2 H2 => ?_))))))))))
  refine yy_gapFor T.1 B hp ?_
  rw [ht]
  refine yy_newNumber ?_
  rw [hn]
  refine ⟨v32, nm_r (e' := dp_th (pr ||| dp_bo n)) (by rw [dp_cl32 n2]; exact dp_th_set n2) ⟨v32, nm_r (e' := upd above n (nI (o p))) (by rw [dp_cl32 n2]) ⟨v32, nm_r (e' := upd tg n v3) (by rw [dp_cl32 n2]) ⟨v32, nm_r (e' := upd vs n 0) (by rw [dp_cl32 n2]) (nm_e (yy_putIn (k := 1) (g := fun _ => n) (by decide) (by omega) Gp.2.1 (fun i hi => ?_) ⟨rfl, ?_⟩))⟩⟩⟩⟩
  · obtain rfl : i = 0 := by omega
    exact pk_us
  · rw [dp_fl_1]
    exact dp_rel ⟨T', hv', X', A2, G, Q, dp_Wa_edit W H1 H2 (dp_L_same W (fun w z => by rw [dp_bt_or _ n2, z, Bool.true_or]))⟩
end
section
/-! remove -/
section RX
variable {f_size f_present f_height : Int32} {a_order a_levels a_tags a_values a_ranks a_ends a_parents a_run a_kinds a_numbers a_lengths a_entryIsPath a_rows a_members a_wasSet a_watchNode a_selects a_selectedBefore : Nat → Int32} {c a k : Nat} {o : Nat → Nat} {pr : Int32}
theorem xx_rem_l (ho : ∀ r, o r < 32) (hak : a + k ≤ 32) {post : Int32 → SX → Prop} (h : wX_remove_36 post (nI a) (nI k) f_size f_height (fun j => nI (o j)) a_levels a_tags a_values a_ranks a_ends a_parents a_run a_kinds a_numbers a_lengths a_entryIsPath a_rows a_members a_wasSet a_watchNode a_selects a_selectedBefore 1 (nI (a + k)) (dp_pc o a pr k)) : ∀ d i, i + d = k → wX_remove_36 post (nI a) (nI k) f_size f_height (fun j => nI (o j)) a_levels a_tags a_values a_ranks a_ends a_parents a_run a_kinds a_numbers a_lengths a_entryIsPath a_rows a_members a_wasSet a_watchNode a_selects a_selectedBefore (d + 1) (nI (a + i)) (dp_pc o a pr i) := by
  intro d
  induction d with
  | zero =>
    intro i hi
    obtain rfl : i = k := by omega
    exact h
  | succ d ih =>
    intro i hi
    refine br_f (by rw [nI_add]; exact nI_ge (by omega) (by omega)) ⟨dp_v32 (by omega), ?_⟩
    simp only [dp_cl32 (show a + i < 32 by omega)]
    exact nm_e (nm_r (nI_1 (a + i)) (ih (i + 1) (by omega)))
theorem xx_endW_l {post : SX → Prop} (h : ∀ w' : Nat → Int32, (∀ s, s < 3 → (dp_isn f_present (a_watchNode s) = true → w' s = a_watchNode s) ∧ (dp_isn f_present (a_watchNode s) = false → w' s = -1)) → post (f_size, f_present, f_height, a_order, a_levels, a_tags, a_values, a_ranks, a_ends, a_parents, a_run, a_kinds, a_numbers, a_lengths, a_entryIsPath, a_rows, a_members, a_wasSet, w', a_selects, a_selectedBefore)) : ∀ d i (w' : Nat → Int32), i + d = 3 → (∀ s, s < i → (dp_isn f_present (a_watchNode s) = true → w' s = a_watchNode s) ∧ (dp_isn f_present (a_watchNode s) = false → w' s = -1)) → (∀ s, i ≤ s → w' s = a_watchNode s) → wX_endWatchesOfMissingNodes_2 post f_size f_present f_height (d + 1) (nI i) a_order a_levels a_tags a_values a_ranks a_ends a_parents a_run a_kinds a_numbers a_lengths a_entryIsPath a_rows a_members a_wasSet w' a_selects a_selectedBefore := by
  intro d
  induction d with
  | zero =>
    intro i w' hi H _
    obtain rfl : i = 3 := by omega
    exact br_t dp_le3 (h w' H)
  | succ d ih =>
    intro i w' hi H H2
    have cl : (nI i).toNatClampNeg = i := nI_clamp (by omega)
    refine br_f (dp_ge3 (by omega)) ⟨dp_v3 (by omega), xx_isNode ?_⟩
    simp only [cl, H2 i (Nat.le_refl _)]
    cases z : dp_isn f_present (a_watchNode i)
    · refine br_t rfl ⟨dp_v3 (by omega), nm_e (nm_r (nI_1 i) (ih (i + 1) _ (by omega) (fun s hs => ?_) (fun s hs => by rw [pk_un (by omega)]; exact H2 s (by omega))))⟩
      by_cases y : s = i
      · subst y
        exact ⟨fun q => (by rw [z] at q; cases q), fun _ => pk_us⟩
      · rw [pk_un y]; exact H s (by omega)
    · refine br_f (by decide) (nm_r (nI_1 i) (ih (i + 1) w' (by omega) (fun s hs => ?_) (fun s hs => H2 s (by omega))))
      by_cases y : s = i
      · subst y
        exact ⟨fun _ => H2 s (Nat.le_refl _), fun q => by rw [z] at q; cases q⟩
      · exact H s (by omega)
theorem xx_endWatches {post : SX → Prop} (h : ∀ w' : Nat → Int32, (∀ s, s < 3 → (dp_isn f_present (a_watchNode s) = true → w' s = a_watchNode s) ∧ (dp_isn f_present (a_watchNode s) = false → w' s = -1)) → post (f_size, f_present, f_height, a_order, a_levels, a_tags, a_values, a_ranks, a_ends, a_parents, a_run, a_kinds, a_numbers, a_lengths, a_entryIsPath, a_rows, a_members, a_wasSet, w', a_selects, a_selectedBefore)) : wpX_endWatchesOfMissingNodes post (f_size, f_present, f_height, a_order, a_levels, a_tags, a_values, a_ranks, a_ends, a_parents, a_run, a_kinds, a_numbers, a_lengths, a_entryIsPath, a_rows, a_members, a_wasSet, a_watchNode, a_selects, a_selectedBefore) := ⟨4, xx_endW_l h 3 0 _ rfl (fun s hs => absurd hs (Nat.not_lt_zero s)) (fun _ _ => rfl)⟩
end RX
def dp_ls (a y h : Int32) : Int32 := if a = 0 then 0 else if y = h then 0 else 1
def dp_la (a y : Int32) (h : Nat → Int32) : Nat → Int32
  | 0 => a
  | i + 1 => dp_ls (dp_la a y h i) y (h i)
theorem dp_la_0 {y : Int32} {h : Nat → Int32} : ∀ i, dp_la 0 y h i = 0
  | 0 => rfl
  | i + 1 => by
    show dp_ls (dp_la 0 y h i) y (h i) = 0
    rw [dp_la_0 i]; rfl
theorem dp_la_1 {y : Int32} {h : Nat → Int32} : ∀ i, (dp_la 1 y h i = 1 ∧ ∀ j, j < i → y ≠ h j) ∨ (dp_la 1 y h i = 0 ∧ ∃ j, j < i ∧ y = h j)
  | 0 => Or.inl ⟨rfl, fun j hj => absurd hj (Nat.not_lt_zero j)⟩
  | i + 1 => by
    show (dp_ls (dp_la 1 y h i) y (h i) = 1 ∧ _) ∨ (dp_ls (dp_la 1 y h i) y (h i) = 0 ∧ _)
    rcases dp_la_1 (y := y) (h := h) i with ⟨e, H⟩ | ⟨e, j, hj, H⟩
    · rw [e]
      by_cases z : y = h i
      · exact Or.inr ⟨by unfold dp_ls; rw [if_neg (by decide), if_pos z], i, by omega, z⟩
      · refine Or.inl ⟨by unfold dp_ls; rw [if_neg (by decide), if_neg z], fun j hj => ?_⟩
        rcases Nat.lt_or_ge j i with w | w
        · exact H j w
        · rw [show j = i from by omega]; exact z
    · rw [e]
      exact Or.inr ⟨rfl, j, by omega, H⟩
section RY
variable {f_count f_height : Int32} {a_list a_there a_above a_tags a_values a_held a_twin a_kinds a_args a_sizes a_isPath a_rows a_spare a_isSet a_alive a_edited a_watchNode a_before : Nat → Int32} {c a k : Nat} {o : Nat → Nat} {pr : Int32}
theorem yy_rem_in {x : Int32} {i : Nat} (hi : i < 32) {post : Int32 → SY → Prop} {J : Int32 → (Nat → Int32) → (Nat → Int32) → (Nat → Int32) → (Nat → Int32) → (Nat → Int32) → (Nat → Int32) → (Nat → Int32) → (Nat → Int32) → (Nat → Int32) → (Nat → Int32) → (Nat → Int32) → (Nat → Int32) → (Nat → Int32) → (Nat → Int32) → (Nat → Int32) → (Nat → Int32) → (Nat → Int32) → (Nat → Int32) → Prop} (h : ∀ al, (∀ s, s < 3 → al s = dp_ls (a_alive s) (a_watchNode s) (a_held i)) → J (nI (i + 1)) a_list a_there a_above a_tags a_values a_held a_twin a_kinds a_args a_sizes a_isPath a_rows a_spare a_isSet al a_edited a_watchNode a_before) : ∀ d s (al : Nat → Int32), s + d = 3 → (∀ t, t < s → al t = dp_ls (a_alive t) (a_watchNode t) (a_held i)) → (∀ t, s ≤ t → al t = a_alive t) → wY_remove_66 post J x (nI i) f_count f_height (d + 1) (nI s) a_list a_there a_above a_tags a_values a_held a_twin a_kinds a_args a_sizes a_isPath a_rows a_spare a_isSet al a_edited a_watchNode a_before := by
  intro d
  induction d with
  | zero =>
    intro s al hs H _
    obtain rfl : s = 3 := by omega
    exact br_t dp_le3 (nm_r (nI_1 i) (h al H))
  | succ d ih =>
    intro s al hs H H2
    have cl : (nI s).toNatClampNeg = s := nI_clamp (by omega)
    have v3 := dp_v3 (show s < 3 by omega)
    have go : ∀ v : Int32, v = dp_ls (a_alive s) (a_watchNode s) (a_held i) → wY_remove_66 post J x (nI i) f_count f_height (d + 1) (nI (s + 1)) a_list a_there a_above a_tags a_values a_held a_twin a_kinds a_args a_sizes a_isPath a_rows a_spare a_isSet (upd al s v) a_edited a_watchNode a_before := fun v hv => ih (s + 1) _ (by omega) (fun t ht => by
      by_cases y : t = s
      · subst y; rw [pk_us]; exact hv
      · rw [pk_un y]; exact H t (by omega)) (fun t ht => by rw [pk_un (by omega)]; exact H2 t (by omega))
    refine br_f (dp_ge3 (by omega)) ⟨v3, ?_⟩
    simp only [cl, H2 s (Nat.le_refl _), dp_cl32 hi]
    refine br_c (fun z => ⟨v3, nm_e (nm_r (nI_1 s) (go _ ?_))⟩) (fun z => ⟨v3, dp_v32 hi, br_c (fun y => ⟨v3, nm_e (nm_r (nI_1 s) (go _ ?_))⟩) (fun y => ⟨v3, nm_e (nm_r (nI_1 s) (go _ ?_))⟩)⟩)
    · unfold dp_ls; rw [if_pos z]; rfl
    · unfold dp_ls; rw [if_neg z, if_pos y]; rfl
    · unfold dp_ls; rw [if_neg z, if_neg y]; rfl
theorem yy_rem_out (ho : ∀ r, o r < 32) (hk : k ≤ 32) (hd : ∀ i, i < k → a_held i = nI (o (a + i))) {post : Int32 → SY → Prop} (h : ∀ al, (∀ s, s < 3 → al s = dp_la (a_alive s) (a_watchNode s) a_held k) → post (nI k) (f_count, f_height, a_list, (dp_th (dp_pc o a pr k)), a_above, a_tags, a_values, a_held, a_twin, a_kinds, a_args, a_sizes, a_isPath, a_rows, a_spare, a_isSet, al, a_edited, a_watchNode, a_before)) : ∀ d i (al : Nat → Int32), i + d = k → (∀ s, s < 3 → al s = dp_la (a_alive s) (a_watchNode s) a_held i) → wY_remove_44 post (nI k) f_count f_height (d + 1) (nI i) a_list (dp_th (dp_pc o a pr i)) a_above a_tags a_values a_held a_twin a_kinds a_args a_sizes a_isPath a_rows a_spare a_isSet al a_edited a_watchNode a_before := by
  intro d
  induction d with
  | zero =>
    intro i al hi H
    obtain rfl : i = k := by omega
    exact br_t (nI_le (Nat.le_refl _) (by omega)) (h al H)
  | succ d ih =>
    intro i al hi H
    refine br_f (nI_ge (by omega) (by omega)) ⟨dp_v32 (by omega), ?_⟩
    rw [dp_cl32 (show i < 32 by omega), hd i (by omega)]
    refine ⟨dp_v32 (ho _), ?_⟩
    rw [dp_cl32 (ho (a + i))]
    refine nm_r (e' := dp_th (dp_pc o a pr (i + 1))) (dp_th_clr (ho _)) ⟨4, ?_⟩
    exact yy_rem_in (a_alive := al) (by omega) (fun al2 H2 => ih (i + 1) al2 (by omega) (fun s hs => by rw [H2 s hs, H s hs]; rfl)) 3 0 al rfl (fun t ht => absurd ht (Nat.not_lt_zero t)) (fun _ _ => rfl)
end RY
theorem i_vc_remove {k : Nat} {u : SX} {v : SY} (I : i_Rel k u v) (hk : k + 4 ≤ 2048) (v1 : Int32) : wpX_remove (fun r u' => wpY_remove (fun r' v' => r' = r ∧ i_Rel (k + 4) u' v') v v1) u v1 := by
  obtain ⟨c, o, lv, pr, tg, vs, K, N, A, S, ranks, ends, parents, kx, ax, lx, isp, above, al, ed, xw, xs, xb, yw, yb, run, rows, mem, held, twin, yp, yr, sp, h, hy, rfl, rfl, R⟩ := I
  have R' := R
  obtain ⟨T, hv, X, B, G, Q, W⟩ := R'
  have ho := T.1.2.2.1
  have hc := T.1.1
  unfold wpX_remove
  rcases dp_node T v1 with e | ⟨a, ha, rfl⟩
  · refine xx_no e (br_t rfl ?_)
    show wpY_remove _ _ _
    unfold wpY_remove
    exact yy_no e (br_t rfl ⟨rfl, dp_rel R⟩)
  refine xx_yes T ha (br_f (by decide) ?_)
  by_cases z : nI (o a) = 0
  · refine br_t z ?_
    show wpY_remove _ _ _
    unfold wpY_remove
    exact yy_yes T ha (br_f (by decide) (br_t z ⟨rfl, dp_rel R⟩))
  have a0 : 0 < a := by
    rcases Nat.eq_zero_or_pos a with y | y
    · exact absurd (by rw [y, T.1.2.1]; rfl) z
    · exact y
  have E0 := dp_en_spec (fun r => lv (o r)) ha
  obtain ⟨m, hm⟩ : ∃ m, dp_en (fun r => lv (o r)) c a = a + m := ⟨dp_en (fun r => lv (o r)) c a - a, by have := E0.1; omega⟩
  have E : dp_Ed (fun r => lv (o r)) c a (a + m) := by rw [← hm]; exact E0
  have e1 := E.1
  have e2 := E.2.1
  obtain ⟨T', A'⟩ := dp_rem_T (ab := above) T a0 E
  refine br_f z ⟨dp_v32 (ho a), nm_r (e' := nI a) (by rw [dp_cl32 (ho a)]; exact (X.1 a ha).1) ⟨dp_v32 (ho a), nm_r (e' := nI m) (by rw [dp_cl32 (ho a), (X.1 a ha).2, hm, pk_sub (by omega), Nat.add_sub_cancel_left]) ⟨m + 1, ?_⟩⟩⟩
  refine xx_rem_l (pr := pr) ho (by omega) (br_t (by rw [nI_add]; exact nI_le (Nat.le_refl _) (by omega)) (xx_closeGap (by omega) hc e2 (xx_indexTree T'.1 (fun ra en pa X' => xx_endWatches (fun xw' Hw => ?_))))) m 0 (Nat.zero_add m)
  have L : ∀ al' : Nat → Int32, (∀ s, s < 3 → al' s = dp_la (al s) (yw s) (fun i => nI (o (a + i))) m) → ∀ s, s < 3 → (al' s = 0 ∧ xw' s = -1) ∨ (al s = 1 ∧ al' s = 1 ∧ xw' s = xw s ∧ ∀ w, xw s = nI w → bt pr w = true → bt (dp_pc o a pr m) w = true) := fun al' Ha s hs => by
    rcases (W s hs).2.2.1 with ⟨z1, z2, -⟩ | ⟨z1, z2, z3, z4, w, z5, z6, z7, -⟩
    · refine Or.inl ⟨by rw [Ha s hs, z1, dp_la_0], (Hw s hs).2 ?_⟩
      rw [z2]; unfold dp_isn; rw [decide_eq_false (fun q => absurd q.1 (by decide)), Bool.false_and]
    · have w32 := dp_bt_lt z5
      have is : dp_isn (dp_pc o a pr m) (xw s) = bt (dp_pc o a pr m) w := by rw [z6, dp_isn_at w32]
      rcases dp_la_1 (y := yw s) (h := fun i => nI (o (a + i))) m with ⟨l1, l2⟩ | ⟨l1, j, hj, l2⟩
      · have b : bt (dp_pc o a pr m) w = true := (dp_pc_bt ho w32 m).mpr ⟨z5, fun j hj e => l2 j hj (by rw [z7, e])⟩
        refine Or.inr ⟨z1, by rw [Ha s hs, z1]; exact l1, (Hw s hs).1 (by rw [is]; exact b), fun w' e hb => ?_⟩
        have : w' = w := dp_inj (by have := dp_bt_lt hb; omega) (by omega) (e.symm.trans z6)
        rw [this]; exact b
      · refine Or.inl ⟨by rw [Ha s hs, z1]; exact l1, (Hw s hs).2 ?_⟩
        rw [is]
        cases b : bt (dp_pc o a pr m) w
        · rfl
        · have oj := ho (a + j)
          exact absurd (dp_inj (by omega) (by omega) (l2.symm.trans z7)) (((dp_pc_bt ho w32 m).mp b).2 j hj)
  have hw' : ∀ s, s < 3 → xw' s = -1 ∨ (∃ w, w < 32 ∧ xw' s = nI w) ∧ 0 < dp_hq K N (s + 1) ∧ dp_Fq K N (s + 1) (dp_hq K N (s + 1) - 1) = true := fun s hs => by
    rcases L (fun s => dp_la (al s) (yw s) (fun i => nI (o (a + i))) m) (fun _ _ => rfl) s hs with q | q
    · exact Or.inl q.2
    · rcases dp_hw W s hs with y | y
      · exact Or.inl (q.2.2.1.trans y)
      · exact Or.inr ⟨y.1.elim (fun w hw => ⟨w, hw.1, q.2.2.1.trans hw.2⟩), y.2⟩
  refine xx_refresh T' X' hv G hw' (fun R1 m1 xs1 xb1 H1 => ?_)
  show wpY_remove _ _ _
  unfold wpY_remove
  refine yy_yes T ha (br_f (by decide) (br_f z (yy_noteEdit T B G W (fun hy2 R2 P2 Z2 ed2 yb2 H2 => yy_place T.1 ha (yy_endOf T.1 B ha ?_)))))
  refine nm_r (e' := nI m) (by rw [hm, pk_sub (by omega), Nat.add_sub_cancel_left]) (yy_takeOut ho hc (by omega) e2 (fun hd Hd => ⟨m + 1, ?_⟩))
  refine yy_rem_out (a := a) (o := o) (pr := pr) ho (by omega) Hd (fun al' Ha => ⟨rfl, dp_rel ⟨T', hv, X', A' B, G, Q, dp_Wa_edit W H1 H2 (L al' (fun s hs => ?_))⟩⟩) m 0 al (Nat.zero_add m) (fun _ _ => rfl)
  rw [Ha s hs]
  have cg : ∀ i, i ≤ m → dp_la (al s) (yw s) hd i = dp_la (al s) (yw s) (fun i => nI (o (a + i))) i := by
    intro i
    induction i with
    | zero => intro _; rfl
    | succ i ih =>
      intro hi
      show dp_ls (dp_la (al s) (yw s) hd i) (yw s) (hd i) = dp_ls (dp_la (al s) (yw s) (fun i => nI (o (a + i))) i) (yw s) (nI (o (a + i)))
      rw [ih (by omega), Hd i (by omega)]
  exact cg m (Nat.le_refl _)
end
section
/-! move -/
theorem dp_deep {x y z : Nat} (h : z ≤ x) : nI x + (nI y + 1 - nI z) = nI (x + y + 1 - z) := by
  rw [← pk_sub (show z ≤ x + y + 1 by omega), ← nI_1, ← nI_add]
  grind
section MX
variable {f_size f_present f_height : Int32} {a_order a_levels a_tags a_values a_ranks a_ends a_parents a_run a_kinds a_numbers a_lengths a_entryIsPath a_rows a_members a_wasSet a_watchNode a_selects a_selectedBefore : Nat → Int32} {c a k t d : Nat} {o f lv : Nat → Nat} {lp : Nat}
theorem xx_move_l (ho : ∀ r, o r < 32) (hk : 0 < k) (htk : t + k ≤ 32) (hm : ∀ i j, i < k → j < k → o (a + i) = o (a + j) → i = j) (hr : ∀ i, i < k → a_run i = nI (o (a + i))) (hl : ∀ i, i < k → lv (o a) ≤ lv (o (a + i))) {x : Int32} {post : Int32 → SX → Prop} (h : wX_move_131 post x (nI k) (nI lp + 1 - nI (lv (o a))) (nI t) f_size f_present f_height 1 (nI k) (fun j => nI (dp_fl f t k (fun i => o (a + i)) j)) (fun j => nI (dp_fu lv (fun i => o (a + i)) (fun i => lv (o (a + i)) + lp + 1 - lv (o a)) k j)) a_tags a_values a_ranks a_ends a_parents a_run a_kinds a_numbers a_lengths a_entryIsPath a_rows a_members a_wasSet a_watchNode a_selects a_selectedBefore) : ∀ d i, i + d = k → wX_move_131 post x (nI k) (nI lp + 1 - nI (lv (o a))) (nI t) f_size f_present f_height (d + 1) (nI i) (fun j => nI (dp_fl f t i (fun i => o (a + i)) j)) (fun j => nI (dp_fu lv (fun i => o (a + i)) (fun i => lv (o (a + i)) + lp + 1 - lv (o a)) i j)) a_tags a_values a_ranks a_ends a_parents a_run a_kinds a_numbers a_lengths a_entryIsPath a_rows a_members a_wasSet a_watchNode a_selects a_selectedBefore := by
  intro d
  induction d with
  | zero =>
    intro i hi
    obtain rfl : i = k := by omega
    exact h
  | succ d ih =>
    intro i hi
    have oi := ho (a + i)
    have rd : dp_fu lv (fun i => o (a + i)) (fun i => lv (o (a + i)) + lp + 1 - lv (o a)) i (o (a + i)) = lv (o (a + i)) := dp_fu_n (fun j hj e => by have := hm j i (by omega) (by omega) e; omega)
    refine br_f (nI_ge (by omega) (by omega)) ⟨dp_v32 (by omega), ?_⟩
    simp only [nI_add, dp_cl32 (show i < 32 by omega), dp_cl32 (show t + i < 32 by omega), hr i (by omega), dp_cl32 oi, rd, dp_deep (hl i (by omega))]
    refine ⟨dp_v32 (by omega), nm_r dp_upd ⟨dp_v32 (by omega), dp_v32 oi, dp_v32 oi, nm_r dp_upd (nm_r (nI_1 i) ?_)⟩⟩
    have e1 := dp_fl_s (f := f) (g := fun i => o (a + i)) (t := t) (i := i)
    rw [e1]
    exact ih (i + 1) (by omega)
end MX
theorem i_vc_move {k : Nat} {u : SX} {v : SY} (I : i_Rel k u v) (hk : k + 4 ≤ 2048) (v1 : Int32) (v2 : Int32) (v3 : Int32) : wpX_move (fun r u' => wpY_move (fun r' v' => r' = r ∧ i_Rel (k + 4) u' v') v v1 v2 v3) u v1 v2 v3 := by
  obtain ⟨c, o, lv, pr, tg, vs, K, N, A, S, ranks, ends, parents, kx, ax, lx, isp, above, al, ed, xw, xs, xb, yw, yb, run, rows, mem, held, twin, yp, yr, sp, h, hy, rfl, rfl, R⟩ := I
  have R' := R
  obtain ⟨T, hv, X, B, G, Q, W⟩ := R'
  have ho := T.1.2.2.1
  have hc := T.1.1
  unfold wpX_move
  rcases dp_node T v1 with e | ⟨a, ha, rfl⟩
  · refine xx_no e (br_t rfl ?_)
    show wpY_move _ _ _ _ _
    unfold wpY_move
    exact yy_no e (br_t rfl ⟨rfl, dp_rel R⟩)
  rcases dp_node T v2 with e | ⟨p, hp, rfl⟩
  · refine xx_yes T ha (br_f (by decide) (xx_no e (br_t rfl ?_)))
    show wpY_move _ _ _ _ _
    unfold wpY_move
    exact yy_yes T ha (br_f (by decide) (yy_no e (br_t rfl ⟨rfl, dp_rel R⟩)))
  refine xx_yes T ha (br_f (by decide) (xx_yes T hp (br_f (by decide) ?_)))
  by_cases z : nI (o a) = 0
  · refine br_t z ?_
    show wpY_move _ _ _ _ _
    unfold wpY_move
    exact yy_yes T ha (br_f (by decide) (yy_yes T hp (br_f (by decide) (br_t z ⟨rfl, dp_rel R⟩))))
  by_cases zz : nI (o p) = nI (o a)
  · refine br_f z (br_t zz ?_)
    show wpY_move _ _ _ _ _
    unfold wpY_move
    exact yy_yes T ha (br_f (by decide) (yy_yes T hp (br_f (by decide) (br_f z (br_t zz ⟨rfl, dp_rel R⟩)))))
  refine br_f z (br_f zz (xx_isBelow T.1 X hp ha ?_))
  by_cases bl : a < p ∧ p < dp_en (fun r => lv (o r)) c a
  · rw [dp_c_t (decide_eq_true bl)]
    refine br_f (by decide) ?_
    show wpY_move _ _ _ _ _
    unfold wpY_move
    refine yy_yes T ha (br_f (by decide) (yy_yes T hp (br_f (by decide) (br_f z (br_f zz (yy_isBelow T.1 B hp ha ?_))))))
    rw [dp_c_t (decide_eq_true bl)]
    exact br_f (by decide) ⟨rfl, dp_rel R⟩
  rw [dp_c_f (decide_eq_false bl)]
  refine br_t rfl (xx_countChildren T.1 X hp ⟨dp_v32 (ho a), ?_⟩)
  have a0 : 0 < a := by
    rcases Nat.eq_zero_or_pos a with y | y
    · exact absurd (by rw [y, T.1.2.1]; rfl) z
    · exact y
  have pa : p ≠ a := fun e => zz (by rw [e])
  have E0 := dp_en_spec (fun r => lv (o r)) ha
  obtain ⟨m, hm⟩ : ∃ m, dp_en (fun r => lv (o r)) c a = a + m := ⟨dp_en (fun r => lv (o r)) c a - a, by have := E0.1; omega⟩
  have E : dp_Ed (fun r => lv (o r)) c a (a + m) := by rw [← hm]; exact E0
  have e1 := E.1
  have e2 := E.2.1
  have cle : dp_fc (dp_ch (fun r => lv (o r)) p) c ≤ c := dp_fc_le _ _
  have ask := dp_ask T.1 X.2 hp ha
  have askY := dp_ask T.1 B hp ha
  -- the children without the node
  obtain ⟨oth, h1, h2⟩ : ∃ oth : Nat, (dp_ch (fun r => lv (o r)) p a = true → dp_fc (dp_ch (fun r => lv (o r)) p) c = oth + 1) ∧ (dp_ch (fun r => lv (o r)) p a = false → dp_fc (dp_ch (fun r => lv (o r)) p) c = oth) := by
    cases y : dp_ch (fun r => lv (o r)) p a
    · exact ⟨dp_fc (dp_ch (fun r => lv (o r)) p) c, fun q => (by cases q), fun _ => rfl⟩
    · have := dp_fc_clr y (k := c) ha
      exact ⟨dp_fc (fun i => dp_ch (fun r => lv (o r)) p i && !decide (i = a)) c, fun _ => this.symm, fun q => (by cases q)⟩
  have oth32 : oth ≤ 32 := by
    cases y : dp_ch (fun r => lv (o r)) p a
    · have := h2 y; omega
    · have := h1 y; omega
  have X59 : wX_move_59 (fun r u' => wpY_move (fun r' v' => r' = r ∧ i_Rel (k + 4) u' v') ((nI c), hy, (fun j => nI (o j)), (dp_th pr), above, tg, vs, held, twin, (fun j => nI (K j)), A, (fun j => nI (N j)), yp, yr, sp, S, al, ed, yw, yb) (nI (o a)) (nI (o p)) v3) (nI (o a)) (nI (o p)) v3 (nI oth) (nI c) pr h (fun j => nI (o j)) (fun j => nI (lv j)) tg vs ranks ends parents run kx ax lx isp rows mem S xw xs xb → ((parents (nI (o a)).toNatClampNeg = nI (o p) → ∀ y, y = nI (dp_fc (dp_ch (fun r => lv (o r)) p) c) + (-1) → wX_move_59 (fun r u' => wpY_move (fun r' v' => r' = r ∧ i_Rel (k + 4) u' v') ((nI c), hy, (fun j => nI (o j)), (dp_th pr), above, tg, vs, held, twin, (fun j => nI (K j)), A, (fun j => nI (N j)), yp, yr, sp, S, al, ed, yw, yb) (nI (o a)) (nI (o p)) v3) (nI (o a)) (nI (o p)) v3 y (nI c) pr h (fun j => nI (o j)) (fun j => nI (lv j)) tg vs ranks ends parents run kx ax lx isp rows mem S xw xs xb) ∧ (¬ parents (nI (o a)).toNatClampNeg = nI (o p) → wX_move_59 (fun r u' => wpY_move (fun r' v' => r' = r ∧ i_Rel (k + 4) u' v') ((nI c), hy, (fun j => nI (o j)), (dp_th pr), above, tg, vs, held, twin, (fun j => nI (K j)), A, (fun j => nI (N j)), yp, yr, sp, S, al, ed, yw, yb) (nI (o a)) (nI (o p)) v3) (nI (o a)) (nI (o p)) v3 (nI (dp_fc (dp_ch (fun r => lv (o r)) p) c)) (nI c) pr h (fun j => nI (o j)) (fun j => nI (lv j)) tg vs ranks ends parents run kx ax lx isp rows mem S xw xs xb)) := fun H => by
    rw [dp_cl32 (ho a), ask]
    refine br_c (fun y => ?_) (fun y => ?_)
    · rw [h1 y]; exact nm_r (pk_m1 oth) H
    · rw [h2 (Bool.eq_false_iff.mpr y)]; exact H
  refine X59 ?_
  have Y59 : ∀ a' u', wY_move_59 (fun r' v' => r' = a' ∧ i_Rel (k + 4) u' v') (nI (o a)) (nI (o p)) v3 0 (nI oth) (nI c) hy (fun j => nI (o j)) (dp_th pr) above tg vs held twin (fun j => nI (K j)) A (fun j => nI (N j)) yp yr sp S al ed yw yb → wpY_move (fun r' v' => r' = a' ∧ i_Rel (k + 4) u' v') ((nI c), hy, (fun j => nI (o j)), (dp_th pr), above, tg, vs, held, twin, (fun j => nI (K j)), A, (fun j => nI (N j)), yp, yr, sp, S, al, ed, yw, yb) (nI (o a)) (nI (o p)) v3 := fun a' u' H => by
    unfold wpY_move
    refine yy_yes T ha (br_f (by decide) (yy_yes T hp (br_f (by decide) (br_f z (br_f zz (yy_isBelow T.1 B hp ha ?_))))))
    rw [dp_c_f (decide_eq_false bl)]
    refine br_t rfl (yy_childrenOf T.1 B hp ⟨dp_v32 (ho a), ?_⟩)
    rw [dp_cl32 (ho a), askY]
    refine br_c (fun y => ?_) (fun y => ?_)
    · rw [h1 y]
      have s0 : nI (oth + 1) - 1 = nI oth - 0 := by rw [nI_pred]; grind
      exact nm_r s0 (H _ rfl)
    · rw [h2 (Bool.eq_false_iff.mpr y)]; exact H
  have sub0 : nI oth - 0 = nI oth := by grind
  by_cases t0 : v3 < 0
  · exact br_t t0 (Y59 _ _ (nm_r sub0 (br_t t0 ⟨rfl, dp_rel R⟩)))
  by_cases tj : v3 ≤ nI oth
  · refine br_f t0 (br_t tj ?_)
    have pin : p < a ∨ a + m ≤ p := by
      rcases Nat.lt_or_ge p a with y | y
      · exact Or.inl y
      · rcases Nat.lt_or_ge p (a + m) with x | x
        · exact absurd ⟨by omega, by rw [hm]; exact x⟩ bl
        · exact Or.inr x
    have he1 : ∀ r, r < c - m → dp_cl o c a m r = dp_ot o a m r := fun r hr => dp_cl_ot hr
    have T1 := dp_Tc_ot T.1 a0 E (dp_cl_lt ho) he1
    have B1 := dp_Ab_ot T.1 a0 E he1 B
    obtain ⟨q, hq, oq⟩ := (dp_ot_mem he1 e2 (o p)).mpr ⟨p, hp, pin, rfl⟩
    have Gp := dp_gr_Gp (p := v3) T1.2.2.2.2 hq
    obtain ⟨T', A'⟩ := dp_mv_T (ab := above) T a0 E Gp
    have A2 := A' B
    generalize ht : dp_gr (fun r => lv (dp_cl o c a m r)) (c - m) q v3 = t at *
    have t32 := Gp.2.1
    have hmj := dp_inj_sub (k := m) (a := a) T.1 e2
    have lvl : ∀ i, i < m → lv (o a) ≤ lv (o (a + i)) := fun i hi => by
      rcases Nat.eq_zero_or_pos i with w | w
      · rw [w]; exact Nat.le_refl _
      · exact Nat.le_of_lt (E.2.2.1 (a + i) (by omega) (by omega))
    rw [oq] at T' A2
    refine xx_noteRun ho hc e2 (X.1 a ha).1 (by rw [(X.1 a ha).2, hm]) (fun ru Hr => ⟨dp_v32 (ho p), dp_v32 (ho a), nm_r (e' := nI (lv (o p)) + 1 - nI (lv (o a))) (by rw [dp_cl32 (ho p), dp_cl32 (ho a)]) ⟨dp_v32 (ho a), ?_⟩⟩)
    rw [dp_cl32 (ho a), (X.1 a ha).1]
    refine xx_closeGap (by omega) hc e2 (xx_indexTree T1 (fun ra en pp X1 => ?_))
    rw [← oq]
    refine xx_rankForChild T1 X1 hq ?_
    rw [ht, oq]
    have cm : c - m + m = c := by omega
    refine xx_openGap (by omega) (by omega) t32 ⟨m + 1, ?_⟩
    rw [cm, ← dp_fl_0 (dp_og (dp_cl o c a m) (c - m) t m) t (fun i => o (a + i))]
    refine xx_move_l (t := t) (k := m) (a := a) (lp := lv (o p)) (f := dp_og (dp_cl o c a m) (c - m) t m) ho (by omega) (by omega) hmj Hr lvl (br_t (nI_le (Nat.le_refl _) (by omega)) ?_) m 0 (Nat.zero_add m)
    refine xx_indexTree T'.1 (fun ra2 en2 pp2 X2 => xx_refresh T' X2 hv G (dp_hw W) (fun R1 m1 xs1 xb1 H1 => ?_))
    refine Y59 _ _ (nm_r sub0 (br_f t0 (br_t tj (yy_noteEdit T B G W (fun hy2 R2 P2 Z2 ed2 yb2 H2 => yy_place T.1 ha (yy_endOf T.1 B ha ?_))))))
    refine nm_r (e' := nI m) (by rw [hm, pk_sub (by omega), Nat.add_sub_cancel_left]) (yy_takeOut ho hc (by omega) e2 (fun hd Hd => ?_))
    rw [← oq]
    refine yy_gapFor T1 B1 hq ?_
    rw [ht, oq]
    refine ⟨dp_v32 (ho a), nm_r (e' := upd above (o a) (nI (o p))) (by rw [dp_cl32 (ho a)]) (yy_putIn (g := fun i => o (a + i)) (by omega) (by omega) t32 Hd ?_)⟩
    rw [cm]
    exact ⟨rfl, dp_rel ⟨T', hv, X2, A2, G, Q, dp_Wa_edit W H1 H2 (dp_L_same W (fun _ z => z))⟩⟩
  · exact br_f t0 (br_f tj (Y59 _ _ (nm_r sub0 (br_f t0 (br_f tj ⟨rfl, dp_rel R⟩)))))
end
section
/-! copy -/
section CX
variable {f_size f_present f_height : Int32} {a_order a_levels a_tags a_values a_ranks a_ends a_parents a_run a_kinds a_numbers a_lengths a_entryIsPath a_rows a_members a_wasSet a_watchNode a_selects a_selectedBefore : Nat → Int32} {c a k t : Nat} {o f lv : Nat → Nat} {pr : Int32} {tg vs : Nat → Int32} {lp : Nat}
theorem xx_copy_l (ho : ∀ r, o r < 32) (hfc : dp_fc (bt pr) 32 = c) (hck : c + k ≤ 32) (hpr : ∀ i, i < k → bt pr (o (a + i)) = true) (htk : t + k ≤ 32) (hr : ∀ i, i < k → a_run i = nI (o (a + i))) (hl : ∀ i, i < k → lv (o a) ≤ lv (o (a + i))) {post : Int32 → SX → Prop} (h : wX_copy_103 post (nI k) (nI lp + 1 - nI (lv (o a))) (nI t) 1 (nI k) f_size (dp_ps pr k) f_height (fun j => nI (dp_fl f t k (dp_fn pr) j)) (fun j => nI (dp_fu lv (dp_fn pr) (fun i => lv (o (a + i)) + lp + 1 - lv (o a)) k j)) (dp_fU tg (dp_fn pr) (fun i => tg (o (a + i))) k) (dp_fU vs (dp_fn pr) (fun i => vs (o (a + i))) k) a_ranks a_ends a_parents a_run a_kinds a_numbers a_lengths a_entryIsPath a_rows a_members a_wasSet a_watchNode a_selects a_selectedBefore) : ∀ d i, i + d = k → wX_copy_103 post (nI k) (nI lp + 1 - nI (lv (o a))) (nI t) (d + 1) (nI i) f_size (dp_ps pr i) f_height (fun j => nI (dp_fl f t i (dp_fn pr) j)) (fun j => nI (dp_fu lv (dp_fn pr) (fun i => lv (o (a + i)) + lp + 1 - lv (o a)) i j)) (dp_fU tg (dp_fn pr) (fun i => tg (o (a + i))) i) (dp_fU vs (dp_fn pr) (fun i => vs (o (a + i))) i) a_ranks a_ends a_parents a_run a_kinds a_numbers a_lengths a_entryIsPath a_rows a_members a_wasSet a_watchNode a_selects a_selectedBefore := by
  intro d
  induction d with
  | zero =>
    intro i hi
    obtain rfl : i = k := by omega
    exact h
  | succ d ih =>
    intro i hi
    have oi := ho (a + i)
    have ne : ∀ j, j < i → dp_fn pr j ≠ o (a + i) := fun j hj e => by
      have := dp_fn_new hfc hck (show j < k by omega)
      rw [e, hpr i (by omega)] at this; cases this
    have rd : dp_fu lv (dp_fn pr) (fun i => lv (o (a + i)) + lp + 1 - lv (o a)) i (o (a + i)) = lv (o (a + i)) := dp_fu_n ne
    have rt : dp_fU tg (dp_fn pr) (fun i => tg (o (a + i))) i (o (a + i)) = tg (o (a + i)) := dp_fU_n ne
    have rv : dp_fU vs (dp_fn pr) (fun i => vs (o (a + i))) i (o (a + i)) = vs (o (a + i)) := dp_fU_n ne
    have n32 := (dp_fn_spec hfc hck (show i < k by omega)).2
    refine br_f (nI_ge (by omega) (by omega)) (xx_take ?_)
    change vp_in (nI t + nI i) 32 ∧ _
    simp only [show dp_ln (dp_ps pr i) = dp_fn pr i from rfl, nI_add, dp_cl32 (show i < 32 by omega), dp_cl32 (show t + i < 32 by omega), hr i (by omega), dp_cl32 oi, dp_cl32 n32, rd, rt, rv, dp_deep (hl i (by omega))]
    refine ⟨dp_v32 (by omega), nm_r dp_upd ⟨dp_v32 (by omega), dp_v32 oi, dp_v32 n32, nm_r dp_upd ⟨dp_v32 (by omega), dp_v32 oi, dp_v32 n32, nm_e ⟨dp_v32 (by omega), dp_v32 oi, dp_v32 n32, nm_e (nm_r (nI_1 i) ?_)⟩⟩⟩⟩
    have e1 := dp_fl_s (f := f) (g := dp_fn pr) (t := t) (i := i)
    rw [e1]
    exact ih (i + 1) (by omega)
end CX
section CY
variable {f_count f_height : Int32} {a_list a_there a_above a_tags a_values a_held a_twin a_kinds a_args a_sizes a_isPath a_rows a_spare a_isSet a_alive a_edited a_watchNode a_before : Nat → Int32} {c a k t p : Nat} {o lv : Nat → Nat} {pr : Int32} {tg vs above : Nat → Int32}
/-- what the reference has of the copies after i of them -/
def dp_Cp (c : Nat) (o : Nat → Nat) (l : Nat → Nat) (pr : Int32) (a p : Nat) (above : Nat → Int32) (i : Nat) (ab tw hd : Nat → Int32) : Prop :=
  (∀ r, r < c → ab (o r) = above (o r)) ∧ (∀ j, j < i → tw (o (a + j)) = nI (dp_fn pr j) ∧ hd j = nI (dp_fn pr j)) ∧ (0 < i → ab (dp_fn pr 0) = nI (o p)) ∧ ∀ j j', 0 < j → j < i → dp_pa l (a + j) = a + j' → ab (dp_fn pr j) = nI (dp_fn pr j')
theorem yy_copy_l (T : dp_Tr c o lv pr) (B : dp_Ab c o (fun r => lv (o r)) above) (E : dp_Ed (fun r => lv (o r)) c a (a + k)) (hck : c + k ≤ 32) {post : Int32 → SY → Prop} (h : ∀ ab tw hd, dp_Cp c o (fun r => lv (o r)) pr a p above k ab tw hd → wY_copy_81 post (nI (o p)) (nI a) (nI k) (nI t) (nI c) f_height 1 (nI k) (fun j => nI (o j)) (dp_th (dp_ps pr k)) ab (dp_fU tg (dp_fn pr) (fun i => tg (o (a + i))) k) (dp_fU vs (dp_fn pr) (fun i => vs (o (a + i))) k) hd tw a_kinds a_args a_sizes a_isPath a_rows a_spare a_isSet a_alive a_edited a_watchNode a_before) : ∀ d i ab tw hd, i + d = k → dp_Cp c o (fun r => lv (o r)) pr a p above i ab tw hd → wY_copy_81 post (nI (o p)) (nI a) (nI k) (nI t) (nI c) f_height (d + 1) (nI i) (fun j => nI (o j)) (dp_th (dp_ps pr i)) ab (dp_fU tg (dp_fn pr) (fun i => tg (o (a + i))) i) (dp_fU vs (dp_fn pr) (fun i => vs (o (a + i))) i) hd tw a_kinds a_args a_sizes a_isPath a_rows a_spare a_isSet a_alive a_edited a_watchNode a_before := by
  have ho := T.1.2.2.1
  have hfc := T.2.2
  have e2 := E.2.1
  have hmj := dp_inj_sub (k := k) (a := a) T.1 e2
  have hpr : ∀ r, r < c → bt pr (o r) = true := fun r hr => (T.2.1 _).mpr ⟨r, hr, rfl⟩
  intro d
  induction d with
  | zero =>
    intro i ab tw hd hi H
    obtain rfl : i = k := by omega
    exact h ab tw hd H
  | succ d ih =>
    intro i ab tw hd hi H
    obtain ⟨c1, c2, c3, c4⟩ := H
    have oi := ho (a + i)
    have ne : ∀ j r, j < k → r < c → dp_fn pr j ≠ o r := fun j r hj hr e => by
      have := dp_fn_new hfc hck hj
      rw [e, hpr r hr] at this; cases this
    have rt : dp_fU tg (dp_fn pr) (fun i => tg (o (a + i))) i (o (a + i)) = tg (o (a + i)) := dp_fU_n (fun j hj => ne j (a + i) (by omega) (by omega))
    have rv : dp_fU vs (dp_fn pr) (fun i => vs (o (a + i))) i (o (a + i)) = vs (o (a + i)) := dp_fU_n (fun j hj => ne j (a + i) (by omega) (by omega))
    have n32 := (dp_fn_spec hfc hck (show i < k by omega)).2
    -- the last step of a turn, for the parent's number w
    have go : ∀ w : Int32, (i = 0 → w = nI (o p)) → (∀ j', 0 < i → dp_pa (fun r => lv (o r)) (a + i) = a + j' → w = nI (dp_fn pr j')) → wY_copy_150 post (wY_copy_81 post (nI (o p)) (nI a) (nI k) (nI t) (nI c) f_height (d + 1)) (nI (o p)) (nI a) (nI k) (nI t) (nI i) (nI (o (a + i))) (nI (dp_fn pr i)) w (nI (dp_fn pr i)) (nI c) f_height (fun j => nI (o j)) (dp_th (dp_ps pr (i + 1))) ab (dp_fU tg (dp_fn pr) (fun i => tg (o (a + i))) i) (dp_fU vs (dp_fn pr) (fun i => vs (o (a + i))) i) hd (upd tw (o (a + i)) (nI (dp_fn pr i))) a_kinds a_args a_sizes a_isPath a_rows a_spare a_isSet a_alive a_edited a_watchNode a_before := fun w w0 w1 => by
      unfold wY_copy_150
      simp only [dp_cl32 n32, dp_cl32 oi, dp_cl32 (show i < 32 by omega), rt, rv]
      refine ⟨dp_v32 n32, nm_e ⟨dp_v32 oi, dp_v32 n32, nm_e ⟨dp_v32 oi, dp_v32 n32, nm_e ⟨dp_v32 (by omega), nm_e (nm_r (nI_1 i) (ih (i + 1) _ _ _ (by omega) ⟨fun r hr => ?_, fun j hj => ?_, fun _ => ?_, fun j j' h0 hj hj' => ?_⟩))⟩⟩⟩⟩
      · rw [pk_un (fun e => ne i r (by omega) hr e.symm)]; exact c1 r hr
      · by_cases y : j = i
        · subst y; exact ⟨pk_us, pk_us⟩
        · rw [pk_un (fun e => y (hmj j i (by omega) (by omega) e)), pk_un y]
          exact c2 j (by omega)
      · by_cases y : i = 0
        · subst y
          rw [pk_us]; exact w0 rfl
        · rw [pk_un (fun e => y (dp_fn_inj hfc hck 0 i (by omega) (by omega) e).symm)]
          exact c3 (by omega)
      · by_cases y : j = i
        · subst y
          rw [pk_us]; exact w1 j' h0 hj'
        · rw [pk_un (fun e => y (dp_fn_inj hfc hck j i (by omega) (by omega) e))]
          exact c4 j j' h0 (by omega) hj'
    refine br_f (nI_ge (by omega) (by omega)) ?_
    rw [nI_add]
    refine ⟨dp_v32 (by omega), nm_r (e' := nI (o (a + i))) (by rw [dp_cl32 (show a + i < 32 by omega)]) (yy_newNumber ?_)⟩
    change vp_in (nI (dp_fn pr i)) 32 ∧ _
    refine ⟨dp_v32 n32, nm_r (e' := dp_th (dp_ps pr (i + 1))) (by rw [show dp_ln (dp_ps pr i) = dp_fn pr i from rfl, dp_cl32 n32]; exact dp_th_set n32) ⟨dp_v32 oi, nm_r (e' := upd tw (o (a + i)) (nI (dp_fn pr i))) (by rw [dp_cl32 oi]; rfl) (br_c (fun y => ?_) (fun y => ⟨dp_v32 oi, ?_⟩))⟩⟩
    · have i0 : i = 0 := dp_inj (b := 0) (by omega) (by decide) y
      exact go _ (fun _ => rfl) (fun _ q => by omega)
    · have i0 : 0 < i := by
        rcases Nat.eq_zero_or_pos i with x | x
        · exact absurd (by rw [x]; rfl) y
        · exact x
      obtain ⟨j, hj, ej, -⟩ := dp_pa_sub T.1.2.2.2.2 E i0 (show i < k by omega)
      have oj := ho (a + j)
      have e1 : ab (o (a + i)) = nI (o (a + j)) := by
        rw [c1 (a + i) (by omega), B (a + i) (by omega), if_neg (by omega), ej]
      rw [dp_cl32 oi, e1]
      refine ⟨dp_v32 oj, ?_⟩
      rw [dp_cl32 oj, pk_un (fun e => by have := hmj j i (by omega) (by omega) e; omega), (c2 j hj).1]
      refine go _ (fun q => by omega) (fun j' _ hj' => ?_)
      rw [show j = j' from by omega]
end CY
theorem i_vc_copy {k : Nat} {u : SX} {v : SY} (I : i_Rel k u v) (hk : k + 4 ≤ 2048) (v1 : Int32) (v2 : Int32) (v3 : Int32) : wpX_copy (fun r u' => wpY_copy (fun r' v' => r' = r ∧ i_Rel (k + 4) u' v') v v1 v2 v3) u v1 v2 v3 := by
  obtain ⟨c, o, lv, pr, tg, vs, K, N, A, S, ranks, ends, parents, kx, ax, lx, isp, above, al, ed, xw, xs, xb, yw, yb, run, rows, mem, held, twin, yp, yr, sp, h, hy, rfl, rfl, R⟩ := I
  have R' := R
  obtain ⟨T, hv, X, B, G, Q, W⟩ := R'
  have ho := T.1.2.2.1
  have hc := T.1.1
  unfold wpX_copy
  rcases dp_node T v1 with e | ⟨a, ha, rfl⟩
  · refine xx_no e (br_t rfl ?_)
    show wpY_copy _ _ _ _ _
    unfold wpY_copy
    exact yy_no e (br_t rfl ⟨rfl, dp_rel R⟩)
  rcases dp_node T v2 with e | ⟨p, hp, rfl⟩
  · refine xx_yes T ha (br_f (by decide) (xx_no e (br_t rfl ?_)))
    show wpY_copy _ _ _ _ _
    unfold wpY_copy
    exact yy_yes T ha (br_f (by decide) (yy_no e (br_t rfl ⟨rfl, dp_rel R⟩)))
  refine xx_yes T ha (br_f (by decide) (xx_yes T hp (br_f (by decide) ?_)))
  by_cases t0 : v3 < 0
  · refine br_t t0 ?_
    show wpY_copy _ _ _ _ _
    unfold wpY_copy
    exact yy_yes T ha (br_f (by decide) (yy_yes T hp (br_f (by decide) (br_t t0 ⟨rfl, dp_rel R⟩))))
  refine br_f t0 (xx_countChildren T.1 X hp ?_)
  by_cases tj : ¬ v3 ≤ nI (dp_fc (dp_ch (fun r => lv (o r)) p) c)
  · refine br_f tj ?_
    show wpY_copy _ _ _ _ _
    unfold wpY_copy
    exact yy_yes T ha (br_f (by decide) (yy_yes T hp (br_f (by decide) (br_f t0 (yy_childrenOf T.1 B hp (br_f tj ⟨rfl, dp_rel R⟩))))))
  replace tj := Classical.not_not.mp tj
  have E0 := dp_en_spec (fun r => lv (o r)) ha
  obtain ⟨m, hm⟩ : ∃ m, dp_en (fun r => lv (o r)) c a = a + m := ⟨dp_en (fun r => lv (o r)) c a - a, by have := E0.1; omega⟩
  have E : dp_Ed (fun r => lv (o r)) c a (a + m) := by rw [← hm]; exact E0
  have e1 := E.1
  have e2 := E.2.1
  have sz : nI c + ends (nI (o a)).toNatClampNeg - ranks (nI (o a)).toNatClampNeg = nI (c + m) := by
    rw [dp_cl32 (ho a), (X.1 a ha).1, (X.1 a ha).2, hm, nI_add, pk_sub (by omega), show c + (a + m) - a = c + m from by omega]
  have szY : nI (a + m) - nI a = nI m := by rw [pk_sub (by omega), Nat.add_sub_cancel_left]
  refine br_t tj ⟨dp_v32 (ho a), dp_v32 (ho a), ?_⟩
  rw [sz]
  by_cases full : ¬ c + m ≤ 32
  · refine br_f (nI_ge (b := c + m) (a := 32) (by omega) (by omega)) ?_
    show wpY_copy _ _ _ _ _
    unfold wpY_copy
    refine yy_yes T ha (br_f (by decide) (yy_yes T hp (br_f (by decide) (br_f t0 (yy_childrenOf T.1 B hp (br_t tj (yy_place T.1 ha (yy_endOf T.1 B ha ?_))))))))
    refine nm_r (e' := nI m) (by rw [hm, szY]) ?_
    rw [nI_add]
    exact br_f (nI_ge (b := c + m) (a := 32) (by omega) (by omega)) ⟨rfl, dp_rel R⟩
  replace full := Classical.not_not.mp full
  have Gp := dp_gr_Gp (p := v3) T.1.2.2.2.2 hp
  obtain ⟨T', A'⟩ := dp_cp_T (ab := above) T full Gp E
  generalize ht : dp_gr (fun r => lv (o r)) c p v3 = t at *
  have tc := Gp.2.1
  have hpr : ∀ i, i < m → bt pr (o (a + i)) = true := fun i hi => (T.2.1 _).mpr ⟨a + i, by omega, rfl⟩
  have lvl : ∀ i, i < m → lv (o a) ≤ lv (o (a + i)) := fun i hi => by
    rcases Nat.eq_zero_or_pos i with w | w
    · rw [w]; exact Nat.le_refl _
    · exact Nat.le_of_lt (E.2.2.1 (a + i) (by omega) (by omega))
  have hv' : ∀ n, dp_fU vs (dp_fn pr) (fun i => vs (o (a + i))) m n ≤ 99 := dp_fU_P (P := fun x => x ≤ 99) hv (fun i => hv _) m
  refine br_t (nI_le (b := 32) full (by decide)) (xx_noteRun ho hc e2 (X.1 a ha).1 (by rw [(X.1 a ha).2, hm]) (fun ru Hr => ⟨dp_v32 (ho p), dp_v32 (ho a), nm_r (e' := nI (lv (o p)) + 1 - nI (lv (o a))) (by rw [dp_cl32 (ho p), dp_cl32 (ho a)]) (xx_rankForChild T.1 X hp ?_)⟩))
  rw [ht]
  refine xx_openGap (by omega) full tc ⟨m + 1, ?_⟩
  rw [← dp_fl_0 (dp_og o c t m) t (dp_fn pr)]
  refine xx_copy_l (lp := lv (o p)) (a := a) (k := m) (t := t) (f := dp_og o c t m) (pr := pr) (tg := tg) (vs := vs) ho T.2.2 full hpr (by omega) Hr lvl (br_t (nI_le (Nat.le_refl _) (by omega)) ?_) m 0 (Nat.zero_add m)
  have t32 : t < 32 := by omega
  refine xx_indexTree T'.1 (fun ra2 en2 pp2 X2 => xx_refresh T' X2 hv' G (dp_hw W) (fun R1 m1 xs1 xb1 H1 => ⟨dp_v32 t32, ?_⟩))
  rw [dp_cl32 t32]
  have f0 : nI (dp_fl (dp_og o c t m) t m (dp_fn pr) t) = nI (dp_fn pr 0) := congrArg nI (dp_fl_mid (f := dp_og o c t m) (g := dp_fn pr) (t := t) (k := m) (i := 0) (by omega))
  show wpY_copy _ _ _ _ _
  unfold wpY_copy
  refine yy_yes T ha (br_f (by decide) (yy_yes T hp (br_f (by decide) (br_f t0 (yy_childrenOf T.1 B hp (br_t tj (yy_place T.1 ha (yy_endOf T.1 B ha ?_))))))))
  refine nm_r (e' := nI m) (by rw [hm, szY]) ?_
  rw [nI_add]
  refine br_t (nI_le (b := 32) full (by decide)) (yy_noteEdit T B G W (fun hy2 R2 P2 Z2 ed2 yb2 H2 => yy_gapFor T.1 B hp ?_))
  rw [ht]
  refine ⟨m + 1, yy_copy_l (p := p) (t := t) (tg := tg) (vs := vs) T B E full (fun ab tw hd H => br_t (nI_le (Nat.le_refl _) (by omega)) ?_) m 0 _ _ _ (Nat.zero_add m) ⟨fun _ _ => rfl, fun j hj => absurd hj (Nat.not_lt_zero j), fun q => absurd q (by decide), fun j j' _ hj => absurd hj (Nat.not_lt_zero j)⟩⟩
  obtain ⟨c1, c2, c3, c4⟩ := H
  refine nm_r (e' := nI (dp_fn pr 0)) (c2 0 (by omega)).2 (yy_putIn (g := dp_fn pr) (by omega) full tc (fun i hi => (c2 i hi).2) ⟨f0.symm, dp_rel ⟨T', hv', X2, A' ab B c1 (c3 (by omega)) (fun i j h0 hi hj => c4 i j h0 hi hj), G, Q, dp_Wa_edit W H1 H2 (dp_L_same W (fun w z => ?_))⟩⟩)
  exact (dp_ps_bt T.2.2 full w m (Nat.le_refl _)).mpr (Or.inl z)
end
section
/-! a new object -/
section NX
variable {f_size f_present f_height : Int32} {a_order a_levels a_tags a_values a_ranks a_ends a_parents a_run a_kinds a_numbers a_lengths a_entryIsPath a_rows a_members a_wasSet a_watchNode a_selects a_selectedBefore : Nat → Int32}
theorem xx_init_l (T : dp_Tc 1 (fun _ => 0) (fun _ => 0)) {post : SX → Prop} (h : ∀ w' ra en pa : Nat → Int32, (∀ s, s < 3 → w' s = -1) → dp_TX 1 (fun _ => 0) (fun _ => 0) ra en pa → post ((nI 1), f_present, f_height, (fun _ => nI 0), (fun _ => nI 0), a_tags, a_values, ra, en, pa, a_run, a_kinds, a_numbers, a_lengths, a_entryIsPath, a_rows, a_members, a_wasSet, w', a_selects, a_selectedBefore)) : ∀ d i (w' : Nat → Int32), i + d = 3 → (∀ s, s < i → w' s = -1) → wX_init_163 post (nI 1) f_present f_height (d + 1) (nI i) (fun _ => nI 0) (fun _ => nI 0) a_tags a_values a_ranks a_ends a_parents a_run a_kinds a_numbers a_lengths a_entryIsPath a_rows a_members a_wasSet w' a_selects a_selectedBefore := by
  intro d
  induction d with
  | zero =>
    intro i w' hi H
    obtain rfl : i = 3 := by omega
    exact br_t dp_le3 (xx_indexTree (c := 1) (o := fun _ => 0) (lv := fun _ => 0) T (fun ra en pa X => h w' ra en pa H X))
  | succ d ih =>
    intro i w' hi H
    refine br_f (dp_ge3 (by omega)) ⟨dp_v3 (by omega), ?_⟩
    rw [nI_clamp (show i < 2 ^ 31 by omega)]
    refine nm_e (nm_r (nI_1 i) (ih (i + 1) _ (by omega) (fun s hs => ?_)))
    by_cases y : s = i
    · subst y; exact pk_us
    · rw [pk_un y]; exact H s (by omega)
end NX
theorem dp_T0 : dp_Tr 1 (fun _ => 0) (fun _ => 0) 1 := by
  refine ⟨⟨by decide, rfl, fun _ => show 0 < 32 by decide, fun r s hr hs _ => by omega, ⟨by decide, rfl, fun r h0 hr => by omega⟩⟩, fun n => ?_, by decide +kernel⟩
  constructor
  · intro z
    have hn := dp_bt_lt z
    rw [dp_bt1 n hn, decide_eq_true_iff] at z
    exact ⟨0, by decide, z.symm⟩
  · rintro ⟨r, hr, e⟩
    rw [← e, dp_bt1 0 (by decide)]; rfl
theorem dp_th0 : upd (fun _ => 0) 0 (vp_nar .boolean 1) = dp_th 1 := by
  funext j
  show (if j = 0 then 1 else 0) = dp_c (bt 1 j)
  by_cases z : j = 0
  · rw [if_pos z, z, dp_bt1 0 (by decide)]; rfl
  · rw [if_neg z]
    rcases Nat.lt_or_ge j 32 with y | y
    · rw [dp_bt1 j y, decide_eq_false z]; rfl
    · rw [b_big y]; rfl
theorem dp_or0 : upd (fun _ => (0 : Int32)) 0 0 = fun _ => nI 0 := by
  funext j
  show (if j = 0 then (0 : Int32) else 0) = nI 0
  split <;> rfl
theorem dp_wt0 (kn : Nat → Nat) (an : Nat → Int32) : dp_WT kn an 0 := fun i hi => absurd hi (Nat.not_lt_zero i)
theorem i_vc0 : wpX_init (fun u => wpY_init (fun v => i_Rel 0 u v)) := by
  unfold wpX_init
  refine nm_r dp_or0 ⟨4, xx_init_l dp_T0.1 (fun w' ra en pa H X => ?_) 3 0 _ rfl (fun s hs => absurd hs (Nat.not_lt_zero s))⟩
  unfold wpY_init
  refine nm_r dp_th0 (nm_e ?_)
  refine dp_rel (c := 1) (o := fun _ => 0) (lv := fun _ => 0) (K := fun _ => 0) (N := fun _ => 0) ⟨dp_T0, fun _ => show (0 : Int32) ≤ 99 by decide, X, fun r hr => ?_, fun w hw => ⟨Nat.zero_le _, dp_wt0 _ _, rfl, fun i hi => absurd hi (Nat.not_lt_zero i)⟩, ⟨rfl, fun e he => absurd he (Nat.not_lt_zero e)⟩, fun s hs => ⟨Or.inl rfl, Or.inl rfl, Or.inl ⟨rfl, H s hs, rfl⟩, fun q => absurd q.1 (show ¬ (0 : Int32) = 1 by decide), fun _ => rfl⟩⟩
  obtain rfl : r = 0 := by omega
  rfl
end
