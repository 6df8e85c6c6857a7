/-! counting, picking, folds into a set -/
def dp_fc (P : Nat → Bool) : Nat → Nat
  | 0 => 0
  | k + 1 => dp_fc P k + (if P k = true then 1 else 0)
theorem dp_fc_t {P : Nat → Bool} {k : Nat} (h : P k = true) : dp_fc P (k + 1) = dp_fc P k + 1 := by
  show dp_fc P k + (if P k = true then 1 else 0) = _
  rw [if_pos h]
theorem dp_fc_f {P : Nat → Bool} {k : Nat} (h : P k = false) : dp_fc P (k + 1) = dp_fc P k := by
  show dp_fc P k + (if P k = true then 1 else 0) = _
  rw [h]; rfl
theorem dp_fc_le (P : Nat → Bool) : ∀ k, dp_fc P k ≤ k
  | 0 => Nat.le_refl _
  | k + 1 => by
    have := dp_fc_le P k
    cases h : P k
    · rw [dp_fc_f h]; omega
    · rw [dp_fc_t h]; omega
theorem dp_fc_congr {P Q : Nat → Bool} : ∀ {k : Nat}, (∀ i, i < k → P i = Q i) → dp_fc P k = dp_fc Q k
  | 0, _ => rfl
  | k + 1, h => by
    have e := dp_fc_congr (P := P) (Q := Q) (k := k) (fun i hi => h i (by omega))
    show dp_fc P k + (if P k = true then 1 else 0) = dp_fc Q k + (if Q k = true then 1 else 0)
    rw [e, h k (by omega)]
theorem dp_fc_const {P : Nat → Bool} {a : Nat} : ∀ {b : Nat}, a ≤ b → (∀ i, a ≤ i → i < b → P i = false) → dp_fc P b = dp_fc P a
  | 0, h, _ => by rw [show a = 0 from by omega]
  | b + 1, h, hp => by
    rcases Nat.lt_or_ge b a with z | z
    · rw [show a = b + 1 from by omega]
    · rw [dp_fc_f (hp b z (by omega))]
      exact dp_fc_const z (fun i h1 h2 => hp i h1 (by omega))
theorem dp_fc_none {P : Nat → Bool} {k : Nat} (h : ∀ i, i < k → P i = false) : dp_fc P k = 0 := dp_fc_const (a := 0) (Nat.zero_le _) (fun i _ hi => h i hi)
theorem dp_fc_full {P : Nat → Bool} : ∀ {k : Nat}, (∀ i, i < k → P i = true) → dp_fc P k = k
  | 0, _ => rfl
  | k + 1, h => by rw [dp_fc_t (h k (by omega)), dp_fc_full (fun i hi => h i (by omega))]
theorem dp_fc_ex {P : Nat → Bool} {k : Nat} (h : dp_fc P k < k) : ∃ i, i < k ∧ P i = false := by
  apply Classical.byContradiction
  intro z
  have : dp_fc P k = k := dp_fc_full fun i hi => by
    cases hb : P i
    · exact absurd ⟨i, hi, hb⟩ z
    · rfl
  omega
theorem dp_fc_set {P : Nat → Bool} {n : Nat} (hp : P n = false) : ∀ {k : Nat}, n < k → dp_fc (fun i => P i || decide (i = n)) k = dp_fc P k + 1
  | 0, h => by omega
  | k + 1, h => by
    rcases Nat.lt_or_ge n k with z | z
    · have e := dp_fc_set hp z
      have e2 : (P k || decide (k = n)) = P k := by rw [decide_eq_false (by omega), Bool.or_false]
      cases hk : P k
      · rw [dp_fc_f (P := fun i => P i || decide (i = n)) (e2.trans hk), dp_fc_f hk, e]
      · rw [dp_fc_t (P := fun i => P i || decide (i = n)) (e2.trans hk), dp_fc_t hk, e]
    · obtain rfl : k = n := by omega
      rw [dp_fc_t (P := fun i => P i || decide (i = k)) (by rw [decide_eq_true rfl, Bool.or_true]), dp_fc_f hp]
      rw [dp_fc_congr (P := fun i => P i || decide (i = k)) (Q := P) (fun i hi => by rw [decide_eq_false (by omega), Bool.or_false])]
theorem dp_fc_clr {P : Nat → Bool} {n : Nat} (hp : P n = true) : ∀ {k : Nat}, n < k → dp_fc (fun i => P i && !decide (i = n)) k + 1 = dp_fc P k
  | 0, h => by omega
  | k + 1, h => by
    rcases Nat.lt_or_ge n k with z | z
    · have e := dp_fc_clr hp z
      have e2 : (P k && !decide (k = n)) = P k := by rw [decide_eq_false (by omega), Bool.not_false, Bool.and_true]
      cases hk : P k
      · rw [dp_fc_f (P := fun i => P i && !decide (i = n)) (e2.trans hk), dp_fc_f hk, e]
      · rw [dp_fc_t (P := fun i => P i && !decide (i = n)) (e2.trans hk), dp_fc_t hk, e]
    · obtain rfl : k = n := by omega
      rw [dp_fc_f (P := fun i => P i && !decide (i = k)) (by rw [decide_eq_true rfl, Bool.not_true, Bool.and_false]), dp_fc_t hp]
      rw [dp_fc_congr (P := fun i => P i && !decide (i = k)) (Q := P) (fun i hi => by rw [decide_eq_false (by omega), Bool.not_false, Bool.and_true])]
/-- the first place below r whose number among the true ones is k -/
def dp_fk (P : Nat → Bool) (k : Int32) : Nat → Option Nat
  | 0 => none
  | r + 1 => match dp_fk P k r with
    | some i => some i
    | none => if P r = true ∧ nI (dp_fc P r) = k then some r else none
theorem dp_fk_s {P : Nat → Bool} {k : Int32} {r i : Nat} (h : dp_fk P k r = some i) : dp_fk P k (r + 1) = some i := by simp only [dp_fk, h]
theorem dp_fk_hit {P : Nat → Bool} {k : Int32} {r : Nat} (h : dp_fk P k r = none) (hp : P r = true) (hk : nI (dp_fc P r) = k) : dp_fk P k (r + 1) = some r := by simp only [dp_fk, h]; rw [if_pos ⟨hp, hk⟩]
theorem dp_fk_miss {P : Nat → Bool} {k : Int32} {r : Nat} (h : dp_fk P k r = none) (hp : ¬ (P r = true ∧ nI (dp_fc P r) = k)) : dp_fk P k (r + 1) = none := by simp only [dp_fk, h]; rw [if_neg hp]
theorem dp_fk_up {P : Nat → Bool} {k : Int32} {i a : Nat} (h : dp_fk P k a = some i) : ∀ {b : Nat}, a ≤ b → dp_fk P k b = some i
  | 0, hb => by rw [show a = 0 from by omega] at h; exact h
  | b + 1, hb => by
    rcases Nat.lt_or_ge b a with z | z
    · rw [show b + 1 = a from by omega]; exact h
    · exact dp_fk_s (dp_fk_up h z)
theorem dp_fk_const {P : Nat → Bool} {k : Int32} {a : Nat} : ∀ {b : Nat}, a ≤ b → (∀ i, a ≤ i → i < b → P i = false) → dp_fk P k b = dp_fk P k a
  | 0, hb, _ => by rw [show a = 0 from by omega]
  | b + 1, hb, hp => by
    rcases Nat.lt_or_ge b a with z | z
    · rw [show b + 1 = a from by omega]
    · have e := dp_fk_const (k := k) z (fun i h1 h2 => hp i h1 (by omega))
      have hf := hp b z (by omega)
      rw [← e]
      cases h : dp_fk P k b with
      | none => exact dp_fk_miss h (fun q => by rw [hf] at q; exact absurd q.1 (by decide))
      | some i => exact dp_fk_s h
theorem dp_fk_none {P : Nat → Bool} {k : Int32} {b : Nat} (h : ∀ i, i < b → P i = false) : dp_fk P k b = none := dp_fk_const (a := 0) (Nat.zero_le _) (fun i _ hi => h i hi)
theorem dp_fk_some {P : Nat → Bool} {k : Int32} {i : Nat} : ∀ {b : Nat}, dp_fk P k b = some i → i < b ∧ P i = true ∧ nI (dp_fc P i) = k
  | 0, h => by cases h
  | b + 1, h => by
    cases e : dp_fk P k b with
    | some j =>
      rw [dp_fk_s e] at h
      obtain rfl : j = i := by injection h
      obtain ⟨h1, h2⟩ := dp_fk_some e
      exact ⟨by omega, h2⟩
    | none =>
      by_cases q : P b = true ∧ nI (dp_fc P b) = k
      · rw [dp_fk_hit e q.1 q.2] at h
        obtain rfl : b = i := by injection h
        exact ⟨by omega, q⟩
      · rw [dp_fk_miss e q] at h; cases h
theorem dp_fk_neg {P : Nat → Bool} {k : Int32} (hk : k < 0) : ∀ {b : Nat}, b < 2 ^ 31 → dp_fk P k b = none
  | 0, _ => rfl
  | b + 1, hb => by
    refine dp_fk_miss (dp_fk_neg hk (by omega)) (fun q => ?_)
    rw [← q.2] at hk
    exact nI_pos (Nat.lt_of_le_of_lt (dp_fc_le P b) (by omega)) hk
/-- if fewer than j + 1 are true, none is picked; if more, one is -/
theorem dp_fk_lt {P : Nat → Bool} {j : Nat} : ∀ {b : Nat}, b < 2 ^ 31 → j < dp_fc P b → ∃ i, dp_fk P (nI j) b = some i
  | 0, _, h => by exact absurd h (Nat.not_lt_zero _)
  | b + 1, hb, h => by
    cases e : dp_fk P (nI j) b with
    | some i => exact ⟨i, dp_fk_s e⟩
    | none =>
      cases hp : P b
      · rw [dp_fc_f hp] at h
        obtain ⟨i, hi⟩ := dp_fk_lt (by omega) h
        rw [e] at hi; cases hi
      · rw [dp_fc_t hp] at h
        rcases Nat.lt_or_ge j (dp_fc P b) with z | z
        · obtain ⟨i, hi⟩ := dp_fk_lt (by omega) z
          rw [e] at hi; cases hi
        · exact ⟨b, dp_fk_hit e hp (by rw [show dp_fc P b = j from by omega])⟩
theorem dp_fk_congr {P Q : Nat → Bool} {k : Int32} : ∀ {b : Nat}, (∀ i, i < b → P i = Q i) → dp_fk P k b = dp_fk Q k b
  | 0, _ => rfl
  | b + 1, h => by
    have e := dp_fk_congr (k := k) (b := b) (fun i hi => h i (by omega))
    have e2 := dp_fc_congr (k := b) (fun i hi => h i (by omega))
    simp only [dp_fk]
    rw [e, e2, h b (by omega)]
/-- what is picked, as an answer -/
def dp_an (o : Nat → Nat) (d : Int32) : Option Nat → Int32
  | some i => nI (o i)
  | none => d
/-- a set, filled by numbers -/
def dp_mk (P : Nat → Bool) : Nat → Int32
  | 0 => 0
  | k + 1 => if P k = true then dp_mk P k ||| dp_bo k else dp_mk P k
theorem dp_mk_t {P : Nat → Bool} {k : Nat} (h : P k = true) : dp_mk P (k + 1) = dp_mk P k ||| dp_bo k := if_pos h
theorem dp_mk_f {P : Nat → Bool} {k : Nat} (h : ¬ P k = true) : dp_mk P (k + 1) = dp_mk P k := if_neg h
theorem dp_mk_bt (P : Nat → Bool) : ∀ k, k ≤ 32 → ∀ i, bt (dp_mk P k) i = (decide (i < k) && P i)
  | 0, _, i => by show bt 0 i = _; rw [b_0]; simp
  | k + 1, hk, i => by
    have ih := dp_mk_bt P k (by omega) i
    by_cases h : P k = true
    · rw [dp_mk_t h, dp_bt_or _ (by omega), ih]
      by_cases e : i = k
      · subst e; rw [h]; simp
      · rw [decide_eq_false e, Bool.or_false]
        rcases Nat.lt_or_ge i k with z | z
        · rw [decide_eq_true z, decide_eq_true (show i < k + 1 by omega)]
        · rw [decide_eq_false (show ¬ i < k by omega), decide_eq_false (show ¬ i < k + 1 by omega)]
    · rw [dp_mk_f h, ih]
      by_cases e : i = k
      · subst e
        rw [Bool.eq_false_iff.mpr h, Bool.and_false, Bool.and_false]
      · rcases Nat.lt_or_ge i k with z | z
        · rw [decide_eq_true z, decide_eq_true (show i < k + 1 by omega)]
        · rw [decide_eq_false (show ¬ i < k by omega), decide_eq_false (show ¬ i < k + 1 by omega)]
theorem dp_mk_32 (P : Nat → Bool) {i : Nat} (hi : i < 32) : bt (dp_mk P 32) i = P i := by rw [dp_mk_bt P 32 (Nat.le_refl _), decide_eq_true hi, Bool.true_and]
theorem dp_mk_congr {P Q : Nat → Bool} : ∀ {k : Nat}, (∀ i, i < k → P i = Q i) → dp_mk P k = dp_mk Q k
  | 0, _ => rfl
  | k + 1, h => by
    have e := dp_mk_congr (P := P) (Q := Q) (k := k) (fun i hi => h i (by omega))
    show (if P k = true then dp_mk P k ||| dp_bo k else dp_mk P k) = (if Q k = true then dp_mk Q k ||| dp_bo k else dp_mk Q k)
    rw [e, h k (by omega)]
/-- a set, filled by ranks -/
def dp_fr (o : Nat → Nat) (P : Nat → Bool) : Nat → Int32
  | 0 => 0
  | r + 1 => if P r = true then dp_fr o P r ||| dp_bo (o r) else dp_fr o P r
theorem dp_fr_t {o : Nat → Nat} {P : Nat → Bool} {k : Nat} (h : P k = true) : dp_fr o P (k + 1) = dp_fr o P k ||| dp_bo (o k) := if_pos h
theorem dp_fr_f {o : Nat → Nat} {P : Nat → Bool} {k : Nat} (h : ¬ P k = true) : dp_fr o P (k + 1) = dp_fr o P k := if_neg h
theorem dp_fr_bt (o : Nat → Nat) (P : Nat → Bool) : ∀ c, (∀ r, r < c → o r < 32) → ∀ y, (bt (dp_fr o P c) y = true ↔ ∃ r, r < c ∧ o r = y ∧ P r = true)
  | 0, _, y => by
    show bt 0 y = true ↔ _
    rw [b_0]
    exact ⟨fun h => (by cases h), fun ⟨r, h, _⟩ => by omega⟩
  | c + 1, ho, y => by
    have ih := dp_fr_bt o P c (fun r hr => ho r (by omega)) y
    by_cases h : P c = true
    · rw [dp_fr_t h, dp_bt_or _ (ho c (by omega)), Bool.or_eq_true, ih, decide_eq_true_iff]
      constructor
      · rintro (⟨r, h1, h2⟩ | e)
        · exact ⟨r, by omega, h2⟩
        · exact ⟨c, by omega, e.symm, h⟩
      · rintro ⟨r, h1, h2, h3⟩
        rcases Nat.lt_or_ge r c with z | z
        · exact Or.inl ⟨r, z, h2, h3⟩
        · obtain rfl : r = c := by omega
          exact Or.inr h2.symm
    · rw [dp_fr_f h, ih]
      constructor
      · rintro ⟨r, h1, h2⟩
        exact ⟨r, by omega, h2⟩
      · rintro ⟨r, h1, h2, h3⟩
        rcases Nat.lt_or_ge r c with z | z
        · exact ⟨r, z, h2, h3⟩
        · obtain rfl : r = c := by omega
          exact absurd h3 h
theorem dp_fr_congr {o : Nat → Nat} {P Q : Nat → Bool} : ∀ {k : Nat}, (∀ i, i < k → P i = Q i) → dp_fr o P k = dp_fr o Q k
  | 0, _ => rfl
  | k + 1, h => by
    have e := dp_fr_congr (o := o) (P := P) (Q := Q) (k := k) (fun i hi => h i (by omega))
    show (if P k = true then dp_fr o P k ||| dp_bo (o k) else dp_fr o P k) = (if Q k = true then dp_fr o Q k ||| dp_bo (o k) else dp_fr o Q k)
    rw [e, h k (by omega)]
/-- is one below n true -/
def dp_any (P : Nat → Bool) : Nat → Bool
  | 0 => false
  | n + 1 => dp_any P n || P n
theorem dp_any_iff {P : Nat → Bool} : ∀ {n : Nat}, dp_any P n = true ↔ ∃ i, i < n ∧ P i = true
  | 0 => ⟨fun h => (by cases h), fun ⟨i, h, _⟩ => by omega⟩
  | n + 1 => by
    show (dp_any P n || P n) = true ↔ _
    rw [Bool.or_eq_true, dp_any_iff]
    constructor
    · rintro (⟨i, h1, h2⟩ | h)
      · exact ⟨i, by omega, h2⟩
      · exact ⟨n, by omega, h⟩
    · rintro ⟨i, h1, h2⟩
      rcases Nat.lt_or_ge i n with z | z
      · exact Or.inl ⟨i, z, h2⟩
      · obtain rfl : i = n := by omega
        exact Or.inr h2
