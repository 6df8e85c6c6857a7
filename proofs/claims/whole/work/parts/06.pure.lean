/-! least free number, fresh numbers -/
def dp_lf (P : Nat → Bool) : Nat → Nat → Nat
  | 0, n => n
  | d + 1, n => if P n = true then dp_lf P d (n + 1) else n
theorem dp_lf_t {P : Nat → Bool} {d n : Nat} (h : P n = true) : dp_lf P (d + 1) n = dp_lf P d (n + 1) := if_pos h
theorem dp_lf_f {P : Nat → Bool} {d n : Nat} (h : ¬ P n = true) : dp_lf P (d + 1) n = n := if_neg h
theorem dp_lf_spec (P : Nat → Bool) : ∀ d n, n + d = 31 → (∃ i, n ≤ i ∧ i < 32 ∧ P i = false) → P (dp_lf P d n) = false ∧ dp_lf P d n < 32
  | 0, n, hn, ⟨i, h1, h2, h3⟩ => by
    obtain rfl : i = n := by omega
    exact ⟨h3, h2⟩
  | d + 1, n, hn, ⟨i, h1, h2, h3⟩ => by
    by_cases h : P n = true
    · rw [dp_lf_t h]
      refine dp_lf_spec P d (n + 1) (by omega) ⟨i, ?_, h2, h3⟩
      rcases Nat.lt_or_ge n i with z | z
      · exact z
      · rw [show i = n from by omega, h] at h3; cases h3
    · rw [dp_lf_f h]
      exact ⟨Bool.eq_false_iff.mpr h, by omega⟩
def dp_ln (pr : Int32) : Nat := dp_lf (bt pr) 31 0
theorem dp_ln_spec {pr : Int32} (h : dp_fc (bt pr) 32 < 32) : bt pr (dp_ln pr) = false ∧ dp_ln pr < 32 := by
  obtain ⟨i, h1, h2⟩ := dp_fc_ex h
  exact dp_lf_spec (bt pr) 31 0 rfl ⟨i, Nat.zero_le _, h1, h2⟩
theorem dp_fc_or {pr : Int32} {n : Nat} (hn : n < 32) (h : bt pr n = false) : dp_fc (bt (pr ||| dp_bo n)) 32 = dp_fc (bt pr) 32 + 1 := by
  rw [← dp_fc_set h hn]
  exact dp_fc_congr fun i _ => dp_bt_or pr hn i
theorem dp_fc_cl {pr : Int32} {n : Nat} (hn : n < 32) (h : bt pr n = true) : dp_fc (bt (pr &&& (dp_bo n ^^^ (-1)))) 32 + 1 = dp_fc (bt pr) 32 := by
  rw [← dp_fc_clr h hn]
  exact congrArg (· + 1) (dp_fc_congr fun i hi => dp_bt_clr pr hn hi)
def dp_ps (pr : Int32) : Nat → Int32
  | 0 => pr
  | i + 1 => dp_ps pr i ||| dp_bo (dp_ln (dp_ps pr i))
def dp_fn (pr : Int32) (i : Nat) : Nat := dp_ln (dp_ps pr i)
theorem dp_ps_fc {pr : Int32} {c k : Nat} (hc : dp_fc (bt pr) 32 = c) (hk : c + k ≤ 32) : ∀ i, i ≤ k → dp_fc (bt (dp_ps pr i)) 32 = c + i
  | 0, _ => hc
  | i + 1, hi => by
    have ih := dp_ps_fc hc hk i (by omega)
    obtain ⟨h1, h2⟩ := dp_ln_spec (pr := dp_ps pr i) (by omega)
    show dp_fc (bt (dp_ps pr i ||| dp_bo (dp_ln (dp_ps pr i)))) 32 = _
    rw [dp_fc_or h2 h1, ih]
    omega
theorem dp_fn_spec {pr : Int32} {c k : Nat} (hc : dp_fc (bt pr) 32 = c) (hk : c + k ≤ 32) {i : Nat} (hi : i < k) : bt (dp_ps pr i) (dp_fn pr i) = false ∧ dp_fn pr i < 32 := dp_ln_spec (by rw [dp_ps_fc hc hk i (by omega)]; omega)
theorem dp_ps_bt {pr : Int32} {c k : Nat} (hc : dp_fc (bt pr) 32 = c) (hk : c + k ≤ 32) (n : Nat) : ∀ i, i ≤ k → (bt (dp_ps pr i) n = true ↔ bt pr n = true ∨ ∃ j, j < i ∧ dp_fn pr j = n)
  | 0, _ => ⟨Or.inl, fun h => h.elim id (fun ⟨j, hj, _⟩ => absurd hj (Nat.not_lt_zero _))⟩
  | i + 1, hi => by
    have ih := dp_ps_bt hc hk n i (by omega)
    have h2 := (dp_fn_spec hc hk (i := i) (by omega)).2
    show bt (dp_ps pr i ||| dp_bo (dp_fn pr i)) n = true ↔ _
    rw [dp_bt_or _ h2, Bool.or_eq_true, ih, decide_eq_true_iff]
    constructor
    · rintro ((h | ⟨j, h, e⟩) | h)
      · exact Or.inl h
      · exact Or.inr ⟨j, by omega, e⟩
      · exact Or.inr ⟨i, by omega, h.symm⟩
    · rintro (h | ⟨j, h, e⟩)
      · exact Or.inl (Or.inl h)
      · rcases Nat.lt_or_ge j i with z | z
        · exact Or.inl (Or.inr ⟨j, z, e⟩)
        · obtain rfl : j = i := by omega
          exact Or.inr e.symm
theorem dp_fn_new {pr : Int32} {c k : Nat} (hc : dp_fc (bt pr) 32 = c) (hk : c + k ≤ 32) {i : Nat} (hi : i < k) : bt pr (dp_fn pr i) = false := by
  have h := (dp_fn_spec hc hk hi).1
  cases e : bt pr (dp_fn pr i)
  · rfl
  · rw [(dp_ps_bt hc hk _ i (by omega)).mpr (Or.inl e)] at h; cases h
theorem dp_fn_lt {pr : Int32} {c k : Nat} (hc : dp_fc (bt pr) 32 = c) (hk : c + k ≤ 32) {i j : Nat} (hi : i < k) (hj : j < i) : dp_fn pr i ≠ dp_fn pr j := by
  intro e
  have h := (dp_fn_spec hc hk hi).1
  rw [(dp_ps_bt hc hk _ i (by omega)).mpr (Or.inr ⟨j, hj, e.symm⟩)] at h; cases h
theorem dp_fn_inj {pr : Int32} {c k : Nat} (hc : dp_fc (bt pr) 32 = c) (hk : c + k ≤ 32) (i j : Nat) (hi : i < k) (hj : j < k) (e : dp_fn pr i = dp_fn pr j) : i = j := by
  rcases Nat.lt_trichotomy i j with z | z | z
  · exact absurd e.symm (dp_fn_lt hc hk hj z)
  · exact z
  · exact absurd e (dp_fn_lt hc hk hi z)
/-! which nodes are there, as an array of booleans -/
def dp_th (pr : Int32) : Nat → Int32 := fun n => dp_c (bt pr n)
theorem dp_th_set {pr : Int32} {n : Nat} (hn : n < 32) : upd (dp_th pr) n 1 = dp_th (pr ||| dp_bo n) := by
  funext j
  show (if j = n then 1 else dp_c (bt pr j)) = dp_c (bt (pr ||| dp_bo n) j)
  rw [dp_bt_or _ hn]
  by_cases z : j = n
  · rw [if_pos z, decide_eq_true z, Bool.or_true]; rfl
  · rw [if_neg z, decide_eq_false z, Bool.or_false]
theorem dp_th_clr {pr : Int32} {n : Nat} (hn : n < 32) : upd (dp_th pr) n 0 = dp_th (pr &&& (dp_bo n ^^^ (-1))) := by
  funext j
  show (if j = n then 0 else dp_c (bt pr j)) = dp_c (bt (pr &&& (dp_bo n ^^^ (-1))) j)
  rcases Nat.lt_or_ge j 32 with y | y
  · rw [dp_bt_clr _ hn y]
    by_cases z : j = n
    · rw [if_pos z, decide_eq_true z, Bool.not_true, Bool.and_false]; rfl
    · rw [if_neg z, decide_eq_false z, Bool.not_false, Bool.and_true]
  · rw [if_neg (by omega), b_big y, b_big y]
/-! the conditions on both sides -/
section SC
variable {c : Nat} {o : Nat → Nat} {pr : Int32}
theorem dp_mkfr {P Q : Nat → Bool} (ho : ∀ r, o r < 32) (hp : ∀ n, bt pr n = true ↔ ∃ r, r < c ∧ o r = n) (h : ∀ r, r < c → Q r = P (o r)) : dp_mk (fun n => bt pr n && P n) 32 = dp_fr o Q c := by
  apply b_ext
  intro i hi
  rw [dp_mk_32 _ hi, Bool.eq_iff_iff, dp_fr_bt o Q c (fun r _ => ho r), Bool.and_eq_true, hp]
  constructor
  · rintro ⟨⟨r, h1, h2⟩, h3⟩
    exact ⟨r, h1, h2, by rw [h r h1, h2]; exact h3⟩
  · rintro ⟨r, h1, h2, h3⟩
    exact ⟨⟨r, h1, h2⟩, by rw [← h2, ← h r h1]; exact h3⟩
theorem dp_not_mk (pr p : Int32) : dp_mk (fun x => bt pr x && !bt p x) 32 = pr &&& (p ^^^ (-1)) := by
  apply b_ext
  intro i hi
  rw [dp_mk_32 _ hi, b_and, dp_bt_not _ hi]
theorem dp_has_mk {p : Nat → Int32} {a : Int32} (h1 : dp_PP pr p) (ha : 1 ≤ a) : dp_mk (fun x => bt pr x && decide (a ≤ nI (dp_fc (bt (p x)) 32))) 32 = dp_mk (fun x => decide (a ≤ nI (dp_fc (bt (p x)) 32))) 32 := dp_mk_congr fun x hx => by
  cases e : bt pr x
  · rw [decide_eq_false (dp_has0 h1 ha hx e), Bool.and_false]
  · rw [Bool.true_and]
/-- a node's partners by value, as the component makes them -/
def dp_al (c : Nat) (o : Nat → Nat) (vs : Nat → Int32) (least most : Int32) : Int32 := dp_fr o (fun r => decide (least ≤ vs (o r) ∧ vs (o r) ≤ most)) c
theorem dp_al_tag {tg : Nat → Int32} {a : Int32} : dp_al c o tg a a = dp_fr o (fun r => decide (tg (o r) = a)) c := dp_fr_congr fun r _ => by
  by_cases h : tg (o r) = a
  · rw [decide_eq_true h, decide_eq_true (by rw [h]; exact ⟨Int32.le_refl _, Int32.le_refl _⟩)]
  · rw [decide_eq_false h, decide_eq_false (fun z => h (Int32.le_antisymm z.2 z.1))]
theorem dp_al_least {vs : Nat → Int32} {a m : Int32} (hm : ∀ n, vs n ≤ m) : dp_al c o vs a m = dp_fr o (fun r => decide (a ≤ vs (o r))) c := dp_fr_congr fun r _ => by
  by_cases h : a ≤ vs (o r)
  · rw [decide_eq_true h, decide_eq_true ⟨h, hm _⟩]
  · rw [decide_eq_false h, decide_eq_false (fun z => h z.1)]
def dp_ma (c : Nat) (o : Nat → Nat) (vs : Nat → Int32) (p q : Nat → Int32) (r x : Nat) : Bool := bt (p x) (o r) && decide ((q x &&& dp_al c o vs (vs (o r)) (vs (o r))) ≠ 0)
theorem dp_ma_mt {vs : Nat → Int32} {p q : Nat → Int32} (ho : ∀ r, o r < 32) (hp : ∀ n, bt pr n = true ↔ ∃ r, r < c ∧ o r = n) (h1 : dp_PP pr p) (h2 : dp_PP pr q) {x : Nat} (hx : x < 32) : dp_any (fun r => dp_ma c o vs p q r x) c = dp_mt vs (p x) (q x) := by
  rw [Bool.eq_iff_iff, dp_any_iff]
  unfold dp_mt
  rw [dp_any_iff]
  constructor
  · rintro ⟨r, hr, h⟩
    unfold dp_ma at h
    rw [Bool.and_eq_true, decide_eq_true_iff, dp_nz] at h
    obtain ⟨g1, z, hz, g2⟩ := h
    rw [b_and, Bool.and_eq_true, dp_al_tag, dp_fr_bt _ _ _ (fun r _ => ho r)] at g2
    obtain ⟨g2, s, hs, e, g3⟩ := g2
    refine ⟨o r, ho r, dp_any_iff.mpr ⟨z, hz, ?_⟩⟩
    rw [Bool.and_eq_true, Bool.and_eq_true, decide_eq_true_iff]
    rw [e, decide_eq_true_iff] at g3
    exact ⟨⟨g1, g2⟩, g3.symm⟩
  · rintro ⟨y, hy, h⟩
    obtain ⟨z, hz, h⟩ := dp_any_iff.mp h
    rw [Bool.and_eq_true, Bool.and_eq_true, decide_eq_true_iff] at h
    obtain ⟨⟨g1, g2⟩, g3⟩ := h
    obtain ⟨r, hr, rfl⟩ := (hp y).mp (h1 x hx y g1).2
    obtain ⟨s, hs, rfl⟩ := (hp z).mp (h2 x hx z g2).2
    refine ⟨r, hr, ?_⟩
    unfold dp_ma
    rw [Bool.and_eq_true, decide_eq_true_iff, dp_nz]
    refine ⟨g1, o s, hz, ?_⟩
    rw [b_and, Bool.and_eq_true, dp_al_tag, dp_fr_bt _ _ _ (fun r _ => ho r)]
    exact ⟨g2, s, hs, rfl, by rw [decide_eq_true_iff]; exact g3.symm⟩
end SC
/-! turning in place -/
def dp_sw (x y a b : Nat) : Prop := (a < x ∧ b < x) ∨ (a = x ∧ b < y) ∨ (b = x ∧ a < y)
/-- the bits while the component turns: R by rows, p as they were -/
def dp_Sw (p R : Nat → Int32) (x y : Nat) : Prop := ∀ a, a < 32 → ∀ b, b < 32 → (dp_sw x y a b → bt (R a) b = bt (p b) a) ∧ (¬ dp_sw x y a b → bt (R a) b = bt (p a) b)
theorem dp_Sw_0 (p : Nat → Int32) : dp_Sw p p 0 0 := fun a _ b _ => ⟨fun h => by unfold dp_sw at h; omega, fun _ => rfl⟩
theorem dp_Sw_row {p R : Nat → Int32} {x : Nat} (h : dp_Sw p R x x) : dp_Sw p R (x + 1) 0 := fun a ha b hb => by
  obtain ⟨h1, h2⟩ := h a ha b hb
  by_cases z : dp_sw x x a b
  · exact ⟨fun _ => h1 z, fun y => absurd (show dp_sw (x + 1) 0 a b by unfold dp_sw at z ⊢; omega) y⟩
  · refine ⟨fun y => ?_, fun _ => h2 z⟩
    have : a = b := by unfold dp_sw at y z; omega
    subst this
    exact h2 z
theorem dp_Sw_end {p R : Nat → Int32} (h : dp_Sw p R 32 0) {a : Nat} (ha : a < 32) : R a = dp_mk (fun y => bt (p y) a) 32 := by
  apply b_ext
  intro b hb
  rw [dp_mk_32 _ hb]
  exact (h a ha b hb).1 (Or.inl ⟨ha, hb⟩)
theorem dp_Sw_eq {p R : Nat → Int32} {x y : Nat} (h : dp_Sw p R x y) (hx : x < 32) (hy : y < x) (e : bt (R x) y = bt (R y) x) : dp_Sw p R x (y + 1) := fun a ha b hb => by
  have n1 : ¬ dp_sw x y x y := by unfold dp_sw; omega
  have n2 : ¬ dp_sw x y y x := by unfold dp_sw; omega
  rw [(h x hx y (by omega)).2 n1, (h y (by omega) x hx).2 n2] at e
  obtain ⟨h1, h2⟩ := h a ha b hb
  by_cases z : dp_sw x y a b
  · exact ⟨fun _ => h1 z, fun w => absurd (show dp_sw x (y + 1) a b by unfold dp_sw at z ⊢; omega) w⟩
  · refine ⟨fun w => ?_, fun _ => h2 z⟩
    have : (a = x ∧ b = y) ∨ (a = y ∧ b = x) := by unfold dp_sw at w z; omega
    rw [h2 z]
    rcases this with ⟨rfl, rfl⟩ | ⟨rfl, rfl⟩
    · exact e
    · exact e.symm
theorem dp_Sw_ne {p R R' : Nat → Int32} {x y : Nat} (h : dp_Sw p R x y) (hx : x < 32) (hy : y < x) (e : bt (R x) y ≠ bt (R y) x) (r1 : R' x = R x ^^^ dp_bo y) (r2 : R' y = R y ^^^ dp_bo x) (r3 : ∀ a, a < 32 → a ≠ x → a ≠ y → R' a = R a) : dp_Sw p R' x (y + 1) := fun a ha b hb => by
  have n1 : ¬ dp_sw x y x y := by unfold dp_sw; omega
  have n2 : ¬ dp_sw x y y x := by unfold dp_sw; omega
  have hxy := (h x hx y (by omega)).2 n1
  have hyx := (h y (by omega) x hx).2 n2
  have flip : ∀ s t : Bool, s ≠ t → (s ^^ true) = t := by decide
  have bits : bt (R' a) b = if (a = x ∧ b = y) ∨ (a = y ∧ b = x) then bt (R b) a else bt (R a) b := by
    by_cases ax : a = x
    · subst ax
      rw [r1, b_xor, dp_bo_bt (by omega)]
      by_cases z : b = y
      · subst z
        rw [if_pos (Or.inl ⟨rfl, rfl⟩), decide_eq_true rfl]
        exact flip _ _ e
      · rw [if_neg (by omega), decide_eq_false z, Bool.xor_false]
    · by_cases ay : a = y
      · subst ay
        rw [r2, b_xor, dp_bo_bt hx]
        by_cases z : b = x
        · subst z
          rw [if_pos (Or.inr ⟨rfl, rfl⟩), decide_eq_true rfl]
          exact flip _ _ (Ne.symm e)
        · rw [if_neg (by omega), decide_eq_false z, Bool.xor_false]
      · rw [r3 a ha ax ay, if_neg (by omega)]
  rw [bits]
  obtain ⟨h1, h2⟩ := h a ha b hb
  by_cases z : (a = x ∧ b = y) ∨ (a = y ∧ b = x)
  · rw [if_pos z]
    refine ⟨fun _ => ?_, fun w => absurd (show dp_sw x (y + 1) a b by unfold dp_sw; omega) w⟩
    rcases z with ⟨rfl, rfl⟩ | ⟨rfl, rfl⟩
    · exact hyx
    · exact hxy
  · rw [if_neg z]
    exact ⟨fun w => h1 (by unfold dp_sw at w ⊢; omega), fun w => h2 (fun u => w (by unfold dp_sw at u ⊢; omega))⟩
