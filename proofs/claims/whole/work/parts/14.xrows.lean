/-! the component's work on entries: rows -/
section XR
variable {f_size f_present f_height : Int32} {a_order a_levels a_tags a_values a_ranks a_ends a_parents a_run a_kinds a_numbers a_lengths a_entryIsPath a_rows a_members a_wasSet a_watchNode a_selects a_selectedBefore : Nat → Int32} {c e : Nat} {o lv : Nat → Nat} {pr a : Int32} {p q R : Nat → Int32}
/-! axis -/
theorem xx_ax_zero (he : e < 8) {post : SX → Prop} (h : ∀ R', dp_In R e (fun _ => 0) R' → ∃ n, wX_putAxis_25 post a (nI (32 * e)) (nI c) f_present f_height n 0 (fun j => nI (o j)) (fun j => nI (lv j)) a_tags a_values a_ranks a_ends a_parents a_run a_kinds a_numbers a_lengths a_entryIsPath R' a_members a_wasSet a_watchNode a_selects a_selectedBefore) : ∀ d x R', x + d = 32 → dp_In R e (dp_mx x (fun _ => 0) p) R' → wX_putAxis_2 post a (nI (32 * e)) (nI c) f_present f_height (d + 1) (nI x) (fun j => nI (o j)) (fun j => nI (lv j)) a_tags a_values a_ranks a_ends a_parents a_run a_kinds a_numbers a_lengths a_entryIsPath R' a_members a_wasSet a_watchNode a_selects a_selectedBefore := by
  intro d
  induction d with
  | zero =>
    intro x R' hx H
    obtain rfl : x = 32 := by omega
    exact br_t dp_le32 (h R' (dp_In_32 H))
  | succ d ih =>
    intro x R' hx H
    refine br_f (dp_ge32 (by omega)) ?_
    rw [nI_add]
    refine ⟨dp_v256 (by omega), ?_⟩
    rw [dp_cl256 (by omega)]
    exact nm_e (nm_r (nI_1 x) (ih (x + 1) _ (by omega) (dp_In_s H (by omega) rfl)))
/-- the rows of the first i nodes are made -/
def dp_F (o l : Nat → Nat) (c : Nat) (a : Int32) (i : Nat) : Nat → Int32 := fun x => if dp_any (fun r => decide (o r = x)) i = true then dp_fr o (dp_ax l c a (dp_rk o x c)) c else 0
def dp_G (o l : Nat → Nat) (c : Nat) (a : Int32) (i j : Nat) : Nat → Int32 := fun x => if x = o i then dp_fr o (dp_ax l c a i) j else dp_F o l c a i x
theorem dp_F_0 {l : Nat → Nat} : dp_F o l c a 0 = fun _ => 0 := by
  funext x
  exact if_neg (show ¬ false = true by decide)
theorem dp_G_0 (T : dp_Tc c o lv) {l : Nat → Nat} {i : Nat} (hi : i < c) : dp_G o l c a i 0 = dp_F o l c a i := by
  funext x
  unfold dp_G
  by_cases z : x = o i
  · rw [if_pos z]
    unfold dp_F
    rw [if_neg (fun w => ?_)]
    · rfl
    · obtain ⟨r, hr, e⟩ := dp_any_iff.mp w
      rw [decide_eq_true_iff] at e
      have := T.2.2.2.1 r i (by omega) hi (e.trans z)
      omega
  · rw [if_neg z]
theorem dp_G_c (T : dp_Tc c o lv) {l : Nat → Nat} {i : Nat} (hi : i < c) : dp_G o l c a i c = dp_F o l c a (i + 1) := by
  funext x
  unfold dp_G
  by_cases z : x = o i
  · rw [if_pos z]
    unfold dp_F
    rw [if_pos (dp_any_iff.mpr ⟨i, by omega, decide_eq_true z.symm⟩), z, dp_rk_o T hi]
  · rw [if_neg z]
    unfold dp_F
    have e : dp_any (fun r => decide (o r = x)) (i + 1) = dp_any (fun r => decide (o r = x)) i := by
      show (dp_any (fun r => decide (o r = x)) i || decide (o i = x)) = _
      rw [decide_eq_false (fun e => z e.symm), Bool.or_false]
    rw [e]
theorem dp_F_c {l : Nat → Nat} (hp : ∀ n, bt pr n = true ↔ ∃ r, r < c ∧ o r = n) (x : Nat) : dp_F o l c a c x = if bt pr x = true then dp_fr o (dp_ax l c a (dp_rk o x c)) c else 0 := by
  unfold dp_F
  have e : dp_any (fun r => decide (o r = x)) c = bt pr x := by
    rw [Bool.eq_iff_iff, dp_any_iff, hp x]
    exact ⟨fun ⟨r, h1, h2⟩ => ⟨r, h1, decide_eq_true_iff.mp h2⟩, fun ⟨r, h1, h2⟩ => ⟨r, h1, decide_eq_true h2⟩⟩
  rw [e]
theorem xx_ax_in (T : dp_Tc c o lv) (X : dp_TX c o (fun r => lv (o r)) a_ranks a_ends a_parents) (he : e < 8) {i : Nat} (hi : i < c) {post : SX → Prop} {J : Int32 → (Nat → Int32) → (Nat → Int32) → (Nat → Int32) → (Nat → Int32) → (Nat → Int32) → (Nat → Int32) → (Nat → Int32) → (Nat → Int32) → (Nat → Int32) → (Nat → Int32) → (Nat → Int32) → (Nat → Int32) → (Nat → Int32) → (Nat → Int32) → (Nat → Int32) → (Nat → Int32) → (Nat → Int32) → (Nat → Int32) → Prop} (h : ∀ R', dp_In R e (dp_G o (fun r => lv (o r)) c a i c) R' → J (nI (i + 1)) (fun j => nI (o j)) (fun j => nI (lv j)) a_tags a_values a_ranks a_ends a_parents a_run a_kinds a_numbers a_lengths a_entryIsPath R' a_members a_wasSet a_watchNode a_selects a_selectedBefore) : ∀ d j R', j + d = c → dp_In R e (dp_G o (fun r => lv (o r)) c a i j) R' → wX_putAxis_44 post J a (nI (32 * e)) (nI i) (nI (o i)) (nI c) f_present f_height (d + 1) (nI j) (fun j => nI (o j)) (fun j => nI (lv j)) a_tags a_values a_ranks a_ends a_parents a_run a_kinds a_numbers a_lengths a_entryIsPath R' a_members a_wasSet a_watchNode a_selects a_selectedBefore := by
  have t1 := T.1
  have t3 := T.2.2.1
  have oi := t3 i
  intro d
  induction d with
  | zero =>
    intro j R' hj H
    obtain rfl : j = c := by omega
    exact br_t (nI_le (Nat.le_refl _) (by omega)) (nm_r (nI_1 i) (h R' H))
  | succ d ih =>
    intro j R' hj H
    refine br_f (nI_ge (by omega) (by omega)) ⟨dp_v32 (by omega), ?_⟩
    rw [dp_cl32 (show j < 32 by omega)]
    refine nm_e (xx_isOnAxis T X hi (by omega) ?_)
    have rd := H.2 (o i) oi
    have gi : dp_G o (fun r => lv (o r)) c a i j (o i) = dp_fr o (dp_ax (fun r => lv (o r)) c a i) j := if_pos rfl
    cases z : dp_ax (fun r => lv (o r)) c a i j
    · refine br_t rfl (nm_r (nI_1 j) (ih (j + 1) _ (by omega) ⟨H.1, fun x hx => ?_⟩))
      rw [H.2 x hx]
      unfold dp_G
      rw [dp_fr_f (by rw [z]; decide)]
    · refine br_f (by decide) ?_
      rw [nI_add]
      refine ⟨dp_v256 (by omega), dp_v256 (by omega), ?_⟩
      rw [dp_cl256 (by omega), rd, gi]
      refine nm_e (nm_r (nI_1 j) (ih (j + 1) _ (by omega) (dp_In_upd H oi ?_ (fun x hx hn => ?_))))
      · show (if o i = o i then dp_fr o (dp_ax (fun r => lv (o r)) c a i) (j + 1) else _) = _
        rw [if_pos rfl, dp_fr_t z]; rfl
      · unfold dp_G
        rw [if_neg hn, if_neg hn]
theorem xx_ax_out (T : dp_Tc c o lv) (X : dp_TX c o (fun r => lv (o r)) a_ranks a_ends a_parents) (he : e < 8) {post : SX → Prop} (h : ∀ R', dp_In R e (dp_F o (fun r => lv (o r)) c a c) R' → post ((nI c), f_present, f_height, (fun j => nI (o j)), (fun j => nI (lv j)), a_tags, a_values, a_ranks, a_ends, a_parents, a_run, a_kinds, a_numbers, a_lengths, a_entryIsPath, R', a_members, a_wasSet, a_watchNode, a_selects, a_selectedBefore)) : ∀ d i R', i + d = c → dp_In R e (dp_F o (fun r => lv (o r)) c a i) R' → wX_putAxis_25 post a (nI (32 * e)) (nI c) f_present f_height (d + 1) (nI i) (fun j => nI (o j)) (fun j => nI (lv j)) a_tags a_values a_ranks a_ends a_parents a_run a_kinds a_numbers a_lengths a_entryIsPath R' a_members a_wasSet a_watchNode a_selects a_selectedBefore := by
  have t1 := T.1
  intro d
  induction d with
  | zero =>
    intro i R' hi H
    obtain rfl : i = c := by omega
    exact br_t (nI_le (Nat.le_refl _) (by omega)) (h R' H)
  | succ d ih =>
    intro i R' hi H
    refine br_f (nI_ge (by omega) (by omega)) ⟨dp_v32 (by omega), ?_⟩
    rw [dp_cl32 (show i < 32 by omega)]
    refine nm_e ⟨c + 1, ?_⟩
    refine xx_ax_in T X he (by omega) (fun R2 H2 => ?_) c 0 R' (Nat.zero_add c) (by rw [dp_G_0 T (by omega)]; exact H)
    rw [dp_G_c T (by omega)] at H2
    exact ih (i + 1) R2 (by omega) H2
theorem xx_putAxis (T : dp_Tr c o lv pr) (X : dp_TX c o (fun r => lv (o r)) a_ranks a_ends a_parents) (he : e < 8) {post : SX → Prop} (h : ∀ R', dp_ag R R' e → (∀ x, x < 32 → R' (32 * e + x) = dp_op c o (fun r => lv (o r)) pr a_tags a_values 0 a p q x) → post ((nI c), f_present, f_height, (fun j => nI (o j)), (fun j => nI (lv j)), a_tags, a_values, a_ranks, a_ends, a_parents, a_run, a_kinds, a_numbers, a_lengths, a_entryIsPath, R', a_members, a_wasSet, a_watchNode, a_selects, a_selectedBefore)) : wpX_putAxis post ((nI c), f_present, f_height, (fun j => nI (o j)), (fun j => nI (lv j)), a_tags, a_values, a_ranks, a_ends, a_parents, a_run, a_kinds, a_numbers, a_lengths, a_entryIsPath, R, a_members, a_wasSet, a_watchNode, a_selects, a_selectedBefore) a (nI (32 * e)) := by
  refine ⟨33, xx_ax_zero (p := fun x => R (32 * e + x)) he (fun R' H => ⟨c + 1, ?_⟩) 32 0 R rfl (dp_In_0 (fun _ _ => rfl))⟩
  refine xx_ax_out T.1 X he (fun R2 H2 => h R2 H2.1 (fun x hx => ?_)) c 0 R' (Nat.zero_add c) (by rw [dp_F_0]; exact H)
  rw [H2.2 x hx]
  exact dp_F_c T.2.1 x
/-! join -/
theorem xx_join_in (he : e < 7) {x : Nat} (hx : x < 32) (hp : R (32 * e + x) = p x) (hq : ∀ y, y < 32 → R (32 * e + 32 + y) = q y) {post : SX → Prop} {J : Int32 → (Nat → Int32) → (Nat → Int32) → (Nat → Int32) → (Nat → Int32) → (Nat → Int32) → (Nat → Int32) → (Nat → Int32) → (Nat → Int32) → (Nat → Int32) → (Nat → Int32) → (Nat → Int32) → (Nat → Int32) → (Nat → Int32) → (Nat → Int32) → (Nat → Int32) → (Nat → Int32) → (Nat → Int32) → (Nat → Int32) → Prop} (h : J (nI (x + 1)) a_order a_levels a_tags a_values a_ranks a_ends a_parents a_run a_kinds a_numbers a_lengths a_entryIsPath (upd R (32 * e + x) (dp_jn (p x) q 32)) a_members a_wasSet a_watchNode a_selects a_selectedBefore) : ∀ d y, y + d = 32 → wX_joinRows_13 post J (nI (32 * e)) (nI x) f_size f_present f_height a_order a_levels a_tags a_values a_ranks a_ends a_parents a_run a_kinds a_numbers a_lengths a_entryIsPath R a_members a_wasSet a_watchNode a_selects a_selectedBefore (d + 1) (dp_jn (p x) q y) (nI y) := by
  intro d
  induction d with
  | zero =>
    intro y hy
    obtain rfl : y = 32 := by omega
    refine br_t dp_le32 ?_
    rw [nI_add]
    refine ⟨dp_v256 (by omega), ?_⟩
    rw [dp_cl256 (by omega)]
    exact nm_e (nm_r (nI_1 x) h)
  | succ d ih =>
    intro y hy
    refine br_f (dp_ge32 (by omega)) ?_
    rw [nI_add]
    refine ⟨dp_v256 (by omega), ?_⟩
    rw [dp_cl256 (by omega), hp, dp_xb _ (show y < 32 by omega)]
    have := ih (y + 1) (by omega)
    by_cases z : bt (p x) y = true
    · rw [dp_c_t z]
      refine br_t rfl ?_
      rw [dp_p32, nI_add]
      refine ⟨dp_v256 (by omega), ?_⟩
      rw [dp_cl256 (by omega), hq y (by omega)]
      rw [dp_jn_t z] at this
      exact nm_e (nm_r (nI_1 y) this)
    · rw [dp_c_f (Bool.eq_false_iff.mpr z)]
      rw [dp_jn_f z] at this
      exact br_f (by decide) (nm_r (nI_1 y) this)
theorem xx_join_l (he : e < 7) (hq : ∀ y, y < 32 → R (32 * e + 32 + y) = q y) {post : SX → Prop} (h : ∀ R', dp_ag R R' e → (∀ x, x < 32 → R' (32 * e + x) = dp_jn (p x) q 32) → post (f_size, f_present, f_height, a_order, a_levels, a_tags, a_values, a_ranks, a_ends, a_parents, a_run, a_kinds, a_numbers, a_lengths, a_entryIsPath, R', a_members, a_wasSet, a_watchNode, a_selects, a_selectedBefore)) : ∀ d x R', x + d = 32 → dp_In R e (dp_mx x (fun x => dp_jn (p x) q 32) p) R' → wX_joinRows_2 post (nI (32 * e)) f_size f_present f_height (d + 1) (nI x) a_order a_levels a_tags a_values a_ranks a_ends a_parents a_run a_kinds a_numbers a_lengths a_entryIsPath R' a_members a_wasSet a_watchNode a_selects a_selectedBefore := by
  intro d
  induction d with
  | zero =>
    intro x R' hx H
    obtain rfl : x = 32 := by omega
    exact br_t dp_le32 (h R' (dp_In_32 H).1 (dp_In_32 H).2)
  | succ d ih =>
    intro x R' hx H
    refine br_f (dp_ge32 (by omega)) ⟨33, ?_⟩
    exact xx_join_in he (by omega) (by rw [H.2 x (by omega), dp_mx_hi (Nat.le_refl _)]) (fun y hy => by rw [dp_In_nx H]; exact hq y hy) (ih (x + 1) _ (by omega) (dp_In_s H (by omega) rfl)) 32 0 rfl
theorem xx_joinRows (he : e < 7) (hp : ∀ x, x < 32 → R (32 * e + x) = p x) (hq : ∀ y, y < 32 → R (32 * e + 32 + y) = q y) {post : SX → Prop} (h : ∀ R', dp_ag R R' e → (∀ x, x < 32 → R' (32 * e + x) = dp_jn (p x) q 32) → post (f_size, f_present, f_height, a_order, a_levels, a_tags, a_values, a_ranks, a_ends, a_parents, a_run, a_kinds, a_numbers, a_lengths, a_entryIsPath, R', a_members, a_wasSet, a_watchNode, a_selects, a_selectedBefore)) : wpX_joinRows post (f_size, f_present, f_height, a_order, a_levels, a_tags, a_values, a_ranks, a_ends, a_parents, a_run, a_kinds, a_numbers, a_lengths, a_entryIsPath, R, a_members, a_wasSet, a_watchNode, a_selects, a_selectedBefore) (nI (32 * e)) := ⟨33, xx_join_l he hq h 32 0 R rfl (dp_In_0 hp)⟩
/-! the three that combine -/
theorem xx_comb_l (he : e < 7) {k : Int32} {f : Nat → Int32} (hf : ∀ x, (k = 2 → f x = p x ||| q x) ∧ (¬ k = 2 → (k = 3 → f x = p x &&& q x) ∧ (¬ k = 3 → f x = p x &&& (q x ^^^ (-1))))) (hq : ∀ y, y < 32 → R (32 * e + 32 + y) = q y) {post : SX → Prop} (h : ∀ R', dp_ag R R' e → (∀ x, x < 32 → R' (32 * e + x) = f x) → post (f_size, f_present, f_height, a_order, a_levels, a_tags, a_values, a_ranks, a_ends, a_parents, a_run, a_kinds, a_numbers, a_lengths, a_entryIsPath, R', a_members, a_wasSet, a_watchNode, a_selects, a_selectedBefore)) : ∀ d x R', x + d = 32 → dp_In R e (dp_mx x f p) R' → wX_combineRows_2 post k (nI (32 * e)) f_size f_present f_height (d + 1) (nI x) a_order a_levels a_tags a_values a_ranks a_ends a_parents a_run a_kinds a_numbers a_lengths a_entryIsPath R' a_members a_wasSet a_watchNode a_selects a_selectedBefore := by
  intro d
  induction d with
  | zero =>
    intro x R' hx H
    obtain rfl : x = 32 := by omega
    exact br_t dp_le32 (h R' (dp_In_32 H).1 (dp_In_32 H).2)
  | succ d ih =>
    intro x R' hx H
    have e1 : R' (32 * e + x) = p x := by rw [H.2 x (by omega), dp_mx_hi (Nat.le_refl _)]
    have e2 : R' (32 * e + 32 + x) = q x := by rw [dp_In_nx H]; exact hq x (by omega)
    have go : ∀ v, v = f x → wX_combineRows_2 post k (nI (32 * e)) f_size f_present f_height (d + 1) (nI (x + 1)) a_order a_levels a_tags a_values a_ranks a_ends a_parents a_run a_kinds a_numbers a_lengths a_entryIsPath (upd R' (32 * e + x) v) a_members a_wasSet a_watchNode a_selects a_selectedBefore := fun v hv => ih (x + 1) _ (by omega) (dp_In_s H (by omega) hv)
    refine br_f (dp_ge32 (by omega)) ?_
    simp only [dp_p32, nI_add, dp_cl256 (show 32 * e + 32 + x < 256 by omega), dp_cl256 (show 32 * e + x < 256 by omega), e1, e2]
    refine ⟨dp_v256 (by omega), nm_e (br_c (fun z => ?_) (fun z => br_c (fun y => ?_) (fun y => ?_)))⟩
    · exact ⟨dp_v256 (by omega), dp_v256 (by omega), nm_e (nm_r (nI_1 x) (go _ ((hf x).1 z).symm))⟩
    · exact ⟨dp_v256 (by omega), dp_v256 (by omega), nm_e (nm_r (nI_1 x) (go _ (((hf x).2 z).1 y).symm))⟩
    · exact ⟨dp_v256 (by omega), dp_v256 (by omega), nm_e (nm_r (nI_1 x) (go _ (((hf x).2 z).2 y).symm))⟩
theorem xx_combineRows (he : e < 7) {k : Int32} {f : Nat → Int32} (hf : ∀ x, (k = 2 → f x = p x ||| q x) ∧ (¬ k = 2 → (k = 3 → f x = p x &&& q x) ∧ (¬ k = 3 → f x = p x &&& (q x ^^^ (-1))))) (hp : ∀ x, x < 32 → R (32 * e + x) = p x) (hq : ∀ y, y < 32 → R (32 * e + 32 + y) = q y) {post : SX → Prop} (h : ∀ R', dp_ag R R' e → (∀ x, x < 32 → R' (32 * e + x) = f x) → post (f_size, f_present, f_height, a_order, a_levels, a_tags, a_values, a_ranks, a_ends, a_parents, a_run, a_kinds, a_numbers, a_lengths, a_entryIsPath, R', a_members, a_wasSet, a_watchNode, a_selects, a_selectedBefore)) : wpX_combineRows post (f_size, f_present, f_height, a_order, a_levels, a_tags, a_values, a_ranks, a_ends, a_parents, a_run, a_kinds, a_numbers, a_lengths, a_entryIsPath, R, a_members, a_wasSet, a_watchNode, a_selects, a_selectedBefore) k (nI (32 * e)) := ⟨33, xx_comb_l he hf hq h 32 0 R rfl (dp_In_0 hp)⟩
/-! where -/
theorem xx_keep_l (he : e < 8) {s : Int32} {post : SX → Prop} (h : ∀ R', dp_ag R R' e → (∀ x, x < 32 → R' (32 * e + x) = p x &&& s) → post (f_size, f_present, f_height, a_order, a_levels, a_tags, a_values, a_ranks, a_ends, a_parents, a_run, a_kinds, a_numbers, a_lengths, a_entryIsPath, R', a_members, a_wasSet, a_watchNode, a_selects, a_selectedBefore)) : ∀ d x R', x + d = 32 → dp_In R e (dp_mx x (fun x => p x &&& s) p) R' → wX_keepMembers_2 post s (nI (32 * e)) f_size f_present f_height (d + 1) (nI x) a_order a_levels a_tags a_values a_ranks a_ends a_parents a_run a_kinds a_numbers a_lengths a_entryIsPath R' a_members a_wasSet a_watchNode a_selects a_selectedBefore := by
  intro d
  induction d with
  | zero =>
    intro x R' hx H
    obtain rfl : x = 32 := by omega
    exact br_t dp_le32 (h R' (dp_In_32 H).1 (dp_In_32 H).2)
  | succ d ih =>
    intro x R' hx H
    have e1 : R' (32 * e + x) = p x := by rw [H.2 x (by omega), dp_mx_hi (Nat.le_refl _)]
    refine br_f (dp_ge32 (by omega)) ?_
    simp only [nI_add, dp_cl256 (show 32 * e + x < 256 by omega), e1]
    exact ⟨dp_v256 (by omega), dp_v256 (by omega), nm_e (nm_r (nI_1 x) (ih (x + 1) _ (by omega) (dp_In_s H (by omega) rfl)))⟩
theorem xx_keepMembers (he : e < 8) {s : Int32} (hp : ∀ x, x < 32 → R (32 * e + x) = p x) {post : SX → Prop} (h : ∀ R', dp_ag R R' e → (∀ x, x < 32 → R' (32 * e + x) = p x &&& s) → post (f_size, f_present, f_height, a_order, a_levels, a_tags, a_values, a_ranks, a_ends, a_parents, a_run, a_kinds, a_numbers, a_lengths, a_entryIsPath, R', a_members, a_wasSet, a_watchNode, a_selects, a_selectedBefore)) : wpX_keepMembers post (f_size, f_present, f_height, a_order, a_levels, a_tags, a_values, a_ranks, a_ends, a_parents, a_run, a_kinds, a_numbers, a_lengths, a_entryIsPath, R, a_members, a_wasSet, a_watchNode, a_selects, a_selectedBefore) s (nI (32 * e)) := ⟨33, xx_keep_l he h 32 0 R rfl (dp_In_0 hp)⟩
end XR
