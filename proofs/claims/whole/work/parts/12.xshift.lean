/-! the component's shifting and taking -/
section XS
variable {f_size f_present f_height : Int32} {a_order a_levels a_tags a_values a_ranks a_ends a_parents a_run a_kinds a_numbers a_lengths a_entryIsPath a_rows a_members a_wasSet a_watchNode a_selects a_selectedBefore : Nat → Int32} {c : Nat} {o lv : Nat → Nat} {pr : Int32}
theorem xx_openGap_7 {t k : Nat} (hk : 0 < k) (hc : c + k ≤ 32) (ht : t ≤ c) {post : SX → Prop} (h : post ((nI (c + k)), f_present, f_height, (fun j => nI (dp_og o c t k j)), a_levels, a_tags, a_values, a_ranks, a_ends, a_parents, a_run, a_kinds, a_numbers, a_lengths, a_entryIsPath, a_rows, a_members, a_wasSet, a_watchNode, a_selects, a_selectedBefore)) : ∀ d, t + d ≤ c → wX_openGap_7 post (nI t) (nI k) (nI c) f_present f_height (d + 1) (nI (t + d) - 1) (fun j => nI (dp_oh o c k (t + d) j)) a_levels a_tags a_values a_ranks a_ends a_parents a_run a_kinds a_numbers a_lengths a_entryIsPath a_rows a_members a_wasSet a_watchNode a_selects a_selectedBefore := by
  intro d
  induction d with
  | zero =>
    intro hd
    refine br_t ?_ (nm_r (nI_add c k) h)
    rw [Nat.add_zero]
    cases t with
    | zero => decide
    | succ t => rw [nI_pred]; exact nI_lt (by omega) (by omega)
  | succ d ih =>
    intro hd
    rw [show t + (d + 1) = t + d + 1 from by omega, nI_pred]
    refine br_f (nI_nlt (by omega) (by omega)) ⟨dp_v32 (by omega), ?_⟩
    rw [nI_add]
    refine ⟨dp_v32 (by omega), ?_⟩
    simp only [dp_cl32 (show t + d < 32 by omega), dp_cl32 (show t + d + k < 32 by omega)]
    refine nm_r dp_upd (nm_r (dp_m1 _) ?_)
    rw [dp_oh_s (by omega)]
    exact ih (by omega)
theorem xx_openGap {t k : Nat} (hk : 0 < k) (hc : c + k ≤ 32) (ht : t ≤ c) {post : SX → Prop} (h : post ((nI (c + k)), f_present, f_height, (fun j => nI (dp_og o c t k j)), a_levels, a_tags, a_values, a_ranks, a_ends, a_parents, a_run, a_kinds, a_numbers, a_lengths, a_entryIsPath, a_rows, a_members, a_wasSet, a_watchNode, a_selects, a_selectedBefore)) : wpX_openGap post ((nI c), f_present, f_height, (fun j => nI (o j)), a_levels, a_tags, a_values, a_ranks, a_ends, a_parents, a_run, a_kinds, a_numbers, a_lengths, a_entryIsPath, a_rows, a_members, a_wasSet, a_watchNode, a_selects, a_selectedBefore) (nI t) (nI k) := by
  refine nm_e ⟨c - t + 1, ?_⟩
  have := xx_openGap_7 hk hc ht h (c - t) (by omega)
  rw [show t + (c - t) = c from by omega, dp_oh_0] at this
  exact this
theorem xx_closeGap_4 {a k : Nat} (hk : 0 < k) (hc : c ≤ 32) (hak : a + k ≤ c) {post : SX → Prop} (h : post ((nI (c - k)), f_present, f_height, (fun j => nI (dp_cl o c a k j)), a_levels, a_tags, a_values, a_ranks, a_ends, a_parents, a_run, a_kinds, a_numbers, a_lengths, a_entryIsPath, a_rows, a_members, a_wasSet, a_watchNode, a_selects, a_selectedBefore)) : ∀ d r, r + d = c → a + k ≤ r → wX_closeGap_4 post (nI k) (nI c) f_present f_height (d + 1) (nI r) (fun j => nI (dp_cl o r a k j)) a_levels a_tags a_values a_ranks a_ends a_parents a_run a_kinds a_numbers a_lengths a_entryIsPath a_rows a_members a_wasSet a_watchNode a_selects a_selectedBefore := by
  intro d
  induction d with
  | zero =>
    intro r hr ha
    obtain rfl : r = c := by omega
    exact br_t (nI_le (Nat.le_refl _) (by omega)) (nm_r (pk_sub (by omega)) h)
  | succ d ih =>
    intro r hr ha
    refine br_f (nI_ge (by omega) (by omega)) ⟨dp_v32 (by omega), ?_⟩
    rw [pk_sub (show k ≤ r by omega)]
    refine ⟨dp_v32 (by omega), ?_⟩
    simp only [dp_cl32 (show r < 32 by omega), dp_cl32 (show r - k < 32 by omega)]
    refine nm_r dp_upd (nm_r (nI_1 r) ?_)
    rw [dp_cl_s (by omega) hk]
    exact ih (r + 1) (by omega) (by omega)
theorem xx_closeGap {a k : Nat} (hk : 0 < k) (hc : c ≤ 32) (hak : a + k ≤ c) {post : SX → Prop} (h : post ((nI (c - k)), f_present, f_height, (fun j => nI (dp_cl o c a k j)), a_levels, a_tags, a_values, a_ranks, a_ends, a_parents, a_run, a_kinds, a_numbers, a_lengths, a_entryIsPath, a_rows, a_members, a_wasSet, a_watchNode, a_selects, a_selectedBefore)) : wpX_closeGap post ((nI c), f_present, f_height, (fun j => nI (o j)), a_levels, a_tags, a_values, a_ranks, a_ends, a_parents, a_run, a_kinds, a_numbers, a_lengths, a_entryIsPath, a_rows, a_members, a_wasSet, a_watchNode, a_selects, a_selectedBefore) (nI a) (nI k) := by
  refine nm_r (nI_add a k) ⟨c - (a + k) + 1, ?_⟩
  have := xx_closeGap_4 hk hc hak h (c - (a + k)) (a + k) (by omega) (Nat.le_refl _)
  rw [dp_cl_0 o c a k] at this
  exact this
theorem xx_take_26 {n : Nat} {post : Int32 → SX → Prop} (h : post (nI n) (f_size, (pr ||| dp_bo n), f_height, a_order, a_levels, a_tags, a_values, a_ranks, a_ends, a_parents, a_run, a_kinds, a_numbers, a_lengths, a_entryIsPath, a_rows, a_members, a_wasSet, a_watchNode, a_selects, a_selectedBefore)) : wX_takeLeastNumber_26 post (nI n) f_size pr f_height a_order a_levels a_tags a_values a_ranks a_ends a_parents a_run a_kinds a_numbers a_lengths a_entryIsPath a_rows a_members a_wasSet a_watchNode a_selects a_selectedBefore := nm_e h
theorem xx_take_l {post : Int32 → SX → Prop} : ∀ d n, n + d = 31 → post (nI (dp_lf (bt pr) d n)) (f_size, (pr ||| dp_bo (dp_lf (bt pr) d n)), f_height, a_order, a_levels, a_tags, a_values, a_ranks, a_ends, a_parents, a_run, a_kinds, a_numbers, a_lengths, a_entryIsPath, a_rows, a_members, a_wasSet, a_watchNode, a_selects, a_selectedBefore) → wX_takeLeastNumber_2 post f_size pr f_height a_order a_levels a_tags a_values a_ranks a_ends a_parents a_run a_kinds a_numbers a_lengths a_entryIsPath a_rows a_members a_wasSet a_watchNode a_selects a_selectedBefore (d + 1) (nI n) := by
  intro d
  induction d with
  | zero =>
    intro n hn h
    exact br_t (nI_le (a := 31) (b := n) (by omega) (by omega)) (xx_take_26 h)
  | succ d ih =>
    intro n hn h
    refine br_f (nI_ge (b := 31) (by omega) (by decide)) ?_
    rw [dp_xb pr (show n < 32 by omega)]
    by_cases z : bt pr n = true
    · rw [dp_lf_t z] at h
      rw [dp_c_t z]
      exact br_t rfl (nm_r (nI_1 n) (ih (n + 1) (by omega) h))
    · rw [dp_lf_f z] at h
      rw [dp_c_f (Bool.eq_false_iff.mpr z)]
      exact br_f (by decide) (xx_take_26 h)
theorem xx_take {post : Int32 → SX → Prop} (h : post (nI (dp_ln pr)) (f_size, (pr ||| dp_bo (dp_ln pr)), f_height, a_order, a_levels, a_tags, a_values, a_ranks, a_ends, a_parents, a_run, a_kinds, a_numbers, a_lengths, a_entryIsPath, a_rows, a_members, a_wasSet, a_watchNode, a_selects, a_selectedBefore)) : wpX_takeLeastNumber post (f_size, pr, f_height, a_order, a_levels, a_tags, a_values, a_ranks, a_ends, a_parents, a_run, a_kinds, a_numbers, a_lengths, a_entryIsPath, a_rows, a_members, a_wasSet, a_watchNode, a_selects, a_selectedBefore) := ⟨_, xx_take_l 31 0 rfl h⟩
theorem xx_noteRun_l (ho : ∀ r, o r < 32) (hc : c ≤ 32) {a k : Nat} (hak : a + k ≤ c) (ha : a_ranks (o a) = nI a) {post : Int32 → SX → Prop} (h : ∀ ru : Nat → Int32, (∀ i, i < k → ru i = nI (o (a + i))) → post (nI k) ((nI c), f_present, f_height, (fun j => nI (o j)), (fun j => nI (lv j)), a_tags, a_values, a_ranks, a_ends, a_parents, ru, a_kinds, a_numbers, a_lengths, a_entryIsPath, a_rows, a_members, a_wasSet, a_watchNode, a_selects, a_selectedBefore)) : ∀ d i (ru : Nat → Int32), i + d = k → (∀ j, j < i → ru j = nI (o (a + j))) → wX_noteRun_16 post (nI (o a)) (nI k) (nI c) f_present f_height (d + 1) (nI i) (fun j => nI (o j)) (fun j => nI (lv j)) a_tags a_values a_ranks a_ends a_parents ru a_kinds a_numbers a_lengths a_entryIsPath a_rows a_members a_wasSet a_watchNode a_selects a_selectedBefore := by
  intro d
  induction d with
  | zero =>
    intro i ru hi H
    obtain rfl : i = k := by omega
    exact br_t (nI_le (Nat.le_refl _) (by omega)) (h ru H)
  | succ d ih =>
    intro i ru hi H
    refine br_f (nI_ge (by omega) (by omega)) ⟨dp_v32 (ho a), ?_⟩
    simp only [dp_cl32 (ho a), ha, nI_add, dp_cl32 (show i < 32 by omega), dp_cl32 (show a + i < 32 by omega)]
    refine ⟨dp_v32 (by omega), dp_v32 (by omega), nm_e (nm_r (nI_1 i) (ih (i + 1) _ (by omega) fun j hj => ?_))⟩
    by_cases z : j = i
    · subst z; exact pk_us
    · rw [pk_un z]; exact H j (by omega)
theorem xx_noteRun (ho : ∀ r, o r < 32) (hc : c ≤ 32) {a k : Nat} (hak : a + k ≤ c) (ha : a_ranks (o a) = nI a) (he : a_ends (o a) = nI (a + k)) {post : Int32 → SX → Prop} (h : ∀ ru : Nat → Int32, (∀ i, i < k → ru i = nI (o (a + i))) → post (nI k) ((nI c), f_present, f_height, (fun j => nI (o j)), (fun j => nI (lv j)), a_tags, a_values, a_ranks, a_ends, a_parents, ru, a_kinds, a_numbers, a_lengths, a_entryIsPath, a_rows, a_members, a_wasSet, a_watchNode, a_selects, a_selectedBefore)) : wpX_noteRun post ((nI c), f_present, f_height, (fun j => nI (o j)), (fun j => nI (lv j)), a_tags, a_values, a_ranks, a_ends, a_parents, a_run, a_kinds, a_numbers, a_lengths, a_entryIsPath, a_rows, a_members, a_wasSet, a_watchNode, a_selects, a_selectedBefore) (nI (o a)) := by
  refine ⟨dp_v32 (ho a), dp_v32 (ho a), ?_⟩
  simp only [dp_cl32 (ho a), ha, he]
  refine nm_r (by rw [pk_sub (by omega), Nat.add_sub_cancel_left]) ⟨_, xx_noteRun_l ho hc hak ha h k 0 _ (Nat.zero_add k) (fun j hj => absurd hj (Nat.not_lt_zero j))⟩
end XS
