/-! the component's walks over the tree -/
theorem dp_v32 {n : Nat} (h : n < 32) : vp_in (nI n) 32 := vp_in_nI h (by decide)
theorem dp_cl32 {n : Nat} (h : n < 32) : (nI n).toNatClampNeg = n := nI_clamp (by omega)
theorem dp_ge32 {n : Nat} (h : n < 32) : ¬ (32 : Int32) ≤ nI n := nI_ge (b := 32) h (by decide)
theorem dp_le32 : (32 : Int32) ≤ nI 32 := nI_le (Nat.le_refl 32) (by decide)
section XT
variable {f_size f_present f_height : Int32} {a_order a_levels a_tags a_values a_ranks a_ends a_parents a_run a_kinds a_numbers a_lengths a_entryIsPath a_rows a_members a_wasSet a_watchNode a_selects a_selectedBefore : Nat → Int32} {c : Nat} {o lv : Nat → Nat} {pr : Int32}
theorem xx_findEnd_l (T : dp_Tc c o lv) {r : Nat} (hr : r < c) {post : Int32 → Prop} : ∀ k i, i + k = c → post (nI (dp_fe (fun r => lv (o r)) r k i)) → wX_findEnd_4 post (nI r) (nI c) f_present f_height (fun j => nI (o j)) (fun j => nI (lv j)) a_tags a_values a_ranks a_ends a_parents a_run a_kinds a_numbers a_lengths a_entryIsPath a_rows a_members a_wasSet a_watchNode a_selects a_selectedBefore (k + 1) (nI i) := by
  obtain ⟨t1, t2, t3, t4, t5⟩ := T
  have lr : lv (o r) ≤ r := dp_wf_rank t5 r hr
  intro k
  induction k with
  | zero =>
    intro i hi h
    obtain rfl : i = c := by omega
    exact br_t (nI_le (Nat.le_refl _) (by omega)) h
  | succ k ih =>
    intro i hi h
    have li : lv (o i) ≤ i := dp_wf_rank t5 i (by omega)
    refine br_f (nI_ge (by omega) (by omega)) ⟨dp_v32 (by omega), ?_⟩
    simp only [dp_cl32 (show i < 32 by omega), dp_cl32 (show r < 32 by omega), dp_cl32 (t3 i), dp_cl32 (t3 r)]
    refine ⟨dp_v32 (t3 i), dp_v32 (by omega), dp_v32 (t3 r), ?_⟩
    by_cases z : lv (o r) < lv (o i)
    · refine br_f (nI_ge z (by omega)) (nm_r (nI_1 i) (ih (i + 1) (by omega) ?_))
      have e : dp_fe (fun r => lv (o r)) r (k + 1) i = dp_fe (fun r => lv (o r)) r k (i + 1) := if_pos z
      rw [e] at h; exact h
    · refine br_t (nI_le (by omega) (by omega)) ?_
      have e : dp_fe (fun r => lv (o r)) r (k + 1) i = i := if_neg z
      rw [e] at h; exact h
theorem xx_findEnd (T : dp_Tc c o lv) {r : Nat} (hr : r < c) {post : Int32 → Prop} (h : post (nI (dp_en (fun r => lv (o r)) c r))) : wpX_findEnd post ((nI c), f_present, f_height, (fun j => nI (o j)), (fun j => nI (lv j)), a_tags, a_values, a_ranks, a_ends, a_parents, a_run, a_kinds, a_numbers, a_lengths, a_entryIsPath, a_rows, a_members, a_wasSet, a_watchNode, a_selects, a_selectedBefore) (nI r) :=
  nm_r (nI_1 r) ⟨_, xx_findEnd_l T hr (c - (r + 1)) (r + 1) (by omega) h⟩
theorem xx_findParent_l (T : dp_Tc c o lv) {r : Nat} (hr : r < c) {post : Int32 → Prop} : ∀ q, q < r → (∃ s, s < q + 1 ∧ lv (o s) < lv (o r)) → post (nI (o (dp_fp (fun r => lv (o r)) r (q + 1)))) → wX_findParent_4 post (nI r) (nI c) f_present f_height (fun j => nI (o j)) (fun j => nI (lv j)) a_tags a_values a_ranks a_ends a_parents a_run a_kinds a_numbers a_lengths a_entryIsPath a_rows a_members a_wasSet a_watchNode a_selects a_selectedBefore (q + 1) (nI q) := by
  obtain ⟨t1, t2, t3, t4, t5⟩ := T
  have lr : lv (o r) ≤ r := dp_wf_rank t5 r hr
  intro q
  induction q with
  | zero =>
    intro hq hs h
    obtain ⟨s, hs, z⟩ := hs
    obtain rfl : s = 0 := by omega
    refine br_f (nI_pos (by omega)) ⟨dp_v32 (by omega), ?_⟩
    simp only [dp_cl32 (show 0 < 32 by omega), dp_cl32 (show r < 32 by omega), dp_cl32 (t3 0), dp_cl32 (t3 r)]
    refine ⟨dp_v32 (t3 _), dp_v32 (by omega), dp_v32 (t3 r), br_f (nI_ge z (by omega)) ⟨dp_v32 (by omega), ?_⟩⟩
    have e : dp_fp (fun r => lv (o r)) r (0 + 1) = 0 := if_pos z
    rw [e] at h; exact h
  | succ q ih =>
    intro hq hs h
    have lq : lv (o (q + 1)) ≤ q + 1 := dp_wf_rank t5 (q + 1) (by omega)
    refine br_f (nI_pos (by omega)) ⟨dp_v32 (by omega), ?_⟩
    simp only [dp_cl32 (show q + 1 < 32 by omega), dp_cl32 (show r < 32 by omega), dp_cl32 (t3 (q + 1)), dp_cl32 (t3 r)]
    refine ⟨dp_v32 (t3 _), dp_v32 (by omega), dp_v32 (t3 r), ?_⟩
    by_cases z : lv (o (q + 1)) < lv (o r)
    · refine br_f (nI_ge z (by omega)) ⟨dp_v32 (by omega), ?_⟩
      have e : dp_fp (fun r => lv (o r)) r (q + 1 + 1) = q + 1 := if_pos z
      rw [e] at h; exact h
    · refine br_t (nI_le (by omega) (by omega)) (nm_r (pk_m1 q) (ih (by omega) ?_ ?_))
      · obtain ⟨s, hs, y⟩ := hs
        refine ⟨s, ?_, y⟩
        rcases Nat.lt_or_ge s (q + 1) with x | x
        · exact x
        · rw [show s = q + 1 from by omega] at y; exact absurd y z
      · have e : dp_fp (fun r => lv (o r)) r (q + 1 + 1) = dp_fp (fun r => lv (o r)) r (q + 1) := if_neg z
        rw [e] at h; exact h
theorem xx_findParent (T : dp_Tc c o lv) {r : Nat} (hr : r < c) {post : Int32 → Prop} (h : post (if r = 0 then -1 else nI (o (dp_pa (fun r => lv (o r)) r)))) : wpX_findParent post ((nI c), f_present, f_height, (fun j => nI (o j)), (fun j => nI (lv j)), a_tags, a_values, a_ranks, a_ends, a_parents, a_run, a_kinds, a_numbers, a_lengths, a_entryIsPath, a_rows, a_members, a_wasSet, a_watchNode, a_selects, a_selectedBefore) (nI r) := by
  cases r with
  | zero =>
    exact nm_e ⟨1, br_t (by decide) h⟩
  | succ r =>
    rw [if_neg (by omega)] at h
    refine nm_r (nI_pred r) ⟨_, xx_findParent_l T hr r (by omega) ⟨0, by omega, ?_⟩ h⟩
    have w := T.2.2.2.2
    have a : lv (o 0) = 0 := w.2.1
    have b := (w.2.2 (r + 1) (by omega) hr).1
    exact Nat.lt_of_lt_of_le (show lv (o 0) < 1 by omega) b
theorem xx_indexTree_l (T : dp_Tc c o lv) {post : SX → Prop} (h : ∀ ra en pa : Nat → Int32, dp_TX c o (fun r => lv (o r)) ra en pa → post ((nI c), f_present, f_height, (fun j => nI (o j)), (fun j => nI (lv j)), a_tags, a_values, ra, en, pa, a_run, a_kinds, a_numbers, a_lengths, a_entryIsPath, a_rows, a_members, a_wasSet, a_watchNode, a_selects, a_selectedBefore)) : ∀ k i (ra en pa : Nat → Int32), i + k = c → (∀ r, r < i → ra (o r) = nI r ∧ en (o r) = nI (dp_en (fun r => lv (o r)) c r) ∧ pa (o r) = if r = 0 then -1 else nI (o (dp_pa (fun r => lv (o r)) r))) → wX_indexTree_2 post (nI c) f_present f_height (k + 1) (nI i) (fun j => nI (o j)) (fun j => nI (lv j)) a_tags a_values ra en pa a_run a_kinds a_numbers a_lengths a_entryIsPath a_rows a_members a_wasSet a_watchNode a_selects a_selectedBefore := by
  have t1 := T.1
  have t3 := T.2.2.1
  have t4 := T.2.2.2.1
  intro k
  induction k with
  | zero =>
    intro i ra en pa hi H
    obtain rfl : i = c := by omega
    exact br_t (nI_le (Nat.le_refl _) (by omega)) (h ra en pa ⟨fun r hr => ⟨(H r hr).1, (H r hr).2.1⟩, fun r hr => (H r hr).2.2⟩)
  | succ k ih =>
    intro i ra en pa hi H
    refine br_f (nI_ge (by omega) (by omega)) ⟨dp_v32 (by omega), ?_⟩
    simp only [dp_cl32 (show i < 32 by omega)]
    refine nm_e ⟨dp_v32 (t3 i), nm_e ?_⟩
    simp only [dp_cl32 (t3 i)]
    refine xx_findEnd T (by omega) ⟨dp_v32 (t3 i), nm_e (xx_findParent T (by omega) ⟨dp_v32 (t3 i), nm_e (nm_r (nI_1 i) (ih (i + 1) _ _ _ (by omega) fun r hr => ?_))⟩)⟩
    by_cases z : r = i
    · subst z
      exact ⟨pk_us, pk_us, pk_us⟩
    · have ne : o r ≠ o i := fun e => z (t4 r i (by omega) (by omega) e)
      rw [pk_un ne, pk_un ne, pk_un ne]
      exact H r (by omega)
theorem xx_indexTree (T : dp_Tc c o lv) {post : SX → Prop} (h : ∀ ra en pa : Nat → Int32, dp_TX c o (fun r => lv (o r)) ra en pa → post ((nI c), f_present, f_height, (fun j => nI (o j)), (fun j => nI (lv j)), a_tags, a_values, ra, en, pa, a_run, a_kinds, a_numbers, a_lengths, a_entryIsPath, a_rows, a_members, a_wasSet, a_watchNode, a_selects, a_selectedBefore)) : wpX_indexTree post ((nI c), f_present, f_height, (fun j => nI (o j)), (fun j => nI (lv j)), a_tags, a_values, a_ranks, a_ends, a_parents, a_run, a_kinds, a_numbers, a_lengths, a_entryIsPath, a_rows, a_members, a_wasSet, a_watchNode, a_selects, a_selectedBefore) :=
  ⟨_, xx_indexTree_l T h c 0 _ _ _ (Nat.zero_add c) (fun r hr => absurd hr (Nat.not_lt_zero r))⟩
theorem xx_isNode {v : Int32} {post : Int32 → Prop} (h : post (dp_c (dp_isn f_present v))) : wpX_isNode post (f_size, f_present, f_height, a_order, a_levels, a_tags, a_values, a_ranks, a_ends, a_parents, a_run, a_kinds, a_numbers, a_lengths, a_entryIsPath, a_rows, a_members, a_wasSet, a_watchNode, a_selects, a_selectedBefore) v := by
  refine br_c (fun h0 => ?_) (fun h0 => ?_)
  · rw [dp_c_f (by unfold dp_isn; rw [decide_eq_false (fun z => z.1 h0), Bool.false_and])] at h; exact h
  · refine br_c (fun h1 => ?_) (fun h1 => ?_)
    · rw [dp_c_f (by unfold dp_isn; rw [decide_eq_false (fun z => absurd z.2 (Int32.not_lt.mpr h1)), Bool.false_and])] at h; exact h
    · have h2 : v < 32 := Int32.not_le.mp h1
      obtain ⟨j, hj, rfl⟩ := nI_of h0
      have hj2 : j < 32 := (nI_ltI hj (by decide)).mp h2
      rw [dp_isn_at hj2] at h
      rw [dp_xb f_present hj2]
      cases e : bt f_present j
      · rw [e] at h; exact br_f (by decide) h
      · rw [e] at h; exact br_t rfl h
theorem xx_isBelow (T : dp_Tc c o lv) (X : dp_TX c o (fun r => lv (o r)) a_ranks a_ends a_parents) {s r : Nat} (hs : s < c) (hr : r < c) {post : Int32 → Prop} (h : post (dp_c (decide (r < s ∧ s < dp_en (fun r => lv (o r)) c r)))) : wpX_isBelow post ((nI c), f_present, f_height, (fun j => nI (o j)), (fun j => nI (lv j)), a_tags, a_values, a_ranks, a_ends, a_parents, a_run, a_kinds, a_numbers, a_lengths, a_entryIsPath, a_rows, a_members, a_wasSet, a_watchNode, a_selects, a_selectedBefore) (nI (o s)) (nI (o r)) := by
  have t1 := T.1
  have t3 := T.2.2.1
  have e2 := (dp_en_spec (fun r => lv (o r)) hr).2.1
  refine ⟨dp_v32 (t3 s), dp_v32 (t3 r), ?_⟩
  simp only [dp_cl32 (t3 s), dp_cl32 (t3 r), (X.1 s hs).1, (X.1 r hr).1, (X.1 r hr).2]
  by_cases z : r < s
  · refine br_f (nI_ge z (by omega)) ⟨dp_v32 (t3 s), dp_v32 (t3 r), ?_⟩
    by_cases y : s < dp_en (fun r => lv (o r)) c r
    · rw [dp_c_t (decide_eq_true ⟨z, y⟩)] at h
      exact br_f (nI_ge y (by omega)) h
    · rw [dp_c_f (decide_eq_false (fun q => y q.2))] at h
      exact br_t (nI_le (by omega) (by omega)) h
  · rw [dp_c_f (decide_eq_false (fun q => z q.1))] at h
    exact br_t (nI_le (by omega) (by omega)) h
/-- is j a child of x: as both sides ask it -/
theorem dp_ask {ab : Nat → Int32} (T : dp_Tc c o lv) (A : dp_Ab c o (fun r => lv (o r)) ab) {x j : Nat} (hx : x < c) (hj : j < c) : ab (o j) = nI (o x) ↔ dp_ch (fun r => lv (o r)) x j = true := by
  have t3 := T.2.2.1
  have hox := t3 x
  rw [A j hj, dp_ch_iff]
  by_cases z : j = 0
  · rw [if_pos z]
    exact ⟨fun e => absurd e.symm (dp_nle1 (by omega)), fun e => absurd e.1 (by omega)⟩
  · have pl := dp_wf_pl T.2.2.2.2 (show 0 < j by omega) hj
    have hop := t3 (dp_pa (fun r => lv (o r)) j)
    rw [if_neg z, nI_eq (by omega) (by omega)]
    exact ⟨fun e => ⟨by omega, T.2.2.2.1 _ _ (by omega) hx e⟩, fun e => by rw [e.2]⟩
theorem xx_countChildren_l (T : dp_Tc c o lv) (X : dp_TX c o (fun r => lv (o r)) a_ranks a_ends a_parents) {x : Nat} (hx : x < c) {post : Int32 → Prop} (h : post (nI (dp_fc (dp_ch (fun r => lv (o r)) x) (dp_en (fun r => lv (o r)) c x)))) : ∀ k i, i + k = dp_en (fun r => lv (o r)) c x → wX_countChildren_11 post (nI (o x)) (nI c) f_present f_height (fun j => nI (o j)) (fun j => nI (lv j)) a_tags a_values a_ranks a_ends a_parents a_run a_kinds a_numbers a_lengths a_entryIsPath a_rows a_members a_wasSet a_watchNode a_selects a_selectedBefore (k + 1) (nI (dp_fc (dp_ch (fun r => lv (o r)) x) i)) (nI i) := by
  have t1 := T.1
  have t3 := T.2.2.1
  have e2 := (dp_en_spec (fun r => lv (o r)) hx).2.1
  intro k
  induction k with
  | zero =>
    intro i hi
    obtain rfl : i = dp_en (fun r => lv (o r)) c x := by omega
    refine ⟨dp_v32 (t3 x), ?_⟩
    simp only [dp_cl32 (t3 x), (X.1 x hx).2]
    exact br_t (nI_le (Nat.le_refl _) (by omega)) h
  | succ k ih =>
    intro i hi
    refine ⟨dp_v32 (t3 x), ?_⟩
    simp only [dp_cl32 (t3 x), (X.1 x hx).2]
    refine br_f (nI_ge (by omega) (by omega)) ⟨dp_v32 (by omega), ?_⟩
    simp only [dp_cl32 (show i < 32 by omega), dp_cl32 (t3 i)]
    refine ⟨dp_v32 (t3 i), ?_⟩
    have q := dp_ask T X.2 hx (show i < c by omega)
    cases e : dp_ch (fun r => lv (o r)) x i
    · refine br_f (fun z => by rw [q.mp z] at e; cases e) (nm_r (nI_1 i) ?_)
      have := ih (i + 1) (by omega)
      rw [dp_fc_f e] at this; exact this
    · refine br_t (q.mpr e) (nm_r (nI_1 _) (nm_r (nI_1 i) ?_))
      have := ih (i + 1) (by omega)
      rw [dp_fc_t e] at this; exact this
theorem dp_ch_n0 (W : dp_WF (fun r => lv (o r)) c) {x : Nat} (hx : x < c) : dp_fc (dp_ch (fun r => lv (o r)) x) (x + 1) = 0 := dp_fc_none fun i hi => dp_ch_lo W (by omega) (by omega)
theorem dp_ch_nE (W : dp_WF (fun r => lv (o r)) c) {x : Nat} (hx : x < c) : dp_fc (dp_ch (fun r => lv (o r)) x) c = dp_fc (dp_ch (fun r => lv (o r)) x) (dp_en (fun r => lv (o r)) c x) := dp_fc_const (dp_en_spec _ hx).2.1 (fun i h1 h2 => dp_ch_hi W h2 h1)
theorem xx_countChildren (T : dp_Tc c o lv) (X : dp_TX c o (fun r => lv (o r)) a_ranks a_ends a_parents) {x : Nat} (hx : x < c) {post : Int32 → Prop} (h : post (nI (dp_fc (dp_ch (fun r => lv (o r)) x) c))) : wpX_countChildren post ((nI c), f_present, f_height, (fun j => nI (o j)), (fun j => nI (lv j)), a_tags, a_values, a_ranks, a_ends, a_parents, a_run, a_kinds, a_numbers, a_lengths, a_entryIsPath, a_rows, a_members, a_wasSet, a_watchNode, a_selects, a_selectedBefore) (nI (o x)) := by
  have t3 := T.2.2.1
  have e1 := (dp_en_spec (fun r => lv (o r)) hx).1
  refine ⟨dp_v32 (t3 x), ?_⟩
  simp only [dp_cl32 (t3 x), (X.1 x hx).1]
  rw [dp_ch_nE T.2.2.2.2 hx] at h
  have := xx_countChildren_l (f_present := f_present) (f_height := f_height) (a_tags := a_tags) (a_values := a_values) (a_run := a_run) (a_kinds := a_kinds) (a_numbers := a_numbers) (a_lengths := a_lengths) (a_entryIsPath := a_entryIsPath) (a_rows := a_rows) (a_members := a_members) (a_wasSet := a_wasSet) (a_watchNode := a_watchNode) (a_selects := a_selects) (a_selectedBefore := a_selectedBefore) T X hx h (dp_en (fun r => lv (o r)) c x - (x + 1)) (x + 1) (by omega)
  rw [dp_ch_n0 T.2.2.2.2 hx] at this
  exact nm_r (nI_1 x) ⟨_, this⟩
theorem xx_findChild_l (T : dp_Tc c o lv) (X : dp_TX c o (fun r => lv (o r)) a_ranks a_ends a_parents) {x : Nat} (hx : x < c) {p : Int32} {post : Int32 → Prop} (h : post (dp_an o (-1) (dp_fk (dp_ch (fun r => lv (o r)) x) p (dp_en (fun r => lv (o r)) c x)))) : ∀ k i, i + k = dp_en (fun r => lv (o r)) c x → dp_fk (dp_ch (fun r => lv (o r)) x) p i = none → wX_findChild_12 post (nI (o x)) p (nI c) f_present f_height (fun j => nI (o j)) (fun j => nI (lv j)) a_tags a_values a_ranks a_ends a_parents a_run a_kinds a_numbers a_lengths a_entryIsPath a_rows a_members a_wasSet a_watchNode a_selects a_selectedBefore (k + 1) (nI (dp_fc (dp_ch (fun r => lv (o r)) x) i)) (nI i) := by
  have t1 := T.1
  have t3 := T.2.2.1
  have e2 := (dp_en_spec (fun r => lv (o r)) hx).2.1
  intro k
  induction k with
  | zero =>
    intro i hi hn
    obtain rfl : i = dp_en (fun r => lv (o r)) c x := by omega
    refine ⟨dp_v32 (t3 x), ?_⟩
    simp only [dp_cl32 (t3 x), (X.1 x hx).2]
    rw [hn] at h
    exact br_t (nI_le (Nat.le_refl _) (by omega)) h
  | succ k ih =>
    intro i hi hn
    refine ⟨dp_v32 (t3 x), ?_⟩
    simp only [dp_cl32 (t3 x), (X.1 x hx).2]
    refine br_f (nI_ge (by omega) (by omega)) ⟨dp_v32 (by omega), ?_⟩
    simp only [dp_cl32 (show i < 32 by omega), dp_cl32 (t3 i)]
    refine ⟨dp_v32 (t3 i), ?_⟩
    have q := dp_ask T X.2 hx (show i < c by omega)
    cases e : dp_ch (fun r => lv (o r)) x i
    · refine br_f (fun z => by rw [q.mp z] at e; cases e) (nm_r (nI_1 i) ?_)
      have := ih (i + 1) (by omega) (dp_fk_miss hn (fun z => by rw [e] at z; exact absurd z.1 (by decide)))
      rw [dp_fc_f e] at this; exact this
    · refine br_t (q.mpr e) ?_
      by_cases z : nI (dp_fc (dp_ch (fun r => lv (o r)) x) i) = p
      · refine br_t z ⟨dp_v32 (by omega), ?_⟩
        rw [dp_fk_up (dp_fk_hit hn e z) (show i + 1 ≤ dp_en (fun r => lv (o r)) c x by omega)] at h
        exact h
      · refine br_f z (nm_r (nI_1 _) (nm_r (nI_1 i) ?_))
        have := ih (i + 1) (by omega) (dp_fk_miss hn (fun w => z w.2))
        rw [dp_fc_t e] at this; exact this
theorem dp_ch_k0 (W : dp_WF (fun r => lv (o r)) c) {x : Nat} (hx : x < c) {p : Int32} : dp_fk (dp_ch (fun r => lv (o r)) x) p (x + 1) = none := dp_fk_none fun i hi => dp_ch_lo W (by omega) (by omega)
theorem dp_ch_kE (W : dp_WF (fun r => lv (o r)) c) {x : Nat} (hx : x < c) {p : Int32} : dp_fk (dp_ch (fun r => lv (o r)) x) p c = dp_fk (dp_ch (fun r => lv (o r)) x) p (dp_en (fun r => lv (o r)) c x) := dp_fk_const (dp_en_spec _ hx).2.1 (fun i h1 h2 => dp_ch_hi W h2 h1)
theorem xx_findChild (T : dp_Tc c o lv) (X : dp_TX c o (fun r => lv (o r)) a_ranks a_ends a_parents) {x : Nat} (hx : x < c) {p : Int32} {post : Int32 → Prop} (h : post (dp_an o (-1) (dp_fk (dp_ch (fun r => lv (o r)) x) p c))) : wpX_findChild post ((nI c), f_present, f_height, (fun j => nI (o j)), (fun j => nI (lv j)), a_tags, a_values, a_ranks, a_ends, a_parents, a_run, a_kinds, a_numbers, a_lengths, a_entryIsPath, a_rows, a_members, a_wasSet, a_watchNode, a_selects, a_selectedBefore) (nI (o x)) p := by
  have t3 := T.2.2.1
  have e1 := (dp_en_spec (fun r => lv (o r)) hx).1
  refine ⟨dp_v32 (t3 x), ?_⟩
  simp only [dp_cl32 (t3 x), (X.1 x hx).1]
  rw [dp_ch_kE T.2.2.2.2 hx] at h
  have := xx_findChild_l (f_present := f_present) (f_height := f_height) (a_tags := a_tags) (a_values := a_values) (a_run := a_run) (a_kinds := a_kinds) (a_numbers := a_numbers) (a_lengths := a_lengths) (a_entryIsPath := a_entryIsPath) (a_rows := a_rows) (a_members := a_members) (a_wasSet := a_wasSet) (a_watchNode := a_watchNode) (a_selects := a_selects) (a_selectedBefore := a_selectedBefore) T X hx h (dp_en (fun r => lv (o r)) c x - (x + 1)) (x + 1) (by omega) (dp_ch_k0 T.2.2.2.2 hx)
  rw [dp_ch_n0 T.2.2.2.2 hx] at this
  exact nm_r (nI_1 x) ⟨_, this⟩
/-- the rank at which a child at place p is put -/
def dp_gr (l : Nat → Nat) (c x : Nat) (p : Int32) : Nat := match dp_fk (dp_ch l x) p c with
  | some i => i
  | none => dp_en l c x
theorem dp_gr_Gp {l : Nat → Nat} {x : Nat} {p : Int32} (W : dp_WF l c) (hx : x < c) : dp_Gp l c x (dp_gr l c x p) := by
  unfold dp_gr
  cases e : dp_fk (dp_ch l x) p c with
  | none => exact dp_gp_en hx
  | some i =>
    obtain ⟨h1, h2, -⟩ := dp_fk_some e
    exact dp_gp_ch W h1 h2
theorem xx_rankForChild (T : dp_Tc c o lv) (X : dp_TX c o (fun r => lv (o r)) a_ranks a_ends a_parents) {x : Nat} (hx : x < c) {p : Int32} {post : Int32 → Prop} (h : post (nI (dp_gr (fun r => lv (o r)) c x p))) : wpX_rankForChild post ((nI c), f_present, f_height, (fun j => nI (o j)), (fun j => nI (lv j)), a_tags, a_values, a_ranks, a_ends, a_parents, a_run, a_kinds, a_numbers, a_lengths, a_entryIsPath, a_rows, a_members, a_wasSet, a_watchNode, a_selects, a_selectedBefore) (nI (o x)) p := by
  have t3 := T.2.2.1
  refine xx_findChild T X hx ?_
  unfold dp_gr at h
  cases e : dp_fk (dp_ch (fun r => lv (o r)) x) p c with
  | none =>
    rw [e] at h
    refine br_t rfl ⟨dp_v32 (t3 x), ?_⟩
    rw [dp_cl32 (t3 x), (X.1 x hx).2]
    exact h
  | some i =>
    rw [e] at h
    have oi := t3 i
    refine br_f (dp_nle1 (by omega)) ⟨dp_v32 oi, ?_⟩
    show post (a_ranks (nI (o i)).toNatClampNeg)
    rw [dp_cl32 oi, (X.1 i (dp_fk_some e).1).1]
    exact h
end XT
