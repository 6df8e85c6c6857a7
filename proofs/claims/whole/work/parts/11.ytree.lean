/-! the reference's walks over the tree -/
section YT
variable {f_count f_height : Int32} {a_list a_there a_above a_tags a_values a_held a_twin a_kinds a_args a_sizes a_isPath a_rows a_spare a_isSet a_alive a_edited a_watchNode a_before : Nat → Int32} {c : Nat} {o lv : Nat → Nat} {pr : Int32}
theorem yy_isNode {v : Int32} {post : Int32 → Prop} (h : post (dp_c (dp_isn pr v))) : wpY_isNode post (f_count, f_height, a_list, (dp_th pr), a_above, a_tags, a_values, a_held, a_twin, a_kinds, a_args, a_sizes, a_isPath, a_rows, a_spare, a_isSet, a_alive, a_edited, a_watchNode, a_before) v := by
  refine br_c (fun h0 => ?_) (fun h0 => ?_)
  · rw [dp_c_f (by unfold dp_isn; rw [decide_eq_false (fun z => z.1 h0), Bool.false_and])] at h; exact h
  · obtain ⟨j, hj, rfl⟩ := nI_of h0
    by_cases hj2 : j < 32
    · refine br_f (nI_nlt (b := j) (a := 31) (by omega) (by decide)) ⟨dp_v32 hj2, ?_⟩
      rw [dp_isn_at hj2] at h
      rw [dp_cl32 hj2]
      show ((dp_c (bt pr j) = 0 → post 0) ∧ (¬ dp_c (bt pr j) = 0 → post 1))
      cases e : bt pr j
      · rw [e] at h; exact br_t rfl h
      · rw [e] at h; exact br_f (by decide) h
    · refine br_t (nI_lt (a := 31) (b := j) (by omega) hj) ?_
      rw [dp_c_f (by unfold dp_isn; rw [decide_eq_false (fun z => hj2 ((nI_ltI hj (by decide)).mp z.2)), Bool.false_and])] at h; exact h
theorem yy_place_l (ho : ∀ r, o r < 32) (hc : c ≤ 32) {n : Nat} (hn : n < 32) {post : Int32 → Prop} (h : post (nI (dp_rk o n c))) : ∀ k i, i + k = c → wY_placeInList_4 post (nI n) (nI c) f_height (fun j => nI (o j)) a_there a_above a_tags a_values a_held a_twin a_kinds a_args a_sizes a_isPath a_rows a_spare a_isSet a_alive a_edited a_watchNode a_before (k + 1) (nI (dp_rk o n i)) (nI i) := by
  intro k
  induction k with
  | zero =>
    intro i hi
    obtain rfl : i = c := by omega
    exact br_t (nI_le (Nat.le_refl _) (by omega)) h
  | succ k ih =>
    intro i hi
    refine br_f (nI_ge (by omega) (by omega)) ⟨dp_v32 (by omega), ?_⟩
    have oi := ho i
    simp only [dp_cl32 (show i < 32 by omega)]
    have := ih (i + 1) (by omega)
    by_cases z : o i = n
    · refine br_t (by rw [z]) (nm_r (nI_1 i) ?_)
      rw [show dp_rk o n (i + 1) = i from if_pos z] at this; exact this
    · refine br_f (fun e => z (dp_inj (by omega) (by omega) e)) (nm_r (nI_1 i) ?_)
      rw [show dp_rk o n (i + 1) = dp_rk o n i from if_neg z] at this; exact this
theorem yy_place (T : dp_Tc c o lv) {r : Nat} (hr : r < c) {post : Int32 → Prop} (h : post (nI r)) : wpY_placeInList post ((nI c), f_height, (fun j => nI (o j)), a_there, a_above, a_tags, a_values, a_held, a_twin, a_kinds, a_args, a_sizes, a_isPath, a_rows, a_spare, a_isSet, a_alive, a_edited, a_watchNode, a_before) (nI (o r)) := by
  rw [← dp_rk_o T hr] at h
  exact ⟨_, yy_place_l T.2.2.1 T.1 (T.2.2.1 r) h c 0 (Nat.zero_add c)⟩
theorem yy_isBelow_l (T : dp_Tc c o lv) (A : dp_Ab c o (fun r => lv (o r)) a_above) {r : Nat} (hr : r < c) {post : Int32 → Prop} : ∀ k s i, s < c → lv (o s) + i ≤ 31 → lv (o s) ≤ k → post (dp_c (decide (r < s ∧ s < dp_en (fun r => lv (o r)) c r))) → wY_isBelow_10 post (nI (o r)) (nI c) f_height (fun j => nI (o j)) a_there a_above a_tags a_values a_held a_twin a_kinds a_args a_sizes a_isPath a_rows a_spare a_isSet a_alive a_edited a_watchNode a_before (k + 1) (if s = 0 then -1 else nI (o (dp_pa (fun r => lv (o r)) s))) (nI i) := by
  have t1 := T.1
  have t3 := T.2.2.1
  have t5 := T.2.2.2.2
  intro k
  induction k with
  | zero =>
    intro s i hs h1 h2 h
    have s0 : s = 0 := by
      rcases Nat.eq_zero_or_pos s with z | z
      · exact z
      · have : 1 ≤ lv (o s) := (t5.2.2 s z hs).1
        omega
    rw [dp_c_f (decide_eq_false (fun q => by omega))] at h
    rw [if_pos s0]
    exact br_f (dp_ge32 (by omega)) (br_t (by decide) h)
  | succ k ih =>
    intro s i hs h1 h2 h
    by_cases s0 : s = 0
    · rw [dp_c_f (decide_eq_false (fun q => by omega))] at h
      rw [if_pos s0]
      exact br_f (dp_ge32 (by omega)) (br_t (by decide) h)
    · have w := dp_wf_pa t5 (show 0 < s by omega) hs
      have w1 : dp_pa (fun r => lv (o r)) s < s := w.1.1
      have w2 : lv (o (dp_pa (fun r => lv (o r)) s)) + 1 = lv (o s) := w.2
      have cl := dp_climb t5 (show 0 < s by omega) hs (r := r)
      have oq := t3 (dp_pa (fun r => lv (o r)) s)
      have or' := t3 r
      rw [if_neg s0]
      refine br_f (dp_ge32 (by omega)) (br_f (nI_pos (by omega)) ?_)
      by_cases z : dp_pa (fun r => lv (o r)) s = r
      · rw [dp_c_t (decide_eq_true (cl.mpr (Or.inl z)))] at h
        exact br_t (by rw [z]) h
      · refine br_f (fun e => z (T.2.2.2.1 _ _ (by omega) hr (dp_inj (by omega) (by omega) e))) ⟨dp_v32 oq, ?_⟩
        rw [dp_cl32 oq]
        refine nm_r (A _ (by omega)) (nm_r (nI_1 i) (ih _ (i + 1) (by omega) (by omega) (by omega) ?_))
        have e : decide (r < s ∧ s < dp_en (fun r => lv (o r)) c r) = decide (r < dp_pa (fun r => lv (o r)) s ∧ dp_pa (fun r => lv (o r)) s < dp_en (fun r => lv (o r)) c r) := by
          rw [decide_eq_decide, cl]
          exact ⟨fun q => q.elim (fun q => absurd q z) id, Or.inr⟩
        rw [e] at h; exact h
theorem yy_isBelow (T : dp_Tc c o lv) (A : dp_Ab c o (fun r => lv (o r)) a_above) {s r : Nat} (hs : s < c) (hr : r < c) {post : Int32 → Prop} (h : post (dp_c (decide (r < s ∧ s < dp_en (fun r => lv (o r)) c r)))) : wpY_isBelow post ((nI c), f_height, (fun j => nI (o j)), a_there, a_above, a_tags, a_values, a_held, a_twin, a_kinds, a_args, a_sizes, a_isPath, a_rows, a_spare, a_isSet, a_alive, a_edited, a_watchNode, a_before) (nI (o s)) (nI (o r)) := by
  have t1 := T.1
  have t3 := T.2.2.1
  have l31 : lv (o s) ≤ s := dp_wf_rank T.2.2.2.2 s hs
  refine ⟨dp_v32 (t3 s), ?_⟩
  rw [dp_cl32 (t3 s)]
  exact nm_r (A s hs) ⟨_, yy_isBelow_l T A hr (lv (o s)) s 0 hs (by omega) (Nat.le_refl _) h⟩
theorem yy_endOf_l (T : dp_Tc c o lv) (A : dp_Ab c o (fun r => lv (o r)) a_above) {r : Nat} (hr : r < c) {post : Int32 → Prop} (h : post (nI (dp_en (fun r => lv (o r)) c r))) : ∀ k i, r < i → i + k = dp_en (fun r => lv (o r)) c r → wY_endOf_8 post (nI (o r)) (nI c) f_height (fun j => nI (o j)) a_there a_above a_tags a_values a_held a_twin a_kinds a_args a_sizes a_isPath a_rows a_spare a_isSet a_alive a_edited a_watchNode a_before (k + 1) (nI i) := by
  have t1 := T.1
  have t3 := T.2.2.1
  obtain ⟨e1, e2, -, -⟩ := dp_en_spec (fun r => lv (o r)) hr
  intro k
  induction k with
  | zero =>
    intro i hi he
    obtain rfl : i = dp_en (fun r => lv (o r)) c r := by omega
    refine br_c (fun _ => h) (fun z => ⟨?_, ?_⟩)
    · rw [nI_leI (by omega) (by omega)] at z
      exact dp_v32 (by omega)
    · rw [nI_leI (by omega) (by omega)] at z
      rw [dp_cl32 (by omega)]
      refine yy_isBelow T A (by omega) hr ?_
      rw [dp_c_f (decide_eq_false (fun q => by omega))]
      exact br_t rfl h
  | succ k ih =>
    intro i hi he
    refine br_f (nI_ge (by omega) (by omega)) ⟨dp_v32 (by omega), ?_⟩
    rw [dp_cl32 (by omega)]
    refine yy_isBelow T A (by omega) hr ?_
    rw [dp_c_t (decide_eq_true ⟨by omega, by omega⟩)]
    exact br_f (by decide) (nm_r (nI_1 i) (ih (i + 1) (by omega) (by omega)))
theorem yy_endOf (T : dp_Tc c o lv) (A : dp_Ab c o (fun r => lv (o r)) a_above) {r : Nat} (hr : r < c) {post : Int32 → Prop} (h : post (nI (dp_en (fun r => lv (o r)) c r))) : wpY_endOf post ((nI c), f_height, (fun j => nI (o j)), a_there, a_above, a_tags, a_values, a_held, a_twin, a_kinds, a_args, a_sizes, a_isPath, a_rows, a_spare, a_isSet, a_alive, a_edited, a_watchNode, a_before) (nI (o r)) := by
  have e1 := (dp_en_spec (fun r => lv (o r)) hr).1
  exact yy_place T hr (nm_r (nI_1 r) ⟨_, yy_endOf_l T A hr h (dp_en (fun r => lv (o r)) c r - (r + 1)) (r + 1) (by omega) (by omega)⟩)
theorem yy_childrenOf_l (T : dp_Tc c o lv) (A : dp_Ab c o (fun r => lv (o r)) a_above) {x : Nat} (hx : x < c) {post : Int32 → Prop} (h : post (nI (dp_fc (dp_ch (fun r => lv (o r)) x) c))) : ∀ k i, i + k = c → wY_childrenOf_4 post (nI (o x)) (nI c) f_height (fun j => nI (o j)) a_there a_above a_tags a_values a_held a_twin a_kinds a_args a_sizes a_isPath a_rows a_spare a_isSet a_alive a_edited a_watchNode a_before (k + 1) (nI (dp_fc (dp_ch (fun r => lv (o r)) x) i)) (nI i) := by
  have t1 := T.1
  have t3 := T.2.2.1
  intro k
  induction k with
  | zero =>
    intro i hi
    obtain rfl : i = c := by omega
    exact br_t (nI_le (Nat.le_refl _) (by omega)) h
  | succ k ih =>
    intro i hi
    refine br_f (nI_ge (by omega) (by omega)) ⟨dp_v32 (by omega), ?_⟩
    simp only [dp_cl32 (show i < 32 by omega), dp_cl32 (t3 i)]
    refine ⟨dp_v32 (t3 i), ?_⟩
    have q := dp_ask T A hx (show i < c by omega)
    have := ih (i + 1) (by omega)
    cases e : dp_ch (fun r => lv (o r)) x i
    · refine br_f (fun z => by rw [q.mp z] at e; cases e) (nm_r (nI_1 i) ?_)
      rw [dp_fc_f e] at this; exact this
    · refine br_t (q.mpr e) (nm_r (nI_1 _) (nm_r (nI_1 i) ?_))
      rw [dp_fc_t e] at this; exact this
theorem yy_childrenOf (T : dp_Tc c o lv) (A : dp_Ab c o (fun r => lv (o r)) a_above) {x : Nat} (hx : x < c) {post : Int32 → Prop} (h : post (nI (dp_fc (dp_ch (fun r => lv (o r)) x) c))) : wpY_childrenOf post ((nI c), f_height, (fun j => nI (o j)), a_there, a_above, a_tags, a_values, a_held, a_twin, a_kinds, a_args, a_sizes, a_isPath, a_rows, a_spare, a_isSet, a_alive, a_edited, a_watchNode, a_before) (nI (o x)) :=
  ⟨_, yy_childrenOf_l T A hx h c 0 (Nat.zero_add c)⟩
theorem dp_left (p : Int32) (f : Nat) : p - nI f + (-1) = p - nI (f + 1) := by
  rw [← nI_1]
  grind
theorem dp_left0 {p : Int32} {f : Nat} : p - nI f = 0 ↔ nI f = p := by
  constructor
  · intro h; grind
  · intro h; rw [h]; grind
theorem yy_child_l (T : dp_Tc c o lv) (A : dp_Ab c o (fun r => lv (o r)) a_above) {x : Nat} (hx : x < c) {p : Int32} {post : Int32 → Prop} (h : post (dp_an o (-1) (dp_fk (dp_ch (fun r => lv (o r)) x) p c))) : ∀ k i, i + k = c → dp_fk (dp_ch (fun r => lv (o r)) x) p i = none → wY_child_5 post (nI (o x)) (nI c) f_height (fun j => nI (o j)) a_there a_above a_tags a_values a_held a_twin a_kinds a_args a_sizes a_isPath a_rows a_spare a_isSet a_alive a_edited a_watchNode a_before (k + 1) (p - nI (dp_fc (dp_ch (fun r => lv (o r)) x) i)) (nI i) := by
  have t1 := T.1
  have t3 := T.2.2.1
  intro k
  induction k with
  | zero =>
    intro i hi hn
    obtain rfl : i = c := by omega
    rw [hn] at h
    exact br_t (nI_le (Nat.le_refl _) (by omega)) h
  | succ k ih =>
    intro i hi hn
    refine br_f (nI_ge (by omega) (by omega)) ⟨dp_v32 (by omega), ?_⟩
    simp only [dp_cl32 (show i < 32 by omega), dp_cl32 (t3 i)]
    refine ⟨dp_v32 (t3 i), ?_⟩
    have q := dp_ask T A hx (show i < c by omega)
    cases e : dp_ch (fun r => lv (o r)) x i
    · refine br_f (fun z => by rw [q.mp z] at e; cases e) (nm_r (nI_1 i) ?_)
      have := ih (i + 1) (by omega) (dp_fk_miss hn (fun z => by rw [e] at z; exact absurd z.1 (by decide)))
      rw [dp_fc_f e] at this; exact this
    · refine br_t (q.mpr e) ?_
      by_cases z : nI (dp_fc (dp_ch (fun r => lv (o r)) x) i) = p
      · refine br_t (dp_left0.mpr z) ⟨dp_v32 (by omega), ?_⟩
        rw [dp_fk_up (dp_fk_hit hn e z) (show i + 1 ≤ c by omega)] at h
        exact h
      · refine br_f (fun w => z (dp_left0.mp w)) (nm_r (dp_left _ _) (nm_r (nI_1 i) ?_))
        have := ih (i + 1) (by omega) (dp_fk_miss hn (fun w => z w.2))
        rw [dp_fc_t e] at this; exact this
theorem dp_sub0 (p : Int32) : p - nI 0 = p := by rw [nI_0]; grind
theorem yy_child (T : dp_Tc c o lv) (A : dp_Ab c o (fun r => lv (o r)) a_above) {x : Nat} (hx : x < c) {p : Int32} {post : Int32 → Prop} (h : post (dp_an o (-1) (dp_fk (dp_ch (fun r => lv (o r)) x) p c))) : wpY_child post ((nI c), f_height, (fun j => nI (o j)), a_there, a_above, a_tags, a_values, a_held, a_twin, a_kinds, a_args, a_sizes, a_isPath, a_rows, a_spare, a_isSet, a_alive, a_edited, a_watchNode, a_before) (nI (o x)) p := by
  refine ⟨c + 1, ?_⟩
  have := yy_child_l (f_height := f_height) (a_there := a_there) (a_above := a_above) (a_tags := a_tags) (a_values := a_values) (a_held := a_held) (a_twin := a_twin) (a_kinds := a_kinds) (a_args := a_args) (a_sizes := a_sizes) (a_isPath := a_isPath) (a_rows := a_rows) (a_spare := a_spare) (a_isSet := a_isSet) (a_alive := a_alive) (a_edited := a_edited) (a_watchNode := a_watchNode) (a_before := a_before) T A hx h c 0 (Nat.zero_add c) rfl
  rw [show dp_fc (dp_ch (fun r => lv (o r)) x) 0 = 0 from rfl, dp_sub0] at this
  exact this
theorem yy_gapFor (T : dp_Tc c o lv) (A : dp_Ab c o (fun r => lv (o r)) a_above) {x : Nat} (hx : x < c) {p : Int32} {post : Int32 → Prop} (h : post (nI (dp_gr (fun r => lv (o r)) c x p))) : wpY_gapFor post ((nI c), f_height, (fun j => nI (o j)), a_there, a_above, a_tags, a_values, a_held, a_twin, a_kinds, a_args, a_sizes, a_isPath, a_rows, a_spare, a_isSet, a_alive, a_edited, a_watchNode, a_before) (nI (o x)) p := by
  have t3 := T.2.2.1
  refine yy_child T A hx ?_
  unfold dp_gr at h
  cases e : dp_fk (dp_ch (fun r => lv (o r)) x) p c with
  | none =>
    rw [e] at h
    exact br_t (show (-1 : Int32) < 0 by decide) (yy_endOf T A hx h)
  | some i =>
    rw [e] at h
    have oi := t3 i
    exact br_f (nI_pos (by omega)) (yy_place T (dp_fk_some e).1 h)
theorem yy_newNumber_l {post : Int32 → Prop} : ∀ d n, n + d = 31 → post (nI (dp_lf (bt pr) d n)) → wY_newNumber_2 post f_count f_height a_list (dp_th pr) a_above a_tags a_values a_held a_twin a_kinds a_args a_sizes a_isPath a_rows a_spare a_isSet a_alive a_edited a_watchNode a_before (d + 1) (nI n) := by
  intro d
  induction d with
  | zero =>
    intro n hn h
    exact br_t (nI_le (a := 31) (b := n) (by omega) (by omega)) h
  | succ d ih =>
    intro n hn h
    refine br_f (nI_ge (b := 31) (by omega) (by decide)) ⟨dp_v32 (by omega), ?_⟩
    rw [dp_cl32 (by omega)]
    show ((dp_c (bt pr n) = 0 → _) ∧ (¬ dp_c (bt pr n) = 0 → _))
    by_cases z : bt pr n = true
    · rw [dp_lf_t z] at h
      rw [dp_c_t z]
      exact br_f (by decide) (nm_r (nI_1 n) (ih (n + 1) (by omega) h))
    · rw [dp_lf_f z] at h
      rw [dp_c_f (Bool.eq_false_iff.mpr z)]
      exact br_t rfl h
theorem yy_newNumber {post : Int32 → Prop} (h : post (nI (dp_ln pr))) : wpY_newNumber post (f_count, f_height, a_list, (dp_th pr), a_above, a_tags, a_values, a_held, a_twin, a_kinds, a_args, a_sizes, a_isPath, a_rows, a_spare, a_isSet, a_alive, a_edited, a_watchNode, a_before) := ⟨_, yy_newNumber_l 31 0 rfl h⟩
theorem yy_takeOut_39 (ho : ∀ r, o r < 32) (hc : c ≤ 32) {a k : Nat} (hk : 0 < k) (hak : a + k ≤ c) {post : SY → Prop} (h : post ((nI (c - k)), f_height, (fun j => nI (dp_cl o c a k j)), a_there, a_above, a_tags, a_values, a_held, a_twin, a_kinds, a_args, a_sizes, a_isPath, a_rows, a_spare, a_isSet, a_alive, a_edited, a_watchNode, a_before)) : ∀ d i, i + k + d = c → a ≤ i → wY_takeOut_39 post (nI k) (nI (c - k)) f_height (d + 1) (nI i) (fun j => nI (dp_cl o (i + k) a k j)) a_there a_above a_tags a_values a_held a_twin a_kinds a_args a_sizes a_isPath a_rows a_spare a_isSet a_alive a_edited a_watchNode a_before := by
  intro d
  induction d with
  | zero =>
    intro i hi ha
    rw [show i + k = c from by omega]
    exact br_t (nI_le (by omega) (by omega)) h
  | succ d ih =>
    intro i hi ha
    refine br_f (nI_ge (by omega) (by omega)) ?_
    rw [nI_add]
    refine ⟨dp_v32 (by omega), dp_v32 (by omega), ?_⟩
    simp only [dp_cl32 (show i < 32 by omega), dp_cl32 (show i + k < 32 by omega)]
    refine nm_r dp_upd (nm_r (nI_1 i) ?_)
    have e := dp_cl_s (o := o) (a := a) (k := k) (r := i + k) (by omega) hk
    rw [Nat.add_sub_cancel] at e
    rw [e, show i + k + 1 = i + 1 + k from by omega]
    exact ih (i + 1) (by omega) (by omega)
theorem yy_takeOut_2 (ho : ∀ r, o r < 32) (hc : c ≤ 32) {a k : Nat} (hk : 0 < k) (hak : a + k ≤ c) {post : SY → Prop} (h : ∀ hd : Nat → Int32, (∀ i, i < k → hd i = nI (o (a + i))) → post ((nI (c - k)), f_height, (fun j => nI (dp_cl o c a k j)), a_there, a_above, a_tags, a_values, hd, a_twin, a_kinds, a_args, a_sizes, a_isPath, a_rows, a_spare, a_isSet, a_alive, a_edited, a_watchNode, a_before)) : ∀ d i (hd : Nat → Int32), i + d = k → (∀ j, j < i → hd j = nI (o (a + j))) → wY_takeOut_2 post (nI a) (nI k) (nI c) f_height (d + 1) (nI i) (fun j => nI (o j)) a_there a_above a_tags a_values hd a_twin a_kinds a_args a_sizes a_isPath a_rows a_spare a_isSet a_alive a_edited a_watchNode a_before := by
  intro d
  induction d with
  | zero =>
    intro i hd hi H
    obtain rfl : i = k := by omega
    refine br_t (nI_le (Nat.le_refl _) (by omega)) (nm_r (pk_sub (by omega)) ⟨c - (a + i) + 1, ?_⟩)
    have := yy_takeOut_39 ho hc hk hak (h hd H) (c - (a + i)) a (by omega) (Nat.le_refl _)
    rw [dp_cl_0 o c a i] at this
    exact this
  | succ d ih =>
    intro i hd hi H
    refine br_f (nI_ge (by omega) (by omega)) ?_
    rw [nI_add]
    refine ⟨dp_v32 (by omega), dp_v32 (by omega), ?_⟩
    simp only [dp_cl32 (show i < 32 by omega), dp_cl32 (show a + i < 32 by omega)]
    refine nm_e (nm_r (nI_1 i) (ih (i + 1) _ (by omega) fun j hj => ?_))
    by_cases z : j = i
    · subst z; exact pk_us
    · rw [pk_un z]; exact H j (by omega)
theorem yy_takeOut (ho : ∀ r, o r < 32) (hc : c ≤ 32) {a k : Nat} (hk : 0 < k) (hak : a + k ≤ c) {post : SY → Prop} (h : ∀ hd : Nat → Int32, (∀ i, i < k → hd i = nI (o (a + i))) → post ((nI (c - k)), f_height, (fun j => nI (dp_cl o c a k j)), a_there, a_above, a_tags, a_values, hd, a_twin, a_kinds, a_args, a_sizes, a_isPath, a_rows, a_spare, a_isSet, a_alive, a_edited, a_watchNode, a_before)) : wpY_takeOut post ((nI c), f_height, (fun j => nI (o j)), a_there, a_above, a_tags, a_values, a_held, a_twin, a_kinds, a_args, a_sizes, a_isPath, a_rows, a_spare, a_isSet, a_alive, a_edited, a_watchNode, a_before) (nI a) (nI k) :=
  ⟨_, yy_takeOut_2 ho hc hk hak h k 0 _ (Nat.zero_add k) (fun j hj => absurd hj (Nat.not_lt_zero j))⟩
theorem yy_putIn_34 {t k : Nat} {g f : Nat → Nat} (hk : 0 < k) (hc : c + k ≤ 32) (ht : t ≤ c) (hg : ∀ i, i < k → a_held i = nI (g i)) {post : SY → Prop} (h : post ((nI (c + k)), f_height, (fun j => nI (dp_fl f t k g j)), a_there, a_above, a_tags, a_values, a_held, a_twin, a_kinds, a_args, a_sizes, a_isPath, a_rows, a_spare, a_isSet, a_alive, a_edited, a_watchNode, a_before)) : ∀ d i, i + d = k → wY_putIn_34 post (nI t) (nI k) (nI c) f_height (d + 1) (nI i) (fun j => nI (dp_fl f t i g j)) a_there a_above a_tags a_values a_held a_twin a_kinds a_args a_sizes a_isPath a_rows a_spare a_isSet a_alive a_edited a_watchNode a_before := by
  intro d
  induction d with
  | zero =>
    intro i hi
    obtain rfl : i = k := by omega
    exact br_t (nI_le (Nat.le_refl _) (by omega)) (nm_r (nI_add c i) h)
  | succ d ih =>
    intro i hi
    refine br_f (nI_ge (by omega) (by omega)) ⟨dp_v32 (by omega), ?_⟩
    rw [nI_add]
    refine ⟨dp_v32 (by omega), ?_⟩
    simp only [dp_cl32 (show i < 32 by omega), dp_cl32 (show t + i < 32 by omega), hg i (by omega)]
    refine nm_r dp_upd (nm_r (nI_1 i) ?_)
    rw [dp_fl_s]
    exact ih (i + 1) (by omega)
theorem dp_m1 (x : Int32) : x + (-1) = x - 1 := by grind
theorem yy_putIn_7 {t k : Nat} {g : Nat → Nat} (hk : 0 < k) (hc : c + k ≤ 32) (ht : t ≤ c) (hg : ∀ i, i < k → a_held i = nI (g i)) {post : SY → Prop} (h : post ((nI (c + k)), f_height, (fun j => nI (dp_fl (dp_og o c t k) t k g j)), a_there, a_above, a_tags, a_values, a_held, a_twin, a_kinds, a_args, a_sizes, a_isPath, a_rows, a_spare, a_isSet, a_alive, a_edited, a_watchNode, a_before)) : ∀ d, t + d ≤ c → wY_putIn_7 post (nI t) (nI k) (nI c) f_height (d + 1) (nI (t + d) - 1) (fun j => nI (dp_oh o c k (t + d) j)) a_there a_above a_tags a_values a_held a_twin a_kinds a_args a_sizes a_isPath a_rows a_spare a_isSet a_alive a_edited a_watchNode a_before := by
  intro d
  induction d with
  | zero =>
    intro hd
    refine br_t ?_ ⟨k + 1, ?_⟩
    · rw [Nat.add_zero]
      cases t with
      | zero => decide
      | succ t => rw [nI_pred]; exact nI_lt (by omega) (by omega)
    · have := yy_putIn_34 (f := dp_og o c t k) hk hc ht hg h k 0 (Nat.zero_add k)
      rw [dp_fl_0] at this
      exact this
  | succ d ih =>
    intro hd
    rw [show t + (d + 1) = t + d + 1 from by omega, nI_pred]
    refine br_f (nI_nlt (by omega) (by omega)) ⟨dp_v32 (by omega), ?_⟩
    rw [nI_add]
    refine ⟨dp_v32 (by omega), ?_⟩
    simp only [dp_cl32 (show t + d < 32 by omega), dp_cl32 (show t + d + k < 32 by omega)]
    refine nm_r dp_upd (nm_r (dp_m1 _) ?_)
    rw [dp_oh_s (by omega)]
    exact ih (by omega)
theorem yy_putIn {t k : Nat} {g : Nat → Nat} (hk : 0 < k) (hc : c + k ≤ 32) (ht : t ≤ c) (hg : ∀ i, i < k → a_held i = nI (g i)) {post : SY → Prop} (h : post ((nI (c + k)), f_height, (fun j => nI (dp_fl (dp_og o c t k) t k g j)), a_there, a_above, a_tags, a_values, a_held, a_twin, a_kinds, a_args, a_sizes, a_isPath, a_rows, a_spare, a_isSet, a_alive, a_edited, a_watchNode, a_before)) : wpY_putIn post ((nI c), f_height, (fun j => nI (o j)), a_there, a_above, a_tags, a_values, a_held, a_twin, a_kinds, a_args, a_sizes, a_isPath, a_rows, a_spare, a_isSet, a_alive, a_edited, a_watchNode, a_before) (nI t) (nI k) := by
  refine nm_e ⟨c - t + 1, ?_⟩
  have := yy_putIn_7 hk hc ht hg h (c - t) (by omega)
  rw [show t + (c - t) = c from by omega, dp_oh_0] at this
  exact this
end YT
