/-! the reference's work on entries -/
theorem dp_upd2 (R : Nat → Int32) (i : Nat) (x y : Int32) : upd (upd R i x) i y = upd R i y := by
  funext j
  show (if j = i then y else if j = i then x else R j) = if j = i then y else R j
  by_cases z : j = i
  · rw [if_pos z, if_pos z]
  · rw [if_neg z, if_neg z, if_neg z]
theorem dp_upd_id (R : Nat → Int32) (i : Nat) : upd R i (R i) = R := by
  funext j
  show (if j = i then R i else R j) = R j
  by_cases z : j = i
  · rw [if_pos z, z]
  · rw [if_neg z]
section YO
variable {f_count f_height : Int32} {a_list a_there a_above a_tags a_values a_held a_twin a_kinds a_args a_sizes a_isPath a_rows a_spare a_isSet a_alive a_edited a_watchNode a_before : Nat → Int32} {c e : Nat} {o lv : Nat → Nat} {pr a : Int32} {p q R : Nat → Int32}
theorem yy_in {w : Int32} {n : Nat} (hn : n < 32) {post : Int32 → Prop} (h : post (dp_c (bt w n))) : wpY_in post (f_count, f_height, a_list, a_there, a_above, a_tags, a_values, a_held, a_twin, a_kinds, a_args, a_sizes, a_isPath, a_rows, a_spare, a_isSet, a_alive, a_edited, a_watchNode, a_before) w (nI n) := by
  show ((((w >>> (nI n &&& 31)) &&& 1) = 1 → post 1) ∧ (¬ ((w >>> (nI n &&& 31)) &&& 1) = 1 → post 0))
  rw [dp_yb w hn]
  cases z : bt w n
  · rw [z] at h; exact br_f (by decide) h
  · rw [z] at h; exact br_t rfl h
theorem yy_ones_l {w : Int32} {post : Int32 → Prop} (h : post (nI (dp_fc (bt w) 32))) : ∀ d i, i + d = 32 → wY_ones_4 post w f_count f_height a_list a_there a_above a_tags a_values a_held a_twin a_kinds a_args a_sizes a_isPath a_rows a_spare a_isSet a_alive a_edited a_watchNode a_before (d + 1) (nI (dp_fc (bt w) i)) (nI i) := by
  intro d
  induction d with
  | zero =>
    intro i hi
    obtain rfl : i = 32 := by omega
    exact br_t dp_le32 h
  | succ d ih =>
    intro i hi
    refine br_f (dp_ge32 (by omega)) (nm_r ?_ (nm_r (nI_1 i) (ih (i + 1) (by omega))))
    rw [dp_yb w (by omega), dp_fc_add]
theorem yy_ones {w : Int32} {post : Int32 → Prop} (h : post (nI (dp_fc (bt w) 32))) : wpY_ones post (f_count, f_height, a_list, a_there, a_above, a_tags, a_values, a_held, a_twin, a_kinds, a_args, a_sizes, a_isPath, a_rows, a_spare, a_isSet, a_alive, a_edited, a_watchNode, a_before) w := ⟨_, yy_ones_l h 32 0 rfl⟩
theorem yy_kth_l (ho : ∀ r, o r < 32) (hc : c ≤ 32) {w k : Int32} {post : Int32 → Prop} (h : post (dp_an o (-2) (dp_fk (fun i => bt w (o i)) k c))) : ∀ d i, i + d = c → dp_fk (fun i => bt w (o i)) k i = none → wY_kth_5 post w (nI c) f_height (fun j => nI (o j)) a_there a_above a_tags a_values a_held a_twin a_kinds a_args a_sizes a_isPath a_rows a_spare a_isSet a_alive a_edited a_watchNode a_before (d + 1) (k - nI (dp_fc (fun i => bt w (o i)) i)) (nI i) := by
  intro d
  induction d with
  | zero =>
    intro i hi hn
    obtain rfl : i = c := by omega
    rw [hn] at h
    exact br_t (nI_le (Nat.le_refl _) (by omega)) h
  | succ d ih =>
    intro i hi hn
    refine br_f (nI_ge (by omega) (by omega)) ⟨dp_v32 (by omega), ?_⟩
    rw [dp_cl32 (show i < 32 by omega)]
    refine yy_in (ho i) ?_
    cases e : bt w (o i)
    · refine br_t rfl (nm_r (nI_1 i) ?_)
      have := ih (i + 1) (by omega) (dp_fk_miss hn (fun z => by rw [e] at z; exact absurd z.1 (by decide)))
      rw [dp_fc_f (P := fun i => bt w (o i)) e] at this; exact this
    · refine br_f (by decide) ?_
      by_cases z : nI (dp_fc (fun i => bt w (o i)) i) = k
      · refine br_t (dp_left0.mpr z) ⟨dp_v32 (by omega), ?_⟩
        rw [dp_fk_up (dp_fk_hit (P := fun i => bt w (o i)) hn e z) (show i + 1 ≤ c by omega)] at h
        exact h
      · refine br_f (fun w => z (dp_left0.mp w)) (nm_r (dp_left _ _) (nm_r (nI_1 i) ?_))
        have := ih (i + 1) (by omega) (dp_fk_miss hn (fun w => z w.2))
        rw [dp_fc_t (P := fun i => bt w (o i)) e] at this; exact this
theorem yy_kth (ho : ∀ r, o r < 32) (hc : c ≤ 32) {w k : Int32} {post : Int32 → Prop} (h : post (dp_an o (-2) (dp_fk (fun i => bt w (o i)) k c))) : wpY_kth post ((nI c), f_height, (fun j => nI (o j)), a_there, a_above, a_tags, a_values, a_held, a_twin, a_kinds, a_args, a_sizes, a_isPath, a_rows, a_spare, a_isSet, a_alive, a_edited, a_watchNode, a_before) w k := by
  refine ⟨c + 1, ?_⟩
  have := yy_kth_l (f_height := f_height) (a_there := a_there) (a_above := a_above) (a_tags := a_tags) (a_values := a_values) (a_held := a_held) (a_twin := a_twin) (a_kinds := a_kinds) (a_args := a_args) (a_sizes := a_sizes) (a_isPath := a_isPath) (a_rows := a_rows) (a_spare := a_spare) (a_isSet := a_isSet) (a_alive := a_alive) (a_edited := a_edited) (a_watchNode := a_watchNode) (a_before := a_before) ho hc h c 0 (Nat.zero_add c) rfl
  rw [show dp_fc (fun i => bt w (o i)) 0 = 0 from rfl, dp_sub0] at this
  exact this
theorem yy_nth_33 (ho : ∀ r, o r < 32) {post : Int32 → Prop} {z : Option Nat} (h : post (dp_ob o z)) : wY_nthOf_33 post (dp_an o (-2) z) f_count f_height a_list a_there a_above a_tags a_values a_held a_twin a_kinds a_args a_sizes a_isPath a_rows a_spare a_isSet a_alive a_edited a_watchNode a_before := by
  cases z with
  | none => exact br_f (show ¬ (0 : Int32) ≤ -2 by decide) h
  | some i => have := ho i; exact br_t (nI_pos' (by omega)) h
theorem yy_nth_17 (ho : ∀ r, o r < 32) (hc : c ≤ 32) {w k : Int32} {post : Int32 → Prop} (h : post (dp_ob o (dp_fk (fun i => bt w (o i)) k c))) : wY_nthOf_17 post w k (nI c) f_height (fun j => nI (o j)) a_there a_above a_tags a_values a_held a_twin a_kinds a_args a_sizes a_isPath a_rows a_spare a_isSet a_alive a_edited a_watchNode a_before := by
  refine br_c (fun _ => yy_kth ho hc (yy_nth_33 ho h)) (fun z => ?_)
  rw [dp_fk_neg (Int32.not_le.mp z) (by omega)] at h
  exact yy_nth_33 (z := none) ho h
theorem yy_nthOf (ho : ∀ r, o r < 32) (hc : c ≤ 32) {w : Int32} (ha : a ≠ 0) {post : Int32 → Prop} (h : post (dp_nt c o a w)) : wpY_nthOf post ((nI c), f_height, (fun j => nI (o j)), a_there, a_above, a_tags, a_values, a_held, a_twin, a_kinds, a_args, a_sizes, a_isPath, a_rows, a_spare, a_isSet, a_alive, a_edited, a_watchNode, a_before) w a := by
  unfold dp_nt dp_nk at h
  refine br_c (fun z => ?_) (fun z => ?_)
  · rw [if_pos (Int32.lt_iff_le_and_ne.mpr ⟨z, ha⟩)] at h
    exact yy_ones (yy_nth_17 ho hc h)
  · rw [if_neg (fun w => z (Int32.le_of_lt w))] at h
    exact yy_nth_17 ho hc h
theorem yy_onAxis_34 (T : dp_Tc c o lv) (A : dp_Ab c o (fun r => lv (o r)) a_above) {i j : Nat} (hi : i < c) (hj : j < c) {post : Int32 → Prop} (h : post (dp_c (dp_ax (fun r => lv (o r)) c a i j))) : wY_onAxis_34 post a (nI (o i)) (nI (o j)) (dp_c (decide (i < j))) (dp_c (decide (i ≠ j ∧ 0 < i ∧ 0 < j ∧ dp_pa (fun r => lv (o r)) i = dp_pa (fun r => lv (o r)) j))) (nI c) f_height (fun j => nI (o j)) a_there a_above a_tags a_values a_held a_twin a_kinds a_args a_sizes a_isPath a_rows a_spare a_isSet a_alive a_edited a_watchNode a_before := by
  have t1 := T.1
  have t3 := T.2.2.1
  have ei := (dp_en_spec (fun r => lv (o r)) hi).1
  have ej := (dp_en_spec (fun r => lv (o r)) hj).1
  have oi := t3 i
  have oj := t3 j
  have inj : nI (o i) = nI (o j) ↔ i = j := ⟨fun e => T.2.2.2.1 _ _ hi hj (dp_inj (by omega) (by omega) e), fun e => by rw [e]⟩
  have ask1 := dp_ask T A hi hj
  have ask2 := dp_ask T A hj hi
  unfold wY_onAxis_34
  simp only [dp_cl32 oi, dp_cl32 oj, inj, ask1, ask2]
  have pd : ∀ {p : Prop} [inst : Decidable p], post (dp_c (decide p)) → ((p → post 1) ∧ (¬ p → post 0)) := fun {p} _ h => by
    by_cases z : p
    · rw [dp_c_t (decide_eq_true z)] at h; exact br_t z h
    · rw [dp_c_f (decide_eq_false z)] at h; exact br_f z h
  have nb : ∀ b : Bool, post (dp_c b) → narrow .boolean (.int (dp_c b)) = .int (dp_c b) ∧ post (dp_c b) := fun b h => ⟨by cases b <;> rfl, h⟩
  have pp : ∀ {b b' : Bool}, b = b' → post (dp_c b) → post (dp_c b') := fun e h => by rw [← e]; exact h
  have df : a ≠ 0 → a ≠ 1 → a ≠ 2 → a ≠ 3 → a ≠ 4 → a ≠ 5 → a ≠ 6 → a ≠ 7 → ((i = j → post 0) ∧ (¬ i = j → ((dp_c (decide (i < j)) = 0 → wpY_isBelow (fun r => (r = 0 → post 1) ∧ (¬ r = 0 → post 0)) ((nI c), f_height, (fun j => nI (o j)), a_there, a_above, a_tags, a_values, a_held, a_twin, a_kinds, a_args, a_sizes, a_isPath, a_rows, a_spare, a_isSet, a_alive, a_edited, a_watchNode, a_before) (nI (o i)) (nI (o j))) ∧ (¬ dp_c (decide (i < j)) = 0 → post 0)))) := fun h0 h1 h2 h3 h4 h5 h6 h7 => by
    unfold dp_ax at h
    rw [if_neg h0, if_neg h1, if_neg h2, if_neg h3, if_neg h4, if_neg h5, if_neg h6, if_neg h7] at h
    have no : i ≤ j → post 0 := fun z => by
      rw [dp_c_f (decide_eq_false (by omega))] at h; exact h
    refine br_c (fun z => no (by omega)) (fun z => br_c (fun y => ?_) (fun y => ?_))
    · rw [dp_c_0, decide_eq_false_iff_not] at y
      refine yy_isBelow T A hi hj ?_
      by_cases x : j < i ∧ i < dp_en (fun r => lv (o r)) c j
      · rw [dp_c_t (decide_eq_true x)]
        rw [dp_c_f (decide_eq_false (by omega))] at h
        exact br_f (by decide) h
      · rw [dp_c_f (decide_eq_false x)]
        rw [dp_c_t (decide_eq_true (by omega))] at h
        exact br_t rfl h
    · rw [dp_c_0, decide_eq_false_iff_not] at y
      exact no (by omega)
  by_cases h0 : a = 0
  · subst h0
    refine br_f (by decide) (br_f (by decide) (br_t rfl (pd (pp (b := decide (j = i)) ?_ h))))
    rw [decide_eq_decide]; exact ⟨Eq.symm, Eq.symm⟩
  by_cases h1 : a = 1
  · subst h1
    refine br_f (by decide) (br_f (by decide) (br_f (by decide) (br_t rfl ⟨dp_v32 oj, ?_⟩)))
    rw [dp_ch_iff]
    exact pd h
  by_cases h2 : a = 2
  · subst h2
    refine br_f (by decide) (br_f (by decide) (br_f (by decide) (br_f (by decide) (br_t rfl ⟨dp_v32 oi, ?_⟩))))
    rw [dp_ch_iff]
    exact pd h
  by_cases h3 : a = 3
  · subst h3
    exact br_f (by decide) (br_f (by decide) (br_f (by decide) (br_f (by decide) (br_f (by decide) (br_t rfl (yy_isBelow T A hj hi (nb _ h)))))))
  by_cases h4 : a = 4
  · subst h4
    exact br_f (by decide) (br_f (by decide) (br_f (by decide) (br_f (by decide) (br_f (by decide) (br_f (by decide) (br_t rfl (yy_isBelow T A hi hj (nb _ h))))))))
  by_cases h5 : a = 5
  · subst h5
    refine br_f (by decide) (br_f (by decide) (br_f (by decide) (br_f (by decide) (br_f (by decide) (br_f (by decide) (br_f (by decide) (br_t rfl ?_)))))))
    have h' : post (dp_c (decide (i < j ∧ 0 < i ∧ 0 < j ∧ dp_pa (fun r => lv (o r)) i = dp_pa (fun r => lv (o r)) j))) := h
    simp only [dp_c_0, decide_eq_false_iff_not]
    refine br_c (fun z => ?_) (fun z => br_c (fun y => ?_) (fun y => ?_))
    · rw [dp_c_f (decide_eq_false (fun q => z ⟨by omega, q.2⟩))] at h'; exact h'
    · rw [dp_c_f (decide_eq_false (fun q => y q.1))] at h'; exact h'
    · rw [dp_c_t (decide_eq_true ⟨Classical.not_not.mp y, (Classical.not_not.mp z).2⟩)] at h'; exact h'
  by_cases h6 : a = 6
  · subst h6
    refine br_f (by decide) (br_f (by decide) (br_f (by decide) (br_f (by decide) (br_f (by decide) (br_f (by decide) (br_f (by decide) (br_f (by decide) (br_t rfl ?_))))))))
    have h' : post (dp_c (decide (j < i ∧ 0 < i ∧ 0 < j ∧ dp_pa (fun r => lv (o r)) i = dp_pa (fun r => lv (o r)) j))) := h
    simp only [dp_c_0, decide_eq_false_iff_not]
    refine br_c (fun z => ?_) (fun z => br_c (fun y => ?_) (fun y => ?_))
    · rw [dp_c_f (decide_eq_false (fun q => z ⟨by omega, q.2⟩))] at h'; exact h'
    · have z' := Classical.not_not.mp z
      rw [dp_c_t (decide_eq_true ⟨by omega, z'.2⟩)] at h'; exact h'
    · rw [dp_c_f (decide_eq_false (fun q => y (by omega)))] at h'; exact h'
  by_cases h7 : a = 7
  · subst h7
    refine br_f (by decide) (br_f (by decide) (br_f (by decide) (br_f (by decide) (br_f (by decide) (br_f (by decide) (br_f (by decide) (br_f (by decide) (br_f (by decide) (br_t rfl ?_)))))))))
    have h' : post (dp_c (decide (dp_en (fun r => lv (o r)) c i ≤ j))) := h
    simp only [dp_c_0, decide_eq_false_iff_not]
    refine br_c (fun z => ?_) (fun z => ?_)
    · rw [dp_c_f (decide_eq_false (by omega))] at h'; exact h'
    · refine yy_isBelow T A hj hi ?_
      by_cases x : i < j ∧ j < dp_en (fun r => lv (o r)) c i
      · rw [dp_c_t (decide_eq_true x)]
        rw [dp_c_f (decide_eq_false (by omega))] at h'
        exact br_f (by decide) h'
      · rw [dp_c_f (decide_eq_false x)]
        rw [dp_c_t (decide_eq_true (by omega))] at h'
        exact br_t rfl h'
  have d := df h0 h1 h2 h3 h4 h5 h6 h7
  exact br_c (fun _ => d) (fun _ => br_c (fun _ => d) (fun _ => br_f h0 (br_f h1 (br_f h2 (br_f h3 (br_f h4 (br_f h5 (br_f h6 (br_f h7 trivial)))))))))
theorem yy_onAxis (T : dp_Tc c o lv) (A : dp_Ab c o (fun r => lv (o r)) a_above) {i j : Nat} (hi : i < c) (hj : j < c) {post : Int32 → Prop} (h : post (dp_c (dp_ax (fun r => lv (o r)) c a i j))) : wpY_onAxis post ((nI c), f_height, (fun j => nI (o j)), a_there, a_above, a_tags, a_values, a_held, a_twin, a_kinds, a_args, a_sizes, a_isPath, a_rows, a_spare, a_isSet, a_alive, a_edited, a_watchNode, a_before) a (nI (o i)) (nI (o j)) (dp_c (decide (i < j))) := by
  have t3 := T.2.2.1
  have oi := t3 i
  have oj := t3 j
  have go := yy_onAxis_34 (f_height := f_height) (a_there := a_there) (a_above := a_above) (a_tags := a_tags) (a_values := a_values) (a_held := a_held) (a_twin := a_twin) (a_kinds := a_kinds) (a_args := a_args) (a_sizes := a_sizes) (a_isPath := a_isPath) (a_rows := a_rows) (a_spare := a_spare) (a_isSet := a_isSet) (a_alive := a_alive) (a_edited := a_edited) (a_watchNode := a_watchNode) (a_before := a_before) (post := post) T A hi hj h
  have fam : ¬ (i ≠ j ∧ 0 < i ∧ 0 < j ∧ dp_pa (fun r => lv (o r)) i = dp_pa (fun r => lv (o r)) j) → wY_onAxis_33 post a (nI (o i)) (nI (o j)) (dp_c (decide (i < j))) (nI c) f_height (fun j => nI (o j)) a_there a_above a_tags a_values a_held a_twin a_kinds a_args a_sizes a_isPath a_rows a_spare a_isSet a_alive a_edited a_watchNode a_before := fun z => by
    rw [dp_c_f (decide_eq_false z)] at go; exact go
  have oi' := t3 (dp_pa (fun r => lv (o r)) i)
  have oj' := t3 (dp_pa (fun r => lv (o r)) j)
  refine br_c (fun z => fam (fun q => q.1 (T.2.2.2.1 _ _ hi hj (dp_inj (by omega) (by omega) z)))) (fun z => ⟨dp_v32 oi, ?_⟩)
  have zn : i ≠ j := fun e => z (by rw [e])
  simp only [dp_cl32 oi, dp_cl32 oj]
  rw [A i hi]
  by_cases zi : i = 0
  · rw [if_pos zi]
    exact br_t (by decide) (fam (fun q => by omega))
  · rw [if_neg zi]
    refine br_f (nI_pos (by omega)) ⟨dp_v32 oi, dp_v32 oj, ?_⟩
    rw [A j hj]
    by_cases zj : j = 0
    · rw [if_pos zj]
      exact br_f (dp_nle1 (by omega)) (fam (fun q => by omega))
    · have pi := dp_wf_pl T.2.2.2.2 (show 0 < i by omega) hi
      have pj := dp_wf_pl T.2.2.2.2 (show 0 < j by omega) hj
      rw [if_neg zj]
      by_cases y : dp_pa (fun r => lv (o r)) i = dp_pa (fun r => lv (o r)) j
      · rw [dp_c_t (decide_eq_true (show i ≠ j ∧ 0 < i ∧ 0 < j ∧ dp_pa (fun r => lv (o r)) i = dp_pa (fun r => lv (o r)) j from ⟨zn, by omega, by omega, y⟩))] at go
        exact br_t (by rw [y]) go
      · exact br_f (fun e => y (T.2.2.2.1 _ _ (by omega) (by omega) (dp_inj (by omega) (by omega) e))) (fam (fun q => y q.2.2.2))
theorem yy_axisRow_l (T : dp_Tc c o lv) (A : dp_Ab c o (fun r => lv (o r)) a_above) {i : Nat} (hi : i < c) {post : Int32 → Prop} (h : post (dp_fr o (dp_ax (fun r => lv (o r)) c a i) c)) : ∀ d j, j + d = c → wY_axisRow_12 post a (nI (o i)) (nI i) (nI c) f_height (fun j => nI (o j)) a_there a_above a_tags a_values a_held a_twin a_kinds a_args a_sizes a_isPath a_rows a_spare a_isSet a_alive a_edited a_watchNode a_before (d + 1) (dp_fr o (dp_ax (fun r => lv (o r)) c a i) j) (nI j) := by
  have t1 := T.1
  have t3 := T.2.2.1
  intro d
  induction d with
  | zero =>
    intro j hj
    obtain rfl : j = c := by omega
    exact br_t (nI_le (Nat.le_refl _) (by omega)) h
  | succ d ih =>
    intro j hj
    have := ih (j + 1) (by omega)
    have go : wY_axisRow_43 post (wY_axisRow_12 post a (nI (o i)) (nI i) (nI c) f_height (fun j => nI (o j)) a_there a_above a_tags a_values a_held a_twin a_kinds a_args a_sizes a_isPath a_rows a_spare a_isSet a_alive a_edited a_watchNode a_before (d + 1)) a (nI (o i)) (dp_fr o (dp_ax (fun r => lv (o r)) c a i) j) (nI i) (nI j) (dp_c (decide (i < j))) (nI (o j)) (nI (o i)) a (nI c) f_height (fun j => nI (o j)) a_there a_above a_tags a_values a_held a_twin a_kinds a_args a_sizes a_isPath a_rows a_spare a_isSet a_alive a_edited a_watchNode a_before := by
      refine yy_onAxis T A hi (by omega) ?_
      by_cases z : dp_ax (fun r => lv (o r)) c a i j = true
      · rw [z]
        rw [dp_fr_t z] at this
        refine br_f (by decide) ⟨dp_v32 (by omega), ?_⟩
        rw [dp_cl32 (show j < 32 by omega)]
        exact nm_e (nm_r (nI_1 j) this)
      · rw [Bool.eq_false_iff.mpr z]
        rw [dp_fr_f z] at this
        exact br_t rfl (nm_r (nI_1 j) this)
    refine br_f (nI_ge (by omega) (by omega)) ⟨dp_v32 (by omega), ?_⟩
    rw [dp_cl32 (show j < 32 by omega)]
    by_cases z : i < j
    · rw [dp_c_t (decide_eq_true z)] at go
      exact br_f (nI_ge z (by omega)) go
    · rw [dp_c_f (decide_eq_false z)] at go
      exact br_t (nI_le (by omega) (by omega)) go
theorem yy_axisRow (T : dp_Tc c o lv) (A : dp_Ab c o (fun r => lv (o r)) a_above) {i : Nat} (hi : i < c) {post : Int32 → Prop} (h : post (dp_fr o (dp_ax (fun r => lv (o r)) c a i) c)) : wpY_axisRow post ((nI c), f_height, (fun j => nI (o j)), a_there, a_above, a_tags, a_values, a_held, a_twin, a_kinds, a_args, a_sizes, a_isPath, a_rows, a_spare, a_isSet, a_alive, a_edited, a_watchNode, a_before) a (nI (o i)) := yy_place T hi ⟨c + 1, yy_axisRow_l T A hi h c 0 (Nat.zero_add c)⟩
theorem yy_mkc_l (he : e < 8) {s : Int32} {post : SY → Prop} (h : ∀ R', dp_ag R R' e → (∀ x, x < 32 → R' (32 * e + x) = dp_c0 s x) → post (f_count, f_height, a_list, a_there, a_above, a_tags, a_values, a_held, a_twin, a_kinds, a_args, a_sizes, (upd a_isPath e 0), R', a_spare, a_isSet, a_alive, a_edited, a_watchNode, a_before)) : ∀ d x R', x + d = 32 → dp_In R e (dp_mx x (dp_c0 s) p) R' → wY_makeCondition_2 post (nI e) s f_count f_height (d + 1) (nI x) a_list a_there a_above a_tags a_values a_held a_twin a_kinds a_args a_sizes a_isPath R' a_spare a_isSet a_alive a_edited a_watchNode a_before := by
  intro d
  induction d with
  | zero =>
    intro x R' hx H
    obtain rfl : x = 32 := by omega
    refine br_t dp_le32 ⟨dp_v8 he, ?_⟩
    rw [nI_clamp (show e < 2 ^ 31 by omega)]
    exact nm_r (by rfl) (h R' (dp_In_32 H).1 (dp_In_32 H).2)
  | succ d ih =>
    intro x R' hx H
    refine br_f (dp_ge32 (by omega)) ?_
    simp only [dp_32m, nI_add, dp_cl256 (show 32 * e + x < 256 by omega)]
    refine br_c (fun z => ⟨dp_v256 (by omega), nm_e (nm_r (nI_1 x) (ih (x + 1) _ (by omega) (dp_In_s H (by omega) ?_)))⟩) (fun z => ⟨dp_v256 (by omega), nm_e (nm_r (nI_1 x) (ih (x + 1) _ (by omega) (dp_In_s H (by omega) ?_)))⟩)
    · have : x = 0 := dp_inj (by omega) (by omega) z
      rw [this, dp_c0_0]
    · rw [dp_c0_n]
      rcases Nat.eq_zero_or_pos x with y | y
      · exact absurd (by rw [y]; rfl) z
      · exact y
theorem yy_makeCondition (he : e < 8) {s : Int32} {post : SY → Prop} (h : ∀ R', dp_ag R R' e → (∀ x, x < 32 → R' (32 * e + x) = dp_c0 s x) → post (f_count, f_height, a_list, a_there, a_above, a_tags, a_values, a_held, a_twin, a_kinds, a_args, a_sizes, (upd a_isPath e 0), R', a_spare, a_isSet, a_alive, a_edited, a_watchNode, a_before)) : wpY_makeCondition post (f_count, f_height, a_list, a_there, a_above, a_tags, a_values, a_held, a_twin, a_kinds, a_args, a_sizes, a_isPath, R, a_spare, a_isSet, a_alive, a_edited, a_watchNode, a_before) (nI e) s := ⟨33, yy_mkc_l (p := fun x => R (32 * e + x)) he h 32 0 R rfl (dp_In_0 (fun _ _ => rfl))⟩
end YO
