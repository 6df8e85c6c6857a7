/-! the component's work on entries: turning, repeating, the nth, conditions -/
section XQ
variable {f_size f_present f_height : Int32} {a_order a_levels a_tags a_values a_ranks a_ends a_parents a_run a_kinds a_numbers a_lengths a_entryIsPath a_rows a_members a_wasSet a_watchNode a_selects a_selectedBefore : Nat → Int32} {c e : Nat} {o lv : Nat → Nat} {pr a : Int32} {p q R : Nat → Int32}
/-! turn -/
theorem xx_turn_in (he : e < 8) {x : Nat} (hx : x < 32) {post : SX → Prop} {J : Int32 → (Nat → Int32) → (Nat → Int32) → (Nat → Int32) → (Nat → Int32) → (Nat → Int32) → (Nat → Int32) → (Nat → Int32) → (Nat → Int32) → (Nat → Int32) → (Nat → Int32) → (Nat → Int32) → (Nat → Int32) → (Nat → Int32) → (Nat → Int32) → (Nat → Int32) → (Nat → Int32) → (Nat → Int32) → (Nat → Int32) → Prop} (h : ∀ R', dp_ag R R' e → dp_Sw p (fun b => R' (32 * e + b)) x x → J (nI (x + 1)) a_order a_levels a_tags a_values a_ranks a_ends a_parents a_run a_kinds a_numbers a_lengths a_entryIsPath R' a_members a_wasSet a_watchNode a_selects a_selectedBefore) : ∀ d y R', y + d = x → dp_ag R R' e → dp_Sw p (fun b => R' (32 * e + b)) x y → wX_turnRows_10 post J (nI (32 * e)) (nI x) f_size f_present f_height (d + 1) (nI y) a_order a_levels a_tags a_values a_ranks a_ends a_parents a_run a_kinds a_numbers a_lengths a_entryIsPath R' a_members a_wasSet a_watchNode a_selects a_selectedBefore := by
  intro d
  induction d with
  | zero =>
    intro y R' hy ag H
    obtain rfl : y = x := by omega
    exact br_t (nI_le (Nat.le_refl _) (by omega)) (nm_r (nI_1 y) (h R' ag H))
  | succ d ih =>
    intro y R' hy ag H
    refine br_f (nI_ge (by omega) (by omega)) ?_
    simp only [nI_add, dp_cl256 (show 32 * e + x < 256 by omega), dp_cl256 (show 32 * e + y < 256 by omega), dp_xb _ (show y < 32 by omega), dp_xb _ hx]
    refine ⟨dp_v256 (by omega), nm_e ⟨dp_v256 (by omega), nm_e ?_⟩⟩
    by_cases z : bt (R' (32 * e + x)) y = bt (R' (32 * e + y)) x
    · exact br_t (by rw [z]) (nm_r (nI_1 y) (ih (y + 1) R' (by omega) ag (dp_Sw_eq H hx (by omega) z)))
    · have hne : ¬ dp_c (bt (R' (32 * e + x)) y) = dp_c (bt (R' (32 * e + y)) x) := fun w => z (by
        cases h1 : bt (R' (32 * e + x)) y <;> cases h2 : bt (R' (32 * e + y)) x <;> rw [h1, h2] at w <;> first | rfl | exact absurd w (by decide))
      have k1 : 32 * e + y ≠ 32 * e + x := by omega
      refine br_f hne ⟨dp_v256 (by omega), dp_v256 (by omega), nm_e ⟨dp_v256 (by omega), dp_v256 (by omega), nm_e (nm_r (nI_1 y) (ih (y + 1) _ (by omega) (dp_ag_upd (dp_ag_upd ag hx) (by omega)) (dp_Sw_ne H hx (by omega) z ?_ ?_ ?_)))⟩⟩
      · show upd (upd R' (32 * e + x) _) (32 * e + y) _ (32 * e + x) = _
        rw [pk_un (by omega), pk_us]; rfl
      · show upd (upd R' (32 * e + x) _) (32 * e + y) _ (32 * e + y) = _
        rw [pk_us, pk_un k1]; rfl
      · intro b hb h1 h2
        show upd (upd R' (32 * e + x) _) (32 * e + y) _ (32 * e + b) = _
        rw [pk_un (by omega), pk_un (by omega)]
theorem xx_turn_l (he : e < 8) {post : SX → Prop} (h : ∀ R', dp_ag R R' e → dp_Sw p (fun b => R' (32 * e + b)) 32 0 → post (f_size, f_present, f_height, a_order, a_levels, a_tags, a_values, a_ranks, a_ends, a_parents, a_run, a_kinds, a_numbers, a_lengths, a_entryIsPath, R', a_members, a_wasSet, a_watchNode, a_selects, a_selectedBefore)) : ∀ d x R', x + d = 32 → dp_ag R R' e → dp_Sw p (fun b => R' (32 * e + b)) x 0 → wX_turnRows_2 post (nI (32 * e)) f_size f_present f_height (d + 1) (nI x) a_order a_levels a_tags a_values a_ranks a_ends a_parents a_run a_kinds a_numbers a_lengths a_entryIsPath R' a_members a_wasSet a_watchNode a_selects a_selectedBefore := by
  intro d
  induction d with
  | zero =>
    intro x R' hx ag H
    obtain rfl : x = 32 := by omega
    exact br_t dp_le32 (h R' ag H)
  | succ d ih =>
    intro x R' hx ag H
    refine br_f (dp_ge32 (by omega)) ⟨x + 1, ?_⟩
    exact xx_turn_in he (by omega) (fun R2 ag2 H2 => ih (x + 1) R2 (by omega) ag2 (dp_Sw_row H2)) x 0 R' (Nat.zero_add x) ag H
theorem xx_turnRows (he : e < 8) (hp : ∀ x, x < 32 → R (32 * e + x) = p x) {post : SX → Prop} (h : ∀ R', dp_ag R R' e → (∀ x, x < 32 → R' (32 * e + x) = dp_mk (fun y => bt (p y) x) 32) → post (f_size, f_present, f_height, a_order, a_levels, a_tags, a_values, a_ranks, a_ends, a_parents, a_run, a_kinds, a_numbers, a_lengths, a_entryIsPath, R', a_members, a_wasSet, a_watchNode, a_selects, a_selectedBefore)) : wpX_turnRows post (f_size, f_present, f_height, a_order, a_levels, a_tags, a_values, a_ranks, a_ends, a_parents, a_run, a_kinds, a_numbers, a_lengths, a_entryIsPath, R, a_members, a_wasSet, a_watchNode, a_selects, a_selectedBefore) (nI (32 * e)) := by
  refine ⟨33, xx_turn_l (p := fun b => R (32 * e + b)) he (fun R' ag H => h R' ag (fun x hx => ?_)) 32 0 R rfl (fun _ _ => rfl) (dp_Sw_0 _)⟩
  rw [dp_Sw_end H hx]
  exact dp_mk_congr fun y hy => by rw [hp y hy]
/-! repeat -/
theorem xx_rep_in (he : e < 8) {z : Nat} (hz : z < 32) {post : SX → Prop} {J : Int32 → (Nat → Int32) → (Nat → Int32) → (Nat → Int32) → (Nat → Int32) → (Nat → Int32) → (Nat → Int32) → (Nat → Int32) → (Nat → Int32) → (Nat → Int32) → (Nat → Int32) → (Nat → Int32) → (Nat → Int32) → (Nat → Int32) → (Nat → Int32) → (Nat → Int32) → (Nat → Int32) → (Nat → Int32) → (Nat → Int32) → Prop} (h : ∀ R', dp_In R e (dp_wr p (z + 1)) R' → J (nI (z + 1)) a_order a_levels a_tags a_values a_ranks a_ends a_parents a_run a_kinds a_numbers a_lengths a_entryIsPath R' a_members a_wasSet a_watchNode a_selects a_selectedBefore) : ∀ d x R', x + d = 32 → dp_In R e (dp_mx x (dp_wr p (z + 1)) (dp_wr p z)) R' → wX_repeatRows_10 post J (nI (32 * e)) (nI z) f_size f_present f_height (d + 1) (nI x) a_order a_levels a_tags a_values a_ranks a_ends a_parents a_run a_kinds a_numbers a_lengths a_entryIsPath R' a_members a_wasSet a_watchNode a_selects a_selectedBefore := by
  intro d
  induction d with
  | zero =>
    intro x R' hx H
    obtain rfl : x = 32 := by omega
    exact br_t dp_le32 (nm_r (nI_1 z) (h R' (dp_In_32 H)))
  | succ d ih =>
    intro x R' hx H
    have e1 : R' (32 * e + x) = dp_wr p z x := by rw [H.2 x (by omega), dp_mx_hi (Nat.le_refl _)]
    have e2 : R' (32 * e + z) = dp_wr p z z := by
      rw [H.2 z hz]
      rcases Nat.lt_or_ge z x with w | w
      · rw [dp_mx_lo w, dp_wr_row]
      · rw [dp_mx_hi w]
    refine br_f (dp_ge32 (by omega)) ?_
    simp only [nI_add, dp_cl256 (show 32 * e + x < 256 by omega), dp_cl256 (show 32 * e + z < 256 by omega), e1, e2, dp_xb _ hz]
    refine ⟨dp_v256 (by omega), ?_⟩
    by_cases w : bt (dp_wr p z x) z = true
    · rw [dp_c_t w]
      exact br_t rfl ⟨dp_v256 (by omega), dp_v256 (by omega), dp_v256 (by omega), nm_e (nm_r (nI_1 x) (ih (x + 1) _ (by omega) (dp_In_s H (by omega) (dp_wr_t w).symm)))⟩
    · rw [dp_c_f (Bool.eq_false_iff.mpr w)]
      exact br_f (by decide) (nm_r (nI_1 x) (ih (x + 1) _ (by omega) (dp_In_k H (dp_wr_f w).symm)))
theorem xx_rep_end (he : e < 8) {post : SX → Prop} (h : ∀ R', dp_ag R R' e → (∀ x, x < 32 → R' (32 * e + x) = dp_wr p 32 x ||| (pr &&& dp_bo x)) → post (f_size, pr, f_height, a_order, a_levels, a_tags, a_values, a_ranks, a_ends, a_parents, a_run, a_kinds, a_numbers, a_lengths, a_entryIsPath, R', a_members, a_wasSet, a_watchNode, a_selects, a_selectedBefore)) : ∀ d x R', x + d = 32 → dp_In R e (dp_mx x (fun x => dp_wr p 32 x ||| (pr &&& dp_bo x)) (dp_wr p 32)) R' → wX_repeatRows_65 post (nI (32 * e)) f_size pr f_height (d + 1) (nI x) a_order a_levels a_tags a_values a_ranks a_ends a_parents a_run a_kinds a_numbers a_lengths a_entryIsPath R' a_members a_wasSet a_watchNode a_selects a_selectedBefore := by
  intro d
  induction d with
  | zero =>
    intro x R' hx H
    obtain rfl : x = 32 := by omega
    exact br_t dp_le32 (h R' (dp_In_32 H).1 (dp_In_32 H).2)
  | succ d ih =>
    intro x R' hx H
    have e1 : R' (32 * e + x) = dp_wr p 32 x := by rw [H.2 x (by omega), dp_mx_hi (Nat.le_refl _)]
    refine br_f (dp_ge32 (by omega)) ?_
    simp only [nI_add, dp_cl256 (show 32 * e + x < 256 by omega), e1]
    exact ⟨dp_v256 (by omega), dp_v256 (by omega), nm_e (nm_r (nI_1 x) (ih (x + 1) _ (by omega) (dp_In_s H (by omega) rfl)))⟩
theorem xx_rep_l (he : e < 8) {post : SX → Prop} (h : ∀ R', dp_ag R R' e → (∀ x, x < 32 → R' (32 * e + x) = dp_wr p 32 x ||| (pr &&& dp_bo x)) → post (f_size, pr, f_height, a_order, a_levels, a_tags, a_values, a_ranks, a_ends, a_parents, a_run, a_kinds, a_numbers, a_lengths, a_entryIsPath, R', a_members, a_wasSet, a_watchNode, a_selects, a_selectedBefore)) : ∀ d z R', z + d = 32 → dp_In R e (dp_wr p z) R' → wX_repeatRows_2 post (nI (32 * e)) f_size pr f_height (d + 1) (nI z) a_order a_levels a_tags a_values a_ranks a_ends a_parents a_run a_kinds a_numbers a_lengths a_entryIsPath R' a_members a_wasSet a_watchNode a_selects a_selectedBefore := by
  intro d
  induction d with
  | zero =>
    intro z R' hz H
    obtain rfl : z = 32 := by omega
    refine br_t dp_le32 ⟨33, xx_rep_end (R := R') he (fun R2 ag H2 => h R2 (dp_ag_trans H.1 ag) H2) 32 0 R' rfl (dp_In_0 H.2)⟩
  | succ d ih =>
    intro z R' hz H
    refine br_f (dp_ge32 (by omega)) ⟨33, xx_rep_in (R := R') he (by omega) (fun R2 H2 => ih (z + 1) R2 (by omega) ⟨dp_ag_trans H.1 H2.1, H2.2⟩) 32 0 R' rfl (dp_In_0 H.2)⟩
theorem xx_repeatRows (he : e < 8) (hp : ∀ x, x < 32 → R (32 * e + x) = p x) {post : SX → Prop} (h : ∀ R', dp_ag R R' e → (∀ x, x < 32 → R' (32 * e + x) = dp_wr p 32 x ||| (pr &&& dp_bo x)) → post (f_size, pr, f_height, a_order, a_levels, a_tags, a_values, a_ranks, a_ends, a_parents, a_run, a_kinds, a_numbers, a_lengths, a_entryIsPath, R', a_members, a_wasSet, a_watchNode, a_selects, a_selectedBefore)) : wpX_repeatRows post (f_size, pr, f_height, a_order, a_levels, a_tags, a_values, a_ranks, a_ends, a_parents, a_run, a_kinds, a_numbers, a_lengths, a_entryIsPath, R, a_members, a_wasSet, a_watchNode, a_selects, a_selectedBefore) (nI (32 * e)) := ⟨33, xx_rep_l he h 32 0 R rfl ⟨fun _ _ => rfl, hp⟩⟩
/-! the nth -/
theorem xx_nth_32 (ho : ∀ r, o r < 32) (hc : c ≤ 32) (he : e < 8) {x : Nat} (hx : x < 32) {w k : Int32} (hw : R (32 * e + x) = w) {post : SX → Prop} {J : Int32 → (Nat → Int32) → (Nat → Int32) → (Nat → Int32) → (Nat → Int32) → (Nat → Int32) → (Nat → Int32) → (Nat → Int32) → (Nat → Int32) → (Nat → Int32) → (Nat → Int32) → (Nat → Int32) → (Nat → Int32) → (Nat → Int32) → (Nat → Int32) → (Nat → Int32) → (Nat → Int32) → (Nat → Int32) → (Nat → Int32) → Prop} (h : J (nI (x + 1)) (fun j => nI (o j)) (fun j => nI (lv j)) a_tags a_values a_ranks a_ends a_parents a_run a_kinds a_numbers a_lengths a_entryIsPath (upd R (32 * e + x) (dp_ob o (dp_fk (fun i => bt w (o i)) k c))) a_members a_wasSet a_watchNode a_selects a_selectedBefore) : wX_keepNth_32 post J a (nI (32 * e)) (nI x) k (nI c) f_present f_height (fun j => nI (o j)) (fun j => nI (lv j)) a_tags a_values a_ranks a_ends a_parents a_run a_kinds a_numbers a_lengths a_entryIsPath R a_members a_wasSet a_watchNode a_selects a_selectedBefore := by
  unfold wX_keepNth_32
  simp only [nI_add, dp_cl256 (show 32 * e + x < 256 by omega), hw]
  refine ⟨dp_v256 (by omega), xx_pick ho hc ?_⟩
  cases z : dp_fk (fun i => bt w (o i)) k c with
  | none =>
    rw [z] at h
    exact br_t rfl ⟨dp_v256 (by omega), nm_e (nm_r (nI_1 x) h)⟩
  | some i =>
    rw [z] at h
    have oi := ho i
    exact br_f (dp_nle1 (by omega)) ⟨dp_v256 (by omega), nm_e (nm_r (nI_1 x) h)⟩
theorem xx_nth_l (ho : ∀ r, o r < 32) (hc : c ≤ 32) (he : e < 8) {post : SX → Prop} (h : ∀ R', dp_ag R R' e → (∀ x, x < 32 → R' (32 * e + x) = dp_nt c o a (p x)) → post ((nI c), f_present, f_height, (fun j => nI (o j)), (fun j => nI (lv j)), a_tags, a_values, a_ranks, a_ends, a_parents, a_run, a_kinds, a_numbers, a_lengths, a_entryIsPath, R', a_members, a_wasSet, a_watchNode, a_selects, a_selectedBefore)) : ∀ d x R', x + d = 32 → dp_In R e (dp_mx x (fun x => dp_nt c o a (p x)) p) R' → wX_keepNth_2 post a (nI (32 * e)) (nI c) f_present f_height (d + 1) (nI x) (fun j => nI (o j)) (fun j => nI (lv j)) a_tags a_values a_ranks a_ends a_parents a_run a_kinds a_numbers a_lengths a_entryIsPath R' a_members a_wasSet a_watchNode a_selects a_selectedBefore := by
  intro d
  induction d with
  | zero =>
    intro x R' hx H
    obtain rfl : x = 32 := by omega
    exact br_t dp_le32 (h R' (dp_In_32 H).1 (dp_In_32 H).2)
  | succ d ih =>
    intro x R' hx H
    have e1 : R' (32 * e + x) = p x := by rw [H.2 x (by omega), dp_mx_hi (Nat.le_refl _)]
    have go : ∀ k, k = dp_nk a (p x) → wX_keepNth_2 post a (nI (32 * e)) (nI c) f_present f_height (d + 1) (nI (x + 1)) (fun j => nI (o j)) (fun j => nI (lv j)) a_tags a_values a_ranks a_ends a_parents a_run a_kinds a_numbers a_lengths a_entryIsPath (upd R' (32 * e + x) (dp_ob o (dp_fk (fun i => bt (p x) (o i)) k c))) a_members a_wasSet a_watchNode a_selects a_selectedBefore := fun k hk => ih (x + 1) _ (by omega) (dp_In_s H (by omega) (by rw [hk]; rfl))
    refine br_f (dp_ge32 (by omega)) (nm_e (br_c (fun z => ?_) (fun z => ?_)))
    · exact xx_nth_32 ho hc he (by omega) e1 (go _ (by unfold dp_nk; rw [if_neg (Int32.not_lt.mpr z)]))
    · rw [nI_add]
      refine ⟨dp_v256 (by omega), ?_⟩
      rw [dp_cl256 (by omega), e1]
      refine xx_countBits (nm_e (xx_nth_32 ho hc he (by omega) e1 (go _ ?_)))
      unfold dp_nk
      rw [if_pos (Int32.not_le.mp z)]
theorem xx_keepNth (ho : ∀ r, o r < 32) (hc : c ≤ 32) (he : e < 8) (hp : ∀ x, x < 32 → R (32 * e + x) = p x) {post : SX → Prop} (h : ∀ R', dp_ag R R' e → (∀ x, x < 32 → R' (32 * e + x) = dp_nt c o a (p x)) → post ((nI c), f_present, f_height, (fun j => nI (o j)), (fun j => nI (lv j)), a_tags, a_values, a_ranks, a_ends, a_parents, a_run, a_kinds, a_numbers, a_lengths, a_entryIsPath, R', a_members, a_wasSet, a_watchNode, a_selects, a_selectedBefore)) : wpX_keepNth post ((nI c), f_present, f_height, (fun j => nI (o j)), (fun j => nI (lv j)), a_tags, a_values, a_ranks, a_ends, a_parents, a_run, a_kinds, a_numbers, a_lengths, a_entryIsPath, R, a_members, a_wasSet, a_watchNode, a_selects, a_selectedBefore) a (nI (32 * e)) := ⟨33, xx_nth_l ho hc he h 32 0 R rfl (dp_In_0 hp)⟩
/-! conditions -/
theorem xx_from_values_l (ho : ∀ r, o r < 32) (hc : c ≤ 32) {s m : Int32} {post : Int32 → Prop} (h : post (dp_al c o a_values s m)) : ∀ d i, i + d = c → wX_nodesFromTo__values_6 post s m (nI c) f_present f_height (fun j => nI (o j)) (fun j => nI (lv j)) a_tags a_values a_ranks a_ends a_parents a_run a_kinds a_numbers a_lengths a_entryIsPath a_rows a_members a_wasSet a_watchNode a_selects a_selectedBefore (d + 1) (dp_fr o (fun r => decide (s ≤ a_values (o r) ∧ a_values (o r) ≤ m)) i) (nI i) := by
  intro d
  induction d with
  | zero =>
    intro i hi
    obtain rfl : i = c := by omega
    exact br_t (nI_le (Nat.le_refl _) (by omega)) h
  | succ d ih =>
    intro i hi
    have := ih (i + 1) (by omega)
    refine br_f (nI_ge (by omega) (by omega)) ⟨dp_v32 (by omega), ?_⟩
    simp only [dp_cl32 (show i < 32 by omega), dp_cl32 (ho i)]
    refine ⟨dp_v32 (ho i), nm_e (br_c (fun z => ?_) (fun z => br_c (fun y => ?_) (fun y => ⟨dp_v32 (by omega), ?_⟩)))⟩
    · rw [dp_fr_f (fun w => absurd (of_decide_eq_true w).1 (Int32.not_le.mpr z))] at this
      exact nm_r (nI_1 i) this
    · rw [dp_fr_f (fun w => absurd (of_decide_eq_true w).2 (Int32.not_le.mpr y))] at this
      exact nm_r (nI_1 i) this
    · rw [dp_fr_t (decide_eq_true ⟨Int32.not_lt.mp z, Int32.not_lt.mp y⟩)] at this
      exact nm_e (nm_r (nI_1 i) this)
theorem xx_from_values (ho : ∀ r, o r < 32) (hc : c ≤ 32) {s m : Int32} {post : Int32 → Prop} (h : post (dp_al c o a_values s m)) : wpX_nodesFromTo__values post ((nI c), f_present, f_height, (fun j => nI (o j)), (fun j => nI (lv j)), a_tags, a_values, a_ranks, a_ends, a_parents, a_run, a_kinds, a_numbers, a_lengths, a_entryIsPath, a_rows, a_members, a_wasSet, a_watchNode, a_selects, a_selectedBefore) s m := ⟨_, xx_from_values_l ho hc h c 0 (Nat.zero_add c)⟩
theorem xx_from_tags_l (ho : ∀ r, o r < 32) (hc : c ≤ 32) {s m : Int32} {post : Int32 → Prop} (h : post (dp_al c o a_tags s m)) : ∀ d i, i + d = c → wX_nodesFromTo__tags_6 post s m (nI c) f_present f_height (fun j => nI (o j)) (fun j => nI (lv j)) a_tags a_values a_ranks a_ends a_parents a_run a_kinds a_numbers a_lengths a_entryIsPath a_rows a_members a_wasSet a_watchNode a_selects a_selectedBefore (d + 1) (dp_fr o (fun r => decide (s ≤ a_tags (o r) ∧ a_tags (o r) ≤ m)) i) (nI i) := by
  intro d
  induction d with
  | zero =>
    intro i hi
    obtain rfl : i = c := by omega
    exact br_t (nI_le (Nat.le_refl _) (by omega)) h
  | succ d ih =>
    intro i hi
    have := ih (i + 1) (by omega)
    refine br_f (nI_ge (by omega) (by omega)) ⟨dp_v32 (by omega), ?_⟩
    simp only [dp_cl32 (show i < 32 by omega), dp_cl32 (ho i)]
    refine ⟨dp_v32 (ho i), nm_e (br_c (fun z => ?_) (fun z => br_c (fun y => ?_) (fun y => ⟨dp_v32 (by omega), ?_⟩)))⟩
    · rw [dp_fr_f (fun w => absurd (of_decide_eq_true w).1 (Int32.not_le.mpr z))] at this
      exact nm_r (nI_1 i) this
    · rw [dp_fr_f (fun w => absurd (of_decide_eq_true w).2 (Int32.not_le.mpr y))] at this
      exact nm_r (nI_1 i) this
    · rw [dp_fr_t (decide_eq_true ⟨Int32.not_lt.mp z, Int32.not_lt.mp y⟩)] at this
      exact nm_e (nm_r (nI_1 i) this)
theorem xx_from_tags (ho : ∀ r, o r < 32) (hc : c ≤ 32) {s m : Int32} {post : Int32 → Prop} (h : post (dp_al c o a_tags s m)) : wpX_nodesFromTo__tags post ((nI c), f_present, f_height, (fun j => nI (o j)), (fun j => nI (lv j)), a_tags, a_values, a_ranks, a_ends, a_parents, a_run, a_kinds, a_numbers, a_lengths, a_entryIsPath, a_rows, a_members, a_wasSet, a_watchNode, a_selects, a_selectedBefore) s m := ⟨_, xx_from_tags_l ho hc h c 0 (Nat.zero_add c)⟩
theorem xx_many_l (he : e < 8) {post : Int32 → Prop} (hp : ∀ x, x < 32 → a_rows (32 * e + x) = p x) (h : post (dp_mk (fun x => decide (a ≤ nI (dp_fc (bt (p x)) 32))) 32)) : ∀ d x, x + d = 32 → wX_nodesWithMany_5 post a (nI (32 * e)) f_size f_present f_height a_order a_levels a_tags a_values a_ranks a_ends a_parents a_run a_kinds a_numbers a_lengths a_entryIsPath a_rows a_members a_wasSet a_watchNode a_selects a_selectedBefore (d + 1) (dp_mk (fun x => decide (a ≤ nI (dp_fc (bt (p x)) 32))) x) (nI x) := by
  intro d
  induction d with
  | zero =>
    intro x hx
    obtain rfl : x = 32 := by omega
    exact br_t dp_le32 h
  | succ d ih =>
    intro x hx
    have := ih (x + 1) (by omega)
    refine br_f (dp_ge32 (by omega)) ?_
    simp only [nI_add, dp_cl256 (show 32 * e + x < 256 by omega), hp x (by omega)]
    refine ⟨dp_v256 (by omega), xx_countBits (br_c (fun z => ?_) (fun z => ?_))⟩
    · rw [dp_mk_f (fun w => absurd (of_decide_eq_true w) (Int32.not_le.mpr z))] at this
      exact nm_r (nI_1 x) this
    · rw [dp_mk_t (decide_eq_true (Int32.not_lt.mp z))] at this
      exact nm_e (nm_r (nI_1 x) this)
theorem xx_many (he : e < 8) {post : Int32 → Prop} (hp : ∀ x, x < 32 → a_rows (32 * e + x) = p x) (h : post (dp_mk (fun x => decide (a ≤ nI (dp_fc (bt (p x)) 32))) 32)) : wpX_nodesWithMany post (f_size, f_present, f_height, a_order, a_levels, a_tags, a_values, a_ranks, a_ends, a_parents, a_run, a_kinds, a_numbers, a_lengths, a_entryIsPath, a_rows, a_members, a_wasSet, a_watchNode, a_selects, a_selectedBefore) a (nI (32 * e)) := ⟨33, xx_many_l he hp h 32 0 rfl⟩
/-- the set while nodes r and numbers x are gone through -/
def dp_Ms (c : Nat) (o : Nat → Nat) (vs : Nat → Int32) (p q : Nat → Int32) (r x : Nat) (s : Int32) : Prop := ∀ i, i < 32 → bt s i = (dp_any (fun r => dp_ma c o vs p q r i) r || (decide (i < x) && dp_ma c o vs p q r i))
theorem dp_Ms_row {vs : Nat → Int32} {r : Nat} {s : Int32} (h : dp_Ms c o vs p q r 32 s) : dp_Ms c o vs p q (r + 1) 0 s := fun i hi => by
  rw [h i hi, decide_eq_true hi, decide_eq_false (Nat.not_lt_zero i), Bool.true_and, Bool.false_and, Bool.or_false]
  rfl
theorem dp_Ms_t {vs : Nat → Int32} {r x : Nat} {s : Int32} (hx : x < 32) (h : dp_Ms c o vs p q r x s) (z : dp_ma c o vs p q r x = true) : dp_Ms c o vs p q r (x + 1) (s ||| dp_bo x) := fun i hi => by
  rw [dp_bt_or _ hx, h i hi]
  by_cases y : i = x
  · subst y
    rw [z, decide_eq_true rfl, decide_eq_true (show i < i + 1 by omega), Bool.or_true, Bool.true_and, Bool.or_true]
  · rw [decide_eq_false y, Bool.or_false]
    rcases Nat.lt_or_ge i x with w | w
    · rw [decide_eq_true w, decide_eq_true (show i < x + 1 by omega)]
    · rw [decide_eq_false (show ¬ i < x by omega), decide_eq_false (show ¬ i < x + 1 by omega)]
theorem dp_Ms_f {vs : Nat → Int32} {r x : Nat} {s : Int32} (h : dp_Ms c o vs p q r x s) (z : dp_ma c o vs p q r x = false) : dp_Ms c o vs p q r (x + 1) s := fun i hi => by
  rw [h i hi]
  by_cases y : i = x
  · subst y
    rw [z, Bool.and_false, Bool.and_false]
  · rcases Nat.lt_or_ge i x with w | w
    · rw [decide_eq_true w, decide_eq_true (show i < x + 1 by omega)]
    · rw [decide_eq_false (show ¬ i < x by omega), decide_eq_false (show ¬ i < x + 1 by omega)]
theorem xx_match_in (ho : ∀ r, o r < 32) (he : e < 7) {r : Nat} (hp : ∀ x, x < 32 → a_rows (32 * e + x) = p x) (hq : ∀ x, x < 32 → a_rows (32 * e + 32 + x) = q x) {post : Int32 → Prop} {J : Int32 → Int32 → Prop} (h : ∀ s, dp_Ms c o a_values p q r 32 s → J s (nI (r + 1))) : ∀ d x s, x + d = 32 → dp_Ms c o a_values p q r x s → wX_nodesThatMatch_47 post J (nI (32 * e)) (nI r) (nI (o r)) (dp_al c o a_values (a_values (o r)) (a_values (o r))) (nI c) f_present f_height (fun j => nI (o j)) (fun j => nI (lv j)) a_tags a_values a_ranks a_ends a_parents a_run a_kinds a_numbers a_lengths a_entryIsPath a_rows a_members a_wasSet a_watchNode a_selects a_selectedBefore (d + 1) s (nI x) := by
  intro d
  induction d with
  | zero =>
    intro x s hx H
    obtain rfl : x = 32 := by omega
    exact br_t dp_le32 (nm_r (nI_1 r) (h s H))
  | succ d ih =>
    intro x s hx H
    refine br_f (dp_ge32 (by omega)) ?_
    simp only [dp_p32, nI_add, dp_cl256 (show 32 * e + 32 + x < 256 by omega), hq x (by omega)]
    refine ⟨dp_v256 (by omega), br_c (fun z => ?_) (fun z => ?_)⟩
    · refine br_t rfl (nm_r (nI_1 x) (ih (x + 1) s (by omega) (dp_Ms_f H ?_)))
      unfold dp_ma
      rw [decide_eq_false (fun w => w z), Bool.and_false]
    · refine br_f (by decide) ?_
      simp only [nI_add, dp_cl256 (show 32 * e + x < 256 by omega), hp x (by omega), dp_xb _ (ho r)]
      refine ⟨dp_v256 (by omega), ?_⟩
      by_cases y : bt (p x) (o r) = true
      · rw [dp_c_t y]
        refine br_t rfl (nm_e (nm_r (nI_1 x) (ih (x + 1) _ (by omega) (dp_Ms_t (by omega) H ?_))))
        unfold dp_ma
        rw [y, decide_eq_true z, Bool.true_and]
      · rw [dp_c_f (Bool.eq_false_iff.mpr y)]
        refine br_f (by decide) (nm_r (nI_1 x) (ih (x + 1) s (by omega) (dp_Ms_f H ?_)))
        unfold dp_ma
        rw [Bool.eq_false_iff.mpr y, Bool.false_and]
theorem xx_match_l (ho : ∀ r, o r < 32) (hc : c ≤ 32) (he : e < 7) (hp : ∀ x, x < 32 → a_rows (32 * e + x) = p x) (hq : ∀ x, x < 32 → a_rows (32 * e + 32 + x) = q x) {post : Int32 → Prop} (h : ∀ s, dp_Ms c o a_values p q c 0 s → post s) : ∀ d r s, r + d = c → dp_Ms c o a_values p q r 0 s → wX_nodesThatMatch_4 post (nI (32 * e)) (nI c) f_present f_height (fun j => nI (o j)) (fun j => nI (lv j)) a_tags a_values a_ranks a_ends a_parents a_run a_kinds a_numbers a_lengths a_entryIsPath a_rows a_members a_wasSet a_watchNode a_selects a_selectedBefore (d + 1) s (nI r) := by
  intro d
  induction d with
  | zero =>
    intro r s hr H
    obtain rfl : r = c := by omega
    exact br_t (nI_le (Nat.le_refl _) (by omega)) (h s H)
  | succ d ih =>
    intro r s hr H
    refine br_f (nI_ge (by omega) (by omega)) ⟨dp_v32 (by omega), ?_⟩
    rw [dp_cl32 (show r < 32 by omega)]
    refine nm_e ⟨dp_v32 (ho r), dp_v32 (ho r), ?_⟩
    rw [dp_cl32 (ho r)]
    exact xx_from_values ho hc ⟨33, xx_match_in ho he hp hq (fun s2 H2 => ih (r + 1) s2 (by omega) (dp_Ms_row H2)) 32 0 s rfl H⟩
theorem xx_match (T : dp_Tr c o lv pr) (he : e < 7) (hp : ∀ x, x < 32 → a_rows (32 * e + x) = p x) (hq : ∀ x, x < 32 → a_rows (32 * e + 32 + x) = q x) (h1 : dp_PP pr p) (h2 : dp_PP pr q) {post : Int32 → Prop} (h : post (dp_mk (fun x => dp_mt a_values (p x) (q x)) 32)) : wpX_nodesThatMatch post ((nI c), f_present, f_height, (fun j => nI (o j)), (fun j => nI (lv j)), a_tags, a_values, a_ranks, a_ends, a_parents, a_run, a_kinds, a_numbers, a_lengths, a_entryIsPath, a_rows, a_members, a_wasSet, a_watchNode, a_selects, a_selectedBefore) (nI (32 * e)) := by
  refine ⟨c + 1, xx_match_l T.1.2.2.1 T.1.1 he hp hq (fun s H => ?_) c 0 0 (Nat.zero_add c) (fun i hi => ?_)⟩
  · have : s = dp_mk (fun x => dp_mt a_values (p x) (q x)) 32 := b_ext fun i hi => by
      rw [H i hi, dp_mk_32 _ hi, decide_eq_false (Nat.not_lt_zero i), Bool.false_and, Bool.or_false]
      exact dp_ma_mt T.1.2.2.1 T.2.1 h1 h2 hi
    rw [this]; exact h
  · rw [b_0, decide_eq_false (Nat.not_lt_zero i), Bool.false_and]; rfl
end XQ
