/-! the reference's work on entries: the three kinds of tokens -/
theorem dp_s1 {h : Nat} (hh : 1 ≤ h) : nI h - 1 = nI (h - 1) := by
  obtain ⟨k, rfl⟩ : ∃ k, h = k + 1 := ⟨h - 1, by omega⟩
  rw [nI_pred, Nat.add_sub_cancel]
theorem dp_s2 {h : Nat} (hh : 2 ≤ h) : nI h - 2 = nI (h - 2) := pk_sub (b := 2) hh
section YR
variable {f_count f_height : Int32} {a_list a_there a_above a_tags a_values a_held a_twin a_kinds a_args a_sizes a_isPath a_rows a_spare a_isSet a_alive a_edited a_watchNode a_before : Nat → Int32} {c e : Nat} {o lv : Nat → Nat} {pr a : Int32} {p q R : Nat → Int32}
/-! bare: axis -/
theorem yy_bare0_l {tl : Nat → Int32} (T : dp_Tr c o lv pr) (A : dp_Ab c o (fun r => lv (o r)) a_above) (he : e < 8) {post : SY → Prop} (h : ∀ R', dp_ag R R' e → (∀ x, x < 32 → R' (32 * e + x) = dp_op c o (fun r => lv (o r)) pr a_tags a_values 0 a p q x) → post ((nI c), (nI (e + 1)), (fun j => nI (o j)), (dp_th pr), a_above, a_tags, a_values, a_held, a_twin, a_kinds, a_args, a_sizes, (upd a_isPath e 1), R', a_spare, a_isSet, a_alive, a_edited, a_watchNode, a_before)) : ∀ d x s R', x + d = 32 → dp_In R e (dp_mx x (dp_op c o (fun r => lv (o r)) pr a_tags a_values 0 a p q) tl) R' → wY_bare_11 post 0 a (nI e) (nI c) (nI e) (d + 1) s (nI x) (fun j => nI (o j)) (dp_th pr) a_above a_tags a_values a_held a_twin a_kinds a_args a_sizes a_isPath R' a_spare a_isSet a_alive a_edited a_watchNode a_before := by
  intro d
  induction d with
  | zero =>
    intro x s R' hx H
    obtain rfl : x = 32 := by omega
    refine br_t dp_le32 (br_t rfl ⟨dp_v8 he, ?_⟩)
    rw [nI_clamp (show e < 2 ^ 31 by omega)]
    exact nm_r (by rfl) (nm_r (nI_1 e) (h R' (dp_In_32 H).1 (dp_In_32 H).2))
  | succ d ih =>
    intro x s R' hx H
    refine br_f (dp_ge32 (by omega)) ?_
    simp only [dp_32m, nI_add, dp_cl256 (show 32 * e + x < 256 by omega)]
    refine ⟨dp_v256 (by omega), nm_e ⟨dp_v32 (by omega), ?_⟩⟩
    rw [dp_cl32 (show x < 32 by omega)]
    by_cases z : bt pr x = true
    · obtain ⟨r, hr, rfl⟩ := (T.2.1 x).mp z
      have th : dp_th pr (o r) = 1 := dp_c_t z
      rw [th]
      refine br_f (by decide) (br_t (by trivial) (yy_axisRow T.1 A hr ⟨dp_v256 (by omega), nm_e ⟨dp_v32 (by omega), ?_⟩⟩))
      rw [dp_cl32 (show o r < 32 by omega), th, dp_upd2]
      refine br_f (by decide) (br_t rfl (nm_r (nI_1 _) (ih (o r + 1) s _ (by omega) (dp_In_s H (by omega) ?_))))
      show _ = if bt pr (o r) = true then dp_fr o (dp_ax (fun r => lv (o r)) c a (dp_rk o (o r) c)) c else 0
      rw [if_pos z, dp_rk_o T.1 hr]
    · have th : dp_th pr x = 0 := dp_c_f (Bool.eq_false_iff.mpr z)
      rw [th]
      refine br_t rfl ⟨dp_v32 (by omega), ?_⟩
      rw [dp_cl32 (show x < 32 by omega), th]
      refine br_t rfl (nm_r (nI_1 x) (ih (x + 1) s _ (by omega) (dp_In_s H (by omega) ?_)))
      show _ = if bt pr x = true then _ else 0
      rw [if_neg z]
theorem yy_bare0 (T : dp_Tr c o lv pr) (A : dp_Ab c o (fun r => lv (o r)) a_above) (he : e < 8) {post : SY → Prop} (h : ∀ R', dp_ag R R' e → (∀ x, x < 32 → R' (32 * e + x) = dp_op c o (fun r => lv (o r)) pr a_tags a_values 0 a p q x) → post ((nI c), (nI (e + 1)), (fun j => nI (o j)), (dp_th pr), a_above, a_tags, a_values, a_held, a_twin, a_kinds, a_args, a_sizes, (upd a_isPath e 1), R', a_spare, a_isSet, a_alive, a_edited, a_watchNode, a_before)) : wpY_bare post ((nI c), (nI e), (fun j => nI (o j)), (dp_th pr), a_above, a_tags, a_values, a_held, a_twin, a_kinds, a_args, a_sizes, a_isPath, R, a_spare, a_isSet, a_alive, a_edited, a_watchNode, a_before) 0 a := by
  exact ⟨33, yy_bare0_l (p := p) (q := q) (tl := fun x => R (32 * e + x)) T A he h 32 0 0 R rfl (dp_In_0 (fun _ _ => rfl))⟩
/-! bare: tag and least -/
theorem yy_bare9_l (he : e < 8) {post : SY → Prop} (h : ∀ R', dp_ag R R' e → wY_bare_11 post 9 a (nI e) f_count (nI e) 1 (dp_mk (fun n => bt pr n && decide (a_tags n = a)) 32) (nI 32) a_list (dp_th pr) a_above a_tags a_values a_held a_twin a_kinds a_args a_sizes a_isPath R' a_spare a_isSet a_alive a_edited a_watchNode a_before) : ∀ d x R', x + d = 32 → dp_ag R R' e → wY_bare_11 post 9 a (nI e) f_count (nI e) (d + 1) (dp_mk (fun n => bt pr n && decide (a_tags n = a)) x) (nI x) a_list (dp_th pr) a_above a_tags a_values a_held a_twin a_kinds a_args a_sizes a_isPath R' a_spare a_isSet a_alive a_edited a_watchNode a_before := by
  intro d
  induction d with
  | zero =>
    intro x R' hx ag
    obtain rfl : x = 32 := by omega
    exact h R' ag
  | succ d ih =>
    intro x R' hx ag
    have ih' := fun R2 ag2 => ih (x + 1) R2 (by omega) ag2
    refine br_f (dp_ge32 (by omega)) ?_
    simp only [dp_32m, nI_add, dp_cl256 (show 32 * e + x < 256 by omega)]
    refine ⟨dp_v256 (by omega), nm_e ⟨dp_v32 (by omega), ?_⟩⟩
    rw [dp_cl32 (show x < 32 by omega)]
    have ag2 : dp_ag R (upd R' (32 * e + x) 0) e := dp_ag_upd ag (by omega)
    have go : wY_bare_68 post (wY_bare_11 post 9 a (nI e) f_count (nI e) (d + 1)) 9 a (nI e) (dp_mk (fun n => bt pr n && decide (a_tags n = a)) x) (nI x) f_count (nI e) a_list (dp_th pr) a_above a_tags a_values a_held a_twin a_kinds a_args a_sizes a_isPath (upd R' (32 * e + x) 0) a_spare a_isSet a_alive a_edited a_watchNode a_before := by
      refine ⟨dp_v32 (by omega), ?_⟩
      rw [dp_cl32 (show x < 32 by omega)]
      have g := ih' _ ag2
      by_cases z : bt pr x = true
      · have th : dp_th pr x = 1 := dp_c_t z
        rw [th]
        refine br_f (by decide) (br_f (by decide) ?_)
        refine br_t rfl ⟨dp_v32 (by omega), ?_⟩
        rw [dp_cl32 (show x < 32 by omega)]
        by_cases y : a_tags x = a
        · rw [dp_mk_t (by rw [z, decide_eq_true y, Bool.true_and])] at g
          exact br_t y (br_f (by decide) (nm_e (nm_r (nI_1 x) g)))
        · rw [dp_mk_f (by rw [decide_eq_false y, Bool.and_false]; decide)] at g
          exact br_f y (br_t rfl (nm_r (nI_1 x) g))
      · have th : dp_th pr x = 0 := dp_c_f (Bool.eq_false_iff.mpr z)
        rw [th]
        rw [dp_mk_f (by rw [Bool.eq_false_iff.mpr z, Bool.false_and]; decide)] at g
        exact br_t rfl (nm_r (nI_1 x) g)
    by_cases z : dp_th pr x = 0
    · exact br_t z go
    · exact br_f z (br_f (by decide) go)
theorem yy_bare10_l (he : e < 8) {post : SY → Prop} (h : ∀ R', dp_ag R R' e → wY_bare_11 post 10 a (nI e) f_count (nI e) 1 (dp_mk (fun n => bt pr n && decide (a ≤ a_values n)) 32) (nI 32) a_list (dp_th pr) a_above a_tags a_values a_held a_twin a_kinds a_args a_sizes a_isPath R' a_spare a_isSet a_alive a_edited a_watchNode a_before) : ∀ d x R', x + d = 32 → dp_ag R R' e → wY_bare_11 post 10 a (nI e) f_count (nI e) (d + 1) (dp_mk (fun n => bt pr n && decide (a ≤ a_values n)) x) (nI x) a_list (dp_th pr) a_above a_tags a_values a_held a_twin a_kinds a_args a_sizes a_isPath R' a_spare a_isSet a_alive a_edited a_watchNode a_before := by
  intro d
  induction d with
  | zero =>
    intro x R' hx ag
    obtain rfl : x = 32 := by omega
    exact h R' ag
  | succ d ih =>
    intro x R' hx ag
    have ih' := fun R2 ag2 => ih (x + 1) R2 (by omega) ag2
    refine br_f (dp_ge32 (by omega)) ?_
    simp only [dp_32m, nI_add, dp_cl256 (show 32 * e + x < 256 by omega)]
    refine ⟨dp_v256 (by omega), nm_e ⟨dp_v32 (by omega), ?_⟩⟩
    rw [dp_cl32 (show x < 32 by omega)]
    have ag2 : dp_ag R (upd R' (32 * e + x) 0) e := dp_ag_upd ag (by omega)
    have go : wY_bare_68 post (wY_bare_11 post 10 a (nI e) f_count (nI e) (d + 1)) 10 a (nI e) (dp_mk (fun n => bt pr n && decide (a ≤ a_values n)) x) (nI x) f_count (nI e) a_list (dp_th pr) a_above a_tags a_values a_held a_twin a_kinds a_args a_sizes a_isPath (upd R' (32 * e + x) 0) a_spare a_isSet a_alive a_edited a_watchNode a_before := by
      refine ⟨dp_v32 (by omega), ?_⟩
      rw [dp_cl32 (show x < 32 by omega)]
      have g := ih' _ ag2
      by_cases z : bt pr x = true
      · have th : dp_th pr x = 1 := dp_c_t z
        rw [th]
        refine br_f (by decide) (br_f (by decide) ?_)
        refine br_f (by decide) ⟨dp_v32 (by omega), ?_⟩
        rw [dp_cl32 (show x < 32 by omega)]
        by_cases y : a ≤ a_values x
        · rw [dp_mk_t (by rw [z, decide_eq_true y, Bool.true_and])] at g
          exact br_f (Int32.not_lt.mpr y) (br_f (by decide) (nm_e (nm_r (nI_1 x) g)))
        · rw [dp_mk_f (by rw [decide_eq_false y, Bool.and_false]; decide)] at g
          exact br_t (Int32.not_le.mp y) (br_t rfl (nm_r (nI_1 x) g))
      · have th : dp_th pr x = 0 := dp_c_f (Bool.eq_false_iff.mpr z)
        rw [th]
        rw [dp_mk_f (by rw [Bool.eq_false_iff.mpr z, Bool.false_and]; decide)] at g
        exact br_t rfl (nm_r (nI_1 x) g)
    by_cases z : dp_th pr x = 0
    · exact br_t z go
    · exact br_f z (br_f (by decide) go)
theorem yy_bare9 (T : dp_Tr c o lv pr) (he : e < 8) {post : SY → Prop} (h : ∀ R', dp_ag R R' e → (∀ x, x < 32 → R' (32 * e + x) = dp_op c o (fun r => lv (o r)) pr a_tags a_values 9 a p q x) → post ((nI c), (nI (e + 1)), (fun j => nI (o j)), (dp_th pr), a_above, a_tags, a_values, a_held, a_twin, a_kinds, a_args, a_sizes, (upd a_isPath e 0), R', a_spare, a_isSet, a_alive, a_edited, a_watchNode, a_before)) : wpY_bare post ((nI c), (nI e), (fun j => nI (o j)), (dp_th pr), a_above, a_tags, a_values, a_held, a_twin, a_kinds, a_args, a_sizes, a_isPath, R, a_spare, a_isSet, a_alive, a_edited, a_watchNode, a_before) 9 a := by
  refine ⟨33, yy_bare9_l he (fun R' ag => br_t dp_le32 (br_f (by decide) (yy_makeCondition he (fun R2 ag2 H2 => nm_r (nI_1 e) (h R2 (dp_ag_trans ag ag2) (fun x hx => ?_)))))) 32 0 R rfl (fun _ _ => rfl)⟩
  rw [H2 x hx]
  exact congrArg (fun s => dp_c0 s x) (dp_mkfr T.1.2.2.1 T.2.1 (P := fun n => decide (a_tags n = a)) (fun r _ => rfl))
theorem yy_bare10 (T : dp_Tr c o lv pr) (he : e < 8) {post : SY → Prop} (h : ∀ R', dp_ag R R' e → (∀ x, x < 32 → R' (32 * e + x) = dp_op c o (fun r => lv (o r)) pr a_tags a_values 10 a p q x) → post ((nI c), (nI (e + 1)), (fun j => nI (o j)), (dp_th pr), a_above, a_tags, a_values, a_held, a_twin, a_kinds, a_args, a_sizes, (upd a_isPath e 0), R', a_spare, a_isSet, a_alive, a_edited, a_watchNode, a_before)) : wpY_bare post ((nI c), (nI e), (fun j => nI (o j)), (dp_th pr), a_above, a_tags, a_values, a_held, a_twin, a_kinds, a_args, a_sizes, a_isPath, R, a_spare, a_isSet, a_alive, a_edited, a_watchNode, a_before) 10 a := by
  refine ⟨33, yy_bare10_l he (fun R' ag => br_t dp_le32 (br_f (by decide) (yy_makeCondition he (fun R2 ag2 H2 => nm_r (nI_1 e) (h R2 (dp_ag_trans ag ag2) (fun x hx => ?_)))))) 32 0 R rfl (fun _ _ => rfl)⟩
  rw [H2 x hx]
  exact congrArg (fun s => dp_c0 s x) (dp_mkfr T.1.2.2.1 T.2.1 (P := fun n => decide (a ≤ a_values n)) (fun r _ => rfl))
/-! turn -/
theorem yy_turn_17 (he : e < 8) {x : Nat} (hx : x < 32) (hp : ∀ y, y < 32 → a_rows (32 * e + y) = p y) {post : SY → Prop} {J : Int32 → (Nat → Int32) → (Nat → Int32) → (Nat → Int32) → (Nat → Int32) → (Nat → Int32) → (Nat → Int32) → (Nat → Int32) → (Nat → Int32) → (Nat → Int32) → (Nat → Int32) → (Nat → Int32) → (Nat → Int32) → (Nat → Int32) → (Nat → Int32) → (Nat → Int32) → (Nat → Int32) → (Nat → Int32) → (Nat → Int32) → Prop} {Z : Nat → Int32} (h : ∀ Z', (∀ b, b ≠ x → Z' b = Z b) → Z' x = dp_mk (fun y => bt (p y) x) 32 → J (nI (x + 1)) a_list a_there a_above a_tags a_values a_held a_twin a_kinds a_args a_sizes a_isPath a_rows Z' a_isSet a_alive a_edited a_watchNode a_before) : ∀ d y Z', y + d = 32 → (∀ b, b ≠ x → Z' b = Z b) → Z' x = dp_mk (fun y => bt (p y) x) y → wY_turn_17 post J (nI e) (nI x) f_count f_height (d + 1) (nI y) a_list a_there a_above a_tags a_values a_held a_twin a_kinds a_args a_sizes a_isPath a_rows Z' a_isSet a_alive a_edited a_watchNode a_before := by
  intro d
  induction d with
  | zero =>
    intro y Z' hy H1 H2
    obtain rfl : y = 32 := by omega
    exact br_t dp_le32 (nm_r (nI_1 x) (h Z' H1 H2))
  | succ d ih =>
    intro y Z' hy H1 H2
    refine br_f (dp_ge32 (by omega)) ?_
    simp only [dp_32m, nI_add, dp_cl256 (show 32 * e + y < 256 by omega), hp y (by omega), dp_cl32 hx]
    refine ⟨dp_v256 (by omega), yy_in hx ?_⟩
    by_cases z : bt (p y) x = true
    · rw [z]
      refine br_f (by decide) ⟨dp_v32 hx, dp_v32 hx, nm_e (nm_r (nI_1 y) (ih (y + 1) _ (by omega) (fun b hb => by rw [pk_un hb]; exact H1 b hb) ?_))⟩
      rw [pk_us, dp_mk_t (P := fun y => bt (p y) x) z, H2]
      rfl
    · rw [Bool.eq_false_iff.mpr z]
      refine br_t rfl ⟨dp_v32 hx, dp_v32 hx, nm_e (nm_r (nI_1 y) (ih (y + 1) _ (by omega) (fun b hb => by rw [pk_un hb]; exact H1 b hb) ?_))⟩
      rw [pk_us, dp_mk_f (P := fun y => bt (p y) x) z, H2]
theorem yy_turn_81 (he : e < 8) {f : Nat → Int32} (hf : ∀ x, x < 32 → a_spare x = f x) {post : SY → Prop} (h : ∀ R', dp_ag R R' e → (∀ x, x < 32 → R' (32 * e + x) = f x) → post (f_count, f_height, a_list, a_there, a_above, a_tags, a_values, a_held, a_twin, a_kinds, a_args, a_sizes, a_isPath, R', a_spare, a_isSet, a_alive, a_edited, a_watchNode, a_before)) : ∀ d x R', x + d = 32 → dp_In R e (dp_mx x f p) R' → wY_turn_81 post (nI e) f_count f_height (d + 1) (nI x) a_list a_there a_above a_tags a_values a_held a_twin a_kinds a_args a_sizes a_isPath R' a_spare a_isSet a_alive a_edited a_watchNode a_before := by
  intro d
  induction d with
  | zero =>
    intro x R' hx H
    obtain rfl : x = 32 := by omega
    exact br_t dp_le32 (h R' (dp_In_32 H).1 (dp_In_32 H).2)
  | succ d ih =>
    intro x R' hx H
    refine br_f (dp_ge32 (by omega)) ⟨dp_v32 (by omega), ?_⟩
    simp only [dp_32m, nI_add, dp_cl256 (show 32 * e + x < 256 by omega), dp_cl32 (show x < 32 by omega)]
    exact ⟨dp_v256 (by omega), nm_e (nm_r (nI_1 x) (ih (x + 1) _ (by omega) (dp_In_s H (by omega) (hf x (by omega)))))⟩
theorem yy_turn_2 (he : e < 8) (hp : ∀ y, y < 32 → R (32 * e + y) = p y) {post : SY → Prop} (h : ∀ R' Z, dp_ag R R' e → (∀ x, x < 32 → R' (32 * e + x) = dp_mk (fun y => bt (p y) x) 32) → post (f_count, f_height, a_list, a_there, a_above, a_tags, a_values, a_held, a_twin, a_kinds, a_args, a_sizes, a_isPath, R', Z, a_isSet, a_alive, a_edited, a_watchNode, a_before)) : ∀ d x Z, x + d = 32 → (∀ b, b < x → Z b = dp_mk (fun y => bt (p y) b) 32) → wY_turn_2 post (nI e) f_count f_height (d + 1) (nI x) a_list a_there a_above a_tags a_values a_held a_twin a_kinds a_args a_sizes a_isPath R Z a_isSet a_alive a_edited a_watchNode a_before := by
  intro d
  induction d with
  | zero =>
    intro x Z hx H
    obtain rfl : x = 32 := by omega
    exact br_t dp_le32 ⟨33, yy_turn_81 (f := fun x => dp_mk (fun y => bt (p y) x) 32) he H (fun R' ag H2 => h R' Z ag H2) 32 0 R rfl (dp_In_0 hp)⟩
  | succ d ih =>
    intro x Z hx H
    refine br_f (dp_ge32 (by omega)) ⟨dp_v32 (by omega), ?_⟩
    rw [dp_cl32 (show x < 32 by omega)]
    refine nm_e ⟨33, yy_turn_17 he (by omega) hp (Z := Z) (fun Z' H1 H2 => ih (x + 1) Z' (by omega) (fun b hb => ?_)) 32 0 _ rfl (fun b hb => pk_un hb) pk_us⟩
    by_cases z : b = x
    · subst z; exact H2
    · rw [H1 b z]; exact H b (by omega)
theorem yy_turn (he : e < 8) (hp : ∀ y, y < 32 → R (32 * e + y) = p y) {post : SY → Prop} (h : ∀ R' Z, dp_ag R R' e → (∀ x, x < 32 → R' (32 * e + x) = dp_mk (fun y => bt (p y) x) 32) → post (f_count, f_height, a_list, a_there, a_above, a_tags, a_values, a_held, a_twin, a_kinds, a_args, a_sizes, a_isPath, R', Z, a_isSet, a_alive, a_edited, a_watchNode, a_before)) : wpY_turn post (f_count, f_height, a_list, a_there, a_above, a_tags, a_values, a_held, a_twin, a_kinds, a_args, a_sizes, a_isPath, R, a_spare, a_isSet, a_alive, a_edited, a_watchNode, a_before) (nI e) := ⟨33, yy_turn_2 he hp h 32 0 _ rfl (fun b hb => absurd hb (Nat.not_lt_zero b))⟩
/-! repeat -/
theorem yy_rep_63 (he : e < 8) {z : Nat} (hz : z < 32) {post : SY → Prop} {J : Int32 → (Nat → Int32) → (Nat → Int32) → (Nat → Int32) → (Nat → Int32) → (Nat → Int32) → (Nat → Int32) → (Nat → Int32) → (Nat → Int32) → (Nat → Int32) → (Nat → Int32) → (Nat → Int32) → (Nat → Int32) → (Nat → Int32) → (Nat → Int32) → (Nat → Int32) → (Nat → Int32) → (Nat → Int32) → (Nat → Int32) → Prop} (h : ∀ R', dp_In R e (dp_wr p (z + 1)) R' → J (nI (z + 1)) a_list a_there a_above a_tags a_values a_held a_twin a_kinds a_args a_sizes a_isPath R' a_spare a_isSet a_alive a_edited a_watchNode a_before) : ∀ d x R', x + d = 32 → dp_In R e (dp_mx x (dp_wr p (z + 1)) (dp_wr p z)) R' → wY_repeat_63 post J (nI e) (nI z) f_count f_height (d + 1) (nI x) a_list a_there a_above a_tags a_values a_held a_twin a_kinds a_args a_sizes a_isPath R' a_spare a_isSet a_alive a_edited a_watchNode a_before := by
  intro d
  induction d with
  | zero =>
    intro x R' hx H
    obtain rfl : x = 32 := by omega
    exact br_t dp_le32 (nm_r (nI_1 z) (h R' (dp_In_32 H)))
  | succ d ih =>
    intro x R' hx H
    have e1 : R' (32 * e + x) = dp_wr p z x := by rw [H.2 x (by omega), dp_mx_hi (Nat.le_refl _)]
    have e2 : R' (32 * e + z) = dp_wr p z z := by
      rw [H.2 z hz]
      rcases Nat.lt_or_ge z x with w | w
      · rw [dp_mx_lo w, dp_wr_row]
      · rw [dp_mx_hi w]
    refine br_f (dp_ge32 (by omega)) ?_
    simp only [dp_32m, nI_add, dp_cl256 (show 32 * e + x < 256 by omega), dp_cl256 (show 32 * e + z < 256 by omega), e1, e2]
    refine ⟨dp_v256 (by omega), yy_in hz ?_⟩
    by_cases w : bt (dp_wr p z x) z = true
    · rw [w]
      exact br_f (by decide) ⟨dp_v256 (by omega), dp_v256 (by omega), dp_v256 (by omega), nm_e (nm_r (nI_1 x) (ih (x + 1) _ (by omega) (dp_In_s H (by omega) (dp_wr_t w).symm)))⟩
    · rw [Bool.eq_false_iff.mpr w]
      exact br_t rfl ⟨dp_v256 (by omega), dp_v256 (by omega), nm_e (nm_r (nI_1 x) (ih (x + 1) _ (by omega) (dp_In_s H (by omega) (dp_wr_f w).symm)))⟩
theorem yy_rep_55 (he : e < 8) {post : SY → Prop} (h : ∀ R', dp_ag R R' e → (∀ x, x < 32 → R' (32 * e + x) = dp_wr p 32 x) → post (f_count, f_height, a_list, a_there, a_above, a_tags, a_values, a_held, a_twin, a_kinds, a_args, a_sizes, a_isPath, R', a_spare, a_isSet, a_alive, a_edited, a_watchNode, a_before)) : ∀ d z R', z + d = 32 → dp_In R e (dp_wr p z) R' → wY_repeat_55 post (nI e) f_count f_height (d + 1) (nI z) a_list a_there a_above a_tags a_values a_held a_twin a_kinds a_args a_sizes a_isPath R' a_spare a_isSet a_alive a_edited a_watchNode a_before := by
  intro d
  induction d with
  | zero =>
    intro z R' hz H
    obtain rfl : z = 32 := by omega
    exact br_t dp_le32 (h R' H.1 H.2)
  | succ d ih =>
    intro z R' hz H
    exact br_f (dp_ge32 (by omega)) ⟨33, yy_rep_63 (R := R') he (by omega) (fun R2 H2 => ih (z + 1) R2 (by omega) ⟨dp_ag_trans H.1 H2.1, H2.2⟩) 32 0 R' rfl (dp_In_0 H.2)⟩
theorem yy_rep_2 (he : e < 8) {post : SY → Prop} (h : ∀ R', dp_ag R R' e → (∀ x, x < 32 → R' (32 * e + x) = dp_wr (fun x => if bt pr x = true then p x ||| dp_bo x else 0) 32 x) → post (f_count, f_height, a_list, (dp_th pr), a_above, a_tags, a_values, a_held, a_twin, a_kinds, a_args, a_sizes, a_isPath, R', a_spare, a_isSet, a_alive, a_edited, a_watchNode, a_before)) : ∀ d x R', x + d = 32 → dp_In R e (dp_mx x (fun x => if bt pr x = true then p x ||| dp_bo x else 0) p) R' → wY_repeat_2 post (nI e) f_count f_height (d + 1) (nI x) a_list (dp_th pr) a_above a_tags a_values a_held a_twin a_kinds a_args a_sizes a_isPath R' a_spare a_isSet a_alive a_edited a_watchNode a_before := by
  intro d
  induction d with
  | zero =>
    intro x R' hx H
    obtain rfl : x = 32 := by omega
    exact br_t dp_le32 ⟨33, yy_rep_55 (R := R') he (fun R2 ag H2 => h R2 (dp_ag_trans H.1 ag) H2) 32 0 R' rfl ⟨fun _ _ => rfl, (dp_In_32 H).2⟩⟩
  | succ d ih =>
    intro x R' hx H
    have e1 : R' (32 * e + x) = p x := by rw [H.2 x (by omega), dp_mx_hi (Nat.le_refl _)]
    refine br_f (dp_ge32 (by omega)) ⟨dp_v32 (by omega), ?_⟩
    simp only [dp_32m, nI_add, dp_cl256 (show 32 * e + x < 256 by omega), dp_cl32 (show x < 32 by omega), e1]
    by_cases z : bt pr x = true
    · have th : dp_th pr x = 1 := dp_c_t z
      rw [th]
      exact br_f (by decide) ⟨dp_v256 (by omega), dp_v256 (by omega), nm_e (nm_r (nI_1 x) (ih (x + 1) _ (by omega) (dp_In_s H (by omega) (if_pos z).symm)))⟩
    · have th : dp_th pr x = 0 := dp_c_f (Bool.eq_false_iff.mpr z)
      rw [th]
      exact br_t rfl ⟨dp_v256 (by omega), nm_e (nm_r (nI_1 x) (ih (x + 1) _ (by omega) (dp_In_s H (by omega) (if_neg z).symm)))⟩
theorem yy_repeat (he : e < 8) (hp : ∀ y, y < 32 → R (32 * e + y) = p y) (h1 : dp_PP pr p) {post : SY → Prop} (h : ∀ R', dp_ag R R' e → (∀ x, x < 32 → R' (32 * e + x) = dp_wr p 32 x ||| (pr &&& dp_bo x)) → post (f_count, f_height, a_list, (dp_th pr), a_above, a_tags, a_values, a_held, a_twin, a_kinds, a_args, a_sizes, a_isPath, R', a_spare, a_isSet, a_alive, a_edited, a_watchNode, a_before)) : wpY_repeat post (f_count, f_height, a_list, (dp_th pr), a_above, a_tags, a_values, a_held, a_twin, a_kinds, a_args, a_sizes, a_isPath, R, a_spare, a_isSet, a_alive, a_edited, a_watchNode, a_before) (nI e) := by
  refine ⟨33, yy_rep_2 he (fun R' ag H => h R' ag (fun x hx => ?_)) 32 0 R rfl (dp_In_0 hp)⟩
  rw [H x hx]
  apply b_ext
  intro b hb
  rw [dp_wr_refl h1 (fun _ _ => rfl) 32 (Nat.le_refl _) x hx b hb, b_or, b_and, dp_bo_bt hx]
  by_cases z : b = x
  · rw [z, Bool.and_comm]
  · rw [decide_eq_false z, Bool.false_and, Bool.and_false]
end YR
