/-! the reference: tokens that take one entry, and two -/
section YN
variable {f_count f_height : Int32} {a_list a_there a_above a_tags a_values a_held a_twin a_kinds a_args a_sizes a_isPath a_rows a_spare a_isSet a_alive a_edited a_watchNode a_before : Nat → Int32} {c e : Nat} {o lv : Nat → Nat} {pr a : Int32} {p q R : Nat → Int32}
theorem yy_one_skip {k s w z : Int32} {x : Nat} (h11 : ¬ k = 11) (h12 : ¬ k = 12) {post : SY → Prop} {J : Int32 → Int32 → (Nat → Int32) → (Nat → Int32) → (Nat → Int32) → (Nat → Int32) → (Nat → Int32) → (Nat → Int32) → (Nat → Int32) → (Nat → Int32) → (Nat → Int32) → (Nat → Int32) → (Nat → Int32) → (Nat → Int32) → (Nat → Int32) → (Nat → Int32) → (Nat → Int32) → (Nat → Int32) → (Nat → Int32) → (Nat → Int32) → Prop} (h : J s (nI (x + 1)) a_list a_there a_above a_tags a_values a_held a_twin a_kinds a_args a_sizes a_isPath a_rows a_spare a_isSet a_alive a_edited a_watchNode a_before) : wY_one_63 post J k a z s (nI x) w f_count f_height a_list a_there a_above a_tags a_values a_held a_twin a_kinds a_args a_sizes a_isPath a_rows a_spare a_isSet a_alive a_edited a_watchNode a_before := br_f h11 (br_f h12 (br_t rfl (br_t rfl (nm_r (nI_1 x) h))))
theorem yy_one_through {k : Int32} (h7 : ¬ k = 7) (h11 : ¬ k = 11) (h12 : ¬ k = 12) (he : e < 8) {post : SY → Prop} (h : wY_one_13 post k a (nI e) f_count (nI (e + 1)) 1 0 (nI 32) a_list a_there a_above a_tags a_values a_held a_twin a_kinds a_args a_sizes a_isPath a_rows a_spare a_isSet a_alive a_edited a_watchNode a_before) : ∀ d x, x + d = 32 → wY_one_13 post k a (nI e) f_count (nI (e + 1)) (d + 1) 0 (nI x) a_list a_there a_above a_tags a_values a_held a_twin a_kinds a_args a_sizes a_isPath a_rows a_spare a_isSet a_alive a_edited a_watchNode a_before := by
  intro d
  induction d with
  | zero =>
    intro x hx
    obtain rfl : x = 32 := by omega
    exact h
  | succ d ih =>
    intro x hx
    refine br_f (dp_ge32 (by omega)) ?_
    simp only [dp_32m, nI_add]
    exact ⟨dp_v256 (by omega), nm_e (br_f h7 (yy_one_skip h11 h12 (ih (x + 1) (by omega))))⟩
theorem yy_one5 (he : e < 8) (hp : ∀ y, y < 32 → R (32 * e + y) = p y) {post : SY → Prop} (h : ∀ R' Z, dp_ag R R' e → (∀ x, x < 32 → R' (32 * e + x) = dp_mk (fun y => bt (p y) x) 32) → post (f_count, (nI (e + 1)), a_list, a_there, a_above, a_tags, a_values, a_held, a_twin, a_kinds, a_args, a_sizes, a_isPath, R', Z, a_isSet, a_alive, a_edited, a_watchNode, a_before)) : wpY_one post (f_count, (nI (e + 1)), a_list, a_there, a_above, a_tags, a_values, a_held, a_twin, a_kinds, a_args, a_sizes, a_isPath, R, a_spare, a_isSet, a_alive, a_edited, a_watchNode, a_before) 5 a :=
  nm_r (nI_pred e) ⟨33, yy_one_through (by decide) (by decide) (by decide) he (br_t dp_le32 (br_t rfl (yy_turn he hp (fun R' Z ag H => br_f (by decide) (br_f (by decide) (br_f (by decide) (h R' Z ag H))))))) 32 0 rfl⟩
theorem yy_one6 (he : e < 8) (hp : ∀ y, y < 32 → R (32 * e + y) = p y) (h1 : dp_PP pr p) {post : SY → Prop} (h : ∀ R', dp_ag R R' e → (∀ x, x < 32 → R' (32 * e + x) = dp_wr p 32 x ||| (pr &&& dp_bo x)) → post (f_count, (nI (e + 1)), a_list, (dp_th pr), a_above, a_tags, a_values, a_held, a_twin, a_kinds, a_args, a_sizes, a_isPath, R', a_spare, a_isSet, a_alive, a_edited, a_watchNode, a_before)) : wpY_one post (f_count, (nI (e + 1)), a_list, (dp_th pr), a_above, a_tags, a_values, a_held, a_twin, a_kinds, a_args, a_sizes, a_isPath, R, a_spare, a_isSet, a_alive, a_edited, a_watchNode, a_before) 6 a :=
  nm_r (nI_pred e) ⟨33, yy_one_through (by decide) (by decide) (by decide) he (br_t dp_le32 (br_f (by decide) (br_t rfl (yy_repeat he hp h1 (fun R' ag H => br_f (by decide) (br_f (by decide) (h R' ag H))))))) 32 0 rfl⟩
theorem yy_one7_l (ho : ∀ r, o r < 32) (hc : c ≤ 32) (he : e < 8) (ha : a ≠ 0) {post : SY → Prop} (h : ∀ R', dp_ag R R' e → (∀ x, x < 32 → R' (32 * e + x) = dp_nt c o a (p x)) → post ((nI c), (nI (e + 1)), (fun j => nI (o j)), a_there, a_above, a_tags, a_values, a_held, a_twin, a_kinds, a_args, a_sizes, a_isPath, R', a_spare, a_isSet, a_alive, a_edited, a_watchNode, a_before)) : ∀ d x R', x + d = 32 → dp_In R e (dp_mx x (fun x => dp_nt c o a (p x)) p) R' → wY_one_13 post 7 a (nI e) (nI c) (nI (e + 1)) (d + 1) 0 (nI x) (fun j => nI (o j)) a_there a_above a_tags a_values a_held a_twin a_kinds a_args a_sizes a_isPath R' a_spare a_isSet a_alive a_edited a_watchNode a_before := by
  intro d
  induction d with
  | zero =>
    intro x R' hx H
    obtain rfl : x = 32 := by omega
    exact br_t dp_le32 (br_f (by decide) (br_f (by decide) (br_f (by decide) (br_f (by decide) (h R' (dp_In_32 H).1 (dp_In_32 H).2)))))
  | succ d ih =>
    intro x R' hx H
    have e1 : R' (32 * e + x) = p x := by rw [H.2 x (by omega), dp_mx_hi (Nat.le_refl _)]
    refine br_f (dp_ge32 (by omega)) ?_
    simp only [dp_32m, nI_add, dp_cl256 (show 32 * e + x < 256 by omega), e1]
    exact ⟨dp_v256 (by omega), nm_e (br_t (by trivial) (yy_nthOf ho hc ha ⟨dp_v256 (by omega), nm_e (yy_one_skip (by decide) (by decide) (ih (x + 1) _ (by omega) (dp_In_s H (by omega) rfl)))⟩))⟩
theorem yy_one7 (ho : ∀ r, o r < 32) (hc : c ≤ 32) (he : e < 8) (ha : a ≠ 0) (hp : ∀ y, y < 32 → R (32 * e + y) = p y) {post : SY → Prop} (h : ∀ R', dp_ag R R' e → (∀ x, x < 32 → R' (32 * e + x) = dp_nt c o a (p x)) → post ((nI c), (nI (e + 1)), (fun j => nI (o j)), a_there, a_above, a_tags, a_values, a_held, a_twin, a_kinds, a_args, a_sizes, a_isPath, R', a_spare, a_isSet, a_alive, a_edited, a_watchNode, a_before)) : wpY_one post ((nI c), (nI (e + 1)), (fun j => nI (o j)), a_there, a_above, a_tags, a_values, a_held, a_twin, a_kinds, a_args, a_sizes, a_isPath, R, a_spare, a_isSet, a_alive, a_edited, a_watchNode, a_before) 7 a := nm_r (nI_pred e) ⟨33, yy_one7_l ho hc he ha h 32 0 R rfl (dp_In_0 hp)⟩
theorem yy_one11_l (he : e < 8) (hp : ∀ y, y < 32 → R (32 * e + y) = p y) {post : SY → Prop} (h : wY_one_13 post 11 a (nI e) f_count (nI (e + 1)) 1 (dp_mk (fun x => bt pr x && decide (a ≤ nI (dp_fc (bt (p x)) 32))) 32) (nI 32) a_list (dp_th pr) a_above a_tags a_values a_held a_twin a_kinds a_args a_sizes a_isPath R a_spare a_isSet a_alive a_edited a_watchNode a_before) : ∀ d x, x + d = 32 → wY_one_13 post 11 a (nI e) f_count (nI (e + 1)) (d + 1) (dp_mk (fun x => bt pr x && decide (a ≤ nI (dp_fc (bt (p x)) 32))) x) (nI x) a_list (dp_th pr) a_above a_tags a_values a_held a_twin a_kinds a_args a_sizes a_isPath R a_spare a_isSet a_alive a_edited a_watchNode a_before := by
  intro d
  induction d with
  | zero =>
    intro x hx
    obtain rfl : x = 32 := by omega
    exact h
  | succ d ih =>
    intro x hx
    have g := ih (x + 1) (by omega)
    refine br_f (dp_ge32 (by omega)) ?_
    simp only [dp_32m, nI_add, dp_cl256 (show 32 * e + x < 256 by omega), hp x (by omega)]
    refine ⟨dp_v256 (by omega), nm_e (br_f (by decide) (br_t rfl ⟨dp_v32 (by omega), ?_⟩))⟩
    rw [dp_cl32 (show x < 32 by omega)]
    by_cases z : bt pr x = true
    · have th : dp_th pr x = 1 := dp_c_t z
      rw [th]
      refine br_f (by decide) (yy_ones ?_)
      by_cases y : a ≤ nI (dp_fc (bt (p x)) 32)
      · rw [dp_mk_t (by rw [z, decide_eq_true y, Bool.true_and])] at g
        exact br_f (Int32.not_lt.mpr y) (br_f (by decide) (br_f (by decide) (nm_e (nm_r (nI_1 x) g))))
      · rw [dp_mk_f (by rw [decide_eq_false y, Bool.and_false]; decide)] at g
        exact br_t (Int32.not_le.mp y) (br_f (by decide) (br_t rfl (br_t rfl (nm_r (nI_1 x) g))))
    · have th : dp_th pr x = 0 := dp_c_f (Bool.eq_false_iff.mpr z)
      rw [th]
      rw [dp_mk_f (by rw [Bool.eq_false_iff.mpr z, Bool.false_and]; decide)] at g
      exact br_t rfl (br_f (by decide) (br_t rfl (br_t rfl (nm_r (nI_1 x) g))))
theorem yy_one11 (he : e < 8) (hp : ∀ y, y < 32 → R (32 * e + y) = p y) (h1 : dp_PP pr p) (ha : 1 ≤ a) {post : SY → Prop} (h : ∀ R', dp_ag R R' e → (∀ x, x < 32 → R' (32 * e + x) = dp_c0 (dp_mk (fun x => decide (a ≤ nI (dp_fc (bt (p x)) 32))) 32) x) → post (f_count, (nI (e + 1)), a_list, (dp_th pr), a_above, a_tags, a_values, a_held, a_twin, a_kinds, a_args, a_sizes, (upd a_isPath e 0), R', a_spare, a_isSet, a_alive, a_edited, a_watchNode, a_before)) : wpY_one post (f_count, (nI (e + 1)), a_list, (dp_th pr), a_above, a_tags, a_values, a_held, a_twin, a_kinds, a_args, a_sizes, a_isPath, R, a_spare, a_isSet, a_alive, a_edited, a_watchNode, a_before) 11 a := by
  refine nm_r (nI_pred e) ⟨33, yy_one11_l he hp (br_t dp_le32 (br_f (by decide) (br_f (by decide) (br_t rfl (yy_makeCondition he (fun R' ag H => h R' ag (fun x hx => ?_))))))) 32 0 rfl⟩
  rw [H x hx, dp_has_mk h1 ha]
theorem yy_one12_l (he : e < 8) (hp : R (32 * e) = p 0) {post : SY → Prop} (h : wY_one_13 post 12 a (nI e) f_count (nI (e + 1)) 1 (dp_mk (fun x => bt pr x && !bt (p 0) x) 32) (nI 32) a_list (dp_th pr) a_above a_tags a_values a_held a_twin a_kinds a_args a_sizes a_isPath R a_spare a_isSet a_alive a_edited a_watchNode a_before) : ∀ d x, x + d = 32 → wY_one_13 post 12 a (nI e) f_count (nI (e + 1)) (d + 1) (dp_mk (fun x => bt pr x && !bt (p 0) x) x) (nI x) a_list (dp_th pr) a_above a_tags a_values a_held a_twin a_kinds a_args a_sizes a_isPath R a_spare a_isSet a_alive a_edited a_watchNode a_before := by
  intro d
  induction d with
  | zero =>
    intro x hx
    obtain rfl : x = 32 := by omega
    exact h
  | succ d ih =>
    intro x hx
    have g := ih (x + 1) (by omega)
    refine br_f (dp_ge32 (by omega)) ?_
    simp only [dp_32m, nI_add]
    refine ⟨dp_v256 (by omega), nm_e (br_f (by decide) (br_f (by decide) (br_t rfl ⟨dp_v32 (by omega), ?_⟩)))⟩
    simp only [dp_32m, nI_add, dp_cl32 (show x < 32 by omega), dp_cl256 (show 32 * e < 256 by omega), hp]
    by_cases z : bt pr x = true
    · have th : dp_th pr x = 1 := dp_c_t z
      rw [th]
      refine br_f (by decide) ⟨dp_v256 (by omega), yy_in (by omega) ?_⟩
      by_cases y : bt (p 0) x = true
      · rw [dp_mk_f (by rw [y, Bool.not_true, Bool.and_false]; decide)] at g
        rw [y]
        exact br_f (by decide) (br_t rfl (br_t rfl (nm_r (nI_1 x) g)))
      · rw [dp_mk_t (by rw [z, Bool.eq_false_iff.mpr y]; rfl)] at g
        rw [Bool.eq_false_iff.mpr y]
        exact br_t rfl (br_t rfl (br_f (by decide) (nm_e (nm_r (nI_1 x) g))))
    · have th : dp_th pr x = 0 := dp_c_f (Bool.eq_false_iff.mpr z)
      rw [th]
      rw [dp_mk_f (by rw [Bool.eq_false_iff.mpr z, Bool.false_and]; decide)] at g
      exact br_t rfl (br_t rfl (br_t rfl (nm_r (nI_1 x) g)))
theorem yy_one12 (he : e < 8) (hp : R (32 * e) = p 0) {post : SY → Prop} (h : ∀ R', dp_ag R R' e → (∀ x, x < 32 → R' (32 * e + x) = dp_c0 (pr &&& (p 0 ^^^ (-1))) x) → post (f_count, (nI (e + 1)), a_list, (dp_th pr), a_above, a_tags, a_values, a_held, a_twin, a_kinds, a_args, a_sizes, (upd a_isPath e 0), R', a_spare, a_isSet, a_alive, a_edited, a_watchNode, a_before)) : wpY_one post (f_count, (nI (e + 1)), a_list, (dp_th pr), a_above, a_tags, a_values, a_held, a_twin, a_kinds, a_args, a_sizes, a_isPath, R, a_spare, a_isSet, a_alive, a_edited, a_watchNode, a_before) 12 a := by
  refine nm_r (nI_pred e) ⟨33, yy_one12_l he hp (br_t dp_le32 (br_f (by decide) (br_f (by decide) (br_f (by decide) (br_t rfl (yy_makeCondition he (fun R' ag H => h R' ag (fun x hx => ?_)))))))) 32 0 rfl⟩
  rw [H x hx, dp_not_mk]
/-! two -/
theorem yy_joined_l (he : e < 8) (hq : ∀ y, y < 32 → a_rows (32 * e + y) = q y) {w : Int32} {post : Int32 → Prop} (h : post (dp_jn w q 32)) : ∀ d y, y + d = 32 → wY_joined_5 post w (nI e) f_count f_height a_list a_there a_above a_tags a_values a_held a_twin a_kinds a_args a_sizes a_isPath a_rows a_spare a_isSet a_alive a_edited a_watchNode a_before (d + 1) (dp_jn w q y) (nI y) := by
  intro d
  induction d with
  | zero =>
    intro y hy
    obtain rfl : y = 32 := by omega
    exact br_t dp_le32 h
  | succ d ih =>
    intro y hy
    have g := ih (y + 1) (by omega)
    refine br_f (dp_ge32 (by omega)) (yy_in (by omega) ?_)
    by_cases z : bt w y = true
    · rw [dp_jn_t z] at g
      rw [z]
      refine br_f (by decide) ?_
      simp only [dp_32m, nI_add, dp_cl256 (show 32 * e + y < 256 by omega), hq y (by omega)]
      exact ⟨dp_v256 (by omega), nm_e (nm_r (nI_1 y) g)⟩
    · rw [dp_jn_f z] at g
      rw [Bool.eq_false_iff.mpr z]
      exact br_t rfl (nm_r (nI_1 y) g)
theorem yy_joined (he : e < 8) (hq : ∀ y, y < 32 → a_rows (32 * e + y) = q y) {w : Int32} {post : Int32 → Prop} (h : post (dp_jn w q 32)) : wpY_joined post (f_count, f_height, a_list, a_there, a_above, a_tags, a_values, a_held, a_twin, a_kinds, a_args, a_sizes, a_isPath, a_rows, a_spare, a_isSet, a_alive, a_edited, a_watchNode, a_before) w (nI e) := ⟨33, yy_joined_l he hq h 32 0 rfl⟩
theorem yy_match_11 {s w : Int32} {y : Nat} (hy : y < 32) {post : Int32 → Prop} {J : Int32 → Prop} (h1 : dp_any (fun z => bt s y && bt w z && decide (a_values y = a_values z)) 32 = true → post 1) (h0 : dp_any (fun z => bt s y && bt w z && decide (a_values y = a_values z)) 32 = false → J (nI (y + 1))) : ∀ d z, z + d = 32 → dp_any (fun z => bt s y && bt w z && decide (a_values y = a_values z)) z = false → wY_match_11 post J s w (nI y) f_count f_height a_list a_there a_above a_tags a_values a_held a_twin a_kinds a_args a_sizes a_isPath a_rows a_spare a_isSet a_alive a_edited a_watchNode a_before (d + 1) (nI z) := by
  intro d
  induction d with
  | zero =>
    intro z hz H
    obtain rfl : z = 32 := by omega
    exact br_t dp_le32 (nm_r (nI_1 y) (h0 H))
  | succ d ih =>
    intro z hz H
    have g : (bt s y && bt w z && decide (a_values y = a_values z)) = false → wY_match_11 post J s w (nI y) f_count f_height a_list a_there a_above a_tags a_values a_held a_twin a_kinds a_args a_sizes a_isPath a_rows a_spare a_isSet a_alive a_edited a_watchNode a_before (d + 1) (nI (z + 1)) := fun q => ih (z + 1) (by omega) (by
      show (dp_any _ z || _) = false
      rw [H]; exact q)
    refine br_f (dp_ge32 (by omega)) (yy_in hy ?_)
    by_cases a1 : bt s y = true
    · rw [a1]
      refine br_f (by decide) (yy_in (by omega) ?_)
      by_cases a2 : bt w z = true
      · rw [a2]
        refine br_f (by decide) ⟨dp_v32 hy, dp_v32 (by omega), ?_⟩
        rw [dp_cl32 hy, dp_cl32 (show z < 32 by omega)]
        by_cases a3 : a_values y = a_values z
        · exact br_t a3 (h1 (dp_any_iff.mpr ⟨z, by omega, by rw [a1, a2, decide_eq_true a3]; rfl⟩))
        · exact br_f a3 (nm_r (nI_1 z) (g (by rw [decide_eq_false a3, Bool.and_false])))
      · rw [Bool.eq_false_iff.mpr a2]
        exact br_t rfl (nm_r (nI_1 z) (g (by rw [Bool.eq_false_iff.mpr a2, Bool.and_false, Bool.false_and])))
    · rw [Bool.eq_false_iff.mpr a1]
      exact br_t rfl (nm_r (nI_1 z) (g (by rw [Bool.eq_false_iff.mpr a1, Bool.false_and, Bool.false_and])))
theorem yy_match_2 {s w : Int32} {post : Int32 → Prop} (h : post (dp_c (dp_mt a_values s w))) : ∀ d y, y + d = 32 → dp_any (fun y => dp_any (fun z => bt s y && bt w z && decide (a_values y = a_values z)) 32) y = false → wY_match_2 post s w f_count f_height a_list a_there a_above a_tags a_values a_held a_twin a_kinds a_args a_sizes a_isPath a_rows a_spare a_isSet a_alive a_edited a_watchNode a_before (d + 1) (nI y) := by
  intro d
  induction d with
  | zero =>
    intro y hy H
    obtain rfl : y = 32 := by omega
    have e : dp_mt a_values s w = false := H
    rw [e] at h
    exact br_t dp_le32 h
  | succ d ih =>
    intro y hy H
    refine br_f (dp_ge32 (by omega)) ⟨33, yy_match_11 (by omega) (fun z => ?_) (fun z => ih (y + 1) (by omega) ?_) 32 0 rfl rfl⟩
    · have e : dp_mt a_values s w = true := dp_any_iff.mpr ⟨y, by omega, z⟩
      rw [e] at h; exact h
    · show (dp_any _ y || _) = false
      rw [H]; exact z
theorem yy_match {s w : Int32} {post : Int32 → Prop} (h : post (dp_c (dp_mt a_values s w))) : wpY_match post (f_count, f_height, a_list, a_there, a_above, a_tags, a_values, a_held, a_twin, a_kinds, a_args, a_sizes, a_isPath, a_rows, a_spare, a_isSet, a_alive, a_edited, a_watchNode, a_before) s w := ⟨33, yy_match_2 h 32 0 rfl rfl⟩
theorem yy_two_174 {k v s : Int32} {x : Nat} (he : e < 8) (hx : x < 32) {post : SY → Prop} {J : Int32 → Int32 → (Nat → Int32) → (Nat → Int32) → (Nat → Int32) → (Nat → Int32) → (Nat → Int32) → (Nat → Int32) → (Nat → Int32) → (Nat → Int32) → (Nat → Int32) → (Nat → Int32) → (Nat → Int32) → (Nat → Int32) → (Nat → Int32) → (Nat → Int32) → (Nat → Int32) → (Nat → Int32) → (Nat → Int32) → (Nat → Int32) → Prop} (h : J s (nI (x + 1)) a_list a_there a_above a_tags a_values a_held a_twin a_kinds a_args a_sizes a_isPath (upd R (32 * e + x) v) a_spare a_isSet a_alive a_edited a_watchNode a_before) : wY_two_174 post J k (nI e) (nI x) v s f_count f_height a_list a_there a_above a_tags a_values a_held a_twin a_kinds a_args a_sizes a_isPath R a_spare a_isSet a_alive a_edited a_watchNode a_before := by
  unfold wY_two_174
  simp only [dp_32m, nI_add, dp_cl256 (show 32 * e + x < 256 by omega)]
  exact ⟨dp_v256 (by omega), nm_e (nm_r (nI_1 x) h)⟩
theorem yy_two1_l (he : e < 7) (hq : ∀ y, y < 32 → R (32 * e + 32 + y) = q y) {post : SY → Prop} (h : ∀ R', dp_ag R R' e → (∀ x, x < 32 → R' (32 * e + x) = dp_jn (p x) q 32) → post (f_count, (nI (e + 1)), a_list, a_there, a_above, a_tags, a_values, a_held, a_twin, a_kinds, a_args, a_sizes, a_isPath, R', a_spare, a_isSet, a_alive, a_edited, a_watchNode, a_before)) : ∀ d x R', x + d = 32 → dp_In R e (dp_mx x (fun x => dp_jn (p x) q 32) p) R' → wY_two_12 post 1 (nI e) f_count (nI (e + 2)) (d + 1) 0 (nI x) a_list a_there a_above a_tags a_values a_held a_twin a_kinds a_args a_sizes a_isPath R' a_spare a_isSet a_alive a_edited a_watchNode a_before := by
  intro d
  induction d with
  | zero =>
    intro x R' hx H
    obtain rfl : x = 32 := by omega
    exact br_t dp_le32 (br_f (by decide) (nm_r (nI_pred (e + 1)) (h R' (dp_In_32 H).1 (dp_In_32 H).2)))
  | succ d ih =>
    intro x R' hx H
    have e1 : R' (32 * e + x) = p x := by rw [H.2 x (by omega), dp_mx_hi (Nat.le_refl _)]
    have e2 : ∀ y, y < 32 → R' (32 * e + 32 + y) = q y := fun y hy => by rw [dp_In_nx H]; exact hq y hy
    have e0 : R' (32 * e + 32) = q 0 := e2 0 (by omega)
    have t := fun v (hv : v = (fun x => dp_jn (p x) q 32) x) => ih (x + 1) _ (by omega) (dp_In_s H (show x < 32 by omega) hv)
    refine br_f (dp_ge32 (by omega)) ?_
    simp only [dp_32m, dp_p32, nI_add, dp_cl256 (show 32 * e + x < 256 by omega), dp_cl256 (show 32 * e + 32 + x < 256 by omega), e1, e2 x (by omega)]
    refine ⟨dp_v256 (by omega), nm_e ⟨dp_v256 (by omega), nm_e ?_⟩⟩
    refine br_f (by decide) (br_f (by decide) (br_f (by decide) (br_f (by decide) (br_t rfl ?_))))
    have e3 : ∀ y, y < 32 → R' (32 * (e + 1) + y) = q y := fun y hy => by rw [show 32 * (e + 1) + y = 32 * e + 32 + y from by omega]; exact e2 y hy
    rw [nI_1]
    refine yy_joined (e := e + 1) (q := q) (by omega) e3 ?_
    exact br_f (by decide) (br_t rfl (yy_two_174 (by omega) (by omega) (t _ rfl)))
theorem yy_two1 (he : e < 7) (hp : ∀ y, y < 32 → R (32 * e + y) = p y) (hq : ∀ y, y < 32 → R (32 * e + 32 + y) = q y) {post : SY → Prop} (h : ∀ R', dp_ag R R' e → (∀ x, x < 32 → R' (32 * e + x) = dp_jn (p x) q 32) → post (f_count, (nI (e + 1)), a_list, a_there, a_above, a_tags, a_values, a_held, a_twin, a_kinds, a_args, a_sizes, a_isPath, R', a_spare, a_isSet, a_alive, a_edited, a_watchNode, a_before)) : wpY_two post (f_count, (nI (e + 2)), a_list, a_there, a_above, a_tags, a_values, a_held, a_twin, a_kinds, a_args, a_sizes, a_isPath, R, a_spare, a_isSet, a_alive, a_edited, a_watchNode, a_before) 1 := nm_r (by rw [dp_s2 (by omega), Nat.add_sub_cancel]) ⟨33, yy_two1_l he hq h 32 0 R rfl (dp_In_0 hp)⟩
theorem yy_two2_l (he : e < 7) (hq : ∀ y, y < 32 → R (32 * e + 32 + y) = q y) {post : SY → Prop} (h : ∀ R', dp_ag R R' e → (∀ x, x < 32 → R' (32 * e + x) = p x ||| q x) → post (f_count, (nI (e + 1)), a_list, a_there, a_above, a_tags, a_values, a_held, a_twin, a_kinds, a_args, a_sizes, a_isPath, R', a_spare, a_isSet, a_alive, a_edited, a_watchNode, a_before)) : ∀ d x R', x + d = 32 → dp_In R e (dp_mx x (fun x => p x ||| q x) p) R' → wY_two_12 post 2 (nI e) f_count (nI (e + 2)) (d + 1) 0 (nI x) a_list a_there a_above a_tags a_values a_held a_twin a_kinds a_args a_sizes a_isPath R' a_spare a_isSet a_alive a_edited a_watchNode a_before := by
  intro d
  induction d with
  | zero =>
    intro x R' hx H
    obtain rfl : x = 32 := by omega
    exact br_t dp_le32 (br_f (by decide) (nm_r (nI_pred (e + 1)) (h R' (dp_In_32 H).1 (dp_In_32 H).2)))
  | succ d ih =>
    intro x R' hx H
    have e1 : R' (32 * e + x) = p x := by rw [H.2 x (by omega), dp_mx_hi (Nat.le_refl _)]
    have e2 : ∀ y, y < 32 → R' (32 * e + 32 + y) = q y := fun y hy => by rw [dp_In_nx H]; exact hq y hy
    have e0 : R' (32 * e + 32) = q 0 := e2 0 (by omega)
    have t := fun v (hv : v = (fun x => p x ||| q x) x) => ih (x + 1) _ (by omega) (dp_In_s H (show x < 32 by omega) hv)
    refine br_f (dp_ge32 (by omega)) ?_
    simp only [dp_32m, dp_p32, nI_add, dp_cl256 (show 32 * e + x < 256 by omega), dp_cl256 (show 32 * e + 32 + x < 256 by omega), e1, e2 x (by omega)]
    refine ⟨dp_v256 (by omega), nm_e ⟨dp_v256 (by omega), nm_e ?_⟩⟩
    exact br_f (by decide) (br_f (by decide) (br_f (by decide) (br_f (by decide) (br_f (by decide) (br_f (by decide) (br_t rfl (yy_two_174 (by omega) (by omega) (t _ rfl))))))))
theorem yy_two2 (he : e < 7) (hp : ∀ y, y < 32 → R (32 * e + y) = p y) (hq : ∀ y, y < 32 → R (32 * e + 32 + y) = q y) {post : SY → Prop} (h : ∀ R', dp_ag R R' e → (∀ x, x < 32 → R' (32 * e + x) = p x ||| q x) → post (f_count, (nI (e + 1)), a_list, a_there, a_above, a_tags, a_values, a_held, a_twin, a_kinds, a_args, a_sizes, a_isPath, R', a_spare, a_isSet, a_alive, a_edited, a_watchNode, a_before)) : wpY_two post (f_count, (nI (e + 2)), a_list, a_there, a_above, a_tags, a_values, a_held, a_twin, a_kinds, a_args, a_sizes, a_isPath, R, a_spare, a_isSet, a_alive, a_edited, a_watchNode, a_before) 2 := nm_r (by rw [dp_s2 (by omega), Nat.add_sub_cancel]) ⟨33, yy_two2_l he hq h 32 0 R rfl (dp_In_0 hp)⟩
theorem yy_two3_l (he : e < 7) (hq : ∀ y, y < 32 → R (32 * e + 32 + y) = q y) {post : SY → Prop} (h : ∀ R', dp_ag R R' e → (∀ x, x < 32 → R' (32 * e + x) = p x &&& q x) → post (f_count, (nI (e + 1)), a_list, a_there, a_above, a_tags, a_values, a_held, a_twin, a_kinds, a_args, a_sizes, a_isPath, R', a_spare, a_isSet, a_alive, a_edited, a_watchNode, a_before)) : ∀ d x R', x + d = 32 → dp_In R e (dp_mx x (fun x => p x &&& q x) p) R' → wY_two_12 post 3 (nI e) f_count (nI (e + 2)) (d + 1) 0 (nI x) a_list a_there a_above a_tags a_values a_held a_twin a_kinds a_args a_sizes a_isPath R' a_spare a_isSet a_alive a_edited a_watchNode a_before := by
  intro d
  induction d with
  | zero =>
    intro x R' hx H
    obtain rfl : x = 32 := by omega
    exact br_t dp_le32 (br_f (by decide) (nm_r (nI_pred (e + 1)) (h R' (dp_In_32 H).1 (dp_In_32 H).2)))
  | succ d ih =>
    intro x R' hx H
    have e1 : R' (32 * e + x) = p x := by rw [H.2 x (by omega), dp_mx_hi (Nat.le_refl _)]
    have e2 : ∀ y, y < 32 → R' (32 * e + 32 + y) = q y := fun y hy => by rw [dp_In_nx H]; exact hq y hy
    have e0 : R' (32 * e + 32) = q 0 := e2 0 (by omega)
    have t := fun v (hv : v = (fun x => p x &&& q x) x) => ih (x + 1) _ (by omega) (dp_In_s H (show x < 32 by omega) hv)
    refine br_f (dp_ge32 (by omega)) ?_
    simp only [dp_32m, dp_p32, nI_add, dp_cl256 (show 32 * e + x < 256 by omega), dp_cl256 (show 32 * e + 32 + x < 256 by omega), e1, e2 x (by omega)]
    refine ⟨dp_v256 (by omega), nm_e ⟨dp_v256 (by omega), nm_e ?_⟩⟩
    exact br_t (by trivial) (br_f (by decide) (br_f (by decide) (br_f (by decide) (br_t rfl (yy_two_174 (by omega) (by omega) (t _ rfl))))))
theorem yy_two3 (he : e < 7) (hp : ∀ y, y < 32 → R (32 * e + y) = p y) (hq : ∀ y, y < 32 → R (32 * e + 32 + y) = q y) {post : SY → Prop} (h : ∀ R', dp_ag R R' e → (∀ x, x < 32 → R' (32 * e + x) = p x &&& q x) → post (f_count, (nI (e + 1)), a_list, a_there, a_above, a_tags, a_values, a_held, a_twin, a_kinds, a_args, a_sizes, a_isPath, R', a_spare, a_isSet, a_alive, a_edited, a_watchNode, a_before)) : wpY_two post (f_count, (nI (e + 2)), a_list, a_there, a_above, a_tags, a_values, a_held, a_twin, a_kinds, a_args, a_sizes, a_isPath, R, a_spare, a_isSet, a_alive, a_edited, a_watchNode, a_before) 3 := nm_r (by rw [dp_s2 (by omega), Nat.add_sub_cancel]) ⟨33, yy_two3_l he hq h 32 0 R rfl (dp_In_0 hp)⟩
theorem yy_two4_l (he : e < 7) (hq : ∀ y, y < 32 → R (32 * e + 32 + y) = q y) {post : SY → Prop} (h : ∀ R', dp_ag R R' e → (∀ x, x < 32 → R' (32 * e + x) = p x &&& (q x ^^^ (-1))) → post (f_count, (nI (e + 1)), a_list, a_there, a_above, a_tags, a_values, a_held, a_twin, a_kinds, a_args, a_sizes, a_isPath, R', a_spare, a_isSet, a_alive, a_edited, a_watchNode, a_before)) : ∀ d x R', x + d = 32 → dp_In R e (dp_mx x (fun x => p x &&& (q x ^^^ (-1))) p) R' → wY_two_12 post 4 (nI e) f_count (nI (e + 2)) (d + 1) 0 (nI x) a_list a_there a_above a_tags a_values a_held a_twin a_kinds a_args a_sizes a_isPath R' a_spare a_isSet a_alive a_edited a_watchNode a_before := by
  intro d
  induction d with
  | zero =>
    intro x R' hx H
    obtain rfl : x = 32 := by omega
    exact br_t dp_le32 (br_f (by decide) (nm_r (nI_pred (e + 1)) (h R' (dp_In_32 H).1 (dp_In_32 H).2)))
  | succ d ih =>
    intro x R' hx H
    have e1 : R' (32 * e + x) = p x := by rw [H.2 x (by omega), dp_mx_hi (Nat.le_refl _)]
    have e2 : ∀ y, y < 32 → R' (32 * e + 32 + y) = q y := fun y hy => by rw [dp_In_nx H]; exact hq y hy
    have e0 : R' (32 * e + 32) = q 0 := e2 0 (by omega)
    have t := fun v (hv : v = (fun x => p x &&& (q x ^^^ (-1))) x) => ih (x + 1) _ (by omega) (dp_In_s H (show x < 32 by omega) hv)
    refine br_f (dp_ge32 (by omega)) ?_
    simp only [dp_32m, dp_p32, nI_add, dp_cl256 (show 32 * e + x < 256 by omega), dp_cl256 (show 32 * e + 32 + x < 256 by omega), e1, e2 x (by omega)]
    refine ⟨dp_v256 (by omega), nm_e ⟨dp_v256 (by omega), nm_e ?_⟩⟩
    exact br_f (by decide) (br_f (by decide) (br_t (by trivial) (br_f (by decide) (br_f (by decide) (br_f (by decide) (br_t rfl (yy_two_174 (by omega) (by omega) (t _ rfl))))))))
theorem yy_two4 (he : e < 7) (hp : ∀ y, y < 32 → R (32 * e + y) = p y) (hq : ∀ y, y < 32 → R (32 * e + 32 + y) = q y) {post : SY → Prop} (h : ∀ R', dp_ag R R' e → (∀ x, x < 32 → R' (32 * e + x) = p x &&& (q x ^^^ (-1))) → post (f_count, (nI (e + 1)), a_list, a_there, a_above, a_tags, a_values, a_held, a_twin, a_kinds, a_args, a_sizes, a_isPath, R', a_spare, a_isSet, a_alive, a_edited, a_watchNode, a_before)) : wpY_two post (f_count, (nI (e + 2)), a_list, a_there, a_above, a_tags, a_values, a_held, a_twin, a_kinds, a_args, a_sizes, a_isPath, R, a_spare, a_isSet, a_alive, a_edited, a_watchNode, a_before) 4 := nm_r (by rw [dp_s2 (by omega), Nat.add_sub_cancel]) ⟨33, yy_two4_l he hq h 32 0 R rfl (dp_In_0 hp)⟩
theorem yy_two8_l (he : e < 7) (hq : ∀ y, y < 32 → R (32 * e + 32 + y) = q y) {post : SY → Prop} (h : ∀ R', dp_ag R R' e → (∀ x, x < 32 → R' (32 * e + x) = p x &&& q 0) → post (f_count, (nI (e + 1)), a_list, a_there, a_above, a_tags, a_values, a_held, a_twin, a_kinds, a_args, a_sizes, a_isPath, R', a_spare, a_isSet, a_alive, a_edited, a_watchNode, a_before)) : ∀ d x R', x + d = 32 → dp_In R e (dp_mx x (fun x => p x &&& q 0) p) R' → wY_two_12 post 8 (nI e) f_count (nI (e + 2)) (d + 1) 0 (nI x) a_list a_there a_above a_tags a_values a_held a_twin a_kinds a_args a_sizes a_isPath R' a_spare a_isSet a_alive a_edited a_watchNode a_before := by
  intro d
  induction d with
  | zero =>
    intro x R' hx H
    obtain rfl : x = 32 := by omega
    exact br_t dp_le32 (br_f (by decide) (nm_r (nI_pred (e + 1)) (h R' (dp_In_32 H).1 (dp_In_32 H).2)))
  | succ d ih =>
    intro x R' hx H
    have e1 : R' (32 * e + x) = p x := by rw [H.2 x (by omega), dp_mx_hi (Nat.le_refl _)]
    have e2 : ∀ y, y < 32 → R' (32 * e + 32 + y) = q y := fun y hy => by rw [dp_In_nx H]; exact hq y hy
    have e0 : R' (32 * e + 32) = q 0 := e2 0 (by omega)
    have t := fun v (hv : v = (fun x => p x &&& q 0) x) => ih (x + 1) _ (by omega) (dp_In_s H (show x < 32 by omega) hv)
    refine br_f (dp_ge32 (by omega)) ?_
    simp only [dp_32m, dp_p32, nI_add, dp_cl256 (show 32 * e + x < 256 by omega), dp_cl256 (show 32 * e + 32 + x < 256 by omega), e1, e2 x (by omega)]
    refine ⟨dp_v256 (by omega), nm_e ⟨dp_v256 (by omega), nm_e ?_⟩⟩
    refine br_f (by decide) (br_f (by decide) (br_f (by decide) (br_t rfl ?_)))
    simp only [dp_32m, dp_p32, dp_cl256 (show 32 * e + 32 < 256 by omega), e0]
    exact ⟨dp_v256 (by omega), br_f (by decide) (br_f (by decide) (br_t rfl (yy_two_174 (by omega) (by omega) (t _ rfl))))⟩
theorem yy_two8 (he : e < 7) (hp : ∀ y, y < 32 → R (32 * e + y) = p y) (hq : ∀ y, y < 32 → R (32 * e + 32 + y) = q y) {post : SY → Prop} (h : ∀ R', dp_ag R R' e → (∀ x, x < 32 → R' (32 * e + x) = p x &&& q 0) → post (f_count, (nI (e + 1)), a_list, a_there, a_above, a_tags, a_values, a_held, a_twin, a_kinds, a_args, a_sizes, a_isPath, R', a_spare, a_isSet, a_alive, a_edited, a_watchNode, a_before)) : wpY_two post (f_count, (nI (e + 2)), a_list, a_there, a_above, a_tags, a_values, a_held, a_twin, a_kinds, a_args, a_sizes, a_isPath, R, a_spare, a_isSet, a_alive, a_edited, a_watchNode, a_before) 8 := nm_r (by rw [dp_s2 (by omega), Nat.add_sub_cancel]) ⟨33, yy_two8_l he hq h 32 0 R rfl (dp_In_0 hp)⟩
theorem yy_two13_l (he : e < 7) (hq : ∀ y, y < 32 → R (32 * e + 32 + y) = q y) {post : SY → Prop} (h : ∀ R', dp_ag R R' e → (∀ x, x < 32 → R' (32 * e + x) = p x &&& q x) → post (f_count, (nI (e + 1)), a_list, a_there, a_above, a_tags, a_values, a_held, a_twin, a_kinds, a_args, a_sizes, a_isPath, R', a_spare, a_isSet, a_alive, a_edited, a_watchNode, a_before)) : ∀ d x R', x + d = 32 → dp_In R e (dp_mx x (fun x => p x &&& q x) p) R' → wY_two_12 post 13 (nI e) f_count (nI (e + 2)) (d + 1) 0 (nI x) a_list a_there a_above a_tags a_values a_held a_twin a_kinds a_args a_sizes a_isPath R' a_spare a_isSet a_alive a_edited a_watchNode a_before := by
  intro d
  induction d with
  | zero =>
    intro x R' hx H
    obtain rfl : x = 32 := by omega
    exact br_t dp_le32 (br_f (by decide) (nm_r (nI_pred (e + 1)) (h R' (dp_In_32 H).1 (dp_In_32 H).2)))
  | succ d ih =>
    intro x R' hx H
    have e1 : R' (32 * e + x) = p x := by rw [H.2 x (by omega), dp_mx_hi (Nat.le_refl _)]
    have e2 : ∀ y, y < 32 → R' (32 * e + 32 + y) = q y := fun y hy => by rw [dp_In_nx H]; exact hq y hy
    have e0 : R' (32 * e + 32) = q 0 := e2 0 (by omega)
    have t := fun v (hv : v = (fun x => p x &&& q x) x) => ih (x + 1) _ (by omega) (dp_In_s H (show x < 32 by omega) hv)
    refine br_f (dp_ge32 (by omega)) ?_
    simp only [dp_32m, dp_p32, nI_add, dp_cl256 (show 32 * e + x < 256 by omega), dp_cl256 (show 32 * e + 32 + x < 256 by omega), e1, e2 x (by omega)]
    refine ⟨dp_v256 (by omega), nm_e ⟨dp_v256 (by omega), nm_e ?_⟩⟩
    exact br_f (by decide) (br_t (by trivial) (br_f (by decide) (br_f (by decide) (br_f (by decide) (br_t rfl (yy_two_174 (by omega) (by omega) (t _ rfl)))))))
theorem yy_two13 (he : e < 7) (hp : ∀ y, y < 32 → R (32 * e + y) = p y) (hq : ∀ y, y < 32 → R (32 * e + 32 + y) = q y) {post : SY → Prop} (h : ∀ R', dp_ag R R' e → (∀ x, x < 32 → R' (32 * e + x) = p x &&& q x) → post (f_count, (nI (e + 1)), a_list, a_there, a_above, a_tags, a_values, a_held, a_twin, a_kinds, a_args, a_sizes, a_isPath, R', a_spare, a_isSet, a_alive, a_edited, a_watchNode, a_before)) : wpY_two post (f_count, (nI (e + 2)), a_list, a_there, a_above, a_tags, a_values, a_held, a_twin, a_kinds, a_args, a_sizes, a_isPath, R, a_spare, a_isSet, a_alive, a_edited, a_watchNode, a_before) 13 := nm_r (by rw [dp_s2 (by omega), Nat.add_sub_cancel]) ⟨33, yy_two13_l he hq h 32 0 R rfl (dp_In_0 hp)⟩
theorem yy_two14_l (he : e < 7) (hq : ∀ y, y < 32 → R (32 * e + 32 + y) = q y) {post : SY → Prop} (h : ∀ R', dp_ag R R' e → (∀ x, x < 32 → R' (32 * e + x) = p x ||| q x) → post (f_count, (nI (e + 1)), a_list, a_there, a_above, a_tags, a_values, a_held, a_twin, a_kinds, a_args, a_sizes, a_isPath, R', a_spare, a_isSet, a_alive, a_edited, a_watchNode, a_before)) : ∀ d x R', x + d = 32 → dp_In R e (dp_mx x (fun x => p x ||| q x) p) R' → wY_two_12 post 14 (nI e) f_count (nI (e + 2)) (d + 1) 0 (nI x) a_list a_there a_above a_tags a_values a_held a_twin a_kinds a_args a_sizes a_isPath R' a_spare a_isSet a_alive a_edited a_watchNode a_before := by
  intro d
  induction d with
  | zero =>
    intro x R' hx H
    obtain rfl : x = 32 := by omega
    exact br_t dp_le32 (br_f (by decide) (nm_r (nI_pred (e + 1)) (h R' (dp_In_32 H).1 (dp_In_32 H).2)))
  | succ d ih =>
    intro x R' hx H
    have e1 : R' (32 * e + x) = p x := by rw [H.2 x (by omega), dp_mx_hi (Nat.le_refl _)]
    have e2 : ∀ y, y < 32 → R' (32 * e + 32 + y) = q y := fun y hy => by rw [dp_In_nx H]; exact hq y hy
    have e0 : R' (32 * e + 32) = q 0 := e2 0 (by omega)
    have t := fun v (hv : v = (fun x => p x ||| q x) x) => ih (x + 1) _ (by omega) (dp_In_s H (show x < 32 by omega) hv)
    refine br_f (dp_ge32 (by omega)) ?_
    simp only [dp_32m, dp_p32, nI_add, dp_cl256 (show 32 * e + x < 256 by omega), dp_cl256 (show 32 * e + 32 + x < 256 by omega), e1, e2 x (by omega)]
    refine ⟨dp_v256 (by omega), nm_e ⟨dp_v256 (by omega), nm_e ?_⟩⟩
    exact br_f (by decide) (br_f (by decide) (br_f (by decide) (br_f (by decide) (br_f (by decide) (br_f (by decide) (br_t rfl (yy_two_174 (by omega) (by omega) (t _ rfl))))))))
theorem yy_two14 (he : e < 7) (hp : ∀ y, y < 32 → R (32 * e + y) = p y) (hq : ∀ y, y < 32 → R (32 * e + 32 + y) = q y) {post : SY → Prop} (h : ∀ R', dp_ag R R' e → (∀ x, x < 32 → R' (32 * e + x) = p x ||| q x) → post (f_count, (nI (e + 1)), a_list, a_there, a_above, a_tags, a_values, a_held, a_twin, a_kinds, a_args, a_sizes, a_isPath, R', a_spare, a_isSet, a_alive, a_edited, a_watchNode, a_before)) : wpY_two post (f_count, (nI (e + 2)), a_list, a_there, a_above, a_tags, a_values, a_held, a_twin, a_kinds, a_args, a_sizes, a_isPath, R, a_spare, a_isSet, a_alive, a_edited, a_watchNode, a_before) 14 := nm_r (by rw [dp_s2 (by omega), Nat.add_sub_cancel]) ⟨33, yy_two14_l he hq h 32 0 R rfl (dp_In_0 hp)⟩
theorem yy_two15_l (he : e < 7) (hq : ∀ y, y < 32 → R (32 * e + 32 + y) = q y) {post : SY → Prop} (h : ∀ R', dp_ag R R' e → wY_two_12 post 15 (nI e) f_count (nI (e + 2)) 1 (dp_mk (fun x => dp_mt a_values (p x) (q x)) 32) (nI 32) a_list a_there a_above a_tags a_values a_held a_twin a_kinds a_args a_sizes a_isPath R' a_spare a_isSet a_alive a_edited a_watchNode a_before) : ∀ d x R', x + d = 32 → dp_In R e (dp_mx x (fun x => p x ||| q x) p) R' → wY_two_12 post 15 (nI e) f_count (nI (e + 2)) (d + 1) (dp_mk (fun x => dp_mt a_values (p x) (q x)) x) (nI x) a_list a_there a_above a_tags a_values a_held a_twin a_kinds a_args a_sizes a_isPath R' a_spare a_isSet a_alive a_edited a_watchNode a_before := by
  intro d
  induction d with
  | zero =>
    intro x R' hx H
    obtain rfl : x = 32 := by omega
    exact h R' H.1
  | succ d ih =>
    intro x R' hx H
    have e1 : R' (32 * e + x) = p x := by rw [H.2 x (by omega), dp_mx_hi (Nat.le_refl _)]
    have e2 : ∀ y, y < 32 → R' (32 * e + 32 + y) = q y := fun y hy => by rw [dp_In_nx H]; exact hq y hy
    have t := ih (x + 1) _ (by omega) (dp_In_s H (show x < 32 by omega) (v := p x ||| q x) rfl)
    refine br_f (dp_ge32 (by omega)) ?_
    simp only [dp_32m, dp_p32, nI_add, dp_cl256 (show 32 * e + x < 256 by omega), dp_cl256 (show 32 * e + 32 + x < 256 by omega), e1, e2 x (by omega)]
    refine ⟨dp_v256 (by omega), nm_e ⟨dp_v256 (by omega), nm_e (br_f (by decide) (br_f (by decide) (br_f (by decide) (br_f (by decide) (br_f (by decide) (br_t rfl (yy_match ?_)))))))⟩⟩
    by_cases z : dp_mt a_values (p x) (q x) = true
    · rw [dp_mk_t (P := fun x => dp_mt a_values (p x) (q x)) z] at t
      rw [z]
      exact br_f (by decide) (br_f (by decide) (yy_two_174 (by omega) (by omega) t))
    · rw [dp_mk_f (P := fun x => dp_mt a_values (p x) (q x)) z] at t
      rw [Bool.eq_false_iff.mpr z]
      exact br_t rfl (br_t rfl (yy_two_174 (by omega) (by omega) t))
theorem yy_two15 (he : e < 7) (hp : ∀ y, y < 32 → R (32 * e + y) = p y) (hq : ∀ y, y < 32 → R (32 * e + 32 + y) = q y) {post : SY → Prop} (h : ∀ R', dp_ag R R' e → (∀ x, x < 32 → R' (32 * e + x) = dp_c0 (dp_mk (fun x => dp_mt a_values (p x) (q x)) 32) x) → post (f_count, (nI (e + 1)), a_list, a_there, a_above, a_tags, a_values, a_held, a_twin, a_kinds, a_args, a_sizes, (upd a_isPath e 0), R', a_spare, a_isSet, a_alive, a_edited, a_watchNode, a_before)) : wpY_two post (f_count, (nI (e + 2)), a_list, a_there, a_above, a_tags, a_values, a_held, a_twin, a_kinds, a_args, a_sizes, a_isPath, R, a_spare, a_isSet, a_alive, a_edited, a_watchNode, a_before) 15 := by
  refine nm_r (by rw [dp_s2 (by omega), Nat.add_sub_cancel]) ⟨33, yy_two15_l he hq (fun R' ag => br_t dp_le32 (br_t rfl (yy_makeCondition (by omega) (fun R2 ag2 H => nm_r (nI_pred (e + 1)) (h R2 (dp_ag_trans ag ag2) H))))) 32 0 R rfl (dp_In_0 hp)⟩
end YN
