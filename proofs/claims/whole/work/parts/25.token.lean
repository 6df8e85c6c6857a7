/-! a token is put on the query -/
def dp_nb (k : Nat) (a : Int32) : Bool :=
  if k = 0 then decide (¬ a < 0 ∧ ¬ 8 < a) else if k = 7 then decide (¬ a < -9 ∧ ¬ 9 < a ∧ ¬ a = 0) else if k = 9 then decide (¬ a < 0 ∧ ¬ 7 < a) else if k = 10 then decide (¬ a < -99 ∧ ¬ 99 < a) else if k = 11 then decide (¬ a < 1 ∧ ¬ 9 < a) else true
theorem dp_nb_ok {k : Nat} {a : Int32} (hk : k ≤ 15) (h : dp_nb k a = true) : dp_ok k a := by
  refine ⟨hk, fun z => ?_, fun z => ?_⟩
  · subst z
    exact (of_decide_eq_true (show decide (¬ a < -9 ∧ ¬ 9 < a ∧ ¬ a = 0) = true from h)).2.2
  · subst z
    exact Int32.not_lt.mp (of_decide_eq_true (show decide (¬ a < 1 ∧ ¬ 9 < a) = true from h)).1
theorem dp_w2 {A B : Prop} [Decidable A] [Decidable B] {post : Int32 → Prop} (h : post (dp_c (decide (¬ A ∧ ¬ B)))) : (A → post 0) ∧ (¬ A → ((B → post 0) ∧ (¬ B → post 1))) := by
  by_cases a : A
  · rw [dp_c_f (decide_eq_false (fun z => z.1 a))] at h; exact br_t a h
  · by_cases b : B
    · rw [dp_c_f (decide_eq_false (fun z => z.2 b))] at h; exact br_f a (br_t b h)
    · rw [dp_c_t (decide_eq_true ⟨a, b⟩)] at h; exact br_f a (br_f b h)
theorem dp_w3 {A B C : Prop} [Decidable A] [Decidable B] [Decidable C] {post : Int32 → Prop} (h : post (dp_c (decide (¬ A ∧ ¬ B ∧ ¬ C)))) : (A → post 0) ∧ (¬ A → ((B → post 0) ∧ (¬ B → ((C → post 0) ∧ (¬ C → post 1))))) := by
  by_cases a : A
  · rw [dp_c_f (decide_eq_false (fun z => z.1 a))] at h; exact br_t a h
  · by_cases b : B
    · rw [dp_c_f (decide_eq_false (fun z => z.2.1 b))] at h; exact br_f a (br_t b h)
    · by_cases c : C
      · rw [dp_c_f (decide_eq_false (fun z => z.2.2 c))] at h; exact br_f a (br_f b (br_t c h))
      · rw [dp_c_t (decide_eq_true ⟨a, b, c⟩)] at h; exact br_f a (br_f b (br_f c h))
theorem xx_isNumberFor {k : Nat} {a : Int32} (hk : k ≤ 15) {post : Int32 → Prop} (h : post (dp_c (dp_nb k a))) : wpX_isNumberFor post (nI k) a := by
  rcases dp_cases hk with rfl | rfl | rfl | rfl | rfl | rfl | rfl | rfl | rfl | rfl | rfl | rfl | rfl | rfl | rfl | rfl
  · exact br_f (by decide) (br_f (by decide) (br_t rfl (dp_w2 h)))
  · exact br_f (by decide) (br_f (by decide) (br_f (by decide) (br_t rfl (h))))
  · exact br_f (by decide) (br_f (by decide) (br_f (by decide) (br_f (by decide) (br_t rfl (h)))))
  · exact br_f (by decide) (br_f (by decide) (br_f (by decide) (br_f (by decide) (br_f (by decide) (br_t rfl (h))))))
  · exact br_f (by decide) (br_f (by decide) (br_f (by decide) (br_f (by decide) (br_f (by decide) (br_f (by decide) (br_t rfl (h)))))))
  · exact br_f (by decide) (br_f (by decide) (br_f (by decide) (br_f (by decide) (br_f (by decide) (br_f (by decide) (br_f (by decide) (br_t rfl (h))))))))
  · exact br_f (by decide) (br_f (by decide) (br_f (by decide) (br_f (by decide) (br_f (by decide) (br_f (by decide) (br_f (by decide) (br_f (by decide) (br_t rfl (h)))))))))
  · exact br_f (by decide) (br_f (by decide) (br_f (by decide) (br_f (by decide) (br_f (by decide) (br_f (by decide) (br_f (by decide) (br_f (by decide) (br_f (by decide) (br_t rfl (dp_w3 h))))))))))
  · exact br_f (by decide) (br_f (by decide) (br_f (by decide) (br_f (by decide) (br_f (by decide) (br_f (by decide) (br_f (by decide) (br_f (by decide) (br_f (by decide) (br_f (by decide) (br_t rfl (h)))))))))))
  · exact br_f (by decide) (br_f (by decide) (br_f (by decide) (br_f (by decide) (br_f (by decide) (br_f (by decide) (br_f (by decide) (br_f (by decide) (br_f (by decide) (br_f (by decide) (br_f (by decide) (br_t rfl (dp_w2 h))))))))))))
  · exact br_f (by decide) (br_f (by decide) (br_f (by decide) (br_f (by decide) (br_f (by decide) (br_f (by decide) (br_f (by decide) (br_f (by decide) (br_f (by decide) (br_f (by decide) (br_f (by decide) (br_f (by decide) (br_t rfl (dp_w2 h)))))))))))))
  · exact br_f (by decide) (br_f (by decide) (br_f (by decide) (br_f (by decide) (br_f (by decide) (br_f (by decide) (br_f (by decide) (br_f (by decide) (br_f (by decide) (br_f (by decide) (br_f (by decide) (br_f (by decide) (br_f (by decide) (br_t rfl (dp_w2 h))))))))))))))
  · exact br_f (by decide) (br_t (by decide) h)
  · exact br_f (by decide) (br_t (by decide) h)
  · exact br_f (by decide) (br_t (by decide) h)
  · exact br_f (by decide) (br_t (by decide) h)
section YF
variable {f_count f_height : Int32} {a_list a_there a_above a_tags a_values a_held a_twin a_kinds a_args a_sizes a_isPath a_rows a_spare a_isSet a_alive a_edited a_watchNode a_before : Nat → Int32}
theorem yy_fits {k : Nat} {a : Int32} (hk : k ≤ 15) {post : Int32 → Prop} (h : post (dp_c (dp_nb k a))) : wpY_fits post (f_count, f_height, a_list, a_there, a_above, a_tags, a_values, a_held, a_twin, a_kinds, a_args, a_sizes, a_isPath, a_rows, a_spare, a_isSet, a_alive, a_edited, a_watchNode, a_before) (nI k) a := by
  rcases dp_cases hk with rfl | rfl | rfl | rfl | rfl | rfl | rfl | rfl | rfl | rfl | rfl | rfl | rfl | rfl | rfl | rfl
  · exact br_t rfl (dp_w2 h)
  · exact br_f (by decide) (br_f (by decide) (br_f (by decide) (br_f (by decide) (br_f (by decide) (h)))))
  · exact br_f (by decide) (br_f (by decide) (br_f (by decide) (br_f (by decide) (br_f (by decide) (h)))))
  · exact br_f (by decide) (br_f (by decide) (br_f (by decide) (br_f (by decide) (br_f (by decide) (h)))))
  · exact br_f (by decide) (br_f (by decide) (br_f (by decide) (br_f (by decide) (br_f (by decide) (h)))))
  · exact br_f (by decide) (br_f (by decide) (br_f (by decide) (br_f (by decide) (br_f (by decide) (h)))))
  · exact br_f (by decide) (br_f (by decide) (br_f (by decide) (br_f (by decide) (br_f (by decide) (h)))))
  · exact br_f (by decide) (br_t rfl (dp_w3 h))
  · exact br_f (by decide) (br_f (by decide) (br_f (by decide) (br_f (by decide) (br_f (by decide) (h)))))
  · exact br_f (by decide) (br_f (by decide) (br_t rfl (dp_w2 h)))
  · exact br_f (by decide) (br_f (by decide) (br_f (by decide) (br_t rfl (dp_w2 h))))
  · exact br_f (by decide) (br_f (by decide) (br_f (by decide) (br_f (by decide) (br_t rfl (dp_w2 h)))))
  · exact br_f (by decide) (br_f (by decide) (br_f (by decide) (br_f (by decide) (br_f (by decide) (h)))))
  · exact br_f (by decide) (br_f (by decide) (br_f (by decide) (br_f (by decide) (br_f (by decide) (h)))))
  · exact br_f (by decide) (br_f (by decide) (br_f (by decide) (br_f (by decide) (br_f (by decide) (h)))))
  · exact br_f (by decide) (br_f (by decide) (br_f (by decide) (br_f (by decide) (br_f (by decide) (h)))))
theorem yy_finds {k h : Nat} {F : Nat → Bool} (hk : k ≤ 15) (h8 : h ≤ 8) (hF : ∀ e, e < h → a_isPath e = dp_c (F e)) {post : Int32 → Prop} (h1 : dp_ft h F k → post 1) (h0 : ¬ dp_ft h F k → post 0) : wpY_finds post (f_count, (nI h), a_list, a_there, a_above, a_tags, a_values, a_held, a_twin, a_kinds, a_args, a_sizes, a_isPath, a_rows, a_spare, a_isSet, a_alive, a_edited, a_watchNode, a_before) (nI k) := by
  have nb : ∀ b : Bool, post (dp_c b) → narrow .boolean (.int (dp_c b)) = .int (dp_c b) ∧ post (dp_c b) := fun b h => ⟨by cases b <;> rfl, h⟩
  have one : ∀ b : Bool, dp_tk k = 1 → dp_tp k = b → post (dp_c (decide (1 ≤ h ∧ F (h - 1) = b))) := fun b t e => by
    by_cases z : 1 ≤ h ∧ F (h - 1) = b
    · rw [dp_c_t (decide_eq_true z)]
      exact h1 ⟨by omega, fun _ => by rw [e]; exact z.2, fun q => absurd (t.symm.trans q) (by decide)⟩
    · rw [dp_c_f (decide_eq_false z)]
      exact h0 (fun q => z ⟨by have := q.1; omega, by rw [← e]; exact q.2.1 (by omega)⟩)
  have two : ∀ b b' : Bool, dp_tk k = 2 → dp_tp k = b → dp_bp k = b' → wpY_has (fun r => (r = 0 → post 0) ∧ (¬ r = 0 → wpY_has (fun r => (r = 0 → post 0) ∧ (¬ r = 0 → post 1)) (f_count, (nI h), a_list, a_there, a_above, a_tags, a_values, a_held, a_twin, a_kinds, a_args, a_sizes, a_isPath, a_rows, a_spare, a_isSet, a_alive, a_edited, a_watchNode, a_before) 2 (dp_c b'))) (f_count, (nI h), a_list, a_there, a_above, a_tags, a_values, a_held, a_twin, a_kinds, a_args, a_sizes, a_isPath, a_rows, a_spare, a_isSet, a_alive, a_edited, a_watchNode, a_before) 1 (dp_c b) := fun b b' t e e' => by
    refine yy_has (j := 1) h8 (by decide) (by decide) hF ?_
    by_cases z : 1 ≤ h ∧ F (h - 1) = b
    · rw [dp_c_t (decide_eq_true z)]
      refine br_f (by decide) (yy_has (j := 2) h8 (by decide) (by decide) hF ?_)
      by_cases y : 2 ≤ h ∧ F (h - 2) = b'
      · rw [dp_c_t (decide_eq_true y)]
        exact br_f (by decide) (h1 ⟨by omega, fun _ => by rw [e]; exact z.2, fun _ => by rw [e']; exact y.2⟩)
      · rw [dp_c_f (decide_eq_false y)]
        exact br_t rfl (h0 (fun q => y ⟨by have := q.1; omega, by rw [← e']; exact q.2.2 t⟩))
    · rw [dp_c_f (decide_eq_false z)]
      exact br_t rfl (h0 (fun q => z ⟨by have := q.1; omega, by rw [← e]; exact q.2.1 (by omega)⟩))
  have one' : ∀ b : Bool, dp_tk k = 1 → dp_tp k = b → wpY_has (fun r => narrow .boolean (.int r) = .int r ∧ post r) (f_count, (nI h), a_list, a_there, a_above, a_tags, a_values, a_held, a_twin, a_kinds, a_args, a_sizes, a_isPath, a_rows, a_spare, a_isSet, a_alive, a_edited, a_watchNode, a_before) 1 (dp_c b) := fun b t e => yy_has (j := 1) h8 (by decide) (by decide) hF (nb _ (one b t e))
  unfold wpY_finds
  refine yy_isBare hk ?_
  rcases dp_cases hk with rfl | rfl | rfl | rfl | rfl | rfl | rfl | rfl | rfl | rfl | rfl | rfl | rfl | rfl | rfl | rfl
  · exact br_f (by decide) (h1 ⟨Nat.zero_le _, fun z => absurd z (by decide), fun z => absurd z (by decide)⟩)
  · exact br_t rfl (br_f (by decide) (br_f (by decide) (br_f (by decide) (br_f (by decide) (br_f (by decide) (br_f (by decide) (br_f (by decide) (br_f (by decide) (two true true rfl rfl rfl)))))))))
  · exact br_t rfl (br_f (by decide) (br_f (by decide) (br_f (by decide) (br_f (by decide) (br_f (by decide) (br_f (by decide) (br_f (by decide) (br_f (by decide) (two true true rfl rfl rfl)))))))))
  · exact br_t rfl (br_f (by decide) (br_f (by decide) (br_f (by decide) (br_f (by decide) (br_f (by decide) (br_f (by decide) (br_f (by decide) (br_f (by decide) (two true true rfl rfl rfl)))))))))
  · exact br_t rfl (br_f (by decide) (br_f (by decide) (br_f (by decide) (br_f (by decide) (br_f (by decide) (br_f (by decide) (br_f (by decide) (br_f (by decide) (two true true rfl rfl rfl)))))))))
  · exact br_t rfl (br_f (by decide) (br_f (by decide) (br_f (by decide) (br_f (by decide) (br_t rfl (one' true rfl rfl))))))
  · exact br_t rfl (br_f (by decide) (br_f (by decide) (br_f (by decide) (br_f (by decide) (br_f (by decide) (br_t rfl (one' true rfl rfl)))))))
  · exact br_t rfl (br_f (by decide) (br_f (by decide) (br_f (by decide) (br_f (by decide) (br_f (by decide) (br_f (by decide) (br_t rfl (one' true rfl rfl))))))))
  · exact br_t rfl (br_f (by decide) (br_f (by decide) (br_f (by decide) (br_t rfl (two false true rfl rfl rfl)))))
  · exact br_f (by decide) (h1 ⟨Nat.zero_le _, fun z => absurd z (by decide), fun z => absurd z (by decide)⟩)
  · exact br_f (by decide) (h1 ⟨Nat.zero_le _, fun z => absurd z (by decide), fun z => absurd z (by decide)⟩)
  · exact br_t rfl (br_f (by decide) (br_f (by decide) (br_f (by decide) (br_f (by decide) (br_f (by decide) (br_f (by decide) (br_f (by decide) (br_t rfl (one' true rfl rfl)))))))))
  · exact br_t rfl (br_t rfl (one' false rfl rfl))
  · exact br_t rfl (br_f (by decide) (br_t rfl (two false false rfl rfl rfl)))
  · exact br_t rfl (br_f (by decide) (br_f (by decide) (br_t rfl (two false false rfl rfl rfl))))
  · exact br_t rfl (br_f (by decide) (br_f (by decide) (br_f (by decide) (br_f (by decide) (br_f (by decide) (br_f (by decide) (br_f (by decide) (br_f (by decide) (two true true rfl rfl rfl)))))))))
end YF
section XF
variable {f_size f_present f_height : Int32} {a_order a_levels a_tags a_values a_ranks a_ends a_parents a_run a_kinds a_numbers a_lengths a_entryIsPath a_rows a_members a_wasSet a_watchNode a_selects a_selectedBefore : Nat → Int32}
theorem xx_onTop {k : Nat} (hk : k ≤ 15) {post : Int32 → Prop} (h : post (dp_c (dp_tp k))) : wpX_takesPathOnTop post (nI k) := by
  rcases dp_cases hk with rfl | rfl | rfl | rfl | rfl | rfl | rfl | rfl | rfl | rfl | rfl | rfl | rfl | rfl | rfl | rfl
  · exact br_f (by decide) (br_f (by decide) (br_f (by decide) (br_f (by decide) (h))))
  · exact br_f (by decide) (br_f (by decide) (br_f (by decide) (br_f (by decide) (h))))
  · exact br_f (by decide) (br_f (by decide) (br_f (by decide) (br_f (by decide) (h))))
  · exact br_f (by decide) (br_f (by decide) (br_f (by decide) (br_f (by decide) (h))))
  · exact br_f (by decide) (br_f (by decide) (br_f (by decide) (br_f (by decide) (h))))
  · exact br_f (by decide) (br_f (by decide) (br_f (by decide) (br_f (by decide) (h))))
  · exact br_f (by decide) (br_f (by decide) (br_f (by decide) (br_f (by decide) (h))))
  · exact br_f (by decide) (br_f (by decide) (br_f (by decide) (br_f (by decide) (h))))
  · exact br_t rfl h
  · exact br_f (by decide) (br_f (by decide) (br_f (by decide) (br_f (by decide) (h))))
  · exact br_f (by decide) (br_f (by decide) (br_f (by decide) (br_f (by decide) (h))))
  · exact br_f (by decide) (br_f (by decide) (br_f (by decide) (br_f (by decide) (h))))
  · exact br_f (by decide) (br_t rfl h)
  · exact br_f (by decide) (br_f (by decide) (br_t rfl h))
  · exact br_f (by decide) (br_f (by decide) (br_f (by decide) (br_t rfl h)))
  · exact br_f (by decide) (br_f (by decide) (br_f (by decide) (br_f (by decide) (h))))
theorem xx_below {k : Nat} (hk : k ≤ 15) {post : Int32 → Prop} (h : post (dp_c (dp_bp k))) : wpX_takesPathBelowTop post (nI k) := by
  rcases dp_cases hk with rfl | rfl | rfl | rfl | rfl | rfl | rfl | rfl | rfl | rfl | rfl | rfl | rfl | rfl | rfl | rfl
  · exact br_f (by decide) (br_f (by decide) (h))
  · exact br_f (by decide) (br_f (by decide) (h))
  · exact br_f (by decide) (br_f (by decide) (h))
  · exact br_f (by decide) (br_f (by decide) (h))
  · exact br_f (by decide) (br_f (by decide) (h))
  · exact br_f (by decide) (br_f (by decide) (h))
  · exact br_f (by decide) (br_f (by decide) (h))
  · exact br_f (by decide) (br_f (by decide) (h))
  · exact br_f (by decide) (br_f (by decide) (h))
  · exact br_f (by decide) (br_f (by decide) (h))
  · exact br_f (by decide) (br_f (by decide) (h))
  · exact br_f (by decide) (br_f (by decide) (h))
  · exact br_f (by decide) (br_f (by decide) (h))
  · exact br_t rfl h
  · exact br_f (by decide) (br_t rfl h)
  · exact br_f (by decide) (br_f (by decide) (h))
theorem dp_c_inj {b b' : Bool} (h : dp_c b = dp_c b') : b = b' := by
  revert h
  cases b <;> cases b' <;> decide
theorem dp_tk2 (k : Nat) : dp_tk k ≤ 2 := by
  unfold dp_tk
  split
  · omega
  · split <;> omega
theorem xx_fitsOnTop {k h : Nat} {F : Nat → Bool} (hk : k ≤ 15) (h8 : h ≤ 8) (hF : ∀ e, e < h → a_entryIsPath e = dp_c (F e)) {post : Int32 → Prop} (h1 : dp_ft h F k → post 1) (h0 : ¬ dp_ft h F k → post 0) : wpX_fitsOnTop post (f_size, f_present, (nI h), a_order, a_levels, a_tags, a_values, a_ranks, a_ends, a_parents, a_run, a_kinds, a_numbers, a_lengths, a_entryIsPath, a_rows, a_members, a_wasSet, a_watchNode, a_selects, a_selectedBefore) (nI k) := by
  have t2 := dp_tk2 k
  unfold wpX_fitsOnTop
  refine xx_countTaken hk ?_
  have bl : dp_tk k ≤ h → (0 < dp_tk k → F (h - 1) = dp_tp k) → wX_fitsOnTop_39 post (nI k) (nI (dp_tk k)) f_size f_present (nI h) a_order a_levels a_tags a_values a_ranks a_ends a_parents a_run a_kinds a_numbers a_lengths a_entryIsPath a_rows a_members a_wasSet a_watchNode a_selects a_selectedBefore := fun z1 z2 => by
    rcases Nat.lt_or_ge (dp_tk k) 2 with z | z
    · exact br_t (nI_lt (b := 2) z (by decide)) (h1 ⟨z1, z2, fun q => absurd q (by omega)⟩)
    · refine br_f (nI_nlt (b := 2) z (by omega)) ?_
      rw [dp_s2 (by omega)]
      refine ⟨dp_v8 (by omega), xx_below hk ?_⟩
      rw [nI_clamp (show h - 2 < 2 ^ 31 by omega), hF _ (by omega)]
      by_cases y : F (h - 2) = dp_bp k
      · exact br_t (by rw [y]) (h1 ⟨z1, z2, fun _ => y⟩)
      · exact br_f (fun w => y (dp_c_inj w)) (h0 (fun q => y (q.2.2 (by omega))))
  by_cases z : dp_tk k ≤ h
  · refine br_t (nI_le z (by omega)) ?_
    rcases Nat.eq_zero_or_pos (dp_tk k) with y | y
    · refine br_t (nI_le (b := 0) (by omega) (by decide)) (bl z (fun q => by omega))
    · refine br_f (nI_nle y (by omega)) ?_
      rw [dp_s1 (by omega)]
      refine ⟨dp_v8 (by omega), xx_onTop hk ?_⟩
      rw [nI_clamp (show h - 1 < 2 ^ 31 by omega), hF _ (by omega)]
      by_cases x : F (h - 1) = dp_tp k
      · exact br_t (by rw [x]) (bl z (fun _ => x))
      · exact br_f (fun w => x (dp_c_inj w)) (h0 (fun q => x (q.2.1 y)))
  · exact br_f (nI_ge (by omega) (by omega)) (h0 (fun q => z q.1))
end XF
