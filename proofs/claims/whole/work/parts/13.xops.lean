/-! the component's work on entries -/
theorem dp_p32 (a : Nat) : nI a + 32 = nI (a + 32) := nI_add a 32
theorem dp_v256 {n : Nat} (h : n < 256) : vp_in (nI n) 256 := vp_in_nI h (by decide)
theorem dp_cl256 {n : Nat} (h : n < 256) : (nI n).toNatClampNeg = n := nI_clamp (by omega)
theorem dp_v8 {n : Nat} (h : n < 8) : vp_in (nI n) 8 := vp_in_nI h (by decide)
theorem dp_fc_add (P : Nat → Bool) (i : Nat) : nI (dp_fc P i) + dp_c (P i) = nI (dp_fc P (i + 1)) := by
  cases e : P i
  · rw [dp_fc_f e]; exact (nI_add (dp_fc P i) 0)
  · rw [dp_fc_t e]; exact nI_1 _
theorem xx_countBits_l {w : Int32} {post : Int32 → Prop} (h : post (nI (dp_fc (bt w) 32))) : ∀ d i, i + d = 32 → wX_countBits_4 post w (d + 1) (nI (dp_fc (bt w) i)) (nI i) := by
  intro d
  induction d with
  | zero =>
    intro i hi
    obtain rfl : i = 32 := by omega
    exact br_t dp_le32 h
  | succ d ih =>
    intro i hi
    refine br_f (dp_ge32 (by omega)) (nm_r ?_ (nm_r (nI_1 i) (ih (i + 1) (by omega))))
    rw [dp_xb w (by omega), dp_fc_add]
theorem xx_countBits {w : Int32} {post : Int32 → Prop} (h : post (nI (dp_fc (bt w) 32))) : wpX_countBits post w := ⟨_, xx_countBits_l h 32 0 rfl⟩
section XO
variable {f_size f_present f_height : Int32} {a_order a_levels a_tags a_values a_ranks a_ends a_parents a_run a_kinds a_numbers a_lengths a_entryIsPath a_rows a_members a_wasSet a_watchNode a_selects a_selectedBefore : Nat → Int32} {c : Nat} {o lv : Nat → Nat} {pr : Int32} {tg vs : Nat → Int32}
theorem xx_pick_l (ho : ∀ r, o r < 32) (hc : c ≤ 32) {w k : Int32} {post : Int32 → Prop} (h : post (dp_an o (-1) (dp_fk (fun i => bt w (o i)) k c))) : ∀ d i, i + d = c → dp_fk (fun i => bt w (o i)) k i = none → wX_pick_5 post w k (nI c) f_present f_height (fun j => nI (o j)) (fun j => nI (lv j)) a_tags a_values a_ranks a_ends a_parents a_run a_kinds a_numbers a_lengths a_entryIsPath a_rows a_members a_wasSet a_watchNode a_selects a_selectedBefore (d + 1) (nI (dp_fc (fun i => bt w (o i)) i)) (nI i) := by
  intro d
  induction d with
  | zero =>
    intro i hi hn
    obtain rfl : i = c := by omega
    rw [hn] at h
    exact br_t (nI_le (Nat.le_refl _) (by omega)) h
  | succ d ih =>
    intro i hi hn
    refine br_f (nI_ge (by omega) (by omega)) ⟨dp_v32 (by omega), ?_⟩
    simp only [dp_cl32 (show i < 32 by omega), dp_xb w (ho i)]
    cases e : bt w (o i)
    · refine br_f (by decide) (nm_r (nI_1 i) ?_)
      have := ih (i + 1) (by omega) (dp_fk_miss hn (fun z => by rw [e] at z; exact absurd z.1 (by decide)))
      rw [dp_fc_f (P := fun i => bt w (o i)) e] at this; exact this
    · refine br_t rfl ?_
      by_cases z : nI (dp_fc (fun i => bt w (o i)) i) = k
      · refine br_t z ⟨dp_v32 (by omega), ?_⟩
        rw [dp_fk_up (dp_fk_hit (P := fun i => bt w (o i)) hn e z) (show i + 1 ≤ c by omega)] at h
        exact h
      · refine br_f z (nm_r (nI_1 _) (nm_r (nI_1 i) ?_))
        have := ih (i + 1) (by omega) (dp_fk_miss hn (fun w => z w.2))
        rw [dp_fc_t (P := fun i => bt w (o i)) e] at this; exact this
theorem xx_pick (ho : ∀ r, o r < 32) (hc : c ≤ 32) {w k : Int32} {post : Int32 → Prop} (h : post (dp_an o (-1) (dp_fk (fun i => bt w (o i)) k c))) : wpX_pick post ((nI c), f_present, f_height, (fun j => nI (o j)), (fun j => nI (lv j)), a_tags, a_values, a_ranks, a_ends, a_parents, a_run, a_kinds, a_numbers, a_lengths, a_entryIsPath, a_rows, a_members, a_wasSet, a_watchNode, a_selects, a_selectedBefore) w k := ⟨_, xx_pick_l ho hc h c 0 (Nat.zero_add c) rfl⟩
theorem xx_isOnAxis (T : dp_Tc c o lv) (X : dp_TX c o (fun r => lv (o r)) a_ranks a_ends a_parents) {a : Int32} {i j : Nat} (hi : i < c) (hj : j < c) {post : Int32 → Prop} (h : post (dp_c (dp_ax (fun r => lv (o r)) c a i j))) : wpX_isOnAxis post ((nI c), f_present, f_height, (fun j => nI (o j)), (fun j => nI (lv j)), a_tags, a_values, a_ranks, a_ends, a_parents, a_run, a_kinds, a_numbers, a_lengths, a_entryIsPath, a_rows, a_members, a_wasSet, a_watchNode, a_selects, a_selectedBefore) a (nI (o i)) (nI (o j)) := by
  have t1 := T.1
  have t3 := T.2.2.1
  have ei := (dp_en_spec (fun r => lv (o r)) hi).2.1
  have ej := (dp_en_spec (fun r => lv (o r)) hj).2.1
  have vi := dp_v32 (t3 i)
  have vj := dp_v32 (t3 j)
  have oi := t3 i
  have oj := t3 j
  have inj : nI (o j) = nI (o i) ↔ j = i := ⟨fun e => T.2.2.2.1 _ _ hj hi (dp_inj (by omega) (by omega) e), fun e => by rw [e]⟩
  have ask1 := dp_ask T X.2 hi hj
  have ask2 := dp_ask T X.2 hj hi
  have fam : a_parents (o i) = a_parents (o j) ↔ (i = 0 ∧ j = 0) ∨ (0 < i ∧ 0 < j ∧ dp_pa (fun r => lv (o r)) i = dp_pa (fun r => lv (o r)) j) := by
    have oi' := t3 (dp_pa (fun r => lv (o r)) i)
    have oj' := t3 (dp_pa (fun r => lv (o r)) j)
    rw [X.2 i hi, X.2 j hj]
    by_cases zi : i = 0 <;> by_cases zj : j = 0
    · rw [if_pos zi, if_pos zj]; exact ⟨fun _ => Or.inl ⟨zi, zj⟩, fun _ => rfl⟩
    · rw [if_pos zi, if_neg zj]; exact ⟨fun e => absurd e.symm (dp_nle1 (by omega)), fun e => by omega⟩
    · rw [if_neg zi, if_pos zj]; exact ⟨fun e => absurd e (dp_nle1 (by omega)), fun e => by omega⟩
    · have pi := dp_wf_pl T.2.2.2.2 (show 0 < i by omega) hi
      have pj := dp_wf_pl T.2.2.2.2 (show 0 < j by omega) hj
      rw [if_neg zi, if_neg zj]
      exact ⟨fun e => Or.inr ⟨by omega, by omega, T.2.2.2.1 _ _ (by omega) (by omega) (dp_inj (by omega) (by omega) e)⟩, fun e => by
        rcases e with e | e
        · omega
        · rw [e.2.2]⟩
  simp only [wpX_isOnAxis, dp_cl32 oi, dp_cl32 oj, (X.1 i hi).1, (X.1 i hi).2, (X.1 j hj).1, (X.1 j hj).2, inj, ask1, ask2, fam, vi, vj, true_and]
  have df : a ≠ 0 → a ≠ 1 → a ≠ 2 → a ≠ 3 → a ≠ 4 → a ≠ 5 → a ≠ 6 → a ≠ 7 → ((nI i < nI (dp_en (fun r => lv (o r)) c j) → post 0) ∧ (¬ nI i < nI (dp_en (fun r => lv (o r)) c j) → post 1)) := fun h0 h1 h2 h3 h4 h5 h6 h7 => by
    unfold dp_ax at h
    rw [if_neg h0, if_neg h1, if_neg h2, if_neg h3, if_neg h4, if_neg h5, if_neg h6, if_neg h7] at h
    by_cases z : dp_en (fun r => lv (o r)) c j ≤ i
    · rw [dp_c_t (decide_eq_true z)] at h
      exact br_f (nI_nlt z (by omega)) h
    · rw [dp_c_f (decide_eq_false z)] at h
      exact br_t (nI_lt (by omega) (by omega)) h
  have pd : ∀ {p : Prop} [inst : Decidable p], post (dp_c (decide p)) → ((p → post 1) ∧ (¬ p → post 0)) := fun {p} _ h => by
    by_cases z : p
    · rw [dp_c_t (decide_eq_true z)] at h; exact br_t z h
    · rw [dp_c_f (decide_eq_false z)] at h; exact br_f z h
  by_cases h0 : a = 0
  · subst h0
    exact br_f (by decide) (br_f (by decide) (br_t rfl (pd h)))
  by_cases h1 : a = 1
  · subst h1
    refine br_f (by decide) (br_f (by decide) (br_f (by decide) (br_t rfl ?_)))
    rw [dp_ch_iff]
    exact pd h
  by_cases h2 : a = 2
  · subst h2
    refine br_f (by decide) (br_f (by decide) (br_f (by decide) (br_f (by decide) (br_t rfl ?_))))
    rw [dp_ch_iff]
    exact pd h
  by_cases h3 : a = 3
  · subst h3
    refine br_f (by decide) (br_f (by decide) (br_f (by decide) (br_f (by decide) (br_f (by decide) (br_t rfl ?_)))))
    have h' : post (dp_c (decide (i < j ∧ j < dp_en (fun r => lv (o r)) c i))) := h
    by_cases z : i < j
    · refine br_f (nI_ge z (by omega)) ?_
      by_cases y : j < dp_en (fun r => lv (o r)) c i
      · rw [dp_c_t (decide_eq_true ⟨z, y⟩)] at h'; exact br_f (nI_ge y (by omega)) h'
      · rw [dp_c_f (decide_eq_false (fun q => y q.2))] at h'; exact br_t (nI_le (by omega) (by omega)) h'
    · rw [dp_c_f (decide_eq_false (fun q => z q.1))] at h'; exact br_t (nI_le (by omega) (by omega)) h'
  by_cases h4 : a = 4
  · subst h4
    refine br_f (by decide) (br_f (by decide) (br_f (by decide) (br_f (by decide) (br_f (by decide) (br_f (by decide) (br_t rfl ?_))))))
    have h' : post (dp_c (decide (j < i ∧ i < dp_en (fun r => lv (o r)) c j))) := h
    by_cases z : j < i
    · refine br_f (nI_ge z (by omega)) ?_
      by_cases y : i < dp_en (fun r => lv (o r)) c j
      · rw [dp_c_t (decide_eq_true ⟨z, y⟩)] at h'; exact br_f (nI_ge y (by omega)) h'
      · rw [dp_c_f (decide_eq_false (fun q => y q.2))] at h'; exact br_t (nI_le (by omega) (by omega)) h'
    · rw [dp_c_f (decide_eq_false (fun q => z q.1))] at h'; exact br_t (nI_le (by omega) (by omega)) h'
  by_cases h5 : a = 5
  · subst h5
    refine br_f (by decide) (br_f (by decide) (br_f (by decide) (br_f (by decide) (br_f (by decide) (br_f (by decide) (br_f (by decide) (br_t rfl ?_)))))))
    have h' : post (dp_c (decide (i < j ∧ 0 < i ∧ 0 < j ∧ dp_pa (fun r => lv (o r)) i = dp_pa (fun r => lv (o r)) j))) := h
    by_cases z : i < j
    · by_cases y : 0 < i ∧ 0 < j ∧ dp_pa (fun r => lv (o r)) i = dp_pa (fun r => lv (o r)) j
      · rw [dp_c_t (decide_eq_true ⟨z, y⟩)] at h'; exact br_t (Or.inr y) (br_f (nI_ge z (by omega)) h')
      · rw [dp_c_f (decide_eq_false (fun q => y q.2))] at h'; exact br_f (fun q => q.elim (fun q => by omega) y) h'
    · rw [dp_c_f (decide_eq_false (fun q => z q.1))] at h'
      exact br_c (fun _ => br_t (nI_le (by omega) (by omega)) h') (fun _ => h')
  by_cases h6 : a = 6
  · subst h6
    refine br_f (by decide) (br_f (by decide) (br_f (by decide) (br_f (by decide) (br_f (by decide) (br_f (by decide) (br_f (by decide) (br_f (by decide) (br_t rfl ?_))))))))
    have h' : post (dp_c (decide (j < i ∧ 0 < i ∧ 0 < j ∧ dp_pa (fun r => lv (o r)) i = dp_pa (fun r => lv (o r)) j))) := h
    by_cases z : j < i
    · by_cases y : 0 < i ∧ 0 < j ∧ dp_pa (fun r => lv (o r)) i = dp_pa (fun r => lv (o r)) j
      · rw [dp_c_t (decide_eq_true ⟨z, y⟩)] at h'; exact br_t (Or.inr y) (br_f (nI_ge z (by omega)) h')
      · rw [dp_c_f (decide_eq_false (fun q => y q.2))] at h'; exact br_f (fun q => q.elim (fun q => by omega) y) h'
    · rw [dp_c_f (decide_eq_false (fun q => z q.1))] at h'
      exact br_c (fun _ => br_t (nI_le (by omega) (by omega)) h') (fun _ => h')
  by_cases h7 : a = 7
  · subst h7
    refine br_f (by decide) (br_f (by decide) (br_f (by decide) (br_f (by decide) (br_f (by decide) (br_f (by decide) (br_f (by decide) (br_f (by decide) (br_f (by decide) (br_t rfl ?_)))))))))
    have h' : post (dp_c (decide (dp_en (fun r => lv (o r)) c i ≤ j))) := h
    by_cases z : dp_en (fun r => lv (o r)) c i ≤ j
    · rw [dp_c_t (decide_eq_true z)] at h'; exact br_f (nI_nlt z (by omega)) h'
    · rw [dp_c_f (decide_eq_false z)] at h'; exact br_t (nI_lt (by omega) (by omega)) h'
  have d := df h0 h1 h2 h3 h4 h5 h6 h7
  exact br_c (fun _ => d) (fun _ => br_c (fun _ => d) (fun _ => br_f h0 (br_f h1 (br_f h2 (br_f h3 (br_f h4 (br_f h5 (br_f h6 (br_f h7 trivial)))))))))
end XO
