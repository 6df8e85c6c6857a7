/-! the calls that read the query -/
section QX
variable {f_size f_present f_height : Int32} {a_order a_levels a_tags a_values a_ranks a_ends a_parents a_run a_kinds a_numbers a_lengths a_entryIsPath a_rows a_members a_wasSet a_watchNode a_selects a_selectedBefore : Nat → Int32} {x : Nat}
def dp_sm (f : Nat → Int32) : Nat → Int32
  | 0 => 0
  | x + 1 => dp_sm f x + nI (dp_fc (bt (f x)) 32)
theorem xx_pairs_l {e : Nat} {p : Nat → Int32} (he : e < 8) (hp : ∀ x, x < 32 → a_rows (32 * e + x) = p x) {post : Int32 → SX → Prop} (h : post (dp_sm p 32) (f_size, f_present, f_height, a_order, a_levels, a_tags, a_values, a_ranks, a_ends, a_parents, a_run, a_kinds, a_numbers, a_lengths, a_entryIsPath, a_rows, a_members, a_wasSet, a_watchNode, a_selects, a_selectedBefore)) : ∀ d x, x + d = 32 → wX_pairs_22 post (nI (32 * e)) f_size f_present f_height a_order a_levels a_tags a_values a_ranks a_ends a_parents a_run a_kinds a_numbers a_lengths a_entryIsPath a_rows a_members a_wasSet a_watchNode a_selects a_selectedBefore (d + 1) (dp_sm p x) (nI x) := by
  intro d
  induction d with
  | zero =>
    intro x hx
    obtain rfl : x = 32 := by omega
    exact br_t dp_le32 h
  | succ d ih =>
    intro x hx
    refine br_f (dp_ge32 (by omega)) ?_
    simp only [nI_add, dp_cl256 (show 32 * e + x < 256 by omega), hp x (by omega)]
    exact ⟨dp_v256 (by omega), xx_countBits (nm_e (nm_r (nI_1 x) (ih (x + 1) (by omega))))⟩
theorem xx_samePaths_l {e : Nat} {p q : Nat → Int32} (he : e < 7) (hp : ∀ x, x < 32 → a_rows (32 * e + x) = p x) (hq : ∀ x, x < 32 → a_rows (32 * e + 32 + x) = q x) {post : Int32 → Prop} (h1 : (∀ x, x < 32 → p x = q x) → post 1) (h0 : (∃ x, x < 32 ∧ p x ≠ q x) → post 0) : ∀ d x, x + d = 32 → (∀ y, y < x → p y = q y) → wX_samePaths_7 post (nI (32 * e)) f_size f_present f_height a_order a_levels a_tags a_values a_ranks a_ends a_parents a_run a_kinds a_numbers a_lengths a_entryIsPath a_rows a_members a_wasSet a_watchNode a_selects a_selectedBefore (d + 1) (nI x) := by
  intro d
  induction d with
  | zero =>
    intro x hx H
    obtain rfl : x = 32 := by omega
    exact br_t dp_le32 (h1 H)
  | succ d ih =>
    intro x hx H
    refine br_f (dp_ge32 (by omega)) ?_
    simp only [dp_p32, nI_add, dp_cl256 (show 32 * e + x < 256 by omega), dp_cl256 (show 32 * e + 32 + x < 256 by omega), hp x (by omega), hq x (by omega)]
    refine ⟨dp_v256 (by omega), dp_v256 (by omega), br_c (fun z => nm_r (nI_1 x) (ih (x + 1) (by omega) (fun y hy => ?_))) (fun z => h0 ⟨x, by omega, z⟩)⟩
    rcases Nat.lt_or_ge y x with w | w
    · exact H y w
    · rw [show y = x from by omega]; exact z
theorem xx_samePaths {e : Nat} {p q : Nat → Int32} (he : e < 7) (hp : ∀ x, x < 32 → a_rows (32 * e + x) = p x) (hq : ∀ x, x < 32 → a_rows (32 * e + 32 + x) = q x) {post : Int32 → Prop} (h1 : (∀ x, x < 32 → p x = q x) → post 1) (h0 : (∃ x, x < 32 ∧ p x ≠ q x) → post 0) : wpX_samePaths post (f_size, f_present, f_height, a_order, a_levels, a_tags, a_values, a_ranks, a_ends, a_parents, a_run, a_kinds, a_numbers, a_lengths, a_entryIsPath, a_rows, a_members, a_wasSet, a_watchNode, a_selects, a_selectedBefore) (nI e) := nm_r (dp_m32 e) ⟨33, xx_samePaths_l he hp hq h1 h0 32 0 rfl (fun y hy => absurd hy (Nat.not_lt_zero y))⟩
end QX
section QY
variable {f_count f_height : Int32} {a_list a_there a_above a_tags a_values a_held a_twin a_kinds a_args a_sizes a_isPath a_rows a_spare a_isSet a_alive a_edited a_watchNode a_before : Nat → Int32}
theorem yy_pairs_l {h : Nat} {p : Nat → Int32} (h0 : 0 < h) (h8 : h ≤ 8) (hp : ∀ x, x < 32 → a_rows (32 * (h - 1) + x) = p x) {post : Int32 → SY → Prop} (H : post (dp_sm p 32) (f_count, (nI h), a_list, a_there, a_above, a_tags, a_values, a_held, a_twin, a_kinds, a_args, a_sizes, a_isPath, a_rows, a_spare, a_isSet, a_alive, a_edited, a_watchNode, a_before)) : ∀ d x, x + d = 32 → wY_pairs_14 post f_count (nI h) a_list a_there a_above a_tags a_values a_held a_twin a_kinds a_args a_sizes a_isPath a_rows a_spare a_isSet a_alive a_edited a_watchNode a_before (d + 1) (dp_sm p x) (nI x) := by
  intro d
  induction d with
  | zero =>
    intro x hx
    obtain rfl : x = 32 := by omega
    exact br_t dp_le32 H
  | succ d ih =>
    intro x hx
    exact br_f (dp_ge32 (by omega)) (yy_topRow h0 h8 (by omega) (hp x (by omega)) (yy_ones (nm_e (nm_r (nI_1 x) (ih (x + 1) (by omega))))))
theorem yy_same_l {h : Nat} {p q : Nat → Int32} (h0 : 1 < h) (h8 : h ≤ 8) (hp : ∀ x, x < 32 → a_rows (32 * (h - 1) + x) = q x) (hq : ∀ x, x < 32 → a_rows (32 * (h - 2) + x) = p x) {post : Int32 → SY → Prop} (H1 : (∀ x, x < 32 → p x = q x) → post 1 (f_count, (nI h), a_list, a_there, a_above, a_tags, a_values, a_held, a_twin, a_kinds, a_args, a_sizes, a_isPath, a_rows, a_spare, a_isSet, a_alive, a_edited, a_watchNode, a_before)) (H0 : (∃ x, x < 32 ∧ p x ≠ q x) → post 0 (f_count, (nI h), a_list, a_there, a_above, a_tags, a_values, a_held, a_twin, a_kinds, a_args, a_sizes, a_isPath, a_rows, a_spare, a_isSet, a_alive, a_edited, a_watchNode, a_before)) : ∀ d x s, x + d = 32 → (s = 1 ∧ ∀ y, y < x → p y = q y) ∨ (s = 0 ∧ ∃ y, y < x ∧ p y ≠ q y) → wY_same_44 post f_count (nI h) a_list a_there a_above a_tags a_values a_held a_twin a_kinds a_args a_sizes a_isPath a_rows a_spare a_isSet a_alive a_edited a_watchNode a_before (d + 1) s (nI x) := by
  have e1 : (32 : Int32) * nI h - 32 = nI (32 * (h - 1)) := by
    rw [dp_32m, show nI (32 * h) - 32 = nI (32 * h) - nI 32 from rfl, pk_sub (by omega), show 32 * h - 32 = 32 * (h - 1) from by omega]
  have e2 : (32 : Int32) * nI h - 64 = nI (32 * (h - 2)) := by
    rw [dp_32m, show nI (32 * h) - 64 = nI (32 * h) - nI 64 from rfl, pk_sub (by omega), show 32 * h - 64 = 32 * (h - 2) from by omega]
  intro d
  induction d with
  | zero =>
    intro x s hx H
    obtain rfl : x = 32 := by omega
    rcases H with ⟨rfl, H⟩ | ⟨rfl, H⟩
    · exact br_t dp_le32 (H1 H)
    · exact br_t dp_le32 (H0 H)
  | succ d ih =>
    intro x s hx H
    refine br_f (dp_ge32 (by omega)) ?_
    simp only [e1, e2, nI_add, dp_cl256 (show 32 * (h - 1) + x < 256 by omega), dp_cl256 (show 32 * (h - 2) + x < 256 by omega), hp x (by omega), hq x (by omega)]
    refine ⟨dp_v256 (by omega), dp_v256 (by omega), br_c (fun z => nm_r (nI_1 x) (ih (x + 1) s (by omega) ?_)) (fun z => nm_r (nI_1 x) (ih (x + 1) 0 (by omega) (Or.inr ⟨rfl, x, by omega, fun w => z w.symm⟩)))⟩
    rcases H with ⟨hs, H⟩ | ⟨hs, y, hy, H⟩
    · refine Or.inl ⟨hs, fun y hy => ?_⟩
      rcases Nat.lt_or_ge y x with w | w
      · exact H y w
      · rw [show y = x from by omega]; exact z.symm
    · exact Or.inr ⟨hs, y, by omega, H⟩
end QY
theorem i_vc_select {k : Nat} {u : SX} {v : SY} (I : i_Rel k u v) (hk : k + 4 ≤ 2048) (v1 : Int32) (v2 : Int32) : wpX_select (fun r u' => wpY_select (fun r' v' => r' = r ∧ i_Rel (k + 4) u' v') v v1 v2) u v1 v2 := by
  obtain ⟨c, o, lv, pr, tg, vs, K, N, A, S, ranks, ends, parents, kx, ax, lx, isp, above, al, ed, xw, xs, xb, yw, yb, run, rows, mem, held, twin, yp, yr, sp, h, hy, rfl, rfl, R⟩ := I
  have R' := R
  obtain ⟨T, hv, X, B, G, Q, W⟩ := R'
  have ho := T.1.2.2.1
  have hc := T.1.1
  unfold wpX_select wpY_select
  rcases dp_node T v1 with e | ⟨r, hr, rfl⟩
  · exact xx_no e (br_t rfl (yy_no e (br_t rfl ⟨rfl, dp_rel R⟩)))
  · refine xx_yes T hr (br_f (by decide) (xx_topIsPath G Q ?_))
    by_cases P : 0 < dp_hq K N 0 ∧ dp_Fq K N 0 (dp_hq K N 0 - 1) = true
    · rw [dp_c_t (decide_eq_true P)]
      have h8 : dp_hq K N 0 ≤ 8 := dp_h8 (G 0 (by decide)).2.1 (Nat.le_refl _)
      refine br_f (by decide) (xx_rowOfTop T X hv G P.1 P.2 (ho r) (fun R1 m1 => xx_pick ho hc ?_))
      have fin : ∀ a, a = dp_an o (-2) (dp_fk (fun i => bt (dp_sv c o (fun r => lv (o r)) pr tg vs K N A 0 (o r)) (o i)) v2 c) → wpY_select (fun r' v' => r' = a ∧ i_Rel (k + 4) ((nI c), pr, h, (fun j => nI (o j)), (fun j => nI (lv j)), tg, vs, ranks, ends, parents, run, kx, ax, lx, isp, R1, m1, S, xw, xs, xb) v') ((nI c), hy, (fun j => nI (o j)), (dp_th pr), above, tg, vs, held, twin, (fun j => nI (K j)), A, (fun j => nI (N j)), yp, yr, sp, S, al, ed, yw, yb) (nI (o r)) v2 := fun a ea => by
        unfold wpY_select
        refine yy_yes T hr (br_f (by decide) (yy_topIs (b := true) T B G (fun R2 P2 Z2 H => ?_)))
        rw [dp_c_t (decide_eq_true P)]
        refine br_f (by decide) (yy_topRow P.1 h8 (ho r) ((H _ (show dp_hq K N 0 - 1 < dp_hq K N 0 by omega)).2 (o r) (ho r)) (br_c (fun z => yy_kth ho hc ⟨ea.symm, dp_rel R⟩) (fun z => ⟨?_, dp_rel R⟩)))
        rw [ea, dp_fk_neg (Int32.not_le.mp z) (by omega)]; rfl
      cases e : dp_fk (fun i => bt (dp_sv c o (fun r => lv (o r)) pr tg vs K N A 0 (o r)) (o i)) v2 c with
      | none => exact br_t rfl (fin _ (by rw [e]; rfl))
      | some i => exact br_f (dp_nle1 (Nat.lt_trans (ho i) (by decide))) (fin _ (by rw [e]; rfl))
    · rw [dp_c_f (decide_eq_false P)]
      refine br_t rfl (yy_yes T hr (br_f (by decide) (yy_topIs (b := true) T B G (fun R2 P2 Z2 H => ?_))))
      rw [dp_c_f (decide_eq_false P)]
      exact br_t rfl ⟨rfl, dp_rel R⟩
theorem i_vc_selected {k : Nat} {u : SX} {v : SY} (I : i_Rel k u v) (hk : k + 4 ≤ 2048) (v1 : Int32) : wpX_selected (fun r u' => wpY_selected (fun r' v' => r' = r ∧ i_Rel (k + 4) u' v') v v1) u v1 := by
  obtain ⟨c, o, lv, pr, tg, vs, K, N, A, S, ranks, ends, parents, kx, ax, lx, isp, above, al, ed, xw, xs, xb, yw, yb, run, rows, mem, held, twin, yp, yr, sp, h, hy, rfl, rfl, R⟩ := I
  have R' := R
  obtain ⟨T, hv, X, B, G, Q, W⟩ := R'
  have ho := T.1.2.2.1
  have hc := T.1.1
  unfold wpX_selected wpY_selected
  rcases dp_node T v1 with e | ⟨r, hr, rfl⟩
  · exact xx_no e (br_t rfl (yy_no e (br_t rfl ⟨rfl, dp_rel R⟩)))
  · refine xx_yes T hr (br_f (by decide) (xx_topIsPath G Q ?_))
    by_cases P : 0 < dp_hq K N 0 ∧ dp_Fq K N 0 (dp_hq K N 0 - 1) = true
    · rw [dp_c_t (decide_eq_true P)]
      have h8 : dp_hq K N 0 ≤ 8 := dp_h8 (G 0 (by decide)).2.1 (Nat.le_refl _)
      refine br_f (by decide) (xx_rowOfTop T X hv G P.1 P.2 (ho r) (fun R1 m1 => xx_countBits (yy_yes T hr (br_f (by decide) (yy_topIs (b := true) T B G (fun R2 P2 Z2 H => ?_))))))
      rw [dp_c_t (decide_eq_true P)]
      exact br_f (by decide) (yy_topRow P.1 h8 (ho r) ((H _ (show dp_hq K N 0 - 1 < dp_hq K N 0 by omega)).2 (o r) (ho r)) (yy_ones ⟨rfl, dp_rel R⟩))
    · rw [dp_c_f (decide_eq_false P)]
      refine br_t rfl (yy_yes T hr (br_f (by decide) (yy_topIs (b := true) T B G (fun R2 P2 Z2 H => ?_))))
      rw [dp_c_f (decide_eq_false P)]
      exact br_t rfl ⟨rfl, dp_rel R⟩
theorem i_vc_related {k : Nat} {u : SX} {v : SY} (I : i_Rel k u v) (hk : k + 4 ≤ 2048) (v1 : Int32) (v2 : Int32) : wpX_related (fun r u' => wpY_related (fun r' v' => r' = r ∧ i_Rel (k + 4) u' v') v v1 v2) u v1 v2 := by
  obtain ⟨c, o, lv, pr, tg, vs, K, N, A, S, ranks, ends, parents, kx, ax, lx, isp, above, al, ed, xw, xs, xb, yw, yb, run, rows, mem, held, twin, yp, yr, sp, h, hy, rfl, rfl, R⟩ := I
  have R' := R
  obtain ⟨T, hv, X, B, G, Q, W⟩ := R'
  have ho := T.1.2.2.1
  have hc := T.1.1
  unfold wpX_related wpY_related
  rcases dp_node T v1 with e | ⟨r, hr, rfl⟩
  · exact xx_no e (br_t rfl (yy_no e (br_t rfl ⟨rfl, dp_rel R⟩)))
  rcases dp_node T v2 with e | ⟨r2, hr2, rfl⟩
  · exact xx_yes T hr (br_f (by decide) (xx_no e (br_t rfl (yy_yes T hr (br_f (by decide) (yy_no e (br_t rfl ⟨rfl, dp_rel R⟩)))))))
  · refine xx_yes T hr (br_f (by decide) (xx_yes T hr2 (br_f (by decide) (xx_topIsPath G Q ?_))))
    by_cases P : 0 < dp_hq K N 0 ∧ dp_Fq K N 0 (dp_hq K N 0 - 1) = true
    · rw [dp_c_t (decide_eq_true P)]
      have h8 : dp_hq K N 0 ≤ 8 := dp_h8 (G 0 (by decide)).2.1 (Nat.le_refl _)
      refine br_f (by decide) (xx_rowOfTop T X hv G P.1 P.2 (ho r) (fun R1 m1 => yy_yes T hr (br_f (by decide) (yy_yes T hr2 (br_f (by decide) (yy_topIs (b := true) T B G (fun R2 P2 Z2 H => ?_)))))))
      rw [dp_c_t (decide_eq_true P), dp_xb _ (ho r2)]
      refine br_f (by decide) (yy_topRow (s := dp_sv c o (fun r => lv (o r)) pr tg vs K N A 0 (o r)) P.1 h8 (ho r) ((H _ (show dp_hq K N 0 - 1 < dp_hq K N 0 by omega)).2 (o r) (ho r)) (yy_in (ho r2) ?_))
      generalize bt (dp_sv c o (fun r => lv (o r)) pr tg vs K N A 0 (o r)) (o r2) = b
      cases b
      · exact br_t rfl ⟨rfl, dp_rel R⟩
      · exact br_f (by decide) ⟨rfl, dp_rel R⟩
    · rw [dp_c_f (decide_eq_false P)]
      refine br_t rfl (yy_yes T hr (br_f (by decide) (yy_yes T hr2 (br_f (by decide) (yy_topIs (b := true) T B G (fun R2 P2 Z2 H => ?_))))))
      rw [dp_c_f (decide_eq_false P)]
      exact br_t rfl ⟨rfl, dp_rel R⟩
theorem i_vc_pairs {k : Nat} {u : SX} {v : SY} (I : i_Rel k u v) (hk : k + 4 ≤ 2048) : wpX_pairs (fun r u' => wpY_pairs (fun r' v' => r' = r ∧ i_Rel (k + 4) u' v') v) u := by
  obtain ⟨c, o, lv, pr, tg, vs, K, N, A, S, ranks, ends, parents, kx, ax, lx, isp, above, al, ed, xw, xs, xb, yw, yb, run, rows, mem, held, twin, yp, yr, sp, h, hy, rfl, rfl, R⟩ := I
  have R' := R
  obtain ⟨T, hv, X, B, G, Q, W⟩ := R'
  have ho := T.1.2.2.1
  have hc := T.1.1
  unfold wpX_pairs wpY_pairs
  refine xx_topIsPath G Q ?_
  have h8 : dp_hq K N 0 ≤ 8 := dp_h8 (G 0 (by decide)).2.1 (Nat.le_refl _)
  by_cases P : 0 < dp_hq K N 0 ∧ dp_Fq K N 0 (dp_hq K N 0 - 1) = true
  · rw [dp_c_t (decide_eq_true P)]
    refine br_f (by decide) (xx_evalP T X hv G (w := 0) (by decide) (by decide) (fun R1 m1 H1 => ?_))
    have hl : dp_hq K N 0 - 1 < dp_hq K N 0 := by omega
    refine nm_r (e' := nI (32 * (dp_hq K N 0 - 1))) (by rw [dp_s1 P.1, dp_m32]) ⟨33, xx_pairs_l (p := dp_sv c o (fun r => lv (o r)) pr tg vs K N A 0) (by omega) ((H1 _ hl).1 P.2) (yy_topIs (b := true) T B G (fun R2 P2 Z2 H => ?_)) 32 0 rfl⟩
    rw [dp_c_t (decide_eq_true P)]
    exact br_f (by decide) ⟨33, yy_pairs_l P.1 h8 (H _ hl).2 ⟨rfl, dp_rel R⟩ 32 0 rfl⟩
  · rw [dp_c_f (decide_eq_false P)]
    refine br_t rfl (yy_topIs (b := true) T B G (fun R2 P2 Z2 H => ?_))
    rw [dp_c_f (decide_eq_false P)]
    exact br_t rfl ⟨rfl, dp_rel R⟩
theorem i_vc_holds {k : Nat} {u : SX} {v : SY} (I : i_Rel k u v) (hk : k + 4 ≤ 2048) (v1 : Int32) : wpX_holds (fun r u' => wpY_holds (fun r' v' => r' = r ∧ i_Rel (k + 4) u' v') v v1) u v1 := by
  obtain ⟨c, o, lv, pr, tg, vs, K, N, A, S, ranks, ends, parents, kx, ax, lx, isp, above, al, ed, xw, xs, xb, yw, yb, run, rows, mem, held, twin, yp, yr, sp, h, hy, rfl, rfl, R⟩ := I
  have R' := R
  obtain ⟨T, hv, X, B, G, Q, W⟩ := R'
  have ho := T.1.2.2.1
  have hc := T.1.1
  unfold wpX_holds wpY_holds
  rcases dp_node T v1 with e | ⟨r, hr, rfl⟩
  · exact xx_no e (br_t rfl (yy_no e (br_t rfl ⟨rfl, dp_rel R⟩)))
  · refine xx_yes T hr (br_f (by decide) (xx_topIsCondition G Q ?_))
    have h8 : dp_hq K N 0 ≤ 8 := dp_h8 (G 0 (by decide)).2.1 (Nat.le_refl _)
    by_cases P : 0 < dp_hq K N 0 ∧ dp_Fq K N 0 (dp_hq K N 0 - 1) = false
    · rw [dp_c_t (decide_eq_true P)]
      have hl : dp_hq K N 0 - 1 < dp_hq K N 0 := by omega
      refine br_f (by decide) (xx_evalP T X hv G (w := 0) (by decide) (by decide) (fun R1 m1 H1 => ?_))
      rw [dp_s1 P.1]
      refine ⟨dp_v8 (by omega), ?_⟩
      rw [nI_clamp (show dp_hq K N 0 - 1 < 2 ^ 31 by omega), (H1 _ hl).2 P.2, dp_xb _ (ho r)]
      refine yy_yes T hr (br_f (by decide) (yy_topIs (b := false) T B G (fun R2 P2 Z2 H => ?_)))
      rw [dp_c_t (decide_eq_true P)]
      refine br_f (by decide) (yy_topRow (n := 0) P.1 h8 (by decide) ((H _ hl).2 0 (by decide)) (yy_in (ho r) ?_))
      generalize bt (dp_vl c o (fun r => lv (o r)) pr tg vs (dp_kn K 0) (dp_am A 0) (N 0) (dp_hq K N 0 - 1) 0) (o r) = b
      cases b
      · exact br_t rfl ⟨rfl, dp_rel R⟩
      · exact br_f (by decide) ⟨rfl, dp_rel R⟩
    · rw [dp_c_f (decide_eq_false P)]
      refine br_t rfl (yy_yes T hr (br_f (by decide) (yy_topIs (b := false) T B G (fun R2 P2 Z2 H => ?_))))
      rw [dp_c_f (decide_eq_false P)]
      exact br_t rfl ⟨rfl, dp_rel R⟩
theorem i_vc_holders {k : Nat} {u : SX} {v : SY} (I : i_Rel k u v) (hk : k + 4 ≤ 2048) : wpX_holders (fun r u' => wpY_holders (fun r' v' => r' = r ∧ i_Rel (k + 4) u' v') v) u := by
  obtain ⟨c, o, lv, pr, tg, vs, K, N, A, S, ranks, ends, parents, kx, ax, lx, isp, above, al, ed, xw, xs, xb, yw, yb, run, rows, mem, held, twin, yp, yr, sp, h, hy, rfl, rfl, R⟩ := I
  have R' := R
  obtain ⟨T, hv, X, B, G, Q, W⟩ := R'
  have ho := T.1.2.2.1
  have hc := T.1.1
  unfold wpX_holders wpY_holders
  refine xx_topIsCondition G Q ?_
  have h8 : dp_hq K N 0 ≤ 8 := dp_h8 (G 0 (by decide)).2.1 (Nat.le_refl _)
  by_cases P : 0 < dp_hq K N 0 ∧ dp_Fq K N 0 (dp_hq K N 0 - 1) = false
  · rw [dp_c_t (decide_eq_true P)]
    have hl : dp_hq K N 0 - 1 < dp_hq K N 0 := by omega
    refine br_f (by decide) (xx_evalP T X hv G (w := 0) (by decide) (by decide) (fun R1 m1 H1 => ?_))
    rw [dp_s1 P.1]
    refine ⟨dp_v8 (by omega), ?_⟩
    rw [nI_clamp (show dp_hq K N 0 - 1 < 2 ^ 31 by omega), (H1 _ hl).2 P.2]
    refine xx_countBits (yy_topIs (b := false) T B G (fun R2 P2 Z2 H => ?_))
    rw [dp_c_t (decide_eq_true P)]
    exact br_f (by decide) (yy_topRow (n := 0) P.1 h8 (by decide) ((H _ hl).2 0 (by decide)) (yy_ones ⟨rfl, dp_rel R⟩))
  · rw [dp_c_f (decide_eq_false P)]
    refine br_t rfl (yy_topIs (b := false) T B G (fun R2 P2 Z2 H => ?_))
    rw [dp_c_f (decide_eq_false P)]
    exact br_t rfl ⟨rfl, dp_rel R⟩
theorem i_vc_same {k : Nat} {u : SX} {v : SY} (I : i_Rel k u v) (hk : k + 4 ≤ 2048) : wpX_same (fun r u' => wpY_same (fun r' v' => r' = r ∧ i_Rel (k + 4) u' v') v) u := by
  obtain ⟨c, o, lv, pr, tg, vs, K, N, A, S, ranks, ends, parents, kx, ax, lx, isp, above, al, ed, xw, xs, xb, yw, yb, run, rows, mem, held, twin, yp, yr, sp, h, hy, rfl, rfl, R⟩ := I
  have R' := R
  obtain ⟨T, hv, X, B, G, Q, W⟩ := R'
  have ho := T.1.2.2.1
  have hc := T.1.1
  unfold wpX_same
  obtain ⟨q1, q2⟩ := Q
  have h8 : dp_hq K N 0 ≤ 8 := dp_h8 (G 0 (by decide)).2.1 (Nat.le_refl _)
  have YN : ∀ {run' rows' mem' : Nat → Int32}, ¬ (2 ≤ dp_hq K N 0 ∧ dp_Fq K N 0 (dp_hq K N 0 - 1) = dp_Fq K N 0 (dp_hq K N 0 - 2)) → wpY_same (fun r' v' => r' = -1 ∧ i_Rel (k + 4) ((nI c), pr, h, (fun j => nI (o j)), (fun j => nI (lv j)), tg, vs, ranks, ends, parents, run', kx, ax, lx, isp, rows', mem', S, xw, xs, xb) v') ((nI c), hy, (fun j => nI (o j)), (dp_th pr), above, tg, vs, held, twin, (fun j => nI (K j)), A, (fun j => nI (N j)), yp, yr, sp, S, al, ed, yw, yb) := fun {_ _ _} z => by
    unfold wpY_same
    refine yy_workP T B G (w := 0) (by decide) (fun R2 P2 Z2 H => ?_)
    by_cases h2 : 2 ≤ dp_hq K N 0
    · refine br_f (nI_nlt (b := 2) h2 (by omega)) ?_
      rw [dp_s1 (by omega), dp_s2 h2]
      refine ⟨dp_v8 (by omega), dp_v8 (by omega), ?_⟩
      rw [nI_clamp (show dp_hq K N 0 - 1 < 2 ^ 31 by omega), nI_clamp (show dp_hq K N 0 - 2 < 2 ^ 31 by omega), (H _ (show dp_hq K N 0 - 1 < dp_hq K N 0 by omega)).1, (H _ (show dp_hq K N 0 - 2 < dp_hq K N 0 by omega)).1]
      refine br_f (fun w => z ⟨h2, ?_⟩) ⟨rfl, dp_rel R⟩
      show (dp_ty (dp_kn K 0) (N 0)).2 (dp_hq K N 0 - 1) = (dp_ty (dp_kn K 0) (N 0)).2 (dp_hq K N 0 - 2)
      revert w
      generalize (dp_ty (dp_kn K 0) (N 0)).2 (dp_hq K N 0 - 1) = b1
      generalize (dp_ty (dp_kn K 0) (N 0)).2 (dp_hq K N 0 - 2) = b2
      cases b1 <;> cases b2 <;> decide
    · exact br_t (nI_lt (b := 2) (by omega) (by decide)) ⟨rfl, dp_rel R⟩
  subst q1
  by_cases h2 : 2 ≤ dp_hq K N 0
  · refine br_f (nI_nlt (b := 2) h2 (by omega)) ?_
    have hl1 : dp_hq K N 0 - 1 < dp_hq K N 0 := by omega
    have hl2 : dp_hq K N 0 - 2 < dp_hq K N 0 := by omega
    rw [dp_s1 (by omega), dp_s2 h2]
    refine ⟨dp_v8 (by omega), dp_v8 (by omega), ?_⟩
    rw [nI_clamp (show dp_hq K N 0 - 1 < 2 ^ 31 by omega), nI_clamp (show dp_hq K N 0 - 2 < 2 ^ 31 by omega), q2 _ hl1, q2 _ hl2]
    by_cases P : dp_Fq K N 0 (dp_hq K N 0 - 1) = dp_Fq K N 0 (dp_hq K N 0 - 2)
    · refine br_t (by rw [P]) (xx_evalP T X hv G (w := 0) (by decide) (by decide) (fun R1 m1 H1 => ?_))
      have PI := dp_vl_PI (l := fun r => lv (o r)) (tg := tg) (vs := vs) ho T.2.1 (G 0 (by decide)).2.1 (N 0) (Nat.le_refl _)
      have Y1 : ∀ a, ((∀ x, x < 32 → dp_vl c o (fun r => lv (o r)) pr tg vs (dp_kn K 0) (dp_am A 0) (N 0) (dp_hq K N 0 - 2) x = dp_vl c o (fun r => lv (o r)) pr tg vs (dp_kn K 0) (dp_am A 0) (N 0) (dp_hq K N 0 - 1) x) → a = 1) → ((∃ x, x < 32 ∧ dp_vl c o (fun r => lv (o r)) pr tg vs (dp_kn K 0) (dp_am A 0) (N 0) (dp_hq K N 0 - 2) x ≠ dp_vl c o (fun r => lv (o r)) pr tg vs (dp_kn K 0) (dp_am A 0) (N 0) (dp_hq K N 0 - 1) x) → a = 0) → wpY_same (fun r' v' => r' = a ∧ i_Rel (k + 4) ((nI c), pr, (nI (dp_hq K N 0)), (fun j => nI (o j)), (fun j => nI (lv j)), tg, vs, ranks, ends, parents, run, kx, ax, lx, isp, R1, m1, S, xw, xs, xb) v') ((nI c), hy, (fun j => nI (o j)), (dp_th pr), above, tg, vs, held, twin, (fun j => nI (K j)), A, (fun j => nI (N j)), yp, yr, sp, S, al, ed, yw, yb) := fun a a1 a0 => by
        unfold wpY_same
        refine yy_workP T B G (w := 0) (by decide) (fun R2 P2 Z2 H => ?_)
        refine br_f (nI_nlt (b := 2) h2 (by omega)) ?_
        rw [dp_s1 (by omega), dp_s2 h2]
        refine ⟨dp_v8 (by omega), dp_v8 (by omega), ?_⟩
        rw [nI_clamp (show dp_hq K N 0 - 1 < 2 ^ 31 by omega), nI_clamp (show dp_hq K N 0 - 2 < 2 ^ 31 by omega), (H _ hl1).1, (H _ hl2).1]
        exact br_t (congrArg dp_c P) ⟨33, yy_same_l (by omega) h8 (H _ hl1).2 (H _ hl2).2 (fun z => ⟨(a1 z).symm, dp_rel R⟩) (fun z => ⟨(a0 z).symm, dp_rel R⟩) 32 0 1 rfl (Or.inl ⟨rfl, fun y hy => absurd hy (Nat.not_lt_zero y)⟩)⟩
      rw [dp_s1 (by omega)]
      refine ⟨dp_v8 (by omega), ?_⟩
      rw [nI_clamp (show dp_hq K N 0 - 1 < 2 ^ 31 by omega), q2 _ hl1, dp_s1 (show 1 ≤ dp_hq K N 0 - 1 by omega), show dp_hq K N 0 - 1 - 1 = dp_hq K N 0 - 2 from by omega]
      cases F1 : dp_Fq K N 0 (dp_hq K N 0 - 1)
      · have F2 := P.symm.trans F1
        refine br_t rfl ⟨dp_v8 (by omega), dp_v8 (by omega), ?_⟩
        rw [nI_clamp (show dp_hq K N 0 - 2 < 2 ^ 31 by omega), (H1 _ hl1).2 F1, (H1 _ hl2).2 F2]
        have C1 := (PI _ hl1).2 F1
        have C2 := (PI _ hl2).2 F2
        refine br_c (fun z => br_f (by decide) (Y1 _ (fun _ => rfl) (fun ⟨x, hx, ne⟩ => absurd ?_ ne))) (fun z => br_t rfl (Y1 _ (fun all => absurd (all 0 (by decide)) z) (fun _ => rfl)))
        rcases Nat.eq_zero_or_pos x with y | y
        · rw [y]; exact z
        · rw [C1.1 x y hx, C2.1 x y hx]
      · have F2 := P.symm.trans F1
        refine br_f (by decide) (xx_samePaths (e := dp_hq K N 0 - 2) (by omega) ((H1 _ hl2).1 F2) (fun x hx => ?_) (fun z => br_f (by decide) (Y1 _ (fun _ => rfl) (fun ⟨x, hx, ne⟩ => absurd (z x hx) ne))) (fun z => br_t rfl (Y1 _ (fun all => ?_) (fun _ => rfl))))
        · rw [show 32 * (dp_hq K N 0 - 2) + 32 + x = 32 * (dp_hq K N 0 - 1) + x from by omega]
          exact (H1 _ hl1).1 F1 x hx
        · obtain ⟨x, hx, ne⟩ := z
          exact absurd (all x hx) ne
    · refine br_f (fun w => P ?_) (YN (fun z => P z.2))
      revert w
      generalize dp_Fq K N 0 (dp_hq K N 0 - 1) = b1
      generalize dp_Fq K N 0 (dp_hq K N 0 - 2) = b2
      cases b1 <;> cases b2 <;> decide
  · exact br_t (nI_lt (b := 2) (by omega) (by decide)) (YN (fun z => h2 z.1))
