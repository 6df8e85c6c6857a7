/-! the calls that read the query -/
section QX
variable {f_size f_present f_height : Int32} {a_order a_levels a_tags a_values a_ranks a_ends a_parents a_run a_kinds a_numbers a_lengths a_entryIsPath a_rows a_members a_wasSet a_watchNode a_selects a_selectedBefore : Nat → Int32} {x : Nat}
def dp_sm (f : Nat → Int32) : Nat → Int32
  | 0 => 0
  | x + 1 => dp_sm f x + nI (dp_fc (bt (f x)) 32)
theorem xx_pairs_l {e : Nat} {p : Nat → Int32} (he : e < 8) (hp : ∀ x, x < 32 → a_rows (32 * e + x) = p x) {post : Int32 → SX → Prop} (h : post (dp_sm p 32) (f_size, f_present, f_height, a_order, a_levels, a_tags, a_values, a_ranks, a_ends, a_parents, a_run, a_kinds, a_numbers, a_lengths, a_entryIsPath, a_rows, a_members, a_wasSet, a_watchNode, a_selects, a_selectedBefore)) : ∀ d x, x + d = 32 → wX_pairs_22 post (nI (32 * e)) f_size f_present f_height a_order a_levels a_tags a_values a_ranks a_ends a_parents a_run a_kinds a_numbers a_lengths a_entryIsPath a_rows a_members a_wasSet a_watchNode a_selects a_selectedBefore (d + 1) (dp_sm p x) (nI x) := by
  intro d
  induction d with
  | zero =>
    intro x hx
    obtain rfl : x = 32 := by omega
    exact br_t dp_le32 h
  | succ d ih =>
    intro x hx
    refine br_f (dp_ge32 (by omega)) ?_
    simp only [nI_add, dp_cl256 (show 32 * e + x < 256 by omega), hp x (by omega)]
    exact ⟨dp_v256 (by omega), xx_countBits (nm_e (nm_r (nI_1 x) (ih (x + 1) (by omega))))⟩
theorem xx_samePaths_l {e : Nat} {p q : Nat → Int32} (he : e < 7) (hp : ∀ x, x < 32 → a_rows (32 * e + x) = p x) (hq : ∀ x, x < 32 → a_rows (32 * e + 32 + x) = q x) {post : Int32 → Prop} (h1 : (∀ x, x < 32 → p x = q x) → post 1) (h0 : (∃ x, x < 32 ∧ p x ≠ q x) → post 0) : ∀ d x, x + d = 32 → (∀ y, y < x → p y = q y) → wX_samePaths_7 post (nI (32 * e)) f_size f_present f_height a_order a_levels a_tags a_values a_ranks a_ends a_parents a_run a_kinds a_numbers a_lengths a_entryIsPath a_rows a_members a_wasSet a_watchNode a_selects a_selectedBefore (d + 1) (nI x) := by
  intro d
  induction d with
  | zero =>
    intro x hx H
    obtain rfl : x = 32 := by omega
    exact br_t dp_le32 (h1 H)
  | succ d ih =>
    intro x hx H
    refine br_f (dp_ge32 (by omega)) ?_
    simp only [dp_p32, nI_add, dp_cl256 (show 32 * e + x < 256 by omega), dp_cl256 (show 32 * e + 32 + x < 256 by omega), hp x (by omega), hq x (by omega)]
    refine ⟨dp_v256 (by omega), dp_v256 (by omega), br_c (fun z => nm_r (nI_1 x) (ih (x + 1) (by omega) (fun y hy => ?_))) (fun z => h0 ⟨x, by omega, z⟩)⟩
    rcases Nat.lt_or_ge y x with w | w
    · exact H y w
    · rw [show y = x from by omega]; exact z
theorem xx_samePaths {e : Nat} {p q : Nat → Int32} (he : e < 7) (hp : ∀ x, x < 32 → a_rows (32 * e + x) = p x) (hq : ∀ x, x < 32 → a_rows (32 * e + 32 + x) = q x) {post : Int32 → Prop} (h1 : (∀ x, x < 32 → p x = q x) → post 1) (h0 : (∃ x, x < 32 ∧ p x ≠ q x) → post 0) : wpX_samePaths post (f_size, f_present, f_height, a_order, a_levels, a_tags, a_values, a_ranks, a_ends, a_parents, a_run, a_kinds, a_numbers, a_lengths, a_entryIsPath, a_rows, a_members, a_wasSet, a_watchNode, a_selects, a_selectedBefore) (nI e) := nm_r (dp_m32 e) ⟨33, xx_samePaths_l he hp hq h1 h0 32 0 rfl (fun y hy => absurd hy (Nat.not_lt_zero y))⟩
end QX
section QY
variable {f_count f_height : Int32} {a_list a_there a_above a_tags a_values a_held a_twin a_kinds a_args a_sizes a_isPath a_rows a_spare a_isSet a_alive a_edited a_watchNode a_before : Nat → Int32}
theorem yy_pairs_l {h : Nat} {p : Nat → Int32} (h0 : 0 < h) (h8 : h ≤ 8) (hp : ∀ x, x < 32 → a_rows (32 * (h - 1) + x) = p x) {post : Int32 → SY → Prop} (H : post (dp_sm p 32) (f_count, (nI h), a_list, a_there, a_above, a_tags, a_values, a_held, a_twin, a_kinds, a_args, a_sizes, a_isPath, a_rows, a_spare, a_isSet, a_alive, a_edited, a_watchNode, a_before)) : ∀ d x, x + d = 32 → wY_pairs_14 post f_count (nI h) a_list a_there a_above a_tags a_values a_held a_twin a_kinds a_args a_sizes a_isPath a_rows a_spare a_isSet a_alive a_edited a_watchNode a_before (d + 1) (dp_sm p x) (nI x) := by
  intro d
  induction d with
  | zero =>
    intro x hx
    obtain rfl : x = 32 := by omega
    exact br_t dp_le32 H
  | succ d ih =>
    intro x hx
    exact br_f (dp_ge32 (by omega)) (yy_topRow h0 h8 (by omega) (hp x (by omega)) (yy_ones (nm_e (nm_r (nI_1 x) (ih (x + 1) (by omega))))))
theorem yy_same_l {h : Nat} {p q : Nat → Int32} (h0 : 1 < h) (h8 : h ≤ 8) (hp : ∀ x, x < 32 → a_rows (32 * (h - 1) + x) = q x) (hq : ∀ x, x < 32 → a_rows (32 * (h - 2) + x) = p x) {post : Int32 → SY → Prop} (H1 : (∀ x, x < 32 → p x = q x) → post 1 (f_count, (nI h), a_list, a_there, a_above, a_tags, a_values, a_held, a_twin, a_kinds, a_args, a_sizes, a_isPath, a_rows, a_spare, a_isSet, a_alive, a_edited, a_watchNode, a_before)) (H0 : (∃ x, x < 32 ∧ p x ≠ q x) → post 0 (f_count, (nI h), a_list, a_there, a_above, a_tags, a_values, a_held, a_twin, a_kinds, a_args, a_sizes, a_isPath, a_rows, a_spare, a_isSet, a_alive, a_edited, a_watchNode, a_before)) : ∀ d x s, x + d = 32 → (s = 1 ∧ ∀ y, y < x → p y = q y) ∨ (s = 0 ∧ ∃ y, y < x ∧ p y ≠ q y) → wY_same_44 post f_count (nI h) a_list a_there a_above a_tags a_values a_held a_twin a_kinds a_args a_sizes a_isPath a_rows a_spare a_isSet a_alive a_edited a_watchNode a_before (d + 1) s (nI x) := by
  have e1 : (32 : Int32) * nI h - 32 = nI (32 * (h - 1)) := by
    rw [dp_32m, show nI (32 * h) - 32 = nI (32 * h) - nI 32 from rfl, pk_sub (by omega), show 32 * h - 32 = 32 * (h - 1) from by omega]
  have e2 : (32 : Int32) * nI h - 64 = nI (32 * (h - 2)) := by
    rw [dp_32m, show nI (32 * h) - 64 = nI (32 * h) - nI 64 from rfl, pk_sub (by omega), show 32 * h - 64 = 32 * (h - 2) from by omega]
  intro d
  induction d with
  | zero =>
    intro x s hx H
    obtain rfl : x = 32 := by omega
    rcases H with ⟨rfl, H⟩ | ⟨rfl, H⟩
    · exact br_t dp_le32 (H1 H)
    · exact br_t dp_le32 (H0 H)
  | succ d ih =>
    intro x s hx H
    refine br_f (dp_ge32 (by omega)) ?_
    simp only [e1, e2, nI_add, dp_cl256 (show 32 * (h - 1) + x < 256 by omega), dp_cl256 (show 32 * (h - 2) + x < 256 by omega), hp x (by omega), hq x (by omega)]
    refine ⟨dp_v256 (by omega), dp_v256 (by omega), br_c (fun z => nm_r (nI_1 x) (ih (x + 1) s (by omega) ?_)) (fun z => nm_r (nI_1 x) (ih (x + 1) 0 (by omega) (Or.inr ⟨rfl, x, by omega, fun w => z w.symm⟩)))⟩
    rcases H with ⟨hs, H⟩ | ⟨hs, y, hy, H⟩
    · refine Or.inl ⟨hs, fun y hy => ?_⟩
      rcases Nat.lt_or_ge y x with w | w
      · exact H y w
      · rw [show y = x from by omega]; exact z.symm
    · exact Or.inr ⟨hs, y, by omega, H⟩
end QY
theorem i_vc_select {k : Nat} {u : SX} {v : SY} (I : i_Rel k u v) (hk : k + 4 ≤ 2048) (v1 : Int32) (v2 : Int32) : wpX_select (fun r u' => wpY_select (fun r' v' => r' = r ∧ i_Rel (k + 4) u' v') v v1 v2) u v1 v2 := by
  obtain ⟨c, o, lv, pr, tg, vs, K, N, A, S, ranks, ends, parents, kx, ax, lx, isp, above, al, ed, xw, xs, xb, yw, yb, run, rows, mem, held, twin, yp, yr, sp, h, hy, rfl, rfl, R⟩ := I
  have R' := R
  obtain ⟨T, hv, X, B, G, Q, W⟩ := R'
  have ho := T.1.2.2.1
  have hc := T.1.1
  unfold wpX_select wpY_select
  rcases dp_node T v1 with e | ⟨r, hr, rfl⟩
  · exact xx_no e (br_t rfl (yy_no e (br_t rfl ⟨rfl, dp_rel R⟩)))
  · refine xx_yes T hr (br_f (by decide) (xx_topIsPath G Q ?_))
    by_cases P : 0 < dp_hq K N 0 ∧ dp_Fq K N 0 (dp_hq K N 0 - 1) = true
    · rw [dp_c_t (decide_eq_true P)]
      have h8 : dp_hq K N 0 ≤ 8 := dp_h8 (G 0 (by decide)).2.1 (Nat.le_refl _)
      refine br_f (by decide) (xx_rowOfTop T X hv G P.1 P.2 (ho r) (fun R1 m1 => xx_pick ho hc ?_))
      have fin : ∀ a, a = dp_an o (-2) (dp_fk (fun i => bt (dp_sv c o (fun r => lv (o r)) pr tg vs K N A 0 (o r)) (o i)) v2 c) → wpY_select (fun r' v' => r' = a ∧ i_Rel (k + 4) ((nI c), pr, h, (fun j => nI (o j)), (fun j => nI (lv j)), tg, vs, ranks, ends, parents, run, kx, ax, lx, isp, R1, m1, S, xw, xs, xb) v') ((nI c), hy, (fun j => nI (o j)), (dp_th pr), above, tg, vs, held, twin, (fun j => nI (K j)), A, (fun j => nI (N j)), yp, yr, sp, S, al, ed, yw, yb) (nI (o r)) v2 := fun a ea => by
        unfold wpY_select
        refine yy_yes T hr (br_f (by decide) (yy_topIs (b := true) T B G (fun R2 P2 Z2 H => ?_)))
        rw [dp_c_t (decide_eq_true P)]
        refine br_f (by decide) (yy_topRow P.1 h8 (ho r) ((H _ (show dp_hq K N 0 - 1 < dp_hq K N 0 by omega)).2 (o r) (ho r)) (br_c (fun z => yy_kth ho hc ⟨ea.symm, dp_rel R⟩) (fun z => ⟨?_, dp_rel R⟩)))
        rw [ea, dp_fk_neg (Int32.not_le.mp z) (by omega)]; rfl
      cases e : dp_fk (fun i => bt (dp_sv c o (fun r => lv (o r)) pr tg vs K N A 0 (o r)) (o i)) v2 c with
      | none => exact br_t rfl (fin _ (by rw [e]; rfl))
      | some i => exact br_f (dp_nle1 (Nat.lt_trans (ho i) (by decide))) (fin _ (by rw [e]; rfl))
    · rw [dp_c_f (decide_eq_false P)]
      refine br_t rfl (yy_yes T hr (br_f (by decide) (yy_topIs (b := true) T B G (fun R2 P2 Z2 H => ?_))))
      rw [dp_c_f (decide_eq_false P)]
      exact br_t rfl ⟨rfl, dp_rel R⟩
theorem i_vc_selected {k : Nat} {u : SX} {v : SY} (I : i_Rel k u v) (hk : k + 4 ≤ 2048) (v1 : Int32) : wpX_selected (fun r u' => wpY_selected (fun r' v' => r' = r ∧ i_Rel (k + 4) u' v') v v1) u v1 := by
  obtain ⟨c, o, lv, pr, tg, vs, K, N, A, S, ranks, ends, parents, kx, ax, lx, isp, above, al, ed, xw, xs, xb, yw, yb, run, rows, mem, held, twin, yp, yr, sp, h, hy, rfl, rfl, R⟩ := I
  have R' := R
  obtain ⟨T, hv, X, B, G, Q, W⟩ := R'
  have ho := T.1.2.2.1
  have hc := T.1.1
  unfold wpX_selected wpY_selected
  rcases dp_node T v1 with e | ⟨r, hr, rfl⟩
  · exact xx_no e (br_t rfl (yy_no e (br_t rfl ⟨rfl, dp_rel R⟩)))
  · refine xx_yes T hr (br_f (by decide) (xx_topIsPath G Q ?_))
    by_cases P : 0 < dp_hq K N 0 ∧ dp_Fq K N 0 (dp_hq K N 0 - 1) = true
    · rw [dp_c_t (decide_eq_true P)]
      have h8 : dp_hq K N 0 ≤ 8 := dp_h8 (G 0 (by decide)).2.1 (Nat.le_refl _)
      refine br_f (by decide) (xx_rowOfTop T X hv G P.1 P.2 (ho r) (fun R1 m1 => xx_countBits (yy_yes T hr (br_f (by decide) (yy_topIs (b := true) T B G (fun R2 P2 Z2 H => ?_))))))
      rw [dp_c_t (decide_eq_true P)]
      exact br_f (by decide) (yy_topRow P.1 h8 (ho r) ((H _ (show dp_hq K N 0 - 1 < dp_hq K N 0 by omega)).2 (o r) (ho r)) (yy_ones ⟨rfl, dp_rel R⟩))
    · rw [dp_c_f (decide_eq_false P)]
      refine br_t rfl (yy_yes T hr (br_f (by decide) (yy_topIs (b := true) T B G (fun R2 P2 Z2 H => ?_))))
      rw [dp_c_f (decide_eq_false P)]
      exact br_t rfl ⟨rfl, dp_rel R⟩
theorem i_vc_related {k : Nat} {u : SX} {v : SY} (I : i_Rel k u v) (hk : k + 4 ≤ 2048) (v1 : Int32) (v2 : Int32) : wpX_related (fun r u' => wpY_related (fun r' v' => r' = r ∧ i_Rel (k + 4) u' v') v v1 v2) u v1 v2 := by
  obtain ⟨c, o, lv, pr, tg, vs, K, N, A, S, ranks, ends, parents, kx, ax, lx, isp, above, al, ed, xw, xs, xb, yw, yb, run, rows, mem, held, twin, yp, yr, sp, h, hy, rfl, rfl, R⟩ := I
  have R' := R
  obtain ⟨T, hv, X, B, G, Q, W⟩ := R'
  have ho := T.1.2.2.1
  have hc := T.1.1
  unfold wpX_related wpY_related
  rcases dp_node T v1 with e | ⟨r, hr, rfl⟩
  · exact xx_no e (br_t rfl (yy_no e (br_t rfl ⟨rfl, dp_rel R⟩)))
  rcases dp_node T v2 with e | ⟨r2, hr2, rfl⟩
  · exact xx_yes T hr (br_f (by decide) (xx_no e (br_t rfl (yy_yes T hr (br_f (by decide) (yy_no e (br_t rfl ⟨rfl, dp_rel R⟩)))))))
  · refine xx_yes T hr (br_f (by decide) (xx_yes T hr2 (br_f (by decide) (xx_topIsPath G Q ?_))))
    by_cases P : 0 < dp_hq K N 0 ∧ dp_Fq K N 0 (dp_hq K N 0 - 1) = true
    · rw [dp_c_t (decide_eq_true P)]
      have h8 : dp_hq K N 0 ≤ 8 := dp_h8 (G 0 (by decide)).2.1 (Nat.le_refl _)
      refine br_f (by decide) (xx_rowOfTop T X hv G P.1 P.2 (ho r) (fun R1 m1 => yy_yes T hr (br_f (by decide) (yy_yes T hr2 (br_f (by decide) (yy_topIs (b := true) T B G (fun R2 P2 Z2 H => ?_)))))))
      rw [dp_c_t (decide_eq_true P), dp_xb _ (ho r2)]
      refine br_f (by decide) (yy_topRow P.1 h8 (ho r) ((H _ (show dp_hq K N 0 - 1 < dp_hq K N 0 by omega)).2 (o r) (ho r)) (yy_in (ho r2) ?_))
      show ((dp_c (bt (dp_sv c o (fun r => lv (o r)) pr tg vs K N A 0 (o r)) (o r2)) = 0 → _) ∧ _)
      cases e : bt (dp_sv c o (fun r => lv (o r)) pr tg vs K N A 0 (o r)) (o r2)
      · exact br_t rfl ⟨rfl, dp_rel R⟩
      · exact br_f (by decide) ⟨rfl, dp_rel R⟩
    · rw [dp_c_f (decide_eq_false P)]
      refine br_t rfl (yy_yes T hr (br_f (by decide) (yy_yes T hr2 (br_f (by decide) (yy_topIs (b := true) T B G (fun R2 P2 Z2 H => ?_))))))
      rw [dp_c_f (decide_eq_false P)]
      exact br_t rfl ⟨rfl, dp_rel R⟩
