/-! the calls that only read -/
section XY
variable {c : Nat} {o lv : Nat → Nat} {pr : Int32} {tg vs : Nat → Int32} {K N : Nat → Nat} {A S ranks ends parents kx ax lx isp above al ed xw xs xb yw yb run rows mem held twin yp yr sp : Nat → Int32} {h hy : Int32}
theorem dp_rel {k : Nat} (R : dp_Re c o lv pr tg vs K N A S ranks ends parents kx ax lx isp above al ed xw xs xb yw yb h) : i_Rel k ((nI c), pr, h, (fun j => nI (o j)), (fun j => nI (lv j)), tg, vs, ranks, ends, parents, run, kx, ax, lx, isp, rows, mem, S, xw, xs, xb) ((nI c), hy, (fun j => nI (o j)), (dp_th pr), above, tg, vs, held, twin, (fun j => nI (K j)), A, (fun j => nI (N j)), yp, yr, sp, S, al, ed, yw, yb) :=
  ⟨c, o, lv, pr, tg, vs, K, N, A, S, ranks, ends, parents, kx, ax, lx, isp, above, al, ed, xw, xs, xb, yw, yb, run, rows, mem, held, twin, yp, yr, sp, h, hy, rfl, rfl, R⟩
theorem dp_node (T : dp_Tr c o lv pr) (v : Int32) : dp_isn pr v = false ∨ ∃ r, r < c ∧ v = nI (o r) := by
  cases e : dp_isn pr v
  · exact Or.inl rfl
  · exact Or.inr (dp_isn_o T e)
theorem dp_isn_yes (T : dp_Tr c o lv pr) {r : Nat} (hr : r < c) : dp_isn pr (nI (o r)) = true := by
  rw [dp_isn_at (T.1.2.2.1 r)]
  exact (T.2.1 _).mpr ⟨r, hr, rfl⟩
theorem dp_slot (v : Int32) : (v < 0 ∨ 3 ≤ v) ∨ ∃ s, s < 3 ∧ v = nI s := by
  rcases pk_ix v (n := 3) (by decide) with z | z | z
  · exact Or.inl (Or.inl z)
  · exact Or.inl (Or.inr z)
  · exact Or.inr z
end XY
section XI
variable {f_size f_present f_height : Int32} {a_order a_levels a_tags a_values a_ranks a_ends a_parents a_run a_kinds a_numbers a_lengths a_entryIsPath a_rows a_members a_wasSet a_watchNode a_selects a_selectedBefore : Nat → Int32} {c : Nat} {o lv : Nat → Nat} {pr v : Int32}
theorem xx_no (e : dp_isn f_present v = false) {post : Int32 → Prop} (h : post 0) : wpX_isNode post (f_size, f_present, f_height, a_order, a_levels, a_tags, a_values, a_ranks, a_ends, a_parents, a_run, a_kinds, a_numbers, a_lengths, a_entryIsPath, a_rows, a_members, a_wasSet, a_watchNode, a_selects, a_selectedBefore) v := xx_isNode (by rw [e]; exact h)
theorem xx_yes (T : dp_Tr c o lv f_present) {r : Nat} (hr : r < c) {post : Int32 → Prop} (h : post 1) : wpX_isNode post (f_size, f_present, f_height, a_order, a_levels, a_tags, a_values, a_ranks, a_ends, a_parents, a_run, a_kinds, a_numbers, a_lengths, a_entryIsPath, a_rows, a_members, a_wasSet, a_watchNode, a_selects, a_selectedBefore) (nI (o r)) := xx_isNode (by rw [dp_isn_yes T hr]; exact h)
theorem xx_slotNo (z : v < 0 ∨ 3 ≤ v) {post : Int32 → Prop} (h : post 0) : wpX_isSlot post v := br_c (fun _ => h) (fun n => br_t (z.resolve_left n) h)
theorem xx_slotYes {s : Nat} (hs : s < 3) {post : Int32 → Prop} (h : post 1) : wpX_isSlot post (nI s) := br_f (nI_pos (by omega)) (br_f (dp_ge3 hs) h)
end XI
section YI
variable {f_count f_height : Int32} {a_list a_there a_above a_tags a_values a_held a_twin a_kinds a_args a_sizes a_isPath a_rows a_spare a_isSet a_alive a_edited a_watchNode a_before : Nat → Int32} {c : Nat} {o lv : Nat → Nat} {pr v : Int32}
theorem yy_no (e : dp_isn pr v = false) {post : Int32 → Prop} (h : post 0) : wpY_isNode post (f_count, f_height, a_list, (dp_th pr), a_above, a_tags, a_values, a_held, a_twin, a_kinds, a_args, a_sizes, a_isPath, a_rows, a_spare, a_isSet, a_alive, a_edited, a_watchNode, a_before) v := yy_isNode (by rw [e]; exact h)
theorem yy_yes (T : dp_Tr c o lv pr) {r : Nat} (hr : r < c) {post : Int32 → Prop} (h : post 1) : wpY_isNode post (f_count, f_height, a_list, (dp_th pr), a_above, a_tags, a_values, a_held, a_twin, a_kinds, a_args, a_sizes, a_isPath, a_rows, a_spare, a_isSet, a_alive, a_edited, a_watchNode, a_before) (nI (o r)) := yy_isNode (by rw [dp_isn_yes T hr]; exact h)
theorem yy_slotNo (z : v < 0 ∨ 3 ≤ v) {post : Int32 → Prop} (h : post 0) : wpY_isSlot post (f_count, f_height, a_list, a_there, a_above, a_tags, a_values, a_held, a_twin, a_kinds, a_args, a_sizes, a_isPath, a_rows, a_spare, a_isSet, a_alive, a_edited, a_watchNode, a_before) v := br_c (fun _ => h) (fun n => br_t (Int32.lt_of_lt_of_le (show (2 : Int32) < 3 by decide) (z.resolve_left n)) h)
theorem yy_slotYes {s : Nat} (hs : s < 3) {post : Int32 → Prop} (h : post 1) : wpY_isSlot post (f_count, f_height, a_list, a_there, a_above, a_tags, a_values, a_held, a_twin, a_kinds, a_args, a_sizes, a_isPath, a_rows, a_spare, a_isSet, a_alive, a_edited, a_watchNode, a_before) (nI s) := br_f (nI_pos (by omega)) (br_f (nI_nlt (b := s) (a := 2) (by omega) (by decide)) h)
end YI
theorem i_vc_nodes {k : Nat} {u : SX} {v : SY} (I : i_Rel k u v) (hk : k + 4 ≤ 2048) : wpX_nodes (fun r => wpY_nodes (fun r' => r' = r ∧ i_Rel (k + 4) u v) v) u := by
  have I0 : i_Rel (k + 4) u v := I
  obtain ⟨c, o, lv, pr, tg, vs, K, N, A, S, ranks, ends, parents, kx, ax, lx, isp, above, al, ed, xw, xs, xb, yw, yb, run, rows, mem, held, twin, yp, yr, sp, h, hy, rfl, rfl, R⟩ := I
  have R' := R
  obtain ⟨T, hv, X, B, G, Q, W⟩ := R'
  have ho := T.1.2.2.1
  have hc := T.1.1
  exact ⟨rfl, I0⟩
theorem i_vc_nodeAt {k : Nat} {u : SX} {v : SY} (I : i_Rel k u v) (hk : k + 4 ≤ 2048) (v1 : Int32) : wpX_nodeAt (fun r => wpY_nodeAt (fun r' => r' = r ∧ i_Rel (k + 4) u v) v v1) u v1 := by
  have I0 : i_Rel (k + 4) u v := I
  obtain ⟨c, o, lv, pr, tg, vs, K, N, A, S, ranks, ends, parents, kx, ax, lx, isp, above, al, ed, xw, xs, xb, yw, yb, run, rows, mem, held, twin, yp, yr, sp, h, hy, rfl, rfl, R⟩ := I
  have R' := R
  obtain ⟨T, hv, X, B, G, Q, W⟩ := R'
  have ho := T.1.2.2.1
  have hc := T.1.1
  by_cases h0 : v1 < 0
  · exact br_t h0 (br_t h0 ⟨rfl, I0⟩)
  · obtain ⟨j, hj, rfl⟩ := nI_of h0
    by_cases hc : j < c
    · have vj := dp_v32 (show j < 32 by omega)
      exact br_f h0 (br_t (nI_lt hc (by omega)) ⟨vj, br_f h0 (br_f (nI_ge hc (by omega)) ⟨vj, rfl, I0⟩)⟩)
    · exact br_f h0 (br_f (nI_nlt (by omega) hj) (br_f h0 (br_t (nI_le (by omega) hj) ⟨rfl, I0⟩)))
theorem i_vc_childAt {k : Nat} {u : SX} {v : SY} (I : i_Rel k u v) (hk : k + 4 ≤ 2048) (v1 : Int32) (v2 : Int32) : wpX_childAt (fun r => wpY_childAt (fun r' => r' = r ∧ i_Rel (k + 4) u v) v v1 v2) u v1 v2 := by
  have I0 : i_Rel (k + 4) u v := I
  obtain ⟨c, o, lv, pr, tg, vs, K, N, A, S, ranks, ends, parents, kx, ax, lx, isp, above, al, ed, xw, xs, xb, yw, yb, run, rows, mem, held, twin, yp, yr, sp, h, hy, rfl, rfl, R⟩ := I
  have R' := R
  obtain ⟨T, hv, X, B, G, Q, W⟩ := R'
  have ho := T.1.2.2.1
  have hc := T.1.1
  unfold wpX_childAt wpY_childAt
  rcases dp_node T v1 with e | ⟨r, hr, rfl⟩
  · exact xx_no e (br_t rfl (yy_no e (br_t rfl ⟨rfl, I0⟩)))
  · refine xx_yes T hr (br_f (by decide) (xx_findChild T.1 X hr (yy_yes T hr (br_f (by decide) (br_c (fun z => ⟨?_, I0⟩) (fun z => yy_child T.1 B hr ⟨rfl, I0⟩))))))
    rw [dp_fk_neg z (by omega)]; rfl
theorem i_vc_tagOf {k : Nat} {u : SX} {v : SY} (I : i_Rel k u v) (hk : k + 4 ≤ 2048) (v1 : Int32) : wpX_tagOf (fun r => wpY_tagOf (fun r' => r' = r ∧ i_Rel (k + 4) u v) v v1) u v1 := by
  have I0 : i_Rel (k + 4) u v := I
  obtain ⟨c, o, lv, pr, tg, vs, K, N, A, S, ranks, ends, parents, kx, ax, lx, isp, above, al, ed, xw, xs, xb, yw, yb, run, rows, mem, held, twin, yp, yr, sp, h, hy, rfl, rfl, R⟩ := I
  have R' := R
  obtain ⟨T, hv, X, B, G, Q, W⟩ := R'
  have ho := T.1.2.2.1
  have hc := T.1.1
  unfold wpX_tagOf wpY_tagOf
  rcases dp_node T v1 with e | ⟨r, hr, rfl⟩
  · exact xx_no e (br_t rfl (yy_no e (br_t rfl ⟨rfl, I0⟩)))
  · exact xx_yes T hr (br_f (by decide) ⟨dp_v32 (ho r), yy_yes T hr (br_f (by decide) ⟨dp_v32 (ho r), rfl, I0⟩)⟩)
theorem i_vc_valueOf {k : Nat} {u : SX} {v : SY} (I : i_Rel k u v) (hk : k + 4 ≤ 2048) (v1 : Int32) : wpX_valueOf (fun r => wpY_valueOf (fun r' => r' = r ∧ i_Rel (k + 4) u v) v v1) u v1 := by
  have I0 : i_Rel (k + 4) u v := I
  obtain ⟨c, o, lv, pr, tg, vs, K, N, A, S, ranks, ends, parents, kx, ax, lx, isp, above, al, ed, xw, xs, xb, yw, yb, run, rows, mem, held, twin, yp, yr, sp, h, hy, rfl, rfl, R⟩ := I
  have R' := R
  obtain ⟨T, hv, X, B, G, Q, W⟩ := R'
  have ho := T.1.2.2.1
  have hc := T.1.1
  unfold wpX_valueOf wpY_valueOf
  rcases dp_node T v1 with e | ⟨r, hr, rfl⟩
  · exact xx_no e (br_t rfl (yy_no e (br_t rfl ⟨rfl, I0⟩)))
  · exact xx_yes T hr (br_f (by decide) ⟨dp_v32 (ho r), yy_yes T hr (br_f (by decide) ⟨dp_v32 (ho r), rfl, I0⟩)⟩)
theorem i_vc_watched {k : Nat} {u : SX} {v : SY} (I : i_Rel k u v) (hk : k + 4 ≤ 2048) (v1 : Int32) (v2 : Int32) : wpX_watched (fun r => wpY_watched (fun r' v' => r' = r ∧ i_Rel (k + 4) u v') v v1 v2) u v1 v2 := by
  have I0 : i_Rel (k + 4) u v := I
  obtain ⟨c, o, lv, pr, tg, vs, K, N, A, S, ranks, ends, parents, kx, ax, lx, isp, above, al, ed, xw, xs, xb, yw, yb, run, rows, mem, held, twin, yp, yr, sp, h, hy, rfl, rfl, R⟩ := I
  have R' := R
  obtain ⟨T, hv, X, B, G, Q, W⟩ := R'
  have ho := T.1.2.2.1
  have hc := T.1.1
  unfold wpX_watched
  rcases dp_slot v1 with e | ⟨s, hs, rfl⟩
  · have YN : wpY_watched (fun r' v' => r' = -1 ∧ i_Rel (k + 4) ((nI c), pr, h, (fun j => nI (o j)), (fun j => nI (lv j)), tg, vs, ranks, ends, parents, run, kx, ax, lx, isp, rows, mem, S, xw, xs, xb) v') ((nI c), hy, (fun j => nI (o j)), (dp_th pr), above, tg, vs, held, twin, (fun j => nI (K j)), A, (fun j => nI (N j)), yp, yr, sp, S, al, ed, yw, yb) v1 v2 := by
      unfold wpY_watched
      exact yy_slotNo e (br_t rfl ⟨rfl, I0⟩)
    exact xx_slotNo e (br_t rfl YN)
  · have cl : (nI s).toNatClampNeg = s := nI_clamp (by omega)
    have v3 := dp_v3 hs
    refine xx_slotYes hs (br_f (by decide) ⟨v3, ?_⟩)
    rw [cl]
    have Y0 : ∀ r, (S s = 0 → r = -1) → (¬ S s = 0 → r = dp_an o (-2) (dp_fk (fun i => bt (xs s) (o i)) v2 c)) → wpY_watched (fun r' v' => r' = r ∧ i_Rel (k + 4) ((nI c), pr, h, (fun j => nI (o j)), (fun j => nI (lv j)), tg, vs, ranks, ends, parents, run, kx, ax, lx, isp, rows, mem, S, xw, xs, xb) v') ((nI c), hy, (fun j => nI (o j)), (dp_th pr), above, tg, vs, held, twin, (fun j => nI (K j)), A, (fun j => nI (N j)), yp, yr, sp, S, al, ed, yw, yb) (nI s) v2 := fun r r1 r2 => by
      unfold wpY_watched
      refine yy_slotYes hs (br_f (by decide) ⟨v3, ?_⟩)
      rw [cl]
      refine br_c (fun z => ⟨(r1 z).symm, I0⟩) (fun z => yy_selection T B G hs (W s hs) (fun hy2 R2 P2 Z2 => br_c (fun y => yy_kth ho hc ⟨(r2 z).symm, dp_rel R⟩) (fun y => ⟨?_, dp_rel R⟩)))
      rw [r2 z, dp_fk_neg (Int32.not_le.mp y) (by omega)]; rfl
    refine br_c (fun z => Y0 _ (fun _ => rfl) (fun n => absurd z n)) (fun z => ⟨v3, xx_pick ho hc ?_⟩)
    cases e : dp_fk (fun i => bt (xs s) (o i)) v2 c with
    | none => exact br_t rfl (Y0 _ (fun y => absurd y z) (fun _ => by rw [e]; rfl))
    | some i => exact br_f (dp_nle1 (Nat.lt_trans (ho i) (by decide))) (Y0 _ (fun y => absurd y z) (fun _ => by rw [e]; rfl))
theorem i_vc_gained {k : Nat} {u : SX} {v : SY} (I : i_Rel k u v) (hk : k + 4 ≤ 2048) (v1 : Int32) : wpX_gained (fun r => wpY_gained (fun r' v' => r' = r ∧ i_Rel (k + 4) u v') v v1) u v1 := by
  have I0 : i_Rel (k + 4) u v := I
  obtain ⟨c, o, lv, pr, tg, vs, K, N, A, S, ranks, ends, parents, kx, ax, lx, isp, above, al, ed, xw, xs, xb, yw, yb, run, rows, mem, held, twin, yp, yr, sp, h, hy, rfl, rfl, R⟩ := I
  have R' := R
  obtain ⟨T, hv, X, B, G, Q, W⟩ := R'
  have ho := T.1.2.2.1
  have hc := T.1.1
  unfold wpX_gained wpY_gained
  rcases dp_slot v1 with e | ⟨s, hs, rfl⟩
  · exact xx_slotNo e (br_t rfl (yy_slotNo e (br_t rfl ⟨rfl, I0⟩)))
  · have cl : (nI s).toNatClampNeg = s := nI_clamp (by omega)
    have v3 := dp_v3 hs
    have ws := W s hs
    refine xx_slotYes hs (br_f (by decide) ⟨v3, v3, xx_countBits ?_⟩)
    rw [cl]
    have nil : ¬ (S s = 1 ∧ ed s = 1) → nI (dp_fc (bt (xs s &&& (xb s ^^^ (-1)))) 32) = 0 := fun z => by
      rw [ws.2.2.2.2 z, dp_fc_none (fun i hi => by rw [b_and, dp_bt_not _ hi]; cases bt (xs s) i <;> rfl)]; rfl
    refine yy_slotYes hs (br_f (by decide) ⟨v3, ?_⟩)
    refine br_c (fun z => ⟨(nil (fun q => by rw [z] at q; exact absurd q.1 (by decide))).symm, I0⟩) (fun z => ⟨v3, br_c (fun y => ⟨(nil (fun q => by rw [y] at q; exact absurd q.2 (by decide))).symm, I0⟩) (fun y => yy_selection T B G hs ws (fun hy2 R2 P2 Z2 => ⟨v3, yy_ones ⟨?_, dp_rel R⟩⟩))⟩)
    rw [ws.2.2.2.1 ⟨ws.1.resolve_left z, ws.2.1.resolve_left y⟩]
theorem i_vc_lost {k : Nat} {u : SX} {v : SY} (I : i_Rel k u v) (hk : k + 4 ≤ 2048) (v1 : Int32) : wpX_lost (fun r => wpY_lost (fun r' v' => r' = r ∧ i_Rel (k + 4) u v') v v1) u v1 := by
  have I0 : i_Rel (k + 4) u v := I
  obtain ⟨c, o, lv, pr, tg, vs, K, N, A, S, ranks, ends, parents, kx, ax, lx, isp, above, al, ed, xw, xs, xb, yw, yb, run, rows, mem, held, twin, yp, yr, sp, h, hy, rfl, rfl, R⟩ := I
  have R' := R
  obtain ⟨T, hv, X, B, G, Q, W⟩ := R'
  have ho := T.1.2.2.1
  have hc := T.1.1
  unfold wpX_lost wpY_lost
  rcases dp_slot v1 with e | ⟨s, hs, rfl⟩
  · exact xx_slotNo e (br_t rfl (yy_slotNo e (br_t rfl ⟨rfl, I0⟩)))
  · have cl : (nI s).toNatClampNeg = s := nI_clamp (by omega)
    have v3 := dp_v3 hs
    have ws := W s hs
    refine xx_slotYes hs (br_f (by decide) ⟨v3, v3, xx_countBits ?_⟩)
    rw [cl]
    have nil : ¬ (S s = 1 ∧ ed s = 1) → nI (dp_fc (bt (xb s &&& (xs s ^^^ (-1)))) 32) = 0 := fun z => by
      rw [ws.2.2.2.2 z, dp_fc_none (fun i hi => by rw [b_and, dp_bt_not _ hi]; cases bt (xs s) i <;> rfl)]; rfl
    refine yy_slotYes hs (br_f (by decide) ⟨v3, ?_⟩)
    refine br_c (fun z => ⟨(nil (fun q => by rw [z] at q; exact absurd q.1 (by decide))).symm, I0⟩) (fun z => ⟨v3, br_c (fun y => ⟨(nil (fun q => by rw [y] at q; exact absurd q.2 (by decide))).symm, I0⟩) (fun y => yy_selection T B G hs ws (fun hy2 R2 P2 Z2 => ⟨v3, yy_ones ⟨?_, dp_rel R⟩⟩))⟩)
    rw [ws.2.2.2.1 ⟨ws.1.resolve_left z, ws.2.1.resolve_left y⟩]
