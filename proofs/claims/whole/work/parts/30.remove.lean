/-! remove -/
section RX
variable {f_size f_present f_height : Int32} {a_order a_levels a_tags a_values a_ranks a_ends a_parents a_run a_kinds a_numbers a_lengths a_entryIsPath a_rows a_members a_wasSet a_watchNode a_selects a_selectedBefore : Nat → Int32} {c a k : Nat} {o : Nat → Nat} {pr : Int32}
theorem xx_rem_l (ho : ∀ r, o r < 32) (hak : a + k ≤ 32) {post : Int32 → SX → Prop} (h : wX_remove_36 post (nI a) (nI k) f_size f_height (fun j => nI (o j)) a_levels a_tags a_values a_ranks a_ends a_parents a_run a_kinds a_numbers a_lengths a_entryIsPath a_rows a_members a_wasSet a_watchNode a_selects a_selectedBefore 1 (nI (a + k)) (dp_pc o a pr k)) : ∀ d i, i + d = k → wX_remove_36 post (nI a) (nI k) f_size f_height (fun j => nI (o j)) a_levels a_tags a_values a_ranks a_ends a_parents a_run a_kinds a_numbers a_lengths a_entryIsPath a_rows a_members a_wasSet a_watchNode a_selects a_selectedBefore (d + 1) (nI (a + i)) (dp_pc o a pr i) := by
  intro d
  induction d with
  | zero =>
    intro i hi
    obtain rfl : i = k := by omega
    exact h
  | succ d ih =>
    intro i hi
    refine br_f (by rw [nI_add]; exact nI_ge (by omega) (by omega)) ⟨dp_v32 (by omega), ?_⟩
    simp only [dp_cl32 (show a + i < 32 by omega)]
    exact nm_e (nm_r (nI_1 (a + i)) (ih (i + 1) (by omega)))
theorem xx_endW_l {post : SX → Prop} (h : ∀ w' : Nat → Int32, (∀ s, s < 3 → (dp_isn f_present (a_watchNode s) = true → w' s = a_watchNode s) ∧ (dp_isn f_present (a_watchNode s) = false → w' s = -1)) → post (f_size, f_present, f_height, a_order, a_levels, a_tags, a_values, a_ranks, a_ends, a_parents, a_run, a_kinds, a_numbers, a_lengths, a_entryIsPath, a_rows, a_members, a_wasSet, w', a_selects, a_selectedBefore)) : ∀ d i (w' : Nat → Int32), i + d = 3 → (∀ s, s < i → (dp_isn f_present (a_watchNode s) = true → w' s = a_watchNode s) ∧ (dp_isn f_present (a_watchNode s) = false → w' s = -1)) → (∀ s, i ≤ s → w' s = a_watchNode s) → wX_endWatchesOfMissingNodes_2 post f_size f_present f_height (d + 1) (nI i) a_order a_levels a_tags a_values a_ranks a_ends a_parents a_run a_kinds a_numbers a_lengths a_entryIsPath a_rows a_members a_wasSet w' a_selects a_selectedBefore := by
  intro d
  induction d with
  | zero =>
    intro i w' hi H _
    obtain rfl : i = 3 := by omega
    exact br_t dp_le3 (h w' H)
  | succ d ih =>
    intro i w' hi H H2
    have cl : (nI i).toNatClampNeg = i := nI_clamp (by omega)
    refine br_f (dp_ge3 (by omega)) ⟨dp_v3 (by omega), xx_isNode ?_⟩
    simp only [cl, H2 i (Nat.le_refl _)]
    cases z : dp_isn f_present (a_watchNode i)
    · refine br_t rfl ⟨dp_v3 (by omega), nm_e (nm_r (nI_1 i) (ih (i + 1) _ (by omega) (fun s hs => ?_) (fun s hs => by rw [pk_un (by omega)]; exact H2 s (by omega))))⟩
      by_cases y : s = i
      · subst y
        exact ⟨fun q => (by rw [z] at q; cases q), fun _ => pk_us⟩
      · rw [pk_un y]; exact H s (by omega)
    · refine br_f (by decide) (nm_r (nI_1 i) (ih (i + 1) w' (by omega) (fun s hs => ?_) (fun s hs => H2 s (by omega))))
      by_cases y : s = i
      · subst y
        exact ⟨fun _ => H2 s (Nat.le_refl _), fun q => by rw [z] at q; cases q⟩
      · exact H s (by omega)
theorem xx_endWatches {post : SX → Prop} (h : ∀ w' : Nat → Int32, (∀ s, s < 3 → (dp_isn f_present (a_watchNode s) = true → w' s = a_watchNode s) ∧ (dp_isn f_present (a_watchNode s) = false → w' s = -1)) → post (f_size, f_present, f_height, a_order, a_levels, a_tags, a_values, a_ranks, a_ends, a_parents, a_run, a_kinds, a_numbers, a_lengths, a_entryIsPath, a_rows, a_members, a_wasSet, w', a_selects, a_selectedBefore)) : wpX_endWatchesOfMissingNodes post (f_size, f_present, f_height, a_order, a_levels, a_tags, a_values, a_ranks, a_ends, a_parents, a_run, a_kinds, a_numbers, a_lengths, a_entryIsPath, a_rows, a_members, a_wasSet, a_watchNode, a_selects, a_selectedBefore) := ⟨4, xx_endW_l h 3 0 _ rfl (fun s hs => absurd hs (Nat.not_lt_zero s)) (fun _ _ => rfl)⟩
end RX
def dp_ls (a y h : Int32) : Int32 := if a = 0 then 0 else if y = h then 0 else 1
def dp_la (a y : Int32) (h : Nat → Int32) : Nat → Int32
  | 0 => a
  | i + 1 => dp_ls (dp_la a y h i) y (h i)
theorem dp_la_0 {y : Int32} {h : Nat → Int32} : ∀ i, dp_la 0 y h i = 0
  | 0 => rfl
  | i + 1 => by
    show dp_ls (dp_la 0 y h i) y (h i) = 0
    rw [dp_la_0 i]; rfl
theorem dp_la_1 {y : Int32} {h : Nat → Int32} : ∀ i, (dp_la 1 y h i = 1 ∧ ∀ j, j < i → y ≠ h j) ∨ (dp_la 1 y h i = 0 ∧ ∃ j, j < i ∧ y = h j)
  | 0 => Or.inl ⟨rfl, fun j hj => absurd hj (Nat.not_lt_zero j)⟩
  | i + 1 => by
    show (dp_ls (dp_la 1 y h i) y (h i) = 1 ∧ _) ∨ (dp_ls (dp_la 1 y h i) y (h i) = 0 ∧ _)
    rcases dp_la_1 (y := y) (h := h) i with ⟨e, H⟩ | ⟨e, j, hj, H⟩
    · rw [e]
      by_cases z : y = h i
      · exact Or.inr ⟨by unfold dp_ls; rw [if_neg (by decide), if_pos z], i, by omega, z⟩
      · refine Or.inl ⟨by unfold dp_ls; rw [if_neg (by decide), if_neg z], fun j hj => ?_⟩
        rcases Nat.lt_or_ge j i with w | w
        · exact H j w
        · rw [show j = i from by omega]; exact z
    · rw [e]
      exact Or.inr ⟨rfl, j, by omega, H⟩
section RY
variable {f_count f_height : Int32} {a_list a_there a_above a_tags a_values a_held a_twin a_kinds a_args a_sizes a_isPath a_rows a_spare a_isSet a_alive a_edited a_watchNode a_before : Nat → Int32} {c a k : Nat} {o : Nat → Nat} {pr : Int32}
theorem yy_rem_in {x : Int32} {i : Nat} (hi : i < 32) {post : Int32 → SY → Prop} {J : Int32 → (Nat → Int32) → (Nat → Int32) → (Nat → Int32) → (Nat → Int32) → (Nat → Int32) → (Nat → Int32) → (Nat → Int32) → (Nat → Int32) → (Nat → Int32) → (Nat → Int32) → (Nat → Int32) → (Nat → Int32) → (Nat → Int32) → (Nat → Int32) → (Nat → Int32) → (Nat → Int32) → (Nat → Int32) → (Nat → Int32) → Prop} (h : ∀ al, (∀ s, s < 3 → al s = dp_ls (a_alive s) (a_watchNode s) (a_held i)) → J (nI (i + 1)) a_list a_there a_above a_tags a_values a_held a_twin a_kinds a_args a_sizes a_isPath a_rows a_spare a_isSet al a_edited a_watchNode a_before) : ∀ d s (al : Nat → Int32), s + d = 3 → (∀ t, t < s → al t = dp_ls (a_alive t) (a_watchNode t) (a_held i)) → (∀ t, s ≤ t → al t = a_alive t) → wY_remove_66 post J x (nI i) f_count f_height (d + 1) (nI s) a_list a_there a_above a_tags a_values a_held a_twin a_kinds a_args a_sizes a_isPath a_rows a_spare a_isSet al a_edited a_watchNode a_before := by
  intro d
  induction d with
  | zero =>
    intro s al hs H _
    obtain rfl : s = 3 := by omega
    exact br_t dp_le3 (nm_r (nI_1 i) (h al H))
  | succ d ih =>
    intro s al hs H H2
    have cl : (nI s).toNatClampNeg = s := nI_clamp (by omega)
    have v3 := dp_v3 (show s < 3 by omega)
    have go : ∀ v : Int32, v = dp_ls (a_alive s) (a_watchNode s) (a_held i) → wY_remove_66 post J x (nI i) f_count f_height (d + 1) (nI (s + 1)) a_list a_there a_above a_tags a_values a_held a_twin a_kinds a_args a_sizes a_isPath a_rows a_spare a_isSet (upd al s v) a_edited a_watchNode a_before := fun v hv => ih (s + 1) _ (by omega) (fun t ht => by
      by_cases y : t = s
      · subst y; rw [pk_us]; exact hv
      · rw [pk_un y]; exact H t (by omega)) (fun t ht => by rw [pk_un (by omega)]; exact H2 t (by omega))
    refine br_f (dp_ge3 (by omega)) ⟨v3, ?_⟩
    simp only [cl, H2 s (Nat.le_refl _), dp_cl32 hi]
    refine br_c (fun z => ⟨v3, nm_e (nm_r (nI_1 s) (go _ ?_))⟩) (fun z => ⟨v3, dp_v32 hi, br_c (fun y => ⟨v3, nm_e (nm_r (nI_1 s) (go _ ?_))⟩) (fun y => ⟨v3, nm_e (nm_r (nI_1 s) (go _ ?_))⟩)⟩)
    · unfold dp_ls; rw [if_pos z]; rfl
    · unfold dp_ls; rw [if_neg z, if_pos y]; rfl
    · unfold dp_ls; rw [if_neg z, if_neg y]; rfl
theorem yy_rem_out (ho : ∀ r, o r < 32) (hk : k ≤ 32) (hd : ∀ i, i < k → a_held i = nI (o (a + i))) {post : Int32 → SY → Prop} (h : ∀ al, (∀ s, s < 3 → al s = dp_la (a_alive s) (a_watchNode s) a_held k) → post (nI k) (f_count, f_height, a_list, (dp_th (dp_pc o a pr k)), a_above, a_tags, a_values, a_held, a_twin, a_kinds, a_args, a_sizes, a_isPath, a_rows, a_spare, a_isSet, al, a_edited, a_watchNode, a_before)) : ∀ d i (al : Nat → Int32), i + d = k → (∀ s, s < 3 → al s = dp_la (a_alive s) (a_watchNode s) a_held i) → wY_remove_44 post (nI k) f_count f_height (d + 1) (nI i) a_list (dp_th (dp_pc o a pr i)) a_above a_tags a_values a_held a_twin a_kinds a_args a_sizes a_isPath a_rows a_spare a_isSet al a_edited a_watchNode a_before := by
  intro d
  induction d with
  | zero =>
    intro i al hi H
    obtain rfl : i = k := by omega
    exact br_t (nI_le (Nat.le_refl _) (by omega)) (h al H)
  | succ d ih =>
    intro i al hi H
    refine br_f (nI_ge (by omega) (by omega)) ⟨dp_v32 (by omega), ?_⟩
    rw [dp_cl32 (show i < 32 by omega), hd i (by omega)]
    refine ⟨dp_v32 (ho _), ?_⟩
    rw [dp_cl32 (ho (a + i))]
    refine nm_r (e' := dp_th (dp_pc o a pr (i + 1))) (dp_th_clr (ho _)) ⟨4, ?_⟩
    exact yy_rem_in (a_alive := al) (by omega) (fun al2 H2 => ih (i + 1) al2 (by omega) (fun s hs => by rw [H2 s hs, H s hs]; rfl)) 3 0 al rfl (fun t ht => absurd ht (Nat.not_lt_zero t)) (fun _ _ => rfl)
end RY
theorem i_vc_remove {k : Nat} {u : SX} {v : SY} (I : i_Rel k u v) (hk : k + 4 ≤ 2048) (v1 : Int32) : wpX_remove (fun r u' => wpY_remove (fun r' v' => r' = r ∧ i_Rel (k + 4) u' v') v v1) u v1 := by
  obtain ⟨c, o, lv, pr, tg, vs, K, N, A, S, ranks, ends, parents, kx, ax, lx, isp, above, al, ed, xw, xs, xb, yw, yb, run, rows, mem, held, twin, yp, yr, sp, h, hy, rfl, rfl, R⟩ := I
  have R' := R
  obtain ⟨T, hv, X, B, G, Q, W⟩ := R'
  have ho := T.1.2.2.1
  have hc := T.1.1
  unfold wpX_remove
  rcases dp_node T v1 with e | ⟨a, ha, rfl⟩
  · refine xx_no e (br_t rfl ?_)
    show wpY_remove _ _ _
    unfold wpY_remove
    exact yy_no e (br_t rfl ⟨rfl, dp_rel R⟩)
  refine xx_yes T ha (br_f (by decide) ?_)
  by_cases z : nI (o a) = 0
  · refine br_t z ?_
    show wpY_remove _ _ _
    unfold wpY_remove
    exact yy_yes T ha (br_f (by decide) (br_t z ⟨rfl, dp_rel R⟩))
  have a0 : 0 < a := by
    rcases Nat.eq_zero_or_pos a with y | y
    · exact absurd (by rw [y, T.1.2.1]; rfl) z
    · exact y
  have E0 := dp_en_spec (fun r => lv (o r)) ha
  obtain ⟨m, hm⟩ : ∃ m, dp_en (fun r => lv (o r)) c a = a + m := ⟨dp_en (fun r => lv (o r)) c a - a, by have := E0.1; omega⟩
  have E : dp_Ed (fun r => lv (o r)) c a (a + m) := by rw [← hm]; exact E0
  have e1 := E.1
  have e2 := E.2.1
  obtain ⟨T', A'⟩ := dp_rem_T (ab := above) T a0 E
  refine br_f z ⟨dp_v32 (ho a), nm_r (e' := nI a) (by rw [dp_cl32 (ho a)]; exact (X.1 a ha).1) ⟨dp_v32 (ho a), nm_r (e' := nI m) (by rw [dp_cl32 (ho a), (X.1 a ha).2, hm, pk_sub (by omega), Nat.add_sub_cancel_left]) ⟨m + 1, ?_⟩⟩⟩
  refine xx_rem_l (pr := pr) ho (by omega) (br_t (by rw [nI_add]; exact nI_le (Nat.le_refl _) (by omega)) (xx_closeGap (by omega) hc e2 (xx_indexTree T'.1 (fun ra en pa X' => xx_endWatches (fun xw' Hw => ?_))))) m 0 (Nat.zero_add m)
  have L : ∀ al' : Nat → Int32, (∀ s, s < 3 → al' s = dp_la (al s) (yw s) (fun i => nI (o (a + i))) m) → ∀ s, s < 3 → (al' s = 0 ∧ xw' s = -1) ∨ (al s = 1 ∧ al' s = 1 ∧ xw' s = xw s ∧ ∀ w, xw s = nI w → bt pr w = true → bt (dp_pc o a pr m) w = true) := fun al' Ha s hs => by
    rcases (W s hs).2.2.1 with ⟨z1, z2, -⟩ | ⟨z1, z2, z3, z4, w, z5, z6, z7, -⟩
    · refine Or.inl ⟨by rw [Ha s hs, z1, dp_la_0], (Hw s hs).2 ?_⟩
      rw [z2]; unfold dp_isn; rw [decide_eq_false (fun q => absurd q.1 (by decide)), Bool.false_and]
    · have w32 := dp_bt_lt z5
      have is : dp_isn (dp_pc o a pr m) (xw s) = bt (dp_pc o a pr m) w := by rw [z6, dp_isn_at w32]
      rcases dp_la_1 (y := yw s) (h := fun i => nI (o (a + i))) m with ⟨l1, l2⟩ | ⟨l1, j, hj, l2⟩
      · have b : bt (dp_pc o a pr m) w = true := (dp_pc_bt ho w32 m).mpr ⟨z5, fun j hj e => l2 j hj (by rw [z7, e])⟩
        refine Or.inr ⟨z1, by rw [Ha s hs, z1]; exact l1, (Hw s hs).1 (by rw [is]; exact b), fun w' e hb => ?_⟩
        have : w' = w := dp_inj (by have := dp_bt_lt hb; omega) (by omega) (e.symm.trans z6)
        rw [this]; exact b
      · refine Or.inl ⟨by rw [Ha s hs, z1]; exact l1, (Hw s hs).2 ?_⟩
        rw [is]
        cases b : bt (dp_pc o a pr m) w
        · rfl
        · have oj := ho (a + j)
          exact absurd (dp_inj (by omega) (by omega) (l2.symm.trans z7)) (((dp_pc_bt ho w32 m).mp b).2 j hj)
  have hw' : ∀ s, s < 3 → xw' s = -1 ∨ (∃ w, w < 32 ∧ xw' s = nI w) ∧ 0 < dp_hq K N (s + 1) ∧ dp_Fq K N (s + 1) (dp_hq K N (s + 1) - 1) = true := fun s hs => by
    rcases L (fun s => dp_la (al s) (yw s) (fun i => nI (o (a + i))) m) (fun _ _ => rfl) s hs with q | q
    · exact Or.inl q.2
    · rcases dp_hw W s hs with y | y
      · exact Or.inl (q.2.2.1.trans y)
      · exact Or.inr ⟨y.1.elim (fun w hw => ⟨w, hw.1, q.2.2.1.trans hw.2⟩), y.2⟩
  refine xx_refresh T' X' hv G hw' (fun R1 m1 xs1 xb1 H1 => ?_)
  show wpY_remove _ _ _
  unfold wpY_remove
  refine yy_yes T ha (br_f (by decide) (br_f z (yy_noteEdit T B G W (fun hy2 R2 P2 Z2 ed2 yb2 H2 => yy_place T.1 ha (yy_endOf T.1 B ha ?_)))))
  refine nm_r (e' := nI m) (by rw [hm, pk_sub (by omega), Nat.add_sub_cancel_left]) (yy_takeOut ho hc (by omega) e2 (fun hd Hd => ⟨m + 1, ?_⟩))
  refine yy_rem_out (a := a) (o := o) (pr := pr) ho (by omega) Hd (fun al' Ha => ⟨rfl, dp_rel ⟨T', hv, X', A' B, G, Q, dp_Wa_edit W H1 H2 (L al' (fun s hs => ?_))⟩⟩) m 0 al (Nat.zero_add m) (fun _ _ => rfl)
  rw [Ha s hs]
  have cg : ∀ i, i ≤ m → dp_la (al s) (yw s) hd i = dp_la (al s) (yw s) (fun i => nI (o (a + i))) i := by
    intro i
    induction i with
    | zero => intro _; rfl
    | succ i ih =>
      intro hi
      show dp_ls (dp_la (al s) (yw s) hd i) (yw s) (hd i) = dp_ls (dp_la (al s) (yw s) (fun i => nI (o (a + i))) i) (yw s) (nI (o (a + i)))
      rw [ih (by omega), Hd i (by omega)]
  exact cg m (Nat.le_refl _)
