/-! watches and the query's top -/
theorem dp_px_s (s : Nat) : dp_px (s + 1) = s := rfl
theorem dp_px_0 : dp_px 0 = 3 := rfl
theorem dp_v3 {n : Nat} (h : n < 3) : vp_in (nI n) 3 := vp_in_nI h (by decide)
theorem dp_ge3 {n : Nat} (h : n < 3) : ¬ (3 : Int32) ≤ nI n := nI_ge (b := 3) h (by decide)
theorem dp_le3 : (3 : Int32) ≤ nI 3 := nI_le (Nat.le_refl 3) (by decide)
section XW
variable {f_size f_present f_height : Int32} {a_order a_levels a_tags a_values a_ranks a_ends a_parents a_run a_kinds a_numbers a_lengths a_entryIsPath a_rows a_members a_wasSet a_watchNode a_selects a_selectedBefore : Nat → Int32} {c : Nat} {o lv : Nat → Nat} {pr : Int32} {K N : Nat → Nat} {A : Nat → Int32}
theorem xx_evalP (T : dp_Tr c o lv pr) (X : dp_TX c o (fun r => lv (o r)) a_ranks a_ends a_parents) (hv : ∀ n, a_values n ≤ 99) (G : dp_Pg K N A a_kinds a_numbers a_lengths) {w : Nat} (hw : w < 4) (hx : dp_px w < 4) {post : Int32 → SX → Prop} (h : ∀ R' m, dp_XR c o (fun r => lv (o r)) pr a_tags a_values (dp_kn K w) (dp_am A w) (N w) R' m → post (nI (dp_hq K N w) - 1) ((nI c), pr, f_height, (fun j => nI (o j)), (fun j => nI (lv j)), a_tags, a_values, a_ranks, a_ends, a_parents, a_run, a_kinds, a_numbers, a_lengths, a_entryIsPath, R', m, a_wasSet, a_watchNode, a_selects, a_selectedBefore)) : wpX_evaluate post ((nI c), pr, f_height, (fun j => nI (o j)), (fun j => nI (lv j)), a_tags, a_values, a_ranks, a_ends, a_parents, a_run, a_kinds, a_numbers, a_lengths, a_entryIsPath, a_rows, a_members, a_wasSet, a_watchNode, a_selects, a_selectedBefore) (nI (dp_px w)) := by
  obtain ⟨g1, g2, g3, g4⟩ := G w hw
  exact xx_evaluate T X hv hx g1 g2 g3 g4 h
def dp_Rf (c : Nat) (o l : Nat → Nat) (pr : Int32) (tg vs : Nat → Int32) (K N : Nat → Nat) (A xw xs0 xs xb : Nat → Int32) (s : Nat) : Prop := xb s = xs0 s ∧ (xw s = -1 → xs s = 0) ∧ ∀ w, w < 32 → xw s = nI w → xs s = dp_sv c o l pr tg vs K N A (s + 1) w
theorem xx_refresh_l (T : dp_Tr c o lv pr) (X : dp_TX c o (fun r => lv (o r)) a_ranks a_ends a_parents) (hv : ∀ n, a_values n ≤ 99) (G : dp_Pg K N A a_kinds a_numbers a_lengths) (hw : ∀ s, s < 3 → a_watchNode s = -1 ∨ (∃ w, w < 32 ∧ a_watchNode s = nI w) ∧ 0 < dp_hq K N (s + 1) ∧ dp_Fq K N (s + 1) (dp_hq K N (s + 1) - 1) = true) {post : SX → Prop} (h : ∀ R' m xs xb, (∀ s, s < 3 → dp_Rf c o (fun r => lv (o r)) pr a_tags a_values K N A a_watchNode a_selects xs xb s) → post ((nI c), pr, f_height, (fun j => nI (o j)), (fun j => nI (lv j)), a_tags, a_values, a_ranks, a_ends, a_parents, a_run, a_kinds, a_numbers, a_lengths, a_entryIsPath, R', m, a_wasSet, a_watchNode, xs, xb)) : ∀ d i R' m xs xb, i + d = 3 → (∀ s, s < i → dp_Rf c o (fun r => lv (o r)) pr a_tags a_values K N A a_watchNode a_selects xs xb s) → (∀ s, i ≤ s → xs s = a_selects s) → wX_refreshWatches_2 post (d + 1) (nI i) (nI c) pr f_height (fun j => nI (o j)) (fun j => nI (lv j)) a_tags a_values a_ranks a_ends a_parents a_run a_kinds a_numbers a_lengths a_entryIsPath R' m a_wasSet a_watchNode xs xb := by
  intro d
  induction d with
  | zero =>
    intro i R' m xs xb hi H _
    obtain rfl : i = 3 := by omega
    exact br_t dp_le3 (h R' m xs xb H)
  | succ d ih =>
    intro i R' m xs xb hi H H2
    have cl : (nI i).toNatClampNeg = i := nI_clamp (by omega)
    have v3 : vp_in (nI i) 3 := dp_v3 (by omega)
    have old : ∀ xs' xb' : Nat → Int32, (∀ s, s ≠ i → xs' s = xs s ∧ xb' s = xb s) → ∀ s, s < i → dp_Rf c o (fun r => lv (o r)) pr a_tags a_values K N A a_watchNode a_selects xs' xb' s := fun xs' xb' q s hs => by
      unfold dp_Rf
      rw [(q s (by omega)).1, (q s (by omega)).2]
      exact H s hs
    refine br_f (dp_ge3 (by omega)) ?_
    simp only [cl]
    refine ⟨v3, v3, nm_e ⟨v3, nm_e ⟨v3, ?_⟩⟩⟩
    rcases hw i (by omega) with z | ⟨⟨w, w1, w2⟩, w3, w4⟩
    · refine br_t z (nm_r (nI_1 i) (ih (i + 1) _ _ _ _ (by omega) (fun s hs => ?_) (fun s hs => by rw [pk_un (by omega)]; exact H2 s (by omega))))
      by_cases y : s = i
      · subst y
        exact ⟨by rw [pk_us]; exact H2 s (Nat.le_refl _), fun _ => pk_us, fun w hw e => absurd (e.symm.trans z) (dp_nle1 (by omega))⟩
      · exact old _ _ (fun s hs => ⟨pk_un hs, pk_un hs⟩) s (by omega)
    · have nz : ¬ a_watchNode i = -1 := by rw [w2]; exact dp_nle1 (by omega)
      refine br_f nz ?_
      have e0 : nI i = nI (dp_px (i + 1)) := by rw [dp_px_s]
      rw [e0]
      refine xx_evalP T X hv G (w := i + 1) (by omega) (by rw [dp_px_s]; omega) (fun R2 m2 H3 => ?_)
      rw [← e0, dp_s1 (by omega)]
      have h8 : dp_hq K N (i + 1) ≤ 8 := dp_h8 (G (i + 1) (by omega)).2.1 (Nat.le_refl _)
      simp only [cl, w2, dp_m32, nI_add]
      refine ⟨v3, dp_v256 (by omega), v3, ?_⟩
      rw [dp_cl256 (show 32 * (dp_hq K N (i + 1) - 1) + w < 256 by omega), (H3 (dp_hq K N (i + 1) - 1) (show dp_hq K N (i + 1) - 1 < dp_hq K N (i + 1) by omega)).1 w4 w w1]
      refine nm_e (nm_r (nI_1 i) (ih (i + 1) _ _ _ _ (by omega) (fun s hs => ?_) (fun s hs => by rw [pk_un (by omega), pk_un (by omega)]; exact H2 s (by omega))))
      by_cases y : s = i
      · subst y
        refine ⟨by rw [pk_us]; exact H2 s (Nat.le_refl _), fun q => absurd q nz, fun w' hw' e => ?_⟩
        rw [pk_us, dp_inj (show w' < 2 ^ 31 by omega) (show w < 2 ^ 31 by omega) (e.symm.trans w2)]
        rfl
      · exact old _ _ (fun s hs => ⟨by rw [pk_un hs, pk_un hs], pk_un hs⟩) s (by omega)
theorem xx_refresh (T : dp_Tr c o lv pr) (X : dp_TX c o (fun r => lv (o r)) a_ranks a_ends a_parents) (hv : ∀ n, a_values n ≤ 99) (G : dp_Pg K N A a_kinds a_numbers a_lengths) (hw : ∀ s, s < 3 → a_watchNode s = -1 ∨ (∃ w, w < 32 ∧ a_watchNode s = nI w) ∧ 0 < dp_hq K N (s + 1) ∧ dp_Fq K N (s + 1) (dp_hq K N (s + 1) - 1) = true) {post : SX → Prop} (h : ∀ R' m xs xb, (∀ s, s < 3 → dp_Rf c o (fun r => lv (o r)) pr a_tags a_values K N A a_watchNode a_selects xs xb s) → post ((nI c), pr, f_height, (fun j => nI (o j)), (fun j => nI (lv j)), a_tags, a_values, a_ranks, a_ends, a_parents, a_run, a_kinds, a_numbers, a_lengths, a_entryIsPath, R', m, a_wasSet, a_watchNode, xs, xb)) : wpX_refreshWatches post ((nI c), pr, f_height, (fun j => nI (o j)), (fun j => nI (lv j)), a_tags, a_values, a_ranks, a_ends, a_parents, a_run, a_kinds, a_numbers, a_lengths, a_entryIsPath, a_rows, a_members, a_wasSet, a_watchNode, a_selects, a_selectedBefore) :=
  ⟨4, xx_refresh_l T X hv G hw h 3 0 _ _ _ _ rfl (fun s hs => absurd hs (Nat.not_lt_zero s)) (fun _ _ => rfl)⟩
theorem dp_top {b b' : Bool} {h : Nat} {F : Nat → Bool} : decide (0 < h ∧ F (h - 1) = b) = b' ↔ (b' = true ∧ 0 < h ∧ F (h - 1) = b) ∨ (b' = false ∧ ¬ (0 < h ∧ F (h - 1) = b)) := by
  cases b'
  · rw [decide_eq_false_iff_not]; exact ⟨fun z => Or.inr ⟨rfl, z⟩, fun z => z.elim (fun z => absurd z.1 (by decide)) (fun z => z.2)⟩
  · rw [decide_eq_true_iff]; exact ⟨fun z => Or.inl ⟨rfl, z⟩, fun z => z.elim (fun z => z.2) (fun z => absurd z.1 (by decide))⟩
theorem xx_topIsPath (G : dp_Pg K N A a_kinds a_numbers a_lengths) (Q : dp_Qs K N f_height a_entryIsPath) {post : Int32 → Prop} (h : post (dp_c (decide (0 < dp_hq K N 0 ∧ dp_Fq K N 0 (dp_hq K N 0 - 1) = true)))) : wpX_topIsPath post (f_size, f_present, f_height, a_order, a_levels, a_tags, a_values, a_ranks, a_ends, a_parents, a_run, a_kinds, a_numbers, a_lengths, a_entryIsPath, a_rows, a_members, a_wasSet, a_watchNode, a_selects, a_selectedBefore) := by
  obtain ⟨q1, q2⟩ := Q
  have h8 : dp_hq K N 0 ≤ 8 := dp_h8 (G 0 (by decide)).2.1 (Nat.le_refl _)
  rw [q1]
  by_cases z : 0 < dp_hq K N 0
  · refine br_f (nI_nle z (by omega)) ?_
    rw [dp_s1 z]
    refine ⟨dp_v8 (by omega), ?_⟩
    rw [nI_clamp (show dp_hq K N 0 - 1 < 2 ^ 31 by omega), q2 _ (by omega), dp_c_0]
    cases y : dp_Fq K N 0 (dp_hq K N 0 - 1)
    · rw [y, dp_c_f (decide_eq_false (fun w => absurd w.2 (by decide)))] at h
      exact br_t rfl h
    · rw [y, dp_c_t (decide_eq_true ⟨z, rfl⟩)] at h
      exact br_f (by decide) h
  · rw [dp_c_f (decide_eq_false (fun w => z w.1))] at h
    exact br_t (nI_le (a := dp_hq K N 0) (b := 0) (by omega) (by decide)) h
theorem xx_topIsCondition (G : dp_Pg K N A a_kinds a_numbers a_lengths) (Q : dp_Qs K N f_height a_entryIsPath) {post : Int32 → Prop} (h : post (dp_c (decide (0 < dp_hq K N 0 ∧ dp_Fq K N 0 (dp_hq K N 0 - 1) = false)))) : wpX_topIsCondition post (f_size, f_present, f_height, a_order, a_levels, a_tags, a_values, a_ranks, a_ends, a_parents, a_run, a_kinds, a_numbers, a_lengths, a_entryIsPath, a_rows, a_members, a_wasSet, a_watchNode, a_selects, a_selectedBefore) := by
  obtain ⟨q1, q2⟩ := Q
  have h8 : dp_hq K N 0 ≤ 8 := dp_h8 (G 0 (by decide)).2.1 (Nat.le_refl _)
  rw [q1]
  by_cases z : 0 < dp_hq K N 0
  · refine br_f (nI_nle z (by omega)) ?_
    rw [dp_s1 z]
    refine ⟨dp_v8 (by omega), ?_⟩
    rw [nI_clamp (show dp_hq K N 0 - 1 < 2 ^ 31 by omega), q2 _ (by omega), dp_c_0]
    cases y : dp_Fq K N 0 (dp_hq K N 0 - 1)
    · rw [y, dp_c_t (decide_eq_true ⟨z, rfl⟩)] at h
      exact br_t rfl h
    · rw [y, dp_c_f (decide_eq_false (fun w => absurd w.2 (by decide)))] at h
      exact br_f (by decide) h
  · rw [dp_c_f (decide_eq_false (fun w => z w.1))] at h
    exact br_t (nI_le (a := dp_hq K N 0) (b := 0) (by omega) (by decide)) h
theorem xx_rowOfTop (T : dp_Tr c o lv pr) (X : dp_TX c o (fun r => lv (o r)) a_ranks a_ends a_parents) (hv : ∀ n, a_values n ≤ 99) (G : dp_Pg K N A a_kinds a_numbers a_lengths) (h0 : 0 < dp_hq K N 0) (hF : dp_Fq K N 0 (dp_hq K N 0 - 1) = true) {n : Nat} (hn : n < 32) {post : Int32 → SX → Prop} (h : ∀ R' m, post (dp_sv c o (fun r => lv (o r)) pr a_tags a_values K N A 0 n) ((nI c), pr, f_height, (fun j => nI (o j)), (fun j => nI (lv j)), a_tags, a_values, a_ranks, a_ends, a_parents, a_run, a_kinds, a_numbers, a_lengths, a_entryIsPath, R', m, a_wasSet, a_watchNode, a_selects, a_selectedBefore)) : wpX_rowOfTop post ((nI c), pr, f_height, (fun j => nI (o j)), (fun j => nI (lv j)), a_tags, a_values, a_ranks, a_ends, a_parents, a_run, a_kinds, a_numbers, a_lengths, a_entryIsPath, a_rows, a_members, a_wasSet, a_watchNode, a_selects, a_selectedBefore) (nI n) := by
  have h8 : dp_hq K N 0 ≤ 8 := dp_h8 (G 0 (by decide)).2.1 (Nat.le_refl _)
  refine xx_evalP T X hv G (w := 0) (by decide) (by decide) (fun R' m H => ?_)
  rw [dp_s1 h0]
  simp only [dp_m32, nI_add]
  refine ⟨dp_v256 (by omega), ?_⟩
  rw [dp_cl256 (show 32 * (dp_hq K N 0 - 1) + n < 256 by omega), (H (dp_hq K N 0 - 1) (show dp_hq K N 0 - 1 < dp_hq K N 0 by omega)).1 hF n hn]
  exact h R' m
end XW
section YWa
variable {f_count f_height : Int32} {a_list a_there a_above a_tags a_values a_held a_twin a_kinds a_args a_sizes a_isPath a_rows a_spare a_isSet a_alive a_edited a_watchNode a_before : Nat → Int32} {c : Nat} {o lv : Nat → Nat} {pr : Int32} {K N : Nat → Nat} {A kx ax lx : Nat → Int32}
theorem yy_workP (T : dp_Tr c o lv pr) (B : dp_Ab c o (fun r => lv (o r)) a_above) (G : dp_Pg K N A kx ax lx) {w : Nat} (hw : w < 4) {post : SY → Prop} (h : ∀ R' P' Z, dp_YR c o (fun r => lv (o r)) pr a_tags a_values (dp_kn K w) (dp_am A w) (N w) R' P' → post ((nI c), (nI (dp_hq K N w)), (fun j => nI (o j)), (dp_th pr), a_above, a_tags, a_values, a_held, a_twin, (fun j => nI (K j)), A, (fun j => nI (N j)), P', R', Z, a_isSet, a_alive, a_edited, a_watchNode, a_before)) : wpY_work post ((nI c), f_height, (fun j => nI (o j)), (dp_th pr), a_above, a_tags, a_values, a_held, a_twin, (fun j => nI (K j)), A, (fun j => nI (N j)), a_isPath, a_rows, a_spare, a_isSet, a_alive, a_edited, a_watchNode, a_before) (nI w) := by
  obtain ⟨g1, g2, g3, g4⟩ := G w hw
  exact yy_work T B hw g1 g2 rfl (fun i _ => ⟨rfl, rfl⟩) h
theorem yy_topRow {h n : Nat} {s : Int32} (h0 : 0 < h) (h8 : h ≤ 8) (hn : n < 32) (hr : a_rows (32 * (h - 1) + n) = s) {post : Int32 → Prop} (H : post s) : wpY_topRow post (f_count, (nI h), a_list, a_there, a_above, a_tags, a_values, a_held, a_twin, a_kinds, a_args, a_sizes, a_isPath, a_rows, a_spare, a_isSet, a_alive, a_edited, a_watchNode, a_before) (nI n) := by
  obtain ⟨k, rfl⟩ : ∃ k, h = k + 1 := ⟨h - 1, by omega⟩
  rw [Nat.add_sub_cancel] at hr
  have e : (32 : Int32) * nI (k + 1) - 32 + nI n = nI (32 * k + n) := by
    rw [dp_32m, show nI (32 * (k + 1)) - 32 = nI (32 * (k + 1)) - nI 32 from rfl, pk_sub (by omega), nI_add, show 32 * (k + 1) - 32 = 32 * k from by omega]
  unfold wpY_topRow
  dsimp only
  rw [e]
  refine ⟨dp_v256 (by omega), ?_⟩
  rw [dp_cl256 (show 32 * k + n < 256 by omega), hr]
  exact H
theorem yy_selection (T : dp_Tr c o lv pr) (B : dp_Ab c o (fun r => lv (o r)) a_above) (G : dp_Pg K N A kx ax lx) {s : Nat} (hs : s < 3) {ed xw xs xb yb : Int32} (W : dp_Ws c o (fun r => lv (o r)) pr a_tags a_values K N A s (a_isSet s) (a_alive s) ed xw xs xb (a_watchNode s) yb) {post : Int32 → SY → Prop} (h : ∀ hy R' P' Z, post xs ((nI c), hy, (fun j => nI (o j)), (dp_th pr), a_above, a_tags, a_values, a_held, a_twin, (fun j => nI (K j)), A, (fun j => nI (N j)), P', R', Z, a_isSet, a_alive, a_edited, a_watchNode, a_before)) : wpY_selection post ((nI c), f_height, (fun j => nI (o j)), (dp_th pr), a_above, a_tags, a_values, a_held, a_twin, (fun j => nI (K j)), A, (fun j => nI (N j)), a_isPath, a_rows, a_spare, a_isSet, a_alive, a_edited, a_watchNode, a_before) (nI s) := by
  obtain ⟨w1, w2, w3, w4, w5⟩ := W
  have cl : (nI s).toNatClampNeg = s := nI_clamp (by omega)
  have v3 : vp_in (nI s) 3 := dp_v3 hs
  refine ⟨v3, ?_⟩
  rw [cl]
  rcases w3 with ⟨z1, z2, z3⟩ | ⟨z1, z2, z3, z4, w, z5, z6, z7, z8⟩
  · rw [z3] at h
    exact br_c (fun _ => h _ _ _ _) (fun _ => ⟨v3, br_t z1 (h _ _ _ _)⟩)
  · have h8 : dp_hq K N (s + 1) ≤ 8 := dp_h8 (G (s + 1) (by omega)).2.1 (Nat.le_refl _)
    refine br_f (by rw [z2]; decide) ⟨v3, br_f (by rw [z1]; decide) ?_⟩
    rw [nI_1]
    refine yy_workP T B G (w := s + 1) (by omega) (fun R' P' Z H => ?_)
    refine ⟨v3, ?_⟩
    rw [z7]
    refine yy_topRow z3 h8 (dp_bt_lt z5) ((H (dp_hq K N (s + 1) - 1) (show dp_hq K N (s + 1) - 1 < dp_hq K N (s + 1) by omega)).2 w (dp_bt_lt z5)) ?_
    rw [z8] at h
    exact h _ _ _ _
theorem yy_noteEdit_l (T : dp_Tr c o lv pr) (B : dp_Ab c o (fun r => lv (o r)) a_above) (G : dp_Pg K N A kx ax lx) {ed xw xs xb yb : Nat → Int32} (W : dp_Wa c o (fun r => lv (o r)) pr a_tags a_values K N A a_isSet a_alive ed xw xs xb a_watchNode yb) {post : SY → Prop} (h : ∀ hy R' P' Z ed' yb', (∀ s, s < 3 → ed' s = 1 ∧ yb' s = xs s) → post ((nI c), hy, (fun j => nI (o j)), (dp_th pr), a_above, a_tags, a_values, a_held, a_twin, (fun j => nI (K j)), A, (fun j => nI (N j)), P', R', Z, a_isSet, a_alive, ed', a_watchNode, yb')) : ∀ d i hy R' P' Z ed' yb', i + d = 3 → (∀ s, s < i → ed' s = 1 ∧ yb' s = xs s) → wY_noteEdit_2 post (d + 1) (nI i) (nI c) hy (fun j => nI (o j)) (dp_th pr) a_above a_tags a_values a_held a_twin (fun j => nI (K j)) A (fun j => nI (N j)) P' R' Z a_isSet a_alive ed' a_watchNode yb' := by
  intro d
  induction d with
  | zero =>
    intro i hy R' P' Z ed' yb' hi H
    obtain rfl : i = 3 := by omega
    exact br_t dp_le3 (h hy R' P' Z ed' yb' H)
  | succ d ih =>
    intro i hy R' P' Z ed' yb' hi H
    have cl : (nI i).toNatClampNeg = i := nI_clamp (by omega)
    have v3 : vp_in (nI i) 3 := dp_v3 (by omega)
    refine br_f (dp_ge3 (by omega)) (yy_selection T B G (by omega) (W i (by omega)) (fun hy2 R2 P2 Z2 => ?_))
    refine ⟨v3, nm_e ⟨v3, nm_e (nm_r (nI_1 i) (ih (i + 1) _ _ _ _ _ _ (by omega) (fun s hs => ?_)))⟩⟩
    rw [cl]
    by_cases y : s = i
    · subst y; exact ⟨by rw [pk_us]; rfl, pk_us⟩
    · rw [pk_un y, pk_un y]; exact H s (by omega)
theorem yy_noteEdit (T : dp_Tr c o lv pr) (B : dp_Ab c o (fun r => lv (o r)) a_above) (G : dp_Pg K N A kx ax lx) {ed xw xs xb yb : Nat → Int32} (W : dp_Wa c o (fun r => lv (o r)) pr a_tags a_values K N A a_isSet a_alive ed xw xs xb a_watchNode yb) {post : SY → Prop} (h : ∀ hy R' P' Z ed' yb', (∀ s, s < 3 → ed' s = 1 ∧ yb' s = xs s) → post ((nI c), hy, (fun j => nI (o j)), (dp_th pr), a_above, a_tags, a_values, a_held, a_twin, (fun j => nI (K j)), A, (fun j => nI (N j)), P', R', Z, a_isSet, a_alive, ed', a_watchNode, yb')) : wpY_noteEdit post ((nI c), f_height, (fun j => nI (o j)), (dp_th pr), a_above, a_tags, a_values, a_held, a_twin, (fun j => nI (K j)), A, (fun j => nI (N j)), a_isPath, a_rows, a_spare, a_isSet, a_alive, a_edited, a_watchNode, a_before) :=
  ⟨4, yy_noteEdit_l T B G W h 3 0 _ _ _ _ _ _ rfl (fun s hs => absurd hs (Nat.not_lt_zero s))⟩
theorem yy_has {h j : Nat} {F : Nat → Bool} {b : Bool} (h8 : h ≤ 8) (hj : 0 < j) (hj2 : j < 3) (hF : ∀ e, e < h → a_isPath e = dp_c (F e)) {post : Int32 → Prop} (H : post (dp_c (decide (j ≤ h ∧ F (h - j) = b)))) : wpY_has post (f_count, (nI h), a_list, a_there, a_above, a_tags, a_values, a_held, a_twin, a_kinds, a_args, a_sizes, a_isPath, a_rows, a_spare, a_isSet, a_alive, a_edited, a_watchNode, a_before) (nI j) (dp_c b) := by
  by_cases z : j ≤ h
  · refine br_f (nI_nlt z (by omega)) ?_
    rw [pk_sub z]
    refine ⟨dp_v8 (by omega), ?_⟩
    rw [nI_clamp (show h - j < 2 ^ 31 by omega), hF _ (by omega)]
    by_cases y : F (h - j) = b
    · rw [dp_c_t (decide_eq_true ⟨z, y⟩)] at H
      exact br_t (by rw [y]) H
    · rw [dp_c_f (decide_eq_false (fun w => y w.2))] at H
      refine br_f (fun w => y ?_) H
      cases h1 : F (h - j) <;> cases h2 : b <;> rw [h1, h2] at w <;> first | rfl | exact absurd w (by decide)
  · rw [dp_c_f (decide_eq_false (fun w => z w.1))] at H
    exact br_t (nI_lt (by omega) (by omega)) H
theorem yy_topIs (T : dp_Tr c o lv pr) (B : dp_Ab c o (fun r => lv (o r)) a_above) (G : dp_Pg K N A kx ax lx) {b : Bool} {post : Int32 → SY → Prop} (h : ∀ R' P' Z, dp_YR c o (fun r => lv (o r)) pr a_tags a_values (dp_kn K 0) (dp_am A 0) (N 0) R' P' → post (dp_c (decide (0 < dp_hq K N 0 ∧ dp_Fq K N 0 (dp_hq K N 0 - 1) = b))) ((nI c), (nI (dp_hq K N 0)), (fun j => nI (o j)), (dp_th pr), a_above, a_tags, a_values, a_held, a_twin, (fun j => nI (K j)), A, (fun j => nI (N j)), P', R', Z, a_isSet, a_alive, a_edited, a_watchNode, a_before)) : wpY_topIs post ((nI c), f_height, (fun j => nI (o j)), (dp_th pr), a_above, a_tags, a_values, a_held, a_twin, (fun j => nI (K j)), A, (fun j => nI (N j)), a_isPath, a_rows, a_spare, a_isSet, a_alive, a_edited, a_watchNode, a_before) (dp_c b) := by
  have h8 : dp_hq K N 0 ≤ 8 := dp_h8 (G 0 (by decide)).2.1 (Nat.le_refl _)
  unfold wpY_topIs
  dsimp only
  refine yy_workP T B G (w := 0) (by decide) (fun R' P' Z H => ?_)
  refine yy_has (j := 1) (F := dp_Fq K N 0) h8 (by decide) (by decide) (fun e he => (H e he).1) ?_
  refine ⟨?_, h R' P' Z H⟩
  cases decide (1 ≤ dp_hq K N 0 ∧ dp_Fq K N 0 (dp_hq K N 0 - 1) = b) <;> rfl
end YWa
