/-! watch -/
def dp_gl (f : Nat → Int32) (t k : Nat) (g : Nat → Int32) : Nat → Int32 := fun j => if t ≤ j ∧ j < t + k then g (j - t) else f j
theorem dp_gl_0 (f : Nat → Int32) (t : Nat) (g : Nat → Int32) : dp_gl f t 0 g = f := by
  funext j
  unfold dp_gl
  rw [if_neg (by omega)]
theorem dp_gl_s {f g : Nat → Int32} {t i : Nat} : upd (dp_gl f t i g) (t + i) (g i) = dp_gl f t (i + 1) g := by
  funext j
  show (if j = t + i then g i else dp_gl f t i g j) = _
  unfold dp_gl
  by_cases z : j = t + i
  · rw [if_pos z, if_pos (by omega), show j - t = i from by omega]
  · rw [if_neg z]
    by_cases y : t ≤ j ∧ j < t + i
    · rw [if_pos y, if_pos (by omega)]
    · rw [if_neg y, if_neg (by omega)]
theorem dp_gl_in {f g : Nat → Int32} {t k i : Nat} (h : i < k) : dp_gl f t k g (t + i) = g i := by
  unfold dp_gl
  rw [if_pos (by omega), show t + i - t = i from by omega]
theorem dp_gl_out {f g : Nat → Int32} {t k j : Nat} (h : j < t ∨ t + k ≤ j) : dp_gl f t k g j = f j := by
  unfold dp_gl
  rw [if_neg (by omega)]
theorem dp_fl_mid {f g : Nat → Nat} {t k i : Nat} (h : i < k) : dp_fl f t k g (t + i) = g i := by
  unfold dp_fl
  rw [if_pos (by omega), show t + i - t = i from by omega]
theorem dp_fl_out {f g : Nat → Nat} {t k j : Nat} (h : j < t ∨ t + k ≤ j) : dp_fl f t k g j = f j := by
  unfold dp_fl
  rw [if_neg (by omega)]
theorem dp_v96 {n : Nat} (h : n < 96) : vp_in (nI n) 96 := vp_in_nI h (by decide)
theorem dp_cl96 {n : Nat} (h : n < 96) : (nI n).toNatClampNeg = n := nI_clamp (by omega)
theorem dp_p24 (a : Nat) : nI a + 24 = nI (a + 24) := nI_add a 24
section KX
variable {f_size f_present f_height : Int32} {a_order a_levels a_tags a_values a_ranks a_ends a_parents a_run a_kinds a_numbers a_lengths a_entryIsPath a_rows a_members a_wasSet a_watchNode a_selects a_selectedBefore : Nat → Int32}
theorem xx_keep_q {s n : Nat} (hs : s < 3) (hn : n ≤ 24) (hl : a_lengths 3 = nI n) {post : SX → Prop} (h : post (f_size, f_present, f_height, a_order, a_levels, a_tags, a_values, a_ranks, a_ends, a_parents, a_run, (dp_gl a_kinds (24 * s) n (fun i => a_kinds (72 + i))), (dp_gl a_numbers (24 * s) n (fun i => a_numbers (72 + i))), (upd a_lengths s (nI n)), a_entryIsPath, a_rows, a_members, a_wasSet, a_watchNode, a_selects, a_selectedBefore)) : ∀ d i, i + d = n → wX_keepQuery_11 post (nI s) 72 (nI (24 * s)) f_size f_present f_height (d + 1) (nI i) a_order a_levels a_tags a_values a_ranks a_ends a_parents a_run (dp_gl a_kinds (24 * s) i (fun i => a_kinds (72 + i))) (dp_gl a_numbers (24 * s) i (fun i => a_numbers (72 + i))) a_lengths a_entryIsPath a_rows a_members a_wasSet a_watchNode a_selects a_selectedBefore := by
  intro d
  induction d with
  | zero =>
    intro i hi
    obtain rfl : i = n := by omega
    rw [show wX_keepQuery_11 = wX_keepQuery_11 from rfl]
    refine br_t (by rw [hl]; exact nI_le (Nat.le_refl _) (by omega)) ⟨vp_in_nI (by omega) (by decide), ?_⟩
    rw [nI_clamp (show s < 2 ^ 31 by omega), hl]
    exact nm_e h
  | succ d ih =>
    intro i hi
    have e7 : (72 : Int32) + nI i = nI (72 + i) := nI_add 72 i
    have r1 : dp_gl a_kinds (24 * s) i (fun i => a_kinds (72 + i)) (72 + i) = a_kinds (72 + i) := dp_gl_out (by omega)
    have r2 : dp_gl a_numbers (24 * s) i (fun i => a_numbers (72 + i)) (72 + i) = a_numbers (72 + i) := dp_gl_out (by omega)
    refine br_f (by rw [hl]; exact nI_ge (by omega) (by omega)) ?_
    simp only [e7, nI_add, dp_cl96 (show 72 + i < 96 by omega), dp_cl96 (show 24 * s + i < 96 by omega), r1, r2]
    exact ⟨dp_v96 (by omega), dp_v96 (by omega), nm_r (dp_gl_s (g := fun i => a_kinds (72 + i))) ⟨dp_v96 (by omega), dp_v96 (by omega), nm_r (dp_gl_s (g := fun i => a_numbers (72 + i))) (nm_r (nI_1 i) (ih (i + 1) (by omega)))⟩⟩
theorem xx_keepQuery {s n : Nat} (hs : s < 3) (hn : n ≤ 24) (hl : a_lengths 3 = nI n) {post : SX → Prop} (h : post (f_size, f_present, f_height, a_order, a_levels, a_tags, a_values, a_ranks, a_ends, a_parents, a_run, (dp_gl a_kinds (24 * s) n (fun i => a_kinds (72 + i))), (dp_gl a_numbers (24 * s) n (fun i => a_numbers (72 + i))), (upd a_lengths s (nI n)), a_entryIsPath, a_rows, a_members, a_wasSet, a_watchNode, a_selects, a_selectedBefore)) : wpX_keepQuery post (f_size, f_present, f_height, a_order, a_levels, a_tags, a_values, a_ranks, a_ends, a_parents, a_run, a_kinds, a_numbers, a_lengths, a_entryIsPath, a_rows, a_members, a_wasSet, a_watchNode, a_selects, a_selectedBefore) (nI s) := by
  refine nm_r (dp_m24 s) ⟨n + 1, ?_⟩
  have := xx_keep_q hs hn hl h n 0 (Nat.zero_add n)
  rw [dp_gl_0, dp_gl_0] at this
  exact this
end KX
section KY
variable {f_count f_height : Int32} {a_list a_there a_above a_tags a_values a_held a_twin a_kinds a_args a_sizes a_isPath a_rows a_spare a_isSet a_alive a_edited a_watchNode a_before : Nat → Int32} {K N : Nat → Nat} {A : Nat → Int32}
theorem yy_keep_q {s n : Nat} {nd : Int32} (hs : s < 3) (hn : n ≤ 24) (hl : a_sizes 0 = nI n) {post : Int32 → SY → Prop} (h : wY_watch_45 post (nI s) nd f_count f_height 1 (nI n) a_list a_there a_above a_tags a_values a_held a_twin (fun j => nI (dp_fl K (24 * s + 24) n K j)) (dp_gl A (24 * s + 24) n A) a_sizes a_isPath a_rows a_spare a_isSet a_alive a_edited a_watchNode a_before) : ∀ d i, i + d = n → wY_watch_45 post (nI s) nd f_count f_height (d + 1) (nI i) a_list a_there a_above a_tags a_values a_held a_twin (fun j => nI (dp_fl K (24 * s + 24) i K j)) (dp_gl A (24 * s + 24) i A) a_sizes a_isPath a_rows a_spare a_isSet a_alive a_edited a_watchNode a_before := by
  intro d
  induction d with
  | zero =>
    intro i hi
    obtain rfl : i = n := by omega
    exact h
  | succ d ih =>
    intro i hi
    have r1 : dp_fl K (24 * s + 24) i K i = K i := dp_fl_out (by omega)
    have r2 : dp_gl A (24 * s + 24) i A i = A i := dp_gl_out (by omega)
    refine br_f (by rw [hl]; exact nI_ge (by omega) (by omega)) ?_
    simp only [dp_24m, dp_p24, nI_add, dp_cl96 (show i < 96 by omega), dp_cl96 (show 24 * s + 24 + i < 96 by omega), r1, r2]
    refine ⟨dp_v96 (by omega), dp_v96 (by omega), nm_r dp_upd ⟨dp_v96 (by omega), dp_v96 (by omega), nm_r dp_gl_s (nm_r (nI_1 i) ?_)⟩⟩
    rw [dp_fl_s]
    exact ih (i + 1) (by omega)
end KY
section KP
variable {K N : Nat → Nat} {A kx ax lx : Nat → Int32} {s : Nat}
theorem dp_Pg_keep (G : dp_Pg K N A kx ax lx) (hs : s < 3) : dp_Pg (dp_fl K (24 * s + 24) (N 0) K) (dp_nu N (s + 1) (N 0)) (dp_gl A (24 * s + 24) (N 0) A) (dp_gl kx (24 * s) (N 0) (fun i => kx (72 + i))) (dp_gl ax (24 * s) (N 0) (fun i => ax (72 + i))) (upd lx s (nI (N 0))) := by
  have n24 := (G 0 (by decide)).1
  intro w hw
  obtain ⟨g1, g2, g3, g4⟩ := G w hw
  by_cases z : w = s + 1
  · subst z
    obtain ⟨f1, f2, f3, f4⟩ := G 0 (by decide)
    have kk : ∀ i, i < N 0 → dp_kn K 0 i = dp_kn (dp_fl K (24 * s + 24) (N 0) K) (s + 1) i := fun i hi => by
      show K (24 * 0 + i) = dp_fl K (24 * s + 24) (N 0) K (24 * (s + 1) + i)
      rw [show 24 * (s + 1) + i = 24 * s + 24 + i from by omega, dp_fl_mid hi, show 24 * 0 + i = i from by omega]
    have aa : ∀ i, i < N 0 → dp_am A 0 i = dp_am (dp_gl A (24 * s + 24) (N 0) A) (s + 1) i := fun i hi => by
      show A (24 * 0 + i) = dp_gl A (24 * s + 24) (N 0) A (24 * (s + 1) + i)
      rw [show 24 * (s + 1) + i = 24 * s + 24 + i from by omega, dp_gl_in hi, show 24 * 0 + i = i from by omega]
    rw [dp_nu_s, dp_px_s]
    refine ⟨f1, dp_WT_congr kk aa f2, pk_us, fun i hi => ?_⟩
    have q := f4 i hi
    rw [dp_px_0] at q
    rw [dp_gl_in hi, dp_gl_in hi]
    exact ⟨q.1.trans (congrArg nI (kk i hi)), q.2.trans (aa i hi)⟩
  · rw [dp_nu_n z]
    have ks : ∀ i, i < N w → K (24 * w + i) = dp_fl K (24 * s + 24) (N 0) K (24 * w + i) := fun i hi => (dp_fl_out (by omega)).symm
    have as : ∀ i, i < N w → A (24 * w + i) = dp_gl A (24 * s + 24) (N 0) A (24 * w + i) := fun i hi => (dp_gl_out (by omega)).symm
    have px : dp_px w ≠ s ∧ dp_px w < 4 := by
      unfold dp_px
      split <;> omega
    refine ⟨g1, dp_WT_congr ks as g2, by rw [pk_un px.1]; exact g3, fun i hi => ?_⟩
    rw [← ks i hi, ← as i hi, dp_gl_out (by omega), dp_gl_out (by omega)]
    exact g4 i hi
end KP
