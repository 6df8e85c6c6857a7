/-! the tree's core: order, levels; what putting in and taking out make of it -/
theorem dp_WF_congr {l m : Nat → Nat} {c : Nat} (h : ∀ r, r < c → l r = m r) (W : dp_WF l c) : dp_WF m c := by
  obtain ⟨w1, w2, w3⟩ := W
  refine ⟨w1, by rw [← h 0 w1]; exact w2, fun r h0 hr => ?_⟩
  rw [← h r hr, ← h (r - 1) (by omega)]
  exact w3 r h0 hr
theorem dp_pa_congr {l m : Nat → Nat} {c r : Nat} (h : ∀ s, s < c → l s = m s) (W : dp_WF l c) (h0 : 0 < r) (hr : r < c) : dp_pa m r = dp_pa l r := by
  obtain ⟨⟨p1, p2, p3⟩, -⟩ := dp_wf_pa W h0 hr
  apply dp_pa_of
  refine ⟨p1, ?_, fun s h1 h2 => ?_⟩
  · rw [← h r hr, ← h _ (by omega)]; exact p2
  · rw [← h r hr, ← h s (by omega)]; exact p3 s h1 h2
theorem dp_Ed_congr {l m : Nat → Nat} {c r e : Nat} (h : ∀ s, s < c → l s = m s) (E : dp_Ed l c r e) : dp_Ed m c r e := by
  obtain ⟨e1, e2, e3, e4⟩ := E
  refine ⟨e1, e2, fun s h1 h2 => ?_, ?_⟩
  · rw [← h r (by omega), ← h s (by omega)]; exact e3 s h1 h2
  · rcases Nat.lt_or_ge e c with z | z
    · rw [← h r (by omega), ← h e z]; exact e4
    · exact Or.inl (by omega)
theorem dp_en_congr {l m : Nat → Nat} {c r : Nat} (h : ∀ s, s < c → l s = m s) (hr : r < c) : dp_en m c r = dp_en l c r := dp_en_of (dp_Ed_congr h (dp_en_spec l hr))
def dp_Tc (c : Nat) (o lv : Nat → Nat) : Prop := c ≤ 32 ∧ o 0 = 0 ∧ (∀ r, o r < 32) ∧ (∀ r s, r < c → s < c → o r = o s → r = s) ∧ dp_WF (fun r => lv (o r)) c
def dp_Ab (c : Nat) (o l : Nat → Nat) (ab : Nat → Int32) : Prop := ∀ r, r < c → ab (o r) = if r = 0 then -1 else nI (o (dp_pa l r))
theorem dp_rk_o {c : Nat} {o lv : Nat → Nat} (T : dp_Tc c o lv) {r : Nat} (hr : r < c) : dp_rk o (o r) c = r := dp_rk_at rfl hr (fun s hs e => T.2.2.2.1 s r hs hr e)
theorem dp_in_cases (f g : Nat → Nat) {c t k r : Nat} (ht : t ≤ c) (hr : r < c + k) : (r < t ∧ dp_in f t k g r = f r) ∨ (∃ i, i < k ∧ r = t + i ∧ dp_in f t k g r = g i) ∨ (∃ s, t ≤ s ∧ s < c ∧ r = s + k ∧ dp_in f t k g r = f s) := by
  rcases Nat.lt_or_ge r t with z | z
  · exact Or.inl ⟨z, dp_in_lo z⟩
  · rcases Nat.lt_or_ge r (t + k) with y | y
    · obtain ⟨i, rfl⟩ : ∃ i, r = t + i := ⟨r - t, by omega⟩
      exact Or.inr (Or.inl ⟨i, by omega, rfl, dp_in_mid (by omega)⟩)
    · obtain ⟨s, rfl⟩ : ∃ s, r = s + k := ⟨r - k, by omega⟩
      exact Or.inr (Or.inr ⟨s, by omega, by omega, rfl, dp_in_hi (by omega)⟩)
section SI
variable {c k p t : Nat} {o lv g o' lv' : Nat → Nat}
theorem dp_lv_in (ht : t ≤ c) (he : ∀ r, r < c + k → o' r = dp_in o t k g r) (hl : ∀ r, r < c → lv' (o r) = lv (o r)) {r : Nat} (hr : r < c + k) : dp_in (fun r => lv (o r)) t k (fun i => lv' (g i)) r = lv' (o' r) := by
  rw [he r hr]
  rcases dp_in_cases o g ht hr with ⟨h1, h2⟩ | ⟨i, h1, rfl, h2⟩ | ⟨s, h1, h3, rfl, h2⟩
  · rw [h2, dp_in_lo h1, hl r (by omega)]
  · rw [h2, dp_in_mid h1]
  · rw [h2, dp_in_hi h1, hl s h3]
theorem dp_Tc_in (T : dp_Tc c o lv) (G : dp_Gp (fun r => lv (o r)) c p t) (hk : 0 < k) (hc : c + k ≤ 32) (ho : ∀ r, o' r < 32) (he : ∀ r, r < c + k → o' r = dp_in o t k g r) (gi : ∀ i j, i < k → j < k → g i = g j → i = j) (gn : ∀ i r, i < k → r < c → g i ≠ o r) (hl : ∀ r, r < c → lv' (o r) = lv (o r)) (g0 : lv' (g 0) = lv (o p) + 1) (g1 : ∀ i, 0 < i → i < k → lv (o p) + 1 ≤ lv' (g i) ∧ lv' (g i) ≤ lv' (g (i - 1)) + 1) : dp_Tc (c + k) o' lv' := by
  obtain ⟨t1, t2, t3, t4, t5⟩ := T
  have ht := G.2.1
  have hpt := G.1
  refine ⟨hc, ?_, ho, fun r s hr hs e => ?_, ?_⟩
  · rw [he 0 (by omega), dp_in_lo (by omega)]; exact t2
  · rw [he r hr, he s hs] at e
    rcases dp_in_cases o g ht hr with ⟨h1, h2⟩ | ⟨i, h1, h3, h2⟩ | ⟨a, h1, h4, h3, h2⟩ <;> rcases dp_in_cases o g ht hs with ⟨m1, m2⟩ | ⟨j, m1, m3, m2⟩ | ⟨b, m1, m4, m3, m2⟩ <;> rw [h2, m2] at e
    · exact t4 r s (by omega) (by omega) e
    · exact absurd e.symm (gn j r m1 (by omega))
    · have := t4 r b (by omega) m4 e; omega
    · exact absurd e (gn i s h1 (by omega))
    · have := gi i j h1 m1 e; omega
    · exact absurd e (gn i b h1 m4)
    · have := t4 a s h4 (by omega) e; omega
    · exact absurd e.symm (gn j a m1 h4)
    · have := t4 a b h4 m4 e; omega
  · exact dp_WF_congr (fun r hr => dp_lv_in ht he hl hr) (dp_wf_in t5 G hk g0 g1)
theorem dp_Ab_in {ab ab' : Nat → Int32} (T : dp_Tc c o lv) (G : dp_Gp (fun r => lv (o r)) c p t) (hk : 0 < k) (he : ∀ r, r < c + k → o' r = dp_in o t k g r) (hl : ∀ r, r < c → lv' (o r) = lv (o r)) (g0 : lv' (g 0) = lv (o p) + 1) (g1 : ∀ i, 0 < i → i < k → lv (o p) + 1 ≤ lv' (g i) ∧ lv' (g i) ≤ lv' (g (i - 1)) + 1) (A : dp_Ab c o (fun r => lv (o r)) ab) (A1 : ∀ r, r < c → ab' (o r) = ab (o r)) (A2 : ab' (g 0) = nI (o p)) (A3 : ∀ i, 0 < i → i < k → ∃ j, dp_Pa (fun i => lv' (g i)) j i ∧ ab' (g i) = nI (g j)) : dp_Ab (c + k) o' (fun r => lv' (o' r)) ab' := by
  obtain ⟨t1, t2, t3, t4, t5⟩ := T
  have ht := G.2.1
  have hpt := G.1
  have gk : ∀ i, i < k → lv (o p) + 1 ≤ lv' (g i) := fun i hi => by
    rcases Nat.eq_zero_or_pos i with z | z
    · rw [z, g0]; exact Nat.le_refl _
    · exact (g1 i z hi).1
  have W := dp_wf_in (k := k) (g := fun i => lv' (g i)) t5 G hk g0 g1
  have ag : ∀ r, r < c + k → dp_in (fun r => lv (o r)) t k (fun i => lv' (g i)) r = lv' (o' r) := fun r hr => dp_lv_in ht he hl hr
  have pe : ∀ r, 0 < r → r < c + k → dp_pa (fun r => lv' (o' r)) r = dp_pa (dp_in (fun r => lv (o r)) t k (fun i => lv' (g i))) r := fun r h0 hr => dp_pa_congr ag W h0 hr
  intro r hr
  rcases dp_in_cases o g ht hr with ⟨h1, h2⟩ | ⟨i, h1, h3, h2⟩ | ⟨s, h1, h4, h3, h2⟩
  · rw [he r hr, h2, A1 r (by omega), A r (by omega)]
    by_cases z : r = 0
    · rw [if_pos z, if_pos z]
    · have pl := dp_wf_pl t5 (show 0 < r by omega) (by omega)
      rw [if_neg z, if_neg z, pe r (by omega) hr, dp_pa_in_lo t5 ht (by omega) h1, he _ (by omega), dp_in_lo (by omega)]
  · rw [he r hr, h2, if_neg (by omega), pe r (by omega) hr, h3]
    rcases Nat.eq_zero_or_pos i with z | z
    · subst z
      rw [A2, Nat.add_zero, dp_pa_in_top G hk g0, he p (by omega), dp_in_lo hpt]
    · obtain ⟨j, P, e⟩ := A3 i z h1
      have := P.1
      rw [e, dp_pa_in_mid h1 P, he (t + j) (by omega), dp_in_mid (by omega)]
  · have pl := dp_wf_pl t5 (show 0 < s by omega) h4
    rw [he r hr, h2, if_neg (by omega), A1 s h4, A s h4, if_neg (by omega), pe r (by omega) hr, h3, dp_pa_in_hi t5 G gk h1 h4]
    by_cases z : dp_pa (fun r => lv (o r)) s < t
    · rw [if_pos z, he _ (by omega), dp_in_lo z]
    · rw [if_neg z, he _ (by omega), dp_in_hi (by omega)]
theorem dp_in_mem (o g : Nat → Nat) (ht : t ≤ c) (n : Nat) : (∃ r, r < c + k ∧ dp_in o t k g r = n) ↔ ((∃ r, r < c ∧ o r = n) ∨ ∃ i, i < k ∧ g i = n) := by
  constructor
  · rintro ⟨r, hr, e⟩
    rcases dp_in_cases o g ht hr with ⟨h1, h2⟩ | ⟨i, h1, h3, h2⟩ | ⟨s, h1, h4, h3, h2⟩
    · exact Or.inl ⟨r, by omega, by rw [← h2]; exact e⟩
    · exact Or.inr ⟨i, h1, by rw [← h2]; exact e⟩
    · exact Or.inl ⟨s, h4, by rw [← h2]; exact e⟩
  · rintro (⟨r, h1, h2⟩ | ⟨i, h1, h2⟩)
    · rcases Nat.lt_or_ge r t with z | z
      · exact ⟨r, by omega, by rw [dp_in_lo z]; exact h2⟩
      · exact ⟨r + k, by omega, by rw [dp_in_hi z]; exact h2⟩
    · exact ⟨t + i, by omega, by rw [dp_in_mid h1]; exact h2⟩
end SI
section SO
variable {c k a : Nat} {o lv o' : Nat → Nat}
theorem dp_ot_cases (hr : ∀ r, r < c - k → o' r = dp_ot o a k r) {r : Nat} (h : r < c - k) : (r < a ∧ o' r = o r) ∨ (a ≤ r ∧ r + k < c ∧ o' r = o (r + k)) := by
  rcases Nat.lt_or_ge r a with z | z
  · exact Or.inl ⟨z, (hr r h).trans (dp_ot_lo z)⟩
  · exact Or.inr ⟨z, by omega, (hr r h).trans (dp_ot_hi z)⟩
theorem dp_lv_ot (he : ∀ r, r < c - k → o' r = dp_ot o a k r) {r : Nat} (h : r < c - k) : dp_ot (fun r => lv (o r)) a k r = lv (o' r) := by
  rcases dp_ot_cases he h with ⟨h1, h2⟩ | ⟨h1, h3, h2⟩
  · rw [h2, dp_ot_lo h1]
  · rw [h2, dp_ot_hi h1]
theorem dp_Tc_ot (T : dp_Tc c o lv) (ha : 0 < a) (E : dp_Ed (fun r => lv (o r)) c a (a + k)) (ho : ∀ r, o' r < 32) (he : ∀ r, r < c - k → o' r = dp_ot o a k r) : dp_Tc (c - k) o' lv := by
  obtain ⟨t1, t2, t3, t4, t5⟩ := T
  have e1 := E.1
  have e2 := E.2.1
  refine ⟨by omega, ?_, ho, fun r s hr hs e => ?_, ?_⟩
  · rw [he 0 (by omega), dp_ot_lo ha]; exact t2
  · rcases dp_ot_cases he hr with ⟨h1, h2⟩ | ⟨h1, h3, h2⟩ <;> rcases dp_ot_cases he hs with ⟨m1, m2⟩ | ⟨m1, m3, m2⟩ <;> rw [h2, m2] at e
    · exact t4 r s (by omega) (by omega) e
    · have := t4 r (s + k) (by omega) m3 e; omega
    · have := t4 (r + k) s h3 (by omega) e; omega
    · have := t4 (r + k) (s + k) h3 m3 e; omega
  · exact dp_WF_congr (fun r hr => dp_lv_ot he hr) (dp_wf_ot t5 ha E)
theorem dp_Ab_ot {ab : Nat → Int32} (T : dp_Tc c o lv) (ha : 0 < a) (E : dp_Ed (fun r => lv (o r)) c a (a + k)) (he : ∀ r, r < c - k → o' r = dp_ot o a k r) (A : dp_Ab c o (fun r => lv (o r)) ab) : dp_Ab (c - k) o' (fun r => lv (o' r)) ab := by
  obtain ⟨t1, t2, t3, t4, t5⟩ := T
  have e1 := E.1
  have e2 := E.2.1
  have W := dp_wf_ot t5 ha E
  have pe : ∀ r, 0 < r → r < c - k → dp_pa (fun r => lv (o' r)) r = dp_pa (dp_ot (fun r => lv (o r)) a k) r := fun r h0 hr => dp_pa_congr (fun r hr => dp_lv_ot he hr) W h0 hr
  intro r hr
  rcases dp_ot_cases he hr with ⟨h1, h2⟩ | ⟨h1, h3, h2⟩
  · rw [h2, A r (by omega)]
    by_cases z : r = 0
    · rw [if_pos z, if_pos z]
    · have pl := dp_wf_pl t5 (show 0 < r by omega) (by omega)
      rw [if_neg z, if_neg z, pe r (by omega) hr, dp_pa_ot_lo t5 (by omega) (by omega) h1, he _ (by omega), dp_ot_lo (by omega)]
  · have pl := dp_wf_pl t5 (show 0 < r + k by omega) h3
    rw [h2, A (r + k) h3, if_neg (by omega), if_neg (by omega), pe r (by omega) hr]
    rcases dp_pa_ot_hi t5 E h1 h3 with ⟨z, e⟩ | ⟨z, e⟩
    · rw [e, he _ (by omega), dp_ot_lo z]
    · rw [e, he _ (by omega), dp_ot_hi (by omega), Nat.sub_add_cancel (by omega)]
theorem dp_ot_mem (he : ∀ r, r < c - k → o' r = dp_ot o a k r) (hk : a + k ≤ c) (n : Nat) : (∃ r, r < c - k ∧ o' r = n) ↔ ∃ r, r < c ∧ (r < a ∨ a + k ≤ r) ∧ o r = n := by
  constructor
  · rintro ⟨r, hr, e⟩
    rcases dp_ot_cases he hr with ⟨h1, h2⟩ | ⟨h1, h3, h2⟩
    · exact ⟨r, by omega, Or.inl h1, by rw [← h2]; exact e⟩
    · exact ⟨r + k, h3, Or.inr (by omega), by rw [← h2]; exact e⟩
  · rintro ⟨r, h1, h2 | h2, e⟩
    · exact ⟨r, by omega, by rw [he r (by omega), dp_ot_lo h2]; exact e⟩
    · exact ⟨r - k, by omega, by rw [he _ (by omega), dp_ot_hi (by omega), Nat.sub_add_cancel (by omega)]; exact e⟩
end SO
/-! the arrays that the shifting loops leave -/
def dp_cl (o : Nat → Nat) (c a k : Nat) : Nat → Nat := fun j => if a ≤ j ∧ j + k < c then o (j + k) else o j
def dp_og (o : Nat → Nat) (c t k : Nat) : Nat → Nat := fun j => if t + k ≤ j ∧ j < c + k then o (j - k) else o j
def dp_fl (f : Nat → Nat) (t k : Nat) (g : Nat → Nat) : Nat → Nat := fun j => if t ≤ j ∧ j < t + k then g (j - t) else f j
theorem dp_cl_ot {o : Nat → Nat} {c a k r : Nat} (h : r < c - k) : dp_cl o c a k r = dp_ot o a k r := by
  unfold dp_cl dp_ot
  rcases Nat.lt_or_ge r a with z | z
  · rw [if_neg (by omega), if_pos z]
  · rw [if_pos (by omega), if_neg (by omega)]
theorem dp_fl_in {o g : Nat → Nat} {c t k r : Nat} (h : r < c + k) : dp_fl (dp_og o c t k) t k g r = dp_in o t k g r := by
  unfold dp_fl dp_og dp_in
  rcases Nat.lt_or_ge r t with z | z
  · rw [if_neg (by omega), if_neg (by omega), if_pos z]
  · rcases Nat.lt_or_ge r (t + k) with y | y
    · rw [if_pos (by omega), if_neg (by omega), if_pos y]
    · rw [if_neg (by omega), if_pos (by omega), if_neg (by omega), if_neg (by omega)]
theorem dp_cl_lt {o : Nat → Nat} {c a k : Nat} (h : ∀ r, o r < 32) : ∀ r, dp_cl o c a k r < 32 := fun r => by
  unfold dp_cl
  split
  · exact h _
  · exact h _
theorem dp_og_lt {o : Nat → Nat} {c t k : Nat} (h : ∀ r, o r < 32) : ∀ r, dp_og o c t k r < 32 := fun r => by
  unfold dp_og
  split
  · exact h _
  · exact h _
theorem dp_fl_lt {f g : Nat → Nat} {t k : Nat} (h : ∀ r, f r < 32) (hg : ∀ i, i < k → g i < 32) : ∀ r, dp_fl f t k g r < 32 := fun r => by
  unfold dp_fl
  split
  · exact hg _ (by omega)
  · exact h _
def dp_nu (f : Nat → Nat) (k x : Nat) : Nat → Nat := fun j => if j = k then x else f j
theorem dp_nu_s {f : Nat → Nat} {k x : Nat} : dp_nu f k x k = x := if_pos rfl
theorem dp_nu_n {f : Nat → Nat} {k x j : Nat} (h : j ≠ k) : dp_nu f k x j = f j := if_neg h
theorem dp_upd {f : Nat → Nat} {k x : Nat} : upd (fun j => nI (f j)) k (nI x) = fun j => nI (dp_nu f k x j) := by
  funext j
  show (if j = k then nI x else nI (f j)) = nI (if j = k then x else f j)
  split <;> rfl
theorem dp_cl_0 (o : Nat → Nat) (c a k : Nat) : dp_cl o (a + k) a k = o := by
  funext j
  unfold dp_cl
  rw [if_neg (by omega)]
theorem dp_cl_s {o : Nat → Nat} {a k r : Nat} (h : a + k ≤ r) (hk : 0 < k) : dp_nu (dp_cl o r a k) (r - k) (dp_cl o r a k r) = dp_cl o (r + 1) a k := by
  funext j
  have e : dp_cl o r a k r = o r := by
    unfold dp_cl
    rw [if_neg (by omega)]
  rw [e]
  unfold dp_nu dp_cl
  by_cases z : j = r - k
  · rw [if_pos z, if_pos (by omega), show j + k = r from by omega]
  · rw [if_neg z]
    by_cases y : a ≤ j ∧ j + k < r
    · rw [if_pos y, if_pos (by omega)]
    · rw [if_neg y, if_neg (by omega)]
/-- the opening loop, from above: cells from r + k on are moved -/
def dp_oh (o : Nat → Nat) (c k r : Nat) : Nat → Nat := fun j => if r + k ≤ j ∧ j < c + k then o (j - k) else o j
theorem dp_oh_0 (o : Nat → Nat) (c k : Nat) : dp_oh o c k c = o := by
  funext j
  unfold dp_oh
  rw [if_neg (by omega)]
theorem dp_oh_s {o : Nat → Nat} {c k r : Nat} (h : r < c) : dp_nu (dp_oh o c k (r + 1)) (r + k) (dp_oh o c k (r + 1) r) = dp_oh o c k r := by
  funext j
  have e : dp_oh o c k (r + 1) r = o r := by
    unfold dp_oh
    rw [if_neg (by omega)]
  rw [e]
  unfold dp_nu dp_oh
  by_cases z : j = r + k
  · rw [if_pos z, if_pos (by omega), show j - k = r from by omega]
  · rw [if_neg z]
    by_cases y : r + k ≤ j ∧ j < c + k
    · rw [if_pos y, if_pos (by omega)]
    · rw [if_neg y, if_neg (by omega)]
theorem dp_fl_0 (f : Nat → Nat) (t : Nat) (g : Nat → Nat) : dp_fl f t 0 g = f := by
  funext j
  unfold dp_fl
  rw [if_neg (by omega)]
theorem dp_fl_s {f g : Nat → Nat} {t i : Nat} : dp_nu (dp_fl f t i g) (t + i) (g i) = dp_fl f t (i + 1) g := by
  funext j
  unfold dp_nu dp_fl
  by_cases z : j = t + i
  · rw [if_pos z, if_pos (by omega), show j - t = i from by omega]
  · rw [if_neg z]
    by_cases y : t ≤ j ∧ j < t + i
    · rw [if_pos y, if_pos (by omega)]
    · rw [if_neg y, if_neg (by omega)]
theorem dp_fl_congr {f g g' : Nat → Nat} {t k : Nat} (h : ∀ i, i < k → g i = g' i) : dp_fl f t k g = dp_fl f t k g' := by
  funext j
  unfold dp_fl
  by_cases y : t ≤ j ∧ j < t + k
  · rw [if_pos y, if_pos y, h _ (by omega)]
  · rw [if_neg y, if_neg y]
