/-! ordered trees by levels along the document order -/
def dp_fe (l : Nat → Nat) (b : Nat) : Nat → Nat → Nat
  | 0, r => r
  | k + 1, r => if l b < l r then dp_fe l b k (r + 1) else r
theorem dp_fe_spec (l : Nat → Nat) (b : Nat) : ∀ k r, r ≤ dp_fe l b k r ∧ dp_fe l b k r ≤ r + k ∧ (∀ s, r ≤ s → s < dp_fe l b k r → l b < l s) ∧ (dp_fe l b k r = r + k ∨ l (dp_fe l b k r) ≤ l b)
  | 0, r => ⟨Nat.le_refl _, Nat.le_refl _, fun s h1 h2 => absurd h2 (by show ¬ s < r; omega), Or.inl rfl⟩
  | k + 1, r => by
    by_cases h : l b < l r
    · have e : dp_fe l b (k + 1) r = dp_fe l b k (r + 1) := if_pos h
      obtain ⟨h1, h2, h3, h4⟩ := dp_fe_spec l b k (r + 1)
      rw [e]
      refine ⟨by omega, by omega, fun s g1 g2 => ?_, ?_⟩
      · rcases Nat.lt_or_ge r s with z | z
        · exact h3 s z g2
        · rw [show s = r from by omega]; exact h
      · rcases h4 with h4 | h4
        · exact Or.inl (by omega)
        · exact Or.inr h4
    · have e : dp_fe l b (k + 1) r = r := if_neg h
      rw [e]
      exact ⟨Nat.le_refl _, by omega, fun s g1 g2 => absurd g2 (by omega), Or.inr (by omega)⟩
def dp_en (l : Nat → Nat) (c r : Nat) : Nat := dp_fe l r (c - (r + 1)) (r + 1)
def dp_Ed (l : Nat → Nat) (c r e : Nat) : Prop := r < e ∧ e ≤ c ∧ (∀ s, r < s → s < e → l r < l s) ∧ (e = c ∨ l e ≤ l r)
theorem dp_en_spec (l : Nat → Nat) {c r : Nat} (h : r < c) : dp_Ed l c r (dp_en l c r) := by
  obtain ⟨h1, h2, h3, h4⟩ := dp_fe_spec l r (c - (r + 1)) (r + 1)
  unfold dp_Ed dp_en
  refine ⟨by omega, by omega, fun s g1 g2 => h3 s g1 g2, ?_⟩
  rcases h4 with h4 | h4
  · exact Or.inl (by omega)
  · exact Or.inr h4
theorem dp_Ed_uniq {l : Nat → Nat} {c r e f : Nat} (h : dp_Ed l c r e) (g : dp_Ed l c r f) : e = f := by
  obtain ⟨h1, h2, h3, h4⟩ := h
  obtain ⟨g1, g2, g3, g4⟩ := g
  rcases Nat.lt_trichotomy e f with z | z | z
  · have := g3 e h1 z
    omega
  · exact z
  · have := h3 f g1 z
    omega
theorem dp_en_of {l : Nat → Nat} {c r e : Nat} (h : dp_Ed l c r e) : dp_en l c r = e := dp_Ed_uniq (dp_en_spec l (by have := h.1; have := h.2.1; omega)) h
def dp_fp (l : Nat → Nat) (b : Nat) : Nat → Nat
  | 0 => 0
  | q + 1 => if l q < l b then q else dp_fp l b q
theorem dp_fp_spec (l : Nat → Nat) (b : Nat) : ∀ k, (∃ q, q < k ∧ l q < l b) → dp_fp l b k < k ∧ l (dp_fp l b k) < l b ∧ ∀ s, dp_fp l b k < s → s < k → l b ≤ l s
  | 0, ⟨q, h, _⟩ => by omega
  | k + 1, ⟨q, hq, hl⟩ => by
    by_cases h : l k < l b
    · have e : dp_fp l b (k + 1) = k := if_pos h
      rw [e]
      exact ⟨by omega, h, fun s g1 g2 => by omega⟩
    · have e : dp_fp l b (k + 1) = dp_fp l b k := if_neg h
      have hqk : q < k := by
        rcases Nat.lt_or_ge q k with z | z
        · exact z
        · rw [show q = k from by omega] at hl; exact absurd hl h
      obtain ⟨h1, h2, h3⟩ := dp_fp_spec l b k ⟨q, hqk, hl⟩
      rw [e]
      refine ⟨by omega, h2, fun s g1 g2 => ?_⟩
      rcases Nat.lt_or_ge s k with z | z
      · exact h3 s g1 z
      · rw [show s = k from by omega]; omega
def dp_pa (l : Nat → Nat) (r : Nat) : Nat := dp_fp l r r
def dp_Pa (l : Nat → Nat) (q r : Nat) : Prop := q < r ∧ l q < l r ∧ ∀ s, q < s → s < r → l r ≤ l s
theorem dp_Pa_uniq {l : Nat → Nat} {r p q : Nat} (h : dp_Pa l p r) (g : dp_Pa l q r) : p = q := by
  obtain ⟨h1, h2, h3⟩ := h
  obtain ⟨g1, g2, g3⟩ := g
  rcases Nat.lt_trichotomy p q with z | z | z
  · have := h3 q z g1
    omega
  · exact z
  · have := g3 p z h1
    omega
theorem dp_pa_of {l : Nat → Nat} {r q : Nat} (h : dp_Pa l q r) : dp_pa l r = q := by
  obtain ⟨h1, h2, h3⟩ := dp_fp_spec l r r ⟨q, h.1, h.2.1⟩
  exact dp_Pa_uniq ⟨h1, h2, h3⟩ h
def dp_WF (l : Nat → Nat) (c : Nat) : Prop := 0 < c ∧ l 0 = 0 ∧ ∀ r, 0 < r → r < c → 1 ≤ l r ∧ l r ≤ l (r - 1) + 1
theorem dp_wf_pa {l : Nat → Nat} {c r : Nat} (W : dp_WF l c) (h0 : 0 < r) (hr : r < c) : dp_Pa l (dp_pa l r) r ∧ l (dp_pa l r) + 1 = l r := by
  obtain ⟨w1, w2, w3⟩ := W
  obtain ⟨h1, h2, h3⟩ := dp_fp_spec l r r ⟨0, h0, by have := (w3 r h0 hr).1; omega⟩
  have P : dp_Pa l (dp_pa l r) r := ⟨h1, h2, h3⟩
  refine ⟨P, ?_⟩
  generalize dp_pa l r = q at P ⊢
  obtain ⟨p1, p2, p3⟩ := P
  rcases Nat.lt_or_ge (q + 1) r with z | z
  · have a := p3 (q + 1) (by omega) z
    have b := (w3 (q + 1) (by omega) (by omega)).2
    rw [show q + 1 - 1 = q from by omega] at b
    omega
  · have b := (w3 r h0 hr).2
    rw [show r - 1 = q from by omega] at b
    omega
theorem dp_wf_pl {l : Nat → Nat} {c r : Nat} (W : dp_WF l c) (h0 : 0 < r) (hr : r < c) : dp_pa l r < r := (dp_wf_pa W h0 hr).1.1
theorem dp_wf_rank {l : Nat → Nat} {c : Nat} (W : dp_WF l c) : ∀ r, r < c → l r ≤ r
  | 0, _ => by have := W.2.1; omega
  | r + 1, h => by
    have a := dp_wf_rank W r (by omega)
    have b := (W.2.2 (r + 1) (by omega) h).2
    rw [show r + 1 - 1 = r from by omega] at b
    omega
/-- s is below r just when every level behind r up to s is greater -/
theorem dp_bl {l : Nat → Nat} {c r s : Nat} (hs : s < c) : (r < s ∧ s < dp_en l c r) ↔ (r < s ∧ ∀ t, r < t → t ≤ s → l r < l t) := by
  constructor
  · rintro ⟨h1, h2⟩
    obtain ⟨e1, e2, e3, e4⟩ := dp_en_spec l (c := c) (r := r) (by omega)
    exact ⟨h1, fun t g1 g2 => e3 t g1 (by omega)⟩
  · rintro ⟨h1, h2⟩
    obtain ⟨e1, e2, e3, e4⟩ := dp_en_spec l (c := c) (r := r) (by omega)
    refine ⟨h1, ?_⟩
    rcases Nat.lt_or_ge s (dp_en l c r) with z | z
    · exact z
    · have := h2 _ e1 z
      omega
theorem dp_climb {l : Nat → Nat} {c r s : Nat} (W : dp_WF l c) (h0 : 0 < s) (hs : s < c) : (r < s ∧ s < dp_en l c r) ↔ (dp_pa l s = r ∨ (r < dp_pa l s ∧ dp_pa l s < dp_en l c r)) := by
  obtain ⟨⟨p1, p2, p3⟩, p4⟩ := dp_wf_pa W h0 hs
  rw [dp_bl hs, dp_bl (show dp_pa l s < c by omega)]
  generalize dp_pa l s = q at *
  constructor
  · rintro ⟨h1, h2⟩
    rcases Nat.lt_trichotomy q r with z | z | z
    · have a := p3 r z h1
      have b := h2 s h1 (Nat.le_refl _)
      omega
    · exact Or.inl z
    · exact Or.inr ⟨z, fun t g1 g2 => h2 t g1 (by omega)⟩
  · rintro (z | ⟨z, h⟩)
    · subst z
      refine ⟨p1, fun t g1 g2 => ?_⟩
      rcases Nat.lt_or_ge t s with y | y
      · have := p3 t g1 y
        omega
      · rw [show t = s from by omega]; exact p2
    · refine ⟨by omega, fun t g1 g2 => ?_⟩
      have b := h q z (Nat.le_refl _)
      rcases Nat.lt_or_ge q t with y | y
      · rcases Nat.lt_or_ge t s with x | x
        · have := p3 t y x
          omega
        · rw [show t = s from by omega]; omega
      · exact h t g1 y
/-- children -/
def dp_ch (l : Nat → Nat) (x j : Nat) : Bool := decide (0 < j ∧ dp_pa l j = x)
theorem dp_ch_iff {l : Nat → Nat} {x j : Nat} : dp_ch l x j = true ↔ 0 < j ∧ dp_pa l j = x := decide_eq_true_iff
theorem dp_ch_in {l : Nat → Nat} {c x j : Nat} (W : dp_WF l c) (hj : j < c) (h : dp_ch l x j = true) : x < j ∧ j < dp_en l c x := by
  obtain ⟨h0, h1⟩ := dp_ch_iff.mp h
  exact (dp_climb W h0 hj).mpr (Or.inl h1)
theorem dp_ch_lo {l : Nat → Nat} {c x j : Nat} (W : dp_WF l c) (hj : j < c) (h : j ≤ x) : dp_ch l x j = false := by
  cases hb : dp_ch l x j
  · rfl
  · have := (dp_ch_in W hj hb).1; omega
theorem dp_ch_hi {l : Nat → Nat} {c x j : Nat} (W : dp_WF l c) (hj : j < c) (h : dp_en l c x ≤ j) : dp_ch l x j = false := by
  cases hb : dp_ch l x j
  · rfl
  · have := (dp_ch_in W hj hb).2; omega
/-- the rank of a node: the last place that holds it -/
def dp_rk (o : Nat → Nat) (n : Nat) : Nat → Nat
  | 0 => 0
  | i + 1 => if o i = n then i else dp_rk o n i
theorem dp_rk_at {o : Nat → Nat} {n r : Nat} (hr : o r = n) : ∀ {c : Nat}, r < c → (∀ s, s < c → o s = n → s = r) → dp_rk o n c = r
  | 0, h, _ => by omega
  | c + 1, h, hu => by
    by_cases e : o c = n
    · have : dp_rk o n (c + 1) = c := if_pos e
      rw [this]; exact hu c (by omega) e
    · have : dp_rk o n (c + 1) = dp_rk o n c := if_neg e
      rw [this]
      have hrc : r < c := by
        rcases Nat.lt_or_ge r c with z | z
        · exact z
        · rw [show c = r from by omega] at e; exact absurd hr e
      exact dp_rk_at hr hrc (fun s hs => hu s (by omega))
/-! putting a piece in -/
def dp_in (f : Nat → Nat) (t k : Nat) (g : Nat → Nat) : Nat → Nat := fun r => if r < t then f r else if r < t + k then g (r - t) else f (r - k)
theorem dp_in_lo {f g : Nat → Nat} {t k r : Nat} (h : r < t) : dp_in f t k g r = f r := if_pos h
theorem dp_in_mid {f g : Nat → Nat} {t k i : Nat} (h : i < k) : dp_in f t k g (t + i) = g i := by
  show (if t + i < t then f (t + i) else if t + i < t + k then g (t + i - t) else f (t + i - k)) = _
  rw [if_neg (by omega), if_pos (by omega), show t + i - t = i from by omega]
theorem dp_in_hi {f g : Nat → Nat} {t k r : Nat} (h : t ≤ r) : dp_in f t k g (r + k) = f r := by
  show (if r + k < t then f (r + k) else if r + k < t + k then g (r + k - t) else f (r + k - k)) = _
  rw [if_neg (by omega), if_neg (by omega), Nat.add_sub_cancel]
def dp_Gp (l : Nat → Nat) (c p t : Nat) : Prop := p < t ∧ t ≤ c ∧ (∀ s, p < s → s < t → l p < l s) ∧ (t = c ∨ l t ≤ l p + 1)
theorem dp_gp_en {l : Nat → Nat} {c p : Nat} (hp : p < c) : dp_Gp l c p (dp_en l c p) := by
  obtain ⟨e1, e2, e3, e4⟩ := dp_en_spec l hp
  exact ⟨e1, e2, e3, e4.elim Or.inl (fun h => Or.inr (by omega))⟩
theorem dp_gp_ch {l : Nat → Nat} {c p t : Nat} (W : dp_WF l c) (ht : t < c) (h : dp_ch l p t = true) : dp_Gp l c p t := by
  obtain ⟨h0, rfl⟩ := dp_ch_iff.mp h
  obtain ⟨⟨p1, p2, p3⟩, p4⟩ := dp_wf_pa W h0 ht
  exact ⟨p1, by omega, fun s g1 g2 => by have := p3 s g1 g2; omega, Or.inr (by omega)⟩
theorem dp_wf_in {l g : Nat → Nat} {c p t k : Nat} (W : dp_WF l c) (G : dp_Gp l c p t) (hk : 0 < k) (g0 : g 0 = l p + 1) (g1 : ∀ i, 0 < i → i < k → l p + 1 ≤ g i ∧ g i ≤ g (i - 1) + 1) : dp_WF (dp_in l t k g) (c + k) := by
  obtain ⟨w1, w2, w3⟩ := W
  obtain ⟨a1, a2, a3, a4⟩ := G
  have gk : ∀ i, i < k → l p + 1 ≤ g i := fun i hi => by
    rcases Nat.eq_zero_or_pos i with z | z
    · rw [z]; omega
    · exact (g1 i z hi).1
  refine ⟨by omega, by rw [dp_in_lo (by omega)]; exact w2, fun r h0 hr => ?_⟩
  rcases Nat.lt_or_ge r t with z | z
  · rw [dp_in_lo z, dp_in_lo (show r - 1 < t by omega)]
    exact w3 r h0 (by omega)
  · rcases Nat.lt_or_ge r (t + k) with y | y
    · obtain ⟨i, rfl⟩ : ∃ i, r = t + i := ⟨r - t, by omega⟩
      rw [dp_in_mid (show i < k by omega)]
      have := gk i (by omega)
      refine ⟨by omega, ?_⟩
      rcases Nat.eq_zero_or_pos i with x | x
      · subst x
        rw [show t + 0 - 1 = t - 1 from by omega, dp_in_lo (show t - 1 < t by omega)]
        rcases Nat.lt_or_ge p (t - 1) with u | u
        · have := a3 (t - 1) u (by omega)
          omega
        · rw [show t - 1 = p from by omega]; omega
      · rw [show t + i - 1 = t + (i - 1) from by omega, dp_in_mid (show i - 1 < k by omega)]
        exact (g1 i x (by omega)).2
    · obtain ⟨s, rfl⟩ : ∃ s, r = s + k := ⟨r - k, by omega⟩
      have ht : t ≤ s := by omega
      rw [dp_in_hi ht]
      have hs := w3 s (by omega) (by omega)
      refine ⟨hs.1, ?_⟩
      rcases Nat.lt_or_ge t s with x | x
      · rw [show s + k - 1 = (s - 1) + k from by omega, dp_in_hi (show t ≤ s - 1 by omega)]
        exact hs.2
      · obtain rfl : t = s := by omega
        have := gk (k - 1) (by omega)
        rw [show t + k - 1 = t + (k - 1) from by omega, dp_in_mid (show k - 1 < k by omega)]
        omega
theorem dp_pa_in_lo {l g : Nat → Nat} {c t k r : Nat} (W : dp_WF l c) (ht : t ≤ c) (h0 : 0 < r) (hr : r < t) : dp_pa (dp_in l t k g) r = dp_pa l r := by
  obtain ⟨⟨p1, p2, p3⟩, -⟩ := dp_wf_pa W h0 (by omega)
  apply dp_pa_of
  refine ⟨p1, ?_, fun s h1 h2 => ?_⟩
  · rw [dp_in_lo (by omega), dp_in_lo hr]; exact p2
  · rw [dp_in_lo hr, dp_in_lo (by omega)]; exact p3 s h1 h2
theorem dp_pa_in_top {l g : Nat → Nat} {c p t k : Nat} (G : dp_Gp l c p t) (hk : 0 < k) (g0 : g 0 = l p + 1) : dp_pa (dp_in l t k g) t = p := by
  obtain ⟨a1, a2, a3, a4⟩ := G
  have e : dp_in l t k g t = l p + 1 := (dp_in_mid (i := 0) hk).trans g0
  apply dp_pa_of
  refine ⟨a1, ?_, fun s h1 h2 => ?_⟩
  · rw [e, dp_in_lo a1]; omega
  · rw [e, dp_in_lo h2]; exact a3 s h1 h2
theorem dp_pa_in_mid {l g : Nat → Nat} {t k i j : Nat} (hi : i < k) (h : dp_Pa g j i) : dp_pa (dp_in l t k g) (t + i) = t + j := by
  obtain ⟨p1, p2, p3⟩ := h
  apply dp_pa_of
  refine ⟨by omega, ?_, fun s h1 h2 => ?_⟩
  · rw [dp_in_mid (by omega), dp_in_mid hi]; exact p2
  · obtain ⟨m, rfl⟩ : ∃ m, s = t + m := ⟨s - t, by omega⟩
    rw [dp_in_mid hi, dp_in_mid (by omega)]; exact p3 m (by omega) (by omega)
theorem dp_pa_in_hi {l g : Nat → Nat} {c p t k r : Nat} (W : dp_WF l c) (G : dp_Gp l c p t) (gk : ∀ i, i < k → l p + 1 ≤ g i) (h0 : t ≤ r) (hr : r < c) : dp_pa (dp_in l t k g) (r + k) = if dp_pa l r < t then dp_pa l r else dp_pa l r + k := by
  obtain ⟨a1, a2, a3, a4⟩ := G
  obtain ⟨⟨p1, p2, p3⟩, -⟩ := dp_wf_pa W (show 0 < r by omega) hr
  generalize dp_pa l r = q at *
  by_cases z : q < t
  · rw [if_pos z]
    apply dp_pa_of
    refine ⟨by omega, ?_, fun s h1 h2 => ?_⟩
    · rw [dp_in_lo z, dp_in_hi h0]; exact p2
    · rw [dp_in_hi h0]
      rcases Nat.lt_or_ge s t with y | y
      · rw [dp_in_lo y]; exact p3 s h1 (by omega)
      · rcases Nat.lt_or_ge s (t + k) with x | x
        · obtain ⟨m, rfl⟩ : ∃ m, s = t + m := ⟨s - t, by omega⟩
          rw [dp_in_mid (by omega)]
          have b := gk m (by omega)
          have d : l r ≤ l t := by
            rcases Nat.lt_or_ge t r with u | u
            · exact p3 t z u
            · rw [show t = r from by omega]; exact Nat.le_refl _
          omega
        · obtain ⟨m, rfl⟩ : ∃ m, s = m + k := ⟨s - k, by omega⟩
          rw [dp_in_hi (by omega)]; exact p3 m (by omega) (by omega)
  · rw [if_neg z]
    apply dp_pa_of
    refine ⟨by omega, ?_, fun s h1 h2 => ?_⟩
    · rw [dp_in_hi (by omega), dp_in_hi h0]; exact p2
    · obtain ⟨m, rfl⟩ : ∃ m, s = m + k := ⟨s - k, by omega⟩
      rw [dp_in_hi h0, dp_in_hi (by omega)]; exact p3 m (by omega) (by omega)
/-! taking a piece out -/
def dp_ot (f : Nat → Nat) (a k : Nat) : Nat → Nat := fun r => if r < a then f r else f (r + k)
theorem dp_ot_lo {f : Nat → Nat} {a k r : Nat} (h : r < a) : dp_ot f a k r = f r := if_pos h
theorem dp_ot_hi {f : Nat → Nat} {a k r : Nat} (h : a ≤ r) : dp_ot f a k r = f (r + k) := if_neg (by omega)
theorem dp_wf_ot {l : Nat → Nat} {c a k : Nat} (W : dp_WF l c) (ha : 0 < a) (E : dp_Ed l c a (a + k)) : dp_WF (dp_ot l a k) (c - k) := by
  obtain ⟨w1, w2, w3⟩ := W
  obtain ⟨e1, e2, e3, e4⟩ := E
  refine ⟨by omega, by rw [dp_ot_lo ha]; exact w2, fun r h0 hr => ?_⟩
  rcases Nat.lt_trichotomy r a with z | z | z
  · rw [dp_ot_lo z, dp_ot_lo (by omega)]; exact w3 r h0 (by omega)
  · subst z
    rw [dp_ot_hi (Nat.le_refl _), dp_ot_lo (by omega)]
    have x := w3 (r + k) (by omega) (by omega)
    have y := w3 r h0 (by omega)
    omega
  · rw [dp_ot_hi (by omega), dp_ot_hi (show a ≤ r - 1 by omega), show r - 1 + k = r + k - 1 from by omega]
    exact w3 (r + k) (by omega) (by omega)
theorem dp_pa_ot_lo {l : Nat → Nat} {c a k r : Nat} (W : dp_WF l c) (ha : a ≤ c) (h0 : 0 < r) (hr : r < a) : dp_pa (dp_ot l a k) r = dp_pa l r := by
  obtain ⟨⟨p1, p2, p3⟩, -⟩ := dp_wf_pa W h0 (by omega)
  apply dp_pa_of
  refine ⟨p1, ?_, fun s h1 h2 => ?_⟩
  · rw [dp_ot_lo (by omega), dp_ot_lo hr]; exact p2
  · rw [dp_ot_lo hr, dp_ot_lo (by omega)]; exact p3 s h1 h2
theorem dp_pa_ot_hi {l : Nat → Nat} {c a k r : Nat} (W : dp_WF l c) (E : dp_Ed l c a (a + k)) (h0 : a ≤ r) (hr : r + k < c) : (dp_pa l (r + k) < a ∧ dp_pa (dp_ot l a k) r = dp_pa l (r + k)) ∨ (a + k ≤ dp_pa l (r + k) ∧ dp_pa (dp_ot l a k) r = dp_pa l (r + k) - k) := by
  obtain ⟨e1, e2, e3, e4⟩ := E
  obtain ⟨⟨p1, p2, p3⟩, -⟩ := dp_wf_pa W (show 0 < r + k by omega) hr
  generalize dp_pa l (r + k) = q at *
  have le : l (a + k) ≤ l a := by omega
  rcases Nat.lt_or_ge q a with z | z
  · refine Or.inl ⟨z, ?_⟩
    apply dp_pa_of
    refine ⟨by omega, ?_, fun s h1 h2 => ?_⟩
    · rw [dp_ot_lo z, dp_ot_hi h0]; exact p2
    · rw [dp_ot_hi h0]
      rcases Nat.lt_or_ge s a with y | y
      · rw [dp_ot_lo y]; exact p3 s h1 (by omega)
      · rw [dp_ot_hi y]; exact p3 (s + k) (by omega) (by omega)
  · rcases Nat.lt_or_ge q (a + k) with y | y
    · exfalso
      have lq : l a ≤ l q := by
        rcases Nat.lt_or_ge a q with x | x
        · have := e3 q x y
          omega
        · rw [show a = q from by omega]; exact Nat.le_refl _
      rcases Nat.lt_or_ge (a + k) (r + k) with x | x
      · have := p3 (a + k) y x
        omega
      · rw [show r + k = a + k from by omega] at p2
        omega
    · refine Or.inr ⟨y, ?_⟩
      apply dp_pa_of
      refine ⟨by omega, ?_, fun s h1 h2 => ?_⟩
      · rw [dp_ot_hi (by omega), dp_ot_hi h0, show q - k + k = q from by omega]; exact p2
      · rw [dp_ot_hi h0, dp_ot_hi (by omega)]; exact p3 (s + k) (by omega) (by omega)
/-- inside a piece the parents are inside -/
theorem dp_pa_sub {l : Nat → Nat} {c a k i : Nat} (W : dp_WF l c) (E : dp_Ed l c a (a + k)) (h0 : 0 < i) (hi : i < k) : ∃ j, j < i ∧ dp_pa l (a + i) = a + j ∧ dp_Pa l (a + j) (a + i) ∧ l a < l (a + i) := by
  obtain ⟨e1, e2, e3, e4⟩ := E
  obtain ⟨P, -⟩ := dp_wf_pa W (show 0 < a + i by omega) (by omega)
  have la := e3 (a + i) (by omega) (by omega)
  have ge : a ≤ dp_pa l (a + i) := by
    rcases Nat.lt_or_ge (dp_pa l (a + i)) a with z | z
    · have := P.2.2 a z (by omega)
      omega
    · exact z
  have lt := P.1
  refine ⟨dp_pa l (a + i) - a, by omega, by omega, ?_, la⟩
  rw [show a + (dp_pa l (a + i) - a) = dp_pa l (a + i) from by omega]
  exact P
