/-! a row of stores -/
def dp_fu (f : Nat → Nat) (m v : Nat → Nat) : Nat → Nat → Nat
  | 0 => f
  | i + 1 => dp_nu (dp_fu f m v i) (m i) (v i)
theorem dp_fu_at {f m v : Nat → Nat} {k : Nat} (hm : ∀ i j, i < k → j < k → m i = m j → i = j) : ∀ {i : Nat}, i ≤ k → ∀ {j : Nat}, j < i → dp_fu f m v i (m j) = v j
  | 0, _, j, h => absurd h (Nat.not_lt_zero _)
  | i + 1, hi, j, h => by
    show dp_nu (dp_fu f m v i) (m i) (v i) (m j) = v j
    by_cases z : j = i
    · subst z; exact dp_nu_s
    · rw [dp_nu_n (fun e => z (hm j i (by omega) (by omega) e))]
      exact dp_fu_at hm (by omega) (by omega)
theorem dp_fu_n {f m v : Nat → Nat} {n : Nat} : ∀ {i : Nat}, (∀ j, j < i → m j ≠ n) → dp_fu f m v i n = f n
  | 0, _ => rfl
  | i + 1, h => by
    show dp_nu (dp_fu f m v i) (m i) (v i) n = f n
    rw [dp_nu_n (fun e => h i (by omega) e.symm)]
    exact dp_fu_n (fun j hj => h j (by omega))
def dp_fU (f : Nat → Int32) (m : Nat → Nat) (v : Nat → Int32) : Nat → Nat → Int32
  | 0 => f
  | i + 1 => upd (dp_fU f m v i) (m i) (v i)
theorem dp_fU_at {f v : Nat → Int32} {m : Nat → Nat} {k : Nat} (hm : ∀ i j, i < k → j < k → m i = m j → i = j) : ∀ {i : Nat}, i ≤ k → ∀ {j : Nat}, j < i → dp_fU f m v i (m j) = v j
  | 0, _, j, h => absurd h (Nat.not_lt_zero _)
  | i + 1, hi, j, h => by
    show upd (dp_fU f m v i) (m i) (v i) (m j) = v j
    by_cases z : j = i
    · subst z; exact pk_us
    · rw [pk_un (fun e => z (hm j i (by omega) (by omega) e))]
      exact dp_fU_at hm (by omega) (by omega)
theorem dp_fU_n {f v : Nat → Int32} {m : Nat → Nat} {n : Nat} : ∀ {i : Nat}, (∀ j, j < i → m j ≠ n) → dp_fU f m v i n = f n
  | 0, _ => rfl
  | i + 1, h => by
    show upd (dp_fU f m v i) (m i) (v i) n = f n
    rw [pk_un (fun e => h i (by omega) e.symm)]
    exact dp_fU_n (fun j hj => h j (by omega))
theorem dp_fU_P {f v : Nat → Int32} {m : Nat → Nat} {P : Int32 → Prop} (hf : ∀ n, P (f n)) (hv : ∀ i, P (v i)) : ∀ i n, P (dp_fU f m v i n)
  | 0, n => hf n
  | i + 1, n => by
    show P (if n = m i then v i else dp_fU f m v i n)
    split
    · exact hv i
    · exact dp_fU_P hf hv i n
/-! the tree with its nodes -/
def dp_Tr (c : Nat) (o lv : Nat → Nat) (pr : Int32) : Prop := dp_Tc c o lv ∧ (∀ n, bt pr n = true ↔ ∃ r, r < c ∧ o r = n) ∧ dp_fc (bt pr) 32 = c
/-! the four edits of the shape -/
section SM
variable {c k p t a : Nat} {o lv : Nat → Nat} {pr : Int32} {ab : Nat → Int32}
theorem dp_inj_sub (T : dp_Tc c o lv) (hk : a + k ≤ c) : ∀ i j, i < k → j < k → o (a + i) = o (a + j) → i = j := fun i j hi hj e => by
  have := T.2.2.2.1 (a + i) (a + j) (by omega) (by omega) e
  omega
/-- the levels of a piece that is put below p -/
theorem dp_piece {lp : Nat} (T : dp_Tc c o lv) (E : dp_Ed (fun r => lv (o r)) c a (a + k)) : ∀ i, 0 < i → i < k → lp + 1 ≤ lv (o (a + i)) + lp + 1 - lv (o a) ∧ lv (o (a + i)) + lp + 1 - lv (o a) ≤ (lv (o (a + (i - 1))) + lp + 1 - lv (o a)) + 1 := fun i h0 hi => by
  have t5 := T.2.2.2.2
  obtain ⟨e1, e2, e3, e4⟩ := E
  have x := e3 (a + i) (by omega) (by omega)
  have y := (t5.2.2 (a + i) (by omega) (by omega)).2
  have z : lv (o a) ≤ lv (o (a + (i - 1))) := by
    rcases Nat.eq_zero_or_pos (i - 1) with w | w
    · rw [w]; exact Nat.le_refl _
    · have := e3 (a + (i - 1)) (by omega) (by omega)
      exact Nat.le_of_lt this
  rw [show a + i - 1 = a + (i - 1) from by omega] at y
  have x' : lv (o a) < lv (o (a + i)) := x
  have y' : lv (o (a + i)) ≤ lv (o (a + (i - 1))) + 1 := y
  omega
theorem dp_piece_pa {lp : Nat} {g : Nat → Nat} (T : dp_Tc c o lv) (E : dp_Ed (fun r => lv (o r)) c a (a + k)) (hg : ∀ i, i < k → g i = lv (o (a + i)) + lp + 1 - lv (o a)) {i : Nat} (h0 : 0 < i) (hi : i < k) : ∃ j, j < i ∧ dp_pa (fun r => lv (o r)) (a + i) = a + j ∧ dp_Pa g j i := by
  obtain ⟨j, hj, e, ⟨p1, p2, p3⟩, la⟩ := dp_pa_sub T.2.2.2.2 E h0 hi
  obtain ⟨e1, e2, e3, e4⟩ := E
  have ge : ∀ m, m < k → lv (o a) ≤ lv (o (a + m)) := fun m hm => by
    rcases Nat.eq_zero_or_pos m with w | w
    · rw [w]; exact Nat.le_refl _
    · exact Nat.le_of_lt (e3 (a + m) (by omega) (by omega))
  refine ⟨j, hj, e, hj, ?_, fun s h1 h2 => ?_⟩
  · rw [hg j (by omega), hg i hi]
    have p2' : lv (o (a + j)) < lv (o (a + i)) := p2
    have := ge j (by omega)
    omega
  · rw [hg s (by omega), hg i hi]
    have p3' : lv (o (a + i)) ≤ lv (o (a + s)) := p3 (a + s) (by omega) (by omega)
    have := ge s (by omega)
    omega
theorem dp_add_T (T : dp_Tr c o lv pr) (hc : c < 32) (G : dp_Gp (fun r => lv (o r)) c p t) : dp_Tr (c + 1) (dp_nu (dp_og o c t 1) t (dp_ln pr)) (dp_nu lv (dp_ln pr) (lv (o p) + 1)) (pr ||| dp_bo (dp_ln pr)) ∧ (dp_Ab c o (fun r => lv (o r)) ab → dp_Ab (c + 1) (dp_nu (dp_og o c t 1) t (dp_ln pr)) (fun r => dp_nu lv (dp_ln pr) (lv (o p) + 1) (dp_nu (dp_og o c t 1) t (dp_ln pr) r)) (upd ab (dp_ln pr) (nI (o p)))) := by
  obtain ⟨T, hp, hf⟩ := T
  obtain ⟨n1, n2⟩ := dp_ln_spec (pr := pr) (by omega)
  generalize dp_ln pr = n at *
  have fr : ∀ r, r < c → o r ≠ n := fun r hr e => by
    rw [(hp n).mpr ⟨r, hr, e⟩] at n1; cases n1
  have eq : dp_nu (dp_og o c t 1) t n = dp_fl (dp_og o c t 1) t 1 (fun _ => n) := by
    rw [← dp_fl_s, dp_fl_0, Nat.add_zero]
  have he : ∀ r, r < c + 1 → dp_nu (dp_og o c t 1) t n r = dp_in o t 1 (fun _ => n) r := fun r hr => by rw [eq]; exact dp_fl_in hr
  have ho : ∀ r, dp_nu (dp_og o c t 1) t n r < 32 := fun r => by rw [eq]; exact dp_fl_lt (dp_og_lt T.2.2.1) (fun _ _ => n2) r
  have hl : ∀ r, r < c → dp_nu lv n (lv (o p) + 1) (o r) = lv (o r) := fun r hr => dp_nu_n (fr r hr)
  have g0 : dp_nu lv n (lv (o p) + 1) n = lv (o p) + 1 := dp_nu_s
  have g1 : ∀ i, 0 < i → i < 1 → lv (o p) + 1 ≤ dp_nu lv n (lv (o p) + 1) ((fun _ => n) i) ∧ dp_nu lv n (lv (o p) + 1) ((fun _ => n) i) ≤ dp_nu lv n (lv (o p) + 1) ((fun _ => n) (i - 1)) + 1 := fun i h1 h2 => absurd h2 (by omega)
  refine ⟨⟨dp_Tc_in (g := fun _ => n) T G (by omega) (by omega) ho he (fun i j hi hj _ => by omega) (fun i r _ hr e => fr r hr e.symm) hl g0 g1, fun m => ?_, ?_⟩, fun A => ?_⟩
  · have e1 : (∃ r, r < c + 1 ∧ dp_nu (dp_og o c t 1) t n r = m) ↔ ∃ r, r < c + 1 ∧ dp_in o t 1 (fun _ => n) r = m := ⟨fun ⟨r, h1, h2⟩ => ⟨r, h1, by rw [← he r h1]; exact h2⟩, fun ⟨r, h1, h2⟩ => ⟨r, h1, by rw [he r h1]; exact h2⟩⟩
    rw [e1, dp_in_mem o (fun _ => n) G.2.1 m, dp_bt_or _ n2, Bool.or_eq_true, hp m, decide_eq_true_iff]
    exact ⟨fun h => h.elim Or.inl (fun e => Or.inr ⟨0, by omega, e.symm⟩), fun h => h.elim Or.inl (fun ⟨_, _, e⟩ => Or.inr e.symm)⟩
  · rw [dp_fc_or n2 n1, hf]
  · exact dp_Ab_in (g := fun _ => n) T G (by omega) he hl g0 g1 A (fun r hr => pk_un (fr r hr)) pk_us (fun i h1 h2 => absurd h2 (by omega))
/-- nodes taken off a set, one after the other -/
def dp_pc (o : Nat → Nat) (a : Nat) (pr : Int32) : Nat → Int32
  | 0 => pr
  | i + 1 => dp_pc o a pr i &&& (dp_bo (o (a + i)) ^^^ (-1))
theorem dp_pc_bt (ho : ∀ r, o r < 32) {n : Nat} (hn : n < 32) : ∀ i, (bt (dp_pc o a pr i) n = true ↔ bt pr n = true ∧ ∀ j, j < i → o (a + j) ≠ n)
  | 0 => ⟨fun h => ⟨h, fun j hj => absurd hj (Nat.not_lt_zero _)⟩, fun h => h.1⟩
  | i + 1 => by
    show bt (dp_pc o a pr i &&& (dp_bo (o (a + i)) ^^^ (-1))) n = true ↔ _
    rw [dp_bt_clr _ (ho _) hn, Bool.and_eq_true, dp_pc_bt ho hn i, Bool.not_eq_true', decide_eq_false_iff_not]
    constructor
    · rintro ⟨⟨h1, h2⟩, h3⟩
      refine ⟨h1, fun j hj => ?_⟩
      rcases Nat.lt_or_ge j i with z | z
      · exact h2 j z
      · rw [show j = i from by omega]; exact fun e => h3 e.symm
    · rintro ⟨h1, h2⟩
      exact ⟨⟨h1, fun j hj => h2 j (by omega)⟩, fun e => h2 i (by omega) e.symm⟩
theorem dp_pc_fc (ho : ∀ r, o r < 32) (hm : ∀ i j, i < k → j < k → o (a + i) = o (a + j) → i = j) (hb : ∀ i, i < k → bt pr (o (a + i)) = true) : ∀ i, i ≤ k → dp_fc (bt (dp_pc o a pr i)) 32 + i = dp_fc (bt pr) 32
  | 0, _ => rfl
  | i + 1, hi => by
    have ih := dp_pc_fc ho hm hb i (by omega)
    have h : bt (dp_pc o a pr i) (o (a + i)) = true := (dp_pc_bt ho (ho _) i).mpr ⟨hb i (by omega), fun j hj e => by have := hm j i (by omega) (by omega) e; omega⟩
    have := dp_fc_cl (ho (a + i)) h
    show dp_fc (bt (dp_pc o a pr i &&& (dp_bo (o (a + i)) ^^^ (-1)))) 32 + (i + 1) = _
    omega
theorem dp_rem_T (T : dp_Tr c o lv pr) (ha : 0 < a) (E : dp_Ed (fun r => lv (o r)) c a (a + k)) : dp_Tr (c - k) (dp_cl o c a k) lv (dp_pc o a pr k) ∧ (dp_Ab c o (fun r => lv (o r)) ab → dp_Ab (c - k) (dp_cl o c a k) (fun r => lv (dp_cl o c a k r)) ab) := by
  obtain ⟨T, hp, hf⟩ := T
  have e1 := E.1
  have e2 := E.2.1
  have he : ∀ r, r < c - k → dp_cl o c a k r = dp_ot o a k r := fun r hr => dp_cl_ot hr
  have hm := dp_inj_sub (k := k) (a := a) T e2
  refine ⟨⟨dp_Tc_ot T ha E (dp_cl_lt T.2.2.1) he, fun n => ?_, ?_⟩, fun A => dp_Ab_ot T ha E he A⟩
  · rw [dp_ot_mem he e2 n]
    constructor
    · intro h
      obtain ⟨h1, h2⟩ := (dp_pc_bt T.2.2.1 (dp_bt_lt h) k).mp h
      obtain ⟨r, hr, e⟩ := (hp n).mp h1
      refine ⟨r, hr, ?_, e⟩
      rcases Nat.lt_or_ge r a with z | z
      · exact Or.inl z
      · rcases Nat.lt_or_ge r (a + k) with y | y
        · exact absurd (by rw [show a + (r - a) = r from by omega]; exact e) (h2 (r - a) (by omega))
        · exact Or.inr y
    · rintro ⟨r, hr, hx, e⟩
      refine (dp_pc_bt T.2.2.1 (by rw [← e]; exact T.2.2.1 r) k).mpr ⟨(hp n).mpr ⟨r, hr, e⟩, fun j hj e3 => ?_⟩
      have := T.2.2.2.1 (a + j) r (by omega) hr (e3.trans e.symm)
      omega
  · have := dp_pc_fc (k := k) T.2.2.1 hm (fun i hi => (hp _).mpr ⟨a + i, by omega, rfl⟩) k (Nat.le_refl _)
    omega
/-- copying: numbers m, levels by a row of stores -/
theorem dp_cp_T (T : dp_Tr c o lv pr) (hc : c + k ≤ 32) (G : dp_Gp (fun r => lv (o r)) c p t) (E : dp_Ed (fun r => lv (o r)) c a (a + k)) : dp_Tr (c + k) (dp_fl (dp_og o c t k) t k (dp_fn pr)) (dp_fu lv (dp_fn pr) (fun i => lv (o (a + i)) + lv (o p) + 1 - lv (o a)) k) (dp_ps pr k) ∧ (∀ ab', dp_Ab c o (fun r => lv (o r)) ab → (∀ r, r < c → ab' (o r) = ab (o r)) → ab' (dp_fn pr 0) = nI (o p) → (∀ i j, 0 < i → i < k → dp_pa (fun r => lv (o r)) (a + i) = a + j → ab' (dp_fn pr i) = nI (dp_fn pr j)) → dp_Ab (c + k) (dp_fl (dp_og o c t k) t k (dp_fn pr)) (fun r => dp_fu lv (dp_fn pr) (fun i => lv (o (a + i)) + lv (o p) + 1 - lv (o a)) k (dp_fl (dp_og o c t k) t k (dp_fn pr) r)) ab') := by
  obtain ⟨T, hp, hf⟩ := T
  have e1 := E.1
  have e2 := E.2.1
  have hk : 0 < k := by omega
  have fr : ∀ i r, i < k → r < c → dp_fn pr i ≠ o r := fun i r hi hr e => by
    have := dp_fn_new hf hc hi
    rw [(hp _).mpr ⟨r, hr, e.symm⟩] at this; cases this
  have hm := dp_fn_inj (pr := pr) hf hc
  have he : ∀ r, r < c + k → dp_fl (dp_og o c t k) t k (dp_fn pr) r = dp_in o t k (dp_fn pr) r := fun r hr => dp_fl_in hr
  have ho : ∀ r, dp_fl (dp_og o c t k) t k (dp_fn pr) r < 32 := dp_fl_lt (dp_og_lt T.2.2.1) (fun i hi => (dp_fn_spec hf hc hi).2)
  have la : ∀ i, i < k → dp_fu lv (dp_fn pr) (fun i => lv (o (a + i)) + lv (o p) + 1 - lv (o a)) k (dp_fn pr i) = lv (o (a + i)) + lv (o p) + 1 - lv (o a) := fun i hi => dp_fu_at hm (Nat.le_refl _) hi
  have hl : ∀ r, r < c → dp_fu lv (dp_fn pr) (fun i => lv (o (a + i)) + lv (o p) + 1 - lv (o a)) k (o r) = lv (o r) := fun r hr => dp_fu_n (fun j hj => fr j r hj hr)
  generalize dp_fu lv (dp_fn pr) (fun i => lv (o (a + i)) + lv (o p) + 1 - lv (o a)) k = lw at *
  have g0 : lw (dp_fn pr 0) = lv (o p) + 1 := by
    have q := la 0 hk
    simp only [Nat.add_zero] at q ⊢
    omega
  have g1 : ∀ i, 0 < i → i < k → lv (o p) + 1 ≤ lw (dp_fn pr i) ∧ lw (dp_fn pr i) ≤ lw (dp_fn pr (i - 1)) + 1 := fun i h0 hi => by
    rw [la i hi, la (i - 1) (by omega)]
    exact dp_piece T E i h0 hi
  refine ⟨⟨dp_Tc_in T G hk hc ho he hm fr hl g0 g1, fun n => ?_, dp_ps_fc hf hc k (Nat.le_refl _)⟩, fun ab' A A1 A2 A3 => ?_⟩
  · have e1 : (∃ r, r < c + k ∧ dp_fl (dp_og o c t k) t k (dp_fn pr) r = n) ↔ ∃ r, r < c + k ∧ dp_in o t k (dp_fn pr) r = n := ⟨fun ⟨r, h1, h2⟩ => ⟨r, h1, by rw [← he r h1]; exact h2⟩, fun ⟨r, h1, h2⟩ => ⟨r, h1, by rw [he r h1]; exact h2⟩⟩
    rw [e1, dp_in_mem o (dp_fn pr) G.2.1 n, dp_ps_bt hf hc n k (Nat.le_refl _), hp n]
  · refine dp_Ab_in T G hk he hl g0 g1 A A1 A2 (fun i h0 hi => ?_)
    obtain ⟨j, hj, e, P⟩ := dp_piece_pa (lp := lv (o p)) (g := fun i => lw (dp_fn pr i)) T E la h0 hi
    exact ⟨j, P, A3 i j h0 hi e⟩
/-- moving: o1 the order without the piece, p and t ranks there -/
theorem dp_mv_T (T : dp_Tr c o lv pr) (ha : 0 < a) (E : dp_Ed (fun r => lv (o r)) c a (a + k)) (G : dp_Gp (fun r => lv (dp_cl o c a k r)) (c - k) p t) : dp_Tr c (dp_fl (dp_og (dp_cl o c a k) (c - k) t k) t k (fun i => o (a + i))) (dp_fu lv (fun i => o (a + i)) (fun i => lv (o (a + i)) + lv (dp_cl o c a k p) + 1 - lv (o a)) k) pr ∧ (dp_Ab c o (fun r => lv (o r)) ab → dp_Ab c (dp_fl (dp_og (dp_cl o c a k) (c - k) t k) t k (fun i => o (a + i))) (fun r => dp_fu lv (fun i => o (a + i)) (fun i => lv (o (a + i)) + lv (dp_cl o c a k p) + 1 - lv (o a)) k (dp_fl (dp_og (dp_cl o c a k) (c - k) t k) t k (fun i => o (a + i)) r)) (upd ab (o a) (nI (dp_cl o c a k p)))) := by
  obtain ⟨T, hp, hf⟩ := T
  have e1 := E.1
  have e2 := E.2.1
  have hk : 0 < k := by omega
  have he1 : ∀ r, r < c - k → dp_cl o c a k r = dp_ot o a k r := fun r hr => dp_cl_ot hr
  have T1 := dp_Tc_ot T ha E (dp_cl_lt T.2.2.1) he1
  have A1 := fun A : dp_Ab c o (fun r => lv (o r)) ab => dp_Ab_ot T ha E he1 A
  have mem := dp_ot_mem he1 e2
  generalize dp_cl o c a k = o1 at *
  generalize hd : c - k = d at *
  obtain rfl : c = d + k := by omega
  have hm := dp_inj_sub (k := k) (a := a) T e2
  have fr : ∀ i r, i < k → r < d → o (a + i) ≠ o1 r := fun i r hi hr e => by
    obtain ⟨s, h1, h2, h3⟩ := (mem (o1 r)).mp ⟨r, hr, rfl⟩
    have := T.2.2.2.1 s (a + i) h1 (by omega) (h3.trans e.symm)
    omega
  have he : ∀ r, r < d + k → dp_fl (dp_og o1 d t k) t k (fun i => o (a + i)) r = dp_in o1 t k (fun i => o (a + i)) r := fun r hr => dp_fl_in hr
  have ho : ∀ r, dp_fl (dp_og o1 d t k) t k (fun i => o (a + i)) r < 32 := dp_fl_lt (dp_og_lt T1.2.2.1) (fun i hi => T.2.2.1 _)
  have la : ∀ i, i < k → dp_fu lv (fun i => o (a + i)) (fun i => lv (o (a + i)) + lv (o1 p) + 1 - lv (o a)) k (o (a + i)) = lv (o (a + i)) + lv (o1 p) + 1 - lv (o a) := fun i hi => dp_fu_at (m := fun i => o (a + i)) hm (Nat.le_refl _) hi
  have hl : ∀ r, r < d → dp_fu lv (fun i => o (a + i)) (fun i => lv (o (a + i)) + lv (o1 p) + 1 - lv (o a)) k (o1 r) = lv (o1 r) := fun r hr => dp_fu_n (fun j hj => fr j r hj hr)
  generalize dp_fu lv (fun i => o (a + i)) (fun i => lv (o (a + i)) + lv (o1 p) + 1 - lv (o a)) k = lw at *
  have g0 : lw (o (a + 0)) = lv (o1 p) + 1 := by
    have q := la 0 hk
    simp only [Nat.add_zero] at q ⊢
    omega
  have g1 : ∀ i, 0 < i → i < k → lv (o1 p) + 1 ≤ lw (o (a + i)) ∧ lw (o (a + i)) ≤ lw (o (a + (i - 1))) + 1 := fun i h0 hi => by
    rw [la i hi, la (i - 1) (by omega)]
    exact dp_piece T E i h0 hi
  refine ⟨⟨dp_Tc_in (g := fun i => o (a + i)) T1 G hk T.1 ho he hm fr hl g0 g1, fun n => ?_, hf⟩, fun A => ?_⟩
  · have e1 : (∃ r, r < d + k ∧ dp_fl (dp_og o1 d t k) t k (fun i => o (a + i)) r = n) ↔ ∃ r, r < d + k ∧ dp_in o1 t k (fun i => o (a + i)) r = n := ⟨fun ⟨r, h1, h2⟩ => ⟨r, h1, by rw [← he r h1]; exact h2⟩, fun ⟨r, h1, h2⟩ => ⟨r, h1, by rw [he r h1]; exact h2⟩⟩
    rw [e1, dp_in_mem o1 (fun i => o (a + i)) G.2.1 n, mem n, hp n]
    constructor
    · rintro ⟨r, h1, h2⟩
      rcases Nat.lt_or_ge r a with z | z
      · exact Or.inl ⟨r, h1, Or.inl z, h2⟩
      · rcases Nat.lt_or_ge r (a + k) with y | y
        · exact Or.inr ⟨r - a, by omega, by rw [show a + (r - a) = r from by omega]; exact h2⟩
        · exact Or.inl ⟨r, h1, Or.inr y, h2⟩
    · rintro (⟨r, h1, -, h2⟩ | ⟨i, h1, h2⟩)
      · exact ⟨r, h1, h2⟩
      · exact ⟨a + i, by omega, h2⟩
  · refine dp_Ab_in (g := fun i => o (a + i)) T1 G hk he hl g0 g1 (A1 A) (fun r hr => pk_un (fun e => fr 0 r hk hr (by rw [Nat.add_zero]; exact e.symm))) (by rw [Nat.add_zero]; exact pk_us) (fun i h0 hi => ?_)
    obtain ⟨j, hj, e, P⟩ := dp_piece_pa (lp := lv (o1 p)) (g := fun i => lw (o (a + i))) T E la h0 hi
    refine ⟨j, P, ?_⟩
    rw [pk_un (fun e => by have := T.2.2.2.1 (a + i) a (by omega) (by omega) e; omega), A (a + i) (by omega), if_neg (by omega), e]
end SM
