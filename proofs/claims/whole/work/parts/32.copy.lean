/-! copy -/
section CX
variable {f_size f_present f_height : Int32} {a_order a_levels a_tags a_values a_ranks a_ends a_parents a_run a_kinds a_numbers a_lengths a_entryIsPath a_rows a_members a_wasSet a_watchNode a_selects a_selectedBefore : Nat → Int32} {c a k t : Nat} {o f lv : Nat → Nat} {pr : Int32} {tg vs : Nat → Int32} {lp : Nat}
theorem xx_copy_l (ho : ∀ r, o r < 32) (hfc : dp_fc (bt pr) 32 = c) (hck : c + k ≤ 32) (hpr : ∀ i, i < k → bt pr (o (a + i)) = true) (htk : t + k ≤ 32) (hr : ∀ i, i < k → a_run i = nI (o (a + i))) (hl : ∀ i, i < k → lv (o a) ≤ lv (o (a + i))) {post : Int32 → SX → Prop} (h : wX_copy_103 post (nI k) (nI lp + 1 - nI (lv (o a))) (nI t) 1 (nI k) f_size (dp_ps pr k) f_height (fun j => nI (dp_fl f t k (dp_fn pr) j)) (fun j => nI (dp_fu lv (dp_fn pr) (fun i => lv (o (a + i)) + lp + 1 - lv (o a)) k j)) (dp_fU tg (dp_fn pr) (fun i => tg (o (a + i))) k) (dp_fU vs (dp_fn pr) (fun i => vs (o (a + i))) k) a_ranks a_ends a_parents a_run a_kinds a_numbers a_lengths a_entryIsPath a_rows a_members a_wasSet a_watchNode a_selects a_selectedBefore) : ∀ d i, i + d = k → wX_copy_103 post (nI k) (nI lp + 1 - nI (lv (o a))) (nI t) (d + 1) (nI i) f_size (dp_ps pr i) f_height (fun j => nI (dp_fl f t i (dp_fn pr) j)) (fun j => nI (dp_fu lv (dp_fn pr) (fun i => lv (o (a + i)) + lp + 1 - lv (o a)) i j)) (dp_fU tg (dp_fn pr) (fun i => tg (o (a + i))) i) (dp_fU vs (dp_fn pr) (fun i => vs (o (a + i))) i) a_ranks a_ends a_parents a_run a_kinds a_numbers a_lengths a_entryIsPath a_rows a_members a_wasSet a_watchNode a_selects a_selectedBefore := by
  intro d
  induction d with
  | zero =>
    intro i hi
    obtain rfl : i = k := by omega
    exact h
  | succ d ih =>
    intro i hi
    have oi := ho (a + i)
    have ne : ∀ j, j < i → dp_fn pr j ≠ o (a + i) := fun j hj e => by
      have := dp_fn_new hfc hck (show j < k by omega)
      rw [e, hpr i (by omega)] at this; cases this
    have rd : dp_fu lv (dp_fn pr) (fun i => lv (o (a + i)) + lp + 1 - lv (o a)) i (o (a + i)) = lv (o (a + i)) := dp_fu_n ne
    have rt : dp_fU tg (dp_fn pr) (fun i => tg (o (a + i))) i (o (a + i)) = tg (o (a + i)) := dp_fU_n ne
    have rv : dp_fU vs (dp_fn pr) (fun i => vs (o (a + i))) i (o (a + i)) = vs (o (a + i)) := dp_fU_n ne
    have n32 := (dp_fn_spec hfc hck (show i < k by omega)).2
    refine br_f (nI_ge (by omega) (by omega)) (xx_take ?_)
    change vp_in (nI t + nI i) 32 ∧ _
    simp only [show dp_ln (dp_ps pr i) = dp_fn pr i from rfl, nI_add, dp_cl32 (show i < 32 by omega), dp_cl32 (show t + i < 32 by omega), hr i (by omega), dp_cl32 oi, dp_cl32 n32, rd, rt, rv, dp_deep (hl i (by omega))]
    refine ⟨dp_v32 (by omega), nm_r dp_upd ⟨dp_v32 (by omega), dp_v32 oi, dp_v32 n32, nm_r dp_upd ⟨dp_v32 (by omega), dp_v32 oi, dp_v32 n32, nm_e ⟨dp_v32 (by omega), dp_v32 oi, dp_v32 n32, nm_e (nm_r (nI_1 i) ?_)⟩⟩⟩⟩
    have e1 := dp_fl_s (f := f) (g := dp_fn pr) (t := t) (i := i)
    rw [e1]
    exact ih (i + 1) (by omega)
end CX
section CY
variable {f_count f_height : Int32} {a_list a_there a_above a_tags a_values a_held a_twin a_kinds a_args a_sizes a_isPath a_rows a_spare a_isSet a_alive a_edited a_watchNode a_before : Nat → Int32} {c a k t p : Nat} {o lv : Nat → Nat} {pr : Int32} {tg vs above : Nat → Int32}
/-- what the reference has of the copies after i of them -/
def dp_Cp (c : Nat) (o : Nat → Nat) (l : Nat → Nat) (pr : Int32) (a p : Nat) (above : Nat → Int32) (i : Nat) (ab tw hd : Nat → Int32) : Prop :=
  (∀ r, r < c → ab (o r) = above (o r)) ∧ (∀ j, j < i → tw (o (a + j)) = nI (dp_fn pr j) ∧ hd j = nI (dp_fn pr j)) ∧ (0 < i → ab (dp_fn pr 0) = nI (o p)) ∧ ∀ j j', 0 < j → j < i → dp_pa l (a + j) = a + j' → ab (dp_fn pr j) = nI (dp_fn pr j')
theorem yy_copy_l (T : dp_Tr c o lv pr) (B : dp_Ab c o (fun r => lv (o r)) above) (E : dp_Ed (fun r => lv (o r)) c a (a + k)) (hck : c + k ≤ 32) {post : Int32 → SY → Prop} (h : ∀ ab tw hd, dp_Cp c o (fun r => lv (o r)) pr a p above k ab tw hd → wY_copy_81 post (nI (o p)) (nI a) (nI k) (nI t) (nI c) f_height 1 (nI k) (fun j => nI (o j)) (dp_th (dp_ps pr k)) ab (dp_fU tg (dp_fn pr) (fun i => tg (o (a + i))) k) (dp_fU vs (dp_fn pr) (fun i => vs (o (a + i))) k) hd tw a_kinds a_args a_sizes a_isPath a_rows a_spare a_isSet a_alive a_edited a_watchNode a_before) : ∀ d i ab tw hd, i + d = k → dp_Cp c o (fun r => lv (o r)) pr a p above i ab tw hd → wY_copy_81 post (nI (o p)) (nI a) (nI k) (nI t) (nI c) f_height (d + 1) (nI i) (fun j => nI (o j)) (dp_th (dp_ps pr i)) ab (dp_fU tg (dp_fn pr) (fun i => tg (o (a + i))) i) (dp_fU vs (dp_fn pr) (fun i => vs (o (a + i))) i) hd tw a_kinds a_args a_sizes a_isPath a_rows a_spare a_isSet a_alive a_edited a_watchNode a_before := by
  have ho := T.1.2.2.1
  have hfc := T.2.2
  have e2 := E.2.1
  have hmj := dp_inj_sub (k := k) (a := a) T.1 e2
  have hpr : ∀ r, r < c → bt pr (o r) = true := fun r hr => (T.2.1 _).mpr ⟨r, hr, rfl⟩
  intro d
  induction d with
  | zero =>
    intro i ab tw hd hi H
    obtain rfl : i = k := by omega
    exact h ab tw hd H
  | succ d ih =>
    intro i ab tw hd hi H
    obtain ⟨c1, c2, c3, c4⟩ := H
    have oi := ho (a + i)
    have ne : ∀ j r, j < k → r < c → dp_fn pr j ≠ o r := fun j r hj hr e => by
      have := dp_fn_new hfc hck hj
      rw [e, hpr r hr] at this; cases this
    have rt : dp_fU tg (dp_fn pr) (fun i => tg (o (a + i))) i (o (a + i)) = tg (o (a + i)) := dp_fU_n (fun j hj => ne j (a + i) (by omega) (by omega))
    have rv : dp_fU vs (dp_fn pr) (fun i => vs (o (a + i))) i (o (a + i)) = vs (o (a + i)) := dp_fU_n (fun j hj => ne j (a + i) (by omega) (by omega))
    have n32 := (dp_fn_spec hfc hck (show i < k by omega)).2
    -- the last step of a turn, for the parent's number w
    have go : ∀ w : Int32, (i = 0 → w = nI (o p)) → (∀ j', 0 < i → dp_pa (fun r => lv (o r)) (a + i) = a + j' → w = nI (dp_fn pr j')) → wY_copy_150 post (wY_copy_81 post (nI (o p)) (nI a) (nI k) (nI t) (nI c) f_height (d + 1)) (nI (o p)) (nI a) (nI k) (nI t) (nI i) (nI (o (a + i))) (nI (dp_fn pr i)) w (nI (dp_fn pr i)) (nI c) f_height (fun j => nI (o j)) (dp_th (dp_ps pr (i + 1))) ab (dp_fU tg (dp_fn pr) (fun i => tg (o (a + i))) i) (dp_fU vs (dp_fn pr) (fun i => vs (o (a + i))) i) hd (upd tw (o (a + i)) (nI (dp_fn pr i))) a_kinds a_args a_sizes a_isPath a_rows a_spare a_isSet a_alive a_edited a_watchNode a_before := fun w w0 w1 => by
      unfold wY_copy_150
      simp only [dp_cl32 n32, dp_cl32 oi, dp_cl32 (show i < 32 by omega), rt, rv]
      refine ⟨dp_v32 n32, nm_e ⟨dp_v32 oi, dp_v32 n32, nm_e ⟨dp_v32 oi, dp_v32 n32, nm_e ⟨dp_v32 (by omega), nm_e (nm_r (nI_1 i) (ih (i + 1) _ _ _ (by omega) ⟨fun r hr => ?_, fun j hj => ?_, fun _ => ?_, fun j j' h0 hj hj' => ?_⟩))⟩⟩⟩⟩
      · rw [pk_un (fun e => ne i r (by omega) hr e.symm)]; exact c1 r hr
      · by_cases y : j = i
        · subst y; exact ⟨pk_us, pk_us⟩
        · rw [pk_un (fun e => y (hmj j i (by omega) (by omega) e)), pk_un y]
          exact c2 j (by omega)
      · by_cases y : i = 0
        · subst y
          rw [pk_us]; exact w0 rfl
        · rw [pk_un (fun e => y (dp_fn_inj hfc hck 0 i (by omega) (by omega) e).symm)]
          exact c3 (by omega)
      · by_cases y : j = i
        · subst y
          rw [pk_us]; exact w1 j' h0 hj'
        · rw [pk_un (fun e => y (dp_fn_inj hfc hck j i (by omega) (by omega) e))]
          exact c4 j j' h0 (by omega) hj'
    refine br_f (nI_ge (by omega) (by omega)) ?_
    rw [nI_add]
    refine ⟨dp_v32 (by omega), nm_r (e' := nI (o (a + i))) (by rw [dp_cl32 (show a + i < 32 by omega)]) (yy_newNumber ?_)⟩
    change vp_in (nI (dp_fn pr i)) 32 ∧ _
    refine ⟨dp_v32 n32, nm_r (e' := dp_th (dp_ps pr (i + 1))) (by rw [show dp_ln (dp_ps pr i) = dp_fn pr i from rfl, dp_cl32 n32]; exact dp_th_set n32) ⟨dp_v32 oi, nm_r (e' := upd tw (o (a + i)) (nI (dp_fn pr i))) (by rw [dp_cl32 oi]; rfl) (br_c (fun y => ?_) (fun y => ⟨dp_v32 oi, ?_⟩))⟩⟩
    · have i0 : i = 0 := dp_inj (b := 0) (by omega) (by decide) y
      exact go _ (fun _ => rfl) (fun _ q => by omega)
    · have i0 : 0 < i := by
        rcases Nat.eq_zero_or_pos i with x | x
        · exact absurd (by rw [x]; rfl) y
        · exact x
      obtain ⟨j, hj, ej, -⟩ := dp_pa_sub T.1.2.2.2.2 E i0 (show i < k by omega)
      have oj := ho (a + j)
      have e1 : ab (o (a + i)) = nI (o (a + j)) := by
        rw [c1 (a + i) (by omega), B (a + i) (by omega), if_neg (by omega), ej]
      rw [dp_cl32 oi, e1]
      refine ⟨dp_v32 oj, ?_⟩
      rw [dp_cl32 oj, pk_un (fun e => by have := hmj j i (by omega) (by omega) e; omega), (c2 j hj).1]
      refine go _ (fun q => by omega) (fun j' _ hj' => ?_)
      rw [show j = j' from by omega]
end CY
theorem i_vc_copy {k : Nat} {u : SX} {v : SY} (I : i_Rel k u v) (hk : k + 4 ≤ 2048) (v1 : Int32) (v2 : Int32) (v3 : Int32) : wpX_copy (fun r u' => wpY_copy (fun r' v' => r' = r ∧ i_Rel (k + 4) u' v') v v1 v2 v3) u v1 v2 v3 := by
  obtain ⟨c, o, lv, pr, tg, vs, K, N, A, S, ranks, ends, parents, kx, ax, lx, isp, above, al, ed, xw, xs, xb, yw, yb, run, rows, mem, held, twin, yp, yr, sp, h, hy, rfl, rfl, R⟩ := I
  have R' := R
  obtain ⟨T, hv, X, B, G, Q, W⟩ := R'
  have ho := T.1.2.2.1
  have hc := T.1.1
  unfold wpX_copy
  rcases dp_node T v1 with e | ⟨a, ha, rfl⟩
  · refine xx_no e (br_t rfl ?_)
    show wpY_copy _ _ _ _ _
    unfold wpY_copy
    exact yy_no e (br_t rfl ⟨rfl, dp_rel R⟩)
  rcases dp_node T v2 with e | ⟨p, hp, rfl⟩
  · refine xx_yes T ha (br_f (by decide) (xx_no e (br_t rfl ?_)))
    show wpY_copy _ _ _ _ _
    unfold wpY_copy
    exact yy_yes T ha (br_f (by decide) (yy_no e (br_t rfl ⟨rfl, dp_rel R⟩)))
  refine xx_yes T ha (br_f (by decide) (xx_yes T hp (br_f (by decide) ?_)))
  by_cases t0 : v3 < 0
  · refine br_t t0 ?_
    show wpY_copy _ _ _ _ _
    unfold wpY_copy
    exact yy_yes T ha (br_f (by decide) (yy_yes T hp (br_f (by decide) (br_t t0 ⟨rfl, dp_rel R⟩))))
  refine br_f t0 (xx_countChildren T.1 X hp ?_)
  by_cases tj : ¬ v3 ≤ nI (dp_fc (dp_ch (fun r => lv (o r)) p) c)
  · refine br_f tj ?_
    show wpY_copy _ _ _ _ _
    unfold wpY_copy
    exact yy_yes T ha (br_f (by decide) (yy_yes T hp (br_f (by decide) (br_f t0 (yy_childrenOf T.1 B hp (br_f tj ⟨rfl, dp_rel R⟩))))))
  replace tj := Classical.not_not.mp tj
  have E0 := dp_en_spec (fun r => lv (o r)) ha
  obtain ⟨m, hm⟩ : ∃ m, dp_en (fun r => lv (o r)) c a = a + m := ⟨dp_en (fun r => lv (o r)) c a - a, by have := E0.1; omega⟩
  have E : dp_Ed (fun r => lv (o r)) c a (a + m) := by rw [← hm]; exact E0
  have e1 := E.1
  have e2 := E.2.1
  have sz : nI c + ends (nI (o a)).toNatClampNeg - ranks (nI (o a)).toNatClampNeg = nI (c + m) := by
    rw [dp_cl32 (ho a), (X.1 a ha).1, (X.1 a ha).2, hm, nI_add, pk_sub (by omega), show c + (a + m) - a = c + m from by omega]
  have szY : nI (a + m) - nI a = nI m := by rw [pk_sub (by omega), Nat.add_sub_cancel_left]
  refine br_t tj ⟨dp_v32 (ho a), dp_v32 (ho a), ?_⟩
  rw [sz]
  by_cases full : ¬ c + m ≤ 32
  · refine br_f (nI_ge (b := c + m) (a := 32) (by omega) (by omega)) ?_
    show wpY_copy _ _ _ _ _
    unfold wpY_copy
    refine yy_yes T ha (br_f (by decide) (yy_yes T hp (br_f (by decide) (br_f t0 (yy_childrenOf T.1 B hp (br_t tj (yy_place T.1 ha (yy_endOf T.1 B ha ?_))))))))
    refine nm_r (e' := nI m) (by rw [hm, szY]) ?_
    rw [nI_add]
    exact br_f (nI_ge (b := c + m) (a := 32) (by omega) (by omega)) ⟨rfl, dp_rel R⟩
  replace full := Classical.not_not.mp full
  have Gp := dp_gr_Gp (p := v3) T.1.2.2.2.2 hp
  obtain ⟨T', A'⟩ := dp_cp_T (ab := above) T full Gp E
  generalize ht : dp_gr (fun r => lv (o r)) c p v3 = t at *
  have tc := Gp.2.1
  have hpr : ∀ i, i < m → bt pr (o (a + i)) = true := fun i hi => (T.2.1 _).mpr ⟨a + i, by omega, rfl⟩
  have lvl : ∀ i, i < m → lv (o a) ≤ lv (o (a + i)) := fun i hi => by
    rcases Nat.eq_zero_or_pos i with w | w
    · rw [w]; exact Nat.le_refl _
    · exact Nat.le_of_lt (E.2.2.1 (a + i) (by omega) (by omega))
  have hv' : ∀ n, dp_fU vs (dp_fn pr) (fun i => vs (o (a + i))) m n ≤ 99 := dp_fU_P (P := fun x => x ≤ 99) hv (fun i => hv _) m
  refine br_t (nI_le (b := 32) full (by decide)) (xx_noteRun ho hc e2 (X.1 a ha).1 (by rw [(X.1 a ha).2, hm]) (fun ru Hr => ⟨dp_v32 (ho p), dp_v32 (ho a), nm_r (e' := nI (lv (o p)) + 1 - nI (lv (o a))) (by rw [dp_cl32 (ho p), dp_cl32 (ho a)]) (xx_rankForChild T.1 X hp ?_)⟩))
  rw [ht]
  refine xx_openGap (by omega) full tc ⟨m + 1, ?_⟩
  rw [← dp_fl_0 (dp_og o c t m) t (dp_fn pr)]
  refine xx_copy_l (lp := lv (o p)) (a := a) (k := m) (t := t) (f := dp_og o c t m) (pr := pr) (tg := tg) (vs := vs) ho T.2.2 full hpr (by omega) Hr lvl (br_t (nI_le (Nat.le_refl _) (by omega)) ?_) m 0 (Nat.zero_add m)
  have t32 : t < 32 := by omega
  refine xx_indexTree T'.1 (fun ra2 en2 pp2 X2 => xx_refresh T' X2 hv' G (dp_hw W) (fun R1 m1 xs1 xb1 H1 => ⟨dp_v32 t32, ?_⟩))
  rw [dp_cl32 t32]
  have f0 : nI (dp_fl (dp_og o c t m) t m (dp_fn pr) t) = nI (dp_fn pr 0) := congrArg nI (dp_fl_mid (f := dp_og o c t m) (g := dp_fn pr) (t := t) (k := m) (i := 0) (by omega))
  show wpY_copy _ _ _ _ _
  unfold wpY_copy
  refine yy_yes T ha (br_f (by decide) (yy_yes T hp (br_f (by decide) (br_f t0 (yy_childrenOf T.1 B hp (br_t tj (yy_place T.1 ha (yy_endOf T.1 B ha ?_))))))))
  refine nm_r (e' := nI m) (by rw [hm, szY]) ?_
  rw [nI_add]
  refine br_t (nI_le (b := 32) full (by decide)) (yy_noteEdit T B G W (fun hy2 R2 P2 Z2 ed2 yb2 H2 => yy_gapFor T.1 B hp ?_))
  rw [ht]
  refine ⟨m + 1, yy_copy_l (p := p) (t := t) (tg := tg) (vs := vs) T B E full (fun ab tw hd H => br_t (nI_le (Nat.le_refl _) (by omega)) ?_) m 0 _ _ _ (Nat.zero_add m) ⟨fun _ _ => rfl, fun j hj => absurd hj (Nat.not_lt_zero j), fun q => absurd q (by decide), fun j j' _ hj => absurd hj (Nat.not_lt_zero j)⟩⟩
  obtain ⟨c1, c2, c3, c4⟩ := H
  refine nm_r (e' := nI (dp_fn pr 0)) (c2 0 (by omega)).2 (yy_putIn (g := dp_fn pr) (by omega) full tc (fun i hi => (c2 i hi).2) ⟨f0.symm, dp_rel ⟨T', hv', X2, A' ab B c1 (c3 (by omega)) (fun i j h0 hi hj => c4 i j h0 hi hj), G, Q, dp_Wa_edit W H1 H2 (dp_L_same W (fun w z => ?_))⟩⟩)
  exact (dp_ps_bt T.2.2 full w m (Nat.le_refl _)).mpr (Or.inl z)
