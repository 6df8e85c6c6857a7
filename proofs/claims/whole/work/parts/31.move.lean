/-! move -/
theorem dp_deep {x y z : Nat} (h : z ≤ x) : nI x + (nI y + 1 - nI z) = nI (x + y + 1 - z) := by
  rw [← pk_sub (show z ≤ x + y + 1 by omega), ← nI_1, ← nI_add]
  grind
section MX
variable {f_size f_present f_height : Int32} {a_order a_levels a_tags a_values a_ranks a_ends a_parents a_run a_kinds a_numbers a_lengths a_entryIsPath a_rows a_members a_wasSet a_watchNode a_selects a_selectedBefore : Nat → Int32} {c a k t d : Nat} {o f lv : Nat → Nat} {lp : Nat}
theorem xx_move_l (ho : ∀ r, o r < 32) (hk : 0 < k) (htk : t + k ≤ 32) (hm : ∀ i j, i < k → j < k → o (a + i) = o (a + j) → i = j) (hr : ∀ i, i < k → a_run i = nI (o (a + i))) (hl : ∀ i, i < k → lv (o a) ≤ lv (o (a + i))) {x : Int32} {post : Int32 → SX → Prop} (h : wX_move_131 post x (nI k) (nI lp + 1 - nI (lv (o a))) (nI t) f_size f_present f_height 1 (nI k) (fun j => nI (dp_fl f t k (fun i => o (a + i)) j)) (fun j => nI (dp_fu lv (fun i => o (a + i)) (fun i => lv (o (a + i)) + lp + 1 - lv (o a)) k j)) a_tags a_values a_ranks a_ends a_parents a_run a_kinds a_numbers a_lengths a_entryIsPath a_rows a_members a_wasSet a_watchNode a_selects a_selectedBefore) : ∀ d i, i + d = k → wX_move_131 post x (nI k) (nI lp + 1 - nI (lv (o a))) (nI t) f_size f_present f_height (d + 1) (nI i) (fun j => nI (dp_fl f t i (fun i => o (a + i)) j)) (fun j => nI (dp_fu lv (fun i => o (a + i)) (fun i => lv (o (a + i)) + lp + 1 - lv (o a)) i j)) a_tags a_values a_ranks a_ends a_parents a_run a_kinds a_numbers a_lengths a_entryIsPath a_rows a_members a_wasSet a_watchNode a_selects a_selectedBefore := by
  intro d
  induction d with
  | zero =>
    intro i hi
    obtain rfl : i = k := by omega
    exact h
  | succ d ih =>
    intro i hi
    have oi := ho (a + i)
    have rd : dp_fu lv (fun i => o (a + i)) (fun i => lv (o (a + i)) + lp + 1 - lv (o a)) i (o (a + i)) = lv (o (a + i)) := dp_fu_n (fun j hj e => by have := hm j i (by omega) (by omega) e; omega)
    refine br_f (nI_ge (by omega) (by omega)) ⟨dp_v32 (by omega), ?_⟩
    simp only [nI_add, dp_cl32 (show i < 32 by omega), dp_cl32 (show t + i < 32 by omega), hr i (by omega), dp_cl32 oi, rd, dp_deep (hl i (by omega))]
    refine ⟨dp_v32 (by omega), nm_r dp_upd ⟨dp_v32 (by omega), dp_v32 oi, dp_v32 oi, nm_r dp_upd (nm_r (nI_1 i) ?_)⟩⟩
    have e1 := dp_fl_s (f := f) (g := fun i => o (a + i)) (t := t) (i := i)
    rw [e1]
    exact ih (i + 1) (by omega)
end MX
theorem i_vc_move {k : Nat} {u : SX} {v : SY} (I : i_Rel k u v) (hk : k + 4 ≤ 2048) (v1 : Int32) (v2 : Int32) (v3 : Int32) : wpX_move (fun r u' => wpY_move (fun r' v' => r' = r ∧ i_Rel (k + 4) u' v') v v1 v2 v3) u v1 v2 v3 := by
  obtain ⟨c, o, lv, pr, tg, vs, K, N, A, S, ranks, ends, parents, kx, ax, lx, isp, above, al, ed, xw, xs, xb, yw, yb, run, rows, mem, held, twin, yp, yr, sp, h, hy, rfl, rfl, R⟩ := I
  have R' := R
  obtain ⟨T, hv, X, B, G, Q, W⟩ := R'
  have ho := T.1.2.2.1
  have hc := T.1.1
  unfold wpX_move
  rcases dp_node T v1 with e | ⟨a, ha, rfl⟩
  · refine xx_no e (br_t rfl ?_)
    show wpY_move _ _ _ _ _
    unfold wpY_move
    exact yy_no e (br_t rfl ⟨rfl, dp_rel R⟩)
  rcases dp_node T v2 with e | ⟨p, hp, rfl⟩
  · refine xx_yes T ha (br_f (by decide) (xx_no e (br_t rfl ?_)))
    show wpY_move _ _ _ _ _
    unfold wpY_move
    exact yy_yes T ha (br_f (by decide) (yy_no e (br_t rfl ⟨rfl, dp_rel R⟩)))
  refine xx_yes T ha (br_f (by decide) (xx_yes T hp (br_f (by decide) ?_)))
  by_cases z : nI (o a) = 0
  · refine br_t z ?_
    show wpY_move _ _ _ _ _
    unfold wpY_move
    exact yy_yes T ha (br_f (by decide) (yy_yes T hp (br_f (by decide) (br_t z ⟨rfl, dp_rel R⟩))))
  by_cases zz : nI (o p) = nI (o a)
  · refine br_f z (br_t zz ?_)
    show wpY_move _ _ _ _ _
    unfold wpY_move
    exact yy_yes T ha (br_f (by decide) (yy_yes T hp (br_f (by decide) (br_f z (br_t zz ⟨rfl, dp_rel R⟩)))))
  refine br_f z (br_f zz (xx_isBelow T.1 X hp ha ?_))
  by_cases bl : a < p ∧ p < dp_en (fun r => lv (o r)) c a
  · rw [dp_c_t (decide_eq_true bl)]
    refine br_f (by decide) ?_
    show wpY_move _ _ _ _ _
    unfold wpY_move
    refine yy_yes T ha (br_f (by decide) (yy_yes T hp (br_f (by decide) (br_f z (br_f zz (yy_isBelow T.1 B hp ha ?_))))))
    rw [dp_c_t (decide_eq_true bl)]
    exact br_f (by decide) ⟨rfl, dp_rel R⟩
  rw [dp_c_f (decide_eq_false bl)]
  refine br_t rfl (xx_countChildren T.1 X hp ⟨dp_v32 (ho a), ?_⟩)
  have a0 : 0 < a := by
    rcases Nat.eq_zero_or_pos a with y | y
    · exact absurd (by rw [y, T.1.2.1]; rfl) z
    · exact y
  have pa : p ≠ a := fun e => zz (by rw [e])
  have E0 := dp_en_spec (fun r => lv (o r)) ha
  obtain ⟨m, hm⟩ : ∃ m, dp_en (fun r => lv (o r)) c a = a + m := ⟨dp_en (fun r => lv (o r)) c a - a, by have := E0.1; omega⟩
  have E : dp_Ed (fun r => lv (o r)) c a (a + m) := by rw [← hm]; exact E0
  have e1 := E.1
  have e2 := E.2.1
  have cle : dp_fc (dp_ch (fun r => lv (o r)) p) c ≤ c := dp_fc_le _ _
  have ask := dp_ask T.1 X.2 hp ha
  have askY := dp_ask T.1 B hp ha
  -- the children without the node
  obtain ⟨oth, h1, h2⟩ : ∃ oth : Nat, (dp_ch (fun r => lv (o r)) p a = true → dp_fc (dp_ch (fun r => lv (o r)) p) c = oth + 1) ∧ (dp_ch (fun r => lv (o r)) p a = false → dp_fc (dp_ch (fun r => lv (o r)) p) c = oth) := by
    cases y : dp_ch (fun r => lv (o r)) p a
    · exact ⟨dp_fc (dp_ch (fun r => lv (o r)) p) c, fun q => (by cases q), fun _ => rfl⟩
    · have := dp_fc_clr y (k := c) ha
      exact ⟨dp_fc (fun i => dp_ch (fun r => lv (o r)) p i && !decide (i = a)) c, fun _ => this.symm, fun q => (by cases q)⟩
  have oth32 : oth ≤ 32 := by
    cases y : dp_ch (fun r => lv (o r)) p a
    · have := h2 y; omega
    · have := h1 y; omega
  have X59 : wX_move_59 (fun r u' => wpY_move (fun r' v' => r' = r ∧ i_Rel (k + 4) u' v') ((nI c), hy, (fun j => nI (o j)), (dp_th pr), above, tg, vs, held, twin, (fun j => nI (K j)), A, (fun j => nI (N j)), yp, yr, sp, S, al, ed, yw, yb) (nI (o a)) (nI (o p)) v3) (nI (o a)) (nI (o p)) v3 (nI oth) (nI c) pr h (fun j => nI (o j)) (fun j => nI (lv j)) tg vs ranks ends parents run kx ax lx isp rows mem S xw xs xb → ((parents (nI (o a)).toNatClampNeg = nI (o p) → ∀ y, y = nI (dp_fc (dp_ch (fun r => lv (o r)) p) c) + (-1) → wX_move_59 (fun r u' => wpY_move (fun r' v' => r' = r ∧ i_Rel (k + 4) u' v') ((nI c), hy, (fun j => nI (o j)), (dp_th pr), above, tg, vs, held, twin, (fun j => nI (K j)), A, (fun j => nI (N j)), yp, yr, sp, S, al, ed, yw, yb) (nI (o a)) (nI (o p)) v3) (nI (o a)) (nI (o p)) v3 y (nI c) pr h (fun j => nI (o j)) (fun j => nI (lv j)) tg vs ranks ends parents run kx ax lx isp rows mem S xw xs xb) ∧ (¬ parents (nI (o a)).toNatClampNeg = nI (o p) → wX_move_59 (fun r u' => wpY_move (fun r' v' => r' = r ∧ i_Rel (k + 4) u' v') ((nI c), hy, (fun j => nI (o j)), (dp_th pr), above, tg, vs, held, twin, (fun j => nI (K j)), A, (fun j => nI (N j)), yp, yr, sp, S, al, ed, yw, yb) (nI (o a)) (nI (o p)) v3) (nI (o a)) (nI (o p)) v3 (nI (dp_fc (dp_ch (fun r => lv (o r)) p) c)) (nI c) pr h (fun j => nI (o j)) (fun j => nI (lv j)) tg vs ranks ends parents run kx ax lx isp rows mem S xw xs xb)) := fun H => by
    rw [dp_cl32 (ho a), ask]
    refine br_c (fun y => ?_) (fun y => ?_)
    · rw [h1 y]; exact nm_r (pk_m1 oth) H
    · rw [h2 (Bool.eq_false_iff.mpr y)]; exact H
  refine X59 ?_
  have Y59 : ∀ a' u', wY_move_59 (fun r' v' => r' = a' ∧ i_Rel (k + 4) u' v') (nI (o a)) (nI (o p)) v3 0 (nI oth) (nI c) hy (fun j => nI (o j)) (dp_th pr) above tg vs held twin (fun j => nI (K j)) A (fun j => nI (N j)) yp yr sp S al ed yw yb → wpY_move (fun r' v' => r' = a' ∧ i_Rel (k + 4) u' v') ((nI c), hy, (fun j => nI (o j)), (dp_th pr), above, tg, vs, held, twin, (fun j => nI (K j)), A, (fun j => nI (N j)), yp, yr, sp, S, al, ed, yw, yb) (nI (o a)) (nI (o p)) v3 := fun a' u' H => by
    unfold wpY_move
    refine yy_yes T ha (br_f (by decide) (yy_yes T hp (br_f (by decide) (br_f z (br_f zz (yy_isBelow T.1 B hp ha ?_))))))
    rw [dp_c_f (decide_eq_false bl)]
    refine br_t rfl (yy_childrenOf T.1 B hp ⟨dp_v32 (ho a), ?_⟩)
    rw [dp_cl32 (ho a), askY]
    refine br_c (fun y => ?_) (fun y => ?_)
    · rw [h1 y]
      have s0 : nI (oth + 1) - 1 = nI oth - 0 := by rw [nI_pred]; grind
      exact nm_r s0 (H _ rfl)
    · rw [h2 (Bool.eq_false_iff.mpr y)]; exact H
  have sub0 : nI oth - 0 = nI oth := by grind
  by_cases t0 : v3 < 0
  · exact br_t t0 (Y59 _ _ (nm_r sub0 (br_t t0 ⟨rfl, dp_rel R⟩)))
  by_cases tj : v3 ≤ nI oth
  · refine br_f t0 (br_t tj ?_)
    have pin : p < a ∨ a + m ≤ p := by
      rcases Nat.lt_or_ge p a with y | y
      · exact Or.inl y
      · rcases Nat.lt_or_ge p (a + m) with x | x
        · exact absurd ⟨by omega, by rw [hm]; exact x⟩ bl
        · exact Or.inr x
    have he1 : ∀ r, r < c - m → dp_cl o c a m r = dp_ot o a m r := fun r hr => dp_cl_ot hr
    have T1 := dp_Tc_ot T.1 a0 E (dp_cl_lt ho) he1
    have B1 := dp_Ab_ot T.1 a0 E he1 B
    obtain ⟨q, hq, oq⟩ := (dp_ot_mem he1 e2 (o p)).mpr ⟨p, hp, pin, rfl⟩
    have Gp := dp_gr_Gp (p := v3) T1.2.2.2.2 hq
    obtain ⟨T', A'⟩ := dp_mv_T (ab := above) T a0 E Gp
    have A2 := A' B
    generalize ht : dp_gr (fun r => lv (dp_cl o c a m r)) (c - m) q v3 = t at *
    have t32 := Gp.2.1
    have hmj := dp_inj_sub (k := m) (a := a) T.1 e2
    have lvl : ∀ i, i < m → lv (o a) ≤ lv (o (a + i)) := fun i hi => by
      rcases Nat.eq_zero_or_pos i with w | w
      · rw [w]; exact Nat.le_refl _
      · exact Nat.le_of_lt (E.2.2.1 (a + i) (by omega) (by omega))
    rw [oq] at T' A2
    refine xx_noteRun ho hc e2 (X.1 a ha).1 (by rw [(X.1 a ha).2, hm]) (fun ru Hr => ⟨dp_v32 (ho p), dp_v32 (ho a), nm_r (e' := nI (lv (o p)) + 1 - nI (lv (o a))) (by rw [dp_cl32 (ho p), dp_cl32 (ho a)]) ⟨dp_v32 (ho a), ?_⟩⟩)
    rw [dp_cl32 (ho a), (X.1 a ha).1]
    refine xx_closeGap (by omega) hc e2 (xx_indexTree T1 (fun ra en pp X1 => ?_))
    rw [← oq]
    refine xx_rankForChild T1 X1 hq ?_
    rw [ht, oq]
    have cm : c - m + m = c := by omega
    refine xx_openGap (by omega) (by omega) t32 ⟨m + 1, ?_⟩
    rw [cm, ← dp_fl_0 (dp_og (dp_cl o c a m) (c - m) t m) t (fun i => o (a + i))]
    refine xx_move_l (t := t) (k := m) (a := a) (lp := lv (o p)) (f := dp_og (dp_cl o c a m) (c - m) t m) ho (by omega) (by omega) hmj Hr lvl (br_t (nI_le (Nat.le_refl _) (by omega)) ?_) m 0 (Nat.zero_add m)
    refine xx_indexTree T'.1 (fun ra2 en2 pp2 X2 => xx_refresh T' X2 hv G (dp_hw W) (fun R1 m1 xs1 xb1 H1 => ?_))
    refine Y59 _ _ (nm_r sub0 (br_f t0 (br_t tj (yy_noteEdit T B G W (fun hy2 R2 P2 Z2 ed2 yb2 H2 => yy_place T.1 ha (yy_endOf T.1 B ha ?_))))))
    refine nm_r (e' := nI m) (by rw [hm, pk_sub (by omega), Nat.add_sub_cancel_left]) (yy_takeOut ho hc (by omega) e2 (fun hd Hd => ?_))
    rw [← oq]
    refine yy_gapFor T1 B1 hq ?_
    rw [ht, oq]
    refine ⟨dp_v32 (ho a), nm_r (e' := upd above (o a) (nI (o p))) (by rw [dp_cl32 (ho a)]) (yy_putIn (g := fun i => o (a + i)) (by omega) (by omega) t32 Hd ?_)⟩
    rw [cm]
    exact ⟨rfl, dp_rel ⟨T', hv, X2, A2, G, Q, dp_Wa_edit W H1 H2 (dp_L_same W (fun _ z => z))⟩⟩
  · exact br_f t0 (br_f tj (Y59 _ _ (nm_r sub0 (br_f t0 (br_f tj ⟨rfl, dp_rel R⟩)))))
