/-! add -/
theorem dp_fl_1 (f : Nat → Nat) (t n : Nat) : dp_fl f t 1 (fun _ => n) = dp_nu f t n := by
  rw [← dp_fl_s, dp_fl_0, Nat.add_zero]
theorem i_vc_add {k : Nat} {u : SX} {v : SY} (I : i_Rel k u v) (hk : k + 4 ≤ 2048) (v1 : Int32) (v2 : Int32) (v3 : Int32) : wpX_add (fun r u' => wpY_add (fun r' v' => r' = r ∧ i_Rel (k + 4) u' v') v v1 v2 v3) u v1 v2 v3 := by
  obtain ⟨c, o, lv, pr, tg, vs, K, N, A, S, ranks, ends, parents, kx, ax, lx, isp, above, al, ed, xw, xs, xb, yw, yb, run, rows, mem, held, twin, yp, yr, sp, h, hy, rfl, rfl, R⟩ := I
  have R' := R
  obtain ⟨T, hv, X, B, G, Q, W⟩ := R'
  have ho := T.1.2.2.1
  have hc := T.1.1
  unfold wpX_add
  rcases dp_node T v1 with e | ⟨p, hp, rfl⟩
  · refine xx_no e (br_t rfl ?_)
    show wpY_add _ _ _ _ _
    unfold wpY_add
    exact (yy_no e (br_t rfl ⟨rfl, dp_rel R⟩))
  refine xx_yes T hp (br_f (by decide) ?_)
  by_cases a0 : v2 < 0
  · refine br_t a0 ?_
    show wpY_add _ _ _ _ _
    unfold wpY_add
    exact (yy_yes T hp (br_f (by decide) (br_t a0 ⟨rfl, dp_rel R⟩)))
  refine br_f a0 (xx_countChildren T.1 X hp ?_)
  by_cases aj : ¬ (v2 ≤ nI (dp_fc (dp_ch (fun r => lv (o r)) p) c))
  · refine br_f aj ?_
    show wpY_add _ _ _ _ _
    unfold wpY_add
    exact (yy_yes T hp (br_f (by decide) (br_f a0 (yy_childrenOf T.1 B hp (br_f aj ⟨rfl, dp_rel R⟩)))))
  replace aj := Classical.not_not.mp aj
  refine br_t aj ?_
  by_cases t0 : v3 < 0
  · refine br_t t0 ?_
    show wpY_add _ _ _ _ _
    unfold wpY_add
    exact (yy_yes T hp (br_f (by decide) (br_f a0 (yy_childrenOf T.1 B hp (br_t aj (br_t t0 ⟨rfl, dp_rel R⟩))))))
  by_cases t7 : ¬ (v3 ≤ 7)
  · refine br_f t0 (br_f t7 ?_)
    show wpY_add _ _ _ _ _
    unfold wpY_add
    exact (yy_yes T hp (br_f (by decide) (br_f a0 (yy_childrenOf T.1 B hp (br_t aj (br_f t0 (br_f t7 ⟨rfl, dp_rel R⟩)))))))
  replace t7 := Classical.not_not.mp t7
  refine br_f t0 (br_t t7 ?_)
  by_cases full : ¬ (c < 32)
  · have e32 : nI c = 32 := by rw [show c = 32 from by omega]; rfl
    refine br_f (nI_nlt (b := 32) (by omega) (by omega)) ?_
    show wpY_add _ _ _ _ _
    unfold wpY_add
    exact (yy_yes T hp (br_f (by decide) (br_f a0 (yy_childrenOf T.1 B hp (br_t aj (br_f t0 (br_t t7 (br_t e32 ⟨rfl, dp_rel R⟩))))))))
  replace full := Classical.not_not.mp full
  have n32 : ¬ nI c = 32 := fun e => by
    have := dp_inj (a := c) (b := 32) (by omega) (by decide) e
    omega
  have Gp := dp_gr_Gp (p := v2) T.1.2.2.2.2 hp
  obtain ⟨T', A'⟩ := dp_add_T (ab := above) T full Gp
  obtain ⟨n1, n2⟩ := dp_ln_spec (pr := pr) (by rw [T.2.2]; exact full)
  have A2 := A' B
  refine br_t (nI_lt (b := 32) full (by decide)) (xx_rankForChild T.1 X hp (xx_openGap (k := 1) (by decide) (by omega) Gp.2.1 (xx_take ?_)))
  generalize ht : dp_gr (fun r => lv (o r)) c p v2 = t at *
  generalize hn : dp_ln pr = n at *
  have t32 : t < 32 := by have := Gp.2.1; omega
  have v32 := dp_v32 n2
  have hv' : ∀ m, upd vs n 0 m ≤ 99 := fun m => by
    show (if m = n then 0 else vs m) ≤ 99
    split
    · decide
    · exact hv m
  refine ⟨dp_v32 t32, nm_r (e' := fun j => nI (dp_nu (dp_og o c t 1) t n j)) (by rw [dp_cl32 t32]; exact dp_upd) ⟨dp_v32 (ho p), v32, nm_r (e' := fun j => nI (dp_nu lv n (lv (o p) + 1) j)) (by rw [dp_cl32 n2, dp_cl32 (ho p), nI_1]; exact dp_upd) ⟨v32, nm_r (e' := upd tg n v3) (by rw [dp_cl32 n2]) ⟨v32, nm_r (e' := upd vs n 0) (by rw [dp_cl32 n2]) ?_⟩⟩⟩⟩
  refine xx_indexTree T'.1 (fun ra en pa X' => xx_refresh T' X' hv' G (dp_hw W) (fun R1 m1 xs1 xb1 H1 => ?_))
  show wpY_add _ _ _ _ _
  unfold wpY_add
  refine (yy_yes T hp (br_f (by decide) (br_f a0 (yy_childrenOf T.1 B hp (br_t aj (br_f t0 (br_t t7 (br_f n32 (yy_noteEdit T B G W (fun hy2 R2 P2 Z2 ed2 yb2 H2 => ?_))))))))))
  refine yy_gapFor T.1 B hp ?_
  rw [ht]
  refine yy_newNumber ?_
  rw [hn]
  refine ⟨v32, nm_r (e' := dp_th (pr ||| dp_bo n)) (by rw [dp_cl32 n2]; exact dp_th_set n2) ⟨v32, nm_r (e' := upd above n (nI (o p))) (by rw [dp_cl32 n2]) ⟨v32, nm_r (e' := upd tg n v3) (by rw [dp_cl32 n2]) ⟨v32, nm_r (e' := upd vs n 0) (by rw [dp_cl32 n2]) (nm_e (yy_putIn (k := 1) (g := fun _ => n) (by decide) (by omega) Gp.2.1 (fun i hi => ?_) ⟨rfl, ?_⟩))⟩⟩⟩⟩
  · obtain rfl : i = 0 := by omega
    exact pk_us
  · rw [dp_fl_1]
    exact dp_rel ⟨T', hv', X', A2, G, Q, dp_Wa_edit W H1 H2 (dp_L_same W (fun w z => by rw [dp_bt_or _ n2, z, Bool.true_or]))⟩
