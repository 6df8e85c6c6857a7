/-! watch: the two sides together -/
theorem i_vc_watch {k : Nat} {u : SX} {v : SY} (I : i_Rel k u v) (hk : k + 4 ≤ 2048) (v1 : Int32) (v2 : Int32) : wpX_watch (fun r u' => wpY_watch (fun r' v' => r' = r ∧ i_Rel (k + 4) u' v') v v1 v2) u v1 v2 := by
  obtain ⟨c, o, lv, pr, tg, vs, K, N, A, S, ranks, ends, parents, kx, ax, lx, isp, above, al, ed, xw, xs, xb, yw, yb, run, rows, mem, held, twin, yp, yr, sp, h, hy, rfl, rfl, R⟩ := I
  have R' := R
  obtain ⟨T, hv, X, B, G, Q, W⟩ := R'
  have ho := T.1.2.2.1
  have hc := T.1.1
  unfold wpX_watch
  rcases dp_slot v1 with e | ⟨s, hs, rfl⟩
  · have YN : wpY_watch (fun r' v' => r' = -1 ∧ i_Rel (k + 4) ((nI c), pr, h, (fun j => nI (o j)), (fun j => nI (lv j)), tg, vs, ranks, ends, parents, run, kx, ax, lx, isp, rows, mem, S, xw, xs, xb) v') ((nI c), hy, (fun j => nI (o j)), (dp_th pr), above, tg, vs, held, twin, (fun j => nI (K j)), A, (fun j => nI (N j)), yp, yr, sp, S, al, ed, yw, yb) v1 v2 := by
      unfold wpY_watch
      exact yy_slotNo e (br_t rfl ⟨rfl, dp_rel R⟩)
    exact xx_slotNo e (br_t rfl YN)
  rcases dp_node T v2 with e | ⟨r, hr, rfl⟩
  · have YN : wpY_watch (fun r' v' => r' = -2 ∧ i_Rel (k + 4) ((nI c), pr, h, (fun j => nI (o j)), (fun j => nI (lv j)), tg, vs, ranks, ends, parents, run, kx, ax, lx, isp, rows, mem, S, xw, xs, xb) v') ((nI c), hy, (fun j => nI (o j)), (dp_th pr), above, tg, vs, held, twin, (fun j => nI (K j)), A, (fun j => nI (N j)), yp, yr, sp, S, al, ed, yw, yb) (nI s) v2 := by
      unfold wpY_watch
      exact yy_slotYes hs (br_f (by decide) (yy_no e (br_t rfl ⟨rfl, dp_rel R⟩)))
    exact xx_slotYes hs (br_f (by decide) (xx_no e (br_t rfl YN)))
  refine xx_slotYes hs (br_f (by decide) (xx_yes T hr (br_f (by decide) (xx_topIsPath G Q ?_))))
  have h8 : dp_hq K N 0 ≤ 8 := dp_h8 (G 0 (by decide)).2.1 (Nat.le_refl _)
  have n24 := (G 0 (by decide)).1
  have l3 : lx 3 = nI (N 0) := (G 0 (by decide)).2.2.1
  have cl : (nI s).toNatClampNeg = s := nI_clamp (by omega)
  have v3 := dp_v3 hs
  by_cases P : 0 < dp_hq K N 0 ∧ dp_Fq K N 0 (dp_hq K N 0 - 1) = true
  · rw [dp_c_t (decide_eq_true P)]
    have hl : dp_hq K N 0 - 1 < dp_hq K N 0 := by omega
    have G' := dp_Pg_keep G hs
    obtain ⟨a1, a2, a3, -⟩ := dp_prog (c := c) (o := o) (l := fun r => lv (o r)) (pr := pr) (tg := tg) (vs := vs) (K := K) (N := N) (A := A) (w := 0) (K' := dp_fl K (24 * s + 24) (N 0) K) (N' := dp_nu N (s + 1) (N 0)) (A' := dp_gl A (24 * s + 24) (N 0) A) (w' := 0) (dp_nu_n (by omega)) (fun i hi => (dp_fl_out (by omega)).symm) (fun i hi => (dp_gl_out (by omega)).symm)
    obtain ⟨b1, b2, b3, -⟩ := dp_prog (c := c) (o := o) (l := fun r => lv (o r)) (pr := pr) (tg := tg) (vs := vs) (K := K) (N := N) (A := A) (w := 0) (K' := dp_fl K (24 * s + 24) (N 0) K) (N' := dp_nu N (s + 1) (N 0)) (A' := dp_gl A (24 * s + 24) (N 0) A) (w' := s + 1) dp_nu_s (fun i hi => by rw [show 24 * (s + 1) + i = 24 * s + 24 + i from by omega, dp_fl_mid hi, show 24 * 0 + i = i from by omega]) (fun i hi => by rw [show 24 * (s + 1) + i = 24 * s + 24 + i from by omega, dp_gl_in hi, show 24 * 0 + i = i from by omega])
    generalize hval : dp_sv c o (fun r => lv (o r)) pr tg vs K N A 0 (o r) = val
    refine br_f (by decide) (xx_keepQuery hs n24 l3 ⟨v3, ?_⟩)
    have N1 : vp_nar .boolean 1 = 1 := rfl
    refine nm_r (e' := upd S s 1) (by rw [cl, N1]) ⟨v3, nm_r (e' := upd xw s (nI (o r))) (by rw [cl]) (xx_rowOfTop T X hv G' (by rw [a1]; exact P.1) (by rw [a1, a2]; exact P.2) (ho r) (fun R1 m1 => ?_))⟩
    rw [a3, hval]
    refine ⟨v3, nm_r (e' := upd xs s val) (by rw [cl]) ⟨v3, v3, nm_r (e' := upd xb s val) (by rw [cl, pk_us]) ⟨v3, ?_⟩⟩⟩
    rw [cl, pk_us]
    refine xx_countBits ?_
    have Rn : dp_Re c o lv pr tg vs (dp_fl K (24 * s + 24) (N 0) K) (dp_nu N (s + 1) (N 0)) (dp_gl A (24 * s + 24) (N 0) A) (upd S s 1) ranks ends parents (dp_gl kx (24 * s) (N 0) (fun i => kx (72 + i))) (dp_gl ax (24 * s) (N 0) (fun i => ax (72 + i))) (upd lx s (nI (N 0))) isp above (upd al s 1) (upd ed s 0) (upd xw s (nI (o r))) (upd xs s val) (upd xb s val) (upd yw s (nI (o r))) yb h := by
      refine ⟨T, hv, X, B, G', ⟨by rw [a1]; exact Q.1, fun e he => by rw [a2]; exact Q.2 e (by rw [a1] at he; exact he)⟩, fun t ht => ?_⟩
      by_cases z : t = s
      · subst z
        rw [pk_us, pk_us, pk_us, pk_us, pk_us, pk_us, pk_us]
        refine ⟨Or.inr rfl, Or.inl rfl, Or.inr ⟨rfl, rfl, by rw [b1]; exact P.1, by rw [b1, b2]; exact P.2, o r, (T.2.1 _).mpr ⟨r, hr, rfl⟩, rfl, rfl, by rw [b3, hval]⟩, fun q => absurd q.2 (by decide), fun _ => rfl⟩
      · rw [pk_un z, pk_un z, pk_un z, pk_un z, pk_un z, pk_un z, pk_un z]
        have nt := (G (t + 1) (by omega)).1
        exact dp_Ws_prog (dp_nu_n (by omega)) (fun i hi => (dp_fl_out (by omega)).symm) (fun i hi => (dp_gl_out (by omega)).symm) (W t ht)
    unfold wpY_watch
    refine yy_slotYes hs (br_f (by decide) (yy_yes T hr (br_f (by decide) (yy_topIs (b := true) T B G (fun R2 P2 Z2 H => ?_)))))
    rw [dp_c_t (decide_eq_true P)]
    have e1 : nI s + 1 = nI (s + 1) := nI_1 s
    refine br_f (by decide) ?_
    rw [e1]
    refine ⟨vp_in_nI (by omega) (by decide), ?_⟩
    rw [nI_clamp (show s + 1 < 2 ^ 31 by omega)]
    refine nm_r dp_upd ⟨N 0 + 1, ?_⟩
    have sz : (fun j => nI (dp_nu N (s + 1) (N 0) j)) 0 = nI (N 0) := congrArg nI (dp_nu_n (by omega))
    have kp := @yy_keep_q (f_count := nI c) (f_height := nI (dp_hq K N 0)) (a_list := fun j => nI (o j)) (a_there := dp_th pr) (a_above := above) (a_tags := tg) (a_values := vs) (a_held := held) (a_twin := twin) (a_sizes := fun j => nI (dp_nu N (s + 1) (N 0) j)) (a_isPath := P2) (a_rows := R2) (a_spare := Z2) (a_isSet := S) (a_alive := al) (a_edited := ed) (a_watchNode := yw) (a_before := yb) (K := K) (A := A) (s := s) (n := N 0) (nd := nI (o r)) hs n24 sz (post := fun r' v' => r' = nI (dp_fc (bt val) 32) ∧ i_Rel (k + 4) ((nI c), pr, h, (fun j => nI (o j)), (fun j => nI (lv j)), tg, vs, ranks, ends, parents, run, (dp_gl kx (24 * s) (N 0) (fun i => kx (72 + i))), (dp_gl ax (24 * s) (N 0) (fun i => ax (72 + i))), (upd lx s (nI (N 0))), isp, R1, m1, (upd S s 1), (upd xw s (nI (o r))), (upd xs s val), (upd xb s val)) v') ?_ (N 0) 0 (Nat.zero_add _)
    · rw [dp_fl_0, dp_gl_0] at kp
      exact kp
    · refine br_t (by rw [sz]; exact nI_le (Nat.le_refl _) (by omega)) ⟨v3, nm_r (e' := upd S s 1) (by rw [cl, N1]) ⟨v3, nm_r (e' := upd al s 1) (by rw [cl, N1]) ⟨v3, nm_r (e' := upd ed s 0) (by rw [cl]; rfl) ⟨v3, nm_r (e' := upd yw s (nI (o r))) (by rw [cl]) ?_⟩⟩⟩⟩
      refine yy_topRow (s := val) P.1 h8 (ho r) (by rw [← hval]; exact (H _ hl).2 (o r) (ho r)) (yy_ones ⟨rfl, dp_rel Rn⟩)
  · rw [dp_c_f (decide_eq_false P)]
    have YN : wpY_watch (fun r' v' => r' = -2 ∧ i_Rel (k + 4) ((nI c), pr, h, (fun j => nI (o j)), (fun j => nI (lv j)), tg, vs, ranks, ends, parents, run, kx, ax, lx, isp, rows, mem, S, xw, xs, xb) v') ((nI c), hy, (fun j => nI (o j)), (dp_th pr), above, tg, vs, held, twin, (fun j => nI (K j)), A, (fun j => nI (N j)), yp, yr, sp, S, al, ed, yw, yb) (nI s) (nI (o r)) := by
      unfold wpY_watch
      refine yy_slotYes hs (br_f (by decide) (yy_yes T hr (br_f (by decide) (yy_topIs (b := true) T B G (fun R2 P2 Z2 H => ?_)))))
      rw [dp_c_f (decide_eq_false P)]
      exact br_t rfl ⟨rfl, dp_rel R⟩
    exact br_t rfl YN
