/-! token -/
theorem dp_nar (b : Bool) : vp_nar .boolean (dp_c b) = dp_c b := by cases b <;> rfl
section TP
variable {K N : Nat → Nat} {A kx ax lx isp : Nat → Int32} {h : Int32} {q : Nat} {a : Int32}
/-- the programs with one token more on the query -/
theorem dp_Pg_tok (G : dp_Pg K N A kx ax lx) (hn : N 0 < 24) (hok : dp_ok q a) (hft : dp_ft (dp_hq K N 0) (dp_Fq K N 0) q) (h8 : dp_hq K N 0 - dp_tk q + 1 ≤ 8) : dp_Pg (dp_nu K (N 0) q) (dp_nu N 0 (N 0 + 1)) (upd A (N 0) a) (upd kx (72 + N 0) (nI q)) (upd ax (72 + N 0) a) (upd lx 3 (nI (N 0 + 1))) := by
  intro w hw
  obtain ⟨g1, g2, g3, g4⟩ := G w hw
  by_cases z : w = 0
  · subst z
    have kk : ∀ i, i < N 0 → dp_kn K 0 i = dp_kn (dp_nu K (N 0) q) 0 i := fun i hi => by
      show K (24 * 0 + i) = dp_nu K (N 0) q (24 * 0 + i)
      rw [dp_nu_n (by omega)]
    have aa : ∀ i, i < N 0 → dp_am A 0 i = dp_am (upd A (N 0) a) 0 i := fun i hi => by
      show A (24 * 0 + i) = upd A (N 0) a (24 * 0 + i)
      rw [pk_un (by omega)]
    have kl : dp_kn (dp_nu K (N 0) q) 0 (N 0) = q := by
      show dp_nu K (N 0) q (24 * 0 + N 0) = q
      rw [show 24 * 0 + N 0 = N 0 from by omega, dp_nu_s]
    have al : dp_am (upd A (N 0) a) 0 (N 0) = a := by
      show upd A (N 0) a (24 * 0 + N 0) = a
      rw [show 24 * 0 + N 0 = N 0 from by omega, pk_us]
    have ty : dp_ty (dp_kn (dp_nu K (N 0) q) 0) (N 0) = dp_ty (dp_kn K 0) (N 0) := (dp_ty_congr kk).symm
    rw [dp_nu_s]
    refine ⟨by omega, fun i hi => ?_, by rw [dp_px_0]; exact pk_us, fun i hi => ?_⟩
    · rcases Nat.lt_or_ge i (N 0) with y | y
      · exact (dp_WT_congr kk aa g2) i y
      · obtain rfl : i = N 0 := by omega
        refine ⟨by rw [kl, al]; exact hok, by rw [kl, ty]; exact hft, ?_⟩
        rw [dp_ty_h, kl, ty]; exact h8
    · rw [dp_px_0]
      rcases Nat.lt_or_ge i (N 0) with y | y
      · have := g4 i y
        rw [dp_px_0] at this
        rw [pk_un (by omega), pk_un (by omega), dp_nu_n (by omega), pk_un (by omega)]
        exact this
      · obtain rfl : i = N 0 := by omega
        rw [show 24 * 3 + N 0 = 72 + N 0 from by omega, show 24 * 0 + N 0 = N 0 from by omega, pk_us, pk_us, dp_nu_s, pk_us]
        exact ⟨rfl, rfl⟩
  · have px : dp_px w = w - 1 := if_neg z
    have kk : ∀ i, i < N w → K (24 * w + i) = dp_nu K (N 0) q (24 * w + i) := fun i hi => (dp_nu_n (by omega)).symm
    have aa : ∀ i, i < N w → A (24 * w + i) = upd A (N 0) a (24 * w + i) := fun i hi => (pk_un (by omega)).symm
    rw [dp_nu_n z]
    refine ⟨g1, dp_WT_congr kk aa g2, by rw [pk_un (by omega)]; exact g3, fun i hi => ?_⟩
    rw [← kk i hi, ← aa i hi, pk_un (by omega), pk_un (by omega)]
    exact g4 i hi
theorem dp_Qs_tok (Q : dp_Qs K N h isp) : dp_hq (dp_nu K (N 0) q) (dp_nu N 0 (N 0 + 1)) 0 = dp_hq K N 0 - dp_tk q + 1 ∧ dp_Qs (dp_nu K (N 0) q) (dp_nu N 0 (N 0 + 1)) (nI (dp_hq K N 0 - dp_tk q + 1)) (upd isp (dp_hq K N 0 - dp_tk q) (dp_c (dp_gp q))) := by
  have kk : ∀ i, i < N 0 → dp_kn K 0 i = dp_kn (dp_nu K (N 0) q) 0 i := fun i hi => by
    show K (24 * 0 + i) = dp_nu K (N 0) q (24 * 0 + i)
    rw [dp_nu_n (by omega)]
  have kl : dp_kn (dp_nu K (N 0) q) 0 (N 0) = q := by
    show dp_nu K (N 0) q (24 * 0 + N 0) = q
    rw [show 24 * 0 + N 0 = N 0 from by omega, dp_nu_s]
  have ty : dp_ty (dp_kn (dp_nu K (N 0) q) 0) (N 0) = dp_ty (dp_kn K 0) (N 0) := (dp_ty_congr kk).symm
  have e1 : dp_hq (dp_nu K (N 0) q) (dp_nu N 0 (N 0 + 1)) 0 = dp_hq K N 0 - dp_tk q + 1 := by
    unfold dp_hq
    rw [dp_nu_s, dp_ty_h, kl, ty]
  refine ⟨e1, by rw [e1], fun e he => ?_⟩
  rw [e1] at he
  have hh : (dp_ty (dp_kn (dp_nu K (N 0) q) 0) (N 0)).1 - dp_tk (dp_kn (dp_nu K (N 0) q) 0 (N 0)) = dp_hq K N 0 - dp_tk q := by rw [kl, ty]; rfl
  unfold dp_Fq
  rw [dp_nu_s]
  by_cases z : e = dp_hq K N 0 - dp_tk q
  · subst z
    rw [pk_us, dp_ty_at hh, kl]
  · rw [pk_un z, dp_ty_ne hh z, ty]
    exact Q.2 e (by omega)
end TP
theorem i_vc_token {k : Nat} {u : SX} {v : SY} (I : i_Rel k u v) (hk : k + 4 ≤ 2048) (v1 : Int32) (v2 : Int32) : wpX_token (fun r u' => wpY_token (fun r' v' => r' = r ∧ i_Rel (k + 4) u' v') v v1 v2) u v1 v2 := by
  obtain ⟨c, o, lv, pr, tg, vs, K, N, A, S, ranks, ends, parents, kx, ax, lx, isp, above, al, ed, xw, xs, xb, yw, yb, run, rows, mem, held, twin, yp, yr, sp, h, hy, rfl, rfl, R⟩ := I
  have R' := R
  obtain ⟨T, hv, X, B, G, Q, W⟩ := R'
  have ho := T.1.2.2.1
  have hc := T.1.1
  obtain ⟨q1, q2⟩ := Q
  subst q1
  have h8 : dp_hq K N 0 ≤ 8 := dp_h8 (G 0 (by decide)).2.1 (Nat.le_refl _)
  have g1 := (G 0 (by decide)).1
  have l3 : lx 3 = nI (N 0) := (G 0 (by decide)).2.2.1
  by_cases h0 : v1 < 0
  · exact br_t h0 (br_t h0 ⟨rfl, dp_rel R⟩)
  by_cases h15 : 15 < v1
  · exact br_f h0 (br_t h15 (br_f h0 (br_t h15 ⟨rfl, dp_rel R⟩)))
  obtain ⟨q, hq, rfl⟩ := nI_of h0
  have q15 : q ≤ 15 := by
    rcases Nat.lt_or_ge 15 q with z | z
    · exact absurd (nI_lt (a := 15) z hq) h15
    · exact z
  have t2 := dp_tk2 q
  cases nb : dp_nb q v2
  · exact br_f h0 (br_f h15 (xx_isNumberFor q15 (by rw [nb]; exact br_t rfl (br_f h0 (br_f h15 (yy_fits q15 (by rw [nb]; exact br_t rfl ⟨rfl, dp_rel R⟩)))))))
  have ok := dp_nb_ok q15 nb
  refine br_f h0 (br_f h15 (xx_isNumberFor q15 ?_))
  rw [nb]
  refine br_f (by decide) ?_
  rw [l3]
  by_cases full : N 0 < 24
  · refine br_t (nI_lt (b := 24) full (by decide)) ?_
    have YW : ∀ (r : Int32) (u' : SX), (∀ R2 P2 Z2, dp_YR c o (fun r => lv (o r)) pr tg vs (dp_kn K 0) (dp_am A 0) (N 0) R2 P2 → wpY_finds (fun r_47 => (r_47 = 0 → (-3) = r ∧ i_Rel (k + 4) u' ((nI c), (nI (dp_hq K N 0)), (fun j => nI (o j)), (dp_th pr), above, tg, vs, held, twin, (fun j => nI (K j)), A, (fun j => nI (N j)), P2, R2, Z2, S, al, ed, yw, yb)) ∧ (¬ r_47 = 0 → wpY_isBare (fun r_69 => (r_69 = 0 → wY_token_71 (fun r' v' => r' = r ∧ i_Rel (k + 4) u' v') (nI q) v2 (nI c) (nI (dp_hq K N 0)) (fun j => nI (o j)) (dp_th pr) above tg vs held twin (fun j => nI (K j)) A (fun j => nI (N j)) P2 R2 Z2 S al ed yw yb) ∧ (¬ r_69 = 0 → (nI (dp_hq K N 0) = 8 → (-4) = r ∧ i_Rel (k + 4) u' ((nI c), (nI (dp_hq K N 0)), (fun j => nI (o j)), (dp_th pr), above, tg, vs, held, twin, (fun j => nI (K j)), A, (fun j => nI (N j)), P2, R2, Z2, S, al, ed, yw, yb)) ∧ (¬ nI (dp_hq K N 0) = 8 → wY_token_71 (fun r' v' => r' = r ∧ i_Rel (k + 4) u' v') (nI q) v2 (nI c) (nI (dp_hq K N 0)) (fun j => nI (o j)) (dp_th pr) above tg vs held twin (fun j => nI (K j)) A (fun j => nI (N j)) P2 R2 Z2 S al ed yw yb))) ((nI c), (nI (dp_hq K N 0)), (fun j => nI (o j)), (dp_th pr), above, tg, vs, held, twin, (fun j => nI (K j)), A, (fun j => nI (N j)), P2, R2, Z2, S, al, ed, yw, yb) (nI q))) ((nI c), (nI (dp_hq K N 0)), (fun j => nI (o j)), (dp_th pr), above, tg, vs, held, twin, (fun j => nI (K j)), A, (fun j => nI (N j)), P2, R2, Z2, S, al, ed, yw, yb) (nI q)) → wpY_token (fun r' v' => r' = r ∧ i_Rel (k + 4) u' v') ((nI c), hy, (fun j => nI (o j)), (dp_th pr), above, tg, vs, held, twin, (fun j => nI (K j)), A, (fun j => nI (N j)), yp, yr, sp, S, al, ed, yw, yb) (nI q) v2 := fun r u' H => by
      refine br_f h0 (br_f h15 (yy_fits q15 ?_))
      rw [nb]
      refine br_f (by decide) (br_f (fun w => ?_) (yy_workP T B G (w := 0) (by decide) (fun R2 P2 Z2 HY => H R2 P2 Z2 HY)))
      have := dp_inj (a := N 0) (b := 24) (by omega) (by decide) w
      omega
    refine xx_fitsOnTop q15 h8 q2 (fun ft => ?_) (fun ft => br_t rfl (YW _ _ (fun R2 P2 Z2 HY => yy_finds (F := dp_Fq K N 0) q15 h8 (fun e he => (HY e he).1) (fun z => absurd z ft) (fun _ => br_t rfl ⟨rfl, dp_rel R⟩))))
    refine br_f (by decide) (xx_countTaken q15 (nm_r (pk_sub ft.1) ?_))
    by_cases room : dp_hq K N 0 - dp_tk q < 8
    · obtain ⟨Q1, Q2⟩ := dp_Qs_tok (q := q) (show dp_Qs K N (nI (dp_hq K N 0)) isp from ⟨rfl, q2⟩)
      have G' := dp_Pg_tok G full ok ft (by omega)
      refine br_t (nI_lt (b := 8) room (by decide)) (nm_r (e' := nI (72 + N 0)) (nI_add 72 (N 0)) ?_)
      have v96 : vp_in (nI (72 + N 0)) 96 := vp_in_nI (by omega) (by decide)
      have cl : (nI (72 + N 0)).toNatClampNeg = 72 + N 0 := nI_clamp (by omega)
      refine ⟨v96, ?_⟩
      rw [cl]
      refine nm_e ⟨v96, nm_e (nm_r (e' := upd lx 3 (nI (N 0 + 1))) (by rw [nI_1]) (xx_givesPath q15 ?_))⟩
      refine ⟨dp_v8 room, ?_⟩
      rw [nI_clamp (show dp_hq K N 0 - dp_tk q < 2 ^ 31 by omega), dp_nar]
      refine nm_e (nm_r (nI_1 _) (YW _ _ (fun R2 P2 Z2 HY => yy_finds (F := dp_Fq K N 0) q15 h8 (fun e he => (HY e he).1) (fun _ => br_f (by decide) (yy_isBare q15 ?_)) (fun z => absurd ft z))))
      have fin : wY_token_71 (fun r' v' => r' = nI (dp_hq K N 0 - dp_tk q + 1) ∧ i_Rel (k + 4) ((nI c), pr, (nI (dp_hq K N 0 - dp_tk q + 1)), (fun j => nI (o j)), (fun j => nI (lv j)), tg, vs, ranks, ends, parents, run, (upd kx (72 + N 0) (nI q)), (upd ax (72 + N 0) v2), (upd lx 3 (nI (N 0 + 1))), (upd isp (dp_hq K N 0 - dp_tk q) (dp_c (dp_gp q))), rows, mem, S, xw, xs, xb) v') (nI q) v2 (nI c) (nI (dp_hq K N 0)) (fun j => nI (o j)) (dp_th pr) above tg vs held twin (fun j => nI (K j)) A (fun j => nI (N j)) P2 R2 Z2 S al ed yw yb := by
        have w96 : vp_in (nI (N 0)) 96 := vp_in_nI (by omega) (by decide)
        have wl : (nI (N 0)).toNatClampNeg = N 0 := nI_clamp (by omega)
        refine ⟨w96, ?_⟩
        rw [wl]
        refine nm_r dp_upd ⟨w96, ?_⟩
        refine nm_e (nm_r (e' := fun j => nI (dp_nu N 0 (N 0 + 1) j)) (show upd (fun j => nI (N j)) 0 (nI (N 0) + 1) = _ from by rw [nI_1]; exact dp_upd) (yy_workP T B G' (w := 0) (by decide) (fun R3 P3 Z3 H3 => ⟨by rw [Q1], dp_rel ⟨T, hv, X, B, G', Q2, fun s hs => dp_Ws_prog (dp_nu_n (by omega)) (fun i hi => (dp_nu_n (by omega)).symm) (fun i hi => (pk_un (by omega)).symm) (W s hs)⟩⟩)))
      by_cases tz : dp_tk q = 0
      · rw [dp_c_t (decide_eq_true tz)]
        refine br_f (by decide) (br_f (fun w => ?_) fin)
        have := dp_inj (a := dp_hq K N 0) (b := 8) (by omega) (by decide) w
        omega
      · rw [dp_c_f (decide_eq_false tz)]
        exact br_t rfl fin
    · have tz : dp_tk q = 0 := by omega
      refine br_f (nI_nlt (b := 8) (by omega) (by omega)) (YW _ _ (fun R2 P2 Z2 HY => yy_finds (F := dp_Fq K N 0) q15 h8 (fun e he => (HY e he).1) (fun _ => br_f (by decide) (yy_isBare q15 ?_)) (fun z => absurd ft z)))
      rw [dp_c_t (decide_eq_true tz)]
      refine br_f (by decide) (br_t ?_ ⟨rfl, dp_rel R⟩)
      rw [show dp_hq K N 0 = 8 from by omega]; rfl
  · refine br_f (nI_nlt (b := 24) (by omega) (by omega)) (br_f h0 (br_f h15 (yy_fits q15 ?_)))
    rw [nb]
    refine br_f (by decide) (br_t ?_ ⟨rfl, dp_rel R⟩)
    show nI (N 0) = 24
    rw [show N 0 = 24 from by omega]; rfl
