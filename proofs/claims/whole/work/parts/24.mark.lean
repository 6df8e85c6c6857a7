/-! edits of tags and values; the query is cleared -/
section WE
variable {c c' : Nat} {o l o' l' : Nat → Nat} {pr pr' : Int32} {tg vs tg' vs' : Nat → Int32} {K N : Nat → Nat} {A S al al' ed ed' xw xw' xs xs' xb xb' yw yb yb' : Nat → Int32}
theorem dp_Wa_edit (W : dp_Wa c o l pr tg vs K N A S al ed xw xs xb yw yb) (F : ∀ s, s < 3 → dp_Rf c' o' l' pr' tg' vs' K N A xw' xs xs' xb' s) (E : ∀ s, s < 3 → ed' s = 1 ∧ yb' s = xs s) (L : ∀ s, s < 3 → (al' s = 0 ∧ xw' s = -1) ∨ (al s = 1 ∧ al' s = 1 ∧ xw' s = xw s ∧ ∀ w, xw s = nI w → bt pr w = true → bt pr' w = true)) : dp_Wa c' o' l' pr' tg' vs' K N A S al' ed' xw' xs' xb' yw yb' := fun s hs => by
  obtain ⟨f1, f2, f3⟩ := F s hs
  rw [f1, (E s hs).1, (E s hs).2]
  refine dp_Ws_edit (W s hs) ?_
  rcases L s hs with ⟨z1, z2⟩ | ⟨z1, z2, z3, z4⟩
  · exact Or.inl ⟨z1, z2, f2 z2⟩
  · exact Or.inr ⟨z1, z2, z3, fun w w1 w2 => ⟨z4 w w1 w2, f3 w (dp_bt_lt w2) (z3.trans w1)⟩⟩
theorem dp_L_same (W : dp_Wa c o l pr tg vs K N A S al ed xw xs xb yw yb) (hp : ∀ w, bt pr w = true → bt pr' w = true) : ∀ s, s < 3 → (al s = 0 ∧ xw s = -1) ∨ (al s = 1 ∧ al s = 1 ∧ xw s = xw s ∧ ∀ w, xw s = nI w → bt pr w = true → bt pr' w = true) := fun s hs => by
  rcases (W s hs).2.2.1 with ⟨z1, z2, z3⟩ | ⟨z1, -⟩
  · exact Or.inl ⟨z1, z2⟩
  · exact Or.inr ⟨z1, z1, rfl, fun w _ h => hp w h⟩
theorem dp_hw (W : dp_Wa c o l pr tg vs K N A S al ed xw xs xb yw yb) : ∀ s, s < 3 → xw s = -1 ∨ (∃ w, w < 32 ∧ xw s = nI w) ∧ 0 < dp_hq K N (s + 1) ∧ dp_Fq K N (s + 1) (dp_hq K N (s + 1) - 1) = true := fun s hs => by
  rcases (W s hs).2.2.1 with ⟨-, z2, -⟩ | ⟨-, -, z3, z4, w, z5, z6, -⟩
  · exact Or.inl z2
  · exact Or.inr ⟨⟨w, dp_bt_lt z5, z6⟩, z3, z4⟩
end WE
theorem i_vc_label {k : Nat} {u : SX} {v : SY} (I : i_Rel k u v) (hk : k + 4 ≤ 2048) (v1 : Int32) (v2 : Int32) : wpX_label (fun r u' => wpY_label (fun r' v' => r' = r ∧ i_Rel (k + 4) u' v') v v1 v2) u v1 v2 := by
  obtain ⟨c, o, lv, pr, tg, vs, K, N, A, S, ranks, ends, parents, kx, ax, lx, isp, above, al, ed, xw, xs, xb, yw, yb, run, rows, mem, held, twin, yp, yr, sp, h, hy, rfl, rfl, R⟩ := I
  have R' := R
  obtain ⟨T, hv, X, B, G, Q, W⟩ := R'
  have ho := T.1.2.2.1
  have hc := T.1.1
  unfold wpX_label wpY_label
  rcases dp_node T v1 with e | ⟨r, hr, rfl⟩
  · exact xx_no e (br_t rfl (yy_no e (br_t rfl ⟨rfl, dp_rel R⟩)))
  · by_cases h0 : v2 < 0
    · exact xx_yes T hr (br_f (by decide) (br_t h0 (yy_yes T hr (br_f (by decide) (br_t h0 ⟨rfl, dp_rel R⟩)))))
    by_cases h7 : v2 ≤ 7
    · refine xx_yes T hr (br_f (by decide) (br_f h0 (br_t h7 ⟨dp_v32 (ho r), nm_e ⟨dp_v32 (ho r), ?_⟩⟩)))
      rw [dp_cl32 (ho r)]
      refine nm_e (xx_refresh T X hv G (dp_hw W) (fun R1 m1 xs1 xb1 H1 => ?_))
      refine yy_yes T hr (br_f (by decide) (br_f h0 (br_t h7 (yy_noteEdit T B G W (fun hy2 R2 P2 Z2 ed2 yb2 H2 => ?_)))))
      exact ⟨dp_v32 (ho r), nm_e ⟨dp_v32 (ho r), nm_e ⟨rfl, dp_rel ⟨T, hv, X, B, G, Q, dp_Wa_edit W H1 H2 (dp_L_same W (fun _ z => z))⟩⟩⟩⟩
    · exact xx_yes T hr (br_f (by decide) (br_f h0 (br_f h7 (yy_yes T hr (br_f (by decide) (br_f h0 (br_f h7 ⟨rfl, dp_rel R⟩)))))))
theorem i_vc_mark {k : Nat} {u : SX} {v : SY} (I : i_Rel k u v) (hk : k + 4 ≤ 2048) (v1 : Int32) (v2 : Int32) : wpX_mark (fun r u' => wpY_mark (fun r' v' => r' = r ∧ i_Rel (k + 4) u' v') v v1 v2) u v1 v2 := by
  obtain ⟨c, o, lv, pr, tg, vs, K, N, A, S, ranks, ends, parents, kx, ax, lx, isp, above, al, ed, xw, xs, xb, yw, yb, run, rows, mem, held, twin, yp, yr, sp, h, hy, rfl, rfl, R⟩ := I
  have R' := R
  obtain ⟨T, hv, X, B, G, Q, W⟩ := R'
  have ho := T.1.2.2.1
  have hc := T.1.1
  unfold wpX_mark wpY_mark
  rcases dp_node T v1 with e | ⟨r, hr, rfl⟩
  · exact xx_no e (br_t rfl (yy_no e (br_t rfl ⟨rfl, dp_rel R⟩)))
  · by_cases h0 : v2 < -99
    · exact xx_yes T hr (br_f (by decide) (br_t h0 (yy_yes T hr (br_f (by decide) (br_t h0 ⟨rfl, dp_rel R⟩)))))
    by_cases h7 : v2 ≤ 99
    · have hv' : ∀ n, upd vs (o r) v2 n ≤ 99 := fun n => by
        show (if n = o r then v2 else vs n) ≤ 99
        split
        · exact h7
        · exact hv n
      refine xx_yes T hr (br_f (by decide) (br_f h0 (br_t h7 ⟨dp_v32 (ho r), nm_r (e' := vs (o r)) (congrArg vs (dp_cl32 (ho r))) ⟨dp_v32 (ho r), nm_r (e' := upd vs (o r) v2) (by rw [dp_cl32 (ho r)]) (xx_refresh T X hv' G (dp_hw W) (fun R1 m1 xs1 xb1 H1 => ?_))⟩⟩)))
      have fin : ∀ a, (vs (o r) = v2 → a = 0) → (¬ vs (o r) = v2 → a = 1) → wpY_mark (fun r' v' => r' = a ∧ i_Rel (k + 4) ((nI c), pr, h, (fun j => nI (o j)), (fun j => nI (lv j)), tg, (upd vs (o r) v2), ranks, ends, parents, run, kx, ax, lx, isp, R1, m1, S, xw, xs1, xb1) v') ((nI c), hy, (fun j => nI (o j)), (dp_th pr), above, tg, vs, held, twin, (fun j => nI (K j)), A, (fun j => nI (N j)), yp, yr, sp, S, al, ed, yw, yb) (nI (o r)) v2 := fun a a0 a1 => by
        unfold wpY_mark
        refine yy_yes T hr (br_f (by decide) (br_f h0 (br_t h7 (yy_noteEdit T B G W (fun hy2 R2 P2 Z2 ed2 yb2 H2 => ?_)))))
        have RR := dp_rel (k := k + 4) (run := run) (rows := R1) (mem := m1) (held := held) (twin := twin) (yp := P2) (yr := R2) (sp := Z2) (hy := hy2) (show dp_Re c o lv pr tg (upd vs (o r) v2) K N A S ranks ends parents kx ax lx isp above al ed2 xw xs1 xb1 yw yb2 h from ⟨T, hv', X, B, G, Q, dp_Wa_edit W H1 H2 (dp_L_same W (fun _ z => z))⟩)
        refine ⟨dp_v32 (ho r), ?_⟩
        rw [dp_cl32 (ho r)]
        exact nm_e ⟨dp_v32 (ho r), nm_e (br_c (fun z => ⟨(a0 z).symm, RR⟩) (fun z => ⟨(a1 z).symm, RR⟩))⟩
      exact br_c (fun z => fin 0 (fun _ => rfl) (fun n => absurd z n)) (fun z => fin 1 (fun n => absurd n z) (fun _ => rfl))
    · exact xx_yes T hr (br_f (by decide) (br_f h0 (br_f h7 (yy_yes T hr (br_f (by decide) (br_f h0 (br_f h7 ⟨rfl, dp_rel R⟩)))))))
/-! programs -/
theorem dp_prog {c : Nat} {o l : Nat → Nat} {pr : Int32} {tg vs : Nat → Int32} {K K' N N' : Nat → Nat} {A A' : Nat → Int32} {w w' : Nat} (hN : N' w' = N w) (hK : ∀ i, i < N w → K (24 * w + i) = K' (24 * w' + i)) (hA : ∀ i, i < N w → A (24 * w + i) = A' (24 * w' + i)) : dp_hq K' N' w' = dp_hq K N w ∧ dp_Fq K' N' w' = dp_Fq K N w ∧ (∀ n, dp_sv c o l pr tg vs K' N' A' w' n = dp_sv c o l pr tg vs K N A w n) ∧ (dp_WT (dp_kn K w) (dp_am A w) (N w) → dp_WT (dp_kn K' w') (dp_am A' w') (N' w')) := by
  have e1 : dp_ty (dp_kn K w) (N w) = dp_ty (dp_kn K' w') (N w) := dp_ty_congr hK
  have e2 : dp_vl c o l pr tg vs (dp_kn K w) (dp_am A w) (N w) = dp_vl c o l pr tg vs (dp_kn K' w') (dp_am A' w') (N w) := dp_vl_congr hK hA
  have h1 : dp_hq K' N' w' = dp_hq K N w := by unfold dp_hq; rw [hN, e1]
  refine ⟨h1, ?_, fun n => ?_, fun W => ?_⟩
  · unfold dp_Fq; rw [hN, e1]
  · unfold dp_sv; rw [h1, hN, e2]
  · rw [hN]; exact dp_WT_congr hK hA W
theorem dp_Ws_prog {c : Nat} {o l : Nat → Nat} {pr : Int32} {tg vs : Nat → Int32} {K K' N N' : Nat → Nat} {A A' : Nat → Int32} {s : Nat} {S al ed xw xs xb yw yb : Int32} (hN : N' (s + 1) = N (s + 1)) (hK : ∀ i, i < N (s + 1) → K (24 * (s + 1) + i) = K' (24 * (s + 1) + i)) (hA : ∀ i, i < N (s + 1) → A (24 * (s + 1) + i) = A' (24 * (s + 1) + i)) (W : dp_Ws c o l pr tg vs K N A s S al ed xw xs xb yw yb) : dp_Ws c o l pr tg vs K' N' A' s S al ed xw xs xb yw yb := by
  obtain ⟨p1, p2, p3, -⟩ := dp_prog (c := c) (o := o) (l := l) (pr := pr) (tg := tg) (vs := vs) hN hK hA
  obtain ⟨w1, w2, w3, w4, w5⟩ := W
  refine ⟨w1, w2, ?_, w4, w5⟩
  rcases w3 with z | ⟨z1, z2, z3, z4, w, z5, z6, z7, z8⟩
  · exact Or.inl z
  · exact Or.inr ⟨z1, z2, by rw [p1]; exact z3, by rw [p1, p2]; exact z4, w, z5, z6, z7, by rw [p3]; exact z8⟩
theorem i_vc_clearQuery {k : Nat} {u : SX} {v : SY} (I : i_Rel k u v) (hk : k + 4 ≤ 2048) : wpX_clearQuery (fun r u' => wpY_clearQuery (fun r' v' => r' = r ∧ i_Rel (k + 4) u' v') v) u := by
  obtain ⟨c, o, lv, pr, tg, vs, K, N, A, S, ranks, ends, parents, kx, ax, lx, isp, above, al, ed, xw, xs, xb, yw, yb, run, rows, mem, held, twin, yp, yr, sp, h, hy, rfl, rfl, R⟩ := I
  have R' := R
  obtain ⟨T, hv, X, B, G, Q, W⟩ := R'
  have ho := T.1.2.2.1
  have hc := T.1.1
  obtain ⟨q1, q2⟩ := Q
  unfold wpX_clearQuery wpY_clearQuery
  refine nm_e (yy_workP T B G (w := 0) (by decide) (fun R2 P2 Z2 H => ?_))
  refine nm_r (e' := fun j => nI (dp_nu N 0 0 j)) (dp_upd (x := 0)) ⟨q1.symm, dp_rel ⟨T, hv, X, B, fun w hw => ?_, ⟨rfl, fun e he => absurd he (Nat.not_lt_zero e)⟩, fun s hs => dp_Ws_prog (dp_nu_n (by omega)) (fun _ _ => rfl) (fun _ _ => rfl) (W s hs)⟩⟩
  obtain ⟨g1, g2, g3, g4⟩ := G w hw
  by_cases z : w = 0
  · subst z
    exact ⟨by rw [dp_nu_s]; omega, by rw [dp_nu_s]; exact fun i hi => absurd hi (Nat.not_lt_zero i), by rw [dp_nu_s, dp_px_0]; exact pk_us, fun i hi => absurd hi (by rw [dp_nu_s]; exact Nat.not_lt_zero i)⟩
  · rw [dp_nu_n z]
    refine ⟨g1, g2, ?_, g4⟩
    rw [pk_un (by unfold dp_px; rw [if_neg z]; omega)]
    exact g3
