/-! the evaluations -/
theorem dp_h8 {kn : Nat → Nat} {an : Nat → Int32} {n : Nat} (W : dp_WT kn an n) : ∀ {i : Nat}, i ≤ n → (dp_ty kn i).1 ≤ 8
  | 0, _ => Nat.zero_le _
  | i + 1, h => (W i (by omega)).2.2
theorem dp_cases {k : Nat} (h : k ≤ 15) : k = 0 ∨ k = 1 ∨ k = 2 ∨ k = 3 ∨ k = 4 ∨ k = 5 ∨ k = 6 ∨ k = 7 ∨ k = 8 ∨ k = 9 ∨ k = 10 ∨ k = 11 ∨ k = 12 ∨ k = 13 ∨ k = 14 ∨ k = 15 := by omega
theorem xx_countTaken {k : Nat} (hk : k ≤ 15) {post : Int32 → Prop} (h : post (nI (dp_tk k))) : wpX_countTaken post (nI k) := by
  rcases dp_cases hk with rfl | rfl | rfl | rfl | rfl | rfl | rfl | rfl | rfl | rfl | rfl | rfl | rfl | rfl | rfl | rfl
  · exact br_f (by decide) (br_f (by decide) (br_t rfl h))
  · exact br_f (by decide) (br_f (by decide) (br_f (by decide) (br_t rfl h)))
  · exact br_f (by decide) (br_f (by decide) (br_f (by decide) (br_f (by decide) (br_t rfl h))))
  · exact br_f (by decide) (br_f (by decide) (br_f (by decide) (br_f (by decide) (br_f (by decide) (br_t rfl h)))))
  · exact br_f (by decide) (br_f (by decide) (br_f (by decide) (br_f (by decide) (br_f (by decide) (br_f (by decide) (br_t rfl h))))))
  · exact br_f (by decide) (br_f (by decide) (br_f (by decide) (br_f (by decide) (br_f (by decide) (br_f (by decide) (br_f (by decide) (br_t rfl h)))))))
  · exact br_f (by decide) (br_f (by decide) (br_f (by decide) (br_f (by decide) (br_f (by decide) (br_f (by decide) (br_f (by decide) (br_f (by decide) (br_t rfl h))))))))
  · exact br_f (by decide) (br_f (by decide) (br_f (by decide) (br_f (by decide) (br_f (by decide) (br_f (by decide) (br_f (by decide) (br_f (by decide) (br_f (by decide) (br_t rfl h)))))))))
  · exact br_f (by decide) (br_f (by decide) (br_f (by decide) (br_f (by decide) (br_f (by decide) (br_f (by decide) (br_f (by decide) (br_f (by decide) (br_f (by decide) (br_f (by decide) (br_t rfl h))))))))))
  · exact br_f (by decide) (br_f (by decide) (br_f (by decide) (br_f (by decide) (br_f (by decide) (br_f (by decide) (br_f (by decide) (br_f (by decide) (br_f (by decide) (br_f (by decide) (br_f (by decide) (br_t rfl h)))))))))))
  · exact br_f (by decide) (br_f (by decide) (br_f (by decide) (br_f (by decide) (br_f (by decide) (br_f (by decide) (br_f (by decide) (br_f (by decide) (br_f (by decide) (br_f (by decide) (br_f (by decide) (br_f (by decide) (br_t rfl h))))))))))))
  · exact br_f (by decide) (br_f (by decide) (br_f (by decide) (br_f (by decide) (br_f (by decide) (br_f (by decide) (br_f (by decide) (br_f (by decide) (br_f (by decide) (br_f (by decide) (br_f (by decide) (br_f (by decide) (br_f (by decide) (br_t rfl h)))))))))))))
  · exact br_f (by decide) (br_f (by decide) (br_f (by decide) (br_f (by decide) (br_f (by decide) (br_f (by decide) (br_f (by decide) (br_f (by decide) (br_f (by decide) (br_f (by decide) (br_f (by decide) (br_f (by decide) (br_f (by decide) (br_f (by decide) (br_t rfl h))))))))))))))
  · exact br_f (by decide) (br_t (by decide) h)
  · exact br_f (by decide) (br_t (by decide) h)
  · exact br_f (by decide) (br_t (by decide) h)
theorem xx_givesPath {k : Nat} (hk : k ≤ 15) {post : Int32 → Prop} (h : post (dp_c (dp_gp k))) : wpX_givesPath post (nI k) := by
  by_cases z : k ≤ 8
  · rw [show dp_gp k = true from decide_eq_true z] at h
    exact br_f (nI_nlt (a := 8) z (by decide)) h
  · rw [show dp_gp k = false from decide_eq_false z] at h
    exact br_t (nI_lt (a := 8) (by omega) (by omega)) h
section XE
variable {f_size f_present f_height : Int32} {a_order a_levels a_tags a_values a_ranks a_ends a_parents a_run a_kinds a_numbers a_lengths a_entryIsPath a_rows a_members a_wasSet a_watchNode a_selects a_selectedBefore : Nat → Int32} {c e : Nat} {o lv : Nat → Nat} {pr a : Int32} {p q R : Nat → Int32}
theorem xx_makePath (T : dp_Tr c o lv pr) (X : dp_TX c o (fun r => lv (o r)) a_ranks a_ends a_parents) (he : e < 8) {k : Nat} (hk : k ≤ 8) (h7 : dp_tk k = 2 → e < 7) (hp : 0 < dp_tk k → ∀ x, x < 32 → R (32 * e + x) = p x) (hq : dp_tk k = 2 → k ≠ 8 → ∀ x, x < 32 → R (32 * e + 32 + x) = q x) (hm : k = 8 → a_members (e + 1) = q 0) {post : SX → Prop} (h : ∀ R', dp_ag R R' e → (∀ x, x < 32 → R' (32 * e + x) = dp_op c o (fun r => lv (o r)) pr a_tags a_values k a p q x) → post ((nI c), pr, f_height, (fun j => nI (o j)), (fun j => nI (lv j)), a_tags, a_values, a_ranks, a_ends, a_parents, a_run, a_kinds, a_numbers, a_lengths, a_entryIsPath, R', a_members, a_wasSet, a_watchNode, a_selects, a_selectedBefore)) : wpX_makePath post ((nI c), pr, f_height, (fun j => nI (o j)), (fun j => nI (lv j)), a_tags, a_values, a_ranks, a_ends, a_parents, a_run, a_kinds, a_numbers, a_lengths, a_entryIsPath, R, a_members, a_wasSet, a_watchNode, a_selects, a_selectedBefore) (nI k) a (nI e) := by
  have ho := T.1.2.2.1
  have hc := T.1.1
  have cs : k = 0 ∨ k = 1 ∨ k = 2 ∨ k = 3 ∨ k = 4 ∨ k = 5 ∨ k = 6 ∨ k = 7 ∨ k = 8 := by omega
  rcases cs with rfl | rfl | rfl | rfl | rfl | rfl | rfl | rfl | rfl
  · exact nm_r (dp_m32 e) (br_f (by decide) (br_f (by decide) (br_t rfl (xx_putAxis T X he h))))
  · exact nm_r (dp_m32 e) (br_f (by decide) (br_f (by decide) (br_f (by decide) (br_t rfl (xx_joinRows (h7 rfl) (hp (by decide)) (hq rfl (by decide)) h)))))
  · exact nm_r (dp_m32 e) (br_f (by decide) (br_f (by decide) (br_f (by decide) (br_f (by decide) (br_t rfl (xx_combineRows (h7 rfl) (f := dp_op c o (fun r => lv (o r)) pr a_tags a_values 2 a p q) (fun x => ⟨fun _ => rfl, fun z => absurd rfl z⟩) (hp (by decide)) (hq rfl (by decide)) h))))))
  · exact nm_r (dp_m32 e) (br_f (by decide) (br_f (by decide) (br_f (by decide) (br_f (by decide) (br_f (by decide) (br_t rfl (xx_combineRows (h7 rfl) (f := dp_op c o (fun r => lv (o r)) pr a_tags a_values 3 a p q) (fun x => ⟨fun z => absurd z (by decide), fun _ => ⟨fun _ => rfl, fun z => absurd rfl z⟩⟩) (hp (by decide)) (hq rfl (by decide)) h)))))))
  · exact nm_r (dp_m32 e) (br_f (by decide) (br_f (by decide) (br_f (by decide) (br_f (by decide) (br_f (by decide) (br_f (by decide) (br_t rfl (xx_combineRows (h7 rfl) (f := dp_op c o (fun r => lv (o r)) pr a_tags a_values 4 a p q) (fun x => ⟨fun z => absurd z (by decide), fun _ => ⟨fun z => absurd z (by decide), fun _ => rfl⟩⟩) (hp (by decide)) (hq rfl (by decide)) h))))))))
  · exact nm_r (dp_m32 e) (br_f (by decide) (br_f (by decide) (br_f (by decide) (br_f (by decide) (br_f (by decide) (br_f (by decide) (br_f (by decide) (br_t rfl (xx_turnRows he (hp (by decide)) h)))))))))
  · exact nm_r (dp_m32 e) (br_f (by decide) (br_f (by decide) (br_f (by decide) (br_f (by decide) (br_f (by decide) (br_f (by decide) (br_f (by decide) (br_f (by decide) (br_t rfl (xx_repeatRows he (hp (by decide)) h))))))))))
  · exact nm_r (dp_m32 e) (br_f (by decide) (br_f (by decide) (br_f (by decide) (br_f (by decide) (br_f (by decide) (br_f (by decide) (br_f (by decide) (br_f (by decide) (br_f (by decide) (br_t rfl (xx_keepNth ho hc he (hp (by decide)) h)))))))))))
  · refine nm_r (dp_m32 e) (br_f (by decide) (br_f (by decide) (br_f (by decide) (br_f (by decide) (br_f (by decide) (br_f (by decide) (br_f (by decide) (br_f (by decide) (br_f (by decide) (br_f (by decide) (br_t rfl ?_)))))))))))
    have h7' := h7 rfl
    rw [nI_1]
    refine ⟨dp_v8 (by omega), ?_⟩
    rw [nI_clamp (show e + 1 < 2 ^ 31 by omega), hm rfl]
    exact xx_keepMembers he (hp (by decide)) h
theorem xx_makeCondition (T : dp_Tr c o lv pr) (hv : ∀ n, a_values n ≤ 99) (he : e < 8) {k : Nat} (hk : 9 ≤ k) (hk2 : k ≤ 15) (h7 : dp_tk k = 2 → e < 7) (hp : k = 11 ∨ k = 15 → (∀ x, x < 32 → a_rows (32 * e + x) = p x) ∧ dp_PP pr p) (hq : k = 15 → (∀ x, x < 32 → a_rows (32 * e + 32 + x) = q x) ∧ dp_PP pr q) (hm : k = 12 ∨ k = 13 ∨ k = 14 → a_members e = p 0) (hn : k = 13 ∨ k = 14 → a_members (e + 1) = q 0) {post : SX → Prop} (h : ∀ s, s = dp_op c o (fun r => lv (o r)) pr a_tags a_values k a p q 0 → post ((nI c), pr, f_height, (fun j => nI (o j)), (fun j => nI (lv j)), a_tags, a_values, a_ranks, a_ends, a_parents, a_run, a_kinds, a_numbers, a_lengths, a_entryIsPath, a_rows, (upd a_members e s), a_wasSet, a_watchNode, a_selects, a_selectedBefore)) : wpX_makeCondition post ((nI c), pr, f_height, (fun j => nI (o j)), (fun j => nI (lv j)), a_tags, a_values, a_ranks, a_ends, a_parents, a_run, a_kinds, a_numbers, a_lengths, a_entryIsPath, a_rows, a_members, a_wasSet, a_watchNode, a_selects, a_selectedBefore) (nI k) a (nI e) := by
  have ho := T.1.2.2.1
  have hc := T.1.1
  have cl : (nI e).toNatClampNeg = e := nI_clamp (by omega)
  have ve := dp_v8 he
  have fin : ∀ s, s = dp_op c o (fun r => lv (o r)) pr a_tags a_values k a p q 0 → vp_in (nI e) 8 ∧ ∀ m : Nat → Int32, m = upd a_members (nI e).toNatClampNeg s → post ((nI c), pr, f_height, (fun j => nI (o j)), (fun j => nI (lv j)), a_tags, a_values, a_ranks, a_ends, a_parents, a_run, a_kinds, a_numbers, a_lengths, a_entryIsPath, a_rows, m, a_wasSet, a_watchNode, a_selects, a_selectedBefore) := fun s hs => ⟨ve, fun m em => by rw [em, cl]; exact h s hs⟩
  have cs : k = 9 ∨ k = 10 ∨ k = 11 ∨ k = 12 ∨ k = 13 ∨ k = 14 ∨ k = 15 := by omega
  rcases cs with rfl | rfl | rfl | rfl | rfl | rfl | rfl
  · exact nm_r (dp_m32 e) (br_f (by decide) (br_f (by decide) (br_t rfl (xx_from_tags ho hc (fin _ dp_al_tag)))))
  · exact nm_r (dp_m32 e) (br_f (by decide) (br_f (by decide) (br_f (by decide) (br_t rfl (xx_from_values ho hc (fin _ (dp_al_least hv)))))))
  · exact nm_r (dp_m32 e) (br_f (by decide) (br_f (by decide) (br_f (by decide) (br_f (by decide) (br_t rfl (xx_many he (hp (Or.inl rfl)).1 (fin _ rfl)))))))
  · refine nm_r (dp_m32 e) (br_f (by decide) (br_f (by decide) (br_f (by decide) (br_f (by decide) (br_f (by decide) (br_t rfl ⟨ve, fin _ ?_⟩))))))
    rw [cl, hm (Or.inl rfl)]; rfl
  · refine nm_r (dp_m32 e) (br_f (by decide) (br_f (by decide) (br_f (by decide) (br_f (by decide) (br_f (by decide) (br_f (by decide) (br_t rfl ⟨ve, ?_⟩)))))))
    have h7' := h7 rfl
    rw [nI_1]
    refine ⟨dp_v8 (by omega), fin _ ?_⟩
    rw [cl, nI_clamp (show e + 1 < 2 ^ 31 by omega), hm (Or.inr (Or.inl rfl)), hn (Or.inl rfl)]; rfl
  · refine nm_r (dp_m32 e) (br_f (by decide) (br_f (by decide) (br_f (by decide) (br_f (by decide) (br_f (by decide) (br_f (by decide) (br_f (by decide) (br_t rfl ⟨ve, ?_⟩))))))))
    have h7' := h7 rfl
    rw [nI_1]
    refine ⟨dp_v8 (by omega), fin _ ?_⟩
    rw [cl, nI_clamp (show e + 1 < 2 ^ 31 by omega), hm (Or.inr (Or.inr rfl)), hn (Or.inr rfl)]; rfl
  · exact nm_r (dp_m32 e) (br_f (by decide) (br_t (by decide) (xx_match T (h7 rfl) (hp (Or.inr rfl)).1 (hq rfl).1 (hp (Or.inr rfl)).2 (hq rfl).2 (fin _ rfl))))
theorem xx_eval_l (T : dp_Tr c o lv pr) (X : dp_TX c o (fun r => lv (o r)) a_ranks a_ends a_parents) (hv : ∀ n, a_values n ≤ 99) {w n : Nat} {kn : Nat → Nat} {an : Nat → Int32} (hw : w < 4) (hn : n ≤ 24) (W : dp_WT kn an n) (hK : ∀ i, i < n → a_kinds (24 * w + i) = nI (kn i) ∧ a_numbers (24 * w + i) = an i) {post : Int32 → SX → Prop} (h : ∀ R' m, dp_XR c o (fun r => lv (o r)) pr a_tags a_values kn an n R' m → post (nI (dp_ty kn n).1 - 1) ((nI c), pr, f_height, (fun j => nI (o j)), (fun j => nI (lv j)), a_tags, a_values, a_ranks, a_ends, a_parents, a_run, a_kinds, a_numbers, a_lengths, a_entryIsPath, R', m, a_wasSet, a_watchNode, a_selects, a_selectedBefore)) : ∀ d i R' m, i + d = n → dp_XR c o (fun r => lv (o r)) pr a_tags a_values kn an i R' m → wX_evaluate_20 post (nI (24 * w + n)) (d + 1) (nI (dp_ty kn i).1 - 1) (nI (24 * w + i)) (nI c) pr f_height (fun j => nI (o j)) (fun j => nI (lv j)) a_tags a_values a_ranks a_ends a_parents a_run a_kinds a_numbers a_lengths a_entryIsPath R' m a_wasSet a_watchNode a_selects a_selectedBefore := by
  have ho := T.1.2.2.1
  intro d
  induction d with
  | zero =>
    intro i R' m hi H
    obtain rfl : i = n := by omega
    exact br_t (nI_le (Nat.le_refl _) (by omega)) (h R' m H)
  | succ d ih =>
    intro i R' m hi H
    obtain ⟨w1, w2, w3⟩ := W i (by omega)
    have h8 := dp_h8 W (show i ≤ n by omega)
    have PI := dp_vl_PI (l := fun r => lv (o r)) (tg := a_tags) (vs := a_values) ho T.2.1 W i (by omega)
    have w3' : (dp_ty kn i).1 - dp_tk (kn i) + 1 ≤ 8 := w3
    obtain ⟨f1, f2, f3⟩ := w2
    have tk2 : dp_tk (kn i) ≤ 2 := by unfold dp_tk; split; · omega
                                      split <;> omega
    have next : ∀ R2 m2, dp_XR c o (fun r => lv (o r)) pr a_tags a_values kn an (i + 1) R2 m2 → ∀ y, y = nI (24 * w + i) + 1 → wX_evaluate_20 post (nI (24 * w + n)) (d + 1) (nI ((dp_ty kn i).1 - dp_tk (kn i))) y (nI c) pr f_height (fun j => nI (o j)) (fun j => nI (lv j)) a_tags a_values a_ranks a_ends a_parents a_run a_kinds a_numbers a_lengths a_entryIsPath R2 m2 a_wasSet a_watchNode a_selects a_selectedBefore := fun R2 m2 H2 y ey => by
      have := ih (i + 1) R2 m2 (by omega) H2
      rw [dp_ty_h, nI_pred] at this
      rw [ey, nI_1, show 24 * w + i + 1 = 24 * w + (i + 1) from by omega]
      exact this
    have v96 : vp_in (nI (24 * w + i)) 96 := vp_in_nI (by omega) (by decide)
    have cl : (nI (24 * w + i)).toNatClampNeg = 24 * w + i := nI_clamp (by omega)
    refine br_f (nI_ge (by omega) (by omega)) ⟨v96, ?_⟩
    simp only [cl, (hK i (by omega)).1, (hK i (by omega)).2]
    refine xx_countTaken w1.1 (nm_r (e' := nI ((dp_ty kn i).1 - dp_tk (kn i))) ?_ ⟨v96, xx_givesPath w1.1 ?_⟩)
    · rw [← pk_sub f1]; grind
    generalize he : (dp_ty kn i).1 - dp_tk (kn i) = e at *
    have he8 : e < 8 := by omega
    have top1 : dp_tk (kn i) = 1 → e < (dp_ty kn i).1 ∧ (dp_ty kn i).2 e = dp_tp (kn i) := fun t => ⟨by omega, by rw [← f2 (by omega), show (dp_ty kn i).1 - 1 = e from by omega]⟩
    have top2 : dp_tk (kn i) = 2 → e < (dp_ty kn i).1 ∧ e + 1 < (dp_ty kn i).1 ∧ (dp_ty kn i).2 e = dp_bp (kn i) ∧ (dp_ty kn i).2 (e + 1) = dp_tp (kn i) := fun t => ⟨by omega, by omega, by rw [← f3 t, show (dp_ty kn i).1 - 2 = e from by omega], by rw [← f2 (by omega), show (dp_ty kn i).1 - 1 = e + 1 from by omega]⟩
    cases z : dp_gp (kn i)
    · have k9 : 9 ≤ kn i := by
        have := of_decide_eq_false z
        omega
      refine br_t rfl ⟨v96, v96, ?_⟩
      refine xx_makeCondition (p := dp_vl c o (fun r => lv (o r)) pr a_tags a_values kn an i e) (q := dp_vl c o (fun r => lv (o r)) pr a_tags a_values kn an i (e + 1)) T hv he8 k9 w1.1 (fun q => by omega) ?_ ?_ ?_ ?_ (fun s hs => next _ _ (dp_XR_cond he z H hs))
      · intro q
        have b : e < (dp_ty kn i).1 ∧ (dp_ty kn i).2 e = true := by
          rcases q with q | q
          · have t := top1 (by rw [q]; rfl)
            rw [q] at t; exact t
          · have t := top2 (by rw [q]; rfl)
            rw [q] at t; exact ⟨t.1, t.2.2.1⟩
        exact ⟨(H e b.1).1 b.2, (PI e b.1).1 b.2⟩
      · intro q
        have t := top2 (by rw [q]; rfl)
        rw [q] at t
        refine ⟨fun x hx => ?_, (PI (e + 1) t.2.1).1 t.2.2.2⟩
        rw [show 32 * e + 32 + x = 32 * (e + 1) + x from by omega]
        exact (H (e + 1) t.2.1).1 t.2.2.2 x hx
      · intro q
        have b : e < (dp_ty kn i).1 ∧ (dp_ty kn i).2 e = false := by
          rcases q with q | q | q
          · have t := top1 (by rw [q]; rfl)
            rw [q] at t; exact t
          · have t := top2 (by rw [q]; rfl)
            rw [q] at t; exact ⟨t.1, t.2.2.1⟩
          · have t := top2 (by rw [q]; rfl)
            rw [q] at t; exact ⟨t.1, t.2.2.1⟩
        exact (H e b.1).2 b.2
      · intro q
        have b : e + 1 < (dp_ty kn i).1 ∧ (dp_ty kn i).2 (e + 1) = false := by
          rcases q with q | q
          · have t := top2 (by rw [q]; rfl)
            rw [q] at t; exact ⟨t.2.1, t.2.2.2⟩
          · have t := top2 (by rw [q]; rfl)
            rw [q] at t; exact ⟨t.2.1, t.2.2.2⟩
        exact (H (e + 1) b.1).2 b.2
    · have k8 : kn i ≤ 8 := of_decide_eq_true z
      refine br_f (by decide) ⟨v96, v96, ?_⟩
      refine xx_makePath (p := dp_vl c o (fun r => lv (o r)) pr a_tags a_values kn an i e) (q := dp_vl c o (fun r => lv (o r)) pr a_tags a_values kn an i (e + 1)) T X he8 k8 (fun q => by omega) (fun q => ?_) (fun q q8 => ?_) (fun q => ?_) (fun R2 ag H2 => next _ _ (dp_XR_path he z H ag H2))
      · have b : e < (dp_ty kn i).1 ∧ (dp_ty kn i).2 e = true := by
          rcases Nat.lt_or_ge (dp_tk (kn i)) 2 with y | y
          · have t := top1 (by omega)
            refine ⟨t.1, t.2.trans (decide_eq_true ⟨fun e8 => ?_, by omega, by omega, by omega⟩)⟩
            rw [e8] at y; exact absurd y (by decide)
          · have t := top2 (by omega)
            exact ⟨t.1, t.2.2.1.trans (decide_eq_true ⟨by omega, by omega⟩)⟩
        exact (H e b.1).1 b.2
      · have t := top2 q
        have b : (dp_ty kn i).2 (e + 1) = true := t.2.2.2.trans (decide_eq_true ⟨q8, by omega, by omega, by omega⟩)
        intro x hx
        rw [show 32 * e + 32 + x = 32 * (e + 1) + x from by omega]
        exact (H (e + 1) t.2.1).1 b x hx
      · have t := top2 (by rw [q]; rfl)
        have b : (dp_ty kn i).2 (e + 1) = false := t.2.2.2.trans (by rw [q]; rfl)
        exact (H (e + 1) t.2.1).2 b
theorem xx_evaluate (T : dp_Tr c o lv pr) (X : dp_TX c o (fun r => lv (o r)) a_ranks a_ends a_parents) (hv : ∀ n, a_values n ≤ 99) {w n : Nat} {kn : Nat → Nat} {an : Nat → Int32} (hw : w < 4) (hn : n ≤ 24) (W : dp_WT kn an n) (hl : a_lengths w = nI n) (hK : ∀ i, i < n → a_kinds (24 * w + i) = nI (kn i) ∧ a_numbers (24 * w + i) = an i) {post : Int32 → SX → Prop} (h : ∀ R' m, dp_XR c o (fun r => lv (o r)) pr a_tags a_values kn an n R' m → post (nI (dp_ty kn n).1 - 1) ((nI c), pr, f_height, (fun j => nI (o j)), (fun j => nI (lv j)), a_tags, a_values, a_ranks, a_ends, a_parents, a_run, a_kinds, a_numbers, a_lengths, a_entryIsPath, R', m, a_wasSet, a_watchNode, a_selects, a_selectedBefore)) : wpX_evaluate post ((nI c), pr, f_height, (fun j => nI (o j)), (fun j => nI (lv j)), a_tags, a_values, a_ranks, a_ends, a_parents, a_run, a_kinds, a_numbers, a_lengths, a_entryIsPath, a_rows, a_members, a_wasSet, a_watchNode, a_selects, a_selectedBefore) (nI w) := by
  refine nm_r (dp_m24 w) ⟨vp_in_nI hw (by decide), ?_⟩
  rw [nI_clamp (show w < 2 ^ 31 by omega), hl]
  exact nm_r (nI_add _ _) ⟨n + 1, xx_eval_l T X hv hw hn W hK h n 0 _ _ (Nat.zero_add n) (fun e he => absurd he (Nat.not_lt_zero e))⟩
end XE
