/-! the reference's evaluation -/
section YW
variable {f_count f_height : Int32} {a_list a_there a_above a_tags a_values a_held a_twin a_kinds a_args a_sizes a_isPath a_rows a_spare a_isSet a_alive a_edited a_watchNode a_before : Nat → Int32} {c e : Nat} {o lv : Nat → Nat} {pr a : Int32} {p q R : Nat → Int32}
theorem yy_isBare {k : Nat} (hk : k ≤ 15) {post : Int32 → Prop} (h : post (dp_c (decide (dp_tk k = 0)))) : wpY_isBare post (f_count, f_height, a_list, a_there, a_above, a_tags, a_values, a_held, a_twin, a_kinds, a_args, a_sizes, a_isPath, a_rows, a_spare, a_isSet, a_alive, a_edited, a_watchNode, a_before) (nI k) := by
  rcases dp_cases hk with rfl | rfl | rfl | rfl | rfl | rfl | rfl | rfl | rfl | rfl | rfl | rfl | rfl | rfl | rfl | rfl
  · exact br_t rfl h
  · exact br_f (by decide) (br_f (by decide) (br_f (by decide) h))
  · exact br_f (by decide) (br_f (by decide) (br_f (by decide) h))
  · exact br_f (by decide) (br_f (by decide) (br_f (by decide) h))
  · exact br_f (by decide) (br_f (by decide) (br_f (by decide) h))
  · exact br_f (by decide) (br_f (by decide) (br_f (by decide) h))
  · exact br_f (by decide) (br_f (by decide) (br_f (by decide) h))
  · exact br_f (by decide) (br_f (by decide) (br_f (by decide) h))
  · exact br_f (by decide) (br_f (by decide) (br_f (by decide) h))
  · exact br_f (by decide) (br_t rfl h)
  · exact br_f (by decide) (br_f (by decide) (br_t rfl h))
  · exact br_f (by decide) (br_f (by decide) (br_f (by decide) h))
  · exact br_f (by decide) (br_f (by decide) (br_f (by decide) h))
  · exact br_f (by decide) (br_f (by decide) (br_f (by decide) h))
  · exact br_f (by decide) (br_f (by decide) (br_f (by decide) h))
  · exact br_f (by decide) (br_f (by decide) (br_f (by decide) h))
/-- one token: from the entries of i tokens to those of i + 1; G is what stands behind -/
theorem yy_tok (T : dp_Tr c o lv pr) (A : dp_Ab c o (fun r => lv (o r)) a_above) {k h : Nat} {F : Nat → Bool} {V : Nat → Nat → Int32} {a : Int32} (hk : dp_ok k a) (hf : dp_ft h F k) (h8 : h ≤ 8) (he : h - dp_tk k + 1 ≤ 8) (PI : ∀ e, e < h → dp_PI pr (F e) (V e)) (H : ∀ e, e < h → a_isPath e = dp_c (F e) ∧ ∀ x, x < 32 → R (32 * e + x) = V e x) {post : SY → Prop} (G : ∀ R' P' Z, dp_ag R R' (h - dp_tk k) → (∀ x, x < 32 → R' (32 * (h - dp_tk k) + x) = dp_op c o (fun r => lv (o r)) pr a_tags a_values k a (V (h - dp_tk k)) (V (h - dp_tk k + 1)) x) → P' (h - dp_tk k) = dp_c (dp_gp k) → (∀ j, j < h - dp_tk k → P' j = a_isPath j) → post ((nI c), (nI (h - dp_tk k + 1)), (fun j => nI (o j)), (dp_th pr), a_above, a_tags, a_values, a_held, a_twin, a_kinds, a_args, a_sizes, P', R', Z, a_isSet, a_alive, a_edited, a_watchNode, a_before)) : (dp_tk k = 0 → wpY_bare post ((nI c), (nI h), (fun j => nI (o j)), (dp_th pr), a_above, a_tags, a_values, a_held, a_twin, a_kinds, a_args, a_sizes, a_isPath, R, a_spare, a_isSet, a_alive, a_edited, a_watchNode, a_before) (nI k) a) ∧ (dp_tk k = 1 → wpY_one post ((nI c), (nI h), (fun j => nI (o j)), (dp_th pr), a_above, a_tags, a_values, a_held, a_twin, a_kinds, a_args, a_sizes, a_isPath, R, a_spare, a_isSet, a_alive, a_edited, a_watchNode, a_before) (nI k) a) ∧ (dp_tk k = 2 → wpY_two post ((nI c), (nI h), (fun j => nI (o j)), (dp_th pr), a_above, a_tags, a_values, a_held, a_twin, a_kinds, a_args, a_sizes, a_isPath, R, a_spare, a_isSet, a_alive, a_edited, a_watchNode, a_before) (nI k)) := by
  have ho := T.1.2.2.1
  have hc := T.1.1
  obtain ⟨k15, k7, k11⟩ := hk
  obtain ⟨f1, f2, f3⟩ := hf
  have no0 : ∀ {Q : Prop}, (0 : Nat) = 1 → Q := fun z => absurd z (by decide)
  rcases dp_cases k15 with rfl | rfl | rfl | rfl | rfl | rfl | rfl | rfl | rfl | rfl | rfl | rfl | rfl | rfl | rfl | rfl
  · refine ⟨fun _ => ?_, fun z => absurd z (by decide), fun z => absurd z (by decide)⟩
    exact yy_bare0 T A (show h < 8 from he) (fun R' ag H2 => G R' _ _ ag H2 pk_us (fun j hj => pk_un (Nat.ne_of_lt hj)))
  · refine ⟨fun z => absurd z (by decide), fun z => absurd z (by decide), fun _ => ?_⟩
    obtain ⟨e, rfl⟩ : ∃ e, h = e + 2 := ⟨h - 2, by have : 2 ≤ h := f1; omega⟩
    have F1 : F (e + 1) = true := f2 (by decide)
    have F2 : F e = true := f3 rfl
    have hp := (H e (by omega)).2
    have hq : ∀ y, y < 32 → R (32 * e + 32 + y) = V (e + 1) y := fun y hy => by rw [show 32 * e + 32 + y = 32 * (e + 1) + y from by omega]; exact (H (e + 1) (by omega)).2 y hy
    exact yy_two1 (by omega) hp hq (fun R' ag H2 => G R' _ _ ag H2 ((H e (by omega)).1.trans (by rw [F2]; rfl)) (fun _ _ => rfl))
  · refine ⟨fun z => absurd z (by decide), fun z => absurd z (by decide), fun _ => ?_⟩
    obtain ⟨e, rfl⟩ : ∃ e, h = e + 2 := ⟨h - 2, by have : 2 ≤ h := f1; omega⟩
    have F1 : F (e + 1) = true := f2 (by decide)
    have F2 : F e = true := f3 rfl
    have hp := (H e (by omega)).2
    have hq : ∀ y, y < 32 → R (32 * e + 32 + y) = V (e + 1) y := fun y hy => by rw [show 32 * e + 32 + y = 32 * (e + 1) + y from by omega]; exact (H (e + 1) (by omega)).2 y hy
    exact yy_two2 (by omega) hp hq (fun R' ag H2 => G R' _ _ ag H2 ((H e (by omega)).1.trans (by rw [F2]; rfl)) (fun _ _ => rfl))
  · refine ⟨fun z => absurd z (by decide), fun z => absurd z (by decide), fun _ => ?_⟩
    obtain ⟨e, rfl⟩ : ∃ e, h = e + 2 := ⟨h - 2, by have : 2 ≤ h := f1; omega⟩
    have F1 : F (e + 1) = true := f2 (by decide)
    have F2 : F e = true := f3 rfl
    have hp := (H e (by omega)).2
    have hq : ∀ y, y < 32 → R (32 * e + 32 + y) = V (e + 1) y := fun y hy => by rw [show 32 * e + 32 + y = 32 * (e + 1) + y from by omega]; exact (H (e + 1) (by omega)).2 y hy
    exact yy_two3 (by omega) hp hq (fun R' ag H2 => G R' _ _ ag H2 ((H e (by omega)).1.trans (by rw [F2]; rfl)) (fun _ _ => rfl))
  · refine ⟨fun z => absurd z (by decide), fun z => absurd z (by decide), fun _ => ?_⟩
    obtain ⟨e, rfl⟩ : ∃ e, h = e + 2 := ⟨h - 2, by have : 2 ≤ h := f1; omega⟩
    have F1 : F (e + 1) = true := f2 (by decide)
    have F2 : F e = true := f3 rfl
    have hp := (H e (by omega)).2
    have hq : ∀ y, y < 32 → R (32 * e + 32 + y) = V (e + 1) y := fun y hy => by rw [show 32 * e + 32 + y = 32 * (e + 1) + y from by omega]; exact (H (e + 1) (by omega)).2 y hy
    exact yy_two4 (by omega) hp hq (fun R' ag H2 => G R' _ _ ag H2 ((H e (by omega)).1.trans (by rw [F2]; rfl)) (fun _ _ => rfl))
  · refine ⟨fun z => absurd z (by decide), fun _ => ?_, fun z => absurd z (by decide)⟩
    obtain ⟨e, rfl⟩ : ∃ e, h = e + 1 := ⟨h - 1, by have : 1 ≤ h := f1; omega⟩
    have F1 : F e = true := f2 (by decide)
    have hp := (H e (by omega)).2
    have P1 := (PI e (by omega)).1 F1
    exact yy_one5 (by omega) hp (fun R' Z ag H2 => G R' _ Z ag H2 ((H e (by omega)).1.trans (by rw [F1]; rfl)) (fun _ _ => rfl))
  · refine ⟨fun z => absurd z (by decide), fun _ => ?_, fun z => absurd z (by decide)⟩
    obtain ⟨e, rfl⟩ : ∃ e, h = e + 1 := ⟨h - 1, by have : 1 ≤ h := f1; omega⟩
    have F1 : F e = true := f2 (by decide)
    have hp := (H e (by omega)).2
    have P1 := (PI e (by omega)).1 F1
    exact yy_one6 (by omega) hp P1 (fun R' ag H2 => G R' _ _ ag H2 ((H e (by omega)).1.trans (by rw [F1]; rfl)) (fun _ _ => rfl))
  · refine ⟨fun z => absurd z (by decide), fun _ => ?_, fun z => absurd z (by decide)⟩
    obtain ⟨e, rfl⟩ : ∃ e, h = e + 1 := ⟨h - 1, by have : 1 ≤ h := f1; omega⟩
    have F1 : F e = true := f2 (by decide)
    have hp := (H e (by omega)).2
    have P1 := (PI e (by omega)).1 F1
    exact yy_one7 ho hc (by omega) (k7 rfl) hp (fun R' ag H2 => G R' _ _ ag H2 ((H e (by omega)).1.trans (by rw [F1]; rfl)) (fun _ _ => rfl))
  · refine ⟨fun z => absurd z (by decide), fun z => absurd z (by decide), fun _ => ?_⟩
    obtain ⟨e, rfl⟩ : ∃ e, h = e + 2 := ⟨h - 2, by have : 2 ≤ h := f1; omega⟩
    have F1 : F (e + 1) = false := f2 (by decide)
    have F2 : F e = true := f3 rfl
    have hp := (H e (by omega)).2
    have hq : ∀ y, y < 32 → R (32 * e + 32 + y) = V (e + 1) y := fun y hy => by rw [show 32 * e + 32 + y = 32 * (e + 1) + y from by omega]; exact (H (e + 1) (by omega)).2 y hy
    exact yy_two8 (by omega) hp hq (fun R' ag H2 => G R' _ _ ag H2 ((H e (by omega)).1.trans (by rw [F2]; rfl)) (fun _ _ => rfl))
  · refine ⟨fun _ => ?_, fun z => absurd z (by decide), fun z => absurd z (by decide)⟩
    exact yy_bare9 T (show h < 8 from he) (fun R' ag H2 => G R' _ _ ag H2 pk_us (fun j hj => pk_un (Nat.ne_of_lt hj)))
  · refine ⟨fun _ => ?_, fun z => absurd z (by decide), fun z => absurd z (by decide)⟩
    exact yy_bare10 T (show h < 8 from he) (fun R' ag H2 => G R' _ _ ag H2 pk_us (fun j hj => pk_un (Nat.ne_of_lt hj)))
  · refine ⟨fun z => absurd z (by decide), fun _ => ?_, fun z => absurd z (by decide)⟩
    obtain ⟨e, rfl⟩ : ∃ e, h = e + 1 := ⟨h - 1, by have : 1 ≤ h := f1; omega⟩
    have F1 : F e = true := f2 (by decide)
    have hp := (H e (by omega)).2
    have P1 := (PI e (by omega)).1 F1
    exact yy_one11 (by omega) hp P1 (k11 rfl) (fun R' ag H2 => G R' _ _ ag H2 pk_us (fun j hj => pk_un (Nat.ne_of_lt hj)))
  · refine ⟨fun z => absurd z (by decide), fun _ => ?_, fun z => absurd z (by decide)⟩
    obtain ⟨e, rfl⟩ : ∃ e, h = e + 1 := ⟨h - 1, by have : 1 ≤ h := f1; omega⟩
    have F1 : F e = false := f2 (by decide)
    have hp := (H e (by omega)).2
    exact yy_one12 (p := V e) (by omega) (hp 0 (by omega)) (fun R' ag H2 => G R' _ _ ag H2 pk_us (fun j hj => pk_un (Nat.ne_of_lt hj)))
  · refine ⟨fun z => absurd z (by decide), fun z => absurd z (by decide), fun _ => ?_⟩
    obtain ⟨e, rfl⟩ : ∃ e, h = e + 2 := ⟨h - 2, by have : 2 ≤ h := f1; omega⟩
    have F1 : F (e + 1) = false := f2 (by decide)
    have F2 : F e = false := f3 rfl
    have hp := (H e (by omega)).2
    have hq : ∀ y, y < 32 → R (32 * e + 32 + y) = V (e + 1) y := fun y hy => by rw [show 32 * e + 32 + y = 32 * (e + 1) + y from by omega]; exact (H (e + 1) (by omega)).2 y hy
    exact yy_two13 (by omega) hp hq (fun R' ag H2 => G R' _ _ ag H2 ((H e (by omega)).1.trans (by rw [F2]; rfl)) (fun _ _ => rfl))
  · refine ⟨fun z => absurd z (by decide), fun z => absurd z (by decide), fun _ => ?_⟩
    obtain ⟨e, rfl⟩ : ∃ e, h = e + 2 := ⟨h - 2, by have : 2 ≤ h := f1; omega⟩
    have F1 : F (e + 1) = false := f2 (by decide)
    have F2 : F e = false := f3 rfl
    have hp := (H e (by omega)).2
    have hq : ∀ y, y < 32 → R (32 * e + 32 + y) = V (e + 1) y := fun y hy => by rw [show 32 * e + 32 + y = 32 * (e + 1) + y from by omega]; exact (H (e + 1) (by omega)).2 y hy
    exact yy_two14 (by omega) hp hq (fun R' ag H2 => G R' _ _ ag H2 ((H e (by omega)).1.trans (by rw [F2]; rfl)) (fun _ _ => rfl))
  · refine ⟨fun z => absurd z (by decide), fun z => absurd z (by decide), fun _ => ?_⟩
    obtain ⟨e, rfl⟩ : ∃ e, h = e + 2 := ⟨h - 2, by have : 2 ≤ h := f1; omega⟩
    have F1 : F (e + 1) = true := f2 (by decide)
    have F2 : F e = true := f3 rfl
    have hp := (H e (by omega)).2
    have hq : ∀ y, y < 32 → R (32 * e + 32 + y) = V (e + 1) y := fun y hy => by rw [show 32 * e + 32 + y = 32 * (e + 1) + y from by omega]; exact (H (e + 1) (by omega)).2 y hy
    exact yy_two15 (by omega) hp hq (fun R' ag H2 => G R' _ _ ag H2 pk_us (fun j hj => pk_un (Nat.ne_of_lt hj)))
theorem yy_work_l (T : dp_Tr c o lv pr) (A : dp_Ab c o (fun r => lv (o r)) a_above) {w n : Nat} {kn : Nat → Nat} {an : Nat → Int32} (hw : w < 4) (hn : n ≤ 24) (W : dp_WT kn an n) (hs : a_sizes w = nI n) (hK : ∀ i, i < n → a_kinds (24 * w + i) = nI (kn i) ∧ a_args (24 * w + i) = an i) {post : SY → Prop} (h : ∀ R' P' Z, dp_YR c o (fun r => lv (o r)) pr a_tags a_values kn an n R' P' → post ((nI c), (nI (dp_ty kn n).1), (fun j => nI (o j)), (dp_th pr), a_above, a_tags, a_values, a_held, a_twin, a_kinds, a_args, a_sizes, P', R', Z, a_isSet, a_alive, a_edited, a_watchNode, a_before)) : ∀ d i R' P' Z, i + d = n → dp_YR c o (fun r => lv (o r)) pr a_tags a_values kn an i R' P' → wY_work_7 post (nI w) (d + 1) (nI i) (nI c) (nI (dp_ty kn i).1) (fun j => nI (o j)) (dp_th pr) a_above a_tags a_values a_held a_twin a_kinds a_args a_sizes P' R' Z a_isSet a_alive a_edited a_watchNode a_before := by
  have ho := T.1.2.2.1
  have vw : vp_in (nI w) 4 := vp_in_nI hw (by decide)
  have cw : (nI w).toNatClampNeg = w := nI_clamp (by omega)
  intro d
  induction d with
  | zero =>
    intro i R' P' Z hi H
    obtain rfl : i = n := by omega
    refine ⟨vw, ?_⟩
    rw [cw, hs]
    exact br_t (nI_le (Nat.le_refl _) (by omega)) (h R' P' Z H)
  | succ d ih =>
    intro i R' P' Z hi H
    obtain ⟨w1, w2, w3⟩ := W i (by omega)
    have h8 := dp_h8 W (show i ≤ n by omega)
    have PI := dp_vl_PI (l := fun r => lv (o r)) (tg := a_tags) (vs := a_values) ho T.2.1 W i (by omega)
    have v96 : vp_in (nI (24 * w + i)) 96 := vp_in_nI (by omega) (by decide)
    have cl : (nI (24 * w + i)).toNatClampNeg = 24 * w + i := nI_clamp (by omega)
    have tk2 : dp_tk (kn i) ≤ 2 := by
      unfold dp_tk
      split
      · omega
      · split <;> omega
    have tok := fun (post : SY → Prop) G => yy_tok (a_tags := a_tags) (a_values := a_values) (a_held := a_held) (a_twin := a_twin) (a_kinds := a_kinds) (a_args := a_args) (a_sizes := a_sizes) (a_spare := Z) (a_isSet := a_isSet) (a_alive := a_alive) (a_edited := a_edited) (a_watchNode := a_watchNode) (a_before := a_before) (post := post) T A w1 w2 h8 w3 PI H G
    refine ⟨vw, ?_⟩
    rw [cw, hs]
    refine br_f (nI_ge (by omega) (by omega)) ?_
    simp only [dp_24m, nI_add, cl, (hK i (by omega)).1, (hK i (by omega)).2]
    refine ⟨v96, nm_e ⟨v96, nm_e (yy_isBare w1.1 ?_)⟩⟩
    have next : ∀ R2 P2 Z2, dp_ag R' R2 ((dp_ty kn i).1 - dp_tk (kn i)) → (∀ x, x < 32 → R2 (32 * ((dp_ty kn i).1 - dp_tk (kn i)) + x) = dp_op c o (fun r => lv (o r)) pr a_tags a_values (kn i) (an i) (dp_vl c o (fun r => lv (o r)) pr a_tags a_values kn an i ((dp_ty kn i).1 - dp_tk (kn i))) (dp_vl c o (fun r => lv (o r)) pr a_tags a_values kn an i ((dp_ty kn i).1 - dp_tk (kn i) + 1)) x) → P2 ((dp_ty kn i).1 - dp_tk (kn i)) = dp_c (dp_gp (kn i)) → (∀ j, j < (dp_ty kn i).1 - dp_tk (kn i) → P2 j = P' j) → ∀ y, y = nI i + 1 → wY_work_7 post (nI w) (d + 1) y (nI c) (nI ((dp_ty kn i).1 - dp_tk (kn i) + 1)) (fun j => nI (o j)) (dp_th pr) a_above a_tags a_values a_held a_twin a_kinds a_args a_sizes P2 R2 Z2 a_isSet a_alive a_edited a_watchNode a_before := fun R2 P2 Z2 g1 g2 g3 g4 y ey => by
      rw [ey, nI_1]
      exact ih (i + 1) R2 P2 Z2 (by omega) (dp_YR_step rfl H g1 g2 g3 g4)
    rcases dp_cases w1.1 with z | z | z | z | z | z | z | z | z | z | z | z | z | z | z | z
    · have t := tok
      rw [z] at next t ⊢
      exact br_f (by decide) ((t _ next).1 rfl)
    · have t := tok
      rw [z] at next t ⊢
      exact br_t rfl (br_f (by decide) (br_f (by decide) (br_f (by decide) (br_f (by decide) (br_f (by decide) ((t _ next).2.2 rfl))))))
    · have t := tok
      rw [z] at next t ⊢
      exact br_t rfl (br_f (by decide) (br_f (by decide) (br_f (by decide) (br_f (by decide) (br_f (by decide) ((t _ next).2.2 rfl))))))
    · have t := tok
      rw [z] at next t ⊢
      exact br_t rfl (br_f (by decide) (br_f (by decide) (br_f (by decide) (br_f (by decide) (br_f (by decide) ((t _ next).2.2 rfl))))))
    · have t := tok
      rw [z] at next t ⊢
      exact br_t rfl (br_f (by decide) (br_f (by decide) (br_f (by decide) (br_f (by decide) (br_f (by decide) ((t _ next).2.2 rfl))))))
    · have t := tok
      rw [z] at next t ⊢
      exact br_t rfl (br_t rfl ((t _ next).2.1 rfl))
    · have t := tok
      rw [z] at next t ⊢
      exact br_t rfl (br_f (by decide) (br_t rfl ((t _ next).2.1 rfl)))
    · have t := tok
      rw [z] at next t ⊢
      exact br_t rfl (br_f (by decide) (br_f (by decide) (br_t rfl ((t _ next).2.1 rfl))))
    · have t := tok
      rw [z] at next t ⊢
      exact br_t rfl (br_f (by decide) (br_f (by decide) (br_f (by decide) (br_f (by decide) (br_f (by decide) ((t _ next).2.2 rfl))))))
    · have t := tok
      rw [z] at next t ⊢
      exact br_f (by decide) ((t _ next).1 rfl)
    · have t := tok
      rw [z] at next t ⊢
      exact br_f (by decide) ((t _ next).1 rfl)
    · have t := tok
      rw [z] at next t ⊢
      exact br_t rfl (br_f (by decide) (br_f (by decide) (br_f (by decide) (br_t rfl ((t _ next).2.1 rfl)))))
    · have t := tok
      rw [z] at next t ⊢
      exact br_t rfl (br_f (by decide) (br_f (by decide) (br_f (by decide) (br_f (by decide) (br_t rfl ((t _ next).2.1 rfl))))))
    · have t := tok
      rw [z] at next t ⊢
      exact br_t rfl (br_f (by decide) (br_f (by decide) (br_f (by decide) (br_f (by decide) (br_f (by decide) ((t _ next).2.2 rfl))))))
    · have t := tok
      rw [z] at next t ⊢
      exact br_t rfl (br_f (by decide) (br_f (by decide) (br_f (by decide) (br_f (by decide) (br_f (by decide) ((t _ next).2.2 rfl))))))
    · have t := tok
      rw [z] at next t ⊢
      exact br_t rfl (br_f (by decide) (br_f (by decide) (br_f (by decide) (br_f (by decide) (br_f (by decide) ((t _ next).2.2 rfl))))))
theorem yy_work (T : dp_Tr c o lv pr) (A : dp_Ab c o (fun r => lv (o r)) a_above) {w n : Nat} {kn : Nat → Nat} {an : Nat → Int32} (hw : w < 4) (hn : n ≤ 24) (W : dp_WT kn an n) (hs : a_sizes w = nI n) (hK : ∀ i, i < n → a_kinds (24 * w + i) = nI (kn i) ∧ a_args (24 * w + i) = an i) {post : SY → Prop} (h : ∀ R' P' Z, dp_YR c o (fun r => lv (o r)) pr a_tags a_values kn an n R' P' → post ((nI c), (nI (dp_ty kn n).1), (fun j => nI (o j)), (dp_th pr), a_above, a_tags, a_values, a_held, a_twin, a_kinds, a_args, a_sizes, P', R', Z, a_isSet, a_alive, a_edited, a_watchNode, a_before)) : wpY_work post ((nI c), f_height, (fun j => nI (o j)), (dp_th pr), a_above, a_tags, a_values, a_held, a_twin, a_kinds, a_args, a_sizes, a_isPath, a_rows, a_spare, a_isSet, a_alive, a_edited, a_watchNode, a_before) (nI w) :=
  ⟨n + 1, yy_work_l T A hw hn W hs hK h n 0 _ _ _ (Nat.zero_add n) (fun e he => absurd he (Nat.not_lt_zero e))⟩
end YW
