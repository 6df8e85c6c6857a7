/-! a new object -/
section NX
variable {f_size f_present f_height : Int32} {a_order a_levels a_tags a_values a_ranks a_ends a_parents a_run a_kinds a_numbers a_lengths a_entryIsPath a_rows a_members a_wasSet a_watchNode a_selects a_selectedBefore : Nat → Int32}
theorem xx_init_l (T : dp_Tc 1 (fun _ => 0) (fun _ => 0)) {post : SX → Prop} (h : ∀ w' ra en pa : Nat → Int32, (∀ s, s < 3 → w' s = -1) → dp_TX 1 (fun _ => 0) (fun _ => 0) ra en pa → post ((nI 1), f_present, f_height, (fun _ => nI 0), (fun _ => nI 0), a_tags, a_values, ra, en, pa, a_run, a_kinds, a_numbers, a_lengths, a_entryIsPath, a_rows, a_members, a_wasSet, w', a_selects, a_selectedBefore)) : ∀ d i (w' : Nat → Int32), i + d = 3 → (∀ s, s < i → w' s = -1) → wX_init_163 post (nI 1) f_present f_height (d + 1) (nI i) (fun _ => nI 0) (fun _ => nI 0) a_tags a_values a_ranks a_ends a_parents a_run a_kinds a_numbers a_lengths a_entryIsPath a_rows a_members a_wasSet w' a_selects a_selectedBefore := by
  intro d
  induction d with
  | zero =>
    intro i w' hi H
    obtain rfl : i = 3 := by omega
    exact br_t dp_le3 (xx_indexTree (c := 1) (o := fun _ => 0) (lv := fun _ => 0) T (fun ra en pa X => h w' ra en pa H X))
  | succ d ih =>
    intro i w' hi H
    refine br_f (dp_ge3 (by omega)) ⟨dp_v3 (by omega), ?_⟩
    rw [nI_clamp (show i < 2 ^ 31 by omega)]
    refine nm_e (nm_r (nI_1 i) (ih (i + 1) _ (by omega) (fun s hs => ?_)))
    by_cases y : s = i
    · subst y; exact pk_us
    · rw [pk_un y]; exact H s (by omega)
end NX
theorem dp_T0 : dp_Tr 1 (fun _ => 0) (fun _ => 0) 1 := by
  refine ⟨⟨by decide, rfl, fun _ => show 0 < 32 by decide, fun r s hr hs _ => by omega, ⟨by decide, rfl, fun r h0 hr => by omega⟩⟩, fun n => ?_, by decide +kernel⟩
  constructor
  · intro z
    have hn := dp_bt_lt z
    rw [dp_bt1 n hn, decide_eq_true_iff] at z
    exact ⟨0, by decide, z.symm⟩
  · rintro ⟨r, hr, e⟩
    rw [← e, dp_bt1 0 (by decide)]; rfl
theorem dp_th0 : upd (fun _ => 0) 0 (vp_nar .boolean 1) = dp_th 1 := by
  funext j
  show (if j = 0 then 1 else 0) = dp_c (bt 1 j)
  by_cases z : j = 0
  · rw [if_pos z, z, dp_bt1 0 (by decide)]; rfl
  · rw [if_neg z]
    rcases Nat.lt_or_ge j 32 with y | y
    · rw [dp_bt1 j y, decide_eq_false z]; rfl
    · rw [b_big y]; rfl
theorem dp_or0 : upd (fun _ => (0 : Int32)) 0 0 = fun _ => nI 0 := by
  funext j
  show (if j = 0 then (0 : Int32) else 0) = nI 0
  split <;> rfl
theorem dp_wt0 (kn : Nat → Nat) (an : Nat → Int32) : dp_WT kn an 0 := fun i hi => absurd hi (Nat.not_lt_zero i)
theorem i_vc0 : wpX_init (fun u => wpY_init (fun v => i_Rel 0 u v)) := by
  unfold wpX_init
  refine nm_r dp_or0 ⟨4, xx_init_l dp_T0.1 (fun w' ra en pa H X => ?_) 3 0 _ rfl (fun s hs => absurd hs (Nat.not_lt_zero s))⟩
  unfold wpY_init
  refine nm_r dp_th0 (nm_e ?_)
  refine dp_rel (c := 1) (o := fun _ => 0) (lv := fun _ => 0) (K := fun _ => 0) (N := fun _ => 0) ⟨dp_T0, fun _ => show (0 : Int32) ≤ 99 by decide, X, fun r hr => ?_, fun w hw => ⟨Nat.zero_le _, dp_wt0 _ _, rfl, fun i hi => absurd hi (Nat.not_lt_zero i)⟩, ⟨rfl, fun e he => absurd he (Nat.not_lt_zero e)⟩, fun s hs => ⟨Or.inl rfl, Or.inl rfl, Or.inl ⟨rfl, H s hs, rfl⟩, fun q => absurd q.1 (show ¬ (0 : Int32) = 1 by decide), fun _ => rfl⟩⟩
  obtain rfl : r = 0 := by omega
  rfl
