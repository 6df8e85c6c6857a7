/-! how the two sides hold the entries -/
def dp_ag (R R' : Nat → Int32) (e : Nat) : Prop := ∀ j, j < 32 * e ∨ 32 * e + 32 ≤ j → R' j = R j
section SR
variable {c : Nat} {o l : Nat → Nat} {pr : Int32} {tg vs : Nat → Int32} {kn : Nat → Nat} {an : Nat → Int32} {i e : Nat}
def dp_XR (c : Nat) (o l : Nat → Nat) (pr : Int32) (tg vs : Nat → Int32) (kn : Nat → Nat) (an : Nat → Int32) (i : Nat) (rows mem : Nat → Int32) : Prop := ∀ e, e < (dp_ty kn i).1 → ((dp_ty kn i).2 e = true → ∀ x, x < 32 → rows (32 * e + x) = dp_vl c o l pr tg vs kn an i e x) ∧ ((dp_ty kn i).2 e = false → mem e = dp_vl c o l pr tg vs kn an i e 0)
def dp_YR (c : Nat) (o l : Nat → Nat) (pr : Int32) (tg vs : Nat → Int32) (kn : Nat → Nat) (an : Nat → Int32) (i : Nat) (rows isP : Nat → Int32) : Prop := ∀ e, e < (dp_ty kn i).1 → isP e = dp_c ((dp_ty kn i).2 e) ∧ ∀ x, x < 32 → rows (32 * e + x) = dp_vl c o l pr tg vs kn an i e x
theorem dp_ty_h (kn : Nat → Nat) (i : Nat) : (dp_ty kn (i + 1)).1 = (dp_ty kn i).1 - dp_tk (kn i) + 1 := rfl
theorem dp_ty_at (he : (dp_ty kn i).1 - dp_tk (kn i) = e) : (dp_ty kn (i + 1)).2 e = dp_gp (kn i) := if_pos he.symm
theorem dp_ty_ne (he : (dp_ty kn i).1 - dp_tk (kn i) = e) {j : Nat} (h : j ≠ e) : (dp_ty kn (i + 1)).2 j = (dp_ty kn i).2 j := if_neg (by rw [he]; exact h)
theorem dp_vl_at (he : (dp_ty kn i).1 - dp_tk (kn i) = e) : dp_vl c o l pr tg vs kn an (i + 1) e = dp_op c o l pr tg vs (kn i) (an i) (dp_vl c o l pr tg vs kn an i e) (dp_vl c o l pr tg vs kn an i (e + 1)) := by
  subst he
  exact if_pos rfl
theorem dp_vl_ne (he : (dp_ty kn i).1 - dp_tk (kn i) = e) {j : Nat} (h : j ≠ e) : dp_vl c o l pr tg vs kn an (i + 1) j = dp_vl c o l pr tg vs kn an i j := if_neg (by rw [he]; exact h)
theorem dp_XR_path {rows rows' mem : Nat → Int32} (he : (dp_ty kn i).1 - dp_tk (kn i) = e) (hg : dp_gp (kn i) = true) (H : dp_XR c o l pr tg vs kn an i rows mem) (ag : dp_ag rows rows' e) (hr : ∀ x, x < 32 → rows' (32 * e + x) = dp_op c o l pr tg vs (kn i) (an i) (dp_vl c o l pr tg vs kn an i e) (dp_vl c o l pr tg vs kn an i (e + 1)) x) : dp_XR c o l pr tg vs kn an (i + 1) rows' mem := by
  intro j hj
  rw [dp_ty_h, he] at hj
  by_cases z : j = e
  · subst z
    rw [dp_ty_at he, dp_vl_at he, hg]
    exact ⟨fun _ => hr, fun h => by cases h⟩
  · rw [dp_ty_ne he z, dp_vl_ne he z]
    obtain ⟨h1, h2⟩ := H j (by omega)
    exact ⟨fun h x hx => by rw [ag _ (Or.inl (by omega))]; exact h1 h x hx, h2⟩
theorem dp_XR_cond {rows mem : Nat → Int32} {s : Int32} (he : (dp_ty kn i).1 - dp_tk (kn i) = e) (hg : dp_gp (kn i) = false) (H : dp_XR c o l pr tg vs kn an i rows mem) (hs : s = dp_op c o l pr tg vs (kn i) (an i) (dp_vl c o l pr tg vs kn an i e) (dp_vl c o l pr tg vs kn an i (e + 1)) 0) : dp_XR c o l pr tg vs kn an (i + 1) rows (upd mem e s) := by
  intro j hj
  rw [dp_ty_h, he] at hj
  by_cases z : j = e
  · subst z
    rw [dp_ty_at he, dp_vl_at he, hg]
    exact ⟨fun h => by cases h, fun _ => by rw [pk_us]; exact hs⟩
  · rw [dp_ty_ne he z, dp_vl_ne he z]
    obtain ⟨h1, h2⟩ := H j (by omega)
    exact ⟨h1, fun h => by rw [pk_un z]; exact h2 h⟩
theorem dp_YR_step {rows rows' isP isP' : Nat → Int32} (he : (dp_ty kn i).1 - dp_tk (kn i) = e) (H : dp_YR c o l pr tg vs kn an i rows isP) (ag : dp_ag rows rows' e) (hr : ∀ x, x < 32 → rows' (32 * e + x) = dp_op c o l pr tg vs (kn i) (an i) (dp_vl c o l pr tg vs kn an i e) (dp_vl c o l pr tg vs kn an i (e + 1)) x) (hi : isP' e = dp_c (dp_gp (kn i))) (hn : ∀ j, j < e → isP' j = isP j) : dp_YR c o l pr tg vs kn an (i + 1) rows' isP' := by
  intro j hj
  rw [dp_ty_h, he] at hj
  by_cases z : j = e
  · subst z
    rw [dp_ty_at he, dp_vl_at he]
    exact ⟨hi, hr⟩
  · rw [dp_ty_ne he z, dp_vl_ne he z]
    obtain ⟨h1, h2⟩ := H j (by omega)
    exact ⟨by rw [hn j (by omega)]; exact h1, fun x hx => by rw [ag _ (Or.inl (by omega))]; exact h2 x hx⟩
end SR
theorem dp_op_congr {c : Nat} {o l : Nat → Nat} {pr a : Int32} {tg vs : Nat → Int32} {k : Nat} {p p' q q' : Nat → Int32} (hp : ∀ x, x < 32 → p x = p' x) (hq : ∀ x, x < 32 → q x = q' x) : ∀ x, x < 32 → dp_op c o l pr tg vs k a p q x = dp_op c o l pr tg vs k a p' q' x := by
  intro x hx
  unfold dp_op
  split; · rfl
  split
  · show dp_jn (p x) q 32 = dp_jn (p' x) q' 32
    rw [hp x hx]; exact dp_jn_congr hq
  split
  · show p x ||| q x = p' x ||| q' x
    rw [hp x hx, hq x hx]
  split
  · show p x &&& q x = p' x &&& q' x
    rw [hp x hx, hq x hx]
  split
  · show p x &&& (q x ^^^ (-1)) = p' x &&& (q' x ^^^ (-1))
    rw [hp x hx, hq x hx]
  split
  · exact dp_mk_congr fun y hy => by rw [hp y hy]
  split
  · show dp_wr p 32 x ||| _ = dp_wr p' 32 x ||| _
    rw [dp_wr_congr hp 32 (Nat.le_refl _) x hx]
  split
  · show dp_nt c o a (p x) = dp_nt c o a (p' x)
    rw [hp x hx]
  split
  · show p x &&& q 0 = p' x &&& q' 0
    rw [hp x hx, hq 0 (by omega)]
  split; · rfl
  split; · rfl
  split
  · exact congrArg (fun s => dp_c0 s x) (dp_mk_congr fun y hy => by rw [hp y hy])
  split
  · rw [hp 0 (by omega)]
  split
  · show p x &&& q x = p' x &&& q' x
    rw [hp x hx, hq x hx]
  split
  · show p x ||| q x = p' x ||| q' x
    rw [hp x hx, hq x hx]
  · exact congrArg (fun s => dp_c0 s x) (dp_mk_congr fun y hy => by rw [hp y hy, hq y hy])
