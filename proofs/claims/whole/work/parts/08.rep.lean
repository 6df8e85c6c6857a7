/-! how the two sides hold the entries -/
def dp_ag (R R' : Nat → Int32) (e : Nat) : Prop := ∀ j, j < 32 * e ∨ 32 * e + 32 ≤ j → R' j = R j
section SR
variable {c : Nat} {o l : Nat → Nat} {pr : Int32} {tg vs : Nat → Int32} {kn : Nat → Nat} {an : Nat → Int32} {i e : Nat}
def dp_XR (c : Nat) (o l : Nat → Nat) (pr : Int32) (tg vs : Nat → Int32) (kn : Nat → Nat) (an : Nat → Int32) (i : Nat) (rows mem : Nat → Int32) : Prop := ∀ e, e < (dp_ty kn i).1 → ((dp_ty kn i).2 e = true → ∀ x, x < 32 → rows (32 * e + x) = dp_vl c o l pr tg vs kn an i e x) ∧ ((dp_ty kn i).2 e = false → mem e = dp_vl c o l pr tg vs kn an i e 0)
def dp_YR (c : Nat) (o l : Nat → Nat) (pr : Int32) (tg vs : Nat → Int32) (kn : Nat → Nat) (an : Nat → Int32) (i : Nat) (rows isP : Nat → Int32) : Prop := ∀ e, e < (dp_ty kn i).1 → isP e = dp_c ((dp_ty kn i).2 e) ∧ ∀ x, x < 32 → rows (32 * e + x) = dp_vl c o l pr tg vs kn an i e x
theorem dp_ty_h (kn : Nat → Nat) (i : Nat) : (dp_ty kn (i + 1)).1 = (dp_ty kn i).1 - dp_tk (kn i) + 1 := rfl
theorem dp_ty_at (he : (dp_ty kn i).1 - dp_tk (kn i) = e) : (dp_ty kn (i + 1)).2 e = dp_gp (kn i) := if_pos he.symm
theorem dp_ty_ne (he : (dp_ty kn i).1 - dp_tk (kn i) = e) {j : Nat} (h : j ≠ e) : (dp_ty kn (i + 1)).2 j = (dp_ty kn i).2 j := if_neg (by rw [he]; exact h)
theorem dp_vl_at (he : (dp_ty kn i).1 - dp_tk (kn i) = e) : dp_vl c o l pr tg vs kn an (i + 1) e = dp_op c o l pr tg vs (kn i) (an i) (dp_vl c o l pr tg vs kn an i e) (dp_vl c o l pr tg vs kn an i (e + 1)) := by
  subst he
  exact if_pos rfl
theorem dp_vl_ne (he : (dp_ty kn i).1 - dp_tk (kn i) = e) {j : Nat} (h : j ≠ e) : dp_vl c o l pr tg vs kn an (i + 1) j = dp_vl c o l pr tg vs kn an i j := if_neg (by rw [he]; exact h)
theorem dp_XR_path {rows rows' mem : Nat → Int32} (he : (dp_ty kn i).1 - dp_tk (kn i) = e) (hg : dp_gp (kn i) = true) (H : dp_XR c o l pr tg vs kn an i rows mem) (ag : dp_ag rows rows' e) (hr : ∀ x, x < 32 → rows' (32 * e + x) = dp_op c o l pr tg vs (kn i) (an i) (dp_vl c o l pr tg vs kn an i e) (dp_vl c o l pr tg vs kn an i (e + 1)) x) : dp_XR c o l pr tg vs kn an (i + 1) rows' mem := by
  intro j hj
  rw [dp_ty_h, he] at hj
  by_cases z : j = e
  · subst z
    rw [dp_ty_at he, dp_vl_at he, hg]
    exact ⟨fun _ => hr, fun h => by cases h⟩
  · rw [dp_ty_ne he z, dp_vl_ne he z]
    obtain ⟨h1, h2⟩ := H j (by omega)
    exact ⟨fun h x hx => by rw [ag _ (Or.inl (by omega))]; exact h1 h x hx, h2⟩
theorem dp_XR_cond {rows mem : Nat → Int32} {s : Int32} (he : (dp_ty kn i).1 - dp_tk (kn i) = e) (hg : dp_gp (kn i) = false) (H : dp_XR c o l pr tg vs kn an i rows mem) (hs : s = dp_op c o l pr tg vs (kn i) (an i) (dp_vl c o l pr tg vs kn an i e) (dp_vl c o l pr tg vs kn an i (e + 1)) 0) : dp_XR c o l pr tg vs kn an (i + 1) rows (upd mem e s) := by
  intro j hj
  rw [dp_ty_h, he] at hj
  by_cases z : j = e
  · subst z
    rw [dp_ty_at he, dp_vl_at he, hg]
    exact ⟨fun h => (by cases h), fun _ => by rw [pk_us]; exact hs⟩
  · rw [dp_ty_ne he z, dp_vl_ne he z]
    obtain ⟨h1, h2⟩ := H j (by omega)
    exact ⟨h1, fun h => by rw [pk_un z]; exact h2 h⟩
theorem dp_YR_step {rows rows' isP isP' : Nat → Int32} (he : (dp_ty kn i).1 - dp_tk (kn i) = e) (H : dp_YR c o l pr tg vs kn an i rows isP) (ag : dp_ag rows rows' e) (hr : ∀ x, x < 32 → rows' (32 * e + x) = dp_op c o l pr tg vs (kn i) (an i) (dp_vl c o l pr tg vs kn an i e) (dp_vl c o l pr tg vs kn an i (e + 1)) x) (hi : isP' e = dp_c (dp_gp (kn i))) (hn : ∀ j, j < e → isP' j = isP j) : dp_YR c o l pr tg vs kn an (i + 1) rows' isP' := by
  intro j hj
  rw [dp_ty_h, he] at hj
  by_cases z : j = e
  · subst z
    rw [dp_ty_at he, dp_vl_at he]
    exact ⟨hi, hr⟩
  · rw [dp_ty_ne he z, dp_vl_ne he z]
    obtain ⟨h1, h2⟩ := H j (by omega)
    exact ⟨by rw [hn j (by omega)]; exact h1, fun x hx => by rw [ag _ (Or.inl (by omega))]; exact h2 x hx⟩
end SR
/-! one entry's rows while they are made anew -/
def dp_In (R : Nat → Int32) (e : Nat) (F : Nat → Int32) (R' : Nat → Int32) : Prop := dp_ag R R' e ∧ ∀ a, a < 32 → R' (32 * e + a) = F a
def dp_mx (x : Nat) (f p : Nat → Int32) : Nat → Int32 := fun a => if a < x then f a else p a
theorem dp_mx_lo {x a : Nat} {f p : Nat → Int32} (h : a < x) : dp_mx x f p a = f a := if_pos h
theorem dp_mx_hi {x a : Nat} {f p : Nat → Int32} (h : x ≤ a) : dp_mx x f p a = p a := if_neg (by omega)
theorem dp_ag_upd {R R' : Nat → Int32} {e y : Nat} {v : Int32} (h : dp_ag R R' e) (hy : y < 32) : dp_ag R (upd R' (32 * e + y) v) e := fun j hj => by rw [pk_un (by omega)]; exact h j hj
theorem dp_In_upd {R R' F F' : Nat → Int32} {e y : Nat} {v : Int32} (h : dp_In R e F R') (hy : y < 32) (hv : F' y = v) (hn : ∀ a, a < 32 → a ≠ y → F' a = F a) : dp_In R e F' (upd R' (32 * e + y) v) := ⟨dp_ag_upd h.1 hy, fun a ha => by
  by_cases z : a = y
  · subst z; rw [pk_us, hv]
  · rw [pk_un (by omega), h.2 a ha, hn a ha z]⟩
theorem dp_In_0 {R p f : Nat → Int32} {e : Nat} (h : ∀ a, a < 32 → R (32 * e + a) = p a) : dp_In R e (dp_mx 0 f p) R := ⟨fun _ _ => rfl, fun a ha => by rw [dp_mx_hi (Nat.zero_le _)]; exact h a ha⟩
theorem dp_In_s {R R' f p : Nat → Int32} {e x : Nat} {v : Int32} (h : dp_In R e (dp_mx x f p) R') (hx : x < 32) (hv : v = f x) : dp_In R e (dp_mx (x + 1) f p) (upd R' (32 * e + x) v) := dp_In_upd h hx (by rw [dp_mx_lo (by omega), hv]) (fun a _ hn => by
  rcases Nat.lt_or_ge a x with z | z
  · rw [dp_mx_lo z, dp_mx_lo (by omega)]
  · rw [dp_mx_hi z, dp_mx_hi (by omega)])
theorem dp_In_k {R R' f p : Nat → Int32} {e x : Nat} (h : dp_In R e (dp_mx x f p) R') (hv : p x = f x) : dp_In R e (dp_mx (x + 1) f p) R' := ⟨h.1, fun a ha => by
  rw [h.2 a ha]
  rcases Nat.lt_trichotomy a x with z | z | z
  · rw [dp_mx_lo z, dp_mx_lo (by omega)]
  · subst z; rw [dp_mx_hi (Nat.le_refl _), dp_mx_lo (by omega), hv]
  · rw [dp_mx_hi (by omega), dp_mx_hi (by omega)]⟩
theorem dp_In_32 {R R' f p : Nat → Int32} {e : Nat} (h : dp_In R e (dp_mx 32 f p) R') : dp_ag R R' e ∧ ∀ a, a < 32 → R' (32 * e + a) = f a := ⟨h.1, fun a ha => by rw [h.2 a ha, dp_mx_lo ha]⟩
theorem dp_In_nx {R R' F : Nat → Int32} {e a : Nat} (h : dp_In R e F R') : R' (32 * e + 32 + a) = R (32 * e + 32 + a) := h.1 _ (Or.inr (by omega))
theorem dp_ag_trans {R R' R'' : Nat → Int32} {e : Nat} (h : dp_ag R R' e) (g : dp_ag R' R'' e) : dp_ag R R'' e := fun j hj => (g j hj).trans (h j hj)
/-! indices -/
theorem dp_m32 (e : Nat) : nI e * 32 = nI (32 * e) := (pk_mul e 32).trans (by rw [Nat.mul_comm])
theorem dp_32m (e : Nat) : (32 : Int32) * nI e = nI (32 * e) := pk_mul 32 e
theorem dp_24m (e : Nat) : (24 : Int32) * nI e = nI (24 * e) := pk_mul 24 e
theorem dp_m24 (e : Nat) : nI e * 24 = nI (24 * e) := (pk_mul e 24).trans (by rw [Nat.mul_comm])
