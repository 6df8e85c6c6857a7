/-! the entries of a token program, as rows of bits -/
def dp_ax (l : Nat → Nat) (c : Nat) (a : Int32) (i j : Nat) : Bool :=
  if a = 0 then decide (j = i) else if a = 1 then decide (0 < j ∧ dp_pa l j = i) else if a = 2 then decide (0 < i ∧ dp_pa l i = j)
  else if a = 3 then decide (i < j ∧ j < dp_en l c i) else if a = 4 then decide (j < i ∧ i < dp_en l c j)
  else if a = 5 then decide (i < j ∧ 0 < i ∧ 0 < j ∧ dp_pa l i = dp_pa l j) else if a = 6 then decide (j < i ∧ 0 < i ∧ 0 < j ∧ dp_pa l i = dp_pa l j)
  else if a = 7 then decide (dp_en l c i ≤ j) else decide (dp_en l c j ≤ i)
def dp_c0 (s : Int32) : Nat → Int32 := fun x => if x = 0 then s else 0
theorem dp_c0_0 (s : Int32) : dp_c0 s 0 = s := if_pos rfl
theorem dp_c0_n {s : Int32} {x : Nat} (h : 0 < x) : dp_c0 s x = 0 := if_neg (by omega)
def dp_jn (w : Int32) (q : Nat → Int32) : Nat → Int32
  | 0 => 0
  | y + 1 => if bt w y = true then dp_jn w q y ||| q y else dp_jn w q y
theorem dp_jn_t {w : Int32} {q : Nat → Int32} {y : Nat} (h : bt w y = true) : dp_jn w q (y + 1) = dp_jn w q y ||| q y := if_pos h
theorem dp_jn_f {w : Int32} {q : Nat → Int32} {y : Nat} (h : ¬ bt w y = true) : dp_jn w q (y + 1) = dp_jn w q y := if_neg h
theorem dp_jn_bt {w : Int32} {q : Nat → Int32} {i : Nat} : ∀ {n : Nat}, bt (dp_jn w q n) i = true → ∃ z, z < n ∧ bt w z = true ∧ bt (q z) i = true
  | 0, h => by
    have : bt 0 i = true := h
    rw [b_0] at this; cases this
  | n + 1, h => by
    by_cases e : bt w n = true
    · rw [dp_jn_t e, b_or, Bool.or_eq_true] at h
      rcases h with h | h
      · obtain ⟨z, h1, h2⟩ := dp_jn_bt h
        exact ⟨z, by omega, h2⟩
      · exact ⟨n, by omega, e, h⟩
    · rw [dp_jn_f e] at h
      obtain ⟨z, h1, h2⟩ := dp_jn_bt h
      exact ⟨z, by omega, h2⟩
theorem dp_jn_congr {w : Int32} {q q' : Nat → Int32} : ∀ {n : Nat}, (∀ y, y < n → q y = q' y) → dp_jn w q n = dp_jn w q' n
  | 0, _ => rfl
  | n + 1, h => by
    have e := dp_jn_congr (w := w) (n := n) (fun y hy => h y (by omega))
    show (if bt w n = true then dp_jn w q n ||| q n else dp_jn w q n) = (if bt w n = true then dp_jn w q' n ||| q' n else dp_jn w q' n)
    rw [e, h n (by omega)]
def dp_wr (p : Nat → Int32) : Nat → Nat → Int32
  | 0 => p
  | k + 1 => fun a => if bt (dp_wr p k a) k = true then dp_wr p k a ||| dp_wr p k k else dp_wr p k a
theorem dp_wr_t {p : Nat → Int32} {k a : Nat} (h : bt (dp_wr p k a) k = true) : dp_wr p (k + 1) a = dp_wr p k a ||| dp_wr p k k := if_pos h
theorem dp_wr_f {p : Nat → Int32} {k a : Nat} (h : ¬ bt (dp_wr p k a) k = true) : dp_wr p (k + 1) a = dp_wr p k a := if_neg h
theorem dp_wr_row (p : Nat → Int32) (k : Nat) : dp_wr p (k + 1) k = dp_wr p k k := by
  by_cases h : bt (dp_wr p k k) k = true
  · rw [dp_wr_t h, dp_or_self]
  · rw [dp_wr_f h]
theorem dp_wr_bt (p : Nat → Int32) (k a b : Nat) : bt (dp_wr p (k + 1) a) b = (bt (dp_wr p k a) b || (bt (dp_wr p k a) k && bt (dp_wr p k k) b)) := by
  by_cases h : bt (dp_wr p k a) k = true
  · rw [dp_wr_t h, b_or, h, Bool.true_and]
  · rw [dp_wr_f h, Bool.eq_false_iff.mpr h, Bool.false_and, Bool.or_false]
theorem dp_wr_congr {p q : Nat → Int32} (h : ∀ x, x < 32 → p x = q x) : ∀ k, k ≤ 32 → ∀ a, a < 32 → dp_wr p k a = dp_wr q k a
  | 0, _, a, ha => h a ha
  | k + 1, hk, a, ha => by
    have e1 := dp_wr_congr h k (by omega) a ha
    have e2 := dp_wr_congr h k (by omega) k (by omega)
    show (if bt (dp_wr p k a) k = true then dp_wr p k a ||| dp_wr p k k else dp_wr p k a) = (if bt (dp_wr q k a) k = true then dp_wr q k a ||| dp_wr q k k else dp_wr q k a)
    rw [e1, e2]
def dp_nk (a w : Int32) : Int32 := if a < 0 then nI (dp_fc (bt w) 32) + a else a - 1
def dp_ob (o : Nat → Nat) : Option Nat → Int32
  | some i => dp_bo (o i)
  | none => 0
def dp_nt (c : Nat) (o : Nat → Nat) (a w : Int32) : Int32 := dp_ob o (dp_fk (fun i => bt w (o i)) (dp_nk a w) c)
def dp_mt (vs : Nat → Int32) (p q : Int32) : Bool := dp_any (fun y => dp_any (fun z => bt p y && bt q z && decide (vs y = vs z)) 32) 32
def dp_op (c : Nat) (o l : Nat → Nat) (pr : Int32) (tg vs : Nat → Int32) (kind : Nat) (a : Int32) (p q : Nat → Int32) : Nat → Int32 :=
  if kind = 0 then fun x => if bt pr x = true then dp_fr o (dp_ax l c a (dp_rk o x c)) c else 0
  else if kind = 1 then fun x => dp_jn (p x) q 32
  else if kind = 2 then fun x => p x ||| q x
  else if kind = 3 then fun x => p x &&& q x
  else if kind = 4 then fun x => p x &&& (q x ^^^ (-1))
  else if kind = 5 then fun x => dp_mk (fun y => bt (p y) x) 32
  else if kind = 6 then fun x => dp_wr p 32 x ||| (pr &&& dp_bo x)
  else if kind = 7 then fun x => dp_nt c o a (p x)
  else if kind = 8 then fun x => p x &&& q 0
  else if kind = 9 then dp_c0 (dp_fr o (fun r => decide (tg (o r) = a)) c)
  else if kind = 10 then dp_c0 (dp_fr o (fun r => decide (a ≤ vs (o r))) c)
  else if kind = 11 then dp_c0 (dp_mk (fun x => decide (a ≤ nI (dp_fc (bt (p x)) 32))) 32)
  else if kind = 12 then dp_c0 (pr &&& (p 0 ^^^ (-1)))
  else if kind = 13 then fun x => p x &&& q x
  else if kind = 14 then fun x => p x ||| q x
  else dp_c0 (dp_mk (fun x => dp_mt vs (p x) (q x)) 32)
/-! bits lie within the present nodes -/
def dp_PP (pr : Int32) (p : Nat → Int32) : Prop := ∀ x, x < 32 → ∀ y, bt (p x) y = true → bt pr x = true ∧ bt pr y = true
def dp_PC (pr : Int32) (p : Nat → Int32) : Prop := (∀ x, 0 < x → x < 32 → p x = 0) ∧ ∀ y, bt (p 0) y = true → bt pr y = true
theorem dp_PP_0 {pr : Int32} {p : Nat → Int32} (h : dp_PP pr p) {x : Nat} (hx : x < 32) (hn : bt pr x = false) : p x = 0 := dp_zero fun i _ => by
  cases hb : bt (p x) i
  · rfl
  · have := (h x hx i hb).1
    rw [hn] at this; cases this
theorem dp_PC_c0 {pr s : Int32} (h : ∀ y, bt s y = true → bt pr y = true) : dp_PC pr (dp_c0 s) := ⟨fun x h0 _ => dp_c0_n h0, fun y hy => h y (by rw [dp_c0_0] at hy; exact hy)⟩
/-- Warshall with the identity put in ahead, against Warshall with it put in behind -/
theorem dp_wr_refl {pr : Int32} {p q : Nat → Int32} (hp : dp_PP pr p) (hq : ∀ x, x < 32 → q x = if bt pr x = true then p x ||| dp_bo x else 0) : ∀ k, k ≤ 32 → ∀ a, a < 32 → ∀ b, b < 32 → bt (dp_wr q k a) b = (bt (dp_wr p k a) b || (decide (b = a) && bt pr a))
  | 0, _, a, ha, b, hb => by
    show bt (q a) b = (bt (p a) b || (decide (b = a) && bt pr a))
    rw [hq a ha]
    cases h : bt pr a
    · rw [if_neg (by decide), dp_PP_0 hp ha h, b_0, Bool.and_false, Bool.or_false]
    · rw [if_pos rfl, dp_bt_or _ ha, Bool.and_true]
  | k + 1, hk, a, ha, b, hb => by
    have e1 := dp_wr_refl hp hq k (by omega) a ha b hb
    have e2 := dp_wr_refl hp hq k (by omega) a ha k (by omega)
    have e3 := dp_wr_refl hp hq k (by omega) k (by omega) b hb
    rw [dp_wr_bt, dp_wr_bt, e1, e2, e3]
    by_cases h1 : k = a
    · subst h1
      cases bt (dp_wr p k k) b <;> cases bt (dp_wr p k k) k <;> cases bt pr k <;> cases decide (b = k) <;> cases decide (k = k) <;> rfl
    · rw [decide_eq_false h1]
      by_cases h2 : b = k
      · subst h2
        cases bt (dp_wr p b a) b <;> cases bt (dp_wr p b b) b <;> cases bt pr b <;> cases bt pr a <;> cases decide (b = a) <;> cases decide (b = b) <;> rfl
      · rw [decide_eq_false h2]
        cases bt (dp_wr p k a) b <;> cases bt (dp_wr p k a) k <;> cases bt (dp_wr p k k) b <;> cases bt pr a <;> cases bt pr k <;> cases decide (b = a) <;> rfl
theorem dp_wr_PP {pr : Int32} {p : Nat → Int32} (hp : dp_PP pr p) : ∀ k, k ≤ 32 → dp_PP pr (dp_wr p k)
  | 0, _ => hp
  | k + 1, hk => by
    have ih := dp_wr_PP hp k (by omega)
    intro x hx y h
    rw [dp_wr_bt, Bool.or_eq_true, Bool.and_eq_true] at h
    rcases h with h | ⟨h1, h2⟩
    · exact ih x hx y h
    · exact ⟨(ih x hx k h1).1, (ih k (by omega) y h2).2⟩
section SE
variable {c : Nat} {o l : Nat → Nat} {pr a : Int32} {tg vs : Nat → Int32} {p q : Nat → Int32}
theorem dp_fr_pr {P : Nat → Bool} (ho : ∀ r, o r < 32) (hp : ∀ n, bt pr n = true ↔ ∃ r, r < c ∧ o r = n) {y : Nat} (h : bt (dp_fr o P c) y = true) : bt pr y = true := by
  obtain ⟨r, h1, h2, -⟩ := (dp_fr_bt o P c (fun r _ => ho r) y).mp h
  exact (hp y).mpr ⟨r, h1, h2⟩
theorem dp_op0 (ho : ∀ r, o r < 32) (hp : ∀ n, bt pr n = true ↔ ∃ r, r < c ∧ o r = n) : dp_PP pr (dp_op c o l pr tg vs 0 a p q) := by
  intro x hx y h
  change bt (if bt pr x = true then dp_fr o (dp_ax l c a (dp_rk o x c)) c else 0) y = true at h
  by_cases e : bt pr x = true
  · rw [if_pos e] at h
    exact ⟨e, dp_fr_pr ho hp h⟩
  · rw [if_neg e, b_0] at h; cases h
theorem dp_op1 (h1 : dp_PP pr p) (h2 : dp_PP pr q) : dp_PP pr (dp_op c o l pr tg vs 1 a p q) := by
  intro x hx y h
  obtain ⟨z, g1, g2, g3⟩ := dp_jn_bt (show bt (dp_jn (p x) q 32) y = true from h)
  exact ⟨(h1 x hx z g2).1, (h2 z g1 y g3).2⟩
theorem dp_op2 (h1 : dp_PP pr p) (h2 : dp_PP pr q) : dp_PP pr (dp_op c o l pr tg vs 2 a p q) := by
  intro x hx y h
  have h' : bt (p x ||| q x) y = true := h
  rw [b_or, Bool.or_eq_true] at h'
  exact h'.elim (h1 x hx y) (h2 x hx y)
theorem dp_and_l {s t : Int32} {y : Nat} (h : bt (s &&& t) y = true) : bt s y = true := by
  rw [b_and, Bool.and_eq_true] at h
  exact h.1
theorem dp_op3 (h1 : dp_PP pr p) : dp_PP pr (dp_op c o l pr tg vs 3 a p q) := fun x hx y h => h1 x hx y (dp_and_l (show bt (p x &&& q x) y = true from h))
theorem dp_op4 (h1 : dp_PP pr p) : dp_PP pr (dp_op c o l pr tg vs 4 a p q) := fun x hx y h => h1 x hx y (dp_and_l (show bt (p x &&& (q x ^^^ (-1))) y = true from h))
theorem dp_op8 (h1 : dp_PP pr p) : dp_PP pr (dp_op c o l pr tg vs 8 a p q) := fun x hx y h => h1 x hx y (dp_and_l (show bt (p x &&& q 0) y = true from h))
theorem dp_op5 (h1 : dp_PP pr p) : dp_PP pr (dp_op c o l pr tg vs 5 a p q) := by
  intro x hx y h
  have h' : bt (dp_mk (fun y => bt (p y) x) 32) y = true := h
  have hy := dp_bt_lt h'
  rw [dp_mk_32 _ hy] at h'
  exact (h1 y hy x h').symm
theorem dp_op6 (h1 : dp_PP pr p) : dp_PP pr (dp_op c o l pr tg vs 6 a p q) := by
  intro x hx y h
  have h' : bt (dp_wr p 32 x ||| (pr &&& dp_bo x)) y = true := h
  rw [b_or, Bool.or_eq_true, b_and, Bool.and_eq_true, dp_bo_bt hx, decide_eq_true_iff] at h'
  rcases h' with h' | ⟨g1, g2⟩
  · exact dp_wr_PP h1 32 (Nat.le_refl _) x hx y h'
  · rw [g2] at g1 ⊢; exact ⟨g1, g1⟩
theorem dp_op7 (ho : ∀ r, o r < 32) (h1 : dp_PP pr p) : dp_PP pr (dp_op c o l pr tg vs 7 a p q) := by
  intro x hx y h
  have h' : bt (dp_ob o (dp_fk (fun i => bt (p x) (o i)) (dp_nk a (p x)) c)) y = true := h
  cases e : dp_fk (fun i => bt (p x) (o i)) (dp_nk a (p x)) c with
  | none =>
    rw [e] at h'
    have : bt 0 y = true := h'
    rw [b_0] at this; cases this
  | some i =>
    rw [e] at h'
    have h2 : bt (dp_bo (o i)) y = true := h'
    rw [dp_bo_bt (ho i), decide_eq_true_iff] at h2
    rw [h2]
    exact h1 x hx (o i) (dp_fk_some e).2.1
theorem dp_op9 (ho : ∀ r, o r < 32) (hp : ∀ n, bt pr n = true ↔ ∃ r, r < c ∧ o r = n) : dp_PC pr (dp_op c o l pr tg vs 9 a p q) := dp_PC_c0 (fun _ hy => dp_fr_pr ho hp hy)
theorem dp_op10 (ho : ∀ r, o r < 32) (hp : ∀ n, bt pr n = true ↔ ∃ r, r < c ∧ o r = n) : dp_PC pr (dp_op c o l pr tg vs 10 a p q) := dp_PC_c0 (fun _ hy => dp_fr_pr ho hp hy)
theorem dp_has0 (h1 : dp_PP pr p) (ha : 1 ≤ a) {x : Nat} (hx : x < 32) (hn : bt pr x = false) : ¬ a ≤ nI (dp_fc (bt (p x)) 32) := by
  intro z
  rw [dp_PP_0 h1 hx hn, dp_fc_none (fun i _ => b_0 i), nI_0] at z
  exact absurd (Int32.le_trans ha z) (by decide)
theorem dp_op11 (h1 : dp_PP pr p) (ha : 1 ≤ a) : dp_PC pr (dp_op c o l pr tg vs 11 a p q) := dp_PC_c0 fun x h => by
  have hx := dp_bt_lt h
  rw [dp_mk_32 _ hx, decide_eq_true_iff] at h
  cases e : bt pr x
  · exact absurd h (dp_has0 h1 ha hx e)
  · rfl
theorem dp_op12 : dp_PC pr (dp_op c o l pr tg vs 12 a p q) := dp_PC_c0 fun _ h => dp_and_l h
theorem dp_op13 (h1 : dp_PC pr p) : dp_PC pr (dp_op c o l pr tg vs 13 a p q) := ⟨fun x h0 hx => by
  show p x &&& q x = 0
  rw [h1.1 x h0 hx]
  exact dp_zero fun i _ => by rw [b_and, b_0, Bool.false_and], fun y h => h1.2 y (dp_and_l (show bt (p 0 &&& q 0) y = true from h))⟩
theorem dp_op14 (h1 : dp_PC pr p) (h2 : dp_PC pr q) : dp_PC pr (dp_op c o l pr tg vs 14 a p q) := ⟨fun x h0 hx => by
  show p x ||| q x = 0
  rw [h1.1 x h0 hx, h2.1 x h0 hx]
  exact dp_or_self 0, fun y h => by
  have h' : bt (p 0 ||| q 0) y = true := h
  rw [b_or, Bool.or_eq_true] at h'
  exact h'.elim (h1.2 y) (h2.2 y)⟩
theorem dp_op15 (h1 : dp_PP pr p) : dp_PC pr (dp_op c o l pr tg vs 15 a p q) := dp_PC_c0 fun x h => by
  have hx := dp_bt_lt h
  rw [dp_mk_32 _ hx] at h
  obtain ⟨y, -, hy⟩ := dp_any_iff.mp h
  obtain ⟨z, -, hz⟩ := dp_any_iff.mp hy
  rw [Bool.and_eq_true, Bool.and_eq_true] at hz
  exact (h1 x hx y hz.1.1).1
end SE
/-! the machine -/
def dp_tk (k : Nat) : Nat := if k = 0 ∨ k = 9 ∨ k = 10 then 0 else if k = 5 ∨ k = 6 ∨ k = 7 ∨ k = 11 ∨ k = 12 then 1 else 2
def dp_gp (k : Nat) : Bool := decide (k ≤ 8)
def dp_tp (k : Nat) : Bool := decide (k ≠ 8 ∧ k ≠ 12 ∧ k ≠ 13 ∧ k ≠ 14)
def dp_bp (k : Nat) : Bool := decide (k ≠ 13 ∧ k ≠ 14)
def dp_ty (kn : Nat → Nat) : Nat → Nat × (Nat → Bool)
  | 0 => (0, fun _ => false)
  | i + 1 => ((dp_ty kn i).1 - dp_tk (kn i) + 1, fun j => if j = (dp_ty kn i).1 - dp_tk (kn i) then dp_gp (kn i) else (dp_ty kn i).2 j)
def dp_ft (h : Nat) (F : Nat → Bool) (k : Nat) : Prop := dp_tk k ≤ h ∧ (0 < dp_tk k → F (h - 1) = dp_tp k) ∧ (dp_tk k = 2 → F (h - 2) = dp_bp k)
def dp_ok (k : Nat) (a : Int32) : Prop := k ≤ 15 ∧ (k = 7 → a ≠ 0) ∧ (k = 11 → 1 ≤ a)
def dp_WT (kn : Nat → Nat) (an : Nat → Int32) (n : Nat) : Prop := ∀ i, i < n → dp_ok (kn i) (an i) ∧ dp_ft (dp_ty kn i).1 (dp_ty kn i).2 (kn i) ∧ (dp_ty kn (i + 1)).1 ≤ 8
def dp_vl (c : Nat) (o l : Nat → Nat) (pr : Int32) (tg vs : Nat → Int32) (kn : Nat → Nat) (an : Nat → Int32) : Nat → Nat → Nat → Int32
  | 0 => fun _ _ => 0
  | i + 1 => fun j => if j = (dp_ty kn i).1 - dp_tk (kn i) then dp_op c o l pr tg vs (kn i) (an i) (dp_vl c o l pr tg vs kn an i ((dp_ty kn i).1 - dp_tk (kn i))) (dp_vl c o l pr tg vs kn an i ((dp_ty kn i).1 - dp_tk (kn i) + 1)) else dp_vl c o l pr tg vs kn an i j
def dp_PI (pr : Int32) (b : Bool) (p : Nat → Int32) : Prop := (b = true → dp_PP pr p) ∧ (b = false → dp_PC pr p)
theorem dp_op_PI {c : Nat} {o l : Nat → Nat} {pr a : Int32} {tg vs : Nat → Int32} {V : Nat → Nat → Int32} {h k : Nat} {F : Nat → Bool} (ho : ∀ r, o r < 32) (hp : ∀ n, bt pr n = true ↔ ∃ r, r < c ∧ o r = n) (hk : dp_ok k a) (hf : dp_ft h F k) (hv : ∀ e, e < h → dp_PI pr (F e) (V e)) : dp_PI pr (dp_gp k) (dp_op c o l pr tg vs k a (V (h - dp_tk k)) (V (h - dp_tk k + 1))) := by
  obtain ⟨k1, k2, k3⟩ := hk
  obtain ⟨f1, f2, f3⟩ := hf
  have top1 : dp_tk k = 1 → dp_PI pr (dp_tp k) (V (h - 1)) := fun e => by rw [← f2 (by omega)]; exact hv _ (by omega)
  have top2 : dp_tk k = 2 → dp_PI pr (dp_bp k) (V (h - 2)) ∧ dp_PI pr (dp_tp k) (V (h - 2 + 1)) := fun e => by
    rw [← f2 (by omega), ← f3 e]
    refine ⟨hv _ (by omega), ?_⟩
    rw [show h - 2 + 1 = h - 1 from by omega]
    exact hv _ (by omega)
  have cs : k = 0 ∨ k = 1 ∨ k = 2 ∨ k = 3 ∨ k = 4 ∨ k = 5 ∨ k = 6 ∨ k = 7 ∨ k = 8 ∨ k = 9 ∨ k = 10 ∨ k = 11 ∨ k = 12 ∨ k = 13 ∨ k = 14 ∨ k = 15 := by omega
  clear f1 f2 f3 hv k1
  rcases cs with rfl | rfl | rfl | rfl | rfl | rfl | rfl | rfl | rfl | rfl | rfl | rfl | rfl | rfl | rfl | rfl
  · exact ⟨fun _ => dp_op0 ho hp, fun z => (by cases z)⟩
  · exact ⟨fun _ => dp_op1 ((top2 rfl).1.1 rfl) ((top2 rfl).2.1 rfl), fun z => (by cases z)⟩
  · exact ⟨fun _ => dp_op2 ((top2 rfl).1.1 rfl) ((top2 rfl).2.1 rfl), fun z => (by cases z)⟩
  · exact ⟨fun _ => dp_op3 ((top2 rfl).1.1 rfl), fun z => (by cases z)⟩
  · exact ⟨fun _ => dp_op4 ((top2 rfl).1.1 rfl), fun z => (by cases z)⟩
  · exact ⟨fun _ => dp_op5 ((top1 rfl).1 rfl), fun z => (by cases z)⟩
  · exact ⟨fun _ => dp_op6 ((top1 rfl).1 rfl), fun z => (by cases z)⟩
  · exact ⟨fun _ => dp_op7 ho ((top1 rfl).1 rfl), fun z => (by cases z)⟩
  · exact ⟨fun _ => dp_op8 ((top2 rfl).1.1 rfl), fun z => (by cases z)⟩
  · exact ⟨fun z => (by cases z), fun _ => dp_op9 ho hp⟩
  · exact ⟨fun z => (by cases z), fun _ => dp_op10 ho hp⟩
  · exact ⟨fun z => (by cases z), fun _ => dp_op11 ((top1 rfl).1 rfl) (k3 rfl)⟩
  · exact ⟨fun z => (by cases z), fun _ => dp_op12⟩
  · exact ⟨fun z => (by cases z), fun _ => dp_op13 ((top2 rfl).1.2 rfl)⟩
  · exact ⟨fun z => (by cases z), fun _ => dp_op14 ((top2 rfl).1.2 rfl) ((top2 rfl).2.2 rfl)⟩
  · exact ⟨fun z => (by cases z), fun _ => dp_op15 ((top2 rfl).1.1 rfl)⟩
theorem dp_vl_PI {c : Nat} {o l : Nat → Nat} {pr : Int32} {tg vs : Nat → Int32} {kn : Nat → Nat} {an : Nat → Int32} {n : Nat} (ho : ∀ r, o r < 32) (hp : ∀ n, bt pr n = true ↔ ∃ r, r < c ∧ o r = n) (W : dp_WT kn an n) : ∀ i, i ≤ n → ∀ e, e < (dp_ty kn i).1 → dp_PI pr ((dp_ty kn i).2 e) (dp_vl c o l pr tg vs kn an i e)
  | 0, _, e, he => absurd he (Nat.not_lt_zero _)
  | i + 1, hi, e, he => by
    have ih := dp_vl_PI (l := l) (tg := tg) (vs := vs) ho hp W i (by omega)
    obtain ⟨w1, w2, w3⟩ := W i (by omega)
    have he' : e < (dp_ty kn i).1 - dp_tk (kn i) + 1 := he
    show dp_PI pr (if e = (dp_ty kn i).1 - dp_tk (kn i) then dp_gp (kn i) else (dp_ty kn i).2 e) ((if e = (dp_ty kn i).1 - dp_tk (kn i) then dp_op c o l pr tg vs (kn i) (an i) (dp_vl c o l pr tg vs kn an i ((dp_ty kn i).1 - dp_tk (kn i))) (dp_vl c o l pr tg vs kn an i ((dp_ty kn i).1 - dp_tk (kn i) + 1)) else dp_vl c o l pr tg vs kn an i e))
    by_cases z : e = (dp_ty kn i).1 - dp_tk (kn i)
    · rw [if_pos z, if_pos z]
      exact dp_op_PI ho hp w1 w2 ih
    · rw [if_neg z, if_neg z]
      exact ih e (by omega)
theorem dp_ty_congr {kn kn' : Nat → Nat} : ∀ {i : Nat}, (∀ j, j < i → kn j = kn' j) → dp_ty kn i = dp_ty kn' i
  | 0, _ => rfl
  | i + 1, h => by
    have e := dp_ty_congr (i := i) (fun j hj => h j (by omega))
    simp only [dp_ty]
    rw [e, h i (by omega)]
theorem dp_vl_congr {c : Nat} {o l : Nat → Nat} {pr : Int32} {tg vs : Nat → Int32} {kn kn' : Nat → Nat} {an an' : Nat → Int32} : ∀ {i : Nat}, (∀ j, j < i → kn j = kn' j) → (∀ j, j < i → an j = an' j) → dp_vl c o l pr tg vs kn an i = dp_vl c o l pr tg vs kn' an' i
  | 0, _, _ => rfl
  | i + 1, h, g => by
    have e := dp_vl_congr (c := c) (o := o) (l := l) (pr := pr) (tg := tg) (vs := vs) (i := i) (fun j hj => h j (by omega)) (fun j hj => g j (by omega))
    have e2 := dp_ty_congr (i := i) (fun j hj => h j (by omega))
    simp only [dp_vl]
    rw [e, e2, h i (by omega), g i (by omega)]
theorem dp_WT_congr {kn kn' : Nat → Nat} {an an' : Nat → Int32} {n : Nat} (h : ∀ j, j < n → kn j = kn' j) (g : ∀ j, j < n → an j = an' j) (W : dp_WT kn an n) : dp_WT kn' an' n := fun i hi => by
  have e1 := dp_ty_congr (i := i) (fun j hj => h j (by omega))
  have e2 := dp_ty_congr (i := i + 1) (fun j hj => h j (by omega))
  rw [← e1, ← e2, ← h i hi, ← g i hi]
  exact W i hi
