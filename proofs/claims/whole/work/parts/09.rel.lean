/-! the relation -/
def dp_TX (c : Nat) (o l : Nat → Nat) (ranks ends parents : Nat → Int32) : Prop := (∀ r, r < c → ranks (o r) = nI r ∧ ends (o r) = nI (dp_en l c r)) ∧ dp_Ab c o l parents
def dp_px (w : Nat) : Nat := if w = 0 then 3 else w - 1
def dp_kn (K : Nat → Nat) (w : Nat) : Nat → Nat := fun i => K (24 * w + i)
def dp_am (A : Nat → Int32) (w : Nat) : Nat → Int32 := fun i => A (24 * w + i)
def dp_Pg (K N : Nat → Nat) (A kx ax lx : Nat → Int32) : Prop := ∀ w, w < 4 → N w ≤ 24 ∧ dp_WT (dp_kn K w) (dp_am A w) (N w) ∧ lx (dp_px w) = nI (N w) ∧ ∀ i, i < N w → kx (24 * dp_px w + i) = nI (K (24 * w + i)) ∧ ax (24 * dp_px w + i) = A (24 * w + i)
def dp_hq (K N : Nat → Nat) (w : Nat) : Nat := (dp_ty (dp_kn K w) (N w)).1
def dp_Fq (K N : Nat → Nat) (w : Nat) : Nat → Bool := (dp_ty (dp_kn K w) (N w)).2
def dp_Qs (K N : Nat → Nat) (h : Int32) (isp : Nat → Int32) : Prop := h = nI (dp_hq K N 0) ∧ ∀ e, e < dp_hq K N 0 → isp e = dp_c (dp_Fq K N 0 e)
def dp_sv (c : Nat) (o l : Nat → Nat) (pr : Int32) (tg vs : Nat → Int32) (K N : Nat → Nat) (A : Nat → Int32) (w n : Nat) : Int32 := dp_vl c o l pr tg vs (dp_kn K w) (dp_am A w) (N w) (dp_hq K N w - 1) n
/-- slot s: set, alive, edited; the component's node, selection, selection before; the reference's node and selection before -/
def dp_Ws (c : Nat) (o l : Nat → Nat) (pr : Int32) (tg vs : Nat → Int32) (K N : Nat → Nat) (A : Nat → Int32) (s : Nat) (S al ed xw xs xb yw yb : Int32) : Prop :=
  (S = 0 ∨ S = 1) ∧ (ed = 0 ∨ ed = 1) ∧
  ((al = 0 ∧ xw = -1 ∧ xs = 0) ∨ (al = 1 ∧ S = 1 ∧ 0 < dp_hq K N (s + 1) ∧ dp_Fq K N (s + 1) (dp_hq K N (s + 1) - 1) = true ∧ ∃ w, bt pr w = true ∧ xw = nI w ∧ yw = nI w ∧ xs = dp_sv c o l pr tg vs K N A (s + 1) w)) ∧
  (S = 1 ∧ ed = 1 → xb = yb) ∧ (¬ (S = 1 ∧ ed = 1) → xb = xs)
def dp_Wa (c : Nat) (o l : Nat → Nat) (pr : Int32) (tg vs : Nat → Int32) (K N : Nat → Nat) (A S al ed xw xs xb yw yb : Nat → Int32) : Prop := ∀ s, s < 3 → dp_Ws c o l pr tg vs K N A s (S s) (al s) (ed s) (xw s) (xs s) (xb s) (yw s) (yb s)
def dp_Re (c : Nat) (o lv : Nat → Nat) (pr : Int32) (tg vs : Nat → Int32) (K N : Nat → Nat) (A S ranks ends parents kx ax lx isp above al ed xw xs xb yw yb : Nat → Int32) (h : Int32) : Prop :=
  dp_Tr c o lv pr ∧ (∀ n, vs n ≤ 99) ∧ dp_TX c o (fun r => lv (o r)) ranks ends parents ∧ dp_Ab c o (fun r => lv (o r)) above ∧ dp_Pg K N A kx ax lx ∧ dp_Qs K N h isp ∧ dp_Wa c o (fun r => lv (o r)) pr tg vs K N A S al ed xw xs xb yw yb
def i_Rel (_ : Nat) (u : SX) (v : SY) : Prop := ∃ (c : Nat) (o lv : Nat → Nat) (pr : Int32) (tg vs : Nat → Int32) (K N : Nat → Nat) (A S ranks ends parents kx ax lx isp above al ed xw xs xb yw yb run rows mem held twin yp yr sp : Nat → Int32) (h hy : Int32),
  u = ((nI c), pr, h, (fun j => nI (o j)), (fun j => nI (lv j)), tg, vs, ranks, ends, parents, run, kx, ax, lx, isp, rows, mem, S, xw, xs, xb) ∧
  v = ((nI c), hy, (fun j => nI (o j)), (dp_th pr), above, tg, vs, held, twin, (fun j => nI (K j)), A, (fun j => nI (N j)), yp, yr, sp, S, al, ed, yw, yb) ∧
  dp_Re c o lv pr tg vs K N A S ranks ends parents kx ax lx isp above al ed xw xs xb yw yb h
theorem i_up {k : Nat} {u : SX} {v : SY} (h : i_Rel k u v) : i_Rel (k + 4) u v := h
theorem dp_Ws_edit {c c' : Nat} {o l o' l' : Nat → Nat} {pr pr' : Int32} {tg vs tg' vs' : Nat → Int32} {K N : Nat → Nat} {A : Nat → Int32} {s : Nat} {S al al' ed xw xw' xs xs' xb yw yb : Int32} (H : dp_Ws c o l pr tg vs K N A s S al ed xw xs xb yw yb) (h : (al' = 0 ∧ xw' = -1 ∧ xs' = 0) ∨ (al = 1 ∧ al' = 1 ∧ xw' = xw ∧ ∀ w, xw = nI w → bt pr w = true → bt pr' w = true ∧ xs' = dp_sv c' o' l' pr' tg' vs' K N A (s + 1) w)) : dp_Ws c' o' l' pr' tg' vs' K N A s S al' 1 xw' xs' xs yw xs := by
  obtain ⟨h1, h2, h3, h4, h5⟩ := H
  have z : ¬ S = 1 → xs = 0 := fun hS => h3.elim (fun q => q.2.2) (fun q => absurd q.2.1 hS)
  refine ⟨h1, Or.inr rfl, ?_, fun _ => rfl, fun hS => ?_⟩
  · rcases h with h | ⟨g1, g2, g3, g4⟩
    · exact Or.inl h
    · rcases h3 with ⟨q, -⟩ | ⟨-, q1, q2, q3, w, q4, q5, q6, q7⟩
      · rw [q] at g1; exact absurd g1 (by decide)
      · obtain ⟨g5, g6⟩ := g4 w q5 q4
        exact Or.inr ⟨g2, q1, q2, q3, w, g5, by rw [g3]; exact q5, q6, g6⟩
  · have hS' : ¬ S = 1 := fun e => hS ⟨e, rfl⟩
    rw [z hS']
    rcases h with h | ⟨g1, g2, g3, g4⟩
    · exact h.2.2.symm
    · rcases h3 with ⟨q, -⟩ | ⟨-, q1, -⟩
      · rw [q] at g1; exact absurd g1 (by decide)
      · exact absurd q1 hS'
def dp_isn (pr v : Int32) : Bool := decide (¬ v < 0 ∧ v < 32) && bt pr v.toNatClampNeg
theorem dp_isn_o {pr v : Int32} {c : Nat} {o lv : Nat → Nat} (T : dp_Tr c o lv pr) (h : dp_isn pr v = true) : ∃ r, r < c ∧ v = nI (o r) := by
  unfold dp_isn at h
  rw [Bool.and_eq_true, decide_eq_true_iff] at h
  obtain ⟨⟨h1, h2⟩, h3⟩ := h
  obtain ⟨j, hj, rfl⟩ := nI_of h1
  rw [nI_clamp hj] at h3
  obtain ⟨r, hr, e⟩ := (T.2.1 j).mp h3
  exact ⟨r, hr, by rw [e]⟩
theorem dp_isn_at {pr : Int32} {n : Nat} (hn : n < 32) : dp_isn pr (nI n) = bt pr n := by
  unfold dp_isn
  rw [nI_clamp (by omega), decide_eq_true (⟨nI_pos (by omega), nI_lt (b := 32) hn (by decide)⟩ : ¬ nI n < 0 ∧ nI n < 32), Bool.true_and]
