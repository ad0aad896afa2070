theorem l_pos {y : Nat} (h : ¬ lg_cmp (lN y) 0 = 0) : 0 < y := by
  rcases Nat.eq_zero_or_pos y with e | e
  · exact absurd ((lg_cmp_eq _ _).mpr (by rw [e]; rfl)) h
  · exact e
theorem l_zero {y : Nat} (h : lg_cmp (lN y) 0 = 0) (hy : y < 2147483648) : y = 0 := by
  have h1 := (lg_cmp_eq _ _).mp h
  exact (pk_lEQ (a := y) (b := 0) (by omega) (by omega)).mp h1
theorem lN_ne {y : Nat} (h : 0 < y) (hy : y < 2147483648) : ¬ lN y = 0 := fun e => by
  have := (pk_lEQ (a := y) (b := 0) (by omega) (by omega)).mp e
  omega
theorem rg_nI {t n : Nat} (h : t ≤ n) (hn : n < 2147483648) : rg (nI t) 0 n := by
  have e : (nI t).toInt = t := nI_toInt (by omega)
  exact ⟨by rw [e]; omega, by rw [e]; omega⟩
/-! rows of hours -/
def rv : Nat → (Nat → Nat) → Nat
  | 0, _ => 0
  | n + 1, g => 8 * rv n g + g n
theorem rv_lt (n : Nat) (g : Nat → Nat) (h : ∀ k, k < n → g k ≤ 7) : rv n g < 8 ^ n := by
  induction n with
  | zero => exact Nat.one_pos
  | succ n ih =>
    have h1 := ih (fun k hk => h k (by omega))
    have h2 := h n (by omega)
    show 8 * rv n g + g n < 8 ^ (n + 1)
    rw [Nat.pow_succ]
    omega
theorem rv_same (k : Nat) (g f : Nat → Nat) (h : ∀ j, j < k → f j = g j) : rv k f = rv k g := by
  induction k with
  | zero => rfl
  | succ k ih =>
    show 8 * rv k f + f k = 8 * rv k g + g k
    rw [ih (fun j hj => h j (by omega)), h k (by omega)]
theorem rv_up (n k : Nat) (g f : Nat → Nat) (hk : k < n) (h : ∀ j, j < k → f j = g j) (h1 : f k = g k + 1) (h7 : ∀ j, j < n → g j ≤ 7) : rv n g < rv n f := by
  induction n with
  | zero => omega
  | succ n ih =>
    show 8 * rv n g + g n < 8 * rv n f + f n
    by_cases hkn : k = n
    · subst hkn
      rw [rv_same k g f h, h1]
      omega
    · have := ih (by omega) (fun j hj => h7 j (by omega))
      have := h7 n (by omega)
      omega
/-- a row of n bars: what the array holds -/
def isRow (n : Nat) (g : Nat → Int32) (r : Nat → Nat) : Prop := ∀ k, k < n → g k = nI (r k) ∧ r k ≤ 7
theorem isRow_upd {n : Nat} {g : Nat → Int32} {r : Nat → Nat} (h : isRow n g r) {j v : Nat} (hj : j < n) (hn : n < 2147483648) (hv : v ≤ 7) : isRow n (upd g (nI j).toNatClampNeg (nI v)) (fun k => if k = j then v else r k) := by
  intro k hk
  rw [nI_clamp (show j < 2 ^ 31 by omega)]
  unfold upd
  by_cases e : k = j
  · simp [e, hv]
  · simp [e, h k hk]
theorem row_at {t : Nat} {g : Nat → Int32} {w : Nat → Nat} (h : isRow t g w) {k : Nat} (hk : k < t) (ht : t ≤ 6) : g (nI k).toNatClampNeg = nI (w k) := by
  rw [nI_clamp (show k < 2 ^ 31 by omega)]
  exact (h k hk).1
theorem row_8 {t : Nat} {g : Nat → Int32} {w : Nat → Nat} (h : isRow t g w) {k : Nat} (hk : k < t) (ht : t ≤ 6) : vp_in (nI (w k)) 8 := vp_in_nI (by have := (h k hk).2; omega) (by omega)
theorem row_7 {t : Nat} {g : Nat → Int32} {w : Nat → Nat} (h : isRow t g w) {k : Nat} (hk : k < t) (e : nI (w k) = 7) : w k = 7 := by
  have h7 := (h k hk).2
  exact (nI_eq (a := w k) (b := 7) (by omega) (by omega)).mp e
theorem row_n7 {t : Nat} {g : Nat → Int32} {w : Nat → Nat} (h : isRow t g w) {k : Nat} (hk : k < t) (e : ¬ nI (w k) = 7) : w k ≤ 6 := by
  have h7 := (h k hk).2
  rcases Nat.lt_or_ge 6 (w k) with q | q
  · exact absurd (by rw [show w k = 7 by omega]; rfl) e
  · exact q
theorem isRow_0 (t : Nat) : isRow t (fun _ => 0) (fun _ => 0) := fun _ _ => ⟨rfl, Nat.zero_le 7⟩
theorem row_step {t n a b : Nat} (h1 : 8 ^ t < a + (n + 1)) (h2 : a < b) : 8 ^ t < b + n := by omega
theorem row_up1 {i q v : Nat} {w2 : Nat → Nat} (hq : i ≤ q) (h : i < q → w2 i = v) : (fun a => if a = q then v else w2 a) i = v := by
  by_cases e : i = q
  · simp [e]
  · simp [e, h (by omega)]
theorem row_lo1 {i q v : Nat} {w w2 : Nat → Nat} (hq : i ≤ q) (h : ∀ a, a < i → w2 a = w a) : ∀ a, a < i → (fun a => if a = q then v else w2 a) a = w a := by
  intro a ha
  simp [show ¬ a = q by omega, h a ha]
theorem one_of2 {z : Int32} (h : z = 0 ∨ z = 1) (h0 : ¬ z = 0) : z = 1 := by
  rcases h with e | e
  · exact absurd e h0
  · exact e
theorem isRow_zero {t k : Nat} {g : Nat → Int32} (h : ∀ j, j < k → g j = 0) (hk : t ≤ k) : isRow t g (fun _ => 0) := fun j hj => ⟨h j (by omega), Nat.zero_le 7⟩
theorem z_upd {g : Nat → Int32} {k : Nat} (hk : k < 2147483648) (h : ∀ j, j < k → g j = 0) : ∀ j, j < k + 1 → upd g (nI k).toNatClampNeg 0 j = 0 := by
  intro j hj
  rw [nI_clamp (show k < 2 ^ 31 by omega)]
  unfold upd
  split
  · rfl
  · exact h j (by omega)
