/-! the reference on a new object -/
def nw0 : Nat → Int32 := fun k => if k = 1 then 2 else if k < 4 then 0 else if k < 16 then (if k % 3 = 2 then 9 else if k % 3 = 0 then 4 else 0) else 0
theorem w_lt (a b : Int32) : a.toInt64 < b.toInt64 ↔ a < b := by
  rw [Int64.lt_iff_toInt_lt, Int32.lt_iff_toInt_lt, Int32.toInt_toInt64, Int32.toInt_toInt64]
theorem m_ge {a b : Int32} (h : ¬ lg_cmp a.toInt64 b.toInt64 < 0) : b ≤ a := by
  rw [lg_cmp_lt, w_lt] at h
  exact Int32.not_lt.mp h
theorem m_le {a b : Int32} (h : ¬ 0 < lg_cmp a.toInt64 b.toInt64) : a ≤ b := by
  rw [lg_cmp_gt, w_lt] at h
  exact Int32.not_lt.mp h
theorem m_lt {a b : Int32} (h : lg_cmp a.toInt64 b.toInt64 < 0) : ¬ b ≤ a := by
  rw [lg_cmp_lt, w_lt] at h
  exact Int32.not_le.mpr h
theorem m_gt {a b : Int32} (h : 0 < lg_cmp a.toInt64 b.toInt64) : ¬ a ≤ b := by
  rw [lg_cmp_gt, w_lt] at h
  exact Int32.not_le.mpr h
theorem four_iff {a : Int32} (h : 0 ≤ a ∧ a ≤ 3) : a = 0 ∨ a = 1 ∨ a = 2 ∨ a = 3 := by
  have e0 : (0 : Int32).toInt = 0 := by decide
  have e1 : (1 : Int32).toInt = 1 := by decide
  have e2 : (2 : Int32).toInt = 2 := by decide
  have e3 : (3 : Int32).toInt = 3 := by decide
  simp only [Int32.le_iff_toInt_le, ← Int32.toInt_inj, e0, e1, e2, e3] at h ⊢
  omega
theorem nw_in0 {a : Int32} (h : 0 ≤ a ∧ a ≤ 3) : vp_in (4 + (3 * a)) 221 := by
  rcases four_iff h with rfl | rfl | rfl | rfl <;> exact vin (by decide)
theorem nw_in1 {a : Int32} (h : 0 ≤ a ∧ a ≤ 3) : vp_in ((4 + (3 * a)) + 1) 221 := by
  rcases four_iff h with rfl | rfl | rfl | rfl <;> exact vin (by decide)
theorem nw_in2 {a : Int32} (h : 0 ≤ a ∧ a ≤ 3) : vp_in ((4 + (3 * a)) + 2) 221 := by
  rcases four_iff h with rfl | rfl | rfl | rfl <;> exact vin (by decide)
theorem nw_at0 {a : Int32} (h : 0 ≤ a ∧ a ≤ 3) : nw0 (4 + (3 * a)).toNatClampNeg = 0 := by
  rcases four_iff h with rfl | rfl | rfl | rfl <;> decide
theorem nw_at1 {a : Int32} (h : 0 ≤ a ∧ a ≤ 3) : nw0 ((4 + (3 * a)) + 1).toNatClampNeg = 9 := by
  rcases four_iff h with rfl | rfl | rfl | rfl <;> decide
theorem nw_at2 {a : Int32} (h : 0 ≤ a ∧ a ≤ 3) : nw0 ((4 + (3 * a)) + 2).toNatClampNeg = 4 := by
  rcases four_iff h with rfl | rfl | rfl | rfl <;> decide
theorem sm_clash {i : Int32} (h : (-1) ≤ i) (h2 : ¬ i = (-1)) : 0 ≤ i := ge0 h h2
theorem note_eq {b c : Int32} (hb : 0 ≤ b ∧ b ≤ 63) : (1 ≤ c ∧ c ≤ (if 64 - b < 8 then 64 - b else 8)) ↔ ((1 ≤ c ∧ c ≤ 8) ∧ ¬ (64 < b + c)) := by
  obtain ⟨k, hk, rfl⟩ := nI_63 (n := 63) hb (by decide)
  have e1 : (1 : Int32).toInt = 1 := by decide
  have e8 : (8 : Int32).toInt = 8 := by decide
  have e64 : (64 : Int32).toInt = 64 := by decide
  have q1 : (64 - nI k) = nI (64 - k) := by
    rw [show (64 : Int32) = nI 64 from rfl]; exact pk_sub (by omega)
  rw [q1]
  constructor
  · intro h
    have h1 := Int32.le_iff_toInt_le.mp h.1
    have h2 := Int32.le_iff_toInt_le.mp h.2
    rw [e1] at h1
    have h3 : c.toInt ≤ 8 ∧ c.toInt ≤ 64 - k := by
      split at h2
      · rename_i h4
        have h5 := Int32.lt_iff_toInt_lt.mp h4
        rw [nI_toInt (by omega)] at h5 h2
        rw [e8] at h5
        omega
      · rename_i h4
        have h5 := Int32.le_iff_toInt_le.mp (Int32.not_lt.mp h4)
        rw [nI_toInt (by omega)] at h5
        rw [e8] at h5 h2
        omega
    obtain ⟨j, hj, rfl⟩ := nI_63 (a := c) (M := 8) (n := 8) ⟨Int32.le_iff_toInt_le.mpr (by rw [show (0 : Int32).toInt = 0 from by decide]; omega), Int32.le_iff_toInt_le.mpr (by rw [e8]; omega)⟩ (by decide)
    rw [nI_toInt (by omega)] at h3 h1
    refine ⟨⟨h.1, Int32.le_iff_toInt_le.mpr (by rw [nI_toInt (by omega), e8]; omega)⟩, ?_⟩
    rw [nI_add]
    intro h6
    have h7 := Int32.lt_iff_toInt_lt.mp h6
    rw [nI_toInt (by omega), e64] at h7
    omega
  · intro h
    have h1 := Int32.le_iff_toInt_le.mp h.1.1
    rw [e1] at h1
    obtain ⟨j, hj, rfl⟩ := nI_63 (a := c) (M := 8) (n := 8) ⟨Int32.le_iff_toInt_le.mpr (by rw [show (0 : Int32).toInt = 0 from by decide]; omega), h.1.2⟩ (by decide)
    rw [nI_toInt (by omega)] at h1
    have h2 := h.2
    rw [nI_add] at h2
    have h3 := Int32.le_iff_toInt_le.mp (Int32.not_lt.mp h2)
    rw [nI_toInt (by omega), e64] at h3
    refine ⟨h.1.1, ?_⟩
    split
    · exact nI_le (by omega) (by omega)
    · exact h.1.2
/-! rows of hours -/
def rv : Nat → (Nat → Nat) → Nat
  | 0, _ => 0
  | n + 1, g => 8 * rv n g + g n
theorem rv_lt (n : Nat) (g : Nat → Nat) (h : ∀ k, k < n → g k ≤ 7) : rv n g < 8 ^ n := by
  induction n with
  | zero => exact Nat.one_pos
  | succ n ih =>
    have h1 := ih (fun k hk => h k (by omega))
    have h2 := h n (by omega)
    show 8 * rv n g + g n < 8 ^ (n + 1)
    rw [Nat.pow_succ]
    omega
theorem rv_same (k : Nat) (g f : Nat → Nat) (h : ∀ j, j < k → f j = g j) : rv k f = rv k g := by
  induction k with
  | zero => rfl
  | succ k ih =>
    show 8 * rv k f + f k = 8 * rv k g + g k
    rw [ih (fun j hj => h j (by omega)), h k (by omega)]
theorem rv_up (n k : Nat) (g f : Nat → Nat) (hk : k < n) (h : ∀ j, j < k → f j = g j) (h1 : f k = g k + 1) (h7 : ∀ j, j < n → g j ≤ 7) : rv n g < rv n f := by
  induction n with
  | zero => omega
  | succ n ih =>
    show 8 * rv n g + g n < 8 * rv n f + f n
    by_cases hkn : k = n
    · subst hkn
      rw [rv_same k g f h, h1]
      omega
    · have := ih (by omega) (fun j hj => h7 j (by omega))
      have := h7 n (by omega)
      omega
/-- a row of n bars: what the array holds -/
def isRow (n : Nat) (g : Nat → Int32) (r : Nat → Nat) : Prop := ∀ k, k < n → g k = nI (r k) ∧ r k ≤ 7
theorem isRow_upd {n : Nat} {g : Nat → Int32} {r : Nat → Nat} (h : isRow n g r) {j v : Nat} (hj : j < n) (hn : n < 2147483648) (hv : v ≤ 7) : isRow n (upd g (nI j).toNatClampNeg (nI v)) (fun k => if k = j then v else r k) := by
  intro k hk
  rw [nI_clamp (show j < 2 ^ 31 by omega)]
  unfold upd
  by_cases e : k = j
  · simp [e, hv]
  · simp [e, h k hk]
theorem sp_about_out {a b : Int32} (h : ¬ (0 ≤ b ∧ b ≤ 4)) : sp_about a b = -2 := by
  have h0 : ¬ b = 0 := fun e => h (by rw [e]; decide)
  have h1 : ¬ b = 1 := fun e => h (by rw [e]; decide)
  have h2 : ¬ b = 2 := fun e => h (by rw [e]; decide)
  have h3 : ¬ b = 3 := fun e => h (by rw [e]; decide)
  have h4 : ¬ b = 4 := fun e => h (by rw [e]; decide)
  unfold sp_about
  split
  · simp [h0, h1, h2, h3, h4]
  · rfl
theorem four_of {b : Int32} (h : 0 ≤ b ∧ b ≤ 4) (h0 : ¬ b = 0) (h1 : ¬ b = 1) (h2 : ¬ b = 2) (h3 : ¬ b = 3) : b = 4 := by
  have e0 : (0 : Int32).toInt = 0 := by decide
  have e1 : (1 : Int32).toInt = 1 := by decide
  have e2 : (2 : Int32).toInt = 2 := by decide
  have e3 : (3 : Int32).toInt = 3 := by decide
  have e4 : (4 : Int32).toInt = 4 := by decide
  have q1 := Int32.le_iff_toInt_le.mp h.1
  have q2 := Int32.le_iff_toInt_le.mp h.2
  have q3 := ne_toInt e0 h0
  have q4 := ne_toInt e1 h1
  have q5 := ne_toInt e2 h2
  have q6 := ne_toInt e3 h3
  rw [← Int32.toInt_inj, e4]
  omega
def sm_note (a b c d f g : Int32) : Int32 := if 0 ≤ a ∧ a ≤ 47 then (if 0 ≤ b ∧ b ≤ 63 then (if 1 ≤ c ∧ c ≤ 8 then (if 64 < b + c then -2 else (if 0 ≤ d ∧ d ≤ 1 then (if 0 ≤ f ∧ f ≤ 9 then (if (-1) ≤ g ∧ g ≤ 3 then 0 else -2) else -2) else -2)) else -2) else -2) else -2
theorem sm_note_eq (a b c d f g : Int32) : sm_note a b c d f g = sp_note a b c d f g := by
  unfold sm_note sp_note
  by_cases ha : 0 ≤ a ∧ a ≤ 47
  · rw [if_pos ha, if_pos ha]
    by_cases hb : 0 ≤ b ∧ b ≤ 63
    · rw [if_pos hb, if_pos hb]
      have h := note_eq (c := c) hb
      by_cases h1 : (1 ≤ c ∧ c ≤ (if 64 - b < 8 then 64 - b else 8))
      · have h2 := h.mp h1
        rw [if_pos h1, if_pos h2.1, if_neg h2.2]
      · rw [if_neg h1]
        by_cases h3 : 1 ≤ c ∧ c ≤ 8
        · rw [if_pos h3]
          by_cases h4 : 64 < b + c
          · rw [if_pos h4]
          · exact absurd (h.mpr ⟨h3, h4⟩) h1
        · rw [if_neg h3]
    · rw [if_neg hb, if_neg hb]
  · rw [if_neg ha, if_neg ha]
theorem l_pos {y : Nat} (h : ¬ lg_cmp (lN y) 0 = 0) : 0 < y := by
  rcases Nat.eq_zero_or_pos y with e | e
  · exact absurd ((lg_cmp_eq _ _).mpr (by rw [e]; rfl)) h
  · exact e
theorem l_zero {y : Nat} (h : lg_cmp (lN y) 0 = 0) (hy : y < 2147483648) : y = 0 := by
  have h1 := (lg_cmp_eq _ _).mp h
  exact (pk_lEQ (a := y) (b := 0) (by omega) (by omega)).mp h1
theorem lN_ne {y : Nat} (h : 0 < y) (hy : y < 2147483648) : ¬ lN y = 0 := fun e => by
  have := (pk_lEQ (a := y) (b := 0) (by omega) (by omega)).mp e
  omega
theorem fh_ne (a : Int32) : ¬ (if a = 1 then (2 : Int32) else 0) = (-1) := by
  split <;> decide
