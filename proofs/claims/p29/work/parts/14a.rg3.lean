theorem rg_backT {x y v : Int32} {a b c c2 d e l h : Int} (q : v.toInt = x.toInt - y.toInt) (hv : rg v a b) (hx : rg x c c2) (hy : rg y d e) (k : (l ≤ c - b ∨ l ≤ d) ∧ (c2 - a ≤ h ∨ e ≤ h)) : rg y l h := by
  have h1 := hv.1; have h2 := hv.2; have h3 := hy.1; have h4 := hy.2; have h5 := hx.1; have h6 := hx.2
  exact ⟨by omega, by omega⟩
theorem okV_keep {L : List (Nat × Int × Int)} {f : Nat → Int32} {i : Nat} {v : Int32} (h : okV L f) (hi2 : ∀ q ∈ L, q.1 ≠ i) : okV L (upd f i v) := by
  intro q hq
  unfold upd
  rw [if_neg (hi2 q hq)]
  exact h q hq
theorem rg_shl1 {y v : Int32} {a b : Int} (e : v = 1 <<< (y &&& 31)) (hy : rg y a b) (k : 0 ≤ a ∧ b ≤ 12) : rg v 1 4096 := by
  have h1 := hy.1; have h2 := hy.2
  have e0 : (0 : Int32).toInt = 0 := by decide
  have e12 : (12 : Int32).toInt = 12 := by decide
  obtain ⟨j, hj, rfl⟩ := nI_63 (a := y) (M := 12) (n := 12) ⟨Int32.le_iff_toInt_le.mpr (by omega), Int32.le_iff_toInt_le.mpr (by omega)⟩ (by decide)
  subst e
  rcases (show j = 0 ∨ j = 1 ∨ j = 2 ∨ j = 3 ∨ j = 4 ∨ j = 5 ∨ j = 6 ∨ j = 7 ∨ j = 8 ∨ j = 9 ∨ j = 10 ∨ j = 11 ∨ j = 12 by omega) with rfl | rfl | rfl | rfl | rfl | rfl | rfl | rfl | rfl | rfl | rfl | rfl | rfl <;> exact rg_of (by decide)
