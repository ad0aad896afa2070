theorem row_at {t : Nat} {g : Nat → Int32} {w : Nat → Nat} (h : isRow t g w) {k : Nat} (hk : k < t) (ht : t ≤ 6) : g (nI k).toNatClampNeg = nI (w k) := by
  rw [nI_clamp (show k < 2 ^ 31 by omega)]
  exact (h k hk).1
theorem row_8 {t : Nat} {g : Nat → Int32} {w : Nat → Nat} (h : isRow t g w) {k : Nat} (hk : k < t) (ht : t ≤ 6) : vp_in (nI (w k)) 8 := vp_in_nI (by have := (h k hk).2; omega) (by omega)
theorem row_7 {t : Nat} {g : Nat → Int32} {w : Nat → Nat} (h : isRow t g w) {k : Nat} (hk : k < t) (e : nI (w k) = 7) : w k = 7 := by
  have h7 := (h k hk).2
  exact (nI_eq (a := w k) (b := 7) (by omega) (by omega)).mp e
theorem row_n7 {t : Nat} {g : Nat → Int32} {w : Nat → Nat} (h : isRow t g w) {k : Nat} (hk : k < t) (e : ¬ nI (w k) = 7) : w k ≤ 6 := by
  have h7 := (h k hk).2
  rcases Nat.lt_or_ge 6 (w k) with q | q
  · exact absurd (by rw [show w k = 7 by omega]; rfl) e
  · exact q
theorem isRow_0 (t : Nat) : isRow t (fun _ => 0) (fun _ => 0) := fun _ _ => ⟨rfl, Nat.zero_le 7⟩
theorem row_step {t n a b : Nat} (h1 : 8 ^ t < a + (n + 1)) (h2 : a < b) : 8 ^ t < b + n := by omega
theorem row_up1 {i q v : Nat} {w2 : Nat → Nat} (hq : i ≤ q) (h : i < q → w2 i = v) : (fun a => if a = q then v else w2 a) i = v := by
  by_cases e : i = q
  · simp [e]
  · simp [e, h (by omega)]
theorem row_lo1 {i q v : Nat} {w w2 : Nat → Nat} (hq : i ≤ q) (h : ∀ a, a < i → w2 a = w a) : ∀ a, a < i → (fun a => if a = q then v else w2 a) a = w a := by
  intro a ha
  simp [show ¬ a = q by omega, h a ha]
theorem one_of2 {z : Int32} (h : z = 0 ∨ z = 1) (h0 : ¬ z = 0) : z = 1 := by
  rcases h with e | e
  · exact absurd e h0
  · exact e
