theorem rg_back {x y v : Int32} {a b c c2 d e l h : Int} (q : v.toInt = x.toInt + y.toInt) (hv : rg v a b) (hy : rg y c c2) (hx : rg x d e) (k : (l ≤ a - c2 ∨ l ≤ d) ∧ (b - c ≤ h ∨ e ≤ h)) : rg x l h := by
  have h1 := hv.1; have h2 := hv.2; have h3 := hy.1; have h4 := hy.2; have h5 := hx.1; have h6 := hx.2
  exact ⟨by omega, by omega⟩
theorem rg_backS {x y v : Int32} {a b c c2 d e l h : Int} (q : v.toInt = x.toInt - y.toInt) (hv : rg v a b) (hy : rg y c c2) (hx : rg x d e) (k : (l ≤ a + c ∨ l ≤ d) ∧ (b + c2 ≤ h ∨ e ≤ h)) : rg x l h := by
  have h1 := hv.1; have h2 := hv.2; have h3 := hy.1; have h4 := hy.2; have h5 := hx.1; have h6 := hx.2
  exact ⟨by omega, by omega⟩
theorem rg_le2 {x y : Int32} {a b c d : Int} (h : x.toInt ≤ y.toInt) (hx : rg x a b) (hy : rg y c d) : rg x a d := ⟨hx.1, Int.le_trans h hy.2⟩
theorem rg_sub0 {x y v : Int32} {a b : Int} (q : v.toInt = x.toInt - y.toInt) (h : y.toInt ≤ x.toInt) (hv : rg v a b) : rg v 0 b := ⟨by omega, hv.2⟩
/-- some elements' ranges -/
def okV (L : List (Nat × Int × Int)) (f : Nat → Int32) : Prop := ∀ q ∈ L, rg (f q.1) q.2.1 q.2.2
theorem okV_0 (f : Nat → Int32) : okV [] f := fun q h => absurd h List.not_mem_nil
theorem okV_upd {L : List (Nat × Int × Int)} {f : Nat → Int32} {i : Nat} {v : Int32} {lo hi : Int} (h : okV L f) (hv : rg v lo hi) (hi2 : ∀ q ∈ L, q.1 ≠ i) : okV ((i, lo, hi) :: L) (upd f i v) := by
  intro q hq
  rcases List.mem_cons.mp hq with e | e
  · rw [e]
    show rg (upd f i v i) lo hi
    unfold upd
    rw [if_pos rfl]
    exact hv
  · unfold upd
    rw [if_neg (hi2 q e)]
    exact h q e
theorem okV_at {L : List (Nat × Int × Int)} {f : Nat → Int32} (h : okV L f) {i : Nat} {lo hi : Int} (hm : (i, lo, hi) ∈ L) : rg (f i) lo hi := h _ hm
