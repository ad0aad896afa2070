def nw0 : Nat → Int32 := fun k => if k = 1 then 2 else if k < 4 then 0 else if k < 16 then (if k % 3 = 2 then 9 else if k % 3 = 0 then 4 else 0) else 0
theorem nw0_0 {k : Nat} (h : 16 ≤ k) : nw0 k = 0 := by
  unfold nw0
  rw [if_neg (by omega), if_neg (by omega), if_neg (by omega)]
theorem okN_nw0 : okN nw0 := by
  refine ⟨rg_of (by decide), rg_of (by decide), fun k hk => ?_, fun k hk => ?_, fun k h1 h2 => ?_⟩
  · rw [nw0_0 (by omega)]; exact rg_of (by decide)
  · rw [nw0_0 (by omega)]; exact rg_of (by decide)
  · rw [nw0_0 (by omega)]; exact rg_of (by decide)
theorem okN_c0 : okN (fun _ => 0) := ⟨rg_of (by decide), rg_of (by decide), fun _ _ => (rg_of (by decide) : rg (0 : Int32) 0 63), fun _ _ => (rg_of (by decide) : rg (0 : Int32) (-1) 3), fun _ _ _ => (rg_of (by decide) : rg (0 : Int32) (-1) 3)⟩
theorem okK_c0 : okK (fun _ => 0) := ⟨okN_c0, okN_c0⟩
