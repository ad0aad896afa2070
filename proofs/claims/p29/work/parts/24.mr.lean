theorem okK_st {f g : Nat → Int32} {i k p : Int32} (h : okK f) (hg : okN g) (q : i.toInt = 221 * p.toInt + k.toInt) (rp : rg p 0 1) (rk : rg k 0 220) : okK (upd f i.toNatClampNeg (g k.toNatClampNeg)) := by
  have h1 := rp.1; have h2 := rp.2; have h3 := rk.1; have h4 := rk.2
  have e1 := clp_of q (by omega)
  have e2 := clp_of (i := k) rfl h3
  have hp : p.toInt = 0 ∨ p.toInt = 1 := by omega
  rcases hp with e | e
  · have e3 : i.toNatClampNeg = k.toNatClampNeg := by omega
    rw [e3]
    exact okK_cp0 h hg (by omega)
  · have e3 : i.toNatClampNeg = 221 + k.toNatClampNeg := by omega
    rw [e3]
    exact okK_cp1 h hg
theorem okN_st {f g : Nat → Int32} {i k p : Int32} (h : okN f) (hg : okK g) (q : i.toInt = 221 * p.toInt + k.toInt) (rp : rg p 0 1) (rk : rg k 0 220) : okN (upd f k.toNatClampNeg (g i.toNatClampNeg)) := by
  have h1 := rp.1; have h2 := rp.2; have h3 := rk.1; have h4 := rk.2
  have e1 := clp_of q (by omega)
  have e2 := clp_of (i := k) rfl h3
  have hp : p.toInt = 0 ∨ p.toInt = 1 := by omega
  rcases hp with e | e
  · have e3 : i.toNatClampNeg = k.toNatClampNeg := by omega
    rw [e3]
    exact okN_cp h hg.1
  · have e3 : i.toNatClampNeg = 221 + k.toNatClampNeg := by omega
    rw [e3]
    exact okN_cpK h hg
