abbrev TY (cI cZ cP : ClassId) : List (ClassId × FieldType) := [(cI, .int), (cZ, .boolean), (cP, .object RX3)]
theorem vin {i : Int32} {n : Nat} (h : decide (¬ (i < 0 ∨ n ≤ i.toNatClampNeg)) = true) : vp_in i n := by
  unfold vp_in
  exact of_decide_eq_true h
theorem upd_c {v : Int32} {k : Nat} : upd (fun _ => v) k v = fun _ => v := by
  funext j
  unfold upd
  split <;> rfl
theorem no_neg (a : Int32) : ¬ (0 ≤ a ∧ a ≤ (-1)) := by
  intro h
  have h1 := Int32.le_iff_toInt_le.mp h.1
  have h2 := Int32.le_iff_toInt_le.mp h.2
  have e1 : (0 : Int32).toInt = 0 := by decide
  have e2 : (-1 : Int32).toInt = -1 := by decide
  omega
