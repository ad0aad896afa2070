section QV
variable {p : Program} {l : Launch} {e : Env} {R : Room} {s : State} {m : MethodId} {args : Array Value} {below : List Frame} {meth : Method} {c : Code} {H : Heap} {locs : List Loc} {cells slots : Nat} {Q : State → Prop} {pc : Nat} {ls : Array Slot} {rest : List Value}
theorem q_v {v w : Value} (h : v = w) (k : W p l e R s m args below meth c H locs cells slots Q (F0 m pc ls (w :: rest))) : W p l e R s m args below meth c H locs cells slots Q (F0 m pc ls (v :: rest)) := by rw [h]; exact k
end QV
theorem pos_ne {x : Int32} (h : ¬ x ≤ 0) : ¬ x = 0 := fun e => h (by rw [e]; decide)
theorem nI_up {m M : Int32} {k N : Nat} (h : ¬ m < nI k) (hm : m ≤ M) (hM : M.toInt = N) (hk : k < 2147483648) : k ≤ N := by
  have h1 := Int32.le_iff_toInt_le.mp (Int32.not_lt.mp h)
  have h2 := Int32.le_iff_toInt_le.mp hm
  rw [nI_toInt hk] at h1
  omega
theorem nI_lit {v : Int32} {N x : Nat} (hv : v = nI N) (h : ¬ v < nI x) (hx : x < 2147483648) (hN : N < 2147483648) : x ≤ N := by
  rw [hv] at h
  exact Nat.le_of_not_lt (fun q => h ((nI_ltI hN hx).mpr q))
theorem turn_ne {a b : Int32} (ha : 0 ≤ a ∧ a ≤ 63) : ¬ (10 * a + (if b = 1 then 2 else 0)) = (-1) := by
  have h1 := Int32.le_iff_toInt_le.mp ha.1
  have h2 := Int32.le_iff_toInt_le.mp ha.2
  have e0 : (0 : Int32).toInt = 0 := by decide
  have e1 : (63 : Int32).toInt = 63 := by decide
  rw [e0] at h1
  rw [e1] at h2
  obtain ⟨k, hk, rfl⟩ := nI_of2 (x := a) (M := 63) (n := 63) (by decide) (Int32.not_lt.mpr ha.1) ha.2
  intro h
  have hq : ∃ d : Nat, d ≤ 2 ∧ (if b = 1 then (2 : Int32) else 0) = nI d := by
    split
    · exact ⟨2, by omega, rfl⟩
    · exact ⟨0, by omega, rfl⟩
  obtain ⟨d, hd, e⟩ := hq
  rw [e, show (10 : Int32) = nI 10 from rfl, pk_mul, nI_add] at h
  have h3 := congrArg Int32.toInt h
  rw [nI_toInt (by omega)] at h3
  have e2 : (-1 : Int32).toInt = -1 := by decide
  rw [e2] at h3
  omega
theorem one_of {a : Int32} (h : (-1) ≤ a ∧ a ≤ 1) (h1 : ¬ a = (-1)) (h0 : ¬ a = 0) : a = 1 := by
  have e0 : (0 : Int32).toInt = 0 := by decide
  have e1 : (1 : Int32).toInt = 1 := by decide
  have e2 : (-1 : Int32).toInt = -1 := by decide
  have q1 := Int32.le_iff_toInt_le.mp h.1
  have q2 := Int32.le_iff_toInt_le.mp h.2
  have q3 := ne_toInt e2 h1
  have q4 := ne_toInt e0 h0
  rw [← Int32.toInt_inj, e1]
  omega
theorem sub_1 (i : Nat) : nI i + Int32.ofInt (-1) = nI i - 1 := by
  rw [Int32.sub_eq_add_neg]; rfl
theorem row_in {a b : Int32} (ha : 0 ≤ a ∧ a ≤ 6) (h1 : (-1) ≤ b) (h2 : ¬ b = (-1)) (h3 : b < a) : vp_in b 6 := by
  rw [vp_in_iff]
  have e0 : (0 : Int32).toInt = 0 := by decide
  have e2 : (-1 : Int32).toInt = -1 := by decide
  have e6 : (6 : Int32).toInt = 6 := by decide
  have q1 := Int32.le_iff_toInt_le.mp ha.2
  have q2 := Int32.le_iff_toInt_le.mp h1
  have q3 := ne_toInt e2 h2
  have q4 := Int32.lt_iff_toInt_lt.mp h3
  omega
theorem nI_63 {a : Int32} {M : Int32} {n : Nat} (h : 0 ≤ a ∧ a ≤ M) (hM : M.toInt = n) : ∃ t : Nat, t ≤ n ∧ a = (nI t) := by
  obtain ⟨t, h1, h2⟩ := nI_of2 (x := a) (M := M) (n := n) hM (Int32.not_lt.mpr h.1) h.2
  exact ⟨t, h1, h2⟩
theorem ge0 {b : Int32} (h : (-1) ≤ b) (h2 : ¬ b = (-1)) : 0 ≤ b := by
  rw [Int32.le_iff_toInt_le]
  have e0 : (0 : Int32).toInt = 0 := by decide
  have e2 : (-1 : Int32).toInt = -1 := by decide
  have q2 := Int32.le_iff_toInt_le.mp h
  have q3 := ne_toInt e2 h2
  omega
theorem nlt1 {b : Int32} (h : (-1) ≤ b) : ¬ b < (-1) := Int32.not_lt.mpr h
theorem yes1 {b : Int32} (h : ¬ (-1) ≤ b) : b < (-1) := Int32.not_le.mp h
