abbrev TY (cI cZ cP : ClassId) : List (ClassId × FieldType) := [(cI, .int), (cZ, .boolean), (cP, .object RX3)]
theorem vin {i : Int32} {n : Nat} (h : decide (¬ (i < 0 ∨ n ≤ i.toNatClampNeg)) = true) : vp_in i n := by
  unfold vp_in
  exact of_decide_eq_true h
theorem upd_c {v : Int32} {k : Nat} : upd (fun _ => v) k v = fun _ => v := by
  funext j
  unfold upd
  split <;> rfl
theorem no_neg (a : Int32) : ¬ (0 ≤ a ∧ a ≤ (-1)) := by
  intro h
  have h1 := Int32.le_iff_toInt_le.mp h.1
  have h2 := Int32.le_iff_toInt_le.mp h.2
  have e1 : (0 : Int32).toInt = 0 := by decide
  have e2 : (-1 : Int32).toInt = -1 := by decide
  omega
theorem vin_le {x M : Int32} {n : Nat} (h : 0 ≤ x ∧ x ≤ M) (hM : M.toInt < n) : vp_in x n := by
  rw [vp_in_iff]
  have h1 := Int32.le_iff_toInt_le.mp h.1
  have h2 := Int32.le_iff_toInt_le.mp h.2
  have e1 : (0 : Int32).toInt = 0 := by decide
  omega
theorem ne_toInt {x v : Int32} {n : Int} (hv : v.toInt = n) (h : ¬ x = v) : x.toInt ≠ n := fun e => h (Int32.toInt_inj.mp (by rw [e, hv]))
theorem va_cong {D : va_G} {cl : List vw_C} {ws : va_W} {H : Heap} {q n : Nat} {cA : ClassId} {f g : Nat → Int32} (hP : va_P D cl ws H) (k : Nat) (he : ws[k]? = some (q, .inl (cA, n, .inl f))) (hfg : ∀ j, j < n → f j = g j) : va_P D cl (ws.set k (q, .inl (cA, n, .inl g))) H := by
  intro i x hx
  by_cases hik : k = i
  · subst hik
    have hl : k < ws.length := (List.getElem?_eq_some_iff.mp he).1
    rw [List.getElem?_set_self hl] at hx
    cases hx
    have h1 : H[q]? = some (vp_cell cA (n, .inl f)) := hP k _ he
    show H[q]? = some (vp_cell cA (n, .inl g))
    rw [h1]
    congr 1
    rw [vp_cell_i, vp_cell_i]
    unfold arrV
    congr 1
    ext j h1 h2
    · simp
    · simp at h1
      simp [hfg j h1]
  · rw [List.getElem?_set_ne hik] at hx
    exact hP i x hx
theorem va_congD {A : Nat → Prop} {ws : va_W} {q : Nat} {e g : va_E} (hD : va_D A ws) (k : Nat) (he : ws[k]? = some (q, e)) : va_D A (ws.set k (q, g)) := by
  have hl : k < ws.length := (List.getElem?_eq_some_iff.mp he).1
  have key : ∀ (i : Nat) (x : Nat × va_E), (ws.set k (q, g))[i]? = some x → ∃ y : Nat × va_E, ws[i]? = some y ∧ y.1 = x.1 := by
    intro i x hx
    by_cases hik : k = i
    · subst hik
      rw [List.getElem?_set_self hl] at hx
      cases hx
      exact ⟨_, he, rfl⟩
    · rw [List.getElem?_set_ne hik] at hx
      exact ⟨x, hx, rfl⟩
  refine ⟨fun i j x y hx hy hxy => ?_, fun i x hx => ?_⟩
  · obtain ⟨x', h1, h2⟩ := key i x hx
    obtain ⟨y', h3, h4⟩ := key j y hy
    exact hD.1 i j x' y' h1 h3 (by rw [h2, h4, hxy])
  · obtain ⟨x', h1, h2⟩ := key i x hx
    rw [← h2]
    exact hD.2 i x' h1
/-! what the calls answer on a new object -/
def sp_piece (a : Int32) : Int32 := if 0 ≤ a ∧ a ≤ 9 then 0 else -2
def sp_hand (a b c d : Int32) : Int32 := if 0 ≤ a ∧ a ≤ 3 then (if 0 ≤ b ∧ b ≤ 5 then (if 0 ≤ c ∧ c ≤ 15 then (if 1 ≤ d ∧ d ≤ 9 then 0 else -2) else -2) else -2) else -2
def sp_type (a : Int32) : Int32 := if 0 ≤ a ∧ a ≤ 127 then 1 else -2
def sp_about (a b : Int32) : Int32 := if 0 ≤ a ∧ a ≤ 3 then (if b = 0 then 0 else if b = 1 then 9 else if b = 2 then 4 else if b = 3 then 2 else if b = 4 then 0 else -2) else -2
def sp_clashes (a b : Int32) : Int32 := if (-1) ≤ a ∧ a ≤ 5 then (if b < (-1) then -10 else if b = (-1) then 0 else -5) else -10
def sp_given (a b : Int32) : Int32 := if 0 ≤ a ∧ a ≤ 2 then (if b < (-1) then -10 else if b = (-1) then 0 else -5) else -10
def sp_fingers (a b : Int32) : Int32 := if 0 ≤ a ∧ a ≤ 3 then (if b < (-1) then -10 else if b = (-1) then 0 else -5) else -10
def sp_pedal (a b : Int32) : Int32 := if 0 ≤ b ∧ b ≤ 64 then (if 0 ≤ a ∧ a ≤ b then 1 else -2) else -2
def sp_blurs (a : Int32) : Int32 := if 0 ≤ a ∧ a ≤ 1 then 0 else -2
def sp_turns (a b c : Int32) : Int32 := if 0 ≤ a ∧ a ≤ 63 then (if 0 ≤ b ∧ b ≤ 9 then (if (-1) ≤ c ∧ c ≤ 1 then 10 * a + (if c = 1 then 2 else 0) else -2) else -2) else -2
def sp_practice (a b : Int32) : Int32 := if 0 ≤ a ∧ a ≤ 6 then (if b < (-1) then -10 else if b = (-1) then 0 else if b < a then 0 else -5) else -10
def sp_breath (a b : Int32) : Int32 := if 0 ≤ a ∧ a ≤ 20 then (if 0 ≤ b ∧ b ≤ 20 then 1 else -2) else -2
def sp_evening (a b : Int32) : Int32 := if 0 ≤ a ∧ a ≤ 999999 then (if 0 ≤ b ∧ b ≤ 100 then 0 else -2) else -2
def sp_part (a : Int32) : Int64 := if 0 ≤ a ∧ a ≤ 1 then (if a = 0 then 0 else 1) else -2
def sp_image (a : Int32) : Int32 := if 0 ≤ a ∧ a ≤ 1 then 1 else -2
def sp_from (a : Int32) : Int32 := if 0 ≤ a ∧ a ≤ 1 then -3 else -2
def sp_status (a : Int32) : Int32 := if 0 ≤ a ∧ a ≤ 2 then 0 else -1
def sp_count (a : Int32) : Int32 := if 0 ≤ a ∧ a ≤ 5 then (if a = 2 then 2 else 0) else -2
def sp_note (a b c d f g : Int32) : Int32 := if 0 ≤ a ∧ a ≤ 47 then (if 0 ≤ b ∧ b ≤ 63 then (if 1 ≤ c ∧ c ≤ (if 64 - b < 8 then 64 - b else 8) then (if 0 ≤ d ∧ d ≤ 1 then (if 0 ≤ f ∧ f ≤ 9 then (if (-1) ≤ g ∧ g ≤ 3 then 0 else -2) else -2) else -2) else -2) else -2) else -2
theorem bit_iff (a : Int32) : (0 ≤ a ∧ a ≤ 1) ↔ (a = 0 ∨ a = 1) := by
  have e0 : (0 : Int32).toInt = 0 := by decide
  have e1 : (1 : Int32).toInt = 1 := by decide
  rw [Int32.le_iff_toInt_le, Int32.le_iff_toInt_le, ← Int32.toInt_inj, ← Int32.toInt_inj, e0, e1]
  omega
theorem tri_iff (a : Int32) : (0 ≤ a ∧ a ≤ 2) ↔ (a = 0 ∨ a = 1 ∨ a = 2) := by
  have e0 : (0 : Int32).toInt = 0 := by decide
  have e1 : (1 : Int32).toInt = 1 := by decide
  have e2 : (2 : Int32).toInt = 2 := by decide
  rw [Int32.le_iff_toInt_le, Int32.le_iff_toInt_le, ← Int32.toInt_inj, ← Int32.toInt_inj, ← Int32.toInt_inj, e0, e1, e2]
  omega
theorem six_iff (a : Int32) : (0 ≤ a ∧ a ≤ 5) ↔ (a = 0 ∨ a = 1 ∨ a = 2 ∨ a = 3 ∨ a = 4 ∨ a = 5) := by
  have e0 : (0 : Int32).toInt = 0 := by decide
  have e1 : (1 : Int32).toInt = 1 := by decide
  have e2 : (2 : Int32).toInt = 2 := by decide
  have e3 : (3 : Int32).toInt = 3 := by decide
  have e4 : (4 : Int32).toInt = 4 := by decide
  have e5 : (5 : Int32).toInt = 5 := by decide
  simp only [Int32.le_iff_toInt_le, ← Int32.toInt_inj, e0, e1, e2, e3, e4, e5]
  omega
theorem upd_nI {g : Nat → Int32} {k n : Nat} {v : Int32} (hk : k < n) (hn : n < 2147483648) (hg : ∀ j, j < k → g j = v) : ∀ j, j < k + 1 → upd g (nI k).toNatClampNeg v j = v := by
  intro j hj
  rw [nI_clamp (show k < 2 ^ 31 by omega)]
  unfold upd
  split
  · rfl
  · exact hg j (by omega)
theorem nI_dn {a b : Nat} (h : nI a ≤ nI b) (ha : a < 2147483648) (hb : b < 2147483648) : a ≤ b := (nI_leI ha hb).mp h
theorem nI_dnn {a b : Nat} (h : ¬ nI a ≤ nI b) (ha : a < 2147483648) (hb : b < 2147483648) : b < a := Nat.lt_of_not_le (fun q => h ((nI_leI ha hb).mpr q))
theorem shr_0 (y : Int32) : (0 : Int32) >>> (y &&& 31) = 0 := by
  first | (simp; done) | (rw [← Int32.toBitVec_inj]; simp; done) | (rw [← Int32.toInt_inj]; simp; done)
