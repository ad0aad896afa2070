/-! the reference's state: notes, undone, moments, hands, hands kept -/
def okN (f : Nat → Int32) : Prop := rg (f 0) 0 12 ∧ rg (f 100) 0 10 ∧ (∀ k, k < 12 → rg (f (17 + 7 * k)) 0 63) ∧ (∀ k, k < 12 → rg (f (21 + 7 * k)) (-1) 3) ∧ ∀ k, 101 ≤ k → k < 221 → rg (f k) (-1) 3
def okN9 (f : Nat → Int32) : Prop := okN f ∧ rg (f 100) 0 9
def okN1 (f : Nat → Int32) : Prop := okN f ∧ rg (f 0) 0 11
def okK (f : Nat → Int32) : Prop := okN f ∧ okN (fun k => f (221 + k))
theorem clp_of {i : Int32} {n : Int} (q : i.toInt = n) (h : 0 ≤ n) : (i.toNatClampNeg : Int) = n := by
  show ((i.toInt.toNat : Nat) : Int) = n
  rw [q]; exact Int.toNat_of_nonneg h
theorem clp_rg {i : Int32} {a b : Int} (h : rg i a b) (k : 0 ≤ a) : a ≤ (i.toNatClampNeg : Int) ∧ (i.toNatClampNeg : Int) ≤ b := by
  have h1 := h.1; have h2 := h.2
  have e : (i.toNatClampNeg : Int) = i.toInt := clp_of rfl (by omega)
  omega
theorem okN_gen {f : Nat → Int32} {k : Nat} {v : Int32} (h : okN f) (h0 : k = 0 → rg v 0 12) (h1 : k = 100 → rg v 0 10) (h2 : ∀ j, j < 12 → k = 17 + 7 * j → rg v 0 63) (h3 : ∀ j, j < 12 → k = 21 + 7 * j → rg v (-1) 3) (h4 : 101 ≤ k → k < 221 → rg v (-1) 3) : okN (upd f k v) := by
  refine ⟨?_, ?_, fun j hj => ?_, fun j hj => ?_, fun j hj1 hj2 => ?_⟩
  · unfold upd; split
    · rename_i e; exact h0 e.symm
    · exact h.1
  · unfold upd; split
    · rename_i e; exact h1 e.symm
    · exact h.2.1
  · unfold upd; split
    · rename_i e; exact h2 j hj e.symm
    · exact h.2.2.1 j hj
  · unfold upd; split
    · rename_i e; exact h3 j hj e.symm
    · exact h.2.2.2.1 j hj
  · unfold upd; split
    · rename_i e; exact h4 (by omega) (by omega)
    · exact h.2.2.2.2 j hj1 hj2
theorem okN_z {f : Nat → Int32} {k : Nat} {v : Int32} (h : okN f) (hv : rg v 0 0) : okN (upd f k v) := okN_gen h (fun _ => rg_w hv (by decide)) (fun _ => rg_w hv (by decide)) (fun _ _ _ => rg_w hv (by decide)) (fun _ _ _ => rg_w hv (by decide)) (fun _ _ => rg_w hv (by decide))
theorem okN_lo {f : Nat → Int32} {i v : Int32} {a b : Int} (h : okN f) (hi : rg i a b) (k : 0 < a ∧ b < 17) : okN (upd f i.toNatClampNeg v) := by
  have := clp_rg hi (by omega)
  exact okN_gen h (fun e => by omega) (fun e => by omega) (fun j hj e => by omega) (fun j hj e => by omega) (fun _ _ => by omega)
theorem okN_hi {f : Nat → Int32} {i v : Int32} {a b : Int} (h : okN f) (hi : rg i a b) (hv : rg v (-1) 3) (k : 100 < a) : okN (upd f i.toNatClampNeg v) := by
  have := clp_rg hi (by omega)
  exact okN_gen h (fun e => by omega) (fun e => by omega) (fun j hj e => by omega) (fun j hj e => by omega) (fun _ _ => hv)
theorem okN_100 {f : Nat → Int32} {v : Int32} (h : okN f) (hv : rg v 0 10) : okN (upd f (100 : Int32).toNatClampNeg v) := by
  have e : (100 : Int32).toNatClampNeg = 100 := by decide
  rw [e]
  exact okN_gen h (fun e => by omega) (fun _ => hv) (fun j hj e => by omega) (fun j hj e => by omega) (fun _ _ => by omega)
theorem okN_0 {f : Nat → Int32} {v : Int32} (h : okN f) (hv : rg v 0 12) : okN (upd f (0 : Int32).toNatClampNeg v) := by
  have e : (0 : Int32).toNatClampNeg = 0 := by decide
  rw [e]
  exact okN_gen h (fun _ => hv) (fun e => by omega) (fun j hj e => by omega) (fun j hj e => by omega) (fun _ _ => by omega)
theorem okN_7 {f : Nat → Int32} {i b v : Int32} {c : Int} (h : okN f) (q : i.toInt = c + 7 * b.toInt) (rb : rg b 0 11) (hc : c = 16 ∨ (18 ≤ c ∧ c ≤ 20) ∨ c = 22) : okN (upd f i.toNatClampNeg v) := by
  have h1 := rb.1; have h2 := rb.2
  have := clp_of q (by omega)
  exact okN_gen h (fun e => by omega) (fun e => by omega) (fun j hj e => by omega) (fun j hj e => by omega) (fun _ _ => by omega)
theorem okN_17 {f : Nat → Int32} {i b v : Int32} (h : okN f) (q : i.toInt = 17 + 7 * b.toInt) (rb : rg b 0 11) (hv : rg v 0 63) : okN (upd f i.toNatClampNeg v) := by
  have h1 := rb.1; have h2 := rb.2
  have := clp_of q (by omega)
  exact okN_gen h (fun e => by omega) (fun e => by omega) (fun j hj e => hv) (fun j hj e => by omega) (fun _ _ => by omega)
theorem okN_21 {f : Nat → Int32} {i b v : Int32} (h : okN f) (q : i.toInt = 21 + 7 * b.toInt) (rb : rg b 0 11) (hv : rg v (-1) 3) : okN (upd f i.toNatClampNeg v) := by
  have h1 := rb.1; have h2 := rb.2
  have := clp_of q (by omega)
  exact okN_gen h (fun e => by omega) (fun e => by omega) (fun j hj e => by omega) (fun j hj e => hv) (fun _ _ => by omega)
theorem okN_ld {f : Nat → Int32} {i b : Int32} (h : okN f) (q : i.toInt = 17 + 7 * b.toInt) (rb : rg b 0 11) : rg (f i.toNatClampNeg) 0 63 := by
  have h1 := rb.1; have h2 := rb.2
  have h3 := clp_of q (by omega)
  have e : i.toNatClampNeg = 17 + 7 * b.toInt.toNat := by omega
  rw [e]
  exact h.2.2.1 _ (by omega)
theorem okN_ld5 {f : Nat → Int32} {i b : Int32} (h : okN f) (q : i.toInt = 21 + 7 * b.toInt) (rb : rg b 0 11) : rg (f i.toNatClampNeg) (-1) 3 := by
  have h1 := rb.1; have h2 := rb.2
  have h3 := clp_of q (by omega)
  have e : i.toNatClampNeg = 21 + 7 * b.toInt.toNat := by omega
  rw [e]
  exact h.2.2.2.1 _ (by omega)
theorem okN_ldP {f : Nat → Int32} {i : Int32} {a b : Int} (h : okN f) (hi : rg i a b) (k : 101 ≤ a ∧ b < 221) : rg (f i.toNatClampNeg) (-1) 3 := by
  have := clp_rg hi (by omega)
  exact h.2.2.2.2 _ (by omega) (by omega)
theorem okN_cp {f g : Nat → Int32} {k : Nat} (h : okN f) (hg : okN g) : okN (upd f k (g k)) := okN_gen h (fun e => by rw [e]; exact hg.1) (fun e => by rw [e]; exact hg.2.1) (fun j hj e => by rw [e]; exact hg.2.2.1 j hj) (fun j hj e => by rw [e]; exact hg.2.2.2.1 j hj) (fun h1 h2 => hg.2.2.2.2 k h1 h2)
theorem okN_cpK {f g : Nat → Int32} {k : Nat} (h : okN f) (hg : okK g) : okN (upd f k (g (221 + k))) := okN_cp (g := fun j => g (221 + j)) h hg.2
theorem okK_cp0 {f g : Nat → Int32} {k : Nat} (h : okK f) (hg : okN g) (hk : k < 221) : okK (upd f k (g k)) := by
  refine ⟨okN_cp h.1 hg, ?_⟩
  have e : (fun j => upd f k (g k) (221 + j)) = fun j => f (221 + j) := by
    funext j; unfold upd; rw [if_neg (by omega)]
  rw [e]; exact h.2
theorem okK_cp1 {f g : Nat → Int32} {k : Nat} (h : okK f) (hg : okN g) : okK (upd f (221 + k) (g k)) := by
  refine ⟨okN_gen h.1 (fun e => by omega) (fun e => by omega) (fun j hj e => by omega) (fun j hj e => by omega) (fun _ _ => by omega), ?_⟩
  have e : (fun j => upd f (221 + k) (g k) (221 + j)) = upd (fun j => f (221 + j)) k (g k) := by
    funext j; unfold upd
    by_cases q : j = k
    · rw [if_pos q, if_pos (by omega)]
    · rw [if_neg q, if_neg (by omega)]
  rw [e]; exact okN_cp h.2 hg
theorem okN9_hi {f : Nat → Int32} {i v : Int32} {a b : Int} (h : okN9 f) (hi : rg i a b) (hv : rg v (-1) 3) (k : 100 < a) : okN9 (upd f i.toNatClampNeg v) := by
  refine ⟨okN_hi h.1 hi hv k, ?_⟩
  have := clp_rg hi (by omega)
  unfold upd; rw [if_neg (by omega)]; exact h.2
theorem okN9_21 {f : Nat → Int32} {i b v : Int32} (h : okN9 f) (q : i.toInt = 21 + 7 * b.toInt) (rb : rg b 0 11) (hv : rg v (-1) 3) : okN9 (upd f i.toNatClampNeg v) := by
  refine ⟨okN_21 h.1 q rb hv, ?_⟩
  have h1 := rb.1; have h2 := rb.2
  have := clp_of q (by omega)
  unfold upd; rw [if_neg (by omega)]; exact h.2
theorem okN9_st {f : Nat → Int32} {v : Int32} (h : okN f) (hv : rg v 0 9) : okN9 (upd f (100 : Int32).toNatClampNeg v) := by
  refine ⟨okN_100 h (rg_w hv (by decide)), ?_⟩
  have e : (100 : Int32).toNatClampNeg = 100 := by decide
  rw [e]; unfold upd; rw [if_pos rfl]; exact hv
theorem okN1_7 {f : Nat → Int32} {i b v : Int32} {c : Int} (h : okN1 f) (q : i.toInt = c + 7 * b.toInt) (rb : rg b 0 11) (hc : c = 16 ∨ (18 ≤ c ∧ c ≤ 20) ∨ c = 22) : okN1 (upd f i.toNatClampNeg v) := by
  refine ⟨okN_7 h.1 q rb hc, ?_⟩
  have h1 := rb.1; have h2 := rb.2
  have := clp_of q (by omega)
  unfold upd; rw [if_neg (by omega)]; exact h.2
theorem okN1_17 {f : Nat → Int32} {i b v : Int32} (h : okN1 f) (q : i.toInt = 17 + 7 * b.toInt) (rb : rg b 0 11) (hv : rg v 0 63) : okN1 (upd f i.toNatClampNeg v) := by
  refine ⟨okN_17 h.1 q rb hv, ?_⟩
  have h1 := rb.1; have h2 := rb.2
  have := clp_of q (by omega)
  unfold upd; rw [if_neg (by omega)]; exact h.2
theorem okN1_21 {f : Nat → Int32} {i b v : Int32} (h : okN1 f) (q : i.toInt = 21 + 7 * b.toInt) (rb : rg b 0 11) (hv : rg v (-1) 3) : okN1 (upd f i.toNatClampNeg v) := by
  refine ⟨okN_21 h.1 q rb hv, ?_⟩
  have h1 := rb.1; have h2 := rb.2
  have := clp_of q (by omega)
  unfold upd; rw [if_neg (by omega)]; exact h.2
theorem rg_shr1 {x v : Int32} {a b : Int} (e : v = x >>> ((1 : Int32) &&& 31)) (hx : rg x a b) (k : 1 ≤ a ∧ b ≤ 4095) : rg v 0 2047 ∧ v.toInt + 1 ≤ x.toInt := by
  have h1 := hx.1; have h2 := hx.2
  have e0 : (0 : Int32).toInt = 0 := by decide
  have eM : (4095 : Int32).toInt = 4095 := by decide
  obtain ⟨j, hj, rfl⟩ := nI_63 (a := x) (M := 4095) (n := 4095) ⟨Int32.le_iff_toInt_le.mpr (by omega), Int32.le_iff_toInt_le.mpr (by omega)⟩ (by decide)
  have q : v = nI (j / 2) := by
    rw [e, pk_shrN (show j < 2 ^ 31 by omega) _ 1 (by decide)]
  subst q
  have e1 : (nI j).toInt = j := nI_toInt (by omega)
  have e2 : (nI (j / 2)).toInt = ((j / 2 : Nat) : Int) := nI_toInt (by omega)
  refine ⟨⟨?_, ?_⟩, ?_⟩ <;> rw [e2] <;> omega
theorem w_lt (a b : Int32) : a.toInt64 < b.toInt64 ↔ a < b := by
  rw [Int64.lt_iff_toInt_lt, Int32.lt_iff_toInt_lt, Int32.toInt_toInt64, Int32.toInt_toInt64]
theorem m_ge {a b : Int32} (h : ¬ lg_cmp a.toInt64 b.toInt64 < 0) : b ≤ a := by
  rw [lg_cmp_lt, w_lt] at h
  exact Int32.not_lt.mp h
theorem m_le {a b : Int32} (h : ¬ 0 < lg_cmp a.toInt64 b.toInt64) : a ≤ b := by
  rw [lg_cmp_gt, w_lt] at h
  exact Int32.not_lt.mp h
theorem m_lt {a b : Int32} (h : lg_cmp a.toInt64 b.toInt64 < 0) : ¬ b ≤ a := by
  rw [lg_cmp_lt, w_lt] at h
  exact Int32.not_le.mpr h
theorem m_gt {a b : Int32} (h : 0 < lg_cmp a.toInt64 b.toInt64) : ¬ a ≤ b := by
  rw [lg_cmp_gt, w_lt] at h
  exact Int32.not_le.mpr h
theorem asub2 {x y v : Int32} (e : v = x + y) : v - y = x := by subst e; exact Int32.add_sub_cancel x y
theorem asub1 {x y v : Int32} (e : v = x + y) : v - x = y := by subst e; rw [Int32.add_comm]; exact Int32.add_sub_cancel y x
theorem okN_ix {i b : Int32} (q : i.toInt = 17 + 7 * b.toInt) (rb : rg b 0 11) : i.toNatClampNeg = 17 + 7 * b.toInt.toNat := by
  have h1 := rb.1; have h2 := rb.2
  have h3 := clp_of q (by omega)
  omega
theorem upd_same (f : Nat → Int32) (k : Nat) (v : Int32) : upd f k v k = v := by unfold upd; rw [if_pos rfl]
theorem rg_shl11 {y v : Int32} {a b : Int} (e : v = 1 <<< (y &&& 31)) (hy : rg y a b) (k : 0 ≤ a ∧ b ≤ 11) : rg v 1 2048 := by
  have h1 := hy.1; have h2 := hy.2
  have e0 : (0 : Int32).toInt = 0 := by decide
  have e12 : (11 : Int32).toInt = 11 := by decide
  obtain ⟨j, hj, rfl⟩ := nI_63 (a := y) (M := 11) (n := 11) ⟨Int32.le_iff_toInt_le.mpr (by omega), Int32.le_iff_toInt_le.mpr (by omega)⟩ (by decide)
  subst e
  rcases (show j = 0 ∨ j = 1 ∨ j = 2 ∨ j = 3 ∨ j = 4 ∨ j = 5 ∨ j = 6 ∨ j = 7 ∨ j = 8 ∨ j = 9 ∨ j = 10 ∨ j = 11 by omega) with rfl | rfl | rfl | rfl | rfl | rfl | rfl | rfl | rfl | rfl | rfl | rfl <;> exact rg_of (by decide)
theorem rg_or {x y v : Int32} {a b c d : Int} (e : v = x ||| y) (hx : rg x a b) (hy : rg y c d) (k : 0 ≤ a ∧ b ≤ 4095 ∧ 0 ≤ c ∧ d ≤ 4095) : rg v 0 4095 := by
  subst e
  have x0 : 0 ≤ x.toInt := Int.le_trans k.1 hx.1
  have y0 : 0 ≤ y.toInt := Int.le_trans k.2.2.1 hy.1
  have mx : x.toBitVec.msb = false := by
    rw [BitVec.msb_eq_toInt]; exact decide_eq_false (Int.not_lt.mpr x0)
  have my : y.toBitVec.msb = false := by
    rw [BitVec.msb_eq_toInt]; exact decide_eq_false (Int.not_lt.mpr y0)
  have mv : (x ||| y).toBitVec.msb = false := by
    rw [Int32.toBitVec_or, BitVec.msb_or, mx, my]; rfl
  have e1 : (x ||| y).toInt = ((x ||| y).toBitVec.toNat : Int) := BitVec.toInt_eq_toNat_of_msb mv
  have e2 : y.toInt = (y.toBitVec.toNat : Int) := BitVec.toInt_eq_toNat_of_msb my
  have e3 : x.toInt = (x.toBitVec.toNat : Int) := BitVec.toInt_eq_toNat_of_msb mx
  have h2 := hx.2; have h4 := hy.2
  have lx : x.toBitVec.toNat < 2 ^ 12 := by omega
  have ly : y.toBitVec.toNat < 2 ^ 12 := by omega
  have lv : (x ||| y).toBitVec.toNat < 2 ^ 12 := by
    rw [Int32.toBitVec_or, BitVec.toNat_or]; exact Nat.or_lt_two_pow lx ly
  exact ⟨by omega, by omega⟩
