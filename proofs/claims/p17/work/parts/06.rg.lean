/-! ranges -/
def rg (x : Int32) (a b : Int) : Prop := a ≤ x.toInt ∧ x.toInt ≤ b
def ar (f : Nat → Int32) (a b : Int) : Prop := ∀ k, rg (f k) a b
theorem rg_of {x : Int32} {a b : Int} (h : decide (a ≤ x.toInt ∧ x.toInt ≤ b) = true) : rg x a b := of_decide_eq_true h
theorem rg_any (x : Int32) : rg x (-2147483648) 2147483647 := ⟨x.le_toInt, Int.le_of_lt_add_one x.toInt_lt⟩
theorem rg_w {x : Int32} {a b c d : Int} (h : rg x a b) (k : c ≤ a ∧ b ≤ d) : rg x c d := ⟨Int.le_trans k.1 h.1, Int.le_trans h.2 k.2⟩
theorem ar_w {f : Nat → Int32} {a b c d : Int} (h : ar f a b) (k : c ≤ a ∧ b ≤ d) : ar f c d := fun i => rg_w (h i) k
theorem ar_c {v : Int32} {a b : Int} (h : rg v a b) : ar (fun _ => v) a b := fun _ => h
theorem ar_upd {f : Nat → Int32} {k : Nat} {v : Int32} {a b : Int} (h : ar f a b) (hv : rg v a b) : ar (upd f k v) a b := by
  intro j
  unfold upd
  split
  · exact hv
  · exact h j
theorem ar_cpy {f g : Nat → Int32} {sp dp n : Nat} {a b : Int} (h : ar f a b) (hg : ar g a b) : ar (va_cpy f g sp dp n) a b := by
  intro j
  unfold va_cpy
  split
  · exact h _
  · exact hg j
theorem rg_in {x : Int32} {a b : Int} {n : Nat} (h : rg x a b) (k : 0 ≤ a ∧ b < n) : vp_in x n := by
  rw [vp_in_iff]
  exact ⟨Int.le_trans k.1 h.1, Int.lt_of_le_of_lt h.2 k.2⟩
theorem bm32 {n : Int} (h1 : -2147483648 ≤ n) (h2 : n ≤ 2147483647) : n.bmod (2 ^ 32) = n := Int.bmod_eq_of_le (by omega) (by omega)
theorem rg_add {x y v : Int32} {a b c d l h : Int} (e : v = x + y) (hx : rg x a b) (hy : rg y c d) (k : l ≤ a + c ∧ b + d ≤ h ∧ -2147483648 ≤ a + c ∧ b + d ≤ 2147483647) : rg v l h ∧ v.toInt = x.toInt + y.toInt := by
  have q : v.toInt = x.toInt + y.toInt := by
    rw [e, Int32.toInt_add]; exact bm32 (by have := hx.1; have := hy.1; omega) (by have := hx.2; have := hy.2; omega)
  refine ⟨⟨?_, ?_⟩, q⟩
  · rw [q]; have := hx.1; have := hy.1; omega
  · rw [q]; have := hx.2; have := hy.2; omega
theorem rg_sub {x y v : Int32} {a b c d l h : Int} (e : v = x - y) (hx : rg x a b) (hy : rg y c d) (k : l ≤ a - d ∧ b - c ≤ h ∧ -2147483648 ≤ a - d ∧ b - c ≤ 2147483647) : rg v l h ∧ v.toInt = x.toInt - y.toInt := by
  have q : v.toInt = x.toInt - y.toInt := by
    rw [e, Int32.toInt_sub]; exact bm32 (by have := hx.1; have := hy.2; omega) (by have := hx.2; have := hy.1; omega)
  refine ⟨⟨?_, ?_⟩, q⟩
  · rw [q]; have := hx.1; have := hy.2; omega
  · rw [q]; have := hx.2; have := hy.1; omega
theorem mul_bd {x y a b c d : Int} (h1 : a ≤ x) (h2 : x ≤ b) (h3 : c ≤ y) (h4 : y ≤ d) : (a * c ≤ x * y ∨ a * d ≤ x * y ∨ b * c ≤ x * y ∨ b * d ≤ x * y) ∧ (x * y ≤ a * c ∨ x * y ≤ a * d ∨ x * y ≤ b * c ∨ x * y ≤ b * d) := by
  rcases Int.le_total 0 y with hy | hy
  · have u1 : a * y ≤ x * y := Int.mul_le_mul_of_nonneg_right h1 hy
    have u2 : x * y ≤ b * y := Int.mul_le_mul_of_nonneg_right h2 hy
    refine ⟨?_, ?_⟩
    · rcases Int.le_total 0 a with ha | ha
      · have := Int.mul_le_mul_of_nonneg_left h3 ha; omega
      · have := Int.mul_le_mul_of_nonpos_left ha h4; omega
    · rcases Int.le_total 0 b with hb | hb
      · have := Int.mul_le_mul_of_nonneg_left h4 hb; omega
      · have := Int.mul_le_mul_of_nonpos_left hb h3; omega
  · have u1 : x * y ≤ a * y := Int.mul_le_mul_of_nonpos_right h1 hy
    have u2 : b * y ≤ x * y := Int.mul_le_mul_of_nonpos_right h2 hy
    refine ⟨?_, ?_⟩
    · rcases Int.le_total 0 b with hb | hb
      · have := Int.mul_le_mul_of_nonneg_left h3 hb; omega
      · have := Int.mul_le_mul_of_nonpos_left hb h4; omega
    · rcases Int.le_total 0 a with ha | ha
      · have := Int.mul_le_mul_of_nonneg_left h4 ha; omega
      · have := Int.mul_le_mul_of_nonpos_left ha h3; omega
theorem rg_mul {x y v : Int32} {a b c d l h : Int} (e : v = x * y) (hx : rg x a b) (hy : rg y c d) (k : (l ≤ a * c ∧ l ≤ a * d ∧ l ≤ b * c ∧ l ≤ b * d) ∧ (a * c ≤ h ∧ a * d ≤ h ∧ b * c ≤ h ∧ b * d ≤ h) ∧ -2147483648 ≤ l ∧ h ≤ 2147483647) : rg v l h ∧ v.toInt = x.toInt * y.toInt := by
  obtain ⟨m1, m2⟩ := mul_bd hx.1 hx.2 hy.1 hy.2
  generalize hp : x.toInt * y.toInt = p at m1 m2
  generalize a * c = p1 at k m1 m2
  generalize a * d = p2 at k m1 m2
  generalize b * c = p3 at k m1 m2
  generalize b * d = p4 at k m1 m2
  have q : v.toInt = p := by
    rw [e, Int32.toInt_mul, hp]; exact bm32 (by omega) (by omega)
  exact ⟨⟨by omega, by omega⟩, q⟩
theorem rg_div {x y v : Int32} {a b c l h : Int} (e : v = x / y) (hx : rg x a b) (hy : rg y c c) (k : 0 ≤ a ∧ 0 < c ∧ l ≤ 0 ∧ b ≤ h) : rg v l h := by
  have hc : y.toInt = c := Int.le_antisymm hy.2 hy.1
  have q : v.toInt = x.toInt.tdiv y.toInt := by
    rw [e, Int32.toInt_div_of_ne_left]
    intro hm
    have := hx.1
    rw [hm] at this
    have h2 : (Int32.minValue).toInt = -2147483648 := by decide
    omega
  have h0 : 0 ≤ x.toInt := Int.le_trans k.1 hx.1
  rw [hc, Int.tdiv_eq_ediv_of_nonneg h0] at q
  have h1 : 0 ≤ x.toInt / c := Int.ediv_nonneg h0 (by omega)
  have h2 : x.toInt / c ≤ x.toInt := Int.ediv_le_self c h0
  have := hx.2
  exact ⟨by omega, by omega⟩
theorem rg_div2 {x y v : Int32} {a b c l h : Int} (e : v = x / y) (hx : rg x a b) (hy : rg y c c) (k : 0 ≤ a ∧ 0 < c ∧ l ≤ 0 ∧ b / c ≤ h) : rg v l h := by
  have hc : y.toInt = c := Int.le_antisymm hy.2 hy.1
  have q : v.toInt = x.toInt.tdiv y.toInt := by
    rw [e, Int32.toInt_div_of_ne_left]
    intro hm
    have := hx.1
    rw [hm] at this
    have h2 : (Int32.minValue).toInt = -2147483648 := by decide
    omega
  have h0 : 0 ≤ x.toInt := Int.le_trans k.1 hx.1
  rw [hc, Int.tdiv_eq_ediv_of_nonneg h0] at q
  have h1 : 0 ≤ x.toInt / c := Int.ediv_nonneg h0 (by omega)
  have h2 : x.toInt / c ≤ b / c := Int.ediv_le_ediv (by omega) hx.2
  exact ⟨by omega, by omega⟩
theorem rg_if {x y : Int32} {a b c d l h : Int} {P : Prop} [Decidable P] (hx : rg x a b) (hy : rg y c d) (k : l ≤ a ∧ l ≤ c ∧ b ≤ h ∧ d ≤ h) : rg (if P then x else y) l h := by
  split
  · exact rg_w hx ⟨k.1, k.2.2.1⟩
  · exact rg_w hy ⟨k.2.1, k.2.2.2⟩
theorem rg_min {x y v : Int32} {a b c d l h : Int} (e : v = if x < y then x else y) (hx : rg x a b) (hy : rg y c d) (k : l ≤ a ∧ l ≤ c ∧ (b ≤ h ∨ d ≤ h)) : rg v l h := by
  subst e
  have h1 := hx.1; have h2 := hx.2; have h3 := hy.1; have h4 := hy.2
  split
  · rename_i q; have := Int32.lt_iff_toInt_lt.mp q; exact ⟨by omega, by omega⟩
  · rename_i q; have := Int32.le_iff_toInt_le.mp (Int32.not_lt.mp q); exact ⟨by omega, by omega⟩
theorem rg_max {x y v : Int32} {a b c d l h : Int} (e : v = if y < x then x else y) (hx : rg x a b) (hy : rg y c d) (k : (l ≤ a ∨ l ≤ c) ∧ b ≤ h ∧ d ≤ h) : rg v l h := by
  subst e
  have h1 := hx.1; have h2 := hx.2; have h3 := hy.1; have h4 := hy.2
  split
  · rename_i q; have := Int32.lt_iff_toInt_lt.mp q; exact ⟨by omega, by omega⟩
  · rename_i q; have := Int32.le_iff_toInt_le.mp (Int32.not_lt.mp q); exact ⟨by omega, by omega⟩
/-! what a branch says -/
theorem rg_ltL {x y : Int32} {a b c d l h : Int} (q : x < y) (hx : rg x a b) (hy : rg y c d) (k : l ≤ a ∧ (b ≤ h ∨ d ≤ h + 1)) : rg x l h := by
  have h1 := hx.1; have h2 := hx.2; have h3 := hy.1; have h4 := hy.2; have := Int32.lt_iff_toInt_lt.mp q; exact ⟨by omega, by omega⟩
theorem rg_ltR {x y : Int32} {a b c d l h : Int} (q : x < y) (hx : rg x a b) (hy : rg y c d) (k : (l ≤ c ∨ l ≤ a + 1) ∧ d ≤ h) : rg y l h := by
  have h1 := hx.1; have h2 := hx.2; have h3 := hy.1; have h4 := hy.2; have := Int32.lt_iff_toInt_lt.mp q; exact ⟨by omega, by omega⟩
theorem rg_leL {x y : Int32} {a b c d l h : Int} (q : x ≤ y) (hx : rg x a b) (hy : rg y c d) (k : l ≤ a ∧ (b ≤ h ∨ d ≤ h)) : rg x l h := by
  have h1 := hx.1; have h2 := hx.2; have h3 := hy.1; have h4 := hy.2; have := Int32.le_iff_toInt_le.mp q; exact ⟨by omega, by omega⟩
theorem rg_leR {x y : Int32} {a b c d l h : Int} (q : x ≤ y) (hx : rg x a b) (hy : rg y c d) (k : (l ≤ c ∨ l ≤ a) ∧ d ≤ h) : rg y l h := by
  have h1 := hx.1; have h2 := hx.2; have h3 := hy.1; have h4 := hy.2; have := Int32.le_iff_toInt_le.mp q; exact ⟨by omega, by omega⟩
theorem rg_eqL {x y : Int32} {a b c d l h : Int} (q : x = y) (hx : rg x a b) (hy : rg y c d) (k : (l ≤ a ∨ l ≤ c) ∧ (b ≤ h ∨ d ≤ h)) : rg x l h := by
  subst q
  have h1 := hx.1; have h2 := hx.2; have h3 := hy.1; have h4 := hy.2; exact ⟨by omega, by omega⟩
theorem rg_neL {x y : Int32} {a b c l h : Int} (q : ¬ x = y) (hx : rg x a b) (hy : rg y c c) (k : (l ≤ a ∨ (a = c ∧ l ≤ a + 1)) ∧ (b ≤ h ∨ (b = c ∧ b ≤ h + 1))) : rg x l h := by
  have h1 := hx.1; have h2 := hx.2; have h3 := hy.1; have h4 := hy.2
  have h5 : x.toInt ≠ y.toInt := fun e => q (Int32.toInt_inj.mp e)
  exact ⟨by omega, by omega⟩
theorem rg_ltF {x y : Int32} {a b c d : Int} (q : x < y) (hx : rg x a b) (hy : rg y c d) (k : d ≤ a) : False := by
  have h1 := hx.1; have h2 := hx.2; have h3 := hy.1; have h4 := hy.2; have := Int32.lt_iff_toInt_lt.mp q; omega
theorem rg_leF {x y : Int32} {a b c d : Int} (q : x ≤ y) (hx : rg x a b) (hy : rg y c d) (k : d < a) : False := by
  have h1 := hx.1; have h2 := hx.2; have h3 := hy.1; have h4 := hy.2; have := Int32.le_iff_toInt_le.mp q; omega
theorem rg_eqF {x y : Int32} {a b c d : Int} (q : x = y) (hx : rg x a b) (hy : rg y c d) (k : d < a ∨ b < c) : False := by
  subst q
  have h1 := hx.1; have h2 := hx.2; have h3 := hy.1; have h4 := hy.2; omega
theorem rg_neF {x y : Int32} {a : Int} (q : ¬ x = y) (hx : rg x a a) (hy : rg y a a) : False := by
  have h1 := hx.1; have h2 := hx.2; have h3 := hy.1; have h4 := hy.2
  exact q (Int32.toInt_inj.mp (by omega))
theorem rg_and {x y v : Int32} {c d l h : Int} (e : v = x &&& y) (hy : rg y c d) (k : 0 ≤ c ∧ l ≤ 0 ∧ d ≤ h) : rg v l h := by
  sorry
/-! measures -/
theorem ms_in {x : Int32} {a b M : Int} {n : Nat} (h : rg x a b) (k : M ≤ a + n) : M ≤ x.toInt + n := by have := h.1; omega
theorem ms_up {x v : Int32} {M : Int} {n : Nat} (h : M ≤ x.toInt + ((n + 1 : Nat) : Int)) (q : x.toInt + 1 ≤ v.toInt) : M ≤ v.toInt + n := by omega
theorem ms_0 {x : Int32} {a b M : Int} (h : M ≤ x.toInt + ((0 : Nat) : Int)) (r : rg x a b) (k : b < M) : False := by have := r.2; omega
theorem md_in {x : Int32} {a b M : Int} {n : Nat} (h : rg x a b) (k : b < M + n) : x.toInt < M + n := by have := h.2; omega
theorem md_dn {x v : Int32} {M : Int} {n : Nat} (h : x.toInt < M + ((n + 1 : Nat) : Int)) (q : v.toInt + 1 ≤ x.toInt) : v.toInt < M + n := by omega
theorem md_0 {x : Int32} {a b M : Int} (h : x.toInt < M + ((0 : Nat) : Int)) (r : rg x a b) (k : M ≤ a) : False := by have := r.1; omega
