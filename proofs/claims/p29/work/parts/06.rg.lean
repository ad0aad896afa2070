/-! ranges -/
def rg (x : Int32) (a b : Int) : Prop := a ≤ x.toInt ∧ x.toInt ≤ b
def ar (f : Nat → Int32) (a b : Int) : Prop := ∀ k, rg (f k) a b
theorem rg_of {x : Int32} {a b : Int} (h : decide (a ≤ x.toInt ∧ x.toInt ≤ b) = true) : rg x a b := (of_decide_eq_true h : a ≤ x.toInt ∧ x.toInt ≤ b)
theorem rg_any (x : Int32) : rg x (-2147483648) 2147483647 := ⟨x.le_toInt, Int.le_of_lt_add_one x.toInt_lt⟩
theorem rg_w {x : Int32} {a b c d : Int} (h : rg x a b) (k : c ≤ a ∧ b ≤ d) : rg x c d := ⟨Int.le_trans k.1 h.1, Int.le_trans h.2 k.2⟩
theorem ar_w {f : Nat → Int32} {a b c d : Int} (h : ar f a b) (k : c ≤ a ∧ b ≤ d) : ar f c d := fun i => rg_w (h i) k
theorem ar_c {v : Int32} {a b : Int} (h : rg v a b) : ar (fun _ => v) a b := fun _ => h
theorem ar_upd {f : Nat → Int32} {k : Nat} {v : Int32} {a b : Int} (h : ar f a b) (hv : rg v a b) : ar (upd f k v) a b := by
  intro j
  unfold upd
  split
  · exact hv
  · exact h j
theorem ar_cpy {f g : Nat → Int32} {sp dp n : Nat} {a b : Int} (h : ar f a b) (hg : ar g a b) : ar (va_cpy f g sp dp n) a b := by
  intro j
  unfold va_cpy
  split
  · exact h _
  · exact hg j
theorem rg_in {x : Int32} {a b : Int} {n : Nat} (h : rg x a b) (k : 0 ≤ a ∧ b < n) : vp_in x n := by
  rw [vp_in_iff]
  exact ⟨Int.le_trans k.1 h.1, Int.lt_of_le_of_lt h.2 k.2⟩
theorem bm32 {n : Int} (h1 : -2147483648 ≤ n) (h2 : n ≤ 2147483647) : n.bmod (2 ^ 32) = n := Int.bmod_eq_of_le (by omega) (by omega)
theorem rg_add {x y v : Int32} {a b c d l h : Int} (e : v = x + y) (hx : rg x a b) (hy : rg y c d) (k : l ≤ a + c ∧ b + d ≤ h ∧ -2147483648 ≤ a + c ∧ b + d ≤ 2147483647) : rg v l h ∧ v.toInt = x.toInt + y.toInt := by
  have q : v.toInt = x.toInt + y.toInt := by
    rw [e, Int32.toInt_add]; exact bm32 (by have := hx.1; have := hy.1; omega) (by have := hx.2; have := hy.2; omega)
  refine ⟨⟨?_, ?_⟩, q⟩
  · rw [q]; have := hx.1; have := hy.1; omega
  · rw [q]; have := hx.2; have := hy.2; omega
theorem rg_sub {x y v : Int32} {a b c d l h : Int} (e : v = x - y) (hx : rg x a b) (hy : rg y c d) (k : l ≤ a - d ∧ b - c ≤ h ∧ -2147483648 ≤ a - d ∧ b - c ≤ 2147483647) : rg v l h ∧ v.toInt = x.toInt - y.toInt := by
  have q : v.toInt = x.toInt - y.toInt := by
    rw [e, Int32.toInt_sub]; exact bm32 (by have := hx.1; have := hy.2; omega) (by have := hx.2; have := hy.1; omega)
  refine ⟨⟨?_, ?_⟩, q⟩
  · rw [q]; have := hx.1; have := hy.2; omega
  · rw [q]; have := hx.2; have := hy.1; omega
theorem mul_bd {x y a b c d : Int} (h1 : a ≤ x) (h2 : x ≤ b) (h3 : c ≤ y) (h4 : y ≤ d) : (a * c ≤ x * y ∨ a * d ≤ x * y ∨ b * c ≤ x * y ∨ b * d ≤ x * y) ∧ (x * y ≤ a * c ∨ x * y ≤ a * d ∨ x * y ≤ b * c ∨ x * y ≤ b * d) := by
  rcases Int.le_total 0 y with hy | hy
  · have u1 : a * y ≤ x * y := Int.mul_le_mul_of_nonneg_right h1 hy
    have u2 : x * y ≤ b * y := Int.mul_le_mul_of_nonneg_right h2 hy
    refine ⟨?_, ?_⟩
    · rcases Int.le_total 0 a with ha | ha
      · have := Int.mul_le_mul_of_nonneg_left h3 ha; omega
      · have := Int.mul_le_mul_of_nonpos_left ha h4; omega
    · rcases Int.le_total 0 b with hb | hb
      · have := Int.mul_le_mul_of_nonneg_left h4 hb; omega
      · have := Int.mul_le_mul_of_nonpos_left hb h3; omega
  · have u1 : x * y ≤ a * y := Int.mul_le_mul_of_nonpos_right h1 hy
    have u2 : b * y ≤ x * y := Int.mul_le_mul_of_nonpos_right h2 hy
    refine ⟨?_, ?_⟩
    · rcases Int.le_total 0 b with hb | hb
      · have := Int.mul_le_mul_of_nonneg_left h3 hb; omega
      · have := Int.mul_le_mul_of_nonpos_left hb h4; omega
    · rcases Int.le_total 0 a with ha | ha
      · have := Int.mul_le_mul_of_nonneg_left h4 ha; omega
      · have := Int.mul_le_mul_of_nonpos_left ha h3; omega
theorem rg_mul {x y v : Int32} {a b c d l h : Int} (e : v = x * y) (hx : rg x a b) (hy : rg y c d) (k : (l ≤ a * c ∧ l ≤ a * d ∧ l ≤ b * c ∧ l ≤ b * d) ∧ (a * c ≤ h ∧ a * d ≤ h ∧ b * c ≤ h ∧ b * d ≤ h) ∧ -2147483648 ≤ l ∧ h ≤ 2147483647) : rg v l h ∧ v.toInt = x.toInt * y.toInt := by
  obtain ⟨m1, m2⟩ := mul_bd hx.1 hx.2 hy.1 hy.2
  generalize hp : x.toInt * y.toInt = p at m1 m2
  generalize a * c = p1 at k m1 m2
  generalize a * d = p2 at k m1 m2
  generalize b * c = p3 at k m1 m2
  generalize b * d = p4 at k m1 m2
  have q : v.toInt = p := by
    rw [e, Int32.toInt_mul, hp]; exact bm32 (by omega) (by omega)
  exact ⟨⟨by omega, by omega⟩, q⟩
theorem rg_div {x y v : Int32} {a b c l h : Int} (e : v = x / y) (hx : rg x a b) (hy : rg y c c) (k : 0 ≤ a ∧ 0 < c ∧ l ≤ 0 ∧ b ≤ h) : rg v l h := by
  have hc : y.toInt = c := Int.le_antisymm hy.2 hy.1
  have q : v.toInt = x.toInt.tdiv y.toInt := by
    rw [e, Int32.toInt_div_of_ne_left]
    intro hm
    have := hx.1
    rw [hm] at this
    have h2 : (Int32.minValue).toInt = -2147483648 := by decide
    omega
  have h0 : 0 ≤ x.toInt := Int.le_trans k.1 hx.1
  rw [hc, Int.tdiv_eq_ediv_of_nonneg h0] at q
  have h1 : 0 ≤ x.toInt / c := Int.ediv_nonneg h0 (by omega)
  have h2 : x.toInt / c ≤ x.toInt := Int.ediv_le_self c h0
  have := hx.2
  exact ⟨by omega, by omega⟩
theorem rg_div2 {x y v : Int32} {a b c l h : Int} (e : v = x / y) (hx : rg x a b) (hy : rg y c c) (k : 0 ≤ a ∧ 0 < c ∧ l ≤ 0 ∧ b / c ≤ h) : rg v l h := by
  have hc : y.toInt = c := Int.le_antisymm hy.2 hy.1
  have q : v.toInt = x.toInt.tdiv y.toInt := by
    rw [e, Int32.toInt_div_of_ne_left]
    intro hm
    have := hx.1
    rw [hm] at this
    have h2 : (Int32.minValue).toInt = -2147483648 := by decide
    omega
  have h0 : 0 ≤ x.toInt := Int.le_trans k.1 hx.1
  rw [hc, Int.tdiv_eq_ediv_of_nonneg h0] at q
  have h1 : 0 ≤ x.toInt / c := Int.ediv_nonneg h0 (by omega)
  have h2 : x.toInt / c ≤ b / c := Int.ediv_le_ediv (by omega) hx.2
  exact ⟨by omega, by omega⟩
theorem rg_if {x y : Int32} {a b c d l h : Int} {P : Prop} [Decidable P] (hx : rg x a b) (hy : rg y c d) (k : l ≤ a ∧ l ≤ c ∧ b ≤ h ∧ d ≤ h) : rg (if P then x else y) l h := by
  split
  · exact rg_w hx ⟨k.1, k.2.2.1⟩
  · exact rg_w hy ⟨k.2.1, k.2.2.2⟩
theorem rg_min {x y v : Int32} {a b c d l h : Int} (e : v = if x < y then x else y) (hx : rg x a b) (hy : rg y c d) (k : l ≤ a ∧ l ≤ c ∧ (b ≤ h ∨ d ≤ h)) : rg v l h := by
  subst e
  have h1 := hx.1; have h2 := hx.2; have h3 := hy.1; have h4 := hy.2
  split
  · rename_i q; have := Int32.lt_iff_toInt_lt.mp q; exact ⟨by omega, by omega⟩
  · rename_i q; have := Int32.le_iff_toInt_le.mp (Int32.not_lt.mp q); exact ⟨by omega, by omega⟩
theorem rg_max {x y v : Int32} {a b c d l h : Int} (e : v = if y < x then x else y) (hx : rg x a b) (hy : rg y c d) (k : (l ≤ a ∨ l ≤ c) ∧ b ≤ h ∧ d ≤ h) : rg v l h := by
  subst e
  have h1 := hx.1; have h2 := hx.2; have h3 := hy.1; have h4 := hy.2
  split
  · rename_i q; have := Int32.lt_iff_toInt_lt.mp q; exact ⟨by omega, by omega⟩
  · rename_i q; have := Int32.le_iff_toInt_le.mp (Int32.not_lt.mp q); exact ⟨by omega, by omega⟩
/-! what a branch says -/
theorem rg_ltL {x y : Int32} {a b c d l h : Int} (q : x < y) (hx : rg x a b) (hy : rg y c d) (k : l ≤ a ∧ (b ≤ h ∨ d ≤ h + 1)) : rg x l h := by
  have h1 := hx.1; have h2 := hx.2; have h3 := hy.1; have h4 := hy.2; have := Int32.lt_iff_toInt_lt.mp q; exact ⟨by omega, by omega⟩
theorem rg_ltR {x y : Int32} {a b c d l h : Int} (q : x < y) (hx : rg x a b) (hy : rg y c d) (k : (l ≤ c ∨ l ≤ a + 1) ∧ d ≤ h) : rg y l h := by
  have h1 := hx.1; have h2 := hx.2; have h3 := hy.1; have h4 := hy.2; have := Int32.lt_iff_toInt_lt.mp q; exact ⟨by omega, by omega⟩
theorem rg_leL {x y : Int32} {a b c d l h : Int} (q : x ≤ y) (hx : rg x a b) (hy : rg y c d) (k : l ≤ a ∧ (b ≤ h ∨ d ≤ h)) : rg x l h := by
  have h1 := hx.1; have h2 := hx.2; have h3 := hy.1; have h4 := hy.2; have := Int32.le_iff_toInt_le.mp q; exact ⟨by omega, by omega⟩
theorem rg_leR {x y : Int32} {a b c d l h : Int} (q : x ≤ y) (hx : rg x a b) (hy : rg y c d) (k : (l ≤ c ∨ l ≤ a) ∧ d ≤ h) : rg y l h := by
  have h1 := hx.1; have h2 := hx.2; have h3 := hy.1; have h4 := hy.2; have := Int32.le_iff_toInt_le.mp q; exact ⟨by omega, by omega⟩
theorem rg_eqL {x y : Int32} {a b c d l h : Int} (q : x = y) (hx : rg x a b) (hy : rg y c d) (k : (l ≤ a ∨ l ≤ c) ∧ (b ≤ h ∨ d ≤ h)) : rg x l h := by
  subst q
  have h1 := hx.1; have h2 := hx.2; have h3 := hy.1; have h4 := hy.2; exact ⟨by omega, by omega⟩
theorem rg_neL {x y : Int32} {a b c l h : Int} (q : ¬ x = y) (hx : rg x a b) (hy : rg y c c) (k : (l ≤ a ∨ (a = c ∧ l ≤ a + 1)) ∧ (b ≤ h ∨ (b = c ∧ b ≤ h + 1))) : rg x l h := by
  have h1 := hx.1; have h2 := hx.2; have h3 := hy.1; have h4 := hy.2
  have h5 : x.toInt ≠ y.toInt := fun e => q (Int32.toInt_inj.mp e)
  exact ⟨by omega, by omega⟩
theorem rg_ltF {x y : Int32} {a b c d : Int} (q : x < y) (hx : rg x a b) (hy : rg y c d) (k : d ≤ a) : False := by
  have h1 := hx.1; have h2 := hx.2; have h3 := hy.1; have h4 := hy.2; have := Int32.lt_iff_toInt_lt.mp q; omega
theorem rg_leF {x y : Int32} {a b c d : Int} (q : x ≤ y) (hx : rg x a b) (hy : rg y c d) (k : d < a) : False := by
  have h1 := hx.1; have h2 := hx.2; have h3 := hy.1; have h4 := hy.2; have := Int32.le_iff_toInt_le.mp q; omega
theorem rg_eqF {x y : Int32} {a b c d : Int} (q : x = y) (hx : rg x a b) (hy : rg y c d) (k : d < a ∨ b < c) : False := by
  subst q
  have h1 := hx.1; have h2 := hx.2; have h3 := hy.1; have h4 := hy.2; omega
theorem rg_neF {x y : Int32} {a : Int} (q : ¬ x = y) (hx : rg x a a) (hy : rg y a a) : False := by
  have h1 := hx.1; have h2 := hx.2; have h3 := hy.1; have h4 := hy.2
  exact q (Int32.toInt_inj.mp (by omega))
theorem rg_and {x y v : Int32} {c d l h : Int} (e : v = x &&& y) (hy : rg y c d) (k : 0 ≤ c ∧ l ≤ 0 ∧ d ≤ h) : rg v l h := by
  subst e
  have h0 : 0 ≤ y.toInt := Int.le_trans k.1 hy.1
  have hm : y.toBitVec.msb = false := by
    rw [BitVec.msb_eq_toInt]
    exact decide_eq_false (Int.not_lt.mpr h0)
  have hm2 : (x &&& y).toBitVec.msb = false := by
    rw [Int32.toBitVec_and, BitVec.msb_and, hm, Bool.and_false]
  have e1 : (x &&& y).toInt = ((x &&& y).toBitVec.toNat : Int) := BitVec.toInt_eq_toNat_of_msb hm2
  have e2 : y.toInt = (y.toBitVec.toNat : Int) := BitVec.toInt_eq_toNat_of_msb hm
  have e3 : (x &&& y).toBitVec.toNat ≤ y.toBitVec.toNat := by
    rw [Int32.toBitVec_and, BitVec.toNat_and]
    exact Nat.and_le_right
  have := hy.2
  exact ⟨by omega, by omega⟩
theorem in_up {x y v : Int32} {c d : Int} (q : v.toInt = x.toInt + y.toInt) (hy : rg y c d) (k : 1 ≤ c) : x.toInt + 1 ≤ v.toInt := by have := hy.1; omega
theorem in_dn {x y v : Int32} {c d : Int} (q : v.toInt = x.toInt - y.toInt) (hy : rg y c d) (k : 1 ≤ c) : v.toInt + 1 ≤ x.toInt := by have := hy.1; omega
theorem in_dn2 {x y v : Int32} {c d : Int} (q : v.toInt = x.toInt + y.toInt) (hy : rg y c d) (k : d ≤ -1) : v.toInt + 1 ≤ x.toInt := by have := hy.2; omega
theorem rg_bit {r : Int32} (h : r = 0 ∨ r = 1) : rg r 0 1 := by
  rcases h with e | e <;> (rw [e]; exact rg_of (by decide))
theorem nar01 {r : Int32} (h : rg r 0 1) : narrow .boolean (.int r) = .int r := by
  have h1 := h.1; have h2 := h.2
  have : r.toInt = 0 ∨ r.toInt = 1 := by omega
  rcases this with e | e
  · have : r = 0 := Int32.toInt_inj.mp (by rw [e]; decide)
    rw [this]; decide
  · have : r = 1 := Int32.toInt_inj.mp (by rw [e]; decide)
    rw [this]; decide
/-! measures -/
theorem ms_in {x : Int32} {a b M : Int} {n : Nat} (h : rg x a b) (k : M ≤ a + n) : M ≤ x.toInt + n := by have := h.1; omega
theorem ms_up {x v : Int32} {M : Int} {n : Nat} (h : M ≤ x.toInt + ((n + 1 : Nat) : Int)) (q : x.toInt + 1 ≤ v.toInt) : M ≤ v.toInt + n := by omega
theorem ms_0 {x : Int32} {a b M : Int} (h : M ≤ x.toInt + ((0 : Nat) : Int)) (r : rg x a b) (k : b < M) : False := by have := r.2; omega
theorem md_in {x : Int32} {a b M : Int} {n : Nat} (h : rg x a b) (k : b < M + n) : x.toInt < M + n := by have := h.2; omega
theorem md_dn {x v : Int32} {M : Int} {n : Nat} (h : x.toInt < M + ((n + 1 : Nat) : Int)) (q : v.toInt + 1 ≤ x.toInt) : v.toInt < M + n := by omega
theorem md_0 {x : Int32} {a b M : Int} (h : x.toInt < M + ((0 : Nat) : Int)) (r : rg x a b) (k : M ≤ a) : False := by have := r.1; omega
theorem rg_nz {x : Int32} {a b : Int} (h : rg x a b) (k : 0 < a) : ¬ x = 0 := fun e => by
  have h1 := h.1
  rw [e] at h1
  have e0 : (0 : Int32).toInt = 0 := by decide
  omega
theorem rg_two {x : Int32} (h : rg x 0 1) : x = 0 ∨ x = 1 := by
  have h1 := h.1; have h2 := h.2
  have : x.toInt = 0 ∨ x.toInt = 1 := by omega
  rcases this with e | e
  · exact Or.inl (Int32.toInt_inj.mp (by rw [e]; decide))
  · exact Or.inr (Int32.toInt_inj.mp (by rw [e]; decide))
theorem rg_rem {x y v : Int32} {a b c l h : Int} (e : v = x - x / y * y) (hx : rg x a b) (hy : rg y c c) (k : 0 ≤ a ∧ 0 < c ∧ l ≤ 0 ∧ c ≤ h + 1) : rg v l h := by
  have hc : y.toInt = c := Int.le_antisymm hy.2 hy.1
  have h0 : 0 ≤ x.toInt := Int.le_trans k.1 hx.1
  have hM : x.toInt ≤ 2147483647 := (rg_any x).2
  obtain ⟨w, ew⟩ : ∃ w : Int32, w = x / y := ⟨_, rfl⟩
  have q : w.toInt = x.toInt / c := by
    rw [ew, Int32.toInt_div_of_ne_left, hc, Int.tdiv_eq_ediv_of_nonneg h0]
    intro hm
    rw [hm] at h0
    have h2 : (Int32.minValue).toInt = -2147483648 := by decide
    omega
  have d1 : x.toInt / c * c + x.toInt % c = x.toInt := by rw [Int.mul_comm]; exact Int.mul_ediv_add_emod x.toInt c
  have d2 : 0 ≤ x.toInt % c := Int.emod_nonneg _ (by omega)
  have d3 : x.toInt % c < c := Int.emod_lt_of_pos _ k.2.1
  have d4 : 0 ≤ x.toInt / c * c := Int.mul_nonneg (Int.ediv_nonneg h0 (by omega)) (by omega)
  have q2 : (w * y).toInt = x.toInt / c * c := by
    rw [Int32.toInt_mul, q, hc]; exact bm32 (by omega) (by omega)
  have q3 : v.toInt = x.toInt % c := by
    rw [e, ← ew, Int32.toInt_sub, q2, bm32 (by omega) (by omega)]
    omega
  exact ⟨by omega, by omega⟩
section QSN
variable {p : Program} {l : Launch} {e : Env} {R : Room} {s : State} {m : MethodId} {args : Array Value} {below : List Frame} {meth : Method} {c : Code} {H : Heap} {locs : List Loc} {cells slots : Nat} {Q : State → Prop}
variable {cc : ByteArray} {pc nL : Nat} {ls : Array Slot} {own : String} {D : va_G} {tys : List (ClassId × FieldType)} {sa : Nat → Nat} {ws wc wr : va_W} {A : Nat → Prop} {index n k mc ms : Nat} {y : MethodName} {b : ByteArray} {r : Option FieldType} {rm : Room} {As st rest : List Value} {S : Type} {w2 : S → va_W}
theorem q_SNi {post : Int32 → S → Prop} (isC isR : List Nat) (hX : CallFix p m c cc nL s args tb own) (hE : qE sa s) (hK : va_K D vwCl tys s) (hP : va_P D vwCl ws H) (hD : va_D A ws) (hS : va_S A s.heap H locs) (hA : (∀ q, s.heap.size ≤ q → A q) ∧ ∀ q, A q → sa 3 ≤ q) (hsz : ls.size = nL)
    (hw9 : (own, index, y) ∈ nestW) (hl : Cond.code y b n r ∈ tb ∧ Cond.initialized y.cls ∈ tb ∧ (y.cls ≠ "java/lang/invoke/MethodHandle" ∧ y.cls ≠ "java/lang/invoke/VarHandle" ∧ (parseMethodDescriptor y.desc).map (fun d => d.parameters.length) = some k) ∧ Cond.static y ∈ tb) (hM : Met l y (qW y b n r) rm (qP D tys sa As wc H.size) (qQi D wc H.size post w2) mc ms (va_A wc H.size))
    (hC : isC.map (fun i => ws[i]?) = wc.map some) (hR : isR.map (fun i => ws[i]?) = wr.map some) (hnC : va_nd isC = true) (hnR : va_nd isR = true) (hdis : ∀ i ∈ isR, i ∉ isC)
    (hk : As.length = k) (hst : st = As.reverse ++ rest) (hw : (rest.map fun v => v.category).sum ≤ 8) (hrc : rm.cells = mc) (hrs : rm.slots = ms) (hRm : rm.frames + 1 ≤ R.frames ∧ 8 + (n + 11) + rm.locals ≤ R.locals) (hf : cells + mc ≤ R.cells ∧ slots + ms ≤ R.slots) (hdg : decode cc pc = .ok (.invokestatic index, 3))
    (kk : ∀ (x : Int32) (u : S) (H1 : Heap) (locs1 : List Loc), post x u → va_P D vwCl (wr ++ w2 u) H1 → va_D A (wr ++ w2 u) → va_S A s.heap H1 locs1 → W p l e R s m args below meth c H1 locs1 (cells + mc) (slots + ms) Q (F0 m (pc + 3) ls (.int x :: rest))) : W p l e R s m args below meth c H locs cells slots Q (F0 m pc ls st) := by
  subst hst
  have hFc := va_free hD hS hA.1 isC hC
  have hp := q_preV (As := As) hE hK hP hD hS hA isC hC hnC (q_cf isC hC)
  refine va_calli (va_runSN (As := As) (rest := rest) hX hM ⟨va_cnB k hX.2.2.2.2 (good_w hl.1) rfl hrc hrs (hE.1 _ hw9) (hX.2.2.2.2 _ hl.2.1) hl.2.2.1 hRm, hX.2.2.2.2 _ hl.2.2.2, trivial⟩ hp rfl hk hsz rfl (lv_room hw) hdg hf) hS (fun q _ h => hFc q h) hFc (fun x u t H1 locs1 ht hvm hpo hB hz1 hk1 hS1 => ?_)
  obtain ⟨hP1, hD1⟩ := hB
  rw [ht] at hP1
  obtain ⟨hP2, hD2⟩ := va_join hP hD isC isR hC hR hnR hdis hk1 hFc hP1 hD1
  exact kk x u H1 locs1 hpo hP2 hD2 hS1
end QSN
