abbrev w_findBest (cI cZ cP : ClassId) (pg : Nat) (ends : Nat) (ear : Nat) (ltr : Nat) : va_W := [(pg, .inr (2, [.int 0, .int 0, .int 0, .ref ends, .int 0, .ref ear, .ref ltr, .int 0]))]
set_option maxHeartbeats 4000000 in
set_option maxRecDepth 100000 in
theorem c_findBest (l : Launch) (D : va_G) (cI cZ cP : ClassId) (sa : Nat → Nat) (pg : Nat) (ends : Nat) (ear : Nat) (ltr : Nat) (sz : Nat) : Met l yX2_findBest (qW yX2_findBest cX2_findBest 4 none) ({ frames := 1, cells := 0, slots := 0, locals := 24 } : Room) (qP D (TY cI cZ cP) sa [.ref pg] (w_findBest cI cZ cP pg ends ear ltr) sz) (qQv D (w_findBest cI cZ cP pg ends ear ltr) sz (fun _ : Unit => True) (fun _ => [(pg, .inr (2, [.int 0, .int 0, .int 0, .ref ends, .int 0, .ref ear, .ref ltr, .int 0]))])) 0 0 (va_A (w_findBest cI cZ cP pg ends ear ltr) sz) := by
  refine q_enter (by decide) (Nat.le_of_ble_eq_true rfl) ?_
  intro p e s m below meth c ls hX hr hlk hnm hE hK hP hD hS hA hl
  obtain ⟨hx, hb, hml, hown, ht⟩ := id hX
  have hl : lv_has ls 4 [(0, .ref pg)] := hl
  refine lv_aload_n hx hb dX2_findBest_0 rfl (lv_at hl 0 rfl) ?_
  refine lv_iconst (v := 0) hx hb dX2_findBest_1 (by decide) ?_
  refine va_put (D := D) (ci := 2) (v := .int 0) (ty := .int) (C := RX2) (T := TX2) (N := 8) hx hb ht inX2 tyX2 tyX2_ok nmX2 hown hK hP hD hS 0 rfl rfl 0 (Nat.le_of_ble_eq_true rfl) (ht _ kw_288) (fun _ h9 => h9) rfl (by decide +kernel) rfl rfl (Nat.le_of_ble_eq_true rfl) dX2_findBest_2 (fun H locs hP hD hS => ?_)
  have hP : va_P D vwCl [(pg, .inr (2, [.int 0, .int 0, .int 0, .ref ends, .int 0, .ref ear, .ref ltr, .int 0]))] H := hP
  have hD : va_D (va_A (w_findBest cI cZ cP pg ends ear ltr) sz) [(pg, .inr (2, [.int 0, .int 0, .int 0, .ref ends, .int 0, .ref ear, .ref ltr, .int 0]))] := hD
  refine lv_aload_n hx hb dX2_findBest_5 rfl (lv_at hl 0 rfl) ?_
  refine lv_iconst (v := 0) hx hb dX2_findBest_6 (by decide) ?_
  refine va_put (D := D) (ci := 2) (v := .int 0) (ty := .int) (C := RX2) (T := TX2) (N := 8) hx hb ht inX2 tyX2 tyX2_ok nmX2 hown hK hP hD hS 0 rfl rfl 1 (Nat.le_of_ble_eq_true rfl) (ht _ kw_290) (fun _ h9 => h9) rfl (by decide +kernel) rfl rfl (Nat.le_of_ble_eq_true rfl) dX2_findBest_7 (fun H locs hP hD hS => ?_)
  have hP : va_P D vwCl [(pg, .inr (2, [.int 0, .int 0, .int 0, .ref ends, .int 0, .ref ear, .ref ltr, .int 0]))] H := hP
  have hD : va_D (va_A (w_findBest cI cZ cP pg ends ear ltr) sz) [(pg, .inr (2, [.int 0, .int 0, .int 0, .ref ends, .int 0, .ref ear, .ref ltr, .int 0]))] := hD
  refine lv_aload_n hx hb dX2_findBest_10 rfl (lv_at hl 0 rfl) ?_
  refine lv_iconst (v := 0) hx hb dX2_findBest_11 (by decide) ?_
  refine va_put (D := D) (ci := 2) (v := .int 0) (ty := .int) (C := RX2) (T := TX2) (N := 8) hx hb ht inX2 tyX2 tyX2_ok nmX2 hown hK hP hD hS 0 rfl rfl 2 (Nat.le_of_ble_eq_true rfl) (ht _ kw_292) (fun _ h9 => h9) rfl (by decide +kernel) rfl rfl (Nat.le_of_ble_eq_true rfl) dX2_findBest_12 (fun H locs hP hD hS => ?_)
  have hP : va_P D vwCl [(pg, .inr (2, [.int 0, .int 0, .int 0, .ref ends, .int 0, .ref ear, .ref ltr, .int 0]))] H := hP
  have hD : va_D (va_A (w_findBest cI cZ cP pg ends ear ltr) sz) [(pg, .inr (2, [.int 0, .int 0, .int 0, .ref ends, .int 0, .ref ear, .ref ltr, .int 0]))] := hD
  refine lv_iconst (v := 1) hx hb dX2_findBest_15 (by decide) ?_
  refine lv_istore_n (lv' := [(1, .int 1), (0, .ref pg)]) hx hb dX2_findBest_16 rfl hl (by decide) rfl (fun ls hl => ?_)
  have lp_17 : ∀ (n_17 : Nat) (a : Nat), (1 ≤ a ∧ a ≤ 17) → (18 ≤ a + n_17) → ∀ (H : Heap) (locs : List Loc) (ls : Array Slot), va_P D vwCl [(pg, .inr (2, [.int 0, .int 0, .int 0, .ref ends, .int 0, .ref ear, .ref ltr, .int 0]))] H → va_D (va_A (w_findBest cI cZ cP pg ends ear ltr) sz) [(pg, .inr (2, [.int 0, .int 0, .int 0, .ref ends, .int 0, .ref ear, .ref ltr, .int 0]))] → va_S (va_A (w_findBest cI cZ cP pg ends ear ltr) sz) s.heap H locs → lv_has ls 4 [(1, .int (nI a)), (0, .ref pg)] → W p l e ({ frames := 1, cells := 0, slots := 0, locals := 24 } : Room) s m ([.ref pg] : List Value).toArray below meth c H locs 0 0 (MQ below (qQv D (w_findBest cI cZ cP pg ends ear ltr) sz (fun _ : Unit => True) (fun _ => [(pg, .inr (2, [.int 0, .int 0, .int 0, .ref ends, .int 0, .ref ear, .ref ltr, .int 0]))])) ([.ref pg] : List Value).toArray s 0 0 (va_A (w_findBest cI cZ cP pg ends ear ltr) sz)) (F0 m 17 ls []) := by
    intro n_17
    induction n_17 with
    | zero => intro a ha hm_17; exact absurd hm_17 (by omega)
    | succ n_17 ih_17 =>
      intro a ha hm_17 H locs ls hP hD hS hl
      refine lv_iload_n hx hb dX2_findBest_17 rfl (lv_at hl 0 rfl) ?_
      refine lv_bipush (v := 16) hx hb dX2_findBest_18 (by decide) ?_
      refine lv_icmp_gt (tgt := 88) hx hb dX2_findBest_20 (by decide) (fun c_1 => ?_) (fun c_1 => ?_)
      · exact q_vret hX hr hlk () trivial (hP.sub [0] rfl) (hD.sub [0] (by decide) rfl) hS dX2_findBest_88
      · have ha2 : a ≤ 16 := nI_lit (N := 16) rfl c_1 (by omega) (by omega)
        refine lv_iconst (v := 0) hx hb dX2_findBest_23 (by decide) ?_
        refine lv_istore_n (lv' := [(2, .int 0), (1, .int (nI a)), (0, .ref pg)]) hx hb dX2_findBest_24 rfl hl (by decide) rfl (fun ls hl => ?_)
        have lp_25 : ∀ (n_25 : Nat) (b : Nat), (b ≤ 64) → (65 ≤ b + n_25) → ∀ (H : Heap) (locs : List Loc) (ls : Array Slot), va_P D vwCl [(pg, .inr (2, [.int 0, .int 0, .int 0, .ref ends, .int 0, .ref ear, .ref ltr, .int 0]))] H → va_D (va_A (w_findBest cI cZ cP pg ends ear ltr) sz) [(pg, .inr (2, [.int 0, .int 0, .int 0, .ref ends, .int 0, .ref ear, .ref ltr, .int 0]))] → va_S (va_A (w_findBest cI cZ cP pg ends ear ltr) sz) s.heap H locs → lv_has ls 4 [(2, .int (nI b)), (1, .int (nI a)), (0, .ref pg)] → W p l e ({ frames := 1, cells := 0, slots := 0, locals := 24 } : Room) s m ([.ref pg] : List Value).toArray below meth c H locs 0 0 (MQ below (qQv D (w_findBest cI cZ cP pg ends ear ltr) sz (fun _ : Unit => True) (fun _ => [(pg, .inr (2, [.int 0, .int 0, .int 0, .ref ends, .int 0, .ref ear, .ref ltr, .int 0]))])) ([.ref pg] : List Value).toArray s 0 0 (va_A (w_findBest cI cZ cP pg ends ear ltr) sz)) (F0 m 25 ls []) := by
          intro n_25
          induction n_25 with
          | zero => intro b hb1 hm_25; exact absurd hm_25 (by omega)
          | succ n_25 ih_25 =>
            intro b hb1 hm_25 H locs ls hP hD hS hl
            refine lv_iload_n hx hb dX2_findBest_25 rfl (lv_at hl 0 rfl) ?_
            refine lv_iload_n hx hb dX2_findBest_26 rfl (lv_at hl 1 rfl) ?_
            refine lv_iadd hx hb dX2_findBest_27 ?_
            refine q_i (z := (nI (b + a))) (nI_add b a) ?_
            refine lv_bipush (v := 64) hx hb dX2_findBest_28 (by decide) ?_
            refine lv_icmp_gt (tgt := 82) hx hb dX2_findBest_30 (by decide) (fun c_2 => ?_) (fun c_2 => ?_)
            · refine lv_iinc (v := (nI (a + 1))) (lv' := [(1, .int (nI (a + 1))), (2, .int (nI b)), (0, .ref pg)]) hx hb dX2_findBest_82 hl (k := 1) rfl (nI_1 a) (by decide) rfl (fun ls hl => ?_)
              refine lv_goto (tgt := 17) hx hb dX2_findBest_85 (by decide) ?_
              exact ih_17 (a + 1) (by omega) (by omega) _ _ _ hP hD hS (lv_sub hl [0, 2] rfl)
            · have hb2 : b + a ≤ 64 := nI_lit (N := 64) rfl c_2 (by omega) (by omega)
              refine lv_aload_n hx hb dX2_findBest_33 rfl (lv_at hl 2 rfl) ?_
              refine lv_iload_n hx hb dX2_findBest_34 rfl (lv_at hl 0 rfl) ?_
              refine lv_iload_n hx hb dX2_findBest_35 rfl (lv_at hl 0 rfl) ?_
              refine lv_iload_n hx hb dX2_findBest_36 rfl (lv_at hl 1 rfl) ?_
              refine lv_iadd hx hb dX2_findBest_37 ?_
              refine q_i (z := (nI (b + a))) (nI_add b a) ?_
              refine q_Vi (wr := []) [0] [] hX hE hK hP hD hS hA hl.1 lk_X2_79 (c_joined l D cI cZ cP sa pg ends ear ltr (nI b) (nI (b + a)) _) rfl rfl rfl rfl (by decide) 0 2 rfl rfl rfl rfl (Nat.le_of_ble_eq_true rfl) rfl rfl ⟨Nat.le_of_ble_eq_true rfl, Nat.le_of_ble_eq_true rfl⟩ ⟨Nat.le_of_ble_eq_true rfl, Nat.le_of_ble_eq_true rfl⟩ dX2_findBest_38 (fun x_3 _ H locs h_3 hP hD hS => ?_)
              have hP : va_P D vwCl [(pg, .inr (2, [.int 0, .int 0, .int 0, .ref ends, .int 0, .ref ear, .ref ltr, .int 0]))] H := hP
              have hD : va_D (va_A (w_findBest cI cZ cP pg ends ear ltr) sz) [(pg, .inr (2, [.int 0, .int 0, .int 0, .ref ends, .int 0, .ref ear, .ref ltr, .int 0]))] := hD
              subst h_3
              refine lv_aload_n hx hb dX2_findBest_41 rfl (lv_at hl 2 rfl) ?_
              refine lv_iload_n hx hb dX2_findBest_42 rfl (lv_at hl 0 rfl) ?_
              refine lv_iload_n hx hb dX2_findBest_43 rfl (lv_at hl 0 rfl) ?_
              refine lv_iload_n hx hb dX2_findBest_44 rfl (lv_at hl 1 rfl) ?_
              refine lv_iadd hx hb dX2_findBest_45 ?_
              refine q_i (z := (nI (b + a))) (nI_add b a) ?_
              refine q_Vi (wr := []) [0] [] hX hE hK hP hD hS hA hl.1 lk_X2_82 (c_blurred l D cI cZ cP sa pg ends ear ltr (nI b) (nI (b + a)) _) rfl rfl rfl rfl (by decide) 0 2 rfl rfl rfl rfl (Nat.le_of_ble_eq_true rfl) rfl rfl ⟨Nat.le_of_ble_eq_true rfl, Nat.le_of_ble_eq_true rfl⟩ ⟨Nat.le_of_ble_eq_true rfl, Nat.le_of_ble_eq_true rfl⟩ dX2_findBest_46 (fun x_4 _ H locs h_4 hP hD hS => ?_)
              have hP : va_P D vwCl [(pg, .inr (2, [.int 0, .int 0, .int 0, .ref ends, .int 0, .ref ear, .ref ltr, .int 0]))] H := hP
              have hD : va_D (va_A (w_findBest cI cZ cP pg ends ear ltr) sz) [(pg, .inr (2, [.int 0, .int 0, .int 0, .ref ends, .int 0, .ref ear, .ref ltr, .int 0]))] := hD
              subst h_4
              refine lv_isub hx hb dX2_findBest_49 ?_
              refine q_i (z := 0) (by decide) ?_
              refine lv_istore_n (lv' := [(3, .int 0), (2, .int (nI b)), (1, .int (nI a)), (0, .ref pg)]) hx hb dX2_findBest_50 rfl hl (by decide) rfl (fun ls hl => ?_)
              refine lv_iload_n hx hb dX2_findBest_51 rfl (lv_at hl 0 rfl) ?_
              refine lv_aload_n hx hb dX2_findBest_52 rfl (lv_at hl 3 rfl) ?_
              refine va_get (D := D) (ci := 2) (v := .int 0) (C := RX2) (T := TX2) (N := 8) hx hb ht inX2 hown hK hP 0 rfl rfl 0 (Nat.le_of_ble_eq_true rfl) (ht _ kw_288) (fun _ h9 => h9) rfl dX2_findBest_53 ?_
              refine lv_icmp_le (tgt := 76) hx hb dX2_findBest_56 (by decide) (fun _ => ?_) (fun c_5 => absurd (by decide) c_5)
              refine lv_iinc (v := (nI (b + 1))) (lv' := [(2, .int (nI (b + 1))), (3, .int 0), (1, .int (nI a)), (0, .ref pg)]) hx hb dX2_findBest_76 hl (k := 1) rfl (nI_1 b) (by decide) rfl (fun ls hl => ?_)
              refine lv_goto (tgt := 25) hx hb dX2_findBest_79 (by decide) ?_
              exact ih_25 (b + 1) (by omega) (by omega) _ _ _ hP hD hS (lv_sub hl [0, 2, 3] rfl)
        exact lp_25 65 0 (by omega) (by omega) _ _ _ hP hD hS (lv_sub hl [0, 1, 2] rfl)
  exact lp_17 17 1 (by omega) (by omega) _ _ _ hP hD hS (lv_sub hl [0, 1] rfl)
abbrev w_best (cI cZ cP : ClassId) (x0 : Nat) (nw : Nat) (sp : Nat) (im : Nat) (sc : Nat) (hg : Nat) (fg : Nat) (pg : Nat) (pr : Nat) (keys : Nat) (moms : Nat) (lens : Nat) (prts : Nat) (luds : Nat) (hnds : Nat) (lats : Nat) (knds : Nat) (rch : Nat) (spd : Nat) (unN : Nat) (unH : Nat) (ptn : Nat) (ends : Nat) (ear : Nat) (ltr : Nat) (p0 : Int32) : va_W := [(x0, .inr (6, [.ref nw, .ref sp, .ref im, .ref sc, .ref hg, .ref fg, .ref pg, .ref pr, .int 0, .long 0, .long 1, .int 0, .int 0, .int 0])), (nw, .inr (3, [.int 2, .int 0, .ref keys, .ref moms, .ref lens, .ref prts, .ref luds, .ref hnds, .ref lats, .ref knds, .ref rch, .ref spd, .int 0, .int 0, .int 0, .ref unN, .ref unH, .ref ptn])), (pg, .inr (2, [.int 0, .int 0, .int 0, .ref ends, .int 0, .ref ear, .ref ltr, .int 0]))]
set_option maxHeartbeats 4000000 in
set_option maxRecDepth 100000 in
theorem c_best (l : Launch) (D : va_G) (cI cZ cP : ClassId) (sa : Nat → Nat) (x0 : Nat) (nw : Nat) (sp : Nat) (im : Nat) (sc : Nat) (hg : Nat) (fg : Nat) (pg : Nat) (pr : Nat) (keys : Nat) (moms : Nat) (lens : Nat) (prts : Nat) (luds : Nat) (hnds : Nat) (lats : Nat) (knds : Nat) (rch : Nat) (spd : Nat) (unN : Nat) (unH : Nat) (ptn : Nat) (ends : Nat) (ear : Nat) (ltr : Nat) (p0 : Int32) (sz : Nat) : Met l yX6_best (qW yX6_best cX6_best 2 (some .int)) ({ frames := 2, cells := 0, slots := 0, locals := 47 } : Room) (qP D (TY cI cZ cP) sa [.ref x0, .int p0] (w_best cI cZ cP x0 nw sp im sc hg fg pg pr keys moms lens prts luds hnds lats knds rch spd unN unH ptn ends ear ltr p0) sz) (qQi D (w_best cI cZ cP x0 nw sp im sc hg fg pg pr keys moms lens prts luds hnds lats knds rch spd unN unH ptn ends ear ltr p0) sz (fun (r : Int32) (_ : Unit) => r = sp_blurs p0) (fun _ => [])) 0 0 (va_A (w_best cI cZ cP x0 nw sp im sc hg fg pg pr keys moms lens prts luds hnds lats knds rch spd unN unH ptn ends ear ltr p0) sz) := by
  refine q_enter (by decide) (Nat.le_of_ble_eq_true rfl) ?_
  intro p e s m below meth c ls hX hr hlk hnm hE hK hP hD hS hA hl
  obtain ⟨hx, hb, hml, hown, ht⟩ := id hX
  have hl : lv_has ls 2 [(0, .ref x0), (1, .int p0)] := hl
  refine lv_iload_n hx hb dX6_best_0 rfl (lv_at hl 1 rfl) ?_
  refine lv_iconst (v := 0) hx hb dX6_best_1 (by decide) ?_
  refine lv_iconst (v := 1) hx hb dX6_best_2 (by decide) ?_
  refine q_Si (wr := [(x0, .inr (6, [.ref nw, .ref sp, .ref im, .ref sc, .ref hg, .ref fg, .ref pg, .ref pr, .int 0, .long 0, .long 1, .int 0, .int 0, .int 0])), (nw, .inr (3, [.int 2, .int 0, .ref keys, .ref moms, .ref lens, .ref prts, .ref luds, .ref hnds, .ref lats, .ref knds, .ref rch, .ref spd, .int 0, .int 0, .int 0, .ref unN, .ref unH, .ref ptn])), (pg, .inr (2, [.int 0, .int 0, .int 0, .ref ends, .int 0, .ref ear, .ref ltr, .int 0]))]) [] [0, 1, 2] hX hE hK hP hD hS hA hl.1 lk_X6_62 (c_within l D cI cZ cP sa p0 0 1 _) rfl rfl rfl rfl (by decide) rfl rfl (Nat.le_of_ble_eq_true rfl) rfl rfl ⟨Nat.le_of_ble_eq_true rfl, Nat.le_of_ble_eq_true rfl⟩ ⟨Nat.le_of_ble_eq_true rfl, Nat.le_of_ble_eq_true rfl⟩ dX6_best_3 (fun x_1 _ H locs h_1 hP hD hS => ?_)
  have hP : va_P D vwCl [(x0, .inr (6, [.ref nw, .ref sp, .ref im, .ref sc, .ref hg, .ref fg, .ref pg, .ref pr, .int 0, .long 0, .long 1, .int 0, .int 0, .int 0])), (nw, .inr (3, [.int 2, .int 0, .ref keys, .ref moms, .ref lens, .ref prts, .ref luds, .ref hnds, .ref lats, .ref knds, .ref rch, .ref spd, .int 0, .int 0, .int 0, .ref unN, .ref unH, .ref ptn])), (pg, .inr (2, [.int 0, .int 0, .int 0, .ref ends, .int 0, .ref ear, .ref ltr, .int 0]))] H := hP
  have hD : va_D (va_A (w_best cI cZ cP x0 nw sp im sc hg fg pg pr keys moms lens prts luds hnds lats knds rch spd unN unH ptn ends ear ltr p0) sz) [(x0, .inr (6, [.ref nw, .ref sp, .ref im, .ref sc, .ref hg, .ref fg, .ref pg, .ref pr, .int 0, .long 0, .long 1, .int 0, .int 0, .int 0])), (nw, .inr (3, [.int 2, .int 0, .ref keys, .ref moms, .ref lens, .ref prts, .ref luds, .ref hnds, .ref lats, .ref knds, .ref rch, .ref spd, .int 0, .int 0, .int 0, .ref unN, .ref unH, .ref ptn])), (pg, .inr (2, [.int 0, .int 0, .int 0, .ref ends, .int 0, .ref ear, .ref ltr, .int 0]))] := hD
  rcases Classical.em (0 ≤ p0 ∧ p0 ≤ 1) with c_1 | c_1
  · rw [if_pos c_1] at h_1; subst h_1
    refine lv_if_ne (tgt := 16) hx hb dX6_best_6 (by decide) (fun _ => ?_) (fun c_2 => absurd c_2 (by decide))
    refine lv_aload_n hx hb dX6_best_16 rfl (lv_at hl 0 rfl) ?_
    refine va_get (D := D) (ci := 6) (v := .ref pg) (C := RX6) (T := TX6) (N := 14) hx hb ht inX6 hown hK hP 0 rfl rfl 6 (Nat.le_of_ble_eq_true rfl) (ht _ kw_343) (fun _ h9 => h9) rfl dX6_best_17 ?_
    refine lv_aload_n hx hb dX6_best_20 rfl (lv_at hl 0 rfl) ?_
    refine va_get (D := D) (ci := 6) (v := .ref nw) (C := RX6) (T := TX6) (N := 14) hx hb ht inX6 hown hK hP 0 rfl rfl 0 (Nat.le_of_ble_eq_true rfl) (ht _ kw_337) (fun _ h9 => h9) rfl dX6_best_21 ?_
    refine q_Vv (wr := [(x0, .inr (6, [.ref nw, .ref sp, .ref im, .ref sc, .ref hg, .ref fg, .ref pg, .ref pr, .int 0, .long 0, .long 1, .int 0, .int 0, .int 0]))]) [2, 1] [0] hX hE hK hP hD hS hA hl.1 lk_X6_206 (c_gather l D cI cZ cP sa pg ends ear ltr nw keys moms lens prts luds hnds lats knds rch spd unN unH ptn _) rfl rfl rfl rfl (by decide) 0 2 rfl rfl rfl rfl (Nat.le_of_ble_eq_true rfl) rfl rfl ⟨Nat.le_of_ble_eq_true rfl, Nat.le_of_ble_eq_true rfl⟩ ⟨Nat.le_of_ble_eq_true rfl, Nat.le_of_ble_eq_true rfl⟩ dX6_best_24 (fun _ H locs h_3 hP hD hS => ?_)
    have hP : va_P D vwCl [(x0, .inr (6, [.ref nw, .ref sp, .ref im, .ref sc, .ref hg, .ref fg, .ref pg, .ref pr, .int 0, .long 0, .long 1, .int 0, .int 0, .int 0])), (pg, .inr (2, [.int 0, .int 0, .int 0, .ref ends, .int 0, .ref ear, .ref ltr, .int 0])), (nw, .inr (3, [.int 2, .int 0, .ref keys, .ref moms, .ref lens, .ref prts, .ref luds, .ref hnds, .ref lats, .ref knds, .ref rch, .ref spd, .int 0, .int 0, .int 0, .ref unN, .ref unH, .ref ptn]))] H := hP
    have hD : va_D (va_A (w_best cI cZ cP x0 nw sp im sc hg fg pg pr keys moms lens prts luds hnds lats knds rch spd unN unH ptn ends ear ltr p0) sz) [(x0, .inr (6, [.ref nw, .ref sp, .ref im, .ref sc, .ref hg, .ref fg, .ref pg, .ref pr, .int 0, .long 0, .long 1, .int 0, .int 0, .int 0])), (pg, .inr (2, [.int 0, .int 0, .int 0, .ref ends, .int 0, .ref ear, .ref ltr, .int 0])), (nw, .inr (3, [.int 2, .int 0, .ref keys, .ref moms, .ref lens, .ref prts, .ref luds, .ref hnds, .ref lats, .ref knds, .ref rch, .ref spd, .int 0, .int 0, .int 0, .ref unN, .ref unH, .ref ptn]))] := hD
    refine lv_aload_n hx hb dX6_best_27 rfl (lv_at hl 0 rfl) ?_
    refine va_get (D := D) (ci := 6) (v := .ref pg) (C := RX6) (T := TX6) (N := 14) hx hb ht inX6 hown hK hP 0 rfl rfl 6 (Nat.le_of_ble_eq_true rfl) (ht _ kw_343) (fun _ h9 => h9) rfl dX6_best_28 ?_
    refine q_Vv (wr := [(x0, .inr (6, [.ref nw, .ref sp, .ref im, .ref sc, .ref hg, .ref fg, .ref pg, .ref pr, .int 0, .long 0, .long 1, .int 0, .int 0, .int 0])), (nw, .inr (3, [.int 2, .int 0, .ref keys, .ref moms, .ref lens, .ref prts, .ref luds, .ref hnds, .ref lats, .ref knds, .ref rch, .ref spd, .int 0, .int 0, .int 0, .ref unN, .ref unH, .ref ptn]))]) [1] [0, 2] hX hE hK hP hD hS hA hl.1 lk_X6_215 (c_findBest l D cI cZ cP sa pg ends ear ltr _) rfl rfl rfl rfl (by decide) 0 2 rfl rfl rfl rfl (Nat.le_of_ble_eq_true rfl) rfl rfl ⟨Nat.le_of_ble_eq_true rfl, Nat.le_of_ble_eq_true rfl⟩ ⟨Nat.le_of_ble_eq_true rfl, Nat.le_of_ble_eq_true rfl⟩ dX6_best_31 (fun _ H locs h_4 hP hD hS => ?_)
    have hP : va_P D vwCl [(x0, .inr (6, [.ref nw, .ref sp, .ref im, .ref sc, .ref hg, .ref fg, .ref pg, .ref pr, .int 0, .long 0, .long 1, .int 0, .int 0, .int 0])), (nw, .inr (3, [.int 2, .int 0, .ref keys, .ref moms, .ref lens, .ref prts, .ref luds, .ref hnds, .ref lats, .ref knds, .ref rch, .ref spd, .int 0, .int 0, .int 0, .ref unN, .ref unH, .ref ptn])), (pg, .inr (2, [.int 0, .int 0, .int 0, .ref ends, .int 0, .ref ear, .ref ltr, .int 0]))] H := hP
    have hD : va_D (va_A (w_best cI cZ cP x0 nw sp im sc hg fg pg pr keys moms lens prts luds hnds lats knds rch spd unN unH ptn ends ear ltr p0) sz) [(x0, .inr (6, [.ref nw, .ref sp, .ref im, .ref sc, .ref hg, .ref fg, .ref pg, .ref pr, .int 0, .long 0, .long 1, .int 0, .int 0, .int 0])), (nw, .inr (3, [.int 2, .int 0, .ref keys, .ref moms, .ref lens, .ref prts, .ref luds, .ref hnds, .ref lats, .ref knds, .ref rch, .ref spd, .int 0, .int 0, .int 0, .ref unN, .ref unH, .ref ptn])), (pg, .inr (2, [.int 0, .int 0, .int 0, .ref ends, .int 0, .ref ear, .ref ltr, .int 0]))] := hD
    refine lv_iload_n hx hb dX6_best_34 rfl (lv_at hl 1 rfl) ?_
    refine lv_if_ne (tgt := 48) hx hb dX6_best_35 (by decide) (fun c_5 => ?_) (fun c_5 => ?_)
    · refine lv_bipush (v := 100) hx hb dX6_best_48 (by decide) ?_
      refine lv_aload_n hx hb dX6_best_50 rfl (lv_at hl 0 rfl) ?_
      refine va_get (D := D) (ci := 6) (v := .ref pg) (C := RX6) (T := TX6) (N := 14) hx hb ht inX6 hown hK hP 0 rfl rfl 6 (Nat.le_of_ble_eq_true rfl) (ht _ kw_343) (fun _ h9 => h9) rfl dX6_best_51 ?_
      refine va_get (D := D) (ci := 2) (v := .int 0) (C := RX2) (T := TX2) (N := 8) hx hb ht inX2 hown hK hP 2 rfl rfl 1 (Nat.le_of_ble_eq_true rfl) (ht _ kw_291) (fun _ h9 => h9) rfl dX6_best_54 ?_
      refine lv_imul hx hb dX6_best_57 ?_
      refine q_i (z := 0) (by decide) ?_
      refine lv_aload_n hx hb dX6_best_58 rfl (lv_at hl 0 rfl) ?_
      refine va_get (D := D) (ci := 6) (v := .ref pg) (C := RX6) (T := TX6) (N := 14) hx hb ht inX6 hown hK hP 0 rfl rfl 6 (Nat.le_of_ble_eq_true rfl) (ht _ kw_343) (fun _ h9 => h9) rfl dX6_best_59 ?_
      refine va_get (D := D) (ci := 2) (v := .int 0) (C := RX2) (T := TX2) (N := 8) hx hb ht inX2 hown hK hP 2 rfl rfl 2 (Nat.le_of_ble_eq_true rfl) (ht _ kw_293) (fun _ h9 => h9) rfl dX6_best_62 ?_
      refine lv_iadd hx hb dX6_best_65 ?_
      refine q_i (z := 0) (by decide) ?_
      exact q_iret hX hr hlk () (by simp [sp_blurs, c_1, c_5]) (hP.sub [] rfl) (hD.sub [] (by decide) rfl) hS dX6_best_66
    · refine lv_aload_n hx hb dX6_best_38 rfl (lv_at hl 0 rfl) ?_
      refine va_get (D := D) (ci := 6) (v := .ref pg) (C := RX6) (T := TX6) (N := 14) hx hb ht inX6 hown hK hP 0 rfl rfl 6 (Nat.le_of_ble_eq_true rfl) (ht _ kw_343) (fun _ h9 => h9) rfl dX6_best_39 ?_
      refine va_get (D := D) (ci := 2) (v := .int 0) (C := RX2) (T := TX2) (N := 8) hx hb ht inX2 hown hK hP 2 rfl rfl 0 (Nat.le_of_ble_eq_true rfl) (ht _ kw_289) (fun _ h9 => h9) rfl dX6_best_42 ?_
      refine lv_goto (tgt := 66) hx hb dX6_best_45 (by decide) ?_
      exact q_iret hX hr hlk () (by simp [sp_blurs, c_1, c_5]) (hP.sub [] rfl) (hD.sub [] (by decide) rfl) hS dX6_best_66
  · rw [if_neg c_1] at h_1; subst h_1
    refine lv_if_ne (tgt := 16) hx hb dX6_best_6 (by decide) (fun c_6 => absurd (by decide) c_6) (fun _ => ?_)
    refine lv_aload_n hx hb dX6_best_9 rfl (lv_at hl 0 rfl) ?_
    refine lv_bipush (v := (-2)) hx hb dX6_best_10 (by decide) ?_
    refine q_Vi (wr := [(nw, .inr (3, [.int 2, .int 0, .ref keys, .ref moms, .ref lens, .ref prts, .ref luds, .ref hnds, .ref lats, .ref knds, .ref rch, .ref spd, .int 0, .int 0, .int 0, .ref unN, .ref unH, .ref ptn])), (pg, .inr (2, [.int 0, .int 0, .int 0, .ref ends, .int 0, .ref ear, .ref ltr, .int 0]))]) [0] [1, 2] hX hE hK hP hD hS hA hl.1 lk_X6_66 (c_refuseBad l D cI cZ cP sa x0 nw sp im sc hg fg pg pr 0 0 1 0 0 0 (-2) _) rfl rfl rfl rfl (by decide) 0 6 rfl rfl rfl rfl (Nat.le_of_ble_eq_true rfl) rfl rfl ⟨Nat.le_of_ble_eq_true rfl, Nat.le_of_ble_eq_true rfl⟩ ⟨Nat.le_of_ble_eq_true rfl, Nat.le_of_ble_eq_true rfl⟩ dX6_best_12 (fun x_7 _ H locs h_7 hP hD hS => ?_)
    have hP : va_P D vwCl [(nw, .inr (3, [.int 2, .int 0, .ref keys, .ref moms, .ref lens, .ref prts, .ref luds, .ref hnds, .ref lats, .ref knds, .ref rch, .ref spd, .int 0, .int 0, .int 0, .ref unN, .ref unH, .ref ptn])), (pg, .inr (2, [.int 0, .int 0, .int 0, .ref ends, .int 0, .ref ear, .ref ltr, .int 0]))] H := hP
    have hD : va_D (va_A (w_best cI cZ cP x0 nw sp im sc hg fg pg pr keys moms lens prts luds hnds lats knds rch spd unN unH ptn ends ear ltr p0) sz) [(nw, .inr (3, [.int 2, .int 0, .ref keys, .ref moms, .ref lens, .ref prts, .ref luds, .ref hnds, .ref lats, .ref knds, .ref rch, .ref spd, .int 0, .int 0, .int 0, .ref unN, .ref unH, .ref ptn])), (pg, .inr (2, [.int 0, .int 0, .int 0, .ref ends, .int 0, .ref ear, .ref ltr, .int 0]))] := hD
    subst h_7
    exact q_iret hX hr hlk () (by simp [sp_blurs, c_1]) (hP.sub [] rfl) (hD.sub [] (by decide) rfl) hS dX6_best_15
abbrev w_setFraction (cI cZ cP : ClassId) (x0 : Nat) (nw : Nat) (sp : Nat) (im : Nat) (sc : Nat) (hg : Nat) (fg : Nat) (pg : Nat) (pr : Nat) (kp : Int32) (ab : Int64) (be : Int64) (bd : Int32) (ns : Int32) (fu : Int32) (p0 : Int32) (p1 : Int32) : va_W := [(x0, .inr (6, [.ref nw, .ref sp, .ref im, .ref sc, .ref hg, .ref fg, .ref pg, .ref pr, .int kp, .long ab, .long be, .int bd, .int ns, .int fu]))]
set_option maxHeartbeats 4000000 in
set_option maxRecDepth 100000 in
theorem c_setFraction (l : Launch) (D : va_G) (cI cZ cP : ClassId) (sa : Nat → Nat) (x0 : Nat) (nw : Nat) (sp : Nat) (im : Nat) (sc : Nat) (hg : Nat) (fg : Nat) (pg : Nat) (pr : Nat) (kp : Int32) (ab : Int64) (be : Int64) (bd : Int32) (ns : Int32) (fu : Int32) (p0 : Int32) (p1 : Int32) (sz : Nat) : Met l yX6_setFraction (qW yX6_setFraction cX6_setFraction 7 none) ({ frames := 0, cells := 0, slots := 0, locals := 0 } : Room) (qP D (TY cI cZ cP) sa [.ref x0, .int p0, .int p1] (w_setFraction cI cZ cP x0 nw sp im sc hg fg pg pr kp ab be bd ns fu p0 p1) sz) (qQv D (w_setFraction cI cZ cP x0 nw sp im sc hg fg pg pr kp ab be bd ns fu p0 p1) sz (fun _ : Unit => True) (fun _ => [])) 0 0 (va_A (w_setFraction cI cZ cP x0 nw sp im sc hg fg pg pr kp ab be bd ns fu p0 p1) sz) := by
  refine q_enter (by decide) (Nat.le_of_ble_eq_true rfl) ?_
  intro p e s m below meth c ls hX hr hlk hnm hE hK hP hD hS hA hl
  obtain ⟨hx, hb, hml, hown, ht⟩ := id hX
  have hl : lv_has ls 7 [(0, .ref x0), (1, .int p0), (2, .int p1)] := hl
  refine lv_iload_n hx hb dX6_setFraction_0 rfl (lv_at hl 2 rfl) ?_
  refine lv_istore_n (lv' := [(3, .int p1), (0, .ref x0), (1, .int p0), (2, .int p1)]) hx hb dX6_setFraction_1 rfl hl (by decide) rfl (fun ls hl => ?_)
  refine lv_iload_n hx hb dX6_setFraction_2 rfl (lv_at hl 2 rfl) ?_
  refine lv_istore (lv' := [(4, .int p0), (3, .int p1), (0, .ref x0), (1, .int p0), (2, .int p1)]) hx hb dX6_setFraction_3 hl (by decide) rfl (fun ls hl => ?_)
  refine lv_iconst (v := 0) hx hb dX6_setFraction_5 (by decide) ?_
  refine lv_istore (lv' := [(5, .int 0), (4, .int p0), (3, .int p1), (0, .ref x0), (1, .int p0), (2, .int p1)]) hx hb dX6_setFraction_6 hl (by decide) rfl (fun ls hl => ?_)
  have lp_8 : ∀ (n_8 : Nat) (k : Nat) (va : Int32) (vb : Int32), (k ≤ 64) → (65 ≤ k + n_8) → ∀ (H : Heap) (locs : List Loc) (ls : Array Slot), va_P D vwCl [(x0, .inr (6, [.ref nw, .ref sp, .ref im, .ref sc, .ref hg, .ref fg, .ref pg, .ref pr, .int kp, .long ab, .long be, .int bd, .int ns, .int fu]))] H → va_D (va_A (w_setFraction cI cZ cP x0 nw sp im sc hg fg pg pr kp ab be bd ns fu p0 p1) sz) [(x0, .inr (6, [.ref nw, .ref sp, .ref im, .ref sc, .ref hg, .ref fg, .ref pg, .ref pr, .int kp, .long ab, .long be, .int bd, .int ns, .int fu]))] → va_S (va_A (w_setFraction cI cZ cP x0 nw sp im sc hg fg pg pr kp ab be bd ns fu p0 p1) sz) s.heap H locs → lv_has ls 7 [(5, .int (nI k)), (4, .int vb), (3, .int va), (0, .ref x0), (1, .int p0), (2, .int p1)] → W p l e ({ frames := 0, cells := 0, slots := 0, locals := 0 } : Room) s m ([.ref x0, .int p0, .int p1] : List Value).toArray below meth c H locs 0 0 (MQ below (qQv D (w_setFraction cI cZ cP x0 nw sp im sc hg fg pg pr kp ab be bd ns fu p0 p1) sz (fun _ : Unit => True) (fun _ => [])) ([.ref x0, .int p0, .int p1] : List Value).toArray s 0 0 (va_A (w_setFraction cI cZ cP x0 nw sp im sc hg fg pg pr kp ab be bd ns fu p0 p1) sz)) (F0 m 8 ls []) := by
    intro n_8
    induction n_8 with
    | zero => intro k va vb hk hm_8; exact absurd hm_8 (by omega)
    | succ n_8 ih_8 =>
      intro k va vb hk hm_8 H locs ls hP hD hS hl
      refine lv_iload hx hb dX6_setFraction_8 (lv_at hl 0 rfl) ?_
      refine lv_bipush (v := 64) hx hb dX6_setFraction_10 (by decide) ?_
      refine lv_icmp_ge (tgt := 39) hx hb dX6_setFraction_12 (by decide) (fun c_1 => ?_) (fun c_1 => ?_)
      · refine lv_iload_n hx hb dX6_setFraction_39 rfl (lv_at hl 2 rfl) ?_
        refine lv_if_le (tgt := 59) hx hb dX6_setFraction_40 (by decide) (fun c_2 => ?_) (fun c_2 => ?_)
        · exact q_vret hX hr hlk () trivial (hP.sub [] rfl) (hD.sub [] (by decide) rfl) hS dX6_setFraction_59
        · refine lv_aload_n hx hb dX6_setFraction_43 rfl (lv_at hl 3 rfl) ?_
          refine lv_iload_n hx hb dX6_setFraction_44 rfl (lv_at hl 4 rfl) ?_
          refine lv_iload_n hx hb dX6_setFraction_45 rfl (lv_at hl 2 rfl) ?_
          refine lv_idiv hx hb dX6_setFraction_46 (pos_ne c_2) ?_
          refine lv_i2l (v := ((p0 / va).toInt64)) hx hb dX6_setFraction_47 rfl ?_
          refine va_put (D := D) (ci := 6) (v := .long ((p0 / va).toInt64)) (ty := .long) (C := RX6) (T := TX6) (N := 14) hx hb ht inX6 tyX6 tyX6_ok nmX6 hown hK hP hD hS 0 rfl rfl 9 (Nat.le_of_ble_eq_true rfl) (ht _ kw_346) (fun _ h9 => h9) rfl (by decide +kernel) rfl rfl (Nat.le_of_ble_eq_true rfl) dX6_setFraction_48 (fun H locs hP hD hS => ?_)
          have hP : va_P D vwCl [(x0, .inr (6, [.ref nw, .ref sp, .ref im, .ref sc, .ref hg, .ref fg, .ref pg, .ref pr, .int kp, .long ((p0 / va).toInt64), .long be, .int bd, .int ns, .int fu]))] H := hP
          have hD : va_D (va_A (w_setFraction cI cZ cP x0 nw sp im sc hg fg pg pr kp ab be bd ns fu p0 p1) sz) [(x0, .inr (6, [.ref nw, .ref sp, .ref im, .ref sc, .ref hg, .ref fg, .ref pg, .ref pr, .int kp, .long ((p0 / va).toInt64), .long be, .int bd, .int ns, .int fu]))] := hD
          refine lv_aload_n hx hb dX6_setFraction_51 rfl (lv_at hl 3 rfl) ?_
          refine lv_iload_n hx hb dX6_setFraction_52 rfl (lv_at hl 5 rfl) ?_
          refine lv_iload_n hx hb dX6_setFraction_53 rfl (lv_at hl 2 rfl) ?_
          refine lv_idiv hx hb dX6_setFraction_54 (pos_ne c_2) ?_
          refine lv_i2l (v := ((p1 / va).toInt64)) hx hb dX6_setFraction_55 rfl ?_
          refine va_put (D := D) (ci := 6) (v := .long ((p1 / va).toInt64)) (ty := .long) (C := RX6) (T := TX6) (N := 14) hx hb ht inX6 tyX6 tyX6_ok nmX6 hown hK hP hD hS 0 rfl rfl 10 (Nat.le_of_ble_eq_true rfl) (ht _ kw_347) (fun _ h9 => h9) rfl (by decide +kernel) rfl rfl (Nat.le_of_ble_eq_true rfl) dX6_setFraction_56 (fun H locs hP hD hS => ?_)
          have hP : va_P D vwCl [(x0, .inr (6, [.ref nw, .ref sp, .ref im, .ref sc, .ref hg, .ref fg, .ref pg, .ref pr, .int kp, .long ((p0 / va).toInt64), .long ((p1 / va).toInt64), .int bd, .int ns, .int fu]))] H := hP
          have hD : va_D (va_A (w_setFraction cI cZ cP x0 nw sp im sc hg fg pg pr kp ab be bd ns fu p0 p1) sz) [(x0, .inr (6, [.ref nw, .ref sp, .ref im, .ref sc, .ref hg, .ref fg, .ref pg, .ref pr, .int kp, .long ((p0 / va).toInt64), .long ((p1 / va).toInt64), .int bd, .int ns, .int fu]))] := hD
          exact q_vret hX hr hlk () trivial (hP.sub [] rfl) (hD.sub [] (by decide) rfl) hS dX6_setFraction_59
      · have hk2 : k < 64 := nI_dnn (a := 64) c_1 (by omega) (by omega)
        refine lv_iload hx hb dX6_setFraction_15 (lv_at hl 1 rfl) ?_
        refine lv_if_eq (tgt := 39) hx hb dX6_setFraction_17 (by decide) (fun c_3 => ?_) (fun c_3 => ?_)
        · refine lv_iload_n hx hb dX6_setFraction_39 rfl (lv_at hl 2 rfl) ?_
          refine lv_if_le (tgt := 59) hx hb dX6_setFraction_40 (by decide) (fun c_4 => ?_) (fun c_4 => ?_)
          · exact q_vret hX hr hlk () trivial (hP.sub [] rfl) (hD.sub [] (by decide) rfl) hS dX6_setFraction_59
          · refine lv_aload_n hx hb dX6_setFraction_43 rfl (lv_at hl 3 rfl) ?_
            refine lv_iload_n hx hb dX6_setFraction_44 rfl (lv_at hl 4 rfl) ?_
            refine lv_iload_n hx hb dX6_setFraction_45 rfl (lv_at hl 2 rfl) ?_
            refine lv_idiv hx hb dX6_setFraction_46 (pos_ne c_4) ?_
            refine lv_i2l (v := ((p0 / va).toInt64)) hx hb dX6_setFraction_47 rfl ?_
            refine va_put (D := D) (ci := 6) (v := .long ((p0 / va).toInt64)) (ty := .long) (C := RX6) (T := TX6) (N := 14) hx hb ht inX6 tyX6 tyX6_ok nmX6 hown hK hP hD hS 0 rfl rfl 9 (Nat.le_of_ble_eq_true rfl) (ht _ kw_346) (fun _ h9 => h9) rfl (by decide +kernel) rfl rfl (Nat.le_of_ble_eq_true rfl) dX6_setFraction_48 (fun H locs hP hD hS => ?_)
            have hP : va_P D vwCl [(x0, .inr (6, [.ref nw, .ref sp, .ref im, .ref sc, .ref hg, .ref fg, .ref pg, .ref pr, .int kp, .long ((p0 / va).toInt64), .long be, .int bd, .int ns, .int fu]))] H := hP
            have hD : va_D (va_A (w_setFraction cI cZ cP x0 nw sp im sc hg fg pg pr kp ab be bd ns fu p0 p1) sz) [(x0, .inr (6, [.ref nw, .ref sp, .ref im, .ref sc, .ref hg, .ref fg, .ref pg, .ref pr, .int kp, .long ((p0 / va).toInt64), .long be, .int bd, .int ns, .int fu]))] := hD
            refine lv_aload_n hx hb dX6_setFraction_51 rfl (lv_at hl 3 rfl) ?_
            refine lv_iload_n hx hb dX6_setFraction_52 rfl (lv_at hl 5 rfl) ?_
            refine lv_iload_n hx hb dX6_setFraction_53 rfl (lv_at hl 2 rfl) ?_
            refine lv_idiv hx hb dX6_setFraction_54 (pos_ne c_4) ?_
            refine lv_i2l (v := ((p1 / va).toInt64)) hx hb dX6_setFraction_55 rfl ?_
            refine va_put (D := D) (ci := 6) (v := .long ((p1 / va).toInt64)) (ty := .long) (C := RX6) (T := TX6) (N := 14) hx hb ht inX6 tyX6 tyX6_ok nmX6 hown hK hP hD hS 0 rfl rfl 10 (Nat.le_of_ble_eq_true rfl) (ht _ kw_347) (fun _ h9 => h9) rfl (by decide +kernel) rfl rfl (Nat.le_of_ble_eq_true rfl) dX6_setFraction_56 (fun H locs hP hD hS => ?_)
            have hP : va_P D vwCl [(x0, .inr (6, [.ref nw, .ref sp, .ref im, .ref sc, .ref hg, .ref fg, .ref pg, .ref pr, .int kp, .long ((p0 / va).toInt64), .long ((p1 / va).toInt64), .int bd, .int ns, .int fu]))] H := hP
            have hD : va_D (va_A (w_setFraction cI cZ cP x0 nw sp im sc hg fg pg pr kp ab be bd ns fu p0 p1) sz) [(x0, .inr (6, [.ref nw, .ref sp, .ref im, .ref sc, .ref hg, .ref fg, .ref pg, .ref pr, .int kp, .long ((p0 / va).toInt64), .long ((p1 / va).toInt64), .int bd, .int ns, .int fu]))] := hD
            exact q_vret hX hr hlk () trivial (hP.sub [] rfl) (hD.sub [] (by decide) rfl) hS dX6_setFraction_59
        · refine lv_iload_n hx hb dX6_setFraction_20 rfl (lv_at hl 2 rfl) ?_
          refine lv_iload hx hb dX6_setFraction_21 (lv_at hl 1 rfl) ?_
          refine lv_irem hx hb dX6_setFraction_23 c_3 ?_
          refine lv_istore (lv' := [(6, .int (va - va / vb * vb)), (5, .int (nI k)), (4, .int vb), (3, .int va), (0, .ref x0), (1, .int p0), (2, .int p1)]) hx hb dX6_setFraction_24 hl (by decide) rfl (fun ls hl => ?_)
          refine lv_iload hx hb dX6_setFraction_26 (lv_at hl 2 rfl) ?_
          refine lv_istore_n (lv' := [(3, .int vb), (6, .int (va - va / vb * vb)), (5, .int (nI k)), (4, .int vb), (0, .ref x0), (1, .int p0), (2, .int p1)]) hx hb dX6_setFraction_28 rfl hl (by decide) rfl (fun ls hl => ?_)
          refine lv_iload hx hb dX6_setFraction_29 (lv_at hl 1 rfl) ?_
          refine lv_istore (lv' := [(4, .int (va - va / vb * vb)), (3, .int vb), (6, .int (va - va / vb * vb)), (5, .int (nI k)), (0, .ref x0), (1, .int p0), (2, .int p1)]) hx hb dX6_setFraction_31 hl (by decide) rfl (fun ls hl => ?_)
          refine lv_iinc (v := (nI (k + 1))) (lv' := [(5, .int (nI (k + 1))), (4, .int (va - va / vb * vb)), (3, .int vb), (6, .int (va - va / vb * vb)), (0, .ref x0), (1, .int p0), (2, .int p1)]) hx hb dX6_setFraction_33 hl (k := 3) rfl (nI_1 k) (by decide) rfl (fun ls hl => ?_)
          refine lv_goto (tgt := 8) hx hb dX6_setFraction_36 (by decide) ?_
          exact ih_8 (k + 1) vb (va - va / vb * vb) (by omega) (by omega) _ _ _ hP hD hS (lv_sub hl [0, 1, 2, 4, 5, 6] rfl)
  exact lp_8 65 0 p1 p0 (by omega) (by omega) _ _ _ hP hD hS (lv_sub hl [0, 1, 2, 3, 4, 5] rfl)
abbrev w_breath (cI cZ cP : ClassId) (x0 : Nat) (nw : Nat) (sp : Nat) (im : Nat) (sc : Nat) (hg : Nat) (fg : Nat) (pg : Nat) (pr : Nat) (p0 : Int32) (p1 : Int32) : va_W := [(x0, .inr (6, [.ref nw, .ref sp, .ref im, .ref sc, .ref hg, .ref fg, .ref pg, .ref pr, .int 0, .long 0, .long 1, .int 0, .int 0, .int 0]))]
set_option maxHeartbeats 4000000 in
set_option maxRecDepth 100000 in
theorem c_breath (l : Launch) (D : va_G) (cI cZ cP : ClassId) (sa : Nat → Nat) (x0 : Nat) (nw : Nat) (sp : Nat) (im : Nat) (sc : Nat) (hg : Nat) (fg : Nat) (pg : Nat) (pr : Nat) (p0 : Int32) (p1 : Int32) (sz : Nat) : Met l yX6_breath (qW yX6_breath cX6_breath 6 (some .int)) ({ frames := 1, cells := 0, slots := 0, locals := 26 } : Room) (qP D (TY cI cZ cP) sa [.ref x0, .int p0, .int p1] (w_breath cI cZ cP x0 nw sp im sc hg fg pg pr p0 p1) sz) (qQi D (w_breath cI cZ cP x0 nw sp im sc hg fg pg pr p0 p1) sz (fun (r : Int32) (_ : Unit) => r = sp_breath p0 p1) (fun _ => [])) 0 0 (va_A (w_breath cI cZ cP x0 nw sp im sc hg fg pg pr p0 p1) sz) := by
  refine q_enter (by decide) (Nat.le_of_ble_eq_true rfl) ?_
  intro p e s m below meth c ls hX hr hlk hnm hE hK hP hD hS hA hl
  obtain ⟨hx, hb, hml, hown, ht⟩ := id hX
  have hl : lv_has ls 6 [(0, .ref x0), (1, .int p0), (2, .int p1)] := hl
  refine lv_iload_n hx hb dX6_breath_0 rfl (lv_at hl 1 rfl) ?_
  refine lv_iconst (v := 0) hx hb dX6_breath_1 (by decide) ?_
  refine lv_bipush (v := 20) hx hb dX6_breath_2 (by decide) ?_
  refine q_Si (wr := [(x0, .inr (6, [.ref nw, .ref sp, .ref im, .ref sc, .ref hg, .ref fg, .ref pg, .ref pr, .int 0, .long 0, .long 1, .int 0, .int 0, .int 0]))]) [] [0] hX hE hK hP hD hS hA hl.1 lk_X6_62 (c_within l D cI cZ cP sa p0 0 20 _) rfl rfl rfl rfl (by decide) rfl rfl (Nat.le_of_ble_eq_true rfl) rfl rfl ⟨Nat.le_of_ble_eq_true rfl, Nat.le_of_ble_eq_true rfl⟩ ⟨Nat.le_of_ble_eq_true rfl, Nat.le_of_ble_eq_true rfl⟩ dX6_breath_4 (fun x_1 _ H locs h_1 hP hD hS => ?_)
  have hP : va_P D vwCl [(x0, .inr (6, [.ref nw, .ref sp, .ref im, .ref sc, .ref hg, .ref fg, .ref pg, .ref pr, .int 0, .long 0, .long 1, .int 0, .int 0, .int 0]))] H := hP
  have hD : va_D (va_A (w_breath cI cZ cP x0 nw sp im sc hg fg pg pr p0 p1) sz) [(x0, .inr (6, [.ref nw, .ref sp, .ref im, .ref sc, .ref hg, .ref fg, .ref pg, .ref pr, .int 0, .long 0, .long 1, .int 0, .int 0, .int 0]))] := hD
  rcases Classical.em (0 ≤ p0 ∧ p0 ≤ 20) with c_1 | c_1
  · rw [if_pos c_1] at h_1; subst h_1
    refine lv_if_eq (tgt := 20) hx hb dX6_breath_7 (by decide) (fun c_2 => absurd c_2 (by decide)) (fun _ => ?_)
    refine lv_iload_n hx hb dX6_breath_10 rfl (lv_at hl 2 rfl) ?_
    refine lv_iconst (v := 0) hx hb dX6_breath_11 (by decide) ?_
    refine lv_bipush (v := 20) hx hb dX6_breath_12 (by decide) ?_
    refine q_Si (wr := [(x0, .inr (6, [.ref nw, .ref sp, .ref im, .ref sc, .ref hg, .ref fg, .ref pg, .ref pr, .int 0, .long 0, .long 1, .int 0, .int 0, .int 0]))]) [] [0] hX hE hK hP hD hS hA hl.1 lk_X6_62 (c_within l D cI cZ cP sa p1 0 20 _) rfl rfl rfl rfl (by decide) rfl rfl (Nat.le_of_ble_eq_true rfl) rfl rfl ⟨Nat.le_of_ble_eq_true rfl, Nat.le_of_ble_eq_true rfl⟩ ⟨Nat.le_of_ble_eq_true rfl, Nat.le_of_ble_eq_true rfl⟩ dX6_breath_14 (fun x_3 _ H locs h_3 hP hD hS => ?_)
    have hP : va_P D vwCl [(x0, .inr (6, [.ref nw, .ref sp, .ref im, .ref sc, .ref hg, .ref fg, .ref pg, .ref pr, .int 0, .long 0, .long 1, .int 0, .int 0, .int 0]))] H := hP
    have hD : va_D (va_A (w_breath cI cZ cP x0 nw sp im sc hg fg pg pr p0 p1) sz) [(x0, .inr (6, [.ref nw, .ref sp, .ref im, .ref sc, .ref hg, .ref fg, .ref pg, .ref pr, .int 0, .long 0, .long 1, .int 0, .int 0, .int 0]))] := hD
    rcases Classical.em (0 ≤ p1 ∧ p1 ≤ 20) with c_3 | c_3
    · rw [if_pos c_3] at h_3; subst h_3
      refine lv_if_ne (tgt := 27) hx hb dX6_breath_17 (by decide) (fun _ => ?_) (fun c_4 => absurd c_4 (by decide))
      refine lv_iconst (v := 0) hx hb dX6_breath_27 (by decide) ?_
      refine lv_istore_n (lv' := [(3, .int 0), (0, .ref x0), (1, .int p0), (2, .int p1)]) hx hb dX6_breath_28 rfl hl (by decide) rfl (fun ls hl => ?_)
      refine lv_iconst (v := 0) hx hb dX6_breath_29 (by decide) ?_
      refine lv_istore (lv' := [(4, .int 0), (3, .int 0), (0, .ref x0), (1, .int p0), (2, .int p1)]) hx hb dX6_breath_30 hl (by decide) rfl (fun ls hl => ?_)
      have lp_32 : ∀ (n_32 : Nat) (a : Nat) (y : Int32), (a ≤ 21) → (22 ≤ a + n_32) → ∀ (H : Heap) (locs : List Loc) (ls : Array Slot), va_P D vwCl [(x0, .inr (6, [.ref nw, .ref sp, .ref im, .ref sc, .ref hg, .ref fg, .ref pg, .ref pr, .int 0, .long 0, .long 1, .int 0, .int 0, .int 0]))] H → va_D (va_A (w_breath cI cZ cP x0 nw sp im sc hg fg pg pr p0 p1) sz) [(x0, .inr (6, [.ref nw, .ref sp, .ref im, .ref sc, .ref hg, .ref fg, .ref pg, .ref pr, .int 0, .long 0, .long 1, .int 0, .int 0, .int 0]))] → va_S (va_A (w_breath cI cZ cP x0 nw sp im sc hg fg pg pr p0 p1) sz) s.heap H locs → lv_has ls 6 [(4, .int (nI a)), (3, .int y), (0, .ref x0), (1, .int p0), (2, .int p1)] → W p l e ({ frames := 1, cells := 0, slots := 0, locals := 26 } : Room) s m ([.ref x0, .int p0, .int p1] : List Value).toArray below meth c H locs 0 0 (MQ below (qQi D (w_breath cI cZ cP x0 nw sp im sc hg fg pg pr p0 p1) sz (fun (r : Int32) (_ : Unit) => r = sp_breath p0 p1) (fun _ => [])) ([.ref x0, .int p0, .int p1] : List Value).toArray s 0 0 (va_A (w_breath cI cZ cP x0 nw sp im sc hg fg pg pr p0 p1) sz)) (F0 m 32 ls []) := by
        intro n_32
        induction n_32 with
        | zero => intro a y ha hm_32; exact absurd hm_32 (by omega)
        | succ n_32 ih_32 =>
          intro a y ha hm_32 H locs ls hP hD hS hl
          refine lv_iload hx hb dX6_breath_32 (lv_at hl 0 rfl) ?_
          refine lv_iload_n hx hb dX6_breath_34 rfl (lv_at hl 3 rfl) ?_
          refine lv_icmp_gt (tgt := 74) hx hb dX6_breath_35 (by decide) (fun c_5 => ?_) (fun c_5 => ?_)
          · refine lv_aload_n hx hb dX6_breath_74 rfl (lv_at hl 2 rfl) ?_
            refine lv_iload_n hx hb dX6_breath_75 rfl (lv_at hl 1 rfl) ?_
            refine lv_iload_n hx hb dX6_breath_76 rfl (lv_at hl 3 rfl) ?_
            refine lv_iconst (v := 1) hx hb dX6_breath_77 (by decide) ?_
            refine lv_iadd hx hb dX6_breath_78 ?_
            refine lv_iload_n hx hb dX6_breath_79 rfl (lv_at hl 3 rfl) ?_
            refine lv_iconst (v := 1) hx hb dX6_breath_80 (by decide) ?_
            refine lv_iadd hx hb dX6_breath_81 ?_
            refine lv_imul hx hb dX6_breath_82 ?_
            refine q_Vv (wr := []) [0] [] hX hE hK hP hD hS hA hl.1 lk_X6_243 (c_setFraction l D cI cZ cP sa x0 nw sp im sc hg fg pg pr 0 0 1 0 0 0 y ((p0 + 1) * (p0 + 1)) _) rfl rfl rfl rfl (by decide) 0 6 rfl rfl rfl rfl (Nat.le_of_ble_eq_true rfl) rfl rfl ⟨Nat.le_of_ble_eq_true rfl, Nat.le_of_ble_eq_true rfl⟩ ⟨Nat.le_of_ble_eq_true rfl, Nat.le_of_ble_eq_true rfl⟩ dX6_breath_83 (fun _ H locs h_6 hP hD hS => ?_)
            have hP : va_P D vwCl [] H := hP
            have hD : va_D (va_A (w_breath cI cZ cP x0 nw sp im sc hg fg pg pr p0 p1) sz) [] := hD
            refine lv_iconst (v := 1) hx hb dX6_breath_86 (by decide) ?_
            exact q_iret hX hr hlk () (by simp [sp_breath, c_1, c_3, ha, hm_32, c_5]) (hP.sub [] rfl) (hD.sub [] (by decide) rfl) hS dX6_breath_87
          · have ha2 : a ≤ 20 := nI_up c_5 c_1.2 (by decide) (by omega)
            refine lv_iconst (v := 0) hx hb dX6_breath_38 (by decide) ?_
            refine lv_istore (lv' := [(5, .int 0), (4, .int (nI a)), (3, .int y), (0, .ref x0), (1, .int p0), (2, .int p1)]) hx hb dX6_breath_39 hl (by decide) rfl (fun ls hl => ?_)
            have lp_41 : ∀ (n_41 : Nat) (b : Nat) (z : Int32), (b ≤ 21) → (22 ≤ b + n_41) → ∀ (H : Heap) (locs : List Loc) (ls : Array Slot), va_P D vwCl [(x0, .inr (6, [.ref nw, .ref sp, .ref im, .ref sc, .ref hg, .ref fg, .ref pg, .ref pr, .int 0, .long 0, .long 1, .int 0, .int 0, .int 0]))] H → va_D (va_A (w_breath cI cZ cP x0 nw sp im sc hg fg pg pr p0 p1) sz) [(x0, .inr (6, [.ref nw, .ref sp, .ref im, .ref sc, .ref hg, .ref fg, .ref pg, .ref pr, .int 0, .long 0, .long 1, .int 0, .int 0, .int 0]))] → va_S (va_A (w_breath cI cZ cP x0 nw sp im sc hg fg pg pr p0 p1) sz) s.heap H locs → lv_has ls 6 [(5, .int (nI b)), (4, .int (nI a)), (3, .int z), (0, .ref x0), (1, .int p0), (2, .int p1)] → W p l e ({ frames := 1, cells := 0, slots := 0, locals := 26 } : Room) s m ([.ref x0, .int p0, .int p1] : List Value).toArray below meth c H locs 0 0 (MQ below (qQi D (w_breath cI cZ cP x0 nw sp im sc hg fg pg pr p0 p1) sz (fun (r : Int32) (_ : Unit) => r = sp_breath p0 p1) (fun _ => [])) ([.ref x0, .int p0, .int p1] : List Value).toArray s 0 0 (va_A (w_breath cI cZ cP x0 nw sp im sc hg fg pg pr p0 p1) sz)) (F0 m 41 ls []) := by
              intro n_41
              induction n_41 with
              | zero => intro b z hb1 hm_41; exact absurd hm_41 (by omega)
              | succ n_41 ih_41 =>
                intro b z hb1 hm_41 H locs ls hP hD hS hl
                refine lv_iload hx hb dX6_breath_41 (lv_at hl 0 rfl) ?_
                refine lv_iload_n hx hb dX6_breath_43 rfl (lv_at hl 4 rfl) ?_
                refine lv_icmp_gt (tgt := 68) hx hb dX6_breath_44 (by decide) (fun c_7 => ?_) (fun c_7 => ?_)
                · refine lv_iinc (v := (nI (a + 1))) (lv' := [(4, .int (nI (a + 1))), (5, .int (nI b)), (3, .int z), (0, .ref x0), (1, .int p0), (2, .int p1)]) hx hb dX6_breath_68 hl (k := 1) rfl (nI_1 a) (by decide) rfl (fun ls hl => ?_)
                  refine lv_goto (tgt := 32) hx hb dX6_breath_71 (by decide) ?_
                  exact ih_32 (a + 1) z (by omega) (by omega) _ _ _ hP hD hS (lv_sub hl [0, 2, 3, 4, 5] rfl)
                · have hb2 : b ≤ 20 := nI_up c_7 c_1.2 (by decide) (by omega)
                  refine lv_iload hx hb dX6_breath_47 (lv_at hl 1 rfl) ?_
                  refine lv_iload hx hb dX6_breath_49 (lv_at hl 0 rfl) ?_
                  refine lv_isub hx hb dX6_breath_51 ?_
                  refine va_mabs hx hb (hml.trans hl.1.symm) hown (ht _ (mem_tb 828 rfl rfl)) (ht _ (mem_tb 574 rfl rfl)) (ht _ (mem_tb 96 rfl rfl)) (ht _ (mem_tb 575 rfl rfl)) (Nat.le_of_ble_eq_true rfl) (Nat.le_of_ble_eq_true rfl) (Nat.zero_le _) (Nat.zero_le _) dX6_breath_52 ?_
                  refine lv_iload_n hx hb dX6_breath_55 rfl (lv_at hl 5 rfl) ?_
                  refine lv_icmp_gt (tgt := 62) hx hb dX6_breath_56 (by decide) (fun c_8 => ?_) (fun c_8 => ?_)
                  · refine lv_iinc (v := (nI (b + 1))) (lv' := [(5, .int (nI (b + 1))), (4, .int (nI a)), (3, .int z), (0, .ref x0), (1, .int p0), (2, .int p1)]) hx hb dX6_breath_62 hl (k := 0) rfl (nI_1 b) (by decide) rfl (fun ls hl => ?_)
                    refine lv_goto (tgt := 41) hx hb dX6_breath_65 (by decide) ?_
                    exact ih_41 (b + 1) z (by omega) (by omega) _ _ _ hP hD hS (lv_sub hl [0, 1, 2, 3, 4, 5] rfl)
                  · refine lv_iinc (v := (z + 1)) (lv' := [(3, .int (z + 1)), (5, .int (nI b)), (4, .int (nI a)), (0, .ref x0), (1, .int p0), (2, .int p1)]) hx hb dX6_breath_59 hl (k := 2) rfl rfl (by decide) rfl (fun ls hl => ?_)
                    refine lv_iinc (v := (nI (b + 1))) (lv' := [(5, .int (nI (b + 1))), (3, .int (z + 1)), (4, .int (nI a)), (0, .ref x0), (1, .int p0), (2, .int p1)]) hx hb dX6_breath_62 hl (k := 1) rfl (nI_1 b) (by decide) rfl (fun ls hl => ?_)
                    refine lv_goto (tgt := 41) hx hb dX6_breath_65 (by decide) ?_
                    exact ih_41 (b + 1) (z + 1) (by omega) (by omega) _ _ _ hP hD hS (lv_sub hl [0, 2, 1, 3, 4, 5] rfl)
            exact lp_41 22 0 y (by omega) (by omega) _ _ _ hP hD hS (lv_sub hl [0, 1, 2, 3, 4, 5] rfl)
      exact lp_32 22 0 0 (by omega) (by omega) _ _ _ hP hD hS (lv_sub hl [0, 1, 2, 3, 4] rfl)
    · rw [if_neg c_3] at h_3; subst h_3
      refine lv_if_ne (tgt := 27) hx hb dX6_breath_17 (by decide) (fun c_9 => absurd (by decide) c_9) (fun _ => ?_)
      refine lv_aload_n hx hb dX6_breath_20 rfl (lv_at hl 0 rfl) ?_
      refine lv_bipush (v := (-2)) hx hb dX6_breath_21 (by decide) ?_
      refine q_Vi (wr := []) [0] [] hX hE hK hP hD hS hA hl.1 lk_X6_66 (c_refuseBad l D cI cZ cP sa x0 nw sp im sc hg fg pg pr 0 0 1 0 0 0 (-2) _) rfl rfl rfl rfl (by decide) 0 6 rfl rfl rfl rfl (Nat.le_of_ble_eq_true rfl) rfl rfl ⟨Nat.le_of_ble_eq_true rfl, Nat.le_of_ble_eq_true rfl⟩ ⟨Nat.le_of_ble_eq_true rfl, Nat.le_of_ble_eq_true rfl⟩ dX6_breath_23 (fun x_10 _ H locs h_10 hP hD hS => ?_)
      have hP : va_P D vwCl [] H := hP
      have hD : va_D (va_A (w_breath cI cZ cP x0 nw sp im sc hg fg pg pr p0 p1) sz) [] := hD
      subst h_10
      exact q_iret hX hr hlk () (by simp [sp_breath, c_1, c_3]) (hP.sub [] rfl) (hD.sub [] (by decide) rfl) hS dX6_breath_26
  · rw [if_neg c_1] at h_1; subst h_1
    refine lv_if_eq (tgt := 20) hx hb dX6_breath_7 (by decide) (fun _ => ?_) (fun c_11 => absurd (by decide) c_11)
    refine lv_aload_n hx hb dX6_breath_20 rfl (lv_at hl 0 rfl) ?_
    refine lv_bipush (v := (-2)) hx hb dX6_breath_21 (by decide) ?_
    refine q_Vi (wr := []) [0] [] hX hE hK hP hD hS hA hl.1 lk_X6_66 (c_refuseBad l D cI cZ cP sa x0 nw sp im sc hg fg pg pr 0 0 1 0 0 0 (-2) _) rfl rfl rfl rfl (by decide) 0 6 rfl rfl rfl rfl (Nat.le_of_ble_eq_true rfl) rfl rfl ⟨Nat.le_of_ble_eq_true rfl, Nat.le_of_ble_eq_true rfl⟩ ⟨Nat.le_of_ble_eq_true rfl, Nat.le_of_ble_eq_true rfl⟩ dX6_breath_23 (fun x_12 _ H locs h_12 hP hD hS => ?_)
    have hP : va_P D vwCl [] H := hP
    have hD : va_D (va_A (w_breath cI cZ cP x0 nw sp im sc hg fg pg pr p0 p1) sz) [] := hD
    subst h_12
    exact q_iret hX hr hlk () (by simp [sp_breath, c_1]) (hP.sub [] rfl) (hD.sub [] (by decide) rfl) hS dX6_breath_26
abbrev w_image (cI cZ cP : ClassId) (x0 : Nat) (nw : Nat) (sp : Nat) (im : Nat) (sc : Nat) (hg : Nat) (fg : Nat) (pg : Nat) (pr : Nat) (keys : Nat) (moms : Nat) (lens : Nat) (prts : Nat) (luds : Nat) (hnds : Nat) (lats : Nat) (knds : Nat) (rch : Nat) (spd : Nat) (unN : Nat) (unH : Nat) (ptn : Nat) (i0 : Nat) (i1 : Nat) (i0_keys : Nat) (i0_moms : Nat) (i0_lens : Nat) (i0_prts : Nat) (i0_luds : Nat) (i0_hnds : Nat) (i0_lats : Nat) (i0_knds : Nat) (i0_rch : Nat) (i0_spd : Nat) (i0_unN : Nat) (i0_unH : Nat) (i0_ptn : Nat) (i1_keys : Nat) (i1_moms : Nat) (i1_lens : Nat) (i1_prts : Nat) (i1_luds : Nat) (i1_hnds : Nat) (i1_lats : Nat) (i1_knds : Nat) (i1_rch : Nat) (i1_spd : Nat) (i1_unN : Nat) (i1_unH : Nat) (i1_ptn : Nat) (p0 : Int32) : va_W := [(x0, .inr (6, [.ref nw, .ref sp, .ref im, .ref sc, .ref hg, .ref fg, .ref pg, .ref pr, .int 0, .long 0, .long 1, .int 0, .int 0, .int 0])), (nw, .inr (3, [.int 2, .int 0, .ref keys, .ref moms, .ref lens, .ref prts, .ref luds, .ref hnds, .ref lats, .ref knds, .ref rch, .ref spd, .int 0, .int 0, .int 0, .ref unN, .ref unH, .ref ptn])), (im, .inl (cP, 2, .inr (.inr (.inr (.inr (va_up (va_up (fun _ => none) 0 (some i0)) 1 (some i1))))))), (i0, .inr (3, [.int 2, .int 0, .ref i0_keys, .ref i0_moms, .ref i0_lens, .ref i0_prts, .ref i0_luds, .ref i0_hnds, .ref i0_lats, .ref i0_knds, .ref i0_rch, .ref i0_spd, .int 0, .int 0, .int 0, .ref i0_unN, .ref i0_unH, .ref i0_ptn])), (i1, .inr (3, [.int 2, .int 0, .ref i1_keys, .ref i1_moms, .ref i1_lens, .ref i1_prts, .ref i1_luds, .ref i1_hnds, .ref i1_lats, .ref i1_knds, .ref i1_rch, .ref i1_spd, .int 0, .int 0, .int 0, .ref i1_unN, .ref i1_unH, .ref i1_ptn])), (keys, .inl (cI, 12, .inl (fun _ => 0))), (moms, .inl (cI, 12, .inl (fun _ => 0))), (lens, .inl (cI, 12, .inl (fun _ => 0))), (prts, .inl (cI, 12, .inl (fun _ => 0))), (luds, .inl (cI, 12, .inl (fun _ => 0))), (hnds, .inl (cI, 12, .inl (fun _ => 0))), (lats, .inl (cI, 12, .inl (fun _ => 0))), (knds, .inl (cI, 4, .inl (fun _ => 0))), (rch, .inl (cI, 4, .inl (fun _ => 9))), (spd, .inl (cI, 4, .inl (fun _ => 4))), (unN, .inl (cI, 10, .inl (fun _ => 0))), (unH, .inl (cI, 10, .inl (fun _ => 0))), (i0_keys, .inl (cI, 12, .inl (fun _ => 0))), (i0_moms, .inl (cI, 12, .inl (fun _ => 0))), (i0_lens, .inl (cI, 12, .inl (fun _ => 0))), (i0_prts, .inl (cI, 12, .inl (fun _ => 0))), (i0_luds, .inl (cI, 12, .inl (fun _ => 0))), (i0_hnds, .inl (cI, 12, .inl (fun _ => 0))), (i0_lats, .inl (cI, 12, .inl (fun _ => 0))), (i0_knds, .inl (cI, 4, .inl (fun _ => 0))), (i0_rch, .inl (cI, 4, .inl (fun _ => 9))), (i0_spd, .inl (cI, 4, .inl (fun _ => 4))), (i0_unN, .inl (cI, 10, .inl (fun _ => 0))), (i0_unH, .inl (cI, 10, .inl (fun _ => 0))), (i1_keys, .inl (cI, 12, .inl (fun _ => 0))), (i1_moms, .inl (cI, 12, .inl (fun _ => 0))), (i1_lens, .inl (cI, 12, .inl (fun _ => 0))), (i1_prts, .inl (cI, 12, .inl (fun _ => 0))), (i1_luds, .inl (cI, 12, .inl (fun _ => 0))), (i1_hnds, .inl (cI, 12, .inl (fun _ => 0))), (i1_lats, .inl (cI, 12, .inl (fun _ => 0))), (i1_knds, .inl (cI, 4, .inl (fun _ => 0))), (i1_rch, .inl (cI, 4, .inl (fun _ => 9))), (i1_spd, .inl (cI, 4, .inl (fun _ => 4))), (i1_unN, .inl (cI, 10, .inl (fun _ => 0))), (i1_unH, .inl (cI, 10, .inl (fun _ => 0)))]
set_option maxHeartbeats 4000000 in
set_option maxRecDepth 100000 in
theorem c_image (l : Launch) (D : va_G) (cI cZ cP : ClassId) (sa : Nat → Nat) (x0 : Nat) (nw : Nat) (sp : Nat) (im : Nat) (sc : Nat) (hg : Nat) (fg : Nat) (pg : Nat) (pr : Nat) (keys : Nat) (moms : Nat) (lens : Nat) (prts : Nat) (luds : Nat) (hnds : Nat) (lats : Nat) (knds : Nat) (rch : Nat) (spd : Nat) (unN : Nat) (unH : Nat) (ptn : Nat) (i0 : Nat) (i1 : Nat) (i0_keys : Nat) (i0_moms : Nat) (i0_lens : Nat) (i0_prts : Nat) (i0_luds : Nat) (i0_hnds : Nat) (i0_lats : Nat) (i0_knds : Nat) (i0_rch : Nat) (i0_spd : Nat) (i0_unN : Nat) (i0_unH : Nat) (i0_ptn : Nat) (i1_keys : Nat) (i1_moms : Nat) (i1_lens : Nat) (i1_prts : Nat) (i1_luds : Nat) (i1_hnds : Nat) (i1_lats : Nat) (i1_knds : Nat) (i1_rch : Nat) (i1_spd : Nat) (i1_unN : Nat) (i1_unH : Nat) (i1_ptn : Nat) (p0 : Int32) (sz : Nat) : Met l yX6_image (qW yX6_image cX6_image 2 (some .int)) ({ frames := 2, cells := 0, slots := 0, locals := 81 } : Room) (qP D (TY cI cZ cP) sa [.ref x0, .int p0] (w_image cI cZ cP x0 nw sp im sc hg fg pg pr keys moms lens prts luds hnds lats knds rch spd unN unH ptn i0 i1 i0_keys i0_moms i0_lens i0_prts i0_luds i0_hnds i0_lats i0_knds i0_rch i0_spd i0_unN i0_unH i0_ptn i1_keys i1_moms i1_lens i1_prts i1_luds i1_hnds i1_lats i1_knds i1_rch i1_spd i1_unN i1_unH i1_ptn p0) sz) (qQi D (w_image cI cZ cP x0 nw sp im sc hg fg pg pr keys moms lens prts luds hnds lats knds rch spd unN unH ptn i0 i1 i0_keys i0_moms i0_lens i0_prts i0_luds i0_hnds i0_lats i0_knds i0_rch i0_spd i0_unN i0_unH i0_ptn i1_keys i1_moms i1_lens i1_prts i1_luds i1_hnds i1_lats i1_knds i1_rch i1_spd i1_unN i1_unH i1_ptn p0) sz (fun (r : Int32) (_ : Unit) => r = sp_image p0) (fun _ => [])) 0 0 (va_A (w_image cI cZ cP x0 nw sp im sc hg fg pg pr keys moms lens prts luds hnds lats knds rch spd unN unH ptn i0 i1 i0_keys i0_moms i0_lens i0_prts i0_luds i0_hnds i0_lats i0_knds i0_rch i0_spd i0_unN i0_unH i0_ptn i1_keys i1_moms i1_lens i1_prts i1_luds i1_hnds i1_lats i1_knds i1_rch i1_spd i1_unN i1_unH i1_ptn p0) sz) := by
  refine q_enter (by decide) (Nat.le_of_ble_eq_true rfl) ?_
  intro p e s m below meth c ls hX hr hlk hnm hE hK hP hD hS hA hl
  obtain ⟨hx, hb, hml, hown, ht⟩ := id hX
  have hl : lv_has ls 2 [(0, .ref x0), (1, .int p0)] := hl
  refine lv_iload_n hx hb dX6_image_0 rfl (lv_at hl 1 rfl) ?_
  refine lv_iconst (v := 0) hx hb dX6_image_1 (by decide) ?_
  refine lv_iconst (v := 1) hx hb dX6_image_2 (by decide) ?_
  refine q_Si (wr := [(x0, .inr (6, [.ref nw, .ref sp, .ref im, .ref sc, .ref hg, .ref fg, .ref pg, .ref pr, .int 0, .long 0, .long 1, .int 0, .int 0, .int 0])), (nw, .inr (3, [.int 2, .int 0, .ref keys, .ref moms, .ref lens, .ref prts, .ref luds, .ref hnds, .ref lats, .ref knds, .ref rch, .ref spd, .int 0, .int 0, .int 0, .ref unN, .ref unH, .ref ptn])), (im, .inl (cP, 2, .inr (.inr (.inr (.inr (va_up (va_up (fun _ => none) 0 (some i0)) 1 (some i1))))))), (i0, .inr (3, [.int 2, .int 0, .ref i0_keys, .ref i0_moms, .ref i0_lens, .ref i0_prts, .ref i0_luds, .ref i0_hnds, .ref i0_lats, .ref i0_knds, .ref i0_rch, .ref i0_spd, .int 0, .int 0, .int 0, .ref i0_unN, .ref i0_unH, .ref i0_ptn])), (i1, .inr (3, [.int 2, .int 0, .ref i1_keys, .ref i1_moms, .ref i1_lens, .ref i1_prts, .ref i1_luds, .ref i1_hnds, .ref i1_lats, .ref i1_knds, .ref i1_rch, .ref i1_spd, .int 0, .int 0, .int 0, .ref i1_unN, .ref i1_unH, .ref i1_ptn])), (keys, .inl (cI, 12, .inl (fun _ => 0))), (moms, .inl (cI, 12, .inl (fun _ => 0))), (lens, .inl (cI, 12, .inl (fun _ => 0))), (prts, .inl (cI, 12, .inl (fun _ => 0))), (luds, .inl (cI, 12, .inl (fun _ => 0))), (hnds, .inl (cI, 12, .inl (fun _ => 0))), (lats, .inl (cI, 12, .inl (fun _ => 0))), (knds, .inl (cI, 4, .inl (fun _ => 0))), (rch, .inl (cI, 4, .inl (fun _ => 9))), (spd, .inl (cI, 4, .inl (fun _ => 4))), (unN, .inl (cI, 10, .inl (fun _ => 0))), (unH, .inl (cI, 10, .inl (fun _ => 0))), (i0_keys, .inl (cI, 12, .inl (fun _ => 0))), (i0_moms, .inl (cI, 12, .inl (fun _ => 0))), (i0_lens, .inl (cI, 12, .inl (fun _ => 0))), (i0_prts, .inl (cI, 12, .inl (fun _ => 0))), (i0_luds, .inl (cI, 12, .inl (fun _ => 0))), (i0_hnds, .inl (cI, 12, .inl (fun _ => 0))), (i0_lats, .inl (cI, 12, .inl (fun _ => 0))), (i0_knds, .inl (cI, 4, .inl (fun _ => 0))), (i0_rch, .inl (cI, 4, .inl (fun _ => 9))), (i0_spd, .inl (cI, 4, .inl (fun _ => 4))), (i0_unN, .inl (cI, 10, .inl (fun _ => 0))), (i0_unH, .inl (cI, 10, .inl (fun _ => 0))), (i1_keys, .inl (cI, 12, .inl (fun _ => 0))), (i1_moms, .inl (cI, 12, .inl (fun _ => 0))), (i1_lens, .inl (cI, 12, .inl (fun _ => 0))), (i1_prts, .inl (cI, 12, .inl (fun _ => 0))), (i1_luds, .inl (cI, 12, .inl (fun _ => 0))), (i1_hnds, .inl (cI, 12, .inl (fun _ => 0))), (i1_lats, .inl (cI, 12, .inl (fun _ => 0))), (i1_knds, .inl (cI, 4, .inl (fun _ => 0))), (i1_rch, .inl (cI, 4, .inl (fun _ => 9))), (i1_spd, .inl (cI, 4, .inl (fun _ => 4))), (i1_unN, .inl (cI, 10, .inl (fun _ => 0))), (i1_unH, .inl (cI, 10, .inl (fun _ => 0)))]) [] [0, 1, 2, 3, 4, 5, 6, 7, 8, 9, 10, 11, 12, 13, 14, 15, 16, 17, 18, 19, 20, 21, 22, 23, 24, 25, 26, 27, 28, 29, 30, 31, 32, 33, 34, 35, 36, 37, 38, 39, 40] hX hE hK hP hD hS hA hl.1 lk_X6_62 (c_within l D cI cZ cP sa p0 0 1 _) rfl rfl rfl rfl (by decide) rfl rfl (Nat.le_of_ble_eq_true rfl) rfl rfl ⟨Nat.le_of_ble_eq_true rfl, Nat.le_of_ble_eq_true rfl⟩ ⟨Nat.le_of_ble_eq_true rfl, Nat.le_of_ble_eq_true rfl⟩ dX6_image_3 (fun x_1 _ H locs h_1 hP hD hS => ?_)
  have hP : va_P D vwCl [(x0, .inr (6, [.ref nw, .ref sp, .ref im, .ref sc, .ref hg, .ref fg, .ref pg, .ref pr, .int 0, .long 0, .long 1, .int 0, .int 0, .int 0])), (nw, .inr (3, [.int 2, .int 0, .ref keys, .ref moms, .ref lens, .ref prts, .ref luds, .ref hnds, .ref lats, .ref knds, .ref rch, .ref spd, .int 0, .int 0, .int 0, .ref unN, .ref unH, .ref ptn])), (im, .inl (cP, 2, .inr (.inr (.inr (.inr (va_up (va_up (fun _ => none) 0 (some i0)) 1 (some i1))))))), (i0, .inr (3, [.int 2, .int 0, .ref i0_keys, .ref i0_moms, .ref i0_lens, .ref i0_prts, .ref i0_luds, .ref i0_hnds, .ref i0_lats, .ref i0_knds, .ref i0_rch, .ref i0_spd, .int 0, .int 0, .int 0, .ref i0_unN, .ref i0_unH, .ref i0_ptn])), (i1, .inr (3, [.int 2, .int 0, .ref i1_keys, .ref i1_moms, .ref i1_lens, .ref i1_prts, .ref i1_luds, .ref i1_hnds, .ref i1_lats, .ref i1_knds, .ref i1_rch, .ref i1_spd, .int 0, .int 0, .int 0, .ref i1_unN, .ref i1_unH, .ref i1_ptn])), (keys, .inl (cI, 12, .inl (fun _ => 0))), (moms, .inl (cI, 12, .inl (fun _ => 0))), (lens, .inl (cI, 12, .inl (fun _ => 0))), (prts, .inl (cI, 12, .inl (fun _ => 0))), (luds, .inl (cI, 12, .inl (fun _ => 0))), (hnds, .inl (cI, 12, .inl (fun _ => 0))), (lats, .inl (cI, 12, .inl (fun _ => 0))), (knds, .inl (cI, 4, .inl (fun _ => 0))), (rch, .inl (cI, 4, .inl (fun _ => 9))), (spd, .inl (cI, 4, .inl (fun _ => 4))), (unN, .inl (cI, 10, .inl (fun _ => 0))), (unH, .inl (cI, 10, .inl (fun _ => 0))), (i0_keys, .inl (cI, 12, .inl (fun _ => 0))), (i0_moms, .inl (cI, 12, .inl (fun _ => 0))), (i0_lens, .inl (cI, 12, .inl (fun _ => 0))), (i0_prts, .inl (cI, 12, .inl (fun _ => 0))), (i0_luds, .inl (cI, 12, .inl (fun _ => 0))), (i0_hnds, .inl (cI, 12, .inl (fun _ => 0))), (i0_lats, .inl (cI, 12, .inl (fun _ => 0))), (i0_knds, .inl (cI, 4, .inl (fun _ => 0))), (i0_rch, .inl (cI, 4, .inl (fun _ => 9))), (i0_spd, .inl (cI, 4, .inl (fun _ => 4))), (i0_unN, .inl (cI, 10, .inl (fun _ => 0))), (i0_unH, .inl (cI, 10, .inl (fun _ => 0))), (i1_keys, .inl (cI, 12, .inl (fun _ => 0))), (i1_moms, .inl (cI, 12, .inl (fun _ => 0))), (i1_lens, .inl (cI, 12, .inl (fun _ => 0))), (i1_prts, .inl (cI, 12, .inl (fun _ => 0))), (i1_luds, .inl (cI, 12, .inl (fun _ => 0))), (i1_hnds, .inl (cI, 12, .inl (fun _ => 0))), (i1_lats, .inl (cI, 12, .inl (fun _ => 0))), (i1_knds, .inl (cI, 4, .inl (fun _ => 0))), (i1_rch, .inl (cI, 4, .inl (fun _ => 9))), (i1_spd, .inl (cI, 4, .inl (fun _ => 4))), (i1_unN, .inl (cI, 10, .inl (fun _ => 0))), (i1_unH, .inl (cI, 10, .inl (fun _ => 0)))] H := hP
  have hD : va_D (va_A (w_image cI cZ cP x0 nw sp im sc hg fg pg pr keys moms lens prts luds hnds lats knds rch spd unN unH ptn i0 i1 i0_keys i0_moms i0_lens i0_prts i0_luds i0_hnds i0_lats i0_knds i0_rch i0_spd i0_unN i0_unH i0_ptn i1_keys i1_moms i1_lens i1_prts i1_luds i1_hnds i1_lats i1_knds i1_rch i1_spd i1_unN i1_unH i1_ptn p0) sz) [(x0, .inr (6, [.ref nw, .ref sp, .ref im, .ref sc, .ref hg, .ref fg, .ref pg, .ref pr, .int 0, .long 0, .long 1, .int 0, .int 0, .int 0])), (nw, .inr (3, [.int 2, .int 0, .ref keys, .ref moms, .ref lens, .ref prts, .ref luds, .ref hnds, .ref lats, .ref knds, .ref rch, .ref spd, .int 0, .int 0, .int 0, .ref unN, .ref unH, .ref ptn])), (im, .inl (cP, 2, .inr (.inr (.inr (.inr (va_up (va_up (fun _ => none) 0 (some i0)) 1 (some i1))))))), (i0, .inr (3, [.int 2, .int 0, .ref i0_keys, .ref i0_moms, .ref i0_lens, .ref i0_prts, .ref i0_luds, .ref i0_hnds, .ref i0_lats, .ref i0_knds, .ref i0_rch, .ref i0_spd, .int 0, .int 0, .int 0, .ref i0_unN, .ref i0_unH, .ref i0_ptn])), (i1, .inr (3, [.int 2, .int 0, .ref i1_keys, .ref i1_moms, .ref i1_lens, .ref i1_prts, .ref i1_luds, .ref i1_hnds, .ref i1_lats, .ref i1_knds, .ref i1_rch, .ref i1_spd, .int 0, .int 0, .int 0, .ref i1_unN, .ref i1_unH, .ref i1_ptn])), (keys, .inl (cI, 12, .inl (fun _ => 0))), (moms, .inl (cI, 12, .inl (fun _ => 0))), (lens, .inl (cI, 12, .inl (fun _ => 0))), (prts, .inl (cI, 12, .inl (fun _ => 0))), (luds, .inl (cI, 12, .inl (fun _ => 0))), (hnds, .inl (cI, 12, .inl (fun _ => 0))), (lats, .inl (cI, 12, .inl (fun _ => 0))), (knds, .inl (cI, 4, .inl (fun _ => 0))), (rch, .inl (cI, 4, .inl (fun _ => 9))), (spd, .inl (cI, 4, .inl (fun _ => 4))), (unN, .inl (cI, 10, .inl (fun _ => 0))), (unH, .inl (cI, 10, .inl (fun _ => 0))), (i0_keys, .inl (cI, 12, .inl (fun _ => 0))), (i0_moms, .inl (cI, 12, .inl (fun _ => 0))), (i0_lens, .inl (cI, 12, .inl (fun _ => 0))), (i0_prts, .inl (cI, 12, .inl (fun _ => 0))), (i0_luds, .inl (cI, 12, .inl (fun _ => 0))), (i0_hnds, .inl (cI, 12, .inl (fun _ => 0))), (i0_lats, .inl (cI, 12, .inl (fun _ => 0))), (i0_knds, .inl (cI, 4, .inl (fun _ => 0))), (i0_rch, .inl (cI, 4, .inl (fun _ => 9))), (i0_spd, .inl (cI, 4, .inl (fun _ => 4))), (i0_unN, .inl (cI, 10, .inl (fun _ => 0))), (i0_unH, .inl (cI, 10, .inl (fun _ => 0))), (i1_keys, .inl (cI, 12, .inl (fun _ => 0))), (i1_moms, .inl (cI, 12, .inl (fun _ => 0))), (i1_lens, .inl (cI, 12, .inl (fun _ => 0))), (i1_prts, .inl (cI, 12, .inl (fun _ => 0))), (i1_luds, .inl (cI, 12, .inl (fun _ => 0))), (i1_hnds, .inl (cI, 12, .inl (fun _ => 0))), (i1_lats, .inl (cI, 12, .inl (fun _ => 0))), (i1_knds, .inl (cI, 4, .inl (fun _ => 0))), (i1_rch, .inl (cI, 4, .inl (fun _ => 9))), (i1_spd, .inl (cI, 4, .inl (fun _ => 4))), (i1_unN, .inl (cI, 10, .inl (fun _ => 0))), (i1_unH, .inl (cI, 10, .inl (fun _ => 0)))] := hD
  rcases Classical.em (0 ≤ p0 ∧ p0 ≤ 1) with c_1 | c_1
  · rw [if_pos c_1] at h_1; subst h_1
    refine lv_if_ne (tgt := 16) hx hb dX6_image_6 (by decide) (fun _ => ?_) (fun c_2 => absurd c_2 (by decide))
    rcases (bit_iff p0).mp c_1 with c_3 | c_3
    · refine lv_aload_n hx hb dX6_image_16 rfl (lv_at hl 0 rfl) ?_
      refine va_get (D := D) (ci := 6) (v := .ref im) (C := RX6) (T := TX6) (N := 14) hx hb ht inX6 hown hK hP 0 rfl rfl 2 (Nat.le_of_ble_eq_true rfl) (ht _ kw_339) (fun _ h9 => h9) rfl dX6_image_17 ?_
      refine lv_iload_n hx hb dX6_image_20 rfl (lv_at hl 1 rfl) ?_
      refine q_i (z := 0) c_3 ?_
      refine va_aldq hx hb hK hP 2 2 rfl rfl (vin (by decide)) dX6_image_21 ?_
      refine q_v (w := .ref i0) rfl ?_
      refine lv_aload_n hx hb dX6_image_22 rfl (lv_at hl 0 rfl) ?_
      refine va_get (D := D) (ci := 6) (v := .ref nw) (C := RX6) (T := TX6) (N := 14) hx hb ht inX6 hown hK hP 0 rfl rfl 0 (Nat.le_of_ble_eq_true rfl) (ht _ kw_337) (fun _ h9 => h9) rfl dX6_image_23 ?_
      refine q_Vv (wr := [(x0, .inr (6, [.ref nw, .ref sp, .ref im, .ref sc, .ref hg, .ref fg, .ref pg, .ref pr, .int 0, .long 0, .long 1, .int 0, .int 0, .int 0])), (im, .inl (cP, 2, .inr (.inr (.inr (.inr (va_up (va_up (fun _ => none) 0 (some i0)) 1 (some i1))))))), (i1, .inr (3, [.int 2, .int 0, .ref i1_keys, .ref i1_moms, .ref i1_lens, .ref i1_prts, .ref i1_luds, .ref i1_hnds, .ref i1_lats, .ref i1_knds, .ref i1_rch, .ref i1_spd, .int 0, .int 0, .int 0, .ref i1_unN, .ref i1_unH, .ref i1_ptn])), (i1_keys, .inl (cI, 12, .inl (fun _ => 0))), (i1_moms, .inl (cI, 12, .inl (fun _ => 0))), (i1_lens, .inl (cI, 12, .inl (fun _ => 0))), (i1_prts, .inl (cI, 12, .inl (fun _ => 0))), (i1_luds, .inl (cI, 12, .inl (fun _ => 0))), (i1_hnds, .inl (cI, 12, .inl (fun _ => 0))), (i1_lats, .inl (cI, 12, .inl (fun _ => 0))), (i1_knds, .inl (cI, 4, .inl (fun _ => 0))), (i1_rch, .inl (cI, 4, .inl (fun _ => 9))), (i1_spd, .inl (cI, 4, .inl (fun _ => 4))), (i1_unN, .inl (cI, 10, .inl (fun _ => 0))), (i1_unH, .inl (cI, 10, .inl (fun _ => 0)))]) [3, 1, 17, 18, 19, 20, 21, 22, 23, 24, 25, 26, 27, 28, 5, 6, 7, 8, 9, 10, 11, 12, 13, 14, 15, 16] [0, 2, 4, 29, 30, 31, 32, 33, 34, 35, 36, 37, 38, 39, 40] hX hE hK hP hD hS hA hl.1 lk_X6_110 (c_copyFrom l D cI cZ cP sa i0 nw i0_keys i0_moms i0_lens i0_prts i0_luds i0_hnds i0_lats i0_knds i0_rch i0_spd i0_unN i0_unH i0_ptn keys moms lens prts luds hnds lats knds rch spd unN unH ptn _) rfl rfl rfl rfl (by decide) 0 3 rfl rfl rfl rfl (Nat.le_of_ble_eq_true rfl) rfl rfl ⟨Nat.le_of_ble_eq_true rfl, Nat.le_of_ble_eq_true rfl⟩ ⟨Nat.le_of_ble_eq_true rfl, Nat.le_of_ble_eq_true rfl⟩ dX6_image_26 (fun _ H locs h_4 hP hD hS => ?_)
      have hP : va_P D vwCl [(x0, .inr (6, [.ref nw, .ref sp, .ref im, .ref sc, .ref hg, .ref fg, .ref pg, .ref pr, .int 0, .long 0, .long 1, .int 0, .int 0, .int 0])), (im, .inl (cP, 2, .inr (.inr (.inr (.inr (va_up (va_up (fun _ => none) 0 (some i0)) 1 (some i1))))))), (i1, .inr (3, [.int 2, .int 0, .ref i1_keys, .ref i1_moms, .ref i1_lens, .ref i1_prts, .ref i1_luds, .ref i1_hnds, .ref i1_lats, .ref i1_knds, .ref i1_rch, .ref i1_spd, .int 0, .int 0, .int 0, .ref i1_unN, .ref i1_unH, .ref i1_ptn])), (i1_keys, .inl (cI, 12, .inl (fun _ => 0))), (i1_moms, .inl (cI, 12, .inl (fun _ => 0))), (i1_lens, .inl (cI, 12, .inl (fun _ => 0))), (i1_prts, .inl (cI, 12, .inl (fun _ => 0))), (i1_luds, .inl (cI, 12, .inl (fun _ => 0))), (i1_hnds, .inl (cI, 12, .inl (fun _ => 0))), (i1_lats, .inl (cI, 12, .inl (fun _ => 0))), (i1_knds, .inl (cI, 4, .inl (fun _ => 0))), (i1_rch, .inl (cI, 4, .inl (fun _ => 9))), (i1_spd, .inl (cI, 4, .inl (fun _ => 4))), (i1_unN, .inl (cI, 10, .inl (fun _ => 0))), (i1_unH, .inl (cI, 10, .inl (fun _ => 0))), (i0, .inr (3, [.int 2, .int 0, .ref i0_keys, .ref i0_moms, .ref i0_lens, .ref i0_prts, .ref i0_luds, .ref i0_hnds, .ref i0_lats, .ref i0_knds, .ref i0_rch, .ref i0_spd, .int 0, .int 0, .int 0, .ref i0_unN, .ref i0_unH, .ref i0_ptn])), (nw, .inr (3, [.int 2, .int 0, .ref keys, .ref moms, .ref lens, .ref prts, .ref luds, .ref hnds, .ref lats, .ref knds, .ref rch, .ref spd, .int 0, .int 0, .int 0, .ref unN, .ref unH, .ref ptn]))] H := hP
      have hD : va_D (va_A (w_image cI cZ cP x0 nw sp im sc hg fg pg pr keys moms lens prts luds hnds lats knds rch spd unN unH ptn i0 i1 i0_keys i0_moms i0_lens i0_prts i0_luds i0_hnds i0_lats i0_knds i0_rch i0_spd i0_unN i0_unH i0_ptn i1_keys i1_moms i1_lens i1_prts i1_luds i1_hnds i1_lats i1_knds i1_rch i1_spd i1_unN i1_unH i1_ptn p0) sz) [(x0, .inr (6, [.ref nw, .ref sp, .ref im, .ref sc, .ref hg, .ref fg, .ref pg, .ref pr, .int 0, .long 0, .long 1, .int 0, .int 0, .int 0])), (im, .inl (cP, 2, .inr (.inr (.inr (.inr (va_up (va_up (fun _ => none) 0 (some i0)) 1 (some i1))))))), (i1, .inr (3, [.int 2, .int 0, .ref i1_keys, .ref i1_moms, .ref i1_lens, .ref i1_prts, .ref i1_luds, .ref i1_hnds, .ref i1_lats, .ref i1_knds, .ref i1_rch, .ref i1_spd, .int 0, .int 0, .int 0, .ref i1_unN, .ref i1_unH, .ref i1_ptn])), (i1_keys, .inl (cI, 12, .inl (fun _ => 0))), (i1_moms, .inl (cI, 12, .inl (fun _ => 0))), (i1_lens, .inl (cI, 12, .inl (fun _ => 0))), (i1_prts, .inl (cI, 12, .inl (fun _ => 0))), (i1_luds, .inl (cI, 12, .inl (fun _ => 0))), (i1_hnds, .inl (cI, 12, .inl (fun _ => 0))), (i1_lats, .inl (cI, 12, .inl (fun _ => 0))), (i1_knds, .inl (cI, 4, .inl (fun _ => 0))), (i1_rch, .inl (cI, 4, .inl (fun _ => 9))), (i1_spd, .inl (cI, 4, .inl (fun _ => 4))), (i1_unN, .inl (cI, 10, .inl (fun _ => 0))), (i1_unH, .inl (cI, 10, .inl (fun _ => 0))), (i0, .inr (3, [.int 2, .int 0, .ref i0_keys, .ref i0_moms, .ref i0_lens, .ref i0_prts, .ref i0_luds, .ref i0_hnds, .ref i0_lats, .ref i0_knds, .ref i0_rch, .ref i0_spd, .int 0, .int 0, .int 0, .ref i0_unN, .ref i0_unH, .ref i0_ptn])), (nw, .inr (3, [.int 2, .int 0, .ref keys, .ref moms, .ref lens, .ref prts, .ref luds, .ref hnds, .ref lats, .ref knds, .ref rch, .ref spd, .int 0, .int 0, .int 0, .ref unN, .ref unH, .ref ptn]))] := hD
      refine lv_aload_n hx hb dX6_image_29 rfl (lv_at hl 0 rfl) ?_
      refine lv_dup hx hb dX6_image_30 rfl ?_
      refine va_get (D := D) (ci := 6) (v := .int 0) (C := RX6) (T := TX6) (N := 14) hx hb ht inX6 hown hK hP 0 rfl rfl 8 (Nat.le_of_ble_eq_true rfl) (ht _ kw_345) (fun _ h9 => h9) rfl dX6_image_31 ?_
      refine lv_iconst (v := 1) hx hb dX6_image_34 (by decide) ?_
      refine lv_iload_n hx hb dX6_image_35 rfl (lv_at hl 1 rfl) ?_
      refine q_i (z := 0) c_3 ?_
      refine lv_ishl hx hb dX6_image_36 ?_
      refine q_i (z := 1) (by decide) ?_
      refine lv_ior hx hb dX6_image_37 ?_
      refine q_i (z := 1) (by decide) ?_
      refine va_put (D := D) (ci := 6) (v := .int 1) (ty := .int) (C := RX6) (T := TX6) (N := 14) hx hb ht inX6 tyX6 tyX6_ok nmX6 hown hK hP hD hS 0 rfl rfl 8 (Nat.le_of_ble_eq_true rfl) (ht _ kw_345) (fun _ h9 => h9) rfl (by decide +kernel) rfl rfl (Nat.le_of_ble_eq_true rfl) dX6_image_38 (fun H locs hP hD hS => ?_)
      have hP : va_P D vwCl [(x0, .inr (6, [.ref nw, .ref sp, .ref im, .ref sc, .ref hg, .ref fg, .ref pg, .ref pr, .int 1, .long 0, .long 1, .int 0, .int 0, .int 0])), (im, .inl (cP, 2, .inr (.inr (.inr (.inr (va_up (va_up (fun _ => none) 0 (some i0)) 1 (some i1))))))), (i1, .inr (3, [.int 2, .int 0, .ref i1_keys, .ref i1_moms, .ref i1_lens, .ref i1_prts, .ref i1_luds, .ref i1_hnds, .ref i1_lats, .ref i1_knds, .ref i1_rch, .ref i1_spd, .int 0, .int 0, .int 0, .ref i1_unN, .ref i1_unH, .ref i1_ptn])), (i1_keys, .inl (cI, 12, .inl (fun _ => 0))), (i1_moms, .inl (cI, 12, .inl (fun _ => 0))), (i1_lens, .inl (cI, 12, .inl (fun _ => 0))), (i1_prts, .inl (cI, 12, .inl (fun _ => 0))), (i1_luds, .inl (cI, 12, .inl (fun _ => 0))), (i1_hnds, .inl (cI, 12, .inl (fun _ => 0))), (i1_lats, .inl (cI, 12, .inl (fun _ => 0))), (i1_knds, .inl (cI, 4, .inl (fun _ => 0))), (i1_rch, .inl (cI, 4, .inl (fun _ => 9))), (i1_spd, .inl (cI, 4, .inl (fun _ => 4))), (i1_unN, .inl (cI, 10, .inl (fun _ => 0))), (i1_unH, .inl (cI, 10, .inl (fun _ => 0))), (i0, .inr (3, [.int 2, .int 0, .ref i0_keys, .ref i0_moms, .ref i0_lens, .ref i0_prts, .ref i0_luds, .ref i0_hnds, .ref i0_lats, .ref i0_knds, .ref i0_rch, .ref i0_spd, .int 0, .int 0, .int 0, .ref i0_unN, .ref i0_unH, .ref i0_ptn])), (nw, .inr (3, [.int 2, .int 0, .ref keys, .ref moms, .ref lens, .ref prts, .ref luds, .ref hnds, .ref lats, .ref knds, .ref rch, .ref spd, .int 0, .int 0, .int 0, .ref unN, .ref unH, .ref ptn]))] H := hP
      have hD : va_D (va_A (w_image cI cZ cP x0 nw sp im sc hg fg pg pr keys moms lens prts luds hnds lats knds rch spd unN unH ptn i0 i1 i0_keys i0_moms i0_lens i0_prts i0_luds i0_hnds i0_lats i0_knds i0_rch i0_spd i0_unN i0_unH i0_ptn i1_keys i1_moms i1_lens i1_prts i1_luds i1_hnds i1_lats i1_knds i1_rch i1_spd i1_unN i1_unH i1_ptn p0) sz) [(x0, .inr (6, [.ref nw, .ref sp, .ref im, .ref sc, .ref hg, .ref fg, .ref pg, .ref pr, .int 1, .long 0, .long 1, .int 0, .int 0, .int 0])), (im, .inl (cP, 2, .inr (.inr (.inr (.inr (va_up (va_up (fun _ => none) 0 (some i0)) 1 (some i1))))))), (i1, .inr (3, [.int 2, .int 0, .ref i1_keys, .ref i1_moms, .ref i1_lens, .ref i1_prts, .ref i1_luds, .ref i1_hnds, .ref i1_lats, .ref i1_knds, .ref i1_rch, .ref i1_spd, .int 0, .int 0, .int 0, .ref i1_unN, .ref i1_unH, .ref i1_ptn])), (i1_keys, .inl (cI, 12, .inl (fun _ => 0))), (i1_moms, .inl (cI, 12, .inl (fun _ => 0))), (i1_lens, .inl (cI, 12, .inl (fun _ => 0))), (i1_prts, .inl (cI, 12, .inl (fun _ => 0))), (i1_luds, .inl (cI, 12, .inl (fun _ => 0))), (i1_hnds, .inl (cI, 12, .inl (fun _ => 0))), (i1_lats, .inl (cI, 12, .inl (fun _ => 0))), (i1_knds, .inl (cI, 4, .inl (fun _ => 0))), (i1_rch, .inl (cI, 4, .inl (fun _ => 9))), (i1_spd, .inl (cI, 4, .inl (fun _ => 4))), (i1_unN, .inl (cI, 10, .inl (fun _ => 0))), (i1_unH, .inl (cI, 10, .inl (fun _ => 0))), (i0, .inr (3, [.int 2, .int 0, .ref i0_keys, .ref i0_moms, .ref i0_lens, .ref i0_prts, .ref i0_luds, .ref i0_hnds, .ref i0_lats, .ref i0_knds, .ref i0_rch, .ref i0_spd, .int 0, .int 0, .int 0, .ref i0_unN, .ref i0_unH, .ref i0_ptn])), (nw, .inr (3, [.int 2, .int 0, .ref keys, .ref moms, .ref lens, .ref prts, .ref luds, .ref hnds, .ref lats, .ref knds, .ref rch, .ref spd, .int 0, .int 0, .int 0, .ref unN, .ref unH, .ref ptn]))] := hD
      refine lv_iconst (v := 1) hx hb dX6_image_41 (by decide) ?_
      exact q_iret hX hr hlk () (by simp [sp_image, c_1, c_3]) (hP.sub [] rfl) (hD.sub [] (by decide) rfl) hS dX6_image_42
    · refine lv_aload_n hx hb dX6_image_16 rfl (lv_at hl 0 rfl) ?_
      refine va_get (D := D) (ci := 6) (v := .ref im) (C := RX6) (T := TX6) (N := 14) hx hb ht inX6 hown hK hP 0 rfl rfl 2 (Nat.le_of_ble_eq_true rfl) (ht _ kw_339) (fun _ h9 => h9) rfl dX6_image_17 ?_
      refine lv_iload_n hx hb dX6_image_20 rfl (lv_at hl 1 rfl) ?_
      refine q_i (z := 1) c_3 ?_
      refine va_aldq hx hb hK hP 2 2 rfl rfl (vin (by decide)) dX6_image_21 ?_
      refine q_v (w := .ref i1) rfl ?_
      refine lv_aload_n hx hb dX6_image_22 rfl (lv_at hl 0 rfl) ?_
      refine va_get (D := D) (ci := 6) (v := .ref nw) (C := RX6) (T := TX6) (N := 14) hx hb ht inX6 hown hK hP 0 rfl rfl 0 (Nat.le_of_ble_eq_true rfl) (ht _ kw_337) (fun _ h9 => h9) rfl dX6_image_23 ?_
      refine q_Vv (wr := [(x0, .inr (6, [.ref nw, .ref sp, .ref im, .ref sc, .ref hg, .ref fg, .ref pg, .ref pr, .int 0, .long 0, .long 1, .int 0, .int 0, .int 0])), (im, .inl (cP, 2, .inr (.inr (.inr (.inr (va_up (va_up (fun _ => none) 0 (some i0)) 1 (some i1))))))), (i0, .inr (3, [.int 2, .int 0, .ref i0_keys, .ref i0_moms, .ref i0_lens, .ref i0_prts, .ref i0_luds, .ref i0_hnds, .ref i0_lats, .ref i0_knds, .ref i0_rch, .ref i0_spd, .int 0, .int 0, .int 0, .ref i0_unN, .ref i0_unH, .ref i0_ptn])), (i0_keys, .inl (cI, 12, .inl (fun _ => 0))), (i0_moms, .inl (cI, 12, .inl (fun _ => 0))), (i0_lens, .inl (cI, 12, .inl (fun _ => 0))), (i0_prts, .inl (cI, 12, .inl (fun _ => 0))), (i0_luds, .inl (cI, 12, .inl (fun _ => 0))), (i0_hnds, .inl (cI, 12, .inl (fun _ => 0))), (i0_lats, .inl (cI, 12, .inl (fun _ => 0))), (i0_knds, .inl (cI, 4, .inl (fun _ => 0))), (i0_rch, .inl (cI, 4, .inl (fun _ => 9))), (i0_spd, .inl (cI, 4, .inl (fun _ => 4))), (i0_unN, .inl (cI, 10, .inl (fun _ => 0))), (i0_unH, .inl (cI, 10, .inl (fun _ => 0)))]) [4, 1, 29, 30, 31, 32, 33, 34, 35, 36, 37, 38, 39, 40, 5, 6, 7, 8, 9, 10, 11, 12, 13, 14, 15, 16] [0, 2, 3, 17, 18, 19, 20, 21, 22, 23, 24, 25, 26, 27, 28] hX hE hK hP hD hS hA hl.1 lk_X6_110 (c_copyFrom l D cI cZ cP sa i1 nw i1_keys i1_moms i1_lens i1_prts i1_luds i1_hnds i1_lats i1_knds i1_rch i1_spd i1_unN i1_unH i1_ptn keys moms lens prts luds hnds lats knds rch spd unN unH ptn _) rfl rfl rfl rfl (by decide) 0 3 rfl rfl rfl rfl (Nat.le_of_ble_eq_true rfl) rfl rfl ⟨Nat.le_of_ble_eq_true rfl, Nat.le_of_ble_eq_true rfl⟩ ⟨Nat.le_of_ble_eq_true rfl, Nat.le_of_ble_eq_true rfl⟩ dX6_image_26 (fun _ H locs h_5 hP hD hS => ?_)
      have hP : va_P D vwCl [(x0, .inr (6, [.ref nw, .ref sp, .ref im, .ref sc, .ref hg, .ref fg, .ref pg, .ref pr, .int 0, .long 0, .long 1, .int 0, .int 0, .int 0])), (im, .inl (cP, 2, .inr (.inr (.inr (.inr (va_up (va_up (fun _ => none) 0 (some i0)) 1 (some i1))))))), (i0, .inr (3, [.int 2, .int 0, .ref i0_keys, .ref i0_moms, .ref i0_lens, .ref i0_prts, .ref i0_luds, .ref i0_hnds, .ref i0_lats, .ref i0_knds, .ref i0_rch, .ref i0_spd, .int 0, .int 0, .int 0, .ref i0_unN, .ref i0_unH, .ref i0_ptn])), (i0_keys, .inl (cI, 12, .inl (fun _ => 0))), (i0_moms, .inl (cI, 12, .inl (fun _ => 0))), (i0_lens, .inl (cI, 12, .inl (fun _ => 0))), (i0_prts, .inl (cI, 12, .inl (fun _ => 0))), (i0_luds, .inl (cI, 12, .inl (fun _ => 0))), (i0_hnds, .inl (cI, 12, .inl (fun _ => 0))), (i0_lats, .inl (cI, 12, .inl (fun _ => 0))), (i0_knds, .inl (cI, 4, .inl (fun _ => 0))), (i0_rch, .inl (cI, 4, .inl (fun _ => 9))), (i0_spd, .inl (cI, 4, .inl (fun _ => 4))), (i0_unN, .inl (cI, 10, .inl (fun _ => 0))), (i0_unH, .inl (cI, 10, .inl (fun _ => 0))), (i1, .inr (3, [.int 2, .int 0, .ref i1_keys, .ref i1_moms, .ref i1_lens, .ref i1_prts, .ref i1_luds, .ref i1_hnds, .ref i1_lats, .ref i1_knds, .ref i1_rch, .ref i1_spd, .int 0, .int 0, .int 0, .ref i1_unN, .ref i1_unH, .ref i1_ptn])), (nw, .inr (3, [.int 2, .int 0, .ref keys, .ref moms, .ref lens, .ref prts, .ref luds, .ref hnds, .ref lats, .ref knds, .ref rch, .ref spd, .int 0, .int 0, .int 0, .ref unN, .ref unH, .ref ptn]))] H := hP
      have hD : va_D (va_A (w_image cI cZ cP x0 nw sp im sc hg fg pg pr keys moms lens prts luds hnds lats knds rch spd unN unH ptn i0 i1 i0_keys i0_moms i0_lens i0_prts i0_luds i0_hnds i0_lats i0_knds i0_rch i0_spd i0_unN i0_unH i0_ptn i1_keys i1_moms i1_lens i1_prts i1_luds i1_hnds i1_lats i1_knds i1_rch i1_spd i1_unN i1_unH i1_ptn p0) sz) [(x0, .inr (6, [.ref nw, .ref sp, .ref im, .ref sc, .ref hg, .ref fg, .ref pg, .ref pr, .int 0, .long 0, .long 1, .int 0, .int 0, .int 0])), (im, .inl (cP, 2, .inr (.inr (.inr (.inr (va_up (va_up (fun _ => none) 0 (some i0)) 1 (some i1))))))), (i0, .inr (3, [.int 2, .int 0, .ref i0_keys, .ref i0_moms, .ref i0_lens, .ref i0_prts, .ref i0_luds, .ref i0_hnds, .ref i0_lats, .ref i0_knds, .ref i0_rch, .ref i0_spd, .int 0, .int 0, .int 0, .ref i0_unN, .ref i0_unH, .ref i0_ptn])), (i0_keys, .inl (cI, 12, .inl (fun _ => 0))), (i0_moms, .inl (cI, 12, .inl (fun _ => 0))), (i0_lens, .inl (cI, 12, .inl (fun _ => 0))), (i0_prts, .inl (cI, 12, .inl (fun _ => 0))), (i0_luds, .inl (cI, 12, .inl (fun _ => 0))), (i0_hnds, .inl (cI, 12, .inl (fun _ => 0))), (i0_lats, .inl (cI, 12, .inl (fun _ => 0))), (i0_knds, .inl (cI, 4, .inl (fun _ => 0))), (i0_rch, .inl (cI, 4, .inl (fun _ => 9))), (i0_spd, .inl (cI, 4, .inl (fun _ => 4))), (i0_unN, .inl (cI, 10, .inl (fun _ => 0))), (i0_unH, .inl (cI, 10, .inl (fun _ => 0))), (i1, .inr (3, [.int 2, .int 0, .ref i1_keys, .ref i1_moms, .ref i1_lens, .ref i1_prts, .ref i1_luds, .ref i1_hnds, .ref i1_lats, .ref i1_knds, .ref i1_rch, .ref i1_spd, .int 0, .int 0, .int 0, .ref i1_unN, .ref i1_unH, .ref i1_ptn])), (nw, .inr (3, [.int 2, .int 0, .ref keys, .ref moms, .ref lens, .ref prts, .ref luds, .ref hnds, .ref lats, .ref knds, .ref rch, .ref spd, .int 0, .int 0, .int 0, .ref unN, .ref unH, .ref ptn]))] := hD
      refine lv_aload_n hx hb dX6_image_29 rfl (lv_at hl 0 rfl) ?_
      refine lv_dup hx hb dX6_image_30 rfl ?_
      refine va_get (D := D) (ci := 6) (v := .int 0) (C := RX6) (T := TX6) (N := 14) hx hb ht inX6 hown hK hP 0 rfl rfl 8 (Nat.le_of_ble_eq_true rfl) (ht _ kw_345) (fun _ h9 => h9) rfl dX6_image_31 ?_
      refine lv_iconst (v := 1) hx hb dX6_image_34 (by decide) ?_
      refine lv_iload_n hx hb dX6_image_35 rfl (lv_at hl 1 rfl) ?_
      refine q_i (z := 1) c_3 ?_
      refine lv_ishl hx hb dX6_image_36 ?_
      refine q_i (z := 2) (by decide) ?_
      refine lv_ior hx hb dX6_image_37 ?_
      refine q_i (z := 2) (by decide) ?_
      refine va_put (D := D) (ci := 6) (v := .int 2) (ty := .int) (C := RX6) (T := TX6) (N := 14) hx hb ht inX6 tyX6 tyX6_ok nmX6 hown hK hP hD hS 0 rfl rfl 8 (Nat.le_of_ble_eq_true rfl) (ht _ kw_345) (fun _ h9 => h9) rfl (by decide +kernel) rfl rfl (Nat.le_of_ble_eq_true rfl) dX6_image_38 (fun H locs hP hD hS => ?_)
      have hP : va_P D vwCl [(x0, .inr (6, [.ref nw, .ref sp, .ref im, .ref sc, .ref hg, .ref fg, .ref pg, .ref pr, .int 2, .long 0, .long 1, .int 0, .int 0, .int 0])), (im, .inl (cP, 2, .inr (.inr (.inr (.inr (va_up (va_up (fun _ => none) 0 (some i0)) 1 (some i1))))))), (i0, .inr (3, [.int 2, .int 0, .ref i0_keys, .ref i0_moms, .ref i0_lens, .ref i0_prts, .ref i0_luds, .ref i0_hnds, .ref i0_lats, .ref i0_knds, .ref i0_rch, .ref i0_spd, .int 0, .int 0, .int 0, .ref i0_unN, .ref i0_unH, .ref i0_ptn])), (i0_keys, .inl (cI, 12, .inl (fun _ => 0))), (i0_moms, .inl (cI, 12, .inl (fun _ => 0))), (i0_lens, .inl (cI, 12, .inl (fun _ => 0))), (i0_prts, .inl (cI, 12, .inl (fun _ => 0))), (i0_luds, .inl (cI, 12, .inl (fun _ => 0))), (i0_hnds, .inl (cI, 12, .inl (fun _ => 0))), (i0_lats, .inl (cI, 12, .inl (fun _ => 0))), (i0_knds, .inl (cI, 4, .inl (fun _ => 0))), (i0_rch, .inl (cI, 4, .inl (fun _ => 9))), (i0_spd, .inl (cI, 4, .inl (fun _ => 4))), (i0_unN, .inl (cI, 10, .inl (fun _ => 0))), (i0_unH, .inl (cI, 10, .inl (fun _ => 0))), (i1, .inr (3, [.int 2, .int 0, .ref i1_keys, .ref i1_moms, .ref i1_lens, .ref i1_prts, .ref i1_luds, .ref i1_hnds, .ref i1_lats, .ref i1_knds, .ref i1_rch, .ref i1_spd, .int 0, .int 0, .int 0, .ref i1_unN, .ref i1_unH, .ref i1_ptn])), (nw, .inr (3, [.int 2, .int 0, .ref keys, .ref moms, .ref lens, .ref prts, .ref luds, .ref hnds, .ref lats, .ref knds, .ref rch, .ref spd, .int 0, .int 0, .int 0, .ref unN, .ref unH, .ref ptn]))] H := hP
      have hD : va_D (va_A (w_image cI cZ cP x0 nw sp im sc hg fg pg pr keys moms lens prts luds hnds lats knds rch spd unN unH ptn i0 i1 i0_keys i0_moms i0_lens i0_prts i0_luds i0_hnds i0_lats i0_knds i0_rch i0_spd i0_unN i0_unH i0_ptn i1_keys i1_moms i1_lens i1_prts i1_luds i1_hnds i1_lats i1_knds i1_rch i1_spd i1_unN i1_unH i1_ptn p0) sz) [(x0, .inr (6, [.ref nw, .ref sp, .ref im, .ref sc, .ref hg, .ref fg, .ref pg, .ref pr, .int 2, .long 0, .long 1, .int 0, .int 0, .int 0])), (im, .inl (cP, 2, .inr (.inr (.inr (.inr (va_up (va_up (fun _ => none) 0 (some i0)) 1 (some i1))))))), (i0, .inr (3, [.int 2, .int 0, .ref i0_keys, .ref i0_moms, .ref i0_lens, .ref i0_prts, .ref i0_luds, .ref i0_hnds, .ref i0_lats, .ref i0_knds, .ref i0_rch, .ref i0_spd, .int 0, .int 0, .int 0, .ref i0_unN, .ref i0_unH, .ref i0_ptn])), (i0_keys, .inl (cI, 12, .inl (fun _ => 0))), (i0_moms, .inl (cI, 12, .inl (fun _ => 0))), (i0_lens, .inl (cI, 12, .inl (fun _ => 0))), (i0_prts, .inl (cI, 12, .inl (fun _ => 0))), (i0_luds, .inl (cI, 12, .inl (fun _ => 0))), (i0_hnds, .inl (cI, 12, .inl (fun _ => 0))), (i0_lats, .inl (cI, 12, .inl (fun _ => 0))), (i0_knds, .inl (cI, 4, .inl (fun _ => 0))), (i0_rch, .inl (cI, 4, .inl (fun _ => 9))), (i0_spd, .inl (cI, 4, .inl (fun _ => 4))), (i0_unN, .inl (cI, 10, .inl (fun _ => 0))), (i0_unH, .inl (cI, 10, .inl (fun _ => 0))), (i1, .inr (3, [.int 2, .int 0, .ref i1_keys, .ref i1_moms, .ref i1_lens, .ref i1_prts, .ref i1_luds, .ref i1_hnds, .ref i1_lats, .ref i1_knds, .ref i1_rch, .ref i1_spd, .int 0, .int 0, .int 0, .ref i1_unN, .ref i1_unH, .ref i1_ptn])), (nw, .inr (3, [.int 2, .int 0, .ref keys, .ref moms, .ref lens, .ref prts, .ref luds, .ref hnds, .ref lats, .ref knds, .ref rch, .ref spd, .int 0, .int 0, .int 0, .ref unN, .ref unH, .ref ptn]))] := hD
      refine lv_iconst (v := 1) hx hb dX6_image_41 (by decide) ?_
      exact q_iret hX hr hlk () (by simp [sp_image, c_1, c_3]) (hP.sub [] rfl) (hD.sub [] (by decide) rfl) hS dX6_image_42
  · rw [if_neg c_1] at h_1; subst h_1
    refine lv_if_ne (tgt := 16) hx hb dX6_image_6 (by decide) (fun c_6 => absurd (by decide) c_6) (fun _ => ?_)
    refine lv_aload_n hx hb dX6_image_9 rfl (lv_at hl 0 rfl) ?_
    refine lv_bipush (v := (-2)) hx hb dX6_image_10 (by decide) ?_
    refine q_Vi (wr := [(nw, .inr (3, [.int 2, .int 0, .ref keys, .ref moms, .ref lens, .ref prts, .ref luds, .ref hnds, .ref lats, .ref knds, .ref rch, .ref spd, .int 0, .int 0, .int 0, .ref unN, .ref unH, .ref ptn])), (im, .inl (cP, 2, .inr (.inr (.inr (.inr (va_up (va_up (fun _ => none) 0 (some i0)) 1 (some i1))))))), (i0, .inr (3, [.int 2, .int 0, .ref i0_keys, .ref i0_moms, .ref i0_lens, .ref i0_prts, .ref i0_luds, .ref i0_hnds, .ref i0_lats, .ref i0_knds, .ref i0_rch, .ref i0_spd, .int 0, .int 0, .int 0, .ref i0_unN, .ref i0_unH, .ref i0_ptn])), (i1, .inr (3, [.int 2, .int 0, .ref i1_keys, .ref i1_moms, .ref i1_lens, .ref i1_prts, .ref i1_luds, .ref i1_hnds, .ref i1_lats, .ref i1_knds, .ref i1_rch, .ref i1_spd, .int 0, .int 0, .int 0, .ref i1_unN, .ref i1_unH, .ref i1_ptn])), (keys, .inl (cI, 12, .inl (fun _ => 0))), (moms, .inl (cI, 12, .inl (fun _ => 0))), (lens, .inl (cI, 12, .inl (fun _ => 0))), (prts, .inl (cI, 12, .inl (fun _ => 0))), (luds, .inl (cI, 12, .inl (fun _ => 0))), (hnds, .inl (cI, 12, .inl (fun _ => 0))), (lats, .inl (cI, 12, .inl (fun _ => 0))), (knds, .inl (cI, 4, .inl (fun _ => 0))), (rch, .inl (cI, 4, .inl (fun _ => 9))), (spd, .inl (cI, 4, .inl (fun _ => 4))), (unN, .inl (cI, 10, .inl (fun _ => 0))), (unH, .inl (cI, 10, .inl (fun _ => 0))), (i0_keys, .inl (cI, 12, .inl (fun _ => 0))), (i0_moms, .inl (cI, 12, .inl (fun _ => 0))), (i0_lens, .inl (cI, 12, .inl (fun _ => 0))), (i0_prts, .inl (cI, 12, .inl (fun _ => 0))), (i0_luds, .inl (cI, 12, .inl (fun _ => 0))), (i0_hnds, .inl (cI, 12, .inl (fun _ => 0))), (i0_lats, .inl (cI, 12, .inl (fun _ => 0))), (i0_knds, .inl (cI, 4, .inl (fun _ => 0))), (i0_rch, .inl (cI, 4, .inl (fun _ => 9))), (i0_spd, .inl (cI, 4, .inl (fun _ => 4))), (i0_unN, .inl (cI, 10, .inl (fun _ => 0))), (i0_unH, .inl (cI, 10, .inl (fun _ => 0))), (i1_keys, .inl (cI, 12, .inl (fun _ => 0))), (i1_moms, .inl (cI, 12, .inl (fun _ => 0))), (i1_lens, .inl (cI, 12, .inl (fun _ => 0))), (i1_prts, .inl (cI, 12, .inl (fun _ => 0))), (i1_luds, .inl (cI, 12, .inl (fun _ => 0))), (i1_hnds, .inl (cI, 12, .inl (fun _ => 0))), (i1_lats, .inl (cI, 12, .inl (fun _ => 0))), (i1_knds, .inl (cI, 4, .inl (fun _ => 0))), (i1_rch, .inl (cI, 4, .inl (fun _ => 9))), (i1_spd, .inl (cI, 4, .inl (fun _ => 4))), (i1_unN, .inl (cI, 10, .inl (fun _ => 0))), (i1_unH, .inl (cI, 10, .inl (fun _ => 0)))]) [0] [1, 2, 3, 4, 5, 6, 7, 8, 9, 10, 11, 12, 13, 14, 15, 16, 17, 18, 19, 20, 21, 22, 23, 24, 25, 26, 27, 28, 29, 30, 31, 32, 33, 34, 35, 36, 37, 38, 39, 40] hX hE hK hP hD hS hA hl.1 lk_X6_66 (c_refuseBad l D cI cZ cP sa x0 nw sp im sc hg fg pg pr 0 0 1 0 0 0 (-2) _) rfl rfl rfl rfl (by decide) 0 6 rfl rfl rfl rfl (Nat.le_of_ble_eq_true rfl) rfl rfl ⟨Nat.le_of_ble_eq_true rfl, Nat.le_of_ble_eq_true rfl⟩ ⟨Nat.le_of_ble_eq_true rfl, Nat.le_of_ble_eq_true rfl⟩ dX6_image_12 (fun x_7 _ H locs h_7 hP hD hS => ?_)
    have hP : va_P D vwCl [(nw, .inr (3, [.int 2, .int 0, .ref keys, .ref moms, .ref lens, .ref prts, .ref luds, .ref hnds, .ref lats, .ref knds, .ref rch, .ref spd, .int 0, .int 0, .int 0, .ref unN, .ref unH, .ref ptn])), (im, .inl (cP, 2, .inr (.inr (.inr (.inr (va_up (va_up (fun _ => none) 0 (some i0)) 1 (some i1))))))), (i0, .inr (3, [.int 2, .int 0, .ref i0_keys, .ref i0_moms, .ref i0_lens, .ref i0_prts, .ref i0_luds, .ref i0_hnds, .ref i0_lats, .ref i0_knds, .ref i0_rch, .ref i0_spd, .int 0, .int 0, .int 0, .ref i0_unN, .ref i0_unH, .ref i0_ptn])), (i1, .inr (3, [.int 2, .int 0, .ref i1_keys, .ref i1_moms, .ref i1_lens, .ref i1_prts, .ref i1_luds, .ref i1_hnds, .ref i1_lats, .ref i1_knds, .ref i1_rch, .ref i1_spd, .int 0, .int 0, .int 0, .ref i1_unN, .ref i1_unH, .ref i1_ptn])), (keys, .inl (cI, 12, .inl (fun _ => 0))), (moms, .inl (cI, 12, .inl (fun _ => 0))), (lens, .inl (cI, 12, .inl (fun _ => 0))), (prts, .inl (cI, 12, .inl (fun _ => 0))), (luds, .inl (cI, 12, .inl (fun _ => 0))), (hnds, .inl (cI, 12, .inl (fun _ => 0))), (lats, .inl (cI, 12, .inl (fun _ => 0))), (knds, .inl (cI, 4, .inl (fun _ => 0))), (rch, .inl (cI, 4, .inl (fun _ => 9))), (spd, .inl (cI, 4, .inl (fun _ => 4))), (unN, .inl (cI, 10, .inl (fun _ => 0))), (unH, .inl (cI, 10, .inl (fun _ => 0))), (i0_keys, .inl (cI, 12, .inl (fun _ => 0))), (i0_moms, .inl (cI, 12, .inl (fun _ => 0))), (i0_lens, .inl (cI, 12, .inl (fun _ => 0))), (i0_prts, .inl (cI, 12, .inl (fun _ => 0))), (i0_luds, .inl (cI, 12, .inl (fun _ => 0))), (i0_hnds, .inl (cI, 12, .inl (fun _ => 0))), (i0_lats, .inl (cI, 12, .inl (fun _ => 0))), (i0_knds, .inl (cI, 4, .inl (fun _ => 0))), (i0_rch, .inl (cI, 4, .inl (fun _ => 9))), (i0_spd, .inl (cI, 4, .inl (fun _ => 4))), (i0_unN, .inl (cI, 10, .inl (fun _ => 0))), (i0_unH, .inl (cI, 10, .inl (fun _ => 0))), (i1_keys, .inl (cI, 12, .inl (fun _ => 0))), (i1_moms, .inl (cI, 12, .inl (fun _ => 0))), (i1_lens, .inl (cI, 12, .inl (fun _ => 0))), (i1_prts, .inl (cI, 12, .inl (fun _ => 0))), (i1_luds, .inl (cI, 12, .inl (fun _ => 0))), (i1_hnds, .inl (cI, 12, .inl (fun _ => 0))), (i1_lats, .inl (cI, 12, .inl (fun _ => 0))), (i1_knds, .inl (cI, 4, .inl (fun _ => 0))), (i1_rch, .inl (cI, 4, .inl (fun _ => 9))), (i1_spd, .inl (cI, 4, .inl (fun _ => 4))), (i1_unN, .inl (cI, 10, .inl (fun _ => 0))), (i1_unH, .inl (cI, 10, .inl (fun _ => 0)))] H := hP
    have hD : va_D (va_A (w_image cI cZ cP x0 nw sp im sc hg fg pg pr keys moms lens prts luds hnds lats knds rch spd unN unH ptn i0 i1 i0_keys i0_moms i0_lens i0_prts i0_luds i0_hnds i0_lats i0_knds i0_rch i0_spd i0_unN i0_unH i0_ptn i1_keys i1_moms i1_lens i1_prts i1_luds i1_hnds i1_lats i1_knds i1_rch i1_spd i1_unN i1_unH i1_ptn p0) sz) [(nw, .inr (3, [.int 2, .int 0, .ref keys, .ref moms, .ref lens, .ref prts, .ref luds, .ref hnds, .ref lats, .ref knds, .ref rch, .ref spd, .int 0, .int 0, .int 0, .ref unN, .ref unH, .ref ptn])), (im, .inl (cP, 2, .inr (.inr (.inr (.inr (va_up (va_up (fun _ => none) 0 (some i0)) 1 (some i1))))))), (i0, .inr (3, [.int 2, .int 0, .ref i0_keys, .ref i0_moms, .ref i0_lens, .ref i0_prts, .ref i0_luds, .ref i0_hnds, .ref i0_lats, .ref i0_knds, .ref i0_rch, .ref i0_spd, .int 0, .int 0, .int 0, .ref i0_unN, .ref i0_unH, .ref i0_ptn])), (i1, .inr (3, [.int 2, .int 0, .ref i1_keys, .ref i1_moms, .ref i1_lens, .ref i1_prts, .ref i1_luds, .ref i1_hnds, .ref i1_lats, .ref i1_knds, .ref i1_rch, .ref i1_spd, .int 0, .int 0, .int 0, .ref i1_unN, .ref i1_unH, .ref i1_ptn])), (keys, .inl (cI, 12, .inl (fun _ => 0))), (moms, .inl (cI, 12, .inl (fun _ => 0))), (lens, .inl (cI, 12, .inl (fun _ => 0))), (prts, .inl (cI, 12, .inl (fun _ => 0))), (luds, .inl (cI, 12, .inl (fun _ => 0))), (hnds, .inl (cI, 12, .inl (fun _ => 0))), (lats, .inl (cI, 12, .inl (fun _ => 0))), (knds, .inl (cI, 4, .inl (fun _ => 0))), (rch, .inl (cI, 4, .inl (fun _ => 9))), (spd, .inl (cI, 4, .inl (fun _ => 4))), (unN, .inl (cI, 10, .inl (fun _ => 0))), (unH, .inl (cI, 10, .inl (fun _ => 0))), (i0_keys, .inl (cI, 12, .inl (fun _ => 0))), (i0_moms, .inl (cI, 12, .inl (fun _ => 0))), (i0_lens, .inl (cI, 12, .inl (fun _ => 0))), (i0_prts, .inl (cI, 12, .inl (fun _ => 0))), (i0_luds, .inl (cI, 12, .inl (fun _ => 0))), (i0_hnds, .inl (cI, 12, .inl (fun _ => 0))), (i0_lats, .inl (cI, 12, .inl (fun _ => 0))), (i0_knds, .inl (cI, 4, .inl (fun _ => 0))), (i0_rch, .inl (cI, 4, .inl (fun _ => 9))), (i0_spd, .inl (cI, 4, .inl (fun _ => 4))), (i0_unN, .inl (cI, 10, .inl (fun _ => 0))), (i0_unH, .inl (cI, 10, .inl (fun _ => 0))), (i1_keys, .inl (cI, 12, .inl (fun _ => 0))), (i1_moms, .inl (cI, 12, .inl (fun _ => 0))), (i1_lens, .inl (cI, 12, .inl (fun _ => 0))), (i1_prts, .inl (cI, 12, .inl (fun _ => 0))), (i1_luds, .inl (cI, 12, .inl (fun _ => 0))), (i1_hnds, .inl (cI, 12, .inl (fun _ => 0))), (i1_lats, .inl (cI, 12, .inl (fun _ => 0))), (i1_knds, .inl (cI, 4, .inl (fun _ => 0))), (i1_rch, .inl (cI, 4, .inl (fun _ => 9))), (i1_spd, .inl (cI, 4, .inl (fun _ => 4))), (i1_unN, .inl (cI, 10, .inl (fun _ => 0))), (i1_unH, .inl (cI, 10, .inl (fun _ => 0)))] := hD
    subst h_7
    exact q_iret hX hr hlk () (by simp [sp_image, c_1]) (hP.sub [] rfl) (hD.sub [] (by decide) rfl) hS dX6_image_15
abbrev w_countSlips (cI cZ cP : ClassId) (pr : Nat) (prw : Nat) (lft : Nat) (lea : Nat) (nw : Nat) (keys : Nat) (moms : Nat) (lens : Nat) (prts : Nat) (luds : Nat) (hnds : Nat) (lats : Nat) (knds : Nat) (rch : Nat) (spd : Nat) (unN : Nat) (unH : Nat) (ptn : Nat) : va_W := [(pr, .inr (4, [.int 0, .ref prw, .ref lft, .ref lea])), (lft, .inl (cI, 56, .inl (fun _ => 0))), (nw, .inr (3, [.int 2, .int 0, .ref keys, .ref moms, .ref lens, .ref prts, .ref luds, .ref hnds, .ref lats, .ref knds, .ref rch, .ref spd, .int 0, .int 0, .int 0, .ref unN, .ref unH, .ref ptn]))]
set_option maxHeartbeats 4000000 in
set_option maxRecDepth 100000 in
theorem c_countSlips (l : Launch) (D : va_G) (cI cZ cP : ClassId) (sa : Nat → Nat) (pr : Nat) (prw : Nat) (lft : Nat) (lea : Nat) (nw : Nat) (keys : Nat) (moms : Nat) (lens : Nat) (prts : Nat) (luds : Nat) (hnds : Nat) (lats : Nat) (knds : Nat) (rch : Nat) (spd : Nat) (unN : Nat) (unH : Nat) (ptn : Nat) (sz : Nat) : Met l yX4_countSlips (qW yX4_countSlips cX4_countSlips 4 none) ({ frames := 1, cells := 0, slots := 0, locals := 23 } : Room) (qP D (TY cI cZ cP) sa [.ref pr, .ref nw] (w_countSlips cI cZ cP pr prw lft lea nw keys moms lens prts luds hnds lats knds rch spd unN unH ptn) sz) (qQv D (w_countSlips cI cZ cP pr prw lft lea nw keys moms lens prts luds hnds lats knds rch spd unN unH ptn) sz (fun _ : Unit => True) (fun _ => [(pr, .inr (4, [.int 0, .ref prw, .ref lft, .ref lea])), (lft, .inl (cI, 56, .inl (fun _ => 0)))])) 0 0 (va_A (w_countSlips cI cZ cP pr prw lft lea nw keys moms lens prts luds hnds lats knds rch spd unN unH ptn) sz) := by
  refine q_enter (by decide) (Nat.le_of_ble_eq_true rfl) ?_
  intro p e s m below meth c ls hX hr hlk hnm hE hK hP hD hS hA hl
  obtain ⟨hx, hb, hml, hown, ht⟩ := id hX
  have hl : lv_has ls 4 [(0, .ref pr), (1, .ref nw)] := hl
  refine lv_aload_n hx hb dX4_countSlips_0 rfl (lv_at hl 0 rfl) ?_
  refine va_get (D := D) (ci := 4) (v := .ref lft) (C := RX4) (T := TX4) (N := 4) hx hb ht inX4 hown hK hP 0 rfl rfl 2 (Nat.le_of_ble_eq_true rfl) (ht _ kw_326) (fun _ h9 => h9) rfl dX4_countSlips_1 ?_
  refine lv_iconst (v := 0) hx hb dX4_countSlips_4 (by decide) ?_
  refine q_Sv (wr := [(pr, .inr (4, [.int 0, .ref prw, .ref lft, .ref lea])), (nw, .inr (3, [.int 2, .int 0, .ref keys, .ref moms, .ref lens, .ref prts, .ref luds, .ref hnds, .ref lats, .ref knds, .ref rch, .ref spd, .int 0, .int 0, .int 0, .ref unN, .ref unH, .ref ptn]))]) [1] [0, 2] hX hE hK hP hD hS hA hl.1 lk_X4_41 (c_fill l D cI cZ cP sa lft 56 (fun _ => 0) 0 (by decide) _) rfl rfl rfl rfl (by decide) rfl rfl (Nat.le_of_ble_eq_true rfl) rfl rfl ⟨Nat.le_of_ble_eq_true rfl, Nat.le_of_ble_eq_true rfl⟩ ⟨Nat.le_of_ble_eq_true rfl, Nat.le_of_ble_eq_true rfl⟩ dX4_countSlips_5 (fun _ H locs h_1 hP hD hS => ?_)
  have hP : va_P D vwCl [(pr, .inr (4, [.int 0, .ref prw, .ref lft, .ref lea])), (nw, .inr (3, [.int 2, .int 0, .ref keys, .ref moms, .ref lens, .ref prts, .ref luds, .ref hnds, .ref lats, .ref knds, .ref rch, .ref spd, .int 0, .int 0, .int 0, .ref unN, .ref unH, .ref ptn])), (lft, .inl (cI, 56, .inl (fun _ => 0)))] H := hP
  have hD : va_D (va_A (w_countSlips cI cZ cP pr prw lft lea nw keys moms lens prts luds hnds lats knds rch spd unN unH ptn) sz) [(pr, .inr (4, [.int 0, .ref prw, .ref lft, .ref lea])), (nw, .inr (3, [.int 2, .int 0, .ref keys, .ref moms, .ref lens, .ref prts, .ref luds, .ref hnds, .ref lats, .ref knds, .ref rch, .ref spd, .int 0, .int 0, .int 0, .ref unN, .ref unH, .ref ptn])), (lft, .inl (cI, 56, .inl (fun _ => 0)))] := hD
  refine lv_iconst (v := 0) hx hb dX4_countSlips_8 (by decide) ?_
  refine lv_istore_n (lv' := [(2, .int 0), (0, .ref pr), (1, .ref nw)]) hx hb dX4_countSlips_9 rfl hl (by decide) rfl (fun ls hl => ?_)
  refine lv_iload_n hx hb dX4_countSlips_10 rfl (lv_at hl 0 rfl) ?_
  refine lv_aload_n hx hb dX4_countSlips_11 rfl (lv_at hl 2 rfl) ?_
  refine va_get (D := D) (ci := 3) (v := .int 0) (C := RX3) (T := TX3) (N := 18) hx hb ht inX3 hown hK hP 1 rfl rfl 1 (Nat.le_of_ble_eq_true rfl) (ht _ kw_127) (fun _ h9 => h9) rfl dX4_countSlips_12 ?_
  refine lv_icmp_ge (tgt := 111) hx hb dX4_countSlips_15 (by decide) (fun _ => ?_) (fun c_2 => absurd (by decide) c_2)
  refine lv_iconst (v := 0) hx hb dX4_countSlips_111 (by decide) ?_
  refine lv_istore_n (lv' := [(2, .int 0), (0, .ref pr), (1, .ref nw)]) hx hb dX4_countSlips_112 rfl hl (by decide) rfl (fun ls hl => ?_)
  refine lv_iload_n hx hb dX4_countSlips_113 rfl (lv_at hl 0 rfl) ?_
  refine lv_bipush (v := 8) hx hb dX4_countSlips_114 (by decide) ?_
  refine lv_icmp_ge (tgt := 167) hx hb dX4_countSlips_116 (by decide) (fun c_3 => absurd c_3 (by decide)) (fun _ => ?_)
  refine lv_iconst (v := 1) hx hb dX4_countSlips_119 (by decide) ?_
  refine lv_istore_n (lv' := [(3, .int 1), (2, .int 0), (0, .ref pr), (1, .ref nw)]) hx hb dX4_countSlips_120 rfl hl (by decide) rfl (fun ls hl => ?_)
  refine lv_iload_n hx hb dX4_countSlips_121 rfl (lv_at hl 0 rfl) ?_
  refine lv_bipush (v := 6) hx hb dX4_countSlips_122 (by decide) ?_
  refine lv_icmp_gt (tgt := 161) hx hb dX4_countSlips_124 (by decide) (fun c_4 => absurd c_4 (by decide)) (fun _ => ?_)
  refine lv_aload_n hx hb dX4_countSlips_127 rfl (lv_at hl 2 rfl) ?_
  refine va_get (D := D) (ci := 4) (v := .ref lft) (C := RX4) (T := TX4) (N := 4) hx hb ht inX4 hown hK hP 0 rfl rfl 2 (Nat.le_of_ble_eq_true rfl) (ht _ kw_326) (fun _ h9 => h9) rfl dX4_countSlips_128 ?_
  refine lv_iload_n hx hb dX4_countSlips_131 rfl (lv_at hl 1 rfl) ?_
  refine lv_bipush (v := 7) hx hb dX4_countSlips_132 (by decide) ?_
  refine lv_imul hx hb dX4_countSlips_134 ?_
  refine q_i (z := 0) (by decide) ?_
  refine lv_iload_n hx hb dX4_countSlips_135 rfl (lv_at hl 0 rfl) ?_
  refine lv_iadd hx hb dX4_countSlips_136 ?_
  refine q_i (z := 1) (by decide) ?_
  refine lv_aload_n hx hb dX4_countSlips_137 rfl (lv_at hl 2 rfl) ?_
  refine va_get (D := D) (ci := 4) (v := .ref lft) (C := RX4) (T := TX4) (N := 4) hx hb ht inX4 hown hK hP 0 rfl rfl 2 (Nat.le_of_ble_eq_true rfl) (ht _ kw_326) (fun _ h9 => h9) rfl dX4_countSlips_138 ?_
  refine lv_iload_n hx hb dX4_countSlips_141 rfl (lv_at hl 1 rfl) ?_
  refine lv_bipush (v := 7) hx hb dX4_countSlips_142 (by decide) ?_
  refine lv_imul hx hb dX4_countSlips_144 ?_
  refine q_i (z := 0) (by decide) ?_
  refine lv_iload_n hx hb dX4_countSlips_145 rfl (lv_at hl 0 rfl) ?_
  refine lv_iadd hx hb dX4_countSlips_146 ?_
  refine q_i (z := 1) (by decide) ?_
  refine lv_iconst (v := 1) hx hb dX4_countSlips_147 (by decide) ?_
  refine lv_isub hx hb dX4_countSlips_148 ?_
  refine q_i (z := 0) (by decide) ?_
  refine va_iald hx hb hK hP 2 0 rfl rfl (vin (by decide)) dX4_countSlips_149 ?_
  refine q_i (z := 0) rfl ?_
  refine lv_iconst (v := 3) hx hb dX4_countSlips_150 (by decide) ?_
  refine lv_imul hx hb dX4_countSlips_151 ?_
  refine q_i (z := 0) (by decide) ?_
  refine lv_iconst (v := 4) hx hb dX4_countSlips_152 (by decide) ?_
  refine lv_idiv hx hb dX4_countSlips_153 (by decide) ?_
  refine q_i (z := 0) (by decide) ?_
  refine va_iast hx hb hK hP hD hS 2 0 rfl rfl (vin (by decide)) dX4_countSlips_154 (fun H locs hP hD hS => ?_)
  have hP : va_P D vwCl [(pr, .inr (4, [.int 0, .ref prw, .ref lft, .ref lea])), (nw, .inr (3, [.int 2, .int 0, .ref keys, .ref moms, .ref lens, .ref prts, .ref luds, .ref hnds, .ref lats, .ref knds, .ref rch, .ref spd, .int 0, .int 0, .int 0, .ref unN, .ref unH, .ref ptn])), (lft, .inl (cI, 56, .inl (upd (fun _ => 0) (1 : Int32).toNatClampNeg 0)))] H := hP
  have hD : va_D (va_A (w_countSlips cI cZ cP pr prw lft lea nw keys moms lens prts luds hnds lats knds rch spd unN unH ptn) sz) [(pr, .inr (4, [.int 0, .ref prw, .ref lft, .ref lea])), (nw, .inr (3, [.int 2, .int 0, .ref keys, .ref moms, .ref lens, .ref prts, .ref luds, .ref hnds, .ref lats, .ref knds, .ref rch, .ref spd, .int 0, .int 0, .int 0, .ref unN, .ref unH, .ref ptn])), (lft, .inl (cI, 56, .inl (upd (fun _ => 0) (1 : Int32).toNatClampNeg 0)))] := hD
  rw [upd_c] at hP hD
  have hP : va_P D vwCl [(pr, .inr (4, [.int 0, .ref prw, .ref lft, .ref lea])), (nw, .inr (3, [.int 2, .int 0, .ref keys, .ref moms, .ref lens, .ref prts, .ref luds, .ref hnds, .ref lats, .ref knds, .ref rch, .ref spd, .int 0, .int 0, .int 0, .ref unN, .ref unH, .ref ptn])), (lft, .inl (cI, 56, .inl (fun _ => 0)))] H := hP
  have hD : va_D (va_A (w_countSlips cI cZ cP pr prw lft lea nw keys moms lens prts luds hnds lats knds rch spd unN unH ptn) sz) [(pr, .inr (4, [.int 0, .ref prw, .ref lft, .ref lea])), (nw, .inr (3, [.int 2, .int 0, .ref keys, .ref moms, .ref lens, .ref prts, .ref luds, .ref hnds, .ref lats, .ref knds, .ref rch, .ref spd, .int 0, .int 0, .int 0, .ref unN, .ref unH, .ref ptn])), (lft, .inl (cI, 56, .inl (fun _ => 0)))] := hD
  refine lv_iinc (v := 2) (lv' := [(3, .int 2), (2, .int 0), (0, .ref pr), (1, .ref nw)]) hx hb dX4_countSlips_155 hl (k := 0) rfl (by decide) (by decide) rfl (fun ls hl => ?_)
  refine lv_goto (tgt := 121) hx hb dX4_countSlips_158 (by decide) ?_
  refine lv_iload_n hx hb dX4_countSlips_121 rfl (lv_at hl 0 rfl) ?_
  refine lv_bipush (v := 6) hx hb dX4_countSlips_122 (by decide) ?_
  refine lv_icmp_gt (tgt := 161) hx hb dX4_countSlips_124 (by decide) (fun c_5 => absurd c_5 (by decide)) (fun _ => ?_)
  refine lv_aload_n hx hb dX4_countSlips_127 rfl (lv_at hl 2 rfl) ?_
  refine va_get (D := D) (ci := 4) (v := .ref lft) (C := RX4) (T := TX4) (N := 4) hx hb ht inX4 hown hK hP 0 rfl rfl 2 (Nat.le_of_ble_eq_true rfl) (ht _ kw_326) (fun _ h9 => h9) rfl dX4_countSlips_128 ?_
  refine lv_iload_n hx hb dX4_countSlips_131 rfl (lv_at hl 1 rfl) ?_
  refine lv_bipush (v := 7) hx hb dX4_countSlips_132 (by decide) ?_
  refine lv_imul hx hb dX4_countSlips_134 ?_
  refine q_i (z := 0) (by decide) ?_
  refine lv_iload_n hx hb dX4_countSlips_135 rfl (lv_at hl 0 rfl) ?_
  refine lv_iadd hx hb dX4_countSlips_136 ?_
  refine q_i (z := 2) (by decide) ?_
  refine lv_aload_n hx hb dX4_countSlips_137 rfl (lv_at hl 2 rfl) ?_
  refine va_get (D := D) (ci := 4) (v := .ref lft) (C := RX4) (T := TX4) (N := 4) hx hb ht inX4 hown hK hP 0 rfl rfl 2 (Nat.le_of_ble_eq_true rfl) (ht _ kw_326) (fun _ h9 => h9) rfl dX4_countSlips_138 ?_
  refine lv_iload_n hx hb dX4_countSlips_141 rfl (lv_at hl 1 rfl) ?_
  refine lv_bipush (v := 7) hx hb dX4_countSlips_142 (by decide) ?_
  refine lv_imul hx hb dX4_countSlips_144 ?_
  refine q_i (z := 0) (by decide) ?_
  refine lv_iload_n hx hb dX4_countSlips_145 rfl (lv_at hl 0 rfl) ?_
  refine lv_iadd hx hb dX4_countSlips_146 ?_
  refine q_i (z := 2) (by decide) ?_
  refine lv_iconst (v := 1) hx hb dX4_countSlips_147 (by decide) ?_
  refine lv_isub hx hb dX4_countSlips_148 ?_
  refine q_i (z := 1) (by decide) ?_
  refine va_iald hx hb hK hP 2 0 rfl rfl (vin (by decide)) dX4_countSlips_149 ?_
  refine q_i (z := 0) rfl ?_
  refine lv_iconst (v := 3) hx hb dX4_countSlips_150 (by decide) ?_
  refine lv_imul hx hb dX4_countSlips_151 ?_
  refine q_i (z := 0) (by decide) ?_
  refine lv_iconst (v := 4) hx hb dX4_countSlips_152 (by decide) ?_
  refine lv_idiv hx hb dX4_countSlips_153 (by decide) ?_
  refine q_i (z := 0) (by decide) ?_
  refine va_iast hx hb hK hP hD hS 2 0 rfl rfl (vin (by decide)) dX4_countSlips_154 (fun H locs hP hD hS => ?_)
  have hP : va_P D vwCl [(pr, .inr (4, [.int 0, .ref prw, .ref lft, .ref lea])), (nw, .inr (3, [.int 2, .int 0, .ref keys, .ref moms, .ref lens, .ref prts, .ref luds, .ref hnds, .ref lats, .ref knds, .ref rch, .ref spd, .int 0, .int 0, .int 0, .ref unN, .ref unH, .ref ptn])), (lft, .inl (cI, 56, .inl (upd (fun _ => 0) (2 : Int32).toNatClampNeg 0)))] H := hP
  have hD : va_D (va_A (w_countSlips cI cZ cP pr prw lft lea nw keys moms lens prts luds hnds lats knds rch spd unN unH ptn) sz) [(pr, .inr (4, [.int 0, .ref prw, .ref lft, .ref lea])), (nw, .inr (3, [.int 2, .int 0, .ref keys, .ref moms, .ref lens, .ref prts, .ref luds, .ref hnds, .ref lats, .ref knds, .ref rch, .ref spd, .int 0, .int 0, .int 0, .ref unN, .ref unH, .ref ptn])), (lft, .inl (cI, 56, .inl (upd (fun _ => 0) (2 : Int32).toNatClampNeg 0)))] := hD
  rw [upd_c] at hP hD
  have hP : va_P D vwCl [(pr, .inr (4, [.int 0, .ref prw, .ref lft, .ref lea])), (nw, .inr (3, [.int 2, .int 0, .ref keys, .ref moms, .ref lens, .ref prts, .ref luds, .ref hnds, .ref lats, .ref knds, .ref rch, .ref spd, .int 0, .int 0, .int 0, .ref unN, .ref unH, .ref ptn])), (lft, .inl (cI, 56, .inl (fun _ => 0)))] H := hP
  have hD : va_D (va_A (w_countSlips cI cZ cP pr prw lft lea nw keys moms lens prts luds hnds lats knds rch spd unN unH ptn) sz) [(pr, .inr (4, [.int 0, .ref prw, .ref lft, .ref lea])), (nw, .inr (3, [.int 2, .int 0, .ref keys, .ref moms, .ref lens, .ref prts, .ref luds, .ref hnds, .ref lats, .ref knds, .ref rch, .ref spd, .int 0, .int 0, .int 0, .ref unN, .ref unH, .ref ptn])), (lft, .inl (cI, 56, .inl (fun _ => 0)))] := hD
  refine lv_iinc (v := 3) (lv' := [(3, .int 3), (2, .int 0), (0, .ref pr), (1, .ref nw)]) hx hb dX4_countSlips_155 hl (k := 0) rfl (by decide) (by decide) rfl (fun ls hl => ?_)
  refine lv_goto (tgt := 121) hx hb dX4_countSlips_158 (by decide) ?_
  refine lv_iload_n hx hb dX4_countSlips_121 rfl (lv_at hl 0 rfl) ?_
  refine lv_bipush (v := 6) hx hb dX4_countSlips_122 (by decide) ?_
  refine lv_icmp_gt (tgt := 161) hx hb dX4_countSlips_124 (by decide) (fun c_6 => absurd c_6 (by decide)) (fun _ => ?_)
  refine lv_aload_n hx hb dX4_countSlips_127 rfl (lv_at hl 2 rfl) ?_
  refine va_get (D := D) (ci := 4) (v := .ref lft) (C := RX4) (T := TX4) (N := 4) hx hb ht inX4 hown hK hP 0 rfl rfl 2 (Nat.le_of_ble_eq_true rfl) (ht _ kw_326) (fun _ h9 => h9) rfl dX4_countSlips_128 ?_
  refine lv_iload_n hx hb dX4_countSlips_131 rfl (lv_at hl 1 rfl) ?_
  refine lv_bipush (v := 7) hx hb dX4_countSlips_132 (by decide) ?_
  refine lv_imul hx hb dX4_countSlips_134 ?_
  refine q_i (z := 0) (by decide) ?_
  refine lv_iload_n hx hb dX4_countSlips_135 rfl (lv_at hl 0 rfl) ?_
  refine lv_iadd hx hb dX4_countSlips_136 ?_
  refine q_i (z := 3) (by decide) ?_
  refine lv_aload_n hx hb dX4_countSlips_137 rfl (lv_at hl 2 rfl) ?_
  refine va_get (D := D) (ci := 4) (v := .ref lft) (C := RX4) (T := TX4) (N := 4) hx hb ht inX4 hown hK hP 0 rfl rfl 2 (Nat.le_of_ble_eq_true rfl) (ht _ kw_326) (fun _ h9 => h9) rfl dX4_countSlips_138 ?_
  refine lv_iload_n hx hb dX4_countSlips_141 rfl (lv_at hl 1 rfl) ?_
  refine lv_bipush (v := 7) hx hb dX4_countSlips_142 (by decide) ?_
  refine lv_imul hx hb dX4_countSlips_144 ?_
  refine q_i (z := 0) (by decide) ?_
  refine lv_iload_n hx hb dX4_countSlips_145 rfl (lv_at hl 0 rfl) ?_
  refine lv_iadd hx hb dX4_countSlips_146 ?_
  refine q_i (z := 3) (by decide) ?_
  refine lv_iconst (v := 1) hx hb dX4_countSlips_147 (by decide) ?_
  refine lv_isub hx hb dX4_countSlips_148 ?_
  refine q_i (z := 2) (by decide) ?_
  refine va_iald hx hb hK hP 2 0 rfl rfl (vin (by decide)) dX4_countSlips_149 ?_
  refine q_i (z := 0) rfl ?_
  refine lv_iconst (v := 3) hx hb dX4_countSlips_150 (by decide) ?_
  refine lv_imul hx hb dX4_countSlips_151 ?_
  refine q_i (z := 0) (by decide) ?_
  refine lv_iconst (v := 4) hx hb dX4_countSlips_152 (by decide) ?_
  refine lv_idiv hx hb dX4_countSlips_153 (by decide) ?_
  refine q_i (z := 0) (by decide) ?_
  refine va_iast hx hb hK hP hD hS 2 0 rfl rfl (vin (by decide)) dX4_countSlips_154 (fun H locs hP hD hS => ?_)
  have hP : va_P D vwCl [(pr, .inr (4, [.int 0, .ref prw, .ref lft, .ref lea])), (nw, .inr (3, [.int 2, .int 0, .ref keys, .ref moms, .ref lens, .ref prts, .ref luds, .ref hnds, .ref lats, .ref knds, .ref rch, .ref spd, .int 0, .int 0, .int 0, .ref unN, .ref unH, .ref ptn])), (lft, .inl (cI, 56, .inl (upd (fun _ => 0) (3 : Int32).toNatClampNeg 0)))] H := hP
  have hD : va_D (va_A (w_countSlips cI cZ cP pr prw lft lea nw keys moms lens prts luds hnds lats knds rch spd unN unH ptn) sz) [(pr, .inr (4, [.int 0, .ref prw, .ref lft, .ref lea])), (nw, .inr (3, [.int 2, .int 0, .ref keys, .ref moms, .ref lens, .ref prts, .ref luds, .ref hnds, .ref lats, .ref knds, .ref rch, .ref spd, .int 0, .int 0, .int 0, .ref unN, .ref unH, .ref ptn])), (lft, .inl (cI, 56, .inl (upd (fun _ => 0) (3 : Int32).toNatClampNeg 0)))] := hD
  rw [upd_c] at hP hD
  have hP : va_P D vwCl [(pr, .inr (4, [.int 0, .ref prw, .ref lft, .ref lea])), (nw, .inr (3, [.int 2, .int 0, .ref keys, .ref moms, .ref lens, .ref prts, .ref luds, .ref hnds, .ref lats, .ref knds, .ref rch, .ref spd, .int 0, .int 0, .int 0, .ref unN, .ref unH, .ref ptn])), (lft, .inl (cI, 56, .inl (fun _ => 0)))] H := hP
  have hD : va_D (va_A (w_countSlips cI cZ cP pr prw lft lea nw keys moms lens prts luds hnds lats knds rch spd unN unH ptn) sz) [(pr, .inr (4, [.int 0, .ref prw, .ref lft, .ref lea])), (nw, .inr (3, [.int 2, .int 0, .ref keys, .ref moms, .ref lens, .ref prts, .ref luds, .ref hnds, .ref lats, .ref knds, .ref rch, .ref spd, .int 0, .int 0, .int 0, .ref unN, .ref unH, .ref ptn])), (lft, .inl (cI, 56, .inl (fun _ => 0)))] := hD
  refine lv_iinc (v := 4) (lv' := [(3, .int 4), (2, .int 0), (0, .ref pr), (1, .ref nw)]) hx hb dX4_countSlips_155 hl (k := 0) rfl (by decide) (by decide) rfl (fun ls hl => ?_)
  refine lv_goto (tgt := 121) hx hb dX4_countSlips_158 (by decide) ?_
  refine lv_iload_n hx hb dX4_countSlips_121 rfl (lv_at hl 0 rfl) ?_
  refine lv_bipush (v := 6) hx hb dX4_countSlips_122 (by decide) ?_
  refine lv_icmp_gt (tgt := 161) hx hb dX4_countSlips_124 (by decide) (fun c_7 => absurd c_7 (by decide)) (fun _ => ?_)
  refine lv_aload_n hx hb dX4_countSlips_127 rfl (lv_at hl 2 rfl) ?_
  refine va_get (D := D) (ci := 4) (v := .ref lft) (C := RX4) (T := TX4) (N := 4) hx hb ht inX4 hown hK hP 0 rfl rfl 2 (Nat.le_of_ble_eq_true rfl) (ht _ kw_326) (fun _ h9 => h9) rfl dX4_countSlips_128 ?_
  refine lv_iload_n hx hb dX4_countSlips_131 rfl (lv_at hl 1 rfl) ?_
  refine lv_bipush (v := 7) hx hb dX4_countSlips_132 (by decide) ?_
  refine lv_imul hx hb dX4_countSlips_134 ?_
  refine q_i (z := 0) (by decide) ?_
  refine lv_iload_n hx hb dX4_countSlips_135 rfl (lv_at hl 0 rfl) ?_
  refine lv_iadd hx hb dX4_countSlips_136 ?_
  refine q_i (z := 4) (by decide) ?_
  refine lv_aload_n hx hb dX4_countSlips_137 rfl (lv_at hl 2 rfl) ?_
  refine va_get (D := D) (ci := 4) (v := .ref lft) (C := RX4) (T := TX4) (N := 4) hx hb ht inX4 hown hK hP 0 rfl rfl 2 (Nat.le_of_ble_eq_true rfl) (ht _ kw_326) (fun _ h9 => h9) rfl dX4_countSlips_138 ?_
  refine lv_iload_n hx hb dX4_countSlips_141 rfl (lv_at hl 1 rfl) ?_
  refine lv_bipush (v := 7) hx hb dX4_countSlips_142 (by decide) ?_
  refine lv_imul hx hb dX4_countSlips_144 ?_
  refine q_i (z := 0) (by decide) ?_
  refine lv_iload_n hx hb dX4_countSlips_145 rfl (lv_at hl 0 rfl) ?_
  refine lv_iadd hx hb dX4_countSlips_146 ?_
  refine q_i (z := 4) (by decide) ?_
  refine lv_iconst (v := 1) hx hb dX4_countSlips_147 (by decide) ?_
  refine lv_isub hx hb dX4_countSlips_148 ?_
  refine q_i (z := 3) (by decide) ?_
  refine va_iald hx hb hK hP 2 0 rfl rfl (vin (by decide)) dX4_countSlips_149 ?_
  refine q_i (z := 0) rfl ?_
  refine lv_iconst (v := 3) hx hb dX4_countSlips_150 (by decide) ?_
  refine lv_imul hx hb dX4_countSlips_151 ?_
  refine q_i (z := 0) (by decide) ?_
  refine lv_iconst (v := 4) hx hb dX4_countSlips_152 (by decide) ?_
  refine lv_idiv hx hb dX4_countSlips_153 (by decide) ?_
  refine q_i (z := 0) (by decide) ?_
  refine va_iast hx hb hK hP hD hS 2 0 rfl rfl (vin (by decide)) dX4_countSlips_154 (fun H locs hP hD hS => ?_)
  have hP : va_P D vwCl [(pr, .inr (4, [.int 0, .ref prw, .ref lft, .ref lea])), (nw, .inr (3, [.int 2, .int 0, .ref keys, .ref moms, .ref lens, .ref prts, .ref luds, .ref hnds, .ref lats, .ref knds, .ref rch, .ref spd, .int 0, .int 0, .int 0, .ref unN, .ref unH, .ref ptn])), (lft, .inl (cI, 56, .inl (upd (fun _ => 0) (4 : Int32).toNatClampNeg 0)))] H := hP
  have hD : va_D (va_A (w_countSlips cI cZ cP pr prw lft lea nw keys moms lens prts luds hnds lats knds rch spd unN unH ptn) sz) [(pr, .inr (4, [.int 0, .ref prw, .ref lft, .ref lea])), (nw, .inr (3, [.int 2, .int 0, .ref keys, .ref moms, .ref lens, .ref prts, .ref luds, .ref hnds, .ref lats, .ref knds, .ref rch, .ref spd, .int 0, .int 0, .int 0, .ref unN, .ref unH, .ref ptn])), (lft, .inl (cI, 56, .inl (upd (fun _ => 0) (4 : Int32).toNatClampNeg 0)))] := hD
  rw [upd_c] at hP hD
  have hP : va_P D vwCl [(pr, .inr (4, [.int 0, .ref prw, .ref lft, .ref lea])), (nw, .inr (3, [.int 2, .int 0, .ref keys, .ref moms, .ref lens, .ref prts, .ref luds, .ref hnds, .ref lats, .ref knds, .ref rch, .ref spd, .int 0, .int 0, .int 0, .ref unN, .ref unH, .ref ptn])), (lft, .inl (cI, 56, .inl (fun _ => 0)))] H := hP
  have hD : va_D (va_A (w_countSlips cI cZ cP pr prw lft lea nw keys moms lens prts luds hnds lats knds rch spd unN unH ptn) sz) [(pr, .inr (4, [.int 0, .ref prw, .ref lft, .ref lea])), (nw, .inr (3, [.int 2, .int 0, .ref keys, .ref moms, .ref lens, .ref prts, .ref luds, .ref hnds, .ref lats, .ref knds, .ref rch, .ref spd, .int 0, .int 0, .int 0, .ref unN, .ref unH, .ref ptn])), (lft, .inl (cI, 56, .inl (fun _ => 0)))] := hD
  refine lv_iinc (v := 5) (lv' := [(3, .int 5), (2, .int 0), (0, .ref pr), (1, .ref nw)]) hx hb dX4_countSlips_155 hl (k := 0) rfl (by decide) (by decide) rfl (fun ls hl => ?_)
  refine lv_goto (tgt := 121) hx hb dX4_countSlips_158 (by decide) ?_
  refine lv_iload_n hx hb dX4_countSlips_121 rfl (lv_at hl 0 rfl) ?_
  refine lv_bipush (v := 6) hx hb dX4_countSlips_122 (by decide) ?_
  refine lv_icmp_gt (tgt := 161) hx hb dX4_countSlips_124 (by decide) (fun c_8 => absurd c_8 (by decide)) (fun _ => ?_)
  refine lv_aload_n hx hb dX4_countSlips_127 rfl (lv_at hl 2 rfl) ?_
  refine va_get (D := D) (ci := 4) (v := .ref lft) (C := RX4) (T := TX4) (N := 4) hx hb ht inX4 hown hK hP 0 rfl rfl 2 (Nat.le_of_ble_eq_true rfl) (ht _ kw_326) (fun _ h9 => h9) rfl dX4_countSlips_128 ?_
  refine lv_iload_n hx hb dX4_countSlips_131 rfl (lv_at hl 1 rfl) ?_
  refine lv_bipush (v := 7) hx hb dX4_countSlips_132 (by decide) ?_
  refine lv_imul hx hb dX4_countSlips_134 ?_
  refine q_i (z := 0) (by decide) ?_
  refine lv_iload_n hx hb dX4_countSlips_135 rfl (lv_at hl 0 rfl) ?_
  refine lv_iadd hx hb dX4_countSlips_136 ?_
  refine q_i (z := 5) (by decide) ?_
  refine lv_aload_n hx hb dX4_countSlips_137 rfl (lv_at hl 2 rfl) ?_
  refine va_get (D := D) (ci := 4) (v := .ref lft) (C := RX4) (T := TX4) (N := 4) hx hb ht inX4 hown hK hP 0 rfl rfl 2 (Nat.le_of_ble_eq_true rfl) (ht _ kw_326) (fun _ h9 => h9) rfl dX4_countSlips_138 ?_
  refine lv_iload_n hx hb dX4_countSlips_141 rfl (lv_at hl 1 rfl) ?_
  refine lv_bipush (v := 7) hx hb dX4_countSlips_142 (by decide) ?_
  refine lv_imul hx hb dX4_countSlips_144 ?_
  refine q_i (z := 0) (by decide) ?_
  refine lv_iload_n hx hb dX4_countSlips_145 rfl (lv_at hl 0 rfl) ?_
  refine lv_iadd hx hb dX4_countSlips_146 ?_
  refine q_i (z := 5) (by decide) ?_
  refine lv_iconst (v := 1) hx hb dX4_countSlips_147 (by decide) ?_
  refine lv_isub hx hb dX4_countSlips_148 ?_
  refine q_i (z := 4) (by decide) ?_
  refine va_iald hx hb hK hP 2 0 rfl rfl (vin (by decide)) dX4_countSlips_149 ?_
  refine q_i (z := 0) rfl ?_
  refine lv_iconst (v := 3) hx hb dX4_countSlips_150 (by decide) ?_
  refine lv_imul hx hb dX4_countSlips_151 ?_
  refine q_i (z := 0) (by decide) ?_
  refine lv_iconst (v := 4) hx hb dX4_countSlips_152 (by decide) ?_
  refine lv_idiv hx hb dX4_countSlips_153 (by decide) ?_
  refine q_i (z := 0) (by decide) ?_
  refine va_iast hx hb hK hP hD hS 2 0 rfl rfl (vin (by decide)) dX4_countSlips_154 (fun H locs hP hD hS => ?_)
  have hP : va_P D vwCl [(pr, .inr (4, [.int 0, .ref prw, .ref lft, .ref lea])), (nw, .inr (3, [.int 2, .int 0, .ref keys, .ref moms, .ref lens, .ref prts, .ref luds, .ref hnds, .ref lats, .ref knds, .ref rch, .ref spd, .int 0, .int 0, .int 0, .ref unN, .ref unH, .ref ptn])), (lft, .inl (cI, 56, .inl (upd (fun _ => 0) (5 : Int32).toNatClampNeg 0)))] H := hP
  have hD : va_D (va_A (w_countSlips cI cZ cP pr prw lft lea nw keys moms lens prts luds hnds lats knds rch spd unN unH ptn) sz) [(pr, .inr (4, [.int 0, .ref prw, .ref lft, .ref lea])), (nw, .inr (3, [.int 2, .int 0, .ref keys, .ref moms, .ref lens, .ref prts, .ref luds, .ref hnds, .ref lats, .ref knds, .ref rch, .ref spd, .int 0, .int 0, .int 0, .ref unN, .ref unH, .ref ptn])), (lft, .inl (cI, 56, .inl (upd (fun _ => 0) (5 : Int32).toNatClampNeg 0)))] := hD
  rw [upd_c] at hP hD
  have hP : va_P D vwCl [(pr, .inr (4, [.int 0, .ref prw, .ref lft, .ref lea])), (nw, .inr (3, [.int 2, .int 0, .ref keys, .ref moms, .ref lens, .ref prts, .ref luds, .ref hnds, .ref lats, .ref knds, .ref rch, .ref spd, .int 0, .int 0, .int 0, .ref unN, .ref unH, .ref ptn])), (lft, .inl (cI, 56, .inl (fun _ => 0)))] H := hP
  have hD : va_D (va_A (w_countSlips cI cZ cP pr prw lft lea nw keys moms lens prts luds hnds lats knds rch spd unN unH ptn) sz) [(pr, .inr (4, [.int 0, .ref prw, .ref lft, .ref lea])), (nw, .inr (3, [.int 2, .int 0, .ref keys, .ref moms, .ref lens, .ref prts, .ref luds, .ref hnds, .ref lats, .ref knds, .ref rch, .ref spd, .int 0, .int 0, .int 0, .ref unN, .ref unH, .ref ptn])), (lft, .inl (cI, 56, .inl (fun _ => 0)))] := hD
  refine lv_iinc (v := 6) (lv' := [(3, .int 6), (2, .int 0), (0, .ref pr), (1, .ref nw)]) hx hb dX4_countSlips_155 hl (k := 0) rfl (by decide) (by decide) rfl (fun ls hl => ?_)
  refine lv_goto (tgt := 121) hx hb dX4_countSlips_158 (by decide) ?_
  refine lv_iload_n hx hb dX4_countSlips_121 rfl (lv_at hl 0 rfl) ?_
  refine lv_bipush (v := 6) hx hb dX4_countSlips_122 (by decide) ?_
  refine lv_icmp_gt (tgt := 161) hx hb dX4_countSlips_124 (by decide) (fun c_9 => absurd c_9 (by decide)) (fun _ => ?_)
  refine lv_aload_n hx hb dX4_countSlips_127 rfl (lv_at hl 2 rfl) ?_
  refine va_get (D := D) (ci := 4) (v := .ref lft) (C := RX4) (T := TX4) (N := 4) hx hb ht inX4 hown hK hP 0 rfl rfl 2 (Nat.le_of_ble_eq_true rfl) (ht _ kw_326) (fun _ h9 => h9) rfl dX4_countSlips_128 ?_
  refine lv_iload_n hx hb dX4_countSlips_131 rfl (lv_at hl 1 rfl) ?_
  refine lv_bipush (v := 7) hx hb dX4_countSlips_132 (by decide) ?_
  refine lv_imul hx hb dX4_countSlips_134 ?_
  refine q_i (z := 0) (by decide) ?_
  refine lv_iload_n hx hb dX4_countSlips_135 rfl (lv_at hl 0 rfl) ?_
  refine lv_iadd hx hb dX4_countSlips_136 ?_
  refine q_i (z := 6) (by decide) ?_
  refine lv_aload_n hx hb dX4_countSlips_137 rfl (lv_at hl 2 rfl) ?_
  refine va_get (D := D) (ci := 4) (v := .ref lft) (C := RX4) (T := TX4) (N := 4) hx hb ht inX4 hown hK hP 0 rfl rfl 2 (Nat.le_of_ble_eq_true rfl) (ht _ kw_326) (fun _ h9 => h9) rfl dX4_countSlips_138 ?_
  refine lv_iload_n hx hb dX4_countSlips_141 rfl (lv_at hl 1 rfl) ?_
  refine lv_bipush (v := 7) hx hb dX4_countSlips_142 (by decide) ?_
  refine lv_imul hx hb dX4_countSlips_144 ?_
  refine q_i (z := 0) (by decide) ?_
  refine lv_iload_n hx hb dX4_countSlips_145 rfl (lv_at hl 0 rfl) ?_
  refine lv_iadd hx hb dX4_countSlips_146 ?_
  refine q_i (z := 6) (by decide) ?_
  refine lv_iconst (v := 1) hx hb dX4_countSlips_147 (by decide) ?_
  refine lv_isub hx hb dX4_countSlips_148 ?_
  refine q_i (z := 5) (by decide) ?_
  refine va_iald hx hb hK hP 2 0 rfl rfl (vin (by decide)) dX4_countSlips_149 ?_
  refine q_i (z := 0) rfl ?_
  refine lv_iconst (v := 3) hx hb dX4_countSlips_150 (by decide) ?_
  refine lv_imul hx hb dX4_countSlips_151 ?_
  refine q_i (z := 0) (by decide) ?_
  refine lv_iconst (v := 4) hx hb dX4_countSlips_152 (by decide) ?_
  refine lv_idiv hx hb dX4_countSlips_153 (by decide) ?_
  refine q_i (z := 0) (by decide) ?_
  refine va_iast hx hb hK hP hD hS 2 0 rfl rfl (vin (by decide)) dX4_countSlips_154 (fun H locs hP hD hS => ?_)
  have hP : va_P D vwCl [(pr, .inr (4, [.int 0, .ref prw, .ref lft, .ref lea])), (nw, .inr (3, [.int 2, .int 0, .ref keys, .ref moms, .ref lens, .ref prts, .ref luds, .ref hnds, .ref lats, .ref knds, .ref rch, .ref spd, .int 0, .int 0, .int 0, .ref unN, .ref unH, .ref ptn])), (lft, .inl (cI, 56, .inl (upd (fun _ => 0) (6 : Int32).toNatClampNeg 0)))] H := hP
  have hD : va_D (va_A (w_countSlips cI cZ cP pr prw lft lea nw keys moms lens prts luds hnds lats knds rch spd unN unH ptn) sz) [(pr, .inr (4, [.int 0, .ref prw, .ref lft, .ref lea])), (nw, .inr (3, [.int 2, .int 0, .ref keys, .ref moms, .ref lens, .ref prts, .ref luds, .ref hnds, .ref lats, .ref knds, .ref rch, .ref spd, .int 0, .int 0, .int 0, .ref unN, .ref unH, .ref ptn])), (lft, .inl (cI, 56, .inl (upd (fun _ => 0) (6 : Int32).toNatClampNeg 0)))] := hD
  rw [upd_c] at hP hD
  have hP : va_P D vwCl [(pr, .inr (4, [.int 0, .ref prw, .ref lft, .ref lea])), (nw, .inr (3, [.int 2, .int 0, .ref keys, .ref moms, .ref lens, .ref prts, .ref luds, .ref hnds, .ref lats, .ref knds, .ref rch, .ref spd, .int 0, .int 0, .int 0, .ref unN, .ref unH, .ref ptn])), (lft, .inl (cI, 56, .inl (fun _ => 0)))] H := hP
  have hD : va_D (va_A (w_countSlips cI cZ cP pr prw lft lea nw keys moms lens prts luds hnds lats knds rch spd unN unH ptn) sz) [(pr, .inr (4, [.int 0, .ref prw, .ref lft, .ref lea])), (nw, .inr (3, [.int 2, .int 0, .ref keys, .ref moms, .ref lens, .ref prts, .ref luds, .ref hnds, .ref lats, .ref knds, .ref rch, .ref spd, .int 0, .int 0, .int 0, .ref unN, .ref unH, .ref ptn])), (lft, .inl (cI, 56, .inl (fun _ => 0)))] := hD
  refine lv_iinc (v := 7) (lv' := [(3, .int 7), (2, .int 0), (0, .ref pr), (1, .ref nw)]) hx hb dX4_countSlips_155 hl (k := 0) rfl (by decide) (by decide) rfl (fun ls hl => ?_)
  refine lv_goto (tgt := 121) hx hb dX4_countSlips_158 (by decide) ?_
  refine lv_iload_n hx hb dX4_countSlips_121 rfl (lv_at hl 0 rfl) ?_
  refine lv_bipush (v := 6) hx hb dX4_countSlips_122 (by decide) ?_
  refine lv_icmp_gt (tgt := 161) hx hb dX4_countSlips_124 (by decide) (fun _ => ?_) (fun c_10 => absurd (by decide) c_10)
  refine lv_iinc (v := 1) (lv' := [(2, .int 1), (3, .int 7), (0, .ref pr), (1, .ref nw)]) hx hb dX4_countSlips_161 hl (k := 1) rfl (by decide) (by decide) rfl (fun ls hl => ?_)
  refine lv_goto (tgt := 113) hx hb dX4_countSlips_164 (by decide) ?_
  refine lv_iload_n hx hb dX4_countSlips_113 rfl (lv_at hl 0 rfl) ?_
  refine lv_bipush (v := 8) hx hb dX4_countSlips_114 (by decide) ?_
  refine lv_icmp_ge (tgt := 167) hx hb dX4_countSlips_116 (by decide) (fun c_11 => absurd c_11 (by decide)) (fun _ => ?_)
  refine lv_iconst (v := 1) hx hb dX4_countSlips_119 (by decide) ?_
  refine lv_istore_n (lv' := [(3, .int 1), (2, .int 1), (0, .ref pr), (1, .ref nw)]) hx hb dX4_countSlips_120 rfl hl (by decide) rfl (fun ls hl => ?_)
  refine lv_iload_n hx hb dX4_countSlips_121 rfl (lv_at hl 0 rfl) ?_
  refine lv_bipush (v := 6) hx hb dX4_countSlips_122 (by decide) ?_
  refine lv_icmp_gt (tgt := 161) hx hb dX4_countSlips_124 (by decide) (fun c_12 => absurd c_12 (by decide)) (fun _ => ?_)
  refine lv_aload_n hx hb dX4_countSlips_127 rfl (lv_at hl 2 rfl) ?_
  refine va_get (D := D) (ci := 4) (v := .ref lft) (C := RX4) (T := TX4) (N := 4) hx hb ht inX4 hown hK hP 0 rfl rfl 2 (Nat.le_of_ble_eq_true rfl) (ht _ kw_326) (fun _ h9 => h9) rfl dX4_countSlips_128 ?_
  refine lv_iload_n hx hb dX4_countSlips_131 rfl (lv_at hl 1 rfl) ?_
  refine lv_bipush (v := 7) hx hb dX4_countSlips_132 (by decide) ?_
  refine lv_imul hx hb dX4_countSlips_134 ?_
  refine q_i (z := 7) (by decide) ?_
  refine lv_iload_n hx hb dX4_countSlips_135 rfl (lv_at hl 0 rfl) ?_
  refine lv_iadd hx hb dX4_countSlips_136 ?_
  refine q_i (z := 8) (by decide) ?_
  refine lv_aload_n hx hb dX4_countSlips_137 rfl (lv_at hl 2 rfl) ?_
  refine va_get (D := D) (ci := 4) (v := .ref lft) (C := RX4) (T := TX4) (N := 4) hx hb ht inX4 hown hK hP 0 rfl rfl 2 (Nat.le_of_ble_eq_true rfl) (ht _ kw_326) (fun _ h9 => h9) rfl dX4_countSlips_138 ?_
  refine lv_iload_n hx hb dX4_countSlips_141 rfl (lv_at hl 1 rfl) ?_
  refine lv_bipush (v := 7) hx hb dX4_countSlips_142 (by decide) ?_
  refine lv_imul hx hb dX4_countSlips_144 ?_
  refine q_i (z := 7) (by decide) ?_
  refine lv_iload_n hx hb dX4_countSlips_145 rfl (lv_at hl 0 rfl) ?_
  refine lv_iadd hx hb dX4_countSlips_146 ?_
  refine q_i (z := 8) (by decide) ?_
  refine lv_iconst (v := 1) hx hb dX4_countSlips_147 (by decide) ?_
  refine lv_isub hx hb dX4_countSlips_148 ?_
  refine q_i (z := 7) (by decide) ?_
  refine va_iald hx hb hK hP 2 0 rfl rfl (vin (by decide)) dX4_countSlips_149 ?_
  refine q_i (z := 0) rfl ?_
  refine lv_iconst (v := 3) hx hb dX4_countSlips_150 (by decide) ?_
  refine lv_imul hx hb dX4_countSlips_151 ?_
  refine q_i (z := 0) (by decide) ?_
  refine lv_iconst (v := 4) hx hb dX4_countSlips_152 (by decide) ?_
  refine lv_idiv hx hb dX4_countSlips_153 (by decide) ?_
  refine q_i (z := 0) (by decide) ?_
  refine va_iast hx hb hK hP hD hS 2 0 rfl rfl (vin (by decide)) dX4_countSlips_154 (fun H locs hP hD hS => ?_)
  have hP : va_P D vwCl [(pr, .inr (4, [.int 0, .ref prw, .ref lft, .ref lea])), (nw, .inr (3, [.int 2, .int 0, .ref keys, .ref moms, .ref lens, .ref prts, .ref luds, .ref hnds, .ref lats, .ref knds, .ref rch, .ref spd, .int 0, .int 0, .int 0, .ref unN, .ref unH, .ref ptn])), (lft, .inl (cI, 56, .inl (upd (fun _ => 0) (8 : Int32).toNatClampNeg 0)))] H := hP
  have hD : va_D (va_A (w_countSlips cI cZ cP pr prw lft lea nw keys moms lens prts luds hnds lats knds rch spd unN unH ptn) sz) [(pr, .inr (4, [.int 0, .ref prw, .ref lft, .ref lea])), (nw, .inr (3, [.int 2, .int 0, .ref keys, .ref moms, .ref lens, .ref prts, .ref luds, .ref hnds, .ref lats, .ref knds, .ref rch, .ref spd, .int 0, .int 0, .int 0, .ref unN, .ref unH, .ref ptn])), (lft, .inl (cI, 56, .inl (upd (fun _ => 0) (8 : Int32).toNatClampNeg 0)))] := hD
  rw [upd_c] at hP hD
  have hP : va_P D vwCl [(pr, .inr (4, [.int 0, .ref prw, .ref lft, .ref lea])), (nw, .inr (3, [.int 2, .int 0, .ref keys, .ref moms, .ref lens, .ref prts, .ref luds, .ref hnds, .ref lats, .ref knds, .ref rch, .ref spd, .int 0, .int 0, .int 0, .ref unN, .ref unH, .ref ptn])), (lft, .inl (cI, 56, .inl (fun _ => 0)))] H := hP
  have hD : va_D (va_A (w_countSlips cI cZ cP pr prw lft lea nw keys moms lens prts luds hnds lats knds rch spd unN unH ptn) sz) [(pr, .inr (4, [.int 0, .ref prw, .ref lft, .ref lea])), (nw, .inr (3, [.int 2, .int 0, .ref keys, .ref moms, .ref lens, .ref prts, .ref luds, .ref hnds, .ref lats, .ref knds, .ref rch, .ref spd, .int 0, .int 0, .int 0, .ref unN, .ref unH, .ref ptn])), (lft, .inl (cI, 56, .inl (fun _ => 0)))] := hD
  refine lv_iinc (v := 2) (lv' := [(3, .int 2), (2, .int 1), (0, .ref pr), (1, .ref nw)]) hx hb dX4_countSlips_155 hl (k := 0) rfl (by decide) (by decide) rfl (fun ls hl => ?_)
  refine lv_goto (tgt := 121) hx hb dX4_countSlips_158 (by decide) ?_
  refine lv_iload_n hx hb dX4_countSlips_121 rfl (lv_at hl 0 rfl) ?_
  refine lv_bipush (v := 6) hx hb dX4_countSlips_122 (by decide) ?_
  refine lv_icmp_gt (tgt := 161) hx hb dX4_countSlips_124 (by decide) (fun c_13 => absurd c_13 (by decide)) (fun _ => ?_)
  refine lv_aload_n hx hb dX4_countSlips_127 rfl (lv_at hl 2 rfl) ?_
  refine va_get (D := D) (ci := 4) (v := .ref lft) (C := RX4) (T := TX4) (N := 4) hx hb ht inX4 hown hK hP 0 rfl rfl 2 (Nat.le_of_ble_eq_true rfl) (ht _ kw_326) (fun _ h9 => h9) rfl dX4_countSlips_128 ?_
  refine lv_iload_n hx hb dX4_countSlips_131 rfl (lv_at hl 1 rfl) ?_
  refine lv_bipush (v := 7) hx hb dX4_countSlips_132 (by decide) ?_
  refine lv_imul hx hb dX4_countSlips_134 ?_
  refine q_i (z := 7) (by decide) ?_
  refine lv_iload_n hx hb dX4_countSlips_135 rfl (lv_at hl 0 rfl) ?_
  refine lv_iadd hx hb dX4_countSlips_136 ?_
  refine q_i (z := 9) (by decide) ?_
  refine lv_aload_n hx hb dX4_countSlips_137 rfl (lv_at hl 2 rfl) ?_
  refine va_get (D := D) (ci := 4) (v := .ref lft) (C := RX4) (T := TX4) (N := 4) hx hb ht inX4 hown hK hP 0 rfl rfl 2 (Nat.le_of_ble_eq_true rfl) (ht _ kw_326) (fun _ h9 => h9) rfl dX4_countSlips_138 ?_
  refine lv_iload_n hx hb dX4_countSlips_141 rfl (lv_at hl 1 rfl) ?_
  refine lv_bipush (v := 7) hx hb dX4_countSlips_142 (by decide) ?_
  refine lv_imul hx hb dX4_countSlips_144 ?_
  refine q_i (z := 7) (by decide) ?_
  refine lv_iload_n hx hb dX4_countSlips_145 rfl (lv_at hl 0 rfl) ?_
  refine lv_iadd hx hb dX4_countSlips_146 ?_
  refine q_i (z := 9) (by decide) ?_
  refine lv_iconst (v := 1) hx hb dX4_countSlips_147 (by decide) ?_
  refine lv_isub hx hb dX4_countSlips_148 ?_
  refine q_i (z := 8) (by decide) ?_
  refine va_iald hx hb hK hP 2 0 rfl rfl (vin (by decide)) dX4_countSlips_149 ?_
  refine q_i (z := 0) rfl ?_
  refine lv_iconst (v := 3) hx hb dX4_countSlips_150 (by decide) ?_
  refine lv_imul hx hb dX4_countSlips_151 ?_
  refine q_i (z := 0) (by decide) ?_
  refine lv_iconst (v := 4) hx hb dX4_countSlips_152 (by decide) ?_
  refine lv_idiv hx hb dX4_countSlips_153 (by decide) ?_
  refine q_i (z := 0) (by decide) ?_
  refine va_iast hx hb hK hP hD hS 2 0 rfl rfl (vin (by decide)) dX4_countSlips_154 (fun H locs hP hD hS => ?_)
  have hP : va_P D vwCl [(pr, .inr (4, [.int 0, .ref prw, .ref lft, .ref lea])), (nw, .inr (3, [.int 2, .int 0, .ref keys, .ref moms, .ref lens, .ref prts, .ref luds, .ref hnds, .ref lats, .ref knds, .ref rch, .ref spd, .int 0, .int 0, .int 0, .ref unN, .ref unH, .ref ptn])), (lft, .inl (cI, 56, .inl (upd (fun _ => 0) (9 : Int32).toNatClampNeg 0)))] H := hP
  have hD : va_D (va_A (w_countSlips cI cZ cP pr prw lft lea nw keys moms lens prts luds hnds lats knds rch spd unN unH ptn) sz) [(pr, .inr (4, [.int 0, .ref prw, .ref lft, .ref lea])), (nw, .inr (3, [.int 2, .int 0, .ref keys, .ref moms, .ref lens, .ref prts, .ref luds, .ref hnds, .ref lats, .ref knds, .ref rch, .ref spd, .int 0, .int 0, .int 0, .ref unN, .ref unH, .ref ptn])), (lft, .inl (cI, 56, .inl (upd (fun _ => 0) (9 : Int32).toNatClampNeg 0)))] := hD
  rw [upd_c] at hP hD
  have hP : va_P D vwCl [(pr, .inr (4, [.int 0, .ref prw, .ref lft, .ref lea])), (nw, .inr (3, [.int 2, .int 0, .ref keys, .ref moms, .ref lens, .ref prts, .ref luds, .ref hnds, .ref lats, .ref knds, .ref rch, .ref spd, .int 0, .int 0, .int 0, .ref unN, .ref unH, .ref ptn])), (lft, .inl (cI, 56, .inl (fun _ => 0)))] H := hP
  have hD : va_D (va_A (w_countSlips cI cZ cP pr prw lft lea nw keys moms lens prts luds hnds lats knds rch spd unN unH ptn) sz) [(pr, .inr (4, [.int 0, .ref prw, .ref lft, .ref lea])), (nw, .inr (3, [.int 2, .int 0, .ref keys, .ref moms, .ref lens, .ref prts, .ref luds, .ref hnds, .ref lats, .ref knds, .ref rch, .ref spd, .int 0, .int 0, .int 0, .ref unN, .ref unH, .ref ptn])), (lft, .inl (cI, 56, .inl (fun _ => 0)))] := hD
  refine lv_iinc (v := 3) (lv' := [(3, .int 3), (2, .int 1), (0, .ref pr), (1, .ref nw)]) hx hb dX4_countSlips_155 hl (k := 0) rfl (by decide) (by decide) rfl (fun ls hl => ?_)
  refine lv_goto (tgt := 121) hx hb dX4_countSlips_158 (by decide) ?_
  refine lv_iload_n hx hb dX4_countSlips_121 rfl (lv_at hl 0 rfl) ?_
  refine lv_bipush (v := 6) hx hb dX4_countSlips_122 (by decide) ?_
  refine lv_icmp_gt (tgt := 161) hx hb dX4_countSlips_124 (by decide) (fun c_14 => absurd c_14 (by decide)) (fun _ => ?_)
  refine lv_aload_n hx hb dX4_countSlips_127 rfl (lv_at hl 2 rfl) ?_
  refine va_get (D := D) (ci := 4) (v := .ref lft) (C := RX4) (T := TX4) (N := 4) hx hb ht inX4 hown hK hP 0 rfl rfl 2 (Nat.le_of_ble_eq_true rfl) (ht _ kw_326) (fun _ h9 => h9) rfl dX4_countSlips_128 ?_
  refine lv_iload_n hx hb dX4_countSlips_131 rfl (lv_at hl 1 rfl) ?_
  refine lv_bipush (v := 7) hx hb dX4_countSlips_132 (by decide) ?_
  refine lv_imul hx hb dX4_countSlips_134 ?_
  refine q_i (z := 7) (by decide) ?_
  refine lv_iload_n hx hb dX4_countSlips_135 rfl (lv_at hl 0 rfl) ?_
  refine lv_iadd hx hb dX4_countSlips_136 ?_
  refine q_i (z := 10) (by decide) ?_
  refine lv_aload_n hx hb dX4_countSlips_137 rfl (lv_at hl 2 rfl) ?_
  refine va_get (D := D) (ci := 4) (v := .ref lft) (C := RX4) (T := TX4) (N := 4) hx hb ht inX4 hown hK hP 0 rfl rfl 2 (Nat.le_of_ble_eq_true rfl) (ht _ kw_326) (fun _ h9 => h9) rfl dX4_countSlips_138 ?_
  refine lv_iload_n hx hb dX4_countSlips_141 rfl (lv_at hl 1 rfl) ?_
  refine lv_bipush (v := 7) hx hb dX4_countSlips_142 (by decide) ?_
  refine lv_imul hx hb dX4_countSlips_144 ?_
  refine q_i (z := 7) (by decide) ?_
  refine lv_iload_n hx hb dX4_countSlips_145 rfl (lv_at hl 0 rfl) ?_
  refine lv_iadd hx hb dX4_countSlips_146 ?_
  refine q_i (z := 10) (by decide) ?_
  refine lv_iconst (v := 1) hx hb dX4_countSlips_147 (by decide) ?_
  refine lv_isub hx hb dX4_countSlips_148 ?_
  refine q_i (z := 9) (by decide) ?_
  refine va_iald hx hb hK hP 2 0 rfl rfl (vin (by decide)) dX4_countSlips_149 ?_
  refine q_i (z := 0) rfl ?_
  refine lv_iconst (v := 3) hx hb dX4_countSlips_150 (by decide) ?_
  refine lv_imul hx hb dX4_countSlips_151 ?_
  refine q_i (z := 0) (by decide) ?_
  refine lv_iconst (v := 4) hx hb dX4_countSlips_152 (by decide) ?_
  refine lv_idiv hx hb dX4_countSlips_153 (by decide) ?_
  refine q_i (z := 0) (by decide) ?_
  refine va_iast hx hb hK hP hD hS 2 0 rfl rfl (vin (by decide)) dX4_countSlips_154 (fun H locs hP hD hS => ?_)
  have hP : va_P D vwCl [(pr, .inr (4, [.int 0, .ref prw, .ref lft, .ref lea])), (nw, .inr (3, [.int 2, .int 0, .ref keys, .ref moms, .ref lens, .ref prts, .ref luds, .ref hnds, .ref lats, .ref knds, .ref rch, .ref spd, .int 0, .int 0, .int 0, .ref unN, .ref unH, .ref ptn])), (lft, .inl (cI, 56, .inl (upd (fun _ => 0) (10 : Int32).toNatClampNeg 0)))] H := hP
  have hD : va_D (va_A (w_countSlips cI cZ cP pr prw lft lea nw keys moms lens prts luds hnds lats knds rch spd unN unH ptn) sz) [(pr, .inr (4, [.int 0, .ref prw, .ref lft, .ref lea])), (nw, .inr (3, [.int 2, .int 0, .ref keys, .ref moms, .ref lens, .ref prts, .ref luds, .ref hnds, .ref lats, .ref knds, .ref rch, .ref spd, .int 0, .int 0, .int 0, .ref unN, .ref unH, .ref ptn])), (lft, .inl (cI, 56, .inl (upd (fun _ => 0) (10 : Int32).toNatClampNeg 0)))] := hD
  rw [upd_c] at hP hD
  have hP : va_P D vwCl [(pr, .inr (4, [.int 0, .ref prw, .ref lft, .ref lea])), (nw, .inr (3, [.int 2, .int 0, .ref keys, .ref moms, .ref lens, .ref prts, .ref luds, .ref hnds, .ref lats, .ref knds, .ref rch, .ref spd, .int 0, .int 0, .int 0, .ref unN, .ref unH, .ref ptn])), (lft, .inl (cI, 56, .inl (fun _ => 0)))] H := hP
  have hD : va_D (va_A (w_countSlips cI cZ cP pr prw lft lea nw keys moms lens prts luds hnds lats knds rch spd unN unH ptn) sz) [(pr, .inr (4, [.int 0, .ref prw, .ref lft, .ref lea])), (nw, .inr (3, [.int 2, .int 0, .ref keys, .ref moms, .ref lens, .ref prts, .ref luds, .ref hnds, .ref lats, .ref knds, .ref rch, .ref spd, .int 0, .int 0, .int 0, .ref unN, .ref unH, .ref ptn])), (lft, .inl (cI, 56, .inl (fun _ => 0)))] := hD
  refine lv_iinc (v := 4) (lv' := [(3, .int 4), (2, .int 1), (0, .ref pr), (1, .ref nw)]) hx hb dX4_countSlips_155 hl (k := 0) rfl (by decide) (by decide) rfl (fun ls hl => ?_)
  refine lv_goto (tgt := 121) hx hb dX4_countSlips_158 (by decide) ?_
  refine lv_iload_n hx hb dX4_countSlips_121 rfl (lv_at hl 0 rfl) ?_
  refine lv_bipush (v := 6) hx hb dX4_countSlips_122 (by decide) ?_
  refine lv_icmp_gt (tgt := 161) hx hb dX4_countSlips_124 (by decide) (fun c_15 => absurd c_15 (by decide)) (fun _ => ?_)
  refine lv_aload_n hx hb dX4_countSlips_127 rfl (lv_at hl 2 rfl) ?_
  refine va_get (D := D) (ci := 4) (v := .ref lft) (C := RX4) (T := TX4) (N := 4) hx hb ht inX4 hown hK hP 0 rfl rfl 2 (Nat.le_of_ble_eq_true rfl) (ht _ kw_326) (fun _ h9 => h9) rfl dX4_countSlips_128 ?_
  refine lv_iload_n hx hb dX4_countSlips_131 rfl (lv_at hl 1 rfl) ?_
  refine lv_bipush (v := 7) hx hb dX4_countSlips_132 (by decide) ?_
  refine lv_imul hx hb dX4_countSlips_134 ?_
  refine q_i (z := 7) (by decide) ?_
  refine lv_iload_n hx hb dX4_countSlips_135 rfl (lv_at hl 0 rfl) ?_
  refine lv_iadd hx hb dX4_countSlips_136 ?_
  refine q_i (z := 11) (by decide) ?_
  refine lv_aload_n hx hb dX4_countSlips_137 rfl (lv_at hl 2 rfl) ?_
  refine va_get (D := D) (ci := 4) (v := .ref lft) (C := RX4) (T := TX4) (N := 4) hx hb ht inX4 hown hK hP 0 rfl rfl 2 (Nat.le_of_ble_eq_true rfl) (ht _ kw_326) (fun _ h9 => h9) rfl dX4_countSlips_138 ?_
  refine lv_iload_n hx hb dX4_countSlips_141 rfl (lv_at hl 1 rfl) ?_
  refine lv_bipush (v := 7) hx hb dX4_countSlips_142 (by decide) ?_
  refine lv_imul hx hb dX4_countSlips_144 ?_
  refine q_i (z := 7) (by decide) ?_
  refine lv_iload_n hx hb dX4_countSlips_145 rfl (lv_at hl 0 rfl) ?_
  refine lv_iadd hx hb dX4_countSlips_146 ?_
  refine q_i (z := 11) (by decide) ?_
  refine lv_iconst (v := 1) hx hb dX4_countSlips_147 (by decide) ?_
  refine lv_isub hx hb dX4_countSlips_148 ?_
  refine q_i (z := 10) (by decide) ?_
  refine va_iald hx hb hK hP 2 0 rfl rfl (vin (by decide)) dX4_countSlips_149 ?_
  refine q_i (z := 0) rfl ?_
  refine lv_iconst (v := 3) hx hb dX4_countSlips_150 (by decide) ?_
  refine lv_imul hx hb dX4_countSlips_151 ?_
  refine q_i (z := 0) (by decide) ?_
  refine lv_iconst (v := 4) hx hb dX4_countSlips_152 (by decide) ?_
  refine lv_idiv hx hb dX4_countSlips_153 (by decide) ?_
  refine q_i (z := 0) (by decide) ?_
  refine va_iast hx hb hK hP hD hS 2 0 rfl rfl (vin (by decide)) dX4_countSlips_154 (fun H locs hP hD hS => ?_)
  have hP : va_P D vwCl [(pr, .inr (4, [.int 0, .ref prw, .ref lft, .ref lea])), (nw, .inr (3, [.int 2, .int 0, .ref keys, .ref moms, .ref lens, .ref prts, .ref luds, .ref hnds, .ref lats, .ref knds, .ref rch, .ref spd, .int 0, .int 0, .int 0, .ref unN, .ref unH, .ref ptn])), (lft, .inl (cI, 56, .inl (upd (fun _ => 0) (11 : Int32).toNatClampNeg 0)))] H := hP
  have hD : va_D (va_A (w_countSlips cI cZ cP pr prw lft lea nw keys moms lens prts luds hnds lats knds rch spd unN unH ptn) sz) [(pr, .inr (4, [.int 0, .ref prw, .ref lft, .ref lea])), (nw, .inr (3, [.int 2, .int 0, .ref keys, .ref moms, .ref lens, .ref prts, .ref luds, .ref hnds, .ref lats, .ref knds, .ref rch, .ref spd, .int 0, .int 0, .int 0, .ref unN, .ref unH, .ref ptn])), (lft, .inl (cI, 56, .inl (upd (fun _ => 0) (11 : Int32).toNatClampNeg 0)))] := hD
  rw [upd_c] at hP hD
  have hP : va_P D vwCl [(pr, .inr (4, [.int 0, .ref prw, .ref lft, .ref lea])), (nw, .inr (3, [.int 2, .int 0, .ref keys, .ref moms, .ref lens, .ref prts, .ref luds, .ref hnds, .ref lats, .ref knds, .ref rch, .ref spd, .int 0, .int 0, .int 0, .ref unN, .ref unH, .ref ptn])), (lft, .inl (cI, 56, .inl (fun _ => 0)))] H := hP
  have hD : va_D (va_A (w_countSlips cI cZ cP pr prw lft lea nw keys moms lens prts luds hnds lats knds rch spd unN unH ptn) sz) [(pr, .inr (4, [.int 0, .ref prw, .ref lft, .ref lea])), (nw, .inr (3, [.int 2, .int 0, .ref keys, .ref moms, .ref lens, .ref prts, .ref luds, .ref hnds, .ref lats, .ref knds, .ref rch, .ref spd, .int 0, .int 0, .int 0, .ref unN, .ref unH, .ref ptn])), (lft, .inl (cI, 56, .inl (fun _ => 0)))] := hD
  refine lv_iinc (v := 5) (lv' := [(3, .int 5), (2, .int 1), (0, .ref pr), (1, .ref nw)]) hx hb dX4_countSlips_155 hl (k := 0) rfl (by decide) (by decide) rfl (fun ls hl => ?_)
  refine lv_goto (tgt := 121) hx hb dX4_countSlips_158 (by decide) ?_
  refine lv_iload_n hx hb dX4_countSlips_121 rfl (lv_at hl 0 rfl) ?_
  refine lv_bipush (v := 6) hx hb dX4_countSlips_122 (by decide) ?_
  refine lv_icmp_gt (tgt := 161) hx hb dX4_countSlips_124 (by decide) (fun c_16 => absurd c_16 (by decide)) (fun _ => ?_)
  refine lv_aload_n hx hb dX4_countSlips_127 rfl (lv_at hl 2 rfl) ?_
  refine va_get (D := D) (ci := 4) (v := .ref lft) (C := RX4) (T := TX4) (N := 4) hx hb ht inX4 hown hK hP 0 rfl rfl 2 (Nat.le_of_ble_eq_true rfl) (ht _ kw_326) (fun _ h9 => h9) rfl dX4_countSlips_128 ?_
  refine lv_iload_n hx hb dX4_countSlips_131 rfl (lv_at hl 1 rfl) ?_
  refine lv_bipush (v := 7) hx hb dX4_countSlips_132 (by decide) ?_
  refine lv_imul hx hb dX4_countSlips_134 ?_
  refine q_i (z := 7) (by decide) ?_
  refine lv_iload_n hx hb dX4_countSlips_135 rfl (lv_at hl 0 rfl) ?_
  refine lv_iadd hx hb dX4_countSlips_136 ?_
  refine q_i (z := 12) (by decide) ?_
  refine lv_aload_n hx hb dX4_countSlips_137 rfl (lv_at hl 2 rfl) ?_
  refine va_get (D := D) (ci := 4) (v := .ref lft) (C := RX4) (T := TX4) (N := 4) hx hb ht inX4 hown hK hP 0 rfl rfl 2 (Nat.le_of_ble_eq_true rfl) (ht _ kw_326) (fun _ h9 => h9) rfl dX4_countSlips_138 ?_
  refine lv_iload_n hx hb dX4_countSlips_141 rfl (lv_at hl 1 rfl) ?_
  refine lv_bipush (v := 7) hx hb dX4_countSlips_142 (by decide) ?_
  refine lv_imul hx hb dX4_countSlips_144 ?_
  refine q_i (z := 7) (by decide) ?_
  refine lv_iload_n hx hb dX4_countSlips_145 rfl (lv_at hl 0 rfl) ?_
  refine lv_iadd hx hb dX4_countSlips_146 ?_
  refine q_i (z := 12) (by decide) ?_
  refine lv_iconst (v := 1) hx hb dX4_countSlips_147 (by decide) ?_
  refine lv_isub hx hb dX4_countSlips_148 ?_
  refine q_i (z := 11) (by decide) ?_
  refine va_iald hx hb hK hP 2 0 rfl rfl (vin (by decide)) dX4_countSlips_149 ?_
  refine q_i (z := 0) rfl ?_
  refine lv_iconst (v := 3) hx hb dX4_countSlips_150 (by decide) ?_
  refine lv_imul hx hb dX4_countSlips_151 ?_
  refine q_i (z := 0) (by decide) ?_
  refine lv_iconst (v := 4) hx hb dX4_countSlips_152 (by decide) ?_
  refine lv_idiv hx hb dX4_countSlips_153 (by decide) ?_
  refine q_i (z := 0) (by decide) ?_
  refine va_iast hx hb hK hP hD hS 2 0 rfl rfl (vin (by decide)) dX4_countSlips_154 (fun H locs hP hD hS => ?_)
  have hP : va_P D vwCl [(pr, .inr (4, [.int 0, .ref prw, .ref lft, .ref lea])), (nw, .inr (3, [.int 2, .int 0, .ref keys, .ref moms, .ref lens, .ref prts, .ref luds, .ref hnds, .ref lats, .ref knds, .ref rch, .ref spd, .int 0, .int 0, .int 0, .ref unN, .ref unH, .ref ptn])), (lft, .inl (cI, 56, .inl (upd (fun _ => 0) (12 : Int32).toNatClampNeg 0)))] H := hP
  have hD : va_D (va_A (w_countSlips cI cZ cP pr prw lft lea nw keys moms lens prts luds hnds lats knds rch spd unN unH ptn) sz) [(pr, .inr (4, [.int 0, .ref prw, .ref lft, .ref lea])), (nw, .inr (3, [.int 2, .int 0, .ref keys, .ref moms, .ref lens, .ref prts, .ref luds, .ref hnds, .ref lats, .ref knds, .ref rch, .ref spd, .int 0, .int 0, .int 0, .ref unN, .ref unH, .ref ptn])), (lft, .inl (cI, 56, .inl (upd (fun _ => 0) (12 : Int32).toNatClampNeg 0)))] := hD
  rw [upd_c] at hP hD
  have hP : va_P D vwCl [(pr, .inr (4, [.int 0, .ref prw, .ref lft, .ref lea])), (nw, .inr (3, [.int 2, .int 0, .ref keys, .ref moms, .ref lens, .ref prts, .ref luds, .ref hnds, .ref lats, .ref knds, .ref rch, .ref spd, .int 0, .int 0, .int 0, .ref unN, .ref unH, .ref ptn])), (lft, .inl (cI, 56, .inl (fun _ => 0)))] H := hP
  have hD : va_D (va_A (w_countSlips cI cZ cP pr prw lft lea nw keys moms lens prts luds hnds lats knds rch spd unN unH ptn) sz) [(pr, .inr (4, [.int 0, .ref prw, .ref lft, .ref lea])), (nw, .inr (3, [.int 2, .int 0, .ref keys, .ref moms, .ref lens, .ref prts, .ref luds, .ref hnds, .ref lats, .ref knds, .ref rch, .ref spd, .int 0, .int 0, .int 0, .ref unN, .ref unH, .ref ptn])), (lft, .inl (cI, 56, .inl (fun _ => 0)))] := hD
  refine lv_iinc (v := 6) (lv' := [(3, .int 6), (2, .int 1), (0, .ref pr), (1, .ref nw)]) hx hb dX4_countSlips_155 hl (k := 0) rfl (by decide) (by decide) rfl (fun ls hl => ?_)
  refine lv_goto (tgt := 121) hx hb dX4_countSlips_158 (by decide) ?_
  refine lv_iload_n hx hb dX4_countSlips_121 rfl (lv_at hl 0 rfl) ?_
  refine lv_bipush (v := 6) hx hb dX4_countSlips_122 (by decide) ?_
  refine lv_icmp_gt (tgt := 161) hx hb dX4_countSlips_124 (by decide) (fun c_17 => absurd c_17 (by decide)) (fun _ => ?_)
  refine lv_aload_n hx hb dX4_countSlips_127 rfl (lv_at hl 2 rfl) ?_
  refine va_get (D := D) (ci := 4) (v := .ref lft) (C := RX4) (T := TX4) (N := 4) hx hb ht inX4 hown hK hP 0 rfl rfl 2 (Nat.le_of_ble_eq_true rfl) (ht _ kw_326) (fun _ h9 => h9) rfl dX4_countSlips_128 ?_
  refine lv_iload_n hx hb dX4_countSlips_131 rfl (lv_at hl 1 rfl) ?_
  refine lv_bipush (v := 7) hx hb dX4_countSlips_132 (by decide) ?_
  refine lv_imul hx hb dX4_countSlips_134 ?_
  refine q_i (z := 7) (by decide) ?_
  refine lv_iload_n hx hb dX4_countSlips_135 rfl (lv_at hl 0 rfl) ?_
  refine lv_iadd hx hb dX4_countSlips_136 ?_
  refine q_i (z := 13) (by decide) ?_
  refine lv_aload_n hx hb dX4_countSlips_137 rfl (lv_at hl 2 rfl) ?_
  refine va_get (D := D) (ci := 4) (v := .ref lft) (C := RX4) (T := TX4) (N := 4) hx hb ht inX4 hown hK hP 0 rfl rfl 2 (Nat.le_of_ble_eq_true rfl) (ht _ kw_326) (fun _ h9 => h9) rfl dX4_countSlips_138 ?_
  refine lv_iload_n hx hb dX4_countSlips_141 rfl (lv_at hl 1 rfl) ?_
  refine lv_bipush (v := 7) hx hb dX4_countSlips_142 (by decide) ?_
  refine lv_imul hx hb dX4_countSlips_144 ?_
  refine q_i (z := 7) (by decide) ?_
  refine lv_iload_n hx hb dX4_countSlips_145 rfl (lv_at hl 0 rfl) ?_
  refine lv_iadd hx hb dX4_countSlips_146 ?_
  refine q_i (z := 13) (by decide) ?_
  refine lv_iconst (v := 1) hx hb dX4_countSlips_147 (by decide) ?_
  refine lv_isub hx hb dX4_countSlips_148 ?_
  refine q_i (z := 12) (by decide) ?_
  refine va_iald hx hb hK hP 2 0 rfl rfl (vin (by decide)) dX4_countSlips_149 ?_
  refine q_i (z := 0) rfl ?_
  refine lv_iconst (v := 3) hx hb dX4_countSlips_150 (by decide) ?_
  refine lv_imul hx hb dX4_countSlips_151 ?_
  refine q_i (z := 0) (by decide) ?_
  refine lv_iconst (v := 4) hx hb dX4_countSlips_152 (by decide) ?_
  refine lv_idiv hx hb dX4_countSlips_153 (by decide) ?_
  refine q_i (z := 0) (by decide) ?_
  refine va_iast hx hb hK hP hD hS 2 0 rfl rfl (vin (by decide)) dX4_countSlips_154 (fun H locs hP hD hS => ?_)
  have hP : va_P D vwCl [(pr, .inr (4, [.int 0, .ref prw, .ref lft, .ref lea])), (nw, .inr (3, [.int 2, .int 0, .ref keys, .ref moms, .ref lens, .ref prts, .ref luds, .ref hnds, .ref lats, .ref knds, .ref rch, .ref spd, .int 0, .int 0, .int 0, .ref unN, .ref unH, .ref ptn])), (lft, .inl (cI, 56, .inl (upd (fun _ => 0) (13 : Int32).toNatClampNeg 0)))] H := hP
  have hD : va_D (va_A (w_countSlips cI cZ cP pr prw lft lea nw keys moms lens prts luds hnds lats knds rch spd unN unH ptn) sz) [(pr, .inr (4, [.int 0, .ref prw, .ref lft, .ref lea])), (nw, .inr (3, [.int 2, .int 0, .ref keys, .ref moms, .ref lens, .ref prts, .ref luds, .ref hnds, .ref lats, .ref knds, .ref rch, .ref spd, .int 0, .int 0, .int 0, .ref unN, .ref unH, .ref ptn])), (lft, .inl (cI, 56, .inl (upd (fun _ => 0) (13 : Int32).toNatClampNeg 0)))] := hD
  rw [upd_c] at hP hD
  have hP : va_P D vwCl [(pr, .inr (4, [.int 0, .ref prw, .ref lft, .ref lea])), (nw, .inr (3, [.int 2, .int 0, .ref keys, .ref moms, .ref lens, .ref prts, .ref luds, .ref hnds, .ref lats, .ref knds, .ref rch, .ref spd, .int 0, .int 0, .int 0, .ref unN, .ref unH, .ref ptn])), (lft, .inl (cI, 56, .inl (fun _ => 0)))] H := hP
  have hD : va_D (va_A (w_countSlips cI cZ cP pr prw lft lea nw keys moms lens prts luds hnds lats knds rch spd unN unH ptn) sz) [(pr, .inr (4, [.int 0, .ref prw, .ref lft, .ref lea])), (nw, .inr (3, [.int 2, .int 0, .ref keys, .ref moms, .ref lens, .ref prts, .ref luds, .ref hnds, .ref lats, .ref knds, .ref rch, .ref spd, .int 0, .int 0, .int 0, .ref unN, .ref unH, .ref ptn])), (lft, .inl (cI, 56, .inl (fun _ => 0)))] := hD
  refine lv_iinc (v := 7) (lv' := [(3, .int 7), (2, .int 1), (0, .ref pr), (1, .ref nw)]) hx hb dX4_countSlips_155 hl (k := 0) rfl (by decide) (by decide) rfl (fun ls hl => ?_)
  refine lv_goto (tgt := 121) hx hb dX4_countSlips_158 (by decide) ?_
  refine lv_iload_n hx hb dX4_countSlips_121 rfl (lv_at hl 0 rfl) ?_
  refine lv_bipush (v := 6) hx hb dX4_countSlips_122 (by decide) ?_
  refine lv_icmp_gt (tgt := 161) hx hb dX4_countSlips_124 (by decide) (fun _ => ?_) (fun c_18 => absurd (by decide) c_18)
  refine lv_iinc (v := 2) (lv' := [(2, .int 2), (3, .int 7), (0, .ref pr), (1, .ref nw)]) hx hb dX4_countSlips_161 hl (k := 1) rfl (by decide) (by decide) rfl (fun ls hl => ?_)
  refine lv_goto (tgt := 113) hx hb dX4_countSlips_164 (by decide) ?_
  refine lv_iload_n hx hb dX4_countSlips_113 rfl (lv_at hl 0 rfl) ?_
  refine lv_bipush (v := 8) hx hb dX4_countSlips_114 (by decide) ?_
  refine lv_icmp_ge (tgt := 167) hx hb dX4_countSlips_116 (by decide) (fun c_19 => absurd c_19 (by decide)) (fun _ => ?_)
  refine lv_iconst (v := 1) hx hb dX4_countSlips_119 (by decide) ?_
  refine lv_istore_n (lv' := [(3, .int 1), (2, .int 2), (0, .ref pr), (1, .ref nw)]) hx hb dX4_countSlips_120 rfl hl (by decide) rfl (fun ls hl => ?_)
  refine lv_iload_n hx hb dX4_countSlips_121 rfl (lv_at hl 0 rfl) ?_
  refine lv_bipush (v := 6) hx hb dX4_countSlips_122 (by decide) ?_
  refine lv_icmp_gt (tgt := 161) hx hb dX4_countSlips_124 (by decide) (fun c_20 => absurd c_20 (by decide)) (fun _ => ?_)
  refine lv_aload_n hx hb dX4_countSlips_127 rfl (lv_at hl 2 rfl) ?_
  refine va_get (D := D) (ci := 4) (v := .ref lft) (C := RX4) (T := TX4) (N := 4) hx hb ht inX4 hown hK hP 0 rfl rfl 2 (Nat.le_of_ble_eq_true rfl) (ht _ kw_326) (fun _ h9 => h9) rfl dX4_countSlips_128 ?_
  refine lv_iload_n hx hb dX4_countSlips_131 rfl (lv_at hl 1 rfl) ?_
  refine lv_bipush (v := 7) hx hb dX4_countSlips_132 (by decide) ?_
  refine lv_imul hx hb dX4_countSlips_134 ?_
  refine q_i (z := 14) (by decide) ?_
  refine lv_iload_n hx hb dX4_countSlips_135 rfl (lv_at hl 0 rfl) ?_
  refine lv_iadd hx hb dX4_countSlips_136 ?_
  refine q_i (z := 15) (by decide) ?_
  refine lv_aload_n hx hb dX4_countSlips_137 rfl (lv_at hl 2 rfl) ?_
  refine va_get (D := D) (ci := 4) (v := .ref lft) (C := RX4) (T := TX4) (N := 4) hx hb ht inX4 hown hK hP 0 rfl rfl 2 (Nat.le_of_ble_eq_true rfl) (ht _ kw_326) (fun _ h9 => h9) rfl dX4_countSlips_138 ?_
  refine lv_iload_n hx hb dX4_countSlips_141 rfl (lv_at hl 1 rfl) ?_
  refine lv_bipush (v := 7) hx hb dX4_countSlips_142 (by decide) ?_
  refine lv_imul hx hb dX4_countSlips_144 ?_
  refine q_i (z := 14) (by decide) ?_
  refine lv_iload_n hx hb dX4_countSlips_145 rfl (lv_at hl 0 rfl) ?_
  refine lv_iadd hx hb dX4_countSlips_146 ?_
  refine q_i (z := 15) (by decide) ?_
  refine lv_iconst (v := 1) hx hb dX4_countSlips_147 (by decide) ?_
  refine lv_isub hx hb dX4_countSlips_148 ?_
  refine q_i (z := 14) (by decide) ?_
  refine va_iald hx hb hK hP 2 0 rfl rfl (vin (by decide)) dX4_countSlips_149 ?_
  refine q_i (z := 0) rfl ?_
  refine lv_iconst (v := 3) hx hb dX4_countSlips_150 (by decide) ?_
  refine lv_imul hx hb dX4_countSlips_151 ?_
  refine q_i (z := 0) (by decide) ?_
  refine lv_iconst (v := 4) hx hb dX4_countSlips_152 (by decide) ?_
  refine lv_idiv hx hb dX4_countSlips_153 (by decide) ?_
  refine q_i (z := 0) (by decide) ?_
  refine va_iast hx hb hK hP hD hS 2 0 rfl rfl (vin (by decide)) dX4_countSlips_154 (fun H locs hP hD hS => ?_)
  have hP : va_P D vwCl [(pr, .inr (4, [.int 0, .ref prw, .ref lft, .ref lea])), (nw, .inr (3, [.int 2, .int 0, .ref keys, .ref moms, .ref lens, .ref prts, .ref luds, .ref hnds, .ref lats, .ref knds, .ref rch, .ref spd, .int 0, .int 0, .int 0, .ref unN, .ref unH, .ref ptn])), (lft, .inl (cI, 56, .inl (upd (fun _ => 0) (15 : Int32).toNatClampNeg 0)))] H := hP
  have hD : va_D (va_A (w_countSlips cI cZ cP pr prw lft lea nw keys moms lens prts luds hnds lats knds rch spd unN unH ptn) sz) [(pr, .inr (4, [.int 0, .ref prw, .ref lft, .ref lea])), (nw, .inr (3, [.int 2, .int 0, .ref keys, .ref moms, .ref lens, .ref prts, .ref luds, .ref hnds, .ref lats, .ref knds, .ref rch, .ref spd, .int 0, .int 0, .int 0, .ref unN, .ref unH, .ref ptn])), (lft, .inl (cI, 56, .inl (upd (fun _ => 0) (15 : Int32).toNatClampNeg 0)))] := hD
  rw [upd_c] at hP hD
  have hP : va_P D vwCl [(pr, .inr (4, [.int 0, .ref prw, .ref lft, .ref lea])), (nw, .inr (3, [.int 2, .int 0, .ref keys, .ref moms, .ref lens, .ref prts, .ref luds, .ref hnds, .ref lats, .ref knds, .ref rch, .ref spd, .int 0, .int 0, .int 0, .ref unN, .ref unH, .ref ptn])), (lft, .inl (cI, 56, .inl (fun _ => 0)))] H := hP
  have hD : va_D (va_A (w_countSlips cI cZ cP pr prw lft lea nw keys moms lens prts luds hnds lats knds rch spd unN unH ptn) sz) [(pr, .inr (4, [.int 0, .ref prw, .ref lft, .ref lea])), (nw, .inr (3, [.int 2, .int 0, .ref keys, .ref moms, .ref lens, .ref prts, .ref luds, .ref hnds, .ref lats, .ref knds, .ref rch, .ref spd, .int 0, .int 0, .int 0, .ref unN, .ref unH, .ref ptn])), (lft, .inl (cI, 56, .inl (fun _ => 0)))] := hD
  refine lv_iinc (v := 2) (lv' := [(3, .int 2), (2, .int 2), (0, .ref pr), (1, .ref nw)]) hx hb dX4_countSlips_155 hl (k := 0) rfl (by decide) (by decide) rfl (fun ls hl => ?_)
  refine lv_goto (tgt := 121) hx hb dX4_countSlips_158 (by decide) ?_
  refine lv_iload_n hx hb dX4_countSlips_121 rfl (lv_at hl 0 rfl) ?_
  refine lv_bipush (v := 6) hx hb dX4_countSlips_122 (by decide) ?_
  refine lv_icmp_gt (tgt := 161) hx hb dX4_countSlips_124 (by decide) (fun c_21 => absurd c_21 (by decide)) (fun _ => ?_)
  refine lv_aload_n hx hb dX4_countSlips_127 rfl (lv_at hl 2 rfl) ?_
  refine va_get (D := D) (ci := 4) (v := .ref lft) (C := RX4) (T := TX4) (N := 4) hx hb ht inX4 hown hK hP 0 rfl rfl 2 (Nat.le_of_ble_eq_true rfl) (ht _ kw_326) (fun _ h9 => h9) rfl dX4_countSlips_128 ?_
  refine lv_iload_n hx hb dX4_countSlips_131 rfl (lv_at hl 1 rfl) ?_
  refine lv_bipush (v := 7) hx hb dX4_countSlips_132 (by decide) ?_
  refine lv_imul hx hb dX4_countSlips_134 ?_
  refine q_i (z := 14) (by decide) ?_
  refine lv_iload_n hx hb dX4_countSlips_135 rfl (lv_at hl 0 rfl) ?_
  refine lv_iadd hx hb dX4_countSlips_136 ?_
  refine q_i (z := 16) (by decide) ?_
  refine lv_aload_n hx hb dX4_countSlips_137 rfl (lv_at hl 2 rfl) ?_
  refine va_get (D := D) (ci := 4) (v := .ref lft) (C := RX4) (T := TX4) (N := 4) hx hb ht inX4 hown hK hP 0 rfl rfl 2 (Nat.le_of_ble_eq_true rfl) (ht _ kw_326) (fun _ h9 => h9) rfl dX4_countSlips_138 ?_
  refine lv_iload_n hx hb dX4_countSlips_141 rfl (lv_at hl 1 rfl) ?_
  refine lv_bipush (v := 7) hx hb dX4_countSlips_142 (by decide) ?_
  refine lv_imul hx hb dX4_countSlips_144 ?_
  refine q_i (z := 14) (by decide) ?_
  refine lv_iload_n hx hb dX4_countSlips_145 rfl (lv_at hl 0 rfl) ?_
  refine lv_iadd hx hb dX4_countSlips_146 ?_
  refine q_i (z := 16) (by decide) ?_
  refine lv_iconst (v := 1) hx hb dX4_countSlips_147 (by decide) ?_
  refine lv_isub hx hb dX4_countSlips_148 ?_
  refine q_i (z := 15) (by decide) ?_
  refine va_iald hx hb hK hP 2 0 rfl rfl (vin (by decide)) dX4_countSlips_149 ?_
  refine q_i (z := 0) rfl ?_
  refine lv_iconst (v := 3) hx hb dX4_countSlips_150 (by decide) ?_
  refine lv_imul hx hb dX4_countSlips_151 ?_
  refine q_i (z := 0) (by decide) ?_
  refine lv_iconst (v := 4) hx hb dX4_countSlips_152 (by decide) ?_
  refine lv_idiv hx hb dX4_countSlips_153 (by decide) ?_
  refine q_i (z := 0) (by decide) ?_
  refine va_iast hx hb hK hP hD hS 2 0 rfl rfl (vin (by decide)) dX4_countSlips_154 (fun H locs hP hD hS => ?_)
  have hP : va_P D vwCl [(pr, .inr (4, [.int 0, .ref prw, .ref lft, .ref lea])), (nw, .inr (3, [.int 2, .int 0, .ref keys, .ref moms, .ref lens, .ref prts, .ref luds, .ref hnds, .ref lats, .ref knds, .ref rch, .ref spd, .int 0, .int 0, .int 0, .ref unN, .ref unH, .ref ptn])), (lft, .inl (cI, 56, .inl (upd (fun _ => 0) (16 : Int32).toNatClampNeg 0)))] H := hP
  have hD : va_D (va_A (w_countSlips cI cZ cP pr prw lft lea nw keys moms lens prts luds hnds lats knds rch spd unN unH ptn) sz) [(pr, .inr (4, [.int 0, .ref prw, .ref lft, .ref lea])), (nw, .inr (3, [.int 2, .int 0, .ref keys, .ref moms, .ref lens, .ref prts, .ref luds, .ref hnds, .ref lats, .ref knds, .ref rch, .ref spd, .int 0, .int 0, .int 0, .ref unN, .ref unH, .ref ptn])), (lft, .inl (cI, 56, .inl (upd (fun _ => 0) (16 : Int32).toNatClampNeg 0)))] := hD
  rw [upd_c] at hP hD
  have hP : va_P D vwCl [(pr, .inr (4, [.int 0, .ref prw, .ref lft, .ref lea])), (nw, .inr (3, [.int 2, .int 0, .ref keys, .ref moms, .ref lens, .ref prts, .ref luds, .ref hnds, .ref lats, .ref knds, .ref rch, .ref spd, .int 0, .int 0, .int 0, .ref unN, .ref unH, .ref ptn])), (lft, .inl (cI, 56, .inl (fun _ => 0)))] H := hP
  have hD : va_D (va_A (w_countSlips cI cZ cP pr prw lft lea nw keys moms lens prts luds hnds lats knds rch spd unN unH ptn) sz) [(pr, .inr (4, [.int 0, .ref prw, .ref lft, .ref lea])), (nw, .inr (3, [.int 2, .int 0, .ref keys, .ref moms, .ref lens, .ref prts, .ref luds, .ref hnds, .ref lats, .ref knds, .ref rch, .ref spd, .int 0, .int 0, .int 0, .ref unN, .ref unH, .ref ptn])), (lft, .inl (cI, 56, .inl (fun _ => 0)))] := hD
  refine lv_iinc (v := 3) (lv' := [(3, .int 3), (2, .int 2), (0, .ref pr), (1, .ref nw)]) hx hb dX4_countSlips_155 hl (k := 0) rfl (by decide) (by decide) rfl (fun ls hl => ?_)
  refine lv_goto (tgt := 121) hx hb dX4_countSlips_158 (by decide) ?_
  refine lv_iload_n hx hb dX4_countSlips_121 rfl (lv_at hl 0 rfl) ?_
  refine lv_bipush (v := 6) hx hb dX4_countSlips_122 (by decide) ?_
  refine lv_icmp_gt (tgt := 161) hx hb dX4_countSlips_124 (by decide) (fun c_22 => absurd c_22 (by decide)) (fun _ => ?_)
  refine lv_aload_n hx hb dX4_countSlips_127 rfl (lv_at hl 2 rfl) ?_
  refine va_get (D := D) (ci := 4) (v := .ref lft) (C := RX4) (T := TX4) (N := 4) hx hb ht inX4 hown hK hP 0 rfl rfl 2 (Nat.le_of_ble_eq_true rfl) (ht _ kw_326) (fun _ h9 => h9) rfl dX4_countSlips_128 ?_
  refine lv_iload_n hx hb dX4_countSlips_131 rfl (lv_at hl 1 rfl) ?_
  refine lv_bipush (v := 7) hx hb dX4_countSlips_132 (by decide) ?_
  refine lv_imul hx hb dX4_countSlips_134 ?_
  refine q_i (z := 14) (by decide) ?_
  refine lv_iload_n hx hb dX4_countSlips_135 rfl (lv_at hl 0 rfl) ?_
  refine lv_iadd hx hb dX4_countSlips_136 ?_
  refine q_i (z := 17) (by decide) ?_
  refine lv_aload_n hx hb dX4_countSlips_137 rfl (lv_at hl 2 rfl) ?_
  refine va_get (D := D) (ci := 4) (v := .ref lft) (C := RX4) (T := TX4) (N := 4) hx hb ht inX4 hown hK hP 0 rfl rfl 2 (Nat.le_of_ble_eq_true rfl) (ht _ kw_326) (fun _ h9 => h9) rfl dX4_countSlips_138 ?_
  refine lv_iload_n hx hb dX4_countSlips_141 rfl (lv_at hl 1 rfl) ?_
  refine lv_bipush (v := 7) hx hb dX4_countSlips_142 (by decide) ?_
  refine lv_imul hx hb dX4_countSlips_144 ?_
  refine q_i (z := 14) (by decide) ?_
  refine lv_iload_n hx hb dX4_countSlips_145 rfl (lv_at hl 0 rfl) ?_
  refine lv_iadd hx hb dX4_countSlips_146 ?_
  refine q_i (z := 17) (by decide) ?_
  refine lv_iconst (v := 1) hx hb dX4_countSlips_147 (by decide) ?_
  refine lv_isub hx hb dX4_countSlips_148 ?_
  refine q_i (z := 16) (by decide) ?_
  refine va_iald hx hb hK hP 2 0 rfl rfl (vin (by decide)) dX4_countSlips_149 ?_
  refine q_i (z := 0) rfl ?_
  refine lv_iconst (v := 3) hx hb dX4_countSlips_150 (by decide) ?_
  refine lv_imul hx hb dX4_countSlips_151 ?_
  refine q_i (z := 0) (by decide) ?_
  refine lv_iconst (v := 4) hx hb dX4_countSlips_152 (by decide) ?_
  refine lv_idiv hx hb dX4_countSlips_153 (by decide) ?_
  refine q_i (z := 0) (by decide) ?_
  refine va_iast hx hb hK hP hD hS 2 0 rfl rfl (vin (by decide)) dX4_countSlips_154 (fun H locs hP hD hS => ?_)
  have hP : va_P D vwCl [(pr, .inr (4, [.int 0, .ref prw, .ref lft, .ref lea])), (nw, .inr (3, [.int 2, .int 0, .ref keys, .ref moms, .ref lens, .ref prts, .ref luds, .ref hnds, .ref lats, .ref knds, .ref rch, .ref spd, .int 0, .int 0, .int 0, .ref unN, .ref unH, .ref ptn])), (lft, .inl (cI, 56, .inl (upd (fun _ => 0) (17 : Int32).toNatClampNeg 0)))] H := hP
  have hD : va_D (va_A (w_countSlips cI cZ cP pr prw lft lea nw keys moms lens prts luds hnds lats knds rch spd unN unH ptn) sz) [(pr, .inr (4, [.int 0, .ref prw, .ref lft, .ref lea])), (nw, .inr (3, [.int 2, .int 0, .ref keys, .ref moms, .ref lens, .ref prts, .ref luds, .ref hnds, .ref lats, .ref knds, .ref rch, .ref spd, .int 0, .int 0, .int 0, .ref unN, .ref unH, .ref ptn])), (lft, .inl (cI, 56, .inl (upd (fun _ => 0) (17 : Int32).toNatClampNeg 0)))] := hD
  rw [upd_c] at hP hD
  have hP : va_P D vwCl [(pr, .inr (4, [.int 0, .ref prw, .ref lft, .ref lea])), (nw, .inr (3, [.int 2, .int 0, .ref keys, .ref moms, .ref lens, .ref prts, .ref luds, .ref hnds, .ref lats, .ref knds, .ref rch, .ref spd, .int 0, .int 0, .int 0, .ref unN, .ref unH, .ref ptn])), (lft, .inl (cI, 56, .inl (fun _ => 0)))] H := hP
  have hD : va_D (va_A (w_countSlips cI cZ cP pr prw lft lea nw keys moms lens prts luds hnds lats knds rch spd unN unH ptn) sz) [(pr, .inr (4, [.int 0, .ref prw, .ref lft, .ref lea])), (nw, .inr (3, [.int 2, .int 0, .ref keys, .ref moms, .ref lens, .ref prts, .ref luds, .ref hnds, .ref lats, .ref knds, .ref rch, .ref spd, .int 0, .int 0, .int 0, .ref unN, .ref unH, .ref ptn])), (lft, .inl (cI, 56, .inl (fun _ => 0)))] := hD
  refine lv_iinc (v := 4) (lv' := [(3, .int 4), (2, .int 2), (0, .ref pr), (1, .ref nw)]) hx hb dX4_countSlips_155 hl (k := 0) rfl (by decide) (by decide) rfl (fun ls hl => ?_)
  refine lv_goto (tgt := 121) hx hb dX4_countSlips_158 (by decide) ?_
  refine lv_iload_n hx hb dX4_countSlips_121 rfl (lv_at hl 0 rfl) ?_
  refine lv_bipush (v := 6) hx hb dX4_countSlips_122 (by decide) ?_
  refine lv_icmp_gt (tgt := 161) hx hb dX4_countSlips_124 (by decide) (fun c_23 => absurd c_23 (by decide)) (fun _ => ?_)
  refine lv_aload_n hx hb dX4_countSlips_127 rfl (lv_at hl 2 rfl) ?_
  refine va_get (D := D) (ci := 4) (v := .ref lft) (C := RX4) (T := TX4) (N := 4) hx hb ht inX4 hown hK hP 0 rfl rfl 2 (Nat.le_of_ble_eq_true rfl) (ht _ kw_326) (fun _ h9 => h9) rfl dX4_countSlips_128 ?_
  refine lv_iload_n hx hb dX4_countSlips_131 rfl (lv_at hl 1 rfl) ?_
  refine lv_bipush (v := 7) hx hb dX4_countSlips_132 (by decide) ?_
  refine lv_imul hx hb dX4_countSlips_134 ?_
  refine q_i (z := 14) (by decide) ?_
  refine lv_iload_n hx hb dX4_countSlips_135 rfl (lv_at hl 0 rfl) ?_
  refine lv_iadd hx hb dX4_countSlips_136 ?_
  refine q_i (z := 18) (by decide) ?_
  refine lv_aload_n hx hb dX4_countSlips_137 rfl (lv_at hl 2 rfl) ?_
  refine va_get (D := D) (ci := 4) (v := .ref lft) (C := RX4) (T := TX4) (N := 4) hx hb ht inX4 hown hK hP 0 rfl rfl 2 (Nat.le_of_ble_eq_true rfl) (ht _ kw_326) (fun _ h9 => h9) rfl dX4_countSlips_138 ?_
  refine lv_iload_n hx hb dX4_countSlips_141 rfl (lv_at hl 1 rfl) ?_
  refine lv_bipush (v := 7) hx hb dX4_countSlips_142 (by decide) ?_
  refine lv_imul hx hb dX4_countSlips_144 ?_
  refine q_i (z := 14) (by decide) ?_
  refine lv_iload_n hx hb dX4_countSlips_145 rfl (lv_at hl 0 rfl) ?_
  refine lv_iadd hx hb dX4_countSlips_146 ?_
  refine q_i (z := 18) (by decide) ?_
  refine lv_iconst (v := 1) hx hb dX4_countSlips_147 (by decide) ?_
  refine lv_isub hx hb dX4_countSlips_148 ?_
  refine q_i (z := 17) (by decide) ?_
  refine va_iald hx hb hK hP 2 0 rfl rfl (vin (by decide)) dX4_countSlips_149 ?_
  refine q_i (z := 0) rfl ?_
  refine lv_iconst (v := 3) hx hb dX4_countSlips_150 (by decide) ?_
  refine lv_imul hx hb dX4_countSlips_151 ?_
  refine q_i (z := 0) (by decide) ?_
  refine lv_iconst (v := 4) hx hb dX4_countSlips_152 (by decide) ?_
  refine lv_idiv hx hb dX4_countSlips_153 (by decide) ?_
  refine q_i (z := 0) (by decide) ?_
  refine va_iast hx hb hK hP hD hS 2 0 rfl rfl (vin (by decide)) dX4_countSlips_154 (fun H locs hP hD hS => ?_)
  have hP : va_P D vwCl [(pr, .inr (4, [.int 0, .ref prw, .ref lft, .ref lea])), (nw, .inr (3, [.int 2, .int 0, .ref keys, .ref moms, .ref lens, .ref prts, .ref luds, .ref hnds, .ref lats, .ref knds, .ref rch, .ref spd, .int 0, .int 0, .int 0, .ref unN, .ref unH, .ref ptn])), (lft, .inl (cI, 56, .inl (upd (fun _ => 0) (18 : Int32).toNatClampNeg 0)))] H := hP
  have hD : va_D (va_A (w_countSlips cI cZ cP pr prw lft lea nw keys moms lens prts luds hnds lats knds rch spd unN unH ptn) sz) [(pr, .inr (4, [.int 0, .ref prw, .ref lft, .ref lea])), (nw, .inr (3, [.int 2, .int 0, .ref keys, .ref moms, .ref lens, .ref prts, .ref luds, .ref hnds, .ref lats, .ref knds, .ref rch, .ref spd, .int 0, .int 0, .int 0, .ref unN, .ref unH, .ref ptn])), (lft, .inl (cI, 56, .inl (upd (fun _ => 0) (18 : Int32).toNatClampNeg 0)))] := hD
  rw [upd_c] at hP hD
  have hP : va_P D vwCl [(pr, .inr (4, [.int 0, .ref prw, .ref lft, .ref lea])), (nw, .inr (3, [.int 2, .int 0, .ref keys, .ref moms, .ref lens, .ref prts, .ref luds, .ref hnds, .ref lats, .ref knds, .ref rch, .ref spd, .int 0, .int 0, .int 0, .ref unN, .ref unH, .ref ptn])), (lft, .inl (cI, 56, .inl (fun _ => 0)))] H := hP
  have hD : va_D (va_A (w_countSlips cI cZ cP pr prw lft lea nw keys moms lens prts luds hnds lats knds rch spd unN unH ptn) sz) [(pr, .inr (4, [.int 0, .ref prw, .ref lft, .ref lea])), (nw, .inr (3, [.int 2, .int 0, .ref keys, .ref moms, .ref lens, .ref prts, .ref luds, .ref hnds, .ref lats, .ref knds, .ref rch, .ref spd, .int 0, .int 0, .int 0, .ref unN, .ref unH, .ref ptn])), (lft, .inl (cI, 56, .inl (fun _ => 0)))] := hD
  refine lv_iinc (v := 5) (lv' := [(3, .int 5), (2, .int 2), (0, .ref pr), (1, .ref nw)]) hx hb dX4_countSlips_155 hl (k := 0) rfl (by decide) (by decide) rfl (fun ls hl => ?_)
  refine lv_goto (tgt := 121) hx hb dX4_countSlips_158 (by decide) ?_
  refine lv_iload_n hx hb dX4_countSlips_121 rfl (lv_at hl 0 rfl) ?_
  refine lv_bipush (v := 6) hx hb dX4_countSlips_122 (by decide) ?_
  refine lv_icmp_gt (tgt := 161) hx hb dX4_countSlips_124 (by decide) (fun c_24 => absurd c_24 (by decide)) (fun _ => ?_)
  refine lv_aload_n hx hb dX4_countSlips_127 rfl (lv_at hl 2 rfl) ?_
  refine va_get (D := D) (ci := 4) (v := .ref lft) (C := RX4) (T := TX4) (N := 4) hx hb ht inX4 hown hK hP 0 rfl rfl 2 (Nat.le_of_ble_eq_true rfl) (ht _ kw_326) (fun _ h9 => h9) rfl dX4_countSlips_128 ?_
  refine lv_iload_n hx hb dX4_countSlips_131 rfl (lv_at hl 1 rfl) ?_
  refine lv_bipush (v := 7) hx hb dX4_countSlips_132 (by decide) ?_
  refine lv_imul hx hb dX4_countSlips_134 ?_
  refine q_i (z := 14) (by decide) ?_
  refine lv_iload_n hx hb dX4_countSlips_135 rfl (lv_at hl 0 rfl) ?_
  refine lv_iadd hx hb dX4_countSlips_136 ?_
  refine q_i (z := 19) (by decide) ?_
  refine lv_aload_n hx hb dX4_countSlips_137 rfl (lv_at hl 2 rfl) ?_
  refine va_get (D := D) (ci := 4) (v := .ref lft) (C := RX4) (T := TX4) (N := 4) hx hb ht inX4 hown hK hP 0 rfl rfl 2 (Nat.le_of_ble_eq_true rfl) (ht _ kw_326) (fun _ h9 => h9) rfl dX4_countSlips_138 ?_
  refine lv_iload_n hx hb dX4_countSlips_141 rfl (lv_at hl 1 rfl) ?_
  refine lv_bipush (v := 7) hx hb dX4_countSlips_142 (by decide) ?_
  refine lv_imul hx hb dX4_countSlips_144 ?_
  refine q_i (z := 14) (by decide) ?_
  refine lv_iload_n hx hb dX4_countSlips_145 rfl (lv_at hl 0 rfl) ?_
  refine lv_iadd hx hb dX4_countSlips_146 ?_
  refine q_i (z := 19) (by decide) ?_
  refine lv_iconst (v := 1) hx hb dX4_countSlips_147 (by decide) ?_
  refine lv_isub hx hb dX4_countSlips_148 ?_
  refine q_i (z := 18) (by decide) ?_
  refine va_iald hx hb hK hP 2 0 rfl rfl (vin (by decide)) dX4_countSlips_149 ?_
  refine q_i (z := 0) rfl ?_
  refine lv_iconst (v := 3) hx hb dX4_countSlips_150 (by decide) ?_
  refine lv_imul hx hb dX4_countSlips_151 ?_
  refine q_i (z := 0) (by decide) ?_
  refine lv_iconst (v := 4) hx hb dX4_countSlips_152 (by decide) ?_
  refine lv_idiv hx hb dX4_countSlips_153 (by decide) ?_
  refine q_i (z := 0) (by decide) ?_
  refine va_iast hx hb hK hP hD hS 2 0 rfl rfl (vin (by decide)) dX4_countSlips_154 (fun H locs hP hD hS => ?_)
  have hP : va_P D vwCl [(pr, .inr (4, [.int 0, .ref prw, .ref lft, .ref lea])), (nw, .inr (3, [.int 2, .int 0, .ref keys, .ref moms, .ref lens, .ref prts, .ref luds, .ref hnds, .ref lats, .ref knds, .ref rch, .ref spd, .int 0, .int 0, .int 0, .ref unN, .ref unH, .ref ptn])), (lft, .inl (cI, 56, .inl (upd (fun _ => 0) (19 : Int32).toNatClampNeg 0)))] H := hP
  have hD : va_D (va_A (w_countSlips cI cZ cP pr prw lft lea nw keys moms lens prts luds hnds lats knds rch spd unN unH ptn) sz) [(pr, .inr (4, [.int 0, .ref prw, .ref lft, .ref lea])), (nw, .inr (3, [.int 2, .int 0, .ref keys, .ref moms, .ref lens, .ref prts, .ref luds, .ref hnds, .ref lats, .ref knds, .ref rch, .ref spd, .int 0, .int 0, .int 0, .ref unN, .ref unH, .ref ptn])), (lft, .inl (cI, 56, .inl (upd (fun _ => 0) (19 : Int32).toNatClampNeg 0)))] := hD
  rw [upd_c] at hP hD
  have hP : va_P D vwCl [(pr, .inr (4, [.int 0, .ref prw, .ref lft, .ref lea])), (nw, .inr (3, [.int 2, .int 0, .ref keys, .ref moms, .ref lens, .ref prts, .ref luds, .ref hnds, .ref lats, .ref knds, .ref rch, .ref spd, .int 0, .int 0, .int 0, .ref unN, .ref unH, .ref ptn])), (lft, .inl (cI, 56, .inl (fun _ => 0)))] H := hP
  have hD : va_D (va_A (w_countSlips cI cZ cP pr prw lft lea nw keys moms lens prts luds hnds lats knds rch spd unN unH ptn) sz) [(pr, .inr (4, [.int 0, .ref prw, .ref lft, .ref lea])), (nw, .inr (3, [.int 2, .int 0, .ref keys, .ref moms, .ref lens, .ref prts, .ref luds, .ref hnds, .ref lats, .ref knds, .ref rch, .ref spd, .int 0, .int 0, .int 0, .ref unN, .ref unH, .ref ptn])), (lft, .inl (cI, 56, .inl (fun _ => 0)))] := hD
  refine lv_iinc (v := 6) (lv' := [(3, .int 6), (2, .int 2), (0, .ref pr), (1, .ref nw)]) hx hb dX4_countSlips_155 hl (k := 0) rfl (by decide) (by decide) rfl (fun ls hl => ?_)
  refine lv_goto (tgt := 121) hx hb dX4_countSlips_158 (by decide) ?_
  refine lv_iload_n hx hb dX4_countSlips_121 rfl (lv_at hl 0 rfl) ?_
  refine lv_bipush (v := 6) hx hb dX4_countSlips_122 (by decide) ?_
  refine lv_icmp_gt (tgt := 161) hx hb dX4_countSlips_124 (by decide) (fun c_25 => absurd c_25 (by decide)) (fun _ => ?_)
  refine lv_aload_n hx hb dX4_countSlips_127 rfl (lv_at hl 2 rfl) ?_
  refine va_get (D := D) (ci := 4) (v := .ref lft) (C := RX4) (T := TX4) (N := 4) hx hb ht inX4 hown hK hP 0 rfl rfl 2 (Nat.le_of_ble_eq_true rfl) (ht _ kw_326) (fun _ h9 => h9) rfl dX4_countSlips_128 ?_
  refine lv_iload_n hx hb dX4_countSlips_131 rfl (lv_at hl 1 rfl) ?_
  refine lv_bipush (v := 7) hx hb dX4_countSlips_132 (by decide) ?_
  refine lv_imul hx hb dX4_countSlips_134 ?_
  refine q_i (z := 14) (by decide) ?_
  refine lv_iload_n hx hb dX4_countSlips_135 rfl (lv_at hl 0 rfl) ?_
  refine lv_iadd hx hb dX4_countSlips_136 ?_
  refine q_i (z := 20) (by decide) ?_
  refine lv_aload_n hx hb dX4_countSlips_137 rfl (lv_at hl 2 rfl) ?_
  refine va_get (D := D) (ci := 4) (v := .ref lft) (C := RX4) (T := TX4) (N := 4) hx hb ht inX4 hown hK hP 0 rfl rfl 2 (Nat.le_of_ble_eq_true rfl) (ht _ kw_326) (fun _ h9 => h9) rfl dX4_countSlips_138 ?_
  refine lv_iload_n hx hb dX4_countSlips_141 rfl (lv_at hl 1 rfl) ?_
  refine lv_bipush (v := 7) hx hb dX4_countSlips_142 (by decide) ?_
  refine lv_imul hx hb dX4_countSlips_144 ?_
  refine q_i (z := 14) (by decide) ?_
  refine lv_iload_n hx hb dX4_countSlips_145 rfl (lv_at hl 0 rfl) ?_
  refine lv_iadd hx hb dX4_countSlips_146 ?_
  refine q_i (z := 20) (by decide) ?_
  refine lv_iconst (v := 1) hx hb dX4_countSlips_147 (by decide) ?_
  refine lv_isub hx hb dX4_countSlips_148 ?_
  refine q_i (z := 19) (by decide) ?_
  refine va_iald hx hb hK hP 2 0 rfl rfl (vin (by decide)) dX4_countSlips_149 ?_
  refine q_i (z := 0) rfl ?_
  refine lv_iconst (v := 3) hx hb dX4_countSlips_150 (by decide) ?_
  refine lv_imul hx hb dX4_countSlips_151 ?_
  refine q_i (z := 0) (by decide) ?_
  refine lv_iconst (v := 4) hx hb dX4_countSlips_152 (by decide) ?_
  refine lv_idiv hx hb dX4_countSlips_153 (by decide) ?_
  refine q_i (z := 0) (by decide) ?_
  refine va_iast hx hb hK hP hD hS 2 0 rfl rfl (vin (by decide)) dX4_countSlips_154 (fun H locs hP hD hS => ?_)
  have hP : va_P D vwCl [(pr, .inr (4, [.int 0, .ref prw, .ref lft, .ref lea])), (nw, .inr (3, [.int 2, .int 0, .ref keys, .ref moms, .ref lens, .ref prts, .ref luds, .ref hnds, .ref lats, .ref knds, .ref rch, .ref spd, .int 0, .int 0, .int 0, .ref unN, .ref unH, .ref ptn])), (lft, .inl (cI, 56, .inl (upd (fun _ => 0) (20 : Int32).toNatClampNeg 0)))] H := hP
  have hD : va_D (va_A (w_countSlips cI cZ cP pr prw lft lea nw keys moms lens prts luds hnds lats knds rch spd unN unH ptn) sz) [(pr, .inr (4, [.int 0, .ref prw, .ref lft, .ref lea])), (nw, .inr (3, [.int 2, .int 0, .ref keys, .ref moms, .ref lens, .ref prts, .ref luds, .ref hnds, .ref lats, .ref knds, .ref rch, .ref spd, .int 0, .int 0, .int 0, .ref unN, .ref unH, .ref ptn])), (lft, .inl (cI, 56, .inl (upd (fun _ => 0) (20 : Int32).toNatClampNeg 0)))] := hD
  rw [upd_c] at hP hD
  have hP : va_P D vwCl [(pr, .inr (4, [.int 0, .ref prw, .ref lft, .ref lea])), (nw, .inr (3, [.int 2, .int 0, .ref keys, .ref moms, .ref lens, .ref prts, .ref luds, .ref hnds, .ref lats, .ref knds, .ref rch, .ref spd, .int 0, .int 0, .int 0, .ref unN, .ref unH, .ref ptn])), (lft, .inl (cI, 56, .inl (fun _ => 0)))] H := hP
  have hD : va_D (va_A (w_countSlips cI cZ cP pr prw lft lea nw keys moms lens prts luds hnds lats knds rch spd unN unH ptn) sz) [(pr, .inr (4, [.int 0, .ref prw, .ref lft, .ref lea])), (nw, .inr (3, [.int 2, .int 0, .ref keys, .ref moms, .ref lens, .ref prts, .ref luds, .ref hnds, .ref lats, .ref knds, .ref rch, .ref spd, .int 0, .int 0, .int 0, .ref unN, .ref unH, .ref ptn])), (lft, .inl (cI, 56, .inl (fun _ => 0)))] := hD
  refine lv_iinc (v := 7) (lv' := [(3, .int 7), (2, .int 2), (0, .ref pr), (1, .ref nw)]) hx hb dX4_countSlips_155 hl (k := 0) rfl (by decide) (by decide) rfl (fun ls hl => ?_)
  refine lv_goto (tgt := 121) hx hb dX4_countSlips_158 (by decide) ?_
  refine lv_iload_n hx hb dX4_countSlips_121 rfl (lv_at hl 0 rfl) ?_
  refine lv_bipush (v := 6) hx hb dX4_countSlips_122 (by decide) ?_
  refine lv_icmp_gt (tgt := 161) hx hb dX4_countSlips_124 (by decide) (fun _ => ?_) (fun c_26 => absurd (by decide) c_26)
  refine lv_iinc (v := 3) (lv' := [(2, .int 3), (3, .int 7), (0, .ref pr), (1, .ref nw)]) hx hb dX4_countSlips_161 hl (k := 1) rfl (by decide) (by decide) rfl (fun ls hl => ?_)
  refine lv_goto (tgt := 113) hx hb dX4_countSlips_164 (by decide) ?_
  refine lv_iload_n hx hb dX4_countSlips_113 rfl (lv_at hl 0 rfl) ?_
  refine lv_bipush (v := 8) hx hb dX4_countSlips_114 (by decide) ?_
  refine lv_icmp_ge (tgt := 167) hx hb dX4_countSlips_116 (by decide) (fun c_27 => absurd c_27 (by decide)) (fun _ => ?_)
  refine lv_iconst (v := 1) hx hb dX4_countSlips_119 (by decide) ?_
  refine lv_istore_n (lv' := [(3, .int 1), (2, .int 3), (0, .ref pr), (1, .ref nw)]) hx hb dX4_countSlips_120 rfl hl (by decide) rfl (fun ls hl => ?_)
  refine lv_iload_n hx hb dX4_countSlips_121 rfl (lv_at hl 0 rfl) ?_
  refine lv_bipush (v := 6) hx hb dX4_countSlips_122 (by decide) ?_
  refine lv_icmp_gt (tgt := 161) hx hb dX4_countSlips_124 (by decide) (fun c_28 => absurd c_28 (by decide)) (fun _ => ?_)
  refine lv_aload_n hx hb dX4_countSlips_127 rfl (lv_at hl 2 rfl) ?_
  refine va_get (D := D) (ci := 4) (v := .ref lft) (C := RX4) (T := TX4) (N := 4) hx hb ht inX4 hown hK hP 0 rfl rfl 2 (Nat.le_of_ble_eq_true rfl) (ht _ kw_326) (fun _ h9 => h9) rfl dX4_countSlips_128 ?_
  refine lv_iload_n hx hb dX4_countSlips_131 rfl (lv_at hl 1 rfl) ?_
  refine lv_bipush (v := 7) hx hb dX4_countSlips_132 (by decide) ?_
  refine lv_imul hx hb dX4_countSlips_134 ?_
  refine q_i (z := 21) (by decide) ?_
  refine lv_iload_n hx hb dX4_countSlips_135 rfl (lv_at hl 0 rfl) ?_
  refine lv_iadd hx hb dX4_countSlips_136 ?_
  refine q_i (z := 22) (by decide) ?_
  refine lv_aload_n hx hb dX4_countSlips_137 rfl (lv_at hl 2 rfl) ?_
  refine va_get (D := D) (ci := 4) (v := .ref lft) (C := RX4) (T := TX4) (N := 4) hx hb ht inX4 hown hK hP 0 rfl rfl 2 (Nat.le_of_ble_eq_true rfl) (ht _ kw_326) (fun _ h9 => h9) rfl dX4_countSlips_138 ?_
  refine lv_iload_n hx hb dX4_countSlips_141 rfl (lv_at hl 1 rfl) ?_
  refine lv_bipush (v := 7) hx hb dX4_countSlips_142 (by decide) ?_
  refine lv_imul hx hb dX4_countSlips_144 ?_
  refine q_i (z := 21) (by decide) ?_
  refine lv_iload_n hx hb dX4_countSlips_145 rfl (lv_at hl 0 rfl) ?_
  refine lv_iadd hx hb dX4_countSlips_146 ?_
  refine q_i (z := 22) (by decide) ?_
  refine lv_iconst (v := 1) hx hb dX4_countSlips_147 (by decide) ?_
  refine lv_isub hx hb dX4_countSlips_148 ?_
  refine q_i (z := 21) (by decide) ?_
  refine va_iald hx hb hK hP 2 0 rfl rfl (vin (by decide)) dX4_countSlips_149 ?_
  refine q_i (z := 0) rfl ?_
  refine lv_iconst (v := 3) hx hb dX4_countSlips_150 (by decide) ?_
  refine lv_imul hx hb dX4_countSlips_151 ?_
  refine q_i (z := 0) (by decide) ?_
  refine lv_iconst (v := 4) hx hb dX4_countSlips_152 (by decide) ?_
  refine lv_idiv hx hb dX4_countSlips_153 (by decide) ?_
  refine q_i (z := 0) (by decide) ?_
  refine va_iast hx hb hK hP hD hS 2 0 rfl rfl (vin (by decide)) dX4_countSlips_154 (fun H locs hP hD hS => ?_)
  have hP : va_P D vwCl [(pr, .inr (4, [.int 0, .ref prw, .ref lft, .ref lea])), (nw, .inr (3, [.int 2, .int 0, .ref keys, .ref moms, .ref lens, .ref prts, .ref luds, .ref hnds, .ref lats, .ref knds, .ref rch, .ref spd, .int 0, .int 0, .int 0, .ref unN, .ref unH, .ref ptn])), (lft, .inl (cI, 56, .inl (upd (fun _ => 0) (22 : Int32).toNatClampNeg 0)))] H := hP
  have hD : va_D (va_A (w_countSlips cI cZ cP pr prw lft lea nw keys moms lens prts luds hnds lats knds rch spd unN unH ptn) sz) [(pr, .inr (4, [.int 0, .ref prw, .ref lft, .ref lea])), (nw, .inr (3, [.int 2, .int 0, .ref keys, .ref moms, .ref lens, .ref prts, .ref luds, .ref hnds, .ref lats, .ref knds, .ref rch, .ref spd, .int 0, .int 0, .int 0, .ref unN, .ref unH, .ref ptn])), (lft, .inl (cI, 56, .inl (upd (fun _ => 0) (22 : Int32).toNatClampNeg 0)))] := hD
  rw [upd_c] at hP hD
  have hP : va_P D vwCl [(pr, .inr (4, [.int 0, .ref prw, .ref lft, .ref lea])), (nw, .inr (3, [.int 2, .int 0, .ref keys, .ref moms, .ref lens, .ref prts, .ref luds, .ref hnds, .ref lats, .ref knds, .ref rch, .ref spd, .int 0, .int 0, .int 0, .ref unN, .ref unH, .ref ptn])), (lft, .inl (cI, 56, .inl (fun _ => 0)))] H := hP
  have hD : va_D (va_A (w_countSlips cI cZ cP pr prw lft lea nw keys moms lens prts luds hnds lats knds rch spd unN unH ptn) sz) [(pr, .inr (4, [.int 0, .ref prw, .ref lft, .ref lea])), (nw, .inr (3, [.int 2, .int 0, .ref keys, .ref moms, .ref lens, .ref prts, .ref luds, .ref hnds, .ref lats, .ref knds, .ref rch, .ref spd, .int 0, .int 0, .int 0, .ref unN, .ref unH, .ref ptn])), (lft, .inl (cI, 56, .inl (fun _ => 0)))] := hD
  refine lv_iinc (v := 2) (lv' := [(3, .int 2), (2, .int 3), (0, .ref pr), (1, .ref nw)]) hx hb dX4_countSlips_155 hl (k := 0) rfl (by decide) (by decide) rfl (fun ls hl => ?_)
  refine lv_goto (tgt := 121) hx hb dX4_countSlips_158 (by decide) ?_
  refine lv_iload_n hx hb dX4_countSlips_121 rfl (lv_at hl 0 rfl) ?_
  refine lv_bipush (v := 6) hx hb dX4_countSlips_122 (by decide) ?_
  refine lv_icmp_gt (tgt := 161) hx hb dX4_countSlips_124 (by decide) (fun c_29 => absurd c_29 (by decide)) (fun _ => ?_)
  refine lv_aload_n hx hb dX4_countSlips_127 rfl (lv_at hl 2 rfl) ?_
  refine va_get (D := D) (ci := 4) (v := .ref lft) (C := RX4) (T := TX4) (N := 4) hx hb ht inX4 hown hK hP 0 rfl rfl 2 (Nat.le_of_ble_eq_true rfl) (ht _ kw_326) (fun _ h9 => h9) rfl dX4_countSlips_128 ?_
  refine lv_iload_n hx hb dX4_countSlips_131 rfl (lv_at hl 1 rfl) ?_
  refine lv_bipush (v := 7) hx hb dX4_countSlips_132 (by decide) ?_
  refine lv_imul hx hb dX4_countSlips_134 ?_
  refine q_i (z := 21) (by decide) ?_
  refine lv_iload_n hx hb dX4_countSlips_135 rfl (lv_at hl 0 rfl) ?_
  refine lv_iadd hx hb dX4_countSlips_136 ?_
  refine q_i (z := 23) (by decide) ?_
  refine lv_aload_n hx hb dX4_countSlips_137 rfl (lv_at hl 2 rfl) ?_
  refine va_get (D := D) (ci := 4) (v := .ref lft) (C := RX4) (T := TX4) (N := 4) hx hb ht inX4 hown hK hP 0 rfl rfl 2 (Nat.le_of_ble_eq_true rfl) (ht _ kw_326) (fun _ h9 => h9) rfl dX4_countSlips_138 ?_
  refine lv_iload_n hx hb dX4_countSlips_141 rfl (lv_at hl 1 rfl) ?_
  refine lv_bipush (v := 7) hx hb dX4_countSlips_142 (by decide) ?_
  refine lv_imul hx hb dX4_countSlips_144 ?_
  refine q_i (z := 21) (by decide) ?_
  refine lv_iload_n hx hb dX4_countSlips_145 rfl (lv_at hl 0 rfl) ?_
  refine lv_iadd hx hb dX4_countSlips_146 ?_
  refine q_i (z := 23) (by decide) ?_
  refine lv_iconst (v := 1) hx hb dX4_countSlips_147 (by decide) ?_
  refine lv_isub hx hb dX4_countSlips_148 ?_
  refine q_i (z := 22) (by decide) ?_
  refine va_iald hx hb hK hP 2 0 rfl rfl (vin (by decide)) dX4_countSlips_149 ?_
  refine q_i (z := 0) rfl ?_
  refine lv_iconst (v := 3) hx hb dX4_countSlips_150 (by decide) ?_
  refine lv_imul hx hb dX4_countSlips_151 ?_
  refine q_i (z := 0) (by decide) ?_
  refine lv_iconst (v := 4) hx hb dX4_countSlips_152 (by decide) ?_
  refine lv_idiv hx hb dX4_countSlips_153 (by decide) ?_
  refine q_i (z := 0) (by decide) ?_
  refine va_iast hx hb hK hP hD hS 2 0 rfl rfl (vin (by decide)) dX4_countSlips_154 (fun H locs hP hD hS => ?_)
  have hP : va_P D vwCl [(pr, .inr (4, [.int 0, .ref prw, .ref lft, .ref lea])), (nw, .inr (3, [.int 2, .int 0, .ref keys, .ref moms, .ref lens, .ref prts, .ref luds, .ref hnds, .ref lats, .ref knds, .ref rch, .ref spd, .int 0, .int 0, .int 0, .ref unN, .ref unH, .ref ptn])), (lft, .inl (cI, 56, .inl (upd (fun _ => 0) (23 : Int32).toNatClampNeg 0)))] H := hP
  have hD : va_D (va_A (w_countSlips cI cZ cP pr prw lft lea nw keys moms lens prts luds hnds lats knds rch spd unN unH ptn) sz) [(pr, .inr (4, [.int 0, .ref prw, .ref lft, .ref lea])), (nw, .inr (3, [.int 2, .int 0, .ref keys, .ref moms, .ref lens, .ref prts, .ref luds, .ref hnds, .ref lats, .ref knds, .ref rch, .ref spd, .int 0, .int 0, .int 0, .ref unN, .ref unH, .ref ptn])), (lft, .inl (cI, 56, .inl (upd (fun _ => 0) (23 : Int32).toNatClampNeg 0)))] := hD
  rw [upd_c] at hP hD
  have hP : va_P D vwCl [(pr, .inr (4, [.int 0, .ref prw, .ref lft, .ref lea])), (nw, .inr (3, [.int 2, .int 0, .ref keys, .ref moms, .ref lens, .ref prts, .ref luds, .ref hnds, .ref lats, .ref knds, .ref rch, .ref spd, .int 0, .int 0, .int 0, .ref unN, .ref unH, .ref ptn])), (lft, .inl (cI, 56, .inl (fun _ => 0)))] H := hP
  have hD : va_D (va_A (w_countSlips cI cZ cP pr prw lft lea nw keys moms lens prts luds hnds lats knds rch spd unN unH ptn) sz) [(pr, .inr (4, [.int 0, .ref prw, .ref lft, .ref lea])), (nw, .inr (3, [.int 2, .int 0, .ref keys, .ref moms, .ref lens, .ref prts, .ref luds, .ref hnds, .ref lats, .ref knds, .ref rch, .ref spd, .int 0, .int 0, .int 0, .ref unN, .ref unH, .ref ptn])), (lft, .inl (cI, 56, .inl (fun _ => 0)))] := hD
  refine lv_iinc (v := 3) (lv' := [(3, .int 3), (2, .int 3), (0, .ref pr), (1, .ref nw)]) hx hb dX4_countSlips_155 hl (k := 0) rfl (by decide) (by decide) rfl (fun ls hl => ?_)
  refine lv_goto (tgt := 121) hx hb dX4_countSlips_158 (by decide) ?_
  refine lv_iload_n hx hb dX4_countSlips_121 rfl (lv_at hl 0 rfl) ?_
  refine lv_bipush (v := 6) hx hb dX4_countSlips_122 (by decide) ?_
  refine lv_icmp_gt (tgt := 161) hx hb dX4_countSlips_124 (by decide) (fun c_30 => absurd c_30 (by decide)) (fun _ => ?_)
  refine lv_aload_n hx hb dX4_countSlips_127 rfl (lv_at hl 2 rfl) ?_
  refine va_get (D := D) (ci := 4) (v := .ref lft) (C := RX4) (T := TX4) (N := 4) hx hb ht inX4 hown hK hP 0 rfl rfl 2 (Nat.le_of_ble_eq_true rfl) (ht _ kw_326) (fun _ h9 => h9) rfl dX4_countSlips_128 ?_
  refine lv_iload_n hx hb dX4_countSlips_131 rfl (lv_at hl 1 rfl) ?_
  refine lv_bipush (v := 7) hx hb dX4_countSlips_132 (by decide) ?_
  refine lv_imul hx hb dX4_countSlips_134 ?_
  refine q_i (z := 21) (by decide) ?_
  refine lv_iload_n hx hb dX4_countSlips_135 rfl (lv_at hl 0 rfl) ?_
  refine lv_iadd hx hb dX4_countSlips_136 ?_
  refine q_i (z := 24) (by decide) ?_
  refine lv_aload_n hx hb dX4_countSlips_137 rfl (lv_at hl 2 rfl) ?_
  refine va_get (D := D) (ci := 4) (v := .ref lft) (C := RX4) (T := TX4) (N := 4) hx hb ht inX4 hown hK hP 0 rfl rfl 2 (Nat.le_of_ble_eq_true rfl) (ht _ kw_326) (fun _ h9 => h9) rfl dX4_countSlips_138 ?_
  refine lv_iload_n hx hb dX4_countSlips_141 rfl (lv_at hl 1 rfl) ?_
  refine lv_bipush (v := 7) hx hb dX4_countSlips_142 (by decide) ?_
  refine lv_imul hx hb dX4_countSlips_144 ?_
  refine q_i (z := 21) (by decide) ?_
  refine lv_iload_n hx hb dX4_countSlips_145 rfl (lv_at hl 0 rfl) ?_
  refine lv_iadd hx hb dX4_countSlips_146 ?_
  refine q_i (z := 24) (by decide) ?_
  refine lv_iconst (v := 1) hx hb dX4_countSlips_147 (by decide) ?_
  refine lv_isub hx hb dX4_countSlips_148 ?_
  refine q_i (z := 23) (by decide) ?_
  refine va_iald hx hb hK hP 2 0 rfl rfl (vin (by decide)) dX4_countSlips_149 ?_
  refine q_i (z := 0) rfl ?_
  refine lv_iconst (v := 3) hx hb dX4_countSlips_150 (by decide) ?_
  refine lv_imul hx hb dX4_countSlips_151 ?_
  refine q_i (z := 0) (by decide) ?_
  refine lv_iconst (v := 4) hx hb dX4_countSlips_152 (by decide) ?_
  refine lv_idiv hx hb dX4_countSlips_153 (by decide) ?_
  refine q_i (z := 0) (by decide) ?_
  refine va_iast hx hb hK hP hD hS 2 0 rfl rfl (vin (by decide)) dX4_countSlips_154 (fun H locs hP hD hS => ?_)
  have hP : va_P D vwCl [(pr, .inr (4, [.int 0, .ref prw, .ref lft, .ref lea])), (nw, .inr (3, [.int 2, .int 0, .ref keys, .ref moms, .ref lens, .ref prts, .ref luds, .ref hnds, .ref lats, .ref knds, .ref rch, .ref spd, .int 0, .int 0, .int 0, .ref unN, .ref unH, .ref ptn])), (lft, .inl (cI, 56, .inl (upd (fun _ => 0) (24 : Int32).toNatClampNeg 0)))] H := hP
  have hD : va_D (va_A (w_countSlips cI cZ cP pr prw lft lea nw keys moms lens prts luds hnds lats knds rch spd unN unH ptn) sz) [(pr, .inr (4, [.int 0, .ref prw, .ref lft, .ref lea])), (nw, .inr (3, [.int 2, .int 0, .ref keys, .ref moms, .ref lens, .ref prts, .ref luds, .ref hnds, .ref lats, .ref knds, .ref rch, .ref spd, .int 0, .int 0, .int 0, .ref unN, .ref unH, .ref ptn])), (lft, .inl (cI, 56, .inl (upd (fun _ => 0) (24 : Int32).toNatClampNeg 0)))] := hD
  rw [upd_c] at hP hD
  have hP : va_P D vwCl [(pr, .inr (4, [.int 0, .ref prw, .ref lft, .ref lea])), (nw, .inr (3, [.int 2, .int 0, .ref keys, .ref moms, .ref lens, .ref prts, .ref luds, .ref hnds, .ref lats, .ref knds, .ref rch, .ref spd, .int 0, .int 0, .int 0, .ref unN, .ref unH, .ref ptn])), (lft, .inl (cI, 56, .inl (fun _ => 0)))] H := hP
  have hD : va_D (va_A (w_countSlips cI cZ cP pr prw lft lea nw keys moms lens prts luds hnds lats knds rch spd unN unH ptn) sz) [(pr, .inr (4, [.int 0, .ref prw, .ref lft, .ref lea])), (nw, .inr (3, [.int 2, .int 0, .ref keys, .ref moms, .ref lens, .ref prts, .ref luds, .ref hnds, .ref lats, .ref knds, .ref rch, .ref spd, .int 0, .int 0, .int 0, .ref unN, .ref unH, .ref ptn])), (lft, .inl (cI, 56, .inl (fun _ => 0)))] := hD
  refine lv_iinc (v := 4) (lv' := [(3, .int 4), (2, .int 3), (0, .ref pr), (1, .ref nw)]) hx hb dX4_countSlips_155 hl (k := 0) rfl (by decide) (by decide) rfl (fun ls hl => ?_)
  refine lv_goto (tgt := 121) hx hb dX4_countSlips_158 (by decide) ?_
  refine lv_iload_n hx hb dX4_countSlips_121 rfl (lv_at hl 0 rfl) ?_
  refine lv_bipush (v := 6) hx hb dX4_countSlips_122 (by decide) ?_
  refine lv_icmp_gt (tgt := 161) hx hb dX4_countSlips_124 (by decide) (fun c_31 => absurd c_31 (by decide)) (fun _ => ?_)
  refine lv_aload_n hx hb dX4_countSlips_127 rfl (lv_at hl 2 rfl) ?_
  refine va_get (D := D) (ci := 4) (v := .ref lft) (C := RX4) (T := TX4) (N := 4) hx hb ht inX4 hown hK hP 0 rfl rfl 2 (Nat.le_of_ble_eq_true rfl) (ht _ kw_326) (fun _ h9 => h9) rfl dX4_countSlips_128 ?_
  refine lv_iload_n hx hb dX4_countSlips_131 rfl (lv_at hl 1 rfl) ?_
  refine lv_bipush (v := 7) hx hb dX4_countSlips_132 (by decide) ?_
  refine lv_imul hx hb dX4_countSlips_134 ?_
  refine q_i (z := 21) (by decide) ?_
  refine lv_iload_n hx hb dX4_countSlips_135 rfl (lv_at hl 0 rfl) ?_
  refine lv_iadd hx hb dX4_countSlips_136 ?_
  refine q_i (z := 25) (by decide) ?_
  refine lv_aload_n hx hb dX4_countSlips_137 rfl (lv_at hl 2 rfl) ?_
  refine va_get (D := D) (ci := 4) (v := .ref lft) (C := RX4) (T := TX4) (N := 4) hx hb ht inX4 hown hK hP 0 rfl rfl 2 (Nat.le_of_ble_eq_true rfl) (ht _ kw_326) (fun _ h9 => h9) rfl dX4_countSlips_138 ?_
  refine lv_iload_n hx hb dX4_countSlips_141 rfl (lv_at hl 1 rfl) ?_
  refine lv_bipush (v := 7) hx hb dX4_countSlips_142 (by decide) ?_
  refine lv_imul hx hb dX4_countSlips_144 ?_
  refine q_i (z := 21) (by decide) ?_
  refine lv_iload_n hx hb dX4_countSlips_145 rfl (lv_at hl 0 rfl) ?_
  refine lv_iadd hx hb dX4_countSlips_146 ?_
  refine q_i (z := 25) (by decide) ?_
  refine lv_iconst (v := 1) hx hb dX4_countSlips_147 (by decide) ?_
  refine lv_isub hx hb dX4_countSlips_148 ?_
  refine q_i (z := 24) (by decide) ?_
  refine va_iald hx hb hK hP 2 0 rfl rfl (vin (by decide)) dX4_countSlips_149 ?_
  refine q_i (z := 0) rfl ?_
  refine lv_iconst (v := 3) hx hb dX4_countSlips_150 (by decide) ?_
  refine lv_imul hx hb dX4_countSlips_151 ?_
  refine q_i (z := 0) (by decide) ?_
  refine lv_iconst (v := 4) hx hb dX4_countSlips_152 (by decide) ?_
  refine lv_idiv hx hb dX4_countSlips_153 (by decide) ?_
  refine q_i (z := 0) (by decide) ?_
  refine va_iast hx hb hK hP hD hS 2 0 rfl rfl (vin (by decide)) dX4_countSlips_154 (fun H locs hP hD hS => ?_)
  have hP : va_P D vwCl [(pr, .inr (4, [.int 0, .ref prw, .ref lft, .ref lea])), (nw, .inr (3, [.int 2, .int 0, .ref keys, .ref moms, .ref lens, .ref prts, .ref luds, .ref hnds, .ref lats, .ref knds, .ref rch, .ref spd, .int 0, .int 0, .int 0, .ref unN, .ref unH, .ref ptn])), (lft, .inl (cI, 56, .inl (upd (fun _ => 0) (25 : Int32).toNatClampNeg 0)))] H := hP
  have hD : va_D (va_A (w_countSlips cI cZ cP pr prw lft lea nw keys moms lens prts luds hnds lats knds rch spd unN unH ptn) sz) [(pr, .inr (4, [.int 0, .ref prw, .ref lft, .ref lea])), (nw, .inr (3, [.int 2, .int 0, .ref keys, .ref moms, .ref lens, .ref prts, .ref luds, .ref hnds, .ref lats, .ref knds, .ref rch, .ref spd, .int 0, .int 0, .int 0, .ref unN, .ref unH, .ref ptn])), (lft, .inl (cI, 56, .inl (upd (fun _ => 0) (25 : Int32).toNatClampNeg 0)))] := hD
  rw [upd_c] at hP hD
  have hP : va_P D vwCl [(pr, .inr (4, [.int 0, .ref prw, .ref lft, .ref lea])), (nw, .inr (3, [.int 2, .int 0, .ref keys, .ref moms, .ref lens, .ref prts, .ref luds, .ref hnds, .ref lats, .ref knds, .ref rch, .ref spd, .int 0, .int 0, .int 0, .ref unN, .ref unH, .ref ptn])), (lft, .inl (cI, 56, .inl (fun _ => 0)))] H := hP
  have hD : va_D (va_A (w_countSlips cI cZ cP pr prw lft lea nw keys moms lens prts luds hnds lats knds rch spd unN unH ptn) sz) [(pr, .inr (4, [.int 0, .ref prw, .ref lft, .ref lea])), (nw, .inr (3, [.int 2, .int 0, .ref keys, .ref moms, .ref lens, .ref prts, .ref luds, .ref hnds, .ref lats, .ref knds, .ref rch, .ref spd, .int 0, .int 0, .int 0, .ref unN, .ref unH, .ref ptn])), (lft, .inl (cI, 56, .inl (fun _ => 0)))] := hD
  refine lv_iinc (v := 5) (lv' := [(3, .int 5), (2, .int 3), (0, .ref pr), (1, .ref nw)]) hx hb dX4_countSlips_155 hl (k := 0) rfl (by decide) (by decide) rfl (fun ls hl => ?_)
  refine lv_goto (tgt := 121) hx hb dX4_countSlips_158 (by decide) ?_
  refine lv_iload_n hx hb dX4_countSlips_121 rfl (lv_at hl 0 rfl) ?_
  refine lv_bipush (v := 6) hx hb dX4_countSlips_122 (by decide) ?_
  refine lv_icmp_gt (tgt := 161) hx hb dX4_countSlips_124 (by decide) (fun c_32 => absurd c_32 (by decide)) (fun _ => ?_)
  refine lv_aload_n hx hb dX4_countSlips_127 rfl (lv_at hl 2 rfl) ?_
  refine va_get (D := D) (ci := 4) (v := .ref lft) (C := RX4) (T := TX4) (N := 4) hx hb ht inX4 hown hK hP 0 rfl rfl 2 (Nat.le_of_ble_eq_true rfl) (ht _ kw_326) (fun _ h9 => h9) rfl dX4_countSlips_128 ?_
  refine lv_iload_n hx hb dX4_countSlips_131 rfl (lv_at hl 1 rfl) ?_
  refine lv_bipush (v := 7) hx hb dX4_countSlips_132 (by decide) ?_
  refine lv_imul hx hb dX4_countSlips_134 ?_
  refine q_i (z := 21) (by decide) ?_
  refine lv_iload_n hx hb dX4_countSlips_135 rfl (lv_at hl 0 rfl) ?_
  refine lv_iadd hx hb dX4_countSlips_136 ?_
  refine q_i (z := 26) (by decide) ?_
  refine lv_aload_n hx hb dX4_countSlips_137 rfl (lv_at hl 2 rfl) ?_
  refine va_get (D := D) (ci := 4) (v := .ref lft) (C := RX4) (T := TX4) (N := 4) hx hb ht inX4 hown hK hP 0 rfl rfl 2 (Nat.le_of_ble_eq_true rfl) (ht _ kw_326) (fun _ h9 => h9) rfl dX4_countSlips_138 ?_
  refine lv_iload_n hx hb dX4_countSlips_141 rfl (lv_at hl 1 rfl) ?_
  refine lv_bipush (v := 7) hx hb dX4_countSlips_142 (by decide) ?_
  refine lv_imul hx hb dX4_countSlips_144 ?_
  refine q_i (z := 21) (by decide) ?_
  refine lv_iload_n hx hb dX4_countSlips_145 rfl (lv_at hl 0 rfl) ?_
  refine lv_iadd hx hb dX4_countSlips_146 ?_
  refine q_i (z := 26) (by decide) ?_
  refine lv_iconst (v := 1) hx hb dX4_countSlips_147 (by decide) ?_
  refine lv_isub hx hb dX4_countSlips_148 ?_
  refine q_i (z := 25) (by decide) ?_
  refine va_iald hx hb hK hP 2 0 rfl rfl (vin (by decide)) dX4_countSlips_149 ?_
  refine q_i (z := 0) rfl ?_
  refine lv_iconst (v := 3) hx hb dX4_countSlips_150 (by decide) ?_
  refine lv_imul hx hb dX4_countSlips_151 ?_
  refine q_i (z := 0) (by decide) ?_
  refine lv_iconst (v := 4) hx hb dX4_countSlips_152 (by decide) ?_
  refine lv_idiv hx hb dX4_countSlips_153 (by decide) ?_
  refine q_i (z := 0) (by decide) ?_
  refine va_iast hx hb hK hP hD hS 2 0 rfl rfl (vin (by decide)) dX4_countSlips_154 (fun H locs hP hD hS => ?_)
  have hP : va_P D vwCl [(pr, .inr (4, [.int 0, .ref prw, .ref lft, .ref lea])), (nw, .inr (3, [.int 2, .int 0, .ref keys, .ref moms, .ref lens, .ref prts, .ref luds, .ref hnds, .ref lats, .ref knds, .ref rch, .ref spd, .int 0, .int 0, .int 0, .ref unN, .ref unH, .ref ptn])), (lft, .inl (cI, 56, .inl (upd (fun _ => 0) (26 : Int32).toNatClampNeg 0)))] H := hP
  have hD : va_D (va_A (w_countSlips cI cZ cP pr prw lft lea nw keys moms lens prts luds hnds lats knds rch spd unN unH ptn) sz) [(pr, .inr (4, [.int 0, .ref prw, .ref lft, .ref lea])), (nw, .inr (3, [.int 2, .int 0, .ref keys, .ref moms, .ref lens, .ref prts, .ref luds, .ref hnds, .ref lats, .ref knds, .ref rch, .ref spd, .int 0, .int 0, .int 0, .ref unN, .ref unH, .ref ptn])), (lft, .inl (cI, 56, .inl (upd (fun _ => 0) (26 : Int32).toNatClampNeg 0)))] := hD
  rw [upd_c] at hP hD
  have hP : va_P D vwCl [(pr, .inr (4, [.int 0, .ref prw, .ref lft, .ref lea])), (nw, .inr (3, [.int 2, .int 0, .ref keys, .ref moms, .ref lens, .ref prts, .ref luds, .ref hnds, .ref lats, .ref knds, .ref rch, .ref spd, .int 0, .int 0, .int 0, .ref unN, .ref unH, .ref ptn])), (lft, .inl (cI, 56, .inl (fun _ => 0)))] H := hP
  have hD : va_D (va_A (w_countSlips cI cZ cP pr prw lft lea nw keys moms lens prts luds hnds lats knds rch spd unN unH ptn) sz) [(pr, .inr (4, [.int 0, .ref prw, .ref lft, .ref lea])), (nw, .inr (3, [.int 2, .int 0, .ref keys, .ref moms, .ref lens, .ref prts, .ref luds, .ref hnds, .ref lats, .ref knds, .ref rch, .ref spd, .int 0, .int 0, .int 0, .ref unN, .ref unH, .ref ptn])), (lft, .inl (cI, 56, .inl (fun _ => 0)))] := hD
  refine lv_iinc (v := 6) (lv' := [(3, .int 6), (2, .int 3), (0, .ref pr), (1, .ref nw)]) hx hb dX4_countSlips_155 hl (k := 0) rfl (by decide) (by decide) rfl (fun ls hl => ?_)
  refine lv_goto (tgt := 121) hx hb dX4_countSlips_158 (by decide) ?_
  refine lv_iload_n hx hb dX4_countSlips_121 rfl (lv_at hl 0 rfl) ?_
  refine lv_bipush (v := 6) hx hb dX4_countSlips_122 (by decide) ?_
  refine lv_icmp_gt (tgt := 161) hx hb dX4_countSlips_124 (by decide) (fun c_33 => absurd c_33 (by decide)) (fun _ => ?_)
  refine lv_aload_n hx hb dX4_countSlips_127 rfl (lv_at hl 2 rfl) ?_
  refine va_get (D := D) (ci := 4) (v := .ref lft) (C := RX4) (T := TX4) (N := 4) hx hb ht inX4 hown hK hP 0 rfl rfl 2 (Nat.le_of_ble_eq_true rfl) (ht _ kw_326) (fun _ h9 => h9) rfl dX4_countSlips_128 ?_
  refine lv_iload_n hx hb dX4_countSlips_131 rfl (lv_at hl 1 rfl) ?_
  refine lv_bipush (v := 7) hx hb dX4_countSlips_132 (by decide) ?_
  refine lv_imul hx hb dX4_countSlips_134 ?_
  refine q_i (z := 21) (by decide) ?_
  refine lv_iload_n hx hb dX4_countSlips_135 rfl (lv_at hl 0 rfl) ?_
  refine lv_iadd hx hb dX4_countSlips_136 ?_
  refine q_i (z := 27) (by decide) ?_
  refine lv_aload_n hx hb dX4_countSlips_137 rfl (lv_at hl 2 rfl) ?_
  refine va_get (D := D) (ci := 4) (v := .ref lft) (C := RX4) (T := TX4) (N := 4) hx hb ht inX4 hown hK hP 0 rfl rfl 2 (Nat.le_of_ble_eq_true rfl) (ht _ kw_326) (fun _ h9 => h9) rfl dX4_countSlips_138 ?_
  refine lv_iload_n hx hb dX4_countSlips_141 rfl (lv_at hl 1 rfl) ?_
  refine lv_bipush (v := 7) hx hb dX4_countSlips_142 (by decide) ?_
  refine lv_imul hx hb dX4_countSlips_144 ?_
  refine q_i (z := 21) (by decide) ?_
  refine lv_iload_n hx hb dX4_countSlips_145 rfl (lv_at hl 0 rfl) ?_
  refine lv_iadd hx hb dX4_countSlips_146 ?_
  refine q_i (z := 27) (by decide) ?_
  refine lv_iconst (v := 1) hx hb dX4_countSlips_147 (by decide) ?_
  refine lv_isub hx hb dX4_countSlips_148 ?_
  refine q_i (z := 26) (by decide) ?_
  refine va_iald hx hb hK hP 2 0 rfl rfl (vin (by decide)) dX4_countSlips_149 ?_
  refine q_i (z := 0) rfl ?_
  refine lv_iconst (v := 3) hx hb dX4_countSlips_150 (by decide) ?_
  refine lv_imul hx hb dX4_countSlips_151 ?_
  refine q_i (z := 0) (by decide) ?_
  refine lv_iconst (v := 4) hx hb dX4_countSlips_152 (by decide) ?_
  refine lv_idiv hx hb dX4_countSlips_153 (by decide) ?_
  refine q_i (z := 0) (by decide) ?_
  refine va_iast hx hb hK hP hD hS 2 0 rfl rfl (vin (by decide)) dX4_countSlips_154 (fun H locs hP hD hS => ?_)
  have hP : va_P D vwCl [(pr, .inr (4, [.int 0, .ref prw, .ref lft, .ref lea])), (nw, .inr (3, [.int 2, .int 0, .ref keys, .ref moms, .ref lens, .ref prts, .ref luds, .ref hnds, .ref lats, .ref knds, .ref rch, .ref spd, .int 0, .int 0, .int 0, .ref unN, .ref unH, .ref ptn])), (lft, .inl (cI, 56, .inl (upd (fun _ => 0) (27 : Int32).toNatClampNeg 0)))] H := hP
  have hD : va_D (va_A (w_countSlips cI cZ cP pr prw lft lea nw keys moms lens prts luds hnds lats knds rch spd unN unH ptn) sz) [(pr, .inr (4, [.int 0, .ref prw, .ref lft, .ref lea])), (nw, .inr (3, [.int 2, .int 0, .ref keys, .ref moms, .ref lens, .ref prts, .ref luds, .ref hnds, .ref lats, .ref knds, .ref rch, .ref spd, .int 0, .int 0, .int 0, .ref unN, .ref unH, .ref ptn])), (lft, .inl (cI, 56, .inl (upd (fun _ => 0) (27 : Int32).toNatClampNeg 0)))] := hD
  rw [upd_c] at hP hD
  have hP : va_P D vwCl [(pr, .inr (4, [.int 0, .ref prw, .ref lft, .ref lea])), (nw, .inr (3, [.int 2, .int 0, .ref keys, .ref moms, .ref lens, .ref prts, .ref luds, .ref hnds, .ref lats, .ref knds, .ref rch, .ref spd, .int 0, .int 0, .int 0, .ref unN, .ref unH, .ref ptn])), (lft, .inl (cI, 56, .inl (fun _ => 0)))] H := hP
  have hD : va_D (va_A (w_countSlips cI cZ cP pr prw lft lea nw keys moms lens prts luds hnds lats knds rch spd unN unH ptn) sz) [(pr, .inr (4, [.int 0, .ref prw, .ref lft, .ref lea])), (nw, .inr (3, [.int 2, .int 0, .ref keys, .ref moms, .ref lens, .ref prts, .ref luds, .ref hnds, .ref lats, .ref knds, .ref rch, .ref spd, .int 0, .int 0, .int 0, .ref unN, .ref unH, .ref ptn])), (lft, .inl (cI, 56, .inl (fun _ => 0)))] := hD
  refine lv_iinc (v := 7) (lv' := [(3, .int 7), (2, .int 3), (0, .ref pr), (1, .ref nw)]) hx hb dX4_countSlips_155 hl (k := 0) rfl (by decide) (by decide) rfl (fun ls hl => ?_)
  refine lv_goto (tgt := 121) hx hb dX4_countSlips_158 (by decide) ?_
  refine lv_iload_n hx hb dX4_countSlips_121 rfl (lv_at hl 0 rfl) ?_
  refine lv_bipush (v := 6) hx hb dX4_countSlips_122 (by decide) ?_
  refine lv_icmp_gt (tgt := 161) hx hb dX4_countSlips_124 (by decide) (fun _ => ?_) (fun c_34 => absurd (by decide) c_34)
  refine lv_iinc (v := 4) (lv' := [(2, .int 4), (3, .int 7), (0, .ref pr), (1, .ref nw)]) hx hb dX4_countSlips_161 hl (k := 1) rfl (by decide) (by decide) rfl (fun ls hl => ?_)
  refine lv_goto (tgt := 113) hx hb dX4_countSlips_164 (by decide) ?_
  refine lv_iload_n hx hb dX4_countSlips_113 rfl (lv_at hl 0 rfl) ?_
  refine lv_bipush (v := 8) hx hb dX4_countSlips_114 (by decide) ?_
  refine lv_icmp_ge (tgt := 167) hx hb dX4_countSlips_116 (by decide) (fun c_35 => absurd c_35 (by decide)) (fun _ => ?_)
  refine lv_iconst (v := 1) hx hb dX4_countSlips_119 (by decide) ?_
  refine lv_istore_n (lv' := [(3, .int 1), (2, .int 4), (0, .ref pr), (1, .ref nw)]) hx hb dX4_countSlips_120 rfl hl (by decide) rfl (fun ls hl => ?_)
  refine lv_iload_n hx hb dX4_countSlips_121 rfl (lv_at hl 0 rfl) ?_
  refine lv_bipush (v := 6) hx hb dX4_countSlips_122 (by decide) ?_
  refine lv_icmp_gt (tgt := 161) hx hb dX4_countSlips_124 (by decide) (fun c_36 => absurd c_36 (by decide)) (fun _ => ?_)
  refine lv_aload_n hx hb dX4_countSlips_127 rfl (lv_at hl 2 rfl) ?_
  refine va_get (D := D) (ci := 4) (v := .ref lft) (C := RX4) (T := TX4) (N := 4) hx hb ht inX4 hown hK hP 0 rfl rfl 2 (Nat.le_of_ble_eq_true rfl) (ht _ kw_326) (fun _ h9 => h9) rfl dX4_countSlips_128 ?_
  refine lv_iload_n hx hb dX4_countSlips_131 rfl (lv_at hl 1 rfl) ?_
  refine lv_bipush (v := 7) hx hb dX4_countSlips_132 (by decide) ?_
  refine lv_imul hx hb dX4_countSlips_134 ?_
  refine q_i (z := 28) (by decide) ?_
  refine lv_iload_n hx hb dX4_countSlips_135 rfl (lv_at hl 0 rfl) ?_
  refine lv_iadd hx hb dX4_countSlips_136 ?_
  refine q_i (z := 29) (by decide) ?_
  refine lv_aload_n hx hb dX4_countSlips_137 rfl (lv_at hl 2 rfl) ?_
  refine va_get (D := D) (ci := 4) (v := .ref lft) (C := RX4) (T := TX4) (N := 4) hx hb ht inX4 hown hK hP 0 rfl rfl 2 (Nat.le_of_ble_eq_true rfl) (ht _ kw_326) (fun _ h9 => h9) rfl dX4_countSlips_138 ?_
  refine lv_iload_n hx hb dX4_countSlips_141 rfl (lv_at hl 1 rfl) ?_
  refine lv_bipush (v := 7) hx hb dX4_countSlips_142 (by decide) ?_
  refine lv_imul hx hb dX4_countSlips_144 ?_
  refine q_i (z := 28) (by decide) ?_
  refine lv_iload_n hx hb dX4_countSlips_145 rfl (lv_at hl 0 rfl) ?_
  refine lv_iadd hx hb dX4_countSlips_146 ?_
  refine q_i (z := 29) (by decide) ?_
  refine lv_iconst (v := 1) hx hb dX4_countSlips_147 (by decide) ?_
  refine lv_isub hx hb dX4_countSlips_148 ?_
  refine q_i (z := 28) (by decide) ?_
  refine va_iald hx hb hK hP 2 0 rfl rfl (vin (by decide)) dX4_countSlips_149 ?_
  refine q_i (z := 0) rfl ?_
  refine lv_iconst (v := 3) hx hb dX4_countSlips_150 (by decide) ?_
  refine lv_imul hx hb dX4_countSlips_151 ?_
  refine q_i (z := 0) (by decide) ?_
  refine lv_iconst (v := 4) hx hb dX4_countSlips_152 (by decide) ?_
  refine lv_idiv hx hb dX4_countSlips_153 (by decide) ?_
  refine q_i (z := 0) (by decide) ?_
  refine va_iast hx hb hK hP hD hS 2 0 rfl rfl (vin (by decide)) dX4_countSlips_154 (fun H locs hP hD hS => ?_)
  have hP : va_P D vwCl [(pr, .inr (4, [.int 0, .ref prw, .ref lft, .ref lea])), (nw, .inr (3, [.int 2, .int 0, .ref keys, .ref moms, .ref lens, .ref prts, .ref luds, .ref hnds, .ref lats, .ref knds, .ref rch, .ref spd, .int 0, .int 0, .int 0, .ref unN, .ref unH, .ref ptn])), (lft, .inl (cI, 56, .inl (upd (fun _ => 0) (29 : Int32).toNatClampNeg 0)))] H := hP
  have hD : va_D (va_A (w_countSlips cI cZ cP pr prw lft lea nw keys moms lens prts luds hnds lats knds rch spd unN unH ptn) sz) [(pr, .inr (4, [.int 0, .ref prw, .ref lft, .ref lea])), (nw, .inr (3, [.int 2, .int 0, .ref keys, .ref moms, .ref lens, .ref prts, .ref luds, .ref hnds, .ref lats, .ref knds, .ref rch, .ref spd, .int 0, .int 0, .int 0, .ref unN, .ref unH, .ref ptn])), (lft, .inl (cI, 56, .inl (upd (fun _ => 0) (29 : Int32).toNatClampNeg 0)))] := hD
  rw [upd_c] at hP hD
  have hP : va_P D vwCl [(pr, .inr (4, [.int 0, .ref prw, .ref lft, .ref lea])), (nw, .inr (3, [.int 2, .int 0, .ref keys, .ref moms, .ref lens, .ref prts, .ref luds, .ref hnds, .ref lats, .ref knds, .ref rch, .ref spd, .int 0, .int 0, .int 0, .ref unN, .ref unH, .ref ptn])), (lft, .inl (cI, 56, .inl (fun _ => 0)))] H := hP
  have hD : va_D (va_A (w_countSlips cI cZ cP pr prw lft lea nw keys moms lens prts luds hnds lats knds rch spd unN unH ptn) sz) [(pr, .inr (4, [.int 0, .ref prw, .ref lft, .ref lea])), (nw, .inr (3, [.int 2, .int 0, .ref keys, .ref moms, .ref lens, .ref prts, .ref luds, .ref hnds, .ref lats, .ref knds, .ref rch, .ref spd, .int 0, .int 0, .int 0, .ref unN, .ref unH, .ref ptn])), (lft, .inl (cI, 56, .inl (fun _ => 0)))] := hD
  refine lv_iinc (v := 2) (lv' := [(3, .int 2), (2, .int 4), (0, .ref pr), (1, .ref nw)]) hx hb dX4_countSlips_155 hl (k := 0) rfl (by decide) (by decide) rfl (fun ls hl => ?_)
  refine lv_goto (tgt := 121) hx hb dX4_countSlips_158 (by decide) ?_
  refine lv_iload_n hx hb dX4_countSlips_121 rfl (lv_at hl 0 rfl) ?_
  refine lv_bipush (v := 6) hx hb dX4_countSlips_122 (by decide) ?_
  refine lv_icmp_gt (tgt := 161) hx hb dX4_countSlips_124 (by decide) (fun c_37 => absurd c_37 (by decide)) (fun _ => ?_)
  refine lv_aload_n hx hb dX4_countSlips_127 rfl (lv_at hl 2 rfl) ?_
  refine va_get (D := D) (ci := 4) (v := .ref lft) (C := RX4) (T := TX4) (N := 4) hx hb ht inX4 hown hK hP 0 rfl rfl 2 (Nat.le_of_ble_eq_true rfl) (ht _ kw_326) (fun _ h9 => h9) rfl dX4_countSlips_128 ?_
  refine lv_iload_n hx hb dX4_countSlips_131 rfl (lv_at hl 1 rfl) ?_
  refine lv_bipush (v := 7) hx hb dX4_countSlips_132 (by decide) ?_
  refine lv_imul hx hb dX4_countSlips_134 ?_
  refine q_i (z := 28) (by decide) ?_
  refine lv_iload_n hx hb dX4_countSlips_135 rfl (lv_at hl 0 rfl) ?_
  refine lv_iadd hx hb dX4_countSlips_136 ?_
  refine q_i (z := 30) (by decide) ?_
  refine lv_aload_n hx hb dX4_countSlips_137 rfl (lv_at hl 2 rfl) ?_
  refine va_get (D := D) (ci := 4) (v := .ref lft) (C := RX4) (T := TX4) (N := 4) hx hb ht inX4 hown hK hP 0 rfl rfl 2 (Nat.le_of_ble_eq_true rfl) (ht _ kw_326) (fun _ h9 => h9) rfl dX4_countSlips_138 ?_
  refine lv_iload_n hx hb dX4_countSlips_141 rfl (lv_at hl 1 rfl) ?_
  refine lv_bipush (v := 7) hx hb dX4_countSlips_142 (by decide) ?_
  refine lv_imul hx hb dX4_countSlips_144 ?_
  refine q_i (z := 28) (by decide) ?_
  refine lv_iload_n hx hb dX4_countSlips_145 rfl (lv_at hl 0 rfl) ?_
  refine lv_iadd hx hb dX4_countSlips_146 ?_
  refine q_i (z := 30) (by decide) ?_
  refine lv_iconst (v := 1) hx hb dX4_countSlips_147 (by decide) ?_
  refine lv_isub hx hb dX4_countSlips_148 ?_
  refine q_i (z := 29) (by decide) ?_
  refine va_iald hx hb hK hP 2 0 rfl rfl (vin (by decide)) dX4_countSlips_149 ?_
  refine q_i (z := 0) rfl ?_
  refine lv_iconst (v := 3) hx hb dX4_countSlips_150 (by decide) ?_
  refine lv_imul hx hb dX4_countSlips_151 ?_
  refine q_i (z := 0) (by decide) ?_
  refine lv_iconst (v := 4) hx hb dX4_countSlips_152 (by decide) ?_
  refine lv_idiv hx hb dX4_countSlips_153 (by decide) ?_
  refine q_i (z := 0) (by decide) ?_
  refine va_iast hx hb hK hP hD hS 2 0 rfl rfl (vin (by decide)) dX4_countSlips_154 (fun H locs hP hD hS => ?_)
  have hP : va_P D vwCl [(pr, .inr (4, [.int 0, .ref prw, .ref lft, .ref lea])), (nw, .inr (3, [.int 2, .int 0, .ref keys, .ref moms, .ref lens, .ref prts, .ref luds, .ref hnds, .ref lats, .ref knds, .ref rch, .ref spd, .int 0, .int 0, .int 0, .ref unN, .ref unH, .ref ptn])), (lft, .inl (cI, 56, .inl (upd (fun _ => 0) (30 : Int32).toNatClampNeg 0)))] H := hP
  have hD : va_D (va_A (w_countSlips cI cZ cP pr prw lft lea nw keys moms lens prts luds hnds lats knds rch spd unN unH ptn) sz) [(pr, .inr (4, [.int 0, .ref prw, .ref lft, .ref lea])), (nw, .inr (3, [.int 2, .int 0, .ref keys, .ref moms, .ref lens, .ref prts, .ref luds, .ref hnds, .ref lats, .ref knds, .ref rch, .ref spd, .int 0, .int 0, .int 0, .ref unN, .ref unH, .ref ptn])), (lft, .inl (cI, 56, .inl (upd (fun _ => 0) (30 : Int32).toNatClampNeg 0)))] := hD
  rw [upd_c] at hP hD
  have hP : va_P D vwCl [(pr, .inr (4, [.int 0, .ref prw, .ref lft, .ref lea])), (nw, .inr (3, [.int 2, .int 0, .ref keys, .ref moms, .ref lens, .ref prts, .ref luds, .ref hnds, .ref lats, .ref knds, .ref rch, .ref spd, .int 0, .int 0, .int 0, .ref unN, .ref unH, .ref ptn])), (lft, .inl (cI, 56, .inl (fun _ => 0)))] H := hP
  have hD : va_D (va_A (w_countSlips cI cZ cP pr prw lft lea nw keys moms lens prts luds hnds lats knds rch spd unN unH ptn) sz) [(pr, .inr (4, [.int 0, .ref prw, .ref lft, .ref lea])), (nw, .inr (3, [.int 2, .int 0, .ref keys, .ref moms, .ref lens, .ref prts, .ref luds, .ref hnds, .ref lats, .ref knds, .ref rch, .ref spd, .int 0, .int 0, .int 0, .ref unN, .ref unH, .ref ptn])), (lft, .inl (cI, 56, .inl (fun _ => 0)))] := hD
  refine lv_iinc (v := 3) (lv' := [(3, .int 3), (2, .int 4), (0, .ref pr), (1, .ref nw)]) hx hb dX4_countSlips_155 hl (k := 0) rfl (by decide) (by decide) rfl (fun ls hl => ?_)
  refine lv_goto (tgt := 121) hx hb dX4_countSlips_158 (by decide) ?_
  refine lv_iload_n hx hb dX4_countSlips_121 rfl (lv_at hl 0 rfl) ?_
  refine lv_bipush (v := 6) hx hb dX4_countSlips_122 (by decide) ?_
  refine lv_icmp_gt (tgt := 161) hx hb dX4_countSlips_124 (by decide) (fun c_38 => absurd c_38 (by decide)) (fun _ => ?_)
  refine lv_aload_n hx hb dX4_countSlips_127 rfl (lv_at hl 2 rfl) ?_
  refine va_get (D := D) (ci := 4) (v := .ref lft) (C := RX4) (T := TX4) (N := 4) hx hb ht inX4 hown hK hP 0 rfl rfl 2 (Nat.le_of_ble_eq_true rfl) (ht _ kw_326) (fun _ h9 => h9) rfl dX4_countSlips_128 ?_
  refine lv_iload_n hx hb dX4_countSlips_131 rfl (lv_at hl 1 rfl) ?_
  refine lv_bipush (v := 7) hx hb dX4_countSlips_132 (by decide) ?_
  refine lv_imul hx hb dX4_countSlips_134 ?_
  refine q_i (z := 28) (by decide) ?_
  refine lv_iload_n hx hb dX4_countSlips_135 rfl (lv_at hl 0 rfl) ?_
  refine lv_iadd hx hb dX4_countSlips_136 ?_
  refine q_i (z := 31) (by decide) ?_
  refine lv_aload_n hx hb dX4_countSlips_137 rfl (lv_at hl 2 rfl) ?_
  refine va_get (D := D) (ci := 4) (v := .ref lft) (C := RX4) (T := TX4) (N := 4) hx hb ht inX4 hown hK hP 0 rfl rfl 2 (Nat.le_of_ble_eq_true rfl) (ht _ kw_326) (fun _ h9 => h9) rfl dX4_countSlips_138 ?_
  refine lv_iload_n hx hb dX4_countSlips_141 rfl (lv_at hl 1 rfl) ?_
  refine lv_bipush (v := 7) hx hb dX4_countSlips_142 (by decide) ?_
  refine lv_imul hx hb dX4_countSlips_144 ?_
  refine q_i (z := 28) (by decide) ?_
  refine lv_iload_n hx hb dX4_countSlips_145 rfl (lv_at hl 0 rfl) ?_
  refine lv_iadd hx hb dX4_countSlips_146 ?_
  refine q_i (z := 31) (by decide) ?_
  refine lv_iconst (v := 1) hx hb dX4_countSlips_147 (by decide) ?_
  refine lv_isub hx hb dX4_countSlips_148 ?_
  refine q_i (z := 30) (by decide) ?_
  refine va_iald hx hb hK hP 2 0 rfl rfl (vin (by decide)) dX4_countSlips_149 ?_
  refine q_i (z := 0) rfl ?_
  refine lv_iconst (v := 3) hx hb dX4_countSlips_150 (by decide) ?_
  refine lv_imul hx hb dX4_countSlips_151 ?_
  refine q_i (z := 0) (by decide) ?_
  refine lv_iconst (v := 4) hx hb dX4_countSlips_152 (by decide) ?_
  refine lv_idiv hx hb dX4_countSlips_153 (by decide) ?_
  refine q_i (z := 0) (by decide) ?_
  refine va_iast hx hb hK hP hD hS 2 0 rfl rfl (vin (by decide)) dX4_countSlips_154 (fun H locs hP hD hS => ?_)
  have hP : va_P D vwCl [(pr, .inr (4, [.int 0, .ref prw, .ref lft, .ref lea])), (nw, .inr (3, [.int 2, .int 0, .ref keys, .ref moms, .ref lens, .ref prts, .ref luds, .ref hnds, .ref lats, .ref knds, .ref rch, .ref spd, .int 0, .int 0, .int 0, .ref unN, .ref unH, .ref ptn])), (lft, .inl (cI, 56, .inl (upd (fun _ => 0) (31 : Int32).toNatClampNeg 0)))] H := hP
  have hD : va_D (va_A (w_countSlips cI cZ cP pr prw lft lea nw keys moms lens prts luds hnds lats knds rch spd unN unH ptn) sz) [(pr, .inr (4, [.int 0, .ref prw, .ref lft, .ref lea])), (nw, .inr (3, [.int 2, .int 0, .ref keys, .ref moms, .ref lens, .ref prts, .ref luds, .ref hnds, .ref lats, .ref knds, .ref rch, .ref spd, .int 0, .int 0, .int 0, .ref unN, .ref unH, .ref ptn])), (lft, .inl (cI, 56, .inl (upd (fun _ => 0) (31 : Int32).toNatClampNeg 0)))] := hD
  rw [upd_c] at hP hD
  have hP : va_P D vwCl [(pr, .inr (4, [.int 0, .ref prw, .ref lft, .ref lea])), (nw, .inr (3, [.int 2, .int 0, .ref keys, .ref moms, .ref lens, .ref prts, .ref luds, .ref hnds, .ref lats, .ref knds, .ref rch, .ref spd, .int 0, .int 0, .int 0, .ref unN, .ref unH, .ref ptn])), (lft, .inl (cI, 56, .inl (fun _ => 0)))] H := hP
  have hD : va_D (va_A (w_countSlips cI cZ cP pr prw lft lea nw keys moms lens prts luds hnds lats knds rch spd unN unH ptn) sz) [(pr, .inr (4, [.int 0, .ref prw, .ref lft, .ref lea])), (nw, .inr (3, [.int 2, .int 0, .ref keys, .ref moms, .ref lens, .ref prts, .ref luds, .ref hnds, .ref lats, .ref knds, .ref rch, .ref spd, .int 0, .int 0, .int 0, .ref unN, .ref unH, .ref ptn])), (lft, .inl (cI, 56, .inl (fun _ => 0)))] := hD
  refine lv_iinc (v := 4) (lv' := [(3, .int 4), (2, .int 4), (0, .ref pr), (1, .ref nw)]) hx hb dX4_countSlips_155 hl (k := 0) rfl (by decide) (by decide) rfl (fun ls hl => ?_)
  refine lv_goto (tgt := 121) hx hb dX4_countSlips_158 (by decide) ?_
  refine lv_iload_n hx hb dX4_countSlips_121 rfl (lv_at hl 0 rfl) ?_
  refine lv_bipush (v := 6) hx hb dX4_countSlips_122 (by decide) ?_
  refine lv_icmp_gt (tgt := 161) hx hb dX4_countSlips_124 (by decide) (fun c_39 => absurd c_39 (by decide)) (fun _ => ?_)
  refine lv_aload_n hx hb dX4_countSlips_127 rfl (lv_at hl 2 rfl) ?_
  refine va_get (D := D) (ci := 4) (v := .ref lft) (C := RX4) (T := TX4) (N := 4) hx hb ht inX4 hown hK hP 0 rfl rfl 2 (Nat.le_of_ble_eq_true rfl) (ht _ kw_326) (fun _ h9 => h9) rfl dX4_countSlips_128 ?_
  refine lv_iload_n hx hb dX4_countSlips_131 rfl (lv_at hl 1 rfl) ?_
  refine lv_bipush (v := 7) hx hb dX4_countSlips_132 (by decide) ?_
  refine lv_imul hx hb dX4_countSlips_134 ?_
  refine q_i (z := 28) (by decide) ?_
  refine lv_iload_n hx hb dX4_countSlips_135 rfl (lv_at hl 0 rfl) ?_
  refine lv_iadd hx hb dX4_countSlips_136 ?_
  refine q_i (z := 32) (by decide) ?_
  refine lv_aload_n hx hb dX4_countSlips_137 rfl (lv_at hl 2 rfl) ?_
  refine va_get (D := D) (ci := 4) (v := .ref lft) (C := RX4) (T := TX4) (N := 4) hx hb ht inX4 hown hK hP 0 rfl rfl 2 (Nat.le_of_ble_eq_true rfl) (ht _ kw_326) (fun _ h9 => h9) rfl dX4_countSlips_138 ?_
  refine lv_iload_n hx hb dX4_countSlips_141 rfl (lv_at hl 1 rfl) ?_
  refine lv_bipush (v := 7) hx hb dX4_countSlips_142 (by decide) ?_
  refine lv_imul hx hb dX4_countSlips_144 ?_
  refine q_i (z := 28) (by decide) ?_
  refine lv_iload_n hx hb dX4_countSlips_145 rfl (lv_at hl 0 rfl) ?_
  refine lv_iadd hx hb dX4_countSlips_146 ?_
  refine q_i (z := 32) (by decide) ?_
  refine lv_iconst (v := 1) hx hb dX4_countSlips_147 (by decide) ?_
  refine lv_isub hx hb dX4_countSlips_148 ?_
  refine q_i (z := 31) (by decide) ?_
  refine va_iald hx hb hK hP 2 0 rfl rfl (vin (by decide)) dX4_countSlips_149 ?_
  refine q_i (z := 0) rfl ?_
  refine lv_iconst (v := 3) hx hb dX4_countSlips_150 (by decide) ?_
  refine lv_imul hx hb dX4_countSlips_151 ?_
  refine q_i (z := 0) (by decide) ?_
  refine lv_iconst (v := 4) hx hb dX4_countSlips_152 (by decide) ?_
  refine lv_idiv hx hb dX4_countSlips_153 (by decide) ?_
  refine q_i (z := 0) (by decide) ?_
  refine va_iast hx hb hK hP hD hS 2 0 rfl rfl (vin (by decide)) dX4_countSlips_154 (fun H locs hP hD hS => ?_)
  have hP : va_P D vwCl [(pr, .inr (4, [.int 0, .ref prw, .ref lft, .ref lea])), (nw, .inr (3, [.int 2, .int 0, .ref keys, .ref moms, .ref lens, .ref prts, .ref luds, .ref hnds, .ref lats, .ref knds, .ref rch, .ref spd, .int 0, .int 0, .int 0, .ref unN, .ref unH, .ref ptn])), (lft, .inl (cI, 56, .inl (upd (fun _ => 0) (32 : Int32).toNatClampNeg 0)))] H := hP
  have hD : va_D (va_A (w_countSlips cI cZ cP pr prw lft lea nw keys moms lens prts luds hnds lats knds rch spd unN unH ptn) sz) [(pr, .inr (4, [.int 0, .ref prw, .ref lft, .ref lea])), (nw, .inr (3, [.int 2, .int 0, .ref keys, .ref moms, .ref lens, .ref prts, .ref luds, .ref hnds, .ref lats, .ref knds, .ref rch, .ref spd, .int 0, .int 0, .int 0, .ref unN, .ref unH, .ref ptn])), (lft, .inl (cI, 56, .inl (upd (fun _ => 0) (32 : Int32).toNatClampNeg 0)))] := hD
  rw [upd_c] at hP hD
  have hP : va_P D vwCl [(pr, .inr (4, [.int 0, .ref prw, .ref lft, .ref lea])), (nw, .inr (3, [.int 2, .int 0, .ref keys, .ref moms, .ref lens, .ref prts, .ref luds, .ref hnds, .ref lats, .ref knds, .ref rch, .ref spd, .int 0, .int 0, .int 0, .ref unN, .ref unH, .ref ptn])), (lft, .inl (cI, 56, .inl (fun _ => 0)))] H := hP
  have hD : va_D (va_A (w_countSlips cI cZ cP pr prw lft lea nw keys moms lens prts luds hnds lats knds rch spd unN unH ptn) sz) [(pr, .inr (4, [.int 0, .ref prw, .ref lft, .ref lea])), (nw, .inr (3, [.int 2, .int 0, .ref keys, .ref moms, .ref lens, .ref prts, .ref luds, .ref hnds, .ref lats, .ref knds, .ref rch, .ref spd, .int 0, .int 0, .int 0, .ref unN, .ref unH, .ref ptn])), (lft, .inl (cI, 56, .inl (fun _ => 0)))] := hD
  refine lv_iinc (v := 5) (lv' := [(3, .int 5), (2, .int 4), (0, .ref pr), (1, .ref nw)]) hx hb dX4_countSlips_155 hl (k := 0) rfl (by decide) (by decide) rfl (fun ls hl => ?_)
  refine lv_goto (tgt := 121) hx hb dX4_countSlips_158 (by decide) ?_
  refine lv_iload_n hx hb dX4_countSlips_121 rfl (lv_at hl 0 rfl) ?_
  refine lv_bipush (v := 6) hx hb dX4_countSlips_122 (by decide) ?_
  refine lv_icmp_gt (tgt := 161) hx hb dX4_countSlips_124 (by decide) (fun c_40 => absurd c_40 (by decide)) (fun _ => ?_)
  refine lv_aload_n hx hb dX4_countSlips_127 rfl (lv_at hl 2 rfl) ?_
  refine va_get (D := D) (ci := 4) (v := .ref lft) (C := RX4) (T := TX4) (N := 4) hx hb ht inX4 hown hK hP 0 rfl rfl 2 (Nat.le_of_ble_eq_true rfl) (ht _ kw_326) (fun _ h9 => h9) rfl dX4_countSlips_128 ?_
  refine lv_iload_n hx hb dX4_countSlips_131 rfl (lv_at hl 1 rfl) ?_
  refine lv_bipush (v := 7) hx hb dX4_countSlips_132 (by decide) ?_
  refine lv_imul hx hb dX4_countSlips_134 ?_
  refine q_i (z := 28) (by decide) ?_
  refine lv_iload_n hx hb dX4_countSlips_135 rfl (lv_at hl 0 rfl) ?_
  refine lv_iadd hx hb dX4_countSlips_136 ?_
  refine q_i (z := 33) (by decide) ?_
  refine lv_aload_n hx hb dX4_countSlips_137 rfl (lv_at hl 2 rfl) ?_
  refine va_get (D := D) (ci := 4) (v := .ref lft) (C := RX4) (T := TX4) (N := 4) hx hb ht inX4 hown hK hP 0 rfl rfl 2 (Nat.le_of_ble_eq_true rfl) (ht _ kw_326) (fun _ h9 => h9) rfl dX4_countSlips_138 ?_
  refine lv_iload_n hx hb dX4_countSlips_141 rfl (lv_at hl 1 rfl) ?_
  refine lv_bipush (v := 7) hx hb dX4_countSlips_142 (by decide) ?_
  refine lv_imul hx hb dX4_countSlips_144 ?_
  refine q_i (z := 28) (by decide) ?_
  refine lv_iload_n hx hb dX4_countSlips_145 rfl (lv_at hl 0 rfl) ?_
  refine lv_iadd hx hb dX4_countSlips_146 ?_
  refine q_i (z := 33) (by decide) ?_
  refine lv_iconst (v := 1) hx hb dX4_countSlips_147 (by decide) ?_
  refine lv_isub hx hb dX4_countSlips_148 ?_
  refine q_i (z := 32) (by decide) ?_
  refine va_iald hx hb hK hP 2 0 rfl rfl (vin (by decide)) dX4_countSlips_149 ?_
  refine q_i (z := 0) rfl ?_
  refine lv_iconst (v := 3) hx hb dX4_countSlips_150 (by decide) ?_
  refine lv_imul hx hb dX4_countSlips_151 ?_
  refine q_i (z := 0) (by decide) ?_
  refine lv_iconst (v := 4) hx hb dX4_countSlips_152 (by decide) ?_
  refine lv_idiv hx hb dX4_countSlips_153 (by decide) ?_
  refine q_i (z := 0) (by decide) ?_
  refine va_iast hx hb hK hP hD hS 2 0 rfl rfl (vin (by decide)) dX4_countSlips_154 (fun H locs hP hD hS => ?_)
  have hP : va_P D vwCl [(pr, .inr (4, [.int 0, .ref prw, .ref lft, .ref lea])), (nw, .inr (3, [.int 2, .int 0, .ref keys, .ref moms, .ref lens, .ref prts, .ref luds, .ref hnds, .ref lats, .ref knds, .ref rch, .ref spd, .int 0, .int 0, .int 0, .ref unN, .ref unH, .ref ptn])), (lft, .inl (cI, 56, .inl (upd (fun _ => 0) (33 : Int32).toNatClampNeg 0)))] H := hP
  have hD : va_D (va_A (w_countSlips cI cZ cP pr prw lft lea nw keys moms lens prts luds hnds lats knds rch spd unN unH ptn) sz) [(pr, .inr (4, [.int 0, .ref prw, .ref lft, .ref lea])), (nw, .inr (3, [.int 2, .int 0, .ref keys, .ref moms, .ref lens, .ref prts, .ref luds, .ref hnds, .ref lats, .ref knds, .ref rch, .ref spd, .int 0, .int 0, .int 0, .ref unN, .ref unH, .ref ptn])), (lft, .inl (cI, 56, .inl (upd (fun _ => 0) (33 : Int32).toNatClampNeg 0)))] := hD
  rw [upd_c] at hP hD
  have hP : va_P D vwCl [(pr, .inr (4, [.int 0, .ref prw, .ref lft, .ref lea])), (nw, .inr (3, [.int 2, .int 0, .ref keys, .ref moms, .ref lens, .ref prts, .ref luds, .ref hnds, .ref lats, .ref knds, .ref rch, .ref spd, .int 0, .int 0, .int 0, .ref unN, .ref unH, .ref ptn])), (lft, .inl (cI, 56, .inl (fun _ => 0)))] H := hP
  have hD : va_D (va_A (w_countSlips cI cZ cP pr prw lft lea nw keys moms lens prts luds hnds lats knds rch spd unN unH ptn) sz) [(pr, .inr (4, [.int 0, .ref prw, .ref lft, .ref lea])), (nw, .inr (3, [.int 2, .int 0, .ref keys, .ref moms, .ref lens, .ref prts, .ref luds, .ref hnds, .ref lats, .ref knds, .ref rch, .ref spd, .int 0, .int 0, .int 0, .ref unN, .ref unH, .ref ptn])), (lft, .inl (cI, 56, .inl (fun _ => 0)))] := hD
  refine lv_iinc (v := 6) (lv' := [(3, .int 6), (2, .int 4), (0, .ref pr), (1, .ref nw)]) hx hb dX4_countSlips_155 hl (k := 0) rfl (by decide) (by decide) rfl (fun ls hl => ?_)
  refine lv_goto (tgt := 121) hx hb dX4_countSlips_158 (by decide) ?_
  refine lv_iload_n hx hb dX4_countSlips_121 rfl (lv_at hl 0 rfl) ?_
  refine lv_bipush (v := 6) hx hb dX4_countSlips_122 (by decide) ?_
  refine lv_icmp_gt (tgt := 161) hx hb dX4_countSlips_124 (by decide) (fun c_41 => absurd c_41 (by decide)) (fun _ => ?_)
  refine lv_aload_n hx hb dX4_countSlips_127 rfl (lv_at hl 2 rfl) ?_
  refine va_get (D := D) (ci := 4) (v := .ref lft) (C := RX4) (T := TX4) (N := 4) hx hb ht inX4 hown hK hP 0 rfl rfl 2 (Nat.le_of_ble_eq_true rfl) (ht _ kw_326) (fun _ h9 => h9) rfl dX4_countSlips_128 ?_
  refine lv_iload_n hx hb dX4_countSlips_131 rfl (lv_at hl 1 rfl) ?_
  refine lv_bipush (v := 7) hx hb dX4_countSlips_132 (by decide) ?_
  refine lv_imul hx hb dX4_countSlips_134 ?_
  refine q_i (z := 28) (by decide) ?_
  refine lv_iload_n hx hb dX4_countSlips_135 rfl (lv_at hl 0 rfl) ?_
  refine lv_iadd hx hb dX4_countSlips_136 ?_
  refine q_i (z := 34) (by decide) ?_
  refine lv_aload_n hx hb dX4_countSlips_137 rfl (lv_at hl 2 rfl) ?_
  refine va_get (D := D) (ci := 4) (v := .ref lft) (C := RX4) (T := TX4) (N := 4) hx hb ht inX4 hown hK hP 0 rfl rfl 2 (Nat.le_of_ble_eq_true rfl) (ht _ kw_326) (fun _ h9 => h9) rfl dX4_countSlips_138 ?_
  refine lv_iload_n hx hb dX4_countSlips_141 rfl (lv_at hl 1 rfl) ?_
  refine lv_bipush (v := 7) hx hb dX4_countSlips_142 (by decide) ?_
  refine lv_imul hx hb dX4_countSlips_144 ?_
  refine q_i (z := 28) (by decide) ?_
  refine lv_iload_n hx hb dX4_countSlips_145 rfl (lv_at hl 0 rfl) ?_
  refine lv_iadd hx hb dX4_countSlips_146 ?_
  refine q_i (z := 34) (by decide) ?_
  refine lv_iconst (v := 1) hx hb dX4_countSlips_147 (by decide) ?_
  refine lv_isub hx hb dX4_countSlips_148 ?_
  refine q_i (z := 33) (by decide) ?_
  refine va_iald hx hb hK hP 2 0 rfl rfl (vin (by decide)) dX4_countSlips_149 ?_
  refine q_i (z := 0) rfl ?_
  refine lv_iconst (v := 3) hx hb dX4_countSlips_150 (by decide) ?_
  refine lv_imul hx hb dX4_countSlips_151 ?_
  refine q_i (z := 0) (by decide) ?_
  refine lv_iconst (v := 4) hx hb dX4_countSlips_152 (by decide) ?_
  refine lv_idiv hx hb dX4_countSlips_153 (by decide) ?_
  refine q_i (z := 0) (by decide) ?_
  refine va_iast hx hb hK hP hD hS 2 0 rfl rfl (vin (by decide)) dX4_countSlips_154 (fun H locs hP hD hS => ?_)
  have hP : va_P D vwCl [(pr, .inr (4, [.int 0, .ref prw, .ref lft, .ref lea])), (nw, .inr (3, [.int 2, .int 0, .ref keys, .ref moms, .ref lens, .ref prts, .ref luds, .ref hnds, .ref lats, .ref knds, .ref rch, .ref spd, .int 0, .int 0, .int 0, .ref unN, .ref unH, .ref ptn])), (lft, .inl (cI, 56, .inl (upd (fun _ => 0) (34 : Int32).toNatClampNeg 0)))] H := hP
  have hD : va_D (va_A (w_countSlips cI cZ cP pr prw lft lea nw keys moms lens prts luds hnds lats knds rch spd unN unH ptn) sz) [(pr, .inr (4, [.int 0, .ref prw, .ref lft, .ref lea])), (nw, .inr (3, [.int 2, .int 0, .ref keys, .ref moms, .ref lens, .ref prts, .ref luds, .ref hnds, .ref lats, .ref knds, .ref rch, .ref spd, .int 0, .int 0, .int 0, .ref unN, .ref unH, .ref ptn])), (lft, .inl (cI, 56, .inl (upd (fun _ => 0) (34 : Int32).toNatClampNeg 0)))] := hD
  rw [upd_c] at hP hD
  have hP : va_P D vwCl [(pr, .inr (4, [.int 0, .ref prw, .ref lft, .ref lea])), (nw, .inr (3, [.int 2, .int 0, .ref keys, .ref moms, .ref lens, .ref prts, .ref luds, .ref hnds, .ref lats, .ref knds, .ref rch, .ref spd, .int 0, .int 0, .int 0, .ref unN, .ref unH, .ref ptn])), (lft, .inl (cI, 56, .inl (fun _ => 0)))] H := hP
  have hD : va_D (va_A (w_countSlips cI cZ cP pr prw lft lea nw keys moms lens prts luds hnds lats knds rch spd unN unH ptn) sz) [(pr, .inr (4, [.int 0, .ref prw, .ref lft, .ref lea])), (nw, .inr (3, [.int 2, .int 0, .ref keys, .ref moms, .ref lens, .ref prts, .ref luds, .ref hnds, .ref lats, .ref knds, .ref rch, .ref spd, .int 0, .int 0, .int 0, .ref unN, .ref unH, .ref ptn])), (lft, .inl (cI, 56, .inl (fun _ => 0)))] := hD
  refine lv_iinc (v := 7) (lv' := [(3, .int 7), (2, .int 4), (0, .ref pr), (1, .ref nw)]) hx hb dX4_countSlips_155 hl (k := 0) rfl (by decide) (by decide) rfl (fun ls hl => ?_)
  refine lv_goto (tgt := 121) hx hb dX4_countSlips_158 (by decide) ?_
  refine lv_iload_n hx hb dX4_countSlips_121 rfl (lv_at hl 0 rfl) ?_
  refine lv_bipush (v := 6) hx hb dX4_countSlips_122 (by decide) ?_
  refine lv_icmp_gt (tgt := 161) hx hb dX4_countSlips_124 (by decide) (fun _ => ?_) (fun c_42 => absurd (by decide) c_42)
  refine lv_iinc (v := 5) (lv' := [(2, .int 5), (3, .int 7), (0, .ref pr), (1, .ref nw)]) hx hb dX4_countSlips_161 hl (k := 1) rfl (by decide) (by decide) rfl (fun ls hl => ?_)
  refine lv_goto (tgt := 113) hx hb dX4_countSlips_164 (by decide) ?_
  refine lv_iload_n hx hb dX4_countSlips_113 rfl (lv_at hl 0 rfl) ?_
  refine lv_bipush (v := 8) hx hb dX4_countSlips_114 (by decide) ?_
  refine lv_icmp_ge (tgt := 167) hx hb dX4_countSlips_116 (by decide) (fun c_43 => absurd c_43 (by decide)) (fun _ => ?_)
  refine lv_iconst (v := 1) hx hb dX4_countSlips_119 (by decide) ?_
  refine lv_istore_n (lv' := [(3, .int 1), (2, .int 5), (0, .ref pr), (1, .ref nw)]) hx hb dX4_countSlips_120 rfl hl (by decide) rfl (fun ls hl => ?_)
  refine lv_iload_n hx hb dX4_countSlips_121 rfl (lv_at hl 0 rfl) ?_
  refine lv_bipush (v := 6) hx hb dX4_countSlips_122 (by decide) ?_
  refine lv_icmp_gt (tgt := 161) hx hb dX4_countSlips_124 (by decide) (fun c_44 => absurd c_44 (by decide)) (fun _ => ?_)
  refine lv_aload_n hx hb dX4_countSlips_127 rfl (lv_at hl 2 rfl) ?_
  refine va_get (D := D) (ci := 4) (v := .ref lft) (C := RX4) (T := TX4) (N := 4) hx hb ht inX4 hown hK hP 0 rfl rfl 2 (Nat.le_of_ble_eq_true rfl) (ht _ kw_326) (fun _ h9 => h9) rfl dX4_countSlips_128 ?_
  refine lv_iload_n hx hb dX4_countSlips_131 rfl (lv_at hl 1 rfl) ?_
  refine lv_bipush (v := 7) hx hb dX4_countSlips_132 (by decide) ?_
  refine lv_imul hx hb dX4_countSlips_134 ?_
  refine q_i (z := 35) (by decide) ?_
  refine lv_iload_n hx hb dX4_countSlips_135 rfl (lv_at hl 0 rfl) ?_
  refine lv_iadd hx hb dX4_countSlips_136 ?_
  refine q_i (z := 36) (by decide) ?_
  refine lv_aload_n hx hb dX4_countSlips_137 rfl (lv_at hl 2 rfl) ?_
  refine va_get (D := D) (ci := 4) (v := .ref lft) (C := RX4) (T := TX4) (N := 4) hx hb ht inX4 hown hK hP 0 rfl rfl 2 (Nat.le_of_ble_eq_true rfl) (ht _ kw_326) (fun _ h9 => h9) rfl dX4_countSlips_138 ?_
  refine lv_iload_n hx hb dX4_countSlips_141 rfl (lv_at hl 1 rfl) ?_
  refine lv_bipush (v := 7) hx hb dX4_countSlips_142 (by decide) ?_
  refine lv_imul hx hb dX4_countSlips_144 ?_
  refine q_i (z := 35) (by decide) ?_
  refine lv_iload_n hx hb dX4_countSlips_145 rfl (lv_at hl 0 rfl) ?_
  refine lv_iadd hx hb dX4_countSlips_146 ?_
  refine q_i (z := 36) (by decide) ?_
  refine lv_iconst (v := 1) hx hb dX4_countSlips_147 (by decide) ?_
  refine lv_isub hx hb dX4_countSlips_148 ?_
  refine q_i (z := 35) (by decide) ?_
  refine va_iald hx hb hK hP 2 0 rfl rfl (vin (by decide)) dX4_countSlips_149 ?_
  refine q_i (z := 0) rfl ?_
  refine lv_iconst (v := 3) hx hb dX4_countSlips_150 (by decide) ?_
  refine lv_imul hx hb dX4_countSlips_151 ?_
  refine q_i (z := 0) (by decide) ?_
  refine lv_iconst (v := 4) hx hb dX4_countSlips_152 (by decide) ?_
  refine lv_idiv hx hb dX4_countSlips_153 (by decide) ?_
  refine q_i (z := 0) (by decide) ?_
  refine va_iast hx hb hK hP hD hS 2 0 rfl rfl (vin (by decide)) dX4_countSlips_154 (fun H locs hP hD hS => ?_)
  have hP : va_P D vwCl [(pr, .inr (4, [.int 0, .ref prw, .ref lft, .ref lea])), (nw, .inr (3, [.int 2, .int 0, .ref keys, .ref moms, .ref lens, .ref prts, .ref luds, .ref hnds, .ref lats, .ref knds, .ref rch, .ref spd, .int 0, .int 0, .int 0, .ref unN, .ref unH, .ref ptn])), (lft, .inl (cI, 56, .inl (upd (fun _ => 0) (36 : Int32).toNatClampNeg 0)))] H := hP
  have hD : va_D (va_A (w_countSlips cI cZ cP pr prw lft lea nw keys moms lens prts luds hnds lats knds rch spd unN unH ptn) sz) [(pr, .inr (4, [.int 0, .ref prw, .ref lft, .ref lea])), (nw, .inr (3, [.int 2, .int 0, .ref keys, .ref moms, .ref lens, .ref prts, .ref luds, .ref hnds, .ref lats, .ref knds, .ref rch, .ref spd, .int 0, .int 0, .int 0, .ref unN, .ref unH, .ref ptn])), (lft, .inl (cI, 56, .inl (upd (fun _ => 0) (36 : Int32).toNatClampNeg 0)))] := hD
  rw [upd_c] at hP hD
  have hP : va_P D vwCl [(pr, .inr (4, [.int 0, .ref prw, .ref lft, .ref lea])), (nw, .inr (3, [.int 2, .int 0, .ref keys, .ref moms, .ref lens, .ref prts, .ref luds, .ref hnds, .ref lats, .ref knds, .ref rch, .ref spd, .int 0, .int 0, .int 0, .ref unN, .ref unH, .ref ptn])), (lft, .inl (cI, 56, .inl (fun _ => 0)))] H := hP
  have hD : va_D (va_A (w_countSlips cI cZ cP pr prw lft lea nw keys moms lens prts luds hnds lats knds rch spd unN unH ptn) sz) [(pr, .inr (4, [.int 0, .ref prw, .ref lft, .ref lea])), (nw, .inr (3, [.int 2, .int 0, .ref keys, .ref moms, .ref lens, .ref prts, .ref luds, .ref hnds, .ref lats, .ref knds, .ref rch, .ref spd, .int 0, .int 0, .int 0, .ref unN, .ref unH, .ref ptn])), (lft, .inl (cI, 56, .inl (fun _ => 0)))] := hD
  refine lv_iinc (v := 2) (lv' := [(3, .int 2), (2, .int 5), (0, .ref pr), (1, .ref nw)]) hx hb dX4_countSlips_155 hl (k := 0) rfl (by decide) (by decide) rfl (fun ls hl => ?_)
  refine lv_goto (tgt := 121) hx hb dX4_countSlips_158 (by decide) ?_
  refine lv_iload_n hx hb dX4_countSlips_121 rfl (lv_at hl 0 rfl) ?_
  refine lv_bipush (v := 6) hx hb dX4_countSlips_122 (by decide) ?_
  refine lv_icmp_gt (tgt := 161) hx hb dX4_countSlips_124 (by decide) (fun c_45 => absurd c_45 (by decide)) (fun _ => ?_)
  refine lv_aload_n hx hb dX4_countSlips_127 rfl (lv_at hl 2 rfl) ?_
  refine va_get (D := D) (ci := 4) (v := .ref lft) (C := RX4) (T := TX4) (N := 4) hx hb ht inX4 hown hK hP 0 rfl rfl 2 (Nat.le_of_ble_eq_true rfl) (ht _ kw_326) (fun _ h9 => h9) rfl dX4_countSlips_128 ?_
  refine lv_iload_n hx hb dX4_countSlips_131 rfl (lv_at hl 1 rfl) ?_
  refine lv_bipush (v := 7) hx hb dX4_countSlips_132 (by decide) ?_
  refine lv_imul hx hb dX4_countSlips_134 ?_
  refine q_i (z := 35) (by decide) ?_
  refine lv_iload_n hx hb dX4_countSlips_135 rfl (lv_at hl 0 rfl) ?_
  refine lv_iadd hx hb dX4_countSlips_136 ?_
  refine q_i (z := 37) (by decide) ?_
  refine lv_aload_n hx hb dX4_countSlips_137 rfl (lv_at hl 2 rfl) ?_
  refine va_get (D := D) (ci := 4) (v := .ref lft) (C := RX4) (T := TX4) (N := 4) hx hb ht inX4 hown hK hP 0 rfl rfl 2 (Nat.le_of_ble_eq_true rfl) (ht _ kw_326) (fun _ h9 => h9) rfl dX4_countSlips_138 ?_
  refine lv_iload_n hx hb dX4_countSlips_141 rfl (lv_at hl 1 rfl) ?_
  refine lv_bipush (v := 7) hx hb dX4_countSlips_142 (by decide) ?_
  refine lv_imul hx hb dX4_countSlips_144 ?_
  refine q_i (z := 35) (by decide) ?_
  refine lv_iload_n hx hb dX4_countSlips_145 rfl (lv_at hl 0 rfl) ?_
  refine lv_iadd hx hb dX4_countSlips_146 ?_
  refine q_i (z := 37) (by decide) ?_
  refine lv_iconst (v := 1) hx hb dX4_countSlips_147 (by decide) ?_
  refine lv_isub hx hb dX4_countSlips_148 ?_
  refine q_i (z := 36) (by decide) ?_
  refine va_iald hx hb hK hP 2 0 rfl rfl (vin (by decide)) dX4_countSlips_149 ?_
  refine q_i (z := 0) rfl ?_
  refine lv_iconst (v := 3) hx hb dX4_countSlips_150 (by decide) ?_
  refine lv_imul hx hb dX4_countSlips_151 ?_
  refine q_i (z := 0) (by decide) ?_
  refine lv_iconst (v := 4) hx hb dX4_countSlips_152 (by decide) ?_
  refine lv_idiv hx hb dX4_countSlips_153 (by decide) ?_
  refine q_i (z := 0) (by decide) ?_
  refine va_iast hx hb hK hP hD hS 2 0 rfl rfl (vin (by decide)) dX4_countSlips_154 (fun H locs hP hD hS => ?_)
  have hP : va_P D vwCl [(pr, .inr (4, [.int 0, .ref prw, .ref lft, .ref lea])), (nw, .inr (3, [.int 2, .int 0, .ref keys, .ref moms, .ref lens, .ref prts, .ref luds, .ref hnds, .ref lats, .ref knds, .ref rch, .ref spd, .int 0, .int 0, .int 0, .ref unN, .ref unH, .ref ptn])), (lft, .inl (cI, 56, .inl (upd (fun _ => 0) (37 : Int32).toNatClampNeg 0)))] H := hP
  have hD : va_D (va_A (w_countSlips cI cZ cP pr prw lft lea nw keys moms lens prts luds hnds lats knds rch spd unN unH ptn) sz) [(pr, .inr (4, [.int 0, .ref prw, .ref lft, .ref lea])), (nw, .inr (3, [.int 2, .int 0, .ref keys, .ref moms, .ref lens, .ref prts, .ref luds, .ref hnds, .ref lats, .ref knds, .ref rch, .ref spd, .int 0, .int 0, .int 0, .ref unN, .ref unH, .ref ptn])), (lft, .inl (cI, 56, .inl (upd (fun _ => 0) (37 : Int32).toNatClampNeg 0)))] := hD
  rw [upd_c] at hP hD
  have hP : va_P D vwCl [(pr, .inr (4, [.int 0, .ref prw, .ref lft, .ref lea])), (nw, .inr (3, [.int 2, .int 0, .ref keys, .ref moms, .ref lens, .ref prts, .ref luds, .ref hnds, .ref lats, .ref knds, .ref rch, .ref spd, .int 0, .int 0, .int 0, .ref unN, .ref unH, .ref ptn])), (lft, .inl (cI, 56, .inl (fun _ => 0)))] H := hP
  have hD : va_D (va_A (w_countSlips cI cZ cP pr prw lft lea nw keys moms lens prts luds hnds lats knds rch spd unN unH ptn) sz) [(pr, .inr (4, [.int 0, .ref prw, .ref lft, .ref lea])), (nw, .inr (3, [.int 2, .int 0, .ref keys, .ref moms, .ref lens, .ref prts, .ref luds, .ref hnds, .ref lats, .ref knds, .ref rch, .ref spd, .int 0, .int 0, .int 0, .ref unN, .ref unH, .ref ptn])), (lft, .inl (cI, 56, .inl (fun _ => 0)))] := hD
  refine lv_iinc (v := 3) (lv' := [(3, .int 3), (2, .int 5), (0, .ref pr), (1, .ref nw)]) hx hb dX4_countSlips_155 hl (k := 0) rfl (by decide) (by decide) rfl (fun ls hl => ?_)
  refine lv_goto (tgt := 121) hx hb dX4_countSlips_158 (by decide) ?_
  refine lv_iload_n hx hb dX4_countSlips_121 rfl (lv_at hl 0 rfl) ?_
  refine lv_bipush (v := 6) hx hb dX4_countSlips_122 (by decide) ?_
  refine lv_icmp_gt (tgt := 161) hx hb dX4_countSlips_124 (by decide) (fun c_46 => absurd c_46 (by decide)) (fun _ => ?_)
  refine lv_aload_n hx hb dX4_countSlips_127 rfl (lv_at hl 2 rfl) ?_
  refine va_get (D := D) (ci := 4) (v := .ref lft) (C := RX4) (T := TX4) (N := 4) hx hb ht inX4 hown hK hP 0 rfl rfl 2 (Nat.le_of_ble_eq_true rfl) (ht _ kw_326) (fun _ h9 => h9) rfl dX4_countSlips_128 ?_
  refine lv_iload_n hx hb dX4_countSlips_131 rfl (lv_at hl 1 rfl) ?_
  refine lv_bipush (v := 7) hx hb dX4_countSlips_132 (by decide) ?_
  refine lv_imul hx hb dX4_countSlips_134 ?_
  refine q_i (z := 35) (by decide) ?_
  refine lv_iload_n hx hb dX4_countSlips_135 rfl (lv_at hl 0 rfl) ?_
  refine lv_iadd hx hb dX4_countSlips_136 ?_
  refine q_i (z := 38) (by decide) ?_
  refine lv_aload_n hx hb dX4_countSlips_137 rfl (lv_at hl 2 rfl) ?_
  refine va_get (D := D) (ci := 4) (v := .ref lft) (C := RX4) (T := TX4) (N := 4) hx hb ht inX4 hown hK hP 0 rfl rfl 2 (Nat.le_of_ble_eq_true rfl) (ht _ kw_326) (fun _ h9 => h9) rfl dX4_countSlips_138 ?_
  refine lv_iload_n hx hb dX4_countSlips_141 rfl (lv_at hl 1 rfl) ?_
  refine lv_bipush (v := 7) hx hb dX4_countSlips_142 (by decide) ?_
  refine lv_imul hx hb dX4_countSlips_144 ?_
  refine q_i (z := 35) (by decide) ?_
  refine lv_iload_n hx hb dX4_countSlips_145 rfl (lv_at hl 0 rfl) ?_
  refine lv_iadd hx hb dX4_countSlips_146 ?_
  refine q_i (z := 38) (by decide) ?_
  refine lv_iconst (v := 1) hx hb dX4_countSlips_147 (by decide) ?_
  refine lv_isub hx hb dX4_countSlips_148 ?_
  refine q_i (z := 37) (by decide) ?_
  refine va_iald hx hb hK hP 2 0 rfl rfl (vin (by decide)) dX4_countSlips_149 ?_
  refine q_i (z := 0) rfl ?_
  refine lv_iconst (v := 3) hx hb dX4_countSlips_150 (by decide) ?_
  refine lv_imul hx hb dX4_countSlips_151 ?_
  refine q_i (z := 0) (by decide) ?_
  refine lv_iconst (v := 4) hx hb dX4_countSlips_152 (by decide) ?_
  refine lv_idiv hx hb dX4_countSlips_153 (by decide) ?_
  refine q_i (z := 0) (by decide) ?_
  refine va_iast hx hb hK hP hD hS 2 0 rfl rfl (vin (by decide)) dX4_countSlips_154 (fun H locs hP hD hS => ?_)
  have hP : va_P D vwCl [(pr, .inr (4, [.int 0, .ref prw, .ref lft, .ref lea])), (nw, .inr (3, [.int 2, .int 0, .ref keys, .ref moms, .ref lens, .ref prts, .ref luds, .ref hnds, .ref lats, .ref knds, .ref rch, .ref spd, .int 0, .int 0, .int 0, .ref unN, .ref unH, .ref ptn])), (lft, .inl (cI, 56, .inl (upd (fun _ => 0) (38 : Int32).toNatClampNeg 0)))] H := hP
  have hD : va_D (va_A (w_countSlips cI cZ cP pr prw lft lea nw keys moms lens prts luds hnds lats knds rch spd unN unH ptn) sz) [(pr, .inr (4, [.int 0, .ref prw, .ref lft, .ref lea])), (nw, .inr (3, [.int 2, .int 0, .ref keys, .ref moms, .ref lens, .ref prts, .ref luds, .ref hnds, .ref lats, .ref knds, .ref rch, .ref spd, .int 0, .int 0, .int 0, .ref unN, .ref unH, .ref ptn])), (lft, .inl (cI, 56, .inl (upd (fun _ => 0) (38 : Int32).toNatClampNeg 0)))] := hD
  rw [upd_c] at hP hD
  have hP : va_P D vwCl [(pr, .inr (4, [.int 0, .ref prw, .ref lft, .ref lea])), (nw, .inr (3, [.int 2, .int 0, .ref keys, .ref moms, .ref lens, .ref prts, .ref luds, .ref hnds, .ref lats, .ref knds, .ref rch, .ref spd, .int 0, .int 0, .int 0, .ref unN, .ref unH, .ref ptn])), (lft, .inl (cI, 56, .inl (fun _ => 0)))] H := hP
  have hD : va_D (va_A (w_countSlips cI cZ cP pr prw lft lea nw keys moms lens prts luds hnds lats knds rch spd unN unH ptn) sz) [(pr, .inr (4, [.int 0, .ref prw, .ref lft, .ref lea])), (nw, .inr (3, [.int 2, .int 0, .ref keys, .ref moms, .ref lens, .ref prts, .ref luds, .ref hnds, .ref lats, .ref knds, .ref rch, .ref spd, .int 0, .int 0, .int 0, .ref unN, .ref unH, .ref ptn])), (lft, .inl (cI, 56, .inl (fun _ => 0)))] := hD
  refine lv_iinc (v := 4) (lv' := [(3, .int 4), (2, .int 5), (0, .ref pr), (1, .ref nw)]) hx hb dX4_countSlips_155 hl (k := 0) rfl (by decide) (by decide) rfl (fun ls hl => ?_)
  refine lv_goto (tgt := 121) hx hb dX4_countSlips_158 (by decide) ?_
  refine lv_iload_n hx hb dX4_countSlips_121 rfl (lv_at hl 0 rfl) ?_
  refine lv_bipush (v := 6) hx hb dX4_countSlips_122 (by decide) ?_
  refine lv_icmp_gt (tgt := 161) hx hb dX4_countSlips_124 (by decide) (fun c_47 => absurd c_47 (by decide)) (fun _ => ?_)
  refine lv_aload_n hx hb dX4_countSlips_127 rfl (lv_at hl 2 rfl) ?_
  refine va_get (D := D) (ci := 4) (v := .ref lft) (C := RX4) (T := TX4) (N := 4) hx hb ht inX4 hown hK hP 0 rfl rfl 2 (Nat.le_of_ble_eq_true rfl) (ht _ kw_326) (fun _ h9 => h9) rfl dX4_countSlips_128 ?_
  refine lv_iload_n hx hb dX4_countSlips_131 rfl (lv_at hl 1 rfl) ?_
  refine lv_bipush (v := 7) hx hb dX4_countSlips_132 (by decide) ?_
  refine lv_imul hx hb dX4_countSlips_134 ?_
  refine q_i (z := 35) (by decide) ?_
  refine lv_iload_n hx hb dX4_countSlips_135 rfl (lv_at hl 0 rfl) ?_
  refine lv_iadd hx hb dX4_countSlips_136 ?_
  refine q_i (z := 39) (by decide) ?_
  refine lv_aload_n hx hb dX4_countSlips_137 rfl (lv_at hl 2 rfl) ?_
  refine va_get (D := D) (ci := 4) (v := .ref lft) (C := RX4) (T := TX4) (N := 4) hx hb ht inX4 hown hK hP 0 rfl rfl 2 (Nat.le_of_ble_eq_true rfl) (ht _ kw_326) (fun _ h9 => h9) rfl dX4_countSlips_138 ?_
  refine lv_iload_n hx hb dX4_countSlips_141 rfl (lv_at hl 1 rfl) ?_
  refine lv_bipush (v := 7) hx hb dX4_countSlips_142 (by decide) ?_
  refine lv_imul hx hb dX4_countSlips_144 ?_
  refine q_i (z := 35) (by decide) ?_
  refine lv_iload_n hx hb dX4_countSlips_145 rfl (lv_at hl 0 rfl) ?_
  refine lv_iadd hx hb dX4_countSlips_146 ?_
  refine q_i (z := 39) (by decide) ?_
  refine lv_iconst (v := 1) hx hb dX4_countSlips_147 (by decide) ?_
  refine lv_isub hx hb dX4_countSlips_148 ?_
  refine q_i (z := 38) (by decide) ?_
  refine va_iald hx hb hK hP 2 0 rfl rfl (vin (by decide)) dX4_countSlips_149 ?_
  refine q_i (z := 0) rfl ?_
  refine lv_iconst (v := 3) hx hb dX4_countSlips_150 (by decide) ?_
  refine lv_imul hx hb dX4_countSlips_151 ?_
  refine q_i (z := 0) (by decide) ?_
  refine lv_iconst (v := 4) hx hb dX4_countSlips_152 (by decide) ?_
  refine lv_idiv hx hb dX4_countSlips_153 (by decide) ?_
  refine q_i (z := 0) (by decide) ?_
  refine va_iast hx hb hK hP hD hS 2 0 rfl rfl (vin (by decide)) dX4_countSlips_154 (fun H locs hP hD hS => ?_)
  have hP : va_P D vwCl [(pr, .inr (4, [.int 0, .ref prw, .ref lft, .ref lea])), (nw, .inr (3, [.int 2, .int 0, .ref keys, .ref moms, .ref lens, .ref prts, .ref luds, .ref hnds, .ref lats, .ref knds, .ref rch, .ref spd, .int 0, .int 0, .int 0, .ref unN, .ref unH, .ref ptn])), (lft, .inl (cI, 56, .inl (upd (fun _ => 0) (39 : Int32).toNatClampNeg 0)))] H := hP
  have hD : va_D (va_A (w_countSlips cI cZ cP pr prw lft lea nw keys moms lens prts luds hnds lats knds rch spd unN unH ptn) sz) [(pr, .inr (4, [.int 0, .ref prw, .ref lft, .ref lea])), (nw, .inr (3, [.int 2, .int 0, .ref keys, .ref moms, .ref lens, .ref prts, .ref luds, .ref hnds, .ref lats, .ref knds, .ref rch, .ref spd, .int 0, .int 0, .int 0, .ref unN, .ref unH, .ref ptn])), (lft, .inl (cI, 56, .inl (upd (fun _ => 0) (39 : Int32).toNatClampNeg 0)))] := hD
  rw [upd_c] at hP hD
  have hP : va_P D vwCl [(pr, .inr (4, [.int 0, .ref prw, .ref lft, .ref lea])), (nw, .inr (3, [.int 2, .int 0, .ref keys, .ref moms, .ref lens, .ref prts, .ref luds, .ref hnds, .ref lats, .ref knds, .ref rch, .ref spd, .int 0, .int 0, .int 0, .ref unN, .ref unH, .ref ptn])), (lft, .inl (cI, 56, .inl (fun _ => 0)))] H := hP
  have hD : va_D (va_A (w_countSlips cI cZ cP pr prw lft lea nw keys moms lens prts luds hnds lats knds rch spd unN unH ptn) sz) [(pr, .inr (4, [.int 0, .ref prw, .ref lft, .ref lea])), (nw, .inr (3, [.int 2, .int 0, .ref keys, .ref moms, .ref lens, .ref prts, .ref luds, .ref hnds, .ref lats, .ref knds, .ref rch, .ref spd, .int 0, .int 0, .int 0, .ref unN, .ref unH, .ref ptn])), (lft, .inl (cI, 56, .inl (fun _ => 0)))] := hD
  refine lv_iinc (v := 5) (lv' := [(3, .int 5), (2, .int 5), (0, .ref pr), (1, .ref nw)]) hx hb dX4_countSlips_155 hl (k := 0) rfl (by decide) (by decide) rfl (fun ls hl => ?_)
  refine lv_goto (tgt := 121) hx hb dX4_countSlips_158 (by decide) ?_
  refine lv_iload_n hx hb dX4_countSlips_121 rfl (lv_at hl 0 rfl) ?_
  refine lv_bipush (v := 6) hx hb dX4_countSlips_122 (by decide) ?_
  refine lv_icmp_gt (tgt := 161) hx hb dX4_countSlips_124 (by decide) (fun c_48 => absurd c_48 (by decide)) (fun _ => ?_)
  refine lv_aload_n hx hb dX4_countSlips_127 rfl (lv_at hl 2 rfl) ?_
  refine va_get (D := D) (ci := 4) (v := .ref lft) (C := RX4) (T := TX4) (N := 4) hx hb ht inX4 hown hK hP 0 rfl rfl 2 (Nat.le_of_ble_eq_true rfl) (ht _ kw_326) (fun _ h9 => h9) rfl dX4_countSlips_128 ?_
  refine lv_iload_n hx hb dX4_countSlips_131 rfl (lv_at hl 1 rfl) ?_
  refine lv_bipush (v := 7) hx hb dX4_countSlips_132 (by decide) ?_
  refine lv_imul hx hb dX4_countSlips_134 ?_
  refine q_i (z := 35) (by decide) ?_
  refine lv_iload_n hx hb dX4_countSlips_135 rfl (lv_at hl 0 rfl) ?_
  refine lv_iadd hx hb dX4_countSlips_136 ?_
  refine q_i (z := 40) (by decide) ?_
  refine lv_aload_n hx hb dX4_countSlips_137 rfl (lv_at hl 2 rfl) ?_
  refine va_get (D := D) (ci := 4) (v := .ref lft) (C := RX4) (T := TX4) (N := 4) hx hb ht inX4 hown hK hP 0 rfl rfl 2 (Nat.le_of_ble_eq_true rfl) (ht _ kw_326) (fun _ h9 => h9) rfl dX4_countSlips_138 ?_
  refine lv_iload_n hx hb dX4_countSlips_141 rfl (lv_at hl 1 rfl) ?_
  refine lv_bipush (v := 7) hx hb dX4_countSlips_142 (by decide) ?_
  refine lv_imul hx hb dX4_countSlips_144 ?_
  refine q_i (z := 35) (by decide) ?_
  refine lv_iload_n hx hb dX4_countSlips_145 rfl (lv_at hl 0 rfl) ?_
  refine lv_iadd hx hb dX4_countSlips_146 ?_
  refine q_i (z := 40) (by decide) ?_
  refine lv_iconst (v := 1) hx hb dX4_countSlips_147 (by decide) ?_
  refine lv_isub hx hb dX4_countSlips_148 ?_
  refine q_i (z := 39) (by decide) ?_
  refine va_iald hx hb hK hP 2 0 rfl rfl (vin (by decide)) dX4_countSlips_149 ?_
  refine q_i (z := 0) rfl ?_
  refine lv_iconst (v := 3) hx hb dX4_countSlips_150 (by decide) ?_
  refine lv_imul hx hb dX4_countSlips_151 ?_
  refine q_i (z := 0) (by decide) ?_
  refine lv_iconst (v := 4) hx hb dX4_countSlips_152 (by decide) ?_
  refine lv_idiv hx hb dX4_countSlips_153 (by decide) ?_
  refine q_i (z := 0) (by decide) ?_
  refine va_iast hx hb hK hP hD hS 2 0 rfl rfl (vin (by decide)) dX4_countSlips_154 (fun H locs hP hD hS => ?_)
  have hP : va_P D vwCl [(pr, .inr (4, [.int 0, .ref prw, .ref lft, .ref lea])), (nw, .inr (3, [.int 2, .int 0, .ref keys, .ref moms, .ref lens, .ref prts, .ref luds, .ref hnds, .ref lats, .ref knds, .ref rch, .ref spd, .int 0, .int 0, .int 0, .ref unN, .ref unH, .ref ptn])), (lft, .inl (cI, 56, .inl (upd (fun _ => 0) (40 : Int32).toNatClampNeg 0)))] H := hP
  have hD : va_D (va_A (w_countSlips cI cZ cP pr prw lft lea nw keys moms lens prts luds hnds lats knds rch spd unN unH ptn) sz) [(pr, .inr (4, [.int 0, .ref prw, .ref lft, .ref lea])), (nw, .inr (3, [.int 2, .int 0, .ref keys, .ref moms, .ref lens, .ref prts, .ref luds, .ref hnds, .ref lats, .ref knds, .ref rch, .ref spd, .int 0, .int 0, .int 0, .ref unN, .ref unH, .ref ptn])), (lft, .inl (cI, 56, .inl (upd (fun _ => 0) (40 : Int32).toNatClampNeg 0)))] := hD
  rw [upd_c] at hP hD
  have hP : va_P D vwCl [(pr, .inr (4, [.int 0, .ref prw, .ref lft, .ref lea])), (nw, .inr (3, [.int 2, .int 0, .ref keys, .ref moms, .ref lens, .ref prts, .ref luds, .ref hnds, .ref lats, .ref knds, .ref rch, .ref spd, .int 0, .int 0, .int 0, .ref unN, .ref unH, .ref ptn])), (lft, .inl (cI, 56, .inl (fun _ => 0)))] H := hP
  have hD : va_D (va_A (w_countSlips cI cZ cP pr prw lft lea nw keys moms lens prts luds hnds lats knds rch spd unN unH ptn) sz) [(pr, .inr (4, [.int 0, .ref prw, .ref lft, .ref lea])), (nw, .inr (3, [.int 2, .int 0, .ref keys, .ref moms, .ref lens, .ref prts, .ref luds, .ref hnds, .ref lats, .ref knds, .ref rch, .ref spd, .int 0, .int 0, .int 0, .ref unN, .ref unH, .ref ptn])), (lft, .inl (cI, 56, .inl (fun _ => 0)))] := hD
  refine lv_iinc (v := 6) (lv' := [(3, .int 6), (2, .int 5), (0, .ref pr), (1, .ref nw)]) hx hb dX4_countSlips_155 hl (k := 0) rfl (by decide) (by decide) rfl (fun ls hl => ?_)
  refine lv_goto (tgt := 121) hx hb dX4_countSlips_158 (by decide) ?_
  refine lv_iload_n hx hb dX4_countSlips_121 rfl (lv_at hl 0 rfl) ?_
  refine lv_bipush (v := 6) hx hb dX4_countSlips_122 (by decide) ?_
  refine lv_icmp_gt (tgt := 161) hx hb dX4_countSlips_124 (by decide) (fun c_49 => absurd c_49 (by decide)) (fun _ => ?_)
  refine lv_aload_n hx hb dX4_countSlips_127 rfl (lv_at hl 2 rfl) ?_
  refine va_get (D := D) (ci := 4) (v := .ref lft) (C := RX4) (T := TX4) (N := 4) hx hb ht inX4 hown hK hP 0 rfl rfl 2 (Nat.le_of_ble_eq_true rfl) (ht _ kw_326) (fun _ h9 => h9) rfl dX4_countSlips_128 ?_
  refine lv_iload_n hx hb dX4_countSlips_131 rfl (lv_at hl 1 rfl) ?_
  refine lv_bipush (v := 7) hx hb dX4_countSlips_132 (by decide) ?_
  refine lv_imul hx hb dX4_countSlips_134 ?_
  refine q_i (z := 35) (by decide) ?_
  refine lv_iload_n hx hb dX4_countSlips_135 rfl (lv_at hl 0 rfl) ?_
  refine lv_iadd hx hb dX4_countSlips_136 ?_
  refine q_i (z := 41) (by decide) ?_
  refine lv_aload_n hx hb dX4_countSlips_137 rfl (lv_at hl 2 rfl) ?_
  refine va_get (D := D) (ci := 4) (v := .ref lft) (C := RX4) (T := TX4) (N := 4) hx hb ht inX4 hown hK hP 0 rfl rfl 2 (Nat.le_of_ble_eq_true rfl) (ht _ kw_326) (fun _ h9 => h9) rfl dX4_countSlips_138 ?_
  refine lv_iload_n hx hb dX4_countSlips_141 rfl (lv_at hl 1 rfl) ?_
  refine lv_bipush (v := 7) hx hb dX4_countSlips_142 (by decide) ?_
  refine lv_imul hx hb dX4_countSlips_144 ?_
  refine q_i (z := 35) (by decide) ?_
  refine lv_iload_n hx hb dX4_countSlips_145 rfl (lv_at hl 0 rfl) ?_
  refine lv_iadd hx hb dX4_countSlips_146 ?_
  refine q_i (z := 41) (by decide) ?_
  refine lv_iconst (v := 1) hx hb dX4_countSlips_147 (by decide) ?_
  refine lv_isub hx hb dX4_countSlips_148 ?_
  refine q_i (z := 40) (by decide) ?_
  refine va_iald hx hb hK hP 2 0 rfl rfl (vin (by decide)) dX4_countSlips_149 ?_
  refine q_i (z := 0) rfl ?_
  refine lv_iconst (v := 3) hx hb dX4_countSlips_150 (by decide) ?_
  refine lv_imul hx hb dX4_countSlips_151 ?_
  refine q_i (z := 0) (by decide) ?_
  refine lv_iconst (v := 4) hx hb dX4_countSlips_152 (by decide) ?_
  refine lv_idiv hx hb dX4_countSlips_153 (by decide) ?_
  refine q_i (z := 0) (by decide) ?_
  refine va_iast hx hb hK hP hD hS 2 0 rfl rfl (vin (by decide)) dX4_countSlips_154 (fun H locs hP hD hS => ?_)
  have hP : va_P D vwCl [(pr, .inr (4, [.int 0, .ref prw, .ref lft, .ref lea])), (nw, .inr (3, [.int 2, .int 0, .ref keys, .ref moms, .ref lens, .ref prts, .ref luds, .ref hnds, .ref lats, .ref knds, .ref rch, .ref spd, .int 0, .int 0, .int 0, .ref unN, .ref unH, .ref ptn])), (lft, .inl (cI, 56, .inl (upd (fun _ => 0) (41 : Int32).toNatClampNeg 0)))] H := hP
  have hD : va_D (va_A (w_countSlips cI cZ cP pr prw lft lea nw keys moms lens prts luds hnds lats knds rch spd unN unH ptn) sz) [(pr, .inr (4, [.int 0, .ref prw, .ref lft, .ref lea])), (nw, .inr (3, [.int 2, .int 0, .ref keys, .ref moms, .ref lens, .ref prts, .ref luds, .ref hnds, .ref lats, .ref knds, .ref rch, .ref spd, .int 0, .int 0, .int 0, .ref unN, .ref unH, .ref ptn])), (lft, .inl (cI, 56, .inl (upd (fun _ => 0) (41 : Int32).toNatClampNeg 0)))] := hD
  rw [upd_c] at hP hD
  have hP : va_P D vwCl [(pr, .inr (4, [.int 0, .ref prw, .ref lft, .ref lea])), (nw, .inr (3, [.int 2, .int 0, .ref keys, .ref moms, .ref lens, .ref prts, .ref luds, .ref hnds, .ref lats, .ref knds, .ref rch, .ref spd, .int 0, .int 0, .int 0, .ref unN, .ref unH, .ref ptn])), (lft, .inl (cI, 56, .inl (fun _ => 0)))] H := hP
  have hD : va_D (va_A (w_countSlips cI cZ cP pr prw lft lea nw keys moms lens prts luds hnds lats knds rch spd unN unH ptn) sz) [(pr, .inr (4, [.int 0, .ref prw, .ref lft, .ref lea])), (nw, .inr (3, [.int 2, .int 0, .ref keys, .ref moms, .ref lens, .ref prts, .ref luds, .ref hnds, .ref lats, .ref knds, .ref rch, .ref spd, .int 0, .int 0, .int 0, .ref unN, .ref unH, .ref ptn])), (lft, .inl (cI, 56, .inl (fun _ => 0)))] := hD
  refine lv_iinc (v := 7) (lv' := [(3, .int 7), (2, .int 5), (0, .ref pr), (1, .ref nw)]) hx hb dX4_countSlips_155 hl (k := 0) rfl (by decide) (by decide) rfl (fun ls hl => ?_)
  refine lv_goto (tgt := 121) hx hb dX4_countSlips_158 (by decide) ?_
  refine lv_iload_n hx hb dX4_countSlips_121 rfl (lv_at hl 0 rfl) ?_
  refine lv_bipush (v := 6) hx hb dX4_countSlips_122 (by decide) ?_
  refine lv_icmp_gt (tgt := 161) hx hb dX4_countSlips_124 (by decide) (fun _ => ?_) (fun c_50 => absurd (by decide) c_50)
  refine lv_iinc (v := 6) (lv' := [(2, .int 6), (3, .int 7), (0, .ref pr), (1, .ref nw)]) hx hb dX4_countSlips_161 hl (k := 1) rfl (by decide) (by decide) rfl (fun ls hl => ?_)
  refine lv_goto (tgt := 113) hx hb dX4_countSlips_164 (by decide) ?_
  refine lv_iload_n hx hb dX4_countSlips_113 rfl (lv_at hl 0 rfl) ?_
  refine lv_bipush (v := 8) hx hb dX4_countSlips_114 (by decide) ?_
  refine lv_icmp_ge (tgt := 167) hx hb dX4_countSlips_116 (by decide) (fun c_51 => absurd c_51 (by decide)) (fun _ => ?_)
  refine lv_iconst (v := 1) hx hb dX4_countSlips_119 (by decide) ?_
  refine lv_istore_n (lv' := [(3, .int 1), (2, .int 6), (0, .ref pr), (1, .ref nw)]) hx hb dX4_countSlips_120 rfl hl (by decide) rfl (fun ls hl => ?_)
  refine lv_iload_n hx hb dX4_countSlips_121 rfl (lv_at hl 0 rfl) ?_
  refine lv_bipush (v := 6) hx hb dX4_countSlips_122 (by decide) ?_
  refine lv_icmp_gt (tgt := 161) hx hb dX4_countSlips_124 (by decide) (fun c_52 => absurd c_52 (by decide)) (fun _ => ?_)
  refine lv_aload_n hx hb dX4_countSlips_127 rfl (lv_at hl 2 rfl) ?_
  refine va_get (D := D) (ci := 4) (v := .ref lft) (C := RX4) (T := TX4) (N := 4) hx hb ht inX4 hown hK hP 0 rfl rfl 2 (Nat.le_of_ble_eq_true rfl) (ht _ kw_326) (fun _ h9 => h9) rfl dX4_countSlips_128 ?_
  refine lv_iload_n hx hb dX4_countSlips_131 rfl (lv_at hl 1 rfl) ?_
  refine lv_bipush (v := 7) hx hb dX4_countSlips_132 (by decide) ?_
  refine lv_imul hx hb dX4_countSlips_134 ?_
  refine q_i (z := 42) (by decide) ?_
  refine lv_iload_n hx hb dX4_countSlips_135 rfl (lv_at hl 0 rfl) ?_
  refine lv_iadd hx hb dX4_countSlips_136 ?_
  refine q_i (z := 43) (by decide) ?_
  refine lv_aload_n hx hb dX4_countSlips_137 rfl (lv_at hl 2 rfl) ?_
  refine va_get (D := D) (ci := 4) (v := .ref lft) (C := RX4) (T := TX4) (N := 4) hx hb ht inX4 hown hK hP 0 rfl rfl 2 (Nat.le_of_ble_eq_true rfl) (ht _ kw_326) (fun _ h9 => h9) rfl dX4_countSlips_138 ?_
  refine lv_iload_n hx hb dX4_countSlips_141 rfl (lv_at hl 1 rfl) ?_
  refine lv_bipush (v := 7) hx hb dX4_countSlips_142 (by decide) ?_
  refine lv_imul hx hb dX4_countSlips_144 ?_
  refine q_i (z := 42) (by decide) ?_
  refine lv_iload_n hx hb dX4_countSlips_145 rfl (lv_at hl 0 rfl) ?_
  refine lv_iadd hx hb dX4_countSlips_146 ?_
  refine q_i (z := 43) (by decide) ?_
  refine lv_iconst (v := 1) hx hb dX4_countSlips_147 (by decide) ?_
  refine lv_isub hx hb dX4_countSlips_148 ?_
  refine q_i (z := 42) (by decide) ?_
  refine va_iald hx hb hK hP 2 0 rfl rfl (vin (by decide)) dX4_countSlips_149 ?_
  refine q_i (z := 0) rfl ?_
  refine lv_iconst (v := 3) hx hb dX4_countSlips_150 (by decide) ?_
  refine lv_imul hx hb dX4_countSlips_151 ?_
  refine q_i (z := 0) (by decide) ?_
  refine lv_iconst (v := 4) hx hb dX4_countSlips_152 (by decide) ?_
  refine lv_idiv hx hb dX4_countSlips_153 (by decide) ?_
  refine q_i (z := 0) (by decide) ?_
  refine va_iast hx hb hK hP hD hS 2 0 rfl rfl (vin (by decide)) dX4_countSlips_154 (fun H locs hP hD hS => ?_)
  have hP : va_P D vwCl [(pr, .inr (4, [.int 0, .ref prw, .ref lft, .ref lea])), (nw, .inr (3, [.int 2, .int 0, .ref keys, .ref moms, .ref lens, .ref prts, .ref luds, .ref hnds, .ref lats, .ref knds, .ref rch, .ref spd, .int 0, .int 0, .int 0, .ref unN, .ref unH, .ref ptn])), (lft, .inl (cI, 56, .inl (upd (fun _ => 0) (43 : Int32).toNatClampNeg 0)))] H := hP
  have hD : va_D (va_A (w_countSlips cI cZ cP pr prw lft lea nw keys moms lens prts luds hnds lats knds rch spd unN unH ptn) sz) [(pr, .inr (4, [.int 0, .ref prw, .ref lft, .ref lea])), (nw, .inr (3, [.int 2, .int 0, .ref keys, .ref moms, .ref lens, .ref prts, .ref luds, .ref hnds, .ref lats, .ref knds, .ref rch, .ref spd, .int 0, .int 0, .int 0, .ref unN, .ref unH, .ref ptn])), (lft, .inl (cI, 56, .inl (upd (fun _ => 0) (43 : Int32).toNatClampNeg 0)))] := hD
  rw [upd_c] at hP hD
  have hP : va_P D vwCl [(pr, .inr (4, [.int 0, .ref prw, .ref lft, .ref lea])), (nw, .inr (3, [.int 2, .int 0, .ref keys, .ref moms, .ref lens, .ref prts, .ref luds, .ref hnds, .ref lats, .ref knds, .ref rch, .ref spd, .int 0, .int 0, .int 0, .ref unN, .ref unH, .ref ptn])), (lft, .inl (cI, 56, .inl (fun _ => 0)))] H := hP
  have hD : va_D (va_A (w_countSlips cI cZ cP pr prw lft lea nw keys moms lens prts luds hnds lats knds rch spd unN unH ptn) sz) [(pr, .inr (4, [.int 0, .ref prw, .ref lft, .ref lea])), (nw, .inr (3, [.int 2, .int 0, .ref keys, .ref moms, .ref lens, .ref prts, .ref luds, .ref hnds, .ref lats, .ref knds, .ref rch, .ref spd, .int 0, .int 0, .int 0, .ref unN, .ref unH, .ref ptn])), (lft, .inl (cI, 56, .inl (fun _ => 0)))] := hD
  refine lv_iinc (v := 2) (lv' := [(3, .int 2), (2, .int 6), (0, .ref pr), (1, .ref nw)]) hx hb dX4_countSlips_155 hl (k := 0) rfl (by decide) (by decide) rfl (fun ls hl => ?_)
  refine lv_goto (tgt := 121) hx hb dX4_countSlips_158 (by decide) ?_
  refine lv_iload_n hx hb dX4_countSlips_121 rfl (lv_at hl 0 rfl) ?_
  refine lv_bipush (v := 6) hx hb dX4_countSlips_122 (by decide) ?_
  refine lv_icmp_gt (tgt := 161) hx hb dX4_countSlips_124 (by decide) (fun c_53 => absurd c_53 (by decide)) (fun _ => ?_)
  refine lv_aload_n hx hb dX4_countSlips_127 rfl (lv_at hl 2 rfl) ?_
  refine va_get (D := D) (ci := 4) (v := .ref lft) (C := RX4) (T := TX4) (N := 4) hx hb ht inX4 hown hK hP 0 rfl rfl 2 (Nat.le_of_ble_eq_true rfl) (ht _ kw_326) (fun _ h9 => h9) rfl dX4_countSlips_128 ?_
  refine lv_iload_n hx hb dX4_countSlips_131 rfl (lv_at hl 1 rfl) ?_
  refine lv_bipush (v := 7) hx hb dX4_countSlips_132 (by decide) ?_
  refine lv_imul hx hb dX4_countSlips_134 ?_
  refine q_i (z := 42) (by decide) ?_
  refine lv_iload_n hx hb dX4_countSlips_135 rfl (lv_at hl 0 rfl) ?_
  refine lv_iadd hx hb dX4_countSlips_136 ?_
  refine q_i (z := 44) (by decide) ?_
  refine lv_aload_n hx hb dX4_countSlips_137 rfl (lv_at hl 2 rfl) ?_
  refine va_get (D := D) (ci := 4) (v := .ref lft) (C := RX4) (T := TX4) (N := 4) hx hb ht inX4 hown hK hP 0 rfl rfl 2 (Nat.le_of_ble_eq_true rfl) (ht _ kw_326) (fun _ h9 => h9) rfl dX4_countSlips_138 ?_
  refine lv_iload_n hx hb dX4_countSlips_141 rfl (lv_at hl 1 rfl) ?_
  refine lv_bipush (v := 7) hx hb dX4_countSlips_142 (by decide) ?_
  refine lv_imul hx hb dX4_countSlips_144 ?_
  refine q_i (z := 42) (by decide) ?_
  refine lv_iload_n hx hb dX4_countSlips_145 rfl (lv_at hl 0 rfl) ?_
  refine lv_iadd hx hb dX4_countSlips_146 ?_
  refine q_i (z := 44) (by decide) ?_
  refine lv_iconst (v := 1) hx hb dX4_countSlips_147 (by decide) ?_
  refine lv_isub hx hb dX4_countSlips_148 ?_
  refine q_i (z := 43) (by decide) ?_
  refine va_iald hx hb hK hP 2 0 rfl rfl (vin (by decide)) dX4_countSlips_149 ?_
  refine q_i (z := 0) rfl ?_
  refine lv_iconst (v := 3) hx hb dX4_countSlips_150 (by decide) ?_
  refine lv_imul hx hb dX4_countSlips_151 ?_
  refine q_i (z := 0) (by decide) ?_
  refine lv_iconst (v := 4) hx hb dX4_countSlips_152 (by decide) ?_
  refine lv_idiv hx hb dX4_countSlips_153 (by decide) ?_
  refine q_i (z := 0) (by decide) ?_
  refine va_iast hx hb hK hP hD hS 2 0 rfl rfl (vin (by decide)) dX4_countSlips_154 (fun H locs hP hD hS => ?_)
  have hP : va_P D vwCl [(pr, .inr (4, [.int 0, .ref prw, .ref lft, .ref lea])), (nw, .inr (3, [.int 2, .int 0, .ref keys, .ref moms, .ref lens, .ref prts, .ref luds, .ref hnds, .ref lats, .ref knds, .ref rch, .ref spd, .int 0, .int 0, .int 0, .ref unN, .ref unH, .ref ptn])), (lft, .inl (cI, 56, .inl (upd (fun _ => 0) (44 : Int32).toNatClampNeg 0)))] H := hP
  have hD : va_D (va_A (w_countSlips cI cZ cP pr prw lft lea nw keys moms lens prts luds hnds lats knds rch spd unN unH ptn) sz) [(pr, .inr (4, [.int 0, .ref prw, .ref lft, .ref lea])), (nw, .inr (3, [.int 2, .int 0, .ref keys, .ref moms, .ref lens, .ref prts, .ref luds, .ref hnds, .ref lats, .ref knds, .ref rch, .ref spd, .int 0, .int 0, .int 0, .ref unN, .ref unH, .ref ptn])), (lft, .inl (cI, 56, .inl (upd (fun _ => 0) (44 : Int32).toNatClampNeg 0)))] := hD
  rw [upd_c] at hP hD
  have hP : va_P D vwCl [(pr, .inr (4, [.int 0, .ref prw, .ref lft, .ref lea])), (nw, .inr (3, [.int 2, .int 0, .ref keys, .ref moms, .ref lens, .ref prts, .ref luds, .ref hnds, .ref lats, .ref knds, .ref rch, .ref spd, .int 0, .int 0, .int 0, .ref unN, .ref unH, .ref ptn])), (lft, .inl (cI, 56, .inl (fun _ => 0)))] H := hP
  have hD : va_D (va_A (w_countSlips cI cZ cP pr prw lft lea nw keys moms lens prts luds hnds lats knds rch spd unN unH ptn) sz) [(pr, .inr (4, [.int 0, .ref prw, .ref lft, .ref lea])), (nw, .inr (3, [.int 2, .int 0, .ref keys, .ref moms, .ref lens, .ref prts, .ref luds, .ref hnds, .ref lats, .ref knds, .ref rch, .ref spd, .int 0, .int 0, .int 0, .ref unN, .ref unH, .ref ptn])), (lft, .inl (cI, 56, .inl (fun _ => 0)))] := hD
  refine lv_iinc (v := 3) (lv' := [(3, .int 3), (2, .int 6), (0, .ref pr), (1, .ref nw)]) hx hb dX4_countSlips_155 hl (k := 0) rfl (by decide) (by decide) rfl (fun ls hl => ?_)
  refine lv_goto (tgt := 121) hx hb dX4_countSlips_158 (by decide) ?_
  refine lv_iload_n hx hb dX4_countSlips_121 rfl (lv_at hl 0 rfl) ?_
  refine lv_bipush (v := 6) hx hb dX4_countSlips_122 (by decide) ?_
  refine lv_icmp_gt (tgt := 161) hx hb dX4_countSlips_124 (by decide) (fun c_54 => absurd c_54 (by decide)) (fun _ => ?_)
  refine lv_aload_n hx hb dX4_countSlips_127 rfl (lv_at hl 2 rfl) ?_
  refine va_get (D := D) (ci := 4) (v := .ref lft) (C := RX4) (T := TX4) (N := 4) hx hb ht inX4 hown hK hP 0 rfl rfl 2 (Nat.le_of_ble_eq_true rfl) (ht _ kw_326) (fun _ h9 => h9) rfl dX4_countSlips_128 ?_
  refine lv_iload_n hx hb dX4_countSlips_131 rfl (lv_at hl 1 rfl) ?_
  refine lv_bipush (v := 7) hx hb dX4_countSlips_132 (by decide) ?_
  refine lv_imul hx hb dX4_countSlips_134 ?_
  refine q_i (z := 42) (by decide) ?_
  refine lv_iload_n hx hb dX4_countSlips_135 rfl (lv_at hl 0 rfl) ?_
  refine lv_iadd hx hb dX4_countSlips_136 ?_
  refine q_i (z := 45) (by decide) ?_
  refine lv_aload_n hx hb dX4_countSlips_137 rfl (lv_at hl 2 rfl) ?_
  refine va_get (D := D) (ci := 4) (v := .ref lft) (C := RX4) (T := TX4) (N := 4) hx hb ht inX4 hown hK hP 0 rfl rfl 2 (Nat.le_of_ble_eq_true rfl) (ht _ kw_326) (fun _ h9 => h9) rfl dX4_countSlips_138 ?_
  refine lv_iload_n hx hb dX4_countSlips_141 rfl (lv_at hl 1 rfl) ?_
  refine lv_bipush (v := 7) hx hb dX4_countSlips_142 (by decide) ?_
  refine lv_imul hx hb dX4_countSlips_144 ?_
  refine q_i (z := 42) (by decide) ?_
  refine lv_iload_n hx hb dX4_countSlips_145 rfl (lv_at hl 0 rfl) ?_
  refine lv_iadd hx hb dX4_countSlips_146 ?_
  refine q_i (z := 45) (by decide) ?_
  refine lv_iconst (v := 1) hx hb dX4_countSlips_147 (by decide) ?_
  refine lv_isub hx hb dX4_countSlips_148 ?_
  refine q_i (z := 44) (by decide) ?_
  refine va_iald hx hb hK hP 2 0 rfl rfl (vin (by decide)) dX4_countSlips_149 ?_
  refine q_i (z := 0) rfl ?_
  refine lv_iconst (v := 3) hx hb dX4_countSlips_150 (by decide) ?_
  refine lv_imul hx hb dX4_countSlips_151 ?_
  refine q_i (z := 0) (by decide) ?_
  refine lv_iconst (v := 4) hx hb dX4_countSlips_152 (by decide) ?_
  refine lv_idiv hx hb dX4_countSlips_153 (by decide) ?_
  refine q_i (z := 0) (by decide) ?_
  refine va_iast hx hb hK hP hD hS 2 0 rfl rfl (vin (by decide)) dX4_countSlips_154 (fun H locs hP hD hS => ?_)
  have hP : va_P D vwCl [(pr, .inr (4, [.int 0, .ref prw, .ref lft, .ref lea])), (nw, .inr (3, [.int 2, .int 0, .ref keys, .ref moms, .ref lens, .ref prts, .ref luds, .ref hnds, .ref lats, .ref knds, .ref rch, .ref spd, .int 0, .int 0, .int 0, .ref unN, .ref unH, .ref ptn])), (lft, .inl (cI, 56, .inl (upd (fun _ => 0) (45 : Int32).toNatClampNeg 0)))] H := hP
  have hD : va_D (va_A (w_countSlips cI cZ cP pr prw lft lea nw keys moms lens prts luds hnds lats knds rch spd unN unH ptn) sz) [(pr, .inr (4, [.int 0, .ref prw, .ref lft, .ref lea])), (nw, .inr (3, [.int 2, .int 0, .ref keys, .ref moms, .ref lens, .ref prts, .ref luds, .ref hnds, .ref lats, .ref knds, .ref rch, .ref spd, .int 0, .int 0, .int 0, .ref unN, .ref unH, .ref ptn])), (lft, .inl (cI, 56, .inl (upd (fun _ => 0) (45 : Int32).toNatClampNeg 0)))] := hD
  rw [upd_c] at hP hD
  have hP : va_P D vwCl [(pr, .inr (4, [.int 0, .ref prw, .ref lft, .ref lea])), (nw, .inr (3, [.int 2, .int 0, .ref keys, .ref moms, .ref lens, .ref prts, .ref luds, .ref hnds, .ref lats, .ref knds, .ref rch, .ref spd, .int 0, .int 0, .int 0, .ref unN, .ref unH, .ref ptn])), (lft, .inl (cI, 56, .inl (fun _ => 0)))] H := hP
  have hD : va_D (va_A (w_countSlips cI cZ cP pr prw lft lea nw keys moms lens prts luds hnds lats knds rch spd unN unH ptn) sz) [(pr, .inr (4, [.int 0, .ref prw, .ref lft, .ref lea])), (nw, .inr (3, [.int 2, .int 0, .ref keys, .ref moms, .ref lens, .ref prts, .ref luds, .ref hnds, .ref lats, .ref knds, .ref rch, .ref spd, .int 0, .int 0, .int 0, .ref unN, .ref unH, .ref ptn])), (lft, .inl (cI, 56, .inl (fun _ => 0)))] := hD
  refine lv_iinc (v := 4) (lv' := [(3, .int 4), (2, .int 6), (0, .ref pr), (1, .ref nw)]) hx hb dX4_countSlips_155 hl (k := 0) rfl (by decide) (by decide) rfl (fun ls hl => ?_)
  refine lv_goto (tgt := 121) hx hb dX4_countSlips_158 (by decide) ?_
  refine lv_iload_n hx hb dX4_countSlips_121 rfl (lv_at hl 0 rfl) ?_
  refine lv_bipush (v := 6) hx hb dX4_countSlips_122 (by decide) ?_
  refine lv_icmp_gt (tgt := 161) hx hb dX4_countSlips_124 (by decide) (fun c_55 => absurd c_55 (by decide)) (fun _ => ?_)
  refine lv_aload_n hx hb dX4_countSlips_127 rfl (lv_at hl 2 rfl) ?_
  refine va_get (D := D) (ci := 4) (v := .ref lft) (C := RX4) (T := TX4) (N := 4) hx hb ht inX4 hown hK hP 0 rfl rfl 2 (Nat.le_of_ble_eq_true rfl) (ht _ kw_326) (fun _ h9 => h9) rfl dX4_countSlips_128 ?_
  refine lv_iload_n hx hb dX4_countSlips_131 rfl (lv_at hl 1 rfl) ?_
  refine lv_bipush (v := 7) hx hb dX4_countSlips_132 (by decide) ?_
  refine lv_imul hx hb dX4_countSlips_134 ?_
  refine q_i (z := 42) (by decide) ?_
  refine lv_iload_n hx hb dX4_countSlips_135 rfl (lv_at hl 0 rfl) ?_
  refine lv_iadd hx hb dX4_countSlips_136 ?_
  refine q_i (z := 46) (by decide) ?_
  refine lv_aload_n hx hb dX4_countSlips_137 rfl (lv_at hl 2 rfl) ?_
  refine va_get (D := D) (ci := 4) (v := .ref lft) (C := RX4) (T := TX4) (N := 4) hx hb ht inX4 hown hK hP 0 rfl rfl 2 (Nat.le_of_ble_eq_true rfl) (ht _ kw_326) (fun _ h9 => h9) rfl dX4_countSlips_138 ?_
  refine lv_iload_n hx hb dX4_countSlips_141 rfl (lv_at hl 1 rfl) ?_
  refine lv_bipush (v := 7) hx hb dX4_countSlips_142 (by decide) ?_
  refine lv_imul hx hb dX4_countSlips_144 ?_
  refine q_i (z := 42) (by decide) ?_
  refine lv_iload_n hx hb dX4_countSlips_145 rfl (lv_at hl 0 rfl) ?_
  refine lv_iadd hx hb dX4_countSlips_146 ?_
  refine q_i (z := 46) (by decide) ?_
  refine lv_iconst (v := 1) hx hb dX4_countSlips_147 (by decide) ?_
  refine lv_isub hx hb dX4_countSlips_148 ?_
  refine q_i (z := 45) (by decide) ?_
  refine va_iald hx hb hK hP 2 0 rfl rfl (vin (by decide)) dX4_countSlips_149 ?_
  refine q_i (z := 0) rfl ?_
  refine lv_iconst (v := 3) hx hb dX4_countSlips_150 (by decide) ?_
  refine lv_imul hx hb dX4_countSlips_151 ?_
  refine q_i (z := 0) (by decide) ?_
  refine lv_iconst (v := 4) hx hb dX4_countSlips_152 (by decide) ?_
  refine lv_idiv hx hb dX4_countSlips_153 (by decide) ?_
  refine q_i (z := 0) (by decide) ?_
  refine va_iast hx hb hK hP hD hS 2 0 rfl rfl (vin (by decide)) dX4_countSlips_154 (fun H locs hP hD hS => ?_)
  have hP : va_P D vwCl [(pr, .inr (4, [.int 0, .ref prw, .ref lft, .ref lea])), (nw, .inr (3, [.int 2, .int 0, .ref keys, .ref moms, .ref lens, .ref prts, .ref luds, .ref hnds, .ref lats, .ref knds, .ref rch, .ref spd, .int 0, .int 0, .int 0, .ref unN, .ref unH, .ref ptn])), (lft, .inl (cI, 56, .inl (upd (fun _ => 0) (46 : Int32).toNatClampNeg 0)))] H := hP
  have hD : va_D (va_A (w_countSlips cI cZ cP pr prw lft lea nw keys moms lens prts luds hnds lats knds rch spd unN unH ptn) sz) [(pr, .inr (4, [.int 0, .ref prw, .ref lft, .ref lea])), (nw, .inr (3, [.int 2, .int 0, .ref keys, .ref moms, .ref lens, .ref prts, .ref luds, .ref hnds, .ref lats, .ref knds, .ref rch, .ref spd, .int 0, .int 0, .int 0, .ref unN, .ref unH, .ref ptn])), (lft, .inl (cI, 56, .inl (upd (fun _ => 0) (46 : Int32).toNatClampNeg 0)))] := hD
  rw [upd_c] at hP hD
  have hP : va_P D vwCl [(pr, .inr (4, [.int 0, .ref prw, .ref lft, .ref lea])), (nw, .inr (3, [.int 2, .int 0, .ref keys, .ref moms, .ref lens, .ref prts, .ref luds, .ref hnds, .ref lats, .ref knds, .ref rch, .ref spd, .int 0, .int 0, .int 0, .ref unN, .ref unH, .ref ptn])), (lft, .inl (cI, 56, .inl (fun _ => 0)))] H := hP
  have hD : va_D (va_A (w_countSlips cI cZ cP pr prw lft lea nw keys moms lens prts luds hnds lats knds rch spd unN unH ptn) sz) [(pr, .inr (4, [.int 0, .ref prw, .ref lft, .ref lea])), (nw, .inr (3, [.int 2, .int 0, .ref keys, .ref moms, .ref lens, .ref prts, .ref luds, .ref hnds, .ref lats, .ref knds, .ref rch, .ref spd, .int 0, .int 0, .int 0, .ref unN, .ref unH, .ref ptn])), (lft, .inl (cI, 56, .inl (fun _ => 0)))] := hD
  refine lv_iinc (v := 5) (lv' := [(3, .int 5), (2, .int 6), (0, .ref pr), (1, .ref nw)]) hx hb dX4_countSlips_155 hl (k := 0) rfl (by decide) (by decide) rfl (fun ls hl => ?_)
  refine lv_goto (tgt := 121) hx hb dX4_countSlips_158 (by decide) ?_
  refine lv_iload_n hx hb dX4_countSlips_121 rfl (lv_at hl 0 rfl) ?_
  refine lv_bipush (v := 6) hx hb dX4_countSlips_122 (by decide) ?_
  refine lv_icmp_gt (tgt := 161) hx hb dX4_countSlips_124 (by decide) (fun c_56 => absurd c_56 (by decide)) (fun _ => ?_)
  refine lv_aload_n hx hb dX4_countSlips_127 rfl (lv_at hl 2 rfl) ?_
  refine va_get (D := D) (ci := 4) (v := .ref lft) (C := RX4) (T := TX4) (N := 4) hx hb ht inX4 hown hK hP 0 rfl rfl 2 (Nat.le_of_ble_eq_true rfl) (ht _ kw_326) (fun _ h9 => h9) rfl dX4_countSlips_128 ?_
  refine lv_iload_n hx hb dX4_countSlips_131 rfl (lv_at hl 1 rfl) ?_
  refine lv_bipush (v := 7) hx hb dX4_countSlips_132 (by decide) ?_
  refine lv_imul hx hb dX4_countSlips_134 ?_
  refine q_i (z := 42) (by decide) ?_
  refine lv_iload_n hx hb dX4_countSlips_135 rfl (lv_at hl 0 rfl) ?_
  refine lv_iadd hx hb dX4_countSlips_136 ?_
  refine q_i (z := 47) (by decide) ?_
  refine lv_aload_n hx hb dX4_countSlips_137 rfl (lv_at hl 2 rfl) ?_
  refine va_get (D := D) (ci := 4) (v := .ref lft) (C := RX4) (T := TX4) (N := 4) hx hb ht inX4 hown hK hP 0 rfl rfl 2 (Nat.le_of_ble_eq_true rfl) (ht _ kw_326) (fun _ h9 => h9) rfl dX4_countSlips_138 ?_
  refine lv_iload_n hx hb dX4_countSlips_141 rfl (lv_at hl 1 rfl) ?_
  refine lv_bipush (v := 7) hx hb dX4_countSlips_142 (by decide) ?_
  refine lv_imul hx hb dX4_countSlips_144 ?_
  refine q_i (z := 42) (by decide) ?_
  refine lv_iload_n hx hb dX4_countSlips_145 rfl (lv_at hl 0 rfl) ?_
  refine lv_iadd hx hb dX4_countSlips_146 ?_
  refine q_i (z := 47) (by decide) ?_
  refine lv_iconst (v := 1) hx hb dX4_countSlips_147 (by decide) ?_
  refine lv_isub hx hb dX4_countSlips_148 ?_
  refine q_i (z := 46) (by decide) ?_
  refine va_iald hx hb hK hP 2 0 rfl rfl (vin (by decide)) dX4_countSlips_149 ?_
  refine q_i (z := 0) rfl ?_
  refine lv_iconst (v := 3) hx hb dX4_countSlips_150 (by decide) ?_
  refine lv_imul hx hb dX4_countSlips_151 ?_
  refine q_i (z := 0) (by decide) ?_
  refine lv_iconst (v := 4) hx hb dX4_countSlips_152 (by decide) ?_
  refine lv_idiv hx hb dX4_countSlips_153 (by decide) ?_
  refine q_i (z := 0) (by decide) ?_
  refine va_iast hx hb hK hP hD hS 2 0 rfl rfl (vin (by decide)) dX4_countSlips_154 (fun H locs hP hD hS => ?_)
  have hP : va_P D vwCl [(pr, .inr (4, [.int 0, .ref prw, .ref lft, .ref lea])), (nw, .inr (3, [.int 2, .int 0, .ref keys, .ref moms, .ref lens, .ref prts, .ref luds, .ref hnds, .ref lats, .ref knds, .ref rch, .ref spd, .int 0, .int 0, .int 0, .ref unN, .ref unH, .ref ptn])), (lft, .inl (cI, 56, .inl (upd (fun _ => 0) (47 : Int32).toNatClampNeg 0)))] H := hP
  have hD : va_D (va_A (w_countSlips cI cZ cP pr prw lft lea nw keys moms lens prts luds hnds lats knds rch spd unN unH ptn) sz) [(pr, .inr (4, [.int 0, .ref prw, .ref lft, .ref lea])), (nw, .inr (3, [.int 2, .int 0, .ref keys, .ref moms, .ref lens, .ref prts, .ref luds, .ref hnds, .ref lats, .ref knds, .ref rch, .ref spd, .int 0, .int 0, .int 0, .ref unN, .ref unH, .ref ptn])), (lft, .inl (cI, 56, .inl (upd (fun _ => 0) (47 : Int32).toNatClampNeg 0)))] := hD
  rw [upd_c] at hP hD
  have hP : va_P D vwCl [(pr, .inr (4, [.int 0, .ref prw, .ref lft, .ref lea])), (nw, .inr (3, [.int 2, .int 0, .ref keys, .ref moms, .ref lens, .ref prts, .ref luds, .ref hnds, .ref lats, .ref knds, .ref rch, .ref spd, .int 0, .int 0, .int 0, .ref unN, .ref unH, .ref ptn])), (lft, .inl (cI, 56, .inl (fun _ => 0)))] H := hP
  have hD : va_D (va_A (w_countSlips cI cZ cP pr prw lft lea nw keys moms lens prts luds hnds lats knds rch spd unN unH ptn) sz) [(pr, .inr (4, [.int 0, .ref prw, .ref lft, .ref lea])), (nw, .inr (3, [.int 2, .int 0, .ref keys, .ref moms, .ref lens, .ref prts, .ref luds, .ref hnds, .ref lats, .ref knds, .ref rch, .ref spd, .int 0, .int 0, .int 0, .ref unN, .ref unH, .ref ptn])), (lft, .inl (cI, 56, .inl (fun _ => 0)))] := hD
  refine lv_iinc (v := 6) (lv' := [(3, .int 6), (2, .int 6), (0, .ref pr), (1, .ref nw)]) hx hb dX4_countSlips_155 hl (k := 0) rfl (by decide) (by decide) rfl (fun ls hl => ?_)
  refine lv_goto (tgt := 121) hx hb dX4_countSlips_158 (by decide) ?_
  refine lv_iload_n hx hb dX4_countSlips_121 rfl (lv_at hl 0 rfl) ?_
  refine lv_bipush (v := 6) hx hb dX4_countSlips_122 (by decide) ?_
  refine lv_icmp_gt (tgt := 161) hx hb dX4_countSlips_124 (by decide) (fun c_57 => absurd c_57 (by decide)) (fun _ => ?_)
  refine lv_aload_n hx hb dX4_countSlips_127 rfl (lv_at hl 2 rfl) ?_
  refine va_get (D := D) (ci := 4) (v := .ref lft) (C := RX4) (T := TX4) (N := 4) hx hb ht inX4 hown hK hP 0 rfl rfl 2 (Nat.le_of_ble_eq_true rfl) (ht _ kw_326) (fun _ h9 => h9) rfl dX4_countSlips_128 ?_
  refine lv_iload_n hx hb dX4_countSlips_131 rfl (lv_at hl 1 rfl) ?_
  refine lv_bipush (v := 7) hx hb dX4_countSlips_132 (by decide) ?_
  refine lv_imul hx hb dX4_countSlips_134 ?_
  refine q_i (z := 42) (by decide) ?_
  refine lv_iload_n hx hb dX4_countSlips_135 rfl (lv_at hl 0 rfl) ?_
  refine lv_iadd hx hb dX4_countSlips_136 ?_
  refine q_i (z := 48) (by decide) ?_
  refine lv_aload_n hx hb dX4_countSlips_137 rfl (lv_at hl 2 rfl) ?_
  refine va_get (D := D) (ci := 4) (v := .ref lft) (C := RX4) (T := TX4) (N := 4) hx hb ht inX4 hown hK hP 0 rfl rfl 2 (Nat.le_of_ble_eq_true rfl) (ht _ kw_326) (fun _ h9 => h9) rfl dX4_countSlips_138 ?_
  refine lv_iload_n hx hb dX4_countSlips_141 rfl (lv_at hl 1 rfl) ?_
  refine lv_bipush (v := 7) hx hb dX4_countSlips_142 (by decide) ?_
  refine lv_imul hx hb dX4_countSlips_144 ?_
  refine q_i (z := 42) (by decide) ?_
  refine lv_iload_n hx hb dX4_countSlips_145 rfl (lv_at hl 0 rfl) ?_
  refine lv_iadd hx hb dX4_countSlips_146 ?_
  refine q_i (z := 48) (by decide) ?_
  refine lv_iconst (v := 1) hx hb dX4_countSlips_147 (by decide) ?_
  refine lv_isub hx hb dX4_countSlips_148 ?_
  refine q_i (z := 47) (by decide) ?_
  refine va_iald hx hb hK hP 2 0 rfl rfl (vin (by decide)) dX4_countSlips_149 ?_
  refine q_i (z := 0) rfl ?_
  refine lv_iconst (v := 3) hx hb dX4_countSlips_150 (by decide) ?_
  refine lv_imul hx hb dX4_countSlips_151 ?_
  refine q_i (z := 0) (by decide) ?_
  refine lv_iconst (v := 4) hx hb dX4_countSlips_152 (by decide) ?_
  refine lv_idiv hx hb dX4_countSlips_153 (by decide) ?_
  refine q_i (z := 0) (by decide) ?_
  refine va_iast hx hb hK hP hD hS 2 0 rfl rfl (vin (by decide)) dX4_countSlips_154 (fun H locs hP hD hS => ?_)
  have hP : va_P D vwCl [(pr, .inr (4, [.int 0, .ref prw, .ref lft, .ref lea])), (nw, .inr (3, [.int 2, .int 0, .ref keys, .ref moms, .ref lens, .ref prts, .ref luds, .ref hnds, .ref lats, .ref knds, .ref rch, .ref spd, .int 0, .int 0, .int 0, .ref unN, .ref unH, .ref ptn])), (lft, .inl (cI, 56, .inl (upd (fun _ => 0) (48 : Int32).toNatClampNeg 0)))] H := hP
  have hD : va_D (va_A (w_countSlips cI cZ cP pr prw lft lea nw keys moms lens prts luds hnds lats knds rch spd unN unH ptn) sz) [(pr, .inr (4, [.int 0, .ref prw, .ref lft, .ref lea])), (nw, .inr (3, [.int 2, .int 0, .ref keys, .ref moms, .ref lens, .ref prts, .ref luds, .ref hnds, .ref lats, .ref knds, .ref rch, .ref spd, .int 0, .int 0, .int 0, .ref unN, .ref unH, .ref ptn])), (lft, .inl (cI, 56, .inl (upd (fun _ => 0) (48 : Int32).toNatClampNeg 0)))] := hD
  rw [upd_c] at hP hD
  have hP : va_P D vwCl [(pr, .inr (4, [.int 0, .ref prw, .ref lft, .ref lea])), (nw, .inr (3, [.int 2, .int 0, .ref keys, .ref moms, .ref lens, .ref prts, .ref luds, .ref hnds, .ref lats, .ref knds, .ref rch, .ref spd, .int 0, .int 0, .int 0, .ref unN, .ref unH, .ref ptn])), (lft, .inl (cI, 56, .inl (fun _ => 0)))] H := hP
  have hD : va_D (va_A (w_countSlips cI cZ cP pr prw lft lea nw keys moms lens prts luds hnds lats knds rch spd unN unH ptn) sz) [(pr, .inr (4, [.int 0, .ref prw, .ref lft, .ref lea])), (nw, .inr (3, [.int 2, .int 0, .ref keys, .ref moms, .ref lens, .ref prts, .ref luds, .ref hnds, .ref lats, .ref knds, .ref rch, .ref spd, .int 0, .int 0, .int 0, .ref unN, .ref unH, .ref ptn])), (lft, .inl (cI, 56, .inl (fun _ => 0)))] := hD
  refine lv_iinc (v := 7) (lv' := [(3, .int 7), (2, .int 6), (0, .ref pr), (1, .ref nw)]) hx hb dX4_countSlips_155 hl (k := 0) rfl (by decide) (by decide) rfl (fun ls hl => ?_)
  refine lv_goto (tgt := 121) hx hb dX4_countSlips_158 (by decide) ?_
  refine lv_iload_n hx hb dX4_countSlips_121 rfl (lv_at hl 0 rfl) ?_
  refine lv_bipush (v := 6) hx hb dX4_countSlips_122 (by decide) ?_
  refine lv_icmp_gt (tgt := 161) hx hb dX4_countSlips_124 (by decide) (fun _ => ?_) (fun c_58 => absurd (by decide) c_58)
  refine lv_iinc (v := 7) (lv' := [(2, .int 7), (3, .int 7), (0, .ref pr), (1, .ref nw)]) hx hb dX4_countSlips_161 hl (k := 1) rfl (by decide) (by decide) rfl (fun ls hl => ?_)
  refine lv_goto (tgt := 113) hx hb dX4_countSlips_164 (by decide) ?_
  refine lv_iload_n hx hb dX4_countSlips_113 rfl (lv_at hl 0 rfl) ?_
  refine lv_bipush (v := 8) hx hb dX4_countSlips_114 (by decide) ?_
  refine lv_icmp_ge (tgt := 167) hx hb dX4_countSlips_116 (by decide) (fun c_59 => absurd c_59 (by decide)) (fun _ => ?_)
  refine lv_iconst (v := 1) hx hb dX4_countSlips_119 (by decide) ?_
  refine lv_istore_n (lv' := [(3, .int 1), (2, .int 7), (0, .ref pr), (1, .ref nw)]) hx hb dX4_countSlips_120 rfl hl (by decide) rfl (fun ls hl => ?_)
  refine lv_iload_n hx hb dX4_countSlips_121 rfl (lv_at hl 0 rfl) ?_
  refine lv_bipush (v := 6) hx hb dX4_countSlips_122 (by decide) ?_
  refine lv_icmp_gt (tgt := 161) hx hb dX4_countSlips_124 (by decide) (fun c_60 => absurd c_60 (by decide)) (fun _ => ?_)
  refine lv_aload_n hx hb dX4_countSlips_127 rfl (lv_at hl 2 rfl) ?_
  refine va_get (D := D) (ci := 4) (v := .ref lft) (C := RX4) (T := TX4) (N := 4) hx hb ht inX4 hown hK hP 0 rfl rfl 2 (Nat.le_of_ble_eq_true rfl) (ht _ kw_326) (fun _ h9 => h9) rfl dX4_countSlips_128 ?_
  refine lv_iload_n hx hb dX4_countSlips_131 rfl (lv_at hl 1 rfl) ?_
  refine lv_bipush (v := 7) hx hb dX4_countSlips_132 (by decide) ?_
  refine lv_imul hx hb dX4_countSlips_134 ?_
  refine q_i (z := 49) (by decide) ?_
  refine lv_iload_n hx hb dX4_countSlips_135 rfl (lv_at hl 0 rfl) ?_
  refine lv_iadd hx hb dX4_countSlips_136 ?_
  refine q_i (z := 50) (by decide) ?_
  refine lv_aload_n hx hb dX4_countSlips_137 rfl (lv_at hl 2 rfl) ?_
  refine va_get (D := D) (ci := 4) (v := .ref lft) (C := RX4) (T := TX4) (N := 4) hx hb ht inX4 hown hK hP 0 rfl rfl 2 (Nat.le_of_ble_eq_true rfl) (ht _ kw_326) (fun _ h9 => h9) rfl dX4_countSlips_138 ?_
  refine lv_iload_n hx hb dX4_countSlips_141 rfl (lv_at hl 1 rfl) ?_
  refine lv_bipush (v := 7) hx hb dX4_countSlips_142 (by decide) ?_
  refine lv_imul hx hb dX4_countSlips_144 ?_
  refine q_i (z := 49) (by decide) ?_
  refine lv_iload_n hx hb dX4_countSlips_145 rfl (lv_at hl 0 rfl) ?_
  refine lv_iadd hx hb dX4_countSlips_146 ?_
  refine q_i (z := 50) (by decide) ?_
  refine lv_iconst (v := 1) hx hb dX4_countSlips_147 (by decide) ?_
  refine lv_isub hx hb dX4_countSlips_148 ?_
  refine q_i (z := 49) (by decide) ?_
  refine va_iald hx hb hK hP 2 0 rfl rfl (vin (by decide)) dX4_countSlips_149 ?_
  refine q_i (z := 0) rfl ?_
  refine lv_iconst (v := 3) hx hb dX4_countSlips_150 (by decide) ?_
  refine lv_imul hx hb dX4_countSlips_151 ?_
  refine q_i (z := 0) (by decide) ?_
  refine lv_iconst (v := 4) hx hb dX4_countSlips_152 (by decide) ?_
  refine lv_idiv hx hb dX4_countSlips_153 (by decide) ?_
  refine q_i (z := 0) (by decide) ?_
  refine va_iast hx hb hK hP hD hS 2 0 rfl rfl (vin (by decide)) dX4_countSlips_154 (fun H locs hP hD hS => ?_)
  have hP : va_P D vwCl [(pr, .inr (4, [.int 0, .ref prw, .ref lft, .ref lea])), (nw, .inr (3, [.int 2, .int 0, .ref keys, .ref moms, .ref lens, .ref prts, .ref luds, .ref hnds, .ref lats, .ref knds, .ref rch, .ref spd, .int 0, .int 0, .int 0, .ref unN, .ref unH, .ref ptn])), (lft, .inl (cI, 56, .inl (upd (fun _ => 0) (50 : Int32).toNatClampNeg 0)))] H := hP
  have hD : va_D (va_A (w_countSlips cI cZ cP pr prw lft lea nw keys moms lens prts luds hnds lats knds rch spd unN unH ptn) sz) [(pr, .inr (4, [.int 0, .ref prw, .ref lft, .ref lea])), (nw, .inr (3, [.int 2, .int 0, .ref keys, .ref moms, .ref lens, .ref prts, .ref luds, .ref hnds, .ref lats, .ref knds, .ref rch, .ref spd, .int 0, .int 0, .int 0, .ref unN, .ref unH, .ref ptn])), (lft, .inl (cI, 56, .inl (upd (fun _ => 0) (50 : Int32).toNatClampNeg 0)))] := hD
  rw [upd_c] at hP hD
  have hP : va_P D vwCl [(pr, .inr (4, [.int 0, .ref prw, .ref lft, .ref lea])), (nw, .inr (3, [.int 2, .int 0, .ref keys, .ref moms, .ref lens, .ref prts, .ref luds, .ref hnds, .ref lats, .ref knds, .ref rch, .ref spd, .int 0, .int 0, .int 0, .ref unN, .ref unH, .ref ptn])), (lft, .inl (cI, 56, .inl (fun _ => 0)))] H := hP
  have hD : va_D (va_A (w_countSlips cI cZ cP pr prw lft lea nw keys moms lens prts luds hnds lats knds rch spd unN unH ptn) sz) [(pr, .inr (4, [.int 0, .ref prw, .ref lft, .ref lea])), (nw, .inr (3, [.int 2, .int 0, .ref keys, .ref moms, .ref lens, .ref prts, .ref luds, .ref hnds, .ref lats, .ref knds, .ref rch, .ref spd, .int 0, .int 0, .int 0, .ref unN, .ref unH, .ref ptn])), (lft, .inl (cI, 56, .inl (fun _ => 0)))] := hD
  refine lv_iinc (v := 2) (lv' := [(3, .int 2), (2, .int 7), (0, .ref pr), (1, .ref nw)]) hx hb dX4_countSlips_155 hl (k := 0) rfl (by decide) (by decide) rfl (fun ls hl => ?_)
  refine lv_goto (tgt := 121) hx hb dX4_countSlips_158 (by decide) ?_
  refine lv_iload_n hx hb dX4_countSlips_121 rfl (lv_at hl 0 rfl) ?_
  refine lv_bipush (v := 6) hx hb dX4_countSlips_122 (by decide) ?_
  refine lv_icmp_gt (tgt := 161) hx hb dX4_countSlips_124 (by decide) (fun c_61 => absurd c_61 (by decide)) (fun _ => ?_)
  refine lv_aload_n hx hb dX4_countSlips_127 rfl (lv_at hl 2 rfl) ?_
  refine va_get (D := D) (ci := 4) (v := .ref lft) (C := RX4) (T := TX4) (N := 4) hx hb ht inX4 hown hK hP 0 rfl rfl 2 (Nat.le_of_ble_eq_true rfl) (ht _ kw_326) (fun _ h9 => h9) rfl dX4_countSlips_128 ?_
  refine lv_iload_n hx hb dX4_countSlips_131 rfl (lv_at hl 1 rfl) ?_
  refine lv_bipush (v := 7) hx hb dX4_countSlips_132 (by decide) ?_
  refine lv_imul hx hb dX4_countSlips_134 ?_
  refine q_i (z := 49) (by decide) ?_
  refine lv_iload_n hx hb dX4_countSlips_135 rfl (lv_at hl 0 rfl) ?_
  refine lv_iadd hx hb dX4_countSlips_136 ?_
  refine q_i (z := 51) (by decide) ?_
  refine lv_aload_n hx hb dX4_countSlips_137 rfl (lv_at hl 2 rfl) ?_
  refine va_get (D := D) (ci := 4) (v := .ref lft) (C := RX4) (T := TX4) (N := 4) hx hb ht inX4 hown hK hP 0 rfl rfl 2 (Nat.le_of_ble_eq_true rfl) (ht _ kw_326) (fun _ h9 => h9) rfl dX4_countSlips_138 ?_
  refine lv_iload_n hx hb dX4_countSlips_141 rfl (lv_at hl 1 rfl) ?_
  refine lv_bipush (v := 7) hx hb dX4_countSlips_142 (by decide) ?_
  refine lv_imul hx hb dX4_countSlips_144 ?_
  refine q_i (z := 49) (by decide) ?_
  refine lv_iload_n hx hb dX4_countSlips_145 rfl (lv_at hl 0 rfl) ?_
  refine lv_iadd hx hb dX4_countSlips_146 ?_
  refine q_i (z := 51) (by decide) ?_
  refine lv_iconst (v := 1) hx hb dX4_countSlips_147 (by decide) ?_
  refine lv_isub hx hb dX4_countSlips_148 ?_
  refine q_i (z := 50) (by decide) ?_
  refine va_iald hx hb hK hP 2 0 rfl rfl (vin (by decide)) dX4_countSlips_149 ?_
  refine q_i (z := 0) rfl ?_
  refine lv_iconst (v := 3) hx hb dX4_countSlips_150 (by decide) ?_
  refine lv_imul hx hb dX4_countSlips_151 ?_
  refine q_i (z := 0) (by decide) ?_
  refine lv_iconst (v := 4) hx hb dX4_countSlips_152 (by decide) ?_
  refine lv_idiv hx hb dX4_countSlips_153 (by decide) ?_
  refine q_i (z := 0) (by decide) ?_
  refine va_iast hx hb hK hP hD hS 2 0 rfl rfl (vin (by decide)) dX4_countSlips_154 (fun H locs hP hD hS => ?_)
  have hP : va_P D vwCl [(pr, .inr (4, [.int 0, .ref prw, .ref lft, .ref lea])), (nw, .inr (3, [.int 2, .int 0, .ref keys, .ref moms, .ref lens, .ref prts, .ref luds, .ref hnds, .ref lats, .ref knds, .ref rch, .ref spd, .int 0, .int 0, .int 0, .ref unN, .ref unH, .ref ptn])), (lft, .inl (cI, 56, .inl (upd (fun _ => 0) (51 : Int32).toNatClampNeg 0)))] H := hP
  have hD : va_D (va_A (w_countSlips cI cZ cP pr prw lft lea nw keys moms lens prts luds hnds lats knds rch spd unN unH ptn) sz) [(pr, .inr (4, [.int 0, .ref prw, .ref lft, .ref lea])), (nw, .inr (3, [.int 2, .int 0, .ref keys, .ref moms, .ref lens, .ref prts, .ref luds, .ref hnds, .ref lats, .ref knds, .ref rch, .ref spd, .int 0, .int 0, .int 0, .ref unN, .ref unH, .ref ptn])), (lft, .inl (cI, 56, .inl (upd (fun _ => 0) (51 : Int32).toNatClampNeg 0)))] := hD
  rw [upd_c] at hP hD
  have hP : va_P D vwCl [(pr, .inr (4, [.int 0, .ref prw, .ref lft, .ref lea])), (nw, .inr (3, [.int 2, .int 0, .ref keys, .ref moms, .ref lens, .ref prts, .ref luds, .ref hnds, .ref lats, .ref knds, .ref rch, .ref spd, .int 0, .int 0, .int 0, .ref unN, .ref unH, .ref ptn])), (lft, .inl (cI, 56, .inl (fun _ => 0)))] H := hP
  have hD : va_D (va_A (w_countSlips cI cZ cP pr prw lft lea nw keys moms lens prts luds hnds lats knds rch spd unN unH ptn) sz) [(pr, .inr (4, [.int 0, .ref prw, .ref lft, .ref lea])), (nw, .inr (3, [.int 2, .int 0, .ref keys, .ref moms, .ref lens, .ref prts, .ref luds, .ref hnds, .ref lats, .ref knds, .ref rch, .ref spd, .int 0, .int 0, .int 0, .ref unN, .ref unH, .ref ptn])), (lft, .inl (cI, 56, .inl (fun _ => 0)))] := hD
  refine lv_iinc (v := 3) (lv' := [(3, .int 3), (2, .int 7), (0, .ref pr), (1, .ref nw)]) hx hb dX4_countSlips_155 hl (k := 0) rfl (by decide) (by decide) rfl (fun ls hl => ?_)
  refine lv_goto (tgt := 121) hx hb dX4_countSlips_158 (by decide) ?_
  refine lv_iload_n hx hb dX4_countSlips_121 rfl (lv_at hl 0 rfl) ?_
  refine lv_bipush (v := 6) hx hb dX4_countSlips_122 (by decide) ?_
  refine lv_icmp_gt (tgt := 161) hx hb dX4_countSlips_124 (by decide) (fun c_62 => absurd c_62 (by decide)) (fun _ => ?_)
  refine lv_aload_n hx hb dX4_countSlips_127 rfl (lv_at hl 2 rfl) ?_
  refine va_get (D := D) (ci := 4) (v := .ref lft) (C := RX4) (T := TX4) (N := 4) hx hb ht inX4 hown hK hP 0 rfl rfl 2 (Nat.le_of_ble_eq_true rfl) (ht _ kw_326) (fun _ h9 => h9) rfl dX4_countSlips_128 ?_
  refine lv_iload_n hx hb dX4_countSlips_131 rfl (lv_at hl 1 rfl) ?_
  refine lv_bipush (v := 7) hx hb dX4_countSlips_132 (by decide) ?_
  refine lv_imul hx hb dX4_countSlips_134 ?_
  refine q_i (z := 49) (by decide) ?_
  refine lv_iload_n hx hb dX4_countSlips_135 rfl (lv_at hl 0 rfl) ?_
  refine lv_iadd hx hb dX4_countSlips_136 ?_
  refine q_i (z := 52) (by decide) ?_
  refine lv_aload_n hx hb dX4_countSlips_137 rfl (lv_at hl 2 rfl) ?_
  refine va_get (D := D) (ci := 4) (v := .ref lft) (C := RX4) (T := TX4) (N := 4) hx hb ht inX4 hown hK hP 0 rfl rfl 2 (Nat.le_of_ble_eq_true rfl) (ht _ kw_326) (fun _ h9 => h9) rfl dX4_countSlips_138 ?_
  refine lv_iload_n hx hb dX4_countSlips_141 rfl (lv_at hl 1 rfl) ?_
  refine lv_bipush (v := 7) hx hb dX4_countSlips_142 (by decide) ?_
  refine lv_imul hx hb dX4_countSlips_144 ?_
  refine q_i (z := 49) (by decide) ?_
  refine lv_iload_n hx hb dX4_countSlips_145 rfl (lv_at hl 0 rfl) ?_
  refine lv_iadd hx hb dX4_countSlips_146 ?_
  refine q_i (z := 52) (by decide) ?_
  refine lv_iconst (v := 1) hx hb dX4_countSlips_147 (by decide) ?_
  refine lv_isub hx hb dX4_countSlips_148 ?_
  refine q_i (z := 51) (by decide) ?_
  refine va_iald hx hb hK hP 2 0 rfl rfl (vin (by decide)) dX4_countSlips_149 ?_
  refine q_i (z := 0) rfl ?_
  refine lv_iconst (v := 3) hx hb dX4_countSlips_150 (by decide) ?_
  refine lv_imul hx hb dX4_countSlips_151 ?_
  refine q_i (z := 0) (by decide) ?_
  refine lv_iconst (v := 4) hx hb dX4_countSlips_152 (by decide) ?_
  refine lv_idiv hx hb dX4_countSlips_153 (by decide) ?_
  refine q_i (z := 0) (by decide) ?_
  refine va_iast hx hb hK hP hD hS 2 0 rfl rfl (vin (by decide)) dX4_countSlips_154 (fun H locs hP hD hS => ?_)
  have hP : va_P D vwCl [(pr, .inr (4, [.int 0, .ref prw, .ref lft, .ref lea])), (nw, .inr (3, [.int 2, .int 0, .ref keys, .ref moms, .ref lens, .ref prts, .ref luds, .ref hnds, .ref lats, .ref knds, .ref rch, .ref spd, .int 0, .int 0, .int 0, .ref unN, .ref unH, .ref ptn])), (lft, .inl (cI, 56, .inl (upd (fun _ => 0) (52 : Int32).toNatClampNeg 0)))] H := hP
  have hD : va_D (va_A (w_countSlips cI cZ cP pr prw lft lea nw keys moms lens prts luds hnds lats knds rch spd unN unH ptn) sz) [(pr, .inr (4, [.int 0, .ref prw, .ref lft, .ref lea])), (nw, .inr (3, [.int 2, .int 0, .ref keys, .ref moms, .ref lens, .ref prts, .ref luds, .ref hnds, .ref lats, .ref knds, .ref rch, .ref spd, .int 0, .int 0, .int 0, .ref unN, .ref unH, .ref ptn])), (lft, .inl (cI, 56, .inl (upd (fun _ => 0) (52 : Int32).toNatClampNeg 0)))] := hD
  rw [upd_c] at hP hD
  have hP : va_P D vwCl [(pr, .inr (4, [.int 0, .ref prw, .ref lft, .ref lea])), (nw, .inr (3, [.int 2, .int 0, .ref keys, .ref moms, .ref lens, .ref prts, .ref luds, .ref hnds, .ref lats, .ref knds, .ref rch, .ref spd, .int 0, .int 0, .int 0, .ref unN, .ref unH, .ref ptn])), (lft, .inl (cI, 56, .inl (fun _ => 0)))] H := hP
  have hD : va_D (va_A (w_countSlips cI cZ cP pr prw lft lea nw keys moms lens prts luds hnds lats knds rch spd unN unH ptn) sz) [(pr, .inr (4, [.int 0, .ref prw, .ref lft, .ref lea])), (nw, .inr (3, [.int 2, .int 0, .ref keys, .ref moms, .ref lens, .ref prts, .ref luds, .ref hnds, .ref lats, .ref knds, .ref rch, .ref spd, .int 0, .int 0, .int 0, .ref unN, .ref unH, .ref ptn])), (lft, .inl (cI, 56, .inl (fun _ => 0)))] := hD
  refine lv_iinc (v := 4) (lv' := [(3, .int 4), (2, .int 7), (0, .ref pr), (1, .ref nw)]) hx hb dX4_countSlips_155 hl (k := 0) rfl (by decide) (by decide) rfl (fun ls hl => ?_)
  refine lv_goto (tgt := 121) hx hb dX4_countSlips_158 (by decide) ?_
  refine lv_iload_n hx hb dX4_countSlips_121 rfl (lv_at hl 0 rfl) ?_
  refine lv_bipush (v := 6) hx hb dX4_countSlips_122 (by decide) ?_
  refine lv_icmp_gt (tgt := 161) hx hb dX4_countSlips_124 (by decide) (fun c_63 => absurd c_63 (by decide)) (fun _ => ?_)
  refine lv_aload_n hx hb dX4_countSlips_127 rfl (lv_at hl 2 rfl) ?_
  refine va_get (D := D) (ci := 4) (v := .ref lft) (C := RX4) (T := TX4) (N := 4) hx hb ht inX4 hown hK hP 0 rfl rfl 2 (Nat.le_of_ble_eq_true rfl) (ht _ kw_326) (fun _ h9 => h9) rfl dX4_countSlips_128 ?_
  refine lv_iload_n hx hb dX4_countSlips_131 rfl (lv_at hl 1 rfl) ?_
  refine lv_bipush (v := 7) hx hb dX4_countSlips_132 (by decide) ?_
  refine lv_imul hx hb dX4_countSlips_134 ?_
  refine q_i (z := 49) (by decide) ?_
  refine lv_iload_n hx hb dX4_countSlips_135 rfl (lv_at hl 0 rfl) ?_
  refine lv_iadd hx hb dX4_countSlips_136 ?_
  refine q_i (z := 53) (by decide) ?_
  refine lv_aload_n hx hb dX4_countSlips_137 rfl (lv_at hl 2 rfl) ?_
  refine va_get (D := D) (ci := 4) (v := .ref lft) (C := RX4) (T := TX4) (N := 4) hx hb ht inX4 hown hK hP 0 rfl rfl 2 (Nat.le_of_ble_eq_true rfl) (ht _ kw_326) (fun _ h9 => h9) rfl dX4_countSlips_138 ?_
  refine lv_iload_n hx hb dX4_countSlips_141 rfl (lv_at hl 1 rfl) ?_
  refine lv_bipush (v := 7) hx hb dX4_countSlips_142 (by decide) ?_
  refine lv_imul hx hb dX4_countSlips_144 ?_
  refine q_i (z := 49) (by decide) ?_
  refine lv_iload_n hx hb dX4_countSlips_145 rfl (lv_at hl 0 rfl) ?_
  refine lv_iadd hx hb dX4_countSlips_146 ?_
  refine q_i (z := 53) (by decide) ?_
  refine lv_iconst (v := 1) hx hb dX4_countSlips_147 (by decide) ?_
  refine lv_isub hx hb dX4_countSlips_148 ?_
  refine q_i (z := 52) (by decide) ?_
  refine va_iald hx hb hK hP 2 0 rfl rfl (vin (by decide)) dX4_countSlips_149 ?_
  refine q_i (z := 0) rfl ?_
  refine lv_iconst (v := 3) hx hb dX4_countSlips_150 (by decide) ?_
  refine lv_imul hx hb dX4_countSlips_151 ?_
  refine q_i (z := 0) (by decide) ?_
  refine lv_iconst (v := 4) hx hb dX4_countSlips_152 (by decide) ?_
  refine lv_idiv hx hb dX4_countSlips_153 (by decide) ?_
  refine q_i (z := 0) (by decide) ?_
  refine va_iast hx hb hK hP hD hS 2 0 rfl rfl (vin (by decide)) dX4_countSlips_154 (fun H locs hP hD hS => ?_)
  have hP : va_P D vwCl [(pr, .inr (4, [.int 0, .ref prw, .ref lft, .ref lea])), (nw, .inr (3, [.int 2, .int 0, .ref keys, .ref moms, .ref lens, .ref prts, .ref luds, .ref hnds, .ref lats, .ref knds, .ref rch, .ref spd, .int 0, .int 0, .int 0, .ref unN, .ref unH, .ref ptn])), (lft, .inl (cI, 56, .inl (upd (fun _ => 0) (53 : Int32).toNatClampNeg 0)))] H := hP
  have hD : va_D (va_A (w_countSlips cI cZ cP pr prw lft lea nw keys moms lens prts luds hnds lats knds rch spd unN unH ptn) sz) [(pr, .inr (4, [.int 0, .ref prw, .ref lft, .ref lea])), (nw, .inr (3, [.int 2, .int 0, .ref keys, .ref moms, .ref lens, .ref prts, .ref luds, .ref hnds, .ref lats, .ref knds, .ref rch, .ref spd, .int 0, .int 0, .int 0, .ref unN, .ref unH, .ref ptn])), (lft, .inl (cI, 56, .inl (upd (fun _ => 0) (53 : Int32).toNatClampNeg 0)))] := hD
  rw [upd_c] at hP hD
  have hP : va_P D vwCl [(pr, .inr (4, [.int 0, .ref prw, .ref lft, .ref lea])), (nw, .inr (3, [.int 2, .int 0, .ref keys, .ref moms, .ref lens, .ref prts, .ref luds, .ref hnds, .ref lats, .ref knds, .ref rch, .ref spd, .int 0, .int 0, .int 0, .ref unN, .ref unH, .ref ptn])), (lft, .inl (cI, 56, .inl (fun _ => 0)))] H := hP
  have hD : va_D (va_A (w_countSlips cI cZ cP pr prw lft lea nw keys moms lens prts luds hnds lats knds rch spd unN unH ptn) sz) [(pr, .inr (4, [.int 0, .ref prw, .ref lft, .ref lea])), (nw, .inr (3, [.int 2, .int 0, .ref keys, .ref moms, .ref lens, .ref prts, .ref luds, .ref hnds, .ref lats, .ref knds, .ref rch, .ref spd, .int 0, .int 0, .int 0, .ref unN, .ref unH, .ref ptn])), (lft, .inl (cI, 56, .inl (fun _ => 0)))] := hD
  refine lv_iinc (v := 5) (lv' := [(3, .int 5), (2, .int 7), (0, .ref pr), (1, .ref nw)]) hx hb dX4_countSlips_155 hl (k := 0) rfl (by decide) (by decide) rfl (fun ls hl => ?_)
  refine lv_goto (tgt := 121) hx hb dX4_countSlips_158 (by decide) ?_
  refine lv_iload_n hx hb dX4_countSlips_121 rfl (lv_at hl 0 rfl) ?_
  refine lv_bipush (v := 6) hx hb dX4_countSlips_122 (by decide) ?_
  refine lv_icmp_gt (tgt := 161) hx hb dX4_countSlips_124 (by decide) (fun c_64 => absurd c_64 (by decide)) (fun _ => ?_)
  refine lv_aload_n hx hb dX4_countSlips_127 rfl (lv_at hl 2 rfl) ?_
  refine va_get (D := D) (ci := 4) (v := .ref lft) (C := RX4) (T := TX4) (N := 4) hx hb ht inX4 hown hK hP 0 rfl rfl 2 (Nat.le_of_ble_eq_true rfl) (ht _ kw_326) (fun _ h9 => h9) rfl dX4_countSlips_128 ?_
  refine lv_iload_n hx hb dX4_countSlips_131 rfl (lv_at hl 1 rfl) ?_
  refine lv_bipush (v := 7) hx hb dX4_countSlips_132 (by decide) ?_
  refine lv_imul hx hb dX4_countSlips_134 ?_
  refine q_i (z := 49) (by decide) ?_
  refine lv_iload_n hx hb dX4_countSlips_135 rfl (lv_at hl 0 rfl) ?_
  refine lv_iadd hx hb dX4_countSlips_136 ?_
  refine q_i (z := 54) (by decide) ?_
  refine lv_aload_n hx hb dX4_countSlips_137 rfl (lv_at hl 2 rfl) ?_
  refine va_get (D := D) (ci := 4) (v := .ref lft) (C := RX4) (T := TX4) (N := 4) hx hb ht inX4 hown hK hP 0 rfl rfl 2 (Nat.le_of_ble_eq_true rfl) (ht _ kw_326) (fun _ h9 => h9) rfl dX4_countSlips_138 ?_
  refine lv_iload_n hx hb dX4_countSlips_141 rfl (lv_at hl 1 rfl) ?_
  refine lv_bipush (v := 7) hx hb dX4_countSlips_142 (by decide) ?_
  refine lv_imul hx hb dX4_countSlips_144 ?_
  refine q_i (z := 49) (by decide) ?_
  refine lv_iload_n hx hb dX4_countSlips_145 rfl (lv_at hl 0 rfl) ?_
  refine lv_iadd hx hb dX4_countSlips_146 ?_
  refine q_i (z := 54) (by decide) ?_
  refine lv_iconst (v := 1) hx hb dX4_countSlips_147 (by decide) ?_
  refine lv_isub hx hb dX4_countSlips_148 ?_
  refine q_i (z := 53) (by decide) ?_
  refine va_iald hx hb hK hP 2 0 rfl rfl (vin (by decide)) dX4_countSlips_149 ?_
  refine q_i (z := 0) rfl ?_
  refine lv_iconst (v := 3) hx hb dX4_countSlips_150 (by decide) ?_
  refine lv_imul hx hb dX4_countSlips_151 ?_
  refine q_i (z := 0) (by decide) ?_
  refine lv_iconst (v := 4) hx hb dX4_countSlips_152 (by decide) ?_
  refine lv_idiv hx hb dX4_countSlips_153 (by decide) ?_
  refine q_i (z := 0) (by decide) ?_
  refine va_iast hx hb hK hP hD hS 2 0 rfl rfl (vin (by decide)) dX4_countSlips_154 (fun H locs hP hD hS => ?_)
  have hP : va_P D vwCl [(pr, .inr (4, [.int 0, .ref prw, .ref lft, .ref lea])), (nw, .inr (3, [.int 2, .int 0, .ref keys, .ref moms, .ref lens, .ref prts, .ref luds, .ref hnds, .ref lats, .ref knds, .ref rch, .ref spd, .int 0, .int 0, .int 0, .ref unN, .ref unH, .ref ptn])), (lft, .inl (cI, 56, .inl (upd (fun _ => 0) (54 : Int32).toNatClampNeg 0)))] H := hP
  have hD : va_D (va_A (w_countSlips cI cZ cP pr prw lft lea nw keys moms lens prts luds hnds lats knds rch spd unN unH ptn) sz) [(pr, .inr (4, [.int 0, .ref prw, .ref lft, .ref lea])), (nw, .inr (3, [.int 2, .int 0, .ref keys, .ref moms, .ref lens, .ref prts, .ref luds, .ref hnds, .ref lats, .ref knds, .ref rch, .ref spd, .int 0, .int 0, .int 0, .ref unN, .ref unH, .ref ptn])), (lft, .inl (cI, 56, .inl (upd (fun _ => 0) (54 : Int32).toNatClampNeg 0)))] := hD
  rw [upd_c] at hP hD
  have hP : va_P D vwCl [(pr, .inr (4, [.int 0, .ref prw, .ref lft, .ref lea])), (nw, .inr (3, [.int 2, .int 0, .ref keys, .ref moms, .ref lens, .ref prts, .ref luds, .ref hnds, .ref lats, .ref knds, .ref rch, .ref spd, .int 0, .int 0, .int 0, .ref unN, .ref unH, .ref ptn])), (lft, .inl (cI, 56, .inl (fun _ => 0)))] H := hP
  have hD : va_D (va_A (w_countSlips cI cZ cP pr prw lft lea nw keys moms lens prts luds hnds lats knds rch spd unN unH ptn) sz) [(pr, .inr (4, [.int 0, .ref prw, .ref lft, .ref lea])), (nw, .inr (3, [.int 2, .int 0, .ref keys, .ref moms, .ref lens, .ref prts, .ref luds, .ref hnds, .ref lats, .ref knds, .ref rch, .ref spd, .int 0, .int 0, .int 0, .ref unN, .ref unH, .ref ptn])), (lft, .inl (cI, 56, .inl (fun _ => 0)))] := hD
  refine lv_iinc (v := 6) (lv' := [(3, .int 6), (2, .int 7), (0, .ref pr), (1, .ref nw)]) hx hb dX4_countSlips_155 hl (k := 0) rfl (by decide) (by decide) rfl (fun ls hl => ?_)
  refine lv_goto (tgt := 121) hx hb dX4_countSlips_158 (by decide) ?_
  refine lv_iload_n hx hb dX4_countSlips_121 rfl (lv_at hl 0 rfl) ?_
  refine lv_bipush (v := 6) hx hb dX4_countSlips_122 (by decide) ?_
  refine lv_icmp_gt (tgt := 161) hx hb dX4_countSlips_124 (by decide) (fun c_65 => absurd c_65 (by decide)) (fun _ => ?_)
  refine lv_aload_n hx hb dX4_countSlips_127 rfl (lv_at hl 2 rfl) ?_
  refine va_get (D := D) (ci := 4) (v := .ref lft) (C := RX4) (T := TX4) (N := 4) hx hb ht inX4 hown hK hP 0 rfl rfl 2 (Nat.le_of_ble_eq_true rfl) (ht _ kw_326) (fun _ h9 => h9) rfl dX4_countSlips_128 ?_
  refine lv_iload_n hx hb dX4_countSlips_131 rfl (lv_at hl 1 rfl) ?_
  refine lv_bipush (v := 7) hx hb dX4_countSlips_132 (by decide) ?_
  refine lv_imul hx hb dX4_countSlips_134 ?_
  refine q_i (z := 49) (by decide) ?_
  refine lv_iload_n hx hb dX4_countSlips_135 rfl (lv_at hl 0 rfl) ?_
  refine lv_iadd hx hb dX4_countSlips_136 ?_
  refine q_i (z := 55) (by decide) ?_
  refine lv_aload_n hx hb dX4_countSlips_137 rfl (lv_at hl 2 rfl) ?_
  refine va_get (D := D) (ci := 4) (v := .ref lft) (C := RX4) (T := TX4) (N := 4) hx hb ht inX4 hown hK hP 0 rfl rfl 2 (Nat.le_of_ble_eq_true rfl) (ht _ kw_326) (fun _ h9 => h9) rfl dX4_countSlips_138 ?_
  refine lv_iload_n hx hb dX4_countSlips_141 rfl (lv_at hl 1 rfl) ?_
  refine lv_bipush (v := 7) hx hb dX4_countSlips_142 (by decide) ?_
  refine lv_imul hx hb dX4_countSlips_144 ?_
  refine q_i (z := 49) (by decide) ?_
  refine lv_iload_n hx hb dX4_countSlips_145 rfl (lv_at hl 0 rfl) ?_
  refine lv_iadd hx hb dX4_countSlips_146 ?_
  refine q_i (z := 55) (by decide) ?_
  refine lv_iconst (v := 1) hx hb dX4_countSlips_147 (by decide) ?_
  refine lv_isub hx hb dX4_countSlips_148 ?_
  refine q_i (z := 54) (by decide) ?_
  refine va_iald hx hb hK hP 2 0 rfl rfl (vin (by decide)) dX4_countSlips_149 ?_
  refine q_i (z := 0) rfl ?_
  refine lv_iconst (v := 3) hx hb dX4_countSlips_150 (by decide) ?_
  refine lv_imul hx hb dX4_countSlips_151 ?_
  refine q_i (z := 0) (by decide) ?_
  refine lv_iconst (v := 4) hx hb dX4_countSlips_152 (by decide) ?_
  refine lv_idiv hx hb dX4_countSlips_153 (by decide) ?_
  refine q_i (z := 0) (by decide) ?_
  refine va_iast hx hb hK hP hD hS 2 0 rfl rfl (vin (by decide)) dX4_countSlips_154 (fun H locs hP hD hS => ?_)
  have hP : va_P D vwCl [(pr, .inr (4, [.int 0, .ref prw, .ref lft, .ref lea])), (nw, .inr (3, [.int 2, .int 0, .ref keys, .ref moms, .ref lens, .ref prts, .ref luds, .ref hnds, .ref lats, .ref knds, .ref rch, .ref spd, .int 0, .int 0, .int 0, .ref unN, .ref unH, .ref ptn])), (lft, .inl (cI, 56, .inl (upd (fun _ => 0) (55 : Int32).toNatClampNeg 0)))] H := hP
  have hD : va_D (va_A (w_countSlips cI cZ cP pr prw lft lea nw keys moms lens prts luds hnds lats knds rch spd unN unH ptn) sz) [(pr, .inr (4, [.int 0, .ref prw, .ref lft, .ref lea])), (nw, .inr (3, [.int 2, .int 0, .ref keys, .ref moms, .ref lens, .ref prts, .ref luds, .ref hnds, .ref lats, .ref knds, .ref rch, .ref spd, .int 0, .int 0, .int 0, .ref unN, .ref unH, .ref ptn])), (lft, .inl (cI, 56, .inl (upd (fun _ => 0) (55 : Int32).toNatClampNeg 0)))] := hD
  rw [upd_c] at hP hD
  have hP : va_P D vwCl [(pr, .inr (4, [.int 0, .ref prw, .ref lft, .ref lea])), (nw, .inr (3, [.int 2, .int 0, .ref keys, .ref moms, .ref lens, .ref prts, .ref luds, .ref hnds, .ref lats, .ref knds, .ref rch, .ref spd, .int 0, .int 0, .int 0, .ref unN, .ref unH, .ref ptn])), (lft, .inl (cI, 56, .inl (fun _ => 0)))] H := hP
  have hD : va_D (va_A (w_countSlips cI cZ cP pr prw lft lea nw keys moms lens prts luds hnds lats knds rch spd unN unH ptn) sz) [(pr, .inr (4, [.int 0, .ref prw, .ref lft, .ref lea])), (nw, .inr (3, [.int 2, .int 0, .ref keys, .ref moms, .ref lens, .ref prts, .ref luds, .ref hnds, .ref lats, .ref knds, .ref rch, .ref spd, .int 0, .int 0, .int 0, .ref unN, .ref unH, .ref ptn])), (lft, .inl (cI, 56, .inl (fun _ => 0)))] := hD
  refine lv_iinc (v := 7) (lv' := [(3, .int 7), (2, .int 7), (0, .ref pr), (1, .ref nw)]) hx hb dX4_countSlips_155 hl (k := 0) rfl (by decide) (by decide) rfl (fun ls hl => ?_)
  refine lv_goto (tgt := 121) hx hb dX4_countSlips_158 (by decide) ?_
  refine lv_iload_n hx hb dX4_countSlips_121 rfl (lv_at hl 0 rfl) ?_
  refine lv_bipush (v := 6) hx hb dX4_countSlips_122 (by decide) ?_
  refine lv_icmp_gt (tgt := 161) hx hb dX4_countSlips_124 (by decide) (fun _ => ?_) (fun c_66 => absurd (by decide) c_66)
  refine lv_iinc (v := 8) (lv' := [(2, .int 8), (3, .int 7), (0, .ref pr), (1, .ref nw)]) hx hb dX4_countSlips_161 hl (k := 1) rfl (by decide) (by decide) rfl (fun ls hl => ?_)
  refine lv_goto (tgt := 113) hx hb dX4_countSlips_164 (by decide) ?_
  refine lv_iload_n hx hb dX4_countSlips_113 rfl (lv_at hl 0 rfl) ?_
  refine lv_bipush (v := 8) hx hb dX4_countSlips_114 (by decide) ?_
  refine lv_icmp_ge (tgt := 167) hx hb dX4_countSlips_116 (by decide) (fun _ => ?_) (fun c_67 => absurd (by decide) c_67)
  exact q_vret hX hr hlk () trivial (hP.sub [0, 2] rfl) (hD.sub [0, 2] (by decide) rfl) hS dX4_countSlips_167
abbrev w_leaves (cI cZ cP : ClassId) (pr : Nat) (prw : Nat) (lft : Nat) (lea : Nat) (a : Nat) (h : Nat) (t : Nat) : va_W := [(pr, .inr (4, [.int 0, .ref prw, .ref lft, .ref lea])), (lft, .inl (cI, 56, .inl (fun _ => 0))), (lea, .inl (cI, 63, .inl (fun _ => 0)))]
set_option maxHeartbeats 4000000 in
set_option maxRecDepth 100000 in
theorem c_leaves (l : Launch) (D : va_G) (cI cZ cP : ClassId) (sa : Nat → Nat) (pr : Nat) (prw : Nat) (lft : Nat) (lea : Nat) (a : Nat) (h : Nat) (t : Nat) (ha : a ≤ 7) (hh : h ≤ t) (hti : t ≤ 6) (sz : Nat) : Met l yX4_leaves (qW yX4_leaves cX4_leaves 4 (some .int)) ({ frames := 0, cells := 0, slots := 0, locals := 0 } : Room) (qP D (TY cI cZ cP) sa [.ref pr, .int (nI a), .int (nI h), .int (nI t)] (w_leaves cI cZ cP pr prw lft lea a h t) sz) (qQi D (w_leaves cI cZ cP pr prw lft lea a h t) sz (fun (r : Int32) (_ : Unit) => r = 0) (fun _ => [(pr, .inr (4, [.int 0, .ref prw, .ref lft, .ref lea])), (lft, .inl (cI, 56, .inl (fun _ => 0))), (lea, .inl (cI, 63, .inl (fun _ => 0)))])) 0 0 (va_A (w_leaves cI cZ cP pr prw lft lea a h t) sz) := by
  refine q_enter (by decide) (Nat.le_of_ble_eq_true rfl) ?_
  intro p e s m below meth c ls hX hr hlk hnm hE hK hP hD hS hA hl
  obtain ⟨hx, hb, hml, hown, ht⟩ := id hX
  have hl : lv_has ls 4 [(0, .ref pr), (1, .int (nI a)), (2, .int (nI h)), (3, .int (nI t))] := hl
  refine lv_aload_n hx hb dX4_leaves_0 rfl (lv_at hl 0 rfl) ?_
  refine va_get (D := D) (ci := 4) (v := .ref lft) (C := RX4) (T := TX4) (N := 4) hx hb ht inX4 hown hK hP 0 rfl rfl 2 (Nat.le_of_ble_eq_true rfl) (ht _ kw_326) (fun _ h9 => h9) rfl dX4_leaves_1 ?_
  refine lv_iload_n hx hb dX4_leaves_4 rfl (lv_at hl 1 rfl) ?_
  refine lv_bipush (v := 7) hx hb dX4_leaves_5 (by decide) ?_
  refine lv_imul hx hb dX4_leaves_7 ?_
  refine q_i (z := (nI (a * 7))) (pk_mul a 7) ?_
  refine lv_iload_n hx hb dX4_leaves_8 rfl (lv_at hl 2 rfl) ?_
  refine lv_iadd hx hb dX4_leaves_9 ?_
  refine q_i (z := (nI ((a * 7) + h))) (nI_add (a * 7) h) ?_
  refine va_iald hx hb hK hP 1 0 rfl rfl (vp_in_nI (by omega) (by omega)) dX4_leaves_10 ?_
  refine q_i (z := 0) rfl ?_
  refine lv_aload_n hx hb dX4_leaves_11 rfl (lv_at hl 0 rfl) ?_
  refine va_get (D := D) (ci := 4) (v := .ref lea) (C := RX4) (T := TX4) (N := 4) hx hb ht inX4 hown hK hP 0 rfl rfl 3 (Nat.le_of_ble_eq_true rfl) (ht _ kw_327) (fun _ h9 => h9) rfl dX4_leaves_12 ?_
  refine lv_iload_n hx hb dX4_leaves_15 rfl (lv_at hl 1 rfl) ?_
  refine lv_iconst (v := 1) hx hb dX4_leaves_16 (by decide) ?_
  refine lv_iadd hx hb dX4_leaves_17 ?_
  refine q_i (z := (nI (a + 1))) (nI_add a 1) ?_
  refine lv_bipush (v := 7) hx hb dX4_leaves_18 (by decide) ?_
  refine lv_imul hx hb dX4_leaves_20 ?_
  refine q_i (z := (nI ((a + 1) * 7))) (pk_mul (a + 1) 7) ?_
  refine lv_iload_n hx hb dX4_leaves_21 rfl (lv_at hl 3 rfl) ?_
  refine lv_iadd hx hb dX4_leaves_22 ?_
  refine q_i (z := (nI (((a + 1) * 7) + t))) (nI_add ((a + 1) * 7) t) ?_
  refine lv_iload_n hx hb dX4_leaves_23 rfl (lv_at hl 2 rfl) ?_
  refine lv_isub hx hb dX4_leaves_24 ?_
  refine q_i (z := (nI ((((a + 1) * 7) + t) - h))) (pk_sub (by omega)) ?_
  refine va_iald hx hb hK hP 2 0 rfl rfl (vp_in_nI (by omega) (by omega)) dX4_leaves_25 ?_
  refine q_i (z := 0) rfl ?_
  refine lv_iadd hx hb dX4_leaves_26 ?_
  refine q_i (z := 0) (by decide) ?_
  exact q_iret hX hr hlk () rfl (hP.sub [0, 1, 2] rfl) (hD.sub [0, 1, 2] (by decide) rfl) hS dX4_leaves_27
abbrev w_hoursHere (cI cZ cP : ClassId) (pr : Nat) (prw : Nat) (lft : Nat) (lea : Nat) (a : Nat) (t : Nat) : va_W := [(pr, .inr (4, [.int 0, .ref prw, .ref lft, .ref lea])), (lft, .inl (cI, 56, .inl (fun _ => 0))), (lea, .inl (cI, 63, .inl (fun _ => 0)))]
set_option maxHeartbeats 4000000 in
set_option maxRecDepth 100000 in
theorem c_hoursHere (l : Launch) (D : va_G) (cI cZ cP : ClassId) (sa : Nat → Nat) (pr : Nat) (prw : Nat) (lft : Nat) (lea : Nat) (a : Nat) (t : Nat) (ha : a ≤ 7) (hti : t ≤ 6) (sz : Nat) : Met l yX4_hoursHere (qW yX4_hoursHere cX4_hoursHere 5 (some .int)) ({ frames := 1, cells := 0, slots := 0, locals := 23 } : Room) (qP D (TY cI cZ cP) sa [.ref pr, .int (nI a), .int (nI t)] (w_hoursHere cI cZ cP pr prw lft lea a t) sz) (qQi D (w_hoursHere cI cZ cP pr prw lft lea a t) sz (fun (r : Int32) (_ : Unit) => r = (nI t)) (fun _ => [(pr, .inr (4, [.int 0, .ref prw, .ref lft, .ref lea])), (lft, .inl (cI, 56, .inl (fun _ => 0))), (lea, .inl (cI, 63, .inl (fun _ => 0)))])) 0 0 (va_A (w_hoursHere cI cZ cP pr prw lft lea a t) sz) := by
  refine q_enter (by decide) (Nat.le_of_ble_eq_true rfl) ?_
  intro p e s m below meth c ls hX hr hlk hnm hE hK hP hD hS hA hl
  obtain ⟨hx, hb, hml, hown, ht⟩ := id hX
  have hl : lv_has ls 5 [(0, .ref pr), (1, .int (nI a)), (2, .int (nI t))] := hl
  refine lv_iload_n hx hb dX4_hoursHere_0 rfl (lv_at hl 2 rfl) ?_
  refine lv_istore_n (lv' := [(3, .int (nI t)), (0, .ref pr), (1, .int (nI a)), (2, .int (nI t))]) hx hb dX4_hoursHere_1 rfl hl (by decide) rfl (fun ls hl => ?_)
  refine lv_iload_n hx hb dX4_hoursHere_2 rfl (lv_at hl 3 rfl) ?_
  refine lv_iconst (v := 1) hx hb dX4_hoursHere_3 (by decide) ?_
  refine lv_isub hx hb dX4_hoursHere_4 ?_
  refine lv_istore (lv' := [(4, .int ((nI t) - 1)), (3, .int (nI t)), (0, .ref pr), (1, .int (nI a)), (2, .int (nI t))]) hx hb dX4_hoursHere_5 hl (by decide) rfl (fun ls hl => ?_)
  have lp_7 : ∀ (n_7 : Nat) (j : Nat), (j ≤ t) → (j < n_7) → ∀ (H : Heap) (locs : List Loc) (ls : Array Slot), va_P D vwCl [(pr, .inr (4, [.int 0, .ref prw, .ref lft, .ref lea])), (lft, .inl (cI, 56, .inl (fun _ => 0))), (lea, .inl (cI, 63, .inl (fun _ => 0)))] H → va_D (va_A (w_hoursHere cI cZ cP pr prw lft lea a t) sz) [(pr, .inr (4, [.int 0, .ref prw, .ref lft, .ref lea])), (lft, .inl (cI, 56, .inl (fun _ => 0))), (lea, .inl (cI, 63, .inl (fun _ => 0)))] → va_S (va_A (w_hoursHere cI cZ cP pr prw lft lea a t) sz) s.heap H locs → lv_has ls 5 [(4, .int (nI j - 1)), (3, .int (nI t)), (0, .ref pr), (1, .int (nI a)), (2, .int (nI t))] → W p l e ({ frames := 1, cells := 0, slots := 0, locals := 23 } : Room) s m ([.ref pr, .int (nI a), .int (nI t)] : List Value).toArray below meth c H locs 0 0 (MQ below (qQi D (w_hoursHere cI cZ cP pr prw lft lea a t) sz (fun (r : Int32) (_ : Unit) => r = (nI t)) (fun _ => [(pr, .inr (4, [.int 0, .ref prw, .ref lft, .ref lea])), (lft, .inl (cI, 56, .inl (fun _ => 0))), (lea, .inl (cI, 63, .inl (fun _ => 0)))])) ([.ref pr, .int (nI a), .int (nI t)] : List Value).toArray s 0 0 (va_A (w_hoursHere cI cZ cP pr prw lft lea a t) sz)) (F0 m 7 ls []) := by
    intro n_7
    induction n_7 with
    | zero => intro j hj hm_7; exact absurd hm_7 (by omega)
    | succ n_7 ih_7 =>
      intro j hj hm_7 H locs ls hP hD hS hl
      rcases j with _ | i
      · have hl : lv_has ls 5 [(4, .int (-1)), (3, .int (nI t)), (0, .ref pr), (1, .int (nI a)), (2, .int (nI t))] := hl
        refine lv_iload hx hb dX4_hoursHere_7 (lv_at hl 0 rfl) ?_
        refine lv_if_lt (tgt := 45) hx hb dX4_hoursHere_9 (by decide) (fun _ => ?_) (fun c_1 => absurd (by decide) c_1)
        refine lv_iload_n hx hb dX4_hoursHere_45 rfl (lv_at hl 1 rfl) ?_
        exact q_iret hX hr hlk () rfl (hP.sub [0, 1, 2] rfl) (hD.sub [0, 1, 2] (by decide) rfl) hS dX4_hoursHere_46
      rw [nI_pred] at hl
      have hl : lv_has ls 5 [(4, .int (nI i)), (3, .int (nI t)), (0, .ref pr), (1, .int (nI a)), (2, .int (nI t))] := hl
      refine lv_iload hx hb dX4_hoursHere_7 (lv_at hl 0 rfl) ?_
      refine lv_if_lt (tgt := 45) hx hb dX4_hoursHere_9 (by decide) (fun c_2 => absurd c_2 (nI_pos (by omega))) (fun _ => ?_)
      refine lv_iload_n hx hb dX4_hoursHere_12 rfl (lv_at hl 3 rfl) ?_
      refine lv_bipush (v := 7) hx hb dX4_hoursHere_13 (by decide) ?_
      refine lv_icmp_ge (tgt := 45) hx hb dX4_hoursHere_15 (by decide) (fun c_3 => ?_) (fun c_3 => ?_)
      · refine lv_iload_n hx hb dX4_hoursHere_45 rfl (lv_at hl 1 rfl) ?_
        exact q_iret hX hr hlk () rfl (hP.sub [0, 1, 2] rfl) (hD.sub [0, 1, 2] (by decide) rfl) hS dX4_hoursHere_46
      · refine lv_aload_n hx hb dX4_hoursHere_18 rfl (lv_at hl 2 rfl) ?_
        refine lv_iload_n hx hb dX4_hoursHere_19 rfl (lv_at hl 3 rfl) ?_
        refine lv_iload hx hb dX4_hoursHere_20 (lv_at hl 0 rfl) ?_
        refine lv_iload_n hx hb dX4_hoursHere_22 rfl (lv_at hl 4 rfl) ?_
        refine q_Vi (wr := []) [0, 1, 2] [] hX hE hK hP hD hS hA hl.1 lk_X4_29 (c_leaves l D cI cZ cP sa pr prw lft lea a i t ha (by omega) hti _) rfl rfl rfl rfl (by decide) 0 4 rfl rfl rfl rfl (Nat.le_of_ble_eq_true rfl) rfl rfl ⟨Nat.le_of_ble_eq_true rfl, Nat.le_of_ble_eq_true rfl⟩ ⟨Nat.le_of_ble_eq_true rfl, Nat.le_of_ble_eq_true rfl⟩ dX4_hoursHere_23 (fun x_4 _ H locs h_4 hP hD hS => ?_)
        have hP : va_P D vwCl [(pr, .inr (4, [.int 0, .ref prw, .ref lft, .ref lea])), (lft, .inl (cI, 56, .inl (fun _ => 0))), (lea, .inl (cI, 63, .inl (fun _ => 0)))] H := hP
        have hD : va_D (va_A (w_hoursHere cI cZ cP pr prw lft lea a t) sz) [(pr, .inr (4, [.int 0, .ref prw, .ref lft, .ref lea])), (lft, .inl (cI, 56, .inl (fun _ => 0))), (lea, .inl (cI, 63, .inl (fun _ => 0)))] := hD
        subst h_4
        refine lv_aload_n hx hb dX4_hoursHere_26 rfl (lv_at hl 2 rfl) ?_
        refine lv_iload_n hx hb dX4_hoursHere_27 rfl (lv_at hl 3 rfl) ?_
        refine lv_iload_n hx hb dX4_hoursHere_28 rfl (lv_at hl 1 rfl) ?_
        refine lv_iload_n hx hb dX4_hoursHere_29 rfl (lv_at hl 4 rfl) ?_
        refine q_Vi (wr := []) [0, 1, 2] [] hX hE hK hP hD hS hA hl.1 lk_X4_29 (c_leaves l D cI cZ cP sa pr prw lft lea a t t ha (by omega) hti _) rfl rfl rfl rfl (by decide) 0 4 rfl rfl rfl rfl (Nat.le_of_ble_eq_true rfl) rfl rfl ⟨Nat.le_of_ble_eq_true rfl, Nat.le_of_ble_eq_true rfl⟩ ⟨Nat.le_of_ble_eq_true rfl, Nat.le_of_ble_eq_true rfl⟩ dX4_hoursHere_30 (fun x_5 _ H locs h_5 hP hD hS => ?_)
        have hP : va_P D vwCl [(pr, .inr (4, [.int 0, .ref prw, .ref lft, .ref lea])), (lft, .inl (cI, 56, .inl (fun _ => 0))), (lea, .inl (cI, 63, .inl (fun _ => 0)))] H := hP
        have hD : va_D (va_A (w_hoursHere cI cZ cP pr prw lft lea a t) sz) [(pr, .inr (4, [.int 0, .ref prw, .ref lft, .ref lea])), (lft, .inl (cI, 56, .inl (fun _ => 0))), (lea, .inl (cI, 63, .inl (fun _ => 0)))] := hD
        subst h_5
        refine lv_icmp_ge (tgt := 39) hx hb dX4_hoursHere_33 (by decide) (fun _ => ?_) (fun c_6 => absurd (by decide) c_6)
        refine lv_iinc (v := (nI i - 1)) (lv' := [(4, .int (nI i - 1)), (3, .int (nI t)), (0, .ref pr), (1, .int (nI a)), (2, .int (nI t))]) hx hb dX4_hoursHere_39 hl (k := 0) rfl (sub_1 i) (by decide) rfl (fun ls hl => ?_)
        refine lv_goto (tgt := 7) hx hb dX4_hoursHere_42 (by decide) ?_
        exact ih_7 i (by omega) (by omega) _ _ _ hP hD hS (lv_sub hl [0, 1, 2, 3, 4] rfl)
  exact lp_7 (t + 1) t (by omega) (by omega) _ _ _ hP hD hS (lv_sub hl [0, 1, 2, 3, 4] rfl)
abbrev w_fillRow (cI cZ cP : ClassId) (pr : Nat) (prw : Nat) (lft : Nat) (lea : Nat) (t : Nat) : va_W := [(pr, .inr (4, [.int 0, .ref prw, .ref lft, .ref lea])), (lft, .inl (cI, 56, .inl (fun _ => 0))), (lea, .inl (cI, 63, .inl (fun _ => 0))), (prw, .inl (cI, 6, .inl (fun _ => 0)))]
set_option maxHeartbeats 4000000 in
set_option maxRecDepth 100000 in
theorem c_fillRow (l : Launch) (D : va_G) (cI cZ cP : ClassId) (sa : Nat → Nat) (pr : Nat) (prw : Nat) (lft : Nat) (lea : Nat) (t : Nat) (hti : t ≤ 6) (sz : Nat) : Met l yX4_fillRow (qW yX4_fillRow cX4_fillRow 6 none) ({ frames := 2, cells := 0, slots := 0, locals := 47 } : Room) (qP D (TY cI cZ cP) sa [.ref pr, .int (nI t)] (w_fillRow cI cZ cP pr prw lft lea t) sz) (qQv D (w_fillRow cI cZ cP pr prw lft lea t) sz (fun _ : Unit => True) (fun _ => [(pr, .inr (4, [.int 0, .ref prw, .ref lft, .ref lea])), (prw, .inl (cI, 6, .inl (fun _ => 0)))])) 0 0 (va_A (w_fillRow cI cZ cP pr prw lft lea t) sz) := by
  refine q_enter (by decide) (Nat.le_of_ble_eq_true rfl) ?_
  intro p e s m below meth c ls hX hr hlk hnm hE hK hP hD hS hA hl
  obtain ⟨hx, hb, hml, hown, ht⟩ := id hX
  have hl : lv_has ls 6 [(0, .ref pr), (1, .int (nI t))] := hl
  refine lv_iconst (v := 0) hx hb dX4_fillRow_0 (by decide) ?_
  refine lv_istore_n (lv' := [(2, .int 0), (0, .ref pr), (1, .int (nI t))]) hx hb dX4_fillRow_1 rfl hl (by decide) rfl (fun ls hl => ?_)
  refine lv_iconst (v := 0) hx hb dX4_fillRow_2 (by decide) ?_
  refine lv_istore_n (lv' := [(3, .int 0), (2, .int 0), (0, .ref pr), (1, .int (nI t))]) hx hb dX4_fillRow_3 rfl hl (by decide) rfl (fun ls hl => ?_)
  refine lv_iload_n hx hb dX4_fillRow_4 rfl (lv_at hl 0 rfl) ?_
  refine lv_bipush (v := 8) hx hb dX4_fillRow_5 (by decide) ?_
  refine lv_icmp_ge (tgt := 57) hx hb dX4_fillRow_7 (by decide) (fun c_1 => absurd c_1 (by decide)) (fun _ => ?_)
  refine lv_aload_n hx hb dX4_fillRow_10 rfl (lv_at hl 2 rfl) ?_
  refine lv_iload_n hx hb dX4_fillRow_11 rfl (lv_at hl 0 rfl) ?_
  refine lv_iload_n hx hb dX4_fillRow_12 rfl (lv_at hl 3 rfl) ?_
  refine lv_iload_n hx hb dX4_fillRow_13 rfl (lv_at hl 1 rfl) ?_
  refine lv_isub hx hb dX4_fillRow_14 ?_
  refine q_i (z := (nI t)) (Int32.sub_zero _) ?_
  refine q_Vi (wr := [(prw, .inl (cI, 6, .inl (fun _ => 0)))]) [0, 1, 2] [3] hX hE hK hP hD hS hA hl.1 lk_X4_25 (c_hoursHere l D cI cZ cP sa pr prw lft lea 0 t (by decide) hti _) rfl rfl rfl rfl (by decide) 0 4 rfl rfl rfl rfl (Nat.le_of_ble_eq_true rfl) rfl rfl ⟨Nat.le_of_ble_eq_true rfl, Nat.le_of_ble_eq_true rfl⟩ ⟨Nat.le_of_ble_eq_true rfl, Nat.le_of_ble_eq_true rfl⟩ dX4_fillRow_15 (fun x_2 _ H locs h_2 hP hD hS => ?_)
  have hP : va_P D vwCl [(prw, .inl (cI, 6, .inl (fun _ => 0))), (pr, .inr (4, [.int 0, .ref prw, .ref lft, .ref lea])), (lft, .inl (cI, 56, .inl (fun _ => 0))), (lea, .inl (cI, 63, .inl (fun _ => 0)))] H := hP
  have hD : va_D (va_A (w_fillRow cI cZ cP pr prw lft lea t) sz) [(prw, .inl (cI, 6, .inl (fun _ => 0))), (pr, .inr (4, [.int 0, .ref prw, .ref lft, .ref lea])), (lft, .inl (cI, 56, .inl (fun _ => 0))), (lea, .inl (cI, 63, .inl (fun _ => 0)))] := hD
  subst h_2
  refine lv_istore (lv' := [(4, .int (nI t)), (3, .int 0), (2, .int 0), (0, .ref pr), (1, .int (nI t))]) hx hb dX4_fillRow_18 hl (by decide) rfl (fun ls hl => ?_)
  refine lv_iconst (v := 0) hx hb dX4_fillRow_20 (by decide) ?_
  refine lv_istore (lv' := [(5, .int 0), (4, .int (nI t)), (3, .int 0), (2, .int 0), (0, .ref pr), (1, .int (nI t))]) hx hb dX4_fillRow_21 hl (by decide) rfl (fun ls hl => ?_)
  have lp_23 : ∀ (n_23 : Nat) (k : Nat), (k ≤ t) → (t + 1 ≤ k + n_23) → ∀ (H : Heap) (locs : List Loc) (ls : Array Slot), va_P D vwCl [(prw, .inl (cI, 6, .inl (fun _ => 0))), (pr, .inr (4, [.int 0, .ref prw, .ref lft, .ref lea])), (lft, .inl (cI, 56, .inl (fun _ => 0))), (lea, .inl (cI, 63, .inl (fun _ => 0)))] H → va_D (va_A (w_fillRow cI cZ cP pr prw lft lea t) sz) [(prw, .inl (cI, 6, .inl (fun _ => 0))), (pr, .inr (4, [.int 0, .ref prw, .ref lft, .ref lea])), (lft, .inl (cI, 56, .inl (fun _ => 0))), (lea, .inl (cI, 63, .inl (fun _ => 0)))] → va_S (va_A (w_fillRow cI cZ cP pr prw lft lea t) sz) s.heap H locs → lv_has ls 6 [(5, .int (nI k)), (4, .int (nI t)), (3, .int 0), (2, .int (nI k)), (0, .ref pr), (1, .int (nI t))] → W p l e ({ frames := 2, cells := 0, slots := 0, locals := 47 } : Room) s m ([.ref pr, .int (nI t)] : List Value).toArray below meth c H locs 0 0 (MQ below (qQv D (w_fillRow cI cZ cP pr prw lft lea t) sz (fun _ : Unit => True) (fun _ => [(pr, .inr (4, [.int 0, .ref prw, .ref lft, .ref lea])), (prw, .inl (cI, 6, .inl (fun _ => 0)))])) ([.ref pr, .int (nI t)] : List Value).toArray s 0 0 (va_A (w_fillRow cI cZ cP pr prw lft lea t) sz)) (F0 m 23 ls []) := by
    intro n_23
    induction n_23 with
    | zero => intro k hk hm_23; exact absurd hm_23 (by omega)
    | succ n_23 ih_23 =>
      intro k hk hm_23 H locs ls hP hD hS hl
      refine lv_iload hx hb dX4_fillRow_23 (lv_at hl 0 rfl) ?_
      refine lv_iload hx hb dX4_fillRow_25 (lv_at hl 1 rfl) ?_
      refine lv_icmp_ge (tgt := 51) hx hb dX4_fillRow_27 (by decide) (fun c_3 => ?_) (fun c_3 => ?_)
      · have hke : t = k := by have := nI_dn c_3 (by omega) (by omega); omega
        subst hke
        have hl : lv_has ls 6 [(5, .int (nI t)), (4, .int (nI t)), (3, .int 0), (2, .int (nI t)), (0, .ref pr), (1, .int (nI t))] := hl
        refine lv_iinc (v := 1) (lv' := [(3, .int 1), (5, .int (nI t)), (4, .int (nI t)), (2, .int (nI t)), (0, .ref pr), (1, .int (nI t))]) hx hb dX4_fillRow_51 hl (k := 2) rfl (by decide) (by decide) rfl (fun ls hl => ?_)
        refine lv_goto (tgt := 4) hx hb dX4_fillRow_54 (by decide) ?_
        refine lv_iload_n hx hb dX4_fillRow_4 rfl (lv_at hl 0 rfl) ?_
        refine lv_bipush (v := 8) hx hb dX4_fillRow_5 (by decide) ?_
        refine lv_icmp_ge (tgt := 57) hx hb dX4_fillRow_7 (by decide) (fun c_4 => absurd c_4 (by decide)) (fun _ => ?_)
        refine lv_aload_n hx hb dX4_fillRow_10 rfl (lv_at hl 4 rfl) ?_
        refine lv_iload_n hx hb dX4_fillRow_11 rfl (lv_at hl 0 rfl) ?_
        refine lv_iload_n hx hb dX4_fillRow_12 rfl (lv_at hl 5 rfl) ?_
        refine lv_iload_n hx hb dX4_fillRow_13 rfl (lv_at hl 3 rfl) ?_
        refine lv_isub hx hb dX4_fillRow_14 ?_
        refine q_i (z := 0) (Int32.sub_self _) ?_
        refine q_Vi (wr := [(prw, .inl (cI, 6, .inl (fun _ => 0)))]) [1, 2, 3] [0] hX hE hK hP hD hS hA hl.1 lk_X4_25 (c_hoursHere l D cI cZ cP sa pr prw lft lea 1 0 (by decide) (by decide) _) rfl rfl rfl rfl (by decide) 0 4 rfl rfl rfl rfl (Nat.le_of_ble_eq_true rfl) rfl rfl ⟨Nat.le_of_ble_eq_true rfl, Nat.le_of_ble_eq_true rfl⟩ ⟨Nat.le_of_ble_eq_true rfl, Nat.le_of_ble_eq_true rfl⟩ dX4_fillRow_15 (fun x_5 _ H locs h_5 hP hD hS => ?_)
        have hP : va_P D vwCl [(prw, .inl (cI, 6, .inl (fun _ => 0))), (pr, .inr (4, [.int 0, .ref prw, .ref lft, .ref lea])), (lft, .inl (cI, 56, .inl (fun _ => 0))), (lea, .inl (cI, 63, .inl (fun _ => 0)))] H := hP
        have hD : va_D (va_A (w_fillRow cI cZ cP pr prw lft lea t) sz) [(prw, .inl (cI, 6, .inl (fun _ => 0))), (pr, .inr (4, [.int 0, .ref prw, .ref lft, .ref lea])), (lft, .inl (cI, 56, .inl (fun _ => 0))), (lea, .inl (cI, 63, .inl (fun _ => 0)))] := hD
        subst h_5
        refine q_i (z := 0) rfl ?_
        refine lv_istore (lv' := [(4, .int 0), (3, .int 1), (5, .int (nI t)), (2, .int (nI t)), (0, .ref pr), (1, .int (nI t))]) hx hb dX4_fillRow_18 hl (by decide) rfl (fun ls hl => ?_)
        refine lv_iconst (v := 0) hx hb dX4_fillRow_20 (by decide) ?_
        refine lv_istore (lv' := [(5, .int 0), (4, .int 0), (3, .int 1), (2, .int (nI t)), (0, .ref pr), (1, .int (nI t))]) hx hb dX4_fillRow_21 hl (by decide) rfl (fun ls hl => ?_)
        refine lv_iload hx hb dX4_fillRow_23 (lv_at hl 0 rfl) ?_
        refine lv_iload hx hb dX4_fillRow_25 (lv_at hl 1 rfl) ?_
        refine lv_icmp_ge (tgt := 51) hx hb dX4_fillRow_27 (by decide) (fun _ => ?_) (fun c_6 => absurd (by decide) c_6)
        refine lv_iinc (v := 2) (lv' := [(3, .int 2), (5, .int 0), (4, .int 0), (2, .int (nI t)), (0, .ref pr), (1, .int (nI t))]) hx hb dX4_fillRow_51 hl (k := 2) rfl (by decide) (by decide) rfl (fun ls hl => ?_)
        refine lv_goto (tgt := 4) hx hb dX4_fillRow_54 (by decide) ?_
        refine lv_iload_n hx hb dX4_fillRow_4 rfl (lv_at hl 0 rfl) ?_
        refine lv_bipush (v := 8) hx hb dX4_fillRow_5 (by decide) ?_
        refine lv_icmp_ge (tgt := 57) hx hb dX4_fillRow_7 (by decide) (fun c_7 => absurd c_7 (by decide)) (fun _ => ?_)
        refine lv_aload_n hx hb dX4_fillRow_10 rfl (lv_at hl 4 rfl) ?_
        refine lv_iload_n hx hb dX4_fillRow_11 rfl (lv_at hl 0 rfl) ?_
        refine lv_iload_n hx hb dX4_fillRow_12 rfl (lv_at hl 5 rfl) ?_
        refine lv_iload_n hx hb dX4_fillRow_13 rfl (lv_at hl 3 rfl) ?_
        refine lv_isub hx hb dX4_fillRow_14 ?_
        refine q_i (z := 0) (Int32.sub_self _) ?_
        refine q_Vi (wr := [(prw, .inl (cI, 6, .inl (fun _ => 0)))]) [1, 2, 3] [0] hX hE hK hP hD hS hA hl.1 lk_X4_25 (c_hoursHere l D cI cZ cP sa pr prw lft lea 2 0 (by decide) (by decide) _) rfl rfl rfl rfl (by decide) 0 4 rfl rfl rfl rfl (Nat.le_of_ble_eq_true rfl) rfl rfl ⟨Nat.le_of_ble_eq_true rfl, Nat.le_of_ble_eq_true rfl⟩ ⟨Nat.le_of_ble_eq_true rfl, Nat.le_of_ble_eq_true rfl⟩ dX4_fillRow_15 (fun x_8 _ H locs h_8 hP hD hS => ?_)
        have hP : va_P D vwCl [(prw, .inl (cI, 6, .inl (fun _ => 0))), (pr, .inr (4, [.int 0, .ref prw, .ref lft, .ref lea])), (lft, .inl (cI, 56, .inl (fun _ => 0))), (lea, .inl (cI, 63, .inl (fun _ => 0)))] H := hP
        have hD : va_D (va_A (w_fillRow cI cZ cP pr prw lft lea t) sz) [(prw, .inl (cI, 6, .inl (fun _ => 0))), (pr, .inr (4, [.int 0, .ref prw, .ref lft, .ref lea])), (lft, .inl (cI, 56, .inl (fun _ => 0))), (lea, .inl (cI, 63, .inl (fun _ => 0)))] := hD
        subst h_8
        refine q_i (z := 0) rfl ?_
        refine lv_istore (lv' := [(4, .int 0), (3, .int 2), (5, .int 0), (2, .int (nI t)), (0, .ref pr), (1, .int (nI t))]) hx hb dX4_fillRow_18 hl (by decide) rfl (fun ls hl => ?_)
        refine lv_iconst (v := 0) hx hb dX4_fillRow_20 (by decide) ?_
        refine lv_istore (lv' := [(5, .int 0), (4, .int 0), (3, .int 2), (2, .int (nI t)), (0, .ref pr), (1, .int (nI t))]) hx hb dX4_fillRow_21 hl (by decide) rfl (fun ls hl => ?_)
        refine lv_iload hx hb dX4_fillRow_23 (lv_at hl 0 rfl) ?_
        refine lv_iload hx hb dX4_fillRow_25 (lv_at hl 1 rfl) ?_
        refine lv_icmp_ge (tgt := 51) hx hb dX4_fillRow_27 (by decide) (fun _ => ?_) (fun c_9 => absurd (by decide) c_9)
        refine lv_iinc (v := 3) (lv' := [(3, .int 3), (5, .int 0), (4, .int 0), (2, .int (nI t)), (0, .ref pr), (1, .int (nI t))]) hx hb dX4_fillRow_51 hl (k := 2) rfl (by decide) (by decide) rfl (fun ls hl => ?_)
        refine lv_goto (tgt := 4) hx hb dX4_fillRow_54 (by decide) ?_
        refine lv_iload_n hx hb dX4_fillRow_4 rfl (lv_at hl 0 rfl) ?_
        refine lv_bipush (v := 8) hx hb dX4_fillRow_5 (by decide) ?_
        refine lv_icmp_ge (tgt := 57) hx hb dX4_fillRow_7 (by decide) (fun c_10 => absurd c_10 (by decide)) (fun _ => ?_)
        refine lv_aload_n hx hb dX4_fillRow_10 rfl (lv_at hl 4 rfl) ?_
        refine lv_iload_n hx hb dX4_fillRow_11 rfl (lv_at hl 0 rfl) ?_
        refine lv_iload_n hx hb dX4_fillRow_12 rfl (lv_at hl 5 rfl) ?_
        refine lv_iload_n hx hb dX4_fillRow_13 rfl (lv_at hl 3 rfl) ?_
        refine lv_isub hx hb dX4_fillRow_14 ?_
        refine q_i (z := 0) (Int32.sub_self _) ?_
        refine q_Vi (wr := [(prw, .inl (cI, 6, .inl (fun _ => 0)))]) [1, 2, 3] [0] hX hE hK hP hD hS hA hl.1 lk_X4_25 (c_hoursHere l D cI cZ cP sa pr prw lft lea 3 0 (by decide) (by decide) _) rfl rfl rfl rfl (by decide) 0 4 rfl rfl rfl rfl (Nat.le_of_ble_eq_true rfl) rfl rfl ⟨Nat.le_of_ble_eq_true rfl, Nat.le_of_ble_eq_true rfl⟩ ⟨Nat.le_of_ble_eq_true rfl, Nat.le_of_ble_eq_true rfl⟩ dX4_fillRow_15 (fun x_11 _ H locs h_11 hP hD hS => ?_)
        have hP : va_P D vwCl [(prw, .inl (cI, 6, .inl (fun _ => 0))), (pr, .inr (4, [.int 0, .ref prw, .ref lft, .ref lea])), (lft, .inl (cI, 56, .inl (fun _ => 0))), (lea, .inl (cI, 63, .inl (fun _ => 0)))] H := hP
        have hD : va_D (va_A (w_fillRow cI cZ cP pr prw lft lea t) sz) [(prw, .inl (cI, 6, .inl (fun _ => 0))), (pr, .inr (4, [.int 0, .ref prw, .ref lft, .ref lea])), (lft, .inl (cI, 56, .inl (fun _ => 0))), (lea, .inl (cI, 63, .inl (fun _ => 0)))] := hD
        subst h_11
        refine q_i (z := 0) rfl ?_
        refine lv_istore (lv' := [(4, .int 0), (3, .int 3), (5, .int 0), (2, .int (nI t)), (0, .ref pr), (1, .int (nI t))]) hx hb dX4_fillRow_18 hl (by decide) rfl (fun ls hl => ?_)
        refine lv_iconst (v := 0) hx hb dX4_fillRow_20 (by decide) ?_
        refine lv_istore (lv' := [(5, .int 0), (4, .int 0), (3, .int 3), (2, .int (nI t)), (0, .ref pr), (1, .int (nI t))]) hx hb dX4_fillRow_21 hl (by decide) rfl (fun ls hl => ?_)
        refine lv_iload hx hb dX4_fillRow_23 (lv_at hl 0 rfl) ?_
        refine lv_iload hx hb dX4_fillRow_25 (lv_at hl 1 rfl) ?_
        refine lv_icmp_ge (tgt := 51) hx hb dX4_fillRow_27 (by decide) (fun _ => ?_) (fun c_12 => absurd (by decide) c_12)
        refine lv_iinc (v := 4) (lv' := [(3, .int 4), (5, .int 0), (4, .int 0), (2, .int (nI t)), (0, .ref pr), (1, .int (nI t))]) hx hb dX4_fillRow_51 hl (k := 2) rfl (by decide) (by decide) rfl (fun ls hl => ?_)
        refine lv_goto (tgt := 4) hx hb dX4_fillRow_54 (by decide) ?_
        refine lv_iload_n hx hb dX4_fillRow_4 rfl (lv_at hl 0 rfl) ?_
        refine lv_bipush (v := 8) hx hb dX4_fillRow_5 (by decide) ?_
        refine lv_icmp_ge (tgt := 57) hx hb dX4_fillRow_7 (by decide) (fun c_13 => absurd c_13 (by decide)) (fun _ => ?_)
        refine lv_aload_n hx hb dX4_fillRow_10 rfl (lv_at hl 4 rfl) ?_
        refine lv_iload_n hx hb dX4_fillRow_11 rfl (lv_at hl 0 rfl) ?_
        refine lv_iload_n hx hb dX4_fillRow_12 rfl (lv_at hl 5 rfl) ?_
        refine lv_iload_n hx hb dX4_fillRow_13 rfl (lv_at hl 3 rfl) ?_
        refine lv_isub hx hb dX4_fillRow_14 ?_
        refine q_i (z := 0) (Int32.sub_self _) ?_
        refine q_Vi (wr := [(prw, .inl (cI, 6, .inl (fun _ => 0)))]) [1, 2, 3] [0] hX hE hK hP hD hS hA hl.1 lk_X4_25 (c_hoursHere l D cI cZ cP sa pr prw lft lea 4 0 (by decide) (by decide) _) rfl rfl rfl rfl (by decide) 0 4 rfl rfl rfl rfl (Nat.le_of_ble_eq_true rfl) rfl rfl ⟨Nat.le_of_ble_eq_true rfl, Nat.le_of_ble_eq_true rfl⟩ ⟨Nat.le_of_ble_eq_true rfl, Nat.le_of_ble_eq_true rfl⟩ dX4_fillRow_15 (fun x_14 _ H locs h_14 hP hD hS => ?_)
        have hP : va_P D vwCl [(prw, .inl (cI, 6, .inl (fun _ => 0))), (pr, .inr (4, [.int 0, .ref prw, .ref lft, .ref lea])), (lft, .inl (cI, 56, .inl (fun _ => 0))), (lea, .inl (cI, 63, .inl (fun _ => 0)))] H := hP
        have hD : va_D (va_A (w_fillRow cI cZ cP pr prw lft lea t) sz) [(prw, .inl (cI, 6, .inl (fun _ => 0))), (pr, .inr (4, [.int 0, .ref prw, .ref lft, .ref lea])), (lft, .inl (cI, 56, .inl (fun _ => 0))), (lea, .inl (cI, 63, .inl (fun _ => 0)))] := hD
        subst h_14
        refine q_i (z := 0) rfl ?_
        refine lv_istore (lv' := [(4, .int 0), (3, .int 4), (5, .int 0), (2, .int (nI t)), (0, .ref pr), (1, .int (nI t))]) hx hb dX4_fillRow_18 hl (by decide) rfl (fun ls hl => ?_)
        refine lv_iconst (v := 0) hx hb dX4_fillRow_20 (by decide) ?_
        refine lv_istore (lv' := [(5, .int 0), (4, .int 0), (3, .int 4), (2, .int (nI t)), (0, .ref pr), (1, .int (nI t))]) hx hb dX4_fillRow_21 hl (by decide) rfl (fun ls hl => ?_)
        refine lv_iload hx hb dX4_fillRow_23 (lv_at hl 0 rfl) ?_
        refine lv_iload hx hb dX4_fillRow_25 (lv_at hl 1 rfl) ?_
        refine lv_icmp_ge (tgt := 51) hx hb dX4_fillRow_27 (by decide) (fun _ => ?_) (fun c_15 => absurd (by decide) c_15)
        refine lv_iinc (v := 5) (lv' := [(3, .int 5), (5, .int 0), (4, .int 0), (2, .int (nI t)), (0, .ref pr), (1, .int (nI t))]) hx hb dX4_fillRow_51 hl (k := 2) rfl (by decide) (by decide) rfl (fun ls hl => ?_)
        refine lv_goto (tgt := 4) hx hb dX4_fillRow_54 (by decide) ?_
        refine lv_iload_n hx hb dX4_fillRow_4 rfl (lv_at hl 0 rfl) ?_
        refine lv_bipush (v := 8) hx hb dX4_fillRow_5 (by decide) ?_
        refine lv_icmp_ge (tgt := 57) hx hb dX4_fillRow_7 (by decide) (fun c_16 => absurd c_16 (by decide)) (fun _ => ?_)
        refine lv_aload_n hx hb dX4_fillRow_10 rfl (lv_at hl 4 rfl) ?_
        refine lv_iload_n hx hb dX4_fillRow_11 rfl (lv_at hl 0 rfl) ?_
        refine lv_iload_n hx hb dX4_fillRow_12 rfl (lv_at hl 5 rfl) ?_
        refine lv_iload_n hx hb dX4_fillRow_13 rfl (lv_at hl 3 rfl) ?_
        refine lv_isub hx hb dX4_fillRow_14 ?_
        refine q_i (z := 0) (Int32.sub_self _) ?_
        refine q_Vi (wr := [(prw, .inl (cI, 6, .inl (fun _ => 0)))]) [1, 2, 3] [0] hX hE hK hP hD hS hA hl.1 lk_X4_25 (c_hoursHere l D cI cZ cP sa pr prw lft lea 5 0 (by decide) (by decide) _) rfl rfl rfl rfl (by decide) 0 4 rfl rfl rfl rfl (Nat.le_of_ble_eq_true rfl) rfl rfl ⟨Nat.le_of_ble_eq_true rfl, Nat.le_of_ble_eq_true rfl⟩ ⟨Nat.le_of_ble_eq_true rfl, Nat.le_of_ble_eq_true rfl⟩ dX4_fillRow_15 (fun x_17 _ H locs h_17 hP hD hS => ?_)
        have hP : va_P D vwCl [(prw, .inl (cI, 6, .inl (fun _ => 0))), (pr, .inr (4, [.int 0, .ref prw, .ref lft, .ref lea])), (lft, .inl (cI, 56, .inl (fun _ => 0))), (lea, .inl (cI, 63, .inl (fun _ => 0)))] H := hP
        have hD : va_D (va_A (w_fillRow cI cZ cP pr prw lft lea t) sz) [(prw, .inl (cI, 6, .inl (fun _ => 0))), (pr, .inr (4, [.int 0, .ref prw, .ref lft, .ref lea])), (lft, .inl (cI, 56, .inl (fun _ => 0))), (lea, .inl (cI, 63, .inl (fun _ => 0)))] := hD
        subst h_17
        refine q_i (z := 0) rfl ?_
        refine lv_istore (lv' := [(4, .int 0), (3, .int 5), (5, .int 0), (2, .int (nI t)), (0, .ref pr), (1, .int (nI t))]) hx hb dX4_fillRow_18 hl (by decide) rfl (fun ls hl => ?_)
        refine lv_iconst (v := 0) hx hb dX4_fillRow_20 (by decide) ?_
        refine lv_istore (lv' := [(5, .int 0), (4, .int 0), (3, .int 5), (2, .int (nI t)), (0, .ref pr), (1, .int (nI t))]) hx hb dX4_fillRow_21 hl (by decide) rfl (fun ls hl => ?_)
        refine lv_iload hx hb dX4_fillRow_23 (lv_at hl 0 rfl) ?_
        refine lv_iload hx hb dX4_fillRow_25 (lv_at hl 1 rfl) ?_
        refine lv_icmp_ge (tgt := 51) hx hb dX4_fillRow_27 (by decide) (fun _ => ?_) (fun c_18 => absurd (by decide) c_18)
        refine lv_iinc (v := 6) (lv' := [(3, .int 6), (5, .int 0), (4, .int 0), (2, .int (nI t)), (0, .ref pr), (1, .int (nI t))]) hx hb dX4_fillRow_51 hl (k := 2) rfl (by decide) (by decide) rfl (fun ls hl => ?_)
        refine lv_goto (tgt := 4) hx hb dX4_fillRow_54 (by decide) ?_
        refine lv_iload_n hx hb dX4_fillRow_4 rfl (lv_at hl 0 rfl) ?_
        refine lv_bipush (v := 8) hx hb dX4_fillRow_5 (by decide) ?_
        refine lv_icmp_ge (tgt := 57) hx hb dX4_fillRow_7 (by decide) (fun c_19 => absurd c_19 (by decide)) (fun _ => ?_)
        refine lv_aload_n hx hb dX4_fillRow_10 rfl (lv_at hl 4 rfl) ?_
        refine lv_iload_n hx hb dX4_fillRow_11 rfl (lv_at hl 0 rfl) ?_
        refine lv_iload_n hx hb dX4_fillRow_12 rfl (lv_at hl 5 rfl) ?_
        refine lv_iload_n hx hb dX4_fillRow_13 rfl (lv_at hl 3 rfl) ?_
        refine lv_isub hx hb dX4_fillRow_14 ?_
        refine q_i (z := 0) (Int32.sub_self _) ?_
        refine q_Vi (wr := [(prw, .inl (cI, 6, .inl (fun _ => 0)))]) [1, 2, 3] [0] hX hE hK hP hD hS hA hl.1 lk_X4_25 (c_hoursHere l D cI cZ cP sa pr prw lft lea 6 0 (by decide) (by decide) _) rfl rfl rfl rfl (by decide) 0 4 rfl rfl rfl rfl (Nat.le_of_ble_eq_true rfl) rfl rfl ⟨Nat.le_of_ble_eq_true rfl, Nat.le_of_ble_eq_true rfl⟩ ⟨Nat.le_of_ble_eq_true rfl, Nat.le_of_ble_eq_true rfl⟩ dX4_fillRow_15 (fun x_20 _ H locs h_20 hP hD hS => ?_)
        have hP : va_P D vwCl [(prw, .inl (cI, 6, .inl (fun _ => 0))), (pr, .inr (4, [.int 0, .ref prw, .ref lft, .ref lea])), (lft, .inl (cI, 56, .inl (fun _ => 0))), (lea, .inl (cI, 63, .inl (fun _ => 0)))] H := hP
        have hD : va_D (va_A (w_fillRow cI cZ cP pr prw lft lea t) sz) [(prw, .inl (cI, 6, .inl (fun _ => 0))), (pr, .inr (4, [.int 0, .ref prw, .ref lft, .ref lea])), (lft, .inl (cI, 56, .inl (fun _ => 0))), (lea, .inl (cI, 63, .inl (fun _ => 0)))] := hD
        subst h_20
        refine q_i (z := 0) rfl ?_
        refine lv_istore (lv' := [(4, .int 0), (3, .int 6), (5, .int 0), (2, .int (nI t)), (0, .ref pr), (1, .int (nI t))]) hx hb dX4_fillRow_18 hl (by decide) rfl (fun ls hl => ?_)
        refine lv_iconst (v := 0) hx hb dX4_fillRow_20 (by decide) ?_
        refine lv_istore (lv' := [(5, .int 0), (4, .int 0), (3, .int 6), (2, .int (nI t)), (0, .ref pr), (1, .int (nI t))]) hx hb dX4_fillRow_21 hl (by decide) rfl (fun ls hl => ?_)
        refine lv_iload hx hb dX4_fillRow_23 (lv_at hl 0 rfl) ?_
        refine lv_iload hx hb dX4_fillRow_25 (lv_at hl 1 rfl) ?_
        refine lv_icmp_ge (tgt := 51) hx hb dX4_fillRow_27 (by decide) (fun _ => ?_) (fun c_21 => absurd (by decide) c_21)
        refine lv_iinc (v := 7) (lv' := [(3, .int 7), (5, .int 0), (4, .int 0), (2, .int (nI t)), (0, .ref pr), (1, .int (nI t))]) hx hb dX4_fillRow_51 hl (k := 2) rfl (by decide) (by decide) rfl (fun ls hl => ?_)
        refine lv_goto (tgt := 4) hx hb dX4_fillRow_54 (by decide) ?_
        refine lv_iload_n hx hb dX4_fillRow_4 rfl (lv_at hl 0 rfl) ?_
        refine lv_bipush (v := 8) hx hb dX4_fillRow_5 (by decide) ?_
        refine lv_icmp_ge (tgt := 57) hx hb dX4_fillRow_7 (by decide) (fun c_22 => absurd c_22 (by decide)) (fun _ => ?_)
        refine lv_aload_n hx hb dX4_fillRow_10 rfl (lv_at hl 4 rfl) ?_
        refine lv_iload_n hx hb dX4_fillRow_11 rfl (lv_at hl 0 rfl) ?_
        refine lv_iload_n hx hb dX4_fillRow_12 rfl (lv_at hl 5 rfl) ?_
        refine lv_iload_n hx hb dX4_fillRow_13 rfl (lv_at hl 3 rfl) ?_
        refine lv_isub hx hb dX4_fillRow_14 ?_
        refine q_i (z := 0) (Int32.sub_self _) ?_
        refine q_Vi (wr := [(prw, .inl (cI, 6, .inl (fun _ => 0)))]) [1, 2, 3] [0] hX hE hK hP hD hS hA hl.1 lk_X4_25 (c_hoursHere l D cI cZ cP sa pr prw lft lea 7 0 (by decide) (by decide) _) rfl rfl rfl rfl (by decide) 0 4 rfl rfl rfl rfl (Nat.le_of_ble_eq_true rfl) rfl rfl ⟨Nat.le_of_ble_eq_true rfl, Nat.le_of_ble_eq_true rfl⟩ ⟨Nat.le_of_ble_eq_true rfl, Nat.le_of_ble_eq_true rfl⟩ dX4_fillRow_15 (fun x_23 _ H locs h_23 hP hD hS => ?_)
        have hP : va_P D vwCl [(prw, .inl (cI, 6, .inl (fun _ => 0))), (pr, .inr (4, [.int 0, .ref prw, .ref lft, .ref lea])), (lft, .inl (cI, 56, .inl (fun _ => 0))), (lea, .inl (cI, 63, .inl (fun _ => 0)))] H := hP
        have hD : va_D (va_A (w_fillRow cI cZ cP pr prw lft lea t) sz) [(prw, .inl (cI, 6, .inl (fun _ => 0))), (pr, .inr (4, [.int 0, .ref prw, .ref lft, .ref lea])), (lft, .inl (cI, 56, .inl (fun _ => 0))), (lea, .inl (cI, 63, .inl (fun _ => 0)))] := hD
        subst h_23
        refine q_i (z := 0) rfl ?_
        refine lv_istore (lv' := [(4, .int 0), (3, .int 7), (5, .int 0), (2, .int (nI t)), (0, .ref pr), (1, .int (nI t))]) hx hb dX4_fillRow_18 hl (by decide) rfl (fun ls hl => ?_)
        refine lv_iconst (v := 0) hx hb dX4_fillRow_20 (by decide) ?_
        refine lv_istore (lv' := [(5, .int 0), (4, .int 0), (3, .int 7), (2, .int (nI t)), (0, .ref pr), (1, .int (nI t))]) hx hb dX4_fillRow_21 hl (by decide) rfl (fun ls hl => ?_)
        refine lv_iload hx hb dX4_fillRow_23 (lv_at hl 0 rfl) ?_
        refine lv_iload hx hb dX4_fillRow_25 (lv_at hl 1 rfl) ?_
        refine lv_icmp_ge (tgt := 51) hx hb dX4_fillRow_27 (by decide) (fun _ => ?_) (fun c_24 => absurd (by decide) c_24)
        refine lv_iinc (v := 8) (lv' := [(3, .int 8), (5, .int 0), (4, .int 0), (2, .int (nI t)), (0, .ref pr), (1, .int (nI t))]) hx hb dX4_fillRow_51 hl (k := 2) rfl (by decide) (by decide) rfl (fun ls hl => ?_)
        refine lv_goto (tgt := 4) hx hb dX4_fillRow_54 (by decide) ?_
        refine lv_iload_n hx hb dX4_fillRow_4 rfl (lv_at hl 0 rfl) ?_
        refine lv_bipush (v := 8) hx hb dX4_fillRow_5 (by decide) ?_
        refine lv_icmp_ge (tgt := 57) hx hb dX4_fillRow_7 (by decide) (fun _ => ?_) (fun c_25 => absurd (by decide) c_25)
        exact q_vret hX hr hlk () trivial (hP.sub [1, 0] rfl) (hD.sub [1, 0] (by decide) rfl) hS dX4_fillRow_57
      · have hk2 : k < t := nI_dnn c_3 (by omega) (by omega)
        refine lv_iload_n hx hb dX4_fillRow_30 rfl (lv_at hl 3 rfl) ?_
        refine lv_iload_n hx hb dX4_fillRow_31 rfl (lv_at hl 5 rfl) ?_
        refine lv_icmp_ge (tgt := 51) hx hb dX4_fillRow_32 (by decide) (fun c_26 => absurd c_26 c_3) (fun _ => ?_)
        refine lv_aload_n hx hb dX4_fillRow_35 rfl (lv_at hl 4 rfl) ?_
        refine va_get (D := D) (ci := 4) (v := .ref prw) (C := RX4) (T := TX4) (N := 4) hx hb ht inX4 hown hK hP 1 rfl rfl 1 (Nat.le_of_ble_eq_true rfl) (ht _ kw_324) (fun _ h9 => h9) rfl dX4_fillRow_36 ?_
        refine lv_iload_n hx hb dX4_fillRow_39 rfl (lv_at hl 3 rfl) ?_
        refine lv_iload_n hx hb dX4_fillRow_40 rfl (lv_at hl 2 rfl) ?_
        refine va_iast hx hb hK hP hD hS 0 0 rfl rfl (vp_in_nI (by omega) (by omega)) dX4_fillRow_41 (fun H locs hP hD hS => ?_)
        have hP : va_P D vwCl [(prw, .inl (cI, 6, .inl (upd (fun _ => 0) (nI k).toNatClampNeg 0))), (pr, .inr (4, [.int 0, .ref prw, .ref lft, .ref lea])), (lft, .inl (cI, 56, .inl (fun _ => 0))), (lea, .inl (cI, 63, .inl (fun _ => 0)))] H := hP
        have hD : va_D (va_A (w_fillRow cI cZ cP pr prw lft lea t) sz) [(prw, .inl (cI, 6, .inl (upd (fun _ => 0) (nI k).toNatClampNeg 0))), (pr, .inr (4, [.int 0, .ref prw, .ref lft, .ref lea])), (lft, .inl (cI, 56, .inl (fun _ => 0))), (lea, .inl (cI, 63, .inl (fun _ => 0)))] := hD
        rw [upd_c] at hP hD
        have hP : va_P D vwCl [(prw, .inl (cI, 6, .inl (fun _ => 0))), (pr, .inr (4, [.int 0, .ref prw, .ref lft, .ref lea])), (lft, .inl (cI, 56, .inl (fun _ => 0))), (lea, .inl (cI, 63, .inl (fun _ => 0)))] H := hP
        have hD : va_D (va_A (w_fillRow cI cZ cP pr prw lft lea t) sz) [(prw, .inl (cI, 6, .inl (fun _ => 0))), (pr, .inr (4, [.int 0, .ref prw, .ref lft, .ref lea])), (lft, .inl (cI, 56, .inl (fun _ => 0))), (lea, .inl (cI, 63, .inl (fun _ => 0)))] := hD
        refine lv_iinc (v := (nI (k + 1))) (lv' := [(2, .int (nI (k + 1))), (5, .int (nI k)), (4, .int (nI t)), (3, .int 0), (0, .ref pr), (1, .int (nI t))]) hx hb dX4_fillRow_42 hl (k := 3) rfl (nI_1 k) (by decide) rfl (fun ls hl => ?_)
        refine lv_iinc (v := (nI (k + 1))) (lv' := [(5, .int (nI (k + 1))), (2, .int (nI (k + 1))), (4, .int (nI t)), (3, .int 0), (0, .ref pr), (1, .int (nI t))]) hx hb dX4_fillRow_45 hl (k := 1) rfl (nI_1 k) (by decide) rfl (fun ls hl => ?_)
        refine lv_goto (tgt := 23) hx hb dX4_fillRow_48 (by decide) ?_
        exact ih_23 (k + 1) (by omega) (by omega) _ _ _ hP hD hS (lv_sub hl [0, 2, 3, 1, 4, 5] rfl)
  exact lp_23 (t + 1) 0 (by omega) (by omega) _ _ _ hP hD hS (lv_sub hl [0, 1, 2, 3, 4, 5] rfl)
