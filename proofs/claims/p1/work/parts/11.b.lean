abbrev w_forgetTheRest (cI cZ cP : ClassId) (x0 : Nat) (nw : Nat) (sp : Nat) (im : Nat) (sc : Nat) (hg : Nat) (fg : Nat) (pg : Nat) (pr : Nat) (kp : Int32) (ab : Int64) (be : Int64) (bd : Int32) (ns : Int32) (fu : Int32) (byt : Nat) (nms : Nat) : va_W := [(x0, .inr (6, [.ref nw, .ref sp, .ref im, .ref sc, .ref hg, .ref fg, .ref pg, .ref pr, .int kp, .long ab, .long be, .int bd, .int ns, .int fu])), (sc, .inr (5, [.ref byt, .int 0, .int 0, .int 0, .int 0, .ref nms, .int 0]))]
set_option maxHeartbeats 4000000 in
set_option maxRecDepth 100000 in
theorem c_forgetTheRest (l : Launch) (D : va_G) (cI cZ cP : ClassId) (sa : Nat → Nat) (x0 : Nat) (nw : Nat) (sp : Nat) (im : Nat) (sc : Nat) (hg : Nat) (fg : Nat) (pg : Nat) (pr : Nat) (kp : Int32) (ab : Int64) (be : Int64) (bd : Int32) (ns : Int32) (fu : Int32) (byt : Nat) (nms : Nat) (sz : Nat) : Met l yX6_forgetTheRest (qW yX6_forgetTheRest cX6_forgetTheRest 1 none) ({ frames := 0, cells := 0, slots := 0, locals := 0 } : Room) (qP D (TY cI cZ cP) sa [.ref x0] (w_forgetTheRest cI cZ cP x0 nw sp im sc hg fg pg pr kp ab be bd ns fu byt nms) sz) (qQv D (w_forgetTheRest cI cZ cP x0 nw sp im sc hg fg pg pr kp ab be bd ns fu byt nms) sz (fun _ : Unit => True) (fun _ => [])) 0 0 (va_A (w_forgetTheRest cI cZ cP x0 nw sp im sc hg fg pg pr kp ab be bd ns fu byt nms) sz) := by
  refine q_enter (by decide) (Nat.le_of_ble_eq_true rfl) ?_
  intro p e s m below meth c ls hX hr hlk hnm hE hK hP hD hS hA hl
  obtain ⟨hx, hb, hml, hown, ht⟩ := id hX
  have hl : lv_has ls 1 [(0, .ref x0)] := hl
  refine lv_aload_n hx hb dX6_forgetTheRest_0 rfl (lv_at hl 0 rfl) ?_
  refine lv_iconst (v := 0) hx hb dX6_forgetTheRest_1 (by decide) ?_
  refine va_put (D := D) (ci := 6) (v := .int 0) (ty := .int) (C := RX6) (T := TX6) (N := 14) hx hb ht inX6 tyX6 tyX6_ok nmX6 hown hK hP hD hS 0 rfl rfl 8 (Nat.le_of_ble_eq_true rfl) (ht _ kw_345) (fun _ h9 => h9) rfl (by decide +kernel) rfl rfl (Nat.le_of_ble_eq_true rfl) dX6_forgetTheRest_2 (fun H locs hP hD hS => ?_)
  have hP : va_P D vwCl [(x0, .inr (6, [.ref nw, .ref sp, .ref im, .ref sc, .ref hg, .ref fg, .ref pg, .ref pr, .int 0, .long ab, .long be, .int bd, .int ns, .int fu])), (sc, .inr (5, [.ref byt, .int 0, .int 0, .int 0, .int 0, .ref nms, .int 0]))] H := hP
  have hD : va_D (va_A (w_forgetTheRest cI cZ cP x0 nw sp im sc hg fg pg pr kp ab be bd ns fu byt nms) sz) [(x0, .inr (6, [.ref nw, .ref sp, .ref im, .ref sc, .ref hg, .ref fg, .ref pg, .ref pr, .int 0, .long ab, .long be, .int bd, .int ns, .int fu])), (sc, .inr (5, [.ref byt, .int 0, .int 0, .int 0, .int 0, .ref nms, .int 0]))] := hD
  refine lv_aload_n hx hb dX6_forgetTheRest_5 rfl (lv_at hl 0 rfl) ?_
  refine va_get (D := D) (ci := 6) (v := .ref sc) (C := RX6) (T := TX6) (N := 14) hx hb ht inX6 hown hK hP 0 rfl rfl 3 (Nat.le_of_ble_eq_true rfl) (ht _ kw_340) (fun _ h9 => h9) rfl dX6_forgetTheRest_6 ?_
  refine lv_iconst (v := 0) hx hb dX6_forgetTheRest_9 (by decide) ?_
  refine va_put (D := D) (ci := 5) (v := .int 0) (ty := .int) (C := RX5) (T := TX5) (N := 7) hx hb ht inX5 tyX5 tyX5_ok nmX5 hown hK hP hD hS 1 rfl rfl 1 (Nat.le_of_ble_eq_true rfl) (ht _ kw_211) (fun _ h9 => h9) rfl (by decide +kernel) rfl rfl (Nat.le_of_ble_eq_true rfl) dX6_forgetTheRest_10 (fun H locs hP hD hS => ?_)
  have hP : va_P D vwCl [(x0, .inr (6, [.ref nw, .ref sp, .ref im, .ref sc, .ref hg, .ref fg, .ref pg, .ref pr, .int 0, .long ab, .long be, .int bd, .int ns, .int fu])), (sc, .inr (5, [.ref byt, .int 0, .int 0, .int 0, .int 0, .ref nms, .int 0]))] H := hP
  have hD : va_D (va_A (w_forgetTheRest cI cZ cP x0 nw sp im sc hg fg pg pr kp ab be bd ns fu byt nms) sz) [(x0, .inr (6, [.ref nw, .ref sp, .ref im, .ref sc, .ref hg, .ref fg, .ref pg, .ref pr, .int 0, .long ab, .long be, .int bd, .int ns, .int fu])), (sc, .inr (5, [.ref byt, .int 0, .int 0, .int 0, .int 0, .ref nms, .int 0]))] := hD
  refine lv_aload_n hx hb dX6_forgetTheRest_13 rfl (lv_at hl 0 rfl) ?_
  refine lv_lconst (v := 0) hx hb dX6_forgetTheRest_14 (by decide) ?_
  refine q_l (z := ((0 : Int32).toInt64)) (by decide) ?_
  refine va_put (D := D) (ci := 6) (v := .long ((0 : Int32).toInt64)) (ty := .long) (C := RX6) (T := TX6) (N := 14) hx hb ht inX6 tyX6 tyX6_ok nmX6 hown hK hP hD hS 0 rfl rfl 9 (Nat.le_of_ble_eq_true rfl) (ht _ kw_346) (fun _ h9 => h9) rfl (by decide +kernel) rfl rfl (Nat.le_of_ble_eq_true rfl) dX6_forgetTheRest_15 (fun H locs hP hD hS => ?_)
  have hP : va_P D vwCl [(x0, .inr (6, [.ref nw, .ref sp, .ref im, .ref sc, .ref hg, .ref fg, .ref pg, .ref pr, .int 0, .long ((0 : Int32).toInt64), .long be, .int bd, .int ns, .int fu])), (sc, .inr (5, [.ref byt, .int 0, .int 0, .int 0, .int 0, .ref nms, .int 0]))] H := hP
  have hD : va_D (va_A (w_forgetTheRest cI cZ cP x0 nw sp im sc hg fg pg pr kp ab be bd ns fu byt nms) sz) [(x0, .inr (6, [.ref nw, .ref sp, .ref im, .ref sc, .ref hg, .ref fg, .ref pg, .ref pr, .int 0, .long ((0 : Int32).toInt64), .long be, .int bd, .int ns, .int fu])), (sc, .inr (5, [.ref byt, .int 0, .int 0, .int 0, .int 0, .ref nms, .int 0]))] := hD
  refine lv_aload_n hx hb dX6_forgetTheRest_18 rfl (lv_at hl 0 rfl) ?_
  refine lv_lconst (v := 1) hx hb dX6_forgetTheRest_19 (by decide) ?_
  refine q_l (z := ((1 : Int32).toInt64)) (by decide) ?_
  refine va_put (D := D) (ci := 6) (v := .long ((1 : Int32).toInt64)) (ty := .long) (C := RX6) (T := TX6) (N := 14) hx hb ht inX6 tyX6 tyX6_ok nmX6 hown hK hP hD hS 0 rfl rfl 10 (Nat.le_of_ble_eq_true rfl) (ht _ kw_347) (fun _ h9 => h9) rfl (by decide +kernel) rfl rfl (Nat.le_of_ble_eq_true rfl) dX6_forgetTheRest_20 (fun H locs hP hD hS => ?_)
  have hP : va_P D vwCl [(x0, .inr (6, [.ref nw, .ref sp, .ref im, .ref sc, .ref hg, .ref fg, .ref pg, .ref pr, .int 0, .long ((0 : Int32).toInt64), .long ((1 : Int32).toInt64), .int bd, .int ns, .int fu])), (sc, .inr (5, [.ref byt, .int 0, .int 0, .int 0, .int 0, .ref nms, .int 0]))] H := hP
  have hD : va_D (va_A (w_forgetTheRest cI cZ cP x0 nw sp im sc hg fg pg pr kp ab be bd ns fu byt nms) sz) [(x0, .inr (6, [.ref nw, .ref sp, .ref im, .ref sc, .ref hg, .ref fg, .ref pg, .ref pr, .int 0, .long ((0 : Int32).toInt64), .long ((1 : Int32).toInt64), .int bd, .int ns, .int fu])), (sc, .inr (5, [.ref byt, .int 0, .int 0, .int 0, .int 0, .ref nms, .int 0]))] := hD
  refine lv_aload_n hx hb dX6_forgetTheRest_23 rfl (lv_at hl 0 rfl) ?_
  refine lv_iconst (v := 0) hx hb dX6_forgetTheRest_24 (by decide) ?_
  refine va_put (D := D) (ci := 6) (v := .int 0) (ty := .int) (C := RX6) (T := TX6) (N := 14) hx hb ht inX6 tyX6 tyX6_ok nmX6 hown hK hP hD hS 0 rfl rfl 11 (Nat.le_of_ble_eq_true rfl) (ht _ kw_348) (fun _ h9 => h9) rfl (by decide +kernel) rfl rfl (Nat.le_of_ble_eq_true rfl) dX6_forgetTheRest_25 (fun H locs hP hD hS => ?_)
  have hP : va_P D vwCl [(x0, .inr (6, [.ref nw, .ref sp, .ref im, .ref sc, .ref hg, .ref fg, .ref pg, .ref pr, .int 0, .long ((0 : Int32).toInt64), .long ((1 : Int32).toInt64), .int 0, .int ns, .int fu])), (sc, .inr (5, [.ref byt, .int 0, .int 0, .int 0, .int 0, .ref nms, .int 0]))] H := hP
  have hD : va_D (va_A (w_forgetTheRest cI cZ cP x0 nw sp im sc hg fg pg pr kp ab be bd ns fu byt nms) sz) [(x0, .inr (6, [.ref nw, .ref sp, .ref im, .ref sc, .ref hg, .ref fg, .ref pg, .ref pr, .int 0, .long ((0 : Int32).toInt64), .long ((1 : Int32).toInt64), .int 0, .int ns, .int fu])), (sc, .inr (5, [.ref byt, .int 0, .int 0, .int 0, .int 0, .ref nms, .int 0]))] := hD
  refine lv_aload_n hx hb dX6_forgetTheRest_28 rfl (lv_at hl 0 rfl) ?_
  refine lv_iconst (v := 0) hx hb dX6_forgetTheRest_29 (by decide) ?_
  refine va_put (D := D) (ci := 6) (v := .int 0) (ty := .int) (C := RX6) (T := TX6) (N := 14) hx hb ht inX6 tyX6 tyX6_ok nmX6 hown hK hP hD hS 0 rfl rfl 12 (Nat.le_of_ble_eq_true rfl) (ht _ kw_349) (fun _ h9 => h9) rfl (by decide +kernel) rfl rfl (Nat.le_of_ble_eq_true rfl) dX6_forgetTheRest_30 (fun H locs hP hD hS => ?_)
  have hP : va_P D vwCl [(x0, .inr (6, [.ref nw, .ref sp, .ref im, .ref sc, .ref hg, .ref fg, .ref pg, .ref pr, .int 0, .long ((0 : Int32).toInt64), .long ((1 : Int32).toInt64), .int 0, .int 0, .int fu])), (sc, .inr (5, [.ref byt, .int 0, .int 0, .int 0, .int 0, .ref nms, .int 0]))] H := hP
  have hD : va_D (va_A (w_forgetTheRest cI cZ cP x0 nw sp im sc hg fg pg pr kp ab be bd ns fu byt nms) sz) [(x0, .inr (6, [.ref nw, .ref sp, .ref im, .ref sc, .ref hg, .ref fg, .ref pg, .ref pr, .int 0, .long ((0 : Int32).toInt64), .long ((1 : Int32).toInt64), .int 0, .int 0, .int fu])), (sc, .inr (5, [.ref byt, .int 0, .int 0, .int 0, .int 0, .ref nms, .int 0]))] := hD
  refine lv_aload_n hx hb dX6_forgetTheRest_33 rfl (lv_at hl 0 rfl) ?_
  refine lv_iconst (v := 0) hx hb dX6_forgetTheRest_34 (by decide) ?_
  refine va_put (D := D) (ci := 6) (v := .int 0) (ty := .int) (C := RX6) (T := TX6) (N := 14) hx hb ht inX6 tyX6 tyX6_ok nmX6 hown hK hP hD hS 0 rfl rfl 13 (Nat.le_of_ble_eq_true rfl) (ht _ kw_350) (fun _ h9 => h9) rfl (by decide +kernel) rfl rfl (Nat.le_of_ble_eq_true rfl) dX6_forgetTheRest_35 (fun H locs hP hD hS => ?_)
  have hP : va_P D vwCl [(x0, .inr (6, [.ref nw, .ref sp, .ref im, .ref sc, .ref hg, .ref fg, .ref pg, .ref pr, .int 0, .long ((0 : Int32).toInt64), .long ((1 : Int32).toInt64), .int 0, .int 0, .int 0])), (sc, .inr (5, [.ref byt, .int 0, .int 0, .int 0, .int 0, .ref nms, .int 0]))] H := hP
  have hD : va_D (va_A (w_forgetTheRest cI cZ cP x0 nw sp im sc hg fg pg pr kp ab be bd ns fu byt nms) sz) [(x0, .inr (6, [.ref nw, .ref sp, .ref im, .ref sc, .ref hg, .ref fg, .ref pg, .ref pr, .int 0, .long ((0 : Int32).toInt64), .long ((1 : Int32).toInt64), .int 0, .int 0, .int 0])), (sc, .inr (5, [.ref byt, .int 0, .int 0, .int 0, .int 0, .ref nms, .int 0]))] := hD
  exact q_vret hX hr hlk () trivial (hP.sub [] rfl) (hD.sub [] (by decide) rfl) hS dX6_forgetTheRest_38
abbrev w_append (cI cZ cP : ClassId) (sc : Nat) (byt : Nat) (nms : Nat) (p0 : Int32) : va_W := [(sc, .inr (5, [.ref byt, .int 0, .int 0, .int 0, .int 0, .ref nms, .int 0])), (byt, .inl (cI, 150, .inl (fun _ => 0)))]
set_option maxHeartbeats 4000000 in
set_option maxRecDepth 100000 in
theorem c_append (l : Launch) (D : va_G) (cI cZ cP : ClassId) (sa : Nat → Nat) (sc : Nat) (byt : Nat) (nms : Nat) (p0 : Int32) (sz : Nat) : Met l yX5_append (qW yX5_append cX5_append 2 none) ({ frames := 0, cells := 0, slots := 0, locals := 0 } : Room) (qP D (TY cI cZ cP) sa [.ref sc, .int p0] (w_append cI cZ cP sc byt nms p0) sz) (qQv D (w_append cI cZ cP sc byt nms p0) sz (fun _ : Unit => True) (fun _ => [(sc, .inr (5, [.ref byt, .int 1, .int 0, .int 0, .int 0, .ref nms, .int 0]))])) 0 0 (va_A (w_append cI cZ cP sc byt nms p0) sz) := by
  refine q_enter (by decide) (Nat.le_of_ble_eq_true rfl) ?_
  intro p e s m below meth c ls hX hr hlk hnm hE hK hP hD hS hA hl
  obtain ⟨hx, hb, hml, hown, ht⟩ := id hX
  have hl : lv_has ls 2 [(0, .ref sc), (1, .int p0)] := hl
  refine lv_aload_n hx hb dX5_append_0 rfl (lv_at hl 0 rfl) ?_
  refine va_get (D := D) (ci := 5) (v := .int 0) (C := RX5) (T := TX5) (N := 7) hx hb ht inX5 hown hK hP 0 rfl rfl 1 (Nat.le_of_ble_eq_true rfl) (ht _ kw_210) (fun _ h9 => h9) rfl dX5_append_1 ?_
  refine lv_sipush (v := 150) hx hb dX5_append_4 (by decide) ?_
  refine lv_icmp_ge (tgt := 30) hx hb dX5_append_7 (by decide) (fun c_1 => absurd c_1 (by decide)) (fun _ => ?_)
  refine lv_aload_n hx hb dX5_append_10 rfl (lv_at hl 0 rfl) ?_
  refine va_get (D := D) (ci := 5) (v := .ref byt) (C := RX5) (T := TX5) (N := 7) hx hb ht inX5 hown hK hP 0 rfl rfl 0 (Nat.le_of_ble_eq_true rfl) (ht _ kw_209) (fun _ h9 => h9) rfl dX5_append_11 ?_
  refine lv_aload_n hx hb dX5_append_14 rfl (lv_at hl 0 rfl) ?_
  refine va_get (D := D) (ci := 5) (v := .int 0) (C := RX5) (T := TX5) (N := 7) hx hb ht inX5 hown hK hP 0 rfl rfl 1 (Nat.le_of_ble_eq_true rfl) (ht _ kw_210) (fun _ h9 => h9) rfl dX5_append_15 ?_
  refine lv_iload_n hx hb dX5_append_18 rfl (lv_at hl 1 rfl) ?_
  refine va_iast hx hb hK hP hD hS 1 0 rfl rfl (vin (by decide)) dX5_append_19 (fun H locs hP hD hS => ?_)
  have hP : va_P D vwCl [(sc, .inr (5, [.ref byt, .int 0, .int 0, .int 0, .int 0, .ref nms, .int 0])), (byt, .inl (cI, 150, .inl (upd (fun _ => 0) (0 : Int32).toNatClampNeg p0)))] H := hP
  have hD : va_D (va_A (w_append cI cZ cP sc byt nms p0) sz) [(sc, .inr (5, [.ref byt, .int 0, .int 0, .int 0, .int 0, .ref nms, .int 0])), (byt, .inl (cI, 150, .inl (upd (fun _ => 0) (0 : Int32).toNatClampNeg p0)))] := hD
  refine lv_aload_n hx hb dX5_append_20 rfl (lv_at hl 0 rfl) ?_
  refine lv_dup hx hb dX5_append_21 rfl ?_
  refine va_get (D := D) (ci := 5) (v := .int 0) (C := RX5) (T := TX5) (N := 7) hx hb ht inX5 hown hK hP 0 rfl rfl 1 (Nat.le_of_ble_eq_true rfl) (ht _ kw_210) (fun _ h9 => h9) rfl dX5_append_22 ?_
  refine lv_iconst (v := 1) hx hb dX5_append_25 (by decide) ?_
  refine lv_iadd hx hb dX5_append_26 ?_
  refine q_i (z := 1) (by decide) ?_
  refine va_put (D := D) (ci := 5) (v := .int 1) (ty := .int) (C := RX5) (T := TX5) (N := 7) hx hb ht inX5 tyX5 tyX5_ok nmX5 hown hK hP hD hS 0 rfl rfl 1 (Nat.le_of_ble_eq_true rfl) (ht _ kw_210) (fun _ h9 => h9) rfl (by decide +kernel) rfl rfl (Nat.le_of_ble_eq_true rfl) dX5_append_27 (fun H locs hP hD hS => ?_)
  have hP : va_P D vwCl [(sc, .inr (5, [.ref byt, .int 1, .int 0, .int 0, .int 0, .ref nms, .int 0])), (byt, .inl (cI, 150, .inl (upd (fun _ => 0) (0 : Int32).toNatClampNeg p0)))] H := hP
  have hD : va_D (va_A (w_append cI cZ cP sc byt nms p0) sz) [(sc, .inr (5, [.ref byt, .int 1, .int 0, .int 0, .int 0, .ref nms, .int 0])), (byt, .inl (cI, 150, .inl (upd (fun _ => 0) (0 : Int32).toNatClampNeg p0)))] := hD
  exact q_vret hX hr hlk () trivial (hP.sub [0] rfl) (hD.sub [0] (by decide) rfl) hS dX5_append_30
abbrev w_type (cI cZ cP : ClassId) (x0 : Nat) (nw : Nat) (sp : Nat) (im : Nat) (sc : Nat) (hg : Nat) (fg : Nat) (pg : Nat) (pr : Nat) (byt : Nat) (nms : Nat) (p0 : Int32) : va_W := [(x0, .inr (6, [.ref nw, .ref sp, .ref im, .ref sc, .ref hg, .ref fg, .ref pg, .ref pr, .int 0, .long 0, .long 1, .int 0, .int 0, .int 0])), (sc, .inr (5, [.ref byt, .int 0, .int 0, .int 0, .int 0, .ref nms, .int 0])), (byt, .inl (cI, 150, .inl (fun _ => 0)))]
set_option maxHeartbeats 4000000 in
set_option maxRecDepth 100000 in
theorem c_type (l : Launch) (D : va_G) (cI cZ cP : ClassId) (sa : Nat → Nat) (x0 : Nat) (nw : Nat) (sp : Nat) (im : Nat) (sc : Nat) (hg : Nat) (fg : Nat) (pg : Nat) (pr : Nat) (byt : Nat) (nms : Nat) (p0 : Int32) (sz : Nat) : Met l yX6_type (qW yX6_type cX6_type 2 (some .int)) ({ frames := 1, cells := 0, slots := 0, locals := 22 } : Room) (qP D (TY cI cZ cP) sa [.ref x0, .int p0] (w_type cI cZ cP x0 nw sp im sc hg fg pg pr byt nms p0) sz) (qQi D (w_type cI cZ cP x0 nw sp im sc hg fg pg pr byt nms p0) sz (fun (r : Int32) (_ : Unit) => r = sp_type p0) (fun _ => [])) 0 0 (va_A (w_type cI cZ cP x0 nw sp im sc hg fg pg pr byt nms p0) sz) := by
  refine q_enter (by decide) (Nat.le_of_ble_eq_true rfl) ?_
  intro p e s m below meth c ls hX hr hlk hnm hE hK hP hD hS hA hl
  obtain ⟨hx, hb, hml, hown, ht⟩ := id hX
  have hl : lv_has ls 2 [(0, .ref x0), (1, .int p0)] := hl
  refine lv_iload_n hx hb dX6_type_0 rfl (lv_at hl 1 rfl) ?_
  refine lv_iconst (v := 0) hx hb dX6_type_1 (by decide) ?_
  refine lv_bipush (v := 127) hx hb dX6_type_2 (by decide) ?_
  refine q_Si (wr := [(x0, .inr (6, [.ref nw, .ref sp, .ref im, .ref sc, .ref hg, .ref fg, .ref pg, .ref pr, .int 0, .long 0, .long 1, .int 0, .int 0, .int 0])), (sc, .inr (5, [.ref byt, .int 0, .int 0, .int 0, .int 0, .ref nms, .int 0])), (byt, .inl (cI, 150, .inl (fun _ => 0)))]) [] [0, 1, 2] hX hE hK hP hD hS hA hl.1 lk_X6_62 (c_within l D cI cZ cP sa p0 0 127 _) rfl rfl rfl rfl (by decide) rfl rfl (Nat.le_of_ble_eq_true rfl) rfl rfl ⟨Nat.le_of_ble_eq_true rfl, Nat.le_of_ble_eq_true rfl⟩ ⟨Nat.le_of_ble_eq_true rfl, Nat.le_of_ble_eq_true rfl⟩ dX6_type_4 (fun x_1 _ H locs h_1 hP hD hS => ?_)
  have hP : va_P D vwCl [(x0, .inr (6, [.ref nw, .ref sp, .ref im, .ref sc, .ref hg, .ref fg, .ref pg, .ref pr, .int 0, .long 0, .long 1, .int 0, .int 0, .int 0])), (sc, .inr (5, [.ref byt, .int 0, .int 0, .int 0, .int 0, .ref nms, .int 0])), (byt, .inl (cI, 150, .inl (fun _ => 0)))] H := hP
  have hD : va_D (va_A (w_type cI cZ cP x0 nw sp im sc hg fg pg pr byt nms p0) sz) [(x0, .inr (6, [.ref nw, .ref sp, .ref im, .ref sc, .ref hg, .ref fg, .ref pg, .ref pr, .int 0, .long 0, .long 1, .int 0, .int 0, .int 0])), (sc, .inr (5, [.ref byt, .int 0, .int 0, .int 0, .int 0, .ref nms, .int 0])), (byt, .inl (cI, 150, .inl (fun _ => 0)))] := hD
  rcases Classical.em (0 ≤ p0 ∧ p0 ≤ 127) with c_1 | c_1
  · rw [if_pos c_1] at h_1; subst h_1
    refine lv_if_ne (tgt := 17) hx hb dX6_type_7 (by decide) (fun _ => ?_) (fun c_2 => absurd c_2 (by decide))
    refine lv_aload_n hx hb dX6_type_17 rfl (lv_at hl 0 rfl) ?_
    refine va_get (D := D) (ci := 6) (v := .ref sc) (C := RX6) (T := TX6) (N := 14) hx hb ht inX6 hown hK hP 0 rfl rfl 3 (Nat.le_of_ble_eq_true rfl) (ht _ kw_340) (fun _ h9 => h9) rfl dX6_type_18 ?_
    refine va_get (D := D) (ci := 5) (v := .int 0) (C := RX5) (T := TX5) (N := 7) hx hb ht inX5 hown hK hP 1 rfl rfl 1 (Nat.le_of_ble_eq_true rfl) (ht _ kw_211) (fun _ h9 => h9) rfl dX6_type_21 ?_
    refine lv_sipush (v := 150) hx hb dX6_type_24 (by decide) ?_
    refine lv_icmp_lt (tgt := 35) hx hb dX6_type_27 (by decide) (fun _ => ?_) (fun c_3 => absurd (by decide) c_3)
    refine lv_aload_n hx hb dX6_type_35 rfl (lv_at hl 0 rfl) ?_
    refine va_get (D := D) (ci := 6) (v := .ref sc) (C := RX6) (T := TX6) (N := 14) hx hb ht inX6 hown hK hP 0 rfl rfl 3 (Nat.le_of_ble_eq_true rfl) (ht _ kw_340) (fun _ h9 => h9) rfl dX6_type_36 ?_
    refine lv_iload_n hx hb dX6_type_39 rfl (lv_at hl 1 rfl) ?_
    refine q_Vv (wr := [(x0, .inr (6, [.ref nw, .ref sp, .ref im, .ref sc, .ref hg, .ref fg, .ref pg, .ref pr, .int 0, .long 0, .long 1, .int 0, .int 0, .int 0]))]) [1, 2] [0] hX hE hK hP hD hS hA hl.1 lk_X6_103 (c_append l D cI cZ cP sa sc byt nms p0 _) rfl rfl rfl rfl (by decide) 0 5 rfl rfl rfl rfl (Nat.le_of_ble_eq_true rfl) rfl rfl ⟨Nat.le_of_ble_eq_true rfl, Nat.le_of_ble_eq_true rfl⟩ ⟨Nat.le_of_ble_eq_true rfl, Nat.le_of_ble_eq_true rfl⟩ dX6_type_40 (fun _ H locs h_4 hP hD hS => ?_)
    have hP : va_P D vwCl [(x0, .inr (6, [.ref nw, .ref sp, .ref im, .ref sc, .ref hg, .ref fg, .ref pg, .ref pr, .int 0, .long 0, .long 1, .int 0, .int 0, .int 0])), (sc, .inr (5, [.ref byt, .int 1, .int 0, .int 0, .int 0, .ref nms, .int 0]))] H := hP
    have hD : va_D (va_A (w_type cI cZ cP x0 nw sp im sc hg fg pg pr byt nms p0) sz) [(x0, .inr (6, [.ref nw, .ref sp, .ref im, .ref sc, .ref hg, .ref fg, .ref pg, .ref pr, .int 0, .long 0, .long 1, .int 0, .int 0, .int 0])), (sc, .inr (5, [.ref byt, .int 1, .int 0, .int 0, .int 0, .ref nms, .int 0]))] := hD
    refine lv_aload_n hx hb dX6_type_43 rfl (lv_at hl 0 rfl) ?_
    refine va_get (D := D) (ci := 6) (v := .ref sc) (C := RX6) (T := TX6) (N := 14) hx hb ht inX6 hown hK hP 0 rfl rfl 3 (Nat.le_of_ble_eq_true rfl) (ht _ kw_340) (fun _ h9 => h9) rfl dX6_type_44 ?_
    refine va_get (D := D) (ci := 5) (v := .int 1) (C := RX5) (T := TX5) (N := 7) hx hb ht inX5 hown hK hP 1 rfl rfl 1 (Nat.le_of_ble_eq_true rfl) (ht _ kw_211) (fun _ h9 => h9) rfl dX6_type_47 ?_
    exact q_iret hX hr hlk () (by simp [sp_type, c_1]) (hP.sub [] rfl) (hD.sub [] (by decide) rfl) hS dX6_type_50
  · rw [if_neg c_1] at h_1; subst h_1
    refine lv_if_ne (tgt := 17) hx hb dX6_type_7 (by decide) (fun c_5 => absurd (by decide) c_5) (fun _ => ?_)
    refine lv_aload_n hx hb dX6_type_10 rfl (lv_at hl 0 rfl) ?_
    refine lv_bipush (v := (-2)) hx hb dX6_type_11 (by decide) ?_
    refine q_Vi (wr := [(sc, .inr (5, [.ref byt, .int 0, .int 0, .int 0, .int 0, .ref nms, .int 0])), (byt, .inl (cI, 150, .inl (fun _ => 0)))]) [0] [1, 2] hX hE hK hP hD hS hA hl.1 lk_X6_66 (c_refuseBad l D cI cZ cP sa x0 nw sp im sc hg fg pg pr 0 0 1 0 0 0 (-2) _) rfl rfl rfl rfl (by decide) 0 6 rfl rfl rfl rfl (Nat.le_of_ble_eq_true rfl) rfl rfl ⟨Nat.le_of_ble_eq_true rfl, Nat.le_of_ble_eq_true rfl⟩ ⟨Nat.le_of_ble_eq_true rfl, Nat.le_of_ble_eq_true rfl⟩ dX6_type_13 (fun x_6 _ H locs h_6 hP hD hS => ?_)
    have hP : va_P D vwCl [(sc, .inr (5, [.ref byt, .int 0, .int 0, .int 0, .int 0, .ref nms, .int 0])), (byt, .inl (cI, 150, .inl (fun _ => 0)))] H := hP
    have hD : va_D (va_A (w_type cI cZ cP x0 nw sp im sc hg fg pg pr byt nms p0) sz) [(sc, .inr (5, [.ref byt, .int 0, .int 0, .int 0, .int 0, .ref nms, .int 0])), (byt, .inl (cI, 150, .inl (fun _ => 0)))] := hD
    subst h_6
    exact q_iret hX hr hlk () (by simp [sp_type, c_1]) (hP.sub [] rfl) (hD.sub [] (by decide) rfl) hS dX6_type_16
abbrev w_clear (cI cZ cP : ClassId) (x0 : Nat) (nw : Nat) (sp : Nat) (im : Nat) (sc : Nat) (hg : Nat) (fg : Nat) (pg : Nat) (pr : Nat) (byt : Nat) (nms : Nat) : va_W := [(x0, .inr (6, [.ref nw, .ref sp, .ref im, .ref sc, .ref hg, .ref fg, .ref pg, .ref pr, .int 0, .long 0, .long 1, .int 0, .int 0, .int 0])), (sc, .inr (5, [.ref byt, .int 0, .int 0, .int 0, .int 0, .ref nms, .int 0]))]
set_option maxHeartbeats 4000000 in
set_option maxRecDepth 100000 in
theorem c_clear (l : Launch) (D : va_G) (cI cZ cP : ClassId) (sa : Nat → Nat) (x0 : Nat) (nw : Nat) (sp : Nat) (im : Nat) (sc : Nat) (hg : Nat) (fg : Nat) (pg : Nat) (pr : Nat) (byt : Nat) (nms : Nat) (sz : Nat) : Met l yX6_clear (qW yX6_clear cX6_clear 2 (some .int)) ({ frames := 0, cells := 0, slots := 0, locals := 0 } : Room) (qP D (TY cI cZ cP) sa [.ref x0] (w_clear cI cZ cP x0 nw sp im sc hg fg pg pr byt nms) sz) (qQi D (w_clear cI cZ cP x0 nw sp im sc hg fg pg pr byt nms) sz (fun (r : Int32) (_ : Unit) => r = 0) (fun _ => [])) 0 0 (va_A (w_clear cI cZ cP x0 nw sp im sc hg fg pg pr byt nms) sz) := by
  refine q_enter (by decide) (Nat.le_of_ble_eq_true rfl) ?_
  intro p e s m below meth c ls hX hr hlk hnm hE hK hP hD hS hA hl
  obtain ⟨hx, hb, hml, hown, ht⟩ := id hX
  have hl : lv_has ls 2 [(0, .ref x0)] := hl
  refine lv_aload_n hx hb dX6_clear_0 rfl (lv_at hl 0 rfl) ?_
  refine va_get (D := D) (ci := 6) (v := .ref sc) (C := RX6) (T := TX6) (N := 14) hx hb ht inX6 hown hK hP 0 rfl rfl 3 (Nat.le_of_ble_eq_true rfl) (ht _ kw_340) (fun _ h9 => h9) rfl dX6_clear_1 ?_
  refine va_get (D := D) (ci := 5) (v := .int 0) (C := RX5) (T := TX5) (N := 7) hx hb ht inX5 hown hK hP 1 rfl rfl 1 (Nat.le_of_ble_eq_true rfl) (ht _ kw_211) (fun _ h9 => h9) rfl dX6_clear_4 ?_
  refine lv_istore_n (lv' := [(1, .int 0), (0, .ref x0)]) hx hb dX6_clear_7 rfl hl (by decide) rfl (fun ls hl => ?_)
  refine lv_aload_n hx hb dX6_clear_8 rfl (lv_at hl 1 rfl) ?_
  refine va_get (D := D) (ci := 6) (v := .ref sc) (C := RX6) (T := TX6) (N := 14) hx hb ht inX6 hown hK hP 0 rfl rfl 3 (Nat.le_of_ble_eq_true rfl) (ht _ kw_340) (fun _ h9 => h9) rfl dX6_clear_9 ?_
  refine lv_iconst (v := 0) hx hb dX6_clear_12 (by decide) ?_
  refine va_put (D := D) (ci := 5) (v := .int 0) (ty := .int) (C := RX5) (T := TX5) (N := 7) hx hb ht inX5 tyX5 tyX5_ok nmX5 hown hK hP hD hS 1 rfl rfl 1 (Nat.le_of_ble_eq_true rfl) (ht _ kw_211) (fun _ h9 => h9) rfl (by decide +kernel) rfl rfl (Nat.le_of_ble_eq_true rfl) dX6_clear_13 (fun H locs hP hD hS => ?_)
  have hP : va_P D vwCl [(x0, .inr (6, [.ref nw, .ref sp, .ref im, .ref sc, .ref hg, .ref fg, .ref pg, .ref pr, .int 0, .long 0, .long 1, .int 0, .int 0, .int 0])), (sc, .inr (5, [.ref byt, .int 0, .int 0, .int 0, .int 0, .ref nms, .int 0]))] H := hP
  have hD : va_D (va_A (w_clear cI cZ cP x0 nw sp im sc hg fg pg pr byt nms) sz) [(x0, .inr (6, [.ref nw, .ref sp, .ref im, .ref sc, .ref hg, .ref fg, .ref pg, .ref pr, .int 0, .long 0, .long 1, .int 0, .int 0, .int 0])), (sc, .inr (5, [.ref byt, .int 0, .int 0, .int 0, .int 0, .ref nms, .int 0]))] := hD
  refine lv_iload_n hx hb dX6_clear_16 rfl (lv_at hl 0 rfl) ?_
  exact q_iret hX hr hlk () rfl (hP.sub [] rfl) (hD.sub [] (by decide) rfl) hS dX6_clear_17
abbrev w_pedal (cI cZ cP : ClassId) (x0 : Nat) (nw : Nat) (sp : Nat) (im : Nat) (sc : Nat) (hg : Nat) (fg : Nat) (pg : Nat) (pr : Nat) (keys : Nat) (moms : Nat) (lens : Nat) (prts : Nat) (luds : Nat) (hnds : Nat) (lats : Nat) (knds : Nat) (rch : Nat) (spd : Nat) (unN : Nat) (unH : Nat) (ptn : Nat) (p0 : Int32) (p1 : Int32) : va_W := [(x0, .inr (6, [.ref nw, .ref sp, .ref im, .ref sc, .ref hg, .ref fg, .ref pg, .ref pr, .int 0, .long 0, .long 1, .int 0, .int 0, .int 0])), (nw, .inr (3, [.int 2, .int 0, .ref keys, .ref moms, .ref lens, .ref prts, .ref luds, .ref hnds, .ref lats, .ref knds, .ref rch, .ref spd, .int 0, .int 0, .int 0, .ref unN, .ref unH, .ref ptn]))]
set_option maxHeartbeats 4000000 in
set_option maxRecDepth 100000 in
theorem c_pedal (l : Launch) (D : va_G) (cI cZ cP : ClassId) (sa : Nat → Nat) (x0 : Nat) (nw : Nat) (sp : Nat) (im : Nat) (sc : Nat) (hg : Nat) (fg : Nat) (pg : Nat) (pr : Nat) (keys : Nat) (moms : Nat) (lens : Nat) (prts : Nat) (luds : Nat) (hnds : Nat) (lats : Nat) (knds : Nat) (rch : Nat) (spd : Nat) (unN : Nat) (unH : Nat) (ptn : Nat) (p0 : Int32) (p1 : Int32) (sz : Nat) : Met l yX6_pedal (qW yX6_pedal cX6_pedal 3 (some .int)) ({ frames := 1, cells := 0, slots := 0, locals := 22 } : Room) (qP D (TY cI cZ cP) sa [.ref x0, .int p0, .int p1] (w_pedal cI cZ cP x0 nw sp im sc hg fg pg pr keys moms lens prts luds hnds lats knds rch spd unN unH ptn p0 p1) sz) (qQi D (w_pedal cI cZ cP x0 nw sp im sc hg fg pg pr keys moms lens prts luds hnds lats knds rch spd unN unH ptn p0 p1) sz (fun (r : Int32) (_ : Unit) => r = sp_pedal p0 p1) (fun _ => [])) 0 0 (va_A (w_pedal cI cZ cP x0 nw sp im sc hg fg pg pr keys moms lens prts luds hnds lats knds rch spd unN unH ptn p0 p1) sz) := by
  refine q_enter (by decide) (Nat.le_of_ble_eq_true rfl) ?_
  intro p e s m below meth c ls hX hr hlk hnm hE hK hP hD hS hA hl
  obtain ⟨hx, hb, hml, hown, ht⟩ := id hX
  have hl : lv_has ls 3 [(0, .ref x0), (1, .int p0), (2, .int p1)] := hl
  refine lv_iload_n hx hb dX6_pedal_0 rfl (lv_at hl 2 rfl) ?_
  refine lv_iconst (v := 0) hx hb dX6_pedal_1 (by decide) ?_
  refine lv_bipush (v := 64) hx hb dX6_pedal_2 (by decide) ?_
  refine q_Si (wr := [(x0, .inr (6, [.ref nw, .ref sp, .ref im, .ref sc, .ref hg, .ref fg, .ref pg, .ref pr, .int 0, .long 0, .long 1, .int 0, .int 0, .int 0])), (nw, .inr (3, [.int 2, .int 0, .ref keys, .ref moms, .ref lens, .ref prts, .ref luds, .ref hnds, .ref lats, .ref knds, .ref rch, .ref spd, .int 0, .int 0, .int 0, .ref unN, .ref unH, .ref ptn]))]) [] [0, 1] hX hE hK hP hD hS hA hl.1 lk_X6_62 (c_within l D cI cZ cP sa p1 0 64 _) rfl rfl rfl rfl (by decide) rfl rfl (Nat.le_of_ble_eq_true rfl) rfl rfl ⟨Nat.le_of_ble_eq_true rfl, Nat.le_of_ble_eq_true rfl⟩ ⟨Nat.le_of_ble_eq_true rfl, Nat.le_of_ble_eq_true rfl⟩ dX6_pedal_4 (fun x_1 _ H locs h_1 hP hD hS => ?_)
  have hP : va_P D vwCl [(x0, .inr (6, [.ref nw, .ref sp, .ref im, .ref sc, .ref hg, .ref fg, .ref pg, .ref pr, .int 0, .long 0, .long 1, .int 0, .int 0, .int 0])), (nw, .inr (3, [.int 2, .int 0, .ref keys, .ref moms, .ref lens, .ref prts, .ref luds, .ref hnds, .ref lats, .ref knds, .ref rch, .ref spd, .int 0, .int 0, .int 0, .ref unN, .ref unH, .ref ptn]))] H := hP
  have hD : va_D (va_A (w_pedal cI cZ cP x0 nw sp im sc hg fg pg pr keys moms lens prts luds hnds lats knds rch spd unN unH ptn p0 p1) sz) [(x0, .inr (6, [.ref nw, .ref sp, .ref im, .ref sc, .ref hg, .ref fg, .ref pg, .ref pr, .int 0, .long 0, .long 1, .int 0, .int 0, .int 0])), (nw, .inr (3, [.int 2, .int 0, .ref keys, .ref moms, .ref lens, .ref prts, .ref luds, .ref hnds, .ref lats, .ref knds, .ref rch, .ref spd, .int 0, .int 0, .int 0, .ref unN, .ref unH, .ref ptn]))] := hD
  rcases Classical.em (0 ≤ p1 ∧ p1 ≤ 64) with c_1 | c_1
  · rw [if_pos c_1] at h_1; subst h_1
    refine lv_if_eq (tgt := 19) hx hb dX6_pedal_7 (by decide) (fun c_2 => absurd c_2 (by decide)) (fun _ => ?_)
    refine lv_iload_n hx hb dX6_pedal_10 rfl (lv_at hl 1 rfl) ?_
    refine lv_iconst (v := 0) hx hb dX6_pedal_11 (by decide) ?_
    refine lv_iload_n hx hb dX6_pedal_12 rfl (lv_at hl 2 rfl) ?_
    refine q_Si (wr := [(x0, .inr (6, [.ref nw, .ref sp, .ref im, .ref sc, .ref hg, .ref fg, .ref pg, .ref pr, .int 0, .long 0, .long 1, .int 0, .int 0, .int 0])), (nw, .inr (3, [.int 2, .int 0, .ref keys, .ref moms, .ref lens, .ref prts, .ref luds, .ref hnds, .ref lats, .ref knds, .ref rch, .ref spd, .int 0, .int 0, .int 0, .ref unN, .ref unH, .ref ptn]))]) [] [0, 1] hX hE hK hP hD hS hA hl.1 lk_X6_62 (c_within l D cI cZ cP sa p0 0 p1 _) rfl rfl rfl rfl (by decide) rfl rfl (Nat.le_of_ble_eq_true rfl) rfl rfl ⟨Nat.le_of_ble_eq_true rfl, Nat.le_of_ble_eq_true rfl⟩ ⟨Nat.le_of_ble_eq_true rfl, Nat.le_of_ble_eq_true rfl⟩ dX6_pedal_13 (fun x_3 _ H locs h_3 hP hD hS => ?_)
    have hP : va_P D vwCl [(x0, .inr (6, [.ref nw, .ref sp, .ref im, .ref sc, .ref hg, .ref fg, .ref pg, .ref pr, .int 0, .long 0, .long 1, .int 0, .int 0, .int 0])), (nw, .inr (3, [.int 2, .int 0, .ref keys, .ref moms, .ref lens, .ref prts, .ref luds, .ref hnds, .ref lats, .ref knds, .ref rch, .ref spd, .int 0, .int 0, .int 0, .ref unN, .ref unH, .ref ptn]))] H := hP
    have hD : va_D (va_A (w_pedal cI cZ cP x0 nw sp im sc hg fg pg pr keys moms lens prts luds hnds lats knds rch spd unN unH ptn p0 p1) sz) [(x0, .inr (6, [.ref nw, .ref sp, .ref im, .ref sc, .ref hg, .ref fg, .ref pg, .ref pr, .int 0, .long 0, .long 1, .int 0, .int 0, .int 0])), (nw, .inr (3, [.int 2, .int 0, .ref keys, .ref moms, .ref lens, .ref prts, .ref luds, .ref hnds, .ref lats, .ref knds, .ref rch, .ref spd, .int 0, .int 0, .int 0, .ref unN, .ref unH, .ref ptn]))] := hD
    rcases Classical.em (0 ≤ p0 ∧ p0 ≤ p1) with c_3 | c_3
    · rw [if_pos c_3] at h_3; subst h_3
      refine lv_if_ne (tgt := 26) hx hb dX6_pedal_16 (by decide) (fun _ => ?_) (fun c_4 => absurd c_4 (by decide))
      refine lv_aload_n hx hb dX6_pedal_26 rfl (lv_at hl 0 rfl) ?_
      refine va_get (D := D) (ci := 6) (v := .ref nw) (C := RX6) (T := TX6) (N := 14) hx hb ht inX6 hown hK hP 0 rfl rfl 0 (Nat.le_of_ble_eq_true rfl) (ht _ kw_337) (fun _ h9 => h9) rfl dX6_pedal_27 ?_
      refine lv_iload_n hx hb dX6_pedal_30 rfl (lv_at hl 1 rfl) ?_
      refine va_put (D := D) (ci := 3) (v := .int p0) (ty := .int) (C := RX3) (T := TX3) (N := 18) hx hb ht inX3 tyX3 tyX3_ok nmX3 hown hK hP hD hS 1 rfl rfl 12 (Nat.le_of_ble_eq_true rfl) (ht _ kw_156) (fun _ h9 => h9) rfl (by decide +kernel) rfl rfl (Nat.le_of_ble_eq_true rfl) dX6_pedal_31 (fun H locs hP hD hS => ?_)
      have hP : va_P D vwCl [(x0, .inr (6, [.ref nw, .ref sp, .ref im, .ref sc, .ref hg, .ref fg, .ref pg, .ref pr, .int 0, .long 0, .long 1, .int 0, .int 0, .int 0])), (nw, .inr (3, [.int 2, .int 0, .ref keys, .ref moms, .ref lens, .ref prts, .ref luds, .ref hnds, .ref lats, .ref knds, .ref rch, .ref spd, .int p0, .int 0, .int 0, .ref unN, .ref unH, .ref ptn]))] H := hP
      have hD : va_D (va_A (w_pedal cI cZ cP x0 nw sp im sc hg fg pg pr keys moms lens prts luds hnds lats knds rch spd unN unH ptn p0 p1) sz) [(x0, .inr (6, [.ref nw, .ref sp, .ref im, .ref sc, .ref hg, .ref fg, .ref pg, .ref pr, .int 0, .long 0, .long 1, .int 0, .int 0, .int 0])), (nw, .inr (3, [.int 2, .int 0, .ref keys, .ref moms, .ref lens, .ref prts, .ref luds, .ref hnds, .ref lats, .ref knds, .ref rch, .ref spd, .int p0, .int 0, .int 0, .ref unN, .ref unH, .ref ptn]))] := hD
      refine lv_aload_n hx hb dX6_pedal_34 rfl (lv_at hl 0 rfl) ?_
      refine va_get (D := D) (ci := 6) (v := .ref nw) (C := RX6) (T := TX6) (N := 14) hx hb ht inX6 hown hK hP 0 rfl rfl 0 (Nat.le_of_ble_eq_true rfl) (ht _ kw_337) (fun _ h9 => h9) rfl dX6_pedal_35 ?_
      refine lv_iload_n hx hb dX6_pedal_38 rfl (lv_at hl 2 rfl) ?_
      refine va_put (D := D) (ci := 3) (v := .int p1) (ty := .int) (C := RX3) (T := TX3) (N := 18) hx hb ht inX3 tyX3 tyX3_ok nmX3 hown hK hP hD hS 1 rfl rfl 13 (Nat.le_of_ble_eq_true rfl) (ht _ kw_158) (fun _ h9 => h9) rfl (by decide +kernel) rfl rfl (Nat.le_of_ble_eq_true rfl) dX6_pedal_39 (fun H locs hP hD hS => ?_)
      have hP : va_P D vwCl [(x0, .inr (6, [.ref nw, .ref sp, .ref im, .ref sc, .ref hg, .ref fg, .ref pg, .ref pr, .int 0, .long 0, .long 1, .int 0, .int 0, .int 0])), (nw, .inr (3, [.int 2, .int 0, .ref keys, .ref moms, .ref lens, .ref prts, .ref luds, .ref hnds, .ref lats, .ref knds, .ref rch, .ref spd, .int p0, .int p1, .int 0, .ref unN, .ref unH, .ref ptn]))] H := hP
      have hD : va_D (va_A (w_pedal cI cZ cP x0 nw sp im sc hg fg pg pr keys moms lens prts luds hnds lats knds rch spd unN unH ptn p0 p1) sz) [(x0, .inr (6, [.ref nw, .ref sp, .ref im, .ref sc, .ref hg, .ref fg, .ref pg, .ref pr, .int 0, .long 0, .long 1, .int 0, .int 0, .int 0])), (nw, .inr (3, [.int 2, .int 0, .ref keys, .ref moms, .ref lens, .ref prts, .ref luds, .ref hnds, .ref lats, .ref knds, .ref rch, .ref spd, .int p0, .int p1, .int 0, .ref unN, .ref unH, .ref ptn]))] := hD
      refine lv_iconst (v := 1) hx hb dX6_pedal_42 (by decide) ?_
      exact q_iret hX hr hlk () (by simp [sp_pedal, c_1, c_3]) (hP.sub [] rfl) (hD.sub [] (by decide) rfl) hS dX6_pedal_43
    · rw [if_neg c_3] at h_3; subst h_3
      refine lv_if_ne (tgt := 26) hx hb dX6_pedal_16 (by decide) (fun c_5 => absurd (by decide) c_5) (fun _ => ?_)
      refine lv_aload_n hx hb dX6_pedal_19 rfl (lv_at hl 0 rfl) ?_
      refine lv_bipush (v := (-2)) hx hb dX6_pedal_20 (by decide) ?_
      refine q_Vi (wr := [(nw, .inr (3, [.int 2, .int 0, .ref keys, .ref moms, .ref lens, .ref prts, .ref luds, .ref hnds, .ref lats, .ref knds, .ref rch, .ref spd, .int 0, .int 0, .int 0, .ref unN, .ref unH, .ref ptn]))]) [0] [1] hX hE hK hP hD hS hA hl.1 lk_X6_66 (c_refuseBad l D cI cZ cP sa x0 nw sp im sc hg fg pg pr 0 0 1 0 0 0 (-2) _) rfl rfl rfl rfl (by decide) 0 6 rfl rfl rfl rfl (Nat.le_of_ble_eq_true rfl) rfl rfl ⟨Nat.le_of_ble_eq_true rfl, Nat.le_of_ble_eq_true rfl⟩ ⟨Nat.le_of_ble_eq_true rfl, Nat.le_of_ble_eq_true rfl⟩ dX6_pedal_22 (fun x_6 _ H locs h_6 hP hD hS => ?_)
      have hP : va_P D vwCl [(nw, .inr (3, [.int 2, .int 0, .ref keys, .ref moms, .ref lens, .ref prts, .ref luds, .ref hnds, .ref lats, .ref knds, .ref rch, .ref spd, .int 0, .int 0, .int 0, .ref unN, .ref unH, .ref ptn]))] H := hP
      have hD : va_D (va_A (w_pedal cI cZ cP x0 nw sp im sc hg fg pg pr keys moms lens prts luds hnds lats knds rch spd unN unH ptn p0 p1) sz) [(nw, .inr (3, [.int 2, .int 0, .ref keys, .ref moms, .ref lens, .ref prts, .ref luds, .ref hnds, .ref lats, .ref knds, .ref rch, .ref spd, .int 0, .int 0, .int 0, .ref unN, .ref unH, .ref ptn]))] := hD
      subst h_6
      exact q_iret hX hr hlk () (by simp [sp_pedal, c_1, c_3]) (hP.sub [] rfl) (hD.sub [] (by decide) rfl) hS dX6_pedal_25
  · rw [if_neg c_1] at h_1; subst h_1
    refine lv_if_eq (tgt := 19) hx hb dX6_pedal_7 (by decide) (fun _ => ?_) (fun c_7 => absurd (by decide) c_7)
    refine lv_aload_n hx hb dX6_pedal_19 rfl (lv_at hl 0 rfl) ?_
    refine lv_bipush (v := (-2)) hx hb dX6_pedal_20 (by decide) ?_
    refine q_Vi (wr := [(nw, .inr (3, [.int 2, .int 0, .ref keys, .ref moms, .ref lens, .ref prts, .ref luds, .ref hnds, .ref lats, .ref knds, .ref rch, .ref spd, .int 0, .int 0, .int 0, .ref unN, .ref unH, .ref ptn]))]) [0] [1] hX hE hK hP hD hS hA hl.1 lk_X6_66 (c_refuseBad l D cI cZ cP sa x0 nw sp im sc hg fg pg pr 0 0 1 0 0 0 (-2) _) rfl rfl rfl rfl (by decide) 0 6 rfl rfl rfl rfl (Nat.le_of_ble_eq_true rfl) rfl rfl ⟨Nat.le_of_ble_eq_true rfl, Nat.le_of_ble_eq_true rfl⟩ ⟨Nat.le_of_ble_eq_true rfl, Nat.le_of_ble_eq_true rfl⟩ dX6_pedal_22 (fun x_8 _ H locs h_8 hP hD hS => ?_)
    have hP : va_P D vwCl [(nw, .inr (3, [.int 2, .int 0, .ref keys, .ref moms, .ref lens, .ref prts, .ref luds, .ref hnds, .ref lats, .ref knds, .ref rch, .ref spd, .int 0, .int 0, .int 0, .ref unN, .ref unH, .ref ptn]))] H := hP
    have hD : va_D (va_A (w_pedal cI cZ cP x0 nw sp im sc hg fg pg pr keys moms lens prts luds hnds lats knds rch spd unN unH ptn p0 p1) sz) [(nw, .inr (3, [.int 2, .int 0, .ref keys, .ref moms, .ref lens, .ref prts, .ref luds, .ref hnds, .ref lats, .ref knds, .ref rch, .ref spd, .int 0, .int 0, .int 0, .ref unN, .ref unH, .ref ptn]))] := hD
    subst h_8
    exact q_iret hX hr hlk () (by simp [sp_pedal, c_1]) (hP.sub [] rfl) (hD.sub [] (by decide) rfl) hS dX6_pedal_25
abbrev w_isStiff (cI cZ cP : ClassId) (nw : Nat) (keys : Nat) (moms : Nat) (lens : Nat) (prts : Nat) (luds : Nat) (hnds : Nat) (lats : Nat) (knds : Nat) (rch : Nat) (spd : Nat) (unN : Nat) (unH : Nat) (ptn : Nat) (p0 : Int32) : va_W := [(nw, .inr (3, [.int 2, .int 0, .ref keys, .ref moms, .ref lens, .ref prts, .ref luds, .ref hnds, .ref lats, .ref knds, .ref rch, .ref spd, .int 0, .int 0, .int 0, .ref unN, .ref unH, .ref ptn])), (knds, .inl (cI, 4, .inl (fun _ => 0)))]
set_option maxHeartbeats 4000000 in
set_option maxRecDepth 100000 in
theorem c_isStiff (l : Launch) (D : va_G) (cI cZ cP : ClassId) (sa : Nat → Nat) (nw : Nat) (keys : Nat) (moms : Nat) (lens : Nat) (prts : Nat) (luds : Nat) (hnds : Nat) (lats : Nat) (knds : Nat) (rch : Nat) (spd : Nat) (unN : Nat) (unH : Nat) (ptn : Nat) (p0 : Int32) (h0 : 0 ≤ p0 ∧ p0 ≤ 3) (sz : Nat) : Met l yX3_isStiff (qW yX3_isStiff cX3_isStiff 2 (some .boolean)) ({ frames := 0, cells := 0, slots := 0, locals := 0 } : Room) (qP D (TY cI cZ cP) sa [.ref nw, .int p0] (w_isStiff cI cZ cP nw keys moms lens prts luds hnds lats knds rch spd unN unH ptn p0) sz) (qQi D (w_isStiff cI cZ cP nw keys moms lens prts luds hnds lats knds rch spd unN unH ptn p0) sz (fun (r : Int32) (_ : Unit) => r = 0) (fun _ => [(nw, .inr (3, [.int 2, .int 0, .ref keys, .ref moms, .ref lens, .ref prts, .ref luds, .ref hnds, .ref lats, .ref knds, .ref rch, .ref spd, .int 0, .int 0, .int 0, .ref unN, .ref unH, .ref ptn])), (knds, .inl (cI, 4, .inl (fun _ => 0)))])) 0 0 (va_A (w_isStiff cI cZ cP nw keys moms lens prts luds hnds lats knds rch spd unN unH ptn p0) sz) := by
  refine q_enter (by decide) (Nat.le_of_ble_eq_true rfl) ?_
  intro p e s m below meth c ls hX hr hlk hnm hE hK hP hD hS hA hl
  obtain ⟨hx, hb, hml, hown, ht⟩ := id hX
  have hl : lv_has ls 2 [(0, .ref nw), (1, .int p0)] := hl
  refine lv_aload_n hx hb dX3_isStiff_0 rfl (lv_at hl 0 rfl) ?_
  refine va_get (D := D) (ci := 3) (v := .ref knds) (C := RX3) (T := TX3) (N := 18) hx hb ht inX3 hown hK hP 0 rfl rfl 9 (Nat.le_of_ble_eq_true rfl) (ht _ kw_151) (fun _ h9 => h9) rfl dX3_isStiff_1 ?_
  refine lv_iload_n hx hb dX3_isStiff_4 rfl (lv_at hl 1 rfl) ?_
  refine va_iald hx hb hK hP 1 0 rfl rfl (vin_le h0 (by decide)) dX3_isStiff_5 ?_
  refine q_i (z := 0) rfl ?_
  refine lv_iconst (v := 3) hx hb dX3_isStiff_6 (by decide) ?_
  refine lv_icmp_eq (tgt := 20) hx hb dX3_isStiff_7 (by decide) (fun c_1 => absurd c_1 (by decide)) (fun _ => ?_)
  refine lv_aload_n hx hb dX3_isStiff_10 rfl (lv_at hl 0 rfl) ?_
  refine va_get (D := D) (ci := 3) (v := .ref knds) (C := RX3) (T := TX3) (N := 18) hx hb ht inX3 hown hK hP 0 rfl rfl 9 (Nat.le_of_ble_eq_true rfl) (ht _ kw_151) (fun _ h9 => h9) rfl dX3_isStiff_11 ?_
  refine lv_iload_n hx hb dX3_isStiff_14 rfl (lv_at hl 1 rfl) ?_
  refine va_iald hx hb hK hP 1 0 rfl rfl (vin_le h0 (by decide)) dX3_isStiff_15 ?_
  refine q_i (z := 0) rfl ?_
  refine lv_iconst (v := 5) hx hb dX3_isStiff_16 (by decide) ?_
  refine lv_icmp_ne (tgt := 24) hx hb dX3_isStiff_17 (by decide) (fun _ => ?_) (fun c_2 => absurd c_2 (by decide))
  refine lv_iconst (v := 0) hx hb dX3_isStiff_24 (by decide) ?_
  exact q_zret hX hr hlk (by decide) () rfl (hP.sub [0, 1] rfl) (hD.sub [0, 1] (by decide) rfl) hS dX3_isStiff_25
abbrev w_isQuick (cI cZ cP : ClassId) (nw : Nat) (keys : Nat) (moms : Nat) (lens : Nat) (prts : Nat) (luds : Nat) (hnds : Nat) (lats : Nat) (knds : Nat) (rch : Nat) (spd : Nat) (unN : Nat) (unH : Nat) (ptn : Nat) (p0 : Int32) : va_W := [(nw, .inr (3, [.int 2, .int 0, .ref keys, .ref moms, .ref lens, .ref prts, .ref luds, .ref hnds, .ref lats, .ref knds, .ref rch, .ref spd, .int 0, .int 0, .int 0, .ref unN, .ref unH, .ref ptn])), (knds, .inl (cI, 4, .inl (fun _ => 0)))]
set_option maxHeartbeats 4000000 in
set_option maxRecDepth 100000 in
theorem c_isQuick (l : Launch) (D : va_G) (cI cZ cP : ClassId) (sa : Nat → Nat) (nw : Nat) (keys : Nat) (moms : Nat) (lens : Nat) (prts : Nat) (luds : Nat) (hnds : Nat) (lats : Nat) (knds : Nat) (rch : Nat) (spd : Nat) (unN : Nat) (unH : Nat) (ptn : Nat) (p0 : Int32) (h0 : 0 ≤ p0 ∧ p0 ≤ 3) (sz : Nat) : Met l yX3_isQuick (qW yX3_isQuick cX3_isQuick 2 (some .boolean)) ({ frames := 0, cells := 0, slots := 0, locals := 0 } : Room) (qP D (TY cI cZ cP) sa [.ref nw, .int p0] (w_isQuick cI cZ cP nw keys moms lens prts luds hnds lats knds rch spd unN unH ptn p0) sz) (qQi D (w_isQuick cI cZ cP nw keys moms lens prts luds hnds lats knds rch spd unN unH ptn p0) sz (fun (r : Int32) (_ : Unit) => r = 0) (fun _ => [(nw, .inr (3, [.int 2, .int 0, .ref keys, .ref moms, .ref lens, .ref prts, .ref luds, .ref hnds, .ref lats, .ref knds, .ref rch, .ref spd, .int 0, .int 0, .int 0, .ref unN, .ref unH, .ref ptn])), (knds, .inl (cI, 4, .inl (fun _ => 0)))])) 0 0 (va_A (w_isQuick cI cZ cP nw keys moms lens prts luds hnds lats knds rch spd unN unH ptn p0) sz) := by
  refine q_enter (by decide) (Nat.le_of_ble_eq_true rfl) ?_
  intro p e s m below meth c ls hX hr hlk hnm hE hK hP hD hS hA hl
  obtain ⟨hx, hb, hml, hown, ht⟩ := id hX
  have hl : lv_has ls 2 [(0, .ref nw), (1, .int p0)] := hl
  refine lv_aload_n hx hb dX3_isQuick_0 rfl (lv_at hl 0 rfl) ?_
  refine va_get (D := D) (ci := 3) (v := .ref knds) (C := RX3) (T := TX3) (N := 18) hx hb ht inX3 hown hK hP 0 rfl rfl 9 (Nat.le_of_ble_eq_true rfl) (ht _ kw_151) (fun _ h9 => h9) rfl dX3_isQuick_1 ?_
  refine lv_iload_n hx hb dX3_isQuick_4 rfl (lv_at hl 1 rfl) ?_
  refine va_iald hx hb hK hP 1 0 rfl rfl (vin_le h0 (by decide)) dX3_isQuick_5 ?_
  refine q_i (z := 0) rfl ?_
  refine lv_iconst (v := 1) hx hb dX3_isQuick_6 (by decide) ?_
  refine lv_icmp_eq (tgt := 20) hx hb dX3_isQuick_7 (by decide) (fun c_1 => absurd c_1 (by decide)) (fun _ => ?_)
  refine lv_aload_n hx hb dX3_isQuick_10 rfl (lv_at hl 0 rfl) ?_
  refine va_get (D := D) (ci := 3) (v := .ref knds) (C := RX3) (T := TX3) (N := 18) hx hb ht inX3 hown hK hP 0 rfl rfl 9 (Nat.le_of_ble_eq_true rfl) (ht _ kw_151) (fun _ h9 => h9) rfl dX3_isQuick_11 ?_
  refine lv_iload_n hx hb dX3_isQuick_14 rfl (lv_at hl 1 rfl) ?_
  refine va_iald hx hb hK hP 1 0 rfl rfl (vin_le h0 (by decide)) dX3_isQuick_15 ?_
  refine q_i (z := 0) rfl ?_
  refine lv_iconst (v := 4) hx hb dX3_isQuick_16 (by decide) ?_
  refine lv_icmp_ne (tgt := 24) hx hb dX3_isQuick_17 (by decide) (fun _ => ?_) (fun c_2 => absurd c_2 (by decide))
  refine lv_iconst (v := 0) hx hb dX3_isQuick_24 (by decide) ?_
  exact q_zret hX hr hlk (by decide) () rfl (hP.sub [0, 1] rfl) (hD.sub [0, 1] (by decide) rfl) hS dX3_isQuick_25
abbrev w_reaches (cI cZ cP : ClassId) (nw : Nat) (keys : Nat) (moms : Nat) (lens : Nat) (prts : Nat) (luds : Nat) (hnds : Nat) (lats : Nat) (knds : Nat) (rch : Nat) (spd : Nat) (unN : Nat) (unH : Nat) (ptn : Nat) (p0 : Int32) : va_W := [(nw, .inr (3, [.int 2, .int 0, .ref keys, .ref moms, .ref lens, .ref prts, .ref luds, .ref hnds, .ref lats, .ref knds, .ref rch, .ref spd, .int 0, .int 0, .int 0, .ref unN, .ref unH, .ref ptn])), (knds, .inl (cI, 4, .inl (fun _ => 0))), (rch, .inl (cI, 4, .inl (fun _ => 9)))]
set_option maxHeartbeats 4000000 in
set_option maxRecDepth 100000 in
theorem c_reaches (l : Launch) (D : va_G) (cI cZ cP : ClassId) (sa : Nat → Nat) (nw : Nat) (keys : Nat) (moms : Nat) (lens : Nat) (prts : Nat) (luds : Nat) (hnds : Nat) (lats : Nat) (knds : Nat) (rch : Nat) (spd : Nat) (unN : Nat) (unH : Nat) (ptn : Nat) (p0 : Int32) (h0 : 0 ≤ p0 ∧ p0 ≤ 3) (sz : Nat) : Met l yX3_reaches (qW yX3_reaches cX3_reaches 2 (some .int)) ({ frames := 1, cells := 0, slots := 0, locals := 21 } : Room) (qP D (TY cI cZ cP) sa [.ref nw, .int p0] (w_reaches cI cZ cP nw keys moms lens prts luds hnds lats knds rch spd unN unH ptn p0) sz) (qQi D (w_reaches cI cZ cP nw keys moms lens prts luds hnds lats knds rch spd unN unH ptn p0) sz (fun (r : Int32) (_ : Unit) => r = 9) (fun _ => [])) 0 0 (va_A (w_reaches cI cZ cP nw keys moms lens prts luds hnds lats knds rch spd unN unH ptn p0) sz) := by
  refine q_enter (by decide) (Nat.le_of_ble_eq_true rfl) ?_
  intro p e s m below meth c ls hX hr hlk hnm hE hK hP hD hS hA hl
  obtain ⟨hx, hb, hml, hown, ht⟩ := id hX
  have hl : lv_has ls 2 [(0, .ref nw), (1, .int p0)] := hl
  refine lv_aload_n hx hb dX3_reaches_0 rfl (lv_at hl 0 rfl) ?_
  refine lv_iload_n hx hb dX3_reaches_1 rfl (lv_at hl 1 rfl) ?_
  refine q_Vi (wr := [(rch, .inl (cI, 4, .inl (fun _ => 9)))]) [0, 1] [2] hX hE hK hP hD hS hA hl.1 lk_X3_83 (c_isStiff l D cI cZ cP sa nw keys moms lens prts luds hnds lats knds rch spd unN unH ptn p0 h0 _) rfl rfl rfl rfl (by decide) 0 3 rfl rfl rfl rfl (Nat.le_of_ble_eq_true rfl) rfl rfl ⟨Nat.le_of_ble_eq_true rfl, Nat.le_of_ble_eq_true rfl⟩ ⟨Nat.le_of_ble_eq_true rfl, Nat.le_of_ble_eq_true rfl⟩ dX3_reaches_2 (fun x_1 _ H locs h_1 hP hD hS => ?_)
  have hP : va_P D vwCl [(rch, .inl (cI, 4, .inl (fun _ => 9))), (nw, .inr (3, [.int 2, .int 0, .ref keys, .ref moms, .ref lens, .ref prts, .ref luds, .ref hnds, .ref lats, .ref knds, .ref rch, .ref spd, .int 0, .int 0, .int 0, .ref unN, .ref unH, .ref ptn])), (knds, .inl (cI, 4, .inl (fun _ => 0)))] H := hP
  have hD : va_D (va_A (w_reaches cI cZ cP nw keys moms lens prts luds hnds lats knds rch spd unN unH ptn p0) sz) [(rch, .inl (cI, 4, .inl (fun _ => 9))), (nw, .inr (3, [.int 2, .int 0, .ref keys, .ref moms, .ref lens, .ref prts, .ref luds, .ref hnds, .ref lats, .ref knds, .ref rch, .ref spd, .int 0, .int 0, .int 0, .ref unN, .ref unH, .ref ptn])), (knds, .inl (cI, 4, .inl (fun _ => 0)))] := hD
  subst h_1
  refine lv_if_eq (tgt := 23) hx hb dX3_reaches_5 (by decide) (fun _ => ?_) (fun c_2 => absurd (by decide) c_2)
  refine lv_aload_n hx hb dX3_reaches_23 rfl (lv_at hl 0 rfl) ?_
  refine va_get (D := D) (ci := 3) (v := .ref rch) (C := RX3) (T := TX3) (N := 18) hx hb ht inX3 hown hK hP 1 rfl rfl 10 (Nat.le_of_ble_eq_true rfl) (ht _ kw_153) (fun _ h9 => h9) rfl dX3_reaches_24 ?_
  refine lv_iload_n hx hb dX3_reaches_27 rfl (lv_at hl 1 rfl) ?_
  refine va_iald hx hb hK hP 0 0 rfl rfl (vin_le h0 (by decide)) dX3_reaches_28 ?_
  refine q_i (z := 9) rfl ?_
  exact q_iret hX hr hlk () rfl (hP.sub [] rfl) (hD.sub [] (by decide) rfl) hS dX3_reaches_29
abbrev w_moves (cI cZ cP : ClassId) (nw : Nat) (keys : Nat) (moms : Nat) (lens : Nat) (prts : Nat) (luds : Nat) (hnds : Nat) (lats : Nat) (knds : Nat) (rch : Nat) (spd : Nat) (unN : Nat) (unH : Nat) (ptn : Nat) (p0 : Int32) : va_W := [(nw, .inr (3, [.int 2, .int 0, .ref keys, .ref moms, .ref lens, .ref prts, .ref luds, .ref hnds, .ref lats, .ref knds, .ref rch, .ref spd, .int 0, .int 0, .int 0, .ref unN, .ref unH, .ref ptn])), (knds, .inl (cI, 4, .inl (fun _ => 0))), (spd, .inl (cI, 4, .inl (fun _ => 4)))]
set_option maxHeartbeats 4000000 in
set_option maxRecDepth 100000 in
theorem c_moves (l : Launch) (D : va_G) (cI cZ cP : ClassId) (sa : Nat → Nat) (nw : Nat) (keys : Nat) (moms : Nat) (lens : Nat) (prts : Nat) (luds : Nat) (hnds : Nat) (lats : Nat) (knds : Nat) (rch : Nat) (spd : Nat) (unN : Nat) (unH : Nat) (ptn : Nat) (p0 : Int32) (h0 : 0 ≤ p0 ∧ p0 ≤ 3) (sz : Nat) : Met l yX3_moves (qW yX3_moves cX3_moves 2 (some .int)) ({ frames := 1, cells := 0, slots := 0, locals := 21 } : Room) (qP D (TY cI cZ cP) sa [.ref nw, .int p0] (w_moves cI cZ cP nw keys moms lens prts luds hnds lats knds rch spd unN unH ptn p0) sz) (qQi D (w_moves cI cZ cP nw keys moms lens prts luds hnds lats knds rch spd unN unH ptn p0) sz (fun (r : Int32) (_ : Unit) => r = 4) (fun _ => [])) 0 0 (va_A (w_moves cI cZ cP nw keys moms lens prts luds hnds lats knds rch spd unN unH ptn p0) sz) := by
  refine q_enter (by decide) (Nat.le_of_ble_eq_true rfl) ?_
  intro p e s m below meth c ls hX hr hlk hnm hE hK hP hD hS hA hl
  obtain ⟨hx, hb, hml, hown, ht⟩ := id hX
  have hl : lv_has ls 2 [(0, .ref nw), (1, .int p0)] := hl
  refine lv_aload_n hx hb dX3_moves_0 rfl (lv_at hl 0 rfl) ?_
  refine lv_iload_n hx hb dX3_moves_1 rfl (lv_at hl 1 rfl) ?_
  refine q_Vi (wr := [(spd, .inl (cI, 4, .inl (fun _ => 4)))]) [0, 1] [2] hX hE hK hP hD hS hA hl.1 lk_X3_92 (c_isQuick l D cI cZ cP sa nw keys moms lens prts luds hnds lats knds rch spd unN unH ptn p0 h0 _) rfl rfl rfl rfl (by decide) 0 3 rfl rfl rfl rfl (Nat.le_of_ble_eq_true rfl) rfl rfl ⟨Nat.le_of_ble_eq_true rfl, Nat.le_of_ble_eq_true rfl⟩ ⟨Nat.le_of_ble_eq_true rfl, Nat.le_of_ble_eq_true rfl⟩ dX3_moves_2 (fun x_1 _ H locs h_1 hP hD hS => ?_)
  have hP : va_P D vwCl [(spd, .inl (cI, 4, .inl (fun _ => 4))), (nw, .inr (3, [.int 2, .int 0, .ref keys, .ref moms, .ref lens, .ref prts, .ref luds, .ref hnds, .ref lats, .ref knds, .ref rch, .ref spd, .int 0, .int 0, .int 0, .ref unN, .ref unH, .ref ptn])), (knds, .inl (cI, 4, .inl (fun _ => 0)))] H := hP
  have hD : va_D (va_A (w_moves cI cZ cP nw keys moms lens prts luds hnds lats knds rch spd unN unH ptn p0) sz) [(spd, .inl (cI, 4, .inl (fun _ => 4))), (nw, .inr (3, [.int 2, .int 0, .ref keys, .ref moms, .ref lens, .ref prts, .ref luds, .ref hnds, .ref lats, .ref knds, .ref rch, .ref spd, .int 0, .int 0, .int 0, .ref unN, .ref unH, .ref ptn])), (knds, .inl (cI, 4, .inl (fun _ => 0)))] := hD
  subst h_1
  refine lv_if_eq (tgt := 17) hx hb dX3_moves_5 (by decide) (fun _ => ?_) (fun c_2 => absurd (by decide) c_2)
  refine lv_aload_n hx hb dX3_moves_17 rfl (lv_at hl 0 rfl) ?_
  refine lv_iload_n hx hb dX3_moves_18 rfl (lv_at hl 1 rfl) ?_
  refine q_Vi (wr := [(spd, .inl (cI, 4, .inl (fun _ => 4)))]) [1, 2] [0] hX hE hK hP hD hS hA hl.1 lk_X3_83 (c_isStiff l D cI cZ cP sa nw keys moms lens prts luds hnds lats knds rch spd unN unH ptn p0 h0 _) rfl rfl rfl rfl (by decide) 0 3 rfl rfl rfl rfl (Nat.le_of_ble_eq_true rfl) rfl rfl ⟨Nat.le_of_ble_eq_true rfl, Nat.le_of_ble_eq_true rfl⟩ ⟨Nat.le_of_ble_eq_true rfl, Nat.le_of_ble_eq_true rfl⟩ dX3_moves_19 (fun x_3 _ H locs h_3 hP hD hS => ?_)
  have hP : va_P D vwCl [(spd, .inl (cI, 4, .inl (fun _ => 4))), (nw, .inr (3, [.int 2, .int 0, .ref keys, .ref moms, .ref lens, .ref prts, .ref luds, .ref hnds, .ref lats, .ref knds, .ref rch, .ref spd, .int 0, .int 0, .int 0, .ref unN, .ref unH, .ref ptn])), (knds, .inl (cI, 4, .inl (fun _ => 0)))] H := hP
  have hD : va_D (va_A (w_moves cI cZ cP nw keys moms lens prts luds hnds lats knds rch spd unN unH ptn p0) sz) [(spd, .inl (cI, 4, .inl (fun _ => 4))), (nw, .inr (3, [.int 2, .int 0, .ref keys, .ref moms, .ref lens, .ref prts, .ref luds, .ref hnds, .ref lats, .ref knds, .ref rch, .ref spd, .int 0, .int 0, .int 0, .ref unN, .ref unH, .ref ptn])), (knds, .inl (cI, 4, .inl (fun _ => 0)))] := hD
  subst h_3
  refine lv_if_eq (tgt := 40) hx hb dX3_moves_22 (by decide) (fun _ => ?_) (fun c_4 => absurd (by decide) c_4)
  refine lv_aload_n hx hb dX3_moves_40 rfl (lv_at hl 0 rfl) ?_
  refine va_get (D := D) (ci := 3) (v := .ref spd) (C := RX3) (T := TX3) (N := 18) hx hb ht inX3 hown hK hP 1 rfl rfl 11 (Nat.le_of_ble_eq_true rfl) (ht _ kw_154) (fun _ h9 => h9) rfl dX3_moves_41 ?_
  refine lv_iload_n hx hb dX3_moves_44 rfl (lv_at hl 1 rfl) ?_
  refine va_iald hx hb hK hP 0 0 rfl rfl (vin_le h0 (by decide)) dX3_moves_45 ?_
  refine q_i (z := 4) rfl ?_
  exact q_iret hX hr hlk () rfl (hP.sub [] rfl) (hD.sub [] (by decide) rfl) hS dX3_moves_46
abbrev w_keepsOff (cI cZ cP : ClassId) (nw : Nat) (keys : Nat) (moms : Nat) (lens : Nat) (prts : Nat) (luds : Nat) (hnds : Nat) (lats : Nat) (knds : Nat) (rch : Nat) (spd : Nat) (unN : Nat) (unH : Nat) (ptn : Nat) (p0 : Int32) : va_W := [(nw, .inr (3, [.int 2, .int 0, .ref keys, .ref moms, .ref lens, .ref prts, .ref luds, .ref hnds, .ref lats, .ref knds, .ref rch, .ref spd, .int 0, .int 0, .int 0, .ref unN, .ref unH, .ref ptn])), (knds, .inl (cI, 4, .inl (fun _ => 0)))]
set_option maxHeartbeats 4000000 in
set_option maxRecDepth 100000 in
theorem c_keepsOff (l : Launch) (D : va_G) (cI cZ cP : ClassId) (sa : Nat → Nat) (nw : Nat) (keys : Nat) (moms : Nat) (lens : Nat) (prts : Nat) (luds : Nat) (hnds : Nat) (lats : Nat) (knds : Nat) (rch : Nat) (spd : Nat) (unN : Nat) (unH : Nat) (ptn : Nat) (p0 : Int32) (h0 : 0 ≤ p0 ∧ p0 ≤ 3) (sz : Nat) : Met l yX3_keepsOff (qW yX3_keepsOff cX3_keepsOff 2 (some .int)) ({ frames := 0, cells := 0, slots := 0, locals := 0 } : Room) (qP D (TY cI cZ cP) sa [.ref nw, .int p0] (w_keepsOff cI cZ cP nw keys moms lens prts luds hnds lats knds rch spd unN unH ptn p0) sz) (qQi D (w_keepsOff cI cZ cP nw keys moms lens prts luds hnds lats knds rch spd unN unH ptn p0) sz (fun (r : Int32) (_ : Unit) => r = 2) (fun _ => [])) 0 0 (va_A (w_keepsOff cI cZ cP nw keys moms lens prts luds hnds lats knds rch spd unN unH ptn p0) sz) := by
  refine q_enter (by decide) (Nat.le_of_ble_eq_true rfl) ?_
  intro p e s m below meth c ls hX hr hlk hnm hE hK hP hD hS hA hl
  obtain ⟨hx, hb, hml, hown, ht⟩ := id hX
  have hl : lv_has ls 2 [(0, .ref nw), (1, .int p0)] := hl
  refine lv_aload_n hx hb dX3_keepsOff_0 rfl (lv_at hl 0 rfl) ?_
  refine va_get (D := D) (ci := 3) (v := .ref knds) (C := RX3) (T := TX3) (N := 18) hx hb ht inX3 hown hK hP 0 rfl rfl 9 (Nat.le_of_ble_eq_true rfl) (ht _ kw_151) (fun _ h9 => h9) rfl dX3_keepsOff_1 ?_
  refine lv_iload_n hx hb dX3_keepsOff_4 rfl (lv_at hl 1 rfl) ?_
  refine va_iald hx hb hK hP 1 0 rfl rfl (vin_le h0 (by decide)) dX3_keepsOff_5 ?_
  refine q_i (z := 0) rfl ?_
  refine lv_tableOut (tgt := 57) hx hb dX3_keepsOff_6 (by decide) (by decide) ?_
  refine lv_aload_n hx hb dX3_keepsOff_57 rfl (lv_at hl 0 rfl) ?_
  refine va_get (D := D) (ci := 3) (v := .int 2) (C := RX3) (T := TX3) (N := 18) hx hb ht inX3 hown hK hP 0 rfl rfl 0 (Nat.le_of_ble_eq_true rfl) (ht _ kw_120) (fun _ h9 => h9) rfl dX3_keepsOff_58 ?_
  exact q_iret hX hr hlk () rfl (hP.sub [] rfl) (hD.sub [] (by decide) rfl) hS dX3_keepsOff_61
abbrev w_notesOf (cI cZ cP : ClassId) (nw : Nat) (keys : Nat) (moms : Nat) (lens : Nat) (prts : Nat) (luds : Nat) (hnds : Nat) (lats : Nat) (knds : Nat) (rch : Nat) (spd : Nat) (unN : Nat) (unH : Nat) (ptn : Nat) (p0 : Int32) : va_W := [(nw, .inr (3, [.int 2, .int 0, .ref keys, .ref moms, .ref lens, .ref prts, .ref luds, .ref hnds, .ref lats, .ref knds, .ref rch, .ref spd, .int 0, .int 0, .int 0, .ref unN, .ref unH, .ref ptn]))]
set_option maxHeartbeats 4000000 in
set_option maxRecDepth 100000 in
theorem c_notesOf (l : Launch) (D : va_G) (cI cZ cP : ClassId) (sa : Nat → Nat) (nw : Nat) (keys : Nat) (moms : Nat) (lens : Nat) (prts : Nat) (luds : Nat) (hnds : Nat) (lats : Nat) (knds : Nat) (rch : Nat) (spd : Nat) (unN : Nat) (unH : Nat) (ptn : Nat) (p0 : Int32) (sz : Nat) : Met l yX3_notesOf (qW yX3_notesOf cX3_notesOf 4 (some .int)) ({ frames := 0, cells := 0, slots := 0, locals := 0 } : Room) (qP D (TY cI cZ cP) sa [.ref nw, .int p0] (w_notesOf cI cZ cP nw keys moms lens prts luds hnds lats knds rch spd unN unH ptn p0) sz) (qQi D (w_notesOf cI cZ cP nw keys moms lens prts luds hnds lats knds rch spd unN unH ptn p0) sz (fun (r : Int32) (_ : Unit) => r = 0) (fun _ => [(nw, .inr (3, [.int 2, .int 0, .ref keys, .ref moms, .ref lens, .ref prts, .ref luds, .ref hnds, .ref lats, .ref knds, .ref rch, .ref spd, .int 0, .int 0, .int 0, .ref unN, .ref unH, .ref ptn]))])) 0 0 (va_A (w_notesOf cI cZ cP nw keys moms lens prts luds hnds lats knds rch spd unN unH ptn p0) sz) := by
  refine q_enter (by decide) (Nat.le_of_ble_eq_true rfl) ?_
  intro p e s m below meth c ls hX hr hlk hnm hE hK hP hD hS hA hl
  obtain ⟨hx, hb, hml, hown, ht⟩ := id hX
  have hl : lv_has ls 4 [(0, .ref nw), (1, .int p0)] := hl
  refine lv_iconst (v := 0) hx hb dX3_notesOf_0 (by decide) ?_
  refine lv_istore_n (lv' := [(2, .int 0), (0, .ref nw), (1, .int p0)]) hx hb dX3_notesOf_1 rfl hl (by decide) rfl (fun ls hl => ?_)
  refine lv_iconst (v := 0) hx hb dX3_notesOf_2 (by decide) ?_
  refine lv_istore_n (lv' := [(3, .int 0), (2, .int 0), (0, .ref nw), (1, .int p0)]) hx hb dX3_notesOf_3 rfl hl (by decide) rfl (fun ls hl => ?_)
  refine lv_iload_n hx hb dX3_notesOf_4 rfl (lv_at hl 0 rfl) ?_
  refine lv_aload_n hx hb dX3_notesOf_5 rfl (lv_at hl 2 rfl) ?_
  refine va_get (D := D) (ci := 3) (v := .int 0) (C := RX3) (T := TX3) (N := 18) hx hb ht inX3 hown hK hP 0 rfl rfl 1 (Nat.le_of_ble_eq_true rfl) (ht _ kw_122) (fun _ h9 => h9) rfl dX3_notesOf_6 ?_
  refine lv_icmp_ge (tgt := 34) hx hb dX3_notesOf_9 (by decide) (fun _ => ?_) (fun c_1 => absurd (by decide) c_1)
  refine lv_iload_n hx hb dX3_notesOf_34 rfl (lv_at hl 1 rfl) ?_
  exact q_iret hX hr hlk () rfl (hP.sub [0] rfl) (hD.sub [0] (by decide) rfl) hS dX3_notesOf_35
abbrev w_about (cI cZ cP : ClassId) (x0 : Nat) (nw : Nat) (sp : Nat) (im : Nat) (sc : Nat) (hg : Nat) (fg : Nat) (pg : Nat) (pr : Nat) (keys : Nat) (moms : Nat) (lens : Nat) (prts : Nat) (luds : Nat) (hnds : Nat) (lats : Nat) (knds : Nat) (rch : Nat) (spd : Nat) (unN : Nat) (unH : Nat) (ptn : Nat) (p0 : Int32) (p1 : Int32) : va_W := [(x0, .inr (6, [.ref nw, .ref sp, .ref im, .ref sc, .ref hg, .ref fg, .ref pg, .ref pr, .int 0, .long 0, .long 1, .int 0, .int 0, .int 0])), (nw, .inr (3, [.int 2, .int 0, .ref keys, .ref moms, .ref lens, .ref prts, .ref luds, .ref hnds, .ref lats, .ref knds, .ref rch, .ref spd, .int 0, .int 0, .int 0, .ref unN, .ref unH, .ref ptn])), (knds, .inl (cI, 4, .inl (fun _ => 0))), (rch, .inl (cI, 4, .inl (fun _ => 9))), (spd, .inl (cI, 4, .inl (fun _ => 4)))]
set_option maxHeartbeats 4000000 in
set_option maxRecDepth 100000 in
theorem c_about (l : Launch) (D : va_G) (cI cZ cP : ClassId) (sa : Nat → Nat) (x0 : Nat) (nw : Nat) (sp : Nat) (im : Nat) (sc : Nat) (hg : Nat) (fg : Nat) (pg : Nat) (pr : Nat) (keys : Nat) (moms : Nat) (lens : Nat) (prts : Nat) (luds : Nat) (hnds : Nat) (lats : Nat) (knds : Nat) (rch : Nat) (spd : Nat) (unN : Nat) (unH : Nat) (ptn : Nat) (p0 : Int32) (p1 : Int32) (sz : Nat) : Met l yX6_about (qW yX6_about cX6_about 3 (some .int)) ({ frames := 2, cells := 0, slots := 0, locals := 42 } : Room) (qP D (TY cI cZ cP) sa [.ref x0, .int p0, .int p1] (w_about cI cZ cP x0 nw sp im sc hg fg pg pr keys moms lens prts luds hnds lats knds rch spd unN unH ptn p0 p1) sz) (qQi D (w_about cI cZ cP x0 nw sp im sc hg fg pg pr keys moms lens prts luds hnds lats knds rch spd unN unH ptn p0 p1) sz (fun (r : Int32) (_ : Unit) => r = sp_about p0 p1) (fun _ => [])) 0 0 (va_A (w_about cI cZ cP x0 nw sp im sc hg fg pg pr keys moms lens prts luds hnds lats knds rch spd unN unH ptn p0 p1) sz) := by
  refine q_enter (by decide) (Nat.le_of_ble_eq_true rfl) ?_
  intro p e s m below meth c ls hX hr hlk hnm hE hK hP hD hS hA hl
  obtain ⟨hx, hb, hml, hown, ht⟩ := id hX
  have hl : lv_has ls 3 [(0, .ref x0), (1, .int p0), (2, .int p1)] := hl
  refine lv_iload_n hx hb dX6_about_0 rfl (lv_at hl 1 rfl) ?_
  refine lv_iconst (v := 0) hx hb dX6_about_1 (by decide) ?_
  refine lv_iconst (v := 3) hx hb dX6_about_2 (by decide) ?_
  refine q_Si (wr := [(x0, .inr (6, [.ref nw, .ref sp, .ref im, .ref sc, .ref hg, .ref fg, .ref pg, .ref pr, .int 0, .long 0, .long 1, .int 0, .int 0, .int 0])), (nw, .inr (3, [.int 2, .int 0, .ref keys, .ref moms, .ref lens, .ref prts, .ref luds, .ref hnds, .ref lats, .ref knds, .ref rch, .ref spd, .int 0, .int 0, .int 0, .ref unN, .ref unH, .ref ptn])), (knds, .inl (cI, 4, .inl (fun _ => 0))), (rch, .inl (cI, 4, .inl (fun _ => 9))), (spd, .inl (cI, 4, .inl (fun _ => 4)))]) [] [0, 1, 2, 3, 4] hX hE hK hP hD hS hA hl.1 lk_X6_62 (c_within l D cI cZ cP sa p0 0 3 _) rfl rfl rfl rfl (by decide) rfl rfl (Nat.le_of_ble_eq_true rfl) rfl rfl ⟨Nat.le_of_ble_eq_true rfl, Nat.le_of_ble_eq_true rfl⟩ ⟨Nat.le_of_ble_eq_true rfl, Nat.le_of_ble_eq_true rfl⟩ dX6_about_3 (fun x_1 _ H locs h_1 hP hD hS => ?_)
  have hP : va_P D vwCl [(x0, .inr (6, [.ref nw, .ref sp, .ref im, .ref sc, .ref hg, .ref fg, .ref pg, .ref pr, .int 0, .long 0, .long 1, .int 0, .int 0, .int 0])), (nw, .inr (3, [.int 2, .int 0, .ref keys, .ref moms, .ref lens, .ref prts, .ref luds, .ref hnds, .ref lats, .ref knds, .ref rch, .ref spd, .int 0, .int 0, .int 0, .ref unN, .ref unH, .ref ptn])), (knds, .inl (cI, 4, .inl (fun _ => 0))), (rch, .inl (cI, 4, .inl (fun _ => 9))), (spd, .inl (cI, 4, .inl (fun _ => 4)))] H := hP
  have hD : va_D (va_A (w_about cI cZ cP x0 nw sp im sc hg fg pg pr keys moms lens prts luds hnds lats knds rch spd unN unH ptn p0 p1) sz) [(x0, .inr (6, [.ref nw, .ref sp, .ref im, .ref sc, .ref hg, .ref fg, .ref pg, .ref pr, .int 0, .long 0, .long 1, .int 0, .int 0, .int 0])), (nw, .inr (3, [.int 2, .int 0, .ref keys, .ref moms, .ref lens, .ref prts, .ref luds, .ref hnds, .ref lats, .ref knds, .ref rch, .ref spd, .int 0, .int 0, .int 0, .ref unN, .ref unH, .ref ptn])), (knds, .inl (cI, 4, .inl (fun _ => 0))), (rch, .inl (cI, 4, .inl (fun _ => 9))), (spd, .inl (cI, 4, .inl (fun _ => 4)))] := hD
  rcases Classical.em (0 ≤ p0 ∧ p0 ≤ 3) with c_1 | c_1
  · rw [if_pos c_1] at h_1; subst h_1
    refine lv_if_ne (tgt := 16) hx hb dX6_about_6 (by decide) (fun _ => ?_) (fun c_2 => absurd c_2 (by decide))
    refine lv_iload_n hx hb dX6_about_16 rfl (lv_at hl 2 rfl) ?_
    rcases Classical.em (p1 = 0) with c_3 | c_3
    · refine q_i (z := 0) c_3 ?_
      refine lv_tableIn (off := 35) (tgt := 52) hx hb dX6_about_17 (by decide) (by decide) rfl (by decide) ?_
      refine lv_aload_n hx hb dX6_about_52 rfl (lv_at hl 0 rfl) ?_
      refine va_get (D := D) (ci := 6) (v := .ref nw) (C := RX6) (T := TX6) (N := 14) hx hb ht inX6 hown hK hP 0 rfl rfl 0 (Nat.le_of_ble_eq_true rfl) (ht _ kw_337) (fun _ h9 => h9) rfl dX6_about_53 ?_
      refine va_get (D := D) (ci := 3) (v := .ref knds) (C := RX3) (T := TX3) (N := 18) hx hb ht inX3 hown hK hP 1 rfl rfl 9 (Nat.le_of_ble_eq_true rfl) (ht _ kw_152) (fun _ h9 => h9) rfl dX6_about_56 ?_
      refine lv_iload_n hx hb dX6_about_59 rfl (lv_at hl 1 rfl) ?_
      refine va_iald hx hb hK hP 2 0 rfl rfl (vin_le c_1 (by decide)) dX6_about_60 ?_
      refine q_i (z := 0) rfl ?_
      exact q_iret hX hr hlk () (by simp [sp_about, c_1, c_3]) (hP.sub [] rfl) (hD.sub [] (by decide) rfl) hS dX6_about_61
    rcases Classical.em (p1 = 1) with c_4 | c_4
    · refine q_i (z := 1) c_4 ?_
      refine lv_tableIn (off := 45) (tgt := 62) hx hb dX6_about_17 (by decide) (by decide) rfl (by decide) ?_
      refine lv_aload_n hx hb dX6_about_62 rfl (lv_at hl 0 rfl) ?_
      refine va_get (D := D) (ci := 6) (v := .ref nw) (C := RX6) (T := TX6) (N := 14) hx hb ht inX6 hown hK hP 0 rfl rfl 0 (Nat.le_of_ble_eq_true rfl) (ht _ kw_337) (fun _ h9 => h9) rfl dX6_about_63 ?_
      refine lv_iload_n hx hb dX6_about_66 rfl (lv_at hl 1 rfl) ?_
      refine q_Vi (wr := [(x0, .inr (6, [.ref nw, .ref sp, .ref im, .ref sc, .ref hg, .ref fg, .ref pg, .ref pr, .int 0, .long 0, .long 1, .int 0, .int 0, .int 0])), (spd, .inl (cI, 4, .inl (fun _ => 4)))]) [1, 2, 3] [0, 4] hX hE hK hP hD hS hA hl.1 lk_X6_152 (c_reaches l D cI cZ cP sa nw keys moms lens prts luds hnds lats knds rch spd unN unH ptn p0 c_1 _) rfl rfl rfl rfl (by decide) 0 3 rfl rfl rfl rfl (Nat.le_of_ble_eq_true rfl) rfl rfl ⟨Nat.le_of_ble_eq_true rfl, Nat.le_of_ble_eq_true rfl⟩ ⟨Nat.le_of_ble_eq_true rfl, Nat.le_of_ble_eq_true rfl⟩ dX6_about_67 (fun x_5 _ H locs h_5 hP hD hS => ?_)
      have hP : va_P D vwCl [(x0, .inr (6, [.ref nw, .ref sp, .ref im, .ref sc, .ref hg, .ref fg, .ref pg, .ref pr, .int 0, .long 0, .long 1, .int 0, .int 0, .int 0])), (spd, .inl (cI, 4, .inl (fun _ => 4)))] H := hP
      have hD : va_D (va_A (w_about cI cZ cP x0 nw sp im sc hg fg pg pr keys moms lens prts luds hnds lats knds rch spd unN unH ptn p0 p1) sz) [(x0, .inr (6, [.ref nw, .ref sp, .ref im, .ref sc, .ref hg, .ref fg, .ref pg, .ref pr, .int 0, .long 0, .long 1, .int 0, .int 0, .int 0])), (spd, .inl (cI, 4, .inl (fun _ => 4)))] := hD
      subst h_5
      exact q_iret hX hr hlk () (by simp [sp_about, c_1, c_3, c_4]) (hP.sub [] rfl) (hD.sub [] (by decide) rfl) hS dX6_about_70
    rcases Classical.em (p1 = 2) with c_6 | c_6
    · refine q_i (z := 2) c_6 ?_
      refine lv_tableIn (off := 54) (tgt := 71) hx hb dX6_about_17 (by decide) (by decide) rfl (by decide) ?_
      refine lv_aload_n hx hb dX6_about_71 rfl (lv_at hl 0 rfl) ?_
      refine va_get (D := D) (ci := 6) (v := .ref nw) (C := RX6) (T := TX6) (N := 14) hx hb ht inX6 hown hK hP 0 rfl rfl 0 (Nat.le_of_ble_eq_true rfl) (ht _ kw_337) (fun _ h9 => h9) rfl dX6_about_72 ?_
      refine lv_iload_n hx hb dX6_about_75 rfl (lv_at hl 1 rfl) ?_
      refine q_Vi (wr := [(x0, .inr (6, [.ref nw, .ref sp, .ref im, .ref sc, .ref hg, .ref fg, .ref pg, .ref pr, .int 0, .long 0, .long 1, .int 0, .int 0, .int 0])), (rch, .inl (cI, 4, .inl (fun _ => 9)))]) [1, 2, 4] [0, 3] hX hE hK hP hD hS hA hl.1 lk_X6_155 (c_moves l D cI cZ cP sa nw keys moms lens prts luds hnds lats knds rch spd unN unH ptn p0 c_1 _) rfl rfl rfl rfl (by decide) 0 3 rfl rfl rfl rfl (Nat.le_of_ble_eq_true rfl) rfl rfl ⟨Nat.le_of_ble_eq_true rfl, Nat.le_of_ble_eq_true rfl⟩ ⟨Nat.le_of_ble_eq_true rfl, Nat.le_of_ble_eq_true rfl⟩ dX6_about_76 (fun x_7 _ H locs h_7 hP hD hS => ?_)
      have hP : va_P D vwCl [(x0, .inr (6, [.ref nw, .ref sp, .ref im, .ref sc, .ref hg, .ref fg, .ref pg, .ref pr, .int 0, .long 0, .long 1, .int 0, .int 0, .int 0])), (rch, .inl (cI, 4, .inl (fun _ => 9)))] H := hP
      have hD : va_D (va_A (w_about cI cZ cP x0 nw sp im sc hg fg pg pr keys moms lens prts luds hnds lats knds rch spd unN unH ptn p0 p1) sz) [(x0, .inr (6, [.ref nw, .ref sp, .ref im, .ref sc, .ref hg, .ref fg, .ref pg, .ref pr, .int 0, .long 0, .long 1, .int 0, .int 0, .int 0])), (rch, .inl (cI, 4, .inl (fun _ => 9)))] := hD
      subst h_7
      exact q_iret hX hr hlk () (by simp [sp_about, c_1, c_3, c_4, c_6]) (hP.sub [] rfl) (hD.sub [] (by decide) rfl) hS dX6_about_79
    rcases Classical.em (p1 = 3) with c_8 | c_8
    · refine q_i (z := 3) c_8 ?_
      refine lv_tableIn (off := 63) (tgt := 80) hx hb dX6_about_17 (by decide) (by decide) rfl (by decide) ?_
      refine lv_aload_n hx hb dX6_about_80 rfl (lv_at hl 0 rfl) ?_
      refine va_get (D := D) (ci := 6) (v := .ref nw) (C := RX6) (T := TX6) (N := 14) hx hb ht inX6 hown hK hP 0 rfl rfl 0 (Nat.le_of_ble_eq_true rfl) (ht _ kw_337) (fun _ h9 => h9) rfl dX6_about_81 ?_
      refine lv_iload_n hx hb dX6_about_84 rfl (lv_at hl 1 rfl) ?_
      refine q_Vi (wr := [(x0, .inr (6, [.ref nw, .ref sp, .ref im, .ref sc, .ref hg, .ref fg, .ref pg, .ref pr, .int 0, .long 0, .long 1, .int 0, .int 0, .int 0])), (rch, .inl (cI, 4, .inl (fun _ => 9))), (spd, .inl (cI, 4, .inl (fun _ => 4)))]) [1, 2] [0, 3, 4] hX hE hK hP hD hS hA hl.1 lk_X6_158 (c_keepsOff l D cI cZ cP sa nw keys moms lens prts luds hnds lats knds rch spd unN unH ptn p0 c_1 _) rfl rfl rfl rfl (by decide) 0 3 rfl rfl rfl rfl (Nat.le_of_ble_eq_true rfl) rfl rfl ⟨Nat.le_of_ble_eq_true rfl, Nat.le_of_ble_eq_true rfl⟩ ⟨Nat.le_of_ble_eq_true rfl, Nat.le_of_ble_eq_true rfl⟩ dX6_about_85 (fun x_9 _ H locs h_9 hP hD hS => ?_)
      have hP : va_P D vwCl [(x0, .inr (6, [.ref nw, .ref sp, .ref im, .ref sc, .ref hg, .ref fg, .ref pg, .ref pr, .int 0, .long 0, .long 1, .int 0, .int 0, .int 0])), (rch, .inl (cI, 4, .inl (fun _ => 9))), (spd, .inl (cI, 4, .inl (fun _ => 4)))] H := hP
      have hD : va_D (va_A (w_about cI cZ cP x0 nw sp im sc hg fg pg pr keys moms lens prts luds hnds lats knds rch spd unN unH ptn p0 p1) sz) [(x0, .inr (6, [.ref nw, .ref sp, .ref im, .ref sc, .ref hg, .ref fg, .ref pg, .ref pr, .int 0, .long 0, .long 1, .int 0, .int 0, .int 0])), (rch, .inl (cI, 4, .inl (fun _ => 9))), (spd, .inl (cI, 4, .inl (fun _ => 4)))] := hD
      subst h_9
      exact q_iret hX hr hlk () (by simp [sp_about, c_1, c_3, c_4, c_6, c_8]) (hP.sub [] rfl) (hD.sub [] (by decide) rfl) hS dX6_about_88
    rcases Classical.em (p1 = 4) with c_10 | c_10
    · refine q_i (z := 4) c_10 ?_
      refine lv_tableIn (off := 72) (tgt := 89) hx hb dX6_about_17 (by decide) (by decide) rfl (by decide) ?_
      refine lv_aload_n hx hb dX6_about_89 rfl (lv_at hl 0 rfl) ?_
      refine va_get (D := D) (ci := 6) (v := .ref nw) (C := RX6) (T := TX6) (N := 14) hx hb ht inX6 hown hK hP 0 rfl rfl 0 (Nat.le_of_ble_eq_true rfl) (ht _ kw_337) (fun _ h9 => h9) rfl dX6_about_90 ?_
      refine lv_iload_n hx hb dX6_about_93 rfl (lv_at hl 1 rfl) ?_
      refine q_Vi (wr := [(x0, .inr (6, [.ref nw, .ref sp, .ref im, .ref sc, .ref hg, .ref fg, .ref pg, .ref pr, .int 0, .long 0, .long 1, .int 0, .int 0, .int 0])), (knds, .inl (cI, 4, .inl (fun _ => 0))), (rch, .inl (cI, 4, .inl (fun _ => 9))), (spd, .inl (cI, 4, .inl (fun _ => 4)))]) [1] [0, 2, 3, 4] hX hE hK hP hD hS hA hl.1 lk_X6_161 (c_notesOf l D cI cZ cP sa nw keys moms lens prts luds hnds lats knds rch spd unN unH ptn p0 _) rfl rfl rfl rfl (by decide) 0 3 rfl rfl rfl rfl (Nat.le_of_ble_eq_true rfl) rfl rfl ⟨Nat.le_of_ble_eq_true rfl, Nat.le_of_ble_eq_true rfl⟩ ⟨Nat.le_of_ble_eq_true rfl, Nat.le_of_ble_eq_true rfl⟩ dX6_about_94 (fun x_11 _ H locs h_11 hP hD hS => ?_)
      have hP : va_P D vwCl [(x0, .inr (6, [.ref nw, .ref sp, .ref im, .ref sc, .ref hg, .ref fg, .ref pg, .ref pr, .int 0, .long 0, .long 1, .int 0, .int 0, .int 0])), (knds, .inl (cI, 4, .inl (fun _ => 0))), (rch, .inl (cI, 4, .inl (fun _ => 9))), (spd, .inl (cI, 4, .inl (fun _ => 4))), (nw, .inr (3, [.int 2, .int 0, .ref keys, .ref moms, .ref lens, .ref prts, .ref luds, .ref hnds, .ref lats, .ref knds, .ref rch, .ref spd, .int 0, .int 0, .int 0, .ref unN, .ref unH, .ref ptn]))] H := hP
      have hD : va_D (va_A (w_about cI cZ cP x0 nw sp im sc hg fg pg pr keys moms lens prts luds hnds lats knds rch spd unN unH ptn p0 p1) sz) [(x0, .inr (6, [.ref nw, .ref sp, .ref im, .ref sc, .ref hg, .ref fg, .ref pg, .ref pr, .int 0, .long 0, .long 1, .int 0, .int 0, .int 0])), (knds, .inl (cI, 4, .inl (fun _ => 0))), (rch, .inl (cI, 4, .inl (fun _ => 9))), (spd, .inl (cI, 4, .inl (fun _ => 4))), (nw, .inr (3, [.int 2, .int 0, .ref keys, .ref moms, .ref lens, .ref prts, .ref luds, .ref hnds, .ref lats, .ref knds, .ref rch, .ref spd, .int 0, .int 0, .int 0, .ref unN, .ref unH, .ref ptn]))] := hD
      subst h_11
      exact q_iret hX hr hlk () (by simp [sp_about, c_1, c_3, c_4, c_6, c_8, c_10]) (hP.sub [] rfl) (hD.sub [] (by decide) rfl) hS dX6_about_97
    refine lv_tableOut (tgt := 98) hx hb dX6_about_17 (by have q0 := ne_toInt (v := 0) (n := 0) (by decide) c_3; have q1 := ne_toInt (v := 1) (n := 1) (by decide) c_4; have q2 := ne_toInt (v := 2) (n := 2) (by decide) c_6; have q3 := ne_toInt (v := 3) (n := 3) (by decide) c_8; have q4 := ne_toInt (v := 4) (n := 4) (by decide) c_10; omega) (by decide) ?_
    refine lv_aload_n hx hb dX6_about_98 rfl (lv_at hl 0 rfl) ?_
    refine lv_bipush (v := (-2)) hx hb dX6_about_99 (by decide) ?_
    refine q_Vi (wr := [(nw, .inr (3, [.int 2, .int 0, .ref keys, .ref moms, .ref lens, .ref prts, .ref luds, .ref hnds, .ref lats, .ref knds, .ref rch, .ref spd, .int 0, .int 0, .int 0, .ref unN, .ref unH, .ref ptn])), (knds, .inl (cI, 4, .inl (fun _ => 0))), (rch, .inl (cI, 4, .inl (fun _ => 9))), (spd, .inl (cI, 4, .inl (fun _ => 4)))]) [0] [1, 2, 3, 4] hX hE hK hP hD hS hA hl.1 lk_X6_66 (c_refuseBad l D cI cZ cP sa x0 nw sp im sc hg fg pg pr 0 0 1 0 0 0 (-2) _) rfl rfl rfl rfl (by decide) 0 6 rfl rfl rfl rfl (Nat.le_of_ble_eq_true rfl) rfl rfl ⟨Nat.le_of_ble_eq_true rfl, Nat.le_of_ble_eq_true rfl⟩ ⟨Nat.le_of_ble_eq_true rfl, Nat.le_of_ble_eq_true rfl⟩ dX6_about_101 (fun x_12 _ H locs h_12 hP hD hS => ?_)
    have hP : va_P D vwCl [(nw, .inr (3, [.int 2, .int 0, .ref keys, .ref moms, .ref lens, .ref prts, .ref luds, .ref hnds, .ref lats, .ref knds, .ref rch, .ref spd, .int 0, .int 0, .int 0, .ref unN, .ref unH, .ref ptn])), (knds, .inl (cI, 4, .inl (fun _ => 0))), (rch, .inl (cI, 4, .inl (fun _ => 9))), (spd, .inl (cI, 4, .inl (fun _ => 4)))] H := hP
    have hD : va_D (va_A (w_about cI cZ cP x0 nw sp im sc hg fg pg pr keys moms lens prts luds hnds lats knds rch spd unN unH ptn p0 p1) sz) [(nw, .inr (3, [.int 2, .int 0, .ref keys, .ref moms, .ref lens, .ref prts, .ref luds, .ref hnds, .ref lats, .ref knds, .ref rch, .ref spd, .int 0, .int 0, .int 0, .ref unN, .ref unH, .ref ptn])), (knds, .inl (cI, 4, .inl (fun _ => 0))), (rch, .inl (cI, 4, .inl (fun _ => 9))), (spd, .inl (cI, 4, .inl (fun _ => 4)))] := hD
    subst h_12
    exact q_iret hX hr hlk () (by simp [sp_about, c_1, c_3, c_4, c_6, c_8, c_10]) (hP.sub [] rfl) (hD.sub [] (by decide) rfl) hS dX6_about_104
  · rw [if_neg c_1] at h_1; subst h_1
    refine lv_if_ne (tgt := 16) hx hb dX6_about_6 (by decide) (fun c_13 => absurd (by decide) c_13) (fun _ => ?_)
    refine lv_aload_n hx hb dX6_about_9 rfl (lv_at hl 0 rfl) ?_
    refine lv_bipush (v := (-2)) hx hb dX6_about_10 (by decide) ?_
    refine q_Vi (wr := [(nw, .inr (3, [.int 2, .int 0, .ref keys, .ref moms, .ref lens, .ref prts, .ref luds, .ref hnds, .ref lats, .ref knds, .ref rch, .ref spd, .int 0, .int 0, .int 0, .ref unN, .ref unH, .ref ptn])), (knds, .inl (cI, 4, .inl (fun _ => 0))), (rch, .inl (cI, 4, .inl (fun _ => 9))), (spd, .inl (cI, 4, .inl (fun _ => 4)))]) [0] [1, 2, 3, 4] hX hE hK hP hD hS hA hl.1 lk_X6_66 (c_refuseBad l D cI cZ cP sa x0 nw sp im sc hg fg pg pr 0 0 1 0 0 0 (-2) _) rfl rfl rfl rfl (by decide) 0 6 rfl rfl rfl rfl (Nat.le_of_ble_eq_true rfl) rfl rfl ⟨Nat.le_of_ble_eq_true rfl, Nat.le_of_ble_eq_true rfl⟩ ⟨Nat.le_of_ble_eq_true rfl, Nat.le_of_ble_eq_true rfl⟩ dX6_about_12 (fun x_14 _ H locs h_14 hP hD hS => ?_)
    have hP : va_P D vwCl [(nw, .inr (3, [.int 2, .int 0, .ref keys, .ref moms, .ref lens, .ref prts, .ref luds, .ref hnds, .ref lats, .ref knds, .ref rch, .ref spd, .int 0, .int 0, .int 0, .ref unN, .ref unH, .ref ptn])), (knds, .inl (cI, 4, .inl (fun _ => 0))), (rch, .inl (cI, 4, .inl (fun _ => 9))), (spd, .inl (cI, 4, .inl (fun _ => 4)))] H := hP
    have hD : va_D (va_A (w_about cI cZ cP x0 nw sp im sc hg fg pg pr keys moms lens prts luds hnds lats knds rch spd unN unH ptn p0 p1) sz) [(nw, .inr (3, [.int 2, .int 0, .ref keys, .ref moms, .ref lens, .ref prts, .ref luds, .ref hnds, .ref lats, .ref knds, .ref rch, .ref spd, .int 0, .int 0, .int 0, .ref unN, .ref unH, .ref ptn])), (knds, .inl (cI, 4, .inl (fun _ => 0))), (rch, .inl (cI, 4, .inl (fun _ => 9))), (spd, .inl (cI, 4, .inl (fun _ => 4)))] := hD
    subst h_14
    exact q_iret hX hr hlk () (by simp [sp_about, c_1]) (hP.sub [] rfl) (hD.sub [] (by decide) rfl) hS dX6_about_15
abbrev w_clashes (cI cZ cP : ClassId) (x0 : Nat) (nw : Nat) (sp : Nat) (im : Nat) (sc : Nat) (hg : Nat) (fg : Nat) (pg : Nat) (pr : Nat) (keys : Nat) (moms : Nat) (lens : Nat) (prts : Nat) (luds : Nat) (hnds : Nat) (lats : Nat) (knds : Nat) (rch : Nat) (spd : Nat) (unN : Nat) (unH : Nat) (ptn : Nat) (p0 : Int32) (p1 : Int32) : va_W := [(x0, .inr (6, [.ref nw, .ref sp, .ref im, .ref sc, .ref hg, .ref fg, .ref pg, .ref pr, .int 0, .long 0, .long 1, .int 0, .int 0, .int 0])), (nw, .inr (3, [.int 2, .int 0, .ref keys, .ref moms, .ref lens, .ref prts, .ref luds, .ref hnds, .ref lats, .ref knds, .ref rch, .ref spd, .int 0, .int 0, .int 0, .ref unN, .ref unH, .ref ptn]))]
set_option maxHeartbeats 4000000 in
set_option maxRecDepth 100000 in
theorem c_clashes (l : Launch) (D : va_G) (cI cZ cP : ClassId) (sa : Nat → Nat) (x0 : Nat) (nw : Nat) (sp : Nat) (im : Nat) (sc : Nat) (hg : Nat) (fg : Nat) (pg : Nat) (pr : Nat) (keys : Nat) (moms : Nat) (lens : Nat) (prts : Nat) (luds : Nat) (hnds : Nat) (lats : Nat) (knds : Nat) (rch : Nat) (spd : Nat) (unN : Nat) (unH : Nat) (ptn : Nat) (p0 : Int32) (p1 : Int32) (sz : Nat) : Met l yX6_clashes (qW yX6_clashes cX6_clashes 7 (some .int)) ({ frames := 1, cells := 0, slots := 0, locals := 22 } : Room) (qP D (TY cI cZ cP) sa [.ref x0, .int p0, .int p1] (w_clashes cI cZ cP x0 nw sp im sc hg fg pg pr keys moms lens prts luds hnds lats knds rch spd unN unH ptn p0 p1) sz) (qQi D (w_clashes cI cZ cP x0 nw sp im sc hg fg pg pr keys moms lens prts luds hnds lats knds rch spd unN unH ptn p0 p1) sz (fun (r : Int32) (_ : Unit) => r = sp_clashes p0 p1) (fun _ => [])) 0 0 (va_A (w_clashes cI cZ cP x0 nw sp im sc hg fg pg pr keys moms lens prts luds hnds lats knds rch spd unN unH ptn p0 p1) sz) := by
  refine q_enter (by decide) (Nat.le_of_ble_eq_true rfl) ?_
  intro p e s m below meth c ls hX hr hlk hnm hE hK hP hD hS hA hl
  obtain ⟨hx, hb, hml, hown, ht⟩ := id hX
  have hl : lv_has ls 7 [(0, .ref x0), (1, .int p0), (2, .int p1)] := hl
  refine lv_iload_n hx hb dX6_clashes_0 rfl (lv_at hl 1 rfl) ?_
  refine lv_iconst (v := (-1)) hx hb dX6_clashes_1 (by decide) ?_
  refine lv_iconst (v := 5) hx hb dX6_clashes_2 (by decide) ?_
  refine q_Si (wr := [(x0, .inr (6, [.ref nw, .ref sp, .ref im, .ref sc, .ref hg, .ref fg, .ref pg, .ref pr, .int 0, .long 0, .long 1, .int 0, .int 0, .int 0])), (nw, .inr (3, [.int 2, .int 0, .ref keys, .ref moms, .ref lens, .ref prts, .ref luds, .ref hnds, .ref lats, .ref knds, .ref rch, .ref spd, .int 0, .int 0, .int 0, .ref unN, .ref unH, .ref ptn]))]) [] [0, 1] hX hE hK hP hD hS hA hl.1 lk_X6_62 (c_within l D cI cZ cP sa p0 (-1) 5 _) rfl rfl rfl rfl (by decide) rfl rfl (Nat.le_of_ble_eq_true rfl) rfl rfl ⟨Nat.le_of_ble_eq_true rfl, Nat.le_of_ble_eq_true rfl⟩ ⟨Nat.le_of_ble_eq_true rfl, Nat.le_of_ble_eq_true rfl⟩ dX6_clashes_3 (fun x_1 _ H locs h_1 hP hD hS => ?_)
  have hP : va_P D vwCl [(x0, .inr (6, [.ref nw, .ref sp, .ref im, .ref sc, .ref hg, .ref fg, .ref pg, .ref pr, .int 0, .long 0, .long 1, .int 0, .int 0, .int 0])), (nw, .inr (3, [.int 2, .int 0, .ref keys, .ref moms, .ref lens, .ref prts, .ref luds, .ref hnds, .ref lats, .ref knds, .ref rch, .ref spd, .int 0, .int 0, .int 0, .ref unN, .ref unH, .ref ptn]))] H := hP
  have hD : va_D (va_A (w_clashes cI cZ cP x0 nw sp im sc hg fg pg pr keys moms lens prts luds hnds lats knds rch spd unN unH ptn p0 p1) sz) [(x0, .inr (6, [.ref nw, .ref sp, .ref im, .ref sc, .ref hg, .ref fg, .ref pg, .ref pr, .int 0, .long 0, .long 1, .int 0, .int 0, .int 0])), (nw, .inr (3, [.int 2, .int 0, .ref keys, .ref moms, .ref lens, .ref prts, .ref luds, .ref hnds, .ref lats, .ref knds, .ref rch, .ref spd, .int 0, .int 0, .int 0, .ref unN, .ref unH, .ref ptn]))] := hD
  rcases Classical.em ((-1) ≤ p0 ∧ p0 ≤ 5) with c_1 | c_1
  · rw [if_pos c_1] at h_1; subst h_1
    refine lv_if_eq (tgt := 14) hx hb dX6_clashes_6 (by decide) (fun c_2 => absurd c_2 (by decide)) (fun _ => ?_)
    refine lv_iload_n hx hb dX6_clashes_9 rfl (lv_at hl 2 rfl) ?_
    refine lv_iconst (v := (-1)) hx hb dX6_clashes_10 (by decide) ?_
    refine lv_icmp_ge (tgt := 21) hx hb dX6_clashes_11 (by decide) (fun c_3 => ?_) (fun c_3 => ?_)
    · refine lv_iconst (v := 0) hx hb dX6_clashes_21 (by decide) ?_
      refine lv_istore_n (lv' := [(3, .int 0), (0, .ref x0), (1, .int p0), (2, .int p1)]) hx hb dX6_clashes_22 rfl hl (by decide) rfl (fun ls hl => ?_)
      refine lv_iconst (v := 0) hx hb dX6_clashes_23 (by decide) ?_
      refine lv_istore (lv' := [(4, .int 0), (3, .int 0), (0, .ref x0), (1, .int p0), (2, .int p1)]) hx hb dX6_clashes_24 hl (by decide) rfl (fun ls hl => ?_)
      refine lv_iload hx hb dX6_clashes_26 (lv_at hl 0 rfl) ?_
      refine lv_aload_n hx hb dX6_clashes_28 rfl (lv_at hl 2 rfl) ?_
      refine va_get (D := D) (ci := 6) (v := .ref nw) (C := RX6) (T := TX6) (N := 14) hx hb ht inX6 hown hK hP 0 rfl rfl 0 (Nat.le_of_ble_eq_true rfl) (ht _ kw_337) (fun _ h9 => h9) rfl dX6_clashes_29 ?_
      refine va_get (D := D) (ci := 3) (v := .int 0) (C := RX3) (T := TX3) (N := 18) hx hb ht inX3 hown hK hP 1 rfl rfl 1 (Nat.le_of_ble_eq_true rfl) (ht _ kw_123) (fun _ h9 => h9) rfl dX6_clashes_32 ?_
      refine lv_icmp_ge (tgt := 118) hx hb dX6_clashes_35 (by decide) (fun _ => ?_) (fun c_4 => absurd (by decide) c_4)
      refine lv_iload_n hx hb dX6_clashes_118 rfl (lv_at hl 4 rfl) ?_
      refine lv_iconst (v := (-1)) hx hb dX6_clashes_119 (by decide) ?_
      refine lv_icmp_ne (tgt := 127) hx hb dX6_clashes_120 (by decide) (fun c_5 => ?_) (fun c_5 => ?_)
      · refine lv_bipush (v := (-5)) hx hb dX6_clashes_127 (by decide) ?_
        exact q_iret hX hr hlk () (by simp [sp_clashes, c_1, c_3, c_5]) (hP.sub [] rfl) (hD.sub [] (by decide) rfl) hS dX6_clashes_129
      · refine lv_iload_n hx hb dX6_clashes_123 rfl (lv_at hl 1 rfl) ?_
        refine lv_goto (tgt := 129) hx hb dX6_clashes_124 (by decide) ?_
        exact q_iret hX hr hlk () (by simp [sp_clashes, c_1, c_3, c_5]) (hP.sub [] rfl) (hD.sub [] (by decide) rfl) hS dX6_clashes_129
    · refine lv_aload_n hx hb dX6_clashes_14 rfl (lv_at hl 0 rfl) ?_
      refine lv_bipush (v := (-10)) hx hb dX6_clashes_15 (by decide) ?_
      refine q_Vi (wr := [(nw, .inr (3, [.int 2, .int 0, .ref keys, .ref moms, .ref lens, .ref prts, .ref luds, .ref hnds, .ref lats, .ref knds, .ref rch, .ref spd, .int 0, .int 0, .int 0, .ref unN, .ref unH, .ref ptn]))]) [0] [1] hX hE hK hP hD hS hA hl.1 lk_X6_66 (c_refuseBad l D cI cZ cP sa x0 nw sp im sc hg fg pg pr 0 0 1 0 0 0 (-10) _) rfl rfl rfl rfl (by decide) 0 6 rfl rfl rfl rfl (Nat.le_of_ble_eq_true rfl) rfl rfl ⟨Nat.le_of_ble_eq_true rfl, Nat.le_of_ble_eq_true rfl⟩ ⟨Nat.le_of_ble_eq_true rfl, Nat.le_of_ble_eq_true rfl⟩ dX6_clashes_17 (fun x_6 _ H locs h_6 hP hD hS => ?_)
      have hP : va_P D vwCl [(nw, .inr (3, [.int 2, .int 0, .ref keys, .ref moms, .ref lens, .ref prts, .ref luds, .ref hnds, .ref lats, .ref knds, .ref rch, .ref spd, .int 0, .int 0, .int 0, .ref unN, .ref unH, .ref ptn]))] H := hP
      have hD : va_D (va_A (w_clashes cI cZ cP x0 nw sp im sc hg fg pg pr keys moms lens prts luds hnds lats knds rch spd unN unH ptn p0 p1) sz) [(nw, .inr (3, [.int 2, .int 0, .ref keys, .ref moms, .ref lens, .ref prts, .ref luds, .ref hnds, .ref lats, .ref knds, .ref rch, .ref spd, .int 0, .int 0, .int 0, .ref unN, .ref unH, .ref ptn]))] := hD
      subst h_6
      exact q_iret hX hr hlk () (by simp [sp_clashes, c_1, c_3]) (hP.sub [] rfl) (hD.sub [] (by decide) rfl) hS dX6_clashes_20
  · rw [if_neg c_1] at h_1; subst h_1
    refine lv_if_eq (tgt := 14) hx hb dX6_clashes_6 (by decide) (fun _ => ?_) (fun c_7 => absurd (by decide) c_7)
    refine lv_aload_n hx hb dX6_clashes_14 rfl (lv_at hl 0 rfl) ?_
    refine lv_bipush (v := (-10)) hx hb dX6_clashes_15 (by decide) ?_
    refine q_Vi (wr := [(nw, .inr (3, [.int 2, .int 0, .ref keys, .ref moms, .ref lens, .ref prts, .ref luds, .ref hnds, .ref lats, .ref knds, .ref rch, .ref spd, .int 0, .int 0, .int 0, .ref unN, .ref unH, .ref ptn]))]) [0] [1] hX hE hK hP hD hS hA hl.1 lk_X6_66 (c_refuseBad l D cI cZ cP sa x0 nw sp im sc hg fg pg pr 0 0 1 0 0 0 (-10) _) rfl rfl rfl rfl (by decide) 0 6 rfl rfl rfl rfl (Nat.le_of_ble_eq_true rfl) rfl rfl ⟨Nat.le_of_ble_eq_true rfl, Nat.le_of_ble_eq_true rfl⟩ ⟨Nat.le_of_ble_eq_true rfl, Nat.le_of_ble_eq_true rfl⟩ dX6_clashes_17 (fun x_8 _ H locs h_8 hP hD hS => ?_)
    have hP : va_P D vwCl [(nw, .inr (3, [.int 2, .int 0, .ref keys, .ref moms, .ref lens, .ref prts, .ref luds, .ref hnds, .ref lats, .ref knds, .ref rch, .ref spd, .int 0, .int 0, .int 0, .ref unN, .ref unH, .ref ptn]))] H := hP
    have hD : va_D (va_A (w_clashes cI cZ cP x0 nw sp im sc hg fg pg pr keys moms lens prts luds hnds lats knds rch spd unN unH ptn p0 p1) sz) [(nw, .inr (3, [.int 2, .int 0, .ref keys, .ref moms, .ref lens, .ref prts, .ref luds, .ref hnds, .ref lats, .ref knds, .ref rch, .ref spd, .int 0, .int 0, .int 0, .ref unN, .ref unH, .ref ptn]))] := hD
    subst h_8
    exact q_iret hX hr hlk () (by simp [sp_clashes, c_1]) (hP.sub [] rfl) (hD.sub [] (by decide) rfl) hS dX6_clashes_20
abbrev w_part (cI cZ cP : ClassId) (x0 : Nat) (nw : Nat) (sp : Nat) (im : Nat) (sc : Nat) (hg : Nat) (fg : Nat) (pg : Nat) (pr : Nat) (p0 : Int32) : va_W := [(x0, .inr (6, [.ref nw, .ref sp, .ref im, .ref sc, .ref hg, .ref fg, .ref pg, .ref pr, .int 0, .long 0, .long 1, .int 0, .int 0, .int 0]))]
set_option maxHeartbeats 4000000 in
set_option maxRecDepth 100000 in
theorem c_part (l : Launch) (D : va_G) (cI cZ cP : ClassId) (sa : Nat → Nat) (x0 : Nat) (nw : Nat) (sp : Nat) (im : Nat) (sc : Nat) (hg : Nat) (fg : Nat) (pg : Nat) (pr : Nat) (p0 : Int32) (sz : Nat) : Met l yX6_part (qW yX6_part cX6_part 2 (some .long)) ({ frames := 1, cells := 0, slots := 0, locals := 22 } : Room) (qP D (TY cI cZ cP) sa [.ref x0, .int p0] (w_part cI cZ cP x0 nw sp im sc hg fg pg pr p0) sz) (qQl D (w_part cI cZ cP x0 nw sp im sc hg fg pg pr p0) sz (fun (r : Int64) (_ : Unit) => r = sp_part p0) (fun _ => [])) 0 0 (va_A (w_part cI cZ cP x0 nw sp im sc hg fg pg pr p0) sz) := by
  refine q_enter (by decide) (Nat.le_of_ble_eq_true rfl) ?_
  intro p e s m below meth c ls hX hr hlk hnm hE hK hP hD hS hA hl
  obtain ⟨hx, hb, hml, hown, ht⟩ := id hX
  have hl : lv_has ls 2 [(0, .ref x0), (1, .int p0)] := hl
  refine lv_iload_n hx hb dX6_part_0 rfl (lv_at hl 1 rfl) ?_
  refine lv_iconst (v := 0) hx hb dX6_part_1 (by decide) ?_
  refine lv_iconst (v := 1) hx hb dX6_part_2 (by decide) ?_
  refine q_Si (wr := [(x0, .inr (6, [.ref nw, .ref sp, .ref im, .ref sc, .ref hg, .ref fg, .ref pg, .ref pr, .int 0, .long 0, .long 1, .int 0, .int 0, .int 0]))]) [] [0] hX hE hK hP hD hS hA hl.1 lk_X6_62 (c_within l D cI cZ cP sa p0 0 1 _) rfl rfl rfl rfl (by decide) rfl rfl (Nat.le_of_ble_eq_true rfl) rfl rfl ⟨Nat.le_of_ble_eq_true rfl, Nat.le_of_ble_eq_true rfl⟩ ⟨Nat.le_of_ble_eq_true rfl, Nat.le_of_ble_eq_true rfl⟩ dX6_part_3 (fun x_1 _ H locs h_1 hP hD hS => ?_)
  have hP : va_P D vwCl [(x0, .inr (6, [.ref nw, .ref sp, .ref im, .ref sc, .ref hg, .ref fg, .ref pg, .ref pr, .int 0, .long 0, .long 1, .int 0, .int 0, .int 0]))] H := hP
  have hD : va_D (va_A (w_part cI cZ cP x0 nw sp im sc hg fg pg pr p0) sz) [(x0, .inr (6, [.ref nw, .ref sp, .ref im, .ref sc, .ref hg, .ref fg, .ref pg, .ref pr, .int 0, .long 0, .long 1, .int 0, .int 0, .int 0]))] := hD
  rcases Classical.em (0 ≤ p0 ∧ p0 ≤ 1) with c_1 | c_1
  · rw [if_pos c_1] at h_1; subst h_1
    refine lv_if_ne (tgt := 17) hx hb dX6_part_6 (by decide) (fun _ => ?_) (fun c_2 => absurd c_2 (by decide))
    refine lv_iload_n hx hb dX6_part_17 rfl (lv_at hl 1 rfl) ?_
    refine lv_if_ne (tgt := 28) hx hb dX6_part_18 (by decide) (fun c_3 => ?_) (fun c_3 => ?_)
    · refine lv_aload_n hx hb dX6_part_28 rfl (lv_at hl 0 rfl) ?_
      refine va_get (D := D) (ci := 6) (v := .long 1) (C := RX6) (T := TX6) (N := 14) hx hb ht inX6 hown hK hP 0 rfl rfl 10 (Nat.le_of_ble_eq_true rfl) (ht _ kw_347) (fun _ h9 => h9) rfl dX6_part_29 ?_
      exact q_lret hX hr hlk () (by simp [sp_part, c_1, c_3]) (hP.sub [] rfl) (hD.sub [] (by decide) rfl) hS dX6_part_32
    · refine lv_aload_n hx hb dX6_part_21 rfl (lv_at hl 0 rfl) ?_
      refine va_get (D := D) (ci := 6) (v := .long 0) (C := RX6) (T := TX6) (N := 14) hx hb ht inX6 hown hK hP 0 rfl rfl 9 (Nat.le_of_ble_eq_true rfl) (ht _ kw_346) (fun _ h9 => h9) rfl dX6_part_22 ?_
      refine lv_goto (tgt := 32) hx hb dX6_part_25 (by decide) ?_
      exact q_lret hX hr hlk () (by simp [sp_part, c_1, c_3]) (hP.sub [] rfl) (hD.sub [] (by decide) rfl) hS dX6_part_32
  · rw [if_neg c_1] at h_1; subst h_1
    refine lv_if_ne (tgt := 17) hx hb dX6_part_6 (by decide) (fun c_4 => absurd (by decide) c_4) (fun _ => ?_)
    refine lv_aload_n hx hb dX6_part_9 rfl (lv_at hl 0 rfl) ?_
    refine lv_bipush (v := (-2)) hx hb dX6_part_10 (by decide) ?_
    refine q_Vi (wr := []) [0] [] hX hE hK hP hD hS hA hl.1 lk_X6_66 (c_refuseBad l D cI cZ cP sa x0 nw sp im sc hg fg pg pr 0 0 1 0 0 0 (-2) _) rfl rfl rfl rfl (by decide) 0 6 rfl rfl rfl rfl (Nat.le_of_ble_eq_true rfl) rfl rfl ⟨Nat.le_of_ble_eq_true rfl, Nat.le_of_ble_eq_true rfl⟩ ⟨Nat.le_of_ble_eq_true rfl, Nat.le_of_ble_eq_true rfl⟩ dX6_part_12 (fun x_5 _ H locs h_5 hP hD hS => ?_)
    have hP : va_P D vwCl [] H := hP
    have hD : va_D (va_A (w_part cI cZ cP x0 nw sp im sc hg fg pg pr p0) sz) [] := hD
    subst h_5
    refine lv_i2l (v := ((-2 : Int32).toInt64)) hx hb dX6_part_15 rfl ?_
    exact q_lret hX hr hlk () (by simp [sp_part, c_1]) (hP.sub [] rfl) (hD.sub [] (by decide) rfl) hS dX6_part_16
abbrev w_status (cI cZ cP : ClassId) (x0 : Nat) (nw : Nat) (sp : Nat) (im : Nat) (sc : Nat) (hg : Nat) (fg : Nat) (pg : Nat) (pr : Nat) (p0 : Int32) : va_W := [(x0, .inr (6, [.ref nw, .ref sp, .ref im, .ref sc, .ref hg, .ref fg, .ref pg, .ref pr, .int 0, .long 0, .long 1, .int 0, .int 0, .int 0]))]
set_option maxHeartbeats 4000000 in
set_option maxRecDepth 100000 in
theorem c_status (l : Launch) (D : va_G) (cI cZ cP : ClassId) (sa : Nat → Nat) (x0 : Nat) (nw : Nat) (sp : Nat) (im : Nat) (sc : Nat) (hg : Nat) (fg : Nat) (pg : Nat) (pr : Nat) (p0 : Int32) (sz : Nat) : Met l yX6_status (qW yX6_status cX6_status 2 (some .int)) ({ frames := 1, cells := 0, slots := 0, locals := 21 } : Room) (qP D (TY cI cZ cP) sa [.ref x0, .int p0] (w_status cI cZ cP x0 nw sp im sc hg fg pg pr p0) sz) (qQi D (w_status cI cZ cP x0 nw sp im sc hg fg pg pr p0) sz (fun (r : Int32) (_ : Unit) => r = sp_status p0) (fun _ => [])) 0 0 (va_A (w_status cI cZ cP x0 nw sp im sc hg fg pg pr p0) sz) := by
  refine q_enter (by decide) (Nat.le_of_ble_eq_true rfl) ?_
  intro p e s m below meth c ls hX hr hlk hnm hE hK hP hD hS hA hl
  obtain ⟨hx, hb, hml, hown, ht⟩ := id hX
  have hl : lv_has ls 2 [(0, .ref x0), (1, .int p0)] := hl
  refine lv_iload_n hx hb dX6_status_0 rfl (lv_at hl 1 rfl) ?_
  rcases Classical.em (p0 = 0) with c_1 | c_1
  · refine q_i (z := 0) c_1 ?_
    refine lv_tableIn (off := 27) (tgt := 28) hx hb dX6_status_1 (by decide) (by decide) rfl (by decide) ?_
    refine lv_aload_n hx hb dX6_status_28 rfl (lv_at hl 0 rfl) ?_
    refine va_get (D := D) (ci := 6) (v := .int 0) (C := RX6) (T := TX6) (N := 14) hx hb ht inX6 hown hK hP 0 rfl rfl 11 (Nat.le_of_ble_eq_true rfl) (ht _ kw_348) (fun _ h9 => h9) rfl dX6_status_29 ?_
    exact q_iret hX hr hlk () (by simp [sp_status, tri_iff, c_1]) (hP.sub [] rfl) (hD.sub [] (by decide) rfl) hS dX6_status_32
  rcases Classical.em (p0 = 1) with c_2 | c_2
  · refine q_i (z := 1) c_2 ?_
    refine lv_tableIn (off := 32) (tgt := 33) hx hb dX6_status_1 (by decide) (by decide) rfl (by decide) ?_
    refine lv_aload_n hx hb dX6_status_33 rfl (lv_at hl 0 rfl) ?_
    refine va_get (D := D) (ci := 6) (v := .int 0) (C := RX6) (T := TX6) (N := 14) hx hb ht inX6 hown hK hP 0 rfl rfl 12 (Nat.le_of_ble_eq_true rfl) (ht _ kw_349) (fun _ h9 => h9) rfl dX6_status_34 ?_
    exact q_iret hX hr hlk () (by simp [sp_status, tri_iff, c_1, c_2]) (hP.sub [] rfl) (hD.sub [] (by decide) rfl) hS dX6_status_37
  rcases Classical.em (p0 = 2) with c_3 | c_3
  · refine q_i (z := 2) c_3 ?_
    refine lv_tableIn (off := 37) (tgt := 38) hx hb dX6_status_1 (by decide) (by decide) rfl (by decide) ?_
    refine lv_aload_n hx hb dX6_status_38 rfl (lv_at hl 0 rfl) ?_
    refine va_get (D := D) (ci := 6) (v := .int 0) (C := RX6) (T := TX6) (N := 14) hx hb ht inX6 hown hK hP 0 rfl rfl 13 (Nat.le_of_ble_eq_true rfl) (ht _ kw_350) (fun _ h9 => h9) rfl dX6_status_39 ?_
    exact q_iret hX hr hlk () (by simp [sp_status, tri_iff, c_1, c_2, c_3]) (hP.sub [] rfl) (hD.sub [] (by decide) rfl) hS dX6_status_42
  refine lv_tableOut (tgt := 43) hx hb dX6_status_1 (by have q0 := ne_toInt (v := 0) (n := 0) (by decide) c_1; have q1 := ne_toInt (v := 1) (n := 1) (by decide) c_2; have q2 := ne_toInt (v := 2) (n := 2) (by decide) c_3; omega) (by decide) ?_
  refine lv_aload_n hx hb dX6_status_43 rfl (lv_at hl 0 rfl) ?_
  refine lv_iconst (v := (-1)) hx hb dX6_status_44 (by decide) ?_
  refine q_Vi (wr := []) [0] [] hX hE hK hP hD hS hA hl.1 lk_X6_66 (c_refuseBad l D cI cZ cP sa x0 nw sp im sc hg fg pg pr 0 0 1 0 0 0 (-1) _) rfl rfl rfl rfl (by decide) 0 6 rfl rfl rfl rfl (Nat.le_of_ble_eq_true rfl) rfl rfl ⟨Nat.le_of_ble_eq_true rfl, Nat.le_of_ble_eq_true rfl⟩ ⟨Nat.le_of_ble_eq_true rfl, Nat.le_of_ble_eq_true rfl⟩ dX6_status_45 (fun x_4 _ H locs h_4 hP hD hS => ?_)
  have hP : va_P D vwCl [] H := hP
  have hD : va_D (va_A (w_status cI cZ cP x0 nw sp im sc hg fg pg pr p0) sz) [] := hD
  subst h_4
  exact q_iret hX hr hlk () (by simp [sp_status, tri_iff, c_1, c_2, c_3]) (hP.sub [] rfl) (hD.sub [] (by decide) rfl) hS dX6_status_48
