abbrev w_isWord (cI cZ cP : ClassId) (sc : Nat) (byt : Nat) (nms : Nat) (w : Nat) : va_W := [(sc, .inr (5, [.ref byt, .int 0, .int 0, .int 0, .int 0, .ref nms, .int 0]))]
set_option maxHeartbeats 4000000 in
set_option maxRecDepth 100000 in
theorem c_isWord (l : Launch) (D : va_G) (cI cZ cP : ClassId) (sa : Nat → Nat) (sc : Nat) (byt : Nat) (nms : Nat) (w : Nat) (sz : Nat) : Met l yX5_isWord (qW yX5_isWord cX5_isWord 3 (some .boolean)) ({ frames := 0, cells := 0, slots := 0, locals := 0 } : Room) (qP D (TY cI cZ cP) sa [.ref sc, .ref w] (w_isWord cI cZ cP sc byt nms w) sz) (qQi D (w_isWord cI cZ cP sc byt nms w) sz (fun (r : Int32) (_ : Unit) => r = 0) (fun _ => [(sc, .inr (5, [.ref byt, .int 0, .int 0, .int 0, .int 0, .ref nms, .int 0]))])) 0 0 (va_A (w_isWord cI cZ cP sc byt nms w) sz) := by
  refine q_enter (by decide) (Nat.le_of_ble_eq_true rfl) ?_
  intro p e s m below meth c ls hX hr hlk hnm hE hK hP hD hS hA hl
  obtain ⟨hx, hb, hml, hown, ht⟩ := id hX
  have hl : lv_has ls 3 [(0, .ref sc), (1, .ref w)] := hl
  refine lv_aload_n hx hb dX5_isWord_0 rfl (lv_at hl 0 rfl) ?_
  refine va_get (D := D) (ci := 5) (v := .int 0) (C := RX5) (T := TX5) (N := 7) hx hb ht inX5 hown hK hP 0 rfl rfl 4 (Nat.le_of_ble_eq_true rfl) (ht _ kw_214) (fun _ h9 => h9) rfl dX5_isWord_1 ?_
  refine lv_iconst (v := 1) hx hb dX5_isWord_4 (by decide) ?_
  refine lv_icmp_ne (tgt := 24) hx hb dX5_isWord_5 (by decide) (fun _ => ?_) (fun c_1 => absurd c_1 (by decide))
  refine lv_iconst (v := 0) hx hb dX5_isWord_24 (by decide) ?_
  exact q_zret hX hr hlk (by decide) () rfl (hP.sub [0] rfl) (hD.sub [0] (by decide) rfl) hS dX5_isWord_25
abbrev w_sortAt (cI cZ cP : ClassId) (sc : Nat) (byt : Nat) (nms : Nat) : va_W := [(sc, .inr (5, [.ref byt, .int 0, .int 0, .int 0, .int 0, .ref nms, .int 0]))]
set_option maxHeartbeats 4000000 in
set_option maxRecDepth 100000 in
theorem c_sortAt (l : Launch) (D : va_G) (cI cZ cP : ClassId) (sa : Nat → Nat) (sc : Nat) (byt : Nat) (nms : Nat) (sz : Nat) : Met l yX5_sortAt (qW yX5_sortAt cX5_sortAt 3 (some .int)) ({ frames := 0, cells := 0, slots := 0, locals := 0 } : Room) (qP D (TY cI cZ cP) sa [.ref sc, .int 0] (w_sortAt cI cZ cP sc byt nms) sz) (qQi D (w_sortAt cI cZ cP sc byt nms) sz (fun (r : Int32) (_ : Unit) => r = 0) (fun _ => [(sc, .inr (5, [.ref byt, .int 0, .int 0, .int 0, .int 0, .ref nms, .int 0]))])) 0 0 (va_A (w_sortAt cI cZ cP sc byt nms) sz) := by
  refine q_enter (by decide) (Nat.le_of_ble_eq_true rfl) ?_
  intro p e s m below meth c ls hX hr hlk hnm hE hK hP hD hS hA hl
  obtain ⟨hx, hb, hml, hown, ht⟩ := id hX
  have hl : lv_has ls 3 [(0, .ref sc), (1, .int 0)] := hl
  refine lv_iload_n hx hb dX5_sortAt_0 rfl (lv_at hl 1 rfl) ?_
  refine lv_if_lt (tgt := 12) hx hb dX5_sortAt_1 (by decide) (fun c_1 => absurd c_1 (by decide)) (fun _ => ?_)
  refine lv_iload_n hx hb dX5_sortAt_4 rfl (lv_at hl 1 rfl) ?_
  refine lv_aload_n hx hb dX5_sortAt_5 rfl (lv_at hl 0 rfl) ?_
  refine va_get (D := D) (ci := 5) (v := .int 0) (C := RX5) (T := TX5) (N := 7) hx hb ht inX5 hown hK hP 0 rfl rfl 1 (Nat.le_of_ble_eq_true rfl) (ht _ kw_210) (fun _ h9 => h9) rfl dX5_sortAt_6 ?_
  refine lv_icmp_lt (tgt := 14) hx hb dX5_sortAt_9 (by decide) (fun c_2 => absurd c_2 (by decide)) (fun _ => ?_)
  refine lv_iconst (v := 0) hx hb dX5_sortAt_12 (by decide) ?_
  exact q_iret hX hr hlk () rfl (hP.sub [0] rfl) (hD.sub [0] (by decide) rfl) hS dX5_sortAt_13
abbrev w_takeToken (cI cZ cP : ClassId) (sc : Nat) (byt : Nat) (nms : Nat) : va_W := [(sc, .inr (5, [.ref byt, .int 0, .int 0, .int 0, .int 0, .ref nms, .int 0]))]
set_option maxHeartbeats 4000000 in
set_option maxRecDepth 100000 in
theorem c_takeToken (l : Launch) (D : va_G) (cI cZ cP : ClassId) (sa : Nat → Nat) (sc : Nat) (byt : Nat) (nms : Nat) (sz : Nat) : Met l yX5_takeToken (qW yX5_takeToken cX5_takeToken 1 none) ({ frames := 1, cells := 0, slots := 0, locals := 22 } : Room) (qP D (TY cI cZ cP) sa [.ref sc] (w_takeToken cI cZ cP sc byt nms) sz) (qQv D (w_takeToken cI cZ cP sc byt nms) sz (fun _ : Unit => True) (fun _ => [(sc, .inr (5, [.ref byt, .int 0, .int 0, .int 0, .int 0, .ref nms, .int 0]))])) 0 0 (va_A (w_takeToken cI cZ cP sc byt nms) sz) := by
  refine q_enter (by decide) (Nat.le_of_ble_eq_true rfl) ?_
  intro p e s m below meth c ls hX hr hlk hnm hE hK hP hD hS hA hl
  obtain ⟨hx, hb, hml, hown, ht⟩ := id hX
  have hl : lv_has ls 1 [(0, .ref sc)] := hl
  refine lv_aload_n hx hb dX5_takeToken_0 rfl (lv_at hl 0 rfl) ?_
  refine va_get (D := D) (ci := 5) (v := .int 0) (C := RX5) (T := TX5) (N := 7) hx hb ht inX5 hown hK hP 0 rfl rfl 2 (Nat.le_of_ble_eq_true rfl) (ht _ kw_212) (fun _ h9 => h9) rfl dX5_takeToken_1 ?_
  refine lv_aload_n hx hb dX5_takeToken_4 rfl (lv_at hl 0 rfl) ?_
  refine va_get (D := D) (ci := 5) (v := .int 0) (C := RX5) (T := TX5) (N := 7) hx hb ht inX5 hown hK hP 0 rfl rfl 1 (Nat.le_of_ble_eq_true rfl) (ht _ kw_210) (fun _ h9 => h9) rfl dX5_takeToken_5 ?_
  refine lv_icmp_ge (tgt := 38) hx hb dX5_takeToken_8 (by decide) (fun _ => ?_) (fun c_1 => absurd (by decide) c_1)
  refine lv_aload_n hx hb dX5_takeToken_38 rfl (lv_at hl 0 rfl) ?_
  refine lv_aload_n hx hb dX5_takeToken_39 rfl (lv_at hl 0 rfl) ?_
  refine va_get (D := D) (ci := 5) (v := .int 0) (C := RX5) (T := TX5) (N := 7) hx hb ht inX5 hown hK hP 0 rfl rfl 2 (Nat.le_of_ble_eq_true rfl) (ht _ kw_212) (fun _ h9 => h9) rfl dX5_takeToken_40 ?_
  refine va_put (D := D) (ci := 5) (v := .int 0) (ty := .int) (C := RX5) (T := TX5) (N := 7) hx hb ht inX5 tyX5 tyX5_ok nmX5 hown hK hP hD hS 0 rfl rfl 3 (Nat.le_of_ble_eq_true rfl) (ht _ kw_213) (fun _ h9 => h9) rfl (by decide +kernel) rfl rfl (Nat.le_of_ble_eq_true rfl) dX5_takeToken_43 (fun H locs hP hD hS => ?_)
  have hP : va_P D vwCl [(sc, .inr (5, [.ref byt, .int 0, .int 0, .int 0, .int 0, .ref nms, .int 0]))] H := hP
  have hD : va_D (va_A (w_takeToken cI cZ cP sc byt nms) sz) [(sc, .inr (5, [.ref byt, .int 0, .int 0, .int 0, .int 0, .ref nms, .int 0]))] := hD
  refine lv_aload_n hx hb dX5_takeToken_46 rfl (lv_at hl 0 rfl) ?_
  refine lv_aload_n hx hb dX5_takeToken_47 rfl (lv_at hl 0 rfl) ?_
  refine lv_aload_n hx hb dX5_takeToken_48 rfl (lv_at hl 0 rfl) ?_
  refine va_get (D := D) (ci := 5) (v := .int 0) (C := RX5) (T := TX5) (N := 7) hx hb ht inX5 hown hK hP 0 rfl rfl 2 (Nat.le_of_ble_eq_true rfl) (ht _ kw_212) (fun _ h9 => h9) rfl dX5_takeToken_49 ?_
  refine q_Vi (wr := []) [0] [] hX hE hK hP hD hS hA hl.1 lk_X5_98 (c_sortAt l D cI cZ cP sa sc byt nms _) rfl rfl rfl rfl (by decide) 0 5 rfl rfl rfl rfl (Nat.le_of_ble_eq_true rfl) rfl rfl ⟨Nat.le_of_ble_eq_true rfl, Nat.le_of_ble_eq_true rfl⟩ ⟨Nat.le_of_ble_eq_true rfl, Nat.le_of_ble_eq_true rfl⟩ dX5_takeToken_52 (fun x_2 _ H locs h_2 hP hD hS => ?_)
  have hP : va_P D vwCl [(sc, .inr (5, [.ref byt, .int 0, .int 0, .int 0, .int 0, .ref nms, .int 0]))] H := hP
  have hD : va_D (va_A (w_takeToken cI cZ cP sc byt nms) sz) [(sc, .inr (5, [.ref byt, .int 0, .int 0, .int 0, .int 0, .ref nms, .int 0]))] := hD
  subst h_2
  refine va_put (D := D) (ci := 5) (v := .int 0) (ty := .int) (C := RX5) (T := TX5) (N := 7) hx hb ht inX5 tyX5 tyX5_ok nmX5 hown hK hP hD hS 0 rfl rfl 4 (Nat.le_of_ble_eq_true rfl) (ht _ kw_214) (fun _ h9 => h9) rfl (by decide +kernel) rfl rfl (Nat.le_of_ble_eq_true rfl) dX5_takeToken_55 (fun H locs hP hD hS => ?_)
  have hP : va_P D vwCl [(sc, .inr (5, [.ref byt, .int 0, .int 0, .int 0, .int 0, .ref nms, .int 0]))] H := hP
  have hD : va_D (va_A (w_takeToken cI cZ cP sc byt nms) sz) [(sc, .inr (5, [.ref byt, .int 0, .int 0, .int 0, .int 0, .ref nms, .int 0]))] := hD
  refine lv_aload_n hx hb dX5_takeToken_58 rfl (lv_at hl 0 rfl) ?_
  refine va_get (D := D) (ci := 5) (v := .int 0) (C := RX5) (T := TX5) (N := 7) hx hb ht inX5 hown hK hP 0 rfl rfl 4 (Nat.le_of_ble_eq_true rfl) (ht _ kw_214) (fun _ h9 => h9) rfl dX5_takeToken_59 ?_
  refine lv_iconst (v := 3) hx hb dX5_takeToken_62 (by decide) ?_
  refine lv_icmp_eq (tgt := 74) hx hb dX5_takeToken_63 (by decide) (fun c_3 => absurd c_3 (by decide)) (fun _ => ?_)
  refine lv_aload_n hx hb dX5_takeToken_66 rfl (lv_at hl 0 rfl) ?_
  refine va_get (D := D) (ci := 5) (v := .int 0) (C := RX5) (T := TX5) (N := 7) hx hb ht inX5 hown hK hP 0 rfl rfl 4 (Nat.le_of_ble_eq_true rfl) (ht _ kw_214) (fun _ h9 => h9) rfl dX5_takeToken_67 ?_
  refine lv_iconst (v := 4) hx hb dX5_takeToken_70 (by decide) ?_
  refine lv_icmp_ne (tgt := 84) hx hb dX5_takeToken_71 (by decide) (fun _ => ?_) (fun c_4 => absurd c_4 (by decide))
  refine lv_aload_n hx hb dX5_takeToken_84 rfl (lv_at hl 0 rfl) ?_
  refine va_get (D := D) (ci := 5) (v := .int 0) (C := RX5) (T := TX5) (N := 7) hx hb ht inX5 hown hK hP 0 rfl rfl 4 (Nat.le_of_ble_eq_true rfl) (ht _ kw_214) (fun _ h9 => h9) rfl dX5_takeToken_85 ?_
  refine lv_iconst (v := 1) hx hb dX5_takeToken_88 (by decide) ?_
  refine lv_icmp_eq (tgt := 100) hx hb dX5_takeToken_89 (by decide) (fun c_5 => absurd c_5 (by decide)) (fun _ => ?_)
  refine lv_aload_n hx hb dX5_takeToken_92 rfl (lv_at hl 0 rfl) ?_
  refine va_get (D := D) (ci := 5) (v := .int 0) (C := RX5) (T := TX5) (N := 7) hx hb ht inX5 hown hK hP 0 rfl rfl 4 (Nat.le_of_ble_eq_true rfl) (ht _ kw_214) (fun _ h9 => h9) rfl dX5_takeToken_93 ?_
  refine lv_iconst (v := 2) hx hb dX5_takeToken_96 (by decide) ?_
  refine lv_icmp_ne (tgt := 139) hx hb dX5_takeToken_97 (by decide) (fun _ => ?_) (fun c_6 => absurd c_6 (by decide))
  exact q_vret hX hr hlk () trivial (hP.sub [0] rfl) (hD.sub [0] (by decide) rfl) hS dX5_takeToken_139
abbrev w_readItem (cI cZ cP : ClassId) (sc : Nat) (byt : Nat) (nms : Nat) (pq : Nat) : va_W := [(sc, .inr (5, [.ref byt, .int 0, .int 0, .int 0, .int 0, .ref nms, .int 0]))]
set_option maxHeartbeats 4000000 in
set_option maxRecDepth 100000 in
theorem c_readItem (l : Launch) (D : va_G) (cI cZ cP : ClassId) (sa : Nat → Nat) (sc : Nat) (byt : Nat) (nms : Nat) (pq : Nat) (sz : Nat) : Met l yX5_readItem (qW yX5_readItem cX5_readItem 3 (some .boolean)) ({ frames := 1, cells := 0, slots := 0, locals := 22 } : Room) (qP D (TY cI cZ cP) sa [.ref sc, .ref pq, .int 1] (w_readItem cI cZ cP sc byt nms pq) sz) (qQi D (w_readItem cI cZ cP sc byt nms pq) sz (fun (r : Int32) (_ : Unit) => r = 0) (fun _ => [(sc, .inr (5, [.ref byt, .int 0, .int 0, .int 0, .int 0, .ref nms, .int 0]))])) 0 0 (va_A (w_readItem cI cZ cP sc byt nms pq) sz) := by
  refine q_enter (by decide) (Nat.le_of_ble_eq_true rfl) ?_
  intro p e s m below meth c ls hX hr hlk hnm hE hK hP hD hS hA hl
  obtain ⟨hx, hb, hml, hown, ht⟩ := id hX
  have hl : lv_has ls 3 [(0, .ref sc), (1, .ref pq), (2, .int 1)] := hl
  refine lv_iload_n hx hb dX5_readItem_0 rfl (lv_at hl 2 rfl) ?_
  refine lv_aload_n hx hb dX5_readItem_1 rfl (lv_at hl 0 rfl) ?_
  refine va_ldcS hx hb hown hE.2.1 dX5_readItem_2 ?_
  refine q_Vi (wr := []) [0] [] hX hE hK hP hD hS hA hl.1 lk_X5_40 (c_isWord l D cI cZ cP sa sc byt nms (sa 0) _) rfl rfl rfl rfl (by decide) 0 5 rfl rfl rfl rfl (Nat.le_of_ble_eq_true rfl) rfl rfl ⟨Nat.le_of_ble_eq_true rfl, Nat.le_of_ble_eq_true rfl⟩ ⟨Nat.le_of_ble_eq_true rfl, Nat.le_of_ble_eq_true rfl⟩ dX5_readItem_4 (fun x_1 _ H locs h_1 hP hD hS => ?_)
  have hP : va_P D vwCl [(sc, .inr (5, [.ref byt, .int 0, .int 0, .int 0, .int 0, .ref nms, .int 0]))] H := hP
  have hD : va_D (va_A (w_readItem cI cZ cP sc byt nms pq) sz) [(sc, .inr (5, [.ref byt, .int 0, .int 0, .int 0, .int 0, .ref nms, .int 0]))] := hD
  subst h_1
  refine lv_icmp_eq (tgt := 12) hx hb dX5_readItem_7 (by decide) (fun c_2 => absurd c_2 (by decide)) (fun _ => ?_)
  refine lv_iconst (v := 0) hx hb dX5_readItem_10 (by decide) ?_
  exact q_zret hX hr hlk (by decide) () rfl (hP.sub [0] rfl) (hD.sub [0] (by decide) rfl) hS dX5_readItem_11
abbrev w_readInto (cI cZ cP : ClassId) (sc : Nat) (byt : Nat) (nms : Nat) (pq : Nat) : va_W := [(sc, .inr (5, [.ref byt, .int 0, .int 0, .int 0, .int 0, .ref nms, .int 0]))]
set_option maxHeartbeats 4000000 in
set_option maxRecDepth 100000 in
theorem c_readInto (l : Launch) (D : va_G) (cI cZ cP : ClassId) (sa : Nat → Nat) (sc : Nat) (byt : Nat) (nms : Nat) (pq : Nat) (sz : Nat) : Met l yX5_readInto (qW yX5_readInto cX5_readInto 3 (some .int)) ({ frames := 2, cells := 0, slots := 0, locals := 44 } : Room) (qP D (TY cI cZ cP) sa [.ref sc, .ref pq] (w_readInto cI cZ cP sc byt nms pq) sz) (qQi D (w_readInto cI cZ cP sc byt nms pq) sz (fun (r : Int32) (_ : Unit) => r = (-10)) (fun _ => [])) 0 0 (va_A (w_readInto cI cZ cP sc byt nms pq) sz) := by
  refine q_enter (by decide) (Nat.le_of_ble_eq_true rfl) ?_
  intro p e s m below meth c ls hX hr hlk hnm hE hK hP hD hS hA hl
  obtain ⟨hx, hb, hml, hown, ht⟩ := id hX
  have hl : lv_has ls 3 [(0, .ref sc), (1, .ref pq)] := hl
  refine lv_aload_n hx hb dX5_readInto_0 rfl (lv_at hl 0 rfl) ?_
  refine lv_iconst (v := 0) hx hb dX5_readInto_1 (by decide) ?_
  refine va_put (D := D) (ci := 5) (v := .int 0) (ty := .int) (C := RX5) (T := TX5) (N := 7) hx hb ht inX5 tyX5 tyX5_ok nmX5 hown hK hP hD hS 0 rfl rfl 2 (Nat.le_of_ble_eq_true rfl) (ht _ kw_212) (fun _ h9 => h9) rfl (by decide +kernel) rfl rfl (Nat.le_of_ble_eq_true rfl) dX5_readInto_2 (fun H locs hP hD hS => ?_)
  have hP : va_P D vwCl [(sc, .inr (5, [.ref byt, .int 0, .int 0, .int 0, .int 0, .ref nms, .int 0]))] H := hP
  have hD : va_D (va_A (w_readInto cI cZ cP sc byt nms pq) sz) [(sc, .inr (5, [.ref byt, .int 0, .int 0, .int 0, .int 0, .ref nms, .int 0]))] := hD
  refine lv_iconst (v := 0) hx hb dX5_readInto_5 (by decide) ?_
  refine lv_istore_n (lv' := [(2, .int 0), (0, .ref sc), (1, .ref pq)]) hx hb dX5_readInto_6 rfl hl (by decide) rfl (fun ls hl => ?_)
  refine lv_iload_n hx hb dX5_readInto_7 rfl (lv_at hl 0 rfl) ?_
  refine lv_sipush (v := 150) hx hb dX5_readInto_8 (by decide) ?_
  refine lv_icmp_gt (tgt := 57) hx hb dX5_readInto_11 (by decide) (fun c_1 => absurd c_1 (by decide)) (fun _ => ?_)
  refine lv_aload_n hx hb dX5_readInto_14 rfl (lv_at hl 1 rfl) ?_
  refine q_Vv (wr := []) [0] [] hX hE hK hP hD hS hA hl.1 lk_X5_25 (c_takeToken l D cI cZ cP sa sc byt nms _) rfl rfl rfl rfl (by decide) 0 5 rfl rfl rfl rfl (Nat.le_of_ble_eq_true rfl) rfl rfl ⟨Nat.le_of_ble_eq_true rfl, Nat.le_of_ble_eq_true rfl⟩ ⟨Nat.le_of_ble_eq_true rfl, Nat.le_of_ble_eq_true rfl⟩ dX5_readInto_15 (fun _ H locs h_2 hP hD hS => ?_)
  have hP : va_P D vwCl [(sc, .inr (5, [.ref byt, .int 0, .int 0, .int 0, .int 0, .ref nms, .int 0]))] H := hP
  have hD : va_D (va_A (w_readInto cI cZ cP sc byt nms pq) sz) [(sc, .inr (5, [.ref byt, .int 0, .int 0, .int 0, .int 0, .ref nms, .int 0]))] := hD
  refine lv_aload_n hx hb dX5_readInto_18 rfl (lv_at hl 1 rfl) ?_
  refine va_get (D := D) (ci := 5) (v := .int 0) (C := RX5) (T := TX5) (N := 7) hx hb ht inX5 hown hK hP 0 rfl rfl 4 (Nat.le_of_ble_eq_true rfl) (ht _ kw_214) (fun _ h9 => h9) rfl dX5_readInto_19 ?_
  refine lv_if_ne (tgt := 31) hx hb dX5_readInto_22 (by decide) (fun c_3 => absurd (by decide) c_3) (fun _ => ?_)
  refine lv_iload_n hx hb dX5_readInto_25 rfl (lv_at hl 0 rfl) ?_
  refine lv_if_le (tgt := 31) hx hb dX5_readInto_26 (by decide) (fun _ => ?_) (fun c_4 => absurd (by decide) c_4)
  refine lv_aload_n hx hb dX5_readInto_31 rfl (lv_at hl 1 rfl) ?_
  refine lv_aload_n hx hb dX5_readInto_32 rfl (lv_at hl 2 rfl) ?_
  refine lv_iload_n hx hb dX5_readInto_33 rfl (lv_at hl 0 rfl) ?_
  refine lv_if_ne (tgt := 41) hx hb dX5_readInto_34 (by decide) (fun c_5 => absurd (by decide) c_5) (fun _ => ?_)
  refine lv_iconst (v := 1) hx hb dX5_readInto_37 (by decide) ?_
  refine lv_goto (tgt := 42) hx hb dX5_readInto_38 (by decide) ?_
  refine q_Vi (wr := []) [0] [] hX hE hK hP hD hS hA hl.1 lk_X5_31 (c_readItem l D cI cZ cP sa sc byt nms pq _) rfl rfl rfl rfl (by decide) 0 5 rfl rfl rfl rfl (Nat.le_of_ble_eq_true rfl) rfl rfl ⟨Nat.le_of_ble_eq_true rfl, Nat.le_of_ble_eq_true rfl⟩ ⟨Nat.le_of_ble_eq_true rfl, Nat.le_of_ble_eq_true rfl⟩ dX5_readInto_42 (fun x_6 _ H locs h_6 hP hD hS => ?_)
  have hP : va_P D vwCl [(sc, .inr (5, [.ref byt, .int 0, .int 0, .int 0, .int 0, .ref nms, .int 0]))] H := hP
  have hD : va_D (va_A (w_readInto cI cZ cP sc byt nms pq) sz) [(sc, .inr (5, [.ref byt, .int 0, .int 0, .int 0, .int 0, .ref nms, .int 0]))] := hD
  subst h_6
  refine lv_if_ne (tgt := 51) hx hb dX5_readInto_45 (by decide) (fun c_7 => absurd (by decide) c_7) (fun _ => ?_)
  refine lv_goto (tgt := 57) hx hb dX5_readInto_48 (by decide) ?_
  refine lv_bipush (v := (-10)) hx hb dX5_readInto_57 (by decide) ?_
  refine lv_aload_n hx hb dX5_readInto_59 rfl (lv_at hl 1 rfl) ?_
  refine va_get (D := D) (ci := 5) (v := .int 0) (C := RX5) (T := TX5) (N := 7) hx hb ht inX5 hown hK hP 0 rfl rfl 3 (Nat.le_of_ble_eq_true rfl) (ht _ kw_213) (fun _ h9 => h9) rfl dX5_readInto_60 ?_
  refine lv_isub hx hb dX5_readInto_63 ?_
  refine q_i (z := (-10)) (by decide) ?_
  exact q_iret hX hr hlk () rfl (hP.sub [] rfl) (hD.sub [] (by decide) rfl) hS dX5_readInto_64
abbrev w_read (cI cZ cP : ClassId) (x0 : Nat) (nw : Nat) (sp : Nat) (im : Nat) (sc : Nat) (hg : Nat) (fg : Nat) (pg : Nat) (pr : Nat) (byt : Nat) (nms : Nat) : va_W := [(x0, .inr (6, [.ref nw, .ref sp, .ref im, .ref sc, .ref hg, .ref fg, .ref pg, .ref pr, .int 0, .long 0, .long 1, .int 0, .int 0, .int 0])), (sc, .inr (5, [.ref byt, .int 0, .int 0, .int 0, .int 0, .ref nms, .int 0]))]
set_option maxHeartbeats 4000000 in
set_option maxRecDepth 100000 in
theorem c_read (l : Launch) (D : va_G) (cI cZ cP : ClassId) (sa : Nat → Nat) (x0 : Nat) (nw : Nat) (sp : Nat) (im : Nat) (sc : Nat) (hg : Nat) (fg : Nat) (pg : Nat) (pr : Nat) (byt : Nat) (nms : Nat) (sz : Nat) : Met l yX6_read (qW yX6_read cX6_read 2 (some .int)) ({ frames := 3, cells := 0, slots := 0, locals := 66 } : Room) (qP D (TY cI cZ cP) sa [.ref x0] (w_read cI cZ cP x0 nw sp im sc hg fg pg pr byt nms) sz) (qQi D (w_read cI cZ cP x0 nw sp im sc hg fg pg pr byt nms) sz (fun (r : Int32) (_ : Unit) => r = (-10)) (fun _ => [])) 0 0 (va_A (w_read cI cZ cP x0 nw sp im sc hg fg pg pr byt nms) sz) := by
  refine q_enter (by decide) (Nat.le_of_ble_eq_true rfl) ?_
  intro p e s m below meth c ls hX hr hlk hnm hE hK hP hD hS hA hl
  obtain ⟨hx, hb, hml, hown, ht⟩ := id hX
  have hl : lv_has ls 2 [(0, .ref x0)] := hl
  refine lv_aload_n hx hb dX6_read_0 rfl (lv_at hl 0 rfl) ?_
  refine va_get (D := D) (ci := 6) (v := .ref sc) (C := RX6) (T := TX6) (N := 14) hx hb ht inX6 hown hK hP 0 rfl rfl 3 (Nat.le_of_ble_eq_true rfl) (ht _ kw_340) (fun _ h9 => h9) rfl dX6_read_1 ?_
  refine lv_aload_n hx hb dX6_read_4 rfl (lv_at hl 0 rfl) ?_
  refine va_get (D := D) (ci := 6) (v := .ref sp) (C := RX6) (T := TX6) (N := 14) hx hb ht inX6 hown hK hP 0 rfl rfl 1 (Nat.le_of_ble_eq_true rfl) (ht _ kw_338) (fun _ h9 => h9) rfl dX6_read_5 ?_
  refine q_Vi (wr := [(x0, .inr (6, [.ref nw, .ref sp, .ref im, .ref sc, .ref hg, .ref fg, .ref pg, .ref pr, .int 0, .long 0, .long 1, .int 0, .int 0, .int 0]))]) [1] [0] hX hE hK hP hD hS hA hl.1 lk_X6_106 (c_readInto l D cI cZ cP sa sc byt nms sp _) rfl rfl rfl rfl (by decide) 0 5 rfl rfl rfl rfl (Nat.le_of_ble_eq_true rfl) rfl rfl ⟨Nat.le_of_ble_eq_true rfl, Nat.le_of_ble_eq_true rfl⟩ ⟨Nat.le_of_ble_eq_true rfl, Nat.le_of_ble_eq_true rfl⟩ dX6_read_8 (fun x_1 _ H locs h_1 hP hD hS => ?_)
  have hP : va_P D vwCl [(x0, .inr (6, [.ref nw, .ref sp, .ref im, .ref sc, .ref hg, .ref fg, .ref pg, .ref pr, .int 0, .long 0, .long 1, .int 0, .int 0, .int 0]))] H := hP
  have hD : va_D (va_A (w_read cI cZ cP x0 nw sp im sc hg fg pg pr byt nms) sz) [(x0, .inr (6, [.ref nw, .ref sp, .ref im, .ref sc, .ref hg, .ref fg, .ref pg, .ref pr, .int 0, .long 0, .long 1, .int 0, .int 0, .int 0]))] := hD
  subst h_1
  refine lv_istore_n (lv' := [(1, .int (-10)), (0, .ref x0)]) hx hb dX6_read_11 rfl hl (by decide) rfl (fun ls hl => ?_)
  refine lv_iload_n hx hb dX6_read_12 rfl (lv_at hl 0 rfl) ?_
  refine lv_if_lt (tgt := 27) hx hb dX6_read_13 (by decide) (fun _ => ?_) (fun c_2 => absurd (by decide) c_2)
  refine lv_iload_n hx hb dX6_read_27 rfl (lv_at hl 0 rfl) ?_
  exact q_iret hX hr hlk () rfl (hP.sub [] rfl) (hD.sub [] (by decide) rfl) hS dX6_read_28
abbrev w_countAll (cI cZ cP : ClassId) (hg : Nat) (hrw : Nat) (wth : Nat) (nw : Nat) (keys : Nat) (moms : Nat) (lens : Nat) (prts : Nat) (luds : Nat) (hnds : Nat) (lats : Nat) (knds : Nat) (rch : Nat) (spd : Nat) (unN : Nat) (unH : Nat) (ptn : Nat) : va_W := [(hg, .inr (1, [.int 0, .int 0, .ref hrw, .int 0, .ref wth])), (nw, .inr (3, [.int 2, .int 0, .ref keys, .ref moms, .ref lens, .ref prts, .ref luds, .ref hnds, .ref lats, .ref knds, .ref rch, .ref spd, .int 0, .int 0, .int 0, .ref unN, .ref unH, .ref ptn]))]
set_option maxHeartbeats 4000000 in
set_option maxRecDepth 100000 in
theorem c_countAll (l : Launch) (D : va_G) (cI cZ cP : ClassId) (sa : Nat → Nat) (hg : Nat) (hrw : Nat) (wth : Nat) (nw : Nat) (keys : Nat) (moms : Nat) (lens : Nat) (prts : Nat) (luds : Nat) (hnds : Nat) (lats : Nat) (knds : Nat) (rch : Nat) (spd : Nat) (unN : Nat) (unH : Nat) (ptn : Nat) (sz : Nat) : Met l yX1_countAll (qW yX1_countAll cX1_countAll 4 none) ({ frames := 0, cells := 0, slots := 0, locals := 0 } : Room) (qP D (TY cI cZ cP) sa [.ref hg, .ref nw] (w_countAll cI cZ cP hg hrw wth nw keys moms lens prts luds hnds lats knds rch spd unN unH ptn) sz) (qQv D (w_countAll cI cZ cP hg hrw wth nw keys moms lens prts luds hnds lats knds rch spd unN unH ptn) sz (fun _ : Unit => True) (fun _ => [(hg, .inr (1, [.int 0, .int 0, .ref hrw, .int 0, .ref wth])), (nw, .inr (3, [.int 2, .int 0, .ref keys, .ref moms, .ref lens, .ref prts, .ref luds, .ref hnds, .ref lats, .ref knds, .ref rch, .ref spd, .int 0, .int 0, .int 0, .ref unN, .ref unH, .ref ptn]))])) 0 0 (va_A (w_countAll cI cZ cP hg hrw wth nw keys moms lens prts luds hnds lats knds rch spd unN unH ptn) sz) := by
  refine q_enter (by decide) (Nat.le_of_ble_eq_true rfl) ?_
  intro p e s m below meth c ls hX hr hlk hnm hE hK hP hD hS hA hl
  obtain ⟨hx, hb, hml, hown, ht⟩ := id hX
  have hl : lv_has ls 4 [(0, .ref hg), (1, .ref nw)] := hl
  refine lv_iconst (v := 0) hx hb dX1_countAll_0 (by decide) ?_
  refine lv_istore_n (lv' := [(2, .int 0), (0, .ref hg), (1, .ref nw)]) hx hb dX1_countAll_1 rfl hl (by decide) rfl (fun ls hl => ?_)
  refine lv_iload_n hx hb dX1_countAll_2 rfl (lv_at hl 0 rfl) ?_
  refine lv_aload_n hx hb dX1_countAll_3 rfl (lv_at hl 2 rfl) ?_
  refine va_get (D := D) (ci := 3) (v := .int 0) (C := RX3) (T := TX3) (N := 18) hx hb ht inX3 hown hK hP 1 rfl rfl 1 (Nat.le_of_ble_eq_true rfl) (ht _ kw_124) (fun _ h9 => h9) rfl dX1_countAll_4 ?_
  refine lv_icmp_ge (tgt := 46) hx hb dX1_countAll_7 (by decide) (fun _ => ?_) (fun c_1 => absurd (by decide) c_1)
  exact q_vret hX hr hlk () trivial (hP.sub [0, 1] rfl) (hD.sub [0, 1] (by decide) rfl) hS dX1_countAll_46
abbrev w_gsolve (cI cZ cP : ClassId) (hg : Nat) (hrw : Nat) (wth : Nat) (nw : Nat) (keys : Nat) (moms : Nat) (lens : Nat) (prts : Nat) (luds : Nat) (hnds : Nat) (lats : Nat) (knds : Nat) (rch : Nat) (spd : Nat) (unN : Nat) (unH : Nat) (ptn : Nat) (p0 : Int32) : va_W := [(hg, .inr (1, [.int 0, .int 0, .ref hrw, .int 0, .ref wth])), (nw, .inr (3, [.int 2, .int 0, .ref keys, .ref moms, .ref lens, .ref prts, .ref luds, .ref hnds, .ref lats, .ref knds, .ref rch, .ref spd, .int 0, .int 0, .int 0, .ref unN, .ref unH, .ref ptn]))]
set_option maxHeartbeats 4000000 in
set_option maxRecDepth 100000 in
theorem c_gsolve (l : Launch) (D : va_G) (cI cZ cP : ClassId) (sa : Nat → Nat) (hg : Nat) (hrw : Nat) (wth : Nat) (nw : Nat) (keys : Nat) (moms : Nat) (lens : Nat) (prts : Nat) (luds : Nat) (hnds : Nat) (lats : Nat) (knds : Nat) (rch : Nat) (spd : Nat) (unN : Nat) (unH : Nat) (ptn : Nat) (p0 : Int32) (h0 : 0 ≤ p0 ∧ p0 ≤ 2) (sz : Nat) : Met l yX1_solve (qW yX1_solve cX1_solve 6 none) ({ frames := 1, cells := 0, slots := 0, locals := 23 } : Room) (qP D (TY cI cZ cP) sa [.ref hg, .ref nw, .int p0] (w_gsolve cI cZ cP hg hrw wth nw keys moms lens prts luds hnds lats knds rch spd unN unH ptn p0) sz) (qQv D (w_gsolve cI cZ cP hg hrw wth nw keys moms lens prts luds hnds lats knds rch spd unN unH ptn p0) sz (fun _ : Unit => True) (fun _ => [(hg, .inr (1, [.int 0, .int 0, .ref hrw, .int 0, .ref wth]))])) 0 0 (va_A (w_gsolve cI cZ cP hg hrw wth nw keys moms lens prts luds hnds lats knds rch spd unN unH ptn p0) sz) := by
  refine q_enter (by decide) (Nat.le_of_ble_eq_true rfl) ?_
  intro p e s m below meth c ls hX hr hlk hnm hE hK hP hD hS hA hl
  obtain ⟨hx, hb, hml, hown, ht⟩ := id hX
  have hl : lv_has ls 6 [(0, .ref hg), (1, .ref nw), (2, .int p0)] := hl
  refine lv_aload_n hx hb dX1_solve_0 rfl (lv_at hl 0 rfl) ?_
  refine lv_aload_n hx hb dX1_solve_1 rfl (lv_at hl 1 rfl) ?_
  refine q_Vi (wr := [(hg, .inr (1, [.int 0, .int 0, .ref hrw, .int 0, .ref wth]))]) [1] [0] hX hE hK hP hD hS hA hl.1 lk_X1_18 (c_clashCount l D cI cZ cP sa nw keys moms lens prts luds hnds lats knds rch spd unN unH ptn _) rfl rfl rfl rfl (by decide) 0 3 rfl rfl rfl rfl (Nat.le_of_ble_eq_true rfl) rfl rfl ⟨Nat.le_of_ble_eq_true rfl, Nat.le_of_ble_eq_true rfl⟩ ⟨Nat.le_of_ble_eq_true rfl, Nat.le_of_ble_eq_true rfl⟩ dX1_solve_2 (fun x_1 _ H locs h_1 hP hD hS => ?_)
  have hP : va_P D vwCl [(hg, .inr (1, [.int 0, .int 0, .ref hrw, .int 0, .ref wth])), (nw, .inr (3, [.int 2, .int 0, .ref keys, .ref moms, .ref lens, .ref prts, .ref luds, .ref hnds, .ref lats, .ref knds, .ref rch, .ref spd, .int 0, .int 0, .int 0, .ref unN, .ref unH, .ref ptn]))] H := hP
  have hD : va_D (va_A (w_gsolve cI cZ cP hg hrw wth nw keys moms lens prts luds hnds lats knds rch spd unN unH ptn p0) sz) [(hg, .inr (1, [.int 0, .int 0, .ref hrw, .int 0, .ref wth])), (nw, .inr (3, [.int 2, .int 0, .ref keys, .ref moms, .ref lens, .ref prts, .ref luds, .ref hnds, .ref lats, .ref knds, .ref rch, .ref spd, .int 0, .int 0, .int 0, .ref unN, .ref unH, .ref ptn]))] := hD
  subst h_1
  refine va_put (D := D) (ci := 1) (v := .int 0) (ty := .int) (C := RX1) (T := TX1) (N := 5) hx hb ht inX1 tyX1 tyX1_ok nmX1 hown hK hP hD hS 0 rfl rfl 3 (Nat.le_of_ble_eq_true rfl) (ht _ kw_244) (fun _ h9 => h9) rfl (by decide +kernel) rfl rfl (Nat.le_of_ble_eq_true rfl) dX1_solve_5 (fun H locs hP hD hS => ?_)
  have hP : va_P D vwCl [(hg, .inr (1, [.int 0, .int 0, .ref hrw, .int 0, .ref wth])), (nw, .inr (3, [.int 2, .int 0, .ref keys, .ref moms, .ref lens, .ref prts, .ref luds, .ref hnds, .ref lats, .ref knds, .ref rch, .ref spd, .int 0, .int 0, .int 0, .ref unN, .ref unH, .ref ptn]))] H := hP
  have hD : va_D (va_A (w_gsolve cI cZ cP hg hrw wth nw keys moms lens prts luds hnds lats knds rch spd unN unH ptn p0) sz) [(hg, .inr (1, [.int 0, .int 0, .ref hrw, .int 0, .ref wth])), (nw, .inr (3, [.int 2, .int 0, .ref keys, .ref moms, .ref lens, .ref prts, .ref luds, .ref hnds, .ref lats, .ref knds, .ref rch, .ref spd, .int 0, .int 0, .int 0, .ref unN, .ref unH, .ref ptn]))] := hD
  refine lv_aload_n hx hb dX1_solve_8 rfl (lv_at hl 0 rfl) ?_
  refine lv_aload_n hx hb dX1_solve_9 rfl (lv_at hl 0 rfl) ?_
  refine va_get (D := D) (ci := 1) (v := .int 0) (C := RX1) (T := TX1) (N := 5) hx hb ht inX1 hown hK hP 0 rfl rfl 3 (Nat.le_of_ble_eq_true rfl) (ht _ kw_244) (fun _ h9 => h9) rfl dX1_solve_10 ?_
  refine va_put (D := D) (ci := 1) (v := .int 0) (ty := .int) (C := RX1) (T := TX1) (N := 5) hx hb ht inX1 tyX1 tyX1_ok nmX1 hown hK hP hD hS 0 rfl rfl 0 (Nat.le_of_ble_eq_true rfl) (ht _ kw_238) (fun _ h9 => h9) rfl (by decide +kernel) rfl rfl (Nat.le_of_ble_eq_true rfl) dX1_solve_13 (fun H locs hP hD hS => ?_)
  have hP : va_P D vwCl [(hg, .inr (1, [.int 0, .int 0, .ref hrw, .int 0, .ref wth])), (nw, .inr (3, [.int 2, .int 0, .ref keys, .ref moms, .ref lens, .ref prts, .ref luds, .ref hnds, .ref lats, .ref knds, .ref rch, .ref spd, .int 0, .int 0, .int 0, .ref unN, .ref unH, .ref ptn]))] H := hP
  have hD : va_D (va_A (w_gsolve cI cZ cP hg hrw wth nw keys moms lens prts luds hnds lats knds rch spd unN unH ptn p0) sz) [(hg, .inr (1, [.int 0, .int 0, .ref hrw, .int 0, .ref wth])), (nw, .inr (3, [.int 2, .int 0, .ref keys, .ref moms, .ref lens, .ref prts, .ref luds, .ref hnds, .ref lats, .ref knds, .ref rch, .ref spd, .int 0, .int 0, .int 0, .ref unN, .ref unH, .ref ptn]))] := hD
  refine lv_aload_n hx hb dX1_solve_16 rfl (lv_at hl 0 rfl) ?_
  refine lv_iconst (v := 0) hx hb dX1_solve_17 (by decide) ?_
  refine va_put (D := D) (ci := 1) (v := .int 0) (ty := .int) (C := RX1) (T := TX1) (N := 5) hx hb ht inX1 tyX1 tyX1_ok nmX1 hown hK hP hD hS 0 rfl rfl 1 (Nat.le_of_ble_eq_true rfl) (ht _ kw_240) (fun _ h9 => h9) rfl (by decide +kernel) rfl rfl (Nat.le_of_ble_eq_true rfl) dX1_solve_18 (fun H locs hP hD hS => ?_)
  have hP : va_P D vwCl [(hg, .inr (1, [.int 0, .int 0, .ref hrw, .int 0, .ref wth])), (nw, .inr (3, [.int 2, .int 0, .ref keys, .ref moms, .ref lens, .ref prts, .ref luds, .ref hnds, .ref lats, .ref knds, .ref rch, .ref spd, .int 0, .int 0, .int 0, .ref unN, .ref unH, .ref ptn]))] H := hP
  have hD : va_D (va_A (w_gsolve cI cZ cP hg hrw wth nw keys moms lens prts luds hnds lats knds rch spd unN unH ptn p0) sz) [(hg, .inr (1, [.int 0, .int 0, .ref hrw, .int 0, .ref wth])), (nw, .inr (3, [.int 2, .int 0, .ref keys, .ref moms, .ref lens, .ref prts, .ref luds, .ref hnds, .ref lats, .ref knds, .ref rch, .ref spd, .int 0, .int 0, .int 0, .ref unN, .ref unH, .ref ptn]))] := hD
  refine lv_aload_n hx hb dX1_solve_21 rfl (lv_at hl 0 rfl) ?_
  refine lv_aload_n hx hb dX1_solve_22 rfl (lv_at hl 1 rfl) ?_
  refine q_Vv (wr := []) [0, 1] [] hX hE hK hP hD hS hA hl.1 lk_X1_34 (c_countAll l D cI cZ cP sa hg hrw wth nw keys moms lens prts luds hnds lats knds rch spd unN unH ptn _) rfl rfl rfl rfl (by decide) 0 1 rfl rfl rfl rfl (Nat.le_of_ble_eq_true rfl) rfl rfl ⟨Nat.le_of_ble_eq_true rfl, Nat.le_of_ble_eq_true rfl⟩ ⟨Nat.le_of_ble_eq_true rfl, Nat.le_of_ble_eq_true rfl⟩ dX1_solve_23 (fun _ H locs h_2 hP hD hS => ?_)
  have hP : va_P D vwCl [(hg, .inr (1, [.int 0, .int 0, .ref hrw, .int 0, .ref wth])), (nw, .inr (3, [.int 2, .int 0, .ref keys, .ref moms, .ref lens, .ref prts, .ref luds, .ref hnds, .ref lats, .ref knds, .ref rch, .ref spd, .int 0, .int 0, .int 0, .ref unN, .ref unH, .ref ptn]))] H := hP
  have hD : va_D (va_A (w_gsolve cI cZ cP hg hrw wth nw keys moms lens prts luds hnds lats knds rch spd unN unH ptn p0) sz) [(hg, .inr (1, [.int 0, .int 0, .ref hrw, .int 0, .ref wth])), (nw, .inr (3, [.int 2, .int 0, .ref keys, .ref moms, .ref lens, .ref prts, .ref luds, .ref hnds, .ref lats, .ref knds, .ref rch, .ref spd, .int 0, .int 0, .int 0, .ref unN, .ref unH, .ref ptn]))] := hD
  refine lv_iconst (v := 1) hx hb dX1_solve_26 (by decide) ?_
  refine lv_istore_n (lv' := [(3, .int 1), (0, .ref hg), (1, .ref nw), (2, .int p0)]) hx hb dX1_solve_27 rfl hl (by decide) rfl (fun ls hl => ?_)
  have lp_28 : ∀ (n_28 : Nat) (k : Nat), (k ≤ 3) → (4 ≤ k + n_28) → ∀ (H : Heap) (locs : List Loc) (ls : Array Slot), va_P D vwCl [(hg, .inr (1, [.int 0, .int 0, .ref hrw, .int 0, .ref wth])), (nw, .inr (3, [.int 2, .int 0, .ref keys, .ref moms, .ref lens, .ref prts, .ref luds, .ref hnds, .ref lats, .ref knds, .ref rch, .ref spd, .int 0, .int 0, .int 0, .ref unN, .ref unH, .ref ptn]))] H → va_D (va_A (w_gsolve cI cZ cP hg hrw wth nw keys moms lens prts luds hnds lats knds rch spd unN unH ptn p0) sz) [(hg, .inr (1, [.int 0, .int 0, .ref hrw, .int 0, .ref wth])), (nw, .inr (3, [.int 2, .int 0, .ref keys, .ref moms, .ref lens, .ref prts, .ref luds, .ref hnds, .ref lats, .ref knds, .ref rch, .ref spd, .int 0, .int 0, .int 0, .ref unN, .ref unH, .ref ptn]))] → va_S (va_A (w_gsolve cI cZ cP hg hrw wth nw keys moms lens prts luds hnds lats knds rch spd unN unH ptn p0) sz) s.heap H locs → lv_has ls 6 [(3, .int (nI k)), (0, .ref hg), (1, .ref nw), (2, .int p0)] → W p l e ({ frames := 1, cells := 0, slots := 0, locals := 23 } : Room) s m ([.ref hg, .ref nw, .int p0] : List Value).toArray below meth c H locs 0 0 (MQ below (qQv D (w_gsolve cI cZ cP hg hrw wth nw keys moms lens prts luds hnds lats knds rch spd unN unH ptn p0) sz (fun _ : Unit => True) (fun _ => [(hg, .inr (1, [.int 0, .int 0, .ref hrw, .int 0, .ref wth]))])) ([.ref hg, .ref nw, .int p0] : List Value).toArray s 0 0 (va_A (w_gsolve cI cZ cP hg hrw wth nw keys moms lens prts luds hnds lats knds rch spd unN unH ptn p0) sz)) (F0 m 28 ls []) := by
    intro n_28
    induction n_28 with
    | zero => intro k hk hm_28; exact absurd hm_28 (by omega)
    | succ n_28 ih_28 =>
      intro k hk hm_28 H locs ls hP hD hS hl
      refine lv_iload_n hx hb dX1_solve_28 rfl (lv_at hl 0 rfl) ?_
      refine lv_iload_n hx hb dX1_solve_29 rfl (lv_at hl 3 rfl) ?_
      refine lv_icmp_gt (tgt := 94) hx hb dX1_solve_30 (by decide) (fun c_3 => ?_) (fun c_3 => ?_)
      · exact q_vret hX hr hlk () trivial (hP.sub [0] rfl) (hD.sub [0] (by decide) rfl) hS dX1_solve_94
      · have hk2 : k ≤ 2 := nI_up c_3 h0.2 (by decide) (by omega)
        refine lv_iconst (v := 0) hx hb dX1_solve_33 (by decide) ?_
        refine lv_istore (lv' := [(4, .int 0), (3, .int (nI k)), (0, .ref hg), (1, .ref nw), (2, .int p0)]) hx hb dX1_solve_34 hl (by decide) rfl (fun ls hl => ?_)
        refine lv_iload hx hb dX1_solve_36 (lv_at hl 0 rfl) ?_
        refine lv_aload_n hx hb dX1_solve_38 rfl (lv_at hl 3 rfl) ?_
        refine va_get (D := D) (ci := 3) (v := .int 0) (C := RX3) (T := TX3) (N := 18) hx hb ht inX3 hown hK hP 1 rfl rfl 1 (Nat.le_of_ble_eq_true rfl) (ht _ kw_124) (fun _ h9 => h9) rfl dX1_solve_39 ?_
        refine lv_icmp_ge (tgt := 88) hx hb dX1_solve_42 (by decide) (fun _ => ?_) (fun c_4 => absurd (by decide) c_4)
        refine lv_iinc (v := (nI (k + 1))) (lv' := [(3, .int (nI (k + 1))), (4, .int 0), (0, .ref hg), (1, .ref nw), (2, .int p0)]) hx hb dX1_solve_88 hl (k := 1) rfl (nI_1 k) (by decide) rfl (fun ls hl => ?_)
        refine lv_goto (tgt := 28) hx hb dX1_solve_91 (by decide) ?_
        exact ih_28 (k + 1) (by omega) (by omega) _ _ _ hP hD hS (lv_sub hl [0, 2, 3, 4] rfl)
  exact lp_28 3 1 (by omega) (by omega) _ _ _ hP hD hS (lv_sub hl [0, 1, 2, 3] rfl)
abbrev w_given (cI cZ cP : ClassId) (x0 : Nat) (nw : Nat) (sp : Nat) (im : Nat) (sc : Nat) (hg : Nat) (fg : Nat) (pg : Nat) (pr : Nat) (keys : Nat) (moms : Nat) (lens : Nat) (prts : Nat) (luds : Nat) (hnds : Nat) (lats : Nat) (knds : Nat) (rch : Nat) (spd : Nat) (unN : Nat) (unH : Nat) (ptn : Nat) (hrw : Nat) (wth : Nat) (p0 : Int32) (p1 : Int32) : va_W := [(x0, .inr (6, [.ref nw, .ref sp, .ref im, .ref sc, .ref hg, .ref fg, .ref pg, .ref pr, .int 0, .long 0, .long 1, .int 0, .int 0, .int 0])), (nw, .inr (3, [.int 2, .int 0, .ref keys, .ref moms, .ref lens, .ref prts, .ref luds, .ref hnds, .ref lats, .ref knds, .ref rch, .ref spd, .int 0, .int 0, .int 0, .ref unN, .ref unH, .ref ptn])), (hg, .inr (1, [.int 0, .int 0, .ref hrw, .int 0, .ref wth]))]
set_option maxHeartbeats 4000000 in
set_option maxRecDepth 100000 in
theorem c_given (l : Launch) (D : va_G) (cI cZ cP : ClassId) (sa : Nat → Nat) (x0 : Nat) (nw : Nat) (sp : Nat) (im : Nat) (sc : Nat) (hg : Nat) (fg : Nat) (pg : Nat) (pr : Nat) (keys : Nat) (moms : Nat) (lens : Nat) (prts : Nat) (luds : Nat) (hnds : Nat) (lats : Nat) (knds : Nat) (rch : Nat) (spd : Nat) (unN : Nat) (unH : Nat) (ptn : Nat) (hrw : Nat) (wth : Nat) (p0 : Int32) (p1 : Int32) (sz : Nat) : Met l yX6_given (qW yX6_given cX6_given 3 (some .int)) ({ frames := 2, cells := 0, slots := 0, locals := 48 } : Room) (qP D (TY cI cZ cP) sa [.ref x0, .int p0, .int p1] (w_given cI cZ cP x0 nw sp im sc hg fg pg pr keys moms lens prts luds hnds lats knds rch spd unN unH ptn hrw wth p0 p1) sz) (qQi D (w_given cI cZ cP x0 nw sp im sc hg fg pg pr keys moms lens prts luds hnds lats knds rch spd unN unH ptn hrw wth p0 p1) sz (fun (r : Int32) (_ : Unit) => r = sp_given p0 p1) (fun _ => [])) 0 0 (va_A (w_given cI cZ cP x0 nw sp im sc hg fg pg pr keys moms lens prts luds hnds lats knds rch spd unN unH ptn hrw wth p0 p1) sz) := by
  refine q_enter (by decide) (Nat.le_of_ble_eq_true rfl) ?_
  intro p e s m below meth c ls hX hr hlk hnm hE hK hP hD hS hA hl
  obtain ⟨hx, hb, hml, hown, ht⟩ := id hX
  have hl : lv_has ls 3 [(0, .ref x0), (1, .int p0), (2, .int p1)] := hl
  refine lv_iload_n hx hb dX6_given_0 rfl (lv_at hl 1 rfl) ?_
  refine lv_iconst (v := 0) hx hb dX6_given_1 (by decide) ?_
  refine lv_iconst (v := 2) hx hb dX6_given_2 (by decide) ?_
  refine q_Si (wr := [(x0, .inr (6, [.ref nw, .ref sp, .ref im, .ref sc, .ref hg, .ref fg, .ref pg, .ref pr, .int 0, .long 0, .long 1, .int 0, .int 0, .int 0])), (nw, .inr (3, [.int 2, .int 0, .ref keys, .ref moms, .ref lens, .ref prts, .ref luds, .ref hnds, .ref lats, .ref knds, .ref rch, .ref spd, .int 0, .int 0, .int 0, .ref unN, .ref unH, .ref ptn])), (hg, .inr (1, [.int 0, .int 0, .ref hrw, .int 0, .ref wth]))]) [] [0, 1, 2] hX hE hK hP hD hS hA hl.1 lk_X6_62 (c_within l D cI cZ cP sa p0 0 2 _) rfl rfl rfl rfl (by decide) rfl rfl (Nat.le_of_ble_eq_true rfl) rfl rfl ⟨Nat.le_of_ble_eq_true rfl, Nat.le_of_ble_eq_true rfl⟩ ⟨Nat.le_of_ble_eq_true rfl, Nat.le_of_ble_eq_true rfl⟩ dX6_given_3 (fun x_1 _ H locs h_1 hP hD hS => ?_)
  have hP : va_P D vwCl [(x0, .inr (6, [.ref nw, .ref sp, .ref im, .ref sc, .ref hg, .ref fg, .ref pg, .ref pr, .int 0, .long 0, .long 1, .int 0, .int 0, .int 0])), (nw, .inr (3, [.int 2, .int 0, .ref keys, .ref moms, .ref lens, .ref prts, .ref luds, .ref hnds, .ref lats, .ref knds, .ref rch, .ref spd, .int 0, .int 0, .int 0, .ref unN, .ref unH, .ref ptn])), (hg, .inr (1, [.int 0, .int 0, .ref hrw, .int 0, .ref wth]))] H := hP
  have hD : va_D (va_A (w_given cI cZ cP x0 nw sp im sc hg fg pg pr keys moms lens prts luds hnds lats knds rch spd unN unH ptn hrw wth p0 p1) sz) [(x0, .inr (6, [.ref nw, .ref sp, .ref im, .ref sc, .ref hg, .ref fg, .ref pg, .ref pr, .int 0, .long 0, .long 1, .int 0, .int 0, .int 0])), (nw, .inr (3, [.int 2, .int 0, .ref keys, .ref moms, .ref lens, .ref prts, .ref luds, .ref hnds, .ref lats, .ref knds, .ref rch, .ref spd, .int 0, .int 0, .int 0, .ref unN, .ref unH, .ref ptn])), (hg, .inr (1, [.int 0, .int 0, .ref hrw, .int 0, .ref wth]))] := hD
  rcases Classical.em (0 ≤ p0 ∧ p0 ≤ 2) with c_1 | c_1
  · rw [if_pos c_1] at h_1; subst h_1
    refine lv_if_eq (tgt := 14) hx hb dX6_given_6 (by decide) (fun c_2 => absurd c_2 (by decide)) (fun _ => ?_)
    refine lv_iload_n hx hb dX6_given_9 rfl (lv_at hl 2 rfl) ?_
    refine lv_iconst (v := (-1)) hx hb dX6_given_10 (by decide) ?_
    refine lv_icmp_ge (tgt := 21) hx hb dX6_given_11 (by decide) (fun c_3 => ?_) (fun c_3 => ?_)
    · refine lv_aload_n hx hb dX6_given_21 rfl (lv_at hl 0 rfl) ?_
      refine va_get (D := D) (ci := 6) (v := .ref hg) (C := RX6) (T := TX6) (N := 14) hx hb ht inX6 hown hK hP 0 rfl rfl 4 (Nat.le_of_ble_eq_true rfl) (ht _ kw_341) (fun _ h9 => h9) rfl dX6_given_22 ?_
      refine lv_aload_n hx hb dX6_given_25 rfl (lv_at hl 0 rfl) ?_
      refine va_get (D := D) (ci := 6) (v := .ref nw) (C := RX6) (T := TX6) (N := 14) hx hb ht inX6 hown hK hP 0 rfl rfl 0 (Nat.le_of_ble_eq_true rfl) (ht _ kw_337) (fun _ h9 => h9) rfl dX6_given_26 ?_
      refine lv_iload_n hx hb dX6_given_29 rfl (lv_at hl 1 rfl) ?_
      refine q_Vv (wr := [(x0, .inr (6, [.ref nw, .ref sp, .ref im, .ref sc, .ref hg, .ref fg, .ref pg, .ref pr, .int 0, .long 0, .long 1, .int 0, .int 0, .int 0]))]) [2, 1] [0] hX hE hK hP hD hS hA hl.1 lk_X6_168 (c_gsolve l D cI cZ cP sa hg hrw wth nw keys moms lens prts luds hnds lats knds rch spd unN unH ptn p0 c_1 _) rfl rfl rfl rfl (by decide) 0 1 rfl rfl rfl rfl (Nat.le_of_ble_eq_true rfl) rfl rfl ⟨Nat.le_of_ble_eq_true rfl, Nat.le_of_ble_eq_true rfl⟩ ⟨Nat.le_of_ble_eq_true rfl, Nat.le_of_ble_eq_true rfl⟩ dX6_given_30 (fun _ H locs h_4 hP hD hS => ?_)
      have hP : va_P D vwCl [(x0, .inr (6, [.ref nw, .ref sp, .ref im, .ref sc, .ref hg, .ref fg, .ref pg, .ref pr, .int 0, .long 0, .long 1, .int 0, .int 0, .int 0])), (hg, .inr (1, [.int 0, .int 0, .ref hrw, .int 0, .ref wth]))] H := hP
      have hD : va_D (va_A (w_given cI cZ cP x0 nw sp im sc hg fg pg pr keys moms lens prts luds hnds lats knds rch spd unN unH ptn hrw wth p0 p1) sz) [(x0, .inr (6, [.ref nw, .ref sp, .ref im, .ref sc, .ref hg, .ref fg, .ref pg, .ref pr, .int 0, .long 0, .long 1, .int 0, .int 0, .int 0])), (hg, .inr (1, [.int 0, .int 0, .ref hrw, .int 0, .ref wth]))] := hD
      refine lv_iload_n hx hb dX6_given_33 rfl (lv_at hl 2 rfl) ?_
      refine lv_iconst (v := (-1)) hx hb dX6_given_34 (by decide) ?_
      refine lv_icmp_ne (tgt := 46) hx hb dX6_given_35 (by decide) (fun c_5 => ?_) (fun c_5 => ?_)
      · refine lv_iload_n hx hb dX6_given_46 rfl (lv_at hl 2 rfl) ?_
        refine lv_aload_n hx hb dX6_given_47 rfl (lv_at hl 0 rfl) ?_
        refine va_get (D := D) (ci := 6) (v := .ref hg) (C := RX6) (T := TX6) (N := 14) hx hb ht inX6 hown hK hP 0 rfl rfl 4 (Nat.le_of_ble_eq_true rfl) (ht _ kw_341) (fun _ h9 => h9) rfl dX6_given_48 ?_
        refine va_get (D := D) (ci := 1) (v := .int 0) (C := RX1) (T := TX1) (N := 5) hx hb ht inX1 hown hK hP 1 rfl rfl 1 (Nat.le_of_ble_eq_true rfl) (ht _ kw_241) (fun _ h9 => h9) rfl dX6_given_51 ?_
        refine lv_icmp_ge (tgt := 74) hx hb dX6_given_54 (by decide) (fun _ => ?_) (fun c_6 => absurd (ge0 c_3 c_5) c_6)
        refine lv_bipush (v := (-5)) hx hb dX6_given_74 (by decide) ?_
        exact q_iret hX hr hlk () (by simp [sp_given, c_1, c_3, c_5]) (hP.sub [] rfl) (hD.sub [] (by decide) rfl) hS dX6_given_76
      · refine lv_aload_n hx hb dX6_given_38 rfl (lv_at hl 0 rfl) ?_
        refine va_get (D := D) (ci := 6) (v := .ref hg) (C := RX6) (T := TX6) (N := 14) hx hb ht inX6 hown hK hP 0 rfl rfl 4 (Nat.le_of_ble_eq_true rfl) (ht _ kw_341) (fun _ h9 => h9) rfl dX6_given_39 ?_
        refine va_get (D := D) (ci := 1) (v := .int 0) (C := RX1) (T := TX1) (N := 5) hx hb ht inX1 hown hK hP 1 rfl rfl 0 (Nat.le_of_ble_eq_true rfl) (ht _ kw_239) (fun _ h9 => h9) rfl dX6_given_42 ?_
        exact q_iret hX hr hlk () (by simp [sp_given, c_1, c_3, c_5]) (hP.sub [] rfl) (hD.sub [] (by decide) rfl) hS dX6_given_45
    · refine lv_aload_n hx hb dX6_given_14 rfl (lv_at hl 0 rfl) ?_
      refine lv_bipush (v := (-10)) hx hb dX6_given_15 (by decide) ?_
      refine q_Vi (wr := [(nw, .inr (3, [.int 2, .int 0, .ref keys, .ref moms, .ref lens, .ref prts, .ref luds, .ref hnds, .ref lats, .ref knds, .ref rch, .ref spd, .int 0, .int 0, .int 0, .ref unN, .ref unH, .ref ptn])), (hg, .inr (1, [.int 0, .int 0, .ref hrw, .int 0, .ref wth]))]) [0] [1, 2] hX hE hK hP hD hS hA hl.1 lk_X6_66 (c_refuseBad l D cI cZ cP sa x0 nw sp im sc hg fg pg pr 0 0 1 0 0 0 (-10) _) rfl rfl rfl rfl (by decide) 0 6 rfl rfl rfl rfl (Nat.le_of_ble_eq_true rfl) rfl rfl ⟨Nat.le_of_ble_eq_true rfl, Nat.le_of_ble_eq_true rfl⟩ ⟨Nat.le_of_ble_eq_true rfl, Nat.le_of_ble_eq_true rfl⟩ dX6_given_17 (fun x_7 _ H locs h_7 hP hD hS => ?_)
      have hP : va_P D vwCl [(nw, .inr (3, [.int 2, .int 0, .ref keys, .ref moms, .ref lens, .ref prts, .ref luds, .ref hnds, .ref lats, .ref knds, .ref rch, .ref spd, .int 0, .int 0, .int 0, .ref unN, .ref unH, .ref ptn])), (hg, .inr (1, [.int 0, .int 0, .ref hrw, .int 0, .ref wth]))] H := hP
      have hD : va_D (va_A (w_given cI cZ cP x0 nw sp im sc hg fg pg pr keys moms lens prts luds hnds lats knds rch spd unN unH ptn hrw wth p0 p1) sz) [(nw, .inr (3, [.int 2, .int 0, .ref keys, .ref moms, .ref lens, .ref prts, .ref luds, .ref hnds, .ref lats, .ref knds, .ref rch, .ref spd, .int 0, .int 0, .int 0, .ref unN, .ref unH, .ref ptn])), (hg, .inr (1, [.int 0, .int 0, .ref hrw, .int 0, .ref wth]))] := hD
      subst h_7
      exact q_iret hX hr hlk () (by simp [sp_given, c_1, c_3]) (hP.sub [] rfl) (hD.sub [] (by decide) rfl) hS dX6_given_20
  · rw [if_neg c_1] at h_1; subst h_1
    refine lv_if_eq (tgt := 14) hx hb dX6_given_6 (by decide) (fun _ => ?_) (fun c_8 => absurd (by decide) c_8)
    refine lv_aload_n hx hb dX6_given_14 rfl (lv_at hl 0 rfl) ?_
    refine lv_bipush (v := (-10)) hx hb dX6_given_15 (by decide) ?_
    refine q_Vi (wr := [(nw, .inr (3, [.int 2, .int 0, .ref keys, .ref moms, .ref lens, .ref prts, .ref luds, .ref hnds, .ref lats, .ref knds, .ref rch, .ref spd, .int 0, .int 0, .int 0, .ref unN, .ref unH, .ref ptn])), (hg, .inr (1, [.int 0, .int 0, .ref hrw, .int 0, .ref wth]))]) [0] [1, 2] hX hE hK hP hD hS hA hl.1 lk_X6_66 (c_refuseBad l D cI cZ cP sa x0 nw sp im sc hg fg pg pr 0 0 1 0 0 0 (-10) _) rfl rfl rfl rfl (by decide) 0 6 rfl rfl rfl rfl (Nat.le_of_ble_eq_true rfl) rfl rfl ⟨Nat.le_of_ble_eq_true rfl, Nat.le_of_ble_eq_true rfl⟩ ⟨Nat.le_of_ble_eq_true rfl, Nat.le_of_ble_eq_true rfl⟩ dX6_given_17 (fun x_9 _ H locs h_9 hP hD hS => ?_)
    have hP : va_P D vwCl [(nw, .inr (3, [.int 2, .int 0, .ref keys, .ref moms, .ref lens, .ref prts, .ref luds, .ref hnds, .ref lats, .ref knds, .ref rch, .ref spd, .int 0, .int 0, .int 0, .ref unN, .ref unH, .ref ptn])), (hg, .inr (1, [.int 0, .int 0, .ref hrw, .int 0, .ref wth]))] H := hP
    have hD : va_D (va_A (w_given cI cZ cP x0 nw sp im sc hg fg pg pr keys moms lens prts luds hnds lats knds rch spd unN unH ptn hrw wth p0 p1) sz) [(nw, .inr (3, [.int 2, .int 0, .ref keys, .ref moms, .ref lens, .ref prts, .ref luds, .ref hnds, .ref lats, .ref knds, .ref rch, .ref spd, .int 0, .int 0, .int 0, .ref unN, .ref unH, .ref ptn])), (hg, .inr (1, [.int 0, .int 0, .ref hrw, .int 0, .ref wth]))] := hD
    subst h_9
    exact q_iret hX hr hlk () (by simp [sp_given, c_1]) (hP.sub [] rfl) (hD.sub [] (by decide) rfl) hS dX6_given_20
abbrev w_bitCount0 (cI cZ cP : ClassId) : va_W := []
set_option maxHeartbeats 4000000 in
set_option maxRecDepth 100000 in
theorem c_bitCount0 (l : Launch) (D : va_G) (cI cZ cP : ClassId) (sa : Nat → Nat) (sz : Nat) : Met l yJ6_bitCount_0f7a4 (qW yJ6_bitCount_0f7a4 cJ6_bitCount_0f7a4 1 (some .int)) ({ frames := 0, cells := 0, slots := 0, locals := 0 } : Room) (qP D (TY cI cZ cP) sa [.int 0] (w_bitCount0 cI cZ cP) sz) (qQi D (w_bitCount0 cI cZ cP) sz (fun (r : Int32) (_ : Unit) => r = 0) (fun _ => [])) 0 0 (va_A (w_bitCount0 cI cZ cP) sz) := by
  refine q_enter (by decide) (Nat.le_of_ble_eq_true rfl) ?_
  intro p e s m below meth c ls hX hr hlk hnm hE hK hP hD hS hA hl
  obtain ⟨hx, hb, hml, hown, ht⟩ := id hX
  have hl : lv_has ls 1 [(0, .int 0)] := hl
  refine lv_iload_n hx hb dJ6_bitCount_0f7a4_0 rfl (lv_at hl 0 rfl) ?_
  refine lv_iload_n hx hb dJ6_bitCount_0f7a4_1 rfl (lv_at hl 0 rfl) ?_
  refine lv_iconst (v := 1) hx hb dJ6_bitCount_0f7a4_2 (by decide) ?_
  refine lv_iushr (v := 0) hx hb dJ6_bitCount_0f7a4_3 (by decide) ?_
  refine lv_ldcw hx hb hown (ht _ kw_688) dJ6_bitCount_0f7a4_4 ?_
  refine lv_iand hx hb dJ6_bitCount_0f7a4_7 ?_
  refine q_i (z := 0) (by decide) ?_
  refine lv_isub hx hb dJ6_bitCount_0f7a4_8 ?_
  refine q_i (z := 0) (by decide) ?_
  refine lv_istore_n (lv' := [(0, .int 0)]) hx hb dJ6_bitCount_0f7a4_9 rfl hl (by decide) rfl (fun ls hl => ?_)
  refine lv_iload_n hx hb dJ6_bitCount_0f7a4_10 rfl (lv_at hl 0 rfl) ?_
  refine lv_ldcw hx hb hown (ht _ kw_689) dJ6_bitCount_0f7a4_11 ?_
  refine lv_iand hx hb dJ6_bitCount_0f7a4_14 ?_
  refine q_i (z := 0) (by decide) ?_
  refine lv_iload_n hx hb dJ6_bitCount_0f7a4_15 rfl (lv_at hl 0 rfl) ?_
  refine lv_iconst (v := 2) hx hb dJ6_bitCount_0f7a4_16 (by decide) ?_
  refine lv_iushr (v := 0) hx hb dJ6_bitCount_0f7a4_17 (by decide) ?_
  refine lv_ldcw hx hb hown (ht _ kw_689) dJ6_bitCount_0f7a4_18 ?_
  refine lv_iand hx hb dJ6_bitCount_0f7a4_21 ?_
  refine q_i (z := 0) (by decide) ?_
  refine lv_iadd hx hb dJ6_bitCount_0f7a4_22 ?_
  refine q_i (z := 0) (by decide) ?_
  refine lv_istore_n (lv' := [(0, .int 0)]) hx hb dJ6_bitCount_0f7a4_23 rfl hl (by decide) rfl (fun ls hl => ?_)
  refine lv_iload_n hx hb dJ6_bitCount_0f7a4_24 rfl (lv_at hl 0 rfl) ?_
  refine lv_iload_n hx hb dJ6_bitCount_0f7a4_25 rfl (lv_at hl 0 rfl) ?_
  refine lv_iconst (v := 4) hx hb dJ6_bitCount_0f7a4_26 (by decide) ?_
  refine lv_iushr (v := 0) hx hb dJ6_bitCount_0f7a4_27 (by decide) ?_
  refine lv_iadd hx hb dJ6_bitCount_0f7a4_28 ?_
  refine q_i (z := 0) (by decide) ?_
  refine lv_ldcw hx hb hown (ht _ kw_690) dJ6_bitCount_0f7a4_29 ?_
  refine lv_iand hx hb dJ6_bitCount_0f7a4_32 ?_
  refine q_i (z := 0) (by decide) ?_
  refine lv_istore_n (lv' := [(0, .int 0)]) hx hb dJ6_bitCount_0f7a4_33 rfl hl (by decide) rfl (fun ls hl => ?_)
  refine lv_iload_n hx hb dJ6_bitCount_0f7a4_34 rfl (lv_at hl 0 rfl) ?_
  refine lv_iload_n hx hb dJ6_bitCount_0f7a4_35 rfl (lv_at hl 0 rfl) ?_
  refine lv_bipush (v := 8) hx hb dJ6_bitCount_0f7a4_36 (by decide) ?_
  refine lv_iushr (v := 0) hx hb dJ6_bitCount_0f7a4_38 (by decide) ?_
  refine lv_iadd hx hb dJ6_bitCount_0f7a4_39 ?_
  refine q_i (z := 0) (by decide) ?_
  refine lv_istore_n (lv' := [(0, .int 0)]) hx hb dJ6_bitCount_0f7a4_40 rfl hl (by decide) rfl (fun ls hl => ?_)
  refine lv_iload_n hx hb dJ6_bitCount_0f7a4_41 rfl (lv_at hl 0 rfl) ?_
  refine lv_iload_n hx hb dJ6_bitCount_0f7a4_42 rfl (lv_at hl 0 rfl) ?_
  refine lv_bipush (v := 16) hx hb dJ6_bitCount_0f7a4_43 (by decide) ?_
  refine lv_iushr (v := 0) hx hb dJ6_bitCount_0f7a4_45 (by decide) ?_
  refine lv_iadd hx hb dJ6_bitCount_0f7a4_46 ?_
  refine q_i (z := 0) (by decide) ?_
  refine lv_istore_n (lv' := [(0, .int 0)]) hx hb dJ6_bitCount_0f7a4_47 rfl hl (by decide) rfl (fun ls hl => ?_)
  refine lv_iload_n hx hb dJ6_bitCount_0f7a4_48 rfl (lv_at hl 0 rfl) ?_
  refine lv_bipush (v := 63) hx hb dJ6_bitCount_0f7a4_49 (by decide) ?_
  refine lv_iand hx hb dJ6_bitCount_0f7a4_51 ?_
  refine q_i (z := 0) (by decide) ?_
  exact q_iret hX hr hlk () rfl (hP.sub [] rfl) (hD.sub [] (by decide) rfl) hS dJ6_bitCount_0f7a4_52
abbrev w_sortNotes (cI cZ cP : ClassId) (fg : Nat) (frw : Nat) (ord : Nat) (lst : Nat) (nw : Nat) (keys : Nat) (moms : Nat) (lens : Nat) (prts : Nat) (luds : Nat) (hnds : Nat) (lats : Nat) (knds : Nat) (rch : Nat) (spd : Nat) (unN : Nat) (unH : Nat) (ptn : Nat) (p0 : Int32) : va_W := [(fg, .inr (0, [.int 0, .int 0, .ref frw, .ref ord, .ref lst])), (nw, .inr (3, [.int 2, .int 0, .ref keys, .ref moms, .ref lens, .ref prts, .ref luds, .ref hnds, .ref lats, .ref knds, .ref rch, .ref spd, .int 0, .int 0, .int 0, .ref unN, .ref unH, .ref ptn]))]
set_option maxHeartbeats 4000000 in
set_option maxRecDepth 100000 in
theorem c_sortNotes (l : Launch) (D : va_G) (cI cZ cP : ClassId) (sa : Nat → Nat) (fg : Nat) (frw : Nat) (ord : Nat) (lst : Nat) (nw : Nat) (keys : Nat) (moms : Nat) (lens : Nat) (prts : Nat) (luds : Nat) (hnds : Nat) (lats : Nat) (knds : Nat) (rch : Nat) (spd : Nat) (unN : Nat) (unH : Nat) (ptn : Nat) (p0 : Int32) (sz : Nat) : Met l yX0_sortNotes (qW yX0_sortNotes cX0_sortNotes 5 none) ({ frames := 0, cells := 0, slots := 0, locals := 0 } : Room) (qP D (TY cI cZ cP) sa [.ref fg, .ref nw, .int p0] (w_sortNotes cI cZ cP fg frw ord lst nw keys moms lens prts luds hnds lats knds rch spd unN unH ptn p0) sz) (qQv D (w_sortNotes cI cZ cP fg frw ord lst nw keys moms lens prts luds hnds lats knds rch spd unN unH ptn p0) sz (fun _ : Unit => True) (fun _ => [(fg, .inr (0, [.int 0, .int 0, .ref frw, .ref ord, .ref lst])), (nw, .inr (3, [.int 2, .int 0, .ref keys, .ref moms, .ref lens, .ref prts, .ref luds, .ref hnds, .ref lats, .ref knds, .ref rch, .ref spd, .int 0, .int 0, .int 0, .ref unN, .ref unH, .ref ptn]))])) 0 0 (va_A (w_sortNotes cI cZ cP fg frw ord lst nw keys moms lens prts luds hnds lats knds rch spd unN unH ptn p0) sz) := by
  refine q_enter (by decide) (Nat.le_of_ble_eq_true rfl) ?_
  intro p e s m below meth c ls hX hr hlk hnm hE hK hP hD hS hA hl
  obtain ⟨hx, hb, hml, hown, ht⟩ := id hX
  have hl : lv_has ls 5 [(0, .ref fg), (1, .ref nw), (2, .int p0)] := hl
  refine lv_aload_n hx hb dX0_sortNotes_0 rfl (lv_at hl 0 rfl) ?_
  refine lv_iconst (v := 0) hx hb dX0_sortNotes_1 (by decide) ?_
  refine va_put (D := D) (ci := 0) (v := .int 0) (ty := .int) (C := RX0) (T := TX0) (N := 5) hx hb ht inX0 tyX0 tyX0_ok nmX0 hown hK hP hD hS 0 rfl rfl 0 (Nat.le_of_ble_eq_true rfl) (ht _ kw_263) (fun _ h9 => h9) rfl (by decide +kernel) rfl rfl (Nat.le_of_ble_eq_true rfl) dX0_sortNotes_2 (fun H locs hP hD hS => ?_)
  have hP : va_P D vwCl [(fg, .inr (0, [.int 0, .int 0, .ref frw, .ref ord, .ref lst])), (nw, .inr (3, [.int 2, .int 0, .ref keys, .ref moms, .ref lens, .ref prts, .ref luds, .ref hnds, .ref lats, .ref knds, .ref rch, .ref spd, .int 0, .int 0, .int 0, .ref unN, .ref unH, .ref ptn]))] H := hP
  have hD : va_D (va_A (w_sortNotes cI cZ cP fg frw ord lst nw keys moms lens prts luds hnds lats knds rch spd unN unH ptn p0) sz) [(fg, .inr (0, [.int 0, .int 0, .ref frw, .ref ord, .ref lst])), (nw, .inr (3, [.int 2, .int 0, .ref keys, .ref moms, .ref lens, .ref prts, .ref luds, .ref hnds, .ref lats, .ref knds, .ref rch, .ref spd, .int 0, .int 0, .int 0, .ref unN, .ref unH, .ref ptn]))] := hD
  refine lv_iconst (v := 0) hx hb dX0_sortNotes_5 (by decide) ?_
  refine lv_istore_n (lv' := [(3, .int 0), (0, .ref fg), (1, .ref nw), (2, .int p0)]) hx hb dX0_sortNotes_6 rfl hl (by decide) rfl (fun ls hl => ?_)
  refine lv_iload_n hx hb dX0_sortNotes_7 rfl (lv_at hl 0 rfl) ?_
  refine lv_aload_n hx hb dX0_sortNotes_8 rfl (lv_at hl 2 rfl) ?_
  refine va_get (D := D) (ci := 3) (v := .int 0) (C := RX3) (T := TX3) (N := 18) hx hb ht inX3 hown hK hP 1 rfl rfl 1 (Nat.le_of_ble_eq_true rfl) (ht _ kw_126) (fun _ h9 => h9) rfl dX0_sortNotes_9 ?_
  refine lv_icmp_ge (tgt := 112) hx hb dX0_sortNotes_12 (by decide) (fun _ => ?_) (fun c_1 => absurd (by decide) c_1)
  exact q_vret hX hr hlk () trivial (hP.sub [0, 1] rfl) (hD.sub [0, 1] (by decide) rfl) hS dX0_sortNotes_112
abbrev w_fsolve (cI cZ cP : ClassId) (fg : Nat) (frw : Nat) (ord : Nat) (lst : Nat) (nw : Nat) (keys : Nat) (moms : Nat) (lens : Nat) (prts : Nat) (luds : Nat) (hnds : Nat) (lats : Nat) (knds : Nat) (rch : Nat) (spd : Nat) (unN : Nat) (unH : Nat) (ptn : Nat) (p0 : Int32) : va_W := [(fg, .inr (0, [.int 0, .int 0, .ref frw, .ref ord, .ref lst])), (nw, .inr (3, [.int 2, .int 0, .ref keys, .ref moms, .ref lens, .ref prts, .ref luds, .ref hnds, .ref lats, .ref knds, .ref rch, .ref spd, .int 0, .int 0, .int 0, .ref unN, .ref unH, .ref ptn]))]
set_option maxHeartbeats 4000000 in
set_option maxRecDepth 100000 in
theorem c_fsolve (l : Launch) (D : va_G) (cI cZ cP : ClassId) (sa : Nat → Nat) (fg : Nat) (frw : Nat) (ord : Nat) (lst : Nat) (nw : Nat) (keys : Nat) (moms : Nat) (lens : Nat) (prts : Nat) (luds : Nat) (hnds : Nat) (lats : Nat) (knds : Nat) (rch : Nat) (spd : Nat) (unN : Nat) (unH : Nat) (ptn : Nat) (p0 : Int32) (sz : Nat) : Met l yX0_solve (qW yX0_solve cX0_solve 5 none) ({ frames := 1, cells := 0, slots := 0, locals := 24 } : Room) (qP D (TY cI cZ cP) sa [.ref fg, .ref nw, .int p0] (w_fsolve cI cZ cP fg frw ord lst nw keys moms lens prts luds hnds lats knds rch spd unN unH ptn p0) sz) (qQv D (w_fsolve cI cZ cP fg frw ord lst nw keys moms lens prts luds hnds lats knds rch spd unN unH ptn p0) sz (fun _ : Unit => True) (fun _ => [(fg, .inr (0, [.int 0, .int 0, .ref frw, .ref ord, .ref lst]))])) 0 0 (va_A (w_fsolve cI cZ cP fg frw ord lst nw keys moms lens prts luds hnds lats knds rch spd unN unH ptn p0) sz) := by
  refine q_enter (by decide) (Nat.le_of_ble_eq_true rfl) ?_
  intro p e s m below meth c ls hX hr hlk hnm hE hK hP hD hS hA hl
  obtain ⟨hx, hb, hml, hown, ht⟩ := id hX
  have hl : lv_has ls 5 [(0, .ref fg), (1, .ref nw), (2, .int p0)] := hl
  refine lv_aload_n hx hb dX0_solve_0 rfl (lv_at hl 0 rfl) ?_
  refine lv_aload_n hx hb dX0_solve_1 rfl (lv_at hl 1 rfl) ?_
  refine lv_iload_n hx hb dX0_solve_2 rfl (lv_at hl 2 rfl) ?_
  refine q_Vv (wr := []) [0, 1] [] hX hE hK hP hD hS hA hl.1 lk_X0_21 (c_sortNotes l D cI cZ cP sa fg frw ord lst nw keys moms lens prts luds hnds lats knds rch spd unN unH ptn p0 _) rfl rfl rfl rfl (by decide) 0 0 rfl rfl rfl rfl (Nat.le_of_ble_eq_true rfl) rfl rfl ⟨Nat.le_of_ble_eq_true rfl, Nat.le_of_ble_eq_true rfl⟩ ⟨Nat.le_of_ble_eq_true rfl, Nat.le_of_ble_eq_true rfl⟩ dX0_solve_3 (fun _ H locs h_1 hP hD hS => ?_)
  have hP : va_P D vwCl [(fg, .inr (0, [.int 0, .int 0, .ref frw, .ref ord, .ref lst])), (nw, .inr (3, [.int 2, .int 0, .ref keys, .ref moms, .ref lens, .ref prts, .ref luds, .ref hnds, .ref lats, .ref knds, .ref rch, .ref spd, .int 0, .int 0, .int 0, .ref unN, .ref unH, .ref ptn]))] H := hP
  have hD : va_D (va_A (w_fsolve cI cZ cP fg frw ord lst nw keys moms lens prts luds hnds lats knds rch spd unN unH ptn p0) sz) [(fg, .inr (0, [.int 0, .int 0, .ref frw, .ref ord, .ref lst])), (nw, .inr (3, [.int 2, .int 0, .ref keys, .ref moms, .ref lens, .ref prts, .ref luds, .ref hnds, .ref lats, .ref knds, .ref rch, .ref spd, .int 0, .int 0, .int 0, .ref unN, .ref unH, .ref ptn]))] := hD
  refine lv_aload_n hx hb dX0_solve_6 rfl (lv_at hl 0 rfl) ?_
  refine lv_iconst (v := 0) hx hb dX0_solve_7 (by decide) ?_
  refine va_put (D := D) (ci := 0) (v := .int 0) (ty := .int) (C := RX0) (T := TX0) (N := 5) hx hb ht inX0 tyX0 tyX0_ok nmX0 hown hK hP hD hS 0 rfl rfl 1 (Nat.le_of_ble_eq_true rfl) (ht _ kw_265) (fun _ h9 => h9) rfl (by decide +kernel) rfl rfl (Nat.le_of_ble_eq_true rfl) dX0_solve_8 (fun H locs hP hD hS => ?_)
  have hP : va_P D vwCl [(fg, .inr (0, [.int 0, .int 0, .ref frw, .ref ord, .ref lst])), (nw, .inr (3, [.int 2, .int 0, .ref keys, .ref moms, .ref lens, .ref prts, .ref luds, .ref hnds, .ref lats, .ref knds, .ref rch, .ref spd, .int 0, .int 0, .int 0, .ref unN, .ref unH, .ref ptn]))] H := hP
  have hD : va_D (va_A (w_fsolve cI cZ cP fg frw ord lst nw keys moms lens prts luds hnds lats knds rch spd unN unH ptn p0) sz) [(fg, .inr (0, [.int 0, .int 0, .ref frw, .ref ord, .ref lst])), (nw, .inr (3, [.int 2, .int 0, .ref keys, .ref moms, .ref lens, .ref prts, .ref luds, .ref hnds, .ref lats, .ref knds, .ref rch, .ref spd, .int 0, .int 0, .int 0, .ref unN, .ref unH, .ref ptn]))] := hD
  refine lv_aload_n hx hb dX0_solve_11 rfl (lv_at hl 0 rfl) ?_
  refine va_get (D := D) (ci := 0) (v := .int 0) (C := RX0) (T := TX0) (N := 5) hx hb ht inX0 hown hK hP 0 rfl rfl 0 (Nat.le_of_ble_eq_true rfl) (ht _ kw_263) (fun _ h9 => h9) rfl dX0_solve_12 ?_
  refine lv_if_ne (tgt := 19) hx hb dX0_solve_15 (by decide) (fun c_2 => absurd (by decide) c_2) (fun _ => ?_)
  exact q_vret hX hr hlk () trivial (hP.sub [0] rfl) (hD.sub [0] (by decide) rfl) hS dX0_solve_18
abbrev w_fingers (cI cZ cP : ClassId) (x0 : Nat) (nw : Nat) (sp : Nat) (im : Nat) (sc : Nat) (hg : Nat) (fg : Nat) (pg : Nat) (pr : Nat) (keys : Nat) (moms : Nat) (lens : Nat) (prts : Nat) (luds : Nat) (hnds : Nat) (lats : Nat) (knds : Nat) (rch : Nat) (spd : Nat) (unN : Nat) (unH : Nat) (ptn : Nat) (frw : Nat) (ord : Nat) (lst : Nat) (p0 : Int32) (p1 : Int32) : va_W := [(x0, .inr (6, [.ref nw, .ref sp, .ref im, .ref sc, .ref hg, .ref fg, .ref pg, .ref pr, .int 0, .long 0, .long 1, .int 0, .int 0, .int 0])), (nw, .inr (3, [.int 2, .int 0, .ref keys, .ref moms, .ref lens, .ref prts, .ref luds, .ref hnds, .ref lats, .ref knds, .ref rch, .ref spd, .int 0, .int 0, .int 0, .ref unN, .ref unH, .ref ptn])), (fg, .inr (0, [.int 0, .int 0, .ref frw, .ref ord, .ref lst]))]
set_option maxHeartbeats 4000000 in
set_option maxRecDepth 100000 in
theorem c_fingers (l : Launch) (D : va_G) (cI cZ cP : ClassId) (sa : Nat → Nat) (x0 : Nat) (nw : Nat) (sp : Nat) (im : Nat) (sc : Nat) (hg : Nat) (fg : Nat) (pg : Nat) (pr : Nat) (keys : Nat) (moms : Nat) (lens : Nat) (prts : Nat) (luds : Nat) (hnds : Nat) (lats : Nat) (knds : Nat) (rch : Nat) (spd : Nat) (unN : Nat) (unH : Nat) (ptn : Nat) (frw : Nat) (ord : Nat) (lst : Nat) (p0 : Int32) (p1 : Int32) (sz : Nat) : Met l yX6_fingers (qW yX6_fingers cX6_fingers 3 (some .int)) ({ frames := 2, cells := 0, slots := 0, locals := 48 } : Room) (qP D (TY cI cZ cP) sa [.ref x0, .int p0, .int p1] (w_fingers cI cZ cP x0 nw sp im sc hg fg pg pr keys moms lens prts luds hnds lats knds rch spd unN unH ptn frw ord lst p0 p1) sz) (qQi D (w_fingers cI cZ cP x0 nw sp im sc hg fg pg pr keys moms lens prts luds hnds lats knds rch spd unN unH ptn frw ord lst p0 p1) sz (fun (r : Int32) (_ : Unit) => r = sp_fingers p0 p1) (fun _ => [])) 0 0 (va_A (w_fingers cI cZ cP x0 nw sp im sc hg fg pg pr keys moms lens prts luds hnds lats knds rch spd unN unH ptn frw ord lst p0 p1) sz) := by
  refine q_enter (by decide) (Nat.le_of_ble_eq_true rfl) ?_
  intro p e s m below meth c ls hX hr hlk hnm hE hK hP hD hS hA hl
  obtain ⟨hx, hb, hml, hown, ht⟩ := id hX
  have hl : lv_has ls 3 [(0, .ref x0), (1, .int p0), (2, .int p1)] := hl
  refine lv_iload_n hx hb dX6_fingers_0 rfl (lv_at hl 1 rfl) ?_
  refine lv_iconst (v := 0) hx hb dX6_fingers_1 (by decide) ?_
  refine lv_iconst (v := 3) hx hb dX6_fingers_2 (by decide) ?_
  refine q_Si (wr := [(x0, .inr (6, [.ref nw, .ref sp, .ref im, .ref sc, .ref hg, .ref fg, .ref pg, .ref pr, .int 0, .long 0, .long 1, .int 0, .int 0, .int 0])), (nw, .inr (3, [.int 2, .int 0, .ref keys, .ref moms, .ref lens, .ref prts, .ref luds, .ref hnds, .ref lats, .ref knds, .ref rch, .ref spd, .int 0, .int 0, .int 0, .ref unN, .ref unH, .ref ptn])), (fg, .inr (0, [.int 0, .int 0, .ref frw, .ref ord, .ref lst]))]) [] [0, 1, 2] hX hE hK hP hD hS hA hl.1 lk_X6_62 (c_within l D cI cZ cP sa p0 0 3 _) rfl rfl rfl rfl (by decide) rfl rfl (Nat.le_of_ble_eq_true rfl) rfl rfl ⟨Nat.le_of_ble_eq_true rfl, Nat.le_of_ble_eq_true rfl⟩ ⟨Nat.le_of_ble_eq_true rfl, Nat.le_of_ble_eq_true rfl⟩ dX6_fingers_3 (fun x_1 _ H locs h_1 hP hD hS => ?_)
  have hP : va_P D vwCl [(x0, .inr (6, [.ref nw, .ref sp, .ref im, .ref sc, .ref hg, .ref fg, .ref pg, .ref pr, .int 0, .long 0, .long 1, .int 0, .int 0, .int 0])), (nw, .inr (3, [.int 2, .int 0, .ref keys, .ref moms, .ref lens, .ref prts, .ref luds, .ref hnds, .ref lats, .ref knds, .ref rch, .ref spd, .int 0, .int 0, .int 0, .ref unN, .ref unH, .ref ptn])), (fg, .inr (0, [.int 0, .int 0, .ref frw, .ref ord, .ref lst]))] H := hP
  have hD : va_D (va_A (w_fingers cI cZ cP x0 nw sp im sc hg fg pg pr keys moms lens prts luds hnds lats knds rch spd unN unH ptn frw ord lst p0 p1) sz) [(x0, .inr (6, [.ref nw, .ref sp, .ref im, .ref sc, .ref hg, .ref fg, .ref pg, .ref pr, .int 0, .long 0, .long 1, .int 0, .int 0, .int 0])), (nw, .inr (3, [.int 2, .int 0, .ref keys, .ref moms, .ref lens, .ref prts, .ref luds, .ref hnds, .ref lats, .ref knds, .ref rch, .ref spd, .int 0, .int 0, .int 0, .ref unN, .ref unH, .ref ptn])), (fg, .inr (0, [.int 0, .int 0, .ref frw, .ref ord, .ref lst]))] := hD
  rcases Classical.em (0 ≤ p0 ∧ p0 ≤ 3) with c_1 | c_1
  · rw [if_pos c_1] at h_1; subst h_1
    refine lv_if_eq (tgt := 14) hx hb dX6_fingers_6 (by decide) (fun c_2 => absurd c_2 (by decide)) (fun _ => ?_)
    refine lv_iload_n hx hb dX6_fingers_9 rfl (lv_at hl 2 rfl) ?_
    refine lv_iconst (v := (-1)) hx hb dX6_fingers_10 (by decide) ?_
    refine lv_icmp_ge (tgt := 21) hx hb dX6_fingers_11 (by decide) (fun c_3 => ?_) (fun c_3 => ?_)
    · refine lv_aload_n hx hb dX6_fingers_21 rfl (lv_at hl 0 rfl) ?_
      refine va_get (D := D) (ci := 6) (v := .ref nw) (C := RX6) (T := TX6) (N := 14) hx hb ht inX6 hown hK hP 0 rfl rfl 0 (Nat.le_of_ble_eq_true rfl) (ht _ kw_337) (fun _ h9 => h9) rfl dX6_fingers_22 ?_
      refine lv_iload_n hx hb dX6_fingers_25 rfl (lv_at hl 1 rfl) ?_
      refine q_Vi (wr := [(x0, .inr (6, [.ref nw, .ref sp, .ref im, .ref sc, .ref hg, .ref fg, .ref pg, .ref pr, .int 0, .long 0, .long 1, .int 0, .int 0, .int 0])), (fg, .inr (0, [.int 0, .int 0, .ref frw, .ref ord, .ref lst]))]) [1] [0, 2] hX hE hK hP hD hS hA hl.1 lk_X6_161 (c_notesOf l D cI cZ cP sa nw keys moms lens prts luds hnds lats knds rch spd unN unH ptn p0 _) rfl rfl rfl rfl (by decide) 0 3 rfl rfl rfl rfl (Nat.le_of_ble_eq_true rfl) rfl rfl ⟨Nat.le_of_ble_eq_true rfl, Nat.le_of_ble_eq_true rfl⟩ ⟨Nat.le_of_ble_eq_true rfl, Nat.le_of_ble_eq_true rfl⟩ dX6_fingers_26 (fun x_4 _ H locs h_4 hP hD hS => ?_)
      have hP : va_P D vwCl [(x0, .inr (6, [.ref nw, .ref sp, .ref im, .ref sc, .ref hg, .ref fg, .ref pg, .ref pr, .int 0, .long 0, .long 1, .int 0, .int 0, .int 0])), (fg, .inr (0, [.int 0, .int 0, .ref frw, .ref ord, .ref lst])), (nw, .inr (3, [.int 2, .int 0, .ref keys, .ref moms, .ref lens, .ref prts, .ref luds, .ref hnds, .ref lats, .ref knds, .ref rch, .ref spd, .int 0, .int 0, .int 0, .ref unN, .ref unH, .ref ptn]))] H := hP
      have hD : va_D (va_A (w_fingers cI cZ cP x0 nw sp im sc hg fg pg pr keys moms lens prts luds hnds lats knds rch spd unN unH ptn frw ord lst p0 p1) sz) [(x0, .inr (6, [.ref nw, .ref sp, .ref im, .ref sc, .ref hg, .ref fg, .ref pg, .ref pr, .int 0, .long 0, .long 1, .int 0, .int 0, .int 0])), (fg, .inr (0, [.int 0, .int 0, .ref frw, .ref ord, .ref lst])), (nw, .inr (3, [.int 2, .int 0, .ref keys, .ref moms, .ref lens, .ref prts, .ref luds, .ref hnds, .ref lats, .ref knds, .ref rch, .ref spd, .int 0, .int 0, .int 0, .ref unN, .ref unH, .ref ptn]))] := hD
      subst h_4
      refine q_Si (wr := [(x0, .inr (6, [.ref nw, .ref sp, .ref im, .ref sc, .ref hg, .ref fg, .ref pg, .ref pr, .int 0, .long 0, .long 1, .int 0, .int 0, .int 0])), (fg, .inr (0, [.int 0, .int 0, .ref frw, .ref ord, .ref lst])), (nw, .inr (3, [.int 2, .int 0, .ref keys, .ref moms, .ref lens, .ref prts, .ref luds, .ref hnds, .ref lats, .ref knds, .ref rch, .ref spd, .int 0, .int 0, .int 0, .ref unN, .ref unH, .ref ptn]))]) [] [0, 1, 2] hX hE hK hP hD hS hA hl.1 lk_X6_184 (c_bitCount0 l D cI cZ cP sa _) rfl rfl rfl rfl (by decide) rfl rfl (Nat.le_of_ble_eq_true rfl) rfl rfl ⟨Nat.le_of_ble_eq_true rfl, Nat.le_of_ble_eq_true rfl⟩ ⟨Nat.le_of_ble_eq_true rfl, Nat.le_of_ble_eq_true rfl⟩ dX6_fingers_29 (fun x_5 _ H locs h_5 hP hD hS => ?_)
      have hP : va_P D vwCl [(x0, .inr (6, [.ref nw, .ref sp, .ref im, .ref sc, .ref hg, .ref fg, .ref pg, .ref pr, .int 0, .long 0, .long 1, .int 0, .int 0, .int 0])), (fg, .inr (0, [.int 0, .int 0, .ref frw, .ref ord, .ref lst])), (nw, .inr (3, [.int 2, .int 0, .ref keys, .ref moms, .ref lens, .ref prts, .ref luds, .ref hnds, .ref lats, .ref knds, .ref rch, .ref spd, .int 0, .int 0, .int 0, .ref unN, .ref unH, .ref ptn]))] H := hP
      have hD : va_D (va_A (w_fingers cI cZ cP x0 nw sp im sc hg fg pg pr keys moms lens prts luds hnds lats knds rch spd unN unH ptn frw ord lst p0 p1) sz) [(x0, .inr (6, [.ref nw, .ref sp, .ref im, .ref sc, .ref hg, .ref fg, .ref pg, .ref pr, .int 0, .long 0, .long 1, .int 0, .int 0, .int 0])), (fg, .inr (0, [.int 0, .int 0, .ref frw, .ref ord, .ref lst])), (nw, .inr (3, [.int 2, .int 0, .ref keys, .ref moms, .ref lens, .ref prts, .ref luds, .ref hnds, .ref lats, .ref knds, .ref rch, .ref spd, .int 0, .int 0, .int 0, .ref unN, .ref unH, .ref ptn]))] := hD
      subst h_5
      refine lv_bipush (v := 8) hx hb dX6_fingers_32 (by decide) ?_
      refine lv_icmp_le (tgt := 44) hx hb dX6_fingers_34 (by decide) (fun _ => ?_) (fun c_6 => absurd (by decide) c_6)
      refine lv_aload_n hx hb dX6_fingers_44 rfl (lv_at hl 0 rfl) ?_
      refine va_get (D := D) (ci := 6) (v := .ref fg) (C := RX6) (T := TX6) (N := 14) hx hb ht inX6 hown hK hP 0 rfl rfl 5 (Nat.le_of_ble_eq_true rfl) (ht _ kw_342) (fun _ h9 => h9) rfl dX6_fingers_45 ?_
      refine lv_aload_n hx hb dX6_fingers_48 rfl (lv_at hl 0 rfl) ?_
      refine va_get (D := D) (ci := 6) (v := .ref nw) (C := RX6) (T := TX6) (N := 14) hx hb ht inX6 hown hK hP 0 rfl rfl 0 (Nat.le_of_ble_eq_true rfl) (ht _ kw_337) (fun _ h9 => h9) rfl dX6_fingers_49 ?_
      refine lv_iload_n hx hb dX6_fingers_52 rfl (lv_at hl 1 rfl) ?_
      refine q_Vv (wr := [(x0, .inr (6, [.ref nw, .ref sp, .ref im, .ref sc, .ref hg, .ref fg, .ref pg, .ref pr, .int 0, .long 0, .long 1, .int 0, .int 0, .int 0]))]) [1, 2] [0] hX hE hK hP hD hS hA hl.1 lk_X6_192 (c_fsolve l D cI cZ cP sa fg frw ord lst nw keys moms lens prts luds hnds lats knds rch spd unN unH ptn p0 _) rfl rfl rfl rfl (by decide) 0 0 rfl rfl rfl rfl (Nat.le_of_ble_eq_true rfl) rfl rfl ⟨Nat.le_of_ble_eq_true rfl, Nat.le_of_ble_eq_true rfl⟩ ⟨Nat.le_of_ble_eq_true rfl, Nat.le_of_ble_eq_true rfl⟩ dX6_fingers_53 (fun _ H locs h_7 hP hD hS => ?_)
      have hP : va_P D vwCl [(x0, .inr (6, [.ref nw, .ref sp, .ref im, .ref sc, .ref hg, .ref fg, .ref pg, .ref pr, .int 0, .long 0, .long 1, .int 0, .int 0, .int 0])), (fg, .inr (0, [.int 0, .int 0, .ref frw, .ref ord, .ref lst]))] H := hP
      have hD : va_D (va_A (w_fingers cI cZ cP x0 nw sp im sc hg fg pg pr keys moms lens prts luds hnds lats knds rch spd unN unH ptn frw ord lst p0 p1) sz) [(x0, .inr (6, [.ref nw, .ref sp, .ref im, .ref sc, .ref hg, .ref fg, .ref pg, .ref pr, .int 0, .long 0, .long 1, .int 0, .int 0, .int 0])), (fg, .inr (0, [.int 0, .int 0, .ref frw, .ref ord, .ref lst]))] := hD
      refine lv_iload_n hx hb dX6_fingers_56 rfl (lv_at hl 2 rfl) ?_
      refine lv_iconst (v := (-1)) hx hb dX6_fingers_57 (by decide) ?_
      refine lv_icmp_ne (tgt := 69) hx hb dX6_fingers_58 (by decide) (fun c_8 => ?_) (fun c_8 => ?_)
      · refine lv_iload_n hx hb dX6_fingers_69 rfl (lv_at hl 2 rfl) ?_
        refine lv_aload_n hx hb dX6_fingers_70 rfl (lv_at hl 0 rfl) ?_
        refine va_get (D := D) (ci := 6) (v := .ref fg) (C := RX6) (T := TX6) (N := 14) hx hb ht inX6 hown hK hP 0 rfl rfl 5 (Nat.le_of_ble_eq_true rfl) (ht _ kw_342) (fun _ h9 => h9) rfl dX6_fingers_71 ?_
        refine va_get (D := D) (ci := 0) (v := .int 0) (C := RX0) (T := TX0) (N := 5) hx hb ht inX0 hown hK hP 1 rfl rfl 0 (Nat.le_of_ble_eq_true rfl) (ht _ kw_264) (fun _ h9 => h9) rfl dX6_fingers_74 ?_
        refine lv_icmp_ge (tgt := 98) hx hb dX6_fingers_77 (by decide) (fun _ => ?_) (fun c_9 => absurd (ge0 c_3 c_8) c_9)
        refine lv_bipush (v := (-5)) hx hb dX6_fingers_98 (by decide) ?_
        exact q_iret hX hr hlk () (by simp [sp_fingers, c_1, c_3, c_8]) (hP.sub [] rfl) (hD.sub [] (by decide) rfl) hS dX6_fingers_100
      · refine lv_aload_n hx hb dX6_fingers_61 rfl (lv_at hl 0 rfl) ?_
        refine va_get (D := D) (ci := 6) (v := .ref fg) (C := RX6) (T := TX6) (N := 14) hx hb ht inX6 hown hK hP 0 rfl rfl 5 (Nat.le_of_ble_eq_true rfl) (ht _ kw_342) (fun _ h9 => h9) rfl dX6_fingers_62 ?_
        refine va_get (D := D) (ci := 0) (v := .int 0) (C := RX0) (T := TX0) (N := 5) hx hb ht inX0 hown hK hP 1 rfl rfl 1 (Nat.le_of_ble_eq_true rfl) (ht _ kw_266) (fun _ h9 => h9) rfl dX6_fingers_65 ?_
        exact q_iret hX hr hlk () (by simp [sp_fingers, c_1, c_3, c_8]) (hP.sub [] rfl) (hD.sub [] (by decide) rfl) hS dX6_fingers_68
    · refine lv_aload_n hx hb dX6_fingers_14 rfl (lv_at hl 0 rfl) ?_
      refine lv_bipush (v := (-10)) hx hb dX6_fingers_15 (by decide) ?_
      refine q_Vi (wr := [(nw, .inr (3, [.int 2, .int 0, .ref keys, .ref moms, .ref lens, .ref prts, .ref luds, .ref hnds, .ref lats, .ref knds, .ref rch, .ref spd, .int 0, .int 0, .int 0, .ref unN, .ref unH, .ref ptn])), (fg, .inr (0, [.int 0, .int 0, .ref frw, .ref ord, .ref lst]))]) [0] [1, 2] hX hE hK hP hD hS hA hl.1 lk_X6_66 (c_refuseBad l D cI cZ cP sa x0 nw sp im sc hg fg pg pr 0 0 1 0 0 0 (-10) _) rfl rfl rfl rfl (by decide) 0 6 rfl rfl rfl rfl (Nat.le_of_ble_eq_true rfl) rfl rfl ⟨Nat.le_of_ble_eq_true rfl, Nat.le_of_ble_eq_true rfl⟩ ⟨Nat.le_of_ble_eq_true rfl, Nat.le_of_ble_eq_true rfl⟩ dX6_fingers_17 (fun x_10 _ H locs h_10 hP hD hS => ?_)
      have hP : va_P D vwCl [(nw, .inr (3, [.int 2, .int 0, .ref keys, .ref moms, .ref lens, .ref prts, .ref luds, .ref hnds, .ref lats, .ref knds, .ref rch, .ref spd, .int 0, .int 0, .int 0, .ref unN, .ref unH, .ref ptn])), (fg, .inr (0, [.int 0, .int 0, .ref frw, .ref ord, .ref lst]))] H := hP
      have hD : va_D (va_A (w_fingers cI cZ cP x0 nw sp im sc hg fg pg pr keys moms lens prts luds hnds lats knds rch spd unN unH ptn frw ord lst p0 p1) sz) [(nw, .inr (3, [.int 2, .int 0, .ref keys, .ref moms, .ref lens, .ref prts, .ref luds, .ref hnds, .ref lats, .ref knds, .ref rch, .ref spd, .int 0, .int 0, .int 0, .ref unN, .ref unH, .ref ptn])), (fg, .inr (0, [.int 0, .int 0, .ref frw, .ref ord, .ref lst]))] := hD
      subst h_10
      exact q_iret hX hr hlk () (by simp [sp_fingers, c_1, c_3]) (hP.sub [] rfl) (hD.sub [] (by decide) rfl) hS dX6_fingers_20
  · rw [if_neg c_1] at h_1; subst h_1
    refine lv_if_eq (tgt := 14) hx hb dX6_fingers_6 (by decide) (fun _ => ?_) (fun c_11 => absurd (by decide) c_11)
    refine lv_aload_n hx hb dX6_fingers_14 rfl (lv_at hl 0 rfl) ?_
    refine lv_bipush (v := (-10)) hx hb dX6_fingers_15 (by decide) ?_
    refine q_Vi (wr := [(nw, .inr (3, [.int 2, .int 0, .ref keys, .ref moms, .ref lens, .ref prts, .ref luds, .ref hnds, .ref lats, .ref knds, .ref rch, .ref spd, .int 0, .int 0, .int 0, .ref unN, .ref unH, .ref ptn])), (fg, .inr (0, [.int 0, .int 0, .ref frw, .ref ord, .ref lst]))]) [0] [1, 2] hX hE hK hP hD hS hA hl.1 lk_X6_66 (c_refuseBad l D cI cZ cP sa x0 nw sp im sc hg fg pg pr 0 0 1 0 0 0 (-10) _) rfl rfl rfl rfl (by decide) 0 6 rfl rfl rfl rfl (Nat.le_of_ble_eq_true rfl) rfl rfl ⟨Nat.le_of_ble_eq_true rfl, Nat.le_of_ble_eq_true rfl⟩ ⟨Nat.le_of_ble_eq_true rfl, Nat.le_of_ble_eq_true rfl⟩ dX6_fingers_17 (fun x_12 _ H locs h_12 hP hD hS => ?_)
    have hP : va_P D vwCl [(nw, .inr (3, [.int 2, .int 0, .ref keys, .ref moms, .ref lens, .ref prts, .ref luds, .ref hnds, .ref lats, .ref knds, .ref rch, .ref spd, .int 0, .int 0, .int 0, .ref unN, .ref unH, .ref ptn])), (fg, .inr (0, [.int 0, .int 0, .ref frw, .ref ord, .ref lst]))] H := hP
    have hD : va_D (va_A (w_fingers cI cZ cP x0 nw sp im sc hg fg pg pr keys moms lens prts luds hnds lats knds rch spd unN unH ptn frw ord lst p0 p1) sz) [(nw, .inr (3, [.int 2, .int 0, .ref keys, .ref moms, .ref lens, .ref prts, .ref luds, .ref hnds, .ref lats, .ref knds, .ref rch, .ref spd, .int 0, .int 0, .int 0, .ref unN, .ref unH, .ref ptn])), (fg, .inr (0, [.int 0, .int 0, .ref frw, .ref ord, .ref lst]))] := hD
    subst h_12
    exact q_iret hX hr hlk () (by simp [sp_fingers, c_1]) (hP.sub [] rfl) (hD.sub [] (by decide) rfl) hS dX6_fingers_20
abbrev w_findPartners (cI cZ cP : ClassId) (nw : Nat) (keys : Nat) (moms : Nat) (lens : Nat) (prts : Nat) (luds : Nat) (hnds : Nat) (lats : Nat) (knds : Nat) (rch : Nat) (spd : Nat) (unN : Nat) (unH : Nat) (ptn : Nat) : va_W := [(nw, .inr (3, [.int 2, .int 0, .ref keys, .ref moms, .ref lens, .ref prts, .ref luds, .ref hnds, .ref lats, .ref knds, .ref rch, .ref spd, .int 0, .int 0, .int 0, .ref unN, .ref unH, .ref ptn])), (ptn, .inl (cI, 12, .inl (fun _ => 0)))]
set_option maxHeartbeats 4000000 in
set_option maxRecDepth 100000 in
theorem c_findPartners (l : Launch) (D : va_G) (cI cZ cP : ClassId) (sa : Nat → Nat) (nw : Nat) (keys : Nat) (moms : Nat) (lens : Nat) (prts : Nat) (luds : Nat) (hnds : Nat) (lats : Nat) (knds : Nat) (rch : Nat) (spd : Nat) (unN : Nat) (unH : Nat) (ptn : Nat) (sz : Nat) : Met l yX3_findPartners (qW yX3_findPartners cX3_findPartners 3 none) ({ frames := 1, cells := 0, slots := 0, locals := 23 } : Room) (qP D (TY cI cZ cP) sa [.ref nw] (w_findPartners cI cZ cP nw keys moms lens prts luds hnds lats knds rch spd unN unH ptn) sz) (qQv D (w_findPartners cI cZ cP nw keys moms lens prts luds hnds lats knds rch spd unN unH ptn) sz (fun _ : Unit => True) (fun _ => [(nw, .inr (3, [.int 2, .int 0, .ref keys, .ref moms, .ref lens, .ref prts, .ref luds, .ref hnds, .ref lats, .ref knds, .ref rch, .ref spd, .int 0, .int 0, .int 0, .ref unN, .ref unH, .ref ptn]))])) 0 0 (va_A (w_findPartners cI cZ cP nw keys moms lens prts luds hnds lats knds rch spd unN unH ptn) sz) := by
  refine q_enter (by decide) (Nat.le_of_ble_eq_true rfl) ?_
  intro p e s m below meth c ls hX hr hlk hnm hE hK hP hD hS hA hl
  obtain ⟨hx, hb, hml, hown, ht⟩ := id hX
  have hl : lv_has ls 3 [(0, .ref nw)] := hl
  refine lv_aload_n hx hb dX3_findPartners_0 rfl (lv_at hl 0 rfl) ?_
  refine va_get (D := D) (ci := 3) (v := .ref ptn) (C := RX3) (T := TX3) (N := 18) hx hb ht inX3 hown hK hP 0 rfl rfl 17 (Nat.le_of_ble_eq_true rfl) (ht _ kw_163) (fun _ h9 => h9) rfl dX3_findPartners_1 ?_
  refine lv_iconst (v := 0) hx hb dX3_findPartners_4 (by decide) ?_
  refine q_Sv (wr := [(nw, .inr (3, [.int 2, .int 0, .ref keys, .ref moms, .ref lens, .ref prts, .ref luds, .ref hnds, .ref lats, .ref knds, .ref rch, .ref spd, .int 0, .int 0, .int 0, .ref unN, .ref unH, .ref ptn]))]) [1] [0] hX hE hK hP hD hS hA hl.1 lk_X3_55 (c_fill l D cI cZ cP sa ptn 12 (fun _ => 0) 0 (by decide) _) rfl rfl rfl rfl (by decide) rfl rfl (Nat.le_of_ble_eq_true rfl) rfl rfl ⟨Nat.le_of_ble_eq_true rfl, Nat.le_of_ble_eq_true rfl⟩ ⟨Nat.le_of_ble_eq_true rfl, Nat.le_of_ble_eq_true rfl⟩ dX3_findPartners_5 (fun _ H locs h_1 hP hD hS => ?_)
  have hP : va_P D vwCl [(nw, .inr (3, [.int 2, .int 0, .ref keys, .ref moms, .ref lens, .ref prts, .ref luds, .ref hnds, .ref lats, .ref knds, .ref rch, .ref spd, .int 0, .int 0, .int 0, .ref unN, .ref unH, .ref ptn])), (ptn, .inl (cI, 12, .inl (fun _ => 0)))] H := hP
  have hD : va_D (va_A (w_findPartners cI cZ cP nw keys moms lens prts luds hnds lats knds rch spd unN unH ptn) sz) [(nw, .inr (3, [.int 2, .int 0, .ref keys, .ref moms, .ref lens, .ref prts, .ref luds, .ref hnds, .ref lats, .ref knds, .ref rch, .ref spd, .int 0, .int 0, .int 0, .ref unN, .ref unH, .ref ptn])), (ptn, .inl (cI, 12, .inl (fun _ => 0)))] := hD
  refine lv_iconst (v := 0) hx hb dX3_findPartners_8 (by decide) ?_
  refine lv_istore_n (lv' := [(1, .int 0), (0, .ref nw)]) hx hb dX3_findPartners_9 rfl hl (by decide) rfl (fun ls hl => ?_)
  refine lv_iload_n hx hb dX3_findPartners_10 rfl (lv_at hl 0 rfl) ?_
  refine lv_aload_n hx hb dX3_findPartners_11 rfl (lv_at hl 1 rfl) ?_
  refine va_get (D := D) (ci := 3) (v := .int 0) (C := RX3) (T := TX3) (N := 18) hx hb ht inX3 hown hK hP 0 rfl rfl 1 (Nat.le_of_ble_eq_true rfl) (ht _ kw_122) (fun _ h9 => h9) rfl dX3_findPartners_12 ?_
  refine lv_icmp_ge (tgt := 64) hx hb dX3_findPartners_15 (by decide) (fun _ => ?_) (fun c_2 => absurd (by decide) c_2)
  exact q_vret hX hr hlk () trivial (hP.sub [0] rfl) (hD.sub [0] (by decide) rfl) hS dX3_findPartners_64
abbrev w_out (cI cZ cP : ClassId) (x0 : Nat) (nw : Nat) (sp : Nat) (im : Nat) (sc : Nat) (hg : Nat) (fg : Nat) (pg : Nat) (pr : Nat) (keys : Nat) (moms : Nat) (lens : Nat) (prts : Nat) (luds : Nat) (hnds : Nat) (lats : Nat) (knds : Nat) (rch : Nat) (spd : Nat) (unN : Nat) (unH : Nat) (ptn : Nat) : va_W := [(x0, .inr (6, [.ref nw, .ref sp, .ref im, .ref sc, .ref hg, .ref fg, .ref pg, .ref pr, .int 0, .long 0, .long 1, .int 0, .int 0, .int 0])), (nw, .inr (3, [.int 2, .int 0, .ref keys, .ref moms, .ref lens, .ref prts, .ref luds, .ref hnds, .ref lats, .ref knds, .ref rch, .ref spd, .int 0, .int 0, .int 0, .ref unN, .ref unH, .ref ptn])), (ptn, .inl (cI, 12, .inl (fun _ => 0)))]
set_option maxHeartbeats 4000000 in
set_option maxRecDepth 100000 in
theorem c_out (l : Launch) (D : va_G) (cI cZ cP : ClassId) (sa : Nat → Nat) (x0 : Nat) (nw : Nat) (sp : Nat) (im : Nat) (sc : Nat) (hg : Nat) (fg : Nat) (pg : Nat) (pr : Nat) (keys : Nat) (moms : Nat) (lens : Nat) (prts : Nat) (luds : Nat) (hnds : Nat) (lats : Nat) (knds : Nat) (rch : Nat) (spd : Nat) (unN : Nat) (unH : Nat) (ptn : Nat) (sz : Nat) : Met l yX6_out (qW yX6_out cX6_out 5 (some .int)) ({ frames := 2, cells := 0, slots := 0, locals := 45 } : Room) (qP D (TY cI cZ cP) sa [.ref x0] (w_out cI cZ cP x0 nw sp im sc hg fg pg pr keys moms lens prts luds hnds lats knds rch spd unN unH ptn) sz) (qQi D (w_out cI cZ cP x0 nw sp im sc hg fg pg pr keys moms lens prts luds hnds lats knds rch spd unN unH ptn) sz (fun (r : Int32) (_ : Unit) => r = 0) (fun _ => [])) 0 0 (va_A (w_out cI cZ cP x0 nw sp im sc hg fg pg pr keys moms lens prts luds hnds lats knds rch spd unN unH ptn) sz) := by
  refine q_enter (by decide) (Nat.le_of_ble_eq_true rfl) ?_
  intro p e s m below meth c ls hX hr hlk hnm hE hK hP hD hS hA hl
  obtain ⟨hx, hb, hml, hown, ht⟩ := id hX
  have hl : lv_has ls 5 [(0, .ref x0)] := hl
  refine lv_iconst (v := 1) hx hb dX6_out_0 (by decide) ?_
  refine lv_aload_n hx hb dX6_out_1 rfl (lv_at hl 0 rfl) ?_
  refine va_get (D := D) (ci := 6) (v := .ref nw) (C := RX6) (T := TX6) (N := 14) hx hb ht inX6 hown hK hP 0 rfl rfl 0 (Nat.le_of_ble_eq_true rfl) (ht _ kw_337) (fun _ h9 => h9) rfl dX6_out_2 ?_
  refine va_get (D := D) (ci := 3) (v := .int 0) (C := RX3) (T := TX3) (N := 18) hx hb ht inX3 hown hK hP 1 rfl rfl 1 (Nat.le_of_ble_eq_true rfl) (ht _ kw_123) (fun _ h9 => h9) rfl dX6_out_5 ?_
  refine lv_ishl hx hb dX6_out_8 ?_
  refine q_i (z := 1) (by decide) ?_
  refine lv_iconst (v := 1) hx hb dX6_out_9 (by decide) ?_
  refine lv_isub hx hb dX6_out_10 ?_
  refine q_i (z := 0) (by decide) ?_
  refine lv_istore_n (lv' := [(1, .int 0), (0, .ref x0)]) hx hb dX6_out_11 rfl hl (by decide) rfl (fun ls hl => ?_)
  refine lv_aload_n hx hb dX6_out_12 rfl (lv_at hl 1 rfl) ?_
  refine va_get (D := D) (ci := 6) (v := .ref nw) (C := RX6) (T := TX6) (N := 14) hx hb ht inX6 hown hK hP 0 rfl rfl 0 (Nat.le_of_ble_eq_true rfl) (ht _ kw_337) (fun _ h9 => h9) rfl dX6_out_13 ?_
  refine va_get (D := D) (ci := 3) (v := .int 0) (C := RX3) (T := TX3) (N := 18) hx hb ht inX3 hown hK hP 1 rfl rfl 1 (Nat.le_of_ble_eq_true rfl) (ht _ kw_123) (fun _ h9 => h9) rfl dX6_out_16 ?_
  refine lv_istore_n (lv' := [(2, .int 0), (1, .int 0), (0, .ref x0)]) hx hb dX6_out_19 rfl hl (by decide) rfl (fun ls hl => ?_)
  refine lv_aload_n hx hb dX6_out_20 rfl (lv_at hl 2 rfl) ?_
  refine va_get (D := D) (ci := 6) (v := .ref nw) (C := RX6) (T := TX6) (N := 14) hx hb ht inX6 hown hK hP 0 rfl rfl 0 (Nat.le_of_ble_eq_true rfl) (ht _ kw_337) (fun _ h9 => h9) rfl dX6_out_21 ?_
  refine q_Vv (wr := [(x0, .inr (6, [.ref nw, .ref sp, .ref im, .ref sc, .ref hg, .ref fg, .ref pg, .ref pr, .int 0, .long 0, .long 1, .int 0, .int 0, .int 0]))]) [1, 2] [0] hX hE hK hP hD hS hA hl.1 lk_X6_181 (c_findPartners l D cI cZ cP sa nw keys moms lens prts luds hnds lats knds rch spd unN unH ptn _) rfl rfl rfl rfl (by decide) 0 3 rfl rfl rfl rfl (Nat.le_of_ble_eq_true rfl) rfl rfl ⟨Nat.le_of_ble_eq_true rfl, Nat.le_of_ble_eq_true rfl⟩ ⟨Nat.le_of_ble_eq_true rfl, Nat.le_of_ble_eq_true rfl⟩ dX6_out_24 (fun _ H locs h_1 hP hD hS => ?_)
  have hP : va_P D vwCl [(x0, .inr (6, [.ref nw, .ref sp, .ref im, .ref sc, .ref hg, .ref fg, .ref pg, .ref pr, .int 0, .long 0, .long 1, .int 0, .int 0, .int 0])), (nw, .inr (3, [.int 2, .int 0, .ref keys, .ref moms, .ref lens, .ref prts, .ref luds, .ref hnds, .ref lats, .ref knds, .ref rch, .ref spd, .int 0, .int 0, .int 0, .ref unN, .ref unH, .ref ptn]))] H := hP
  have hD : va_D (va_A (w_out cI cZ cP x0 nw sp im sc hg fg pg pr keys moms lens prts luds hnds lats knds rch spd unN unH ptn) sz) [(x0, .inr (6, [.ref nw, .ref sp, .ref im, .ref sc, .ref hg, .ref fg, .ref pg, .ref pr, .int 0, .long 0, .long 1, .int 0, .int 0, .int 0])), (nw, .inr (3, [.int 2, .int 0, .ref keys, .ref moms, .ref lens, .ref prts, .ref luds, .ref hnds, .ref lats, .ref knds, .ref rch, .ref spd, .int 0, .int 0, .int 0, .ref unN, .ref unH, .ref ptn]))] := hD
  refine lv_iconst (v := 0) hx hb dX6_out_27 (by decide) ?_
  refine lv_istore_n (lv' := [(3, .int 0), (2, .int 0), (1, .int 0), (0, .ref x0)]) hx hb dX6_out_28 rfl hl (by decide) rfl (fun ls hl => ?_)
  refine lv_iload_n hx hb dX6_out_29 rfl (lv_at hl 0 rfl) ?_
  refine lv_iconst (v := 1) hx hb dX6_out_30 (by decide) ?_
  refine lv_aload_n hx hb dX6_out_31 rfl (lv_at hl 3 rfl) ?_
  refine va_get (D := D) (ci := 6) (v := .ref nw) (C := RX6) (T := TX6) (N := 14) hx hb ht inX6 hown hK hP 0 rfl rfl 0 (Nat.le_of_ble_eq_true rfl) (ht _ kw_337) (fun _ h9 => h9) rfl dX6_out_32 ?_
  refine va_get (D := D) (ci := 3) (v := .int 0) (C := RX3) (T := TX3) (N := 18) hx hb ht inX3 hown hK hP 1 rfl rfl 1 (Nat.le_of_ble_eq_true rfl) (ht _ kw_123) (fun _ h9 => h9) rfl dX6_out_35 ?_
  refine lv_ishl hx hb dX6_out_38 ?_
  refine q_i (z := 1) (by decide) ?_
  refine lv_icmp_ge (tgt := 76) hx hb dX6_out_39 (by decide) (fun c_2 => absurd c_2 (by decide)) (fun _ => ?_)
  refine lv_iload_n hx hb dX6_out_42 rfl (lv_at hl 0 rfl) ?_
  refine q_Si (wr := [(x0, .inr (6, [.ref nw, .ref sp, .ref im, .ref sc, .ref hg, .ref fg, .ref pg, .ref pr, .int 0, .long 0, .long 1, .int 0, .int 0, .int 0])), (nw, .inr (3, [.int 2, .int 0, .ref keys, .ref moms, .ref lens, .ref prts, .ref luds, .ref hnds, .ref lats, .ref knds, .ref rch, .ref spd, .int 0, .int 0, .int 0, .ref unN, .ref unH, .ref ptn]))]) [] [0, 1] hX hE hK hP hD hS hA hl.1 lk_X6_184 (c_bitCount0 l D cI cZ cP sa _) rfl rfl rfl rfl (by decide) rfl rfl (Nat.le_of_ble_eq_true rfl) rfl rfl ⟨Nat.le_of_ble_eq_true rfl, Nat.le_of_ble_eq_true rfl⟩ ⟨Nat.le_of_ble_eq_true rfl, Nat.le_of_ble_eq_true rfl⟩ dX6_out_43 (fun x_3 _ H locs h_3 hP hD hS => ?_)
  have hP : va_P D vwCl [(x0, .inr (6, [.ref nw, .ref sp, .ref im, .ref sc, .ref hg, .ref fg, .ref pg, .ref pr, .int 0, .long 0, .long 1, .int 0, .int 0, .int 0])), (nw, .inr (3, [.int 2, .int 0, .ref keys, .ref moms, .ref lens, .ref prts, .ref luds, .ref hnds, .ref lats, .ref knds, .ref rch, .ref spd, .int 0, .int 0, .int 0, .ref unN, .ref unH, .ref ptn]))] H := hP
  have hD : va_D (va_A (w_out cI cZ cP x0 nw sp im sc hg fg pg pr keys moms lens prts luds hnds lats knds rch spd unN unH ptn) sz) [(x0, .inr (6, [.ref nw, .ref sp, .ref im, .ref sc, .ref hg, .ref fg, .ref pg, .ref pr, .int 0, .long 0, .long 1, .int 0, .int 0, .int 0])), (nw, .inr (3, [.int 2, .int 0, .ref keys, .ref moms, .ref lens, .ref prts, .ref luds, .ref hnds, .ref lats, .ref knds, .ref rch, .ref spd, .int 0, .int 0, .int 0, .ref unN, .ref unH, .ref ptn]))] := hD
  subst h_3
  refine lv_istore (lv' := [(4, .int 0), (3, .int 0), (2, .int 0), (1, .int 0), (0, .ref x0)]) hx hb dX6_out_46 hl (by decide) rfl (fun ls hl => ?_)
  refine lv_iload hx hb dX6_out_48 (lv_at hl 0 rfl) ?_
  refine lv_iload_n hx hb dX6_out_50 rfl (lv_at hl 2 rfl) ?_
  refine lv_icmp_ge (tgt := 70) hx hb dX6_out_51 (by decide) (fun _ => ?_) (fun c_4 => absurd (by decide) c_4)
  refine lv_iinc (v := 1) (lv' := [(3, .int 1), (4, .int 0), (2, .int 0), (1, .int 0), (0, .ref x0)]) hx hb dX6_out_70 hl (k := 1) rfl (by decide) (by decide) rfl (fun ls hl => ?_)
  refine lv_goto (tgt := 29) hx hb dX6_out_73 (by decide) ?_
  refine lv_iload_n hx hb dX6_out_29 rfl (lv_at hl 0 rfl) ?_
  refine lv_iconst (v := 1) hx hb dX6_out_30 (by decide) ?_
  refine lv_aload_n hx hb dX6_out_31 rfl (lv_at hl 4 rfl) ?_
  refine va_get (D := D) (ci := 6) (v := .ref nw) (C := RX6) (T := TX6) (N := 14) hx hb ht inX6 hown hK hP 0 rfl rfl 0 (Nat.le_of_ble_eq_true rfl) (ht _ kw_337) (fun _ h9 => h9) rfl dX6_out_32 ?_
  refine va_get (D := D) (ci := 3) (v := .int 0) (C := RX3) (T := TX3) (N := 18) hx hb ht inX3 hown hK hP 1 rfl rfl 1 (Nat.le_of_ble_eq_true rfl) (ht _ kw_123) (fun _ h9 => h9) rfl dX6_out_35 ?_
  refine lv_ishl hx hb dX6_out_38 ?_
  refine q_i (z := 1) (by decide) ?_
  refine lv_icmp_ge (tgt := 76) hx hb dX6_out_39 (by decide) (fun _ => ?_) (fun c_5 => absurd (by decide) c_5)
  refine lv_iload_n hx hb dX6_out_76 rfl (lv_at hl 3 rfl) ?_
  exact q_iret hX hr hlk () rfl (hP.sub [] rfl) (hD.sub [] (by decide) rfl) hS dX6_out_77
abbrev w_freeHand (cI cZ cP : ClassId) (x0 : Nat) (nw : Nat) (sp : Nat) (im : Nat) (sc : Nat) (hg : Nat) (fg : Nat) (pg : Nat) (pr : Nat) (keys : Nat) (moms : Nat) (lens : Nat) (prts : Nat) (luds : Nat) (hnds : Nat) (lats : Nat) (knds : Nat) (rch : Nat) (spd : Nat) (unN : Nat) (unH : Nat) (ptn : Nat) (p0 : Int32) (p1 : Int32) : va_W := [(x0, .inr (6, [.ref nw, .ref sp, .ref im, .ref sc, .ref hg, .ref fg, .ref pg, .ref pr, .int 0, .long 0, .long 1, .int 0, .int 0, .int 0])), (nw, .inr (3, [.int 2, .int 0, .ref keys, .ref moms, .ref lens, .ref prts, .ref luds, .ref hnds, .ref lats, .ref knds, .ref rch, .ref spd, .int 0, .int 0, .int 0, .ref unN, .ref unH, .ref ptn]))]
set_option maxHeartbeats 4000000 in
set_option maxRecDepth 100000 in
theorem c_freeHand (l : Launch) (D : va_G) (cI cZ cP : ClassId) (sa : Nat → Nat) (x0 : Nat) (nw : Nat) (sp : Nat) (im : Nat) (sc : Nat) (hg : Nat) (fg : Nat) (pg : Nat) (pr : Nat) (keys : Nat) (moms : Nat) (lens : Nat) (prts : Nat) (luds : Nat) (hnds : Nat) (lats : Nat) (knds : Nat) (rch : Nat) (spd : Nat) (unN : Nat) (unH : Nat) (ptn : Nat) (p0 : Int32) (p1 : Int32) (h0 : 0 ≤ p0 ∧ p0 ≤ 63) (h1 : (-1) ≤ p1 ∧ p1 ≤ 1) (sz : Nat) : Met l yX6_freeHand (qW yX6_freeHand cX6_freeHand 6 (some .int)) ({ frames := 1, cells := 0, slots := 0, locals := 23 } : Room) (qP D (TY cI cZ cP) sa [.ref x0, .int p0, .int p1] (w_freeHand cI cZ cP x0 nw sp im sc hg fg pg pr keys moms lens prts luds hnds lats knds rch spd unN unH ptn p0 p1) sz) (qQi D (w_freeHand cI cZ cP x0 nw sp im sc hg fg pg pr keys moms lens prts luds hnds lats knds rch spd unN unH ptn p0 p1) sz (fun (r : Int32) (_ : Unit) => r = 10 * p0 + (if p1 = 1 then 2 else 0)) (fun _ => [])) 0 0 (va_A (w_freeHand cI cZ cP x0 nw sp im sc hg fg pg pr keys moms lens prts luds hnds lats knds rch spd unN unH ptn p0 p1) sz) := by
  refine q_enter (by decide) (Nat.le_of_ble_eq_true rfl) ?_
  intro p e s m below meth c ls hX hr hlk hnm hE hK hP hD hS hA hl
  obtain ⟨hx, hb, hml, hown, ht⟩ := id hX
  have hl : lv_has ls 6 [(0, .ref x0), (1, .int p0), (2, .int p1)] := hl
  refine lv_iload_n hx hb dX6_freeHand_0 rfl (lv_at hl 1 rfl) ?_
  refine lv_iconst (v := 0) hx hb dX6_freeHand_1 (by decide) ?_
  refine lv_bipush (v := 63) hx hb dX6_freeHand_2 (by decide) ?_
  refine q_Si (wr := [(x0, .inr (6, [.ref nw, .ref sp, .ref im, .ref sc, .ref hg, .ref fg, .ref pg, .ref pr, .int 0, .long 0, .long 1, .int 0, .int 0, .int 0])), (nw, .inr (3, [.int 2, .int 0, .ref keys, .ref moms, .ref lens, .ref prts, .ref luds, .ref hnds, .ref lats, .ref knds, .ref rch, .ref spd, .int 0, .int 0, .int 0, .ref unN, .ref unH, .ref ptn]))]) [] [0, 1] hX hE hK hP hD hS hA hl.1 lk_X6_62 (c_within l D cI cZ cP sa p0 0 63 _) rfl rfl rfl rfl (by decide) rfl rfl (Nat.le_of_ble_eq_true rfl) rfl rfl ⟨Nat.le_of_ble_eq_true rfl, Nat.le_of_ble_eq_true rfl⟩ ⟨Nat.le_of_ble_eq_true rfl, Nat.le_of_ble_eq_true rfl⟩ dX6_freeHand_4 (fun x_1 _ H locs h_1 hP hD hS => ?_)
  have hP : va_P D vwCl [(x0, .inr (6, [.ref nw, .ref sp, .ref im, .ref sc, .ref hg, .ref fg, .ref pg, .ref pr, .int 0, .long 0, .long 1, .int 0, .int 0, .int 0])), (nw, .inr (3, [.int 2, .int 0, .ref keys, .ref moms, .ref lens, .ref prts, .ref luds, .ref hnds, .ref lats, .ref knds, .ref rch, .ref spd, .int 0, .int 0, .int 0, .ref unN, .ref unH, .ref ptn]))] H := hP
  have hD : va_D (va_A (w_freeHand cI cZ cP x0 nw sp im sc hg fg pg pr keys moms lens prts luds hnds lats knds rch spd unN unH ptn p0 p1) sz) [(x0, .inr (6, [.ref nw, .ref sp, .ref im, .ref sc, .ref hg, .ref fg, .ref pg, .ref pr, .int 0, .long 0, .long 1, .int 0, .int 0, .int 0])), (nw, .inr (3, [.int 2, .int 0, .ref keys, .ref moms, .ref lens, .ref prts, .ref luds, .ref hnds, .ref lats, .ref knds, .ref rch, .ref spd, .int 0, .int 0, .int 0, .ref unN, .ref unH, .ref ptn]))] := hD
  rw [if_pos h0] at h_1; subst h_1
  refine lv_if_ne (tgt := 12) hx hb dX6_freeHand_7 (by decide) (fun _ => ?_) (fun c_2 => absurd c_2 (by decide))
  refine lv_iload_n hx hb dX6_freeHand_12 rfl (lv_at hl 2 rfl) ?_
  refine lv_iconst (v := (-1)) hx hb dX6_freeHand_13 (by decide) ?_
  refine lv_icmp_ne (tgt := 21) hx hb dX6_freeHand_14 (by decide) (fun c_3 => ?_) (fun c_3 => ?_)
  · rcases Classical.em (p1 = 0) with c_4 | c_4
    · refine lv_iconst (v := 2) hx hb dX6_freeHand_21 (by decide) ?_
      refine lv_iload_n hx hb dX6_freeHand_22 rfl (lv_at hl 2 rfl) ?_
      refine q_i (z := 0) c_4 ?_
      refine lv_imul hx hb dX6_freeHand_23 ?_
      refine q_i (z := 0) (by decide) ?_
      refine lv_istore_n (lv' := [(3, .int 0), (0, .ref x0), (1, .int p0), (2, .int p1)]) hx hb dX6_freeHand_24 rfl hl (by decide) rfl (fun ls hl => ?_)
      refine lv_iload_n hx hb dX6_freeHand_25 rfl (lv_at hl 3 rfl) ?_
      refine q_i (z := 0) c_4 ?_
      refine lv_iconst (v := (-1)) hx hb dX6_freeHand_26 (by decide) ?_
      refine lv_icmp_ne (tgt := 34) hx hb dX6_freeHand_27 (by decide) (fun _ => ?_) (fun c_5 => absurd c_5 (by decide))
      refine lv_iload_n hx hb dX6_freeHand_34 rfl (lv_at hl 0 rfl) ?_
      refine lv_iconst (v := 1) hx hb dX6_freeHand_35 (by decide) ?_
      refine lv_iadd hx hb dX6_freeHand_36 ?_
      refine q_i (z := 1) (by decide) ?_
      refine lv_istore (lv' := [(4, .int 1), (3, .int 0), (0, .ref x0), (1, .int p0), (2, .int p1)]) hx hb dX6_freeHand_37 hl (by decide) rfl (fun ls hl => ?_)
      refine lv_iload_n hx hb dX6_freeHand_39 rfl (lv_at hl 1 rfl) ?_
      refine lv_istore (lv' := [(5, .int 0), (4, .int 1), (3, .int 0), (0, .ref x0), (1, .int p0), (2, .int p1)]) hx hb dX6_freeHand_40 hl (by decide) rfl (fun ls hl => ?_)
      refine lv_iload hx hb dX6_freeHand_42 (lv_at hl 0 rfl) ?_
      refine lv_iload hx hb dX6_freeHand_44 (lv_at hl 1 rfl) ?_
      refine lv_icmp_gt (tgt := 76) hx hb dX6_freeHand_46 (by decide) (fun c_6 => absurd c_6 (by decide)) (fun _ => ?_)
      refine lv_aload_n hx hb dX6_freeHand_49 rfl (lv_at hl 3 rfl) ?_
      refine va_get (D := D) (ci := 6) (v := .ref nw) (C := RX6) (T := TX6) (N := 14) hx hb ht inX6 hown hK hP 0 rfl rfl 0 (Nat.le_of_ble_eq_true rfl) (ht _ kw_337) (fun _ h9 => h9) rfl dX6_freeHand_50 ?_
      refine lv_iload hx hb dX6_freeHand_53 (lv_at hl 0 rfl) ?_
      refine lv_iload_n hx hb dX6_freeHand_55 rfl (lv_at hl 4 rfl) ?_
      refine q_Vi (wr := [(x0, .inr (6, [.ref nw, .ref sp, .ref im, .ref sc, .ref hg, .ref fg, .ref pg, .ref pr, .int 0, .long 0, .long 1, .int 0, .int 0, .int 0]))]) [1] [0] hX hE hK hP hD hS hA hl.1 lk_X6_292 (c_isFree l D cI cZ cP sa nw keys moms lens prts luds hnds lats knds rch spd unN unH ptn 0 p0 _) rfl rfl rfl rfl (by decide) 0 3 rfl rfl rfl rfl (Nat.le_of_ble_eq_true rfl) rfl rfl ⟨Nat.le_of_ble_eq_true rfl, Nat.le_of_ble_eq_true rfl⟩ ⟨Nat.le_of_ble_eq_true rfl, Nat.le_of_ble_eq_true rfl⟩ dX6_freeHand_56 (fun x_7 _ H locs h_7 hP hD hS => ?_)
      have hP : va_P D vwCl [(x0, .inr (6, [.ref nw, .ref sp, .ref im, .ref sc, .ref hg, .ref fg, .ref pg, .ref pr, .int 0, .long 0, .long 1, .int 0, .int 0, .int 0])), (nw, .inr (3, [.int 2, .int 0, .ref keys, .ref moms, .ref lens, .ref prts, .ref luds, .ref hnds, .ref lats, .ref knds, .ref rch, .ref spd, .int 0, .int 0, .int 0, .ref unN, .ref unH, .ref ptn]))] H := hP
      have hD : va_D (va_A (w_freeHand cI cZ cP x0 nw sp im sc hg fg pg pr keys moms lens prts luds hnds lats knds rch spd unN unH ptn p0 p1) sz) [(x0, .inr (6, [.ref nw, .ref sp, .ref im, .ref sc, .ref hg, .ref fg, .ref pg, .ref pr, .int 0, .long 0, .long 1, .int 0, .int 0, .int 0])), (nw, .inr (3, [.int 2, .int 0, .ref keys, .ref moms, .ref lens, .ref prts, .ref luds, .ref hnds, .ref lats, .ref knds, .ref rch, .ref spd, .int 0, .int 0, .int 0, .ref unN, .ref unH, .ref ptn]))] := hD
      subst h_7
      refine lv_if_eq (tgt := 70) hx hb dX6_freeHand_59 (by decide) (fun c_8 => absurd c_8 (by decide)) (fun _ => ?_)
      refine lv_bipush (v := 10) hx hb dX6_freeHand_62 (by decide) ?_
      refine lv_iload_n hx hb dX6_freeHand_64 rfl (lv_at hl 4 rfl) ?_
      refine lv_imul hx hb dX6_freeHand_65 ?_
      refine lv_iload hx hb dX6_freeHand_66 (lv_at hl 0 rfl) ?_
      refine lv_iadd hx hb dX6_freeHand_68 ?_
      refine q_i (z := (10 * p0)) (Int32.add_zero _) ?_
      exact q_iret hX hr hlk () (by simp [h0, h1, c_3, c_4]) (hP.sub [] rfl) (hD.sub [] (by decide) rfl) hS dX6_freeHand_69
    have c_4x := one_of h1 c_3 c_4
    refine lv_iconst (v := 2) hx hb dX6_freeHand_21 (by decide) ?_
    refine lv_iload_n hx hb dX6_freeHand_22 rfl (lv_at hl 2 rfl) ?_
    refine q_i (z := 1) c_4x ?_
    refine lv_imul hx hb dX6_freeHand_23 ?_
    refine q_i (z := 2) (by decide) ?_
    refine lv_istore_n (lv' := [(3, .int 2), (0, .ref x0), (1, .int p0), (2, .int p1)]) hx hb dX6_freeHand_24 rfl hl (by decide) rfl (fun ls hl => ?_)
    refine lv_iload_n hx hb dX6_freeHand_25 rfl (lv_at hl 3 rfl) ?_
    refine q_i (z := 1) c_4x ?_
    refine lv_iconst (v := (-1)) hx hb dX6_freeHand_26 (by decide) ?_
    refine lv_icmp_ne (tgt := 34) hx hb dX6_freeHand_27 (by decide) (fun _ => ?_) (fun c_9 => absurd c_9 (by decide))
    refine lv_iload_n hx hb dX6_freeHand_34 rfl (lv_at hl 0 rfl) ?_
    refine lv_iconst (v := 1) hx hb dX6_freeHand_35 (by decide) ?_
    refine lv_iadd hx hb dX6_freeHand_36 ?_
    refine q_i (z := 3) (by decide) ?_
    refine lv_istore (lv' := [(4, .int 3), (3, .int 2), (0, .ref x0), (1, .int p0), (2, .int p1)]) hx hb dX6_freeHand_37 hl (by decide) rfl (fun ls hl => ?_)
    refine lv_iload_n hx hb dX6_freeHand_39 rfl (lv_at hl 1 rfl) ?_
    refine lv_istore (lv' := [(5, .int 2), (4, .int 3), (3, .int 2), (0, .ref x0), (1, .int p0), (2, .int p1)]) hx hb dX6_freeHand_40 hl (by decide) rfl (fun ls hl => ?_)
    refine lv_iload hx hb dX6_freeHand_42 (lv_at hl 0 rfl) ?_
    refine lv_iload hx hb dX6_freeHand_44 (lv_at hl 1 rfl) ?_
    refine lv_icmp_gt (tgt := 76) hx hb dX6_freeHand_46 (by decide) (fun c_10 => absurd c_10 (by decide)) (fun _ => ?_)
    refine lv_aload_n hx hb dX6_freeHand_49 rfl (lv_at hl 3 rfl) ?_
    refine va_get (D := D) (ci := 6) (v := .ref nw) (C := RX6) (T := TX6) (N := 14) hx hb ht inX6 hown hK hP 0 rfl rfl 0 (Nat.le_of_ble_eq_true rfl) (ht _ kw_337) (fun _ h9 => h9) rfl dX6_freeHand_50 ?_
    refine lv_iload hx hb dX6_freeHand_53 (lv_at hl 0 rfl) ?_
    refine lv_iload_n hx hb dX6_freeHand_55 rfl (lv_at hl 4 rfl) ?_
    refine q_Vi (wr := [(x0, .inr (6, [.ref nw, .ref sp, .ref im, .ref sc, .ref hg, .ref fg, .ref pg, .ref pr, .int 0, .long 0, .long 1, .int 0, .int 0, .int 0]))]) [1] [0] hX hE hK hP hD hS hA hl.1 lk_X6_292 (c_isFree l D cI cZ cP sa nw keys moms lens prts luds hnds lats knds rch spd unN unH ptn 2 p0 _) rfl rfl rfl rfl (by decide) 0 3 rfl rfl rfl rfl (Nat.le_of_ble_eq_true rfl) rfl rfl ⟨Nat.le_of_ble_eq_true rfl, Nat.le_of_ble_eq_true rfl⟩ ⟨Nat.le_of_ble_eq_true rfl, Nat.le_of_ble_eq_true rfl⟩ dX6_freeHand_56 (fun x_11 _ H locs h_11 hP hD hS => ?_)
    have hP : va_P D vwCl [(x0, .inr (6, [.ref nw, .ref sp, .ref im, .ref sc, .ref hg, .ref fg, .ref pg, .ref pr, .int 0, .long 0, .long 1, .int 0, .int 0, .int 0])), (nw, .inr (3, [.int 2, .int 0, .ref keys, .ref moms, .ref lens, .ref prts, .ref luds, .ref hnds, .ref lats, .ref knds, .ref rch, .ref spd, .int 0, .int 0, .int 0, .ref unN, .ref unH, .ref ptn]))] H := hP
    have hD : va_D (va_A (w_freeHand cI cZ cP x0 nw sp im sc hg fg pg pr keys moms lens prts luds hnds lats knds rch spd unN unH ptn p0 p1) sz) [(x0, .inr (6, [.ref nw, .ref sp, .ref im, .ref sc, .ref hg, .ref fg, .ref pg, .ref pr, .int 0, .long 0, .long 1, .int 0, .int 0, .int 0])), (nw, .inr (3, [.int 2, .int 0, .ref keys, .ref moms, .ref lens, .ref prts, .ref luds, .ref hnds, .ref lats, .ref knds, .ref rch, .ref spd, .int 0, .int 0, .int 0, .ref unN, .ref unH, .ref ptn]))] := hD
    subst h_11
    refine lv_if_eq (tgt := 70) hx hb dX6_freeHand_59 (by decide) (fun c_12 => absurd c_12 (by decide)) (fun _ => ?_)
    refine lv_bipush (v := 10) hx hb dX6_freeHand_62 (by decide) ?_
    refine lv_iload_n hx hb dX6_freeHand_64 rfl (lv_at hl 4 rfl) ?_
    refine lv_imul hx hb dX6_freeHand_65 ?_
    refine lv_iload hx hb dX6_freeHand_66 (lv_at hl 0 rfl) ?_
    refine lv_iadd hx hb dX6_freeHand_68 ?_
    exact q_iret hX hr hlk () (by simp [h0, h1, c_3, c_4, c_4x]) (hP.sub [] rfl) (hD.sub [] (by decide) rfl) hS dX6_freeHand_69
  · refine lv_iconst (v := 0) hx hb dX6_freeHand_17 (by decide) ?_
    refine lv_goto (tgt := 24) hx hb dX6_freeHand_18 (by decide) ?_
    refine lv_istore_n (lv' := [(3, .int 0), (0, .ref x0), (1, .int p0), (2, .int p1)]) hx hb dX6_freeHand_24 rfl hl (by decide) rfl (fun ls hl => ?_)
    refine lv_iload_n hx hb dX6_freeHand_25 rfl (lv_at hl 3 rfl) ?_
    refine q_i (z := (-1)) c_3 ?_
    refine lv_iconst (v := (-1)) hx hb dX6_freeHand_26 (by decide) ?_
    refine lv_icmp_ne (tgt := 34) hx hb dX6_freeHand_27 (by decide) (fun c_13 => absurd (by decide) c_13) (fun _ => ?_)
    refine lv_iconst (v := 3) hx hb dX6_freeHand_30 (by decide) ?_
    refine lv_goto (tgt := 37) hx hb dX6_freeHand_31 (by decide) ?_
    refine lv_istore (lv' := [(4, .int 3), (3, .int 0), (0, .ref x0), (1, .int p0), (2, .int p1)]) hx hb dX6_freeHand_37 hl (by decide) rfl (fun ls hl => ?_)
    refine lv_iload_n hx hb dX6_freeHand_39 rfl (lv_at hl 1 rfl) ?_
    refine lv_istore (lv' := [(5, .int 0), (4, .int 3), (3, .int 0), (0, .ref x0), (1, .int p0), (2, .int p1)]) hx hb dX6_freeHand_40 hl (by decide) rfl (fun ls hl => ?_)
    refine lv_iload hx hb dX6_freeHand_42 (lv_at hl 0 rfl) ?_
    refine lv_iload hx hb dX6_freeHand_44 (lv_at hl 1 rfl) ?_
    refine lv_icmp_gt (tgt := 76) hx hb dX6_freeHand_46 (by decide) (fun c_14 => absurd c_14 (by decide)) (fun _ => ?_)
    refine lv_aload_n hx hb dX6_freeHand_49 rfl (lv_at hl 3 rfl) ?_
    refine va_get (D := D) (ci := 6) (v := .ref nw) (C := RX6) (T := TX6) (N := 14) hx hb ht inX6 hown hK hP 0 rfl rfl 0 (Nat.le_of_ble_eq_true rfl) (ht _ kw_337) (fun _ h9 => h9) rfl dX6_freeHand_50 ?_
    refine lv_iload hx hb dX6_freeHand_53 (lv_at hl 0 rfl) ?_
    refine lv_iload_n hx hb dX6_freeHand_55 rfl (lv_at hl 4 rfl) ?_
    refine q_Vi (wr := [(x0, .inr (6, [.ref nw, .ref sp, .ref im, .ref sc, .ref hg, .ref fg, .ref pg, .ref pr, .int 0, .long 0, .long 1, .int 0, .int 0, .int 0]))]) [1] [0] hX hE hK hP hD hS hA hl.1 lk_X6_292 (c_isFree l D cI cZ cP sa nw keys moms lens prts luds hnds lats knds rch spd unN unH ptn 0 p0 _) rfl rfl rfl rfl (by decide) 0 3 rfl rfl rfl rfl (Nat.le_of_ble_eq_true rfl) rfl rfl ⟨Nat.le_of_ble_eq_true rfl, Nat.le_of_ble_eq_true rfl⟩ ⟨Nat.le_of_ble_eq_true rfl, Nat.le_of_ble_eq_true rfl⟩ dX6_freeHand_56 (fun x_15 _ H locs h_15 hP hD hS => ?_)
    have hP : va_P D vwCl [(x0, .inr (6, [.ref nw, .ref sp, .ref im, .ref sc, .ref hg, .ref fg, .ref pg, .ref pr, .int 0, .long 0, .long 1, .int 0, .int 0, .int 0])), (nw, .inr (3, [.int 2, .int 0, .ref keys, .ref moms, .ref lens, .ref prts, .ref luds, .ref hnds, .ref lats, .ref knds, .ref rch, .ref spd, .int 0, .int 0, .int 0, .ref unN, .ref unH, .ref ptn]))] H := hP
    have hD : va_D (va_A (w_freeHand cI cZ cP x0 nw sp im sc hg fg pg pr keys moms lens prts luds hnds lats knds rch spd unN unH ptn p0 p1) sz) [(x0, .inr (6, [.ref nw, .ref sp, .ref im, .ref sc, .ref hg, .ref fg, .ref pg, .ref pr, .int 0, .long 0, .long 1, .int 0, .int 0, .int 0])), (nw, .inr (3, [.int 2, .int 0, .ref keys, .ref moms, .ref lens, .ref prts, .ref luds, .ref hnds, .ref lats, .ref knds, .ref rch, .ref spd, .int 0, .int 0, .int 0, .ref unN, .ref unH, .ref ptn]))] := hD
    subst h_15
    refine lv_if_eq (tgt := 70) hx hb dX6_freeHand_59 (by decide) (fun c_16 => absurd c_16 (by decide)) (fun _ => ?_)
    refine lv_bipush (v := 10) hx hb dX6_freeHand_62 (by decide) ?_
    refine lv_iload_n hx hb dX6_freeHand_64 rfl (lv_at hl 4 rfl) ?_
    refine lv_imul hx hb dX6_freeHand_65 ?_
    refine lv_iload hx hb dX6_freeHand_66 (lv_at hl 0 rfl) ?_
    refine lv_iadd hx hb dX6_freeHand_68 ?_
    refine q_i (z := (10 * p0)) (Int32.add_zero _) ?_
    exact q_iret hX hr hlk () (by simp [h0, h1, c_3]) (hP.sub [] rfl) (hD.sub [] (by decide) rfl) hS dX6_freeHand_69
abbrev w_turns (cI cZ cP : ClassId) (x0 : Nat) (nw : Nat) (sp : Nat) (im : Nat) (sc : Nat) (hg : Nat) (fg : Nat) (pg : Nat) (pr : Nat) (keys : Nat) (moms : Nat) (lens : Nat) (prts : Nat) (luds : Nat) (hnds : Nat) (lats : Nat) (knds : Nat) (rch : Nat) (spd : Nat) (unN : Nat) (unH : Nat) (ptn : Nat) (p0 : Int32) (p1 : Int32) (p2 : Int32) : va_W := [(x0, .inr (6, [.ref nw, .ref sp, .ref im, .ref sc, .ref hg, .ref fg, .ref pg, .ref pr, .int 0, .long 0, .long 1, .int 0, .int 0, .int 0])), (nw, .inr (3, [.int 2, .int 0, .ref keys, .ref moms, .ref lens, .ref prts, .ref luds, .ref hnds, .ref lats, .ref knds, .ref rch, .ref spd, .int 0, .int 0, .int 0, .ref unN, .ref unH, .ref ptn]))]
set_option maxHeartbeats 4000000 in
set_option maxRecDepth 100000 in
theorem c_turns (l : Launch) (D : va_G) (cI cZ cP : ClassId) (sa : Nat → Nat) (x0 : Nat) (nw : Nat) (sp : Nat) (im : Nat) (sc : Nat) (hg : Nat) (fg : Nat) (pg : Nat) (pr : Nat) (keys : Nat) (moms : Nat) (lens : Nat) (prts : Nat) (luds : Nat) (hnds : Nat) (lats : Nat) (knds : Nat) (rch : Nat) (spd : Nat) (unN : Nat) (unH : Nat) (ptn : Nat) (p0 : Int32) (p1 : Int32) (p2 : Int32) (sz : Nat) : Met l yX6_turns (qW yX6_turns cX6_turns 6 (some .int)) ({ frames := 2, cells := 0, slots := 0, locals := 48 } : Room) (qP D (TY cI cZ cP) sa [.ref x0, .int p0, .int p1, .int p2] (w_turns cI cZ cP x0 nw sp im sc hg fg pg pr keys moms lens prts luds hnds lats knds rch spd unN unH ptn p0 p1 p2) sz) (qQi D (w_turns cI cZ cP x0 nw sp im sc hg fg pg pr keys moms lens prts luds hnds lats knds rch spd unN unH ptn p0 p1 p2) sz (fun (r : Int32) (_ : Unit) => r = sp_turns p0 p1 p2) (fun _ => [])) 0 0 (va_A (w_turns cI cZ cP x0 nw sp im sc hg fg pg pr keys moms lens prts luds hnds lats knds rch spd unN unH ptn p0 p1 p2) sz) := by
  refine q_enter (by decide) (Nat.le_of_ble_eq_true rfl) ?_
  intro p e s m below meth c ls hX hr hlk hnm hE hK hP hD hS hA hl
  obtain ⟨hx, hb, hml, hown, ht⟩ := id hX
  have hl : lv_has ls 6 [(0, .ref x0), (1, .int p0), (2, .int p1), (3, .int p2)] := hl
  refine lv_iload_n hx hb dX6_turns_0 rfl (lv_at hl 1 rfl) ?_
  refine lv_iconst (v := 0) hx hb dX6_turns_1 (by decide) ?_
  refine lv_bipush (v := 63) hx hb dX6_turns_2 (by decide) ?_
  refine q_Si (wr := [(x0, .inr (6, [.ref nw, .ref sp, .ref im, .ref sc, .ref hg, .ref fg, .ref pg, .ref pr, .int 0, .long 0, .long 1, .int 0, .int 0, .int 0])), (nw, .inr (3, [.int 2, .int 0, .ref keys, .ref moms, .ref lens, .ref prts, .ref luds, .ref hnds, .ref lats, .ref knds, .ref rch, .ref spd, .int 0, .int 0, .int 0, .ref unN, .ref unH, .ref ptn]))]) [] [0, 1] hX hE hK hP hD hS hA hl.1 lk_X6_62 (c_within l D cI cZ cP sa p0 0 63 _) rfl rfl rfl rfl (by decide) rfl rfl (Nat.le_of_ble_eq_true rfl) rfl rfl ⟨Nat.le_of_ble_eq_true rfl, Nat.le_of_ble_eq_true rfl⟩ ⟨Nat.le_of_ble_eq_true rfl, Nat.le_of_ble_eq_true rfl⟩ dX6_turns_4 (fun x_1 _ H locs h_1 hP hD hS => ?_)
  have hP : va_P D vwCl [(x0, .inr (6, [.ref nw, .ref sp, .ref im, .ref sc, .ref hg, .ref fg, .ref pg, .ref pr, .int 0, .long 0, .long 1, .int 0, .int 0, .int 0])), (nw, .inr (3, [.int 2, .int 0, .ref keys, .ref moms, .ref lens, .ref prts, .ref luds, .ref hnds, .ref lats, .ref knds, .ref rch, .ref spd, .int 0, .int 0, .int 0, .ref unN, .ref unH, .ref ptn]))] H := hP
  have hD : va_D (va_A (w_turns cI cZ cP x0 nw sp im sc hg fg pg pr keys moms lens prts luds hnds lats knds rch spd unN unH ptn p0 p1 p2) sz) [(x0, .inr (6, [.ref nw, .ref sp, .ref im, .ref sc, .ref hg, .ref fg, .ref pg, .ref pr, .int 0, .long 0, .long 1, .int 0, .int 0, .int 0])), (nw, .inr (3, [.int 2, .int 0, .ref keys, .ref moms, .ref lens, .ref prts, .ref luds, .ref hnds, .ref lats, .ref knds, .ref rch, .ref spd, .int 0, .int 0, .int 0, .ref unN, .ref unH, .ref ptn]))] := hD
  rcases Classical.em (0 ≤ p0 ∧ p0 ≤ 63) with c_1 | c_1
  · rw [if_pos c_1] at h_1; subst h_1
    refine lv_if_eq (tgt := 29) hx hb dX6_turns_7 (by decide) (fun c_2 => absurd c_2 (by decide)) (fun _ => ?_)
    refine lv_iload_n hx hb dX6_turns_10 rfl (lv_at hl 2 rfl) ?_
    refine lv_iconst (v := 0) hx hb dX6_turns_11 (by decide) ?_
    refine lv_bipush (v := 9) hx hb dX6_turns_12 (by decide) ?_
    refine q_Si (wr := [(x0, .inr (6, [.ref nw, .ref sp, .ref im, .ref sc, .ref hg, .ref fg, .ref pg, .ref pr, .int 0, .long 0, .long 1, .int 0, .int 0, .int 0])), (nw, .inr (3, [.int 2, .int 0, .ref keys, .ref moms, .ref lens, .ref prts, .ref luds, .ref hnds, .ref lats, .ref knds, .ref rch, .ref spd, .int 0, .int 0, .int 0, .ref unN, .ref unH, .ref ptn]))]) [] [0, 1] hX hE hK hP hD hS hA hl.1 lk_X6_62 (c_within l D cI cZ cP sa p1 0 9 _) rfl rfl rfl rfl (by decide) rfl rfl (Nat.le_of_ble_eq_true rfl) rfl rfl ⟨Nat.le_of_ble_eq_true rfl, Nat.le_of_ble_eq_true rfl⟩ ⟨Nat.le_of_ble_eq_true rfl, Nat.le_of_ble_eq_true rfl⟩ dX6_turns_14 (fun x_3 _ H locs h_3 hP hD hS => ?_)
    have hP : va_P D vwCl [(x0, .inr (6, [.ref nw, .ref sp, .ref im, .ref sc, .ref hg, .ref fg, .ref pg, .ref pr, .int 0, .long 0, .long 1, .int 0, .int 0, .int 0])), (nw, .inr (3, [.int 2, .int 0, .ref keys, .ref moms, .ref lens, .ref prts, .ref luds, .ref hnds, .ref lats, .ref knds, .ref rch, .ref spd, .int 0, .int 0, .int 0, .ref unN, .ref unH, .ref ptn]))] H := hP
    have hD : va_D (va_A (w_turns cI cZ cP x0 nw sp im sc hg fg pg pr keys moms lens prts luds hnds lats knds rch spd unN unH ptn p0 p1 p2) sz) [(x0, .inr (6, [.ref nw, .ref sp, .ref im, .ref sc, .ref hg, .ref fg, .ref pg, .ref pr, .int 0, .long 0, .long 1, .int 0, .int 0, .int 0])), (nw, .inr (3, [.int 2, .int 0, .ref keys, .ref moms, .ref lens, .ref prts, .ref luds, .ref hnds, .ref lats, .ref knds, .ref rch, .ref spd, .int 0, .int 0, .int 0, .ref unN, .ref unH, .ref ptn]))] := hD
    rcases Classical.em (0 ≤ p1 ∧ p1 ≤ 9) with c_3 | c_3
    · rw [if_pos c_3] at h_3; subst h_3
      refine lv_if_eq (tgt := 29) hx hb dX6_turns_17 (by decide) (fun c_4 => absurd c_4 (by decide)) (fun _ => ?_)
      refine lv_iload_n hx hb dX6_turns_20 rfl (lv_at hl 3 rfl) ?_
      refine lv_iconst (v := (-1)) hx hb dX6_turns_21 (by decide) ?_
      refine lv_iconst (v := 1) hx hb dX6_turns_22 (by decide) ?_
      refine q_Si (wr := [(x0, .inr (6, [.ref nw, .ref sp, .ref im, .ref sc, .ref hg, .ref fg, .ref pg, .ref pr, .int 0, .long 0, .long 1, .int 0, .int 0, .int 0])), (nw, .inr (3, [.int 2, .int 0, .ref keys, .ref moms, .ref lens, .ref prts, .ref luds, .ref hnds, .ref lats, .ref knds, .ref rch, .ref spd, .int 0, .int 0, .int 0, .ref unN, .ref unH, .ref ptn]))]) [] [0, 1] hX hE hK hP hD hS hA hl.1 lk_X6_62 (c_within l D cI cZ cP sa p2 (-1) 1 _) rfl rfl rfl rfl (by decide) rfl rfl (Nat.le_of_ble_eq_true rfl) rfl rfl ⟨Nat.le_of_ble_eq_true rfl, Nat.le_of_ble_eq_true rfl⟩ ⟨Nat.le_of_ble_eq_true rfl, Nat.le_of_ble_eq_true rfl⟩ dX6_turns_23 (fun x_5 _ H locs h_5 hP hD hS => ?_)
      have hP : va_P D vwCl [(x0, .inr (6, [.ref nw, .ref sp, .ref im, .ref sc, .ref hg, .ref fg, .ref pg, .ref pr, .int 0, .long 0, .long 1, .int 0, .int 0, .int 0])), (nw, .inr (3, [.int 2, .int 0, .ref keys, .ref moms, .ref lens, .ref prts, .ref luds, .ref hnds, .ref lats, .ref knds, .ref rch, .ref spd, .int 0, .int 0, .int 0, .ref unN, .ref unH, .ref ptn]))] H := hP
      have hD : va_D (va_A (w_turns cI cZ cP x0 nw sp im sc hg fg pg pr keys moms lens prts luds hnds lats knds rch spd unN unH ptn p0 p1 p2) sz) [(x0, .inr (6, [.ref nw, .ref sp, .ref im, .ref sc, .ref hg, .ref fg, .ref pg, .ref pr, .int 0, .long 0, .long 1, .int 0, .int 0, .int 0])), (nw, .inr (3, [.int 2, .int 0, .ref keys, .ref moms, .ref lens, .ref prts, .ref luds, .ref hnds, .ref lats, .ref knds, .ref rch, .ref spd, .int 0, .int 0, .int 0, .ref unN, .ref unH, .ref ptn]))] := hD
      rcases Classical.em ((-1) ≤ p2 ∧ p2 ≤ 1) with c_5 | c_5
      · rw [if_pos c_5] at h_5; subst h_5
        refine lv_if_ne (tgt := 36) hx hb dX6_turns_26 (by decide) (fun _ => ?_) (fun c_6 => absurd c_6 (by decide))
        refine lv_iconst (v := 0) hx hb dX6_turns_36 (by decide) ?_
        refine lv_istore (lv' := [(4, .int 0), (0, .ref x0), (1, .int p0), (2, .int p1), (3, .int p2)]) hx hb dX6_turns_37 hl (by decide) rfl (fun ls hl => ?_)
        refine lv_iload hx hb dX6_turns_39 (lv_at hl 0 rfl) ?_
        refine lv_iload_n hx hb dX6_turns_41 rfl (lv_at hl 3 rfl) ?_
        refine lv_icmp_gt (tgt := 88) hx hb dX6_turns_42 (by decide) (fun c_7 => absurd c_7 (Int32.not_lt.mpr c_3.1)) (fun _ => ?_)
        refine lv_aload_n hx hb dX6_turns_45 rfl (lv_at hl 1 rfl) ?_
        refine lv_iload_n hx hb dX6_turns_46 rfl (lv_at hl 2 rfl) ?_
        refine lv_iload hx hb dX6_turns_47 (lv_at hl 0 rfl) ?_
        refine lv_isub hx hb dX6_turns_49 ?_
        refine q_i (z := p0) (Int32.sub_zero _) ?_
        refine lv_iload_n hx hb dX6_turns_50 rfl (lv_at hl 4 rfl) ?_
        refine q_Vi (wr := []) [0, 1] [] hX hE hK hP hD hS hA hl.1 lk_X6_227 (c_freeHand l D cI cZ cP sa x0 nw sp im sc hg fg pg pr keys moms lens prts luds hnds lats knds rch spd unN unH ptn p0 p2 c_1 c_5 _) rfl rfl rfl rfl (by decide) 0 6 rfl rfl rfl rfl (Nat.le_of_ble_eq_true rfl) rfl rfl ⟨Nat.le_of_ble_eq_true rfl, Nat.le_of_ble_eq_true rfl⟩ ⟨Nat.le_of_ble_eq_true rfl, Nat.le_of_ble_eq_true rfl⟩ dX6_turns_51 (fun x_8 _ H locs h_8 hP hD hS => ?_)
        have hP : va_P D vwCl [] H := hP
        have hD : va_D (va_A (w_turns cI cZ cP x0 nw sp im sc hg fg pg pr keys moms lens prts luds hnds lats knds rch spd unN unH ptn p0 p1 p2) sz) [] := hD
        subst h_8
        refine lv_istore (lv' := [(5, .int (10 * p0 + (if p2 = 1 then 2 else 0))), (4, .int 0), (0, .ref x0), (1, .int p0), (2, .int p1), (3, .int p2)]) hx hb dX6_turns_54 hl (by decide) rfl (fun ls hl => ?_)
        refine lv_iload hx hb dX6_turns_56 (lv_at hl 0 rfl) ?_
        refine lv_iconst (v := (-1)) hx hb dX6_turns_58 (by decide) ?_
        refine lv_icmp_ne (tgt := 73) hx hb dX6_turns_59 (by decide) (fun _ => ?_) (fun c_9 => absurd c_9 (turn_ne c_1))
        refine lv_iload hx hb dX6_turns_73 (lv_at hl 0 rfl) ?_
        refine lv_iconst (v := (-1)) hx hb dX6_turns_75 (by decide) ?_
        refine lv_icmp_eq (tgt := 82) hx hb dX6_turns_76 (by decide) (fun c_10 => absurd c_10 (turn_ne c_1)) (fun _ => ?_)
        refine lv_iload hx hb dX6_turns_79 (lv_at hl 0 rfl) ?_
        exact q_iret hX hr hlk () (by simp [sp_turns, c_1, c_3, c_5]) (hP.sub [] rfl) (hD.sub [] (by decide) rfl) hS dX6_turns_81
      · rw [if_neg c_5] at h_5; subst h_5
        refine lv_if_ne (tgt := 36) hx hb dX6_turns_26 (by decide) (fun c_11 => absurd (by decide) c_11) (fun _ => ?_)
        refine lv_aload_n hx hb dX6_turns_29 rfl (lv_at hl 0 rfl) ?_
        refine lv_bipush (v := (-2)) hx hb dX6_turns_30 (by decide) ?_
        refine q_Vi (wr := [(nw, .inr (3, [.int 2, .int 0, .ref keys, .ref moms, .ref lens, .ref prts, .ref luds, .ref hnds, .ref lats, .ref knds, .ref rch, .ref spd, .int 0, .int 0, .int 0, .ref unN, .ref unH, .ref ptn]))]) [0] [1] hX hE hK hP hD hS hA hl.1 lk_X6_66 (c_refuseBad l D cI cZ cP sa x0 nw sp im sc hg fg pg pr 0 0 1 0 0 0 (-2) _) rfl rfl rfl rfl (by decide) 0 6 rfl rfl rfl rfl (Nat.le_of_ble_eq_true rfl) rfl rfl ⟨Nat.le_of_ble_eq_true rfl, Nat.le_of_ble_eq_true rfl⟩ ⟨Nat.le_of_ble_eq_true rfl, Nat.le_of_ble_eq_true rfl⟩ dX6_turns_32 (fun x_12 _ H locs h_12 hP hD hS => ?_)
        have hP : va_P D vwCl [(nw, .inr (3, [.int 2, .int 0, .ref keys, .ref moms, .ref lens, .ref prts, .ref luds, .ref hnds, .ref lats, .ref knds, .ref rch, .ref spd, .int 0, .int 0, .int 0, .ref unN, .ref unH, .ref ptn]))] H := hP
        have hD : va_D (va_A (w_turns cI cZ cP x0 nw sp im sc hg fg pg pr keys moms lens prts luds hnds lats knds rch spd unN unH ptn p0 p1 p2) sz) [(nw, .inr (3, [.int 2, .int 0, .ref keys, .ref moms, .ref lens, .ref prts, .ref luds, .ref hnds, .ref lats, .ref knds, .ref rch, .ref spd, .int 0, .int 0, .int 0, .ref unN, .ref unH, .ref ptn]))] := hD
        subst h_12
        exact q_iret hX hr hlk () (by simp [sp_turns, c_1, c_3, c_5]) (hP.sub [] rfl) (hD.sub [] (by decide) rfl) hS dX6_turns_35
    · rw [if_neg c_3] at h_3; subst h_3
      refine lv_if_eq (tgt := 29) hx hb dX6_turns_17 (by decide) (fun _ => ?_) (fun c_13 => absurd (by decide) c_13)
      refine lv_aload_n hx hb dX6_turns_29 rfl (lv_at hl 0 rfl) ?_
      refine lv_bipush (v := (-2)) hx hb dX6_turns_30 (by decide) ?_
      refine q_Vi (wr := [(nw, .inr (3, [.int 2, .int 0, .ref keys, .ref moms, .ref lens, .ref prts, .ref luds, .ref hnds, .ref lats, .ref knds, .ref rch, .ref spd, .int 0, .int 0, .int 0, .ref unN, .ref unH, .ref ptn]))]) [0] [1] hX hE hK hP hD hS hA hl.1 lk_X6_66 (c_refuseBad l D cI cZ cP sa x0 nw sp im sc hg fg pg pr 0 0 1 0 0 0 (-2) _) rfl rfl rfl rfl (by decide) 0 6 rfl rfl rfl rfl (Nat.le_of_ble_eq_true rfl) rfl rfl ⟨Nat.le_of_ble_eq_true rfl, Nat.le_of_ble_eq_true rfl⟩ ⟨Nat.le_of_ble_eq_true rfl, Nat.le_of_ble_eq_true rfl⟩ dX6_turns_32 (fun x_14 _ H locs h_14 hP hD hS => ?_)
      have hP : va_P D vwCl [(nw, .inr (3, [.int 2, .int 0, .ref keys, .ref moms, .ref lens, .ref prts, .ref luds, .ref hnds, .ref lats, .ref knds, .ref rch, .ref spd, .int 0, .int 0, .int 0, .ref unN, .ref unH, .ref ptn]))] H := hP
      have hD : va_D (va_A (w_turns cI cZ cP x0 nw sp im sc hg fg pg pr keys moms lens prts luds hnds lats knds rch spd unN unH ptn p0 p1 p2) sz) [(nw, .inr (3, [.int 2, .int 0, .ref keys, .ref moms, .ref lens, .ref prts, .ref luds, .ref hnds, .ref lats, .ref knds, .ref rch, .ref spd, .int 0, .int 0, .int 0, .ref unN, .ref unH, .ref ptn]))] := hD
      subst h_14
      exact q_iret hX hr hlk () (by simp [sp_turns, c_1, c_3]) (hP.sub [] rfl) (hD.sub [] (by decide) rfl) hS dX6_turns_35
  · rw [if_neg c_1] at h_1; subst h_1
    refine lv_if_eq (tgt := 29) hx hb dX6_turns_7 (by decide) (fun _ => ?_) (fun c_15 => absurd (by decide) c_15)
    refine lv_aload_n hx hb dX6_turns_29 rfl (lv_at hl 0 rfl) ?_
    refine lv_bipush (v := (-2)) hx hb dX6_turns_30 (by decide) ?_
    refine q_Vi (wr := [(nw, .inr (3, [.int 2, .int 0, .ref keys, .ref moms, .ref lens, .ref prts, .ref luds, .ref hnds, .ref lats, .ref knds, .ref rch, .ref spd, .int 0, .int 0, .int 0, .ref unN, .ref unH, .ref ptn]))]) [0] [1] hX hE hK hP hD hS hA hl.1 lk_X6_66 (c_refuseBad l D cI cZ cP sa x0 nw sp im sc hg fg pg pr 0 0 1 0 0 0 (-2) _) rfl rfl rfl rfl (by decide) 0 6 rfl rfl rfl rfl (Nat.le_of_ble_eq_true rfl) rfl rfl ⟨Nat.le_of_ble_eq_true rfl, Nat.le_of_ble_eq_true rfl⟩ ⟨Nat.le_of_ble_eq_true rfl, Nat.le_of_ble_eq_true rfl⟩ dX6_turns_32 (fun x_16 _ H locs h_16 hP hD hS => ?_)
    have hP : va_P D vwCl [(nw, .inr (3, [.int 2, .int 0, .ref keys, .ref moms, .ref lens, .ref prts, .ref luds, .ref hnds, .ref lats, .ref knds, .ref rch, .ref spd, .int 0, .int 0, .int 0, .ref unN, .ref unH, .ref ptn]))] H := hP
    have hD : va_D (va_A (w_turns cI cZ cP x0 nw sp im sc hg fg pg pr keys moms lens prts luds hnds lats knds rch spd unN unH ptn p0 p1 p2) sz) [(nw, .inr (3, [.int 2, .int 0, .ref keys, .ref moms, .ref lens, .ref prts, .ref luds, .ref hnds, .ref lats, .ref knds, .ref rch, .ref spd, .int 0, .int 0, .int 0, .ref unN, .ref unH, .ref ptn]))] := hD
    subst h_16
    exact q_iret hX hr hlk () (by simp [sp_turns, c_1]) (hP.sub [] rfl) (hD.sub [] (by decide) rfl) hS dX6_turns_35
