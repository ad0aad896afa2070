abbrev w_m_laySlips (cI cZ cP : ClassId) (mo : Nat) (a_now : Nat) (a_kep : Nat) (a_isk : Nat) (a_ref : Nat) (a_cw : Nat) (a_row : Nat) (a_lea : Nat) (a_sli : Nat) (a_lef : Nat) (a_bst : Nat) (a_try : Nat) (a_mom : Nat) (a_byt : Nat) (a_nxt : Nat) (a_val : Nat) : va_W := [(mo, .inr (7, [.ref a_now, .ref a_kep, .ref a_isk, .ref a_ref, .long 0, .long 1, .int 0, .int 0, .int 0, .int 0, .ref a_cw, .ref a_row, .int 0, .ref a_lea, .ref a_sli, .ref a_lef, .ref a_bst, .ref a_try, .int 0, .ref a_mom, .ref a_byt, .int 0, .int 0, .int 0, .int 0, .int 0, .ref a_nxt, .ref a_val])), (a_now, .inl (cI, 221, .inl nw0)), (a_sli, .inl (cI, 8, .inl (fun _ => 0)))]
set_option maxHeartbeats 4000000 in
set_option maxRecDepth 100000 in
theorem c_m_laySlips (l : Launch) (D : va_G) (cI cZ cP : ClassId) (sa : Nat → Nat) (mo : Nat) (a_now : Nat) (a_kep : Nat) (a_isk : Nat) (a_ref : Nat) (a_cw : Nat) (a_row : Nat) (a_lea : Nat) (a_sli : Nat) (a_lef : Nat) (a_bst : Nat) (a_try : Nat) (a_mom : Nat) (a_byt : Nat) (a_nxt : Nat) (a_val : Nat) (sz : Nat) : Met l yX7_laySlips (qW yX7_laySlips cX7_laySlips 4 none) ({ frames := 1, cells := 0, slots := 0, locals := 20 } : Room) (qP D (TY cI cZ cP) sa [.ref mo] (w_m_laySlips cI cZ cP mo a_now a_kep a_isk a_ref a_cw a_row a_lea a_sli a_lef a_bst a_try a_mom a_byt a_nxt a_val) sz) (qQv D (w_m_laySlips cI cZ cP mo a_now a_kep a_isk a_ref a_cw a_row a_lea a_sli a_lef a_bst a_try a_mom a_byt a_nxt a_val) sz (fun _ : Unit => True) (fun _ => [(mo, .inr (7, [.ref a_now, .ref a_kep, .ref a_isk, .ref a_ref, .long 0, .long 1, .int 0, .int 0, .int 0, .int 0, .ref a_cw, .ref a_row, .int 0, .ref a_lea, .ref a_sli, .ref a_lef, .ref a_bst, .ref a_try, .int 0, .ref a_mom, .ref a_byt, .int 0, .int 0, .int 0, .int 0, .int 0, .ref a_nxt, .ref a_val])), (a_now, .inl (cI, 221, .inl nw0)), (a_sli, .inl (cI, 8, .inl (fun _ => 0)))])) 0 0 (va_A (w_m_laySlips cI cZ cP mo a_now a_kep a_isk a_ref a_cw a_row a_lea a_sli a_lef a_bst a_try a_mom a_byt a_nxt a_val) sz) := by
  refine q_enter (by decide) (Nat.le_of_ble_eq_true rfl) ?_
  intro p e s m below meth c ls hX hr hlk hnm hE hK hP hD hS hA hl
  obtain ⟨hx, hb, hml, hown, ht⟩ := id hX
  have hl : lv_has ls 4 [(0, .ref mo)] := hl
  refine lv_iconst (v := 0) hx hb dX7_laySlips_0 (by decide) ?_
  refine lv_istore_n (lv' := [(1, .int 0), (0, .ref mo)]) hx hb dX7_laySlips_1 rfl hl (by decide) rfl (fun ls hl => ?_)
  refine lv_iload_n hx hb dX7_laySlips_2 rfl (lv_at hl 0 rfl) ?_
  refine lv_bipush (v := 8) hx hb dX7_laySlips_3 (by decide) ?_
  refine lv_icmp_ge (tgt := 21) hx hb dX7_laySlips_5 (by decide) (fun c_1 => absurd c_1 (by decide)) (fun _ => ?_)
  refine lv_aload_n hx hb dX7_laySlips_8 rfl (lv_at hl 1 rfl) ?_
  refine va_get (D := D) (ci := 7) (v := .ref a_sli) (C := RX7) (T := TX7) (N := 28) hx hb ht inX7 hown hK hP 0 rfl rfl 14 (Nat.le_of_ble_eq_true rfl) (ht _ kw_918) (fun _ h9 => h9) rfl dX7_laySlips_9 ?_
  refine lv_iload_n hx hb dX7_laySlips_12 rfl (lv_at hl 0 rfl) ?_
  refine lv_iconst (v := 0) hx hb dX7_laySlips_13 (by decide) ?_
  refine va_iast hx hb hK hP hD hS 2 0 rfl rfl (vin (by decide)) dX7_laySlips_14 (fun H locs hP hD hS => ?_)
  have hP : va_P D vwCl [(mo, .inr (7, [.ref a_now, .ref a_kep, .ref a_isk, .ref a_ref, .long 0, .long 1, .int 0, .int 0, .int 0, .int 0, .ref a_cw, .ref a_row, .int 0, .ref a_lea, .ref a_sli, .ref a_lef, .ref a_bst, .ref a_try, .int 0, .ref a_mom, .ref a_byt, .int 0, .int 0, .int 0, .int 0, .int 0, .ref a_nxt, .ref a_val])), (a_now, .inl (cI, 221, .inl nw0)), (a_sli, .inl (cI, 8, .inl (upd (fun _ => 0) (0 : Int32).toNatClampNeg 0)))] H := hP
  have hD : va_D (va_A (w_m_laySlips cI cZ cP mo a_now a_kep a_isk a_ref a_cw a_row a_lea a_sli a_lef a_bst a_try a_mom a_byt a_nxt a_val) sz) [(mo, .inr (7, [.ref a_now, .ref a_kep, .ref a_isk, .ref a_ref, .long 0, .long 1, .int 0, .int 0, .int 0, .int 0, .ref a_cw, .ref a_row, .int 0, .ref a_lea, .ref a_sli, .ref a_lef, .ref a_bst, .ref a_try, .int 0, .ref a_mom, .ref a_byt, .int 0, .int 0, .int 0, .int 0, .int 0, .ref a_nxt, .ref a_val])), (a_now, .inl (cI, 221, .inl nw0)), (a_sli, .inl (cI, 8, .inl (upd (fun _ => 0) (0 : Int32).toNatClampNeg 0)))] := hD
  rw [upd_c] at hP hD
  have hP : va_P D vwCl [(mo, .inr (7, [.ref a_now, .ref a_kep, .ref a_isk, .ref a_ref, .long 0, .long 1, .int 0, .int 0, .int 0, .int 0, .ref a_cw, .ref a_row, .int 0, .ref a_lea, .ref a_sli, .ref a_lef, .ref a_bst, .ref a_try, .int 0, .ref a_mom, .ref a_byt, .int 0, .int 0, .int 0, .int 0, .int 0, .ref a_nxt, .ref a_val])), (a_now, .inl (cI, 221, .inl nw0)), (a_sli, .inl (cI, 8, .inl (fun _ => 0)))] H := hP
  have hD : va_D (va_A (w_m_laySlips cI cZ cP mo a_now a_kep a_isk a_ref a_cw a_row a_lea a_sli a_lef a_bst a_try a_mom a_byt a_nxt a_val) sz) [(mo, .inr (7, [.ref a_now, .ref a_kep, .ref a_isk, .ref a_ref, .long 0, .long 1, .int 0, .int 0, .int 0, .int 0, .ref a_cw, .ref a_row, .int 0, .ref a_lea, .ref a_sli, .ref a_lef, .ref a_bst, .ref a_try, .int 0, .ref a_mom, .ref a_byt, .int 0, .int 0, .int 0, .int 0, .int 0, .ref a_nxt, .ref a_val])), (a_now, .inl (cI, 221, .inl nw0)), (a_sli, .inl (cI, 8, .inl (fun _ => 0)))] := hD
  refine lv_iinc (v := 1) (lv' := [(1, .int 1), (0, .ref mo)]) hx hb dX7_laySlips_15 hl (k := 0) rfl (by decide) (by decide) rfl (fun ls hl => ?_)
  refine lv_goto (tgt := 2) hx hb dX7_laySlips_18 (by decide) ?_
  refine lv_iload_n hx hb dX7_laySlips_2 rfl (lv_at hl 0 rfl) ?_
  refine lv_bipush (v := 8) hx hb dX7_laySlips_3 (by decide) ?_
  refine lv_icmp_ge (tgt := 21) hx hb dX7_laySlips_5 (by decide) (fun c_2 => absurd c_2 (by decide)) (fun _ => ?_)
  refine lv_aload_n hx hb dX7_laySlips_8 rfl (lv_at hl 1 rfl) ?_
  refine va_get (D := D) (ci := 7) (v := .ref a_sli) (C := RX7) (T := TX7) (N := 28) hx hb ht inX7 hown hK hP 0 rfl rfl 14 (Nat.le_of_ble_eq_true rfl) (ht _ kw_918) (fun _ h9 => h9) rfl dX7_laySlips_9 ?_
  refine lv_iload_n hx hb dX7_laySlips_12 rfl (lv_at hl 0 rfl) ?_
  refine lv_iconst (v := 0) hx hb dX7_laySlips_13 (by decide) ?_
  refine va_iast hx hb hK hP hD hS 2 0 rfl rfl (vin (by decide)) dX7_laySlips_14 (fun H locs hP hD hS => ?_)
  have hP : va_P D vwCl [(mo, .inr (7, [.ref a_now, .ref a_kep, .ref a_isk, .ref a_ref, .long 0, .long 1, .int 0, .int 0, .int 0, .int 0, .ref a_cw, .ref a_row, .int 0, .ref a_lea, .ref a_sli, .ref a_lef, .ref a_bst, .ref a_try, .int 0, .ref a_mom, .ref a_byt, .int 0, .int 0, .int 0, .int 0, .int 0, .ref a_nxt, .ref a_val])), (a_now, .inl (cI, 221, .inl nw0)), (a_sli, .inl (cI, 8, .inl (upd (fun _ => 0) (1 : Int32).toNatClampNeg 0)))] H := hP
  have hD : va_D (va_A (w_m_laySlips cI cZ cP mo a_now a_kep a_isk a_ref a_cw a_row a_lea a_sli a_lef a_bst a_try a_mom a_byt a_nxt a_val) sz) [(mo, .inr (7, [.ref a_now, .ref a_kep, .ref a_isk, .ref a_ref, .long 0, .long 1, .int 0, .int 0, .int 0, .int 0, .ref a_cw, .ref a_row, .int 0, .ref a_lea, .ref a_sli, .ref a_lef, .ref a_bst, .ref a_try, .int 0, .ref a_mom, .ref a_byt, .int 0, .int 0, .int 0, .int 0, .int 0, .ref a_nxt, .ref a_val])), (a_now, .inl (cI, 221, .inl nw0)), (a_sli, .inl (cI, 8, .inl (upd (fun _ => 0) (1 : Int32).toNatClampNeg 0)))] := hD
  rw [upd_c] at hP hD
  have hP : va_P D vwCl [(mo, .inr (7, [.ref a_now, .ref a_kep, .ref a_isk, .ref a_ref, .long 0, .long 1, .int 0, .int 0, .int 0, .int 0, .ref a_cw, .ref a_row, .int 0, .ref a_lea, .ref a_sli, .ref a_lef, .ref a_bst, .ref a_try, .int 0, .ref a_mom, .ref a_byt, .int 0, .int 0, .int 0, .int 0, .int 0, .ref a_nxt, .ref a_val])), (a_now, .inl (cI, 221, .inl nw0)), (a_sli, .inl (cI, 8, .inl (fun _ => 0)))] H := hP
  have hD : va_D (va_A (w_m_laySlips cI cZ cP mo a_now a_kep a_isk a_ref a_cw a_row a_lea a_sli a_lef a_bst a_try a_mom a_byt a_nxt a_val) sz) [(mo, .inr (7, [.ref a_now, .ref a_kep, .ref a_isk, .ref a_ref, .long 0, .long 1, .int 0, .int 0, .int 0, .int 0, .ref a_cw, .ref a_row, .int 0, .ref a_lea, .ref a_sli, .ref a_lef, .ref a_bst, .ref a_try, .int 0, .ref a_mom, .ref a_byt, .int 0, .int 0, .int 0, .int 0, .int 0, .ref a_nxt, .ref a_val])), (a_now, .inl (cI, 221, .inl nw0)), (a_sli, .inl (cI, 8, .inl (fun _ => 0)))] := hD
  refine lv_iinc (v := 2) (lv' := [(1, .int 2), (0, .ref mo)]) hx hb dX7_laySlips_15 hl (k := 0) rfl (by decide) (by decide) rfl (fun ls hl => ?_)
  refine lv_goto (tgt := 2) hx hb dX7_laySlips_18 (by decide) ?_
  refine lv_iload_n hx hb dX7_laySlips_2 rfl (lv_at hl 0 rfl) ?_
  refine lv_bipush (v := 8) hx hb dX7_laySlips_3 (by decide) ?_
  refine lv_icmp_ge (tgt := 21) hx hb dX7_laySlips_5 (by decide) (fun c_3 => absurd c_3 (by decide)) (fun _ => ?_)
  refine lv_aload_n hx hb dX7_laySlips_8 rfl (lv_at hl 1 rfl) ?_
  refine va_get (D := D) (ci := 7) (v := .ref a_sli) (C := RX7) (T := TX7) (N := 28) hx hb ht inX7 hown hK hP 0 rfl rfl 14 (Nat.le_of_ble_eq_true rfl) (ht _ kw_918) (fun _ h9 => h9) rfl dX7_laySlips_9 ?_
  refine lv_iload_n hx hb dX7_laySlips_12 rfl (lv_at hl 0 rfl) ?_
  refine lv_iconst (v := 0) hx hb dX7_laySlips_13 (by decide) ?_
  refine va_iast hx hb hK hP hD hS 2 0 rfl rfl (vin (by decide)) dX7_laySlips_14 (fun H locs hP hD hS => ?_)
  have hP : va_P D vwCl [(mo, .inr (7, [.ref a_now, .ref a_kep, .ref a_isk, .ref a_ref, .long 0, .long 1, .int 0, .int 0, .int 0, .int 0, .ref a_cw, .ref a_row, .int 0, .ref a_lea, .ref a_sli, .ref a_lef, .ref a_bst, .ref a_try, .int 0, .ref a_mom, .ref a_byt, .int 0, .int 0, .int 0, .int 0, .int 0, .ref a_nxt, .ref a_val])), (a_now, .inl (cI, 221, .inl nw0)), (a_sli, .inl (cI, 8, .inl (upd (fun _ => 0) (2 : Int32).toNatClampNeg 0)))] H := hP
  have hD : va_D (va_A (w_m_laySlips cI cZ cP mo a_now a_kep a_isk a_ref a_cw a_row a_lea a_sli a_lef a_bst a_try a_mom a_byt a_nxt a_val) sz) [(mo, .inr (7, [.ref a_now, .ref a_kep, .ref a_isk, .ref a_ref, .long 0, .long 1, .int 0, .int 0, .int 0, .int 0, .ref a_cw, .ref a_row, .int 0, .ref a_lea, .ref a_sli, .ref a_lef, .ref a_bst, .ref a_try, .int 0, .ref a_mom, .ref a_byt, .int 0, .int 0, .int 0, .int 0, .int 0, .ref a_nxt, .ref a_val])), (a_now, .inl (cI, 221, .inl nw0)), (a_sli, .inl (cI, 8, .inl (upd (fun _ => 0) (2 : Int32).toNatClampNeg 0)))] := hD
  rw [upd_c] at hP hD
  have hP : va_P D vwCl [(mo, .inr (7, [.ref a_now, .ref a_kep, .ref a_isk, .ref a_ref, .long 0, .long 1, .int 0, .int 0, .int 0, .int 0, .ref a_cw, .ref a_row, .int 0, .ref a_lea, .ref a_sli, .ref a_lef, .ref a_bst, .ref a_try, .int 0, .ref a_mom, .ref a_byt, .int 0, .int 0, .int 0, .int 0, .int 0, .ref a_nxt, .ref a_val])), (a_now, .inl (cI, 221, .inl nw0)), (a_sli, .inl (cI, 8, .inl (fun _ => 0)))] H := hP
  have hD : va_D (va_A (w_m_laySlips cI cZ cP mo a_now a_kep a_isk a_ref a_cw a_row a_lea a_sli a_lef a_bst a_try a_mom a_byt a_nxt a_val) sz) [(mo, .inr (7, [.ref a_now, .ref a_kep, .ref a_isk, .ref a_ref, .long 0, .long 1, .int 0, .int 0, .int 0, .int 0, .ref a_cw, .ref a_row, .int 0, .ref a_lea, .ref a_sli, .ref a_lef, .ref a_bst, .ref a_try, .int 0, .ref a_mom, .ref a_byt, .int 0, .int 0, .int 0, .int 0, .int 0, .ref a_nxt, .ref a_val])), (a_now, .inl (cI, 221, .inl nw0)), (a_sli, .inl (cI, 8, .inl (fun _ => 0)))] := hD
  refine lv_iinc (v := 3) (lv' := [(1, .int 3), (0, .ref mo)]) hx hb dX7_laySlips_15 hl (k := 0) rfl (by decide) (by decide) rfl (fun ls hl => ?_)
  refine lv_goto (tgt := 2) hx hb dX7_laySlips_18 (by decide) ?_
  refine lv_iload_n hx hb dX7_laySlips_2 rfl (lv_at hl 0 rfl) ?_
  refine lv_bipush (v := 8) hx hb dX7_laySlips_3 (by decide) ?_
  refine lv_icmp_ge (tgt := 21) hx hb dX7_laySlips_5 (by decide) (fun c_4 => absurd c_4 (by decide)) (fun _ => ?_)
  refine lv_aload_n hx hb dX7_laySlips_8 rfl (lv_at hl 1 rfl) ?_
  refine va_get (D := D) (ci := 7) (v := .ref a_sli) (C := RX7) (T := TX7) (N := 28) hx hb ht inX7 hown hK hP 0 rfl rfl 14 (Nat.le_of_ble_eq_true rfl) (ht _ kw_918) (fun _ h9 => h9) rfl dX7_laySlips_9 ?_
  refine lv_iload_n hx hb dX7_laySlips_12 rfl (lv_at hl 0 rfl) ?_
  refine lv_iconst (v := 0) hx hb dX7_laySlips_13 (by decide) ?_
  refine va_iast hx hb hK hP hD hS 2 0 rfl rfl (vin (by decide)) dX7_laySlips_14 (fun H locs hP hD hS => ?_)
  have hP : va_P D vwCl [(mo, .inr (7, [.ref a_now, .ref a_kep, .ref a_isk, .ref a_ref, .long 0, .long 1, .int 0, .int 0, .int 0, .int 0, .ref a_cw, .ref a_row, .int 0, .ref a_lea, .ref a_sli, .ref a_lef, .ref a_bst, .ref a_try, .int 0, .ref a_mom, .ref a_byt, .int 0, .int 0, .int 0, .int 0, .int 0, .ref a_nxt, .ref a_val])), (a_now, .inl (cI, 221, .inl nw0)), (a_sli, .inl (cI, 8, .inl (upd (fun _ => 0) (3 : Int32).toNatClampNeg 0)))] H := hP
  have hD : va_D (va_A (w_m_laySlips cI cZ cP mo a_now a_kep a_isk a_ref a_cw a_row a_lea a_sli a_lef a_bst a_try a_mom a_byt a_nxt a_val) sz) [(mo, .inr (7, [.ref a_now, .ref a_kep, .ref a_isk, .ref a_ref, .long 0, .long 1, .int 0, .int 0, .int 0, .int 0, .ref a_cw, .ref a_row, .int 0, .ref a_lea, .ref a_sli, .ref a_lef, .ref a_bst, .ref a_try, .int 0, .ref a_mom, .ref a_byt, .int 0, .int 0, .int 0, .int 0, .int 0, .ref a_nxt, .ref a_val])), (a_now, .inl (cI, 221, .inl nw0)), (a_sli, .inl (cI, 8, .inl (upd (fun _ => 0) (3 : Int32).toNatClampNeg 0)))] := hD
  rw [upd_c] at hP hD
  have hP : va_P D vwCl [(mo, .inr (7, [.ref a_now, .ref a_kep, .ref a_isk, .ref a_ref, .long 0, .long 1, .int 0, .int 0, .int 0, .int 0, .ref a_cw, .ref a_row, .int 0, .ref a_lea, .ref a_sli, .ref a_lef, .ref a_bst, .ref a_try, .int 0, .ref a_mom, .ref a_byt, .int 0, .int 0, .int 0, .int 0, .int 0, .ref a_nxt, .ref a_val])), (a_now, .inl (cI, 221, .inl nw0)), (a_sli, .inl (cI, 8, .inl (fun _ => 0)))] H := hP
  have hD : va_D (va_A (w_m_laySlips cI cZ cP mo a_now a_kep a_isk a_ref a_cw a_row a_lea a_sli a_lef a_bst a_try a_mom a_byt a_nxt a_val) sz) [(mo, .inr (7, [.ref a_now, .ref a_kep, .ref a_isk, .ref a_ref, .long 0, .long 1, .int 0, .int 0, .int 0, .int 0, .ref a_cw, .ref a_row, .int 0, .ref a_lea, .ref a_sli, .ref a_lef, .ref a_bst, .ref a_try, .int 0, .ref a_mom, .ref a_byt, .int 0, .int 0, .int 0, .int 0, .int 0, .ref a_nxt, .ref a_val])), (a_now, .inl (cI, 221, .inl nw0)), (a_sli, .inl (cI, 8, .inl (fun _ => 0)))] := hD
  refine lv_iinc (v := 4) (lv' := [(1, .int 4), (0, .ref mo)]) hx hb dX7_laySlips_15 hl (k := 0) rfl (by decide) (by decide) rfl (fun ls hl => ?_)
  refine lv_goto (tgt := 2) hx hb dX7_laySlips_18 (by decide) ?_
  refine lv_iload_n hx hb dX7_laySlips_2 rfl (lv_at hl 0 rfl) ?_
  refine lv_bipush (v := 8) hx hb dX7_laySlips_3 (by decide) ?_
  refine lv_icmp_ge (tgt := 21) hx hb dX7_laySlips_5 (by decide) (fun c_5 => absurd c_5 (by decide)) (fun _ => ?_)
  refine lv_aload_n hx hb dX7_laySlips_8 rfl (lv_at hl 1 rfl) ?_
  refine va_get (D := D) (ci := 7) (v := .ref a_sli) (C := RX7) (T := TX7) (N := 28) hx hb ht inX7 hown hK hP 0 rfl rfl 14 (Nat.le_of_ble_eq_true rfl) (ht _ kw_918) (fun _ h9 => h9) rfl dX7_laySlips_9 ?_
  refine lv_iload_n hx hb dX7_laySlips_12 rfl (lv_at hl 0 rfl) ?_
  refine lv_iconst (v := 0) hx hb dX7_laySlips_13 (by decide) ?_
  refine va_iast hx hb hK hP hD hS 2 0 rfl rfl (vin (by decide)) dX7_laySlips_14 (fun H locs hP hD hS => ?_)
  have hP : va_P D vwCl [(mo, .inr (7, [.ref a_now, .ref a_kep, .ref a_isk, .ref a_ref, .long 0, .long 1, .int 0, .int 0, .int 0, .int 0, .ref a_cw, .ref a_row, .int 0, .ref a_lea, .ref a_sli, .ref a_lef, .ref a_bst, .ref a_try, .int 0, .ref a_mom, .ref a_byt, .int 0, .int 0, .int 0, .int 0, .int 0, .ref a_nxt, .ref a_val])), (a_now, .inl (cI, 221, .inl nw0)), (a_sli, .inl (cI, 8, .inl (upd (fun _ => 0) (4 : Int32).toNatClampNeg 0)))] H := hP
  have hD : va_D (va_A (w_m_laySlips cI cZ cP mo a_now a_kep a_isk a_ref a_cw a_row a_lea a_sli a_lef a_bst a_try a_mom a_byt a_nxt a_val) sz) [(mo, .inr (7, [.ref a_now, .ref a_kep, .ref a_isk, .ref a_ref, .long 0, .long 1, .int 0, .int 0, .int 0, .int 0, .ref a_cw, .ref a_row, .int 0, .ref a_lea, .ref a_sli, .ref a_lef, .ref a_bst, .ref a_try, .int 0, .ref a_mom, .ref a_byt, .int 0, .int 0, .int 0, .int 0, .int 0, .ref a_nxt, .ref a_val])), (a_now, .inl (cI, 221, .inl nw0)), (a_sli, .inl (cI, 8, .inl (upd (fun _ => 0) (4 : Int32).toNatClampNeg 0)))] := hD
  rw [upd_c] at hP hD
  have hP : va_P D vwCl [(mo, .inr (7, [.ref a_now, .ref a_kep, .ref a_isk, .ref a_ref, .long 0, .long 1, .int 0, .int 0, .int 0, .int 0, .ref a_cw, .ref a_row, .int 0, .ref a_lea, .ref a_sli, .ref a_lef, .ref a_bst, .ref a_try, .int 0, .ref a_mom, .ref a_byt, .int 0, .int 0, .int 0, .int 0, .int 0, .ref a_nxt, .ref a_val])), (a_now, .inl (cI, 221, .inl nw0)), (a_sli, .inl (cI, 8, .inl (fun _ => 0)))] H := hP
  have hD : va_D (va_A (w_m_laySlips cI cZ cP mo a_now a_kep a_isk a_ref a_cw a_row a_lea a_sli a_lef a_bst a_try a_mom a_byt a_nxt a_val) sz) [(mo, .inr (7, [.ref a_now, .ref a_kep, .ref a_isk, .ref a_ref, .long 0, .long 1, .int 0, .int 0, .int 0, .int 0, .ref a_cw, .ref a_row, .int 0, .ref a_lea, .ref a_sli, .ref a_lef, .ref a_bst, .ref a_try, .int 0, .ref a_mom, .ref a_byt, .int 0, .int 0, .int 0, .int 0, .int 0, .ref a_nxt, .ref a_val])), (a_now, .inl (cI, 221, .inl nw0)), (a_sli, .inl (cI, 8, .inl (fun _ => 0)))] := hD
  refine lv_iinc (v := 5) (lv' := [(1, .int 5), (0, .ref mo)]) hx hb dX7_laySlips_15 hl (k := 0) rfl (by decide) (by decide) rfl (fun ls hl => ?_)
  refine lv_goto (tgt := 2) hx hb dX7_laySlips_18 (by decide) ?_
  refine lv_iload_n hx hb dX7_laySlips_2 rfl (lv_at hl 0 rfl) ?_
  refine lv_bipush (v := 8) hx hb dX7_laySlips_3 (by decide) ?_
  refine lv_icmp_ge (tgt := 21) hx hb dX7_laySlips_5 (by decide) (fun c_6 => absurd c_6 (by decide)) (fun _ => ?_)
  refine lv_aload_n hx hb dX7_laySlips_8 rfl (lv_at hl 1 rfl) ?_
  refine va_get (D := D) (ci := 7) (v := .ref a_sli) (C := RX7) (T := TX7) (N := 28) hx hb ht inX7 hown hK hP 0 rfl rfl 14 (Nat.le_of_ble_eq_true rfl) (ht _ kw_918) (fun _ h9 => h9) rfl dX7_laySlips_9 ?_
  refine lv_iload_n hx hb dX7_laySlips_12 rfl (lv_at hl 0 rfl) ?_
  refine lv_iconst (v := 0) hx hb dX7_laySlips_13 (by decide) ?_
  refine va_iast hx hb hK hP hD hS 2 0 rfl rfl (vin (by decide)) dX7_laySlips_14 (fun H locs hP hD hS => ?_)
  have hP : va_P D vwCl [(mo, .inr (7, [.ref a_now, .ref a_kep, .ref a_isk, .ref a_ref, .long 0, .long 1, .int 0, .int 0, .int 0, .int 0, .ref a_cw, .ref a_row, .int 0, .ref a_lea, .ref a_sli, .ref a_lef, .ref a_bst, .ref a_try, .int 0, .ref a_mom, .ref a_byt, .int 0, .int 0, .int 0, .int 0, .int 0, .ref a_nxt, .ref a_val])), (a_now, .inl (cI, 221, .inl nw0)), (a_sli, .inl (cI, 8, .inl (upd (fun _ => 0) (5 : Int32).toNatClampNeg 0)))] H := hP
  have hD : va_D (va_A (w_m_laySlips cI cZ cP mo a_now a_kep a_isk a_ref a_cw a_row a_lea a_sli a_lef a_bst a_try a_mom a_byt a_nxt a_val) sz) [(mo, .inr (7, [.ref a_now, .ref a_kep, .ref a_isk, .ref a_ref, .long 0, .long 1, .int 0, .int 0, .int 0, .int 0, .ref a_cw, .ref a_row, .int 0, .ref a_lea, .ref a_sli, .ref a_lef, .ref a_bst, .ref a_try, .int 0, .ref a_mom, .ref a_byt, .int 0, .int 0, .int 0, .int 0, .int 0, .ref a_nxt, .ref a_val])), (a_now, .inl (cI, 221, .inl nw0)), (a_sli, .inl (cI, 8, .inl (upd (fun _ => 0) (5 : Int32).toNatClampNeg 0)))] := hD
  rw [upd_c] at hP hD
  have hP : va_P D vwCl [(mo, .inr (7, [.ref a_now, .ref a_kep, .ref a_isk, .ref a_ref, .long 0, .long 1, .int 0, .int 0, .int 0, .int 0, .ref a_cw, .ref a_row, .int 0, .ref a_lea, .ref a_sli, .ref a_lef, .ref a_bst, .ref a_try, .int 0, .ref a_mom, .ref a_byt, .int 0, .int 0, .int 0, .int 0, .int 0, .ref a_nxt, .ref a_val])), (a_now, .inl (cI, 221, .inl nw0)), (a_sli, .inl (cI, 8, .inl (fun _ => 0)))] H := hP
  have hD : va_D (va_A (w_m_laySlips cI cZ cP mo a_now a_kep a_isk a_ref a_cw a_row a_lea a_sli a_lef a_bst a_try a_mom a_byt a_nxt a_val) sz) [(mo, .inr (7, [.ref a_now, .ref a_kep, .ref a_isk, .ref a_ref, .long 0, .long 1, .int 0, .int 0, .int 0, .int 0, .ref a_cw, .ref a_row, .int 0, .ref a_lea, .ref a_sli, .ref a_lef, .ref a_bst, .ref a_try, .int 0, .ref a_mom, .ref a_byt, .int 0, .int 0, .int 0, .int 0, .int 0, .ref a_nxt, .ref a_val])), (a_now, .inl (cI, 221, .inl nw0)), (a_sli, .inl (cI, 8, .inl (fun _ => 0)))] := hD
  refine lv_iinc (v := 6) (lv' := [(1, .int 6), (0, .ref mo)]) hx hb dX7_laySlips_15 hl (k := 0) rfl (by decide) (by decide) rfl (fun ls hl => ?_)
  refine lv_goto (tgt := 2) hx hb dX7_laySlips_18 (by decide) ?_
  refine lv_iload_n hx hb dX7_laySlips_2 rfl (lv_at hl 0 rfl) ?_
  refine lv_bipush (v := 8) hx hb dX7_laySlips_3 (by decide) ?_
  refine lv_icmp_ge (tgt := 21) hx hb dX7_laySlips_5 (by decide) (fun c_7 => absurd c_7 (by decide)) (fun _ => ?_)
  refine lv_aload_n hx hb dX7_laySlips_8 rfl (lv_at hl 1 rfl) ?_
  refine va_get (D := D) (ci := 7) (v := .ref a_sli) (C := RX7) (T := TX7) (N := 28) hx hb ht inX7 hown hK hP 0 rfl rfl 14 (Nat.le_of_ble_eq_true rfl) (ht _ kw_918) (fun _ h9 => h9) rfl dX7_laySlips_9 ?_
  refine lv_iload_n hx hb dX7_laySlips_12 rfl (lv_at hl 0 rfl) ?_
  refine lv_iconst (v := 0) hx hb dX7_laySlips_13 (by decide) ?_
  refine va_iast hx hb hK hP hD hS 2 0 rfl rfl (vin (by decide)) dX7_laySlips_14 (fun H locs hP hD hS => ?_)
  have hP : va_P D vwCl [(mo, .inr (7, [.ref a_now, .ref a_kep, .ref a_isk, .ref a_ref, .long 0, .long 1, .int 0, .int 0, .int 0, .int 0, .ref a_cw, .ref a_row, .int 0, .ref a_lea, .ref a_sli, .ref a_lef, .ref a_bst, .ref a_try, .int 0, .ref a_mom, .ref a_byt, .int 0, .int 0, .int 0, .int 0, .int 0, .ref a_nxt, .ref a_val])), (a_now, .inl (cI, 221, .inl nw0)), (a_sli, .inl (cI, 8, .inl (upd (fun _ => 0) (6 : Int32).toNatClampNeg 0)))] H := hP
  have hD : va_D (va_A (w_m_laySlips cI cZ cP mo a_now a_kep a_isk a_ref a_cw a_row a_lea a_sli a_lef a_bst a_try a_mom a_byt a_nxt a_val) sz) [(mo, .inr (7, [.ref a_now, .ref a_kep, .ref a_isk, .ref a_ref, .long 0, .long 1, .int 0, .int 0, .int 0, .int 0, .ref a_cw, .ref a_row, .int 0, .ref a_lea, .ref a_sli, .ref a_lef, .ref a_bst, .ref a_try, .int 0, .ref a_mom, .ref a_byt, .int 0, .int 0, .int 0, .int 0, .int 0, .ref a_nxt, .ref a_val])), (a_now, .inl (cI, 221, .inl nw0)), (a_sli, .inl (cI, 8, .inl (upd (fun _ => 0) (6 : Int32).toNatClampNeg 0)))] := hD
  rw [upd_c] at hP hD
  have hP : va_P D vwCl [(mo, .inr (7, [.ref a_now, .ref a_kep, .ref a_isk, .ref a_ref, .long 0, .long 1, .int 0, .int 0, .int 0, .int 0, .ref a_cw, .ref a_row, .int 0, .ref a_lea, .ref a_sli, .ref a_lef, .ref a_bst, .ref a_try, .int 0, .ref a_mom, .ref a_byt, .int 0, .int 0, .int 0, .int 0, .int 0, .ref a_nxt, .ref a_val])), (a_now, .inl (cI, 221, .inl nw0)), (a_sli, .inl (cI, 8, .inl (fun _ => 0)))] H := hP
  have hD : va_D (va_A (w_m_laySlips cI cZ cP mo a_now a_kep a_isk a_ref a_cw a_row a_lea a_sli a_lef a_bst a_try a_mom a_byt a_nxt a_val) sz) [(mo, .inr (7, [.ref a_now, .ref a_kep, .ref a_isk, .ref a_ref, .long 0, .long 1, .int 0, .int 0, .int 0, .int 0, .ref a_cw, .ref a_row, .int 0, .ref a_lea, .ref a_sli, .ref a_lef, .ref a_bst, .ref a_try, .int 0, .ref a_mom, .ref a_byt, .int 0, .int 0, .int 0, .int 0, .int 0, .ref a_nxt, .ref a_val])), (a_now, .inl (cI, 221, .inl nw0)), (a_sli, .inl (cI, 8, .inl (fun _ => 0)))] := hD
  refine lv_iinc (v := 7) (lv' := [(1, .int 7), (0, .ref mo)]) hx hb dX7_laySlips_15 hl (k := 0) rfl (by decide) (by decide) rfl (fun ls hl => ?_)
  refine lv_goto (tgt := 2) hx hb dX7_laySlips_18 (by decide) ?_
  refine lv_iload_n hx hb dX7_laySlips_2 rfl (lv_at hl 0 rfl) ?_
  refine lv_bipush (v := 8) hx hb dX7_laySlips_3 (by decide) ?_
  refine lv_icmp_ge (tgt := 21) hx hb dX7_laySlips_5 (by decide) (fun c_8 => absurd c_8 (by decide)) (fun _ => ?_)
  refine lv_aload_n hx hb dX7_laySlips_8 rfl (lv_at hl 1 rfl) ?_
  refine va_get (D := D) (ci := 7) (v := .ref a_sli) (C := RX7) (T := TX7) (N := 28) hx hb ht inX7 hown hK hP 0 rfl rfl 14 (Nat.le_of_ble_eq_true rfl) (ht _ kw_918) (fun _ h9 => h9) rfl dX7_laySlips_9 ?_
  refine lv_iload_n hx hb dX7_laySlips_12 rfl (lv_at hl 0 rfl) ?_
  refine lv_iconst (v := 0) hx hb dX7_laySlips_13 (by decide) ?_
  refine va_iast hx hb hK hP hD hS 2 0 rfl rfl (vin (by decide)) dX7_laySlips_14 (fun H locs hP hD hS => ?_)
  have hP : va_P D vwCl [(mo, .inr (7, [.ref a_now, .ref a_kep, .ref a_isk, .ref a_ref, .long 0, .long 1, .int 0, .int 0, .int 0, .int 0, .ref a_cw, .ref a_row, .int 0, .ref a_lea, .ref a_sli, .ref a_lef, .ref a_bst, .ref a_try, .int 0, .ref a_mom, .ref a_byt, .int 0, .int 0, .int 0, .int 0, .int 0, .ref a_nxt, .ref a_val])), (a_now, .inl (cI, 221, .inl nw0)), (a_sli, .inl (cI, 8, .inl (upd (fun _ => 0) (7 : Int32).toNatClampNeg 0)))] H := hP
  have hD : va_D (va_A (w_m_laySlips cI cZ cP mo a_now a_kep a_isk a_ref a_cw a_row a_lea a_sli a_lef a_bst a_try a_mom a_byt a_nxt a_val) sz) [(mo, .inr (7, [.ref a_now, .ref a_kep, .ref a_isk, .ref a_ref, .long 0, .long 1, .int 0, .int 0, .int 0, .int 0, .ref a_cw, .ref a_row, .int 0, .ref a_lea, .ref a_sli, .ref a_lef, .ref a_bst, .ref a_try, .int 0, .ref a_mom, .ref a_byt, .int 0, .int 0, .int 0, .int 0, .int 0, .ref a_nxt, .ref a_val])), (a_now, .inl (cI, 221, .inl nw0)), (a_sli, .inl (cI, 8, .inl (upd (fun _ => 0) (7 : Int32).toNatClampNeg 0)))] := hD
  rw [upd_c] at hP hD
  have hP : va_P D vwCl [(mo, .inr (7, [.ref a_now, .ref a_kep, .ref a_isk, .ref a_ref, .long 0, .long 1, .int 0, .int 0, .int 0, .int 0, .ref a_cw, .ref a_row, .int 0, .ref a_lea, .ref a_sli, .ref a_lef, .ref a_bst, .ref a_try, .int 0, .ref a_mom, .ref a_byt, .int 0, .int 0, .int 0, .int 0, .int 0, .ref a_nxt, .ref a_val])), (a_now, .inl (cI, 221, .inl nw0)), (a_sli, .inl (cI, 8, .inl (fun _ => 0)))] H := hP
  have hD : va_D (va_A (w_m_laySlips cI cZ cP mo a_now a_kep a_isk a_ref a_cw a_row a_lea a_sli a_lef a_bst a_try a_mom a_byt a_nxt a_val) sz) [(mo, .inr (7, [.ref a_now, .ref a_kep, .ref a_isk, .ref a_ref, .long 0, .long 1, .int 0, .int 0, .int 0, .int 0, .ref a_cw, .ref a_row, .int 0, .ref a_lea, .ref a_sli, .ref a_lef, .ref a_bst, .ref a_try, .int 0, .ref a_mom, .ref a_byt, .int 0, .int 0, .int 0, .int 0, .int 0, .ref a_nxt, .ref a_val])), (a_now, .inl (cI, 221, .inl nw0)), (a_sli, .inl (cI, 8, .inl (fun _ => 0)))] := hD
  refine lv_iinc (v := 8) (lv' := [(1, .int 8), (0, .ref mo)]) hx hb dX7_laySlips_15 hl (k := 0) rfl (by decide) (by decide) rfl (fun ls hl => ?_)
  refine lv_goto (tgt := 2) hx hb dX7_laySlips_18 (by decide) ?_
  refine lv_iload_n hx hb dX7_laySlips_2 rfl (lv_at hl 0 rfl) ?_
  refine lv_bipush (v := 8) hx hb dX7_laySlips_3 (by decide) ?_
  refine lv_icmp_ge (tgt := 21) hx hb dX7_laySlips_5 (by decide) (fun _ => ?_) (fun c_9 => absurd (by decide) c_9)
  refine lv_iconst (v := 0) hx hb dX7_laySlips_21 (by decide) ?_
  refine lv_istore_n (lv' := [(1, .int 0), (0, .ref mo)]) hx hb dX7_laySlips_22 rfl hl (by decide) rfl (fun ls hl => ?_)
  refine lv_iload_n hx hb dX7_laySlips_23 rfl (lv_at hl 0 rfl) ?_
  refine lv_aload_n hx hb dX7_laySlips_24 rfl (lv_at hl 1 rfl) ?_
  refine q_Vi (wr := [(a_sli, .inl (cI, 8, .inl (fun _ => 0)))]) [0, 1] [2] hX hE hK hP hD hS hA hl.1 lk_X7_64 (c_m_notes l D cI cZ cP sa mo a_now a_kep a_isk a_ref a_cw a_row a_lea a_sli a_lef a_bst a_try a_mom a_byt a_nxt a_val 0 1 0 0 0 0 0 0 0 0 0 0 0 _) rfl rfl rfl rfl (by decide) 0 7 rfl rfl rfl rfl (Nat.le_of_ble_eq_true rfl) rfl rfl ⟨Nat.le_of_ble_eq_true rfl, Nat.le_of_ble_eq_true rfl⟩ ⟨Nat.le_of_ble_eq_true rfl, Nat.le_of_ble_eq_true rfl⟩ dX7_laySlips_25 (fun x_10 _ H locs h_10 hP hD hS => ?_)
  have hP : va_P D vwCl [(a_sli, .inl (cI, 8, .inl (fun _ => 0))), (mo, .inr (7, [.ref a_now, .ref a_kep, .ref a_isk, .ref a_ref, .long 0, .long 1, .int 0, .int 0, .int 0, .int 0, .ref a_cw, .ref a_row, .int 0, .ref a_lea, .ref a_sli, .ref a_lef, .ref a_bst, .ref a_try, .int 0, .ref a_mom, .ref a_byt, .int 0, .int 0, .int 0, .int 0, .int 0, .ref a_nxt, .ref a_val])), (a_now, .inl (cI, 221, .inl nw0))] H := hP
  have hD : va_D (va_A (w_m_laySlips cI cZ cP mo a_now a_kep a_isk a_ref a_cw a_row a_lea a_sli a_lef a_bst a_try a_mom a_byt a_nxt a_val) sz) [(a_sli, .inl (cI, 8, .inl (fun _ => 0))), (mo, .inr (7, [.ref a_now, .ref a_kep, .ref a_isk, .ref a_ref, .long 0, .long 1, .int 0, .int 0, .int 0, .int 0, .ref a_cw, .ref a_row, .int 0, .ref a_lea, .ref a_sli, .ref a_lef, .ref a_bst, .ref a_try, .int 0, .ref a_mom, .ref a_byt, .int 0, .int 0, .int 0, .int 0, .int 0, .ref a_nxt, .ref a_val])), (a_now, .inl (cI, 221, .inl nw0))] := hD
  subst h_10
  refine lv_icmp_ge (tgt := 138) hx hb dX7_laySlips_28 (by decide) (fun _ => ?_) (fun c_11 => absurd (by decide) c_11)
  exact q_vret hX hr hlk () trivial (hP.sub [1, 2, 0] rfl) (hD.sub [1, 2, 0] (by decide) rfl) hS dX7_laySlips_138
abbrev w_m_slipsBy (cI cZ cP : ClassId) (mo : Nat) (a_now : Nat) (a_kep : Nat) (a_isk : Nat) (a_ref : Nat) (a_cw : Nat) (a_row : Nat) (a_lea : Nat) (a_sli : Nat) (a_lef : Nat) (a_bst : Nat) (a_try : Nat) (a_mom : Nat) (a_byt : Nat) (a_nxt : Nat) (a_val : Nat) (ab : Int64) (be : Int64) (fw : Int32) (mg : Int32) (f1 : Int32) (f2 : Int32) (rl : Int32) (lsl : Int32) (bl : Int32) (ta : Int32) (tl : Int32) (tk : Int32) (va : Int32) (g : Nat → Int32) (w : Nat → Nat) (t : Nat) : va_W := [(mo, .inr (7, [.ref a_now, .ref a_kep, .ref a_isk, .ref a_ref, .long ab, .long be, .int fw, .int mg, .int f1, .int f2, .ref a_cw, .ref a_row, .int rl, .ref a_lea, .ref a_sli, .ref a_lef, .ref a_bst, .ref a_try, .int lsl, .ref a_mom, .ref a_byt, .int bl, .int ta, .int tl, .int tk, .int va, .ref a_nxt, .ref a_val])), (a_sli, .inl (cI, 8, .inl (fun _ => 0))), (a_lef, .inl (cI, 8, .inl (fun _ => 0))), (a_try, .inl (cI, 6, .inl g))]
set_option maxHeartbeats 4000000 in
set_option maxRecDepth 100000 in
theorem c_m_slipsBy (l : Launch) (D : va_G) (cI cZ cP : ClassId) (sa : Nat → Nat) (mo : Nat) (a_now : Nat) (a_kep : Nat) (a_isk : Nat) (a_ref : Nat) (a_cw : Nat) (a_row : Nat) (a_lea : Nat) (a_sli : Nat) (a_lef : Nat) (a_bst : Nat) (a_try : Nat) (a_mom : Nat) (a_byt : Nat) (a_nxt : Nat) (a_val : Nat) (ab : Int64) (be : Int64) (fw : Int32) (mg : Int32) (f1 : Int32) (f2 : Int32) (rl : Int32) (lsl : Int32) (bl : Int32) (ta : Int32) (tl : Int32) (tk : Int32) (va : Int32) (g : Nat → Int32) (w : Nat → Nat) (t : Nat) (hti : t ≤ 6) (hrow : isRow t g w) (sz : Nat) : Met l yX7_slipsBy (qW yX7_slipsBy cX7_slipsBy 4 (some .int)) ({ frames := 0, cells := 0, slots := 0, locals := 0 } : Room) (qP D (TY cI cZ cP) sa [.ref mo, .int (nI t)] (w_m_slipsBy cI cZ cP mo a_now a_kep a_isk a_ref a_cw a_row a_lea a_sli a_lef a_bst a_try a_mom a_byt a_nxt a_val ab be fw mg f1 f2 rl lsl bl ta tl tk va g w t) sz) (qQi D (w_m_slipsBy cI cZ cP mo a_now a_kep a_isk a_ref a_cw a_row a_lea a_sli a_lef a_bst a_try a_mom a_byt a_nxt a_val ab be fw mg f1 f2 rl lsl bl ta tl tk va g w t) sz (fun (r : Int32) (_ : Unit) => r = 0) (fun _ => [(mo, .inr (7, [.ref a_now, .ref a_kep, .ref a_isk, .ref a_ref, .long ab, .long be, .int fw, .int mg, .int f1, .int f2, .ref a_cw, .ref a_row, .int rl, .ref a_lea, .ref a_sli, .ref a_lef, .ref a_bst, .ref a_try, .int lsl, .ref a_mom, .ref a_byt, .int bl, .int ta, .int tl, .int tk, .int va, .ref a_nxt, .ref a_val])), (a_sli, .inl (cI, 8, .inl (fun _ => 0))), (a_lef, .inl (cI, 8, .inl (fun _ => 0))), (a_try, .inl (cI, 6, .inl g))])) 0 0 (va_A (w_m_slipsBy cI cZ cP mo a_now a_kep a_isk a_ref a_cw a_row a_lea a_sli a_lef a_bst a_try a_mom a_byt a_nxt a_val ab be fw mg f1 f2 rl lsl bl ta tl tk va g w t) sz) := by
  refine q_enter (by decide) (Nat.le_of_ble_eq_true rfl) ?_
  intro p e s m below meth c ls hX hr hlk hnm hE hK hP hD hS hA hl
  obtain ⟨hx, hb, hml, hown, ht⟩ := id hX
  have hl : lv_has ls 4 [(0, .ref mo), (1, .int (nI t))] := hl
  refine lv_iconst (v := 0) hx hb dX7_slipsBy_0 (by decide) ?_
  refine lv_istore_n (lv' := [(2, .int 0), (0, .ref mo), (1, .int (nI t))]) hx hb dX7_slipsBy_1 rfl hl (by decide) rfl (fun ls hl => ?_)
  refine lv_iload_n hx hb dX7_slipsBy_2 rfl (lv_at hl 0 rfl) ?_
  refine lv_bipush (v := 8) hx hb dX7_slipsBy_3 (by decide) ?_
  refine lv_icmp_ge (tgt := 26) hx hb dX7_slipsBy_5 (by decide) (fun c_1 => absurd c_1 (by decide)) (fun _ => ?_)
  refine lv_aload_n hx hb dX7_slipsBy_8 rfl (lv_at hl 1 rfl) ?_
  refine va_get (D := D) (ci := 7) (v := .ref a_lef) (C := RX7) (T := TX7) (N := 28) hx hb ht inX7 hown hK hP 0 rfl rfl 15 (Nat.le_of_ble_eq_true rfl) (ht _ kw_919) (fun _ h9 => h9) rfl dX7_slipsBy_9 ?_
  refine lv_iload_n hx hb dX7_slipsBy_12 rfl (lv_at hl 0 rfl) ?_
  refine lv_aload_n hx hb dX7_slipsBy_13 rfl (lv_at hl 1 rfl) ?_
  refine va_get (D := D) (ci := 7) (v := .ref a_sli) (C := RX7) (T := TX7) (N := 28) hx hb ht inX7 hown hK hP 0 rfl rfl 14 (Nat.le_of_ble_eq_true rfl) (ht _ kw_918) (fun _ h9 => h9) rfl dX7_slipsBy_14 ?_
  refine lv_iload_n hx hb dX7_slipsBy_17 rfl (lv_at hl 0 rfl) ?_
  refine va_iald hx hb hK hP 1 0 rfl rfl (vin (by decide)) dX7_slipsBy_18 ?_
  refine q_i (z := 0) rfl ?_
  refine va_iast hx hb hK hP hD hS 2 0 rfl rfl (vin (by decide)) dX7_slipsBy_19 (fun H locs hP hD hS => ?_)
  have hP : va_P D vwCl [(mo, .inr (7, [.ref a_now, .ref a_kep, .ref a_isk, .ref a_ref, .long ab, .long be, .int fw, .int mg, .int f1, .int f2, .ref a_cw, .ref a_row, .int rl, .ref a_lea, .ref a_sli, .ref a_lef, .ref a_bst, .ref a_try, .int lsl, .ref a_mom, .ref a_byt, .int bl, .int ta, .int tl, .int tk, .int va, .ref a_nxt, .ref a_val])), (a_sli, .inl (cI, 8, .inl (fun _ => 0))), (a_lef, .inl (cI, 8, .inl (upd (fun _ => 0) (0 : Int32).toNatClampNeg 0))), (a_try, .inl (cI, 6, .inl g))] H := hP
  have hD : va_D (va_A (w_m_slipsBy cI cZ cP mo a_now a_kep a_isk a_ref a_cw a_row a_lea a_sli a_lef a_bst a_try a_mom a_byt a_nxt a_val ab be fw mg f1 f2 rl lsl bl ta tl tk va g w t) sz) [(mo, .inr (7, [.ref a_now, .ref a_kep, .ref a_isk, .ref a_ref, .long ab, .long be, .int fw, .int mg, .int f1, .int f2, .ref a_cw, .ref a_row, .int rl, .ref a_lea, .ref a_sli, .ref a_lef, .ref a_bst, .ref a_try, .int lsl, .ref a_mom, .ref a_byt, .int bl, .int ta, .int tl, .int tk, .int va, .ref a_nxt, .ref a_val])), (a_sli, .inl (cI, 8, .inl (fun _ => 0))), (a_lef, .inl (cI, 8, .inl (upd (fun _ => 0) (0 : Int32).toNatClampNeg 0))), (a_try, .inl (cI, 6, .inl g))] := hD
  rw [upd_c] at hP hD
  have hP : va_P D vwCl [(mo, .inr (7, [.ref a_now, .ref a_kep, .ref a_isk, .ref a_ref, .long ab, .long be, .int fw, .int mg, .int f1, .int f2, .ref a_cw, .ref a_row, .int rl, .ref a_lea, .ref a_sli, .ref a_lef, .ref a_bst, .ref a_try, .int lsl, .ref a_mom, .ref a_byt, .int bl, .int ta, .int tl, .int tk, .int va, .ref a_nxt, .ref a_val])), (a_sli, .inl (cI, 8, .inl (fun _ => 0))), (a_lef, .inl (cI, 8, .inl (fun _ => 0))), (a_try, .inl (cI, 6, .inl g))] H := hP
  have hD : va_D (va_A (w_m_slipsBy cI cZ cP mo a_now a_kep a_isk a_ref a_cw a_row a_lea a_sli a_lef a_bst a_try a_mom a_byt a_nxt a_val ab be fw mg f1 f2 rl lsl bl ta tl tk va g w t) sz) [(mo, .inr (7, [.ref a_now, .ref a_kep, .ref a_isk, .ref a_ref, .long ab, .long be, .int fw, .int mg, .int f1, .int f2, .ref a_cw, .ref a_row, .int rl, .ref a_lea, .ref a_sli, .ref a_lef, .ref a_bst, .ref a_try, .int lsl, .ref a_mom, .ref a_byt, .int bl, .int ta, .int tl, .int tk, .int va, .ref a_nxt, .ref a_val])), (a_sli, .inl (cI, 8, .inl (fun _ => 0))), (a_lef, .inl (cI, 8, .inl (fun _ => 0))), (a_try, .inl (cI, 6, .inl g))] := hD
  refine lv_iinc (v := 1) (lv' := [(2, .int 1), (0, .ref mo), (1, .int (nI t))]) hx hb dX7_slipsBy_20 hl (k := 0) rfl (by decide) (by decide) rfl (fun ls hl => ?_)
  refine lv_goto (tgt := 2) hx hb dX7_slipsBy_23 (by decide) ?_
  refine lv_iload_n hx hb dX7_slipsBy_2 rfl (lv_at hl 0 rfl) ?_
  refine lv_bipush (v := 8) hx hb dX7_slipsBy_3 (by decide) ?_
  refine lv_icmp_ge (tgt := 26) hx hb dX7_slipsBy_5 (by decide) (fun c_2 => absurd c_2 (by decide)) (fun _ => ?_)
  refine lv_aload_n hx hb dX7_slipsBy_8 rfl (lv_at hl 1 rfl) ?_
  refine va_get (D := D) (ci := 7) (v := .ref a_lef) (C := RX7) (T := TX7) (N := 28) hx hb ht inX7 hown hK hP 0 rfl rfl 15 (Nat.le_of_ble_eq_true rfl) (ht _ kw_919) (fun _ h9 => h9) rfl dX7_slipsBy_9 ?_
  refine lv_iload_n hx hb dX7_slipsBy_12 rfl (lv_at hl 0 rfl) ?_
  refine lv_aload_n hx hb dX7_slipsBy_13 rfl (lv_at hl 1 rfl) ?_
  refine va_get (D := D) (ci := 7) (v := .ref a_sli) (C := RX7) (T := TX7) (N := 28) hx hb ht inX7 hown hK hP 0 rfl rfl 14 (Nat.le_of_ble_eq_true rfl) (ht _ kw_918) (fun _ h9 => h9) rfl dX7_slipsBy_14 ?_
  refine lv_iload_n hx hb dX7_slipsBy_17 rfl (lv_at hl 0 rfl) ?_
  refine va_iald hx hb hK hP 1 0 rfl rfl (vin (by decide)) dX7_slipsBy_18 ?_
  refine q_i (z := 0) rfl ?_
  refine va_iast hx hb hK hP hD hS 2 0 rfl rfl (vin (by decide)) dX7_slipsBy_19 (fun H locs hP hD hS => ?_)
  have hP : va_P D vwCl [(mo, .inr (7, [.ref a_now, .ref a_kep, .ref a_isk, .ref a_ref, .long ab, .long be, .int fw, .int mg, .int f1, .int f2, .ref a_cw, .ref a_row, .int rl, .ref a_lea, .ref a_sli, .ref a_lef, .ref a_bst, .ref a_try, .int lsl, .ref a_mom, .ref a_byt, .int bl, .int ta, .int tl, .int tk, .int va, .ref a_nxt, .ref a_val])), (a_sli, .inl (cI, 8, .inl (fun _ => 0))), (a_lef, .inl (cI, 8, .inl (upd (fun _ => 0) (1 : Int32).toNatClampNeg 0))), (a_try, .inl (cI, 6, .inl g))] H := hP
  have hD : va_D (va_A (w_m_slipsBy cI cZ cP mo a_now a_kep a_isk a_ref a_cw a_row a_lea a_sli a_lef a_bst a_try a_mom a_byt a_nxt a_val ab be fw mg f1 f2 rl lsl bl ta tl tk va g w t) sz) [(mo, .inr (7, [.ref a_now, .ref a_kep, .ref a_isk, .ref a_ref, .long ab, .long be, .int fw, .int mg, .int f1, .int f2, .ref a_cw, .ref a_row, .int rl, .ref a_lea, .ref a_sli, .ref a_lef, .ref a_bst, .ref a_try, .int lsl, .ref a_mom, .ref a_byt, .int bl, .int ta, .int tl, .int tk, .int va, .ref a_nxt, .ref a_val])), (a_sli, .inl (cI, 8, .inl (fun _ => 0))), (a_lef, .inl (cI, 8, .inl (upd (fun _ => 0) (1 : Int32).toNatClampNeg 0))), (a_try, .inl (cI, 6, .inl g))] := hD
  rw [upd_c] at hP hD
  have hP : va_P D vwCl [(mo, .inr (7, [.ref a_now, .ref a_kep, .ref a_isk, .ref a_ref, .long ab, .long be, .int fw, .int mg, .int f1, .int f2, .ref a_cw, .ref a_row, .int rl, .ref a_lea, .ref a_sli, .ref a_lef, .ref a_bst, .ref a_try, .int lsl, .ref a_mom, .ref a_byt, .int bl, .int ta, .int tl, .int tk, .int va, .ref a_nxt, .ref a_val])), (a_sli, .inl (cI, 8, .inl (fun _ => 0))), (a_lef, .inl (cI, 8, .inl (fun _ => 0))), (a_try, .inl (cI, 6, .inl g))] H := hP
  have hD : va_D (va_A (w_m_slipsBy cI cZ cP mo a_now a_kep a_isk a_ref a_cw a_row a_lea a_sli a_lef a_bst a_try a_mom a_byt a_nxt a_val ab be fw mg f1 f2 rl lsl bl ta tl tk va g w t) sz) [(mo, .inr (7, [.ref a_now, .ref a_kep, .ref a_isk, .ref a_ref, .long ab, .long be, .int fw, .int mg, .int f1, .int f2, .ref a_cw, .ref a_row, .int rl, .ref a_lea, .ref a_sli, .ref a_lef, .ref a_bst, .ref a_try, .int lsl, .ref a_mom, .ref a_byt, .int bl, .int ta, .int tl, .int tk, .int va, .ref a_nxt, .ref a_val])), (a_sli, .inl (cI, 8, .inl (fun _ => 0))), (a_lef, .inl (cI, 8, .inl (fun _ => 0))), (a_try, .inl (cI, 6, .inl g))] := hD
  refine lv_iinc (v := 2) (lv' := [(2, .int 2), (0, .ref mo), (1, .int (nI t))]) hx hb dX7_slipsBy_20 hl (k := 0) rfl (by decide) (by decide) rfl (fun ls hl => ?_)
  refine lv_goto (tgt := 2) hx hb dX7_slipsBy_23 (by decide) ?_
  refine lv_iload_n hx hb dX7_slipsBy_2 rfl (lv_at hl 0 rfl) ?_
  refine lv_bipush (v := 8) hx hb dX7_slipsBy_3 (by decide) ?_
  refine lv_icmp_ge (tgt := 26) hx hb dX7_slipsBy_5 (by decide) (fun c_3 => absurd c_3 (by decide)) (fun _ => ?_)
  refine lv_aload_n hx hb dX7_slipsBy_8 rfl (lv_at hl 1 rfl) ?_
  refine va_get (D := D) (ci := 7) (v := .ref a_lef) (C := RX7) (T := TX7) (N := 28) hx hb ht inX7 hown hK hP 0 rfl rfl 15 (Nat.le_of_ble_eq_true rfl) (ht _ kw_919) (fun _ h9 => h9) rfl dX7_slipsBy_9 ?_
  refine lv_iload_n hx hb dX7_slipsBy_12 rfl (lv_at hl 0 rfl) ?_
  refine lv_aload_n hx hb dX7_slipsBy_13 rfl (lv_at hl 1 rfl) ?_
  refine va_get (D := D) (ci := 7) (v := .ref a_sli) (C := RX7) (T := TX7) (N := 28) hx hb ht inX7 hown hK hP 0 rfl rfl 14 (Nat.le_of_ble_eq_true rfl) (ht _ kw_918) (fun _ h9 => h9) rfl dX7_slipsBy_14 ?_
  refine lv_iload_n hx hb dX7_slipsBy_17 rfl (lv_at hl 0 rfl) ?_
  refine va_iald hx hb hK hP 1 0 rfl rfl (vin (by decide)) dX7_slipsBy_18 ?_
  refine q_i (z := 0) rfl ?_
  refine va_iast hx hb hK hP hD hS 2 0 rfl rfl (vin (by decide)) dX7_slipsBy_19 (fun H locs hP hD hS => ?_)
  have hP : va_P D vwCl [(mo, .inr (7, [.ref a_now, .ref a_kep, .ref a_isk, .ref a_ref, .long ab, .long be, .int fw, .int mg, .int f1, .int f2, .ref a_cw, .ref a_row, .int rl, .ref a_lea, .ref a_sli, .ref a_lef, .ref a_bst, .ref a_try, .int lsl, .ref a_mom, .ref a_byt, .int bl, .int ta, .int tl, .int tk, .int va, .ref a_nxt, .ref a_val])), (a_sli, .inl (cI, 8, .inl (fun _ => 0))), (a_lef, .inl (cI, 8, .inl (upd (fun _ => 0) (2 : Int32).toNatClampNeg 0))), (a_try, .inl (cI, 6, .inl g))] H := hP
  have hD : va_D (va_A (w_m_slipsBy cI cZ cP mo a_now a_kep a_isk a_ref a_cw a_row a_lea a_sli a_lef a_bst a_try a_mom a_byt a_nxt a_val ab be fw mg f1 f2 rl lsl bl ta tl tk va g w t) sz) [(mo, .inr (7, [.ref a_now, .ref a_kep, .ref a_isk, .ref a_ref, .long ab, .long be, .int fw, .int mg, .int f1, .int f2, .ref a_cw, .ref a_row, .int rl, .ref a_lea, .ref a_sli, .ref a_lef, .ref a_bst, .ref a_try, .int lsl, .ref a_mom, .ref a_byt, .int bl, .int ta, .int tl, .int tk, .int va, .ref a_nxt, .ref a_val])), (a_sli, .inl (cI, 8, .inl (fun _ => 0))), (a_lef, .inl (cI, 8, .inl (upd (fun _ => 0) (2 : Int32).toNatClampNeg 0))), (a_try, .inl (cI, 6, .inl g))] := hD
  rw [upd_c] at hP hD
  have hP : va_P D vwCl [(mo, .inr (7, [.ref a_now, .ref a_kep, .ref a_isk, .ref a_ref, .long ab, .long be, .int fw, .int mg, .int f1, .int f2, .ref a_cw, .ref a_row, .int rl, .ref a_lea, .ref a_sli, .ref a_lef, .ref a_bst, .ref a_try, .int lsl, .ref a_mom, .ref a_byt, .int bl, .int ta, .int tl, .int tk, .int va, .ref a_nxt, .ref a_val])), (a_sli, .inl (cI, 8, .inl (fun _ => 0))), (a_lef, .inl (cI, 8, .inl (fun _ => 0))), (a_try, .inl (cI, 6, .inl g))] H := hP
  have hD : va_D (va_A (w_m_slipsBy cI cZ cP mo a_now a_kep a_isk a_ref a_cw a_row a_lea a_sli a_lef a_bst a_try a_mom a_byt a_nxt a_val ab be fw mg f1 f2 rl lsl bl ta tl tk va g w t) sz) [(mo, .inr (7, [.ref a_now, .ref a_kep, .ref a_isk, .ref a_ref, .long ab, .long be, .int fw, .int mg, .int f1, .int f2, .ref a_cw, .ref a_row, .int rl, .ref a_lea, .ref a_sli, .ref a_lef, .ref a_bst, .ref a_try, .int lsl, .ref a_mom, .ref a_byt, .int bl, .int ta, .int tl, .int tk, .int va, .ref a_nxt, .ref a_val])), (a_sli, .inl (cI, 8, .inl (fun _ => 0))), (a_lef, .inl (cI, 8, .inl (fun _ => 0))), (a_try, .inl (cI, 6, .inl g))] := hD
  refine lv_iinc (v := 3) (lv' := [(2, .int 3), (0, .ref mo), (1, .int (nI t))]) hx hb dX7_slipsBy_20 hl (k := 0) rfl (by decide) (by decide) rfl (fun ls hl => ?_)
  refine lv_goto (tgt := 2) hx hb dX7_slipsBy_23 (by decide) ?_
  refine lv_iload_n hx hb dX7_slipsBy_2 rfl (lv_at hl 0 rfl) ?_
  refine lv_bipush (v := 8) hx hb dX7_slipsBy_3 (by decide) ?_
  refine lv_icmp_ge (tgt := 26) hx hb dX7_slipsBy_5 (by decide) (fun c_4 => absurd c_4 (by decide)) (fun _ => ?_)
  refine lv_aload_n hx hb dX7_slipsBy_8 rfl (lv_at hl 1 rfl) ?_
  refine va_get (D := D) (ci := 7) (v := .ref a_lef) (C := RX7) (T := TX7) (N := 28) hx hb ht inX7 hown hK hP 0 rfl rfl 15 (Nat.le_of_ble_eq_true rfl) (ht _ kw_919) (fun _ h9 => h9) rfl dX7_slipsBy_9 ?_
  refine lv_iload_n hx hb dX7_slipsBy_12 rfl (lv_at hl 0 rfl) ?_
  refine lv_aload_n hx hb dX7_slipsBy_13 rfl (lv_at hl 1 rfl) ?_
  refine va_get (D := D) (ci := 7) (v := .ref a_sli) (C := RX7) (T := TX7) (N := 28) hx hb ht inX7 hown hK hP 0 rfl rfl 14 (Nat.le_of_ble_eq_true rfl) (ht _ kw_918) (fun _ h9 => h9) rfl dX7_slipsBy_14 ?_
  refine lv_iload_n hx hb dX7_slipsBy_17 rfl (lv_at hl 0 rfl) ?_
  refine va_iald hx hb hK hP 1 0 rfl rfl (vin (by decide)) dX7_slipsBy_18 ?_
  refine q_i (z := 0) rfl ?_
  refine va_iast hx hb hK hP hD hS 2 0 rfl rfl (vin (by decide)) dX7_slipsBy_19 (fun H locs hP hD hS => ?_)
  have hP : va_P D vwCl [(mo, .inr (7, [.ref a_now, .ref a_kep, .ref a_isk, .ref a_ref, .long ab, .long be, .int fw, .int mg, .int f1, .int f2, .ref a_cw, .ref a_row, .int rl, .ref a_lea, .ref a_sli, .ref a_lef, .ref a_bst, .ref a_try, .int lsl, .ref a_mom, .ref a_byt, .int bl, .int ta, .int tl, .int tk, .int va, .ref a_nxt, .ref a_val])), (a_sli, .inl (cI, 8, .inl (fun _ => 0))), (a_lef, .inl (cI, 8, .inl (upd (fun _ => 0) (3 : Int32).toNatClampNeg 0))), (a_try, .inl (cI, 6, .inl g))] H := hP
  have hD : va_D (va_A (w_m_slipsBy cI cZ cP mo a_now a_kep a_isk a_ref a_cw a_row a_lea a_sli a_lef a_bst a_try a_mom a_byt a_nxt a_val ab be fw mg f1 f2 rl lsl bl ta tl tk va g w t) sz) [(mo, .inr (7, [.ref a_now, .ref a_kep, .ref a_isk, .ref a_ref, .long ab, .long be, .int fw, .int mg, .int f1, .int f2, .ref a_cw, .ref a_row, .int rl, .ref a_lea, .ref a_sli, .ref a_lef, .ref a_bst, .ref a_try, .int lsl, .ref a_mom, .ref a_byt, .int bl, .int ta, .int tl, .int tk, .int va, .ref a_nxt, .ref a_val])), (a_sli, .inl (cI, 8, .inl (fun _ => 0))), (a_lef, .inl (cI, 8, .inl (upd (fun _ => 0) (3 : Int32).toNatClampNeg 0))), (a_try, .inl (cI, 6, .inl g))] := hD
  rw [upd_c] at hP hD
  have hP : va_P D vwCl [(mo, .inr (7, [.ref a_now, .ref a_kep, .ref a_isk, .ref a_ref, .long ab, .long be, .int fw, .int mg, .int f1, .int f2, .ref a_cw, .ref a_row, .int rl, .ref a_lea, .ref a_sli, .ref a_lef, .ref a_bst, .ref a_try, .int lsl, .ref a_mom, .ref a_byt, .int bl, .int ta, .int tl, .int tk, .int va, .ref a_nxt, .ref a_val])), (a_sli, .inl (cI, 8, .inl (fun _ => 0))), (a_lef, .inl (cI, 8, .inl (fun _ => 0))), (a_try, .inl (cI, 6, .inl g))] H := hP
  have hD : va_D (va_A (w_m_slipsBy cI cZ cP mo a_now a_kep a_isk a_ref a_cw a_row a_lea a_sli a_lef a_bst a_try a_mom a_byt a_nxt a_val ab be fw mg f1 f2 rl lsl bl ta tl tk va g w t) sz) [(mo, .inr (7, [.ref a_now, .ref a_kep, .ref a_isk, .ref a_ref, .long ab, .long be, .int fw, .int mg, .int f1, .int f2, .ref a_cw, .ref a_row, .int rl, .ref a_lea, .ref a_sli, .ref a_lef, .ref a_bst, .ref a_try, .int lsl, .ref a_mom, .ref a_byt, .int bl, .int ta, .int tl, .int tk, .int va, .ref a_nxt, .ref a_val])), (a_sli, .inl (cI, 8, .inl (fun _ => 0))), (a_lef, .inl (cI, 8, .inl (fun _ => 0))), (a_try, .inl (cI, 6, .inl g))] := hD
  refine lv_iinc (v := 4) (lv' := [(2, .int 4), (0, .ref mo), (1, .int (nI t))]) hx hb dX7_slipsBy_20 hl (k := 0) rfl (by decide) (by decide) rfl (fun ls hl => ?_)
  refine lv_goto (tgt := 2) hx hb dX7_slipsBy_23 (by decide) ?_
  refine lv_iload_n hx hb dX7_slipsBy_2 rfl (lv_at hl 0 rfl) ?_
  refine lv_bipush (v := 8) hx hb dX7_slipsBy_3 (by decide) ?_
  refine lv_icmp_ge (tgt := 26) hx hb dX7_slipsBy_5 (by decide) (fun c_5 => absurd c_5 (by decide)) (fun _ => ?_)
  refine lv_aload_n hx hb dX7_slipsBy_8 rfl (lv_at hl 1 rfl) ?_
  refine va_get (D := D) (ci := 7) (v := .ref a_lef) (C := RX7) (T := TX7) (N := 28) hx hb ht inX7 hown hK hP 0 rfl rfl 15 (Nat.le_of_ble_eq_true rfl) (ht _ kw_919) (fun _ h9 => h9) rfl dX7_slipsBy_9 ?_
  refine lv_iload_n hx hb dX7_slipsBy_12 rfl (lv_at hl 0 rfl) ?_
  refine lv_aload_n hx hb dX7_slipsBy_13 rfl (lv_at hl 1 rfl) ?_
  refine va_get (D := D) (ci := 7) (v := .ref a_sli) (C := RX7) (T := TX7) (N := 28) hx hb ht inX7 hown hK hP 0 rfl rfl 14 (Nat.le_of_ble_eq_true rfl) (ht _ kw_918) (fun _ h9 => h9) rfl dX7_slipsBy_14 ?_
  refine lv_iload_n hx hb dX7_slipsBy_17 rfl (lv_at hl 0 rfl) ?_
  refine va_iald hx hb hK hP 1 0 rfl rfl (vin (by decide)) dX7_slipsBy_18 ?_
  refine q_i (z := 0) rfl ?_
  refine va_iast hx hb hK hP hD hS 2 0 rfl rfl (vin (by decide)) dX7_slipsBy_19 (fun H locs hP hD hS => ?_)
  have hP : va_P D vwCl [(mo, .inr (7, [.ref a_now, .ref a_kep, .ref a_isk, .ref a_ref, .long ab, .long be, .int fw, .int mg, .int f1, .int f2, .ref a_cw, .ref a_row, .int rl, .ref a_lea, .ref a_sli, .ref a_lef, .ref a_bst, .ref a_try, .int lsl, .ref a_mom, .ref a_byt, .int bl, .int ta, .int tl, .int tk, .int va, .ref a_nxt, .ref a_val])), (a_sli, .inl (cI, 8, .inl (fun _ => 0))), (a_lef, .inl (cI, 8, .inl (upd (fun _ => 0) (4 : Int32).toNatClampNeg 0))), (a_try, .inl (cI, 6, .inl g))] H := hP
  have hD : va_D (va_A (w_m_slipsBy cI cZ cP mo a_now a_kep a_isk a_ref a_cw a_row a_lea a_sli a_lef a_bst a_try a_mom a_byt a_nxt a_val ab be fw mg f1 f2 rl lsl bl ta tl tk va g w t) sz) [(mo, .inr (7, [.ref a_now, .ref a_kep, .ref a_isk, .ref a_ref, .long ab, .long be, .int fw, .int mg, .int f1, .int f2, .ref a_cw, .ref a_row, .int rl, .ref a_lea, .ref a_sli, .ref a_lef, .ref a_bst, .ref a_try, .int lsl, .ref a_mom, .ref a_byt, .int bl, .int ta, .int tl, .int tk, .int va, .ref a_nxt, .ref a_val])), (a_sli, .inl (cI, 8, .inl (fun _ => 0))), (a_lef, .inl (cI, 8, .inl (upd (fun _ => 0) (4 : Int32).toNatClampNeg 0))), (a_try, .inl (cI, 6, .inl g))] := hD
  rw [upd_c] at hP hD
  have hP : va_P D vwCl [(mo, .inr (7, [.ref a_now, .ref a_kep, .ref a_isk, .ref a_ref, .long ab, .long be, .int fw, .int mg, .int f1, .int f2, .ref a_cw, .ref a_row, .int rl, .ref a_lea, .ref a_sli, .ref a_lef, .ref a_bst, .ref a_try, .int lsl, .ref a_mom, .ref a_byt, .int bl, .int ta, .int tl, .int tk, .int va, .ref a_nxt, .ref a_val])), (a_sli, .inl (cI, 8, .inl (fun _ => 0))), (a_lef, .inl (cI, 8, .inl (fun _ => 0))), (a_try, .inl (cI, 6, .inl g))] H := hP
  have hD : va_D (va_A (w_m_slipsBy cI cZ cP mo a_now a_kep a_isk a_ref a_cw a_row a_lea a_sli a_lef a_bst a_try a_mom a_byt a_nxt a_val ab be fw mg f1 f2 rl lsl bl ta tl tk va g w t) sz) [(mo, .inr (7, [.ref a_now, .ref a_kep, .ref a_isk, .ref a_ref, .long ab, .long be, .int fw, .int mg, .int f1, .int f2, .ref a_cw, .ref a_row, .int rl, .ref a_lea, .ref a_sli, .ref a_lef, .ref a_bst, .ref a_try, .int lsl, .ref a_mom, .ref a_byt, .int bl, .int ta, .int tl, .int tk, .int va, .ref a_nxt, .ref a_val])), (a_sli, .inl (cI, 8, .inl (fun _ => 0))), (a_lef, .inl (cI, 8, .inl (fun _ => 0))), (a_try, .inl (cI, 6, .inl g))] := hD
  refine lv_iinc (v := 5) (lv' := [(2, .int 5), (0, .ref mo), (1, .int (nI t))]) hx hb dX7_slipsBy_20 hl (k := 0) rfl (by decide) (by decide) rfl (fun ls hl => ?_)
  refine lv_goto (tgt := 2) hx hb dX7_slipsBy_23 (by decide) ?_
  refine lv_iload_n hx hb dX7_slipsBy_2 rfl (lv_at hl 0 rfl) ?_
  refine lv_bipush (v := 8) hx hb dX7_slipsBy_3 (by decide) ?_
  refine lv_icmp_ge (tgt := 26) hx hb dX7_slipsBy_5 (by decide) (fun c_6 => absurd c_6 (by decide)) (fun _ => ?_)
  refine lv_aload_n hx hb dX7_slipsBy_8 rfl (lv_at hl 1 rfl) ?_
  refine va_get (D := D) (ci := 7) (v := .ref a_lef) (C := RX7) (T := TX7) (N := 28) hx hb ht inX7 hown hK hP 0 rfl rfl 15 (Nat.le_of_ble_eq_true rfl) (ht _ kw_919) (fun _ h9 => h9) rfl dX7_slipsBy_9 ?_
  refine lv_iload_n hx hb dX7_slipsBy_12 rfl (lv_at hl 0 rfl) ?_
  refine lv_aload_n hx hb dX7_slipsBy_13 rfl (lv_at hl 1 rfl) ?_
  refine va_get (D := D) (ci := 7) (v := .ref a_sli) (C := RX7) (T := TX7) (N := 28) hx hb ht inX7 hown hK hP 0 rfl rfl 14 (Nat.le_of_ble_eq_true rfl) (ht _ kw_918) (fun _ h9 => h9) rfl dX7_slipsBy_14 ?_
  refine lv_iload_n hx hb dX7_slipsBy_17 rfl (lv_at hl 0 rfl) ?_
  refine va_iald hx hb hK hP 1 0 rfl rfl (vin (by decide)) dX7_slipsBy_18 ?_
  refine q_i (z := 0) rfl ?_
  refine va_iast hx hb hK hP hD hS 2 0 rfl rfl (vin (by decide)) dX7_slipsBy_19 (fun H locs hP hD hS => ?_)
  have hP : va_P D vwCl [(mo, .inr (7, [.ref a_now, .ref a_kep, .ref a_isk, .ref a_ref, .long ab, .long be, .int fw, .int mg, .int f1, .int f2, .ref a_cw, .ref a_row, .int rl, .ref a_lea, .ref a_sli, .ref a_lef, .ref a_bst, .ref a_try, .int lsl, .ref a_mom, .ref a_byt, .int bl, .int ta, .int tl, .int tk, .int va, .ref a_nxt, .ref a_val])), (a_sli, .inl (cI, 8, .inl (fun _ => 0))), (a_lef, .inl (cI, 8, .inl (upd (fun _ => 0) (5 : Int32).toNatClampNeg 0))), (a_try, .inl (cI, 6, .inl g))] H := hP
  have hD : va_D (va_A (w_m_slipsBy cI cZ cP mo a_now a_kep a_isk a_ref a_cw a_row a_lea a_sli a_lef a_bst a_try a_mom a_byt a_nxt a_val ab be fw mg f1 f2 rl lsl bl ta tl tk va g w t) sz) [(mo, .inr (7, [.ref a_now, .ref a_kep, .ref a_isk, .ref a_ref, .long ab, .long be, .int fw, .int mg, .int f1, .int f2, .ref a_cw, .ref a_row, .int rl, .ref a_lea, .ref a_sli, .ref a_lef, .ref a_bst, .ref a_try, .int lsl, .ref a_mom, .ref a_byt, .int bl, .int ta, .int tl, .int tk, .int va, .ref a_nxt, .ref a_val])), (a_sli, .inl (cI, 8, .inl (fun _ => 0))), (a_lef, .inl (cI, 8, .inl (upd (fun _ => 0) (5 : Int32).toNatClampNeg 0))), (a_try, .inl (cI, 6, .inl g))] := hD
  rw [upd_c] at hP hD
  have hP : va_P D vwCl [(mo, .inr (7, [.ref a_now, .ref a_kep, .ref a_isk, .ref a_ref, .long ab, .long be, .int fw, .int mg, .int f1, .int f2, .ref a_cw, .ref a_row, .int rl, .ref a_lea, .ref a_sli, .ref a_lef, .ref a_bst, .ref a_try, .int lsl, .ref a_mom, .ref a_byt, .int bl, .int ta, .int tl, .int tk, .int va, .ref a_nxt, .ref a_val])), (a_sli, .inl (cI, 8, .inl (fun _ => 0))), (a_lef, .inl (cI, 8, .inl (fun _ => 0))), (a_try, .inl (cI, 6, .inl g))] H := hP
  have hD : va_D (va_A (w_m_slipsBy cI cZ cP mo a_now a_kep a_isk a_ref a_cw a_row a_lea a_sli a_lef a_bst a_try a_mom a_byt a_nxt a_val ab be fw mg f1 f2 rl lsl bl ta tl tk va g w t) sz) [(mo, .inr (7, [.ref a_now, .ref a_kep, .ref a_isk, .ref a_ref, .long ab, .long be, .int fw, .int mg, .int f1, .int f2, .ref a_cw, .ref a_row, .int rl, .ref a_lea, .ref a_sli, .ref a_lef, .ref a_bst, .ref a_try, .int lsl, .ref a_mom, .ref a_byt, .int bl, .int ta, .int tl, .int tk, .int va, .ref a_nxt, .ref a_val])), (a_sli, .inl (cI, 8, .inl (fun _ => 0))), (a_lef, .inl (cI, 8, .inl (fun _ => 0))), (a_try, .inl (cI, 6, .inl g))] := hD
  refine lv_iinc (v := 6) (lv' := [(2, .int 6), (0, .ref mo), (1, .int (nI t))]) hx hb dX7_slipsBy_20 hl (k := 0) rfl (by decide) (by decide) rfl (fun ls hl => ?_)
  refine lv_goto (tgt := 2) hx hb dX7_slipsBy_23 (by decide) ?_
  refine lv_iload_n hx hb dX7_slipsBy_2 rfl (lv_at hl 0 rfl) ?_
  refine lv_bipush (v := 8) hx hb dX7_slipsBy_3 (by decide) ?_
  refine lv_icmp_ge (tgt := 26) hx hb dX7_slipsBy_5 (by decide) (fun c_7 => absurd c_7 (by decide)) (fun _ => ?_)
  refine lv_aload_n hx hb dX7_slipsBy_8 rfl (lv_at hl 1 rfl) ?_
  refine va_get (D := D) (ci := 7) (v := .ref a_lef) (C := RX7) (T := TX7) (N := 28) hx hb ht inX7 hown hK hP 0 rfl rfl 15 (Nat.le_of_ble_eq_true rfl) (ht _ kw_919) (fun _ h9 => h9) rfl dX7_slipsBy_9 ?_
  refine lv_iload_n hx hb dX7_slipsBy_12 rfl (lv_at hl 0 rfl) ?_
  refine lv_aload_n hx hb dX7_slipsBy_13 rfl (lv_at hl 1 rfl) ?_
  refine va_get (D := D) (ci := 7) (v := .ref a_sli) (C := RX7) (T := TX7) (N := 28) hx hb ht inX7 hown hK hP 0 rfl rfl 14 (Nat.le_of_ble_eq_true rfl) (ht _ kw_918) (fun _ h9 => h9) rfl dX7_slipsBy_14 ?_
  refine lv_iload_n hx hb dX7_slipsBy_17 rfl (lv_at hl 0 rfl) ?_
  refine va_iald hx hb hK hP 1 0 rfl rfl (vin (by decide)) dX7_slipsBy_18 ?_
  refine q_i (z := 0) rfl ?_
  refine va_iast hx hb hK hP hD hS 2 0 rfl rfl (vin (by decide)) dX7_slipsBy_19 (fun H locs hP hD hS => ?_)
  have hP : va_P D vwCl [(mo, .inr (7, [.ref a_now, .ref a_kep, .ref a_isk, .ref a_ref, .long ab, .long be, .int fw, .int mg, .int f1, .int f2, .ref a_cw, .ref a_row, .int rl, .ref a_lea, .ref a_sli, .ref a_lef, .ref a_bst, .ref a_try, .int lsl, .ref a_mom, .ref a_byt, .int bl, .int ta, .int tl, .int tk, .int va, .ref a_nxt, .ref a_val])), (a_sli, .inl (cI, 8, .inl (fun _ => 0))), (a_lef, .inl (cI, 8, .inl (upd (fun _ => 0) (6 : Int32).toNatClampNeg 0))), (a_try, .inl (cI, 6, .inl g))] H := hP
  have hD : va_D (va_A (w_m_slipsBy cI cZ cP mo a_now a_kep a_isk a_ref a_cw a_row a_lea a_sli a_lef a_bst a_try a_mom a_byt a_nxt a_val ab be fw mg f1 f2 rl lsl bl ta tl tk va g w t) sz) [(mo, .inr (7, [.ref a_now, .ref a_kep, .ref a_isk, .ref a_ref, .long ab, .long be, .int fw, .int mg, .int f1, .int f2, .ref a_cw, .ref a_row, .int rl, .ref a_lea, .ref a_sli, .ref a_lef, .ref a_bst, .ref a_try, .int lsl, .ref a_mom, .ref a_byt, .int bl, .int ta, .int tl, .int tk, .int va, .ref a_nxt, .ref a_val])), (a_sli, .inl (cI, 8, .inl (fun _ => 0))), (a_lef, .inl (cI, 8, .inl (upd (fun _ => 0) (6 : Int32).toNatClampNeg 0))), (a_try, .inl (cI, 6, .inl g))] := hD
  rw [upd_c] at hP hD
  have hP : va_P D vwCl [(mo, .inr (7, [.ref a_now, .ref a_kep, .ref a_isk, .ref a_ref, .long ab, .long be, .int fw, .int mg, .int f1, .int f2, .ref a_cw, .ref a_row, .int rl, .ref a_lea, .ref a_sli, .ref a_lef, .ref a_bst, .ref a_try, .int lsl, .ref a_mom, .ref a_byt, .int bl, .int ta, .int tl, .int tk, .int va, .ref a_nxt, .ref a_val])), (a_sli, .inl (cI, 8, .inl (fun _ => 0))), (a_lef, .inl (cI, 8, .inl (fun _ => 0))), (a_try, .inl (cI, 6, .inl g))] H := hP
  have hD : va_D (va_A (w_m_slipsBy cI cZ cP mo a_now a_kep a_isk a_ref a_cw a_row a_lea a_sli a_lef a_bst a_try a_mom a_byt a_nxt a_val ab be fw mg f1 f2 rl lsl bl ta tl tk va g w t) sz) [(mo, .inr (7, [.ref a_now, .ref a_kep, .ref a_isk, .ref a_ref, .long ab, .long be, .int fw, .int mg, .int f1, .int f2, .ref a_cw, .ref a_row, .int rl, .ref a_lea, .ref a_sli, .ref a_lef, .ref a_bst, .ref a_try, .int lsl, .ref a_mom, .ref a_byt, .int bl, .int ta, .int tl, .int tk, .int va, .ref a_nxt, .ref a_val])), (a_sli, .inl (cI, 8, .inl (fun _ => 0))), (a_lef, .inl (cI, 8, .inl (fun _ => 0))), (a_try, .inl (cI, 6, .inl g))] := hD
  refine lv_iinc (v := 7) (lv' := [(2, .int 7), (0, .ref mo), (1, .int (nI t))]) hx hb dX7_slipsBy_20 hl (k := 0) rfl (by decide) (by decide) rfl (fun ls hl => ?_)
  refine lv_goto (tgt := 2) hx hb dX7_slipsBy_23 (by decide) ?_
  refine lv_iload_n hx hb dX7_slipsBy_2 rfl (lv_at hl 0 rfl) ?_
  refine lv_bipush (v := 8) hx hb dX7_slipsBy_3 (by decide) ?_
  refine lv_icmp_ge (tgt := 26) hx hb dX7_slipsBy_5 (by decide) (fun c_8 => absurd c_8 (by decide)) (fun _ => ?_)
  refine lv_aload_n hx hb dX7_slipsBy_8 rfl (lv_at hl 1 rfl) ?_
  refine va_get (D := D) (ci := 7) (v := .ref a_lef) (C := RX7) (T := TX7) (N := 28) hx hb ht inX7 hown hK hP 0 rfl rfl 15 (Nat.le_of_ble_eq_true rfl) (ht _ kw_919) (fun _ h9 => h9) rfl dX7_slipsBy_9 ?_
  refine lv_iload_n hx hb dX7_slipsBy_12 rfl (lv_at hl 0 rfl) ?_
  refine lv_aload_n hx hb dX7_slipsBy_13 rfl (lv_at hl 1 rfl) ?_
  refine va_get (D := D) (ci := 7) (v := .ref a_sli) (C := RX7) (T := TX7) (N := 28) hx hb ht inX7 hown hK hP 0 rfl rfl 14 (Nat.le_of_ble_eq_true rfl) (ht _ kw_918) (fun _ h9 => h9) rfl dX7_slipsBy_14 ?_
  refine lv_iload_n hx hb dX7_slipsBy_17 rfl (lv_at hl 0 rfl) ?_
  refine va_iald hx hb hK hP 1 0 rfl rfl (vin (by decide)) dX7_slipsBy_18 ?_
  refine q_i (z := 0) rfl ?_
  refine va_iast hx hb hK hP hD hS 2 0 rfl rfl (vin (by decide)) dX7_slipsBy_19 (fun H locs hP hD hS => ?_)
  have hP : va_P D vwCl [(mo, .inr (7, [.ref a_now, .ref a_kep, .ref a_isk, .ref a_ref, .long ab, .long be, .int fw, .int mg, .int f1, .int f2, .ref a_cw, .ref a_row, .int rl, .ref a_lea, .ref a_sli, .ref a_lef, .ref a_bst, .ref a_try, .int lsl, .ref a_mom, .ref a_byt, .int bl, .int ta, .int tl, .int tk, .int va, .ref a_nxt, .ref a_val])), (a_sli, .inl (cI, 8, .inl (fun _ => 0))), (a_lef, .inl (cI, 8, .inl (upd (fun _ => 0) (7 : Int32).toNatClampNeg 0))), (a_try, .inl (cI, 6, .inl g))] H := hP
  have hD : va_D (va_A (w_m_slipsBy cI cZ cP mo a_now a_kep a_isk a_ref a_cw a_row a_lea a_sli a_lef a_bst a_try a_mom a_byt a_nxt a_val ab be fw mg f1 f2 rl lsl bl ta tl tk va g w t) sz) [(mo, .inr (7, [.ref a_now, .ref a_kep, .ref a_isk, .ref a_ref, .long ab, .long be, .int fw, .int mg, .int f1, .int f2, .ref a_cw, .ref a_row, .int rl, .ref a_lea, .ref a_sli, .ref a_lef, .ref a_bst, .ref a_try, .int lsl, .ref a_mom, .ref a_byt, .int bl, .int ta, .int tl, .int tk, .int va, .ref a_nxt, .ref a_val])), (a_sli, .inl (cI, 8, .inl (fun _ => 0))), (a_lef, .inl (cI, 8, .inl (upd (fun _ => 0) (7 : Int32).toNatClampNeg 0))), (a_try, .inl (cI, 6, .inl g))] := hD
  rw [upd_c] at hP hD
  have hP : va_P D vwCl [(mo, .inr (7, [.ref a_now, .ref a_kep, .ref a_isk, .ref a_ref, .long ab, .long be, .int fw, .int mg, .int f1, .int f2, .ref a_cw, .ref a_row, .int rl, .ref a_lea, .ref a_sli, .ref a_lef, .ref a_bst, .ref a_try, .int lsl, .ref a_mom, .ref a_byt, .int bl, .int ta, .int tl, .int tk, .int va, .ref a_nxt, .ref a_val])), (a_sli, .inl (cI, 8, .inl (fun _ => 0))), (a_lef, .inl (cI, 8, .inl (fun _ => 0))), (a_try, .inl (cI, 6, .inl g))] H := hP
  have hD : va_D (va_A (w_m_slipsBy cI cZ cP mo a_now a_kep a_isk a_ref a_cw a_row a_lea a_sli a_lef a_bst a_try a_mom a_byt a_nxt a_val ab be fw mg f1 f2 rl lsl bl ta tl tk va g w t) sz) [(mo, .inr (7, [.ref a_now, .ref a_kep, .ref a_isk, .ref a_ref, .long ab, .long be, .int fw, .int mg, .int f1, .int f2, .ref a_cw, .ref a_row, .int rl, .ref a_lea, .ref a_sli, .ref a_lef, .ref a_bst, .ref a_try, .int lsl, .ref a_mom, .ref a_byt, .int bl, .int ta, .int tl, .int tk, .int va, .ref a_nxt, .ref a_val])), (a_sli, .inl (cI, 8, .inl (fun _ => 0))), (a_lef, .inl (cI, 8, .inl (fun _ => 0))), (a_try, .inl (cI, 6, .inl g))] := hD
  refine lv_iinc (v := 8) (lv' := [(2, .int 8), (0, .ref mo), (1, .int (nI t))]) hx hb dX7_slipsBy_20 hl (k := 0) rfl (by decide) (by decide) rfl (fun ls hl => ?_)
  refine lv_goto (tgt := 2) hx hb dX7_slipsBy_23 (by decide) ?_
  refine lv_iload_n hx hb dX7_slipsBy_2 rfl (lv_at hl 0 rfl) ?_
  refine lv_bipush (v := 8) hx hb dX7_slipsBy_3 (by decide) ?_
  refine lv_icmp_ge (tgt := 26) hx hb dX7_slipsBy_5 (by decide) (fun _ => ?_) (fun c_9 => absurd (by decide) c_9)
  refine lv_iconst (v := 0) hx hb dX7_slipsBy_26 (by decide) ?_
  refine lv_istore_n (lv' := [(2, .int 0), (0, .ref mo), (1, .int (nI t))]) hx hb dX7_slipsBy_27 rfl hl (by decide) rfl (fun ls hl => ?_)
  have lp_28 : ∀ (n_28 : Nat) (k : Nat), (k ≤ t) → (t + 1 ≤ k + n_28) → ∀ (H : Heap) (locs : List Loc) (ls : Array Slot), va_P D vwCl [(mo, .inr (7, [.ref a_now, .ref a_kep, .ref a_isk, .ref a_ref, .long ab, .long be, .int fw, .int mg, .int f1, .int f2, .ref a_cw, .ref a_row, .int rl, .ref a_lea, .ref a_sli, .ref a_lef, .ref a_bst, .ref a_try, .int lsl, .ref a_mom, .ref a_byt, .int bl, .int ta, .int tl, .int tk, .int va, .ref a_nxt, .ref a_val])), (a_sli, .inl (cI, 8, .inl (fun _ => 0))), (a_lef, .inl (cI, 8, .inl (fun _ => 0))), (a_try, .inl (cI, 6, .inl g))] H → va_D (va_A (w_m_slipsBy cI cZ cP mo a_now a_kep a_isk a_ref a_cw a_row a_lea a_sli a_lef a_bst a_try a_mom a_byt a_nxt a_val ab be fw mg f1 f2 rl lsl bl ta tl tk va g w t) sz) [(mo, .inr (7, [.ref a_now, .ref a_kep, .ref a_isk, .ref a_ref, .long ab, .long be, .int fw, .int mg, .int f1, .int f2, .ref a_cw, .ref a_row, .int rl, .ref a_lea, .ref a_sli, .ref a_lef, .ref a_bst, .ref a_try, .int lsl, .ref a_mom, .ref a_byt, .int bl, .int ta, .int tl, .int tk, .int va, .ref a_nxt, .ref a_val])), (a_sli, .inl (cI, 8, .inl (fun _ => 0))), (a_lef, .inl (cI, 8, .inl (fun _ => 0))), (a_try, .inl (cI, 6, .inl g))] → va_S (va_A (w_m_slipsBy cI cZ cP mo a_now a_kep a_isk a_ref a_cw a_row a_lea a_sli a_lef a_bst a_try a_mom a_byt a_nxt a_val ab be fw mg f1 f2 rl lsl bl ta tl tk va g w t) sz) s.heap H locs → lv_has ls 4 [(2, .int (nI k)), (0, .ref mo), (1, .int (nI t))] → W p l e ({ frames := 0, cells := 0, slots := 0, locals := 0 } : Room) s m ([.ref mo, .int (nI t)] : List Value).toArray below meth c H locs 0 0 (MQ below (qQi D (w_m_slipsBy cI cZ cP mo a_now a_kep a_isk a_ref a_cw a_row a_lea a_sli a_lef a_bst a_try a_mom a_byt a_nxt a_val ab be fw mg f1 f2 rl lsl bl ta tl tk va g w t) sz (fun (r : Int32) (_ : Unit) => r = 0) (fun _ => [(mo, .inr (7, [.ref a_now, .ref a_kep, .ref a_isk, .ref a_ref, .long ab, .long be, .int fw, .int mg, .int f1, .int f2, .ref a_cw, .ref a_row, .int rl, .ref a_lea, .ref a_sli, .ref a_lef, .ref a_bst, .ref a_try, .int lsl, .ref a_mom, .ref a_byt, .int bl, .int ta, .int tl, .int tk, .int va, .ref a_nxt, .ref a_val])), (a_sli, .inl (cI, 8, .inl (fun _ => 0))), (a_lef, .inl (cI, 8, .inl (fun _ => 0))), (a_try, .inl (cI, 6, .inl g))])) ([.ref mo, .int (nI t)] : List Value).toArray s 0 0 (va_A (w_m_slipsBy cI cZ cP mo a_now a_kep a_isk a_ref a_cw a_row a_lea a_sli a_lef a_bst a_try a_mom a_byt a_nxt a_val ab be fw mg f1 f2 rl lsl bl ta tl tk va g w t) sz)) (F0 m 28 ls []) := by
    intro n_28
    induction n_28 with
    | zero => intro k hk hm_28; exact absurd hm_28 (by omega)
    | succ n_28 ih_28 =>
      intro k hk hm_28 H locs ls hP hD hS hl
      refine lv_iload_n hx hb dX7_slipsBy_28 rfl (lv_at hl 0 rfl) ?_
      refine lv_iload_n hx hb dX7_slipsBy_29 rfl (lv_at hl 2 rfl) ?_
      refine lv_icmp_ge (tgt := 65) hx hb dX7_slipsBy_30 (by decide) (fun c_10 => ?_) (fun c_10 => ?_)
      · refine lv_iconst (v := 0) hx hb dX7_slipsBy_65 (by decide) ?_
        refine lv_istore_n (lv' := [(2, .int 0), (0, .ref mo), (1, .int (nI t))]) hx hb dX7_slipsBy_66 rfl hl (by decide) rfl (fun ls hl => ?_)
        refine lv_iconst (v := 0) hx hb dX7_slipsBy_67 (by decide) ?_
        refine lv_istore_n (lv' := [(3, .int 0), (2, .int 0), (0, .ref mo), (1, .int (nI t))]) hx hb dX7_slipsBy_68 rfl hl (by decide) rfl (fun ls hl => ?_)
        refine lv_iload_n hx hb dX7_slipsBy_69 rfl (lv_at hl 0 rfl) ?_
        refine lv_bipush (v := 8) hx hb dX7_slipsBy_70 (by decide) ?_
        refine lv_icmp_ge (tgt := 90) hx hb dX7_slipsBy_72 (by decide) (fun c_11 => absurd c_11 (by decide)) (fun _ => ?_)
        refine lv_iload_n hx hb dX7_slipsBy_75 rfl (lv_at hl 1 rfl) ?_
        refine lv_aload_n hx hb dX7_slipsBy_76 rfl (lv_at hl 2 rfl) ?_
        refine va_get (D := D) (ci := 7) (v := .ref a_lef) (C := RX7) (T := TX7) (N := 28) hx hb ht inX7 hown hK hP 0 rfl rfl 15 (Nat.le_of_ble_eq_true rfl) (ht _ kw_919) (fun _ h9 => h9) rfl dX7_slipsBy_77 ?_
        refine lv_iload_n hx hb dX7_slipsBy_80 rfl (lv_at hl 0 rfl) ?_
        refine va_iald hx hb hK hP 2 0 rfl rfl (vin (by decide)) dX7_slipsBy_81 ?_
        refine q_i (z := 0) rfl ?_
        refine lv_iadd hx hb dX7_slipsBy_82 ?_
        refine q_i (z := 0) (by decide) ?_
        refine lv_istore_n (lv' := [(2, .int 0), (3, .int 0), (0, .ref mo), (1, .int (nI t))]) hx hb dX7_slipsBy_83 rfl hl (by decide) rfl (fun ls hl => ?_)
        refine lv_iinc (v := 1) (lv' := [(3, .int 1), (2, .int 0), (0, .ref mo), (1, .int (nI t))]) hx hb dX7_slipsBy_84 hl (k := 1) rfl (by decide) (by decide) rfl (fun ls hl => ?_)
        refine lv_goto (tgt := 69) hx hb dX7_slipsBy_87 (by decide) ?_
        refine lv_iload_n hx hb dX7_slipsBy_69 rfl (lv_at hl 0 rfl) ?_
        refine lv_bipush (v := 8) hx hb dX7_slipsBy_70 (by decide) ?_
        refine lv_icmp_ge (tgt := 90) hx hb dX7_slipsBy_72 (by decide) (fun c_12 => absurd c_12 (by decide)) (fun _ => ?_)
        refine lv_iload_n hx hb dX7_slipsBy_75 rfl (lv_at hl 1 rfl) ?_
        refine lv_aload_n hx hb dX7_slipsBy_76 rfl (lv_at hl 2 rfl) ?_
        refine va_get (D := D) (ci := 7) (v := .ref a_lef) (C := RX7) (T := TX7) (N := 28) hx hb ht inX7 hown hK hP 0 rfl rfl 15 (Nat.le_of_ble_eq_true rfl) (ht _ kw_919) (fun _ h9 => h9) rfl dX7_slipsBy_77 ?_
        refine lv_iload_n hx hb dX7_slipsBy_80 rfl (lv_at hl 0 rfl) ?_
        refine va_iald hx hb hK hP 2 0 rfl rfl (vin (by decide)) dX7_slipsBy_81 ?_
        refine q_i (z := 0) rfl ?_
        refine lv_iadd hx hb dX7_slipsBy_82 ?_
        refine q_i (z := 0) (by decide) ?_
        refine lv_istore_n (lv' := [(2, .int 0), (3, .int 1), (0, .ref mo), (1, .int (nI t))]) hx hb dX7_slipsBy_83 rfl hl (by decide) rfl (fun ls hl => ?_)
        refine lv_iinc (v := 2) (lv' := [(3, .int 2), (2, .int 0), (0, .ref mo), (1, .int (nI t))]) hx hb dX7_slipsBy_84 hl (k := 1) rfl (by decide) (by decide) rfl (fun ls hl => ?_)
        refine lv_goto (tgt := 69) hx hb dX7_slipsBy_87 (by decide) ?_
        refine lv_iload_n hx hb dX7_slipsBy_69 rfl (lv_at hl 0 rfl) ?_
        refine lv_bipush (v := 8) hx hb dX7_slipsBy_70 (by decide) ?_
        refine lv_icmp_ge (tgt := 90) hx hb dX7_slipsBy_72 (by decide) (fun c_13 => absurd c_13 (by decide)) (fun _ => ?_)
        refine lv_iload_n hx hb dX7_slipsBy_75 rfl (lv_at hl 1 rfl) ?_
        refine lv_aload_n hx hb dX7_slipsBy_76 rfl (lv_at hl 2 rfl) ?_
        refine va_get (D := D) (ci := 7) (v := .ref a_lef) (C := RX7) (T := TX7) (N := 28) hx hb ht inX7 hown hK hP 0 rfl rfl 15 (Nat.le_of_ble_eq_true rfl) (ht _ kw_919) (fun _ h9 => h9) rfl dX7_slipsBy_77 ?_
        refine lv_iload_n hx hb dX7_slipsBy_80 rfl (lv_at hl 0 rfl) ?_
        refine va_iald hx hb hK hP 2 0 rfl rfl (vin (by decide)) dX7_slipsBy_81 ?_
        refine q_i (z := 0) rfl ?_
        refine lv_iadd hx hb dX7_slipsBy_82 ?_
        refine q_i (z := 0) (by decide) ?_
        refine lv_istore_n (lv' := [(2, .int 0), (3, .int 2), (0, .ref mo), (1, .int (nI t))]) hx hb dX7_slipsBy_83 rfl hl (by decide) rfl (fun ls hl => ?_)
        refine lv_iinc (v := 3) (lv' := [(3, .int 3), (2, .int 0), (0, .ref mo), (1, .int (nI t))]) hx hb dX7_slipsBy_84 hl (k := 1) rfl (by decide) (by decide) rfl (fun ls hl => ?_)
        refine lv_goto (tgt := 69) hx hb dX7_slipsBy_87 (by decide) ?_
        refine lv_iload_n hx hb dX7_slipsBy_69 rfl (lv_at hl 0 rfl) ?_
        refine lv_bipush (v := 8) hx hb dX7_slipsBy_70 (by decide) ?_
        refine lv_icmp_ge (tgt := 90) hx hb dX7_slipsBy_72 (by decide) (fun c_14 => absurd c_14 (by decide)) (fun _ => ?_)
        refine lv_iload_n hx hb dX7_slipsBy_75 rfl (lv_at hl 1 rfl) ?_
        refine lv_aload_n hx hb dX7_slipsBy_76 rfl (lv_at hl 2 rfl) ?_
        refine va_get (D := D) (ci := 7) (v := .ref a_lef) (C := RX7) (T := TX7) (N := 28) hx hb ht inX7 hown hK hP 0 rfl rfl 15 (Nat.le_of_ble_eq_true rfl) (ht _ kw_919) (fun _ h9 => h9) rfl dX7_slipsBy_77 ?_
        refine lv_iload_n hx hb dX7_slipsBy_80 rfl (lv_at hl 0 rfl) ?_
        refine va_iald hx hb hK hP 2 0 rfl rfl (vin (by decide)) dX7_slipsBy_81 ?_
        refine q_i (z := 0) rfl ?_
        refine lv_iadd hx hb dX7_slipsBy_82 ?_
        refine q_i (z := 0) (by decide) ?_
        refine lv_istore_n (lv' := [(2, .int 0), (3, .int 3), (0, .ref mo), (1, .int (nI t))]) hx hb dX7_slipsBy_83 rfl hl (by decide) rfl (fun ls hl => ?_)
        refine lv_iinc (v := 4) (lv' := [(3, .int 4), (2, .int 0), (0, .ref mo), (1, .int (nI t))]) hx hb dX7_slipsBy_84 hl (k := 1) rfl (by decide) (by decide) rfl (fun ls hl => ?_)
        refine lv_goto (tgt := 69) hx hb dX7_slipsBy_87 (by decide) ?_
        refine lv_iload_n hx hb dX7_slipsBy_69 rfl (lv_at hl 0 rfl) ?_
        refine lv_bipush (v := 8) hx hb dX7_slipsBy_70 (by decide) ?_
        refine lv_icmp_ge (tgt := 90) hx hb dX7_slipsBy_72 (by decide) (fun c_15 => absurd c_15 (by decide)) (fun _ => ?_)
        refine lv_iload_n hx hb dX7_slipsBy_75 rfl (lv_at hl 1 rfl) ?_
        refine lv_aload_n hx hb dX7_slipsBy_76 rfl (lv_at hl 2 rfl) ?_
        refine va_get (D := D) (ci := 7) (v := .ref a_lef) (C := RX7) (T := TX7) (N := 28) hx hb ht inX7 hown hK hP 0 rfl rfl 15 (Nat.le_of_ble_eq_true rfl) (ht _ kw_919) (fun _ h9 => h9) rfl dX7_slipsBy_77 ?_
        refine lv_iload_n hx hb dX7_slipsBy_80 rfl (lv_at hl 0 rfl) ?_
        refine va_iald hx hb hK hP 2 0 rfl rfl (vin (by decide)) dX7_slipsBy_81 ?_
        refine q_i (z := 0) rfl ?_
        refine lv_iadd hx hb dX7_slipsBy_82 ?_
        refine q_i (z := 0) (by decide) ?_
        refine lv_istore_n (lv' := [(2, .int 0), (3, .int 4), (0, .ref mo), (1, .int (nI t))]) hx hb dX7_slipsBy_83 rfl hl (by decide) rfl (fun ls hl => ?_)
        refine lv_iinc (v := 5) (lv' := [(3, .int 5), (2, .int 0), (0, .ref mo), (1, .int (nI t))]) hx hb dX7_slipsBy_84 hl (k := 1) rfl (by decide) (by decide) rfl (fun ls hl => ?_)
        refine lv_goto (tgt := 69) hx hb dX7_slipsBy_87 (by decide) ?_
        refine lv_iload_n hx hb dX7_slipsBy_69 rfl (lv_at hl 0 rfl) ?_
        refine lv_bipush (v := 8) hx hb dX7_slipsBy_70 (by decide) ?_
        refine lv_icmp_ge (tgt := 90) hx hb dX7_slipsBy_72 (by decide) (fun c_16 => absurd c_16 (by decide)) (fun _ => ?_)
        refine lv_iload_n hx hb dX7_slipsBy_75 rfl (lv_at hl 1 rfl) ?_
        refine lv_aload_n hx hb dX7_slipsBy_76 rfl (lv_at hl 2 rfl) ?_
        refine va_get (D := D) (ci := 7) (v := .ref a_lef) (C := RX7) (T := TX7) (N := 28) hx hb ht inX7 hown hK hP 0 rfl rfl 15 (Nat.le_of_ble_eq_true rfl) (ht _ kw_919) (fun _ h9 => h9) rfl dX7_slipsBy_77 ?_
        refine lv_iload_n hx hb dX7_slipsBy_80 rfl (lv_at hl 0 rfl) ?_
        refine va_iald hx hb hK hP 2 0 rfl rfl (vin (by decide)) dX7_slipsBy_81 ?_
        refine q_i (z := 0) rfl ?_
        refine lv_iadd hx hb dX7_slipsBy_82 ?_
        refine q_i (z := 0) (by decide) ?_
        refine lv_istore_n (lv' := [(2, .int 0), (3, .int 5), (0, .ref mo), (1, .int (nI t))]) hx hb dX7_slipsBy_83 rfl hl (by decide) rfl (fun ls hl => ?_)
        refine lv_iinc (v := 6) (lv' := [(3, .int 6), (2, .int 0), (0, .ref mo), (1, .int (nI t))]) hx hb dX7_slipsBy_84 hl (k := 1) rfl (by decide) (by decide) rfl (fun ls hl => ?_)
        refine lv_goto (tgt := 69) hx hb dX7_slipsBy_87 (by decide) ?_
        refine lv_iload_n hx hb dX7_slipsBy_69 rfl (lv_at hl 0 rfl) ?_
        refine lv_bipush (v := 8) hx hb dX7_slipsBy_70 (by decide) ?_
        refine lv_icmp_ge (tgt := 90) hx hb dX7_slipsBy_72 (by decide) (fun c_17 => absurd c_17 (by decide)) (fun _ => ?_)
        refine lv_iload_n hx hb dX7_slipsBy_75 rfl (lv_at hl 1 rfl) ?_
        refine lv_aload_n hx hb dX7_slipsBy_76 rfl (lv_at hl 2 rfl) ?_
        refine va_get (D := D) (ci := 7) (v := .ref a_lef) (C := RX7) (T := TX7) (N := 28) hx hb ht inX7 hown hK hP 0 rfl rfl 15 (Nat.le_of_ble_eq_true rfl) (ht _ kw_919) (fun _ h9 => h9) rfl dX7_slipsBy_77 ?_
        refine lv_iload_n hx hb dX7_slipsBy_80 rfl (lv_at hl 0 rfl) ?_
        refine va_iald hx hb hK hP 2 0 rfl rfl (vin (by decide)) dX7_slipsBy_81 ?_
        refine q_i (z := 0) rfl ?_
        refine lv_iadd hx hb dX7_slipsBy_82 ?_
        refine q_i (z := 0) (by decide) ?_
        refine lv_istore_n (lv' := [(2, .int 0), (3, .int 6), (0, .ref mo), (1, .int (nI t))]) hx hb dX7_slipsBy_83 rfl hl (by decide) rfl (fun ls hl => ?_)
        refine lv_iinc (v := 7) (lv' := [(3, .int 7), (2, .int 0), (0, .ref mo), (1, .int (nI t))]) hx hb dX7_slipsBy_84 hl (k := 1) rfl (by decide) (by decide) rfl (fun ls hl => ?_)
        refine lv_goto (tgt := 69) hx hb dX7_slipsBy_87 (by decide) ?_
        refine lv_iload_n hx hb dX7_slipsBy_69 rfl (lv_at hl 0 rfl) ?_
        refine lv_bipush (v := 8) hx hb dX7_slipsBy_70 (by decide) ?_
        refine lv_icmp_ge (tgt := 90) hx hb dX7_slipsBy_72 (by decide) (fun c_18 => absurd c_18 (by decide)) (fun _ => ?_)
        refine lv_iload_n hx hb dX7_slipsBy_75 rfl (lv_at hl 1 rfl) ?_
        refine lv_aload_n hx hb dX7_slipsBy_76 rfl (lv_at hl 2 rfl) ?_
        refine va_get (D := D) (ci := 7) (v := .ref a_lef) (C := RX7) (T := TX7) (N := 28) hx hb ht inX7 hown hK hP 0 rfl rfl 15 (Nat.le_of_ble_eq_true rfl) (ht _ kw_919) (fun _ h9 => h9) rfl dX7_slipsBy_77 ?_
        refine lv_iload_n hx hb dX7_slipsBy_80 rfl (lv_at hl 0 rfl) ?_
        refine va_iald hx hb hK hP 2 0 rfl rfl (vin (by decide)) dX7_slipsBy_81 ?_
        refine q_i (z := 0) rfl ?_
        refine lv_iadd hx hb dX7_slipsBy_82 ?_
        refine q_i (z := 0) (by decide) ?_
        refine lv_istore_n (lv' := [(2, .int 0), (3, .int 7), (0, .ref mo), (1, .int (nI t))]) hx hb dX7_slipsBy_83 rfl hl (by decide) rfl (fun ls hl => ?_)
        refine lv_iinc (v := 8) (lv' := [(3, .int 8), (2, .int 0), (0, .ref mo), (1, .int (nI t))]) hx hb dX7_slipsBy_84 hl (k := 1) rfl (by decide) (by decide) rfl (fun ls hl => ?_)
        refine lv_goto (tgt := 69) hx hb dX7_slipsBy_87 (by decide) ?_
        refine lv_iload_n hx hb dX7_slipsBy_69 rfl (lv_at hl 0 rfl) ?_
        refine lv_bipush (v := 8) hx hb dX7_slipsBy_70 (by decide) ?_
        refine lv_icmp_ge (tgt := 90) hx hb dX7_slipsBy_72 (by decide) (fun _ => ?_) (fun c_19 => absurd (by decide) c_19)
        refine lv_iload_n hx hb dX7_slipsBy_90 rfl (lv_at hl 1 rfl) ?_
        exact q_iret hX hr hlk () rfl (hP.sub [0, 1, 2, 3] rfl) (hD.sub [0, 1, 2, 3] (by decide) rfl) hS dX7_slipsBy_91
      · have hk2 : k < t := nI_dnn c_10 (by omega) (by omega)
        refine lv_aload_n hx hb dX7_slipsBy_33 rfl (lv_at hl 1 rfl) ?_
        refine va_get (D := D) (ci := 7) (v := .ref a_lef) (C := RX7) (T := TX7) (N := 28) hx hb ht inX7 hown hK hP 0 rfl rfl 15 (Nat.le_of_ble_eq_true rfl) (ht _ kw_919) (fun _ h9 => h9) rfl dX7_slipsBy_34 ?_
        refine lv_aload_n hx hb dX7_slipsBy_37 rfl (lv_at hl 1 rfl) ?_
        refine va_get (D := D) (ci := 7) (v := .ref a_try) (C := RX7) (T := TX7) (N := 28) hx hb ht inX7 hown hK hP 0 rfl rfl 17 (Nat.le_of_ble_eq_true rfl) (ht _ kw_921) (fun _ h9 => h9) rfl dX7_slipsBy_38 ?_
        refine lv_iload_n hx hb dX7_slipsBy_41 rfl (lv_at hl 0 rfl) ?_
        refine va_iald hx hb hK hP 3 0 rfl rfl (vp_in_nI (by omega) (by omega)) dX7_slipsBy_42 ?_
        refine q_i (z := (nI (w k))) (row_at hrow hk2 hti) ?_
        refine lv_aload_n hx hb dX7_slipsBy_43 rfl (lv_at hl 1 rfl) ?_
        refine va_get (D := D) (ci := 7) (v := .ref a_lef) (C := RX7) (T := TX7) (N := 28) hx hb ht inX7 hown hK hP 0 rfl rfl 15 (Nat.le_of_ble_eq_true rfl) (ht _ kw_919) (fun _ h9 => h9) rfl dX7_slipsBy_44 ?_
        refine lv_aload_n hx hb dX7_slipsBy_47 rfl (lv_at hl 1 rfl) ?_
        refine va_get (D := D) (ci := 7) (v := .ref a_try) (C := RX7) (T := TX7) (N := 28) hx hb ht inX7 hown hK hP 0 rfl rfl 17 (Nat.le_of_ble_eq_true rfl) (ht _ kw_921) (fun _ h9 => h9) rfl dX7_slipsBy_48 ?_
        refine lv_iload_n hx hb dX7_slipsBy_51 rfl (lv_at hl 0 rfl) ?_
        refine va_iald hx hb hK hP 3 0 rfl rfl (vp_in_nI (by omega) (by omega)) dX7_slipsBy_52 ?_
        refine q_i (z := (nI (w k))) (row_at hrow hk2 hti) ?_
        refine va_iald hx hb hK hP 2 0 rfl rfl (row_8 hrow hk2 hti) dX7_slipsBy_53 ?_
        refine q_i (z := 0) rfl ?_
        refine lv_iconst (v := 3) hx hb dX7_slipsBy_54 (by decide) ?_
        refine lv_imul hx hb dX7_slipsBy_55 ?_
        refine q_i (z := 0) (by decide) ?_
        refine lv_iconst (v := 4) hx hb dX7_slipsBy_56 (by decide) ?_
        refine lv_idiv hx hb dX7_slipsBy_57 (by decide) ?_
        refine q_i (z := 0) (by decide) ?_
        refine va_iast hx hb hK hP hD hS 2 0 rfl rfl (row_8 hrow hk2 hti) dX7_slipsBy_58 (fun H locs hP hD hS => ?_)
        have hP : va_P D vwCl [(mo, .inr (7, [.ref a_now, .ref a_kep, .ref a_isk, .ref a_ref, .long ab, .long be, .int fw, .int mg, .int f1, .int f2, .ref a_cw, .ref a_row, .int rl, .ref a_lea, .ref a_sli, .ref a_lef, .ref a_bst, .ref a_try, .int lsl, .ref a_mom, .ref a_byt, .int bl, .int ta, .int tl, .int tk, .int va, .ref a_nxt, .ref a_val])), (a_sli, .inl (cI, 8, .inl (fun _ => 0))), (a_lef, .inl (cI, 8, .inl (upd (fun _ => 0) (nI (w k)).toNatClampNeg 0))), (a_try, .inl (cI, 6, .inl g))] H := hP
        have hD : va_D (va_A (w_m_slipsBy cI cZ cP mo a_now a_kep a_isk a_ref a_cw a_row a_lea a_sli a_lef a_bst a_try a_mom a_byt a_nxt a_val ab be fw mg f1 f2 rl lsl bl ta tl tk va g w t) sz) [(mo, .inr (7, [.ref a_now, .ref a_kep, .ref a_isk, .ref a_ref, .long ab, .long be, .int fw, .int mg, .int f1, .int f2, .ref a_cw, .ref a_row, .int rl, .ref a_lea, .ref a_sli, .ref a_lef, .ref a_bst, .ref a_try, .int lsl, .ref a_mom, .ref a_byt, .int bl, .int ta, .int tl, .int tk, .int va, .ref a_nxt, .ref a_val])), (a_sli, .inl (cI, 8, .inl (fun _ => 0))), (a_lef, .inl (cI, 8, .inl (upd (fun _ => 0) (nI (w k)).toNatClampNeg 0))), (a_try, .inl (cI, 6, .inl g))] := hD
        rw [upd_c] at hP hD
        have hP : va_P D vwCl [(mo, .inr (7, [.ref a_now, .ref a_kep, .ref a_isk, .ref a_ref, .long ab, .long be, .int fw, .int mg, .int f1, .int f2, .ref a_cw, .ref a_row, .int rl, .ref a_lea, .ref a_sli, .ref a_lef, .ref a_bst, .ref a_try, .int lsl, .ref a_mom, .ref a_byt, .int bl, .int ta, .int tl, .int tk, .int va, .ref a_nxt, .ref a_val])), (a_sli, .inl (cI, 8, .inl (fun _ => 0))), (a_lef, .inl (cI, 8, .inl (fun _ => 0))), (a_try, .inl (cI, 6, .inl g))] H := hP
        have hD : va_D (va_A (w_m_slipsBy cI cZ cP mo a_now a_kep a_isk a_ref a_cw a_row a_lea a_sli a_lef a_bst a_try a_mom a_byt a_nxt a_val ab be fw mg f1 f2 rl lsl bl ta tl tk va g w t) sz) [(mo, .inr (7, [.ref a_now, .ref a_kep, .ref a_isk, .ref a_ref, .long ab, .long be, .int fw, .int mg, .int f1, .int f2, .ref a_cw, .ref a_row, .int rl, .ref a_lea, .ref a_sli, .ref a_lef, .ref a_bst, .ref a_try, .int lsl, .ref a_mom, .ref a_byt, .int bl, .int ta, .int tl, .int tk, .int va, .ref a_nxt, .ref a_val])), (a_sli, .inl (cI, 8, .inl (fun _ => 0))), (a_lef, .inl (cI, 8, .inl (fun _ => 0))), (a_try, .inl (cI, 6, .inl g))] := hD
        refine lv_iinc (v := (nI (k + 1))) (lv' := [(2, .int (nI (k + 1))), (0, .ref mo), (1, .int (nI t))]) hx hb dX7_slipsBy_59 hl (k := 0) rfl (nI_1 k) (by decide) rfl (fun ls hl => ?_)
        refine lv_goto (tgt := 28) hx hb dX7_slipsBy_62 (by decide) ?_
        exact ih_28 (k + 1) (by omega) (by omega) _ _ _ hP hD hS (lv_sub hl [0, 1, 2] rfl)
  exact lp_28 (t + 1) 0 (by omega) (by omega) _ _ _ hP hD hS (lv_sub hl [0, 1, 2] rfl)
abbrev w_m_nextRow (cI cZ cP : ClassId) (mo : Nat) (a_now : Nat) (a_kep : Nat) (a_isk : Nat) (a_ref : Nat) (a_cw : Nat) (a_row : Nat) (a_lea : Nat) (a_sli : Nat) (a_lef : Nat) (a_bst : Nat) (a_try : Nat) (a_mom : Nat) (a_byt : Nat) (a_nxt : Nat) (a_val : Nat) (ab : Int64) (be : Int64) (fw : Int32) (mg : Int32) (f1 : Int32) (f2 : Int32) (rl : Int32) (lsl : Int32) (bl : Int32) (ta : Int32) (tl : Int32) (tk : Int32) (va : Int32) (g : Nat → Int32) (w : Nat → Nat) (t : Nat) : va_W := [(mo, .inr (7, [.ref a_now, .ref a_kep, .ref a_isk, .ref a_ref, .long ab, .long be, .int fw, .int mg, .int f1, .int f2, .ref a_cw, .ref a_row, .int rl, .ref a_lea, .ref a_sli, .ref a_lef, .ref a_bst, .ref a_try, .int lsl, .ref a_mom, .ref a_byt, .int bl, .int ta, .int tl, .int tk, .int va, .ref a_nxt, .ref a_val])), (a_try, .inl (cI, 6, .inl g))]
set_option maxHeartbeats 4000000 in
set_option maxRecDepth 100000 in
theorem c_m_nextRow (l : Launch) (D : va_G) (cI cZ cP : ClassId) (sa : Nat → Nat) (mo : Nat) (a_now : Nat) (a_kep : Nat) (a_isk : Nat) (a_ref : Nat) (a_cw : Nat) (a_row : Nat) (a_lea : Nat) (a_sli : Nat) (a_lef : Nat) (a_bst : Nat) (a_try : Nat) (a_mom : Nat) (a_byt : Nat) (a_nxt : Nat) (a_val : Nat) (ab : Int64) (be : Int64) (fw : Int32) (mg : Int32) (f1 : Int32) (f2 : Int32) (rl : Int32) (lsl : Int32) (bl : Int32) (ta : Int32) (tl : Int32) (tk : Int32) (va : Int32) (g : Nat → Int32) (w : Nat → Nat) (t : Nat) (hti : t ≤ 6) (hrow : isRow t g w) (sz : Nat) : Met l yX7_nextRow (qW yX7_nextRow cX7_nextRow 5 (some .boolean)) ({ frames := 0, cells := 0, slots := 0, locals := 0 } : Room) (qP D (TY cI cZ cP) sa [.ref mo, .int (nI t)] (w_m_nextRow cI cZ cP mo a_now a_kep a_isk a_ref a_cw a_row a_lea a_sli a_lef a_bst a_try a_mom a_byt a_nxt a_val ab be fw mg f1 f2 rl lsl bl ta tl tk va g w t) sz) (qQi D (w_m_nextRow cI cZ cP mo a_now a_kep a_isk a_ref a_cw a_row a_lea a_sli a_lef a_bst a_try a_mom a_byt a_nxt a_val ab be fw mg f1 f2 rl lsl bl ta tl tk va g w t) sz (fun (r : Int32) (u : (Nat → Int32) × (Nat → Nat)) => isRow t u.1 u.2 ∧ (r = 0 ∨ r = 1) ∧ (r = 1 → rv t w < rv t u.2)) (fun u => [(mo, .inr (7, [.ref a_now, .ref a_kep, .ref a_isk, .ref a_ref, .long ab, .long be, .int fw, .int mg, .int f1, .int f2, .ref a_cw, .ref a_row, .int rl, .ref a_lea, .ref a_sli, .ref a_lef, .ref a_bst, .ref a_try, .int lsl, .ref a_mom, .ref a_byt, .int bl, .int ta, .int tl, .int tk, .int va, .ref a_nxt, .ref a_val])), (a_try, .inl (cI, 6, .inl u.1))])) 0 0 (va_A (w_m_nextRow cI cZ cP mo a_now a_kep a_isk a_ref a_cw a_row a_lea a_sli a_lef a_bst a_try a_mom a_byt a_nxt a_val ab be fw mg f1 f2 rl lsl bl ta tl tk va g w t) sz) := by
  refine q_enter (by decide) (Nat.le_of_ble_eq_true rfl) ?_
  intro p e s m below meth c ls hX hr hlk hnm hE hK hP hD hS hA hl
  obtain ⟨hx, hb, hml, hown, ht⟩ := id hX
  have hl : lv_has ls 5 [(0, .ref mo), (1, .int (nI t))] := hl
  refine lv_iload_n hx hb dX7_nextRow_0 rfl (lv_at hl 1 rfl) ?_
  refine lv_iconst (v := 1) hx hb dX7_nextRow_1 (by decide) ?_
  refine lv_isub hx hb dX7_nextRow_2 ?_
  refine lv_istore_n (lv' := [(2, .int ((nI t) - 1)), (0, .ref mo), (1, .int (nI t))]) hx hb dX7_nextRow_3 rfl hl (by decide) rfl (fun ls hl => ?_)
  have lp_4 : ∀ (n_4 : Nat) (j : Nat), (j ≤ t) → (∀ a, j ≤ a → a < t → w a = 7) → (j < n_4) → ∀ (H : Heap) (locs : List Loc) (ls : Array Slot), va_P D vwCl [(mo, .inr (7, [.ref a_now, .ref a_kep, .ref a_isk, .ref a_ref, .long ab, .long be, .int fw, .int mg, .int f1, .int f2, .ref a_cw, .ref a_row, .int rl, .ref a_lea, .ref a_sli, .ref a_lef, .ref a_bst, .ref a_try, .int lsl, .ref a_mom, .ref a_byt, .int bl, .int ta, .int tl, .int tk, .int va, .ref a_nxt, .ref a_val])), (a_try, .inl (cI, 6, .inl g))] H → va_D (va_A (w_m_nextRow cI cZ cP mo a_now a_kep a_isk a_ref a_cw a_row a_lea a_sli a_lef a_bst a_try a_mom a_byt a_nxt a_val ab be fw mg f1 f2 rl lsl bl ta tl tk va g w t) sz) [(mo, .inr (7, [.ref a_now, .ref a_kep, .ref a_isk, .ref a_ref, .long ab, .long be, .int fw, .int mg, .int f1, .int f2, .ref a_cw, .ref a_row, .int rl, .ref a_lea, .ref a_sli, .ref a_lef, .ref a_bst, .ref a_try, .int lsl, .ref a_mom, .ref a_byt, .int bl, .int ta, .int tl, .int tk, .int va, .ref a_nxt, .ref a_val])), (a_try, .inl (cI, 6, .inl g))] → va_S (va_A (w_m_nextRow cI cZ cP mo a_now a_kep a_isk a_ref a_cw a_row a_lea a_sli a_lef a_bst a_try a_mom a_byt a_nxt a_val ab be fw mg f1 f2 rl lsl bl ta tl tk va g w t) sz) s.heap H locs → lv_has ls 5 [(2, .int (nI j - 1)), (0, .ref mo), (1, .int (nI t))] → W p l e ({ frames := 0, cells := 0, slots := 0, locals := 0 } : Room) s m ([.ref mo, .int (nI t)] : List Value).toArray below meth c H locs 0 0 (MQ below (qQi D (w_m_nextRow cI cZ cP mo a_now a_kep a_isk a_ref a_cw a_row a_lea a_sli a_lef a_bst a_try a_mom a_byt a_nxt a_val ab be fw mg f1 f2 rl lsl bl ta tl tk va g w t) sz (fun (r : Int32) (u : (Nat → Int32) × (Nat → Nat)) => isRow t u.1 u.2 ∧ (r = 0 ∨ r = 1) ∧ (r = 1 → rv t w < rv t u.2)) (fun u => [(mo, .inr (7, [.ref a_now, .ref a_kep, .ref a_isk, .ref a_ref, .long ab, .long be, .int fw, .int mg, .int f1, .int f2, .ref a_cw, .ref a_row, .int rl, .ref a_lea, .ref a_sli, .ref a_lef, .ref a_bst, .ref a_try, .int lsl, .ref a_mom, .ref a_byt, .int bl, .int ta, .int tl, .int tk, .int va, .ref a_nxt, .ref a_val])), (a_try, .inl (cI, 6, .inl u.1))])) ([.ref mo, .int (nI t)] : List Value).toArray s 0 0 (va_A (w_m_nextRow cI cZ cP mo a_now a_kep a_isk a_ref a_cw a_row a_lea a_sli a_lef a_bst a_try a_mom a_byt a_nxt a_val ab be fw mg f1 f2 rl lsl bl ta tl tk va g w t) sz)) (F0 m 4 ls []) := by
    intro n_4
    induction n_4 with
    | zero => intro j hj h7 hm_4; exact absurd hm_4 (by omega)
    | succ n_4 ih_4 =>
      intro j hj h7 hm_4 H locs ls hP hD hS hl
      rcases j with _ | i
      · have hl : lv_has ls 5 [(2, .int (-1)), (0, .ref mo), (1, .int (nI t))] := hl
        refine lv_iload_n hx hb dX7_nextRow_4 rfl (lv_at hl 0 rfl) ?_
        refine lv_if_lt (tgt := 25) hx hb dX7_nextRow_5 (by decide) (fun _ => ?_) (fun c_1 => absurd (by decide) c_1)
        refine lv_iload_n hx hb dX7_nextRow_25 rfl (lv_at hl 0 rfl) ?_
        refine lv_if_ge (tgt := 31) hx hb dX7_nextRow_26 (by decide) (fun c_2 => absurd c_2 (by decide)) (fun _ => ?_)
        refine lv_iconst (v := 0) hx hb dX7_nextRow_29 (by decide) ?_
        exact q_zret hX hr hlk (by decide) (g, w) ⟨hrow, Or.inl rfl, fun q => absurd q (by decide)⟩ (hP.sub [0, 1] rfl) (hD.sub [0, 1] (by decide) rfl) hS dX7_nextRow_30
      rw [nI_pred] at hl
      have hl : lv_has ls 5 [(2, .int (nI i)), (0, .ref mo), (1, .int (nI t))] := hl
      have hk2 : i < t := by omega
      refine lv_iload_n hx hb dX7_nextRow_4 rfl (lv_at hl 0 rfl) ?_
      refine lv_if_lt (tgt := 25) hx hb dX7_nextRow_5 (by decide) (fun c_3 => absurd c_3 (nI_pos (by omega))) (fun _ => ?_)
      refine lv_aload_n hx hb dX7_nextRow_8 rfl (lv_at hl 1 rfl) ?_
      refine va_get (D := D) (ci := 7) (v := .ref a_try) (C := RX7) (T := TX7) (N := 28) hx hb ht inX7 hown hK hP 0 rfl rfl 17 (Nat.le_of_ble_eq_true rfl) (ht _ kw_921) (fun _ h9 => h9) rfl dX7_nextRow_9 ?_
      refine lv_iload_n hx hb dX7_nextRow_12 rfl (lv_at hl 0 rfl) ?_
      refine va_iald hx hb hK hP 1 0 rfl rfl (vp_in_nI (by omega) (by omega)) dX7_nextRow_13 ?_
      refine q_i (z := (nI (w i))) (row_at hrow hk2 hti) ?_
      refine lv_bipush (v := 7) hx hb dX7_nextRow_14 (by decide) ?_
      refine lv_icmp_ne (tgt := 25) hx hb dX7_nextRow_16 (by decide) (fun c_4 => ?_) (fun c_4 => ?_)
      · refine lv_iload_n hx hb dX7_nextRow_25 rfl (lv_at hl 0 rfl) ?_
        refine lv_if_ge (tgt := 31) hx hb dX7_nextRow_26 (by decide) (fun _ => ?_) (fun c_5 => absurd (nI_pos' (by omega)) c_5)
        have h6 : w i ≤ 6 := row_n7 hrow hk2 c_4
        refine lv_aload_n hx hb dX7_nextRow_31 rfl (lv_at hl 1 rfl) ?_
        refine va_get (D := D) (ci := 7) (v := .ref a_try) (C := RX7) (T := TX7) (N := 28) hx hb ht inX7 hown hK hP 0 rfl rfl 17 (Nat.le_of_ble_eq_true rfl) (ht _ kw_921) (fun _ h9 => h9) rfl dX7_nextRow_32 ?_
        refine lv_iload_n hx hb dX7_nextRow_35 rfl (lv_at hl 0 rfl) ?_
        refine va_iald hx hb hK hP 1 0 rfl rfl (vp_in_nI (by omega) (by omega)) dX7_nextRow_36 ?_
        refine q_i (z := (nI (w i))) (row_at hrow hk2 hti) ?_
        refine lv_iconst (v := 1) hx hb dX7_nextRow_37 (by decide) ?_
        refine lv_iadd hx hb dX7_nextRow_38 ?_
        refine q_i (z := (nI ((w i) + 1))) (nI_add (w i) 1) ?_
        refine lv_istore_n (lv' := [(3, .int (nI ((w i) + 1))), (2, .int (nI i)), (0, .ref mo), (1, .int (nI t))]) hx hb dX7_nextRow_39 rfl hl (by decide) rfl (fun ls hl => ?_)
        refine lv_iload_n hx hb dX7_nextRow_40 rfl (lv_at hl 1 rfl) ?_
        refine lv_istore (lv' := [(4, .int (nI i)), (3, .int (nI ((w i) + 1))), (2, .int (nI i)), (0, .ref mo), (1, .int (nI t))]) hx hb dX7_nextRow_41 hl (by decide) rfl (fun ls hl => ?_)
        have lp_43 : ∀ (n_43 : Nat) (q : Nat) (g2 : Nat → Int32) (w2 : Nat → Nat), (i ≤ q ∧ q ≤ t) → (isRow t g2 w2) → (∀ a, a < i → w2 a = w a) → (i < q → w2 i = (w i) + 1) → (t + 1 ≤ q + n_43) → ∀ (H : Heap) (locs : List Loc) (ls : Array Slot), va_P D vwCl [(mo, .inr (7, [.ref a_now, .ref a_kep, .ref a_isk, .ref a_ref, .long ab, .long be, .int fw, .int mg, .int f1, .int f2, .ref a_cw, .ref a_row, .int rl, .ref a_lea, .ref a_sli, .ref a_lef, .ref a_bst, .ref a_try, .int lsl, .ref a_mom, .ref a_byt, .int bl, .int ta, .int tl, .int tk, .int va, .ref a_nxt, .ref a_val])), (a_try, .inl (cI, 6, .inl g2))] H → va_D (va_A (w_m_nextRow cI cZ cP mo a_now a_kep a_isk a_ref a_cw a_row a_lea a_sli a_lef a_bst a_try a_mom a_byt a_nxt a_val ab be fw mg f1 f2 rl lsl bl ta tl tk va g w t) sz) [(mo, .inr (7, [.ref a_now, .ref a_kep, .ref a_isk, .ref a_ref, .long ab, .long be, .int fw, .int mg, .int f1, .int f2, .ref a_cw, .ref a_row, .int rl, .ref a_lea, .ref a_sli, .ref a_lef, .ref a_bst, .ref a_try, .int lsl, .ref a_mom, .ref a_byt, .int bl, .int ta, .int tl, .int tk, .int va, .ref a_nxt, .ref a_val])), (a_try, .inl (cI, 6, .inl g2))] → va_S (va_A (w_m_nextRow cI cZ cP mo a_now a_kep a_isk a_ref a_cw a_row a_lea a_sli a_lef a_bst a_try a_mom a_byt a_nxt a_val ab be fw mg f1 f2 rl lsl bl ta tl tk va g w t) sz) s.heap H locs → lv_has ls 5 [(4, .int (nI q)), (3, .int (nI ((w i) + 1))), (2, .int (nI i)), (0, .ref mo), (1, .int (nI t))] → W p l e ({ frames := 0, cells := 0, slots := 0, locals := 0 } : Room) s m ([.ref mo, .int (nI t)] : List Value).toArray below meth c H locs 0 0 (MQ below (qQi D (w_m_nextRow cI cZ cP mo a_now a_kep a_isk a_ref a_cw a_row a_lea a_sli a_lef a_bst a_try a_mom a_byt a_nxt a_val ab be fw mg f1 f2 rl lsl bl ta tl tk va g w t) sz (fun (r : Int32) (u : (Nat → Int32) × (Nat → Nat)) => isRow t u.1 u.2 ∧ (r = 0 ∨ r = 1) ∧ (r = 1 → rv t w < rv t u.2)) (fun u => [(mo, .inr (7, [.ref a_now, .ref a_kep, .ref a_isk, .ref a_ref, .long ab, .long be, .int fw, .int mg, .int f1, .int f2, .ref a_cw, .ref a_row, .int rl, .ref a_lea, .ref a_sli, .ref a_lef, .ref a_bst, .ref a_try, .int lsl, .ref a_mom, .ref a_byt, .int bl, .int ta, .int tl, .int tk, .int va, .ref a_nxt, .ref a_val])), (a_try, .inl (cI, 6, .inl u.1))])) ([.ref mo, .int (nI t)] : List Value).toArray s 0 0 (va_A (w_m_nextRow cI cZ cP mo a_now a_kep a_isk a_ref a_cw a_row a_lea a_sli a_lef a_bst a_try a_mom a_byt a_nxt a_val ab be fw mg f1 f2 rl lsl bl ta tl tk va g w t) sz)) (F0 m 43 ls []) := by
          intro n_43
          induction n_43 with
          | zero => intro q g2 w2 hq hr2 hlo hup hm_43; exact absurd hm_43 (by omega)
          | succ n_43 ih_43 =>
            intro q g2 w2 hq hr2 hlo hup hm_43 H locs ls hP hD hS hl
            refine lv_iload hx hb dX7_nextRow_43 (lv_at hl 0 rfl) ?_
            refine lv_iload_n hx hb dX7_nextRow_45 rfl (lv_at hl 4 rfl) ?_
            refine lv_icmp_ge (tgt := 63) hx hb dX7_nextRow_46 (by decide) (fun c_6 => ?_) (fun c_6 => ?_)
            · refine lv_iconst (v := 1) hx hb dX7_nextRow_63 (by decide) ?_
              have hq3 : t ≤ q := nI_dn c_6 (by omega) (by omega)
              exact q_zret hX hr hlk (by decide) (g2, w2) ⟨hr2, Or.inr rfl, fun _ => rv_up t i w w2 hk2 hlo (hup (by omega)) (fun a ha => (hrow a ha).2)⟩ (hP.sub [0, 1] rfl) (hD.sub [0, 1] (by decide) rfl) hS dX7_nextRow_64
            · have hq2 : q < t := nI_dnn c_6 (by omega) (by omega)
              refine lv_aload_n hx hb dX7_nextRow_49 rfl (lv_at hl 3 rfl) ?_
              refine va_get (D := D) (ci := 7) (v := .ref a_try) (C := RX7) (T := TX7) (N := 28) hx hb ht inX7 hown hK hP 0 rfl rfl 17 (Nat.le_of_ble_eq_true rfl) (ht _ kw_921) (fun _ h9 => h9) rfl dX7_nextRow_50 ?_
              refine lv_iload hx hb dX7_nextRow_53 (lv_at hl 0 rfl) ?_
              refine lv_iload_n hx hb dX7_nextRow_55 rfl (lv_at hl 1 rfl) ?_
              refine va_iast hx hb hK hP hD hS 1 0 rfl rfl (vp_in_nI (by omega) (by omega)) dX7_nextRow_56 (fun H locs hP hD hS => ?_)
              have hP : va_P D vwCl [(mo, .inr (7, [.ref a_now, .ref a_kep, .ref a_isk, .ref a_ref, .long ab, .long be, .int fw, .int mg, .int f1, .int f2, .ref a_cw, .ref a_row, .int rl, .ref a_lea, .ref a_sli, .ref a_lef, .ref a_bst, .ref a_try, .int lsl, .ref a_mom, .ref a_byt, .int bl, .int ta, .int tl, .int tk, .int va, .ref a_nxt, .ref a_val])), (a_try, .inl (cI, 6, .inl (upd g2 (nI q).toNatClampNeg (nI ((w i) + 1)))))] H := hP
              have hD : va_D (va_A (w_m_nextRow cI cZ cP mo a_now a_kep a_isk a_ref a_cw a_row a_lea a_sli a_lef a_bst a_try a_mom a_byt a_nxt a_val ab be fw mg f1 f2 rl lsl bl ta tl tk va g w t) sz) [(mo, .inr (7, [.ref a_now, .ref a_kep, .ref a_isk, .ref a_ref, .long ab, .long be, .int fw, .int mg, .int f1, .int f2, .ref a_cw, .ref a_row, .int rl, .ref a_lea, .ref a_sli, .ref a_lef, .ref a_bst, .ref a_try, .int lsl, .ref a_mom, .ref a_byt, .int bl, .int ta, .int tl, .int tk, .int va, .ref a_nxt, .ref a_val])), (a_try, .inl (cI, 6, .inl (upd g2 (nI q).toNatClampNeg (nI ((w i) + 1)))))] := hD
              refine lv_iinc (v := (nI (q + 1))) (lv' := [(4, .int (nI (q + 1))), (3, .int (nI ((w i) + 1))), (2, .int (nI i)), (0, .ref mo), (1, .int (nI t))]) hx hb dX7_nextRow_57 hl (k := 0) rfl (nI_1 q) (by decide) rfl (fun ls hl => ?_)
              refine lv_goto (tgt := 43) hx hb dX7_nextRow_60 (by decide) ?_
              exact ih_43 (q + 1) (upd g2 (nI q).toNatClampNeg (nI ((w i) + 1))) (fun a => if a = q then (w i) + 1 else w2 a) (by omega) (isRow_upd hr2 hq2 (by omega) (by omega)) (row_lo1 hq.1 hlo) (fun _ => row_up1 hq.1 hup) (by omega) _ _ _ hP hD hS (lv_sub hl [0, 1, 2, 3, 4] rfl)
        exact lp_43 (t + 1) i g w (by omega) hrow (fun a _ => rfl) (fun h => absurd h (Nat.lt_irrefl _)) (by omega) _ _ _ hP hD hS (lv_sub hl [0, 1, 2, 3, 4] rfl)
      · refine lv_iinc (v := (nI i - 1)) (lv' := [(2, .int (nI i - 1)), (0, .ref mo), (1, .int (nI t))]) hx hb dX7_nextRow_19 hl (k := 0) rfl (sub_1 i) (by decide) rfl (fun ls hl => ?_)
        refine lv_goto (tgt := 4) hx hb dX7_nextRow_22 (by decide) ?_
        exact ih_4 i (by omega) (fun a h1 h2 => by rcases Nat.lt_or_ge i a with q | q; exact h7 a q h2; rw [show a = i by omega]; exact row_7 hrow hk2 c_4) (by omega) _ _ _ hP hD hS (lv_sub hl [0, 1, 2] rfl)
  exact lp_4 (t + 1) t (Nat.le_refl _) (fun a h1 h2 => absurd h2 (Nat.not_lt.mpr h1)) (by omega) _ _ _ hP hD hS (lv_sub hl [0, 1, 2] rfl)
abbrev w_m_practice (cI cZ cP : ClassId) (mo : Nat) (a_now : Nat) (a_kep : Nat) (a_isk : Nat) (a_ref : Nat) (a_cw : Nat) (a_row : Nat) (a_lea : Nat) (a_sli : Nat) (a_lef : Nat) (a_bst : Nat) (a_try : Nat) (a_mom : Nat) (a_byt : Nat) (a_nxt : Nat) (a_val : Nat) (p0 : Int32) (p1 : Int32) : va_W := [(mo, .inr (7, [.ref a_now, .ref a_kep, .ref a_isk, .ref a_ref, .long 0, .long 1, .int 0, .int 0, .int 0, .int 0, .ref a_cw, .ref a_row, .int 0, .ref a_lea, .ref a_sli, .ref a_lef, .ref a_bst, .ref a_try, .int 0, .ref a_mom, .ref a_byt, .int 0, .int 0, .int 0, .int 0, .int 0, .ref a_nxt, .ref a_val])), (a_now, .inl (cI, 221, .inl nw0)), (a_ref, .inl (cI, 3, .inl (fun _ => 0))), (a_sli, .inl (cI, 8, .inl (fun _ => 0))), (a_lef, .inl (cI, 8, .inl (fun _ => 0))), (a_bst, .inl (cI, 6, .inl (fun _ => 0))), (a_try, .inl (cI, 6, .inl (fun _ => 0)))]
set_option maxHeartbeats 4000000 in
set_option maxRecDepth 100000 in
theorem c_m_practice (l : Launch) (D : va_G) (cI cZ cP : ClassId) (sa : Nat → Nat) (mo : Nat) (a_now : Nat) (a_kep : Nat) (a_isk : Nat) (a_ref : Nat) (a_cw : Nat) (a_row : Nat) (a_lea : Nat) (a_sli : Nat) (a_lef : Nat) (a_bst : Nat) (a_try : Nat) (a_mom : Nat) (a_byt : Nat) (a_nxt : Nat) (a_val : Nat) (p0 : Int32) (p1 : Int32) (sz : Nat) : Met l yX7_practice (qW yX7_practice cX7_practice 6 (some .int)) ({ frames := 2, cells := 0, slots := 0, locals := 43 } : Room) (qP D (TY cI cZ cP) sa [.ref mo, .int p0, .int p1] (w_m_practice cI cZ cP mo a_now a_kep a_isk a_ref a_cw a_row a_lea a_sli a_lef a_bst a_try a_mom a_byt a_nxt a_val p0 p1) sz) (qQi D (w_m_practice cI cZ cP mo a_now a_kep a_isk a_ref a_cw a_row a_lea a_sli a_lef a_bst a_try a_mom a_byt a_nxt a_val p0 p1) sz (fun (r : Int32) (_ : Unit) => r = sp_practice p0 p1) (fun _ => [])) 0 0 (va_A (w_m_practice cI cZ cP mo a_now a_kep a_isk a_ref a_cw a_row a_lea a_sli a_lef a_bst a_try a_mom a_byt a_nxt a_val p0 p1) sz) := by
  refine q_enter (by decide) (Nat.le_of_ble_eq_true rfl) ?_
  intro p e s m below meth c ls hX hr hlk hnm hE hK hP hD hS hA hl
  obtain ⟨hx, hb, hml, hown, ht⟩ := id hX
  have hl : lv_has ls 6 [(0, .ref mo), (1, .int p0), (2, .int p1)] := hl
  refine lv_iload_n hx hb dX7_practice_0 rfl (lv_at hl 1 rfl) ?_
  refine lv_i2l (v := (p0.toInt64)) hx hb dX7_practice_1 rfl ?_
  refine lv_lconst (v := 0) hx hb dX7_practice_2 (by decide) ?_
  refine q_l (z := ((0 : Int32).toInt64)) (by decide) ?_
  refine lv_ldc2 hx hb hown (ht _ kw_1224) dX7_practice_3 ?_
  refine q_l (z := ((6 : Int32).toInt64)) (by decide) ?_
  refine q_Si (wr := [(mo, .inr (7, [.ref a_now, .ref a_kep, .ref a_isk, .ref a_ref, .long 0, .long 1, .int 0, .int 0, .int 0, .int 0, .ref a_cw, .ref a_row, .int 0, .ref a_lea, .ref a_sli, .ref a_lef, .ref a_bst, .ref a_try, .int 0, .ref a_mom, .ref a_byt, .int 0, .int 0, .int 0, .int 0, .int 0, .ref a_nxt, .ref a_val])), (a_now, .inl (cI, 221, .inl nw0)), (a_ref, .inl (cI, 3, .inl (fun _ => 0))), (a_sli, .inl (cI, 8, .inl (fun _ => 0))), (a_lef, .inl (cI, 8, .inl (fun _ => 0))), (a_bst, .inl (cI, 6, .inl (fun _ => 0))), (a_try, .inl (cI, 6, .inl (fun _ => 0)))]) [] [0, 1, 2, 3, 4, 5, 6] hX hE hK hP hD hS hA hl.1 lk_X7_68 (c_m_in l D cI cZ cP sa p0 0 6 _) rfl rfl rfl rfl (by decide) rfl rfl (Nat.le_of_ble_eq_true rfl) rfl rfl ⟨Nat.le_of_ble_eq_true rfl, Nat.le_of_ble_eq_true rfl⟩ ⟨Nat.le_of_ble_eq_true rfl, Nat.le_of_ble_eq_true rfl⟩ dX7_practice_6 (fun x_1 _ H locs h_1 hP hD hS => ?_)
  have hP : va_P D vwCl [(mo, .inr (7, [.ref a_now, .ref a_kep, .ref a_isk, .ref a_ref, .long 0, .long 1, .int 0, .int 0, .int 0, .int 0, .ref a_cw, .ref a_row, .int 0, .ref a_lea, .ref a_sli, .ref a_lef, .ref a_bst, .ref a_try, .int 0, .ref a_mom, .ref a_byt, .int 0, .int 0, .int 0, .int 0, .int 0, .ref a_nxt, .ref a_val])), (a_now, .inl (cI, 221, .inl nw0)), (a_ref, .inl (cI, 3, .inl (fun _ => 0))), (a_sli, .inl (cI, 8, .inl (fun _ => 0))), (a_lef, .inl (cI, 8, .inl (fun _ => 0))), (a_bst, .inl (cI, 6, .inl (fun _ => 0))), (a_try, .inl (cI, 6, .inl (fun _ => 0)))] H := hP
  have hD : va_D (va_A (w_m_practice cI cZ cP mo a_now a_kep a_isk a_ref a_cw a_row a_lea a_sli a_lef a_bst a_try a_mom a_byt a_nxt a_val p0 p1) sz) [(mo, .inr (7, [.ref a_now, .ref a_kep, .ref a_isk, .ref a_ref, .long 0, .long 1, .int 0, .int 0, .int 0, .int 0, .ref a_cw, .ref a_row, .int 0, .ref a_lea, .ref a_sli, .ref a_lef, .ref a_bst, .ref a_try, .int 0, .ref a_mom, .ref a_byt, .int 0, .int 0, .int 0, .int 0, .int 0, .ref a_nxt, .ref a_val])), (a_now, .inl (cI, 221, .inl nw0)), (a_ref, .inl (cI, 3, .inl (fun _ => 0))), (a_sli, .inl (cI, 8, .inl (fun _ => 0))), (a_lef, .inl (cI, 8, .inl (fun _ => 0))), (a_bst, .inl (cI, 6, .inl (fun _ => 0))), (a_try, .inl (cI, 6, .inl (fun _ => 0)))] := hD
  rcases Classical.em (0 ≤ p0 ∧ p0 ≤ 6) with c_1 | c_1
  · rw [if_pos c_1] at h_1; subst h_1
    refine lv_if_eq (tgt := 17) hx hb dX7_practice_9 (by decide) (fun c_2 => absurd c_2 (by decide)) (fun _ => ?_)
    refine lv_iload_n hx hb dX7_practice_12 rfl (lv_at hl 2 rfl) ?_
    refine lv_iconst (v := (-1)) hx hb dX7_practice_13 (by decide) ?_
    refine lv_icmp_ge (tgt := 24) hx hb dX7_practice_14 (by decide) (fun c_3 => ?_) (fun c_3 => ?_)
    · obtain ⟨t, hti, c_t⟩ := nI_63 (n := 6) c_1 (by decide)
      refine lv_aload_n hx hb dX7_practice_24 rfl (lv_at hl 0 rfl) ?_
      refine q_Vv (wr := [(a_ref, .inl (cI, 3, .inl (fun _ => 0))), (a_lef, .inl (cI, 8, .inl (fun _ => 0))), (a_bst, .inl (cI, 6, .inl (fun _ => 0))), (a_try, .inl (cI, 6, .inl (fun _ => 0)))]) [0, 1, 3] [2, 4, 5, 6] hX hE hK hP hD hS hA hl.1 lk_X7_232 (c_m_laySlips l D cI cZ cP sa mo a_now a_kep a_isk a_ref a_cw a_row a_lea a_sli a_lef a_bst a_try a_mom a_byt a_nxt a_val _) rfl rfl rfl rfl (by decide) 0 7 rfl rfl rfl rfl (Nat.le_of_ble_eq_true rfl) rfl rfl ⟨Nat.le_of_ble_eq_true rfl, Nat.le_of_ble_eq_true rfl⟩ ⟨Nat.le_of_ble_eq_true rfl, Nat.le_of_ble_eq_true rfl⟩ dX7_practice_25 (fun _ H locs h_4 hP hD hS => ?_)
      have hP : va_P D vwCl [(a_ref, .inl (cI, 3, .inl (fun _ => 0))), (a_lef, .inl (cI, 8, .inl (fun _ => 0))), (a_bst, .inl (cI, 6, .inl (fun _ => 0))), (a_try, .inl (cI, 6, .inl (fun _ => 0))), (mo, .inr (7, [.ref a_now, .ref a_kep, .ref a_isk, .ref a_ref, .long 0, .long 1, .int 0, .int 0, .int 0, .int 0, .ref a_cw, .ref a_row, .int 0, .ref a_lea, .ref a_sli, .ref a_lef, .ref a_bst, .ref a_try, .int 0, .ref a_mom, .ref a_byt, .int 0, .int 0, .int 0, .int 0, .int 0, .ref a_nxt, .ref a_val])), (a_now, .inl (cI, 221, .inl nw0)), (a_sli, .inl (cI, 8, .inl (fun _ => 0)))] H := hP
      have hD : va_D (va_A (w_m_practice cI cZ cP mo a_now a_kep a_isk a_ref a_cw a_row a_lea a_sli a_lef a_bst a_try a_mom a_byt a_nxt a_val p0 p1) sz) [(a_ref, .inl (cI, 3, .inl (fun _ => 0))), (a_lef, .inl (cI, 8, .inl (fun _ => 0))), (a_bst, .inl (cI, 6, .inl (fun _ => 0))), (a_try, .inl (cI, 6, .inl (fun _ => 0))), (mo, .inr (7, [.ref a_now, .ref a_kep, .ref a_isk, .ref a_ref, .long 0, .long 1, .int 0, .int 0, .int 0, .int 0, .ref a_cw, .ref a_row, .int 0, .ref a_lea, .ref a_sli, .ref a_lef, .ref a_bst, .ref a_try, .int 0, .ref a_mom, .ref a_byt, .int 0, .int 0, .int 0, .int 0, .int 0, .ref a_nxt, .ref a_val])), (a_now, .inl (cI, 221, .inl nw0)), (a_sli, .inl (cI, 8, .inl (fun _ => 0)))] := hD
      refine lv_aload_n hx hb dX7_practice_28 rfl (lv_at hl 0 rfl) ?_
      refine lv_ldc hx hb hown (ht _ kw_1131) dX7_practice_29 ?_
      refine va_put (D := D) (ci := 7) (v := .int 1000000) (ty := .int) (C := RX7) (T := TX7) (N := 28) hx hb ht inX7 tyX7 tyX7_ok nmX7 hown hK hP hD hS 4 rfl rfl 18 (Nat.le_of_ble_eq_true rfl) (ht _ kw_922) (fun _ h9 => h9) rfl (by decide +kernel) rfl rfl (Nat.le_of_ble_eq_true rfl) dX7_practice_31 (fun H locs hP hD hS => ?_)
      have hP : va_P D vwCl [(a_ref, .inl (cI, 3, .inl (fun _ => 0))), (a_lef, .inl (cI, 8, .inl (fun _ => 0))), (a_bst, .inl (cI, 6, .inl (fun _ => 0))), (a_try, .inl (cI, 6, .inl (fun _ => 0))), (mo, .inr (7, [.ref a_now, .ref a_kep, .ref a_isk, .ref a_ref, .long 0, .long 1, .int 0, .int 0, .int 0, .int 0, .ref a_cw, .ref a_row, .int 0, .ref a_lea, .ref a_sli, .ref a_lef, .ref a_bst, .ref a_try, .int 1000000, .ref a_mom, .ref a_byt, .int 0, .int 0, .int 0, .int 0, .int 0, .ref a_nxt, .ref a_val])), (a_now, .inl (cI, 221, .inl nw0)), (a_sli, .inl (cI, 8, .inl (fun _ => 0)))] H := hP
      have hD : va_D (va_A (w_m_practice cI cZ cP mo a_now a_kep a_isk a_ref a_cw a_row a_lea a_sli a_lef a_bst a_try a_mom a_byt a_nxt a_val p0 p1) sz) [(a_ref, .inl (cI, 3, .inl (fun _ => 0))), (a_lef, .inl (cI, 8, .inl (fun _ => 0))), (a_bst, .inl (cI, 6, .inl (fun _ => 0))), (a_try, .inl (cI, 6, .inl (fun _ => 0))), (mo, .inr (7, [.ref a_now, .ref a_kep, .ref a_isk, .ref a_ref, .long 0, .long 1, .int 0, .int 0, .int 0, .int 0, .ref a_cw, .ref a_row, .int 0, .ref a_lea, .ref a_sli, .ref a_lef, .ref a_bst, .ref a_try, .int 1000000, .ref a_mom, .ref a_byt, .int 0, .int 0, .int 0, .int 0, .int 0, .ref a_nxt, .ref a_val])), (a_now, .inl (cI, 221, .inl nw0)), (a_sli, .inl (cI, 8, .inl (fun _ => 0)))] := hD
      refine lv_iconst (v := 0) hx hb dX7_practice_34 (by decide) ?_
      refine lv_istore_n (lv' := [(3, .int 0), (0, .ref mo), (1, .int p0), (2, .int p1)]) hx hb dX7_practice_35 rfl hl (by decide) rfl (fun ls hl => ?_)
      have lp_36 : ∀ (n_36 : Nat) (k : Nat), (k ≤ t) → (t + 1 ≤ k + n_36) → ∀ (H : Heap) (locs : List Loc) (ls : Array Slot), va_P D vwCl [(mo, .inr (7, [.ref a_now, .ref a_kep, .ref a_isk, .ref a_ref, .long 0, .long 1, .int 0, .int 0, .int 0, .int 0, .ref a_cw, .ref a_row, .int 0, .ref a_lea, .ref a_sli, .ref a_lef, .ref a_bst, .ref a_try, .int 1000000, .ref a_mom, .ref a_byt, .int 0, .int 0, .int 0, .int 0, .int 0, .ref a_nxt, .ref a_val])), (a_now, .inl (cI, 221, .inl nw0)), (a_ref, .inl (cI, 3, .inl (fun _ => 0))), (a_sli, .inl (cI, 8, .inl (fun _ => 0))), (a_lef, .inl (cI, 8, .inl (fun _ => 0))), (a_bst, .inl (cI, 6, .inl (fun _ => 0))), (a_try, .inl (cI, 6, .inl (fun _ => 0)))] H → va_D (va_A (w_m_practice cI cZ cP mo a_now a_kep a_isk a_ref a_cw a_row a_lea a_sli a_lef a_bst a_try a_mom a_byt a_nxt a_val p0 p1) sz) [(mo, .inr (7, [.ref a_now, .ref a_kep, .ref a_isk, .ref a_ref, .long 0, .long 1, .int 0, .int 0, .int 0, .int 0, .ref a_cw, .ref a_row, .int 0, .ref a_lea, .ref a_sli, .ref a_lef, .ref a_bst, .ref a_try, .int 1000000, .ref a_mom, .ref a_byt, .int 0, .int 0, .int 0, .int 0, .int 0, .ref a_nxt, .ref a_val])), (a_now, .inl (cI, 221, .inl nw0)), (a_ref, .inl (cI, 3, .inl (fun _ => 0))), (a_sli, .inl (cI, 8, .inl (fun _ => 0))), (a_lef, .inl (cI, 8, .inl (fun _ => 0))), (a_bst, .inl (cI, 6, .inl (fun _ => 0))), (a_try, .inl (cI, 6, .inl (fun _ => 0)))] → va_S (va_A (w_m_practice cI cZ cP mo a_now a_kep a_isk a_ref a_cw a_row a_lea a_sli a_lef a_bst a_try a_mom a_byt a_nxt a_val p0 p1) sz) s.heap H locs → lv_has ls 6 [(3, .int (nI k)), (0, .ref mo), (1, .int p0), (2, .int p1)] → W p l e ({ frames := 2, cells := 0, slots := 0, locals := 43 } : Room) s m ([.ref mo, .int p0, .int p1] : List Value).toArray below meth c H locs 0 0 (MQ below (qQi D (w_m_practice cI cZ cP mo a_now a_kep a_isk a_ref a_cw a_row a_lea a_sli a_lef a_bst a_try a_mom a_byt a_nxt a_val p0 p1) sz (fun (r : Int32) (_ : Unit) => r = sp_practice p0 p1) (fun _ => [])) ([.ref mo, .int p0, .int p1] : List Value).toArray s 0 0 (va_A (w_m_practice cI cZ cP mo a_now a_kep a_isk a_ref a_cw a_row a_lea a_sli a_lef a_bst a_try a_mom a_byt a_nxt a_val p0 p1) sz)) (F0 m 36 ls []) := by
        intro n_36
        induction n_36 with
        | zero => intro k hk hm_36; exact absurd hm_36 (by omega)
        | succ n_36 ih_36 =>
          intro k hk hm_36 H locs ls hP hD hS hl
          refine lv_iload_n hx hb dX7_practice_36 rfl (lv_at hl 0 rfl) ?_
          refine lv_iload_n hx hb dX7_practice_37 rfl (lv_at hl 2 rfl) ?_
          refine q_i (z := (nI t)) c_t ?_
          refine lv_icmp_ge (tgt := 54) hx hb dX7_practice_38 (by decide) (fun c_5 => ?_) (fun c_5 => ?_)
          · refine lv_iconst (v := 1) hx hb dX7_practice_54 (by decide) ?_
            refine lv_istore_n (lv' := [(3, .int 1), (0, .ref mo), (1, .int p0), (2, .int p1)]) hx hb dX7_practice_55 rfl hl (by decide) rfl (fun ls hl => ?_)
            refine lv_iload_n hx hb dX7_practice_56 rfl (lv_at hl 0 rfl) ?_
            refine lv_if_eq (tgt := 136) hx hb dX7_practice_57 (by decide) (fun c_6 => absurd c_6 (by decide)) (fun _ => ?_)
            refine lv_aload_n hx hb dX7_practice_60 rfl (lv_at hl 1 rfl) ?_
            refine lv_iload_n hx hb dX7_practice_61 rfl (lv_at hl 2 rfl) ?_
            refine q_i (z := (nI t)) c_t ?_
            refine q_Vi (wr := [(a_now, .inl (cI, 221, .inl nw0)), (a_ref, .inl (cI, 3, .inl (fun _ => 0))), (a_bst, .inl (cI, 6, .inl (fun _ => 0)))]) [0, 3, 4, 6] [1, 2, 5] hX hE hK hP hD hS hA hl.1 lk_X7_238 (c_m_slipsBy l D cI cZ cP sa mo a_now a_kep a_isk a_ref a_cw a_row a_lea a_sli a_lef a_bst a_try a_mom a_byt a_nxt a_val 0 1 0 0 0 0 0 1000000 0 0 0 0 0 (fun _ => 0) (fun _ => 0) t (by omega) (isRow_0 _) _) rfl rfl rfl rfl (by decide) 0 7 rfl rfl rfl rfl (Nat.le_of_ble_eq_true rfl) rfl rfl ⟨Nat.le_of_ble_eq_true rfl, Nat.le_of_ble_eq_true rfl⟩ ⟨Nat.le_of_ble_eq_true rfl, Nat.le_of_ble_eq_true rfl⟩ dX7_practice_62 (fun x_7 _ H locs h_7 hP hD hS => ?_)
            have hP : va_P D vwCl [(a_now, .inl (cI, 221, .inl nw0)), (a_ref, .inl (cI, 3, .inl (fun _ => 0))), (a_bst, .inl (cI, 6, .inl (fun _ => 0))), (mo, .inr (7, [.ref a_now, .ref a_kep, .ref a_isk, .ref a_ref, .long 0, .long 1, .int 0, .int 0, .int 0, .int 0, .ref a_cw, .ref a_row, .int 0, .ref a_lea, .ref a_sli, .ref a_lef, .ref a_bst, .ref a_try, .int 1000000, .ref a_mom, .ref a_byt, .int 0, .int 0, .int 0, .int 0, .int 0, .ref a_nxt, .ref a_val])), (a_sli, .inl (cI, 8, .inl (fun _ => 0))), (a_lef, .inl (cI, 8, .inl (fun _ => 0))), (a_try, .inl (cI, 6, .inl (fun _ => 0)))] H := hP
            have hD : va_D (va_A (w_m_practice cI cZ cP mo a_now a_kep a_isk a_ref a_cw a_row a_lea a_sli a_lef a_bst a_try a_mom a_byt a_nxt a_val p0 p1) sz) [(a_now, .inl (cI, 221, .inl nw0)), (a_ref, .inl (cI, 3, .inl (fun _ => 0))), (a_bst, .inl (cI, 6, .inl (fun _ => 0))), (mo, .inr (7, [.ref a_now, .ref a_kep, .ref a_isk, .ref a_ref, .long 0, .long 1, .int 0, .int 0, .int 0, .int 0, .ref a_cw, .ref a_row, .int 0, .ref a_lea, .ref a_sli, .ref a_lef, .ref a_bst, .ref a_try, .int 1000000, .ref a_mom, .ref a_byt, .int 0, .int 0, .int 0, .int 0, .int 0, .ref a_nxt, .ref a_val])), (a_sli, .inl (cI, 8, .inl (fun _ => 0))), (a_lef, .inl (cI, 8, .inl (fun _ => 0))), (a_try, .inl (cI, 6, .inl (fun _ => 0)))] := hD
            subst h_7
            refine lv_istore (lv' := [(4, .int 0), (3, .int 1), (0, .ref mo), (1, .int p0), (2, .int p1)]) hx hb dX7_practice_65 hl (by decide) rfl (fun ls hl => ?_)
            refine lv_iconst (v := 0) hx hb dX7_practice_67 (by decide) ?_
            refine lv_istore (lv' := [(5, .int 0), (4, .int 0), (3, .int 1), (0, .ref mo), (1, .int p0), (2, .int p1)]) hx hb dX7_practice_68 hl (by decide) rfl (fun ls hl => ?_)
            have lp_70 : ∀ (n_70 : Nat) (k2 : Nat), (k2 ≤ t) → (t + 1 ≤ k2 + n_70) → ∀ (H : Heap) (locs : List Loc) (ls : Array Slot), va_P D vwCl [(mo, .inr (7, [.ref a_now, .ref a_kep, .ref a_isk, .ref a_ref, .long 0, .long 1, .int 0, .int 0, .int 0, .int 0, .ref a_cw, .ref a_row, .int 0, .ref a_lea, .ref a_sli, .ref a_lef, .ref a_bst, .ref a_try, .int 1000000, .ref a_mom, .ref a_byt, .int 0, .int 0, .int 0, .int 0, .int 0, .ref a_nxt, .ref a_val])), (a_now, .inl (cI, 221, .inl nw0)), (a_ref, .inl (cI, 3, .inl (fun _ => 0))), (a_sli, .inl (cI, 8, .inl (fun _ => 0))), (a_lef, .inl (cI, 8, .inl (fun _ => 0))), (a_bst, .inl (cI, 6, .inl (fun _ => 0))), (a_try, .inl (cI, 6, .inl (fun _ => 0)))] H → va_D (va_A (w_m_practice cI cZ cP mo a_now a_kep a_isk a_ref a_cw a_row a_lea a_sli a_lef a_bst a_try a_mom a_byt a_nxt a_val p0 p1) sz) [(mo, .inr (7, [.ref a_now, .ref a_kep, .ref a_isk, .ref a_ref, .long 0, .long 1, .int 0, .int 0, .int 0, .int 0, .ref a_cw, .ref a_row, .int 0, .ref a_lea, .ref a_sli, .ref a_lef, .ref a_bst, .ref a_try, .int 1000000, .ref a_mom, .ref a_byt, .int 0, .int 0, .int 0, .int 0, .int 0, .ref a_nxt, .ref a_val])), (a_now, .inl (cI, 221, .inl nw0)), (a_ref, .inl (cI, 3, .inl (fun _ => 0))), (a_sli, .inl (cI, 8, .inl (fun _ => 0))), (a_lef, .inl (cI, 8, .inl (fun _ => 0))), (a_bst, .inl (cI, 6, .inl (fun _ => 0))), (a_try, .inl (cI, 6, .inl (fun _ => 0)))] → va_S (va_A (w_m_practice cI cZ cP mo a_now a_kep a_isk a_ref a_cw a_row a_lea a_sli a_lef a_bst a_try a_mom a_byt a_nxt a_val p0 p1) sz) s.heap H locs → lv_has ls 6 [(5, .int (nI k2)), (4, .int 0), (3, .int 1), (0, .ref mo), (1, .int p0), (2, .int p1)] → W p l e ({ frames := 2, cells := 0, slots := 0, locals := 43 } : Room) s m ([.ref mo, .int p0, .int p1] : List Value).toArray below meth c H locs 0 0 (MQ below (qQi D (w_m_practice cI cZ cP mo a_now a_kep a_isk a_ref a_cw a_row a_lea a_sli a_lef a_bst a_try a_mom a_byt a_nxt a_val p0 p1) sz (fun (r : Int32) (_ : Unit) => r = sp_practice p0 p1) (fun _ => [])) ([.ref mo, .int p0, .int p1] : List Value).toArray s 0 0 (va_A (w_m_practice cI cZ cP mo a_now a_kep a_isk a_ref a_cw a_row a_lea a_sli a_lef a_bst a_try a_mom a_byt a_nxt a_val p0 p1) sz)) (F0 m 70 ls []) := by
              intro n_70
              induction n_70 with
              | zero => intro k2 hk3 hm_70; exact absurd hm_70 (by omega)
              | succ n_70 ih_70 =>
                intro k2 hk3 hm_70 H locs ls hP hD hS hl
                refine lv_iload hx hb dX7_practice_70 (lv_at hl 0 rfl) ?_
                refine lv_iload_n hx hb dX7_practice_72 rfl (lv_at hl 4 rfl) ?_
                refine q_i (z := (nI t)) c_t ?_
                refine lv_icmp_ge (tgt := 105) hx hb dX7_practice_73 (by decide) (fun c_8 => ?_) (fun c_8 => ?_)
                · refine lv_aload_n hx hb dX7_practice_105 rfl (lv_at hl 3 rfl) ?_
                  refine lv_iload hx hb dX7_practice_106 (lv_at hl 1 rfl) ?_
                  refine lv_aload_n hx hb dX7_practice_108 rfl (lv_at hl 3 rfl) ?_
                  refine va_get (D := D) (ci := 7) (v := .int 1000000) (C := RX7) (T := TX7) (N := 28) hx hb ht inX7 hown hK hP 0 rfl rfl 18 (Nat.le_of_ble_eq_true rfl) (ht _ kw_922) (fun _ h9 => h9) rfl dX7_practice_109 ?_
                  refine lv_icmp_ge (tgt := 120) hx hb dX7_practice_112 (by decide) (fun c_9 => absurd c_9 (by decide)) (fun _ => ?_)
                  refine lv_iload hx hb dX7_practice_115 (lv_at hl 1 rfl) ?_
                  refine lv_goto (tgt := 124) hx hb dX7_practice_117 (by decide) ?_
                  refine va_put (D := D) (ci := 7) (v := .int 0) (ty := .int) (C := RX7) (T := TX7) (N := 28) hx hb ht inX7 tyX7 tyX7_ok nmX7 hown hK hP hD hS 0 rfl rfl 18 (Nat.le_of_ble_eq_true rfl) (ht _ kw_922) (fun _ h9 => h9) rfl (by decide +kernel) rfl rfl (Nat.le_of_ble_eq_true rfl) dX7_practice_124 (fun H locs hP hD hS => ?_)
                  have hP : va_P D vwCl [(mo, .inr (7, [.ref a_now, .ref a_kep, .ref a_isk, .ref a_ref, .long 0, .long 1, .int 0, .int 0, .int 0, .int 0, .ref a_cw, .ref a_row, .int 0, .ref a_lea, .ref a_sli, .ref a_lef, .ref a_bst, .ref a_try, .int 0, .ref a_mom, .ref a_byt, .int 0, .int 0, .int 0, .int 0, .int 0, .ref a_nxt, .ref a_val])), (a_now, .inl (cI, 221, .inl nw0)), (a_ref, .inl (cI, 3, .inl (fun _ => 0))), (a_sli, .inl (cI, 8, .inl (fun _ => 0))), (a_lef, .inl (cI, 8, .inl (fun _ => 0))), (a_bst, .inl (cI, 6, .inl (fun _ => 0))), (a_try, .inl (cI, 6, .inl (fun _ => 0)))] H := hP
                  have hD : va_D (va_A (w_m_practice cI cZ cP mo a_now a_kep a_isk a_ref a_cw a_row a_lea a_sli a_lef a_bst a_try a_mom a_byt a_nxt a_val p0 p1) sz) [(mo, .inr (7, [.ref a_now, .ref a_kep, .ref a_isk, .ref a_ref, .long 0, .long 1, .int 0, .int 0, .int 0, .int 0, .ref a_cw, .ref a_row, .int 0, .ref a_lea, .ref a_sli, .ref a_lef, .ref a_bst, .ref a_try, .int 0, .ref a_mom, .ref a_byt, .int 0, .int 0, .int 0, .int 0, .int 0, .ref a_nxt, .ref a_val])), (a_now, .inl (cI, 221, .inl nw0)), (a_ref, .inl (cI, 3, .inl (fun _ => 0))), (a_sli, .inl (cI, 8, .inl (fun _ => 0))), (a_lef, .inl (cI, 8, .inl (fun _ => 0))), (a_bst, .inl (cI, 6, .inl (fun _ => 0))), (a_try, .inl (cI, 6, .inl (fun _ => 0)))] := hD
                  refine lv_aload_n hx hb dX7_practice_127 rfl (lv_at hl 3 rfl) ?_
                  refine lv_iload_n hx hb dX7_practice_128 rfl (lv_at hl 4 rfl) ?_
                  refine q_i (z := (nI t)) c_t ?_
                  refine q_Vi (wr := [(a_now, .inl (cI, 221, .inl nw0)), (a_ref, .inl (cI, 3, .inl (fun _ => 0))), (a_sli, .inl (cI, 8, .inl (fun _ => 0))), (a_lef, .inl (cI, 8, .inl (fun _ => 0))), (a_bst, .inl (cI, 6, .inl (fun _ => 0)))]) [0, 6] [1, 2, 3, 4, 5] hX hE hK hP hD hS hA hl.1 lk_X7_241 (c_m_nextRow l D cI cZ cP sa mo a_now a_kep a_isk a_ref a_cw a_row a_lea a_sli a_lef a_bst a_try a_mom a_byt a_nxt a_val 0 1 0 0 0 0 0 0 0 0 0 0 0 (fun _ => 0) (fun _ => 0) t (by omega) (isRow_0 _) _) rfl rfl rfl rfl (by decide) 0 7 rfl rfl rfl rfl (Nat.le_of_ble_eq_true rfl) rfl rfl ⟨Nat.le_of_ble_eq_true rfl, Nat.le_of_ble_eq_true rfl⟩ ⟨Nat.le_of_ble_eq_true rfl, Nat.le_of_ble_eq_true rfl⟩ dX7_practice_129 (fun x_10 u_10 H locs h_10 hP hD hS => ?_)
                  have hP : va_P D vwCl [(a_now, .inl (cI, 221, .inl nw0)), (a_ref, .inl (cI, 3, .inl (fun _ => 0))), (a_sli, .inl (cI, 8, .inl (fun _ => 0))), (a_lef, .inl (cI, 8, .inl (fun _ => 0))), (a_bst, .inl (cI, 6, .inl (fun _ => 0))), (mo, .inr (7, [.ref a_now, .ref a_kep, .ref a_isk, .ref a_ref, .long 0, .long 1, .int 0, .int 0, .int 0, .int 0, .ref a_cw, .ref a_row, .int 0, .ref a_lea, .ref a_sli, .ref a_lef, .ref a_bst, .ref a_try, .int 0, .ref a_mom, .ref a_byt, .int 0, .int 0, .int 0, .int 0, .int 0, .ref a_nxt, .ref a_val])), (a_try, .inl (cI, 6, .inl u_10.1))] H := hP
                  have hD : va_D (va_A (w_m_practice cI cZ cP mo a_now a_kep a_isk a_ref a_cw a_row a_lea a_sli a_lef a_bst a_try a_mom a_byt a_nxt a_val p0 p1) sz) [(a_now, .inl (cI, 221, .inl nw0)), (a_ref, .inl (cI, 3, .inl (fun _ => 0))), (a_sli, .inl (cI, 8, .inl (fun _ => 0))), (a_lef, .inl (cI, 8, .inl (fun _ => 0))), (a_bst, .inl (cI, 6, .inl (fun _ => 0))), (mo, .inr (7, [.ref a_now, .ref a_kep, .ref a_isk, .ref a_ref, .long 0, .long 1, .int 0, .int 0, .int 0, .int 0, .ref a_cw, .ref a_row, .int 0, .ref a_lea, .ref a_sli, .ref a_lef, .ref a_bst, .ref a_try, .int 0, .ref a_mom, .ref a_byt, .int 0, .int 0, .int 0, .int 0, .int 0, .ref a_nxt, .ref a_val])), (a_try, .inl (cI, 6, .inl u_10.1))] := hD
                  refine lv_istore_n (lv' := [(3, .int x_10), (5, .int (nI k2)), (4, .int 0), (0, .ref mo), (1, .int p0), (2, .int p1)]) hx hb dX7_practice_132 rfl hl (by decide) rfl (fun ls hl => ?_)
                  refine lv_goto (tgt := 56) hx hb dX7_practice_133 (by decide) ?_
                  have lp_56 : ∀ (n_56 : Nat) (z : Int32) (g : Nat → Int32) (w : Nat → Nat), (isRow t g w) → (z = 0 ∨ z = 1) → (0 < n_56 ∧ (z = 1 → 8 ^ t < rv t w + n_56)) → ∀ (H : Heap) (locs : List Loc) (ls : Array Slot), va_P D vwCl [(mo, .inr (7, [.ref a_now, .ref a_kep, .ref a_isk, .ref a_ref, .long 0, .long 1, .int 0, .int 0, .int 0, .int 0, .ref a_cw, .ref a_row, .int 0, .ref a_lea, .ref a_sli, .ref a_lef, .ref a_bst, .ref a_try, .int 0, .ref a_mom, .ref a_byt, .int 0, .int 0, .int 0, .int 0, .int 0, .ref a_nxt, .ref a_val])), (a_now, .inl (cI, 221, .inl nw0)), (a_ref, .inl (cI, 3, .inl (fun _ => 0))), (a_sli, .inl (cI, 8, .inl (fun _ => 0))), (a_lef, .inl (cI, 8, .inl (fun _ => 0))), (a_bst, .inl (cI, 6, .inl (fun _ => 0))), (a_try, .inl (cI, 6, .inl g))] H → va_D (va_A (w_m_practice cI cZ cP mo a_now a_kep a_isk a_ref a_cw a_row a_lea a_sli a_lef a_bst a_try a_mom a_byt a_nxt a_val p0 p1) sz) [(mo, .inr (7, [.ref a_now, .ref a_kep, .ref a_isk, .ref a_ref, .long 0, .long 1, .int 0, .int 0, .int 0, .int 0, .ref a_cw, .ref a_row, .int 0, .ref a_lea, .ref a_sli, .ref a_lef, .ref a_bst, .ref a_try, .int 0, .ref a_mom, .ref a_byt, .int 0, .int 0, .int 0, .int 0, .int 0, .ref a_nxt, .ref a_val])), (a_now, .inl (cI, 221, .inl nw0)), (a_ref, .inl (cI, 3, .inl (fun _ => 0))), (a_sli, .inl (cI, 8, .inl (fun _ => 0))), (a_lef, .inl (cI, 8, .inl (fun _ => 0))), (a_bst, .inl (cI, 6, .inl (fun _ => 0))), (a_try, .inl (cI, 6, .inl g))] → va_S (va_A (w_m_practice cI cZ cP mo a_now a_kep a_isk a_ref a_cw a_row a_lea a_sli a_lef a_bst a_try a_mom a_byt a_nxt a_val p0 p1) sz) s.heap H locs → lv_has ls 6 [(3, .int z), (0, .ref mo), (1, .int p0), (2, .int p1)] → W p l e ({ frames := 2, cells := 0, slots := 0, locals := 43 } : Room) s m ([.ref mo, .int p0, .int p1] : List Value).toArray below meth c H locs 0 0 (MQ below (qQi D (w_m_practice cI cZ cP mo a_now a_kep a_isk a_ref a_cw a_row a_lea a_sli a_lef a_bst a_try a_mom a_byt a_nxt a_val p0 p1) sz (fun (r : Int32) (_ : Unit) => r = sp_practice p0 p1) (fun _ => [])) ([.ref mo, .int p0, .int p1] : List Value).toArray s 0 0 (va_A (w_m_practice cI cZ cP mo a_now a_kep a_isk a_ref a_cw a_row a_lea a_sli a_lef a_bst a_try a_mom a_byt a_nxt a_val p0 p1) sz)) (F0 m 56 ls []) := by
                    intro n_56
                    induction n_56 with
                    | zero => intro z g w hrow hz hm_56; exact absurd hm_56 (fun q => Nat.lt_irrefl 0 q.1)
                    | succ n_56 ih_56 =>
                      intro z g w hrow hz hm_56 H locs ls hP hD hS hl
                      refine lv_iload_n hx hb dX7_practice_56 rfl (lv_at hl 0 rfl) ?_
                      refine lv_if_eq (tgt := 136) hx hb dX7_practice_57 (by decide) (fun c_11 => ?_) (fun c_11 => ?_)
                      · refine lv_iload_n hx hb dX7_practice_136 rfl (lv_at hl 3 rfl) ?_
                        refine lv_iconst (v := (-1)) hx hb dX7_practice_137 (by decide) ?_
                        refine lv_icmp_ne (tgt := 148) hx hb dX7_practice_138 (by decide) (fun c_12 => ?_) (fun c_12 => ?_)
                        · refine lv_iload_n hx hb dX7_practice_148 rfl (lv_at hl 3 rfl) ?_
                          refine lv_iload_n hx hb dX7_practice_149 rfl (lv_at hl 2 rfl) ?_
                          refine q_i (z := (nI t)) c_t ?_
                          refine lv_icmp_ge (tgt := 162) hx hb dX7_practice_150 (by decide) (fun c_13 => ?_) (fun c_13 => ?_)
                          · refine lv_bipush (v := (-5)) hx hb dX7_practice_162 (by decide) ?_
                            exact q_iret hX hr hlk () (by rw [← c_t] at c_13; simp [sp_practice, nlt1, yes1, Int32.not_le, Int32.not_lt, c_1, c_3, c_12, c_13]) (hP.sub [] rfl) (hD.sub [] (by decide) rfl) hS dX7_practice_164
                          · refine lv_aload_n hx hb dX7_practice_153 rfl (lv_at hl 1 rfl) ?_
                            refine va_get (D := D) (ci := 7) (v := .ref a_bst) (C := RX7) (T := TX7) (N := 28) hx hb ht inX7 hown hK hP 0 rfl rfl 16 (Nat.le_of_ble_eq_true rfl) (ht _ kw_920) (fun _ h9 => h9) rfl dX7_practice_154 ?_
                            refine lv_iload_n hx hb dX7_practice_157 rfl (lv_at hl 3 rfl) ?_
                            refine va_iald hx hb hK hP 5 0 rfl rfl (row_in c_1 c_3 c_12 (by rw [c_t]; exact Int32.not_le.mp c_13)) dX7_practice_158 ?_
                            refine q_i (z := 0) rfl ?_
                            refine lv_goto (tgt := 164) hx hb dX7_practice_159 (by decide) ?_
                            exact q_iret hX hr hlk () (by rw [← c_t] at c_13; simp [sp_practice, nlt1, yes1, Int32.not_le, Int32.not_lt, c_1, c_3, c_12, c_13]) (hP.sub [] rfl) (hD.sub [] (by decide) rfl) hS dX7_practice_164
                        · refine lv_aload_n hx hb dX7_practice_141 rfl (lv_at hl 1 rfl) ?_
                          refine va_get (D := D) (ci := 7) (v := .int 0) (C := RX7) (T := TX7) (N := 28) hx hb ht inX7 hown hK hP 0 rfl rfl 18 (Nat.le_of_ble_eq_true rfl) (ht _ kw_922) (fun _ h9 => h9) rfl dX7_practice_142 ?_
                          refine lv_goto (tgt := 164) hx hb dX7_practice_145 (by decide) ?_
                          exact q_iret hX hr hlk () (by simp [sp_practice, nlt1, yes1, Int32.not_le, Int32.not_lt, c_1, c_3, c_12]) (hP.sub [] rfl) (hD.sub [] (by decide) rfl) hS dX7_practice_164
                      · have hz1 : z = 1 := one_of2 hz c_11
                        refine lv_aload_n hx hb dX7_practice_60 rfl (lv_at hl 1 rfl) ?_
                        refine lv_iload_n hx hb dX7_practice_61 rfl (lv_at hl 2 rfl) ?_
                        refine q_i (z := (nI t)) c_t ?_
                        refine q_Vi (wr := [(a_now, .inl (cI, 221, .inl nw0)), (a_ref, .inl (cI, 3, .inl (fun _ => 0))), (a_bst, .inl (cI, 6, .inl (fun _ => 0)))]) [0, 3, 4, 6] [1, 2, 5] hX hE hK hP hD hS hA hl.1 lk_X7_238 (c_m_slipsBy l D cI cZ cP sa mo a_now a_kep a_isk a_ref a_cw a_row a_lea a_sli a_lef a_bst a_try a_mom a_byt a_nxt a_val 0 1 0 0 0 0 0 0 0 0 0 0 0 g w t (by omega) hrow _) rfl rfl rfl rfl (by decide) 0 7 rfl rfl rfl rfl (Nat.le_of_ble_eq_true rfl) rfl rfl ⟨Nat.le_of_ble_eq_true rfl, Nat.le_of_ble_eq_true rfl⟩ ⟨Nat.le_of_ble_eq_true rfl, Nat.le_of_ble_eq_true rfl⟩ dX7_practice_62 (fun x_14 _ H locs h_14 hP hD hS => ?_)
                        have hP : va_P D vwCl [(a_now, .inl (cI, 221, .inl nw0)), (a_ref, .inl (cI, 3, .inl (fun _ => 0))), (a_bst, .inl (cI, 6, .inl (fun _ => 0))), (mo, .inr (7, [.ref a_now, .ref a_kep, .ref a_isk, .ref a_ref, .long 0, .long 1, .int 0, .int 0, .int 0, .int 0, .ref a_cw, .ref a_row, .int 0, .ref a_lea, .ref a_sli, .ref a_lef, .ref a_bst, .ref a_try, .int 0, .ref a_mom, .ref a_byt, .int 0, .int 0, .int 0, .int 0, .int 0, .ref a_nxt, .ref a_val])), (a_sli, .inl (cI, 8, .inl (fun _ => 0))), (a_lef, .inl (cI, 8, .inl (fun _ => 0))), (a_try, .inl (cI, 6, .inl g))] H := hP
                        have hD : va_D (va_A (w_m_practice cI cZ cP mo a_now a_kep a_isk a_ref a_cw a_row a_lea a_sli a_lef a_bst a_try a_mom a_byt a_nxt a_val p0 p1) sz) [(a_now, .inl (cI, 221, .inl nw0)), (a_ref, .inl (cI, 3, .inl (fun _ => 0))), (a_bst, .inl (cI, 6, .inl (fun _ => 0))), (mo, .inr (7, [.ref a_now, .ref a_kep, .ref a_isk, .ref a_ref, .long 0, .long 1, .int 0, .int 0, .int 0, .int 0, .ref a_cw, .ref a_row, .int 0, .ref a_lea, .ref a_sli, .ref a_lef, .ref a_bst, .ref a_try, .int 0, .ref a_mom, .ref a_byt, .int 0, .int 0, .int 0, .int 0, .int 0, .ref a_nxt, .ref a_val])), (a_sli, .inl (cI, 8, .inl (fun _ => 0))), (a_lef, .inl (cI, 8, .inl (fun _ => 0))), (a_try, .inl (cI, 6, .inl g))] := hD
                        subst h_14
                        refine lv_istore (lv' := [(4, .int 0), (3, .int z), (0, .ref mo), (1, .int p0), (2, .int p1)]) hx hb dX7_practice_65 hl (by decide) rfl (fun ls hl => ?_)
                        refine lv_iconst (v := 0) hx hb dX7_practice_67 (by decide) ?_
                        refine lv_istore (lv' := [(5, .int 0), (4, .int 0), (3, .int z), (0, .ref mo), (1, .int p0), (2, .int p1)]) hx hb dX7_practice_68 hl (by decide) rfl (fun ls hl => ?_)
                        refine lv_iload hx hb dX7_practice_70 (lv_at hl 0 rfl) ?_
                        refine lv_iload_n hx hb dX7_practice_72 rfl (lv_at hl 4 rfl) ?_
                        refine q_i (z := (nI t)) c_t ?_
                        refine lv_icmp_ge (tgt := 105) hx hb dX7_practice_73 (by decide) (fun c_15 => ?_) (fun c_15 => ?_)
                        · refine lv_aload_n hx hb dX7_practice_105 rfl (lv_at hl 3 rfl) ?_
                          refine lv_iload hx hb dX7_practice_106 (lv_at hl 1 rfl) ?_
                          refine lv_aload_n hx hb dX7_practice_108 rfl (lv_at hl 3 rfl) ?_
                          refine va_get (D := D) (ci := 7) (v := .int 0) (C := RX7) (T := TX7) (N := 28) hx hb ht inX7 hown hK hP 3 rfl rfl 18 (Nat.le_of_ble_eq_true rfl) (ht _ kw_922) (fun _ h9 => h9) rfl dX7_practice_109 ?_
                          refine lv_icmp_ge (tgt := 120) hx hb dX7_practice_112 (by decide) (fun _ => ?_) (fun c_16 => absurd (by decide) c_16)
                          refine lv_aload_n hx hb dX7_practice_120 rfl (lv_at hl 3 rfl) ?_
                          refine va_get (D := D) (ci := 7) (v := .int 0) (C := RX7) (T := TX7) (N := 28) hx hb ht inX7 hown hK hP 3 rfl rfl 18 (Nat.le_of_ble_eq_true rfl) (ht _ kw_922) (fun _ h9 => h9) rfl dX7_practice_121 ?_
                          refine va_put (D := D) (ci := 7) (v := .int 0) (ty := .int) (C := RX7) (T := TX7) (N := 28) hx hb ht inX7 tyX7 tyX7_ok nmX7 hown hK hP hD hS 3 rfl rfl 18 (Nat.le_of_ble_eq_true rfl) (ht _ kw_922) (fun _ h9 => h9) rfl (by decide +kernel) rfl rfl (Nat.le_of_ble_eq_true rfl) dX7_practice_124 (fun H locs hP hD hS => ?_)
                          have hP : va_P D vwCl [(a_now, .inl (cI, 221, .inl nw0)), (a_ref, .inl (cI, 3, .inl (fun _ => 0))), (a_bst, .inl (cI, 6, .inl (fun _ => 0))), (mo, .inr (7, [.ref a_now, .ref a_kep, .ref a_isk, .ref a_ref, .long 0, .long 1, .int 0, .int 0, .int 0, .int 0, .ref a_cw, .ref a_row, .int 0, .ref a_lea, .ref a_sli, .ref a_lef, .ref a_bst, .ref a_try, .int 0, .ref a_mom, .ref a_byt, .int 0, .int 0, .int 0, .int 0, .int 0, .ref a_nxt, .ref a_val])), (a_sli, .inl (cI, 8, .inl (fun _ => 0))), (a_lef, .inl (cI, 8, .inl (fun _ => 0))), (a_try, .inl (cI, 6, .inl g))] H := hP
                          have hD : va_D (va_A (w_m_practice cI cZ cP mo a_now a_kep a_isk a_ref a_cw a_row a_lea a_sli a_lef a_bst a_try a_mom a_byt a_nxt a_val p0 p1) sz) [(a_now, .inl (cI, 221, .inl nw0)), (a_ref, .inl (cI, 3, .inl (fun _ => 0))), (a_bst, .inl (cI, 6, .inl (fun _ => 0))), (mo, .inr (7, [.ref a_now, .ref a_kep, .ref a_isk, .ref a_ref, .long 0, .long 1, .int 0, .int 0, .int 0, .int 0, .ref a_cw, .ref a_row, .int 0, .ref a_lea, .ref a_sli, .ref a_lef, .ref a_bst, .ref a_try, .int 0, .ref a_mom, .ref a_byt, .int 0, .int 0, .int 0, .int 0, .int 0, .ref a_nxt, .ref a_val])), (a_sli, .inl (cI, 8, .inl (fun _ => 0))), (a_lef, .inl (cI, 8, .inl (fun _ => 0))), (a_try, .inl (cI, 6, .inl g))] := hD
                          refine lv_aload_n hx hb dX7_practice_127 rfl (lv_at hl 3 rfl) ?_
                          refine lv_iload_n hx hb dX7_practice_128 rfl (lv_at hl 4 rfl) ?_
                          refine q_i (z := (nI t)) c_t ?_
                          refine q_Vi (wr := [(a_now, .inl (cI, 221, .inl nw0)), (a_ref, .inl (cI, 3, .inl (fun _ => 0))), (a_bst, .inl (cI, 6, .inl (fun _ => 0))), (a_sli, .inl (cI, 8, .inl (fun _ => 0))), (a_lef, .inl (cI, 8, .inl (fun _ => 0)))]) [3, 6] [0, 1, 2, 4, 5] hX hE hK hP hD hS hA hl.1 lk_X7_241 (c_m_nextRow l D cI cZ cP sa mo a_now a_kep a_isk a_ref a_cw a_row a_lea a_sli a_lef a_bst a_try a_mom a_byt a_nxt a_val 0 1 0 0 0 0 0 0 0 0 0 0 0 g w t (by omega) hrow _) rfl rfl rfl rfl (by decide) 0 7 rfl rfl rfl rfl (Nat.le_of_ble_eq_true rfl) rfl rfl ⟨Nat.le_of_ble_eq_true rfl, Nat.le_of_ble_eq_true rfl⟩ ⟨Nat.le_of_ble_eq_true rfl, Nat.le_of_ble_eq_true rfl⟩ dX7_practice_129 (fun x_17 u_17 H locs h_17 hP hD hS => ?_)
                          have hP : va_P D vwCl [(a_now, .inl (cI, 221, .inl nw0)), (a_ref, .inl (cI, 3, .inl (fun _ => 0))), (a_bst, .inl (cI, 6, .inl (fun _ => 0))), (a_sli, .inl (cI, 8, .inl (fun _ => 0))), (a_lef, .inl (cI, 8, .inl (fun _ => 0))), (mo, .inr (7, [.ref a_now, .ref a_kep, .ref a_isk, .ref a_ref, .long 0, .long 1, .int 0, .int 0, .int 0, .int 0, .ref a_cw, .ref a_row, .int 0, .ref a_lea, .ref a_sli, .ref a_lef, .ref a_bst, .ref a_try, .int 0, .ref a_mom, .ref a_byt, .int 0, .int 0, .int 0, .int 0, .int 0, .ref a_nxt, .ref a_val])), (a_try, .inl (cI, 6, .inl u_17.1))] H := hP
                          have hD : va_D (va_A (w_m_practice cI cZ cP mo a_now a_kep a_isk a_ref a_cw a_row a_lea a_sli a_lef a_bst a_try a_mom a_byt a_nxt a_val p0 p1) sz) [(a_now, .inl (cI, 221, .inl nw0)), (a_ref, .inl (cI, 3, .inl (fun _ => 0))), (a_bst, .inl (cI, 6, .inl (fun _ => 0))), (a_sli, .inl (cI, 8, .inl (fun _ => 0))), (a_lef, .inl (cI, 8, .inl (fun _ => 0))), (mo, .inr (7, [.ref a_now, .ref a_kep, .ref a_isk, .ref a_ref, .long 0, .long 1, .int 0, .int 0, .int 0, .int 0, .ref a_cw, .ref a_row, .int 0, .ref a_lea, .ref a_sli, .ref a_lef, .ref a_bst, .ref a_try, .int 0, .ref a_mom, .ref a_byt, .int 0, .int 0, .int 0, .int 0, .int 0, .ref a_nxt, .ref a_val])), (a_try, .inl (cI, 6, .inl u_17.1))] := hD
                          refine lv_istore_n (lv' := [(3, .int x_17), (5, .int 0), (4, .int 0), (0, .ref mo), (1, .int p0), (2, .int p1)]) hx hb dX7_practice_132 rfl hl (by decide) rfl (fun ls hl => ?_)
                          refine lv_goto (tgt := 56) hx hb dX7_practice_133 (by decide) ?_
                          exact ih_56 x_17 u_17.1 u_17.2 h_17.1 h_17.2.1 ⟨by have := rv_lt t w (fun a ha => (hrow a ha).2); have := hm_56.2 hz1; omega, fun q => row_step (hm_56.2 hz1) (h_17.2.2 q)⟩ _ _ _ (hP.sub [5, 0, 1, 3, 4, 2, 6] rfl) (hD.sub [5, 0, 1, 3, 4, 2, 6] (by decide) rfl) hS (lv_sub hl [0, 3, 4, 5] rfl)
                        · refine lv_iload hx hb dX7_practice_76 (lv_at hl 1 rfl) ?_
                          refine lv_aload_n hx hb dX7_practice_78 rfl (lv_at hl 3 rfl) ?_
                          refine va_get (D := D) (ci := 7) (v := .int 0) (C := RX7) (T := TX7) (N := 28) hx hb ht inX7 hown hK hP 3 rfl rfl 18 (Nat.le_of_ble_eq_true rfl) (ht _ kw_922) (fun _ h9 => h9) rfl dX7_practice_79 ?_
                          refine lv_icmp_ge (tgt := 105) hx hb dX7_practice_82 (by decide) (fun _ => ?_) (fun c_18 => absurd (by decide) c_18)
                          refine lv_aload_n hx hb dX7_practice_105 rfl (lv_at hl 3 rfl) ?_
                          refine lv_iload hx hb dX7_practice_106 (lv_at hl 1 rfl) ?_
                          refine lv_aload_n hx hb dX7_practice_108 rfl (lv_at hl 3 rfl) ?_
                          refine va_get (D := D) (ci := 7) (v := .int 0) (C := RX7) (T := TX7) (N := 28) hx hb ht inX7 hown hK hP 3 rfl rfl 18 (Nat.le_of_ble_eq_true rfl) (ht _ kw_922) (fun _ h9 => h9) rfl dX7_practice_109 ?_
                          refine lv_icmp_ge (tgt := 120) hx hb dX7_practice_112 (by decide) (fun _ => ?_) (fun c_19 => absurd (by decide) c_19)
                          refine lv_aload_n hx hb dX7_practice_120 rfl (lv_at hl 3 rfl) ?_
                          refine va_get (D := D) (ci := 7) (v := .int 0) (C := RX7) (T := TX7) (N := 28) hx hb ht inX7 hown hK hP 3 rfl rfl 18 (Nat.le_of_ble_eq_true rfl) (ht _ kw_922) (fun _ h9 => h9) rfl dX7_practice_121 ?_
                          refine va_put (D := D) (ci := 7) (v := .int 0) (ty := .int) (C := RX7) (T := TX7) (N := 28) hx hb ht inX7 tyX7 tyX7_ok nmX7 hown hK hP hD hS 3 rfl rfl 18 (Nat.le_of_ble_eq_true rfl) (ht _ kw_922) (fun _ h9 => h9) rfl (by decide +kernel) rfl rfl (Nat.le_of_ble_eq_true rfl) dX7_practice_124 (fun H locs hP hD hS => ?_)
                          have hP : va_P D vwCl [(a_now, .inl (cI, 221, .inl nw0)), (a_ref, .inl (cI, 3, .inl (fun _ => 0))), (a_bst, .inl (cI, 6, .inl (fun _ => 0))), (mo, .inr (7, [.ref a_now, .ref a_kep, .ref a_isk, .ref a_ref, .long 0, .long 1, .int 0, .int 0, .int 0, .int 0, .ref a_cw, .ref a_row, .int 0, .ref a_lea, .ref a_sli, .ref a_lef, .ref a_bst, .ref a_try, .int 0, .ref a_mom, .ref a_byt, .int 0, .int 0, .int 0, .int 0, .int 0, .ref a_nxt, .ref a_val])), (a_sli, .inl (cI, 8, .inl (fun _ => 0))), (a_lef, .inl (cI, 8, .inl (fun _ => 0))), (a_try, .inl (cI, 6, .inl g))] H := hP
                          have hD : va_D (va_A (w_m_practice cI cZ cP mo a_now a_kep a_isk a_ref a_cw a_row a_lea a_sli a_lef a_bst a_try a_mom a_byt a_nxt a_val p0 p1) sz) [(a_now, .inl (cI, 221, .inl nw0)), (a_ref, .inl (cI, 3, .inl (fun _ => 0))), (a_bst, .inl (cI, 6, .inl (fun _ => 0))), (mo, .inr (7, [.ref a_now, .ref a_kep, .ref a_isk, .ref a_ref, .long 0, .long 1, .int 0, .int 0, .int 0, .int 0, .ref a_cw, .ref a_row, .int 0, .ref a_lea, .ref a_sli, .ref a_lef, .ref a_bst, .ref a_try, .int 0, .ref a_mom, .ref a_byt, .int 0, .int 0, .int 0, .int 0, .int 0, .ref a_nxt, .ref a_val])), (a_sli, .inl (cI, 8, .inl (fun _ => 0))), (a_lef, .inl (cI, 8, .inl (fun _ => 0))), (a_try, .inl (cI, 6, .inl g))] := hD
                          refine lv_aload_n hx hb dX7_practice_127 rfl (lv_at hl 3 rfl) ?_
                          refine lv_iload_n hx hb dX7_practice_128 rfl (lv_at hl 4 rfl) ?_
                          refine q_i (z := (nI t)) c_t ?_
                          refine q_Vi (wr := [(a_now, .inl (cI, 221, .inl nw0)), (a_ref, .inl (cI, 3, .inl (fun _ => 0))), (a_bst, .inl (cI, 6, .inl (fun _ => 0))), (a_sli, .inl (cI, 8, .inl (fun _ => 0))), (a_lef, .inl (cI, 8, .inl (fun _ => 0)))]) [3, 6] [0, 1, 2, 4, 5] hX hE hK hP hD hS hA hl.1 lk_X7_241 (c_m_nextRow l D cI cZ cP sa mo a_now a_kep a_isk a_ref a_cw a_row a_lea a_sli a_lef a_bst a_try a_mom a_byt a_nxt a_val 0 1 0 0 0 0 0 0 0 0 0 0 0 g w t (by omega) hrow _) rfl rfl rfl rfl (by decide) 0 7 rfl rfl rfl rfl (Nat.le_of_ble_eq_true rfl) rfl rfl ⟨Nat.le_of_ble_eq_true rfl, Nat.le_of_ble_eq_true rfl⟩ ⟨Nat.le_of_ble_eq_true rfl, Nat.le_of_ble_eq_true rfl⟩ dX7_practice_129 (fun x_20 u_20 H locs h_20 hP hD hS => ?_)
                          have hP : va_P D vwCl [(a_now, .inl (cI, 221, .inl nw0)), (a_ref, .inl (cI, 3, .inl (fun _ => 0))), (a_bst, .inl (cI, 6, .inl (fun _ => 0))), (a_sli, .inl (cI, 8, .inl (fun _ => 0))), (a_lef, .inl (cI, 8, .inl (fun _ => 0))), (mo, .inr (7, [.ref a_now, .ref a_kep, .ref a_isk, .ref a_ref, .long 0, .long 1, .int 0, .int 0, .int 0, .int 0, .ref a_cw, .ref a_row, .int 0, .ref a_lea, .ref a_sli, .ref a_lef, .ref a_bst, .ref a_try, .int 0, .ref a_mom, .ref a_byt, .int 0, .int 0, .int 0, .int 0, .int 0, .ref a_nxt, .ref a_val])), (a_try, .inl (cI, 6, .inl u_20.1))] H := hP
                          have hD : va_D (va_A (w_m_practice cI cZ cP mo a_now a_kep a_isk a_ref a_cw a_row a_lea a_sli a_lef a_bst a_try a_mom a_byt a_nxt a_val p0 p1) sz) [(a_now, .inl (cI, 221, .inl nw0)), (a_ref, .inl (cI, 3, .inl (fun _ => 0))), (a_bst, .inl (cI, 6, .inl (fun _ => 0))), (a_sli, .inl (cI, 8, .inl (fun _ => 0))), (a_lef, .inl (cI, 8, .inl (fun _ => 0))), (mo, .inr (7, [.ref a_now, .ref a_kep, .ref a_isk, .ref a_ref, .long 0, .long 1, .int 0, .int 0, .int 0, .int 0, .ref a_cw, .ref a_row, .int 0, .ref a_lea, .ref a_sli, .ref a_lef, .ref a_bst, .ref a_try, .int 0, .ref a_mom, .ref a_byt, .int 0, .int 0, .int 0, .int 0, .int 0, .ref a_nxt, .ref a_val])), (a_try, .inl (cI, 6, .inl u_20.1))] := hD
                          refine lv_istore_n (lv' := [(3, .int x_20), (5, .int 0), (4, .int 0), (0, .ref mo), (1, .int p0), (2, .int p1)]) hx hb dX7_practice_132 rfl hl (by decide) rfl (fun ls hl => ?_)
                          refine lv_goto (tgt := 56) hx hb dX7_practice_133 (by decide) ?_
                          exact ih_56 x_20 u_20.1 u_20.2 h_20.1 h_20.2.1 ⟨by have := rv_lt t w (fun a ha => (hrow a ha).2); have := hm_56.2 hz1; omega, fun q => row_step (hm_56.2 hz1) (h_20.2.2 q)⟩ _ _ _ (hP.sub [5, 0, 1, 3, 4, 2, 6] rfl) (hD.sub [5, 0, 1, 3, 4, 2, 6] (by decide) rfl) hS (lv_sub hl [0, 3, 4, 5] rfl)
                  exact lp_56 (8 ^ t + 1) x_10 u_10.1 u_10.2 h_10.1 h_10.2.1 ⟨Nat.succ_pos _, fun _ => by omega⟩ _ _ _ (hP.sub [5, 0, 1, 2, 3, 4, 6] rfl) (hD.sub [5, 0, 1, 2, 3, 4, 6] (by decide) rfl) hS (lv_sub hl [0, 3, 4, 5] rfl)
                · have hk4 : k2 < t := nI_dnn c_8 (by omega) (by omega)
                  refine lv_iload hx hb dX7_practice_76 (lv_at hl 1 rfl) ?_
                  refine lv_aload_n hx hb dX7_practice_78 rfl (lv_at hl 3 rfl) ?_
                  refine va_get (D := D) (ci := 7) (v := .int 1000000) (C := RX7) (T := TX7) (N := 28) hx hb ht inX7 hown hK hP 0 rfl rfl 18 (Nat.le_of_ble_eq_true rfl) (ht _ kw_922) (fun _ h9 => h9) rfl dX7_practice_79 ?_
                  refine lv_icmp_ge (tgt := 105) hx hb dX7_practice_82 (by decide) (fun c_21 => absurd c_21 (by decide)) (fun _ => ?_)
                  refine lv_aload_n hx hb dX7_practice_85 rfl (lv_at hl 3 rfl) ?_
                  refine va_get (D := D) (ci := 7) (v := .ref a_bst) (C := RX7) (T := TX7) (N := 28) hx hb ht inX7 hown hK hP 0 rfl rfl 16 (Nat.le_of_ble_eq_true rfl) (ht _ kw_920) (fun _ h9 => h9) rfl dX7_practice_86 ?_
                  refine lv_iload hx hb dX7_practice_89 (lv_at hl 0 rfl) ?_
                  refine lv_aload_n hx hb dX7_practice_91 rfl (lv_at hl 3 rfl) ?_
                  refine va_get (D := D) (ci := 7) (v := .ref a_try) (C := RX7) (T := TX7) (N := 28) hx hb ht inX7 hown hK hP 0 rfl rfl 17 (Nat.le_of_ble_eq_true rfl) (ht _ kw_921) (fun _ h9 => h9) rfl dX7_practice_92 ?_
                  refine lv_iload hx hb dX7_practice_95 (lv_at hl 0 rfl) ?_
                  refine va_iald hx hb hK hP 6 0 rfl rfl (vp_in_nI (by omega) (by omega)) dX7_practice_97 ?_
                  refine q_i (z := 0) rfl ?_
                  refine va_iast hx hb hK hP hD hS 5 0 rfl rfl (vp_in_nI (by omega) (by omega)) dX7_practice_98 (fun H locs hP hD hS => ?_)
                  have hP : va_P D vwCl [(mo, .inr (7, [.ref a_now, .ref a_kep, .ref a_isk, .ref a_ref, .long 0, .long 1, .int 0, .int 0, .int 0, .int 0, .ref a_cw, .ref a_row, .int 0, .ref a_lea, .ref a_sli, .ref a_lef, .ref a_bst, .ref a_try, .int 1000000, .ref a_mom, .ref a_byt, .int 0, .int 0, .int 0, .int 0, .int 0, .ref a_nxt, .ref a_val])), (a_now, .inl (cI, 221, .inl nw0)), (a_ref, .inl (cI, 3, .inl (fun _ => 0))), (a_sli, .inl (cI, 8, .inl (fun _ => 0))), (a_lef, .inl (cI, 8, .inl (fun _ => 0))), (a_bst, .inl (cI, 6, .inl (upd (fun _ => 0) (nI k2).toNatClampNeg 0))), (a_try, .inl (cI, 6, .inl (fun _ => 0)))] H := hP
                  have hD : va_D (va_A (w_m_practice cI cZ cP mo a_now a_kep a_isk a_ref a_cw a_row a_lea a_sli a_lef a_bst a_try a_mom a_byt a_nxt a_val p0 p1) sz) [(mo, .inr (7, [.ref a_now, .ref a_kep, .ref a_isk, .ref a_ref, .long 0, .long 1, .int 0, .int 0, .int 0, .int 0, .ref a_cw, .ref a_row, .int 0, .ref a_lea, .ref a_sli, .ref a_lef, .ref a_bst, .ref a_try, .int 1000000, .ref a_mom, .ref a_byt, .int 0, .int 0, .int 0, .int 0, .int 0, .ref a_nxt, .ref a_val])), (a_now, .inl (cI, 221, .inl nw0)), (a_ref, .inl (cI, 3, .inl (fun _ => 0))), (a_sli, .inl (cI, 8, .inl (fun _ => 0))), (a_lef, .inl (cI, 8, .inl (fun _ => 0))), (a_bst, .inl (cI, 6, .inl (upd (fun _ => 0) (nI k2).toNatClampNeg 0))), (a_try, .inl (cI, 6, .inl (fun _ => 0)))] := hD
                  rw [upd_c] at hP hD
                  have hP : va_P D vwCl [(mo, .inr (7, [.ref a_now, .ref a_kep, .ref a_isk, .ref a_ref, .long 0, .long 1, .int 0, .int 0, .int 0, .int 0, .ref a_cw, .ref a_row, .int 0, .ref a_lea, .ref a_sli, .ref a_lef, .ref a_bst, .ref a_try, .int 1000000, .ref a_mom, .ref a_byt, .int 0, .int 0, .int 0, .int 0, .int 0, .ref a_nxt, .ref a_val])), (a_now, .inl (cI, 221, .inl nw0)), (a_ref, .inl (cI, 3, .inl (fun _ => 0))), (a_sli, .inl (cI, 8, .inl (fun _ => 0))), (a_lef, .inl (cI, 8, .inl (fun _ => 0))), (a_bst, .inl (cI, 6, .inl (fun _ => 0))), (a_try, .inl (cI, 6, .inl (fun _ => 0)))] H := hP
                  have hD : va_D (va_A (w_m_practice cI cZ cP mo a_now a_kep a_isk a_ref a_cw a_row a_lea a_sli a_lef a_bst a_try a_mom a_byt a_nxt a_val p0 p1) sz) [(mo, .inr (7, [.ref a_now, .ref a_kep, .ref a_isk, .ref a_ref, .long 0, .long 1, .int 0, .int 0, .int 0, .int 0, .ref a_cw, .ref a_row, .int 0, .ref a_lea, .ref a_sli, .ref a_lef, .ref a_bst, .ref a_try, .int 1000000, .ref a_mom, .ref a_byt, .int 0, .int 0, .int 0, .int 0, .int 0, .ref a_nxt, .ref a_val])), (a_now, .inl (cI, 221, .inl nw0)), (a_ref, .inl (cI, 3, .inl (fun _ => 0))), (a_sli, .inl (cI, 8, .inl (fun _ => 0))), (a_lef, .inl (cI, 8, .inl (fun _ => 0))), (a_bst, .inl (cI, 6, .inl (fun _ => 0))), (a_try, .inl (cI, 6, .inl (fun _ => 0)))] := hD
                  refine lv_iinc (v := (nI (k2 + 1))) (lv' := [(5, .int (nI (k2 + 1))), (4, .int 0), (3, .int 1), (0, .ref mo), (1, .int p0), (2, .int p1)]) hx hb dX7_practice_99 hl (k := 0) rfl (nI_1 k2) (by decide) rfl (fun ls hl => ?_)
                  refine lv_goto (tgt := 70) hx hb dX7_practice_102 (by decide) ?_
                  exact ih_70 (k2 + 1) (by omega) (by omega) _ _ _ hP hD hS (lv_sub hl [0, 1, 2, 3, 4, 5] rfl)
            exact lp_70 (t + 1) 0 (by omega) (by omega) _ _ _ (hP.sub [3, 0, 1, 4, 5, 2, 6] rfl) (hD.sub [3, 0, 1, 4, 5, 2, 6] (by decide) rfl) hS (lv_sub hl [0, 1, 2, 3, 4, 5] rfl)
          · have hk2 : k < t := nI_dnn c_5 (by omega) (by omega)
            refine lv_aload_n hx hb dX7_practice_41 rfl (lv_at hl 1 rfl) ?_
            refine va_get (D := D) (ci := 7) (v := .ref a_try) (C := RX7) (T := TX7) (N := 28) hx hb ht inX7 hown hK hP 0 rfl rfl 17 (Nat.le_of_ble_eq_true rfl) (ht _ kw_921) (fun _ h9 => h9) rfl dX7_practice_42 ?_
            refine lv_iload_n hx hb dX7_practice_45 rfl (lv_at hl 0 rfl) ?_
            refine lv_iconst (v := 0) hx hb dX7_practice_46 (by decide) ?_
            refine va_iast hx hb hK hP hD hS 6 0 rfl rfl (vp_in_nI (by omega) (by omega)) dX7_practice_47 (fun H locs hP hD hS => ?_)
            have hP : va_P D vwCl [(mo, .inr (7, [.ref a_now, .ref a_kep, .ref a_isk, .ref a_ref, .long 0, .long 1, .int 0, .int 0, .int 0, .int 0, .ref a_cw, .ref a_row, .int 0, .ref a_lea, .ref a_sli, .ref a_lef, .ref a_bst, .ref a_try, .int 1000000, .ref a_mom, .ref a_byt, .int 0, .int 0, .int 0, .int 0, .int 0, .ref a_nxt, .ref a_val])), (a_now, .inl (cI, 221, .inl nw0)), (a_ref, .inl (cI, 3, .inl (fun _ => 0))), (a_sli, .inl (cI, 8, .inl (fun _ => 0))), (a_lef, .inl (cI, 8, .inl (fun _ => 0))), (a_bst, .inl (cI, 6, .inl (fun _ => 0))), (a_try, .inl (cI, 6, .inl (upd (fun _ => 0) (nI k).toNatClampNeg 0)))] H := hP
            have hD : va_D (va_A (w_m_practice cI cZ cP mo a_now a_kep a_isk a_ref a_cw a_row a_lea a_sli a_lef a_bst a_try a_mom a_byt a_nxt a_val p0 p1) sz) [(mo, .inr (7, [.ref a_now, .ref a_kep, .ref a_isk, .ref a_ref, .long 0, .long 1, .int 0, .int 0, .int 0, .int 0, .ref a_cw, .ref a_row, .int 0, .ref a_lea, .ref a_sli, .ref a_lef, .ref a_bst, .ref a_try, .int 1000000, .ref a_mom, .ref a_byt, .int 0, .int 0, .int 0, .int 0, .int 0, .ref a_nxt, .ref a_val])), (a_now, .inl (cI, 221, .inl nw0)), (a_ref, .inl (cI, 3, .inl (fun _ => 0))), (a_sli, .inl (cI, 8, .inl (fun _ => 0))), (a_lef, .inl (cI, 8, .inl (fun _ => 0))), (a_bst, .inl (cI, 6, .inl (fun _ => 0))), (a_try, .inl (cI, 6, .inl (upd (fun _ => 0) (nI k).toNatClampNeg 0)))] := hD
            rw [upd_c] at hP hD
            have hP : va_P D vwCl [(mo, .inr (7, [.ref a_now, .ref a_kep, .ref a_isk, .ref a_ref, .long 0, .long 1, .int 0, .int 0, .int 0, .int 0, .ref a_cw, .ref a_row, .int 0, .ref a_lea, .ref a_sli, .ref a_lef, .ref a_bst, .ref a_try, .int 1000000, .ref a_mom, .ref a_byt, .int 0, .int 0, .int 0, .int 0, .int 0, .ref a_nxt, .ref a_val])), (a_now, .inl (cI, 221, .inl nw0)), (a_ref, .inl (cI, 3, .inl (fun _ => 0))), (a_sli, .inl (cI, 8, .inl (fun _ => 0))), (a_lef, .inl (cI, 8, .inl (fun _ => 0))), (a_bst, .inl (cI, 6, .inl (fun _ => 0))), (a_try, .inl (cI, 6, .inl (fun _ => 0)))] H := hP
            have hD : va_D (va_A (w_m_practice cI cZ cP mo a_now a_kep a_isk a_ref a_cw a_row a_lea a_sli a_lef a_bst a_try a_mom a_byt a_nxt a_val p0 p1) sz) [(mo, .inr (7, [.ref a_now, .ref a_kep, .ref a_isk, .ref a_ref, .long 0, .long 1, .int 0, .int 0, .int 0, .int 0, .ref a_cw, .ref a_row, .int 0, .ref a_lea, .ref a_sli, .ref a_lef, .ref a_bst, .ref a_try, .int 1000000, .ref a_mom, .ref a_byt, .int 0, .int 0, .int 0, .int 0, .int 0, .ref a_nxt, .ref a_val])), (a_now, .inl (cI, 221, .inl nw0)), (a_ref, .inl (cI, 3, .inl (fun _ => 0))), (a_sli, .inl (cI, 8, .inl (fun _ => 0))), (a_lef, .inl (cI, 8, .inl (fun _ => 0))), (a_bst, .inl (cI, 6, .inl (fun _ => 0))), (a_try, .inl (cI, 6, .inl (fun _ => 0)))] := hD
            refine lv_iinc (v := (nI (k + 1))) (lv' := [(3, .int (nI (k + 1))), (0, .ref mo), (1, .int p0), (2, .int p1)]) hx hb dX7_practice_48 hl (k := 0) rfl (nI_1 k) (by decide) rfl (fun ls hl => ?_)
            refine lv_goto (tgt := 36) hx hb dX7_practice_51 (by decide) ?_
            exact ih_36 (k + 1) (by omega) (by omega) _ _ _ hP hD hS (lv_sub hl [0, 1, 2, 3] rfl)
      exact lp_36 (t + 1) 0 (by omega) (by omega) _ _ _ (hP.sub [4, 5, 0, 6, 1, 2, 3] rfl) (hD.sub [4, 5, 0, 6, 1, 2, 3] (by decide) rfl) hS (lv_sub hl [0, 1, 2, 3] rfl)
    · refine lv_aload_n hx hb dX7_practice_17 rfl (lv_at hl 0 rfl) ?_
      refine lv_bipush (v := (-10)) hx hb dX7_practice_18 (by decide) ?_
      refine q_Vi (wr := [(a_now, .inl (cI, 221, .inl nw0)), (a_sli, .inl (cI, 8, .inl (fun _ => 0))), (a_lef, .inl (cI, 8, .inl (fun _ => 0))), (a_bst, .inl (cI, 6, .inl (fun _ => 0))), (a_try, .inl (cI, 6, .inl (fun _ => 0)))]) [0, 2] [1, 3, 4, 5, 6] hX hE hK hP hD hS hA hl.1 lk_X7_76 (c_m_bad l D cI cZ cP sa mo a_now a_kep a_isk a_ref a_cw a_row a_lea a_sli a_lef a_bst a_try a_mom a_byt a_nxt a_val 0 1 0 0 0 0 0 0 0 0 0 0 0 (-10) _) rfl rfl rfl rfl (by decide) 0 7 rfl rfl rfl rfl (Nat.le_of_ble_eq_true rfl) rfl rfl ⟨Nat.le_of_ble_eq_true rfl, Nat.le_of_ble_eq_true rfl⟩ ⟨Nat.le_of_ble_eq_true rfl, Nat.le_of_ble_eq_true rfl⟩ dX7_practice_20 (fun x_22 _ H locs h_22 hP hD hS => ?_)
      have hP : va_P D vwCl [(a_now, .inl (cI, 221, .inl nw0)), (a_sli, .inl (cI, 8, .inl (fun _ => 0))), (a_lef, .inl (cI, 8, .inl (fun _ => 0))), (a_bst, .inl (cI, 6, .inl (fun _ => 0))), (a_try, .inl (cI, 6, .inl (fun _ => 0)))] H := hP
      have hD : va_D (va_A (w_m_practice cI cZ cP mo a_now a_kep a_isk a_ref a_cw a_row a_lea a_sli a_lef a_bst a_try a_mom a_byt a_nxt a_val p0 p1) sz) [(a_now, .inl (cI, 221, .inl nw0)), (a_sli, .inl (cI, 8, .inl (fun _ => 0))), (a_lef, .inl (cI, 8, .inl (fun _ => 0))), (a_bst, .inl (cI, 6, .inl (fun _ => 0))), (a_try, .inl (cI, 6, .inl (fun _ => 0)))] := hD
      subst h_22
      exact q_iret hX hr hlk () (by simp [sp_practice, c_1, c_3]) (hP.sub [] rfl) (hD.sub [] (by decide) rfl) hS dX7_practice_23
  · rw [if_neg c_1] at h_1; subst h_1
    refine lv_if_eq (tgt := 17) hx hb dX7_practice_9 (by decide) (fun _ => ?_) (fun c_23 => absurd (by decide) c_23)
    refine lv_aload_n hx hb dX7_practice_17 rfl (lv_at hl 0 rfl) ?_
    refine lv_bipush (v := (-10)) hx hb dX7_practice_18 (by decide) ?_
    refine q_Vi (wr := [(a_now, .inl (cI, 221, .inl nw0)), (a_sli, .inl (cI, 8, .inl (fun _ => 0))), (a_lef, .inl (cI, 8, .inl (fun _ => 0))), (a_bst, .inl (cI, 6, .inl (fun _ => 0))), (a_try, .inl (cI, 6, .inl (fun _ => 0)))]) [0, 2] [1, 3, 4, 5, 6] hX hE hK hP hD hS hA hl.1 lk_X7_76 (c_m_bad l D cI cZ cP sa mo a_now a_kep a_isk a_ref a_cw a_row a_lea a_sli a_lef a_bst a_try a_mom a_byt a_nxt a_val 0 1 0 0 0 0 0 0 0 0 0 0 0 (-10) _) rfl rfl rfl rfl (by decide) 0 7 rfl rfl rfl rfl (Nat.le_of_ble_eq_true rfl) rfl rfl ⟨Nat.le_of_ble_eq_true rfl, Nat.le_of_ble_eq_true rfl⟩ ⟨Nat.le_of_ble_eq_true rfl, Nat.le_of_ble_eq_true rfl⟩ dX7_practice_20 (fun x_24 _ H locs h_24 hP hD hS => ?_)
    have hP : va_P D vwCl [(a_now, .inl (cI, 221, .inl nw0)), (a_sli, .inl (cI, 8, .inl (fun _ => 0))), (a_lef, .inl (cI, 8, .inl (fun _ => 0))), (a_bst, .inl (cI, 6, .inl (fun _ => 0))), (a_try, .inl (cI, 6, .inl (fun _ => 0)))] H := hP
    have hD : va_D (va_A (w_m_practice cI cZ cP mo a_now a_kep a_isk a_ref a_cw a_row a_lea a_sli a_lef a_bst a_try a_mom a_byt a_nxt a_val p0 p1) sz) [(a_now, .inl (cI, 221, .inl nw0)), (a_sli, .inl (cI, 8, .inl (fun _ => 0))), (a_lef, .inl (cI, 8, .inl (fun _ => 0))), (a_bst, .inl (cI, 6, .inl (fun _ => 0))), (a_try, .inl (cI, 6, .inl (fun _ => 0)))] := hD
    subst h_24
    exact q_iret hX hr hlk () (by simp [sp_practice, c_1]) (hP.sub [] rfl) (hD.sub [] (by decide) rfl) hS dX7_practice_23
