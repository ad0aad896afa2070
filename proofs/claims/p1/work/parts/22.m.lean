abbrev w_m_about (cI cZ cP : ClassId) (mo : Nat) (a_now : Nat) (a_kep : Nat) (a_isk : Nat) (a_ref : Nat) (a_cw : Nat) (a_row : Nat) (a_lea : Nat) (a_sli : Nat) (a_lef : Nat) (a_bst : Nat) (a_try : Nat) (a_mom : Nat) (a_byt : Nat) (a_nxt : Nat) (a_val : Nat) (p0 : Int32) (p1 : Int32) : va_W := [(mo, .inr (7, [.ref a_now, .ref a_kep, .ref a_isk, .ref a_ref, .long 0, .long 1, .int 0, .int 0, .int 0, .int 0, .ref a_cw, .ref a_row, .int 0, .ref a_lea, .ref a_sli, .ref a_lef, .ref a_bst, .ref a_try, .int 0, .ref a_mom, .ref a_byt, .int 0, .int 0, .int 0, .int 0, .int 0, .ref a_nxt, .ref a_val])), (a_now, .inl (cI, 221, .inl nw0)), (a_ref, .inl (cI, 3, .inl (fun _ => 0)))]
set_option maxHeartbeats 4000000 in
set_option maxRecDepth 100000 in
theorem c_m_about (l : Launch) (D : va_G) (cI cZ cP : ClassId) (sa : Nat → Nat) (mo : Nat) (a_now : Nat) (a_kep : Nat) (a_isk : Nat) (a_ref : Nat) (a_cw : Nat) (a_row : Nat) (a_lea : Nat) (a_sli : Nat) (a_lef : Nat) (a_bst : Nat) (a_try : Nat) (a_mom : Nat) (a_byt : Nat) (a_nxt : Nat) (a_val : Nat) (p0 : Int32) (p1 : Int32) (sz : Nat) : Met l yX7_about (qW yX7_about cX7_about 3 (some .int)) ({ frames := 2, cells := 0, slots := 0, locals := 45 } : Room) (qP D (TY cI cZ cP) sa [.ref mo, .int p0, .int p1] (w_m_about cI cZ cP mo a_now a_kep a_isk a_ref a_cw a_row a_lea a_sli a_lef a_bst a_try a_mom a_byt a_nxt a_val p0 p1) sz) (qQi D (w_m_about cI cZ cP mo a_now a_kep a_isk a_ref a_cw a_row a_lea a_sli a_lef a_bst a_try a_mom a_byt a_nxt a_val p0 p1) sz (fun (r : Int32) (_ : Unit) => r = sp_about p0 p1) (fun _ => [])) 0 0 (va_A (w_m_about cI cZ cP mo a_now a_kep a_isk a_ref a_cw a_row a_lea a_sli a_lef a_bst a_try a_mom a_byt a_nxt a_val p0 p1) sz) := by
  refine q_enter (by decide) (Nat.le_of_ble_eq_true rfl) ?_
  intro p e s m below meth c ls hX hr hlk hnm hE hK hP hD hS hA hl
  obtain ⟨hx, hb, hml, hown, ht⟩ := id hX
  have hl : lv_has ls 3 [(0, .ref mo), (1, .int p0), (2, .int p1)] := hl
  refine lv_iload_n hx hb dX7_about_0 rfl (lv_at hl 1 rfl) ?_
  refine q_Si (wr := [(mo, .inr (7, [.ref a_now, .ref a_kep, .ref a_isk, .ref a_ref, .long 0, .long 1, .int 0, .int 0, .int 0, .int 0, .ref a_cw, .ref a_row, .int 0, .ref a_lea, .ref a_sli, .ref a_lef, .ref a_bst, .ref a_try, .int 0, .ref a_mom, .ref a_byt, .int 0, .int 0, .int 0, .int 0, .int 0, .ref a_nxt, .ref a_val])), (a_now, .inl (cI, 221, .inl nw0)), (a_ref, .inl (cI, 3, .inl (fun _ => 0)))]) [] [0, 1, 2] hX hE hK hP hD hS hA hl.1 lk_X7_80 (c_m_isHand l D cI cZ cP sa p0 _) rfl rfl rfl rfl (by decide) rfl rfl (Nat.le_of_ble_eq_true rfl) rfl rfl ⟨Nat.le_of_ble_eq_true rfl, Nat.le_of_ble_eq_true rfl⟩ ⟨Nat.le_of_ble_eq_true rfl, Nat.le_of_ble_eq_true rfl⟩ dX7_about_1 (fun x_1 _ H locs h_1 hP hD hS => ?_)
  have hP : va_P D vwCl [(mo, .inr (7, [.ref a_now, .ref a_kep, .ref a_isk, .ref a_ref, .long 0, .long 1, .int 0, .int 0, .int 0, .int 0, .ref a_cw, .ref a_row, .int 0, .ref a_lea, .ref a_sli, .ref a_lef, .ref a_bst, .ref a_try, .int 0, .ref a_mom, .ref a_byt, .int 0, .int 0, .int 0, .int 0, .int 0, .ref a_nxt, .ref a_val])), (a_now, .inl (cI, 221, .inl nw0)), (a_ref, .inl (cI, 3, .inl (fun _ => 0)))] H := hP
  have hD : va_D (va_A (w_m_about cI cZ cP mo a_now a_kep a_isk a_ref a_cw a_row a_lea a_sli a_lef a_bst a_try a_mom a_byt a_nxt a_val p0 p1) sz) [(mo, .inr (7, [.ref a_now, .ref a_kep, .ref a_isk, .ref a_ref, .long 0, .long 1, .int 0, .int 0, .int 0, .int 0, .ref a_cw, .ref a_row, .int 0, .ref a_lea, .ref a_sli, .ref a_lef, .ref a_bst, .ref a_try, .int 0, .ref a_mom, .ref a_byt, .int 0, .int 0, .int 0, .int 0, .int 0, .ref a_nxt, .ref a_val])), (a_now, .inl (cI, 221, .inl nw0)), (a_ref, .inl (cI, 3, .inl (fun _ => 0)))] := hD
  rcases Classical.em (0 ≤ p0 ∧ p0 ≤ 3) with c_1 | c_1
  · rw [if_pos c_1] at h_1; subst h_1
    refine lv_if_eq (tgt := 19) hx hb dX7_about_4 (by decide) (fun c_2 => absurd c_2 (by decide)) (fun _ => ?_)
    refine lv_iload_n hx hb dX7_about_7 rfl (lv_at hl 2 rfl) ?_
    refine lv_i2l (v := (p1.toInt64)) hx hb dX7_about_8 rfl ?_
    refine lv_lconst (v := 0) hx hb dX7_about_9 (by decide) ?_
    refine q_l (z := ((0 : Int32).toInt64)) (by decide) ?_
    refine lv_ldc2 hx hb hown (ht _ kw_1113) dX7_about_10 ?_
    refine q_l (z := ((4 : Int32).toInt64)) (by decide) ?_
    refine q_Si (wr := [(mo, .inr (7, [.ref a_now, .ref a_kep, .ref a_isk, .ref a_ref, .long 0, .long 1, .int 0, .int 0, .int 0, .int 0, .ref a_cw, .ref a_row, .int 0, .ref a_lea, .ref a_sli, .ref a_lef, .ref a_bst, .ref a_try, .int 0, .ref a_mom, .ref a_byt, .int 0, .int 0, .int 0, .int 0, .int 0, .ref a_nxt, .ref a_val])), (a_now, .inl (cI, 221, .inl nw0)), (a_ref, .inl (cI, 3, .inl (fun _ => 0)))]) [] [0, 1, 2] hX hE hK hP hD hS hA hl.1 lk_X7_68 (c_m_in l D cI cZ cP sa p1 0 4 _) rfl rfl rfl rfl (by decide) rfl rfl (Nat.le_of_ble_eq_true rfl) rfl rfl ⟨Nat.le_of_ble_eq_true rfl, Nat.le_of_ble_eq_true rfl⟩ ⟨Nat.le_of_ble_eq_true rfl, Nat.le_of_ble_eq_true rfl⟩ dX7_about_13 (fun x_3 _ H locs h_3 hP hD hS => ?_)
    have hP : va_P D vwCl [(mo, .inr (7, [.ref a_now, .ref a_kep, .ref a_isk, .ref a_ref, .long 0, .long 1, .int 0, .int 0, .int 0, .int 0, .ref a_cw, .ref a_row, .int 0, .ref a_lea, .ref a_sli, .ref a_lef, .ref a_bst, .ref a_try, .int 0, .ref a_mom, .ref a_byt, .int 0, .int 0, .int 0, .int 0, .int 0, .ref a_nxt, .ref a_val])), (a_now, .inl (cI, 221, .inl nw0)), (a_ref, .inl (cI, 3, .inl (fun _ => 0)))] H := hP
    have hD : va_D (va_A (w_m_about cI cZ cP mo a_now a_kep a_isk a_ref a_cw a_row a_lea a_sli a_lef a_bst a_try a_mom a_byt a_nxt a_val p0 p1) sz) [(mo, .inr (7, [.ref a_now, .ref a_kep, .ref a_isk, .ref a_ref, .long 0, .long 1, .int 0, .int 0, .int 0, .int 0, .ref a_cw, .ref a_row, .int 0, .ref a_lea, .ref a_sli, .ref a_lef, .ref a_bst, .ref a_try, .int 0, .ref a_mom, .ref a_byt, .int 0, .int 0, .int 0, .int 0, .int 0, .ref a_nxt, .ref a_val])), (a_now, .inl (cI, 221, .inl nw0)), (a_ref, .inl (cI, 3, .inl (fun _ => 0)))] := hD
    rcases Classical.em (0 ≤ p1 ∧ p1 ≤ 4) with c_3 | c_3
    · rw [if_pos c_3] at h_3; subst h_3
      refine lv_if_ne (tgt := 26) hx hb dX7_about_16 (by decide) (fun _ => ?_) (fun c_4 => absurd c_4 (by decide))
      refine lv_iload_n hx hb dX7_about_26 rfl (lv_at hl 2 rfl) ?_
      rcases Classical.em (p1 = 0) with c_5 | c_5
      · refine q_i (z := 0) c_5 ?_
        refine lv_tableIn (off := 29) (tgt := 56) hx hb dX7_about_27 (by decide) (by decide) rfl (by decide) ?_
        refine lv_aload_n hx hb dX7_about_56 rfl (lv_at hl 0 rfl) ?_
        refine lv_iload_n hx hb dX7_about_57 rfl (lv_at hl 1 rfl) ?_
        refine q_Vi (wr := [(a_ref, .inl (cI, 3, .inl (fun _ => 0)))]) [0, 1] [2] hX hE hK hP hD hS hA hl.1 lk_X7_107 (c_m_kindOf l D cI cZ cP sa mo a_now a_kep a_isk a_ref a_cw a_row a_lea a_sli a_lef a_bst a_try a_mom a_byt a_nxt a_val p0 c_1 _) rfl rfl rfl rfl (by decide) 0 7 rfl rfl rfl rfl (Nat.le_of_ble_eq_true rfl) rfl rfl ⟨Nat.le_of_ble_eq_true rfl, Nat.le_of_ble_eq_true rfl⟩ ⟨Nat.le_of_ble_eq_true rfl, Nat.le_of_ble_eq_true rfl⟩ dX7_about_58 (fun x_6 _ H locs h_6 hP hD hS => ?_)
        have hP : va_P D vwCl [(a_ref, .inl (cI, 3, .inl (fun _ => 0))), (mo, .inr (7, [.ref a_now, .ref a_kep, .ref a_isk, .ref a_ref, .long 0, .long 1, .int 0, .int 0, .int 0, .int 0, .ref a_cw, .ref a_row, .int 0, .ref a_lea, .ref a_sli, .ref a_lef, .ref a_bst, .ref a_try, .int 0, .ref a_mom, .ref a_byt, .int 0, .int 0, .int 0, .int 0, .int 0, .ref a_nxt, .ref a_val])), (a_now, .inl (cI, 221, .inl nw0))] H := hP
        have hD : va_D (va_A (w_m_about cI cZ cP mo a_now a_kep a_isk a_ref a_cw a_row a_lea a_sli a_lef a_bst a_try a_mom a_byt a_nxt a_val p0 p1) sz) [(a_ref, .inl (cI, 3, .inl (fun _ => 0))), (mo, .inr (7, [.ref a_now, .ref a_kep, .ref a_isk, .ref a_ref, .long 0, .long 1, .int 0, .int 0, .int 0, .int 0, .ref a_cw, .ref a_row, .int 0, .ref a_lea, .ref a_sli, .ref a_lef, .ref a_bst, .ref a_try, .int 0, .ref a_mom, .ref a_byt, .int 0, .int 0, .int 0, .int 0, .int 0, .ref a_nxt, .ref a_val])), (a_now, .inl (cI, 221, .inl nw0))] := hD
        subst h_6
        exact q_iret hX hr hlk () (by simp [sp_about, c_1, c_3, c_5]) (hP.sub [] rfl) (hD.sub [] (by decide) rfl) hS dX7_about_61
      rcases Classical.em (p1 = 1) with c_7 | c_7
      · refine q_i (z := 1) c_7 ?_
        refine lv_tableIn (off := 35) (tgt := 62) hx hb dX7_about_27 (by decide) (by decide) rfl (by decide) ?_
        refine lv_aload_n hx hb dX7_about_62 rfl (lv_at hl 0 rfl) ?_
        refine lv_iload_n hx hb dX7_about_63 rfl (lv_at hl 1 rfl) ?_
        refine q_Vi (wr := [(a_ref, .inl (cI, 3, .inl (fun _ => 0)))]) [0, 1] [2] hX hE hK hP hD hS hA hl.1 lk_X7_133 (c_m_reaches l D cI cZ cP sa mo a_now a_kep a_isk a_ref a_cw a_row a_lea a_sli a_lef a_bst a_try a_mom a_byt a_nxt a_val p0 c_1 _) rfl rfl rfl rfl (by decide) 0 7 rfl rfl rfl rfl (Nat.le_of_ble_eq_true rfl) rfl rfl ⟨Nat.le_of_ble_eq_true rfl, Nat.le_of_ble_eq_true rfl⟩ ⟨Nat.le_of_ble_eq_true rfl, Nat.le_of_ble_eq_true rfl⟩ dX7_about_64 (fun x_8 _ H locs h_8 hP hD hS => ?_)
        have hP : va_P D vwCl [(a_ref, .inl (cI, 3, .inl (fun _ => 0))), (mo, .inr (7, [.ref a_now, .ref a_kep, .ref a_isk, .ref a_ref, .long 0, .long 1, .int 0, .int 0, .int 0, .int 0, .ref a_cw, .ref a_row, .int 0, .ref a_lea, .ref a_sli, .ref a_lef, .ref a_bst, .ref a_try, .int 0, .ref a_mom, .ref a_byt, .int 0, .int 0, .int 0, .int 0, .int 0, .ref a_nxt, .ref a_val])), (a_now, .inl (cI, 221, .inl nw0))] H := hP
        have hD : va_D (va_A (w_m_about cI cZ cP mo a_now a_kep a_isk a_ref a_cw a_row a_lea a_sli a_lef a_bst a_try a_mom a_byt a_nxt a_val p0 p1) sz) [(a_ref, .inl (cI, 3, .inl (fun _ => 0))), (mo, .inr (7, [.ref a_now, .ref a_kep, .ref a_isk, .ref a_ref, .long 0, .long 1, .int 0, .int 0, .int 0, .int 0, .ref a_cw, .ref a_row, .int 0, .ref a_lea, .ref a_sli, .ref a_lef, .ref a_bst, .ref a_try, .int 0, .ref a_mom, .ref a_byt, .int 0, .int 0, .int 0, .int 0, .int 0, .ref a_nxt, .ref a_val])), (a_now, .inl (cI, 221, .inl nw0))] := hD
        subst h_8
        exact q_iret hX hr hlk () (by simp [sp_about, c_1, c_3, c_5, c_7]) (hP.sub [] rfl) (hD.sub [] (by decide) rfl) hS dX7_about_67
      rcases Classical.em (p1 = 2) with c_9 | c_9
      · refine q_i (z := 2) c_9 ?_
        refine lv_tableIn (off := 41) (tgt := 68) hx hb dX7_about_27 (by decide) (by decide) rfl (by decide) ?_
        refine lv_aload_n hx hb dX7_about_68 rfl (lv_at hl 0 rfl) ?_
        refine lv_iload_n hx hb dX7_about_69 rfl (lv_at hl 1 rfl) ?_
        refine q_Vi (wr := [(a_ref, .inl (cI, 3, .inl (fun _ => 0)))]) [0, 1] [2] hX hE hK hP hD hS hA hl.1 lk_X7_136 (c_m_moves l D cI cZ cP sa mo a_now a_kep a_isk a_ref a_cw a_row a_lea a_sli a_lef a_bst a_try a_mom a_byt a_nxt a_val p0 c_1 _) rfl rfl rfl rfl (by decide) 0 7 rfl rfl rfl rfl (Nat.le_of_ble_eq_true rfl) rfl rfl ⟨Nat.le_of_ble_eq_true rfl, Nat.le_of_ble_eq_true rfl⟩ ⟨Nat.le_of_ble_eq_true rfl, Nat.le_of_ble_eq_true rfl⟩ dX7_about_70 (fun x_10 _ H locs h_10 hP hD hS => ?_)
        have hP : va_P D vwCl [(a_ref, .inl (cI, 3, .inl (fun _ => 0))), (mo, .inr (7, [.ref a_now, .ref a_kep, .ref a_isk, .ref a_ref, .long 0, .long 1, .int 0, .int 0, .int 0, .int 0, .ref a_cw, .ref a_row, .int 0, .ref a_lea, .ref a_sli, .ref a_lef, .ref a_bst, .ref a_try, .int 0, .ref a_mom, .ref a_byt, .int 0, .int 0, .int 0, .int 0, .int 0, .ref a_nxt, .ref a_val])), (a_now, .inl (cI, 221, .inl nw0))] H := hP
        have hD : va_D (va_A (w_m_about cI cZ cP mo a_now a_kep a_isk a_ref a_cw a_row a_lea a_sli a_lef a_bst a_try a_mom a_byt a_nxt a_val p0 p1) sz) [(a_ref, .inl (cI, 3, .inl (fun _ => 0))), (mo, .inr (7, [.ref a_now, .ref a_kep, .ref a_isk, .ref a_ref, .long 0, .long 1, .int 0, .int 0, .int 0, .int 0, .ref a_cw, .ref a_row, .int 0, .ref a_lea, .ref a_sli, .ref a_lef, .ref a_bst, .ref a_try, .int 0, .ref a_mom, .ref a_byt, .int 0, .int 0, .int 0, .int 0, .int 0, .ref a_nxt, .ref a_val])), (a_now, .inl (cI, 221, .inl nw0))] := hD
        subst h_10
        exact q_iret hX hr hlk () (by simp [sp_about, c_1, c_3, c_5, c_7, c_9]) (hP.sub [] rfl) (hD.sub [] (by decide) rfl) hS dX7_about_73
      rcases Classical.em (p1 = 3) with c_11 | c_11
      · refine q_i (z := 3) c_11 ?_
        refine lv_tableIn (off := 47) (tgt := 74) hx hb dX7_about_27 (by decide) (by decide) rfl (by decide) ?_
        refine lv_aload_n hx hb dX7_about_74 rfl (lv_at hl 0 rfl) ?_
        refine lv_iload_n hx hb dX7_about_75 rfl (lv_at hl 1 rfl) ?_
        refine q_Vi (wr := [(a_ref, .inl (cI, 3, .inl (fun _ => 0)))]) [0, 1] [2] hX hE hK hP hD hS hA hl.1 lk_X7_117 (c_m_nearOf l D cI cZ cP sa mo a_now a_kep a_isk a_ref a_cw a_row a_lea a_sli a_lef a_bst a_try a_mom a_byt a_nxt a_val p0 c_1 _) rfl rfl rfl rfl (by decide) 0 7 rfl rfl rfl rfl (Nat.le_of_ble_eq_true rfl) rfl rfl ⟨Nat.le_of_ble_eq_true rfl, Nat.le_of_ble_eq_true rfl⟩ ⟨Nat.le_of_ble_eq_true rfl, Nat.le_of_ble_eq_true rfl⟩ dX7_about_76 (fun x_12 _ H locs h_12 hP hD hS => ?_)
        have hP : va_P D vwCl [(a_ref, .inl (cI, 3, .inl (fun _ => 0))), (mo, .inr (7, [.ref a_now, .ref a_kep, .ref a_isk, .ref a_ref, .long 0, .long 1, .int 0, .int 0, .int 0, .int 0, .ref a_cw, .ref a_row, .int 0, .ref a_lea, .ref a_sli, .ref a_lef, .ref a_bst, .ref a_try, .int 0, .ref a_mom, .ref a_byt, .int 0, .int 0, .int 0, .int 0, .int 0, .ref a_nxt, .ref a_val])), (a_now, .inl (cI, 221, .inl nw0))] H := hP
        have hD : va_D (va_A (w_m_about cI cZ cP mo a_now a_kep a_isk a_ref a_cw a_row a_lea a_sli a_lef a_bst a_try a_mom a_byt a_nxt a_val p0 p1) sz) [(a_ref, .inl (cI, 3, .inl (fun _ => 0))), (mo, .inr (7, [.ref a_now, .ref a_kep, .ref a_isk, .ref a_ref, .long 0, .long 1, .int 0, .int 0, .int 0, .int 0, .ref a_cw, .ref a_row, .int 0, .ref a_lea, .ref a_sli, .ref a_lef, .ref a_bst, .ref a_try, .int 0, .ref a_mom, .ref a_byt, .int 0, .int 0, .int 0, .int 0, .int 0, .ref a_nxt, .ref a_val])), (a_now, .inl (cI, 221, .inl nw0))] := hD
        subst h_12
        exact q_iret hX hr hlk () (by simp [sp_about, c_1, c_3, c_5, c_7, c_9, c_11]) (hP.sub [] rfl) (hD.sub [] (by decide) rfl) hS dX7_about_79
      refine lv_tableOut (tgt := 80) hx hb dX7_about_27 (by have q0 := ne_toInt (v := 0) (n := 0) (by decide) c_5; have q1 := ne_toInt (v := 1) (n := 1) (by decide) c_7; have q2 := ne_toInt (v := 2) (n := 2) (by decide) c_9; have q3 := ne_toInt (v := 3) (n := 3) (by decide) c_11; omega) (by decide) ?_
      refine lv_aload_n hx hb dX7_about_80 rfl (lv_at hl 0 rfl) ?_
      refine lv_iload_n hx hb dX7_about_81 rfl (lv_at hl 1 rfl) ?_
      refine q_Vi (wr := [(a_ref, .inl (cI, 3, .inl (fun _ => 0)))]) [0, 1] [2] hX hE hK hP hD hS hA hl.1 lk_X7_160 (c_m_notesOf l D cI cZ cP sa mo a_now a_kep a_isk a_ref a_cw a_row a_lea a_sli a_lef a_bst a_try a_mom a_byt a_nxt a_val p0 _) rfl rfl rfl rfl (by decide) 0 7 rfl rfl rfl rfl (Nat.le_of_ble_eq_true rfl) rfl rfl ⟨Nat.le_of_ble_eq_true rfl, Nat.le_of_ble_eq_true rfl⟩ ⟨Nat.le_of_ble_eq_true rfl, Nat.le_of_ble_eq_true rfl⟩ dX7_about_82 (fun x_13 _ H locs h_13 hP hD hS => ?_)
      have hP : va_P D vwCl [(a_ref, .inl (cI, 3, .inl (fun _ => 0))), (mo, .inr (7, [.ref a_now, .ref a_kep, .ref a_isk, .ref a_ref, .long 0, .long 1, .int 0, .int 0, .int 0, .int 0, .ref a_cw, .ref a_row, .int 0, .ref a_lea, .ref a_sli, .ref a_lef, .ref a_bst, .ref a_try, .int 0, .ref a_mom, .ref a_byt, .int 0, .int 0, .int 0, .int 0, .int 0, .ref a_nxt, .ref a_val])), (a_now, .inl (cI, 221, .inl nw0))] H := hP
      have hD : va_D (va_A (w_m_about cI cZ cP mo a_now a_kep a_isk a_ref a_cw a_row a_lea a_sli a_lef a_bst a_try a_mom a_byt a_nxt a_val p0 p1) sz) [(a_ref, .inl (cI, 3, .inl (fun _ => 0))), (mo, .inr (7, [.ref a_now, .ref a_kep, .ref a_isk, .ref a_ref, .long 0, .long 1, .int 0, .int 0, .int 0, .int 0, .ref a_cw, .ref a_row, .int 0, .ref a_lea, .ref a_sli, .ref a_lef, .ref a_bst, .ref a_try, .int 0, .ref a_mom, .ref a_byt, .int 0, .int 0, .int 0, .int 0, .int 0, .ref a_nxt, .ref a_val])), (a_now, .inl (cI, 221, .inl nw0))] := hD
      subst h_13
      exact q_iret hX hr hlk () (by have q := four_of c_3 c_5 c_7 c_9 c_11; simp [sp_about, q, c_1]) (hP.sub [] rfl) (hD.sub [] (by decide) rfl) hS dX7_about_85
    · rw [if_neg c_3] at h_3; subst h_3
      refine lv_if_ne (tgt := 26) hx hb dX7_about_16 (by decide) (fun c_14 => absurd (by decide) c_14) (fun _ => ?_)
      refine lv_aload_n hx hb dX7_about_19 rfl (lv_at hl 0 rfl) ?_
      refine lv_bipush (v := (-2)) hx hb dX7_about_20 (by decide) ?_
      refine q_Vi (wr := [(a_now, .inl (cI, 221, .inl nw0))]) [0, 2] [1] hX hE hK hP hD hS hA hl.1 lk_X7_76 (c_m_bad l D cI cZ cP sa mo a_now a_kep a_isk a_ref a_cw a_row a_lea a_sli a_lef a_bst a_try a_mom a_byt a_nxt a_val 0 1 0 0 0 0 0 0 0 0 0 0 0 (-2) _) rfl rfl rfl rfl (by decide) 0 7 rfl rfl rfl rfl (Nat.le_of_ble_eq_true rfl) rfl rfl ⟨Nat.le_of_ble_eq_true rfl, Nat.le_of_ble_eq_true rfl⟩ ⟨Nat.le_of_ble_eq_true rfl, Nat.le_of_ble_eq_true rfl⟩ dX7_about_22 (fun x_15 _ H locs h_15 hP hD hS => ?_)
      have hP : va_P D vwCl [(a_now, .inl (cI, 221, .inl nw0))] H := hP
      have hD : va_D (va_A (w_m_about cI cZ cP mo a_now a_kep a_isk a_ref a_cw a_row a_lea a_sli a_lef a_bst a_try a_mom a_byt a_nxt a_val p0 p1) sz) [(a_now, .inl (cI, 221, .inl nw0))] := hD
      subst h_15
      exact q_iret hX hr hlk () (by rw [sp_about_out c_3]) (hP.sub [] rfl) (hD.sub [] (by decide) rfl) hS dX7_about_25
  · rw [if_neg c_1] at h_1; subst h_1
    refine lv_if_eq (tgt := 19) hx hb dX7_about_4 (by decide) (fun _ => ?_) (fun c_16 => absurd (by decide) c_16)
    refine lv_aload_n hx hb dX7_about_19 rfl (lv_at hl 0 rfl) ?_
    refine lv_bipush (v := (-2)) hx hb dX7_about_20 (by decide) ?_
    refine q_Vi (wr := [(a_now, .inl (cI, 221, .inl nw0))]) [0, 2] [1] hX hE hK hP hD hS hA hl.1 lk_X7_76 (c_m_bad l D cI cZ cP sa mo a_now a_kep a_isk a_ref a_cw a_row a_lea a_sli a_lef a_bst a_try a_mom a_byt a_nxt a_val 0 1 0 0 0 0 0 0 0 0 0 0 0 (-2) _) rfl rfl rfl rfl (by decide) 0 7 rfl rfl rfl rfl (Nat.le_of_ble_eq_true rfl) rfl rfl ⟨Nat.le_of_ble_eq_true rfl, Nat.le_of_ble_eq_true rfl⟩ ⟨Nat.le_of_ble_eq_true rfl, Nat.le_of_ble_eq_true rfl⟩ dX7_about_22 (fun x_17 _ H locs h_17 hP hD hS => ?_)
    have hP : va_P D vwCl [(a_now, .inl (cI, 221, .inl nw0))] H := hP
    have hD : va_D (va_A (w_m_about cI cZ cP mo a_now a_kep a_isk a_ref a_cw a_row a_lea a_sli a_lef a_bst a_try a_mom a_byt a_nxt a_val p0 p1) sz) [(a_now, .inl (cI, 221, .inl nw0))] := hD
    subst h_17
    exact q_iret hX hr hlk () (by simp [sp_about, c_1]) (hP.sub [] rfl) (hD.sub [] (by decide) rfl) hS dX7_about_25
abbrev w_m_weigh (cI cZ cP : ClassId) (mo : Nat) (a_now : Nat) (a_kep : Nat) (a_isk : Nat) (a_ref : Nat) (a_cw : Nat) (a_row : Nat) (a_lea : Nat) (a_sli : Nat) (a_lef : Nat) (a_bst : Nat) (a_try : Nat) (a_mom : Nat) (a_byt : Nat) (a_nxt : Nat) (a_val : Nat) : va_W := [(mo, .inr (7, [.ref a_now, .ref a_kep, .ref a_isk, .ref a_ref, .long 0, .long 1, .int 1000000, .int 0, .int 0, .int 0, .ref a_cw, .ref a_row, .int 0, .ref a_lea, .ref a_sli, .ref a_lef, .ref a_bst, .ref a_try, .int 0, .ref a_mom, .ref a_byt, .int 0, .int 0, .int 0, .int 0, .int 0, .ref a_nxt, .ref a_val])), (a_now, .inl (cI, 221, .inl nw0))]
set_option maxHeartbeats 4000000 in
set_option maxRecDepth 100000 in
theorem c_m_weigh (l : Launch) (D : va_G) (cI cZ cP : ClassId) (sa : Nat → Nat) (mo : Nat) (a_now : Nat) (a_kep : Nat) (a_isk : Nat) (a_ref : Nat) (a_cw : Nat) (a_row : Nat) (a_lea : Nat) (a_sli : Nat) (a_lef : Nat) (a_bst : Nat) (a_try : Nat) (a_mom : Nat) (a_byt : Nat) (a_nxt : Nat) (a_val : Nat) (sz : Nat) : Met l yX7_weigh (qW yX7_weigh cX7_weigh 5 none) ({ frames := 2, cells := 0, slots := 0, locals := 43 } : Room) (qP D (TY cI cZ cP) sa [.ref mo, .int 0, .int (-1), .int (-1)] (w_m_weigh cI cZ cP mo a_now a_kep a_isk a_ref a_cw a_row a_lea a_sli a_lef a_bst a_try a_mom a_byt a_nxt a_val) sz) (qQv D (w_m_weigh cI cZ cP mo a_now a_kep a_isk a_ref a_cw a_row a_lea a_sli a_lef a_bst a_try a_mom a_byt a_nxt a_val) sz (fun _ : Unit => True) (fun _ => [(mo, .inr (7, [.ref a_now, .ref a_kep, .ref a_isk, .ref a_ref, .long 0, .long 1, .int 0, .int 0, .int (-1), .int (-1), .ref a_cw, .ref a_row, .int 0, .ref a_lea, .ref a_sli, .ref a_lef, .ref a_bst, .ref a_try, .int 0, .ref a_mom, .ref a_byt, .int 0, .int 0, .int 0, .int 0, .int 0, .ref a_nxt, .ref a_val])), (a_now, .inl (cI, 221, .inl nw0))])) 0 0 (va_A (w_m_weigh cI cZ cP mo a_now a_kep a_isk a_ref a_cw a_row a_lea a_sli a_lef a_bst a_try a_mom a_byt a_nxt a_val) sz) := by
  refine q_enter (by decide) (Nat.le_of_ble_eq_true rfl) ?_
  intro p e s m below meth c ls hX hr hlk hnm hE hK hP hD hS hA hl
  obtain ⟨hx, hb, hml, hown, ht⟩ := id hX
  have hl : lv_has ls 5 [(0, .ref mo), (1, .int 0), (2, .int (-1)), (3, .int (-1))] := hl
  refine lv_aload_n hx hb dX7_weigh_0 rfl (lv_at hl 0 rfl) ?_
  refine q_Vi (wr := []) [0, 1] [] hX hE hK hP hD hS hA hl.1 lk_X7_152 (c_m_clashesNow l D cI cZ cP sa mo a_now a_kep a_isk a_ref a_cw a_row a_lea a_sli a_lef a_bst a_try a_mom a_byt a_nxt a_val 0 1 1000000 0 0 0 0 0 0 0 0 0 0 _) rfl rfl rfl rfl (by decide) 0 7 rfl rfl rfl rfl (Nat.le_of_ble_eq_true rfl) rfl rfl ⟨Nat.le_of_ble_eq_true rfl, Nat.le_of_ble_eq_true rfl⟩ ⟨Nat.le_of_ble_eq_true rfl, Nat.le_of_ble_eq_true rfl⟩ dX7_weigh_1 (fun x_1 _ H locs h_1 hP hD hS => ?_)
  have hP : va_P D vwCl [(mo, .inr (7, [.ref a_now, .ref a_kep, .ref a_isk, .ref a_ref, .long 0, .long 1, .int 1000000, .int 0, .int 0, .int 0, .ref a_cw, .ref a_row, .int 0, .ref a_lea, .ref a_sli, .ref a_lef, .ref a_bst, .ref a_try, .int 0, .ref a_mom, .ref a_byt, .int 0, .int 0, .int 0, .int 0, .int 0, .ref a_nxt, .ref a_val])), (a_now, .inl (cI, 221, .inl nw0))] H := hP
  have hD : va_D (va_A (w_m_weigh cI cZ cP mo a_now a_kep a_isk a_ref a_cw a_row a_lea a_sli a_lef a_bst a_try a_mom a_byt a_nxt a_val) sz) [(mo, .inr (7, [.ref a_now, .ref a_kep, .ref a_isk, .ref a_ref, .long 0, .long 1, .int 1000000, .int 0, .int 0, .int 0, .ref a_cw, .ref a_row, .int 0, .ref a_lea, .ref a_sli, .ref a_lef, .ref a_bst, .ref a_try, .int 0, .ref a_mom, .ref a_byt, .int 0, .int 0, .int 0, .int 0, .int 0, .ref a_nxt, .ref a_val])), (a_now, .inl (cI, 221, .inl nw0))] := hD
  subst h_1
  refine lv_istore (lv' := [(4, .int 0), (0, .ref mo), (1, .int 0), (2, .int (-1)), (3, .int (-1))]) hx hb dX7_weigh_4 hl (by decide) rfl (fun ls hl => ?_)
  refine lv_iload hx hb dX7_weigh_6 (lv_at hl 0 rfl) ?_
  refine lv_aload_n hx hb dX7_weigh_8 rfl (lv_at hl 1 rfl) ?_
  refine va_get (D := D) (ci := 7) (v := .int 1000000) (C := RX7) (T := TX7) (N := 28) hx hb ht inX7 hown hK hP 0 rfl rfl 6 (Nat.le_of_ble_eq_true rfl) (ht _ kw_910) (fun _ h9 => h9) rfl dX7_weigh_9 ?_
  refine lv_icmp_ge (tgt := 36) hx hb dX7_weigh_12 (by decide) (fun c_2 => absurd c_2 (by decide)) (fun _ => ?_)
  refine lv_aload_n hx hb dX7_weigh_15 rfl (lv_at hl 1 rfl) ?_
  refine lv_iload hx hb dX7_weigh_16 (lv_at hl 0 rfl) ?_
  refine va_put (D := D) (ci := 7) (v := .int 0) (ty := .int) (C := RX7) (T := TX7) (N := 28) hx hb ht inX7 tyX7 tyX7_ok nmX7 hown hK hP hD hS 0 rfl rfl 6 (Nat.le_of_ble_eq_true rfl) (ht _ kw_910) (fun _ h9 => h9) rfl (by decide +kernel) rfl rfl (Nat.le_of_ble_eq_true rfl) dX7_weigh_18 (fun H locs hP hD hS => ?_)
  have hP : va_P D vwCl [(mo, .inr (7, [.ref a_now, .ref a_kep, .ref a_isk, .ref a_ref, .long 0, .long 1, .int 0, .int 0, .int 0, .int 0, .ref a_cw, .ref a_row, .int 0, .ref a_lea, .ref a_sli, .ref a_lef, .ref a_bst, .ref a_try, .int 0, .ref a_mom, .ref a_byt, .int 0, .int 0, .int 0, .int 0, .int 0, .ref a_nxt, .ref a_val])), (a_now, .inl (cI, 221, .inl nw0))] H := hP
  have hD : va_D (va_A (w_m_weigh cI cZ cP mo a_now a_kep a_isk a_ref a_cw a_row a_lea a_sli a_lef a_bst a_try a_mom a_byt a_nxt a_val) sz) [(mo, .inr (7, [.ref a_now, .ref a_kep, .ref a_isk, .ref a_ref, .long 0, .long 1, .int 0, .int 0, .int 0, .int 0, .ref a_cw, .ref a_row, .int 0, .ref a_lea, .ref a_sli, .ref a_lef, .ref a_bst, .ref a_try, .int 0, .ref a_mom, .ref a_byt, .int 0, .int 0, .int 0, .int 0, .int 0, .ref a_nxt, .ref a_val])), (a_now, .inl (cI, 221, .inl nw0))] := hD
  refine lv_aload_n hx hb dX7_weigh_21 rfl (lv_at hl 1 rfl) ?_
  refine lv_iload_n hx hb dX7_weigh_22 rfl (lv_at hl 2 rfl) ?_
  refine va_put (D := D) (ci := 7) (v := .int 0) (ty := .int) (C := RX7) (T := TX7) (N := 28) hx hb ht inX7 tyX7 tyX7_ok nmX7 hown hK hP hD hS 0 rfl rfl 7 (Nat.le_of_ble_eq_true rfl) (ht _ kw_911) (fun _ h9 => h9) rfl (by decide +kernel) rfl rfl (Nat.le_of_ble_eq_true rfl) dX7_weigh_23 (fun H locs hP hD hS => ?_)
  have hP : va_P D vwCl [(mo, .inr (7, [.ref a_now, .ref a_kep, .ref a_isk, .ref a_ref, .long 0, .long 1, .int 0, .int 0, .int 0, .int 0, .ref a_cw, .ref a_row, .int 0, .ref a_lea, .ref a_sli, .ref a_lef, .ref a_bst, .ref a_try, .int 0, .ref a_mom, .ref a_byt, .int 0, .int 0, .int 0, .int 0, .int 0, .ref a_nxt, .ref a_val])), (a_now, .inl (cI, 221, .inl nw0))] H := hP
  have hD : va_D (va_A (w_m_weigh cI cZ cP mo a_now a_kep a_isk a_ref a_cw a_row a_lea a_sli a_lef a_bst a_try a_mom a_byt a_nxt a_val) sz) [(mo, .inr (7, [.ref a_now, .ref a_kep, .ref a_isk, .ref a_ref, .long 0, .long 1, .int 0, .int 0, .int 0, .int 0, .ref a_cw, .ref a_row, .int 0, .ref a_lea, .ref a_sli, .ref a_lef, .ref a_bst, .ref a_try, .int 0, .ref a_mom, .ref a_byt, .int 0, .int 0, .int 0, .int 0, .int 0, .ref a_nxt, .ref a_val])), (a_now, .inl (cI, 221, .inl nw0))] := hD
  refine lv_aload_n hx hb dX7_weigh_26 rfl (lv_at hl 1 rfl) ?_
  refine lv_iload_n hx hb dX7_weigh_27 rfl (lv_at hl 3 rfl) ?_
  refine va_put (D := D) (ci := 7) (v := .int (-1)) (ty := .int) (C := RX7) (T := TX7) (N := 28) hx hb ht inX7 tyX7 tyX7_ok nmX7 hown hK hP hD hS 0 rfl rfl 8 (Nat.le_of_ble_eq_true rfl) (ht _ kw_912) (fun _ h9 => h9) rfl (by decide +kernel) rfl rfl (Nat.le_of_ble_eq_true rfl) dX7_weigh_28 (fun H locs hP hD hS => ?_)
  have hP : va_P D vwCl [(mo, .inr (7, [.ref a_now, .ref a_kep, .ref a_isk, .ref a_ref, .long 0, .long 1, .int 0, .int 0, .int (-1), .int 0, .ref a_cw, .ref a_row, .int 0, .ref a_lea, .ref a_sli, .ref a_lef, .ref a_bst, .ref a_try, .int 0, .ref a_mom, .ref a_byt, .int 0, .int 0, .int 0, .int 0, .int 0, .ref a_nxt, .ref a_val])), (a_now, .inl (cI, 221, .inl nw0))] H := hP
  have hD : va_D (va_A (w_m_weigh cI cZ cP mo a_now a_kep a_isk a_ref a_cw a_row a_lea a_sli a_lef a_bst a_try a_mom a_byt a_nxt a_val) sz) [(mo, .inr (7, [.ref a_now, .ref a_kep, .ref a_isk, .ref a_ref, .long 0, .long 1, .int 0, .int 0, .int (-1), .int 0, .ref a_cw, .ref a_row, .int 0, .ref a_lea, .ref a_sli, .ref a_lef, .ref a_bst, .ref a_try, .int 0, .ref a_mom, .ref a_byt, .int 0, .int 0, .int 0, .int 0, .int 0, .ref a_nxt, .ref a_val])), (a_now, .inl (cI, 221, .inl nw0))] := hD
  refine lv_aload_n hx hb dX7_weigh_31 rfl (lv_at hl 1 rfl) ?_
  refine lv_iload_n hx hb dX7_weigh_32 rfl (lv_at hl 4 rfl) ?_
  refine va_put (D := D) (ci := 7) (v := .int (-1)) (ty := .int) (C := RX7) (T := TX7) (N := 28) hx hb ht inX7 tyX7 tyX7_ok nmX7 hown hK hP hD hS 0 rfl rfl 9 (Nat.le_of_ble_eq_true rfl) (ht _ kw_913) (fun _ h9 => h9) rfl (by decide +kernel) rfl rfl (Nat.le_of_ble_eq_true rfl) dX7_weigh_33 (fun H locs hP hD hS => ?_)
  have hP : va_P D vwCl [(mo, .inr (7, [.ref a_now, .ref a_kep, .ref a_isk, .ref a_ref, .long 0, .long 1, .int 0, .int 0, .int (-1), .int (-1), .ref a_cw, .ref a_row, .int 0, .ref a_lea, .ref a_sli, .ref a_lef, .ref a_bst, .ref a_try, .int 0, .ref a_mom, .ref a_byt, .int 0, .int 0, .int 0, .int 0, .int 0, .ref a_nxt, .ref a_val])), (a_now, .inl (cI, 221, .inl nw0))] H := hP
  have hD : va_D (va_A (w_m_weigh cI cZ cP mo a_now a_kep a_isk a_ref a_cw a_row a_lea a_sli a_lef a_bst a_try a_mom a_byt a_nxt a_val) sz) [(mo, .inr (7, [.ref a_now, .ref a_kep, .ref a_isk, .ref a_ref, .long 0, .long 1, .int 0, .int 0, .int (-1), .int (-1), .ref a_cw, .ref a_row, .int 0, .ref a_lea, .ref a_sli, .ref a_lef, .ref a_bst, .ref a_try, .int 0, .ref a_mom, .ref a_byt, .int 0, .int 0, .int 0, .int 0, .int 0, .ref a_nxt, .ref a_val])), (a_now, .inl (cI, 221, .inl nw0))] := hD
  exact q_vret hX hr hlk () trivial (hP.sub [0, 1] rfl) (hD.sub [0, 1] (by decide) rfl) hS dX7_weigh_36
abbrev w_m_tryOne (cI cZ cP : ClassId) (mo : Nat) (a_now : Nat) (a_kep : Nat) (a_isk : Nat) (a_ref : Nat) (a_cw : Nat) (a_row : Nat) (a_lea : Nat) (a_sli : Nat) (a_lef : Nat) (a_bst : Nat) (a_try : Nat) (a_mom : Nat) (a_byt : Nat) (a_nxt : Nat) (a_val : Nat) (p0 : Int32) : va_W := [(mo, .inr (7, [.ref a_now, .ref a_kep, .ref a_isk, .ref a_ref, .long 0, .long 1, .int 0, .int 0, .int (-1), .int (-1), .ref a_cw, .ref a_row, .int 0, .ref a_lea, .ref a_sli, .ref a_lef, .ref a_bst, .ref a_try, .int 0, .ref a_mom, .ref a_byt, .int 0, .int 0, .int 0, .int 0, .int 0, .ref a_nxt, .ref a_val])), (a_now, .inl (cI, 221, .inl nw0))]
set_option maxHeartbeats 4000000 in
set_option maxRecDepth 100000 in
theorem c_m_tryOne (l : Launch) (D : va_G) (cI cZ cP : ClassId) (sa : Nat → Nat) (mo : Nat) (a_now : Nat) (a_kep : Nat) (a_isk : Nat) (a_ref : Nat) (a_cw : Nat) (a_row : Nat) (a_lea : Nat) (a_sli : Nat) (a_lef : Nat) (a_bst : Nat) (a_try : Nat) (a_mom : Nat) (a_byt : Nat) (a_nxt : Nat) (a_val : Nat) (p0 : Int32) (sz : Nat) : Met l yX7_tryOne (qW yX7_tryOne cX7_tryOne 5 none) ({ frames := 1, cells := 0, slots := 0, locals := 20 } : Room) (qP D (TY cI cZ cP) sa [.ref mo, .int p0] (w_m_tryOne cI cZ cP mo a_now a_kep a_isk a_ref a_cw a_row a_lea a_sli a_lef a_bst a_try a_mom a_byt a_nxt a_val p0) sz) (qQv D (w_m_tryOne cI cZ cP mo a_now a_kep a_isk a_ref a_cw a_row a_lea a_sli a_lef a_bst a_try a_mom a_byt a_nxt a_val p0) sz (fun _ : Unit => True) (fun _ => [(mo, .inr (7, [.ref a_now, .ref a_kep, .ref a_isk, .ref a_ref, .long 0, .long 1, .int 0, .int 0, .int (-1), .int (-1), .ref a_cw, .ref a_row, .int 0, .ref a_lea, .ref a_sli, .ref a_lef, .ref a_bst, .ref a_try, .int 0, .ref a_mom, .ref a_byt, .int 0, .int 0, .int 0, .int 0, .int 0, .ref a_nxt, .ref a_val])), (a_now, .inl (cI, 221, .inl nw0))])) 0 0 (va_A (w_m_tryOne cI cZ cP mo a_now a_kep a_isk a_ref a_cw a_row a_lea a_sli a_lef a_bst a_try a_mom a_byt a_nxt a_val p0) sz) := by
  refine q_enter (by decide) (Nat.le_of_ble_eq_true rfl) ?_
  intro p e s m below meth c ls hX hr hlk hnm hE hK hP hD hS hA hl
  obtain ⟨hx, hb, hml, hown, ht⟩ := id hX
  have hl : lv_has ls 5 [(0, .ref mo), (1, .int p0)] := hl
  refine lv_iconst (v := 0) hx hb dX7_tryOne_0 (by decide) ?_
  refine lv_istore_n (lv' := [(2, .int 0), (0, .ref mo), (1, .int p0)]) hx hb dX7_tryOne_1 rfl hl (by decide) rfl (fun ls hl => ?_)
  refine lv_iload_n hx hb dX7_tryOne_2 rfl (lv_at hl 0 rfl) ?_
  refine lv_aload_n hx hb dX7_tryOne_3 rfl (lv_at hl 1 rfl) ?_
  refine q_Vi (wr := []) [0, 1] [] hX hE hK hP hD hS hA hl.1 lk_X7_64 (c_m_notes l D cI cZ cP sa mo a_now a_kep a_isk a_ref a_cw a_row a_lea a_sli a_lef a_bst a_try a_mom a_byt a_nxt a_val 0 1 0 0 (-1) (-1) 0 0 0 0 0 0 0 _) rfl rfl rfl rfl (by decide) 0 7 rfl rfl rfl rfl (Nat.le_of_ble_eq_true rfl) rfl rfl ⟨Nat.le_of_ble_eq_true rfl, Nat.le_of_ble_eq_true rfl⟩ ⟨Nat.le_of_ble_eq_true rfl, Nat.le_of_ble_eq_true rfl⟩ dX7_tryOne_4 (fun x_1 _ H locs h_1 hP hD hS => ?_)
  have hP : va_P D vwCl [(mo, .inr (7, [.ref a_now, .ref a_kep, .ref a_isk, .ref a_ref, .long 0, .long 1, .int 0, .int 0, .int (-1), .int (-1), .ref a_cw, .ref a_row, .int 0, .ref a_lea, .ref a_sli, .ref a_lef, .ref a_bst, .ref a_try, .int 0, .ref a_mom, .ref a_byt, .int 0, .int 0, .int 0, .int 0, .int 0, .ref a_nxt, .ref a_val])), (a_now, .inl (cI, 221, .inl nw0))] H := hP
  have hD : va_D (va_A (w_m_tryOne cI cZ cP mo a_now a_kep a_isk a_ref a_cw a_row a_lea a_sli a_lef a_bst a_try a_mom a_byt a_nxt a_val p0) sz) [(mo, .inr (7, [.ref a_now, .ref a_kep, .ref a_isk, .ref a_ref, .long 0, .long 1, .int 0, .int 0, .int (-1), .int (-1), .ref a_cw, .ref a_row, .int 0, .ref a_lea, .ref a_sli, .ref a_lef, .ref a_bst, .ref a_try, .int 0, .ref a_mom, .ref a_byt, .int 0, .int 0, .int 0, .int 0, .int 0, .ref a_nxt, .ref a_val])), (a_now, .inl (cI, 221, .inl nw0))] := hD
  subst h_1
  refine lv_icmp_ge (tgt := 94) hx hb dX7_tryOne_7 (by decide) (fun _ => ?_) (fun c_2 => absurd (by decide) c_2)
  exact q_vret hX hr hlk () trivial (hP.sub [0, 1] rfl) (hD.sub [0, 1] (by decide) rfl) hS dX7_tryOne_94
abbrev w_m_given (cI cZ cP : ClassId) (mo : Nat) (a_now : Nat) (a_kep : Nat) (a_isk : Nat) (a_ref : Nat) (a_cw : Nat) (a_row : Nat) (a_lea : Nat) (a_sli : Nat) (a_lef : Nat) (a_bst : Nat) (a_try : Nat) (a_mom : Nat) (a_byt : Nat) (a_nxt : Nat) (a_val : Nat) (p0 : Int32) (p1 : Int32) : va_W := [(mo, .inr (7, [.ref a_now, .ref a_kep, .ref a_isk, .ref a_ref, .long 0, .long 1, .int 0, .int 0, .int 0, .int 0, .ref a_cw, .ref a_row, .int 0, .ref a_lea, .ref a_sli, .ref a_lef, .ref a_bst, .ref a_try, .int 0, .ref a_mom, .ref a_byt, .int 0, .int 0, .int 0, .int 0, .int 0, .ref a_nxt, .ref a_val])), (a_now, .inl (cI, 221, .inl nw0)), (a_ref, .inl (cI, 3, .inl (fun _ => 0)))]
set_option maxHeartbeats 4000000 in
set_option maxRecDepth 100000 in
theorem c_m_given (l : Launch) (D : va_G) (cI cZ cP : ClassId) (sa : Nat → Nat) (mo : Nat) (a_now : Nat) (a_kep : Nat) (a_isk : Nat) (a_ref : Nat) (a_cw : Nat) (a_row : Nat) (a_lea : Nat) (a_sli : Nat) (a_lef : Nat) (a_bst : Nat) (a_try : Nat) (a_mom : Nat) (a_byt : Nat) (a_nxt : Nat) (a_val : Nat) (p0 : Int32) (p1 : Int32) (sz : Nat) : Met l yX7_given (qW yX7_given cX7_given 3 (some .int)) ({ frames := 3, cells := 0, slots := 0, locals := 67 } : Room) (qP D (TY cI cZ cP) sa [.ref mo, .int p0, .int p1] (w_m_given cI cZ cP mo a_now a_kep a_isk a_ref a_cw a_row a_lea a_sli a_lef a_bst a_try a_mom a_byt a_nxt a_val p0 p1) sz) (qQi D (w_m_given cI cZ cP mo a_now a_kep a_isk a_ref a_cw a_row a_lea a_sli a_lef a_bst a_try a_mom a_byt a_nxt a_val p0 p1) sz (fun (r : Int32) (_ : Unit) => r = sp_given p0 p1) (fun _ => [])) 0 0 (va_A (w_m_given cI cZ cP mo a_now a_kep a_isk a_ref a_cw a_row a_lea a_sli a_lef a_bst a_try a_mom a_byt a_nxt a_val p0 p1) sz) := by
  refine q_enter (by decide) (Nat.le_of_ble_eq_true rfl) ?_
  intro p e s m below meth c ls hX hr hlk hnm hE hK hP hD hS hA hl
  obtain ⟨hx, hb, hml, hown, ht⟩ := id hX
  have hl : lv_has ls 3 [(0, .ref mo), (1, .int p0), (2, .int p1)] := hl
  refine lv_iload_n hx hb dX7_given_0 rfl (lv_at hl 1 rfl) ?_
  refine lv_i2l (v := (p0.toInt64)) hx hb dX7_given_1 rfl ?_
  refine lv_lconst (v := 0) hx hb dX7_given_2 (by decide) ?_
  refine q_l (z := ((0 : Int32).toInt64)) (by decide) ?_
  refine lv_ldc2 hx hb hown (ht _ kw_1130) dX7_given_3 ?_
  refine q_l (z := ((2 : Int32).toInt64)) (by decide) ?_
  refine q_Si (wr := [(mo, .inr (7, [.ref a_now, .ref a_kep, .ref a_isk, .ref a_ref, .long 0, .long 1, .int 0, .int 0, .int 0, .int 0, .ref a_cw, .ref a_row, .int 0, .ref a_lea, .ref a_sli, .ref a_lef, .ref a_bst, .ref a_try, .int 0, .ref a_mom, .ref a_byt, .int 0, .int 0, .int 0, .int 0, .int 0, .ref a_nxt, .ref a_val])), (a_now, .inl (cI, 221, .inl nw0)), (a_ref, .inl (cI, 3, .inl (fun _ => 0)))]) [] [0, 1, 2] hX hE hK hP hD hS hA hl.1 lk_X7_68 (c_m_in l D cI cZ cP sa p0 0 2 _) rfl rfl rfl rfl (by decide) rfl rfl (Nat.le_of_ble_eq_true rfl) rfl rfl ⟨Nat.le_of_ble_eq_true rfl, Nat.le_of_ble_eq_true rfl⟩ ⟨Nat.le_of_ble_eq_true rfl, Nat.le_of_ble_eq_true rfl⟩ dX7_given_6 (fun x_1 _ H locs h_1 hP hD hS => ?_)
  have hP : va_P D vwCl [(mo, .inr (7, [.ref a_now, .ref a_kep, .ref a_isk, .ref a_ref, .long 0, .long 1, .int 0, .int 0, .int 0, .int 0, .ref a_cw, .ref a_row, .int 0, .ref a_lea, .ref a_sli, .ref a_lef, .ref a_bst, .ref a_try, .int 0, .ref a_mom, .ref a_byt, .int 0, .int 0, .int 0, .int 0, .int 0, .ref a_nxt, .ref a_val])), (a_now, .inl (cI, 221, .inl nw0)), (a_ref, .inl (cI, 3, .inl (fun _ => 0)))] H := hP
  have hD : va_D (va_A (w_m_given cI cZ cP mo a_now a_kep a_isk a_ref a_cw a_row a_lea a_sli a_lef a_bst a_try a_mom a_byt a_nxt a_val p0 p1) sz) [(mo, .inr (7, [.ref a_now, .ref a_kep, .ref a_isk, .ref a_ref, .long 0, .long 1, .int 0, .int 0, .int 0, .int 0, .ref a_cw, .ref a_row, .int 0, .ref a_lea, .ref a_sli, .ref a_lef, .ref a_bst, .ref a_try, .int 0, .ref a_mom, .ref a_byt, .int 0, .int 0, .int 0, .int 0, .int 0, .ref a_nxt, .ref a_val])), (a_now, .inl (cI, 221, .inl nw0)), (a_ref, .inl (cI, 3, .inl (fun _ => 0)))] := hD
  rcases Classical.em (0 ≤ p0 ∧ p0 ≤ 2) with c_1 | c_1
  · rw [if_pos c_1] at h_1; subst h_1
    refine lv_if_eq (tgt := 17) hx hb dX7_given_9 (by decide) (fun c_2 => absurd c_2 (by decide)) (fun _ => ?_)
    refine lv_iload_n hx hb dX7_given_12 rfl (lv_at hl 2 rfl) ?_
    refine lv_iconst (v := (-1)) hx hb dX7_given_13 (by decide) ?_
    refine lv_icmp_ge (tgt := 24) hx hb dX7_given_14 (by decide) (fun c_3 => ?_) (fun c_3 => ?_)
    · refine lv_aload_n hx hb dX7_given_24 rfl (lv_at hl 0 rfl) ?_
      refine lv_ldc hx hb hown (ht _ kw_1131) dX7_given_25 ?_
      refine va_put (D := D) (ci := 7) (v := .int 1000000) (ty := .int) (C := RX7) (T := TX7) (N := 28) hx hb ht inX7 tyX7 tyX7_ok nmX7 hown hK hP hD hS 0 rfl rfl 6 (Nat.le_of_ble_eq_true rfl) (ht _ kw_910) (fun _ h9 => h9) rfl (by decide +kernel) rfl rfl (Nat.le_of_ble_eq_true rfl) dX7_given_27 (fun H locs hP hD hS => ?_)
      have hP : va_P D vwCl [(mo, .inr (7, [.ref a_now, .ref a_kep, .ref a_isk, .ref a_ref, .long 0, .long 1, .int 1000000, .int 0, .int 0, .int 0, .ref a_cw, .ref a_row, .int 0, .ref a_lea, .ref a_sli, .ref a_lef, .ref a_bst, .ref a_try, .int 0, .ref a_mom, .ref a_byt, .int 0, .int 0, .int 0, .int 0, .int 0, .ref a_nxt, .ref a_val])), (a_now, .inl (cI, 221, .inl nw0)), (a_ref, .inl (cI, 3, .inl (fun _ => 0)))] H := hP
      have hD : va_D (va_A (w_m_given cI cZ cP mo a_now a_kep a_isk a_ref a_cw a_row a_lea a_sli a_lef a_bst a_try a_mom a_byt a_nxt a_val p0 p1) sz) [(mo, .inr (7, [.ref a_now, .ref a_kep, .ref a_isk, .ref a_ref, .long 0, .long 1, .int 1000000, .int 0, .int 0, .int 0, .ref a_cw, .ref a_row, .int 0, .ref a_lea, .ref a_sli, .ref a_lef, .ref a_bst, .ref a_try, .int 0, .ref a_mom, .ref a_byt, .int 0, .int 0, .int 0, .int 0, .int 0, .ref a_nxt, .ref a_val])), (a_now, .inl (cI, 221, .inl nw0)), (a_ref, .inl (cI, 3, .inl (fun _ => 0)))] := hD
      refine lv_aload_n hx hb dX7_given_30 rfl (lv_at hl 0 rfl) ?_
      refine lv_iconst (v := 0) hx hb dX7_given_31 (by decide) ?_
      refine lv_iconst (v := (-1)) hx hb dX7_given_32 (by decide) ?_
      refine lv_iconst (v := (-1)) hx hb dX7_given_33 (by decide) ?_
      refine q_Vv (wr := [(a_ref, .inl (cI, 3, .inl (fun _ => 0)))]) [0, 1] [2] hX hE hK hP hD hS hA hl.1 lk_X7_179 (c_m_weigh l D cI cZ cP sa mo a_now a_kep a_isk a_ref a_cw a_row a_lea a_sli a_lef a_bst a_try a_mom a_byt a_nxt a_val _) rfl rfl rfl rfl (by decide) 0 7 rfl rfl rfl rfl (Nat.le_of_ble_eq_true rfl) rfl rfl ⟨Nat.le_of_ble_eq_true rfl, Nat.le_of_ble_eq_true rfl⟩ ⟨Nat.le_of_ble_eq_true rfl, Nat.le_of_ble_eq_true rfl⟩ dX7_given_34 (fun _ H locs h_4 hP hD hS => ?_)
      have hP : va_P D vwCl [(a_ref, .inl (cI, 3, .inl (fun _ => 0))), (mo, .inr (7, [.ref a_now, .ref a_kep, .ref a_isk, .ref a_ref, .long 0, .long 1, .int 0, .int 0, .int (-1), .int (-1), .ref a_cw, .ref a_row, .int 0, .ref a_lea, .ref a_sli, .ref a_lef, .ref a_bst, .ref a_try, .int 0, .ref a_mom, .ref a_byt, .int 0, .int 0, .int 0, .int 0, .int 0, .ref a_nxt, .ref a_val])), (a_now, .inl (cI, 221, .inl nw0))] H := hP
      have hD : va_D (va_A (w_m_given cI cZ cP mo a_now a_kep a_isk a_ref a_cw a_row a_lea a_sli a_lef a_bst a_try a_mom a_byt a_nxt a_val p0 p1) sz) [(a_ref, .inl (cI, 3, .inl (fun _ => 0))), (mo, .inr (7, [.ref a_now, .ref a_kep, .ref a_isk, .ref a_ref, .long 0, .long 1, .int 0, .int 0, .int (-1), .int (-1), .ref a_cw, .ref a_row, .int 0, .ref a_lea, .ref a_sli, .ref a_lef, .ref a_bst, .ref a_try, .int 0, .ref a_mom, .ref a_byt, .int 0, .int 0, .int 0, .int 0, .int 0, .ref a_nxt, .ref a_val])), (a_now, .inl (cI, 221, .inl nw0))] := hD
      refine lv_iload_n hx hb dX7_given_37 rfl (lv_at hl 1 rfl) ?_
      refine lv_if_le (tgt := 46) hx hb dX7_given_38 (by decide) (fun c_5 => ?_) (fun c_5 => ?_)
      · refine lv_iload_n hx hb dX7_given_46 rfl (lv_at hl 1 rfl) ?_
        refine lv_iconst (v := 1) hx hb dX7_given_47 (by decide) ?_
        refine lv_icmp_le (tgt := 56) hx hb dX7_given_48 (by decide) (fun c_6 => ?_) (fun c_6 => ?_)
        · refine lv_iload_n hx hb dX7_given_56 rfl (lv_at hl 2 rfl) ?_
          refine lv_iconst (v := (-1)) hx hb dX7_given_57 (by decide) ?_
          refine lv_icmp_ne (tgt := 68) hx hb dX7_given_58 (by decide) (fun c_7 => ?_) (fun c_7 => ?_)
          · refine lv_iload_n hx hb dX7_given_68 rfl (lv_at hl 2 rfl) ?_
            refine lv_aload_n hx hb dX7_given_69 rfl (lv_at hl 0 rfl) ?_
            refine va_get (D := D) (ci := 7) (v := .int 0) (C := RX7) (T := TX7) (N := 28) hx hb ht inX7 hown hK hP 1 rfl rfl 7 (Nat.le_of_ble_eq_true rfl) (ht _ kw_911) (fun _ h9 => h9) rfl dX7_given_70 ?_
            refine lv_icmp_lt (tgt := 81) hx hb dX7_given_73 (by decide) (fun c_8 => absurd c_8 (Int32.not_lt.mpr (ge0 c_3 c_7))) (fun _ => ?_)
            refine lv_bipush (v := (-5)) hx hb dX7_given_76 (by decide) ?_
            refine lv_goto (tgt := 96) hx hb dX7_given_78 (by decide) ?_
            exact q_iret hX hr hlk () (by simp [sp_given, c_1, c_3, c_5, c_6, c_7]) (hP.sub [] rfl) (hD.sub [] (by decide) rfl) hS dX7_given_96
          · refine lv_aload_n hx hb dX7_given_61 rfl (lv_at hl 0 rfl) ?_
            refine va_get (D := D) (ci := 7) (v := .int 0) (C := RX7) (T := TX7) (N := 28) hx hb ht inX7 hown hK hP 1 rfl rfl 6 (Nat.le_of_ble_eq_true rfl) (ht _ kw_910) (fun _ h9 => h9) rfl dX7_given_62 ?_
            refine lv_goto (tgt := 96) hx hb dX7_given_65 (by decide) ?_
            exact q_iret hX hr hlk () (by simp [sp_given, c_1, c_3, c_5, c_6, c_7]) (hP.sub [] rfl) (hD.sub [] (by decide) rfl) hS dX7_given_96
        · refine lv_aload_n hx hb dX7_given_51 rfl (lv_at hl 0 rfl) ?_
          refine lv_iconst (v := 1) hx hb dX7_given_52 (by decide) ?_
          refine q_Vv (wr := [(a_ref, .inl (cI, 3, .inl (fun _ => 0)))]) [1, 2] [0] hX hE hK hP hD hS hA hl.1 lk_X7_186 (c_m_tryOne l D cI cZ cP sa mo a_now a_kep a_isk a_ref a_cw a_row a_lea a_sli a_lef a_bst a_try a_mom a_byt a_nxt a_val 1 _) rfl rfl rfl rfl (by decide) 0 7 rfl rfl rfl rfl (Nat.le_of_ble_eq_true rfl) rfl rfl ⟨Nat.le_of_ble_eq_true rfl, Nat.le_of_ble_eq_true rfl⟩ ⟨Nat.le_of_ble_eq_true rfl, Nat.le_of_ble_eq_true rfl⟩ dX7_given_53 (fun _ H locs h_9 hP hD hS => ?_)
          have hP : va_P D vwCl [(a_ref, .inl (cI, 3, .inl (fun _ => 0))), (mo, .inr (7, [.ref a_now, .ref a_kep, .ref a_isk, .ref a_ref, .long 0, .long 1, .int 0, .int 0, .int (-1), .int (-1), .ref a_cw, .ref a_row, .int 0, .ref a_lea, .ref a_sli, .ref a_lef, .ref a_bst, .ref a_try, .int 0, .ref a_mom, .ref a_byt, .int 0, .int 0, .int 0, .int 0, .int 0, .ref a_nxt, .ref a_val])), (a_now, .inl (cI, 221, .inl nw0))] H := hP
          have hD : va_D (va_A (w_m_given cI cZ cP mo a_now a_kep a_isk a_ref a_cw a_row a_lea a_sli a_lef a_bst a_try a_mom a_byt a_nxt a_val p0 p1) sz) [(a_ref, .inl (cI, 3, .inl (fun _ => 0))), (mo, .inr (7, [.ref a_now, .ref a_kep, .ref a_isk, .ref a_ref, .long 0, .long 1, .int 0, .int 0, .int (-1), .int (-1), .ref a_cw, .ref a_row, .int 0, .ref a_lea, .ref a_sli, .ref a_lef, .ref a_bst, .ref a_try, .int 0, .ref a_mom, .ref a_byt, .int 0, .int 0, .int 0, .int 0, .int 0, .ref a_nxt, .ref a_val])), (a_now, .inl (cI, 221, .inl nw0))] := hD
          refine lv_iload_n hx hb dX7_given_56 rfl (lv_at hl 2 rfl) ?_
          refine lv_iconst (v := (-1)) hx hb dX7_given_57 (by decide) ?_
          refine lv_icmp_ne (tgt := 68) hx hb dX7_given_58 (by decide) (fun c_10 => ?_) (fun c_10 => ?_)
          · refine lv_iload_n hx hb dX7_given_68 rfl (lv_at hl 2 rfl) ?_
            refine lv_aload_n hx hb dX7_given_69 rfl (lv_at hl 0 rfl) ?_
            refine va_get (D := D) (ci := 7) (v := .int 0) (C := RX7) (T := TX7) (N := 28) hx hb ht inX7 hown hK hP 1 rfl rfl 7 (Nat.le_of_ble_eq_true rfl) (ht _ kw_911) (fun _ h9 => h9) rfl dX7_given_70 ?_
            refine lv_icmp_lt (tgt := 81) hx hb dX7_given_73 (by decide) (fun c_11 => absurd c_11 (Int32.not_lt.mpr (ge0 c_3 c_10))) (fun _ => ?_)
            refine lv_bipush (v := (-5)) hx hb dX7_given_76 (by decide) ?_
            refine lv_goto (tgt := 96) hx hb dX7_given_78 (by decide) ?_
            exact q_iret hX hr hlk () (by simp [sp_given, c_1, c_3, c_5, c_6, c_10]) (hP.sub [] rfl) (hD.sub [] (by decide) rfl) hS dX7_given_96
          · refine lv_aload_n hx hb dX7_given_61 rfl (lv_at hl 0 rfl) ?_
            refine va_get (D := D) (ci := 7) (v := .int 0) (C := RX7) (T := TX7) (N := 28) hx hb ht inX7 hown hK hP 1 rfl rfl 6 (Nat.le_of_ble_eq_true rfl) (ht _ kw_910) (fun _ h9 => h9) rfl dX7_given_62 ?_
            refine lv_goto (tgt := 96) hx hb dX7_given_65 (by decide) ?_
            exact q_iret hX hr hlk () (by simp [sp_given, c_1, c_3, c_5, c_6, c_10]) (hP.sub [] rfl) (hD.sub [] (by decide) rfl) hS dX7_given_96
      · refine lv_aload_n hx hb dX7_given_41 rfl (lv_at hl 0 rfl) ?_
        refine lv_iconst (v := 0) hx hb dX7_given_42 (by decide) ?_
        refine q_Vv (wr := [(a_ref, .inl (cI, 3, .inl (fun _ => 0)))]) [1, 2] [0] hX hE hK hP hD hS hA hl.1 lk_X7_186 (c_m_tryOne l D cI cZ cP sa mo a_now a_kep a_isk a_ref a_cw a_row a_lea a_sli a_lef a_bst a_try a_mom a_byt a_nxt a_val 0 _) rfl rfl rfl rfl (by decide) 0 7 rfl rfl rfl rfl (Nat.le_of_ble_eq_true rfl) rfl rfl ⟨Nat.le_of_ble_eq_true rfl, Nat.le_of_ble_eq_true rfl⟩ ⟨Nat.le_of_ble_eq_true rfl, Nat.le_of_ble_eq_true rfl⟩ dX7_given_43 (fun _ H locs h_12 hP hD hS => ?_)
        have hP : va_P D vwCl [(a_ref, .inl (cI, 3, .inl (fun _ => 0))), (mo, .inr (7, [.ref a_now, .ref a_kep, .ref a_isk, .ref a_ref, .long 0, .long 1, .int 0, .int 0, .int (-1), .int (-1), .ref a_cw, .ref a_row, .int 0, .ref a_lea, .ref a_sli, .ref a_lef, .ref a_bst, .ref a_try, .int 0, .ref a_mom, .ref a_byt, .int 0, .int 0, .int 0, .int 0, .int 0, .ref a_nxt, .ref a_val])), (a_now, .inl (cI, 221, .inl nw0))] H := hP
        have hD : va_D (va_A (w_m_given cI cZ cP mo a_now a_kep a_isk a_ref a_cw a_row a_lea a_sli a_lef a_bst a_try a_mom a_byt a_nxt a_val p0 p1) sz) [(a_ref, .inl (cI, 3, .inl (fun _ => 0))), (mo, .inr (7, [.ref a_now, .ref a_kep, .ref a_isk, .ref a_ref, .long 0, .long 1, .int 0, .int 0, .int (-1), .int (-1), .ref a_cw, .ref a_row, .int 0, .ref a_lea, .ref a_sli, .ref a_lef, .ref a_bst, .ref a_try, .int 0, .ref a_mom, .ref a_byt, .int 0, .int 0, .int 0, .int 0, .int 0, .ref a_nxt, .ref a_val])), (a_now, .inl (cI, 221, .inl nw0))] := hD
        refine lv_iload_n hx hb dX7_given_46 rfl (lv_at hl 1 rfl) ?_
        refine lv_iconst (v := 1) hx hb dX7_given_47 (by decide) ?_
        refine lv_icmp_le (tgt := 56) hx hb dX7_given_48 (by decide) (fun c_13 => ?_) (fun c_13 => ?_)
        · refine lv_iload_n hx hb dX7_given_56 rfl (lv_at hl 2 rfl) ?_
          refine lv_iconst (v := (-1)) hx hb dX7_given_57 (by decide) ?_
          refine lv_icmp_ne (tgt := 68) hx hb dX7_given_58 (by decide) (fun c_14 => ?_) (fun c_14 => ?_)
          · refine lv_iload_n hx hb dX7_given_68 rfl (lv_at hl 2 rfl) ?_
            refine lv_aload_n hx hb dX7_given_69 rfl (lv_at hl 0 rfl) ?_
            refine va_get (D := D) (ci := 7) (v := .int 0) (C := RX7) (T := TX7) (N := 28) hx hb ht inX7 hown hK hP 1 rfl rfl 7 (Nat.le_of_ble_eq_true rfl) (ht _ kw_911) (fun _ h9 => h9) rfl dX7_given_70 ?_
            refine lv_icmp_lt (tgt := 81) hx hb dX7_given_73 (by decide) (fun c_15 => absurd c_15 (Int32.not_lt.mpr (ge0 c_3 c_14))) (fun _ => ?_)
            refine lv_bipush (v := (-5)) hx hb dX7_given_76 (by decide) ?_
            refine lv_goto (tgt := 96) hx hb dX7_given_78 (by decide) ?_
            exact q_iret hX hr hlk () (by simp [sp_given, c_1, c_3, c_5, c_13, c_14]) (hP.sub [] rfl) (hD.sub [] (by decide) rfl) hS dX7_given_96
          · refine lv_aload_n hx hb dX7_given_61 rfl (lv_at hl 0 rfl) ?_
            refine va_get (D := D) (ci := 7) (v := .int 0) (C := RX7) (T := TX7) (N := 28) hx hb ht inX7 hown hK hP 1 rfl rfl 6 (Nat.le_of_ble_eq_true rfl) (ht _ kw_910) (fun _ h9 => h9) rfl dX7_given_62 ?_
            refine lv_goto (tgt := 96) hx hb dX7_given_65 (by decide) ?_
            exact q_iret hX hr hlk () (by simp [sp_given, c_1, c_3, c_5, c_13, c_14]) (hP.sub [] rfl) (hD.sub [] (by decide) rfl) hS dX7_given_96
        · refine lv_aload_n hx hb dX7_given_51 rfl (lv_at hl 0 rfl) ?_
          refine lv_iconst (v := 1) hx hb dX7_given_52 (by decide) ?_
          refine q_Vv (wr := [(a_ref, .inl (cI, 3, .inl (fun _ => 0)))]) [1, 2] [0] hX hE hK hP hD hS hA hl.1 lk_X7_186 (c_m_tryOne l D cI cZ cP sa mo a_now a_kep a_isk a_ref a_cw a_row a_lea a_sli a_lef a_bst a_try a_mom a_byt a_nxt a_val 1 _) rfl rfl rfl rfl (by decide) 0 7 rfl rfl rfl rfl (Nat.le_of_ble_eq_true rfl) rfl rfl ⟨Nat.le_of_ble_eq_true rfl, Nat.le_of_ble_eq_true rfl⟩ ⟨Nat.le_of_ble_eq_true rfl, Nat.le_of_ble_eq_true rfl⟩ dX7_given_53 (fun _ H locs h_16 hP hD hS => ?_)
          have hP : va_P D vwCl [(a_ref, .inl (cI, 3, .inl (fun _ => 0))), (mo, .inr (7, [.ref a_now, .ref a_kep, .ref a_isk, .ref a_ref, .long 0, .long 1, .int 0, .int 0, .int (-1), .int (-1), .ref a_cw, .ref a_row, .int 0, .ref a_lea, .ref a_sli, .ref a_lef, .ref a_bst, .ref a_try, .int 0, .ref a_mom, .ref a_byt, .int 0, .int 0, .int 0, .int 0, .int 0, .ref a_nxt, .ref a_val])), (a_now, .inl (cI, 221, .inl nw0))] H := hP
          have hD : va_D (va_A (w_m_given cI cZ cP mo a_now a_kep a_isk a_ref a_cw a_row a_lea a_sli a_lef a_bst a_try a_mom a_byt a_nxt a_val p0 p1) sz) [(a_ref, .inl (cI, 3, .inl (fun _ => 0))), (mo, .inr (7, [.ref a_now, .ref a_kep, .ref a_isk, .ref a_ref, .long 0, .long 1, .int 0, .int 0, .int (-1), .int (-1), .ref a_cw, .ref a_row, .int 0, .ref a_lea, .ref a_sli, .ref a_lef, .ref a_bst, .ref a_try, .int 0, .ref a_mom, .ref a_byt, .int 0, .int 0, .int 0, .int 0, .int 0, .ref a_nxt, .ref a_val])), (a_now, .inl (cI, 221, .inl nw0))] := hD
          refine lv_iload_n hx hb dX7_given_56 rfl (lv_at hl 2 rfl) ?_
          refine lv_iconst (v := (-1)) hx hb dX7_given_57 (by decide) ?_
          refine lv_icmp_ne (tgt := 68) hx hb dX7_given_58 (by decide) (fun c_17 => ?_) (fun c_17 => ?_)
          · refine lv_iload_n hx hb dX7_given_68 rfl (lv_at hl 2 rfl) ?_
            refine lv_aload_n hx hb dX7_given_69 rfl (lv_at hl 0 rfl) ?_
            refine va_get (D := D) (ci := 7) (v := .int 0) (C := RX7) (T := TX7) (N := 28) hx hb ht inX7 hown hK hP 1 rfl rfl 7 (Nat.le_of_ble_eq_true rfl) (ht _ kw_911) (fun _ h9 => h9) rfl dX7_given_70 ?_
            refine lv_icmp_lt (tgt := 81) hx hb dX7_given_73 (by decide) (fun c_18 => absurd c_18 (Int32.not_lt.mpr (ge0 c_3 c_17))) (fun _ => ?_)
            refine lv_bipush (v := (-5)) hx hb dX7_given_76 (by decide) ?_
            refine lv_goto (tgt := 96) hx hb dX7_given_78 (by decide) ?_
            exact q_iret hX hr hlk () (by simp [sp_given, c_1, c_3, c_5, c_13, c_17]) (hP.sub [] rfl) (hD.sub [] (by decide) rfl) hS dX7_given_96
          · refine lv_aload_n hx hb dX7_given_61 rfl (lv_at hl 0 rfl) ?_
            refine va_get (D := D) (ci := 7) (v := .int 0) (C := RX7) (T := TX7) (N := 28) hx hb ht inX7 hown hK hP 1 rfl rfl 6 (Nat.le_of_ble_eq_true rfl) (ht _ kw_910) (fun _ h9 => h9) rfl dX7_given_62 ?_
            refine lv_goto (tgt := 96) hx hb dX7_given_65 (by decide) ?_
            exact q_iret hX hr hlk () (by simp [sp_given, c_1, c_3, c_5, c_13, c_17]) (hP.sub [] rfl) (hD.sub [] (by decide) rfl) hS dX7_given_96
    · refine lv_aload_n hx hb dX7_given_17 rfl (lv_at hl 0 rfl) ?_
      refine lv_bipush (v := (-10)) hx hb dX7_given_18 (by decide) ?_
      refine q_Vi (wr := [(a_now, .inl (cI, 221, .inl nw0))]) [0, 2] [1] hX hE hK hP hD hS hA hl.1 lk_X7_76 (c_m_bad l D cI cZ cP sa mo a_now a_kep a_isk a_ref a_cw a_row a_lea a_sli a_lef a_bst a_try a_mom a_byt a_nxt a_val 0 1 0 0 0 0 0 0 0 0 0 0 0 (-10) _) rfl rfl rfl rfl (by decide) 0 7 rfl rfl rfl rfl (Nat.le_of_ble_eq_true rfl) rfl rfl ⟨Nat.le_of_ble_eq_true rfl, Nat.le_of_ble_eq_true rfl⟩ ⟨Nat.le_of_ble_eq_true rfl, Nat.le_of_ble_eq_true rfl⟩ dX7_given_20 (fun x_19 _ H locs h_19 hP hD hS => ?_)
      have hP : va_P D vwCl [(a_now, .inl (cI, 221, .inl nw0))] H := hP
      have hD : va_D (va_A (w_m_given cI cZ cP mo a_now a_kep a_isk a_ref a_cw a_row a_lea a_sli a_lef a_bst a_try a_mom a_byt a_nxt a_val p0 p1) sz) [(a_now, .inl (cI, 221, .inl nw0))] := hD
      subst h_19
      exact q_iret hX hr hlk () (by simp [sp_given, c_1, c_3]) (hP.sub [] rfl) (hD.sub [] (by decide) rfl) hS dX7_given_23
  · rw [if_neg c_1] at h_1; subst h_1
    refine lv_if_eq (tgt := 17) hx hb dX7_given_9 (by decide) (fun _ => ?_) (fun c_20 => absurd (by decide) c_20)
    refine lv_aload_n hx hb dX7_given_17 rfl (lv_at hl 0 rfl) ?_
    refine lv_bipush (v := (-10)) hx hb dX7_given_18 (by decide) ?_
    refine q_Vi (wr := [(a_now, .inl (cI, 221, .inl nw0))]) [0, 2] [1] hX hE hK hP hD hS hA hl.1 lk_X7_76 (c_m_bad l D cI cZ cP sa mo a_now a_kep a_isk a_ref a_cw a_row a_lea a_sli a_lef a_bst a_try a_mom a_byt a_nxt a_val 0 1 0 0 0 0 0 0 0 0 0 0 0 (-10) _) rfl rfl rfl rfl (by decide) 0 7 rfl rfl rfl rfl (Nat.le_of_ble_eq_true rfl) rfl rfl ⟨Nat.le_of_ble_eq_true rfl, Nat.le_of_ble_eq_true rfl⟩ ⟨Nat.le_of_ble_eq_true rfl, Nat.le_of_ble_eq_true rfl⟩ dX7_given_20 (fun x_21 _ H locs h_21 hP hD hS => ?_)
    have hP : va_P D vwCl [(a_now, .inl (cI, 221, .inl nw0))] H := hP
    have hD : va_D (va_A (w_m_given cI cZ cP mo a_now a_kep a_isk a_ref a_cw a_row a_lea a_sli a_lef a_bst a_try a_mom a_byt a_nxt a_val p0 p1) sz) [(a_now, .inl (cI, 221, .inl nw0))] := hD
    subst h_21
    exact q_iret hX hr hlk () (by simp [sp_given, c_1]) (hP.sub [] rfl) (hD.sub [] (by decide) rfl) hS dX7_given_23
abbrev w_m_bits (cI cZ cP : ClassId) : va_W := []
set_option maxHeartbeats 4000000 in
set_option maxRecDepth 100000 in
theorem c_m_bits (l : Launch) (D : va_G) (cI cZ cP : ClassId) (sa : Nat → Nat) (sz : Nat) : Met l yX7_bits (qW yX7_bits cX7_bits 3 (some .int)) ({ frames := 0, cells := 0, slots := 0, locals := 0 } : Room) (qP D (TY cI cZ cP) sa [.int 0] (w_m_bits cI cZ cP) sz) (qQi D (w_m_bits cI cZ cP) sz (fun (r : Int32) (_ : Unit) => r = 0) (fun _ => [])) 0 0 (va_A (w_m_bits cI cZ cP) sz) := by
  refine q_enter (by decide) (Nat.le_of_ble_eq_true rfl) ?_
  intro p e s m below meth c ls hX hr hlk hnm hE hK hP hD hS hA hl
  obtain ⟨hx, hb, hml, hown, ht⟩ := id hX
  have hl : lv_has ls 3 [(0, .int 0)] := hl
  refine lv_iconst (v := 0) hx hb dX7_bits_0 (by decide) ?_
  refine lv_istore_n (lv' := [(1, .int 0), (0, .int 0)]) hx hb dX7_bits_1 rfl hl (by decide) rfl (fun ls hl => ?_)
  refine lv_iload_n hx hb dX7_bits_2 rfl (lv_at hl 1 rfl) ?_
  refine lv_istore_n (lv' := [(2, .int 0), (1, .int 0), (0, .int 0)]) hx hb dX7_bits_3 rfl hl (by decide) rfl (fun ls hl => ?_)
  refine lv_iload_n hx hb dX7_bits_4 rfl (lv_at hl 0 rfl) ?_
  refine lv_if_le (tgt := 21) hx hb dX7_bits_5 (by decide) (fun _ => ?_) (fun c_1 => absurd (by decide) c_1)
  refine lv_iload_n hx hb dX7_bits_21 rfl (lv_at hl 1 rfl) ?_
  exact q_iret hX hr hlk () rfl (hP.sub [] rfl) (hD.sub [] (by decide) rfl) hS dX7_bits_22
abbrev w_m_out (cI cZ cP : ClassId) (mo : Nat) (a_now : Nat) (a_kep : Nat) (a_isk : Nat) (a_ref : Nat) (a_cw : Nat) (a_row : Nat) (a_lea : Nat) (a_sli : Nat) (a_lef : Nat) (a_bst : Nat) (a_try : Nat) (a_mom : Nat) (a_byt : Nat) (a_nxt : Nat) (a_val : Nat) : va_W := [(mo, .inr (7, [.ref a_now, .ref a_kep, .ref a_isk, .ref a_ref, .long 0, .long 1, .int 0, .int 0, .int 0, .int 0, .ref a_cw, .ref a_row, .int 0, .ref a_lea, .ref a_sli, .ref a_lef, .ref a_bst, .ref a_try, .int 0, .ref a_mom, .ref a_byt, .int 0, .int 0, .int 0, .int 0, .int 0, .ref a_nxt, .ref a_val])), (a_now, .inl (cI, 221, .inl nw0))]
set_option maxHeartbeats 4000000 in
set_option maxRecDepth 100000 in
theorem c_m_out (l : Launch) (D : va_G) (cI cZ cP : ClassId) (sa : Nat → Nat) (mo : Nat) (a_now : Nat) (a_kep : Nat) (a_isk : Nat) (a_ref : Nat) (a_cw : Nat) (a_row : Nat) (a_lea : Nat) (a_sli : Nat) (a_lef : Nat) (a_bst : Nat) (a_try : Nat) (a_mom : Nat) (a_byt : Nat) (a_nxt : Nat) (a_val : Nat) (sz : Nat) : Met l yX7_out (qW yX7_out cX7_out 7 (some .int)) ({ frames := 1, cells := 0, slots := 0, locals := 22 } : Room) (qP D (TY cI cZ cP) sa [.ref mo] (w_m_out cI cZ cP mo a_now a_kep a_isk a_ref a_cw a_row a_lea a_sli a_lef a_bst a_try a_mom a_byt a_nxt a_val) sz) (qQi D (w_m_out cI cZ cP mo a_now a_kep a_isk a_ref a_cw a_row a_lea a_sli a_lef a_bst a_try a_mom a_byt a_nxt a_val) sz (fun (r : Int32) (_ : Unit) => r = 0) (fun _ => [])) 0 0 (va_A (w_m_out cI cZ cP mo a_now a_kep a_isk a_ref a_cw a_row a_lea a_sli a_lef a_bst a_try a_mom a_byt a_nxt a_val) sz) := by
  refine q_enter (by decide) (Nat.le_of_ble_eq_true rfl) ?_
  intro p e s m below meth c ls hX hr hlk hnm hE hK hP hD hS hA hl
  obtain ⟨hx, hb, hml, hown, ht⟩ := id hX
  have hl : lv_has ls 7 [(0, .ref mo)] := hl
  refine lv_iconst (v := 0) hx hb dX7_out_0 (by decide) ?_
  refine lv_istore_n (lv' := [(1, .int 0), (0, .ref mo)]) hx hb dX7_out_1 rfl hl (by decide) rfl (fun ls hl => ?_)
  refine lv_iconst (v := 0) hx hb dX7_out_2 (by decide) ?_
  refine lv_istore_n (lv' := [(2, .int 0), (1, .int 0), (0, .ref mo)]) hx hb dX7_out_3 rfl hl (by decide) rfl (fun ls hl => ?_)
  refine lv_iload_n hx hb dX7_out_4 rfl (lv_at hl 0 rfl) ?_
  refine lv_aload_n hx hb dX7_out_5 rfl (lv_at hl 2 rfl) ?_
  refine q_Vi (wr := []) [0, 1] [] hX hE hK hP hD hS hA hl.1 lk_X7_64 (c_m_notes l D cI cZ cP sa mo a_now a_kep a_isk a_ref a_cw a_row a_lea a_sli a_lef a_bst a_try a_mom a_byt a_nxt a_val 0 1 0 0 0 0 0 0 0 0 0 0 0 _) rfl rfl rfl rfl (by decide) 0 7 rfl rfl rfl rfl (Nat.le_of_ble_eq_true rfl) rfl rfl ⟨Nat.le_of_ble_eq_true rfl, Nat.le_of_ble_eq_true rfl⟩ ⟨Nat.le_of_ble_eq_true rfl, Nat.le_of_ble_eq_true rfl⟩ dX7_out_6 (fun x_1 _ H locs h_1 hP hD hS => ?_)
  have hP : va_P D vwCl [(mo, .inr (7, [.ref a_now, .ref a_kep, .ref a_isk, .ref a_ref, .long 0, .long 1, .int 0, .int 0, .int 0, .int 0, .ref a_cw, .ref a_row, .int 0, .ref a_lea, .ref a_sli, .ref a_lef, .ref a_bst, .ref a_try, .int 0, .ref a_mom, .ref a_byt, .int 0, .int 0, .int 0, .int 0, .int 0, .ref a_nxt, .ref a_val])), (a_now, .inl (cI, 221, .inl nw0))] H := hP
  have hD : va_D (va_A (w_m_out cI cZ cP mo a_now a_kep a_isk a_ref a_cw a_row a_lea a_sli a_lef a_bst a_try a_mom a_byt a_nxt a_val) sz) [(mo, .inr (7, [.ref a_now, .ref a_kep, .ref a_isk, .ref a_ref, .long 0, .long 1, .int 0, .int 0, .int 0, .int 0, .ref a_cw, .ref a_row, .int 0, .ref a_lea, .ref a_sli, .ref a_lef, .ref a_bst, .ref a_try, .int 0, .ref a_mom, .ref a_byt, .int 0, .int 0, .int 0, .int 0, .int 0, .ref a_nxt, .ref a_val])), (a_now, .inl (cI, 221, .inl nw0))] := hD
  subst h_1
  refine lv_icmp_ge (tgt := 90) hx hb dX7_out_9 (by decide) (fun _ => ?_) (fun c_2 => absurd (by decide) c_2)
  refine lv_iload_n hx hb dX7_out_90 rfl (lv_at hl 1 rfl) ?_
  refine lv_istore_n (lv' := [(2, .int 0), (1, .int 0), (0, .ref mo)]) hx hb dX7_out_91 rfl hl (by decide) rfl (fun ls hl => ?_)
  refine lv_iconst (v := 0) hx hb dX7_out_92 (by decide) ?_
  refine lv_istore_n (lv' := [(3, .int 0), (2, .int 0), (1, .int 0), (0, .ref mo)]) hx hb dX7_out_93 rfl hl (by decide) rfl (fun ls hl => ?_)
  refine lv_iload_n hx hb dX7_out_94 rfl (lv_at hl 0 rfl) ?_
  refine lv_iconst (v := 1) hx hb dX7_out_95 (by decide) ?_
  refine lv_aload_n hx hb dX7_out_96 rfl (lv_at hl 3 rfl) ?_
  refine q_Vi (wr := []) [0, 1] [] hX hE hK hP hD hS hA hl.1 lk_X7_64 (c_m_notes l D cI cZ cP sa mo a_now a_kep a_isk a_ref a_cw a_row a_lea a_sli a_lef a_bst a_try a_mom a_byt a_nxt a_val 0 1 0 0 0 0 0 0 0 0 0 0 0 _) rfl rfl rfl rfl (by decide) 0 7 rfl rfl rfl rfl (Nat.le_of_ble_eq_true rfl) rfl rfl ⟨Nat.le_of_ble_eq_true rfl, Nat.le_of_ble_eq_true rfl⟩ ⟨Nat.le_of_ble_eq_true rfl, Nat.le_of_ble_eq_true rfl⟩ dX7_out_97 (fun x_3 _ H locs h_3 hP hD hS => ?_)
  have hP : va_P D vwCl [(mo, .inr (7, [.ref a_now, .ref a_kep, .ref a_isk, .ref a_ref, .long 0, .long 1, .int 0, .int 0, .int 0, .int 0, .ref a_cw, .ref a_row, .int 0, .ref a_lea, .ref a_sli, .ref a_lef, .ref a_bst, .ref a_try, .int 0, .ref a_mom, .ref a_byt, .int 0, .int 0, .int 0, .int 0, .int 0, .ref a_nxt, .ref a_val])), (a_now, .inl (cI, 221, .inl nw0))] H := hP
  have hD : va_D (va_A (w_m_out cI cZ cP mo a_now a_kep a_isk a_ref a_cw a_row a_lea a_sli a_lef a_bst a_try a_mom a_byt a_nxt a_val) sz) [(mo, .inr (7, [.ref a_now, .ref a_kep, .ref a_isk, .ref a_ref, .long 0, .long 1, .int 0, .int 0, .int 0, .int 0, .ref a_cw, .ref a_row, .int 0, .ref a_lea, .ref a_sli, .ref a_lef, .ref a_bst, .ref a_try, .int 0, .ref a_mom, .ref a_byt, .int 0, .int 0, .int 0, .int 0, .int 0, .ref a_nxt, .ref a_val])), (a_now, .inl (cI, 221, .inl nw0))] := hD
  subst h_3
  refine lv_ishl hx hb dX7_out_100 ?_
  refine q_i (z := 1) (by decide) ?_
  refine lv_icmp_ge (tgt := 229) hx hb dX7_out_101 (by decide) (fun c_4 => absurd c_4 (by decide)) (fun _ => ?_)
  refine lv_iload_n hx hb dX7_out_104 rfl (lv_at hl 0 rfl) ?_
  refine q_Si (wr := [(mo, .inr (7, [.ref a_now, .ref a_kep, .ref a_isk, .ref a_ref, .long 0, .long 1, .int 0, .int 0, .int 0, .int 0, .ref a_cw, .ref a_row, .int 0, .ref a_lea, .ref a_sli, .ref a_lef, .ref a_bst, .ref a_try, .int 0, .ref a_mom, .ref a_byt, .int 0, .int 0, .int 0, .int 0, .int 0, .ref a_nxt, .ref a_val])), (a_now, .inl (cI, 221, .inl nw0))]) [] [0, 1] hX hE hK hP hD hS hA hl.1 lk_X7_190 (c_m_bits l D cI cZ cP sa _) rfl rfl rfl rfl (by decide) rfl rfl (Nat.le_of_ble_eq_true rfl) rfl rfl ⟨Nat.le_of_ble_eq_true rfl, Nat.le_of_ble_eq_true rfl⟩ ⟨Nat.le_of_ble_eq_true rfl, Nat.le_of_ble_eq_true rfl⟩ dX7_out_105 (fun x_5 _ H locs h_5 hP hD hS => ?_)
  have hP : va_P D vwCl [(mo, .inr (7, [.ref a_now, .ref a_kep, .ref a_isk, .ref a_ref, .long 0, .long 1, .int 0, .int 0, .int 0, .int 0, .ref a_cw, .ref a_row, .int 0, .ref a_lea, .ref a_sli, .ref a_lef, .ref a_bst, .ref a_try, .int 0, .ref a_mom, .ref a_byt, .int 0, .int 0, .int 0, .int 0, .int 0, .ref a_nxt, .ref a_val])), (a_now, .inl (cI, 221, .inl nw0))] H := hP
  have hD : va_D (va_A (w_m_out cI cZ cP mo a_now a_kep a_isk a_ref a_cw a_row a_lea a_sli a_lef a_bst a_try a_mom a_byt a_nxt a_val) sz) [(mo, .inr (7, [.ref a_now, .ref a_kep, .ref a_isk, .ref a_ref, .long 0, .long 1, .int 0, .int 0, .int 0, .int 0, .ref a_cw, .ref a_row, .int 0, .ref a_lea, .ref a_sli, .ref a_lef, .ref a_bst, .ref a_try, .int 0, .ref a_mom, .ref a_byt, .int 0, .int 0, .int 0, .int 0, .int 0, .ref a_nxt, .ref a_val])), (a_now, .inl (cI, 221, .inl nw0))] := hD
  subst h_5
  refine lv_iload_n hx hb dX7_out_108 rfl (lv_at hl 1 rfl) ?_
  refine q_Si (wr := [(mo, .inr (7, [.ref a_now, .ref a_kep, .ref a_isk, .ref a_ref, .long 0, .long 1, .int 0, .int 0, .int 0, .int 0, .ref a_cw, .ref a_row, .int 0, .ref a_lea, .ref a_sli, .ref a_lef, .ref a_bst, .ref a_try, .int 0, .ref a_mom, .ref a_byt, .int 0, .int 0, .int 0, .int 0, .int 0, .ref a_nxt, .ref a_val])), (a_now, .inl (cI, 221, .inl nw0))]) [] [0, 1] hX hE hK hP hD hS hA hl.1 lk_X7_190 (c_m_bits l D cI cZ cP sa _) rfl rfl rfl rfl (by decide) rfl rfl (Nat.le_of_ble_eq_true rfl) rfl rfl ⟨Nat.le_of_ble_eq_true rfl, Nat.le_of_ble_eq_true rfl⟩ ⟨Nat.le_of_ble_eq_true rfl, Nat.le_of_ble_eq_true rfl⟩ dX7_out_109 (fun x_6 _ H locs h_6 hP hD hS => ?_)
  have hP : va_P D vwCl [(mo, .inr (7, [.ref a_now, .ref a_kep, .ref a_isk, .ref a_ref, .long 0, .long 1, .int 0, .int 0, .int 0, .int 0, .ref a_cw, .ref a_row, .int 0, .ref a_lea, .ref a_sli, .ref a_lef, .ref a_bst, .ref a_try, .int 0, .ref a_mom, .ref a_byt, .int 0, .int 0, .int 0, .int 0, .int 0, .ref a_nxt, .ref a_val])), (a_now, .inl (cI, 221, .inl nw0))] H := hP
  have hD : va_D (va_A (w_m_out cI cZ cP mo a_now a_kep a_isk a_ref a_cw a_row a_lea a_sli a_lef a_bst a_try a_mom a_byt a_nxt a_val) sz) [(mo, .inr (7, [.ref a_now, .ref a_kep, .ref a_isk, .ref a_ref, .long 0, .long 1, .int 0, .int 0, .int 0, .int 0, .ref a_cw, .ref a_row, .int 0, .ref a_lea, .ref a_sli, .ref a_lef, .ref a_bst, .ref a_try, .int 0, .ref a_mom, .ref a_byt, .int 0, .int 0, .int 0, .int 0, .int 0, .ref a_nxt, .ref a_val])), (a_now, .inl (cI, 221, .inl nw0))] := hD
  subst h_6
  refine lv_icmp_lt (tgt := 131) hx hb dX7_out_112 (by decide) (fun c_7 => absurd c_7 (by decide)) (fun _ => ?_)
  refine lv_iload_n hx hb dX7_out_115 rfl (lv_at hl 0 rfl) ?_
  refine q_Si (wr := [(mo, .inr (7, [.ref a_now, .ref a_kep, .ref a_isk, .ref a_ref, .long 0, .long 1, .int 0, .int 0, .int 0, .int 0, .ref a_cw, .ref a_row, .int 0, .ref a_lea, .ref a_sli, .ref a_lef, .ref a_bst, .ref a_try, .int 0, .ref a_mom, .ref a_byt, .int 0, .int 0, .int 0, .int 0, .int 0, .ref a_nxt, .ref a_val])), (a_now, .inl (cI, 221, .inl nw0))]) [] [0, 1] hX hE hK hP hD hS hA hl.1 lk_X7_190 (c_m_bits l D cI cZ cP sa _) rfl rfl rfl rfl (by decide) rfl rfl (Nat.le_of_ble_eq_true rfl) rfl rfl ⟨Nat.le_of_ble_eq_true rfl, Nat.le_of_ble_eq_true rfl⟩ ⟨Nat.le_of_ble_eq_true rfl, Nat.le_of_ble_eq_true rfl⟩ dX7_out_116 (fun x_8 _ H locs h_8 hP hD hS => ?_)
  have hP : va_P D vwCl [(mo, .inr (7, [.ref a_now, .ref a_kep, .ref a_isk, .ref a_ref, .long 0, .long 1, .int 0, .int 0, .int 0, .int 0, .ref a_cw, .ref a_row, .int 0, .ref a_lea, .ref a_sli, .ref a_lef, .ref a_bst, .ref a_try, .int 0, .ref a_mom, .ref a_byt, .int 0, .int 0, .int 0, .int 0, .int 0, .ref a_nxt, .ref a_val])), (a_now, .inl (cI, 221, .inl nw0))] H := hP
  have hD : va_D (va_A (w_m_out cI cZ cP mo a_now a_kep a_isk a_ref a_cw a_row a_lea a_sli a_lef a_bst a_try a_mom a_byt a_nxt a_val) sz) [(mo, .inr (7, [.ref a_now, .ref a_kep, .ref a_isk, .ref a_ref, .long 0, .long 1, .int 0, .int 0, .int 0, .int 0, .ref a_cw, .ref a_row, .int 0, .ref a_lea, .ref a_sli, .ref a_lef, .ref a_bst, .ref a_try, .int 0, .ref a_mom, .ref a_byt, .int 0, .int 0, .int 0, .int 0, .int 0, .ref a_nxt, .ref a_val])), (a_now, .inl (cI, 221, .inl nw0))] := hD
  subst h_8
  refine lv_iload_n hx hb dX7_out_119 rfl (lv_at hl 1 rfl) ?_
  refine q_Si (wr := [(mo, .inr (7, [.ref a_now, .ref a_kep, .ref a_isk, .ref a_ref, .long 0, .long 1, .int 0, .int 0, .int 0, .int 0, .ref a_cw, .ref a_row, .int 0, .ref a_lea, .ref a_sli, .ref a_lef, .ref a_bst, .ref a_try, .int 0, .ref a_mom, .ref a_byt, .int 0, .int 0, .int 0, .int 0, .int 0, .ref a_nxt, .ref a_val])), (a_now, .inl (cI, 221, .inl nw0))]) [] [0, 1] hX hE hK hP hD hS hA hl.1 lk_X7_190 (c_m_bits l D cI cZ cP sa _) rfl rfl rfl rfl (by decide) rfl rfl (Nat.le_of_ble_eq_true rfl) rfl rfl ⟨Nat.le_of_ble_eq_true rfl, Nat.le_of_ble_eq_true rfl⟩ ⟨Nat.le_of_ble_eq_true rfl, Nat.le_of_ble_eq_true rfl⟩ dX7_out_120 (fun x_9 _ H locs h_9 hP hD hS => ?_)
  have hP : va_P D vwCl [(mo, .inr (7, [.ref a_now, .ref a_kep, .ref a_isk, .ref a_ref, .long 0, .long 1, .int 0, .int 0, .int 0, .int 0, .ref a_cw, .ref a_row, .int 0, .ref a_lea, .ref a_sli, .ref a_lef, .ref a_bst, .ref a_try, .int 0, .ref a_mom, .ref a_byt, .int 0, .int 0, .int 0, .int 0, .int 0, .ref a_nxt, .ref a_val])), (a_now, .inl (cI, 221, .inl nw0))] H := hP
  have hD : va_D (va_A (w_m_out cI cZ cP mo a_now a_kep a_isk a_ref a_cw a_row a_lea a_sli a_lef a_bst a_try a_mom a_byt a_nxt a_val) sz) [(mo, .inr (7, [.ref a_now, .ref a_kep, .ref a_isk, .ref a_ref, .long 0, .long 1, .int 0, .int 0, .int 0, .int 0, .ref a_cw, .ref a_row, .int 0, .ref a_lea, .ref a_sli, .ref a_lef, .ref a_bst, .ref a_try, .int 0, .ref a_mom, .ref a_byt, .int 0, .int 0, .int 0, .int 0, .int 0, .ref a_nxt, .ref a_val])), (a_now, .inl (cI, 221, .inl nw0))] := hD
  subst h_9
  refine lv_icmp_ne (tgt := 135) hx hb dX7_out_123 (by decide) (fun c_10 => absurd (by decide) c_10) (fun _ => ?_)
  refine lv_iload_n hx hb dX7_out_126 rfl (lv_at hl 0 rfl) ?_
  refine lv_iload_n hx hb dX7_out_127 rfl (lv_at hl 1 rfl) ?_
  refine lv_icmp_ge (tgt := 135) hx hb dX7_out_128 (by decide) (fun _ => ?_) (fun c_11 => absurd (by decide) c_11)
  refine lv_iconst (v := 0) hx hb dX7_out_135 (by decide) ?_
  refine lv_istore (lv' := [(4, .int 0), (3, .int 0), (2, .int 0), (1, .int 0), (0, .ref mo)]) hx hb dX7_out_136 hl (by decide) rfl (fun ls hl => ?_)
  refine lv_iload hx hb dX7_out_138 (lv_at hl 0 rfl) ?_
  refine lv_if_eq (tgt := 155) hx hb dX7_out_140 (by decide) (fun _ => ?_) (fun c_12 => absurd (by decide) c_12)
  refine lv_iconst (v := 0) hx hb dX7_out_155 (by decide) ?_
  refine lv_istore (lv' := [(5, .int 0), (4, .int 0), (3, .int 0), (2, .int 0), (1, .int 0), (0, .ref mo)]) hx hb dX7_out_156 hl (by decide) rfl (fun ls hl => ?_)
  refine lv_iconst (v := 0) hx hb dX7_out_158 (by decide) ?_
  refine lv_istore (lv' := [(6, .int 0), (5, .int 0), (4, .int 0), (3, .int 0), (2, .int 0), (1, .int 0), (0, .ref mo)]) hx hb dX7_out_159 hl (by decide) rfl (fun ls hl => ?_)
  refine lv_iload hx hb dX7_out_161 (lv_at hl 0 rfl) ?_
  refine lv_aload_n hx hb dX7_out_163 rfl (lv_at hl 6 rfl) ?_
  refine q_Vi (wr := []) [0, 1] [] hX hE hK hP hD hS hA hl.1 lk_X7_64 (c_m_notes l D cI cZ cP sa mo a_now a_kep a_isk a_ref a_cw a_row a_lea a_sli a_lef a_bst a_try a_mom a_byt a_nxt a_val 0 1 0 0 0 0 0 0 0 0 0 0 0 _) rfl rfl rfl rfl (by decide) 0 7 rfl rfl rfl rfl (Nat.le_of_ble_eq_true rfl) rfl rfl ⟨Nat.le_of_ble_eq_true rfl, Nat.le_of_ble_eq_true rfl⟩ ⟨Nat.le_of_ble_eq_true rfl, Nat.le_of_ble_eq_true rfl⟩ dX7_out_164 (fun x_13 _ H locs h_13 hP hD hS => ?_)
  have hP : va_P D vwCl [(mo, .inr (7, [.ref a_now, .ref a_kep, .ref a_isk, .ref a_ref, .long 0, .long 1, .int 0, .int 0, .int 0, .int 0, .ref a_cw, .ref a_row, .int 0, .ref a_lea, .ref a_sli, .ref a_lef, .ref a_bst, .ref a_try, .int 0, .ref a_mom, .ref a_byt, .int 0, .int 0, .int 0, .int 0, .int 0, .ref a_nxt, .ref a_val])), (a_now, .inl (cI, 221, .inl nw0))] H := hP
  have hD : va_D (va_A (w_m_out cI cZ cP mo a_now a_kep a_isk a_ref a_cw a_row a_lea a_sli a_lef a_bst a_try a_mom a_byt a_nxt a_val) sz) [(mo, .inr (7, [.ref a_now, .ref a_kep, .ref a_isk, .ref a_ref, .long 0, .long 1, .int 0, .int 0, .int 0, .int 0, .ref a_cw, .ref a_row, .int 0, .ref a_lea, .ref a_sli, .ref a_lef, .ref a_bst, .ref a_try, .int 0, .ref a_mom, .ref a_byt, .int 0, .int 0, .int 0, .int 0, .int 0, .ref a_nxt, .ref a_val])), (a_now, .inl (cI, 221, .inl nw0))] := hD
  subst h_13
  refine lv_icmp_ge (tgt := 212) hx hb dX7_out_167 (by decide) (fun _ => ?_) (fun c_14 => absurd (by decide) c_14)
  refine lv_iload hx hb dX7_out_212 (lv_at hl 1 rfl) ?_
  refine lv_if_eq (tgt := 221) hx hb dX7_out_214 (by decide) (fun _ => ?_) (fun c_15 => absurd (by decide) c_15)
  refine lv_iload_n hx hb dX7_out_221 rfl (lv_at hl 4 rfl) ?_
  refine lv_istore_n (lv' := [(2, .int 0), (6, .int 0), (5, .int 0), (4, .int 0), (3, .int 0), (1, .int 0), (0, .ref mo)]) hx hb dX7_out_222 rfl hl (by decide) rfl (fun ls hl => ?_)
  refine lv_iinc (v := 1) (lv' := [(3, .int 1), (2, .int 0), (6, .int 0), (5, .int 0), (4, .int 0), (1, .int 0), (0, .ref mo)]) hx hb dX7_out_223 hl (k := 4) rfl (by decide) (by decide) rfl (fun ls hl => ?_)
  refine lv_goto (tgt := 94) hx hb dX7_out_226 (by decide) ?_
  refine lv_iload_n hx hb dX7_out_94 rfl (lv_at hl 0 rfl) ?_
  refine lv_iconst (v := 1) hx hb dX7_out_95 (by decide) ?_
  refine lv_aload_n hx hb dX7_out_96 rfl (lv_at hl 6 rfl) ?_
  refine q_Vi (wr := []) [0, 1] [] hX hE hK hP hD hS hA hl.1 lk_X7_64 (c_m_notes l D cI cZ cP sa mo a_now a_kep a_isk a_ref a_cw a_row a_lea a_sli a_lef a_bst a_try a_mom a_byt a_nxt a_val 0 1 0 0 0 0 0 0 0 0 0 0 0 _) rfl rfl rfl rfl (by decide) 0 7 rfl rfl rfl rfl (Nat.le_of_ble_eq_true rfl) rfl rfl ⟨Nat.le_of_ble_eq_true rfl, Nat.le_of_ble_eq_true rfl⟩ ⟨Nat.le_of_ble_eq_true rfl, Nat.le_of_ble_eq_true rfl⟩ dX7_out_97 (fun x_16 _ H locs h_16 hP hD hS => ?_)
  have hP : va_P D vwCl [(mo, .inr (7, [.ref a_now, .ref a_kep, .ref a_isk, .ref a_ref, .long 0, .long 1, .int 0, .int 0, .int 0, .int 0, .ref a_cw, .ref a_row, .int 0, .ref a_lea, .ref a_sli, .ref a_lef, .ref a_bst, .ref a_try, .int 0, .ref a_mom, .ref a_byt, .int 0, .int 0, .int 0, .int 0, .int 0, .ref a_nxt, .ref a_val])), (a_now, .inl (cI, 221, .inl nw0))] H := hP
  have hD : va_D (va_A (w_m_out cI cZ cP mo a_now a_kep a_isk a_ref a_cw a_row a_lea a_sli a_lef a_bst a_try a_mom a_byt a_nxt a_val) sz) [(mo, .inr (7, [.ref a_now, .ref a_kep, .ref a_isk, .ref a_ref, .long 0, .long 1, .int 0, .int 0, .int 0, .int 0, .ref a_cw, .ref a_row, .int 0, .ref a_lea, .ref a_sli, .ref a_lef, .ref a_bst, .ref a_try, .int 0, .ref a_mom, .ref a_byt, .int 0, .int 0, .int 0, .int 0, .int 0, .ref a_nxt, .ref a_val])), (a_now, .inl (cI, 221, .inl nw0))] := hD
  subst h_16
  refine lv_ishl hx hb dX7_out_100 ?_
  refine q_i (z := 1) (by decide) ?_
  refine lv_icmp_ge (tgt := 229) hx hb dX7_out_101 (by decide) (fun _ => ?_) (fun c_17 => absurd (by decide) c_17)
  refine lv_iload_n hx hb dX7_out_229 rfl (lv_at hl 1 rfl) ?_
  exact q_iret hX hr hlk () rfl (hP.sub [] rfl) (hD.sub [] (by decide) rfl) hS dX7_out_230
abbrev w_m_layRow (cI cZ cP : ClassId) (mo : Nat) (a_now : Nat) (a_kep : Nat) (a_isk : Nat) (a_ref : Nat) (a_cw : Nat) (a_row : Nat) (a_lea : Nat) (a_sli : Nat) (a_lef : Nat) (a_bst : Nat) (a_try : Nat) (a_mom : Nat) (a_byt : Nat) (a_nxt : Nat) (a_val : Nat) (p0 : Int32) : va_W := [(mo, .inr (7, [.ref a_now, .ref a_kep, .ref a_isk, .ref a_ref, .long 0, .long 1, .int 0, .int 0, .int 0, .int 0, .ref a_cw, .ref a_row, .int 0, .ref a_lea, .ref a_sli, .ref a_lef, .ref a_bst, .ref a_try, .int 0, .ref a_mom, .ref a_byt, .int 0, .int 0, .int 0, .int 0, .int 0, .ref a_nxt, .ref a_val])), (a_now, .inl (cI, 221, .inl nw0))]
set_option maxHeartbeats 4000000 in
set_option maxRecDepth 100000 in
theorem c_m_layRow (l : Launch) (D : va_G) (cI cZ cP : ClassId) (sa : Nat → Nat) (mo : Nat) (a_now : Nat) (a_kep : Nat) (a_isk : Nat) (a_ref : Nat) (a_cw : Nat) (a_row : Nat) (a_lea : Nat) (a_sli : Nat) (a_lef : Nat) (a_bst : Nat) (a_try : Nat) (a_mom : Nat) (a_byt : Nat) (a_nxt : Nat) (a_val : Nat) (p0 : Int32) (sz : Nat) : Met l yX7_layRow (qW yX7_layRow cX7_layRow 4 none) ({ frames := 1, cells := 0, slots := 0, locals := 20 } : Room) (qP D (TY cI cZ cP) sa [.ref mo, .int p0] (w_m_layRow cI cZ cP mo a_now a_kep a_isk a_ref a_cw a_row a_lea a_sli a_lef a_bst a_try a_mom a_byt a_nxt a_val p0) sz) (qQv D (w_m_layRow cI cZ cP mo a_now a_kep a_isk a_ref a_cw a_row a_lea a_sli a_lef a_bst a_try a_mom a_byt a_nxt a_val p0) sz (fun _ : Unit => True) (fun _ => [(mo, .inr (7, [.ref a_now, .ref a_kep, .ref a_isk, .ref a_ref, .long 0, .long 1, .int 0, .int 0, .int 0, .int 0, .ref a_cw, .ref a_row, .int 0, .ref a_lea, .ref a_sli, .ref a_lef, .ref a_bst, .ref a_try, .int 0, .ref a_mom, .ref a_byt, .int 0, .int 0, .int 0, .int 0, .int 0, .ref a_nxt, .ref a_val])), (a_now, .inl (cI, 221, .inl nw0))])) 0 0 (va_A (w_m_layRow cI cZ cP mo a_now a_kep a_isk a_ref a_cw a_row a_lea a_sli a_lef a_bst a_try a_mom a_byt a_nxt a_val p0) sz) := by
  refine q_enter (by decide) (Nat.le_of_ble_eq_true rfl) ?_
  intro p e s m below meth c ls hX hr hlk hnm hE hK hP hD hS hA hl
  obtain ⟨hx, hb, hml, hown, ht⟩ := id hX
  have hl : lv_has ls 4 [(0, .ref mo), (1, .int p0)] := hl
  refine lv_aload_n hx hb dX7_layRow_0 rfl (lv_at hl 0 rfl) ?_
  refine lv_iconst (v := 0) hx hb dX7_layRow_1 (by decide) ?_
  refine va_put (D := D) (ci := 7) (v := .int 0) (ty := .int) (C := RX7) (T := TX7) (N := 28) hx hb ht inX7 tyX7 tyX7_ok nmX7 hown hK hP hD hS 0 rfl rfl 12 (Nat.le_of_ble_eq_true rfl) (ht _ kw_916) (fun _ h9 => h9) rfl (by decide +kernel) rfl rfl (Nat.le_of_ble_eq_true rfl) dX7_layRow_2 (fun H locs hP hD hS => ?_)
  have hP : va_P D vwCl [(mo, .inr (7, [.ref a_now, .ref a_kep, .ref a_isk, .ref a_ref, .long 0, .long 1, .int 0, .int 0, .int 0, .int 0, .ref a_cw, .ref a_row, .int 0, .ref a_lea, .ref a_sli, .ref a_lef, .ref a_bst, .ref a_try, .int 0, .ref a_mom, .ref a_byt, .int 0, .int 0, .int 0, .int 0, .int 0, .ref a_nxt, .ref a_val])), (a_now, .inl (cI, 221, .inl nw0))] H := hP
  have hD : va_D (va_A (w_m_layRow cI cZ cP mo a_now a_kep a_isk a_ref a_cw a_row a_lea a_sli a_lef a_bst a_try a_mom a_byt a_nxt a_val p0) sz) [(mo, .inr (7, [.ref a_now, .ref a_kep, .ref a_isk, .ref a_ref, .long 0, .long 1, .int 0, .int 0, .int 0, .int 0, .ref a_cw, .ref a_row, .int 0, .ref a_lea, .ref a_sli, .ref a_lef, .ref a_bst, .ref a_try, .int 0, .ref a_mom, .ref a_byt, .int 0, .int 0, .int 0, .int 0, .int 0, .ref a_nxt, .ref a_val])), (a_now, .inl (cI, 221, .inl nw0))] := hD
  refine lv_iconst (v := 0) hx hb dX7_layRow_5 (by decide) ?_
  refine lv_istore_n (lv' := [(2, .int 0), (0, .ref mo), (1, .int p0)]) hx hb dX7_layRow_6 rfl hl (by decide) rfl (fun ls hl => ?_)
  refine lv_iload_n hx hb dX7_layRow_7 rfl (lv_at hl 0 rfl) ?_
  refine lv_aload_n hx hb dX7_layRow_8 rfl (lv_at hl 1 rfl) ?_
  refine q_Vi (wr := []) [0, 1] [] hX hE hK hP hD hS hA hl.1 lk_X7_64 (c_m_notes l D cI cZ cP sa mo a_now a_kep a_isk a_ref a_cw a_row a_lea a_sli a_lef a_bst a_try a_mom a_byt a_nxt a_val 0 1 0 0 0 0 0 0 0 0 0 0 0 _) rfl rfl rfl rfl (by decide) 0 7 rfl rfl rfl rfl (Nat.le_of_ble_eq_true rfl) rfl rfl ⟨Nat.le_of_ble_eq_true rfl, Nat.le_of_ble_eq_true rfl⟩ ⟨Nat.le_of_ble_eq_true rfl, Nat.le_of_ble_eq_true rfl⟩ dX7_layRow_9 (fun x_1 _ H locs h_1 hP hD hS => ?_)
  have hP : va_P D vwCl [(mo, .inr (7, [.ref a_now, .ref a_kep, .ref a_isk, .ref a_ref, .long 0, .long 1, .int 0, .int 0, .int 0, .int 0, .ref a_cw, .ref a_row, .int 0, .ref a_lea, .ref a_sli, .ref a_lef, .ref a_bst, .ref a_try, .int 0, .ref a_mom, .ref a_byt, .int 0, .int 0, .int 0, .int 0, .int 0, .ref a_nxt, .ref a_val])), (a_now, .inl (cI, 221, .inl nw0))] H := hP
  have hD : va_D (va_A (w_m_layRow cI cZ cP mo a_now a_kep a_isk a_ref a_cw a_row a_lea a_sli a_lef a_bst a_try a_mom a_byt a_nxt a_val p0) sz) [(mo, .inr (7, [.ref a_now, .ref a_kep, .ref a_isk, .ref a_ref, .long 0, .long 1, .int 0, .int 0, .int 0, .int 0, .ref a_cw, .ref a_row, .int 0, .ref a_lea, .ref a_sli, .ref a_lef, .ref a_bst, .ref a_try, .int 0, .ref a_mom, .ref a_byt, .int 0, .int 0, .int 0, .int 0, .int 0, .ref a_nxt, .ref a_val])), (a_now, .inl (cI, 221, .inl nw0))] := hD
  subst h_1
  refine lv_icmp_ge (tgt := 93) hx hb dX7_layRow_12 (by decide) (fun _ => ?_) (fun c_2 => absurd (by decide) c_2)
  exact q_vret hX hr hlk () trivial (hP.sub [0, 1] rfl) (hD.sub [0, 1] (by decide) rfl) hS dX7_layRow_93
abbrev w_m_fingers (cI cZ cP : ClassId) (mo : Nat) (a_now : Nat) (a_kep : Nat) (a_isk : Nat) (a_ref : Nat) (a_cw : Nat) (a_row : Nat) (a_lea : Nat) (a_sli : Nat) (a_lef : Nat) (a_bst : Nat) (a_try : Nat) (a_mom : Nat) (a_byt : Nat) (a_nxt : Nat) (a_val : Nat) (p0 : Int32) (p1 : Int32) : va_W := [(mo, .inr (7, [.ref a_now, .ref a_kep, .ref a_isk, .ref a_ref, .long 0, .long 1, .int 0, .int 0, .int 0, .int 0, .ref a_cw, .ref a_row, .int 0, .ref a_lea, .ref a_sli, .ref a_lef, .ref a_bst, .ref a_try, .int 0, .ref a_mom, .ref a_byt, .int 0, .int 0, .int 0, .int 0, .int 0, .ref a_nxt, .ref a_val])), (a_now, .inl (cI, 221, .inl nw0)), (a_ref, .inl (cI, 3, .inl (fun _ => 0)))]
set_option maxHeartbeats 4000000 in
set_option maxRecDepth 100000 in
theorem c_m_fingers (l : Launch) (D : va_G) (cI cZ cP : ClassId) (sa : Nat → Nat) (mo : Nat) (a_now : Nat) (a_kep : Nat) (a_isk : Nat) (a_ref : Nat) (a_cw : Nat) (a_row : Nat) (a_lea : Nat) (a_sli : Nat) (a_lef : Nat) (a_bst : Nat) (a_try : Nat) (a_mom : Nat) (a_byt : Nat) (a_nxt : Nat) (a_val : Nat) (p0 : Int32) (p1 : Int32) (sz : Nat) : Met l yX7_fingers (qW yX7_fingers cX7_fingers 10 (some .int)) ({ frames := 2, cells := 0, slots := 0, locals := 45 } : Room) (qP D (TY cI cZ cP) sa [.ref mo, .int p0, .int p1] (w_m_fingers cI cZ cP mo a_now a_kep a_isk a_ref a_cw a_row a_lea a_sli a_lef a_bst a_try a_mom a_byt a_nxt a_val p0 p1) sz) (qQi D (w_m_fingers cI cZ cP mo a_now a_kep a_isk a_ref a_cw a_row a_lea a_sli a_lef a_bst a_try a_mom a_byt a_nxt a_val p0 p1) sz (fun (r : Int32) (_ : Unit) => r = sp_fingers p0 p1) (fun _ => [])) 0 0 (va_A (w_m_fingers cI cZ cP mo a_now a_kep a_isk a_ref a_cw a_row a_lea a_sli a_lef a_bst a_try a_mom a_byt a_nxt a_val p0 p1) sz) := by
  refine q_enter (by decide) (Nat.le_of_ble_eq_true rfl) ?_
  intro p e s m below meth c ls hX hr hlk hnm hE hK hP hD hS hA hl
  obtain ⟨hx, hb, hml, hown, ht⟩ := id hX
  have hl : lv_has ls 10 [(0, .ref mo), (1, .int p0), (2, .int p1)] := hl
  refine lv_iload_n hx hb dX7_fingers_0 rfl (lv_at hl 1 rfl) ?_
  refine q_Si (wr := [(mo, .inr (7, [.ref a_now, .ref a_kep, .ref a_isk, .ref a_ref, .long 0, .long 1, .int 0, .int 0, .int 0, .int 0, .ref a_cw, .ref a_row, .int 0, .ref a_lea, .ref a_sli, .ref a_lef, .ref a_bst, .ref a_try, .int 0, .ref a_mom, .ref a_byt, .int 0, .int 0, .int 0, .int 0, .int 0, .ref a_nxt, .ref a_val])), (a_now, .inl (cI, 221, .inl nw0)), (a_ref, .inl (cI, 3, .inl (fun _ => 0)))]) [] [0, 1, 2] hX hE hK hP hD hS hA hl.1 lk_X7_80 (c_m_isHand l D cI cZ cP sa p0 _) rfl rfl rfl rfl (by decide) rfl rfl (Nat.le_of_ble_eq_true rfl) rfl rfl ⟨Nat.le_of_ble_eq_true rfl, Nat.le_of_ble_eq_true rfl⟩ ⟨Nat.le_of_ble_eq_true rfl, Nat.le_of_ble_eq_true rfl⟩ dX7_fingers_1 (fun x_1 _ H locs h_1 hP hD hS => ?_)
  have hP : va_P D vwCl [(mo, .inr (7, [.ref a_now, .ref a_kep, .ref a_isk, .ref a_ref, .long 0, .long 1, .int 0, .int 0, .int 0, .int 0, .ref a_cw, .ref a_row, .int 0, .ref a_lea, .ref a_sli, .ref a_lef, .ref a_bst, .ref a_try, .int 0, .ref a_mom, .ref a_byt, .int 0, .int 0, .int 0, .int 0, .int 0, .ref a_nxt, .ref a_val])), (a_now, .inl (cI, 221, .inl nw0)), (a_ref, .inl (cI, 3, .inl (fun _ => 0)))] H := hP
  have hD : va_D (va_A (w_m_fingers cI cZ cP mo a_now a_kep a_isk a_ref a_cw a_row a_lea a_sli a_lef a_bst a_try a_mom a_byt a_nxt a_val p0 p1) sz) [(mo, .inr (7, [.ref a_now, .ref a_kep, .ref a_isk, .ref a_ref, .long 0, .long 1, .int 0, .int 0, .int 0, .int 0, .ref a_cw, .ref a_row, .int 0, .ref a_lea, .ref a_sli, .ref a_lef, .ref a_bst, .ref a_try, .int 0, .ref a_mom, .ref a_byt, .int 0, .int 0, .int 0, .int 0, .int 0, .ref a_nxt, .ref a_val])), (a_now, .inl (cI, 221, .inl nw0)), (a_ref, .inl (cI, 3, .inl (fun _ => 0)))] := hD
  rcases Classical.em (0 ≤ p0 ∧ p0 ≤ 3) with c_1 | c_1
  · rw [if_pos c_1] at h_1; subst h_1
    refine lv_if_eq (tgt := 12) hx hb dX7_fingers_4 (by decide) (fun c_2 => absurd c_2 (by decide)) (fun _ => ?_)
    refine lv_iload_n hx hb dX7_fingers_7 rfl (lv_at hl 2 rfl) ?_
    refine lv_iconst (v := (-1)) hx hb dX7_fingers_8 (by decide) ?_
    refine lv_icmp_ge (tgt := 19) hx hb dX7_fingers_9 (by decide) (fun c_3 => ?_) (fun c_3 => ?_)
    · refine lv_aload_n hx hb dX7_fingers_19 rfl (lv_at hl 0 rfl) ?_
      refine lv_iload_n hx hb dX7_fingers_20 rfl (lv_at hl 1 rfl) ?_
      refine q_Vv (wr := [(a_ref, .inl (cI, 3, .inl (fun _ => 0)))]) [0, 1] [2] hX hE hK hP hD hS hA hl.1 lk_X7_203 (c_m_layRow l D cI cZ cP sa mo a_now a_kep a_isk a_ref a_cw a_row a_lea a_sli a_lef a_bst a_try a_mom a_byt a_nxt a_val p0 _) rfl rfl rfl rfl (by decide) 0 7 rfl rfl rfl rfl (Nat.le_of_ble_eq_true rfl) rfl rfl ⟨Nat.le_of_ble_eq_true rfl, Nat.le_of_ble_eq_true rfl⟩ ⟨Nat.le_of_ble_eq_true rfl, Nat.le_of_ble_eq_true rfl⟩ dX7_fingers_21 (fun _ H locs h_4 hP hD hS => ?_)
      have hP : va_P D vwCl [(a_ref, .inl (cI, 3, .inl (fun _ => 0))), (mo, .inr (7, [.ref a_now, .ref a_kep, .ref a_isk, .ref a_ref, .long 0, .long 1, .int 0, .int 0, .int 0, .int 0, .ref a_cw, .ref a_row, .int 0, .ref a_lea, .ref a_sli, .ref a_lef, .ref a_bst, .ref a_try, .int 0, .ref a_mom, .ref a_byt, .int 0, .int 0, .int 0, .int 0, .int 0, .ref a_nxt, .ref a_val])), (a_now, .inl (cI, 221, .inl nw0))] H := hP
      have hD : va_D (va_A (w_m_fingers cI cZ cP mo a_now a_kep a_isk a_ref a_cw a_row a_lea a_sli a_lef a_bst a_try a_mom a_byt a_nxt a_val p0 p1) sz) [(a_ref, .inl (cI, 3, .inl (fun _ => 0))), (mo, .inr (7, [.ref a_now, .ref a_kep, .ref a_isk, .ref a_ref, .long 0, .long 1, .int 0, .int 0, .int 0, .int 0, .ref a_cw, .ref a_row, .int 0, .ref a_lea, .ref a_sli, .ref a_lef, .ref a_bst, .ref a_try, .int 0, .ref a_mom, .ref a_byt, .int 0, .int 0, .int 0, .int 0, .int 0, .ref a_nxt, .ref a_val])), (a_now, .inl (cI, 221, .inl nw0))] := hD
      refine lv_aload_n hx hb dX7_fingers_24 rfl (lv_at hl 0 rfl) ?_
      refine va_get (D := D) (ci := 7) (v := .int 0) (C := RX7) (T := TX7) (N := 28) hx hb ht inX7 hown hK hP 1 rfl rfl 12 (Nat.le_of_ble_eq_true rfl) (ht _ kw_916) (fun _ h9 => h9) rfl dX7_fingers_25 ?_
      refine lv_bipush (v := 8) hx hb dX7_fingers_28 (by decide) ?_
      refine lv_icmp_le (tgt := 40) hx hb dX7_fingers_30 (by decide) (fun _ => ?_) (fun c_5 => absurd (by decide) c_5)
      refine lv_aload_n hx hb dX7_fingers_40 rfl (lv_at hl 0 rfl) ?_
      refine va_get (D := D) (ci := 7) (v := .int 0) (C := RX7) (T := TX7) (N := 28) hx hb ht inX7 hown hK hP 1 rfl rfl 12 (Nat.le_of_ble_eq_true rfl) (ht _ kw_916) (fun _ h9 => h9) rfl dX7_fingers_41 ?_
      refine lv_iconst (v := 1) hx hb dX7_fingers_44 (by decide) ?_
      refine lv_isub hx hb dX7_fingers_45 ?_
      refine q_i (z := (-1)) (by decide) ?_
      refine lv_istore_n (lv' := [(3, .int (-1)), (0, .ref mo), (1, .int p0), (2, .int p1)]) hx hb dX7_fingers_46 rfl hl (by decide) rfl (fun ls hl => ?_)
      refine lv_iload_n hx hb dX7_fingers_47 rfl (lv_at hl 0 rfl) ?_
      refine lv_if_lt (tgt := 90) hx hb dX7_fingers_48 (by decide) (fun _ => ?_) (fun c_6 => absurd (by decide) c_6)
      refine lv_iconst (v := 0) hx hb dX7_fingers_90 (by decide) ?_
      refine lv_istore_n (lv' := [(3, .int 0), (0, .ref mo), (1, .int p0), (2, .int p1)]) hx hb dX7_fingers_91 rfl hl (by decide) rfl (fun ls hl => ?_)
      refine lv_iconst (v := 0) hx hb dX7_fingers_92 (by decide) ?_
      refine lv_istore (lv' := [(4, .int 0), (3, .int 0), (0, .ref mo), (1, .int p0), (2, .int p1)]) hx hb dX7_fingers_93 hl (by decide) rfl (fun ls hl => ?_)
      refine lv_iconst (v := 0) hx hb dX7_fingers_95 (by decide) ?_
      refine lv_istore (lv' := [(5, .int 0), (4, .int 0), (3, .int 0), (0, .ref mo), (1, .int p0), (2, .int p1)]) hx hb dX7_fingers_96 hl (by decide) rfl (fun ls hl => ?_)
      refine lv_iload hx hb dX7_fingers_98 (lv_at hl 0 rfl) ?_
      refine lv_aload_n hx hb dX7_fingers_100 rfl (lv_at hl 3 rfl) ?_
      refine va_get (D := D) (ci := 7) (v := .int 0) (C := RX7) (T := TX7) (N := 28) hx hb ht inX7 hown hK hP 1 rfl rfl 12 (Nat.le_of_ble_eq_true rfl) (ht _ kw_916) (fun _ h9 => h9) rfl dX7_fingers_101 ?_
      refine lv_icmp_ge (tgt := 237) hx hb dX7_fingers_104 (by decide) (fun _ => ?_) (fun c_7 => absurd (by decide) c_7)
      refine lv_iload_n hx hb dX7_fingers_237 rfl (lv_at hl 5 rfl) ?_
      refine lv_iconst (v := (-1)) hx hb dX7_fingers_238 (by decide) ?_
      refine lv_icmp_ne (tgt := 247) hx hb dX7_fingers_239 (by decide) (fun c_8 => ?_) (fun c_8 => ?_)
      · refine lv_iload_n hx hb dX7_fingers_247 rfl (lv_at hl 5 rfl) ?_
        refine lv_aload_n hx hb dX7_fingers_248 rfl (lv_at hl 3 rfl) ?_
        refine va_get (D := D) (ci := 7) (v := .int 0) (C := RX7) (T := TX7) (N := 28) hx hb ht inX7 hown hK hP 1 rfl rfl 12 (Nat.le_of_ble_eq_true rfl) (ht _ kw_916) (fun _ h9 => h9) rfl dX7_fingers_249 ?_
        refine lv_icmp_ge (tgt := 259) hx hb dX7_fingers_252 (by decide) (fun _ => ?_) (fun c_9 => absurd (ge0 c_3 c_8) c_9)
        refine lv_bipush (v := (-5)) hx hb dX7_fingers_259 (by decide) ?_
        exact q_iret hX hr hlk () (by simp [sp_fingers, c_1, c_3, c_8]) (hP.sub [] rfl) (hD.sub [] (by decide) rfl) hS dX7_fingers_261
      · refine lv_iload hx hb dX7_fingers_242 (lv_at hl 1 rfl) ?_
        refine lv_goto (tgt := 261) hx hb dX7_fingers_244 (by decide) ?_
        exact q_iret hX hr hlk () (by simp [sp_fingers, c_1, c_3, c_8]) (hP.sub [] rfl) (hD.sub [] (by decide) rfl) hS dX7_fingers_261
    · refine lv_aload_n hx hb dX7_fingers_12 rfl (lv_at hl 0 rfl) ?_
      refine lv_bipush (v := (-10)) hx hb dX7_fingers_13 (by decide) ?_
      refine q_Vi (wr := [(a_now, .inl (cI, 221, .inl nw0))]) [0, 2] [1] hX hE hK hP hD hS hA hl.1 lk_X7_76 (c_m_bad l D cI cZ cP sa mo a_now a_kep a_isk a_ref a_cw a_row a_lea a_sli a_lef a_bst a_try a_mom a_byt a_nxt a_val 0 1 0 0 0 0 0 0 0 0 0 0 0 (-10) _) rfl rfl rfl rfl (by decide) 0 7 rfl rfl rfl rfl (Nat.le_of_ble_eq_true rfl) rfl rfl ⟨Nat.le_of_ble_eq_true rfl, Nat.le_of_ble_eq_true rfl⟩ ⟨Nat.le_of_ble_eq_true rfl, Nat.le_of_ble_eq_true rfl⟩ dX7_fingers_15 (fun x_10 _ H locs h_10 hP hD hS => ?_)
      have hP : va_P D vwCl [(a_now, .inl (cI, 221, .inl nw0))] H := hP
      have hD : va_D (va_A (w_m_fingers cI cZ cP mo a_now a_kep a_isk a_ref a_cw a_row a_lea a_sli a_lef a_bst a_try a_mom a_byt a_nxt a_val p0 p1) sz) [(a_now, .inl (cI, 221, .inl nw0))] := hD
      subst h_10
      exact q_iret hX hr hlk () (by simp [sp_fingers, c_1, c_3]) (hP.sub [] rfl) (hD.sub [] (by decide) rfl) hS dX7_fingers_18
  · rw [if_neg c_1] at h_1; subst h_1
    refine lv_if_eq (tgt := 12) hx hb dX7_fingers_4 (by decide) (fun _ => ?_) (fun c_11 => absurd (by decide) c_11)
    refine lv_aload_n hx hb dX7_fingers_12 rfl (lv_at hl 0 rfl) ?_
    refine lv_bipush (v := (-10)) hx hb dX7_fingers_13 (by decide) ?_
    refine q_Vi (wr := [(a_now, .inl (cI, 221, .inl nw0))]) [0, 2] [1] hX hE hK hP hD hS hA hl.1 lk_X7_76 (c_m_bad l D cI cZ cP sa mo a_now a_kep a_isk a_ref a_cw a_row a_lea a_sli a_lef a_bst a_try a_mom a_byt a_nxt a_val 0 1 0 0 0 0 0 0 0 0 0 0 0 (-10) _) rfl rfl rfl rfl (by decide) 0 7 rfl rfl rfl rfl (Nat.le_of_ble_eq_true rfl) rfl rfl ⟨Nat.le_of_ble_eq_true rfl, Nat.le_of_ble_eq_true rfl⟩ ⟨Nat.le_of_ble_eq_true rfl, Nat.le_of_ble_eq_true rfl⟩ dX7_fingers_15 (fun x_12 _ H locs h_12 hP hD hS => ?_)
    have hP : va_P D vwCl [(a_now, .inl (cI, 221, .inl nw0))] H := hP
    have hD : va_D (va_A (w_m_fingers cI cZ cP mo a_now a_kep a_isk a_ref a_cw a_row a_lea a_sli a_lef a_bst a_try a_mom a_byt a_nxt a_val p0 p1) sz) [(a_now, .inl (cI, 221, .inl nw0))] := hD
    subst h_12
    exact q_iret hX hr hlk () (by simp [sp_fingers, c_1]) (hP.sub [] rfl) (hD.sub [] (by decide) rfl) hS dX7_fingers_18
abbrev w_m_pedal (cI cZ cP : ClassId) (mo : Nat) (a_now : Nat) (a_kep : Nat) (a_isk : Nat) (a_ref : Nat) (a_cw : Nat) (a_row : Nat) (a_lea : Nat) (a_sli : Nat) (a_lef : Nat) (a_bst : Nat) (a_try : Nat) (a_mom : Nat) (a_byt : Nat) (a_nxt : Nat) (a_val : Nat) (p0 : Int32) (p1 : Int32) : va_W := [(mo, .inr (7, [.ref a_now, .ref a_kep, .ref a_isk, .ref a_ref, .long 0, .long 1, .int 0, .int 0, .int 0, .int 0, .ref a_cw, .ref a_row, .int 0, .ref a_lea, .ref a_sli, .ref a_lef, .ref a_bst, .ref a_try, .int 0, .ref a_mom, .ref a_byt, .int 0, .int 0, .int 0, .int 0, .int 0, .ref a_nxt, .ref a_val])), (a_now, .inl (cI, 221, .inl nw0)), (a_ref, .inl (cI, 3, .inl (fun _ => 0)))]
set_option maxHeartbeats 4000000 in
set_option maxRecDepth 100000 in
theorem c_m_pedal (l : Launch) (D : va_G) (cI cZ cP : ClassId) (sa : Nat → Nat) (mo : Nat) (a_now : Nat) (a_kep : Nat) (a_isk : Nat) (a_ref : Nat) (a_cw : Nat) (a_row : Nat) (a_lea : Nat) (a_sli : Nat) (a_lef : Nat) (a_bst : Nat) (a_try : Nat) (a_mom : Nat) (a_byt : Nat) (a_nxt : Nat) (a_val : Nat) (p0 : Int32) (p1 : Int32) (sz : Nat) : Met l yX7_pedal (qW yX7_pedal cX7_pedal 3 (some .int)) ({ frames := 1, cells := 0, slots := 0, locals := 25 } : Room) (qP D (TY cI cZ cP) sa [.ref mo, .int p0, .int p1] (w_m_pedal cI cZ cP mo a_now a_kep a_isk a_ref a_cw a_row a_lea a_sli a_lef a_bst a_try a_mom a_byt a_nxt a_val p0 p1) sz) (qQi D (w_m_pedal cI cZ cP mo a_now a_kep a_isk a_ref a_cw a_row a_lea a_sli a_lef a_bst a_try a_mom a_byt a_nxt a_val p0 p1) sz (fun (r : Int32) (_ : Unit) => r = sp_pedal p0 p1) (fun _ => [])) 0 0 (va_A (w_m_pedal cI cZ cP mo a_now a_kep a_isk a_ref a_cw a_row a_lea a_sli a_lef a_bst a_try a_mom a_byt a_nxt a_val p0 p1) sz) := by
  refine q_enter (by decide) (Nat.le_of_ble_eq_true rfl) ?_
  intro p e s m below meth c ls hX hr hlk hnm hE hK hP hD hS hA hl
  obtain ⟨hx, hb, hml, hown, ht⟩ := id hX
  have hl : lv_has ls 3 [(0, .ref mo), (1, .int p0), (2, .int p1)] := hl
  refine lv_iload_n hx hb dX7_pedal_0 rfl (lv_at hl 2 rfl) ?_
  refine lv_i2l (v := (p1.toInt64)) hx hb dX7_pedal_1 rfl ?_
  refine lv_lconst (v := 0) hx hb dX7_pedal_2 (by decide) ?_
  refine q_l (z := ((0 : Int32).toInt64)) (by decide) ?_
  refine lv_ldc2 hx hb hown (ht _ kw_1175) dX7_pedal_3 ?_
  refine q_l (z := ((64 : Int32).toInt64)) (by decide) ?_
  refine q_Si (wr := [(mo, .inr (7, [.ref a_now, .ref a_kep, .ref a_isk, .ref a_ref, .long 0, .long 1, .int 0, .int 0, .int 0, .int 0, .ref a_cw, .ref a_row, .int 0, .ref a_lea, .ref a_sli, .ref a_lef, .ref a_bst, .ref a_try, .int 0, .ref a_mom, .ref a_byt, .int 0, .int 0, .int 0, .int 0, .int 0, .ref a_nxt, .ref a_val])), (a_now, .inl (cI, 221, .inl nw0)), (a_ref, .inl (cI, 3, .inl (fun _ => 0)))]) [] [0, 1, 2] hX hE hK hP hD hS hA hl.1 lk_X7_68 (c_m_in l D cI cZ cP sa p1 0 64 _) rfl rfl rfl rfl (by decide) rfl rfl (Nat.le_of_ble_eq_true rfl) rfl rfl ⟨Nat.le_of_ble_eq_true rfl, Nat.le_of_ble_eq_true rfl⟩ ⟨Nat.le_of_ble_eq_true rfl, Nat.le_of_ble_eq_true rfl⟩ dX7_pedal_6 (fun x_1 _ H locs h_1 hP hD hS => ?_)
  have hP : va_P D vwCl [(mo, .inr (7, [.ref a_now, .ref a_kep, .ref a_isk, .ref a_ref, .long 0, .long 1, .int 0, .int 0, .int 0, .int 0, .ref a_cw, .ref a_row, .int 0, .ref a_lea, .ref a_sli, .ref a_lef, .ref a_bst, .ref a_try, .int 0, .ref a_mom, .ref a_byt, .int 0, .int 0, .int 0, .int 0, .int 0, .ref a_nxt, .ref a_val])), (a_now, .inl (cI, 221, .inl nw0)), (a_ref, .inl (cI, 3, .inl (fun _ => 0)))] H := hP
  have hD : va_D (va_A (w_m_pedal cI cZ cP mo a_now a_kep a_isk a_ref a_cw a_row a_lea a_sli a_lef a_bst a_try a_mom a_byt a_nxt a_val p0 p1) sz) [(mo, .inr (7, [.ref a_now, .ref a_kep, .ref a_isk, .ref a_ref, .long 0, .long 1, .int 0, .int 0, .int 0, .int 0, .ref a_cw, .ref a_row, .int 0, .ref a_lea, .ref a_sli, .ref a_lef, .ref a_bst, .ref a_try, .int 0, .ref a_mom, .ref a_byt, .int 0, .int 0, .int 0, .int 0, .int 0, .ref a_nxt, .ref a_val])), (a_now, .inl (cI, 221, .inl nw0)), (a_ref, .inl (cI, 3, .inl (fun _ => 0)))] := hD
  rcases Classical.em (0 ≤ p1 ∧ p1 ≤ 64) with c_1 | c_1
  · rw [if_pos c_1] at h_1; subst h_1
    refine lv_if_eq (tgt := 23) hx hb dX7_pedal_9 (by decide) (fun c_2 => absurd c_2 (by decide)) (fun _ => ?_)
    refine lv_iload_n hx hb dX7_pedal_12 rfl (lv_at hl 1 rfl) ?_
    refine lv_i2l (v := (p0.toInt64)) hx hb dX7_pedal_13 rfl ?_
    refine lv_lconst (v := 0) hx hb dX7_pedal_14 (by decide) ?_
    refine q_l (z := ((0 : Int32).toInt64)) (by decide) ?_
    refine lv_iload_n hx hb dX7_pedal_15 rfl (lv_at hl 2 rfl) ?_
    refine lv_i2l (v := (p1.toInt64)) hx hb dX7_pedal_16 rfl ?_
    refine q_Si (wr := [(mo, .inr (7, [.ref a_now, .ref a_kep, .ref a_isk, .ref a_ref, .long 0, .long 1, .int 0, .int 0, .int 0, .int 0, .ref a_cw, .ref a_row, .int 0, .ref a_lea, .ref a_sli, .ref a_lef, .ref a_bst, .ref a_try, .int 0, .ref a_mom, .ref a_byt, .int 0, .int 0, .int 0, .int 0, .int 0, .ref a_nxt, .ref a_val])), (a_now, .inl (cI, 221, .inl nw0)), (a_ref, .inl (cI, 3, .inl (fun _ => 0)))]) [] [0, 1, 2] hX hE hK hP hD hS hA hl.1 lk_X7_68 (c_m_in l D cI cZ cP sa p0 0 p1 _) rfl rfl rfl rfl (by decide) rfl rfl (Nat.le_of_ble_eq_true rfl) rfl rfl ⟨Nat.le_of_ble_eq_true rfl, Nat.le_of_ble_eq_true rfl⟩ ⟨Nat.le_of_ble_eq_true rfl, Nat.le_of_ble_eq_true rfl⟩ dX7_pedal_17 (fun x_3 _ H locs h_3 hP hD hS => ?_)
    have hP : va_P D vwCl [(mo, .inr (7, [.ref a_now, .ref a_kep, .ref a_isk, .ref a_ref, .long 0, .long 1, .int 0, .int 0, .int 0, .int 0, .ref a_cw, .ref a_row, .int 0, .ref a_lea, .ref a_sli, .ref a_lef, .ref a_bst, .ref a_try, .int 0, .ref a_mom, .ref a_byt, .int 0, .int 0, .int 0, .int 0, .int 0, .ref a_nxt, .ref a_val])), (a_now, .inl (cI, 221, .inl nw0)), (a_ref, .inl (cI, 3, .inl (fun _ => 0)))] H := hP
    have hD : va_D (va_A (w_m_pedal cI cZ cP mo a_now a_kep a_isk a_ref a_cw a_row a_lea a_sli a_lef a_bst a_try a_mom a_byt a_nxt a_val p0 p1) sz) [(mo, .inr (7, [.ref a_now, .ref a_kep, .ref a_isk, .ref a_ref, .long 0, .long 1, .int 0, .int 0, .int 0, .int 0, .ref a_cw, .ref a_row, .int 0, .ref a_lea, .ref a_sli, .ref a_lef, .ref a_bst, .ref a_try, .int 0, .ref a_mom, .ref a_byt, .int 0, .int 0, .int 0, .int 0, .int 0, .ref a_nxt, .ref a_val])), (a_now, .inl (cI, 221, .inl nw0)), (a_ref, .inl (cI, 3, .inl (fun _ => 0)))] := hD
    rcases Classical.em (0 ≤ p0 ∧ p0 ≤ p1) with c_3 | c_3
    · rw [if_pos c_3] at h_3; subst h_3
      refine lv_if_ne (tgt := 30) hx hb dX7_pedal_20 (by decide) (fun _ => ?_) (fun c_4 => absurd c_4 (by decide))
      refine lv_aload_n hx hb dX7_pedal_30 rfl (lv_at hl 0 rfl) ?_
      refine va_get (D := D) (ci := 7) (v := .ref a_now) (C := RX7) (T := TX7) (N := 28) hx hb ht inX7 hown hK hP 0 rfl rfl 0 (Nat.le_of_ble_eq_true rfl) (ht _ kw_904) (fun _ h9 => h9) rfl dX7_pedal_31 ?_
      refine lv_iconst (v := 2) hx hb dX7_pedal_34 (by decide) ?_
      refine lv_iload_n hx hb dX7_pedal_35 rfl (lv_at hl 1 rfl) ?_
      refine va_iast hx hb hK hP hD hS 1 0 rfl rfl (vin (by decide)) dX7_pedal_36 (fun H locs hP hD hS => ?_)
      have hP : va_P D vwCl [(mo, .inr (7, [.ref a_now, .ref a_kep, .ref a_isk, .ref a_ref, .long 0, .long 1, .int 0, .int 0, .int 0, .int 0, .ref a_cw, .ref a_row, .int 0, .ref a_lea, .ref a_sli, .ref a_lef, .ref a_bst, .ref a_try, .int 0, .ref a_mom, .ref a_byt, .int 0, .int 0, .int 0, .int 0, .int 0, .ref a_nxt, .ref a_val])), (a_now, .inl (cI, 221, .inl (upd nw0 (2 : Int32).toNatClampNeg p0))), (a_ref, .inl (cI, 3, .inl (fun _ => 0)))] H := hP
      have hD : va_D (va_A (w_m_pedal cI cZ cP mo a_now a_kep a_isk a_ref a_cw a_row a_lea a_sli a_lef a_bst a_try a_mom a_byt a_nxt a_val p0 p1) sz) [(mo, .inr (7, [.ref a_now, .ref a_kep, .ref a_isk, .ref a_ref, .long 0, .long 1, .int 0, .int 0, .int 0, .int 0, .ref a_cw, .ref a_row, .int 0, .ref a_lea, .ref a_sli, .ref a_lef, .ref a_bst, .ref a_try, .int 0, .ref a_mom, .ref a_byt, .int 0, .int 0, .int 0, .int 0, .int 0, .ref a_nxt, .ref a_val])), (a_now, .inl (cI, 221, .inl (upd nw0 (2 : Int32).toNatClampNeg p0))), (a_ref, .inl (cI, 3, .inl (fun _ => 0)))] := hD
      refine lv_aload_n hx hb dX7_pedal_37 rfl (lv_at hl 0 rfl) ?_
      refine va_get (D := D) (ci := 7) (v := .ref a_now) (C := RX7) (T := TX7) (N := 28) hx hb ht inX7 hown hK hP 0 rfl rfl 0 (Nat.le_of_ble_eq_true rfl) (ht _ kw_904) (fun _ h9 => h9) rfl dX7_pedal_38 ?_
      refine lv_iconst (v := 3) hx hb dX7_pedal_41 (by decide) ?_
      refine lv_iload_n hx hb dX7_pedal_42 rfl (lv_at hl 2 rfl) ?_
      refine va_iast hx hb hK hP hD hS 1 0 rfl rfl (vin (by decide)) dX7_pedal_43 (fun H locs hP hD hS => ?_)
      have hP : va_P D vwCl [(mo, .inr (7, [.ref a_now, .ref a_kep, .ref a_isk, .ref a_ref, .long 0, .long 1, .int 0, .int 0, .int 0, .int 0, .ref a_cw, .ref a_row, .int 0, .ref a_lea, .ref a_sli, .ref a_lef, .ref a_bst, .ref a_try, .int 0, .ref a_mom, .ref a_byt, .int 0, .int 0, .int 0, .int 0, .int 0, .ref a_nxt, .ref a_val])), (a_now, .inl (cI, 221, .inl (upd (upd nw0 (2 : Int32).toNatClampNeg p0) (3 : Int32).toNatClampNeg p1))), (a_ref, .inl (cI, 3, .inl (fun _ => 0)))] H := hP
      have hD : va_D (va_A (w_m_pedal cI cZ cP mo a_now a_kep a_isk a_ref a_cw a_row a_lea a_sli a_lef a_bst a_try a_mom a_byt a_nxt a_val p0 p1) sz) [(mo, .inr (7, [.ref a_now, .ref a_kep, .ref a_isk, .ref a_ref, .long 0, .long 1, .int 0, .int 0, .int 0, .int 0, .ref a_cw, .ref a_row, .int 0, .ref a_lea, .ref a_sli, .ref a_lef, .ref a_bst, .ref a_try, .int 0, .ref a_mom, .ref a_byt, .int 0, .int 0, .int 0, .int 0, .int 0, .ref a_nxt, .ref a_val])), (a_now, .inl (cI, 221, .inl (upd (upd nw0 (2 : Int32).toNatClampNeg p0) (3 : Int32).toNatClampNeg p1))), (a_ref, .inl (cI, 3, .inl (fun _ => 0)))] := hD
      refine lv_iconst (v := 1) hx hb dX7_pedal_44 (by decide) ?_
      exact q_iret hX hr hlk () (by simp [sp_pedal, c_1, c_3]) (hP.sub [] rfl) (hD.sub [] (by decide) rfl) hS dX7_pedal_45
    · rw [if_neg c_3] at h_3; subst h_3
      refine lv_if_ne (tgt := 30) hx hb dX7_pedal_20 (by decide) (fun c_5 => absurd (by decide) c_5) (fun _ => ?_)
      refine lv_aload_n hx hb dX7_pedal_23 rfl (lv_at hl 0 rfl) ?_
      refine lv_bipush (v := (-2)) hx hb dX7_pedal_24 (by decide) ?_
      refine q_Vi (wr := [(a_now, .inl (cI, 221, .inl nw0))]) [0, 2] [1] hX hE hK hP hD hS hA hl.1 lk_X7_76 (c_m_bad l D cI cZ cP sa mo a_now a_kep a_isk a_ref a_cw a_row a_lea a_sli a_lef a_bst a_try a_mom a_byt a_nxt a_val 0 1 0 0 0 0 0 0 0 0 0 0 0 (-2) _) rfl rfl rfl rfl (by decide) 0 7 rfl rfl rfl rfl (Nat.le_of_ble_eq_true rfl) rfl rfl ⟨Nat.le_of_ble_eq_true rfl, Nat.le_of_ble_eq_true rfl⟩ ⟨Nat.le_of_ble_eq_true rfl, Nat.le_of_ble_eq_true rfl⟩ dX7_pedal_26 (fun x_6 _ H locs h_6 hP hD hS => ?_)
      have hP : va_P D vwCl [(a_now, .inl (cI, 221, .inl nw0))] H := hP
      have hD : va_D (va_A (w_m_pedal cI cZ cP mo a_now a_kep a_isk a_ref a_cw a_row a_lea a_sli a_lef a_bst a_try a_mom a_byt a_nxt a_val p0 p1) sz) [(a_now, .inl (cI, 221, .inl nw0))] := hD
      subst h_6
      exact q_iret hX hr hlk () (by simp [sp_pedal, c_1, c_3]) (hP.sub [] rfl) (hD.sub [] (by decide) rfl) hS dX7_pedal_29
  · rw [if_neg c_1] at h_1; subst h_1
    refine lv_if_eq (tgt := 23) hx hb dX7_pedal_9 (by decide) (fun _ => ?_) (fun c_7 => absurd (by decide) c_7)
    refine lv_aload_n hx hb dX7_pedal_23 rfl (lv_at hl 0 rfl) ?_
    refine lv_bipush (v := (-2)) hx hb dX7_pedal_24 (by decide) ?_
    refine q_Vi (wr := [(a_now, .inl (cI, 221, .inl nw0))]) [0, 2] [1] hX hE hK hP hD hS hA hl.1 lk_X7_76 (c_m_bad l D cI cZ cP sa mo a_now a_kep a_isk a_ref a_cw a_row a_lea a_sli a_lef a_bst a_try a_mom a_byt a_nxt a_val 0 1 0 0 0 0 0 0 0 0 0 0 0 (-2) _) rfl rfl rfl rfl (by decide) 0 7 rfl rfl rfl rfl (Nat.le_of_ble_eq_true rfl) rfl rfl ⟨Nat.le_of_ble_eq_true rfl, Nat.le_of_ble_eq_true rfl⟩ ⟨Nat.le_of_ble_eq_true rfl, Nat.le_of_ble_eq_true rfl⟩ dX7_pedal_26 (fun x_8 _ H locs h_8 hP hD hS => ?_)
    have hP : va_P D vwCl [(a_now, .inl (cI, 221, .inl nw0))] H := hP
    have hD : va_D (va_A (w_m_pedal cI cZ cP mo a_now a_kep a_isk a_ref a_cw a_row a_lea a_sli a_lef a_bst a_try a_mom a_byt a_nxt a_val p0 p1) sz) [(a_now, .inl (cI, 221, .inl nw0))] := hD
    subst h_8
    exact q_iret hX hr hlk () (by simp [sp_pedal, c_1]) (hP.sub [] rfl) (hD.sub [] (by decide) rfl) hS dX7_pedal_29
abbrev w_m_blursBy (cI cZ cP : ClassId) (mo : Nat) (a_now : Nat) (a_kep : Nat) (a_isk : Nat) (a_ref : Nat) (a_cw : Nat) (a_row : Nat) (a_lea : Nat) (a_sli : Nat) (a_lef : Nat) (a_bst : Nat) (a_try : Nat) (a_mom : Nat) (a_byt : Nat) (a_nxt : Nat) (a_val : Nat) (p0 : Int32) (p1 : Int32) : va_W := [(mo, .inr (7, [.ref a_now, .ref a_kep, .ref a_isk, .ref a_ref, .long 0, .long 1, .int 0, .int 0, .int 0, .int 0, .ref a_cw, .ref a_row, .int 0, .ref a_lea, .ref a_sli, .ref a_lef, .ref a_bst, .ref a_try, .int 0, .ref a_mom, .ref a_byt, .int 0, .int 0, .int 0, .int 0, .int 0, .ref a_nxt, .ref a_val])), (a_now, .inl (cI, 221, .inl nw0))]
set_option maxHeartbeats 4000000 in
set_option maxRecDepth 100000 in
theorem c_m_blursBy (l : Launch) (D : va_G) (cI cZ cP : ClassId) (sa : Nat → Nat) (mo : Nat) (a_now : Nat) (a_kep : Nat) (a_isk : Nat) (a_ref : Nat) (a_cw : Nat) (a_row : Nat) (a_lea : Nat) (a_sli : Nat) (a_lef : Nat) (a_bst : Nat) (a_try : Nat) (a_mom : Nat) (a_byt : Nat) (a_nxt : Nat) (a_val : Nat) (p0 : Int32) (p1 : Int32) (sz : Nat) : Met l yX7_blursBy (qW yX7_blursBy cX7_blursBy 9 (some .int)) ({ frames := 1, cells := 0, slots := 0, locals := 20 } : Room) (qP D (TY cI cZ cP) sa [.ref mo, .int p0, .int p1] (w_m_blursBy cI cZ cP mo a_now a_kep a_isk a_ref a_cw a_row a_lea a_sli a_lef a_bst a_try a_mom a_byt a_nxt a_val p0 p1) sz) (qQi D (w_m_blursBy cI cZ cP mo a_now a_kep a_isk a_ref a_cw a_row a_lea a_sli a_lef a_bst a_try a_mom a_byt a_nxt a_val p0 p1) sz (fun (r : Int32) (_ : Unit) => r = 0) (fun _ => [(mo, .inr (7, [.ref a_now, .ref a_kep, .ref a_isk, .ref a_ref, .long 0, .long 1, .int 0, .int 0, .int 0, .int 0, .ref a_cw, .ref a_row, .int 0, .ref a_lea, .ref a_sli, .ref a_lef, .ref a_bst, .ref a_try, .int 0, .ref a_mom, .ref a_byt, .int 0, .int 0, .int 0, .int 0, .int 0, .ref a_nxt, .ref a_val])), (a_now, .inl (cI, 221, .inl nw0))])) 0 0 (va_A (w_m_blursBy cI cZ cP mo a_now a_kep a_isk a_ref a_cw a_row a_lea a_sli a_lef a_bst a_try a_mom a_byt a_nxt a_val p0 p1) sz) := by
  refine q_enter (by decide) (Nat.le_of_ble_eq_true rfl) ?_
  intro p e s m below meth c ls hX hr hlk hnm hE hK hP hD hS hA hl
  obtain ⟨hx, hb, hml, hown, ht⟩ := id hX
  have hl : lv_has ls 9 [(0, .ref mo), (1, .int p0), (2, .int p1)] := hl
  refine lv_iconst (v := 0) hx hb dX7_blursBy_0 (by decide) ?_
  refine lv_istore_n (lv' := [(3, .int 0), (0, .ref mo), (1, .int p0), (2, .int p1)]) hx hb dX7_blursBy_1 rfl hl (by decide) rfl (fun ls hl => ?_)
  refine lv_iconst (v := 0) hx hb dX7_blursBy_2 (by decide) ?_
  refine lv_istore (lv' := [(4, .int 0), (3, .int 0), (0, .ref mo), (1, .int p0), (2, .int p1)]) hx hb dX7_blursBy_3 hl (by decide) rfl (fun ls hl => ?_)
  refine lv_iload hx hb dX7_blursBy_5 (lv_at hl 0 rfl) ?_
  refine lv_aload_n hx hb dX7_blursBy_7 rfl (lv_at hl 2 rfl) ?_
  refine q_Vi (wr := []) [0, 1] [] hX hE hK hP hD hS hA hl.1 lk_X7_64 (c_m_notes l D cI cZ cP sa mo a_now a_kep a_isk a_ref a_cw a_row a_lea a_sli a_lef a_bst a_try a_mom a_byt a_nxt a_val 0 1 0 0 0 0 0 0 0 0 0 0 0 _) rfl rfl rfl rfl (by decide) 0 7 rfl rfl rfl rfl (Nat.le_of_ble_eq_true rfl) rfl rfl ⟨Nat.le_of_ble_eq_true rfl, Nat.le_of_ble_eq_true rfl⟩ ⟨Nat.le_of_ble_eq_true rfl, Nat.le_of_ble_eq_true rfl⟩ dX7_blursBy_8 (fun x_1 _ H locs h_1 hP hD hS => ?_)
  have hP : va_P D vwCl [(mo, .inr (7, [.ref a_now, .ref a_kep, .ref a_isk, .ref a_ref, .long 0, .long 1, .int 0, .int 0, .int 0, .int 0, .ref a_cw, .ref a_row, .int 0, .ref a_lea, .ref a_sli, .ref a_lef, .ref a_bst, .ref a_try, .int 0, .ref a_mom, .ref a_byt, .int 0, .int 0, .int 0, .int 0, .int 0, .ref a_nxt, .ref a_val])), (a_now, .inl (cI, 221, .inl nw0))] H := hP
  have hD : va_D (va_A (w_m_blursBy cI cZ cP mo a_now a_kep a_isk a_ref a_cw a_row a_lea a_sli a_lef a_bst a_try a_mom a_byt a_nxt a_val p0 p1) sz) [(mo, .inr (7, [.ref a_now, .ref a_kep, .ref a_isk, .ref a_ref, .long 0, .long 1, .int 0, .int 0, .int 0, .int 0, .ref a_cw, .ref a_row, .int 0, .ref a_lea, .ref a_sli, .ref a_lef, .ref a_bst, .ref a_try, .int 0, .ref a_mom, .ref a_byt, .int 0, .int 0, .int 0, .int 0, .int 0, .ref a_nxt, .ref a_val])), (a_now, .inl (cI, 221, .inl nw0))] := hD
  subst h_1
  refine lv_icmp_ge (tgt := 178) hx hb dX7_blursBy_11 (by decide) (fun _ => ?_) (fun c_2 => absurd (by decide) c_2)
  refine lv_iload_n hx hb dX7_blursBy_178 rfl (lv_at hl 1 rfl) ?_
  exact q_iret hX hr hlk () rfl (hP.sub [0, 1] rfl) (hD.sub [0, 1] (by decide) rfl) hS dX7_blursBy_179
abbrev w_m_joinsBy (cI cZ cP : ClassId) (mo : Nat) (a_now : Nat) (a_kep : Nat) (a_isk : Nat) (a_ref : Nat) (a_cw : Nat) (a_row : Nat) (a_lea : Nat) (a_sli : Nat) (a_lef : Nat) (a_bst : Nat) (a_try : Nat) (a_mom : Nat) (a_byt : Nat) (a_nxt : Nat) (a_val : Nat) (p0 : Int32) (p1 : Int32) : va_W := [(mo, .inr (7, [.ref a_now, .ref a_kep, .ref a_isk, .ref a_ref, .long 0, .long 1, .int 0, .int 0, .int 0, .int 0, .ref a_cw, .ref a_row, .int 0, .ref a_lea, .ref a_sli, .ref a_lef, .ref a_bst, .ref a_try, .int 0, .ref a_mom, .ref a_byt, .int 0, .int 0, .int 0, .int 0, .int 0, .ref a_nxt, .ref a_val])), (a_now, .inl (cI, 221, .inl nw0))]
set_option maxHeartbeats 4000000 in
set_option maxRecDepth 100000 in
theorem c_m_joinsBy (l : Launch) (D : va_G) (cI cZ cP : ClassId) (sa : Nat → Nat) (mo : Nat) (a_now : Nat) (a_kep : Nat) (a_isk : Nat) (a_ref : Nat) (a_cw : Nat) (a_row : Nat) (a_lea : Nat) (a_sli : Nat) (a_lef : Nat) (a_bst : Nat) (a_try : Nat) (a_mom : Nat) (a_byt : Nat) (a_nxt : Nat) (a_val : Nat) (p0 : Int32) (p1 : Int32) (sz : Nat) : Met l yX7_joinsBy (qW yX7_joinsBy cX7_joinsBy 6 (some .int)) ({ frames := 1, cells := 0, slots := 0, locals := 20 } : Room) (qP D (TY cI cZ cP) sa [.ref mo, .int p0, .int p1] (w_m_joinsBy cI cZ cP mo a_now a_kep a_isk a_ref a_cw a_row a_lea a_sli a_lef a_bst a_try a_mom a_byt a_nxt a_val p0 p1) sz) (qQi D (w_m_joinsBy cI cZ cP mo a_now a_kep a_isk a_ref a_cw a_row a_lea a_sli a_lef a_bst a_try a_mom a_byt a_nxt a_val p0 p1) sz (fun (r : Int32) (_ : Unit) => r = 0) (fun _ => [(mo, .inr (7, [.ref a_now, .ref a_kep, .ref a_isk, .ref a_ref, .long 0, .long 1, .int 0, .int 0, .int 0, .int 0, .ref a_cw, .ref a_row, .int 0, .ref a_lea, .ref a_sli, .ref a_lef, .ref a_bst, .ref a_try, .int 0, .ref a_mom, .ref a_byt, .int 0, .int 0, .int 0, .int 0, .int 0, .ref a_nxt, .ref a_val])), (a_now, .inl (cI, 221, .inl nw0))])) 0 0 (va_A (w_m_joinsBy cI cZ cP mo a_now a_kep a_isk a_ref a_cw a_row a_lea a_sli a_lef a_bst a_try a_mom a_byt a_nxt a_val p0 p1) sz) := by
  refine q_enter (by decide) (Nat.le_of_ble_eq_true rfl) ?_
  intro p e s m below meth c ls hX hr hlk hnm hE hK hP hD hS hA hl
  obtain ⟨hx, hb, hml, hown, ht⟩ := id hX
  have hl : lv_has ls 6 [(0, .ref mo), (1, .int p0), (2, .int p1)] := hl
  refine lv_iconst (v := 0) hx hb dX7_joinsBy_0 (by decide) ?_
  refine lv_istore_n (lv' := [(3, .int 0), (0, .ref mo), (1, .int p0), (2, .int p1)]) hx hb dX7_joinsBy_1 rfl hl (by decide) rfl (fun ls hl => ?_)
  refine lv_iconst (v := 0) hx hb dX7_joinsBy_2 (by decide) ?_
  refine lv_istore (lv' := [(4, .int 0), (3, .int 0), (0, .ref mo), (1, .int p0), (2, .int p1)]) hx hb dX7_joinsBy_3 hl (by decide) rfl (fun ls hl => ?_)
  refine lv_iload hx hb dX7_joinsBy_5 (lv_at hl 0 rfl) ?_
  refine lv_aload_n hx hb dX7_joinsBy_7 rfl (lv_at hl 2 rfl) ?_
  refine q_Vi (wr := []) [0, 1] [] hX hE hK hP hD hS hA hl.1 lk_X7_64 (c_m_notes l D cI cZ cP sa mo a_now a_kep a_isk a_ref a_cw a_row a_lea a_sli a_lef a_bst a_try a_mom a_byt a_nxt a_val 0 1 0 0 0 0 0 0 0 0 0 0 0 _) rfl rfl rfl rfl (by decide) 0 7 rfl rfl rfl rfl (Nat.le_of_ble_eq_true rfl) rfl rfl ⟨Nat.le_of_ble_eq_true rfl, Nat.le_of_ble_eq_true rfl⟩ ⟨Nat.le_of_ble_eq_true rfl, Nat.le_of_ble_eq_true rfl⟩ dX7_joinsBy_8 (fun x_1 _ H locs h_1 hP hD hS => ?_)
  have hP : va_P D vwCl [(mo, .inr (7, [.ref a_now, .ref a_kep, .ref a_isk, .ref a_ref, .long 0, .long 1, .int 0, .int 0, .int 0, .int 0, .ref a_cw, .ref a_row, .int 0, .ref a_lea, .ref a_sli, .ref a_lef, .ref a_bst, .ref a_try, .int 0, .ref a_mom, .ref a_byt, .int 0, .int 0, .int 0, .int 0, .int 0, .ref a_nxt, .ref a_val])), (a_now, .inl (cI, 221, .inl nw0))] H := hP
  have hD : va_D (va_A (w_m_joinsBy cI cZ cP mo a_now a_kep a_isk a_ref a_cw a_row a_lea a_sli a_lef a_bst a_try a_mom a_byt a_nxt a_val p0 p1) sz) [(mo, .inr (7, [.ref a_now, .ref a_kep, .ref a_isk, .ref a_ref, .long 0, .long 1, .int 0, .int 0, .int 0, .int 0, .ref a_cw, .ref a_row, .int 0, .ref a_lea, .ref a_sli, .ref a_lef, .ref a_bst, .ref a_try, .int 0, .ref a_mom, .ref a_byt, .int 0, .int 0, .int 0, .int 0, .int 0, .ref a_nxt, .ref a_val])), (a_now, .inl (cI, 221, .inl nw0))] := hD
  subst h_1
  refine lv_icmp_ge (tgt := 70) hx hb dX7_joinsBy_11 (by decide) (fun _ => ?_) (fun c_2 => absurd (by decide) c_2)
  refine lv_iload_n hx hb dX7_joinsBy_70 rfl (lv_at hl 1 rfl) ?_
  exact q_iret hX hr hlk () rfl (hP.sub [0, 1] rfl) (hD.sub [0, 1] (by decide) rfl) hS dX7_joinsBy_71
abbrev w_m_blurs (cI cZ cP : ClassId) (mo : Nat) (a_now : Nat) (a_kep : Nat) (a_isk : Nat) (a_ref : Nat) (a_cw : Nat) (a_row : Nat) (a_lea : Nat) (a_sli : Nat) (a_lef : Nat) (a_bst : Nat) (a_try : Nat) (a_mom : Nat) (a_byt : Nat) (a_nxt : Nat) (a_val : Nat) (p0 : Int32) : va_W := [(mo, .inr (7, [.ref a_now, .ref a_kep, .ref a_isk, .ref a_ref, .long 0, .long 1, .int 0, .int 0, .int 0, .int 0, .ref a_cw, .ref a_row, .int 0, .ref a_lea, .ref a_sli, .ref a_lef, .ref a_bst, .ref a_try, .int 0, .ref a_mom, .ref a_byt, .int 0, .int 0, .int 0, .int 0, .int 0, .ref a_nxt, .ref a_val])), (a_now, .inl (cI, 221, .inl nw0)), (a_ref, .inl (cI, 3, .inl (fun _ => 0)))]
set_option maxHeartbeats 4000000 in
set_option maxRecDepth 100000 in
theorem c_m_blurs (l : Launch) (D : va_G) (cI cZ cP : ClassId) (sa : Nat → Nat) (mo : Nat) (a_now : Nat) (a_kep : Nat) (a_isk : Nat) (a_ref : Nat) (a_cw : Nat) (a_row : Nat) (a_lea : Nat) (a_sli : Nat) (a_lef : Nat) (a_bst : Nat) (a_try : Nat) (a_mom : Nat) (a_byt : Nat) (a_nxt : Nat) (a_val : Nat) (p0 : Int32) (sz : Nat) : Met l yX7_blurs (qW yX7_blurs cX7_blurs 2 (some .int)) ({ frames := 2, cells := 0, slots := 0, locals := 48 } : Room) (qP D (TY cI cZ cP) sa [.ref mo, .int p0] (w_m_blurs cI cZ cP mo a_now a_kep a_isk a_ref a_cw a_row a_lea a_sli a_lef a_bst a_try a_mom a_byt a_nxt a_val p0) sz) (qQi D (w_m_blurs cI cZ cP mo a_now a_kep a_isk a_ref a_cw a_row a_lea a_sli a_lef a_bst a_try a_mom a_byt a_nxt a_val p0) sz (fun (r : Int32) (_ : Unit) => r = sp_blurs p0) (fun _ => [])) 0 0 (va_A (w_m_blurs cI cZ cP mo a_now a_kep a_isk a_ref a_cw a_row a_lea a_sli a_lef a_bst a_try a_mom a_byt a_nxt a_val p0) sz) := by
  refine q_enter (by decide) (Nat.le_of_ble_eq_true rfl) ?_
  intro p e s m below meth c ls hX hr hlk hnm hE hK hP hD hS hA hl
  obtain ⟨hx, hb, hml, hown, ht⟩ := id hX
  have hl : lv_has ls 2 [(0, .ref mo), (1, .int p0)] := hl
  refine lv_iload_n hx hb dX7_blurs_0 rfl (lv_at hl 1 rfl) ?_
  refine lv_if_ne (tgt := 23) hx hb dX7_blurs_1 (by decide) (fun c_1 => ?_) (fun c_1 => ?_)
  · refine lv_iload_n hx hb dX7_blurs_23 rfl (lv_at hl 1 rfl) ?_
    refine lv_iconst (v := 1) hx hb dX7_blurs_24 (by decide) ?_
    refine lv_icmp_ne (tgt := 47) hx hb dX7_blurs_25 (by decide) (fun c_2 => ?_) (fun c_2 => ?_)
    · refine lv_aload_n hx hb dX7_blurs_47 rfl (lv_at hl 0 rfl) ?_
      refine lv_bipush (v := (-2)) hx hb dX7_blurs_48 (by decide) ?_
      refine q_Vi (wr := [(a_now, .inl (cI, 221, .inl nw0))]) [0, 2] [1] hX hE hK hP hD hS hA hl.1 lk_X7_76 (c_m_bad l D cI cZ cP sa mo a_now a_kep a_isk a_ref a_cw a_row a_lea a_sli a_lef a_bst a_try a_mom a_byt a_nxt a_val 0 1 0 0 0 0 0 0 0 0 0 0 0 (-2) _) rfl rfl rfl rfl (by decide) 0 7 rfl rfl rfl rfl (Nat.le_of_ble_eq_true rfl) rfl rfl ⟨Nat.le_of_ble_eq_true rfl, Nat.le_of_ble_eq_true rfl⟩ ⟨Nat.le_of_ble_eq_true rfl, Nat.le_of_ble_eq_true rfl⟩ dX7_blurs_50 (fun x_3 _ H locs h_3 hP hD hS => ?_)
      have hP : va_P D vwCl [(a_now, .inl (cI, 221, .inl nw0))] H := hP
      have hD : va_D (va_A (w_m_blurs cI cZ cP mo a_now a_kep a_isk a_ref a_cw a_row a_lea a_sli a_lef a_bst a_try a_mom a_byt a_nxt a_val p0) sz) [(a_now, .inl (cI, 221, .inl nw0))] := hD
      subst h_3
      exact q_iret hX hr hlk () (by simp [sp_blurs, bit_iff, c_1, c_2]) (hP.sub [] rfl) (hD.sub [] (by decide) rfl) hS dX7_blurs_53
    · refine lv_aload_n hx hb dX7_blurs_28 rfl (lv_at hl 0 rfl) ?_
      refine lv_aload_n hx hb dX7_blurs_29 rfl (lv_at hl 0 rfl) ?_
      refine va_get (D := D) (ci := 7) (v := .ref a_now) (C := RX7) (T := TX7) (N := 28) hx hb ht inX7 hown hK hP 0 rfl rfl 0 (Nat.le_of_ble_eq_true rfl) (ht _ kw_904) (fun _ h9 => h9) rfl dX7_blurs_30 ?_
      refine lv_iconst (v := 2) hx hb dX7_blurs_33 (by decide) ?_
      refine va_iald hx hb hK hP 1 0 rfl rfl (vin (by decide)) dX7_blurs_34 ?_
      refine q_i (z := 0) (by decide) ?_
      refine lv_aload_n hx hb dX7_blurs_35 rfl (lv_at hl 0 rfl) ?_
      refine va_get (D := D) (ci := 7) (v := .ref a_now) (C := RX7) (T := TX7) (N := 28) hx hb ht inX7 hown hK hP 0 rfl rfl 0 (Nat.le_of_ble_eq_true rfl) (ht _ kw_904) (fun _ h9 => h9) rfl dX7_blurs_36 ?_
      refine lv_iconst (v := 3) hx hb dX7_blurs_39 (by decide) ?_
      refine va_iald hx hb hK hP 1 0 rfl rfl (vin (by decide)) dX7_blurs_40 ?_
      refine q_i (z := 0) (by decide) ?_
      refine q_Vi (wr := [(a_ref, .inl (cI, 3, .inl (fun _ => 0)))]) [0, 1] [2] hX hE hK hP hD hS hA hl.1 lk_X7_218 (c_m_joinsBy l D cI cZ cP sa mo a_now a_kep a_isk a_ref a_cw a_row a_lea a_sli a_lef a_bst a_try a_mom a_byt a_nxt a_val 0 0 _) rfl rfl rfl rfl (by decide) 0 7 rfl rfl rfl rfl (Nat.le_of_ble_eq_true rfl) rfl rfl ⟨Nat.le_of_ble_eq_true rfl, Nat.le_of_ble_eq_true rfl⟩ ⟨Nat.le_of_ble_eq_true rfl, Nat.le_of_ble_eq_true rfl⟩ dX7_blurs_41 (fun x_4 _ H locs h_4 hP hD hS => ?_)
      have hP : va_P D vwCl [(a_ref, .inl (cI, 3, .inl (fun _ => 0))), (mo, .inr (7, [.ref a_now, .ref a_kep, .ref a_isk, .ref a_ref, .long 0, .long 1, .int 0, .int 0, .int 0, .int 0, .ref a_cw, .ref a_row, .int 0, .ref a_lea, .ref a_sli, .ref a_lef, .ref a_bst, .ref a_try, .int 0, .ref a_mom, .ref a_byt, .int 0, .int 0, .int 0, .int 0, .int 0, .ref a_nxt, .ref a_val])), (a_now, .inl (cI, 221, .inl nw0))] H := hP
      have hD : va_D (va_A (w_m_blurs cI cZ cP mo a_now a_kep a_isk a_ref a_cw a_row a_lea a_sli a_lef a_bst a_try a_mom a_byt a_nxt a_val p0) sz) [(a_ref, .inl (cI, 3, .inl (fun _ => 0))), (mo, .inr (7, [.ref a_now, .ref a_kep, .ref a_isk, .ref a_ref, .long 0, .long 1, .int 0, .int 0, .int 0, .int 0, .ref a_cw, .ref a_row, .int 0, .ref a_lea, .ref a_sli, .ref a_lef, .ref a_bst, .ref a_try, .int 0, .ref a_mom, .ref a_byt, .int 0, .int 0, .int 0, .int 0, .int 0, .ref a_nxt, .ref a_val])), (a_now, .inl (cI, 221, .inl nw0))] := hD
      subst h_4
      refine lv_goto (tgt := 53) hx hb dX7_blurs_44 (by decide) ?_
      exact q_iret hX hr hlk () (by simp [sp_blurs, bit_iff, c_1, c_2]) (hP.sub [] rfl) (hD.sub [] (by decide) rfl) hS dX7_blurs_53
  · refine lv_aload_n hx hb dX7_blurs_4 rfl (lv_at hl 0 rfl) ?_
    refine lv_aload_n hx hb dX7_blurs_5 rfl (lv_at hl 0 rfl) ?_
    refine va_get (D := D) (ci := 7) (v := .ref a_now) (C := RX7) (T := TX7) (N := 28) hx hb ht inX7 hown hK hP 0 rfl rfl 0 (Nat.le_of_ble_eq_true rfl) (ht _ kw_904) (fun _ h9 => h9) rfl dX7_blurs_6 ?_
    refine lv_iconst (v := 2) hx hb dX7_blurs_9 (by decide) ?_
    refine va_iald hx hb hK hP 1 0 rfl rfl (vin (by decide)) dX7_blurs_10 ?_
    refine q_i (z := 0) (by decide) ?_
    refine lv_aload_n hx hb dX7_blurs_11 rfl (lv_at hl 0 rfl) ?_
    refine va_get (D := D) (ci := 7) (v := .ref a_now) (C := RX7) (T := TX7) (N := 28) hx hb ht inX7 hown hK hP 0 rfl rfl 0 (Nat.le_of_ble_eq_true rfl) (ht _ kw_904) (fun _ h9 => h9) rfl dX7_blurs_12 ?_
    refine lv_iconst (v := 3) hx hb dX7_blurs_15 (by decide) ?_
    refine va_iald hx hb hK hP 1 0 rfl rfl (vin (by decide)) dX7_blurs_16 ?_
    refine q_i (z := 0) (by decide) ?_
    refine q_Vi (wr := [(a_ref, .inl (cI, 3, .inl (fun _ => 0)))]) [0, 1] [2] hX hE hK hP hD hS hA hl.1 lk_X7_215 (c_m_blursBy l D cI cZ cP sa mo a_now a_kep a_isk a_ref a_cw a_row a_lea a_sli a_lef a_bst a_try a_mom a_byt a_nxt a_val 0 0 _) rfl rfl rfl rfl (by decide) 0 7 rfl rfl rfl rfl (Nat.le_of_ble_eq_true rfl) rfl rfl ⟨Nat.le_of_ble_eq_true rfl, Nat.le_of_ble_eq_true rfl⟩ ⟨Nat.le_of_ble_eq_true rfl, Nat.le_of_ble_eq_true rfl⟩ dX7_blurs_17 (fun x_5 _ H locs h_5 hP hD hS => ?_)
    have hP : va_P D vwCl [(a_ref, .inl (cI, 3, .inl (fun _ => 0))), (mo, .inr (7, [.ref a_now, .ref a_kep, .ref a_isk, .ref a_ref, .long 0, .long 1, .int 0, .int 0, .int 0, .int 0, .ref a_cw, .ref a_row, .int 0, .ref a_lea, .ref a_sli, .ref a_lef, .ref a_bst, .ref a_try, .int 0, .ref a_mom, .ref a_byt, .int 0, .int 0, .int 0, .int 0, .int 0, .ref a_nxt, .ref a_val])), (a_now, .inl (cI, 221, .inl nw0))] H := hP
    have hD : va_D (va_A (w_m_blurs cI cZ cP mo a_now a_kep a_isk a_ref a_cw a_row a_lea a_sli a_lef a_bst a_try a_mom a_byt a_nxt a_val p0) sz) [(a_ref, .inl (cI, 3, .inl (fun _ => 0))), (mo, .inr (7, [.ref a_now, .ref a_kep, .ref a_isk, .ref a_ref, .long 0, .long 1, .int 0, .int 0, .int 0, .int 0, .ref a_cw, .ref a_row, .int 0, .ref a_lea, .ref a_sli, .ref a_lef, .ref a_bst, .ref a_try, .int 0, .ref a_mom, .ref a_byt, .int 0, .int 0, .int 0, .int 0, .int 0, .ref a_nxt, .ref a_val])), (a_now, .inl (cI, 221, .inl nw0))] := hD
    subst h_5
    refine lv_goto (tgt := 53) hx hb dX7_blurs_20 (by decide) ?_
    exact q_iret hX hr hlk () (by simp [sp_blurs, bit_iff, c_1]) (hP.sub [] rfl) (hD.sub [] (by decide) rfl) hS dX7_blurs_53
abbrev w_m_best (cI cZ cP : ClassId) (mo : Nat) (a_now : Nat) (a_kep : Nat) (a_isk : Nat) (a_ref : Nat) (a_cw : Nat) (a_row : Nat) (a_lea : Nat) (a_sli : Nat) (a_lef : Nat) (a_bst : Nat) (a_try : Nat) (a_mom : Nat) (a_byt : Nat) (a_nxt : Nat) (a_val : Nat) (p0 : Int32) : va_W := [(mo, .inr (7, [.ref a_now, .ref a_kep, .ref a_isk, .ref a_ref, .long 0, .long 1, .int 0, .int 0, .int 0, .int 0, .ref a_cw, .ref a_row, .int 0, .ref a_lea, .ref a_sli, .ref a_lef, .ref a_bst, .ref a_try, .int 0, .ref a_mom, .ref a_byt, .int 0, .int 0, .int 0, .int 0, .int 0, .ref a_nxt, .ref a_val])), (a_now, .inl (cI, 221, .inl nw0)), (a_ref, .inl (cI, 3, .inl (fun _ => 0)))]
set_option maxHeartbeats 4000000 in
set_option maxRecDepth 100000 in
theorem c_m_best (l : Launch) (D : va_G) (cI cZ cP : ClassId) (sa : Nat → Nat) (mo : Nat) (a_now : Nat) (a_kep : Nat) (a_isk : Nat) (a_ref : Nat) (a_cw : Nat) (a_row : Nat) (a_lea : Nat) (a_sli : Nat) (a_lef : Nat) (a_bst : Nat) (a_try : Nat) (a_mom : Nat) (a_byt : Nat) (a_nxt : Nat) (a_val : Nat) (p0 : Int32) (sz : Nat) : Met l yX7_best (qW yX7_best cX7_best 7 (some .int)) ({ frames := 2, cells := 0, slots := 0, locals := 48 } : Room) (qP D (TY cI cZ cP) sa [.ref mo, .int p0] (w_m_best cI cZ cP mo a_now a_kep a_isk a_ref a_cw a_row a_lea a_sli a_lef a_bst a_try a_mom a_byt a_nxt a_val p0) sz) (qQi D (w_m_best cI cZ cP mo a_now a_kep a_isk a_ref a_cw a_row a_lea a_sli a_lef a_bst a_try a_mom a_byt a_nxt a_val p0) sz (fun (r : Int32) (_ : Unit) => r = sp_blurs p0) (fun _ => [])) 0 0 (va_A (w_m_best cI cZ cP mo a_now a_kep a_isk a_ref a_cw a_row a_lea a_sli a_lef a_bst a_try a_mom a_byt a_nxt a_val p0) sz) := by
  refine q_enter (by decide) (Nat.le_of_ble_eq_true rfl) ?_
  intro p e s m below meth c ls hX hr hlk hnm hE hK hP hD hS hA hl
  obtain ⟨hx, hb, hml, hown, ht⟩ := id hX
  have hl : lv_has ls 7 [(0, .ref mo), (1, .int p0)] := hl
  refine lv_iload_n hx hb dX7_best_0 rfl (lv_at hl 1 rfl) ?_
  refine lv_i2l (v := (p0.toInt64)) hx hb dX7_best_1 rfl ?_
  refine lv_lconst (v := 0) hx hb dX7_best_2 (by decide) ?_
  refine q_l (z := ((0 : Int32).toInt64)) (by decide) ?_
  refine lv_lconst (v := 1) hx hb dX7_best_3 (by decide) ?_
  refine q_l (z := ((1 : Int32).toInt64)) (by decide) ?_
  refine q_Si (wr := [(mo, .inr (7, [.ref a_now, .ref a_kep, .ref a_isk, .ref a_ref, .long 0, .long 1, .int 0, .int 0, .int 0, .int 0, .ref a_cw, .ref a_row, .int 0, .ref a_lea, .ref a_sli, .ref a_lef, .ref a_bst, .ref a_try, .int 0, .ref a_mom, .ref a_byt, .int 0, .int 0, .int 0, .int 0, .int 0, .ref a_nxt, .ref a_val])), (a_now, .inl (cI, 221, .inl nw0)), (a_ref, .inl (cI, 3, .inl (fun _ => 0)))]) [] [0, 1, 2] hX hE hK hP hD hS hA hl.1 lk_X7_68 (c_m_in l D cI cZ cP sa p0 0 1 _) rfl rfl rfl rfl (by decide) rfl rfl (Nat.le_of_ble_eq_true rfl) rfl rfl ⟨Nat.le_of_ble_eq_true rfl, Nat.le_of_ble_eq_true rfl⟩ ⟨Nat.le_of_ble_eq_true rfl, Nat.le_of_ble_eq_true rfl⟩ dX7_best_4 (fun x_1 _ H locs h_1 hP hD hS => ?_)
  have hP : va_P D vwCl [(mo, .inr (7, [.ref a_now, .ref a_kep, .ref a_isk, .ref a_ref, .long 0, .long 1, .int 0, .int 0, .int 0, .int 0, .ref a_cw, .ref a_row, .int 0, .ref a_lea, .ref a_sli, .ref a_lef, .ref a_bst, .ref a_try, .int 0, .ref a_mom, .ref a_byt, .int 0, .int 0, .int 0, .int 0, .int 0, .ref a_nxt, .ref a_val])), (a_now, .inl (cI, 221, .inl nw0)), (a_ref, .inl (cI, 3, .inl (fun _ => 0)))] H := hP
  have hD : va_D (va_A (w_m_best cI cZ cP mo a_now a_kep a_isk a_ref a_cw a_row a_lea a_sli a_lef a_bst a_try a_mom a_byt a_nxt a_val p0) sz) [(mo, .inr (7, [.ref a_now, .ref a_kep, .ref a_isk, .ref a_ref, .long 0, .long 1, .int 0, .int 0, .int 0, .int 0, .ref a_cw, .ref a_row, .int 0, .ref a_lea, .ref a_sli, .ref a_lef, .ref a_bst, .ref a_try, .int 0, .ref a_mom, .ref a_byt, .int 0, .int 0, .int 0, .int 0, .int 0, .ref a_nxt, .ref a_val])), (a_now, .inl (cI, 221, .inl nw0)), (a_ref, .inl (cI, 3, .inl (fun _ => 0)))] := hD
  rcases Classical.em (0 ≤ p0 ∧ p0 ≤ 1) with c_1 | c_1
  · rw [if_pos c_1] at h_1; subst h_1
    refine lv_if_ne (tgt := 17) hx hb dX7_best_7 (by decide) (fun _ => ?_) (fun c_2 => absurd c_2 (by decide))
    refine lv_iconst (v := 0) hx hb dX7_best_17 (by decide) ?_
    refine lv_istore_n (lv' := [(2, .int 0), (0, .ref mo), (1, .int p0)]) hx hb dX7_best_18 rfl hl (by decide) rfl (fun ls hl => ?_)
    refine lv_iconst (v := 0) hx hb dX7_best_19 (by decide) ?_
    refine lv_istore_n (lv' := [(3, .int 0), (2, .int 0), (0, .ref mo), (1, .int p0)]) hx hb dX7_best_20 rfl hl (by decide) rfl (fun ls hl => ?_)
    refine lv_iconst (v := 1) hx hb dX7_best_21 (by decide) ?_
    refine lv_istore (lv' := [(4, .int 1), (3, .int 0), (2, .int 0), (0, .ref mo), (1, .int p0)]) hx hb dX7_best_22 hl (by decide) rfl (fun ls hl => ?_)
    have lp_24 : ∀ (n_24 : Nat) (a : Nat), (1 ≤ a ∧ a ≤ 17) → (18 ≤ a + n_24) → ∀ (H : Heap) (locs : List Loc) (ls : Array Slot), va_P D vwCl [(mo, .inr (7, [.ref a_now, .ref a_kep, .ref a_isk, .ref a_ref, .long 0, .long 1, .int 0, .int 0, .int 0, .int 0, .ref a_cw, .ref a_row, .int 0, .ref a_lea, .ref a_sli, .ref a_lef, .ref a_bst, .ref a_try, .int 0, .ref a_mom, .ref a_byt, .int 0, .int 0, .int 0, .int 0, .int 0, .ref a_nxt, .ref a_val])), (a_now, .inl (cI, 221, .inl nw0)), (a_ref, .inl (cI, 3, .inl (fun _ => 0)))] H → va_D (va_A (w_m_best cI cZ cP mo a_now a_kep a_isk a_ref a_cw a_row a_lea a_sli a_lef a_bst a_try a_mom a_byt a_nxt a_val p0) sz) [(mo, .inr (7, [.ref a_now, .ref a_kep, .ref a_isk, .ref a_ref, .long 0, .long 1, .int 0, .int 0, .int 0, .int 0, .ref a_cw, .ref a_row, .int 0, .ref a_lea, .ref a_sli, .ref a_lef, .ref a_bst, .ref a_try, .int 0, .ref a_mom, .ref a_byt, .int 0, .int 0, .int 0, .int 0, .int 0, .ref a_nxt, .ref a_val])), (a_now, .inl (cI, 221, .inl nw0)), (a_ref, .inl (cI, 3, .inl (fun _ => 0)))] → va_S (va_A (w_m_best cI cZ cP mo a_now a_kep a_isk a_ref a_cw a_row a_lea a_sli a_lef a_bst a_try a_mom a_byt a_nxt a_val p0) sz) s.heap H locs → lv_has ls 7 [(4, .int (nI a)), (2, .int 0), (3, .int 0), (0, .ref mo), (1, .int p0)] → W p l e ({ frames := 2, cells := 0, slots := 0, locals := 48 } : Room) s m ([.ref mo, .int p0] : List Value).toArray below meth c H locs 0 0 (MQ below (qQi D (w_m_best cI cZ cP mo a_now a_kep a_isk a_ref a_cw a_row a_lea a_sli a_lef a_bst a_try a_mom a_byt a_nxt a_val p0) sz (fun (r : Int32) (_ : Unit) => r = sp_blurs p0) (fun _ => [])) ([.ref mo, .int p0] : List Value).toArray s 0 0 (va_A (w_m_best cI cZ cP mo a_now a_kep a_isk a_ref a_cw a_row a_lea a_sli a_lef a_bst a_try a_mom a_byt a_nxt a_val p0) sz)) (F0 m 24 ls []) := by
      intro n_24
      induction n_24 with
      | zero => intro a ha hm_24; exact absurd hm_24 (by omega)
      | succ n_24 ih_24 =>
        intro a ha hm_24 H locs ls hP hD hS hl
        refine lv_iload hx hb dX7_best_24 (lv_at hl 0 rfl) ?_
        refine lv_bipush (v := 16) hx hb dX7_best_26 (by decide) ?_
        refine lv_icmp_gt (tgt := 116) hx hb dX7_best_28 (by decide) (fun c_3 => ?_) (fun c_3 => ?_)
        · refine lv_iload_n hx hb dX7_best_116 rfl (lv_at hl 4 rfl) ?_
          refine lv_if_ne (tgt := 124) hx hb dX7_best_117 (by decide) (fun c_4 => ?_) (fun c_4 => ?_)
          · refine lv_iload_n hx hb dX7_best_124 rfl (lv_at hl 2 rfl) ?_
            exact q_iret hX hr hlk () (by simp [sp_blurs, c_1, ha, hm_24, c_3, c_4]) (hP.sub [] rfl) (hD.sub [] (by decide) rfl) hS dX7_best_125
          · refine lv_iload_n hx hb dX7_best_120 rfl (lv_at hl 1 rfl) ?_
            refine lv_goto (tgt := 125) hx hb dX7_best_121 (by decide) ?_
            exact q_iret hX hr hlk () (by simp [sp_blurs, c_1, ha, hm_24, c_3, c_4]) (hP.sub [] rfl) (hD.sub [] (by decide) rfl) hS dX7_best_125
        · have ha2 : a ≤ 16 := nI_lit (N := 16) rfl c_3 (by omega) (by omega)
          refine lv_iconst (v := 0) hx hb dX7_best_31 (by decide) ?_
          refine lv_istore (lv' := [(5, .int 0), (4, .int (nI a)), (2, .int 0), (3, .int 0), (0, .ref mo), (1, .int p0)]) hx hb dX7_best_32 hl (by decide) rfl (fun ls hl => ?_)
          have lp_34 : ∀ (n_34 : Nat) (b : Nat), (b ≤ 64) → (65 ≤ b + n_34) → ∀ (H : Heap) (locs : List Loc) (ls : Array Slot), va_P D vwCl [(mo, .inr (7, [.ref a_now, .ref a_kep, .ref a_isk, .ref a_ref, .long 0, .long 1, .int 0, .int 0, .int 0, .int 0, .ref a_cw, .ref a_row, .int 0, .ref a_lea, .ref a_sli, .ref a_lef, .ref a_bst, .ref a_try, .int 0, .ref a_mom, .ref a_byt, .int 0, .int 0, .int 0, .int 0, .int 0, .ref a_nxt, .ref a_val])), (a_now, .inl (cI, 221, .inl nw0)), (a_ref, .inl (cI, 3, .inl (fun _ => 0)))] H → va_D (va_A (w_m_best cI cZ cP mo a_now a_kep a_isk a_ref a_cw a_row a_lea a_sli a_lef a_bst a_try a_mom a_byt a_nxt a_val p0) sz) [(mo, .inr (7, [.ref a_now, .ref a_kep, .ref a_isk, .ref a_ref, .long 0, .long 1, .int 0, .int 0, .int 0, .int 0, .ref a_cw, .ref a_row, .int 0, .ref a_lea, .ref a_sli, .ref a_lef, .ref a_bst, .ref a_try, .int 0, .ref a_mom, .ref a_byt, .int 0, .int 0, .int 0, .int 0, .int 0, .ref a_nxt, .ref a_val])), (a_now, .inl (cI, 221, .inl nw0)), (a_ref, .inl (cI, 3, .inl (fun _ => 0)))] → va_S (va_A (w_m_best cI cZ cP mo a_now a_kep a_isk a_ref a_cw a_row a_lea a_sli a_lef a_bst a_try a_mom a_byt a_nxt a_val p0) sz) s.heap H locs → lv_has ls 7 [(5, .int (nI b)), (4, .int (nI a)), (2, .int 0), (3, .int 0), (0, .ref mo), (1, .int p0)] → W p l e ({ frames := 2, cells := 0, slots := 0, locals := 48 } : Room) s m ([.ref mo, .int p0] : List Value).toArray below meth c H locs 0 0 (MQ below (qQi D (w_m_best cI cZ cP mo a_now a_kep a_isk a_ref a_cw a_row a_lea a_sli a_lef a_bst a_try a_mom a_byt a_nxt a_val p0) sz (fun (r : Int32) (_ : Unit) => r = sp_blurs p0) (fun _ => [])) ([.ref mo, .int p0] : List Value).toArray s 0 0 (va_A (w_m_best cI cZ cP mo a_now a_kep a_isk a_ref a_cw a_row a_lea a_sli a_lef a_bst a_try a_mom a_byt a_nxt a_val p0) sz)) (F0 m 34 ls []) := by
            intro n_34
            induction n_34 with
            | zero => intro b hb1 hm_34; exact absurd hm_34 (by omega)
            | succ n_34 ih_34 =>
              intro b hb1 hm_34 H locs ls hP hD hS hl
              refine lv_iload hx hb dX7_best_34 (lv_at hl 0 rfl) ?_
              refine lv_iload hx hb dX7_best_36 (lv_at hl 1 rfl) ?_
              refine lv_iadd hx hb dX7_best_38 ?_
              refine q_i (z := (nI (b + a))) (nI_add b a) ?_
              refine lv_bipush (v := 64) hx hb dX7_best_39 (by decide) ?_
              refine lv_icmp_gt (tgt := 110) hx hb dX7_best_41 (by decide) (fun c_5 => ?_) (fun c_5 => ?_)
              · refine lv_iinc (v := (nI (a + 1))) (lv' := [(4, .int (nI (a + 1))), (5, .int (nI b)), (2, .int 0), (3, .int 0), (0, .ref mo), (1, .int p0)]) hx hb dX7_best_110 hl (k := 1) rfl (nI_1 a) (by decide) rfl (fun ls hl => ?_)
                refine lv_goto (tgt := 24) hx hb dX7_best_113 (by decide) ?_
                exact ih_24 (a + 1) (by omega) (by omega) _ _ _ hP hD hS (lv_sub hl [0, 2, 3, 4, 5] rfl)
              · have hb2 : b + a ≤ 64 := nI_lit (N := 64) rfl c_5 (by omega) (by omega)
                refine lv_aload_n hx hb dX7_best_44 rfl (lv_at hl 4 rfl) ?_
                refine lv_iload hx hb dX7_best_45 (lv_at hl 0 rfl) ?_
                refine lv_iload hx hb dX7_best_47 (lv_at hl 0 rfl) ?_
                refine lv_iload hx hb dX7_best_49 (lv_at hl 1 rfl) ?_
                refine lv_iadd hx hb dX7_best_51 ?_
                refine q_i (z := (nI (b + a))) (nI_add b a) ?_
                refine q_Vi (wr := [(a_ref, .inl (cI, 3, .inl (fun _ => 0)))]) [0, 1] [2] hX hE hK hP hD hS hA hl.1 lk_X7_218 (c_m_joinsBy l D cI cZ cP sa mo a_now a_kep a_isk a_ref a_cw a_row a_lea a_sli a_lef a_bst a_try a_mom a_byt a_nxt a_val (nI b) (nI (b + a)) _) rfl rfl rfl rfl (by decide) 0 7 rfl rfl rfl rfl (Nat.le_of_ble_eq_true rfl) rfl rfl ⟨Nat.le_of_ble_eq_true rfl, Nat.le_of_ble_eq_true rfl⟩ ⟨Nat.le_of_ble_eq_true rfl, Nat.le_of_ble_eq_true rfl⟩ dX7_best_52 (fun x_6 _ H locs h_6 hP hD hS => ?_)
                have hP : va_P D vwCl [(a_ref, .inl (cI, 3, .inl (fun _ => 0))), (mo, .inr (7, [.ref a_now, .ref a_kep, .ref a_isk, .ref a_ref, .long 0, .long 1, .int 0, .int 0, .int 0, .int 0, .ref a_cw, .ref a_row, .int 0, .ref a_lea, .ref a_sli, .ref a_lef, .ref a_bst, .ref a_try, .int 0, .ref a_mom, .ref a_byt, .int 0, .int 0, .int 0, .int 0, .int 0, .ref a_nxt, .ref a_val])), (a_now, .inl (cI, 221, .inl nw0))] H := hP
                have hD : va_D (va_A (w_m_best cI cZ cP mo a_now a_kep a_isk a_ref a_cw a_row a_lea a_sli a_lef a_bst a_try a_mom a_byt a_nxt a_val p0) sz) [(a_ref, .inl (cI, 3, .inl (fun _ => 0))), (mo, .inr (7, [.ref a_now, .ref a_kep, .ref a_isk, .ref a_ref, .long 0, .long 1, .int 0, .int 0, .int 0, .int 0, .ref a_cw, .ref a_row, .int 0, .ref a_lea, .ref a_sli, .ref a_lef, .ref a_bst, .ref a_try, .int 0, .ref a_mom, .ref a_byt, .int 0, .int 0, .int 0, .int 0, .int 0, .ref a_nxt, .ref a_val])), (a_now, .inl (cI, 221, .inl nw0))] := hD
                subst h_6
                refine lv_aload_n hx hb dX7_best_55 rfl (lv_at hl 4 rfl) ?_
                refine lv_iload hx hb dX7_best_56 (lv_at hl 0 rfl) ?_
                refine lv_iload hx hb dX7_best_58 (lv_at hl 0 rfl) ?_
                refine lv_iload hx hb dX7_best_60 (lv_at hl 1 rfl) ?_
                refine lv_iadd hx hb dX7_best_62 ?_
                refine q_i (z := (nI (b + a))) (nI_add b a) ?_
                refine q_Vi (wr := [(a_ref, .inl (cI, 3, .inl (fun _ => 0)))]) [1, 2] [0] hX hE hK hP hD hS hA hl.1 lk_X7_215 (c_m_blursBy l D cI cZ cP sa mo a_now a_kep a_isk a_ref a_cw a_row a_lea a_sli a_lef a_bst a_try a_mom a_byt a_nxt a_val (nI b) (nI (b + a)) _) rfl rfl rfl rfl (by decide) 0 7 rfl rfl rfl rfl (Nat.le_of_ble_eq_true rfl) rfl rfl ⟨Nat.le_of_ble_eq_true rfl, Nat.le_of_ble_eq_true rfl⟩ ⟨Nat.le_of_ble_eq_true rfl, Nat.le_of_ble_eq_true rfl⟩ dX7_best_63 (fun x_7 _ H locs h_7 hP hD hS => ?_)
                have hP : va_P D vwCl [(a_ref, .inl (cI, 3, .inl (fun _ => 0))), (mo, .inr (7, [.ref a_now, .ref a_kep, .ref a_isk, .ref a_ref, .long 0, .long 1, .int 0, .int 0, .int 0, .int 0, .ref a_cw, .ref a_row, .int 0, .ref a_lea, .ref a_sli, .ref a_lef, .ref a_bst, .ref a_try, .int 0, .ref a_mom, .ref a_byt, .int 0, .int 0, .int 0, .int 0, .int 0, .ref a_nxt, .ref a_val])), (a_now, .inl (cI, 221, .inl nw0))] H := hP
                have hD : va_D (va_A (w_m_best cI cZ cP mo a_now a_kep a_isk a_ref a_cw a_row a_lea a_sli a_lef a_bst a_try a_mom a_byt a_nxt a_val p0) sz) [(a_ref, .inl (cI, 3, .inl (fun _ => 0))), (mo, .inr (7, [.ref a_now, .ref a_kep, .ref a_isk, .ref a_ref, .long 0, .long 1, .int 0, .int 0, .int 0, .int 0, .ref a_cw, .ref a_row, .int 0, .ref a_lea, .ref a_sli, .ref a_lef, .ref a_bst, .ref a_try, .int 0, .ref a_mom, .ref a_byt, .int 0, .int 0, .int 0, .int 0, .int 0, .ref a_nxt, .ref a_val])), (a_now, .inl (cI, 221, .inl nw0))] := hD
                subst h_7
                refine lv_isub hx hb dX7_best_66 ?_
                refine q_i (z := 0) (by decide) ?_
                refine lv_istore (lv' := [(6, .int 0), (5, .int (nI b)), (4, .int (nI a)), (2, .int 0), (3, .int 0), (0, .ref mo), (1, .int p0)]) hx hb dX7_best_67 hl (by decide) rfl (fun ls hl => ?_)
                refine lv_iload hx hb dX7_best_69 (lv_at hl 0 rfl) ?_
                refine lv_iload_n hx hb dX7_best_71 rfl (lv_at hl 3 rfl) ?_
                refine lv_icmp_le (tgt := 89) hx hb dX7_best_72 (by decide) (fun _ => ?_) (fun c_8 => absurd (by decide) c_8)
                refine lv_iload_n hx hb dX7_best_89 rfl (lv_at hl 4 rfl) ?_
                refine lv_istore_n (lv' := [(3, .int 0), (6, .int 0), (5, .int (nI b)), (4, .int (nI a)), (2, .int 0), (0, .ref mo), (1, .int p0)]) hx hb dX7_best_90 rfl hl (by decide) rfl (fun ls hl => ?_)
                refine lv_iload hx hb dX7_best_91 (lv_at hl 1 rfl) ?_
                refine lv_iload_n hx hb dX7_best_93 rfl (lv_at hl 4 rfl) ?_
                refine lv_icmp_le (tgt := 102) hx hb dX7_best_94 (by decide) (fun _ => ?_) (fun c_9 => absurd (by decide) c_9)
                refine lv_iload_n hx hb dX7_best_102 rfl (lv_at hl 4 rfl) ?_
                refine lv_istore_n (lv' := [(2, .int 0), (3, .int 0), (6, .int 0), (5, .int (nI b)), (4, .int (nI a)), (0, .ref mo), (1, .int p0)]) hx hb dX7_best_103 rfl hl (by decide) rfl (fun ls hl => ?_)
                refine lv_iinc (v := (nI (b + 1))) (lv' := [(5, .int (nI (b + 1))), (2, .int 0), (3, .int 0), (6, .int 0), (4, .int (nI a)), (0, .ref mo), (1, .int p0)]) hx hb dX7_best_104 hl (k := 3) rfl (nI_1 b) (by decide) rfl (fun ls hl => ?_)
                refine lv_goto (tgt := 34) hx hb dX7_best_107 (by decide) ?_
                exact ih_34 (b + 1) (by omega) (by omega) _ _ _ (hP.sub [1, 2, 0] rfl) (hD.sub [1, 2, 0] (by decide) rfl) hS (lv_sub hl [0, 4, 1, 2, 5, 6] rfl)
          exact lp_34 65 0 (by omega) (by omega) _ _ _ hP hD hS (lv_sub hl [0, 1, 2, 3, 4, 5] rfl)
    exact lp_24 17 1 (by omega) (by omega) _ _ _ hP hD hS (lv_sub hl [0, 2, 1, 3, 4] rfl)
  · rw [if_neg c_1] at h_1; subst h_1
    refine lv_if_ne (tgt := 17) hx hb dX7_best_7 (by decide) (fun c_10 => absurd (by decide) c_10) (fun _ => ?_)
    refine lv_aload_n hx hb dX7_best_10 rfl (lv_at hl 0 rfl) ?_
    refine lv_bipush (v := (-2)) hx hb dX7_best_11 (by decide) ?_
    refine q_Vi (wr := [(a_now, .inl (cI, 221, .inl nw0))]) [0, 2] [1] hX hE hK hP hD hS hA hl.1 lk_X7_76 (c_m_bad l D cI cZ cP sa mo a_now a_kep a_isk a_ref a_cw a_row a_lea a_sli a_lef a_bst a_try a_mom a_byt a_nxt a_val 0 1 0 0 0 0 0 0 0 0 0 0 0 (-2) _) rfl rfl rfl rfl (by decide) 0 7 rfl rfl rfl rfl (Nat.le_of_ble_eq_true rfl) rfl rfl ⟨Nat.le_of_ble_eq_true rfl, Nat.le_of_ble_eq_true rfl⟩ ⟨Nat.le_of_ble_eq_true rfl, Nat.le_of_ble_eq_true rfl⟩ dX7_best_13 (fun x_11 _ H locs h_11 hP hD hS => ?_)
    have hP : va_P D vwCl [(a_now, .inl (cI, 221, .inl nw0))] H := hP
    have hD : va_D (va_A (w_m_best cI cZ cP mo a_now a_kep a_isk a_ref a_cw a_row a_lea a_sli a_lef a_bst a_try a_mom a_byt a_nxt a_val p0) sz) [(a_now, .inl (cI, 221, .inl nw0))] := hD
    subst h_11
    exact q_iret hX hr hlk () (by simp [sp_blurs, c_1]) (hP.sub [] rfl) (hD.sub [] (by decide) rfl) hS dX7_best_16
abbrev w_m_isFree (cI cZ cP : ClassId) (mo : Nat) (a_now : Nat) (a_kep : Nat) (a_isk : Nat) (a_ref : Nat) (a_cw : Nat) (a_row : Nat) (a_lea : Nat) (a_sli : Nat) (a_lef : Nat) (a_bst : Nat) (a_try : Nat) (a_mom : Nat) (a_byt : Nat) (a_nxt : Nat) (a_val : Nat) (p0 : Int32) (p1 : Int32) : va_W := [(mo, .inr (7, [.ref a_now, .ref a_kep, .ref a_isk, .ref a_ref, .long 0, .long 1, .int 0, .int 0, .int 0, .int 0, .ref a_cw, .ref a_row, .int 0, .ref a_lea, .ref a_sli, .ref a_lef, .ref a_bst, .ref a_try, .int 0, .ref a_mom, .ref a_byt, .int 0, .int 0, .int 0, .int 0, .int 0, .ref a_nxt, .ref a_val])), (a_now, .inl (cI, 221, .inl nw0))]
set_option maxHeartbeats 4000000 in
set_option maxRecDepth 100000 in
theorem c_m_isFree (l : Launch) (D : va_G) (cI cZ cP : ClassId) (sa : Nat → Nat) (mo : Nat) (a_now : Nat) (a_kep : Nat) (a_isk : Nat) (a_ref : Nat) (a_cw : Nat) (a_row : Nat) (a_lea : Nat) (a_sli : Nat) (a_lef : Nat) (a_bst : Nat) (a_try : Nat) (a_mom : Nat) (a_byt : Nat) (a_nxt : Nat) (a_val : Nat) (p0 : Int32) (p1 : Int32) (sz : Nat) : Met l yX7_isFree (qW yX7_isFree cX7_isFree 5 (some .boolean)) ({ frames := 1, cells := 0, slots := 0, locals := 20 } : Room) (qP D (TY cI cZ cP) sa [.ref mo, .int p0, .int p1] (w_m_isFree cI cZ cP mo a_now a_kep a_isk a_ref a_cw a_row a_lea a_sli a_lef a_bst a_try a_mom a_byt a_nxt a_val p0 p1) sz) (qQi D (w_m_isFree cI cZ cP mo a_now a_kep a_isk a_ref a_cw a_row a_lea a_sli a_lef a_bst a_try a_mom a_byt a_nxt a_val p0 p1) sz (fun (r : Int32) (_ : Unit) => r = 1) (fun _ => [(mo, .inr (7, [.ref a_now, .ref a_kep, .ref a_isk, .ref a_ref, .long 0, .long 1, .int 0, .int 0, .int 0, .int 0, .ref a_cw, .ref a_row, .int 0, .ref a_lea, .ref a_sli, .ref a_lef, .ref a_bst, .ref a_try, .int 0, .ref a_mom, .ref a_byt, .int 0, .int 0, .int 0, .int 0, .int 0, .ref a_nxt, .ref a_val])), (a_now, .inl (cI, 221, .inl nw0))])) 0 0 (va_A (w_m_isFree cI cZ cP mo a_now a_kep a_isk a_ref a_cw a_row a_lea a_sli a_lef a_bst a_try a_mom a_byt a_nxt a_val p0 p1) sz) := by
  refine q_enter (by decide) (Nat.le_of_ble_eq_true rfl) ?_
  intro p e s m below meth c ls hX hr hlk hnm hE hK hP hD hS hA hl
  obtain ⟨hx, hb, hml, hown, ht⟩ := id hX
  have hl : lv_has ls 5 [(0, .ref mo), (1, .int p0), (2, .int p1)] := hl
  refine lv_iconst (v := 1) hx hb dX7_isFree_0 (by decide) ?_
  refine lv_istore_n (lv' := [(3, .int 1), (0, .ref mo), (1, .int p0), (2, .int p1)]) hx hb dX7_isFree_1 rfl hl (by decide) rfl (fun ls hl => ?_)
  refine lv_iconst (v := 0) hx hb dX7_isFree_2 (by decide) ?_
  refine lv_istore (lv' := [(4, .int 0), (3, .int 1), (0, .ref mo), (1, .int p0), (2, .int p1)]) hx hb dX7_isFree_3 hl (by decide) rfl (fun ls hl => ?_)
  refine lv_iload hx hb dX7_isFree_5 (lv_at hl 0 rfl) ?_
  refine lv_aload_n hx hb dX7_isFree_7 rfl (lv_at hl 2 rfl) ?_
  refine q_Vi (wr := []) [0, 1] [] hX hE hK hP hD hS hA hl.1 lk_X7_64 (c_m_notes l D cI cZ cP sa mo a_now a_kep a_isk a_ref a_cw a_row a_lea a_sli a_lef a_bst a_try a_mom a_byt a_nxt a_val 0 1 0 0 0 0 0 0 0 0 0 0 0 _) rfl rfl rfl rfl (by decide) 0 7 rfl rfl rfl rfl (Nat.le_of_ble_eq_true rfl) rfl rfl ⟨Nat.le_of_ble_eq_true rfl, Nat.le_of_ble_eq_true rfl⟩ ⟨Nat.le_of_ble_eq_true rfl, Nat.le_of_ble_eq_true rfl⟩ dX7_isFree_8 (fun x_1 _ H locs h_1 hP hD hS => ?_)
  have hP : va_P D vwCl [(mo, .inr (7, [.ref a_now, .ref a_kep, .ref a_isk, .ref a_ref, .long 0, .long 1, .int 0, .int 0, .int 0, .int 0, .ref a_cw, .ref a_row, .int 0, .ref a_lea, .ref a_sli, .ref a_lef, .ref a_bst, .ref a_try, .int 0, .ref a_mom, .ref a_byt, .int 0, .int 0, .int 0, .int 0, .int 0, .ref a_nxt, .ref a_val])), (a_now, .inl (cI, 221, .inl nw0))] H := hP
  have hD : va_D (va_A (w_m_isFree cI cZ cP mo a_now a_kep a_isk a_ref a_cw a_row a_lea a_sli a_lef a_bst a_try a_mom a_byt a_nxt a_val p0 p1) sz) [(mo, .inr (7, [.ref a_now, .ref a_kep, .ref a_isk, .ref a_ref, .long 0, .long 1, .int 0, .int 0, .int 0, .int 0, .ref a_cw, .ref a_row, .int 0, .ref a_lea, .ref a_sli, .ref a_lef, .ref a_bst, .ref a_try, .int 0, .ref a_mom, .ref a_byt, .int 0, .int 0, .int 0, .int 0, .int 0, .ref a_nxt, .ref a_val])), (a_now, .inl (cI, 221, .inl nw0))] := hD
  subst h_1
  refine lv_icmp_ge (tgt := 62) hx hb dX7_isFree_11 (by decide) (fun _ => ?_) (fun c_2 => absurd (by decide) c_2)
  refine lv_iload_n hx hb dX7_isFree_62 rfl (lv_at hl 1 rfl) ?_
  exact q_zret hX hr hlk (by decide) () rfl (hP.sub [0, 1] rfl) (hD.sub [0, 1] (by decide) rfl) hS dX7_isFree_63
abbrev w_m_freeHand (cI cZ cP : ClassId) (mo : Nat) (a_now : Nat) (a_kep : Nat) (a_isk : Nat) (a_ref : Nat) (a_cw : Nat) (a_row : Nat) (a_lea : Nat) (a_sli : Nat) (a_lef : Nat) (a_bst : Nat) (a_try : Nat) (a_mom : Nat) (a_byt : Nat) (a_nxt : Nat) (a_val : Nat) (p0 : Int32) (p1 : Int32) : va_W := [(mo, .inr (7, [.ref a_now, .ref a_kep, .ref a_isk, .ref a_ref, .long 0, .long 1, .int 0, .int 0, .int 0, .int 0, .ref a_cw, .ref a_row, .int 0, .ref a_lea, .ref a_sli, .ref a_lef, .ref a_bst, .ref a_try, .int 0, .ref a_mom, .ref a_byt, .int 0, .int 0, .int 0, .int 0, .int 0, .ref a_nxt, .ref a_val])), (a_now, .inl (cI, 221, .inl nw0))]
set_option maxHeartbeats 4000000 in
set_option maxRecDepth 100000 in
theorem c_m_freeHand (l : Launch) (D : va_G) (cI cZ cP : ClassId) (sa : Nat → Nat) (mo : Nat) (a_now : Nat) (a_kep : Nat) (a_isk : Nat) (a_ref : Nat) (a_cw : Nat) (a_row : Nat) (a_lea : Nat) (a_sli : Nat) (a_lef : Nat) (a_bst : Nat) (a_try : Nat) (a_mom : Nat) (a_byt : Nat) (a_nxt : Nat) (a_val : Nat) (p0 : Int32) (p1 : Int32) (h1 : (-1) ≤ p1 ∧ p1 ≤ 1) (sz : Nat) : Met l yX7_freeHand (qW yX7_freeHand cX7_freeHand 4 (some .int)) ({ frames := 2, cells := 0, slots := 0, locals := 44 } : Room) (qP D (TY cI cZ cP) sa [.ref mo, .int p0, .int p1] (w_m_freeHand cI cZ cP mo a_now a_kep a_isk a_ref a_cw a_row a_lea a_sli a_lef a_bst a_try a_mom a_byt a_nxt a_val p0 p1) sz) (qQi D (w_m_freeHand cI cZ cP mo a_now a_kep a_isk a_ref a_cw a_row a_lea a_sli a_lef a_bst a_try a_mom a_byt a_nxt a_val p0 p1) sz (fun (r : Int32) (_ : Unit) => r = if p1 = 1 then 2 else 0) (fun _ => [(mo, .inr (7, [.ref a_now, .ref a_kep, .ref a_isk, .ref a_ref, .long 0, .long 1, .int 0, .int 0, .int 0, .int 0, .ref a_cw, .ref a_row, .int 0, .ref a_lea, .ref a_sli, .ref a_lef, .ref a_bst, .ref a_try, .int 0, .ref a_mom, .ref a_byt, .int 0, .int 0, .int 0, .int 0, .int 0, .ref a_nxt, .ref a_val])), (a_now, .inl (cI, 221, .inl nw0))])) 0 0 (va_A (w_m_freeHand cI cZ cP mo a_now a_kep a_isk a_ref a_cw a_row a_lea a_sli a_lef a_bst a_try a_mom a_byt a_nxt a_val p0 p1) sz) := by
  refine q_enter (by decide) (Nat.le_of_ble_eq_true rfl) ?_
  intro p e s m below meth c ls hX hr hlk hnm hE hK hP hD hS hA hl
  obtain ⟨hx, hb, hml, hown, ht⟩ := id hX
  have hl : lv_has ls 4 [(0, .ref mo), (1, .int p0), (2, .int p1)] := hl
  refine lv_iconst (v := 0) hx hb dX7_freeHand_0 (by decide) ?_
  refine lv_istore_n (lv' := [(3, .int 0), (0, .ref mo), (1, .int p0), (2, .int p1)]) hx hb dX7_freeHand_1 rfl hl (by decide) rfl (fun ls hl => ?_)
  refine lv_iload_n hx hb dX7_freeHand_2 rfl (lv_at hl 0 rfl) ?_
  refine lv_iconst (v := 4) hx hb dX7_freeHand_3 (by decide) ?_
  refine lv_icmp_ge (tgt := 36) hx hb dX7_freeHand_4 (by decide) (fun c_1 => absurd c_1 (by decide)) (fun _ => ?_)
  refine lv_iload_n hx hb dX7_freeHand_7 rfl (lv_at hl 3 rfl) ?_
  refine lv_iconst (v := (-1)) hx hb dX7_freeHand_8 (by decide) ?_
  refine lv_icmp_eq (tgt := 19) hx hb dX7_freeHand_9 (by decide) (fun c_2 => ?_) (fun c_2 => ?_)
  · refine lv_aload_n hx hb dX7_freeHand_19 rfl (lv_at hl 1 rfl) ?_
    refine lv_iload_n hx hb dX7_freeHand_20 rfl (lv_at hl 0 rfl) ?_
    refine lv_iload_n hx hb dX7_freeHand_21 rfl (lv_at hl 2 rfl) ?_
    refine q_Vi (wr := []) [0, 1] [] hX hE hK hP hD hS hA hl.1 lk_X7_221 (c_m_isFree l D cI cZ cP sa mo a_now a_kep a_isk a_ref a_cw a_row a_lea a_sli a_lef a_bst a_try a_mom a_byt a_nxt a_val 0 p0 _) rfl rfl rfl rfl (by decide) 0 7 rfl rfl rfl rfl (Nat.le_of_ble_eq_true rfl) rfl rfl ⟨Nat.le_of_ble_eq_true rfl, Nat.le_of_ble_eq_true rfl⟩ ⟨Nat.le_of_ble_eq_true rfl, Nat.le_of_ble_eq_true rfl⟩ dX7_freeHand_22 (fun x_3 _ H locs h_3 hP hD hS => ?_)
    have hP : va_P D vwCl [(mo, .inr (7, [.ref a_now, .ref a_kep, .ref a_isk, .ref a_ref, .long 0, .long 1, .int 0, .int 0, .int 0, .int 0, .ref a_cw, .ref a_row, .int 0, .ref a_lea, .ref a_sli, .ref a_lef, .ref a_bst, .ref a_try, .int 0, .ref a_mom, .ref a_byt, .int 0, .int 0, .int 0, .int 0, .int 0, .ref a_nxt, .ref a_val])), (a_now, .inl (cI, 221, .inl nw0))] H := hP
    have hD : va_D (va_A (w_m_freeHand cI cZ cP mo a_now a_kep a_isk a_ref a_cw a_row a_lea a_sli a_lef a_bst a_try a_mom a_byt a_nxt a_val p0 p1) sz) [(mo, .inr (7, [.ref a_now, .ref a_kep, .ref a_isk, .ref a_ref, .long 0, .long 1, .int 0, .int 0, .int 0, .int 0, .ref a_cw, .ref a_row, .int 0, .ref a_lea, .ref a_sli, .ref a_lef, .ref a_bst, .ref a_try, .int 0, .ref a_mom, .ref a_byt, .int 0, .int 0, .int 0, .int 0, .int 0, .ref a_nxt, .ref a_val])), (a_now, .inl (cI, 221, .inl nw0))] := hD
    subst h_3
    refine lv_if_eq (tgt := 30) hx hb dX7_freeHand_25 (by decide) (fun c_4 => absurd c_4 (by decide)) (fun _ => ?_)
    refine lv_iload_n hx hb dX7_freeHand_28 rfl (lv_at hl 0 rfl) ?_
    exact q_iret hX hr hlk () (by simp [c_2]) (hP.sub [0, 1] rfl) (hD.sub [0, 1] (by decide) rfl) hS dX7_freeHand_29
  · refine lv_iload_n hx hb dX7_freeHand_12 rfl (lv_at hl 0 rfl) ?_
    refine lv_iconst (v := 2) hx hb dX7_freeHand_13 (by decide) ?_
    refine lv_idiv hx hb dX7_freeHand_14 (by decide) ?_
    refine q_i (z := 0) (by decide) ?_
    refine lv_iload_n hx hb dX7_freeHand_15 rfl (lv_at hl 3 rfl) ?_
    refine lv_icmp_ne (tgt := 30) hx hb dX7_freeHand_16 (by decide) (fun c_5 => ?_) (fun c_5 => ?_)
    · refine lv_iinc (v := 1) (lv' := [(3, .int 1), (0, .ref mo), (1, .int p0), (2, .int p1)]) hx hb dX7_freeHand_30 hl (k := 0) rfl (by decide) (by decide) rfl (fun ls hl => ?_)
      refine lv_goto (tgt := 2) hx hb dX7_freeHand_33 (by decide) ?_
      refine lv_iload_n hx hb dX7_freeHand_2 rfl (lv_at hl 0 rfl) ?_
      refine lv_iconst (v := 4) hx hb dX7_freeHand_3 (by decide) ?_
      refine lv_icmp_ge (tgt := 36) hx hb dX7_freeHand_4 (by decide) (fun c_6 => absurd c_6 (by decide)) (fun _ => ?_)
      refine lv_iload_n hx hb dX7_freeHand_7 rfl (lv_at hl 3 rfl) ?_
      refine lv_iconst (v := (-1)) hx hb dX7_freeHand_8 (by decide) ?_
      refine lv_icmp_eq (tgt := 19) hx hb dX7_freeHand_9 (by decide) (fun c_7 => absurd c_7 c_2) (fun _ => ?_)
      refine lv_iload_n hx hb dX7_freeHand_12 rfl (lv_at hl 0 rfl) ?_
      refine lv_iconst (v := 2) hx hb dX7_freeHand_13 (by decide) ?_
      refine lv_idiv hx hb dX7_freeHand_14 (by decide) ?_
      refine q_i (z := 0) (by decide) ?_
      refine lv_iload_n hx hb dX7_freeHand_15 rfl (lv_at hl 3 rfl) ?_
      refine lv_icmp_ne (tgt := 30) hx hb dX7_freeHand_16 (by decide) (fun _ => ?_) (fun c_8 => absurd c_8 c_5)
      refine lv_iinc (v := 2) (lv' := [(3, .int 2), (0, .ref mo), (1, .int p0), (2, .int p1)]) hx hb dX7_freeHand_30 hl (k := 0) rfl (by decide) (by decide) rfl (fun ls hl => ?_)
      refine lv_goto (tgt := 2) hx hb dX7_freeHand_33 (by decide) ?_
      refine lv_iload_n hx hb dX7_freeHand_2 rfl (lv_at hl 0 rfl) ?_
      refine lv_iconst (v := 4) hx hb dX7_freeHand_3 (by decide) ?_
      refine lv_icmp_ge (tgt := 36) hx hb dX7_freeHand_4 (by decide) (fun c_9 => absurd c_9 (by decide)) (fun _ => ?_)
      refine lv_iload_n hx hb dX7_freeHand_7 rfl (lv_at hl 3 rfl) ?_
      refine lv_iconst (v := (-1)) hx hb dX7_freeHand_8 (by decide) ?_
      refine lv_icmp_eq (tgt := 19) hx hb dX7_freeHand_9 (by decide) (fun c_10 => absurd c_10 c_2) (fun _ => ?_)
      refine lv_iload_n hx hb dX7_freeHand_12 rfl (lv_at hl 0 rfl) ?_
      refine lv_iconst (v := 2) hx hb dX7_freeHand_13 (by decide) ?_
      refine lv_idiv hx hb dX7_freeHand_14 (by decide) ?_
      refine q_i (z := 1) (by decide) ?_
      refine lv_iload_n hx hb dX7_freeHand_15 rfl (lv_at hl 3 rfl) ?_
      refine lv_icmp_ne (tgt := 30) hx hb dX7_freeHand_16 (by decide) (fun c_11 => ?_) (fun c_11 => ?_)
      · refine lv_iinc (v := 3) (lv' := [(3, .int 3), (0, .ref mo), (1, .int p0), (2, .int p1)]) hx hb dX7_freeHand_30 hl (k := 0) rfl (by decide) (by decide) rfl (fun ls hl => ?_)
        refine lv_goto (tgt := 2) hx hb dX7_freeHand_33 (by decide) ?_
        refine lv_iload_n hx hb dX7_freeHand_2 rfl (lv_at hl 0 rfl) ?_
        refine lv_iconst (v := 4) hx hb dX7_freeHand_3 (by decide) ?_
        refine lv_icmp_ge (tgt := 36) hx hb dX7_freeHand_4 (by decide) (fun c_12 => absurd c_12 (by decide)) (fun _ => ?_)
        refine lv_iload_n hx hb dX7_freeHand_7 rfl (lv_at hl 3 rfl) ?_
        refine lv_iconst (v := (-1)) hx hb dX7_freeHand_8 (by decide) ?_
        refine lv_icmp_eq (tgt := 19) hx hb dX7_freeHand_9 (by decide) (fun c_13 => absurd c_13 c_2) (fun _ => ?_)
        refine lv_iload_n hx hb dX7_freeHand_12 rfl (lv_at hl 0 rfl) ?_
        refine lv_iconst (v := 2) hx hb dX7_freeHand_13 (by decide) ?_
        refine lv_idiv hx hb dX7_freeHand_14 (by decide) ?_
        refine q_i (z := 1) (by decide) ?_
        refine lv_iload_n hx hb dX7_freeHand_15 rfl (lv_at hl 3 rfl) ?_
        refine lv_icmp_ne (tgt := 30) hx hb dX7_freeHand_16 (by decide) (fun _ => ?_) (fun c_14 => absurd c_14 c_11)
        refine lv_iinc (v := 4) (lv' := [(3, .int 4), (0, .ref mo), (1, .int p0), (2, .int p1)]) hx hb dX7_freeHand_30 hl (k := 0) rfl (by decide) (by decide) rfl (fun ls hl => ?_)
        refine lv_goto (tgt := 2) hx hb dX7_freeHand_33 (by decide) ?_
        refine lv_iload_n hx hb dX7_freeHand_2 rfl (lv_at hl 0 rfl) ?_
        refine lv_iconst (v := 4) hx hb dX7_freeHand_3 (by decide) ?_
        refine lv_icmp_ge (tgt := 36) hx hb dX7_freeHand_4 (by decide) (fun _ => ?_) (fun c_15 => absurd (by decide) c_15)
        exact absurd (one_of h1 c_2 (fun q => c_5 q.symm)) (fun q => c_11 q.symm)
      · refine lv_aload_n hx hb dX7_freeHand_19 rfl (lv_at hl 1 rfl) ?_
        refine lv_iload_n hx hb dX7_freeHand_20 rfl (lv_at hl 0 rfl) ?_
        refine lv_iload_n hx hb dX7_freeHand_21 rfl (lv_at hl 2 rfl) ?_
        refine q_Vi (wr := []) [0, 1] [] hX hE hK hP hD hS hA hl.1 lk_X7_221 (c_m_isFree l D cI cZ cP sa mo a_now a_kep a_isk a_ref a_cw a_row a_lea a_sli a_lef a_bst a_try a_mom a_byt a_nxt a_val 2 p0 _) rfl rfl rfl rfl (by decide) 0 7 rfl rfl rfl rfl (Nat.le_of_ble_eq_true rfl) rfl rfl ⟨Nat.le_of_ble_eq_true rfl, Nat.le_of_ble_eq_true rfl⟩ ⟨Nat.le_of_ble_eq_true rfl, Nat.le_of_ble_eq_true rfl⟩ dX7_freeHand_22 (fun x_16 _ H locs h_16 hP hD hS => ?_)
        have hP : va_P D vwCl [(mo, .inr (7, [.ref a_now, .ref a_kep, .ref a_isk, .ref a_ref, .long 0, .long 1, .int 0, .int 0, .int 0, .int 0, .ref a_cw, .ref a_row, .int 0, .ref a_lea, .ref a_sli, .ref a_lef, .ref a_bst, .ref a_try, .int 0, .ref a_mom, .ref a_byt, .int 0, .int 0, .int 0, .int 0, .int 0, .ref a_nxt, .ref a_val])), (a_now, .inl (cI, 221, .inl nw0))] H := hP
        have hD : va_D (va_A (w_m_freeHand cI cZ cP mo a_now a_kep a_isk a_ref a_cw a_row a_lea a_sli a_lef a_bst a_try a_mom a_byt a_nxt a_val p0 p1) sz) [(mo, .inr (7, [.ref a_now, .ref a_kep, .ref a_isk, .ref a_ref, .long 0, .long 1, .int 0, .int 0, .int 0, .int 0, .ref a_cw, .ref a_row, .int 0, .ref a_lea, .ref a_sli, .ref a_lef, .ref a_bst, .ref a_try, .int 0, .ref a_mom, .ref a_byt, .int 0, .int 0, .int 0, .int 0, .int 0, .ref a_nxt, .ref a_val])), (a_now, .inl (cI, 221, .inl nw0))] := hD
        subst h_16
        refine lv_if_eq (tgt := 30) hx hb dX7_freeHand_25 (by decide) (fun c_17 => absurd c_17 (by decide)) (fun _ => ?_)
        refine lv_iload_n hx hb dX7_freeHand_28 rfl (lv_at hl 0 rfl) ?_
        exact q_iret hX hr hlk () (by simp [c_2, c_5, c_11.symm]) (hP.sub [0, 1] rfl) (hD.sub [0, 1] (by decide) rfl) hS dX7_freeHand_29
    · refine lv_aload_n hx hb dX7_freeHand_19 rfl (lv_at hl 1 rfl) ?_
      refine lv_iload_n hx hb dX7_freeHand_20 rfl (lv_at hl 0 rfl) ?_
      refine lv_iload_n hx hb dX7_freeHand_21 rfl (lv_at hl 2 rfl) ?_
      refine q_Vi (wr := []) [0, 1] [] hX hE hK hP hD hS hA hl.1 lk_X7_221 (c_m_isFree l D cI cZ cP sa mo a_now a_kep a_isk a_ref a_cw a_row a_lea a_sli a_lef a_bst a_try a_mom a_byt a_nxt a_val 0 p0 _) rfl rfl rfl rfl (by decide) 0 7 rfl rfl rfl rfl (Nat.le_of_ble_eq_true rfl) rfl rfl ⟨Nat.le_of_ble_eq_true rfl, Nat.le_of_ble_eq_true rfl⟩ ⟨Nat.le_of_ble_eq_true rfl, Nat.le_of_ble_eq_true rfl⟩ dX7_freeHand_22 (fun x_18 _ H locs h_18 hP hD hS => ?_)
      have hP : va_P D vwCl [(mo, .inr (7, [.ref a_now, .ref a_kep, .ref a_isk, .ref a_ref, .long 0, .long 1, .int 0, .int 0, .int 0, .int 0, .ref a_cw, .ref a_row, .int 0, .ref a_lea, .ref a_sli, .ref a_lef, .ref a_bst, .ref a_try, .int 0, .ref a_mom, .ref a_byt, .int 0, .int 0, .int 0, .int 0, .int 0, .ref a_nxt, .ref a_val])), (a_now, .inl (cI, 221, .inl nw0))] H := hP
      have hD : va_D (va_A (w_m_freeHand cI cZ cP mo a_now a_kep a_isk a_ref a_cw a_row a_lea a_sli a_lef a_bst a_try a_mom a_byt a_nxt a_val p0 p1) sz) [(mo, .inr (7, [.ref a_now, .ref a_kep, .ref a_isk, .ref a_ref, .long 0, .long 1, .int 0, .int 0, .int 0, .int 0, .ref a_cw, .ref a_row, .int 0, .ref a_lea, .ref a_sli, .ref a_lef, .ref a_bst, .ref a_try, .int 0, .ref a_mom, .ref a_byt, .int 0, .int 0, .int 0, .int 0, .int 0, .ref a_nxt, .ref a_val])), (a_now, .inl (cI, 221, .inl nw0))] := hD
      subst h_18
      refine lv_if_eq (tgt := 30) hx hb dX7_freeHand_25 (by decide) (fun c_19 => absurd c_19 (by decide)) (fun _ => ?_)
      refine lv_iload_n hx hb dX7_freeHand_28 rfl (lv_at hl 0 rfl) ?_
      exact q_iret hX hr hlk () (by simp [c_2, c_5.symm]) (hP.sub [0, 1] rfl) (hD.sub [0, 1] (by decide) rfl) hS dX7_freeHand_29
