abbrev w_m_turns (cI cZ cP : ClassId) (mo : Nat) (a_now : Nat) (a_kep : Nat) (a_isk : Nat) (a_ref : Nat) (a_cw : Nat) (a_row : Nat) (a_lea : Nat) (a_sli : Nat) (a_lef : Nat) (a_bst : Nat) (a_try : Nat) (a_mom : Nat) (a_byt : Nat) (a_nxt : Nat) (a_val : Nat) (p0 : Int32) (p1 : Int32) (p2 : Int32) : va_W := [(mo, .inr (7, [.ref a_now, .ref a_kep, .ref a_isk, .ref a_ref, .long 0, .long 1, .int 0, .int 0, .int 0, .int 0, .ref a_cw, .ref a_row, .int 0, .ref a_lea, .ref a_sli, .ref a_lef, .ref a_bst, .ref a_try, .int 0, .ref a_mom, .ref a_byt, .int 0, .int 0, .int 0, .int 0, .int 0, .ref a_nxt, .ref a_val])), (a_now, .inl (cI, 221, .inl nw0)), (a_ref, .inl (cI, 3, .inl (fun _ => 0)))]
set_option maxHeartbeats 4000000 in
set_option maxRecDepth 100000 in
theorem c_m_turns (l : Launch) (D : va_G) (cI cZ cP : ClassId) (sa : Nat → Nat) (mo : Nat) (a_now : Nat) (a_kep : Nat) (a_isk : Nat) (a_ref : Nat) (a_cw : Nat) (a_row : Nat) (a_lea : Nat) (a_sli : Nat) (a_lef : Nat) (a_bst : Nat) (a_try : Nat) (a_mom : Nat) (a_byt : Nat) (a_nxt : Nat) (a_val : Nat) (p0 : Int32) (p1 : Int32) (p2 : Int32) (sz : Nat) : Met l yX7_turns (qW yX7_turns cX7_turns 7 (some .int)) ({ frames := 3, cells := 0, slots := 0, locals := 67 } : Room) (qP D (TY cI cZ cP) sa [.ref mo, .int p0, .int p1, .int p2] (w_m_turns cI cZ cP mo a_now a_kep a_isk a_ref a_cw a_row a_lea a_sli a_lef a_bst a_try a_mom a_byt a_nxt a_val p0 p1 p2) sz) (qQi D (w_m_turns cI cZ cP mo a_now a_kep a_isk a_ref a_cw a_row a_lea a_sli a_lef a_bst a_try a_mom a_byt a_nxt a_val p0 p1 p2) sz (fun (r : Int32) (_ : Unit) => r = sp_turns p0 p1 p2) (fun _ => [])) 0 0 (va_A (w_m_turns cI cZ cP mo a_now a_kep a_isk a_ref a_cw a_row a_lea a_sli a_lef a_bst a_try a_mom a_byt a_nxt a_val p0 p1 p2) sz) := by
  refine q_enter (by decide) (Nat.le_of_ble_eq_true rfl) ?_
  intro p e s m below meth c ls hX hr hlk hnm hE hK hP hD hS hA hl
  obtain ⟨hx, hb, hml, hown, ht⟩ := id hX
  have hl : lv_has ls 7 [(0, .ref mo), (1, .int p0), (2, .int p1), (3, .int p2)] := hl
  refine lv_iload_n hx hb dX7_turns_0 rfl (lv_at hl 1 rfl) ?_
  refine lv_i2l (v := (p0.toInt64)) hx hb dX7_turns_1 rfl ?_
  refine lv_lconst (v := 0) hx hb dX7_turns_2 (by decide) ?_
  refine q_l (z := ((0 : Int32).toInt64)) (by decide) ?_
  refine lv_ldc2 hx hb hown (ht _ kw_1024) dX7_turns_3 ?_
  refine q_l (z := ((63 : Int32).toInt64)) (by decide) ?_
  refine q_Si (wr := [(mo, .inr (7, [.ref a_now, .ref a_kep, .ref a_isk, .ref a_ref, .long 0, .long 1, .int 0, .int 0, .int 0, .int 0, .ref a_cw, .ref a_row, .int 0, .ref a_lea, .ref a_sli, .ref a_lef, .ref a_bst, .ref a_try, .int 0, .ref a_mom, .ref a_byt, .int 0, .int 0, .int 0, .int 0, .int 0, .ref a_nxt, .ref a_val])), (a_now, .inl (cI, 221, .inl nw0)), (a_ref, .inl (cI, 3, .inl (fun _ => 0)))]) [] [0, 1, 2] hX hE hK hP hD hS hA hl.1 lk_X7_68 (c_m_in l D cI cZ cP sa p0 0 63 _) rfl rfl rfl rfl (by decide) rfl rfl (Nat.le_of_ble_eq_true rfl) rfl rfl ⟨Nat.le_of_ble_eq_true rfl, Nat.le_of_ble_eq_true rfl⟩ ⟨Nat.le_of_ble_eq_true rfl, Nat.le_of_ble_eq_true rfl⟩ dX7_turns_6 (fun x_1 _ H locs h_1 hP hD hS => ?_)
  have hP : va_P D vwCl [(mo, .inr (7, [.ref a_now, .ref a_kep, .ref a_isk, .ref a_ref, .long 0, .long 1, .int 0, .int 0, .int 0, .int 0, .ref a_cw, .ref a_row, .int 0, .ref a_lea, .ref a_sli, .ref a_lef, .ref a_bst, .ref a_try, .int 0, .ref a_mom, .ref a_byt, .int 0, .int 0, .int 0, .int 0, .int 0, .ref a_nxt, .ref a_val])), (a_now, .inl (cI, 221, .inl nw0)), (a_ref, .inl (cI, 3, .inl (fun _ => 0)))] H := hP
  have hD : va_D (va_A (w_m_turns cI cZ cP mo a_now a_kep a_isk a_ref a_cw a_row a_lea a_sli a_lef a_bst a_try a_mom a_byt a_nxt a_val p0 p1 p2) sz) [(mo, .inr (7, [.ref a_now, .ref a_kep, .ref a_isk, .ref a_ref, .long 0, .long 1, .int 0, .int 0, .int 0, .int 0, .ref a_cw, .ref a_row, .int 0, .ref a_lea, .ref a_sli, .ref a_lef, .ref a_bst, .ref a_try, .int 0, .ref a_mom, .ref a_byt, .int 0, .int 0, .int 0, .int 0, .int 0, .ref a_nxt, .ref a_val])), (a_now, .inl (cI, 221, .inl nw0)), (a_ref, .inl (cI, 3, .inl (fun _ => 0)))] := hD
  rcases Classical.em (0 ≤ p0 ∧ p0 ≤ 63) with c_1 | c_1
  · rw [if_pos c_1] at h_1; subst h_1
    refine lv_if_eq (tgt := 36) hx hb dX7_turns_9 (by decide) (fun c_2 => absurd c_2 (by decide)) (fun _ => ?_)
    refine lv_iload_n hx hb dX7_turns_12 rfl (lv_at hl 2 rfl) ?_
    refine lv_i2l (v := (p1.toInt64)) hx hb dX7_turns_13 rfl ?_
    refine lv_lconst (v := 0) hx hb dX7_turns_14 (by decide) ?_
    refine q_l (z := ((0 : Int32).toInt64)) (by decide) ?_
    refine lv_ldc2 hx hb hown (ht _ kw_994) dX7_turns_15 ?_
    refine q_l (z := ((9 : Int32).toInt64)) (by decide) ?_
    refine q_Si (wr := [(mo, .inr (7, [.ref a_now, .ref a_kep, .ref a_isk, .ref a_ref, .long 0, .long 1, .int 0, .int 0, .int 0, .int 0, .ref a_cw, .ref a_row, .int 0, .ref a_lea, .ref a_sli, .ref a_lef, .ref a_bst, .ref a_try, .int 0, .ref a_mom, .ref a_byt, .int 0, .int 0, .int 0, .int 0, .int 0, .ref a_nxt, .ref a_val])), (a_now, .inl (cI, 221, .inl nw0)), (a_ref, .inl (cI, 3, .inl (fun _ => 0)))]) [] [0, 1, 2] hX hE hK hP hD hS hA hl.1 lk_X7_68 (c_m_in l D cI cZ cP sa p1 0 9 _) rfl rfl rfl rfl (by decide) rfl rfl (Nat.le_of_ble_eq_true rfl) rfl rfl ⟨Nat.le_of_ble_eq_true rfl, Nat.le_of_ble_eq_true rfl⟩ ⟨Nat.le_of_ble_eq_true rfl, Nat.le_of_ble_eq_true rfl⟩ dX7_turns_18 (fun x_3 _ H locs h_3 hP hD hS => ?_)
    have hP : va_P D vwCl [(mo, .inr (7, [.ref a_now, .ref a_kep, .ref a_isk, .ref a_ref, .long 0, .long 1, .int 0, .int 0, .int 0, .int 0, .ref a_cw, .ref a_row, .int 0, .ref a_lea, .ref a_sli, .ref a_lef, .ref a_bst, .ref a_try, .int 0, .ref a_mom, .ref a_byt, .int 0, .int 0, .int 0, .int 0, .int 0, .ref a_nxt, .ref a_val])), (a_now, .inl (cI, 221, .inl nw0)), (a_ref, .inl (cI, 3, .inl (fun _ => 0)))] H := hP
    have hD : va_D (va_A (w_m_turns cI cZ cP mo a_now a_kep a_isk a_ref a_cw a_row a_lea a_sli a_lef a_bst a_try a_mom a_byt a_nxt a_val p0 p1 p2) sz) [(mo, .inr (7, [.ref a_now, .ref a_kep, .ref a_isk, .ref a_ref, .long 0, .long 1, .int 0, .int 0, .int 0, .int 0, .ref a_cw, .ref a_row, .int 0, .ref a_lea, .ref a_sli, .ref a_lef, .ref a_bst, .ref a_try, .int 0, .ref a_mom, .ref a_byt, .int 0, .int 0, .int 0, .int 0, .int 0, .ref a_nxt, .ref a_val])), (a_now, .inl (cI, 221, .inl nw0)), (a_ref, .inl (cI, 3, .inl (fun _ => 0)))] := hD
    rcases Classical.em (0 ≤ p1 ∧ p1 ≤ 9) with c_3 | c_3
    · rw [if_pos c_3] at h_3; subst h_3
      refine lv_if_eq (tgt := 36) hx hb dX7_turns_21 (by decide) (fun c_4 => absurd c_4 (by decide)) (fun _ => ?_)
      refine lv_iload_n hx hb dX7_turns_24 rfl (lv_at hl 3 rfl) ?_
      refine lv_i2l (v := (p2.toInt64)) hx hb dX7_turns_25 rfl ?_
      refine lv_ldc2 hx hb hown (ht _ kw_1026) dX7_turns_26 ?_
      refine q_l (z := ((-1 : Int32).toInt64)) (by decide) ?_
      refine lv_lconst (v := 1) hx hb dX7_turns_29 (by decide) ?_
      refine q_l (z := ((1 : Int32).toInt64)) (by decide) ?_
      refine q_Si (wr := [(mo, .inr (7, [.ref a_now, .ref a_kep, .ref a_isk, .ref a_ref, .long 0, .long 1, .int 0, .int 0, .int 0, .int 0, .ref a_cw, .ref a_row, .int 0, .ref a_lea, .ref a_sli, .ref a_lef, .ref a_bst, .ref a_try, .int 0, .ref a_mom, .ref a_byt, .int 0, .int 0, .int 0, .int 0, .int 0, .ref a_nxt, .ref a_val])), (a_now, .inl (cI, 221, .inl nw0)), (a_ref, .inl (cI, 3, .inl (fun _ => 0)))]) [] [0, 1, 2] hX hE hK hP hD hS hA hl.1 lk_X7_68 (c_m_in l D cI cZ cP sa p2 (-1) 1 _) rfl rfl rfl rfl (by decide) rfl rfl (Nat.le_of_ble_eq_true rfl) rfl rfl ⟨Nat.le_of_ble_eq_true rfl, Nat.le_of_ble_eq_true rfl⟩ ⟨Nat.le_of_ble_eq_true rfl, Nat.le_of_ble_eq_true rfl⟩ dX7_turns_30 (fun x_5 _ H locs h_5 hP hD hS => ?_)
      have hP : va_P D vwCl [(mo, .inr (7, [.ref a_now, .ref a_kep, .ref a_isk, .ref a_ref, .long 0, .long 1, .int 0, .int 0, .int 0, .int 0, .ref a_cw, .ref a_row, .int 0, .ref a_lea, .ref a_sli, .ref a_lef, .ref a_bst, .ref a_try, .int 0, .ref a_mom, .ref a_byt, .int 0, .int 0, .int 0, .int 0, .int 0, .ref a_nxt, .ref a_val])), (a_now, .inl (cI, 221, .inl nw0)), (a_ref, .inl (cI, 3, .inl (fun _ => 0)))] H := hP
      have hD : va_D (va_A (w_m_turns cI cZ cP mo a_now a_kep a_isk a_ref a_cw a_row a_lea a_sli a_lef a_bst a_try a_mom a_byt a_nxt a_val p0 p1 p2) sz) [(mo, .inr (7, [.ref a_now, .ref a_kep, .ref a_isk, .ref a_ref, .long 0, .long 1, .int 0, .int 0, .int 0, .int 0, .ref a_cw, .ref a_row, .int 0, .ref a_lea, .ref a_sli, .ref a_lef, .ref a_bst, .ref a_try, .int 0, .ref a_mom, .ref a_byt, .int 0, .int 0, .int 0, .int 0, .int 0, .ref a_nxt, .ref a_val])), (a_now, .inl (cI, 221, .inl nw0)), (a_ref, .inl (cI, 3, .inl (fun _ => 0)))] := hD
      rcases Classical.em ((-1) ≤ p2 ∧ p2 ≤ 1) with c_5 | c_5
      · rw [if_pos c_5] at h_5; subst h_5
        refine lv_if_ne (tgt := 43) hx hb dX7_turns_33 (by decide) (fun _ => ?_) (fun c_6 => absurd c_6 (by decide))
        refine lv_iconst (v := 0) hx hb dX7_turns_43 (by decide) ?_
        refine lv_istore (lv' := [(4, .int 0), (0, .ref mo), (1, .int p0), (2, .int p1), (3, .int p2)]) hx hb dX7_turns_44 hl (by decide) rfl (fun ls hl => ?_)
        refine lv_iload hx hb dX7_turns_46 (lv_at hl 0 rfl) ?_
        refine lv_iload_n hx hb dX7_turns_48 rfl (lv_at hl 3 rfl) ?_
        refine lv_icmp_gt (tgt := 135) hx hb dX7_turns_49 (by decide) (fun c_7 => absurd c_7 (Int32.not_lt.mpr c_3.1)) (fun _ => ?_)
        refine lv_iload_n hx hb dX7_turns_52 rfl (lv_at hl 2 rfl) ?_
        refine lv_iload hx hb dX7_turns_53 (lv_at hl 0 rfl) ?_
        refine lv_isub hx hb dX7_turns_55 ?_
        refine q_i (z := p0) (Int32.sub_zero _) ?_
        refine lv_istore (lv' := [(5, .int p0), (4, .int 0), (0, .ref mo), (1, .int p0), (2, .int p1), (3, .int p2)]) hx hb dX7_turns_56 hl (by decide) rfl (fun ls hl => ?_)
        refine lv_iload hx hb dX7_turns_58 (lv_at hl 0 rfl) ?_
        refine lv_iload_n hx hb dX7_turns_60 rfl (lv_at hl 3 rfl) ?_
        refine lv_iload hx hb dX7_turns_61 (lv_at hl 1 rfl) ?_
        refine lv_iadd hx hb dX7_turns_63 ?_
        refine q_i (z := p0) (Int32.add_zero _) ?_
        refine lv_icmp_gt (tgt := 129) hx hb dX7_turns_64 (by decide) (fun c_8 => absurd c_8 (fun q => Int32.lt_irrefl q)) (fun _ => ?_)
        refine lv_iload hx hb dX7_turns_67 (lv_at hl 0 rfl) ?_
        refine lv_i2l (v := (p0.toInt64)) hx hb dX7_turns_69 rfl ?_
        refine lv_lconst (v := 0) hx hb dX7_turns_70 (by decide) ?_
        refine q_l (z := ((0 : Int32).toInt64)) (by decide) ?_
        refine lv_ldc2 hx hb hown (ht _ kw_1024) dX7_turns_71 ?_
        refine q_l (z := ((63 : Int32).toInt64)) (by decide) ?_
        refine q_Si (wr := [(mo, .inr (7, [.ref a_now, .ref a_kep, .ref a_isk, .ref a_ref, .long 0, .long 1, .int 0, .int 0, .int 0, .int 0, .ref a_cw, .ref a_row, .int 0, .ref a_lea, .ref a_sli, .ref a_lef, .ref a_bst, .ref a_try, .int 0, .ref a_mom, .ref a_byt, .int 0, .int 0, .int 0, .int 0, .int 0, .ref a_nxt, .ref a_val])), (a_now, .inl (cI, 221, .inl nw0)), (a_ref, .inl (cI, 3, .inl (fun _ => 0)))]) [] [0, 1, 2] hX hE hK hP hD hS hA hl.1 lk_X7_68 (c_m_in l D cI cZ cP sa p0 0 63 _) rfl rfl rfl rfl (by decide) rfl rfl (Nat.le_of_ble_eq_true rfl) rfl rfl ⟨Nat.le_of_ble_eq_true rfl, Nat.le_of_ble_eq_true rfl⟩ ⟨Nat.le_of_ble_eq_true rfl, Nat.le_of_ble_eq_true rfl⟩ dX7_turns_74 (fun x_9 _ H locs h_9 hP hD hS => ?_)
        have hP : va_P D vwCl [(mo, .inr (7, [.ref a_now, .ref a_kep, .ref a_isk, .ref a_ref, .long 0, .long 1, .int 0, .int 0, .int 0, .int 0, .ref a_cw, .ref a_row, .int 0, .ref a_lea, .ref a_sli, .ref a_lef, .ref a_bst, .ref a_try, .int 0, .ref a_mom, .ref a_byt, .int 0, .int 0, .int 0, .int 0, .int 0, .ref a_nxt, .ref a_val])), (a_now, .inl (cI, 221, .inl nw0)), (a_ref, .inl (cI, 3, .inl (fun _ => 0)))] H := hP
        have hD : va_D (va_A (w_m_turns cI cZ cP mo a_now a_kep a_isk a_ref a_cw a_row a_lea a_sli a_lef a_bst a_try a_mom a_byt a_nxt a_val p0 p1 p2) sz) [(mo, .inr (7, [.ref a_now, .ref a_kep, .ref a_isk, .ref a_ref, .long 0, .long 1, .int 0, .int 0, .int 0, .int 0, .ref a_cw, .ref a_row, .int 0, .ref a_lea, .ref a_sli, .ref a_lef, .ref a_bst, .ref a_try, .int 0, .ref a_mom, .ref a_byt, .int 0, .int 0, .int 0, .int 0, .int 0, .ref a_nxt, .ref a_val])), (a_now, .inl (cI, 221, .inl nw0)), (a_ref, .inl (cI, 3, .inl (fun _ => 0)))] := hD
        rw [if_pos c_1] at h_9; subst h_9
        refine lv_if_eq (tgt := 90) hx hb dX7_turns_77 (by decide) (fun c_10 => absurd c_10 (by decide)) (fun _ => ?_)
        refine lv_aload_n hx hb dX7_turns_80 rfl (lv_at hl 2 rfl) ?_
        refine lv_iload hx hb dX7_turns_81 (lv_at hl 0 rfl) ?_
        refine lv_iload_n hx hb dX7_turns_83 rfl (lv_at hl 5 rfl) ?_
        refine q_Vi (wr := [(a_ref, .inl (cI, 3, .inl (fun _ => 0)))]) [0, 1] [2] hX hE hK hP hD hS hA hl.1 lk_X7_224 (c_m_freeHand l D cI cZ cP sa mo a_now a_kep a_isk a_ref a_cw a_row a_lea a_sli a_lef a_bst a_try a_mom a_byt a_nxt a_val p0 p2 c_5 _) rfl rfl rfl rfl (by decide) 0 7 rfl rfl rfl rfl (Nat.le_of_ble_eq_true rfl) rfl rfl ⟨Nat.le_of_ble_eq_true rfl, Nat.le_of_ble_eq_true rfl⟩ ⟨Nat.le_of_ble_eq_true rfl, Nat.le_of_ble_eq_true rfl⟩ dX7_turns_84 (fun x_11 _ H locs h_11 hP hD hS => ?_)
        have hP : va_P D vwCl [(a_ref, .inl (cI, 3, .inl (fun _ => 0))), (mo, .inr (7, [.ref a_now, .ref a_kep, .ref a_isk, .ref a_ref, .long 0, .long 1, .int 0, .int 0, .int 0, .int 0, .ref a_cw, .ref a_row, .int 0, .ref a_lea, .ref a_sli, .ref a_lef, .ref a_bst, .ref a_try, .int 0, .ref a_mom, .ref a_byt, .int 0, .int 0, .int 0, .int 0, .int 0, .ref a_nxt, .ref a_val])), (a_now, .inl (cI, 221, .inl nw0))] H := hP
        have hD : va_D (va_A (w_m_turns cI cZ cP mo a_now a_kep a_isk a_ref a_cw a_row a_lea a_sli a_lef a_bst a_try a_mom a_byt a_nxt a_val p0 p1 p2) sz) [(a_ref, .inl (cI, 3, .inl (fun _ => 0))), (mo, .inr (7, [.ref a_now, .ref a_kep, .ref a_isk, .ref a_ref, .long 0, .long 1, .int 0, .int 0, .int 0, .int 0, .ref a_cw, .ref a_row, .int 0, .ref a_lea, .ref a_sli, .ref a_lef, .ref a_bst, .ref a_try, .int 0, .ref a_mom, .ref a_byt, .int 0, .int 0, .int 0, .int 0, .int 0, .ref a_nxt, .ref a_val])), (a_now, .inl (cI, 221, .inl nw0))] := hD
        subst h_11
        refine lv_goto (tgt := 91) hx hb dX7_turns_87 (by decide) ?_
        refine lv_istore (lv' := [(6, .int (if p2 = 1 then 2 else 0)), (5, .int p0), (4, .int 0), (0, .ref mo), (1, .int p0), (2, .int p1), (3, .int p2)]) hx hb dX7_turns_91 hl (by decide) rfl (fun ls hl => ?_)
        refine lv_iload hx hb dX7_turns_93 (lv_at hl 0 rfl) ?_
        refine lv_iconst (v := (-1)) hx hb dX7_turns_95 (by decide) ?_
        refine lv_icmp_eq (tgt := 108) hx hb dX7_turns_96 (by decide) (fun c_12 => absurd c_12 (fh_ne p2)) (fun _ => ?_)
        refine lv_bipush (v := 10) hx hb dX7_turns_99 (by decide) ?_
        refine lv_iload hx hb dX7_turns_101 (lv_at hl 1 rfl) ?_
        refine lv_imul hx hb dX7_turns_103 ?_
        refine lv_iload hx hb dX7_turns_104 (lv_at hl 0 rfl) ?_
        refine lv_iadd hx hb dX7_turns_106 ?_
        exact q_iret hX hr hlk () (by simp [sp_turns, c_1, c_3, c_5]) (hP.sub [] rfl) (hD.sub [] (by decide) rfl) hS dX7_turns_107
      · rw [if_neg c_5] at h_5; subst h_5
        refine lv_if_ne (tgt := 43) hx hb dX7_turns_33 (by decide) (fun c_13 => absurd (by decide) c_13) (fun _ => ?_)
        refine lv_aload_n hx hb dX7_turns_36 rfl (lv_at hl 0 rfl) ?_
        refine lv_bipush (v := (-2)) hx hb dX7_turns_37 (by decide) ?_
        refine q_Vi (wr := [(a_now, .inl (cI, 221, .inl nw0))]) [0, 2] [1] hX hE hK hP hD hS hA hl.1 lk_X7_76 (c_m_bad l D cI cZ cP sa mo a_now a_kep a_isk a_ref a_cw a_row a_lea a_sli a_lef a_bst a_try a_mom a_byt a_nxt a_val 0 1 0 0 0 0 0 0 0 0 0 0 0 (-2) _) rfl rfl rfl rfl (by decide) 0 7 rfl rfl rfl rfl (Nat.le_of_ble_eq_true rfl) rfl rfl ⟨Nat.le_of_ble_eq_true rfl, Nat.le_of_ble_eq_true rfl⟩ ⟨Nat.le_of_ble_eq_true rfl, Nat.le_of_ble_eq_true rfl⟩ dX7_turns_39 (fun x_14 _ H locs h_14 hP hD hS => ?_)
        have hP : va_P D vwCl [(a_now, .inl (cI, 221, .inl nw0))] H := hP
        have hD : va_D (va_A (w_m_turns cI cZ cP mo a_now a_kep a_isk a_ref a_cw a_row a_lea a_sli a_lef a_bst a_try a_mom a_byt a_nxt a_val p0 p1 p2) sz) [(a_now, .inl (cI, 221, .inl nw0))] := hD
        subst h_14
        exact q_iret hX hr hlk () (by simp [sp_turns, c_1, c_3, c_5]) (hP.sub [] rfl) (hD.sub [] (by decide) rfl) hS dX7_turns_42
    · rw [if_neg c_3] at h_3; subst h_3
      refine lv_if_eq (tgt := 36) hx hb dX7_turns_21 (by decide) (fun _ => ?_) (fun c_15 => absurd (by decide) c_15)
      refine lv_aload_n hx hb dX7_turns_36 rfl (lv_at hl 0 rfl) ?_
      refine lv_bipush (v := (-2)) hx hb dX7_turns_37 (by decide) ?_
      refine q_Vi (wr := [(a_now, .inl (cI, 221, .inl nw0))]) [0, 2] [1] hX hE hK hP hD hS hA hl.1 lk_X7_76 (c_m_bad l D cI cZ cP sa mo a_now a_kep a_isk a_ref a_cw a_row a_lea a_sli a_lef a_bst a_try a_mom a_byt a_nxt a_val 0 1 0 0 0 0 0 0 0 0 0 0 0 (-2) _) rfl rfl rfl rfl (by decide) 0 7 rfl rfl rfl rfl (Nat.le_of_ble_eq_true rfl) rfl rfl ⟨Nat.le_of_ble_eq_true rfl, Nat.le_of_ble_eq_true rfl⟩ ⟨Nat.le_of_ble_eq_true rfl, Nat.le_of_ble_eq_true rfl⟩ dX7_turns_39 (fun x_16 _ H locs h_16 hP hD hS => ?_)
      have hP : va_P D vwCl [(a_now, .inl (cI, 221, .inl nw0))] H := hP
      have hD : va_D (va_A (w_m_turns cI cZ cP mo a_now a_kep a_isk a_ref a_cw a_row a_lea a_sli a_lef a_bst a_try a_mom a_byt a_nxt a_val p0 p1 p2) sz) [(a_now, .inl (cI, 221, .inl nw0))] := hD
      subst h_16
      exact q_iret hX hr hlk () (by simp [sp_turns, c_1, c_3]) (hP.sub [] rfl) (hD.sub [] (by decide) rfl) hS dX7_turns_42
  · rw [if_neg c_1] at h_1; subst h_1
    refine lv_if_eq (tgt := 36) hx hb dX7_turns_9 (by decide) (fun _ => ?_) (fun c_17 => absurd (by decide) c_17)
    refine lv_aload_n hx hb dX7_turns_36 rfl (lv_at hl 0 rfl) ?_
    refine lv_bipush (v := (-2)) hx hb dX7_turns_37 (by decide) ?_
    refine q_Vi (wr := [(a_now, .inl (cI, 221, .inl nw0))]) [0, 2] [1] hX hE hK hP hD hS hA hl.1 lk_X7_76 (c_m_bad l D cI cZ cP sa mo a_now a_kep a_isk a_ref a_cw a_row a_lea a_sli a_lef a_bst a_try a_mom a_byt a_nxt a_val 0 1 0 0 0 0 0 0 0 0 0 0 0 (-2) _) rfl rfl rfl rfl (by decide) 0 7 rfl rfl rfl rfl (Nat.le_of_ble_eq_true rfl) rfl rfl ⟨Nat.le_of_ble_eq_true rfl, Nat.le_of_ble_eq_true rfl⟩ ⟨Nat.le_of_ble_eq_true rfl, Nat.le_of_ble_eq_true rfl⟩ dX7_turns_39 (fun x_18 _ H locs h_18 hP hD hS => ?_)
    have hP : va_P D vwCl [(a_now, .inl (cI, 221, .inl nw0))] H := hP
    have hD : va_D (va_A (w_m_turns cI cZ cP mo a_now a_kep a_isk a_ref a_cw a_row a_lea a_sli a_lef a_bst a_try a_mom a_byt a_nxt a_val p0 p1 p2) sz) [(a_now, .inl (cI, 221, .inl nw0))] := hD
    subst h_18
    exact q_iret hX hr hlk () (by simp [sp_turns, c_1]) (hP.sub [] rfl) (hD.sub [] (by decide) rfl) hS dX7_turns_42
abbrev w_m_covered (cI cZ cP : ClassId) (mo : Nat) (a_now : Nat) (a_kep : Nat) (a_isk : Nat) (a_ref : Nat) (a_cw : Nat) (a_row : Nat) (a_lea : Nat) (a_sli : Nat) (a_lef : Nat) (a_bst : Nat) (a_try : Nat) (a_mom : Nat) (a_byt : Nat) (a_nxt : Nat) (a_val : Nat) : va_W := [(mo, .inr (7, [.ref a_now, .ref a_kep, .ref a_isk, .ref a_ref, .long 0, .long 1, .int 0, .int 0, .int 0, .int 0, .ref a_cw, .ref a_row, .int 0, .ref a_lea, .ref a_sli, .ref a_lef, .ref a_bst, .ref a_try, .int 0, .ref a_mom, .ref a_byt, .int 0, .int 0, .int 0, .int 0, .int 0, .ref a_nxt, .ref a_val])), (a_now, .inl (cI, 221, .inl nw0))]
set_option maxHeartbeats 4000000 in
set_option maxRecDepth 100000 in
theorem c_m_covered (l : Launch) (D : va_G) (cI cZ cP : ClassId) (sa : Nat → Nat) (mo : Nat) (a_now : Nat) (a_kep : Nat) (a_isk : Nat) (a_ref : Nat) (a_cw : Nat) (a_row : Nat) (a_lea : Nat) (a_sli : Nat) (a_lef : Nat) (a_bst : Nat) (a_try : Nat) (a_mom : Nat) (a_byt : Nat) (a_nxt : Nat) (a_val : Nat) (sz : Nat) : Met l yX7_covered (qW yX7_covered cX7_covered 9 (some .long)) ({ frames := 1, cells := 0, slots := 0, locals := 20 } : Room) (qP D (TY cI cZ cP) sa [.ref mo] (w_m_covered cI cZ cP mo a_now a_kep a_isk a_ref a_cw a_row a_lea a_sli a_lef a_bst a_try a_mom a_byt a_nxt a_val) sz) (qQl D (w_m_covered cI cZ cP mo a_now a_kep a_isk a_ref a_cw a_row a_lea a_sli a_lef a_bst a_try a_mom a_byt a_nxt a_val) sz (fun (r : Int64) (_ : Unit) => r = ((0 : Int32).toInt64)) (fun _ => [])) 0 0 (va_A (w_m_covered cI cZ cP mo a_now a_kep a_isk a_ref a_cw a_row a_lea a_sli a_lef a_bst a_try a_mom a_byt a_nxt a_val) sz) := by
  refine q_enter (by decide) (Nat.le_of_ble_eq_true rfl) ?_
  intro p e s m below meth c ls hX hr hlk hnm hE hK hP hD hS hA hl
  obtain ⟨hx, hb, hml, hown, ht⟩ := id hX
  have hl : lv_has ls 9 [(0, .ref mo)] := hl
  refine lv_lconst (v := 0) hx hb dX7_covered_0 (by decide) ?_
  refine q_l (z := ((0 : Int32).toInt64)) (by decide) ?_
  refine lv_lstore_n (lv' := [(1, .long ((0 : Int32).toInt64)), (0, .ref mo)]) hx hb dX7_covered_1 rfl hl (by decide) rfl (fun ls hl => ?_)
  refine lv_iconst (v := 0) hx hb dX7_covered_2 (by decide) ?_
  refine lv_istore_n (lv' := [(3, .int 0), (1, .long ((0 : Int32).toInt64)), (0, .ref mo)]) hx hb dX7_covered_3 rfl hl (by decide) rfl (fun ls hl => ?_)
  have lp_4 : ∀ (n_4 : Nat) (k : Nat), (k ≤ 64) → (65 ≤ k + n_4) → ∀ (H : Heap) (locs : List Loc) (ls : Array Slot), va_P D vwCl [(mo, .inr (7, [.ref a_now, .ref a_kep, .ref a_isk, .ref a_ref, .long 0, .long 1, .int 0, .int 0, .int 0, .int 0, .ref a_cw, .ref a_row, .int 0, .ref a_lea, .ref a_sli, .ref a_lef, .ref a_bst, .ref a_try, .int 0, .ref a_mom, .ref a_byt, .int 0, .int 0, .int 0, .int 0, .int 0, .ref a_nxt, .ref a_val])), (a_now, .inl (cI, 221, .inl nw0))] H → va_D (va_A (w_m_covered cI cZ cP mo a_now a_kep a_isk a_ref a_cw a_row a_lea a_sli a_lef a_bst a_try a_mom a_byt a_nxt a_val) sz) [(mo, .inr (7, [.ref a_now, .ref a_kep, .ref a_isk, .ref a_ref, .long 0, .long 1, .int 0, .int 0, .int 0, .int 0, .ref a_cw, .ref a_row, .int 0, .ref a_lea, .ref a_sli, .ref a_lef, .ref a_bst, .ref a_try, .int 0, .ref a_mom, .ref a_byt, .int 0, .int 0, .int 0, .int 0, .int 0, .ref a_nxt, .ref a_val])), (a_now, .inl (cI, 221, .inl nw0))] → va_S (va_A (w_m_covered cI cZ cP mo a_now a_kep a_isk a_ref a_cw a_row a_lea a_sli a_lef a_bst a_try a_mom a_byt a_nxt a_val) sz) s.heap H locs → lv_has ls 9 [(3, .int (nI k)), (1, .long ((0 : Int32).toInt64)), (0, .ref mo)] → W p l e ({ frames := 1, cells := 0, slots := 0, locals := 20 } : Room) s m ([.ref mo] : List Value).toArray below meth c H locs 0 0 (MQ below (qQl D (w_m_covered cI cZ cP mo a_now a_kep a_isk a_ref a_cw a_row a_lea a_sli a_lef a_bst a_try a_mom a_byt a_nxt a_val) sz (fun (r : Int64) (_ : Unit) => r = ((0 : Int32).toInt64)) (fun _ => [])) ([.ref mo] : List Value).toArray s 0 0 (va_A (w_m_covered cI cZ cP mo a_now a_kep a_isk a_ref a_cw a_row a_lea a_sli a_lef a_bst a_try a_mom a_byt a_nxt a_val) sz)) (F0 m 4 ls []) := by
    intro n_4
    induction n_4 with
    | zero => intro k hk hm_4; exact absurd hm_4 (by omega)
    | succ n_4 ih_4 =>
      intro k hk hm_4 H locs ls hP hD hS hl
      refine lv_iload_n hx hb dX7_covered_4 rfl (lv_at hl 0 rfl) ?_
      refine lv_bipush (v := 64) hx hb dX7_covered_5 (by decide) ?_
      refine lv_icmp_ge (tgt := 192) hx hb dX7_covered_7 (by decide) (fun c_1 => ?_) (fun c_1 => ?_)
      · refine lv_lload_n hx hb dX7_covered_192 rfl (lv_at hl 1 rfl) ?_
        exact q_lret hX hr hlk () rfl (hP.sub [] rfl) (hD.sub [] (by decide) rfl) hS dX7_covered_193
      · have hk2 : k < 64 := nI_dnn (a := 64) c_1 (by omega) (by omega)
        refine lv_iconst (v := 0) hx hb dX7_covered_10 (by decide) ?_
        refine lv_istore (lv' := [(4, .int 0), (3, .int (nI k)), (1, .long ((0 : Int32).toInt64)), (0, .ref mo)]) hx hb dX7_covered_11 hl (by decide) rfl (fun ls hl => ?_)
        refine lv_iconst (v := 0) hx hb dX7_covered_13 (by decide) ?_
        refine lv_istore (lv' := [(5, .int 0), (4, .int 0), (3, .int (nI k)), (1, .long ((0 : Int32).toInt64)), (0, .ref mo)]) hx hb dX7_covered_14 hl (by decide) rfl (fun ls hl => ?_)
        refine lv_iconst (v := 0) hx hb dX7_covered_16 (by decide) ?_
        refine lv_istore (lv' := [(6, .int 0), (5, .int 0), (4, .int 0), (3, .int (nI k)), (1, .long ((0 : Int32).toInt64)), (0, .ref mo)]) hx hb dX7_covered_17 hl (by decide) rfl (fun ls hl => ?_)
        refine lv_iconst (v := 0) hx hb dX7_covered_19 (by decide) ?_
        refine lv_istore (lv' := [(7, .int 0), (6, .int 0), (5, .int 0), (4, .int 0), (3, .int (nI k)), (1, .long ((0 : Int32).toInt64)), (0, .ref mo)]) hx hb dX7_covered_20 hl (by decide) rfl (fun ls hl => ?_)
        refine lv_iload hx hb dX7_covered_22 (lv_at hl 0 rfl) ?_
        refine lv_aload_n hx hb dX7_covered_24 rfl (lv_at hl 6 rfl) ?_
        refine q_Vi (wr := []) [0, 1] [] hX hE hK hP hD hS hA hl.1 lk_X7_64 (c_m_notes l D cI cZ cP sa mo a_now a_kep a_isk a_ref a_cw a_row a_lea a_sli a_lef a_bst a_try a_mom a_byt a_nxt a_val 0 1 0 0 0 0 0 0 0 0 0 0 0 _) rfl rfl rfl rfl (by decide) 0 7 rfl rfl rfl rfl (Nat.le_of_ble_eq_true rfl) rfl rfl ⟨Nat.le_of_ble_eq_true rfl, Nat.le_of_ble_eq_true rfl⟩ ⟨Nat.le_of_ble_eq_true rfl, Nat.le_of_ble_eq_true rfl⟩ dX7_covered_25 (fun x_2 _ H locs h_2 hP hD hS => ?_)
        have hP : va_P D vwCl [(mo, .inr (7, [.ref a_now, .ref a_kep, .ref a_isk, .ref a_ref, .long 0, .long 1, .int 0, .int 0, .int 0, .int 0, .ref a_cw, .ref a_row, .int 0, .ref a_lea, .ref a_sli, .ref a_lef, .ref a_bst, .ref a_try, .int 0, .ref a_mom, .ref a_byt, .int 0, .int 0, .int 0, .int 0, .int 0, .ref a_nxt, .ref a_val])), (a_now, .inl (cI, 221, .inl nw0))] H := hP
        have hD : va_D (va_A (w_m_covered cI cZ cP mo a_now a_kep a_isk a_ref a_cw a_row a_lea a_sli a_lef a_bst a_try a_mom a_byt a_nxt a_val) sz) [(mo, .inr (7, [.ref a_now, .ref a_kep, .ref a_isk, .ref a_ref, .long 0, .long 1, .int 0, .int 0, .int 0, .int 0, .ref a_cw, .ref a_row, .int 0, .ref a_lea, .ref a_sli, .ref a_lef, .ref a_bst, .ref a_try, .int 0, .ref a_mom, .ref a_byt, .int 0, .int 0, .int 0, .int 0, .int 0, .ref a_nxt, .ref a_val])), (a_now, .inl (cI, 221, .inl nw0))] := hD
        subst h_2
        refine lv_icmp_ge (tgt := 164) hx hb dX7_covered_28 (by decide) (fun _ => ?_) (fun c_3 => absurd (by decide) c_3)
        refine lv_lload_n hx hb dX7_covered_164 rfl (lv_at hl 5 rfl) ?_
        refine lv_iload hx hb dX7_covered_165 (lv_at hl 1 rfl) ?_
        refine lv_if_eq (tgt := 183) hx hb dX7_covered_167 (by decide) (fun _ => ?_) (fun c_4 => absurd (by decide) c_4)
        refine lv_lconst (v := 0) hx hb dX7_covered_183 (by decide) ?_
        refine q_l (z := ((0 : Int32).toInt64)) (by decide) ?_
        refine lv_lor hx hb dX7_covered_184 ?_
        refine q_l (z := ((0 : Int32).toInt64)) (by decide) ?_
        refine lv_lstore_n (lv' := [(1, .long ((0 : Int32).toInt64)), (7, .int 0), (6, .int 0), (5, .int 0), (4, .int 0), (3, .int (nI k)), (0, .ref mo)]) hx hb dX7_covered_185 rfl hl (by decide) rfl (fun ls hl => ?_)
        refine lv_iinc (v := (nI (k + 1))) (lv' := [(3, .int (nI (k + 1))), (1, .long ((0 : Int32).toInt64)), (7, .int 0), (6, .int 0), (5, .int 0), (4, .int 0), (0, .ref mo)]) hx hb dX7_covered_186 hl (k := 5) rfl (nI_1 k) (by decide) rfl (fun ls hl => ?_)
        refine lv_goto (tgt := 4) hx hb dX7_covered_189 (by decide) ?_
        exact ih_4 (k + 1) (by omega) (by omega) _ _ _ hP hD hS (lv_sub hl [0, 1, 6] rfl)
  exact lp_4 65 0 (by omega) (by omega) _ _ _ hP hD hS (lv_sub hl [0, 1, 2] rfl)
abbrev w_m_changePlaces (cI cZ cP : ClassId) (mo : Nat) (a_now : Nat) (a_kep : Nat) (a_isk : Nat) (a_ref : Nat) (a_cw : Nat) (a_row : Nat) (a_lea : Nat) (a_sli : Nat) (a_lef : Nat) (a_bst : Nat) (a_try : Nat) (a_mom : Nat) (a_byt : Nat) (a_nxt : Nat) (a_val : Nat) : va_W := [(mo, .inr (7, [.ref a_now, .ref a_kep, .ref a_isk, .ref a_ref, .long 0, .long 1, .int 0, .int 0, .int 0, .int 0, .ref a_cw, .ref a_row, .int 0, .ref a_lea, .ref a_sli, .ref a_lef, .ref a_bst, .ref a_try, .int 0, .ref a_mom, .ref a_byt, .int 0, .int 0, .int 0, .int 0, .int 0, .ref a_nxt, .ref a_val])), (a_now, .inl (cI, 221, .inl nw0))]
set_option maxHeartbeats 4000000 in
set_option maxRecDepth 100000 in
theorem c_m_changePlaces (l : Launch) (D : va_G) (cI cZ cP : ClassId) (sa : Nat → Nat) (mo : Nat) (a_now : Nat) (a_kep : Nat) (a_isk : Nat) (a_ref : Nat) (a_cw : Nat) (a_row : Nat) (a_lea : Nat) (a_sli : Nat) (a_lef : Nat) (a_bst : Nat) (a_try : Nat) (a_mom : Nat) (a_byt : Nat) (a_nxt : Nat) (a_val : Nat) (sz : Nat) : Met l yX7_changePlaces (qW yX7_changePlaces cX7_changePlaces 3 none) ({ frames := 1, cells := 0, slots := 0, locals := 20 } : Room) (qP D (TY cI cZ cP) sa [.ref mo] (w_m_changePlaces cI cZ cP mo a_now a_kep a_isk a_ref a_cw a_row a_lea a_sli a_lef a_bst a_try a_mom a_byt a_nxt a_val) sz) (qQv D (w_m_changePlaces cI cZ cP mo a_now a_kep a_isk a_ref a_cw a_row a_lea a_sli a_lef a_bst a_try a_mom a_byt a_nxt a_val) sz (fun _ : Unit => True) (fun _ => [(mo, .inr (7, [.ref a_now, .ref a_kep, .ref a_isk, .ref a_ref, .long 0, .long 1, .int 0, .int 0, .int 0, .int 0, .ref a_cw, .ref a_row, .int 0, .ref a_lea, .ref a_sli, .ref a_lef, .ref a_bst, .ref a_try, .int 0, .ref a_mom, .ref a_byt, .int 0, .int 0, .int 0, .int 0, .int 0, .ref a_nxt, .ref a_val])), (a_now, .inl (cI, 221, .inl nw0))])) 0 0 (va_A (w_m_changePlaces cI cZ cP mo a_now a_kep a_isk a_ref a_cw a_row a_lea a_sli a_lef a_bst a_try a_mom a_byt a_nxt a_val) sz) := by
  refine q_enter (by decide) (Nat.le_of_ble_eq_true rfl) ?_
  intro p e s m below meth c ls hX hr hlk hnm hE hK hP hD hS hA hl
  obtain ⟨hx, hb, hml, hown, ht⟩ := id hX
  have hl : lv_has ls 3 [(0, .ref mo)] := hl
  refine lv_iconst (v := 0) hx hb dX7_changePlaces_0 (by decide) ?_
  refine lv_istore_n (lv' := [(1, .int 0), (0, .ref mo)]) hx hb dX7_changePlaces_1 rfl hl (by decide) rfl (fun ls hl => ?_)
  refine lv_iload_n hx hb dX7_changePlaces_2 rfl (lv_at hl 0 rfl) ?_
  refine lv_aload_n hx hb dX7_changePlaces_3 rfl (lv_at hl 1 rfl) ?_
  refine q_Vi (wr := []) [0, 1] [] hX hE hK hP hD hS hA hl.1 lk_X7_64 (c_m_notes l D cI cZ cP sa mo a_now a_kep a_isk a_ref a_cw a_row a_lea a_sli a_lef a_bst a_try a_mom a_byt a_nxt a_val 0 1 0 0 0 0 0 0 0 0 0 0 0 _) rfl rfl rfl rfl (by decide) 0 7 rfl rfl rfl rfl (Nat.le_of_ble_eq_true rfl) rfl rfl ⟨Nat.le_of_ble_eq_true rfl, Nat.le_of_ble_eq_true rfl⟩ ⟨Nat.le_of_ble_eq_true rfl, Nat.le_of_ble_eq_true rfl⟩ dX7_changePlaces_4 (fun x_1 _ H locs h_1 hP hD hS => ?_)
  have hP : va_P D vwCl [(mo, .inr (7, [.ref a_now, .ref a_kep, .ref a_isk, .ref a_ref, .long 0, .long 1, .int 0, .int 0, .int 0, .int 0, .ref a_cw, .ref a_row, .int 0, .ref a_lea, .ref a_sli, .ref a_lef, .ref a_bst, .ref a_try, .int 0, .ref a_mom, .ref a_byt, .int 0, .int 0, .int 0, .int 0, .int 0, .ref a_nxt, .ref a_val])), (a_now, .inl (cI, 221, .inl nw0))] H := hP
  have hD : va_D (va_A (w_m_changePlaces cI cZ cP mo a_now a_kep a_isk a_ref a_cw a_row a_lea a_sli a_lef a_bst a_try a_mom a_byt a_nxt a_val) sz) [(mo, .inr (7, [.ref a_now, .ref a_kep, .ref a_isk, .ref a_ref, .long 0, .long 1, .int 0, .int 0, .int 0, .int 0, .ref a_cw, .ref a_row, .int 0, .ref a_lea, .ref a_sli, .ref a_lef, .ref a_bst, .ref a_try, .int 0, .ref a_mom, .ref a_byt, .int 0, .int 0, .int 0, .int 0, .int 0, .ref a_nxt, .ref a_val])), (a_now, .inl (cI, 221, .inl nw0))] := hD
  subst h_1
  refine lv_icmp_ge (tgt := 42) hx hb dX7_changePlaces_7 (by decide) (fun _ => ?_) (fun c_2 => absurd (by decide) c_2)
  exact q_vret hX hr hlk () trivial (hP.sub [0, 1] rfl) (hD.sub [0, 1] (by decide) rfl) hS dX7_changePlaces_42
abbrev w_m_places (cI cZ cP : ClassId) (mo : Nat) (a_now : Nat) (a_kep : Nat) (a_isk : Nat) (a_ref : Nat) (a_cw : Nat) (a_row : Nat) (a_lea : Nat) (a_sli : Nat) (a_lef : Nat) (a_bst : Nat) (a_try : Nat) (a_mom : Nat) (a_byt : Nat) (a_nxt : Nat) (a_val : Nat) : va_W := [(mo, .inr (7, [.ref a_now, .ref a_kep, .ref a_isk, .ref a_ref, .long 0, .long 1, .int 0, .int 0, .int 0, .int 0, .ref a_cw, .ref a_row, .int 0, .ref a_lea, .ref a_sli, .ref a_lef, .ref a_bst, .ref a_try, .int 0, .ref a_mom, .ref a_byt, .int 0, .int 0, .int 0, .int 0, .int 0, .ref a_nxt, .ref a_val])), (a_now, .inl (cI, 221, .inl nw0))]
set_option maxHeartbeats 4000000 in
set_option maxRecDepth 100000 in
theorem c_m_places (l : Launch) (D : va_G) (cI cZ cP : ClassId) (sa : Nat → Nat) (mo : Nat) (a_now : Nat) (a_kep : Nat) (a_isk : Nat) (a_ref : Nat) (a_cw : Nat) (a_row : Nat) (a_lea : Nat) (a_sli : Nat) (a_lef : Nat) (a_bst : Nat) (a_try : Nat) (a_mom : Nat) (a_byt : Nat) (a_nxt : Nat) (a_val : Nat) (sz : Nat) : Met l yX7_places (qW yX7_places cX7_places 3 (some .int)) ({ frames := 2, cells := 0, slots := 0, locals := 43 } : Room) (qP D (TY cI cZ cP) sa [.ref mo] (w_m_places cI cZ cP mo a_now a_kep a_isk a_ref a_cw a_row a_lea a_sli a_lef a_bst a_try a_mom a_byt a_nxt a_val) sz) (qQi D (w_m_places cI cZ cP mo a_now a_kep a_isk a_ref a_cw a_row a_lea a_sli a_lef a_bst a_try a_mom a_byt a_nxt a_val) sz (fun (r : Int32) (_ : Unit) => r = 0) (fun _ => [])) 0 0 (va_A (w_m_places cI cZ cP mo a_now a_kep a_isk a_ref a_cw a_row a_lea a_sli a_lef a_bst a_try a_mom a_byt a_nxt a_val) sz) := by
  refine q_enter (by decide) (Nat.le_of_ble_eq_true rfl) ?_
  intro p e s m below meth c ls hX hr hlk hnm hE hK hP hD hS hA hl
  obtain ⟨hx, hb, hml, hown, ht⟩ := id hX
  have hl : lv_has ls 3 [(0, .ref mo)] := hl
  refine lv_aload_n hx hb dX7_places_0 rfl (lv_at hl 0 rfl) ?_
  refine q_Vi (wr := []) [0, 1] [] hX hE hK hP hD hS hA hl.1 lk_X7_152 (c_m_clashesNow l D cI cZ cP sa mo a_now a_kep a_isk a_ref a_cw a_row a_lea a_sli a_lef a_bst a_try a_mom a_byt a_nxt a_val 0 1 0 0 0 0 0 0 0 0 0 0 0 _) rfl rfl rfl rfl (by decide) 0 7 rfl rfl rfl rfl (Nat.le_of_ble_eq_true rfl) rfl rfl ⟨Nat.le_of_ble_eq_true rfl, Nat.le_of_ble_eq_true rfl⟩ ⟨Nat.le_of_ble_eq_true rfl, Nat.le_of_ble_eq_true rfl⟩ dX7_places_1 (fun x_1 _ H locs h_1 hP hD hS => ?_)
  have hP : va_P D vwCl [(mo, .inr (7, [.ref a_now, .ref a_kep, .ref a_isk, .ref a_ref, .long 0, .long 1, .int 0, .int 0, .int 0, .int 0, .ref a_cw, .ref a_row, .int 0, .ref a_lea, .ref a_sli, .ref a_lef, .ref a_bst, .ref a_try, .int 0, .ref a_mom, .ref a_byt, .int 0, .int 0, .int 0, .int 0, .int 0, .ref a_nxt, .ref a_val])), (a_now, .inl (cI, 221, .inl nw0))] H := hP
  have hD : va_D (va_A (w_m_places cI cZ cP mo a_now a_kep a_isk a_ref a_cw a_row a_lea a_sli a_lef a_bst a_try a_mom a_byt a_nxt a_val) sz) [(mo, .inr (7, [.ref a_now, .ref a_kep, .ref a_isk, .ref a_ref, .long 0, .long 1, .int 0, .int 0, .int 0, .int 0, .ref a_cw, .ref a_row, .int 0, .ref a_lea, .ref a_sli, .ref a_lef, .ref a_bst, .ref a_try, .int 0, .ref a_mom, .ref a_byt, .int 0, .int 0, .int 0, .int 0, .int 0, .ref a_nxt, .ref a_val])), (a_now, .inl (cI, 221, .inl nw0))] := hD
  subst h_1
  refine lv_istore_n (lv' := [(1, .int 0), (0, .ref mo)]) hx hb dX7_places_4 rfl hl (by decide) rfl (fun ls hl => ?_)
  refine lv_aload_n hx hb dX7_places_5 rfl (lv_at hl 1 rfl) ?_
  refine q_Vv (wr := []) [0, 1] [] hX hE hK hP hD hS hA hl.1 lk_X7_227 (c_m_changePlaces l D cI cZ cP sa mo a_now a_kep a_isk a_ref a_cw a_row a_lea a_sli a_lef a_bst a_try a_mom a_byt a_nxt a_val _) rfl rfl rfl rfl (by decide) 0 7 rfl rfl rfl rfl (Nat.le_of_ble_eq_true rfl) rfl rfl ⟨Nat.le_of_ble_eq_true rfl, Nat.le_of_ble_eq_true rfl⟩ ⟨Nat.le_of_ble_eq_true rfl, Nat.le_of_ble_eq_true rfl⟩ dX7_places_6 (fun _ H locs h_2 hP hD hS => ?_)
  have hP : va_P D vwCl [(mo, .inr (7, [.ref a_now, .ref a_kep, .ref a_isk, .ref a_ref, .long 0, .long 1, .int 0, .int 0, .int 0, .int 0, .ref a_cw, .ref a_row, .int 0, .ref a_lea, .ref a_sli, .ref a_lef, .ref a_bst, .ref a_try, .int 0, .ref a_mom, .ref a_byt, .int 0, .int 0, .int 0, .int 0, .int 0, .ref a_nxt, .ref a_val])), (a_now, .inl (cI, 221, .inl nw0))] H := hP
  have hD : va_D (va_A (w_m_places cI cZ cP mo a_now a_kep a_isk a_ref a_cw a_row a_lea a_sli a_lef a_bst a_try a_mom a_byt a_nxt a_val) sz) [(mo, .inr (7, [.ref a_now, .ref a_kep, .ref a_isk, .ref a_ref, .long 0, .long 1, .int 0, .int 0, .int 0, .int 0, .ref a_cw, .ref a_row, .int 0, .ref a_lea, .ref a_sli, .ref a_lef, .ref a_bst, .ref a_try, .int 0, .ref a_mom, .ref a_byt, .int 0, .int 0, .int 0, .int 0, .int 0, .ref a_nxt, .ref a_val])), (a_now, .inl (cI, 221, .inl nw0))] := hD
  refine lv_aload_n hx hb dX7_places_9 rfl (lv_at hl 1 rfl) ?_
  refine q_Vi (wr := []) [0, 1] [] hX hE hK hP hD hS hA hl.1 lk_X7_152 (c_m_clashesNow l D cI cZ cP sa mo a_now a_kep a_isk a_ref a_cw a_row a_lea a_sli a_lef a_bst a_try a_mom a_byt a_nxt a_val 0 1 0 0 0 0 0 0 0 0 0 0 0 _) rfl rfl rfl rfl (by decide) 0 7 rfl rfl rfl rfl (Nat.le_of_ble_eq_true rfl) rfl rfl ⟨Nat.le_of_ble_eq_true rfl, Nat.le_of_ble_eq_true rfl⟩ ⟨Nat.le_of_ble_eq_true rfl, Nat.le_of_ble_eq_true rfl⟩ dX7_places_10 (fun x_3 _ H locs h_3 hP hD hS => ?_)
  have hP : va_P D vwCl [(mo, .inr (7, [.ref a_now, .ref a_kep, .ref a_isk, .ref a_ref, .long 0, .long 1, .int 0, .int 0, .int 0, .int 0, .ref a_cw, .ref a_row, .int 0, .ref a_lea, .ref a_sli, .ref a_lef, .ref a_bst, .ref a_try, .int 0, .ref a_mom, .ref a_byt, .int 0, .int 0, .int 0, .int 0, .int 0, .ref a_nxt, .ref a_val])), (a_now, .inl (cI, 221, .inl nw0))] H := hP
  have hD : va_D (va_A (w_m_places cI cZ cP mo a_now a_kep a_isk a_ref a_cw a_row a_lea a_sli a_lef a_bst a_try a_mom a_byt a_nxt a_val) sz) [(mo, .inr (7, [.ref a_now, .ref a_kep, .ref a_isk, .ref a_ref, .long 0, .long 1, .int 0, .int 0, .int 0, .int 0, .ref a_cw, .ref a_row, .int 0, .ref a_lea, .ref a_sli, .ref a_lef, .ref a_bst, .ref a_try, .int 0, .ref a_mom, .ref a_byt, .int 0, .int 0, .int 0, .int 0, .int 0, .ref a_nxt, .ref a_val])), (a_now, .inl (cI, 221, .inl nw0))] := hD
  subst h_3
  refine lv_istore_n (lv' := [(2, .int 0), (1, .int 0), (0, .ref mo)]) hx hb dX7_places_13 rfl hl (by decide) rfl (fun ls hl => ?_)
  refine lv_aload_n hx hb dX7_places_14 rfl (lv_at hl 2 rfl) ?_
  refine q_Vv (wr := []) [0, 1] [] hX hE hK hP hD hS hA hl.1 lk_X7_227 (c_m_changePlaces l D cI cZ cP sa mo a_now a_kep a_isk a_ref a_cw a_row a_lea a_sli a_lef a_bst a_try a_mom a_byt a_nxt a_val _) rfl rfl rfl rfl (by decide) 0 7 rfl rfl rfl rfl (Nat.le_of_ble_eq_true rfl) rfl rfl ⟨Nat.le_of_ble_eq_true rfl, Nat.le_of_ble_eq_true rfl⟩ ⟨Nat.le_of_ble_eq_true rfl, Nat.le_of_ble_eq_true rfl⟩ dX7_places_15 (fun _ H locs h_4 hP hD hS => ?_)
  have hP : va_P D vwCl [(mo, .inr (7, [.ref a_now, .ref a_kep, .ref a_isk, .ref a_ref, .long 0, .long 1, .int 0, .int 0, .int 0, .int 0, .ref a_cw, .ref a_row, .int 0, .ref a_lea, .ref a_sli, .ref a_lef, .ref a_bst, .ref a_try, .int 0, .ref a_mom, .ref a_byt, .int 0, .int 0, .int 0, .int 0, .int 0, .ref a_nxt, .ref a_val])), (a_now, .inl (cI, 221, .inl nw0))] H := hP
  have hD : va_D (va_A (w_m_places cI cZ cP mo a_now a_kep a_isk a_ref a_cw a_row a_lea a_sli a_lef a_bst a_try a_mom a_byt a_nxt a_val) sz) [(mo, .inr (7, [.ref a_now, .ref a_kep, .ref a_isk, .ref a_ref, .long 0, .long 1, .int 0, .int 0, .int 0, .int 0, .ref a_cw, .ref a_row, .int 0, .ref a_lea, .ref a_sli, .ref a_lef, .ref a_bst, .ref a_try, .int 0, .ref a_mom, .ref a_byt, .int 0, .int 0, .int 0, .int 0, .int 0, .ref a_nxt, .ref a_val])), (a_now, .inl (cI, 221, .inl nw0))] := hD
  refine lv_iload_n hx hb dX7_places_18 rfl (lv_at hl 1 rfl) ?_
  refine lv_iload_n hx hb dX7_places_19 rfl (lv_at hl 0 rfl) ?_
  refine lv_isub hx hb dX7_places_20 ?_
  refine q_i (z := 0) (by decide) ?_
  exact q_iret hX hr hlk () rfl (hP.sub [] rfl) (hD.sub [] (by decide) rfl) hS dX7_places_21
abbrev w_m_evening (cI cZ cP : ClassId) (mo : Nat) (a_now : Nat) (a_kep : Nat) (a_isk : Nat) (a_ref : Nat) (a_cw : Nat) (a_row : Nat) (a_lea : Nat) (a_sli : Nat) (a_lef : Nat) (a_bst : Nat) (a_try : Nat) (a_mom : Nat) (a_byt : Nat) (a_nxt : Nat) (a_val : Nat) (p0 : Int32) (p1 : Int32) : va_W := [(mo, .inr (7, [.ref a_now, .ref a_kep, .ref a_isk, .ref a_ref, .long 0, .long 1, .int 0, .int 0, .int 0, .int 0, .ref a_cw, .ref a_row, .int 0, .ref a_lea, .ref a_sli, .ref a_lef, .ref a_bst, .ref a_try, .int 0, .ref a_mom, .ref a_byt, .int 0, .int 0, .int 0, .int 0, .int 0, .ref a_nxt, .ref a_val])), (a_now, .inl (cI, 221, .inl nw0)), (a_ref, .inl (cI, 3, .inl (fun _ => 0)))]
set_option maxHeartbeats 4000000 in
set_option maxRecDepth 100000 in
theorem c_m_evening (l : Launch) (D : va_G) (cI cZ cP : ClassId) (sa : Nat → Nat) (mo : Nat) (a_now : Nat) (a_kep : Nat) (a_isk : Nat) (a_ref : Nat) (a_cw : Nat) (a_row : Nat) (a_lea : Nat) (a_sli : Nat) (a_lef : Nat) (a_bst : Nat) (a_try : Nat) (a_mom : Nat) (a_byt : Nat) (a_nxt : Nat) (a_val : Nat) (p0 : Int32) (p1 : Int32) (sz : Nat) : Met l yX7_evening (qW yX7_evening cX7_evening 7 (some .int)) ({ frames := 2, cells := 0, slots := 0, locals := 43 } : Room) (qP D (TY cI cZ cP) sa [.ref mo, .int p0, .int p1] (w_m_evening cI cZ cP mo a_now a_kep a_isk a_ref a_cw a_row a_lea a_sli a_lef a_bst a_try a_mom a_byt a_nxt a_val p0 p1) sz) (qQi D (w_m_evening cI cZ cP mo a_now a_kep a_isk a_ref a_cw a_row a_lea a_sli a_lef a_bst a_try a_mom a_byt a_nxt a_val p0 p1) sz (fun (r : Int32) (_ : Unit) => r = sp_evening p0 p1) (fun _ => [])) 0 0 (va_A (w_m_evening cI cZ cP mo a_now a_kep a_isk a_ref a_cw a_row a_lea a_sli a_lef a_bst a_try a_mom a_byt a_nxt a_val p0 p1) sz) := by
  refine q_enter (by decide) (Nat.le_of_ble_eq_true rfl) ?_
  intro p e s m below meth c ls hX hr hlk hnm hE hK hP hD hS hA hl
  obtain ⟨hx, hb, hml, hown, ht⟩ := id hX
  have hl : lv_has ls 7 [(0, .ref mo), (1, .int p0), (2, .int p1)] := hl
  refine lv_iload_n hx hb dX7_evening_0 rfl (lv_at hl 1 rfl) ?_
  refine lv_i2l (v := (p0.toInt64)) hx hb dX7_evening_1 rfl ?_
  refine lv_lconst (v := 0) hx hb dX7_evening_2 (by decide) ?_
  refine q_l (z := ((0 : Int32).toInt64)) (by decide) ?_
  refine lv_ldc2 hx hb hown (ht _ kw_1262) dX7_evening_3 ?_
  refine q_l (z := ((999999 : Int32).toInt64)) (by decide) ?_
  refine q_Si (wr := [(mo, .inr (7, [.ref a_now, .ref a_kep, .ref a_isk, .ref a_ref, .long 0, .long 1, .int 0, .int 0, .int 0, .int 0, .ref a_cw, .ref a_row, .int 0, .ref a_lea, .ref a_sli, .ref a_lef, .ref a_bst, .ref a_try, .int 0, .ref a_mom, .ref a_byt, .int 0, .int 0, .int 0, .int 0, .int 0, .ref a_nxt, .ref a_val])), (a_now, .inl (cI, 221, .inl nw0)), (a_ref, .inl (cI, 3, .inl (fun _ => 0)))]) [] [0, 1, 2] hX hE hK hP hD hS hA hl.1 lk_X7_68 (c_m_in l D cI cZ cP sa p0 0 999999 _) rfl rfl rfl rfl (by decide) rfl rfl (Nat.le_of_ble_eq_true rfl) rfl rfl ⟨Nat.le_of_ble_eq_true rfl, Nat.le_of_ble_eq_true rfl⟩ ⟨Nat.le_of_ble_eq_true rfl, Nat.le_of_ble_eq_true rfl⟩ dX7_evening_6 (fun x_1 _ H locs h_1 hP hD hS => ?_)
  have hP : va_P D vwCl [(mo, .inr (7, [.ref a_now, .ref a_kep, .ref a_isk, .ref a_ref, .long 0, .long 1, .int 0, .int 0, .int 0, .int 0, .ref a_cw, .ref a_row, .int 0, .ref a_lea, .ref a_sli, .ref a_lef, .ref a_bst, .ref a_try, .int 0, .ref a_mom, .ref a_byt, .int 0, .int 0, .int 0, .int 0, .int 0, .ref a_nxt, .ref a_val])), (a_now, .inl (cI, 221, .inl nw0)), (a_ref, .inl (cI, 3, .inl (fun _ => 0)))] H := hP
  have hD : va_D (va_A (w_m_evening cI cZ cP mo a_now a_kep a_isk a_ref a_cw a_row a_lea a_sli a_lef a_bst a_try a_mom a_byt a_nxt a_val p0 p1) sz) [(mo, .inr (7, [.ref a_now, .ref a_kep, .ref a_isk, .ref a_ref, .long 0, .long 1, .int 0, .int 0, .int 0, .int 0, .ref a_cw, .ref a_row, .int 0, .ref a_lea, .ref a_sli, .ref a_lef, .ref a_bst, .ref a_try, .int 0, .ref a_mom, .ref a_byt, .int 0, .int 0, .int 0, .int 0, .int 0, .ref a_nxt, .ref a_val])), (a_now, .inl (cI, 221, .inl nw0)), (a_ref, .inl (cI, 3, .inl (fun _ => 0)))] := hD
  rcases Classical.em (0 ≤ p0 ∧ p0 ≤ 999999) with c_1 | c_1
  · rw [if_pos c_1] at h_1; subst h_1
    refine lv_if_eq (tgt := 24) hx hb dX7_evening_9 (by decide) (fun c_2 => absurd c_2 (by decide)) (fun _ => ?_)
    refine lv_iload_n hx hb dX7_evening_12 rfl (lv_at hl 2 rfl) ?_
    refine lv_i2l (v := (p1.toInt64)) hx hb dX7_evening_13 rfl ?_
    refine lv_lconst (v := 0) hx hb dX7_evening_14 (by decide) ?_
    refine q_l (z := ((0 : Int32).toInt64)) (by decide) ?_
    refine lv_ldc2 hx hb hown (ht _ kw_1263) dX7_evening_15 ?_
    refine q_l (z := ((100 : Int32).toInt64)) (by decide) ?_
    refine q_Si (wr := [(mo, .inr (7, [.ref a_now, .ref a_kep, .ref a_isk, .ref a_ref, .long 0, .long 1, .int 0, .int 0, .int 0, .int 0, .ref a_cw, .ref a_row, .int 0, .ref a_lea, .ref a_sli, .ref a_lef, .ref a_bst, .ref a_try, .int 0, .ref a_mom, .ref a_byt, .int 0, .int 0, .int 0, .int 0, .int 0, .ref a_nxt, .ref a_val])), (a_now, .inl (cI, 221, .inl nw0)), (a_ref, .inl (cI, 3, .inl (fun _ => 0)))]) [] [0, 1, 2] hX hE hK hP hD hS hA hl.1 lk_X7_68 (c_m_in l D cI cZ cP sa p1 0 100 _) rfl rfl rfl rfl (by decide) rfl rfl (Nat.le_of_ble_eq_true rfl) rfl rfl ⟨Nat.le_of_ble_eq_true rfl, Nat.le_of_ble_eq_true rfl⟩ ⟨Nat.le_of_ble_eq_true rfl, Nat.le_of_ble_eq_true rfl⟩ dX7_evening_18 (fun x_3 _ H locs h_3 hP hD hS => ?_)
    have hP : va_P D vwCl [(mo, .inr (7, [.ref a_now, .ref a_kep, .ref a_isk, .ref a_ref, .long 0, .long 1, .int 0, .int 0, .int 0, .int 0, .ref a_cw, .ref a_row, .int 0, .ref a_lea, .ref a_sli, .ref a_lef, .ref a_bst, .ref a_try, .int 0, .ref a_mom, .ref a_byt, .int 0, .int 0, .int 0, .int 0, .int 0, .ref a_nxt, .ref a_val])), (a_now, .inl (cI, 221, .inl nw0)), (a_ref, .inl (cI, 3, .inl (fun _ => 0)))] H := hP
    have hD : va_D (va_A (w_m_evening cI cZ cP mo a_now a_kep a_isk a_ref a_cw a_row a_lea a_sli a_lef a_bst a_try a_mom a_byt a_nxt a_val p0 p1) sz) [(mo, .inr (7, [.ref a_now, .ref a_kep, .ref a_isk, .ref a_ref, .long 0, .long 1, .int 0, .int 0, .int 0, .int 0, .ref a_cw, .ref a_row, .int 0, .ref a_lea, .ref a_sli, .ref a_lef, .ref a_bst, .ref a_try, .int 0, .ref a_mom, .ref a_byt, .int 0, .int 0, .int 0, .int 0, .int 0, .ref a_nxt, .ref a_val])), (a_now, .inl (cI, 221, .inl nw0)), (a_ref, .inl (cI, 3, .inl (fun _ => 0)))] := hD
    rcases Classical.em (0 ≤ p1 ∧ p1 ≤ 100) with c_3 | c_3
    · rw [if_pos c_3] at h_3; subst h_3
      refine lv_if_ne (tgt := 31) hx hb dX7_evening_21 (by decide) (fun _ => ?_) (fun c_4 => absurd c_4 (by decide))
      refine lv_iload_n hx hb dX7_evening_31 rfl (lv_at hl 1 rfl) ?_
      refine lv_i2l (v := (p0.toInt64)) hx hb dX7_evening_32 rfl ?_
      refine lv_lstore_n (lv' := [(3, .long (p0.toInt64)), (0, .ref mo), (1, .int p0), (2, .int p1)]) hx hb dX7_evening_33 rfl hl (by decide) rfl (fun ls hl => ?_)
      refine lv_iconst (v := 0) hx hb dX7_evening_34 (by decide) ?_
      refine lv_istore (lv' := [(5, .int 0), (3, .long (p0.toInt64)), (0, .ref mo), (1, .int p0), (2, .int p1)]) hx hb dX7_evening_35 hl (by decide) rfl (fun ls hl => ?_)
      refine lv_iload hx hb dX7_evening_37 (lv_at hl 0 rfl) ?_
      refine lv_aload_n hx hb dX7_evening_39 rfl (lv_at hl 2 rfl) ?_
      refine q_Vi (wr := [(a_ref, .inl (cI, 3, .inl (fun _ => 0)))]) [0, 1] [2] hX hE hK hP hD hS hA hl.1 lk_X7_64 (c_m_notes l D cI cZ cP sa mo a_now a_kep a_isk a_ref a_cw a_row a_lea a_sli a_lef a_bst a_try a_mom a_byt a_nxt a_val 0 1 0 0 0 0 0 0 0 0 0 0 0 _) rfl rfl rfl rfl (by decide) 0 7 rfl rfl rfl rfl (Nat.le_of_ble_eq_true rfl) rfl rfl ⟨Nat.le_of_ble_eq_true rfl, Nat.le_of_ble_eq_true rfl⟩ ⟨Nat.le_of_ble_eq_true rfl, Nat.le_of_ble_eq_true rfl⟩ dX7_evening_40 (fun x_5 _ H locs h_5 hP hD hS => ?_)
      have hP : va_P D vwCl [(a_ref, .inl (cI, 3, .inl (fun _ => 0))), (mo, .inr (7, [.ref a_now, .ref a_kep, .ref a_isk, .ref a_ref, .long 0, .long 1, .int 0, .int 0, .int 0, .int 0, .ref a_cw, .ref a_row, .int 0, .ref a_lea, .ref a_sli, .ref a_lef, .ref a_bst, .ref a_try, .int 0, .ref a_mom, .ref a_byt, .int 0, .int 0, .int 0, .int 0, .int 0, .ref a_nxt, .ref a_val])), (a_now, .inl (cI, 221, .inl nw0))] H := hP
      have hD : va_D (va_A (w_m_evening cI cZ cP mo a_now a_kep a_isk a_ref a_cw a_row a_lea a_sli a_lef a_bst a_try a_mom a_byt a_nxt a_val p0 p1) sz) [(a_ref, .inl (cI, 3, .inl (fun _ => 0))), (mo, .inr (7, [.ref a_now, .ref a_kep, .ref a_isk, .ref a_ref, .long 0, .long 1, .int 0, .int 0, .int 0, .int 0, .ref a_cw, .ref a_row, .int 0, .ref a_lea, .ref a_sli, .ref a_lef, .ref a_bst, .ref a_try, .int 0, .ref a_mom, .ref a_byt, .int 0, .int 0, .int 0, .int 0, .int 0, .ref a_nxt, .ref a_val])), (a_now, .inl (cI, 221, .inl nw0))] := hD
      subst h_5
      refine lv_icmp_ge (tgt := 142) hx hb dX7_evening_43 (by decide) (fun _ => ?_) (fun c_6 => absurd (by decide) c_6)
      refine lv_aload_n hx hb dX7_evening_142 rfl (lv_at hl 2 rfl) ?_
      refine q_Vi (wr := [(a_ref, .inl (cI, 3, .inl (fun _ => 0)))]) [1, 2] [0] hX hE hK hP hD hS hA hl.1 lk_X7_152 (c_m_clashesNow l D cI cZ cP sa mo a_now a_kep a_isk a_ref a_cw a_row a_lea a_sli a_lef a_bst a_try a_mom a_byt a_nxt a_val 0 1 0 0 0 0 0 0 0 0 0 0 0 _) rfl rfl rfl rfl (by decide) 0 7 rfl rfl rfl rfl (Nat.le_of_ble_eq_true rfl) rfl rfl ⟨Nat.le_of_ble_eq_true rfl, Nat.le_of_ble_eq_true rfl⟩ ⟨Nat.le_of_ble_eq_true rfl, Nat.le_of_ble_eq_true rfl⟩ dX7_evening_143 (fun x_7 _ H locs h_7 hP hD hS => ?_)
      have hP : va_P D vwCl [(a_ref, .inl (cI, 3, .inl (fun _ => 0))), (mo, .inr (7, [.ref a_now, .ref a_kep, .ref a_isk, .ref a_ref, .long 0, .long 1, .int 0, .int 0, .int 0, .int 0, .ref a_cw, .ref a_row, .int 0, .ref a_lea, .ref a_sli, .ref a_lef, .ref a_bst, .ref a_try, .int 0, .ref a_mom, .ref a_byt, .int 0, .int 0, .int 0, .int 0, .int 0, .ref a_nxt, .ref a_val])), (a_now, .inl (cI, 221, .inl nw0))] H := hP
      have hD : va_D (va_A (w_m_evening cI cZ cP mo a_now a_kep a_isk a_ref a_cw a_row a_lea a_sli a_lef a_bst a_try a_mom a_byt a_nxt a_val p0 p1) sz) [(a_ref, .inl (cI, 3, .inl (fun _ => 0))), (mo, .inr (7, [.ref a_now, .ref a_kep, .ref a_isk, .ref a_ref, .long 0, .long 1, .int 0, .int 0, .int 0, .int 0, .ref a_cw, .ref a_row, .int 0, .ref a_lea, .ref a_sli, .ref a_lef, .ref a_bst, .ref a_try, .int 0, .ref a_mom, .ref a_byt, .int 0, .int 0, .int 0, .int 0, .int 0, .ref a_nxt, .ref a_val])), (a_now, .inl (cI, 221, .inl nw0))] := hD
      subst h_7
      refine lv_istore (lv' := [(5, .int 0), (3, .long (p0.toInt64)), (0, .ref mo), (1, .int p0), (2, .int p1)]) hx hb dX7_evening_146 hl (by decide) rfl (fun ls hl => ?_)
      refine lv_iconst (v := 0) hx hb dX7_evening_148 (by decide) ?_
      refine lv_istore (lv' := [(6, .int 0), (5, .int 0), (3, .long (p0.toInt64)), (0, .ref mo), (1, .int p0), (2, .int p1)]) hx hb dX7_evening_149 hl (by decide) rfl (fun ls hl => ?_)
      refine lv_iload hx hb dX7_evening_151 (lv_at hl 0 rfl) ?_
      refine lv_aload_n hx hb dX7_evening_153 rfl (lv_at hl 3 rfl) ?_
      refine q_Vi (wr := [(a_ref, .inl (cI, 3, .inl (fun _ => 0)))]) [1, 2] [0] hX hE hK hP hD hS hA hl.1 lk_X7_64 (c_m_notes l D cI cZ cP sa mo a_now a_kep a_isk a_ref a_cw a_row a_lea a_sli a_lef a_bst a_try a_mom a_byt a_nxt a_val 0 1 0 0 0 0 0 0 0 0 0 0 0 _) rfl rfl rfl rfl (by decide) 0 7 rfl rfl rfl rfl (Nat.le_of_ble_eq_true rfl) rfl rfl ⟨Nat.le_of_ble_eq_true rfl, Nat.le_of_ble_eq_true rfl⟩ ⟨Nat.le_of_ble_eq_true rfl, Nat.le_of_ble_eq_true rfl⟩ dX7_evening_154 (fun x_8 _ H locs h_8 hP hD hS => ?_)
      have hP : va_P D vwCl [(a_ref, .inl (cI, 3, .inl (fun _ => 0))), (mo, .inr (7, [.ref a_now, .ref a_kep, .ref a_isk, .ref a_ref, .long 0, .long 1, .int 0, .int 0, .int 0, .int 0, .ref a_cw, .ref a_row, .int 0, .ref a_lea, .ref a_sli, .ref a_lef, .ref a_bst, .ref a_try, .int 0, .ref a_mom, .ref a_byt, .int 0, .int 0, .int 0, .int 0, .int 0, .ref a_nxt, .ref a_val])), (a_now, .inl (cI, 221, .inl nw0))] H := hP
      have hD : va_D (va_A (w_m_evening cI cZ cP mo a_now a_kep a_isk a_ref a_cw a_row a_lea a_sli a_lef a_bst a_try a_mom a_byt a_nxt a_val p0 p1) sz) [(a_ref, .inl (cI, 3, .inl (fun _ => 0))), (mo, .inr (7, [.ref a_now, .ref a_kep, .ref a_isk, .ref a_ref, .long 0, .long 1, .int 0, .int 0, .int 0, .int 0, .ref a_cw, .ref a_row, .int 0, .ref a_lea, .ref a_sli, .ref a_lef, .ref a_bst, .ref a_try, .int 0, .ref a_mom, .ref a_byt, .int 0, .int 0, .int 0, .int 0, .int 0, .ref a_nxt, .ref a_val])), (a_now, .inl (cI, 221, .inl nw0))] := hD
      subst h_8
      refine lv_icmp_ge (tgt := 188) hx hb dX7_evening_157 (by decide) (fun _ => ?_) (fun c_9 => absurd (by decide) c_9)
      refine lv_iload hx hb dX7_evening_188 (lv_at hl 1 rfl) ?_
      exact q_iret hX hr hlk () (by simp [sp_evening, c_1, c_3]) (hP.sub [] rfl) (hD.sub [] (by decide) rfl) hS dX7_evening_190
    · rw [if_neg c_3] at h_3; subst h_3
      refine lv_if_ne (tgt := 31) hx hb dX7_evening_21 (by decide) (fun c_10 => absurd (by decide) c_10) (fun _ => ?_)
      refine lv_aload_n hx hb dX7_evening_24 rfl (lv_at hl 0 rfl) ?_
      refine lv_bipush (v := (-2)) hx hb dX7_evening_25 (by decide) ?_
      refine q_Vi (wr := [(a_now, .inl (cI, 221, .inl nw0))]) [0, 2] [1] hX hE hK hP hD hS hA hl.1 lk_X7_76 (c_m_bad l D cI cZ cP sa mo a_now a_kep a_isk a_ref a_cw a_row a_lea a_sli a_lef a_bst a_try a_mom a_byt a_nxt a_val 0 1 0 0 0 0 0 0 0 0 0 0 0 (-2) _) rfl rfl rfl rfl (by decide) 0 7 rfl rfl rfl rfl (Nat.le_of_ble_eq_true rfl) rfl rfl ⟨Nat.le_of_ble_eq_true rfl, Nat.le_of_ble_eq_true rfl⟩ ⟨Nat.le_of_ble_eq_true rfl, Nat.le_of_ble_eq_true rfl⟩ dX7_evening_27 (fun x_11 _ H locs h_11 hP hD hS => ?_)
      have hP : va_P D vwCl [(a_now, .inl (cI, 221, .inl nw0))] H := hP
      have hD : va_D (va_A (w_m_evening cI cZ cP mo a_now a_kep a_isk a_ref a_cw a_row a_lea a_sli a_lef a_bst a_try a_mom a_byt a_nxt a_val p0 p1) sz) [(a_now, .inl (cI, 221, .inl nw0))] := hD
      subst h_11
      exact q_iret hX hr hlk () (by simp [sp_evening, c_1, c_3]) (hP.sub [] rfl) (hD.sub [] (by decide) rfl) hS dX7_evening_30
  · rw [if_neg c_1] at h_1; subst h_1
    refine lv_if_eq (tgt := 24) hx hb dX7_evening_9 (by decide) (fun _ => ?_) (fun c_12 => absurd (by decide) c_12)
    refine lv_aload_n hx hb dX7_evening_24 rfl (lv_at hl 0 rfl) ?_
    refine lv_bipush (v := (-2)) hx hb dX7_evening_25 (by decide) ?_
    refine q_Vi (wr := [(a_now, .inl (cI, 221, .inl nw0))]) [0, 2] [1] hX hE hK hP hD hS hA hl.1 lk_X7_76 (c_m_bad l D cI cZ cP sa mo a_now a_kep a_isk a_ref a_cw a_row a_lea a_sli a_lef a_bst a_try a_mom a_byt a_nxt a_val 0 1 0 0 0 0 0 0 0 0 0 0 0 (-2) _) rfl rfl rfl rfl (by decide) 0 7 rfl rfl rfl rfl (Nat.le_of_ble_eq_true rfl) rfl rfl ⟨Nat.le_of_ble_eq_true rfl, Nat.le_of_ble_eq_true rfl⟩ ⟨Nat.le_of_ble_eq_true rfl, Nat.le_of_ble_eq_true rfl⟩ dX7_evening_27 (fun x_13 _ H locs h_13 hP hD hS => ?_)
    have hP : va_P D vwCl [(a_now, .inl (cI, 221, .inl nw0))] H := hP
    have hD : va_D (va_A (w_m_evening cI cZ cP mo a_now a_kep a_isk a_ref a_cw a_row a_lea a_sli a_lef a_bst a_try a_mom a_byt a_nxt a_val p0 p1) sz) [(a_now, .inl (cI, 221, .inl nw0))] := hD
    subst h_13
    exact q_iret hX hr hlk () (by simp [sp_evening, c_1]) (hP.sub [] rfl) (hD.sub [] (by decide) rfl) hS dX7_evening_30
abbrev w_m_lookAt (cI cZ cP : ClassId) (mo : Nat) (a_now : Nat) (a_kep : Nat) (a_isk : Nat) (a_ref : Nat) (a_cw : Nat) (a_row : Nat) (a_lea : Nat) (a_sli : Nat) (a_lef : Nat) (a_bst : Nat) (a_try : Nat) (a_mom : Nat) (a_byt : Nat) (a_nxt : Nat) (a_val : Nat) : va_W := [(mo, .inr (7, [.ref a_now, .ref a_kep, .ref a_isk, .ref a_ref, .long 0, .long 1, .int 0, .int 0, .int 0, .int 0, .ref a_cw, .ref a_row, .int 0, .ref a_lea, .ref a_sli, .ref a_lef, .ref a_bst, .ref a_try, .int 0, .ref a_mom, .ref a_byt, .int 0, .int 0, .int 0, .int 0, .int 0, .ref a_nxt, .ref a_val]))]
set_option maxHeartbeats 4000000 in
set_option maxRecDepth 100000 in
theorem c_m_lookAt (l : Launch) (D : va_G) (cI cZ cP : ClassId) (sa : Nat → Nat) (mo : Nat) (a_now : Nat) (a_kep : Nat) (a_isk : Nat) (a_ref : Nat) (a_cw : Nat) (a_row : Nat) (a_lea : Nat) (a_sli : Nat) (a_lef : Nat) (a_bst : Nat) (a_try : Nat) (a_mom : Nat) (a_byt : Nat) (a_nxt : Nat) (a_val : Nat) (sz : Nat) : Met l yX7_lookAt (qW yX7_lookAt cX7_lookAt 5 none) ({ frames := 0, cells := 0, slots := 0, locals := 0 } : Room) (qP D (TY cI cZ cP) sa [.ref mo, .int 0] (w_m_lookAt cI cZ cP mo a_now a_kep a_isk a_ref a_cw a_row a_lea a_sli a_lef a_bst a_try a_mom a_byt a_nxt a_val) sz) (qQv D (w_m_lookAt cI cZ cP mo a_now a_kep a_isk a_ref a_cw a_row a_lea a_sli a_lef a_bst a_try a_mom a_byt a_nxt a_val) sz (fun _ : Unit => True) (fun _ => [(mo, .inr (7, [.ref a_now, .ref a_kep, .ref a_isk, .ref a_ref, .long 0, .long 1, .int 0, .int 0, .int 0, .int 0, .ref a_cw, .ref a_row, .int 0, .ref a_lea, .ref a_sli, .ref a_lef, .ref a_bst, .ref a_try, .int 0, .ref a_mom, .ref a_byt, .int 0, .int 0, .int 0, .int 0, .int 0, .ref a_nxt, .ref a_val]))])) 0 0 (va_A (w_m_lookAt cI cZ cP mo a_now a_kep a_isk a_ref a_cw a_row a_lea a_sli a_lef a_bst a_try a_mom a_byt a_nxt a_val) sz) := by
  refine q_enter (by decide) (Nat.le_of_ble_eq_true rfl) ?_
  intro p e s m below meth c ls hX hr hlk hnm hE hK hP hD hS hA hl
  obtain ⟨hx, hb, hml, hown, ht⟩ := id hX
  have hl : lv_has ls 5 [(0, .ref mo), (1, .int 0)] := hl
  refine lv_aload_n hx hb dX7_lookAt_0 rfl (lv_at hl 0 rfl) ?_
  refine lv_iload_n hx hb dX7_lookAt_1 rfl (lv_at hl 1 rfl) ?_
  refine va_put (D := D) (ci := 7) (v := .int 0) (ty := .int) (C := RX7) (T := TX7) (N := 28) hx hb ht inX7 tyX7 tyX7_ok nmX7 hown hK hP hD hS 0 rfl rfl 22 (Nat.le_of_ble_eq_true rfl) (ht _ kw_926) (fun _ h9 => h9) rfl (by decide +kernel) rfl rfl (Nat.le_of_ble_eq_true rfl) dX7_lookAt_2 (fun H locs hP hD hS => ?_)
  have hP : va_P D vwCl [(mo, .inr (7, [.ref a_now, .ref a_kep, .ref a_isk, .ref a_ref, .long 0, .long 1, .int 0, .int 0, .int 0, .int 0, .ref a_cw, .ref a_row, .int 0, .ref a_lea, .ref a_sli, .ref a_lef, .ref a_bst, .ref a_try, .int 0, .ref a_mom, .ref a_byt, .int 0, .int 0, .int 0, .int 0, .int 0, .ref a_nxt, .ref a_val]))] H := hP
  have hD : va_D (va_A (w_m_lookAt cI cZ cP mo a_now a_kep a_isk a_ref a_cw a_row a_lea a_sli a_lef a_bst a_try a_mom a_byt a_nxt a_val) sz) [(mo, .inr (7, [.ref a_now, .ref a_kep, .ref a_isk, .ref a_ref, .long 0, .long 1, .int 0, .int 0, .int 0, .int 0, .ref a_cw, .ref a_row, .int 0, .ref a_lea, .ref a_sli, .ref a_lef, .ref a_bst, .ref a_try, .int 0, .ref a_mom, .ref a_byt, .int 0, .int 0, .int 0, .int 0, .int 0, .ref a_nxt, .ref a_val]))] := hD
  refine lv_aload_n hx hb dX7_lookAt_5 rfl (lv_at hl 0 rfl) ?_
  refine va_get (D := D) (ci := 7) (v := .int 0) (C := RX7) (T := TX7) (N := 28) hx hb ht inX7 hown hK hP 0 rfl rfl 22 (Nat.le_of_ble_eq_true rfl) (ht _ kw_926) (fun _ h9 => h9) rfl dX7_lookAt_6 ?_
  refine lv_aload_n hx hb dX7_lookAt_9 rfl (lv_at hl 0 rfl) ?_
  refine va_get (D := D) (ci := 7) (v := .int 0) (C := RX7) (T := TX7) (N := 28) hx hb ht inX7 hown hK hP 0 rfl rfl 21 (Nat.le_of_ble_eq_true rfl) (ht _ kw_925) (fun _ h9 => h9) rfl dX7_lookAt_10 ?_
  refine lv_icmp_ge (tgt := 43) hx hb dX7_lookAt_13 (by decide) (fun _ => ?_) (fun c_1 => absurd (by decide) c_1)
  refine lv_aload_n hx hb dX7_lookAt_43 rfl (lv_at hl 0 rfl) ?_
  refine lv_iconst (v := 0) hx hb dX7_lookAt_44 (by decide) ?_
  refine va_put (D := D) (ci := 7) (v := .int 0) (ty := .int) (C := RX7) (T := TX7) (N := 28) hx hb ht inX7 tyX7 tyX7_ok nmX7 hown hK hP hD hS 0 rfl rfl 23 (Nat.le_of_ble_eq_true rfl) (ht _ kw_927) (fun _ h9 => h9) rfl (by decide +kernel) rfl rfl (Nat.le_of_ble_eq_true rfl) dX7_lookAt_45 (fun H locs hP hD hS => ?_)
  have hP : va_P D vwCl [(mo, .inr (7, [.ref a_now, .ref a_kep, .ref a_isk, .ref a_ref, .long 0, .long 1, .int 0, .int 0, .int 0, .int 0, .ref a_cw, .ref a_row, .int 0, .ref a_lea, .ref a_sli, .ref a_lef, .ref a_bst, .ref a_try, .int 0, .ref a_mom, .ref a_byt, .int 0, .int 0, .int 0, .int 0, .int 0, .ref a_nxt, .ref a_val]))] H := hP
  have hD : va_D (va_A (w_m_lookAt cI cZ cP mo a_now a_kep a_isk a_ref a_cw a_row a_lea a_sli a_lef a_bst a_try a_mom a_byt a_nxt a_val) sz) [(mo, .inr (7, [.ref a_now, .ref a_kep, .ref a_isk, .ref a_ref, .long 0, .long 1, .int 0, .int 0, .int 0, .int 0, .ref a_cw, .ref a_row, .int 0, .ref a_lea, .ref a_sli, .ref a_lef, .ref a_bst, .ref a_try, .int 0, .ref a_mom, .ref a_byt, .int 0, .int 0, .int 0, .int 0, .int 0, .ref a_nxt, .ref a_val]))] := hD
  refine lv_aload_n hx hb dX7_lookAt_48 rfl (lv_at hl 0 rfl) ?_
  refine lv_iconst (v := 0) hx hb dX7_lookAt_49 (by decide) ?_
  refine va_put (D := D) (ci := 7) (v := .int 0) (ty := .int) (C := RX7) (T := TX7) (N := 28) hx hb ht inX7 tyX7 tyX7_ok nmX7 hown hK hP hD hS 0 rfl rfl 24 (Nat.le_of_ble_eq_true rfl) (ht _ kw_928) (fun _ h9 => h9) rfl (by decide +kernel) rfl rfl (Nat.le_of_ble_eq_true rfl) dX7_lookAt_50 (fun H locs hP hD hS => ?_)
  have hP : va_P D vwCl [(mo, .inr (7, [.ref a_now, .ref a_kep, .ref a_isk, .ref a_ref, .long 0, .long 1, .int 0, .int 0, .int 0, .int 0, .ref a_cw, .ref a_row, .int 0, .ref a_lea, .ref a_sli, .ref a_lef, .ref a_bst, .ref a_try, .int 0, .ref a_mom, .ref a_byt, .int 0, .int 0, .int 0, .int 0, .int 0, .ref a_nxt, .ref a_val]))] H := hP
  have hD : va_D (va_A (w_m_lookAt cI cZ cP mo a_now a_kep a_isk a_ref a_cw a_row a_lea a_sli a_lef a_bst a_try a_mom a_byt a_nxt a_val) sz) [(mo, .inr (7, [.ref a_now, .ref a_kep, .ref a_isk, .ref a_ref, .long 0, .long 1, .int 0, .int 0, .int 0, .int 0, .ref a_cw, .ref a_row, .int 0, .ref a_lea, .ref a_sli, .ref a_lef, .ref a_bst, .ref a_try, .int 0, .ref a_mom, .ref a_byt, .int 0, .int 0, .int 0, .int 0, .int 0, .ref a_nxt, .ref a_val]))] := hD
  refine lv_aload_n hx hb dX7_lookAt_53 rfl (lv_at hl 0 rfl) ?_
  refine lv_iconst (v := 0) hx hb dX7_lookAt_54 (by decide) ?_
  refine va_put (D := D) (ci := 7) (v := .int 0) (ty := .int) (C := RX7) (T := TX7) (N := 28) hx hb ht inX7 tyX7 tyX7_ok nmX7 hown hK hP hD hS 0 rfl rfl 25 (Nat.le_of_ble_eq_true rfl) (ht _ kw_929) (fun _ h9 => h9) rfl (by decide +kernel) rfl rfl (Nat.le_of_ble_eq_true rfl) dX7_lookAt_55 (fun H locs hP hD hS => ?_)
  have hP : va_P D vwCl [(mo, .inr (7, [.ref a_now, .ref a_kep, .ref a_isk, .ref a_ref, .long 0, .long 1, .int 0, .int 0, .int 0, .int 0, .ref a_cw, .ref a_row, .int 0, .ref a_lea, .ref a_sli, .ref a_lef, .ref a_bst, .ref a_try, .int 0, .ref a_mom, .ref a_byt, .int 0, .int 0, .int 0, .int 0, .int 0, .ref a_nxt, .ref a_val]))] H := hP
  have hD : va_D (va_A (w_m_lookAt cI cZ cP mo a_now a_kep a_isk a_ref a_cw a_row a_lea a_sli a_lef a_bst a_try a_mom a_byt a_nxt a_val) sz) [(mo, .inr (7, [.ref a_now, .ref a_kep, .ref a_isk, .ref a_ref, .long 0, .long 1, .int 0, .int 0, .int 0, .int 0, .ref a_cw, .ref a_row, .int 0, .ref a_lea, .ref a_sli, .ref a_lef, .ref a_bst, .ref a_try, .int 0, .ref a_mom, .ref a_byt, .int 0, .int 0, .int 0, .int 0, .int 0, .ref a_nxt, .ref a_val]))] := hD
  refine lv_aload_n hx hb dX7_lookAt_58 rfl (lv_at hl 0 rfl) ?_
  refine va_get (D := D) (ci := 7) (v := .int 0) (C := RX7) (T := TX7) (N := 28) hx hb ht inX7 hown hK hP 0 rfl rfl 22 (Nat.le_of_ble_eq_true rfl) (ht _ kw_926) (fun _ h9 => h9) rfl dX7_lookAt_59 ?_
  refine lv_aload_n hx hb dX7_lookAt_62 rfl (lv_at hl 0 rfl) ?_
  refine va_get (D := D) (ci := 7) (v := .int 0) (C := RX7) (T := TX7) (N := 28) hx hb ht inX7 hown hK hP 0 rfl rfl 21 (Nat.le_of_ble_eq_true rfl) (ht _ kw_925) (fun _ h9 => h9) rfl dX7_lookAt_63 ?_
  refine lv_icmp_ne (tgt := 70) hx hb dX7_lookAt_66 (by decide) (fun c_2 => absurd (by decide) c_2) (fun _ => ?_)
  exact q_vret hX hr hlk () trivial (hP.sub [0] rfl) (hD.sub [0] (by decide) rfl) hS dX7_lookAt_69
abbrev w_m_isName (cI cZ cP : ClassId) (mo : Nat) (a_now : Nat) (a_kep : Nat) (a_isk : Nat) (a_ref : Nat) (a_cw : Nat) (a_row : Nat) (a_lea : Nat) (a_sli : Nat) (a_lef : Nat) (a_bst : Nat) (a_try : Nat) (a_mom : Nat) (a_byt : Nat) (a_nxt : Nat) (a_val : Nat) (p0 : Int32) (p1 : Int32) (p2 : Int32) (p3 : Int32) (p4 : Int32) : va_W := [(mo, .inr (7, [.ref a_now, .ref a_kep, .ref a_isk, .ref a_ref, .long 0, .long 1, .int 0, .int 0, .int 0, .int 0, .ref a_cw, .ref a_row, .int 0, .ref a_lea, .ref a_sli, .ref a_lef, .ref a_bst, .ref a_try, .int 0, .ref a_mom, .ref a_byt, .int 0, .int 0, .int 0, .int 0, .int 0, .ref a_nxt, .ref a_val]))]
set_option maxHeartbeats 4000000 in
set_option maxRecDepth 100000 in
theorem c_m_isName (l : Launch) (D : va_G) (cI cZ cP : ClassId) (sa : Nat → Nat) (mo : Nat) (a_now : Nat) (a_kep : Nat) (a_isk : Nat) (a_ref : Nat) (a_cw : Nat) (a_row : Nat) (a_lea : Nat) (a_sli : Nat) (a_lef : Nat) (a_bst : Nat) (a_try : Nat) (a_mom : Nat) (a_byt : Nat) (a_nxt : Nat) (a_val : Nat) (p0 : Int32) (p1 : Int32) (p2 : Int32) (p3 : Int32) (p4 : Int32) (sz : Nat) : Met l yX7_isName (qW yX7_isName cX7_isName 9 (some .boolean)) ({ frames := 0, cells := 0, slots := 0, locals := 0 } : Room) (qP D (TY cI cZ cP) sa [.ref mo, .int p0, .int p1, .int p2, .int p3, .int p4] (w_m_isName cI cZ cP mo a_now a_kep a_isk a_ref a_cw a_row a_lea a_sli a_lef a_bst a_try a_mom a_byt a_nxt a_val p0 p1 p2 p3 p4) sz) (qQi D (w_m_isName cI cZ cP mo a_now a_kep a_isk a_ref a_cw a_row a_lea a_sli a_lef a_bst a_try a_mom a_byt a_nxt a_val p0 p1 p2 p3 p4) sz (fun (r : Int32) (_ : Unit) => r = 0) (fun _ => [(mo, .inr (7, [.ref a_now, .ref a_kep, .ref a_isk, .ref a_ref, .long 0, .long 1, .int 0, .int 0, .int 0, .int 0, .ref a_cw, .ref a_row, .int 0, .ref a_lea, .ref a_sli, .ref a_lef, .ref a_bst, .ref a_try, .int 0, .ref a_mom, .ref a_byt, .int 0, .int 0, .int 0, .int 0, .int 0, .ref a_nxt, .ref a_val]))])) 0 0 (va_A (w_m_isName cI cZ cP mo a_now a_kep a_isk a_ref a_cw a_row a_lea a_sli a_lef a_bst a_try a_mom a_byt a_nxt a_val p0 p1 p2 p3 p4) sz) := by
  refine q_enter (by decide) (Nat.le_of_ble_eq_true rfl) ?_
  intro p e s m below meth c ls hX hr hlk hnm hE hK hP hD hS hA hl
  obtain ⟨hx, hb, hml, hown, ht⟩ := id hX
  have hl : lv_has ls 9 [(0, .ref mo), (1, .int p0), (2, .int p1), (3, .int p2), (4, .int p3), (5, .int p4)] := hl
  refine lv_iload hx hb dX7_isName_0 (lv_at hl 5 rfl) ?_
  refine lv_if_ne (tgt := 9) hx hb dX7_isName_2 (by decide) (fun c_1 => ?_) (fun c_1 => ?_)
  · refine lv_iconst (v := 5) hx hb dX7_isName_9 (by decide) ?_
    refine lv_istore (lv' := [(6, .int 5), (0, .ref mo), (1, .int p0), (2, .int p1), (3, .int p2), (4, .int p3), (5, .int p4)]) hx hb dX7_isName_10 hl (by decide) rfl (fun ls hl => ?_)
    refine lv_aload_n hx hb dX7_isName_12 rfl (lv_at hl 1 rfl) ?_
    refine va_get (D := D) (ci := 7) (v := .int 0) (C := RX7) (T := TX7) (N := 28) hx hb ht inX7 hown hK hP 0 rfl rfl 24 (Nat.le_of_ble_eq_true rfl) (ht _ kw_928) (fun _ h9 => h9) rfl dX7_isName_13 ?_
    refine lv_iconst (v := 1) hx hb dX7_isName_16 (by decide) ?_
    refine lv_icmp_ne (tgt := 33) hx hb dX7_isName_17 (by decide) (fun _ => ?_) (fun c_2 => absurd c_2 (by decide))
    refine lv_iconst (v := 0) hx hb dX7_isName_33 (by decide) ?_
    refine lv_istore (lv' := [(7, .int 0), (6, .int 5), (0, .ref mo), (1, .int p0), (2, .int p1), (3, .int p2), (4, .int p3), (5, .int p4)]) hx hb dX7_isName_34 hl (by decide) rfl (fun ls hl => ?_)
    refine lv_iconst (v := 0) hx hb dX7_isName_36 (by decide) ?_
    refine lv_istore (lv' := [(8, .int 0), (7, .int 0), (6, .int 5), (0, .ref mo), (1, .int p0), (2, .int p1), (3, .int p2), (4, .int p3), (5, .int p4)]) hx hb dX7_isName_37 hl (by decide) rfl (fun ls hl => ?_)
    refine lv_iload hx hb dX7_isName_39 (lv_at hl 0 rfl) ?_
    refine lv_iload hx hb dX7_isName_41 (lv_at hl 2 rfl) ?_
    refine lv_icmp_ge (tgt := 121) hx hb dX7_isName_43 (by decide) (fun c_3 => absurd c_3 (by decide)) (fun _ => ?_)
    refine lv_iload hx hb dX7_isName_46 (lv_at hl 1 rfl) ?_
    refine lv_if_eq (tgt := 121) hx hb dX7_isName_48 (by decide) (fun _ => ?_) (fun c_4 => absurd (by decide) c_4)
    refine lv_iload hx hb dX7_isName_121 (lv_at hl 1 rfl) ?_
    exact q_zret hX hr hlk (by decide) () rfl (hP.sub [0] rfl) (hD.sub [0] (by decide) rfl) hS dX7_isName_123
  · refine lv_iconst (v := 4) hx hb dX7_isName_5 (by decide) ?_
    refine lv_goto (tgt := 10) hx hb dX7_isName_6 (by decide) ?_
    refine lv_istore (lv' := [(6, .int 4), (0, .ref mo), (1, .int p0), (2, .int p1), (3, .int p2), (4, .int p3), (5, .int p4)]) hx hb dX7_isName_10 hl (by decide) rfl (fun ls hl => ?_)
    refine lv_aload_n hx hb dX7_isName_12 rfl (lv_at hl 1 rfl) ?_
    refine va_get (D := D) (ci := 7) (v := .int 0) (C := RX7) (T := TX7) (N := 28) hx hb ht inX7 hown hK hP 0 rfl rfl 24 (Nat.le_of_ble_eq_true rfl) (ht _ kw_928) (fun _ h9 => h9) rfl dX7_isName_13 ?_
    refine lv_iconst (v := 1) hx hb dX7_isName_16 (by decide) ?_
    refine lv_icmp_ne (tgt := 33) hx hb dX7_isName_17 (by decide) (fun _ => ?_) (fun c_5 => absurd c_5 (by decide))
    refine lv_iconst (v := 0) hx hb dX7_isName_33 (by decide) ?_
    refine lv_istore (lv' := [(7, .int 0), (6, .int 4), (0, .ref mo), (1, .int p0), (2, .int p1), (3, .int p2), (4, .int p3), (5, .int p4)]) hx hb dX7_isName_34 hl (by decide) rfl (fun ls hl => ?_)
    refine lv_iconst (v := 0) hx hb dX7_isName_36 (by decide) ?_
    refine lv_istore (lv' := [(8, .int 0), (7, .int 0), (6, .int 4), (0, .ref mo), (1, .int p0), (2, .int p1), (3, .int p2), (4, .int p3), (5, .int p4)]) hx hb dX7_isName_37 hl (by decide) rfl (fun ls hl => ?_)
    refine lv_iload hx hb dX7_isName_39 (lv_at hl 0 rfl) ?_
    refine lv_iload hx hb dX7_isName_41 (lv_at hl 2 rfl) ?_
    refine lv_icmp_ge (tgt := 121) hx hb dX7_isName_43 (by decide) (fun c_6 => absurd c_6 (by decide)) (fun _ => ?_)
    refine lv_iload hx hb dX7_isName_46 (lv_at hl 1 rfl) ?_
    refine lv_if_eq (tgt := 121) hx hb dX7_isName_48 (by decide) (fun _ => ?_) (fun c_7 => absurd (by decide) c_7)
    refine lv_iload hx hb dX7_isName_121 (lv_at hl 1 rfl) ?_
    exact q_zret hX hr hlk (by decide) () rfl (hP.sub [0] rfl) (hD.sub [0] (by decide) rfl) hS dX7_isName_123
abbrev w_m_readsFirst (cI cZ cP : ClassId) (mo : Nat) (a_now : Nat) (a_kep : Nat) (a_isk : Nat) (a_ref : Nat) (a_cw : Nat) (a_row : Nat) (a_lea : Nat) (a_sli : Nat) (a_lef : Nat) (a_bst : Nat) (a_try : Nat) (a_mom : Nat) (a_byt : Nat) (a_nxt : Nat) (a_val : Nat) : va_W := [(mo, .inr (7, [.ref a_now, .ref a_kep, .ref a_isk, .ref a_ref, .long 0, .long 1, .int 0, .int 0, .int 0, .int 0, .ref a_cw, .ref a_row, .int 0, .ref a_lea, .ref a_sli, .ref a_lef, .ref a_bst, .ref a_try, .int 0, .ref a_mom, .ref a_byt, .int 0, .int 0, .int 0, .int 0, .int 0, .ref a_nxt, .ref a_val]))]
set_option maxHeartbeats 4000000 in
set_option maxRecDepth 100000 in
theorem c_m_readsFirst (l : Launch) (D : va_G) (cI cZ cP : ClassId) (sa : Nat → Nat) (mo : Nat) (a_now : Nat) (a_kep : Nat) (a_isk : Nat) (a_ref : Nat) (a_cw : Nat) (a_row : Nat) (a_lea : Nat) (a_sli : Nat) (a_lef : Nat) (a_bst : Nat) (a_try : Nat) (a_mom : Nat) (a_byt : Nat) (a_nxt : Nat) (a_val : Nat) (sz : Nat) : Met l yX7_readsFirst (qW yX7_readsFirst cX7_readsFirst 2 (some .boolean)) ({ frames := 1, cells := 0, slots := 0, locals := 28 } : Room) (qP D (TY cI cZ cP) sa [.ref mo] (w_m_readsFirst cI cZ cP mo a_now a_kep a_isk a_ref a_cw a_row a_lea a_sli a_lef a_bst a_try a_mom a_byt a_nxt a_val) sz) (qQi D (w_m_readsFirst cI cZ cP mo a_now a_kep a_isk a_ref a_cw a_row a_lea a_sli a_lef a_bst a_try a_mom a_byt a_nxt a_val) sz (fun (r : Int32) (_ : Unit) => r = 0) (fun _ => [(mo, .inr (7, [.ref a_now, .ref a_kep, .ref a_isk, .ref a_ref, .long 0, .long 1, .int 0, .int 0, .int 0, .int 0, .ref a_cw, .ref a_row, .int 0, .ref a_lea, .ref a_sli, .ref a_lef, .ref a_bst, .ref a_try, .int 0, .ref a_mom, .ref a_byt, .int 0, .int 0, .int 0, .int 0, .int 0, .ref a_nxt, .ref a_val]))])) 0 0 (va_A (w_m_readsFirst cI cZ cP mo a_now a_kep a_isk a_ref a_cw a_row a_lea a_sli a_lef a_bst a_try a_mom a_byt a_nxt a_val) sz) := by
  refine q_enter (by decide) (Nat.le_of_ble_eq_true rfl) ?_
  intro p e s m below meth c ls hX hr hlk hnm hE hK hP hD hS hA hl
  obtain ⟨hx, hb, hml, hown, ht⟩ := id hX
  have hl : lv_has ls 2 [(0, .ref mo)] := hl
  refine lv_aload_n hx hb dX7_readsFirst_0 rfl (lv_at hl 0 rfl) ?_
  refine lv_bipush (v := 112) hx hb dX7_readsFirst_1 (by decide) ?_
  refine lv_bipush (v := 105) hx hb dX7_readsFirst_3 (by decide) ?_
  refine lv_bipush (v := 101) hx hb dX7_readsFirst_5 (by decide) ?_
  refine lv_bipush (v := 99) hx hb dX7_readsFirst_7 (by decide) ?_
  refine lv_bipush (v := 101) hx hb dX7_readsFirst_9 (by decide) ?_
  refine q_Vi (wr := []) [0] [] hX hE hK hP hD hS hA hl.1 lk_X7_306 (c_m_isName l D cI cZ cP sa mo a_now a_kep a_isk a_ref a_cw a_row a_lea a_sli a_lef a_bst a_try a_mom a_byt a_nxt a_val 112 105 101 99 101 _) rfl rfl rfl rfl (by decide) 0 7 rfl rfl rfl rfl (Nat.le_of_ble_eq_true rfl) rfl rfl ⟨Nat.le_of_ble_eq_true rfl, Nat.le_of_ble_eq_true rfl⟩ ⟨Nat.le_of_ble_eq_true rfl, Nat.le_of_ble_eq_true rfl⟩ dX7_readsFirst_11 (fun x_1 _ H locs h_1 hP hD hS => ?_)
  have hP : va_P D vwCl [(mo, .inr (7, [.ref a_now, .ref a_kep, .ref a_isk, .ref a_ref, .long 0, .long 1, .int 0, .int 0, .int 0, .int 0, .ref a_cw, .ref a_row, .int 0, .ref a_lea, .ref a_sli, .ref a_lef, .ref a_bst, .ref a_try, .int 0, .ref a_mom, .ref a_byt, .int 0, .int 0, .int 0, .int 0, .int 0, .ref a_nxt, .ref a_val]))] H := hP
  have hD : va_D (va_A (w_m_readsFirst cI cZ cP mo a_now a_kep a_isk a_ref a_cw a_row a_lea a_sli a_lef a_bst a_try a_mom a_byt a_nxt a_val) sz) [(mo, .inr (7, [.ref a_now, .ref a_kep, .ref a_isk, .ref a_ref, .long 0, .long 1, .int 0, .int 0, .int 0, .int 0, .ref a_cw, .ref a_row, .int 0, .ref a_lea, .ref a_sli, .ref a_lef, .ref a_bst, .ref a_try, .int 0, .ref a_mom, .ref a_byt, .int 0, .int 0, .int 0, .int 0, .int 0, .ref a_nxt, .ref a_val]))] := hD
  subst h_1
  refine lv_if_ne (tgt := 19) hx hb dX7_readsFirst_14 (by decide) (fun c_2 => absurd (by decide) c_2) (fun _ => ?_)
  refine lv_iconst (v := 0) hx hb dX7_readsFirst_17 (by decide) ?_
  exact q_zret hX hr hlk (by decide) () rfl (hP.sub [0] rfl) (hD.sub [0] (by decide) rfl) hS dX7_readsFirst_18
abbrev w_m_read (cI cZ cP : ClassId) (mo : Nat) (a_now : Nat) (a_kep : Nat) (a_isk : Nat) (a_ref : Nat) (a_cw : Nat) (a_row : Nat) (a_lea : Nat) (a_sli : Nat) (a_lef : Nat) (a_bst : Nat) (a_try : Nat) (a_mom : Nat) (a_byt : Nat) (a_nxt : Nat) (a_val : Nat) : va_W := [(mo, .inr (7, [.ref a_now, .ref a_kep, .ref a_isk, .ref a_ref, .long 0, .long 1, .int 0, .int 0, .int 0, .int 0, .ref a_cw, .ref a_row, .int 0, .ref a_lea, .ref a_sli, .ref a_lef, .ref a_bst, .ref a_try, .int 0, .ref a_mom, .ref a_byt, .int 0, .int 0, .int 0, .int 0, .int 0, .ref a_nxt, .ref a_val]))]
set_option maxHeartbeats 4000000 in
set_option maxRecDepth 100000 in
theorem c_m_read (l : Launch) (D : va_G) (cI cZ cP : ClassId) (sa : Nat → Nat) (mo : Nat) (a_now : Nat) (a_kep : Nat) (a_isk : Nat) (a_ref : Nat) (a_cw : Nat) (a_row : Nat) (a_lea : Nat) (a_sli : Nat) (a_lef : Nat) (a_bst : Nat) (a_try : Nat) (a_mom : Nat) (a_byt : Nat) (a_nxt : Nat) (a_val : Nat) (sz : Nat) : Met l yX7_read (qW yX7_read cX7_read 3 (some .int)) ({ frames := 2, cells := 0, slots := 0, locals := 49 } : Room) (qP D (TY cI cZ cP) sa [.ref mo] (w_m_read cI cZ cP mo a_now a_kep a_isk a_ref a_cw a_row a_lea a_sli a_lef a_bst a_try a_mom a_byt a_nxt a_val) sz) (qQi D (w_m_read cI cZ cP mo a_now a_kep a_isk a_ref a_cw a_row a_lea a_sli a_lef a_bst a_try a_mom a_byt a_nxt a_val) sz (fun (r : Int32) (_ : Unit) => r = (-10)) (fun _ => [])) 0 0 (va_A (w_m_read cI cZ cP mo a_now a_kep a_isk a_ref a_cw a_row a_lea a_sli a_lef a_bst a_try a_mom a_byt a_nxt a_val) sz) := by
  refine q_enter (by decide) (Nat.le_of_ble_eq_true rfl) ?_
  intro p e s m below meth c ls hX hr hlk hnm hE hK hP hD hS hA hl
  obtain ⟨hx, hb, hml, hown, ht⟩ := id hX
  have hl : lv_has ls 3 [(0, .ref mo)] := hl
  refine lv_aload_n hx hb dX7_read_0 rfl (lv_at hl 0 rfl) ?_
  refine lv_iconst (v := 0) hx hb dX7_read_1 (by decide) ?_
  refine q_Vv (wr := []) [0] [] hX hE hK hP hD hS hA hl.1 lk_X7_300 (c_m_lookAt l D cI cZ cP sa mo a_now a_kep a_isk a_ref a_cw a_row a_lea a_sli a_lef a_bst a_try a_mom a_byt a_nxt a_val _) rfl rfl rfl rfl (by decide) 0 7 rfl rfl rfl rfl (Nat.le_of_ble_eq_true rfl) rfl rfl ⟨Nat.le_of_ble_eq_true rfl, Nat.le_of_ble_eq_true rfl⟩ ⟨Nat.le_of_ble_eq_true rfl, Nat.le_of_ble_eq_true rfl⟩ dX7_read_2 (fun _ H locs h_1 hP hD hS => ?_)
  have hP : va_P D vwCl [(mo, .inr (7, [.ref a_now, .ref a_kep, .ref a_isk, .ref a_ref, .long 0, .long 1, .int 0, .int 0, .int 0, .int 0, .ref a_cw, .ref a_row, .int 0, .ref a_lea, .ref a_sli, .ref a_lef, .ref a_bst, .ref a_try, .int 0, .ref a_mom, .ref a_byt, .int 0, .int 0, .int 0, .int 0, .int 0, .ref a_nxt, .ref a_val]))] H := hP
  have hD : va_D (va_A (w_m_read cI cZ cP mo a_now a_kep a_isk a_ref a_cw a_row a_lea a_sli a_lef a_bst a_try a_mom a_byt a_nxt a_val) sz) [(mo, .inr (7, [.ref a_now, .ref a_kep, .ref a_isk, .ref a_ref, .long 0, .long 1, .int 0, .int 0, .int 0, .int 0, .ref a_cw, .ref a_row, .int 0, .ref a_lea, .ref a_sli, .ref a_lef, .ref a_bst, .ref a_try, .int 0, .ref a_mom, .ref a_byt, .int 0, .int 0, .int 0, .int 0, .int 0, .ref a_nxt, .ref a_val]))] := hD
  refine lv_aload_n hx hb dX7_read_5 rfl (lv_at hl 0 rfl) ?_
  refine q_Vi (wr := []) [0] [] hX hE hK hP hD hS hA hl.1 lk_X7_320 (c_m_readsFirst l D cI cZ cP sa mo a_now a_kep a_isk a_ref a_cw a_row a_lea a_sli a_lef a_bst a_try a_mom a_byt a_nxt a_val _) rfl rfl rfl rfl (by decide) 0 7 rfl rfl rfl rfl (Nat.le_of_ble_eq_true rfl) rfl rfl ⟨Nat.le_of_ble_eq_true rfl, Nat.le_of_ble_eq_true rfl⟩ ⟨Nat.le_of_ble_eq_true rfl, Nat.le_of_ble_eq_true rfl⟩ dX7_read_6 (fun x_2 _ H locs h_2 hP hD hS => ?_)
  have hP : va_P D vwCl [(mo, .inr (7, [.ref a_now, .ref a_kep, .ref a_isk, .ref a_ref, .long 0, .long 1, .int 0, .int 0, .int 0, .int 0, .ref a_cw, .ref a_row, .int 0, .ref a_lea, .ref a_sli, .ref a_lef, .ref a_bst, .ref a_try, .int 0, .ref a_mom, .ref a_byt, .int 0, .int 0, .int 0, .int 0, .int 0, .ref a_nxt, .ref a_val]))] H := hP
  have hD : va_D (va_A (w_m_read cI cZ cP mo a_now a_kep a_isk a_ref a_cw a_row a_lea a_sli a_lef a_bst a_try a_mom a_byt a_nxt a_val) sz) [(mo, .inr (7, [.ref a_now, .ref a_kep, .ref a_isk, .ref a_ref, .long 0, .long 1, .int 0, .int 0, .int 0, .int 0, .ref a_cw, .ref a_row, .int 0, .ref a_lea, .ref a_sli, .ref a_lef, .ref a_bst, .ref a_try, .int 0, .ref a_mom, .ref a_byt, .int 0, .int 0, .int 0, .int 0, .int 0, .ref a_nxt, .ref a_val]))] := hD
  subst h_2
  refine lv_if_ne (tgt := 20) hx hb dX7_read_9 (by decide) (fun c_3 => absurd (by decide) c_3) (fun _ => ?_)
  refine lv_bipush (v := (-10)) hx hb dX7_read_12 (by decide) ?_
  refine lv_aload_n hx hb dX7_read_14 rfl (lv_at hl 0 rfl) ?_
  refine va_get (D := D) (ci := 7) (v := .int 0) (C := RX7) (T := TX7) (N := 28) hx hb ht inX7 hown hK hP 0 rfl rfl 22 (Nat.le_of_ble_eq_true rfl) (ht _ kw_926) (fun _ h9 => h9) rfl dX7_read_15 ?_
  refine lv_isub hx hb dX7_read_18 ?_
  refine q_i (z := (-10)) (by decide) ?_
  exact q_iret hX hr hlk () rfl (hP.sub [] rfl) (hD.sub [] (by decide) rfl) hS dX7_read_19
abbrev w_m_from (cI cZ cP : ClassId) (mo : Nat) (a_now : Nat) (a_kep : Nat) (a_isk : Nat) (a_ref : Nat) (a_cw : Nat) (a_row : Nat) (a_lea : Nat) (a_sli : Nat) (a_lef : Nat) (a_bst : Nat) (a_try : Nat) (a_mom : Nat) (a_byt : Nat) (a_nxt : Nat) (a_val : Nat) (p0 : Int32) : va_W := [(mo, .inr (7, [.ref a_now, .ref a_kep, .ref a_isk, .ref a_ref, .long 0, .long 1, .int 0, .int 0, .int 0, .int 0, .ref a_cw, .ref a_row, .int 0, .ref a_lea, .ref a_sli, .ref a_lef, .ref a_bst, .ref a_try, .int 0, .ref a_mom, .ref a_byt, .int 0, .int 0, .int 0, .int 0, .int 0, .ref a_nxt, .ref a_val])), (a_ref, .inl (cI, 3, .inl (fun _ => 0))), (a_isk, .inl (cZ, 2, .inl (fun _ => 0)))]
set_option maxHeartbeats 4000000 in
set_option maxRecDepth 100000 in
theorem c_m_from (l : Launch) (D : va_G) (cI cZ cP : ClassId) (sa : Nat → Nat) (mo : Nat) (a_now : Nat) (a_kep : Nat) (a_isk : Nat) (a_ref : Nat) (a_cw : Nat) (a_row : Nat) (a_lea : Nat) (a_sli : Nat) (a_lef : Nat) (a_bst : Nat) (a_try : Nat) (a_mom : Nat) (a_byt : Nat) (a_nxt : Nat) (a_val : Nat) (p0 : Int32) (sz : Nat) : Met l yX7_from (qW yX7_from cX7_from 3 (some .int)) ({ frames := 1, cells := 0, slots := 0, locals := 25 } : Room) (qP D (TY cI cZ cP) sa [.ref mo, .int p0] (w_m_from cI cZ cP mo a_now a_kep a_isk a_ref a_cw a_row a_lea a_sli a_lef a_bst a_try a_mom a_byt a_nxt a_val p0) sz) (qQi D (w_m_from cI cZ cP mo a_now a_kep a_isk a_ref a_cw a_row a_lea a_sli a_lef a_bst a_try a_mom a_byt a_nxt a_val p0) sz (fun (r : Int32) (_ : Unit) => r = sp_from p0) (fun _ => [])) 0 0 (va_A (w_m_from cI cZ cP mo a_now a_kep a_isk a_ref a_cw a_row a_lea a_sli a_lef a_bst a_try a_mom a_byt a_nxt a_val p0) sz) := by
  refine q_enter (by decide) (Nat.le_of_ble_eq_true rfl) ?_
  intro p e s m below meth c ls hX hr hlk hnm hE hK hP hD hS hA hl
  obtain ⟨hx, hb, hml, hown, ht⟩ := id hX
  have hl : lv_has ls 3 [(0, .ref mo), (1, .int p0)] := hl
  refine lv_iload_n hx hb dX7_from_0 rfl (lv_at hl 1 rfl) ?_
  refine lv_i2l (v := (p0.toInt64)) hx hb dX7_from_1 rfl ?_
  refine lv_lconst (v := 0) hx hb dX7_from_2 (by decide) ?_
  refine q_l (z := ((0 : Int32).toInt64)) (by decide) ?_
  refine lv_lconst (v := 1) hx hb dX7_from_3 (by decide) ?_
  refine q_l (z := ((1 : Int32).toInt64)) (by decide) ?_
  refine q_Si (wr := [(mo, .inr (7, [.ref a_now, .ref a_kep, .ref a_isk, .ref a_ref, .long 0, .long 1, .int 0, .int 0, .int 0, .int 0, .ref a_cw, .ref a_row, .int 0, .ref a_lea, .ref a_sli, .ref a_lef, .ref a_bst, .ref a_try, .int 0, .ref a_mom, .ref a_byt, .int 0, .int 0, .int 0, .int 0, .int 0, .ref a_nxt, .ref a_val])), (a_ref, .inl (cI, 3, .inl (fun _ => 0))), (a_isk, .inl (cZ, 2, .inl (fun _ => 0)))]) [] [0, 1, 2] hX hE hK hP hD hS hA hl.1 lk_X7_68 (c_m_in l D cI cZ cP sa p0 0 1 _) rfl rfl rfl rfl (by decide) rfl rfl (Nat.le_of_ble_eq_true rfl) rfl rfl ⟨Nat.le_of_ble_eq_true rfl, Nat.le_of_ble_eq_true rfl⟩ ⟨Nat.le_of_ble_eq_true rfl, Nat.le_of_ble_eq_true rfl⟩ dX7_from_4 (fun x_1 _ H locs h_1 hP hD hS => ?_)
  have hP : va_P D vwCl [(mo, .inr (7, [.ref a_now, .ref a_kep, .ref a_isk, .ref a_ref, .long 0, .long 1, .int 0, .int 0, .int 0, .int 0, .ref a_cw, .ref a_row, .int 0, .ref a_lea, .ref a_sli, .ref a_lef, .ref a_bst, .ref a_try, .int 0, .ref a_mom, .ref a_byt, .int 0, .int 0, .int 0, .int 0, .int 0, .ref a_nxt, .ref a_val])), (a_ref, .inl (cI, 3, .inl (fun _ => 0))), (a_isk, .inl (cZ, 2, .inl (fun _ => 0)))] H := hP
  have hD : va_D (va_A (w_m_from cI cZ cP mo a_now a_kep a_isk a_ref a_cw a_row a_lea a_sli a_lef a_bst a_try a_mom a_byt a_nxt a_val p0) sz) [(mo, .inr (7, [.ref a_now, .ref a_kep, .ref a_isk, .ref a_ref, .long 0, .long 1, .int 0, .int 0, .int 0, .int 0, .ref a_cw, .ref a_row, .int 0, .ref a_lea, .ref a_sli, .ref a_lef, .ref a_bst, .ref a_try, .int 0, .ref a_mom, .ref a_byt, .int 0, .int 0, .int 0, .int 0, .int 0, .ref a_nxt, .ref a_val])), (a_ref, .inl (cI, 3, .inl (fun _ => 0))), (a_isk, .inl (cZ, 2, .inl (fun _ => 0)))] := hD
  rcases Classical.em (0 ≤ p0 ∧ p0 ≤ 1) with c_1 | c_1
  · rw [if_pos c_1] at h_1; subst h_1
    refine lv_if_ne (tgt := 17) hx hb dX7_from_7 (by decide) (fun _ => ?_) (fun c_2 => absurd c_2 (by decide))
    refine lv_aload_n hx hb dX7_from_17 rfl (lv_at hl 0 rfl) ?_
    refine va_get (D := D) (ci := 7) (v := .ref a_isk) (C := RX7) (T := TX7) (N := 28) hx hb ht inX7 hown hK hP 0 rfl rfl 2 (Nat.le_of_ble_eq_true rfl) (ht _ kw_906) (fun _ h9 => h9) rfl dX7_from_18 ?_
    refine lv_iload_n hx hb dX7_from_21 rfl (lv_at hl 1 rfl) ?_
    refine va_zald hx hb hK hP 2 1 rfl rfl (vin_le c_1 (by decide)) dX7_from_22 ?_
    refine q_i (z := 0) rfl ?_
    refine lv_if_ne (tgt := 33) hx hb dX7_from_23 (by decide) (fun c_3 => absurd (by decide) c_3) (fun _ => ?_)
    refine lv_aload_n hx hb dX7_from_26 rfl (lv_at hl 0 rfl) ?_
    refine lv_bipush (v := (-3)) hx hb dX7_from_27 (by decide) ?_
    refine q_Vi (wr := [(a_isk, .inl (cZ, 2, .inl (fun _ => 0)))]) [0, 1] [2] hX hE hK hP hD hS hA hl.1 lk_X7_155 (c_m_no l D cI cZ cP sa mo a_now a_kep a_isk a_ref a_cw a_row a_lea a_sli a_lef a_bst a_try a_mom a_byt a_nxt a_val 0 1 0 0 0 0 0 0 0 0 0 0 0 (-3) _) rfl rfl rfl rfl (by decide) 0 7 rfl rfl rfl rfl (Nat.le_of_ble_eq_true rfl) rfl rfl ⟨Nat.le_of_ble_eq_true rfl, Nat.le_of_ble_eq_true rfl⟩ ⟨Nat.le_of_ble_eq_true rfl, Nat.le_of_ble_eq_true rfl⟩ dX7_from_29 (fun x_4 _ H locs h_4 hP hD hS => ?_)
    have hP : va_P D vwCl [(a_isk, .inl (cZ, 2, .inl (fun _ => 0)))] H := hP
    have hD : va_D (va_A (w_m_from cI cZ cP mo a_now a_kep a_isk a_ref a_cw a_row a_lea a_sli a_lef a_bst a_try a_mom a_byt a_nxt a_val p0) sz) [(a_isk, .inl (cZ, 2, .inl (fun _ => 0)))] := hD
    subst h_4
    exact q_iret hX hr hlk () (by simp [sp_from, c_1]) (hP.sub [] rfl) (hD.sub [] (by decide) rfl) hS dX7_from_32
  · rw [if_neg c_1] at h_1; subst h_1
    refine lv_if_ne (tgt := 17) hx hb dX7_from_7 (by decide) (fun c_5 => absurd (by decide) c_5) (fun _ => ?_)
    refine lv_aload_n hx hb dX7_from_10 rfl (lv_at hl 0 rfl) ?_
    refine lv_bipush (v := (-2)) hx hb dX7_from_11 (by decide) ?_
    refine q_Vi (wr := [(a_isk, .inl (cZ, 2, .inl (fun _ => 0)))]) [0, 1] [2] hX hE hK hP hD hS hA hl.1 lk_X7_76 (c_m_bad l D cI cZ cP sa mo a_now a_kep a_isk a_ref a_cw a_row a_lea a_sli a_lef a_bst a_try a_mom a_byt a_nxt a_val 0 1 0 0 0 0 0 0 0 0 0 0 0 (-2) _) rfl rfl rfl rfl (by decide) 0 7 rfl rfl rfl rfl (Nat.le_of_ble_eq_true rfl) rfl rfl ⟨Nat.le_of_ble_eq_true rfl, Nat.le_of_ble_eq_true rfl⟩ ⟨Nat.le_of_ble_eq_true rfl, Nat.le_of_ble_eq_true rfl⟩ dX7_from_13 (fun x_6 _ H locs h_6 hP hD hS => ?_)
    have hP : va_P D vwCl [(a_isk, .inl (cZ, 2, .inl (fun _ => 0)))] H := hP
    have hD : va_D (va_A (w_m_from cI cZ cP mo a_now a_kep a_isk a_ref a_cw a_row a_lea a_sli a_lef a_bst a_try a_mom a_byt a_nxt a_val p0) sz) [(a_isk, .inl (cZ, 2, .inl (fun _ => 0)))] := hD
    subst h_6
    exact q_iret hX hr hlk () (by simp [sp_from, c_1]) (hP.sub [] rfl) (hD.sub [] (by decide) rfl) hS dX7_from_16
abbrev w_m_status (cI cZ cP : ClassId) (mo : Nat) (a_now : Nat) (a_kep : Nat) (a_isk : Nat) (a_ref : Nat) (a_cw : Nat) (a_row : Nat) (a_lea : Nat) (a_sli : Nat) (a_lef : Nat) (a_bst : Nat) (a_try : Nat) (a_mom : Nat) (a_byt : Nat) (a_nxt : Nat) (a_val : Nat) (p0 : Int32) : va_W := [(mo, .inr (7, [.ref a_now, .ref a_kep, .ref a_isk, .ref a_ref, .long 0, .long 1, .int 0, .int 0, .int 0, .int 0, .ref a_cw, .ref a_row, .int 0, .ref a_lea, .ref a_sli, .ref a_lef, .ref a_bst, .ref a_try, .int 0, .ref a_mom, .ref a_byt, .int 0, .int 0, .int 0, .int 0, .int 0, .ref a_nxt, .ref a_val])), (a_ref, .inl (cI, 3, .inl (fun _ => 0)))]
set_option maxHeartbeats 4000000 in
set_option maxRecDepth 100000 in
theorem c_m_status (l : Launch) (D : va_G) (cI cZ cP : ClassId) (sa : Nat → Nat) (mo : Nat) (a_now : Nat) (a_kep : Nat) (a_isk : Nat) (a_ref : Nat) (a_cw : Nat) (a_row : Nat) (a_lea : Nat) (a_sli : Nat) (a_lef : Nat) (a_bst : Nat) (a_try : Nat) (a_mom : Nat) (a_byt : Nat) (a_nxt : Nat) (a_val : Nat) (p0 : Int32) (sz : Nat) : Met l yX7_status (qW yX7_status cX7_status 2 (some .int)) ({ frames := 1, cells := 0, slots := 0, locals := 25 } : Room) (qP D (TY cI cZ cP) sa [.ref mo, .int p0] (w_m_status cI cZ cP mo a_now a_kep a_isk a_ref a_cw a_row a_lea a_sli a_lef a_bst a_try a_mom a_byt a_nxt a_val p0) sz) (qQi D (w_m_status cI cZ cP mo a_now a_kep a_isk a_ref a_cw a_row a_lea a_sli a_lef a_bst a_try a_mom a_byt a_nxt a_val p0) sz (fun (r : Int32) (_ : Unit) => r = sp_status p0) (fun _ => [])) 0 0 (va_A (w_m_status cI cZ cP mo a_now a_kep a_isk a_ref a_cw a_row a_lea a_sli a_lef a_bst a_try a_mom a_byt a_nxt a_val p0) sz) := by
  refine q_enter (by decide) (Nat.le_of_ble_eq_true rfl) ?_
  intro p e s m below meth c ls hX hr hlk hnm hE hK hP hD hS hA hl
  obtain ⟨hx, hb, hml, hown, ht⟩ := id hX
  have hl : lv_has ls 2 [(0, .ref mo), (1, .int p0)] := hl
  refine lv_iload_n hx hb dX7_status_0 rfl (lv_at hl 1 rfl) ?_
  refine lv_i2l (v := (p0.toInt64)) hx hb dX7_status_1 rfl ?_
  refine lv_lconst (v := 0) hx hb dX7_status_2 (by decide) ?_
  refine q_l (z := ((0 : Int32).toInt64)) (by decide) ?_
  refine lv_ldc2 hx hb hown (ht _ kw_1130) dX7_status_3 ?_
  refine q_l (z := ((2 : Int32).toInt64)) (by decide) ?_
  refine q_Si (wr := [(mo, .inr (7, [.ref a_now, .ref a_kep, .ref a_isk, .ref a_ref, .long 0, .long 1, .int 0, .int 0, .int 0, .int 0, .ref a_cw, .ref a_row, .int 0, .ref a_lea, .ref a_sli, .ref a_lef, .ref a_bst, .ref a_try, .int 0, .ref a_mom, .ref a_byt, .int 0, .int 0, .int 0, .int 0, .int 0, .ref a_nxt, .ref a_val])), (a_ref, .inl (cI, 3, .inl (fun _ => 0)))]) [] [0, 1] hX hE hK hP hD hS hA hl.1 lk_X7_68 (c_m_in l D cI cZ cP sa p0 0 2 _) rfl rfl rfl rfl (by decide) rfl rfl (Nat.le_of_ble_eq_true rfl) rfl rfl ⟨Nat.le_of_ble_eq_true rfl, Nat.le_of_ble_eq_true rfl⟩ ⟨Nat.le_of_ble_eq_true rfl, Nat.le_of_ble_eq_true rfl⟩ dX7_status_6 (fun x_1 _ H locs h_1 hP hD hS => ?_)
  have hP : va_P D vwCl [(mo, .inr (7, [.ref a_now, .ref a_kep, .ref a_isk, .ref a_ref, .long 0, .long 1, .int 0, .int 0, .int 0, .int 0, .ref a_cw, .ref a_row, .int 0, .ref a_lea, .ref a_sli, .ref a_lef, .ref a_bst, .ref a_try, .int 0, .ref a_mom, .ref a_byt, .int 0, .int 0, .int 0, .int 0, .int 0, .ref a_nxt, .ref a_val])), (a_ref, .inl (cI, 3, .inl (fun _ => 0)))] H := hP
  have hD : va_D (va_A (w_m_status cI cZ cP mo a_now a_kep a_isk a_ref a_cw a_row a_lea a_sli a_lef a_bst a_try a_mom a_byt a_nxt a_val p0) sz) [(mo, .inr (7, [.ref a_now, .ref a_kep, .ref a_isk, .ref a_ref, .long 0, .long 1, .int 0, .int 0, .int 0, .int 0, .ref a_cw, .ref a_row, .int 0, .ref a_lea, .ref a_sli, .ref a_lef, .ref a_bst, .ref a_try, .int 0, .ref a_mom, .ref a_byt, .int 0, .int 0, .int 0, .int 0, .int 0, .ref a_nxt, .ref a_val])), (a_ref, .inl (cI, 3, .inl (fun _ => 0)))] := hD
  rcases Classical.em (0 ≤ p0 ∧ p0 ≤ 2) with c_1 | c_1
  · rw [if_pos c_1] at h_1; subst h_1
    refine lv_if_eq (tgt := 21) hx hb dX7_status_9 (by decide) (fun c_2 => absurd c_2 (by decide)) (fun _ => ?_)
    refine lv_aload_n hx hb dX7_status_12 rfl (lv_at hl 0 rfl) ?_
    refine va_get (D := D) (ci := 7) (v := .ref a_ref) (C := RX7) (T := TX7) (N := 28) hx hb ht inX7 hown hK hP 0 rfl rfl 3 (Nat.le_of_ble_eq_true rfl) (ht _ kw_907) (fun _ h9 => h9) rfl dX7_status_13 ?_
    refine lv_iload_n hx hb dX7_status_16 rfl (lv_at hl 1 rfl) ?_
    refine va_iald hx hb hK hP 1 0 rfl rfl (vin_le c_1 (by decide)) dX7_status_17 ?_
    refine q_i (z := 0) rfl ?_
    refine lv_goto (tgt := 26) hx hb dX7_status_18 (by decide) ?_
    exact q_iret hX hr hlk () (by simp [sp_status, c_1]) (hP.sub [] rfl) (hD.sub [] (by decide) rfl) hS dX7_status_26
  · rw [if_neg c_1] at h_1; subst h_1
    refine lv_if_eq (tgt := 21) hx hb dX7_status_9 (by decide) (fun _ => ?_) (fun c_3 => absurd (by decide) c_3)
    refine lv_aload_n hx hb dX7_status_21 rfl (lv_at hl 0 rfl) ?_
    refine lv_iconst (v := (-1)) hx hb dX7_status_22 (by decide) ?_
    refine q_Vi (wr := []) [0, 1] [] hX hE hK hP hD hS hA hl.1 lk_X7_76 (c_m_bad l D cI cZ cP sa mo a_now a_kep a_isk a_ref a_cw a_row a_lea a_sli a_lef a_bst a_try a_mom a_byt a_nxt a_val 0 1 0 0 0 0 0 0 0 0 0 0 0 (-1) _) rfl rfl rfl rfl (by decide) 0 7 rfl rfl rfl rfl (Nat.le_of_ble_eq_true rfl) rfl rfl ⟨Nat.le_of_ble_eq_true rfl, Nat.le_of_ble_eq_true rfl⟩ ⟨Nat.le_of_ble_eq_true rfl, Nat.le_of_ble_eq_true rfl⟩ dX7_status_23 (fun x_4 _ H locs h_4 hP hD hS => ?_)
    have hP : va_P D vwCl [] H := hP
    have hD : va_D (va_A (w_m_status cI cZ cP mo a_now a_kep a_isk a_ref a_cw a_row a_lea a_sli a_lef a_bst a_try a_mom a_byt a_nxt a_val p0) sz) [] := hD
    subst h_4
    exact q_iret hX hr hlk () (by simp [sp_status, c_1]) (hP.sub [] rfl) (hD.sub [] (by decide) rfl) hS dX7_status_26
abbrev w_m_countedX (cI cZ cP : ClassId) (mo : Nat) (a_now : Nat) (a_kep : Nat) (a_isk : Nat) (a_ref : Nat) (a_cw : Nat) (a_row : Nat) (a_lea : Nat) (a_sli : Nat) (a_lef : Nat) (a_bst : Nat) (a_try : Nat) (a_mom : Nat) (a_byt : Nat) (a_nxt : Nat) (a_val : Nat) (p0 : Int32) : va_W := [(mo, .inr (7, [.ref a_now, .ref a_kep, .ref a_isk, .ref a_ref, .long 0, .long 1, .int 0, .int 0, .int 0, .int 0, .ref a_cw, .ref a_row, .int 0, .ref a_lea, .ref a_sli, .ref a_lef, .ref a_bst, .ref a_try, .int 0, .ref a_mom, .ref a_byt, .int 0, .int 0, .int 0, .int 0, .int 0, .ref a_nxt, .ref a_val])), (a_now, .inl (cI, 221, .inl nw0))]
set_option maxHeartbeats 4000000 in
set_option maxRecDepth 100000 in
theorem c_m_countedX (l : Launch) (D : va_G) (cI cZ cP : ClassId) (sa : Nat → Nat) (mo : Nat) (a_now : Nat) (a_kep : Nat) (a_isk : Nat) (a_ref : Nat) (a_cw : Nat) (a_row : Nat) (a_lea : Nat) (a_sli : Nat) (a_lef : Nat) (a_bst : Nat) (a_try : Nat) (a_mom : Nat) (a_byt : Nat) (a_nxt : Nat) (a_val : Nat) (p0 : Int32) (sz : Nat) : Met l yX7_counted (qW yX7_counted cX7_counted 2 (some .int)) ({ frames := 2, cells := 0, slots := 0, locals := 42 } : Room) (qP D (TY cI cZ cP) sa [.ref mo, .int p0] (w_m_countedX cI cZ cP mo a_now a_kep a_isk a_ref a_cw a_row a_lea a_sli a_lef a_bst a_try a_mom a_byt a_nxt a_val p0) sz) (qQi D (w_m_countedX cI cZ cP mo a_now a_kep a_isk a_ref a_cw a_row a_lea a_sli a_lef a_bst a_try a_mom a_byt a_nxt a_val p0) sz (fun (r : Int32) (_ : Unit) => r = if p0 = 2 then 2 else 0) (fun _ => [(mo, .inr (7, [.ref a_now, .ref a_kep, .ref a_isk, .ref a_ref, .long 0, .long 1, .int 0, .int 0, .int 0, .int 0, .ref a_cw, .ref a_row, .int 0, .ref a_lea, .ref a_sli, .ref a_lef, .ref a_bst, .ref a_try, .int 0, .ref a_mom, .ref a_byt, .int 0, .int 0, .int 0, .int 0, .int 0, .ref a_nxt, .ref a_val])), (a_now, .inl (cI, 221, .inl nw0))])) 0 0 (va_A (w_m_countedX cI cZ cP mo a_now a_kep a_isk a_ref a_cw a_row a_lea a_sli a_lef a_bst a_try a_mom a_byt a_nxt a_val p0) sz) := by
  refine q_enter (by decide) (Nat.le_of_ble_eq_true rfl) ?_
  intro p e s m below meth c ls hX hr hlk hnm hE hK hP hD hS hA hl
  obtain ⟨hx, hb, hml, hown, ht⟩ := id hX
  have hl : lv_has ls 2 [(0, .ref mo), (1, .int p0)] := hl
  refine lv_iload_n hx hb dX7_counted_0 rfl (lv_at hl 1 rfl) ?_
  rcases Classical.em (p0 = 0) with c_1 | c_1
  · refine q_i (z := 0) c_1 ?_
    refine lv_tableIn (off := 35) (tgt := 36) hx hb dX7_counted_1 (by decide) (by decide) rfl (by decide) ?_
    refine lv_aload_n hx hb dX7_counted_36 rfl (lv_at hl 0 rfl) ?_
    refine q_Vi (wr := []) [0, 1] [] hX hE hK hP hD hS hA hl.1 lk_X7_64 (c_m_notes l D cI cZ cP sa mo a_now a_kep a_isk a_ref a_cw a_row a_lea a_sli a_lef a_bst a_try a_mom a_byt a_nxt a_val 0 1 0 0 0 0 0 0 0 0 0 0 0 _) rfl rfl rfl rfl (by decide) 0 7 rfl rfl rfl rfl (Nat.le_of_ble_eq_true rfl) rfl rfl ⟨Nat.le_of_ble_eq_true rfl, Nat.le_of_ble_eq_true rfl⟩ ⟨Nat.le_of_ble_eq_true rfl, Nat.le_of_ble_eq_true rfl⟩ dX7_counted_37 (fun x_2 _ H locs h_2 hP hD hS => ?_)
    have hP : va_P D vwCl [(mo, .inr (7, [.ref a_now, .ref a_kep, .ref a_isk, .ref a_ref, .long 0, .long 1, .int 0, .int 0, .int 0, .int 0, .ref a_cw, .ref a_row, .int 0, .ref a_lea, .ref a_sli, .ref a_lef, .ref a_bst, .ref a_try, .int 0, .ref a_mom, .ref a_byt, .int 0, .int 0, .int 0, .int 0, .int 0, .ref a_nxt, .ref a_val])), (a_now, .inl (cI, 221, .inl nw0))] H := hP
    have hD : va_D (va_A (w_m_countedX cI cZ cP mo a_now a_kep a_isk a_ref a_cw a_row a_lea a_sli a_lef a_bst a_try a_mom a_byt a_nxt a_val p0) sz) [(mo, .inr (7, [.ref a_now, .ref a_kep, .ref a_isk, .ref a_ref, .long 0, .long 1, .int 0, .int 0, .int 0, .int 0, .ref a_cw, .ref a_row, .int 0, .ref a_lea, .ref a_sli, .ref a_lef, .ref a_bst, .ref a_try, .int 0, .ref a_mom, .ref a_byt, .int 0, .int 0, .int 0, .int 0, .int 0, .ref a_nxt, .ref a_val])), (a_now, .inl (cI, 221, .inl nw0))] := hD
    subst h_2
    exact q_iret hX hr hlk () (by simp [c_1]) (hP.sub [0, 1] rfl) (hD.sub [0, 1] (by decide) rfl) hS dX7_counted_40
  rcases Classical.em (p0 = 1) with c_3 | c_3
  · refine q_i (z := 1) c_3 ?_
    refine lv_tableIn (off := 40) (tgt := 41) hx hb dX7_counted_1 (by decide) (by decide) rfl (by decide) ?_
    refine lv_aload_n hx hb dX7_counted_41 rfl (lv_at hl 0 rfl) ?_
    refine q_Vi (wr := []) [0, 1] [] hX hE hK hP hD hS hA hl.1 lk_X7_326 (c_m_played l D cI cZ cP sa mo a_now a_kep a_isk a_ref a_cw a_row a_lea a_sli a_lef a_bst a_try a_mom a_byt a_nxt a_val _) rfl rfl rfl rfl (by decide) 0 7 rfl rfl rfl rfl (Nat.le_of_ble_eq_true rfl) rfl rfl ⟨Nat.le_of_ble_eq_true rfl, Nat.le_of_ble_eq_true rfl⟩ ⟨Nat.le_of_ble_eq_true rfl, Nat.le_of_ble_eq_true rfl⟩ dX7_counted_42 (fun x_4 _ H locs h_4 hP hD hS => ?_)
    have hP : va_P D vwCl [(mo, .inr (7, [.ref a_now, .ref a_kep, .ref a_isk, .ref a_ref, .long 0, .long 1, .int 0, .int 0, .int 0, .int 0, .ref a_cw, .ref a_row, .int 0, .ref a_lea, .ref a_sli, .ref a_lef, .ref a_bst, .ref a_try, .int 0, .ref a_mom, .ref a_byt, .int 0, .int 0, .int 0, .int 0, .int 0, .ref a_nxt, .ref a_val])), (a_now, .inl (cI, 221, .inl nw0))] H := hP
    have hD : va_D (va_A (w_m_countedX cI cZ cP mo a_now a_kep a_isk a_ref a_cw a_row a_lea a_sli a_lef a_bst a_try a_mom a_byt a_nxt a_val p0) sz) [(mo, .inr (7, [.ref a_now, .ref a_kep, .ref a_isk, .ref a_ref, .long 0, .long 1, .int 0, .int 0, .int 0, .int 0, .ref a_cw, .ref a_row, .int 0, .ref a_lea, .ref a_sli, .ref a_lef, .ref a_bst, .ref a_try, .int 0, .ref a_mom, .ref a_byt, .int 0, .int 0, .int 0, .int 0, .int 0, .ref a_nxt, .ref a_val])), (a_now, .inl (cI, 221, .inl nw0))] := hD
    subst h_4
    exact q_iret hX hr hlk () (by simp [c_1, c_3]) (hP.sub [0, 1] rfl) (hD.sub [0, 1] (by decide) rfl) hS dX7_counted_45
  rcases Classical.em (p0 = 2) with c_5 | c_5
  · refine q_i (z := 2) c_5 ?_
    refine lv_tableIn (off := 45) (tgt := 46) hx hb dX7_counted_1 (by decide) (by decide) rfl (by decide) ?_
    refine lv_aload_n hx hb dX7_counted_46 rfl (lv_at hl 0 rfl) ?_
    refine va_get (D := D) (ci := 7) (v := .ref a_now) (C := RX7) (T := TX7) (N := 28) hx hb ht inX7 hown hK hP 0 rfl rfl 0 (Nat.le_of_ble_eq_true rfl) (ht _ kw_904) (fun _ h9 => h9) rfl dX7_counted_47 ?_
    refine lv_iconst (v := 1) hx hb dX7_counted_50 (by decide) ?_
    refine va_iald hx hb hK hP 1 0 rfl rfl (vin (by decide)) dX7_counted_51 ?_
    refine q_i (z := 2) (by decide) ?_
    exact q_iret hX hr hlk () (by simp [c_1, c_3, c_5]) (hP.sub [0, 1] rfl) (hD.sub [0, 1] (by decide) rfl) hS dX7_counted_52
  rcases Classical.em (p0 = 3) with c_6 | c_6
  · refine q_i (z := 3) c_6 ?_
    refine lv_tableIn (off := 52) (tgt := 53) hx hb dX7_counted_1 (by decide) (by decide) rfl (by decide) ?_
    refine lv_aload_n hx hb dX7_counted_53 rfl (lv_at hl 0 rfl) ?_
    refine va_get (D := D) (ci := 7) (v := .ref a_now) (C := RX7) (T := TX7) (N := 28) hx hb ht inX7 hown hK hP 0 rfl rfl 0 (Nat.le_of_ble_eq_true rfl) (ht _ kw_904) (fun _ h9 => h9) rfl dX7_counted_54 ?_
    refine lv_iconst (v := 3) hx hb dX7_counted_57 (by decide) ?_
    refine va_iald hx hb hK hP 1 0 rfl rfl (vin (by decide)) dX7_counted_58 ?_
    refine q_i (z := 0) (by decide) ?_
    refine lv_aload_n hx hb dX7_counted_59 rfl (lv_at hl 0 rfl) ?_
    refine va_get (D := D) (ci := 7) (v := .ref a_now) (C := RX7) (T := TX7) (N := 28) hx hb ht inX7 hown hK hP 0 rfl rfl 0 (Nat.le_of_ble_eq_true rfl) (ht _ kw_904) (fun _ h9 => h9) rfl dX7_counted_60 ?_
    refine lv_iconst (v := 2) hx hb dX7_counted_63 (by decide) ?_
    refine va_iald hx hb hK hP 1 0 rfl rfl (vin (by decide)) dX7_counted_64 ?_
    refine q_i (z := 0) (by decide) ?_
    refine lv_isub hx hb dX7_counted_65 ?_
    refine q_i (z := 0) (by decide) ?_
    exact q_iret hX hr hlk () (by simp [c_1, c_3, c_5, c_6]) (hP.sub [0, 1] rfl) (hD.sub [0, 1] (by decide) rfl) hS dX7_counted_66
  rcases Classical.em (p0 = 4) with c_7 | c_7
  · refine q_i (z := 4) c_7 ?_
    refine lv_tableIn (off := 66) (tgt := 67) hx hb dX7_counted_1 (by decide) (by decide) rfl (by decide) ?_
    refine lv_aload_n hx hb dX7_counted_67 rfl (lv_at hl 0 rfl) ?_
    refine va_get (D := D) (ci := 7) (v := .ref a_now) (C := RX7) (T := TX7) (N := 28) hx hb ht inX7 hown hK hP 0 rfl rfl 0 (Nat.le_of_ble_eq_true rfl) (ht _ kw_904) (fun _ h9 => h9) rfl dX7_counted_68 ?_
    refine lv_bipush (v := 100) hx hb dX7_counted_71 (by decide) ?_
    refine va_iald hx hb hK hP 1 0 rfl rfl (vin (by decide)) dX7_counted_73 ?_
    refine q_i (z := 0) (by decide) ?_
    exact q_iret hX hr hlk () (by simp [c_1, c_3, c_5, c_6, c_7]) (hP.sub [0, 1] rfl) (hD.sub [0, 1] (by decide) rfl) hS dX7_counted_74
  refine lv_tableOut (tgt := 75) hx hb dX7_counted_1 (by have q0 := ne_toInt (v := 0) (n := 0) (by decide) c_1; have q1 := ne_toInt (v := 1) (n := 1) (by decide) c_3; have q2 := ne_toInt (v := 2) (n := 2) (by decide) c_5; have q3 := ne_toInt (v := 3) (n := 3) (by decide) c_6; have q4 := ne_toInt (v := 4) (n := 4) (by decide) c_7; omega) (by decide) ?_
  refine lv_aload_n hx hb dX7_counted_75 rfl (lv_at hl 0 rfl) ?_
  refine va_get (D := D) (ci := 7) (v := .int 0) (C := RX7) (T := TX7) (N := 28) hx hb ht inX7 hown hK hP 0 rfl rfl 21 (Nat.le_of_ble_eq_true rfl) (ht _ kw_925) (fun _ h9 => h9) rfl dX7_counted_76 ?_
  exact q_iret hX hr hlk () (by simp [c_1, c_3, c_5, c_6, c_7]) (hP.sub [0, 1] rfl) (hD.sub [0, 1] (by decide) rfl) hS dX7_counted_79
abbrev w_m_count (cI cZ cP : ClassId) (mo : Nat) (a_now : Nat) (a_kep : Nat) (a_isk : Nat) (a_ref : Nat) (a_cw : Nat) (a_row : Nat) (a_lea : Nat) (a_sli : Nat) (a_lef : Nat) (a_bst : Nat) (a_try : Nat) (a_mom : Nat) (a_byt : Nat) (a_nxt : Nat) (a_val : Nat) (p0 : Int32) : va_W := [(mo, .inr (7, [.ref a_now, .ref a_kep, .ref a_isk, .ref a_ref, .long 0, .long 1, .int 0, .int 0, .int 0, .int 0, .ref a_cw, .ref a_row, .int 0, .ref a_lea, .ref a_sli, .ref a_lef, .ref a_bst, .ref a_try, .int 0, .ref a_mom, .ref a_byt, .int 0, .int 0, .int 0, .int 0, .int 0, .ref a_nxt, .ref a_val])), (a_now, .inl (cI, 221, .inl nw0)), (a_ref, .inl (cI, 3, .inl (fun _ => 0)))]
set_option maxHeartbeats 4000000 in
set_option maxRecDepth 100000 in
theorem c_m_count (l : Launch) (D : va_G) (cI cZ cP : ClassId) (sa : Nat → Nat) (mo : Nat) (a_now : Nat) (a_kep : Nat) (a_isk : Nat) (a_ref : Nat) (a_cw : Nat) (a_row : Nat) (a_lea : Nat) (a_sli : Nat) (a_lef : Nat) (a_bst : Nat) (a_try : Nat) (a_mom : Nat) (a_byt : Nat) (a_nxt : Nat) (a_val : Nat) (p0 : Int32) (sz : Nat) : Met l yX7_count (qW yX7_count cX7_count 2 (some .int)) ({ frames := 3, cells := 0, slots := 0, locals := 63 } : Room) (qP D (TY cI cZ cP) sa [.ref mo, .int p0] (w_m_count cI cZ cP mo a_now a_kep a_isk a_ref a_cw a_row a_lea a_sli a_lef a_bst a_try a_mom a_byt a_nxt a_val p0) sz) (qQi D (w_m_count cI cZ cP mo a_now a_kep a_isk a_ref a_cw a_row a_lea a_sli a_lef a_bst a_try a_mom a_byt a_nxt a_val p0) sz (fun (r : Int32) (_ : Unit) => r = sp_count p0) (fun _ => [])) 0 0 (va_A (w_m_count cI cZ cP mo a_now a_kep a_isk a_ref a_cw a_row a_lea a_sli a_lef a_bst a_try a_mom a_byt a_nxt a_val p0) sz) := by
  refine q_enter (by decide) (Nat.le_of_ble_eq_true rfl) ?_
  intro p e s m below meth c ls hX hr hlk hnm hE hK hP hD hS hA hl
  obtain ⟨hx, hb, hml, hown, ht⟩ := id hX
  have hl : lv_has ls 2 [(0, .ref mo), (1, .int p0)] := hl
  refine lv_iload_n hx hb dX7_count_0 rfl (lv_at hl 1 rfl) ?_
  refine lv_i2l (v := (p0.toInt64)) hx hb dX7_count_1 rfl ?_
  refine lv_lconst (v := 0) hx hb dX7_count_2 (by decide) ?_
  refine q_l (z := ((0 : Int32).toInt64)) (by decide) ?_
  refine lv_ldc2 hx hb hown (ht _ kw_1014) dX7_count_3 ?_
  refine q_l (z := ((5 : Int32).toInt64)) (by decide) ?_
  refine q_Si (wr := [(mo, .inr (7, [.ref a_now, .ref a_kep, .ref a_isk, .ref a_ref, .long 0, .long 1, .int 0, .int 0, .int 0, .int 0, .ref a_cw, .ref a_row, .int 0, .ref a_lea, .ref a_sli, .ref a_lef, .ref a_bst, .ref a_try, .int 0, .ref a_mom, .ref a_byt, .int 0, .int 0, .int 0, .int 0, .int 0, .ref a_nxt, .ref a_val])), (a_now, .inl (cI, 221, .inl nw0)), (a_ref, .inl (cI, 3, .inl (fun _ => 0)))]) [] [0, 1, 2] hX hE hK hP hD hS hA hl.1 lk_X7_68 (c_m_in l D cI cZ cP sa p0 0 5 _) rfl rfl rfl rfl (by decide) rfl rfl (Nat.le_of_ble_eq_true rfl) rfl rfl ⟨Nat.le_of_ble_eq_true rfl, Nat.le_of_ble_eq_true rfl⟩ ⟨Nat.le_of_ble_eq_true rfl, Nat.le_of_ble_eq_true rfl⟩ dX7_count_6 (fun x_1 _ H locs h_1 hP hD hS => ?_)
  have hP : va_P D vwCl [(mo, .inr (7, [.ref a_now, .ref a_kep, .ref a_isk, .ref a_ref, .long 0, .long 1, .int 0, .int 0, .int 0, .int 0, .ref a_cw, .ref a_row, .int 0, .ref a_lea, .ref a_sli, .ref a_lef, .ref a_bst, .ref a_try, .int 0, .ref a_mom, .ref a_byt, .int 0, .int 0, .int 0, .int 0, .int 0, .ref a_nxt, .ref a_val])), (a_now, .inl (cI, 221, .inl nw0)), (a_ref, .inl (cI, 3, .inl (fun _ => 0)))] H := hP
  have hD : va_D (va_A (w_m_count cI cZ cP mo a_now a_kep a_isk a_ref a_cw a_row a_lea a_sli a_lef a_bst a_try a_mom a_byt a_nxt a_val p0) sz) [(mo, .inr (7, [.ref a_now, .ref a_kep, .ref a_isk, .ref a_ref, .long 0, .long 1, .int 0, .int 0, .int 0, .int 0, .ref a_cw, .ref a_row, .int 0, .ref a_lea, .ref a_sli, .ref a_lef, .ref a_bst, .ref a_try, .int 0, .ref a_mom, .ref a_byt, .int 0, .int 0, .int 0, .int 0, .int 0, .ref a_nxt, .ref a_val])), (a_now, .inl (cI, 221, .inl nw0)), (a_ref, .inl (cI, 3, .inl (fun _ => 0)))] := hD
  rcases Classical.em (0 ≤ p0 ∧ p0 ≤ 5) with c_1 | c_1
  · rw [if_pos c_1] at h_1; subst h_1
    refine lv_if_eq (tgt := 20) hx hb dX7_count_9 (by decide) (fun c_2 => absurd c_2 (by decide)) (fun _ => ?_)
    refine lv_aload_n hx hb dX7_count_12 rfl (lv_at hl 0 rfl) ?_
    refine lv_iload_n hx hb dX7_count_13 rfl (lv_at hl 1 rfl) ?_
    refine q_Vi (wr := [(a_ref, .inl (cI, 3, .inl (fun _ => 0)))]) [0, 1] [2] hX hE hK hP hD hS hA hl.1 lk_X7_329 (c_m_countedX l D cI cZ cP sa mo a_now a_kep a_isk a_ref a_cw a_row a_lea a_sli a_lef a_bst a_try a_mom a_byt a_nxt a_val p0 _) rfl rfl rfl rfl (by decide) 0 7 rfl rfl rfl rfl (Nat.le_of_ble_eq_true rfl) rfl rfl ⟨Nat.le_of_ble_eq_true rfl, Nat.le_of_ble_eq_true rfl⟩ ⟨Nat.le_of_ble_eq_true rfl, Nat.le_of_ble_eq_true rfl⟩ dX7_count_14 (fun x_3 _ H locs h_3 hP hD hS => ?_)
    have hP : va_P D vwCl [(a_ref, .inl (cI, 3, .inl (fun _ => 0))), (mo, .inr (7, [.ref a_now, .ref a_kep, .ref a_isk, .ref a_ref, .long 0, .long 1, .int 0, .int 0, .int 0, .int 0, .ref a_cw, .ref a_row, .int 0, .ref a_lea, .ref a_sli, .ref a_lef, .ref a_bst, .ref a_try, .int 0, .ref a_mom, .ref a_byt, .int 0, .int 0, .int 0, .int 0, .int 0, .ref a_nxt, .ref a_val])), (a_now, .inl (cI, 221, .inl nw0))] H := hP
    have hD : va_D (va_A (w_m_count cI cZ cP mo a_now a_kep a_isk a_ref a_cw a_row a_lea a_sli a_lef a_bst a_try a_mom a_byt a_nxt a_val p0) sz) [(a_ref, .inl (cI, 3, .inl (fun _ => 0))), (mo, .inr (7, [.ref a_now, .ref a_kep, .ref a_isk, .ref a_ref, .long 0, .long 1, .int 0, .int 0, .int 0, .int 0, .ref a_cw, .ref a_row, .int 0, .ref a_lea, .ref a_sli, .ref a_lef, .ref a_bst, .ref a_try, .int 0, .ref a_mom, .ref a_byt, .int 0, .int 0, .int 0, .int 0, .int 0, .ref a_nxt, .ref a_val])), (a_now, .inl (cI, 221, .inl nw0))] := hD
    subst h_3
    refine lv_goto (tgt := 26) hx hb dX7_count_17 (by decide) ?_
    exact q_iret hX hr hlk () (by simp [sp_count, c_1]) (hP.sub [] rfl) (hD.sub [] (by decide) rfl) hS dX7_count_26
  · rw [if_neg c_1] at h_1; subst h_1
    refine lv_if_eq (tgt := 20) hx hb dX7_count_9 (by decide) (fun _ => ?_) (fun c_4 => absurd (by decide) c_4)
    refine lv_aload_n hx hb dX7_count_20 rfl (lv_at hl 0 rfl) ?_
    refine lv_bipush (v := (-2)) hx hb dX7_count_21 (by decide) ?_
    refine q_Vi (wr := [(a_now, .inl (cI, 221, .inl nw0))]) [0, 2] [1] hX hE hK hP hD hS hA hl.1 lk_X7_76 (c_m_bad l D cI cZ cP sa mo a_now a_kep a_isk a_ref a_cw a_row a_lea a_sli a_lef a_bst a_try a_mom a_byt a_nxt a_val 0 1 0 0 0 0 0 0 0 0 0 0 0 (-2) _) rfl rfl rfl rfl (by decide) 0 7 rfl rfl rfl rfl (Nat.le_of_ble_eq_true rfl) rfl rfl ⟨Nat.le_of_ble_eq_true rfl, Nat.le_of_ble_eq_true rfl⟩ ⟨Nat.le_of_ble_eq_true rfl, Nat.le_of_ble_eq_true rfl⟩ dX7_count_23 (fun x_5 _ H locs h_5 hP hD hS => ?_)
    have hP : va_P D vwCl [(a_now, .inl (cI, 221, .inl nw0))] H := hP
    have hD : va_D (va_A (w_m_count cI cZ cP mo a_now a_kep a_isk a_ref a_cw a_row a_lea a_sli a_lef a_bst a_try a_mom a_byt a_nxt a_val p0) sz) [(a_now, .inl (cI, 221, .inl nw0))] := hD
    subst h_5
    exact q_iret hX hr hlk () (by simp [sp_count, c_1]) (hP.sub [] rfl) (hD.sub [] (by decide) rfl) hS dX7_count_26
abbrev w_m_counted0 (cI cZ cP : ClassId) (mo : Nat) (a_now : Nat) (a_kep : Nat) (a_isk : Nat) (a_ref : Nat) (a_cw : Nat) (a_row : Nat) (a_lea : Nat) (a_sli : Nat) (a_lef : Nat) (a_bst : Nat) (a_try : Nat) (a_mom : Nat) (a_byt : Nat) (a_nxt : Nat) (a_val : Nat) : va_W := [(mo, .inr (7, [.ref a_now, .ref a_kep, .ref a_isk, .ref a_ref, .long 0, .long 1, .int 0, .int 0, .int 0, .int 0, .ref a_cw, .ref a_row, .int 0, .ref a_lea, .ref a_sli, .ref a_lef, .ref a_bst, .ref a_try, .int 0, .ref a_mom, .ref a_byt, .int 0, .int 0, .int 0, .int 0, .int 0, .ref a_nxt, .ref a_val])), (a_now, .inl (cI, 221, .inl nw0))]
set_option maxHeartbeats 4000000 in
set_option maxRecDepth 100000 in
theorem c_m_counted0 (l : Launch) (D : va_G) (cI cZ cP : ClassId) (sa : Nat → Nat) (mo : Nat) (a_now : Nat) (a_kep : Nat) (a_isk : Nat) (a_ref : Nat) (a_cw : Nat) (a_row : Nat) (a_lea : Nat) (a_sli : Nat) (a_lef : Nat) (a_bst : Nat) (a_try : Nat) (a_mom : Nat) (a_byt : Nat) (a_nxt : Nat) (a_val : Nat) (sz : Nat) : Met l yX7_counted (qW yX7_counted cX7_counted 2 (some .int)) ({ frames := 1, cells := 0, slots := 0, locals := 20 } : Room) (qP D (TY cI cZ cP) sa [.ref mo, .int 0] (w_m_counted0 cI cZ cP mo a_now a_kep a_isk a_ref a_cw a_row a_lea a_sli a_lef a_bst a_try a_mom a_byt a_nxt a_val) sz) (qQi D (w_m_counted0 cI cZ cP mo a_now a_kep a_isk a_ref a_cw a_row a_lea a_sli a_lef a_bst a_try a_mom a_byt a_nxt a_val) sz (fun (r : Int32) (_ : Unit) => r = 0) (fun _ => [(mo, .inr (7, [.ref a_now, .ref a_kep, .ref a_isk, .ref a_ref, .long 0, .long 1, .int 0, .int 0, .int 0, .int 0, .ref a_cw, .ref a_row, .int 0, .ref a_lea, .ref a_sli, .ref a_lef, .ref a_bst, .ref a_try, .int 0, .ref a_mom, .ref a_byt, .int 0, .int 0, .int 0, .int 0, .int 0, .ref a_nxt, .ref a_val])), (a_now, .inl (cI, 221, .inl nw0))])) 0 0 (va_A (w_m_counted0 cI cZ cP mo a_now a_kep a_isk a_ref a_cw a_row a_lea a_sli a_lef a_bst a_try a_mom a_byt a_nxt a_val) sz) := by
  refine q_enter (by decide) (Nat.le_of_ble_eq_true rfl) ?_
  intro p e s m below meth c ls hX hr hlk hnm hE hK hP hD hS hA hl
  obtain ⟨hx, hb, hml, hown, ht⟩ := id hX
  have hl : lv_has ls 2 [(0, .ref mo), (1, .int 0)] := hl
  refine lv_iload_n hx hb dX7_counted_0 rfl (lv_at hl 1 rfl) ?_
  refine lv_tableIn (off := 35) (tgt := 36) hx hb dX7_counted_1 (by decide) (by decide) rfl (by decide) ?_
  refine lv_aload_n hx hb dX7_counted_36 rfl (lv_at hl 0 rfl) ?_
  refine q_Vi (wr := []) [0, 1] [] hX hE hK hP hD hS hA hl.1 lk_X7_64 (c_m_notes l D cI cZ cP sa mo a_now a_kep a_isk a_ref a_cw a_row a_lea a_sli a_lef a_bst a_try a_mom a_byt a_nxt a_val 0 1 0 0 0 0 0 0 0 0 0 0 0 _) rfl rfl rfl rfl (by decide) 0 7 rfl rfl rfl rfl (Nat.le_of_ble_eq_true rfl) rfl rfl ⟨Nat.le_of_ble_eq_true rfl, Nat.le_of_ble_eq_true rfl⟩ ⟨Nat.le_of_ble_eq_true rfl, Nat.le_of_ble_eq_true rfl⟩ dX7_counted_37 (fun x_1 _ H locs h_1 hP hD hS => ?_)
  have hP : va_P D vwCl [(mo, .inr (7, [.ref a_now, .ref a_kep, .ref a_isk, .ref a_ref, .long 0, .long 1, .int 0, .int 0, .int 0, .int 0, .ref a_cw, .ref a_row, .int 0, .ref a_lea, .ref a_sli, .ref a_lef, .ref a_bst, .ref a_try, .int 0, .ref a_mom, .ref a_byt, .int 0, .int 0, .int 0, .int 0, .int 0, .ref a_nxt, .ref a_val])), (a_now, .inl (cI, 221, .inl nw0))] H := hP
  have hD : va_D (va_A (w_m_counted0 cI cZ cP mo a_now a_kep a_isk a_ref a_cw a_row a_lea a_sli a_lef a_bst a_try a_mom a_byt a_nxt a_val) sz) [(mo, .inr (7, [.ref a_now, .ref a_kep, .ref a_isk, .ref a_ref, .long 0, .long 1, .int 0, .int 0, .int 0, .int 0, .ref a_cw, .ref a_row, .int 0, .ref a_lea, .ref a_sli, .ref a_lef, .ref a_bst, .ref a_try, .int 0, .ref a_mom, .ref a_byt, .int 0, .int 0, .int 0, .int 0, .int 0, .ref a_nxt, .ref a_val])), (a_now, .inl (cI, 221, .inl nw0))] := hD
  subst h_1
  exact q_iret hX hr hlk () rfl (hP.sub [0, 1] rfl) (hD.sub [0, 1] (by decide) rfl) hS dX7_counted_40
abbrev w_m_counted1 (cI cZ cP : ClassId) (mo : Nat) (a_now : Nat) (a_kep : Nat) (a_isk : Nat) (a_ref : Nat) (a_cw : Nat) (a_row : Nat) (a_lea : Nat) (a_sli : Nat) (a_lef : Nat) (a_bst : Nat) (a_try : Nat) (a_mom : Nat) (a_byt : Nat) (a_nxt : Nat) (a_val : Nat) : va_W := [(mo, .inr (7, [.ref a_now, .ref a_kep, .ref a_isk, .ref a_ref, .long 0, .long 1, .int 0, .int 0, .int 0, .int 0, .ref a_cw, .ref a_row, .int 0, .ref a_lea, .ref a_sli, .ref a_lef, .ref a_bst, .ref a_try, .int 0, .ref a_mom, .ref a_byt, .int 0, .int 0, .int 0, .int 0, .int 0, .ref a_nxt, .ref a_val])), (a_now, .inl (cI, 221, .inl nw0))]
set_option maxHeartbeats 4000000 in
set_option maxRecDepth 100000 in
theorem c_m_counted1 (l : Launch) (D : va_G) (cI cZ cP : ClassId) (sa : Nat → Nat) (mo : Nat) (a_now : Nat) (a_kep : Nat) (a_isk : Nat) (a_ref : Nat) (a_cw : Nat) (a_row : Nat) (a_lea : Nat) (a_sli : Nat) (a_lef : Nat) (a_bst : Nat) (a_try : Nat) (a_mom : Nat) (a_byt : Nat) (a_nxt : Nat) (a_val : Nat) (sz : Nat) : Met l yX7_counted (qW yX7_counted cX7_counted 2 (some .int)) ({ frames := 2, cells := 0, slots := 0, locals := 42 } : Room) (qP D (TY cI cZ cP) sa [.ref mo, .int 1] (w_m_counted1 cI cZ cP mo a_now a_kep a_isk a_ref a_cw a_row a_lea a_sli a_lef a_bst a_try a_mom a_byt a_nxt a_val) sz) (qQi D (w_m_counted1 cI cZ cP mo a_now a_kep a_isk a_ref a_cw a_row a_lea a_sli a_lef a_bst a_try a_mom a_byt a_nxt a_val) sz (fun (r : Int32) (_ : Unit) => r = 0) (fun _ => [(mo, .inr (7, [.ref a_now, .ref a_kep, .ref a_isk, .ref a_ref, .long 0, .long 1, .int 0, .int 0, .int 0, .int 0, .ref a_cw, .ref a_row, .int 0, .ref a_lea, .ref a_sli, .ref a_lef, .ref a_bst, .ref a_try, .int 0, .ref a_mom, .ref a_byt, .int 0, .int 0, .int 0, .int 0, .int 0, .ref a_nxt, .ref a_val])), (a_now, .inl (cI, 221, .inl nw0))])) 0 0 (va_A (w_m_counted1 cI cZ cP mo a_now a_kep a_isk a_ref a_cw a_row a_lea a_sli a_lef a_bst a_try a_mom a_byt a_nxt a_val) sz) := by
  refine q_enter (by decide) (Nat.le_of_ble_eq_true rfl) ?_
  intro p e s m below meth c ls hX hr hlk hnm hE hK hP hD hS hA hl
  obtain ⟨hx, hb, hml, hown, ht⟩ := id hX
  have hl : lv_has ls 2 [(0, .ref mo), (1, .int 1)] := hl
  refine lv_iload_n hx hb dX7_counted_0 rfl (lv_at hl 1 rfl) ?_
  refine lv_tableIn (off := 40) (tgt := 41) hx hb dX7_counted_1 (by decide) (by decide) rfl (by decide) ?_
  refine lv_aload_n hx hb dX7_counted_41 rfl (lv_at hl 0 rfl) ?_
  refine q_Vi (wr := []) [0, 1] [] hX hE hK hP hD hS hA hl.1 lk_X7_326 (c_m_played l D cI cZ cP sa mo a_now a_kep a_isk a_ref a_cw a_row a_lea a_sli a_lef a_bst a_try a_mom a_byt a_nxt a_val _) rfl rfl rfl rfl (by decide) 0 7 rfl rfl rfl rfl (Nat.le_of_ble_eq_true rfl) rfl rfl ⟨Nat.le_of_ble_eq_true rfl, Nat.le_of_ble_eq_true rfl⟩ ⟨Nat.le_of_ble_eq_true rfl, Nat.le_of_ble_eq_true rfl⟩ dX7_counted_42 (fun x_1 _ H locs h_1 hP hD hS => ?_)
  have hP : va_P D vwCl [(mo, .inr (7, [.ref a_now, .ref a_kep, .ref a_isk, .ref a_ref, .long 0, .long 1, .int 0, .int 0, .int 0, .int 0, .ref a_cw, .ref a_row, .int 0, .ref a_lea, .ref a_sli, .ref a_lef, .ref a_bst, .ref a_try, .int 0, .ref a_mom, .ref a_byt, .int 0, .int 0, .int 0, .int 0, .int 0, .ref a_nxt, .ref a_val])), (a_now, .inl (cI, 221, .inl nw0))] H := hP
  have hD : va_D (va_A (w_m_counted1 cI cZ cP mo a_now a_kep a_isk a_ref a_cw a_row a_lea a_sli a_lef a_bst a_try a_mom a_byt a_nxt a_val) sz) [(mo, .inr (7, [.ref a_now, .ref a_kep, .ref a_isk, .ref a_ref, .long 0, .long 1, .int 0, .int 0, .int 0, .int 0, .ref a_cw, .ref a_row, .int 0, .ref a_lea, .ref a_sli, .ref a_lef, .ref a_bst, .ref a_try, .int 0, .ref a_mom, .ref a_byt, .int 0, .int 0, .int 0, .int 0, .int 0, .ref a_nxt, .ref a_val])), (a_now, .inl (cI, 221, .inl nw0))] := hD
  subst h_1
  exact q_iret hX hr hlk () rfl (hP.sub [0, 1] rfl) (hD.sub [0, 1] (by decide) rfl) hS dX7_counted_45
abbrev w_m_counted2 (cI cZ cP : ClassId) (mo : Nat) (a_now : Nat) (a_kep : Nat) (a_isk : Nat) (a_ref : Nat) (a_cw : Nat) (a_row : Nat) (a_lea : Nat) (a_sli : Nat) (a_lef : Nat) (a_bst : Nat) (a_try : Nat) (a_mom : Nat) (a_byt : Nat) (a_nxt : Nat) (a_val : Nat) : va_W := [(mo, .inr (7, [.ref a_now, .ref a_kep, .ref a_isk, .ref a_ref, .long 0, .long 1, .int 0, .int 0, .int 0, .int 0, .ref a_cw, .ref a_row, .int 0, .ref a_lea, .ref a_sli, .ref a_lef, .ref a_bst, .ref a_try, .int 0, .ref a_mom, .ref a_byt, .int 0, .int 0, .int 0, .int 0, .int 0, .ref a_nxt, .ref a_val])), (a_now, .inl (cI, 221, .inl nw0))]
set_option maxHeartbeats 4000000 in
set_option maxRecDepth 100000 in
theorem c_m_counted2 (l : Launch) (D : va_G) (cI cZ cP : ClassId) (sa : Nat → Nat) (mo : Nat) (a_now : Nat) (a_kep : Nat) (a_isk : Nat) (a_ref : Nat) (a_cw : Nat) (a_row : Nat) (a_lea : Nat) (a_sli : Nat) (a_lef : Nat) (a_bst : Nat) (a_try : Nat) (a_mom : Nat) (a_byt : Nat) (a_nxt : Nat) (a_val : Nat) (sz : Nat) : Met l yX7_counted (qW yX7_counted cX7_counted 2 (some .int)) ({ frames := 0, cells := 0, slots := 0, locals := 0 } : Room) (qP D (TY cI cZ cP) sa [.ref mo, .int 2] (w_m_counted2 cI cZ cP mo a_now a_kep a_isk a_ref a_cw a_row a_lea a_sli a_lef a_bst a_try a_mom a_byt a_nxt a_val) sz) (qQi D (w_m_counted2 cI cZ cP mo a_now a_kep a_isk a_ref a_cw a_row a_lea a_sli a_lef a_bst a_try a_mom a_byt a_nxt a_val) sz (fun (r : Int32) (_ : Unit) => r = 2) (fun _ => [(mo, .inr (7, [.ref a_now, .ref a_kep, .ref a_isk, .ref a_ref, .long 0, .long 1, .int 0, .int 0, .int 0, .int 0, .ref a_cw, .ref a_row, .int 0, .ref a_lea, .ref a_sli, .ref a_lef, .ref a_bst, .ref a_try, .int 0, .ref a_mom, .ref a_byt, .int 0, .int 0, .int 0, .int 0, .int 0, .ref a_nxt, .ref a_val])), (a_now, .inl (cI, 221, .inl nw0))])) 0 0 (va_A (w_m_counted2 cI cZ cP mo a_now a_kep a_isk a_ref a_cw a_row a_lea a_sli a_lef a_bst a_try a_mom a_byt a_nxt a_val) sz) := by
  refine q_enter (by decide) (Nat.le_of_ble_eq_true rfl) ?_
  intro p e s m below meth c ls hX hr hlk hnm hE hK hP hD hS hA hl
  obtain ⟨hx, hb, hml, hown, ht⟩ := id hX
  have hl : lv_has ls 2 [(0, .ref mo), (1, .int 2)] := hl
  refine lv_iload_n hx hb dX7_counted_0 rfl (lv_at hl 1 rfl) ?_
  refine lv_tableIn (off := 45) (tgt := 46) hx hb dX7_counted_1 (by decide) (by decide) rfl (by decide) ?_
  refine lv_aload_n hx hb dX7_counted_46 rfl (lv_at hl 0 rfl) ?_
  refine va_get (D := D) (ci := 7) (v := .ref a_now) (C := RX7) (T := TX7) (N := 28) hx hb ht inX7 hown hK hP 0 rfl rfl 0 (Nat.le_of_ble_eq_true rfl) (ht _ kw_904) (fun _ h9 => h9) rfl dX7_counted_47 ?_
  refine lv_iconst (v := 1) hx hb dX7_counted_50 (by decide) ?_
  refine va_iald hx hb hK hP 1 0 rfl rfl (vin (by decide)) dX7_counted_51 ?_
  refine q_i (z := 2) (by decide) ?_
  exact q_iret hX hr hlk () rfl (hP.sub [0, 1] rfl) (hD.sub [0, 1] (by decide) rfl) hS dX7_counted_52
abbrev w_m_counted3 (cI cZ cP : ClassId) (mo : Nat) (a_now : Nat) (a_kep : Nat) (a_isk : Nat) (a_ref : Nat) (a_cw : Nat) (a_row : Nat) (a_lea : Nat) (a_sli : Nat) (a_lef : Nat) (a_bst : Nat) (a_try : Nat) (a_mom : Nat) (a_byt : Nat) (a_nxt : Nat) (a_val : Nat) : va_W := [(mo, .inr (7, [.ref a_now, .ref a_kep, .ref a_isk, .ref a_ref, .long 0, .long 1, .int 0, .int 0, .int 0, .int 0, .ref a_cw, .ref a_row, .int 0, .ref a_lea, .ref a_sli, .ref a_lef, .ref a_bst, .ref a_try, .int 0, .ref a_mom, .ref a_byt, .int 0, .int 0, .int 0, .int 0, .int 0, .ref a_nxt, .ref a_val])), (a_now, .inl (cI, 221, .inl nw0))]
set_option maxHeartbeats 4000000 in
set_option maxRecDepth 100000 in
theorem c_m_counted3 (l : Launch) (D : va_G) (cI cZ cP : ClassId) (sa : Nat → Nat) (mo : Nat) (a_now : Nat) (a_kep : Nat) (a_isk : Nat) (a_ref : Nat) (a_cw : Nat) (a_row : Nat) (a_lea : Nat) (a_sli : Nat) (a_lef : Nat) (a_bst : Nat) (a_try : Nat) (a_mom : Nat) (a_byt : Nat) (a_nxt : Nat) (a_val : Nat) (sz : Nat) : Met l yX7_counted (qW yX7_counted cX7_counted 2 (some .int)) ({ frames := 0, cells := 0, slots := 0, locals := 0 } : Room) (qP D (TY cI cZ cP) sa [.ref mo, .int 3] (w_m_counted3 cI cZ cP mo a_now a_kep a_isk a_ref a_cw a_row a_lea a_sli a_lef a_bst a_try a_mom a_byt a_nxt a_val) sz) (qQi D (w_m_counted3 cI cZ cP mo a_now a_kep a_isk a_ref a_cw a_row a_lea a_sli a_lef a_bst a_try a_mom a_byt a_nxt a_val) sz (fun (r : Int32) (_ : Unit) => r = 0) (fun _ => [(mo, .inr (7, [.ref a_now, .ref a_kep, .ref a_isk, .ref a_ref, .long 0, .long 1, .int 0, .int 0, .int 0, .int 0, .ref a_cw, .ref a_row, .int 0, .ref a_lea, .ref a_sli, .ref a_lef, .ref a_bst, .ref a_try, .int 0, .ref a_mom, .ref a_byt, .int 0, .int 0, .int 0, .int 0, .int 0, .ref a_nxt, .ref a_val])), (a_now, .inl (cI, 221, .inl nw0))])) 0 0 (va_A (w_m_counted3 cI cZ cP mo a_now a_kep a_isk a_ref a_cw a_row a_lea a_sli a_lef a_bst a_try a_mom a_byt a_nxt a_val) sz) := by
  refine q_enter (by decide) (Nat.le_of_ble_eq_true rfl) ?_
  intro p e s m below meth c ls hX hr hlk hnm hE hK hP hD hS hA hl
  obtain ⟨hx, hb, hml, hown, ht⟩ := id hX
  have hl : lv_has ls 2 [(0, .ref mo), (1, .int 3)] := hl
  refine lv_iload_n hx hb dX7_counted_0 rfl (lv_at hl 1 rfl) ?_
  refine lv_tableIn (off := 52) (tgt := 53) hx hb dX7_counted_1 (by decide) (by decide) rfl (by decide) ?_
  refine lv_aload_n hx hb dX7_counted_53 rfl (lv_at hl 0 rfl) ?_
  refine va_get (D := D) (ci := 7) (v := .ref a_now) (C := RX7) (T := TX7) (N := 28) hx hb ht inX7 hown hK hP 0 rfl rfl 0 (Nat.le_of_ble_eq_true rfl) (ht _ kw_904) (fun _ h9 => h9) rfl dX7_counted_54 ?_
  refine lv_iconst (v := 3) hx hb dX7_counted_57 (by decide) ?_
  refine va_iald hx hb hK hP 1 0 rfl rfl (vin (by decide)) dX7_counted_58 ?_
  refine q_i (z := 0) (by decide) ?_
  refine lv_aload_n hx hb dX7_counted_59 rfl (lv_at hl 0 rfl) ?_
  refine va_get (D := D) (ci := 7) (v := .ref a_now) (C := RX7) (T := TX7) (N := 28) hx hb ht inX7 hown hK hP 0 rfl rfl 0 (Nat.le_of_ble_eq_true rfl) (ht _ kw_904) (fun _ h9 => h9) rfl dX7_counted_60 ?_
  refine lv_iconst (v := 2) hx hb dX7_counted_63 (by decide) ?_
  refine va_iald hx hb hK hP 1 0 rfl rfl (vin (by decide)) dX7_counted_64 ?_
  refine q_i (z := 0) (by decide) ?_
  refine lv_isub hx hb dX7_counted_65 ?_
  refine q_i (z := 0) (by decide) ?_
  exact q_iret hX hr hlk () rfl (hP.sub [0, 1] rfl) (hD.sub [0, 1] (by decide) rfl) hS dX7_counted_66
abbrev w_m_counted4 (cI cZ cP : ClassId) (mo : Nat) (a_now : Nat) (a_kep : Nat) (a_isk : Nat) (a_ref : Nat) (a_cw : Nat) (a_row : Nat) (a_lea : Nat) (a_sli : Nat) (a_lef : Nat) (a_bst : Nat) (a_try : Nat) (a_mom : Nat) (a_byt : Nat) (a_nxt : Nat) (a_val : Nat) : va_W := [(mo, .inr (7, [.ref a_now, .ref a_kep, .ref a_isk, .ref a_ref, .long 0, .long 1, .int 0, .int 0, .int 0, .int 0, .ref a_cw, .ref a_row, .int 0, .ref a_lea, .ref a_sli, .ref a_lef, .ref a_bst, .ref a_try, .int 0, .ref a_mom, .ref a_byt, .int 0, .int 0, .int 0, .int 0, .int 0, .ref a_nxt, .ref a_val])), (a_now, .inl (cI, 221, .inl nw0))]
set_option maxHeartbeats 4000000 in
set_option maxRecDepth 100000 in
theorem c_m_counted4 (l : Launch) (D : va_G) (cI cZ cP : ClassId) (sa : Nat → Nat) (mo : Nat) (a_now : Nat) (a_kep : Nat) (a_isk : Nat) (a_ref : Nat) (a_cw : Nat) (a_row : Nat) (a_lea : Nat) (a_sli : Nat) (a_lef : Nat) (a_bst : Nat) (a_try : Nat) (a_mom : Nat) (a_byt : Nat) (a_nxt : Nat) (a_val : Nat) (sz : Nat) : Met l yX7_counted (qW yX7_counted cX7_counted 2 (some .int)) ({ frames := 0, cells := 0, slots := 0, locals := 0 } : Room) (qP D (TY cI cZ cP) sa [.ref mo, .int 4] (w_m_counted4 cI cZ cP mo a_now a_kep a_isk a_ref a_cw a_row a_lea a_sli a_lef a_bst a_try a_mom a_byt a_nxt a_val) sz) (qQi D (w_m_counted4 cI cZ cP mo a_now a_kep a_isk a_ref a_cw a_row a_lea a_sli a_lef a_bst a_try a_mom a_byt a_nxt a_val) sz (fun (r : Int32) (_ : Unit) => r = 0) (fun _ => [(mo, .inr (7, [.ref a_now, .ref a_kep, .ref a_isk, .ref a_ref, .long 0, .long 1, .int 0, .int 0, .int 0, .int 0, .ref a_cw, .ref a_row, .int 0, .ref a_lea, .ref a_sli, .ref a_lef, .ref a_bst, .ref a_try, .int 0, .ref a_mom, .ref a_byt, .int 0, .int 0, .int 0, .int 0, .int 0, .ref a_nxt, .ref a_val])), (a_now, .inl (cI, 221, .inl nw0))])) 0 0 (va_A (w_m_counted4 cI cZ cP mo a_now a_kep a_isk a_ref a_cw a_row a_lea a_sli a_lef a_bst a_try a_mom a_byt a_nxt a_val) sz) := by
  refine q_enter (by decide) (Nat.le_of_ble_eq_true rfl) ?_
  intro p e s m below meth c ls hX hr hlk hnm hE hK hP hD hS hA hl
  obtain ⟨hx, hb, hml, hown, ht⟩ := id hX
  have hl : lv_has ls 2 [(0, .ref mo), (1, .int 4)] := hl
  refine lv_iload_n hx hb dX7_counted_0 rfl (lv_at hl 1 rfl) ?_
  refine lv_tableIn (off := 66) (tgt := 67) hx hb dX7_counted_1 (by decide) (by decide) rfl (by decide) ?_
  refine lv_aload_n hx hb dX7_counted_67 rfl (lv_at hl 0 rfl) ?_
  refine va_get (D := D) (ci := 7) (v := .ref a_now) (C := RX7) (T := TX7) (N := 28) hx hb ht inX7 hown hK hP 0 rfl rfl 0 (Nat.le_of_ble_eq_true rfl) (ht _ kw_904) (fun _ h9 => h9) rfl dX7_counted_68 ?_
  refine lv_bipush (v := 100) hx hb dX7_counted_71 (by decide) ?_
  refine va_iald hx hb hK hP 1 0 rfl rfl (vin (by decide)) dX7_counted_73 ?_
  refine q_i (z := 0) (by decide) ?_
  exact q_iret hX hr hlk () rfl (hP.sub [0, 1] rfl) (hD.sub [0, 1] (by decide) rfl) hS dX7_counted_74
abbrev w_m_counted5 (cI cZ cP : ClassId) (mo : Nat) (a_now : Nat) (a_kep : Nat) (a_isk : Nat) (a_ref : Nat) (a_cw : Nat) (a_row : Nat) (a_lea : Nat) (a_sli : Nat) (a_lef : Nat) (a_bst : Nat) (a_try : Nat) (a_mom : Nat) (a_byt : Nat) (a_nxt : Nat) (a_val : Nat) : va_W := [(mo, .inr (7, [.ref a_now, .ref a_kep, .ref a_isk, .ref a_ref, .long 0, .long 1, .int 0, .int 0, .int 0, .int 0, .ref a_cw, .ref a_row, .int 0, .ref a_lea, .ref a_sli, .ref a_lef, .ref a_bst, .ref a_try, .int 0, .ref a_mom, .ref a_byt, .int 0, .int 0, .int 0, .int 0, .int 0, .ref a_nxt, .ref a_val])), (a_now, .inl (cI, 221, .inl nw0))]
set_option maxHeartbeats 4000000 in
set_option maxRecDepth 100000 in
theorem c_m_counted5 (l : Launch) (D : va_G) (cI cZ cP : ClassId) (sa : Nat → Nat) (mo : Nat) (a_now : Nat) (a_kep : Nat) (a_isk : Nat) (a_ref : Nat) (a_cw : Nat) (a_row : Nat) (a_lea : Nat) (a_sli : Nat) (a_lef : Nat) (a_bst : Nat) (a_try : Nat) (a_mom : Nat) (a_byt : Nat) (a_nxt : Nat) (a_val : Nat) (sz : Nat) : Met l yX7_counted (qW yX7_counted cX7_counted 2 (some .int)) ({ frames := 0, cells := 0, slots := 0, locals := 0 } : Room) (qP D (TY cI cZ cP) sa [.ref mo, .int 5] (w_m_counted5 cI cZ cP mo a_now a_kep a_isk a_ref a_cw a_row a_lea a_sli a_lef a_bst a_try a_mom a_byt a_nxt a_val) sz) (qQi D (w_m_counted5 cI cZ cP mo a_now a_kep a_isk a_ref a_cw a_row a_lea a_sli a_lef a_bst a_try a_mom a_byt a_nxt a_val) sz (fun (r : Int32) (_ : Unit) => r = 0) (fun _ => [(mo, .inr (7, [.ref a_now, .ref a_kep, .ref a_isk, .ref a_ref, .long 0, .long 1, .int 0, .int 0, .int 0, .int 0, .ref a_cw, .ref a_row, .int 0, .ref a_lea, .ref a_sli, .ref a_lef, .ref a_bst, .ref a_try, .int 0, .ref a_mom, .ref a_byt, .int 0, .int 0, .int 0, .int 0, .int 0, .ref a_nxt, .ref a_val])), (a_now, .inl (cI, 221, .inl nw0))])) 0 0 (va_A (w_m_counted5 cI cZ cP mo a_now a_kep a_isk a_ref a_cw a_row a_lea a_sli a_lef a_bst a_try a_mom a_byt a_nxt a_val) sz) := by
  refine q_enter (by decide) (Nat.le_of_ble_eq_true rfl) ?_
  intro p e s m below meth c ls hX hr hlk hnm hE hK hP hD hS hA hl
  obtain ⟨hx, hb, hml, hown, ht⟩ := id hX
  have hl : lv_has ls 2 [(0, .ref mo), (1, .int 5)] := hl
  refine lv_iload_n hx hb dX7_counted_0 rfl (lv_at hl 1 rfl) ?_
  refine lv_tableOut (tgt := 75) hx hb dX7_counted_1 (by decide) (by decide) ?_
  refine lv_aload_n hx hb dX7_counted_75 rfl (lv_at hl 0 rfl) ?_
  refine va_get (D := D) (ci := 7) (v := .int 0) (C := RX7) (T := TX7) (N := 28) hx hb ht inX7 hown hK hP 0 rfl rfl 21 (Nat.le_of_ble_eq_true rfl) (ht _ kw_925) (fun _ h9 => h9) rfl dX7_counted_76 ?_
  exact q_iret hX hr hlk () rfl (hP.sub [0, 1] rfl) (hD.sub [0, 1] (by decide) rfl) hS dX7_counted_79
abbrev w_m_sums1 (cI cZ cP : ClassId) (mo : Nat) (a_now : Nat) (a_kep : Nat) (a_isk : Nat) (a_ref : Nat) (a_cw : Nat) (a_row : Nat) (a_lea : Nat) (a_sli : Nat) (a_lef : Nat) (a_bst : Nat) (a_try : Nat) (a_mom : Nat) (a_byt : Nat) (a_nxt : Nat) (a_val : Nat) : va_W := [(mo, .inr (7, [.ref a_now, .ref a_kep, .ref a_isk, .ref a_ref, .long 0, .long 1, .int 0, .int 0, .int 0, .int 0, .ref a_cw, .ref a_row, .int 0, .ref a_lea, .ref a_sli, .ref a_lef, .ref a_bst, .ref a_try, .int 0, .ref a_mom, .ref a_byt, .int 0, .int 0, .int 0, .int 0, .int 0, .ref a_nxt, .ref a_val])), (a_now, .inl (cI, 221, .inl nw0))]
set_option maxHeartbeats 4000000 in
set_option maxRecDepth 100000 in
theorem c_m_sums1 (l : Launch) (D : va_G) (cI cZ cP : ClassId) (sa : Nat → Nat) (mo : Nat) (a_now : Nat) (a_kep : Nat) (a_isk : Nat) (a_ref : Nat) (a_cw : Nat) (a_row : Nat) (a_lea : Nat) (a_sli : Nat) (a_lef : Nat) (a_bst : Nat) (a_try : Nat) (a_mom : Nat) (a_byt : Nat) (a_nxt : Nat) (a_val : Nat) (sz : Nat) : Met l yX7_sums (qW yX7_sums cX7_sums 8 (some .long)) ({ frames := 0, cells := 0, slots := 0, locals := 0 } : Room) (qP D (TY cI cZ cP) sa [.ref mo, .long 778340787819, .int 4, .int 12] (w_m_sums1 cI cZ cP mo a_now a_kep a_isk a_ref a_cw a_row a_lea a_sli a_lef a_bst a_try a_mom a_byt a_nxt a_val) sz) (qQl D (w_m_sums1 cI cZ cP mo a_now a_kep a_isk a_ref a_cw a_row a_lea a_sli a_lef a_bst a_try a_mom a_byt a_nxt a_val) sz (fun (r : Int64) (_ : Unit) => r = (-9107063704607206869)) (fun _ => [(mo, .inr (7, [.ref a_now, .ref a_kep, .ref a_isk, .ref a_ref, .long 0, .long 1, .int 0, .int 0, .int 0, .int 0, .ref a_cw, .ref a_row, .int 0, .ref a_lea, .ref a_sli, .ref a_lef, .ref a_bst, .ref a_try, .int 0, .ref a_mom, .ref a_byt, .int 0, .int 0, .int 0, .int 0, .int 0, .ref a_nxt, .ref a_val])), (a_now, .inl (cI, 221, .inl nw0))])) 0 0 (va_A (w_m_sums1 cI cZ cP mo a_now a_kep a_isk a_ref a_cw a_row a_lea a_sli a_lef a_bst a_try a_mom a_byt a_nxt a_val) sz) := by
  refine q_enter (by decide) (Nat.le_of_ble_eq_true rfl) ?_
  intro p e s m below meth c ls hX hr hlk hnm hE hK hP hD hS hA hl
  obtain ⟨hx, hb, hml, hown, ht⟩ := id hX
  have hl : lv_has ls 8 [(0, .ref mo), (1, .long 778340787819), (3, .int 4), (4, .int 12)] := hl
  refine lv_lload_n hx hb dX7_sums_0 rfl (lv_at hl 1 rfl) ?_
  refine lv_lstore (lv' := [(5, .long 778340787819), (0, .ref mo), (1, .long 778340787819), (3, .int 4), (4, .int 12)]) hx hb dX7_sums_1 hl (by decide) rfl (fun ls hl => ?_)
  refine lv_iconst (v := 0) hx hb dX7_sums_3 (by decide) ?_
  refine lv_istore (lv' := [(7, .int 0), (5, .long 778340787819), (0, .ref mo), (1, .long 778340787819), (3, .int 4), (4, .int 12)]) hx hb dX7_sums_4 hl (by decide) rfl (fun ls hl => ?_)
  refine lv_iload hx hb dX7_sums_6 (lv_at hl 0 rfl) ?_
  refine lv_iload hx hb dX7_sums_8 (lv_at hl 5 rfl) ?_
  refine lv_icmp_ge (tgt := 38) hx hb dX7_sums_10 (by decide) (fun c_1 => absurd c_1 (by decide)) (fun _ => ?_)
  refine lv_ldc2 hx hb hown (ht _ kw_1356) dX7_sums_13 ?_
  refine q_l (z := ((31 : Int32).toInt64)) (by decide) ?_
  refine lv_lload hx hb dX7_sums_16 (lv_at hl 1 rfl) ?_
  refine lv_lmul hx hb dX7_sums_18 ?_
  refine q_l (z := 24128564422389) (by decide) ?_
  refine lv_aload_n hx hb dX7_sums_19 rfl (lv_at hl 2 rfl) ?_
  refine va_get (D := D) (ci := 7) (v := .ref a_now) (C := RX7) (T := TX7) (N := 28) hx hb ht inX7 hown hK hP 0 rfl rfl 0 (Nat.le_of_ble_eq_true rfl) (ht _ kw_904) (fun _ h9 => h9) rfl dX7_sums_20 ?_
  refine lv_iload_n hx hb dX7_sums_23 rfl (lv_at hl 4 rfl) ?_
  refine lv_iload hx hb dX7_sums_24 (lv_at hl 0 rfl) ?_
  refine lv_iadd hx hb dX7_sums_26 ?_
  refine q_i (z := 4) (by decide) ?_
  refine va_iald hx hb hK hP 1 0 rfl rfl (vin (by decide)) dX7_sums_27 ?_
  refine q_i (z := 0) (by decide) ?_
  refine lv_i2l (v := ((0 : Int32).toInt64)) hx hb dX7_sums_28 rfl ?_
  refine lv_ladd hx hb dX7_sums_29 ?_
  refine q_l (z := 24128564422389) (by decide) ?_
  refine lv_lstore (lv' := [(5, .long 24128564422389), (7, .int 0), (0, .ref mo), (1, .long 778340787819), (3, .int 4), (4, .int 12)]) hx hb dX7_sums_30 hl (by decide) rfl (fun ls hl => ?_)
  refine lv_iinc (v := 1) (lv' := [(7, .int 1), (5, .long 24128564422389), (0, .ref mo), (1, .long 778340787819), (3, .int 4), (4, .int 12)]) hx hb dX7_sums_32 hl (k := 1) rfl (by decide) (by decide) rfl (fun ls hl => ?_)
  refine lv_goto (tgt := 6) hx hb dX7_sums_35 (by decide) ?_
  refine lv_iload hx hb dX7_sums_6 (lv_at hl 0 rfl) ?_
  refine lv_iload hx hb dX7_sums_8 (lv_at hl 5 rfl) ?_
  refine lv_icmp_ge (tgt := 38) hx hb dX7_sums_10 (by decide) (fun c_2 => absurd c_2 (by decide)) (fun _ => ?_)
  refine lv_ldc2 hx hb hown (ht _ kw_1356) dX7_sums_13 ?_
  refine q_l (z := ((31 : Int32).toInt64)) (by decide) ?_
  refine lv_lload hx hb dX7_sums_16 (lv_at hl 1 rfl) ?_
  refine lv_lmul hx hb dX7_sums_18 ?_
  refine q_l (z := 747985497094059) (by decide) ?_
  refine lv_aload_n hx hb dX7_sums_19 rfl (lv_at hl 2 rfl) ?_
  refine va_get (D := D) (ci := 7) (v := .ref a_now) (C := RX7) (T := TX7) (N := 28) hx hb ht inX7 hown hK hP 0 rfl rfl 0 (Nat.le_of_ble_eq_true rfl) (ht _ kw_904) (fun _ h9 => h9) rfl dX7_sums_20 ?_
  refine lv_iload_n hx hb dX7_sums_23 rfl (lv_at hl 4 rfl) ?_
  refine lv_iload hx hb dX7_sums_24 (lv_at hl 0 rfl) ?_
  refine lv_iadd hx hb dX7_sums_26 ?_
  refine q_i (z := 5) (by decide) ?_
  refine va_iald hx hb hK hP 1 0 rfl rfl (vin (by decide)) dX7_sums_27 ?_
  refine q_i (z := 9) (by decide) ?_
  refine lv_i2l (v := ((9 : Int32).toInt64)) hx hb dX7_sums_28 rfl ?_
  refine lv_ladd hx hb dX7_sums_29 ?_
  refine q_l (z := 747985497094068) (by decide) ?_
  refine lv_lstore (lv' := [(5, .long 747985497094068), (7, .int 1), (0, .ref mo), (1, .long 778340787819), (3, .int 4), (4, .int 12)]) hx hb dX7_sums_30 hl (by decide) rfl (fun ls hl => ?_)
  refine lv_iinc (v := 2) (lv' := [(7, .int 2), (5, .long 747985497094068), (0, .ref mo), (1, .long 778340787819), (3, .int 4), (4, .int 12)]) hx hb dX7_sums_32 hl (k := 1) rfl (by decide) (by decide) rfl (fun ls hl => ?_)
  refine lv_goto (tgt := 6) hx hb dX7_sums_35 (by decide) ?_
  refine lv_iload hx hb dX7_sums_6 (lv_at hl 0 rfl) ?_
  refine lv_iload hx hb dX7_sums_8 (lv_at hl 5 rfl) ?_
  refine lv_icmp_ge (tgt := 38) hx hb dX7_sums_10 (by decide) (fun c_3 => absurd c_3 (by decide)) (fun _ => ?_)
  refine lv_ldc2 hx hb hown (ht _ kw_1356) dX7_sums_13 ?_
  refine q_l (z := ((31 : Int32).toInt64)) (by decide) ?_
  refine lv_lload hx hb dX7_sums_16 (lv_at hl 1 rfl) ?_
  refine lv_lmul hx hb dX7_sums_18 ?_
  refine q_l (z := 23187550409916108) (by decide) ?_
  refine lv_aload_n hx hb dX7_sums_19 rfl (lv_at hl 2 rfl) ?_
  refine va_get (D := D) (ci := 7) (v := .ref a_now) (C := RX7) (T := TX7) (N := 28) hx hb ht inX7 hown hK hP 0 rfl rfl 0 (Nat.le_of_ble_eq_true rfl) (ht _ kw_904) (fun _ h9 => h9) rfl dX7_sums_20 ?_
  refine lv_iload_n hx hb dX7_sums_23 rfl (lv_at hl 4 rfl) ?_
  refine lv_iload hx hb dX7_sums_24 (lv_at hl 0 rfl) ?_
  refine lv_iadd hx hb dX7_sums_26 ?_
  refine q_i (z := 6) (by decide) ?_
  refine va_iald hx hb hK hP 1 0 rfl rfl (vin (by decide)) dX7_sums_27 ?_
  refine q_i (z := 4) (by decide) ?_
  refine lv_i2l (v := ((4 : Int32).toInt64)) hx hb dX7_sums_28 rfl ?_
  refine lv_ladd hx hb dX7_sums_29 ?_
  refine q_l (z := 23187550409916112) (by decide) ?_
  refine lv_lstore (lv' := [(5, .long 23187550409916112), (7, .int 2), (0, .ref mo), (1, .long 778340787819), (3, .int 4), (4, .int 12)]) hx hb dX7_sums_30 hl (by decide) rfl (fun ls hl => ?_)
  refine lv_iinc (v := 3) (lv' := [(7, .int 3), (5, .long 23187550409916112), (0, .ref mo), (1, .long 778340787819), (3, .int 4), (4, .int 12)]) hx hb dX7_sums_32 hl (k := 1) rfl (by decide) (by decide) rfl (fun ls hl => ?_)
  refine lv_goto (tgt := 6) hx hb dX7_sums_35 (by decide) ?_
  refine lv_iload hx hb dX7_sums_6 (lv_at hl 0 rfl) ?_
  refine lv_iload hx hb dX7_sums_8 (lv_at hl 5 rfl) ?_
  refine lv_icmp_ge (tgt := 38) hx hb dX7_sums_10 (by decide) (fun c_4 => absurd c_4 (by decide)) (fun _ => ?_)
  refine lv_ldc2 hx hb hown (ht _ kw_1356) dX7_sums_13 ?_
  refine q_l (z := ((31 : Int32).toInt64)) (by decide) ?_
  refine lv_lload hx hb dX7_sums_16 (lv_at hl 1 rfl) ?_
  refine lv_lmul hx hb dX7_sums_18 ?_
  refine q_l (z := 718814062707399472) (by decide) ?_
  refine lv_aload_n hx hb dX7_sums_19 rfl (lv_at hl 2 rfl) ?_
  refine va_get (D := D) (ci := 7) (v := .ref a_now) (C := RX7) (T := TX7) (N := 28) hx hb ht inX7 hown hK hP 0 rfl rfl 0 (Nat.le_of_ble_eq_true rfl) (ht _ kw_904) (fun _ h9 => h9) rfl dX7_sums_20 ?_
  refine lv_iload_n hx hb dX7_sums_23 rfl (lv_at hl 4 rfl) ?_
  refine lv_iload hx hb dX7_sums_24 (lv_at hl 0 rfl) ?_
  refine lv_iadd hx hb dX7_sums_26 ?_
  refine q_i (z := 7) (by decide) ?_
  refine va_iald hx hb hK hP 1 0 rfl rfl (vin (by decide)) dX7_sums_27 ?_
  refine q_i (z := 0) (by decide) ?_
  refine lv_i2l (v := ((0 : Int32).toInt64)) hx hb dX7_sums_28 rfl ?_
  refine lv_ladd hx hb dX7_sums_29 ?_
  refine q_l (z := 718814062707399472) (by decide) ?_
  refine lv_lstore (lv' := [(5, .long 718814062707399472), (7, .int 3), (0, .ref mo), (1, .long 778340787819), (3, .int 4), (4, .int 12)]) hx hb dX7_sums_30 hl (by decide) rfl (fun ls hl => ?_)
  refine lv_iinc (v := 4) (lv' := [(7, .int 4), (5, .long 718814062707399472), (0, .ref mo), (1, .long 778340787819), (3, .int 4), (4, .int 12)]) hx hb dX7_sums_32 hl (k := 1) rfl (by decide) (by decide) rfl (fun ls hl => ?_)
  refine lv_goto (tgt := 6) hx hb dX7_sums_35 (by decide) ?_
  refine lv_iload hx hb dX7_sums_6 (lv_at hl 0 rfl) ?_
  refine lv_iload hx hb dX7_sums_8 (lv_at hl 5 rfl) ?_
  refine lv_icmp_ge (tgt := 38) hx hb dX7_sums_10 (by decide) (fun c_5 => absurd c_5 (by decide)) (fun _ => ?_)
  refine lv_ldc2 hx hb hown (ht _ kw_1356) dX7_sums_13 ?_
  refine q_l (z := ((31 : Int32).toInt64)) (by decide) ?_
  refine lv_lload hx hb dX7_sums_16 (lv_at hl 1 rfl) ?_
  refine lv_lmul hx hb dX7_sums_18 ?_
  refine q_l (z := 3836491870219832016) (by decide) ?_
  refine lv_aload_n hx hb dX7_sums_19 rfl (lv_at hl 2 rfl) ?_
  refine va_get (D := D) (ci := 7) (v := .ref a_now) (C := RX7) (T := TX7) (N := 28) hx hb ht inX7 hown hK hP 0 rfl rfl 0 (Nat.le_of_ble_eq_true rfl) (ht _ kw_904) (fun _ h9 => h9) rfl dX7_sums_20 ?_
  refine lv_iload_n hx hb dX7_sums_23 rfl (lv_at hl 4 rfl) ?_
  refine lv_iload hx hb dX7_sums_24 (lv_at hl 0 rfl) ?_
  refine lv_iadd hx hb dX7_sums_26 ?_
  refine q_i (z := 8) (by decide) ?_
  refine va_iald hx hb hK hP 1 0 rfl rfl (vin (by decide)) dX7_sums_27 ?_
  refine q_i (z := 9) (by decide) ?_
  refine lv_i2l (v := ((9 : Int32).toInt64)) hx hb dX7_sums_28 rfl ?_
  refine lv_ladd hx hb dX7_sums_29 ?_
  refine q_l (z := 3836491870219832025) (by decide) ?_
  refine lv_lstore (lv' := [(5, .long 3836491870219832025), (7, .int 4), (0, .ref mo), (1, .long 778340787819), (3, .int 4), (4, .int 12)]) hx hb dX7_sums_30 hl (by decide) rfl (fun ls hl => ?_)
  refine lv_iinc (v := 5) (lv' := [(7, .int 5), (5, .long 3836491870219832025), (0, .ref mo), (1, .long 778340787819), (3, .int 4), (4, .int 12)]) hx hb dX7_sums_32 hl (k := 1) rfl (by decide) (by decide) rfl (fun ls hl => ?_)
  refine lv_goto (tgt := 6) hx hb dX7_sums_35 (by decide) ?_
  refine lv_iload hx hb dX7_sums_6 (lv_at hl 0 rfl) ?_
  refine lv_iload hx hb dX7_sums_8 (lv_at hl 5 rfl) ?_
  refine lv_icmp_ge (tgt := 38) hx hb dX7_sums_10 (by decide) (fun c_6 => absurd c_6 (by decide)) (fun _ => ?_)
  refine lv_ldc2 hx hb hown (ht _ kw_1356) dX7_sums_13 ?_
  refine q_l (z := ((31 : Int32).toInt64)) (by decide) ?_
  refine lv_lload hx hb dX7_sums_16 (lv_at hl 1 rfl) ?_
  refine lv_lmul hx hb dX7_sums_18 ?_
  refine q_l (z := 8250783534557483079) (by decide) ?_
  refine lv_aload_n hx hb dX7_sums_19 rfl (lv_at hl 2 rfl) ?_
  refine va_get (D := D) (ci := 7) (v := .ref a_now) (C := RX7) (T := TX7) (N := 28) hx hb ht inX7 hown hK hP 0 rfl rfl 0 (Nat.le_of_ble_eq_true rfl) (ht _ kw_904) (fun _ h9 => h9) rfl dX7_sums_20 ?_
  refine lv_iload_n hx hb dX7_sums_23 rfl (lv_at hl 4 rfl) ?_
  refine lv_iload hx hb dX7_sums_24 (lv_at hl 0 rfl) ?_
  refine lv_iadd hx hb dX7_sums_26 ?_
  refine q_i (z := 9) (by decide) ?_
  refine va_iald hx hb hK hP 1 0 rfl rfl (vin (by decide)) dX7_sums_27 ?_
  refine q_i (z := 4) (by decide) ?_
  refine lv_i2l (v := ((4 : Int32).toInt64)) hx hb dX7_sums_28 rfl ?_
  refine lv_ladd hx hb dX7_sums_29 ?_
  refine q_l (z := 8250783534557483083) (by decide) ?_
  refine lv_lstore (lv' := [(5, .long 8250783534557483083), (7, .int 5), (0, .ref mo), (1, .long 778340787819), (3, .int 4), (4, .int 12)]) hx hb dX7_sums_30 hl (by decide) rfl (fun ls hl => ?_)
  refine lv_iinc (v := 6) (lv' := [(7, .int 6), (5, .long 8250783534557483083), (0, .ref mo), (1, .long 778340787819), (3, .int 4), (4, .int 12)]) hx hb dX7_sums_32 hl (k := 1) rfl (by decide) (by decide) rfl (fun ls hl => ?_)
  refine lv_goto (tgt := 6) hx hb dX7_sums_35 (by decide) ?_
  refine lv_iload hx hb dX7_sums_6 (lv_at hl 0 rfl) ?_
  refine lv_iload hx hb dX7_sums_8 (lv_at hl 5 rfl) ?_
  refine lv_icmp_ge (tgt := 38) hx hb dX7_sums_10 (by decide) (fun c_7 => absurd c_7 (by decide)) (fun _ => ?_)
  refine lv_ldc2 hx hb hown (ht _ kw_1356) dX7_sums_13 ?_
  refine q_l (z := ((31 : Int32).toInt64)) (by decide) ?_
  refine lv_lload hx hb dX7_sums_16 (lv_at hl 1 rfl) ?_
  refine lv_lmul hx hb dX7_sums_18 ?_
  refine q_l (z := (-2480127460651747051)) (by decide) ?_
  refine lv_aload_n hx hb dX7_sums_19 rfl (lv_at hl 2 rfl) ?_
  refine va_get (D := D) (ci := 7) (v := .ref a_now) (C := RX7) (T := TX7) (N := 28) hx hb ht inX7 hown hK hP 0 rfl rfl 0 (Nat.le_of_ble_eq_true rfl) (ht _ kw_904) (fun _ h9 => h9) rfl dX7_sums_20 ?_
  refine lv_iload_n hx hb dX7_sums_23 rfl (lv_at hl 4 rfl) ?_
  refine lv_iload hx hb dX7_sums_24 (lv_at hl 0 rfl) ?_
  refine lv_iadd hx hb dX7_sums_26 ?_
  refine q_i (z := 10) (by decide) ?_
  refine va_iald hx hb hK hP 1 0 rfl rfl (vin (by decide)) dX7_sums_27 ?_
  refine q_i (z := 0) (by decide) ?_
  refine lv_i2l (v := ((0 : Int32).toInt64)) hx hb dX7_sums_28 rfl ?_
  refine lv_ladd hx hb dX7_sums_29 ?_
  refine q_l (z := (-2480127460651747051)) (by decide) ?_
  refine lv_lstore (lv' := [(5, .long (-2480127460651747051)), (7, .int 6), (0, .ref mo), (1, .long 778340787819), (3, .int 4), (4, .int 12)]) hx hb dX7_sums_30 hl (by decide) rfl (fun ls hl => ?_)
  refine lv_iinc (v := 7) (lv' := [(7, .int 7), (5, .long (-2480127460651747051)), (0, .ref mo), (1, .long 778340787819), (3, .int 4), (4, .int 12)]) hx hb dX7_sums_32 hl (k := 1) rfl (by decide) (by decide) rfl (fun ls hl => ?_)
  refine lv_goto (tgt := 6) hx hb dX7_sums_35 (by decide) ?_
  refine lv_iload hx hb dX7_sums_6 (lv_at hl 0 rfl) ?_
  refine lv_iload hx hb dX7_sums_8 (lv_at hl 5 rfl) ?_
  refine lv_icmp_ge (tgt := 38) hx hb dX7_sums_10 (by decide) (fun c_8 => absurd c_8 (by decide)) (fun _ => ?_)
  refine lv_ldc2 hx hb hown (ht _ kw_1356) dX7_sums_13 ?_
  refine q_l (z := ((31 : Int32).toInt64)) (by decide) ?_
  refine lv_lload hx hb dX7_sums_16 (lv_at hl 1 rfl) ?_
  refine lv_lmul hx hb dX7_sums_18 ?_
  refine q_l (z := (-3096974985365952117)) (by decide) ?_
  refine lv_aload_n hx hb dX7_sums_19 rfl (lv_at hl 2 rfl) ?_
  refine va_get (D := D) (ci := 7) (v := .ref a_now) (C := RX7) (T := TX7) (N := 28) hx hb ht inX7 hown hK hP 0 rfl rfl 0 (Nat.le_of_ble_eq_true rfl) (ht _ kw_904) (fun _ h9 => h9) rfl dX7_sums_20 ?_
  refine lv_iload_n hx hb dX7_sums_23 rfl (lv_at hl 4 rfl) ?_
  refine lv_iload hx hb dX7_sums_24 (lv_at hl 0 rfl) ?_
  refine lv_iadd hx hb dX7_sums_26 ?_
  refine q_i (z := 11) (by decide) ?_
  refine va_iald hx hb hK hP 1 0 rfl rfl (vin (by decide)) dX7_sums_27 ?_
  refine q_i (z := 9) (by decide) ?_
  refine lv_i2l (v := ((9 : Int32).toInt64)) hx hb dX7_sums_28 rfl ?_
  refine lv_ladd hx hb dX7_sums_29 ?_
  refine q_l (z := (-3096974985365952108)) (by decide) ?_
  refine lv_lstore (lv' := [(5, .long (-3096974985365952108)), (7, .int 7), (0, .ref mo), (1, .long 778340787819), (3, .int 4), (4, .int 12)]) hx hb dX7_sums_30 hl (by decide) rfl (fun ls hl => ?_)
  refine lv_iinc (v := 8) (lv' := [(7, .int 8), (5, .long (-3096974985365952108)), (0, .ref mo), (1, .long 778340787819), (3, .int 4), (4, .int 12)]) hx hb dX7_sums_32 hl (k := 1) rfl (by decide) (by decide) rfl (fun ls hl => ?_)
  refine lv_goto (tgt := 6) hx hb dX7_sums_35 (by decide) ?_
  refine lv_iload hx hb dX7_sums_6 (lv_at hl 0 rfl) ?_
  refine lv_iload hx hb dX7_sums_8 (lv_at hl 5 rfl) ?_
  refine lv_icmp_ge (tgt := 38) hx hb dX7_sums_10 (by decide) (fun c_9 => absurd c_9 (by decide)) (fun _ => ?_)
  refine lv_ldc2 hx hb hown (ht _ kw_1356) dX7_sums_13 ?_
  refine q_l (z := ((31 : Int32).toInt64)) (by decide) ?_
  refine lv_lload hx hb dX7_sums_16 (lv_at hl 1 rfl) ?_
  refine lv_lmul hx hb dX7_sums_18 ?_
  refine q_l (z := (-3772504177796757268)) (by decide) ?_
  refine lv_aload_n hx hb dX7_sums_19 rfl (lv_at hl 2 rfl) ?_
  refine va_get (D := D) (ci := 7) (v := .ref a_now) (C := RX7) (T := TX7) (N := 28) hx hb ht inX7 hown hK hP 0 rfl rfl 0 (Nat.le_of_ble_eq_true rfl) (ht _ kw_904) (fun _ h9 => h9) rfl dX7_sums_20 ?_
  refine lv_iload_n hx hb dX7_sums_23 rfl (lv_at hl 4 rfl) ?_
  refine lv_iload hx hb dX7_sums_24 (lv_at hl 0 rfl) ?_
  refine lv_iadd hx hb dX7_sums_26 ?_
  refine q_i (z := 12) (by decide) ?_
  refine va_iald hx hb hK hP 1 0 rfl rfl (vin (by decide)) dX7_sums_27 ?_
  refine q_i (z := 4) (by decide) ?_
  refine lv_i2l (v := ((4 : Int32).toInt64)) hx hb dX7_sums_28 rfl ?_
  refine lv_ladd hx hb dX7_sums_29 ?_
  refine q_l (z := (-3772504177796757264)) (by decide) ?_
  refine lv_lstore (lv' := [(5, .long (-3772504177796757264)), (7, .int 8), (0, .ref mo), (1, .long 778340787819), (3, .int 4), (4, .int 12)]) hx hb dX7_sums_30 hl (by decide) rfl (fun ls hl => ?_)
  refine lv_iinc (v := 9) (lv' := [(7, .int 9), (5, .long (-3772504177796757264)), (0, .ref mo), (1, .long 778340787819), (3, .int 4), (4, .int 12)]) hx hb dX7_sums_32 hl (k := 1) rfl (by decide) (by decide) rfl (fun ls hl => ?_)
  refine lv_goto (tgt := 6) hx hb dX7_sums_35 (by decide) ?_
  refine lv_iload hx hb dX7_sums_6 (lv_at hl 0 rfl) ?_
  refine lv_iload hx hb dX7_sums_8 (lv_at hl 5 rfl) ?_
  refine lv_icmp_ge (tgt := 38) hx hb dX7_sums_10 (by decide) (fun c_10 => absurd c_10 (by decide)) (fun _ => ?_)
  refine lv_ldc2 hx hb hown (ht _ kw_1356) dX7_sums_13 ?_
  refine q_l (z := ((31 : Int32).toInt64)) (by decide) ?_
  refine lv_lload hx hb dX7_sums_16 (lv_at hl 1 rfl) ?_
  refine lv_lmul hx hb dX7_sums_18 ?_
  refine q_l (z := (-6267165069442165488)) (by decide) ?_
  refine lv_aload_n hx hb dX7_sums_19 rfl (lv_at hl 2 rfl) ?_
  refine va_get (D := D) (ci := 7) (v := .ref a_now) (C := RX7) (T := TX7) (N := 28) hx hb ht inX7 hown hK hP 0 rfl rfl 0 (Nat.le_of_ble_eq_true rfl) (ht _ kw_904) (fun _ h9 => h9) rfl dX7_sums_20 ?_
  refine lv_iload_n hx hb dX7_sums_23 rfl (lv_at hl 4 rfl) ?_
  refine lv_iload hx hb dX7_sums_24 (lv_at hl 0 rfl) ?_
  refine lv_iadd hx hb dX7_sums_26 ?_
  refine q_i (z := 13) (by decide) ?_
  refine va_iald hx hb hK hP 1 0 rfl rfl (vin (by decide)) dX7_sums_27 ?_
  refine q_i (z := 0) (by decide) ?_
  refine lv_i2l (v := ((0 : Int32).toInt64)) hx hb dX7_sums_28 rfl ?_
  refine lv_ladd hx hb dX7_sums_29 ?_
  refine q_l (z := (-6267165069442165488)) (by decide) ?_
  refine lv_lstore (lv' := [(5, .long (-6267165069442165488)), (7, .int 9), (0, .ref mo), (1, .long 778340787819), (3, .int 4), (4, .int 12)]) hx hb dX7_sums_30 hl (by decide) rfl (fun ls hl => ?_)
  refine lv_iinc (v := 10) (lv' := [(7, .int 10), (5, .long (-6267165069442165488)), (0, .ref mo), (1, .long 778340787819), (3, .int 4), (4, .int 12)]) hx hb dX7_sums_32 hl (k := 1) rfl (by decide) (by decide) rfl (fun ls hl => ?_)
  refine lv_goto (tgt := 6) hx hb dX7_sums_35 (by decide) ?_
  refine lv_iload hx hb dX7_sums_6 (lv_at hl 0 rfl) ?_
  refine lv_iload hx hb dX7_sums_8 (lv_at hl 5 rfl) ?_
  refine lv_icmp_ge (tgt := 38) hx hb dX7_sums_10 (by decide) (fun c_11 => absurd c_11 (by decide)) (fun _ => ?_)
  refine lv_ldc2 hx hb hown (ht _ kw_1356) dX7_sums_13 ?_
  refine q_l (z := ((31 : Int32).toInt64)) (by decide) ?_
  refine lv_lload hx hb dX7_sums_16 (lv_at hl 1 rfl) ?_
  refine lv_lmul hx hb dX7_sums_18 ?_
  refine q_l (z := 8632067658097937648) (by decide) ?_
  refine lv_aload_n hx hb dX7_sums_19 rfl (lv_at hl 2 rfl) ?_
  refine va_get (D := D) (ci := 7) (v := .ref a_now) (C := RX7) (T := TX7) (N := 28) hx hb ht inX7 hown hK hP 0 rfl rfl 0 (Nat.le_of_ble_eq_true rfl) (ht _ kw_904) (fun _ h9 => h9) rfl dX7_sums_20 ?_
  refine lv_iload_n hx hb dX7_sums_23 rfl (lv_at hl 4 rfl) ?_
  refine lv_iload hx hb dX7_sums_24 (lv_at hl 0 rfl) ?_
  refine lv_iadd hx hb dX7_sums_26 ?_
  refine q_i (z := 14) (by decide) ?_
  refine va_iald hx hb hK hP 1 0 rfl rfl (vin (by decide)) dX7_sums_27 ?_
  refine q_i (z := 9) (by decide) ?_
  refine lv_i2l (v := ((9 : Int32).toInt64)) hx hb dX7_sums_28 rfl ?_
  refine lv_ladd hx hb dX7_sums_29 ?_
  refine q_l (z := 8632067658097937657) (by decide) ?_
  refine lv_lstore (lv' := [(5, .long 8632067658097937657), (7, .int 10), (0, .ref mo), (1, .long 778340787819), (3, .int 4), (4, .int 12)]) hx hb dX7_sums_30 hl (by decide) rfl (fun ls hl => ?_)
  refine lv_iinc (v := 11) (lv' := [(7, .int 11), (5, .long 8632067658097937657), (0, .ref mo), (1, .long 778340787819), (3, .int 4), (4, .int 12)]) hx hb dX7_sums_32 hl (k := 1) rfl (by decide) (by decide) rfl (fun ls hl => ?_)
  refine lv_goto (tgt := 6) hx hb dX7_sums_35 (by decide) ?_
  refine lv_iload hx hb dX7_sums_6 (lv_at hl 0 rfl) ?_
  refine lv_iload hx hb dX7_sums_8 (lv_at hl 5 rfl) ?_
  refine lv_icmp_ge (tgt := 38) hx hb dX7_sums_10 (by decide) (fun c_12 => absurd c_12 (by decide)) (fun _ => ?_)
  refine lv_ldc2 hx hb hown (ht _ kw_1356) dX7_sums_13 ?_
  refine q_l (z := ((31 : Int32).toInt64)) (by decide) ?_
  refine lv_lload hx hb dX7_sums_16 (lv_at hl 1 rfl) ?_
  refine lv_lmul hx hb dX7_sums_18 ?_
  refine q_l (z := (-9107063704607206873)) (by decide) ?_
  refine lv_aload_n hx hb dX7_sums_19 rfl (lv_at hl 2 rfl) ?_
  refine va_get (D := D) (ci := 7) (v := .ref a_now) (C := RX7) (T := TX7) (N := 28) hx hb ht inX7 hown hK hP 0 rfl rfl 0 (Nat.le_of_ble_eq_true rfl) (ht _ kw_904) (fun _ h9 => h9) rfl dX7_sums_20 ?_
  refine lv_iload_n hx hb dX7_sums_23 rfl (lv_at hl 4 rfl) ?_
  refine lv_iload hx hb dX7_sums_24 (lv_at hl 0 rfl) ?_
  refine lv_iadd hx hb dX7_sums_26 ?_
  refine q_i (z := 15) (by decide) ?_
  refine va_iald hx hb hK hP 1 0 rfl rfl (vin (by decide)) dX7_sums_27 ?_
  refine q_i (z := 4) (by decide) ?_
  refine lv_i2l (v := ((4 : Int32).toInt64)) hx hb dX7_sums_28 rfl ?_
  refine lv_ladd hx hb dX7_sums_29 ?_
  refine q_l (z := (-9107063704607206869)) (by decide) ?_
  refine lv_lstore (lv' := [(5, .long (-9107063704607206869)), (7, .int 11), (0, .ref mo), (1, .long 778340787819), (3, .int 4), (4, .int 12)]) hx hb dX7_sums_30 hl (by decide) rfl (fun ls hl => ?_)
  refine lv_iinc (v := 12) (lv' := [(7, .int 12), (5, .long (-9107063704607206869)), (0, .ref mo), (1, .long 778340787819), (3, .int 4), (4, .int 12)]) hx hb dX7_sums_32 hl (k := 1) rfl (by decide) (by decide) rfl (fun ls hl => ?_)
  refine lv_goto (tgt := 6) hx hb dX7_sums_35 (by decide) ?_
  refine lv_iload hx hb dX7_sums_6 (lv_at hl 0 rfl) ?_
  refine lv_iload hx hb dX7_sums_8 (lv_at hl 5 rfl) ?_
  refine lv_icmp_ge (tgt := 38) hx hb dX7_sums_10 (by decide) (fun _ => ?_) (fun c_13 => absurd (by decide) c_13)
  refine lv_lload hx hb dX7_sums_38 (lv_at hl 1 rfl) ?_
  exact q_lret hX hr hlk () rfl (hP.sub [0, 1] rfl) (hD.sub [0, 1] (by decide) rfl) hS dX7_sums_40
abbrev w_m_sums2 (cI cZ cP : ClassId) (mo : Nat) (a_now : Nat) (a_kep : Nat) (a_isk : Nat) (a_ref : Nat) (a_cw : Nat) (a_row : Nat) (a_lea : Nat) (a_sli : Nat) (a_lef : Nat) (a_bst : Nat) (a_try : Nat) (a_mom : Nat) (a_byt : Nat) (a_nxt : Nat) (a_val : Nat) : va_W := [(mo, .inr (7, [.ref a_now, .ref a_kep, .ref a_isk, .ref a_ref, .long 0, .long 1, .int 0, .int 0, .int 0, .int 0, .ref a_cw, .ref a_row, .int 0, .ref a_lea, .ref a_sli, .ref a_lef, .ref a_bst, .ref a_try, .int 0, .ref a_mom, .ref a_byt, .int 0, .int 0, .int 0, .int 0, .int 0, .ref a_nxt, .ref a_val])), (a_now, .inl (cI, 221, .inl nw0))]
set_option maxHeartbeats 4000000 in
set_option maxRecDepth 100000 in
theorem c_m_sums2 (l : Launch) (D : va_G) (cI cZ cP : ClassId) (sa : Nat → Nat) (mo : Nat) (a_now : Nat) (a_kep : Nat) (a_isk : Nat) (a_ref : Nat) (a_cw : Nat) (a_row : Nat) (a_lea : Nat) (a_sli : Nat) (a_lef : Nat) (a_bst : Nat) (a_try : Nat) (a_mom : Nat) (a_byt : Nat) (a_nxt : Nat) (a_val : Nat) (sz : Nat) : Met l yX7_sums (qW yX7_sums cX7_sums 8 (some .long)) ({ frames := 0, cells := 0, slots := 0, locals := 0 } : Room) (qP D (TY cI cZ cP) sa [.ref mo, .long (-8131529189198335125), .int 16, .int 0] (w_m_sums2 cI cZ cP mo a_now a_kep a_isk a_ref a_cw a_row a_lea a_sli a_lef a_bst a_try a_mom a_byt a_nxt a_val) sz) (qQl D (w_m_sums2 cI cZ cP mo a_now a_kep a_isk a_ref a_cw a_row a_lea a_sli a_lef a_bst a_try a_mom a_byt a_nxt a_val) sz (fun (r : Int64) (_ : Unit) => r = (-8131529189198335125)) (fun _ => [(mo, .inr (7, [.ref a_now, .ref a_kep, .ref a_isk, .ref a_ref, .long 0, .long 1, .int 0, .int 0, .int 0, .int 0, .ref a_cw, .ref a_row, .int 0, .ref a_lea, .ref a_sli, .ref a_lef, .ref a_bst, .ref a_try, .int 0, .ref a_mom, .ref a_byt, .int 0, .int 0, .int 0, .int 0, .int 0, .ref a_nxt, .ref a_val])), (a_now, .inl (cI, 221, .inl nw0))])) 0 0 (va_A (w_m_sums2 cI cZ cP mo a_now a_kep a_isk a_ref a_cw a_row a_lea a_sli a_lef a_bst a_try a_mom a_byt a_nxt a_val) sz) := by
  refine q_enter (by decide) (Nat.le_of_ble_eq_true rfl) ?_
  intro p e s m below meth c ls hX hr hlk hnm hE hK hP hD hS hA hl
  obtain ⟨hx, hb, hml, hown, ht⟩ := id hX
  have hl : lv_has ls 8 [(0, .ref mo), (1, .long (-8131529189198335125)), (3, .int 16), (4, .int 0)] := hl
  refine lv_lload_n hx hb dX7_sums_0 rfl (lv_at hl 1 rfl) ?_
  refine lv_lstore (lv' := [(5, .long (-8131529189198335125)), (0, .ref mo), (1, .long (-8131529189198335125)), (3, .int 16), (4, .int 0)]) hx hb dX7_sums_1 hl (by decide) rfl (fun ls hl => ?_)
  refine lv_iconst (v := 0) hx hb dX7_sums_3 (by decide) ?_
  refine lv_istore (lv' := [(7, .int 0), (5, .long (-8131529189198335125)), (0, .ref mo), (1, .long (-8131529189198335125)), (3, .int 16), (4, .int 0)]) hx hb dX7_sums_4 hl (by decide) rfl (fun ls hl => ?_)
  refine lv_iload hx hb dX7_sums_6 (lv_at hl 0 rfl) ?_
  refine lv_iload hx hb dX7_sums_8 (lv_at hl 5 rfl) ?_
  refine lv_icmp_ge (tgt := 38) hx hb dX7_sums_10 (by decide) (fun _ => ?_) (fun c_1 => absurd (by decide) c_1)
  refine lv_lload hx hb dX7_sums_38 (lv_at hl 1 rfl) ?_
  exact q_lret hX hr hlk () rfl (hP.sub [0, 1] rfl) (hD.sub [0, 1] (by decide) rfl) hS dX7_sums_40
abbrev w_m_digest (cI cZ cP : ClassId) (mo : Nat) (a_now : Nat) (a_kep : Nat) (a_isk : Nat) (a_ref : Nat) (a_cw : Nat) (a_row : Nat) (a_lea : Nat) (a_sli : Nat) (a_lef : Nat) (a_bst : Nat) (a_try : Nat) (a_mom : Nat) (a_byt : Nat) (a_nxt : Nat) (a_val : Nat) : va_W := [(mo, .inr (7, [.ref a_now, .ref a_kep, .ref a_isk, .ref a_ref, .long 0, .long 1, .int 0, .int 0, .int 0, .int 0, .ref a_cw, .ref a_row, .int 0, .ref a_lea, .ref a_sli, .ref a_lef, .ref a_bst, .ref a_try, .int 0, .ref a_mom, .ref a_byt, .int 0, .int 0, .int 0, .int 0, .int 0, .ref a_nxt, .ref a_val])), (a_now, .inl (cI, 221, .inl nw0))]
set_option maxHeartbeats 4000000 in
set_option maxRecDepth 100000 in
theorem c_m_digest (l : Launch) (D : va_G) (cI cZ cP : ClassId) (sa : Nat → Nat) (mo : Nat) (a_now : Nat) (a_kep : Nat) (a_isk : Nat) (a_ref : Nat) (a_cw : Nat) (a_row : Nat) (a_lea : Nat) (a_sli : Nat) (a_lef : Nat) (a_bst : Nat) (a_try : Nat) (a_mom : Nat) (a_byt : Nat) (a_nxt : Nat) (a_val : Nat) (sz : Nat) : Met l yX7_digest (qW yX7_digest cX7_digest 4 (some .long)) ({ frames := 3, cells := 0, slots := 0, locals := 63 } : Room) (qP D (TY cI cZ cP) sa [.ref mo] (w_m_digest cI cZ cP mo a_now a_kep a_isk a_ref a_cw a_row a_lea a_sli a_lef a_bst a_try a_mom a_byt a_nxt a_val) sz) (qQl D (w_m_digest cI cZ cP mo a_now a_kep a_isk a_ref a_cw a_row a_lea a_sli a_lef a_bst a_try a_mom a_byt a_nxt a_val) sz (fun (r : Int64) (_ : Unit) => r = 7019936433249830060) (fun _ => [])) 0 0 (va_A (w_m_digest cI cZ cP mo a_now a_kep a_isk a_ref a_cw a_row a_lea a_sli a_lef a_bst a_try a_mom a_byt a_nxt a_val) sz) := by
  refine q_enter (by decide) (Nat.le_of_ble_eq_true rfl) ?_
  intro p e s m below meth c ls hX hr hlk hnm hE hK hP hD hS hA hl
  obtain ⟨hx, hb, hml, hown, ht⟩ := id hX
  have hl : lv_has ls 4 [(0, .ref mo)] := hl
  refine lv_ldc2 hx hb hown (ht _ kw_1355) dX7_digest_0 ?_
  refine q_l (z := ((877 : Int32).toInt64)) (by decide) ?_
  refine lv_lstore_n (lv' := [(1, .long ((877 : Int32).toInt64)), (0, .ref mo)]) hx hb dX7_digest_3 rfl hl (by decide) rfl (fun ls hl => ?_)
  refine lv_iconst (v := 0) hx hb dX7_digest_4 (by decide) ?_
  refine lv_istore_n (lv' := [(3, .int 0), (1, .long ((877 : Int32).toInt64)), (0, .ref mo)]) hx hb dX7_digest_5 rfl hl (by decide) rfl (fun ls hl => ?_)
  refine lv_iload_n hx hb dX7_digest_6 rfl (lv_at hl 0 rfl) ?_
  refine lv_bipush (v := 6) hx hb dX7_digest_7 (by decide) ?_
  refine lv_icmp_ge (tgt := 31) hx hb dX7_digest_9 (by decide) (fun c_1 => absurd c_1 (by decide)) (fun _ => ?_)
  refine lv_ldc2 hx hb hown (ht _ kw_1356) dX7_digest_12 ?_
  refine q_l (z := ((31 : Int32).toInt64)) (by decide) ?_
  refine lv_lload_n hx hb dX7_digest_15 rfl (lv_at hl 1 rfl) ?_
  refine lv_lmul hx hb dX7_digest_16 ?_
  refine q_l (z := ((27187 : Int32).toInt64)) (by decide) ?_
  refine lv_aload_n hx hb dX7_digest_17 rfl (lv_at hl 2 rfl) ?_
  refine lv_iload_n hx hb dX7_digest_18 rfl (lv_at hl 0 rfl) ?_
  refine q_Vi (wr := []) [0, 1] [] hX hE hK hP hD hS hA hl.1 lk_X7_329 (c_m_counted0 l D cI cZ cP sa mo a_now a_kep a_isk a_ref a_cw a_row a_lea a_sli a_lef a_bst a_try a_mom a_byt a_nxt a_val _) rfl rfl rfl rfl (by decide) 0 7 rfl rfl rfl rfl (Nat.le_of_ble_eq_true rfl) rfl rfl ⟨Nat.le_of_ble_eq_true rfl, Nat.le_of_ble_eq_true rfl⟩ ⟨Nat.le_of_ble_eq_true rfl, Nat.le_of_ble_eq_true rfl⟩ dX7_digest_19 (fun x_2 _ H locs h_2 hP hD hS => ?_)
  have hP : va_P D vwCl [(mo, .inr (7, [.ref a_now, .ref a_kep, .ref a_isk, .ref a_ref, .long 0, .long 1, .int 0, .int 0, .int 0, .int 0, .ref a_cw, .ref a_row, .int 0, .ref a_lea, .ref a_sli, .ref a_lef, .ref a_bst, .ref a_try, .int 0, .ref a_mom, .ref a_byt, .int 0, .int 0, .int 0, .int 0, .int 0, .ref a_nxt, .ref a_val])), (a_now, .inl (cI, 221, .inl nw0))] H := hP
  have hD : va_D (va_A (w_m_digest cI cZ cP mo a_now a_kep a_isk a_ref a_cw a_row a_lea a_sli a_lef a_bst a_try a_mom a_byt a_nxt a_val) sz) [(mo, .inr (7, [.ref a_now, .ref a_kep, .ref a_isk, .ref a_ref, .long 0, .long 1, .int 0, .int 0, .int 0, .int 0, .ref a_cw, .ref a_row, .int 0, .ref a_lea, .ref a_sli, .ref a_lef, .ref a_bst, .ref a_try, .int 0, .ref a_mom, .ref a_byt, .int 0, .int 0, .int 0, .int 0, .int 0, .ref a_nxt, .ref a_val])), (a_now, .inl (cI, 221, .inl nw0))] := hD
  subst h_2
  refine lv_i2l (v := ((0 : Int32).toInt64)) hx hb dX7_digest_22 rfl ?_
  refine lv_ladd hx hb dX7_digest_23 ?_
  refine q_l (z := ((27187 : Int32).toInt64)) (by decide) ?_
  refine lv_lstore_n (lv' := [(1, .long ((27187 : Int32).toInt64)), (3, .int 0), (0, .ref mo)]) hx hb dX7_digest_24 rfl hl (by decide) rfl (fun ls hl => ?_)
  refine lv_iinc (v := 1) (lv' := [(3, .int 1), (1, .long ((27187 : Int32).toInt64)), (0, .ref mo)]) hx hb dX7_digest_25 hl (k := 1) rfl (by decide) (by decide) rfl (fun ls hl => ?_)
  refine lv_goto (tgt := 6) hx hb dX7_digest_28 (by decide) ?_
  refine lv_iload_n hx hb dX7_digest_6 rfl (lv_at hl 0 rfl) ?_
  refine lv_bipush (v := 6) hx hb dX7_digest_7 (by decide) ?_
  refine lv_icmp_ge (tgt := 31) hx hb dX7_digest_9 (by decide) (fun c_3 => absurd c_3 (by decide)) (fun _ => ?_)
  refine lv_ldc2 hx hb hown (ht _ kw_1356) dX7_digest_12 ?_
  refine q_l (z := ((31 : Int32).toInt64)) (by decide) ?_
  refine lv_lload_n hx hb dX7_digest_15 rfl (lv_at hl 1 rfl) ?_
  refine lv_lmul hx hb dX7_digest_16 ?_
  refine q_l (z := ((842797 : Int32).toInt64)) (by decide) ?_
  refine lv_aload_n hx hb dX7_digest_17 rfl (lv_at hl 2 rfl) ?_
  refine lv_iload_n hx hb dX7_digest_18 rfl (lv_at hl 0 rfl) ?_
  refine q_Vi (wr := []) [0, 1] [] hX hE hK hP hD hS hA hl.1 lk_X7_329 (c_m_counted1 l D cI cZ cP sa mo a_now a_kep a_isk a_ref a_cw a_row a_lea a_sli a_lef a_bst a_try a_mom a_byt a_nxt a_val _) rfl rfl rfl rfl (by decide) 0 7 rfl rfl rfl rfl (Nat.le_of_ble_eq_true rfl) rfl rfl ⟨Nat.le_of_ble_eq_true rfl, Nat.le_of_ble_eq_true rfl⟩ ⟨Nat.le_of_ble_eq_true rfl, Nat.le_of_ble_eq_true rfl⟩ dX7_digest_19 (fun x_4 _ H locs h_4 hP hD hS => ?_)
  have hP : va_P D vwCl [(mo, .inr (7, [.ref a_now, .ref a_kep, .ref a_isk, .ref a_ref, .long 0, .long 1, .int 0, .int 0, .int 0, .int 0, .ref a_cw, .ref a_row, .int 0, .ref a_lea, .ref a_sli, .ref a_lef, .ref a_bst, .ref a_try, .int 0, .ref a_mom, .ref a_byt, .int 0, .int 0, .int 0, .int 0, .int 0, .ref a_nxt, .ref a_val])), (a_now, .inl (cI, 221, .inl nw0))] H := hP
  have hD : va_D (va_A (w_m_digest cI cZ cP mo a_now a_kep a_isk a_ref a_cw a_row a_lea a_sli a_lef a_bst a_try a_mom a_byt a_nxt a_val) sz) [(mo, .inr (7, [.ref a_now, .ref a_kep, .ref a_isk, .ref a_ref, .long 0, .long 1, .int 0, .int 0, .int 0, .int 0, .ref a_cw, .ref a_row, .int 0, .ref a_lea, .ref a_sli, .ref a_lef, .ref a_bst, .ref a_try, .int 0, .ref a_mom, .ref a_byt, .int 0, .int 0, .int 0, .int 0, .int 0, .ref a_nxt, .ref a_val])), (a_now, .inl (cI, 221, .inl nw0))] := hD
  subst h_4
  refine lv_i2l (v := ((0 : Int32).toInt64)) hx hb dX7_digest_22 rfl ?_
  refine lv_ladd hx hb dX7_digest_23 ?_
  refine q_l (z := ((842797 : Int32).toInt64)) (by decide) ?_
  refine lv_lstore_n (lv' := [(1, .long ((842797 : Int32).toInt64)), (3, .int 1), (0, .ref mo)]) hx hb dX7_digest_24 rfl hl (by decide) rfl (fun ls hl => ?_)
  refine lv_iinc (v := 2) (lv' := [(3, .int 2), (1, .long ((842797 : Int32).toInt64)), (0, .ref mo)]) hx hb dX7_digest_25 hl (k := 1) rfl (by decide) (by decide) rfl (fun ls hl => ?_)
  refine lv_goto (tgt := 6) hx hb dX7_digest_28 (by decide) ?_
  refine lv_iload_n hx hb dX7_digest_6 rfl (lv_at hl 0 rfl) ?_
  refine lv_bipush (v := 6) hx hb dX7_digest_7 (by decide) ?_
  refine lv_icmp_ge (tgt := 31) hx hb dX7_digest_9 (by decide) (fun c_5 => absurd c_5 (by decide)) (fun _ => ?_)
  refine lv_ldc2 hx hb hown (ht _ kw_1356) dX7_digest_12 ?_
  refine q_l (z := ((31 : Int32).toInt64)) (by decide) ?_
  refine lv_lload_n hx hb dX7_digest_15 rfl (lv_at hl 1 rfl) ?_
  refine lv_lmul hx hb dX7_digest_16 ?_
  refine q_l (z := ((26126707 : Int32).toInt64)) (by decide) ?_
  refine lv_aload_n hx hb dX7_digest_17 rfl (lv_at hl 2 rfl) ?_
  refine lv_iload_n hx hb dX7_digest_18 rfl (lv_at hl 0 rfl) ?_
  refine q_Vi (wr := []) [0, 1] [] hX hE hK hP hD hS hA hl.1 lk_X7_329 (c_m_counted2 l D cI cZ cP sa mo a_now a_kep a_isk a_ref a_cw a_row a_lea a_sli a_lef a_bst a_try a_mom a_byt a_nxt a_val _) rfl rfl rfl rfl (by decide) 0 7 rfl rfl rfl rfl (Nat.le_of_ble_eq_true rfl) rfl rfl ⟨Nat.le_of_ble_eq_true rfl, Nat.le_of_ble_eq_true rfl⟩ ⟨Nat.le_of_ble_eq_true rfl, Nat.le_of_ble_eq_true rfl⟩ dX7_digest_19 (fun x_6 _ H locs h_6 hP hD hS => ?_)
  have hP : va_P D vwCl [(mo, .inr (7, [.ref a_now, .ref a_kep, .ref a_isk, .ref a_ref, .long 0, .long 1, .int 0, .int 0, .int 0, .int 0, .ref a_cw, .ref a_row, .int 0, .ref a_lea, .ref a_sli, .ref a_lef, .ref a_bst, .ref a_try, .int 0, .ref a_mom, .ref a_byt, .int 0, .int 0, .int 0, .int 0, .int 0, .ref a_nxt, .ref a_val])), (a_now, .inl (cI, 221, .inl nw0))] H := hP
  have hD : va_D (va_A (w_m_digest cI cZ cP mo a_now a_kep a_isk a_ref a_cw a_row a_lea a_sli a_lef a_bst a_try a_mom a_byt a_nxt a_val) sz) [(mo, .inr (7, [.ref a_now, .ref a_kep, .ref a_isk, .ref a_ref, .long 0, .long 1, .int 0, .int 0, .int 0, .int 0, .ref a_cw, .ref a_row, .int 0, .ref a_lea, .ref a_sli, .ref a_lef, .ref a_bst, .ref a_try, .int 0, .ref a_mom, .ref a_byt, .int 0, .int 0, .int 0, .int 0, .int 0, .ref a_nxt, .ref a_val])), (a_now, .inl (cI, 221, .inl nw0))] := hD
  subst h_6
  refine lv_i2l (v := ((2 : Int32).toInt64)) hx hb dX7_digest_22 rfl ?_
  refine lv_ladd hx hb dX7_digest_23 ?_
  refine q_l (z := ((26126709 : Int32).toInt64)) (by decide) ?_
  refine lv_lstore_n (lv' := [(1, .long ((26126709 : Int32).toInt64)), (3, .int 2), (0, .ref mo)]) hx hb dX7_digest_24 rfl hl (by decide) rfl (fun ls hl => ?_)
  refine lv_iinc (v := 3) (lv' := [(3, .int 3), (1, .long ((26126709 : Int32).toInt64)), (0, .ref mo)]) hx hb dX7_digest_25 hl (k := 1) rfl (by decide) (by decide) rfl (fun ls hl => ?_)
  refine lv_goto (tgt := 6) hx hb dX7_digest_28 (by decide) ?_
  refine lv_iload_n hx hb dX7_digest_6 rfl (lv_at hl 0 rfl) ?_
  refine lv_bipush (v := 6) hx hb dX7_digest_7 (by decide) ?_
  refine lv_icmp_ge (tgt := 31) hx hb dX7_digest_9 (by decide) (fun c_7 => absurd c_7 (by decide)) (fun _ => ?_)
  refine lv_ldc2 hx hb hown (ht _ kw_1356) dX7_digest_12 ?_
  refine q_l (z := ((31 : Int32).toInt64)) (by decide) ?_
  refine lv_lload_n hx hb dX7_digest_15 rfl (lv_at hl 1 rfl) ?_
  refine lv_lmul hx hb dX7_digest_16 ?_
  refine q_l (z := ((809927979 : Int32).toInt64)) (by decide) ?_
  refine lv_aload_n hx hb dX7_digest_17 rfl (lv_at hl 2 rfl) ?_
  refine lv_iload_n hx hb dX7_digest_18 rfl (lv_at hl 0 rfl) ?_
  refine q_Vi (wr := []) [0, 1] [] hX hE hK hP hD hS hA hl.1 lk_X7_329 (c_m_counted3 l D cI cZ cP sa mo a_now a_kep a_isk a_ref a_cw a_row a_lea a_sli a_lef a_bst a_try a_mom a_byt a_nxt a_val _) rfl rfl rfl rfl (by decide) 0 7 rfl rfl rfl rfl (Nat.le_of_ble_eq_true rfl) rfl rfl ⟨Nat.le_of_ble_eq_true rfl, Nat.le_of_ble_eq_true rfl⟩ ⟨Nat.le_of_ble_eq_true rfl, Nat.le_of_ble_eq_true rfl⟩ dX7_digest_19 (fun x_8 _ H locs h_8 hP hD hS => ?_)
  have hP : va_P D vwCl [(mo, .inr (7, [.ref a_now, .ref a_kep, .ref a_isk, .ref a_ref, .long 0, .long 1, .int 0, .int 0, .int 0, .int 0, .ref a_cw, .ref a_row, .int 0, .ref a_lea, .ref a_sli, .ref a_lef, .ref a_bst, .ref a_try, .int 0, .ref a_mom, .ref a_byt, .int 0, .int 0, .int 0, .int 0, .int 0, .ref a_nxt, .ref a_val])), (a_now, .inl (cI, 221, .inl nw0))] H := hP
  have hD : va_D (va_A (w_m_digest cI cZ cP mo a_now a_kep a_isk a_ref a_cw a_row a_lea a_sli a_lef a_bst a_try a_mom a_byt a_nxt a_val) sz) [(mo, .inr (7, [.ref a_now, .ref a_kep, .ref a_isk, .ref a_ref, .long 0, .long 1, .int 0, .int 0, .int 0, .int 0, .ref a_cw, .ref a_row, .int 0, .ref a_lea, .ref a_sli, .ref a_lef, .ref a_bst, .ref a_try, .int 0, .ref a_mom, .ref a_byt, .int 0, .int 0, .int 0, .int 0, .int 0, .ref a_nxt, .ref a_val])), (a_now, .inl (cI, 221, .inl nw0))] := hD
  subst h_8
  refine lv_i2l (v := ((0 : Int32).toInt64)) hx hb dX7_digest_22 rfl ?_
  refine lv_ladd hx hb dX7_digest_23 ?_
  refine q_l (z := ((809927979 : Int32).toInt64)) (by decide) ?_
  refine lv_lstore_n (lv' := [(1, .long ((809927979 : Int32).toInt64)), (3, .int 3), (0, .ref mo)]) hx hb dX7_digest_24 rfl hl (by decide) rfl (fun ls hl => ?_)
  refine lv_iinc (v := 4) (lv' := [(3, .int 4), (1, .long ((809927979 : Int32).toInt64)), (0, .ref mo)]) hx hb dX7_digest_25 hl (k := 1) rfl (by decide) (by decide) rfl (fun ls hl => ?_)
  refine lv_goto (tgt := 6) hx hb dX7_digest_28 (by decide) ?_
  refine lv_iload_n hx hb dX7_digest_6 rfl (lv_at hl 0 rfl) ?_
  refine lv_bipush (v := 6) hx hb dX7_digest_7 (by decide) ?_
  refine lv_icmp_ge (tgt := 31) hx hb dX7_digest_9 (by decide) (fun c_9 => absurd c_9 (by decide)) (fun _ => ?_)
  refine lv_ldc2 hx hb hown (ht _ kw_1356) dX7_digest_12 ?_
  refine q_l (z := ((31 : Int32).toInt64)) (by decide) ?_
  refine lv_lload_n hx hb dX7_digest_15 rfl (lv_at hl 1 rfl) ?_
  refine lv_lmul hx hb dX7_digest_16 ?_
  refine q_l (z := 25107767349) (by decide) ?_
  refine lv_aload_n hx hb dX7_digest_17 rfl (lv_at hl 2 rfl) ?_
  refine lv_iload_n hx hb dX7_digest_18 rfl (lv_at hl 0 rfl) ?_
  refine q_Vi (wr := []) [0, 1] [] hX hE hK hP hD hS hA hl.1 lk_X7_329 (c_m_counted4 l D cI cZ cP sa mo a_now a_kep a_isk a_ref a_cw a_row a_lea a_sli a_lef a_bst a_try a_mom a_byt a_nxt a_val _) rfl rfl rfl rfl (by decide) 0 7 rfl rfl rfl rfl (Nat.le_of_ble_eq_true rfl) rfl rfl ⟨Nat.le_of_ble_eq_true rfl, Nat.le_of_ble_eq_true rfl⟩ ⟨Nat.le_of_ble_eq_true rfl, Nat.le_of_ble_eq_true rfl⟩ dX7_digest_19 (fun x_10 _ H locs h_10 hP hD hS => ?_)
  have hP : va_P D vwCl [(mo, .inr (7, [.ref a_now, .ref a_kep, .ref a_isk, .ref a_ref, .long 0, .long 1, .int 0, .int 0, .int 0, .int 0, .ref a_cw, .ref a_row, .int 0, .ref a_lea, .ref a_sli, .ref a_lef, .ref a_bst, .ref a_try, .int 0, .ref a_mom, .ref a_byt, .int 0, .int 0, .int 0, .int 0, .int 0, .ref a_nxt, .ref a_val])), (a_now, .inl (cI, 221, .inl nw0))] H := hP
  have hD : va_D (va_A (w_m_digest cI cZ cP mo a_now a_kep a_isk a_ref a_cw a_row a_lea a_sli a_lef a_bst a_try a_mom a_byt a_nxt a_val) sz) [(mo, .inr (7, [.ref a_now, .ref a_kep, .ref a_isk, .ref a_ref, .long 0, .long 1, .int 0, .int 0, .int 0, .int 0, .ref a_cw, .ref a_row, .int 0, .ref a_lea, .ref a_sli, .ref a_lef, .ref a_bst, .ref a_try, .int 0, .ref a_mom, .ref a_byt, .int 0, .int 0, .int 0, .int 0, .int 0, .ref a_nxt, .ref a_val])), (a_now, .inl (cI, 221, .inl nw0))] := hD
  subst h_10
  refine lv_i2l (v := ((0 : Int32).toInt64)) hx hb dX7_digest_22 rfl ?_
  refine lv_ladd hx hb dX7_digest_23 ?_
  refine q_l (z := 25107767349) (by decide) ?_
  refine lv_lstore_n (lv' := [(1, .long 25107767349), (3, .int 4), (0, .ref mo)]) hx hb dX7_digest_24 rfl hl (by decide) rfl (fun ls hl => ?_)
  refine lv_iinc (v := 5) (lv' := [(3, .int 5), (1, .long 25107767349), (0, .ref mo)]) hx hb dX7_digest_25 hl (k := 1) rfl (by decide) (by decide) rfl (fun ls hl => ?_)
  refine lv_goto (tgt := 6) hx hb dX7_digest_28 (by decide) ?_
  refine lv_iload_n hx hb dX7_digest_6 rfl (lv_at hl 0 rfl) ?_
  refine lv_bipush (v := 6) hx hb dX7_digest_7 (by decide) ?_
  refine lv_icmp_ge (tgt := 31) hx hb dX7_digest_9 (by decide) (fun c_11 => absurd c_11 (by decide)) (fun _ => ?_)
  refine lv_ldc2 hx hb hown (ht _ kw_1356) dX7_digest_12 ?_
  refine q_l (z := ((31 : Int32).toInt64)) (by decide) ?_
  refine lv_lload_n hx hb dX7_digest_15 rfl (lv_at hl 1 rfl) ?_
  refine lv_lmul hx hb dX7_digest_16 ?_
  refine q_l (z := 778340787819) (by decide) ?_
  refine lv_aload_n hx hb dX7_digest_17 rfl (lv_at hl 2 rfl) ?_
  refine lv_iload_n hx hb dX7_digest_18 rfl (lv_at hl 0 rfl) ?_
  refine q_Vi (wr := []) [0, 1] [] hX hE hK hP hD hS hA hl.1 lk_X7_329 (c_m_counted5 l D cI cZ cP sa mo a_now a_kep a_isk a_ref a_cw a_row a_lea a_sli a_lef a_bst a_try a_mom a_byt a_nxt a_val _) rfl rfl rfl rfl (by decide) 0 7 rfl rfl rfl rfl (Nat.le_of_ble_eq_true rfl) rfl rfl ⟨Nat.le_of_ble_eq_true rfl, Nat.le_of_ble_eq_true rfl⟩ ⟨Nat.le_of_ble_eq_true rfl, Nat.le_of_ble_eq_true rfl⟩ dX7_digest_19 (fun x_12 _ H locs h_12 hP hD hS => ?_)
  have hP : va_P D vwCl [(mo, .inr (7, [.ref a_now, .ref a_kep, .ref a_isk, .ref a_ref, .long 0, .long 1, .int 0, .int 0, .int 0, .int 0, .ref a_cw, .ref a_row, .int 0, .ref a_lea, .ref a_sli, .ref a_lef, .ref a_bst, .ref a_try, .int 0, .ref a_mom, .ref a_byt, .int 0, .int 0, .int 0, .int 0, .int 0, .ref a_nxt, .ref a_val])), (a_now, .inl (cI, 221, .inl nw0))] H := hP
  have hD : va_D (va_A (w_m_digest cI cZ cP mo a_now a_kep a_isk a_ref a_cw a_row a_lea a_sli a_lef a_bst a_try a_mom a_byt a_nxt a_val) sz) [(mo, .inr (7, [.ref a_now, .ref a_kep, .ref a_isk, .ref a_ref, .long 0, .long 1, .int 0, .int 0, .int 0, .int 0, .ref a_cw, .ref a_row, .int 0, .ref a_lea, .ref a_sli, .ref a_lef, .ref a_bst, .ref a_try, .int 0, .ref a_mom, .ref a_byt, .int 0, .int 0, .int 0, .int 0, .int 0, .ref a_nxt, .ref a_val])), (a_now, .inl (cI, 221, .inl nw0))] := hD
  subst h_12
  refine lv_i2l (v := ((0 : Int32).toInt64)) hx hb dX7_digest_22 rfl ?_
  refine lv_ladd hx hb dX7_digest_23 ?_
  refine q_l (z := 778340787819) (by decide) ?_
  refine lv_lstore_n (lv' := [(1, .long 778340787819), (3, .int 5), (0, .ref mo)]) hx hb dX7_digest_24 rfl hl (by decide) rfl (fun ls hl => ?_)
  refine lv_iinc (v := 6) (lv' := [(3, .int 6), (1, .long 778340787819), (0, .ref mo)]) hx hb dX7_digest_25 hl (k := 1) rfl (by decide) (by decide) rfl (fun ls hl => ?_)
  refine lv_goto (tgt := 6) hx hb dX7_digest_28 (by decide) ?_
  refine lv_iload_n hx hb dX7_digest_6 rfl (lv_at hl 0 rfl) ?_
  refine lv_bipush (v := 6) hx hb dX7_digest_7 (by decide) ?_
  refine lv_icmp_ge (tgt := 31) hx hb dX7_digest_9 (by decide) (fun _ => ?_) (fun c_13 => absurd (by decide) c_13)
  refine lv_aload_n hx hb dX7_digest_31 rfl (lv_at hl 2 rfl) ?_
  refine lv_lload_n hx hb dX7_digest_32 rfl (lv_at hl 1 rfl) ?_
  refine lv_iconst (v := 4) hx hb dX7_digest_33 (by decide) ?_
  refine lv_bipush (v := 12) hx hb dX7_digest_34 (by decide) ?_
  refine q_Vl (wr := []) [0, 1] [] hX hE hK hP hD hS hA hl.1 lk_X7_336 (c_m_sums1 l D cI cZ cP sa mo a_now a_kep a_isk a_ref a_cw a_row a_lea a_sli a_lef a_bst a_try a_mom a_byt a_nxt a_val _) rfl rfl rfl rfl (by decide) 0 7 rfl rfl rfl rfl (Nat.le_of_ble_eq_true rfl) rfl rfl ⟨Nat.le_of_ble_eq_true rfl, Nat.le_of_ble_eq_true rfl⟩ ⟨Nat.le_of_ble_eq_true rfl, Nat.le_of_ble_eq_true rfl⟩ dX7_digest_36 (fun x_14 _ H locs h_14 hP hD hS => ?_)
  have hP : va_P D vwCl [(mo, .inr (7, [.ref a_now, .ref a_kep, .ref a_isk, .ref a_ref, .long 0, .long 1, .int 0, .int 0, .int 0, .int 0, .ref a_cw, .ref a_row, .int 0, .ref a_lea, .ref a_sli, .ref a_lef, .ref a_bst, .ref a_try, .int 0, .ref a_mom, .ref a_byt, .int 0, .int 0, .int 0, .int 0, .int 0, .ref a_nxt, .ref a_val])), (a_now, .inl (cI, 221, .inl nw0))] H := hP
  have hD : va_D (va_A (w_m_digest cI cZ cP mo a_now a_kep a_isk a_ref a_cw a_row a_lea a_sli a_lef a_bst a_try a_mom a_byt a_nxt a_val) sz) [(mo, .inr (7, [.ref a_now, .ref a_kep, .ref a_isk, .ref a_ref, .long 0, .long 1, .int 0, .int 0, .int 0, .int 0, .ref a_cw, .ref a_row, .int 0, .ref a_lea, .ref a_sli, .ref a_lef, .ref a_bst, .ref a_try, .int 0, .ref a_mom, .ref a_byt, .int 0, .int 0, .int 0, .int 0, .int 0, .ref a_nxt, .ref a_val])), (a_now, .inl (cI, 221, .inl nw0))] := hD
  subst h_14
  refine lv_lstore_n (lv' := [(1, .long (-9107063704607206869)), (3, .int 6), (0, .ref mo)]) hx hb dX7_digest_39 rfl hl (by decide) rfl (fun ls hl => ?_)
  refine lv_ldc2 hx hb hown (ht _ kw_1356) dX7_digest_40 ?_
  refine q_l (z := ((31 : Int32).toInt64)) (by decide) ?_
  refine lv_ldc2 hx hb hown (ht _ kw_1356) dX7_digest_43 ?_
  refine q_l (z := ((31 : Int32).toInt64)) (by decide) ?_
  refine lv_lload_n hx hb dX7_digest_46 rfl (lv_at hl 0 rfl) ?_
  refine lv_lmul hx hb dX7_digest_47 ?_
  refine q_l (z := (-5617813737180138699)) (by decide) ?_
  refine lv_aload_n hx hb dX7_digest_48 rfl (lv_at hl 2 rfl) ?_
  refine va_get (D := D) (ci := 7) (v := .ref a_now) (C := RX7) (T := TX7) (N := 28) hx hb ht inX7 hown hK hP 0 rfl rfl 0 (Nat.le_of_ble_eq_true rfl) (ht _ kw_904) (fun _ h9 => h9) rfl dX7_digest_49 ?_
  refine lv_iconst (v := 2) hx hb dX7_digest_52 (by decide) ?_
  refine va_iald hx hb hK hP 1 0 rfl rfl (vin (by decide)) dX7_digest_53 ?_
  refine q_i (z := 0) (by decide) ?_
  refine lv_i2l (v := ((0 : Int32).toInt64)) hx hb dX7_digest_54 rfl ?_
  refine lv_ladd hx hb dX7_digest_55 ?_
  refine q_l (z := (-5617813737180138699)) (by decide) ?_
  refine lv_lmul hx hb dX7_digest_56 ?_
  refine q_l (z := (-8131529189198335125)) (by decide) ?_
  refine lv_aload_n hx hb dX7_digest_57 rfl (lv_at hl 2 rfl) ?_
  refine va_get (D := D) (ci := 7) (v := .ref a_now) (C := RX7) (T := TX7) (N := 28) hx hb ht inX7 hown hK hP 0 rfl rfl 0 (Nat.le_of_ble_eq_true rfl) (ht _ kw_904) (fun _ h9 => h9) rfl dX7_digest_58 ?_
  refine lv_iconst (v := 3) hx hb dX7_digest_61 (by decide) ?_
  refine va_iald hx hb hK hP 1 0 rfl rfl (vin (by decide)) dX7_digest_62 ?_
  refine q_i (z := 0) (by decide) ?_
  refine lv_i2l (v := ((0 : Int32).toInt64)) hx hb dX7_digest_63 rfl ?_
  refine lv_ladd hx hb dX7_digest_64 ?_
  refine q_l (z := (-8131529189198335125)) (by decide) ?_
  refine lv_lstore_n (lv' := [(1, .long (-8131529189198335125)), (3, .int 6), (0, .ref mo)]) hx hb dX7_digest_65 rfl hl (by decide) rfl (fun ls hl => ?_)
  refine lv_aload_n hx hb dX7_digest_66 rfl (lv_at hl 2 rfl) ?_
  refine lv_lload_n hx hb dX7_digest_67 rfl (lv_at hl 0 rfl) ?_
  refine lv_bipush (v := 16) hx hb dX7_digest_68 (by decide) ?_
  refine lv_bipush (v := 7) hx hb dX7_digest_70 (by decide) ?_
  refine lv_aload_n hx hb dX7_digest_72 rfl (lv_at hl 2 rfl) ?_
  refine q_Vi (wr := []) [0, 1] [] hX hE hK hP hD hS hA hl.1 lk_X7_64 (c_m_notes l D cI cZ cP sa mo a_now a_kep a_isk a_ref a_cw a_row a_lea a_sli a_lef a_bst a_try a_mom a_byt a_nxt a_val 0 1 0 0 0 0 0 0 0 0 0 0 0 _) rfl rfl rfl rfl (by decide) 0 7 rfl rfl rfl rfl (Nat.le_of_ble_eq_true rfl) rfl rfl ⟨Nat.le_of_ble_eq_true rfl, Nat.le_of_ble_eq_true rfl⟩ ⟨Nat.le_of_ble_eq_true rfl, Nat.le_of_ble_eq_true rfl⟩ dX7_digest_73 (fun x_15 _ H locs h_15 hP hD hS => ?_)
  have hP : va_P D vwCl [(mo, .inr (7, [.ref a_now, .ref a_kep, .ref a_isk, .ref a_ref, .long 0, .long 1, .int 0, .int 0, .int 0, .int 0, .ref a_cw, .ref a_row, .int 0, .ref a_lea, .ref a_sli, .ref a_lef, .ref a_bst, .ref a_try, .int 0, .ref a_mom, .ref a_byt, .int 0, .int 0, .int 0, .int 0, .int 0, .ref a_nxt, .ref a_val])), (a_now, .inl (cI, 221, .inl nw0))] H := hP
  have hD : va_D (va_A (w_m_digest cI cZ cP mo a_now a_kep a_isk a_ref a_cw a_row a_lea a_sli a_lef a_bst a_try a_mom a_byt a_nxt a_val) sz) [(mo, .inr (7, [.ref a_now, .ref a_kep, .ref a_isk, .ref a_ref, .long 0, .long 1, .int 0, .int 0, .int 0, .int 0, .ref a_cw, .ref a_row, .int 0, .ref a_lea, .ref a_sli, .ref a_lef, .ref a_bst, .ref a_try, .int 0, .ref a_mom, .ref a_byt, .int 0, .int 0, .int 0, .int 0, .int 0, .ref a_nxt, .ref a_val])), (a_now, .inl (cI, 221, .inl nw0))] := hD
  subst h_15
  refine lv_imul hx hb dX7_digest_76 ?_
  refine q_i (z := 0) (by decide) ?_
  refine q_Vl (wr := []) [0, 1] [] hX hE hK hP hD hS hA hl.1 lk_X7_336 (c_m_sums2 l D cI cZ cP sa mo a_now a_kep a_isk a_ref a_cw a_row a_lea a_sli a_lef a_bst a_try a_mom a_byt a_nxt a_val _) rfl rfl rfl rfl (by decide) 0 7 rfl rfl rfl rfl (Nat.le_of_ble_eq_true rfl) rfl rfl ⟨Nat.le_of_ble_eq_true rfl, Nat.le_of_ble_eq_true rfl⟩ ⟨Nat.le_of_ble_eq_true rfl, Nat.le_of_ble_eq_true rfl⟩ dX7_digest_77 (fun x_16 _ H locs h_16 hP hD hS => ?_)
  have hP : va_P D vwCl [(mo, .inr (7, [.ref a_now, .ref a_kep, .ref a_isk, .ref a_ref, .long 0, .long 1, .int 0, .int 0, .int 0, .int 0, .ref a_cw, .ref a_row, .int 0, .ref a_lea, .ref a_sli, .ref a_lef, .ref a_bst, .ref a_try, .int 0, .ref a_mom, .ref a_byt, .int 0, .int 0, .int 0, .int 0, .int 0, .ref a_nxt, .ref a_val])), (a_now, .inl (cI, 221, .inl nw0))] H := hP
  have hD : va_D (va_A (w_m_digest cI cZ cP mo a_now a_kep a_isk a_ref a_cw a_row a_lea a_sli a_lef a_bst a_try a_mom a_byt a_nxt a_val) sz) [(mo, .inr (7, [.ref a_now, .ref a_kep, .ref a_isk, .ref a_ref, .long 0, .long 1, .int 0, .int 0, .int 0, .int 0, .ref a_cw, .ref a_row, .int 0, .ref a_lea, .ref a_sli, .ref a_lef, .ref a_bst, .ref a_try, .int 0, .ref a_mom, .ref a_byt, .int 0, .int 0, .int 0, .int 0, .int 0, .ref a_nxt, .ref a_val])), (a_now, .inl (cI, 221, .inl nw0))] := hD
  subst h_16
  refine lv_lstore_n (lv' := [(1, .long (-8131529189198335125)), (3, .int 6), (0, .ref mo)]) hx hb dX7_digest_80 rfl hl (by decide) rfl (fun ls hl => ?_)
  refine lv_ldc2 hx hb hown (ht _ kw_1356) dX7_digest_81 ?_
  refine q_l (z := ((31 : Int32).toInt64)) (by decide) ?_
  refine lv_ldc2 hx hb hown (ht _ kw_1356) dX7_digest_84 ?_
  refine q_l (z := ((31 : Int32).toInt64)) (by decide) ?_
  refine lv_lload_n hx hb dX7_digest_87 rfl (lv_at hl 0 rfl) ?_
  refine lv_lmul hx hb dX7_digest_88 ?_
  refine q_l (z := 6177012166785333749) (by decide) ?_
  refine lv_aload_n hx hb dX7_digest_89 rfl (lv_at hl 2 rfl) ?_
  refine va_get (D := D) (ci := 7) (v := .long 0) (C := RX7) (T := TX7) (N := 28) hx hb ht inX7 hown hK hP 0 rfl rfl 4 (Nat.le_of_ble_eq_true rfl) (ht _ kw_908) (fun _ h9 => h9) rfl dX7_digest_90 ?_
  refine lv_ladd hx hb dX7_digest_93 ?_
  refine q_l (z := 6177012166785333749) (by decide) ?_
  refine lv_lmul hx hb dX7_digest_94 ?_
  refine q_l (z := 7019936433249830059) (by decide) ?_
  refine lv_aload_n hx hb dX7_digest_95 rfl (lv_at hl 2 rfl) ?_
  refine va_get (D := D) (ci := 7) (v := .long 1) (C := RX7) (T := TX7) (N := 28) hx hb ht inX7 hown hK hP 0 rfl rfl 5 (Nat.le_of_ble_eq_true rfl) (ht _ kw_909) (fun _ h9 => h9) rfl dX7_digest_96 ?_
  refine lv_ladd hx hb dX7_digest_99 ?_
  refine q_l (z := 7019936433249830060) (by decide) ?_
  exact q_lret hX hr hlk () rfl (hP.sub [] rfl) (hD.sub [] (by decide) rfl) hS dX7_digest_100
abbrev w_m_layHand (cI cZ cP : ClassId) (q : Nat) (f : Nat → Int32) (p0 : Int32) (p1 : Int32) (p2 : Int32) (p3 : Int32) : va_W := [(q, .inl (cI, 221, .inl f))]
set_option maxHeartbeats 4000000 in
set_option maxRecDepth 100000 in
theorem c_m_layHand (l : Launch) (D : va_G) (cI cZ cP : ClassId) (sa : Nat → Nat) (q : Nat) (f : Nat → Int32) (p0 : Int32) (p1 : Int32) (p2 : Int32) (p3 : Int32) (h0 : 0 ≤ p0 ∧ p0 ≤ 3) (sz : Nat) : Met l yX7_layHand (qW yX7_layHand cX7_layHand 5 none) ({ frames := 0, cells := 0, slots := 0, locals := 0 } : Room) (qP D (TY cI cZ cP) sa [.ref q, .int p0, .int p1, .int p2, .int p3] (w_m_layHand cI cZ cP q f p0 p1 p2 p3) sz) (qQv D (w_m_layHand cI cZ cP q f p0 p1 p2 p3) sz (fun _ : Unit => True) (fun _ => [])) 0 0 (va_A (w_m_layHand cI cZ cP q f p0 p1 p2 p3) sz) := by
  refine q_enter (by decide) (Nat.le_of_ble_eq_true rfl) ?_
  intro p e s m below meth c ls hX hr hlk hnm hE hK hP hD hS hA hl
  obtain ⟨hx, hb, hml, hown, ht⟩ := id hX
  have hl : lv_has ls 5 [(0, .ref q), (1, .int p0), (2, .int p1), (3, .int p2), (4, .int p3)] := hl
  refine lv_aload_n hx hb dX7_layHand_0 rfl (lv_at hl 0 rfl) ?_
  refine lv_iconst (v := 4) hx hb dX7_layHand_1 (by decide) ?_
  refine lv_iconst (v := 3) hx hb dX7_layHand_2 (by decide) ?_
  refine lv_iload_n hx hb dX7_layHand_3 rfl (lv_at hl 1 rfl) ?_
  refine lv_imul hx hb dX7_layHand_4 ?_
  refine lv_iadd hx hb dX7_layHand_5 ?_
  refine lv_iconst (v := 0) hx hb dX7_layHand_6 (by decide) ?_
  refine lv_iadd hx hb dX7_layHand_7 ?_
  refine q_i (z := (4 + (3 * p0))) (Int32.add_zero _) ?_
  refine lv_iload_n hx hb dX7_layHand_8 rfl (lv_at hl 2 rfl) ?_
  refine va_iast hx hb hK hP hD hS 0 0 rfl rfl (nw_in0 h0) dX7_layHand_9 (fun H locs hP hD hS => ?_)
  have hP : va_P D vwCl [(q, .inl (cI, 221, .inl (upd f (4 + (3 * p0)).toNatClampNeg p1)))] H := hP
  have hD : va_D (va_A (w_m_layHand cI cZ cP q f p0 p1 p2 p3) sz) [(q, .inl (cI, 221, .inl (upd f (4 + (3 * p0)).toNatClampNeg p1)))] := hD
  refine lv_aload_n hx hb dX7_layHand_10 rfl (lv_at hl 0 rfl) ?_
  refine lv_iconst (v := 4) hx hb dX7_layHand_11 (by decide) ?_
  refine lv_iconst (v := 3) hx hb dX7_layHand_12 (by decide) ?_
  refine lv_iload_n hx hb dX7_layHand_13 rfl (lv_at hl 1 rfl) ?_
  refine lv_imul hx hb dX7_layHand_14 ?_
  refine lv_iadd hx hb dX7_layHand_15 ?_
  refine lv_iconst (v := 1) hx hb dX7_layHand_16 (by decide) ?_
  refine lv_iadd hx hb dX7_layHand_17 ?_
  refine lv_iload_n hx hb dX7_layHand_18 rfl (lv_at hl 3 rfl) ?_
  refine va_iast hx hb hK hP hD hS 0 0 rfl rfl (nw_in1 h0) dX7_layHand_19 (fun H locs hP hD hS => ?_)
  have hP : va_P D vwCl [(q, .inl (cI, 221, .inl (upd (upd f (4 + (3 * p0)).toNatClampNeg p1) ((4 + (3 * p0)) + 1).toNatClampNeg p2)))] H := hP
  have hD : va_D (va_A (w_m_layHand cI cZ cP q f p0 p1 p2 p3) sz) [(q, .inl (cI, 221, .inl (upd (upd f (4 + (3 * p0)).toNatClampNeg p1) ((4 + (3 * p0)) + 1).toNatClampNeg p2)))] := hD
  refine lv_aload_n hx hb dX7_layHand_20 rfl (lv_at hl 0 rfl) ?_
  refine lv_iconst (v := 4) hx hb dX7_layHand_21 (by decide) ?_
  refine lv_iconst (v := 3) hx hb dX7_layHand_22 (by decide) ?_
  refine lv_iload_n hx hb dX7_layHand_23 rfl (lv_at hl 1 rfl) ?_
  refine lv_imul hx hb dX7_layHand_24 ?_
  refine lv_iadd hx hb dX7_layHand_25 ?_
  refine lv_iconst (v := 2) hx hb dX7_layHand_26 (by decide) ?_
  refine lv_iadd hx hb dX7_layHand_27 ?_
  refine lv_iload hx hb dX7_layHand_28 (lv_at hl 4 rfl) ?_
  refine va_iast hx hb hK hP hD hS 0 0 rfl rfl (nw_in2 h0) dX7_layHand_30 (fun H locs hP hD hS => ?_)
  have hP : va_P D vwCl [(q, .inl (cI, 221, .inl (upd (upd (upd f (4 + (3 * p0)).toNatClampNeg p1) ((4 + (3 * p0)) + 1).toNatClampNeg p2) ((4 + (3 * p0)) + 2).toNatClampNeg p3)))] H := hP
  have hD : va_D (va_A (w_m_layHand cI cZ cP q f p0 p1 p2 p3) sz) [(q, .inl (cI, 221, .inl (upd (upd (upd f (4 + (3 * p0)).toNatClampNeg p1) ((4 + (3 * p0)) + 1).toNatClampNeg p2) ((4 + (3 * p0)) + 2).toNatClampNeg p3)))] := hD
  exact q_vret hX hr hlk () trivial (hP.sub [] rfl) (hD.sub [] (by decide) rfl) hS dX7_layHand_31
abbrev w_m_hand (cI cZ cP : ClassId) (mo : Nat) (a_now : Nat) (a_kep : Nat) (a_isk : Nat) (a_ref : Nat) (a_cw : Nat) (a_row : Nat) (a_lea : Nat) (a_sli : Nat) (a_lef : Nat) (a_bst : Nat) (a_try : Nat) (a_mom : Nat) (a_byt : Nat) (a_nxt : Nat) (a_val : Nat) (p0 : Int32) (p1 : Int32) (p2 : Int32) (p3 : Int32) : va_W := [(mo, .inr (7, [.ref a_now, .ref a_kep, .ref a_isk, .ref a_ref, .long 0, .long 1, .int 0, .int 0, .int 0, .int 0, .ref a_cw, .ref a_row, .int 0, .ref a_lea, .ref a_sli, .ref a_lef, .ref a_bst, .ref a_try, .int 0, .ref a_mom, .ref a_byt, .int 0, .int 0, .int 0, .int 0, .int 0, .ref a_nxt, .ref a_val])), (a_now, .inl (cI, 221, .inl nw0)), (a_ref, .inl (cI, 3, .inl (fun _ => 0)))]
set_option maxHeartbeats 4000000 in
set_option maxRecDepth 100000 in
theorem c_m_hand (l : Launch) (D : va_G) (cI cZ cP : ClassId) (sa : Nat → Nat) (mo : Nat) (a_now : Nat) (a_kep : Nat) (a_isk : Nat) (a_ref : Nat) (a_cw : Nat) (a_row : Nat) (a_lea : Nat) (a_sli : Nat) (a_lef : Nat) (a_bst : Nat) (a_try : Nat) (a_mom : Nat) (a_byt : Nat) (a_nxt : Nat) (a_val : Nat) (p0 : Int32) (p1 : Int32) (p2 : Int32) (p3 : Int32) (sz : Nat) : Met l yX7_hand (qW yX7_hand cX7_hand 6 (some .int)) ({ frames := 2, cells := 0, slots := 0, locals := 45 } : Room) (qP D (TY cI cZ cP) sa [.ref mo, .int p0, .int p1, .int p2, .int p3] (w_m_hand cI cZ cP mo a_now a_kep a_isk a_ref a_cw a_row a_lea a_sli a_lef a_bst a_try a_mom a_byt a_nxt a_val p0 p1 p2 p3) sz) (qQi D (w_m_hand cI cZ cP mo a_now a_kep a_isk a_ref a_cw a_row a_lea a_sli a_lef a_bst a_try a_mom a_byt a_nxt a_val p0 p1 p2 p3) sz (fun (r : Int32) (_ : Unit) => r = sp_hand p0 p1 p2 p3) (fun _ => [])) 0 0 (va_A (w_m_hand cI cZ cP mo a_now a_kep a_isk a_ref a_cw a_row a_lea a_sli a_lef a_bst a_try a_mom a_byt a_nxt a_val p0 p1 p2 p3) sz) := by
  refine q_enter (by decide) (Nat.le_of_ble_eq_true rfl) ?_
  intro p e s m below meth c ls hX hr hlk hnm hE hK hP hD hS hA hl
  obtain ⟨hx, hb, hml, hown, ht⟩ := id hX
  have hl : lv_has ls 6 [(0, .ref mo), (1, .int p0), (2, .int p1), (3, .int p2), (4, .int p3)] := hl
  refine lv_iload_n hx hb dX7_hand_0 rfl (lv_at hl 1 rfl) ?_
  refine q_Si (wr := [(mo, .inr (7, [.ref a_now, .ref a_kep, .ref a_isk, .ref a_ref, .long 0, .long 1, .int 0, .int 0, .int 0, .int 0, .ref a_cw, .ref a_row, .int 0, .ref a_lea, .ref a_sli, .ref a_lef, .ref a_bst, .ref a_try, .int 0, .ref a_mom, .ref a_byt, .int 0, .int 0, .int 0, .int 0, .int 0, .ref a_nxt, .ref a_val])), (a_now, .inl (cI, 221, .inl nw0)), (a_ref, .inl (cI, 3, .inl (fun _ => 0)))]) [] [0, 1, 2] hX hE hK hP hD hS hA hl.1 lk_X7_80 (c_m_isHand l D cI cZ cP sa p0 _) rfl rfl rfl rfl (by decide) rfl rfl (Nat.le_of_ble_eq_true rfl) rfl rfl ⟨Nat.le_of_ble_eq_true rfl, Nat.le_of_ble_eq_true rfl⟩ ⟨Nat.le_of_ble_eq_true rfl, Nat.le_of_ble_eq_true rfl⟩ dX7_hand_1 (fun x_1 _ H locs h_1 hP hD hS => ?_)
  have hP : va_P D vwCl [(mo, .inr (7, [.ref a_now, .ref a_kep, .ref a_isk, .ref a_ref, .long 0, .long 1, .int 0, .int 0, .int 0, .int 0, .ref a_cw, .ref a_row, .int 0, .ref a_lea, .ref a_sli, .ref a_lef, .ref a_bst, .ref a_try, .int 0, .ref a_mom, .ref a_byt, .int 0, .int 0, .int 0, .int 0, .int 0, .ref a_nxt, .ref a_val])), (a_now, .inl (cI, 221, .inl nw0)), (a_ref, .inl (cI, 3, .inl (fun _ => 0)))] H := hP
  have hD : va_D (va_A (w_m_hand cI cZ cP mo a_now a_kep a_isk a_ref a_cw a_row a_lea a_sli a_lef a_bst a_try a_mom a_byt a_nxt a_val p0 p1 p2 p3) sz) [(mo, .inr (7, [.ref a_now, .ref a_kep, .ref a_isk, .ref a_ref, .long 0, .long 1, .int 0, .int 0, .int 0, .int 0, .ref a_cw, .ref a_row, .int 0, .ref a_lea, .ref a_sli, .ref a_lef, .ref a_bst, .ref a_try, .int 0, .ref a_mom, .ref a_byt, .int 0, .int 0, .int 0, .int 0, .int 0, .ref a_nxt, .ref a_val])), (a_now, .inl (cI, 221, .inl nw0)), (a_ref, .inl (cI, 3, .inl (fun _ => 0)))] := hD
  rcases Classical.em (0 ≤ p0 ∧ p0 ≤ 3) with c_1 | c_1
  · rw [if_pos c_1] at h_1; subst h_1
    refine lv_if_eq (tgt := 44) hx hb dX7_hand_4 (by decide) (fun c_2 => absurd c_2 (by decide)) (fun _ => ?_)
    refine lv_iload_n hx hb dX7_hand_7 rfl (lv_at hl 2 rfl) ?_
    refine lv_i2l (v := (p1.toInt64)) hx hb dX7_hand_8 rfl ?_
    refine lv_lconst (v := 0) hx hb dX7_hand_9 (by decide) ?_
    refine q_l (z := ((0 : Int32).toInt64)) (by decide) ?_
    refine lv_ldc2 hx hb hown (ht _ kw_1014) dX7_hand_10 ?_
    refine q_l (z := ((5 : Int32).toInt64)) (by decide) ?_
    refine q_Si (wr := [(mo, .inr (7, [.ref a_now, .ref a_kep, .ref a_isk, .ref a_ref, .long 0, .long 1, .int 0, .int 0, .int 0, .int 0, .ref a_cw, .ref a_row, .int 0, .ref a_lea, .ref a_sli, .ref a_lef, .ref a_bst, .ref a_try, .int 0, .ref a_mom, .ref a_byt, .int 0, .int 0, .int 0, .int 0, .int 0, .ref a_nxt, .ref a_val])), (a_now, .inl (cI, 221, .inl nw0)), (a_ref, .inl (cI, 3, .inl (fun _ => 0)))]) [] [0, 1, 2] hX hE hK hP hD hS hA hl.1 lk_X7_68 (c_m_in l D cI cZ cP sa p1 0 5 _) rfl rfl rfl rfl (by decide) rfl rfl (Nat.le_of_ble_eq_true rfl) rfl rfl ⟨Nat.le_of_ble_eq_true rfl, Nat.le_of_ble_eq_true rfl⟩ ⟨Nat.le_of_ble_eq_true rfl, Nat.le_of_ble_eq_true rfl⟩ dX7_hand_13 (fun x_3 _ H locs h_3 hP hD hS => ?_)
    have hP : va_P D vwCl [(mo, .inr (7, [.ref a_now, .ref a_kep, .ref a_isk, .ref a_ref, .long 0, .long 1, .int 0, .int 0, .int 0, .int 0, .ref a_cw, .ref a_row, .int 0, .ref a_lea, .ref a_sli, .ref a_lef, .ref a_bst, .ref a_try, .int 0, .ref a_mom, .ref a_byt, .int 0, .int 0, .int 0, .int 0, .int 0, .ref a_nxt, .ref a_val])), (a_now, .inl (cI, 221, .inl nw0)), (a_ref, .inl (cI, 3, .inl (fun _ => 0)))] H := hP
    have hD : va_D (va_A (w_m_hand cI cZ cP mo a_now a_kep a_isk a_ref a_cw a_row a_lea a_sli a_lef a_bst a_try a_mom a_byt a_nxt a_val p0 p1 p2 p3) sz) [(mo, .inr (7, [.ref a_now, .ref a_kep, .ref a_isk, .ref a_ref, .long 0, .long 1, .int 0, .int 0, .int 0, .int 0, .ref a_cw, .ref a_row, .int 0, .ref a_lea, .ref a_sli, .ref a_lef, .ref a_bst, .ref a_try, .int 0, .ref a_mom, .ref a_byt, .int 0, .int 0, .int 0, .int 0, .int 0, .ref a_nxt, .ref a_val])), (a_now, .inl (cI, 221, .inl nw0)), (a_ref, .inl (cI, 3, .inl (fun _ => 0)))] := hD
    rcases Classical.em (0 ≤ p1 ∧ p1 ≤ 5) with c_3 | c_3
    · rw [if_pos c_3] at h_3; subst h_3
      refine lv_if_eq (tgt := 44) hx hb dX7_hand_16 (by decide) (fun c_4 => absurd c_4 (by decide)) (fun _ => ?_)
      refine lv_iload_n hx hb dX7_hand_19 rfl (lv_at hl 3 rfl) ?_
      refine lv_i2l (v := (p2.toInt64)) hx hb dX7_hand_20 rfl ?_
      refine lv_lconst (v := 0) hx hb dX7_hand_21 (by decide) ?_
      refine q_l (z := ((0 : Int32).toInt64)) (by decide) ?_
      refine lv_ldc2 hx hb hown (ht _ kw_1015) dX7_hand_22 ?_
      refine q_l (z := ((15 : Int32).toInt64)) (by decide) ?_
      refine q_Si (wr := [(mo, .inr (7, [.ref a_now, .ref a_kep, .ref a_isk, .ref a_ref, .long 0, .long 1, .int 0, .int 0, .int 0, .int 0, .ref a_cw, .ref a_row, .int 0, .ref a_lea, .ref a_sli, .ref a_lef, .ref a_bst, .ref a_try, .int 0, .ref a_mom, .ref a_byt, .int 0, .int 0, .int 0, .int 0, .int 0, .ref a_nxt, .ref a_val])), (a_now, .inl (cI, 221, .inl nw0)), (a_ref, .inl (cI, 3, .inl (fun _ => 0)))]) [] [0, 1, 2] hX hE hK hP hD hS hA hl.1 lk_X7_68 (c_m_in l D cI cZ cP sa p2 0 15 _) rfl rfl rfl rfl (by decide) rfl rfl (Nat.le_of_ble_eq_true rfl) rfl rfl ⟨Nat.le_of_ble_eq_true rfl, Nat.le_of_ble_eq_true rfl⟩ ⟨Nat.le_of_ble_eq_true rfl, Nat.le_of_ble_eq_true rfl⟩ dX7_hand_25 (fun x_5 _ H locs h_5 hP hD hS => ?_)
      have hP : va_P D vwCl [(mo, .inr (7, [.ref a_now, .ref a_kep, .ref a_isk, .ref a_ref, .long 0, .long 1, .int 0, .int 0, .int 0, .int 0, .ref a_cw, .ref a_row, .int 0, .ref a_lea, .ref a_sli, .ref a_lef, .ref a_bst, .ref a_try, .int 0, .ref a_mom, .ref a_byt, .int 0, .int 0, .int 0, .int 0, .int 0, .ref a_nxt, .ref a_val])), (a_now, .inl (cI, 221, .inl nw0)), (a_ref, .inl (cI, 3, .inl (fun _ => 0)))] H := hP
      have hD : va_D (va_A (w_m_hand cI cZ cP mo a_now a_kep a_isk a_ref a_cw a_row a_lea a_sli a_lef a_bst a_try a_mom a_byt a_nxt a_val p0 p1 p2 p3) sz) [(mo, .inr (7, [.ref a_now, .ref a_kep, .ref a_isk, .ref a_ref, .long 0, .long 1, .int 0, .int 0, .int 0, .int 0, .ref a_cw, .ref a_row, .int 0, .ref a_lea, .ref a_sli, .ref a_lef, .ref a_bst, .ref a_try, .int 0, .ref a_mom, .ref a_byt, .int 0, .int 0, .int 0, .int 0, .int 0, .ref a_nxt, .ref a_val])), (a_now, .inl (cI, 221, .inl nw0)), (a_ref, .inl (cI, 3, .inl (fun _ => 0)))] := hD
      rcases Classical.em (0 ≤ p2 ∧ p2 ≤ 15) with c_5 | c_5
      · rw [if_pos c_5] at h_5; subst h_5
        refine lv_if_eq (tgt := 44) hx hb dX7_hand_28 (by decide) (fun c_6 => absurd c_6 (by decide)) (fun _ => ?_)
        refine lv_iload hx hb dX7_hand_31 (lv_at hl 4 rfl) ?_
        refine lv_i2l (v := (p3.toInt64)) hx hb dX7_hand_33 rfl ?_
        refine lv_lconst (v := 1) hx hb dX7_hand_34 (by decide) ?_
        refine q_l (z := ((1 : Int32).toInt64)) (by decide) ?_
        refine lv_ldc2 hx hb hown (ht _ kw_994) dX7_hand_35 ?_
        refine q_l (z := ((9 : Int32).toInt64)) (by decide) ?_
        refine q_Si (wr := [(mo, .inr (7, [.ref a_now, .ref a_kep, .ref a_isk, .ref a_ref, .long 0, .long 1, .int 0, .int 0, .int 0, .int 0, .ref a_cw, .ref a_row, .int 0, .ref a_lea, .ref a_sli, .ref a_lef, .ref a_bst, .ref a_try, .int 0, .ref a_mom, .ref a_byt, .int 0, .int 0, .int 0, .int 0, .int 0, .ref a_nxt, .ref a_val])), (a_now, .inl (cI, 221, .inl nw0)), (a_ref, .inl (cI, 3, .inl (fun _ => 0)))]) [] [0, 1, 2] hX hE hK hP hD hS hA hl.1 lk_X7_68 (c_m_in l D cI cZ cP sa p3 1 9 _) rfl rfl rfl rfl (by decide) rfl rfl (Nat.le_of_ble_eq_true rfl) rfl rfl ⟨Nat.le_of_ble_eq_true rfl, Nat.le_of_ble_eq_true rfl⟩ ⟨Nat.le_of_ble_eq_true rfl, Nat.le_of_ble_eq_true rfl⟩ dX7_hand_38 (fun x_7 _ H locs h_7 hP hD hS => ?_)
        have hP : va_P D vwCl [(mo, .inr (7, [.ref a_now, .ref a_kep, .ref a_isk, .ref a_ref, .long 0, .long 1, .int 0, .int 0, .int 0, .int 0, .ref a_cw, .ref a_row, .int 0, .ref a_lea, .ref a_sli, .ref a_lef, .ref a_bst, .ref a_try, .int 0, .ref a_mom, .ref a_byt, .int 0, .int 0, .int 0, .int 0, .int 0, .ref a_nxt, .ref a_val])), (a_now, .inl (cI, 221, .inl nw0)), (a_ref, .inl (cI, 3, .inl (fun _ => 0)))] H := hP
        have hD : va_D (va_A (w_m_hand cI cZ cP mo a_now a_kep a_isk a_ref a_cw a_row a_lea a_sli a_lef a_bst a_try a_mom a_byt a_nxt a_val p0 p1 p2 p3) sz) [(mo, .inr (7, [.ref a_now, .ref a_kep, .ref a_isk, .ref a_ref, .long 0, .long 1, .int 0, .int 0, .int 0, .int 0, .ref a_cw, .ref a_row, .int 0, .ref a_lea, .ref a_sli, .ref a_lef, .ref a_bst, .ref a_try, .int 0, .ref a_mom, .ref a_byt, .int 0, .int 0, .int 0, .int 0, .int 0, .ref a_nxt, .ref a_val])), (a_now, .inl (cI, 221, .inl nw0)), (a_ref, .inl (cI, 3, .inl (fun _ => 0)))] := hD
        rcases Classical.em (1 ≤ p3 ∧ p3 ≤ 9) with c_7 | c_7
        · rw [if_pos c_7] at h_7; subst h_7
          refine lv_if_ne (tgt := 51) hx hb dX7_hand_41 (by decide) (fun _ => ?_) (fun c_8 => absurd c_8 (by decide))
          refine lv_aload_n hx hb dX7_hand_51 rfl (lv_at hl 0 rfl) ?_
          refine va_get (D := D) (ci := 7) (v := .ref a_now) (C := RX7) (T := TX7) (N := 28) hx hb ht inX7 hown hK hP 0 rfl rfl 0 (Nat.le_of_ble_eq_true rfl) (ht _ kw_904) (fun _ h9 => h9) rfl dX7_hand_52 ?_
          refine lv_iconst (v := 4) hx hb dX7_hand_55 (by decide) ?_
          refine lv_iconst (v := 3) hx hb dX7_hand_56 (by decide) ?_
          refine lv_iload_n hx hb dX7_hand_57 rfl (lv_at hl 1 rfl) ?_
          refine lv_imul hx hb dX7_hand_58 ?_
          refine lv_iadd hx hb dX7_hand_59 ?_
          refine lv_iconst (v := 0) hx hb dX7_hand_60 (by decide) ?_
          refine lv_iadd hx hb dX7_hand_61 ?_
          refine q_i (z := (4 + (3 * p0))) (Int32.add_zero _) ?_
          refine va_iald hx hb hK hP 1 0 rfl rfl (nw_in0 c_1) dX7_hand_62 ?_
          refine q_i (z := 0) (nw_at0 c_1) ?_
          refine lv_istore (lv' := [(5, .int 0), (0, .ref mo), (1, .int p0), (2, .int p1), (3, .int p2), (4, .int p3)]) hx hb dX7_hand_63 hl (by decide) rfl (fun ls hl => ?_)
          refine lv_aload_n hx hb dX7_hand_65 rfl (lv_at hl 1 rfl) ?_
          refine va_get (D := D) (ci := 7) (v := .ref a_now) (C := RX7) (T := TX7) (N := 28) hx hb ht inX7 hown hK hP 0 rfl rfl 0 (Nat.le_of_ble_eq_true rfl) (ht _ kw_904) (fun _ h9 => h9) rfl dX7_hand_66 ?_
          refine lv_iload_n hx hb dX7_hand_69 rfl (lv_at hl 2 rfl) ?_
          refine lv_iload_n hx hb dX7_hand_70 rfl (lv_at hl 3 rfl) ?_
          refine lv_iload_n hx hb dX7_hand_71 rfl (lv_at hl 4 rfl) ?_
          refine lv_iload hx hb dX7_hand_72 (lv_at hl 5 rfl) ?_
          refine q_Sv (wr := [(mo, .inr (7, [.ref a_now, .ref a_kep, .ref a_isk, .ref a_ref, .long 0, .long 1, .int 0, .int 0, .int 0, .int 0, .ref a_cw, .ref a_row, .int 0, .ref a_lea, .ref a_sli, .ref a_lef, .ref a_bst, .ref a_try, .int 0, .ref a_mom, .ref a_byt, .int 0, .int 0, .int 0, .int 0, .int 0, .ref a_nxt, .ref a_val])), (a_ref, .inl (cI, 3, .inl (fun _ => 0)))]) [1] [0, 2] hX hE hK hP hD hS hA hl.1 lk_X7_88 (c_m_layHand l D cI cZ cP sa a_now nw0 p0 p1 p2 p3 c_1 _) rfl rfl rfl rfl (by decide) rfl rfl (Nat.le_of_ble_eq_true rfl) rfl rfl ⟨Nat.le_of_ble_eq_true rfl, Nat.le_of_ble_eq_true rfl⟩ ⟨Nat.le_of_ble_eq_true rfl, Nat.le_of_ble_eq_true rfl⟩ dX7_hand_74 (fun _ H locs h_9 hP hD hS => ?_)
          have hP : va_P D vwCl [(mo, .inr (7, [.ref a_now, .ref a_kep, .ref a_isk, .ref a_ref, .long 0, .long 1, .int 0, .int 0, .int 0, .int 0, .ref a_cw, .ref a_row, .int 0, .ref a_lea, .ref a_sli, .ref a_lef, .ref a_bst, .ref a_try, .int 0, .ref a_mom, .ref a_byt, .int 0, .int 0, .int 0, .int 0, .int 0, .ref a_nxt, .ref a_val])), (a_ref, .inl (cI, 3, .inl (fun _ => 0)))] H := hP
          have hD : va_D (va_A (w_m_hand cI cZ cP mo a_now a_kep a_isk a_ref a_cw a_row a_lea a_sli a_lef a_bst a_try a_mom a_byt a_nxt a_val p0 p1 p2 p3) sz) [(mo, .inr (7, [.ref a_now, .ref a_kep, .ref a_isk, .ref a_ref, .long 0, .long 1, .int 0, .int 0, .int 0, .int 0, .ref a_cw, .ref a_row, .int 0, .ref a_lea, .ref a_sli, .ref a_lef, .ref a_bst, .ref a_try, .int 0, .ref a_mom, .ref a_byt, .int 0, .int 0, .int 0, .int 0, .int 0, .ref a_nxt, .ref a_val])), (a_ref, .inl (cI, 3, .inl (fun _ => 0)))] := hD
          refine lv_iload hx hb dX7_hand_77 (lv_at hl 0 rfl) ?_
          exact q_iret hX hr hlk () (by simp [sp_hand, c_1, c_3, c_5, c_7]) (hP.sub [] rfl) (hD.sub [] (by decide) rfl) hS dX7_hand_79
        · rw [if_neg c_7] at h_7; subst h_7
          refine lv_if_ne (tgt := 51) hx hb dX7_hand_41 (by decide) (fun c_10 => absurd (by decide) c_10) (fun _ => ?_)
          refine lv_aload_n hx hb dX7_hand_44 rfl (lv_at hl 0 rfl) ?_
          refine lv_bipush (v := (-2)) hx hb dX7_hand_45 (by decide) ?_
          refine q_Vi (wr := [(a_now, .inl (cI, 221, .inl nw0))]) [0, 2] [1] hX hE hK hP hD hS hA hl.1 lk_X7_76 (c_m_bad l D cI cZ cP sa mo a_now a_kep a_isk a_ref a_cw a_row a_lea a_sli a_lef a_bst a_try a_mom a_byt a_nxt a_val 0 1 0 0 0 0 0 0 0 0 0 0 0 (-2) _) rfl rfl rfl rfl (by decide) 0 7 rfl rfl rfl rfl (Nat.le_of_ble_eq_true rfl) rfl rfl ⟨Nat.le_of_ble_eq_true rfl, Nat.le_of_ble_eq_true rfl⟩ ⟨Nat.le_of_ble_eq_true rfl, Nat.le_of_ble_eq_true rfl⟩ dX7_hand_47 (fun x_11 _ H locs h_11 hP hD hS => ?_)
          have hP : va_P D vwCl [(a_now, .inl (cI, 221, .inl nw0))] H := hP
          have hD : va_D (va_A (w_m_hand cI cZ cP mo a_now a_kep a_isk a_ref a_cw a_row a_lea a_sli a_lef a_bst a_try a_mom a_byt a_nxt a_val p0 p1 p2 p3) sz) [(a_now, .inl (cI, 221, .inl nw0))] := hD
          subst h_11
          exact q_iret hX hr hlk () (by simp [sp_hand, c_1, c_3, c_5, c_7]) (hP.sub [] rfl) (hD.sub [] (by decide) rfl) hS dX7_hand_50
      · rw [if_neg c_5] at h_5; subst h_5
        refine lv_if_eq (tgt := 44) hx hb dX7_hand_28 (by decide) (fun _ => ?_) (fun c_12 => absurd (by decide) c_12)
        refine lv_aload_n hx hb dX7_hand_44 rfl (lv_at hl 0 rfl) ?_
        refine lv_bipush (v := (-2)) hx hb dX7_hand_45 (by decide) ?_
        refine q_Vi (wr := [(a_now, .inl (cI, 221, .inl nw0))]) [0, 2] [1] hX hE hK hP hD hS hA hl.1 lk_X7_76 (c_m_bad l D cI cZ cP sa mo a_now a_kep a_isk a_ref a_cw a_row a_lea a_sli a_lef a_bst a_try a_mom a_byt a_nxt a_val 0 1 0 0 0 0 0 0 0 0 0 0 0 (-2) _) rfl rfl rfl rfl (by decide) 0 7 rfl rfl rfl rfl (Nat.le_of_ble_eq_true rfl) rfl rfl ⟨Nat.le_of_ble_eq_true rfl, Nat.le_of_ble_eq_true rfl⟩ ⟨Nat.le_of_ble_eq_true rfl, Nat.le_of_ble_eq_true rfl⟩ dX7_hand_47 (fun x_13 _ H locs h_13 hP hD hS => ?_)
        have hP : va_P D vwCl [(a_now, .inl (cI, 221, .inl nw0))] H := hP
        have hD : va_D (va_A (w_m_hand cI cZ cP mo a_now a_kep a_isk a_ref a_cw a_row a_lea a_sli a_lef a_bst a_try a_mom a_byt a_nxt a_val p0 p1 p2 p3) sz) [(a_now, .inl (cI, 221, .inl nw0))] := hD
        subst h_13
        exact q_iret hX hr hlk () (by simp [sp_hand, c_1, c_3, c_5]) (hP.sub [] rfl) (hD.sub [] (by decide) rfl) hS dX7_hand_50
    · rw [if_neg c_3] at h_3; subst h_3
      refine lv_if_eq (tgt := 44) hx hb dX7_hand_16 (by decide) (fun _ => ?_) (fun c_14 => absurd (by decide) c_14)
      refine lv_aload_n hx hb dX7_hand_44 rfl (lv_at hl 0 rfl) ?_
      refine lv_bipush (v := (-2)) hx hb dX7_hand_45 (by decide) ?_
      refine q_Vi (wr := [(a_now, .inl (cI, 221, .inl nw0))]) [0, 2] [1] hX hE hK hP hD hS hA hl.1 lk_X7_76 (c_m_bad l D cI cZ cP sa mo a_now a_kep a_isk a_ref a_cw a_row a_lea a_sli a_lef a_bst a_try a_mom a_byt a_nxt a_val 0 1 0 0 0 0 0 0 0 0 0 0 0 (-2) _) rfl rfl rfl rfl (by decide) 0 7 rfl rfl rfl rfl (Nat.le_of_ble_eq_true rfl) rfl rfl ⟨Nat.le_of_ble_eq_true rfl, Nat.le_of_ble_eq_true rfl⟩ ⟨Nat.le_of_ble_eq_true rfl, Nat.le_of_ble_eq_true rfl⟩ dX7_hand_47 (fun x_15 _ H locs h_15 hP hD hS => ?_)
      have hP : va_P D vwCl [(a_now, .inl (cI, 221, .inl nw0))] H := hP
      have hD : va_D (va_A (w_m_hand cI cZ cP mo a_now a_kep a_isk a_ref a_cw a_row a_lea a_sli a_lef a_bst a_try a_mom a_byt a_nxt a_val p0 p1 p2 p3) sz) [(a_now, .inl (cI, 221, .inl nw0))] := hD
      subst h_15
      exact q_iret hX hr hlk () (by simp [sp_hand, c_1, c_3]) (hP.sub [] rfl) (hD.sub [] (by decide) rfl) hS dX7_hand_50
  · rw [if_neg c_1] at h_1; subst h_1
    refine lv_if_eq (tgt := 44) hx hb dX7_hand_4 (by decide) (fun _ => ?_) (fun c_16 => absurd (by decide) c_16)
    refine lv_aload_n hx hb dX7_hand_44 rfl (lv_at hl 0 rfl) ?_
    refine lv_bipush (v := (-2)) hx hb dX7_hand_45 (by decide) ?_
    refine q_Vi (wr := [(a_now, .inl (cI, 221, .inl nw0))]) [0, 2] [1] hX hE hK hP hD hS hA hl.1 lk_X7_76 (c_m_bad l D cI cZ cP sa mo a_now a_kep a_isk a_ref a_cw a_row a_lea a_sli a_lef a_bst a_try a_mom a_byt a_nxt a_val 0 1 0 0 0 0 0 0 0 0 0 0 0 (-2) _) rfl rfl rfl rfl (by decide) 0 7 rfl rfl rfl rfl (Nat.le_of_ble_eq_true rfl) rfl rfl ⟨Nat.le_of_ble_eq_true rfl, Nat.le_of_ble_eq_true rfl⟩ ⟨Nat.le_of_ble_eq_true rfl, Nat.le_of_ble_eq_true rfl⟩ dX7_hand_47 (fun x_17 _ H locs h_17 hP hD hS => ?_)
    have hP : va_P D vwCl [(a_now, .inl (cI, 221, .inl nw0))] H := hP
    have hD : va_D (va_A (w_m_hand cI cZ cP mo a_now a_kep a_isk a_ref a_cw a_row a_lea a_sli a_lef a_bst a_try a_mom a_byt a_nxt a_val p0 p1 p2 p3) sz) [(a_now, .inl (cI, 221, .inl nw0))] := hD
    subst h_17
    exact q_iret hX hr hlk () (by simp [sp_hand, c_1]) (hP.sub [] rfl) (hD.sub [] (by decide) rfl) hS dX7_hand_50
abbrev w_m_layNote (cI cZ cP : ClassId) (q : Nat) (p0 : Int32) (p1 : Int32) (p2 : Int32) (p3 : Int32) (p4 : Int32) (p5 : Int32) : va_W := [(q, .inl (cI, 221, .inl nw0))]
set_option maxHeartbeats 4000000 in
set_option maxRecDepth 100000 in
theorem c_m_layNote (l : Launch) (D : va_G) (cI cZ cP : ClassId) (sa : Nat → Nat) (q : Nat) (p0 : Int32) (p1 : Int32) (p2 : Int32) (p3 : Int32) (p4 : Int32) (p5 : Int32) (sz : Nat) : Met l yX7_layNote (qW yX7_layNote cX7_layNote 8 none) ({ frames := 0, cells := 0, slots := 0, locals := 0 } : Room) (qP D (TY cI cZ cP) sa [.ref q, .int p0, .int p1, .int p2, .int p3, .int p4, .int p5] (w_m_layNote cI cZ cP q p0 p1 p2 p3 p4 p5) sz) (qQv D (w_m_layNote cI cZ cP q p0 p1 p2 p3 p4 p5) sz (fun _ : Unit => True) (fun _ => [(q, .inl (cI, 221, .inl (upd (upd (upd (upd (upd (upd (upd (upd nw0 (16 : Int32).toNatClampNeg p0) (17 : Int32).toNatClampNeg p1) (18 : Int32).toNatClampNeg p2) (19 : Int32).toNatClampNeg p3) (20 : Int32).toNatClampNeg p4) (21 : Int32).toNatClampNeg p5) (22 : Int32).toNatClampNeg (-1)) (0 : Int32).toNatClampNeg 1)))])) 0 0 (va_A (w_m_layNote cI cZ cP q p0 p1 p2 p3 p4 p5) sz) := by
  refine q_enter (by decide) (Nat.le_of_ble_eq_true rfl) ?_
  intro p e s m below meth c ls hX hr hlk hnm hE hK hP hD hS hA hl
  obtain ⟨hx, hb, hml, hown, ht⟩ := id hX
  have hl : lv_has ls 8 [(0, .ref q), (1, .int p0), (2, .int p1), (3, .int p2), (4, .int p3), (5, .int p4), (6, .int p5)] := hl
  refine lv_bipush (v := 16) hx hb dX7_layNote_0 (by decide) ?_
  refine lv_bipush (v := 7) hx hb dX7_layNote_2 (by decide) ?_
  refine lv_aload_n hx hb dX7_layNote_4 rfl (lv_at hl 0 rfl) ?_
  refine lv_iconst (v := 0) hx hb dX7_layNote_5 (by decide) ?_
  refine va_iald hx hb hK hP 0 0 rfl rfl (vin (by decide)) dX7_layNote_6 ?_
  refine q_i (z := 0) (by decide) ?_
  refine lv_imul hx hb dX7_layNote_7 ?_
  refine q_i (z := 0) (by decide) ?_
  refine lv_iadd hx hb dX7_layNote_8 ?_
  refine q_i (z := 16) (by decide) ?_
  refine lv_istore (lv' := [(7, .int 16), (0, .ref q), (1, .int p0), (2, .int p1), (3, .int p2), (4, .int p3), (5, .int p4), (6, .int p5)]) hx hb dX7_layNote_9 hl (by decide) rfl (fun ls hl => ?_)
  refine lv_aload_n hx hb dX7_layNote_11 rfl (lv_at hl 1 rfl) ?_
  refine lv_iload hx hb dX7_layNote_12 (lv_at hl 0 rfl) ?_
  refine lv_iconst (v := 0) hx hb dX7_layNote_14 (by decide) ?_
  refine lv_iadd hx hb dX7_layNote_15 ?_
  refine q_i (z := 16) (by decide) ?_
  refine lv_iload_n hx hb dX7_layNote_16 rfl (lv_at hl 2 rfl) ?_
  refine va_iast hx hb hK hP hD hS 0 0 rfl rfl (vin (by decide)) dX7_layNote_17 (fun H locs hP hD hS => ?_)
  have hP : va_P D vwCl [(q, .inl (cI, 221, .inl (upd nw0 (16 : Int32).toNatClampNeg p0)))] H := hP
  have hD : va_D (va_A (w_m_layNote cI cZ cP q p0 p1 p2 p3 p4 p5) sz) [(q, .inl (cI, 221, .inl (upd nw0 (16 : Int32).toNatClampNeg p0)))] := hD
  refine lv_aload_n hx hb dX7_layNote_18 rfl (lv_at hl 1 rfl) ?_
  refine lv_iload hx hb dX7_layNote_19 (lv_at hl 0 rfl) ?_
  refine lv_iconst (v := 1) hx hb dX7_layNote_21 (by decide) ?_
  refine lv_iadd hx hb dX7_layNote_22 ?_
  refine q_i (z := 17) (by decide) ?_
  refine lv_iload_n hx hb dX7_layNote_23 rfl (lv_at hl 3 rfl) ?_
  refine va_iast hx hb hK hP hD hS 0 0 rfl rfl (vin (by decide)) dX7_layNote_24 (fun H locs hP hD hS => ?_)
  have hP : va_P D vwCl [(q, .inl (cI, 221, .inl (upd (upd nw0 (16 : Int32).toNatClampNeg p0) (17 : Int32).toNatClampNeg p1)))] H := hP
  have hD : va_D (va_A (w_m_layNote cI cZ cP q p0 p1 p2 p3 p4 p5) sz) [(q, .inl (cI, 221, .inl (upd (upd nw0 (16 : Int32).toNatClampNeg p0) (17 : Int32).toNatClampNeg p1)))] := hD
  refine lv_aload_n hx hb dX7_layNote_25 rfl (lv_at hl 1 rfl) ?_
  refine lv_iload hx hb dX7_layNote_26 (lv_at hl 0 rfl) ?_
  refine lv_iconst (v := 2) hx hb dX7_layNote_28 (by decide) ?_
  refine lv_iadd hx hb dX7_layNote_29 ?_
  refine q_i (z := 18) (by decide) ?_
  refine lv_iload_n hx hb dX7_layNote_30 rfl (lv_at hl 4 rfl) ?_
  refine va_iast hx hb hK hP hD hS 0 0 rfl rfl (vin (by decide)) dX7_layNote_31 (fun H locs hP hD hS => ?_)
  have hP : va_P D vwCl [(q, .inl (cI, 221, .inl (upd (upd (upd nw0 (16 : Int32).toNatClampNeg p0) (17 : Int32).toNatClampNeg p1) (18 : Int32).toNatClampNeg p2)))] H := hP
  have hD : va_D (va_A (w_m_layNote cI cZ cP q p0 p1 p2 p3 p4 p5) sz) [(q, .inl (cI, 221, .inl (upd (upd (upd nw0 (16 : Int32).toNatClampNeg p0) (17 : Int32).toNatClampNeg p1) (18 : Int32).toNatClampNeg p2)))] := hD
  refine lv_aload_n hx hb dX7_layNote_32 rfl (lv_at hl 1 rfl) ?_
  refine lv_iload hx hb dX7_layNote_33 (lv_at hl 0 rfl) ?_
  refine lv_iconst (v := 3) hx hb dX7_layNote_35 (by decide) ?_
  refine lv_iadd hx hb dX7_layNote_36 ?_
  refine q_i (z := 19) (by decide) ?_
  refine lv_iload hx hb dX7_layNote_37 (lv_at hl 5 rfl) ?_
  refine va_iast hx hb hK hP hD hS 0 0 rfl rfl (vin (by decide)) dX7_layNote_39 (fun H locs hP hD hS => ?_)
  have hP : va_P D vwCl [(q, .inl (cI, 221, .inl (upd (upd (upd (upd nw0 (16 : Int32).toNatClampNeg p0) (17 : Int32).toNatClampNeg p1) (18 : Int32).toNatClampNeg p2) (19 : Int32).toNatClampNeg p3)))] H := hP
  have hD : va_D (va_A (w_m_layNote cI cZ cP q p0 p1 p2 p3 p4 p5) sz) [(q, .inl (cI, 221, .inl (upd (upd (upd (upd nw0 (16 : Int32).toNatClampNeg p0) (17 : Int32).toNatClampNeg p1) (18 : Int32).toNatClampNeg p2) (19 : Int32).toNatClampNeg p3)))] := hD
  refine lv_aload_n hx hb dX7_layNote_40 rfl (lv_at hl 1 rfl) ?_
  refine lv_iload hx hb dX7_layNote_41 (lv_at hl 0 rfl) ?_
  refine lv_iconst (v := 4) hx hb dX7_layNote_43 (by decide) ?_
  refine lv_iadd hx hb dX7_layNote_44 ?_
  refine q_i (z := 20) (by decide) ?_
  refine lv_iload hx hb dX7_layNote_45 (lv_at hl 6 rfl) ?_
  refine va_iast hx hb hK hP hD hS 0 0 rfl rfl (vin (by decide)) dX7_layNote_47 (fun H locs hP hD hS => ?_)
  have hP : va_P D vwCl [(q, .inl (cI, 221, .inl (upd (upd (upd (upd (upd nw0 (16 : Int32).toNatClampNeg p0) (17 : Int32).toNatClampNeg p1) (18 : Int32).toNatClampNeg p2) (19 : Int32).toNatClampNeg p3) (20 : Int32).toNatClampNeg p4)))] H := hP
  have hD : va_D (va_A (w_m_layNote cI cZ cP q p0 p1 p2 p3 p4 p5) sz) [(q, .inl (cI, 221, .inl (upd (upd (upd (upd (upd nw0 (16 : Int32).toNatClampNeg p0) (17 : Int32).toNatClampNeg p1) (18 : Int32).toNatClampNeg p2) (19 : Int32).toNatClampNeg p3) (20 : Int32).toNatClampNeg p4)))] := hD
  refine lv_aload_n hx hb dX7_layNote_48 rfl (lv_at hl 1 rfl) ?_
  refine lv_iload hx hb dX7_layNote_49 (lv_at hl 0 rfl) ?_
  refine lv_iconst (v := 5) hx hb dX7_layNote_51 (by decide) ?_
  refine lv_iadd hx hb dX7_layNote_52 ?_
  refine q_i (z := 21) (by decide) ?_
  refine lv_iload hx hb dX7_layNote_53 (lv_at hl 7 rfl) ?_
  refine va_iast hx hb hK hP hD hS 0 0 rfl rfl (vin (by decide)) dX7_layNote_55 (fun H locs hP hD hS => ?_)
  have hP : va_P D vwCl [(q, .inl (cI, 221, .inl (upd (upd (upd (upd (upd (upd nw0 (16 : Int32).toNatClampNeg p0) (17 : Int32).toNatClampNeg p1) (18 : Int32).toNatClampNeg p2) (19 : Int32).toNatClampNeg p3) (20 : Int32).toNatClampNeg p4) (21 : Int32).toNatClampNeg p5)))] H := hP
  have hD : va_D (va_A (w_m_layNote cI cZ cP q p0 p1 p2 p3 p4 p5) sz) [(q, .inl (cI, 221, .inl (upd (upd (upd (upd (upd (upd nw0 (16 : Int32).toNatClampNeg p0) (17 : Int32).toNatClampNeg p1) (18 : Int32).toNatClampNeg p2) (19 : Int32).toNatClampNeg p3) (20 : Int32).toNatClampNeg p4) (21 : Int32).toNatClampNeg p5)))] := hD
  refine lv_aload_n hx hb dX7_layNote_56 rfl (lv_at hl 1 rfl) ?_
  refine lv_iload hx hb dX7_layNote_57 (lv_at hl 0 rfl) ?_
  refine lv_bipush (v := 6) hx hb dX7_layNote_59 (by decide) ?_
  refine lv_iadd hx hb dX7_layNote_61 ?_
  refine q_i (z := 22) (by decide) ?_
  refine lv_iconst (v := (-1)) hx hb dX7_layNote_62 (by decide) ?_
  refine va_iast hx hb hK hP hD hS 0 0 rfl rfl (vin (by decide)) dX7_layNote_63 (fun H locs hP hD hS => ?_)
  have hP : va_P D vwCl [(q, .inl (cI, 221, .inl (upd (upd (upd (upd (upd (upd (upd nw0 (16 : Int32).toNatClampNeg p0) (17 : Int32).toNatClampNeg p1) (18 : Int32).toNatClampNeg p2) (19 : Int32).toNatClampNeg p3) (20 : Int32).toNatClampNeg p4) (21 : Int32).toNatClampNeg p5) (22 : Int32).toNatClampNeg (-1))))] H := hP
  have hD : va_D (va_A (w_m_layNote cI cZ cP q p0 p1 p2 p3 p4 p5) sz) [(q, .inl (cI, 221, .inl (upd (upd (upd (upd (upd (upd (upd nw0 (16 : Int32).toNatClampNeg p0) (17 : Int32).toNatClampNeg p1) (18 : Int32).toNatClampNeg p2) (19 : Int32).toNatClampNeg p3) (20 : Int32).toNatClampNeg p4) (21 : Int32).toNatClampNeg p5) (22 : Int32).toNatClampNeg (-1))))] := hD
  refine lv_aload_n hx hb dX7_layNote_64 rfl (lv_at hl 1 rfl) ?_
  refine lv_iconst (v := 0) hx hb dX7_layNote_65 (by decide) ?_
  refine lv_dup2_11 hx hb dX7_layNote_66 rfl rfl ?_
  refine va_iald hx hb hK hP 0 0 rfl rfl (vin (by decide)) dX7_layNote_67 ?_
  refine q_i (z := 0) rfl ?_
  refine lv_iconst (v := 1) hx hb dX7_layNote_68 (by decide) ?_
  refine lv_iadd hx hb dX7_layNote_69 ?_
  refine q_i (z := 1) (by decide) ?_
  refine va_iast hx hb hK hP hD hS 0 0 rfl rfl (vin (by decide)) dX7_layNote_70 (fun H locs hP hD hS => ?_)
  have hP : va_P D vwCl [(q, .inl (cI, 221, .inl (upd (upd (upd (upd (upd (upd (upd (upd nw0 (16 : Int32).toNatClampNeg p0) (17 : Int32).toNatClampNeg p1) (18 : Int32).toNatClampNeg p2) (19 : Int32).toNatClampNeg p3) (20 : Int32).toNatClampNeg p4) (21 : Int32).toNatClampNeg p5) (22 : Int32).toNatClampNeg (-1)) (0 : Int32).toNatClampNeg 1)))] H := hP
  have hD : va_D (va_A (w_m_layNote cI cZ cP q p0 p1 p2 p3 p4 p5) sz) [(q, .inl (cI, 221, .inl (upd (upd (upd (upd (upd (upd (upd (upd nw0 (16 : Int32).toNatClampNeg p0) (17 : Int32).toNatClampNeg p1) (18 : Int32).toNatClampNeg p2) (19 : Int32).toNatClampNeg p3) (20 : Int32).toNatClampNeg p4) (21 : Int32).toNatClampNeg p5) (22 : Int32).toNatClampNeg (-1)) (0 : Int32).toNatClampNeg 1)))] := hD
  exact q_vret hX hr hlk () trivial (hP.sub [0] rfl) (hD.sub [0] (by decide) rfl) hS dX7_layNote_71
abbrev w_m_notes1 (cI cZ cP : ClassId) (mo : Nat) (a_now : Nat) (a_kep : Nat) (a_isk : Nat) (a_ref : Nat) (a_cw : Nat) (a_row : Nat) (a_lea : Nat) (a_sli : Nat) (a_lef : Nat) (a_bst : Nat) (a_try : Nat) (a_mom : Nat) (a_byt : Nat) (a_nxt : Nat) (a_val : Nat) (p0 : Int32) (p1 : Int32) (p2 : Int32) (p3 : Int32) (p4 : Int32) (p5 : Int32) : va_W := [(mo, .inr (7, [.ref a_now, .ref a_kep, .ref a_isk, .ref a_ref, .long 0, .long 1, .int 0, .int 0, .int 0, .int 0, .ref a_cw, .ref a_row, .int 0, .ref a_lea, .ref a_sli, .ref a_lef, .ref a_bst, .ref a_try, .int 0, .ref a_mom, .ref a_byt, .int 0, .int 0, .int 0, .int 0, .int 0, .ref a_nxt, .ref a_val])), (a_now, .inl (cI, 221, .inl (upd (upd (upd (upd (upd (upd (upd (upd (upd nw0 (16 : Int32).toNatClampNeg p0) (17 : Int32).toNatClampNeg p1) (18 : Int32).toNatClampNeg p2) (19 : Int32).toNatClampNeg p3) (20 : Int32).toNatClampNeg p4) (21 : Int32).toNatClampNeg p5) (22 : Int32).toNatClampNeg (-1)) (0 : Int32).toNatClampNeg 1) (100 : Int32).toNatClampNeg 0)))]
set_option maxHeartbeats 4000000 in
set_option maxRecDepth 100000 in
theorem c_m_notes1 (l : Launch) (D : va_G) (cI cZ cP : ClassId) (sa : Nat → Nat) (mo : Nat) (a_now : Nat) (a_kep : Nat) (a_isk : Nat) (a_ref : Nat) (a_cw : Nat) (a_row : Nat) (a_lea : Nat) (a_sli : Nat) (a_lef : Nat) (a_bst : Nat) (a_try : Nat) (a_mom : Nat) (a_byt : Nat) (a_nxt : Nat) (a_val : Nat) (p0 : Int32) (p1 : Int32) (p2 : Int32) (p3 : Int32) (p4 : Int32) (p5 : Int32) (sz : Nat) : Met l yX7_notes (qW yX7_notes cX7_notes 1 (some .int)) ({ frames := 0, cells := 0, slots := 0, locals := 0 } : Room) (qP D (TY cI cZ cP) sa [.ref mo] (w_m_notes1 cI cZ cP mo a_now a_kep a_isk a_ref a_cw a_row a_lea a_sli a_lef a_bst a_try a_mom a_byt a_nxt a_val p0 p1 p2 p3 p4 p5) sz) (qQi D (w_m_notes1 cI cZ cP mo a_now a_kep a_isk a_ref a_cw a_row a_lea a_sli a_lef a_bst a_try a_mom a_byt a_nxt a_val p0 p1 p2 p3 p4 p5) sz (fun (r : Int32) (_ : Unit) => r = 1) (fun _ => [(mo, .inr (7, [.ref a_now, .ref a_kep, .ref a_isk, .ref a_ref, .long 0, .long 1, .int 0, .int 0, .int 0, .int 0, .ref a_cw, .ref a_row, .int 0, .ref a_lea, .ref a_sli, .ref a_lef, .ref a_bst, .ref a_try, .int 0, .ref a_mom, .ref a_byt, .int 0, .int 0, .int 0, .int 0, .int 0, .ref a_nxt, .ref a_val])), (a_now, .inl (cI, 221, .inl (upd (upd (upd (upd (upd (upd (upd (upd (upd nw0 (16 : Int32).toNatClampNeg p0) (17 : Int32).toNatClampNeg p1) (18 : Int32).toNatClampNeg p2) (19 : Int32).toNatClampNeg p3) (20 : Int32).toNatClampNeg p4) (21 : Int32).toNatClampNeg p5) (22 : Int32).toNatClampNeg (-1)) (0 : Int32).toNatClampNeg 1) (100 : Int32).toNatClampNeg 0)))])) 0 0 (va_A (w_m_notes1 cI cZ cP mo a_now a_kep a_isk a_ref a_cw a_row a_lea a_sli a_lef a_bst a_try a_mom a_byt a_nxt a_val p0 p1 p2 p3 p4 p5) sz) := by
  refine q_enter (by decide) (Nat.le_of_ble_eq_true rfl) ?_
  intro p e s m below meth c ls hX hr hlk hnm hE hK hP hD hS hA hl
  obtain ⟨hx, hb, hml, hown, ht⟩ := id hX
  have hl : lv_has ls 1 [(0, .ref mo)] := hl
  refine lv_aload_n hx hb dX7_notes_0 rfl (lv_at hl 0 rfl) ?_
  refine va_get (D := D) (ci := 7) (v := .ref a_now) (C := RX7) (T := TX7) (N := 28) hx hb ht inX7 hown hK hP 0 rfl rfl 0 (Nat.le_of_ble_eq_true rfl) (ht _ kw_904) (fun _ h9 => h9) rfl dX7_notes_1 ?_
  refine lv_iconst (v := 0) hx hb dX7_notes_4 (by decide) ?_
  refine va_iald hx hb hK hP 1 0 rfl rfl (vin (by decide)) dX7_notes_5 ?_
  refine q_i (z := 1) rfl ?_
  exact q_iret hX hr hlk () rfl (hP.sub [0, 1] rfl) (hD.sub [0, 1] (by decide) rfl) hS dX7_notes_6
abbrev w_m_note (cI cZ cP : ClassId) (mo : Nat) (a_now : Nat) (a_kep : Nat) (a_isk : Nat) (a_ref : Nat) (a_cw : Nat) (a_row : Nat) (a_lea : Nat) (a_sli : Nat) (a_lef : Nat) (a_bst : Nat) (a_try : Nat) (a_mom : Nat) (a_byt : Nat) (a_nxt : Nat) (a_val : Nat) (p0 : Int32) (p1 : Int32) (p2 : Int32) (p3 : Int32) (p4 : Int32) (p5 : Int32) : va_W := [(mo, .inr (7, [.ref a_now, .ref a_kep, .ref a_isk, .ref a_ref, .long 0, .long 1, .int 0, .int 0, .int 0, .int 0, .ref a_cw, .ref a_row, .int 0, .ref a_lea, .ref a_sli, .ref a_lef, .ref a_bst, .ref a_try, .int 0, .ref a_mom, .ref a_byt, .int 0, .int 0, .int 0, .int 0, .int 0, .ref a_nxt, .ref a_val])), (a_now, .inl (cI, 221, .inl nw0)), (a_ref, .inl (cI, 3, .inl (fun _ => 0)))]
set_option maxHeartbeats 4000000 in
set_option maxRecDepth 100000 in
theorem c_m_note (l : Launch) (D : va_G) (cI cZ cP : ClassId) (sa : Nat → Nat) (mo : Nat) (a_now : Nat) (a_kep : Nat) (a_isk : Nat) (a_ref : Nat) (a_cw : Nat) (a_row : Nat) (a_lea : Nat) (a_sli : Nat) (a_lef : Nat) (a_bst : Nat) (a_try : Nat) (a_mom : Nat) (a_byt : Nat) (a_nxt : Nat) (a_val : Nat) (p0 : Int32) (p1 : Int32) (p2 : Int32) (p3 : Int32) (p4 : Int32) (p5 : Int32) (sz : Nat) : Met l yX7_note (qW yX7_note cX7_note 7 (some .int)) ({ frames := 1, cells := 0, slots := 0, locals := 27 } : Room) (qP D (TY cI cZ cP) sa [.ref mo, .int p0, .int p1, .int p2, .int p3, .int p4, .int p5] (w_m_note cI cZ cP mo a_now a_kep a_isk a_ref a_cw a_row a_lea a_sli a_lef a_bst a_try a_mom a_byt a_nxt a_val p0 p1 p2 p3 p4 p5) sz) (qQi D (w_m_note cI cZ cP mo a_now a_kep a_isk a_ref a_cw a_row a_lea a_sli a_lef a_bst a_try a_mom a_byt a_nxt a_val p0 p1 p2 p3 p4 p5) sz (fun (r : Int32) (_ : Unit) => r = sm_note p0 p1 p2 p3 p4 p5) (fun _ => [])) 0 0 (va_A (w_m_note cI cZ cP mo a_now a_kep a_isk a_ref a_cw a_row a_lea a_sli a_lef a_bst a_try a_mom a_byt a_nxt a_val p0 p1 p2 p3 p4 p5) sz) := by
  refine q_enter (by decide) (Nat.le_of_ble_eq_true rfl) ?_
  intro p e s m below meth c ls hX hr hlk hnm hE hK hP hD hS hA hl
  obtain ⟨hx, hb, hml, hown, ht⟩ := id hX
  have hl : lv_has ls 7 [(0, .ref mo), (1, .int p0), (2, .int p1), (3, .int p2), (4, .int p3), (5, .int p4), (6, .int p5)] := hl
  refine lv_iload_n hx hb dX7_note_0 rfl (lv_at hl 1 rfl) ?_
  refine lv_i2l (v := (p0.toInt64)) hx hb dX7_note_1 rfl ?_
  refine lv_lconst (v := 0) hx hb dX7_note_2 (by decide) ?_
  refine q_l (z := ((0 : Int32).toInt64)) (by decide) ?_
  refine lv_ldc2 hx hb hown (ht _ kw_1023) dX7_note_3 ?_
  refine q_l (z := ((47 : Int32).toInt64)) (by decide) ?_
  refine q_Si (wr := [(mo, .inr (7, [.ref a_now, .ref a_kep, .ref a_isk, .ref a_ref, .long 0, .long 1, .int 0, .int 0, .int 0, .int 0, .ref a_cw, .ref a_row, .int 0, .ref a_lea, .ref a_sli, .ref a_lef, .ref a_bst, .ref a_try, .int 0, .ref a_mom, .ref a_byt, .int 0, .int 0, .int 0, .int 0, .int 0, .ref a_nxt, .ref a_val])), (a_now, .inl (cI, 221, .inl nw0)), (a_ref, .inl (cI, 3, .inl (fun _ => 0)))]) [] [0, 1, 2] hX hE hK hP hD hS hA hl.1 lk_X7_68 (c_m_in l D cI cZ cP sa p0 0 47 _) rfl rfl rfl rfl (by decide) rfl rfl (Nat.le_of_ble_eq_true rfl) rfl rfl ⟨Nat.le_of_ble_eq_true rfl, Nat.le_of_ble_eq_true rfl⟩ ⟨Nat.le_of_ble_eq_true rfl, Nat.le_of_ble_eq_true rfl⟩ dX7_note_6 (fun x_1 _ H locs h_1 hP hD hS => ?_)
  have hP : va_P D vwCl [(mo, .inr (7, [.ref a_now, .ref a_kep, .ref a_isk, .ref a_ref, .long 0, .long 1, .int 0, .int 0, .int 0, .int 0, .ref a_cw, .ref a_row, .int 0, .ref a_lea, .ref a_sli, .ref a_lef, .ref a_bst, .ref a_try, .int 0, .ref a_mom, .ref a_byt, .int 0, .int 0, .int 0, .int 0, .int 0, .ref a_nxt, .ref a_val])), (a_now, .inl (cI, 221, .inl nw0)), (a_ref, .inl (cI, 3, .inl (fun _ => 0)))] H := hP
  have hD : va_D (va_A (w_m_note cI cZ cP mo a_now a_kep a_isk a_ref a_cw a_row a_lea a_sli a_lef a_bst a_try a_mom a_byt a_nxt a_val p0 p1 p2 p3 p4 p5) sz) [(mo, .inr (7, [.ref a_now, .ref a_kep, .ref a_isk, .ref a_ref, .long 0, .long 1, .int 0, .int 0, .int 0, .int 0, .ref a_cw, .ref a_row, .int 0, .ref a_lea, .ref a_sli, .ref a_lef, .ref a_bst, .ref a_try, .int 0, .ref a_mom, .ref a_byt, .int 0, .int 0, .int 0, .int 0, .int 0, .ref a_nxt, .ref a_val])), (a_now, .inl (cI, 221, .inl nw0)), (a_ref, .inl (cI, 3, .inl (fun _ => 0)))] := hD
  rcases Classical.em (0 ≤ p0 ∧ p0 ≤ 47) with c_1 | c_1
  · rw [if_pos c_1] at h_1; subst h_1
    refine lv_if_eq (tgt := 83) hx hb dX7_note_9 (by decide) (fun c_2 => absurd c_2 (by decide)) (fun _ => ?_)
    refine lv_iload_n hx hb dX7_note_12 rfl (lv_at hl 2 rfl) ?_
    refine lv_i2l (v := (p1.toInt64)) hx hb dX7_note_13 rfl ?_
    refine lv_lconst (v := 0) hx hb dX7_note_14 (by decide) ?_
    refine q_l (z := ((0 : Int32).toInt64)) (by decide) ?_
    refine lv_ldc2 hx hb hown (ht _ kw_1024) dX7_note_15 ?_
    refine q_l (z := ((63 : Int32).toInt64)) (by decide) ?_
    refine q_Si (wr := [(mo, .inr (7, [.ref a_now, .ref a_kep, .ref a_isk, .ref a_ref, .long 0, .long 1, .int 0, .int 0, .int 0, .int 0, .ref a_cw, .ref a_row, .int 0, .ref a_lea, .ref a_sli, .ref a_lef, .ref a_bst, .ref a_try, .int 0, .ref a_mom, .ref a_byt, .int 0, .int 0, .int 0, .int 0, .int 0, .ref a_nxt, .ref a_val])), (a_now, .inl (cI, 221, .inl nw0)), (a_ref, .inl (cI, 3, .inl (fun _ => 0)))]) [] [0, 1, 2] hX hE hK hP hD hS hA hl.1 lk_X7_68 (c_m_in l D cI cZ cP sa p1 0 63 _) rfl rfl rfl rfl (by decide) rfl rfl (Nat.le_of_ble_eq_true rfl) rfl rfl ⟨Nat.le_of_ble_eq_true rfl, Nat.le_of_ble_eq_true rfl⟩ ⟨Nat.le_of_ble_eq_true rfl, Nat.le_of_ble_eq_true rfl⟩ dX7_note_18 (fun x_3 _ H locs h_3 hP hD hS => ?_)
    have hP : va_P D vwCl [(mo, .inr (7, [.ref a_now, .ref a_kep, .ref a_isk, .ref a_ref, .long 0, .long 1, .int 0, .int 0, .int 0, .int 0, .ref a_cw, .ref a_row, .int 0, .ref a_lea, .ref a_sli, .ref a_lef, .ref a_bst, .ref a_try, .int 0, .ref a_mom, .ref a_byt, .int 0, .int 0, .int 0, .int 0, .int 0, .ref a_nxt, .ref a_val])), (a_now, .inl (cI, 221, .inl nw0)), (a_ref, .inl (cI, 3, .inl (fun _ => 0)))] H := hP
    have hD : va_D (va_A (w_m_note cI cZ cP mo a_now a_kep a_isk a_ref a_cw a_row a_lea a_sli a_lef a_bst a_try a_mom a_byt a_nxt a_val p0 p1 p2 p3 p4 p5) sz) [(mo, .inr (7, [.ref a_now, .ref a_kep, .ref a_isk, .ref a_ref, .long 0, .long 1, .int 0, .int 0, .int 0, .int 0, .ref a_cw, .ref a_row, .int 0, .ref a_lea, .ref a_sli, .ref a_lef, .ref a_bst, .ref a_try, .int 0, .ref a_mom, .ref a_byt, .int 0, .int 0, .int 0, .int 0, .int 0, .ref a_nxt, .ref a_val])), (a_now, .inl (cI, 221, .inl nw0)), (a_ref, .inl (cI, 3, .inl (fun _ => 0)))] := hD
    rcases Classical.em (0 ≤ p1 ∧ p1 ≤ 63) with c_3 | c_3
    · rw [if_pos c_3] at h_3; subst h_3
      refine lv_if_eq (tgt := 83) hx hb dX7_note_21 (by decide) (fun c_4 => absurd c_4 (by decide)) (fun _ => ?_)
      refine lv_iload_n hx hb dX7_note_24 rfl (lv_at hl 3 rfl) ?_
      refine lv_i2l (v := (p2.toInt64)) hx hb dX7_note_25 rfl ?_
      refine lv_lconst (v := 1) hx hb dX7_note_26 (by decide) ?_
      refine q_l (z := ((1 : Int32).toInt64)) (by decide) ?_
      refine lv_ldc2 hx hb hown (ht _ kw_1025) dX7_note_27 ?_
      refine q_l (z := ((8 : Int32).toInt64)) (by decide) ?_
      refine q_Si (wr := [(mo, .inr (7, [.ref a_now, .ref a_kep, .ref a_isk, .ref a_ref, .long 0, .long 1, .int 0, .int 0, .int 0, .int 0, .ref a_cw, .ref a_row, .int 0, .ref a_lea, .ref a_sli, .ref a_lef, .ref a_bst, .ref a_try, .int 0, .ref a_mom, .ref a_byt, .int 0, .int 0, .int 0, .int 0, .int 0, .ref a_nxt, .ref a_val])), (a_now, .inl (cI, 221, .inl nw0)), (a_ref, .inl (cI, 3, .inl (fun _ => 0)))]) [] [0, 1, 2] hX hE hK hP hD hS hA hl.1 lk_X7_68 (c_m_in l D cI cZ cP sa p2 1 8 _) rfl rfl rfl rfl (by decide) rfl rfl (Nat.le_of_ble_eq_true rfl) rfl rfl ⟨Nat.le_of_ble_eq_true rfl, Nat.le_of_ble_eq_true rfl⟩ ⟨Nat.le_of_ble_eq_true rfl, Nat.le_of_ble_eq_true rfl⟩ dX7_note_30 (fun x_5 _ H locs h_5 hP hD hS => ?_)
      have hP : va_P D vwCl [(mo, .inr (7, [.ref a_now, .ref a_kep, .ref a_isk, .ref a_ref, .long 0, .long 1, .int 0, .int 0, .int 0, .int 0, .ref a_cw, .ref a_row, .int 0, .ref a_lea, .ref a_sli, .ref a_lef, .ref a_bst, .ref a_try, .int 0, .ref a_mom, .ref a_byt, .int 0, .int 0, .int 0, .int 0, .int 0, .ref a_nxt, .ref a_val])), (a_now, .inl (cI, 221, .inl nw0)), (a_ref, .inl (cI, 3, .inl (fun _ => 0)))] H := hP
      have hD : va_D (va_A (w_m_note cI cZ cP mo a_now a_kep a_isk a_ref a_cw a_row a_lea a_sli a_lef a_bst a_try a_mom a_byt a_nxt a_val p0 p1 p2 p3 p4 p5) sz) [(mo, .inr (7, [.ref a_now, .ref a_kep, .ref a_isk, .ref a_ref, .long 0, .long 1, .int 0, .int 0, .int 0, .int 0, .ref a_cw, .ref a_row, .int 0, .ref a_lea, .ref a_sli, .ref a_lef, .ref a_bst, .ref a_try, .int 0, .ref a_mom, .ref a_byt, .int 0, .int 0, .int 0, .int 0, .int 0, .ref a_nxt, .ref a_val])), (a_now, .inl (cI, 221, .inl nw0)), (a_ref, .inl (cI, 3, .inl (fun _ => 0)))] := hD
      rcases Classical.em (1 ≤ p2 ∧ p2 ≤ 8) with c_5 | c_5
      · rw [if_pos c_5] at h_5; subst h_5
        refine lv_if_eq (tgt := 83) hx hb dX7_note_33 (by decide) (fun c_6 => absurd c_6 (by decide)) (fun _ => ?_)
        refine lv_iload_n hx hb dX7_note_36 rfl (lv_at hl 2 rfl) ?_
        refine lv_iload_n hx hb dX7_note_37 rfl (lv_at hl 3 rfl) ?_
        refine lv_iadd hx hb dX7_note_38 ?_
        refine lv_bipush (v := 64) hx hb dX7_note_39 (by decide) ?_
        refine lv_icmp_gt (tgt := 83) hx hb dX7_note_41 (by decide) (fun c_7 => ?_) (fun c_7 => ?_)
        · refine lv_aload_n hx hb dX7_note_83 rfl (lv_at hl 0 rfl) ?_
          refine lv_bipush (v := (-2)) hx hb dX7_note_84 (by decide) ?_
          refine q_Vi (wr := [(a_now, .inl (cI, 221, .inl nw0))]) [0, 2] [1] hX hE hK hP hD hS hA hl.1 lk_X7_76 (c_m_bad l D cI cZ cP sa mo a_now a_kep a_isk a_ref a_cw a_row a_lea a_sli a_lef a_bst a_try a_mom a_byt a_nxt a_val 0 1 0 0 0 0 0 0 0 0 0 0 0 (-2) _) rfl rfl rfl rfl (by decide) 0 7 rfl rfl rfl rfl (Nat.le_of_ble_eq_true rfl) rfl rfl ⟨Nat.le_of_ble_eq_true rfl, Nat.le_of_ble_eq_true rfl⟩ ⟨Nat.le_of_ble_eq_true rfl, Nat.le_of_ble_eq_true rfl⟩ dX7_note_86 (fun x_8 _ H locs h_8 hP hD hS => ?_)
          have hP : va_P D vwCl [(a_now, .inl (cI, 221, .inl nw0))] H := hP
          have hD : va_D (va_A (w_m_note cI cZ cP mo a_now a_kep a_isk a_ref a_cw a_row a_lea a_sli a_lef a_bst a_try a_mom a_byt a_nxt a_val p0 p1 p2 p3 p4 p5) sz) [(a_now, .inl (cI, 221, .inl nw0))] := hD
          subst h_8
          exact q_iret hX hr hlk () (by simp [sm_note, c_1, c_3, c_5, c_7]) (hP.sub [] rfl) (hD.sub [] (by decide) rfl) hS dX7_note_89
        · refine lv_iload hx hb dX7_note_44 (lv_at hl 4 rfl) ?_
          refine lv_i2l (v := (p3.toInt64)) hx hb dX7_note_46 rfl ?_
          refine lv_lconst (v := 0) hx hb dX7_note_47 (by decide) ?_
          refine q_l (z := ((0 : Int32).toInt64)) (by decide) ?_
          refine lv_lconst (v := 1) hx hb dX7_note_48 (by decide) ?_
          refine q_l (z := ((1 : Int32).toInt64)) (by decide) ?_
          refine q_Si (wr := [(mo, .inr (7, [.ref a_now, .ref a_kep, .ref a_isk, .ref a_ref, .long 0, .long 1, .int 0, .int 0, .int 0, .int 0, .ref a_cw, .ref a_row, .int 0, .ref a_lea, .ref a_sli, .ref a_lef, .ref a_bst, .ref a_try, .int 0, .ref a_mom, .ref a_byt, .int 0, .int 0, .int 0, .int 0, .int 0, .ref a_nxt, .ref a_val])), (a_now, .inl (cI, 221, .inl nw0)), (a_ref, .inl (cI, 3, .inl (fun _ => 0)))]) [] [0, 1, 2] hX hE hK hP hD hS hA hl.1 lk_X7_68 (c_m_in l D cI cZ cP sa p3 0 1 _) rfl rfl rfl rfl (by decide) rfl rfl (Nat.le_of_ble_eq_true rfl) rfl rfl ⟨Nat.le_of_ble_eq_true rfl, Nat.le_of_ble_eq_true rfl⟩ ⟨Nat.le_of_ble_eq_true rfl, Nat.le_of_ble_eq_true rfl⟩ dX7_note_49 (fun x_9 _ H locs h_9 hP hD hS => ?_)
          have hP : va_P D vwCl [(mo, .inr (7, [.ref a_now, .ref a_kep, .ref a_isk, .ref a_ref, .long 0, .long 1, .int 0, .int 0, .int 0, .int 0, .ref a_cw, .ref a_row, .int 0, .ref a_lea, .ref a_sli, .ref a_lef, .ref a_bst, .ref a_try, .int 0, .ref a_mom, .ref a_byt, .int 0, .int 0, .int 0, .int 0, .int 0, .ref a_nxt, .ref a_val])), (a_now, .inl (cI, 221, .inl nw0)), (a_ref, .inl (cI, 3, .inl (fun _ => 0)))] H := hP
          have hD : va_D (va_A (w_m_note cI cZ cP mo a_now a_kep a_isk a_ref a_cw a_row a_lea a_sli a_lef a_bst a_try a_mom a_byt a_nxt a_val p0 p1 p2 p3 p4 p5) sz) [(mo, .inr (7, [.ref a_now, .ref a_kep, .ref a_isk, .ref a_ref, .long 0, .long 1, .int 0, .int 0, .int 0, .int 0, .ref a_cw, .ref a_row, .int 0, .ref a_lea, .ref a_sli, .ref a_lef, .ref a_bst, .ref a_try, .int 0, .ref a_mom, .ref a_byt, .int 0, .int 0, .int 0, .int 0, .int 0, .ref a_nxt, .ref a_val])), (a_now, .inl (cI, 221, .inl nw0)), (a_ref, .inl (cI, 3, .inl (fun _ => 0)))] := hD
          rcases Classical.em (0 ≤ p3 ∧ p3 ≤ 1) with c_9 | c_9
          · rw [if_pos c_9] at h_9; subst h_9
            refine lv_if_eq (tgt := 83) hx hb dX7_note_52 (by decide) (fun c_10 => absurd c_10 (by decide)) (fun _ => ?_)
            refine lv_iload hx hb dX7_note_55 (lv_at hl 5 rfl) ?_
            refine lv_i2l (v := (p4.toInt64)) hx hb dX7_note_57 rfl ?_
            refine lv_lconst (v := 0) hx hb dX7_note_58 (by decide) ?_
            refine q_l (z := ((0 : Int32).toInt64)) (by decide) ?_
            refine lv_ldc2 hx hb hown (ht _ kw_994) dX7_note_59 ?_
            refine q_l (z := ((9 : Int32).toInt64)) (by decide) ?_
            refine q_Si (wr := [(mo, .inr (7, [.ref a_now, .ref a_kep, .ref a_isk, .ref a_ref, .long 0, .long 1, .int 0, .int 0, .int 0, .int 0, .ref a_cw, .ref a_row, .int 0, .ref a_lea, .ref a_sli, .ref a_lef, .ref a_bst, .ref a_try, .int 0, .ref a_mom, .ref a_byt, .int 0, .int 0, .int 0, .int 0, .int 0, .ref a_nxt, .ref a_val])), (a_now, .inl (cI, 221, .inl nw0)), (a_ref, .inl (cI, 3, .inl (fun _ => 0)))]) [] [0, 1, 2] hX hE hK hP hD hS hA hl.1 lk_X7_68 (c_m_in l D cI cZ cP sa p4 0 9 _) rfl rfl rfl rfl (by decide) rfl rfl (Nat.le_of_ble_eq_true rfl) rfl rfl ⟨Nat.le_of_ble_eq_true rfl, Nat.le_of_ble_eq_true rfl⟩ ⟨Nat.le_of_ble_eq_true rfl, Nat.le_of_ble_eq_true rfl⟩ dX7_note_62 (fun x_11 _ H locs h_11 hP hD hS => ?_)
            have hP : va_P D vwCl [(mo, .inr (7, [.ref a_now, .ref a_kep, .ref a_isk, .ref a_ref, .long 0, .long 1, .int 0, .int 0, .int 0, .int 0, .ref a_cw, .ref a_row, .int 0, .ref a_lea, .ref a_sli, .ref a_lef, .ref a_bst, .ref a_try, .int 0, .ref a_mom, .ref a_byt, .int 0, .int 0, .int 0, .int 0, .int 0, .ref a_nxt, .ref a_val])), (a_now, .inl (cI, 221, .inl nw0)), (a_ref, .inl (cI, 3, .inl (fun _ => 0)))] H := hP
            have hD : va_D (va_A (w_m_note cI cZ cP mo a_now a_kep a_isk a_ref a_cw a_row a_lea a_sli a_lef a_bst a_try a_mom a_byt a_nxt a_val p0 p1 p2 p3 p4 p5) sz) [(mo, .inr (7, [.ref a_now, .ref a_kep, .ref a_isk, .ref a_ref, .long 0, .long 1, .int 0, .int 0, .int 0, .int 0, .ref a_cw, .ref a_row, .int 0, .ref a_lea, .ref a_sli, .ref a_lef, .ref a_bst, .ref a_try, .int 0, .ref a_mom, .ref a_byt, .int 0, .int 0, .int 0, .int 0, .int 0, .ref a_nxt, .ref a_val])), (a_now, .inl (cI, 221, .inl nw0)), (a_ref, .inl (cI, 3, .inl (fun _ => 0)))] := hD
            rcases Classical.em (0 ≤ p4 ∧ p4 ≤ 9) with c_11 | c_11
            · rw [if_pos c_11] at h_11; subst h_11
              refine lv_if_eq (tgt := 83) hx hb dX7_note_65 (by decide) (fun c_12 => absurd c_12 (by decide)) (fun _ => ?_)
              refine lv_iload hx hb dX7_note_68 (lv_at hl 6 rfl) ?_
              refine lv_i2l (v := (p5.toInt64)) hx hb dX7_note_70 rfl ?_
              refine lv_ldc2 hx hb hown (ht _ kw_1026) dX7_note_71 ?_
              refine q_l (z := ((-1 : Int32).toInt64)) (by decide) ?_
              refine lv_ldc2 hx hb hown (ht _ kw_1013) dX7_note_74 ?_
              refine q_l (z := ((3 : Int32).toInt64)) (by decide) ?_
              refine q_Si (wr := [(mo, .inr (7, [.ref a_now, .ref a_kep, .ref a_isk, .ref a_ref, .long 0, .long 1, .int 0, .int 0, .int 0, .int 0, .ref a_cw, .ref a_row, .int 0, .ref a_lea, .ref a_sli, .ref a_lef, .ref a_bst, .ref a_try, .int 0, .ref a_mom, .ref a_byt, .int 0, .int 0, .int 0, .int 0, .int 0, .ref a_nxt, .ref a_val])), (a_now, .inl (cI, 221, .inl nw0)), (a_ref, .inl (cI, 3, .inl (fun _ => 0)))]) [] [0, 1, 2] hX hE hK hP hD hS hA hl.1 lk_X7_68 (c_m_in l D cI cZ cP sa p5 (-1) 3 _) rfl rfl rfl rfl (by decide) rfl rfl (Nat.le_of_ble_eq_true rfl) rfl rfl ⟨Nat.le_of_ble_eq_true rfl, Nat.le_of_ble_eq_true rfl⟩ ⟨Nat.le_of_ble_eq_true rfl, Nat.le_of_ble_eq_true rfl⟩ dX7_note_77 (fun x_13 _ H locs h_13 hP hD hS => ?_)
              have hP : va_P D vwCl [(mo, .inr (7, [.ref a_now, .ref a_kep, .ref a_isk, .ref a_ref, .long 0, .long 1, .int 0, .int 0, .int 0, .int 0, .ref a_cw, .ref a_row, .int 0, .ref a_lea, .ref a_sli, .ref a_lef, .ref a_bst, .ref a_try, .int 0, .ref a_mom, .ref a_byt, .int 0, .int 0, .int 0, .int 0, .int 0, .ref a_nxt, .ref a_val])), (a_now, .inl (cI, 221, .inl nw0)), (a_ref, .inl (cI, 3, .inl (fun _ => 0)))] H := hP
              have hD : va_D (va_A (w_m_note cI cZ cP mo a_now a_kep a_isk a_ref a_cw a_row a_lea a_sli a_lef a_bst a_try a_mom a_byt a_nxt a_val p0 p1 p2 p3 p4 p5) sz) [(mo, .inr (7, [.ref a_now, .ref a_kep, .ref a_isk, .ref a_ref, .long 0, .long 1, .int 0, .int 0, .int 0, .int 0, .ref a_cw, .ref a_row, .int 0, .ref a_lea, .ref a_sli, .ref a_lef, .ref a_bst, .ref a_try, .int 0, .ref a_mom, .ref a_byt, .int 0, .int 0, .int 0, .int 0, .int 0, .ref a_nxt, .ref a_val])), (a_now, .inl (cI, 221, .inl nw0)), (a_ref, .inl (cI, 3, .inl (fun _ => 0)))] := hD
              rcases Classical.em ((-1) ≤ p5 ∧ p5 ≤ 3) with c_13 | c_13
              · rw [if_pos c_13] at h_13; subst h_13
                refine lv_if_ne (tgt := 90) hx hb dX7_note_80 (by decide) (fun _ => ?_) (fun c_14 => absurd c_14 (by decide))
                refine lv_aload_n hx hb dX7_note_90 rfl (lv_at hl 0 rfl) ?_
                refine q_Vi (wr := [(a_ref, .inl (cI, 3, .inl (fun _ => 0)))]) [0, 1] [2] hX hE hK hP hD hS hA hl.1 lk_X7_64 (c_m_notes l D cI cZ cP sa mo a_now a_kep a_isk a_ref a_cw a_row a_lea a_sli a_lef a_bst a_try a_mom a_byt a_nxt a_val 0 1 0 0 0 0 0 0 0 0 0 0 0 _) rfl rfl rfl rfl (by decide) 0 7 rfl rfl rfl rfl (Nat.le_of_ble_eq_true rfl) rfl rfl ⟨Nat.le_of_ble_eq_true rfl, Nat.le_of_ble_eq_true rfl⟩ ⟨Nat.le_of_ble_eq_true rfl, Nat.le_of_ble_eq_true rfl⟩ dX7_note_91 (fun x_15 _ H locs h_15 hP hD hS => ?_)
                have hP : va_P D vwCl [(a_ref, .inl (cI, 3, .inl (fun _ => 0))), (mo, .inr (7, [.ref a_now, .ref a_kep, .ref a_isk, .ref a_ref, .long 0, .long 1, .int 0, .int 0, .int 0, .int 0, .ref a_cw, .ref a_row, .int 0, .ref a_lea, .ref a_sli, .ref a_lef, .ref a_bst, .ref a_try, .int 0, .ref a_mom, .ref a_byt, .int 0, .int 0, .int 0, .int 0, .int 0, .ref a_nxt, .ref a_val])), (a_now, .inl (cI, 221, .inl nw0))] H := hP
                have hD : va_D (va_A (w_m_note cI cZ cP mo a_now a_kep a_isk a_ref a_cw a_row a_lea a_sli a_lef a_bst a_try a_mom a_byt a_nxt a_val p0 p1 p2 p3 p4 p5) sz) [(a_ref, .inl (cI, 3, .inl (fun _ => 0))), (mo, .inr (7, [.ref a_now, .ref a_kep, .ref a_isk, .ref a_ref, .long 0, .long 1, .int 0, .int 0, .int 0, .int 0, .ref a_cw, .ref a_row, .int 0, .ref a_lea, .ref a_sli, .ref a_lef, .ref a_bst, .ref a_try, .int 0, .ref a_mom, .ref a_byt, .int 0, .int 0, .int 0, .int 0, .int 0, .ref a_nxt, .ref a_val])), (a_now, .inl (cI, 221, .inl nw0))] := hD
                subst h_15
                refine lv_bipush (v := 12) hx hb dX7_note_94 (by decide) ?_
                refine lv_icmp_ne (tgt := 104) hx hb dX7_note_96 (by decide) (fun _ => ?_) (fun c_16 => absurd c_16 (by decide))
                refine lv_aload_n hx hb dX7_note_104 rfl (lv_at hl 0 rfl) ?_
                refine va_get (D := D) (ci := 7) (v := .ref a_now) (C := RX7) (T := TX7) (N := 28) hx hb ht inX7 hown hK hP 1 rfl rfl 0 (Nat.le_of_ble_eq_true rfl) (ht _ kw_904) (fun _ h9 => h9) rfl dX7_note_105 ?_
                refine lv_iload_n hx hb dX7_note_108 rfl (lv_at hl 1 rfl) ?_
                refine lv_iload_n hx hb dX7_note_109 rfl (lv_at hl 2 rfl) ?_
                refine lv_iload_n hx hb dX7_note_110 rfl (lv_at hl 3 rfl) ?_
                refine lv_iload hx hb dX7_note_111 (lv_at hl 4 rfl) ?_
                refine lv_iload hx hb dX7_note_113 (lv_at hl 5 rfl) ?_
                refine lv_iload hx hb dX7_note_115 (lv_at hl 6 rfl) ?_
                refine q_Sv (wr := [(a_ref, .inl (cI, 3, .inl (fun _ => 0))), (mo, .inr (7, [.ref a_now, .ref a_kep, .ref a_isk, .ref a_ref, .long 0, .long 1, .int 0, .int 0, .int 0, .int 0, .ref a_cw, .ref a_row, .int 0, .ref a_lea, .ref a_sli, .ref a_lef, .ref a_bst, .ref a_try, .int 0, .ref a_mom, .ref a_byt, .int 0, .int 0, .int 0, .int 0, .int 0, .ref a_nxt, .ref a_val]))]) [2] [0, 1] hX hE hK hP hD hS hA hl.1 lk_X7_103 (c_m_layNote l D cI cZ cP sa a_now p0 p1 p2 p3 p4 p5 _) rfl rfl rfl rfl (by decide) rfl rfl (Nat.le_of_ble_eq_true rfl) rfl rfl ⟨Nat.le_of_ble_eq_true rfl, Nat.le_of_ble_eq_true rfl⟩ ⟨Nat.le_of_ble_eq_true rfl, Nat.le_of_ble_eq_true rfl⟩ dX7_note_117 (fun _ H locs h_17 hP hD hS => ?_)
                have hP : va_P D vwCl [(a_ref, .inl (cI, 3, .inl (fun _ => 0))), (mo, .inr (7, [.ref a_now, .ref a_kep, .ref a_isk, .ref a_ref, .long 0, .long 1, .int 0, .int 0, .int 0, .int 0, .ref a_cw, .ref a_row, .int 0, .ref a_lea, .ref a_sli, .ref a_lef, .ref a_bst, .ref a_try, .int 0, .ref a_mom, .ref a_byt, .int 0, .int 0, .int 0, .int 0, .int 0, .ref a_nxt, .ref a_val])), (a_now, .inl (cI, 221, .inl (upd (upd (upd (upd (upd (upd (upd (upd nw0 (16 : Int32).toNatClampNeg p0) (17 : Int32).toNatClampNeg p1) (18 : Int32).toNatClampNeg p2) (19 : Int32).toNatClampNeg p3) (20 : Int32).toNatClampNeg p4) (21 : Int32).toNatClampNeg p5) (22 : Int32).toNatClampNeg (-1)) (0 : Int32).toNatClampNeg 1)))] H := hP
                have hD : va_D (va_A (w_m_note cI cZ cP mo a_now a_kep a_isk a_ref a_cw a_row a_lea a_sli a_lef a_bst a_try a_mom a_byt a_nxt a_val p0 p1 p2 p3 p4 p5) sz) [(a_ref, .inl (cI, 3, .inl (fun _ => 0))), (mo, .inr (7, [.ref a_now, .ref a_kep, .ref a_isk, .ref a_ref, .long 0, .long 1, .int 0, .int 0, .int 0, .int 0, .ref a_cw, .ref a_row, .int 0, .ref a_lea, .ref a_sli, .ref a_lef, .ref a_bst, .ref a_try, .int 0, .ref a_mom, .ref a_byt, .int 0, .int 0, .int 0, .int 0, .int 0, .ref a_nxt, .ref a_val])), (a_now, .inl (cI, 221, .inl (upd (upd (upd (upd (upd (upd (upd (upd nw0 (16 : Int32).toNatClampNeg p0) (17 : Int32).toNatClampNeg p1) (18 : Int32).toNatClampNeg p2) (19 : Int32).toNatClampNeg p3) (20 : Int32).toNatClampNeg p4) (21 : Int32).toNatClampNeg p5) (22 : Int32).toNatClampNeg (-1)) (0 : Int32).toNatClampNeg 1)))] := hD
                refine lv_aload_n hx hb dX7_note_120 rfl (lv_at hl 0 rfl) ?_
                refine va_get (D := D) (ci := 7) (v := .ref a_now) (C := RX7) (T := TX7) (N := 28) hx hb ht inX7 hown hK hP 1 rfl rfl 0 (Nat.le_of_ble_eq_true rfl) (ht _ kw_904) (fun _ h9 => h9) rfl dX7_note_121 ?_
                refine lv_bipush (v := 100) hx hb dX7_note_124 (by decide) ?_
                refine lv_iconst (v := 0) hx hb dX7_note_126 (by decide) ?_
                refine va_iast hx hb hK hP hD hS 2 0 rfl rfl (vin (by decide)) dX7_note_127 (fun H locs hP hD hS => ?_)
                have hP : va_P D vwCl [(a_ref, .inl (cI, 3, .inl (fun _ => 0))), (mo, .inr (7, [.ref a_now, .ref a_kep, .ref a_isk, .ref a_ref, .long 0, .long 1, .int 0, .int 0, .int 0, .int 0, .ref a_cw, .ref a_row, .int 0, .ref a_lea, .ref a_sli, .ref a_lef, .ref a_bst, .ref a_try, .int 0, .ref a_mom, .ref a_byt, .int 0, .int 0, .int 0, .int 0, .int 0, .ref a_nxt, .ref a_val])), (a_now, .inl (cI, 221, .inl (upd (upd (upd (upd (upd (upd (upd (upd (upd nw0 (16 : Int32).toNatClampNeg p0) (17 : Int32).toNatClampNeg p1) (18 : Int32).toNatClampNeg p2) (19 : Int32).toNatClampNeg p3) (20 : Int32).toNatClampNeg p4) (21 : Int32).toNatClampNeg p5) (22 : Int32).toNatClampNeg (-1)) (0 : Int32).toNatClampNeg 1) (100 : Int32).toNatClampNeg 0)))] H := hP
                have hD : va_D (va_A (w_m_note cI cZ cP mo a_now a_kep a_isk a_ref a_cw a_row a_lea a_sli a_lef a_bst a_try a_mom a_byt a_nxt a_val p0 p1 p2 p3 p4 p5) sz) [(a_ref, .inl (cI, 3, .inl (fun _ => 0))), (mo, .inr (7, [.ref a_now, .ref a_kep, .ref a_isk, .ref a_ref, .long 0, .long 1, .int 0, .int 0, .int 0, .int 0, .ref a_cw, .ref a_row, .int 0, .ref a_lea, .ref a_sli, .ref a_lef, .ref a_bst, .ref a_try, .int 0, .ref a_mom, .ref a_byt, .int 0, .int 0, .int 0, .int 0, .int 0, .ref a_nxt, .ref a_val])), (a_now, .inl (cI, 221, .inl (upd (upd (upd (upd (upd (upd (upd (upd (upd nw0 (16 : Int32).toNatClampNeg p0) (17 : Int32).toNatClampNeg p1) (18 : Int32).toNatClampNeg p2) (19 : Int32).toNatClampNeg p3) (20 : Int32).toNatClampNeg p4) (21 : Int32).toNatClampNeg p5) (22 : Int32).toNatClampNeg (-1)) (0 : Int32).toNatClampNeg 1) (100 : Int32).toNatClampNeg 0)))] := hD
                refine lv_aload_n hx hb dX7_note_128 rfl (lv_at hl 0 rfl) ?_
                refine q_Vi (wr := [(a_ref, .inl (cI, 3, .inl (fun _ => 0)))]) [1, 2] [0] hX hE hK hP hD hS hA hl.1 lk_X7_64 (c_m_notes1 l D cI cZ cP sa mo a_now a_kep a_isk a_ref a_cw a_row a_lea a_sli a_lef a_bst a_try a_mom a_byt a_nxt a_val p0 p1 p2 p3 p4 p5 _) rfl rfl rfl rfl (by decide) 0 7 rfl rfl rfl rfl (Nat.le_of_ble_eq_true rfl) rfl rfl ⟨Nat.le_of_ble_eq_true rfl, Nat.le_of_ble_eq_true rfl⟩ ⟨Nat.le_of_ble_eq_true rfl, Nat.le_of_ble_eq_true rfl⟩ dX7_note_129 (fun x_18 _ H locs h_18 hP hD hS => ?_)
                have hP : va_P D vwCl [(a_ref, .inl (cI, 3, .inl (fun _ => 0))), (mo, .inr (7, [.ref a_now, .ref a_kep, .ref a_isk, .ref a_ref, .long 0, .long 1, .int 0, .int 0, .int 0, .int 0, .ref a_cw, .ref a_row, .int 0, .ref a_lea, .ref a_sli, .ref a_lef, .ref a_bst, .ref a_try, .int 0, .ref a_mom, .ref a_byt, .int 0, .int 0, .int 0, .int 0, .int 0, .ref a_nxt, .ref a_val])), (a_now, .inl (cI, 221, .inl (upd (upd (upd (upd (upd (upd (upd (upd (upd nw0 (16 : Int32).toNatClampNeg p0) (17 : Int32).toNatClampNeg p1) (18 : Int32).toNatClampNeg p2) (19 : Int32).toNatClampNeg p3) (20 : Int32).toNatClampNeg p4) (21 : Int32).toNatClampNeg p5) (22 : Int32).toNatClampNeg (-1)) (0 : Int32).toNatClampNeg 1) (100 : Int32).toNatClampNeg 0)))] H := hP
                have hD : va_D (va_A (w_m_note cI cZ cP mo a_now a_kep a_isk a_ref a_cw a_row a_lea a_sli a_lef a_bst a_try a_mom a_byt a_nxt a_val p0 p1 p2 p3 p4 p5) sz) [(a_ref, .inl (cI, 3, .inl (fun _ => 0))), (mo, .inr (7, [.ref a_now, .ref a_kep, .ref a_isk, .ref a_ref, .long 0, .long 1, .int 0, .int 0, .int 0, .int 0, .ref a_cw, .ref a_row, .int 0, .ref a_lea, .ref a_sli, .ref a_lef, .ref a_bst, .ref a_try, .int 0, .ref a_mom, .ref a_byt, .int 0, .int 0, .int 0, .int 0, .int 0, .ref a_nxt, .ref a_val])), (a_now, .inl (cI, 221, .inl (upd (upd (upd (upd (upd (upd (upd (upd (upd nw0 (16 : Int32).toNatClampNeg p0) (17 : Int32).toNatClampNeg p1) (18 : Int32).toNatClampNeg p2) (19 : Int32).toNatClampNeg p3) (20 : Int32).toNatClampNeg p4) (21 : Int32).toNatClampNeg p5) (22 : Int32).toNatClampNeg (-1)) (0 : Int32).toNatClampNeg 1) (100 : Int32).toNatClampNeg 0)))] := hD
                subst h_18
                refine lv_iconst (v := 1) hx hb dX7_note_132 (by decide) ?_
                refine lv_isub hx hb dX7_note_133 ?_
                refine q_i (z := 0) (by decide) ?_
                exact q_iret hX hr hlk () (by simp [sm_note, c_1, c_3, c_5, c_7, c_9, c_11, c_13]) (hP.sub [] rfl) (hD.sub [] (by decide) rfl) hS dX7_note_134
              · rw [if_neg c_13] at h_13; subst h_13
                refine lv_if_ne (tgt := 90) hx hb dX7_note_80 (by decide) (fun c_19 => absurd (by decide) c_19) (fun _ => ?_)
                refine lv_aload_n hx hb dX7_note_83 rfl (lv_at hl 0 rfl) ?_
                refine lv_bipush (v := (-2)) hx hb dX7_note_84 (by decide) ?_
                refine q_Vi (wr := [(a_now, .inl (cI, 221, .inl nw0))]) [0, 2] [1] hX hE hK hP hD hS hA hl.1 lk_X7_76 (c_m_bad l D cI cZ cP sa mo a_now a_kep a_isk a_ref a_cw a_row a_lea a_sli a_lef a_bst a_try a_mom a_byt a_nxt a_val 0 1 0 0 0 0 0 0 0 0 0 0 0 (-2) _) rfl rfl rfl rfl (by decide) 0 7 rfl rfl rfl rfl (Nat.le_of_ble_eq_true rfl) rfl rfl ⟨Nat.le_of_ble_eq_true rfl, Nat.le_of_ble_eq_true rfl⟩ ⟨Nat.le_of_ble_eq_true rfl, Nat.le_of_ble_eq_true rfl⟩ dX7_note_86 (fun x_20 _ H locs h_20 hP hD hS => ?_)
                have hP : va_P D vwCl [(a_now, .inl (cI, 221, .inl nw0))] H := hP
                have hD : va_D (va_A (w_m_note cI cZ cP mo a_now a_kep a_isk a_ref a_cw a_row a_lea a_sli a_lef a_bst a_try a_mom a_byt a_nxt a_val p0 p1 p2 p3 p4 p5) sz) [(a_now, .inl (cI, 221, .inl nw0))] := hD
                subst h_20
                exact q_iret hX hr hlk () (by simp [sm_note, c_1, c_3, c_5, c_7, c_9, c_11, c_13]) (hP.sub [] rfl) (hD.sub [] (by decide) rfl) hS dX7_note_89
            · rw [if_neg c_11] at h_11; subst h_11
              refine lv_if_eq (tgt := 83) hx hb dX7_note_65 (by decide) (fun _ => ?_) (fun c_21 => absurd (by decide) c_21)
              refine lv_aload_n hx hb dX7_note_83 rfl (lv_at hl 0 rfl) ?_
              refine lv_bipush (v := (-2)) hx hb dX7_note_84 (by decide) ?_
              refine q_Vi (wr := [(a_now, .inl (cI, 221, .inl nw0))]) [0, 2] [1] hX hE hK hP hD hS hA hl.1 lk_X7_76 (c_m_bad l D cI cZ cP sa mo a_now a_kep a_isk a_ref a_cw a_row a_lea a_sli a_lef a_bst a_try a_mom a_byt a_nxt a_val 0 1 0 0 0 0 0 0 0 0 0 0 0 (-2) _) rfl rfl rfl rfl (by decide) 0 7 rfl rfl rfl rfl (Nat.le_of_ble_eq_true rfl) rfl rfl ⟨Nat.le_of_ble_eq_true rfl, Nat.le_of_ble_eq_true rfl⟩ ⟨Nat.le_of_ble_eq_true rfl, Nat.le_of_ble_eq_true rfl⟩ dX7_note_86 (fun x_22 _ H locs h_22 hP hD hS => ?_)
              have hP : va_P D vwCl [(a_now, .inl (cI, 221, .inl nw0))] H := hP
              have hD : va_D (va_A (w_m_note cI cZ cP mo a_now a_kep a_isk a_ref a_cw a_row a_lea a_sli a_lef a_bst a_try a_mom a_byt a_nxt a_val p0 p1 p2 p3 p4 p5) sz) [(a_now, .inl (cI, 221, .inl nw0))] := hD
              subst h_22
              exact q_iret hX hr hlk () (by simp [sm_note, c_1, c_3, c_5, c_7, c_9, c_11]) (hP.sub [] rfl) (hD.sub [] (by decide) rfl) hS dX7_note_89
          · rw [if_neg c_9] at h_9; subst h_9
            refine lv_if_eq (tgt := 83) hx hb dX7_note_52 (by decide) (fun _ => ?_) (fun c_23 => absurd (by decide) c_23)
            refine lv_aload_n hx hb dX7_note_83 rfl (lv_at hl 0 rfl) ?_
            refine lv_bipush (v := (-2)) hx hb dX7_note_84 (by decide) ?_
            refine q_Vi (wr := [(a_now, .inl (cI, 221, .inl nw0))]) [0, 2] [1] hX hE hK hP hD hS hA hl.1 lk_X7_76 (c_m_bad l D cI cZ cP sa mo a_now a_kep a_isk a_ref a_cw a_row a_lea a_sli a_lef a_bst a_try a_mom a_byt a_nxt a_val 0 1 0 0 0 0 0 0 0 0 0 0 0 (-2) _) rfl rfl rfl rfl (by decide) 0 7 rfl rfl rfl rfl (Nat.le_of_ble_eq_true rfl) rfl rfl ⟨Nat.le_of_ble_eq_true rfl, Nat.le_of_ble_eq_true rfl⟩ ⟨Nat.le_of_ble_eq_true rfl, Nat.le_of_ble_eq_true rfl⟩ dX7_note_86 (fun x_24 _ H locs h_24 hP hD hS => ?_)
            have hP : va_P D vwCl [(a_now, .inl (cI, 221, .inl nw0))] H := hP
            have hD : va_D (va_A (w_m_note cI cZ cP mo a_now a_kep a_isk a_ref a_cw a_row a_lea a_sli a_lef a_bst a_try a_mom a_byt a_nxt a_val p0 p1 p2 p3 p4 p5) sz) [(a_now, .inl (cI, 221, .inl nw0))] := hD
            subst h_24
            exact q_iret hX hr hlk () (by simp [sm_note, c_1, c_3, c_5, c_7, c_9]) (hP.sub [] rfl) (hD.sub [] (by decide) rfl) hS dX7_note_89
      · rw [if_neg c_5] at h_5; subst h_5
        refine lv_if_eq (tgt := 83) hx hb dX7_note_33 (by decide) (fun _ => ?_) (fun c_25 => absurd (by decide) c_25)
        refine lv_aload_n hx hb dX7_note_83 rfl (lv_at hl 0 rfl) ?_
        refine lv_bipush (v := (-2)) hx hb dX7_note_84 (by decide) ?_
        refine q_Vi (wr := [(a_now, .inl (cI, 221, .inl nw0))]) [0, 2] [1] hX hE hK hP hD hS hA hl.1 lk_X7_76 (c_m_bad l D cI cZ cP sa mo a_now a_kep a_isk a_ref a_cw a_row a_lea a_sli a_lef a_bst a_try a_mom a_byt a_nxt a_val 0 1 0 0 0 0 0 0 0 0 0 0 0 (-2) _) rfl rfl rfl rfl (by decide) 0 7 rfl rfl rfl rfl (Nat.le_of_ble_eq_true rfl) rfl rfl ⟨Nat.le_of_ble_eq_true rfl, Nat.le_of_ble_eq_true rfl⟩ ⟨Nat.le_of_ble_eq_true rfl, Nat.le_of_ble_eq_true rfl⟩ dX7_note_86 (fun x_26 _ H locs h_26 hP hD hS => ?_)
        have hP : va_P D vwCl [(a_now, .inl (cI, 221, .inl nw0))] H := hP
        have hD : va_D (va_A (w_m_note cI cZ cP mo a_now a_kep a_isk a_ref a_cw a_row a_lea a_sli a_lef a_bst a_try a_mom a_byt a_nxt a_val p0 p1 p2 p3 p4 p5) sz) [(a_now, .inl (cI, 221, .inl nw0))] := hD
        subst h_26
        exact q_iret hX hr hlk () (by simp [sm_note, c_1, c_3, c_5]) (hP.sub [] rfl) (hD.sub [] (by decide) rfl) hS dX7_note_89
    · rw [if_neg c_3] at h_3; subst h_3
      refine lv_if_eq (tgt := 83) hx hb dX7_note_21 (by decide) (fun _ => ?_) (fun c_27 => absurd (by decide) c_27)
      refine lv_aload_n hx hb dX7_note_83 rfl (lv_at hl 0 rfl) ?_
      refine lv_bipush (v := (-2)) hx hb dX7_note_84 (by decide) ?_
      refine q_Vi (wr := [(a_now, .inl (cI, 221, .inl nw0))]) [0, 2] [1] hX hE hK hP hD hS hA hl.1 lk_X7_76 (c_m_bad l D cI cZ cP sa mo a_now a_kep a_isk a_ref a_cw a_row a_lea a_sli a_lef a_bst a_try a_mom a_byt a_nxt a_val 0 1 0 0 0 0 0 0 0 0 0 0 0 (-2) _) rfl rfl rfl rfl (by decide) 0 7 rfl rfl rfl rfl (Nat.le_of_ble_eq_true rfl) rfl rfl ⟨Nat.le_of_ble_eq_true rfl, Nat.le_of_ble_eq_true rfl⟩ ⟨Nat.le_of_ble_eq_true rfl, Nat.le_of_ble_eq_true rfl⟩ dX7_note_86 (fun x_28 _ H locs h_28 hP hD hS => ?_)
      have hP : va_P D vwCl [(a_now, .inl (cI, 221, .inl nw0))] H := hP
      have hD : va_D (va_A (w_m_note cI cZ cP mo a_now a_kep a_isk a_ref a_cw a_row a_lea a_sli a_lef a_bst a_try a_mom a_byt a_nxt a_val p0 p1 p2 p3 p4 p5) sz) [(a_now, .inl (cI, 221, .inl nw0))] := hD
      subst h_28
      exact q_iret hX hr hlk () (by simp [sm_note, c_1, c_3]) (hP.sub [] rfl) (hD.sub [] (by decide) rfl) hS dX7_note_89
  · rw [if_neg c_1] at h_1; subst h_1
    refine lv_if_eq (tgt := 83) hx hb dX7_note_9 (by decide) (fun _ => ?_) (fun c_29 => absurd (by decide) c_29)
    refine lv_aload_n hx hb dX7_note_83 rfl (lv_at hl 0 rfl) ?_
    refine lv_bipush (v := (-2)) hx hb dX7_note_84 (by decide) ?_
    refine q_Vi (wr := [(a_now, .inl (cI, 221, .inl nw0))]) [0, 2] [1] hX hE hK hP hD hS hA hl.1 lk_X7_76 (c_m_bad l D cI cZ cP sa mo a_now a_kep a_isk a_ref a_cw a_row a_lea a_sli a_lef a_bst a_try a_mom a_byt a_nxt a_val 0 1 0 0 0 0 0 0 0 0 0 0 0 (-2) _) rfl rfl rfl rfl (by decide) 0 7 rfl rfl rfl rfl (Nat.le_of_ble_eq_true rfl) rfl rfl ⟨Nat.le_of_ble_eq_true rfl, Nat.le_of_ble_eq_true rfl⟩ ⟨Nat.le_of_ble_eq_true rfl, Nat.le_of_ble_eq_true rfl⟩ dX7_note_86 (fun x_30 _ H locs h_30 hP hD hS => ?_)
    have hP : va_P D vwCl [(a_now, .inl (cI, 221, .inl nw0))] H := hP
    have hD : va_D (va_A (w_m_note cI cZ cP mo a_now a_kep a_isk a_ref a_cw a_row a_lea a_sli a_lef a_bst a_try a_mom a_byt a_nxt a_val p0 p1 p2 p3 p4 p5) sz) [(a_now, .inl (cI, 221, .inl nw0))] := hD
    subst h_30
    exact q_iret hX hr hlk () (by simp [sm_note, c_1]) (hP.sub [] rfl) (hD.sub [] (by decide) rfl) hS dX7_note_89
