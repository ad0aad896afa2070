abbrev w_m_in (cI cZ cP : ClassId) (p0 : Int32) (p1 : Int32) (p2 : Int32) : va_W := []
set_option maxHeartbeats 4000000 in
set_option maxRecDepth 100000 in
theorem c_m_in (l : Launch) (D : va_G) (cI cZ cP : ClassId) (sa : Nat → Nat) (p0 : Int32) (p1 : Int32) (p2 : Int32) (sz : Nat) : Met l yX7_in (qW yX7_in cX7_in 6 (some .boolean)) ({ frames := 0, cells := 0, slots := 0, locals := 0 } : Room) (qP D (TY cI cZ cP) sa [.long (p0.toInt64), .long (p1.toInt64), .long (p2.toInt64)] (w_m_in cI cZ cP p0 p1 p2) sz) (qQi D (w_m_in cI cZ cP p0 p1 p2) sz (fun (r : Int32) (_ : Unit) => r = if p1 ≤ p0 ∧ p0 ≤ p2 then 1 else 0) (fun _ => [])) 0 0 (va_A (w_m_in cI cZ cP p0 p1 p2) sz) := by
  refine q_enter (by decide) (Nat.le_of_ble_eq_true rfl) ?_
  intro p e s m below meth c ls hX hr hlk hnm hE hK hP hD hS hA hl
  obtain ⟨hx, hb, hml, hown, ht⟩ := id hX
  have hl : lv_has ls 6 [(0, .long (p0.toInt64)), (2, .long (p1.toInt64)), (4, .long (p2.toInt64))] := hl
  refine lv_lload_n hx hb dX7_in_0 rfl (lv_at hl 0 rfl) ?_
  refine lv_lload_n hx hb dX7_in_1 rfl (lv_at hl 1 rfl) ?_
  refine W.lcmp hx hb dX7_in_2 ?_
  refine lv_if_lt (tgt := 17) hx hb dX7_in_3 (by decide) (fun c_1 => ?_) (fun c_1 => ?_)
  · refine lv_iconst (v := 0) hx hb dX7_in_17 (by decide) ?_
    exact q_zret hX hr hlk (by decide) () (by rw [if_neg (fun h => m_lt c_1 h.1)]) (hP.sub [] rfl) (hD.sub [] (by decide) rfl) hS dX7_in_18
  · refine lv_lload_n hx hb dX7_in_6 rfl (lv_at hl 0 rfl) ?_
    refine lv_lload hx hb dX7_in_7 (lv_at hl 2 rfl) ?_
    refine W.lcmp hx hb dX7_in_9 ?_
    refine lv_if_gt (tgt := 17) hx hb dX7_in_10 (by decide) (fun c_2 => ?_) (fun c_2 => ?_)
    · refine lv_iconst (v := 0) hx hb dX7_in_17 (by decide) ?_
      exact q_zret hX hr hlk (by decide) () (by rw [if_neg (fun h => m_gt c_2 h.2)]) (hP.sub [] rfl) (hD.sub [] (by decide) rfl) hS dX7_in_18
    · refine lv_iconst (v := 1) hx hb dX7_in_13 (by decide) ?_
      refine lv_goto (tgt := 18) hx hb dX7_in_14 (by decide) ?_
      exact q_zret hX hr hlk (by decide) () (by rw [if_pos ⟨m_ge c_1, m_le c_2⟩]) (hP.sub [] rfl) (hD.sub [] (by decide) rfl) hS dX7_in_18
abbrev w_M_bad (cI cZ cP : ClassId) (mo : Nat) (mo_now : Nat) (mo_kept : Nat) (mo_isKept : Nat) (mo_refused : Nat) (f_mo_refused : Nat → Int32) (mo_above : Int64) (mo_below : Int64) (mo_fewest : Int32) (mo_manyGiven : Int32) (mo_firstGiven : Int32) (mo_secondGiven : Int32) (mo_clashWith : Nat) (mo_row : Nat) (mo_rowLong : Int32) (mo_least : Nat) (mo_slips : Nat) (mo_left : Nat) (mo_bestRow : Nat) (mo_tryRow : Nat) (mo_leastSlips : Int32) (mo_moments : Nat) (mo_bytes : Nat) (mo_bytesLong : Int32) (mo_tokenAt : Int32) (mo_tokenLong : Int32) (mo_token : Int32) (mo_value : Int32) (mo_next : Nat) (mo_values : Nat) (p0 : Int32) : va_W := [(mo, .inr (7, [.ref mo_now, .ref mo_kept, .ref mo_isKept, .ref mo_refused, .long mo_above, .long mo_below, .int mo_fewest, .int mo_manyGiven, .int mo_firstGiven, .int mo_secondGiven, .ref mo_clashWith, .ref mo_row, .int mo_rowLong, .ref mo_least, .ref mo_slips, .ref mo_left, .ref mo_bestRow, .ref mo_tryRow, .int mo_leastSlips, .ref mo_moments, .ref mo_bytes, .int mo_bytesLong, .int mo_tokenAt, .int mo_tokenLong, .int mo_token, .int mo_value, .ref mo_next, .ref mo_values])), (mo_refused, .inl (cI, 3, .inl f_mo_refused))]
set_option maxHeartbeats 4000000 in
set_option maxRecDepth 100000 in
theorem c_M_bad (l : Launch) (D : va_G) (cI cZ cP : ClassId) (sa : Nat → Nat) (mo : Nat) (mo_now : Nat) (mo_kept : Nat) (mo_isKept : Nat) (mo_refused : Nat) (f_mo_refused : Nat → Int32) (mo_above : Int64) (mo_below : Int64) (mo_fewest : Int32) (mo_manyGiven : Int32) (mo_firstGiven : Int32) (mo_secondGiven : Int32) (mo_clashWith : Nat) (mo_row : Nat) (mo_rowLong : Int32) (mo_least : Nat) (mo_slips : Nat) (mo_left : Nat) (mo_bestRow : Nat) (mo_tryRow : Nat) (mo_leastSlips : Int32) (mo_moments : Nat) (mo_bytes : Nat) (mo_bytesLong : Int32) (mo_tokenAt : Int32) (mo_tokenLong : Int32) (mo_token : Int32) (mo_value : Int32) (mo_next : Nat) (mo_values : Nat) (p0 : Int32) (h_mo_rowLong : rg mo_rowLong 0 12) (h_mo_bytesLong : rg mo_bytesLong 0 150) (h_mo_tokenAt : rg mo_tokenAt 0 150) (h_mo_tokenLong : rg mo_tokenLong 0 150) (sz : Nat) : Met l yX7_bad (qW yX7_bad cX7_bad 2 (some .int)) ({ frames := 0, cells := 0, slots := 0, locals := 0 } : Room) (qP D (TY cI cZ cP) sa [.ref mo, .int p0] (w_M_bad cI cZ cP mo mo_now mo_kept mo_isKept mo_refused f_mo_refused mo_above mo_below mo_fewest mo_manyGiven mo_firstGiven mo_secondGiven mo_clashWith mo_row mo_rowLong mo_least mo_slips mo_left mo_bestRow mo_tryRow mo_leastSlips mo_moments mo_bytes mo_bytesLong mo_tokenAt mo_tokenLong mo_token mo_value mo_next mo_values p0) sz) (qQi D (w_M_bad cI cZ cP mo mo_now mo_kept mo_isKept mo_refused f_mo_refused mo_above mo_below mo_fewest mo_manyGiven mo_firstGiven mo_secondGiven mo_clashWith mo_row mo_rowLong mo_least mo_slips mo_left mo_bestRow mo_tryRow mo_leastSlips mo_moments mo_bytes mo_bytesLong mo_tokenAt mo_tokenLong mo_token mo_value mo_next mo_values p0) sz (fun (r : Int32) (u : (Nat → Int32)) => r = p0) (fun u : (Nat → Int32) => [(mo, .inr (7, [.ref mo_now, .ref mo_kept, .ref mo_isKept, .ref mo_refused, .long mo_above, .long mo_below, .int mo_fewest, .int mo_manyGiven, .int mo_firstGiven, .int mo_secondGiven, .ref mo_clashWith, .ref mo_row, .int mo_rowLong, .ref mo_least, .ref mo_slips, .ref mo_left, .ref mo_bestRow, .ref mo_tryRow, .int mo_leastSlips, .ref mo_moments, .ref mo_bytes, .int mo_bytesLong, .int mo_tokenAt, .int mo_tokenLong, .int mo_token, .int mo_value, .ref mo_next, .ref mo_values])), (mo_refused, .inl (cI, 3, .inl u))])) 0 0 (va_A (w_M_bad cI cZ cP mo mo_now mo_kept mo_isKept mo_refused f_mo_refused mo_above mo_below mo_fewest mo_manyGiven mo_firstGiven mo_secondGiven mo_clashWith mo_row mo_rowLong mo_least mo_slips mo_left mo_bestRow mo_tryRow mo_leastSlips mo_moments mo_bytes mo_bytesLong mo_tokenAt mo_tokenLong mo_token mo_value mo_next mo_values p0) sz) := by
  refine q_enter (by decide) (Nat.le_of_ble_eq_true rfl) ?_
  intro p e s m below meth c ls hX hr hlk hnm hE hK hP hD hS hA hl
  obtain ⟨hx, hb, hml, hown, ht⟩ := id hX
  have hl : lv_has ls 2 [(0, .ref mo), (1, .int p0)] := hl
  refine lv_aload_n hx hb dX7_bad_0 rfl (lv_at hl 0 rfl) ?_
  refine va_get (D := D) (ci := 7) (v := .ref mo_refused) (C := RX7) (T := TX7) (N := 28) hx hb ht inX7 hown hK hP 0 rfl rfl 3 (Nat.le_of_ble_eq_true rfl) (ht _ kw_907) (fun _ h9 => h9) rfl dX7_bad_1 ?_
  refine lv_iconst (v := 0) hx hb dX7_bad_4 (by decide) ?_
  refine lv_dup2_11 hx hb dX7_bad_5 rfl rfl ?_
  refine va_iald hx hb hK hP 1 0 rfl rfl (rg_in (rg_of (by decide) : rg (0 : Int32) 0 0) (by decide)) dX7_bad_6 ?_
  refine lv_topi (fun v6 e_v6 => ?_)
  refine lv_iconst (v := 1) hx hb dX7_bad_7 (by decide) ?_
  refine lv_iadd hx hb dX7_bad_8 ?_
  refine lv_topi (fun v8 e_v8 => ?_)
  refine va_iast hx hb hK hP hD hS 1 0 rfl rfl (rg_in (rg_of (by decide) : rg (0 : Int32) 0 0) (by decide)) dX7_bad_9 (fun H locs hP hD hS => ?_)
  have hP : va_P D vwCl [(mo, .inr (7, [.ref mo_now, .ref mo_kept, .ref mo_isKept, .ref mo_refused, .long mo_above, .long mo_below, .int mo_fewest, .int mo_manyGiven, .int mo_firstGiven, .int mo_secondGiven, .ref mo_clashWith, .ref mo_row, .int mo_rowLong, .ref mo_least, .ref mo_slips, .ref mo_left, .ref mo_bestRow, .ref mo_tryRow, .int mo_leastSlips, .ref mo_moments, .ref mo_bytes, .int mo_bytesLong, .int mo_tokenAt, .int mo_tokenLong, .int mo_token, .int mo_value, .ref mo_next, .ref mo_values])), (mo_refused, .inl (cI, 3, .inl (upd f_mo_refused (0 : Int32).toNatClampNeg v8)))] H := hP
  have hD : va_D (va_A (w_M_bad cI cZ cP mo mo_now mo_kept mo_isKept mo_refused f_mo_refused mo_above mo_below mo_fewest mo_manyGiven mo_firstGiven mo_secondGiven mo_clashWith mo_row mo_rowLong mo_least mo_slips mo_left mo_bestRow mo_tryRow mo_leastSlips mo_moments mo_bytes mo_bytesLong mo_tokenAt mo_tokenLong mo_token mo_value mo_next mo_values p0) sz) [(mo, .inr (7, [.ref mo_now, .ref mo_kept, .ref mo_isKept, .ref mo_refused, .long mo_above, .long mo_below, .int mo_fewest, .int mo_manyGiven, .int mo_firstGiven, .int mo_secondGiven, .ref mo_clashWith, .ref mo_row, .int mo_rowLong, .ref mo_least, .ref mo_slips, .ref mo_left, .ref mo_bestRow, .ref mo_tryRow, .int mo_leastSlips, .ref mo_moments, .ref mo_bytes, .int mo_bytesLong, .int mo_tokenAt, .int mo_tokenLong, .int mo_token, .int mo_value, .ref mo_next, .ref mo_values])), (mo_refused, .inl (cI, 3, .inl (upd f_mo_refused (0 : Int32).toNatClampNeg v8)))] := hD
  generalize hf_f9 : (upd f_mo_refused (0 : Int32).toNatClampNeg v8) = f9 at hP hD
  have hP : va_P D vwCl [(mo, .inr (7, [.ref mo_now, .ref mo_kept, .ref mo_isKept, .ref mo_refused, .long mo_above, .long mo_below, .int mo_fewest, .int mo_manyGiven, .int mo_firstGiven, .int mo_secondGiven, .ref mo_clashWith, .ref mo_row, .int mo_rowLong, .ref mo_least, .ref mo_slips, .ref mo_left, .ref mo_bestRow, .ref mo_tryRow, .int mo_leastSlips, .ref mo_moments, .ref mo_bytes, .int mo_bytesLong, .int mo_tokenAt, .int mo_tokenLong, .int mo_token, .int mo_value, .ref mo_next, .ref mo_values])), (mo_refused, .inl (cI, 3, .inl f9))] H := hP
  have hD : va_D (va_A (w_M_bad cI cZ cP mo mo_now mo_kept mo_isKept mo_refused f_mo_refused mo_above mo_below mo_fewest mo_manyGiven mo_firstGiven mo_secondGiven mo_clashWith mo_row mo_rowLong mo_least mo_slips mo_left mo_bestRow mo_tryRow mo_leastSlips mo_moments mo_bytes mo_bytesLong mo_tokenAt mo_tokenLong mo_token mo_value mo_next mo_values p0) sz) [(mo, .inr (7, [.ref mo_now, .ref mo_kept, .ref mo_isKept, .ref mo_refused, .long mo_above, .long mo_below, .int mo_fewest, .int mo_manyGiven, .int mo_firstGiven, .int mo_secondGiven, .ref mo_clashWith, .ref mo_row, .int mo_rowLong, .ref mo_least, .ref mo_slips, .ref mo_left, .ref mo_bestRow, .ref mo_tryRow, .int mo_leastSlips, .ref mo_moments, .ref mo_bytes, .int mo_bytesLong, .int mo_tokenAt, .int mo_tokenLong, .int mo_token, .int mo_value, .ref mo_next, .ref mo_values])), (mo_refused, .inl (cI, 3, .inl f9))] := hD
  refine lv_iload_n hx hb dX7_bad_10 rfl (lv_at hl 1 rfl) ?_
  exact q_iret hX hr hlk f9 rfl hP hD hS dX7_bad_11
abbrev w_M_no (cI cZ cP : ClassId) (mo : Nat) (mo_now : Nat) (mo_kept : Nat) (mo_isKept : Nat) (mo_refused : Nat) (f_mo_refused : Nat → Int32) (mo_above : Int64) (mo_below : Int64) (mo_fewest : Int32) (mo_manyGiven : Int32) (mo_firstGiven : Int32) (mo_secondGiven : Int32) (mo_clashWith : Nat) (mo_row : Nat) (mo_rowLong : Int32) (mo_least : Nat) (mo_slips : Nat) (mo_left : Nat) (mo_bestRow : Nat) (mo_tryRow : Nat) (mo_leastSlips : Int32) (mo_moments : Nat) (mo_bytes : Nat) (mo_bytesLong : Int32) (mo_tokenAt : Int32) (mo_tokenLong : Int32) (mo_token : Int32) (mo_value : Int32) (mo_next : Nat) (mo_values : Nat) (p0 : Int32) : va_W := [(mo, .inr (7, [.ref mo_now, .ref mo_kept, .ref mo_isKept, .ref mo_refused, .long mo_above, .long mo_below, .int mo_fewest, .int mo_manyGiven, .int mo_firstGiven, .int mo_secondGiven, .ref mo_clashWith, .ref mo_row, .int mo_rowLong, .ref mo_least, .ref mo_slips, .ref mo_left, .ref mo_bestRow, .ref mo_tryRow, .int mo_leastSlips, .ref mo_moments, .ref mo_bytes, .int mo_bytesLong, .int mo_tokenAt, .int mo_tokenLong, .int mo_token, .int mo_value, .ref mo_next, .ref mo_values])), (mo_refused, .inl (cI, 3, .inl f_mo_refused))]
set_option maxHeartbeats 4000000 in
set_option maxRecDepth 100000 in
theorem c_M_no (l : Launch) (D : va_G) (cI cZ cP : ClassId) (sa : Nat → Nat) (mo : Nat) (mo_now : Nat) (mo_kept : Nat) (mo_isKept : Nat) (mo_refused : Nat) (f_mo_refused : Nat → Int32) (mo_above : Int64) (mo_below : Int64) (mo_fewest : Int32) (mo_manyGiven : Int32) (mo_firstGiven : Int32) (mo_secondGiven : Int32) (mo_clashWith : Nat) (mo_row : Nat) (mo_rowLong : Int32) (mo_least : Nat) (mo_slips : Nat) (mo_left : Nat) (mo_bestRow : Nat) (mo_tryRow : Nat) (mo_leastSlips : Int32) (mo_moments : Nat) (mo_bytes : Nat) (mo_bytesLong : Int32) (mo_tokenAt : Int32) (mo_tokenLong : Int32) (mo_token : Int32) (mo_value : Int32) (mo_next : Nat) (mo_values : Nat) (p0 : Int32) (h_mo_rowLong : rg mo_rowLong 0 12) (h_mo_bytesLong : rg mo_bytesLong 0 150) (h_mo_tokenAt : rg mo_tokenAt 0 150) (h_mo_tokenLong : rg mo_tokenLong 0 150) (sz : Nat) : Met l yX7_no (qW yX7_no cX7_no 2 (some .int)) ({ frames := 0, cells := 0, slots := 0, locals := 0 } : Room) (qP D (TY cI cZ cP) sa [.ref mo, .int p0] (w_M_no cI cZ cP mo mo_now mo_kept mo_isKept mo_refused f_mo_refused mo_above mo_below mo_fewest mo_manyGiven mo_firstGiven mo_secondGiven mo_clashWith mo_row mo_rowLong mo_least mo_slips mo_left mo_bestRow mo_tryRow mo_leastSlips mo_moments mo_bytes mo_bytesLong mo_tokenAt mo_tokenLong mo_token mo_value mo_next mo_values p0) sz) (qQi D (w_M_no cI cZ cP mo mo_now mo_kept mo_isKept mo_refused f_mo_refused mo_above mo_below mo_fewest mo_manyGiven mo_firstGiven mo_secondGiven mo_clashWith mo_row mo_rowLong mo_least mo_slips mo_left mo_bestRow mo_tryRow mo_leastSlips mo_moments mo_bytes mo_bytesLong mo_tokenAt mo_tokenLong mo_token mo_value mo_next mo_values p0) sz (fun (r : Int32) (u : (Nat → Int32)) => r = p0) (fun u : (Nat → Int32) => [(mo, .inr (7, [.ref mo_now, .ref mo_kept, .ref mo_isKept, .ref mo_refused, .long mo_above, .long mo_below, .int mo_fewest, .int mo_manyGiven, .int mo_firstGiven, .int mo_secondGiven, .ref mo_clashWith, .ref mo_row, .int mo_rowLong, .ref mo_least, .ref mo_slips, .ref mo_left, .ref mo_bestRow, .ref mo_tryRow, .int mo_leastSlips, .ref mo_moments, .ref mo_bytes, .int mo_bytesLong, .int mo_tokenAt, .int mo_tokenLong, .int mo_token, .int mo_value, .ref mo_next, .ref mo_values])), (mo_refused, .inl (cI, 3, .inl u))])) 0 0 (va_A (w_M_no cI cZ cP mo mo_now mo_kept mo_isKept mo_refused f_mo_refused mo_above mo_below mo_fewest mo_manyGiven mo_firstGiven mo_secondGiven mo_clashWith mo_row mo_rowLong mo_least mo_slips mo_left mo_bestRow mo_tryRow mo_leastSlips mo_moments mo_bytes mo_bytesLong mo_tokenAt mo_tokenLong mo_token mo_value mo_next mo_values p0) sz) := by
  refine q_enter (by decide) (Nat.le_of_ble_eq_true rfl) ?_
  intro p e s m below meth c ls hX hr hlk hnm hE hK hP hD hS hA hl
  obtain ⟨hx, hb, hml, hown, ht⟩ := id hX
  have hl : lv_has ls 2 [(0, .ref mo), (1, .int p0)] := hl
  refine lv_aload_n hx hb dX7_no_0 rfl (lv_at hl 0 rfl) ?_
  refine va_get (D := D) (ci := 7) (v := .ref mo_refused) (C := RX7) (T := TX7) (N := 28) hx hb ht inX7 hown hK hP 0 rfl rfl 3 (Nat.le_of_ble_eq_true rfl) (ht _ kw_907) (fun _ h9 => h9) rfl dX7_no_1 ?_
  refine lv_iconst (v := 1) hx hb dX7_no_4 (by decide) ?_
  refine lv_dup2_11 hx hb dX7_no_5 rfl rfl ?_
  refine va_iald hx hb hK hP 1 0 rfl rfl (rg_in (rg_of (by decide) : rg (1 : Int32) 1 1) (by decide)) dX7_no_6 ?_
  refine lv_topi (fun v6 e_v6 => ?_)
  refine lv_iconst (v := 1) hx hb dX7_no_7 (by decide) ?_
  refine lv_iadd hx hb dX7_no_8 ?_
  refine lv_topi (fun v8 e_v8 => ?_)
  refine va_iast hx hb hK hP hD hS 1 0 rfl rfl (rg_in (rg_of (by decide) : rg (1 : Int32) 1 1) (by decide)) dX7_no_9 (fun H locs hP hD hS => ?_)
  have hP : va_P D vwCl [(mo, .inr (7, [.ref mo_now, .ref mo_kept, .ref mo_isKept, .ref mo_refused, .long mo_above, .long mo_below, .int mo_fewest, .int mo_manyGiven, .int mo_firstGiven, .int mo_secondGiven, .ref mo_clashWith, .ref mo_row, .int mo_rowLong, .ref mo_least, .ref mo_slips, .ref mo_left, .ref mo_bestRow, .ref mo_tryRow, .int mo_leastSlips, .ref mo_moments, .ref mo_bytes, .int mo_bytesLong, .int mo_tokenAt, .int mo_tokenLong, .int mo_token, .int mo_value, .ref mo_next, .ref mo_values])), (mo_refused, .inl (cI, 3, .inl (upd f_mo_refused (1 : Int32).toNatClampNeg v8)))] H := hP
  have hD : va_D (va_A (w_M_no cI cZ cP mo mo_now mo_kept mo_isKept mo_refused f_mo_refused mo_above mo_below mo_fewest mo_manyGiven mo_firstGiven mo_secondGiven mo_clashWith mo_row mo_rowLong mo_least mo_slips mo_left mo_bestRow mo_tryRow mo_leastSlips mo_moments mo_bytes mo_bytesLong mo_tokenAt mo_tokenLong mo_token mo_value mo_next mo_values p0) sz) [(mo, .inr (7, [.ref mo_now, .ref mo_kept, .ref mo_isKept, .ref mo_refused, .long mo_above, .long mo_below, .int mo_fewest, .int mo_manyGiven, .int mo_firstGiven, .int mo_secondGiven, .ref mo_clashWith, .ref mo_row, .int mo_rowLong, .ref mo_least, .ref mo_slips, .ref mo_left, .ref mo_bestRow, .ref mo_tryRow, .int mo_leastSlips, .ref mo_moments, .ref mo_bytes, .int mo_bytesLong, .int mo_tokenAt, .int mo_tokenLong, .int mo_token, .int mo_value, .ref mo_next, .ref mo_values])), (mo_refused, .inl (cI, 3, .inl (upd f_mo_refused (1 : Int32).toNatClampNeg v8)))] := hD
  generalize hf_f9 : (upd f_mo_refused (1 : Int32).toNatClampNeg v8) = f9 at hP hD
  have hP : va_P D vwCl [(mo, .inr (7, [.ref mo_now, .ref mo_kept, .ref mo_isKept, .ref mo_refused, .long mo_above, .long mo_below, .int mo_fewest, .int mo_manyGiven, .int mo_firstGiven, .int mo_secondGiven, .ref mo_clashWith, .ref mo_row, .int mo_rowLong, .ref mo_least, .ref mo_slips, .ref mo_left, .ref mo_bestRow, .ref mo_tryRow, .int mo_leastSlips, .ref mo_moments, .ref mo_bytes, .int mo_bytesLong, .int mo_tokenAt, .int mo_tokenLong, .int mo_token, .int mo_value, .ref mo_next, .ref mo_values])), (mo_refused, .inl (cI, 3, .inl f9))] H := hP
  have hD : va_D (va_A (w_M_no cI cZ cP mo mo_now mo_kept mo_isKept mo_refused f_mo_refused mo_above mo_below mo_fewest mo_manyGiven mo_firstGiven mo_secondGiven mo_clashWith mo_row mo_rowLong mo_least mo_slips mo_left mo_bestRow mo_tryRow mo_leastSlips mo_moments mo_bytes mo_bytesLong mo_tokenAt mo_tokenLong mo_token mo_value mo_next mo_values p0) sz) [(mo, .inr (7, [.ref mo_now, .ref mo_kept, .ref mo_isKept, .ref mo_refused, .long mo_above, .long mo_below, .int mo_fewest, .int mo_manyGiven, .int mo_firstGiven, .int mo_secondGiven, .ref mo_clashWith, .ref mo_row, .int mo_rowLong, .ref mo_least, .ref mo_slips, .ref mo_left, .ref mo_bestRow, .ref mo_tryRow, .int mo_leastSlips, .ref mo_moments, .ref mo_bytes, .int mo_bytesLong, .int mo_tokenAt, .int mo_tokenLong, .int mo_token, .int mo_value, .ref mo_next, .ref mo_values])), (mo_refused, .inl (cI, 3, .inl f9))] := hD
  refine lv_iload_n hx hb dX7_no_10 rfl (lv_at hl 1 rfl) ?_
  exact q_iret hX hr hlk f9 rfl hP hD hS dX7_no_11
abbrev w_M_full (cI cZ cP : ClassId) (mo : Nat) (mo_now : Nat) (mo_kept : Nat) (mo_isKept : Nat) (mo_refused : Nat) (f_mo_refused : Nat → Int32) (mo_above : Int64) (mo_below : Int64) (mo_fewest : Int32) (mo_manyGiven : Int32) (mo_firstGiven : Int32) (mo_secondGiven : Int32) (mo_clashWith : Nat) (mo_row : Nat) (mo_rowLong : Int32) (mo_least : Nat) (mo_slips : Nat) (mo_left : Nat) (mo_bestRow : Nat) (mo_tryRow : Nat) (mo_leastSlips : Int32) (mo_moments : Nat) (mo_bytes : Nat) (mo_bytesLong : Int32) (mo_tokenAt : Int32) (mo_tokenLong : Int32) (mo_token : Int32) (mo_value : Int32) (mo_next : Nat) (mo_values : Nat) : va_W := [(mo, .inr (7, [.ref mo_now, .ref mo_kept, .ref mo_isKept, .ref mo_refused, .long mo_above, .long mo_below, .int mo_fewest, .int mo_manyGiven, .int mo_firstGiven, .int mo_secondGiven, .ref mo_clashWith, .ref mo_row, .int mo_rowLong, .ref mo_least, .ref mo_slips, .ref mo_left, .ref mo_bestRow, .ref mo_tryRow, .int mo_leastSlips, .ref mo_moments, .ref mo_bytes, .int mo_bytesLong, .int mo_tokenAt, .int mo_tokenLong, .int mo_token, .int mo_value, .ref mo_next, .ref mo_values])), (mo_refused, .inl (cI, 3, .inl f_mo_refused))]
set_option maxHeartbeats 4000000 in
set_option maxRecDepth 100000 in
theorem c_M_full (l : Launch) (D : va_G) (cI cZ cP : ClassId) (sa : Nat → Nat) (mo : Nat) (mo_now : Nat) (mo_kept : Nat) (mo_isKept : Nat) (mo_refused : Nat) (f_mo_refused : Nat → Int32) (mo_above : Int64) (mo_below : Int64) (mo_fewest : Int32) (mo_manyGiven : Int32) (mo_firstGiven : Int32) (mo_secondGiven : Int32) (mo_clashWith : Nat) (mo_row : Nat) (mo_rowLong : Int32) (mo_least : Nat) (mo_slips : Nat) (mo_left : Nat) (mo_bestRow : Nat) (mo_tryRow : Nat) (mo_leastSlips : Int32) (mo_moments : Nat) (mo_bytes : Nat) (mo_bytesLong : Int32) (mo_tokenAt : Int32) (mo_tokenLong : Int32) (mo_token : Int32) (mo_value : Int32) (mo_next : Nat) (mo_values : Nat) (h_mo_rowLong : rg mo_rowLong 0 12) (h_mo_bytesLong : rg mo_bytesLong 0 150) (h_mo_tokenAt : rg mo_tokenAt 0 150) (h_mo_tokenLong : rg mo_tokenLong 0 150) (sz : Nat) : Met l yX7_full (qW yX7_full cX7_full 1 (some .int)) ({ frames := 0, cells := 0, slots := 0, locals := 0 } : Room) (qP D (TY cI cZ cP) sa [.ref mo] (w_M_full cI cZ cP mo mo_now mo_kept mo_isKept mo_refused f_mo_refused mo_above mo_below mo_fewest mo_manyGiven mo_firstGiven mo_secondGiven mo_clashWith mo_row mo_rowLong mo_least mo_slips mo_left mo_bestRow mo_tryRow mo_leastSlips mo_moments mo_bytes mo_bytesLong mo_tokenAt mo_tokenLong mo_token mo_value mo_next mo_values) sz) (qQi D (w_M_full cI cZ cP mo mo_now mo_kept mo_isKept mo_refused f_mo_refused mo_above mo_below mo_fewest mo_manyGiven mo_firstGiven mo_secondGiven mo_clashWith mo_row mo_rowLong mo_least mo_slips mo_left mo_bestRow mo_tryRow mo_leastSlips mo_moments mo_bytes mo_bytesLong mo_tokenAt mo_tokenLong mo_token mo_value mo_next mo_values) sz (fun (r : Int32) (u : (Nat → Int32)) => r = (-4)) (fun u : (Nat → Int32) => [(mo, .inr (7, [.ref mo_now, .ref mo_kept, .ref mo_isKept, .ref mo_refused, .long mo_above, .long mo_below, .int mo_fewest, .int mo_manyGiven, .int mo_firstGiven, .int mo_secondGiven, .ref mo_clashWith, .ref mo_row, .int mo_rowLong, .ref mo_least, .ref mo_slips, .ref mo_left, .ref mo_bestRow, .ref mo_tryRow, .int mo_leastSlips, .ref mo_moments, .ref mo_bytes, .int mo_bytesLong, .int mo_tokenAt, .int mo_tokenLong, .int mo_token, .int mo_value, .ref mo_next, .ref mo_values])), (mo_refused, .inl (cI, 3, .inl u))])) 0 0 (va_A (w_M_full cI cZ cP mo mo_now mo_kept mo_isKept mo_refused f_mo_refused mo_above mo_below mo_fewest mo_manyGiven mo_firstGiven mo_secondGiven mo_clashWith mo_row mo_rowLong mo_least mo_slips mo_left mo_bestRow mo_tryRow mo_leastSlips mo_moments mo_bytes mo_bytesLong mo_tokenAt mo_tokenLong mo_token mo_value mo_next mo_values) sz) := by
  refine q_enter (by decide) (Nat.le_of_ble_eq_true rfl) ?_
  intro p e s m below meth c ls hX hr hlk hnm hE hK hP hD hS hA hl
  obtain ⟨hx, hb, hml, hown, ht⟩ := id hX
  have hl : lv_has ls 1 [(0, .ref mo)] := hl
  refine lv_aload_n hx hb dX7_full_0 rfl (lv_at hl 0 rfl) ?_
  refine va_get (D := D) (ci := 7) (v := .ref mo_refused) (C := RX7) (T := TX7) (N := 28) hx hb ht inX7 hown hK hP 0 rfl rfl 3 (Nat.le_of_ble_eq_true rfl) (ht _ kw_907) (fun _ h9 => h9) rfl dX7_full_1 ?_
  refine lv_iconst (v := 2) hx hb dX7_full_4 (by decide) ?_
  refine lv_dup2_11 hx hb dX7_full_5 rfl rfl ?_
  refine va_iald hx hb hK hP 1 0 rfl rfl (rg_in (rg_of (by decide) : rg (2 : Int32) 2 2) (by decide)) dX7_full_6 ?_
  refine lv_topi (fun v6 e_v6 => ?_)
  refine lv_iconst (v := 1) hx hb dX7_full_7 (by decide) ?_
  refine lv_iadd hx hb dX7_full_8 ?_
  refine lv_topi (fun v8 e_v8 => ?_)
  refine va_iast hx hb hK hP hD hS 1 0 rfl rfl (rg_in (rg_of (by decide) : rg (2 : Int32) 2 2) (by decide)) dX7_full_9 (fun H locs hP hD hS => ?_)
  have hP : va_P D vwCl [(mo, .inr (7, [.ref mo_now, .ref mo_kept, .ref mo_isKept, .ref mo_refused, .long mo_above, .long mo_below, .int mo_fewest, .int mo_manyGiven, .int mo_firstGiven, .int mo_secondGiven, .ref mo_clashWith, .ref mo_row, .int mo_rowLong, .ref mo_least, .ref mo_slips, .ref mo_left, .ref mo_bestRow, .ref mo_tryRow, .int mo_leastSlips, .ref mo_moments, .ref mo_bytes, .int mo_bytesLong, .int mo_tokenAt, .int mo_tokenLong, .int mo_token, .int mo_value, .ref mo_next, .ref mo_values])), (mo_refused, .inl (cI, 3, .inl (upd f_mo_refused (2 : Int32).toNatClampNeg v8)))] H := hP
  have hD : va_D (va_A (w_M_full cI cZ cP mo mo_now mo_kept mo_isKept mo_refused f_mo_refused mo_above mo_below mo_fewest mo_manyGiven mo_firstGiven mo_secondGiven mo_clashWith mo_row mo_rowLong mo_least mo_slips mo_left mo_bestRow mo_tryRow mo_leastSlips mo_moments mo_bytes mo_bytesLong mo_tokenAt mo_tokenLong mo_token mo_value mo_next mo_values) sz) [(mo, .inr (7, [.ref mo_now, .ref mo_kept, .ref mo_isKept, .ref mo_refused, .long mo_above, .long mo_below, .int mo_fewest, .int mo_manyGiven, .int mo_firstGiven, .int mo_secondGiven, .ref mo_clashWith, .ref mo_row, .int mo_rowLong, .ref mo_least, .ref mo_slips, .ref mo_left, .ref mo_bestRow, .ref mo_tryRow, .int mo_leastSlips, .ref mo_moments, .ref mo_bytes, .int mo_bytesLong, .int mo_tokenAt, .int mo_tokenLong, .int mo_token, .int mo_value, .ref mo_next, .ref mo_values])), (mo_refused, .inl (cI, 3, .inl (upd f_mo_refused (2 : Int32).toNatClampNeg v8)))] := hD
  generalize hf_f9 : (upd f_mo_refused (2 : Int32).toNatClampNeg v8) = f9 at hP hD
  have hP : va_P D vwCl [(mo, .inr (7, [.ref mo_now, .ref mo_kept, .ref mo_isKept, .ref mo_refused, .long mo_above, .long mo_below, .int mo_fewest, .int mo_manyGiven, .int mo_firstGiven, .int mo_secondGiven, .ref mo_clashWith, .ref mo_row, .int mo_rowLong, .ref mo_least, .ref mo_slips, .ref mo_left, .ref mo_bestRow, .ref mo_tryRow, .int mo_leastSlips, .ref mo_moments, .ref mo_bytes, .int mo_bytesLong, .int mo_tokenAt, .int mo_tokenLong, .int mo_token, .int mo_value, .ref mo_next, .ref mo_values])), (mo_refused, .inl (cI, 3, .inl f9))] H := hP
  have hD : va_D (va_A (w_M_full cI cZ cP mo mo_now mo_kept mo_isKept mo_refused f_mo_refused mo_above mo_below mo_fewest mo_manyGiven mo_firstGiven mo_secondGiven mo_clashWith mo_row mo_rowLong mo_least mo_slips mo_left mo_bestRow mo_tryRow mo_leastSlips mo_moments mo_bytes mo_bytesLong mo_tokenAt mo_tokenLong mo_token mo_value mo_next mo_values) sz) [(mo, .inr (7, [.ref mo_now, .ref mo_kept, .ref mo_isKept, .ref mo_refused, .long mo_above, .long mo_below, .int mo_fewest, .int mo_manyGiven, .int mo_firstGiven, .int mo_secondGiven, .ref mo_clashWith, .ref mo_row, .int mo_rowLong, .ref mo_least, .ref mo_slips, .ref mo_left, .ref mo_bestRow, .ref mo_tryRow, .int mo_leastSlips, .ref mo_moments, .ref mo_bytes, .int mo_bytesLong, .int mo_tokenAt, .int mo_tokenLong, .int mo_token, .int mo_value, .ref mo_next, .ref mo_values])), (mo_refused, .inl (cI, 3, .inl f9))] := hD
  refine lv_bipush (v := (-4)) hx hb dX7_full_10 (by decide) ?_
  exact q_iret hX hr hlk f9 rfl hP hD hS dX7_full_12
abbrev w_M_bits (cI cZ cP : ClassId) (p0 : Int32) : va_W := []
set_option maxHeartbeats 4000000 in
set_option maxRecDepth 100000 in
theorem c_M_bits (l : Launch) (D : va_G) (cI cZ cP : ClassId) (sa : Nat → Nat) (p0 : Int32) (h_p0 : rg p0 0 4095) (sz : Nat) : Met l yX7_bits (qW yX7_bits cX7_bits 3 (some .int)) ({ frames := 0, cells := 0, slots := 0, locals := 0 } : Room) (qP D (TY cI cZ cP) sa [.int p0] (w_M_bits cI cZ cP p0) sz) (qQi D (w_M_bits cI cZ cP p0) sz (fun (r : Int32) (u : Unit) => True) (fun u : Unit => [])) 0 0 (va_A (w_M_bits cI cZ cP p0) sz) := by
  refine q_enter (by decide) (Nat.le_of_ble_eq_true rfl) ?_
  intro p e s m below meth c ls hX hr hlk hnm hE hK hP hD hS hA hl
  obtain ⟨hx, hb, hml, hown, ht⟩ := id hX
  have hl : lv_has ls 3 [(0, .int p0)] := hl
  have lp_4 : ∀ (n_4 : Nat) (j4_l1 : Int32) (j4_l2 : Int32), rg p0 0 4095 → rg j4_l2 0 4095 → (j4_l2.toInt < 0 + n_4) → ∀ (H : Heap) (locs : List Loc) (ls : Array Slot), va_P D vwCl [] H → va_D (va_A (w_M_bits cI cZ cP p0) sz) [] → va_S (va_A (w_M_bits cI cZ cP p0) sz) s.heap H locs → lv_has ls 3 [(0, .int p0), (1, .int j4_l1), (2, .int j4_l2)] → W p l e ({ frames := 0, cells := 0, slots := 0, locals := 0 } : Room) s m ([.int p0] : List Value).toArray below meth c H locs 0 0 (MQ below (qQi D (w_M_bits cI cZ cP p0) sz (fun (r : Int32) (u : Unit) => True) (fun u : Unit => [])) ([.int p0] : List Value).toArray s 0 0 (va_A (w_M_bits cI cZ cP p0) sz)) (F0 m 4 ls []) := by
    intro n_4
    induction n_4 with
    | zero => intro j4_l1 j4_l2 g4_p0 g4_j4_l2 hm_4; exact (md_0 hm_4 g4_j4_l2 (by decide)).elim
    | succ n_4 ih_4 =>
      intro j4_l1 j4_l2 g4_p0 g4_j4_l2 hm_4 H locs ls hP hD hS hl
      refine lv_iload_n hx hb dX7_bits_4 rfl (lv_at hl 2 rfl) ?_
      refine lv_if_le (tgt := 21) hx hb dX7_bits_5 (by decide) (fun c5 => ?_) (fun c5 => ?_)
      · have r5ta : rg j4_l2 0 0 := rg_leL c5 g4_j4_l2 (rg_of (by decide) : rg (0 : Int32) 0 0) (by decide)
        refine lv_iload_n hx hb dX7_bits_21 rfl (lv_at hl 1 rfl) ?_
        exact q_iret hX hr hlk () trivial hP hD hS dX7_bits_22
      · have r5fb : rg j4_l2 1 4095 := rg_ltR (Int32.not_le.mp c5) (rg_of (by decide) : rg (0 : Int32) 0 0) g4_j4_l2 (by decide)
        refine lv_iload_n hx hb dX7_bits_8 rfl (lv_at hl 1 rfl) ?_
        refine lv_iload_n hx hb dX7_bits_9 rfl (lv_at hl 2 rfl) ?_
        refine lv_iconst (v := 1) hx hb dX7_bits_10 (by decide) ?_
        refine lv_iand hx hb dX7_bits_11 ?_
        refine lv_topi (fun v11 e_v11 => ?_)
        have r_v11 : rg v11 0 1 := rg_and e_v11 (rg_of (by decide) : rg (1 : Int32) 1 1) (by decide)
        refine lv_iadd hx hb dX7_bits_12 ?_
        refine lv_topi (fun v12 e_v12 => ?_)
        refine lv_istore_n (lv' := [(1, .int v12), (0, .int p0), (2, .int j4_l2)]) hx hb dX7_bits_13 rfl hl (by decide) rfl (fun ls hl => ?_)
        refine lv_iload_n hx hb dX7_bits_14 rfl (lv_at hl 2 rfl) ?_
        refine lv_iconst (v := 1) hx hb dX7_bits_15 (by decide) ?_
        refine lv_ishr hx hb dX7_bits_16 ?_
        refine lv_topi (fun v16 e_v16 => ?_)
        obtain ⟨r_v16, i_v16⟩ := rg_shr1 e_v16 r5fb (by decide)
        refine lv_istore_n (lv' := [(2, .int v16), (1, .int v12), (0, .int p0)]) hx hb dX7_bits_17 rfl hl (by decide) rfl (fun ls hl => ?_)
        refine lv_goto (tgt := 4) hx hb dX7_bits_18 (by decide) ?_
        exact ih_4 v12 v16 g4_p0 (rg_w r_v16 (by decide)) (md_dn hm_4 i_v16) _ _ _ hP hD hS (lv_sub hl [2, 1, 0] rfl)
  refine lv_iconst (v := 0) hx hb dX7_bits_0 (by decide) ?_
  refine lv_istore_n (lv' := [(1, .int 0), (0, .int p0)]) hx hb dX7_bits_1 rfl hl (by decide) rfl (fun ls hl => ?_)
  refine lv_iload_n hx hb dX7_bits_2 rfl (lv_at hl 1 rfl) ?_
  refine lv_istore_n (lv' := [(2, .int p0), (1, .int 0), (0, .int p0)]) hx hb dX7_bits_3 rfl hl (by decide) rfl (fun ls hl => ?_)
  exact lp_4 4096 0 p0 h_p0 h_p0 (md_in h_p0 (by decide)) _ _ _ hP hD hS (lv_sub hl [2, 1, 0] rfl)
abbrev w_M_apart (cI cZ cP : ClassId) (p0 : Int32) (p1 : Int32) : va_W := []
set_option maxHeartbeats 4000000 in
set_option maxRecDepth 100000 in
theorem c_M_apart (l : Launch) (D : va_G) (cI cZ cP : ClassId) (sa : Nat → Nat) (p0 : Int32) (p1 : Int32) (sz : Nat) : Met l yX7_apart (qW yX7_apart cX7_apart 2 (some .int)) ({ frames := 0, cells := 0, slots := 0, locals := 0 } : Room) (qP D (TY cI cZ cP) sa [.int p0, .int p1] (w_M_apart cI cZ cP p0 p1) sz) (qQi D (w_M_apart cI cZ cP p0 p1) sz (fun (r : Int32) (u : Unit) => True) (fun u : Unit => [])) 0 0 (va_A (w_M_apart cI cZ cP p0 p1) sz) := by
  refine q_enter (by decide) (Nat.le_of_ble_eq_true rfl) ?_
  intro p e s m below meth c ls hX hr hlk hnm hE hK hP hD hS hA hl
  obtain ⟨hx, hb, hml, hown, ht⟩ := id hX
  have hl : lv_has ls 2 [(0, .int p0), (1, .int p1)] := hl
  refine lv_iload_n hx hb dX7_apart_0 rfl (lv_at hl 0 rfl) ?_
  refine lv_iload_n hx hb dX7_apart_1 rfl (lv_at hl 1 rfl) ?_
  refine lv_icmp_le (tgt := 11) hx hb dX7_apart_2 (by decide) (fun c2 => ?_) (fun c2 => ?_)
  · refine lv_iload_n hx hb dX7_apart_11 rfl (lv_at hl 1 rfl) ?_
    refine lv_iload_n hx hb dX7_apart_12 rfl (lv_at hl 0 rfl) ?_
    refine lv_isub hx hb dX7_apart_13 ?_
    refine lv_topi (fun v13 e_v13 => ?_)
    exact q_iret hX hr hlk () trivial hP hD hS dX7_apart_14
  · have r2fa : rg p1 (-2147483648) 2147483646 := rg_ltL (Int32.not_le.mp c2) (rg_any p1) (rg_any p0) (by decide)
    have r2fb : rg p0 (-2147483647) 2147483647 := rg_ltR (Int32.not_le.mp c2) (rg_any p1) (rg_any p0) (by decide)
    refine lv_iload_n hx hb dX7_apart_5 rfl (lv_at hl 0 rfl) ?_
    refine lv_iload_n hx hb dX7_apart_6 rfl (lv_at hl 1 rfl) ?_
    refine lv_isub hx hb dX7_apart_7 ?_
    refine lv_topi (fun v7 e_v7 => ?_)
    refine lv_goto (tgt := 14) hx hb dX7_apart_8 (by decide) ?_
    exact q_iret hX hr hlk () trivial hP hD hS dX7_apart_14
abbrev w_M_notes (cI cZ cP : ClassId) (mo : Nat) (mo_now : Nat) (f_mo_now : Nat → Int32) (mo_kept : Nat) (mo_isKept : Nat) (mo_refused : Nat) (mo_above : Int64) (mo_below : Int64) (mo_fewest : Int32) (mo_manyGiven : Int32) (mo_firstGiven : Int32) (mo_secondGiven : Int32) (mo_clashWith : Nat) (mo_row : Nat) (mo_rowLong : Int32) (mo_least : Nat) (mo_slips : Nat) (mo_left : Nat) (mo_bestRow : Nat) (mo_tryRow : Nat) (mo_leastSlips : Int32) (mo_moments : Nat) (mo_bytes : Nat) (mo_bytesLong : Int32) (mo_tokenAt : Int32) (mo_tokenLong : Int32) (mo_token : Int32) (mo_value : Int32) (mo_next : Nat) (mo_values : Nat) : va_W := [(mo, .inr (7, [.ref mo_now, .ref mo_kept, .ref mo_isKept, .ref mo_refused, .long mo_above, .long mo_below, .int mo_fewest, .int mo_manyGiven, .int mo_firstGiven, .int mo_secondGiven, .ref mo_clashWith, .ref mo_row, .int mo_rowLong, .ref mo_least, .ref mo_slips, .ref mo_left, .ref mo_bestRow, .ref mo_tryRow, .int mo_leastSlips, .ref mo_moments, .ref mo_bytes, .int mo_bytesLong, .int mo_tokenAt, .int mo_tokenLong, .int mo_token, .int mo_value, .ref mo_next, .ref mo_values])), (mo_now, .inl (cI, 221, .inl f_mo_now))]
set_option maxHeartbeats 4000000 in
set_option maxRecDepth 100000 in
theorem c_M_notes (l : Launch) (D : va_G) (cI cZ cP : ClassId) (sa : Nat → Nat) (mo : Nat) (mo_now : Nat) (f_mo_now : Nat → Int32) (mo_kept : Nat) (mo_isKept : Nat) (mo_refused : Nat) (mo_above : Int64) (mo_below : Int64) (mo_fewest : Int32) (mo_manyGiven : Int32) (mo_firstGiven : Int32) (mo_secondGiven : Int32) (mo_clashWith : Nat) (mo_row : Nat) (mo_rowLong : Int32) (mo_least : Nat) (mo_slips : Nat) (mo_left : Nat) (mo_bestRow : Nat) (mo_tryRow : Nat) (mo_leastSlips : Int32) (mo_moments : Nat) (mo_bytes : Nat) (mo_bytesLong : Int32) (mo_tokenAt : Int32) (mo_tokenLong : Int32) (mo_token : Int32) (mo_value : Int32) (mo_next : Nat) (mo_values : Nat) (h_mo_rowLong : rg mo_rowLong 0 12) (h_mo_bytesLong : rg mo_bytesLong 0 150) (h_mo_tokenAt : rg mo_tokenAt 0 150) (h_mo_tokenLong : rg mo_tokenLong 0 150) (h_f_mo_now : okN f_mo_now) (sz : Nat) : Met l yX7_notes (qW yX7_notes cX7_notes 1 (some .int)) ({ frames := 0, cells := 0, slots := 0, locals := 0 } : Room) (qP D (TY cI cZ cP) sa [.ref mo] (w_M_notes cI cZ cP mo mo_now f_mo_now mo_kept mo_isKept mo_refused mo_above mo_below mo_fewest mo_manyGiven mo_firstGiven mo_secondGiven mo_clashWith mo_row mo_rowLong mo_least mo_slips mo_left mo_bestRow mo_tryRow mo_leastSlips mo_moments mo_bytes mo_bytesLong mo_tokenAt mo_tokenLong mo_token mo_value mo_next mo_values) sz) (qQi D (w_M_notes cI cZ cP mo mo_now f_mo_now mo_kept mo_isKept mo_refused mo_above mo_below mo_fewest mo_manyGiven mo_firstGiven mo_secondGiven mo_clashWith mo_row mo_rowLong mo_least mo_slips mo_left mo_bestRow mo_tryRow mo_leastSlips mo_moments mo_bytes mo_bytesLong mo_tokenAt mo_tokenLong mo_token mo_value mo_next mo_values) sz (fun (r : Int32) (u : Unit) => rg r 0 12) (fun u : Unit => [(mo, .inr (7, [.ref mo_now, .ref mo_kept, .ref mo_isKept, .ref mo_refused, .long mo_above, .long mo_below, .int mo_fewest, .int mo_manyGiven, .int mo_firstGiven, .int mo_secondGiven, .ref mo_clashWith, .ref mo_row, .int mo_rowLong, .ref mo_least, .ref mo_slips, .ref mo_left, .ref mo_bestRow, .ref mo_tryRow, .int mo_leastSlips, .ref mo_moments, .ref mo_bytes, .int mo_bytesLong, .int mo_tokenAt, .int mo_tokenLong, .int mo_token, .int mo_value, .ref mo_next, .ref mo_values])), (mo_now, .inl (cI, 221, .inl f_mo_now))])) 0 0 (va_A (w_M_notes cI cZ cP mo mo_now f_mo_now mo_kept mo_isKept mo_refused mo_above mo_below mo_fewest mo_manyGiven mo_firstGiven mo_secondGiven mo_clashWith mo_row mo_rowLong mo_least mo_slips mo_left mo_bestRow mo_tryRow mo_leastSlips mo_moments mo_bytes mo_bytesLong mo_tokenAt mo_tokenLong mo_token mo_value mo_next mo_values) sz) := by
  refine q_enter (by decide) (Nat.le_of_ble_eq_true rfl) ?_
  intro p e s m below meth c ls hX hr hlk hnm hE hK hP hD hS hA hl
  obtain ⟨hx, hb, hml, hown, ht⟩ := id hX
  have hl : lv_has ls 1 [(0, .ref mo)] := hl
  refine lv_aload_n hx hb dX7_notes_0 rfl (lv_at hl 0 rfl) ?_
  refine va_get (D := D) (ci := 7) (v := .ref mo_now) (C := RX7) (T := TX7) (N := 28) hx hb ht inX7 hown hK hP 0 rfl rfl 0 (Nat.le_of_ble_eq_true rfl) (ht _ kw_904) (fun _ h9 => h9) rfl dX7_notes_1 ?_
  refine lv_iconst (v := 0) hx hb dX7_notes_4 (by decide) ?_
  refine va_iald hx hb hK hP 1 0 rfl rfl (rg_in (rg_of (by decide) : rg (0 : Int32) 0 0) (by decide)) dX7_notes_5 ?_
  refine lv_topi (fun v5 e_v5 => ?_)
  have r_v5 : rg v5 0 12 := e_v5 ▸ (h_f_mo_now).1
  exact q_iret hX hr hlk () r_v5 hP hD hS dX7_notes_6
abbrev w_M_notes9 (cI cZ cP : ClassId) (mo : Nat) (mo_now : Nat) (f_mo_now : Nat → Int32) (mo_kept : Nat) (mo_isKept : Nat) (mo_refused : Nat) (mo_above : Int64) (mo_below : Int64) (mo_fewest : Int32) (mo_manyGiven : Int32) (mo_firstGiven : Int32) (mo_secondGiven : Int32) (mo_clashWith : Nat) (mo_row : Nat) (mo_rowLong : Int32) (mo_least : Nat) (mo_slips : Nat) (mo_left : Nat) (mo_bestRow : Nat) (mo_tryRow : Nat) (mo_leastSlips : Int32) (mo_moments : Nat) (mo_bytes : Nat) (mo_bytesLong : Int32) (mo_tokenAt : Int32) (mo_tokenLong : Int32) (mo_token : Int32) (mo_value : Int32) (mo_next : Nat) (mo_values : Nat) : va_W := [(mo, .inr (7, [.ref mo_now, .ref mo_kept, .ref mo_isKept, .ref mo_refused, .long mo_above, .long mo_below, .int mo_fewest, .int mo_manyGiven, .int mo_firstGiven, .int mo_secondGiven, .ref mo_clashWith, .ref mo_row, .int mo_rowLong, .ref mo_least, .ref mo_slips, .ref mo_left, .ref mo_bestRow, .ref mo_tryRow, .int mo_leastSlips, .ref mo_moments, .ref mo_bytes, .int mo_bytesLong, .int mo_tokenAt, .int mo_tokenLong, .int mo_token, .int mo_value, .ref mo_next, .ref mo_values])), (mo_now, .inl (cI, 221, .inl f_mo_now))]
set_option maxHeartbeats 4000000 in
set_option maxRecDepth 100000 in
theorem c_M_notes9 (l : Launch) (D : va_G) (cI cZ cP : ClassId) (sa : Nat → Nat) (mo : Nat) (mo_now : Nat) (f_mo_now : Nat → Int32) (mo_kept : Nat) (mo_isKept : Nat) (mo_refused : Nat) (mo_above : Int64) (mo_below : Int64) (mo_fewest : Int32) (mo_manyGiven : Int32) (mo_firstGiven : Int32) (mo_secondGiven : Int32) (mo_clashWith : Nat) (mo_row : Nat) (mo_rowLong : Int32) (mo_least : Nat) (mo_slips : Nat) (mo_left : Nat) (mo_bestRow : Nat) (mo_tryRow : Nat) (mo_leastSlips : Int32) (mo_moments : Nat) (mo_bytes : Nat) (mo_bytesLong : Int32) (mo_tokenAt : Int32) (mo_tokenLong : Int32) (mo_token : Int32) (mo_value : Int32) (mo_next : Nat) (mo_values : Nat) (h_mo_rowLong : rg mo_rowLong 0 12) (h_mo_bytesLong : rg mo_bytesLong 0 150) (h_mo_tokenAt : rg mo_tokenAt 0 150) (h_mo_tokenLong : rg mo_tokenLong 0 150) (h_f_mo_now : okN9 f_mo_now) (sz : Nat) : Met l yX7_notes (qW yX7_notes cX7_notes 1 (some .int)) ({ frames := 0, cells := 0, slots := 0, locals := 0 } : Room) (qP D (TY cI cZ cP) sa [.ref mo] (w_M_notes9 cI cZ cP mo mo_now f_mo_now mo_kept mo_isKept mo_refused mo_above mo_below mo_fewest mo_manyGiven mo_firstGiven mo_secondGiven mo_clashWith mo_row mo_rowLong mo_least mo_slips mo_left mo_bestRow mo_tryRow mo_leastSlips mo_moments mo_bytes mo_bytesLong mo_tokenAt mo_tokenLong mo_token mo_value mo_next mo_values) sz) (qQi D (w_M_notes9 cI cZ cP mo mo_now f_mo_now mo_kept mo_isKept mo_refused mo_above mo_below mo_fewest mo_manyGiven mo_firstGiven mo_secondGiven mo_clashWith mo_row mo_rowLong mo_least mo_slips mo_left mo_bestRow mo_tryRow mo_leastSlips mo_moments mo_bytes mo_bytesLong mo_tokenAt mo_tokenLong mo_token mo_value mo_next mo_values) sz (fun (r : Int32) (u : Unit) => rg r 0 12) (fun u : Unit => [(mo, .inr (7, [.ref mo_now, .ref mo_kept, .ref mo_isKept, .ref mo_refused, .long mo_above, .long mo_below, .int mo_fewest, .int mo_manyGiven, .int mo_firstGiven, .int mo_secondGiven, .ref mo_clashWith, .ref mo_row, .int mo_rowLong, .ref mo_least, .ref mo_slips, .ref mo_left, .ref mo_bestRow, .ref mo_tryRow, .int mo_leastSlips, .ref mo_moments, .ref mo_bytes, .int mo_bytesLong, .int mo_tokenAt, .int mo_tokenLong, .int mo_token, .int mo_value, .ref mo_next, .ref mo_values])), (mo_now, .inl (cI, 221, .inl f_mo_now))])) 0 0 (va_A (w_M_notes9 cI cZ cP mo mo_now f_mo_now mo_kept mo_isKept mo_refused mo_above mo_below mo_fewest mo_manyGiven mo_firstGiven mo_secondGiven mo_clashWith mo_row mo_rowLong mo_least mo_slips mo_left mo_bestRow mo_tryRow mo_leastSlips mo_moments mo_bytes mo_bytesLong mo_tokenAt mo_tokenLong mo_token mo_value mo_next mo_values) sz) := by
  refine q_enter (by decide) (Nat.le_of_ble_eq_true rfl) ?_
  intro p e s m below meth c ls hX hr hlk hnm hE hK hP hD hS hA hl
  obtain ⟨hx, hb, hml, hown, ht⟩ := id hX
  have hl : lv_has ls 1 [(0, .ref mo)] := hl
  refine lv_aload_n hx hb dX7_notes_0 rfl (lv_at hl 0 rfl) ?_
  refine va_get (D := D) (ci := 7) (v := .ref mo_now) (C := RX7) (T := TX7) (N := 28) hx hb ht inX7 hown hK hP 0 rfl rfl 0 (Nat.le_of_ble_eq_true rfl) (ht _ kw_904) (fun _ h9 => h9) rfl dX7_notes_1 ?_
  refine lv_iconst (v := 0) hx hb dX7_notes_4 (by decide) ?_
  refine va_iald hx hb hK hP 1 0 rfl rfl (rg_in (rg_of (by decide) : rg (0 : Int32) 0 0) (by decide)) dX7_notes_5 ?_
  refine lv_topi (fun v5 e_v5 => ?_)
  have r_v5 : rg v5 0 12 := e_v5 ▸ ((h_f_mo_now).1).1
  exact q_iret hX hr hlk () r_v5 hP hD hS dX7_notes_6
abbrev w_M_isNote (cI cZ cP : ClassId) (mo : Nat) (mo_now : Nat) (f_mo_now : Nat → Int32) (mo_kept : Nat) (mo_isKept : Nat) (mo_refused : Nat) (mo_above : Int64) (mo_below : Int64) (mo_fewest : Int32) (mo_manyGiven : Int32) (mo_firstGiven : Int32) (mo_secondGiven : Int32) (mo_clashWith : Nat) (mo_row : Nat) (mo_rowLong : Int32) (mo_least : Nat) (mo_slips : Nat) (mo_left : Nat) (mo_bestRow : Nat) (mo_tryRow : Nat) (mo_leastSlips : Int32) (mo_moments : Nat) (mo_bytes : Nat) (mo_bytesLong : Int32) (mo_tokenAt : Int32) (mo_tokenLong : Int32) (mo_token : Int32) (mo_value : Int32) (mo_next : Nat) (mo_values : Nat) (p0 : Int32) : va_W := [(mo, .inr (7, [.ref mo_now, .ref mo_kept, .ref mo_isKept, .ref mo_refused, .long mo_above, .long mo_below, .int mo_fewest, .int mo_manyGiven, .int mo_firstGiven, .int mo_secondGiven, .ref mo_clashWith, .ref mo_row, .int mo_rowLong, .ref mo_least, .ref mo_slips, .ref mo_left, .ref mo_bestRow, .ref mo_tryRow, .int mo_leastSlips, .ref mo_moments, .ref mo_bytes, .int mo_bytesLong, .int mo_tokenAt, .int mo_tokenLong, .int mo_token, .int mo_value, .ref mo_next, .ref mo_values])), (mo_now, .inl (cI, 221, .inl f_mo_now))]
set_option maxHeartbeats 4000000 in
set_option maxRecDepth 100000 in
theorem c_M_isNote (l : Launch) (D : va_G) (cI cZ cP : ClassId) (sa : Nat → Nat) (mo : Nat) (mo_now : Nat) (f_mo_now : Nat → Int32) (mo_kept : Nat) (mo_isKept : Nat) (mo_refused : Nat) (mo_above : Int64) (mo_below : Int64) (mo_fewest : Int32) (mo_manyGiven : Int32) (mo_firstGiven : Int32) (mo_secondGiven : Int32) (mo_clashWith : Nat) (mo_row : Nat) (mo_rowLong : Int32) (mo_least : Nat) (mo_slips : Nat) (mo_left : Nat) (mo_bestRow : Nat) (mo_tryRow : Nat) (mo_leastSlips : Int32) (mo_moments : Nat) (mo_bytes : Nat) (mo_bytesLong : Int32) (mo_tokenAt : Int32) (mo_tokenLong : Int32) (mo_token : Int32) (mo_value : Int32) (mo_next : Nat) (mo_values : Nat) (p0 : Int32) (h_mo_rowLong : rg mo_rowLong 0 12) (h_mo_bytesLong : rg mo_bytesLong 0 150) (h_mo_tokenAt : rg mo_tokenAt 0 150) (h_mo_tokenLong : rg mo_tokenLong 0 150) (h_f_mo_now : okN f_mo_now) (sz : Nat) : Met l yX7_isNote (qW yX7_isNote cX7_isNote 2 (some .boolean)) ({ frames := 1, cells := 0, slots := 0, locals := 25 } : Room) (qP D (TY cI cZ cP) sa [.ref mo, .int p0] (w_M_isNote cI cZ cP mo mo_now f_mo_now mo_kept mo_isKept mo_refused mo_above mo_below mo_fewest mo_manyGiven mo_firstGiven mo_secondGiven mo_clashWith mo_row mo_rowLong mo_least mo_slips mo_left mo_bestRow mo_tryRow mo_leastSlips mo_moments mo_bytes mo_bytesLong mo_tokenAt mo_tokenLong mo_token mo_value mo_next mo_values p0) sz) (qQi D (w_M_isNote cI cZ cP mo mo_now f_mo_now mo_kept mo_isKept mo_refused mo_above mo_below mo_fewest mo_manyGiven mo_firstGiven mo_secondGiven mo_clashWith mo_row mo_rowLong mo_least mo_slips mo_left mo_bestRow mo_tryRow mo_leastSlips mo_moments mo_bytes mo_bytesLong mo_tokenAt mo_tokenLong mo_token mo_value mo_next mo_values p0) sz (fun (r : Int32) (u : Unit) => (r = 0 ∨ (r = 1 ∧ rg p0 0 11))) (fun u : Unit => [(mo, .inr (7, [.ref mo_now, .ref mo_kept, .ref mo_isKept, .ref mo_refused, .long mo_above, .long mo_below, .int mo_fewest, .int mo_manyGiven, .int mo_firstGiven, .int mo_secondGiven, .ref mo_clashWith, .ref mo_row, .int mo_rowLong, .ref mo_least, .ref mo_slips, .ref mo_left, .ref mo_bestRow, .ref mo_tryRow, .int mo_leastSlips, .ref mo_moments, .ref mo_bytes, .int mo_bytesLong, .int mo_tokenAt, .int mo_tokenLong, .int mo_token, .int mo_value, .ref mo_next, .ref mo_values])), (mo_now, .inl (cI, 221, .inl f_mo_now))])) 0 0 (va_A (w_M_isNote cI cZ cP mo mo_now f_mo_now mo_kept mo_isKept mo_refused mo_above mo_below mo_fewest mo_manyGiven mo_firstGiven mo_secondGiven mo_clashWith mo_row mo_rowLong mo_least mo_slips mo_left mo_bestRow mo_tryRow mo_leastSlips mo_moments mo_bytes mo_bytesLong mo_tokenAt mo_tokenLong mo_token mo_value mo_next mo_values p0) sz) := by
  refine q_enter (by decide) (Nat.le_of_ble_eq_true rfl) ?_
  intro p e s m below meth c ls hX hr hlk hnm hE hK hP hD hS hA hl
  obtain ⟨hx, hb, hml, hown, ht⟩ := id hX
  have hl : lv_has ls 2 [(0, .ref mo), (1, .int p0)] := hl
  refine lv_iload_n hx hb dX7_isNote_0 rfl (lv_at hl 1 rfl) ?_
  refine lv_i2l (v := (p0.toInt64)) hx hb dX7_isNote_1 rfl ?_
  refine lv_lconst (v := 0) hx hb dX7_isNote_2 (by decide) ?_
  refine q_l (z := ((0 : Int32).toInt64)) (by decide) ?_
  refine lv_aload_n hx hb dX7_isNote_3 rfl (lv_at hl 0 rfl) ?_
  refine q_Vi (wr := []) [0, 1] [] hX hE hK hP hD hS hA hl.1 lk_X7_64 (c_M_notes l D cI cZ cP sa mo mo_now f_mo_now mo_kept mo_isKept mo_refused mo_above mo_below mo_fewest mo_manyGiven mo_firstGiven mo_secondGiven mo_clashWith mo_row mo_rowLong mo_least mo_slips mo_left mo_bestRow mo_tryRow mo_leastSlips mo_moments mo_bytes mo_bytesLong mo_tokenAt mo_tokenLong mo_token mo_value mo_next mo_values h_mo_rowLong h_mo_bytesLong h_mo_tokenAt h_mo_tokenLong h_f_mo_now _) rfl rfl rfl rfl (by decide) 0 7 rfl rfl rfl rfl (Nat.le_of_ble_eq_true rfl) rfl rfl ⟨Nat.le_of_ble_eq_true rfl, Nat.le_of_ble_eq_true rfl⟩ ⟨Nat.le_of_ble_eq_true rfl, Nat.le_of_ble_eq_true rfl⟩ dX7_isNote_4 (fun x4 _ H locs h4 hP hD hS => ?_)
  have hr4 := h4
  have hP : va_P D vwCl [(mo, .inr (7, [.ref mo_now, .ref mo_kept, .ref mo_isKept, .ref mo_refused, .long mo_above, .long mo_below, .int mo_fewest, .int mo_manyGiven, .int mo_firstGiven, .int mo_secondGiven, .ref mo_clashWith, .ref mo_row, .int mo_rowLong, .ref mo_least, .ref mo_slips, .ref mo_left, .ref mo_bestRow, .ref mo_tryRow, .int mo_leastSlips, .ref mo_moments, .ref mo_bytes, .int mo_bytesLong, .int mo_tokenAt, .int mo_tokenLong, .int mo_token, .int mo_value, .ref mo_next, .ref mo_values])), (mo_now, .inl (cI, 221, .inl f_mo_now))] H := hP
  have hD : va_D (va_A (w_M_isNote cI cZ cP mo mo_now f_mo_now mo_kept mo_isKept mo_refused mo_above mo_below mo_fewest mo_manyGiven mo_firstGiven mo_secondGiven mo_clashWith mo_row mo_rowLong mo_least mo_slips mo_left mo_bestRow mo_tryRow mo_leastSlips mo_moments mo_bytes mo_bytesLong mo_tokenAt mo_tokenLong mo_token mo_value mo_next mo_values p0) sz) [(mo, .inr (7, [.ref mo_now, .ref mo_kept, .ref mo_isKept, .ref mo_refused, .long mo_above, .long mo_below, .int mo_fewest, .int mo_manyGiven, .int mo_firstGiven, .int mo_secondGiven, .ref mo_clashWith, .ref mo_row, .int mo_rowLong, .ref mo_least, .ref mo_slips, .ref mo_left, .ref mo_bestRow, .ref mo_tryRow, .int mo_leastSlips, .ref mo_moments, .ref mo_bytes, .int mo_bytesLong, .int mo_tokenAt, .int mo_tokenLong, .int mo_token, .int mo_value, .ref mo_next, .ref mo_values])), (mo_now, .inl (cI, 221, .inl f_mo_now))] := hD
  refine lv_iconst (v := 1) hx hb dX7_isNote_7 (by decide) ?_
  refine lv_isub hx hb dX7_isNote_8 ?_
  refine lv_topi (fun v8 e_v8 => ?_)
  obtain ⟨r_v8, q_v8⟩ := rg_sub (l := (-1)) (h := 11) e_v8 hr4 (rg_of (by decide) : rg (1 : Int32) 1 1) (by decide)
  have i_v8 := in_dn q_v8 (rg_of (by decide) : rg (1 : Int32) 1 1) (by decide)
  refine lv_i2l (v := (v8.toInt64)) hx hb dX7_isNote_9 rfl ?_
  refine q_Si (wr := [(mo, .inr (7, [.ref mo_now, .ref mo_kept, .ref mo_isKept, .ref mo_refused, .long mo_above, .long mo_below, .int mo_fewest, .int mo_manyGiven, .int mo_firstGiven, .int mo_secondGiven, .ref mo_clashWith, .ref mo_row, .int mo_rowLong, .ref mo_least, .ref mo_slips, .ref mo_left, .ref mo_bestRow, .ref mo_tryRow, .int mo_leastSlips, .ref mo_moments, .ref mo_bytes, .int mo_bytesLong, .int mo_tokenAt, .int mo_tokenLong, .int mo_token, .int mo_value, .ref mo_next, .ref mo_values])), (mo_now, .inl (cI, 221, .inl f_mo_now))]) [] [0, 1] hX hE hK hP hD hS hA hl.1 lk_X7_68 (c_m_in l D cI cZ cP sa p0 0 v8 _) rfl rfl rfl rfl (by decide) rfl rfl (Nat.le_of_ble_eq_true rfl) rfl rfl ⟨Nat.le_of_ble_eq_true rfl, Nat.le_of_ble_eq_true rfl⟩ ⟨Nat.le_of_ble_eq_true rfl, Nat.le_of_ble_eq_true rfl⟩ dX7_isNote_10 (fun x10 _ H locs h10 hP hD hS => ?_)
  have hP : va_P D vwCl [(mo, .inr (7, [.ref mo_now, .ref mo_kept, .ref mo_isKept, .ref mo_refused, .long mo_above, .long mo_below, .int mo_fewest, .int mo_manyGiven, .int mo_firstGiven, .int mo_secondGiven, .ref mo_clashWith, .ref mo_row, .int mo_rowLong, .ref mo_least, .ref mo_slips, .ref mo_left, .ref mo_bestRow, .ref mo_tryRow, .int mo_leastSlips, .ref mo_moments, .ref mo_bytes, .int mo_bytesLong, .int mo_tokenAt, .int mo_tokenLong, .int mo_token, .int mo_value, .ref mo_next, .ref mo_values])), (mo_now, .inl (cI, 221, .inl f_mo_now))] H := hP
  have hD : va_D (va_A (w_M_isNote cI cZ cP mo mo_now f_mo_now mo_kept mo_isKept mo_refused mo_above mo_below mo_fewest mo_manyGiven mo_firstGiven mo_secondGiven mo_clashWith mo_row mo_rowLong mo_least mo_slips mo_left mo_bestRow mo_tryRow mo_leastSlips mo_moments mo_bytes mo_bytesLong mo_tokenAt mo_tokenLong mo_token mo_value mo_next mo_values p0) sz) [(mo, .inr (7, [.ref mo_now, .ref mo_kept, .ref mo_isKept, .ref mo_refused, .long mo_above, .long mo_below, .int mo_fewest, .int mo_manyGiven, .int mo_firstGiven, .int mo_secondGiven, .ref mo_clashWith, .ref mo_row, .int mo_rowLong, .ref mo_least, .ref mo_slips, .ref mo_left, .ref mo_bestRow, .ref mo_tryRow, .int mo_leastSlips, .ref mo_moments, .ref mo_bytes, .int mo_bytesLong, .int mo_tokenAt, .int mo_tokenLong, .int mo_token, .int mo_value, .ref mo_next, .ref mo_values])), (mo_now, .inl (cI, 221, .inl f_mo_now))] := hD
  rcases Classical.em (0 ≤ p0 ∧ p0 ≤ v8) with d10 | d10
  · rw [if_pos d10] at h10; subst h10
    have w10ab : rg p0 0 2147483647 := rg_leR d10.1 (rg_of (by decide) : rg (0 : Int32) 0 0) (rg_any p0) (by decide)
    have w10ba : rg p0 0 11 := rg_leL d10.2 w10ab r_v8 (by decide)
    have w10bb : rg v8 0 11 := rg_leR d10.2 w10ab r_v8 (by decide)
    have w10bbk : rg x4 1 12 := rg_backS q_v8 w10bb (rg_of (by decide) : rg (1 : Int32) 1 1) hr4 (by decide)
    exact q_zret hX hr hlk (by decide) () (Or.inr ⟨rfl, w10ba⟩) hP hD hS dX7_isNote_13
  · rw [if_neg d10] at h10; subst h10
    exact q_zret hX hr hlk (by decide) () (Or.inl rfl) hP hD hS dX7_isNote_13
abbrev w_M_isHand (cI cZ cP : ClassId) (p0 : Int32) : va_W := []
set_option maxHeartbeats 4000000 in
set_option maxRecDepth 100000 in
theorem c_M_isHand (l : Launch) (D : va_G) (cI cZ cP : ClassId) (sa : Nat → Nat) (p0 : Int32) (sz : Nat) : Met l yX7_isHand (qW yX7_isHand cX7_isHand 1 (some .boolean)) ({ frames := 1, cells := 0, slots := 0, locals := 25 } : Room) (qP D (TY cI cZ cP) sa [.int p0] (w_M_isHand cI cZ cP p0) sz) (qQi D (w_M_isHand cI cZ cP p0) sz (fun (r : Int32) (u : Unit) => (r = 0 ∨ (r = 1 ∧ rg p0 0 3))) (fun u : Unit => [])) 0 0 (va_A (w_M_isHand cI cZ cP p0) sz) := by
  refine q_enter (by decide) (Nat.le_of_ble_eq_true rfl) ?_
  intro p e s m below meth c ls hX hr hlk hnm hE hK hP hD hS hA hl
  obtain ⟨hx, hb, hml, hown, ht⟩ := id hX
  have hl : lv_has ls 1 [(0, .int p0)] := hl
  refine lv_iload_n hx hb dX7_isHand_0 rfl (lv_at hl 0 rfl) ?_
  refine lv_i2l (v := (p0.toInt64)) hx hb dX7_isHand_1 rfl ?_
  refine lv_lconst (v := 0) hx hb dX7_isHand_2 (by decide) ?_
  refine q_l (z := ((0 : Int32).toInt64)) (by decide) ?_
  refine lv_ldc2 hx hb hown (ht _ kw_1013) dX7_isHand_3 ?_
  refine q_l (z := ((3 : Int32).toInt64)) (by decide) ?_
  refine q_Si (wr := []) [] [] hX hE hK hP hD hS hA hl.1 lk_X7_68 (c_m_in l D cI cZ cP sa p0 0 3 _) rfl rfl rfl rfl (by decide) rfl rfl (Nat.le_of_ble_eq_true rfl) rfl rfl ⟨Nat.le_of_ble_eq_true rfl, Nat.le_of_ble_eq_true rfl⟩ ⟨Nat.le_of_ble_eq_true rfl, Nat.le_of_ble_eq_true rfl⟩ dX7_isHand_6 (fun x6 _ H locs h6 hP hD hS => ?_)
  have hP : va_P D vwCl [] H := hP
  have hD : va_D (va_A (w_M_isHand cI cZ cP p0) sz) [] := hD
  rcases Classical.em (0 ≤ p0 ∧ p0 ≤ 3) with d6 | d6
  · rw [if_pos d6] at h6; subst h6
    have w6ab : rg p0 0 2147483647 := rg_leR d6.1 (rg_of (by decide) : rg (0 : Int32) 0 0) (rg_any p0) (by decide)
    have w6ba : rg p0 0 3 := rg_leL d6.2 w6ab (rg_of (by decide) : rg (3 : Int32) 3 3) (by decide)
    exact q_zret hX hr hlk (by decide) () (Or.inr ⟨rfl, w6ba⟩) hP hD hS dX7_isHand_9
  · rw [if_neg d6] at h6; subst h6
    exact q_zret hX hr hlk (by decide) () (Or.inl rfl) hP hD hS dX7_isHand_9
abbrev w_M_get0 (cI cZ cP : ClassId) (mo : Nat) (mo_now : Nat) (f_mo_now : Nat → Int32) (mo_kept : Nat) (mo_isKept : Nat) (mo_refused : Nat) (mo_above : Int64) (mo_below : Int64) (mo_fewest : Int32) (mo_manyGiven : Int32) (mo_firstGiven : Int32) (mo_secondGiven : Int32) (mo_clashWith : Nat) (mo_row : Nat) (mo_rowLong : Int32) (mo_least : Nat) (mo_slips : Nat) (mo_left : Nat) (mo_bestRow : Nat) (mo_tryRow : Nat) (mo_leastSlips : Int32) (mo_moments : Nat) (mo_bytes : Nat) (mo_bytesLong : Int32) (mo_tokenAt : Int32) (mo_tokenLong : Int32) (mo_token : Int32) (mo_value : Int32) (mo_next : Nat) (mo_values : Nat) (p0 : Int32) : va_W := [(mo, .inr (7, [.ref mo_now, .ref mo_kept, .ref mo_isKept, .ref mo_refused, .long mo_above, .long mo_below, .int mo_fewest, .int mo_manyGiven, .int mo_firstGiven, .int mo_secondGiven, .ref mo_clashWith, .ref mo_row, .int mo_rowLong, .ref mo_least, .ref mo_slips, .ref mo_left, .ref mo_bestRow, .ref mo_tryRow, .int mo_leastSlips, .ref mo_moments, .ref mo_bytes, .int mo_bytesLong, .int mo_tokenAt, .int mo_tokenLong, .int mo_token, .int mo_value, .ref mo_next, .ref mo_values])), (mo_now, .inl (cI, 221, .inl f_mo_now))]
set_option maxHeartbeats 4000000 in
set_option maxRecDepth 100000 in
theorem c_M_get0 (l : Launch) (D : va_G) (cI cZ cP : ClassId) (sa : Nat → Nat) (mo : Nat) (mo_now : Nat) (f_mo_now : Nat → Int32) (mo_kept : Nat) (mo_isKept : Nat) (mo_refused : Nat) (mo_above : Int64) (mo_below : Int64) (mo_fewest : Int32) (mo_manyGiven : Int32) (mo_firstGiven : Int32) (mo_secondGiven : Int32) (mo_clashWith : Nat) (mo_row : Nat) (mo_rowLong : Int32) (mo_least : Nat) (mo_slips : Nat) (mo_left : Nat) (mo_bestRow : Nat) (mo_tryRow : Nat) (mo_leastSlips : Int32) (mo_moments : Nat) (mo_bytes : Nat) (mo_bytesLong : Int32) (mo_tokenAt : Int32) (mo_tokenLong : Int32) (mo_token : Int32) (mo_value : Int32) (mo_next : Nat) (mo_values : Nat) (p0 : Int32) (h_mo_rowLong : rg mo_rowLong 0 12) (h_mo_bytesLong : rg mo_bytesLong 0 150) (h_mo_tokenAt : rg mo_tokenAt 0 150) (h_mo_tokenLong : rg mo_tokenLong 0 150) (h_p0 : rg p0 0 11) (h_f_mo_now : okN f_mo_now) (sz : Nat) : Met l yX7_get (qW yX7_get cX7_get 3 (some .int)) ({ frames := 0, cells := 0, slots := 0, locals := 0 } : Room) (qP D (TY cI cZ cP) sa [.ref mo, .int p0, .int 0] (w_M_get0 cI cZ cP mo mo_now f_mo_now mo_kept mo_isKept mo_refused mo_above mo_below mo_fewest mo_manyGiven mo_firstGiven mo_secondGiven mo_clashWith mo_row mo_rowLong mo_least mo_slips mo_left mo_bestRow mo_tryRow mo_leastSlips mo_moments mo_bytes mo_bytesLong mo_tokenAt mo_tokenLong mo_token mo_value mo_next mo_values p0) sz) (qQi D (w_M_get0 cI cZ cP mo mo_now f_mo_now mo_kept mo_isKept mo_refused mo_above mo_below mo_fewest mo_manyGiven mo_firstGiven mo_secondGiven mo_clashWith mo_row mo_rowLong mo_least mo_slips mo_left mo_bestRow mo_tryRow mo_leastSlips mo_moments mo_bytes mo_bytesLong mo_tokenAt mo_tokenLong mo_token mo_value mo_next mo_values p0) sz (fun (r : Int32) (u : Unit) => True) (fun u : Unit => [(mo, .inr (7, [.ref mo_now, .ref mo_kept, .ref mo_isKept, .ref mo_refused, .long mo_above, .long mo_below, .int mo_fewest, .int mo_manyGiven, .int mo_firstGiven, .int mo_secondGiven, .ref mo_clashWith, .ref mo_row, .int mo_rowLong, .ref mo_least, .ref mo_slips, .ref mo_left, .ref mo_bestRow, .ref mo_tryRow, .int mo_leastSlips, .ref mo_moments, .ref mo_bytes, .int mo_bytesLong, .int mo_tokenAt, .int mo_tokenLong, .int mo_token, .int mo_value, .ref mo_next, .ref mo_values])), (mo_now, .inl (cI, 221, .inl f_mo_now))])) 0 0 (va_A (w_M_get0 cI cZ cP mo mo_now f_mo_now mo_kept mo_isKept mo_refused mo_above mo_below mo_fewest mo_manyGiven mo_firstGiven mo_secondGiven mo_clashWith mo_row mo_rowLong mo_least mo_slips mo_left mo_bestRow mo_tryRow mo_leastSlips mo_moments mo_bytes mo_bytesLong mo_tokenAt mo_tokenLong mo_token mo_value mo_next mo_values p0) sz) := by
  refine q_enter (by decide) (Nat.le_of_ble_eq_true rfl) ?_
  intro p e s m below meth c ls hX hr hlk hnm hE hK hP hD hS hA hl
  obtain ⟨hx, hb, hml, hown, ht⟩ := id hX
  have hl : lv_has ls 3 [(0, .ref mo), (1, .int p0), (2, .int 0)] := hl
  refine lv_aload_n hx hb dX7_get_0 rfl (lv_at hl 0 rfl) ?_
  refine va_get (D := D) (ci := 7) (v := .ref mo_now) (C := RX7) (T := TX7) (N := 28) hx hb ht inX7 hown hK hP 0 rfl rfl 0 (Nat.le_of_ble_eq_true rfl) (ht _ kw_904) (fun _ h9 => h9) rfl dX7_get_1 ?_
  refine lv_bipush (v := 16) hx hb dX7_get_4 (by decide) ?_
  refine lv_bipush (v := 7) hx hb dX7_get_6 (by decide) ?_
  refine lv_iload_n hx hb dX7_get_8 rfl (lv_at hl 1 rfl) ?_
  refine lv_imul hx hb dX7_get_9 ?_
  refine lv_topi (fun v9 e_v9 => ?_)
  obtain ⟨r_v9, q_v9⟩ := rg_mul (l := 0) (h := 77) e_v9 (rg_of (by decide) : rg (7 : Int32) 7 7) h_p0 (by decide)
  refine lv_iadd hx hb dX7_get_10 ?_
  refine lv_topi (fun v10 e_v10 => ?_)
  obtain ⟨r_v10, q_v10⟩ := rg_add (l := 16) (h := 93) e_v10 (rg_of (by decide) : rg (16 : Int32) 16 16) r_v9 (by decide)
  refine lv_iload_n hx hb dX7_get_11 rfl (lv_at hl 2 rfl) ?_
  refine lv_iadd hx hb dX7_get_12 ?_
  refine lv_topi (fun v12 e_v12 => ?_)
  obtain ⟨r_v12, q_v12⟩ := rg_add (l := 16) (h := 93) e_v12 r_v10 (rg_of (by decide) : rg (0 : Int32) 0 0) (by decide)
  refine va_iald hx hb hK hP 1 0 rfl rfl (rg_in r_v12 (by decide)) dX7_get_13 ?_
  refine lv_topi (fun v13 e_v13 => ?_)
  exact q_iret hX hr hlk () trivial hP hD hS dX7_get_14
abbrev w_M_get2 (cI cZ cP : ClassId) (mo : Nat) (mo_now : Nat) (f_mo_now : Nat → Int32) (mo_kept : Nat) (mo_isKept : Nat) (mo_refused : Nat) (mo_above : Int64) (mo_below : Int64) (mo_fewest : Int32) (mo_manyGiven : Int32) (mo_firstGiven : Int32) (mo_secondGiven : Int32) (mo_clashWith : Nat) (mo_row : Nat) (mo_rowLong : Int32) (mo_least : Nat) (mo_slips : Nat) (mo_left : Nat) (mo_bestRow : Nat) (mo_tryRow : Nat) (mo_leastSlips : Int32) (mo_moments : Nat) (mo_bytes : Nat) (mo_bytesLong : Int32) (mo_tokenAt : Int32) (mo_tokenLong : Int32) (mo_token : Int32) (mo_value : Int32) (mo_next : Nat) (mo_values : Nat) (p0 : Int32) : va_W := [(mo, .inr (7, [.ref mo_now, .ref mo_kept, .ref mo_isKept, .ref mo_refused, .long mo_above, .long mo_below, .int mo_fewest, .int mo_manyGiven, .int mo_firstGiven, .int mo_secondGiven, .ref mo_clashWith, .ref mo_row, .int mo_rowLong, .ref mo_least, .ref mo_slips, .ref mo_left, .ref mo_bestRow, .ref mo_tryRow, .int mo_leastSlips, .ref mo_moments, .ref mo_bytes, .int mo_bytesLong, .int mo_tokenAt, .int mo_tokenLong, .int mo_token, .int mo_value, .ref mo_next, .ref mo_values])), (mo_now, .inl (cI, 221, .inl f_mo_now))]
set_option maxHeartbeats 4000000 in
set_option maxRecDepth 100000 in
theorem c_M_get2 (l : Launch) (D : va_G) (cI cZ cP : ClassId) (sa : Nat → Nat) (mo : Nat) (mo_now : Nat) (f_mo_now : Nat → Int32) (mo_kept : Nat) (mo_isKept : Nat) (mo_refused : Nat) (mo_above : Int64) (mo_below : Int64) (mo_fewest : Int32) (mo_manyGiven : Int32) (mo_firstGiven : Int32) (mo_secondGiven : Int32) (mo_clashWith : Nat) (mo_row : Nat) (mo_rowLong : Int32) (mo_least : Nat) (mo_slips : Nat) (mo_left : Nat) (mo_bestRow : Nat) (mo_tryRow : Nat) (mo_leastSlips : Int32) (mo_moments : Nat) (mo_bytes : Nat) (mo_bytesLong : Int32) (mo_tokenAt : Int32) (mo_tokenLong : Int32) (mo_token : Int32) (mo_value : Int32) (mo_next : Nat) (mo_values : Nat) (p0 : Int32) (h_mo_rowLong : rg mo_rowLong 0 12) (h_mo_bytesLong : rg mo_bytesLong 0 150) (h_mo_tokenAt : rg mo_tokenAt 0 150) (h_mo_tokenLong : rg mo_tokenLong 0 150) (h_p0 : rg p0 0 11) (h_f_mo_now : okN f_mo_now) (sz : Nat) : Met l yX7_get (qW yX7_get cX7_get 3 (some .int)) ({ frames := 0, cells := 0, slots := 0, locals := 0 } : Room) (qP D (TY cI cZ cP) sa [.ref mo, .int p0, .int 2] (w_M_get2 cI cZ cP mo mo_now f_mo_now mo_kept mo_isKept mo_refused mo_above mo_below mo_fewest mo_manyGiven mo_firstGiven mo_secondGiven mo_clashWith mo_row mo_rowLong mo_least mo_slips mo_left mo_bestRow mo_tryRow mo_leastSlips mo_moments mo_bytes mo_bytesLong mo_tokenAt mo_tokenLong mo_token mo_value mo_next mo_values p0) sz) (qQi D (w_M_get2 cI cZ cP mo mo_now f_mo_now mo_kept mo_isKept mo_refused mo_above mo_below mo_fewest mo_manyGiven mo_firstGiven mo_secondGiven mo_clashWith mo_row mo_rowLong mo_least mo_slips mo_left mo_bestRow mo_tryRow mo_leastSlips mo_moments mo_bytes mo_bytesLong mo_tokenAt mo_tokenLong mo_token mo_value mo_next mo_values p0) sz (fun (r : Int32) (u : Unit) => True) (fun u : Unit => [(mo, .inr (7, [.ref mo_now, .ref mo_kept, .ref mo_isKept, .ref mo_refused, .long mo_above, .long mo_below, .int mo_fewest, .int mo_manyGiven, .int mo_firstGiven, .int mo_secondGiven, .ref mo_clashWith, .ref mo_row, .int mo_rowLong, .ref mo_least, .ref mo_slips, .ref mo_left, .ref mo_bestRow, .ref mo_tryRow, .int mo_leastSlips, .ref mo_moments, .ref mo_bytes, .int mo_bytesLong, .int mo_tokenAt, .int mo_tokenLong, .int mo_token, .int mo_value, .ref mo_next, .ref mo_values])), (mo_now, .inl (cI, 221, .inl f_mo_now))])) 0 0 (va_A (w_M_get2 cI cZ cP mo mo_now f_mo_now mo_kept mo_isKept mo_refused mo_above mo_below mo_fewest mo_manyGiven mo_firstGiven mo_secondGiven mo_clashWith mo_row mo_rowLong mo_least mo_slips mo_left mo_bestRow mo_tryRow mo_leastSlips mo_moments mo_bytes mo_bytesLong mo_tokenAt mo_tokenLong mo_token mo_value mo_next mo_values p0) sz) := by
  refine q_enter (by decide) (Nat.le_of_ble_eq_true rfl) ?_
  intro p e s m below meth c ls hX hr hlk hnm hE hK hP hD hS hA hl
  obtain ⟨hx, hb, hml, hown, ht⟩ := id hX
  have hl : lv_has ls 3 [(0, .ref mo), (1, .int p0), (2, .int 2)] := hl
  refine lv_aload_n hx hb dX7_get_0 rfl (lv_at hl 0 rfl) ?_
  refine va_get (D := D) (ci := 7) (v := .ref mo_now) (C := RX7) (T := TX7) (N := 28) hx hb ht inX7 hown hK hP 0 rfl rfl 0 (Nat.le_of_ble_eq_true rfl) (ht _ kw_904) (fun _ h9 => h9) rfl dX7_get_1 ?_
  refine lv_bipush (v := 16) hx hb dX7_get_4 (by decide) ?_
  refine lv_bipush (v := 7) hx hb dX7_get_6 (by decide) ?_
  refine lv_iload_n hx hb dX7_get_8 rfl (lv_at hl 1 rfl) ?_
  refine lv_imul hx hb dX7_get_9 ?_
  refine lv_topi (fun v9 e_v9 => ?_)
  obtain ⟨r_v9, q_v9⟩ := rg_mul (l := 0) (h := 77) e_v9 (rg_of (by decide) : rg (7 : Int32) 7 7) h_p0 (by decide)
  refine lv_iadd hx hb dX7_get_10 ?_
  refine lv_topi (fun v10 e_v10 => ?_)
  obtain ⟨r_v10, q_v10⟩ := rg_add (l := 16) (h := 93) e_v10 (rg_of (by decide) : rg (16 : Int32) 16 16) r_v9 (by decide)
  refine lv_iload_n hx hb dX7_get_11 rfl (lv_at hl 2 rfl) ?_
  refine lv_iadd hx hb dX7_get_12 ?_
  refine lv_topi (fun v12 e_v12 => ?_)
  obtain ⟨r_v12, q_v12⟩ := rg_add (l := 18) (h := 95) e_v12 r_v10 (rg_of (by decide) : rg (2 : Int32) 2 2) (by decide)
  have i_v12 := in_up q_v12 (rg_of (by decide) : rg (2 : Int32) 2 2) (by decide)
  refine va_iald hx hb hK hP 1 0 rfl rfl (rg_in r_v12 (by decide)) dX7_get_13 ?_
  refine lv_topi (fun v13 e_v13 => ?_)
  exact q_iret hX hr hlk () trivial hP hD hS dX7_get_14
abbrev w_M_get3 (cI cZ cP : ClassId) (mo : Nat) (mo_now : Nat) (f_mo_now : Nat → Int32) (mo_kept : Nat) (mo_isKept : Nat) (mo_refused : Nat) (mo_above : Int64) (mo_below : Int64) (mo_fewest : Int32) (mo_manyGiven : Int32) (mo_firstGiven : Int32) (mo_secondGiven : Int32) (mo_clashWith : Nat) (mo_row : Nat) (mo_rowLong : Int32) (mo_least : Nat) (mo_slips : Nat) (mo_left : Nat) (mo_bestRow : Nat) (mo_tryRow : Nat) (mo_leastSlips : Int32) (mo_moments : Nat) (mo_bytes : Nat) (mo_bytesLong : Int32) (mo_tokenAt : Int32) (mo_tokenLong : Int32) (mo_token : Int32) (mo_value : Int32) (mo_next : Nat) (mo_values : Nat) (p0 : Int32) : va_W := [(mo, .inr (7, [.ref mo_now, .ref mo_kept, .ref mo_isKept, .ref mo_refused, .long mo_above, .long mo_below, .int mo_fewest, .int mo_manyGiven, .int mo_firstGiven, .int mo_secondGiven, .ref mo_clashWith, .ref mo_row, .int mo_rowLong, .ref mo_least, .ref mo_slips, .ref mo_left, .ref mo_bestRow, .ref mo_tryRow, .int mo_leastSlips, .ref mo_moments, .ref mo_bytes, .int mo_bytesLong, .int mo_tokenAt, .int mo_tokenLong, .int mo_token, .int mo_value, .ref mo_next, .ref mo_values])), (mo_now, .inl (cI, 221, .inl f_mo_now))]
set_option maxHeartbeats 4000000 in
set_option maxRecDepth 100000 in
theorem c_M_get3 (l : Launch) (D : va_G) (cI cZ cP : ClassId) (sa : Nat → Nat) (mo : Nat) (mo_now : Nat) (f_mo_now : Nat → Int32) (mo_kept : Nat) (mo_isKept : Nat) (mo_refused : Nat) (mo_above : Int64) (mo_below : Int64) (mo_fewest : Int32) (mo_manyGiven : Int32) (mo_firstGiven : Int32) (mo_secondGiven : Int32) (mo_clashWith : Nat) (mo_row : Nat) (mo_rowLong : Int32) (mo_least : Nat) (mo_slips : Nat) (mo_left : Nat) (mo_bestRow : Nat) (mo_tryRow : Nat) (mo_leastSlips : Int32) (mo_moments : Nat) (mo_bytes : Nat) (mo_bytesLong : Int32) (mo_tokenAt : Int32) (mo_tokenLong : Int32) (mo_token : Int32) (mo_value : Int32) (mo_next : Nat) (mo_values : Nat) (p0 : Int32) (h_mo_rowLong : rg mo_rowLong 0 12) (h_mo_bytesLong : rg mo_bytesLong 0 150) (h_mo_tokenAt : rg mo_tokenAt 0 150) (h_mo_tokenLong : rg mo_tokenLong 0 150) (h_p0 : rg p0 0 11) (h_f_mo_now : okN f_mo_now) (sz : Nat) : Met l yX7_get (qW yX7_get cX7_get 3 (some .int)) ({ frames := 0, cells := 0, slots := 0, locals := 0 } : Room) (qP D (TY cI cZ cP) sa [.ref mo, .int p0, .int 3] (w_M_get3 cI cZ cP mo mo_now f_mo_now mo_kept mo_isKept mo_refused mo_above mo_below mo_fewest mo_manyGiven mo_firstGiven mo_secondGiven mo_clashWith mo_row mo_rowLong mo_least mo_slips mo_left mo_bestRow mo_tryRow mo_leastSlips mo_moments mo_bytes mo_bytesLong mo_tokenAt mo_tokenLong mo_token mo_value mo_next mo_values p0) sz) (qQi D (w_M_get3 cI cZ cP mo mo_now f_mo_now mo_kept mo_isKept mo_refused mo_above mo_below mo_fewest mo_manyGiven mo_firstGiven mo_secondGiven mo_clashWith mo_row mo_rowLong mo_least mo_slips mo_left mo_bestRow mo_tryRow mo_leastSlips mo_moments mo_bytes mo_bytesLong mo_tokenAt mo_tokenLong mo_token mo_value mo_next mo_values p0) sz (fun (r : Int32) (u : Unit) => True) (fun u : Unit => [(mo, .inr (7, [.ref mo_now, .ref mo_kept, .ref mo_isKept, .ref mo_refused, .long mo_above, .long mo_below, .int mo_fewest, .int mo_manyGiven, .int mo_firstGiven, .int mo_secondGiven, .ref mo_clashWith, .ref mo_row, .int mo_rowLong, .ref mo_least, .ref mo_slips, .ref mo_left, .ref mo_bestRow, .ref mo_tryRow, .int mo_leastSlips, .ref mo_moments, .ref mo_bytes, .int mo_bytesLong, .int mo_tokenAt, .int mo_tokenLong, .int mo_token, .int mo_value, .ref mo_next, .ref mo_values])), (mo_now, .inl (cI, 221, .inl f_mo_now))])) 0 0 (va_A (w_M_get3 cI cZ cP mo mo_now f_mo_now mo_kept mo_isKept mo_refused mo_above mo_below mo_fewest mo_manyGiven mo_firstGiven mo_secondGiven mo_clashWith mo_row mo_rowLong mo_least mo_slips mo_left mo_bestRow mo_tryRow mo_leastSlips mo_moments mo_bytes mo_bytesLong mo_tokenAt mo_tokenLong mo_token mo_value mo_next mo_values p0) sz) := by
  refine q_enter (by decide) (Nat.le_of_ble_eq_true rfl) ?_
  intro p e s m below meth c ls hX hr hlk hnm hE hK hP hD hS hA hl
  obtain ⟨hx, hb, hml, hown, ht⟩ := id hX
  have hl : lv_has ls 3 [(0, .ref mo), (1, .int p0), (2, .int 3)] := hl
  refine lv_aload_n hx hb dX7_get_0 rfl (lv_at hl 0 rfl) ?_
  refine va_get (D := D) (ci := 7) (v := .ref mo_now) (C := RX7) (T := TX7) (N := 28) hx hb ht inX7 hown hK hP 0 rfl rfl 0 (Nat.le_of_ble_eq_true rfl) (ht _ kw_904) (fun _ h9 => h9) rfl dX7_get_1 ?_
  refine lv_bipush (v := 16) hx hb dX7_get_4 (by decide) ?_
  refine lv_bipush (v := 7) hx hb dX7_get_6 (by decide) ?_
  refine lv_iload_n hx hb dX7_get_8 rfl (lv_at hl 1 rfl) ?_
  refine lv_imul hx hb dX7_get_9 ?_
  refine lv_topi (fun v9 e_v9 => ?_)
  obtain ⟨r_v9, q_v9⟩ := rg_mul (l := 0) (h := 77) e_v9 (rg_of (by decide) : rg (7 : Int32) 7 7) h_p0 (by decide)
  refine lv_iadd hx hb dX7_get_10 ?_
  refine lv_topi (fun v10 e_v10 => ?_)
  obtain ⟨r_v10, q_v10⟩ := rg_add (l := 16) (h := 93) e_v10 (rg_of (by decide) : rg (16 : Int32) 16 16) r_v9 (by decide)
  refine lv_iload_n hx hb dX7_get_11 rfl (lv_at hl 2 rfl) ?_
  refine lv_iadd hx hb dX7_get_12 ?_
  refine lv_topi (fun v12 e_v12 => ?_)
  obtain ⟨r_v12, q_v12⟩ := rg_add (l := 19) (h := 96) e_v12 r_v10 (rg_of (by decide) : rg (3 : Int32) 3 3) (by decide)
  have i_v12 := in_up q_v12 (rg_of (by decide) : rg (3 : Int32) 3 3) (by decide)
  refine va_iald hx hb hK hP 1 0 rfl rfl (rg_in r_v12 (by decide)) dX7_get_13 ?_
  refine lv_topi (fun v13 e_v13 => ?_)
  exact q_iret hX hr hlk () trivial hP hD hS dX7_get_14
abbrev w_M_get4 (cI cZ cP : ClassId) (mo : Nat) (mo_now : Nat) (f_mo_now : Nat → Int32) (mo_kept : Nat) (mo_isKept : Nat) (mo_refused : Nat) (mo_above : Int64) (mo_below : Int64) (mo_fewest : Int32) (mo_manyGiven : Int32) (mo_firstGiven : Int32) (mo_secondGiven : Int32) (mo_clashWith : Nat) (mo_row : Nat) (mo_rowLong : Int32) (mo_least : Nat) (mo_slips : Nat) (mo_left : Nat) (mo_bestRow : Nat) (mo_tryRow : Nat) (mo_leastSlips : Int32) (mo_moments : Nat) (mo_bytes : Nat) (mo_bytesLong : Int32) (mo_tokenAt : Int32) (mo_tokenLong : Int32) (mo_token : Int32) (mo_value : Int32) (mo_next : Nat) (mo_values : Nat) (p0 : Int32) : va_W := [(mo, .inr (7, [.ref mo_now, .ref mo_kept, .ref mo_isKept, .ref mo_refused, .long mo_above, .long mo_below, .int mo_fewest, .int mo_manyGiven, .int mo_firstGiven, .int mo_secondGiven, .ref mo_clashWith, .ref mo_row, .int mo_rowLong, .ref mo_least, .ref mo_slips, .ref mo_left, .ref mo_bestRow, .ref mo_tryRow, .int mo_leastSlips, .ref mo_moments, .ref mo_bytes, .int mo_bytesLong, .int mo_tokenAt, .int mo_tokenLong, .int mo_token, .int mo_value, .ref mo_next, .ref mo_values])), (mo_now, .inl (cI, 221, .inl f_mo_now))]
set_option maxHeartbeats 4000000 in
set_option maxRecDepth 100000 in
theorem c_M_get4 (l : Launch) (D : va_G) (cI cZ cP : ClassId) (sa : Nat → Nat) (mo : Nat) (mo_now : Nat) (f_mo_now : Nat → Int32) (mo_kept : Nat) (mo_isKept : Nat) (mo_refused : Nat) (mo_above : Int64) (mo_below : Int64) (mo_fewest : Int32) (mo_manyGiven : Int32) (mo_firstGiven : Int32) (mo_secondGiven : Int32) (mo_clashWith : Nat) (mo_row : Nat) (mo_rowLong : Int32) (mo_least : Nat) (mo_slips : Nat) (mo_left : Nat) (mo_bestRow : Nat) (mo_tryRow : Nat) (mo_leastSlips : Int32) (mo_moments : Nat) (mo_bytes : Nat) (mo_bytesLong : Int32) (mo_tokenAt : Int32) (mo_tokenLong : Int32) (mo_token : Int32) (mo_value : Int32) (mo_next : Nat) (mo_values : Nat) (p0 : Int32) (h_mo_rowLong : rg mo_rowLong 0 12) (h_mo_bytesLong : rg mo_bytesLong 0 150) (h_mo_tokenAt : rg mo_tokenAt 0 150) (h_mo_tokenLong : rg mo_tokenLong 0 150) (h_p0 : rg p0 0 11) (h_f_mo_now : okN f_mo_now) (sz : Nat) : Met l yX7_get (qW yX7_get cX7_get 3 (some .int)) ({ frames := 0, cells := 0, slots := 0, locals := 0 } : Room) (qP D (TY cI cZ cP) sa [.ref mo, .int p0, .int 4] (w_M_get4 cI cZ cP mo mo_now f_mo_now mo_kept mo_isKept mo_refused mo_above mo_below mo_fewest mo_manyGiven mo_firstGiven mo_secondGiven mo_clashWith mo_row mo_rowLong mo_least mo_slips mo_left mo_bestRow mo_tryRow mo_leastSlips mo_moments mo_bytes mo_bytesLong mo_tokenAt mo_tokenLong mo_token mo_value mo_next mo_values p0) sz) (qQi D (w_M_get4 cI cZ cP mo mo_now f_mo_now mo_kept mo_isKept mo_refused mo_above mo_below mo_fewest mo_manyGiven mo_firstGiven mo_secondGiven mo_clashWith mo_row mo_rowLong mo_least mo_slips mo_left mo_bestRow mo_tryRow mo_leastSlips mo_moments mo_bytes mo_bytesLong mo_tokenAt mo_tokenLong mo_token mo_value mo_next mo_values p0) sz (fun (r : Int32) (u : Unit) => True) (fun u : Unit => [(mo, .inr (7, [.ref mo_now, .ref mo_kept, .ref mo_isKept, .ref mo_refused, .long mo_above, .long mo_below, .int mo_fewest, .int mo_manyGiven, .int mo_firstGiven, .int mo_secondGiven, .ref mo_clashWith, .ref mo_row, .int mo_rowLong, .ref mo_least, .ref mo_slips, .ref mo_left, .ref mo_bestRow, .ref mo_tryRow, .int mo_leastSlips, .ref mo_moments, .ref mo_bytes, .int mo_bytesLong, .int mo_tokenAt, .int mo_tokenLong, .int mo_token, .int mo_value, .ref mo_next, .ref mo_values])), (mo_now, .inl (cI, 221, .inl f_mo_now))])) 0 0 (va_A (w_M_get4 cI cZ cP mo mo_now f_mo_now mo_kept mo_isKept mo_refused mo_above mo_below mo_fewest mo_manyGiven mo_firstGiven mo_secondGiven mo_clashWith mo_row mo_rowLong mo_least mo_slips mo_left mo_bestRow mo_tryRow mo_leastSlips mo_moments mo_bytes mo_bytesLong mo_tokenAt mo_tokenLong mo_token mo_value mo_next mo_values p0) sz) := by
  refine q_enter (by decide) (Nat.le_of_ble_eq_true rfl) ?_
  intro p e s m below meth c ls hX hr hlk hnm hE hK hP hD hS hA hl
  obtain ⟨hx, hb, hml, hown, ht⟩ := id hX
  have hl : lv_has ls 3 [(0, .ref mo), (1, .int p0), (2, .int 4)] := hl
  refine lv_aload_n hx hb dX7_get_0 rfl (lv_at hl 0 rfl) ?_
  refine va_get (D := D) (ci := 7) (v := .ref mo_now) (C := RX7) (T := TX7) (N := 28) hx hb ht inX7 hown hK hP 0 rfl rfl 0 (Nat.le_of_ble_eq_true rfl) (ht _ kw_904) (fun _ h9 => h9) rfl dX7_get_1 ?_
  refine lv_bipush (v := 16) hx hb dX7_get_4 (by decide) ?_
  refine lv_bipush (v := 7) hx hb dX7_get_6 (by decide) ?_
  refine lv_iload_n hx hb dX7_get_8 rfl (lv_at hl 1 rfl) ?_
  refine lv_imul hx hb dX7_get_9 ?_
  refine lv_topi (fun v9 e_v9 => ?_)
  obtain ⟨r_v9, q_v9⟩ := rg_mul (l := 0) (h := 77) e_v9 (rg_of (by decide) : rg (7 : Int32) 7 7) h_p0 (by decide)
  refine lv_iadd hx hb dX7_get_10 ?_
  refine lv_topi (fun v10 e_v10 => ?_)
  obtain ⟨r_v10, q_v10⟩ := rg_add (l := 16) (h := 93) e_v10 (rg_of (by decide) : rg (16 : Int32) 16 16) r_v9 (by decide)
  refine lv_iload_n hx hb dX7_get_11 rfl (lv_at hl 2 rfl) ?_
  refine lv_iadd hx hb dX7_get_12 ?_
  refine lv_topi (fun v12 e_v12 => ?_)
  obtain ⟨r_v12, q_v12⟩ := rg_add (l := 20) (h := 97) e_v12 r_v10 (rg_of (by decide) : rg (4 : Int32) 4 4) (by decide)
  have i_v12 := in_up q_v12 (rg_of (by decide) : rg (4 : Int32) 4 4) (by decide)
  refine va_iald hx hb hK hP 1 0 rfl rfl (rg_in r_v12 (by decide)) dX7_get_13 ?_
  refine lv_topi (fun v13 e_v13 => ?_)
  exact q_iret hX hr hlk () trivial hP hD hS dX7_get_14
abbrev w_M_get5 (cI cZ cP : ClassId) (mo : Nat) (mo_now : Nat) (f_mo_now : Nat → Int32) (mo_kept : Nat) (mo_isKept : Nat) (mo_refused : Nat) (mo_above : Int64) (mo_below : Int64) (mo_fewest : Int32) (mo_manyGiven : Int32) (mo_firstGiven : Int32) (mo_secondGiven : Int32) (mo_clashWith : Nat) (mo_row : Nat) (mo_rowLong : Int32) (mo_least : Nat) (mo_slips : Nat) (mo_left : Nat) (mo_bestRow : Nat) (mo_tryRow : Nat) (mo_leastSlips : Int32) (mo_moments : Nat) (mo_bytes : Nat) (mo_bytesLong : Int32) (mo_tokenAt : Int32) (mo_tokenLong : Int32) (mo_token : Int32) (mo_value : Int32) (mo_next : Nat) (mo_values : Nat) (p0 : Int32) : va_W := [(mo, .inr (7, [.ref mo_now, .ref mo_kept, .ref mo_isKept, .ref mo_refused, .long mo_above, .long mo_below, .int mo_fewest, .int mo_manyGiven, .int mo_firstGiven, .int mo_secondGiven, .ref mo_clashWith, .ref mo_row, .int mo_rowLong, .ref mo_least, .ref mo_slips, .ref mo_left, .ref mo_bestRow, .ref mo_tryRow, .int mo_leastSlips, .ref mo_moments, .ref mo_bytes, .int mo_bytesLong, .int mo_tokenAt, .int mo_tokenLong, .int mo_token, .int mo_value, .ref mo_next, .ref mo_values])), (mo_now, .inl (cI, 221, .inl f_mo_now))]
set_option maxHeartbeats 4000000 in
set_option maxRecDepth 100000 in
theorem c_M_get5 (l : Launch) (D : va_G) (cI cZ cP : ClassId) (sa : Nat → Nat) (mo : Nat) (mo_now : Nat) (f_mo_now : Nat → Int32) (mo_kept : Nat) (mo_isKept : Nat) (mo_refused : Nat) (mo_above : Int64) (mo_below : Int64) (mo_fewest : Int32) (mo_manyGiven : Int32) (mo_firstGiven : Int32) (mo_secondGiven : Int32) (mo_clashWith : Nat) (mo_row : Nat) (mo_rowLong : Int32) (mo_least : Nat) (mo_slips : Nat) (mo_left : Nat) (mo_bestRow : Nat) (mo_tryRow : Nat) (mo_leastSlips : Int32) (mo_moments : Nat) (mo_bytes : Nat) (mo_bytesLong : Int32) (mo_tokenAt : Int32) (mo_tokenLong : Int32) (mo_token : Int32) (mo_value : Int32) (mo_next : Nat) (mo_values : Nat) (p0 : Int32) (h_mo_rowLong : rg mo_rowLong 0 12) (h_mo_bytesLong : rg mo_bytesLong 0 150) (h_mo_tokenAt : rg mo_tokenAt 0 150) (h_mo_tokenLong : rg mo_tokenLong 0 150) (h_p0 : rg p0 0 11) (h_f_mo_now : okN f_mo_now) (sz : Nat) : Met l yX7_get (qW yX7_get cX7_get 3 (some .int)) ({ frames := 0, cells := 0, slots := 0, locals := 0 } : Room) (qP D (TY cI cZ cP) sa [.ref mo, .int p0, .int 5] (w_M_get5 cI cZ cP mo mo_now f_mo_now mo_kept mo_isKept mo_refused mo_above mo_below mo_fewest mo_manyGiven mo_firstGiven mo_secondGiven mo_clashWith mo_row mo_rowLong mo_least mo_slips mo_left mo_bestRow mo_tryRow mo_leastSlips mo_moments mo_bytes mo_bytesLong mo_tokenAt mo_tokenLong mo_token mo_value mo_next mo_values p0) sz) (qQi D (w_M_get5 cI cZ cP mo mo_now f_mo_now mo_kept mo_isKept mo_refused mo_above mo_below mo_fewest mo_manyGiven mo_firstGiven mo_secondGiven mo_clashWith mo_row mo_rowLong mo_least mo_slips mo_left mo_bestRow mo_tryRow mo_leastSlips mo_moments mo_bytes mo_bytesLong mo_tokenAt mo_tokenLong mo_token mo_value mo_next mo_values p0) sz (fun (r : Int32) (u : Unit) => rg r (-1) 3) (fun u : Unit => [(mo, .inr (7, [.ref mo_now, .ref mo_kept, .ref mo_isKept, .ref mo_refused, .long mo_above, .long mo_below, .int mo_fewest, .int mo_manyGiven, .int mo_firstGiven, .int mo_secondGiven, .ref mo_clashWith, .ref mo_row, .int mo_rowLong, .ref mo_least, .ref mo_slips, .ref mo_left, .ref mo_bestRow, .ref mo_tryRow, .int mo_leastSlips, .ref mo_moments, .ref mo_bytes, .int mo_bytesLong, .int mo_tokenAt, .int mo_tokenLong, .int mo_token, .int mo_value, .ref mo_next, .ref mo_values])), (mo_now, .inl (cI, 221, .inl f_mo_now))])) 0 0 (va_A (w_M_get5 cI cZ cP mo mo_now f_mo_now mo_kept mo_isKept mo_refused mo_above mo_below mo_fewest mo_manyGiven mo_firstGiven mo_secondGiven mo_clashWith mo_row mo_rowLong mo_least mo_slips mo_left mo_bestRow mo_tryRow mo_leastSlips mo_moments mo_bytes mo_bytesLong mo_tokenAt mo_tokenLong mo_token mo_value mo_next mo_values p0) sz) := by
  refine q_enter (by decide) (Nat.le_of_ble_eq_true rfl) ?_
  intro p e s m below meth c ls hX hr hlk hnm hE hK hP hD hS hA hl
  obtain ⟨hx, hb, hml, hown, ht⟩ := id hX
  have hl : lv_has ls 3 [(0, .ref mo), (1, .int p0), (2, .int 5)] := hl
  refine lv_aload_n hx hb dX7_get_0 rfl (lv_at hl 0 rfl) ?_
  refine va_get (D := D) (ci := 7) (v := .ref mo_now) (C := RX7) (T := TX7) (N := 28) hx hb ht inX7 hown hK hP 0 rfl rfl 0 (Nat.le_of_ble_eq_true rfl) (ht _ kw_904) (fun _ h9 => h9) rfl dX7_get_1 ?_
  refine lv_bipush (v := 16) hx hb dX7_get_4 (by decide) ?_
  refine lv_bipush (v := 7) hx hb dX7_get_6 (by decide) ?_
  refine lv_iload_n hx hb dX7_get_8 rfl (lv_at hl 1 rfl) ?_
  refine lv_imul hx hb dX7_get_9 ?_
  refine lv_topi (fun v9 e_v9 => ?_)
  obtain ⟨r_v9, q_v9⟩ := rg_mul (l := 0) (h := 77) e_v9 (rg_of (by decide) : rg (7 : Int32) 7 7) h_p0 (by decide)
  refine lv_iadd hx hb dX7_get_10 ?_
  refine lv_topi (fun v10 e_v10 => ?_)
  obtain ⟨r_v10, q_v10⟩ := rg_add (l := 16) (h := 93) e_v10 (rg_of (by decide) : rg (16 : Int32) 16 16) r_v9 (by decide)
  refine lv_iload_n hx hb dX7_get_11 rfl (lv_at hl 2 rfl) ?_
  refine lv_iadd hx hb dX7_get_12 ?_
  refine lv_topi (fun v12 e_v12 => ?_)
  obtain ⟨r_v12, q_v12⟩ := rg_add (l := 21) (h := 98) e_v12 r_v10 (rg_of (by decide) : rg (5 : Int32) 5 5) (by decide)
  have i_v12 := in_up q_v12 (rg_of (by decide) : rg (5 : Int32) 5 5) (by decide)
  refine va_iald hx hb hK hP 1 0 rfl rfl (rg_in r_v12 (by decide)) dX7_get_13 ?_
  refine lv_topi (fun v13 e_v13 => ?_)
  have r_v13 : rg v13 (-1) 3 := e_v13 ▸ (okN_ld5 h_f_mo_now (by have ln0 := q_v9; rw [show (7 : Int32).toInt = 7 from (by decide)] at ln0; have ln1 := q_v10; rw [show (16 : Int32).toInt = 16 from (by decide)] at ln1; have ln2 := q_v12; rw [show (5 : Int32).toInt = 5 from (by decide)] at ln2; omega) h_p0)
  exact q_iret hX hr hlk () r_v13 hP hD hS dX7_get_14
abbrev w_M_get6 (cI cZ cP : ClassId) (mo : Nat) (mo_now : Nat) (f_mo_now : Nat → Int32) (mo_kept : Nat) (mo_isKept : Nat) (mo_refused : Nat) (mo_above : Int64) (mo_below : Int64) (mo_fewest : Int32) (mo_manyGiven : Int32) (mo_firstGiven : Int32) (mo_secondGiven : Int32) (mo_clashWith : Nat) (mo_row : Nat) (mo_rowLong : Int32) (mo_least : Nat) (mo_slips : Nat) (mo_left : Nat) (mo_bestRow : Nat) (mo_tryRow : Nat) (mo_leastSlips : Int32) (mo_moments : Nat) (mo_bytes : Nat) (mo_bytesLong : Int32) (mo_tokenAt : Int32) (mo_tokenLong : Int32) (mo_token : Int32) (mo_value : Int32) (mo_next : Nat) (mo_values : Nat) (p0 : Int32) : va_W := [(mo, .inr (7, [.ref mo_now, .ref mo_kept, .ref mo_isKept, .ref mo_refused, .long mo_above, .long mo_below, .int mo_fewest, .int mo_manyGiven, .int mo_firstGiven, .int mo_secondGiven, .ref mo_clashWith, .ref mo_row, .int mo_rowLong, .ref mo_least, .ref mo_slips, .ref mo_left, .ref mo_bestRow, .ref mo_tryRow, .int mo_leastSlips, .ref mo_moments, .ref mo_bytes, .int mo_bytesLong, .int mo_tokenAt, .int mo_tokenLong, .int mo_token, .int mo_value, .ref mo_next, .ref mo_values])), (mo_now, .inl (cI, 221, .inl f_mo_now))]
set_option maxHeartbeats 4000000 in
set_option maxRecDepth 100000 in
theorem c_M_get6 (l : Launch) (D : va_G) (cI cZ cP : ClassId) (sa : Nat → Nat) (mo : Nat) (mo_now : Nat) (f_mo_now : Nat → Int32) (mo_kept : Nat) (mo_isKept : Nat) (mo_refused : Nat) (mo_above : Int64) (mo_below : Int64) (mo_fewest : Int32) (mo_manyGiven : Int32) (mo_firstGiven : Int32) (mo_secondGiven : Int32) (mo_clashWith : Nat) (mo_row : Nat) (mo_rowLong : Int32) (mo_least : Nat) (mo_slips : Nat) (mo_left : Nat) (mo_bestRow : Nat) (mo_tryRow : Nat) (mo_leastSlips : Int32) (mo_moments : Nat) (mo_bytes : Nat) (mo_bytesLong : Int32) (mo_tokenAt : Int32) (mo_tokenLong : Int32) (mo_token : Int32) (mo_value : Int32) (mo_next : Nat) (mo_values : Nat) (p0 : Int32) (h_mo_rowLong : rg mo_rowLong 0 12) (h_mo_bytesLong : rg mo_bytesLong 0 150) (h_mo_tokenAt : rg mo_tokenAt 0 150) (h_mo_tokenLong : rg mo_tokenLong 0 150) (h_p0 : rg p0 0 11) (h_f_mo_now : okN f_mo_now) (sz : Nat) : Met l yX7_get (qW yX7_get cX7_get 3 (some .int)) ({ frames := 0, cells := 0, slots := 0, locals := 0 } : Room) (qP D (TY cI cZ cP) sa [.ref mo, .int p0, .int 6] (w_M_get6 cI cZ cP mo mo_now f_mo_now mo_kept mo_isKept mo_refused mo_above mo_below mo_fewest mo_manyGiven mo_firstGiven mo_secondGiven mo_clashWith mo_row mo_rowLong mo_least mo_slips mo_left mo_bestRow mo_tryRow mo_leastSlips mo_moments mo_bytes mo_bytesLong mo_tokenAt mo_tokenLong mo_token mo_value mo_next mo_values p0) sz) (qQi D (w_M_get6 cI cZ cP mo mo_now f_mo_now mo_kept mo_isKept mo_refused mo_above mo_below mo_fewest mo_manyGiven mo_firstGiven mo_secondGiven mo_clashWith mo_row mo_rowLong mo_least mo_slips mo_left mo_bestRow mo_tryRow mo_leastSlips mo_moments mo_bytes mo_bytesLong mo_tokenAt mo_tokenLong mo_token mo_value mo_next mo_values p0) sz (fun (r : Int32) (u : Unit) => True) (fun u : Unit => [(mo, .inr (7, [.ref mo_now, .ref mo_kept, .ref mo_isKept, .ref mo_refused, .long mo_above, .long mo_below, .int mo_fewest, .int mo_manyGiven, .int mo_firstGiven, .int mo_secondGiven, .ref mo_clashWith, .ref mo_row, .int mo_rowLong, .ref mo_least, .ref mo_slips, .ref mo_left, .ref mo_bestRow, .ref mo_tryRow, .int mo_leastSlips, .ref mo_moments, .ref mo_bytes, .int mo_bytesLong, .int mo_tokenAt, .int mo_tokenLong, .int mo_token, .int mo_value, .ref mo_next, .ref mo_values])), (mo_now, .inl (cI, 221, .inl f_mo_now))])) 0 0 (va_A (w_M_get6 cI cZ cP mo mo_now f_mo_now mo_kept mo_isKept mo_refused mo_above mo_below mo_fewest mo_manyGiven mo_firstGiven mo_secondGiven mo_clashWith mo_row mo_rowLong mo_least mo_slips mo_left mo_bestRow mo_tryRow mo_leastSlips mo_moments mo_bytes mo_bytesLong mo_tokenAt mo_tokenLong mo_token mo_value mo_next mo_values p0) sz) := by
  refine q_enter (by decide) (Nat.le_of_ble_eq_true rfl) ?_
  intro p e s m below meth c ls hX hr hlk hnm hE hK hP hD hS hA hl
  obtain ⟨hx, hb, hml, hown, ht⟩ := id hX
  have hl : lv_has ls 3 [(0, .ref mo), (1, .int p0), (2, .int 6)] := hl
  refine lv_aload_n hx hb dX7_get_0 rfl (lv_at hl 0 rfl) ?_
  refine va_get (D := D) (ci := 7) (v := .ref mo_now) (C := RX7) (T := TX7) (N := 28) hx hb ht inX7 hown hK hP 0 rfl rfl 0 (Nat.le_of_ble_eq_true rfl) (ht _ kw_904) (fun _ h9 => h9) rfl dX7_get_1 ?_
  refine lv_bipush (v := 16) hx hb dX7_get_4 (by decide) ?_
  refine lv_bipush (v := 7) hx hb dX7_get_6 (by decide) ?_
  refine lv_iload_n hx hb dX7_get_8 rfl (lv_at hl 1 rfl) ?_
  refine lv_imul hx hb dX7_get_9 ?_
  refine lv_topi (fun v9 e_v9 => ?_)
  obtain ⟨r_v9, q_v9⟩ := rg_mul (l := 0) (h := 77) e_v9 (rg_of (by decide) : rg (7 : Int32) 7 7) h_p0 (by decide)
  refine lv_iadd hx hb dX7_get_10 ?_
  refine lv_topi (fun v10 e_v10 => ?_)
  obtain ⟨r_v10, q_v10⟩ := rg_add (l := 16) (h := 93) e_v10 (rg_of (by decide) : rg (16 : Int32) 16 16) r_v9 (by decide)
  refine lv_iload_n hx hb dX7_get_11 rfl (lv_at hl 2 rfl) ?_
  refine lv_iadd hx hb dX7_get_12 ?_
  refine lv_topi (fun v12 e_v12 => ?_)
  obtain ⟨r_v12, q_v12⟩ := rg_add (l := 22) (h := 99) e_v12 r_v10 (rg_of (by decide) : rg (6 : Int32) 6 6) (by decide)
  have i_v12 := in_up q_v12 (rg_of (by decide) : rg (6 : Int32) 6 6) (by decide)
  refine va_iald hx hb hK hP 1 0 rfl rfl (rg_in r_v12 (by decide)) dX7_get_13 ?_
  refine lv_topi (fun v13 e_v13 => ?_)
  exact q_iret hX hr hlk () trivial hP hD hS dX7_get_14
abbrev w_M_get1 (cI cZ cP : ClassId) (mo : Nat) (mo_now : Nat) (f_mo_now : Nat → Int32) (mo_kept : Nat) (mo_isKept : Nat) (mo_refused : Nat) (mo_above : Int64) (mo_below : Int64) (mo_fewest : Int32) (mo_manyGiven : Int32) (mo_firstGiven : Int32) (mo_secondGiven : Int32) (mo_clashWith : Nat) (mo_row : Nat) (mo_rowLong : Int32) (mo_least : Nat) (mo_slips : Nat) (mo_left : Nat) (mo_bestRow : Nat) (mo_tryRow : Nat) (mo_leastSlips : Int32) (mo_moments : Nat) (mo_bytes : Nat) (mo_bytesLong : Int32) (mo_tokenAt : Int32) (mo_tokenLong : Int32) (mo_token : Int32) (mo_value : Int32) (mo_next : Nat) (mo_values : Nat) (p0 : Int32) : va_W := [(mo, .inr (7, [.ref mo_now, .ref mo_kept, .ref mo_isKept, .ref mo_refused, .long mo_above, .long mo_below, .int mo_fewest, .int mo_manyGiven, .int mo_firstGiven, .int mo_secondGiven, .ref mo_clashWith, .ref mo_row, .int mo_rowLong, .ref mo_least, .ref mo_slips, .ref mo_left, .ref mo_bestRow, .ref mo_tryRow, .int mo_leastSlips, .ref mo_moments, .ref mo_bytes, .int mo_bytesLong, .int mo_tokenAt, .int mo_tokenLong, .int mo_token, .int mo_value, .ref mo_next, .ref mo_values])), (mo_now, .inl (cI, 221, .inl f_mo_now))]
set_option maxHeartbeats 4000000 in
set_option maxRecDepth 100000 in
theorem c_M_get1 (l : Launch) (D : va_G) (cI cZ cP : ClassId) (sa : Nat → Nat) (mo : Nat) (mo_now : Nat) (f_mo_now : Nat → Int32) (mo_kept : Nat) (mo_isKept : Nat) (mo_refused : Nat) (mo_above : Int64) (mo_below : Int64) (mo_fewest : Int32) (mo_manyGiven : Int32) (mo_firstGiven : Int32) (mo_secondGiven : Int32) (mo_clashWith : Nat) (mo_row : Nat) (mo_rowLong : Int32) (mo_least : Nat) (mo_slips : Nat) (mo_left : Nat) (mo_bestRow : Nat) (mo_tryRow : Nat) (mo_leastSlips : Int32) (mo_moments : Nat) (mo_bytes : Nat) (mo_bytesLong : Int32) (mo_tokenAt : Int32) (mo_tokenLong : Int32) (mo_token : Int32) (mo_value : Int32) (mo_next : Nat) (mo_values : Nat) (p0 : Int32) (h_mo_rowLong : rg mo_rowLong 0 12) (h_mo_bytesLong : rg mo_bytesLong 0 150) (h_mo_tokenAt : rg mo_tokenAt 0 150) (h_mo_tokenLong : rg mo_tokenLong 0 150) (h_p0 : rg p0 0 11) (h_f_mo_now : okN f_mo_now) (sz : Nat) : Met l yX7_get (qW yX7_get cX7_get 3 (some .int)) ({ frames := 0, cells := 0, slots := 0, locals := 0 } : Room) (qP D (TY cI cZ cP) sa [.ref mo, .int p0, .int 1] (w_M_get1 cI cZ cP mo mo_now f_mo_now mo_kept mo_isKept mo_refused mo_above mo_below mo_fewest mo_manyGiven mo_firstGiven mo_secondGiven mo_clashWith mo_row mo_rowLong mo_least mo_slips mo_left mo_bestRow mo_tryRow mo_leastSlips mo_moments mo_bytes mo_bytesLong mo_tokenAt mo_tokenLong mo_token mo_value mo_next mo_values p0) sz) (qQi D (w_M_get1 cI cZ cP mo mo_now f_mo_now mo_kept mo_isKept mo_refused mo_above mo_below mo_fewest mo_manyGiven mo_firstGiven mo_secondGiven mo_clashWith mo_row mo_rowLong mo_least mo_slips mo_left mo_bestRow mo_tryRow mo_leastSlips mo_moments mo_bytes mo_bytesLong mo_tokenAt mo_tokenLong mo_token mo_value mo_next mo_values p0) sz (fun (r : Int32) (u : Unit) => rg r 0 63 ∧ r = f_mo_now (17 + 7 * p0.toInt.toNat)) (fun u : Unit => [(mo, .inr (7, [.ref mo_now, .ref mo_kept, .ref mo_isKept, .ref mo_refused, .long mo_above, .long mo_below, .int mo_fewest, .int mo_manyGiven, .int mo_firstGiven, .int mo_secondGiven, .ref mo_clashWith, .ref mo_row, .int mo_rowLong, .ref mo_least, .ref mo_slips, .ref mo_left, .ref mo_bestRow, .ref mo_tryRow, .int mo_leastSlips, .ref mo_moments, .ref mo_bytes, .int mo_bytesLong, .int mo_tokenAt, .int mo_tokenLong, .int mo_token, .int mo_value, .ref mo_next, .ref mo_values])), (mo_now, .inl (cI, 221, .inl f_mo_now))])) 0 0 (va_A (w_M_get1 cI cZ cP mo mo_now f_mo_now mo_kept mo_isKept mo_refused mo_above mo_below mo_fewest mo_manyGiven mo_firstGiven mo_secondGiven mo_clashWith mo_row mo_rowLong mo_least mo_slips mo_left mo_bestRow mo_tryRow mo_leastSlips mo_moments mo_bytes mo_bytesLong mo_tokenAt mo_tokenLong mo_token mo_value mo_next mo_values p0) sz) := by
  refine q_enter (by decide) (Nat.le_of_ble_eq_true rfl) ?_
  intro p e s m below meth c ls hX hr hlk hnm hE hK hP hD hS hA hl
  obtain ⟨hx, hb, hml, hown, ht⟩ := id hX
  have hl : lv_has ls 3 [(0, .ref mo), (1, .int p0), (2, .int 1)] := hl
  refine lv_aload_n hx hb dX7_get_0 rfl (lv_at hl 0 rfl) ?_
  refine va_get (D := D) (ci := 7) (v := .ref mo_now) (C := RX7) (T := TX7) (N := 28) hx hb ht inX7 hown hK hP 0 rfl rfl 0 (Nat.le_of_ble_eq_true rfl) (ht _ kw_904) (fun _ h9 => h9) rfl dX7_get_1 ?_
  refine lv_bipush (v := 16) hx hb dX7_get_4 (by decide) ?_
  refine lv_bipush (v := 7) hx hb dX7_get_6 (by decide) ?_
  refine lv_iload_n hx hb dX7_get_8 rfl (lv_at hl 1 rfl) ?_
  refine lv_imul hx hb dX7_get_9 ?_
  refine lv_topi (fun v9 e_v9 => ?_)
  obtain ⟨r_v9, q_v9⟩ := rg_mul (l := 0) (h := 77) e_v9 (rg_of (by decide) : rg (7 : Int32) 7 7) h_p0 (by decide)
  refine lv_iadd hx hb dX7_get_10 ?_
  refine lv_topi (fun v10 e_v10 => ?_)
  obtain ⟨r_v10, q_v10⟩ := rg_add (l := 16) (h := 93) e_v10 (rg_of (by decide) : rg (16 : Int32) 16 16) r_v9 (by decide)
  refine lv_iload_n hx hb dX7_get_11 rfl (lv_at hl 2 rfl) ?_
  refine lv_iadd hx hb dX7_get_12 ?_
  refine lv_topi (fun v12 e_v12 => ?_)
  obtain ⟨r_v12, q_v12⟩ := rg_add (l := 17) (h := 94) e_v12 r_v10 (rg_of (by decide) : rg (1 : Int32) 1 1) (by decide)
  have i_v12 := in_up q_v12 (rg_of (by decide) : rg (1 : Int32) 1 1) (by decide)
  refine va_iald hx hb hK hP 1 0 rfl rfl (rg_in r_v12 (by decide)) dX7_get_13 ?_
  refine lv_topi (fun v13 e_v13 => ?_)
  have r_v13 : rg v13 0 63 := e_v13 ▸ (okN_ld h_f_mo_now (by have ln0 := q_v9; rw [show (7 : Int32).toInt = 7 from (by decide)] at ln0; have ln1 := q_v10; rw [show (16 : Int32).toInt = 16 from (by decide)] at ln1; have ln2 := q_v12; rw [show (1 : Int32).toInt = 1 from (by decide)] at ln2; omega) h_p0)
  exact q_iret hX hr hlk () ⟨r_v13, (by rw [e_v13, okN_ix (by have ln0 := q_v9; rw [show (7 : Int32).toInt = 7 from (by decide)] at ln0; have ln1 := q_v10; rw [show (16 : Int32).toInt = 16 from (by decide)] at ln1; have ln2 := q_v12; rw [show (1 : Int32).toInt = 1 from (by decide)] at ln2; omega) h_p0])⟩ hP hD hS dX7_get_14
abbrev w_M_setHand (cI cZ cP : ClassId) (mo : Nat) (mo_now : Nat) (f_mo_now : Nat → Int32) (mo_kept : Nat) (mo_isKept : Nat) (mo_refused : Nat) (mo_above : Int64) (mo_below : Int64) (mo_fewest : Int32) (mo_manyGiven : Int32) (mo_firstGiven : Int32) (mo_secondGiven : Int32) (mo_clashWith : Nat) (mo_row : Nat) (mo_rowLong : Int32) (mo_least : Nat) (mo_slips : Nat) (mo_left : Nat) (mo_bestRow : Nat) (mo_tryRow : Nat) (mo_leastSlips : Int32) (mo_moments : Nat) (mo_bytes : Nat) (mo_bytesLong : Int32) (mo_tokenAt : Int32) (mo_tokenLong : Int32) (mo_token : Int32) (mo_value : Int32) (mo_next : Nat) (mo_values : Nat) (p0 : Int32) (p1 : Int32) : va_W := [(mo, .inr (7, [.ref mo_now, .ref mo_kept, .ref mo_isKept, .ref mo_refused, .long mo_above, .long mo_below, .int mo_fewest, .int mo_manyGiven, .int mo_firstGiven, .int mo_secondGiven, .ref mo_clashWith, .ref mo_row, .int mo_rowLong, .ref mo_least, .ref mo_slips, .ref mo_left, .ref mo_bestRow, .ref mo_tryRow, .int mo_leastSlips, .ref mo_moments, .ref mo_bytes, .int mo_bytesLong, .int mo_tokenAt, .int mo_tokenLong, .int mo_token, .int mo_value, .ref mo_next, .ref mo_values])), (mo_now, .inl (cI, 221, .inl f_mo_now))]
set_option maxHeartbeats 4000000 in
set_option maxRecDepth 100000 in
theorem c_M_setHand (l : Launch) (D : va_G) (cI cZ cP : ClassId) (sa : Nat → Nat) (mo : Nat) (mo_now : Nat) (f_mo_now : Nat → Int32) (mo_kept : Nat) (mo_isKept : Nat) (mo_refused : Nat) (mo_above : Int64) (mo_below : Int64) (mo_fewest : Int32) (mo_manyGiven : Int32) (mo_firstGiven : Int32) (mo_secondGiven : Int32) (mo_clashWith : Nat) (mo_row : Nat) (mo_rowLong : Int32) (mo_least : Nat) (mo_slips : Nat) (mo_left : Nat) (mo_bestRow : Nat) (mo_tryRow : Nat) (mo_leastSlips : Int32) (mo_moments : Nat) (mo_bytes : Nat) (mo_bytesLong : Int32) (mo_tokenAt : Int32) (mo_tokenLong : Int32) (mo_token : Int32) (mo_value : Int32) (mo_next : Nat) (mo_values : Nat) (p0 : Int32) (p1 : Int32) (h_mo_rowLong : rg mo_rowLong 0 12) (h_mo_bytesLong : rg mo_bytesLong 0 150) (h_mo_tokenAt : rg mo_tokenAt 0 150) (h_mo_tokenLong : rg mo_tokenLong 0 150) (h_p0 : rg p0 0 11) (h_p1 : rg p1 (-1) 3) (h_f_mo_now : okN f_mo_now) (sz : Nat) : Met l yX7_setHand (qW yX7_setHand cX7_setHand 3 none) ({ frames := 0, cells := 0, slots := 0, locals := 0 } : Room) (qP D (TY cI cZ cP) sa [.ref mo, .int p0, .int p1] (w_M_setHand cI cZ cP mo mo_now f_mo_now mo_kept mo_isKept mo_refused mo_above mo_below mo_fewest mo_manyGiven mo_firstGiven mo_secondGiven mo_clashWith mo_row mo_rowLong mo_least mo_slips mo_left mo_bestRow mo_tryRow mo_leastSlips mo_moments mo_bytes mo_bytesLong mo_tokenAt mo_tokenLong mo_token mo_value mo_next mo_values p0 p1) sz) (qQv D (w_M_setHand cI cZ cP mo mo_now f_mo_now mo_kept mo_isKept mo_refused mo_above mo_below mo_fewest mo_manyGiven mo_firstGiven mo_secondGiven mo_clashWith mo_row mo_rowLong mo_least mo_slips mo_left mo_bestRow mo_tryRow mo_leastSlips mo_moments mo_bytes mo_bytesLong mo_tokenAt mo_tokenLong mo_token mo_value mo_next mo_values p0 p1) sz (fun u : (Nat → Int32) => okN u) (fun u : (Nat → Int32) => [(mo, .inr (7, [.ref mo_now, .ref mo_kept, .ref mo_isKept, .ref mo_refused, .long mo_above, .long mo_below, .int mo_fewest, .int mo_manyGiven, .int mo_firstGiven, .int mo_secondGiven, .ref mo_clashWith, .ref mo_row, .int mo_rowLong, .ref mo_least, .ref mo_slips, .ref mo_left, .ref mo_bestRow, .ref mo_tryRow, .int mo_leastSlips, .ref mo_moments, .ref mo_bytes, .int mo_bytesLong, .int mo_tokenAt, .int mo_tokenLong, .int mo_token, .int mo_value, .ref mo_next, .ref mo_values])), (mo_now, .inl (cI, 221, .inl u))])) 0 0 (va_A (w_M_setHand cI cZ cP mo mo_now f_mo_now mo_kept mo_isKept mo_refused mo_above mo_below mo_fewest mo_manyGiven mo_firstGiven mo_secondGiven mo_clashWith mo_row mo_rowLong mo_least mo_slips mo_left mo_bestRow mo_tryRow mo_leastSlips mo_moments mo_bytes mo_bytesLong mo_tokenAt mo_tokenLong mo_token mo_value mo_next mo_values p0 p1) sz) := by
  refine q_enter (by decide) (Nat.le_of_ble_eq_true rfl) ?_
  intro p e s m below meth c ls hX hr hlk hnm hE hK hP hD hS hA hl
  obtain ⟨hx, hb, hml, hown, ht⟩ := id hX
  have hl : lv_has ls 3 [(0, .ref mo), (1, .int p0), (2, .int p1)] := hl
  refine lv_aload_n hx hb dX7_setHand_0 rfl (lv_at hl 0 rfl) ?_
  refine va_get (D := D) (ci := 7) (v := .ref mo_now) (C := RX7) (T := TX7) (N := 28) hx hb ht inX7 hown hK hP 0 rfl rfl 0 (Nat.le_of_ble_eq_true rfl) (ht _ kw_904) (fun _ h9 => h9) rfl dX7_setHand_1 ?_
  refine lv_bipush (v := 16) hx hb dX7_setHand_4 (by decide) ?_
  refine lv_bipush (v := 7) hx hb dX7_setHand_6 (by decide) ?_
  refine lv_iload_n hx hb dX7_setHand_8 rfl (lv_at hl 1 rfl) ?_
  refine lv_imul hx hb dX7_setHand_9 ?_
  refine lv_topi (fun v9 e_v9 => ?_)
  obtain ⟨r_v9, q_v9⟩ := rg_mul (l := 0) (h := 77) e_v9 (rg_of (by decide) : rg (7 : Int32) 7 7) h_p0 (by decide)
  refine lv_iadd hx hb dX7_setHand_10 ?_
  refine lv_topi (fun v10 e_v10 => ?_)
  obtain ⟨r_v10, q_v10⟩ := rg_add (l := 16) (h := 93) e_v10 (rg_of (by decide) : rg (16 : Int32) 16 16) r_v9 (by decide)
  refine lv_iconst (v := 5) hx hb dX7_setHand_11 (by decide) ?_
  refine lv_iadd hx hb dX7_setHand_12 ?_
  refine lv_topi (fun v12 e_v12 => ?_)
  obtain ⟨r_v12, q_v12⟩ := rg_add (l := 21) (h := 98) e_v12 r_v10 (rg_of (by decide) : rg (5 : Int32) 5 5) (by decide)
  have i_v12 := in_up q_v12 (rg_of (by decide) : rg (5 : Int32) 5 5) (by decide)
  refine lv_iload_n hx hb dX7_setHand_13 rfl (lv_at hl 2 rfl) ?_
  refine va_iast hx hb hK hP hD hS 1 0 rfl rfl (rg_in r_v12 (by decide)) dX7_setHand_14 (fun H locs hP hD hS => ?_)
  have hP : va_P D vwCl [(mo, .inr (7, [.ref mo_now, .ref mo_kept, .ref mo_isKept, .ref mo_refused, .long mo_above, .long mo_below, .int mo_fewest, .int mo_manyGiven, .int mo_firstGiven, .int mo_secondGiven, .ref mo_clashWith, .ref mo_row, .int mo_rowLong, .ref mo_least, .ref mo_slips, .ref mo_left, .ref mo_bestRow, .ref mo_tryRow, .int mo_leastSlips, .ref mo_moments, .ref mo_bytes, .int mo_bytesLong, .int mo_tokenAt, .int mo_tokenLong, .int mo_token, .int mo_value, .ref mo_next, .ref mo_values])), (mo_now, .inl (cI, 221, .inl (upd f_mo_now v12.toNatClampNeg p1)))] H := hP
  have hD : va_D (va_A (w_M_setHand cI cZ cP mo mo_now f_mo_now mo_kept mo_isKept mo_refused mo_above mo_below mo_fewest mo_manyGiven mo_firstGiven mo_secondGiven mo_clashWith mo_row mo_rowLong mo_least mo_slips mo_left mo_bestRow mo_tryRow mo_leastSlips mo_moments mo_bytes mo_bytesLong mo_tokenAt mo_tokenLong mo_token mo_value mo_next mo_values p0 p1) sz) [(mo, .inr (7, [.ref mo_now, .ref mo_kept, .ref mo_isKept, .ref mo_refused, .long mo_above, .long mo_below, .int mo_fewest, .int mo_manyGiven, .int mo_firstGiven, .int mo_secondGiven, .ref mo_clashWith, .ref mo_row, .int mo_rowLong, .ref mo_least, .ref mo_slips, .ref mo_left, .ref mo_bestRow, .ref mo_tryRow, .int mo_leastSlips, .ref mo_moments, .ref mo_bytes, .int mo_bytesLong, .int mo_tokenAt, .int mo_tokenLong, .int mo_token, .int mo_value, .ref mo_next, .ref mo_values])), (mo_now, .inl (cI, 221, .inl (upd f_mo_now v12.toNatClampNeg p1)))] := hD
  generalize hf_f14 : (upd f_mo_now v12.toNatClampNeg p1) = f14 at hP hD
  have pa_f14 : okN f14 := hf_f14 ▸ (okN_21 h_f_mo_now (by have ln0 := q_v9; rw [show (7 : Int32).toInt = 7 from (by decide)] at ln0; have ln1 := q_v10; rw [show (16 : Int32).toInt = 16 from (by decide)] at ln1; have ln2 := q_v12; rw [show (5 : Int32).toInt = 5 from (by decide)] at ln2; omega : v12.toInt = 21 + 7 * p0.toInt) h_p0 h_p1)
  have hP : va_P D vwCl [(mo, .inr (7, [.ref mo_now, .ref mo_kept, .ref mo_isKept, .ref mo_refused, .long mo_above, .long mo_below, .int mo_fewest, .int mo_manyGiven, .int mo_firstGiven, .int mo_secondGiven, .ref mo_clashWith, .ref mo_row, .int mo_rowLong, .ref mo_least, .ref mo_slips, .ref mo_left, .ref mo_bestRow, .ref mo_tryRow, .int mo_leastSlips, .ref mo_moments, .ref mo_bytes, .int mo_bytesLong, .int mo_tokenAt, .int mo_tokenLong, .int mo_token, .int mo_value, .ref mo_next, .ref mo_values])), (mo_now, .inl (cI, 221, .inl f14))] H := hP
  have hD : va_D (va_A (w_M_setHand cI cZ cP mo mo_now f_mo_now mo_kept mo_isKept mo_refused mo_above mo_below mo_fewest mo_manyGiven mo_firstGiven mo_secondGiven mo_clashWith mo_row mo_rowLong mo_least mo_slips mo_left mo_bestRow mo_tryRow mo_leastSlips mo_moments mo_bytes mo_bytesLong mo_tokenAt mo_tokenLong mo_token mo_value mo_next mo_values p0 p1) sz) [(mo, .inr (7, [.ref mo_now, .ref mo_kept, .ref mo_isKept, .ref mo_refused, .long mo_above, .long mo_below, .int mo_fewest, .int mo_manyGiven, .int mo_firstGiven, .int mo_secondGiven, .ref mo_clashWith, .ref mo_row, .int mo_rowLong, .ref mo_least, .ref mo_slips, .ref mo_left, .ref mo_bestRow, .ref mo_tryRow, .int mo_leastSlips, .ref mo_moments, .ref mo_bytes, .int mo_bytesLong, .int mo_tokenAt, .int mo_tokenLong, .int mo_token, .int mo_value, .ref mo_next, .ref mo_values])), (mo_now, .inl (cI, 221, .inl f14))] := hD
  exact q_vret hX hr hlk f14 pa_f14 hP hD hS dX7_setHand_15
abbrev w_M_setHand9 (cI cZ cP : ClassId) (mo : Nat) (mo_now : Nat) (f_mo_now : Nat → Int32) (mo_kept : Nat) (mo_isKept : Nat) (mo_refused : Nat) (mo_above : Int64) (mo_below : Int64) (mo_fewest : Int32) (mo_manyGiven : Int32) (mo_firstGiven : Int32) (mo_secondGiven : Int32) (mo_clashWith : Nat) (mo_row : Nat) (mo_rowLong : Int32) (mo_least : Nat) (mo_slips : Nat) (mo_left : Nat) (mo_bestRow : Nat) (mo_tryRow : Nat) (mo_leastSlips : Int32) (mo_moments : Nat) (mo_bytes : Nat) (mo_bytesLong : Int32) (mo_tokenAt : Int32) (mo_tokenLong : Int32) (mo_token : Int32) (mo_value : Int32) (mo_next : Nat) (mo_values : Nat) (p0 : Int32) (p1 : Int32) : va_W := [(mo, .inr (7, [.ref mo_now, .ref mo_kept, .ref mo_isKept, .ref mo_refused, .long mo_above, .long mo_below, .int mo_fewest, .int mo_manyGiven, .int mo_firstGiven, .int mo_secondGiven, .ref mo_clashWith, .ref mo_row, .int mo_rowLong, .ref mo_least, .ref mo_slips, .ref mo_left, .ref mo_bestRow, .ref mo_tryRow, .int mo_leastSlips, .ref mo_moments, .ref mo_bytes, .int mo_bytesLong, .int mo_tokenAt, .int mo_tokenLong, .int mo_token, .int mo_value, .ref mo_next, .ref mo_values])), (mo_now, .inl (cI, 221, .inl f_mo_now))]
set_option maxHeartbeats 4000000 in
set_option maxRecDepth 100000 in
theorem c_M_setHand9 (l : Launch) (D : va_G) (cI cZ cP : ClassId) (sa : Nat → Nat) (mo : Nat) (mo_now : Nat) (f_mo_now : Nat → Int32) (mo_kept : Nat) (mo_isKept : Nat) (mo_refused : Nat) (mo_above : Int64) (mo_below : Int64) (mo_fewest : Int32) (mo_manyGiven : Int32) (mo_firstGiven : Int32) (mo_secondGiven : Int32) (mo_clashWith : Nat) (mo_row : Nat) (mo_rowLong : Int32) (mo_least : Nat) (mo_slips : Nat) (mo_left : Nat) (mo_bestRow : Nat) (mo_tryRow : Nat) (mo_leastSlips : Int32) (mo_moments : Nat) (mo_bytes : Nat) (mo_bytesLong : Int32) (mo_tokenAt : Int32) (mo_tokenLong : Int32) (mo_token : Int32) (mo_value : Int32) (mo_next : Nat) (mo_values : Nat) (p0 : Int32) (p1 : Int32) (h_mo_rowLong : rg mo_rowLong 0 12) (h_mo_bytesLong : rg mo_bytesLong 0 150) (h_mo_tokenAt : rg mo_tokenAt 0 150) (h_mo_tokenLong : rg mo_tokenLong 0 150) (h_p0 : rg p0 0 11) (h_p1 : rg p1 (-1) 3) (h_f_mo_now : okN9 f_mo_now) (sz : Nat) : Met l yX7_setHand (qW yX7_setHand cX7_setHand 3 none) ({ frames := 0, cells := 0, slots := 0, locals := 0 } : Room) (qP D (TY cI cZ cP) sa [.ref mo, .int p0, .int p1] (w_M_setHand9 cI cZ cP mo mo_now f_mo_now mo_kept mo_isKept mo_refused mo_above mo_below mo_fewest mo_manyGiven mo_firstGiven mo_secondGiven mo_clashWith mo_row mo_rowLong mo_least mo_slips mo_left mo_bestRow mo_tryRow mo_leastSlips mo_moments mo_bytes mo_bytesLong mo_tokenAt mo_tokenLong mo_token mo_value mo_next mo_values p0 p1) sz) (qQv D (w_M_setHand9 cI cZ cP mo mo_now f_mo_now mo_kept mo_isKept mo_refused mo_above mo_below mo_fewest mo_manyGiven mo_firstGiven mo_secondGiven mo_clashWith mo_row mo_rowLong mo_least mo_slips mo_left mo_bestRow mo_tryRow mo_leastSlips mo_moments mo_bytes mo_bytesLong mo_tokenAt mo_tokenLong mo_token mo_value mo_next mo_values p0 p1) sz (fun u : (Nat → Int32) => okN9 u) (fun u : (Nat → Int32) => [(mo, .inr (7, [.ref mo_now, .ref mo_kept, .ref mo_isKept, .ref mo_refused, .long mo_above, .long mo_below, .int mo_fewest, .int mo_manyGiven, .int mo_firstGiven, .int mo_secondGiven, .ref mo_clashWith, .ref mo_row, .int mo_rowLong, .ref mo_least, .ref mo_slips, .ref mo_left, .ref mo_bestRow, .ref mo_tryRow, .int mo_leastSlips, .ref mo_moments, .ref mo_bytes, .int mo_bytesLong, .int mo_tokenAt, .int mo_tokenLong, .int mo_token, .int mo_value, .ref mo_next, .ref mo_values])), (mo_now, .inl (cI, 221, .inl u))])) 0 0 (va_A (w_M_setHand9 cI cZ cP mo mo_now f_mo_now mo_kept mo_isKept mo_refused mo_above mo_below mo_fewest mo_manyGiven mo_firstGiven mo_secondGiven mo_clashWith mo_row mo_rowLong mo_least mo_slips mo_left mo_bestRow mo_tryRow mo_leastSlips mo_moments mo_bytes mo_bytesLong mo_tokenAt mo_tokenLong mo_token mo_value mo_next mo_values p0 p1) sz) := by
  refine q_enter (by decide) (Nat.le_of_ble_eq_true rfl) ?_
  intro p e s m below meth c ls hX hr hlk hnm hE hK hP hD hS hA hl
  obtain ⟨hx, hb, hml, hown, ht⟩ := id hX
  have hl : lv_has ls 3 [(0, .ref mo), (1, .int p0), (2, .int p1)] := hl
  refine lv_aload_n hx hb dX7_setHand_0 rfl (lv_at hl 0 rfl) ?_
  refine va_get (D := D) (ci := 7) (v := .ref mo_now) (C := RX7) (T := TX7) (N := 28) hx hb ht inX7 hown hK hP 0 rfl rfl 0 (Nat.le_of_ble_eq_true rfl) (ht _ kw_904) (fun _ h9 => h9) rfl dX7_setHand_1 ?_
  refine lv_bipush (v := 16) hx hb dX7_setHand_4 (by decide) ?_
  refine lv_bipush (v := 7) hx hb dX7_setHand_6 (by decide) ?_
  refine lv_iload_n hx hb dX7_setHand_8 rfl (lv_at hl 1 rfl) ?_
  refine lv_imul hx hb dX7_setHand_9 ?_
  refine lv_topi (fun v9 e_v9 => ?_)
  obtain ⟨r_v9, q_v9⟩ := rg_mul (l := 0) (h := 77) e_v9 (rg_of (by decide) : rg (7 : Int32) 7 7) h_p0 (by decide)
  refine lv_iadd hx hb dX7_setHand_10 ?_
  refine lv_topi (fun v10 e_v10 => ?_)
  obtain ⟨r_v10, q_v10⟩ := rg_add (l := 16) (h := 93) e_v10 (rg_of (by decide) : rg (16 : Int32) 16 16) r_v9 (by decide)
  refine lv_iconst (v := 5) hx hb dX7_setHand_11 (by decide) ?_
  refine lv_iadd hx hb dX7_setHand_12 ?_
  refine lv_topi (fun v12 e_v12 => ?_)
  obtain ⟨r_v12, q_v12⟩ := rg_add (l := 21) (h := 98) e_v12 r_v10 (rg_of (by decide) : rg (5 : Int32) 5 5) (by decide)
  have i_v12 := in_up q_v12 (rg_of (by decide) : rg (5 : Int32) 5 5) (by decide)
  refine lv_iload_n hx hb dX7_setHand_13 rfl (lv_at hl 2 rfl) ?_
  refine va_iast hx hb hK hP hD hS 1 0 rfl rfl (rg_in r_v12 (by decide)) dX7_setHand_14 (fun H locs hP hD hS => ?_)
  have hP : va_P D vwCl [(mo, .inr (7, [.ref mo_now, .ref mo_kept, .ref mo_isKept, .ref mo_refused, .long mo_above, .long mo_below, .int mo_fewest, .int mo_manyGiven, .int mo_firstGiven, .int mo_secondGiven, .ref mo_clashWith, .ref mo_row, .int mo_rowLong, .ref mo_least, .ref mo_slips, .ref mo_left, .ref mo_bestRow, .ref mo_tryRow, .int mo_leastSlips, .ref mo_moments, .ref mo_bytes, .int mo_bytesLong, .int mo_tokenAt, .int mo_tokenLong, .int mo_token, .int mo_value, .ref mo_next, .ref mo_values])), (mo_now, .inl (cI, 221, .inl (upd f_mo_now v12.toNatClampNeg p1)))] H := hP
  have hD : va_D (va_A (w_M_setHand9 cI cZ cP mo mo_now f_mo_now mo_kept mo_isKept mo_refused mo_above mo_below mo_fewest mo_manyGiven mo_firstGiven mo_secondGiven mo_clashWith mo_row mo_rowLong mo_least mo_slips mo_left mo_bestRow mo_tryRow mo_leastSlips mo_moments mo_bytes mo_bytesLong mo_tokenAt mo_tokenLong mo_token mo_value mo_next mo_values p0 p1) sz) [(mo, .inr (7, [.ref mo_now, .ref mo_kept, .ref mo_isKept, .ref mo_refused, .long mo_above, .long mo_below, .int mo_fewest, .int mo_manyGiven, .int mo_firstGiven, .int mo_secondGiven, .ref mo_clashWith, .ref mo_row, .int mo_rowLong, .ref mo_least, .ref mo_slips, .ref mo_left, .ref mo_bestRow, .ref mo_tryRow, .int mo_leastSlips, .ref mo_moments, .ref mo_bytes, .int mo_bytesLong, .int mo_tokenAt, .int mo_tokenLong, .int mo_token, .int mo_value, .ref mo_next, .ref mo_values])), (mo_now, .inl (cI, 221, .inl (upd f_mo_now v12.toNatClampNeg p1)))] := hD
  generalize hf_f14 : (upd f_mo_now v12.toNatClampNeg p1) = f14 at hP hD
  have pa_f14 : okN9 f14 := hf_f14 ▸ (okN9_21 h_f_mo_now (by have ln0 := q_v9; rw [show (7 : Int32).toInt = 7 from (by decide)] at ln0; have ln1 := q_v10; rw [show (16 : Int32).toInt = 16 from (by decide)] at ln1; have ln2 := q_v12; rw [show (5 : Int32).toInt = 5 from (by decide)] at ln2; omega : v12.toInt = 21 + 7 * p0.toInt) h_p0 h_p1)
  have hP : va_P D vwCl [(mo, .inr (7, [.ref mo_now, .ref mo_kept, .ref mo_isKept, .ref mo_refused, .long mo_above, .long mo_below, .int mo_fewest, .int mo_manyGiven, .int mo_firstGiven, .int mo_secondGiven, .ref mo_clashWith, .ref mo_row, .int mo_rowLong, .ref mo_least, .ref mo_slips, .ref mo_left, .ref mo_bestRow, .ref mo_tryRow, .int mo_leastSlips, .ref mo_moments, .ref mo_bytes, .int mo_bytesLong, .int mo_tokenAt, .int mo_tokenLong, .int mo_token, .int mo_value, .ref mo_next, .ref mo_values])), (mo_now, .inl (cI, 221, .inl f14))] H := hP
  have hD : va_D (va_A (w_M_setHand9 cI cZ cP mo mo_now f_mo_now mo_kept mo_isKept mo_refused mo_above mo_below mo_fewest mo_manyGiven mo_firstGiven mo_secondGiven mo_clashWith mo_row mo_rowLong mo_least mo_slips mo_left mo_bestRow mo_tryRow mo_leastSlips mo_moments mo_bytes mo_bytesLong mo_tokenAt mo_tokenLong mo_token mo_value mo_next mo_values p0 p1) sz) [(mo, .inr (7, [.ref mo_now, .ref mo_kept, .ref mo_isKept, .ref mo_refused, .long mo_above, .long mo_below, .int mo_fewest, .int mo_manyGiven, .int mo_firstGiven, .int mo_secondGiven, .ref mo_clashWith, .ref mo_row, .int mo_rowLong, .ref mo_least, .ref mo_slips, .ref mo_left, .ref mo_bestRow, .ref mo_tryRow, .int mo_leastSlips, .ref mo_moments, .ref mo_bytes, .int mo_bytesLong, .int mo_tokenAt, .int mo_tokenLong, .int mo_token, .int mo_value, .ref mo_next, .ref mo_values])), (mo_now, .inl (cI, 221, .inl f14))] := hD
  exact q_vret hX hr hlk f14 pa_f14 hP hD hS dX7_setHand_15
abbrev w_M_begin (cI cZ cP : ClassId) (q : Nat) (f : Nat → Int32) (p0 : Int32) : va_W := [(q, .inl (cI, 221, .inl f))]
set_option maxHeartbeats 4000000 in
set_option maxRecDepth 100000 in
theorem c_M_begin (l : Launch) (D : va_G) (cI cZ cP : ClassId) (sa : Nat → Nat) (q : Nat) (f : Nat → Int32) (p0 : Int32) (h_f : okN f) (sz : Nat) : Met l yX7_begin (qW yX7_begin cX7_begin 3 none) ({ frames := 0, cells := 0, slots := 0, locals := 0 } : Room) (qP D (TY cI cZ cP) sa [.ref q, .int p0] (w_M_begin cI cZ cP q f p0) sz) (qQv D (w_M_begin cI cZ cP q f p0) sz (fun u : (Nat → Int32) => okN u) (fun u : (Nat → Int32) => [(q, .inl (cI, 221, .inl u))])) 0 0 (va_A (w_M_begin cI cZ cP q f p0) sz) := by
  refine q_enter (by decide) (Nat.le_of_ble_eq_true rfl) ?_
  intro p e s m below meth c ls hX hr hlk hnm hE hK hP hD hS hA hl
  obtain ⟨hx, hb, hml, hown, ht⟩ := id hX
  have hl : lv_has ls 3 [(0, .ref q), (1, .int p0)] := hl
  have lp_24 : ∀ (n_24 : Nat) (j24_l2 : Int32) (j24_a0 : Nat → Int32), rg j24_l2 0 4 → okN j24_a0 → (5 ≤ j24_l2.toInt + n_24) → ∀ (H : Heap) (locs : List Loc) (ls : Array Slot), va_P D vwCl [(q, .inl (cI, 221, .inl j24_a0))] H → va_D (va_A (w_M_begin cI cZ cP q f p0) sz) [(q, .inl (cI, 221, .inl j24_a0))] → va_S (va_A (w_M_begin cI cZ cP q f p0) sz) s.heap H locs → lv_has ls 3 [(0, .ref q), (1, .int p0), (2, .int j24_l2)] → W p l e ({ frames := 0, cells := 0, slots := 0, locals := 0 } : Room) s m ([.ref q, .int p0] : List Value).toArray below meth c H locs 0 0 (MQ below (qQv D (w_M_begin cI cZ cP q f p0) sz (fun u : (Nat → Int32) => okN u) (fun u : (Nat → Int32) => [(q, .inl (cI, 221, .inl u))])) ([.ref q, .int p0] : List Value).toArray s 0 0 (va_A (w_M_begin cI cZ cP q f p0) sz)) (F0 m 24 ls []) := by
    intro n_24
    induction n_24 with
    | zero => intro j24_l2 j24_a0 g24_j24_l2 g24_j24_a0 hm_24; exact (ms_0 hm_24 g24_j24_l2 (by decide)).elim
    | succ n_24 ih_24 =>
      intro j24_l2 j24_a0 g24_j24_l2 g24_j24_a0 hm_24 H locs ls hP hD hS hl
      refine lv_iload_n hx hb dX7_begin_24 rfl (lv_at hl 2 rfl) ?_
      refine lv_iconst (v := 4) hx hb dX7_begin_25 (by decide) ?_
      refine lv_icmp_ge (tgt := 66) hx hb dX7_begin_26 (by decide) (fun c26 => ?_) (fun c26 => ?_)
      · have r26tb : rg j24_l2 4 4 := rg_leR c26 (rg_of (by decide) : rg (4 : Int32) 4 4) g24_j24_l2 (by decide)
        exact q_vret hX hr hlk j24_a0 g24_j24_a0 hP hD hS dX7_begin_66
      · have r26fa : rg j24_l2 0 3 := rg_ltL (Int32.not_le.mp c26) g24_j24_l2 (rg_of (by decide) : rg (4 : Int32) 4 4) (by decide)
        refine lv_aload_n hx hb dX7_begin_29 rfl (lv_at hl 0 rfl) ?_
        refine lv_iconst (v := 4) hx hb dX7_begin_30 (by decide) ?_
        refine lv_iconst (v := 3) hx hb dX7_begin_31 (by decide) ?_
        refine lv_iload_n hx hb dX7_begin_32 rfl (lv_at hl 2 rfl) ?_
        refine lv_imul hx hb dX7_begin_33 ?_
        refine lv_topi (fun v33 e_v33 => ?_)
        obtain ⟨r_v33, q_v33⟩ := rg_mul (l := 0) (h := 9) e_v33 (rg_of (by decide) : rg (3 : Int32) 3 3) r26fa (by decide)
        refine lv_iadd hx hb dX7_begin_34 ?_
        refine lv_topi (fun v34 e_v34 => ?_)
        obtain ⟨r_v34, q_v34⟩ := rg_add (l := 4) (h := 13) e_v34 (rg_of (by decide) : rg (4 : Int32) 4 4) r_v33 (by decide)
        refine lv_iconst (v := 0) hx hb dX7_begin_35 (by decide) ?_
        refine lv_iadd hx hb dX7_begin_36 ?_
        refine lv_topi (fun v36 e_v36 => ?_)
        obtain ⟨r_v36, q_v36⟩ := rg_add (l := 4) (h := 13) e_v36 r_v34 (rg_of (by decide) : rg (0 : Int32) 0 0) (by decide)
        refine lv_iconst (v := 0) hx hb dX7_begin_37 (by decide) ?_
        refine va_iast hx hb hK hP hD hS 0 0 rfl rfl (rg_in r_v36 (by decide)) dX7_begin_38 (fun H locs hP hD hS => ?_)
        have hP : va_P D vwCl [(q, .inl (cI, 221, .inl (upd j24_a0 v36.toNatClampNeg 0)))] H := hP
        have hD : va_D (va_A (w_M_begin cI cZ cP q f p0) sz) [(q, .inl (cI, 221, .inl (upd j24_a0 v36.toNatClampNeg 0)))] := hD
        generalize hf_f38 : (upd j24_a0 v36.toNatClampNeg 0) = f38 at hP hD
        have pa_f38 : okN f38 := hf_f38 ▸ (okN_z g24_j24_a0 (rg_of (by decide) : rg (0 : Int32) 0 0))
        have hP : va_P D vwCl [(q, .inl (cI, 221, .inl f38))] H := hP
        have hD : va_D (va_A (w_M_begin cI cZ cP q f p0) sz) [(q, .inl (cI, 221, .inl f38))] := hD
        refine lv_aload_n hx hb dX7_begin_39 rfl (lv_at hl 0 rfl) ?_
        refine lv_iconst (v := 4) hx hb dX7_begin_40 (by decide) ?_
        refine lv_iconst (v := 3) hx hb dX7_begin_41 (by decide) ?_
        refine lv_iload_n hx hb dX7_begin_42 rfl (lv_at hl 2 rfl) ?_
        refine lv_imul hx hb dX7_begin_43 ?_
        refine lv_topi (fun v43 e_v43 => ?_)
        obtain ⟨r_v43, q_v43⟩ := rg_mul (l := 0) (h := 9) e_v43 (rg_of (by decide) : rg (3 : Int32) 3 3) r26fa (by decide)
        refine lv_iadd hx hb dX7_begin_44 ?_
        refine lv_topi (fun v44 e_v44 => ?_)
        obtain ⟨r_v44, q_v44⟩ := rg_add (l := 4) (h := 13) e_v44 (rg_of (by decide) : rg (4 : Int32) 4 4) r_v43 (by decide)
        refine lv_iconst (v := 1) hx hb dX7_begin_45 (by decide) ?_
        refine lv_iadd hx hb dX7_begin_46 ?_
        refine lv_topi (fun v46 e_v46 => ?_)
        obtain ⟨r_v46, q_v46⟩ := rg_add (l := 5) (h := 14) e_v46 r_v44 (rg_of (by decide) : rg (1 : Int32) 1 1) (by decide)
        have i_v46 := in_up q_v46 (rg_of (by decide) : rg (1 : Int32) 1 1) (by decide)
        refine lv_bipush (v := 9) hx hb dX7_begin_47 (by decide) ?_
        refine va_iast hx hb hK hP hD hS 0 0 rfl rfl (rg_in r_v46 (by decide)) dX7_begin_49 (fun H locs hP hD hS => ?_)
        have hP : va_P D vwCl [(q, .inl (cI, 221, .inl (upd f38 v46.toNatClampNeg 9)))] H := hP
        have hD : va_D (va_A (w_M_begin cI cZ cP q f p0) sz) [(q, .inl (cI, 221, .inl (upd f38 v46.toNatClampNeg 9)))] := hD
        generalize hf_f49 : (upd f38 v46.toNatClampNeg 9) = f49 at hP hD
        have pa_f49 : okN f49 := hf_f49 ▸ (okN_lo pa_f38 r_v46 (by decide))
        have hP : va_P D vwCl [(q, .inl (cI, 221, .inl f49))] H := hP
        have hD : va_D (va_A (w_M_begin cI cZ cP q f p0) sz) [(q, .inl (cI, 221, .inl f49))] := hD
        refine lv_aload_n hx hb dX7_begin_50 rfl (lv_at hl 0 rfl) ?_
        refine lv_iconst (v := 4) hx hb dX7_begin_51 (by decide) ?_
        refine lv_iconst (v := 3) hx hb dX7_begin_52 (by decide) ?_
        refine lv_iload_n hx hb dX7_begin_53 rfl (lv_at hl 2 rfl) ?_
        refine lv_imul hx hb dX7_begin_54 ?_
        refine lv_topi (fun v54 e_v54 => ?_)
        obtain ⟨r_v54, q_v54⟩ := rg_mul (l := 0) (h := 9) e_v54 (rg_of (by decide) : rg (3 : Int32) 3 3) r26fa (by decide)
        refine lv_iadd hx hb dX7_begin_55 ?_
        refine lv_topi (fun v55 e_v55 => ?_)
        obtain ⟨r_v55, q_v55⟩ := rg_add (l := 4) (h := 13) e_v55 (rg_of (by decide) : rg (4 : Int32) 4 4) r_v54 (by decide)
        refine lv_iconst (v := 2) hx hb dX7_begin_56 (by decide) ?_
        refine lv_iadd hx hb dX7_begin_57 ?_
        refine lv_topi (fun v57 e_v57 => ?_)
        obtain ⟨r_v57, q_v57⟩ := rg_add (l := 6) (h := 15) e_v57 r_v55 (rg_of (by decide) : rg (2 : Int32) 2 2) (by decide)
        have i_v57 := in_up q_v57 (rg_of (by decide) : rg (2 : Int32) 2 2) (by decide)
        refine lv_iconst (v := 4) hx hb dX7_begin_58 (by decide) ?_
        refine va_iast hx hb hK hP hD hS 0 0 rfl rfl (rg_in r_v57 (by decide)) dX7_begin_59 (fun H locs hP hD hS => ?_)
        have hP : va_P D vwCl [(q, .inl (cI, 221, .inl (upd f49 v57.toNatClampNeg 4)))] H := hP
        have hD : va_D (va_A (w_M_begin cI cZ cP q f p0) sz) [(q, .inl (cI, 221, .inl (upd f49 v57.toNatClampNeg 4)))] := hD
        generalize hf_f59 : (upd f49 v57.toNatClampNeg 4) = f59 at hP hD
        have pa_f59 : okN f59 := hf_f59 ▸ (okN_lo pa_f49 r_v57 (by decide))
        have hP : va_P D vwCl [(q, .inl (cI, 221, .inl f59))] H := hP
        have hD : va_D (va_A (w_M_begin cI cZ cP q f p0) sz) [(q, .inl (cI, 221, .inl f59))] := hD
        obtain ⟨v60, e_v60⟩ : ∃ y : Int32, y = j24_l2 + 1 := ⟨_, rfl⟩
        obtain ⟨r_v60, q_v60⟩ := rg_add (l := 1) (h := 4) e_v60 r26fa (rg_of (by decide) : rg (1 : Int32) 1 1) (by decide)
        have i_v60 := in_up q_v60 (rg_of (by decide) : rg (1 : Int32) 1 1) (by decide)
        refine lv_iinc (v := v60) (lv' := [(2, .int v60), (0, .ref q), (1, .int p0)]) hx hb dX7_begin_60 hl (k := 2) rfl (by rw [e_v60]; rfl) (by decide) rfl (fun ls hl => ?_)
        refine lv_goto (tgt := 24) hx hb dX7_begin_63 (by decide) ?_
        exact ih_24 v60 f59 (rg_w r_v60 (by decide)) pa_f59 (ms_up hm_24 i_v60) _ _ _ hP hD hS (lv_sub hl [1, 2, 0] rfl)
  have lp_2 : ∀ (n_2 : Nat) (j2_l2 : Int32) (j2_a0 : Nat → Int32), rg j2_l2 0 101 → okN j2_a0 → (102 ≤ j2_l2.toInt + n_2) → ∀ (H : Heap) (locs : List Loc) (ls : Array Slot), va_P D vwCl [(q, .inl (cI, 221, .inl j2_a0))] H → va_D (va_A (w_M_begin cI cZ cP q f p0) sz) [(q, .inl (cI, 221, .inl j2_a0))] → va_S (va_A (w_M_begin cI cZ cP q f p0) sz) s.heap H locs → lv_has ls 3 [(0, .ref q), (1, .int p0), (2, .int j2_l2)] → W p l e ({ frames := 0, cells := 0, slots := 0, locals := 0 } : Room) s m ([.ref q, .int p0] : List Value).toArray below meth c H locs 0 0 (MQ below (qQv D (w_M_begin cI cZ cP q f p0) sz (fun u : (Nat → Int32) => okN u) (fun u : (Nat → Int32) => [(q, .inl (cI, 221, .inl u))])) ([.ref q, .int p0] : List Value).toArray s 0 0 (va_A (w_M_begin cI cZ cP q f p0) sz)) (F0 m 2 ls []) := by
    intro n_2
    induction n_2 with
    | zero => intro j2_l2 j2_a0 g2_j2_l2 g2_j2_a0 hm_2; exact (ms_0 hm_2 g2_j2_l2 (by decide)).elim
    | succ n_2 ih_2 =>
      intro j2_l2 j2_a0 g2_j2_l2 g2_j2_a0 hm_2 H locs ls hP hD hS hl
      refine lv_iload_n hx hb dX7_begin_2 rfl (lv_at hl 2 rfl) ?_
      refine lv_bipush (v := 101) hx hb dX7_begin_3 (by decide) ?_
      refine lv_icmp_ge (tgt := 18) hx hb dX7_begin_5 (by decide) (fun c5 => ?_) (fun c5 => ?_)
      · have r5tb : rg j2_l2 101 101 := rg_leR c5 (rg_of (by decide) : rg (101 : Int32) 101 101) g2_j2_l2 (by decide)
        refine lv_aload_n hx hb dX7_begin_18 rfl (lv_at hl 0 rfl) ?_
        refine lv_iconst (v := 1) hx hb dX7_begin_19 (by decide) ?_
        refine lv_iload_n hx hb dX7_begin_20 rfl (lv_at hl 1 rfl) ?_
        refine va_iast hx hb hK hP hD hS 0 0 rfl rfl (rg_in (rg_of (by decide) : rg (1 : Int32) 1 1) (by decide)) dX7_begin_21 (fun H locs hP hD hS => ?_)
        have hP : va_P D vwCl [(q, .inl (cI, 221, .inl (upd j2_a0 (1 : Int32).toNatClampNeg p0)))] H := hP
        have hD : va_D (va_A (w_M_begin cI cZ cP q f p0) sz) [(q, .inl (cI, 221, .inl (upd j2_a0 (1 : Int32).toNatClampNeg p0)))] := hD
        generalize hf_f21 : (upd j2_a0 (1 : Int32).toNatClampNeg p0) = f21 at hP hD
        have pa_f21 : okN f21 := hf_f21 ▸ (okN_lo g2_j2_a0 (rg_of (by decide) : rg (1 : Int32) 1 1) (by decide))
        have hP : va_P D vwCl [(q, .inl (cI, 221, .inl f21))] H := hP
        have hD : va_D (va_A (w_M_begin cI cZ cP q f p0) sz) [(q, .inl (cI, 221, .inl f21))] := hD
        refine lv_iconst (v := 0) hx hb dX7_begin_22 (by decide) ?_
        refine lv_istore_n (lv' := [(2, .int 0), (0, .ref q), (1, .int p0)]) hx hb dX7_begin_23 rfl hl (by decide) rfl (fun ls hl => ?_)
        exact lp_24 5 0 f21 (rg_w (rg_of (by decide) : rg (0 : Int32) 0 0) (by decide)) pa_f21 (ms_in (rg_of (by decide) : rg (0 : Int32) 0 0) (by decide)) _ _ _ hP hD hS (lv_sub hl [1, 2, 0] rfl)
      · have r5fa : rg j2_l2 0 100 := rg_ltL (Int32.not_le.mp c5) g2_j2_l2 (rg_of (by decide) : rg (101 : Int32) 101 101) (by decide)
        refine lv_aload_n hx hb dX7_begin_8 rfl (lv_at hl 0 rfl) ?_
        refine lv_iload_n hx hb dX7_begin_9 rfl (lv_at hl 2 rfl) ?_
        refine lv_iconst (v := 0) hx hb dX7_begin_10 (by decide) ?_
        refine va_iast hx hb hK hP hD hS 0 0 rfl rfl (rg_in r5fa (by decide)) dX7_begin_11 (fun H locs hP hD hS => ?_)
        have hP : va_P D vwCl [(q, .inl (cI, 221, .inl (upd j2_a0 j2_l2.toNatClampNeg 0)))] H := hP
        have hD : va_D (va_A (w_M_begin cI cZ cP q f p0) sz) [(q, .inl (cI, 221, .inl (upd j2_a0 j2_l2.toNatClampNeg 0)))] := hD
        generalize hf_f11 : (upd j2_a0 j2_l2.toNatClampNeg 0) = f11 at hP hD
        have pa_f11 : okN f11 := hf_f11 ▸ (okN_z g2_j2_a0 (rg_of (by decide) : rg (0 : Int32) 0 0))
        have hP : va_P D vwCl [(q, .inl (cI, 221, .inl f11))] H := hP
        have hD : va_D (va_A (w_M_begin cI cZ cP q f p0) sz) [(q, .inl (cI, 221, .inl f11))] := hD
        obtain ⟨v12, e_v12⟩ : ∃ y : Int32, y = j2_l2 + 1 := ⟨_, rfl⟩
        obtain ⟨r_v12, q_v12⟩ := rg_add (l := 1) (h := 101) e_v12 r5fa (rg_of (by decide) : rg (1 : Int32) 1 1) (by decide)
        have i_v12 := in_up q_v12 (rg_of (by decide) : rg (1 : Int32) 1 1) (by decide)
        refine lv_iinc (v := v12) (lv' := [(2, .int v12), (0, .ref q), (1, .int p0)]) hx hb dX7_begin_12 hl (k := 2) rfl (by rw [e_v12]; rfl) (by decide) rfl (fun ls hl => ?_)
        refine lv_goto (tgt := 2) hx hb dX7_begin_15 (by decide) ?_
        exact ih_2 v12 f11 (rg_w r_v12 (by decide)) pa_f11 (ms_up hm_2 i_v12) _ _ _ hP hD hS (lv_sub hl [1, 2, 0] rfl)
  refine lv_iconst (v := 0) hx hb dX7_begin_0 (by decide) ?_
  refine lv_istore_n (lv' := [(2, .int 0), (0, .ref q), (1, .int p0)]) hx hb dX7_begin_1 rfl hl (by decide) rfl (fun ls hl => ?_)
  exact lp_2 102 0 f (rg_w (rg_of (by decide) : rg (0 : Int32) 0 0) (by decide)) h_f (ms_in (rg_of (by decide) : rg (0 : Int32) 0 0) (by decide)) _ _ _ hP hD hS (lv_sub hl [1, 2, 0] rfl)
abbrev w_M_layHand (cI cZ cP : ClassId) (q : Nat) (f : Nat → Int32) (p0 : Int32) (p1 : Int32) (p2 : Int32) (p3 : Int32) : va_W := [(q, .inl (cI, 221, .inl f))]
set_option maxHeartbeats 4000000 in
set_option maxRecDepth 100000 in
theorem c_M_layHand (l : Launch) (D : va_G) (cI cZ cP : ClassId) (sa : Nat → Nat) (q : Nat) (f : Nat → Int32) (p0 : Int32) (p1 : Int32) (p2 : Int32) (p3 : Int32) (h_p0 : rg p0 0 3) (h_f : okN f) (sz : Nat) : Met l yX7_layHand (qW yX7_layHand cX7_layHand 5 none) ({ frames := 0, cells := 0, slots := 0, locals := 0 } : Room) (qP D (TY cI cZ cP) sa [.ref q, .int p0, .int p1, .int p2, .int p3] (w_M_layHand cI cZ cP q f p0 p1 p2 p3) sz) (qQv D (w_M_layHand cI cZ cP q f p0 p1 p2 p3) sz (fun u : (Nat → Int32) => okN u) (fun u : (Nat → Int32) => [(q, .inl (cI, 221, .inl u))])) 0 0 (va_A (w_M_layHand cI cZ cP q f p0 p1 p2 p3) sz) := by
  refine q_enter (by decide) (Nat.le_of_ble_eq_true rfl) ?_
  intro p e s m below meth c ls hX hr hlk hnm hE hK hP hD hS hA hl
  obtain ⟨hx, hb, hml, hown, ht⟩ := id hX
  have hl : lv_has ls 5 [(0, .ref q), (1, .int p0), (2, .int p1), (3, .int p2), (4, .int p3)] := hl
  refine lv_aload_n hx hb dX7_layHand_0 rfl (lv_at hl 0 rfl) ?_
  refine lv_iconst (v := 4) hx hb dX7_layHand_1 (by decide) ?_
  refine lv_iconst (v := 3) hx hb dX7_layHand_2 (by decide) ?_
  refine lv_iload_n hx hb dX7_layHand_3 rfl (lv_at hl 1 rfl) ?_
  refine lv_imul hx hb dX7_layHand_4 ?_
  refine lv_topi (fun v4 e_v4 => ?_)
  obtain ⟨r_v4, q_v4⟩ := rg_mul (l := 0) (h := 9) e_v4 (rg_of (by decide) : rg (3 : Int32) 3 3) h_p0 (by decide)
  refine lv_iadd hx hb dX7_layHand_5 ?_
  refine lv_topi (fun v5 e_v5 => ?_)
  obtain ⟨r_v5, q_v5⟩ := rg_add (l := 4) (h := 13) e_v5 (rg_of (by decide) : rg (4 : Int32) 4 4) r_v4 (by decide)
  refine lv_iconst (v := 0) hx hb dX7_layHand_6 (by decide) ?_
  refine lv_iadd hx hb dX7_layHand_7 ?_
  refine lv_topi (fun v7 e_v7 => ?_)
  obtain ⟨r_v7, q_v7⟩ := rg_add (l := 4) (h := 13) e_v7 r_v5 (rg_of (by decide) : rg (0 : Int32) 0 0) (by decide)
  refine lv_iload_n hx hb dX7_layHand_8 rfl (lv_at hl 2 rfl) ?_
  refine va_iast hx hb hK hP hD hS 0 0 rfl rfl (rg_in r_v7 (by decide)) dX7_layHand_9 (fun H locs hP hD hS => ?_)
  have hP : va_P D vwCl [(q, .inl (cI, 221, .inl (upd f v7.toNatClampNeg p1)))] H := hP
  have hD : va_D (va_A (w_M_layHand cI cZ cP q f p0 p1 p2 p3) sz) [(q, .inl (cI, 221, .inl (upd f v7.toNatClampNeg p1)))] := hD
  generalize hf_f9 : (upd f v7.toNatClampNeg p1) = f9 at hP hD
  have pa_f9 : okN f9 := hf_f9 ▸ (okN_lo h_f r_v7 (by decide))
  have hP : va_P D vwCl [(q, .inl (cI, 221, .inl f9))] H := hP
  have hD : va_D (va_A (w_M_layHand cI cZ cP q f p0 p1 p2 p3) sz) [(q, .inl (cI, 221, .inl f9))] := hD
  refine lv_aload_n hx hb dX7_layHand_10 rfl (lv_at hl 0 rfl) ?_
  refine lv_iconst (v := 4) hx hb dX7_layHand_11 (by decide) ?_
  refine lv_iconst (v := 3) hx hb dX7_layHand_12 (by decide) ?_
  refine lv_iload_n hx hb dX7_layHand_13 rfl (lv_at hl 1 rfl) ?_
  refine lv_imul hx hb dX7_layHand_14 ?_
  refine lv_topi (fun v14 e_v14 => ?_)
  obtain ⟨r_v14, q_v14⟩ := rg_mul (l := 0) (h := 9) e_v14 (rg_of (by decide) : rg (3 : Int32) 3 3) h_p0 (by decide)
  refine lv_iadd hx hb dX7_layHand_15 ?_
  refine lv_topi (fun v15 e_v15 => ?_)
  obtain ⟨r_v15, q_v15⟩ := rg_add (l := 4) (h := 13) e_v15 (rg_of (by decide) : rg (4 : Int32) 4 4) r_v14 (by decide)
  refine lv_iconst (v := 1) hx hb dX7_layHand_16 (by decide) ?_
  refine lv_iadd hx hb dX7_layHand_17 ?_
  refine lv_topi (fun v17 e_v17 => ?_)
  obtain ⟨r_v17, q_v17⟩ := rg_add (l := 5) (h := 14) e_v17 r_v15 (rg_of (by decide) : rg (1 : Int32) 1 1) (by decide)
  have i_v17 := in_up q_v17 (rg_of (by decide) : rg (1 : Int32) 1 1) (by decide)
  refine lv_iload_n hx hb dX7_layHand_18 rfl (lv_at hl 3 rfl) ?_
  refine va_iast hx hb hK hP hD hS 0 0 rfl rfl (rg_in r_v17 (by decide)) dX7_layHand_19 (fun H locs hP hD hS => ?_)
  have hP : va_P D vwCl [(q, .inl (cI, 221, .inl (upd f9 v17.toNatClampNeg p2)))] H := hP
  have hD : va_D (va_A (w_M_layHand cI cZ cP q f p0 p1 p2 p3) sz) [(q, .inl (cI, 221, .inl (upd f9 v17.toNatClampNeg p2)))] := hD
  generalize hf_f19 : (upd f9 v17.toNatClampNeg p2) = f19 at hP hD
  have pa_f19 : okN f19 := hf_f19 ▸ (okN_lo pa_f9 r_v17 (by decide))
  have hP : va_P D vwCl [(q, .inl (cI, 221, .inl f19))] H := hP
  have hD : va_D (va_A (w_M_layHand cI cZ cP q f p0 p1 p2 p3) sz) [(q, .inl (cI, 221, .inl f19))] := hD
  refine lv_aload_n hx hb dX7_layHand_20 rfl (lv_at hl 0 rfl) ?_
  refine lv_iconst (v := 4) hx hb dX7_layHand_21 (by decide) ?_
  refine lv_iconst (v := 3) hx hb dX7_layHand_22 (by decide) ?_
  refine lv_iload_n hx hb dX7_layHand_23 rfl (lv_at hl 1 rfl) ?_
  refine lv_imul hx hb dX7_layHand_24 ?_
  refine lv_topi (fun v24 e_v24 => ?_)
  obtain ⟨r_v24, q_v24⟩ := rg_mul (l := 0) (h := 9) e_v24 (rg_of (by decide) : rg (3 : Int32) 3 3) h_p0 (by decide)
  refine lv_iadd hx hb dX7_layHand_25 ?_
  refine lv_topi (fun v25 e_v25 => ?_)
  obtain ⟨r_v25, q_v25⟩ := rg_add (l := 4) (h := 13) e_v25 (rg_of (by decide) : rg (4 : Int32) 4 4) r_v24 (by decide)
  refine lv_iconst (v := 2) hx hb dX7_layHand_26 (by decide) ?_
  refine lv_iadd hx hb dX7_layHand_27 ?_
  refine lv_topi (fun v27 e_v27 => ?_)
  obtain ⟨r_v27, q_v27⟩ := rg_add (l := 6) (h := 15) e_v27 r_v25 (rg_of (by decide) : rg (2 : Int32) 2 2) (by decide)
  have i_v27 := in_up q_v27 (rg_of (by decide) : rg (2 : Int32) 2 2) (by decide)
  refine lv_iload hx hb dX7_layHand_28 (lv_at hl 4 rfl) ?_
  refine va_iast hx hb hK hP hD hS 0 0 rfl rfl (rg_in r_v27 (by decide)) dX7_layHand_30 (fun H locs hP hD hS => ?_)
  have hP : va_P D vwCl [(q, .inl (cI, 221, .inl (upd f19 v27.toNatClampNeg p3)))] H := hP
  have hD : va_D (va_A (w_M_layHand cI cZ cP q f p0 p1 p2 p3) sz) [(q, .inl (cI, 221, .inl (upd f19 v27.toNatClampNeg p3)))] := hD
  generalize hf_f30 : (upd f19 v27.toNatClampNeg p3) = f30 at hP hD
  have pa_f30 : okN f30 := hf_f30 ▸ (okN_lo pa_f19 r_v27 (by decide))
  have hP : va_P D vwCl [(q, .inl (cI, 221, .inl f30))] H := hP
  have hD : va_D (va_A (w_M_layHand cI cZ cP q f p0 p1 p2 p3) sz) [(q, .inl (cI, 221, .inl f30))] := hD
  exact q_vret hX hr hlk f30 pa_f30 hP hD hS dX7_layHand_31
abbrev w_M_beginn (cI cZ cP : ClassId) (q : Nat) (f : Nat → Int32) (p0 : Int32) : va_W := [(q, .inl (cI, 101, .inl f))]
set_option maxHeartbeats 4000000 in
set_option maxRecDepth 100000 in
theorem c_M_beginn (l : Launch) (D : va_G) (cI cZ cP : ClassId) (sa : Nat → Nat) (q : Nat) (f : Nat → Int32) (p0 : Int32) (h_f : okN f) (sz : Nat) : Met l yX7_begin (qW yX7_begin cX7_begin 3 none) ({ frames := 0, cells := 0, slots := 0, locals := 0 } : Room) (qP D (TY cI cZ cP) sa [.ref q, .int p0] (w_M_beginn cI cZ cP q f p0) sz) (qQv D (w_M_beginn cI cZ cP q f p0) sz (fun u : (Nat → Int32) => okN u) (fun u : (Nat → Int32) => [(q, .inl (cI, 101, .inl u))])) 0 0 (va_A (w_M_beginn cI cZ cP q f p0) sz) := by
  refine q_enter (by decide) (Nat.le_of_ble_eq_true rfl) ?_
  intro p e s m below meth c ls hX hr hlk hnm hE hK hP hD hS hA hl
  obtain ⟨hx, hb, hml, hown, ht⟩ := id hX
  have hl : lv_has ls 3 [(0, .ref q), (1, .int p0)] := hl
  have lp_24 : ∀ (n_24 : Nat) (j24_l2 : Int32) (j24_a0 : Nat → Int32), rg j24_l2 0 4 → okN j24_a0 → (5 ≤ j24_l2.toInt + n_24) → ∀ (H : Heap) (locs : List Loc) (ls : Array Slot), va_P D vwCl [(q, .inl (cI, 101, .inl j24_a0))] H → va_D (va_A (w_M_beginn cI cZ cP q f p0) sz) [(q, .inl (cI, 101, .inl j24_a0))] → va_S (va_A (w_M_beginn cI cZ cP q f p0) sz) s.heap H locs → lv_has ls 3 [(0, .ref q), (1, .int p0), (2, .int j24_l2)] → W p l e ({ frames := 0, cells := 0, slots := 0, locals := 0 } : Room) s m ([.ref q, .int p0] : List Value).toArray below meth c H locs 0 0 (MQ below (qQv D (w_M_beginn cI cZ cP q f p0) sz (fun u : (Nat → Int32) => okN u) (fun u : (Nat → Int32) => [(q, .inl (cI, 101, .inl u))])) ([.ref q, .int p0] : List Value).toArray s 0 0 (va_A (w_M_beginn cI cZ cP q f p0) sz)) (F0 m 24 ls []) := by
    intro n_24
    induction n_24 with
    | zero => intro j24_l2 j24_a0 g24_j24_l2 g24_j24_a0 hm_24; exact (ms_0 hm_24 g24_j24_l2 (by decide)).elim
    | succ n_24 ih_24 =>
      intro j24_l2 j24_a0 g24_j24_l2 g24_j24_a0 hm_24 H locs ls hP hD hS hl
      refine lv_iload_n hx hb dX7_begin_24 rfl (lv_at hl 2 rfl) ?_
      refine lv_iconst (v := 4) hx hb dX7_begin_25 (by decide) ?_
      refine lv_icmp_ge (tgt := 66) hx hb dX7_begin_26 (by decide) (fun c26 => ?_) (fun c26 => ?_)
      · have r26tb : rg j24_l2 4 4 := rg_leR c26 (rg_of (by decide) : rg (4 : Int32) 4 4) g24_j24_l2 (by decide)
        exact q_vret hX hr hlk j24_a0 g24_j24_a0 hP hD hS dX7_begin_66
      · have r26fa : rg j24_l2 0 3 := rg_ltL (Int32.not_le.mp c26) g24_j24_l2 (rg_of (by decide) : rg (4 : Int32) 4 4) (by decide)
        refine lv_aload_n hx hb dX7_begin_29 rfl (lv_at hl 0 rfl) ?_
        refine lv_iconst (v := 4) hx hb dX7_begin_30 (by decide) ?_
        refine lv_iconst (v := 3) hx hb dX7_begin_31 (by decide) ?_
        refine lv_iload_n hx hb dX7_begin_32 rfl (lv_at hl 2 rfl) ?_
        refine lv_imul hx hb dX7_begin_33 ?_
        refine lv_topi (fun v33 e_v33 => ?_)
        obtain ⟨r_v33, q_v33⟩ := rg_mul (l := 0) (h := 9) e_v33 (rg_of (by decide) : rg (3 : Int32) 3 3) r26fa (by decide)
        refine lv_iadd hx hb dX7_begin_34 ?_
        refine lv_topi (fun v34 e_v34 => ?_)
        obtain ⟨r_v34, q_v34⟩ := rg_add (l := 4) (h := 13) e_v34 (rg_of (by decide) : rg (4 : Int32) 4 4) r_v33 (by decide)
        refine lv_iconst (v := 0) hx hb dX7_begin_35 (by decide) ?_
        refine lv_iadd hx hb dX7_begin_36 ?_
        refine lv_topi (fun v36 e_v36 => ?_)
        obtain ⟨r_v36, q_v36⟩ := rg_add (l := 4) (h := 13) e_v36 r_v34 (rg_of (by decide) : rg (0 : Int32) 0 0) (by decide)
        refine lv_iconst (v := 0) hx hb dX7_begin_37 (by decide) ?_
        refine va_iast hx hb hK hP hD hS 0 0 rfl rfl (rg_in r_v36 (by decide)) dX7_begin_38 (fun H locs hP hD hS => ?_)
        have hP : va_P D vwCl [(q, .inl (cI, 101, .inl (upd j24_a0 v36.toNatClampNeg 0)))] H := hP
        have hD : va_D (va_A (w_M_beginn cI cZ cP q f p0) sz) [(q, .inl (cI, 101, .inl (upd j24_a0 v36.toNatClampNeg 0)))] := hD
        generalize hf_f38 : (upd j24_a0 v36.toNatClampNeg 0) = f38 at hP hD
        have pa_f38 : okN f38 := hf_f38 ▸ (okN_z g24_j24_a0 (rg_of (by decide) : rg (0 : Int32) 0 0))
        have hP : va_P D vwCl [(q, .inl (cI, 101, .inl f38))] H := hP
        have hD : va_D (va_A (w_M_beginn cI cZ cP q f p0) sz) [(q, .inl (cI, 101, .inl f38))] := hD
        refine lv_aload_n hx hb dX7_begin_39 rfl (lv_at hl 0 rfl) ?_
        refine lv_iconst (v := 4) hx hb dX7_begin_40 (by decide) ?_
        refine lv_iconst (v := 3) hx hb dX7_begin_41 (by decide) ?_
        refine lv_iload_n hx hb dX7_begin_42 rfl (lv_at hl 2 rfl) ?_
        refine lv_imul hx hb dX7_begin_43 ?_
        refine lv_topi (fun v43 e_v43 => ?_)
        obtain ⟨r_v43, q_v43⟩ := rg_mul (l := 0) (h := 9) e_v43 (rg_of (by decide) : rg (3 : Int32) 3 3) r26fa (by decide)
        refine lv_iadd hx hb dX7_begin_44 ?_
        refine lv_topi (fun v44 e_v44 => ?_)
        obtain ⟨r_v44, q_v44⟩ := rg_add (l := 4) (h := 13) e_v44 (rg_of (by decide) : rg (4 : Int32) 4 4) r_v43 (by decide)
        refine lv_iconst (v := 1) hx hb dX7_begin_45 (by decide) ?_
        refine lv_iadd hx hb dX7_begin_46 ?_
        refine lv_topi (fun v46 e_v46 => ?_)
        obtain ⟨r_v46, q_v46⟩ := rg_add (l := 5) (h := 14) e_v46 r_v44 (rg_of (by decide) : rg (1 : Int32) 1 1) (by decide)
        have i_v46 := in_up q_v46 (rg_of (by decide) : rg (1 : Int32) 1 1) (by decide)
        refine lv_bipush (v := 9) hx hb dX7_begin_47 (by decide) ?_
        refine va_iast hx hb hK hP hD hS 0 0 rfl rfl (rg_in r_v46 (by decide)) dX7_begin_49 (fun H locs hP hD hS => ?_)
        have hP : va_P D vwCl [(q, .inl (cI, 101, .inl (upd f38 v46.toNatClampNeg 9)))] H := hP
        have hD : va_D (va_A (w_M_beginn cI cZ cP q f p0) sz) [(q, .inl (cI, 101, .inl (upd f38 v46.toNatClampNeg 9)))] := hD
        generalize hf_f49 : (upd f38 v46.toNatClampNeg 9) = f49 at hP hD
        have pa_f49 : okN f49 := hf_f49 ▸ (okN_lo pa_f38 r_v46 (by decide))
        have hP : va_P D vwCl [(q, .inl (cI, 101, .inl f49))] H := hP
        have hD : va_D (va_A (w_M_beginn cI cZ cP q f p0) sz) [(q, .inl (cI, 101, .inl f49))] := hD
        refine lv_aload_n hx hb dX7_begin_50 rfl (lv_at hl 0 rfl) ?_
        refine lv_iconst (v := 4) hx hb dX7_begin_51 (by decide) ?_
        refine lv_iconst (v := 3) hx hb dX7_begin_52 (by decide) ?_
        refine lv_iload_n hx hb dX7_begin_53 rfl (lv_at hl 2 rfl) ?_
        refine lv_imul hx hb dX7_begin_54 ?_
        refine lv_topi (fun v54 e_v54 => ?_)
        obtain ⟨r_v54, q_v54⟩ := rg_mul (l := 0) (h := 9) e_v54 (rg_of (by decide) : rg (3 : Int32) 3 3) r26fa (by decide)
        refine lv_iadd hx hb dX7_begin_55 ?_
        refine lv_topi (fun v55 e_v55 => ?_)
        obtain ⟨r_v55, q_v55⟩ := rg_add (l := 4) (h := 13) e_v55 (rg_of (by decide) : rg (4 : Int32) 4 4) r_v54 (by decide)
        refine lv_iconst (v := 2) hx hb dX7_begin_56 (by decide) ?_
        refine lv_iadd hx hb dX7_begin_57 ?_
        refine lv_topi (fun v57 e_v57 => ?_)
        obtain ⟨r_v57, q_v57⟩ := rg_add (l := 6) (h := 15) e_v57 r_v55 (rg_of (by decide) : rg (2 : Int32) 2 2) (by decide)
        have i_v57 := in_up q_v57 (rg_of (by decide) : rg (2 : Int32) 2 2) (by decide)
        refine lv_iconst (v := 4) hx hb dX7_begin_58 (by decide) ?_
        refine va_iast hx hb hK hP hD hS 0 0 rfl rfl (rg_in r_v57 (by decide)) dX7_begin_59 (fun H locs hP hD hS => ?_)
        have hP : va_P D vwCl [(q, .inl (cI, 101, .inl (upd f49 v57.toNatClampNeg 4)))] H := hP
        have hD : va_D (va_A (w_M_beginn cI cZ cP q f p0) sz) [(q, .inl (cI, 101, .inl (upd f49 v57.toNatClampNeg 4)))] := hD
        generalize hf_f59 : (upd f49 v57.toNatClampNeg 4) = f59 at hP hD
        have pa_f59 : okN f59 := hf_f59 ▸ (okN_lo pa_f49 r_v57 (by decide))
        have hP : va_P D vwCl [(q, .inl (cI, 101, .inl f59))] H := hP
        have hD : va_D (va_A (w_M_beginn cI cZ cP q f p0) sz) [(q, .inl (cI, 101, .inl f59))] := hD
        obtain ⟨v60, e_v60⟩ : ∃ y : Int32, y = j24_l2 + 1 := ⟨_, rfl⟩
        obtain ⟨r_v60, q_v60⟩ := rg_add (l := 1) (h := 4) e_v60 r26fa (rg_of (by decide) : rg (1 : Int32) 1 1) (by decide)
        have i_v60 := in_up q_v60 (rg_of (by decide) : rg (1 : Int32) 1 1) (by decide)
        refine lv_iinc (v := v60) (lv' := [(2, .int v60), (0, .ref q), (1, .int p0)]) hx hb dX7_begin_60 hl (k := 2) rfl (by rw [e_v60]; rfl) (by decide) rfl (fun ls hl => ?_)
        refine lv_goto (tgt := 24) hx hb dX7_begin_63 (by decide) ?_
        exact ih_24 v60 f59 (rg_w r_v60 (by decide)) pa_f59 (ms_up hm_24 i_v60) _ _ _ hP hD hS (lv_sub hl [1, 2, 0] rfl)
  have lp_2 : ∀ (n_2 : Nat) (j2_l2 : Int32) (j2_a0 : Nat → Int32), rg j2_l2 0 101 → okN j2_a0 → (102 ≤ j2_l2.toInt + n_2) → ∀ (H : Heap) (locs : List Loc) (ls : Array Slot), va_P D vwCl [(q, .inl (cI, 101, .inl j2_a0))] H → va_D (va_A (w_M_beginn cI cZ cP q f p0) sz) [(q, .inl (cI, 101, .inl j2_a0))] → va_S (va_A (w_M_beginn cI cZ cP q f p0) sz) s.heap H locs → lv_has ls 3 [(0, .ref q), (1, .int p0), (2, .int j2_l2)] → W p l e ({ frames := 0, cells := 0, slots := 0, locals := 0 } : Room) s m ([.ref q, .int p0] : List Value).toArray below meth c H locs 0 0 (MQ below (qQv D (w_M_beginn cI cZ cP q f p0) sz (fun u : (Nat → Int32) => okN u) (fun u : (Nat → Int32) => [(q, .inl (cI, 101, .inl u))])) ([.ref q, .int p0] : List Value).toArray s 0 0 (va_A (w_M_beginn cI cZ cP q f p0) sz)) (F0 m 2 ls []) := by
    intro n_2
    induction n_2 with
    | zero => intro j2_l2 j2_a0 g2_j2_l2 g2_j2_a0 hm_2; exact (ms_0 hm_2 g2_j2_l2 (by decide)).elim
    | succ n_2 ih_2 =>
      intro j2_l2 j2_a0 g2_j2_l2 g2_j2_a0 hm_2 H locs ls hP hD hS hl
      refine lv_iload_n hx hb dX7_begin_2 rfl (lv_at hl 2 rfl) ?_
      refine lv_bipush (v := 101) hx hb dX7_begin_3 (by decide) ?_
      refine lv_icmp_ge (tgt := 18) hx hb dX7_begin_5 (by decide) (fun c5 => ?_) (fun c5 => ?_)
      · have r5tb : rg j2_l2 101 101 := rg_leR c5 (rg_of (by decide) : rg (101 : Int32) 101 101) g2_j2_l2 (by decide)
        refine lv_aload_n hx hb dX7_begin_18 rfl (lv_at hl 0 rfl) ?_
        refine lv_iconst (v := 1) hx hb dX7_begin_19 (by decide) ?_
        refine lv_iload_n hx hb dX7_begin_20 rfl (lv_at hl 1 rfl) ?_
        refine va_iast hx hb hK hP hD hS 0 0 rfl rfl (rg_in (rg_of (by decide) : rg (1 : Int32) 1 1) (by decide)) dX7_begin_21 (fun H locs hP hD hS => ?_)
        have hP : va_P D vwCl [(q, .inl (cI, 101, .inl (upd j2_a0 (1 : Int32).toNatClampNeg p0)))] H := hP
        have hD : va_D (va_A (w_M_beginn cI cZ cP q f p0) sz) [(q, .inl (cI, 101, .inl (upd j2_a0 (1 : Int32).toNatClampNeg p0)))] := hD
        generalize hf_f21 : (upd j2_a0 (1 : Int32).toNatClampNeg p0) = f21 at hP hD
        have pa_f21 : okN f21 := hf_f21 ▸ (okN_lo g2_j2_a0 (rg_of (by decide) : rg (1 : Int32) 1 1) (by decide))
        have hP : va_P D vwCl [(q, .inl (cI, 101, .inl f21))] H := hP
        have hD : va_D (va_A (w_M_beginn cI cZ cP q f p0) sz) [(q, .inl (cI, 101, .inl f21))] := hD
        refine lv_iconst (v := 0) hx hb dX7_begin_22 (by decide) ?_
        refine lv_istore_n (lv' := [(2, .int 0), (0, .ref q), (1, .int p0)]) hx hb dX7_begin_23 rfl hl (by decide) rfl (fun ls hl => ?_)
        exact lp_24 5 0 f21 (rg_w (rg_of (by decide) : rg (0 : Int32) 0 0) (by decide)) pa_f21 (ms_in (rg_of (by decide) : rg (0 : Int32) 0 0) (by decide)) _ _ _ hP hD hS (lv_sub hl [1, 2, 0] rfl)
      · have r5fa : rg j2_l2 0 100 := rg_ltL (Int32.not_le.mp c5) g2_j2_l2 (rg_of (by decide) : rg (101 : Int32) 101 101) (by decide)
        refine lv_aload_n hx hb dX7_begin_8 rfl (lv_at hl 0 rfl) ?_
        refine lv_iload_n hx hb dX7_begin_9 rfl (lv_at hl 2 rfl) ?_
        refine lv_iconst (v := 0) hx hb dX7_begin_10 (by decide) ?_
        refine va_iast hx hb hK hP hD hS 0 0 rfl rfl (rg_in r5fa (by decide)) dX7_begin_11 (fun H locs hP hD hS => ?_)
        have hP : va_P D vwCl [(q, .inl (cI, 101, .inl (upd j2_a0 j2_l2.toNatClampNeg 0)))] H := hP
        have hD : va_D (va_A (w_M_beginn cI cZ cP q f p0) sz) [(q, .inl (cI, 101, .inl (upd j2_a0 j2_l2.toNatClampNeg 0)))] := hD
        generalize hf_f11 : (upd j2_a0 j2_l2.toNatClampNeg 0) = f11 at hP hD
        have pa_f11 : okN f11 := hf_f11 ▸ (okN_z g2_j2_a0 (rg_of (by decide) : rg (0 : Int32) 0 0))
        have hP : va_P D vwCl [(q, .inl (cI, 101, .inl f11))] H := hP
        have hD : va_D (va_A (w_M_beginn cI cZ cP q f p0) sz) [(q, .inl (cI, 101, .inl f11))] := hD
        obtain ⟨v12, e_v12⟩ : ∃ y : Int32, y = j2_l2 + 1 := ⟨_, rfl⟩
        obtain ⟨r_v12, q_v12⟩ := rg_add (l := 1) (h := 101) e_v12 r5fa (rg_of (by decide) : rg (1 : Int32) 1 1) (by decide)
        have i_v12 := in_up q_v12 (rg_of (by decide) : rg (1 : Int32) 1 1) (by decide)
        refine lv_iinc (v := v12) (lv' := [(2, .int v12), (0, .ref q), (1, .int p0)]) hx hb dX7_begin_12 hl (k := 2) rfl (by rw [e_v12]; rfl) (by decide) rfl (fun ls hl => ?_)
        refine lv_goto (tgt := 2) hx hb dX7_begin_15 (by decide) ?_
        exact ih_2 v12 f11 (rg_w r_v12 (by decide)) pa_f11 (ms_up hm_2 i_v12) _ _ _ hP hD hS (lv_sub hl [1, 2, 0] rfl)
  refine lv_iconst (v := 0) hx hb dX7_begin_0 (by decide) ?_
  refine lv_istore_n (lv' := [(2, .int 0), (0, .ref q), (1, .int p0)]) hx hb dX7_begin_1 rfl hl (by decide) rfl (fun ls hl => ?_)
  exact lp_2 102 0 f (rg_w (rg_of (by decide) : rg (0 : Int32) 0 0) (by decide)) h_f (ms_in (rg_of (by decide) : rg (0 : Int32) 0 0) (by decide)) _ _ _ hP hD hS (lv_sub hl [1, 2, 0] rfl)
abbrev w_M_layHandn (cI cZ cP : ClassId) (q : Nat) (f : Nat → Int32) (p0 : Int32) (p1 : Int32) (p2 : Int32) (p3 : Int32) : va_W := [(q, .inl (cI, 101, .inl f))]
set_option maxHeartbeats 4000000 in
set_option maxRecDepth 100000 in
theorem c_M_layHandn (l : Launch) (D : va_G) (cI cZ cP : ClassId) (sa : Nat → Nat) (q : Nat) (f : Nat → Int32) (p0 : Int32) (p1 : Int32) (p2 : Int32) (p3 : Int32) (h_p0 : rg p0 0 3) (h_f : okN f) (sz : Nat) : Met l yX7_layHand (qW yX7_layHand cX7_layHand 5 none) ({ frames := 0, cells := 0, slots := 0, locals := 0 } : Room) (qP D (TY cI cZ cP) sa [.ref q, .int p0, .int p1, .int p2, .int p3] (w_M_layHandn cI cZ cP q f p0 p1 p2 p3) sz) (qQv D (w_M_layHandn cI cZ cP q f p0 p1 p2 p3) sz (fun u : (Nat → Int32) => okN u) (fun u : (Nat → Int32) => [(q, .inl (cI, 101, .inl u))])) 0 0 (va_A (w_M_layHandn cI cZ cP q f p0 p1 p2 p3) sz) := by
  refine q_enter (by decide) (Nat.le_of_ble_eq_true rfl) ?_
  intro p e s m below meth c ls hX hr hlk hnm hE hK hP hD hS hA hl
  obtain ⟨hx, hb, hml, hown, ht⟩ := id hX
  have hl : lv_has ls 5 [(0, .ref q), (1, .int p0), (2, .int p1), (3, .int p2), (4, .int p3)] := hl
  refine lv_aload_n hx hb dX7_layHand_0 rfl (lv_at hl 0 rfl) ?_
  refine lv_iconst (v := 4) hx hb dX7_layHand_1 (by decide) ?_
  refine lv_iconst (v := 3) hx hb dX7_layHand_2 (by decide) ?_
  refine lv_iload_n hx hb dX7_layHand_3 rfl (lv_at hl 1 rfl) ?_
  refine lv_imul hx hb dX7_layHand_4 ?_
  refine lv_topi (fun v4 e_v4 => ?_)
  obtain ⟨r_v4, q_v4⟩ := rg_mul (l := 0) (h := 9) e_v4 (rg_of (by decide) : rg (3 : Int32) 3 3) h_p0 (by decide)
  refine lv_iadd hx hb dX7_layHand_5 ?_
  refine lv_topi (fun v5 e_v5 => ?_)
  obtain ⟨r_v5, q_v5⟩ := rg_add (l := 4) (h := 13) e_v5 (rg_of (by decide) : rg (4 : Int32) 4 4) r_v4 (by decide)
  refine lv_iconst (v := 0) hx hb dX7_layHand_6 (by decide) ?_
  refine lv_iadd hx hb dX7_layHand_7 ?_
  refine lv_topi (fun v7 e_v7 => ?_)
  obtain ⟨r_v7, q_v7⟩ := rg_add (l := 4) (h := 13) e_v7 r_v5 (rg_of (by decide) : rg (0 : Int32) 0 0) (by decide)
  refine lv_iload_n hx hb dX7_layHand_8 rfl (lv_at hl 2 rfl) ?_
  refine va_iast hx hb hK hP hD hS 0 0 rfl rfl (rg_in r_v7 (by decide)) dX7_layHand_9 (fun H locs hP hD hS => ?_)
  have hP : va_P D vwCl [(q, .inl (cI, 101, .inl (upd f v7.toNatClampNeg p1)))] H := hP
  have hD : va_D (va_A (w_M_layHandn cI cZ cP q f p0 p1 p2 p3) sz) [(q, .inl (cI, 101, .inl (upd f v7.toNatClampNeg p1)))] := hD
  generalize hf_f9 : (upd f v7.toNatClampNeg p1) = f9 at hP hD
  have pa_f9 : okN f9 := hf_f9 ▸ (okN_lo h_f r_v7 (by decide))
  have hP : va_P D vwCl [(q, .inl (cI, 101, .inl f9))] H := hP
  have hD : va_D (va_A (w_M_layHandn cI cZ cP q f p0 p1 p2 p3) sz) [(q, .inl (cI, 101, .inl f9))] := hD
  refine lv_aload_n hx hb dX7_layHand_10 rfl (lv_at hl 0 rfl) ?_
  refine lv_iconst (v := 4) hx hb dX7_layHand_11 (by decide) ?_
  refine lv_iconst (v := 3) hx hb dX7_layHand_12 (by decide) ?_
  refine lv_iload_n hx hb dX7_layHand_13 rfl (lv_at hl 1 rfl) ?_
  refine lv_imul hx hb dX7_layHand_14 ?_
  refine lv_topi (fun v14 e_v14 => ?_)
  obtain ⟨r_v14, q_v14⟩ := rg_mul (l := 0) (h := 9) e_v14 (rg_of (by decide) : rg (3 : Int32) 3 3) h_p0 (by decide)
  refine lv_iadd hx hb dX7_layHand_15 ?_
  refine lv_topi (fun v15 e_v15 => ?_)
  obtain ⟨r_v15, q_v15⟩ := rg_add (l := 4) (h := 13) e_v15 (rg_of (by decide) : rg (4 : Int32) 4 4) r_v14 (by decide)
  refine lv_iconst (v := 1) hx hb dX7_layHand_16 (by decide) ?_
  refine lv_iadd hx hb dX7_layHand_17 ?_
  refine lv_topi (fun v17 e_v17 => ?_)
  obtain ⟨r_v17, q_v17⟩ := rg_add (l := 5) (h := 14) e_v17 r_v15 (rg_of (by decide) : rg (1 : Int32) 1 1) (by decide)
  have i_v17 := in_up q_v17 (rg_of (by decide) : rg (1 : Int32) 1 1) (by decide)
  refine lv_iload_n hx hb dX7_layHand_18 rfl (lv_at hl 3 rfl) ?_
  refine va_iast hx hb hK hP hD hS 0 0 rfl rfl (rg_in r_v17 (by decide)) dX7_layHand_19 (fun H locs hP hD hS => ?_)
  have hP : va_P D vwCl [(q, .inl (cI, 101, .inl (upd f9 v17.toNatClampNeg p2)))] H := hP
  have hD : va_D (va_A (w_M_layHandn cI cZ cP q f p0 p1 p2 p3) sz) [(q, .inl (cI, 101, .inl (upd f9 v17.toNatClampNeg p2)))] := hD
  generalize hf_f19 : (upd f9 v17.toNatClampNeg p2) = f19 at hP hD
  have pa_f19 : okN f19 := hf_f19 ▸ (okN_lo pa_f9 r_v17 (by decide))
  have hP : va_P D vwCl [(q, .inl (cI, 101, .inl f19))] H := hP
  have hD : va_D (va_A (w_M_layHandn cI cZ cP q f p0 p1 p2 p3) sz) [(q, .inl (cI, 101, .inl f19))] := hD
  refine lv_aload_n hx hb dX7_layHand_20 rfl (lv_at hl 0 rfl) ?_
  refine lv_iconst (v := 4) hx hb dX7_layHand_21 (by decide) ?_
  refine lv_iconst (v := 3) hx hb dX7_layHand_22 (by decide) ?_
  refine lv_iload_n hx hb dX7_layHand_23 rfl (lv_at hl 1 rfl) ?_
  refine lv_imul hx hb dX7_layHand_24 ?_
  refine lv_topi (fun v24 e_v24 => ?_)
  obtain ⟨r_v24, q_v24⟩ := rg_mul (l := 0) (h := 9) e_v24 (rg_of (by decide) : rg (3 : Int32) 3 3) h_p0 (by decide)
  refine lv_iadd hx hb dX7_layHand_25 ?_
  refine lv_topi (fun v25 e_v25 => ?_)
  obtain ⟨r_v25, q_v25⟩ := rg_add (l := 4) (h := 13) e_v25 (rg_of (by decide) : rg (4 : Int32) 4 4) r_v24 (by decide)
  refine lv_iconst (v := 2) hx hb dX7_layHand_26 (by decide) ?_
  refine lv_iadd hx hb dX7_layHand_27 ?_
  refine lv_topi (fun v27 e_v27 => ?_)
  obtain ⟨r_v27, q_v27⟩ := rg_add (l := 6) (h := 15) e_v27 r_v25 (rg_of (by decide) : rg (2 : Int32) 2 2) (by decide)
  have i_v27 := in_up q_v27 (rg_of (by decide) : rg (2 : Int32) 2 2) (by decide)
  refine lv_iload hx hb dX7_layHand_28 (lv_at hl 4 rfl) ?_
  refine va_iast hx hb hK hP hD hS 0 0 rfl rfl (rg_in r_v27 (by decide)) dX7_layHand_30 (fun H locs hP hD hS => ?_)
  have hP : va_P D vwCl [(q, .inl (cI, 101, .inl (upd f19 v27.toNatClampNeg p3)))] H := hP
  have hD : va_D (va_A (w_M_layHandn cI cZ cP q f p0 p1 p2 p3) sz) [(q, .inl (cI, 101, .inl (upd f19 v27.toNatClampNeg p3)))] := hD
  generalize hf_f30 : (upd f19 v27.toNatClampNeg p3) = f30 at hP hD
  have pa_f30 : okN f30 := hf_f30 ▸ (okN_lo pa_f19 r_v27 (by decide))
  have hP : va_P D vwCl [(q, .inl (cI, 101, .inl f30))] H := hP
  have hD : va_D (va_A (w_M_layHandn cI cZ cP q f p0 p1 p2 p3) sz) [(q, .inl (cI, 101, .inl f30))] := hD
  exact q_vret hX hr hlk f30 pa_f30 hP hD hS dX7_layHand_31
abbrev w_M_piece (cI cZ cP : ClassId) (mo : Nat) (mo_now : Nat) (f_mo_now : Nat → Int32) (mo_kept : Nat) (mo_isKept : Nat) (mo_refused : Nat) (f_mo_refused : Nat → Int32) (mo_above : Int64) (mo_below : Int64) (mo_fewest : Int32) (mo_manyGiven : Int32) (mo_firstGiven : Int32) (mo_secondGiven : Int32) (mo_clashWith : Nat) (mo_row : Nat) (mo_rowLong : Int32) (mo_least : Nat) (mo_slips : Nat) (mo_left : Nat) (mo_bestRow : Nat) (mo_tryRow : Nat) (mo_leastSlips : Int32) (mo_moments : Nat) (mo_bytes : Nat) (mo_bytesLong : Int32) (mo_tokenAt : Int32) (mo_tokenLong : Int32) (mo_token : Int32) (mo_value : Int32) (mo_next : Nat) (mo_values : Nat) (p0 : Int32) : va_W := [(mo, .inr (7, [.ref mo_now, .ref mo_kept, .ref mo_isKept, .ref mo_refused, .long mo_above, .long mo_below, .int mo_fewest, .int mo_manyGiven, .int mo_firstGiven, .int mo_secondGiven, .ref mo_clashWith, .ref mo_row, .int mo_rowLong, .ref mo_least, .ref mo_slips, .ref mo_left, .ref mo_bestRow, .ref mo_tryRow, .int mo_leastSlips, .ref mo_moments, .ref mo_bytes, .int mo_bytesLong, .int mo_tokenAt, .int mo_tokenLong, .int mo_token, .int mo_value, .ref mo_next, .ref mo_values])), (mo_now, .inl (cI, 221, .inl f_mo_now)), (mo_refused, .inl (cI, 3, .inl f_mo_refused))]
set_option maxHeartbeats 4000000 in
set_option maxRecDepth 100000 in
theorem c_M_piece (l : Launch) (D : va_G) (cI cZ cP : ClassId) (sa : Nat → Nat) (mo : Nat) (mo_now : Nat) (f_mo_now : Nat → Int32) (mo_kept : Nat) (mo_isKept : Nat) (mo_refused : Nat) (f_mo_refused : Nat → Int32) (mo_above : Int64) (mo_below : Int64) (mo_fewest : Int32) (mo_manyGiven : Int32) (mo_firstGiven : Int32) (mo_secondGiven : Int32) (mo_clashWith : Nat) (mo_row : Nat) (mo_rowLong : Int32) (mo_least : Nat) (mo_slips : Nat) (mo_left : Nat) (mo_bestRow : Nat) (mo_tryRow : Nat) (mo_leastSlips : Int32) (mo_moments : Nat) (mo_bytes : Nat) (mo_bytesLong : Int32) (mo_tokenAt : Int32) (mo_tokenLong : Int32) (mo_token : Int32) (mo_value : Int32) (mo_next : Nat) (mo_values : Nat) (p0 : Int32) (h_mo_rowLong : rg mo_rowLong 0 12) (h_mo_bytesLong : rg mo_bytesLong 0 150) (h_mo_tokenAt : rg mo_tokenAt 0 150) (h_mo_tokenLong : rg mo_tokenLong 0 150) (h_f_mo_now : okN f_mo_now) (sz : Nat) : Met l yX7_piece (qW yX7_piece cX7_piece 3 (some .int)) ({ frames := 1, cells := 0, slots := 0, locals := 25 } : Room) (qP D (TY cI cZ cP) sa [.ref mo, .int p0] (w_M_piece cI cZ cP mo mo_now f_mo_now mo_kept mo_isKept mo_refused f_mo_refused mo_above mo_below mo_fewest mo_manyGiven mo_firstGiven mo_secondGiven mo_clashWith mo_row mo_rowLong mo_least mo_slips mo_left mo_bestRow mo_tryRow mo_leastSlips mo_moments mo_bytes mo_bytesLong mo_tokenAt mo_tokenLong mo_token mo_value mo_next mo_values p0) sz) (qQi D (w_M_piece cI cZ cP mo mo_now f_mo_now mo_kept mo_isKept mo_refused f_mo_refused mo_above mo_below mo_fewest mo_manyGiven mo_firstGiven mo_secondGiven mo_clashWith mo_row mo_rowLong mo_least mo_slips mo_left mo_bestRow mo_tryRow mo_leastSlips mo_moments mo_bytes mo_bytesLong mo_tokenAt mo_tokenLong mo_token mo_value mo_next mo_values p0) sz (fun (r : Int32) (u : (Nat → Int32) × (Nat → Int32)) => rg r (-2) 12 ∧ okN u.1) (fun u : (Nat → Int32) × (Nat → Int32) => [(mo, .inr (7, [.ref mo_now, .ref mo_kept, .ref mo_isKept, .ref mo_refused, .long mo_above, .long mo_below, .int mo_fewest, .int mo_manyGiven, .int mo_firstGiven, .int mo_secondGiven, .ref mo_clashWith, .ref mo_row, .int mo_rowLong, .ref mo_least, .ref mo_slips, .ref mo_left, .ref mo_bestRow, .ref mo_tryRow, .int mo_leastSlips, .ref mo_moments, .ref mo_bytes, .int mo_bytesLong, .int mo_tokenAt, .int mo_tokenLong, .int mo_token, .int mo_value, .ref mo_next, .ref mo_values])), (mo_now, .inl (cI, 221, .inl u.1)), (mo_refused, .inl (cI, 3, .inl u.2))])) 0 0 (va_A (w_M_piece cI cZ cP mo mo_now f_mo_now mo_kept mo_isKept mo_refused f_mo_refused mo_above mo_below mo_fewest mo_manyGiven mo_firstGiven mo_secondGiven mo_clashWith mo_row mo_rowLong mo_least mo_slips mo_left mo_bestRow mo_tryRow mo_leastSlips mo_moments mo_bytes mo_bytesLong mo_tokenAt mo_tokenLong mo_token mo_value mo_next mo_values p0) sz) := by
  refine q_enter (by decide) (Nat.le_of_ble_eq_true rfl) ?_
  intro p e s m below meth c ls hX hr hlk hnm hE hK hP hD hS hA hl
  obtain ⟨hx, hb, hml, hown, ht⟩ := id hX
  have hl : lv_has ls 3 [(0, .ref mo), (1, .int p0)] := hl
  refine lv_iload_n hx hb dX7_piece_0 rfl (lv_at hl 1 rfl) ?_
  refine lv_i2l (v := (p0.toInt64)) hx hb dX7_piece_1 rfl ?_
  refine lv_lconst (v := 0) hx hb dX7_piece_2 (by decide) ?_
  refine q_l (z := ((0 : Int32).toInt64)) (by decide) ?_
  refine lv_ldc2 hx hb hown (ht _ kw_994) dX7_piece_3 ?_
  refine q_l (z := ((9 : Int32).toInt64)) (by decide) ?_
  refine q_Si (wr := [(mo, .inr (7, [.ref mo_now, .ref mo_kept, .ref mo_isKept, .ref mo_refused, .long mo_above, .long mo_below, .int mo_fewest, .int mo_manyGiven, .int mo_firstGiven, .int mo_secondGiven, .ref mo_clashWith, .ref mo_row, .int mo_rowLong, .ref mo_least, .ref mo_slips, .ref mo_left, .ref mo_bestRow, .ref mo_tryRow, .int mo_leastSlips, .ref mo_moments, .ref mo_bytes, .int mo_bytesLong, .int mo_tokenAt, .int mo_tokenLong, .int mo_token, .int mo_value, .ref mo_next, .ref mo_values])), (mo_now, .inl (cI, 221, .inl f_mo_now)), (mo_refused, .inl (cI, 3, .inl f_mo_refused))]) [] [0, 1, 2] hX hE hK hP hD hS hA hl.1 lk_X7_68 (c_m_in l D cI cZ cP sa p0 0 9 _) rfl rfl rfl rfl (by decide) rfl rfl (Nat.le_of_ble_eq_true rfl) rfl rfl ⟨Nat.le_of_ble_eq_true rfl, Nat.le_of_ble_eq_true rfl⟩ ⟨Nat.le_of_ble_eq_true rfl, Nat.le_of_ble_eq_true rfl⟩ dX7_piece_6 (fun x6 _ H locs h6 hP hD hS => ?_)
  have hP : va_P D vwCl [(mo, .inr (7, [.ref mo_now, .ref mo_kept, .ref mo_isKept, .ref mo_refused, .long mo_above, .long mo_below, .int mo_fewest, .int mo_manyGiven, .int mo_firstGiven, .int mo_secondGiven, .ref mo_clashWith, .ref mo_row, .int mo_rowLong, .ref mo_least, .ref mo_slips, .ref mo_left, .ref mo_bestRow, .ref mo_tryRow, .int mo_leastSlips, .ref mo_moments, .ref mo_bytes, .int mo_bytesLong, .int mo_tokenAt, .int mo_tokenLong, .int mo_token, .int mo_value, .ref mo_next, .ref mo_values])), (mo_now, .inl (cI, 221, .inl f_mo_now)), (mo_refused, .inl (cI, 3, .inl f_mo_refused))] H := hP
  have hD : va_D (va_A (w_M_piece cI cZ cP mo mo_now f_mo_now mo_kept mo_isKept mo_refused f_mo_refused mo_above mo_below mo_fewest mo_manyGiven mo_firstGiven mo_secondGiven mo_clashWith mo_row mo_rowLong mo_least mo_slips mo_left mo_bestRow mo_tryRow mo_leastSlips mo_moments mo_bytes mo_bytesLong mo_tokenAt mo_tokenLong mo_token mo_value mo_next mo_values p0) sz) [(mo, .inr (7, [.ref mo_now, .ref mo_kept, .ref mo_isKept, .ref mo_refused, .long mo_above, .long mo_below, .int mo_fewest, .int mo_manyGiven, .int mo_firstGiven, .int mo_secondGiven, .ref mo_clashWith, .ref mo_row, .int mo_rowLong, .ref mo_least, .ref mo_slips, .ref mo_left, .ref mo_bestRow, .ref mo_tryRow, .int mo_leastSlips, .ref mo_moments, .ref mo_bytes, .int mo_bytesLong, .int mo_tokenAt, .int mo_tokenLong, .int mo_token, .int mo_value, .ref mo_next, .ref mo_values])), (mo_now, .inl (cI, 221, .inl f_mo_now)), (mo_refused, .inl (cI, 3, .inl f_mo_refused))] := hD
  rcases Classical.em (0 ≤ p0 ∧ p0 ≤ 9) with d6 | d6
  · rw [if_pos d6] at h6; subst h6
    have w6ab : rg p0 0 2147483647 := rg_leR d6.1 (rg_of (by decide) : rg (0 : Int32) 0 0) (rg_any p0) (by decide)
    have w6ba : rg p0 0 9 := rg_leL d6.2 w6ab (rg_of (by decide) : rg (9 : Int32) 9 9) (by decide)
    refine lv_if_ne (tgt := 19) hx hb dX7_piece_9 (by decide) (fun c9 => ?_) (fun c9 => (rg_eqF c9 (rg_of (by decide) : rg (1 : Int32) 1 1) (rg_of (by decide) : rg (0 : Int32) 0 0) (by decide)).elim)
    refine lv_aload_n hx hb dX7_piece_19 rfl (lv_at hl 0 rfl) ?_
    refine q_Vi (wr := [(mo_refused, .inl (cI, 3, .inl f_mo_refused))]) [0, 1] [2] hX hE hK hP hD hS hA hl.1 lk_X7_64 (c_M_notes l D cI cZ cP sa mo mo_now f_mo_now mo_kept mo_isKept mo_refused mo_above mo_below mo_fewest mo_manyGiven mo_firstGiven mo_secondGiven mo_clashWith mo_row mo_rowLong mo_least mo_slips mo_left mo_bestRow mo_tryRow mo_leastSlips mo_moments mo_bytes mo_bytesLong mo_tokenAt mo_tokenLong mo_token mo_value mo_next mo_values h_mo_rowLong h_mo_bytesLong h_mo_tokenAt h_mo_tokenLong h_f_mo_now _) rfl rfl rfl rfl (by decide) 0 7 rfl rfl rfl rfl (Nat.le_of_ble_eq_true rfl) rfl rfl ⟨Nat.le_of_ble_eq_true rfl, Nat.le_of_ble_eq_true rfl⟩ ⟨Nat.le_of_ble_eq_true rfl, Nat.le_of_ble_eq_true rfl⟩ dX7_piece_20 (fun x20 _ H locs h20 hP hD hS => ?_)
    have hr20 := h20
    have hP : va_P D vwCl [(mo_refused, .inl (cI, 3, .inl f_mo_refused)), (mo, .inr (7, [.ref mo_now, .ref mo_kept, .ref mo_isKept, .ref mo_refused, .long mo_above, .long mo_below, .int mo_fewest, .int mo_manyGiven, .int mo_firstGiven, .int mo_secondGiven, .ref mo_clashWith, .ref mo_row, .int mo_rowLong, .ref mo_least, .ref mo_slips, .ref mo_left, .ref mo_bestRow, .ref mo_tryRow, .int mo_leastSlips, .ref mo_moments, .ref mo_bytes, .int mo_bytesLong, .int mo_tokenAt, .int mo_tokenLong, .int mo_token, .int mo_value, .ref mo_next, .ref mo_values])), (mo_now, .inl (cI, 221, .inl f_mo_now))] H := hP
    have hD : va_D (va_A (w_M_piece cI cZ cP mo mo_now f_mo_now mo_kept mo_isKept mo_refused f_mo_refused mo_above mo_below mo_fewest mo_manyGiven mo_firstGiven mo_secondGiven mo_clashWith mo_row mo_rowLong mo_least mo_slips mo_left mo_bestRow mo_tryRow mo_leastSlips mo_moments mo_bytes mo_bytesLong mo_tokenAt mo_tokenLong mo_token mo_value mo_next mo_values p0) sz) [(mo_refused, .inl (cI, 3, .inl f_mo_refused)), (mo, .inr (7, [.ref mo_now, .ref mo_kept, .ref mo_isKept, .ref mo_refused, .long mo_above, .long mo_below, .int mo_fewest, .int mo_manyGiven, .int mo_firstGiven, .int mo_secondGiven, .ref mo_clashWith, .ref mo_row, .int mo_rowLong, .ref mo_least, .ref mo_slips, .ref mo_left, .ref mo_bestRow, .ref mo_tryRow, .int mo_leastSlips, .ref mo_moments, .ref mo_bytes, .int mo_bytesLong, .int mo_tokenAt, .int mo_tokenLong, .int mo_token, .int mo_value, .ref mo_next, .ref mo_values])), (mo_now, .inl (cI, 221, .inl f_mo_now))] := hD
    refine lv_istore_n (lv' := [(2, .int x20), (0, .ref mo), (1, .int p0)]) hx hb dX7_piece_23 rfl hl (by decide) rfl (fun ls hl => ?_)
    refine lv_aload_n hx hb dX7_piece_24 rfl (lv_at hl 1 rfl) ?_
    refine va_get (D := D) (ci := 7) (v := .ref mo_now) (C := RX7) (T := TX7) (N := 28) hx hb ht inX7 hown hK hP 1 rfl rfl 0 (Nat.le_of_ble_eq_true rfl) (ht _ kw_904) (fun _ h9 => h9) rfl dX7_piece_25 ?_
    refine lv_iload_n hx hb dX7_piece_28 rfl (lv_at hl 2 rfl) ?_
    refine q_Sv (wr := [(mo_refused, .inl (cI, 3, .inl f_mo_refused)), (mo, .inr (7, [.ref mo_now, .ref mo_kept, .ref mo_isKept, .ref mo_refused, .long mo_above, .long mo_below, .int mo_fewest, .int mo_manyGiven, .int mo_firstGiven, .int mo_secondGiven, .ref mo_clashWith, .ref mo_row, .int mo_rowLong, .ref mo_least, .ref mo_slips, .ref mo_left, .ref mo_bestRow, .ref mo_tryRow, .int mo_leastSlips, .ref mo_moments, .ref mo_bytes, .int mo_bytesLong, .int mo_tokenAt, .int mo_tokenLong, .int mo_token, .int mo_value, .ref mo_next, .ref mo_values]))]) [2] [0, 1] hX hE hK hP hD hS hA hl.1 lk_X7_60 (c_M_begin l D cI cZ cP sa mo_now f_mo_now p0 h_f_mo_now _) rfl rfl rfl rfl (by decide) rfl rfl (Nat.le_of_ble_eq_true rfl) rfl rfl ⟨Nat.le_of_ble_eq_true rfl, Nat.le_of_ble_eq_true rfl⟩ ⟨Nat.le_of_ble_eq_true rfl, Nat.le_of_ble_eq_true rfl⟩ dX7_piece_29 (fun u29_0 H locs h29 hP hD hS => ?_)
    have k29_u29_0 := h29
    have hP : va_P D vwCl [(mo_refused, .inl (cI, 3, .inl f_mo_refused)), (mo, .inr (7, [.ref mo_now, .ref mo_kept, .ref mo_isKept, .ref mo_refused, .long mo_above, .long mo_below, .int mo_fewest, .int mo_manyGiven, .int mo_firstGiven, .int mo_secondGiven, .ref mo_clashWith, .ref mo_row, .int mo_rowLong, .ref mo_least, .ref mo_slips, .ref mo_left, .ref mo_bestRow, .ref mo_tryRow, .int mo_leastSlips, .ref mo_moments, .ref mo_bytes, .int mo_bytesLong, .int mo_tokenAt, .int mo_tokenLong, .int mo_token, .int mo_value, .ref mo_next, .ref mo_values])), (mo_now, .inl (cI, 221, .inl u29_0))] H := hP
    have hD : va_D (va_A (w_M_piece cI cZ cP mo mo_now f_mo_now mo_kept mo_isKept mo_refused f_mo_refused mo_above mo_below mo_fewest mo_manyGiven mo_firstGiven mo_secondGiven mo_clashWith mo_row mo_rowLong mo_least mo_slips mo_left mo_bestRow mo_tryRow mo_leastSlips mo_moments mo_bytes mo_bytesLong mo_tokenAt mo_tokenLong mo_token mo_value mo_next mo_values p0) sz) [(mo_refused, .inl (cI, 3, .inl f_mo_refused)), (mo, .inr (7, [.ref mo_now, .ref mo_kept, .ref mo_isKept, .ref mo_refused, .long mo_above, .long mo_below, .int mo_fewest, .int mo_manyGiven, .int mo_firstGiven, .int mo_secondGiven, .ref mo_clashWith, .ref mo_row, .int mo_rowLong, .ref mo_least, .ref mo_slips, .ref mo_left, .ref mo_bestRow, .ref mo_tryRow, .int mo_leastSlips, .ref mo_moments, .ref mo_bytes, .int mo_bytesLong, .int mo_tokenAt, .int mo_tokenLong, .int mo_token, .int mo_value, .ref mo_next, .ref mo_values])), (mo_now, .inl (cI, 221, .inl u29_0))] := hD
    refine lv_iload_n hx hb dX7_piece_32 rfl (lv_at hl 0 rfl) ?_
    exact q_iret hX hr hlk (u29_0, f_mo_refused) ⟨(rg_w hr20 (by decide)), k29_u29_0⟩ (hP.sub [1, 2, 0] rfl) (hD.sub [1, 2, 0] (by decide) rfl) hS dX7_piece_33
  · rw [if_neg d6] at h6; subst h6
    refine lv_if_ne (tgt := 19) hx hb dX7_piece_9 (by decide) (fun c9 => absurd rfl c9) (fun c9 => ?_)
    refine lv_aload_n hx hb dX7_piece_12 rfl (lv_at hl 0 rfl) ?_
    refine lv_bipush (v := (-2)) hx hb dX7_piece_13 (by decide) ?_
    refine q_Vi (wr := [(mo_now, .inl (cI, 221, .inl f_mo_now))]) [0, 2] [1] hX hE hK hP hD hS hA hl.1 lk_X7_76 (c_M_bad l D cI cZ cP sa mo mo_now mo_kept mo_isKept mo_refused f_mo_refused mo_above mo_below mo_fewest mo_manyGiven mo_firstGiven mo_secondGiven mo_clashWith mo_row mo_rowLong mo_least mo_slips mo_left mo_bestRow mo_tryRow mo_leastSlips mo_moments mo_bytes mo_bytesLong mo_tokenAt mo_tokenLong mo_token mo_value mo_next mo_values (-2) h_mo_rowLong h_mo_bytesLong h_mo_tokenAt h_mo_tokenLong _) rfl rfl rfl rfl (by decide) 0 7 rfl rfl rfl rfl (Nat.le_of_ble_eq_true rfl) rfl rfl ⟨Nat.le_of_ble_eq_true rfl, Nat.le_of_ble_eq_true rfl⟩ ⟨Nat.le_of_ble_eq_true rfl, Nat.le_of_ble_eq_true rfl⟩ dX7_piece_15 (fun x15 u15_0 H locs h15 hP hD hS => ?_)
    have hr15 := h15
    have hP : va_P D vwCl [(mo_now, .inl (cI, 221, .inl f_mo_now)), (mo, .inr (7, [.ref mo_now, .ref mo_kept, .ref mo_isKept, .ref mo_refused, .long mo_above, .long mo_below, .int mo_fewest, .int mo_manyGiven, .int mo_firstGiven, .int mo_secondGiven, .ref mo_clashWith, .ref mo_row, .int mo_rowLong, .ref mo_least, .ref mo_slips, .ref mo_left, .ref mo_bestRow, .ref mo_tryRow, .int mo_leastSlips, .ref mo_moments, .ref mo_bytes, .int mo_bytesLong, .int mo_tokenAt, .int mo_tokenLong, .int mo_token, .int mo_value, .ref mo_next, .ref mo_values])), (mo_refused, .inl (cI, 3, .inl u15_0))] H := hP
    have hD : va_D (va_A (w_M_piece cI cZ cP mo mo_now f_mo_now mo_kept mo_isKept mo_refused f_mo_refused mo_above mo_below mo_fewest mo_manyGiven mo_firstGiven mo_secondGiven mo_clashWith mo_row mo_rowLong mo_least mo_slips mo_left mo_bestRow mo_tryRow mo_leastSlips mo_moments mo_bytes mo_bytesLong mo_tokenAt mo_tokenLong mo_token mo_value mo_next mo_values p0) sz) [(mo_now, .inl (cI, 221, .inl f_mo_now)), (mo, .inr (7, [.ref mo_now, .ref mo_kept, .ref mo_isKept, .ref mo_refused, .long mo_above, .long mo_below, .int mo_fewest, .int mo_manyGiven, .int mo_firstGiven, .int mo_secondGiven, .ref mo_clashWith, .ref mo_row, .int mo_rowLong, .ref mo_least, .ref mo_slips, .ref mo_left, .ref mo_bestRow, .ref mo_tryRow, .int mo_leastSlips, .ref mo_moments, .ref mo_bytes, .int mo_bytesLong, .int mo_tokenAt, .int mo_tokenLong, .int mo_token, .int mo_value, .ref mo_next, .ref mo_values])), (mo_refused, .inl (cI, 3, .inl u15_0))] := hD
    have hr15 := hr15.symm
    subst hr15
    exact q_iret hX hr hlk (f_mo_now, u15_0) ⟨(rg_w (rg_of (by decide) : rg (-2 : Int32) (-2) (-2)) (by decide)), h_f_mo_now⟩ (hP.sub [1, 0, 2] rfl) (hD.sub [1, 0, 2] (by decide) rfl) hS dX7_piece_18
abbrev w_M_hand (cI cZ cP : ClassId) (mo : Nat) (mo_now : Nat) (f_mo_now : Nat → Int32) (mo_kept : Nat) (mo_isKept : Nat) (mo_refused : Nat) (f_mo_refused : Nat → Int32) (mo_above : Int64) (mo_below : Int64) (mo_fewest : Int32) (mo_manyGiven : Int32) (mo_firstGiven : Int32) (mo_secondGiven : Int32) (mo_clashWith : Nat) (mo_row : Nat) (mo_rowLong : Int32) (mo_least : Nat) (mo_slips : Nat) (mo_left : Nat) (mo_bestRow : Nat) (mo_tryRow : Nat) (mo_leastSlips : Int32) (mo_moments : Nat) (mo_bytes : Nat) (mo_bytesLong : Int32) (mo_tokenAt : Int32) (mo_tokenLong : Int32) (mo_token : Int32) (mo_value : Int32) (mo_next : Nat) (mo_values : Nat) (p0 : Int32) (p1 : Int32) (p2 : Int32) (p3 : Int32) : va_W := [(mo, .inr (7, [.ref mo_now, .ref mo_kept, .ref mo_isKept, .ref mo_refused, .long mo_above, .long mo_below, .int mo_fewest, .int mo_manyGiven, .int mo_firstGiven, .int mo_secondGiven, .ref mo_clashWith, .ref mo_row, .int mo_rowLong, .ref mo_least, .ref mo_slips, .ref mo_left, .ref mo_bestRow, .ref mo_tryRow, .int mo_leastSlips, .ref mo_moments, .ref mo_bytes, .int mo_bytesLong, .int mo_tokenAt, .int mo_tokenLong, .int mo_token, .int mo_value, .ref mo_next, .ref mo_values])), (mo_now, .inl (cI, 221, .inl f_mo_now)), (mo_refused, .inl (cI, 3, .inl f_mo_refused))]
set_option maxHeartbeats 4000000 in
set_option maxRecDepth 100000 in
theorem c_M_hand (l : Launch) (D : va_G) (cI cZ cP : ClassId) (sa : Nat → Nat) (mo : Nat) (mo_now : Nat) (f_mo_now : Nat → Int32) (mo_kept : Nat) (mo_isKept : Nat) (mo_refused : Nat) (f_mo_refused : Nat → Int32) (mo_above : Int64) (mo_below : Int64) (mo_fewest : Int32) (mo_manyGiven : Int32) (mo_firstGiven : Int32) (mo_secondGiven : Int32) (mo_clashWith : Nat) (mo_row : Nat) (mo_rowLong : Int32) (mo_least : Nat) (mo_slips : Nat) (mo_left : Nat) (mo_bestRow : Nat) (mo_tryRow : Nat) (mo_leastSlips : Int32) (mo_moments : Nat) (mo_bytes : Nat) (mo_bytesLong : Int32) (mo_tokenAt : Int32) (mo_tokenLong : Int32) (mo_token : Int32) (mo_value : Int32) (mo_next : Nat) (mo_values : Nat) (p0 : Int32) (p1 : Int32) (p2 : Int32) (p3 : Int32) (h_mo_rowLong : rg mo_rowLong 0 12) (h_mo_bytesLong : rg mo_bytesLong 0 150) (h_mo_tokenAt : rg mo_tokenAt 0 150) (h_mo_tokenLong : rg mo_tokenLong 0 150) (h_f_mo_now : okN f_mo_now) (sz : Nat) : Met l yX7_hand (qW yX7_hand cX7_hand 6 (some .int)) ({ frames := 2, cells := 0, slots := 0, locals := 45 } : Room) (qP D (TY cI cZ cP) sa [.ref mo, .int p0, .int p1, .int p2, .int p3] (w_M_hand cI cZ cP mo mo_now f_mo_now mo_kept mo_isKept mo_refused f_mo_refused mo_above mo_below mo_fewest mo_manyGiven mo_firstGiven mo_secondGiven mo_clashWith mo_row mo_rowLong mo_least mo_slips mo_left mo_bestRow mo_tryRow mo_leastSlips mo_moments mo_bytes mo_bytesLong mo_tokenAt mo_tokenLong mo_token mo_value mo_next mo_values p0 p1 p2 p3) sz) (qQi D (w_M_hand cI cZ cP mo mo_now f_mo_now mo_kept mo_isKept mo_refused f_mo_refused mo_above mo_below mo_fewest mo_manyGiven mo_firstGiven mo_secondGiven mo_clashWith mo_row mo_rowLong mo_least mo_slips mo_left mo_bestRow mo_tryRow mo_leastSlips mo_moments mo_bytes mo_bytesLong mo_tokenAt mo_tokenLong mo_token mo_value mo_next mo_values p0 p1 p2 p3) sz (fun (r : Int32) (u : (Nat → Int32) × (Nat → Int32)) => okN u.1) (fun u : (Nat → Int32) × (Nat → Int32) => [(mo, .inr (7, [.ref mo_now, .ref mo_kept, .ref mo_isKept, .ref mo_refused, .long mo_above, .long mo_below, .int mo_fewest, .int mo_manyGiven, .int mo_firstGiven, .int mo_secondGiven, .ref mo_clashWith, .ref mo_row, .int mo_rowLong, .ref mo_least, .ref mo_slips, .ref mo_left, .ref mo_bestRow, .ref mo_tryRow, .int mo_leastSlips, .ref mo_moments, .ref mo_bytes, .int mo_bytesLong, .int mo_tokenAt, .int mo_tokenLong, .int mo_token, .int mo_value, .ref mo_next, .ref mo_values])), (mo_now, .inl (cI, 221, .inl u.1)), (mo_refused, .inl (cI, 3, .inl u.2))])) 0 0 (va_A (w_M_hand cI cZ cP mo mo_now f_mo_now mo_kept mo_isKept mo_refused f_mo_refused mo_above mo_below mo_fewest mo_manyGiven mo_firstGiven mo_secondGiven mo_clashWith mo_row mo_rowLong mo_least mo_slips mo_left mo_bestRow mo_tryRow mo_leastSlips mo_moments mo_bytes mo_bytesLong mo_tokenAt mo_tokenLong mo_token mo_value mo_next mo_values p0 p1 p2 p3) sz) := by
  refine q_enter (by decide) (Nat.le_of_ble_eq_true rfl) ?_
  intro p e s m below meth c ls hX hr hlk hnm hE hK hP hD hS hA hl
  obtain ⟨hx, hb, hml, hown, ht⟩ := id hX
  have hl : lv_has ls 6 [(0, .ref mo), (1, .int p0), (2, .int p1), (3, .int p2), (4, .int p3)] := hl
  have jp_44 : ∀ (_ : Unit), rg mo_rowLong 0 12 → rg mo_bytesLong 0 150 → rg mo_tokenAt 0 150 → rg mo_tokenLong 0 150 → okN f_mo_now → ∀ (H : Heap) (locs : List Loc) (ls : Array Slot), va_P D vwCl [(mo, .inr (7, [.ref mo_now, .ref mo_kept, .ref mo_isKept, .ref mo_refused, .long mo_above, .long mo_below, .int mo_fewest, .int mo_manyGiven, .int mo_firstGiven, .int mo_secondGiven, .ref mo_clashWith, .ref mo_row, .int mo_rowLong, .ref mo_least, .ref mo_slips, .ref mo_left, .ref mo_bestRow, .ref mo_tryRow, .int mo_leastSlips, .ref mo_moments, .ref mo_bytes, .int mo_bytesLong, .int mo_tokenAt, .int mo_tokenLong, .int mo_token, .int mo_value, .ref mo_next, .ref mo_values])), (mo_now, .inl (cI, 221, .inl f_mo_now)), (mo_refused, .inl (cI, 3, .inl f_mo_refused))] H → va_D (va_A (w_M_hand cI cZ cP mo mo_now f_mo_now mo_kept mo_isKept mo_refused f_mo_refused mo_above mo_below mo_fewest mo_manyGiven mo_firstGiven mo_secondGiven mo_clashWith mo_row mo_rowLong mo_least mo_slips mo_left mo_bestRow mo_tryRow mo_leastSlips mo_moments mo_bytes mo_bytesLong mo_tokenAt mo_tokenLong mo_token mo_value mo_next mo_values p0 p1 p2 p3) sz) [(mo, .inr (7, [.ref mo_now, .ref mo_kept, .ref mo_isKept, .ref mo_refused, .long mo_above, .long mo_below, .int mo_fewest, .int mo_manyGiven, .int mo_firstGiven, .int mo_secondGiven, .ref mo_clashWith, .ref mo_row, .int mo_rowLong, .ref mo_least, .ref mo_slips, .ref mo_left, .ref mo_bestRow, .ref mo_tryRow, .int mo_leastSlips, .ref mo_moments, .ref mo_bytes, .int mo_bytesLong, .int mo_tokenAt, .int mo_tokenLong, .int mo_token, .int mo_value, .ref mo_next, .ref mo_values])), (mo_now, .inl (cI, 221, .inl f_mo_now)), (mo_refused, .inl (cI, 3, .inl f_mo_refused))] → va_S (va_A (w_M_hand cI cZ cP mo mo_now f_mo_now mo_kept mo_isKept mo_refused f_mo_refused mo_above mo_below mo_fewest mo_manyGiven mo_firstGiven mo_secondGiven mo_clashWith mo_row mo_rowLong mo_least mo_slips mo_left mo_bestRow mo_tryRow mo_leastSlips mo_moments mo_bytes mo_bytesLong mo_tokenAt mo_tokenLong mo_token mo_value mo_next mo_values p0 p1 p2 p3) sz) s.heap H locs → lv_has ls 6 [(0, .ref mo), (1, .int p0), (2, .int p1), (3, .int p2), (4, .int p3)] → W p l e ({ frames := 2, cells := 0, slots := 0, locals := 45 } : Room) s m ([.ref mo, .int p0, .int p1, .int p2, .int p3] : List Value).toArray below meth c H locs 0 0 (MQ below (qQi D (w_M_hand cI cZ cP mo mo_now f_mo_now mo_kept mo_isKept mo_refused f_mo_refused mo_above mo_below mo_fewest mo_manyGiven mo_firstGiven mo_secondGiven mo_clashWith mo_row mo_rowLong mo_least mo_slips mo_left mo_bestRow mo_tryRow mo_leastSlips mo_moments mo_bytes mo_bytesLong mo_tokenAt mo_tokenLong mo_token mo_value mo_next mo_values p0 p1 p2 p3) sz (fun (r : Int32) (u : (Nat → Int32) × (Nat → Int32)) => okN u.1) (fun u : (Nat → Int32) × (Nat → Int32) => [(mo, .inr (7, [.ref mo_now, .ref mo_kept, .ref mo_isKept, .ref mo_refused, .long mo_above, .long mo_below, .int mo_fewest, .int mo_manyGiven, .int mo_firstGiven, .int mo_secondGiven, .ref mo_clashWith, .ref mo_row, .int mo_rowLong, .ref mo_least, .ref mo_slips, .ref mo_left, .ref mo_bestRow, .ref mo_tryRow, .int mo_leastSlips, .ref mo_moments, .ref mo_bytes, .int mo_bytesLong, .int mo_tokenAt, .int mo_tokenLong, .int mo_token, .int mo_value, .ref mo_next, .ref mo_values])), (mo_now, .inl (cI, 221, .inl u.1)), (mo_refused, .inl (cI, 3, .inl u.2))])) ([.ref mo, .int p0, .int p1, .int p2, .int p3] : List Value).toArray s 0 0 (va_A (w_M_hand cI cZ cP mo mo_now f_mo_now mo_kept mo_isKept mo_refused f_mo_refused mo_above mo_below mo_fewest mo_manyGiven mo_firstGiven mo_secondGiven mo_clashWith mo_row mo_rowLong mo_least mo_slips mo_left mo_bestRow mo_tryRow mo_leastSlips mo_moments mo_bytes mo_bytesLong mo_tokenAt mo_tokenLong mo_token mo_value mo_next mo_values p0 p1 p2 p3) sz)) (F0 m 44 ls []) := by
    intro _ g44_mo_rowLong g44_mo_bytesLong g44_mo_tokenAt g44_mo_tokenLong g44_f_mo_now H locs ls hP hD hS hl
    refine lv_aload_n hx hb dX7_hand_44 rfl (lv_at hl 0 rfl) ?_
    refine lv_bipush (v := (-2)) hx hb dX7_hand_45 (by decide) ?_
    refine q_Vi (wr := [(mo_now, .inl (cI, 221, .inl f_mo_now))]) [0, 2] [1] hX hE hK hP hD hS hA hl.1 lk_X7_76 (c_M_bad l D cI cZ cP sa mo mo_now mo_kept mo_isKept mo_refused f_mo_refused mo_above mo_below mo_fewest mo_manyGiven mo_firstGiven mo_secondGiven mo_clashWith mo_row mo_rowLong mo_least mo_slips mo_left mo_bestRow mo_tryRow mo_leastSlips mo_moments mo_bytes mo_bytesLong mo_tokenAt mo_tokenLong mo_token mo_value mo_next mo_values (-2) g44_mo_rowLong g44_mo_bytesLong g44_mo_tokenAt g44_mo_tokenLong _) rfl rfl rfl rfl (by decide) 0 7 rfl rfl rfl rfl (Nat.le_of_ble_eq_true rfl) rfl rfl ⟨Nat.le_of_ble_eq_true rfl, Nat.le_of_ble_eq_true rfl⟩ ⟨Nat.le_of_ble_eq_true rfl, Nat.le_of_ble_eq_true rfl⟩ dX7_hand_47 (fun x47 u47_0 H locs h47 hP hD hS => ?_)
    have hr47 := h47
    have hP : va_P D vwCl [(mo_now, .inl (cI, 221, .inl f_mo_now)), (mo, .inr (7, [.ref mo_now, .ref mo_kept, .ref mo_isKept, .ref mo_refused, .long mo_above, .long mo_below, .int mo_fewest, .int mo_manyGiven, .int mo_firstGiven, .int mo_secondGiven, .ref mo_clashWith, .ref mo_row, .int mo_rowLong, .ref mo_least, .ref mo_slips, .ref mo_left, .ref mo_bestRow, .ref mo_tryRow, .int mo_leastSlips, .ref mo_moments, .ref mo_bytes, .int mo_bytesLong, .int mo_tokenAt, .int mo_tokenLong, .int mo_token, .int mo_value, .ref mo_next, .ref mo_values])), (mo_refused, .inl (cI, 3, .inl u47_0))] H := hP
    have hD : va_D (va_A (w_M_hand cI cZ cP mo mo_now f_mo_now mo_kept mo_isKept mo_refused f_mo_refused mo_above mo_below mo_fewest mo_manyGiven mo_firstGiven mo_secondGiven mo_clashWith mo_row mo_rowLong mo_least mo_slips mo_left mo_bestRow mo_tryRow mo_leastSlips mo_moments mo_bytes mo_bytesLong mo_tokenAt mo_tokenLong mo_token mo_value mo_next mo_values p0 p1 p2 p3) sz) [(mo_now, .inl (cI, 221, .inl f_mo_now)), (mo, .inr (7, [.ref mo_now, .ref mo_kept, .ref mo_isKept, .ref mo_refused, .long mo_above, .long mo_below, .int mo_fewest, .int mo_manyGiven, .int mo_firstGiven, .int mo_secondGiven, .ref mo_clashWith, .ref mo_row, .int mo_rowLong, .ref mo_least, .ref mo_slips, .ref mo_left, .ref mo_bestRow, .ref mo_tryRow, .int mo_leastSlips, .ref mo_moments, .ref mo_bytes, .int mo_bytesLong, .int mo_tokenAt, .int mo_tokenLong, .int mo_token, .int mo_value, .ref mo_next, .ref mo_values])), (mo_refused, .inl (cI, 3, .inl u47_0))] := hD
    have hr47 := hr47.symm
    subst hr47
    exact q_iret hX hr hlk (f_mo_now, u47_0) g44_f_mo_now (hP.sub [1, 0, 2] rfl) (hD.sub [1, 0, 2] (by decide) rfl) hS dX7_hand_50
  refine lv_iload_n hx hb dX7_hand_0 rfl (lv_at hl 1 rfl) ?_
  refine q_Si (wr := [(mo, .inr (7, [.ref mo_now, .ref mo_kept, .ref mo_isKept, .ref mo_refused, .long mo_above, .long mo_below, .int mo_fewest, .int mo_manyGiven, .int mo_firstGiven, .int mo_secondGiven, .ref mo_clashWith, .ref mo_row, .int mo_rowLong, .ref mo_least, .ref mo_slips, .ref mo_left, .ref mo_bestRow, .ref mo_tryRow, .int mo_leastSlips, .ref mo_moments, .ref mo_bytes, .int mo_bytesLong, .int mo_tokenAt, .int mo_tokenLong, .int mo_token, .int mo_value, .ref mo_next, .ref mo_values])), (mo_now, .inl (cI, 221, .inl f_mo_now)), (mo_refused, .inl (cI, 3, .inl f_mo_refused))]) [] [0, 1, 2] hX hE hK hP hD hS hA hl.1 lk_X7_80 (c_M_isHand l D cI cZ cP sa p0 _) rfl rfl rfl rfl (by decide) rfl rfl (Nat.le_of_ble_eq_true rfl) rfl rfl ⟨Nat.le_of_ble_eq_true rfl, Nat.le_of_ble_eq_true rfl⟩ ⟨Nat.le_of_ble_eq_true rfl, Nat.le_of_ble_eq_true rfl⟩ dX7_hand_1 (fun x1 _ H locs h1 hP hD hS => ?_)
  have hr1 := h1
  have hP : va_P D vwCl [(mo, .inr (7, [.ref mo_now, .ref mo_kept, .ref mo_isKept, .ref mo_refused, .long mo_above, .long mo_below, .int mo_fewest, .int mo_manyGiven, .int mo_firstGiven, .int mo_secondGiven, .ref mo_clashWith, .ref mo_row, .int mo_rowLong, .ref mo_least, .ref mo_slips, .ref mo_left, .ref mo_bestRow, .ref mo_tryRow, .int mo_leastSlips, .ref mo_moments, .ref mo_bytes, .int mo_bytesLong, .int mo_tokenAt, .int mo_tokenLong, .int mo_token, .int mo_value, .ref mo_next, .ref mo_values])), (mo_now, .inl (cI, 221, .inl f_mo_now)), (mo_refused, .inl (cI, 3, .inl f_mo_refused))] H := hP
  have hD : va_D (va_A (w_M_hand cI cZ cP mo mo_now f_mo_now mo_kept mo_isKept mo_refused f_mo_refused mo_above mo_below mo_fewest mo_manyGiven mo_firstGiven mo_secondGiven mo_clashWith mo_row mo_rowLong mo_least mo_slips mo_left mo_bestRow mo_tryRow mo_leastSlips mo_moments mo_bytes mo_bytesLong mo_tokenAt mo_tokenLong mo_token mo_value mo_next mo_values p0 p1 p2 p3) sz) [(mo, .inr (7, [.ref mo_now, .ref mo_kept, .ref mo_isKept, .ref mo_refused, .long mo_above, .long mo_below, .int mo_fewest, .int mo_manyGiven, .int mo_firstGiven, .int mo_secondGiven, .ref mo_clashWith, .ref mo_row, .int mo_rowLong, .ref mo_least, .ref mo_slips, .ref mo_left, .ref mo_bestRow, .ref mo_tryRow, .int mo_leastSlips, .ref mo_moments, .ref mo_bytes, .int mo_bytesLong, .int mo_tokenAt, .int mo_tokenLong, .int mo_token, .int mo_value, .ref mo_next, .ref mo_values])), (mo_now, .inl (cI, 221, .inl f_mo_now)), (mo_refused, .inl (cI, 3, .inl f_mo_refused))] := hD
  rcases hr1 with hr1 | ⟨hr1, z1_0⟩
  · subst hr1
    refine lv_if_eq (tgt := 44) hx hb dX7_hand_4 (by decide) (fun c4 => ?_) (fun c4 => absurd rfl c4)
    exact jp_44 () h_mo_rowLong h_mo_bytesLong h_mo_tokenAt h_mo_tokenLong h_f_mo_now _ _ _ hP hD hS (lv_sub hl [0, 1, 2, 3, 4] rfl)
  · subst hr1
    refine lv_if_eq (tgt := 44) hx hb dX7_hand_4 (by decide) (fun c4 => (rg_eqF c4 (rg_of (by decide) : rg (1 : Int32) 1 1) (rg_of (by decide) : rg (0 : Int32) 0 0) (by decide)).elim) (fun c4 => ?_)
    refine lv_iload_n hx hb dX7_hand_7 rfl (lv_at hl 2 rfl) ?_
    refine lv_i2l (v := (p1.toInt64)) hx hb dX7_hand_8 rfl ?_
    refine lv_lconst (v := 0) hx hb dX7_hand_9 (by decide) ?_
    refine q_l (z := ((0 : Int32).toInt64)) (by decide) ?_
    refine lv_ldc2 hx hb hown (ht _ kw_1014) dX7_hand_10 ?_
    refine q_l (z := ((5 : Int32).toInt64)) (by decide) ?_
    refine q_Si (wr := [(mo, .inr (7, [.ref mo_now, .ref mo_kept, .ref mo_isKept, .ref mo_refused, .long mo_above, .long mo_below, .int mo_fewest, .int mo_manyGiven, .int mo_firstGiven, .int mo_secondGiven, .ref mo_clashWith, .ref mo_row, .int mo_rowLong, .ref mo_least, .ref mo_slips, .ref mo_left, .ref mo_bestRow, .ref mo_tryRow, .int mo_leastSlips, .ref mo_moments, .ref mo_bytes, .int mo_bytesLong, .int mo_tokenAt, .int mo_tokenLong, .int mo_token, .int mo_value, .ref mo_next, .ref mo_values])), (mo_now, .inl (cI, 221, .inl f_mo_now)), (mo_refused, .inl (cI, 3, .inl f_mo_refused))]) [] [0, 1, 2] hX hE hK hP hD hS hA hl.1 lk_X7_68 (c_m_in l D cI cZ cP sa p1 0 5 _) rfl rfl rfl rfl (by decide) rfl rfl (Nat.le_of_ble_eq_true rfl) rfl rfl ⟨Nat.le_of_ble_eq_true rfl, Nat.le_of_ble_eq_true rfl⟩ ⟨Nat.le_of_ble_eq_true rfl, Nat.le_of_ble_eq_true rfl⟩ dX7_hand_13 (fun x13 _ H locs h13 hP hD hS => ?_)
    have hP : va_P D vwCl [(mo, .inr (7, [.ref mo_now, .ref mo_kept, .ref mo_isKept, .ref mo_refused, .long mo_above, .long mo_below, .int mo_fewest, .int mo_manyGiven, .int mo_firstGiven, .int mo_secondGiven, .ref mo_clashWith, .ref mo_row, .int mo_rowLong, .ref mo_least, .ref mo_slips, .ref mo_left, .ref mo_bestRow, .ref mo_tryRow, .int mo_leastSlips, .ref mo_moments, .ref mo_bytes, .int mo_bytesLong, .int mo_tokenAt, .int mo_tokenLong, .int mo_token, .int mo_value, .ref mo_next, .ref mo_values])), (mo_now, .inl (cI, 221, .inl f_mo_now)), (mo_refused, .inl (cI, 3, .inl f_mo_refused))] H := hP
    have hD : va_D (va_A (w_M_hand cI cZ cP mo mo_now f_mo_now mo_kept mo_isKept mo_refused f_mo_refused mo_above mo_below mo_fewest mo_manyGiven mo_firstGiven mo_secondGiven mo_clashWith mo_row mo_rowLong mo_least mo_slips mo_left mo_bestRow mo_tryRow mo_leastSlips mo_moments mo_bytes mo_bytesLong mo_tokenAt mo_tokenLong mo_token mo_value mo_next mo_values p0 p1 p2 p3) sz) [(mo, .inr (7, [.ref mo_now, .ref mo_kept, .ref mo_isKept, .ref mo_refused, .long mo_above, .long mo_below, .int mo_fewest, .int mo_manyGiven, .int mo_firstGiven, .int mo_secondGiven, .ref mo_clashWith, .ref mo_row, .int mo_rowLong, .ref mo_least, .ref mo_slips, .ref mo_left, .ref mo_bestRow, .ref mo_tryRow, .int mo_leastSlips, .ref mo_moments, .ref mo_bytes, .int mo_bytesLong, .int mo_tokenAt, .int mo_tokenLong, .int mo_token, .int mo_value, .ref mo_next, .ref mo_values])), (mo_now, .inl (cI, 221, .inl f_mo_now)), (mo_refused, .inl (cI, 3, .inl f_mo_refused))] := hD
    rcases Classical.em (0 ≤ p1 ∧ p1 ≤ 5) with d13 | d13
    · rw [if_pos d13] at h13; subst h13
      have w13ab : rg p1 0 2147483647 := rg_leR d13.1 (rg_of (by decide) : rg (0 : Int32) 0 0) (rg_any p1) (by decide)
      have w13ba : rg p1 0 5 := rg_leL d13.2 w13ab (rg_of (by decide) : rg (5 : Int32) 5 5) (by decide)
      refine lv_if_eq (tgt := 44) hx hb dX7_hand_16 (by decide) (fun c16 => (rg_eqF c16 (rg_of (by decide) : rg (1 : Int32) 1 1) (rg_of (by decide) : rg (0 : Int32) 0 0) (by decide)).elim) (fun c16 => ?_)
      refine lv_iload_n hx hb dX7_hand_19 rfl (lv_at hl 3 rfl) ?_
      refine lv_i2l (v := (p2.toInt64)) hx hb dX7_hand_20 rfl ?_
      refine lv_lconst (v := 0) hx hb dX7_hand_21 (by decide) ?_
      refine q_l (z := ((0 : Int32).toInt64)) (by decide) ?_
      refine lv_ldc2 hx hb hown (ht _ kw_1015) dX7_hand_22 ?_
      refine q_l (z := ((15 : Int32).toInt64)) (by decide) ?_
      refine q_Si (wr := [(mo, .inr (7, [.ref mo_now, .ref mo_kept, .ref mo_isKept, .ref mo_refused, .long mo_above, .long mo_below, .int mo_fewest, .int mo_manyGiven, .int mo_firstGiven, .int mo_secondGiven, .ref mo_clashWith, .ref mo_row, .int mo_rowLong, .ref mo_least, .ref mo_slips, .ref mo_left, .ref mo_bestRow, .ref mo_tryRow, .int mo_leastSlips, .ref mo_moments, .ref mo_bytes, .int mo_bytesLong, .int mo_tokenAt, .int mo_tokenLong, .int mo_token, .int mo_value, .ref mo_next, .ref mo_values])), (mo_now, .inl (cI, 221, .inl f_mo_now)), (mo_refused, .inl (cI, 3, .inl f_mo_refused))]) [] [0, 1, 2] hX hE hK hP hD hS hA hl.1 lk_X7_68 (c_m_in l D cI cZ cP sa p2 0 15 _) rfl rfl rfl rfl (by decide) rfl rfl (Nat.le_of_ble_eq_true rfl) rfl rfl ⟨Nat.le_of_ble_eq_true rfl, Nat.le_of_ble_eq_true rfl⟩ ⟨Nat.le_of_ble_eq_true rfl, Nat.le_of_ble_eq_true rfl⟩ dX7_hand_25 (fun x25 _ H locs h25 hP hD hS => ?_)
      have hP : va_P D vwCl [(mo, .inr (7, [.ref mo_now, .ref mo_kept, .ref mo_isKept, .ref mo_refused, .long mo_above, .long mo_below, .int mo_fewest, .int mo_manyGiven, .int mo_firstGiven, .int mo_secondGiven, .ref mo_clashWith, .ref mo_row, .int mo_rowLong, .ref mo_least, .ref mo_slips, .ref mo_left, .ref mo_bestRow, .ref mo_tryRow, .int mo_leastSlips, .ref mo_moments, .ref mo_bytes, .int mo_bytesLong, .int mo_tokenAt, .int mo_tokenLong, .int mo_token, .int mo_value, .ref mo_next, .ref mo_values])), (mo_now, .inl (cI, 221, .inl f_mo_now)), (mo_refused, .inl (cI, 3, .inl f_mo_refused))] H := hP
      have hD : va_D (va_A (w_M_hand cI cZ cP mo mo_now f_mo_now mo_kept mo_isKept mo_refused f_mo_refused mo_above mo_below mo_fewest mo_manyGiven mo_firstGiven mo_secondGiven mo_clashWith mo_row mo_rowLong mo_least mo_slips mo_left mo_bestRow mo_tryRow mo_leastSlips mo_moments mo_bytes mo_bytesLong mo_tokenAt mo_tokenLong mo_token mo_value mo_next mo_values p0 p1 p2 p3) sz) [(mo, .inr (7, [.ref mo_now, .ref mo_kept, .ref mo_isKept, .ref mo_refused, .long mo_above, .long mo_below, .int mo_fewest, .int mo_manyGiven, .int mo_firstGiven, .int mo_secondGiven, .ref mo_clashWith, .ref mo_row, .int mo_rowLong, .ref mo_least, .ref mo_slips, .ref mo_left, .ref mo_bestRow, .ref mo_tryRow, .int mo_leastSlips, .ref mo_moments, .ref mo_bytes, .int mo_bytesLong, .int mo_tokenAt, .int mo_tokenLong, .int mo_token, .int mo_value, .ref mo_next, .ref mo_values])), (mo_now, .inl (cI, 221, .inl f_mo_now)), (mo_refused, .inl (cI, 3, .inl f_mo_refused))] := hD
      rcases Classical.em (0 ≤ p2 ∧ p2 ≤ 15) with d25 | d25
      · rw [if_pos d25] at h25; subst h25
        have w25ab : rg p2 0 2147483647 := rg_leR d25.1 (rg_of (by decide) : rg (0 : Int32) 0 0) (rg_any p2) (by decide)
        have w25ba : rg p2 0 15 := rg_leL d25.2 w25ab (rg_of (by decide) : rg (15 : Int32) 15 15) (by decide)
        refine lv_if_eq (tgt := 44) hx hb dX7_hand_28 (by decide) (fun c28 => (rg_eqF c28 (rg_of (by decide) : rg (1 : Int32) 1 1) (rg_of (by decide) : rg (0 : Int32) 0 0) (by decide)).elim) (fun c28 => ?_)
        refine lv_iload hx hb dX7_hand_31 (lv_at hl 4 rfl) ?_
        refine lv_i2l (v := (p3.toInt64)) hx hb dX7_hand_33 rfl ?_
        refine lv_lconst (v := 1) hx hb dX7_hand_34 (by decide) ?_
        refine q_l (z := ((1 : Int32).toInt64)) (by decide) ?_
        refine lv_ldc2 hx hb hown (ht _ kw_994) dX7_hand_35 ?_
        refine q_l (z := ((9 : Int32).toInt64)) (by decide) ?_
        refine q_Si (wr := [(mo, .inr (7, [.ref mo_now, .ref mo_kept, .ref mo_isKept, .ref mo_refused, .long mo_above, .long mo_below, .int mo_fewest, .int mo_manyGiven, .int mo_firstGiven, .int mo_secondGiven, .ref mo_clashWith, .ref mo_row, .int mo_rowLong, .ref mo_least, .ref mo_slips, .ref mo_left, .ref mo_bestRow, .ref mo_tryRow, .int mo_leastSlips, .ref mo_moments, .ref mo_bytes, .int mo_bytesLong, .int mo_tokenAt, .int mo_tokenLong, .int mo_token, .int mo_value, .ref mo_next, .ref mo_values])), (mo_now, .inl (cI, 221, .inl f_mo_now)), (mo_refused, .inl (cI, 3, .inl f_mo_refused))]) [] [0, 1, 2] hX hE hK hP hD hS hA hl.1 lk_X7_68 (c_m_in l D cI cZ cP sa p3 1 9 _) rfl rfl rfl rfl (by decide) rfl rfl (Nat.le_of_ble_eq_true rfl) rfl rfl ⟨Nat.le_of_ble_eq_true rfl, Nat.le_of_ble_eq_true rfl⟩ ⟨Nat.le_of_ble_eq_true rfl, Nat.le_of_ble_eq_true rfl⟩ dX7_hand_38 (fun x38 _ H locs h38 hP hD hS => ?_)
        have hP : va_P D vwCl [(mo, .inr (7, [.ref mo_now, .ref mo_kept, .ref mo_isKept, .ref mo_refused, .long mo_above, .long mo_below, .int mo_fewest, .int mo_manyGiven, .int mo_firstGiven, .int mo_secondGiven, .ref mo_clashWith, .ref mo_row, .int mo_rowLong, .ref mo_least, .ref mo_slips, .ref mo_left, .ref mo_bestRow, .ref mo_tryRow, .int mo_leastSlips, .ref mo_moments, .ref mo_bytes, .int mo_bytesLong, .int mo_tokenAt, .int mo_tokenLong, .int mo_token, .int mo_value, .ref mo_next, .ref mo_values])), (mo_now, .inl (cI, 221, .inl f_mo_now)), (mo_refused, .inl (cI, 3, .inl f_mo_refused))] H := hP
        have hD : va_D (va_A (w_M_hand cI cZ cP mo mo_now f_mo_now mo_kept mo_isKept mo_refused f_mo_refused mo_above mo_below mo_fewest mo_manyGiven mo_firstGiven mo_secondGiven mo_clashWith mo_row mo_rowLong mo_least mo_slips mo_left mo_bestRow mo_tryRow mo_leastSlips mo_moments mo_bytes mo_bytesLong mo_tokenAt mo_tokenLong mo_token mo_value mo_next mo_values p0 p1 p2 p3) sz) [(mo, .inr (7, [.ref mo_now, .ref mo_kept, .ref mo_isKept, .ref mo_refused, .long mo_above, .long mo_below, .int mo_fewest, .int mo_manyGiven, .int mo_firstGiven, .int mo_secondGiven, .ref mo_clashWith, .ref mo_row, .int mo_rowLong, .ref mo_least, .ref mo_slips, .ref mo_left, .ref mo_bestRow, .ref mo_tryRow, .int mo_leastSlips, .ref mo_moments, .ref mo_bytes, .int mo_bytesLong, .int mo_tokenAt, .int mo_tokenLong, .int mo_token, .int mo_value, .ref mo_next, .ref mo_values])), (mo_now, .inl (cI, 221, .inl f_mo_now)), (mo_refused, .inl (cI, 3, .inl f_mo_refused))] := hD
        rcases Classical.em (1 ≤ p3 ∧ p3 ≤ 9) with d38 | d38
        · rw [if_pos d38] at h38; subst h38
          have w38ab : rg p3 1 2147483647 := rg_leR d38.1 (rg_of (by decide) : rg (1 : Int32) 1 1) (rg_any p3) (by decide)
          have w38ba : rg p3 1 9 := rg_leL d38.2 w38ab (rg_of (by decide) : rg (9 : Int32) 9 9) (by decide)
          refine lv_if_ne (tgt := 51) hx hb dX7_hand_41 (by decide) (fun c41 => ?_) (fun c41 => (rg_eqF c41 (rg_of (by decide) : rg (1 : Int32) 1 1) (rg_of (by decide) : rg (0 : Int32) 0 0) (by decide)).elim)
          refine lv_aload_n hx hb dX7_hand_51 rfl (lv_at hl 0 rfl) ?_
          refine va_get (D := D) (ci := 7) (v := .ref mo_now) (C := RX7) (T := TX7) (N := 28) hx hb ht inX7 hown hK hP 0 rfl rfl 0 (Nat.le_of_ble_eq_true rfl) (ht _ kw_904) (fun _ h9 => h9) rfl dX7_hand_52 ?_
          refine lv_iconst (v := 4) hx hb dX7_hand_55 (by decide) ?_
          refine lv_iconst (v := 3) hx hb dX7_hand_56 (by decide) ?_
          refine lv_iload_n hx hb dX7_hand_57 rfl (lv_at hl 1 rfl) ?_
          refine lv_imul hx hb dX7_hand_58 ?_
          refine lv_topi (fun v58 e_v58 => ?_)
          obtain ⟨r_v58, q_v58⟩ := rg_mul (l := 0) (h := 9) e_v58 (rg_of (by decide) : rg (3 : Int32) 3 3) z1_0 (by decide)
          refine lv_iadd hx hb dX7_hand_59 ?_
          refine lv_topi (fun v59 e_v59 => ?_)
          obtain ⟨r_v59, q_v59⟩ := rg_add (l := 4) (h := 13) e_v59 (rg_of (by decide) : rg (4 : Int32) 4 4) r_v58 (by decide)
          refine lv_iconst (v := 0) hx hb dX7_hand_60 (by decide) ?_
          refine lv_iadd hx hb dX7_hand_61 ?_
          refine lv_topi (fun v61 e_v61 => ?_)
          obtain ⟨r_v61, q_v61⟩ := rg_add (l := 4) (h := 13) e_v61 r_v59 (rg_of (by decide) : rg (0 : Int32) 0 0) (by decide)
          refine va_iald hx hb hK hP 1 0 rfl rfl (rg_in r_v61 (by decide)) dX7_hand_62 ?_
          refine lv_topi (fun v62 e_v62 => ?_)
          refine lv_istore (lv' := [(5, .int v62), (0, .ref mo), (1, .int p0), (2, .int p1), (3, .int p2), (4, .int p3)]) hx hb dX7_hand_63 hl (by decide) rfl (fun ls hl => ?_)
          refine lv_aload_n hx hb dX7_hand_65 rfl (lv_at hl 1 rfl) ?_
          refine va_get (D := D) (ci := 7) (v := .ref mo_now) (C := RX7) (T := TX7) (N := 28) hx hb ht inX7 hown hK hP 0 rfl rfl 0 (Nat.le_of_ble_eq_true rfl) (ht _ kw_904) (fun _ h9 => h9) rfl dX7_hand_66 ?_
          refine lv_iload_n hx hb dX7_hand_69 rfl (lv_at hl 2 rfl) ?_
          refine lv_iload_n hx hb dX7_hand_70 rfl (lv_at hl 3 rfl) ?_
          refine lv_iload_n hx hb dX7_hand_71 rfl (lv_at hl 4 rfl) ?_
          refine lv_iload hx hb dX7_hand_72 (lv_at hl 5 rfl) ?_
          refine q_Sv (wr := [(mo, .inr (7, [.ref mo_now, .ref mo_kept, .ref mo_isKept, .ref mo_refused, .long mo_above, .long mo_below, .int mo_fewest, .int mo_manyGiven, .int mo_firstGiven, .int mo_secondGiven, .ref mo_clashWith, .ref mo_row, .int mo_rowLong, .ref mo_least, .ref mo_slips, .ref mo_left, .ref mo_bestRow, .ref mo_tryRow, .int mo_leastSlips, .ref mo_moments, .ref mo_bytes, .int mo_bytesLong, .int mo_tokenAt, .int mo_tokenLong, .int mo_token, .int mo_value, .ref mo_next, .ref mo_values])), (mo_refused, .inl (cI, 3, .inl f_mo_refused))]) [1] [0, 2] hX hE hK hP hD hS hA hl.1 lk_X7_88 (c_M_layHand l D cI cZ cP sa mo_now f_mo_now p0 p1 p2 p3 z1_0 h_f_mo_now _) rfl rfl rfl rfl (by decide) rfl rfl (Nat.le_of_ble_eq_true rfl) rfl rfl ⟨Nat.le_of_ble_eq_true rfl, Nat.le_of_ble_eq_true rfl⟩ ⟨Nat.le_of_ble_eq_true rfl, Nat.le_of_ble_eq_true rfl⟩ dX7_hand_74 (fun u74_0 H locs h74 hP hD hS => ?_)
          have k74_u74_0 := h74
          have hP : va_P D vwCl [(mo, .inr (7, [.ref mo_now, .ref mo_kept, .ref mo_isKept, .ref mo_refused, .long mo_above, .long mo_below, .int mo_fewest, .int mo_manyGiven, .int mo_firstGiven, .int mo_secondGiven, .ref mo_clashWith, .ref mo_row, .int mo_rowLong, .ref mo_least, .ref mo_slips, .ref mo_left, .ref mo_bestRow, .ref mo_tryRow, .int mo_leastSlips, .ref mo_moments, .ref mo_bytes, .int mo_bytesLong, .int mo_tokenAt, .int mo_tokenLong, .int mo_token, .int mo_value, .ref mo_next, .ref mo_values])), (mo_refused, .inl (cI, 3, .inl f_mo_refused)), (mo_now, .inl (cI, 221, .inl u74_0))] H := hP
          have hD : va_D (va_A (w_M_hand cI cZ cP mo mo_now f_mo_now mo_kept mo_isKept mo_refused f_mo_refused mo_above mo_below mo_fewest mo_manyGiven mo_firstGiven mo_secondGiven mo_clashWith mo_row mo_rowLong mo_least mo_slips mo_left mo_bestRow mo_tryRow mo_leastSlips mo_moments mo_bytes mo_bytesLong mo_tokenAt mo_tokenLong mo_token mo_value mo_next mo_values p0 p1 p2 p3) sz) [(mo, .inr (7, [.ref mo_now, .ref mo_kept, .ref mo_isKept, .ref mo_refused, .long mo_above, .long mo_below, .int mo_fewest, .int mo_manyGiven, .int mo_firstGiven, .int mo_secondGiven, .ref mo_clashWith, .ref mo_row, .int mo_rowLong, .ref mo_least, .ref mo_slips, .ref mo_left, .ref mo_bestRow, .ref mo_tryRow, .int mo_leastSlips, .ref mo_moments, .ref mo_bytes, .int mo_bytesLong, .int mo_tokenAt, .int mo_tokenLong, .int mo_token, .int mo_value, .ref mo_next, .ref mo_values])), (mo_refused, .inl (cI, 3, .inl f_mo_refused)), (mo_now, .inl (cI, 221, .inl u74_0))] := hD
          refine lv_iload hx hb dX7_hand_77 (lv_at hl 0 rfl) ?_
          exact q_iret hX hr hlk (u74_0, f_mo_refused) k74_u74_0 (hP.sub [0, 2, 1] rfl) (hD.sub [0, 2, 1] (by decide) rfl) hS dX7_hand_79
        · rw [if_neg d38] at h38; subst h38
          refine lv_if_ne (tgt := 51) hx hb dX7_hand_41 (by decide) (fun c41 => absurd rfl c41) (fun c41 => ?_)
          exact jp_44 () h_mo_rowLong h_mo_bytesLong h_mo_tokenAt h_mo_tokenLong h_f_mo_now _ _ _ hP hD hS (lv_sub hl [0, 1, 2, 3, 4] rfl)
      · rw [if_neg d25] at h25; subst h25
        refine lv_if_eq (tgt := 44) hx hb dX7_hand_28 (by decide) (fun c28 => ?_) (fun c28 => absurd rfl c28)
        exact jp_44 () h_mo_rowLong h_mo_bytesLong h_mo_tokenAt h_mo_tokenLong h_f_mo_now _ _ _ hP hD hS (lv_sub hl [0, 1, 2, 3, 4] rfl)
    · rw [if_neg d13] at h13; subst h13
      refine lv_if_eq (tgt := 44) hx hb dX7_hand_16 (by decide) (fun c16 => ?_) (fun c16 => absurd rfl c16)
      exact jp_44 () h_mo_rowLong h_mo_bytesLong h_mo_tokenAt h_mo_tokenLong h_f_mo_now _ _ _ hP hD hS (lv_sub hl [0, 1, 2, 3, 4] rfl)
abbrev w_M_kindOf (cI cZ cP : ClassId) (mo : Nat) (mo_now : Nat) (f_mo_now : Nat → Int32) (mo_kept : Nat) (mo_isKept : Nat) (mo_refused : Nat) (mo_above : Int64) (mo_below : Int64) (mo_fewest : Int32) (mo_manyGiven : Int32) (mo_firstGiven : Int32) (mo_secondGiven : Int32) (mo_clashWith : Nat) (mo_row : Nat) (mo_rowLong : Int32) (mo_least : Nat) (mo_slips : Nat) (mo_left : Nat) (mo_bestRow : Nat) (mo_tryRow : Nat) (mo_leastSlips : Int32) (mo_moments : Nat) (mo_bytes : Nat) (mo_bytesLong : Int32) (mo_tokenAt : Int32) (mo_tokenLong : Int32) (mo_token : Int32) (mo_value : Int32) (mo_next : Nat) (mo_values : Nat) (p0 : Int32) : va_W := [(mo, .inr (7, [.ref mo_now, .ref mo_kept, .ref mo_isKept, .ref mo_refused, .long mo_above, .long mo_below, .int mo_fewest, .int mo_manyGiven, .int mo_firstGiven, .int mo_secondGiven, .ref mo_clashWith, .ref mo_row, .int mo_rowLong, .ref mo_least, .ref mo_slips, .ref mo_left, .ref mo_bestRow, .ref mo_tryRow, .int mo_leastSlips, .ref mo_moments, .ref mo_bytes, .int mo_bytesLong, .int mo_tokenAt, .int mo_tokenLong, .int mo_token, .int mo_value, .ref mo_next, .ref mo_values])), (mo_now, .inl (cI, 221, .inl f_mo_now))]
set_option maxHeartbeats 4000000 in
set_option maxRecDepth 100000 in
theorem c_M_kindOf (l : Launch) (D : va_G) (cI cZ cP : ClassId) (sa : Nat → Nat) (mo : Nat) (mo_now : Nat) (f_mo_now : Nat → Int32) (mo_kept : Nat) (mo_isKept : Nat) (mo_refused : Nat) (mo_above : Int64) (mo_below : Int64) (mo_fewest : Int32) (mo_manyGiven : Int32) (mo_firstGiven : Int32) (mo_secondGiven : Int32) (mo_clashWith : Nat) (mo_row : Nat) (mo_rowLong : Int32) (mo_least : Nat) (mo_slips : Nat) (mo_left : Nat) (mo_bestRow : Nat) (mo_tryRow : Nat) (mo_leastSlips : Int32) (mo_moments : Nat) (mo_bytes : Nat) (mo_bytesLong : Int32) (mo_tokenAt : Int32) (mo_tokenLong : Int32) (mo_token : Int32) (mo_value : Int32) (mo_next : Nat) (mo_values : Nat) (p0 : Int32) (h_mo_rowLong : rg mo_rowLong 0 12) (h_mo_bytesLong : rg mo_bytesLong 0 150) (h_mo_tokenAt : rg mo_tokenAt 0 150) (h_mo_tokenLong : rg mo_tokenLong 0 150) (h_p0 : rg p0 (-1) 3) (h_f_mo_now : okN f_mo_now) (sz : Nat) : Met l yX7_kindOf (qW yX7_kindOf cX7_kindOf 2 (some .int)) ({ frames := 0, cells := 0, slots := 0, locals := 0 } : Room) (qP D (TY cI cZ cP) sa [.ref mo, .int p0] (w_M_kindOf cI cZ cP mo mo_now f_mo_now mo_kept mo_isKept mo_refused mo_above mo_below mo_fewest mo_manyGiven mo_firstGiven mo_secondGiven mo_clashWith mo_row mo_rowLong mo_least mo_slips mo_left mo_bestRow mo_tryRow mo_leastSlips mo_moments mo_bytes mo_bytesLong mo_tokenAt mo_tokenLong mo_token mo_value mo_next mo_values p0) sz) (qQi D (w_M_kindOf cI cZ cP mo mo_now f_mo_now mo_kept mo_isKept mo_refused mo_above mo_below mo_fewest mo_manyGiven mo_firstGiven mo_secondGiven mo_clashWith mo_row mo_rowLong mo_least mo_slips mo_left mo_bestRow mo_tryRow mo_leastSlips mo_moments mo_bytes mo_bytesLong mo_tokenAt mo_tokenLong mo_token mo_value mo_next mo_values p0) sz (fun (r : Int32) (u : Unit) => True) (fun u : Unit => [(mo, .inr (7, [.ref mo_now, .ref mo_kept, .ref mo_isKept, .ref mo_refused, .long mo_above, .long mo_below, .int mo_fewest, .int mo_manyGiven, .int mo_firstGiven, .int mo_secondGiven, .ref mo_clashWith, .ref mo_row, .int mo_rowLong, .ref mo_least, .ref mo_slips, .ref mo_left, .ref mo_bestRow, .ref mo_tryRow, .int mo_leastSlips, .ref mo_moments, .ref mo_bytes, .int mo_bytesLong, .int mo_tokenAt, .int mo_tokenLong, .int mo_token, .int mo_value, .ref mo_next, .ref mo_values])), (mo_now, .inl (cI, 221, .inl f_mo_now))])) 0 0 (va_A (w_M_kindOf cI cZ cP mo mo_now f_mo_now mo_kept mo_isKept mo_refused mo_above mo_below mo_fewest mo_manyGiven mo_firstGiven mo_secondGiven mo_clashWith mo_row mo_rowLong mo_least mo_slips mo_left mo_bestRow mo_tryRow mo_leastSlips mo_moments mo_bytes mo_bytesLong mo_tokenAt mo_tokenLong mo_token mo_value mo_next mo_values p0) sz) := by
  refine q_enter (by decide) (Nat.le_of_ble_eq_true rfl) ?_
  intro p e s m below meth c ls hX hr hlk hnm hE hK hP hD hS hA hl
  obtain ⟨hx, hb, hml, hown, ht⟩ := id hX
  have hl : lv_has ls 2 [(0, .ref mo), (1, .int p0)] := hl
  refine lv_aload_n hx hb dX7_kindOf_0 rfl (lv_at hl 0 rfl) ?_
  refine va_get (D := D) (ci := 7) (v := .ref mo_now) (C := RX7) (T := TX7) (N := 28) hx hb ht inX7 hown hK hP 0 rfl rfl 0 (Nat.le_of_ble_eq_true rfl) (ht _ kw_904) (fun _ h9 => h9) rfl dX7_kindOf_1 ?_
  refine lv_iconst (v := 4) hx hb dX7_kindOf_4 (by decide) ?_
  refine lv_iconst (v := 3) hx hb dX7_kindOf_5 (by decide) ?_
  refine lv_iload_n hx hb dX7_kindOf_6 rfl (lv_at hl 1 rfl) ?_
  refine lv_imul hx hb dX7_kindOf_7 ?_
  refine lv_topi (fun v7 e_v7 => ?_)
  obtain ⟨r_v7, q_v7⟩ := rg_mul (l := (-3)) (h := 9) e_v7 (rg_of (by decide) : rg (3 : Int32) 3 3) h_p0 (by decide)
  refine lv_iadd hx hb dX7_kindOf_8 ?_
  refine lv_topi (fun v8 e_v8 => ?_)
  obtain ⟨r_v8, q_v8⟩ := rg_add (l := 1) (h := 13) e_v8 (rg_of (by decide) : rg (4 : Int32) 4 4) r_v7 (by decide)
  refine lv_iconst (v := 0) hx hb dX7_kindOf_9 (by decide) ?_
  refine lv_iadd hx hb dX7_kindOf_10 ?_
  refine lv_topi (fun v10 e_v10 => ?_)
  obtain ⟨r_v10, q_v10⟩ := rg_add (l := 1) (h := 13) e_v10 r_v8 (rg_of (by decide) : rg (0 : Int32) 0 0) (by decide)
  refine va_iald hx hb hK hP 1 0 rfl rfl (rg_in r_v10 (by decide)) dX7_kindOf_11 ?_
  refine lv_topi (fun v11 e_v11 => ?_)
  exact q_iret hX hr hlk () trivial hP hD hS dX7_kindOf_12
abbrev w_M_reaches (cI cZ cP : ClassId) (mo : Nat) (mo_now : Nat) (f_mo_now : Nat → Int32) (mo_kept : Nat) (mo_isKept : Nat) (mo_refused : Nat) (mo_above : Int64) (mo_below : Int64) (mo_fewest : Int32) (mo_manyGiven : Int32) (mo_firstGiven : Int32) (mo_secondGiven : Int32) (mo_clashWith : Nat) (mo_row : Nat) (mo_rowLong : Int32) (mo_least : Nat) (mo_slips : Nat) (mo_left : Nat) (mo_bestRow : Nat) (mo_tryRow : Nat) (mo_leastSlips : Int32) (mo_moments : Nat) (mo_bytes : Nat) (mo_bytesLong : Int32) (mo_tokenAt : Int32) (mo_tokenLong : Int32) (mo_token : Int32) (mo_value : Int32) (mo_next : Nat) (mo_values : Nat) (p0 : Int32) : va_W := [(mo, .inr (7, [.ref mo_now, .ref mo_kept, .ref mo_isKept, .ref mo_refused, .long mo_above, .long mo_below, .int mo_fewest, .int mo_manyGiven, .int mo_firstGiven, .int mo_secondGiven, .ref mo_clashWith, .ref mo_row, .int mo_rowLong, .ref mo_least, .ref mo_slips, .ref mo_left, .ref mo_bestRow, .ref mo_tryRow, .int mo_leastSlips, .ref mo_moments, .ref mo_bytes, .int mo_bytesLong, .int mo_tokenAt, .int mo_tokenLong, .int mo_token, .int mo_value, .ref mo_next, .ref mo_values])), (mo_now, .inl (cI, 221, .inl f_mo_now))]
set_option maxHeartbeats 4000000 in
set_option maxRecDepth 100000 in
theorem c_M_reaches (l : Launch) (D : va_G) (cI cZ cP : ClassId) (sa : Nat → Nat) (mo : Nat) (mo_now : Nat) (f_mo_now : Nat → Int32) (mo_kept : Nat) (mo_isKept : Nat) (mo_refused : Nat) (mo_above : Int64) (mo_below : Int64) (mo_fewest : Int32) (mo_manyGiven : Int32) (mo_firstGiven : Int32) (mo_secondGiven : Int32) (mo_clashWith : Nat) (mo_row : Nat) (mo_rowLong : Int32) (mo_least : Nat) (mo_slips : Nat) (mo_left : Nat) (mo_bestRow : Nat) (mo_tryRow : Nat) (mo_leastSlips : Int32) (mo_moments : Nat) (mo_bytes : Nat) (mo_bytesLong : Int32) (mo_tokenAt : Int32) (mo_tokenLong : Int32) (mo_token : Int32) (mo_value : Int32) (mo_next : Nat) (mo_values : Nat) (p0 : Int32) (h_mo_rowLong : rg mo_rowLong 0 12) (h_mo_bytesLong : rg mo_bytesLong 0 150) (h_mo_tokenAt : rg mo_tokenAt 0 150) (h_mo_tokenLong : rg mo_tokenLong 0 150) (h_p0 : rg p0 (-1) 3) (h_f_mo_now : okN f_mo_now) (sz : Nat) : Met l yX7_reaches (qW yX7_reaches cX7_reaches 4 (some .int)) ({ frames := 1, cells := 0, slots := 0, locals := 21 } : Room) (qP D (TY cI cZ cP) sa [.ref mo, .int p0] (w_M_reaches cI cZ cP mo mo_now f_mo_now mo_kept mo_isKept mo_refused mo_above mo_below mo_fewest mo_manyGiven mo_firstGiven mo_secondGiven mo_clashWith mo_row mo_rowLong mo_least mo_slips mo_left mo_bestRow mo_tryRow mo_leastSlips mo_moments mo_bytes mo_bytesLong mo_tokenAt mo_tokenLong mo_token mo_value mo_next mo_values p0) sz) (qQi D (w_M_reaches cI cZ cP mo mo_now f_mo_now mo_kept mo_isKept mo_refused mo_above mo_below mo_fewest mo_manyGiven mo_firstGiven mo_secondGiven mo_clashWith mo_row mo_rowLong mo_least mo_slips mo_left mo_bestRow mo_tryRow mo_leastSlips mo_moments mo_bytes mo_bytesLong mo_tokenAt mo_tokenLong mo_token mo_value mo_next mo_values p0) sz (fun (r : Int32) (u : Unit) => True) (fun u : Unit => [(mo, .inr (7, [.ref mo_now, .ref mo_kept, .ref mo_isKept, .ref mo_refused, .long mo_above, .long mo_below, .int mo_fewest, .int mo_manyGiven, .int mo_firstGiven, .int mo_secondGiven, .ref mo_clashWith, .ref mo_row, .int mo_rowLong, .ref mo_least, .ref mo_slips, .ref mo_left, .ref mo_bestRow, .ref mo_tryRow, .int mo_leastSlips, .ref mo_moments, .ref mo_bytes, .int mo_bytesLong, .int mo_tokenAt, .int mo_tokenLong, .int mo_token, .int mo_value, .ref mo_next, .ref mo_values])), (mo_now, .inl (cI, 221, .inl f_mo_now))])) 0 0 (va_A (w_M_reaches cI cZ cP mo mo_now f_mo_now mo_kept mo_isKept mo_refused mo_above mo_below mo_fewest mo_manyGiven mo_firstGiven mo_secondGiven mo_clashWith mo_row mo_rowLong mo_least mo_slips mo_left mo_bestRow mo_tryRow mo_leastSlips mo_moments mo_bytes mo_bytesLong mo_tokenAt mo_tokenLong mo_token mo_value mo_next mo_values p0) sz) := by
  refine q_enter (by decide) (Nat.le_of_ble_eq_true rfl) ?_
  intro p e s m below meth c ls hX hr hlk hnm hE hK hP hD hS hA hl
  obtain ⟨hx, hb, hml, hown, ht⟩ := id hX
  have hl : lv_has ls 4 [(0, .ref mo), (1, .int p0)] := hl
  have jp_36 : ∀ (v11 : Int32) (j36_s0 : Int32), rg p0 (-1) 3 → rg j36_s0 0 1 → rg mo_rowLong 0 12 → rg mo_bytesLong 0 150 → rg mo_tokenAt 0 150 → rg mo_tokenLong 0 150 → okN f_mo_now → ∀ (H : Heap) (locs : List Loc) (ls : Array Slot), va_P D vwCl [(mo, .inr (7, [.ref mo_now, .ref mo_kept, .ref mo_isKept, .ref mo_refused, .long mo_above, .long mo_below, .int mo_fewest, .int mo_manyGiven, .int mo_firstGiven, .int mo_secondGiven, .ref mo_clashWith, .ref mo_row, .int mo_rowLong, .ref mo_least, .ref mo_slips, .ref mo_left, .ref mo_bestRow, .ref mo_tryRow, .int mo_leastSlips, .ref mo_moments, .ref mo_bytes, .int mo_bytesLong, .int mo_tokenAt, .int mo_tokenLong, .int mo_token, .int mo_value, .ref mo_next, .ref mo_values])), (mo_now, .inl (cI, 221, .inl f_mo_now))] H → va_D (va_A (w_M_reaches cI cZ cP mo mo_now f_mo_now mo_kept mo_isKept mo_refused mo_above mo_below mo_fewest mo_manyGiven mo_firstGiven mo_secondGiven mo_clashWith mo_row mo_rowLong mo_least mo_slips mo_left mo_bestRow mo_tryRow mo_leastSlips mo_moments mo_bytes mo_bytesLong mo_tokenAt mo_tokenLong mo_token mo_value mo_next mo_values p0) sz) [(mo, .inr (7, [.ref mo_now, .ref mo_kept, .ref mo_isKept, .ref mo_refused, .long mo_above, .long mo_below, .int mo_fewest, .int mo_manyGiven, .int mo_firstGiven, .int mo_secondGiven, .ref mo_clashWith, .ref mo_row, .int mo_rowLong, .ref mo_least, .ref mo_slips, .ref mo_left, .ref mo_bestRow, .ref mo_tryRow, .int mo_leastSlips, .ref mo_moments, .ref mo_bytes, .int mo_bytesLong, .int mo_tokenAt, .int mo_tokenLong, .int mo_token, .int mo_value, .ref mo_next, .ref mo_values])), (mo_now, .inl (cI, 221, .inl f_mo_now))] → va_S (va_A (w_M_reaches cI cZ cP mo mo_now f_mo_now mo_kept mo_isKept mo_refused mo_above mo_below mo_fewest mo_manyGiven mo_firstGiven mo_secondGiven mo_clashWith mo_row mo_rowLong mo_least mo_slips mo_left mo_bestRow mo_tryRow mo_leastSlips mo_moments mo_bytes mo_bytesLong mo_tokenAt mo_tokenLong mo_token mo_value mo_next mo_values p0) sz) s.heap H locs → lv_has ls 4 [(0, .ref mo), (1, .int p0), (2, .int v11)] → W p l e ({ frames := 1, cells := 0, slots := 0, locals := 21 } : Room) s m ([.ref mo, .int p0] : List Value).toArray below meth c H locs 0 0 (MQ below (qQi D (w_M_reaches cI cZ cP mo mo_now f_mo_now mo_kept mo_isKept mo_refused mo_above mo_below mo_fewest mo_manyGiven mo_firstGiven mo_secondGiven mo_clashWith mo_row mo_rowLong mo_least mo_slips mo_left mo_bestRow mo_tryRow mo_leastSlips mo_moments mo_bytes mo_bytesLong mo_tokenAt mo_tokenLong mo_token mo_value mo_next mo_values p0) sz (fun (r : Int32) (u : Unit) => True) (fun u : Unit => [(mo, .inr (7, [.ref mo_now, .ref mo_kept, .ref mo_isKept, .ref mo_refused, .long mo_above, .long mo_below, .int mo_fewest, .int mo_manyGiven, .int mo_firstGiven, .int mo_secondGiven, .ref mo_clashWith, .ref mo_row, .int mo_rowLong, .ref mo_least, .ref mo_slips, .ref mo_left, .ref mo_bestRow, .ref mo_tryRow, .int mo_leastSlips, .ref mo_moments, .ref mo_bytes, .int mo_bytesLong, .int mo_tokenAt, .int mo_tokenLong, .int mo_token, .int mo_value, .ref mo_next, .ref mo_values])), (mo_now, .inl (cI, 221, .inl f_mo_now))])) ([.ref mo, .int p0] : List Value).toArray s 0 0 (va_A (w_M_reaches cI cZ cP mo mo_now f_mo_now mo_kept mo_isKept mo_refused mo_above mo_below mo_fewest mo_manyGiven mo_firstGiven mo_secondGiven mo_clashWith mo_row mo_rowLong mo_least mo_slips mo_left mo_bestRow mo_tryRow mo_leastSlips mo_moments mo_bytes mo_bytesLong mo_tokenAt mo_tokenLong mo_token mo_value mo_next mo_values p0) sz)) (F0 m 36 ls [.int j36_s0]) := by
    intro v11 j36_s0 g36_p0 g36_j36_s0 g36_mo_rowLong g36_mo_bytesLong g36_mo_tokenAt g36_mo_tokenLong g36_f_mo_now H locs ls hP hD hS hl
    refine lv_istore_n (lv' := [(3, .int j36_s0), (0, .ref mo), (1, .int p0), (2, .int v11)]) hx hb dX7_reaches_36 rfl hl (by decide) rfl (fun ls hl => ?_)
    refine lv_iload_n hx hb dX7_reaches_37 rfl (lv_at hl 0 rfl) ?_
    refine lv_if_ne (tgt := 45) hx hb dX7_reaches_38 (by decide) (fun c38 => ?_) (fun c38 => ?_)
    · have r38ta : rg j36_s0 1 1 := rg_neL c38 g36_j36_s0 (rg_of (by decide) : rg (0 : Int32) 0 0) (by decide)
      refine lv_iload_n hx hb dX7_reaches_45 rfl (lv_at hl 3 rfl) ?_
      refine lv_iconst (v := 2) hx hb dX7_reaches_46 (by decide) ?_
      refine lv_icmp_ge (tgt := 54) hx hb dX7_reaches_47 (by decide) (fun c47 => ?_) (fun c47 => ?_)
      · have r47tb : rg v11 2 2147483647 := rg_leR c47 (rg_of (by decide) : rg (2 : Int32) 2 2) (rg_any v11) (by decide)
        refine lv_iload_n hx hb dX7_reaches_54 rfl (lv_at hl 3 rfl) ?_
        refine lv_iconst (v := 2) hx hb dX7_reaches_55 (by decide) ?_
        refine lv_isub hx hb dX7_reaches_56 ?_
        refine lv_topi (fun v56 e_v56 => ?_)
        obtain ⟨r_v56, q_v56⟩ := rg_sub (l := 0) (h := 2147483645) e_v56 r47tb (rg_of (by decide) : rg (2 : Int32) 2 2) (by decide)
        have i_v56 := in_dn q_v56 (rg_of (by decide) : rg (2 : Int32) 2 2) (by decide)
        exact q_iret hX hr hlk () trivial hP hD hS dX7_reaches_57
      · have r47fa : rg v11 (-2147483648) 1 := rg_ltL (Int32.not_le.mp c47) (rg_any v11) (rg_of (by decide) : rg (2 : Int32) 2 2) (by decide)
        refine lv_iconst (v := 0) hx hb dX7_reaches_50 (by decide) ?_
        refine lv_goto (tgt := 57) hx hb dX7_reaches_51 (by decide) ?_
        exact q_iret hX hr hlk () trivial hP hD hS dX7_reaches_57
    · have r38fa : rg j36_s0 0 0 := rg_eqL c38 g36_j36_s0 (rg_of (by decide) : rg (0 : Int32) 0 0) (by decide)
      refine lv_iload_n hx hb dX7_reaches_41 rfl (lv_at hl 3 rfl) ?_
      refine lv_goto (tgt := 57) hx hb dX7_reaches_42 (by decide) ?_
      exact q_iret hX hr hlk () trivial hP hD hS dX7_reaches_57
  have jp_31 : ∀ (v11 : Int32), rg p0 (-1) 3 → rg mo_rowLong 0 12 → rg mo_bytesLong 0 150 → rg mo_tokenAt 0 150 → rg mo_tokenLong 0 150 → okN f_mo_now → ∀ (H : Heap) (locs : List Loc) (ls : Array Slot), va_P D vwCl [(mo, .inr (7, [.ref mo_now, .ref mo_kept, .ref mo_isKept, .ref mo_refused, .long mo_above, .long mo_below, .int mo_fewest, .int mo_manyGiven, .int mo_firstGiven, .int mo_secondGiven, .ref mo_clashWith, .ref mo_row, .int mo_rowLong, .ref mo_least, .ref mo_slips, .ref mo_left, .ref mo_bestRow, .ref mo_tryRow, .int mo_leastSlips, .ref mo_moments, .ref mo_bytes, .int mo_bytesLong, .int mo_tokenAt, .int mo_tokenLong, .int mo_token, .int mo_value, .ref mo_next, .ref mo_values])), (mo_now, .inl (cI, 221, .inl f_mo_now))] H → va_D (va_A (w_M_reaches cI cZ cP mo mo_now f_mo_now mo_kept mo_isKept mo_refused mo_above mo_below mo_fewest mo_manyGiven mo_firstGiven mo_secondGiven mo_clashWith mo_row mo_rowLong mo_least mo_slips mo_left mo_bestRow mo_tryRow mo_leastSlips mo_moments mo_bytes mo_bytesLong mo_tokenAt mo_tokenLong mo_token mo_value mo_next mo_values p0) sz) [(mo, .inr (7, [.ref mo_now, .ref mo_kept, .ref mo_isKept, .ref mo_refused, .long mo_above, .long mo_below, .int mo_fewest, .int mo_manyGiven, .int mo_firstGiven, .int mo_secondGiven, .ref mo_clashWith, .ref mo_row, .int mo_rowLong, .ref mo_least, .ref mo_slips, .ref mo_left, .ref mo_bestRow, .ref mo_tryRow, .int mo_leastSlips, .ref mo_moments, .ref mo_bytes, .int mo_bytesLong, .int mo_tokenAt, .int mo_tokenLong, .int mo_token, .int mo_value, .ref mo_next, .ref mo_values])), (mo_now, .inl (cI, 221, .inl f_mo_now))] → va_S (va_A (w_M_reaches cI cZ cP mo mo_now f_mo_now mo_kept mo_isKept mo_refused mo_above mo_below mo_fewest mo_manyGiven mo_firstGiven mo_secondGiven mo_clashWith mo_row mo_rowLong mo_least mo_slips mo_left mo_bestRow mo_tryRow mo_leastSlips mo_moments mo_bytes mo_bytesLong mo_tokenAt mo_tokenLong mo_token mo_value mo_next mo_values p0) sz) s.heap H locs → lv_has ls 4 [(0, .ref mo), (1, .int p0), (2, .int v11)] → W p l e ({ frames := 1, cells := 0, slots := 0, locals := 21 } : Room) s m ([.ref mo, .int p0] : List Value).toArray below meth c H locs 0 0 (MQ below (qQi D (w_M_reaches cI cZ cP mo mo_now f_mo_now mo_kept mo_isKept mo_refused mo_above mo_below mo_fewest mo_manyGiven mo_firstGiven mo_secondGiven mo_clashWith mo_row mo_rowLong mo_least mo_slips mo_left mo_bestRow mo_tryRow mo_leastSlips mo_moments mo_bytes mo_bytesLong mo_tokenAt mo_tokenLong mo_token mo_value mo_next mo_values p0) sz (fun (r : Int32) (u : Unit) => True) (fun u : Unit => [(mo, .inr (7, [.ref mo_now, .ref mo_kept, .ref mo_isKept, .ref mo_refused, .long mo_above, .long mo_below, .int mo_fewest, .int mo_manyGiven, .int mo_firstGiven, .int mo_secondGiven, .ref mo_clashWith, .ref mo_row, .int mo_rowLong, .ref mo_least, .ref mo_slips, .ref mo_left, .ref mo_bestRow, .ref mo_tryRow, .int mo_leastSlips, .ref mo_moments, .ref mo_bytes, .int mo_bytesLong, .int mo_tokenAt, .int mo_tokenLong, .int mo_token, .int mo_value, .ref mo_next, .ref mo_values])), (mo_now, .inl (cI, 221, .inl f_mo_now))])) ([.ref mo, .int p0] : List Value).toArray s 0 0 (va_A (w_M_reaches cI cZ cP mo mo_now f_mo_now mo_kept mo_isKept mo_refused mo_above mo_below mo_fewest mo_manyGiven mo_firstGiven mo_secondGiven mo_clashWith mo_row mo_rowLong mo_least mo_slips mo_left mo_bestRow mo_tryRow mo_leastSlips mo_moments mo_bytes mo_bytesLong mo_tokenAt mo_tokenLong mo_token mo_value mo_next mo_values p0) sz)) (F0 m 31 ls []) := by
    intro v11 g31_p0 g31_mo_rowLong g31_mo_bytesLong g31_mo_tokenAt g31_mo_tokenLong g31_f_mo_now H locs ls hP hD hS hl
    refine lv_iconst (v := 1) hx hb dX7_reaches_31 (by decide) ?_
    refine lv_goto (tgt := 36) hx hb dX7_reaches_32 (by decide) ?_
    exact jp_36 v11 1 g31_p0 (rg_w (rg_of (by decide) : rg (1 : Int32) 1 1) (by decide)) g31_mo_rowLong g31_mo_bytesLong g31_mo_tokenAt g31_mo_tokenLong g31_f_mo_now _ _ _ hP hD hS (lv_sub hl [0, 1, 2] rfl)
  refine lv_aload_n hx hb dX7_reaches_0 rfl (lv_at hl 0 rfl) ?_
  refine va_get (D := D) (ci := 7) (v := .ref mo_now) (C := RX7) (T := TX7) (N := 28) hx hb ht inX7 hown hK hP 0 rfl rfl 0 (Nat.le_of_ble_eq_true rfl) (ht _ kw_904) (fun _ h9 => h9) rfl dX7_reaches_1 ?_
  refine lv_iconst (v := 4) hx hb dX7_reaches_4 (by decide) ?_
  refine lv_iconst (v := 3) hx hb dX7_reaches_5 (by decide) ?_
  refine lv_iload_n hx hb dX7_reaches_6 rfl (lv_at hl 1 rfl) ?_
  refine lv_imul hx hb dX7_reaches_7 ?_
  refine lv_topi (fun v7 e_v7 => ?_)
  obtain ⟨r_v7, q_v7⟩ := rg_mul (l := (-3)) (h := 9) e_v7 (rg_of (by decide) : rg (3 : Int32) 3 3) h_p0 (by decide)
  refine lv_iadd hx hb dX7_reaches_8 ?_
  refine lv_topi (fun v8 e_v8 => ?_)
  obtain ⟨r_v8, q_v8⟩ := rg_add (l := 1) (h := 13) e_v8 (rg_of (by decide) : rg (4 : Int32) 4 4) r_v7 (by decide)
  refine lv_iconst (v := 1) hx hb dX7_reaches_9 (by decide) ?_
  refine lv_iadd hx hb dX7_reaches_10 ?_
  refine lv_topi (fun v10 e_v10 => ?_)
  obtain ⟨r_v10, q_v10⟩ := rg_add (l := 2) (h := 14) e_v10 r_v8 (rg_of (by decide) : rg (1 : Int32) 1 1) (by decide)
  have i_v10 := in_up q_v10 (rg_of (by decide) : rg (1 : Int32) 1 1) (by decide)
  refine va_iald hx hb hK hP 1 0 rfl rfl (rg_in r_v10 (by decide)) dX7_reaches_11 ?_
  refine lv_topi (fun v11 e_v11 => ?_)
  refine lv_istore_n (lv' := [(2, .int v11), (0, .ref mo), (1, .int p0)]) hx hb dX7_reaches_12 rfl hl (by decide) rfl (fun ls hl => ?_)
  refine lv_aload_n hx hb dX7_reaches_13 rfl (lv_at hl 1 rfl) ?_
  refine lv_iload_n hx hb dX7_reaches_14 rfl (lv_at hl 2 rfl) ?_
  refine q_Vi (wr := []) [0, 1] [] hX hE hK hP hD hS hA hl.1 lk_X7_107 (c_M_kindOf l D cI cZ cP sa mo mo_now f_mo_now mo_kept mo_isKept mo_refused mo_above mo_below mo_fewest mo_manyGiven mo_firstGiven mo_secondGiven mo_clashWith mo_row mo_rowLong mo_least mo_slips mo_left mo_bestRow mo_tryRow mo_leastSlips mo_moments mo_bytes mo_bytesLong mo_tokenAt mo_tokenLong mo_token mo_value mo_next mo_values p0 h_mo_rowLong h_mo_bytesLong h_mo_tokenAt h_mo_tokenLong h_p0 h_f_mo_now _) rfl rfl rfl rfl (by decide) 0 7 rfl rfl rfl rfl (Nat.le_of_ble_eq_true rfl) rfl rfl ⟨Nat.le_of_ble_eq_true rfl, Nat.le_of_ble_eq_true rfl⟩ ⟨Nat.le_of_ble_eq_true rfl, Nat.le_of_ble_eq_true rfl⟩ dX7_reaches_15 (fun x15 _ H locs h15 hP hD hS => ?_)
  have hP : va_P D vwCl [(mo, .inr (7, [.ref mo_now, .ref mo_kept, .ref mo_isKept, .ref mo_refused, .long mo_above, .long mo_below, .int mo_fewest, .int mo_manyGiven, .int mo_firstGiven, .int mo_secondGiven, .ref mo_clashWith, .ref mo_row, .int mo_rowLong, .ref mo_least, .ref mo_slips, .ref mo_left, .ref mo_bestRow, .ref mo_tryRow, .int mo_leastSlips, .ref mo_moments, .ref mo_bytes, .int mo_bytesLong, .int mo_tokenAt, .int mo_tokenLong, .int mo_token, .int mo_value, .ref mo_next, .ref mo_values])), (mo_now, .inl (cI, 221, .inl f_mo_now))] H := hP
  have hD : va_D (va_A (w_M_reaches cI cZ cP mo mo_now f_mo_now mo_kept mo_isKept mo_refused mo_above mo_below mo_fewest mo_manyGiven mo_firstGiven mo_secondGiven mo_clashWith mo_row mo_rowLong mo_least mo_slips mo_left mo_bestRow mo_tryRow mo_leastSlips mo_moments mo_bytes mo_bytesLong mo_tokenAt mo_tokenLong mo_token mo_value mo_next mo_values p0) sz) [(mo, .inr (7, [.ref mo_now, .ref mo_kept, .ref mo_isKept, .ref mo_refused, .long mo_above, .long mo_below, .int mo_fewest, .int mo_manyGiven, .int mo_firstGiven, .int mo_secondGiven, .ref mo_clashWith, .ref mo_row, .int mo_rowLong, .ref mo_least, .ref mo_slips, .ref mo_left, .ref mo_bestRow, .ref mo_tryRow, .int mo_leastSlips, .ref mo_moments, .ref mo_bytes, .int mo_bytesLong, .int mo_tokenAt, .int mo_tokenLong, .int mo_token, .int mo_value, .ref mo_next, .ref mo_values])), (mo_now, .inl (cI, 221, .inl f_mo_now))] := hD
  refine lv_iconst (v := 3) hx hb dX7_reaches_18 (by decide) ?_
  refine lv_icmp_eq (tgt := 31) hx hb dX7_reaches_19 (by decide) (fun c19 => ?_) (fun c19 => ?_)
  · have r19ta : rg x15 3 3 := rg_eqL c19 (rg_any x15) (rg_of (by decide) : rg (3 : Int32) 3 3) (by decide)
    exact jp_31 v11 h_p0 h_mo_rowLong h_mo_bytesLong h_mo_tokenAt h_mo_tokenLong h_f_mo_now _ _ _ hP hD hS (lv_sub hl [1, 2, 0] rfl)
  · refine lv_aload_n hx hb dX7_reaches_22 rfl (lv_at hl 1 rfl) ?_
    refine lv_iload_n hx hb dX7_reaches_23 rfl (lv_at hl 2 rfl) ?_
    refine q_Vi (wr := []) [0, 1] [] hX hE hK hP hD hS hA hl.1 lk_X7_107 (c_M_kindOf l D cI cZ cP sa mo mo_now f_mo_now mo_kept mo_isKept mo_refused mo_above mo_below mo_fewest mo_manyGiven mo_firstGiven mo_secondGiven mo_clashWith mo_row mo_rowLong mo_least mo_slips mo_left mo_bestRow mo_tryRow mo_leastSlips mo_moments mo_bytes mo_bytesLong mo_tokenAt mo_tokenLong mo_token mo_value mo_next mo_values p0 h_mo_rowLong h_mo_bytesLong h_mo_tokenAt h_mo_tokenLong h_p0 h_f_mo_now _) rfl rfl rfl rfl (by decide) 0 7 rfl rfl rfl rfl (Nat.le_of_ble_eq_true rfl) rfl rfl ⟨Nat.le_of_ble_eq_true rfl, Nat.le_of_ble_eq_true rfl⟩ ⟨Nat.le_of_ble_eq_true rfl, Nat.le_of_ble_eq_true rfl⟩ dX7_reaches_24 (fun x24 _ H locs h24 hP hD hS => ?_)
    have hP : va_P D vwCl [(mo, .inr (7, [.ref mo_now, .ref mo_kept, .ref mo_isKept, .ref mo_refused, .long mo_above, .long mo_below, .int mo_fewest, .int mo_manyGiven, .int mo_firstGiven, .int mo_secondGiven, .ref mo_clashWith, .ref mo_row, .int mo_rowLong, .ref mo_least, .ref mo_slips, .ref mo_left, .ref mo_bestRow, .ref mo_tryRow, .int mo_leastSlips, .ref mo_moments, .ref mo_bytes, .int mo_bytesLong, .int mo_tokenAt, .int mo_tokenLong, .int mo_token, .int mo_value, .ref mo_next, .ref mo_values])), (mo_now, .inl (cI, 221, .inl f_mo_now))] H := hP
    have hD : va_D (va_A (w_M_reaches cI cZ cP mo mo_now f_mo_now mo_kept mo_isKept mo_refused mo_above mo_below mo_fewest mo_manyGiven mo_firstGiven mo_secondGiven mo_clashWith mo_row mo_rowLong mo_least mo_slips mo_left mo_bestRow mo_tryRow mo_leastSlips mo_moments mo_bytes mo_bytesLong mo_tokenAt mo_tokenLong mo_token mo_value mo_next mo_values p0) sz) [(mo, .inr (7, [.ref mo_now, .ref mo_kept, .ref mo_isKept, .ref mo_refused, .long mo_above, .long mo_below, .int mo_fewest, .int mo_manyGiven, .int mo_firstGiven, .int mo_secondGiven, .ref mo_clashWith, .ref mo_row, .int mo_rowLong, .ref mo_least, .ref mo_slips, .ref mo_left, .ref mo_bestRow, .ref mo_tryRow, .int mo_leastSlips, .ref mo_moments, .ref mo_bytes, .int mo_bytesLong, .int mo_tokenAt, .int mo_tokenLong, .int mo_token, .int mo_value, .ref mo_next, .ref mo_values])), (mo_now, .inl (cI, 221, .inl f_mo_now))] := hD
    refine lv_iconst (v := 5) hx hb dX7_reaches_27 (by decide) ?_
    refine lv_icmp_ne (tgt := 35) hx hb dX7_reaches_28 (by decide) (fun c28 => ?_) (fun c28 => ?_)
    · refine lv_iconst (v := 0) hx hb dX7_reaches_35 (by decide) ?_
      exact jp_36 v11 0 h_p0 (rg_w (rg_of (by decide) : rg (0 : Int32) 0 0) (by decide)) h_mo_rowLong h_mo_bytesLong h_mo_tokenAt h_mo_tokenLong h_f_mo_now _ _ _ hP hD hS (lv_sub hl [1, 2, 0] rfl)
    · have r28fa : rg x24 5 5 := rg_eqL c28 (rg_any x24) (rg_of (by decide) : rg (5 : Int32) 5 5) (by decide)
      exact jp_31 v11 h_p0 h_mo_rowLong h_mo_bytesLong h_mo_tokenAt h_mo_tokenLong h_f_mo_now _ _ _ hP hD hS (lv_sub hl [1, 2, 0] rfl)
abbrev w_M_moves (cI cZ cP : ClassId) (mo : Nat) (mo_now : Nat) (f_mo_now : Nat → Int32) (mo_kept : Nat) (mo_isKept : Nat) (mo_refused : Nat) (mo_above : Int64) (mo_below : Int64) (mo_fewest : Int32) (mo_manyGiven : Int32) (mo_firstGiven : Int32) (mo_secondGiven : Int32) (mo_clashWith : Nat) (mo_row : Nat) (mo_rowLong : Int32) (mo_least : Nat) (mo_slips : Nat) (mo_left : Nat) (mo_bestRow : Nat) (mo_tryRow : Nat) (mo_leastSlips : Int32) (mo_moments : Nat) (mo_bytes : Nat) (mo_bytesLong : Int32) (mo_tokenAt : Int32) (mo_tokenLong : Int32) (mo_token : Int32) (mo_value : Int32) (mo_next : Nat) (mo_values : Nat) (p0 : Int32) : va_W := [(mo, .inr (7, [.ref mo_now, .ref mo_kept, .ref mo_isKept, .ref mo_refused, .long mo_above, .long mo_below, .int mo_fewest, .int mo_manyGiven, .int mo_firstGiven, .int mo_secondGiven, .ref mo_clashWith, .ref mo_row, .int mo_rowLong, .ref mo_least, .ref mo_slips, .ref mo_left, .ref mo_bestRow, .ref mo_tryRow, .int mo_leastSlips, .ref mo_moments, .ref mo_bytes, .int mo_bytesLong, .int mo_tokenAt, .int mo_tokenLong, .int mo_token, .int mo_value, .ref mo_next, .ref mo_values])), (mo_now, .inl (cI, 221, .inl f_mo_now))]
set_option maxHeartbeats 4000000 in
set_option maxRecDepth 100000 in
theorem c_M_moves (l : Launch) (D : va_G) (cI cZ cP : ClassId) (sa : Nat → Nat) (mo : Nat) (mo_now : Nat) (f_mo_now : Nat → Int32) (mo_kept : Nat) (mo_isKept : Nat) (mo_refused : Nat) (mo_above : Int64) (mo_below : Int64) (mo_fewest : Int32) (mo_manyGiven : Int32) (mo_firstGiven : Int32) (mo_secondGiven : Int32) (mo_clashWith : Nat) (mo_row : Nat) (mo_rowLong : Int32) (mo_least : Nat) (mo_slips : Nat) (mo_left : Nat) (mo_bestRow : Nat) (mo_tryRow : Nat) (mo_leastSlips : Int32) (mo_moments : Nat) (mo_bytes : Nat) (mo_bytesLong : Int32) (mo_tokenAt : Int32) (mo_tokenLong : Int32) (mo_token : Int32) (mo_value : Int32) (mo_next : Nat) (mo_values : Nat) (p0 : Int32) (h_mo_rowLong : rg mo_rowLong 0 12) (h_mo_bytesLong : rg mo_bytesLong 0 150) (h_mo_tokenAt : rg mo_tokenAt 0 150) (h_mo_tokenLong : rg mo_tokenLong 0 150) (h_p0 : rg p0 (-1) 3) (h_f_mo_now : okN f_mo_now) (sz : Nat) : Met l yX7_moves (qW yX7_moves cX7_moves 3 (some .int)) ({ frames := 1, cells := 0, slots := 0, locals := 21 } : Room) (qP D (TY cI cZ cP) sa [.ref mo, .int p0] (w_M_moves cI cZ cP mo mo_now f_mo_now mo_kept mo_isKept mo_refused mo_above mo_below mo_fewest mo_manyGiven mo_firstGiven mo_secondGiven mo_clashWith mo_row mo_rowLong mo_least mo_slips mo_left mo_bestRow mo_tryRow mo_leastSlips mo_moments mo_bytes mo_bytesLong mo_tokenAt mo_tokenLong mo_token mo_value mo_next mo_values p0) sz) (qQi D (w_M_moves cI cZ cP mo mo_now f_mo_now mo_kept mo_isKept mo_refused mo_above mo_below mo_fewest mo_manyGiven mo_firstGiven mo_secondGiven mo_clashWith mo_row mo_rowLong mo_least mo_slips mo_left mo_bestRow mo_tryRow mo_leastSlips mo_moments mo_bytes mo_bytesLong mo_tokenAt mo_tokenLong mo_token mo_value mo_next mo_values p0) sz (fun (r : Int32) (u : Unit) => True) (fun u : Unit => [(mo, .inr (7, [.ref mo_now, .ref mo_kept, .ref mo_isKept, .ref mo_refused, .long mo_above, .long mo_below, .int mo_fewest, .int mo_manyGiven, .int mo_firstGiven, .int mo_secondGiven, .ref mo_clashWith, .ref mo_row, .int mo_rowLong, .ref mo_least, .ref mo_slips, .ref mo_left, .ref mo_bestRow, .ref mo_tryRow, .int mo_leastSlips, .ref mo_moments, .ref mo_bytes, .int mo_bytesLong, .int mo_tokenAt, .int mo_tokenLong, .int mo_token, .int mo_value, .ref mo_next, .ref mo_values])), (mo_now, .inl (cI, 221, .inl f_mo_now))])) 0 0 (va_A (w_M_moves cI cZ cP mo mo_now f_mo_now mo_kept mo_isKept mo_refused mo_above mo_below mo_fewest mo_manyGiven mo_firstGiven mo_secondGiven mo_clashWith mo_row mo_rowLong mo_least mo_slips mo_left mo_bestRow mo_tryRow mo_leastSlips mo_moments mo_bytes mo_bytesLong mo_tokenAt mo_tokenLong mo_token mo_value mo_next mo_values p0) sz) := by
  refine q_enter (by decide) (Nat.le_of_ble_eq_true rfl) ?_
  intro p e s m below meth c ls hX hr hlk hnm hE hK hP hD hS hA hl
  obtain ⟨hx, hb, hml, hown, ht⟩ := id hX
  have hl : lv_has ls 3 [(0, .ref mo), (1, .int p0)] := hl
  refine lv_aload_n hx hb dX7_moves_0 rfl (lv_at hl 0 rfl) ?_
  refine va_get (D := D) (ci := 7) (v := .ref mo_now) (C := RX7) (T := TX7) (N := 28) hx hb ht inX7 hown hK hP 0 rfl rfl 0 (Nat.le_of_ble_eq_true rfl) (ht _ kw_904) (fun _ h9 => h9) rfl dX7_moves_1 ?_
  refine lv_iconst (v := 4) hx hb dX7_moves_4 (by decide) ?_
  refine lv_iconst (v := 3) hx hb dX7_moves_5 (by decide) ?_
  refine lv_iload_n hx hb dX7_moves_6 rfl (lv_at hl 1 rfl) ?_
  refine lv_imul hx hb dX7_moves_7 ?_
  refine lv_topi (fun v7 e_v7 => ?_)
  obtain ⟨r_v7, q_v7⟩ := rg_mul (l := (-3)) (h := 9) e_v7 (rg_of (by decide) : rg (3 : Int32) 3 3) h_p0 (by decide)
  refine lv_iadd hx hb dX7_moves_8 ?_
  refine lv_topi (fun v8 e_v8 => ?_)
  obtain ⟨r_v8, q_v8⟩ := rg_add (l := 1) (h := 13) e_v8 (rg_of (by decide) : rg (4 : Int32) 4 4) r_v7 (by decide)
  refine lv_iconst (v := 2) hx hb dX7_moves_9 (by decide) ?_
  refine lv_iadd hx hb dX7_moves_10 ?_
  refine lv_topi (fun v10 e_v10 => ?_)
  obtain ⟨r_v10, q_v10⟩ := rg_add (l := 3) (h := 15) e_v10 r_v8 (rg_of (by decide) : rg (2 : Int32) 2 2) (by decide)
  have i_v10 := in_up q_v10 (rg_of (by decide) : rg (2 : Int32) 2 2) (by decide)
  refine va_iald hx hb hK hP 1 0 rfl rfl (rg_in r_v10 (by decide)) dX7_moves_11 ?_
  refine lv_topi (fun v11 e_v11 => ?_)
  refine lv_istore_n (lv' := [(2, .int v11), (0, .ref mo), (1, .int p0)]) hx hb dX7_moves_12 rfl hl (by decide) rfl (fun ls hl => ?_)
  refine lv_aload_n hx hb dX7_moves_13 rfl (lv_at hl 1 rfl) ?_
  refine lv_iload_n hx hb dX7_moves_14 rfl (lv_at hl 2 rfl) ?_
  refine q_Vi (wr := []) [0, 1] [] hX hE hK hP hD hS hA hl.1 lk_X7_107 (c_M_kindOf l D cI cZ cP sa mo mo_now f_mo_now mo_kept mo_isKept mo_refused mo_above mo_below mo_fewest mo_manyGiven mo_firstGiven mo_secondGiven mo_clashWith mo_row mo_rowLong mo_least mo_slips mo_left mo_bestRow mo_tryRow mo_leastSlips mo_moments mo_bytes mo_bytesLong mo_tokenAt mo_tokenLong mo_token mo_value mo_next mo_values p0 h_mo_rowLong h_mo_bytesLong h_mo_tokenAt h_mo_tokenLong h_p0 h_f_mo_now _) rfl rfl rfl rfl (by decide) 0 7 rfl rfl rfl rfl (Nat.le_of_ble_eq_true rfl) rfl rfl ⟨Nat.le_of_ble_eq_true rfl, Nat.le_of_ble_eq_true rfl⟩ ⟨Nat.le_of_ble_eq_true rfl, Nat.le_of_ble_eq_true rfl⟩ dX7_moves_15 (fun x15 _ H locs h15 hP hD hS => ?_)
  have hP : va_P D vwCl [(mo, .inr (7, [.ref mo_now, .ref mo_kept, .ref mo_isKept, .ref mo_refused, .long mo_above, .long mo_below, .int mo_fewest, .int mo_manyGiven, .int mo_firstGiven, .int mo_secondGiven, .ref mo_clashWith, .ref mo_row, .int mo_rowLong, .ref mo_least, .ref mo_slips, .ref mo_left, .ref mo_bestRow, .ref mo_tryRow, .int mo_leastSlips, .ref mo_moments, .ref mo_bytes, .int mo_bytesLong, .int mo_tokenAt, .int mo_tokenLong, .int mo_token, .int mo_value, .ref mo_next, .ref mo_values])), (mo_now, .inl (cI, 221, .inl f_mo_now))] H := hP
  have hD : va_D (va_A (w_M_moves cI cZ cP mo mo_now f_mo_now mo_kept mo_isKept mo_refused mo_above mo_below mo_fewest mo_manyGiven mo_firstGiven mo_secondGiven mo_clashWith mo_row mo_rowLong mo_least mo_slips mo_left mo_bestRow mo_tryRow mo_leastSlips mo_moments mo_bytes mo_bytesLong mo_tokenAt mo_tokenLong mo_token mo_value mo_next mo_values p0) sz) [(mo, .inr (7, [.ref mo_now, .ref mo_kept, .ref mo_isKept, .ref mo_refused, .long mo_above, .long mo_below, .int mo_fewest, .int mo_manyGiven, .int mo_firstGiven, .int mo_secondGiven, .ref mo_clashWith, .ref mo_row, .int mo_rowLong, .ref mo_least, .ref mo_slips, .ref mo_left, .ref mo_bestRow, .ref mo_tryRow, .int mo_leastSlips, .ref mo_moments, .ref mo_bytes, .int mo_bytesLong, .int mo_tokenAt, .int mo_tokenLong, .int mo_token, .int mo_value, .ref mo_next, .ref mo_values])), (mo_now, .inl (cI, 221, .inl f_mo_now))] := hD
  rcases Classical.em (x15 = 1) with t18_1 | t18_1
  · refine q_i (z := 1) t18_1 ?_
    refine lv_tableIn (off := 34) (tgt := 52) hx hb dX7_moves_18 (by decide) (by decide) rfl (by decide) ?_
    refine lv_iconst (v := 2) hx hb dX7_moves_52 (by decide) ?_
    refine lv_iload_n hx hb dX7_moves_53 rfl (lv_at hl 0 rfl) ?_
    refine lv_imul hx hb dX7_moves_54 ?_
    refine lv_topi (fun v54 e_v54 => ?_)
    exact q_iret hX hr hlk () trivial hP hD hS dX7_moves_55
  rcases Classical.em (x15 = 2) with t18_2 | t18_2
  · refine q_i (z := 2) t18_2 ?_
    refine lv_tableIn (off := 51) (tgt := 69) hx hb dX7_moves_18 (by decide) (by decide) rfl (by decide) ?_
    refine lv_iload_n hx hb dX7_moves_69 rfl (lv_at hl 0 rfl) ?_
    exact q_iret hX hr hlk () trivial hP hD hS dX7_moves_70
  rcases Classical.em (x15 = 3) with t18_3 | t18_3
  · refine q_i (z := 3) t18_3 ?_
    refine lv_tableIn (off := 38) (tgt := 56) hx hb dX7_moves_18 (by decide) (by decide) rfl (by decide) ?_
    refine lv_iload_n hx hb dX7_moves_56 rfl (lv_at hl 0 rfl) ?_
    refine lv_iconst (v := 2) hx hb dX7_moves_57 (by decide) ?_
    refine lv_icmp_ge (tgt := 65) hx hb dX7_moves_58 (by decide) (fun c58 => ?_) (fun c58 => ?_)
    · have r58tb : rg v11 2 2147483647 := rg_leR c58 (rg_of (by decide) : rg (2 : Int32) 2 2) (rg_any v11) (by decide)
      refine lv_iload_n hx hb dX7_moves_65 rfl (lv_at hl 0 rfl) ?_
      refine lv_iconst (v := 2) hx hb dX7_moves_66 (by decide) ?_
      refine lv_idiv hx hb dX7_moves_67 (by decide) ?_
      refine lv_topi (fun v67 e_v67 => ?_)
      have r_v67 : rg v67 0 1073741823 := rg_div2 e_v67 r58tb (rg_of (by decide) : rg (2 : Int32) 2 2) (by decide)
      exact q_iret hX hr hlk () trivial hP hD hS dX7_moves_68
    · have r58fa : rg v11 (-2147483648) 1 := rg_ltL (Int32.not_le.mp c58) (rg_any v11) (rg_of (by decide) : rg (2 : Int32) 2 2) (by decide)
      refine lv_iconst (v := 1) hx hb dX7_moves_61 (by decide) ?_
      refine lv_goto (tgt := 68) hx hb dX7_moves_62 (by decide) ?_
      exact q_iret hX hr hlk () trivial hP hD hS dX7_moves_68
  rcases Classical.em (x15 = 4) with t18_4 | t18_4
  · refine q_i (z := 4) t18_4 ?_
    refine lv_tableIn (off := 34) (tgt := 52) hx hb dX7_moves_18 (by decide) (by decide) rfl (by decide) ?_
    refine lv_iconst (v := 2) hx hb dX7_moves_52 (by decide) ?_
    refine lv_iload_n hx hb dX7_moves_53 rfl (lv_at hl 0 rfl) ?_
    refine lv_imul hx hb dX7_moves_54 ?_
    refine lv_topi (fun v54 e_v54 => ?_)
    exact q_iret hX hr hlk () trivial hP hD hS dX7_moves_55
  rcases Classical.em (x15 = 5) with t18_5 | t18_5
  · refine q_i (z := 5) t18_5 ?_
    refine lv_tableIn (off := 38) (tgt := 56) hx hb dX7_moves_18 (by decide) (by decide) rfl (by decide) ?_
    refine lv_iload_n hx hb dX7_moves_56 rfl (lv_at hl 0 rfl) ?_
    refine lv_iconst (v := 2) hx hb dX7_moves_57 (by decide) ?_
    refine lv_icmp_ge (tgt := 65) hx hb dX7_moves_58 (by decide) (fun c58 => ?_) (fun c58 => ?_)
    · have r58tb : rg v11 2 2147483647 := rg_leR c58 (rg_of (by decide) : rg (2 : Int32) 2 2) (rg_any v11) (by decide)
      refine lv_iload_n hx hb dX7_moves_65 rfl (lv_at hl 0 rfl) ?_
      refine lv_iconst (v := 2) hx hb dX7_moves_66 (by decide) ?_
      refine lv_idiv hx hb dX7_moves_67 (by decide) ?_
      refine lv_topi (fun v67 e_v67 => ?_)
      have r_v67 : rg v67 0 1073741823 := rg_div2 e_v67 r58tb (rg_of (by decide) : rg (2 : Int32) 2 2) (by decide)
      exact q_iret hX hr hlk () trivial hP hD hS dX7_moves_68
    · have r58fa : rg v11 (-2147483648) 1 := rg_ltL (Int32.not_le.mp c58) (rg_any v11) (rg_of (by decide) : rg (2 : Int32) 2 2) (by decide)
      refine lv_iconst (v := 1) hx hb dX7_moves_61 (by decide) ?_
      refine lv_goto (tgt := 68) hx hb dX7_moves_62 (by decide) ?_
      exact q_iret hX hr hlk () trivial hP hD hS dX7_moves_68
  refine lv_tableOut (tgt := 69) hx hb dX7_moves_18 (by have q0 := ne_toInt (v := 1) (n := 1) (by decide) t18_1; have q1 := ne_toInt (v := 2) (n := 2) (by decide) t18_2; have q2 := ne_toInt (v := 3) (n := 3) (by decide) t18_3; have q3 := ne_toInt (v := 4) (n := 4) (by decide) t18_4; have q4 := ne_toInt (v := 5) (n := 5) (by decide) t18_5; have r1 := (rg_any x15).1; have r2 := (rg_any x15).2; omega) (by decide) ?_
  refine lv_iload_n hx hb dX7_moves_69 rfl (lv_at hl 0 rfl) ?_
  exact q_iret hX hr hlk () trivial hP hD hS dX7_moves_70
abbrev w_M_nearOf (cI cZ cP : ClassId) (mo : Nat) (mo_now : Nat) (f_mo_now : Nat → Int32) (mo_kept : Nat) (mo_isKept : Nat) (mo_refused : Nat) (mo_above : Int64) (mo_below : Int64) (mo_fewest : Int32) (mo_manyGiven : Int32) (mo_firstGiven : Int32) (mo_secondGiven : Int32) (mo_clashWith : Nat) (mo_row : Nat) (mo_rowLong : Int32) (mo_least : Nat) (mo_slips : Nat) (mo_left : Nat) (mo_bestRow : Nat) (mo_tryRow : Nat) (mo_leastSlips : Int32) (mo_moments : Nat) (mo_bytes : Nat) (mo_bytesLong : Int32) (mo_tokenAt : Int32) (mo_tokenLong : Int32) (mo_token : Int32) (mo_value : Int32) (mo_next : Nat) (mo_values : Nat) (p0 : Int32) : va_W := [(mo, .inr (7, [.ref mo_now, .ref mo_kept, .ref mo_isKept, .ref mo_refused, .long mo_above, .long mo_below, .int mo_fewest, .int mo_manyGiven, .int mo_firstGiven, .int mo_secondGiven, .ref mo_clashWith, .ref mo_row, .int mo_rowLong, .ref mo_least, .ref mo_slips, .ref mo_left, .ref mo_bestRow, .ref mo_tryRow, .int mo_leastSlips, .ref mo_moments, .ref mo_bytes, .int mo_bytesLong, .int mo_tokenAt, .int mo_tokenLong, .int mo_token, .int mo_value, .ref mo_next, .ref mo_values])), (mo_now, .inl (cI, 221, .inl f_mo_now))]
set_option maxHeartbeats 4000000 in
set_option maxRecDepth 100000 in
theorem c_M_nearOf (l : Launch) (D : va_G) (cI cZ cP : ClassId) (sa : Nat → Nat) (mo : Nat) (mo_now : Nat) (f_mo_now : Nat → Int32) (mo_kept : Nat) (mo_isKept : Nat) (mo_refused : Nat) (mo_above : Int64) (mo_below : Int64) (mo_fewest : Int32) (mo_manyGiven : Int32) (mo_firstGiven : Int32) (mo_secondGiven : Int32) (mo_clashWith : Nat) (mo_row : Nat) (mo_rowLong : Int32) (mo_least : Nat) (mo_slips : Nat) (mo_left : Nat) (mo_bestRow : Nat) (mo_tryRow : Nat) (mo_leastSlips : Int32) (mo_moments : Nat) (mo_bytes : Nat) (mo_bytesLong : Int32) (mo_tokenAt : Int32) (mo_tokenLong : Int32) (mo_token : Int32) (mo_value : Int32) (mo_next : Nat) (mo_values : Nat) (p0 : Int32) (h_mo_rowLong : rg mo_rowLong 0 12) (h_mo_bytesLong : rg mo_bytesLong 0 150) (h_mo_tokenAt : rg mo_tokenAt 0 150) (h_mo_tokenLong : rg mo_tokenLong 0 150) (h_p0 : rg p0 (-1) 3) (h_f_mo_now : okN f_mo_now) (sz : Nat) : Met l yX7_nearOf (qW yX7_nearOf cX7_nearOf 3 (some .int)) ({ frames := 1, cells := 0, slots := 0, locals := 21 } : Room) (qP D (TY cI cZ cP) sa [.ref mo, .int p0] (w_M_nearOf cI cZ cP mo mo_now f_mo_now mo_kept mo_isKept mo_refused mo_above mo_below mo_fewest mo_manyGiven mo_firstGiven mo_secondGiven mo_clashWith mo_row mo_rowLong mo_least mo_slips mo_left mo_bestRow mo_tryRow mo_leastSlips mo_moments mo_bytes mo_bytesLong mo_tokenAt mo_tokenLong mo_token mo_value mo_next mo_values p0) sz) (qQi D (w_M_nearOf cI cZ cP mo mo_now f_mo_now mo_kept mo_isKept mo_refused mo_above mo_below mo_fewest mo_manyGiven mo_firstGiven mo_secondGiven mo_clashWith mo_row mo_rowLong mo_least mo_slips mo_left mo_bestRow mo_tryRow mo_leastSlips mo_moments mo_bytes mo_bytesLong mo_tokenAt mo_tokenLong mo_token mo_value mo_next mo_values p0) sz (fun (r : Int32) (u : Unit) => True) (fun u : Unit => [(mo, .inr (7, [.ref mo_now, .ref mo_kept, .ref mo_isKept, .ref mo_refused, .long mo_above, .long mo_below, .int mo_fewest, .int mo_manyGiven, .int mo_firstGiven, .int mo_secondGiven, .ref mo_clashWith, .ref mo_row, .int mo_rowLong, .ref mo_least, .ref mo_slips, .ref mo_left, .ref mo_bestRow, .ref mo_tryRow, .int mo_leastSlips, .ref mo_moments, .ref mo_bytes, .int mo_bytesLong, .int mo_tokenAt, .int mo_tokenLong, .int mo_token, .int mo_value, .ref mo_next, .ref mo_values])), (mo_now, .inl (cI, 221, .inl f_mo_now))])) 0 0 (va_A (w_M_nearOf cI cZ cP mo mo_now f_mo_now mo_kept mo_isKept mo_refused mo_above mo_below mo_fewest mo_manyGiven mo_firstGiven mo_secondGiven mo_clashWith mo_row mo_rowLong mo_least mo_slips mo_left mo_bestRow mo_tryRow mo_leastSlips mo_moments mo_bytes mo_bytesLong mo_tokenAt mo_tokenLong mo_token mo_value mo_next mo_values p0) sz) := by
  refine q_enter (by decide) (Nat.le_of_ble_eq_true rfl) ?_
  intro p e s m below meth c ls hX hr hlk hnm hE hK hP hD hS hA hl
  obtain ⟨hx, hb, hml, hown, ht⟩ := id hX
  have hl : lv_has ls 3 [(0, .ref mo), (1, .int p0)] := hl
  refine lv_aload_n hx hb dX7_nearOf_0 rfl (lv_at hl 0 rfl) ?_
  refine va_get (D := D) (ci := 7) (v := .ref mo_now) (C := RX7) (T := TX7) (N := 28) hx hb ht inX7 hown hK hP 0 rfl rfl 0 (Nat.le_of_ble_eq_true rfl) (ht _ kw_904) (fun _ h9 => h9) rfl dX7_nearOf_1 ?_
  refine lv_iconst (v := 1) hx hb dX7_nearOf_4 (by decide) ?_
  refine va_iald hx hb hK hP 1 0 rfl rfl (rg_in (rg_of (by decide) : rg (1 : Int32) 1 1) (by decide)) dX7_nearOf_5 ?_
  refine lv_topi (fun v5 e_v5 => ?_)
  refine lv_istore_n (lv' := [(2, .int v5), (0, .ref mo), (1, .int p0)]) hx hb dX7_nearOf_6 rfl hl (by decide) rfl (fun ls hl => ?_)
  refine lv_aload_n hx hb dX7_nearOf_7 rfl (lv_at hl 1 rfl) ?_
  refine lv_iload_n hx hb dX7_nearOf_8 rfl (lv_at hl 2 rfl) ?_
  refine q_Vi (wr := []) [0, 1] [] hX hE hK hP hD hS hA hl.1 lk_X7_107 (c_M_kindOf l D cI cZ cP sa mo mo_now f_mo_now mo_kept mo_isKept mo_refused mo_above mo_below mo_fewest mo_manyGiven mo_firstGiven mo_secondGiven mo_clashWith mo_row mo_rowLong mo_least mo_slips mo_left mo_bestRow mo_tryRow mo_leastSlips mo_moments mo_bytes mo_bytesLong mo_tokenAt mo_tokenLong mo_token mo_value mo_next mo_values p0 h_mo_rowLong h_mo_bytesLong h_mo_tokenAt h_mo_tokenLong h_p0 h_f_mo_now _) rfl rfl rfl rfl (by decide) 0 7 rfl rfl rfl rfl (Nat.le_of_ble_eq_true rfl) rfl rfl ⟨Nat.le_of_ble_eq_true rfl, Nat.le_of_ble_eq_true rfl⟩ ⟨Nat.le_of_ble_eq_true rfl, Nat.le_of_ble_eq_true rfl⟩ dX7_nearOf_9 (fun x9 _ H locs h9 hP hD hS => ?_)
  have hP : va_P D vwCl [(mo, .inr (7, [.ref mo_now, .ref mo_kept, .ref mo_isKept, .ref mo_refused, .long mo_above, .long mo_below, .int mo_fewest, .int mo_manyGiven, .int mo_firstGiven, .int mo_secondGiven, .ref mo_clashWith, .ref mo_row, .int mo_rowLong, .ref mo_least, .ref mo_slips, .ref mo_left, .ref mo_bestRow, .ref mo_tryRow, .int mo_leastSlips, .ref mo_moments, .ref mo_bytes, .int mo_bytesLong, .int mo_tokenAt, .int mo_tokenLong, .int mo_token, .int mo_value, .ref mo_next, .ref mo_values])), (mo_now, .inl (cI, 221, .inl f_mo_now))] H := hP
  have hD : va_D (va_A (w_M_nearOf cI cZ cP mo mo_now f_mo_now mo_kept mo_isKept mo_refused mo_above mo_below mo_fewest mo_manyGiven mo_firstGiven mo_secondGiven mo_clashWith mo_row mo_rowLong mo_least mo_slips mo_left mo_bestRow mo_tryRow mo_leastSlips mo_moments mo_bytes mo_bytesLong mo_tokenAt mo_tokenLong mo_token mo_value mo_next mo_values p0) sz) [(mo, .inr (7, [.ref mo_now, .ref mo_kept, .ref mo_isKept, .ref mo_refused, .long mo_above, .long mo_below, .int mo_fewest, .int mo_manyGiven, .int mo_firstGiven, .int mo_secondGiven, .ref mo_clashWith, .ref mo_row, .int mo_rowLong, .ref mo_least, .ref mo_slips, .ref mo_left, .ref mo_bestRow, .ref mo_tryRow, .int mo_leastSlips, .ref mo_moments, .ref mo_bytes, .int mo_bytesLong, .int mo_tokenAt, .int mo_tokenLong, .int mo_token, .int mo_value, .ref mo_next, .ref mo_values])), (mo_now, .inl (cI, 221, .inl f_mo_now))] := hD
  rcases Classical.em (x9 = 2) with t12_2 | t12_2
  · refine q_i (z := 2) t12_2 ?_
    refine lv_tableIn (off := 32) (tgt := 44) hx hb dX7_nearOf_12 (by decide) (by decide) rfl (by decide) ?_
    refine lv_iload_n hx hb dX7_nearOf_44 rfl (lv_at hl 0 rfl) ?_
    refine lv_iconst (v := 1) hx hb dX7_nearOf_45 (by decide) ?_
    refine lv_iadd hx hb dX7_nearOf_46 ?_
    refine lv_topi (fun v46 e_v46 => ?_)
    exact q_iret hX hr hlk () trivial hP hD hS dX7_nearOf_47
  rcases Classical.em (x9 = 3) with t12_3 | t12_3
  · refine q_i (z := 3) t12_3 ?_
    refine lv_tableIn (off := 44) (tgt := 56) hx hb dX7_nearOf_12 (by decide) (by decide) rfl (by decide) ?_
    refine lv_iload_n hx hb dX7_nearOf_56 rfl (lv_at hl 0 rfl) ?_
    exact q_iret hX hr hlk () trivial hP hD hS dX7_nearOf_57
  rcases Classical.em (x9 = 4) with t12_4 | t12_4
  · refine q_i (z := 4) t12_4 ?_
    refine lv_tableIn (off := 36) (tgt := 48) hx hb dX7_nearOf_12 (by decide) (by decide) rfl (by decide) ?_
    refine lv_iload_n hx hb dX7_nearOf_48 rfl (lv_at hl 0 rfl) ?_
    refine lv_iconst (v := 2) hx hb dX7_nearOf_49 (by decide) ?_
    refine lv_idiv hx hb dX7_nearOf_50 (by decide) ?_
    refine lv_topi (fun v50 e_v50 => ?_)
    exact q_iret hX hr hlk () trivial hP hD hS dX7_nearOf_51
  rcases Classical.em (x9 = 5) with t12_5 | t12_5
  · refine q_i (z := 5) t12_5 ?_
    refine lv_tableIn (off := 40) (tgt := 52) hx hb dX7_nearOf_12 (by decide) (by decide) rfl (by decide) ?_
    refine lv_iconst (v := 2) hx hb dX7_nearOf_52 (by decide) ?_
    refine lv_iload_n hx hb dX7_nearOf_53 rfl (lv_at hl 0 rfl) ?_
    refine lv_imul hx hb dX7_nearOf_54 ?_
    refine lv_topi (fun v54 e_v54 => ?_)
    exact q_iret hX hr hlk () trivial hP hD hS dX7_nearOf_55
  refine lv_tableOut (tgt := 56) hx hb dX7_nearOf_12 (by have q0 := ne_toInt (v := 2) (n := 2) (by decide) t12_2; have q1 := ne_toInt (v := 3) (n := 3) (by decide) t12_3; have q2 := ne_toInt (v := 4) (n := 4) (by decide) t12_4; have q3 := ne_toInt (v := 5) (n := 5) (by decide) t12_5; have r1 := (rg_any x9).1; have r2 := (rg_any x9).2; omega) (by decide) ?_
  refine lv_iload_n hx hb dX7_nearOf_56 rfl (lv_at hl 0 rfl) ?_
  exact q_iret hX hr hlk () trivial hP hD hS dX7_nearOf_57
abbrev w_M_isPlayed (cI cZ cP : ClassId) (mo : Nat) (mo_now : Nat) (f_mo_now : Nat → Int32) (mo_kept : Nat) (mo_isKept : Nat) (mo_refused : Nat) (mo_above : Int64) (mo_below : Int64) (mo_fewest : Int32) (mo_manyGiven : Int32) (mo_firstGiven : Int32) (mo_secondGiven : Int32) (mo_clashWith : Nat) (mo_row : Nat) (mo_rowLong : Int32) (mo_least : Nat) (mo_slips : Nat) (mo_left : Nat) (mo_bestRow : Nat) (mo_tryRow : Nat) (mo_leastSlips : Int32) (mo_moments : Nat) (mo_bytes : Nat) (mo_bytesLong : Int32) (mo_tokenAt : Int32) (mo_tokenLong : Int32) (mo_token : Int32) (mo_value : Int32) (mo_next : Nat) (mo_values : Nat) (p0 : Int32) : va_W := [(mo, .inr (7, [.ref mo_now, .ref mo_kept, .ref mo_isKept, .ref mo_refused, .long mo_above, .long mo_below, .int mo_fewest, .int mo_manyGiven, .int mo_firstGiven, .int mo_secondGiven, .ref mo_clashWith, .ref mo_row, .int mo_rowLong, .ref mo_least, .ref mo_slips, .ref mo_left, .ref mo_bestRow, .ref mo_tryRow, .int mo_leastSlips, .ref mo_moments, .ref mo_bytes, .int mo_bytesLong, .int mo_tokenAt, .int mo_tokenLong, .int mo_token, .int mo_value, .ref mo_next, .ref mo_values])), (mo_now, .inl (cI, 221, .inl f_mo_now))]
set_option maxHeartbeats 4000000 in
set_option maxRecDepth 100000 in
theorem c_M_isPlayed (l : Launch) (D : va_G) (cI cZ cP : ClassId) (sa : Nat → Nat) (mo : Nat) (mo_now : Nat) (f_mo_now : Nat → Int32) (mo_kept : Nat) (mo_isKept : Nat) (mo_refused : Nat) (mo_above : Int64) (mo_below : Int64) (mo_fewest : Int32) (mo_manyGiven : Int32) (mo_firstGiven : Int32) (mo_secondGiven : Int32) (mo_clashWith : Nat) (mo_row : Nat) (mo_rowLong : Int32) (mo_least : Nat) (mo_slips : Nat) (mo_left : Nat) (mo_bestRow : Nat) (mo_tryRow : Nat) (mo_leastSlips : Int32) (mo_moments : Nat) (mo_bytes : Nat) (mo_bytesLong : Int32) (mo_tokenAt : Int32) (mo_tokenLong : Int32) (mo_token : Int32) (mo_value : Int32) (mo_next : Nat) (mo_values : Nat) (p0 : Int32) (h_mo_rowLong : rg mo_rowLong 0 12) (h_mo_bytesLong : rg mo_bytesLong 0 150) (h_mo_tokenAt : rg mo_tokenAt 0 150) (h_mo_tokenLong : rg mo_tokenLong 0 150) (h_p0 : rg p0 0 11) (h_f_mo_now : okN f_mo_now) (sz : Nat) : Met l yX7_isPlayed (qW yX7_isPlayed cX7_isPlayed 2 (some .boolean)) ({ frames := 1, cells := 0, slots := 0, locals := 22 } : Room) (qP D (TY cI cZ cP) sa [.ref mo, .int p0] (w_M_isPlayed cI cZ cP mo mo_now f_mo_now mo_kept mo_isKept mo_refused mo_above mo_below mo_fewest mo_manyGiven mo_firstGiven mo_secondGiven mo_clashWith mo_row mo_rowLong mo_least mo_slips mo_left mo_bestRow mo_tryRow mo_leastSlips mo_moments mo_bytes mo_bytesLong mo_tokenAt mo_tokenLong mo_token mo_value mo_next mo_values p0) sz) (qQi D (w_M_isPlayed cI cZ cP mo mo_now f_mo_now mo_kept mo_isKept mo_refused mo_above mo_below mo_fewest mo_manyGiven mo_firstGiven mo_secondGiven mo_clashWith mo_row mo_rowLong mo_least mo_slips mo_left mo_bestRow mo_tryRow mo_leastSlips mo_moments mo_bytes mo_bytesLong mo_tokenAt mo_tokenLong mo_token mo_value mo_next mo_values p0) sz (fun (r : Int32) (u : Unit) => rg r 0 1) (fun u : Unit => [(mo, .inr (7, [.ref mo_now, .ref mo_kept, .ref mo_isKept, .ref mo_refused, .long mo_above, .long mo_below, .int mo_fewest, .int mo_manyGiven, .int mo_firstGiven, .int mo_secondGiven, .ref mo_clashWith, .ref mo_row, .int mo_rowLong, .ref mo_least, .ref mo_slips, .ref mo_left, .ref mo_bestRow, .ref mo_tryRow, .int mo_leastSlips, .ref mo_moments, .ref mo_bytes, .int mo_bytesLong, .int mo_tokenAt, .int mo_tokenLong, .int mo_token, .int mo_value, .ref mo_next, .ref mo_values])), (mo_now, .inl (cI, 221, .inl f_mo_now))])) 0 0 (va_A (w_M_isPlayed cI cZ cP mo mo_now f_mo_now mo_kept mo_isKept mo_refused mo_above mo_below mo_fewest mo_manyGiven mo_firstGiven mo_secondGiven mo_clashWith mo_row mo_rowLong mo_least mo_slips mo_left mo_bestRow mo_tryRow mo_leastSlips mo_moments mo_bytes mo_bytesLong mo_tokenAt mo_tokenLong mo_token mo_value mo_next mo_values p0) sz) := by
  refine q_enter (by decide) (Nat.le_of_ble_eq_true rfl) ?_
  intro p e s m below meth c ls hX hr hlk hnm hE hK hP hD hS hA hl
  obtain ⟨hx, hb, hml, hown, ht⟩ := id hX
  have hl : lv_has ls 2 [(0, .ref mo), (1, .int p0)] := hl
  refine lv_aload_n hx hb dX7_isPlayed_0 rfl (lv_at hl 0 rfl) ?_
  refine lv_iload_n hx hb dX7_isPlayed_1 rfl (lv_at hl 1 rfl) ?_
  refine lv_iconst (v := 5) hx hb dX7_isPlayed_2 (by decide) ?_
  refine q_Vi (wr := []) [0, 1] [] hX hE hK hP hD hS hA hl.1 lk_X7_110 (c_M_get5 l D cI cZ cP sa mo mo_now f_mo_now mo_kept mo_isKept mo_refused mo_above mo_below mo_fewest mo_manyGiven mo_firstGiven mo_secondGiven mo_clashWith mo_row mo_rowLong mo_least mo_slips mo_left mo_bestRow mo_tryRow mo_leastSlips mo_moments mo_bytes mo_bytesLong mo_tokenAt mo_tokenLong mo_token mo_value mo_next mo_values p0 h_mo_rowLong h_mo_bytesLong h_mo_tokenAt h_mo_tokenLong h_p0 h_f_mo_now _) rfl rfl rfl rfl (by decide) 0 7 rfl rfl rfl rfl (Nat.le_of_ble_eq_true rfl) rfl rfl ⟨Nat.le_of_ble_eq_true rfl, Nat.le_of_ble_eq_true rfl⟩ ⟨Nat.le_of_ble_eq_true rfl, Nat.le_of_ble_eq_true rfl⟩ dX7_isPlayed_3 (fun x3 _ H locs h3 hP hD hS => ?_)
  have hr3 := h3
  have hP : va_P D vwCl [(mo, .inr (7, [.ref mo_now, .ref mo_kept, .ref mo_isKept, .ref mo_refused, .long mo_above, .long mo_below, .int mo_fewest, .int mo_manyGiven, .int mo_firstGiven, .int mo_secondGiven, .ref mo_clashWith, .ref mo_row, .int mo_rowLong, .ref mo_least, .ref mo_slips, .ref mo_left, .ref mo_bestRow, .ref mo_tryRow, .int mo_leastSlips, .ref mo_moments, .ref mo_bytes, .int mo_bytesLong, .int mo_tokenAt, .int mo_tokenLong, .int mo_token, .int mo_value, .ref mo_next, .ref mo_values])), (mo_now, .inl (cI, 221, .inl f_mo_now))] H := hP
  have hD : va_D (va_A (w_M_isPlayed cI cZ cP mo mo_now f_mo_now mo_kept mo_isKept mo_refused mo_above mo_below mo_fewest mo_manyGiven mo_firstGiven mo_secondGiven mo_clashWith mo_row mo_rowLong mo_least mo_slips mo_left mo_bestRow mo_tryRow mo_leastSlips mo_moments mo_bytes mo_bytesLong mo_tokenAt mo_tokenLong mo_token mo_value mo_next mo_values p0) sz) [(mo, .inr (7, [.ref mo_now, .ref mo_kept, .ref mo_isKept, .ref mo_refused, .long mo_above, .long mo_below, .int mo_fewest, .int mo_manyGiven, .int mo_firstGiven, .int mo_secondGiven, .ref mo_clashWith, .ref mo_row, .int mo_rowLong, .ref mo_least, .ref mo_slips, .ref mo_left, .ref mo_bestRow, .ref mo_tryRow, .int mo_leastSlips, .ref mo_moments, .ref mo_bytes, .int mo_bytesLong, .int mo_tokenAt, .int mo_tokenLong, .int mo_token, .int mo_value, .ref mo_next, .ref mo_values])), (mo_now, .inl (cI, 221, .inl f_mo_now))] := hD
  refine lv_iconst (v := (-1)) hx hb dX7_isPlayed_6 (by decide) ?_
  refine lv_icmp_eq (tgt := 14) hx hb dX7_isPlayed_7 (by decide) (fun c7 => ?_) (fun c7 => ?_)
  · have r7ta : rg x3 (-1) (-1) := rg_eqL c7 hr3 (rg_of (by decide) : rg (-1 : Int32) (-1) (-1)) (by decide)
    refine lv_iconst (v := 0) hx hb dX7_isPlayed_14 (by decide) ?_
    exact q_zret hX hr hlk (by decide) () (rg_w (rg_of (by decide) : rg (0 : Int32) 0 0) (by decide)) hP hD hS dX7_isPlayed_15
  · have r7fa : rg x3 0 3 := rg_neL c7 hr3 (rg_of (by decide) : rg (-1 : Int32) (-1) (-1)) (by decide)
    refine lv_iconst (v := 1) hx hb dX7_isPlayed_10 (by decide) ?_
    refine lv_goto (tgt := 15) hx hb dX7_isPlayed_11 (by decide) ?_
    exact q_zret hX hr hlk (by decide) () (rg_w (rg_of (by decide) : rg (1 : Int32) 1 1) (by decide)) hP hD hS dX7_isPlayed_15
abbrev w_M_endOf (cI cZ cP : ClassId) (mo : Nat) (mo_now : Nat) (f_mo_now : Nat → Int32) (mo_kept : Nat) (mo_isKept : Nat) (mo_refused : Nat) (mo_above : Int64) (mo_below : Int64) (mo_fewest : Int32) (mo_manyGiven : Int32) (mo_firstGiven : Int32) (mo_secondGiven : Int32) (mo_clashWith : Nat) (mo_row : Nat) (mo_rowLong : Int32) (mo_least : Nat) (mo_slips : Nat) (mo_left : Nat) (mo_bestRow : Nat) (mo_tryRow : Nat) (mo_leastSlips : Int32) (mo_moments : Nat) (mo_bytes : Nat) (mo_bytesLong : Int32) (mo_tokenAt : Int32) (mo_tokenLong : Int32) (mo_token : Int32) (mo_value : Int32) (mo_next : Nat) (mo_values : Nat) (p0 : Int32) : va_W := [(mo, .inr (7, [.ref mo_now, .ref mo_kept, .ref mo_isKept, .ref mo_refused, .long mo_above, .long mo_below, .int mo_fewest, .int mo_manyGiven, .int mo_firstGiven, .int mo_secondGiven, .ref mo_clashWith, .ref mo_row, .int mo_rowLong, .ref mo_least, .ref mo_slips, .ref mo_left, .ref mo_bestRow, .ref mo_tryRow, .int mo_leastSlips, .ref mo_moments, .ref mo_bytes, .int mo_bytesLong, .int mo_tokenAt, .int mo_tokenLong, .int mo_token, .int mo_value, .ref mo_next, .ref mo_values])), (mo_now, .inl (cI, 221, .inl f_mo_now))]
set_option maxHeartbeats 4000000 in
set_option maxRecDepth 100000 in
theorem c_M_endOf (l : Launch) (D : va_G) (cI cZ cP : ClassId) (sa : Nat → Nat) (mo : Nat) (mo_now : Nat) (f_mo_now : Nat → Int32) (mo_kept : Nat) (mo_isKept : Nat) (mo_refused : Nat) (mo_above : Int64) (mo_below : Int64) (mo_fewest : Int32) (mo_manyGiven : Int32) (mo_firstGiven : Int32) (mo_secondGiven : Int32) (mo_clashWith : Nat) (mo_row : Nat) (mo_rowLong : Int32) (mo_least : Nat) (mo_slips : Nat) (mo_left : Nat) (mo_bestRow : Nat) (mo_tryRow : Nat) (mo_leastSlips : Int32) (mo_moments : Nat) (mo_bytes : Nat) (mo_bytesLong : Int32) (mo_tokenAt : Int32) (mo_tokenLong : Int32) (mo_token : Int32) (mo_value : Int32) (mo_next : Nat) (mo_values : Nat) (p0 : Int32) (h_mo_rowLong : rg mo_rowLong 0 12) (h_mo_bytesLong : rg mo_bytesLong 0 150) (h_mo_tokenAt : rg mo_tokenAt 0 150) (h_mo_tokenLong : rg mo_tokenLong 0 150) (h_p0 : rg p0 0 11) (h_f_mo_now : okN f_mo_now) (sz : Nat) : Met l yX7_endOf (qW yX7_endOf cX7_endOf 2 (some .int)) ({ frames := 1, cells := 0, slots := 0, locals := 22 } : Room) (qP D (TY cI cZ cP) sa [.ref mo, .int p0] (w_M_endOf cI cZ cP mo mo_now f_mo_now mo_kept mo_isKept mo_refused mo_above mo_below mo_fewest mo_manyGiven mo_firstGiven mo_secondGiven mo_clashWith mo_row mo_rowLong mo_least mo_slips mo_left mo_bestRow mo_tryRow mo_leastSlips mo_moments mo_bytes mo_bytesLong mo_tokenAt mo_tokenLong mo_token mo_value mo_next mo_values p0) sz) (qQi D (w_M_endOf cI cZ cP mo mo_now f_mo_now mo_kept mo_isKept mo_refused mo_above mo_below mo_fewest mo_manyGiven mo_firstGiven mo_secondGiven mo_clashWith mo_row mo_rowLong mo_least mo_slips mo_left mo_bestRow mo_tryRow mo_leastSlips mo_moments mo_bytes mo_bytesLong mo_tokenAt mo_tokenLong mo_token mo_value mo_next mo_values p0) sz (fun (r : Int32) (u : Unit) => True) (fun u : Unit => [(mo, .inr (7, [.ref mo_now, .ref mo_kept, .ref mo_isKept, .ref mo_refused, .long mo_above, .long mo_below, .int mo_fewest, .int mo_manyGiven, .int mo_firstGiven, .int mo_secondGiven, .ref mo_clashWith, .ref mo_row, .int mo_rowLong, .ref mo_least, .ref mo_slips, .ref mo_left, .ref mo_bestRow, .ref mo_tryRow, .int mo_leastSlips, .ref mo_moments, .ref mo_bytes, .int mo_bytesLong, .int mo_tokenAt, .int mo_tokenLong, .int mo_token, .int mo_value, .ref mo_next, .ref mo_values])), (mo_now, .inl (cI, 221, .inl f_mo_now))])) 0 0 (va_A (w_M_endOf cI cZ cP mo mo_now f_mo_now mo_kept mo_isKept mo_refused mo_above mo_below mo_fewest mo_manyGiven mo_firstGiven mo_secondGiven mo_clashWith mo_row mo_rowLong mo_least mo_slips mo_left mo_bestRow mo_tryRow mo_leastSlips mo_moments mo_bytes mo_bytesLong mo_tokenAt mo_tokenLong mo_token mo_value mo_next mo_values p0) sz) := by
  refine q_enter (by decide) (Nat.le_of_ble_eq_true rfl) ?_
  intro p e s m below meth c ls hX hr hlk hnm hE hK hP hD hS hA hl
  obtain ⟨hx, hb, hml, hown, ht⟩ := id hX
  have hl : lv_has ls 2 [(0, .ref mo), (1, .int p0)] := hl
  refine lv_aload_n hx hb dX7_endOf_0 rfl (lv_at hl 0 rfl) ?_
  refine lv_iload_n hx hb dX7_endOf_1 rfl (lv_at hl 1 rfl) ?_
  refine lv_iconst (v := 1) hx hb dX7_endOf_2 (by decide) ?_
  refine q_Vi (wr := []) [0, 1] [] hX hE hK hP hD hS hA hl.1 lk_X7_110 (c_M_get1 l D cI cZ cP sa mo mo_now f_mo_now mo_kept mo_isKept mo_refused mo_above mo_below mo_fewest mo_manyGiven mo_firstGiven mo_secondGiven mo_clashWith mo_row mo_rowLong mo_least mo_slips mo_left mo_bestRow mo_tryRow mo_leastSlips mo_moments mo_bytes mo_bytesLong mo_tokenAt mo_tokenLong mo_token mo_value mo_next mo_values p0 h_mo_rowLong h_mo_bytesLong h_mo_tokenAt h_mo_tokenLong h_p0 h_f_mo_now _) rfl rfl rfl rfl (by decide) 0 7 rfl rfl rfl rfl (Nat.le_of_ble_eq_true rfl) rfl rfl ⟨Nat.le_of_ble_eq_true rfl, Nat.le_of_ble_eq_true rfl⟩ ⟨Nat.le_of_ble_eq_true rfl, Nat.le_of_ble_eq_true rfl⟩ dX7_endOf_3 (fun x3 _ H locs h3 hP hD hS => ?_)
  obtain ⟨hr3, y3_0⟩ := h3
  have hP : va_P D vwCl [(mo, .inr (7, [.ref mo_now, .ref mo_kept, .ref mo_isKept, .ref mo_refused, .long mo_above, .long mo_below, .int mo_fewest, .int mo_manyGiven, .int mo_firstGiven, .int mo_secondGiven, .ref mo_clashWith, .ref mo_row, .int mo_rowLong, .ref mo_least, .ref mo_slips, .ref mo_left, .ref mo_bestRow, .ref mo_tryRow, .int mo_leastSlips, .ref mo_moments, .ref mo_bytes, .int mo_bytesLong, .int mo_tokenAt, .int mo_tokenLong, .int mo_token, .int mo_value, .ref mo_next, .ref mo_values])), (mo_now, .inl (cI, 221, .inl f_mo_now))] H := hP
  have hD : va_D (va_A (w_M_endOf cI cZ cP mo mo_now f_mo_now mo_kept mo_isKept mo_refused mo_above mo_below mo_fewest mo_manyGiven mo_firstGiven mo_secondGiven mo_clashWith mo_row mo_rowLong mo_least mo_slips mo_left mo_bestRow mo_tryRow mo_leastSlips mo_moments mo_bytes mo_bytesLong mo_tokenAt mo_tokenLong mo_token mo_value mo_next mo_values p0) sz) [(mo, .inr (7, [.ref mo_now, .ref mo_kept, .ref mo_isKept, .ref mo_refused, .long mo_above, .long mo_below, .int mo_fewest, .int mo_manyGiven, .int mo_firstGiven, .int mo_secondGiven, .ref mo_clashWith, .ref mo_row, .int mo_rowLong, .ref mo_least, .ref mo_slips, .ref mo_left, .ref mo_bestRow, .ref mo_tryRow, .int mo_leastSlips, .ref mo_moments, .ref mo_bytes, .int mo_bytesLong, .int mo_tokenAt, .int mo_tokenLong, .int mo_token, .int mo_value, .ref mo_next, .ref mo_values])), (mo_now, .inl (cI, 221, .inl f_mo_now))] := hD
  refine lv_aload_n hx hb dX7_endOf_6 rfl (lv_at hl 0 rfl) ?_
  refine lv_iload_n hx hb dX7_endOf_7 rfl (lv_at hl 1 rfl) ?_
  refine lv_iconst (v := 2) hx hb dX7_endOf_8 (by decide) ?_
  refine q_Vi (wr := []) [0, 1] [] hX hE hK hP hD hS hA hl.1 lk_X7_110 (c_M_get2 l D cI cZ cP sa mo mo_now f_mo_now mo_kept mo_isKept mo_refused mo_above mo_below mo_fewest mo_manyGiven mo_firstGiven mo_secondGiven mo_clashWith mo_row mo_rowLong mo_least mo_slips mo_left mo_bestRow mo_tryRow mo_leastSlips mo_moments mo_bytes mo_bytesLong mo_tokenAt mo_tokenLong mo_token mo_value mo_next mo_values p0 h_mo_rowLong h_mo_bytesLong h_mo_tokenAt h_mo_tokenLong h_p0 h_f_mo_now _) rfl rfl rfl rfl (by decide) 0 7 rfl rfl rfl rfl (Nat.le_of_ble_eq_true rfl) rfl rfl ⟨Nat.le_of_ble_eq_true rfl, Nat.le_of_ble_eq_true rfl⟩ ⟨Nat.le_of_ble_eq_true rfl, Nat.le_of_ble_eq_true rfl⟩ dX7_endOf_9 (fun x9 _ H locs h9 hP hD hS => ?_)
  have hP : va_P D vwCl [(mo, .inr (7, [.ref mo_now, .ref mo_kept, .ref mo_isKept, .ref mo_refused, .long mo_above, .long mo_below, .int mo_fewest, .int mo_manyGiven, .int mo_firstGiven, .int mo_secondGiven, .ref mo_clashWith, .ref mo_row, .int mo_rowLong, .ref mo_least, .ref mo_slips, .ref mo_left, .ref mo_bestRow, .ref mo_tryRow, .int mo_leastSlips, .ref mo_moments, .ref mo_bytes, .int mo_bytesLong, .int mo_tokenAt, .int mo_tokenLong, .int mo_token, .int mo_value, .ref mo_next, .ref mo_values])), (mo_now, .inl (cI, 221, .inl f_mo_now))] H := hP
  have hD : va_D (va_A (w_M_endOf cI cZ cP mo mo_now f_mo_now mo_kept mo_isKept mo_refused mo_above mo_below mo_fewest mo_manyGiven mo_firstGiven mo_secondGiven mo_clashWith mo_row mo_rowLong mo_least mo_slips mo_left mo_bestRow mo_tryRow mo_leastSlips mo_moments mo_bytes mo_bytesLong mo_tokenAt mo_tokenLong mo_token mo_value mo_next mo_values p0) sz) [(mo, .inr (7, [.ref mo_now, .ref mo_kept, .ref mo_isKept, .ref mo_refused, .long mo_above, .long mo_below, .int mo_fewest, .int mo_manyGiven, .int mo_firstGiven, .int mo_secondGiven, .ref mo_clashWith, .ref mo_row, .int mo_rowLong, .ref mo_least, .ref mo_slips, .ref mo_left, .ref mo_bestRow, .ref mo_tryRow, .int mo_leastSlips, .ref mo_moments, .ref mo_bytes, .int mo_bytesLong, .int mo_tokenAt, .int mo_tokenLong, .int mo_token, .int mo_value, .ref mo_next, .ref mo_values])), (mo_now, .inl (cI, 221, .inl f_mo_now))] := hD
  refine lv_iadd hx hb dX7_endOf_12 ?_
  refine lv_topi (fun v12 e_v12 => ?_)
  exact q_iret hX hr hlk () trivial hP hD hS dX7_endOf_13
abbrev w_M_soundTogether (cI cZ cP : ClassId) (mo : Nat) (mo_now : Nat) (f_mo_now : Nat → Int32) (mo_kept : Nat) (mo_isKept : Nat) (mo_refused : Nat) (mo_above : Int64) (mo_below : Int64) (mo_fewest : Int32) (mo_manyGiven : Int32) (mo_firstGiven : Int32) (mo_secondGiven : Int32) (mo_clashWith : Nat) (mo_row : Nat) (mo_rowLong : Int32) (mo_least : Nat) (mo_slips : Nat) (mo_left : Nat) (mo_bestRow : Nat) (mo_tryRow : Nat) (mo_leastSlips : Int32) (mo_moments : Nat) (mo_bytes : Nat) (mo_bytesLong : Int32) (mo_tokenAt : Int32) (mo_tokenLong : Int32) (mo_token : Int32) (mo_value : Int32) (mo_next : Nat) (mo_values : Nat) (p0 : Int32) (p1 : Int32) : va_W := [(mo, .inr (7, [.ref mo_now, .ref mo_kept, .ref mo_isKept, .ref mo_refused, .long mo_above, .long mo_below, .int mo_fewest, .int mo_manyGiven, .int mo_firstGiven, .int mo_secondGiven, .ref mo_clashWith, .ref mo_row, .int mo_rowLong, .ref mo_least, .ref mo_slips, .ref mo_left, .ref mo_bestRow, .ref mo_tryRow, .int mo_leastSlips, .ref mo_moments, .ref mo_bytes, .int mo_bytesLong, .int mo_tokenAt, .int mo_tokenLong, .int mo_token, .int mo_value, .ref mo_next, .ref mo_values])), (mo_now, .inl (cI, 221, .inl f_mo_now))]
set_option maxHeartbeats 4000000 in
set_option maxRecDepth 100000 in
theorem c_M_soundTogether (l : Launch) (D : va_G) (cI cZ cP : ClassId) (sa : Nat → Nat) (mo : Nat) (mo_now : Nat) (f_mo_now : Nat → Int32) (mo_kept : Nat) (mo_isKept : Nat) (mo_refused : Nat) (mo_above : Int64) (mo_below : Int64) (mo_fewest : Int32) (mo_manyGiven : Int32) (mo_firstGiven : Int32) (mo_secondGiven : Int32) (mo_clashWith : Nat) (mo_row : Nat) (mo_rowLong : Int32) (mo_least : Nat) (mo_slips : Nat) (mo_left : Nat) (mo_bestRow : Nat) (mo_tryRow : Nat) (mo_leastSlips : Int32) (mo_moments : Nat) (mo_bytes : Nat) (mo_bytesLong : Int32) (mo_tokenAt : Int32) (mo_tokenLong : Int32) (mo_token : Int32) (mo_value : Int32) (mo_next : Nat) (mo_values : Nat) (p0 : Int32) (p1 : Int32) (h_mo_rowLong : rg mo_rowLong 0 12) (h_mo_bytesLong : rg mo_bytesLong 0 150) (h_mo_tokenAt : rg mo_tokenAt 0 150) (h_mo_tokenLong : rg mo_tokenLong 0 150) (h_p0 : rg p0 0 11) (h_p1 : rg p1 0 11) (h_f_mo_now : okN f_mo_now) (sz : Nat) : Met l yX7_soundTogether (qW yX7_soundTogether cX7_soundTogether 3 (some .boolean)) ({ frames := 2, cells := 0, slots := 0, locals := 43 } : Room) (qP D (TY cI cZ cP) sa [.ref mo, .int p0, .int p1] (w_M_soundTogether cI cZ cP mo mo_now f_mo_now mo_kept mo_isKept mo_refused mo_above mo_below mo_fewest mo_manyGiven mo_firstGiven mo_secondGiven mo_clashWith mo_row mo_rowLong mo_least mo_slips mo_left mo_bestRow mo_tryRow mo_leastSlips mo_moments mo_bytes mo_bytesLong mo_tokenAt mo_tokenLong mo_token mo_value mo_next mo_values p0 p1) sz) (qQi D (w_M_soundTogether cI cZ cP mo mo_now f_mo_now mo_kept mo_isKept mo_refused mo_above mo_below mo_fewest mo_manyGiven mo_firstGiven mo_secondGiven mo_clashWith mo_row mo_rowLong mo_least mo_slips mo_left mo_bestRow mo_tryRow mo_leastSlips mo_moments mo_bytes mo_bytesLong mo_tokenAt mo_tokenLong mo_token mo_value mo_next mo_values p0 p1) sz (fun (r : Int32) (u : Unit) => rg r 0 1) (fun u : Unit => [(mo, .inr (7, [.ref mo_now, .ref mo_kept, .ref mo_isKept, .ref mo_refused, .long mo_above, .long mo_below, .int mo_fewest, .int mo_manyGiven, .int mo_firstGiven, .int mo_secondGiven, .ref mo_clashWith, .ref mo_row, .int mo_rowLong, .ref mo_least, .ref mo_slips, .ref mo_left, .ref mo_bestRow, .ref mo_tryRow, .int mo_leastSlips, .ref mo_moments, .ref mo_bytes, .int mo_bytesLong, .int mo_tokenAt, .int mo_tokenLong, .int mo_token, .int mo_value, .ref mo_next, .ref mo_values])), (mo_now, .inl (cI, 221, .inl f_mo_now))])) 0 0 (va_A (w_M_soundTogether cI cZ cP mo mo_now f_mo_now mo_kept mo_isKept mo_refused mo_above mo_below mo_fewest mo_manyGiven mo_firstGiven mo_secondGiven mo_clashWith mo_row mo_rowLong mo_least mo_slips mo_left mo_bestRow mo_tryRow mo_leastSlips mo_moments mo_bytes mo_bytesLong mo_tokenAt mo_tokenLong mo_token mo_value mo_next mo_values p0 p1) sz) := by
  refine q_enter (by decide) (Nat.le_of_ble_eq_true rfl) ?_
  intro p e s m below meth c ls hX hr hlk hnm hE hK hP hD hS hA hl
  obtain ⟨hx, hb, hml, hown, ht⟩ := id hX
  have hl : lv_has ls 3 [(0, .ref mo), (1, .int p0), (2, .int p1)] := hl
  have jp_32 : ∀ (_ : Unit), rg p0 0 11 → rg p1 0 11 → rg mo_rowLong 0 12 → rg mo_bytesLong 0 150 → rg mo_tokenAt 0 150 → rg mo_tokenLong 0 150 → okN f_mo_now → ∀ (H : Heap) (locs : List Loc) (ls : Array Slot), va_P D vwCl [(mo, .inr (7, [.ref mo_now, .ref mo_kept, .ref mo_isKept, .ref mo_refused, .long mo_above, .long mo_below, .int mo_fewest, .int mo_manyGiven, .int mo_firstGiven, .int mo_secondGiven, .ref mo_clashWith, .ref mo_row, .int mo_rowLong, .ref mo_least, .ref mo_slips, .ref mo_left, .ref mo_bestRow, .ref mo_tryRow, .int mo_leastSlips, .ref mo_moments, .ref mo_bytes, .int mo_bytesLong, .int mo_tokenAt, .int mo_tokenLong, .int mo_token, .int mo_value, .ref mo_next, .ref mo_values])), (mo_now, .inl (cI, 221, .inl f_mo_now))] H → va_D (va_A (w_M_soundTogether cI cZ cP mo mo_now f_mo_now mo_kept mo_isKept mo_refused mo_above mo_below mo_fewest mo_manyGiven mo_firstGiven mo_secondGiven mo_clashWith mo_row mo_rowLong mo_least mo_slips mo_left mo_bestRow mo_tryRow mo_leastSlips mo_moments mo_bytes mo_bytesLong mo_tokenAt mo_tokenLong mo_token mo_value mo_next mo_values p0 p1) sz) [(mo, .inr (7, [.ref mo_now, .ref mo_kept, .ref mo_isKept, .ref mo_refused, .long mo_above, .long mo_below, .int mo_fewest, .int mo_manyGiven, .int mo_firstGiven, .int mo_secondGiven, .ref mo_clashWith, .ref mo_row, .int mo_rowLong, .ref mo_least, .ref mo_slips, .ref mo_left, .ref mo_bestRow, .ref mo_tryRow, .int mo_leastSlips, .ref mo_moments, .ref mo_bytes, .int mo_bytesLong, .int mo_tokenAt, .int mo_tokenLong, .int mo_token, .int mo_value, .ref mo_next, .ref mo_values])), (mo_now, .inl (cI, 221, .inl f_mo_now))] → va_S (va_A (w_M_soundTogether cI cZ cP mo mo_now f_mo_now mo_kept mo_isKept mo_refused mo_above mo_below mo_fewest mo_manyGiven mo_firstGiven mo_secondGiven mo_clashWith mo_row mo_rowLong mo_least mo_slips mo_left mo_bestRow mo_tryRow mo_leastSlips mo_moments mo_bytes mo_bytesLong mo_tokenAt mo_tokenLong mo_token mo_value mo_next mo_values p0 p1) sz) s.heap H locs → lv_has ls 3 [(0, .ref mo), (1, .int p0), (2, .int p1)] → W p l e ({ frames := 2, cells := 0, slots := 0, locals := 43 } : Room) s m ([.ref mo, .int p0, .int p1] : List Value).toArray below meth c H locs 0 0 (MQ below (qQi D (w_M_soundTogether cI cZ cP mo mo_now f_mo_now mo_kept mo_isKept mo_refused mo_above mo_below mo_fewest mo_manyGiven mo_firstGiven mo_secondGiven mo_clashWith mo_row mo_rowLong mo_least mo_slips mo_left mo_bestRow mo_tryRow mo_leastSlips mo_moments mo_bytes mo_bytesLong mo_tokenAt mo_tokenLong mo_token mo_value mo_next mo_values p0 p1) sz (fun (r : Int32) (u : Unit) => rg r 0 1) (fun u : Unit => [(mo, .inr (7, [.ref mo_now, .ref mo_kept, .ref mo_isKept, .ref mo_refused, .long mo_above, .long mo_below, .int mo_fewest, .int mo_manyGiven, .int mo_firstGiven, .int mo_secondGiven, .ref mo_clashWith, .ref mo_row, .int mo_rowLong, .ref mo_least, .ref mo_slips, .ref mo_left, .ref mo_bestRow, .ref mo_tryRow, .int mo_leastSlips, .ref mo_moments, .ref mo_bytes, .int mo_bytesLong, .int mo_tokenAt, .int mo_tokenLong, .int mo_token, .int mo_value, .ref mo_next, .ref mo_values])), (mo_now, .inl (cI, 221, .inl f_mo_now))])) ([.ref mo, .int p0, .int p1] : List Value).toArray s 0 0 (va_A (w_M_soundTogether cI cZ cP mo mo_now f_mo_now mo_kept mo_isKept mo_refused mo_above mo_below mo_fewest mo_manyGiven mo_firstGiven mo_secondGiven mo_clashWith mo_row mo_rowLong mo_least mo_slips mo_left mo_bestRow mo_tryRow mo_leastSlips mo_moments mo_bytes mo_bytesLong mo_tokenAt mo_tokenLong mo_token mo_value mo_next mo_values p0 p1) sz)) (F0 m 32 ls []) := by
    intro _ g32_p0 g32_p1 g32_mo_rowLong g32_mo_bytesLong g32_mo_tokenAt g32_mo_tokenLong g32_f_mo_now H locs ls hP hD hS hl
    refine lv_iconst (v := 0) hx hb dX7_soundTogether_32 (by decide) ?_
    exact q_zret hX hr hlk (by decide) () (rg_w (rg_of (by decide) : rg (0 : Int32) 0 0) (by decide)) hP hD hS dX7_soundTogether_33
  refine lv_aload_n hx hb dX7_soundTogether_0 rfl (lv_at hl 0 rfl) ?_
  refine lv_iload_n hx hb dX7_soundTogether_1 rfl (lv_at hl 1 rfl) ?_
  refine lv_iconst (v := 1) hx hb dX7_soundTogether_2 (by decide) ?_
  refine q_Vi (wr := []) [0, 1] [] hX hE hK hP hD hS hA hl.1 lk_X7_110 (c_M_get1 l D cI cZ cP sa mo mo_now f_mo_now mo_kept mo_isKept mo_refused mo_above mo_below mo_fewest mo_manyGiven mo_firstGiven mo_secondGiven mo_clashWith mo_row mo_rowLong mo_least mo_slips mo_left mo_bestRow mo_tryRow mo_leastSlips mo_moments mo_bytes mo_bytesLong mo_tokenAt mo_tokenLong mo_token mo_value mo_next mo_values p0 h_mo_rowLong h_mo_bytesLong h_mo_tokenAt h_mo_tokenLong h_p0 h_f_mo_now _) rfl rfl rfl rfl (by decide) 0 7 rfl rfl rfl rfl (Nat.le_of_ble_eq_true rfl) rfl rfl ⟨Nat.le_of_ble_eq_true rfl, Nat.le_of_ble_eq_true rfl⟩ ⟨Nat.le_of_ble_eq_true rfl, Nat.le_of_ble_eq_true rfl⟩ dX7_soundTogether_3 (fun x3 _ H locs h3 hP hD hS => ?_)
  obtain ⟨hr3, y3_0⟩ := h3
  have hP : va_P D vwCl [(mo, .inr (7, [.ref mo_now, .ref mo_kept, .ref mo_isKept, .ref mo_refused, .long mo_above, .long mo_below, .int mo_fewest, .int mo_manyGiven, .int mo_firstGiven, .int mo_secondGiven, .ref mo_clashWith, .ref mo_row, .int mo_rowLong, .ref mo_least, .ref mo_slips, .ref mo_left, .ref mo_bestRow, .ref mo_tryRow, .int mo_leastSlips, .ref mo_moments, .ref mo_bytes, .int mo_bytesLong, .int mo_tokenAt, .int mo_tokenLong, .int mo_token, .int mo_value, .ref mo_next, .ref mo_values])), (mo_now, .inl (cI, 221, .inl f_mo_now))] H := hP
  have hD : va_D (va_A (w_M_soundTogether cI cZ cP mo mo_now f_mo_now mo_kept mo_isKept mo_refused mo_above mo_below mo_fewest mo_manyGiven mo_firstGiven mo_secondGiven mo_clashWith mo_row mo_rowLong mo_least mo_slips mo_left mo_bestRow mo_tryRow mo_leastSlips mo_moments mo_bytes mo_bytesLong mo_tokenAt mo_tokenLong mo_token mo_value mo_next mo_values p0 p1) sz) [(mo, .inr (7, [.ref mo_now, .ref mo_kept, .ref mo_isKept, .ref mo_refused, .long mo_above, .long mo_below, .int mo_fewest, .int mo_manyGiven, .int mo_firstGiven, .int mo_secondGiven, .ref mo_clashWith, .ref mo_row, .int mo_rowLong, .ref mo_least, .ref mo_slips, .ref mo_left, .ref mo_bestRow, .ref mo_tryRow, .int mo_leastSlips, .ref mo_moments, .ref mo_bytes, .int mo_bytesLong, .int mo_tokenAt, .int mo_tokenLong, .int mo_token, .int mo_value, .ref mo_next, .ref mo_values])), (mo_now, .inl (cI, 221, .inl f_mo_now))] := hD
  refine lv_aload_n hx hb dX7_soundTogether_6 rfl (lv_at hl 0 rfl) ?_
  refine lv_iload_n hx hb dX7_soundTogether_7 rfl (lv_at hl 2 rfl) ?_
  refine q_Vi (wr := []) [0, 1] [] hX hE hK hP hD hS hA hl.1 lk_X7_114 (c_M_endOf l D cI cZ cP sa mo mo_now f_mo_now mo_kept mo_isKept mo_refused mo_above mo_below mo_fewest mo_manyGiven mo_firstGiven mo_secondGiven mo_clashWith mo_row mo_rowLong mo_least mo_slips mo_left mo_bestRow mo_tryRow mo_leastSlips mo_moments mo_bytes mo_bytesLong mo_tokenAt mo_tokenLong mo_token mo_value mo_next mo_values p1 h_mo_rowLong h_mo_bytesLong h_mo_tokenAt h_mo_tokenLong h_p1 h_f_mo_now _) rfl rfl rfl rfl (by decide) 0 7 rfl rfl rfl rfl (Nat.le_of_ble_eq_true rfl) rfl rfl ⟨Nat.le_of_ble_eq_true rfl, Nat.le_of_ble_eq_true rfl⟩ ⟨Nat.le_of_ble_eq_true rfl, Nat.le_of_ble_eq_true rfl⟩ dX7_soundTogether_8 (fun x8 _ H locs h8 hP hD hS => ?_)
  have hP : va_P D vwCl [(mo, .inr (7, [.ref mo_now, .ref mo_kept, .ref mo_isKept, .ref mo_refused, .long mo_above, .long mo_below, .int mo_fewest, .int mo_manyGiven, .int mo_firstGiven, .int mo_secondGiven, .ref mo_clashWith, .ref mo_row, .int mo_rowLong, .ref mo_least, .ref mo_slips, .ref mo_left, .ref mo_bestRow, .ref mo_tryRow, .int mo_leastSlips, .ref mo_moments, .ref mo_bytes, .int mo_bytesLong, .int mo_tokenAt, .int mo_tokenLong, .int mo_token, .int mo_value, .ref mo_next, .ref mo_values])), (mo_now, .inl (cI, 221, .inl f_mo_now))] H := hP
  have hD : va_D (va_A (w_M_soundTogether cI cZ cP mo mo_now f_mo_now mo_kept mo_isKept mo_refused mo_above mo_below mo_fewest mo_manyGiven mo_firstGiven mo_secondGiven mo_clashWith mo_row mo_rowLong mo_least mo_slips mo_left mo_bestRow mo_tryRow mo_leastSlips mo_moments mo_bytes mo_bytesLong mo_tokenAt mo_tokenLong mo_token mo_value mo_next mo_values p0 p1) sz) [(mo, .inr (7, [.ref mo_now, .ref mo_kept, .ref mo_isKept, .ref mo_refused, .long mo_above, .long mo_below, .int mo_fewest, .int mo_manyGiven, .int mo_firstGiven, .int mo_secondGiven, .ref mo_clashWith, .ref mo_row, .int mo_rowLong, .ref mo_least, .ref mo_slips, .ref mo_left, .ref mo_bestRow, .ref mo_tryRow, .int mo_leastSlips, .ref mo_moments, .ref mo_bytes, .int mo_bytesLong, .int mo_tokenAt, .int mo_tokenLong, .int mo_token, .int mo_value, .ref mo_next, .ref mo_values])), (mo_now, .inl (cI, 221, .inl f_mo_now))] := hD
  refine lv_icmp_ge (tgt := 32) hx hb dX7_soundTogether_11 (by decide) (fun c11 => ?_) (fun c11 => ?_)
  · have r11ta : rg x8 (-2147483648) 63 := rg_leL c11 (rg_any x8) hr3 (by decide)
    exact jp_32 () h_p0 h_p1 h_mo_rowLong h_mo_bytesLong h_mo_tokenAt h_mo_tokenLong h_f_mo_now _ _ _ hP hD hS (lv_sub hl [0, 1, 2] rfl)
  · have r11fb : rg x8 1 2147483647 := rg_ltR (Int32.not_le.mp c11) hr3 (rg_any x8) (by decide)
    refine lv_aload_n hx hb dX7_soundTogether_14 rfl (lv_at hl 0 rfl) ?_
    refine lv_iload_n hx hb dX7_soundTogether_15 rfl (lv_at hl 2 rfl) ?_
    refine lv_iconst (v := 1) hx hb dX7_soundTogether_16 (by decide) ?_
    refine q_Vi (wr := []) [0, 1] [] hX hE hK hP hD hS hA hl.1 lk_X7_110 (c_M_get1 l D cI cZ cP sa mo mo_now f_mo_now mo_kept mo_isKept mo_refused mo_above mo_below mo_fewest mo_manyGiven mo_firstGiven mo_secondGiven mo_clashWith mo_row mo_rowLong mo_least mo_slips mo_left mo_bestRow mo_tryRow mo_leastSlips mo_moments mo_bytes mo_bytesLong mo_tokenAt mo_tokenLong mo_token mo_value mo_next mo_values p1 h_mo_rowLong h_mo_bytesLong h_mo_tokenAt h_mo_tokenLong h_p1 h_f_mo_now _) rfl rfl rfl rfl (by decide) 0 7 rfl rfl rfl rfl (Nat.le_of_ble_eq_true rfl) rfl rfl ⟨Nat.le_of_ble_eq_true rfl, Nat.le_of_ble_eq_true rfl⟩ ⟨Nat.le_of_ble_eq_true rfl, Nat.le_of_ble_eq_true rfl⟩ dX7_soundTogether_17 (fun x17 _ H locs h17 hP hD hS => ?_)
    obtain ⟨hr17, y17_0⟩ := h17
    have hP : va_P D vwCl [(mo, .inr (7, [.ref mo_now, .ref mo_kept, .ref mo_isKept, .ref mo_refused, .long mo_above, .long mo_below, .int mo_fewest, .int mo_manyGiven, .int mo_firstGiven, .int mo_secondGiven, .ref mo_clashWith, .ref mo_row, .int mo_rowLong, .ref mo_least, .ref mo_slips, .ref mo_left, .ref mo_bestRow, .ref mo_tryRow, .int mo_leastSlips, .ref mo_moments, .ref mo_bytes, .int mo_bytesLong, .int mo_tokenAt, .int mo_tokenLong, .int mo_token, .int mo_value, .ref mo_next, .ref mo_values])), (mo_now, .inl (cI, 221, .inl f_mo_now))] H := hP
    have hD : va_D (va_A (w_M_soundTogether cI cZ cP mo mo_now f_mo_now mo_kept mo_isKept mo_refused mo_above mo_below mo_fewest mo_manyGiven mo_firstGiven mo_secondGiven mo_clashWith mo_row mo_rowLong mo_least mo_slips mo_left mo_bestRow mo_tryRow mo_leastSlips mo_moments mo_bytes mo_bytesLong mo_tokenAt mo_tokenLong mo_token mo_value mo_next mo_values p0 p1) sz) [(mo, .inr (7, [.ref mo_now, .ref mo_kept, .ref mo_isKept, .ref mo_refused, .long mo_above, .long mo_below, .int mo_fewest, .int mo_manyGiven, .int mo_firstGiven, .int mo_secondGiven, .ref mo_clashWith, .ref mo_row, .int mo_rowLong, .ref mo_least, .ref mo_slips, .ref mo_left, .ref mo_bestRow, .ref mo_tryRow, .int mo_leastSlips, .ref mo_moments, .ref mo_bytes, .int mo_bytesLong, .int mo_tokenAt, .int mo_tokenLong, .int mo_token, .int mo_value, .ref mo_next, .ref mo_values])), (mo_now, .inl (cI, 221, .inl f_mo_now))] := hD
    refine lv_aload_n hx hb dX7_soundTogether_20 rfl (lv_at hl 0 rfl) ?_
    refine lv_iload_n hx hb dX7_soundTogether_21 rfl (lv_at hl 1 rfl) ?_
    refine q_Vi (wr := []) [0, 1] [] hX hE hK hP hD hS hA hl.1 lk_X7_114 (c_M_endOf l D cI cZ cP sa mo mo_now f_mo_now mo_kept mo_isKept mo_refused mo_above mo_below mo_fewest mo_manyGiven mo_firstGiven mo_secondGiven mo_clashWith mo_row mo_rowLong mo_least mo_slips mo_left mo_bestRow mo_tryRow mo_leastSlips mo_moments mo_bytes mo_bytesLong mo_tokenAt mo_tokenLong mo_token mo_value mo_next mo_values p0 h_mo_rowLong h_mo_bytesLong h_mo_tokenAt h_mo_tokenLong h_p0 h_f_mo_now _) rfl rfl rfl rfl (by decide) 0 7 rfl rfl rfl rfl (Nat.le_of_ble_eq_true rfl) rfl rfl ⟨Nat.le_of_ble_eq_true rfl, Nat.le_of_ble_eq_true rfl⟩ ⟨Nat.le_of_ble_eq_true rfl, Nat.le_of_ble_eq_true rfl⟩ dX7_soundTogether_22 (fun x22 _ H locs h22 hP hD hS => ?_)
    have hP : va_P D vwCl [(mo, .inr (7, [.ref mo_now, .ref mo_kept, .ref mo_isKept, .ref mo_refused, .long mo_above, .long mo_below, .int mo_fewest, .int mo_manyGiven, .int mo_firstGiven, .int mo_secondGiven, .ref mo_clashWith, .ref mo_row, .int mo_rowLong, .ref mo_least, .ref mo_slips, .ref mo_left, .ref mo_bestRow, .ref mo_tryRow, .int mo_leastSlips, .ref mo_moments, .ref mo_bytes, .int mo_bytesLong, .int mo_tokenAt, .int mo_tokenLong, .int mo_token, .int mo_value, .ref mo_next, .ref mo_values])), (mo_now, .inl (cI, 221, .inl f_mo_now))] H := hP
    have hD : va_D (va_A (w_M_soundTogether cI cZ cP mo mo_now f_mo_now mo_kept mo_isKept mo_refused mo_above mo_below mo_fewest mo_manyGiven mo_firstGiven mo_secondGiven mo_clashWith mo_row mo_rowLong mo_least mo_slips mo_left mo_bestRow mo_tryRow mo_leastSlips mo_moments mo_bytes mo_bytesLong mo_tokenAt mo_tokenLong mo_token mo_value mo_next mo_values p0 p1) sz) [(mo, .inr (7, [.ref mo_now, .ref mo_kept, .ref mo_isKept, .ref mo_refused, .long mo_above, .long mo_below, .int mo_fewest, .int mo_manyGiven, .int mo_firstGiven, .int mo_secondGiven, .ref mo_clashWith, .ref mo_row, .int mo_rowLong, .ref mo_least, .ref mo_slips, .ref mo_left, .ref mo_bestRow, .ref mo_tryRow, .int mo_leastSlips, .ref mo_moments, .ref mo_bytes, .int mo_bytesLong, .int mo_tokenAt, .int mo_tokenLong, .int mo_token, .int mo_value, .ref mo_next, .ref mo_values])), (mo_now, .inl (cI, 221, .inl f_mo_now))] := hD
    refine lv_icmp_ge (tgt := 32) hx hb dX7_soundTogether_25 (by decide) (fun c25 => ?_) (fun c25 => ?_)
    · have r25ta : rg x22 (-2147483648) 63 := rg_leL c25 (rg_any x22) hr17 (by decide)
      exact jp_32 () h_p0 h_p1 h_mo_rowLong h_mo_bytesLong h_mo_tokenAt h_mo_tokenLong h_f_mo_now _ _ _ hP hD hS (lv_sub hl [0, 1, 2] rfl)
    · have r25fb : rg x22 1 2147483647 := rg_ltR (Int32.not_le.mp c25) hr17 (rg_any x22) (by decide)
      refine lv_iconst (v := 1) hx hb dX7_soundTogether_28 (by decide) ?_
      refine lv_goto (tgt := 33) hx hb dX7_soundTogether_29 (by decide) ?_
      exact q_zret hX hr hlk (by decide) () (rg_w (rg_of (by decide) : rg (1 : Int32) 1 1) (by decide)) hP hD hS dX7_soundTogether_33
