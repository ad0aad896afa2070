abbrev w_m_in (cI cZ cP : ClassId) (p0 : Int32) (p1 : Int32) (p2 : Int32) : va_W := []
set_option maxHeartbeats 4000000 in
set_option maxRecDepth 100000 in
theorem c_m_in (l : Launch) (D : va_G) (cI cZ cP : ClassId) (sa : Nat → Nat) (p0 : Int32) (p1 : Int32) (p2 : Int32) (sz : Nat) : Met l yX7_in (qW yX7_in cX7_in 6 (some .boolean)) ({ frames := 0, cells := 0, slots := 0, locals := 0 } : Room) (qP D (TY cI cZ cP) sa [.long (p0.toInt64), .long (p1.toInt64), .long (p2.toInt64)] (w_m_in cI cZ cP p0 p1 p2) sz) (qQi D (w_m_in cI cZ cP p0 p1 p2) sz (fun (r : Int32) (_ : Unit) => r = if p1 ≤ p0 ∧ p0 ≤ p2 then 1 else 0) (fun _ => [])) 0 0 (va_A (w_m_in cI cZ cP p0 p1 p2) sz) := by
  refine q_enter (by decide) (Nat.le_of_ble_eq_true rfl) ?_
  intro p e s m below meth c ls hX hr hlk hnm hE hK hP hD hS hA hl
  obtain ⟨hx, hb, hml, hown, ht⟩ := id hX
  have hl : lv_has ls 6 [(0, .long (p0.toInt64)), (2, .long (p1.toInt64)), (4, .long (p2.toInt64))] := hl
  refine lv_lload_n hx hb dX7_in_0 rfl (lv_at hl 0 rfl) ?_
  refine lv_lload_n hx hb dX7_in_1 rfl (lv_at hl 1 rfl) ?_
  refine W.lcmp hx hb dX7_in_2 ?_
  refine lv_if_lt (tgt := 17) hx hb dX7_in_3 (by decide) (fun c_1 => ?_) (fun c_1 => ?_)
  · refine lv_iconst (v := 0) hx hb dX7_in_17 (by decide) ?_
    exact q_zret hX hr hlk (by decide) () (by rw [if_neg (fun h => m_lt c_1 h.1)]) (hP.sub [] rfl) (hD.sub [] (by decide) rfl) hS dX7_in_18
  · refine lv_lload_n hx hb dX7_in_6 rfl (lv_at hl 0 rfl) ?_
    refine lv_lload hx hb dX7_in_7 (lv_at hl 2 rfl) ?_
    refine W.lcmp hx hb dX7_in_9 ?_
    refine lv_if_gt (tgt := 17) hx hb dX7_in_10 (by decide) (fun c_2 => ?_) (fun c_2 => ?_)
    · refine lv_iconst (v := 0) hx hb dX7_in_17 (by decide) ?_
      exact q_zret hX hr hlk (by decide) () (by rw [if_neg (fun h => m_gt c_2 h.2)]) (hP.sub [] rfl) (hD.sub [] (by decide) rfl) hS dX7_in_18
    · refine lv_iconst (v := 1) hx hb dX7_in_13 (by decide) ?_
      refine lv_goto (tgt := 18) hx hb dX7_in_14 (by decide) ?_
      exact q_zret hX hr hlk (by decide) () (by rw [if_pos ⟨m_ge c_1, m_le c_2⟩]) (hP.sub [] rfl) (hD.sub [] (by decide) rfl) hS dX7_in_18
abbrev w_m_bad (cI cZ cP : ClassId) (mo : Nat) (a_now : Nat) (a_kep : Nat) (a_isk : Nat) (a_ref : Nat) (a_cw : Nat) (a_row : Nat) (a_lea : Nat) (a_sli : Nat) (a_lef : Nat) (a_bst : Nat) (a_try : Nat) (a_mom : Nat) (a_byt : Nat) (a_nxt : Nat) (a_val : Nat) (ab : Int64) (be : Int64) (fw : Int32) (mg : Int32) (f1 : Int32) (f2 : Int32) (rl : Int32) (lsl : Int32) (bl : Int32) (ta : Int32) (tl : Int32) (tk : Int32) (va : Int32) (p0 : Int32) : va_W := [(mo, .inr (7, [.ref a_now, .ref a_kep, .ref a_isk, .ref a_ref, .long ab, .long be, .int fw, .int mg, .int f1, .int f2, .ref a_cw, .ref a_row, .int rl, .ref a_lea, .ref a_sli, .ref a_lef, .ref a_bst, .ref a_try, .int lsl, .ref a_mom, .ref a_byt, .int bl, .int ta, .int tl, .int tk, .int va, .ref a_nxt, .ref a_val])), (a_ref, .inl (cI, 3, .inl (fun _ => 0)))]
set_option maxHeartbeats 4000000 in
set_option maxRecDepth 100000 in
theorem c_m_bad (l : Launch) (D : va_G) (cI cZ cP : ClassId) (sa : Nat → Nat) (mo : Nat) (a_now : Nat) (a_kep : Nat) (a_isk : Nat) (a_ref : Nat) (a_cw : Nat) (a_row : Nat) (a_lea : Nat) (a_sli : Nat) (a_lef : Nat) (a_bst : Nat) (a_try : Nat) (a_mom : Nat) (a_byt : Nat) (a_nxt : Nat) (a_val : Nat) (ab : Int64) (be : Int64) (fw : Int32) (mg : Int32) (f1 : Int32) (f2 : Int32) (rl : Int32) (lsl : Int32) (bl : Int32) (ta : Int32) (tl : Int32) (tk : Int32) (va : Int32) (p0 : Int32) (sz : Nat) : Met l yX7_bad (qW yX7_bad cX7_bad 2 (some .int)) ({ frames := 0, cells := 0, slots := 0, locals := 0 } : Room) (qP D (TY cI cZ cP) sa [.ref mo, .int p0] (w_m_bad cI cZ cP mo a_now a_kep a_isk a_ref a_cw a_row a_lea a_sli a_lef a_bst a_try a_mom a_byt a_nxt a_val ab be fw mg f1 f2 rl lsl bl ta tl tk va p0) sz) (qQi D (w_m_bad cI cZ cP mo a_now a_kep a_isk a_ref a_cw a_row a_lea a_sli a_lef a_bst a_try a_mom a_byt a_nxt a_val ab be fw mg f1 f2 rl lsl bl ta tl tk va p0) sz (fun (r : Int32) (_ : Unit) => r = p0) (fun _ => [])) 0 0 (va_A (w_m_bad cI cZ cP mo a_now a_kep a_isk a_ref a_cw a_row a_lea a_sli a_lef a_bst a_try a_mom a_byt a_nxt a_val ab be fw mg f1 f2 rl lsl bl ta tl tk va p0) sz) := by
  refine q_enter (by decide) (Nat.le_of_ble_eq_true rfl) ?_
  intro p e s m below meth c ls hX hr hlk hnm hE hK hP hD hS hA hl
  obtain ⟨hx, hb, hml, hown, ht⟩ := id hX
  have hl : lv_has ls 2 [(0, .ref mo), (1, .int p0)] := hl
  refine lv_aload_n hx hb dX7_bad_0 rfl (lv_at hl 0 rfl) ?_
  refine va_get (D := D) (ci := 7) (v := .ref a_ref) (C := RX7) (T := TX7) (N := 28) hx hb ht inX7 hown hK hP 0 rfl rfl 3 (Nat.le_of_ble_eq_true rfl) (ht _ kw_907) (fun _ h9 => h9) rfl dX7_bad_1 ?_
  refine lv_iconst (v := 0) hx hb dX7_bad_4 (by decide) ?_
  refine lv_dup2_11 hx hb dX7_bad_5 rfl rfl ?_
  refine va_iald hx hb hK hP 1 0 rfl rfl (vin (by decide)) dX7_bad_6 ?_
  refine q_i (z := 0) rfl ?_
  refine lv_iconst (v := 1) hx hb dX7_bad_7 (by decide) ?_
  refine lv_iadd hx hb dX7_bad_8 ?_
  refine q_i (z := 1) (by decide) ?_
  refine va_iast hx hb hK hP hD hS 1 0 rfl rfl (vin (by decide)) dX7_bad_9 (fun H locs hP hD hS => ?_)
  have hP : va_P D vwCl [(mo, .inr (7, [.ref a_now, .ref a_kep, .ref a_isk, .ref a_ref, .long ab, .long be, .int fw, .int mg, .int f1, .int f2, .ref a_cw, .ref a_row, .int rl, .ref a_lea, .ref a_sli, .ref a_lef, .ref a_bst, .ref a_try, .int lsl, .ref a_mom, .ref a_byt, .int bl, .int ta, .int tl, .int tk, .int va, .ref a_nxt, .ref a_val])), (a_ref, .inl (cI, 3, .inl (upd (fun _ => 0) (0 : Int32).toNatClampNeg 1)))] H := hP
  have hD : va_D (va_A (w_m_bad cI cZ cP mo a_now a_kep a_isk a_ref a_cw a_row a_lea a_sli a_lef a_bst a_try a_mom a_byt a_nxt a_val ab be fw mg f1 f2 rl lsl bl ta tl tk va p0) sz) [(mo, .inr (7, [.ref a_now, .ref a_kep, .ref a_isk, .ref a_ref, .long ab, .long be, .int fw, .int mg, .int f1, .int f2, .ref a_cw, .ref a_row, .int rl, .ref a_lea, .ref a_sli, .ref a_lef, .ref a_bst, .ref a_try, .int lsl, .ref a_mom, .ref a_byt, .int bl, .int ta, .int tl, .int tk, .int va, .ref a_nxt, .ref a_val])), (a_ref, .inl (cI, 3, .inl (upd (fun _ => 0) (0 : Int32).toNatClampNeg 1)))] := hD
  refine lv_iload_n hx hb dX7_bad_10 rfl (lv_at hl 1 rfl) ?_
  exact q_iret hX hr hlk () rfl (hP.sub [] rfl) (hD.sub [] (by decide) rfl) hS dX7_bad_11
abbrev w_m_no (cI cZ cP : ClassId) (mo : Nat) (a_now : Nat) (a_kep : Nat) (a_isk : Nat) (a_ref : Nat) (a_cw : Nat) (a_row : Nat) (a_lea : Nat) (a_sli : Nat) (a_lef : Nat) (a_bst : Nat) (a_try : Nat) (a_mom : Nat) (a_byt : Nat) (a_nxt : Nat) (a_val : Nat) (ab : Int64) (be : Int64) (fw : Int32) (mg : Int32) (f1 : Int32) (f2 : Int32) (rl : Int32) (lsl : Int32) (bl : Int32) (ta : Int32) (tl : Int32) (tk : Int32) (va : Int32) (p0 : Int32) : va_W := [(mo, .inr (7, [.ref a_now, .ref a_kep, .ref a_isk, .ref a_ref, .long ab, .long be, .int fw, .int mg, .int f1, .int f2, .ref a_cw, .ref a_row, .int rl, .ref a_lea, .ref a_sli, .ref a_lef, .ref a_bst, .ref a_try, .int lsl, .ref a_mom, .ref a_byt, .int bl, .int ta, .int tl, .int tk, .int va, .ref a_nxt, .ref a_val])), (a_ref, .inl (cI, 3, .inl (fun _ => 0)))]
set_option maxHeartbeats 4000000 in
set_option maxRecDepth 100000 in
theorem c_m_no (l : Launch) (D : va_G) (cI cZ cP : ClassId) (sa : Nat → Nat) (mo : Nat) (a_now : Nat) (a_kep : Nat) (a_isk : Nat) (a_ref : Nat) (a_cw : Nat) (a_row : Nat) (a_lea : Nat) (a_sli : Nat) (a_lef : Nat) (a_bst : Nat) (a_try : Nat) (a_mom : Nat) (a_byt : Nat) (a_nxt : Nat) (a_val : Nat) (ab : Int64) (be : Int64) (fw : Int32) (mg : Int32) (f1 : Int32) (f2 : Int32) (rl : Int32) (lsl : Int32) (bl : Int32) (ta : Int32) (tl : Int32) (tk : Int32) (va : Int32) (p0 : Int32) (sz : Nat) : Met l yX7_no (qW yX7_no cX7_no 2 (some .int)) ({ frames := 0, cells := 0, slots := 0, locals := 0 } : Room) (qP D (TY cI cZ cP) sa [.ref mo, .int p0] (w_m_no cI cZ cP mo a_now a_kep a_isk a_ref a_cw a_row a_lea a_sli a_lef a_bst a_try a_mom a_byt a_nxt a_val ab be fw mg f1 f2 rl lsl bl ta tl tk va p0) sz) (qQi D (w_m_no cI cZ cP mo a_now a_kep a_isk a_ref a_cw a_row a_lea a_sli a_lef a_bst a_try a_mom a_byt a_nxt a_val ab be fw mg f1 f2 rl lsl bl ta tl tk va p0) sz (fun (r : Int32) (_ : Unit) => r = p0) (fun _ => [])) 0 0 (va_A (w_m_no cI cZ cP mo a_now a_kep a_isk a_ref a_cw a_row a_lea a_sli a_lef a_bst a_try a_mom a_byt a_nxt a_val ab be fw mg f1 f2 rl lsl bl ta tl tk va p0) sz) := by
  refine q_enter (by decide) (Nat.le_of_ble_eq_true rfl) ?_
  intro p e s m below meth c ls hX hr hlk hnm hE hK hP hD hS hA hl
  obtain ⟨hx, hb, hml, hown, ht⟩ := id hX
  have hl : lv_has ls 2 [(0, .ref mo), (1, .int p0)] := hl
  refine lv_aload_n hx hb dX7_no_0 rfl (lv_at hl 0 rfl) ?_
  refine va_get (D := D) (ci := 7) (v := .ref a_ref) (C := RX7) (T := TX7) (N := 28) hx hb ht inX7 hown hK hP 0 rfl rfl 3 (Nat.le_of_ble_eq_true rfl) (ht _ kw_907) (fun _ h9 => h9) rfl dX7_no_1 ?_
  refine lv_iconst (v := 1) hx hb dX7_no_4 (by decide) ?_
  refine lv_dup2_11 hx hb dX7_no_5 rfl rfl ?_
  refine va_iald hx hb hK hP 1 0 rfl rfl (vin (by decide)) dX7_no_6 ?_
  refine q_i (z := 0) rfl ?_
  refine lv_iconst (v := 1) hx hb dX7_no_7 (by decide) ?_
  refine lv_iadd hx hb dX7_no_8 ?_
  refine q_i (z := 1) (by decide) ?_
  refine va_iast hx hb hK hP hD hS 1 0 rfl rfl (vin (by decide)) dX7_no_9 (fun H locs hP hD hS => ?_)
  have hP : va_P D vwCl [(mo, .inr (7, [.ref a_now, .ref a_kep, .ref a_isk, .ref a_ref, .long ab, .long be, .int fw, .int mg, .int f1, .int f2, .ref a_cw, .ref a_row, .int rl, .ref a_lea, .ref a_sli, .ref a_lef, .ref a_bst, .ref a_try, .int lsl, .ref a_mom, .ref a_byt, .int bl, .int ta, .int tl, .int tk, .int va, .ref a_nxt, .ref a_val])), (a_ref, .inl (cI, 3, .inl (upd (fun _ => 0) (1 : Int32).toNatClampNeg 1)))] H := hP
  have hD : va_D (va_A (w_m_no cI cZ cP mo a_now a_kep a_isk a_ref a_cw a_row a_lea a_sli a_lef a_bst a_try a_mom a_byt a_nxt a_val ab be fw mg f1 f2 rl lsl bl ta tl tk va p0) sz) [(mo, .inr (7, [.ref a_now, .ref a_kep, .ref a_isk, .ref a_ref, .long ab, .long be, .int fw, .int mg, .int f1, .int f2, .ref a_cw, .ref a_row, .int rl, .ref a_lea, .ref a_sli, .ref a_lef, .ref a_bst, .ref a_try, .int lsl, .ref a_mom, .ref a_byt, .int bl, .int ta, .int tl, .int tk, .int va, .ref a_nxt, .ref a_val])), (a_ref, .inl (cI, 3, .inl (upd (fun _ => 0) (1 : Int32).toNatClampNeg 1)))] := hD
  refine lv_iload_n hx hb dX7_no_10 rfl (lv_at hl 1 rfl) ?_
  exact q_iret hX hr hlk () rfl (hP.sub [] rfl) (hD.sub [] (by decide) rfl) hS dX7_no_11
abbrev w_m_notes (cI cZ cP : ClassId) (mo : Nat) (a_now : Nat) (a_kep : Nat) (a_isk : Nat) (a_ref : Nat) (a_cw : Nat) (a_row : Nat) (a_lea : Nat) (a_sli : Nat) (a_lef : Nat) (a_bst : Nat) (a_try : Nat) (a_mom : Nat) (a_byt : Nat) (a_nxt : Nat) (a_val : Nat) (ab : Int64) (be : Int64) (fw : Int32) (mg : Int32) (f1 : Int32) (f2 : Int32) (rl : Int32) (lsl : Int32) (bl : Int32) (ta : Int32) (tl : Int32) (tk : Int32) (va : Int32) : va_W := [(mo, .inr (7, [.ref a_now, .ref a_kep, .ref a_isk, .ref a_ref, .long ab, .long be, .int fw, .int mg, .int f1, .int f2, .ref a_cw, .ref a_row, .int rl, .ref a_lea, .ref a_sli, .ref a_lef, .ref a_bst, .ref a_try, .int lsl, .ref a_mom, .ref a_byt, .int bl, .int ta, .int tl, .int tk, .int va, .ref a_nxt, .ref a_val])), (a_now, .inl (cI, 221, .inl nw0))]
set_option maxHeartbeats 4000000 in
set_option maxRecDepth 100000 in
theorem c_m_notes (l : Launch) (D : va_G) (cI cZ cP : ClassId) (sa : Nat → Nat) (mo : Nat) (a_now : Nat) (a_kep : Nat) (a_isk : Nat) (a_ref : Nat) (a_cw : Nat) (a_row : Nat) (a_lea : Nat) (a_sli : Nat) (a_lef : Nat) (a_bst : Nat) (a_try : Nat) (a_mom : Nat) (a_byt : Nat) (a_nxt : Nat) (a_val : Nat) (ab : Int64) (be : Int64) (fw : Int32) (mg : Int32) (f1 : Int32) (f2 : Int32) (rl : Int32) (lsl : Int32) (bl : Int32) (ta : Int32) (tl : Int32) (tk : Int32) (va : Int32) (sz : Nat) : Met l yX7_notes (qW yX7_notes cX7_notes 1 (some .int)) ({ frames := 0, cells := 0, slots := 0, locals := 0 } : Room) (qP D (TY cI cZ cP) sa [.ref mo] (w_m_notes cI cZ cP mo a_now a_kep a_isk a_ref a_cw a_row a_lea a_sli a_lef a_bst a_try a_mom a_byt a_nxt a_val ab be fw mg f1 f2 rl lsl bl ta tl tk va) sz) (qQi D (w_m_notes cI cZ cP mo a_now a_kep a_isk a_ref a_cw a_row a_lea a_sli a_lef a_bst a_try a_mom a_byt a_nxt a_val ab be fw mg f1 f2 rl lsl bl ta tl tk va) sz (fun (r : Int32) (_ : Unit) => r = 0) (fun _ => [(mo, .inr (7, [.ref a_now, .ref a_kep, .ref a_isk, .ref a_ref, .long ab, .long be, .int fw, .int mg, .int f1, .int f2, .ref a_cw, .ref a_row, .int rl, .ref a_lea, .ref a_sli, .ref a_lef, .ref a_bst, .ref a_try, .int lsl, .ref a_mom, .ref a_byt, .int bl, .int ta, .int tl, .int tk, .int va, .ref a_nxt, .ref a_val])), (a_now, .inl (cI, 221, .inl nw0))])) 0 0 (va_A (w_m_notes cI cZ cP mo a_now a_kep a_isk a_ref a_cw a_row a_lea a_sli a_lef a_bst a_try a_mom a_byt a_nxt a_val ab be fw mg f1 f2 rl lsl bl ta tl tk va) sz) := by
  refine q_enter (by decide) (Nat.le_of_ble_eq_true rfl) ?_
  intro p e s m below meth c ls hX hr hlk hnm hE hK hP hD hS hA hl
  obtain ⟨hx, hb, hml, hown, ht⟩ := id hX
  have hl : lv_has ls 1 [(0, .ref mo)] := hl
  refine lv_aload_n hx hb dX7_notes_0 rfl (lv_at hl 0 rfl) ?_
  refine va_get (D := D) (ci := 7) (v := .ref a_now) (C := RX7) (T := TX7) (N := 28) hx hb ht inX7 hown hK hP 0 rfl rfl 0 (Nat.le_of_ble_eq_true rfl) (ht _ kw_904) (fun _ h9 => h9) rfl dX7_notes_1 ?_
  refine lv_iconst (v := 0) hx hb dX7_notes_4 (by decide) ?_
  refine va_iald hx hb hK hP 1 0 rfl rfl (vin (by decide)) dX7_notes_5 ?_
  refine q_i (z := 0) (by decide) ?_
  exact q_iret hX hr hlk () rfl (hP.sub [0, 1] rfl) (hD.sub [0, 1] (by decide) rfl) hS dX7_notes_6
abbrev w_m_isNote (cI cZ cP : ClassId) (mo : Nat) (a_now : Nat) (a_kep : Nat) (a_isk : Nat) (a_ref : Nat) (a_cw : Nat) (a_row : Nat) (a_lea : Nat) (a_sli : Nat) (a_lef : Nat) (a_bst : Nat) (a_try : Nat) (a_mom : Nat) (a_byt : Nat) (a_nxt : Nat) (a_val : Nat) (p0 : Int32) : va_W := [(mo, .inr (7, [.ref a_now, .ref a_kep, .ref a_isk, .ref a_ref, .long 0, .long 1, .int 0, .int 0, .int 0, .int 0, .ref a_cw, .ref a_row, .int 0, .ref a_lea, .ref a_sli, .ref a_lef, .ref a_bst, .ref a_try, .int 0, .ref a_mom, .ref a_byt, .int 0, .int 0, .int 0, .int 0, .int 0, .ref a_nxt, .ref a_val])), (a_now, .inl (cI, 221, .inl nw0))]
set_option maxHeartbeats 4000000 in
set_option maxRecDepth 100000 in
theorem c_m_isNote (l : Launch) (D : va_G) (cI cZ cP : ClassId) (sa : Nat → Nat) (mo : Nat) (a_now : Nat) (a_kep : Nat) (a_isk : Nat) (a_ref : Nat) (a_cw : Nat) (a_row : Nat) (a_lea : Nat) (a_sli : Nat) (a_lef : Nat) (a_bst : Nat) (a_try : Nat) (a_mom : Nat) (a_byt : Nat) (a_nxt : Nat) (a_val : Nat) (p0 : Int32) (sz : Nat) : Met l yX7_isNote (qW yX7_isNote cX7_isNote 2 (some .boolean)) ({ frames := 1, cells := 0, slots := 0, locals := 25 } : Room) (qP D (TY cI cZ cP) sa [.ref mo, .int p0] (w_m_isNote cI cZ cP mo a_now a_kep a_isk a_ref a_cw a_row a_lea a_sli a_lef a_bst a_try a_mom a_byt a_nxt a_val p0) sz) (qQi D (w_m_isNote cI cZ cP mo a_now a_kep a_isk a_ref a_cw a_row a_lea a_sli a_lef a_bst a_try a_mom a_byt a_nxt a_val p0) sz (fun (r : Int32) (_ : Unit) => r = 0) (fun _ => [(mo, .inr (7, [.ref a_now, .ref a_kep, .ref a_isk, .ref a_ref, .long 0, .long 1, .int 0, .int 0, .int 0, .int 0, .ref a_cw, .ref a_row, .int 0, .ref a_lea, .ref a_sli, .ref a_lef, .ref a_bst, .ref a_try, .int 0, .ref a_mom, .ref a_byt, .int 0, .int 0, .int 0, .int 0, .int 0, .ref a_nxt, .ref a_val])), (a_now, .inl (cI, 221, .inl nw0))])) 0 0 (va_A (w_m_isNote cI cZ cP mo a_now a_kep a_isk a_ref a_cw a_row a_lea a_sli a_lef a_bst a_try a_mom a_byt a_nxt a_val p0) sz) := by
  refine q_enter (by decide) (Nat.le_of_ble_eq_true rfl) ?_
  intro p e s m below meth c ls hX hr hlk hnm hE hK hP hD hS hA hl
  obtain ⟨hx, hb, hml, hown, ht⟩ := id hX
  have hl : lv_has ls 2 [(0, .ref mo), (1, .int p0)] := hl
  refine lv_iload_n hx hb dX7_isNote_0 rfl (lv_at hl 1 rfl) ?_
  refine lv_i2l (v := (p0.toInt64)) hx hb dX7_isNote_1 rfl ?_
  refine lv_lconst (v := 0) hx hb dX7_isNote_2 (by decide) ?_
  refine q_l (z := ((0 : Int32).toInt64)) (by decide) ?_
  refine lv_aload_n hx hb dX7_isNote_3 rfl (lv_at hl 0 rfl) ?_
  refine q_Vi (wr := []) [0, 1] [] hX hE hK hP hD hS hA hl.1 lk_X7_64 (c_m_notes l D cI cZ cP sa mo a_now a_kep a_isk a_ref a_cw a_row a_lea a_sli a_lef a_bst a_try a_mom a_byt a_nxt a_val 0 1 0 0 0 0 0 0 0 0 0 0 0 _) rfl rfl rfl rfl (by decide) 0 7 rfl rfl rfl rfl (Nat.le_of_ble_eq_true rfl) rfl rfl ⟨Nat.le_of_ble_eq_true rfl, Nat.le_of_ble_eq_true rfl⟩ ⟨Nat.le_of_ble_eq_true rfl, Nat.le_of_ble_eq_true rfl⟩ dX7_isNote_4 (fun x_1 _ H locs h_1 hP hD hS => ?_)
  have hP : va_P D vwCl [(mo, .inr (7, [.ref a_now, .ref a_kep, .ref a_isk, .ref a_ref, .long 0, .long 1, .int 0, .int 0, .int 0, .int 0, .ref a_cw, .ref a_row, .int 0, .ref a_lea, .ref a_sli, .ref a_lef, .ref a_bst, .ref a_try, .int 0, .ref a_mom, .ref a_byt, .int 0, .int 0, .int 0, .int 0, .int 0, .ref a_nxt, .ref a_val])), (a_now, .inl (cI, 221, .inl nw0))] H := hP
  have hD : va_D (va_A (w_m_isNote cI cZ cP mo a_now a_kep a_isk a_ref a_cw a_row a_lea a_sli a_lef a_bst a_try a_mom a_byt a_nxt a_val p0) sz) [(mo, .inr (7, [.ref a_now, .ref a_kep, .ref a_isk, .ref a_ref, .long 0, .long 1, .int 0, .int 0, .int 0, .int 0, .ref a_cw, .ref a_row, .int 0, .ref a_lea, .ref a_sli, .ref a_lef, .ref a_bst, .ref a_try, .int 0, .ref a_mom, .ref a_byt, .int 0, .int 0, .int 0, .int 0, .int 0, .ref a_nxt, .ref a_val])), (a_now, .inl (cI, 221, .inl nw0))] := hD
  subst h_1
  refine lv_iconst (v := 1) hx hb dX7_isNote_7 (by decide) ?_
  refine lv_isub hx hb dX7_isNote_8 ?_
  refine q_i (z := (-1)) (by decide) ?_
  refine lv_i2l (v := ((-1 : Int32).toInt64)) hx hb dX7_isNote_9 rfl ?_
  refine q_Si (wr := [(mo, .inr (7, [.ref a_now, .ref a_kep, .ref a_isk, .ref a_ref, .long 0, .long 1, .int 0, .int 0, .int 0, .int 0, .ref a_cw, .ref a_row, .int 0, .ref a_lea, .ref a_sli, .ref a_lef, .ref a_bst, .ref a_try, .int 0, .ref a_mom, .ref a_byt, .int 0, .int 0, .int 0, .int 0, .int 0, .ref a_nxt, .ref a_val])), (a_now, .inl (cI, 221, .inl nw0))]) [] [0, 1] hX hE hK hP hD hS hA hl.1 lk_X7_68 (c_m_in l D cI cZ cP sa p0 0 (-1) _) rfl rfl rfl rfl (by decide) rfl rfl (Nat.le_of_ble_eq_true rfl) rfl rfl ⟨Nat.le_of_ble_eq_true rfl, Nat.le_of_ble_eq_true rfl⟩ ⟨Nat.le_of_ble_eq_true rfl, Nat.le_of_ble_eq_true rfl⟩ dX7_isNote_10 (fun x_2 _ H locs h_2 hP hD hS => ?_)
  have hP : va_P D vwCl [(mo, .inr (7, [.ref a_now, .ref a_kep, .ref a_isk, .ref a_ref, .long 0, .long 1, .int 0, .int 0, .int 0, .int 0, .ref a_cw, .ref a_row, .int 0, .ref a_lea, .ref a_sli, .ref a_lef, .ref a_bst, .ref a_try, .int 0, .ref a_mom, .ref a_byt, .int 0, .int 0, .int 0, .int 0, .int 0, .ref a_nxt, .ref a_val])), (a_now, .inl (cI, 221, .inl nw0))] H := hP
  have hD : va_D (va_A (w_m_isNote cI cZ cP mo a_now a_kep a_isk a_ref a_cw a_row a_lea a_sli a_lef a_bst a_try a_mom a_byt a_nxt a_val p0) sz) [(mo, .inr (7, [.ref a_now, .ref a_kep, .ref a_isk, .ref a_ref, .long 0, .long 1, .int 0, .int 0, .int 0, .int 0, .ref a_cw, .ref a_row, .int 0, .ref a_lea, .ref a_sli, .ref a_lef, .ref a_bst, .ref a_try, .int 0, .ref a_mom, .ref a_byt, .int 0, .int 0, .int 0, .int 0, .int 0, .ref a_nxt, .ref a_val])), (a_now, .inl (cI, 221, .inl nw0))] := hD
  rw [if_neg (no_neg p0)] at h_2; subst h_2
  exact q_zret hX hr hlk (by decide) () rfl (hP.sub [0, 1] rfl) (hD.sub [0, 1] (by decide) rfl) hS dX7_isNote_13
abbrev w_m_isHand (cI cZ cP : ClassId) (p0 : Int32) : va_W := []
set_option maxHeartbeats 4000000 in
set_option maxRecDepth 100000 in
theorem c_m_isHand (l : Launch) (D : va_G) (cI cZ cP : ClassId) (sa : Nat → Nat) (p0 : Int32) (sz : Nat) : Met l yX7_isHand (qW yX7_isHand cX7_isHand 1 (some .boolean)) ({ frames := 1, cells := 0, slots := 0, locals := 25 } : Room) (qP D (TY cI cZ cP) sa [.int p0] (w_m_isHand cI cZ cP p0) sz) (qQi D (w_m_isHand cI cZ cP p0) sz (fun (r : Int32) (_ : Unit) => r = if 0 ≤ p0 ∧ p0 ≤ 3 then 1 else 0) (fun _ => [])) 0 0 (va_A (w_m_isHand cI cZ cP p0) sz) := by
  refine q_enter (by decide) (Nat.le_of_ble_eq_true rfl) ?_
  intro p e s m below meth c ls hX hr hlk hnm hE hK hP hD hS hA hl
  obtain ⟨hx, hb, hml, hown, ht⟩ := id hX
  have hl : lv_has ls 1 [(0, .int p0)] := hl
  refine lv_iload_n hx hb dX7_isHand_0 rfl (lv_at hl 0 rfl) ?_
  refine lv_i2l (v := (p0.toInt64)) hx hb dX7_isHand_1 rfl ?_
  refine lv_lconst (v := 0) hx hb dX7_isHand_2 (by decide) ?_
  refine q_l (z := ((0 : Int32).toInt64)) (by decide) ?_
  refine lv_ldc2 hx hb hown (ht _ kw_1013) dX7_isHand_3 ?_
  refine q_l (z := ((3 : Int32).toInt64)) (by decide) ?_
  refine q_Si (wr := []) [] [] hX hE hK hP hD hS hA hl.1 lk_X7_68 (c_m_in l D cI cZ cP sa p0 0 3 _) rfl rfl rfl rfl (by decide) rfl rfl (Nat.le_of_ble_eq_true rfl) rfl rfl ⟨Nat.le_of_ble_eq_true rfl, Nat.le_of_ble_eq_true rfl⟩ ⟨Nat.le_of_ble_eq_true rfl, Nat.le_of_ble_eq_true rfl⟩ dX7_isHand_6 (fun x_1 _ H locs h_1 hP hD hS => ?_)
  have hP : va_P D vwCl [] H := hP
  have hD : va_D (va_A (w_m_isHand cI cZ cP p0) sz) [] := hD
  rcases Classical.em (0 ≤ p0 ∧ p0 ≤ 3) with c_1 | c_1
  · rw [if_pos c_1] at h_1; subst h_1
    exact q_zret hX hr hlk (by decide) () (by rw [if_pos c_1]) (hP.sub [] rfl) (hD.sub [] (by decide) rfl) hS dX7_isHand_9
  · rw [if_neg c_1] at h_1; subst h_1
    exact q_zret hX hr hlk (by decide) () (by rw [if_neg c_1]) (hP.sub [] rfl) (hD.sub [] (by decide) rfl) hS dX7_isHand_9
abbrev w_m_give (cI cZ cP : ClassId) (mo : Nat) (a_now : Nat) (a_kep : Nat) (a_isk : Nat) (a_ref : Nat) (a_cw : Nat) (a_row : Nat) (a_lea : Nat) (a_sli : Nat) (a_lef : Nat) (a_bst : Nat) (a_try : Nat) (a_mom : Nat) (a_byt : Nat) (a_nxt : Nat) (a_val : Nat) (p0 : Int32) (p1 : Int32) : va_W := [(mo, .inr (7, [.ref a_now, .ref a_kep, .ref a_isk, .ref a_ref, .long 0, .long 1, .int 0, .int 0, .int 0, .int 0, .ref a_cw, .ref a_row, .int 0, .ref a_lea, .ref a_sli, .ref a_lef, .ref a_bst, .ref a_try, .int 0, .ref a_mom, .ref a_byt, .int 0, .int 0, .int 0, .int 0, .int 0, .ref a_nxt, .ref a_val])), (a_now, .inl (cI, 221, .inl nw0)), (a_ref, .inl (cI, 3, .inl (fun _ => 0)))]
set_option maxHeartbeats 4000000 in
set_option maxRecDepth 100000 in
theorem c_m_give (l : Launch) (D : va_G) (cI cZ cP : ClassId) (sa : Nat → Nat) (mo : Nat) (a_now : Nat) (a_kep : Nat) (a_isk : Nat) (a_ref : Nat) (a_cw : Nat) (a_row : Nat) (a_lea : Nat) (a_sli : Nat) (a_lef : Nat) (a_bst : Nat) (a_try : Nat) (a_mom : Nat) (a_byt : Nat) (a_nxt : Nat) (a_val : Nat) (p0 : Int32) (p1 : Int32) (sz : Nat) : Met l yX7_give (qW yX7_give cX7_give 3 (some .int)) ({ frames := 2, cells := 0, slots := 0, locals := 46 } : Room) (qP D (TY cI cZ cP) sa [.ref mo, .int p0, .int p1] (w_m_give cI cZ cP mo a_now a_kep a_isk a_ref a_cw a_row a_lea a_sli a_lef a_bst a_try a_mom a_byt a_nxt a_val p0 p1) sz) (qQi D (w_m_give cI cZ cP mo a_now a_kep a_isk a_ref a_cw a_row a_lea a_sli a_lef a_bst a_try a_mom a_byt a_nxt a_val p0 p1) sz (fun (r : Int32) (_ : Unit) => r = (-2)) (fun _ => [])) 0 0 (va_A (w_m_give cI cZ cP mo a_now a_kep a_isk a_ref a_cw a_row a_lea a_sli a_lef a_bst a_try a_mom a_byt a_nxt a_val p0 p1) sz) := by
  refine q_enter (by decide) (Nat.le_of_ble_eq_true rfl) ?_
  intro p e s m below meth c ls hX hr hlk hnm hE hK hP hD hS hA hl
  obtain ⟨hx, hb, hml, hown, ht⟩ := id hX
  have hl : lv_has ls 3 [(0, .ref mo), (1, .int p0), (2, .int p1)] := hl
  refine lv_aload_n hx hb dX7_give_0 rfl (lv_at hl 0 rfl) ?_
  refine lv_iload_n hx hb dX7_give_1 rfl (lv_at hl 1 rfl) ?_
  refine q_Vi (wr := [(a_ref, .inl (cI, 3, .inl (fun _ => 0)))]) [0, 1] [2] hX hE hK hP hD hS hA hl.1 lk_X7_142 (c_m_isNote l D cI cZ cP sa mo a_now a_kep a_isk a_ref a_cw a_row a_lea a_sli a_lef a_bst a_try a_mom a_byt a_nxt a_val p0 _) rfl rfl rfl rfl (by decide) 0 7 rfl rfl rfl rfl (Nat.le_of_ble_eq_true rfl) rfl rfl ⟨Nat.le_of_ble_eq_true rfl, Nat.le_of_ble_eq_true rfl⟩ ⟨Nat.le_of_ble_eq_true rfl, Nat.le_of_ble_eq_true rfl⟩ dX7_give_2 (fun x_1 _ H locs h_1 hP hD hS => ?_)
  have hP : va_P D vwCl [(a_ref, .inl (cI, 3, .inl (fun _ => 0))), (mo, .inr (7, [.ref a_now, .ref a_kep, .ref a_isk, .ref a_ref, .long 0, .long 1, .int 0, .int 0, .int 0, .int 0, .ref a_cw, .ref a_row, .int 0, .ref a_lea, .ref a_sli, .ref a_lef, .ref a_bst, .ref a_try, .int 0, .ref a_mom, .ref a_byt, .int 0, .int 0, .int 0, .int 0, .int 0, .ref a_nxt, .ref a_val])), (a_now, .inl (cI, 221, .inl nw0))] H := hP
  have hD : va_D (va_A (w_m_give cI cZ cP mo a_now a_kep a_isk a_ref a_cw a_row a_lea a_sli a_lef a_bst a_try a_mom a_byt a_nxt a_val p0 p1) sz) [(a_ref, .inl (cI, 3, .inl (fun _ => 0))), (mo, .inr (7, [.ref a_now, .ref a_kep, .ref a_isk, .ref a_ref, .long 0, .long 1, .int 0, .int 0, .int 0, .int 0, .ref a_cw, .ref a_row, .int 0, .ref a_lea, .ref a_sli, .ref a_lef, .ref a_bst, .ref a_try, .int 0, .ref a_mom, .ref a_byt, .int 0, .int 0, .int 0, .int 0, .int 0, .ref a_nxt, .ref a_val])), (a_now, .inl (cI, 221, .inl nw0))] := hD
  subst h_1
  refine lv_if_eq (tgt := 22) hx hb dX7_give_5 (by decide) (fun _ => ?_) (fun c_2 => absurd (by decide) c_2)
  refine lv_aload_n hx hb dX7_give_22 rfl (lv_at hl 0 rfl) ?_
  refine lv_bipush (v := (-2)) hx hb dX7_give_23 (by decide) ?_
  refine q_Vi (wr := [(a_now, .inl (cI, 221, .inl nw0))]) [1, 0] [2] hX hE hK hP hD hS hA hl.1 lk_X7_76 (c_m_bad l D cI cZ cP sa mo a_now a_kep a_isk a_ref a_cw a_row a_lea a_sli a_lef a_bst a_try a_mom a_byt a_nxt a_val 0 1 0 0 0 0 0 0 0 0 0 0 0 (-2) _) rfl rfl rfl rfl (by decide) 0 7 rfl rfl rfl rfl (Nat.le_of_ble_eq_true rfl) rfl rfl ⟨Nat.le_of_ble_eq_true rfl, Nat.le_of_ble_eq_true rfl⟩ ⟨Nat.le_of_ble_eq_true rfl, Nat.le_of_ble_eq_true rfl⟩ dX7_give_25 (fun x_3 _ H locs h_3 hP hD hS => ?_)
  have hP : va_P D vwCl [(a_now, .inl (cI, 221, .inl nw0))] H := hP
  have hD : va_D (va_A (w_m_give cI cZ cP mo a_now a_kep a_isk a_ref a_cw a_row a_lea a_sli a_lef a_bst a_try a_mom a_byt a_nxt a_val p0 p1) sz) [(a_now, .inl (cI, 221, .inl nw0))] := hD
  subst h_3
  exact q_iret hX hr hlk () rfl (hP.sub [] rfl) (hD.sub [] (by decide) rfl) hS dX7_give_28
abbrev w_m_of (cI cZ cP : ClassId) (mo : Nat) (a_now : Nat) (a_kep : Nat) (a_isk : Nat) (a_ref : Nat) (a_cw : Nat) (a_row : Nat) (a_lea : Nat) (a_sli : Nat) (a_lef : Nat) (a_bst : Nat) (a_try : Nat) (a_mom : Nat) (a_byt : Nat) (a_nxt : Nat) (a_val : Nat) (p0 : Int32) (p1 : Int32) : va_W := [(mo, .inr (7, [.ref a_now, .ref a_kep, .ref a_isk, .ref a_ref, .long 0, .long 1, .int 0, .int 0, .int 0, .int 0, .ref a_cw, .ref a_row, .int 0, .ref a_lea, .ref a_sli, .ref a_lef, .ref a_bst, .ref a_try, .int 0, .ref a_mom, .ref a_byt, .int 0, .int 0, .int 0, .int 0, .int 0, .ref a_nxt, .ref a_val])), (a_now, .inl (cI, 221, .inl nw0)), (a_ref, .inl (cI, 3, .inl (fun _ => 0)))]
set_option maxHeartbeats 4000000 in
set_option maxRecDepth 100000 in
theorem c_m_of (l : Launch) (D : va_G) (cI cZ cP : ClassId) (sa : Nat → Nat) (mo : Nat) (a_now : Nat) (a_kep : Nat) (a_isk : Nat) (a_ref : Nat) (a_cw : Nat) (a_row : Nat) (a_lea : Nat) (a_sli : Nat) (a_lef : Nat) (a_bst : Nat) (a_try : Nat) (a_mom : Nat) (a_byt : Nat) (a_nxt : Nat) (a_val : Nat) (p0 : Int32) (p1 : Int32) (sz : Nat) : Met l yX7_of (qW yX7_of cX7_of 3 (some .int)) ({ frames := 2, cells := 0, slots := 0, locals := 46 } : Room) (qP D (TY cI cZ cP) sa [.ref mo, .int p0, .int p1] (w_m_of cI cZ cP mo a_now a_kep a_isk a_ref a_cw a_row a_lea a_sli a_lef a_bst a_try a_mom a_byt a_nxt a_val p0 p1) sz) (qQi D (w_m_of cI cZ cP mo a_now a_kep a_isk a_ref a_cw a_row a_lea a_sli a_lef a_bst a_try a_mom a_byt a_nxt a_val p0 p1) sz (fun (r : Int32) (_ : Unit) => r = (-10)) (fun _ => [])) 0 0 (va_A (w_m_of cI cZ cP mo a_now a_kep a_isk a_ref a_cw a_row a_lea a_sli a_lef a_bst a_try a_mom a_byt a_nxt a_val p0 p1) sz) := by
  refine q_enter (by decide) (Nat.le_of_ble_eq_true rfl) ?_
  intro p e s m below meth c ls hX hr hlk hnm hE hK hP hD hS hA hl
  obtain ⟨hx, hb, hml, hown, ht⟩ := id hX
  have hl : lv_has ls 3 [(0, .ref mo), (1, .int p0), (2, .int p1)] := hl
  refine lv_aload_n hx hb dX7_of_0 rfl (lv_at hl 0 rfl) ?_
  refine lv_iload_n hx hb dX7_of_1 rfl (lv_at hl 1 rfl) ?_
  refine q_Vi (wr := [(a_ref, .inl (cI, 3, .inl (fun _ => 0)))]) [0, 1] [2] hX hE hK hP hD hS hA hl.1 lk_X7_142 (c_m_isNote l D cI cZ cP sa mo a_now a_kep a_isk a_ref a_cw a_row a_lea a_sli a_lef a_bst a_try a_mom a_byt a_nxt a_val p0 _) rfl rfl rfl rfl (by decide) 0 7 rfl rfl rfl rfl (Nat.le_of_ble_eq_true rfl) rfl rfl ⟨Nat.le_of_ble_eq_true rfl, Nat.le_of_ble_eq_true rfl⟩ ⟨Nat.le_of_ble_eq_true rfl, Nat.le_of_ble_eq_true rfl⟩ dX7_of_2 (fun x_1 _ H locs h_1 hP hD hS => ?_)
  have hP : va_P D vwCl [(a_ref, .inl (cI, 3, .inl (fun _ => 0))), (mo, .inr (7, [.ref a_now, .ref a_kep, .ref a_isk, .ref a_ref, .long 0, .long 1, .int 0, .int 0, .int 0, .int 0, .ref a_cw, .ref a_row, .int 0, .ref a_lea, .ref a_sli, .ref a_lef, .ref a_bst, .ref a_try, .int 0, .ref a_mom, .ref a_byt, .int 0, .int 0, .int 0, .int 0, .int 0, .ref a_nxt, .ref a_val])), (a_now, .inl (cI, 221, .inl nw0))] H := hP
  have hD : va_D (va_A (w_m_of cI cZ cP mo a_now a_kep a_isk a_ref a_cw a_row a_lea a_sli a_lef a_bst a_try a_mom a_byt a_nxt a_val p0 p1) sz) [(a_ref, .inl (cI, 3, .inl (fun _ => 0))), (mo, .inr (7, [.ref a_now, .ref a_kep, .ref a_isk, .ref a_ref, .long 0, .long 1, .int 0, .int 0, .int 0, .int 0, .ref a_cw, .ref a_row, .int 0, .ref a_lea, .ref a_sli, .ref a_lef, .ref a_bst, .ref a_try, .int 0, .ref a_mom, .ref a_byt, .int 0, .int 0, .int 0, .int 0, .int 0, .ref a_nxt, .ref a_val])), (a_now, .inl (cI, 221, .inl nw0))] := hD
  subst h_1
  refine lv_if_eq (tgt := 29) hx hb dX7_of_5 (by decide) (fun _ => ?_) (fun c_2 => absurd (by decide) c_2)
  refine lv_aload_n hx hb dX7_of_29 rfl (lv_at hl 0 rfl) ?_
  refine lv_bipush (v := (-10)) hx hb dX7_of_30 (by decide) ?_
  refine q_Vi (wr := [(a_now, .inl (cI, 221, .inl nw0))]) [1, 0] [2] hX hE hK hP hD hS hA hl.1 lk_X7_76 (c_m_bad l D cI cZ cP sa mo a_now a_kep a_isk a_ref a_cw a_row a_lea a_sli a_lef a_bst a_try a_mom a_byt a_nxt a_val 0 1 0 0 0 0 0 0 0 0 0 0 0 (-10) _) rfl rfl rfl rfl (by decide) 0 7 rfl rfl rfl rfl (Nat.le_of_ble_eq_true rfl) rfl rfl ⟨Nat.le_of_ble_eq_true rfl, Nat.le_of_ble_eq_true rfl⟩ ⟨Nat.le_of_ble_eq_true rfl, Nat.le_of_ble_eq_true rfl⟩ dX7_of_32 (fun x_3 _ H locs h_3 hP hD hS => ?_)
  have hP : va_P D vwCl [(a_now, .inl (cI, 221, .inl nw0))] H := hP
  have hD : va_D (va_A (w_m_of cI cZ cP mo a_now a_kep a_isk a_ref a_cw a_row a_lea a_sli a_lef a_bst a_try a_mom a_byt a_nxt a_val p0 p1) sz) [(a_now, .inl (cI, 221, .inl nw0))] := hD
  subst h_3
  exact q_iret hX hr hlk () rfl (hP.sub [] rfl) (hD.sub [] (by decide) rfl) hS dX7_of_35
abbrev w_m_clash (cI cZ cP : ClassId) (mo : Nat) (a_now : Nat) (a_kep : Nat) (a_isk : Nat) (a_ref : Nat) (a_cw : Nat) (a_row : Nat) (a_lea : Nat) (a_sli : Nat) (a_lef : Nat) (a_bst : Nat) (a_try : Nat) (a_mom : Nat) (a_byt : Nat) (a_nxt : Nat) (a_val : Nat) (p0 : Int32) (p1 : Int32) : va_W := [(mo, .inr (7, [.ref a_now, .ref a_kep, .ref a_isk, .ref a_ref, .long 0, .long 1, .int 0, .int 0, .int 0, .int 0, .ref a_cw, .ref a_row, .int 0, .ref a_lea, .ref a_sli, .ref a_lef, .ref a_bst, .ref a_try, .int 0, .ref a_mom, .ref a_byt, .int 0, .int 0, .int 0, .int 0, .int 0, .ref a_nxt, .ref a_val])), (a_now, .inl (cI, 221, .inl nw0)), (a_ref, .inl (cI, 3, .inl (fun _ => 0)))]
set_option maxHeartbeats 4000000 in
set_option maxRecDepth 100000 in
theorem c_m_clash (l : Launch) (D : va_G) (cI cZ cP : ClassId) (sa : Nat → Nat) (mo : Nat) (a_now : Nat) (a_kep : Nat) (a_isk : Nat) (a_ref : Nat) (a_cw : Nat) (a_row : Nat) (a_lea : Nat) (a_sli : Nat) (a_lef : Nat) (a_bst : Nat) (a_try : Nat) (a_mom : Nat) (a_byt : Nat) (a_nxt : Nat) (a_val : Nat) (p0 : Int32) (p1 : Int32) (sz : Nat) : Met l yX7_clash (qW yX7_clash cX7_clash 3 (some .int)) ({ frames := 2, cells := 0, slots := 0, locals := 46 } : Room) (qP D (TY cI cZ cP) sa [.ref mo, .int p0, .int p1] (w_m_clash cI cZ cP mo a_now a_kep a_isk a_ref a_cw a_row a_lea a_sli a_lef a_bst a_try a_mom a_byt a_nxt a_val p0 p1) sz) (qQi D (w_m_clash cI cZ cP mo a_now a_kep a_isk a_ref a_cw a_row a_lea a_sli a_lef a_bst a_try a_mom a_byt a_nxt a_val p0 p1) sz (fun (r : Int32) (_ : Unit) => r = (-2)) (fun _ => [])) 0 0 (va_A (w_m_clash cI cZ cP mo a_now a_kep a_isk a_ref a_cw a_row a_lea a_sli a_lef a_bst a_try a_mom a_byt a_nxt a_val p0 p1) sz) := by
  refine q_enter (by decide) (Nat.le_of_ble_eq_true rfl) ?_
  intro p e s m below meth c ls hX hr hlk hnm hE hK hP hD hS hA hl
  obtain ⟨hx, hb, hml, hown, ht⟩ := id hX
  have hl : lv_has ls 3 [(0, .ref mo), (1, .int p0), (2, .int p1)] := hl
  refine lv_aload_n hx hb dX7_clash_0 rfl (lv_at hl 0 rfl) ?_
  refine lv_iload_n hx hb dX7_clash_1 rfl (lv_at hl 1 rfl) ?_
  refine q_Vi (wr := [(a_ref, .inl (cI, 3, .inl (fun _ => 0)))]) [0, 1] [2] hX hE hK hP hD hS hA hl.1 lk_X7_142 (c_m_isNote l D cI cZ cP sa mo a_now a_kep a_isk a_ref a_cw a_row a_lea a_sli a_lef a_bst a_try a_mom a_byt a_nxt a_val p0 _) rfl rfl rfl rfl (by decide) 0 7 rfl rfl rfl rfl (Nat.le_of_ble_eq_true rfl) rfl rfl ⟨Nat.le_of_ble_eq_true rfl, Nat.le_of_ble_eq_true rfl⟩ ⟨Nat.le_of_ble_eq_true rfl, Nat.le_of_ble_eq_true rfl⟩ dX7_clash_2 (fun x_1 _ H locs h_1 hP hD hS => ?_)
  have hP : va_P D vwCl [(a_ref, .inl (cI, 3, .inl (fun _ => 0))), (mo, .inr (7, [.ref a_now, .ref a_kep, .ref a_isk, .ref a_ref, .long 0, .long 1, .int 0, .int 0, .int 0, .int 0, .ref a_cw, .ref a_row, .int 0, .ref a_lea, .ref a_sli, .ref a_lef, .ref a_bst, .ref a_try, .int 0, .ref a_mom, .ref a_byt, .int 0, .int 0, .int 0, .int 0, .int 0, .ref a_nxt, .ref a_val])), (a_now, .inl (cI, 221, .inl nw0))] H := hP
  have hD : va_D (va_A (w_m_clash cI cZ cP mo a_now a_kep a_isk a_ref a_cw a_row a_lea a_sli a_lef a_bst a_try a_mom a_byt a_nxt a_val p0 p1) sz) [(a_ref, .inl (cI, 3, .inl (fun _ => 0))), (mo, .inr (7, [.ref a_now, .ref a_kep, .ref a_isk, .ref a_ref, .long 0, .long 1, .int 0, .int 0, .int 0, .int 0, .ref a_cw, .ref a_row, .int 0, .ref a_lea, .ref a_sli, .ref a_lef, .ref a_bst, .ref a_try, .int 0, .ref a_mom, .ref a_byt, .int 0, .int 0, .int 0, .int 0, .int 0, .ref a_nxt, .ref a_val])), (a_now, .inl (cI, 221, .inl nw0))] := hD
  subst h_1
  refine lv_if_eq (tgt := 30) hx hb dX7_clash_5 (by decide) (fun _ => ?_) (fun c_2 => absurd (by decide) c_2)
  refine lv_aload_n hx hb dX7_clash_30 rfl (lv_at hl 0 rfl) ?_
  refine lv_bipush (v := (-2)) hx hb dX7_clash_31 (by decide) ?_
  refine q_Vi (wr := [(a_now, .inl (cI, 221, .inl nw0))]) [1, 0] [2] hX hE hK hP hD hS hA hl.1 lk_X7_76 (c_m_bad l D cI cZ cP sa mo a_now a_kep a_isk a_ref a_cw a_row a_lea a_sli a_lef a_bst a_try a_mom a_byt a_nxt a_val 0 1 0 0 0 0 0 0 0 0 0 0 0 (-2) _) rfl rfl rfl rfl (by decide) 0 7 rfl rfl rfl rfl (Nat.le_of_ble_eq_true rfl) rfl rfl ⟨Nat.le_of_ble_eq_true rfl, Nat.le_of_ble_eq_true rfl⟩ ⟨Nat.le_of_ble_eq_true rfl, Nat.le_of_ble_eq_true rfl⟩ dX7_clash_33 (fun x_3 _ H locs h_3 hP hD hS => ?_)
  have hP : va_P D vwCl [(a_now, .inl (cI, 221, .inl nw0))] H := hP
  have hD : va_D (va_A (w_m_clash cI cZ cP mo a_now a_kep a_isk a_ref a_cw a_row a_lea a_sli a_lef a_bst a_try a_mom a_byt a_nxt a_val p0 p1) sz) [(a_now, .inl (cI, 221, .inl nw0))] := hD
  subst h_3
  exact q_iret hX hr hlk () rfl (hP.sub [] rfl) (hD.sub [] (by decide) rfl) hS dX7_clash_36
abbrev w_m_heard (cI cZ cP : ClassId) (mo : Nat) (a_now : Nat) (a_kep : Nat) (a_isk : Nat) (a_ref : Nat) (a_cw : Nat) (a_row : Nat) (a_lea : Nat) (a_sli : Nat) (a_lef : Nat) (a_bst : Nat) (a_try : Nat) (a_mom : Nat) (a_byt : Nat) (a_nxt : Nat) (a_val : Nat) (p0 : Int32) (p1 : Int32) : va_W := [(mo, .inr (7, [.ref a_now, .ref a_kep, .ref a_isk, .ref a_ref, .long 0, .long 1, .int 0, .int 0, .int 0, .int 0, .ref a_cw, .ref a_row, .int 0, .ref a_lea, .ref a_sli, .ref a_lef, .ref a_bst, .ref a_try, .int 0, .ref a_mom, .ref a_byt, .int 0, .int 0, .int 0, .int 0, .int 0, .ref a_nxt, .ref a_val])), (a_now, .inl (cI, 221, .inl nw0)), (a_ref, .inl (cI, 3, .inl (fun _ => 0)))]
set_option maxHeartbeats 4000000 in
set_option maxRecDepth 100000 in
theorem c_m_heard (l : Launch) (D : va_G) (cI cZ cP : ClassId) (sa : Nat → Nat) (mo : Nat) (a_now : Nat) (a_kep : Nat) (a_isk : Nat) (a_ref : Nat) (a_cw : Nat) (a_row : Nat) (a_lea : Nat) (a_sli : Nat) (a_lef : Nat) (a_bst : Nat) (a_try : Nat) (a_mom : Nat) (a_byt : Nat) (a_nxt : Nat) (a_val : Nat) (p0 : Int32) (p1 : Int32) (sz : Nat) : Met l yX7_heard (qW yX7_heard cX7_heard 4 (some .int)) ({ frames := 2, cells := 0, slots := 0, locals := 46 } : Room) (qP D (TY cI cZ cP) sa [.ref mo, .int p0, .int p1] (w_m_heard cI cZ cP mo a_now a_kep a_isk a_ref a_cw a_row a_lea a_sli a_lef a_bst a_try a_mom a_byt a_nxt a_val p0 p1) sz) (qQi D (w_m_heard cI cZ cP mo a_now a_kep a_isk a_ref a_cw a_row a_lea a_sli a_lef a_bst a_try a_mom a_byt a_nxt a_val p0 p1) sz (fun (r : Int32) (_ : Unit) => r = (-10)) (fun _ => [])) 0 0 (va_A (w_m_heard cI cZ cP mo a_now a_kep a_isk a_ref a_cw a_row a_lea a_sli a_lef a_bst a_try a_mom a_byt a_nxt a_val p0 p1) sz) := by
  refine q_enter (by decide) (Nat.le_of_ble_eq_true rfl) ?_
  intro p e s m below meth c ls hX hr hlk hnm hE hK hP hD hS hA hl
  obtain ⟨hx, hb, hml, hown, ht⟩ := id hX
  have hl : lv_has ls 4 [(0, .ref mo), (1, .int p0), (2, .int p1)] := hl
  refine lv_aload_n hx hb dX7_heard_0 rfl (lv_at hl 0 rfl) ?_
  refine lv_iload_n hx hb dX7_heard_1 rfl (lv_at hl 1 rfl) ?_
  refine q_Vi (wr := [(a_ref, .inl (cI, 3, .inl (fun _ => 0)))]) [0, 1] [2] hX hE hK hP hD hS hA hl.1 lk_X7_142 (c_m_isNote l D cI cZ cP sa mo a_now a_kep a_isk a_ref a_cw a_row a_lea a_sli a_lef a_bst a_try a_mom a_byt a_nxt a_val p0 _) rfl rfl rfl rfl (by decide) 0 7 rfl rfl rfl rfl (Nat.le_of_ble_eq_true rfl) rfl rfl ⟨Nat.le_of_ble_eq_true rfl, Nat.le_of_ble_eq_true rfl⟩ ⟨Nat.le_of_ble_eq_true rfl, Nat.le_of_ble_eq_true rfl⟩ dX7_heard_2 (fun x_1 _ H locs h_1 hP hD hS => ?_)
  have hP : va_P D vwCl [(a_ref, .inl (cI, 3, .inl (fun _ => 0))), (mo, .inr (7, [.ref a_now, .ref a_kep, .ref a_isk, .ref a_ref, .long 0, .long 1, .int 0, .int 0, .int 0, .int 0, .ref a_cw, .ref a_row, .int 0, .ref a_lea, .ref a_sli, .ref a_lef, .ref a_bst, .ref a_try, .int 0, .ref a_mom, .ref a_byt, .int 0, .int 0, .int 0, .int 0, .int 0, .ref a_nxt, .ref a_val])), (a_now, .inl (cI, 221, .inl nw0))] H := hP
  have hD : va_D (va_A (w_m_heard cI cZ cP mo a_now a_kep a_isk a_ref a_cw a_row a_lea a_sli a_lef a_bst a_try a_mom a_byt a_nxt a_val p0 p1) sz) [(a_ref, .inl (cI, 3, .inl (fun _ => 0))), (mo, .inr (7, [.ref a_now, .ref a_kep, .ref a_isk, .ref a_ref, .long 0, .long 1, .int 0, .int 0, .int 0, .int 0, .ref a_cw, .ref a_row, .int 0, .ref a_lea, .ref a_sli, .ref a_lef, .ref a_bst, .ref a_try, .int 0, .ref a_mom, .ref a_byt, .int 0, .int 0, .int 0, .int 0, .int 0, .ref a_nxt, .ref a_val])), (a_now, .inl (cI, 221, .inl nw0))] := hD
  subst h_1
  refine lv_if_eq (tgt := 22) hx hb dX7_heard_5 (by decide) (fun _ => ?_) (fun c_2 => absurd (by decide) c_2)
  refine lv_aload_n hx hb dX7_heard_22 rfl (lv_at hl 0 rfl) ?_
  refine lv_bipush (v := (-10)) hx hb dX7_heard_23 (by decide) ?_
  refine q_Vi (wr := [(a_now, .inl (cI, 221, .inl nw0))]) [1, 0] [2] hX hE hK hP hD hS hA hl.1 lk_X7_76 (c_m_bad l D cI cZ cP sa mo a_now a_kep a_isk a_ref a_cw a_row a_lea a_sli a_lef a_bst a_try a_mom a_byt a_nxt a_val 0 1 0 0 0 0 0 0 0 0 0 0 0 (-10) _) rfl rfl rfl rfl (by decide) 0 7 rfl rfl rfl rfl (Nat.le_of_ble_eq_true rfl) rfl rfl ⟨Nat.le_of_ble_eq_true rfl, Nat.le_of_ble_eq_true rfl⟩ ⟨Nat.le_of_ble_eq_true rfl, Nat.le_of_ble_eq_true rfl⟩ dX7_heard_25 (fun x_3 _ H locs h_3 hP hD hS => ?_)
  have hP : va_P D vwCl [(a_now, .inl (cI, 221, .inl nw0))] H := hP
  have hD : va_D (va_A (w_m_heard cI cZ cP mo a_now a_kep a_isk a_ref a_cw a_row a_lea a_sli a_lef a_bst a_try a_mom a_byt a_nxt a_val p0 p1) sz) [(a_now, .inl (cI, 221, .inl nw0))] := hD
  subst h_3
  exact q_iret hX hr hlk () rfl (hP.sub [] rfl) (hD.sub [] (by decide) rfl) hS dX7_heard_28
abbrev w_m_undo (cI cZ cP : ClassId) (mo : Nat) (a_now : Nat) (a_kep : Nat) (a_isk : Nat) (a_ref : Nat) (a_cw : Nat) (a_row : Nat) (a_lea : Nat) (a_sli : Nat) (a_lef : Nat) (a_bst : Nat) (a_try : Nat) (a_mom : Nat) (a_byt : Nat) (a_nxt : Nat) (a_val : Nat) : va_W := [(mo, .inr (7, [.ref a_now, .ref a_kep, .ref a_isk, .ref a_ref, .long 0, .long 1, .int 0, .int 0, .int 0, .int 0, .ref a_cw, .ref a_row, .int 0, .ref a_lea, .ref a_sli, .ref a_lef, .ref a_bst, .ref a_try, .int 0, .ref a_mom, .ref a_byt, .int 0, .int 0, .int 0, .int 0, .int 0, .ref a_nxt, .ref a_val])), (a_now, .inl (cI, 221, .inl nw0)), (a_ref, .inl (cI, 3, .inl (fun _ => 0)))]
set_option maxHeartbeats 4000000 in
set_option maxRecDepth 100000 in
theorem c_m_undo (l : Launch) (D : va_G) (cI cZ cP : ClassId) (sa : Nat → Nat) (mo : Nat) (a_now : Nat) (a_kep : Nat) (a_isk : Nat) (a_ref : Nat) (a_cw : Nat) (a_row : Nat) (a_lea : Nat) (a_sli : Nat) (a_lef : Nat) (a_bst : Nat) (a_try : Nat) (a_mom : Nat) (a_byt : Nat) (a_nxt : Nat) (a_val : Nat) (sz : Nat) : Met l yX7_undo (qW yX7_undo cX7_undo 2 (some .int)) ({ frames := 1, cells := 0, slots := 0, locals := 21 } : Room) (qP D (TY cI cZ cP) sa [.ref mo] (w_m_undo cI cZ cP mo a_now a_kep a_isk a_ref a_cw a_row a_lea a_sli a_lef a_bst a_try a_mom a_byt a_nxt a_val) sz) (qQi D (w_m_undo cI cZ cP mo a_now a_kep a_isk a_ref a_cw a_row a_lea a_sli a_lef a_bst a_try a_mom a_byt a_nxt a_val) sz (fun (r : Int32) (_ : Unit) => r = (-3)) (fun _ => [])) 0 0 (va_A (w_m_undo cI cZ cP mo a_now a_kep a_isk a_ref a_cw a_row a_lea a_sli a_lef a_bst a_try a_mom a_byt a_nxt a_val) sz) := by
  refine q_enter (by decide) (Nat.le_of_ble_eq_true rfl) ?_
  intro p e s m below meth c ls hX hr hlk hnm hE hK hP hD hS hA hl
  obtain ⟨hx, hb, hml, hown, ht⟩ := id hX
  have hl : lv_has ls 2 [(0, .ref mo)] := hl
  refine lv_aload_n hx hb dX7_undo_0 rfl (lv_at hl 0 rfl) ?_
  refine va_get (D := D) (ci := 7) (v := .ref a_now) (C := RX7) (T := TX7) (N := 28) hx hb ht inX7 hown hK hP 0 rfl rfl 0 (Nat.le_of_ble_eq_true rfl) (ht _ kw_904) (fun _ h9 => h9) rfl dX7_undo_1 ?_
  refine lv_bipush (v := 100) hx hb dX7_undo_4 (by decide) ?_
  refine va_iald hx hb hK hP 1 0 rfl rfl (vin (by decide)) dX7_undo_6 ?_
  refine q_i (z := 0) (by decide) ?_
  refine lv_if_ne (tgt := 17) hx hb dX7_undo_7 (by decide) (fun c_1 => absurd (by decide) c_1) (fun _ => ?_)
  refine lv_aload_n hx hb dX7_undo_10 rfl (lv_at hl 0 rfl) ?_
  refine lv_bipush (v := (-3)) hx hb dX7_undo_11 (by decide) ?_
  refine q_Vi (wr := [(a_now, .inl (cI, 221, .inl nw0))]) [0, 2] [1] hX hE hK hP hD hS hA hl.1 lk_X7_155 (c_m_no l D cI cZ cP sa mo a_now a_kep a_isk a_ref a_cw a_row a_lea a_sli a_lef a_bst a_try a_mom a_byt a_nxt a_val 0 1 0 0 0 0 0 0 0 0 0 0 0 (-3) _) rfl rfl rfl rfl (by decide) 0 7 rfl rfl rfl rfl (Nat.le_of_ble_eq_true rfl) rfl rfl ⟨Nat.le_of_ble_eq_true rfl, Nat.le_of_ble_eq_true rfl⟩ ⟨Nat.le_of_ble_eq_true rfl, Nat.le_of_ble_eq_true rfl⟩ dX7_undo_13 (fun x_2 _ H locs h_2 hP hD hS => ?_)
  have hP : va_P D vwCl [(a_now, .inl (cI, 221, .inl nw0))] H := hP
  have hD : va_D (va_A (w_m_undo cI cZ cP mo a_now a_kep a_isk a_ref a_cw a_row a_lea a_sli a_lef a_bst a_try a_mom a_byt a_nxt a_val) sz) [(a_now, .inl (cI, 221, .inl nw0))] := hD
  subst h_2
  exact q_iret hX hr hlk () rfl (hP.sub [] rfl) (hD.sub [] (by decide) rfl) hS dX7_undo_16
abbrev w_m_kindOf (cI cZ cP : ClassId) (mo : Nat) (a_now : Nat) (a_kep : Nat) (a_isk : Nat) (a_ref : Nat) (a_cw : Nat) (a_row : Nat) (a_lea : Nat) (a_sli : Nat) (a_lef : Nat) (a_bst : Nat) (a_try : Nat) (a_mom : Nat) (a_byt : Nat) (a_nxt : Nat) (a_val : Nat) (p0 : Int32) : va_W := [(mo, .inr (7, [.ref a_now, .ref a_kep, .ref a_isk, .ref a_ref, .long 0, .long 1, .int 0, .int 0, .int 0, .int 0, .ref a_cw, .ref a_row, .int 0, .ref a_lea, .ref a_sli, .ref a_lef, .ref a_bst, .ref a_try, .int 0, .ref a_mom, .ref a_byt, .int 0, .int 0, .int 0, .int 0, .int 0, .ref a_nxt, .ref a_val])), (a_now, .inl (cI, 221, .inl nw0))]
set_option maxHeartbeats 4000000 in
set_option maxRecDepth 100000 in
theorem c_m_kindOf (l : Launch) (D : va_G) (cI cZ cP : ClassId) (sa : Nat → Nat) (mo : Nat) (a_now : Nat) (a_kep : Nat) (a_isk : Nat) (a_ref : Nat) (a_cw : Nat) (a_row : Nat) (a_lea : Nat) (a_sli : Nat) (a_lef : Nat) (a_bst : Nat) (a_try : Nat) (a_mom : Nat) (a_byt : Nat) (a_nxt : Nat) (a_val : Nat) (p0 : Int32) (h0 : 0 ≤ p0 ∧ p0 ≤ 3) (sz : Nat) : Met l yX7_kindOf (qW yX7_kindOf cX7_kindOf 2 (some .int)) ({ frames := 0, cells := 0, slots := 0, locals := 0 } : Room) (qP D (TY cI cZ cP) sa [.ref mo, .int p0] (w_m_kindOf cI cZ cP mo a_now a_kep a_isk a_ref a_cw a_row a_lea a_sli a_lef a_bst a_try a_mom a_byt a_nxt a_val p0) sz) (qQi D (w_m_kindOf cI cZ cP mo a_now a_kep a_isk a_ref a_cw a_row a_lea a_sli a_lef a_bst a_try a_mom a_byt a_nxt a_val p0) sz (fun (r : Int32) (_ : Unit) => r = 0) (fun _ => [(mo, .inr (7, [.ref a_now, .ref a_kep, .ref a_isk, .ref a_ref, .long 0, .long 1, .int 0, .int 0, .int 0, .int 0, .ref a_cw, .ref a_row, .int 0, .ref a_lea, .ref a_sli, .ref a_lef, .ref a_bst, .ref a_try, .int 0, .ref a_mom, .ref a_byt, .int 0, .int 0, .int 0, .int 0, .int 0, .ref a_nxt, .ref a_val])), (a_now, .inl (cI, 221, .inl nw0))])) 0 0 (va_A (w_m_kindOf cI cZ cP mo a_now a_kep a_isk a_ref a_cw a_row a_lea a_sli a_lef a_bst a_try a_mom a_byt a_nxt a_val p0) sz) := by
  refine q_enter (by decide) (Nat.le_of_ble_eq_true rfl) ?_
  intro p e s m below meth c ls hX hr hlk hnm hE hK hP hD hS hA hl
  obtain ⟨hx, hb, hml, hown, ht⟩ := id hX
  have hl : lv_has ls 2 [(0, .ref mo), (1, .int p0)] := hl
  refine lv_aload_n hx hb dX7_kindOf_0 rfl (lv_at hl 0 rfl) ?_
  refine va_get (D := D) (ci := 7) (v := .ref a_now) (C := RX7) (T := TX7) (N := 28) hx hb ht inX7 hown hK hP 0 rfl rfl 0 (Nat.le_of_ble_eq_true rfl) (ht _ kw_904) (fun _ h9 => h9) rfl dX7_kindOf_1 ?_
  refine lv_iconst (v := 4) hx hb dX7_kindOf_4 (by decide) ?_
  refine lv_iconst (v := 3) hx hb dX7_kindOf_5 (by decide) ?_
  refine lv_iload_n hx hb dX7_kindOf_6 rfl (lv_at hl 1 rfl) ?_
  refine lv_imul hx hb dX7_kindOf_7 ?_
  refine lv_iadd hx hb dX7_kindOf_8 ?_
  refine lv_iconst (v := 0) hx hb dX7_kindOf_9 (by decide) ?_
  refine lv_iadd hx hb dX7_kindOf_10 ?_
  refine q_i (z := (4 + (3 * p0))) (Int32.add_zero _) ?_
  refine va_iald hx hb hK hP 1 0 rfl rfl (nw_in0 h0) dX7_kindOf_11 ?_
  refine q_i (z := 0) (nw_at0 h0) ?_
  exact q_iret hX hr hlk () rfl (hP.sub [0, 1] rfl) (hD.sub [0, 1] (by decide) rfl) hS dX7_kindOf_12
abbrev w_m_reaches (cI cZ cP : ClassId) (mo : Nat) (a_now : Nat) (a_kep : Nat) (a_isk : Nat) (a_ref : Nat) (a_cw : Nat) (a_row : Nat) (a_lea : Nat) (a_sli : Nat) (a_lef : Nat) (a_bst : Nat) (a_try : Nat) (a_mom : Nat) (a_byt : Nat) (a_nxt : Nat) (a_val : Nat) (p0 : Int32) : va_W := [(mo, .inr (7, [.ref a_now, .ref a_kep, .ref a_isk, .ref a_ref, .long 0, .long 1, .int 0, .int 0, .int 0, .int 0, .ref a_cw, .ref a_row, .int 0, .ref a_lea, .ref a_sli, .ref a_lef, .ref a_bst, .ref a_try, .int 0, .ref a_mom, .ref a_byt, .int 0, .int 0, .int 0, .int 0, .int 0, .ref a_nxt, .ref a_val])), (a_now, .inl (cI, 221, .inl nw0))]
set_option maxHeartbeats 4000000 in
set_option maxRecDepth 100000 in
theorem c_m_reaches (l : Launch) (D : va_G) (cI cZ cP : ClassId) (sa : Nat → Nat) (mo : Nat) (a_now : Nat) (a_kep : Nat) (a_isk : Nat) (a_ref : Nat) (a_cw : Nat) (a_row : Nat) (a_lea : Nat) (a_sli : Nat) (a_lef : Nat) (a_bst : Nat) (a_try : Nat) (a_mom : Nat) (a_byt : Nat) (a_nxt : Nat) (a_val : Nat) (p0 : Int32) (h0 : 0 ≤ p0 ∧ p0 ≤ 3) (sz : Nat) : Met l yX7_reaches (qW yX7_reaches cX7_reaches 4 (some .int)) ({ frames := 1, cells := 0, slots := 0, locals := 21 } : Room) (qP D (TY cI cZ cP) sa [.ref mo, .int p0] (w_m_reaches cI cZ cP mo a_now a_kep a_isk a_ref a_cw a_row a_lea a_sli a_lef a_bst a_try a_mom a_byt a_nxt a_val p0) sz) (qQi D (w_m_reaches cI cZ cP mo a_now a_kep a_isk a_ref a_cw a_row a_lea a_sli a_lef a_bst a_try a_mom a_byt a_nxt a_val p0) sz (fun (r : Int32) (_ : Unit) => r = 9) (fun _ => [(mo, .inr (7, [.ref a_now, .ref a_kep, .ref a_isk, .ref a_ref, .long 0, .long 1, .int 0, .int 0, .int 0, .int 0, .ref a_cw, .ref a_row, .int 0, .ref a_lea, .ref a_sli, .ref a_lef, .ref a_bst, .ref a_try, .int 0, .ref a_mom, .ref a_byt, .int 0, .int 0, .int 0, .int 0, .int 0, .ref a_nxt, .ref a_val])), (a_now, .inl (cI, 221, .inl nw0))])) 0 0 (va_A (w_m_reaches cI cZ cP mo a_now a_kep a_isk a_ref a_cw a_row a_lea a_sli a_lef a_bst a_try a_mom a_byt a_nxt a_val p0) sz) := by
  refine q_enter (by decide) (Nat.le_of_ble_eq_true rfl) ?_
  intro p e s m below meth c ls hX hr hlk hnm hE hK hP hD hS hA hl
  obtain ⟨hx, hb, hml, hown, ht⟩ := id hX
  have hl : lv_has ls 4 [(0, .ref mo), (1, .int p0)] := hl
  refine lv_aload_n hx hb dX7_reaches_0 rfl (lv_at hl 0 rfl) ?_
  refine va_get (D := D) (ci := 7) (v := .ref a_now) (C := RX7) (T := TX7) (N := 28) hx hb ht inX7 hown hK hP 0 rfl rfl 0 (Nat.le_of_ble_eq_true rfl) (ht _ kw_904) (fun _ h9 => h9) rfl dX7_reaches_1 ?_
  refine lv_iconst (v := 4) hx hb dX7_reaches_4 (by decide) ?_
  refine lv_iconst (v := 3) hx hb dX7_reaches_5 (by decide) ?_
  refine lv_iload_n hx hb dX7_reaches_6 rfl (lv_at hl 1 rfl) ?_
  refine lv_imul hx hb dX7_reaches_7 ?_
  refine lv_iadd hx hb dX7_reaches_8 ?_
  refine lv_iconst (v := 1) hx hb dX7_reaches_9 (by decide) ?_
  refine lv_iadd hx hb dX7_reaches_10 ?_
  refine va_iald hx hb hK hP 1 0 rfl rfl (nw_in1 h0) dX7_reaches_11 ?_
  refine q_i (z := 9) (nw_at1 h0) ?_
  refine lv_istore_n (lv' := [(2, .int 9), (0, .ref mo), (1, .int p0)]) hx hb dX7_reaches_12 rfl hl (by decide) rfl (fun ls hl => ?_)
  refine lv_aload_n hx hb dX7_reaches_13 rfl (lv_at hl 1 rfl) ?_
  refine lv_iload_n hx hb dX7_reaches_14 rfl (lv_at hl 2 rfl) ?_
  refine q_Vi (wr := []) [0, 1] [] hX hE hK hP hD hS hA hl.1 lk_X7_107 (c_m_kindOf l D cI cZ cP sa mo a_now a_kep a_isk a_ref a_cw a_row a_lea a_sli a_lef a_bst a_try a_mom a_byt a_nxt a_val p0 h0 _) rfl rfl rfl rfl (by decide) 0 7 rfl rfl rfl rfl (Nat.le_of_ble_eq_true rfl) rfl rfl ⟨Nat.le_of_ble_eq_true rfl, Nat.le_of_ble_eq_true rfl⟩ ⟨Nat.le_of_ble_eq_true rfl, Nat.le_of_ble_eq_true rfl⟩ dX7_reaches_15 (fun x_1 _ H locs h_1 hP hD hS => ?_)
  have hP : va_P D vwCl [(mo, .inr (7, [.ref a_now, .ref a_kep, .ref a_isk, .ref a_ref, .long 0, .long 1, .int 0, .int 0, .int 0, .int 0, .ref a_cw, .ref a_row, .int 0, .ref a_lea, .ref a_sli, .ref a_lef, .ref a_bst, .ref a_try, .int 0, .ref a_mom, .ref a_byt, .int 0, .int 0, .int 0, .int 0, .int 0, .ref a_nxt, .ref a_val])), (a_now, .inl (cI, 221, .inl nw0))] H := hP
  have hD : va_D (va_A (w_m_reaches cI cZ cP mo a_now a_kep a_isk a_ref a_cw a_row a_lea a_sli a_lef a_bst a_try a_mom a_byt a_nxt a_val p0) sz) [(mo, .inr (7, [.ref a_now, .ref a_kep, .ref a_isk, .ref a_ref, .long 0, .long 1, .int 0, .int 0, .int 0, .int 0, .ref a_cw, .ref a_row, .int 0, .ref a_lea, .ref a_sli, .ref a_lef, .ref a_bst, .ref a_try, .int 0, .ref a_mom, .ref a_byt, .int 0, .int 0, .int 0, .int 0, .int 0, .ref a_nxt, .ref a_val])), (a_now, .inl (cI, 221, .inl nw0))] := hD
  subst h_1
  refine lv_iconst (v := 3) hx hb dX7_reaches_18 (by decide) ?_
  refine lv_icmp_eq (tgt := 31) hx hb dX7_reaches_19 (by decide) (fun c_2 => absurd c_2 (by decide)) (fun _ => ?_)
  refine lv_aload_n hx hb dX7_reaches_22 rfl (lv_at hl 1 rfl) ?_
  refine lv_iload_n hx hb dX7_reaches_23 rfl (lv_at hl 2 rfl) ?_
  refine q_Vi (wr := []) [0, 1] [] hX hE hK hP hD hS hA hl.1 lk_X7_107 (c_m_kindOf l D cI cZ cP sa mo a_now a_kep a_isk a_ref a_cw a_row a_lea a_sli a_lef a_bst a_try a_mom a_byt a_nxt a_val p0 h0 _) rfl rfl rfl rfl (by decide) 0 7 rfl rfl rfl rfl (Nat.le_of_ble_eq_true rfl) rfl rfl ⟨Nat.le_of_ble_eq_true rfl, Nat.le_of_ble_eq_true rfl⟩ ⟨Nat.le_of_ble_eq_true rfl, Nat.le_of_ble_eq_true rfl⟩ dX7_reaches_24 (fun x_3 _ H locs h_3 hP hD hS => ?_)
  have hP : va_P D vwCl [(mo, .inr (7, [.ref a_now, .ref a_kep, .ref a_isk, .ref a_ref, .long 0, .long 1, .int 0, .int 0, .int 0, .int 0, .ref a_cw, .ref a_row, .int 0, .ref a_lea, .ref a_sli, .ref a_lef, .ref a_bst, .ref a_try, .int 0, .ref a_mom, .ref a_byt, .int 0, .int 0, .int 0, .int 0, .int 0, .ref a_nxt, .ref a_val])), (a_now, .inl (cI, 221, .inl nw0))] H := hP
  have hD : va_D (va_A (w_m_reaches cI cZ cP mo a_now a_kep a_isk a_ref a_cw a_row a_lea a_sli a_lef a_bst a_try a_mom a_byt a_nxt a_val p0) sz) [(mo, .inr (7, [.ref a_now, .ref a_kep, .ref a_isk, .ref a_ref, .long 0, .long 1, .int 0, .int 0, .int 0, .int 0, .ref a_cw, .ref a_row, .int 0, .ref a_lea, .ref a_sli, .ref a_lef, .ref a_bst, .ref a_try, .int 0, .ref a_mom, .ref a_byt, .int 0, .int 0, .int 0, .int 0, .int 0, .ref a_nxt, .ref a_val])), (a_now, .inl (cI, 221, .inl nw0))] := hD
  subst h_3
  refine lv_iconst (v := 5) hx hb dX7_reaches_27 (by decide) ?_
  refine lv_icmp_ne (tgt := 35) hx hb dX7_reaches_28 (by decide) (fun _ => ?_) (fun c_4 => absurd c_4 (by decide))
  refine lv_iconst (v := 0) hx hb dX7_reaches_35 (by decide) ?_
  refine lv_istore_n (lv' := [(3, .int 0), (2, .int 9), (0, .ref mo), (1, .int p0)]) hx hb dX7_reaches_36 rfl hl (by decide) rfl (fun ls hl => ?_)
  refine lv_iload_n hx hb dX7_reaches_37 rfl (lv_at hl 0 rfl) ?_
  refine lv_if_ne (tgt := 45) hx hb dX7_reaches_38 (by decide) (fun c_5 => absurd (by decide) c_5) (fun _ => ?_)
  refine lv_iload_n hx hb dX7_reaches_41 rfl (lv_at hl 1 rfl) ?_
  refine lv_goto (tgt := 57) hx hb dX7_reaches_42 (by decide) ?_
  exact q_iret hX hr hlk () rfl (hP.sub [0, 1] rfl) (hD.sub [0, 1] (by decide) rfl) hS dX7_reaches_57
abbrev w_m_moves (cI cZ cP : ClassId) (mo : Nat) (a_now : Nat) (a_kep : Nat) (a_isk : Nat) (a_ref : Nat) (a_cw : Nat) (a_row : Nat) (a_lea : Nat) (a_sli : Nat) (a_lef : Nat) (a_bst : Nat) (a_try : Nat) (a_mom : Nat) (a_byt : Nat) (a_nxt : Nat) (a_val : Nat) (p0 : Int32) : va_W := [(mo, .inr (7, [.ref a_now, .ref a_kep, .ref a_isk, .ref a_ref, .long 0, .long 1, .int 0, .int 0, .int 0, .int 0, .ref a_cw, .ref a_row, .int 0, .ref a_lea, .ref a_sli, .ref a_lef, .ref a_bst, .ref a_try, .int 0, .ref a_mom, .ref a_byt, .int 0, .int 0, .int 0, .int 0, .int 0, .ref a_nxt, .ref a_val])), (a_now, .inl (cI, 221, .inl nw0))]
set_option maxHeartbeats 4000000 in
set_option maxRecDepth 100000 in
theorem c_m_moves (l : Launch) (D : va_G) (cI cZ cP : ClassId) (sa : Nat → Nat) (mo : Nat) (a_now : Nat) (a_kep : Nat) (a_isk : Nat) (a_ref : Nat) (a_cw : Nat) (a_row : Nat) (a_lea : Nat) (a_sli : Nat) (a_lef : Nat) (a_bst : Nat) (a_try : Nat) (a_mom : Nat) (a_byt : Nat) (a_nxt : Nat) (a_val : Nat) (p0 : Int32) (h0 : 0 ≤ p0 ∧ p0 ≤ 3) (sz : Nat) : Met l yX7_moves (qW yX7_moves cX7_moves 3 (some .int)) ({ frames := 1, cells := 0, slots := 0, locals := 21 } : Room) (qP D (TY cI cZ cP) sa [.ref mo, .int p0] (w_m_moves cI cZ cP mo a_now a_kep a_isk a_ref a_cw a_row a_lea a_sli a_lef a_bst a_try a_mom a_byt a_nxt a_val p0) sz) (qQi D (w_m_moves cI cZ cP mo a_now a_kep a_isk a_ref a_cw a_row a_lea a_sli a_lef a_bst a_try a_mom a_byt a_nxt a_val p0) sz (fun (r : Int32) (_ : Unit) => r = 4) (fun _ => [(mo, .inr (7, [.ref a_now, .ref a_kep, .ref a_isk, .ref a_ref, .long 0, .long 1, .int 0, .int 0, .int 0, .int 0, .ref a_cw, .ref a_row, .int 0, .ref a_lea, .ref a_sli, .ref a_lef, .ref a_bst, .ref a_try, .int 0, .ref a_mom, .ref a_byt, .int 0, .int 0, .int 0, .int 0, .int 0, .ref a_nxt, .ref a_val])), (a_now, .inl (cI, 221, .inl nw0))])) 0 0 (va_A (w_m_moves cI cZ cP mo a_now a_kep a_isk a_ref a_cw a_row a_lea a_sli a_lef a_bst a_try a_mom a_byt a_nxt a_val p0) sz) := by
  refine q_enter (by decide) (Nat.le_of_ble_eq_true rfl) ?_
  intro p e s m below meth c ls hX hr hlk hnm hE hK hP hD hS hA hl
  obtain ⟨hx, hb, hml, hown, ht⟩ := id hX
  have hl : lv_has ls 3 [(0, .ref mo), (1, .int p0)] := hl
  refine lv_aload_n hx hb dX7_moves_0 rfl (lv_at hl 0 rfl) ?_
  refine va_get (D := D) (ci := 7) (v := .ref a_now) (C := RX7) (T := TX7) (N := 28) hx hb ht inX7 hown hK hP 0 rfl rfl 0 (Nat.le_of_ble_eq_true rfl) (ht _ kw_904) (fun _ h9 => h9) rfl dX7_moves_1 ?_
  refine lv_iconst (v := 4) hx hb dX7_moves_4 (by decide) ?_
  refine lv_iconst (v := 3) hx hb dX7_moves_5 (by decide) ?_
  refine lv_iload_n hx hb dX7_moves_6 rfl (lv_at hl 1 rfl) ?_
  refine lv_imul hx hb dX7_moves_7 ?_
  refine lv_iadd hx hb dX7_moves_8 ?_
  refine lv_iconst (v := 2) hx hb dX7_moves_9 (by decide) ?_
  refine lv_iadd hx hb dX7_moves_10 ?_
  refine va_iald hx hb hK hP 1 0 rfl rfl (nw_in2 h0) dX7_moves_11 ?_
  refine q_i (z := 4) (nw_at2 h0) ?_
  refine lv_istore_n (lv' := [(2, .int 4), (0, .ref mo), (1, .int p0)]) hx hb dX7_moves_12 rfl hl (by decide) rfl (fun ls hl => ?_)
  refine lv_aload_n hx hb dX7_moves_13 rfl (lv_at hl 1 rfl) ?_
  refine lv_iload_n hx hb dX7_moves_14 rfl (lv_at hl 2 rfl) ?_
  refine q_Vi (wr := []) [0, 1] [] hX hE hK hP hD hS hA hl.1 lk_X7_107 (c_m_kindOf l D cI cZ cP sa mo a_now a_kep a_isk a_ref a_cw a_row a_lea a_sli a_lef a_bst a_try a_mom a_byt a_nxt a_val p0 h0 _) rfl rfl rfl rfl (by decide) 0 7 rfl rfl rfl rfl (Nat.le_of_ble_eq_true rfl) rfl rfl ⟨Nat.le_of_ble_eq_true rfl, Nat.le_of_ble_eq_true rfl⟩ ⟨Nat.le_of_ble_eq_true rfl, Nat.le_of_ble_eq_true rfl⟩ dX7_moves_15 (fun x_1 _ H locs h_1 hP hD hS => ?_)
  have hP : va_P D vwCl [(mo, .inr (7, [.ref a_now, .ref a_kep, .ref a_isk, .ref a_ref, .long 0, .long 1, .int 0, .int 0, .int 0, .int 0, .ref a_cw, .ref a_row, .int 0, .ref a_lea, .ref a_sli, .ref a_lef, .ref a_bst, .ref a_try, .int 0, .ref a_mom, .ref a_byt, .int 0, .int 0, .int 0, .int 0, .int 0, .ref a_nxt, .ref a_val])), (a_now, .inl (cI, 221, .inl nw0))] H := hP
  have hD : va_D (va_A (w_m_moves cI cZ cP mo a_now a_kep a_isk a_ref a_cw a_row a_lea a_sli a_lef a_bst a_try a_mom a_byt a_nxt a_val p0) sz) [(mo, .inr (7, [.ref a_now, .ref a_kep, .ref a_isk, .ref a_ref, .long 0, .long 1, .int 0, .int 0, .int 0, .int 0, .ref a_cw, .ref a_row, .int 0, .ref a_lea, .ref a_sli, .ref a_lef, .ref a_bst, .ref a_try, .int 0, .ref a_mom, .ref a_byt, .int 0, .int 0, .int 0, .int 0, .int 0, .ref a_nxt, .ref a_val])), (a_now, .inl (cI, 221, .inl nw0))] := hD
  subst h_1
  refine lv_tableOut (tgt := 69) hx hb dX7_moves_18 (by decide) (by decide) ?_
  refine lv_iload_n hx hb dX7_moves_69 rfl (lv_at hl 0 rfl) ?_
  exact q_iret hX hr hlk () rfl (hP.sub [0, 1] rfl) (hD.sub [0, 1] (by decide) rfl) hS dX7_moves_70
abbrev w_m_nearOf (cI cZ cP : ClassId) (mo : Nat) (a_now : Nat) (a_kep : Nat) (a_isk : Nat) (a_ref : Nat) (a_cw : Nat) (a_row : Nat) (a_lea : Nat) (a_sli : Nat) (a_lef : Nat) (a_bst : Nat) (a_try : Nat) (a_mom : Nat) (a_byt : Nat) (a_nxt : Nat) (a_val : Nat) (p0 : Int32) : va_W := [(mo, .inr (7, [.ref a_now, .ref a_kep, .ref a_isk, .ref a_ref, .long 0, .long 1, .int 0, .int 0, .int 0, .int 0, .ref a_cw, .ref a_row, .int 0, .ref a_lea, .ref a_sli, .ref a_lef, .ref a_bst, .ref a_try, .int 0, .ref a_mom, .ref a_byt, .int 0, .int 0, .int 0, .int 0, .int 0, .ref a_nxt, .ref a_val])), (a_now, .inl (cI, 221, .inl nw0))]
set_option maxHeartbeats 4000000 in
set_option maxRecDepth 100000 in
theorem c_m_nearOf (l : Launch) (D : va_G) (cI cZ cP : ClassId) (sa : Nat → Nat) (mo : Nat) (a_now : Nat) (a_kep : Nat) (a_isk : Nat) (a_ref : Nat) (a_cw : Nat) (a_row : Nat) (a_lea : Nat) (a_sli : Nat) (a_lef : Nat) (a_bst : Nat) (a_try : Nat) (a_mom : Nat) (a_byt : Nat) (a_nxt : Nat) (a_val : Nat) (p0 : Int32) (h0 : 0 ≤ p0 ∧ p0 ≤ 3) (sz : Nat) : Met l yX7_nearOf (qW yX7_nearOf cX7_nearOf 3 (some .int)) ({ frames := 1, cells := 0, slots := 0, locals := 21 } : Room) (qP D (TY cI cZ cP) sa [.ref mo, .int p0] (w_m_nearOf cI cZ cP mo a_now a_kep a_isk a_ref a_cw a_row a_lea a_sli a_lef a_bst a_try a_mom a_byt a_nxt a_val p0) sz) (qQi D (w_m_nearOf cI cZ cP mo a_now a_kep a_isk a_ref a_cw a_row a_lea a_sli a_lef a_bst a_try a_mom a_byt a_nxt a_val p0) sz (fun (r : Int32) (_ : Unit) => r = 2) (fun _ => [(mo, .inr (7, [.ref a_now, .ref a_kep, .ref a_isk, .ref a_ref, .long 0, .long 1, .int 0, .int 0, .int 0, .int 0, .ref a_cw, .ref a_row, .int 0, .ref a_lea, .ref a_sli, .ref a_lef, .ref a_bst, .ref a_try, .int 0, .ref a_mom, .ref a_byt, .int 0, .int 0, .int 0, .int 0, .int 0, .ref a_nxt, .ref a_val])), (a_now, .inl (cI, 221, .inl nw0))])) 0 0 (va_A (w_m_nearOf cI cZ cP mo a_now a_kep a_isk a_ref a_cw a_row a_lea a_sli a_lef a_bst a_try a_mom a_byt a_nxt a_val p0) sz) := by
  refine q_enter (by decide) (Nat.le_of_ble_eq_true rfl) ?_
  intro p e s m below meth c ls hX hr hlk hnm hE hK hP hD hS hA hl
  obtain ⟨hx, hb, hml, hown, ht⟩ := id hX
  have hl : lv_has ls 3 [(0, .ref mo), (1, .int p0)] := hl
  refine lv_aload_n hx hb dX7_nearOf_0 rfl (lv_at hl 0 rfl) ?_
  refine va_get (D := D) (ci := 7) (v := .ref a_now) (C := RX7) (T := TX7) (N := 28) hx hb ht inX7 hown hK hP 0 rfl rfl 0 (Nat.le_of_ble_eq_true rfl) (ht _ kw_904) (fun _ h9 => h9) rfl dX7_nearOf_1 ?_
  refine lv_iconst (v := 1) hx hb dX7_nearOf_4 (by decide) ?_
  refine va_iald hx hb hK hP 1 0 rfl rfl (vin (by decide)) dX7_nearOf_5 ?_
  refine q_i (z := 2) (by decide) ?_
  refine lv_istore_n (lv' := [(2, .int 2), (0, .ref mo), (1, .int p0)]) hx hb dX7_nearOf_6 rfl hl (by decide) rfl (fun ls hl => ?_)
  refine lv_aload_n hx hb dX7_nearOf_7 rfl (lv_at hl 1 rfl) ?_
  refine lv_iload_n hx hb dX7_nearOf_8 rfl (lv_at hl 2 rfl) ?_
  refine q_Vi (wr := []) [0, 1] [] hX hE hK hP hD hS hA hl.1 lk_X7_107 (c_m_kindOf l D cI cZ cP sa mo a_now a_kep a_isk a_ref a_cw a_row a_lea a_sli a_lef a_bst a_try a_mom a_byt a_nxt a_val p0 h0 _) rfl rfl rfl rfl (by decide) 0 7 rfl rfl rfl rfl (Nat.le_of_ble_eq_true rfl) rfl rfl ⟨Nat.le_of_ble_eq_true rfl, Nat.le_of_ble_eq_true rfl⟩ ⟨Nat.le_of_ble_eq_true rfl, Nat.le_of_ble_eq_true rfl⟩ dX7_nearOf_9 (fun x_1 _ H locs h_1 hP hD hS => ?_)
  have hP : va_P D vwCl [(mo, .inr (7, [.ref a_now, .ref a_kep, .ref a_isk, .ref a_ref, .long 0, .long 1, .int 0, .int 0, .int 0, .int 0, .ref a_cw, .ref a_row, .int 0, .ref a_lea, .ref a_sli, .ref a_lef, .ref a_bst, .ref a_try, .int 0, .ref a_mom, .ref a_byt, .int 0, .int 0, .int 0, .int 0, .int 0, .ref a_nxt, .ref a_val])), (a_now, .inl (cI, 221, .inl nw0))] H := hP
  have hD : va_D (va_A (w_m_nearOf cI cZ cP mo a_now a_kep a_isk a_ref a_cw a_row a_lea a_sli a_lef a_bst a_try a_mom a_byt a_nxt a_val p0) sz) [(mo, .inr (7, [.ref a_now, .ref a_kep, .ref a_isk, .ref a_ref, .long 0, .long 1, .int 0, .int 0, .int 0, .int 0, .ref a_cw, .ref a_row, .int 0, .ref a_lea, .ref a_sli, .ref a_lef, .ref a_bst, .ref a_try, .int 0, .ref a_mom, .ref a_byt, .int 0, .int 0, .int 0, .int 0, .int 0, .ref a_nxt, .ref a_val])), (a_now, .inl (cI, 221, .inl nw0))] := hD
  subst h_1
  refine lv_tableOut (tgt := 56) hx hb dX7_nearOf_12 (by decide) (by decide) ?_
  refine lv_iload_n hx hb dX7_nearOf_56 rfl (lv_at hl 0 rfl) ?_
  exact q_iret hX hr hlk () rfl (hP.sub [0, 1] rfl) (hD.sub [0, 1] (by decide) rfl) hS dX7_nearOf_57
abbrev w_m_notesOf (cI cZ cP : ClassId) (mo : Nat) (a_now : Nat) (a_kep : Nat) (a_isk : Nat) (a_ref : Nat) (a_cw : Nat) (a_row : Nat) (a_lea : Nat) (a_sli : Nat) (a_lef : Nat) (a_bst : Nat) (a_try : Nat) (a_mom : Nat) (a_byt : Nat) (a_nxt : Nat) (a_val : Nat) (p0 : Int32) : va_W := [(mo, .inr (7, [.ref a_now, .ref a_kep, .ref a_isk, .ref a_ref, .long 0, .long 1, .int 0, .int 0, .int 0, .int 0, .ref a_cw, .ref a_row, .int 0, .ref a_lea, .ref a_sli, .ref a_lef, .ref a_bst, .ref a_try, .int 0, .ref a_mom, .ref a_byt, .int 0, .int 0, .int 0, .int 0, .int 0, .ref a_nxt, .ref a_val])), (a_now, .inl (cI, 221, .inl nw0))]
set_option maxHeartbeats 4000000 in
set_option maxRecDepth 100000 in
theorem c_m_notesOf (l : Launch) (D : va_G) (cI cZ cP : ClassId) (sa : Nat → Nat) (mo : Nat) (a_now : Nat) (a_kep : Nat) (a_isk : Nat) (a_ref : Nat) (a_cw : Nat) (a_row : Nat) (a_lea : Nat) (a_sli : Nat) (a_lef : Nat) (a_bst : Nat) (a_try : Nat) (a_mom : Nat) (a_byt : Nat) (a_nxt : Nat) (a_val : Nat) (p0 : Int32) (sz : Nat) : Met l yX7_notesOf (qW yX7_notesOf cX7_notesOf 4 (some .int)) ({ frames := 1, cells := 0, slots := 0, locals := 20 } : Room) (qP D (TY cI cZ cP) sa [.ref mo, .int p0] (w_m_notesOf cI cZ cP mo a_now a_kep a_isk a_ref a_cw a_row a_lea a_sli a_lef a_bst a_try a_mom a_byt a_nxt a_val p0) sz) (qQi D (w_m_notesOf cI cZ cP mo a_now a_kep a_isk a_ref a_cw a_row a_lea a_sli a_lef a_bst a_try a_mom a_byt a_nxt a_val p0) sz (fun (r : Int32) (_ : Unit) => r = 0) (fun _ => [(mo, .inr (7, [.ref a_now, .ref a_kep, .ref a_isk, .ref a_ref, .long 0, .long 1, .int 0, .int 0, .int 0, .int 0, .ref a_cw, .ref a_row, .int 0, .ref a_lea, .ref a_sli, .ref a_lef, .ref a_bst, .ref a_try, .int 0, .ref a_mom, .ref a_byt, .int 0, .int 0, .int 0, .int 0, .int 0, .ref a_nxt, .ref a_val])), (a_now, .inl (cI, 221, .inl nw0))])) 0 0 (va_A (w_m_notesOf cI cZ cP mo a_now a_kep a_isk a_ref a_cw a_row a_lea a_sli a_lef a_bst a_try a_mom a_byt a_nxt a_val p0) sz) := by
  refine q_enter (by decide) (Nat.le_of_ble_eq_true rfl) ?_
  intro p e s m below meth c ls hX hr hlk hnm hE hK hP hD hS hA hl
  obtain ⟨hx, hb, hml, hown, ht⟩ := id hX
  have hl : lv_has ls 4 [(0, .ref mo), (1, .int p0)] := hl
  refine lv_iconst (v := 0) hx hb dX7_notesOf_0 (by decide) ?_
  refine lv_istore_n (lv' := [(2, .int 0), (0, .ref mo), (1, .int p0)]) hx hb dX7_notesOf_1 rfl hl (by decide) rfl (fun ls hl => ?_)
  refine lv_iconst (v := 0) hx hb dX7_notesOf_2 (by decide) ?_
  refine lv_istore_n (lv' := [(3, .int 0), (2, .int 0), (0, .ref mo), (1, .int p0)]) hx hb dX7_notesOf_3 rfl hl (by decide) rfl (fun ls hl => ?_)
  refine lv_iload_n hx hb dX7_notesOf_4 rfl (lv_at hl 0 rfl) ?_
  refine lv_aload_n hx hb dX7_notesOf_5 rfl (lv_at hl 2 rfl) ?_
  refine q_Vi (wr := []) [0, 1] [] hX hE hK hP hD hS hA hl.1 lk_X7_64 (c_m_notes l D cI cZ cP sa mo a_now a_kep a_isk a_ref a_cw a_row a_lea a_sli a_lef a_bst a_try a_mom a_byt a_nxt a_val 0 1 0 0 0 0 0 0 0 0 0 0 0 _) rfl rfl rfl rfl (by decide) 0 7 rfl rfl rfl rfl (Nat.le_of_ble_eq_true rfl) rfl rfl ⟨Nat.le_of_ble_eq_true rfl, Nat.le_of_ble_eq_true rfl⟩ ⟨Nat.le_of_ble_eq_true rfl, Nat.le_of_ble_eq_true rfl⟩ dX7_notesOf_6 (fun x_1 _ H locs h_1 hP hD hS => ?_)
  have hP : va_P D vwCl [(mo, .inr (7, [.ref a_now, .ref a_kep, .ref a_isk, .ref a_ref, .long 0, .long 1, .int 0, .int 0, .int 0, .int 0, .ref a_cw, .ref a_row, .int 0, .ref a_lea, .ref a_sli, .ref a_lef, .ref a_bst, .ref a_try, .int 0, .ref a_mom, .ref a_byt, .int 0, .int 0, .int 0, .int 0, .int 0, .ref a_nxt, .ref a_val])), (a_now, .inl (cI, 221, .inl nw0))] H := hP
  have hD : va_D (va_A (w_m_notesOf cI cZ cP mo a_now a_kep a_isk a_ref a_cw a_row a_lea a_sli a_lef a_bst a_try a_mom a_byt a_nxt a_val p0) sz) [(mo, .inr (7, [.ref a_now, .ref a_kep, .ref a_isk, .ref a_ref, .long 0, .long 1, .int 0, .int 0, .int 0, .int 0, .ref a_cw, .ref a_row, .int 0, .ref a_lea, .ref a_sli, .ref a_lef, .ref a_bst, .ref a_try, .int 0, .ref a_mom, .ref a_byt, .int 0, .int 0, .int 0, .int 0, .int 0, .ref a_nxt, .ref a_val])), (a_now, .inl (cI, 221, .inl nw0))] := hD
  subst h_1
  refine lv_icmp_ge (tgt := 38) hx hb dX7_notesOf_9 (by decide) (fun _ => ?_) (fun c_2 => absurd (by decide) c_2)
  refine lv_iload_n hx hb dX7_notesOf_38 rfl (lv_at hl 1 rfl) ?_
  exact q_iret hX hr hlk () rfl (hP.sub [0, 1] rfl) (hD.sub [0, 1] (by decide) rfl) hS dX7_notesOf_39
abbrev w_m_clashesNow (cI cZ cP : ClassId) (mo : Nat) (a_now : Nat) (a_kep : Nat) (a_isk : Nat) (a_ref : Nat) (a_cw : Nat) (a_row : Nat) (a_lea : Nat) (a_sli : Nat) (a_lef : Nat) (a_bst : Nat) (a_try : Nat) (a_mom : Nat) (a_byt : Nat) (a_nxt : Nat) (a_val : Nat) (ab : Int64) (be : Int64) (fw : Int32) (mg : Int32) (f1 : Int32) (f2 : Int32) (rl : Int32) (lsl : Int32) (bl : Int32) (ta : Int32) (tl : Int32) (tk : Int32) (va : Int32) : va_W := [(mo, .inr (7, [.ref a_now, .ref a_kep, .ref a_isk, .ref a_ref, .long ab, .long be, .int fw, .int mg, .int f1, .int f2, .ref a_cw, .ref a_row, .int rl, .ref a_lea, .ref a_sli, .ref a_lef, .ref a_bst, .ref a_try, .int lsl, .ref a_mom, .ref a_byt, .int bl, .int ta, .int tl, .int tk, .int va, .ref a_nxt, .ref a_val])), (a_now, .inl (cI, 221, .inl nw0))]
set_option maxHeartbeats 4000000 in
set_option maxRecDepth 100000 in
theorem c_m_clashesNow (l : Launch) (D : va_G) (cI cZ cP : ClassId) (sa : Nat → Nat) (mo : Nat) (a_now : Nat) (a_kep : Nat) (a_isk : Nat) (a_ref : Nat) (a_cw : Nat) (a_row : Nat) (a_lea : Nat) (a_sli : Nat) (a_lef : Nat) (a_bst : Nat) (a_try : Nat) (a_mom : Nat) (a_byt : Nat) (a_nxt : Nat) (a_val : Nat) (ab : Int64) (be : Int64) (fw : Int32) (mg : Int32) (f1 : Int32) (f2 : Int32) (rl : Int32) (lsl : Int32) (bl : Int32) (ta : Int32) (tl : Int32) (tk : Int32) (va : Int32) (sz : Nat) : Met l yX7_clashesNow (qW yX7_clashesNow cX7_clashesNow 4 (some .int)) ({ frames := 1, cells := 0, slots := 0, locals := 20 } : Room) (qP D (TY cI cZ cP) sa [.ref mo] (w_m_clashesNow cI cZ cP mo a_now a_kep a_isk a_ref a_cw a_row a_lea a_sli a_lef a_bst a_try a_mom a_byt a_nxt a_val ab be fw mg f1 f2 rl lsl bl ta tl tk va) sz) (qQi D (w_m_clashesNow cI cZ cP mo a_now a_kep a_isk a_ref a_cw a_row a_lea a_sli a_lef a_bst a_try a_mom a_byt a_nxt a_val ab be fw mg f1 f2 rl lsl bl ta tl tk va) sz (fun (r : Int32) (_ : Unit) => r = 0) (fun _ => [(mo, .inr (7, [.ref a_now, .ref a_kep, .ref a_isk, .ref a_ref, .long ab, .long be, .int fw, .int mg, .int f1, .int f2, .ref a_cw, .ref a_row, .int rl, .ref a_lea, .ref a_sli, .ref a_lef, .ref a_bst, .ref a_try, .int lsl, .ref a_mom, .ref a_byt, .int bl, .int ta, .int tl, .int tk, .int va, .ref a_nxt, .ref a_val])), (a_now, .inl (cI, 221, .inl nw0))])) 0 0 (va_A (w_m_clashesNow cI cZ cP mo a_now a_kep a_isk a_ref a_cw a_row a_lea a_sli a_lef a_bst a_try a_mom a_byt a_nxt a_val ab be fw mg f1 f2 rl lsl bl ta tl tk va) sz) := by
  refine q_enter (by decide) (Nat.le_of_ble_eq_true rfl) ?_
  intro p e s m below meth c ls hX hr hlk hnm hE hK hP hD hS hA hl
  obtain ⟨hx, hb, hml, hown, ht⟩ := id hX
  have hl : lv_has ls 4 [(0, .ref mo)] := hl
  refine lv_iconst (v := 0) hx hb dX7_clashesNow_0 (by decide) ?_
  refine lv_istore_n (lv' := [(1, .int 0), (0, .ref mo)]) hx hb dX7_clashesNow_1 rfl hl (by decide) rfl (fun ls hl => ?_)
  refine lv_iconst (v := 0) hx hb dX7_clashesNow_2 (by decide) ?_
  refine lv_istore_n (lv' := [(2, .int 0), (1, .int 0), (0, .ref mo)]) hx hb dX7_clashesNow_3 rfl hl (by decide) rfl (fun ls hl => ?_)
  refine lv_iload_n hx hb dX7_clashesNow_4 rfl (lv_at hl 0 rfl) ?_
  refine lv_aload_n hx hb dX7_clashesNow_5 rfl (lv_at hl 2 rfl) ?_
  refine q_Vi (wr := []) [0, 1] [] hX hE hK hP hD hS hA hl.1 lk_X7_64 (c_m_notes l D cI cZ cP sa mo a_now a_kep a_isk a_ref a_cw a_row a_lea a_sli a_lef a_bst a_try a_mom a_byt a_nxt a_val ab be fw mg f1 f2 rl lsl bl ta tl tk va _) rfl rfl rfl rfl (by decide) 0 7 rfl rfl rfl rfl (Nat.le_of_ble_eq_true rfl) rfl rfl ⟨Nat.le_of_ble_eq_true rfl, Nat.le_of_ble_eq_true rfl⟩ ⟨Nat.le_of_ble_eq_true rfl, Nat.le_of_ble_eq_true rfl⟩ dX7_clashesNow_6 (fun x_1 _ H locs h_1 hP hD hS => ?_)
  have hP : va_P D vwCl [(mo, .inr (7, [.ref a_now, .ref a_kep, .ref a_isk, .ref a_ref, .long ab, .long be, .int fw, .int mg, .int f1, .int f2, .ref a_cw, .ref a_row, .int rl, .ref a_lea, .ref a_sli, .ref a_lef, .ref a_bst, .ref a_try, .int lsl, .ref a_mom, .ref a_byt, .int bl, .int ta, .int tl, .int tk, .int va, .ref a_nxt, .ref a_val])), (a_now, .inl (cI, 221, .inl nw0))] H := hP
  have hD : va_D (va_A (w_m_clashesNow cI cZ cP mo a_now a_kep a_isk a_ref a_cw a_row a_lea a_sli a_lef a_bst a_try a_mom a_byt a_nxt a_val ab be fw mg f1 f2 rl lsl bl ta tl tk va) sz) [(mo, .inr (7, [.ref a_now, .ref a_kep, .ref a_isk, .ref a_ref, .long ab, .long be, .int fw, .int mg, .int f1, .int f2, .ref a_cw, .ref a_row, .int rl, .ref a_lea, .ref a_sli, .ref a_lef, .ref a_bst, .ref a_try, .int lsl, .ref a_mom, .ref a_byt, .int bl, .int ta, .int tl, .int tk, .int va, .ref a_nxt, .ref a_val])), (a_now, .inl (cI, 221, .inl nw0))] := hD
  subst h_1
  refine lv_icmp_ge (tgt := 54) hx hb dX7_clashesNow_9 (by decide) (fun _ => ?_) (fun c_2 => absurd (by decide) c_2)
  refine lv_iload_n hx hb dX7_clashesNow_54 rfl (lv_at hl 1 rfl) ?_
  exact q_iret hX hr hlk () rfl (hP.sub [0, 1] rfl) (hD.sub [0, 1] (by decide) rfl) hS dX7_clashesNow_55
abbrev w_m_clashes (cI cZ cP : ClassId) (mo : Nat) (a_now : Nat) (a_kep : Nat) (a_isk : Nat) (a_ref : Nat) (a_cw : Nat) (a_row : Nat) (a_lea : Nat) (a_sli : Nat) (a_lef : Nat) (a_bst : Nat) (a_try : Nat) (a_mom : Nat) (a_byt : Nat) (a_nxt : Nat) (a_val : Nat) (p0 : Int32) (p1 : Int32) : va_W := [(mo, .inr (7, [.ref a_now, .ref a_kep, .ref a_isk, .ref a_ref, .long 0, .long 1, .int 0, .int 0, .int 0, .int 0, .ref a_cw, .ref a_row, .int 0, .ref a_lea, .ref a_sli, .ref a_lef, .ref a_bst, .ref a_try, .int 0, .ref a_mom, .ref a_byt, .int 0, .int 0, .int 0, .int 0, .int 0, .ref a_nxt, .ref a_val])), (a_now, .inl (cI, 221, .inl nw0)), (a_ref, .inl (cI, 3, .inl (fun _ => 0)))]
set_option maxHeartbeats 4000000 in
set_option maxRecDepth 100000 in
theorem c_m_clashes (l : Launch) (D : va_G) (cI cZ cP : ClassId) (sa : Nat → Nat) (mo : Nat) (a_now : Nat) (a_kep : Nat) (a_isk : Nat) (a_ref : Nat) (a_cw : Nat) (a_row : Nat) (a_lea : Nat) (a_sli : Nat) (a_lef : Nat) (a_bst : Nat) (a_try : Nat) (a_mom : Nat) (a_byt : Nat) (a_nxt : Nat) (a_val : Nat) (p0 : Int32) (p1 : Int32) (sz : Nat) : Met l yX7_clashes (qW yX7_clashes cX7_clashes 8 (some .int)) ({ frames := 1, cells := 0, slots := 0, locals := 25 } : Room) (qP D (TY cI cZ cP) sa [.ref mo, .int p0, .int p1] (w_m_clashes cI cZ cP mo a_now a_kep a_isk a_ref a_cw a_row a_lea a_sli a_lef a_bst a_try a_mom a_byt a_nxt a_val p0 p1) sz) (qQi D (w_m_clashes cI cZ cP mo a_now a_kep a_isk a_ref a_cw a_row a_lea a_sli a_lef a_bst a_try a_mom a_byt a_nxt a_val p0 p1) sz (fun (r : Int32) (_ : Unit) => r = sp_clashes p0 p1) (fun _ => [])) 0 0 (va_A (w_m_clashes cI cZ cP mo a_now a_kep a_isk a_ref a_cw a_row a_lea a_sli a_lef a_bst a_try a_mom a_byt a_nxt a_val p0 p1) sz) := by
  refine q_enter (by decide) (Nat.le_of_ble_eq_true rfl) ?_
  intro p e s m below meth c ls hX hr hlk hnm hE hK hP hD hS hA hl
  obtain ⟨hx, hb, hml, hown, ht⟩ := id hX
  have hl : lv_has ls 8 [(0, .ref mo), (1, .int p0), (2, .int p1)] := hl
  refine lv_iload_n hx hb dX7_clashes_0 rfl (lv_at hl 1 rfl) ?_
  refine lv_i2l (v := (p0.toInt64)) hx hb dX7_clashes_1 rfl ?_
  refine lv_ldc2 hx hb hown (ht _ kw_1026) dX7_clashes_2 ?_
  refine q_l (z := ((-1 : Int32).toInt64)) (by decide) ?_
  refine lv_ldc2 hx hb hown (ht _ kw_1014) dX7_clashes_5 ?_
  refine q_l (z := ((5 : Int32).toInt64)) (by decide) ?_
  refine q_Si (wr := [(mo, .inr (7, [.ref a_now, .ref a_kep, .ref a_isk, .ref a_ref, .long 0, .long 1, .int 0, .int 0, .int 0, .int 0, .ref a_cw, .ref a_row, .int 0, .ref a_lea, .ref a_sli, .ref a_lef, .ref a_bst, .ref a_try, .int 0, .ref a_mom, .ref a_byt, .int 0, .int 0, .int 0, .int 0, .int 0, .ref a_nxt, .ref a_val])), (a_now, .inl (cI, 221, .inl nw0)), (a_ref, .inl (cI, 3, .inl (fun _ => 0)))]) [] [0, 1, 2] hX hE hK hP hD hS hA hl.1 lk_X7_68 (c_m_in l D cI cZ cP sa p0 (-1) 5 _) rfl rfl rfl rfl (by decide) rfl rfl (Nat.le_of_ble_eq_true rfl) rfl rfl ⟨Nat.le_of_ble_eq_true rfl, Nat.le_of_ble_eq_true rfl⟩ ⟨Nat.le_of_ble_eq_true rfl, Nat.le_of_ble_eq_true rfl⟩ dX7_clashes_8 (fun x_1 _ H locs h_1 hP hD hS => ?_)
  have hP : va_P D vwCl [(mo, .inr (7, [.ref a_now, .ref a_kep, .ref a_isk, .ref a_ref, .long 0, .long 1, .int 0, .int 0, .int 0, .int 0, .ref a_cw, .ref a_row, .int 0, .ref a_lea, .ref a_sli, .ref a_lef, .ref a_bst, .ref a_try, .int 0, .ref a_mom, .ref a_byt, .int 0, .int 0, .int 0, .int 0, .int 0, .ref a_nxt, .ref a_val])), (a_now, .inl (cI, 221, .inl nw0)), (a_ref, .inl (cI, 3, .inl (fun _ => 0)))] H := hP
  have hD : va_D (va_A (w_m_clashes cI cZ cP mo a_now a_kep a_isk a_ref a_cw a_row a_lea a_sli a_lef a_bst a_try a_mom a_byt a_nxt a_val p0 p1) sz) [(mo, .inr (7, [.ref a_now, .ref a_kep, .ref a_isk, .ref a_ref, .long 0, .long 1, .int 0, .int 0, .int 0, .int 0, .ref a_cw, .ref a_row, .int 0, .ref a_lea, .ref a_sli, .ref a_lef, .ref a_bst, .ref a_try, .int 0, .ref a_mom, .ref a_byt, .int 0, .int 0, .int 0, .int 0, .int 0, .ref a_nxt, .ref a_val])), (a_now, .inl (cI, 221, .inl nw0)), (a_ref, .inl (cI, 3, .inl (fun _ => 0)))] := hD
  rcases Classical.em ((-1) ≤ p0 ∧ p0 ≤ 5) with c_1 | c_1
  · rw [if_pos c_1] at h_1; subst h_1
    refine lv_if_eq (tgt := 19) hx hb dX7_clashes_11 (by decide) (fun c_2 => absurd c_2 (by decide)) (fun _ => ?_)
    refine lv_iload_n hx hb dX7_clashes_14 rfl (lv_at hl 2 rfl) ?_
    refine lv_iconst (v := (-1)) hx hb dX7_clashes_15 (by decide) ?_
    refine lv_icmp_ge (tgt := 26) hx hb dX7_clashes_16 (by decide) (fun c_3 => ?_) (fun c_3 => ?_)
    · refine lv_iconst (v := 0) hx hb dX7_clashes_26 (by decide) ?_
      refine lv_istore_n (lv' := [(3, .int 0), (0, .ref mo), (1, .int p0), (2, .int p1)]) hx hb dX7_clashes_27 rfl hl (by decide) rfl (fun ls hl => ?_)
      refine lv_bipush (v := (-5)) hx hb dX7_clashes_28 (by decide) ?_
      refine lv_istore (lv' := [(4, .int (-5)), (3, .int 0), (0, .ref mo), (1, .int p0), (2, .int p1)]) hx hb dX7_clashes_30 hl (by decide) rfl (fun ls hl => ?_)
      refine lv_iconst (v := 0) hx hb dX7_clashes_32 (by decide) ?_
      refine lv_istore (lv' := [(5, .int 0), (4, .int (-5)), (3, .int 0), (0, .ref mo), (1, .int p0), (2, .int p1)]) hx hb dX7_clashes_33 hl (by decide) rfl (fun ls hl => ?_)
      refine lv_iload hx hb dX7_clashes_35 (lv_at hl 0 rfl) ?_
      refine lv_aload_n hx hb dX7_clashes_37 rfl (lv_at hl 3 rfl) ?_
      refine q_Vi (wr := [(a_ref, .inl (cI, 3, .inl (fun _ => 0)))]) [0, 1] [2] hX hE hK hP hD hS hA hl.1 lk_X7_64 (c_m_notes l D cI cZ cP sa mo a_now a_kep a_isk a_ref a_cw a_row a_lea a_sli a_lef a_bst a_try a_mom a_byt a_nxt a_val 0 1 0 0 0 0 0 0 0 0 0 0 0 _) rfl rfl rfl rfl (by decide) 0 7 rfl rfl rfl rfl (Nat.le_of_ble_eq_true rfl) rfl rfl ⟨Nat.le_of_ble_eq_true rfl, Nat.le_of_ble_eq_true rfl⟩ ⟨Nat.le_of_ble_eq_true rfl, Nat.le_of_ble_eq_true rfl⟩ dX7_clashes_38 (fun x_4 _ H locs h_4 hP hD hS => ?_)
      have hP : va_P D vwCl [(a_ref, .inl (cI, 3, .inl (fun _ => 0))), (mo, .inr (7, [.ref a_now, .ref a_kep, .ref a_isk, .ref a_ref, .long 0, .long 1, .int 0, .int 0, .int 0, .int 0, .ref a_cw, .ref a_row, .int 0, .ref a_lea, .ref a_sli, .ref a_lef, .ref a_bst, .ref a_try, .int 0, .ref a_mom, .ref a_byt, .int 0, .int 0, .int 0, .int 0, .int 0, .ref a_nxt, .ref a_val])), (a_now, .inl (cI, 221, .inl nw0))] H := hP
      have hD : va_D (va_A (w_m_clashes cI cZ cP mo a_now a_kep a_isk a_ref a_cw a_row a_lea a_sli a_lef a_bst a_try a_mom a_byt a_nxt a_val p0 p1) sz) [(a_ref, .inl (cI, 3, .inl (fun _ => 0))), (mo, .inr (7, [.ref a_now, .ref a_kep, .ref a_isk, .ref a_ref, .long 0, .long 1, .int 0, .int 0, .int 0, .int 0, .ref a_cw, .ref a_row, .int 0, .ref a_lea, .ref a_sli, .ref a_lef, .ref a_bst, .ref a_try, .int 0, .ref a_mom, .ref a_byt, .int 0, .int 0, .int 0, .int 0, .int 0, .ref a_nxt, .ref a_val])), (a_now, .inl (cI, 221, .inl nw0))] := hD
      subst h_4
      refine lv_icmp_ge (tgt := 121) hx hb dX7_clashes_41 (by decide) (fun _ => ?_) (fun c_5 => absurd (by decide) c_5)
      refine lv_iload_n hx hb dX7_clashes_121 rfl (lv_at hl 5 rfl) ?_
      refine lv_iconst (v := (-1)) hx hb dX7_clashes_122 (by decide) ?_
      refine lv_icmp_ne (tgt := 130) hx hb dX7_clashes_123 (by decide) (fun c_6 => ?_) (fun c_6 => ?_)
      · refine lv_iload hx hb dX7_clashes_130 (lv_at hl 1 rfl) ?_
        exact q_iret hX hr hlk () (by simp [sp_clashes, c_1, c_3, c_6]) (hP.sub [] rfl) (hD.sub [] (by decide) rfl) hS dX7_clashes_132
      · refine lv_iload_n hx hb dX7_clashes_126 rfl (lv_at hl 2 rfl) ?_
        refine lv_goto (tgt := 132) hx hb dX7_clashes_127 (by decide) ?_
        exact q_iret hX hr hlk () (by simp [sp_clashes, c_1, c_3, c_6]) (hP.sub [] rfl) (hD.sub [] (by decide) rfl) hS dX7_clashes_132
    · refine lv_aload_n hx hb dX7_clashes_19 rfl (lv_at hl 0 rfl) ?_
      refine lv_bipush (v := (-10)) hx hb dX7_clashes_20 (by decide) ?_
      refine q_Vi (wr := [(a_now, .inl (cI, 221, .inl nw0))]) [0, 2] [1] hX hE hK hP hD hS hA hl.1 lk_X7_76 (c_m_bad l D cI cZ cP sa mo a_now a_kep a_isk a_ref a_cw a_row a_lea a_sli a_lef a_bst a_try a_mom a_byt a_nxt a_val 0 1 0 0 0 0 0 0 0 0 0 0 0 (-10) _) rfl rfl rfl rfl (by decide) 0 7 rfl rfl rfl rfl (Nat.le_of_ble_eq_true rfl) rfl rfl ⟨Nat.le_of_ble_eq_true rfl, Nat.le_of_ble_eq_true rfl⟩ ⟨Nat.le_of_ble_eq_true rfl, Nat.le_of_ble_eq_true rfl⟩ dX7_clashes_22 (fun x_7 _ H locs h_7 hP hD hS => ?_)
      have hP : va_P D vwCl [(a_now, .inl (cI, 221, .inl nw0))] H := hP
      have hD : va_D (va_A (w_m_clashes cI cZ cP mo a_now a_kep a_isk a_ref a_cw a_row a_lea a_sli a_lef a_bst a_try a_mom a_byt a_nxt a_val p0 p1) sz) [(a_now, .inl (cI, 221, .inl nw0))] := hD
      subst h_7
      exact q_iret hX hr hlk () (by simp [sp_clashes, c_1, c_3]) (hP.sub [] rfl) (hD.sub [] (by decide) rfl) hS dX7_clashes_25
  · rw [if_neg c_1] at h_1; subst h_1
    refine lv_if_eq (tgt := 19) hx hb dX7_clashes_11 (by decide) (fun _ => ?_) (fun c_8 => absurd (by decide) c_8)
    refine lv_aload_n hx hb dX7_clashes_19 rfl (lv_at hl 0 rfl) ?_
    refine lv_bipush (v := (-10)) hx hb dX7_clashes_20 (by decide) ?_
    refine q_Vi (wr := [(a_now, .inl (cI, 221, .inl nw0))]) [0, 2] [1] hX hE hK hP hD hS hA hl.1 lk_X7_76 (c_m_bad l D cI cZ cP sa mo a_now a_kep a_isk a_ref a_cw a_row a_lea a_sli a_lef a_bst a_try a_mom a_byt a_nxt a_val 0 1 0 0 0 0 0 0 0 0 0 0 0 (-10) _) rfl rfl rfl rfl (by decide) 0 7 rfl rfl rfl rfl (Nat.le_of_ble_eq_true rfl) rfl rfl ⟨Nat.le_of_ble_eq_true rfl, Nat.le_of_ble_eq_true rfl⟩ ⟨Nat.le_of_ble_eq_true rfl, Nat.le_of_ble_eq_true rfl⟩ dX7_clashes_22 (fun x_9 _ H locs h_9 hP hD hS => ?_)
    have hP : va_P D vwCl [(a_now, .inl (cI, 221, .inl nw0))] H := hP
    have hD : va_D (va_A (w_m_clashes cI cZ cP mo a_now a_kep a_isk a_ref a_cw a_row a_lea a_sli a_lef a_bst a_try a_mom a_byt a_nxt a_val p0 p1) sz) [(a_now, .inl (cI, 221, .inl nw0))] := hD
    subst h_9
    exact q_iret hX hr hlk () (by simp [sp_clashes, c_1]) (hP.sub [] rfl) (hD.sub [] (by decide) rfl) hS dX7_clashes_25
abbrev w_m_played (cI cZ cP : ClassId) (mo : Nat) (a_now : Nat) (a_kep : Nat) (a_isk : Nat) (a_ref : Nat) (a_cw : Nat) (a_row : Nat) (a_lea : Nat) (a_sli : Nat) (a_lef : Nat) (a_bst : Nat) (a_try : Nat) (a_mom : Nat) (a_byt : Nat) (a_nxt : Nat) (a_val : Nat) : va_W := [(mo, .inr (7, [.ref a_now, .ref a_kep, .ref a_isk, .ref a_ref, .long 0, .long 1, .int 0, .int 0, .int 0, .int 0, .ref a_cw, .ref a_row, .int 0, .ref a_lea, .ref a_sli, .ref a_lef, .ref a_bst, .ref a_try, .int 0, .ref a_mom, .ref a_byt, .int 0, .int 0, .int 0, .int 0, .int 0, .ref a_nxt, .ref a_val])), (a_now, .inl (cI, 221, .inl nw0))]
set_option maxHeartbeats 4000000 in
set_option maxRecDepth 100000 in
theorem c_m_played (l : Launch) (D : va_G) (cI cZ cP : ClassId) (sa : Nat → Nat) (mo : Nat) (a_now : Nat) (a_kep : Nat) (a_isk : Nat) (a_ref : Nat) (a_cw : Nat) (a_row : Nat) (a_lea : Nat) (a_sli : Nat) (a_lef : Nat) (a_bst : Nat) (a_try : Nat) (a_mom : Nat) (a_byt : Nat) (a_nxt : Nat) (a_val : Nat) (sz : Nat) : Met l yX7_played (qW yX7_played cX7_played 3 (some .int)) ({ frames := 1, cells := 0, slots := 0, locals := 20 } : Room) (qP D (TY cI cZ cP) sa [.ref mo] (w_m_played cI cZ cP mo a_now a_kep a_isk a_ref a_cw a_row a_lea a_sli a_lef a_bst a_try a_mom a_byt a_nxt a_val) sz) (qQi D (w_m_played cI cZ cP mo a_now a_kep a_isk a_ref a_cw a_row a_lea a_sli a_lef a_bst a_try a_mom a_byt a_nxt a_val) sz (fun (r : Int32) (_ : Unit) => r = 0) (fun _ => [(mo, .inr (7, [.ref a_now, .ref a_kep, .ref a_isk, .ref a_ref, .long 0, .long 1, .int 0, .int 0, .int 0, .int 0, .ref a_cw, .ref a_row, .int 0, .ref a_lea, .ref a_sli, .ref a_lef, .ref a_bst, .ref a_try, .int 0, .ref a_mom, .ref a_byt, .int 0, .int 0, .int 0, .int 0, .int 0, .ref a_nxt, .ref a_val])), (a_now, .inl (cI, 221, .inl nw0))])) 0 0 (va_A (w_m_played cI cZ cP mo a_now a_kep a_isk a_ref a_cw a_row a_lea a_sli a_lef a_bst a_try a_mom a_byt a_nxt a_val) sz) := by
  refine q_enter (by decide) (Nat.le_of_ble_eq_true rfl) ?_
  intro p e s m below meth c ls hX hr hlk hnm hE hK hP hD hS hA hl
  obtain ⟨hx, hb, hml, hown, ht⟩ := id hX
  have hl : lv_has ls 3 [(0, .ref mo)] := hl
  refine lv_iconst (v := 0) hx hb dX7_played_0 (by decide) ?_
  refine lv_istore_n (lv' := [(1, .int 0), (0, .ref mo)]) hx hb dX7_played_1 rfl hl (by decide) rfl (fun ls hl => ?_)
  refine lv_iconst (v := 0) hx hb dX7_played_2 (by decide) ?_
  refine lv_istore_n (lv' := [(2, .int 0), (1, .int 0), (0, .ref mo)]) hx hb dX7_played_3 rfl hl (by decide) rfl (fun ls hl => ?_)
  refine lv_iload_n hx hb dX7_played_4 rfl (lv_at hl 0 rfl) ?_
  refine lv_aload_n hx hb dX7_played_5 rfl (lv_at hl 2 rfl) ?_
  refine q_Vi (wr := []) [0, 1] [] hX hE hK hP hD hS hA hl.1 lk_X7_64 (c_m_notes l D cI cZ cP sa mo a_now a_kep a_isk a_ref a_cw a_row a_lea a_sli a_lef a_bst a_try a_mom a_byt a_nxt a_val 0 1 0 0 0 0 0 0 0 0 0 0 0 _) rfl rfl rfl rfl (by decide) 0 7 rfl rfl rfl rfl (Nat.le_of_ble_eq_true rfl) rfl rfl ⟨Nat.le_of_ble_eq_true rfl, Nat.le_of_ble_eq_true rfl⟩ ⟨Nat.le_of_ble_eq_true rfl, Nat.le_of_ble_eq_true rfl⟩ dX7_played_6 (fun x_1 _ H locs h_1 hP hD hS => ?_)
  have hP : va_P D vwCl [(mo, .inr (7, [.ref a_now, .ref a_kep, .ref a_isk, .ref a_ref, .long 0, .long 1, .int 0, .int 0, .int 0, .int 0, .ref a_cw, .ref a_row, .int 0, .ref a_lea, .ref a_sli, .ref a_lef, .ref a_bst, .ref a_try, .int 0, .ref a_mom, .ref a_byt, .int 0, .int 0, .int 0, .int 0, .int 0, .ref a_nxt, .ref a_val])), (a_now, .inl (cI, 221, .inl nw0))] H := hP
  have hD : va_D (va_A (w_m_played cI cZ cP mo a_now a_kep a_isk a_ref a_cw a_row a_lea a_sli a_lef a_bst a_try a_mom a_byt a_nxt a_val) sz) [(mo, .inr (7, [.ref a_now, .ref a_kep, .ref a_isk, .ref a_ref, .long 0, .long 1, .int 0, .int 0, .int 0, .int 0, .ref a_cw, .ref a_row, .int 0, .ref a_lea, .ref a_sli, .ref a_lef, .ref a_bst, .ref a_try, .int 0, .ref a_mom, .ref a_byt, .int 0, .int 0, .int 0, .int 0, .int 0, .ref a_nxt, .ref a_val])), (a_now, .inl (cI, 221, .inl nw0))] := hD
  subst h_1
  refine lv_icmp_ge (tgt := 34) hx hb dX7_played_9 (by decide) (fun _ => ?_) (fun c_2 => absurd (by decide) c_2)
  refine lv_iload_n hx hb dX7_played_34 rfl (lv_at hl 1 rfl) ?_
  exact q_iret hX hr hlk () rfl (hP.sub [0, 1] rfl) (hD.sub [0, 1] (by decide) rfl) hS dX7_played_35
abbrev w_m_type (cI cZ cP : ClassId) (mo : Nat) (a_now : Nat) (a_kep : Nat) (a_isk : Nat) (a_ref : Nat) (a_cw : Nat) (a_row : Nat) (a_lea : Nat) (a_sli : Nat) (a_lef : Nat) (a_bst : Nat) (a_try : Nat) (a_mom : Nat) (a_byt : Nat) (a_nxt : Nat) (a_val : Nat) (p0 : Int32) : va_W := [(mo, .inr (7, [.ref a_now, .ref a_kep, .ref a_isk, .ref a_ref, .long 0, .long 1, .int 0, .int 0, .int 0, .int 0, .ref a_cw, .ref a_row, .int 0, .ref a_lea, .ref a_sli, .ref a_lef, .ref a_bst, .ref a_try, .int 0, .ref a_mom, .ref a_byt, .int 0, .int 0, .int 0, .int 0, .int 0, .ref a_nxt, .ref a_val])), (a_ref, .inl (cI, 3, .inl (fun _ => 0))), (a_byt, .inl (cI, 150, .inl (fun _ => 0)))]
set_option maxHeartbeats 4000000 in
set_option maxRecDepth 100000 in
theorem c_m_type (l : Launch) (D : va_G) (cI cZ cP : ClassId) (sa : Nat → Nat) (mo : Nat) (a_now : Nat) (a_kep : Nat) (a_isk : Nat) (a_ref : Nat) (a_cw : Nat) (a_row : Nat) (a_lea : Nat) (a_sli : Nat) (a_lef : Nat) (a_bst : Nat) (a_try : Nat) (a_mom : Nat) (a_byt : Nat) (a_nxt : Nat) (a_val : Nat) (p0 : Int32) (sz : Nat) : Met l yX7_type (qW yX7_type cX7_type 2 (some .int)) ({ frames := 1, cells := 0, slots := 0, locals := 25 } : Room) (qP D (TY cI cZ cP) sa [.ref mo, .int p0] (w_m_type cI cZ cP mo a_now a_kep a_isk a_ref a_cw a_row a_lea a_sli a_lef a_bst a_try a_mom a_byt a_nxt a_val p0) sz) (qQi D (w_m_type cI cZ cP mo a_now a_kep a_isk a_ref a_cw a_row a_lea a_sli a_lef a_bst a_try a_mom a_byt a_nxt a_val p0) sz (fun (r : Int32) (_ : Unit) => r = sp_type p0) (fun _ => [])) 0 0 (va_A (w_m_type cI cZ cP mo a_now a_kep a_isk a_ref a_cw a_row a_lea a_sli a_lef a_bst a_try a_mom a_byt a_nxt a_val p0) sz) := by
  refine q_enter (by decide) (Nat.le_of_ble_eq_true rfl) ?_
  intro p e s m below meth c ls hX hr hlk hnm hE hK hP hD hS hA hl
  obtain ⟨hx, hb, hml, hown, ht⟩ := id hX
  have hl : lv_has ls 2 [(0, .ref mo), (1, .int p0)] := hl
  refine lv_iload_n hx hb dX7_type_0 rfl (lv_at hl 1 rfl) ?_
  refine lv_i2l (v := (p0.toInt64)) hx hb dX7_type_1 rfl ?_
  refine lv_lconst (v := 0) hx hb dX7_type_2 (by decide) ?_
  refine q_l (z := ((0 : Int32).toInt64)) (by decide) ?_
  refine lv_ldc2 hx hb hown (ht _ kw_1272) dX7_type_3 ?_
  refine q_l (z := ((127 : Int32).toInt64)) (by decide) ?_
  refine q_Si (wr := [(mo, .inr (7, [.ref a_now, .ref a_kep, .ref a_isk, .ref a_ref, .long 0, .long 1, .int 0, .int 0, .int 0, .int 0, .ref a_cw, .ref a_row, .int 0, .ref a_lea, .ref a_sli, .ref a_lef, .ref a_bst, .ref a_try, .int 0, .ref a_mom, .ref a_byt, .int 0, .int 0, .int 0, .int 0, .int 0, .ref a_nxt, .ref a_val])), (a_ref, .inl (cI, 3, .inl (fun _ => 0))), (a_byt, .inl (cI, 150, .inl (fun _ => 0)))]) [] [0, 1, 2] hX hE hK hP hD hS hA hl.1 lk_X7_68 (c_m_in l D cI cZ cP sa p0 0 127 _) rfl rfl rfl rfl (by decide) rfl rfl (Nat.le_of_ble_eq_true rfl) rfl rfl ⟨Nat.le_of_ble_eq_true rfl, Nat.le_of_ble_eq_true rfl⟩ ⟨Nat.le_of_ble_eq_true rfl, Nat.le_of_ble_eq_true rfl⟩ dX7_type_6 (fun x_1 _ H locs h_1 hP hD hS => ?_)
  have hP : va_P D vwCl [(mo, .inr (7, [.ref a_now, .ref a_kep, .ref a_isk, .ref a_ref, .long 0, .long 1, .int 0, .int 0, .int 0, .int 0, .ref a_cw, .ref a_row, .int 0, .ref a_lea, .ref a_sli, .ref a_lef, .ref a_bst, .ref a_try, .int 0, .ref a_mom, .ref a_byt, .int 0, .int 0, .int 0, .int 0, .int 0, .ref a_nxt, .ref a_val])), (a_ref, .inl (cI, 3, .inl (fun _ => 0))), (a_byt, .inl (cI, 150, .inl (fun _ => 0)))] H := hP
  have hD : va_D (va_A (w_m_type cI cZ cP mo a_now a_kep a_isk a_ref a_cw a_row a_lea a_sli a_lef a_bst a_try a_mom a_byt a_nxt a_val p0) sz) [(mo, .inr (7, [.ref a_now, .ref a_kep, .ref a_isk, .ref a_ref, .long 0, .long 1, .int 0, .int 0, .int 0, .int 0, .ref a_cw, .ref a_row, .int 0, .ref a_lea, .ref a_sli, .ref a_lef, .ref a_bst, .ref a_try, .int 0, .ref a_mom, .ref a_byt, .int 0, .int 0, .int 0, .int 0, .int 0, .ref a_nxt, .ref a_val])), (a_ref, .inl (cI, 3, .inl (fun _ => 0))), (a_byt, .inl (cI, 150, .inl (fun _ => 0)))] := hD
  rcases Classical.em (0 ≤ p0 ∧ p0 ≤ 127) with c_1 | c_1
  · rw [if_pos c_1] at h_1; subst h_1
    refine lv_if_ne (tgt := 19) hx hb dX7_type_9 (by decide) (fun _ => ?_) (fun c_2 => absurd c_2 (by decide))
    refine lv_aload_n hx hb dX7_type_19 rfl (lv_at hl 0 rfl) ?_
    refine va_get (D := D) (ci := 7) (v := .int 0) (C := RX7) (T := TX7) (N := 28) hx hb ht inX7 hown hK hP 0 rfl rfl 21 (Nat.le_of_ble_eq_true rfl) (ht _ kw_925) (fun _ h9 => h9) rfl dX7_type_20 ?_
    refine lv_sipush (v := 150) hx hb dX7_type_23 (by decide) ?_
    refine lv_icmp_ne (tgt := 34) hx hb dX7_type_26 (by decide) (fun _ => ?_) (fun c_3 => absurd c_3 (by decide))
    refine lv_aload_n hx hb dX7_type_34 rfl (lv_at hl 0 rfl) ?_
    refine va_get (D := D) (ci := 7) (v := .ref a_byt) (C := RX7) (T := TX7) (N := 28) hx hb ht inX7 hown hK hP 0 rfl rfl 20 (Nat.le_of_ble_eq_true rfl) (ht _ kw_924) (fun _ h9 => h9) rfl dX7_type_35 ?_
    refine lv_aload_n hx hb dX7_type_38 rfl (lv_at hl 0 rfl) ?_
    refine va_get (D := D) (ci := 7) (v := .int 0) (C := RX7) (T := TX7) (N := 28) hx hb ht inX7 hown hK hP 0 rfl rfl 21 (Nat.le_of_ble_eq_true rfl) (ht _ kw_925) (fun _ h9 => h9) rfl dX7_type_39 ?_
    refine lv_iload_n hx hb dX7_type_42 rfl (lv_at hl 1 rfl) ?_
    refine va_iast hx hb hK hP hD hS 2 0 rfl rfl (vin (by decide)) dX7_type_43 (fun H locs hP hD hS => ?_)
    have hP : va_P D vwCl [(mo, .inr (7, [.ref a_now, .ref a_kep, .ref a_isk, .ref a_ref, .long 0, .long 1, .int 0, .int 0, .int 0, .int 0, .ref a_cw, .ref a_row, .int 0, .ref a_lea, .ref a_sli, .ref a_lef, .ref a_bst, .ref a_try, .int 0, .ref a_mom, .ref a_byt, .int 0, .int 0, .int 0, .int 0, .int 0, .ref a_nxt, .ref a_val])), (a_ref, .inl (cI, 3, .inl (fun _ => 0))), (a_byt, .inl (cI, 150, .inl (upd (fun _ => 0) (0 : Int32).toNatClampNeg p0)))] H := hP
    have hD : va_D (va_A (w_m_type cI cZ cP mo a_now a_kep a_isk a_ref a_cw a_row a_lea a_sli a_lef a_bst a_try a_mom a_byt a_nxt a_val p0) sz) [(mo, .inr (7, [.ref a_now, .ref a_kep, .ref a_isk, .ref a_ref, .long 0, .long 1, .int 0, .int 0, .int 0, .int 0, .ref a_cw, .ref a_row, .int 0, .ref a_lea, .ref a_sli, .ref a_lef, .ref a_bst, .ref a_try, .int 0, .ref a_mom, .ref a_byt, .int 0, .int 0, .int 0, .int 0, .int 0, .ref a_nxt, .ref a_val])), (a_ref, .inl (cI, 3, .inl (fun _ => 0))), (a_byt, .inl (cI, 150, .inl (upd (fun _ => 0) (0 : Int32).toNatClampNeg p0)))] := hD
    refine lv_aload_n hx hb dX7_type_44 rfl (lv_at hl 0 rfl) ?_
    refine lv_dup hx hb dX7_type_45 rfl ?_
    refine va_get (D := D) (ci := 7) (v := .int 0) (C := RX7) (T := TX7) (N := 28) hx hb ht inX7 hown hK hP 0 rfl rfl 21 (Nat.le_of_ble_eq_true rfl) (ht _ kw_925) (fun _ h9 => h9) rfl dX7_type_46 ?_
    refine lv_iconst (v := 1) hx hb dX7_type_49 (by decide) ?_
    refine lv_iadd hx hb dX7_type_50 ?_
    refine q_i (z := 1) (by decide) ?_
    refine va_put (D := D) (ci := 7) (v := .int 1) (ty := .int) (C := RX7) (T := TX7) (N := 28) hx hb ht inX7 tyX7 tyX7_ok nmX7 hown hK hP hD hS 0 rfl rfl 21 (Nat.le_of_ble_eq_true rfl) (ht _ kw_925) (fun _ h9 => h9) rfl (by decide +kernel) rfl rfl (Nat.le_of_ble_eq_true rfl) dX7_type_51 (fun H locs hP hD hS => ?_)
    have hP : va_P D vwCl [(mo, .inr (7, [.ref a_now, .ref a_kep, .ref a_isk, .ref a_ref, .long 0, .long 1, .int 0, .int 0, .int 0, .int 0, .ref a_cw, .ref a_row, .int 0, .ref a_lea, .ref a_sli, .ref a_lef, .ref a_bst, .ref a_try, .int 0, .ref a_mom, .ref a_byt, .int 1, .int 0, .int 0, .int 0, .int 0, .ref a_nxt, .ref a_val])), (a_ref, .inl (cI, 3, .inl (fun _ => 0))), (a_byt, .inl (cI, 150, .inl (upd (fun _ => 0) (0 : Int32).toNatClampNeg p0)))] H := hP
    have hD : va_D (va_A (w_m_type cI cZ cP mo a_now a_kep a_isk a_ref a_cw a_row a_lea a_sli a_lef a_bst a_try a_mom a_byt a_nxt a_val p0) sz) [(mo, .inr (7, [.ref a_now, .ref a_kep, .ref a_isk, .ref a_ref, .long 0, .long 1, .int 0, .int 0, .int 0, .int 0, .ref a_cw, .ref a_row, .int 0, .ref a_lea, .ref a_sli, .ref a_lef, .ref a_bst, .ref a_try, .int 0, .ref a_mom, .ref a_byt, .int 1, .int 0, .int 0, .int 0, .int 0, .ref a_nxt, .ref a_val])), (a_ref, .inl (cI, 3, .inl (fun _ => 0))), (a_byt, .inl (cI, 150, .inl (upd (fun _ => 0) (0 : Int32).toNatClampNeg p0)))] := hD
    refine lv_aload_n hx hb dX7_type_54 rfl (lv_at hl 0 rfl) ?_
    refine va_get (D := D) (ci := 7) (v := .int 1) (C := RX7) (T := TX7) (N := 28) hx hb ht inX7 hown hK hP 0 rfl rfl 21 (Nat.le_of_ble_eq_true rfl) (ht _ kw_925) (fun _ h9 => h9) rfl dX7_type_55 ?_
    exact q_iret hX hr hlk () (by simp [sp_type, c_1]) (hP.sub [] rfl) (hD.sub [] (by decide) rfl) hS dX7_type_58
  · rw [if_neg c_1] at h_1; subst h_1
    refine lv_if_ne (tgt := 19) hx hb dX7_type_9 (by decide) (fun c_4 => absurd (by decide) c_4) (fun _ => ?_)
    refine lv_aload_n hx hb dX7_type_12 rfl (lv_at hl 0 rfl) ?_
    refine lv_bipush (v := (-2)) hx hb dX7_type_13 (by decide) ?_
    refine q_Vi (wr := [(a_byt, .inl (cI, 150, .inl (fun _ => 0)))]) [0, 1] [2] hX hE hK hP hD hS hA hl.1 lk_X7_76 (c_m_bad l D cI cZ cP sa mo a_now a_kep a_isk a_ref a_cw a_row a_lea a_sli a_lef a_bst a_try a_mom a_byt a_nxt a_val 0 1 0 0 0 0 0 0 0 0 0 0 0 (-2) _) rfl rfl rfl rfl (by decide) 0 7 rfl rfl rfl rfl (Nat.le_of_ble_eq_true rfl) rfl rfl ⟨Nat.le_of_ble_eq_true rfl, Nat.le_of_ble_eq_true rfl⟩ ⟨Nat.le_of_ble_eq_true rfl, Nat.le_of_ble_eq_true rfl⟩ dX7_type_15 (fun x_5 _ H locs h_5 hP hD hS => ?_)
    have hP : va_P D vwCl [(a_byt, .inl (cI, 150, .inl (fun _ => 0)))] H := hP
    have hD : va_D (va_A (w_m_type cI cZ cP mo a_now a_kep a_isk a_ref a_cw a_row a_lea a_sli a_lef a_bst a_try a_mom a_byt a_nxt a_val p0) sz) [(a_byt, .inl (cI, 150, .inl (fun _ => 0)))] := hD
    subst h_5
    exact q_iret hX hr hlk () (by simp [sp_type, c_1]) (hP.sub [] rfl) (hD.sub [] (by decide) rfl) hS dX7_type_18
abbrev w_m_clear (cI cZ cP : ClassId) (mo : Nat) (a_now : Nat) (a_kep : Nat) (a_isk : Nat) (a_ref : Nat) (a_cw : Nat) (a_row : Nat) (a_lea : Nat) (a_sli : Nat) (a_lef : Nat) (a_bst : Nat) (a_try : Nat) (a_mom : Nat) (a_byt : Nat) (a_nxt : Nat) (a_val : Nat) : va_W := [(mo, .inr (7, [.ref a_now, .ref a_kep, .ref a_isk, .ref a_ref, .long 0, .long 1, .int 0, .int 0, .int 0, .int 0, .ref a_cw, .ref a_row, .int 0, .ref a_lea, .ref a_sli, .ref a_lef, .ref a_bst, .ref a_try, .int 0, .ref a_mom, .ref a_byt, .int 0, .int 0, .int 0, .int 0, .int 0, .ref a_nxt, .ref a_val]))]
set_option maxHeartbeats 4000000 in
set_option maxRecDepth 100000 in
theorem c_m_clear (l : Launch) (D : va_G) (cI cZ cP : ClassId) (sa : Nat → Nat) (mo : Nat) (a_now : Nat) (a_kep : Nat) (a_isk : Nat) (a_ref : Nat) (a_cw : Nat) (a_row : Nat) (a_lea : Nat) (a_sli : Nat) (a_lef : Nat) (a_bst : Nat) (a_try : Nat) (a_mom : Nat) (a_byt : Nat) (a_nxt : Nat) (a_val : Nat) (sz : Nat) : Met l yX7_clear (qW yX7_clear cX7_clear 2 (some .int)) ({ frames := 0, cells := 0, slots := 0, locals := 0 } : Room) (qP D (TY cI cZ cP) sa [.ref mo] (w_m_clear cI cZ cP mo a_now a_kep a_isk a_ref a_cw a_row a_lea a_sli a_lef a_bst a_try a_mom a_byt a_nxt a_val) sz) (qQi D (w_m_clear cI cZ cP mo a_now a_kep a_isk a_ref a_cw a_row a_lea a_sli a_lef a_bst a_try a_mom a_byt a_nxt a_val) sz (fun (r : Int32) (_ : Unit) => r = 0) (fun _ => [])) 0 0 (va_A (w_m_clear cI cZ cP mo a_now a_kep a_isk a_ref a_cw a_row a_lea a_sli a_lef a_bst a_try a_mom a_byt a_nxt a_val) sz) := by
  refine q_enter (by decide) (Nat.le_of_ble_eq_true rfl) ?_
  intro p e s m below meth c ls hX hr hlk hnm hE hK hP hD hS hA hl
  obtain ⟨hx, hb, hml, hown, ht⟩ := id hX
  have hl : lv_has ls 2 [(0, .ref mo)] := hl
  refine lv_aload_n hx hb dX7_clear_0 rfl (lv_at hl 0 rfl) ?_
  refine va_get (D := D) (ci := 7) (v := .int 0) (C := RX7) (T := TX7) (N := 28) hx hb ht inX7 hown hK hP 0 rfl rfl 21 (Nat.le_of_ble_eq_true rfl) (ht _ kw_925) (fun _ h9 => h9) rfl dX7_clear_1 ?_
  refine lv_istore_n (lv' := [(1, .int 0), (0, .ref mo)]) hx hb dX7_clear_4 rfl hl (by decide) rfl (fun ls hl => ?_)
  refine lv_aload_n hx hb dX7_clear_5 rfl (lv_at hl 1 rfl) ?_
  refine lv_iconst (v := 0) hx hb dX7_clear_6 (by decide) ?_
  refine va_put (D := D) (ci := 7) (v := .int 0) (ty := .int) (C := RX7) (T := TX7) (N := 28) hx hb ht inX7 tyX7 tyX7_ok nmX7 hown hK hP hD hS 0 rfl rfl 21 (Nat.le_of_ble_eq_true rfl) (ht _ kw_925) (fun _ h9 => h9) rfl (by decide +kernel) rfl rfl (Nat.le_of_ble_eq_true rfl) dX7_clear_7 (fun H locs hP hD hS => ?_)
  have hP : va_P D vwCl [(mo, .inr (7, [.ref a_now, .ref a_kep, .ref a_isk, .ref a_ref, .long 0, .long 1, .int 0, .int 0, .int 0, .int 0, .ref a_cw, .ref a_row, .int 0, .ref a_lea, .ref a_sli, .ref a_lef, .ref a_bst, .ref a_try, .int 0, .ref a_mom, .ref a_byt, .int 0, .int 0, .int 0, .int 0, .int 0, .ref a_nxt, .ref a_val]))] H := hP
  have hD : va_D (va_A (w_m_clear cI cZ cP mo a_now a_kep a_isk a_ref a_cw a_row a_lea a_sli a_lef a_bst a_try a_mom a_byt a_nxt a_val) sz) [(mo, .inr (7, [.ref a_now, .ref a_kep, .ref a_isk, .ref a_ref, .long 0, .long 1, .int 0, .int 0, .int 0, .int 0, .ref a_cw, .ref a_row, .int 0, .ref a_lea, .ref a_sli, .ref a_lef, .ref a_bst, .ref a_try, .int 0, .ref a_mom, .ref a_byt, .int 0, .int 0, .int 0, .int 0, .int 0, .ref a_nxt, .ref a_val]))] := hD
  refine lv_iload_n hx hb dX7_clear_10 rfl (lv_at hl 0 rfl) ?_
  exact q_iret hX hr hlk () rfl (hP.sub [] rfl) (hD.sub [] (by decide) rfl) hS dX7_clear_11
abbrev w_m_part (cI cZ cP : ClassId) (mo : Nat) (a_now : Nat) (a_kep : Nat) (a_isk : Nat) (a_ref : Nat) (a_cw : Nat) (a_row : Nat) (a_lea : Nat) (a_sli : Nat) (a_lef : Nat) (a_bst : Nat) (a_try : Nat) (a_mom : Nat) (a_byt : Nat) (a_nxt : Nat) (a_val : Nat) (p0 : Int32) : va_W := [(mo, .inr (7, [.ref a_now, .ref a_kep, .ref a_isk, .ref a_ref, .long 0, .long 1, .int 0, .int 0, .int 0, .int 0, .ref a_cw, .ref a_row, .int 0, .ref a_lea, .ref a_sli, .ref a_lef, .ref a_bst, .ref a_try, .int 0, .ref a_mom, .ref a_byt, .int 0, .int 0, .int 0, .int 0, .int 0, .ref a_nxt, .ref a_val])), (a_ref, .inl (cI, 3, .inl (fun _ => 0)))]
set_option maxHeartbeats 4000000 in
set_option maxRecDepth 100000 in
theorem c_m_part (l : Launch) (D : va_G) (cI cZ cP : ClassId) (sa : Nat → Nat) (mo : Nat) (a_now : Nat) (a_kep : Nat) (a_isk : Nat) (a_ref : Nat) (a_cw : Nat) (a_row : Nat) (a_lea : Nat) (a_sli : Nat) (a_lef : Nat) (a_bst : Nat) (a_try : Nat) (a_mom : Nat) (a_byt : Nat) (a_nxt : Nat) (a_val : Nat) (p0 : Int32) (sz : Nat) : Met l yX7_part (qW yX7_part cX7_part 2 (some .long)) ({ frames := 1, cells := 0, slots := 0, locals := 21 } : Room) (qP D (TY cI cZ cP) sa [.ref mo, .int p0] (w_m_part cI cZ cP mo a_now a_kep a_isk a_ref a_cw a_row a_lea a_sli a_lef a_bst a_try a_mom a_byt a_nxt a_val p0) sz) (qQl D (w_m_part cI cZ cP mo a_now a_kep a_isk a_ref a_cw a_row a_lea a_sli a_lef a_bst a_try a_mom a_byt a_nxt a_val p0) sz (fun (r : Int64) (_ : Unit) => r = sp_part p0) (fun _ => [])) 0 0 (va_A (w_m_part cI cZ cP mo a_now a_kep a_isk a_ref a_cw a_row a_lea a_sli a_lef a_bst a_try a_mom a_byt a_nxt a_val p0) sz) := by
  refine q_enter (by decide) (Nat.le_of_ble_eq_true rfl) ?_
  intro p e s m below meth c ls hX hr hlk hnm hE hK hP hD hS hA hl
  obtain ⟨hx, hb, hml, hown, ht⟩ := id hX
  have hl : lv_has ls 2 [(0, .ref mo), (1, .int p0)] := hl
  refine lv_iload_n hx hb dX7_part_0 rfl (lv_at hl 1 rfl) ?_
  refine lv_if_ne (tgt := 11) hx hb dX7_part_1 (by decide) (fun c_1 => ?_) (fun c_1 => ?_)
  · refine lv_iload_n hx hb dX7_part_11 rfl (lv_at hl 1 rfl) ?_
    refine lv_iconst (v := 1) hx hb dX7_part_12 (by decide) ?_
    refine lv_icmp_ne (tgt := 23) hx hb dX7_part_13 (by decide) (fun c_2 => ?_) (fun c_2 => ?_)
    · refine lv_aload_n hx hb dX7_part_23 rfl (lv_at hl 0 rfl) ?_
      refine lv_bipush (v := (-2)) hx hb dX7_part_24 (by decide) ?_
      refine q_Vi (wr := []) [0, 1] [] hX hE hK hP hD hS hA hl.1 lk_X7_76 (c_m_bad l D cI cZ cP sa mo a_now a_kep a_isk a_ref a_cw a_row a_lea a_sli a_lef a_bst a_try a_mom a_byt a_nxt a_val 0 1 0 0 0 0 0 0 0 0 0 0 0 (-2) _) rfl rfl rfl rfl (by decide) 0 7 rfl rfl rfl rfl (Nat.le_of_ble_eq_true rfl) rfl rfl ⟨Nat.le_of_ble_eq_true rfl, Nat.le_of_ble_eq_true rfl⟩ ⟨Nat.le_of_ble_eq_true rfl, Nat.le_of_ble_eq_true rfl⟩ dX7_part_26 (fun x_3 _ H locs h_3 hP hD hS => ?_)
      have hP : va_P D vwCl [] H := hP
      have hD : va_D (va_A (w_m_part cI cZ cP mo a_now a_kep a_isk a_ref a_cw a_row a_lea a_sli a_lef a_bst a_try a_mom a_byt a_nxt a_val p0) sz) [] := hD
      subst h_3
      refine lv_i2l (v := ((-2 : Int32).toInt64)) hx hb dX7_part_29 rfl ?_
      exact q_lret hX hr hlk () (by simp [sp_part, bit_iff, c_1, c_2]) (hP.sub [] rfl) (hD.sub [] (by decide) rfl) hS dX7_part_30
    · refine lv_aload_n hx hb dX7_part_16 rfl (lv_at hl 0 rfl) ?_
      refine va_get (D := D) (ci := 7) (v := .long 1) (C := RX7) (T := TX7) (N := 28) hx hb ht inX7 hown hK hP 0 rfl rfl 5 (Nat.le_of_ble_eq_true rfl) (ht _ kw_909) (fun _ h9 => h9) rfl dX7_part_17 ?_
      refine lv_goto (tgt := 30) hx hb dX7_part_20 (by decide) ?_
      exact q_lret hX hr hlk () (by simp [sp_part, bit_iff, c_1, c_2]) (hP.sub [] rfl) (hD.sub [] (by decide) rfl) hS dX7_part_30
  · refine lv_aload_n hx hb dX7_part_4 rfl (lv_at hl 0 rfl) ?_
    refine va_get (D := D) (ci := 7) (v := .long 0) (C := RX7) (T := TX7) (N := 28) hx hb ht inX7 hown hK hP 0 rfl rfl 4 (Nat.le_of_ble_eq_true rfl) (ht _ kw_908) (fun _ h9 => h9) rfl dX7_part_5 ?_
    refine lv_goto (tgt := 30) hx hb dX7_part_8 (by decide) ?_
    exact q_lret hX hr hlk () (by simp [sp_part, bit_iff, c_1]) (hP.sub [] rfl) (hD.sub [] (by decide) rfl) hS dX7_part_30
