abbrev w_m_begin (cI cZ cP : ClassId) (q : Nat) (f : Nat → Int32) (p0 : Int32) : va_W := [(q, .inl (cI, 221, .inl f))]
set_option maxHeartbeats 4000000 in
set_option maxRecDepth 100000 in
theorem c_m_begin (l : Launch) (D : va_G) (cI cZ cP : ClassId) (sa : Nat → Nat) (q : Nat) (f : Nat → Int32) (p0 : Int32) (sz : Nat) : Met l yX7_begin (qW yX7_begin cX7_begin 3 none) ({ frames := 0, cells := 0, slots := 0, locals := 0 } : Room) (qP D (TY cI cZ cP) sa [.ref q, .int p0] (w_m_begin cI cZ cP q f p0) sz) (qQv D (w_m_begin cI cZ cP q f p0) sz (fun _ : Unit => True) (fun _ => [])) 0 0 (va_A (w_m_begin cI cZ cP q f p0) sz) := by
  refine q_enter (by decide) (Nat.le_of_ble_eq_true rfl) ?_
  intro p e s m below meth c ls hX hr hlk hnm hE hK hP hD hS hA hl
  obtain ⟨hx, hb, hml, hown, ht⟩ := id hX
  have hl : lv_has ls 3 [(0, .ref q), (1, .int p0)] := hl
  refine lv_iconst (v := 0) hx hb dX7_begin_0 (by decide) ?_
  refine lv_istore_n (lv' := [(2, .int 0), (0, .ref q), (1, .int p0)]) hx hb dX7_begin_1 rfl hl (by decide) rfl (fun ls hl => ?_)
  have lp_2 : ∀ (n_2 : Nat) (k : Nat) (g : Nat → Int32), (k ≤ 101) → (102 ≤ k + n_2) → ∀ (H : Heap) (locs : List Loc) (ls : Array Slot), va_P D vwCl [(q, .inl (cI, 221, .inl g))] H → va_D (va_A (w_m_begin cI cZ cP q f p0) sz) [(q, .inl (cI, 221, .inl g))] → va_S (va_A (w_m_begin cI cZ cP q f p0) sz) s.heap H locs → lv_has ls 3 [(2, .int (nI k)), (0, .ref q), (1, .int p0)] → W p l e ({ frames := 0, cells := 0, slots := 0, locals := 0 } : Room) s m ([.ref q, .int p0] : List Value).toArray below meth c H locs 0 0 (MQ below (qQv D (w_m_begin cI cZ cP q f p0) sz (fun _ : Unit => True) (fun _ => [])) ([.ref q, .int p0] : List Value).toArray s 0 0 (va_A (w_m_begin cI cZ cP q f p0) sz)) (F0 m 2 ls []) := by
    intro n_2
    induction n_2 with
    | zero => intro k g hk hm_2; exact absurd hm_2 (by omega)
    | succ n_2 ih_2 =>
      intro k g hk hm_2 H locs ls hP hD hS hl
      refine lv_iload_n hx hb dX7_begin_2 rfl (lv_at hl 0 rfl) ?_
      refine lv_bipush (v := 101) hx hb dX7_begin_3 (by decide) ?_
      refine lv_icmp_ge (tgt := 18) hx hb dX7_begin_5 (by decide) (fun c_1 => ?_) (fun c_1 => ?_)
      · refine lv_aload_n hx hb dX7_begin_18 rfl (lv_at hl 1 rfl) ?_
        refine lv_iconst (v := 1) hx hb dX7_begin_19 (by decide) ?_
        refine lv_iload_n hx hb dX7_begin_20 rfl (lv_at hl 2 rfl) ?_
        refine va_iast hx hb hK hP hD hS 0 0 rfl rfl (vin (by decide)) dX7_begin_21 (fun H locs hP hD hS => ?_)
        have hP : va_P D vwCl [(q, .inl (cI, 221, .inl (upd g (1 : Int32).toNatClampNeg p0)))] H := hP
        have hD : va_D (va_A (w_m_begin cI cZ cP q f p0) sz) [(q, .inl (cI, 221, .inl (upd g (1 : Int32).toNatClampNeg p0)))] := hD
        refine lv_iconst (v := 0) hx hb dX7_begin_22 (by decide) ?_
        refine lv_istore_n (lv' := [(2, .int 0), (0, .ref q), (1, .int p0)]) hx hb dX7_begin_23 rfl hl (by decide) rfl (fun ls hl => ?_)
        refine lv_iload_n hx hb dX7_begin_24 rfl (lv_at hl 0 rfl) ?_
        refine lv_iconst (v := 4) hx hb dX7_begin_25 (by decide) ?_
        refine lv_icmp_ge (tgt := 66) hx hb dX7_begin_26 (by decide) (fun c_2 => absurd c_2 (by decide)) (fun _ => ?_)
        refine lv_aload_n hx hb dX7_begin_29 rfl (lv_at hl 1 rfl) ?_
        refine lv_iconst (v := 4) hx hb dX7_begin_30 (by decide) ?_
        refine lv_iconst (v := 3) hx hb dX7_begin_31 (by decide) ?_
        refine lv_iload_n hx hb dX7_begin_32 rfl (lv_at hl 0 rfl) ?_
        refine lv_imul hx hb dX7_begin_33 ?_
        refine q_i (z := 0) (by decide) ?_
        refine lv_iadd hx hb dX7_begin_34 ?_
        refine q_i (z := 4) (by decide) ?_
        refine lv_iconst (v := 0) hx hb dX7_begin_35 (by decide) ?_
        refine lv_iadd hx hb dX7_begin_36 ?_
        refine q_i (z := 4) (by decide) ?_
        refine lv_iconst (v := 0) hx hb dX7_begin_37 (by decide) ?_
        refine va_iast hx hb hK hP hD hS 0 0 rfl rfl (vin (by decide)) dX7_begin_38 (fun H locs hP hD hS => ?_)
        have hP : va_P D vwCl [(q, .inl (cI, 221, .inl (upd (upd g (1 : Int32).toNatClampNeg p0) (4 : Int32).toNatClampNeg 0)))] H := hP
        have hD : va_D (va_A (w_m_begin cI cZ cP q f p0) sz) [(q, .inl (cI, 221, .inl (upd (upd g (1 : Int32).toNatClampNeg p0) (4 : Int32).toNatClampNeg 0)))] := hD
        refine lv_aload_n hx hb dX7_begin_39 rfl (lv_at hl 1 rfl) ?_
        refine lv_iconst (v := 4) hx hb dX7_begin_40 (by decide) ?_
        refine lv_iconst (v := 3) hx hb dX7_begin_41 (by decide) ?_
        refine lv_iload_n hx hb dX7_begin_42 rfl (lv_at hl 0 rfl) ?_
        refine lv_imul hx hb dX7_begin_43 ?_
        refine q_i (z := 0) (by decide) ?_
        refine lv_iadd hx hb dX7_begin_44 ?_
        refine q_i (z := 4) (by decide) ?_
        refine lv_iconst (v := 1) hx hb dX7_begin_45 (by decide) ?_
        refine lv_iadd hx hb dX7_begin_46 ?_
        refine q_i (z := 5) (by decide) ?_
        refine lv_bipush (v := 9) hx hb dX7_begin_47 (by decide) ?_
        refine va_iast hx hb hK hP hD hS 0 0 rfl rfl (vin (by decide)) dX7_begin_49 (fun H locs hP hD hS => ?_)
        have hP : va_P D vwCl [(q, .inl (cI, 221, .inl (upd (upd (upd g (1 : Int32).toNatClampNeg p0) (4 : Int32).toNatClampNeg 0) (5 : Int32).toNatClampNeg 9)))] H := hP
        have hD : va_D (va_A (w_m_begin cI cZ cP q f p0) sz) [(q, .inl (cI, 221, .inl (upd (upd (upd g (1 : Int32).toNatClampNeg p0) (4 : Int32).toNatClampNeg 0) (5 : Int32).toNatClampNeg 9)))] := hD
        refine lv_aload_n hx hb dX7_begin_50 rfl (lv_at hl 1 rfl) ?_
        refine lv_iconst (v := 4) hx hb dX7_begin_51 (by decide) ?_
        refine lv_iconst (v := 3) hx hb dX7_begin_52 (by decide) ?_
        refine lv_iload_n hx hb dX7_begin_53 rfl (lv_at hl 0 rfl) ?_
        refine lv_imul hx hb dX7_begin_54 ?_
        refine q_i (z := 0) (by decide) ?_
        refine lv_iadd hx hb dX7_begin_55 ?_
        refine q_i (z := 4) (by decide) ?_
        refine lv_iconst (v := 2) hx hb dX7_begin_56 (by decide) ?_
        refine lv_iadd hx hb dX7_begin_57 ?_
        refine q_i (z := 6) (by decide) ?_
        refine lv_iconst (v := 4) hx hb dX7_begin_58 (by decide) ?_
        refine va_iast hx hb hK hP hD hS 0 0 rfl rfl (vin (by decide)) dX7_begin_59 (fun H locs hP hD hS => ?_)
        have hP : va_P D vwCl [(q, .inl (cI, 221, .inl (upd (upd (upd (upd g (1 : Int32).toNatClampNeg p0) (4 : Int32).toNatClampNeg 0) (5 : Int32).toNatClampNeg 9) (6 : Int32).toNatClampNeg 4)))] H := hP
        have hD : va_D (va_A (w_m_begin cI cZ cP q f p0) sz) [(q, .inl (cI, 221, .inl (upd (upd (upd (upd g (1 : Int32).toNatClampNeg p0) (4 : Int32).toNatClampNeg 0) (5 : Int32).toNatClampNeg 9) (6 : Int32).toNatClampNeg 4)))] := hD
        refine lv_iinc (v := 1) (lv' := [(2, .int 1), (0, .ref q), (1, .int p0)]) hx hb dX7_begin_60 hl (k := 0) rfl (by decide) (by decide) rfl (fun ls hl => ?_)
        refine lv_goto (tgt := 24) hx hb dX7_begin_63 (by decide) ?_
        refine lv_iload_n hx hb dX7_begin_24 rfl (lv_at hl 0 rfl) ?_
        refine lv_iconst (v := 4) hx hb dX7_begin_25 (by decide) ?_
        refine lv_icmp_ge (tgt := 66) hx hb dX7_begin_26 (by decide) (fun c_3 => absurd c_3 (by decide)) (fun _ => ?_)
        refine lv_aload_n hx hb dX7_begin_29 rfl (lv_at hl 1 rfl) ?_
        refine lv_iconst (v := 4) hx hb dX7_begin_30 (by decide) ?_
        refine lv_iconst (v := 3) hx hb dX7_begin_31 (by decide) ?_
        refine lv_iload_n hx hb dX7_begin_32 rfl (lv_at hl 0 rfl) ?_
        refine lv_imul hx hb dX7_begin_33 ?_
        refine q_i (z := 3) (by decide) ?_
        refine lv_iadd hx hb dX7_begin_34 ?_
        refine q_i (z := 7) (by decide) ?_
        refine lv_iconst (v := 0) hx hb dX7_begin_35 (by decide) ?_
        refine lv_iadd hx hb dX7_begin_36 ?_
        refine q_i (z := 7) (by decide) ?_
        refine lv_iconst (v := 0) hx hb dX7_begin_37 (by decide) ?_
        refine va_iast hx hb hK hP hD hS 0 0 rfl rfl (vin (by decide)) dX7_begin_38 (fun H locs hP hD hS => ?_)
        have hP : va_P D vwCl [(q, .inl (cI, 221, .inl (upd (upd (upd (upd (upd g (1 : Int32).toNatClampNeg p0) (4 : Int32).toNatClampNeg 0) (5 : Int32).toNatClampNeg 9) (6 : Int32).toNatClampNeg 4) (7 : Int32).toNatClampNeg 0)))] H := hP
        have hD : va_D (va_A (w_m_begin cI cZ cP q f p0) sz) [(q, .inl (cI, 221, .inl (upd (upd (upd (upd (upd g (1 : Int32).toNatClampNeg p0) (4 : Int32).toNatClampNeg 0) (5 : Int32).toNatClampNeg 9) (6 : Int32).toNatClampNeg 4) (7 : Int32).toNatClampNeg 0)))] := hD
        refine lv_aload_n hx hb dX7_begin_39 rfl (lv_at hl 1 rfl) ?_
        refine lv_iconst (v := 4) hx hb dX7_begin_40 (by decide) ?_
        refine lv_iconst (v := 3) hx hb dX7_begin_41 (by decide) ?_
        refine lv_iload_n hx hb dX7_begin_42 rfl (lv_at hl 0 rfl) ?_
        refine lv_imul hx hb dX7_begin_43 ?_
        refine q_i (z := 3) (by decide) ?_
        refine lv_iadd hx hb dX7_begin_44 ?_
        refine q_i (z := 7) (by decide) ?_
        refine lv_iconst (v := 1) hx hb dX7_begin_45 (by decide) ?_
        refine lv_iadd hx hb dX7_begin_46 ?_
        refine q_i (z := 8) (by decide) ?_
        refine lv_bipush (v := 9) hx hb dX7_begin_47 (by decide) ?_
        refine va_iast hx hb hK hP hD hS 0 0 rfl rfl (vin (by decide)) dX7_begin_49 (fun H locs hP hD hS => ?_)
        have hP : va_P D vwCl [(q, .inl (cI, 221, .inl (upd (upd (upd (upd (upd (upd g (1 : Int32).toNatClampNeg p0) (4 : Int32).toNatClampNeg 0) (5 : Int32).toNatClampNeg 9) (6 : Int32).toNatClampNeg 4) (7 : Int32).toNatClampNeg 0) (8 : Int32).toNatClampNeg 9)))] H := hP
        have hD : va_D (va_A (w_m_begin cI cZ cP q f p0) sz) [(q, .inl (cI, 221, .inl (upd (upd (upd (upd (upd (upd g (1 : Int32).toNatClampNeg p0) (4 : Int32).toNatClampNeg 0) (5 : Int32).toNatClampNeg 9) (6 : Int32).toNatClampNeg 4) (7 : Int32).toNatClampNeg 0) (8 : Int32).toNatClampNeg 9)))] := hD
        refine lv_aload_n hx hb dX7_begin_50 rfl (lv_at hl 1 rfl) ?_
        refine lv_iconst (v := 4) hx hb dX7_begin_51 (by decide) ?_
        refine lv_iconst (v := 3) hx hb dX7_begin_52 (by decide) ?_
        refine lv_iload_n hx hb dX7_begin_53 rfl (lv_at hl 0 rfl) ?_
        refine lv_imul hx hb dX7_begin_54 ?_
        refine q_i (z := 3) (by decide) ?_
        refine lv_iadd hx hb dX7_begin_55 ?_
        refine q_i (z := 7) (by decide) ?_
        refine lv_iconst (v := 2) hx hb dX7_begin_56 (by decide) ?_
        refine lv_iadd hx hb dX7_begin_57 ?_
        refine q_i (z := 9) (by decide) ?_
        refine lv_iconst (v := 4) hx hb dX7_begin_58 (by decide) ?_
        refine va_iast hx hb hK hP hD hS 0 0 rfl rfl (vin (by decide)) dX7_begin_59 (fun H locs hP hD hS => ?_)
        have hP : va_P D vwCl [(q, .inl (cI, 221, .inl (upd (upd (upd (upd (upd (upd (upd g (1 : Int32).toNatClampNeg p0) (4 : Int32).toNatClampNeg 0) (5 : Int32).toNatClampNeg 9) (6 : Int32).toNatClampNeg 4) (7 : Int32).toNatClampNeg 0) (8 : Int32).toNatClampNeg 9) (9 : Int32).toNatClampNeg 4)))] H := hP
        have hD : va_D (va_A (w_m_begin cI cZ cP q f p0) sz) [(q, .inl (cI, 221, .inl (upd (upd (upd (upd (upd (upd (upd g (1 : Int32).toNatClampNeg p0) (4 : Int32).toNatClampNeg 0) (5 : Int32).toNatClampNeg 9) (6 : Int32).toNatClampNeg 4) (7 : Int32).toNatClampNeg 0) (8 : Int32).toNatClampNeg 9) (9 : Int32).toNatClampNeg 4)))] := hD
        refine lv_iinc (v := 2) (lv' := [(2, .int 2), (0, .ref q), (1, .int p0)]) hx hb dX7_begin_60 hl (k := 0) rfl (by decide) (by decide) rfl (fun ls hl => ?_)
        refine lv_goto (tgt := 24) hx hb dX7_begin_63 (by decide) ?_
        refine lv_iload_n hx hb dX7_begin_24 rfl (lv_at hl 0 rfl) ?_
        refine lv_iconst (v := 4) hx hb dX7_begin_25 (by decide) ?_
        refine lv_icmp_ge (tgt := 66) hx hb dX7_begin_26 (by decide) (fun c_4 => absurd c_4 (by decide)) (fun _ => ?_)
        refine lv_aload_n hx hb dX7_begin_29 rfl (lv_at hl 1 rfl) ?_
        refine lv_iconst (v := 4) hx hb dX7_begin_30 (by decide) ?_
        refine lv_iconst (v := 3) hx hb dX7_begin_31 (by decide) ?_
        refine lv_iload_n hx hb dX7_begin_32 rfl (lv_at hl 0 rfl) ?_
        refine lv_imul hx hb dX7_begin_33 ?_
        refine q_i (z := 6) (by decide) ?_
        refine lv_iadd hx hb dX7_begin_34 ?_
        refine q_i (z := 10) (by decide) ?_
        refine lv_iconst (v := 0) hx hb dX7_begin_35 (by decide) ?_
        refine lv_iadd hx hb dX7_begin_36 ?_
        refine q_i (z := 10) (by decide) ?_
        refine lv_iconst (v := 0) hx hb dX7_begin_37 (by decide) ?_
        refine va_iast hx hb hK hP hD hS 0 0 rfl rfl (vin (by decide)) dX7_begin_38 (fun H locs hP hD hS => ?_)
        have hP : va_P D vwCl [(q, .inl (cI, 221, .inl (upd (upd (upd (upd (upd (upd (upd (upd g (1 : Int32).toNatClampNeg p0) (4 : Int32).toNatClampNeg 0) (5 : Int32).toNatClampNeg 9) (6 : Int32).toNatClampNeg 4) (7 : Int32).toNatClampNeg 0) (8 : Int32).toNatClampNeg 9) (9 : Int32).toNatClampNeg 4) (10 : Int32).toNatClampNeg 0)))] H := hP
        have hD : va_D (va_A (w_m_begin cI cZ cP q f p0) sz) [(q, .inl (cI, 221, .inl (upd (upd (upd (upd (upd (upd (upd (upd g (1 : Int32).toNatClampNeg p0) (4 : Int32).toNatClampNeg 0) (5 : Int32).toNatClampNeg 9) (6 : Int32).toNatClampNeg 4) (7 : Int32).toNatClampNeg 0) (8 : Int32).toNatClampNeg 9) (9 : Int32).toNatClampNeg 4) (10 : Int32).toNatClampNeg 0)))] := hD
        refine lv_aload_n hx hb dX7_begin_39 rfl (lv_at hl 1 rfl) ?_
        refine lv_iconst (v := 4) hx hb dX7_begin_40 (by decide) ?_
        refine lv_iconst (v := 3) hx hb dX7_begin_41 (by decide) ?_
        refine lv_iload_n hx hb dX7_begin_42 rfl (lv_at hl 0 rfl) ?_
        refine lv_imul hx hb dX7_begin_43 ?_
        refine q_i (z := 6) (by decide) ?_
        refine lv_iadd hx hb dX7_begin_44 ?_
        refine q_i (z := 10) (by decide) ?_
        refine lv_iconst (v := 1) hx hb dX7_begin_45 (by decide) ?_
        refine lv_iadd hx hb dX7_begin_46 ?_
        refine q_i (z := 11) (by decide) ?_
        refine lv_bipush (v := 9) hx hb dX7_begin_47 (by decide) ?_
        refine va_iast hx hb hK hP hD hS 0 0 rfl rfl (vin (by decide)) dX7_begin_49 (fun H locs hP hD hS => ?_)
        have hP : va_P D vwCl [(q, .inl (cI, 221, .inl (upd (upd (upd (upd (upd (upd (upd (upd (upd g (1 : Int32).toNatClampNeg p0) (4 : Int32).toNatClampNeg 0) (5 : Int32).toNatClampNeg 9) (6 : Int32).toNatClampNeg 4) (7 : Int32).toNatClampNeg 0) (8 : Int32).toNatClampNeg 9) (9 : Int32).toNatClampNeg 4) (10 : Int32).toNatClampNeg 0) (11 : Int32).toNatClampNeg 9)))] H := hP
        have hD : va_D (va_A (w_m_begin cI cZ cP q f p0) sz) [(q, .inl (cI, 221, .inl (upd (upd (upd (upd (upd (upd (upd (upd (upd g (1 : Int32).toNatClampNeg p0) (4 : Int32).toNatClampNeg 0) (5 : Int32).toNatClampNeg 9) (6 : Int32).toNatClampNeg 4) (7 : Int32).toNatClampNeg 0) (8 : Int32).toNatClampNeg 9) (9 : Int32).toNatClampNeg 4) (10 : Int32).toNatClampNeg 0) (11 : Int32).toNatClampNeg 9)))] := hD
        refine lv_aload_n hx hb dX7_begin_50 rfl (lv_at hl 1 rfl) ?_
        refine lv_iconst (v := 4) hx hb dX7_begin_51 (by decide) ?_
        refine lv_iconst (v := 3) hx hb dX7_begin_52 (by decide) ?_
        refine lv_iload_n hx hb dX7_begin_53 rfl (lv_at hl 0 rfl) ?_
        refine lv_imul hx hb dX7_begin_54 ?_
        refine q_i (z := 6) (by decide) ?_
        refine lv_iadd hx hb dX7_begin_55 ?_
        refine q_i (z := 10) (by decide) ?_
        refine lv_iconst (v := 2) hx hb dX7_begin_56 (by decide) ?_
        refine lv_iadd hx hb dX7_begin_57 ?_
        refine q_i (z := 12) (by decide) ?_
        refine lv_iconst (v := 4) hx hb dX7_begin_58 (by decide) ?_
        refine va_iast hx hb hK hP hD hS 0 0 rfl rfl (vin (by decide)) dX7_begin_59 (fun H locs hP hD hS => ?_)
        have hP : va_P D vwCl [(q, .inl (cI, 221, .inl (upd (upd (upd (upd (upd (upd (upd (upd (upd (upd g (1 : Int32).toNatClampNeg p0) (4 : Int32).toNatClampNeg 0) (5 : Int32).toNatClampNeg 9) (6 : Int32).toNatClampNeg 4) (7 : Int32).toNatClampNeg 0) (8 : Int32).toNatClampNeg 9) (9 : Int32).toNatClampNeg 4) (10 : Int32).toNatClampNeg 0) (11 : Int32).toNatClampNeg 9) (12 : Int32).toNatClampNeg 4)))] H := hP
        have hD : va_D (va_A (w_m_begin cI cZ cP q f p0) sz) [(q, .inl (cI, 221, .inl (upd (upd (upd (upd (upd (upd (upd (upd (upd (upd g (1 : Int32).toNatClampNeg p0) (4 : Int32).toNatClampNeg 0) (5 : Int32).toNatClampNeg 9) (6 : Int32).toNatClampNeg 4) (7 : Int32).toNatClampNeg 0) (8 : Int32).toNatClampNeg 9) (9 : Int32).toNatClampNeg 4) (10 : Int32).toNatClampNeg 0) (11 : Int32).toNatClampNeg 9) (12 : Int32).toNatClampNeg 4)))] := hD
        refine lv_iinc (v := 3) (lv' := [(2, .int 3), (0, .ref q), (1, .int p0)]) hx hb dX7_begin_60 hl (k := 0) rfl (by decide) (by decide) rfl (fun ls hl => ?_)
        refine lv_goto (tgt := 24) hx hb dX7_begin_63 (by decide) ?_
        refine lv_iload_n hx hb dX7_begin_24 rfl (lv_at hl 0 rfl) ?_
        refine lv_iconst (v := 4) hx hb dX7_begin_25 (by decide) ?_
        refine lv_icmp_ge (tgt := 66) hx hb dX7_begin_26 (by decide) (fun c_5 => absurd c_5 (by decide)) (fun _ => ?_)
        refine lv_aload_n hx hb dX7_begin_29 rfl (lv_at hl 1 rfl) ?_
        refine lv_iconst (v := 4) hx hb dX7_begin_30 (by decide) ?_
        refine lv_iconst (v := 3) hx hb dX7_begin_31 (by decide) ?_
        refine lv_iload_n hx hb dX7_begin_32 rfl (lv_at hl 0 rfl) ?_
        refine lv_imul hx hb dX7_begin_33 ?_
        refine q_i (z := 9) (by decide) ?_
        refine lv_iadd hx hb dX7_begin_34 ?_
        refine q_i (z := 13) (by decide) ?_
        refine lv_iconst (v := 0) hx hb dX7_begin_35 (by decide) ?_
        refine lv_iadd hx hb dX7_begin_36 ?_
        refine q_i (z := 13) (by decide) ?_
        refine lv_iconst (v := 0) hx hb dX7_begin_37 (by decide) ?_
        refine va_iast hx hb hK hP hD hS 0 0 rfl rfl (vin (by decide)) dX7_begin_38 (fun H locs hP hD hS => ?_)
        have hP : va_P D vwCl [(q, .inl (cI, 221, .inl (upd (upd (upd (upd (upd (upd (upd (upd (upd (upd (upd g (1 : Int32).toNatClampNeg p0) (4 : Int32).toNatClampNeg 0) (5 : Int32).toNatClampNeg 9) (6 : Int32).toNatClampNeg 4) (7 : Int32).toNatClampNeg 0) (8 : Int32).toNatClampNeg 9) (9 : Int32).toNatClampNeg 4) (10 : Int32).toNatClampNeg 0) (11 : Int32).toNatClampNeg 9) (12 : Int32).toNatClampNeg 4) (13 : Int32).toNatClampNeg 0)))] H := hP
        have hD : va_D (va_A (w_m_begin cI cZ cP q f p0) sz) [(q, .inl (cI, 221, .inl (upd (upd (upd (upd (upd (upd (upd (upd (upd (upd (upd g (1 : Int32).toNatClampNeg p0) (4 : Int32).toNatClampNeg 0) (5 : Int32).toNatClampNeg 9) (6 : Int32).toNatClampNeg 4) (7 : Int32).toNatClampNeg 0) (8 : Int32).toNatClampNeg 9) (9 : Int32).toNatClampNeg 4) (10 : Int32).toNatClampNeg 0) (11 : Int32).toNatClampNeg 9) (12 : Int32).toNatClampNeg 4) (13 : Int32).toNatClampNeg 0)))] := hD
        refine lv_aload_n hx hb dX7_begin_39 rfl (lv_at hl 1 rfl) ?_
        refine lv_iconst (v := 4) hx hb dX7_begin_40 (by decide) ?_
        refine lv_iconst (v := 3) hx hb dX7_begin_41 (by decide) ?_
        refine lv_iload_n hx hb dX7_begin_42 rfl (lv_at hl 0 rfl) ?_
        refine lv_imul hx hb dX7_begin_43 ?_
        refine q_i (z := 9) (by decide) ?_
        refine lv_iadd hx hb dX7_begin_44 ?_
        refine q_i (z := 13) (by decide) ?_
        refine lv_iconst (v := 1) hx hb dX7_begin_45 (by decide) ?_
        refine lv_iadd hx hb dX7_begin_46 ?_
        refine q_i (z := 14) (by decide) ?_
        refine lv_bipush (v := 9) hx hb dX7_begin_47 (by decide) ?_
        refine va_iast hx hb hK hP hD hS 0 0 rfl rfl (vin (by decide)) dX7_begin_49 (fun H locs hP hD hS => ?_)
        have hP : va_P D vwCl [(q, .inl (cI, 221, .inl (upd (upd (upd (upd (upd (upd (upd (upd (upd (upd (upd (upd g (1 : Int32).toNatClampNeg p0) (4 : Int32).toNatClampNeg 0) (5 : Int32).toNatClampNeg 9) (6 : Int32).toNatClampNeg 4) (7 : Int32).toNatClampNeg 0) (8 : Int32).toNatClampNeg 9) (9 : Int32).toNatClampNeg 4) (10 : Int32).toNatClampNeg 0) (11 : Int32).toNatClampNeg 9) (12 : Int32).toNatClampNeg 4) (13 : Int32).toNatClampNeg 0) (14 : Int32).toNatClampNeg 9)))] H := hP
        have hD : va_D (va_A (w_m_begin cI cZ cP q f p0) sz) [(q, .inl (cI, 221, .inl (upd (upd (upd (upd (upd (upd (upd (upd (upd (upd (upd (upd g (1 : Int32).toNatClampNeg p0) (4 : Int32).toNatClampNeg 0) (5 : Int32).toNatClampNeg 9) (6 : Int32).toNatClampNeg 4) (7 : Int32).toNatClampNeg 0) (8 : Int32).toNatClampNeg 9) (9 : Int32).toNatClampNeg 4) (10 : Int32).toNatClampNeg 0) (11 : Int32).toNatClampNeg 9) (12 : Int32).toNatClampNeg 4) (13 : Int32).toNatClampNeg 0) (14 : Int32).toNatClampNeg 9)))] := hD
        refine lv_aload_n hx hb dX7_begin_50 rfl (lv_at hl 1 rfl) ?_
        refine lv_iconst (v := 4) hx hb dX7_begin_51 (by decide) ?_
        refine lv_iconst (v := 3) hx hb dX7_begin_52 (by decide) ?_
        refine lv_iload_n hx hb dX7_begin_53 rfl (lv_at hl 0 rfl) ?_
        refine lv_imul hx hb dX7_begin_54 ?_
        refine q_i (z := 9) (by decide) ?_
        refine lv_iadd hx hb dX7_begin_55 ?_
        refine q_i (z := 13) (by decide) ?_
        refine lv_iconst (v := 2) hx hb dX7_begin_56 (by decide) ?_
        refine lv_iadd hx hb dX7_begin_57 ?_
        refine q_i (z := 15) (by decide) ?_
        refine lv_iconst (v := 4) hx hb dX7_begin_58 (by decide) ?_
        refine va_iast hx hb hK hP hD hS 0 0 rfl rfl (vin (by decide)) dX7_begin_59 (fun H locs hP hD hS => ?_)
        have hP : va_P D vwCl [(q, .inl (cI, 221, .inl (upd (upd (upd (upd (upd (upd (upd (upd (upd (upd (upd (upd (upd g (1 : Int32).toNatClampNeg p0) (4 : Int32).toNatClampNeg 0) (5 : Int32).toNatClampNeg 9) (6 : Int32).toNatClampNeg 4) (7 : Int32).toNatClampNeg 0) (8 : Int32).toNatClampNeg 9) (9 : Int32).toNatClampNeg 4) (10 : Int32).toNatClampNeg 0) (11 : Int32).toNatClampNeg 9) (12 : Int32).toNatClampNeg 4) (13 : Int32).toNatClampNeg 0) (14 : Int32).toNatClampNeg 9) (15 : Int32).toNatClampNeg 4)))] H := hP
        have hD : va_D (va_A (w_m_begin cI cZ cP q f p0) sz) [(q, .inl (cI, 221, .inl (upd (upd (upd (upd (upd (upd (upd (upd (upd (upd (upd (upd (upd g (1 : Int32).toNatClampNeg p0) (4 : Int32).toNatClampNeg 0) (5 : Int32).toNatClampNeg 9) (6 : Int32).toNatClampNeg 4) (7 : Int32).toNatClampNeg 0) (8 : Int32).toNatClampNeg 9) (9 : Int32).toNatClampNeg 4) (10 : Int32).toNatClampNeg 0) (11 : Int32).toNatClampNeg 9) (12 : Int32).toNatClampNeg 4) (13 : Int32).toNatClampNeg 0) (14 : Int32).toNatClampNeg 9) (15 : Int32).toNatClampNeg 4)))] := hD
        refine lv_iinc (v := 4) (lv' := [(2, .int 4), (0, .ref q), (1, .int p0)]) hx hb dX7_begin_60 hl (k := 0) rfl (by decide) (by decide) rfl (fun ls hl => ?_)
        refine lv_goto (tgt := 24) hx hb dX7_begin_63 (by decide) ?_
        refine lv_iload_n hx hb dX7_begin_24 rfl (lv_at hl 0 rfl) ?_
        refine lv_iconst (v := 4) hx hb dX7_begin_25 (by decide) ?_
        refine lv_icmp_ge (tgt := 66) hx hb dX7_begin_26 (by decide) (fun _ => ?_) (fun c_6 => absurd (by decide) c_6)
        exact q_vret hX hr hlk () trivial (hP.sub [] rfl) (hD.sub [] (by decide) rfl) hS dX7_begin_66
      · have hk2 : k < 101 := nI_dnn (a := 101) c_1 (by omega) (by omega)
        refine lv_aload_n hx hb dX7_begin_8 rfl (lv_at hl 1 rfl) ?_
        refine lv_iload_n hx hb dX7_begin_9 rfl (lv_at hl 0 rfl) ?_
        refine lv_iconst (v := 0) hx hb dX7_begin_10 (by decide) ?_
        refine va_iast hx hb hK hP hD hS 0 0 rfl rfl (vp_in_nI (by omega) (by omega)) dX7_begin_11 (fun H locs hP hD hS => ?_)
        have hP : va_P D vwCl [(q, .inl (cI, 221, .inl (upd g (nI k).toNatClampNeg 0)))] H := hP
        have hD : va_D (va_A (w_m_begin cI cZ cP q f p0) sz) [(q, .inl (cI, 221, .inl (upd g (nI k).toNatClampNeg 0)))] := hD
        refine lv_iinc (v := (nI (k + 1))) (lv' := [(2, .int (nI (k + 1))), (0, .ref q), (1, .int p0)]) hx hb dX7_begin_12 hl (k := 0) rfl (nI_1 k) (by decide) rfl (fun ls hl => ?_)
        refine lv_goto (tgt := 2) hx hb dX7_begin_15 (by decide) ?_
        exact ih_2 (k + 1) (upd g (nI k).toNatClampNeg 0) (by omega) (by omega) _ _ _ hP hD hS (lv_sub hl [0, 1, 2] rfl)
  exact lp_2 102 0 f (by omega) (by omega) _ _ _ hP hD hS (lv_sub hl [0, 1, 2] rfl)
abbrev w_m_piece (cI cZ cP : ClassId) (mo : Nat) (a_now : Nat) (a_kep : Nat) (a_isk : Nat) (a_ref : Nat) (a_cw : Nat) (a_row : Nat) (a_lea : Nat) (a_sli : Nat) (a_lef : Nat) (a_bst : Nat) (a_try : Nat) (a_mom : Nat) (a_byt : Nat) (a_nxt : Nat) (a_val : Nat) (p0 : Int32) : va_W := [(mo, .inr (7, [.ref a_now, .ref a_kep, .ref a_isk, .ref a_ref, .long 0, .long 1, .int 0, .int 0, .int 0, .int 0, .ref a_cw, .ref a_row, .int 0, .ref a_lea, .ref a_sli, .ref a_lef, .ref a_bst, .ref a_try, .int 0, .ref a_mom, .ref a_byt, .int 0, .int 0, .int 0, .int 0, .int 0, .ref a_nxt, .ref a_val])), (a_now, .inl (cI, 221, .inl nw0)), (a_ref, .inl (cI, 3, .inl (fun _ => 0)))]
set_option maxHeartbeats 4000000 in
set_option maxRecDepth 100000 in
theorem c_m_piece (l : Launch) (D : va_G) (cI cZ cP : ClassId) (sa : Nat → Nat) (mo : Nat) (a_now : Nat) (a_kep : Nat) (a_isk : Nat) (a_ref : Nat) (a_cw : Nat) (a_row : Nat) (a_lea : Nat) (a_sli : Nat) (a_lef : Nat) (a_bst : Nat) (a_try : Nat) (a_mom : Nat) (a_byt : Nat) (a_nxt : Nat) (a_val : Nat) (p0 : Int32) (sz : Nat) : Met l yX7_piece (qW yX7_piece cX7_piece 3 (some .int)) ({ frames := 1, cells := 0, slots := 0, locals := 25 } : Room) (qP D (TY cI cZ cP) sa [.ref mo, .int p0] (w_m_piece cI cZ cP mo a_now a_kep a_isk a_ref a_cw a_row a_lea a_sli a_lef a_bst a_try a_mom a_byt a_nxt a_val p0) sz) (qQi D (w_m_piece cI cZ cP mo a_now a_kep a_isk a_ref a_cw a_row a_lea a_sli a_lef a_bst a_try a_mom a_byt a_nxt a_val p0) sz (fun (r : Int32) (_ : Unit) => r = sp_piece p0) (fun _ => [])) 0 0 (va_A (w_m_piece cI cZ cP mo a_now a_kep a_isk a_ref a_cw a_row a_lea a_sli a_lef a_bst a_try a_mom a_byt a_nxt a_val p0) sz) := by
  refine q_enter (by decide) (Nat.le_of_ble_eq_true rfl) ?_
  intro p e s m below meth c ls hX hr hlk hnm hE hK hP hD hS hA hl
  obtain ⟨hx, hb, hml, hown, ht⟩ := id hX
  have hl : lv_has ls 3 [(0, .ref mo), (1, .int p0)] := hl
  refine lv_iload_n hx hb dX7_piece_0 rfl (lv_at hl 1 rfl) ?_
  refine lv_i2l (v := (p0.toInt64)) hx hb dX7_piece_1 rfl ?_
  refine lv_lconst (v := 0) hx hb dX7_piece_2 (by decide) ?_
  refine q_l (z := ((0 : Int32).toInt64)) (by decide) ?_
  refine lv_ldc2 hx hb hown (ht _ kw_994) dX7_piece_3 ?_
  refine q_l (z := ((9 : Int32).toInt64)) (by decide) ?_
  refine q_Si (wr := [(mo, .inr (7, [.ref a_now, .ref a_kep, .ref a_isk, .ref a_ref, .long 0, .long 1, .int 0, .int 0, .int 0, .int 0, .ref a_cw, .ref a_row, .int 0, .ref a_lea, .ref a_sli, .ref a_lef, .ref a_bst, .ref a_try, .int 0, .ref a_mom, .ref a_byt, .int 0, .int 0, .int 0, .int 0, .int 0, .ref a_nxt, .ref a_val])), (a_now, .inl (cI, 221, .inl nw0)), (a_ref, .inl (cI, 3, .inl (fun _ => 0)))]) [] [0, 1, 2] hX hE hK hP hD hS hA hl.1 lk_X7_68 (c_m_in l D cI cZ cP sa p0 0 9 _) rfl rfl rfl rfl (by decide) rfl rfl (Nat.le_of_ble_eq_true rfl) rfl rfl ⟨Nat.le_of_ble_eq_true rfl, Nat.le_of_ble_eq_true rfl⟩ ⟨Nat.le_of_ble_eq_true rfl, Nat.le_of_ble_eq_true rfl⟩ dX7_piece_6 (fun x_1 _ H locs h_1 hP hD hS => ?_)
  have hP : va_P D vwCl [(mo, .inr (7, [.ref a_now, .ref a_kep, .ref a_isk, .ref a_ref, .long 0, .long 1, .int 0, .int 0, .int 0, .int 0, .ref a_cw, .ref a_row, .int 0, .ref a_lea, .ref a_sli, .ref a_lef, .ref a_bst, .ref a_try, .int 0, .ref a_mom, .ref a_byt, .int 0, .int 0, .int 0, .int 0, .int 0, .ref a_nxt, .ref a_val])), (a_now, .inl (cI, 221, .inl nw0)), (a_ref, .inl (cI, 3, .inl (fun _ => 0)))] H := hP
  have hD : va_D (va_A (w_m_piece cI cZ cP mo a_now a_kep a_isk a_ref a_cw a_row a_lea a_sli a_lef a_bst a_try a_mom a_byt a_nxt a_val p0) sz) [(mo, .inr (7, [.ref a_now, .ref a_kep, .ref a_isk, .ref a_ref, .long 0, .long 1, .int 0, .int 0, .int 0, .int 0, .ref a_cw, .ref a_row, .int 0, .ref a_lea, .ref a_sli, .ref a_lef, .ref a_bst, .ref a_try, .int 0, .ref a_mom, .ref a_byt, .int 0, .int 0, .int 0, .int 0, .int 0, .ref a_nxt, .ref a_val])), (a_now, .inl (cI, 221, .inl nw0)), (a_ref, .inl (cI, 3, .inl (fun _ => 0)))] := hD
  rcases Classical.em (0 ≤ p0 ∧ p0 ≤ 9) with c_1 | c_1
  · rw [if_pos c_1] at h_1; subst h_1
    refine lv_if_ne (tgt := 19) hx hb dX7_piece_9 (by decide) (fun _ => ?_) (fun c_2 => absurd c_2 (by decide))
    refine lv_aload_n hx hb dX7_piece_19 rfl (lv_at hl 0 rfl) ?_
    refine q_Vi (wr := [(a_ref, .inl (cI, 3, .inl (fun _ => 0)))]) [0, 1] [2] hX hE hK hP hD hS hA hl.1 lk_X7_64 (c_m_notes l D cI cZ cP sa mo a_now a_kep a_isk a_ref a_cw a_row a_lea a_sli a_lef a_bst a_try a_mom a_byt a_nxt a_val 0 1 0 0 0 0 0 0 0 0 0 0 0 _) rfl rfl rfl rfl (by decide) 0 7 rfl rfl rfl rfl (Nat.le_of_ble_eq_true rfl) rfl rfl ⟨Nat.le_of_ble_eq_true rfl, Nat.le_of_ble_eq_true rfl⟩ ⟨Nat.le_of_ble_eq_true rfl, Nat.le_of_ble_eq_true rfl⟩ dX7_piece_20 (fun x_3 _ H locs h_3 hP hD hS => ?_)
    have hP : va_P D vwCl [(a_ref, .inl (cI, 3, .inl (fun _ => 0))), (mo, .inr (7, [.ref a_now, .ref a_kep, .ref a_isk, .ref a_ref, .long 0, .long 1, .int 0, .int 0, .int 0, .int 0, .ref a_cw, .ref a_row, .int 0, .ref a_lea, .ref a_sli, .ref a_lef, .ref a_bst, .ref a_try, .int 0, .ref a_mom, .ref a_byt, .int 0, .int 0, .int 0, .int 0, .int 0, .ref a_nxt, .ref a_val])), (a_now, .inl (cI, 221, .inl nw0))] H := hP
    have hD : va_D (va_A (w_m_piece cI cZ cP mo a_now a_kep a_isk a_ref a_cw a_row a_lea a_sli a_lef a_bst a_try a_mom a_byt a_nxt a_val p0) sz) [(a_ref, .inl (cI, 3, .inl (fun _ => 0))), (mo, .inr (7, [.ref a_now, .ref a_kep, .ref a_isk, .ref a_ref, .long 0, .long 1, .int 0, .int 0, .int 0, .int 0, .ref a_cw, .ref a_row, .int 0, .ref a_lea, .ref a_sli, .ref a_lef, .ref a_bst, .ref a_try, .int 0, .ref a_mom, .ref a_byt, .int 0, .int 0, .int 0, .int 0, .int 0, .ref a_nxt, .ref a_val])), (a_now, .inl (cI, 221, .inl nw0))] := hD
    subst h_3
    refine lv_istore_n (lv' := [(2, .int 0), (0, .ref mo), (1, .int p0)]) hx hb dX7_piece_23 rfl hl (by decide) rfl (fun ls hl => ?_)
    refine lv_aload_n hx hb dX7_piece_24 rfl (lv_at hl 1 rfl) ?_
    refine va_get (D := D) (ci := 7) (v := .ref a_now) (C := RX7) (T := TX7) (N := 28) hx hb ht inX7 hown hK hP 1 rfl rfl 0 (Nat.le_of_ble_eq_true rfl) (ht _ kw_904) (fun _ h9 => h9) rfl dX7_piece_25 ?_
    refine lv_iload_n hx hb dX7_piece_28 rfl (lv_at hl 2 rfl) ?_
    refine q_Sv (wr := [(a_ref, .inl (cI, 3, .inl (fun _ => 0))), (mo, .inr (7, [.ref a_now, .ref a_kep, .ref a_isk, .ref a_ref, .long 0, .long 1, .int 0, .int 0, .int 0, .int 0, .ref a_cw, .ref a_row, .int 0, .ref a_lea, .ref a_sli, .ref a_lef, .ref a_bst, .ref a_try, .int 0, .ref a_mom, .ref a_byt, .int 0, .int 0, .int 0, .int 0, .int 0, .ref a_nxt, .ref a_val]))]) [2] [0, 1] hX hE hK hP hD hS hA hl.1 lk_X7_60 (c_m_begin l D cI cZ cP sa a_now nw0 p0 _) rfl rfl rfl rfl (by decide) rfl rfl (Nat.le_of_ble_eq_true rfl) rfl rfl ⟨Nat.le_of_ble_eq_true rfl, Nat.le_of_ble_eq_true rfl⟩ ⟨Nat.le_of_ble_eq_true rfl, Nat.le_of_ble_eq_true rfl⟩ dX7_piece_29 (fun _ H locs h_4 hP hD hS => ?_)
    have hP : va_P D vwCl [(a_ref, .inl (cI, 3, .inl (fun _ => 0))), (mo, .inr (7, [.ref a_now, .ref a_kep, .ref a_isk, .ref a_ref, .long 0, .long 1, .int 0, .int 0, .int 0, .int 0, .ref a_cw, .ref a_row, .int 0, .ref a_lea, .ref a_sli, .ref a_lef, .ref a_bst, .ref a_try, .int 0, .ref a_mom, .ref a_byt, .int 0, .int 0, .int 0, .int 0, .int 0, .ref a_nxt, .ref a_val]))] H := hP
    have hD : va_D (va_A (w_m_piece cI cZ cP mo a_now a_kep a_isk a_ref a_cw a_row a_lea a_sli a_lef a_bst a_try a_mom a_byt a_nxt a_val p0) sz) [(a_ref, .inl (cI, 3, .inl (fun _ => 0))), (mo, .inr (7, [.ref a_now, .ref a_kep, .ref a_isk, .ref a_ref, .long 0, .long 1, .int 0, .int 0, .int 0, .int 0, .ref a_cw, .ref a_row, .int 0, .ref a_lea, .ref a_sli, .ref a_lef, .ref a_bst, .ref a_try, .int 0, .ref a_mom, .ref a_byt, .int 0, .int 0, .int 0, .int 0, .int 0, .ref a_nxt, .ref a_val]))] := hD
    refine lv_iload_n hx hb dX7_piece_32 rfl (lv_at hl 0 rfl) ?_
    exact q_iret hX hr hlk () (by simp [sp_piece, c_1]) (hP.sub [] rfl) (hD.sub [] (by decide) rfl) hS dX7_piece_33
  · rw [if_neg c_1] at h_1; subst h_1
    refine lv_if_ne (tgt := 19) hx hb dX7_piece_9 (by decide) (fun c_5 => absurd (by decide) c_5) (fun _ => ?_)
    refine lv_aload_n hx hb dX7_piece_12 rfl (lv_at hl 0 rfl) ?_
    refine lv_bipush (v := (-2)) hx hb dX7_piece_13 (by decide) ?_
    refine q_Vi (wr := [(a_now, .inl (cI, 221, .inl nw0))]) [0, 2] [1] hX hE hK hP hD hS hA hl.1 lk_X7_76 (c_m_bad l D cI cZ cP sa mo a_now a_kep a_isk a_ref a_cw a_row a_lea a_sli a_lef a_bst a_try a_mom a_byt a_nxt a_val 0 1 0 0 0 0 0 0 0 0 0 0 0 (-2) _) rfl rfl rfl rfl (by decide) 0 7 rfl rfl rfl rfl (Nat.le_of_ble_eq_true rfl) rfl rfl ⟨Nat.le_of_ble_eq_true rfl, Nat.le_of_ble_eq_true rfl⟩ ⟨Nat.le_of_ble_eq_true rfl, Nat.le_of_ble_eq_true rfl⟩ dX7_piece_15 (fun x_6 _ H locs h_6 hP hD hS => ?_)
    have hP : va_P D vwCl [(a_now, .inl (cI, 221, .inl nw0))] H := hP
    have hD : va_D (va_A (w_m_piece cI cZ cP mo a_now a_kep a_isk a_ref a_cw a_row a_lea a_sli a_lef a_bst a_try a_mom a_byt a_nxt a_val p0) sz) [(a_now, .inl (cI, 221, .inl nw0))] := hD
    subst h_6
    exact q_iret hX hr hlk () (by simp [sp_piece, c_1]) (hP.sub [] rfl) (hD.sub [] (by decide) rfl) hS dX7_piece_18
abbrev w_m_begin0 (cI cZ cP : ClassId) (q : Nat) : va_W := [(q, .inl (cI, 221, .inl (fun _ => 0)))]
set_option maxHeartbeats 4000000 in
set_option maxRecDepth 100000 in
theorem c_m_begin0 (l : Launch) (D : va_G) (cI cZ cP : ClassId) (sa : Nat → Nat) (q : Nat) (sz : Nat) : Met l yX7_begin (qW yX7_begin cX7_begin 3 none) ({ frames := 0, cells := 0, slots := 0, locals := 0 } : Room) (qP D (TY cI cZ cP) sa [.ref q, .int 2] (w_m_begin0 cI cZ cP q) sz) (qQv D (w_m_begin0 cI cZ cP q) sz (fun _ : Unit => True) (fun _ => [(q, .inl (cI, 221, .inl nw0))])) 0 0 (va_A (w_m_begin0 cI cZ cP q) sz) := by
  refine q_enter (by decide) (Nat.le_of_ble_eq_true rfl) ?_
  intro p e s m below meth c ls hX hr hlk hnm hE hK hP hD hS hA hl
  obtain ⟨hx, hb, hml, hown, ht⟩ := id hX
  have hl : lv_has ls 3 [(0, .ref q), (1, .int 2)] := hl
  refine lv_iconst (v := 0) hx hb dX7_begin_0 (by decide) ?_
  refine lv_istore_n (lv' := [(2, .int 0), (0, .ref q), (1, .int 2)]) hx hb dX7_begin_1 rfl hl (by decide) rfl (fun ls hl => ?_)
  have lp_2 : ∀ (n_2 : Nat) (k : Nat), (k ≤ 101) → (102 ≤ k + n_2) → ∀ (H : Heap) (locs : List Loc) (ls : Array Slot), va_P D vwCl [(q, .inl (cI, 221, .inl (fun _ => 0)))] H → va_D (va_A (w_m_begin0 cI cZ cP q) sz) [(q, .inl (cI, 221, .inl (fun _ => 0)))] → va_S (va_A (w_m_begin0 cI cZ cP q) sz) s.heap H locs → lv_has ls 3 [(2, .int (nI k)), (0, .ref q), (1, .int 2)] → W p l e ({ frames := 0, cells := 0, slots := 0, locals := 0 } : Room) s m ([.ref q, .int 2] : List Value).toArray below meth c H locs 0 0 (MQ below (qQv D (w_m_begin0 cI cZ cP q) sz (fun _ : Unit => True) (fun _ => [(q, .inl (cI, 221, .inl nw0))])) ([.ref q, .int 2] : List Value).toArray s 0 0 (va_A (w_m_begin0 cI cZ cP q) sz)) (F0 m 2 ls []) := by
    intro n_2
    induction n_2 with
    | zero => intro k hk hm_2; exact absurd hm_2 (by omega)
    | succ n_2 ih_2 =>
      intro k hk hm_2 H locs ls hP hD hS hl
      refine lv_iload_n hx hb dX7_begin_2 rfl (lv_at hl 0 rfl) ?_
      refine lv_bipush (v := 101) hx hb dX7_begin_3 (by decide) ?_
      refine lv_icmp_ge (tgt := 18) hx hb dX7_begin_5 (by decide) (fun c_1 => ?_) (fun c_1 => ?_)
      · refine lv_aload_n hx hb dX7_begin_18 rfl (lv_at hl 1 rfl) ?_
        refine lv_iconst (v := 1) hx hb dX7_begin_19 (by decide) ?_
        refine lv_iload_n hx hb dX7_begin_20 rfl (lv_at hl 2 rfl) ?_
        refine va_iast hx hb hK hP hD hS 0 0 rfl rfl (vin (by decide)) dX7_begin_21 (fun H locs hP hD hS => ?_)
        have hP : va_P D vwCl [(q, .inl (cI, 221, .inl (upd (fun _ => 0) (1 : Int32).toNatClampNeg 2)))] H := hP
        have hD : va_D (va_A (w_m_begin0 cI cZ cP q) sz) [(q, .inl (cI, 221, .inl (upd (fun _ => 0) (1 : Int32).toNatClampNeg 2)))] := hD
        refine lv_iconst (v := 0) hx hb dX7_begin_22 (by decide) ?_
        refine lv_istore_n (lv' := [(2, .int 0), (0, .ref q), (1, .int 2)]) hx hb dX7_begin_23 rfl hl (by decide) rfl (fun ls hl => ?_)
        refine lv_iload_n hx hb dX7_begin_24 rfl (lv_at hl 0 rfl) ?_
        refine lv_iconst (v := 4) hx hb dX7_begin_25 (by decide) ?_
        refine lv_icmp_ge (tgt := 66) hx hb dX7_begin_26 (by decide) (fun c_2 => absurd c_2 (by decide)) (fun _ => ?_)
        refine lv_aload_n hx hb dX7_begin_29 rfl (lv_at hl 1 rfl) ?_
        refine lv_iconst (v := 4) hx hb dX7_begin_30 (by decide) ?_
        refine lv_iconst (v := 3) hx hb dX7_begin_31 (by decide) ?_
        refine lv_iload_n hx hb dX7_begin_32 rfl (lv_at hl 0 rfl) ?_
        refine lv_imul hx hb dX7_begin_33 ?_
        refine q_i (z := 0) (by decide) ?_
        refine lv_iadd hx hb dX7_begin_34 ?_
        refine q_i (z := 4) (by decide) ?_
        refine lv_iconst (v := 0) hx hb dX7_begin_35 (by decide) ?_
        refine lv_iadd hx hb dX7_begin_36 ?_
        refine q_i (z := 4) (by decide) ?_
        refine lv_iconst (v := 0) hx hb dX7_begin_37 (by decide) ?_
        refine va_iast hx hb hK hP hD hS 0 0 rfl rfl (vin (by decide)) dX7_begin_38 (fun H locs hP hD hS => ?_)
        have hP : va_P D vwCl [(q, .inl (cI, 221, .inl (upd (upd (fun _ => 0) (1 : Int32).toNatClampNeg 2) (4 : Int32).toNatClampNeg 0)))] H := hP
        have hD : va_D (va_A (w_m_begin0 cI cZ cP q) sz) [(q, .inl (cI, 221, .inl (upd (upd (fun _ => 0) (1 : Int32).toNatClampNeg 2) (4 : Int32).toNatClampNeg 0)))] := hD
        refine lv_aload_n hx hb dX7_begin_39 rfl (lv_at hl 1 rfl) ?_
        refine lv_iconst (v := 4) hx hb dX7_begin_40 (by decide) ?_
        refine lv_iconst (v := 3) hx hb dX7_begin_41 (by decide) ?_
        refine lv_iload_n hx hb dX7_begin_42 rfl (lv_at hl 0 rfl) ?_
        refine lv_imul hx hb dX7_begin_43 ?_
        refine q_i (z := 0) (by decide) ?_
        refine lv_iadd hx hb dX7_begin_44 ?_
        refine q_i (z := 4) (by decide) ?_
        refine lv_iconst (v := 1) hx hb dX7_begin_45 (by decide) ?_
        refine lv_iadd hx hb dX7_begin_46 ?_
        refine q_i (z := 5) (by decide) ?_
        refine lv_bipush (v := 9) hx hb dX7_begin_47 (by decide) ?_
        refine va_iast hx hb hK hP hD hS 0 0 rfl rfl (vin (by decide)) dX7_begin_49 (fun H locs hP hD hS => ?_)
        have hP : va_P D vwCl [(q, .inl (cI, 221, .inl (upd (upd (upd (fun _ => 0) (1 : Int32).toNatClampNeg 2) (4 : Int32).toNatClampNeg 0) (5 : Int32).toNatClampNeg 9)))] H := hP
        have hD : va_D (va_A (w_m_begin0 cI cZ cP q) sz) [(q, .inl (cI, 221, .inl (upd (upd (upd (fun _ => 0) (1 : Int32).toNatClampNeg 2) (4 : Int32).toNatClampNeg 0) (5 : Int32).toNatClampNeg 9)))] := hD
        refine lv_aload_n hx hb dX7_begin_50 rfl (lv_at hl 1 rfl) ?_
        refine lv_iconst (v := 4) hx hb dX7_begin_51 (by decide) ?_
        refine lv_iconst (v := 3) hx hb dX7_begin_52 (by decide) ?_
        refine lv_iload_n hx hb dX7_begin_53 rfl (lv_at hl 0 rfl) ?_
        refine lv_imul hx hb dX7_begin_54 ?_
        refine q_i (z := 0) (by decide) ?_
        refine lv_iadd hx hb dX7_begin_55 ?_
        refine q_i (z := 4) (by decide) ?_
        refine lv_iconst (v := 2) hx hb dX7_begin_56 (by decide) ?_
        refine lv_iadd hx hb dX7_begin_57 ?_
        refine q_i (z := 6) (by decide) ?_
        refine lv_iconst (v := 4) hx hb dX7_begin_58 (by decide) ?_
        refine va_iast hx hb hK hP hD hS 0 0 rfl rfl (vin (by decide)) dX7_begin_59 (fun H locs hP hD hS => ?_)
        have hP : va_P D vwCl [(q, .inl (cI, 221, .inl (upd (upd (upd (upd (fun _ => 0) (1 : Int32).toNatClampNeg 2) (4 : Int32).toNatClampNeg 0) (5 : Int32).toNatClampNeg 9) (6 : Int32).toNatClampNeg 4)))] H := hP
        have hD : va_D (va_A (w_m_begin0 cI cZ cP q) sz) [(q, .inl (cI, 221, .inl (upd (upd (upd (upd (fun _ => 0) (1 : Int32).toNatClampNeg 2) (4 : Int32).toNatClampNeg 0) (5 : Int32).toNatClampNeg 9) (6 : Int32).toNatClampNeg 4)))] := hD
        refine lv_iinc (v := 1) (lv' := [(2, .int 1), (0, .ref q), (1, .int 2)]) hx hb dX7_begin_60 hl (k := 0) rfl (by decide) (by decide) rfl (fun ls hl => ?_)
        refine lv_goto (tgt := 24) hx hb dX7_begin_63 (by decide) ?_
        refine lv_iload_n hx hb dX7_begin_24 rfl (lv_at hl 0 rfl) ?_
        refine lv_iconst (v := 4) hx hb dX7_begin_25 (by decide) ?_
        refine lv_icmp_ge (tgt := 66) hx hb dX7_begin_26 (by decide) (fun c_3 => absurd c_3 (by decide)) (fun _ => ?_)
        refine lv_aload_n hx hb dX7_begin_29 rfl (lv_at hl 1 rfl) ?_
        refine lv_iconst (v := 4) hx hb dX7_begin_30 (by decide) ?_
        refine lv_iconst (v := 3) hx hb dX7_begin_31 (by decide) ?_
        refine lv_iload_n hx hb dX7_begin_32 rfl (lv_at hl 0 rfl) ?_
        refine lv_imul hx hb dX7_begin_33 ?_
        refine q_i (z := 3) (by decide) ?_
        refine lv_iadd hx hb dX7_begin_34 ?_
        refine q_i (z := 7) (by decide) ?_
        refine lv_iconst (v := 0) hx hb dX7_begin_35 (by decide) ?_
        refine lv_iadd hx hb dX7_begin_36 ?_
        refine q_i (z := 7) (by decide) ?_
        refine lv_iconst (v := 0) hx hb dX7_begin_37 (by decide) ?_
        refine va_iast hx hb hK hP hD hS 0 0 rfl rfl (vin (by decide)) dX7_begin_38 (fun H locs hP hD hS => ?_)
        have hP : va_P D vwCl [(q, .inl (cI, 221, .inl (upd (upd (upd (upd (upd (fun _ => 0) (1 : Int32).toNatClampNeg 2) (4 : Int32).toNatClampNeg 0) (5 : Int32).toNatClampNeg 9) (6 : Int32).toNatClampNeg 4) (7 : Int32).toNatClampNeg 0)))] H := hP
        have hD : va_D (va_A (w_m_begin0 cI cZ cP q) sz) [(q, .inl (cI, 221, .inl (upd (upd (upd (upd (upd (fun _ => 0) (1 : Int32).toNatClampNeg 2) (4 : Int32).toNatClampNeg 0) (5 : Int32).toNatClampNeg 9) (6 : Int32).toNatClampNeg 4) (7 : Int32).toNatClampNeg 0)))] := hD
        refine lv_aload_n hx hb dX7_begin_39 rfl (lv_at hl 1 rfl) ?_
        refine lv_iconst (v := 4) hx hb dX7_begin_40 (by decide) ?_
        refine lv_iconst (v := 3) hx hb dX7_begin_41 (by decide) ?_
        refine lv_iload_n hx hb dX7_begin_42 rfl (lv_at hl 0 rfl) ?_
        refine lv_imul hx hb dX7_begin_43 ?_
        refine q_i (z := 3) (by decide) ?_
        refine lv_iadd hx hb dX7_begin_44 ?_
        refine q_i (z := 7) (by decide) ?_
        refine lv_iconst (v := 1) hx hb dX7_begin_45 (by decide) ?_
        refine lv_iadd hx hb dX7_begin_46 ?_
        refine q_i (z := 8) (by decide) ?_
        refine lv_bipush (v := 9) hx hb dX7_begin_47 (by decide) ?_
        refine va_iast hx hb hK hP hD hS 0 0 rfl rfl (vin (by decide)) dX7_begin_49 (fun H locs hP hD hS => ?_)
        have hP : va_P D vwCl [(q, .inl (cI, 221, .inl (upd (upd (upd (upd (upd (upd (fun _ => 0) (1 : Int32).toNatClampNeg 2) (4 : Int32).toNatClampNeg 0) (5 : Int32).toNatClampNeg 9) (6 : Int32).toNatClampNeg 4) (7 : Int32).toNatClampNeg 0) (8 : Int32).toNatClampNeg 9)))] H := hP
        have hD : va_D (va_A (w_m_begin0 cI cZ cP q) sz) [(q, .inl (cI, 221, .inl (upd (upd (upd (upd (upd (upd (fun _ => 0) (1 : Int32).toNatClampNeg 2) (4 : Int32).toNatClampNeg 0) (5 : Int32).toNatClampNeg 9) (6 : Int32).toNatClampNeg 4) (7 : Int32).toNatClampNeg 0) (8 : Int32).toNatClampNeg 9)))] := hD
        refine lv_aload_n hx hb dX7_begin_50 rfl (lv_at hl 1 rfl) ?_
        refine lv_iconst (v := 4) hx hb dX7_begin_51 (by decide) ?_
        refine lv_iconst (v := 3) hx hb dX7_begin_52 (by decide) ?_
        refine lv_iload_n hx hb dX7_begin_53 rfl (lv_at hl 0 rfl) ?_
        refine lv_imul hx hb dX7_begin_54 ?_
        refine q_i (z := 3) (by decide) ?_
        refine lv_iadd hx hb dX7_begin_55 ?_
        refine q_i (z := 7) (by decide) ?_
        refine lv_iconst (v := 2) hx hb dX7_begin_56 (by decide) ?_
        refine lv_iadd hx hb dX7_begin_57 ?_
        refine q_i (z := 9) (by decide) ?_
        refine lv_iconst (v := 4) hx hb dX7_begin_58 (by decide) ?_
        refine va_iast hx hb hK hP hD hS 0 0 rfl rfl (vin (by decide)) dX7_begin_59 (fun H locs hP hD hS => ?_)
        have hP : va_P D vwCl [(q, .inl (cI, 221, .inl (upd (upd (upd (upd (upd (upd (upd (fun _ => 0) (1 : Int32).toNatClampNeg 2) (4 : Int32).toNatClampNeg 0) (5 : Int32).toNatClampNeg 9) (6 : Int32).toNatClampNeg 4) (7 : Int32).toNatClampNeg 0) (8 : Int32).toNatClampNeg 9) (9 : Int32).toNatClampNeg 4)))] H := hP
        have hD : va_D (va_A (w_m_begin0 cI cZ cP q) sz) [(q, .inl (cI, 221, .inl (upd (upd (upd (upd (upd (upd (upd (fun _ => 0) (1 : Int32).toNatClampNeg 2) (4 : Int32).toNatClampNeg 0) (5 : Int32).toNatClampNeg 9) (6 : Int32).toNatClampNeg 4) (7 : Int32).toNatClampNeg 0) (8 : Int32).toNatClampNeg 9) (9 : Int32).toNatClampNeg 4)))] := hD
        refine lv_iinc (v := 2) (lv' := [(2, .int 2), (0, .ref q), (1, .int 2)]) hx hb dX7_begin_60 hl (k := 0) rfl (by decide) (by decide) rfl (fun ls hl => ?_)
        refine lv_goto (tgt := 24) hx hb dX7_begin_63 (by decide) ?_
        refine lv_iload_n hx hb dX7_begin_24 rfl (lv_at hl 0 rfl) ?_
        refine lv_iconst (v := 4) hx hb dX7_begin_25 (by decide) ?_
        refine lv_icmp_ge (tgt := 66) hx hb dX7_begin_26 (by decide) (fun c_4 => absurd c_4 (by decide)) (fun _ => ?_)
        refine lv_aload_n hx hb dX7_begin_29 rfl (lv_at hl 1 rfl) ?_
        refine lv_iconst (v := 4) hx hb dX7_begin_30 (by decide) ?_
        refine lv_iconst (v := 3) hx hb dX7_begin_31 (by decide) ?_
        refine lv_iload_n hx hb dX7_begin_32 rfl (lv_at hl 0 rfl) ?_
        refine lv_imul hx hb dX7_begin_33 ?_
        refine q_i (z := 6) (by decide) ?_
        refine lv_iadd hx hb dX7_begin_34 ?_
        refine q_i (z := 10) (by decide) ?_
        refine lv_iconst (v := 0) hx hb dX7_begin_35 (by decide) ?_
        refine lv_iadd hx hb dX7_begin_36 ?_
        refine q_i (z := 10) (by decide) ?_
        refine lv_iconst (v := 0) hx hb dX7_begin_37 (by decide) ?_
        refine va_iast hx hb hK hP hD hS 0 0 rfl rfl (vin (by decide)) dX7_begin_38 (fun H locs hP hD hS => ?_)
        have hP : va_P D vwCl [(q, .inl (cI, 221, .inl (upd (upd (upd (upd (upd (upd (upd (upd (fun _ => 0) (1 : Int32).toNatClampNeg 2) (4 : Int32).toNatClampNeg 0) (5 : Int32).toNatClampNeg 9) (6 : Int32).toNatClampNeg 4) (7 : Int32).toNatClampNeg 0) (8 : Int32).toNatClampNeg 9) (9 : Int32).toNatClampNeg 4) (10 : Int32).toNatClampNeg 0)))] H := hP
        have hD : va_D (va_A (w_m_begin0 cI cZ cP q) sz) [(q, .inl (cI, 221, .inl (upd (upd (upd (upd (upd (upd (upd (upd (fun _ => 0) (1 : Int32).toNatClampNeg 2) (4 : Int32).toNatClampNeg 0) (5 : Int32).toNatClampNeg 9) (6 : Int32).toNatClampNeg 4) (7 : Int32).toNatClampNeg 0) (8 : Int32).toNatClampNeg 9) (9 : Int32).toNatClampNeg 4) (10 : Int32).toNatClampNeg 0)))] := hD
        refine lv_aload_n hx hb dX7_begin_39 rfl (lv_at hl 1 rfl) ?_
        refine lv_iconst (v := 4) hx hb dX7_begin_40 (by decide) ?_
        refine lv_iconst (v := 3) hx hb dX7_begin_41 (by decide) ?_
        refine lv_iload_n hx hb dX7_begin_42 rfl (lv_at hl 0 rfl) ?_
        refine lv_imul hx hb dX7_begin_43 ?_
        refine q_i (z := 6) (by decide) ?_
        refine lv_iadd hx hb dX7_begin_44 ?_
        refine q_i (z := 10) (by decide) ?_
        refine lv_iconst (v := 1) hx hb dX7_begin_45 (by decide) ?_
        refine lv_iadd hx hb dX7_begin_46 ?_
        refine q_i (z := 11) (by decide) ?_
        refine lv_bipush (v := 9) hx hb dX7_begin_47 (by decide) ?_
        refine va_iast hx hb hK hP hD hS 0 0 rfl rfl (vin (by decide)) dX7_begin_49 (fun H locs hP hD hS => ?_)
        have hP : va_P D vwCl [(q, .inl (cI, 221, .inl (upd (upd (upd (upd (upd (upd (upd (upd (upd (fun _ => 0) (1 : Int32).toNatClampNeg 2) (4 : Int32).toNatClampNeg 0) (5 : Int32).toNatClampNeg 9) (6 : Int32).toNatClampNeg 4) (7 : Int32).toNatClampNeg 0) (8 : Int32).toNatClampNeg 9) (9 : Int32).toNatClampNeg 4) (10 : Int32).toNatClampNeg 0) (11 : Int32).toNatClampNeg 9)))] H := hP
        have hD : va_D (va_A (w_m_begin0 cI cZ cP q) sz) [(q, .inl (cI, 221, .inl (upd (upd (upd (upd (upd (upd (upd (upd (upd (fun _ => 0) (1 : Int32).toNatClampNeg 2) (4 : Int32).toNatClampNeg 0) (5 : Int32).toNatClampNeg 9) (6 : Int32).toNatClampNeg 4) (7 : Int32).toNatClampNeg 0) (8 : Int32).toNatClampNeg 9) (9 : Int32).toNatClampNeg 4) (10 : Int32).toNatClampNeg 0) (11 : Int32).toNatClampNeg 9)))] := hD
        refine lv_aload_n hx hb dX7_begin_50 rfl (lv_at hl 1 rfl) ?_
        refine lv_iconst (v := 4) hx hb dX7_begin_51 (by decide) ?_
        refine lv_iconst (v := 3) hx hb dX7_begin_52 (by decide) ?_
        refine lv_iload_n hx hb dX7_begin_53 rfl (lv_at hl 0 rfl) ?_
        refine lv_imul hx hb dX7_begin_54 ?_
        refine q_i (z := 6) (by decide) ?_
        refine lv_iadd hx hb dX7_begin_55 ?_
        refine q_i (z := 10) (by decide) ?_
        refine lv_iconst (v := 2) hx hb dX7_begin_56 (by decide) ?_
        refine lv_iadd hx hb dX7_begin_57 ?_
        refine q_i (z := 12) (by decide) ?_
        refine lv_iconst (v := 4) hx hb dX7_begin_58 (by decide) ?_
        refine va_iast hx hb hK hP hD hS 0 0 rfl rfl (vin (by decide)) dX7_begin_59 (fun H locs hP hD hS => ?_)
        have hP : va_P D vwCl [(q, .inl (cI, 221, .inl (upd (upd (upd (upd (upd (upd (upd (upd (upd (upd (fun _ => 0) (1 : Int32).toNatClampNeg 2) (4 : Int32).toNatClampNeg 0) (5 : Int32).toNatClampNeg 9) (6 : Int32).toNatClampNeg 4) (7 : Int32).toNatClampNeg 0) (8 : Int32).toNatClampNeg 9) (9 : Int32).toNatClampNeg 4) (10 : Int32).toNatClampNeg 0) (11 : Int32).toNatClampNeg 9) (12 : Int32).toNatClampNeg 4)))] H := hP
        have hD : va_D (va_A (w_m_begin0 cI cZ cP q) sz) [(q, .inl (cI, 221, .inl (upd (upd (upd (upd (upd (upd (upd (upd (upd (upd (fun _ => 0) (1 : Int32).toNatClampNeg 2) (4 : Int32).toNatClampNeg 0) (5 : Int32).toNatClampNeg 9) (6 : Int32).toNatClampNeg 4) (7 : Int32).toNatClampNeg 0) (8 : Int32).toNatClampNeg 9) (9 : Int32).toNatClampNeg 4) (10 : Int32).toNatClampNeg 0) (11 : Int32).toNatClampNeg 9) (12 : Int32).toNatClampNeg 4)))] := hD
        refine lv_iinc (v := 3) (lv' := [(2, .int 3), (0, .ref q), (1, .int 2)]) hx hb dX7_begin_60 hl (k := 0) rfl (by decide) (by decide) rfl (fun ls hl => ?_)
        refine lv_goto (tgt := 24) hx hb dX7_begin_63 (by decide) ?_
        refine lv_iload_n hx hb dX7_begin_24 rfl (lv_at hl 0 rfl) ?_
        refine lv_iconst (v := 4) hx hb dX7_begin_25 (by decide) ?_
        refine lv_icmp_ge (tgt := 66) hx hb dX7_begin_26 (by decide) (fun c_5 => absurd c_5 (by decide)) (fun _ => ?_)
        refine lv_aload_n hx hb dX7_begin_29 rfl (lv_at hl 1 rfl) ?_
        refine lv_iconst (v := 4) hx hb dX7_begin_30 (by decide) ?_
        refine lv_iconst (v := 3) hx hb dX7_begin_31 (by decide) ?_
        refine lv_iload_n hx hb dX7_begin_32 rfl (lv_at hl 0 rfl) ?_
        refine lv_imul hx hb dX7_begin_33 ?_
        refine q_i (z := 9) (by decide) ?_
        refine lv_iadd hx hb dX7_begin_34 ?_
        refine q_i (z := 13) (by decide) ?_
        refine lv_iconst (v := 0) hx hb dX7_begin_35 (by decide) ?_
        refine lv_iadd hx hb dX7_begin_36 ?_
        refine q_i (z := 13) (by decide) ?_
        refine lv_iconst (v := 0) hx hb dX7_begin_37 (by decide) ?_
        refine va_iast hx hb hK hP hD hS 0 0 rfl rfl (vin (by decide)) dX7_begin_38 (fun H locs hP hD hS => ?_)
        have hP : va_P D vwCl [(q, .inl (cI, 221, .inl (upd (upd (upd (upd (upd (upd (upd (upd (upd (upd (upd (fun _ => 0) (1 : Int32).toNatClampNeg 2) (4 : Int32).toNatClampNeg 0) (5 : Int32).toNatClampNeg 9) (6 : Int32).toNatClampNeg 4) (7 : Int32).toNatClampNeg 0) (8 : Int32).toNatClampNeg 9) (9 : Int32).toNatClampNeg 4) (10 : Int32).toNatClampNeg 0) (11 : Int32).toNatClampNeg 9) (12 : Int32).toNatClampNeg 4) (13 : Int32).toNatClampNeg 0)))] H := hP
        have hD : va_D (va_A (w_m_begin0 cI cZ cP q) sz) [(q, .inl (cI, 221, .inl (upd (upd (upd (upd (upd (upd (upd (upd (upd (upd (upd (fun _ => 0) (1 : Int32).toNatClampNeg 2) (4 : Int32).toNatClampNeg 0) (5 : Int32).toNatClampNeg 9) (6 : Int32).toNatClampNeg 4) (7 : Int32).toNatClampNeg 0) (8 : Int32).toNatClampNeg 9) (9 : Int32).toNatClampNeg 4) (10 : Int32).toNatClampNeg 0) (11 : Int32).toNatClampNeg 9) (12 : Int32).toNatClampNeg 4) (13 : Int32).toNatClampNeg 0)))] := hD
        refine lv_aload_n hx hb dX7_begin_39 rfl (lv_at hl 1 rfl) ?_
        refine lv_iconst (v := 4) hx hb dX7_begin_40 (by decide) ?_
        refine lv_iconst (v := 3) hx hb dX7_begin_41 (by decide) ?_
        refine lv_iload_n hx hb dX7_begin_42 rfl (lv_at hl 0 rfl) ?_
        refine lv_imul hx hb dX7_begin_43 ?_
        refine q_i (z := 9) (by decide) ?_
        refine lv_iadd hx hb dX7_begin_44 ?_
        refine q_i (z := 13) (by decide) ?_
        refine lv_iconst (v := 1) hx hb dX7_begin_45 (by decide) ?_
        refine lv_iadd hx hb dX7_begin_46 ?_
        refine q_i (z := 14) (by decide) ?_
        refine lv_bipush (v := 9) hx hb dX7_begin_47 (by decide) ?_
        refine va_iast hx hb hK hP hD hS 0 0 rfl rfl (vin (by decide)) dX7_begin_49 (fun H locs hP hD hS => ?_)
        have hP : va_P D vwCl [(q, .inl (cI, 221, .inl (upd (upd (upd (upd (upd (upd (upd (upd (upd (upd (upd (upd (fun _ => 0) (1 : Int32).toNatClampNeg 2) (4 : Int32).toNatClampNeg 0) (5 : Int32).toNatClampNeg 9) (6 : Int32).toNatClampNeg 4) (7 : Int32).toNatClampNeg 0) (8 : Int32).toNatClampNeg 9) (9 : Int32).toNatClampNeg 4) (10 : Int32).toNatClampNeg 0) (11 : Int32).toNatClampNeg 9) (12 : Int32).toNatClampNeg 4) (13 : Int32).toNatClampNeg 0) (14 : Int32).toNatClampNeg 9)))] H := hP
        have hD : va_D (va_A (w_m_begin0 cI cZ cP q) sz) [(q, .inl (cI, 221, .inl (upd (upd (upd (upd (upd (upd (upd (upd (upd (upd (upd (upd (fun _ => 0) (1 : Int32).toNatClampNeg 2) (4 : Int32).toNatClampNeg 0) (5 : Int32).toNatClampNeg 9) (6 : Int32).toNatClampNeg 4) (7 : Int32).toNatClampNeg 0) (8 : Int32).toNatClampNeg 9) (9 : Int32).toNatClampNeg 4) (10 : Int32).toNatClampNeg 0) (11 : Int32).toNatClampNeg 9) (12 : Int32).toNatClampNeg 4) (13 : Int32).toNatClampNeg 0) (14 : Int32).toNatClampNeg 9)))] := hD
        refine lv_aload_n hx hb dX7_begin_50 rfl (lv_at hl 1 rfl) ?_
        refine lv_iconst (v := 4) hx hb dX7_begin_51 (by decide) ?_
        refine lv_iconst (v := 3) hx hb dX7_begin_52 (by decide) ?_
        refine lv_iload_n hx hb dX7_begin_53 rfl (lv_at hl 0 rfl) ?_
        refine lv_imul hx hb dX7_begin_54 ?_
        refine q_i (z := 9) (by decide) ?_
        refine lv_iadd hx hb dX7_begin_55 ?_
        refine q_i (z := 13) (by decide) ?_
        refine lv_iconst (v := 2) hx hb dX7_begin_56 (by decide) ?_
        refine lv_iadd hx hb dX7_begin_57 ?_
        refine q_i (z := 15) (by decide) ?_
        refine lv_iconst (v := 4) hx hb dX7_begin_58 (by decide) ?_
        refine va_iast hx hb hK hP hD hS 0 0 rfl rfl (vin (by decide)) dX7_begin_59 (fun H locs hP hD hS => ?_)
        have hP : va_P D vwCl [(q, .inl (cI, 221, .inl (upd (upd (upd (upd (upd (upd (upd (upd (upd (upd (upd (upd (upd (fun _ => 0) (1 : Int32).toNatClampNeg 2) (4 : Int32).toNatClampNeg 0) (5 : Int32).toNatClampNeg 9) (6 : Int32).toNatClampNeg 4) (7 : Int32).toNatClampNeg 0) (8 : Int32).toNatClampNeg 9) (9 : Int32).toNatClampNeg 4) (10 : Int32).toNatClampNeg 0) (11 : Int32).toNatClampNeg 9) (12 : Int32).toNatClampNeg 4) (13 : Int32).toNatClampNeg 0) (14 : Int32).toNatClampNeg 9) (15 : Int32).toNatClampNeg 4)))] H := hP
        have hD : va_D (va_A (w_m_begin0 cI cZ cP q) sz) [(q, .inl (cI, 221, .inl (upd (upd (upd (upd (upd (upd (upd (upd (upd (upd (upd (upd (upd (fun _ => 0) (1 : Int32).toNatClampNeg 2) (4 : Int32).toNatClampNeg 0) (5 : Int32).toNatClampNeg 9) (6 : Int32).toNatClampNeg 4) (7 : Int32).toNatClampNeg 0) (8 : Int32).toNatClampNeg 9) (9 : Int32).toNatClampNeg 4) (10 : Int32).toNatClampNeg 0) (11 : Int32).toNatClampNeg 9) (12 : Int32).toNatClampNeg 4) (13 : Int32).toNatClampNeg 0) (14 : Int32).toNatClampNeg 9) (15 : Int32).toNatClampNeg 4)))] := hD
        refine lv_iinc (v := 4) (lv' := [(2, .int 4), (0, .ref q), (1, .int 2)]) hx hb dX7_begin_60 hl (k := 0) rfl (by decide) (by decide) rfl (fun ls hl => ?_)
        refine lv_goto (tgt := 24) hx hb dX7_begin_63 (by decide) ?_
        refine lv_iload_n hx hb dX7_begin_24 rfl (lv_at hl 0 rfl) ?_
        refine lv_iconst (v := 4) hx hb dX7_begin_25 (by decide) ?_
        refine lv_icmp_ge (tgt := 66) hx hb dX7_begin_26 (by decide) (fun _ => ?_) (fun c_6 => absurd (by decide) c_6)
        have hD := va_congD (g := .inl (cI, 221, .inl nw0)) hD 0 rfl
        have hP := va_cong (g := nw0) hP 0 rfl (by decide +kernel)
        have hP : va_P D vwCl [(q, .inl (cI, 221, .inl nw0))] H := hP
        have hD : va_D (va_A (w_m_begin0 cI cZ cP q) sz) [(q, .inl (cI, 221, .inl nw0))] := hD
        exact q_vret hX hr hlk () trivial (hP.sub [0] rfl) (hD.sub [0] (by decide) rfl) hS dX7_begin_66
      · have hk2 : k < 101 := nI_dnn (a := 101) c_1 (by omega) (by omega)
        refine lv_aload_n hx hb dX7_begin_8 rfl (lv_at hl 1 rfl) ?_
        refine lv_iload_n hx hb dX7_begin_9 rfl (lv_at hl 0 rfl) ?_
        refine lv_iconst (v := 0) hx hb dX7_begin_10 (by decide) ?_
        refine va_iast hx hb hK hP hD hS 0 0 rfl rfl (vp_in_nI (by omega) (by omega)) dX7_begin_11 (fun H locs hP hD hS => ?_)
        have hP : va_P D vwCl [(q, .inl (cI, 221, .inl (upd (fun _ => 0) (nI k).toNatClampNeg 0)))] H := hP
        have hD : va_D (va_A (w_m_begin0 cI cZ cP q) sz) [(q, .inl (cI, 221, .inl (upd (fun _ => 0) (nI k).toNatClampNeg 0)))] := hD
        rw [upd_c] at hP hD
        have hP : va_P D vwCl [(q, .inl (cI, 221, .inl (fun _ => 0)))] H := hP
        have hD : va_D (va_A (w_m_begin0 cI cZ cP q) sz) [(q, .inl (cI, 221, .inl (fun _ => 0)))] := hD
        refine lv_iinc (v := (nI (k + 1))) (lv' := [(2, .int (nI (k + 1))), (0, .ref q), (1, .int 2)]) hx hb dX7_begin_12 hl (k := 0) rfl (nI_1 k) (by decide) rfl (fun ls hl => ?_)
        refine lv_goto (tgt := 2) hx hb dX7_begin_15 (by decide) ?_
        exact ih_2 (k + 1) (by omega) (by omega) _ _ _ hP hD hS (lv_sub hl [0, 1, 2] rfl)
  exact lp_2 102 0 (by omega) (by omega) _ _ _ hP hD hS (lv_sub hl [0, 1, 2] rfl)
abbrev w_init7 (cI cZ cP : ClassId) (h0 : Nat) : va_W := [(h0, .inr (7, [.null, .null, .null, .null, .long 0, .long 0, .int 0, .int 0, .int 0, .int 0, .null, .null, .int 0, .null, .null, .null, .null, .null, .int 0, .null, .null, .int 0, .int 0, .int 0, .int 0, .int 0, .null, .null]))]
set_option maxHeartbeats 4000000 in
set_option maxRecDepth 100000 in
theorem c_init7 (l : Launch) (D : va_G) (cI cZ cP : ClassId) (sa : Nat → Nat) (h0 : Nat) (sz : Nat) : Met l yX7_init (qW yX7_init cX7_init 1 none) ({ frames := 1, cells := 15, slots := 1029, locals := 30 } : Room) (qP D (TY cI cZ cP) sa [.ref h0] (w_init7 cI cZ cP h0) sz) (qQv D (w_init7 cI cZ cP h0) sz (fun _ : (Nat → Nat) => True) (fun u => [(h0, .inr (7, [.ref (u 0), .ref (u 1), .ref (u 2), .ref (u 3), .long 0, .long 1, .int 0, .int 0, .int 0, .int 0, .ref (u 4), .ref (u 5), .int 0, .ref (u 6), .ref (u 7), .ref (u 8), .ref (u 9), .ref (u 10), .int 0, .ref (u 11), .ref (u 12), .int 0, .int 0, .int 0, .int 0, .int 0, .ref (u 13), .ref (u 14)])), ((u 0), .inl (cI, 221, .inl nw0)), ((u 1), .inl (cI, 442, .inl (fun _ => 0))), ((u 2), .inl (cZ, 2, .inl (fun _ => 0))), ((u 3), .inl (cI, 3, .inl (fun _ => 0))), ((u 4), .inl (cI, 12, .inl (fun _ => 0))), ((u 5), .inl (cI, 12, .inl (fun _ => 0))), ((u 6), .inl (cI, 40, .inl (fun _ => 0))), ((u 7), .inl (cI, 8, .inl (fun _ => 0))), ((u 8), .inl (cI, 8, .inl (fun _ => 0))), ((u 9), .inl (cI, 6, .inl (fun _ => 0))), ((u 10), .inl (cI, 6, .inl (fun _ => 0))), ((u 11), .inl (cI, 12, .inl (fun _ => 0))), ((u 12), .inl (cI, 150, .inl (fun _ => 0))), ((u 13), .inl (cI, 101, .inl (fun _ => 0))), ((u 14), .inl (cI, 6, .inl (fun _ => 0)))])) 15 1029 (va_A (w_init7 cI cZ cP h0) sz) := by
  refine q_enter (by decide) (Nat.le_of_ble_eq_true rfl) ?_
  intro p e s m below meth c ls hX hr hlk hnm hE hK hP hD hS hA hl
  obtain ⟨hx, hb, hml, hown, ht⟩ := id hX
  have hl : lv_has ls 1 [(0, .ref h0)] := hl
  refine lv_aload_n hx hb dX7_init_0 rfl (lv_at hl 0 rfl) ?_
  refine W.objInit hx hb hown (ht _ (mem_tb 900 rfl rfl)) (ht _ (mem_tb 109 rfl rfl)) (ht _ (mem_tb 110 rfl rfl)) rfl (hl.1.trans hml.symm) rfl dX7_init_1 (Nat.le_of_ble_eq_true rfl) (Nat.le_of_ble_eq_true rfl) ?_
  refine W.eq (g2 := F0 m 4 ls []) rfl ?_
  refine lv_aload_n hx hb dX7_init_4 rfl (lv_at hl 0 rfl) ?_
  refine lv_sipush (v := 221) hx hb dX7_init_5 (by decide) ?_
  refine q_newI (N := 221) hx hb (ht _ (mem_tb 201 rfl rfl)) hK hP hD hS hA (by decide) (by decide) (Nat.le_of_ble_eq_true rfl) (Nat.le_of_ble_eq_true rfl) (Nat.le_of_ble_eq_true rfl) dX7_init_8 (fun q_1 H hP hD hS => ?_)
  have hP : va_P D vwCl [(h0, .inr (7, [.null, .null, .null, .null, .long 0, .long 0, .int 0, .int 0, .int 0, .int 0, .null, .null, .int 0, .null, .null, .null, .null, .null, .int 0, .null, .null, .int 0, .int 0, .int 0, .int 0, .int 0, .null, .null])), (q_1, .inl (cI, 221, .inl (fun _ => 0)))] H := hP
  have hD : va_D (va_A (w_init7 cI cZ cP h0) sz) [(h0, .inr (7, [.null, .null, .null, .null, .long 0, .long 0, .int 0, .int 0, .int 0, .int 0, .null, .null, .int 0, .null, .null, .null, .null, .null, .int 0, .null, .null, .int 0, .int 0, .int 0, .int 0, .int 0, .null, .null])), (q_1, .inl (cI, 221, .inl (fun _ => 0)))] := hD
  refine W.widen (k := 1) (n := 221) (Nat.le_of_ble_eq_true rfl) (Nat.le_of_ble_eq_true rfl) ?_
  refine va_putF (D := D) (ci := 7) (v := .ref q_1) (ty := (.array .int)) (C := RX7) (T := TX7) (N := 28) hx hb ht inX7 tyX7 tyX7_ok nmX7 hown hK hP hD hS 0 rfl rfl 0 (Nat.le_of_ble_eq_true rfl) (ht _ kw_904) (fun _ h9 => h9) rfl hnm rfl (by decide +kernel) rfl rfl (Nat.le_of_ble_eq_true rfl) dX7_init_10 (fun H locs hP hD hS => ?_)
  have hP : va_P D vwCl [(h0, .inr (7, [.ref q_1, .null, .null, .null, .long 0, .long 0, .int 0, .int 0, .int 0, .int 0, .null, .null, .int 0, .null, .null, .null, .null, .null, .int 0, .null, .null, .int 0, .int 0, .int 0, .int 0, .int 0, .null, .null])), (q_1, .inl (cI, 221, .inl (fun _ => 0)))] H := hP
  have hD : va_D (va_A (w_init7 cI cZ cP h0) sz) [(h0, .inr (7, [.ref q_1, .null, .null, .null, .long 0, .long 0, .int 0, .int 0, .int 0, .int 0, .null, .null, .int 0, .null, .null, .null, .null, .null, .int 0, .null, .null, .int 0, .int 0, .int 0, .int 0, .int 0, .null, .null])), (q_1, .inl (cI, 221, .inl (fun _ => 0)))] := hD
  refine lv_aload_n hx hb dX7_init_13 rfl (lv_at hl 0 rfl) ?_
  refine lv_sipush (v := 442) hx hb dX7_init_14 (by decide) ?_
  refine q_newI (N := 442) hx hb (ht _ (mem_tb 201 rfl rfl)) hK hP hD hS hA (by decide) (by decide) (Nat.le_of_ble_eq_true rfl) (Nat.le_of_ble_eq_true rfl) (Nat.le_of_ble_eq_true rfl) dX7_init_17 (fun q_2 H hP hD hS => ?_)
  have hP : va_P D vwCl [(h0, .inr (7, [.ref q_1, .null, .null, .null, .long 0, .long 0, .int 0, .int 0, .int 0, .int 0, .null, .null, .int 0, .null, .null, .null, .null, .null, .int 0, .null, .null, .int 0, .int 0, .int 0, .int 0, .int 0, .null, .null])), (q_1, .inl (cI, 221, .inl (fun _ => 0))), (q_2, .inl (cI, 442, .inl (fun _ => 0)))] H := hP
  have hD : va_D (va_A (w_init7 cI cZ cP h0) sz) [(h0, .inr (7, [.ref q_1, .null, .null, .null, .long 0, .long 0, .int 0, .int 0, .int 0, .int 0, .null, .null, .int 0, .null, .null, .null, .null, .null, .int 0, .null, .null, .int 0, .int 0, .int 0, .int 0, .int 0, .null, .null])), (q_1, .inl (cI, 221, .inl (fun _ => 0))), (q_2, .inl (cI, 442, .inl (fun _ => 0)))] := hD
  refine W.widen (k := 2) (n := 663) (Nat.le_of_ble_eq_true rfl) (Nat.le_of_ble_eq_true rfl) ?_
  refine va_putF (D := D) (ci := 7) (v := .ref q_2) (ty := (.array .int)) (C := RX7) (T := TX7) (N := 28) hx hb ht inX7 tyX7 tyX7_ok nmX7 hown hK hP hD hS 0 rfl rfl 1 (Nat.le_of_ble_eq_true rfl) (ht _ kw_905) (fun _ h9 => h9) rfl hnm rfl (by decide +kernel) rfl rfl (Nat.le_of_ble_eq_true rfl) dX7_init_19 (fun H locs hP hD hS => ?_)
  have hP : va_P D vwCl [(h0, .inr (7, [.ref q_1, .ref q_2, .null, .null, .long 0, .long 0, .int 0, .int 0, .int 0, .int 0, .null, .null, .int 0, .null, .null, .null, .null, .null, .int 0, .null, .null, .int 0, .int 0, .int 0, .int 0, .int 0, .null, .null])), (q_1, .inl (cI, 221, .inl (fun _ => 0))), (q_2, .inl (cI, 442, .inl (fun _ => 0)))] H := hP
  have hD : va_D (va_A (w_init7 cI cZ cP h0) sz) [(h0, .inr (7, [.ref q_1, .ref q_2, .null, .null, .long 0, .long 0, .int 0, .int 0, .int 0, .int 0, .null, .null, .int 0, .null, .null, .null, .null, .null, .int 0, .null, .null, .int 0, .int 0, .int 0, .int 0, .int 0, .null, .null])), (q_1, .inl (cI, 221, .inl (fun _ => 0))), (q_2, .inl (cI, 442, .inl (fun _ => 0)))] := hD
  refine lv_aload_n hx hb dX7_init_22 rfl (lv_at hl 0 rfl) ?_
  refine lv_iconst (v := 2) hx hb dX7_init_23 (by decide) ?_
  refine q_newZ (N := 2) hx hb (ht _ (mem_tb 989 rfl rfl)) hK hP hD hS hA (by decide) (by decide) (Nat.le_of_ble_eq_true rfl) (Nat.le_of_ble_eq_true rfl) (Nat.le_of_ble_eq_true rfl) dX7_init_24 (fun q_3 H hP hD hS => ?_)
  have hP : va_P D vwCl [(h0, .inr (7, [.ref q_1, .ref q_2, .null, .null, .long 0, .long 0, .int 0, .int 0, .int 0, .int 0, .null, .null, .int 0, .null, .null, .null, .null, .null, .int 0, .null, .null, .int 0, .int 0, .int 0, .int 0, .int 0, .null, .null])), (q_1, .inl (cI, 221, .inl (fun _ => 0))), (q_2, .inl (cI, 442, .inl (fun _ => 0))), (q_3, .inl (cZ, 2, .inl (fun _ => 0)))] H := hP
  have hD : va_D (va_A (w_init7 cI cZ cP h0) sz) [(h0, .inr (7, [.ref q_1, .ref q_2, .null, .null, .long 0, .long 0, .int 0, .int 0, .int 0, .int 0, .null, .null, .int 0, .null, .null, .null, .null, .null, .int 0, .null, .null, .int 0, .int 0, .int 0, .int 0, .int 0, .null, .null])), (q_1, .inl (cI, 221, .inl (fun _ => 0))), (q_2, .inl (cI, 442, .inl (fun _ => 0))), (q_3, .inl (cZ, 2, .inl (fun _ => 0)))] := hD
  refine W.widen (k := 3) (n := 665) (Nat.le_of_ble_eq_true rfl) (Nat.le_of_ble_eq_true rfl) ?_
  refine va_putF (D := D) (ci := 7) (v := .ref q_3) (ty := (.array .boolean)) (C := RX7) (T := TX7) (N := 28) hx hb ht inX7 tyX7 tyX7_ok nmX7 hown hK hP hD hS 0 rfl rfl 2 (Nat.le_of_ble_eq_true rfl) (ht _ kw_906) (fun _ h9 => h9) rfl hnm rfl (by decide +kernel) rfl rfl (Nat.le_of_ble_eq_true rfl) dX7_init_26 (fun H locs hP hD hS => ?_)
  have hP : va_P D vwCl [(h0, .inr (7, [.ref q_1, .ref q_2, .ref q_3, .null, .long 0, .long 0, .int 0, .int 0, .int 0, .int 0, .null, .null, .int 0, .null, .null, .null, .null, .null, .int 0, .null, .null, .int 0, .int 0, .int 0, .int 0, .int 0, .null, .null])), (q_1, .inl (cI, 221, .inl (fun _ => 0))), (q_2, .inl (cI, 442, .inl (fun _ => 0))), (q_3, .inl (cZ, 2, .inl (fun _ => 0)))] H := hP
  have hD : va_D (va_A (w_init7 cI cZ cP h0) sz) [(h0, .inr (7, [.ref q_1, .ref q_2, .ref q_3, .null, .long 0, .long 0, .int 0, .int 0, .int 0, .int 0, .null, .null, .int 0, .null, .null, .null, .null, .null, .int 0, .null, .null, .int 0, .int 0, .int 0, .int 0, .int 0, .null, .null])), (q_1, .inl (cI, 221, .inl (fun _ => 0))), (q_2, .inl (cI, 442, .inl (fun _ => 0))), (q_3, .inl (cZ, 2, .inl (fun _ => 0)))] := hD
  refine lv_aload_n hx hb dX7_init_29 rfl (lv_at hl 0 rfl) ?_
  refine lv_iconst (v := 3) hx hb dX7_init_30 (by decide) ?_
  refine q_newI (N := 3) hx hb (ht _ (mem_tb 201 rfl rfl)) hK hP hD hS hA (by decide) (by decide) (Nat.le_of_ble_eq_true rfl) (Nat.le_of_ble_eq_true rfl) (Nat.le_of_ble_eq_true rfl) dX7_init_31 (fun q_4 H hP hD hS => ?_)
  have hP : va_P D vwCl [(h0, .inr (7, [.ref q_1, .ref q_2, .ref q_3, .null, .long 0, .long 0, .int 0, .int 0, .int 0, .int 0, .null, .null, .int 0, .null, .null, .null, .null, .null, .int 0, .null, .null, .int 0, .int 0, .int 0, .int 0, .int 0, .null, .null])), (q_1, .inl (cI, 221, .inl (fun _ => 0))), (q_2, .inl (cI, 442, .inl (fun _ => 0))), (q_3, .inl (cZ, 2, .inl (fun _ => 0))), (q_4, .inl (cI, 3, .inl (fun _ => 0)))] H := hP
  have hD : va_D (va_A (w_init7 cI cZ cP h0) sz) [(h0, .inr (7, [.ref q_1, .ref q_2, .ref q_3, .null, .long 0, .long 0, .int 0, .int 0, .int 0, .int 0, .null, .null, .int 0, .null, .null, .null, .null, .null, .int 0, .null, .null, .int 0, .int 0, .int 0, .int 0, .int 0, .null, .null])), (q_1, .inl (cI, 221, .inl (fun _ => 0))), (q_2, .inl (cI, 442, .inl (fun _ => 0))), (q_3, .inl (cZ, 2, .inl (fun _ => 0))), (q_4, .inl (cI, 3, .inl (fun _ => 0)))] := hD
  refine W.widen (k := 4) (n := 668) (Nat.le_of_ble_eq_true rfl) (Nat.le_of_ble_eq_true rfl) ?_
  refine va_putF (D := D) (ci := 7) (v := .ref q_4) (ty := (.array .int)) (C := RX7) (T := TX7) (N := 28) hx hb ht inX7 tyX7 tyX7_ok nmX7 hown hK hP hD hS 0 rfl rfl 3 (Nat.le_of_ble_eq_true rfl) (ht _ kw_907) (fun _ h9 => h9) rfl hnm rfl (by decide +kernel) rfl rfl (Nat.le_of_ble_eq_true rfl) dX7_init_33 (fun H locs hP hD hS => ?_)
  have hP : va_P D vwCl [(h0, .inr (7, [.ref q_1, .ref q_2, .ref q_3, .ref q_4, .long 0, .long 0, .int 0, .int 0, .int 0, .int 0, .null, .null, .int 0, .null, .null, .null, .null, .null, .int 0, .null, .null, .int 0, .int 0, .int 0, .int 0, .int 0, .null, .null])), (q_1, .inl (cI, 221, .inl (fun _ => 0))), (q_2, .inl (cI, 442, .inl (fun _ => 0))), (q_3, .inl (cZ, 2, .inl (fun _ => 0))), (q_4, .inl (cI, 3, .inl (fun _ => 0)))] H := hP
  have hD : va_D (va_A (w_init7 cI cZ cP h0) sz) [(h0, .inr (7, [.ref q_1, .ref q_2, .ref q_3, .ref q_4, .long 0, .long 0, .int 0, .int 0, .int 0, .int 0, .null, .null, .int 0, .null, .null, .null, .null, .null, .int 0, .null, .null, .int 0, .int 0, .int 0, .int 0, .int 0, .null, .null])), (q_1, .inl (cI, 221, .inl (fun _ => 0))), (q_2, .inl (cI, 442, .inl (fun _ => 0))), (q_3, .inl (cZ, 2, .inl (fun _ => 0))), (q_4, .inl (cI, 3, .inl (fun _ => 0)))] := hD
  refine lv_aload_n hx hb dX7_init_36 rfl (lv_at hl 0 rfl) ?_
  refine lv_lconst (v := 1) hx hb dX7_init_37 (by decide) ?_
  refine q_l (z := 1) (by decide) ?_
  refine va_put (D := D) (ci := 7) (v := .long 1) (ty := .long) (C := RX7) (T := TX7) (N := 28) hx hb ht inX7 tyX7 tyX7_ok nmX7 hown hK hP hD hS 0 rfl rfl 5 (Nat.le_of_ble_eq_true rfl) (ht _ kw_909) (fun _ h9 => h9) rfl (by decide +kernel) rfl rfl (Nat.le_of_ble_eq_true rfl) dX7_init_38 (fun H locs hP hD hS => ?_)
  have hP : va_P D vwCl [(h0, .inr (7, [.ref q_1, .ref q_2, .ref q_3, .ref q_4, .long 0, .long 1, .int 0, .int 0, .int 0, .int 0, .null, .null, .int 0, .null, .null, .null, .null, .null, .int 0, .null, .null, .int 0, .int 0, .int 0, .int 0, .int 0, .null, .null])), (q_1, .inl (cI, 221, .inl (fun _ => 0))), (q_2, .inl (cI, 442, .inl (fun _ => 0))), (q_3, .inl (cZ, 2, .inl (fun _ => 0))), (q_4, .inl (cI, 3, .inl (fun _ => 0)))] H := hP
  have hD : va_D (va_A (w_init7 cI cZ cP h0) sz) [(h0, .inr (7, [.ref q_1, .ref q_2, .ref q_3, .ref q_4, .long 0, .long 1, .int 0, .int 0, .int 0, .int 0, .null, .null, .int 0, .null, .null, .null, .null, .null, .int 0, .null, .null, .int 0, .int 0, .int 0, .int 0, .int 0, .null, .null])), (q_1, .inl (cI, 221, .inl (fun _ => 0))), (q_2, .inl (cI, 442, .inl (fun _ => 0))), (q_3, .inl (cZ, 2, .inl (fun _ => 0))), (q_4, .inl (cI, 3, .inl (fun _ => 0)))] := hD
  refine lv_aload_n hx hb dX7_init_41 rfl (lv_at hl 0 rfl) ?_
  refine lv_bipush (v := 12) hx hb dX7_init_42 (by decide) ?_
  refine q_newI (N := 12) hx hb (ht _ (mem_tb 201 rfl rfl)) hK hP hD hS hA (by decide) (by decide) (Nat.le_of_ble_eq_true rfl) (Nat.le_of_ble_eq_true rfl) (Nat.le_of_ble_eq_true rfl) dX7_init_44 (fun q_5 H hP hD hS => ?_)
  have hP : va_P D vwCl [(h0, .inr (7, [.ref q_1, .ref q_2, .ref q_3, .ref q_4, .long 0, .long 1, .int 0, .int 0, .int 0, .int 0, .null, .null, .int 0, .null, .null, .null, .null, .null, .int 0, .null, .null, .int 0, .int 0, .int 0, .int 0, .int 0, .null, .null])), (q_1, .inl (cI, 221, .inl (fun _ => 0))), (q_2, .inl (cI, 442, .inl (fun _ => 0))), (q_3, .inl (cZ, 2, .inl (fun _ => 0))), (q_4, .inl (cI, 3, .inl (fun _ => 0))), (q_5, .inl (cI, 12, .inl (fun _ => 0)))] H := hP
  have hD : va_D (va_A (w_init7 cI cZ cP h0) sz) [(h0, .inr (7, [.ref q_1, .ref q_2, .ref q_3, .ref q_4, .long 0, .long 1, .int 0, .int 0, .int 0, .int 0, .null, .null, .int 0, .null, .null, .null, .null, .null, .int 0, .null, .null, .int 0, .int 0, .int 0, .int 0, .int 0, .null, .null])), (q_1, .inl (cI, 221, .inl (fun _ => 0))), (q_2, .inl (cI, 442, .inl (fun _ => 0))), (q_3, .inl (cZ, 2, .inl (fun _ => 0))), (q_4, .inl (cI, 3, .inl (fun _ => 0))), (q_5, .inl (cI, 12, .inl (fun _ => 0)))] := hD
  refine W.widen (k := 5) (n := 680) (Nat.le_of_ble_eq_true rfl) (Nat.le_of_ble_eq_true rfl) ?_
  refine va_putF (D := D) (ci := 7) (v := .ref q_5) (ty := (.array .int)) (C := RX7) (T := TX7) (N := 28) hx hb ht inX7 tyX7 tyX7_ok nmX7 hown hK hP hD hS 0 rfl rfl 10 (Nat.le_of_ble_eq_true rfl) (ht _ kw_914) (fun _ h9 => h9) rfl hnm rfl (by decide +kernel) rfl rfl (Nat.le_of_ble_eq_true rfl) dX7_init_46 (fun H locs hP hD hS => ?_)
  have hP : va_P D vwCl [(h0, .inr (7, [.ref q_1, .ref q_2, .ref q_3, .ref q_4, .long 0, .long 1, .int 0, .int 0, .int 0, .int 0, .ref q_5, .null, .int 0, .null, .null, .null, .null, .null, .int 0, .null, .null, .int 0, .int 0, .int 0, .int 0, .int 0, .null, .null])), (q_1, .inl (cI, 221, .inl (fun _ => 0))), (q_2, .inl (cI, 442, .inl (fun _ => 0))), (q_3, .inl (cZ, 2, .inl (fun _ => 0))), (q_4, .inl (cI, 3, .inl (fun _ => 0))), (q_5, .inl (cI, 12, .inl (fun _ => 0)))] H := hP
  have hD : va_D (va_A (w_init7 cI cZ cP h0) sz) [(h0, .inr (7, [.ref q_1, .ref q_2, .ref q_3, .ref q_4, .long 0, .long 1, .int 0, .int 0, .int 0, .int 0, .ref q_5, .null, .int 0, .null, .null, .null, .null, .null, .int 0, .null, .null, .int 0, .int 0, .int 0, .int 0, .int 0, .null, .null])), (q_1, .inl (cI, 221, .inl (fun _ => 0))), (q_2, .inl (cI, 442, .inl (fun _ => 0))), (q_3, .inl (cZ, 2, .inl (fun _ => 0))), (q_4, .inl (cI, 3, .inl (fun _ => 0))), (q_5, .inl (cI, 12, .inl (fun _ => 0)))] := hD
  refine lv_aload_n hx hb dX7_init_49 rfl (lv_at hl 0 rfl) ?_
  refine lv_bipush (v := 12) hx hb dX7_init_50 (by decide) ?_
  refine q_newI (N := 12) hx hb (ht _ (mem_tb 201 rfl rfl)) hK hP hD hS hA (by decide) (by decide) (Nat.le_of_ble_eq_true rfl) (Nat.le_of_ble_eq_true rfl) (Nat.le_of_ble_eq_true rfl) dX7_init_52 (fun q_6 H hP hD hS => ?_)
  have hP : va_P D vwCl [(h0, .inr (7, [.ref q_1, .ref q_2, .ref q_3, .ref q_4, .long 0, .long 1, .int 0, .int 0, .int 0, .int 0, .ref q_5, .null, .int 0, .null, .null, .null, .null, .null, .int 0, .null, .null, .int 0, .int 0, .int 0, .int 0, .int 0, .null, .null])), (q_1, .inl (cI, 221, .inl (fun _ => 0))), (q_2, .inl (cI, 442, .inl (fun _ => 0))), (q_3, .inl (cZ, 2, .inl (fun _ => 0))), (q_4, .inl (cI, 3, .inl (fun _ => 0))), (q_5, .inl (cI, 12, .inl (fun _ => 0))), (q_6, .inl (cI, 12, .inl (fun _ => 0)))] H := hP
  have hD : va_D (va_A (w_init7 cI cZ cP h0) sz) [(h0, .inr (7, [.ref q_1, .ref q_2, .ref q_3, .ref q_4, .long 0, .long 1, .int 0, .int 0, .int 0, .int 0, .ref q_5, .null, .int 0, .null, .null, .null, .null, .null, .int 0, .null, .null, .int 0, .int 0, .int 0, .int 0, .int 0, .null, .null])), (q_1, .inl (cI, 221, .inl (fun _ => 0))), (q_2, .inl (cI, 442, .inl (fun _ => 0))), (q_3, .inl (cZ, 2, .inl (fun _ => 0))), (q_4, .inl (cI, 3, .inl (fun _ => 0))), (q_5, .inl (cI, 12, .inl (fun _ => 0))), (q_6, .inl (cI, 12, .inl (fun _ => 0)))] := hD
  refine W.widen (k := 6) (n := 692) (Nat.le_of_ble_eq_true rfl) (Nat.le_of_ble_eq_true rfl) ?_
  refine va_putF (D := D) (ci := 7) (v := .ref q_6) (ty := (.array .int)) (C := RX7) (T := TX7) (N := 28) hx hb ht inX7 tyX7 tyX7_ok nmX7 hown hK hP hD hS 0 rfl rfl 11 (Nat.le_of_ble_eq_true rfl) (ht _ kw_915) (fun _ h9 => h9) rfl hnm rfl (by decide +kernel) rfl rfl (Nat.le_of_ble_eq_true rfl) dX7_init_54 (fun H locs hP hD hS => ?_)
  have hP : va_P D vwCl [(h0, .inr (7, [.ref q_1, .ref q_2, .ref q_3, .ref q_4, .long 0, .long 1, .int 0, .int 0, .int 0, .int 0, .ref q_5, .ref q_6, .int 0, .null, .null, .null, .null, .null, .int 0, .null, .null, .int 0, .int 0, .int 0, .int 0, .int 0, .null, .null])), (q_1, .inl (cI, 221, .inl (fun _ => 0))), (q_2, .inl (cI, 442, .inl (fun _ => 0))), (q_3, .inl (cZ, 2, .inl (fun _ => 0))), (q_4, .inl (cI, 3, .inl (fun _ => 0))), (q_5, .inl (cI, 12, .inl (fun _ => 0))), (q_6, .inl (cI, 12, .inl (fun _ => 0)))] H := hP
  have hD : va_D (va_A (w_init7 cI cZ cP h0) sz) [(h0, .inr (7, [.ref q_1, .ref q_2, .ref q_3, .ref q_4, .long 0, .long 1, .int 0, .int 0, .int 0, .int 0, .ref q_5, .ref q_6, .int 0, .null, .null, .null, .null, .null, .int 0, .null, .null, .int 0, .int 0, .int 0, .int 0, .int 0, .null, .null])), (q_1, .inl (cI, 221, .inl (fun _ => 0))), (q_2, .inl (cI, 442, .inl (fun _ => 0))), (q_3, .inl (cZ, 2, .inl (fun _ => 0))), (q_4, .inl (cI, 3, .inl (fun _ => 0))), (q_5, .inl (cI, 12, .inl (fun _ => 0))), (q_6, .inl (cI, 12, .inl (fun _ => 0)))] := hD
  refine lv_aload_n hx hb dX7_init_57 rfl (lv_at hl 0 rfl) ?_
  refine lv_bipush (v := 40) hx hb dX7_init_58 (by decide) ?_
  refine q_newI (N := 40) hx hb (ht _ (mem_tb 201 rfl rfl)) hK hP hD hS hA (by decide) (by decide) (Nat.le_of_ble_eq_true rfl) (Nat.le_of_ble_eq_true rfl) (Nat.le_of_ble_eq_true rfl) dX7_init_60 (fun q_7 H hP hD hS => ?_)
  have hP : va_P D vwCl [(h0, .inr (7, [.ref q_1, .ref q_2, .ref q_3, .ref q_4, .long 0, .long 1, .int 0, .int 0, .int 0, .int 0, .ref q_5, .ref q_6, .int 0, .null, .null, .null, .null, .null, .int 0, .null, .null, .int 0, .int 0, .int 0, .int 0, .int 0, .null, .null])), (q_1, .inl (cI, 221, .inl (fun _ => 0))), (q_2, .inl (cI, 442, .inl (fun _ => 0))), (q_3, .inl (cZ, 2, .inl (fun _ => 0))), (q_4, .inl (cI, 3, .inl (fun _ => 0))), (q_5, .inl (cI, 12, .inl (fun _ => 0))), (q_6, .inl (cI, 12, .inl (fun _ => 0))), (q_7, .inl (cI, 40, .inl (fun _ => 0)))] H := hP
  have hD : va_D (va_A (w_init7 cI cZ cP h0) sz) [(h0, .inr (7, [.ref q_1, .ref q_2, .ref q_3, .ref q_4, .long 0, .long 1, .int 0, .int 0, .int 0, .int 0, .ref q_5, .ref q_6, .int 0, .null, .null, .null, .null, .null, .int 0, .null, .null, .int 0, .int 0, .int 0, .int 0, .int 0, .null, .null])), (q_1, .inl (cI, 221, .inl (fun _ => 0))), (q_2, .inl (cI, 442, .inl (fun _ => 0))), (q_3, .inl (cZ, 2, .inl (fun _ => 0))), (q_4, .inl (cI, 3, .inl (fun _ => 0))), (q_5, .inl (cI, 12, .inl (fun _ => 0))), (q_6, .inl (cI, 12, .inl (fun _ => 0))), (q_7, .inl (cI, 40, .inl (fun _ => 0)))] := hD
  refine W.widen (k := 7) (n := 732) (Nat.le_of_ble_eq_true rfl) (Nat.le_of_ble_eq_true rfl) ?_
  refine va_putF (D := D) (ci := 7) (v := .ref q_7) (ty := (.array .int)) (C := RX7) (T := TX7) (N := 28) hx hb ht inX7 tyX7 tyX7_ok nmX7 hown hK hP hD hS 0 rfl rfl 13 (Nat.le_of_ble_eq_true rfl) (ht _ kw_917) (fun _ h9 => h9) rfl hnm rfl (by decide +kernel) rfl rfl (Nat.le_of_ble_eq_true rfl) dX7_init_62 (fun H locs hP hD hS => ?_)
  have hP : va_P D vwCl [(h0, .inr (7, [.ref q_1, .ref q_2, .ref q_3, .ref q_4, .long 0, .long 1, .int 0, .int 0, .int 0, .int 0, .ref q_5, .ref q_6, .int 0, .ref q_7, .null, .null, .null, .null, .int 0, .null, .null, .int 0, .int 0, .int 0, .int 0, .int 0, .null, .null])), (q_1, .inl (cI, 221, .inl (fun _ => 0))), (q_2, .inl (cI, 442, .inl (fun _ => 0))), (q_3, .inl (cZ, 2, .inl (fun _ => 0))), (q_4, .inl (cI, 3, .inl (fun _ => 0))), (q_5, .inl (cI, 12, .inl (fun _ => 0))), (q_6, .inl (cI, 12, .inl (fun _ => 0))), (q_7, .inl (cI, 40, .inl (fun _ => 0)))] H := hP
  have hD : va_D (va_A (w_init7 cI cZ cP h0) sz) [(h0, .inr (7, [.ref q_1, .ref q_2, .ref q_3, .ref q_4, .long 0, .long 1, .int 0, .int 0, .int 0, .int 0, .ref q_5, .ref q_6, .int 0, .ref q_7, .null, .null, .null, .null, .int 0, .null, .null, .int 0, .int 0, .int 0, .int 0, .int 0, .null, .null])), (q_1, .inl (cI, 221, .inl (fun _ => 0))), (q_2, .inl (cI, 442, .inl (fun _ => 0))), (q_3, .inl (cZ, 2, .inl (fun _ => 0))), (q_4, .inl (cI, 3, .inl (fun _ => 0))), (q_5, .inl (cI, 12, .inl (fun _ => 0))), (q_6, .inl (cI, 12, .inl (fun _ => 0))), (q_7, .inl (cI, 40, .inl (fun _ => 0)))] := hD
  refine lv_aload_n hx hb dX7_init_65 rfl (lv_at hl 0 rfl) ?_
  refine lv_bipush (v := 8) hx hb dX7_init_66 (by decide) ?_
  refine q_newI (N := 8) hx hb (ht _ (mem_tb 201 rfl rfl)) hK hP hD hS hA (by decide) (by decide) (Nat.le_of_ble_eq_true rfl) (Nat.le_of_ble_eq_true rfl) (Nat.le_of_ble_eq_true rfl) dX7_init_68 (fun q_8 H hP hD hS => ?_)
  have hP : va_P D vwCl [(h0, .inr (7, [.ref q_1, .ref q_2, .ref q_3, .ref q_4, .long 0, .long 1, .int 0, .int 0, .int 0, .int 0, .ref q_5, .ref q_6, .int 0, .ref q_7, .null, .null, .null, .null, .int 0, .null, .null, .int 0, .int 0, .int 0, .int 0, .int 0, .null, .null])), (q_1, .inl (cI, 221, .inl (fun _ => 0))), (q_2, .inl (cI, 442, .inl (fun _ => 0))), (q_3, .inl (cZ, 2, .inl (fun _ => 0))), (q_4, .inl (cI, 3, .inl (fun _ => 0))), (q_5, .inl (cI, 12, .inl (fun _ => 0))), (q_6, .inl (cI, 12, .inl (fun _ => 0))), (q_7, .inl (cI, 40, .inl (fun _ => 0))), (q_8, .inl (cI, 8, .inl (fun _ => 0)))] H := hP
  have hD : va_D (va_A (w_init7 cI cZ cP h0) sz) [(h0, .inr (7, [.ref q_1, .ref q_2, .ref q_3, .ref q_4, .long 0, .long 1, .int 0, .int 0, .int 0, .int 0, .ref q_5, .ref q_6, .int 0, .ref q_7, .null, .null, .null, .null, .int 0, .null, .null, .int 0, .int 0, .int 0, .int 0, .int 0, .null, .null])), (q_1, .inl (cI, 221, .inl (fun _ => 0))), (q_2, .inl (cI, 442, .inl (fun _ => 0))), (q_3, .inl (cZ, 2, .inl (fun _ => 0))), (q_4, .inl (cI, 3, .inl (fun _ => 0))), (q_5, .inl (cI, 12, .inl (fun _ => 0))), (q_6, .inl (cI, 12, .inl (fun _ => 0))), (q_7, .inl (cI, 40, .inl (fun _ => 0))), (q_8, .inl (cI, 8, .inl (fun _ => 0)))] := hD
  refine W.widen (k := 8) (n := 740) (Nat.le_of_ble_eq_true rfl) (Nat.le_of_ble_eq_true rfl) ?_
  refine va_putF (D := D) (ci := 7) (v := .ref q_8) (ty := (.array .int)) (C := RX7) (T := TX7) (N := 28) hx hb ht inX7 tyX7 tyX7_ok nmX7 hown hK hP hD hS 0 rfl rfl 14 (Nat.le_of_ble_eq_true rfl) (ht _ kw_918) (fun _ h9 => h9) rfl hnm rfl (by decide +kernel) rfl rfl (Nat.le_of_ble_eq_true rfl) dX7_init_70 (fun H locs hP hD hS => ?_)
  have hP : va_P D vwCl [(h0, .inr (7, [.ref q_1, .ref q_2, .ref q_3, .ref q_4, .long 0, .long 1, .int 0, .int 0, .int 0, .int 0, .ref q_5, .ref q_6, .int 0, .ref q_7, .ref q_8, .null, .null, .null, .int 0, .null, .null, .int 0, .int 0, .int 0, .int 0, .int 0, .null, .null])), (q_1, .inl (cI, 221, .inl (fun _ => 0))), (q_2, .inl (cI, 442, .inl (fun _ => 0))), (q_3, .inl (cZ, 2, .inl (fun _ => 0))), (q_4, .inl (cI, 3, .inl (fun _ => 0))), (q_5, .inl (cI, 12, .inl (fun _ => 0))), (q_6, .inl (cI, 12, .inl (fun _ => 0))), (q_7, .inl (cI, 40, .inl (fun _ => 0))), (q_8, .inl (cI, 8, .inl (fun _ => 0)))] H := hP
  have hD : va_D (va_A (w_init7 cI cZ cP h0) sz) [(h0, .inr (7, [.ref q_1, .ref q_2, .ref q_3, .ref q_4, .long 0, .long 1, .int 0, .int 0, .int 0, .int 0, .ref q_5, .ref q_6, .int 0, .ref q_7, .ref q_8, .null, .null, .null, .int 0, .null, .null, .int 0, .int 0, .int 0, .int 0, .int 0, .null, .null])), (q_1, .inl (cI, 221, .inl (fun _ => 0))), (q_2, .inl (cI, 442, .inl (fun _ => 0))), (q_3, .inl (cZ, 2, .inl (fun _ => 0))), (q_4, .inl (cI, 3, .inl (fun _ => 0))), (q_5, .inl (cI, 12, .inl (fun _ => 0))), (q_6, .inl (cI, 12, .inl (fun _ => 0))), (q_7, .inl (cI, 40, .inl (fun _ => 0))), (q_8, .inl (cI, 8, .inl (fun _ => 0)))] := hD
  refine lv_aload_n hx hb dX7_init_73 rfl (lv_at hl 0 rfl) ?_
  refine lv_bipush (v := 8) hx hb dX7_init_74 (by decide) ?_
  refine q_newI (N := 8) hx hb (ht _ (mem_tb 201 rfl rfl)) hK hP hD hS hA (by decide) (by decide) (Nat.le_of_ble_eq_true rfl) (Nat.le_of_ble_eq_true rfl) (Nat.le_of_ble_eq_true rfl) dX7_init_76 (fun q_9 H hP hD hS => ?_)
  have hP : va_P D vwCl [(h0, .inr (7, [.ref q_1, .ref q_2, .ref q_3, .ref q_4, .long 0, .long 1, .int 0, .int 0, .int 0, .int 0, .ref q_5, .ref q_6, .int 0, .ref q_7, .ref q_8, .null, .null, .null, .int 0, .null, .null, .int 0, .int 0, .int 0, .int 0, .int 0, .null, .null])), (q_1, .inl (cI, 221, .inl (fun _ => 0))), (q_2, .inl (cI, 442, .inl (fun _ => 0))), (q_3, .inl (cZ, 2, .inl (fun _ => 0))), (q_4, .inl (cI, 3, .inl (fun _ => 0))), (q_5, .inl (cI, 12, .inl (fun _ => 0))), (q_6, .inl (cI, 12, .inl (fun _ => 0))), (q_7, .inl (cI, 40, .inl (fun _ => 0))), (q_8, .inl (cI, 8, .inl (fun _ => 0))), (q_9, .inl (cI, 8, .inl (fun _ => 0)))] H := hP
  have hD : va_D (va_A (w_init7 cI cZ cP h0) sz) [(h0, .inr (7, [.ref q_1, .ref q_2, .ref q_3, .ref q_4, .long 0, .long 1, .int 0, .int 0, .int 0, .int 0, .ref q_5, .ref q_6, .int 0, .ref q_7, .ref q_8, .null, .null, .null, .int 0, .null, .null, .int 0, .int 0, .int 0, .int 0, .int 0, .null, .null])), (q_1, .inl (cI, 221, .inl (fun _ => 0))), (q_2, .inl (cI, 442, .inl (fun _ => 0))), (q_3, .inl (cZ, 2, .inl (fun _ => 0))), (q_4, .inl (cI, 3, .inl (fun _ => 0))), (q_5, .inl (cI, 12, .inl (fun _ => 0))), (q_6, .inl (cI, 12, .inl (fun _ => 0))), (q_7, .inl (cI, 40, .inl (fun _ => 0))), (q_8, .inl (cI, 8, .inl (fun _ => 0))), (q_9, .inl (cI, 8, .inl (fun _ => 0)))] := hD
  refine W.widen (k := 9) (n := 748) (Nat.le_of_ble_eq_true rfl) (Nat.le_of_ble_eq_true rfl) ?_
  refine va_putF (D := D) (ci := 7) (v := .ref q_9) (ty := (.array .int)) (C := RX7) (T := TX7) (N := 28) hx hb ht inX7 tyX7 tyX7_ok nmX7 hown hK hP hD hS 0 rfl rfl 15 (Nat.le_of_ble_eq_true rfl) (ht _ kw_919) (fun _ h9 => h9) rfl hnm rfl (by decide +kernel) rfl rfl (Nat.le_of_ble_eq_true rfl) dX7_init_78 (fun H locs hP hD hS => ?_)
  have hP : va_P D vwCl [(h0, .inr (7, [.ref q_1, .ref q_2, .ref q_3, .ref q_4, .long 0, .long 1, .int 0, .int 0, .int 0, .int 0, .ref q_5, .ref q_6, .int 0, .ref q_7, .ref q_8, .ref q_9, .null, .null, .int 0, .null, .null, .int 0, .int 0, .int 0, .int 0, .int 0, .null, .null])), (q_1, .inl (cI, 221, .inl (fun _ => 0))), (q_2, .inl (cI, 442, .inl (fun _ => 0))), (q_3, .inl (cZ, 2, .inl (fun _ => 0))), (q_4, .inl (cI, 3, .inl (fun _ => 0))), (q_5, .inl (cI, 12, .inl (fun _ => 0))), (q_6, .inl (cI, 12, .inl (fun _ => 0))), (q_7, .inl (cI, 40, .inl (fun _ => 0))), (q_8, .inl (cI, 8, .inl (fun _ => 0))), (q_9, .inl (cI, 8, .inl (fun _ => 0)))] H := hP
  have hD : va_D (va_A (w_init7 cI cZ cP h0) sz) [(h0, .inr (7, [.ref q_1, .ref q_2, .ref q_3, .ref q_4, .long 0, .long 1, .int 0, .int 0, .int 0, .int 0, .ref q_5, .ref q_6, .int 0, .ref q_7, .ref q_8, .ref q_9, .null, .null, .int 0, .null, .null, .int 0, .int 0, .int 0, .int 0, .int 0, .null, .null])), (q_1, .inl (cI, 221, .inl (fun _ => 0))), (q_2, .inl (cI, 442, .inl (fun _ => 0))), (q_3, .inl (cZ, 2, .inl (fun _ => 0))), (q_4, .inl (cI, 3, .inl (fun _ => 0))), (q_5, .inl (cI, 12, .inl (fun _ => 0))), (q_6, .inl (cI, 12, .inl (fun _ => 0))), (q_7, .inl (cI, 40, .inl (fun _ => 0))), (q_8, .inl (cI, 8, .inl (fun _ => 0))), (q_9, .inl (cI, 8, .inl (fun _ => 0)))] := hD
  refine lv_aload_n hx hb dX7_init_81 rfl (lv_at hl 0 rfl) ?_
  refine lv_bipush (v := 6) hx hb dX7_init_82 (by decide) ?_
  refine q_newI (N := 6) hx hb (ht _ (mem_tb 201 rfl rfl)) hK hP hD hS hA (by decide) (by decide) (Nat.le_of_ble_eq_true rfl) (Nat.le_of_ble_eq_true rfl) (Nat.le_of_ble_eq_true rfl) dX7_init_84 (fun q_10 H hP hD hS => ?_)
  have hP : va_P D vwCl [(h0, .inr (7, [.ref q_1, .ref q_2, .ref q_3, .ref q_4, .long 0, .long 1, .int 0, .int 0, .int 0, .int 0, .ref q_5, .ref q_6, .int 0, .ref q_7, .ref q_8, .ref q_9, .null, .null, .int 0, .null, .null, .int 0, .int 0, .int 0, .int 0, .int 0, .null, .null])), (q_1, .inl (cI, 221, .inl (fun _ => 0))), (q_2, .inl (cI, 442, .inl (fun _ => 0))), (q_3, .inl (cZ, 2, .inl (fun _ => 0))), (q_4, .inl (cI, 3, .inl (fun _ => 0))), (q_5, .inl (cI, 12, .inl (fun _ => 0))), (q_6, .inl (cI, 12, .inl (fun _ => 0))), (q_7, .inl (cI, 40, .inl (fun _ => 0))), (q_8, .inl (cI, 8, .inl (fun _ => 0))), (q_9, .inl (cI, 8, .inl (fun _ => 0))), (q_10, .inl (cI, 6, .inl (fun _ => 0)))] H := hP
  have hD : va_D (va_A (w_init7 cI cZ cP h0) sz) [(h0, .inr (7, [.ref q_1, .ref q_2, .ref q_3, .ref q_4, .long 0, .long 1, .int 0, .int 0, .int 0, .int 0, .ref q_5, .ref q_6, .int 0, .ref q_7, .ref q_8, .ref q_9, .null, .null, .int 0, .null, .null, .int 0, .int 0, .int 0, .int 0, .int 0, .null, .null])), (q_1, .inl (cI, 221, .inl (fun _ => 0))), (q_2, .inl (cI, 442, .inl (fun _ => 0))), (q_3, .inl (cZ, 2, .inl (fun _ => 0))), (q_4, .inl (cI, 3, .inl (fun _ => 0))), (q_5, .inl (cI, 12, .inl (fun _ => 0))), (q_6, .inl (cI, 12, .inl (fun _ => 0))), (q_7, .inl (cI, 40, .inl (fun _ => 0))), (q_8, .inl (cI, 8, .inl (fun _ => 0))), (q_9, .inl (cI, 8, .inl (fun _ => 0))), (q_10, .inl (cI, 6, .inl (fun _ => 0)))] := hD
  refine W.widen (k := 10) (n := 754) (Nat.le_of_ble_eq_true rfl) (Nat.le_of_ble_eq_true rfl) ?_
  refine va_putF (D := D) (ci := 7) (v := .ref q_10) (ty := (.array .int)) (C := RX7) (T := TX7) (N := 28) hx hb ht inX7 tyX7 tyX7_ok nmX7 hown hK hP hD hS 0 rfl rfl 16 (Nat.le_of_ble_eq_true rfl) (ht _ kw_920) (fun _ h9 => h9) rfl hnm rfl (by decide +kernel) rfl rfl (Nat.le_of_ble_eq_true rfl) dX7_init_86 (fun H locs hP hD hS => ?_)
  have hP : va_P D vwCl [(h0, .inr (7, [.ref q_1, .ref q_2, .ref q_3, .ref q_4, .long 0, .long 1, .int 0, .int 0, .int 0, .int 0, .ref q_5, .ref q_6, .int 0, .ref q_7, .ref q_8, .ref q_9, .ref q_10, .null, .int 0, .null, .null, .int 0, .int 0, .int 0, .int 0, .int 0, .null, .null])), (q_1, .inl (cI, 221, .inl (fun _ => 0))), (q_2, .inl (cI, 442, .inl (fun _ => 0))), (q_3, .inl (cZ, 2, .inl (fun _ => 0))), (q_4, .inl (cI, 3, .inl (fun _ => 0))), (q_5, .inl (cI, 12, .inl (fun _ => 0))), (q_6, .inl (cI, 12, .inl (fun _ => 0))), (q_7, .inl (cI, 40, .inl (fun _ => 0))), (q_8, .inl (cI, 8, .inl (fun _ => 0))), (q_9, .inl (cI, 8, .inl (fun _ => 0))), (q_10, .inl (cI, 6, .inl (fun _ => 0)))] H := hP
  have hD : va_D (va_A (w_init7 cI cZ cP h0) sz) [(h0, .inr (7, [.ref q_1, .ref q_2, .ref q_3, .ref q_4, .long 0, .long 1, .int 0, .int 0, .int 0, .int 0, .ref q_5, .ref q_6, .int 0, .ref q_7, .ref q_8, .ref q_9, .ref q_10, .null, .int 0, .null, .null, .int 0, .int 0, .int 0, .int 0, .int 0, .null, .null])), (q_1, .inl (cI, 221, .inl (fun _ => 0))), (q_2, .inl (cI, 442, .inl (fun _ => 0))), (q_3, .inl (cZ, 2, .inl (fun _ => 0))), (q_4, .inl (cI, 3, .inl (fun _ => 0))), (q_5, .inl (cI, 12, .inl (fun _ => 0))), (q_6, .inl (cI, 12, .inl (fun _ => 0))), (q_7, .inl (cI, 40, .inl (fun _ => 0))), (q_8, .inl (cI, 8, .inl (fun _ => 0))), (q_9, .inl (cI, 8, .inl (fun _ => 0))), (q_10, .inl (cI, 6, .inl (fun _ => 0)))] := hD
  refine lv_aload_n hx hb dX7_init_89 rfl (lv_at hl 0 rfl) ?_
  refine lv_bipush (v := 6) hx hb dX7_init_90 (by decide) ?_
  refine q_newI (N := 6) hx hb (ht _ (mem_tb 201 rfl rfl)) hK hP hD hS hA (by decide) (by decide) (Nat.le_of_ble_eq_true rfl) (Nat.le_of_ble_eq_true rfl) (Nat.le_of_ble_eq_true rfl) dX7_init_92 (fun q_11 H hP hD hS => ?_)
  have hP : va_P D vwCl [(h0, .inr (7, [.ref q_1, .ref q_2, .ref q_3, .ref q_4, .long 0, .long 1, .int 0, .int 0, .int 0, .int 0, .ref q_5, .ref q_6, .int 0, .ref q_7, .ref q_8, .ref q_9, .ref q_10, .null, .int 0, .null, .null, .int 0, .int 0, .int 0, .int 0, .int 0, .null, .null])), (q_1, .inl (cI, 221, .inl (fun _ => 0))), (q_2, .inl (cI, 442, .inl (fun _ => 0))), (q_3, .inl (cZ, 2, .inl (fun _ => 0))), (q_4, .inl (cI, 3, .inl (fun _ => 0))), (q_5, .inl (cI, 12, .inl (fun _ => 0))), (q_6, .inl (cI, 12, .inl (fun _ => 0))), (q_7, .inl (cI, 40, .inl (fun _ => 0))), (q_8, .inl (cI, 8, .inl (fun _ => 0))), (q_9, .inl (cI, 8, .inl (fun _ => 0))), (q_10, .inl (cI, 6, .inl (fun _ => 0))), (q_11, .inl (cI, 6, .inl (fun _ => 0)))] H := hP
  have hD : va_D (va_A (w_init7 cI cZ cP h0) sz) [(h0, .inr (7, [.ref q_1, .ref q_2, .ref q_3, .ref q_4, .long 0, .long 1, .int 0, .int 0, .int 0, .int 0, .ref q_5, .ref q_6, .int 0, .ref q_7, .ref q_8, .ref q_9, .ref q_10, .null, .int 0, .null, .null, .int 0, .int 0, .int 0, .int 0, .int 0, .null, .null])), (q_1, .inl (cI, 221, .inl (fun _ => 0))), (q_2, .inl (cI, 442, .inl (fun _ => 0))), (q_3, .inl (cZ, 2, .inl (fun _ => 0))), (q_4, .inl (cI, 3, .inl (fun _ => 0))), (q_5, .inl (cI, 12, .inl (fun _ => 0))), (q_6, .inl (cI, 12, .inl (fun _ => 0))), (q_7, .inl (cI, 40, .inl (fun _ => 0))), (q_8, .inl (cI, 8, .inl (fun _ => 0))), (q_9, .inl (cI, 8, .inl (fun _ => 0))), (q_10, .inl (cI, 6, .inl (fun _ => 0))), (q_11, .inl (cI, 6, .inl (fun _ => 0)))] := hD
  refine W.widen (k := 11) (n := 760) (Nat.le_of_ble_eq_true rfl) (Nat.le_of_ble_eq_true rfl) ?_
  refine va_putF (D := D) (ci := 7) (v := .ref q_11) (ty := (.array .int)) (C := RX7) (T := TX7) (N := 28) hx hb ht inX7 tyX7 tyX7_ok nmX7 hown hK hP hD hS 0 rfl rfl 17 (Nat.le_of_ble_eq_true rfl) (ht _ kw_921) (fun _ h9 => h9) rfl hnm rfl (by decide +kernel) rfl rfl (Nat.le_of_ble_eq_true rfl) dX7_init_94 (fun H locs hP hD hS => ?_)
  have hP : va_P D vwCl [(h0, .inr (7, [.ref q_1, .ref q_2, .ref q_3, .ref q_4, .long 0, .long 1, .int 0, .int 0, .int 0, .int 0, .ref q_5, .ref q_6, .int 0, .ref q_7, .ref q_8, .ref q_9, .ref q_10, .ref q_11, .int 0, .null, .null, .int 0, .int 0, .int 0, .int 0, .int 0, .null, .null])), (q_1, .inl (cI, 221, .inl (fun _ => 0))), (q_2, .inl (cI, 442, .inl (fun _ => 0))), (q_3, .inl (cZ, 2, .inl (fun _ => 0))), (q_4, .inl (cI, 3, .inl (fun _ => 0))), (q_5, .inl (cI, 12, .inl (fun _ => 0))), (q_6, .inl (cI, 12, .inl (fun _ => 0))), (q_7, .inl (cI, 40, .inl (fun _ => 0))), (q_8, .inl (cI, 8, .inl (fun _ => 0))), (q_9, .inl (cI, 8, .inl (fun _ => 0))), (q_10, .inl (cI, 6, .inl (fun _ => 0))), (q_11, .inl (cI, 6, .inl (fun _ => 0)))] H := hP
  have hD : va_D (va_A (w_init7 cI cZ cP h0) sz) [(h0, .inr (7, [.ref q_1, .ref q_2, .ref q_3, .ref q_4, .long 0, .long 1, .int 0, .int 0, .int 0, .int 0, .ref q_5, .ref q_6, .int 0, .ref q_7, .ref q_8, .ref q_9, .ref q_10, .ref q_11, .int 0, .null, .null, .int 0, .int 0, .int 0, .int 0, .int 0, .null, .null])), (q_1, .inl (cI, 221, .inl (fun _ => 0))), (q_2, .inl (cI, 442, .inl (fun _ => 0))), (q_3, .inl (cZ, 2, .inl (fun _ => 0))), (q_4, .inl (cI, 3, .inl (fun _ => 0))), (q_5, .inl (cI, 12, .inl (fun _ => 0))), (q_6, .inl (cI, 12, .inl (fun _ => 0))), (q_7, .inl (cI, 40, .inl (fun _ => 0))), (q_8, .inl (cI, 8, .inl (fun _ => 0))), (q_9, .inl (cI, 8, .inl (fun _ => 0))), (q_10, .inl (cI, 6, .inl (fun _ => 0))), (q_11, .inl (cI, 6, .inl (fun _ => 0)))] := hD
  refine lv_aload_n hx hb dX7_init_97 rfl (lv_at hl 0 rfl) ?_
  refine lv_bipush (v := 12) hx hb dX7_init_98 (by decide) ?_
  refine q_newI (N := 12) hx hb (ht _ (mem_tb 201 rfl rfl)) hK hP hD hS hA (by decide) (by decide) (Nat.le_of_ble_eq_true rfl) (Nat.le_of_ble_eq_true rfl) (Nat.le_of_ble_eq_true rfl) dX7_init_100 (fun q_12 H hP hD hS => ?_)
  have hP : va_P D vwCl [(h0, .inr (7, [.ref q_1, .ref q_2, .ref q_3, .ref q_4, .long 0, .long 1, .int 0, .int 0, .int 0, .int 0, .ref q_5, .ref q_6, .int 0, .ref q_7, .ref q_8, .ref q_9, .ref q_10, .ref q_11, .int 0, .null, .null, .int 0, .int 0, .int 0, .int 0, .int 0, .null, .null])), (q_1, .inl (cI, 221, .inl (fun _ => 0))), (q_2, .inl (cI, 442, .inl (fun _ => 0))), (q_3, .inl (cZ, 2, .inl (fun _ => 0))), (q_4, .inl (cI, 3, .inl (fun _ => 0))), (q_5, .inl (cI, 12, .inl (fun _ => 0))), (q_6, .inl (cI, 12, .inl (fun _ => 0))), (q_7, .inl (cI, 40, .inl (fun _ => 0))), (q_8, .inl (cI, 8, .inl (fun _ => 0))), (q_9, .inl (cI, 8, .inl (fun _ => 0))), (q_10, .inl (cI, 6, .inl (fun _ => 0))), (q_11, .inl (cI, 6, .inl (fun _ => 0))), (q_12, .inl (cI, 12, .inl (fun _ => 0)))] H := hP
  have hD : va_D (va_A (w_init7 cI cZ cP h0) sz) [(h0, .inr (7, [.ref q_1, .ref q_2, .ref q_3, .ref q_4, .long 0, .long 1, .int 0, .int 0, .int 0, .int 0, .ref q_5, .ref q_6, .int 0, .ref q_7, .ref q_8, .ref q_9, .ref q_10, .ref q_11, .int 0, .null, .null, .int 0, .int 0, .int 0, .int 0, .int 0, .null, .null])), (q_1, .inl (cI, 221, .inl (fun _ => 0))), (q_2, .inl (cI, 442, .inl (fun _ => 0))), (q_3, .inl (cZ, 2, .inl (fun _ => 0))), (q_4, .inl (cI, 3, .inl (fun _ => 0))), (q_5, .inl (cI, 12, .inl (fun _ => 0))), (q_6, .inl (cI, 12, .inl (fun _ => 0))), (q_7, .inl (cI, 40, .inl (fun _ => 0))), (q_8, .inl (cI, 8, .inl (fun _ => 0))), (q_9, .inl (cI, 8, .inl (fun _ => 0))), (q_10, .inl (cI, 6, .inl (fun _ => 0))), (q_11, .inl (cI, 6, .inl (fun _ => 0))), (q_12, .inl (cI, 12, .inl (fun _ => 0)))] := hD
  refine W.widen (k := 12) (n := 772) (Nat.le_of_ble_eq_true rfl) (Nat.le_of_ble_eq_true rfl) ?_
  refine va_putF (D := D) (ci := 7) (v := .ref q_12) (ty := (.array .int)) (C := RX7) (T := TX7) (N := 28) hx hb ht inX7 tyX7 tyX7_ok nmX7 hown hK hP hD hS 0 rfl rfl 19 (Nat.le_of_ble_eq_true rfl) (ht _ kw_923) (fun _ h9 => h9) rfl hnm rfl (by decide +kernel) rfl rfl (Nat.le_of_ble_eq_true rfl) dX7_init_102 (fun H locs hP hD hS => ?_)
  have hP : va_P D vwCl [(h0, .inr (7, [.ref q_1, .ref q_2, .ref q_3, .ref q_4, .long 0, .long 1, .int 0, .int 0, .int 0, .int 0, .ref q_5, .ref q_6, .int 0, .ref q_7, .ref q_8, .ref q_9, .ref q_10, .ref q_11, .int 0, .ref q_12, .null, .int 0, .int 0, .int 0, .int 0, .int 0, .null, .null])), (q_1, .inl (cI, 221, .inl (fun _ => 0))), (q_2, .inl (cI, 442, .inl (fun _ => 0))), (q_3, .inl (cZ, 2, .inl (fun _ => 0))), (q_4, .inl (cI, 3, .inl (fun _ => 0))), (q_5, .inl (cI, 12, .inl (fun _ => 0))), (q_6, .inl (cI, 12, .inl (fun _ => 0))), (q_7, .inl (cI, 40, .inl (fun _ => 0))), (q_8, .inl (cI, 8, .inl (fun _ => 0))), (q_9, .inl (cI, 8, .inl (fun _ => 0))), (q_10, .inl (cI, 6, .inl (fun _ => 0))), (q_11, .inl (cI, 6, .inl (fun _ => 0))), (q_12, .inl (cI, 12, .inl (fun _ => 0)))] H := hP
  have hD : va_D (va_A (w_init7 cI cZ cP h0) sz) [(h0, .inr (7, [.ref q_1, .ref q_2, .ref q_3, .ref q_4, .long 0, .long 1, .int 0, .int 0, .int 0, .int 0, .ref q_5, .ref q_6, .int 0, .ref q_7, .ref q_8, .ref q_9, .ref q_10, .ref q_11, .int 0, .ref q_12, .null, .int 0, .int 0, .int 0, .int 0, .int 0, .null, .null])), (q_1, .inl (cI, 221, .inl (fun _ => 0))), (q_2, .inl (cI, 442, .inl (fun _ => 0))), (q_3, .inl (cZ, 2, .inl (fun _ => 0))), (q_4, .inl (cI, 3, .inl (fun _ => 0))), (q_5, .inl (cI, 12, .inl (fun _ => 0))), (q_6, .inl (cI, 12, .inl (fun _ => 0))), (q_7, .inl (cI, 40, .inl (fun _ => 0))), (q_8, .inl (cI, 8, .inl (fun _ => 0))), (q_9, .inl (cI, 8, .inl (fun _ => 0))), (q_10, .inl (cI, 6, .inl (fun _ => 0))), (q_11, .inl (cI, 6, .inl (fun _ => 0))), (q_12, .inl (cI, 12, .inl (fun _ => 0)))] := hD
  refine lv_aload_n hx hb dX7_init_105 rfl (lv_at hl 0 rfl) ?_
  refine lv_sipush (v := 150) hx hb dX7_init_106 (by decide) ?_
  refine q_newI (N := 150) hx hb (ht _ (mem_tb 201 rfl rfl)) hK hP hD hS hA (by decide) (by decide) (Nat.le_of_ble_eq_true rfl) (Nat.le_of_ble_eq_true rfl) (Nat.le_of_ble_eq_true rfl) dX7_init_109 (fun q_13 H hP hD hS => ?_)
  have hP : va_P D vwCl [(h0, .inr (7, [.ref q_1, .ref q_2, .ref q_3, .ref q_4, .long 0, .long 1, .int 0, .int 0, .int 0, .int 0, .ref q_5, .ref q_6, .int 0, .ref q_7, .ref q_8, .ref q_9, .ref q_10, .ref q_11, .int 0, .ref q_12, .null, .int 0, .int 0, .int 0, .int 0, .int 0, .null, .null])), (q_1, .inl (cI, 221, .inl (fun _ => 0))), (q_2, .inl (cI, 442, .inl (fun _ => 0))), (q_3, .inl (cZ, 2, .inl (fun _ => 0))), (q_4, .inl (cI, 3, .inl (fun _ => 0))), (q_5, .inl (cI, 12, .inl (fun _ => 0))), (q_6, .inl (cI, 12, .inl (fun _ => 0))), (q_7, .inl (cI, 40, .inl (fun _ => 0))), (q_8, .inl (cI, 8, .inl (fun _ => 0))), (q_9, .inl (cI, 8, .inl (fun _ => 0))), (q_10, .inl (cI, 6, .inl (fun _ => 0))), (q_11, .inl (cI, 6, .inl (fun _ => 0))), (q_12, .inl (cI, 12, .inl (fun _ => 0))), (q_13, .inl (cI, 150, .inl (fun _ => 0)))] H := hP
  have hD : va_D (va_A (w_init7 cI cZ cP h0) sz) [(h0, .inr (7, [.ref q_1, .ref q_2, .ref q_3, .ref q_4, .long 0, .long 1, .int 0, .int 0, .int 0, .int 0, .ref q_5, .ref q_6, .int 0, .ref q_7, .ref q_8, .ref q_9, .ref q_10, .ref q_11, .int 0, .ref q_12, .null, .int 0, .int 0, .int 0, .int 0, .int 0, .null, .null])), (q_1, .inl (cI, 221, .inl (fun _ => 0))), (q_2, .inl (cI, 442, .inl (fun _ => 0))), (q_3, .inl (cZ, 2, .inl (fun _ => 0))), (q_4, .inl (cI, 3, .inl (fun _ => 0))), (q_5, .inl (cI, 12, .inl (fun _ => 0))), (q_6, .inl (cI, 12, .inl (fun _ => 0))), (q_7, .inl (cI, 40, .inl (fun _ => 0))), (q_8, .inl (cI, 8, .inl (fun _ => 0))), (q_9, .inl (cI, 8, .inl (fun _ => 0))), (q_10, .inl (cI, 6, .inl (fun _ => 0))), (q_11, .inl (cI, 6, .inl (fun _ => 0))), (q_12, .inl (cI, 12, .inl (fun _ => 0))), (q_13, .inl (cI, 150, .inl (fun _ => 0)))] := hD
  refine W.widen (k := 13) (n := 922) (Nat.le_of_ble_eq_true rfl) (Nat.le_of_ble_eq_true rfl) ?_
  refine va_putF (D := D) (ci := 7) (v := .ref q_13) (ty := (.array .int)) (C := RX7) (T := TX7) (N := 28) hx hb ht inX7 tyX7 tyX7_ok nmX7 hown hK hP hD hS 0 rfl rfl 20 (Nat.le_of_ble_eq_true rfl) (ht _ kw_924) (fun _ h9 => h9) rfl hnm rfl (by decide +kernel) rfl rfl (Nat.le_of_ble_eq_true rfl) dX7_init_111 (fun H locs hP hD hS => ?_)
  have hP : va_P D vwCl [(h0, .inr (7, [.ref q_1, .ref q_2, .ref q_3, .ref q_4, .long 0, .long 1, .int 0, .int 0, .int 0, .int 0, .ref q_5, .ref q_6, .int 0, .ref q_7, .ref q_8, .ref q_9, .ref q_10, .ref q_11, .int 0, .ref q_12, .ref q_13, .int 0, .int 0, .int 0, .int 0, .int 0, .null, .null])), (q_1, .inl (cI, 221, .inl (fun _ => 0))), (q_2, .inl (cI, 442, .inl (fun _ => 0))), (q_3, .inl (cZ, 2, .inl (fun _ => 0))), (q_4, .inl (cI, 3, .inl (fun _ => 0))), (q_5, .inl (cI, 12, .inl (fun _ => 0))), (q_6, .inl (cI, 12, .inl (fun _ => 0))), (q_7, .inl (cI, 40, .inl (fun _ => 0))), (q_8, .inl (cI, 8, .inl (fun _ => 0))), (q_9, .inl (cI, 8, .inl (fun _ => 0))), (q_10, .inl (cI, 6, .inl (fun _ => 0))), (q_11, .inl (cI, 6, .inl (fun _ => 0))), (q_12, .inl (cI, 12, .inl (fun _ => 0))), (q_13, .inl (cI, 150, .inl (fun _ => 0)))] H := hP
  have hD : va_D (va_A (w_init7 cI cZ cP h0) sz) [(h0, .inr (7, [.ref q_1, .ref q_2, .ref q_3, .ref q_4, .long 0, .long 1, .int 0, .int 0, .int 0, .int 0, .ref q_5, .ref q_6, .int 0, .ref q_7, .ref q_8, .ref q_9, .ref q_10, .ref q_11, .int 0, .ref q_12, .ref q_13, .int 0, .int 0, .int 0, .int 0, .int 0, .null, .null])), (q_1, .inl (cI, 221, .inl (fun _ => 0))), (q_2, .inl (cI, 442, .inl (fun _ => 0))), (q_3, .inl (cZ, 2, .inl (fun _ => 0))), (q_4, .inl (cI, 3, .inl (fun _ => 0))), (q_5, .inl (cI, 12, .inl (fun _ => 0))), (q_6, .inl (cI, 12, .inl (fun _ => 0))), (q_7, .inl (cI, 40, .inl (fun _ => 0))), (q_8, .inl (cI, 8, .inl (fun _ => 0))), (q_9, .inl (cI, 8, .inl (fun _ => 0))), (q_10, .inl (cI, 6, .inl (fun _ => 0))), (q_11, .inl (cI, 6, .inl (fun _ => 0))), (q_12, .inl (cI, 12, .inl (fun _ => 0))), (q_13, .inl (cI, 150, .inl (fun _ => 0)))] := hD
  refine lv_aload_n hx hb dX7_init_114 rfl (lv_at hl 0 rfl) ?_
  refine lv_bipush (v := 101) hx hb dX7_init_115 (by decide) ?_
  refine q_newI (N := 101) hx hb (ht _ (mem_tb 201 rfl rfl)) hK hP hD hS hA (by decide) (by decide) (Nat.le_of_ble_eq_true rfl) (Nat.le_of_ble_eq_true rfl) (Nat.le_of_ble_eq_true rfl) dX7_init_117 (fun q_14 H hP hD hS => ?_)
  have hP : va_P D vwCl [(h0, .inr (7, [.ref q_1, .ref q_2, .ref q_3, .ref q_4, .long 0, .long 1, .int 0, .int 0, .int 0, .int 0, .ref q_5, .ref q_6, .int 0, .ref q_7, .ref q_8, .ref q_9, .ref q_10, .ref q_11, .int 0, .ref q_12, .ref q_13, .int 0, .int 0, .int 0, .int 0, .int 0, .null, .null])), (q_1, .inl (cI, 221, .inl (fun _ => 0))), (q_2, .inl (cI, 442, .inl (fun _ => 0))), (q_3, .inl (cZ, 2, .inl (fun _ => 0))), (q_4, .inl (cI, 3, .inl (fun _ => 0))), (q_5, .inl (cI, 12, .inl (fun _ => 0))), (q_6, .inl (cI, 12, .inl (fun _ => 0))), (q_7, .inl (cI, 40, .inl (fun _ => 0))), (q_8, .inl (cI, 8, .inl (fun _ => 0))), (q_9, .inl (cI, 8, .inl (fun _ => 0))), (q_10, .inl (cI, 6, .inl (fun _ => 0))), (q_11, .inl (cI, 6, .inl (fun _ => 0))), (q_12, .inl (cI, 12, .inl (fun _ => 0))), (q_13, .inl (cI, 150, .inl (fun _ => 0))), (q_14, .inl (cI, 101, .inl (fun _ => 0)))] H := hP
  have hD : va_D (va_A (w_init7 cI cZ cP h0) sz) [(h0, .inr (7, [.ref q_1, .ref q_2, .ref q_3, .ref q_4, .long 0, .long 1, .int 0, .int 0, .int 0, .int 0, .ref q_5, .ref q_6, .int 0, .ref q_7, .ref q_8, .ref q_9, .ref q_10, .ref q_11, .int 0, .ref q_12, .ref q_13, .int 0, .int 0, .int 0, .int 0, .int 0, .null, .null])), (q_1, .inl (cI, 221, .inl (fun _ => 0))), (q_2, .inl (cI, 442, .inl (fun _ => 0))), (q_3, .inl (cZ, 2, .inl (fun _ => 0))), (q_4, .inl (cI, 3, .inl (fun _ => 0))), (q_5, .inl (cI, 12, .inl (fun _ => 0))), (q_6, .inl (cI, 12, .inl (fun _ => 0))), (q_7, .inl (cI, 40, .inl (fun _ => 0))), (q_8, .inl (cI, 8, .inl (fun _ => 0))), (q_9, .inl (cI, 8, .inl (fun _ => 0))), (q_10, .inl (cI, 6, .inl (fun _ => 0))), (q_11, .inl (cI, 6, .inl (fun _ => 0))), (q_12, .inl (cI, 12, .inl (fun _ => 0))), (q_13, .inl (cI, 150, .inl (fun _ => 0))), (q_14, .inl (cI, 101, .inl (fun _ => 0)))] := hD
  refine W.widen (k := 14) (n := 1023) (Nat.le_of_ble_eq_true rfl) (Nat.le_of_ble_eq_true rfl) ?_
  refine va_putF (D := D) (ci := 7) (v := .ref q_14) (ty := (.array .int)) (C := RX7) (T := TX7) (N := 28) hx hb ht inX7 tyX7 tyX7_ok nmX7 hown hK hP hD hS 0 rfl rfl 26 (Nat.le_of_ble_eq_true rfl) (ht _ kw_930) (fun _ h9 => h9) rfl hnm rfl (by decide +kernel) rfl rfl (Nat.le_of_ble_eq_true rfl) dX7_init_119 (fun H locs hP hD hS => ?_)
  have hP : va_P D vwCl [(h0, .inr (7, [.ref q_1, .ref q_2, .ref q_3, .ref q_4, .long 0, .long 1, .int 0, .int 0, .int 0, .int 0, .ref q_5, .ref q_6, .int 0, .ref q_7, .ref q_8, .ref q_9, .ref q_10, .ref q_11, .int 0, .ref q_12, .ref q_13, .int 0, .int 0, .int 0, .int 0, .int 0, .ref q_14, .null])), (q_1, .inl (cI, 221, .inl (fun _ => 0))), (q_2, .inl (cI, 442, .inl (fun _ => 0))), (q_3, .inl (cZ, 2, .inl (fun _ => 0))), (q_4, .inl (cI, 3, .inl (fun _ => 0))), (q_5, .inl (cI, 12, .inl (fun _ => 0))), (q_6, .inl (cI, 12, .inl (fun _ => 0))), (q_7, .inl (cI, 40, .inl (fun _ => 0))), (q_8, .inl (cI, 8, .inl (fun _ => 0))), (q_9, .inl (cI, 8, .inl (fun _ => 0))), (q_10, .inl (cI, 6, .inl (fun _ => 0))), (q_11, .inl (cI, 6, .inl (fun _ => 0))), (q_12, .inl (cI, 12, .inl (fun _ => 0))), (q_13, .inl (cI, 150, .inl (fun _ => 0))), (q_14, .inl (cI, 101, .inl (fun _ => 0)))] H := hP
  have hD : va_D (va_A (w_init7 cI cZ cP h0) sz) [(h0, .inr (7, [.ref q_1, .ref q_2, .ref q_3, .ref q_4, .long 0, .long 1, .int 0, .int 0, .int 0, .int 0, .ref q_5, .ref q_6, .int 0, .ref q_7, .ref q_8, .ref q_9, .ref q_10, .ref q_11, .int 0, .ref q_12, .ref q_13, .int 0, .int 0, .int 0, .int 0, .int 0, .ref q_14, .null])), (q_1, .inl (cI, 221, .inl (fun _ => 0))), (q_2, .inl (cI, 442, .inl (fun _ => 0))), (q_3, .inl (cZ, 2, .inl (fun _ => 0))), (q_4, .inl (cI, 3, .inl (fun _ => 0))), (q_5, .inl (cI, 12, .inl (fun _ => 0))), (q_6, .inl (cI, 12, .inl (fun _ => 0))), (q_7, .inl (cI, 40, .inl (fun _ => 0))), (q_8, .inl (cI, 8, .inl (fun _ => 0))), (q_9, .inl (cI, 8, .inl (fun _ => 0))), (q_10, .inl (cI, 6, .inl (fun _ => 0))), (q_11, .inl (cI, 6, .inl (fun _ => 0))), (q_12, .inl (cI, 12, .inl (fun _ => 0))), (q_13, .inl (cI, 150, .inl (fun _ => 0))), (q_14, .inl (cI, 101, .inl (fun _ => 0)))] := hD
  refine lv_aload_n hx hb dX7_init_122 rfl (lv_at hl 0 rfl) ?_
  refine lv_bipush (v := 6) hx hb dX7_init_123 (by decide) ?_
  refine q_newI (N := 6) hx hb (ht _ (mem_tb 201 rfl rfl)) hK hP hD hS hA (by decide) (by decide) (Nat.le_of_ble_eq_true rfl) (Nat.le_of_ble_eq_true rfl) (Nat.le_of_ble_eq_true rfl) dX7_init_125 (fun q_15 H hP hD hS => ?_)
  have hP : va_P D vwCl [(h0, .inr (7, [.ref q_1, .ref q_2, .ref q_3, .ref q_4, .long 0, .long 1, .int 0, .int 0, .int 0, .int 0, .ref q_5, .ref q_6, .int 0, .ref q_7, .ref q_8, .ref q_9, .ref q_10, .ref q_11, .int 0, .ref q_12, .ref q_13, .int 0, .int 0, .int 0, .int 0, .int 0, .ref q_14, .null])), (q_1, .inl (cI, 221, .inl (fun _ => 0))), (q_2, .inl (cI, 442, .inl (fun _ => 0))), (q_3, .inl (cZ, 2, .inl (fun _ => 0))), (q_4, .inl (cI, 3, .inl (fun _ => 0))), (q_5, .inl (cI, 12, .inl (fun _ => 0))), (q_6, .inl (cI, 12, .inl (fun _ => 0))), (q_7, .inl (cI, 40, .inl (fun _ => 0))), (q_8, .inl (cI, 8, .inl (fun _ => 0))), (q_9, .inl (cI, 8, .inl (fun _ => 0))), (q_10, .inl (cI, 6, .inl (fun _ => 0))), (q_11, .inl (cI, 6, .inl (fun _ => 0))), (q_12, .inl (cI, 12, .inl (fun _ => 0))), (q_13, .inl (cI, 150, .inl (fun _ => 0))), (q_14, .inl (cI, 101, .inl (fun _ => 0))), (q_15, .inl (cI, 6, .inl (fun _ => 0)))] H := hP
  have hD : va_D (va_A (w_init7 cI cZ cP h0) sz) [(h0, .inr (7, [.ref q_1, .ref q_2, .ref q_3, .ref q_4, .long 0, .long 1, .int 0, .int 0, .int 0, .int 0, .ref q_5, .ref q_6, .int 0, .ref q_7, .ref q_8, .ref q_9, .ref q_10, .ref q_11, .int 0, .ref q_12, .ref q_13, .int 0, .int 0, .int 0, .int 0, .int 0, .ref q_14, .null])), (q_1, .inl (cI, 221, .inl (fun _ => 0))), (q_2, .inl (cI, 442, .inl (fun _ => 0))), (q_3, .inl (cZ, 2, .inl (fun _ => 0))), (q_4, .inl (cI, 3, .inl (fun _ => 0))), (q_5, .inl (cI, 12, .inl (fun _ => 0))), (q_6, .inl (cI, 12, .inl (fun _ => 0))), (q_7, .inl (cI, 40, .inl (fun _ => 0))), (q_8, .inl (cI, 8, .inl (fun _ => 0))), (q_9, .inl (cI, 8, .inl (fun _ => 0))), (q_10, .inl (cI, 6, .inl (fun _ => 0))), (q_11, .inl (cI, 6, .inl (fun _ => 0))), (q_12, .inl (cI, 12, .inl (fun _ => 0))), (q_13, .inl (cI, 150, .inl (fun _ => 0))), (q_14, .inl (cI, 101, .inl (fun _ => 0))), (q_15, .inl (cI, 6, .inl (fun _ => 0)))] := hD
  refine W.widen (k := 15) (n := 1029) (Nat.le_of_ble_eq_true rfl) (Nat.le_of_ble_eq_true rfl) ?_
  refine va_putF (D := D) (ci := 7) (v := .ref q_15) (ty := (.array .int)) (C := RX7) (T := TX7) (N := 28) hx hb ht inX7 tyX7 tyX7_ok nmX7 hown hK hP hD hS 0 rfl rfl 27 (Nat.le_of_ble_eq_true rfl) (ht _ kw_931) (fun _ h9 => h9) rfl hnm rfl (by decide +kernel) rfl rfl (Nat.le_of_ble_eq_true rfl) dX7_init_127 (fun H locs hP hD hS => ?_)
  have hP : va_P D vwCl [(h0, .inr (7, [.ref q_1, .ref q_2, .ref q_3, .ref q_4, .long 0, .long 1, .int 0, .int 0, .int 0, .int 0, .ref q_5, .ref q_6, .int 0, .ref q_7, .ref q_8, .ref q_9, .ref q_10, .ref q_11, .int 0, .ref q_12, .ref q_13, .int 0, .int 0, .int 0, .int 0, .int 0, .ref q_14, .ref q_15])), (q_1, .inl (cI, 221, .inl (fun _ => 0))), (q_2, .inl (cI, 442, .inl (fun _ => 0))), (q_3, .inl (cZ, 2, .inl (fun _ => 0))), (q_4, .inl (cI, 3, .inl (fun _ => 0))), (q_5, .inl (cI, 12, .inl (fun _ => 0))), (q_6, .inl (cI, 12, .inl (fun _ => 0))), (q_7, .inl (cI, 40, .inl (fun _ => 0))), (q_8, .inl (cI, 8, .inl (fun _ => 0))), (q_9, .inl (cI, 8, .inl (fun _ => 0))), (q_10, .inl (cI, 6, .inl (fun _ => 0))), (q_11, .inl (cI, 6, .inl (fun _ => 0))), (q_12, .inl (cI, 12, .inl (fun _ => 0))), (q_13, .inl (cI, 150, .inl (fun _ => 0))), (q_14, .inl (cI, 101, .inl (fun _ => 0))), (q_15, .inl (cI, 6, .inl (fun _ => 0)))] H := hP
  have hD : va_D (va_A (w_init7 cI cZ cP h0) sz) [(h0, .inr (7, [.ref q_1, .ref q_2, .ref q_3, .ref q_4, .long 0, .long 1, .int 0, .int 0, .int 0, .int 0, .ref q_5, .ref q_6, .int 0, .ref q_7, .ref q_8, .ref q_9, .ref q_10, .ref q_11, .int 0, .ref q_12, .ref q_13, .int 0, .int 0, .int 0, .int 0, .int 0, .ref q_14, .ref q_15])), (q_1, .inl (cI, 221, .inl (fun _ => 0))), (q_2, .inl (cI, 442, .inl (fun _ => 0))), (q_3, .inl (cZ, 2, .inl (fun _ => 0))), (q_4, .inl (cI, 3, .inl (fun _ => 0))), (q_5, .inl (cI, 12, .inl (fun _ => 0))), (q_6, .inl (cI, 12, .inl (fun _ => 0))), (q_7, .inl (cI, 40, .inl (fun _ => 0))), (q_8, .inl (cI, 8, .inl (fun _ => 0))), (q_9, .inl (cI, 8, .inl (fun _ => 0))), (q_10, .inl (cI, 6, .inl (fun _ => 0))), (q_11, .inl (cI, 6, .inl (fun _ => 0))), (q_12, .inl (cI, 12, .inl (fun _ => 0))), (q_13, .inl (cI, 150, .inl (fun _ => 0))), (q_14, .inl (cI, 101, .inl (fun _ => 0))), (q_15, .inl (cI, 6, .inl (fun _ => 0)))] := hD
  refine lv_aload_n hx hb dX7_init_130 rfl (lv_at hl 0 rfl) ?_
  refine va_get (D := D) (ci := 7) (v := .ref q_1) (C := RX7) (T := TX7) (N := 28) hx hb ht inX7 hown hK hP 0 rfl rfl 0 (Nat.le_of_ble_eq_true rfl) (ht _ kw_904) (fun _ h9 => h9) rfl dX7_init_131 ?_
  refine lv_iconst (v := 2) hx hb dX7_init_134 (by decide) ?_
  refine q_Sv (wr := [(h0, .inr (7, [.ref q_1, .ref q_2, .ref q_3, .ref q_4, .long 0, .long 1, .int 0, .int 0, .int 0, .int 0, .ref q_5, .ref q_6, .int 0, .ref q_7, .ref q_8, .ref q_9, .ref q_10, .ref q_11, .int 0, .ref q_12, .ref q_13, .int 0, .int 0, .int 0, .int 0, .int 0, .ref q_14, .ref q_15])), (q_2, .inl (cI, 442, .inl (fun _ => 0))), (q_3, .inl (cZ, 2, .inl (fun _ => 0))), (q_4, .inl (cI, 3, .inl (fun _ => 0))), (q_5, .inl (cI, 12, .inl (fun _ => 0))), (q_6, .inl (cI, 12, .inl (fun _ => 0))), (q_7, .inl (cI, 40, .inl (fun _ => 0))), (q_8, .inl (cI, 8, .inl (fun _ => 0))), (q_9, .inl (cI, 8, .inl (fun _ => 0))), (q_10, .inl (cI, 6, .inl (fun _ => 0))), (q_11, .inl (cI, 6, .inl (fun _ => 0))), (q_12, .inl (cI, 12, .inl (fun _ => 0))), (q_13, .inl (cI, 150, .inl (fun _ => 0))), (q_14, .inl (cI, 101, .inl (fun _ => 0))), (q_15, .inl (cI, 6, .inl (fun _ => 0)))]) [1] [0, 2, 3, 4, 5, 6, 7, 8, 9, 10, 11, 12, 13, 14, 15] hX hE hK hP hD hS hA hl.1 lk_X7_60 (c_m_begin0 l D cI cZ cP sa q_1 _) rfl rfl rfl rfl (by decide) rfl rfl (Nat.le_of_ble_eq_true rfl) rfl rfl ⟨Nat.le_of_ble_eq_true rfl, Nat.le_of_ble_eq_true rfl⟩ ⟨Nat.le_of_ble_eq_true rfl, Nat.le_of_ble_eq_true rfl⟩ dX7_init_135 (fun _ H locs h_16 hP hD hS => ?_)
  have hP : va_P D vwCl [(h0, .inr (7, [.ref q_1, .ref q_2, .ref q_3, .ref q_4, .long 0, .long 1, .int 0, .int 0, .int 0, .int 0, .ref q_5, .ref q_6, .int 0, .ref q_7, .ref q_8, .ref q_9, .ref q_10, .ref q_11, .int 0, .ref q_12, .ref q_13, .int 0, .int 0, .int 0, .int 0, .int 0, .ref q_14, .ref q_15])), (q_2, .inl (cI, 442, .inl (fun _ => 0))), (q_3, .inl (cZ, 2, .inl (fun _ => 0))), (q_4, .inl (cI, 3, .inl (fun _ => 0))), (q_5, .inl (cI, 12, .inl (fun _ => 0))), (q_6, .inl (cI, 12, .inl (fun _ => 0))), (q_7, .inl (cI, 40, .inl (fun _ => 0))), (q_8, .inl (cI, 8, .inl (fun _ => 0))), (q_9, .inl (cI, 8, .inl (fun _ => 0))), (q_10, .inl (cI, 6, .inl (fun _ => 0))), (q_11, .inl (cI, 6, .inl (fun _ => 0))), (q_12, .inl (cI, 12, .inl (fun _ => 0))), (q_13, .inl (cI, 150, .inl (fun _ => 0))), (q_14, .inl (cI, 101, .inl (fun _ => 0))), (q_15, .inl (cI, 6, .inl (fun _ => 0))), (q_1, .inl (cI, 221, .inl nw0))] H := hP
  have hD : va_D (va_A (w_init7 cI cZ cP h0) sz) [(h0, .inr (7, [.ref q_1, .ref q_2, .ref q_3, .ref q_4, .long 0, .long 1, .int 0, .int 0, .int 0, .int 0, .ref q_5, .ref q_6, .int 0, .ref q_7, .ref q_8, .ref q_9, .ref q_10, .ref q_11, .int 0, .ref q_12, .ref q_13, .int 0, .int 0, .int 0, .int 0, .int 0, .ref q_14, .ref q_15])), (q_2, .inl (cI, 442, .inl (fun _ => 0))), (q_3, .inl (cZ, 2, .inl (fun _ => 0))), (q_4, .inl (cI, 3, .inl (fun _ => 0))), (q_5, .inl (cI, 12, .inl (fun _ => 0))), (q_6, .inl (cI, 12, .inl (fun _ => 0))), (q_7, .inl (cI, 40, .inl (fun _ => 0))), (q_8, .inl (cI, 8, .inl (fun _ => 0))), (q_9, .inl (cI, 8, .inl (fun _ => 0))), (q_10, .inl (cI, 6, .inl (fun _ => 0))), (q_11, .inl (cI, 6, .inl (fun _ => 0))), (q_12, .inl (cI, 12, .inl (fun _ => 0))), (q_13, .inl (cI, 150, .inl (fun _ => 0))), (q_14, .inl (cI, 101, .inl (fun _ => 0))), (q_15, .inl (cI, 6, .inl (fun _ => 0))), (q_1, .inl (cI, 221, .inl nw0))] := hD
  exact q_vret hX hr hlk (fun k => [q_1, q_2, q_3, q_4, q_5, q_6, q_7, q_8, q_9, q_10, q_11, q_12, q_13, q_14, q_15].getD k 0) trivial (hP.sub [0, 15, 1, 2, 3, 4, 5, 6, 7, 8, 9, 10, 11, 12, 13, 14] rfl) (hD.sub [0, 15, 1, 2, 3, 4, 5, 6, 7, 8, 9, 10, 11, 12, 13, 14] (by decide) rfl) hS dX7_init_138
abbrev w_m_apart (cI cZ cP : ClassId) (p0 : Int32) (p1 : Int32) : va_W := []
set_option maxHeartbeats 4000000 in
set_option maxRecDepth 100000 in
theorem c_m_apart (l : Launch) (D : va_G) (cI cZ cP : ClassId) (sa : Nat → Nat) (p0 : Int32) (p1 : Int32) (sz : Nat) : Met l yX7_apart (qW yX7_apart cX7_apart 2 (some .int)) ({ frames := 0, cells := 0, slots := 0, locals := 0 } : Room) (qP D (TY cI cZ cP) sa [.int p0, .int p1] (w_m_apart cI cZ cP p0 p1) sz) (qQi D (w_m_apart cI cZ cP p0 p1) sz (fun (r : Int32) (_ : Unit) => True) (fun _ => [])) 0 0 (va_A (w_m_apart cI cZ cP p0 p1) sz) := by
  refine q_enter (by decide) (Nat.le_of_ble_eq_true rfl) ?_
  intro p e s m below meth c ls hX hr hlk hnm hE hK hP hD hS hA hl
  obtain ⟨hx, hb, hml, hown, ht⟩ := id hX
  have hl : lv_has ls 2 [(0, .int p0), (1, .int p1)] := hl
  refine lv_iload_n hx hb dX7_apart_0 rfl (lv_at hl 0 rfl) ?_
  refine lv_iload_n hx hb dX7_apart_1 rfl (lv_at hl 1 rfl) ?_
  refine lv_icmp_le (tgt := 11) hx hb dX7_apart_2 (by decide) (fun c_1 => ?_) (fun c_1 => ?_)
  · refine lv_iload_n hx hb dX7_apart_11 rfl (lv_at hl 1 rfl) ?_
    refine lv_iload_n hx hb dX7_apart_12 rfl (lv_at hl 0 rfl) ?_
    refine lv_isub hx hb dX7_apart_13 ?_
    exact q_iret hX hr hlk () trivial (hP.sub [] rfl) (hD.sub [] (by decide) rfl) hS dX7_apart_14
  · refine lv_iload_n hx hb dX7_apart_5 rfl (lv_at hl 0 rfl) ?_
    refine lv_iload_n hx hb dX7_apart_6 rfl (lv_at hl 1 rfl) ?_
    refine lv_isub hx hb dX7_apart_7 ?_
    refine lv_goto (tgt := 14) hx hb dX7_apart_8 (by decide) ?_
    exact q_iret hX hr hlk () trivial (hP.sub [] rfl) (hD.sub [] (by decide) rfl) hS dX7_apart_14
abbrev w_m_tell (cI cZ cP : ClassId) (mo : Nat) (a_now : Nat) (a_kep : Nat) (a_isk : Nat) (a_ref : Nat) (a_cw : Nat) (a_row : Nat) (a_lea : Nat) (a_sli : Nat) (a_lef : Nat) (a_bst : Nat) (a_try : Nat) (a_mom : Nat) (a_byt : Nat) (a_nxt : Nat) (a_val : Nat) (a : Nat) (b : Nat) : va_W := [(mo, .inr (7, [.ref a_now, .ref a_kep, .ref a_isk, .ref a_ref, .long 0, .long 1, .int 0, .int 0, .int 0, .int 0, .ref a_cw, .ref a_row, .int 0, .ref a_lea, .ref a_sli, .ref a_lef, .ref a_bst, .ref a_try, .int 0, .ref a_mom, .ref a_byt, .int 0, .int 0, .int 0, .int 0, .int 0, .ref a_nxt, .ref a_val]))]
set_option maxHeartbeats 4000000 in
set_option maxRecDepth 100000 in
theorem c_m_tell (l : Launch) (D : va_G) (cI cZ cP : ClassId) (sa : Nat → Nat) (mo : Nat) (a_now : Nat) (a_kep : Nat) (a_isk : Nat) (a_ref : Nat) (a_cw : Nat) (a_row : Nat) (a_lea : Nat) (a_sli : Nat) (a_lef : Nat) (a_bst : Nat) (a_try : Nat) (a_mom : Nat) (a_byt : Nat) (a_nxt : Nat) (a_val : Nat) (a : Nat) (b : Nat) (ha : a < 2147483648) (hb0 : 0 < b) (hb1 : b < 2147483648) (sz : Nat) : Met l yX7_tell (qW yX7_tell cX7_tell 11 none) ({ frames := 0, cells := 0, slots := 0, locals := 0 } : Room) (qP D (TY cI cZ cP) sa [.ref mo, .long (lN a), .long (lN b)] (w_m_tell cI cZ cP mo a_now a_kep a_isk a_ref a_cw a_row a_lea a_sli a_lef a_bst a_try a_mom a_byt a_nxt a_val a b) sz) (qQv D (w_m_tell cI cZ cP mo a_now a_kep a_isk a_ref a_cw a_row a_lea a_sli a_lef a_bst a_try a_mom a_byt a_nxt a_val a b) sz (fun _ : Unit => True) (fun _ => [])) 0 0 (va_A (w_m_tell cI cZ cP mo a_now a_kep a_isk a_ref a_cw a_row a_lea a_sli a_lef a_bst a_try a_mom a_byt a_nxt a_val a b) sz) := by
  refine q_enter (by decide) (Nat.le_of_ble_eq_true rfl) ?_
  intro p e s m below meth c ls hX hr hlk hnm hE hK hP hD hS hA hl
  obtain ⟨hx, hb, hml, hown, ht⟩ := id hX
  have hl : lv_has ls 11 [(0, .ref mo), (1, .long (lN a)), (3, .long (lN b))] := hl
  refine lv_lload_n hx hb dX7_tell_0 rfl (lv_at hl 1 rfl) ?_
  refine lv_lstore (lv' := [(5, .long (lN a)), (0, .ref mo), (1, .long (lN a)), (3, .long (lN b))]) hx hb dX7_tell_1 hl (by decide) rfl (fun ls hl => ?_)
  refine lv_lload_n hx hb dX7_tell_3 rfl (lv_at hl 3 rfl) ?_
  refine lv_lstore (lv' := [(7, .long (lN b)), (5, .long (lN a)), (0, .ref mo), (1, .long (lN a)), (3, .long (lN b))]) hx hb dX7_tell_4 hl (by decide) rfl (fun ls hl => ?_)
  have lp_6 : ∀ (n_6 : Nat) (x : Nat) (y : Nat), (x < 2147483648) → (y < 2147483648) → (0 < x ∨ 0 < y) → (y < n_6) → ∀ (H : Heap) (locs : List Loc) (ls : Array Slot), va_P D vwCl [(mo, .inr (7, [.ref a_now, .ref a_kep, .ref a_isk, .ref a_ref, .long 0, .long 1, .int 0, .int 0, .int 0, .int 0, .ref a_cw, .ref a_row, .int 0, .ref a_lea, .ref a_sli, .ref a_lef, .ref a_bst, .ref a_try, .int 0, .ref a_mom, .ref a_byt, .int 0, .int 0, .int 0, .int 0, .int 0, .ref a_nxt, .ref a_val]))] H → va_D (va_A (w_m_tell cI cZ cP mo a_now a_kep a_isk a_ref a_cw a_row a_lea a_sli a_lef a_bst a_try a_mom a_byt a_nxt a_val a b) sz) [(mo, .inr (7, [.ref a_now, .ref a_kep, .ref a_isk, .ref a_ref, .long 0, .long 1, .int 0, .int 0, .int 0, .int 0, .ref a_cw, .ref a_row, .int 0, .ref a_lea, .ref a_sli, .ref a_lef, .ref a_bst, .ref a_try, .int 0, .ref a_mom, .ref a_byt, .int 0, .int 0, .int 0, .int 0, .int 0, .ref a_nxt, .ref a_val]))] → va_S (va_A (w_m_tell cI cZ cP mo a_now a_kep a_isk a_ref a_cw a_row a_lea a_sli a_lef a_bst a_try a_mom a_byt a_nxt a_val a b) sz) s.heap H locs → lv_has ls 11 [(7, .long (lN y)), (5, .long (lN x)), (0, .ref mo), (1, .long (lN a)), (3, .long (lN b))] → W p l e ({ frames := 0, cells := 0, slots := 0, locals := 0 } : Room) s m ([.ref mo, .long (lN a), .long (lN b)] : List Value).toArray below meth c H locs 0 0 (MQ below (qQv D (w_m_tell cI cZ cP mo a_now a_kep a_isk a_ref a_cw a_row a_lea a_sli a_lef a_bst a_try a_mom a_byt a_nxt a_val a b) sz (fun _ : Unit => True) (fun _ => [])) ([.ref mo, .long (lN a), .long (lN b)] : List Value).toArray s 0 0 (va_A (w_m_tell cI cZ cP mo a_now a_kep a_isk a_ref a_cw a_row a_lea a_sli a_lef a_bst a_try a_mom a_byt a_nxt a_val a b) sz)) (F0 m 6 ls []) := by
    intro n_6
    induction n_6 with
    | zero => intro x y hx1 hy1 hxy hm_6; exact absurd hm_6 (by omega)
    | succ n_6 ih_6 =>
      intro x y hx1 hy1 hxy hm_6 H locs ls hP hD hS hl
      refine lv_lload hx hb dX7_tell_6 (lv_at hl 0 rfl) ?_
      refine lv_lconst (v := 0) hx hb dX7_tell_8 (by decide) ?_
      refine q_l (z := 0) (by decide) ?_
      refine W.lcmp hx hb dX7_tell_9 ?_
      refine lv_if_eq (tgt := 31) hx hb dX7_tell_10 (by decide) (fun c_1 => ?_) (fun c_1 => ?_)
      · have hy0 : y = 0 := l_zero c_1 hy1
        have hx0 : 0 < x := by omega
        refine lv_aload_n hx hb dX7_tell_31 rfl (lv_at hl 2 rfl) ?_
        refine lv_lload_n hx hb dX7_tell_32 rfl (lv_at hl 3 rfl) ?_
        refine lv_lload hx hb dX7_tell_33 (lv_at hl 1 rfl) ?_
        refine lv_ldiv hx hb dX7_tell_35 (lN_ne hx0 hx1) ?_
        refine q_l (z := (lN (a / x))) (pk_lDiv (by omega) hx0 (by omega)) ?_
        refine va_put (D := D) (ci := 7) (v := .long (lN (a / x))) (ty := .long) (C := RX7) (T := TX7) (N := 28) hx hb ht inX7 tyX7 tyX7_ok nmX7 hown hK hP hD hS 0 rfl rfl 4 (Nat.le_of_ble_eq_true rfl) (ht _ kw_908) (fun _ h9 => h9) rfl (by decide +kernel) rfl rfl (Nat.le_of_ble_eq_true rfl) dX7_tell_36 (fun H locs hP hD hS => ?_)
        have hP : va_P D vwCl [(mo, .inr (7, [.ref a_now, .ref a_kep, .ref a_isk, .ref a_ref, .long (lN (a / x)), .long 1, .int 0, .int 0, .int 0, .int 0, .ref a_cw, .ref a_row, .int 0, .ref a_lea, .ref a_sli, .ref a_lef, .ref a_bst, .ref a_try, .int 0, .ref a_mom, .ref a_byt, .int 0, .int 0, .int 0, .int 0, .int 0, .ref a_nxt, .ref a_val]))] H := hP
        have hD : va_D (va_A (w_m_tell cI cZ cP mo a_now a_kep a_isk a_ref a_cw a_row a_lea a_sli a_lef a_bst a_try a_mom a_byt a_nxt a_val a b) sz) [(mo, .inr (7, [.ref a_now, .ref a_kep, .ref a_isk, .ref a_ref, .long (lN (a / x)), .long 1, .int 0, .int 0, .int 0, .int 0, .ref a_cw, .ref a_row, .int 0, .ref a_lea, .ref a_sli, .ref a_lef, .ref a_bst, .ref a_try, .int 0, .ref a_mom, .ref a_byt, .int 0, .int 0, .int 0, .int 0, .int 0, .ref a_nxt, .ref a_val]))] := hD
        refine lv_aload_n hx hb dX7_tell_39 rfl (lv_at hl 2 rfl) ?_
        refine lv_lload_n hx hb dX7_tell_40 rfl (lv_at hl 4 rfl) ?_
        refine lv_lload hx hb dX7_tell_41 (lv_at hl 1 rfl) ?_
        refine lv_ldiv hx hb dX7_tell_43 (lN_ne hx0 hx1) ?_
        refine q_l (z := (lN (b / x))) (pk_lDiv (by omega) hx0 (by omega)) ?_
        refine va_put (D := D) (ci := 7) (v := .long (lN (b / x))) (ty := .long) (C := RX7) (T := TX7) (N := 28) hx hb ht inX7 tyX7 tyX7_ok nmX7 hown hK hP hD hS 0 rfl rfl 5 (Nat.le_of_ble_eq_true rfl) (ht _ kw_909) (fun _ h9 => h9) rfl (by decide +kernel) rfl rfl (Nat.le_of_ble_eq_true rfl) dX7_tell_44 (fun H locs hP hD hS => ?_)
        have hP : va_P D vwCl [(mo, .inr (7, [.ref a_now, .ref a_kep, .ref a_isk, .ref a_ref, .long (lN (a / x)), .long (lN (b / x)), .int 0, .int 0, .int 0, .int 0, .ref a_cw, .ref a_row, .int 0, .ref a_lea, .ref a_sli, .ref a_lef, .ref a_bst, .ref a_try, .int 0, .ref a_mom, .ref a_byt, .int 0, .int 0, .int 0, .int 0, .int 0, .ref a_nxt, .ref a_val]))] H := hP
        have hD : va_D (va_A (w_m_tell cI cZ cP mo a_now a_kep a_isk a_ref a_cw a_row a_lea a_sli a_lef a_bst a_try a_mom a_byt a_nxt a_val a b) sz) [(mo, .inr (7, [.ref a_now, .ref a_kep, .ref a_isk, .ref a_ref, .long (lN (a / x)), .long (lN (b / x)), .int 0, .int 0, .int 0, .int 0, .ref a_cw, .ref a_row, .int 0, .ref a_lea, .ref a_sli, .ref a_lef, .ref a_bst, .ref a_try, .int 0, .ref a_mom, .ref a_byt, .int 0, .int 0, .int 0, .int 0, .int 0, .ref a_nxt, .ref a_val]))] := hD
        exact q_vret hX hr hlk () trivial (hP.sub [] rfl) (hD.sub [] (by decide) rfl) hS dX7_tell_47
      · have hy0 : 0 < y := l_pos c_1
        refine lv_lload hx hb dX7_tell_13 (lv_at hl 1 rfl) ?_
        refine lv_lload hx hb dX7_tell_15 (lv_at hl 0 rfl) ?_
        refine lv_lrem hx hb dX7_tell_17 (lN_ne hy0 hy1) ?_
        refine q_l (z := (lN (x % y))) (pk_lRem (by omega) hy0 (by omega)) ?_
        refine lv_lstore (lv' := [(9, .long (lN (x % y))), (7, .long (lN y)), (5, .long (lN x)), (0, .ref mo), (1, .long (lN a)), (3, .long (lN b))]) hx hb dX7_tell_18 hl (by decide) rfl (fun ls hl => ?_)
        refine lv_lload hx hb dX7_tell_20 (lv_at hl 1 rfl) ?_
        refine lv_lstore (lv' := [(5, .long (lN y)), (9, .long (lN (x % y))), (7, .long (lN y)), (0, .ref mo), (1, .long (lN a)), (3, .long (lN b))]) hx hb dX7_tell_22 hl (by decide) rfl (fun ls hl => ?_)
        refine lv_lload hx hb dX7_tell_24 (lv_at hl 1 rfl) ?_
        refine lv_lstore (lv' := [(7, .long (lN (x % y))), (5, .long (lN y)), (9, .long (lN (x % y))), (0, .ref mo), (1, .long (lN a)), (3, .long (lN b))]) hx hb dX7_tell_26 hl (by decide) rfl (fun ls hl => ?_)
        refine lv_goto (tgt := 6) hx hb dX7_tell_28 (by decide) ?_
        exact ih_6 y (x % y) hy1 (Nat.lt_trans (Nat.mod_lt _ hy0) hy1) (Or.inl hy0) (by have := Nat.mod_lt x hy0; omega) _ _ _ hP hD hS (lv_sub hl [0, 1, 3, 4, 5] rfl)
  exact lp_6 (b + 1) a b ha hb1 (Or.inr hb0) (by omega) _ _ _ hP hD hS (lv_sub hl [0, 1, 2, 3, 4] rfl)
abbrev w_m_breath (cI cZ cP : ClassId) (mo : Nat) (a_now : Nat) (a_kep : Nat) (a_isk : Nat) (a_ref : Nat) (a_cw : Nat) (a_row : Nat) (a_lea : Nat) (a_sli : Nat) (a_lef : Nat) (a_bst : Nat) (a_try : Nat) (a_mom : Nat) (a_byt : Nat) (a_nxt : Nat) (a_val : Nat) (p0 : Int32) (p1 : Int32) : va_W := [(mo, .inr (7, [.ref a_now, .ref a_kep, .ref a_isk, .ref a_ref, .long 0, .long 1, .int 0, .int 0, .int 0, .int 0, .ref a_cw, .ref a_row, .int 0, .ref a_lea, .ref a_sli, .ref a_lef, .ref a_bst, .ref a_try, .int 0, .ref a_mom, .ref a_byt, .int 0, .int 0, .int 0, .int 0, .int 0, .ref a_nxt, .ref a_val])), (a_now, .inl (cI, 221, .inl nw0)), (a_ref, .inl (cI, 3, .inl (fun _ => 0)))]
set_option maxHeartbeats 4000000 in
set_option maxRecDepth 100000 in
theorem c_m_breath (l : Launch) (D : va_G) (cI cZ cP : ClassId) (sa : Nat → Nat) (mo : Nat) (a_now : Nat) (a_kep : Nat) (a_isk : Nat) (a_ref : Nat) (a_cw : Nat) (a_row : Nat) (a_lea : Nat) (a_sli : Nat) (a_lef : Nat) (a_bst : Nat) (a_try : Nat) (a_mom : Nat) (a_byt : Nat) (a_nxt : Nat) (a_val : Nat) (p0 : Int32) (p1 : Int32) (sz : Nat) : Met l yX7_breath (qW yX7_breath cX7_breath 6 (some .int)) ({ frames := 1, cells := 0, slots := 0, locals := 30 } : Room) (qP D (TY cI cZ cP) sa [.ref mo, .int p0, .int p1] (w_m_breath cI cZ cP mo a_now a_kep a_isk a_ref a_cw a_row a_lea a_sli a_lef a_bst a_try a_mom a_byt a_nxt a_val p0 p1) sz) (qQi D (w_m_breath cI cZ cP mo a_now a_kep a_isk a_ref a_cw a_row a_lea a_sli a_lef a_bst a_try a_mom a_byt a_nxt a_val p0 p1) sz (fun (r : Int32) (_ : Unit) => r = sp_breath p0 p1) (fun _ => [])) 0 0 (va_A (w_m_breath cI cZ cP mo a_now a_kep a_isk a_ref a_cw a_row a_lea a_sli a_lef a_bst a_try a_mom a_byt a_nxt a_val p0 p1) sz) := by
  refine q_enter (by decide) (Nat.le_of_ble_eq_true rfl) ?_
  intro p e s m below meth c ls hX hr hlk hnm hE hK hP hD hS hA hl
  obtain ⟨hx, hb, hml, hown, ht⟩ := id hX
  have hl : lv_has ls 6 [(0, .ref mo), (1, .int p0), (2, .int p1)] := hl
  refine lv_iload_n hx hb dX7_breath_0 rfl (lv_at hl 1 rfl) ?_
  refine lv_i2l (v := (p0.toInt64)) hx hb dX7_breath_1 rfl ?_
  refine lv_lconst (v := 0) hx hb dX7_breath_2 (by decide) ?_
  refine q_l (z := ((0 : Int32).toInt64)) (by decide) ?_
  refine lv_ldc2 hx hb hown (ht _ kw_1241) dX7_breath_3 ?_
  refine q_l (z := ((20 : Int32).toInt64)) (by decide) ?_
  refine q_Si (wr := [(mo, .inr (7, [.ref a_now, .ref a_kep, .ref a_isk, .ref a_ref, .long 0, .long 1, .int 0, .int 0, .int 0, .int 0, .ref a_cw, .ref a_row, .int 0, .ref a_lea, .ref a_sli, .ref a_lef, .ref a_bst, .ref a_try, .int 0, .ref a_mom, .ref a_byt, .int 0, .int 0, .int 0, .int 0, .int 0, .ref a_nxt, .ref a_val])), (a_now, .inl (cI, 221, .inl nw0)), (a_ref, .inl (cI, 3, .inl (fun _ => 0)))]) [] [0, 1, 2] hX hE hK hP hD hS hA hl.1 lk_X7_68 (c_m_in l D cI cZ cP sa p0 0 20 _) rfl rfl rfl rfl (by decide) rfl rfl (Nat.le_of_ble_eq_true rfl) rfl rfl ⟨Nat.le_of_ble_eq_true rfl, Nat.le_of_ble_eq_true rfl⟩ ⟨Nat.le_of_ble_eq_true rfl, Nat.le_of_ble_eq_true rfl⟩ dX7_breath_6 (fun x_1 _ H locs h_1 hP hD hS => ?_)
  have hP : va_P D vwCl [(mo, .inr (7, [.ref a_now, .ref a_kep, .ref a_isk, .ref a_ref, .long 0, .long 1, .int 0, .int 0, .int 0, .int 0, .ref a_cw, .ref a_row, .int 0, .ref a_lea, .ref a_sli, .ref a_lef, .ref a_bst, .ref a_try, .int 0, .ref a_mom, .ref a_byt, .int 0, .int 0, .int 0, .int 0, .int 0, .ref a_nxt, .ref a_val])), (a_now, .inl (cI, 221, .inl nw0)), (a_ref, .inl (cI, 3, .inl (fun _ => 0)))] H := hP
  have hD : va_D (va_A (w_m_breath cI cZ cP mo a_now a_kep a_isk a_ref a_cw a_row a_lea a_sli a_lef a_bst a_try a_mom a_byt a_nxt a_val p0 p1) sz) [(mo, .inr (7, [.ref a_now, .ref a_kep, .ref a_isk, .ref a_ref, .long 0, .long 1, .int 0, .int 0, .int 0, .int 0, .ref a_cw, .ref a_row, .int 0, .ref a_lea, .ref a_sli, .ref a_lef, .ref a_bst, .ref a_try, .int 0, .ref a_mom, .ref a_byt, .int 0, .int 0, .int 0, .int 0, .int 0, .ref a_nxt, .ref a_val])), (a_now, .inl (cI, 221, .inl nw0)), (a_ref, .inl (cI, 3, .inl (fun _ => 0)))] := hD
  rcases Classical.em (0 ≤ p0 ∧ p0 ≤ 20) with c_1 | c_1
  · rw [if_pos c_1] at h_1; subst h_1
    refine lv_if_eq (tgt := 24) hx hb dX7_breath_9 (by decide) (fun c_2 => absurd c_2 (by decide)) (fun _ => ?_)
    refine lv_iload_n hx hb dX7_breath_12 rfl (lv_at hl 2 rfl) ?_
    refine lv_i2l (v := (p1.toInt64)) hx hb dX7_breath_13 rfl ?_
    refine lv_lconst (v := 0) hx hb dX7_breath_14 (by decide) ?_
    refine q_l (z := ((0 : Int32).toInt64)) (by decide) ?_
    refine lv_ldc2 hx hb hown (ht _ kw_1241) dX7_breath_15 ?_
    refine q_l (z := ((20 : Int32).toInt64)) (by decide) ?_
    refine q_Si (wr := [(mo, .inr (7, [.ref a_now, .ref a_kep, .ref a_isk, .ref a_ref, .long 0, .long 1, .int 0, .int 0, .int 0, .int 0, .ref a_cw, .ref a_row, .int 0, .ref a_lea, .ref a_sli, .ref a_lef, .ref a_bst, .ref a_try, .int 0, .ref a_mom, .ref a_byt, .int 0, .int 0, .int 0, .int 0, .int 0, .ref a_nxt, .ref a_val])), (a_now, .inl (cI, 221, .inl nw0)), (a_ref, .inl (cI, 3, .inl (fun _ => 0)))]) [] [0, 1, 2] hX hE hK hP hD hS hA hl.1 lk_X7_68 (c_m_in l D cI cZ cP sa p1 0 20 _) rfl rfl rfl rfl (by decide) rfl rfl (Nat.le_of_ble_eq_true rfl) rfl rfl ⟨Nat.le_of_ble_eq_true rfl, Nat.le_of_ble_eq_true rfl⟩ ⟨Nat.le_of_ble_eq_true rfl, Nat.le_of_ble_eq_true rfl⟩ dX7_breath_18 (fun x_3 _ H locs h_3 hP hD hS => ?_)
    have hP : va_P D vwCl [(mo, .inr (7, [.ref a_now, .ref a_kep, .ref a_isk, .ref a_ref, .long 0, .long 1, .int 0, .int 0, .int 0, .int 0, .ref a_cw, .ref a_row, .int 0, .ref a_lea, .ref a_sli, .ref a_lef, .ref a_bst, .ref a_try, .int 0, .ref a_mom, .ref a_byt, .int 0, .int 0, .int 0, .int 0, .int 0, .ref a_nxt, .ref a_val])), (a_now, .inl (cI, 221, .inl nw0)), (a_ref, .inl (cI, 3, .inl (fun _ => 0)))] H := hP
    have hD : va_D (va_A (w_m_breath cI cZ cP mo a_now a_kep a_isk a_ref a_cw a_row a_lea a_sli a_lef a_bst a_try a_mom a_byt a_nxt a_val p0 p1) sz) [(mo, .inr (7, [.ref a_now, .ref a_kep, .ref a_isk, .ref a_ref, .long 0, .long 1, .int 0, .int 0, .int 0, .int 0, .ref a_cw, .ref a_row, .int 0, .ref a_lea, .ref a_sli, .ref a_lef, .ref a_bst, .ref a_try, .int 0, .ref a_mom, .ref a_byt, .int 0, .int 0, .int 0, .int 0, .int 0, .ref a_nxt, .ref a_val])), (a_now, .inl (cI, 221, .inl nw0)), (a_ref, .inl (cI, 3, .inl (fun _ => 0)))] := hD
    rcases Classical.em (0 ≤ p1 ∧ p1 ≤ 20) with c_3 | c_3
    · rw [if_pos c_3] at h_3; subst h_3
      refine lv_if_ne (tgt := 31) hx hb dX7_breath_21 (by decide) (fun _ => ?_) (fun c_4 => absurd c_4 (by decide))
      obtain ⟨t, hti, c_t⟩ := nI_63 (n := 20) c_1 (by decide)
      refine lv_iconst (v := 0) hx hb dX7_breath_31 (by decide) ?_
      refine lv_istore_n (lv' := [(3, .int 0), (0, .ref mo), (1, .int p0), (2, .int p1)]) hx hb dX7_breath_32 rfl hl (by decide) rfl (fun ls hl => ?_)
      refine lv_iconst (v := 0) hx hb dX7_breath_33 (by decide) ?_
      refine lv_istore (lv' := [(4, .int 0), (3, .int 0), (0, .ref mo), (1, .int p0), (2, .int p1)]) hx hb dX7_breath_34 hl (by decide) rfl (fun ls hl => ?_)
      have lp_36 : ∀ (n_36 : Nat) (a : Nat) (y : Nat), (a ≤ 21) → (y ≤ 21 * a) → (22 ≤ a + n_36) → ∀ (H : Heap) (locs : List Loc) (ls : Array Slot), va_P D vwCl [(mo, .inr (7, [.ref a_now, .ref a_kep, .ref a_isk, .ref a_ref, .long 0, .long 1, .int 0, .int 0, .int 0, .int 0, .ref a_cw, .ref a_row, .int 0, .ref a_lea, .ref a_sli, .ref a_lef, .ref a_bst, .ref a_try, .int 0, .ref a_mom, .ref a_byt, .int 0, .int 0, .int 0, .int 0, .int 0, .ref a_nxt, .ref a_val])), (a_now, .inl (cI, 221, .inl nw0)), (a_ref, .inl (cI, 3, .inl (fun _ => 0)))] H → va_D (va_A (w_m_breath cI cZ cP mo a_now a_kep a_isk a_ref a_cw a_row a_lea a_sli a_lef a_bst a_try a_mom a_byt a_nxt a_val p0 p1) sz) [(mo, .inr (7, [.ref a_now, .ref a_kep, .ref a_isk, .ref a_ref, .long 0, .long 1, .int 0, .int 0, .int 0, .int 0, .ref a_cw, .ref a_row, .int 0, .ref a_lea, .ref a_sli, .ref a_lef, .ref a_bst, .ref a_try, .int 0, .ref a_mom, .ref a_byt, .int 0, .int 0, .int 0, .int 0, .int 0, .ref a_nxt, .ref a_val])), (a_now, .inl (cI, 221, .inl nw0)), (a_ref, .inl (cI, 3, .inl (fun _ => 0)))] → va_S (va_A (w_m_breath cI cZ cP mo a_now a_kep a_isk a_ref a_cw a_row a_lea a_sli a_lef a_bst a_try a_mom a_byt a_nxt a_val p0 p1) sz) s.heap H locs → lv_has ls 6 [(4, .int (nI a)), (3, .int (nI y)), (0, .ref mo), (1, .int p0), (2, .int p1)] → W p l e ({ frames := 1, cells := 0, slots := 0, locals := 30 } : Room) s m ([.ref mo, .int p0, .int p1] : List Value).toArray below meth c H locs 0 0 (MQ below (qQi D (w_m_breath cI cZ cP mo a_now a_kep a_isk a_ref a_cw a_row a_lea a_sli a_lef a_bst a_try a_mom a_byt a_nxt a_val p0 p1) sz (fun (r : Int32) (_ : Unit) => r = sp_breath p0 p1) (fun _ => [])) ([.ref mo, .int p0, .int p1] : List Value).toArray s 0 0 (va_A (w_m_breath cI cZ cP mo a_now a_kep a_isk a_ref a_cw a_row a_lea a_sli a_lef a_bst a_try a_mom a_byt a_nxt a_val p0 p1) sz)) (F0 m 36 ls []) := by
        intro n_36
        induction n_36 with
        | zero => intro a y ha hy hm_36; exact absurd hm_36 (by omega)
        | succ n_36 ih_36 =>
          intro a y ha hy hm_36 H locs ls hP hD hS hl
          refine lv_iload hx hb dX7_breath_36 (lv_at hl 0 rfl) ?_
          refine lv_iload_n hx hb dX7_breath_38 rfl (lv_at hl 3 rfl) ?_
          refine q_i (z := (nI t)) c_t ?_
          refine lv_icmp_gt (tgt := 82) hx hb dX7_breath_39 (by decide) (fun c_5 => ?_) (fun c_5 => ?_)
          · refine lv_aload_n hx hb dX7_breath_82 rfl (lv_at hl 2 rfl) ?_
            refine lv_iload_n hx hb dX7_breath_83 rfl (lv_at hl 1 rfl) ?_
            refine lv_i2l (v := (lN y)) hx hb dX7_breath_84 (nI_l (by omega)) ?_
            refine lv_iload_n hx hb dX7_breath_85 rfl (lv_at hl 3 rfl) ?_
            refine q_i (z := (nI t)) c_t ?_
            refine lv_i2l (v := (lN t)) hx hb dX7_breath_86 (nI_l (by omega)) ?_
            refine lv_lconst (v := 1) hx hb dX7_breath_87 (by decide) ?_
            refine q_l (z := (lN 1)) (by decide) ?_
            refine lv_ladd hx hb dX7_breath_88 ?_
            refine q_l (z := (lN (t + 1))) (lN_add t 1) ?_
            refine lv_iload_n hx hb dX7_breath_89 rfl (lv_at hl 3 rfl) ?_
            refine q_i (z := (nI t)) c_t ?_
            refine lv_i2l (v := (lN t)) hx hb dX7_breath_90 (nI_l (by omega)) ?_
            refine lv_lconst (v := 1) hx hb dX7_breath_91 (by decide) ?_
            refine q_l (z := (lN 1)) (by decide) ?_
            refine lv_ladd hx hb dX7_breath_92 ?_
            refine q_l (z := (lN (t + 1))) (lN_add t 1) ?_
            refine lv_lmul hx hb dX7_breath_93 ?_
            refine q_l (z := (lN ((t + 1) * (t + 1)))) (lN_mul (t + 1) (t + 1)) ?_
            refine q_Vv (wr := [(a_now, .inl (cI, 221, .inl nw0)), (a_ref, .inl (cI, 3, .inl (fun _ => 0)))]) [0] [1, 2] hX hE hK hP hD hS hA hl.1 lk_X7_249 (c_m_tell l D cI cZ cP sa mo a_now a_kep a_isk a_ref a_cw a_row a_lea a_sli a_lef a_bst a_try a_mom a_byt a_nxt a_val y ((t + 1) * (t + 1)) (by omega) (Nat.mul_pos (by omega) (by omega)) (Nat.lt_of_le_of_lt (Nat.mul_le_mul (show t + 1 ≤ 21 by omega) (show t + 1 ≤ 21 by omega)) (by decide)) _) rfl rfl rfl rfl (by decide) 0 7 rfl rfl rfl rfl (Nat.le_of_ble_eq_true rfl) rfl rfl ⟨Nat.le_of_ble_eq_true rfl, Nat.le_of_ble_eq_true rfl⟩ ⟨Nat.le_of_ble_eq_true rfl, Nat.le_of_ble_eq_true rfl⟩ dX7_breath_94 (fun _ H locs h_6 hP hD hS => ?_)
            have hP : va_P D vwCl [(a_now, .inl (cI, 221, .inl nw0)), (a_ref, .inl (cI, 3, .inl (fun _ => 0)))] H := hP
            have hD : va_D (va_A (w_m_breath cI cZ cP mo a_now a_kep a_isk a_ref a_cw a_row a_lea a_sli a_lef a_bst a_try a_mom a_byt a_nxt a_val p0 p1) sz) [(a_now, .inl (cI, 221, .inl nw0)), (a_ref, .inl (cI, 3, .inl (fun _ => 0)))] := hD
            refine lv_iconst (v := 1) hx hb dX7_breath_97 (by decide) ?_
            exact q_iret hX hr hlk () (by simp [sp_breath, c_1, c_3]) (hP.sub [] rfl) (hD.sub [] (by decide) rfl) hS dX7_breath_98
          · have ha2 : a ≤ t := nI_lit (N := t) rfl c_5 (by omega) (by omega)
            refine lv_iconst (v := 0) hx hb dX7_breath_42 (by decide) ?_
            refine lv_istore (lv' := [(5, .int 0), (4, .int (nI a)), (3, .int (nI y)), (0, .ref mo), (1, .int p0), (2, .int p1)]) hx hb dX7_breath_43 hl (by decide) rfl (fun ls hl => ?_)
            have lp_45 : ∀ (n_45 : Nat) (b : Nat) (z : Nat), (b ≤ 21) → (z ≤ 21 * a + b) → (22 ≤ b + n_45) → ∀ (H : Heap) (locs : List Loc) (ls : Array Slot), va_P D vwCl [(mo, .inr (7, [.ref a_now, .ref a_kep, .ref a_isk, .ref a_ref, .long 0, .long 1, .int 0, .int 0, .int 0, .int 0, .ref a_cw, .ref a_row, .int 0, .ref a_lea, .ref a_sli, .ref a_lef, .ref a_bst, .ref a_try, .int 0, .ref a_mom, .ref a_byt, .int 0, .int 0, .int 0, .int 0, .int 0, .ref a_nxt, .ref a_val])), (a_now, .inl (cI, 221, .inl nw0)), (a_ref, .inl (cI, 3, .inl (fun _ => 0)))] H → va_D (va_A (w_m_breath cI cZ cP mo a_now a_kep a_isk a_ref a_cw a_row a_lea a_sli a_lef a_bst a_try a_mom a_byt a_nxt a_val p0 p1) sz) [(mo, .inr (7, [.ref a_now, .ref a_kep, .ref a_isk, .ref a_ref, .long 0, .long 1, .int 0, .int 0, .int 0, .int 0, .ref a_cw, .ref a_row, .int 0, .ref a_lea, .ref a_sli, .ref a_lef, .ref a_bst, .ref a_try, .int 0, .ref a_mom, .ref a_byt, .int 0, .int 0, .int 0, .int 0, .int 0, .ref a_nxt, .ref a_val])), (a_now, .inl (cI, 221, .inl nw0)), (a_ref, .inl (cI, 3, .inl (fun _ => 0)))] → va_S (va_A (w_m_breath cI cZ cP mo a_now a_kep a_isk a_ref a_cw a_row a_lea a_sli a_lef a_bst a_try a_mom a_byt a_nxt a_val p0 p1) sz) s.heap H locs → lv_has ls 6 [(5, .int (nI b)), (4, .int (nI a)), (3, .int (nI z)), (0, .ref mo), (1, .int p0), (2, .int p1)] → W p l e ({ frames := 1, cells := 0, slots := 0, locals := 30 } : Room) s m ([.ref mo, .int p0, .int p1] : List Value).toArray below meth c H locs 0 0 (MQ below (qQi D (w_m_breath cI cZ cP mo a_now a_kep a_isk a_ref a_cw a_row a_lea a_sli a_lef a_bst a_try a_mom a_byt a_nxt a_val p0 p1) sz (fun (r : Int32) (_ : Unit) => r = sp_breath p0 p1) (fun _ => [])) ([.ref mo, .int p0, .int p1] : List Value).toArray s 0 0 (va_A (w_m_breath cI cZ cP mo a_now a_kep a_isk a_ref a_cw a_row a_lea a_sli a_lef a_bst a_try a_mom a_byt a_nxt a_val p0 p1) sz)) (F0 m 45 ls []) := by
              intro n_45
              induction n_45 with
              | zero => intro b z hb1 hz hm_45; exact absurd hm_45 (by omega)
              | succ n_45 ih_45 =>
                intro b z hb1 hz hm_45 H locs ls hP hD hS hl
                refine lv_iload hx hb dX7_breath_45 (lv_at hl 0 rfl) ?_
                refine lv_iload_n hx hb dX7_breath_47 rfl (lv_at hl 4 rfl) ?_
                refine q_i (z := (nI t)) c_t ?_
                refine lv_icmp_gt (tgt := 76) hx hb dX7_breath_48 (by decide) (fun c_7 => ?_) (fun c_7 => ?_)
                · refine lv_iinc (v := (nI (a + 1))) (lv' := [(4, .int (nI (a + 1))), (5, .int (nI b)), (3, .int (nI z)), (0, .ref mo), (1, .int p0), (2, .int p1)]) hx hb dX7_breath_76 hl (k := 1) rfl (nI_1 a) (by decide) rfl (fun ls hl => ?_)
                  refine lv_goto (tgt := 36) hx hb dX7_breath_79 (by decide) ?_
                  exact ih_36 (a + 1) z (by omega) (by omega) (by omega) _ _ _ hP hD hS (lv_sub hl [0, 2, 3, 4, 5] rfl)
                · have hb2 : b ≤ t := nI_lit (N := t) rfl c_7 (by omega) (by omega)
                  refine lv_iload_n hx hb dX7_breath_51 rfl (lv_at hl 2 rfl) ?_
                  refine lv_iload hx hb dX7_breath_52 (lv_at hl 1 rfl) ?_
                  refine lv_iload hx hb dX7_breath_54 (lv_at hl 0 rfl) ?_
                  refine q_Si (wr := [(mo, .inr (7, [.ref a_now, .ref a_kep, .ref a_isk, .ref a_ref, .long 0, .long 1, .int 0, .int 0, .int 0, .int 0, .ref a_cw, .ref a_row, .int 0, .ref a_lea, .ref a_sli, .ref a_lef, .ref a_bst, .ref a_try, .int 0, .ref a_mom, .ref a_byt, .int 0, .int 0, .int 0, .int 0, .int 0, .ref a_nxt, .ref a_val])), (a_now, .inl (cI, 221, .inl nw0)), (a_ref, .inl (cI, 3, .inl (fun _ => 0)))]) [] [0, 1, 2] hX hE hK hP hD hS hA hl.1 lk_X7_120 (c_m_apart l D cI cZ cP sa (nI a) (nI b) _) rfl rfl rfl rfl (by decide) rfl rfl (Nat.le_of_ble_eq_true rfl) rfl rfl ⟨Nat.le_of_ble_eq_true rfl, Nat.le_of_ble_eq_true rfl⟩ ⟨Nat.le_of_ble_eq_true rfl, Nat.le_of_ble_eq_true rfl⟩ dX7_breath_56 (fun x_8 _ H locs h_8 hP hD hS => ?_)
                  have hP : va_P D vwCl [(mo, .inr (7, [.ref a_now, .ref a_kep, .ref a_isk, .ref a_ref, .long 0, .long 1, .int 0, .int 0, .int 0, .int 0, .ref a_cw, .ref a_row, .int 0, .ref a_lea, .ref a_sli, .ref a_lef, .ref a_bst, .ref a_try, .int 0, .ref a_mom, .ref a_byt, .int 0, .int 0, .int 0, .int 0, .int 0, .ref a_nxt, .ref a_val])), (a_now, .inl (cI, 221, .inl nw0)), (a_ref, .inl (cI, 3, .inl (fun _ => 0)))] H := hP
                  have hD : va_D (va_A (w_m_breath cI cZ cP mo a_now a_kep a_isk a_ref a_cw a_row a_lea a_sli a_lef a_bst a_try a_mom a_byt a_nxt a_val p0 p1) sz) [(mo, .inr (7, [.ref a_now, .ref a_kep, .ref a_isk, .ref a_ref, .long 0, .long 1, .int 0, .int 0, .int 0, .int 0, .ref a_cw, .ref a_row, .int 0, .ref a_lea, .ref a_sli, .ref a_lef, .ref a_bst, .ref a_try, .int 0, .ref a_mom, .ref a_byt, .int 0, .int 0, .int 0, .int 0, .int 0, .ref a_nxt, .ref a_val])), (a_now, .inl (cI, 221, .inl nw0)), (a_ref, .inl (cI, 3, .inl (fun _ => 0)))] := hD
                  refine lv_iload_n hx hb dX7_breath_59 rfl (lv_at hl 5 rfl) ?_
                  refine lv_icmp_gt (tgt := 67) hx hb dX7_breath_60 (by decide) (fun c_9 => ?_) (fun c_9 => ?_)
                  · refine lv_iconst (v := 0) hx hb dX7_breath_67 (by decide) ?_
                    refine lv_iadd hx hb dX7_breath_68 ?_
                    refine q_i (z := (nI z)) (Int32.add_zero _) ?_
                    refine lv_istore_n (lv' := [(3, .int (nI z)), (5, .int (nI b)), (4, .int (nI a)), (0, .ref mo), (1, .int p0), (2, .int p1)]) hx hb dX7_breath_69 rfl hl (by decide) rfl (fun ls hl => ?_)
                    refine lv_iinc (v := (nI (b + 1))) (lv' := [(5, .int (nI (b + 1))), (3, .int (nI z)), (4, .int (nI a)), (0, .ref mo), (1, .int p0), (2, .int p1)]) hx hb dX7_breath_70 hl (k := 1) rfl (nI_1 b) (by decide) rfl (fun ls hl => ?_)
                    refine lv_goto (tgt := 45) hx hb dX7_breath_73 (by decide) ?_
                    exact ih_45 (b + 1) z (by omega) (by omega) (by omega) _ _ _ hP hD hS (lv_sub hl [0, 2, 1, 3, 4, 5] rfl)
                  · refine lv_iconst (v := 1) hx hb dX7_breath_63 (by decide) ?_
                    refine lv_goto (tgt := 68) hx hb dX7_breath_64 (by decide) ?_
                    refine lv_iadd hx hb dX7_breath_68 ?_
                    refine q_i (z := (nI (z + 1))) (nI_add z 1) ?_
                    refine lv_istore_n (lv' := [(3, .int (nI (z + 1))), (5, .int (nI b)), (4, .int (nI a)), (0, .ref mo), (1, .int p0), (2, .int p1)]) hx hb dX7_breath_69 rfl hl (by decide) rfl (fun ls hl => ?_)
                    refine lv_iinc (v := (nI (b + 1))) (lv' := [(5, .int (nI (b + 1))), (3, .int (nI (z + 1))), (4, .int (nI a)), (0, .ref mo), (1, .int p0), (2, .int p1)]) hx hb dX7_breath_70 hl (k := 1) rfl (nI_1 b) (by decide) rfl (fun ls hl => ?_)
                    refine lv_goto (tgt := 45) hx hb dX7_breath_73 (by decide) ?_
                    exact ih_45 (b + 1) (z + 1) (by omega) (by omega) (by omega) _ _ _ hP hD hS (lv_sub hl [0, 2, 1, 3, 4, 5] rfl)
            exact lp_45 22 0 y (by omega) (by omega) (by omega) _ _ _ hP hD hS (lv_sub hl [0, 1, 2, 3, 4, 5] rfl)
      exact lp_36 22 0 0 (by omega) (by omega) (by omega) _ _ _ hP hD hS (lv_sub hl [0, 1, 2, 3, 4] rfl)
    · rw [if_neg c_3] at h_3; subst h_3
      refine lv_if_ne (tgt := 31) hx hb dX7_breath_21 (by decide) (fun c_10 => absurd (by decide) c_10) (fun _ => ?_)
      refine lv_aload_n hx hb dX7_breath_24 rfl (lv_at hl 0 rfl) ?_
      refine lv_bipush (v := (-2)) hx hb dX7_breath_25 (by decide) ?_
      refine q_Vi (wr := [(a_now, .inl (cI, 221, .inl nw0))]) [0, 2] [1] hX hE hK hP hD hS hA hl.1 lk_X7_76 (c_m_bad l D cI cZ cP sa mo a_now a_kep a_isk a_ref a_cw a_row a_lea a_sli a_lef a_bst a_try a_mom a_byt a_nxt a_val 0 1 0 0 0 0 0 0 0 0 0 0 0 (-2) _) rfl rfl rfl rfl (by decide) 0 7 rfl rfl rfl rfl (Nat.le_of_ble_eq_true rfl) rfl rfl ⟨Nat.le_of_ble_eq_true rfl, Nat.le_of_ble_eq_true rfl⟩ ⟨Nat.le_of_ble_eq_true rfl, Nat.le_of_ble_eq_true rfl⟩ dX7_breath_27 (fun x_11 _ H locs h_11 hP hD hS => ?_)
      have hP : va_P D vwCl [(a_now, .inl (cI, 221, .inl nw0))] H := hP
      have hD : va_D (va_A (w_m_breath cI cZ cP mo a_now a_kep a_isk a_ref a_cw a_row a_lea a_sli a_lef a_bst a_try a_mom a_byt a_nxt a_val p0 p1) sz) [(a_now, .inl (cI, 221, .inl nw0))] := hD
      subst h_11
      exact q_iret hX hr hlk () (by simp [sp_breath, c_1, c_3]) (hP.sub [] rfl) (hD.sub [] (by decide) rfl) hS dX7_breath_30
  · rw [if_neg c_1] at h_1; subst h_1
    refine lv_if_eq (tgt := 24) hx hb dX7_breath_9 (by decide) (fun _ => ?_) (fun c_12 => absurd (by decide) c_12)
    refine lv_aload_n hx hb dX7_breath_24 rfl (lv_at hl 0 rfl) ?_
    refine lv_bipush (v := (-2)) hx hb dX7_breath_25 (by decide) ?_
    refine q_Vi (wr := [(a_now, .inl (cI, 221, .inl nw0))]) [0, 2] [1] hX hE hK hP hD hS hA hl.1 lk_X7_76 (c_m_bad l D cI cZ cP sa mo a_now a_kep a_isk a_ref a_cw a_row a_lea a_sli a_lef a_bst a_try a_mom a_byt a_nxt a_val 0 1 0 0 0 0 0 0 0 0 0 0 0 (-2) _) rfl rfl rfl rfl (by decide) 0 7 rfl rfl rfl rfl (Nat.le_of_ble_eq_true rfl) rfl rfl ⟨Nat.le_of_ble_eq_true rfl, Nat.le_of_ble_eq_true rfl⟩ ⟨Nat.le_of_ble_eq_true rfl, Nat.le_of_ble_eq_true rfl⟩ dX7_breath_27 (fun x_13 _ H locs h_13 hP hD hS => ?_)
    have hP : va_P D vwCl [(a_now, .inl (cI, 221, .inl nw0))] H := hP
    have hD : va_D (va_A (w_m_breath cI cZ cP mo a_now a_kep a_isk a_ref a_cw a_row a_lea a_sli a_lef a_bst a_try a_mom a_byt a_nxt a_val p0 p1) sz) [(a_now, .inl (cI, 221, .inl nw0))] := hD
    subst h_13
    exact q_iret hX hr hlk () (by simp [sp_breath, c_1]) (hP.sub [] rfl) (hD.sub [] (by decide) rfl) hS dX7_breath_30
abbrev w_m_explains (cI cZ cP : ClassId) (mo : Nat) (a_now : Nat) (a_kep : Nat) (a_isk : Nat) (a_ref : Nat) (a_cw : Nat) (a_row : Nat) (a_lea : Nat) (a_sli : Nat) (a_lef : Nat) (a_bst : Nat) (a_try : Nat) (a_mom : Nat) (a_byt : Nat) (a_nxt : Nat) (a_val : Nat) (p0 : Int32) (p1 : Int32) (p2 : Int32) : va_W := [(mo, .inr (7, [.ref a_now, .ref a_kep, .ref a_isk, .ref a_ref, .long 0, .long 1, .int 0, .int 0, .int 0, .int 0, .ref a_cw, .ref a_row, .int 0, .ref a_lea, .ref a_sli, .ref a_lef, .ref a_bst, .ref a_try, .int 0, .ref a_mom, .ref a_byt, .int 0, .int 0, .int 0, .int 0, .int 0, .ref a_nxt, .ref a_val])), (a_now, .inl (cI, 221, .inl nw0))]
set_option maxHeartbeats 4000000 in
set_option maxRecDepth 100000 in
theorem c_m_explains (l : Launch) (D : va_G) (cI cZ cP : ClassId) (sa : Nat → Nat) (mo : Nat) (a_now : Nat) (a_kep : Nat) (a_isk : Nat) (a_ref : Nat) (a_cw : Nat) (a_row : Nat) (a_lea : Nat) (a_sli : Nat) (a_lef : Nat) (a_bst : Nat) (a_try : Nat) (a_mom : Nat) (a_byt : Nat) (a_nxt : Nat) (a_val : Nat) (p0 : Int32) (p1 : Int32) (p2 : Int32) (sz : Nat) : Met l yX7_explains (qW yX7_explains cX7_explains 7 (some .boolean)) ({ frames := 1, cells := 0, slots := 0, locals := 20 } : Room) (qP D (TY cI cZ cP) sa [.ref mo, .int p0, .int p1, .int p2] (w_m_explains cI cZ cP mo a_now a_kep a_isk a_ref a_cw a_row a_lea a_sli a_lef a_bst a_try a_mom a_byt a_nxt a_val p0 p1 p2) sz) (qQi D (w_m_explains cI cZ cP mo a_now a_kep a_isk a_ref a_cw a_row a_lea a_sli a_lef a_bst a_try a_mom a_byt a_nxt a_val p0 p1 p2) sz (fun (r : Int32) (_ : Unit) => r = 1) (fun _ => [(mo, .inr (7, [.ref a_now, .ref a_kep, .ref a_isk, .ref a_ref, .long 0, .long 1, .int 0, .int 0, .int 0, .int 0, .ref a_cw, .ref a_row, .int 0, .ref a_lea, .ref a_sli, .ref a_lef, .ref a_bst, .ref a_try, .int 0, .ref a_mom, .ref a_byt, .int 0, .int 0, .int 0, .int 0, .int 0, .ref a_nxt, .ref a_val])), (a_now, .inl (cI, 221, .inl nw0))])) 0 0 (va_A (w_m_explains cI cZ cP mo a_now a_kep a_isk a_ref a_cw a_row a_lea a_sli a_lef a_bst a_try a_mom a_byt a_nxt a_val p0 p1 p2) sz) := by
  refine q_enter (by decide) (Nat.le_of_ble_eq_true rfl) ?_
  intro p e s m below meth c ls hX hr hlk hnm hE hK hP hD hS hA hl
  obtain ⟨hx, hb, hml, hown, ht⟩ := id hX
  have hl : lv_has ls 7 [(0, .ref mo), (1, .int p0), (2, .int p1), (3, .int p2)] := hl
  refine lv_iconst (v := 1) hx hb dX7_explains_0 (by decide) ?_
  refine lv_istore (lv' := [(4, .int 1), (0, .ref mo), (1, .int p0), (2, .int p1), (3, .int p2)]) hx hb dX7_explains_1 hl (by decide) rfl (fun ls hl => ?_)
  refine lv_iconst (v := 0) hx hb dX7_explains_3 (by decide) ?_
  refine lv_istore (lv' := [(5, .int 0), (4, .int 1), (0, .ref mo), (1, .int p0), (2, .int p1), (3, .int p2)]) hx hb dX7_explains_4 hl (by decide) rfl (fun ls hl => ?_)
  refine lv_iload hx hb dX7_explains_6 (lv_at hl 0 rfl) ?_
  refine lv_aload_n hx hb dX7_explains_8 rfl (lv_at hl 2 rfl) ?_
  refine q_Vi (wr := []) [0, 1] [] hX hE hK hP hD hS hA hl.1 lk_X7_64 (c_m_notes l D cI cZ cP sa mo a_now a_kep a_isk a_ref a_cw a_row a_lea a_sli a_lef a_bst a_try a_mom a_byt a_nxt a_val 0 1 0 0 0 0 0 0 0 0 0 0 0 _) rfl rfl rfl rfl (by decide) 0 7 rfl rfl rfl rfl (Nat.le_of_ble_eq_true rfl) rfl rfl ⟨Nat.le_of_ble_eq_true rfl, Nat.le_of_ble_eq_true rfl⟩ ⟨Nat.le_of_ble_eq_true rfl, Nat.le_of_ble_eq_true rfl⟩ dX7_explains_9 (fun x_1 _ H locs h_1 hP hD hS => ?_)
  have hP : va_P D vwCl [(mo, .inr (7, [.ref a_now, .ref a_kep, .ref a_isk, .ref a_ref, .long 0, .long 1, .int 0, .int 0, .int 0, .int 0, .ref a_cw, .ref a_row, .int 0, .ref a_lea, .ref a_sli, .ref a_lef, .ref a_bst, .ref a_try, .int 0, .ref a_mom, .ref a_byt, .int 0, .int 0, .int 0, .int 0, .int 0, .ref a_nxt, .ref a_val])), (a_now, .inl (cI, 221, .inl nw0))] H := hP
  have hD : va_D (va_A (w_m_explains cI cZ cP mo a_now a_kep a_isk a_ref a_cw a_row a_lea a_sli a_lef a_bst a_try a_mom a_byt a_nxt a_val p0 p1 p2) sz) [(mo, .inr (7, [.ref a_now, .ref a_kep, .ref a_isk, .ref a_ref, .long 0, .long 1, .int 0, .int 0, .int 0, .int 0, .ref a_cw, .ref a_row, .int 0, .ref a_lea, .ref a_sli, .ref a_lef, .ref a_bst, .ref a_try, .int 0, .ref a_mom, .ref a_byt, .int 0, .int 0, .int 0, .int 0, .int 0, .ref a_nxt, .ref a_val])), (a_now, .inl (cI, 221, .inl nw0))] := hD
  subst h_1
  refine lv_icmp_ge (tgt := 95) hx hb dX7_explains_12 (by decide) (fun _ => ?_) (fun c_2 => absurd (by decide) c_2)
  refine lv_iload hx hb dX7_explains_95 (lv_at hl 1 rfl) ?_
  exact q_zret hX hr hlk (by decide) () rfl (hP.sub [0, 1] rfl) (hD.sub [0, 1] (by decide) rfl) hS dX7_explains_97
abbrev w_m_late (cI cZ cP : ClassId) (mo : Nat) (a_now : Nat) (a_kep : Nat) (a_isk : Nat) (a_ref : Nat) (a_cw : Nat) (a_row : Nat) (a_lea : Nat) (a_sli : Nat) (a_lef : Nat) (a_bst : Nat) (a_try : Nat) (a_mom : Nat) (a_byt : Nat) (a_nxt : Nat) (a_val : Nat) : va_W := [(mo, .inr (7, [.ref a_now, .ref a_kep, .ref a_isk, .ref a_ref, .long 0, .long 1, .int 0, .int 0, .int 0, .int 0, .ref a_cw, .ref a_row, .int 0, .ref a_lea, .ref a_sli, .ref a_lef, .ref a_bst, .ref a_try, .int 0, .ref a_mom, .ref a_byt, .int 0, .int 0, .int 0, .int 0, .int 0, .ref a_nxt, .ref a_val])), (a_now, .inl (cI, 221, .inl nw0))]
set_option maxHeartbeats 4000000 in
set_option maxRecDepth 100000 in
theorem c_m_late (l : Launch) (D : va_G) (cI cZ cP : ClassId) (sa : Nat → Nat) (mo : Nat) (a_now : Nat) (a_kep : Nat) (a_isk : Nat) (a_ref : Nat) (a_cw : Nat) (a_row : Nat) (a_lea : Nat) (a_sli : Nat) (a_lef : Nat) (a_bst : Nat) (a_try : Nat) (a_mom : Nat) (a_byt : Nat) (a_nxt : Nat) (a_val : Nat) (sz : Nat) : Met l yX7_late (qW yX7_late cX7_late 4 (some .int)) ({ frames := 2, cells := 0, slots := 0, locals := 46 } : Room) (qP D (TY cI cZ cP) sa [.ref mo] (w_m_late cI cZ cP mo a_now a_kep a_isk a_ref a_cw a_row a_lea a_sli a_lef a_bst a_try a_mom a_byt a_nxt a_val) sz) (qQi D (w_m_late cI cZ cP mo a_now a_kep a_isk a_ref a_cw a_row a_lea a_sli a_lef a_bst a_try a_mom a_byt a_nxt a_val) sz (fun (r : Int32) (_ : Unit) => r = 15) (fun _ => [])) 0 0 (va_A (w_m_late cI cZ cP mo a_now a_kep a_isk a_ref a_cw a_row a_lea a_sli a_lef a_bst a_try a_mom a_byt a_nxt a_val) sz) := by
  refine q_enter (by decide) (Nat.le_of_ble_eq_true rfl) ?_
  intro p e s m below meth c ls hX hr hlk hnm hE hK hP hD hS hA hl
  obtain ⟨hx, hb, hml, hown, ht⟩ := id hX
  have hl : lv_has ls 4 [(0, .ref mo)] := hl
  refine lv_iconst (v := 0) hx hb dX7_late_0 (by decide) ?_
  refine lv_istore_n (lv' := [(1, .int 0), (0, .ref mo)]) hx hb dX7_late_1 rfl hl (by decide) rfl (fun ls hl => ?_)
  refine lv_iconst (v := 0) hx hb dX7_late_2 (by decide) ?_
  refine lv_istore_n (lv' := [(2, .int 0), (1, .int 0), (0, .ref mo)]) hx hb dX7_late_3 rfl hl (by decide) rfl (fun ls hl => ?_)
  refine lv_iload_n hx hb dX7_late_4 rfl (lv_at hl 0 rfl) ?_
  refine lv_iconst (v := 4) hx hb dX7_late_5 (by decide) ?_
  refine lv_icmp_ge (tgt := 56) hx hb dX7_late_6 (by decide) (fun c_1 => absurd c_1 (by decide)) (fun _ => ?_)
  refine lv_iconst (v := 0) hx hb dX7_late_9 (by decide) ?_
  refine lv_istore_n (lv' := [(3, .int 0), (2, .int 0), (1, .int 0), (0, .ref mo)]) hx hb dX7_late_10 rfl hl (by decide) rfl (fun ls hl => ?_)
  refine lv_iload_n hx hb dX7_late_11 rfl (lv_at hl 0 rfl) ?_
  refine lv_sipush (v := 640) hx hb dX7_late_12 (by decide) ?_
  refine lv_icmp_ge (tgt := 50) hx hb dX7_late_15 (by decide) (fun c_2 => absurd c_2 (by decide)) (fun _ => ?_)
  refine lv_iload_n hx hb dX7_late_18 rfl (lv_at hl 2 rfl) ?_
  refine lv_aload_n hx hb dX7_late_19 rfl (lv_at hl 3 rfl) ?_
  refine lv_iload_n hx hb dX7_late_20 rfl (lv_at hl 1 rfl) ?_
  refine lv_iload_n hx hb dX7_late_21 rfl (lv_at hl 0 rfl) ?_
  refine lv_bipush (v := 10) hx hb dX7_late_22 (by decide) ?_
  refine lv_idiv hx hb dX7_late_24 (by decide) ?_
  refine q_i (z := 0) (by decide) ?_
  refine lv_iload_n hx hb dX7_late_25 rfl (lv_at hl 0 rfl) ?_
  refine lv_bipush (v := 10) hx hb dX7_late_26 (by decide) ?_
  refine lv_irem hx hb dX7_late_28 (by decide) ?_
  refine q_i (z := 0) (by decide) ?_
  refine q_Vi (wr := []) [0, 1] [] hX hE hK hP hD hS hA hl.1 lk_X7_253 (c_m_explains l D cI cZ cP sa mo a_now a_kep a_isk a_ref a_cw a_row a_lea a_sli a_lef a_bst a_try a_mom a_byt a_nxt a_val 0 0 0 _) rfl rfl rfl rfl (by decide) 0 7 rfl rfl rfl rfl (Nat.le_of_ble_eq_true rfl) rfl rfl ⟨Nat.le_of_ble_eq_true rfl, Nat.le_of_ble_eq_true rfl⟩ ⟨Nat.le_of_ble_eq_true rfl, Nat.le_of_ble_eq_true rfl⟩ dX7_late_29 (fun x_3 _ H locs h_3 hP hD hS => ?_)
  have hP : va_P D vwCl [(mo, .inr (7, [.ref a_now, .ref a_kep, .ref a_isk, .ref a_ref, .long 0, .long 1, .int 0, .int 0, .int 0, .int 0, .ref a_cw, .ref a_row, .int 0, .ref a_lea, .ref a_sli, .ref a_lef, .ref a_bst, .ref a_try, .int 0, .ref a_mom, .ref a_byt, .int 0, .int 0, .int 0, .int 0, .int 0, .ref a_nxt, .ref a_val])), (a_now, .inl (cI, 221, .inl nw0))] H := hP
  have hD : va_D (va_A (w_m_late cI cZ cP mo a_now a_kep a_isk a_ref a_cw a_row a_lea a_sli a_lef a_bst a_try a_mom a_byt a_nxt a_val) sz) [(mo, .inr (7, [.ref a_now, .ref a_kep, .ref a_isk, .ref a_ref, .long 0, .long 1, .int 0, .int 0, .int 0, .int 0, .ref a_cw, .ref a_row, .int 0, .ref a_lea, .ref a_sli, .ref a_lef, .ref a_bst, .ref a_try, .int 0, .ref a_mom, .ref a_byt, .int 0, .int 0, .int 0, .int 0, .int 0, .ref a_nxt, .ref a_val])), (a_now, .inl (cI, 221, .inl nw0))] := hD
  subst h_3
  refine lv_if_eq (tgt := 41) hx hb dX7_late_32 (by decide) (fun c_4 => absurd c_4 (by decide)) (fun _ => ?_)
  refine lv_iconst (v := 1) hx hb dX7_late_35 (by decide) ?_
  refine lv_iload_n hx hb dX7_late_36 rfl (lv_at hl 1 rfl) ?_
  refine lv_ishl hx hb dX7_late_37 ?_
  refine q_i (z := 1) (by decide) ?_
  refine lv_goto (tgt := 42) hx hb dX7_late_38 (by decide) ?_
  refine lv_ior hx hb dX7_late_42 ?_
  refine q_i (z := 1) (by decide) ?_
  refine lv_istore_n (lv' := [(1, .int 1), (3, .int 0), (2, .int 0), (0, .ref mo)]) hx hb dX7_late_43 rfl hl (by decide) rfl (fun ls hl => ?_)
  refine lv_iinc (v := 1) (lv' := [(3, .int 1), (1, .int 1), (2, .int 0), (0, .ref mo)]) hx hb dX7_late_44 hl (k := 1) rfl (by decide) (by decide) rfl (fun ls hl => ?_)
  refine lv_goto (tgt := 11) hx hb dX7_late_47 (by decide) ?_
  have lp_11 : ∀ (n_11 : Nat) (k0 : Nat), (1 ≤ k0 ∧ k0 ≤ 640) → (641 ≤ k0 + n_11) → ∀ (H : Heap) (locs : List Loc) (ls : Array Slot), va_P D vwCl [(mo, .inr (7, [.ref a_now, .ref a_kep, .ref a_isk, .ref a_ref, .long 0, .long 1, .int 0, .int 0, .int 0, .int 0, .ref a_cw, .ref a_row, .int 0, .ref a_lea, .ref a_sli, .ref a_lef, .ref a_bst, .ref a_try, .int 0, .ref a_mom, .ref a_byt, .int 0, .int 0, .int 0, .int 0, .int 0, .ref a_nxt, .ref a_val])), (a_now, .inl (cI, 221, .inl nw0))] H → va_D (va_A (w_m_late cI cZ cP mo a_now a_kep a_isk a_ref a_cw a_row a_lea a_sli a_lef a_bst a_try a_mom a_byt a_nxt a_val) sz) [(mo, .inr (7, [.ref a_now, .ref a_kep, .ref a_isk, .ref a_ref, .long 0, .long 1, .int 0, .int 0, .int 0, .int 0, .ref a_cw, .ref a_row, .int 0, .ref a_lea, .ref a_sli, .ref a_lef, .ref a_bst, .ref a_try, .int 0, .ref a_mom, .ref a_byt, .int 0, .int 0, .int 0, .int 0, .int 0, .ref a_nxt, .ref a_val])), (a_now, .inl (cI, 221, .inl nw0))] → va_S (va_A (w_m_late cI cZ cP mo a_now a_kep a_isk a_ref a_cw a_row a_lea a_sli a_lef a_bst a_try a_mom a_byt a_nxt a_val) sz) s.heap H locs → lv_has ls 4 [(3, .int (nI k0)), (2, .int 0), (1, .int 1), (0, .ref mo)] → W p l e ({ frames := 2, cells := 0, slots := 0, locals := 46 } : Room) s m ([.ref mo] : List Value).toArray below meth c H locs 0 0 (MQ below (qQi D (w_m_late cI cZ cP mo a_now a_kep a_isk a_ref a_cw a_row a_lea a_sli a_lef a_bst a_try a_mom a_byt a_nxt a_val) sz (fun (r : Int32) (_ : Unit) => r = 15) (fun _ => [])) ([.ref mo] : List Value).toArray s 0 0 (va_A (w_m_late cI cZ cP mo a_now a_kep a_isk a_ref a_cw a_row a_lea a_sli a_lef a_bst a_try a_mom a_byt a_nxt a_val) sz)) (F0 m 11 ls []) := by
    intro n_11
    induction n_11 with
    | zero => intro k0 hk0 hm_11; exact absurd hm_11 (by omega)
    | succ n_11 ih_11 =>
      intro k0 hk0 hm_11 H locs ls hP hD hS hl
      refine lv_iload_n hx hb dX7_late_11 rfl (lv_at hl 0 rfl) ?_
      refine lv_sipush (v := 640) hx hb dX7_late_12 (by decide) ?_
      refine lv_icmp_ge (tgt := 50) hx hb dX7_late_15 (by decide) (fun c_5 => ?_) (fun c_5 => ?_)
      · refine lv_iinc (v := 1) (lv' := [(2, .int 1), (3, .int (nI k0)), (1, .int 1), (0, .ref mo)]) hx hb dX7_late_50 hl (k := 1) rfl (by decide) (by decide) rfl (fun ls hl => ?_)
        refine lv_goto (tgt := 4) hx hb dX7_late_53 (by decide) ?_
        refine lv_iload_n hx hb dX7_late_4 rfl (lv_at hl 0 rfl) ?_
        refine lv_iconst (v := 4) hx hb dX7_late_5 (by decide) ?_
        refine lv_icmp_ge (tgt := 56) hx hb dX7_late_6 (by decide) (fun c_6 => absurd c_6 (by decide)) (fun _ => ?_)
        refine lv_iconst (v := 0) hx hb dX7_late_9 (by decide) ?_
        refine lv_istore_n (lv' := [(3, .int 0), (2, .int 1), (1, .int 1), (0, .ref mo)]) hx hb dX7_late_10 rfl hl (by decide) rfl (fun ls hl => ?_)
        refine lv_iload_n hx hb dX7_late_11 rfl (lv_at hl 0 rfl) ?_
        refine lv_sipush (v := 640) hx hb dX7_late_12 (by decide) ?_
        refine lv_icmp_ge (tgt := 50) hx hb dX7_late_15 (by decide) (fun c_7 => absurd c_7 (by decide)) (fun _ => ?_)
        refine lv_iload_n hx hb dX7_late_18 rfl (lv_at hl 2 rfl) ?_
        refine lv_aload_n hx hb dX7_late_19 rfl (lv_at hl 3 rfl) ?_
        refine lv_iload_n hx hb dX7_late_20 rfl (lv_at hl 1 rfl) ?_
        refine lv_iload_n hx hb dX7_late_21 rfl (lv_at hl 0 rfl) ?_
        refine lv_bipush (v := 10) hx hb dX7_late_22 (by decide) ?_
        refine lv_idiv hx hb dX7_late_24 (by decide) ?_
        refine q_i (z := 0) (by decide) ?_
        refine lv_iload_n hx hb dX7_late_25 rfl (lv_at hl 0 rfl) ?_
        refine lv_bipush (v := 10) hx hb dX7_late_26 (by decide) ?_
        refine lv_irem hx hb dX7_late_28 (by decide) ?_
        refine q_i (z := 0) (by decide) ?_
        refine q_Vi (wr := []) [0, 1] [] hX hE hK hP hD hS hA hl.1 lk_X7_253 (c_m_explains l D cI cZ cP sa mo a_now a_kep a_isk a_ref a_cw a_row a_lea a_sli a_lef a_bst a_try a_mom a_byt a_nxt a_val 1 0 0 _) rfl rfl rfl rfl (by decide) 0 7 rfl rfl rfl rfl (Nat.le_of_ble_eq_true rfl) rfl rfl ⟨Nat.le_of_ble_eq_true rfl, Nat.le_of_ble_eq_true rfl⟩ ⟨Nat.le_of_ble_eq_true rfl, Nat.le_of_ble_eq_true rfl⟩ dX7_late_29 (fun x_8 _ H locs h_8 hP hD hS => ?_)
        have hP : va_P D vwCl [(mo, .inr (7, [.ref a_now, .ref a_kep, .ref a_isk, .ref a_ref, .long 0, .long 1, .int 0, .int 0, .int 0, .int 0, .ref a_cw, .ref a_row, .int 0, .ref a_lea, .ref a_sli, .ref a_lef, .ref a_bst, .ref a_try, .int 0, .ref a_mom, .ref a_byt, .int 0, .int 0, .int 0, .int 0, .int 0, .ref a_nxt, .ref a_val])), (a_now, .inl (cI, 221, .inl nw0))] H := hP
        have hD : va_D (va_A (w_m_late cI cZ cP mo a_now a_kep a_isk a_ref a_cw a_row a_lea a_sli a_lef a_bst a_try a_mom a_byt a_nxt a_val) sz) [(mo, .inr (7, [.ref a_now, .ref a_kep, .ref a_isk, .ref a_ref, .long 0, .long 1, .int 0, .int 0, .int 0, .int 0, .ref a_cw, .ref a_row, .int 0, .ref a_lea, .ref a_sli, .ref a_lef, .ref a_bst, .ref a_try, .int 0, .ref a_mom, .ref a_byt, .int 0, .int 0, .int 0, .int 0, .int 0, .ref a_nxt, .ref a_val])), (a_now, .inl (cI, 221, .inl nw0))] := hD
        subst h_8
        refine lv_if_eq (tgt := 41) hx hb dX7_late_32 (by decide) (fun c_9 => absurd c_9 (by decide)) (fun _ => ?_)
        refine lv_iconst (v := 1) hx hb dX7_late_35 (by decide) ?_
        refine lv_iload_n hx hb dX7_late_36 rfl (lv_at hl 1 rfl) ?_
        refine lv_ishl hx hb dX7_late_37 ?_
        refine q_i (z := 2) (by decide) ?_
        refine lv_goto (tgt := 42) hx hb dX7_late_38 (by decide) ?_
        refine lv_ior hx hb dX7_late_42 ?_
        refine q_i (z := 3) (by decide) ?_
        refine lv_istore_n (lv' := [(1, .int 3), (3, .int 0), (2, .int 1), (0, .ref mo)]) hx hb dX7_late_43 rfl hl (by decide) rfl (fun ls hl => ?_)
        refine lv_iinc (v := 1) (lv' := [(3, .int 1), (1, .int 3), (2, .int 1), (0, .ref mo)]) hx hb dX7_late_44 hl (k := 1) rfl (by decide) (by decide) rfl (fun ls hl => ?_)
        refine lv_goto (tgt := 11) hx hb dX7_late_47 (by decide) ?_
        have lp_11 : ∀ (n_11 : Nat) (k1 : Nat), (1 ≤ k1 ∧ k1 ≤ 640) → (641 ≤ k1 + n_11) → ∀ (H : Heap) (locs : List Loc) (ls : Array Slot), va_P D vwCl [(mo, .inr (7, [.ref a_now, .ref a_kep, .ref a_isk, .ref a_ref, .long 0, .long 1, .int 0, .int 0, .int 0, .int 0, .ref a_cw, .ref a_row, .int 0, .ref a_lea, .ref a_sli, .ref a_lef, .ref a_bst, .ref a_try, .int 0, .ref a_mom, .ref a_byt, .int 0, .int 0, .int 0, .int 0, .int 0, .ref a_nxt, .ref a_val])), (a_now, .inl (cI, 221, .inl nw0))] H → va_D (va_A (w_m_late cI cZ cP mo a_now a_kep a_isk a_ref a_cw a_row a_lea a_sli a_lef a_bst a_try a_mom a_byt a_nxt a_val) sz) [(mo, .inr (7, [.ref a_now, .ref a_kep, .ref a_isk, .ref a_ref, .long 0, .long 1, .int 0, .int 0, .int 0, .int 0, .ref a_cw, .ref a_row, .int 0, .ref a_lea, .ref a_sli, .ref a_lef, .ref a_bst, .ref a_try, .int 0, .ref a_mom, .ref a_byt, .int 0, .int 0, .int 0, .int 0, .int 0, .ref a_nxt, .ref a_val])), (a_now, .inl (cI, 221, .inl nw0))] → va_S (va_A (w_m_late cI cZ cP mo a_now a_kep a_isk a_ref a_cw a_row a_lea a_sli a_lef a_bst a_try a_mom a_byt a_nxt a_val) sz) s.heap H locs → lv_has ls 4 [(3, .int (nI k1)), (2, .int 1), (1, .int 3), (0, .ref mo)] → W p l e ({ frames := 2, cells := 0, slots := 0, locals := 46 } : Room) s m ([.ref mo] : List Value).toArray below meth c H locs 0 0 (MQ below (qQi D (w_m_late cI cZ cP mo a_now a_kep a_isk a_ref a_cw a_row a_lea a_sli a_lef a_bst a_try a_mom a_byt a_nxt a_val) sz (fun (r : Int32) (_ : Unit) => r = 15) (fun _ => [])) ([.ref mo] : List Value).toArray s 0 0 (va_A (w_m_late cI cZ cP mo a_now a_kep a_isk a_ref a_cw a_row a_lea a_sli a_lef a_bst a_try a_mom a_byt a_nxt a_val) sz)) (F0 m 11 ls []) := by
          intro n_11
          induction n_11 with
          | zero => intro k1 hk1 hm_11; exact absurd hm_11 (by omega)
          | succ n_11 ih_11 =>
            intro k1 hk1 hm_11 H locs ls hP hD hS hl
            refine lv_iload_n hx hb dX7_late_11 rfl (lv_at hl 0 rfl) ?_
            refine lv_sipush (v := 640) hx hb dX7_late_12 (by decide) ?_
            refine lv_icmp_ge (tgt := 50) hx hb dX7_late_15 (by decide) (fun c_10 => ?_) (fun c_10 => ?_)
            · refine lv_iinc (v := 2) (lv' := [(2, .int 2), (3, .int (nI k1)), (1, .int 3), (0, .ref mo)]) hx hb dX7_late_50 hl (k := 1) rfl (by decide) (by decide) rfl (fun ls hl => ?_)
              refine lv_goto (tgt := 4) hx hb dX7_late_53 (by decide) ?_
              refine lv_iload_n hx hb dX7_late_4 rfl (lv_at hl 0 rfl) ?_
              refine lv_iconst (v := 4) hx hb dX7_late_5 (by decide) ?_
              refine lv_icmp_ge (tgt := 56) hx hb dX7_late_6 (by decide) (fun c_11 => absurd c_11 (by decide)) (fun _ => ?_)
              refine lv_iconst (v := 0) hx hb dX7_late_9 (by decide) ?_
              refine lv_istore_n (lv' := [(3, .int 0), (2, .int 2), (1, .int 3), (0, .ref mo)]) hx hb dX7_late_10 rfl hl (by decide) rfl (fun ls hl => ?_)
              refine lv_iload_n hx hb dX7_late_11 rfl (lv_at hl 0 rfl) ?_
              refine lv_sipush (v := 640) hx hb dX7_late_12 (by decide) ?_
              refine lv_icmp_ge (tgt := 50) hx hb dX7_late_15 (by decide) (fun c_12 => absurd c_12 (by decide)) (fun _ => ?_)
              refine lv_iload_n hx hb dX7_late_18 rfl (lv_at hl 2 rfl) ?_
              refine lv_aload_n hx hb dX7_late_19 rfl (lv_at hl 3 rfl) ?_
              refine lv_iload_n hx hb dX7_late_20 rfl (lv_at hl 1 rfl) ?_
              refine lv_iload_n hx hb dX7_late_21 rfl (lv_at hl 0 rfl) ?_
              refine lv_bipush (v := 10) hx hb dX7_late_22 (by decide) ?_
              refine lv_idiv hx hb dX7_late_24 (by decide) ?_
              refine q_i (z := 0) (by decide) ?_
              refine lv_iload_n hx hb dX7_late_25 rfl (lv_at hl 0 rfl) ?_
              refine lv_bipush (v := 10) hx hb dX7_late_26 (by decide) ?_
              refine lv_irem hx hb dX7_late_28 (by decide) ?_
              refine q_i (z := 0) (by decide) ?_
              refine q_Vi (wr := []) [0, 1] [] hX hE hK hP hD hS hA hl.1 lk_X7_253 (c_m_explains l D cI cZ cP sa mo a_now a_kep a_isk a_ref a_cw a_row a_lea a_sli a_lef a_bst a_try a_mom a_byt a_nxt a_val 2 0 0 _) rfl rfl rfl rfl (by decide) 0 7 rfl rfl rfl rfl (Nat.le_of_ble_eq_true rfl) rfl rfl ⟨Nat.le_of_ble_eq_true rfl, Nat.le_of_ble_eq_true rfl⟩ ⟨Nat.le_of_ble_eq_true rfl, Nat.le_of_ble_eq_true rfl⟩ dX7_late_29 (fun x_13 _ H locs h_13 hP hD hS => ?_)
              have hP : va_P D vwCl [(mo, .inr (7, [.ref a_now, .ref a_kep, .ref a_isk, .ref a_ref, .long 0, .long 1, .int 0, .int 0, .int 0, .int 0, .ref a_cw, .ref a_row, .int 0, .ref a_lea, .ref a_sli, .ref a_lef, .ref a_bst, .ref a_try, .int 0, .ref a_mom, .ref a_byt, .int 0, .int 0, .int 0, .int 0, .int 0, .ref a_nxt, .ref a_val])), (a_now, .inl (cI, 221, .inl nw0))] H := hP
              have hD : va_D (va_A (w_m_late cI cZ cP mo a_now a_kep a_isk a_ref a_cw a_row a_lea a_sli a_lef a_bst a_try a_mom a_byt a_nxt a_val) sz) [(mo, .inr (7, [.ref a_now, .ref a_kep, .ref a_isk, .ref a_ref, .long 0, .long 1, .int 0, .int 0, .int 0, .int 0, .ref a_cw, .ref a_row, .int 0, .ref a_lea, .ref a_sli, .ref a_lef, .ref a_bst, .ref a_try, .int 0, .ref a_mom, .ref a_byt, .int 0, .int 0, .int 0, .int 0, .int 0, .ref a_nxt, .ref a_val])), (a_now, .inl (cI, 221, .inl nw0))] := hD
              subst h_13
              refine lv_if_eq (tgt := 41) hx hb dX7_late_32 (by decide) (fun c_14 => absurd c_14 (by decide)) (fun _ => ?_)
              refine lv_iconst (v := 1) hx hb dX7_late_35 (by decide) ?_
              refine lv_iload_n hx hb dX7_late_36 rfl (lv_at hl 1 rfl) ?_
              refine lv_ishl hx hb dX7_late_37 ?_
              refine q_i (z := 4) (by decide) ?_
              refine lv_goto (tgt := 42) hx hb dX7_late_38 (by decide) ?_
              refine lv_ior hx hb dX7_late_42 ?_
              refine q_i (z := 7) (by decide) ?_
              refine lv_istore_n (lv' := [(1, .int 7), (3, .int 0), (2, .int 2), (0, .ref mo)]) hx hb dX7_late_43 rfl hl (by decide) rfl (fun ls hl => ?_)
              refine lv_iinc (v := 1) (lv' := [(3, .int 1), (1, .int 7), (2, .int 2), (0, .ref mo)]) hx hb dX7_late_44 hl (k := 1) rfl (by decide) (by decide) rfl (fun ls hl => ?_)
              refine lv_goto (tgt := 11) hx hb dX7_late_47 (by decide) ?_
              have lp_11 : ∀ (n_11 : Nat) (k2 : Nat), (1 ≤ k2 ∧ k2 ≤ 640) → (641 ≤ k2 + n_11) → ∀ (H : Heap) (locs : List Loc) (ls : Array Slot), va_P D vwCl [(mo, .inr (7, [.ref a_now, .ref a_kep, .ref a_isk, .ref a_ref, .long 0, .long 1, .int 0, .int 0, .int 0, .int 0, .ref a_cw, .ref a_row, .int 0, .ref a_lea, .ref a_sli, .ref a_lef, .ref a_bst, .ref a_try, .int 0, .ref a_mom, .ref a_byt, .int 0, .int 0, .int 0, .int 0, .int 0, .ref a_nxt, .ref a_val])), (a_now, .inl (cI, 221, .inl nw0))] H → va_D (va_A (w_m_late cI cZ cP mo a_now a_kep a_isk a_ref a_cw a_row a_lea a_sli a_lef a_bst a_try a_mom a_byt a_nxt a_val) sz) [(mo, .inr (7, [.ref a_now, .ref a_kep, .ref a_isk, .ref a_ref, .long 0, .long 1, .int 0, .int 0, .int 0, .int 0, .ref a_cw, .ref a_row, .int 0, .ref a_lea, .ref a_sli, .ref a_lef, .ref a_bst, .ref a_try, .int 0, .ref a_mom, .ref a_byt, .int 0, .int 0, .int 0, .int 0, .int 0, .ref a_nxt, .ref a_val])), (a_now, .inl (cI, 221, .inl nw0))] → va_S (va_A (w_m_late cI cZ cP mo a_now a_kep a_isk a_ref a_cw a_row a_lea a_sli a_lef a_bst a_try a_mom a_byt a_nxt a_val) sz) s.heap H locs → lv_has ls 4 [(3, .int (nI k2)), (2, .int 2), (1, .int 7), (0, .ref mo)] → W p l e ({ frames := 2, cells := 0, slots := 0, locals := 46 } : Room) s m ([.ref mo] : List Value).toArray below meth c H locs 0 0 (MQ below (qQi D (w_m_late cI cZ cP mo a_now a_kep a_isk a_ref a_cw a_row a_lea a_sli a_lef a_bst a_try a_mom a_byt a_nxt a_val) sz (fun (r : Int32) (_ : Unit) => r = 15) (fun _ => [])) ([.ref mo] : List Value).toArray s 0 0 (va_A (w_m_late cI cZ cP mo a_now a_kep a_isk a_ref a_cw a_row a_lea a_sli a_lef a_bst a_try a_mom a_byt a_nxt a_val) sz)) (F0 m 11 ls []) := by
                intro n_11
                induction n_11 with
                | zero => intro k2 hk2 hm_11; exact absurd hm_11 (by omega)
                | succ n_11 ih_11 =>
                  intro k2 hk2 hm_11 H locs ls hP hD hS hl
                  refine lv_iload_n hx hb dX7_late_11 rfl (lv_at hl 0 rfl) ?_
                  refine lv_sipush (v := 640) hx hb dX7_late_12 (by decide) ?_
                  refine lv_icmp_ge (tgt := 50) hx hb dX7_late_15 (by decide) (fun c_15 => ?_) (fun c_15 => ?_)
                  · refine lv_iinc (v := 3) (lv' := [(2, .int 3), (3, .int (nI k2)), (1, .int 7), (0, .ref mo)]) hx hb dX7_late_50 hl (k := 1) rfl (by decide) (by decide) rfl (fun ls hl => ?_)
                    refine lv_goto (tgt := 4) hx hb dX7_late_53 (by decide) ?_
                    refine lv_iload_n hx hb dX7_late_4 rfl (lv_at hl 0 rfl) ?_
                    refine lv_iconst (v := 4) hx hb dX7_late_5 (by decide) ?_
                    refine lv_icmp_ge (tgt := 56) hx hb dX7_late_6 (by decide) (fun c_16 => absurd c_16 (by decide)) (fun _ => ?_)
                    refine lv_iconst (v := 0) hx hb dX7_late_9 (by decide) ?_
                    refine lv_istore_n (lv' := [(3, .int 0), (2, .int 3), (1, .int 7), (0, .ref mo)]) hx hb dX7_late_10 rfl hl (by decide) rfl (fun ls hl => ?_)
                    refine lv_iload_n hx hb dX7_late_11 rfl (lv_at hl 0 rfl) ?_
                    refine lv_sipush (v := 640) hx hb dX7_late_12 (by decide) ?_
                    refine lv_icmp_ge (tgt := 50) hx hb dX7_late_15 (by decide) (fun c_17 => absurd c_17 (by decide)) (fun _ => ?_)
                    refine lv_iload_n hx hb dX7_late_18 rfl (lv_at hl 2 rfl) ?_
                    refine lv_aload_n hx hb dX7_late_19 rfl (lv_at hl 3 rfl) ?_
                    refine lv_iload_n hx hb dX7_late_20 rfl (lv_at hl 1 rfl) ?_
                    refine lv_iload_n hx hb dX7_late_21 rfl (lv_at hl 0 rfl) ?_
                    refine lv_bipush (v := 10) hx hb dX7_late_22 (by decide) ?_
                    refine lv_idiv hx hb dX7_late_24 (by decide) ?_
                    refine q_i (z := 0) (by decide) ?_
                    refine lv_iload_n hx hb dX7_late_25 rfl (lv_at hl 0 rfl) ?_
                    refine lv_bipush (v := 10) hx hb dX7_late_26 (by decide) ?_
                    refine lv_irem hx hb dX7_late_28 (by decide) ?_
                    refine q_i (z := 0) (by decide) ?_
                    refine q_Vi (wr := []) [0, 1] [] hX hE hK hP hD hS hA hl.1 lk_X7_253 (c_m_explains l D cI cZ cP sa mo a_now a_kep a_isk a_ref a_cw a_row a_lea a_sli a_lef a_bst a_try a_mom a_byt a_nxt a_val 3 0 0 _) rfl rfl rfl rfl (by decide) 0 7 rfl rfl rfl rfl (Nat.le_of_ble_eq_true rfl) rfl rfl ⟨Nat.le_of_ble_eq_true rfl, Nat.le_of_ble_eq_true rfl⟩ ⟨Nat.le_of_ble_eq_true rfl, Nat.le_of_ble_eq_true rfl⟩ dX7_late_29 (fun x_18 _ H locs h_18 hP hD hS => ?_)
                    have hP : va_P D vwCl [(mo, .inr (7, [.ref a_now, .ref a_kep, .ref a_isk, .ref a_ref, .long 0, .long 1, .int 0, .int 0, .int 0, .int 0, .ref a_cw, .ref a_row, .int 0, .ref a_lea, .ref a_sli, .ref a_lef, .ref a_bst, .ref a_try, .int 0, .ref a_mom, .ref a_byt, .int 0, .int 0, .int 0, .int 0, .int 0, .ref a_nxt, .ref a_val])), (a_now, .inl (cI, 221, .inl nw0))] H := hP
                    have hD : va_D (va_A (w_m_late cI cZ cP mo a_now a_kep a_isk a_ref a_cw a_row a_lea a_sli a_lef a_bst a_try a_mom a_byt a_nxt a_val) sz) [(mo, .inr (7, [.ref a_now, .ref a_kep, .ref a_isk, .ref a_ref, .long 0, .long 1, .int 0, .int 0, .int 0, .int 0, .ref a_cw, .ref a_row, .int 0, .ref a_lea, .ref a_sli, .ref a_lef, .ref a_bst, .ref a_try, .int 0, .ref a_mom, .ref a_byt, .int 0, .int 0, .int 0, .int 0, .int 0, .ref a_nxt, .ref a_val])), (a_now, .inl (cI, 221, .inl nw0))] := hD
                    subst h_18
                    refine lv_if_eq (tgt := 41) hx hb dX7_late_32 (by decide) (fun c_19 => absurd c_19 (by decide)) (fun _ => ?_)
                    refine lv_iconst (v := 1) hx hb dX7_late_35 (by decide) ?_
                    refine lv_iload_n hx hb dX7_late_36 rfl (lv_at hl 1 rfl) ?_
                    refine lv_ishl hx hb dX7_late_37 ?_
                    refine q_i (z := 8) (by decide) ?_
                    refine lv_goto (tgt := 42) hx hb dX7_late_38 (by decide) ?_
                    refine lv_ior hx hb dX7_late_42 ?_
                    refine q_i (z := 15) (by decide) ?_
                    refine lv_istore_n (lv' := [(1, .int 15), (3, .int 0), (2, .int 3), (0, .ref mo)]) hx hb dX7_late_43 rfl hl (by decide) rfl (fun ls hl => ?_)
                    refine lv_iinc (v := 1) (lv' := [(3, .int 1), (1, .int 15), (2, .int 3), (0, .ref mo)]) hx hb dX7_late_44 hl (k := 1) rfl (by decide) (by decide) rfl (fun ls hl => ?_)
                    refine lv_goto (tgt := 11) hx hb dX7_late_47 (by decide) ?_
                    have lp_11 : ∀ (n_11 : Nat) (k3 : Nat), (1 ≤ k3 ∧ k3 ≤ 640) → (641 ≤ k3 + n_11) → ∀ (H : Heap) (locs : List Loc) (ls : Array Slot), va_P D vwCl [(mo, .inr (7, [.ref a_now, .ref a_kep, .ref a_isk, .ref a_ref, .long 0, .long 1, .int 0, .int 0, .int 0, .int 0, .ref a_cw, .ref a_row, .int 0, .ref a_lea, .ref a_sli, .ref a_lef, .ref a_bst, .ref a_try, .int 0, .ref a_mom, .ref a_byt, .int 0, .int 0, .int 0, .int 0, .int 0, .ref a_nxt, .ref a_val])), (a_now, .inl (cI, 221, .inl nw0))] H → va_D (va_A (w_m_late cI cZ cP mo a_now a_kep a_isk a_ref a_cw a_row a_lea a_sli a_lef a_bst a_try a_mom a_byt a_nxt a_val) sz) [(mo, .inr (7, [.ref a_now, .ref a_kep, .ref a_isk, .ref a_ref, .long 0, .long 1, .int 0, .int 0, .int 0, .int 0, .ref a_cw, .ref a_row, .int 0, .ref a_lea, .ref a_sli, .ref a_lef, .ref a_bst, .ref a_try, .int 0, .ref a_mom, .ref a_byt, .int 0, .int 0, .int 0, .int 0, .int 0, .ref a_nxt, .ref a_val])), (a_now, .inl (cI, 221, .inl nw0))] → va_S (va_A (w_m_late cI cZ cP mo a_now a_kep a_isk a_ref a_cw a_row a_lea a_sli a_lef a_bst a_try a_mom a_byt a_nxt a_val) sz) s.heap H locs → lv_has ls 4 [(3, .int (nI k3)), (2, .int 3), (1, .int 15), (0, .ref mo)] → W p l e ({ frames := 2, cells := 0, slots := 0, locals := 46 } : Room) s m ([.ref mo] : List Value).toArray below meth c H locs 0 0 (MQ below (qQi D (w_m_late cI cZ cP mo a_now a_kep a_isk a_ref a_cw a_row a_lea a_sli a_lef a_bst a_try a_mom a_byt a_nxt a_val) sz (fun (r : Int32) (_ : Unit) => r = 15) (fun _ => [])) ([.ref mo] : List Value).toArray s 0 0 (va_A (w_m_late cI cZ cP mo a_now a_kep a_isk a_ref a_cw a_row a_lea a_sli a_lef a_bst a_try a_mom a_byt a_nxt a_val) sz)) (F0 m 11 ls []) := by
                      intro n_11
                      induction n_11 with
                      | zero => intro k3 hk3 hm_11; exact absurd hm_11 (by omega)
                      | succ n_11 ih_11 =>
                        intro k3 hk3 hm_11 H locs ls hP hD hS hl
                        refine lv_iload_n hx hb dX7_late_11 rfl (lv_at hl 0 rfl) ?_
                        refine lv_sipush (v := 640) hx hb dX7_late_12 (by decide) ?_
                        refine lv_icmp_ge (tgt := 50) hx hb dX7_late_15 (by decide) (fun c_20 => ?_) (fun c_20 => ?_)
                        · refine lv_iinc (v := 4) (lv' := [(2, .int 4), (3, .int (nI k3)), (1, .int 15), (0, .ref mo)]) hx hb dX7_late_50 hl (k := 1) rfl (by decide) (by decide) rfl (fun ls hl => ?_)
                          refine lv_goto (tgt := 4) hx hb dX7_late_53 (by decide) ?_
                          refine lv_iload_n hx hb dX7_late_4 rfl (lv_at hl 0 rfl) ?_
                          refine lv_iconst (v := 4) hx hb dX7_late_5 (by decide) ?_
                          refine lv_icmp_ge (tgt := 56) hx hb dX7_late_6 (by decide) (fun _ => ?_) (fun c_21 => absurd (by decide) c_21)
                          refine lv_iload_n hx hb dX7_late_56 rfl (lv_at hl 2 rfl) ?_
                          exact q_iret hX hr hlk () rfl (hP.sub [] rfl) (hD.sub [] (by decide) rfl) hS dX7_late_57
                        · have hc_k3 : k3 < 640 := nI_dnn (a := 640) c_20 (by omega) (by omega)
                          refine lv_iload_n hx hb dX7_late_18 rfl (lv_at hl 2 rfl) ?_
                          refine lv_aload_n hx hb dX7_late_19 rfl (lv_at hl 3 rfl) ?_
                          refine lv_iload_n hx hb dX7_late_20 rfl (lv_at hl 1 rfl) ?_
                          refine lv_iload_n hx hb dX7_late_21 rfl (lv_at hl 0 rfl) ?_
                          refine lv_bipush (v := 10) hx hb dX7_late_22 (by decide) ?_
                          refine lv_idiv hx hb dX7_late_24 (by decide) ?_
                          refine lv_iload_n hx hb dX7_late_25 rfl (lv_at hl 0 rfl) ?_
                          refine lv_bipush (v := 10) hx hb dX7_late_26 (by decide) ?_
                          refine lv_irem hx hb dX7_late_28 (by decide) ?_
                          refine q_Vi (wr := []) [0, 1] [] hX hE hK hP hD hS hA hl.1 lk_X7_253 (c_m_explains l D cI cZ cP sa mo a_now a_kep a_isk a_ref a_cw a_row a_lea a_sli a_lef a_bst a_try a_mom a_byt a_nxt a_val 3 ((nI k3) / 10) ((nI k3) - (nI k3) / 10 * 10) _) rfl rfl rfl rfl (by decide) 0 7 rfl rfl rfl rfl (Nat.le_of_ble_eq_true rfl) rfl rfl ⟨Nat.le_of_ble_eq_true rfl, Nat.le_of_ble_eq_true rfl⟩ ⟨Nat.le_of_ble_eq_true rfl, Nat.le_of_ble_eq_true rfl⟩ dX7_late_29 (fun x_22 _ H locs h_22 hP hD hS => ?_)
                          have hP : va_P D vwCl [(mo, .inr (7, [.ref a_now, .ref a_kep, .ref a_isk, .ref a_ref, .long 0, .long 1, .int 0, .int 0, .int 0, .int 0, .ref a_cw, .ref a_row, .int 0, .ref a_lea, .ref a_sli, .ref a_lef, .ref a_bst, .ref a_try, .int 0, .ref a_mom, .ref a_byt, .int 0, .int 0, .int 0, .int 0, .int 0, .ref a_nxt, .ref a_val])), (a_now, .inl (cI, 221, .inl nw0))] H := hP
                          have hD : va_D (va_A (w_m_late cI cZ cP mo a_now a_kep a_isk a_ref a_cw a_row a_lea a_sli a_lef a_bst a_try a_mom a_byt a_nxt a_val) sz) [(mo, .inr (7, [.ref a_now, .ref a_kep, .ref a_isk, .ref a_ref, .long 0, .long 1, .int 0, .int 0, .int 0, .int 0, .ref a_cw, .ref a_row, .int 0, .ref a_lea, .ref a_sli, .ref a_lef, .ref a_bst, .ref a_try, .int 0, .ref a_mom, .ref a_byt, .int 0, .int 0, .int 0, .int 0, .int 0, .ref a_nxt, .ref a_val])), (a_now, .inl (cI, 221, .inl nw0))] := hD
                          subst h_22
                          refine lv_if_eq (tgt := 41) hx hb dX7_late_32 (by decide) (fun c_23 => absurd c_23 (by decide)) (fun _ => ?_)
                          refine lv_iconst (v := 1) hx hb dX7_late_35 (by decide) ?_
                          refine lv_iload_n hx hb dX7_late_36 rfl (lv_at hl 1 rfl) ?_
                          refine lv_ishl hx hb dX7_late_37 ?_
                          refine q_i (z := 8) (by decide) ?_
                          refine lv_goto (tgt := 42) hx hb dX7_late_38 (by decide) ?_
                          refine lv_ior hx hb dX7_late_42 ?_
                          refine q_i (z := 15) (by decide) ?_
                          refine lv_istore_n (lv' := [(1, .int 15), (3, .int (nI k3)), (2, .int 3), (0, .ref mo)]) hx hb dX7_late_43 rfl hl (by decide) rfl (fun ls hl => ?_)
                          refine lv_iinc (v := (nI (k3 + 1))) (lv' := [(3, .int (nI (k3 + 1))), (1, .int 15), (2, .int 3), (0, .ref mo)]) hx hb dX7_late_44 hl (k := 1) rfl (nI_1 k3) (by decide) rfl (fun ls hl => ?_)
                          refine lv_goto (tgt := 11) hx hb dX7_late_47 (by decide) ?_
                          exact ih_11 (k3 + 1) (by omega) (by omega) _ _ _ hP hD hS (lv_sub hl [0, 2, 1, 3] rfl)
                    exact lp_11 641 1 (by omega) (by omega) _ _ _ hP hD hS (lv_sub hl [0, 2, 1, 3] rfl)
                  · have hc_k2 : k2 < 640 := nI_dnn (a := 640) c_15 (by omega) (by omega)
                    refine lv_iload_n hx hb dX7_late_18 rfl (lv_at hl 2 rfl) ?_
                    refine lv_aload_n hx hb dX7_late_19 rfl (lv_at hl 3 rfl) ?_
                    refine lv_iload_n hx hb dX7_late_20 rfl (lv_at hl 1 rfl) ?_
                    refine lv_iload_n hx hb dX7_late_21 rfl (lv_at hl 0 rfl) ?_
                    refine lv_bipush (v := 10) hx hb dX7_late_22 (by decide) ?_
                    refine lv_idiv hx hb dX7_late_24 (by decide) ?_
                    refine lv_iload_n hx hb dX7_late_25 rfl (lv_at hl 0 rfl) ?_
                    refine lv_bipush (v := 10) hx hb dX7_late_26 (by decide) ?_
                    refine lv_irem hx hb dX7_late_28 (by decide) ?_
                    refine q_Vi (wr := []) [0, 1] [] hX hE hK hP hD hS hA hl.1 lk_X7_253 (c_m_explains l D cI cZ cP sa mo a_now a_kep a_isk a_ref a_cw a_row a_lea a_sli a_lef a_bst a_try a_mom a_byt a_nxt a_val 2 ((nI k2) / 10) ((nI k2) - (nI k2) / 10 * 10) _) rfl rfl rfl rfl (by decide) 0 7 rfl rfl rfl rfl (Nat.le_of_ble_eq_true rfl) rfl rfl ⟨Nat.le_of_ble_eq_true rfl, Nat.le_of_ble_eq_true rfl⟩ ⟨Nat.le_of_ble_eq_true rfl, Nat.le_of_ble_eq_true rfl⟩ dX7_late_29 (fun x_24 _ H locs h_24 hP hD hS => ?_)
                    have hP : va_P D vwCl [(mo, .inr (7, [.ref a_now, .ref a_kep, .ref a_isk, .ref a_ref, .long 0, .long 1, .int 0, .int 0, .int 0, .int 0, .ref a_cw, .ref a_row, .int 0, .ref a_lea, .ref a_sli, .ref a_lef, .ref a_bst, .ref a_try, .int 0, .ref a_mom, .ref a_byt, .int 0, .int 0, .int 0, .int 0, .int 0, .ref a_nxt, .ref a_val])), (a_now, .inl (cI, 221, .inl nw0))] H := hP
                    have hD : va_D (va_A (w_m_late cI cZ cP mo a_now a_kep a_isk a_ref a_cw a_row a_lea a_sli a_lef a_bst a_try a_mom a_byt a_nxt a_val) sz) [(mo, .inr (7, [.ref a_now, .ref a_kep, .ref a_isk, .ref a_ref, .long 0, .long 1, .int 0, .int 0, .int 0, .int 0, .ref a_cw, .ref a_row, .int 0, .ref a_lea, .ref a_sli, .ref a_lef, .ref a_bst, .ref a_try, .int 0, .ref a_mom, .ref a_byt, .int 0, .int 0, .int 0, .int 0, .int 0, .ref a_nxt, .ref a_val])), (a_now, .inl (cI, 221, .inl nw0))] := hD
                    subst h_24
                    refine lv_if_eq (tgt := 41) hx hb dX7_late_32 (by decide) (fun c_25 => absurd c_25 (by decide)) (fun _ => ?_)
                    refine lv_iconst (v := 1) hx hb dX7_late_35 (by decide) ?_
                    refine lv_iload_n hx hb dX7_late_36 rfl (lv_at hl 1 rfl) ?_
                    refine lv_ishl hx hb dX7_late_37 ?_
                    refine q_i (z := 4) (by decide) ?_
                    refine lv_goto (tgt := 42) hx hb dX7_late_38 (by decide) ?_
                    refine lv_ior hx hb dX7_late_42 ?_
                    refine q_i (z := 7) (by decide) ?_
                    refine lv_istore_n (lv' := [(1, .int 7), (3, .int (nI k2)), (2, .int 2), (0, .ref mo)]) hx hb dX7_late_43 rfl hl (by decide) rfl (fun ls hl => ?_)
                    refine lv_iinc (v := (nI (k2 + 1))) (lv' := [(3, .int (nI (k2 + 1))), (1, .int 7), (2, .int 2), (0, .ref mo)]) hx hb dX7_late_44 hl (k := 1) rfl (nI_1 k2) (by decide) rfl (fun ls hl => ?_)
                    refine lv_goto (tgt := 11) hx hb dX7_late_47 (by decide) ?_
                    exact ih_11 (k2 + 1) (by omega) (by omega) _ _ _ hP hD hS (lv_sub hl [0, 2, 1, 3] rfl)
              exact lp_11 641 1 (by omega) (by omega) _ _ _ hP hD hS (lv_sub hl [0, 2, 1, 3] rfl)
            · have hc_k1 : k1 < 640 := nI_dnn (a := 640) c_10 (by omega) (by omega)
              refine lv_iload_n hx hb dX7_late_18 rfl (lv_at hl 2 rfl) ?_
              refine lv_aload_n hx hb dX7_late_19 rfl (lv_at hl 3 rfl) ?_
              refine lv_iload_n hx hb dX7_late_20 rfl (lv_at hl 1 rfl) ?_
              refine lv_iload_n hx hb dX7_late_21 rfl (lv_at hl 0 rfl) ?_
              refine lv_bipush (v := 10) hx hb dX7_late_22 (by decide) ?_
              refine lv_idiv hx hb dX7_late_24 (by decide) ?_
              refine lv_iload_n hx hb dX7_late_25 rfl (lv_at hl 0 rfl) ?_
              refine lv_bipush (v := 10) hx hb dX7_late_26 (by decide) ?_
              refine lv_irem hx hb dX7_late_28 (by decide) ?_
              refine q_Vi (wr := []) [0, 1] [] hX hE hK hP hD hS hA hl.1 lk_X7_253 (c_m_explains l D cI cZ cP sa mo a_now a_kep a_isk a_ref a_cw a_row a_lea a_sli a_lef a_bst a_try a_mom a_byt a_nxt a_val 1 ((nI k1) / 10) ((nI k1) - (nI k1) / 10 * 10) _) rfl rfl rfl rfl (by decide) 0 7 rfl rfl rfl rfl (Nat.le_of_ble_eq_true rfl) rfl rfl ⟨Nat.le_of_ble_eq_true rfl, Nat.le_of_ble_eq_true rfl⟩ ⟨Nat.le_of_ble_eq_true rfl, Nat.le_of_ble_eq_true rfl⟩ dX7_late_29 (fun x_26 _ H locs h_26 hP hD hS => ?_)
              have hP : va_P D vwCl [(mo, .inr (7, [.ref a_now, .ref a_kep, .ref a_isk, .ref a_ref, .long 0, .long 1, .int 0, .int 0, .int 0, .int 0, .ref a_cw, .ref a_row, .int 0, .ref a_lea, .ref a_sli, .ref a_lef, .ref a_bst, .ref a_try, .int 0, .ref a_mom, .ref a_byt, .int 0, .int 0, .int 0, .int 0, .int 0, .ref a_nxt, .ref a_val])), (a_now, .inl (cI, 221, .inl nw0))] H := hP
              have hD : va_D (va_A (w_m_late cI cZ cP mo a_now a_kep a_isk a_ref a_cw a_row a_lea a_sli a_lef a_bst a_try a_mom a_byt a_nxt a_val) sz) [(mo, .inr (7, [.ref a_now, .ref a_kep, .ref a_isk, .ref a_ref, .long 0, .long 1, .int 0, .int 0, .int 0, .int 0, .ref a_cw, .ref a_row, .int 0, .ref a_lea, .ref a_sli, .ref a_lef, .ref a_bst, .ref a_try, .int 0, .ref a_mom, .ref a_byt, .int 0, .int 0, .int 0, .int 0, .int 0, .ref a_nxt, .ref a_val])), (a_now, .inl (cI, 221, .inl nw0))] := hD
              subst h_26
              refine lv_if_eq (tgt := 41) hx hb dX7_late_32 (by decide) (fun c_27 => absurd c_27 (by decide)) (fun _ => ?_)
              refine lv_iconst (v := 1) hx hb dX7_late_35 (by decide) ?_
              refine lv_iload_n hx hb dX7_late_36 rfl (lv_at hl 1 rfl) ?_
              refine lv_ishl hx hb dX7_late_37 ?_
              refine q_i (z := 2) (by decide) ?_
              refine lv_goto (tgt := 42) hx hb dX7_late_38 (by decide) ?_
              refine lv_ior hx hb dX7_late_42 ?_
              refine q_i (z := 3) (by decide) ?_
              refine lv_istore_n (lv' := [(1, .int 3), (3, .int (nI k1)), (2, .int 1), (0, .ref mo)]) hx hb dX7_late_43 rfl hl (by decide) rfl (fun ls hl => ?_)
              refine lv_iinc (v := (nI (k1 + 1))) (lv' := [(3, .int (nI (k1 + 1))), (1, .int 3), (2, .int 1), (0, .ref mo)]) hx hb dX7_late_44 hl (k := 1) rfl (nI_1 k1) (by decide) rfl (fun ls hl => ?_)
              refine lv_goto (tgt := 11) hx hb dX7_late_47 (by decide) ?_
              exact ih_11 (k1 + 1) (by omega) (by omega) _ _ _ hP hD hS (lv_sub hl [0, 2, 1, 3] rfl)
        exact lp_11 641 1 (by omega) (by omega) _ _ _ hP hD hS (lv_sub hl [0, 2, 1, 3] rfl)
      · have hc_k0 : k0 < 640 := nI_dnn (a := 640) c_5 (by omega) (by omega)
        refine lv_iload_n hx hb dX7_late_18 rfl (lv_at hl 2 rfl) ?_
        refine lv_aload_n hx hb dX7_late_19 rfl (lv_at hl 3 rfl) ?_
        refine lv_iload_n hx hb dX7_late_20 rfl (lv_at hl 1 rfl) ?_
        refine lv_iload_n hx hb dX7_late_21 rfl (lv_at hl 0 rfl) ?_
        refine lv_bipush (v := 10) hx hb dX7_late_22 (by decide) ?_
        refine lv_idiv hx hb dX7_late_24 (by decide) ?_
        refine lv_iload_n hx hb dX7_late_25 rfl (lv_at hl 0 rfl) ?_
        refine lv_bipush (v := 10) hx hb dX7_late_26 (by decide) ?_
        refine lv_irem hx hb dX7_late_28 (by decide) ?_
        refine q_Vi (wr := []) [0, 1] [] hX hE hK hP hD hS hA hl.1 lk_X7_253 (c_m_explains l D cI cZ cP sa mo a_now a_kep a_isk a_ref a_cw a_row a_lea a_sli a_lef a_bst a_try a_mom a_byt a_nxt a_val 0 ((nI k0) / 10) ((nI k0) - (nI k0) / 10 * 10) _) rfl rfl rfl rfl (by decide) 0 7 rfl rfl rfl rfl (Nat.le_of_ble_eq_true rfl) rfl rfl ⟨Nat.le_of_ble_eq_true rfl, Nat.le_of_ble_eq_true rfl⟩ ⟨Nat.le_of_ble_eq_true rfl, Nat.le_of_ble_eq_true rfl⟩ dX7_late_29 (fun x_28 _ H locs h_28 hP hD hS => ?_)
        have hP : va_P D vwCl [(mo, .inr (7, [.ref a_now, .ref a_kep, .ref a_isk, .ref a_ref, .long 0, .long 1, .int 0, .int 0, .int 0, .int 0, .ref a_cw, .ref a_row, .int 0, .ref a_lea, .ref a_sli, .ref a_lef, .ref a_bst, .ref a_try, .int 0, .ref a_mom, .ref a_byt, .int 0, .int 0, .int 0, .int 0, .int 0, .ref a_nxt, .ref a_val])), (a_now, .inl (cI, 221, .inl nw0))] H := hP
        have hD : va_D (va_A (w_m_late cI cZ cP mo a_now a_kep a_isk a_ref a_cw a_row a_lea a_sli a_lef a_bst a_try a_mom a_byt a_nxt a_val) sz) [(mo, .inr (7, [.ref a_now, .ref a_kep, .ref a_isk, .ref a_ref, .long 0, .long 1, .int 0, .int 0, .int 0, .int 0, .ref a_cw, .ref a_row, .int 0, .ref a_lea, .ref a_sli, .ref a_lef, .ref a_bst, .ref a_try, .int 0, .ref a_mom, .ref a_byt, .int 0, .int 0, .int 0, .int 0, .int 0, .ref a_nxt, .ref a_val])), (a_now, .inl (cI, 221, .inl nw0))] := hD
        subst h_28
        refine lv_if_eq (tgt := 41) hx hb dX7_late_32 (by decide) (fun c_29 => absurd c_29 (by decide)) (fun _ => ?_)
        refine lv_iconst (v := 1) hx hb dX7_late_35 (by decide) ?_
        refine lv_iload_n hx hb dX7_late_36 rfl (lv_at hl 1 rfl) ?_
        refine lv_ishl hx hb dX7_late_37 ?_
        refine q_i (z := 1) (by decide) ?_
        refine lv_goto (tgt := 42) hx hb dX7_late_38 (by decide) ?_
        refine lv_ior hx hb dX7_late_42 ?_
        refine q_i (z := 1) (by decide) ?_
        refine lv_istore_n (lv' := [(1, .int 1), (3, .int (nI k0)), (2, .int 0), (0, .ref mo)]) hx hb dX7_late_43 rfl hl (by decide) rfl (fun ls hl => ?_)
        refine lv_iinc (v := (nI (k0 + 1))) (lv' := [(3, .int (nI (k0 + 1))), (1, .int 1), (2, .int 0), (0, .ref mo)]) hx hb dX7_late_44 hl (k := 1) rfl (nI_1 k0) (by decide) rfl (fun ls hl => ?_)
        refine lv_goto (tgt := 11) hx hb dX7_late_47 (by decide) ?_
        exact ih_11 (k0 + 1) (by omega) (by omega) _ _ _ hP hD hS (lv_sub hl [0, 2, 1, 3] rfl)
  exact lp_11 641 1 (by omega) (by omega) _ _ _ hP hD hS (lv_sub hl [0, 2, 1, 3] rfl)
abbrev w_m_image (cI cZ cP : ClassId) (mo : Nat) (a_now : Nat) (a_kep : Nat) (a_isk : Nat) (a_ref : Nat) (a_cw : Nat) (a_row : Nat) (a_lea : Nat) (a_sli : Nat) (a_lef : Nat) (a_bst : Nat) (a_try : Nat) (a_mom : Nat) (a_byt : Nat) (a_nxt : Nat) (a_val : Nat) (p0 : Int32) : va_W := [(mo, .inr (7, [.ref a_now, .ref a_kep, .ref a_isk, .ref a_ref, .long 0, .long 1, .int 0, .int 0, .int 0, .int 0, .ref a_cw, .ref a_row, .int 0, .ref a_lea, .ref a_sli, .ref a_lef, .ref a_bst, .ref a_try, .int 0, .ref a_mom, .ref a_byt, .int 0, .int 0, .int 0, .int 0, .int 0, .ref a_nxt, .ref a_val])), (a_now, .inl (cI, 221, .inl nw0)), (a_kep, .inl (cI, 442, .inl (fun _ => 0))), (a_isk, .inl (cZ, 2, .inl (fun _ => 0))), (a_ref, .inl (cI, 3, .inl (fun _ => 0)))]
set_option maxHeartbeats 4000000 in
set_option maxRecDepth 100000 in
theorem c_m_image (l : Launch) (D : va_G) (cI cZ cP : ClassId) (sa : Nat → Nat) (mo : Nat) (a_now : Nat) (a_kep : Nat) (a_isk : Nat) (a_ref : Nat) (a_cw : Nat) (a_row : Nat) (a_lea : Nat) (a_sli : Nat) (a_lef : Nat) (a_bst : Nat) (a_try : Nat) (a_mom : Nat) (a_byt : Nat) (a_nxt : Nat) (a_val : Nat) (p0 : Int32) (sz : Nat) : Met l yX7_image (qW yX7_image cX7_image 3 (some .int)) ({ frames := 1, cells := 0, slots := 0, locals := 25 } : Room) (qP D (TY cI cZ cP) sa [.ref mo, .int p0] (w_m_image cI cZ cP mo a_now a_kep a_isk a_ref a_cw a_row a_lea a_sli a_lef a_bst a_try a_mom a_byt a_nxt a_val p0) sz) (qQi D (w_m_image cI cZ cP mo a_now a_kep a_isk a_ref a_cw a_row a_lea a_sli a_lef a_bst a_try a_mom a_byt a_nxt a_val p0) sz (fun (r : Int32) (_ : Unit) => r = sp_image p0) (fun _ => [])) 0 0 (va_A (w_m_image cI cZ cP mo a_now a_kep a_isk a_ref a_cw a_row a_lea a_sli a_lef a_bst a_try a_mom a_byt a_nxt a_val p0) sz) := by
  refine q_enter (by decide) (Nat.le_of_ble_eq_true rfl) ?_
  intro p e s m below meth c ls hX hr hlk hnm hE hK hP hD hS hA hl
  obtain ⟨hx, hb, hml, hown, ht⟩ := id hX
  have hl : lv_has ls 3 [(0, .ref mo), (1, .int p0)] := hl
  refine lv_iload_n hx hb dX7_image_0 rfl (lv_at hl 1 rfl) ?_
  refine lv_i2l (v := (p0.toInt64)) hx hb dX7_image_1 rfl ?_
  refine lv_lconst (v := 0) hx hb dX7_image_2 (by decide) ?_
  refine q_l (z := ((0 : Int32).toInt64)) (by decide) ?_
  refine lv_lconst (v := 1) hx hb dX7_image_3 (by decide) ?_
  refine q_l (z := ((1 : Int32).toInt64)) (by decide) ?_
  refine q_Si (wr := [(mo, .inr (7, [.ref a_now, .ref a_kep, .ref a_isk, .ref a_ref, .long 0, .long 1, .int 0, .int 0, .int 0, .int 0, .ref a_cw, .ref a_row, .int 0, .ref a_lea, .ref a_sli, .ref a_lef, .ref a_bst, .ref a_try, .int 0, .ref a_mom, .ref a_byt, .int 0, .int 0, .int 0, .int 0, .int 0, .ref a_nxt, .ref a_val])), (a_now, .inl (cI, 221, .inl nw0)), (a_kep, .inl (cI, 442, .inl (fun _ => 0))), (a_isk, .inl (cZ, 2, .inl (fun _ => 0))), (a_ref, .inl (cI, 3, .inl (fun _ => 0)))]) [] [0, 1, 2, 3, 4] hX hE hK hP hD hS hA hl.1 lk_X7_68 (c_m_in l D cI cZ cP sa p0 0 1 _) rfl rfl rfl rfl (by decide) rfl rfl (Nat.le_of_ble_eq_true rfl) rfl rfl ⟨Nat.le_of_ble_eq_true rfl, Nat.le_of_ble_eq_true rfl⟩ ⟨Nat.le_of_ble_eq_true rfl, Nat.le_of_ble_eq_true rfl⟩ dX7_image_4 (fun x_1 _ H locs h_1 hP hD hS => ?_)
  have hP : va_P D vwCl [(mo, .inr (7, [.ref a_now, .ref a_kep, .ref a_isk, .ref a_ref, .long 0, .long 1, .int 0, .int 0, .int 0, .int 0, .ref a_cw, .ref a_row, .int 0, .ref a_lea, .ref a_sli, .ref a_lef, .ref a_bst, .ref a_try, .int 0, .ref a_mom, .ref a_byt, .int 0, .int 0, .int 0, .int 0, .int 0, .ref a_nxt, .ref a_val])), (a_now, .inl (cI, 221, .inl nw0)), (a_kep, .inl (cI, 442, .inl (fun _ => 0))), (a_isk, .inl (cZ, 2, .inl (fun _ => 0))), (a_ref, .inl (cI, 3, .inl (fun _ => 0)))] H := hP
  have hD : va_D (va_A (w_m_image cI cZ cP mo a_now a_kep a_isk a_ref a_cw a_row a_lea a_sli a_lef a_bst a_try a_mom a_byt a_nxt a_val p0) sz) [(mo, .inr (7, [.ref a_now, .ref a_kep, .ref a_isk, .ref a_ref, .long 0, .long 1, .int 0, .int 0, .int 0, .int 0, .ref a_cw, .ref a_row, .int 0, .ref a_lea, .ref a_sli, .ref a_lef, .ref a_bst, .ref a_try, .int 0, .ref a_mom, .ref a_byt, .int 0, .int 0, .int 0, .int 0, .int 0, .ref a_nxt, .ref a_val])), (a_now, .inl (cI, 221, .inl nw0)), (a_kep, .inl (cI, 442, .inl (fun _ => 0))), (a_isk, .inl (cZ, 2, .inl (fun _ => 0))), (a_ref, .inl (cI, 3, .inl (fun _ => 0)))] := hD
  rcases Classical.em (0 ≤ p0 ∧ p0 ≤ 1) with c_1 | c_1
  · rw [if_pos c_1] at h_1; subst h_1
    refine lv_if_ne (tgt := 17) hx hb dX7_image_7 (by decide) (fun _ => ?_) (fun c_2 => absurd c_2 (by decide))
    rcases (bit_iff p0).mp c_1 with c_3 | c_3
    · refine lv_iconst (v := 0) hx hb dX7_image_17 (by decide) ?_
      refine lv_istore_n (lv' := [(2, .int 0), (0, .ref mo), (1, .int p0)]) hx hb dX7_image_18 rfl hl (by decide) rfl (fun ls hl => ?_)
      have lp_19 : ∀ (n_19 : Nat) (k : Nat) (g : Nat → Int32), (k ≤ 221) → (222 ≤ k + n_19) → ∀ (H : Heap) (locs : List Loc) (ls : Array Slot), va_P D vwCl [(mo, .inr (7, [.ref a_now, .ref a_kep, .ref a_isk, .ref a_ref, .long 0, .long 1, .int 0, .int 0, .int 0, .int 0, .ref a_cw, .ref a_row, .int 0, .ref a_lea, .ref a_sli, .ref a_lef, .ref a_bst, .ref a_try, .int 0, .ref a_mom, .ref a_byt, .int 0, .int 0, .int 0, .int 0, .int 0, .ref a_nxt, .ref a_val])), (a_now, .inl (cI, 221, .inl nw0)), (a_kep, .inl (cI, 442, .inl g)), (a_isk, .inl (cZ, 2, .inl (fun _ => 0))), (a_ref, .inl (cI, 3, .inl (fun _ => 0)))] H → va_D (va_A (w_m_image cI cZ cP mo a_now a_kep a_isk a_ref a_cw a_row a_lea a_sli a_lef a_bst a_try a_mom a_byt a_nxt a_val p0) sz) [(mo, .inr (7, [.ref a_now, .ref a_kep, .ref a_isk, .ref a_ref, .long 0, .long 1, .int 0, .int 0, .int 0, .int 0, .ref a_cw, .ref a_row, .int 0, .ref a_lea, .ref a_sli, .ref a_lef, .ref a_bst, .ref a_try, .int 0, .ref a_mom, .ref a_byt, .int 0, .int 0, .int 0, .int 0, .int 0, .ref a_nxt, .ref a_val])), (a_now, .inl (cI, 221, .inl nw0)), (a_kep, .inl (cI, 442, .inl g)), (a_isk, .inl (cZ, 2, .inl (fun _ => 0))), (a_ref, .inl (cI, 3, .inl (fun _ => 0)))] → va_S (va_A (w_m_image cI cZ cP mo a_now a_kep a_isk a_ref a_cw a_row a_lea a_sli a_lef a_bst a_try a_mom a_byt a_nxt a_val p0) sz) s.heap H locs → lv_has ls 3 [(2, .int (nI k)), (0, .ref mo), (1, .int p0)] → W p l e ({ frames := 1, cells := 0, slots := 0, locals := 25 } : Room) s m ([.ref mo, .int p0] : List Value).toArray below meth c H locs 0 0 (MQ below (qQi D (w_m_image cI cZ cP mo a_now a_kep a_isk a_ref a_cw a_row a_lea a_sli a_lef a_bst a_try a_mom a_byt a_nxt a_val p0) sz (fun (r : Int32) (_ : Unit) => r = sp_image p0) (fun _ => [])) ([.ref mo, .int p0] : List Value).toArray s 0 0 (va_A (w_m_image cI cZ cP mo a_now a_kep a_isk a_ref a_cw a_row a_lea a_sli a_lef a_bst a_try a_mom a_byt a_nxt a_val p0) sz)) (F0 m 19 ls []) := by
        intro n_19
        induction n_19 with
        | zero => intro k g hk hm_19; exact absurd hm_19 (by omega)
        | succ n_19 ih_19 =>
          intro k g hk hm_19 H locs ls hP hD hS hl
          refine lv_iload_n hx hb dX7_image_19 rfl (lv_at hl 0 rfl) ?_
          refine lv_sipush (v := 221) hx hb dX7_image_20 (by decide) ?_
          refine lv_icmp_ge (tgt := 50) hx hb dX7_image_23 (by decide) (fun c_4 => ?_) (fun c_4 => ?_)
          · refine lv_aload_n hx hb dX7_image_50 rfl (lv_at hl 1 rfl) ?_
            refine va_get (D := D) (ci := 7) (v := .ref a_isk) (C := RX7) (T := TX7) (N := 28) hx hb ht inX7 hown hK hP 0 rfl rfl 2 (Nat.le_of_ble_eq_true rfl) (ht _ kw_906) (fun _ h9 => h9) rfl dX7_image_51 ?_
            refine lv_iload_n hx hb dX7_image_54 rfl (lv_at hl 2 rfl) ?_
            refine q_i (z := 0) c_3 ?_
            refine lv_iconst (v := 1) hx hb dX7_image_55 (by decide) ?_
            refine va_zast hx hb hK hP hD hS 3 1 rfl rfl (vin (by decide)) dX7_image_56 (fun H locs hP hD hS => ?_)
            have hP : va_P D vwCl [(mo, .inr (7, [.ref a_now, .ref a_kep, .ref a_isk, .ref a_ref, .long 0, .long 1, .int 0, .int 0, .int 0, .int 0, .ref a_cw, .ref a_row, .int 0, .ref a_lea, .ref a_sli, .ref a_lef, .ref a_bst, .ref a_try, .int 0, .ref a_mom, .ref a_byt, .int 0, .int 0, .int 0, .int 0, .int 0, .ref a_nxt, .ref a_val])), (a_now, .inl (cI, 221, .inl nw0)), (a_kep, .inl (cI, 442, .inl g)), (a_isk, .inl (cZ, 2, .inl (upd (fun _ => 0) (0 : Int32).toNatClampNeg (vp_nar .boolean 1)))), (a_ref, .inl (cI, 3, .inl (fun _ => 0)))] H := hP
            have hD : va_D (va_A (w_m_image cI cZ cP mo a_now a_kep a_isk a_ref a_cw a_row a_lea a_sli a_lef a_bst a_try a_mom a_byt a_nxt a_val p0) sz) [(mo, .inr (7, [.ref a_now, .ref a_kep, .ref a_isk, .ref a_ref, .long 0, .long 1, .int 0, .int 0, .int 0, .int 0, .ref a_cw, .ref a_row, .int 0, .ref a_lea, .ref a_sli, .ref a_lef, .ref a_bst, .ref a_try, .int 0, .ref a_mom, .ref a_byt, .int 0, .int 0, .int 0, .int 0, .int 0, .ref a_nxt, .ref a_val])), (a_now, .inl (cI, 221, .inl nw0)), (a_kep, .inl (cI, 442, .inl g)), (a_isk, .inl (cZ, 2, .inl (upd (fun _ => 0) (0 : Int32).toNatClampNeg (vp_nar .boolean 1)))), (a_ref, .inl (cI, 3, .inl (fun _ => 0)))] := hD
            refine lv_iconst (v := 1) hx hb dX7_image_57 (by decide) ?_
            exact q_iret hX hr hlk () (by simp [sp_image, c_1, c_3, hk, hm_19, c_4]) (hP.sub [] rfl) (hD.sub [] (by decide) rfl) hS dX7_image_58
          · have hk2 : k < 221 := nI_dnn (a := 221) c_4 (by omega) (by omega)
            refine lv_aload_n hx hb dX7_image_26 rfl (lv_at hl 1 rfl) ?_
            refine va_get (D := D) (ci := 7) (v := .ref a_kep) (C := RX7) (T := TX7) (N := 28) hx hb ht inX7 hown hK hP 0 rfl rfl 1 (Nat.le_of_ble_eq_true rfl) (ht _ kw_905) (fun _ h9 => h9) rfl dX7_image_27 ?_
            refine lv_sipush (v := 221) hx hb dX7_image_30 (by decide) ?_
            refine lv_iload_n hx hb dX7_image_33 rfl (lv_at hl 2 rfl) ?_
            refine q_i (z := 0) c_3 ?_
            refine lv_imul hx hb dX7_image_34 ?_
            refine q_i (z := 0) (by decide) ?_
            refine lv_iload_n hx hb dX7_image_35 rfl (lv_at hl 0 rfl) ?_
            refine lv_iadd hx hb dX7_image_36 ?_
            refine q_i (z := (nI k)) (Int32.zero_add _) ?_
            refine lv_aload_n hx hb dX7_image_37 rfl (lv_at hl 1 rfl) ?_
            refine va_get (D := D) (ci := 7) (v := .ref a_now) (C := RX7) (T := TX7) (N := 28) hx hb ht inX7 hown hK hP 0 rfl rfl 0 (Nat.le_of_ble_eq_true rfl) (ht _ kw_904) (fun _ h9 => h9) rfl dX7_image_38 ?_
            refine lv_iload_n hx hb dX7_image_41 rfl (lv_at hl 0 rfl) ?_
            refine va_iald hx hb hK hP 1 0 rfl rfl (vp_in_nI (by omega) (by omega)) dX7_image_42 ?_
            refine va_iast hx hb hK hP hD hS 2 0 rfl rfl (vp_in_nI (by omega) (by omega)) dX7_image_43 (fun H locs hP hD hS => ?_)
            have hP : va_P D vwCl [(mo, .inr (7, [.ref a_now, .ref a_kep, .ref a_isk, .ref a_ref, .long 0, .long 1, .int 0, .int 0, .int 0, .int 0, .ref a_cw, .ref a_row, .int 0, .ref a_lea, .ref a_sli, .ref a_lef, .ref a_bst, .ref a_try, .int 0, .ref a_mom, .ref a_byt, .int 0, .int 0, .int 0, .int 0, .int 0, .ref a_nxt, .ref a_val])), (a_now, .inl (cI, 221, .inl nw0)), (a_kep, .inl (cI, 442, .inl (upd g (nI k).toNatClampNeg (nw0 (nI k).toNatClampNeg)))), (a_isk, .inl (cZ, 2, .inl (fun _ => 0))), (a_ref, .inl (cI, 3, .inl (fun _ => 0)))] H := hP
            have hD : va_D (va_A (w_m_image cI cZ cP mo a_now a_kep a_isk a_ref a_cw a_row a_lea a_sli a_lef a_bst a_try a_mom a_byt a_nxt a_val p0) sz) [(mo, .inr (7, [.ref a_now, .ref a_kep, .ref a_isk, .ref a_ref, .long 0, .long 1, .int 0, .int 0, .int 0, .int 0, .ref a_cw, .ref a_row, .int 0, .ref a_lea, .ref a_sli, .ref a_lef, .ref a_bst, .ref a_try, .int 0, .ref a_mom, .ref a_byt, .int 0, .int 0, .int 0, .int 0, .int 0, .ref a_nxt, .ref a_val])), (a_now, .inl (cI, 221, .inl nw0)), (a_kep, .inl (cI, 442, .inl (upd g (nI k).toNatClampNeg (nw0 (nI k).toNatClampNeg)))), (a_isk, .inl (cZ, 2, .inl (fun _ => 0))), (a_ref, .inl (cI, 3, .inl (fun _ => 0)))] := hD
            refine lv_iinc (v := (nI (k + 1))) (lv' := [(2, .int (nI (k + 1))), (0, .ref mo), (1, .int p0)]) hx hb dX7_image_44 hl (k := 0) rfl (nI_1 k) (by decide) rfl (fun ls hl => ?_)
            refine lv_goto (tgt := 19) hx hb dX7_image_47 (by decide) ?_
            exact ih_19 (k + 1) (upd g (nI k).toNatClampNeg (nw0 (nI k).toNatClampNeg)) (by omega) (by omega) _ _ _ hP hD hS (lv_sub hl [0, 1, 2] rfl)
      exact lp_19 222 0 (fun _ => 0) (by omega) (by omega) _ _ _ hP hD hS (lv_sub hl [0, 1, 2] rfl)
    · refine lv_iconst (v := 0) hx hb dX7_image_17 (by decide) ?_
      refine lv_istore_n (lv' := [(2, .int 0), (0, .ref mo), (1, .int p0)]) hx hb dX7_image_18 rfl hl (by decide) rfl (fun ls hl => ?_)
      have lp_19 : ∀ (n_19 : Nat) (k : Nat) (g : Nat → Int32), (k ≤ 221) → (222 ≤ k + n_19) → ∀ (H : Heap) (locs : List Loc) (ls : Array Slot), va_P D vwCl [(mo, .inr (7, [.ref a_now, .ref a_kep, .ref a_isk, .ref a_ref, .long 0, .long 1, .int 0, .int 0, .int 0, .int 0, .ref a_cw, .ref a_row, .int 0, .ref a_lea, .ref a_sli, .ref a_lef, .ref a_bst, .ref a_try, .int 0, .ref a_mom, .ref a_byt, .int 0, .int 0, .int 0, .int 0, .int 0, .ref a_nxt, .ref a_val])), (a_now, .inl (cI, 221, .inl nw0)), (a_kep, .inl (cI, 442, .inl g)), (a_isk, .inl (cZ, 2, .inl (fun _ => 0))), (a_ref, .inl (cI, 3, .inl (fun _ => 0)))] H → va_D (va_A (w_m_image cI cZ cP mo a_now a_kep a_isk a_ref a_cw a_row a_lea a_sli a_lef a_bst a_try a_mom a_byt a_nxt a_val p0) sz) [(mo, .inr (7, [.ref a_now, .ref a_kep, .ref a_isk, .ref a_ref, .long 0, .long 1, .int 0, .int 0, .int 0, .int 0, .ref a_cw, .ref a_row, .int 0, .ref a_lea, .ref a_sli, .ref a_lef, .ref a_bst, .ref a_try, .int 0, .ref a_mom, .ref a_byt, .int 0, .int 0, .int 0, .int 0, .int 0, .ref a_nxt, .ref a_val])), (a_now, .inl (cI, 221, .inl nw0)), (a_kep, .inl (cI, 442, .inl g)), (a_isk, .inl (cZ, 2, .inl (fun _ => 0))), (a_ref, .inl (cI, 3, .inl (fun _ => 0)))] → va_S (va_A (w_m_image cI cZ cP mo a_now a_kep a_isk a_ref a_cw a_row a_lea a_sli a_lef a_bst a_try a_mom a_byt a_nxt a_val p0) sz) s.heap H locs → lv_has ls 3 [(2, .int (nI k)), (0, .ref mo), (1, .int p0)] → W p l e ({ frames := 1, cells := 0, slots := 0, locals := 25 } : Room) s m ([.ref mo, .int p0] : List Value).toArray below meth c H locs 0 0 (MQ below (qQi D (w_m_image cI cZ cP mo a_now a_kep a_isk a_ref a_cw a_row a_lea a_sli a_lef a_bst a_try a_mom a_byt a_nxt a_val p0) sz (fun (r : Int32) (_ : Unit) => r = sp_image p0) (fun _ => [])) ([.ref mo, .int p0] : List Value).toArray s 0 0 (va_A (w_m_image cI cZ cP mo a_now a_kep a_isk a_ref a_cw a_row a_lea a_sli a_lef a_bst a_try a_mom a_byt a_nxt a_val p0) sz)) (F0 m 19 ls []) := by
        intro n_19
        induction n_19 with
        | zero => intro k g hk hm_19; exact absurd hm_19 (by omega)
        | succ n_19 ih_19 =>
          intro k g hk hm_19 H locs ls hP hD hS hl
          refine lv_iload_n hx hb dX7_image_19 rfl (lv_at hl 0 rfl) ?_
          refine lv_sipush (v := 221) hx hb dX7_image_20 (by decide) ?_
          refine lv_icmp_ge (tgt := 50) hx hb dX7_image_23 (by decide) (fun c_5 => ?_) (fun c_5 => ?_)
          · refine lv_aload_n hx hb dX7_image_50 rfl (lv_at hl 1 rfl) ?_
            refine va_get (D := D) (ci := 7) (v := .ref a_isk) (C := RX7) (T := TX7) (N := 28) hx hb ht inX7 hown hK hP 0 rfl rfl 2 (Nat.le_of_ble_eq_true rfl) (ht _ kw_906) (fun _ h9 => h9) rfl dX7_image_51 ?_
            refine lv_iload_n hx hb dX7_image_54 rfl (lv_at hl 2 rfl) ?_
            refine q_i (z := 1) c_3 ?_
            refine lv_iconst (v := 1) hx hb dX7_image_55 (by decide) ?_
            refine va_zast hx hb hK hP hD hS 3 1 rfl rfl (vin (by decide)) dX7_image_56 (fun H locs hP hD hS => ?_)
            have hP : va_P D vwCl [(mo, .inr (7, [.ref a_now, .ref a_kep, .ref a_isk, .ref a_ref, .long 0, .long 1, .int 0, .int 0, .int 0, .int 0, .ref a_cw, .ref a_row, .int 0, .ref a_lea, .ref a_sli, .ref a_lef, .ref a_bst, .ref a_try, .int 0, .ref a_mom, .ref a_byt, .int 0, .int 0, .int 0, .int 0, .int 0, .ref a_nxt, .ref a_val])), (a_now, .inl (cI, 221, .inl nw0)), (a_kep, .inl (cI, 442, .inl g)), (a_isk, .inl (cZ, 2, .inl (upd (fun _ => 0) (1 : Int32).toNatClampNeg (vp_nar .boolean 1)))), (a_ref, .inl (cI, 3, .inl (fun _ => 0)))] H := hP
            have hD : va_D (va_A (w_m_image cI cZ cP mo a_now a_kep a_isk a_ref a_cw a_row a_lea a_sli a_lef a_bst a_try a_mom a_byt a_nxt a_val p0) sz) [(mo, .inr (7, [.ref a_now, .ref a_kep, .ref a_isk, .ref a_ref, .long 0, .long 1, .int 0, .int 0, .int 0, .int 0, .ref a_cw, .ref a_row, .int 0, .ref a_lea, .ref a_sli, .ref a_lef, .ref a_bst, .ref a_try, .int 0, .ref a_mom, .ref a_byt, .int 0, .int 0, .int 0, .int 0, .int 0, .ref a_nxt, .ref a_val])), (a_now, .inl (cI, 221, .inl nw0)), (a_kep, .inl (cI, 442, .inl g)), (a_isk, .inl (cZ, 2, .inl (upd (fun _ => 0) (1 : Int32).toNatClampNeg (vp_nar .boolean 1)))), (a_ref, .inl (cI, 3, .inl (fun _ => 0)))] := hD
            refine lv_iconst (v := 1) hx hb dX7_image_57 (by decide) ?_
            exact q_iret hX hr hlk () (by simp [sp_image, c_1, c_3, hk, hm_19, c_5]) (hP.sub [] rfl) (hD.sub [] (by decide) rfl) hS dX7_image_58
          · have hk2 : k < 221 := nI_dnn (a := 221) c_5 (by omega) (by omega)
            refine lv_aload_n hx hb dX7_image_26 rfl (lv_at hl 1 rfl) ?_
            refine va_get (D := D) (ci := 7) (v := .ref a_kep) (C := RX7) (T := TX7) (N := 28) hx hb ht inX7 hown hK hP 0 rfl rfl 1 (Nat.le_of_ble_eq_true rfl) (ht _ kw_905) (fun _ h9 => h9) rfl dX7_image_27 ?_
            refine lv_sipush (v := 221) hx hb dX7_image_30 (by decide) ?_
            refine lv_iload_n hx hb dX7_image_33 rfl (lv_at hl 2 rfl) ?_
            refine q_i (z := 1) c_3 ?_
            refine lv_imul hx hb dX7_image_34 ?_
            refine q_i (z := 221) (by decide) ?_
            refine lv_iload_n hx hb dX7_image_35 rfl (lv_at hl 0 rfl) ?_
            refine lv_iadd hx hb dX7_image_36 ?_
            refine q_i (z := (nI (221 + k))) (nI_add 221 k) ?_
            refine lv_aload_n hx hb dX7_image_37 rfl (lv_at hl 1 rfl) ?_
            refine va_get (D := D) (ci := 7) (v := .ref a_now) (C := RX7) (T := TX7) (N := 28) hx hb ht inX7 hown hK hP 0 rfl rfl 0 (Nat.le_of_ble_eq_true rfl) (ht _ kw_904) (fun _ h9 => h9) rfl dX7_image_38 ?_
            refine lv_iload_n hx hb dX7_image_41 rfl (lv_at hl 0 rfl) ?_
            refine va_iald hx hb hK hP 1 0 rfl rfl (vp_in_nI (by omega) (by omega)) dX7_image_42 ?_
            refine va_iast hx hb hK hP hD hS 2 0 rfl rfl (vp_in_nI (by omega) (by omega)) dX7_image_43 (fun H locs hP hD hS => ?_)
            have hP : va_P D vwCl [(mo, .inr (7, [.ref a_now, .ref a_kep, .ref a_isk, .ref a_ref, .long 0, .long 1, .int 0, .int 0, .int 0, .int 0, .ref a_cw, .ref a_row, .int 0, .ref a_lea, .ref a_sli, .ref a_lef, .ref a_bst, .ref a_try, .int 0, .ref a_mom, .ref a_byt, .int 0, .int 0, .int 0, .int 0, .int 0, .ref a_nxt, .ref a_val])), (a_now, .inl (cI, 221, .inl nw0)), (a_kep, .inl (cI, 442, .inl (upd g (nI (221 + k)).toNatClampNeg (nw0 (nI k).toNatClampNeg)))), (a_isk, .inl (cZ, 2, .inl (fun _ => 0))), (a_ref, .inl (cI, 3, .inl (fun _ => 0)))] H := hP
            have hD : va_D (va_A (w_m_image cI cZ cP mo a_now a_kep a_isk a_ref a_cw a_row a_lea a_sli a_lef a_bst a_try a_mom a_byt a_nxt a_val p0) sz) [(mo, .inr (7, [.ref a_now, .ref a_kep, .ref a_isk, .ref a_ref, .long 0, .long 1, .int 0, .int 0, .int 0, .int 0, .ref a_cw, .ref a_row, .int 0, .ref a_lea, .ref a_sli, .ref a_lef, .ref a_bst, .ref a_try, .int 0, .ref a_mom, .ref a_byt, .int 0, .int 0, .int 0, .int 0, .int 0, .ref a_nxt, .ref a_val])), (a_now, .inl (cI, 221, .inl nw0)), (a_kep, .inl (cI, 442, .inl (upd g (nI (221 + k)).toNatClampNeg (nw0 (nI k).toNatClampNeg)))), (a_isk, .inl (cZ, 2, .inl (fun _ => 0))), (a_ref, .inl (cI, 3, .inl (fun _ => 0)))] := hD
            refine lv_iinc (v := (nI (k + 1))) (lv' := [(2, .int (nI (k + 1))), (0, .ref mo), (1, .int p0)]) hx hb dX7_image_44 hl (k := 0) rfl (nI_1 k) (by decide) rfl (fun ls hl => ?_)
            refine lv_goto (tgt := 19) hx hb dX7_image_47 (by decide) ?_
            exact ih_19 (k + 1) (upd g (nI (221 + k)).toNatClampNeg (nw0 (nI k).toNatClampNeg)) (by omega) (by omega) _ _ _ hP hD hS (lv_sub hl [0, 1, 2] rfl)
      exact lp_19 222 0 (fun _ => 0) (by omega) (by omega) _ _ _ hP hD hS (lv_sub hl [0, 1, 2] rfl)
  · rw [if_neg c_1] at h_1; subst h_1
    refine lv_if_ne (tgt := 17) hx hb dX7_image_7 (by decide) (fun c_6 => absurd (by decide) c_6) (fun _ => ?_)
    refine lv_aload_n hx hb dX7_image_10 rfl (lv_at hl 0 rfl) ?_
    refine lv_bipush (v := (-2)) hx hb dX7_image_11 (by decide) ?_
    refine q_Vi (wr := [(a_now, .inl (cI, 221, .inl nw0)), (a_kep, .inl (cI, 442, .inl (fun _ => 0))), (a_isk, .inl (cZ, 2, .inl (fun _ => 0)))]) [0, 4] [1, 2, 3] hX hE hK hP hD hS hA hl.1 lk_X7_76 (c_m_bad l D cI cZ cP sa mo a_now a_kep a_isk a_ref a_cw a_row a_lea a_sli a_lef a_bst a_try a_mom a_byt a_nxt a_val 0 1 0 0 0 0 0 0 0 0 0 0 0 (-2) _) rfl rfl rfl rfl (by decide) 0 7 rfl rfl rfl rfl (Nat.le_of_ble_eq_true rfl) rfl rfl ⟨Nat.le_of_ble_eq_true rfl, Nat.le_of_ble_eq_true rfl⟩ ⟨Nat.le_of_ble_eq_true rfl, Nat.le_of_ble_eq_true rfl⟩ dX7_image_13 (fun x_7 _ H locs h_7 hP hD hS => ?_)
    have hP : va_P D vwCl [(a_now, .inl (cI, 221, .inl nw0)), (a_kep, .inl (cI, 442, .inl (fun _ => 0))), (a_isk, .inl (cZ, 2, .inl (fun _ => 0)))] H := hP
    have hD : va_D (va_A (w_m_image cI cZ cP mo a_now a_kep a_isk a_ref a_cw a_row a_lea a_sli a_lef a_bst a_try a_mom a_byt a_nxt a_val p0) sz) [(a_now, .inl (cI, 221, .inl nw0)), (a_kep, .inl (cI, 442, .inl (fun _ => 0))), (a_isk, .inl (cZ, 2, .inl (fun _ => 0)))] := hD
    subst h_7
    exact q_iret hX hr hlk () (by simp [sp_image, c_1]) (hP.sub [] rfl) (hD.sub [] (by decide) rfl) hS dX7_image_16
