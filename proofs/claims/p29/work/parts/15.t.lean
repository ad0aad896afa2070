abbrev w_j_checkIndex3 (cI cZ cP : ClassId) (p0 : Int32) (p1 : Int32) (t : Nat) : va_W := []
set_option maxHeartbeats 4000000 in
set_option maxRecDepth 100000 in
theorem c_j_checkIndex3 (l : Launch) (D : va_G) (cI cZ cP : ClassId) (sa : Nat → Nat) (p0 : Int32) (p1 : Int32) (t : Nat) (h_p0 : rg p0 0 3) (h_p1 : rg p1 4 5) (sz : Nat) : Met l yJ3_checkIndex_8e157 (qW yJ3_checkIndex_8e157 cJ3_checkIndex_8e157 3 (some .int)) ({ frames := 0, cells := 0, slots := 0, locals := 0 } : Room) (qP D (TY cI cZ cP) sa [.int p0, .int p1, .ref t] (w_j_checkIndex3 cI cZ cP p0 p1 t) sz) (qQi D (w_j_checkIndex3 cI cZ cP p0 p1 t) sz (fun (r : Int32) (u : Unit) => r = p0) (fun u : Unit => [])) 0 0 (va_A (w_j_checkIndex3 cI cZ cP p0 p1 t) sz) := by
  refine q_enter (by decide) (Nat.le_of_ble_eq_true rfl) ?_
  intro p e s m below meth c ls hX hr hlk hnm hE hK hP hD hS hA hl
  obtain ⟨hx, hb, hml, hown, ht⟩ := id hX
  have hl : lv_has ls 3 [(0, .int p0), (1, .int p1), (2, .ref t)] := hl
  refine lv_iload_n hx hb dJ3_checkIndex_8e157_0 rfl (lv_at hl 0 rfl) ?_
  refine lv_if_lt (tgt := 9) hx hb dJ3_checkIndex_8e157_1 (by decide) (fun c1 => (rg_ltF c1 h_p0 (rg_of (by decide) : rg (0 : Int32) 0 0) (by decide)).elim) (fun c1 => ?_)
  refine lv_iload_n hx hb dJ3_checkIndex_8e157_4 rfl (lv_at hl 0 rfl) ?_
  refine lv_iload_n hx hb dJ3_checkIndex_8e157_5 rfl (lv_at hl 1 rfl) ?_
  refine lv_icmp_lt (tgt := 16) hx hb dJ3_checkIndex_8e157_6 (by decide) (fun c6 => ?_) (fun c6 => (rg_leF (Int32.not_lt.mp c6) h_p1 h_p0 (by decide)).elim)
  refine lv_iload_n hx hb dJ3_checkIndex_8e157_16 rfl (lv_at hl 0 rfl) ?_
  exact q_iret hX hr hlk () rfl hP hD hS dJ3_checkIndex_8e157_17
abbrev w_j_checkIndex3b (cI cZ cP : ClassId) (p0 : Int32) (t : Nat) : va_W := []
set_option maxHeartbeats 4000000 in
set_option maxRecDepth 100000 in
theorem c_j_checkIndex3b (l : Launch) (D : va_G) (cI cZ cP : ClassId) (sa : Nat → Nat) (p0 : Int32) (t : Nat) (h_p0 : rg p0 0 4) (sz : Nat) : Met l yJ3_checkIndex_8e157 (qW yJ3_checkIndex_8e157 cJ3_checkIndex_8e157 3 (some .int)) ({ frames := 0, cells := 0, slots := 0, locals := 0 } : Room) (qP D (TY cI cZ cP) sa [.int p0, .int 5, .ref t] (w_j_checkIndex3b cI cZ cP p0 t) sz) (qQi D (w_j_checkIndex3b cI cZ cP p0 t) sz (fun (r : Int32) (u : Unit) => r = p0) (fun u : Unit => [])) 0 0 (va_A (w_j_checkIndex3b cI cZ cP p0 t) sz) := by
  refine q_enter (by decide) (Nat.le_of_ble_eq_true rfl) ?_
  intro p e s m below meth c ls hX hr hlk hnm hE hK hP hD hS hA hl
  obtain ⟨hx, hb, hml, hown, ht⟩ := id hX
  have hl : lv_has ls 3 [(0, .int p0), (1, .int 5), (2, .ref t)] := hl
  refine lv_iload_n hx hb dJ3_checkIndex_8e157_0 rfl (lv_at hl 0 rfl) ?_
  refine lv_if_lt (tgt := 9) hx hb dJ3_checkIndex_8e157_1 (by decide) (fun c1 => (rg_ltF c1 h_p0 (rg_of (by decide) : rg (0 : Int32) 0 0) (by decide)).elim) (fun c1 => ?_)
  refine lv_iload_n hx hb dJ3_checkIndex_8e157_4 rfl (lv_at hl 0 rfl) ?_
  refine lv_iload_n hx hb dJ3_checkIndex_8e157_5 rfl (lv_at hl 1 rfl) ?_
  refine lv_icmp_lt (tgt := 16) hx hb dJ3_checkIndex_8e157_6 (by decide) (fun c6 => ?_) (fun c6 => (rg_leF (Int32.not_lt.mp c6) (rg_of (by decide) : rg (5 : Int32) 5 5) h_p0 (by decide)).elim)
  refine lv_iload_n hx hb dJ3_checkIndex_8e157_16 rfl (lv_at hl 0 rfl) ?_
  exact q_iret hX hr hlk () rfl hP hD hS dJ3_checkIndex_8e157_17
abbrev w_j_checkIndex3n (cI cZ cP : ClassId) (p0 : Int32) (p1 : Int32) : va_W := []
set_option maxHeartbeats 4000000 in
set_option maxRecDepth 100000 in
theorem c_j_checkIndex3n (l : Launch) (D : va_G) (cI cZ cP : ClassId) (sa : Nat → Nat) (p0 : Int32) (p1 : Int32) (h_p0 : rg p0 0 3) (h_p1 : rg p1 4 5) (sz : Nat) : Met l yJ3_checkIndex_8e157 (qW yJ3_checkIndex_8e157 cJ3_checkIndex_8e157 3 (some .int)) ({ frames := 0, cells := 0, slots := 0, locals := 0 } : Room) (qP D (TY cI cZ cP) sa [.int p0, .int p1, .null] (w_j_checkIndex3n cI cZ cP p0 p1) sz) (qQi D (w_j_checkIndex3n cI cZ cP p0 p1) sz (fun (r : Int32) (u : Unit) => r = p0) (fun u : Unit => [])) 0 0 (va_A (w_j_checkIndex3n cI cZ cP p0 p1) sz) := by
  refine q_enter (by decide) (Nat.le_of_ble_eq_true rfl) ?_
  intro p e s m below meth c ls hX hr hlk hnm hE hK hP hD hS hA hl
  obtain ⟨hx, hb, hml, hown, ht⟩ := id hX
  have hl : lv_has ls 3 [(0, .int p0), (1, .int p1), (2, .null)] := hl
  refine lv_iload_n hx hb dJ3_checkIndex_8e157_0 rfl (lv_at hl 0 rfl) ?_
  refine lv_if_lt (tgt := 9) hx hb dJ3_checkIndex_8e157_1 (by decide) (fun c1 => (rg_ltF c1 h_p0 (rg_of (by decide) : rg (0 : Int32) 0 0) (by decide)).elim) (fun c1 => ?_)
  refine lv_iload_n hx hb dJ3_checkIndex_8e157_4 rfl (lv_at hl 0 rfl) ?_
  refine lv_iload_n hx hb dJ3_checkIndex_8e157_5 rfl (lv_at hl 1 rfl) ?_
  refine lv_icmp_lt (tgt := 16) hx hb dJ3_checkIndex_8e157_6 (by decide) (fun c6 => ?_) (fun c6 => (rg_leF (Int32.not_lt.mp c6) h_p1 h_p0 (by decide)).elim)
  refine lv_iload_n hx hb dJ3_checkIndex_8e157_16 rfl (lv_at hl 0 rfl) ?_
  exact q_iret hX hr hlk () rfl hP hD hS dJ3_checkIndex_8e157_17
abbrev w_j_checkIndex3bn (cI cZ cP : ClassId) (p0 : Int32) : va_W := []
set_option maxHeartbeats 4000000 in
set_option maxRecDepth 100000 in
theorem c_j_checkIndex3bn (l : Launch) (D : va_G) (cI cZ cP : ClassId) (sa : Nat → Nat) (p0 : Int32) (h_p0 : rg p0 0 4) (sz : Nat) : Met l yJ3_checkIndex_8e157 (qW yJ3_checkIndex_8e157 cJ3_checkIndex_8e157 3 (some .int)) ({ frames := 0, cells := 0, slots := 0, locals := 0 } : Room) (qP D (TY cI cZ cP) sa [.int p0, .int 5, .null] (w_j_checkIndex3bn cI cZ cP p0) sz) (qQi D (w_j_checkIndex3bn cI cZ cP p0) sz (fun (r : Int32) (u : Unit) => r = p0) (fun u : Unit => [])) 0 0 (va_A (w_j_checkIndex3bn cI cZ cP p0) sz) := by
  refine q_enter (by decide) (Nat.le_of_ble_eq_true rfl) ?_
  intro p e s m below meth c ls hX hr hlk hnm hE hK hP hD hS hA hl
  obtain ⟨hx, hb, hml, hown, ht⟩ := id hX
  have hl : lv_has ls 3 [(0, .int p0), (1, .int 5), (2, .null)] := hl
  refine lv_iload_n hx hb dJ3_checkIndex_8e157_0 rfl (lv_at hl 0 rfl) ?_
  refine lv_if_lt (tgt := 9) hx hb dJ3_checkIndex_8e157_1 (by decide) (fun c1 => (rg_ltF c1 h_p0 (rg_of (by decide) : rg (0 : Int32) 0 0) (by decide)).elim) (fun c1 => ?_)
  refine lv_iload_n hx hb dJ3_checkIndex_8e157_4 rfl (lv_at hl 0 rfl) ?_
  refine lv_iload_n hx hb dJ3_checkIndex_8e157_5 rfl (lv_at hl 1 rfl) ?_
  refine lv_icmp_lt (tgt := 16) hx hb dJ3_checkIndex_8e157_6 (by decide) (fun c6 => ?_) (fun c6 => (rg_leF (Int32.not_lt.mp c6) (rg_of (by decide) : rg (5 : Int32) 5 5) h_p0 (by decide)).elim)
  refine lv_iload_n hx hb dJ3_checkIndex_8e157_16 rfl (lv_at hl 0 rfl) ?_
  exact q_iret hX hr hlk () rfl hP hD hS dJ3_checkIndex_8e157_17
abbrev w_j_checkIndex (cI cZ cP : ClassId) (p0 : Int32) (p1 : Int32) : va_W := []
set_option maxHeartbeats 4000000 in
set_option maxRecDepth 100000 in
theorem c_j_checkIndex (l : Launch) (D : va_G) (cI cZ cP : ClassId) (sa : Nat → Nat) (p0 : Int32) (p1 : Int32) (h_p0 : rg p0 0 3) (h_p1 : rg p1 4 5) (sz : Nat) : Met l yJ0_checkIndex_df160 (qW yJ0_checkIndex_df160 cJ0_checkIndex_df160 2 none) ({ frames := 1, cells := 0, slots := 0, locals := 22 } : Room) (qP D (TY cI cZ cP) sa [.int p0, .int p1] (w_j_checkIndex cI cZ cP p0 p1) sz) (qQv D (w_j_checkIndex cI cZ cP p0 p1) sz (fun u : Unit => True) (fun u : Unit => [])) 0 0 (va_A (w_j_checkIndex cI cZ cP p0 p1) sz) := by
  refine q_enter (by decide) (Nat.le_of_ble_eq_true rfl) ?_
  intro p e s m below meth c ls hX hr hlk hnm hE hK hP hD hS hA hl
  obtain ⟨hx, hb, hml, hown, ht⟩ := id hX
  have hl : lv_has ls 2 [(0, .int p0), (1, .int p1)] := hl
  refine lv_iload_n hx hb dJ0_checkIndex_df160_0 rfl (lv_at hl 0 rfl) ?_
  refine lv_iload_n hx hb dJ0_checkIndex_df160_1 rfl (lv_at hl 1 rfl) ?_
  rcases hE.2.2.2.2.2.2.2.narrow hA.2 with hz | ⟨t0, hz⟩
  · refine va_gets hx hb hz hS hown (ht _ kw_486) (fun _ h9 => h9) dJ0_checkIndex_df160_2 ?_
    refine q_Si (wr := []) [] [] hX hE hK hP hD hS hA hl.1 lk_J0_1059 (c_j_checkIndex3n l D cI cZ cP sa p0 p1 h_p0 h_p1 _) rfl rfl rfl rfl (by decide) rfl rfl (Nat.le_of_ble_eq_true rfl) rfl rfl ⟨Nat.le_of_ble_eq_true rfl, Nat.le_of_ble_eq_true rfl⟩ ⟨Nat.le_of_ble_eq_true rfl, Nat.le_of_ble_eq_true rfl⟩ dJ0_checkIndex_df160_5 (fun x5 _ H locs h5 hP hD hS => ?_)
    have hr5 := h5
    have hP : va_P D vwCl [] H := hP
    have hD : va_D (va_A (w_j_checkIndex cI cZ cP p0 p1) sz) [] := hD
    have hr5 := hr5.symm
    subst hr5
    refine lv_pop hx hb dJ0_checkIndex_df160_8 rfl ?_
    exact q_vret hX hr hlk () trivial hP hD hS dJ0_checkIndex_df160_9
  · refine va_gets hx hb hz hS hown (ht _ kw_486) (fun _ h9 => h9) dJ0_checkIndex_df160_2 ?_
    refine q_Si (wr := []) [] [] hX hE hK hP hD hS hA hl.1 lk_J0_1059 (c_j_checkIndex3 l D cI cZ cP sa p0 p1 t0 h_p0 h_p1 _) rfl rfl rfl rfl (by decide) rfl rfl (Nat.le_of_ble_eq_true rfl) rfl rfl ⟨Nat.le_of_ble_eq_true rfl, Nat.le_of_ble_eq_true rfl⟩ ⟨Nat.le_of_ble_eq_true rfl, Nat.le_of_ble_eq_true rfl⟩ dJ0_checkIndex_df160_5 (fun x5 _ H locs h5 hP hD hS => ?_)
    have hr5 := h5
    have hP : va_P D vwCl [] H := hP
    have hD : va_D (va_A (w_j_checkIndex cI cZ cP p0 p1) sz) [] := hD
    have hr5 := hr5.symm
    subst hr5
    refine lv_pop hx hb dJ0_checkIndex_df160_8 rfl ?_
    exact q_vret hX hr hlk () trivial hP hD hS dJ0_checkIndex_df160_9
abbrev w_j_checkIndexb (cI cZ cP : ClassId) (p0 : Int32) : va_W := []
set_option maxHeartbeats 4000000 in
set_option maxRecDepth 100000 in
theorem c_j_checkIndexb (l : Launch) (D : va_G) (cI cZ cP : ClassId) (sa : Nat → Nat) (p0 : Int32) (h_p0 : rg p0 0 4) (sz : Nat) : Met l yJ0_checkIndex_df160 (qW yJ0_checkIndex_df160 cJ0_checkIndex_df160 2 none) ({ frames := 1, cells := 0, slots := 0, locals := 22 } : Room) (qP D (TY cI cZ cP) sa [.int p0, .int 5] (w_j_checkIndexb cI cZ cP p0) sz) (qQv D (w_j_checkIndexb cI cZ cP p0) sz (fun u : Unit => True) (fun u : Unit => [])) 0 0 (va_A (w_j_checkIndexb cI cZ cP p0) sz) := by
  refine q_enter (by decide) (Nat.le_of_ble_eq_true rfl) ?_
  intro p e s m below meth c ls hX hr hlk hnm hE hK hP hD hS hA hl
  obtain ⟨hx, hb, hml, hown, ht⟩ := id hX
  have hl : lv_has ls 2 [(0, .int p0), (1, .int 5)] := hl
  refine lv_iload_n hx hb dJ0_checkIndex_df160_0 rfl (lv_at hl 0 rfl) ?_
  refine lv_iload_n hx hb dJ0_checkIndex_df160_1 rfl (lv_at hl 1 rfl) ?_
  rcases hE.2.2.2.2.2.2.2.narrow hA.2 with hz | ⟨t0, hz⟩
  · refine va_gets hx hb hz hS hown (ht _ kw_486) (fun _ h9 => h9) dJ0_checkIndex_df160_2 ?_
    refine q_Si (wr := []) [] [] hX hE hK hP hD hS hA hl.1 lk_J0_1059 (c_j_checkIndex3bn l D cI cZ cP sa p0 h_p0 _) rfl rfl rfl rfl (by decide) rfl rfl (Nat.le_of_ble_eq_true rfl) rfl rfl ⟨Nat.le_of_ble_eq_true rfl, Nat.le_of_ble_eq_true rfl⟩ ⟨Nat.le_of_ble_eq_true rfl, Nat.le_of_ble_eq_true rfl⟩ dJ0_checkIndex_df160_5 (fun x5 _ H locs h5 hP hD hS => ?_)
    have hr5 := h5
    have hP : va_P D vwCl [] H := hP
    have hD : va_D (va_A (w_j_checkIndexb cI cZ cP p0) sz) [] := hD
    have hr5 := hr5.symm
    subst hr5
    refine lv_pop hx hb dJ0_checkIndex_df160_8 rfl ?_
    exact q_vret hX hr hlk () trivial hP hD hS dJ0_checkIndex_df160_9
  · refine va_gets hx hb hz hS hown (ht _ kw_486) (fun _ h9 => h9) dJ0_checkIndex_df160_2 ?_
    refine q_Si (wr := []) [] [] hX hE hK hP hD hS hA hl.1 lk_J0_1059 (c_j_checkIndex3b l D cI cZ cP sa p0 t0 h_p0 _) rfl rfl rfl rfl (by decide) rfl rfl (Nat.le_of_ble_eq_true rfl) rfl rfl ⟨Nat.le_of_ble_eq_true rfl, Nat.le_of_ble_eq_true rfl⟩ ⟨Nat.le_of_ble_eq_true rfl, Nat.le_of_ble_eq_true rfl⟩ dJ0_checkIndex_df160_5 (fun x5 _ H locs h5 hP hD hS => ?_)
    have hr5 := h5
    have hP : va_P D vwCl [] H := hP
    have hD : va_D (va_A (w_j_checkIndexb cI cZ cP p0) sz) [] := hD
    have hr5 := hr5.symm
    subst hr5
    refine lv_pop hx hb dJ0_checkIndex_df160_8 rfl ?_
    exact q_vret hX hr hlk () trivial hP hD hS dJ0_checkIndex_df160_9
abbrev w_s_coder0 (cI cZ cP : ClassId) : va_W := []
set_option maxHeartbeats 4000000 in
set_option maxRecDepth 100000 in
theorem c_s_coder0 (l : Launch) (D : va_G) (cI cZ cP : ClassId) (sa : Nat → Nat) (sz : Nat) : Met l yJ0_coder_7d493 (qW yJ0_coder_7d493 cJ0_coder_7d493 1 (some .byte)) ({ frames := 0, cells := 0, slots := 0, locals := 0 } : Room) (qP D (TY cI cZ cP) sa [.ref (sa 0)] (w_s_coder0 cI cZ cP) sz) (qQi D (w_s_coder0 cI cZ cP) sz (fun (r : Int32) (u : Unit) => r = 0) (fun u : Unit => [])) 0 0 (va_A (w_s_coder0 cI cZ cP) sz) := by
  refine q_enter (by decide) (Nat.le_of_ble_eq_true rfl) ?_
  intro p e s m below meth c ls hX hr hlk hnm hE hK hP hD hS hA hl
  obtain ⟨hx, hb, hml, hown, ht⟩ := id hX
  have hl : lv_has ls 1 [(0, .ref (sa 0))] := hl
  refine va_gets hx hb (hE.2.2.2.2.2.2.1.narrow hA.2) hS hown (ht _ kw_470) (fun _ h9 => h9) dJ0_coder_7d493_0 ?_
  refine lv_if_eq (tgt := 13) hx hb dJ0_coder_7d493_3 (by decide) (fun c3 => (rg_eqF c3 (rg_of (by decide) : rg (1 : Int32) 1 1) (rg_of (by decide) : rg (0 : Int32) 0 0) (by decide)).elim) (fun c3 => ?_)
  refine lv_aload_n hx hb dJ0_coder_7d493_6 rfl (lv_at hl 0 rfl) ?_
  refine vk_getf (v := .int 0) hx hb ((hE.2.2.2.2.2.1.1 0 (by decide)).2.1.narrow hA.2) hS hown (ht _ kw_1362) (fun _ h9 => h9) dJ0_coder_7d493_7 ?_
  refine lv_goto (tgt := 14) hx hb dJ0_coder_7d493_10 (by decide) ?_
  exact q_nret hX hr hlk (by decide) () rfl hP hD hS dJ0_coder_7d493_14
abbrev w_s_isLatin10 (cI cZ cP : ClassId) : va_W := []
set_option maxHeartbeats 4000000 in
set_option maxRecDepth 100000 in
theorem c_s_isLatin10 (l : Launch) (D : va_G) (cI cZ cP : ClassId) (sa : Nat → Nat) (sz : Nat) : Met l yJ0_isLatin1_aae02 (qW yJ0_isLatin1_aae02 cJ0_isLatin1_aae02 1 (some .boolean)) ({ frames := 0, cells := 0, slots := 0, locals := 0 } : Room) (qP D (TY cI cZ cP) sa [.ref (sa 0)] (w_s_isLatin10 cI cZ cP) sz) (qQi D (w_s_isLatin10 cI cZ cP) sz (fun (r : Int32) (u : Unit) => r = 1) (fun u : Unit => [])) 0 0 (va_A (w_s_isLatin10 cI cZ cP) sz) := by
  refine q_enter (by decide) (Nat.le_of_ble_eq_true rfl) ?_
  intro p e s m below meth c ls hX hr hlk hnm hE hK hP hD hS hA hl
  obtain ⟨hx, hb, hml, hown, ht⟩ := id hX
  have hl : lv_has ls 1 [(0, .ref (sa 0))] := hl
  refine va_gets hx hb (hE.2.2.2.2.2.2.1.narrow hA.2) hS hown (ht _ kw_470) (fun _ h9 => h9) dJ0_isLatin1_aae02_0 ?_
  refine lv_if_eq (tgt := 17) hx hb dJ0_isLatin1_aae02_3 (by decide) (fun c3 => (rg_eqF c3 (rg_of (by decide) : rg (1 : Int32) 1 1) (rg_of (by decide) : rg (0 : Int32) 0 0) (by decide)).elim) (fun c3 => ?_)
  refine lv_aload_n hx hb dJ0_isLatin1_aae02_6 rfl (lv_at hl 0 rfl) ?_
  refine vk_getf (v := .int 0) hx hb ((hE.2.2.2.2.2.1.1 0 (by decide)).2.1.narrow hA.2) hS hown (ht _ kw_1362) (fun _ h9 => h9) dJ0_isLatin1_aae02_7 ?_
  refine lv_if_ne (tgt := 17) hx hb dJ0_isLatin1_aae02_10 (by decide) (fun c10 => absurd rfl c10) (fun c10 => ?_)
  refine lv_iconst (v := 1) hx hb dJ0_isLatin1_aae02_13 (by decide) ?_
  refine lv_goto (tgt := 18) hx hb dJ0_isLatin1_aae02_14 (by decide) ?_
  exact q_zret hX hr hlk (by decide) () rfl hP hD hS dJ0_isLatin1_aae02_18
abbrev w_s_length0 (cI cZ cP : ClassId) : va_W := []
set_option maxHeartbeats 4000000 in
set_option maxRecDepth 100000 in
theorem c_s_length0 (l : Launch) (D : va_G) (cI cZ cP : ClassId) (sa : Nat → Nat) (sz : Nat) : Met l yJ0_length_8abf5 (qW yJ0_length_8abf5 cJ0_length_8abf5 1 (some .int)) ({ frames := 1, cells := 0, slots := 0, locals := 20 } : Room) (qP D (TY cI cZ cP) sa [.ref (sa 0)] (w_s_length0 cI cZ cP) sz) (qQi D (w_s_length0 cI cZ cP) sz (fun (r : Int32) (u : Unit) => r = 5) (fun u : Unit => [])) 0 0 (va_A (w_s_length0 cI cZ cP) sz) := by
  refine q_enter (by decide) (Nat.le_of_ble_eq_true rfl) ?_
  intro p e s m below meth c ls hX hr hlk hnm hE hK hP hD hS hA hl
  obtain ⟨hx, hb, hml, hown, ht⟩ := id hX
  have hl : lv_has ls 1 [(0, .ref (sa 0))] := hl
  refine lv_aload_n hx hb dJ0_length_8abf5_0 rfl (lv_at hl 0 rfl) ?_
  refine vk_getf (v := .ref (sa 4)) hx hb ((hE.2.2.2.2.2.1.1 0 (by decide)).2.2.1.narrow hA.2) hS hown (ht _ kw_1361) (fun _ h9 => h9) dJ0_length_8abf5_1 ?_
  refine va_tlen (v := 5) hx hb ((hE.2.2.2.2.2.1.1 0 (by decide)).2.2.2.narrow hA.2) hS rfl dJ0_length_8abf5_4 ?_
  refine lv_aload_n hx hb dJ0_length_8abf5_5 rfl (lv_at hl 0 rfl) ?_
  refine q_Ti (wr := []) [] [] hX hE hK hP hD hS hA hl.1 lk_J0_335 (c_s_coder0 l D cI cZ cP sa _) rfl rfl rfl rfl (by decide) (vk_recv (i := 0) (hE.2.2.2.2.2.1.narrow hA.2) (by decide) hS) rfl rfl (Nat.le_of_ble_eq_true rfl) rfl rfl ⟨Nat.le_of_ble_eq_true rfl, Nat.le_of_ble_eq_true rfl⟩ ⟨Nat.le_of_ble_eq_true rfl, Nat.le_of_ble_eq_true rfl⟩ dJ0_length_8abf5_6 (fun x6 _ H locs h6 hP hD hS => ?_)
  have hr6 := h6
  have hP : va_P D vwCl [] H := hP
  have hD : va_D (va_A (w_s_length0 cI cZ cP) sz) [] := hD
  subst hr6
  refine lv_ishr hx hb dJ0_length_8abf5_9 ?_
  refine q_i (z := 5) (by decide) ?_
  exact q_iret hX hr hlk () rfl hP hD hS dJ0_length_8abf5_10
abbrev w_s_charAtL0 (cI cZ cP : ClassId) (p0 : Int32) : va_W := []
set_option maxHeartbeats 4000000 in
set_option maxRecDepth 100000 in
theorem c_s_charAtL0 (l : Launch) (D : va_G) (cI cZ cP : ClassId) (sa : Nat → Nat) (p0 : Int32) (h_p0 : rg p0 0 4) (sz : Nat) : Met l yJ1_charAt_3b067 (qW yJ1_charAt_3b067 cJ1_charAt_3b067 2 (some .char)) ({ frames := 2, cells := 0, slots := 0, locals := 43 } : Room) (qP D (TY cI cZ cP) sa [.ref (sa 4), .int p0] (w_s_charAtL0 cI cZ cP p0) sz) (qQi D (w_s_charAtL0 cI cZ cP p0) sz (fun (r : Int32) (u : Unit) => narrow .char (.int r) = .int r) (fun u : Unit => [])) 0 0 (va_A (w_s_charAtL0 cI cZ cP p0) sz) := by
  refine q_enter (by decide) (Nat.le_of_ble_eq_true rfl) ?_
  intro p e s m below meth c ls hX hr hlk hnm hE hK hP hD hS hA hl
  obtain ⟨hx, hb, hml, hown, ht⟩ := id hX
  have hl : lv_has ls 2 [(0, .ref (sa 4)), (1, .int p0)] := hl
  refine lv_iload_n hx hb dJ1_charAt_3b067_0 rfl (lv_at hl 1 rfl) ?_
  refine lv_aload_n hx hb dJ1_charAt_3b067_1 rfl (lv_at hl 0 rfl) ?_
  refine va_tlen (v := 5) hx hb ((hE.2.2.2.2.2.1.1 0 (by decide)).2.2.2.narrow hA.2) hS rfl dJ1_charAt_3b067_2 ?_
  refine q_Sv (wr := []) [] [] hX hE hK hP hD hS hA hl.1 lk_J1_9 (c_j_checkIndexb l D cI cZ cP sa p0 h_p0 _) rfl rfl rfl rfl (by decide) rfl rfl (Nat.le_of_ble_eq_true rfl) rfl rfl ⟨Nat.le_of_ble_eq_true rfl, Nat.le_of_ble_eq_true rfl⟩ ⟨Nat.le_of_ble_eq_true rfl, Nat.le_of_ble_eq_true rfl⟩ dJ1_charAt_3b067_3 (fun _ H locs h3 hP hD hS => ?_)
  have hP : va_P D vwCl [] H := hP
  have hD : va_D (va_A (w_s_charAtL0 cI cZ cP p0) sz) [] := hD
  refine lv_aload_n hx hb dJ1_charAt_3b067_6 rfl (lv_at hl 0 rfl) ?_
  refine lv_iload_n hx hb dJ1_charAt_3b067_7 rfl (lv_at hl 1 rfl) ?_
  refine va_tb hx hb ((hE.2.2.2.2.2.1.1 0 (by decide)).2.2.2.narrow hA.2) hS (rg_in h_p0 (by decide)) rfl dJ1_charAt_3b067_8 ?_
  refine lv_topi (fun v8 e_v8 => ?_)
  refine lv_sipush (v := 255) hx hb dJ1_charAt_3b067_9 (by decide) ?_
  refine lv_iand hx hb dJ1_charAt_3b067_12 ?_
  refine lv_topi (fun v12 e_v12 => ?_)
  have r_v12 : rg v12 0 255 := rg_and e_v12 (rg_of (by decide) : rg (255 : Int32) 255 255) (by decide)
  refine lv_i2c hx hb dJ1_charAt_3b067_13 rfl ?_
  refine lv_topi (fun v13 e_v13 => ?_)
  exact q_nret hX hr hlk (by rw [e_v13]; exact pk_nc _) () (by rw [e_v13]; exact pk_nc _) hP hD hS dJ1_charAt_3b067_14
abbrev w_s_charAt0 (cI cZ cP : ClassId) (p0 : Int32) : va_W := []
set_option maxHeartbeats 4000000 in
set_option maxRecDepth 100000 in
theorem c_s_charAt0 (l : Launch) (D : va_G) (cI cZ cP : ClassId) (sa : Nat → Nat) (p0 : Int32) (h_p0 : rg p0 0 4) (sz : Nat) : Met l yJ0_charAt_5068e (qW yJ0_charAt_5068e cJ0_charAt_5068e 2 (some .char)) ({ frames := 3, cells := 0, slots := 0, locals := 64 } : Room) (qP D (TY cI cZ cP) sa [.ref (sa 0), .int p0] (w_s_charAt0 cI cZ cP p0) sz) (qQi D (w_s_charAt0 cI cZ cP p0) sz (fun (r : Int32) (u : Unit) => True) (fun u : Unit => [])) 0 0 (va_A (w_s_charAt0 cI cZ cP p0) sz) := by
  refine q_enter (by decide) (Nat.le_of_ble_eq_true rfl) ?_
  intro p e s m below meth c ls hX hr hlk hnm hE hK hP hD hS hA hl
  obtain ⟨hx, hb, hml, hown, ht⟩ := id hX
  have hl : lv_has ls 2 [(0, .ref (sa 0)), (1, .int p0)] := hl
  refine lv_aload_n hx hb dJ0_charAt_5068e_0 rfl (lv_at hl 0 rfl) ?_
  refine q_Ti (wr := []) [] [] hX hE hK hP hD hS hA hl.1 lk_J0_492 (c_s_isLatin10 l D cI cZ cP sa _) rfl rfl rfl rfl (by decide) (vk_recv (i := 0) (hE.2.2.2.2.2.1.narrow hA.2) (by decide) hS) rfl rfl (Nat.le_of_ble_eq_true rfl) rfl rfl ⟨Nat.le_of_ble_eq_true rfl, Nat.le_of_ble_eq_true rfl⟩ ⟨Nat.le_of_ble_eq_true rfl, Nat.le_of_ble_eq_true rfl⟩ dJ0_charAt_5068e_1 (fun x1 _ H locs h1 hP hD hS => ?_)
  have hr1 := h1
  have hP : va_P D vwCl [] H := hP
  have hD : va_D (va_A (w_s_charAt0 cI cZ cP p0) sz) [] := hD
  subst hr1
  refine lv_if_eq (tgt := 16) hx hb dJ0_charAt_5068e_4 (by decide) (fun c4 => (rg_eqF c4 (rg_of (by decide) : rg (1 : Int32) 1 1) (rg_of (by decide) : rg (0 : Int32) 0 0) (by decide)).elim) (fun c4 => ?_)
  refine lv_aload_n hx hb dJ0_charAt_5068e_7 rfl (lv_at hl 0 rfl) ?_
  refine vk_getf (v := .ref (sa 4)) hx hb ((hE.2.2.2.2.2.1.1 0 (by decide)).2.2.1.narrow hA.2) hS hown (ht _ kw_1361) (fun _ h9 => h9) dJ0_charAt_5068e_8 ?_
  refine lv_iload_n hx hb dJ0_charAt_5068e_11 rfl (lv_at hl 1 rfl) ?_
  refine q_Si (wr := []) [] [] hX hE hK hP hD hS hA hl.1 lk_J0_495 (c_s_charAtL0 l D cI cZ cP sa p0 h_p0 _) rfl rfl rfl rfl (by decide) rfl rfl (Nat.le_of_ble_eq_true rfl) rfl rfl ⟨Nat.le_of_ble_eq_true rfl, Nat.le_of_ble_eq_true rfl⟩ ⟨Nat.le_of_ble_eq_true rfl, Nat.le_of_ble_eq_true rfl⟩ dJ0_charAt_5068e_12 (fun x12 _ H locs h12 hP hD hS => ?_)
  have y12_0 := h12
  have hP : va_P D vwCl [] H := hP
  have hD : va_D (va_A (w_s_charAt0 cI cZ cP p0) sz) [] := hD
  exact q_nret hX hr hlk y12_0 () trivial hP hD hS dJ0_charAt_5068e_15
abbrev w_s_coder1 (cI cZ cP : ClassId) : va_W := []
set_option maxHeartbeats 4000000 in
set_option maxRecDepth 100000 in
theorem c_s_coder1 (l : Launch) (D : va_G) (cI cZ cP : ClassId) (sa : Nat → Nat) (sz : Nat) : Met l yJ0_coder_7d493 (qW yJ0_coder_7d493 cJ0_coder_7d493 1 (some .byte)) ({ frames := 0, cells := 0, slots := 0, locals := 0 } : Room) (qP D (TY cI cZ cP) sa [.ref (sa 1)] (w_s_coder1 cI cZ cP) sz) (qQi D (w_s_coder1 cI cZ cP) sz (fun (r : Int32) (u : Unit) => r = 0) (fun u : Unit => [])) 0 0 (va_A (w_s_coder1 cI cZ cP) sz) := by
  refine q_enter (by decide) (Nat.le_of_ble_eq_true rfl) ?_
  intro p e s m below meth c ls hX hr hlk hnm hE hK hP hD hS hA hl
  obtain ⟨hx, hb, hml, hown, ht⟩ := id hX
  have hl : lv_has ls 1 [(0, .ref (sa 1))] := hl
  refine va_gets hx hb (hE.2.2.2.2.2.2.1.narrow hA.2) hS hown (ht _ kw_470) (fun _ h9 => h9) dJ0_coder_7d493_0 ?_
  refine lv_if_eq (tgt := 13) hx hb dJ0_coder_7d493_3 (by decide) (fun c3 => (rg_eqF c3 (rg_of (by decide) : rg (1 : Int32) 1 1) (rg_of (by decide) : rg (0 : Int32) 0 0) (by decide)).elim) (fun c3 => ?_)
  refine lv_aload_n hx hb dJ0_coder_7d493_6 rfl (lv_at hl 0 rfl) ?_
  refine vk_getf (v := .int 0) hx hb ((hE.2.2.2.2.2.1.1 1 (by decide)).2.1.narrow hA.2) hS hown (ht _ kw_1362) (fun _ h9 => h9) dJ0_coder_7d493_7 ?_
  refine lv_goto (tgt := 14) hx hb dJ0_coder_7d493_10 (by decide) ?_
  exact q_nret hX hr hlk (by decide) () rfl hP hD hS dJ0_coder_7d493_14
abbrev w_s_isLatin11 (cI cZ cP : ClassId) : va_W := []
set_option maxHeartbeats 4000000 in
set_option maxRecDepth 100000 in
theorem c_s_isLatin11 (l : Launch) (D : va_G) (cI cZ cP : ClassId) (sa : Nat → Nat) (sz : Nat) : Met l yJ0_isLatin1_aae02 (qW yJ0_isLatin1_aae02 cJ0_isLatin1_aae02 1 (some .boolean)) ({ frames := 0, cells := 0, slots := 0, locals := 0 } : Room) (qP D (TY cI cZ cP) sa [.ref (sa 1)] (w_s_isLatin11 cI cZ cP) sz) (qQi D (w_s_isLatin11 cI cZ cP) sz (fun (r : Int32) (u : Unit) => r = 1) (fun u : Unit => [])) 0 0 (va_A (w_s_isLatin11 cI cZ cP) sz) := by
  refine q_enter (by decide) (Nat.le_of_ble_eq_true rfl) ?_
  intro p e s m below meth c ls hX hr hlk hnm hE hK hP hD hS hA hl
  obtain ⟨hx, hb, hml, hown, ht⟩ := id hX
  have hl : lv_has ls 1 [(0, .ref (sa 1))] := hl
  refine va_gets hx hb (hE.2.2.2.2.2.2.1.narrow hA.2) hS hown (ht _ kw_470) (fun _ h9 => h9) dJ0_isLatin1_aae02_0 ?_
  refine lv_if_eq (tgt := 17) hx hb dJ0_isLatin1_aae02_3 (by decide) (fun c3 => (rg_eqF c3 (rg_of (by decide) : rg (1 : Int32) 1 1) (rg_of (by decide) : rg (0 : Int32) 0 0) (by decide)).elim) (fun c3 => ?_)
  refine lv_aload_n hx hb dJ0_isLatin1_aae02_6 rfl (lv_at hl 0 rfl) ?_
  refine vk_getf (v := .int 0) hx hb ((hE.2.2.2.2.2.1.1 1 (by decide)).2.1.narrow hA.2) hS hown (ht _ kw_1362) (fun _ h9 => h9) dJ0_isLatin1_aae02_7 ?_
  refine lv_if_ne (tgt := 17) hx hb dJ0_isLatin1_aae02_10 (by decide) (fun c10 => absurd rfl c10) (fun c10 => ?_)
  refine lv_iconst (v := 1) hx hb dJ0_isLatin1_aae02_13 (by decide) ?_
  refine lv_goto (tgt := 18) hx hb dJ0_isLatin1_aae02_14 (by decide) ?_
  exact q_zret hX hr hlk (by decide) () rfl hP hD hS dJ0_isLatin1_aae02_18
abbrev w_s_length1 (cI cZ cP : ClassId) : va_W := []
set_option maxHeartbeats 4000000 in
set_option maxRecDepth 100000 in
theorem c_s_length1 (l : Launch) (D : va_G) (cI cZ cP : ClassId) (sa : Nat → Nat) (sz : Nat) : Met l yJ0_length_8abf5 (qW yJ0_length_8abf5 cJ0_length_8abf5 1 (some .int)) ({ frames := 1, cells := 0, slots := 0, locals := 20 } : Room) (qP D (TY cI cZ cP) sa [.ref (sa 1)] (w_s_length1 cI cZ cP) sz) (qQi D (w_s_length1 cI cZ cP) sz (fun (r : Int32) (u : Unit) => r = 4) (fun u : Unit => [])) 0 0 (va_A (w_s_length1 cI cZ cP) sz) := by
  refine q_enter (by decide) (Nat.le_of_ble_eq_true rfl) ?_
  intro p e s m below meth c ls hX hr hlk hnm hE hK hP hD hS hA hl
  obtain ⟨hx, hb, hml, hown, ht⟩ := id hX
  have hl : lv_has ls 1 [(0, .ref (sa 1))] := hl
  refine lv_aload_n hx hb dJ0_length_8abf5_0 rfl (lv_at hl 0 rfl) ?_
  refine vk_getf (v := .ref (sa 5)) hx hb ((hE.2.2.2.2.2.1.1 1 (by decide)).2.2.1.narrow hA.2) hS hown (ht _ kw_1361) (fun _ h9 => h9) dJ0_length_8abf5_1 ?_
  refine va_tlen (v := 4) hx hb ((hE.2.2.2.2.2.1.1 1 (by decide)).2.2.2.narrow hA.2) hS rfl dJ0_length_8abf5_4 ?_
  refine lv_aload_n hx hb dJ0_length_8abf5_5 rfl (lv_at hl 0 rfl) ?_
  refine q_Ti (wr := []) [] [] hX hE hK hP hD hS hA hl.1 lk_J0_335 (c_s_coder1 l D cI cZ cP sa _) rfl rfl rfl rfl (by decide) (vk_recv (i := 1) (hE.2.2.2.2.2.1.narrow hA.2) (by decide) hS) rfl rfl (Nat.le_of_ble_eq_true rfl) rfl rfl ⟨Nat.le_of_ble_eq_true rfl, Nat.le_of_ble_eq_true rfl⟩ ⟨Nat.le_of_ble_eq_true rfl, Nat.le_of_ble_eq_true rfl⟩ dJ0_length_8abf5_6 (fun x6 _ H locs h6 hP hD hS => ?_)
  have hr6 := h6
  have hP : va_P D vwCl [] H := hP
  have hD : va_D (va_A (w_s_length1 cI cZ cP) sz) [] := hD
  subst hr6
  refine lv_ishr hx hb dJ0_length_8abf5_9 ?_
  refine q_i (z := 4) (by decide) ?_
  exact q_iret hX hr hlk () rfl hP hD hS dJ0_length_8abf5_10
abbrev w_s_charAtL1 (cI cZ cP : ClassId) (p0 : Int32) : va_W := []
set_option maxHeartbeats 4000000 in
set_option maxRecDepth 100000 in
theorem c_s_charAtL1 (l : Launch) (D : va_G) (cI cZ cP : ClassId) (sa : Nat → Nat) (p0 : Int32) (h_p0 : rg p0 0 3) (sz : Nat) : Met l yJ1_charAt_3b067 (qW yJ1_charAt_3b067 cJ1_charAt_3b067 2 (some .char)) ({ frames := 2, cells := 0, slots := 0, locals := 43 } : Room) (qP D (TY cI cZ cP) sa [.ref (sa 5), .int p0] (w_s_charAtL1 cI cZ cP p0) sz) (qQi D (w_s_charAtL1 cI cZ cP p0) sz (fun (r : Int32) (u : Unit) => narrow .char (.int r) = .int r) (fun u : Unit => [])) 0 0 (va_A (w_s_charAtL1 cI cZ cP p0) sz) := by
  refine q_enter (by decide) (Nat.le_of_ble_eq_true rfl) ?_
  intro p e s m below meth c ls hX hr hlk hnm hE hK hP hD hS hA hl
  obtain ⟨hx, hb, hml, hown, ht⟩ := id hX
  have hl : lv_has ls 2 [(0, .ref (sa 5)), (1, .int p0)] := hl
  refine lv_iload_n hx hb dJ1_charAt_3b067_0 rfl (lv_at hl 1 rfl) ?_
  refine lv_aload_n hx hb dJ1_charAt_3b067_1 rfl (lv_at hl 0 rfl) ?_
  refine va_tlen (v := 4) hx hb ((hE.2.2.2.2.2.1.1 1 (by decide)).2.2.2.narrow hA.2) hS rfl dJ1_charAt_3b067_2 ?_
  refine q_Sv (wr := []) [] [] hX hE hK hP hD hS hA hl.1 lk_J1_9 (c_j_checkIndex l D cI cZ cP sa p0 4 h_p0 (rg_w (rg_of (by decide) : rg (4 : Int32) 4 4) (by decide)) _) rfl rfl rfl rfl (by decide) rfl rfl (Nat.le_of_ble_eq_true rfl) rfl rfl ⟨Nat.le_of_ble_eq_true rfl, Nat.le_of_ble_eq_true rfl⟩ ⟨Nat.le_of_ble_eq_true rfl, Nat.le_of_ble_eq_true rfl⟩ dJ1_charAt_3b067_3 (fun _ H locs h3 hP hD hS => ?_)
  have hP : va_P D vwCl [] H := hP
  have hD : va_D (va_A (w_s_charAtL1 cI cZ cP p0) sz) [] := hD
  refine lv_aload_n hx hb dJ1_charAt_3b067_6 rfl (lv_at hl 0 rfl) ?_
  refine lv_iload_n hx hb dJ1_charAt_3b067_7 rfl (lv_at hl 1 rfl) ?_
  refine va_tb hx hb ((hE.2.2.2.2.2.1.1 1 (by decide)).2.2.2.narrow hA.2) hS (rg_in h_p0 (by decide)) rfl dJ1_charAt_3b067_8 ?_
  refine lv_topi (fun v8 e_v8 => ?_)
  refine lv_sipush (v := 255) hx hb dJ1_charAt_3b067_9 (by decide) ?_
  refine lv_iand hx hb dJ1_charAt_3b067_12 ?_
  refine lv_topi (fun v12 e_v12 => ?_)
  have r_v12 : rg v12 0 255 := rg_and e_v12 (rg_of (by decide) : rg (255 : Int32) 255 255) (by decide)
  refine lv_i2c hx hb dJ1_charAt_3b067_13 rfl ?_
  refine lv_topi (fun v13 e_v13 => ?_)
  exact q_nret hX hr hlk (by rw [e_v13]; exact pk_nc _) () (by rw [e_v13]; exact pk_nc _) hP hD hS dJ1_charAt_3b067_14
abbrev w_s_charAt1 (cI cZ cP : ClassId) (p0 : Int32) : va_W := []
set_option maxHeartbeats 4000000 in
set_option maxRecDepth 100000 in
theorem c_s_charAt1 (l : Launch) (D : va_G) (cI cZ cP : ClassId) (sa : Nat → Nat) (p0 : Int32) (h_p0 : rg p0 0 3) (sz : Nat) : Met l yJ0_charAt_5068e (qW yJ0_charAt_5068e cJ0_charAt_5068e 2 (some .char)) ({ frames := 3, cells := 0, slots := 0, locals := 64 } : Room) (qP D (TY cI cZ cP) sa [.ref (sa 1), .int p0] (w_s_charAt1 cI cZ cP p0) sz) (qQi D (w_s_charAt1 cI cZ cP p0) sz (fun (r : Int32) (u : Unit) => True) (fun u : Unit => [])) 0 0 (va_A (w_s_charAt1 cI cZ cP p0) sz) := by
  refine q_enter (by decide) (Nat.le_of_ble_eq_true rfl) ?_
  intro p e s m below meth c ls hX hr hlk hnm hE hK hP hD hS hA hl
  obtain ⟨hx, hb, hml, hown, ht⟩ := id hX
  have hl : lv_has ls 2 [(0, .ref (sa 1)), (1, .int p0)] := hl
  refine lv_aload_n hx hb dJ0_charAt_5068e_0 rfl (lv_at hl 0 rfl) ?_
  refine q_Ti (wr := []) [] [] hX hE hK hP hD hS hA hl.1 lk_J0_492 (c_s_isLatin11 l D cI cZ cP sa _) rfl rfl rfl rfl (by decide) (vk_recv (i := 1) (hE.2.2.2.2.2.1.narrow hA.2) (by decide) hS) rfl rfl (Nat.le_of_ble_eq_true rfl) rfl rfl ⟨Nat.le_of_ble_eq_true rfl, Nat.le_of_ble_eq_true rfl⟩ ⟨Nat.le_of_ble_eq_true rfl, Nat.le_of_ble_eq_true rfl⟩ dJ0_charAt_5068e_1 (fun x1 _ H locs h1 hP hD hS => ?_)
  have hr1 := h1
  have hP : va_P D vwCl [] H := hP
  have hD : va_D (va_A (w_s_charAt1 cI cZ cP p0) sz) [] := hD
  subst hr1
  refine lv_if_eq (tgt := 16) hx hb dJ0_charAt_5068e_4 (by decide) (fun c4 => (rg_eqF c4 (rg_of (by decide) : rg (1 : Int32) 1 1) (rg_of (by decide) : rg (0 : Int32) 0 0) (by decide)).elim) (fun c4 => ?_)
  refine lv_aload_n hx hb dJ0_charAt_5068e_7 rfl (lv_at hl 0 rfl) ?_
  refine vk_getf (v := .ref (sa 5)) hx hb ((hE.2.2.2.2.2.1.1 1 (by decide)).2.2.1.narrow hA.2) hS hown (ht _ kw_1361) (fun _ h9 => h9) dJ0_charAt_5068e_8 ?_
  refine lv_iload_n hx hb dJ0_charAt_5068e_11 rfl (lv_at hl 1 rfl) ?_
  refine q_Si (wr := []) [] [] hX hE hK hP hD hS hA hl.1 lk_J0_495 (c_s_charAtL1 l D cI cZ cP sa p0 h_p0 _) rfl rfl rfl rfl (by decide) rfl rfl (Nat.le_of_ble_eq_true rfl) rfl rfl ⟨Nat.le_of_ble_eq_true rfl, Nat.le_of_ble_eq_true rfl⟩ ⟨Nat.le_of_ble_eq_true rfl, Nat.le_of_ble_eq_true rfl⟩ dJ0_charAt_5068e_12 (fun x12 _ H locs h12 hP hD hS => ?_)
  have y12_0 := h12
  have hP : va_P D vwCl [] H := hP
  have hD : va_D (va_A (w_s_charAt1 cI cZ cP p0) sz) [] := hD
  exact q_nret hX hr hlk y12_0 () trivial hP hD hS dJ0_charAt_5068e_15
abbrev w_s_coder2 (cI cZ cP : ClassId) : va_W := []
set_option maxHeartbeats 4000000 in
set_option maxRecDepth 100000 in
theorem c_s_coder2 (l : Launch) (D : va_G) (cI cZ cP : ClassId) (sa : Nat → Nat) (sz : Nat) : Met l yJ0_coder_7d493 (qW yJ0_coder_7d493 cJ0_coder_7d493 1 (some .byte)) ({ frames := 0, cells := 0, slots := 0, locals := 0 } : Room) (qP D (TY cI cZ cP) sa [.ref (sa 2)] (w_s_coder2 cI cZ cP) sz) (qQi D (w_s_coder2 cI cZ cP) sz (fun (r : Int32) (u : Unit) => r = 0) (fun u : Unit => [])) 0 0 (va_A (w_s_coder2 cI cZ cP) sz) := by
  refine q_enter (by decide) (Nat.le_of_ble_eq_true rfl) ?_
  intro p e s m below meth c ls hX hr hlk hnm hE hK hP hD hS hA hl
  obtain ⟨hx, hb, hml, hown, ht⟩ := id hX
  have hl : lv_has ls 1 [(0, .ref (sa 2))] := hl
  refine va_gets hx hb (hE.2.2.2.2.2.2.1.narrow hA.2) hS hown (ht _ kw_470) (fun _ h9 => h9) dJ0_coder_7d493_0 ?_
  refine lv_if_eq (tgt := 13) hx hb dJ0_coder_7d493_3 (by decide) (fun c3 => (rg_eqF c3 (rg_of (by decide) : rg (1 : Int32) 1 1) (rg_of (by decide) : rg (0 : Int32) 0 0) (by decide)).elim) (fun c3 => ?_)
  refine lv_aload_n hx hb dJ0_coder_7d493_6 rfl (lv_at hl 0 rfl) ?_
  refine vk_getf (v := .int 0) hx hb ((hE.2.2.2.2.2.1.1 2 (by decide)).2.1.narrow hA.2) hS hown (ht _ kw_1362) (fun _ h9 => h9) dJ0_coder_7d493_7 ?_
  refine lv_goto (tgt := 14) hx hb dJ0_coder_7d493_10 (by decide) ?_
  exact q_nret hX hr hlk (by decide) () rfl hP hD hS dJ0_coder_7d493_14
abbrev w_s_isLatin12 (cI cZ cP : ClassId) : va_W := []
set_option maxHeartbeats 4000000 in
set_option maxRecDepth 100000 in
theorem c_s_isLatin12 (l : Launch) (D : va_G) (cI cZ cP : ClassId) (sa : Nat → Nat) (sz : Nat) : Met l yJ0_isLatin1_aae02 (qW yJ0_isLatin1_aae02 cJ0_isLatin1_aae02 1 (some .boolean)) ({ frames := 0, cells := 0, slots := 0, locals := 0 } : Room) (qP D (TY cI cZ cP) sa [.ref (sa 2)] (w_s_isLatin12 cI cZ cP) sz) (qQi D (w_s_isLatin12 cI cZ cP) sz (fun (r : Int32) (u : Unit) => r = 1) (fun u : Unit => [])) 0 0 (va_A (w_s_isLatin12 cI cZ cP) sz) := by
  refine q_enter (by decide) (Nat.le_of_ble_eq_true rfl) ?_
  intro p e s m below meth c ls hX hr hlk hnm hE hK hP hD hS hA hl
  obtain ⟨hx, hb, hml, hown, ht⟩ := id hX
  have hl : lv_has ls 1 [(0, .ref (sa 2))] := hl
  refine va_gets hx hb (hE.2.2.2.2.2.2.1.narrow hA.2) hS hown (ht _ kw_470) (fun _ h9 => h9) dJ0_isLatin1_aae02_0 ?_
  refine lv_if_eq (tgt := 17) hx hb dJ0_isLatin1_aae02_3 (by decide) (fun c3 => (rg_eqF c3 (rg_of (by decide) : rg (1 : Int32) 1 1) (rg_of (by decide) : rg (0 : Int32) 0 0) (by decide)).elim) (fun c3 => ?_)
  refine lv_aload_n hx hb dJ0_isLatin1_aae02_6 rfl (lv_at hl 0 rfl) ?_
  refine vk_getf (v := .int 0) hx hb ((hE.2.2.2.2.2.1.1 2 (by decide)).2.1.narrow hA.2) hS hown (ht _ kw_1362) (fun _ h9 => h9) dJ0_isLatin1_aae02_7 ?_
  refine lv_if_ne (tgt := 17) hx hb dJ0_isLatin1_aae02_10 (by decide) (fun c10 => absurd rfl c10) (fun c10 => ?_)
  refine lv_iconst (v := 1) hx hb dJ0_isLatin1_aae02_13 (by decide) ?_
  refine lv_goto (tgt := 18) hx hb dJ0_isLatin1_aae02_14 (by decide) ?_
  exact q_zret hX hr hlk (by decide) () rfl hP hD hS dJ0_isLatin1_aae02_18
abbrev w_s_length2 (cI cZ cP : ClassId) : va_W := []
set_option maxHeartbeats 4000000 in
set_option maxRecDepth 100000 in
theorem c_s_length2 (l : Launch) (D : va_G) (cI cZ cP : ClassId) (sa : Nat → Nat) (sz : Nat) : Met l yJ0_length_8abf5 (qW yJ0_length_8abf5 cJ0_length_8abf5 1 (some .int)) ({ frames := 1, cells := 0, slots := 0, locals := 20 } : Room) (qP D (TY cI cZ cP) sa [.ref (sa 2)] (w_s_length2 cI cZ cP) sz) (qQi D (w_s_length2 cI cZ cP) sz (fun (r : Int32) (u : Unit) => r = 4) (fun u : Unit => [])) 0 0 (va_A (w_s_length2 cI cZ cP) sz) := by
  refine q_enter (by decide) (Nat.le_of_ble_eq_true rfl) ?_
  intro p e s m below meth c ls hX hr hlk hnm hE hK hP hD hS hA hl
  obtain ⟨hx, hb, hml, hown, ht⟩ := id hX
  have hl : lv_has ls 1 [(0, .ref (sa 2))] := hl
  refine lv_aload_n hx hb dJ0_length_8abf5_0 rfl (lv_at hl 0 rfl) ?_
  refine vk_getf (v := .ref (sa 6)) hx hb ((hE.2.2.2.2.2.1.1 2 (by decide)).2.2.1.narrow hA.2) hS hown (ht _ kw_1361) (fun _ h9 => h9) dJ0_length_8abf5_1 ?_
  refine va_tlen (v := 4) hx hb ((hE.2.2.2.2.2.1.1 2 (by decide)).2.2.2.narrow hA.2) hS rfl dJ0_length_8abf5_4 ?_
  refine lv_aload_n hx hb dJ0_length_8abf5_5 rfl (lv_at hl 0 rfl) ?_
  refine q_Ti (wr := []) [] [] hX hE hK hP hD hS hA hl.1 lk_J0_335 (c_s_coder2 l D cI cZ cP sa _) rfl rfl rfl rfl (by decide) (vk_recv (i := 2) (hE.2.2.2.2.2.1.narrow hA.2) (by decide) hS) rfl rfl (Nat.le_of_ble_eq_true rfl) rfl rfl ⟨Nat.le_of_ble_eq_true rfl, Nat.le_of_ble_eq_true rfl⟩ ⟨Nat.le_of_ble_eq_true rfl, Nat.le_of_ble_eq_true rfl⟩ dJ0_length_8abf5_6 (fun x6 _ H locs h6 hP hD hS => ?_)
  have hr6 := h6
  have hP : va_P D vwCl [] H := hP
  have hD : va_D (va_A (w_s_length2 cI cZ cP) sz) [] := hD
  subst hr6
  refine lv_ishr hx hb dJ0_length_8abf5_9 ?_
  refine q_i (z := 4) (by decide) ?_
  exact q_iret hX hr hlk () rfl hP hD hS dJ0_length_8abf5_10
abbrev w_s_charAtL2 (cI cZ cP : ClassId) (p0 : Int32) : va_W := []
set_option maxHeartbeats 4000000 in
set_option maxRecDepth 100000 in
theorem c_s_charAtL2 (l : Launch) (D : va_G) (cI cZ cP : ClassId) (sa : Nat → Nat) (p0 : Int32) (h_p0 : rg p0 0 3) (sz : Nat) : Met l yJ1_charAt_3b067 (qW yJ1_charAt_3b067 cJ1_charAt_3b067 2 (some .char)) ({ frames := 2, cells := 0, slots := 0, locals := 43 } : Room) (qP D (TY cI cZ cP) sa [.ref (sa 6), .int p0] (w_s_charAtL2 cI cZ cP p0) sz) (qQi D (w_s_charAtL2 cI cZ cP p0) sz (fun (r : Int32) (u : Unit) => narrow .char (.int r) = .int r) (fun u : Unit => [])) 0 0 (va_A (w_s_charAtL2 cI cZ cP p0) sz) := by
  refine q_enter (by decide) (Nat.le_of_ble_eq_true rfl) ?_
  intro p e s m below meth c ls hX hr hlk hnm hE hK hP hD hS hA hl
  obtain ⟨hx, hb, hml, hown, ht⟩ := id hX
  have hl : lv_has ls 2 [(0, .ref (sa 6)), (1, .int p0)] := hl
  refine lv_iload_n hx hb dJ1_charAt_3b067_0 rfl (lv_at hl 1 rfl) ?_
  refine lv_aload_n hx hb dJ1_charAt_3b067_1 rfl (lv_at hl 0 rfl) ?_
  refine va_tlen (v := 4) hx hb ((hE.2.2.2.2.2.1.1 2 (by decide)).2.2.2.narrow hA.2) hS rfl dJ1_charAt_3b067_2 ?_
  refine q_Sv (wr := []) [] [] hX hE hK hP hD hS hA hl.1 lk_J1_9 (c_j_checkIndex l D cI cZ cP sa p0 4 h_p0 (rg_w (rg_of (by decide) : rg (4 : Int32) 4 4) (by decide)) _) rfl rfl rfl rfl (by decide) rfl rfl (Nat.le_of_ble_eq_true rfl) rfl rfl ⟨Nat.le_of_ble_eq_true rfl, Nat.le_of_ble_eq_true rfl⟩ ⟨Nat.le_of_ble_eq_true rfl, Nat.le_of_ble_eq_true rfl⟩ dJ1_charAt_3b067_3 (fun _ H locs h3 hP hD hS => ?_)
  have hP : va_P D vwCl [] H := hP
  have hD : va_D (va_A (w_s_charAtL2 cI cZ cP p0) sz) [] := hD
  refine lv_aload_n hx hb dJ1_charAt_3b067_6 rfl (lv_at hl 0 rfl) ?_
  refine lv_iload_n hx hb dJ1_charAt_3b067_7 rfl (lv_at hl 1 rfl) ?_
  refine va_tb hx hb ((hE.2.2.2.2.2.1.1 2 (by decide)).2.2.2.narrow hA.2) hS (rg_in h_p0 (by decide)) rfl dJ1_charAt_3b067_8 ?_
  refine lv_topi (fun v8 e_v8 => ?_)
  refine lv_sipush (v := 255) hx hb dJ1_charAt_3b067_9 (by decide) ?_
  refine lv_iand hx hb dJ1_charAt_3b067_12 ?_
  refine lv_topi (fun v12 e_v12 => ?_)
  have r_v12 : rg v12 0 255 := rg_and e_v12 (rg_of (by decide) : rg (255 : Int32) 255 255) (by decide)
  refine lv_i2c hx hb dJ1_charAt_3b067_13 rfl ?_
  refine lv_topi (fun v13 e_v13 => ?_)
  exact q_nret hX hr hlk (by rw [e_v13]; exact pk_nc _) () (by rw [e_v13]; exact pk_nc _) hP hD hS dJ1_charAt_3b067_14
abbrev w_s_charAt2 (cI cZ cP : ClassId) (p0 : Int32) : va_W := []
set_option maxHeartbeats 4000000 in
set_option maxRecDepth 100000 in
theorem c_s_charAt2 (l : Launch) (D : va_G) (cI cZ cP : ClassId) (sa : Nat → Nat) (p0 : Int32) (h_p0 : rg p0 0 3) (sz : Nat) : Met l yJ0_charAt_5068e (qW yJ0_charAt_5068e cJ0_charAt_5068e 2 (some .char)) ({ frames := 3, cells := 0, slots := 0, locals := 64 } : Room) (qP D (TY cI cZ cP) sa [.ref (sa 2), .int p0] (w_s_charAt2 cI cZ cP p0) sz) (qQi D (w_s_charAt2 cI cZ cP p0) sz (fun (r : Int32) (u : Unit) => True) (fun u : Unit => [])) 0 0 (va_A (w_s_charAt2 cI cZ cP p0) sz) := by
  refine q_enter (by decide) (Nat.le_of_ble_eq_true rfl) ?_
  intro p e s m below meth c ls hX hr hlk hnm hE hK hP hD hS hA hl
  obtain ⟨hx, hb, hml, hown, ht⟩ := id hX
  have hl : lv_has ls 2 [(0, .ref (sa 2)), (1, .int p0)] := hl
  refine lv_aload_n hx hb dJ0_charAt_5068e_0 rfl (lv_at hl 0 rfl) ?_
  refine q_Ti (wr := []) [] [] hX hE hK hP hD hS hA hl.1 lk_J0_492 (c_s_isLatin12 l D cI cZ cP sa _) rfl rfl rfl rfl (by decide) (vk_recv (i := 2) (hE.2.2.2.2.2.1.narrow hA.2) (by decide) hS) rfl rfl (Nat.le_of_ble_eq_true rfl) rfl rfl ⟨Nat.le_of_ble_eq_true rfl, Nat.le_of_ble_eq_true rfl⟩ ⟨Nat.le_of_ble_eq_true rfl, Nat.le_of_ble_eq_true rfl⟩ dJ0_charAt_5068e_1 (fun x1 _ H locs h1 hP hD hS => ?_)
  have hr1 := h1
  have hP : va_P D vwCl [] H := hP
  have hD : va_D (va_A (w_s_charAt2 cI cZ cP p0) sz) [] := hD
  subst hr1
  refine lv_if_eq (tgt := 16) hx hb dJ0_charAt_5068e_4 (by decide) (fun c4 => (rg_eqF c4 (rg_of (by decide) : rg (1 : Int32) 1 1) (rg_of (by decide) : rg (0 : Int32) 0 0) (by decide)).elim) (fun c4 => ?_)
  refine lv_aload_n hx hb dJ0_charAt_5068e_7 rfl (lv_at hl 0 rfl) ?_
  refine vk_getf (v := .ref (sa 6)) hx hb ((hE.2.2.2.2.2.1.1 2 (by decide)).2.2.1.narrow hA.2) hS hown (ht _ kw_1361) (fun _ h9 => h9) dJ0_charAt_5068e_8 ?_
  refine lv_iload_n hx hb dJ0_charAt_5068e_11 rfl (lv_at hl 1 rfl) ?_
  refine q_Si (wr := []) [] [] hX hE hK hP hD hS hA hl.1 lk_J0_495 (c_s_charAtL2 l D cI cZ cP sa p0 h_p0 _) rfl rfl rfl rfl (by decide) rfl rfl (Nat.le_of_ble_eq_true rfl) rfl rfl ⟨Nat.le_of_ble_eq_true rfl, Nat.le_of_ble_eq_true rfl⟩ ⟨Nat.le_of_ble_eq_true rfl, Nat.le_of_ble_eq_true rfl⟩ dJ0_charAt_5068e_12 (fun x12 _ H locs h12 hP hD hS => ?_)
  have y12_0 := h12
  have hP : va_P D vwCl [] H := hP
  have hD : va_D (va_A (w_s_charAt2 cI cZ cP p0) sz) [] := hD
  exact q_nret hX hr hlk y12_0 () trivial hP hD hS dJ0_charAt_5068e_15
abbrev w_T_append (cI cZ cP : ClassId) (sc : Nat) (sc_bytes : Nat) (f_sc_bytes : Nat → Int32) (sc_length : Int32) (sc_next : Int32) (sc_place : Int32) (sc_sort : Int32) (sc_numbers : Nat) (sc_told : Int32) (p0 : Int32) : va_W := [(sc, .inr (5, [.ref sc_bytes, .int sc_length, .int sc_next, .int sc_place, .int sc_sort, .ref sc_numbers, .int sc_told])), (sc_bytes, .inl (cI, 150, .inl f_sc_bytes))]
set_option maxHeartbeats 4000000 in
set_option maxRecDepth 100000 in
theorem c_T_append (l : Launch) (D : va_G) (cI cZ cP : ClassId) (sa : Nat → Nat) (sc : Nat) (sc_bytes : Nat) (f_sc_bytes : Nat → Int32) (sc_length : Int32) (sc_next : Int32) (sc_place : Int32) (sc_sort : Int32) (sc_numbers : Nat) (sc_told : Int32) (p0 : Int32) (h_sc_length : rg sc_length 0 150) (h_sc_next : rg sc_next 0 150) (h_sc_place : rg sc_place 0 150) (h_sc_told : rg sc_told 0 6) (sz : Nat) : Met l yX5_append (qW yX5_append cX5_append 2 none) ({ frames := 0, cells := 0, slots := 0, locals := 0 } : Room) (qP D (TY cI cZ cP) sa [.ref sc, .int p0] (w_T_append cI cZ cP sc sc_bytes f_sc_bytes sc_length sc_next sc_place sc_sort sc_numbers sc_told p0) sz) (qQv D (w_T_append cI cZ cP sc sc_bytes f_sc_bytes sc_length sc_next sc_place sc_sort sc_numbers sc_told p0) sz (fun u : (Int32) × (Nat → Int32) => rg u.1 1 150) (fun u : (Int32) × (Nat → Int32) => [(sc, .inr (5, [.ref sc_bytes, .int u.1, .int sc_next, .int sc_place, .int sc_sort, .ref sc_numbers, .int sc_told])), (sc_bytes, .inl (cI, 150, .inl u.2))])) 0 0 (va_A (w_T_append cI cZ cP sc sc_bytes f_sc_bytes sc_length sc_next sc_place sc_sort sc_numbers sc_told p0) sz) := by
  refine q_enter (by decide) (Nat.le_of_ble_eq_true rfl) ?_
  intro p e s m below meth c ls hX hr hlk hnm hE hK hP hD hS hA hl
  obtain ⟨hx, hb, hml, hown, ht⟩ := id hX
  have hl : lv_has ls 2 [(0, .ref sc), (1, .int p0)] := hl
  refine lv_aload_n hx hb dX5_append_0 rfl (lv_at hl 0 rfl) ?_
  refine va_get (D := D) (ci := 5) (v := .int sc_length) (C := RX5) (T := TX5) (N := 7) hx hb ht inX5 hown hK hP 0 rfl rfl 1 (Nat.le_of_ble_eq_true rfl) (ht _ kw_210) (fun _ h9 => h9) rfl dX5_append_1 ?_
  refine lv_sipush (v := 150) hx hb dX5_append_4 (by decide) ?_
  refine lv_icmp_ge (tgt := 30) hx hb dX5_append_7 (by decide) (fun c7 => ?_) (fun c7 => ?_)
  · have r7tb : rg sc_length 150 150 := rg_leR c7 (rg_of (by decide) : rg (150 : Int32) 150 150) h_sc_length (by decide)
    exact q_vret hX hr hlk (sc_length, f_sc_bytes) (rg_w r7tb (by decide)) hP hD hS dX5_append_30
  · have r7fa : rg sc_length 0 149 := rg_ltL (Int32.not_le.mp c7) h_sc_length (rg_of (by decide) : rg (150 : Int32) 150 150) (by decide)
    refine lv_aload_n hx hb dX5_append_10 rfl (lv_at hl 0 rfl) ?_
    refine va_get (D := D) (ci := 5) (v := .ref sc_bytes) (C := RX5) (T := TX5) (N := 7) hx hb ht inX5 hown hK hP 0 rfl rfl 0 (Nat.le_of_ble_eq_true rfl) (ht _ kw_209) (fun _ h9 => h9) rfl dX5_append_11 ?_
    refine lv_aload_n hx hb dX5_append_14 rfl (lv_at hl 0 rfl) ?_
    refine va_get (D := D) (ci := 5) (v := .int sc_length) (C := RX5) (T := TX5) (N := 7) hx hb ht inX5 hown hK hP 0 rfl rfl 1 (Nat.le_of_ble_eq_true rfl) (ht _ kw_210) (fun _ h9 => h9) rfl dX5_append_15 ?_
    refine lv_iload_n hx hb dX5_append_18 rfl (lv_at hl 1 rfl) ?_
    refine va_iast hx hb hK hP hD hS 1 0 rfl rfl (rg_in r7fa (by decide)) dX5_append_19 (fun H locs hP hD hS => ?_)
    have hP : va_P D vwCl [(sc, .inr (5, [.ref sc_bytes, .int sc_length, .int sc_next, .int sc_place, .int sc_sort, .ref sc_numbers, .int sc_told])), (sc_bytes, .inl (cI, 150, .inl (upd f_sc_bytes sc_length.toNatClampNeg p0)))] H := hP
    have hD : va_D (va_A (w_T_append cI cZ cP sc sc_bytes f_sc_bytes sc_length sc_next sc_place sc_sort sc_numbers sc_told p0) sz) [(sc, .inr (5, [.ref sc_bytes, .int sc_length, .int sc_next, .int sc_place, .int sc_sort, .ref sc_numbers, .int sc_told])), (sc_bytes, .inl (cI, 150, .inl (upd f_sc_bytes sc_length.toNatClampNeg p0)))] := hD
    generalize hf_f19 : (upd f_sc_bytes sc_length.toNatClampNeg p0) = f19 at hP hD
    have hP : va_P D vwCl [(sc, .inr (5, [.ref sc_bytes, .int sc_length, .int sc_next, .int sc_place, .int sc_sort, .ref sc_numbers, .int sc_told])), (sc_bytes, .inl (cI, 150, .inl f19))] H := hP
    have hD : va_D (va_A (w_T_append cI cZ cP sc sc_bytes f_sc_bytes sc_length sc_next sc_place sc_sort sc_numbers sc_told p0) sz) [(sc, .inr (5, [.ref sc_bytes, .int sc_length, .int sc_next, .int sc_place, .int sc_sort, .ref sc_numbers, .int sc_told])), (sc_bytes, .inl (cI, 150, .inl f19))] := hD
    refine lv_aload_n hx hb dX5_append_20 rfl (lv_at hl 0 rfl) ?_
    refine lv_dup hx hb dX5_append_21 rfl ?_
    refine va_get (D := D) (ci := 5) (v := .int sc_length) (C := RX5) (T := TX5) (N := 7) hx hb ht inX5 hown hK hP 0 rfl rfl 1 (Nat.le_of_ble_eq_true rfl) (ht _ kw_210) (fun _ h9 => h9) rfl dX5_append_22 ?_
    refine lv_iconst (v := 1) hx hb dX5_append_25 (by decide) ?_
    refine lv_iadd hx hb dX5_append_26 ?_
    refine lv_topi (fun v26 e_v26 => ?_)
    obtain ⟨r_v26, q_v26⟩ := rg_add (l := 1) (h := 150) e_v26 r7fa (rg_of (by decide) : rg (1 : Int32) 1 1) (by decide)
    have i_v26 := in_up q_v26 (rg_of (by decide) : rg (1 : Int32) 1 1) (by decide)
    refine va_put (D := D) (ci := 5) (v := .int v26) (ty := .int) (C := RX5) (T := TX5) (N := 7) hx hb ht inX5 tyX5 tyX5_ok nmX5 hown hK hP hD hS 0 rfl rfl 1 (Nat.le_of_ble_eq_true rfl) (ht _ kw_210) (fun _ h9 => h9) rfl (by decide +kernel) rfl rfl (Nat.le_of_ble_eq_true rfl) dX5_append_27 (fun H locs hP hD hS => ?_)
    have hP : va_P D vwCl [(sc, .inr (5, [.ref sc_bytes, .int v26, .int sc_next, .int sc_place, .int sc_sort, .ref sc_numbers, .int sc_told])), (sc_bytes, .inl (cI, 150, .inl f19))] H := hP
    have hD : va_D (va_A (w_T_append cI cZ cP sc sc_bytes f_sc_bytes sc_length sc_next sc_place sc_sort sc_numbers sc_told p0) sz) [(sc, .inr (5, [.ref sc_bytes, .int v26, .int sc_next, .int sc_place, .int sc_sort, .ref sc_numbers, .int sc_told])), (sc_bytes, .inl (cI, 150, .inl f19))] := hD
    exact q_vret hX hr hlk (v26, f19) r_v26 hP hD hS dX5_append_30
abbrev w_T_sortAt (cI cZ cP : ClassId) (sc : Nat) (sc_bytes : Nat) (f_sc_bytes : Nat → Int32) (sc_length : Int32) (sc_next : Int32) (sc_place : Int32) (sc_sort : Int32) (sc_numbers : Nat) (sc_told : Int32) (p0 : Int32) : va_W := [(sc, .inr (5, [.ref sc_bytes, .int sc_length, .int sc_next, .int sc_place, .int sc_sort, .ref sc_numbers, .int sc_told])), (sc_bytes, .inl (cI, 150, .inl f_sc_bytes))]
set_option maxHeartbeats 4000000 in
set_option maxRecDepth 100000 in
theorem c_T_sortAt (l : Launch) (D : va_G) (cI cZ cP : ClassId) (sa : Nat → Nat) (sc : Nat) (sc_bytes : Nat) (f_sc_bytes : Nat → Int32) (sc_length : Int32) (sc_next : Int32) (sc_place : Int32) (sc_sort : Int32) (sc_numbers : Nat) (sc_told : Int32) (p0 : Int32) (h_sc_length : rg sc_length 0 150) (h_sc_next : rg sc_next 0 150) (h_sc_place : rg sc_place 0 150) (h_sc_told : rg sc_told 0 6) (h_p0 : rg p0 0 150) (sz : Nat) : Met l yX5_sortAt (qW yX5_sortAt cX5_sortAt 3 (some .int)) ({ frames := 0, cells := 0, slots := 0, locals := 0 } : Room) (qP D (TY cI cZ cP) sa [.ref sc, .int p0] (w_T_sortAt cI cZ cP sc sc_bytes f_sc_bytes sc_length sc_next sc_place sc_sort sc_numbers sc_told p0) sz) (qQi D (w_T_sortAt cI cZ cP sc sc_bytes f_sc_bytes sc_length sc_next sc_place sc_sort sc_numbers sc_told p0) sz (fun (r : Int32) (u : Unit) => (r = 0 ∨ (rg r 1 4 ∧ rg p0 0 149))) (fun u : Unit => [(sc, .inr (5, [.ref sc_bytes, .int sc_length, .int sc_next, .int sc_place, .int sc_sort, .ref sc_numbers, .int sc_told])), (sc_bytes, .inl (cI, 150, .inl f_sc_bytes))])) 0 0 (va_A (w_T_sortAt cI cZ cP sc sc_bytes f_sc_bytes sc_length sc_next sc_place sc_sort sc_numbers sc_told p0) sz) := by
  refine q_enter (by decide) (Nat.le_of_ble_eq_true rfl) ?_
  intro p e s m below meth c ls hX hr hlk hnm hE hK hP hD hS hA hl
  obtain ⟨hx, hb, hml, hown, ht⟩ := id hX
  have hl : lv_has ls 3 [(0, .ref sc), (1, .int p0)] := hl
  have jp_49 : ∀ (v19 : Int32), rg p0 0 149 → rg sc_length 1 150 → rg sc_next 0 150 → rg sc_place 0 150 → rg sc_told 0 6 → ∀ (H : Heap) (locs : List Loc) (ls : Array Slot), va_P D vwCl [(sc, .inr (5, [.ref sc_bytes, .int sc_length, .int sc_next, .int sc_place, .int sc_sort, .ref sc_numbers, .int sc_told])), (sc_bytes, .inl (cI, 150, .inl f_sc_bytes))] H → va_D (va_A (w_T_sortAt cI cZ cP sc sc_bytes f_sc_bytes sc_length sc_next sc_place sc_sort sc_numbers sc_told p0) sz) [(sc, .inr (5, [.ref sc_bytes, .int sc_length, .int sc_next, .int sc_place, .int sc_sort, .ref sc_numbers, .int sc_told])), (sc_bytes, .inl (cI, 150, .inl f_sc_bytes))] → va_S (va_A (w_T_sortAt cI cZ cP sc sc_bytes f_sc_bytes sc_length sc_next sc_place sc_sort sc_numbers sc_told p0) sz) s.heap H locs → lv_has ls 3 [(0, .ref sc), (1, .int p0), (2, .int v19)] → W p l e ({ frames := 0, cells := 0, slots := 0, locals := 0 } : Room) s m ([.ref sc, .int p0] : List Value).toArray below meth c H locs 0 0 (MQ below (qQi D (w_T_sortAt cI cZ cP sc sc_bytes f_sc_bytes sc_length sc_next sc_place sc_sort sc_numbers sc_told p0) sz (fun (r : Int32) (u : Unit) => (r = 0 ∨ (rg r 1 4 ∧ rg p0 0 149))) (fun u : Unit => [(sc, .inr (5, [.ref sc_bytes, .int sc_length, .int sc_next, .int sc_place, .int sc_sort, .ref sc_numbers, .int sc_told])), (sc_bytes, .inl (cI, 150, .inl f_sc_bytes))])) ([.ref sc, .int p0] : List Value).toArray s 0 0 (va_A (w_T_sortAt cI cZ cP sc sc_bytes f_sc_bytes sc_length sc_next sc_place sc_sort sc_numbers sc_told p0) sz)) (F0 m 49 ls []) := by
    intro v19 g49_p0 g49_sc_length g49_sc_next g49_sc_place g49_sc_told H locs ls hP hD hS hl
    refine lv_iload_n hx hb dX5_sortAt_49 rfl (lv_at hl 2 rfl) ?_
    refine lv_bipush (v := 59) hx hb dX5_sortAt_50 (by decide) ?_
    refine lv_icmp_ne (tgt := 59) hx hb dX5_sortAt_52 (by decide) (fun c52 => ?_) (fun c52 => ?_)
    · refine lv_iconst (v := 4) hx hb dX5_sortAt_59 (by decide) ?_
      exact q_iret hX hr hlk () (Or.inr ⟨(rg_w (rg_of (by decide) : rg (4 : Int32) 4 4) (by decide)), g49_p0⟩) hP hD hS dX5_sortAt_60
    · have r52fa : rg v19 59 59 := rg_eqL c52 (rg_any v19) (rg_of (by decide) : rg (59 : Int32) 59 59) (by decide)
      refine lv_iconst (v := 3) hx hb dX5_sortAt_55 (by decide) ?_
      refine lv_goto (tgt := 60) hx hb dX5_sortAt_56 (by decide) ?_
      exact q_iret hX hr hlk () (Or.inr ⟨(rg_w (rg_of (by decide) : rg (3 : Int32) 3 3) (by decide)), g49_p0⟩) hP hD hS dX5_sortAt_60
  have jp_35 : ∀ (v19 : Int32), rg p0 0 149 → rg sc_length 1 150 → rg sc_next 0 150 → rg sc_place 0 150 → rg sc_told 0 6 → ∀ (H : Heap) (locs : List Loc) (ls : Array Slot), va_P D vwCl [(sc, .inr (5, [.ref sc_bytes, .int sc_length, .int sc_next, .int sc_place, .int sc_sort, .ref sc_numbers, .int sc_told])), (sc_bytes, .inl (cI, 150, .inl f_sc_bytes))] H → va_D (va_A (w_T_sortAt cI cZ cP sc sc_bytes f_sc_bytes sc_length sc_next sc_place sc_sort sc_numbers sc_told p0) sz) [(sc, .inr (5, [.ref sc_bytes, .int sc_length, .int sc_next, .int sc_place, .int sc_sort, .ref sc_numbers, .int sc_told])), (sc_bytes, .inl (cI, 150, .inl f_sc_bytes))] → va_S (va_A (w_T_sortAt cI cZ cP sc sc_bytes f_sc_bytes sc_length sc_next sc_place sc_sort sc_numbers sc_told p0) sz) s.heap H locs → lv_has ls 3 [(0, .ref sc), (1, .int p0), (2, .int v19)] → W p l e ({ frames := 0, cells := 0, slots := 0, locals := 0 } : Room) s m ([.ref sc, .int p0] : List Value).toArray below meth c H locs 0 0 (MQ below (qQi D (w_T_sortAt cI cZ cP sc sc_bytes f_sc_bytes sc_length sc_next sc_place sc_sort sc_numbers sc_told p0) sz (fun (r : Int32) (u : Unit) => (r = 0 ∨ (rg r 1 4 ∧ rg p0 0 149))) (fun u : Unit => [(sc, .inr (5, [.ref sc_bytes, .int sc_length, .int sc_next, .int sc_place, .int sc_sort, .ref sc_numbers, .int sc_told])), (sc_bytes, .inl (cI, 150, .inl f_sc_bytes))])) ([.ref sc, .int p0] : List Value).toArray s 0 0 (va_A (w_T_sortAt cI cZ cP sc sc_bytes f_sc_bytes sc_length sc_next sc_place sc_sort sc_numbers sc_told p0) sz)) (F0 m 35 ls []) := by
    intro v19 g35_p0 g35_sc_length g35_sc_next g35_sc_place g35_sc_told H locs ls hP hD hS hl
    refine lv_iload_n hx hb dX5_sortAt_35 rfl (lv_at hl 2 rfl) ?_
    refine lv_bipush (v := 48) hx hb dX5_sortAt_36 (by decide) ?_
    refine lv_icmp_lt (tgt := 49) hx hb dX5_sortAt_38 (by decide) (fun c38 => ?_) (fun c38 => ?_)
    · have r38ta : rg v19 (-2147483648) 47 := rg_ltL c38 (rg_any v19) (rg_of (by decide) : rg (48 : Int32) 48 48) (by decide)
      exact jp_49 v19 g35_p0 g35_sc_length g35_sc_next g35_sc_place g35_sc_told _ _ _ hP hD hS (lv_sub hl [0, 1, 2] rfl)
    · have r38fb : rg v19 48 2147483647 := rg_leR (Int32.not_lt.mp c38) (rg_of (by decide) : rg (48 : Int32) 48 48) (rg_any v19) (by decide)
      refine lv_iload_n hx hb dX5_sortAt_41 rfl (lv_at hl 2 rfl) ?_
      refine lv_bipush (v := 57) hx hb dX5_sortAt_42 (by decide) ?_
      refine lv_icmp_gt (tgt := 49) hx hb dX5_sortAt_44 (by decide) (fun c44 => ?_) (fun c44 => ?_)
      · have r44tb : rg v19 58 2147483647 := rg_ltR c44 (rg_of (by decide) : rg (57 : Int32) 57 57) r38fb (by decide)
        exact jp_49 v19 g35_p0 g35_sc_length g35_sc_next g35_sc_place g35_sc_told _ _ _ hP hD hS (lv_sub hl [0, 1, 2] rfl)
      · have r44fa : rg v19 48 57 := rg_leL (Int32.not_lt.mp c44) r38fb (rg_of (by decide) : rg (57 : Int32) 57 57) (by decide)
        refine lv_iconst (v := 2) hx hb dX5_sortAt_47 (by decide) ?_
        exact q_iret hX hr hlk () (Or.inr ⟨(rg_w (rg_of (by decide) : rg (2 : Int32) 2 2) (by decide)), g35_p0⟩) hP hD hS dX5_sortAt_48
  have jp_12 : ∀ (_ : Unit), rg p0 0 150 → rg sc_length 0 150 → rg sc_next 0 150 → rg sc_place 0 150 → rg sc_told 0 6 → ∀ (H : Heap) (locs : List Loc) (ls : Array Slot), va_P D vwCl [(sc, .inr (5, [.ref sc_bytes, .int sc_length, .int sc_next, .int sc_place, .int sc_sort, .ref sc_numbers, .int sc_told])), (sc_bytes, .inl (cI, 150, .inl f_sc_bytes))] H → va_D (va_A (w_T_sortAt cI cZ cP sc sc_bytes f_sc_bytes sc_length sc_next sc_place sc_sort sc_numbers sc_told p0) sz) [(sc, .inr (5, [.ref sc_bytes, .int sc_length, .int sc_next, .int sc_place, .int sc_sort, .ref sc_numbers, .int sc_told])), (sc_bytes, .inl (cI, 150, .inl f_sc_bytes))] → va_S (va_A (w_T_sortAt cI cZ cP sc sc_bytes f_sc_bytes sc_length sc_next sc_place sc_sort sc_numbers sc_told p0) sz) s.heap H locs → lv_has ls 3 [(0, .ref sc), (1, .int p0)] → W p l e ({ frames := 0, cells := 0, slots := 0, locals := 0 } : Room) s m ([.ref sc, .int p0] : List Value).toArray below meth c H locs 0 0 (MQ below (qQi D (w_T_sortAt cI cZ cP sc sc_bytes f_sc_bytes sc_length sc_next sc_place sc_sort sc_numbers sc_told p0) sz (fun (r : Int32) (u : Unit) => (r = 0 ∨ (rg r 1 4 ∧ rg p0 0 149))) (fun u : Unit => [(sc, .inr (5, [.ref sc_bytes, .int sc_length, .int sc_next, .int sc_place, .int sc_sort, .ref sc_numbers, .int sc_told])), (sc_bytes, .inl (cI, 150, .inl f_sc_bytes))])) ([.ref sc, .int p0] : List Value).toArray s 0 0 (va_A (w_T_sortAt cI cZ cP sc sc_bytes f_sc_bytes sc_length sc_next sc_place sc_sort sc_numbers sc_told p0) sz)) (F0 m 12 ls []) := by
    intro _ g12_p0 g12_sc_length g12_sc_next g12_sc_place g12_sc_told H locs ls hP hD hS hl
    refine lv_iconst (v := 0) hx hb dX5_sortAt_12 (by decide) ?_
    exact q_iret hX hr hlk () (Or.inl rfl) hP hD hS dX5_sortAt_13
  refine lv_iload_n hx hb dX5_sortAt_0 rfl (lv_at hl 1 rfl) ?_
  refine lv_if_lt (tgt := 12) hx hb dX5_sortAt_1 (by decide) (fun c1 => (rg_ltF c1 h_p0 (rg_of (by decide) : rg (0 : Int32) 0 0) (by decide)).elim) (fun c1 => ?_)
  refine lv_iload_n hx hb dX5_sortAt_4 rfl (lv_at hl 1 rfl) ?_
  refine lv_aload_n hx hb dX5_sortAt_5 rfl (lv_at hl 0 rfl) ?_
  refine va_get (D := D) (ci := 5) (v := .int sc_length) (C := RX5) (T := TX5) (N := 7) hx hb ht inX5 hown hK hP 0 rfl rfl 1 (Nat.le_of_ble_eq_true rfl) (ht _ kw_210) (fun _ h9 => h9) rfl dX5_sortAt_6 ?_
  refine lv_icmp_lt (tgt := 14) hx hb dX5_sortAt_9 (by decide) (fun c9 => ?_) (fun c9 => ?_)
  · have r9ta : rg p0 0 149 := rg_ltL c9 h_p0 h_sc_length (by decide)
    have r9tb : rg sc_length 1 150 := rg_ltR c9 h_p0 h_sc_length (by decide)
    refine lv_aload_n hx hb dX5_sortAt_14 rfl (lv_at hl 0 rfl) ?_
    refine va_get (D := D) (ci := 5) (v := .ref sc_bytes) (C := RX5) (T := TX5) (N := 7) hx hb ht inX5 hown hK hP 0 rfl rfl 0 (Nat.le_of_ble_eq_true rfl) (ht _ kw_209) (fun _ h9 => h9) rfl dX5_sortAt_15 ?_
    refine lv_iload_n hx hb dX5_sortAt_18 rfl (lv_at hl 1 rfl) ?_
    refine va_iald hx hb hK hP 1 0 rfl rfl (rg_in r9ta (by decide)) dX5_sortAt_19 ?_
    refine lv_topi (fun v19 e_v19 => ?_)
    refine lv_istore_n (lv' := [(2, .int v19), (0, .ref sc), (1, .int p0)]) hx hb dX5_sortAt_20 rfl hl (by decide) rfl (fun ls hl => ?_)
    refine lv_iload_n hx hb dX5_sortAt_21 rfl (lv_at hl 0 rfl) ?_
    refine lv_bipush (v := 97) hx hb dX5_sortAt_22 (by decide) ?_
    refine lv_icmp_lt (tgt := 35) hx hb dX5_sortAt_24 (by decide) (fun c24 => ?_) (fun c24 => ?_)
    · have r24ta : rg v19 (-2147483648) 96 := rg_ltL c24 (rg_any v19) (rg_of (by decide) : rg (97 : Int32) 97 97) (by decide)
      exact jp_35 v19 r9ta r9tb h_sc_next h_sc_place h_sc_told _ _ _ hP hD hS (lv_sub hl [1, 2, 0] rfl)
    · have r24fb : rg v19 97 2147483647 := rg_leR (Int32.not_lt.mp c24) (rg_of (by decide) : rg (97 : Int32) 97 97) (rg_any v19) (by decide)
      refine lv_iload_n hx hb dX5_sortAt_27 rfl (lv_at hl 0 rfl) ?_
      refine lv_bipush (v := 122) hx hb dX5_sortAt_28 (by decide) ?_
      refine lv_icmp_gt (tgt := 35) hx hb dX5_sortAt_30 (by decide) (fun c30 => ?_) (fun c30 => ?_)
      · have r30tb : rg v19 123 2147483647 := rg_ltR c30 (rg_of (by decide) : rg (122 : Int32) 122 122) r24fb (by decide)
        exact jp_35 v19 r9ta r9tb h_sc_next h_sc_place h_sc_told _ _ _ hP hD hS (lv_sub hl [1, 2, 0] rfl)
      · have r30fa : rg v19 97 122 := rg_leL (Int32.not_lt.mp c30) r24fb (rg_of (by decide) : rg (122 : Int32) 122 122) (by decide)
        refine lv_iconst (v := 1) hx hb dX5_sortAt_33 (by decide) ?_
        exact q_iret hX hr hlk () (Or.inr ⟨(rg_w (rg_of (by decide) : rg (1 : Int32) 1 1) (by decide)), r9ta⟩) hP hD hS dX5_sortAt_34
  · exact jp_12 () h_p0 h_sc_length h_sc_next h_sc_place h_sc_told _ _ _ hP hD hS (lv_sub hl [0, 1] rfl)
abbrev w_T_takeToken (cI cZ cP : ClassId) (sc : Nat) (sc_bytes : Nat) (f_sc_bytes : Nat → Int32) (sc_length : Int32) (sc_next : Int32) (sc_place : Int32) (sc_sort : Int32) (sc_numbers : Nat) (sc_told : Int32) : va_W := [(sc, .inr (5, [.ref sc_bytes, .int sc_length, .int sc_next, .int sc_place, .int sc_sort, .ref sc_numbers, .int sc_told])), (sc_bytes, .inl (cI, 150, .inl f_sc_bytes))]
set_option maxHeartbeats 4000000 in
set_option maxRecDepth 100000 in
theorem c_T_takeToken (l : Launch) (D : va_G) (cI cZ cP : ClassId) (sa : Nat → Nat) (sc : Nat) (sc_bytes : Nat) (f_sc_bytes : Nat → Int32) (sc_length : Int32) (sc_next : Int32) (sc_place : Int32) (sc_sort : Int32) (sc_numbers : Nat) (sc_told : Int32) (h_sc_length : rg sc_length 0 150) (h_sc_next : rg sc_next 0 150) (h_sc_place : rg sc_place 0 150) (h_sc_told : rg sc_told 0 6) (sz : Nat) : Met l yX5_takeToken (qW yX5_takeToken cX5_takeToken 1 none) ({ frames := 1, cells := 0, slots := 0, locals := 22 } : Room) (qP D (TY cI cZ cP) sa [.ref sc] (w_T_takeToken cI cZ cP sc sc_bytes f_sc_bytes sc_length sc_next sc_place sc_sort sc_numbers sc_told) sz) (qQv D (w_T_takeToken cI cZ cP sc sc_bytes f_sc_bytes sc_length sc_next sc_place sc_sort sc_numbers sc_told) sz (fun u : (Int32) × (Int32) × (Int32) => rg u.1 0 150 ∧ rg u.2.1 0 150 ∧ rg u.2.2 0 4) (fun u : (Int32) × (Int32) × (Int32) => [(sc, .inr (5, [.ref sc_bytes, .int sc_length, .int u.1, .int u.2.1, .int u.2.2, .ref sc_numbers, .int sc_told])), (sc_bytes, .inl (cI, 150, .inl f_sc_bytes))])) 0 0 (va_A (w_T_takeToken cI cZ cP sc sc_bytes f_sc_bytes sc_length sc_next sc_place sc_sort sc_numbers sc_told) sz) := by
  refine q_enter (by decide) (Nat.le_of_ble_eq_true rfl) ?_
  intro p e s m below meth c ls hX hr hlk hnm hE hK hP hD hS hA hl
  obtain ⟨hx, hb, hml, hown, ht⟩ := id hX
  have hl : lv_has ls 1 [(0, .ref sc)] := hl
  have lp_84 : ∀ (n_84 : Nat) (j84_w0_2 : Int32) (j84_w0_3 : Int32) (j84_w0_4 : Int32), rg sc_length 0 150 → rg j84_w0_2 0 150 → rg j84_w0_3 0 150 → rg j84_w0_4 0 4 → rg sc_told 0 6 → (151 ≤ j84_w0_2.toInt + n_84) → ∀ (H : Heap) (locs : List Loc) (ls : Array Slot), va_P D vwCl [(sc, .inr (5, [.ref sc_bytes, .int sc_length, .int j84_w0_2, .int j84_w0_3, .int j84_w0_4, .ref sc_numbers, .int sc_told])), (sc_bytes, .inl (cI, 150, .inl f_sc_bytes))] H → va_D (va_A (w_T_takeToken cI cZ cP sc sc_bytes f_sc_bytes sc_length sc_next sc_place sc_sort sc_numbers sc_told) sz) [(sc, .inr (5, [.ref sc_bytes, .int sc_length, .int j84_w0_2, .int j84_w0_3, .int j84_w0_4, .ref sc_numbers, .int sc_told])), (sc_bytes, .inl (cI, 150, .inl f_sc_bytes))] → va_S (va_A (w_T_takeToken cI cZ cP sc sc_bytes f_sc_bytes sc_length sc_next sc_place sc_sort sc_numbers sc_told) sz) s.heap H locs → lv_has ls 1 [(0, .ref sc)] → W p l e ({ frames := 1, cells := 0, slots := 0, locals := 22 } : Room) s m ([.ref sc] : List Value).toArray below meth c H locs 0 0 (MQ below (qQv D (w_T_takeToken cI cZ cP sc sc_bytes f_sc_bytes sc_length sc_next sc_place sc_sort sc_numbers sc_told) sz (fun u : (Int32) × (Int32) × (Int32) => rg u.1 0 150 ∧ rg u.2.1 0 150 ∧ rg u.2.2 0 4) (fun u : (Int32) × (Int32) × (Int32) => [(sc, .inr (5, [.ref sc_bytes, .int sc_length, .int u.1, .int u.2.1, .int u.2.2, .ref sc_numbers, .int sc_told])), (sc_bytes, .inl (cI, 150, .inl f_sc_bytes))])) ([.ref sc] : List Value).toArray s 0 0 (va_A (w_T_takeToken cI cZ cP sc sc_bytes f_sc_bytes sc_length sc_next sc_place sc_sort sc_numbers sc_told) sz)) (F0 m 84 ls []) := by
    intro n_84
    induction n_84 with
    | zero => intro j84_w0_2 j84_w0_3 j84_w0_4 g84_sc_length g84_j84_w0_2 g84_j84_w0_3 g84_j84_w0_4 g84_sc_told hm_84; exact (ms_0 hm_84 g84_j84_w0_2 (by decide)).elim
    | succ n_84 ih_84 =>
      intro j84_w0_2 j84_w0_3 j84_w0_4 g84_sc_length g84_j84_w0_2 g84_j84_w0_3 g84_j84_w0_4 g84_sc_told hm_84 H locs ls hP hD hS hl
      have jp_100 : ∀ (_ : Unit), rg sc_length 0 150 → rg j84_w0_2 0 150 → rg j84_w0_3 0 150 → rg j84_w0_4 1 2 → rg sc_told 0 6 → ∀ (H : Heap) (locs : List Loc) (ls : Array Slot), va_P D vwCl [(sc, .inr (5, [.ref sc_bytes, .int sc_length, .int j84_w0_2, .int j84_w0_3, .int j84_w0_4, .ref sc_numbers, .int sc_told])), (sc_bytes, .inl (cI, 150, .inl f_sc_bytes))] H → va_D (va_A (w_T_takeToken cI cZ cP sc sc_bytes f_sc_bytes sc_length sc_next sc_place sc_sort sc_numbers sc_told) sz) [(sc, .inr (5, [.ref sc_bytes, .int sc_length, .int j84_w0_2, .int j84_w0_3, .int j84_w0_4, .ref sc_numbers, .int sc_told])), (sc_bytes, .inl (cI, 150, .inl f_sc_bytes))] → va_S (va_A (w_T_takeToken cI cZ cP sc sc_bytes f_sc_bytes sc_length sc_next sc_place sc_sort sc_numbers sc_told) sz) s.heap H locs → lv_has ls 1 [(0, .ref sc)] → W p l e ({ frames := 1, cells := 0, slots := 0, locals := 22 } : Room) s m ([.ref sc] : List Value).toArray below meth c H locs 0 0 (MQ below (qQv D (w_T_takeToken cI cZ cP sc sc_bytes f_sc_bytes sc_length sc_next sc_place sc_sort sc_numbers sc_told) sz (fun u : (Int32) × (Int32) × (Int32) => rg u.1 0 150 ∧ rg u.2.1 0 150 ∧ rg u.2.2 0 4) (fun u : (Int32) × (Int32) × (Int32) => [(sc, .inr (5, [.ref sc_bytes, .int sc_length, .int u.1, .int u.2.1, .int u.2.2, .ref sc_numbers, .int sc_told])), (sc_bytes, .inl (cI, 150, .inl f_sc_bytes))])) ([.ref sc] : List Value).toArray s 0 0 (va_A (w_T_takeToken cI cZ cP sc sc_bytes f_sc_bytes sc_length sc_next sc_place sc_sort sc_numbers sc_told) sz)) (F0 m 100 ls []) := by
        intro _ g100_sc_length g100_j84_w0_2 g100_j84_w0_3 g100_j84_w0_4 g100_sc_told H locs ls hP hD hS hl
        refine lv_aload_n hx hb dX5_takeToken_100 rfl (lv_at hl 0 rfl) ?_
        refine va_get (D := D) (ci := 5) (v := .int j84_w0_2) (C := RX5) (T := TX5) (N := 7) hx hb ht inX5 hown hK hP 0 rfl rfl 2 (Nat.le_of_ble_eq_true rfl) (ht _ kw_212) (fun _ h9 => h9) rfl dX5_takeToken_101 ?_
        refine lv_aload_n hx hb dX5_takeToken_104 rfl (lv_at hl 0 rfl) ?_
        refine va_get (D := D) (ci := 5) (v := .int sc_length) (C := RX5) (T := TX5) (N := 7) hx hb ht inX5 hown hK hP 0 rfl rfl 1 (Nat.le_of_ble_eq_true rfl) (ht _ kw_210) (fun _ h9 => h9) rfl dX5_takeToken_105 ?_
        refine lv_icmp_ge (tgt := 139) hx hb dX5_takeToken_108 (by decide) (fun c108 => ?_) (fun c108 => ?_)
        · exact q_vret hX hr hlk (j84_w0_2, j84_w0_3, j84_w0_4) ⟨g100_j84_w0_2, g100_j84_w0_3, (rg_w g100_j84_w0_4 (by decide))⟩ hP hD hS dX5_takeToken_139
        · have r108fa : rg j84_w0_2 0 149 := rg_ltL (Int32.not_le.mp c108) g100_j84_w0_2 g100_sc_length (by decide)
          have r108fb : rg sc_length 1 150 := rg_ltR (Int32.not_le.mp c108) g100_j84_w0_2 g100_sc_length (by decide)
          refine lv_aload_n hx hb dX5_takeToken_111 rfl (lv_at hl 0 rfl) ?_
          refine lv_aload_n hx hb dX5_takeToken_112 rfl (lv_at hl 0 rfl) ?_
          refine va_get (D := D) (ci := 5) (v := .int j84_w0_2) (C := RX5) (T := TX5) (N := 7) hx hb ht inX5 hown hK hP 0 rfl rfl 2 (Nat.le_of_ble_eq_true rfl) (ht _ kw_212) (fun _ h9 => h9) rfl dX5_takeToken_113 ?_
          refine q_Vi (wr := []) [0, 1] [] hX hE hK hP hD hS hA hl.1 lk_X5_98 (c_T_sortAt l D cI cZ cP sa sc sc_bytes f_sc_bytes sc_length j84_w0_2 j84_w0_3 j84_w0_4 sc_numbers sc_told j84_w0_2 (rg_w r108fb (by decide)) (rg_w r108fa (by decide)) g100_j84_w0_3 g100_sc_told (rg_w r108fa (by decide)) _) rfl rfl rfl rfl (by decide) 0 5 rfl rfl rfl rfl (Nat.le_of_ble_eq_true rfl) rfl rfl ⟨Nat.le_of_ble_eq_true rfl, Nat.le_of_ble_eq_true rfl⟩ ⟨Nat.le_of_ble_eq_true rfl, Nat.le_of_ble_eq_true rfl⟩ dX5_takeToken_116 (fun x116 _ H locs h116 hP hD hS => ?_)
          have y116_0 := h116
          have hP : va_P D vwCl [(sc, .inr (5, [.ref sc_bytes, .int sc_length, .int j84_w0_2, .int j84_w0_3, .int j84_w0_4, .ref sc_numbers, .int sc_told])), (sc_bytes, .inl (cI, 150, .inl f_sc_bytes))] H := hP
          have hD : va_D (va_A (w_T_takeToken cI cZ cP sc sc_bytes f_sc_bytes sc_length sc_next sc_place sc_sort sc_numbers sc_told) sz) [(sc, .inr (5, [.ref sc_bytes, .int sc_length, .int j84_w0_2, .int j84_w0_3, .int j84_w0_4, .ref sc_numbers, .int sc_told])), (sc_bytes, .inl (cI, 150, .inl f_sc_bytes))] := hD
          rcases y116_0 with y116 | ⟨y116, w116⟩
          · subst y116
            refine lv_aload_n hx hb dX5_takeToken_119 rfl (lv_at hl 0 rfl) ?_
            refine va_get (D := D) (ci := 5) (v := .int j84_w0_4) (C := RX5) (T := TX5) (N := 7) hx hb ht inX5 hown hK hP 0 rfl rfl 4 (Nat.le_of_ble_eq_true rfl) (ht _ kw_214) (fun _ h9 => h9) rfl dX5_takeToken_120 ?_
            refine lv_icmp_ne (tgt := 139) hx hb dX5_takeToken_123 (by decide) (fun c123 => ?_) (fun c123 => (rg_eqF c123 (rg_of (by decide) : rg (0 : Int32) 0 0) g100_j84_w0_4 (by decide)).elim)
            exact q_vret hX hr hlk (j84_w0_2, j84_w0_3, j84_w0_4) ⟨(rg_w r108fa (by decide)), g100_j84_w0_3, (rg_w g100_j84_w0_4 (by decide))⟩ hP hD hS dX5_takeToken_139
          · skip
            refine lv_aload_n hx hb dX5_takeToken_119 rfl (lv_at hl 0 rfl) ?_
            refine va_get (D := D) (ci := 5) (v := .int j84_w0_4) (C := RX5) (T := TX5) (N := 7) hx hb ht inX5 hown hK hP 0 rfl rfl 4 (Nat.le_of_ble_eq_true rfl) (ht _ kw_214) (fun _ h9 => h9) rfl dX5_takeToken_120 ?_
            refine lv_icmp_ne (tgt := 139) hx hb dX5_takeToken_123 (by decide) (fun c123 => ?_) (fun c123 => ?_)
            · exact q_vret hX hr hlk (j84_w0_2, j84_w0_3, j84_w0_4) ⟨(rg_w w116 (by decide)), g100_j84_w0_3, (rg_w g100_j84_w0_4 (by decide))⟩ hP hD hS dX5_takeToken_139
            · have r123fa : rg x116 1 2 := rg_eqL c123 y116 g100_j84_w0_4 (by decide)
              refine lv_aload_n hx hb dX5_takeToken_126 rfl (lv_at hl 0 rfl) ?_
              refine lv_dup hx hb dX5_takeToken_127 rfl ?_
              refine va_get (D := D) (ci := 5) (v := .int j84_w0_2) (C := RX5) (T := TX5) (N := 7) hx hb ht inX5 hown hK hP 0 rfl rfl 2 (Nat.le_of_ble_eq_true rfl) (ht _ kw_212) (fun _ h9 => h9) rfl dX5_takeToken_128 ?_
              refine lv_iconst (v := 1) hx hb dX5_takeToken_131 (by decide) ?_
              refine lv_iadd hx hb dX5_takeToken_132 ?_
              refine lv_topi (fun v132 e_v132 => ?_)
              obtain ⟨r_v132, q_v132⟩ := rg_add (l := 1) (h := 150) e_v132 w116 (rg_of (by decide) : rg (1 : Int32) 1 1) (by decide)
              have i_v132 := in_up q_v132 (rg_of (by decide) : rg (1 : Int32) 1 1) (by decide)
              refine va_put (D := D) (ci := 5) (v := .int v132) (ty := .int) (C := RX5) (T := TX5) (N := 7) hx hb ht inX5 tyX5 tyX5_ok nmX5 hown hK hP hD hS 0 rfl rfl 2 (Nat.le_of_ble_eq_true rfl) (ht _ kw_212) (fun _ h9 => h9) rfl (by decide +kernel) rfl rfl (Nat.le_of_ble_eq_true rfl) dX5_takeToken_133 (fun H locs hP hD hS => ?_)
              have hP : va_P D vwCl [(sc, .inr (5, [.ref sc_bytes, .int sc_length, .int v132, .int j84_w0_3, .int j84_w0_4, .ref sc_numbers, .int sc_told])), (sc_bytes, .inl (cI, 150, .inl f_sc_bytes))] H := hP
              have hD : va_D (va_A (w_T_takeToken cI cZ cP sc sc_bytes f_sc_bytes sc_length sc_next sc_place sc_sort sc_numbers sc_told) sz) [(sc, .inr (5, [.ref sc_bytes, .int sc_length, .int v132, .int j84_w0_3, .int j84_w0_4, .ref sc_numbers, .int sc_told])), (sc_bytes, .inl (cI, 150, .inl f_sc_bytes))] := hD
              refine lv_goto (tgt := 84) hx hb dX5_takeToken_136 (by decide) ?_
              exact ih_84 v132 j84_w0_3 j84_w0_4 (rg_w r108fb (by decide)) (rg_w r_v132 (by decide)) g100_j84_w0_3 (rg_w g100_j84_w0_4 (by decide)) g100_sc_told (ms_up hm_84 i_v132) _ _ _ hP hD hS (lv_sub hl [0] rfl)
      refine lv_aload_n hx hb dX5_takeToken_84 rfl (lv_at hl 0 rfl) ?_
      refine va_get (D := D) (ci := 5) (v := .int j84_w0_4) (C := RX5) (T := TX5) (N := 7) hx hb ht inX5 hown hK hP 0 rfl rfl 4 (Nat.le_of_ble_eq_true rfl) (ht _ kw_214) (fun _ h9 => h9) rfl dX5_takeToken_85 ?_
      refine lv_iconst (v := 1) hx hb dX5_takeToken_88 (by decide) ?_
      refine lv_icmp_eq (tgt := 100) hx hb dX5_takeToken_89 (by decide) (fun c89 => ?_) (fun c89 => ?_)
      · have r89ta : rg j84_w0_4 1 1 := rg_eqL c89 g84_j84_w0_4 (rg_of (by decide) : rg (1 : Int32) 1 1) (by decide)
        exact jp_100 () g84_sc_length g84_j84_w0_2 g84_j84_w0_3 (rg_w r89ta (by decide)) g84_sc_told _ _ _ hP hD hS (lv_sub hl [0] rfl)
      · refine lv_aload_n hx hb dX5_takeToken_92 rfl (lv_at hl 0 rfl) ?_
        refine va_get (D := D) (ci := 5) (v := .int j84_w0_4) (C := RX5) (T := TX5) (N := 7) hx hb ht inX5 hown hK hP 0 rfl rfl 4 (Nat.le_of_ble_eq_true rfl) (ht _ kw_214) (fun _ h9 => h9) rfl dX5_takeToken_93 ?_
        refine lv_iconst (v := 2) hx hb dX5_takeToken_96 (by decide) ?_
        refine lv_icmp_ne (tgt := 139) hx hb dX5_takeToken_97 (by decide) (fun c97 => ?_) (fun c97 => ?_)
        · exact q_vret hX hr hlk (j84_w0_2, j84_w0_3, j84_w0_4) ⟨g84_j84_w0_2, g84_j84_w0_3, g84_j84_w0_4⟩ hP hD hS dX5_takeToken_139
        · have r97fa : rg j84_w0_4 2 2 := rg_eqL c97 g84_j84_w0_4 (rg_of (by decide) : rg (2 : Int32) 2 2) (by decide)
          exact jp_100 () g84_sc_length g84_j84_w0_2 g84_j84_w0_3 (rg_w r97fa (by decide)) g84_sc_told _ _ _ hP hD hS (lv_sub hl [0] rfl)
  have jp_74 : ∀ (j0_w0_2 : Int32) (x52 : Int32), rg sc_length 0 150 → rg j0_w0_2 0 149 → rg x52 3 4 → rg sc_told 0 6 → ∀ (H : Heap) (locs : List Loc) (ls : Array Slot), va_P D vwCl [(sc, .inr (5, [.ref sc_bytes, .int sc_length, .int j0_w0_2, .int j0_w0_2, .int x52, .ref sc_numbers, .int sc_told])), (sc_bytes, .inl (cI, 150, .inl f_sc_bytes))] H → va_D (va_A (w_T_takeToken cI cZ cP sc sc_bytes f_sc_bytes sc_length sc_next sc_place sc_sort sc_numbers sc_told) sz) [(sc, .inr (5, [.ref sc_bytes, .int sc_length, .int j0_w0_2, .int j0_w0_2, .int x52, .ref sc_numbers, .int sc_told])), (sc_bytes, .inl (cI, 150, .inl f_sc_bytes))] → va_S (va_A (w_T_takeToken cI cZ cP sc sc_bytes f_sc_bytes sc_length sc_next sc_place sc_sort sc_numbers sc_told) sz) s.heap H locs → lv_has ls 1 [(0, .ref sc)] → W p l e ({ frames := 1, cells := 0, slots := 0, locals := 22 } : Room) s m ([.ref sc] : List Value).toArray below meth c H locs 0 0 (MQ below (qQv D (w_T_takeToken cI cZ cP sc sc_bytes f_sc_bytes sc_length sc_next sc_place sc_sort sc_numbers sc_told) sz (fun u : (Int32) × (Int32) × (Int32) => rg u.1 0 150 ∧ rg u.2.1 0 150 ∧ rg u.2.2 0 4) (fun u : (Int32) × (Int32) × (Int32) => [(sc, .inr (5, [.ref sc_bytes, .int sc_length, .int u.1, .int u.2.1, .int u.2.2, .ref sc_numbers, .int sc_told])), (sc_bytes, .inl (cI, 150, .inl f_sc_bytes))])) ([.ref sc] : List Value).toArray s 0 0 (va_A (w_T_takeToken cI cZ cP sc sc_bytes f_sc_bytes sc_length sc_next sc_place sc_sort sc_numbers sc_told) sz)) (F0 m 74 ls []) := by
    intro j0_w0_2 x52 g74_sc_length g74_j0_w0_2 g74_x52 g74_sc_told H locs ls hP hD hS hl
    refine lv_aload_n hx hb dX5_takeToken_74 rfl (lv_at hl 0 rfl) ?_
    refine lv_dup hx hb dX5_takeToken_75 rfl ?_
    refine va_get (D := D) (ci := 5) (v := .int j0_w0_2) (C := RX5) (T := TX5) (N := 7) hx hb ht inX5 hown hK hP 0 rfl rfl 2 (Nat.le_of_ble_eq_true rfl) (ht _ kw_212) (fun _ h9 => h9) rfl dX5_takeToken_76 ?_
    refine lv_iconst (v := 1) hx hb dX5_takeToken_79 (by decide) ?_
    refine lv_iadd hx hb dX5_takeToken_80 ?_
    refine lv_topi (fun v80 e_v80 => ?_)
    obtain ⟨r_v80, q_v80⟩ := rg_add (l := 1) (h := 150) e_v80 g74_j0_w0_2 (rg_of (by decide) : rg (1 : Int32) 1 1) (by decide)
    have i_v80 := in_up q_v80 (rg_of (by decide) : rg (1 : Int32) 1 1) (by decide)
    refine va_put (D := D) (ci := 5) (v := .int v80) (ty := .int) (C := RX5) (T := TX5) (N := 7) hx hb ht inX5 tyX5 tyX5_ok nmX5 hown hK hP hD hS 0 rfl rfl 2 (Nat.le_of_ble_eq_true rfl) (ht _ kw_212) (fun _ h9 => h9) rfl (by decide +kernel) rfl rfl (Nat.le_of_ble_eq_true rfl) dX5_takeToken_81 (fun H locs hP hD hS => ?_)
    have hP : va_P D vwCl [(sc, .inr (5, [.ref sc_bytes, .int sc_length, .int v80, .int j0_w0_2, .int x52, .ref sc_numbers, .int sc_told])), (sc_bytes, .inl (cI, 150, .inl f_sc_bytes))] H := hP
    have hD : va_D (va_A (w_T_takeToken cI cZ cP sc sc_bytes f_sc_bytes sc_length sc_next sc_place sc_sort sc_numbers sc_told) sz) [(sc, .inr (5, [.ref sc_bytes, .int sc_length, .int v80, .int j0_w0_2, .int x52, .ref sc_numbers, .int sc_told])), (sc_bytes, .inl (cI, 150, .inl f_sc_bytes))] := hD
    exact lp_84 150 v80 j0_w0_2 x52 g74_sc_length (rg_w r_v80 (by decide)) (rg_w g74_j0_w0_2 (by decide)) (rg_w g74_x52 (by decide)) g74_sc_told (ms_in r_v80 (by decide)) _ _ _ hP hD hS (lv_sub hl [0] rfl)
  have jp_38 : ∀ (j0_w0_2 : Int32), rg sc_length 0 150 → rg j0_w0_2 0 150 → rg sc_place 0 150 → rg sc_told 0 6 → ∀ (H : Heap) (locs : List Loc) (ls : Array Slot), va_P D vwCl [(sc, .inr (5, [.ref sc_bytes, .int sc_length, .int j0_w0_2, .int sc_place, .int sc_sort, .ref sc_numbers, .int sc_told])), (sc_bytes, .inl (cI, 150, .inl f_sc_bytes))] H → va_D (va_A (w_T_takeToken cI cZ cP sc sc_bytes f_sc_bytes sc_length sc_next sc_place sc_sort sc_numbers sc_told) sz) [(sc, .inr (5, [.ref sc_bytes, .int sc_length, .int j0_w0_2, .int sc_place, .int sc_sort, .ref sc_numbers, .int sc_told])), (sc_bytes, .inl (cI, 150, .inl f_sc_bytes))] → va_S (va_A (w_T_takeToken cI cZ cP sc sc_bytes f_sc_bytes sc_length sc_next sc_place sc_sort sc_numbers sc_told) sz) s.heap H locs → lv_has ls 1 [(0, .ref sc)] → W p l e ({ frames := 1, cells := 0, slots := 0, locals := 22 } : Room) s m ([.ref sc] : List Value).toArray below meth c H locs 0 0 (MQ below (qQv D (w_T_takeToken cI cZ cP sc sc_bytes f_sc_bytes sc_length sc_next sc_place sc_sort sc_numbers sc_told) sz (fun u : (Int32) × (Int32) × (Int32) => rg u.1 0 150 ∧ rg u.2.1 0 150 ∧ rg u.2.2 0 4) (fun u : (Int32) × (Int32) × (Int32) => [(sc, .inr (5, [.ref sc_bytes, .int sc_length, .int u.1, .int u.2.1, .int u.2.2, .ref sc_numbers, .int sc_told])), (sc_bytes, .inl (cI, 150, .inl f_sc_bytes))])) ([.ref sc] : List Value).toArray s 0 0 (va_A (w_T_takeToken cI cZ cP sc sc_bytes f_sc_bytes sc_length sc_next sc_place sc_sort sc_numbers sc_told) sz)) (F0 m 38 ls []) := by
    intro j0_w0_2 g38_sc_length g38_j0_w0_2 g38_sc_place g38_sc_told H locs ls hP hD hS hl
    refine lv_aload_n hx hb dX5_takeToken_38 rfl (lv_at hl 0 rfl) ?_
    refine lv_aload_n hx hb dX5_takeToken_39 rfl (lv_at hl 0 rfl) ?_
    refine va_get (D := D) (ci := 5) (v := .int j0_w0_2) (C := RX5) (T := TX5) (N := 7) hx hb ht inX5 hown hK hP 0 rfl rfl 2 (Nat.le_of_ble_eq_true rfl) (ht _ kw_212) (fun _ h9 => h9) rfl dX5_takeToken_40 ?_
    refine va_put (D := D) (ci := 5) (v := .int j0_w0_2) (ty := .int) (C := RX5) (T := TX5) (N := 7) hx hb ht inX5 tyX5 tyX5_ok nmX5 hown hK hP hD hS 0 rfl rfl 3 (Nat.le_of_ble_eq_true rfl) (ht _ kw_213) (fun _ h9 => h9) rfl (by decide +kernel) rfl rfl (Nat.le_of_ble_eq_true rfl) dX5_takeToken_43 (fun H locs hP hD hS => ?_)
    have hP : va_P D vwCl [(sc, .inr (5, [.ref sc_bytes, .int sc_length, .int j0_w0_2, .int j0_w0_2, .int sc_sort, .ref sc_numbers, .int sc_told])), (sc_bytes, .inl (cI, 150, .inl f_sc_bytes))] H := hP
    have hD : va_D (va_A (w_T_takeToken cI cZ cP sc sc_bytes f_sc_bytes sc_length sc_next sc_place sc_sort sc_numbers sc_told) sz) [(sc, .inr (5, [.ref sc_bytes, .int sc_length, .int j0_w0_2, .int j0_w0_2, .int sc_sort, .ref sc_numbers, .int sc_told])), (sc_bytes, .inl (cI, 150, .inl f_sc_bytes))] := hD
    refine lv_aload_n hx hb dX5_takeToken_46 rfl (lv_at hl 0 rfl) ?_
    refine lv_aload_n hx hb dX5_takeToken_47 rfl (lv_at hl 0 rfl) ?_
    refine lv_aload_n hx hb dX5_takeToken_48 rfl (lv_at hl 0 rfl) ?_
    refine va_get (D := D) (ci := 5) (v := .int j0_w0_2) (C := RX5) (T := TX5) (N := 7) hx hb ht inX5 hown hK hP 0 rfl rfl 2 (Nat.le_of_ble_eq_true rfl) (ht _ kw_212) (fun _ h9 => h9) rfl dX5_takeToken_49 ?_
    refine q_Vi (wr := []) [0, 1] [] hX hE hK hP hD hS hA hl.1 lk_X5_98 (c_T_sortAt l D cI cZ cP sa sc sc_bytes f_sc_bytes sc_length j0_w0_2 j0_w0_2 sc_sort sc_numbers sc_told j0_w0_2 g38_sc_length g38_j0_w0_2 g38_j0_w0_2 g38_sc_told g38_j0_w0_2 _) rfl rfl rfl rfl (by decide) 0 5 rfl rfl rfl rfl (Nat.le_of_ble_eq_true rfl) rfl rfl ⟨Nat.le_of_ble_eq_true rfl, Nat.le_of_ble_eq_true rfl⟩ ⟨Nat.le_of_ble_eq_true rfl, Nat.le_of_ble_eq_true rfl⟩ dX5_takeToken_52 (fun x52 _ H locs h52 hP hD hS => ?_)
    have y52_0 := h52
    have hP : va_P D vwCl [(sc, .inr (5, [.ref sc_bytes, .int sc_length, .int j0_w0_2, .int j0_w0_2, .int sc_sort, .ref sc_numbers, .int sc_told])), (sc_bytes, .inl (cI, 150, .inl f_sc_bytes))] H := hP
    have hD : va_D (va_A (w_T_takeToken cI cZ cP sc sc_bytes f_sc_bytes sc_length sc_next sc_place sc_sort sc_numbers sc_told) sz) [(sc, .inr (5, [.ref sc_bytes, .int sc_length, .int j0_w0_2, .int j0_w0_2, .int sc_sort, .ref sc_numbers, .int sc_told])), (sc_bytes, .inl (cI, 150, .inl f_sc_bytes))] := hD
    rcases y52_0 with y52 | ⟨y52, w52⟩
    · subst y52
      refine va_put (D := D) (ci := 5) (v := .int 0) (ty := .int) (C := RX5) (T := TX5) (N := 7) hx hb ht inX5 tyX5 tyX5_ok nmX5 hown hK hP hD hS 0 rfl rfl 4 (Nat.le_of_ble_eq_true rfl) (ht _ kw_214) (fun _ h9 => h9) rfl (by decide +kernel) rfl rfl (Nat.le_of_ble_eq_true rfl) dX5_takeToken_55 (fun H locs hP hD hS => ?_)
      have hP : va_P D vwCl [(sc, .inr (5, [.ref sc_bytes, .int sc_length, .int j0_w0_2, .int j0_w0_2, .int 0, .ref sc_numbers, .int sc_told])), (sc_bytes, .inl (cI, 150, .inl f_sc_bytes))] H := hP
      have hD : va_D (va_A (w_T_takeToken cI cZ cP sc sc_bytes f_sc_bytes sc_length sc_next sc_place sc_sort sc_numbers sc_told) sz) [(sc, .inr (5, [.ref sc_bytes, .int sc_length, .int j0_w0_2, .int j0_w0_2, .int 0, .ref sc_numbers, .int sc_told])), (sc_bytes, .inl (cI, 150, .inl f_sc_bytes))] := hD
      refine lv_aload_n hx hb dX5_takeToken_58 rfl (lv_at hl 0 rfl) ?_
      refine va_get (D := D) (ci := 5) (v := .int 0) (C := RX5) (T := TX5) (N := 7) hx hb ht inX5 hown hK hP 0 rfl rfl 4 (Nat.le_of_ble_eq_true rfl) (ht _ kw_214) (fun _ h9 => h9) rfl dX5_takeToken_59 ?_
      refine lv_iconst (v := 3) hx hb dX5_takeToken_62 (by decide) ?_
      refine lv_icmp_eq (tgt := 74) hx hb dX5_takeToken_63 (by decide) (fun c63 => (rg_eqF c63 (rg_of (by decide) : rg (0 : Int32) 0 0) (rg_of (by decide) : rg (3 : Int32) 3 3) (by decide)).elim) (fun c63 => ?_)
      refine lv_aload_n hx hb dX5_takeToken_66 rfl (lv_at hl 0 rfl) ?_
      refine va_get (D := D) (ci := 5) (v := .int 0) (C := RX5) (T := TX5) (N := 7) hx hb ht inX5 hown hK hP 0 rfl rfl 4 (Nat.le_of_ble_eq_true rfl) (ht _ kw_214) (fun _ h9 => h9) rfl dX5_takeToken_67 ?_
      refine lv_iconst (v := 4) hx hb dX5_takeToken_70 (by decide) ?_
      refine lv_icmp_ne (tgt := 84) hx hb dX5_takeToken_71 (by decide) (fun c71 => ?_) (fun c71 => (rg_eqF c71 (rg_of (by decide) : rg (0 : Int32) 0 0) (rg_of (by decide) : rg (4 : Int32) 4 4) (by decide)).elim)
      exact lp_84 151 j0_w0_2 j0_w0_2 0 g38_sc_length g38_j0_w0_2 g38_j0_w0_2 (rg_w (rg_of (by decide) : rg (0 : Int32) 0 0) (by decide)) g38_sc_told (ms_in g38_j0_w0_2 (by decide)) _ _ _ hP hD hS (lv_sub hl [0] rfl)
    · skip
      refine va_put (D := D) (ci := 5) (v := .int x52) (ty := .int) (C := RX5) (T := TX5) (N := 7) hx hb ht inX5 tyX5 tyX5_ok nmX5 hown hK hP hD hS 0 rfl rfl 4 (Nat.le_of_ble_eq_true rfl) (ht _ kw_214) (fun _ h9 => h9) rfl (by decide +kernel) rfl rfl (Nat.le_of_ble_eq_true rfl) dX5_takeToken_55 (fun H locs hP hD hS => ?_)
      have hP : va_P D vwCl [(sc, .inr (5, [.ref sc_bytes, .int sc_length, .int j0_w0_2, .int j0_w0_2, .int x52, .ref sc_numbers, .int sc_told])), (sc_bytes, .inl (cI, 150, .inl f_sc_bytes))] H := hP
      have hD : va_D (va_A (w_T_takeToken cI cZ cP sc sc_bytes f_sc_bytes sc_length sc_next sc_place sc_sort sc_numbers sc_told) sz) [(sc, .inr (5, [.ref sc_bytes, .int sc_length, .int j0_w0_2, .int j0_w0_2, .int x52, .ref sc_numbers, .int sc_told])), (sc_bytes, .inl (cI, 150, .inl f_sc_bytes))] := hD
      refine lv_aload_n hx hb dX5_takeToken_58 rfl (lv_at hl 0 rfl) ?_
      refine va_get (D := D) (ci := 5) (v := .int x52) (C := RX5) (T := TX5) (N := 7) hx hb ht inX5 hown hK hP 0 rfl rfl 4 (Nat.le_of_ble_eq_true rfl) (ht _ kw_214) (fun _ h9 => h9) rfl dX5_takeToken_59 ?_
      refine lv_iconst (v := 3) hx hb dX5_takeToken_62 (by decide) ?_
      refine lv_icmp_eq (tgt := 74) hx hb dX5_takeToken_63 (by decide) (fun c63 => ?_) (fun c63 => ?_)
      · have r63ta : rg x52 3 3 := rg_eqL c63 y52 (rg_of (by decide) : rg (3 : Int32) 3 3) (by decide)
        exact jp_74 j0_w0_2 x52 g38_sc_length w52 (rg_w r63ta (by decide)) g38_sc_told _ _ _ hP hD hS (lv_sub hl [0] rfl)
      · refine lv_aload_n hx hb dX5_takeToken_66 rfl (lv_at hl 0 rfl) ?_
        refine va_get (D := D) (ci := 5) (v := .int x52) (C := RX5) (T := TX5) (N := 7) hx hb ht inX5 hown hK hP 0 rfl rfl 4 (Nat.le_of_ble_eq_true rfl) (ht _ kw_214) (fun _ h9 => h9) rfl dX5_takeToken_67 ?_
        refine lv_iconst (v := 4) hx hb dX5_takeToken_70 (by decide) ?_
        refine lv_icmp_ne (tgt := 84) hx hb dX5_takeToken_71 (by decide) (fun c71 => ?_) (fun c71 => ?_)
        · have r71ta : rg x52 1 3 := rg_neL c71 y52 (rg_of (by decide) : rg (4 : Int32) 4 4) (by decide)
          exact lp_84 151 j0_w0_2 j0_w0_2 x52 g38_sc_length (rg_w w52 (by decide)) (rg_w w52 (by decide)) (rg_w r71ta (by decide)) g38_sc_told (ms_in w52 (by decide)) _ _ _ hP hD hS (lv_sub hl [0] rfl)
        · have r71fa : rg x52 4 4 := rg_eqL c71 y52 (rg_of (by decide) : rg (4 : Int32) 4 4) (by decide)
          exact jp_74 j0_w0_2 x52 g38_sc_length w52 (rg_w r71fa (by decide)) g38_sc_told _ _ _ hP hD hS (lv_sub hl [0] rfl)
  have lp_0 : ∀ (n_0 : Nat) (j0_w0_2 : Int32), rg sc_length 0 150 → rg j0_w0_2 0 150 → rg sc_place 0 150 → rg sc_told 0 6 → (151 ≤ j0_w0_2.toInt + n_0) → ∀ (H : Heap) (locs : List Loc) (ls : Array Slot), va_P D vwCl [(sc, .inr (5, [.ref sc_bytes, .int sc_length, .int j0_w0_2, .int sc_place, .int sc_sort, .ref sc_numbers, .int sc_told])), (sc_bytes, .inl (cI, 150, .inl f_sc_bytes))] H → va_D (va_A (w_T_takeToken cI cZ cP sc sc_bytes f_sc_bytes sc_length sc_next sc_place sc_sort sc_numbers sc_told) sz) [(sc, .inr (5, [.ref sc_bytes, .int sc_length, .int j0_w0_2, .int sc_place, .int sc_sort, .ref sc_numbers, .int sc_told])), (sc_bytes, .inl (cI, 150, .inl f_sc_bytes))] → va_S (va_A (w_T_takeToken cI cZ cP sc sc_bytes f_sc_bytes sc_length sc_next sc_place sc_sort sc_numbers sc_told) sz) s.heap H locs → lv_has ls 1 [(0, .ref sc)] → W p l e ({ frames := 1, cells := 0, slots := 0, locals := 22 } : Room) s m ([.ref sc] : List Value).toArray below meth c H locs 0 0 (MQ below (qQv D (w_T_takeToken cI cZ cP sc sc_bytes f_sc_bytes sc_length sc_next sc_place sc_sort sc_numbers sc_told) sz (fun u : (Int32) × (Int32) × (Int32) => rg u.1 0 150 ∧ rg u.2.1 0 150 ∧ rg u.2.2 0 4) (fun u : (Int32) × (Int32) × (Int32) => [(sc, .inr (5, [.ref sc_bytes, .int sc_length, .int u.1, .int u.2.1, .int u.2.2, .ref sc_numbers, .int sc_told])), (sc_bytes, .inl (cI, 150, .inl f_sc_bytes))])) ([.ref sc] : List Value).toArray s 0 0 (va_A (w_T_takeToken cI cZ cP sc sc_bytes f_sc_bytes sc_length sc_next sc_place sc_sort sc_numbers sc_told) sz)) (F0 m 0 ls []) := by
    intro n_0
    induction n_0 with
    | zero => intro j0_w0_2 g0_sc_length g0_j0_w0_2 g0_sc_place g0_sc_told hm_0; exact (ms_0 hm_0 g0_j0_w0_2 (by decide)).elim
    | succ n_0 ih_0 =>
      intro j0_w0_2 g0_sc_length g0_j0_w0_2 g0_sc_place g0_sc_told hm_0 H locs ls hP hD hS hl
      refine lv_aload_n hx hb dX5_takeToken_0 rfl (lv_at hl 0 rfl) ?_
      refine va_get (D := D) (ci := 5) (v := .int j0_w0_2) (C := RX5) (T := TX5) (N := 7) hx hb ht inX5 hown hK hP 0 rfl rfl 2 (Nat.le_of_ble_eq_true rfl) (ht _ kw_212) (fun _ h9 => h9) rfl dX5_takeToken_1 ?_
      refine lv_aload_n hx hb dX5_takeToken_4 rfl (lv_at hl 0 rfl) ?_
      refine va_get (D := D) (ci := 5) (v := .int sc_length) (C := RX5) (T := TX5) (N := 7) hx hb ht inX5 hown hK hP 0 rfl rfl 1 (Nat.le_of_ble_eq_true rfl) (ht _ kw_210) (fun _ h9 => h9) rfl dX5_takeToken_5 ?_
      refine lv_icmp_ge (tgt := 38) hx hb dX5_takeToken_8 (by decide) (fun c8 => ?_) (fun c8 => ?_)
      · exact jp_38 j0_w0_2 g0_sc_length g0_j0_w0_2 g0_sc_place g0_sc_told _ _ _ hP hD hS (lv_sub hl [0] rfl)
      · have r8fa : rg j0_w0_2 0 149 := rg_ltL (Int32.not_le.mp c8) g0_j0_w0_2 g0_sc_length (by decide)
        have r8fb : rg sc_length 1 150 := rg_ltR (Int32.not_le.mp c8) g0_j0_w0_2 g0_sc_length (by decide)
        refine lv_aload_n hx hb dX5_takeToken_11 rfl (lv_at hl 0 rfl) ?_
        refine va_get (D := D) (ci := 5) (v := .ref sc_bytes) (C := RX5) (T := TX5) (N := 7) hx hb ht inX5 hown hK hP 0 rfl rfl 0 (Nat.le_of_ble_eq_true rfl) (ht _ kw_209) (fun _ h9 => h9) rfl dX5_takeToken_12 ?_
        refine lv_aload_n hx hb dX5_takeToken_15 rfl (lv_at hl 0 rfl) ?_
        refine va_get (D := D) (ci := 5) (v := .int j0_w0_2) (C := RX5) (T := TX5) (N := 7) hx hb ht inX5 hown hK hP 0 rfl rfl 2 (Nat.le_of_ble_eq_true rfl) (ht _ kw_212) (fun _ h9 => h9) rfl dX5_takeToken_16 ?_
        refine va_iald hx hb hK hP 1 0 rfl rfl (rg_in r8fa (by decide)) dX5_takeToken_19 ?_
        refine lv_topi (fun v19 e_v19 => ?_)
        refine lv_bipush (v := 32) hx hb dX5_takeToken_20 (by decide) ?_
        refine lv_icmp_ne (tgt := 38) hx hb dX5_takeToken_22 (by decide) (fun c22 => ?_) (fun c22 => ?_)
        · exact jp_38 j0_w0_2 (rg_w r8fb (by decide)) (rg_w r8fa (by decide)) g0_sc_place g0_sc_told _ _ _ hP hD hS (lv_sub hl [0] rfl)
        · have r22fa : rg v19 32 32 := rg_eqL c22 (rg_any v19) (rg_of (by decide) : rg (32 : Int32) 32 32) (by decide)
          refine lv_aload_n hx hb dX5_takeToken_25 rfl (lv_at hl 0 rfl) ?_
          refine lv_dup hx hb dX5_takeToken_26 rfl ?_
          refine va_get (D := D) (ci := 5) (v := .int j0_w0_2) (C := RX5) (T := TX5) (N := 7) hx hb ht inX5 hown hK hP 0 rfl rfl 2 (Nat.le_of_ble_eq_true rfl) (ht _ kw_212) (fun _ h9 => h9) rfl dX5_takeToken_27 ?_
          refine lv_iconst (v := 1) hx hb dX5_takeToken_30 (by decide) ?_
          refine lv_iadd hx hb dX5_takeToken_31 ?_
          refine lv_topi (fun v31 e_v31 => ?_)
          obtain ⟨r_v31, q_v31⟩ := rg_add (l := 1) (h := 150) e_v31 r8fa (rg_of (by decide) : rg (1 : Int32) 1 1) (by decide)
          have i_v31 := in_up q_v31 (rg_of (by decide) : rg (1 : Int32) 1 1) (by decide)
          refine va_put (D := D) (ci := 5) (v := .int v31) (ty := .int) (C := RX5) (T := TX5) (N := 7) hx hb ht inX5 tyX5 tyX5_ok nmX5 hown hK hP hD hS 0 rfl rfl 2 (Nat.le_of_ble_eq_true rfl) (ht _ kw_212) (fun _ h9 => h9) rfl (by decide +kernel) rfl rfl (Nat.le_of_ble_eq_true rfl) dX5_takeToken_32 (fun H locs hP hD hS => ?_)
          have hP : va_P D vwCl [(sc, .inr (5, [.ref sc_bytes, .int sc_length, .int v31, .int sc_place, .int sc_sort, .ref sc_numbers, .int sc_told])), (sc_bytes, .inl (cI, 150, .inl f_sc_bytes))] H := hP
          have hD : va_D (va_A (w_T_takeToken cI cZ cP sc sc_bytes f_sc_bytes sc_length sc_next sc_place sc_sort sc_numbers sc_told) sz) [(sc, .inr (5, [.ref sc_bytes, .int sc_length, .int v31, .int sc_place, .int sc_sort, .ref sc_numbers, .int sc_told])), (sc_bytes, .inl (cI, 150, .inl f_sc_bytes))] := hD
          refine lv_goto (tgt := 0) hx hb dX5_takeToken_35 (by decide) ?_
          exact ih_0 v31 (rg_w r8fb (by decide)) (rg_w r_v31 (by decide)) g0_sc_place g0_sc_told (ms_up hm_0 i_v31) _ _ _ hP hD hS (lv_sub hl [0] rfl)
  exact lp_0 151 sc_next h_sc_length h_sc_next h_sc_place h_sc_told (ms_in h_sc_next (by decide)) _ _ _ hP hD hS (lv_sub hl [0] rfl)
abbrev w_T_numberValue (cI cZ cP : ClassId) (sc : Nat) (sc_bytes : Nat) (f_sc_bytes : Nat → Int32) (sc_length : Int32) (sc_next : Int32) (sc_place : Int32) (sc_sort : Int32) (sc_numbers : Nat) (sc_told : Int32) : va_W := [(sc, .inr (5, [.ref sc_bytes, .int sc_length, .int sc_next, .int sc_place, .int sc_sort, .ref sc_numbers, .int sc_told])), (sc_bytes, .inl (cI, 150, .inl f_sc_bytes))]
set_option maxHeartbeats 4000000 in
set_option maxRecDepth 100000 in
theorem c_T_numberValue (l : Launch) (D : va_G) (cI cZ cP : ClassId) (sa : Nat → Nat) (sc : Nat) (sc_bytes : Nat) (f_sc_bytes : Nat → Int32) (sc_length : Int32) (sc_next : Int32) (sc_place : Int32) (sc_sort : Int32) (sc_numbers : Nat) (sc_told : Int32) (h_sc_length : rg sc_length 0 150) (h_sc_next : rg sc_next 0 150) (h_sc_place : rg sc_place 0 150) (h_sc_told : rg sc_told 0 6) (sz : Nat) : Met l yX5_numberValue (qW yX5_numberValue cX5_numberValue 3 (some .int)) ({ frames := 0, cells := 0, slots := 0, locals := 0 } : Room) (qP D (TY cI cZ cP) sa [.ref sc] (w_T_numberValue cI cZ cP sc sc_bytes f_sc_bytes sc_length sc_next sc_place sc_sort sc_numbers sc_told) sz) (qQi D (w_T_numberValue cI cZ cP sc sc_bytes f_sc_bytes sc_length sc_next sc_place sc_sort sc_numbers sc_told) sz (fun (r : Int32) (u : Unit) => True) (fun u : Unit => [(sc, .inr (5, [.ref sc_bytes, .int sc_length, .int sc_next, .int sc_place, .int sc_sort, .ref sc_numbers, .int sc_told])), (sc_bytes, .inl (cI, 150, .inl f_sc_bytes))])) 0 0 (va_A (w_T_numberValue cI cZ cP sc sc_bytes f_sc_bytes sc_length sc_next sc_place sc_sort sc_numbers sc_told) sz) := by
  refine q_enter (by decide) (Nat.le_of_ble_eq_true rfl) ?_
  intro p e s m below meth c ls hX hr hlk hnm hE hK hP hD hS hA hl
  obtain ⟨hx, hb, hml, hown, ht⟩ := id hX
  have hl : lv_has ls 3 [(0, .ref sc)] := hl
  have lp_30 : ∀ (n_30 : Nat) (j30_l1 : Int32) (j30_l2 : Int32), rg j30_l2 0 150 → rg sc_length 0 150 → rg sc_next 0 150 → rg sc_place 0 150 → rg sc_sort 2 2 → rg sc_told 0 6 → sc_sort = 2 → (151 ≤ j30_l2.toInt + n_30) → ∀ (H : Heap) (locs : List Loc) (ls : Array Slot), va_P D vwCl [(sc, .inr (5, [.ref sc_bytes, .int sc_length, .int sc_next, .int sc_place, .int sc_sort, .ref sc_numbers, .int sc_told])), (sc_bytes, .inl (cI, 150, .inl f_sc_bytes))] H → va_D (va_A (w_T_numberValue cI cZ cP sc sc_bytes f_sc_bytes sc_length sc_next sc_place sc_sort sc_numbers sc_told) sz) [(sc, .inr (5, [.ref sc_bytes, .int sc_length, .int sc_next, .int sc_place, .int sc_sort, .ref sc_numbers, .int sc_told])), (sc_bytes, .inl (cI, 150, .inl f_sc_bytes))] → va_S (va_A (w_T_numberValue cI cZ cP sc sc_bytes f_sc_bytes sc_length sc_next sc_place sc_sort sc_numbers sc_told) sz) s.heap H locs → lv_has ls 3 [(0, .ref sc), (1, .int j30_l1), (2, .int j30_l2)] → W p l e ({ frames := 0, cells := 0, slots := 0, locals := 0 } : Room) s m ([.ref sc] : List Value).toArray below meth c H locs 0 0 (MQ below (qQi D (w_T_numberValue cI cZ cP sc sc_bytes f_sc_bytes sc_length sc_next sc_place sc_sort sc_numbers sc_told) sz (fun (r : Int32) (u : Unit) => True) (fun u : Unit => [(sc, .inr (5, [.ref sc_bytes, .int sc_length, .int sc_next, .int sc_place, .int sc_sort, .ref sc_numbers, .int sc_told])), (sc_bytes, .inl (cI, 150, .inl f_sc_bytes))])) ([.ref sc] : List Value).toArray s 0 0 (va_A (w_T_numberValue cI cZ cP sc sc_bytes f_sc_bytes sc_length sc_next sc_place sc_sort sc_numbers sc_told) sz)) (F0 m 30 ls []) := by
    intro n_30
    induction n_30 with
    | zero => intro j30_l1 j30_l2 g30_j30_l2 g30_sc_length g30_sc_next g30_sc_place g30_sc_sort g30_sc_told x30_6 hm_30; exact (ms_0 hm_30 g30_j30_l2 (by decide)).elim
    | succ n_30 ih_30 =>
      intro j30_l1 j30_l2 g30_j30_l2 g30_sc_length g30_sc_next g30_sc_place g30_sc_sort g30_sc_told x30_6 hm_30 H locs ls hP hD hS hl
      refine lv_iload_n hx hb dX5_numberValue_30 rfl (lv_at hl 2 rfl) ?_
      refine lv_aload_n hx hb dX5_numberValue_31 rfl (lv_at hl 0 rfl) ?_
      refine va_get (D := D) (ci := 5) (v := .int sc_next) (C := RX5) (T := TX5) (N := 7) hx hb ht inX5 hown hK hP 0 rfl rfl 2 (Nat.le_of_ble_eq_true rfl) (ht _ kw_212) (fun _ h9 => h9) rfl dX5_numberValue_32 ?_
      refine lv_icmp_ge (tgt := 59) hx hb dX5_numberValue_35 (by decide) (fun c35 => ?_) (fun c35 => ?_)
      · refine lv_iload_n hx hb dX5_numberValue_59 rfl (lv_at hl 1 rfl) ?_
        exact q_iret hX hr hlk () trivial hP hD hS dX5_numberValue_60
      · have r35fa : rg j30_l2 0 149 := rg_ltL (Int32.not_le.mp c35) g30_j30_l2 g30_sc_next (by decide)
        have r35fb : rg sc_next 1 150 := rg_ltR (Int32.not_le.mp c35) g30_j30_l2 g30_sc_next (by decide)
        refine lv_bipush (v := 10) hx hb dX5_numberValue_38 (by decide) ?_
        refine lv_iload_n hx hb dX5_numberValue_40 rfl (lv_at hl 1 rfl) ?_
        refine lv_imul hx hb dX5_numberValue_41 ?_
        refine lv_topi (fun v41 e_v41 => ?_)
        refine lv_aload_n hx hb dX5_numberValue_42 rfl (lv_at hl 0 rfl) ?_
        refine va_get (D := D) (ci := 5) (v := .ref sc_bytes) (C := RX5) (T := TX5) (N := 7) hx hb ht inX5 hown hK hP 0 rfl rfl 0 (Nat.le_of_ble_eq_true rfl) (ht _ kw_209) (fun _ h9 => h9) rfl dX5_numberValue_43 ?_
        refine lv_iload_n hx hb dX5_numberValue_46 rfl (lv_at hl 2 rfl) ?_
        refine va_iald hx hb hK hP 1 0 rfl rfl (rg_in r35fa (by decide)) dX5_numberValue_47 ?_
        refine lv_topi (fun v47 e_v47 => ?_)
        refine lv_iadd hx hb dX5_numberValue_48 ?_
        refine lv_topi (fun v48 e_v48 => ?_)
        refine lv_bipush (v := 48) hx hb dX5_numberValue_49 (by decide) ?_
        refine lv_isub hx hb dX5_numberValue_51 ?_
        refine lv_topi (fun v51 e_v51 => ?_)
        refine lv_istore_n (lv' := [(1, .int v51), (0, .ref sc), (2, .int j30_l2)]) hx hb dX5_numberValue_52 rfl hl (by decide) rfl (fun ls hl => ?_)
        obtain ⟨v53, e_v53⟩ : ∃ y : Int32, y = j30_l2 + 1 := ⟨_, rfl⟩
        obtain ⟨r_v53, q_v53⟩ := rg_add (l := 1) (h := 150) e_v53 r35fa (rg_of (by decide) : rg (1 : Int32) 1 1) (by decide)
        have i_v53 := in_up q_v53 (rg_of (by decide) : rg (1 : Int32) 1 1) (by decide)
        refine lv_iinc (v := v53) (lv' := [(2, .int v53), (1, .int v51), (0, .ref sc)]) hx hb dX5_numberValue_53 hl (k := 2) rfl (by rw [e_v53]; rfl) (by decide) rfl (fun ls hl => ?_)
        refine lv_goto (tgt := 30) hx hb dX5_numberValue_56 (by decide) ?_
        exact ih_30 v51 v53 (rg_w r_v53 (by decide)) g30_sc_length (rg_w r35fb (by decide)) g30_sc_place g30_sc_sort g30_sc_told x30_6 (ms_up hm_30 i_v53) _ _ _ hP hD hS (lv_sub hl [2, 1, 0] rfl)
  have jp_21 : ∀ (_ : Unit), rg sc_length 0 150 → rg sc_next 0 150 → rg sc_place 0 150 → rg sc_told 0 6 → ∀ (H : Heap) (locs : List Loc) (ls : Array Slot), va_P D vwCl [(sc, .inr (5, [.ref sc_bytes, .int sc_length, .int sc_next, .int sc_place, .int sc_sort, .ref sc_numbers, .int sc_told])), (sc_bytes, .inl (cI, 150, .inl f_sc_bytes))] H → va_D (va_A (w_T_numberValue cI cZ cP sc sc_bytes f_sc_bytes sc_length sc_next sc_place sc_sort sc_numbers sc_told) sz) [(sc, .inr (5, [.ref sc_bytes, .int sc_length, .int sc_next, .int sc_place, .int sc_sort, .ref sc_numbers, .int sc_told])), (sc_bytes, .inl (cI, 150, .inl f_sc_bytes))] → va_S (va_A (w_T_numberValue cI cZ cP sc sc_bytes f_sc_bytes sc_length sc_next sc_place sc_sort sc_numbers sc_told) sz) s.heap H locs → lv_has ls 3 [(0, .ref sc)] → W p l e ({ frames := 0, cells := 0, slots := 0, locals := 0 } : Room) s m ([.ref sc] : List Value).toArray below meth c H locs 0 0 (MQ below (qQi D (w_T_numberValue cI cZ cP sc sc_bytes f_sc_bytes sc_length sc_next sc_place sc_sort sc_numbers sc_told) sz (fun (r : Int32) (u : Unit) => True) (fun u : Unit => [(sc, .inr (5, [.ref sc_bytes, .int sc_length, .int sc_next, .int sc_place, .int sc_sort, .ref sc_numbers, .int sc_told])), (sc_bytes, .inl (cI, 150, .inl f_sc_bytes))])) ([.ref sc] : List Value).toArray s 0 0 (va_A (w_T_numberValue cI cZ cP sc sc_bytes f_sc_bytes sc_length sc_next sc_place sc_sort sc_numbers sc_told) sz)) (F0 m 21 ls []) := by
    intro _ g21_sc_length g21_sc_next g21_sc_place g21_sc_told H locs ls hP hD hS hl
    refine lv_iconst (v := (-1)) hx hb dX5_numberValue_21 (by decide) ?_
    exact q_iret hX hr hlk () trivial hP hD hS dX5_numberValue_22
  refine lv_aload_n hx hb dX5_numberValue_0 rfl (lv_at hl 0 rfl) ?_
  refine va_get (D := D) (ci := 5) (v := .int sc_sort) (C := RX5) (T := TX5) (N := 7) hx hb ht inX5 hown hK hP 0 rfl rfl 4 (Nat.le_of_ble_eq_true rfl) (ht _ kw_214) (fun _ h9 => h9) rfl dX5_numberValue_1 ?_
  refine lv_iconst (v := 2) hx hb dX5_numberValue_4 (by decide) ?_
  refine lv_icmp_ne (tgt := 21) hx hb dX5_numberValue_5 (by decide) (fun c5 => ?_) (fun c5 => ?_)
  · exact jp_21 () h_sc_length h_sc_next h_sc_place h_sc_told _ _ _ hP hD hS (lv_sub hl [0] rfl)
  · have r5fa : rg sc_sort 2 2 := rg_eqL c5 (rg_any sc_sort) (rg_of (by decide) : rg (2 : Int32) 2 2) (by decide)
    refine lv_aload_n hx hb dX5_numberValue_8 rfl (lv_at hl 0 rfl) ?_
    refine va_get (D := D) (ci := 5) (v := .int sc_next) (C := RX5) (T := TX5) (N := 7) hx hb ht inX5 hown hK hP 0 rfl rfl 2 (Nat.le_of_ble_eq_true rfl) (ht _ kw_212) (fun _ h9 => h9) rfl dX5_numberValue_9 ?_
    refine lv_aload_n hx hb dX5_numberValue_12 rfl (lv_at hl 0 rfl) ?_
    refine va_get (D := D) (ci := 5) (v := .int sc_place) (C := RX5) (T := TX5) (N := 7) hx hb ht inX5 hown hK hP 0 rfl rfl 3 (Nat.le_of_ble_eq_true rfl) (ht _ kw_213) (fun _ h9 => h9) rfl dX5_numberValue_13 ?_
    refine lv_isub hx hb dX5_numberValue_16 ?_
    refine lv_topi (fun v16 e_v16 => ?_)
    obtain ⟨r_v16, q_v16⟩ := rg_sub (l := (-150)) (h := 150) e_v16 h_sc_next h_sc_place (by decide)
    refine lv_iconst (v := 2) hx hb dX5_numberValue_17 (by decide) ?_
    refine lv_icmp_le (tgt := 23) hx hb dX5_numberValue_18 (by decide) (fun c18 => ?_) (fun c18 => ?_)
    · have r18ta : rg v16 (-150) 2 := rg_leL c18 r_v16 (rg_of (by decide) : rg (2 : Int32) 2 2) (by decide)
      refine lv_iconst (v := 0) hx hb dX5_numberValue_23 (by decide) ?_
      refine lv_istore_n (lv' := [(1, .int 0), (0, .ref sc)]) hx hb dX5_numberValue_24 rfl hl (by decide) rfl (fun ls hl => ?_)
      refine lv_aload_n hx hb dX5_numberValue_25 rfl (lv_at hl 1 rfl) ?_
      refine va_get (D := D) (ci := 5) (v := .int sc_place) (C := RX5) (T := TX5) (N := 7) hx hb ht inX5 hown hK hP 0 rfl rfl 3 (Nat.le_of_ble_eq_true rfl) (ht _ kw_213) (fun _ h9 => h9) rfl dX5_numberValue_26 ?_
      refine lv_istore_n (lv' := [(2, .int sc_place), (1, .int 0), (0, .ref sc)]) hx hb dX5_numberValue_29 rfl hl (by decide) rfl (fun ls hl => ?_)
      exact lp_30 151 0 sc_place h_sc_place h_sc_length h_sc_next h_sc_place r5fa h_sc_told c5 (ms_in h_sc_place (by decide)) _ _ _ hP hD hS (lv_sub hl [2, 1, 0] rfl)
    · have r18fb : rg v16 3 150 := rg_ltR (Int32.not_le.mp c18) (rg_of (by decide) : rg (2 : Int32) 2 2) r_v16 (by decide)
      have r18fbk : rg sc_next 3 150 := rg_backS q_v16 r18fb h_sc_place h_sc_next (by decide)
      have r18fbm : rg sc_place 0 147 := rg_backT q_v16 r18fb r18fbk h_sc_place (by decide)
      exact jp_21 () h_sc_length (rg_w r18fbk (by decide)) (rg_w r18fbm (by decide)) h_sc_told _ _ _ hP hD hS (lv_sub hl [0] rfl)
abbrev w_T_isWord0 (cI cZ cP : ClassId) (sc : Nat) (sc_bytes : Nat) (f_sc_bytes : Nat → Int32) (sc_length : Int32) (sc_next : Int32) (sc_place : Int32) (sc_sort : Int32) (sc_numbers : Nat) (sc_told : Int32) : va_W := [(sc, .inr (5, [.ref sc_bytes, .int sc_length, .int sc_next, .int sc_place, .int sc_sort, .ref sc_numbers, .int sc_told])), (sc_bytes, .inl (cI, 150, .inl f_sc_bytes))]
set_option maxHeartbeats 4000000 in
set_option maxRecDepth 100000 in
theorem c_T_isWord0 (l : Launch) (D : va_G) (cI cZ cP : ClassId) (sa : Nat → Nat) (sc : Nat) (sc_bytes : Nat) (f_sc_bytes : Nat → Int32) (sc_length : Int32) (sc_next : Int32) (sc_place : Int32) (sc_sort : Int32) (sc_numbers : Nat) (sc_told : Int32) (h_sc_length : rg sc_length 0 150) (h_sc_next : rg sc_next 0 150) (h_sc_place : rg sc_place 0 150) (h_sc_told : rg sc_told 0 6) (sz : Nat) : Met l yX5_isWord (qW yX5_isWord cX5_isWord 3 (some .boolean)) ({ frames := 4, cells := 0, slots := 0, locals := 85 } : Room) (qP D (TY cI cZ cP) sa [.ref sc, .ref (sa 0)] (w_T_isWord0 cI cZ cP sc sc_bytes f_sc_bytes sc_length sc_next sc_place sc_sort sc_numbers sc_told) sz) (qQi D (w_T_isWord0 cI cZ cP sc sc_bytes f_sc_bytes sc_length sc_next sc_place sc_sort sc_numbers sc_told) sz (fun (r : Int32) (u : Unit) => rg r 0 1) (fun u : Unit => [(sc, .inr (5, [.ref sc_bytes, .int sc_length, .int sc_next, .int sc_place, .int sc_sort, .ref sc_numbers, .int sc_told])), (sc_bytes, .inl (cI, 150, .inl f_sc_bytes))])) 0 0 (va_A (w_T_isWord0 cI cZ cP sc sc_bytes f_sc_bytes sc_length sc_next sc_place sc_sort sc_numbers sc_told) sz) := by
  refine q_enter (by decide) (Nat.le_of_ble_eq_true rfl) ?_
  intro p e s m below meth c ls hX hr hlk hnm hE hK hP hD hS hA hl
  obtain ⟨hx, hb, hml, hown, ht⟩ := id hX
  have hl : lv_has ls 3 [(0, .ref sc), (1, .ref (sa 0))] := hl
  have lp_28 : ∀ (n_28 : Nat) (j28_l2 : Int32), rg j28_l2 0 5 → rg sc_length 0 150 → rg sc_next 5 150 → rg sc_place 0 145 → rg sc_sort 1 1 → rg sc_told 0 6 → sc_sort = 1 → (6 ≤ j28_l2.toInt + n_28) → ∀ (H : Heap) (locs : List Loc) (ls : Array Slot), va_P D vwCl [(sc, .inr (5, [.ref sc_bytes, .int sc_length, .int sc_next, .int sc_place, .int sc_sort, .ref sc_numbers, .int sc_told])), (sc_bytes, .inl (cI, 150, .inl f_sc_bytes))] H → va_D (va_A (w_T_isWord0 cI cZ cP sc sc_bytes f_sc_bytes sc_length sc_next sc_place sc_sort sc_numbers sc_told) sz) [(sc, .inr (5, [.ref sc_bytes, .int sc_length, .int sc_next, .int sc_place, .int sc_sort, .ref sc_numbers, .int sc_told])), (sc_bytes, .inl (cI, 150, .inl f_sc_bytes))] → va_S (va_A (w_T_isWord0 cI cZ cP sc sc_bytes f_sc_bytes sc_length sc_next sc_place sc_sort sc_numbers sc_told) sz) s.heap H locs → lv_has ls 3 [(0, .ref sc), (1, .ref (sa 0)), (2, .int j28_l2)] → W p l e ({ frames := 4, cells := 0, slots := 0, locals := 85 } : Room) s m ([.ref sc, .ref (sa 0)] : List Value).toArray below meth c H locs 0 0 (MQ below (qQi D (w_T_isWord0 cI cZ cP sc sc_bytes f_sc_bytes sc_length sc_next sc_place sc_sort sc_numbers sc_told) sz (fun (r : Int32) (u : Unit) => rg r 0 1) (fun u : Unit => [(sc, .inr (5, [.ref sc_bytes, .int sc_length, .int sc_next, .int sc_place, .int sc_sort, .ref sc_numbers, .int sc_told])), (sc_bytes, .inl (cI, 150, .inl f_sc_bytes))])) ([.ref sc, .ref (sa 0)] : List Value).toArray s 0 0 (va_A (w_T_isWord0 cI cZ cP sc sc_bytes f_sc_bytes sc_length sc_next sc_place sc_sort sc_numbers sc_told) sz)) (F0 m 28 ls []) := by
    intro n_28
    induction n_28 with
    | zero => intro j28_l2 g28_j28_l2 g28_sc_length g28_sc_next g28_sc_place g28_sc_sort g28_sc_told x28_6 hm_28; exact (ms_0 hm_28 g28_j28_l2 (by decide)).elim
    | succ n_28 ih_28 =>
      intro j28_l2 g28_j28_l2 g28_sc_length g28_sc_next g28_sc_place g28_sc_sort g28_sc_told x28_6 hm_28 H locs ls hP hD hS hl
      refine lv_iload_n hx hb dX5_isWord_28 rfl (lv_at hl 2 rfl) ?_
      refine lv_aload_n hx hb dX5_isWord_29 rfl (lv_at hl 1 rfl) ?_
      refine q_Ti (wr := [(sc, .inr (5, [.ref sc_bytes, .int sc_length, .int sc_next, .int sc_place, .int sc_sort, .ref sc_numbers, .int sc_told])), (sc_bytes, .inl (cI, 150, .inl f_sc_bytes))]) [] [0, 1] hX hE hK hP hD hS hA hl.1 lk_X5_101 (c_s_length0 l D cI cZ cP sa _) rfl rfl rfl rfl (by decide) (vk_recv (i := 0) (hE.2.2.2.2.2.1.narrow hA.2) (by decide) hS) rfl rfl (Nat.le_of_ble_eq_true rfl) rfl rfl ⟨Nat.le_of_ble_eq_true rfl, Nat.le_of_ble_eq_true rfl⟩ ⟨Nat.le_of_ble_eq_true rfl, Nat.le_of_ble_eq_true rfl⟩ dX5_isWord_30 (fun x30 _ H locs h30 hP hD hS => ?_)
      have hr30 := h30
      have hP : va_P D vwCl [(sc, .inr (5, [.ref sc_bytes, .int sc_length, .int sc_next, .int sc_place, .int sc_sort, .ref sc_numbers, .int sc_told])), (sc_bytes, .inl (cI, 150, .inl f_sc_bytes))] H := hP
      have hD : va_D (va_A (w_T_isWord0 cI cZ cP sc sc_bytes f_sc_bytes sc_length sc_next sc_place sc_sort sc_numbers sc_told) sz) [(sc, .inr (5, [.ref sc_bytes, .int sc_length, .int sc_next, .int sc_place, .int sc_sort, .ref sc_numbers, .int sc_told])), (sc_bytes, .inl (cI, 150, .inl f_sc_bytes))] := hD
      subst hr30
      refine lv_icmp_ge (tgt := 63) hx hb dX5_isWord_33 (by decide) (fun c33 => ?_) (fun c33 => ?_)
      · have r33tb : rg j28_l2 5 5 := rg_leR c33 (rg_of (by decide) : rg (5 : Int32) 5 5) g28_j28_l2 (by decide)
        refine lv_iconst (v := 1) hx hb dX5_isWord_63 (by decide) ?_
        exact q_zret hX hr hlk (by decide) () (rg_w (rg_of (by decide) : rg (1 : Int32) 1 1) (by decide)) hP hD hS dX5_isWord_64
      · have r33fa : rg j28_l2 0 4 := rg_ltL (Int32.not_le.mp c33) g28_j28_l2 (rg_of (by decide) : rg (5 : Int32) 5 5) (by decide)
        refine lv_aload_n hx hb dX5_isWord_36 rfl (lv_at hl 0 rfl) ?_
        refine va_get (D := D) (ci := 5) (v := .ref sc_bytes) (C := RX5) (T := TX5) (N := 7) hx hb ht inX5 hown hK hP 0 rfl rfl 0 (Nat.le_of_ble_eq_true rfl) (ht _ kw_209) (fun _ h9 => h9) rfl dX5_isWord_37 ?_
        refine lv_aload_n hx hb dX5_isWord_40 rfl (lv_at hl 0 rfl) ?_
        refine va_get (D := D) (ci := 5) (v := .int sc_place) (C := RX5) (T := TX5) (N := 7) hx hb ht inX5 hown hK hP 0 rfl rfl 3 (Nat.le_of_ble_eq_true rfl) (ht _ kw_213) (fun _ h9 => h9) rfl dX5_isWord_41 ?_
        refine lv_iload_n hx hb dX5_isWord_44 rfl (lv_at hl 2 rfl) ?_
        refine lv_iadd hx hb dX5_isWord_45 ?_
        refine lv_topi (fun v45 e_v45 => ?_)
        obtain ⟨r_v45, q_v45⟩ := rg_add (l := 0) (h := 149) e_v45 g28_sc_place r33fa (by decide)
        refine va_iald hx hb hK hP 1 0 rfl rfl (rg_in r_v45 (by decide)) dX5_isWord_46 ?_
        refine lv_topi (fun v46 e_v46 => ?_)
        refine lv_aload_n hx hb dX5_isWord_47 rfl (lv_at hl 1 rfl) ?_
        refine lv_iload_n hx hb dX5_isWord_48 rfl (lv_at hl 2 rfl) ?_
        refine q_Ti (wr := [(sc, .inr (5, [.ref sc_bytes, .int sc_length, .int sc_next, .int sc_place, .int sc_sort, .ref sc_numbers, .int sc_told])), (sc_bytes, .inl (cI, 150, .inl f_sc_bytes))]) [] [0, 1] hX hE hK hP hD hS hA hl.1 lk_X5_105 (c_s_charAt0 l D cI cZ cP sa j28_l2 r33fa _) rfl rfl rfl rfl (by decide) (vk_recv (i := 0) (hE.2.2.2.2.2.1.narrow hA.2) (by decide) hS) rfl rfl (Nat.le_of_ble_eq_true rfl) rfl rfl ⟨Nat.le_of_ble_eq_true rfl, Nat.le_of_ble_eq_true rfl⟩ ⟨Nat.le_of_ble_eq_true rfl, Nat.le_of_ble_eq_true rfl⟩ dX5_isWord_49 (fun x49 _ H locs h49 hP hD hS => ?_)
        have hP : va_P D vwCl [(sc, .inr (5, [.ref sc_bytes, .int sc_length, .int sc_next, .int sc_place, .int sc_sort, .ref sc_numbers, .int sc_told])), (sc_bytes, .inl (cI, 150, .inl f_sc_bytes))] H := hP
        have hD : va_D (va_A (w_T_isWord0 cI cZ cP sc sc_bytes f_sc_bytes sc_length sc_next sc_place sc_sort sc_numbers sc_told) sz) [(sc, .inr (5, [.ref sc_bytes, .int sc_length, .int sc_next, .int sc_place, .int sc_sort, .ref sc_numbers, .int sc_told])), (sc_bytes, .inl (cI, 150, .inl f_sc_bytes))] := hD
        refine lv_icmp_eq (tgt := 57) hx hb dX5_isWord_52 (by decide) (fun c52 => ?_) (fun c52 => ?_)
        · obtain ⟨v57, e_v57⟩ : ∃ y : Int32, y = j28_l2 + 1 := ⟨_, rfl⟩
          obtain ⟨r_v57, q_v57⟩ := rg_add (l := 1) (h := 5) e_v57 r33fa (rg_of (by decide) : rg (1 : Int32) 1 1) (by decide)
          have i_v57 := in_up q_v57 (rg_of (by decide) : rg (1 : Int32) 1 1) (by decide)
          refine lv_iinc (v := v57) (lv' := [(2, .int v57), (0, .ref sc), (1, .ref (sa 0))]) hx hb dX5_isWord_57 hl (k := 2) rfl (by rw [e_v57]; rfl) (by decide) rfl (fun ls hl => ?_)
          refine lv_goto (tgt := 28) hx hb dX5_isWord_60 (by decide) ?_
          exact ih_28 v57 (rg_w r_v57 (by decide)) g28_sc_length g28_sc_next g28_sc_place g28_sc_sort g28_sc_told x28_6 (ms_up hm_28 i_v57) _ _ _ hP hD hS (lv_sub hl [1, 2, 0] rfl)
        · refine lv_iconst (v := 0) hx hb dX5_isWord_55 (by decide) ?_
          exact q_zret hX hr hlk (by decide) () (rg_w (rg_of (by decide) : rg (0 : Int32) 0 0) (by decide)) hP hD hS dX5_isWord_56
  have jp_24 : ∀ (_ : Unit), rg sc_length 0 150 → rg sc_next 0 150 → rg sc_place 0 150 → rg sc_told 0 6 → ∀ (H : Heap) (locs : List Loc) (ls : Array Slot), va_P D vwCl [(sc, .inr (5, [.ref sc_bytes, .int sc_length, .int sc_next, .int sc_place, .int sc_sort, .ref sc_numbers, .int sc_told])), (sc_bytes, .inl (cI, 150, .inl f_sc_bytes))] H → va_D (va_A (w_T_isWord0 cI cZ cP sc sc_bytes f_sc_bytes sc_length sc_next sc_place sc_sort sc_numbers sc_told) sz) [(sc, .inr (5, [.ref sc_bytes, .int sc_length, .int sc_next, .int sc_place, .int sc_sort, .ref sc_numbers, .int sc_told])), (sc_bytes, .inl (cI, 150, .inl f_sc_bytes))] → va_S (va_A (w_T_isWord0 cI cZ cP sc sc_bytes f_sc_bytes sc_length sc_next sc_place sc_sort sc_numbers sc_told) sz) s.heap H locs → lv_has ls 3 [(0, .ref sc), (1, .ref (sa 0))] → W p l e ({ frames := 4, cells := 0, slots := 0, locals := 85 } : Room) s m ([.ref sc, .ref (sa 0)] : List Value).toArray below meth c H locs 0 0 (MQ below (qQi D (w_T_isWord0 cI cZ cP sc sc_bytes f_sc_bytes sc_length sc_next sc_place sc_sort sc_numbers sc_told) sz (fun (r : Int32) (u : Unit) => rg r 0 1) (fun u : Unit => [(sc, .inr (5, [.ref sc_bytes, .int sc_length, .int sc_next, .int sc_place, .int sc_sort, .ref sc_numbers, .int sc_told])), (sc_bytes, .inl (cI, 150, .inl f_sc_bytes))])) ([.ref sc, .ref (sa 0)] : List Value).toArray s 0 0 (va_A (w_T_isWord0 cI cZ cP sc sc_bytes f_sc_bytes sc_length sc_next sc_place sc_sort sc_numbers sc_told) sz)) (F0 m 24 ls []) := by
    intro _ g24_sc_length g24_sc_next g24_sc_place g24_sc_told H locs ls hP hD hS hl
    refine lv_iconst (v := 0) hx hb dX5_isWord_24 (by decide) ?_
    exact q_zret hX hr hlk (by decide) () (rg_w (rg_of (by decide) : rg (0 : Int32) 0 0) (by decide)) hP hD hS dX5_isWord_25
  refine lv_aload_n hx hb dX5_isWord_0 rfl (lv_at hl 0 rfl) ?_
  refine va_get (D := D) (ci := 5) (v := .int sc_sort) (C := RX5) (T := TX5) (N := 7) hx hb ht inX5 hown hK hP 0 rfl rfl 4 (Nat.le_of_ble_eq_true rfl) (ht _ kw_214) (fun _ h9 => h9) rfl dX5_isWord_1 ?_
  refine lv_iconst (v := 1) hx hb dX5_isWord_4 (by decide) ?_
  refine lv_icmp_ne (tgt := 24) hx hb dX5_isWord_5 (by decide) (fun c5 => ?_) (fun c5 => ?_)
  · exact jp_24 () h_sc_length h_sc_next h_sc_place h_sc_told _ _ _ hP hD hS (lv_sub hl [0, 1] rfl)
  · have r5fa : rg sc_sort 1 1 := rg_eqL c5 (rg_any sc_sort) (rg_of (by decide) : rg (1 : Int32) 1 1) (by decide)
    refine lv_aload_n hx hb dX5_isWord_8 rfl (lv_at hl 0 rfl) ?_
    refine va_get (D := D) (ci := 5) (v := .int sc_next) (C := RX5) (T := TX5) (N := 7) hx hb ht inX5 hown hK hP 0 rfl rfl 2 (Nat.le_of_ble_eq_true rfl) (ht _ kw_212) (fun _ h9 => h9) rfl dX5_isWord_9 ?_
    refine lv_aload_n hx hb dX5_isWord_12 rfl (lv_at hl 0 rfl) ?_
    refine va_get (D := D) (ci := 5) (v := .int sc_place) (C := RX5) (T := TX5) (N := 7) hx hb ht inX5 hown hK hP 0 rfl rfl 3 (Nat.le_of_ble_eq_true rfl) (ht _ kw_213) (fun _ h9 => h9) rfl dX5_isWord_13 ?_
    refine lv_isub hx hb dX5_isWord_16 ?_
    refine lv_topi (fun v16 e_v16 => ?_)
    obtain ⟨r_v16, q_v16⟩ := rg_sub (l := (-150)) (h := 150) e_v16 h_sc_next h_sc_place (by decide)
    refine lv_aload_n hx hb dX5_isWord_17 rfl (lv_at hl 1 rfl) ?_
    refine q_Ti (wr := [(sc, .inr (5, [.ref sc_bytes, .int sc_length, .int sc_next, .int sc_place, .int sc_sort, .ref sc_numbers, .int sc_told])), (sc_bytes, .inl (cI, 150, .inl f_sc_bytes))]) [] [0, 1] hX hE hK hP hD hS hA hl.1 lk_X5_101 (c_s_length0 l D cI cZ cP sa _) rfl rfl rfl rfl (by decide) (vk_recv (i := 0) (hE.2.2.2.2.2.1.narrow hA.2) (by decide) hS) rfl rfl (Nat.le_of_ble_eq_true rfl) rfl rfl ⟨Nat.le_of_ble_eq_true rfl, Nat.le_of_ble_eq_true rfl⟩ ⟨Nat.le_of_ble_eq_true rfl, Nat.le_of_ble_eq_true rfl⟩ dX5_isWord_18 (fun x18 _ H locs h18 hP hD hS => ?_)
    have hr18 := h18
    have hP : va_P D vwCl [(sc, .inr (5, [.ref sc_bytes, .int sc_length, .int sc_next, .int sc_place, .int sc_sort, .ref sc_numbers, .int sc_told])), (sc_bytes, .inl (cI, 150, .inl f_sc_bytes))] H := hP
    have hD : va_D (va_A (w_T_isWord0 cI cZ cP sc sc_bytes f_sc_bytes sc_length sc_next sc_place sc_sort sc_numbers sc_told) sz) [(sc, .inr (5, [.ref sc_bytes, .int sc_length, .int sc_next, .int sc_place, .int sc_sort, .ref sc_numbers, .int sc_told])), (sc_bytes, .inl (cI, 150, .inl f_sc_bytes))] := hD
    subst hr18
    refine lv_icmp_eq (tgt := 26) hx hb dX5_isWord_21 (by decide) (fun c21 => ?_) (fun c21 => ?_)
    · have r21ta : rg v16 5 5 := rg_eqL c21 r_v16 (rg_of (by decide) : rg (5 : Int32) 5 5) (by decide)
      have r21tak : rg sc_next 5 150 := rg_backS q_v16 r21ta h_sc_place h_sc_next (by decide)
      have r21tam : rg sc_place 0 145 := rg_backT q_v16 r21ta r21tak h_sc_place (by decide)
      refine lv_iconst (v := 0) hx hb dX5_isWord_26 (by decide) ?_
      refine lv_istore_n (lv' := [(2, .int 0), (0, .ref sc), (1, .ref (sa 0))]) hx hb dX5_isWord_27 rfl hl (by decide) rfl (fun ls hl => ?_)
      exact lp_28 6 0 (rg_w (rg_of (by decide) : rg (0 : Int32) 0 0) (by decide)) h_sc_length r21tak r21tam r5fa h_sc_told c5 (ms_in (rg_of (by decide) : rg (0 : Int32) 0 0) (by decide)) _ _ _ hP hD hS (lv_sub hl [1, 2, 0] rfl)
    · exact jp_24 () h_sc_length h_sc_next h_sc_place h_sc_told _ _ _ hP hD hS (lv_sub hl [0, 1] rfl)
abbrev w_T_isWord1 (cI cZ cP : ClassId) (sc : Nat) (sc_bytes : Nat) (f_sc_bytes : Nat → Int32) (sc_length : Int32) (sc_next : Int32) (sc_place : Int32) (sc_sort : Int32) (sc_numbers : Nat) (sc_told : Int32) : va_W := [(sc, .inr (5, [.ref sc_bytes, .int sc_length, .int sc_next, .int sc_place, .int sc_sort, .ref sc_numbers, .int sc_told])), (sc_bytes, .inl (cI, 150, .inl f_sc_bytes))]
set_option maxHeartbeats 4000000 in
set_option maxRecDepth 100000 in
theorem c_T_isWord1 (l : Launch) (D : va_G) (cI cZ cP : ClassId) (sa : Nat → Nat) (sc : Nat) (sc_bytes : Nat) (f_sc_bytes : Nat → Int32) (sc_length : Int32) (sc_next : Int32) (sc_place : Int32) (sc_sort : Int32) (sc_numbers : Nat) (sc_told : Int32) (h_sc_length : rg sc_length 0 150) (h_sc_next : rg sc_next 0 150) (h_sc_place : rg sc_place 0 150) (h_sc_told : rg sc_told 0 6) (sz : Nat) : Met l yX5_isWord (qW yX5_isWord cX5_isWord 3 (some .boolean)) ({ frames := 4, cells := 0, slots := 0, locals := 85 } : Room) (qP D (TY cI cZ cP) sa [.ref sc, .ref (sa 1)] (w_T_isWord1 cI cZ cP sc sc_bytes f_sc_bytes sc_length sc_next sc_place sc_sort sc_numbers sc_told) sz) (qQi D (w_T_isWord1 cI cZ cP sc sc_bytes f_sc_bytes sc_length sc_next sc_place sc_sort sc_numbers sc_told) sz (fun (r : Int32) (u : Unit) => rg r 0 1) (fun u : Unit => [(sc, .inr (5, [.ref sc_bytes, .int sc_length, .int sc_next, .int sc_place, .int sc_sort, .ref sc_numbers, .int sc_told])), (sc_bytes, .inl (cI, 150, .inl f_sc_bytes))])) 0 0 (va_A (w_T_isWord1 cI cZ cP sc sc_bytes f_sc_bytes sc_length sc_next sc_place sc_sort sc_numbers sc_told) sz) := by
  refine q_enter (by decide) (Nat.le_of_ble_eq_true rfl) ?_
  intro p e s m below meth c ls hX hr hlk hnm hE hK hP hD hS hA hl
  obtain ⟨hx, hb, hml, hown, ht⟩ := id hX
  have hl : lv_has ls 3 [(0, .ref sc), (1, .ref (sa 1))] := hl
  have lp_28 : ∀ (n_28 : Nat) (j28_l2 : Int32), rg j28_l2 0 4 → rg sc_length 0 150 → rg sc_next 4 150 → rg sc_place 0 146 → rg sc_sort 1 1 → rg sc_told 0 6 → sc_sort = 1 → (5 ≤ j28_l2.toInt + n_28) → ∀ (H : Heap) (locs : List Loc) (ls : Array Slot), va_P D vwCl [(sc, .inr (5, [.ref sc_bytes, .int sc_length, .int sc_next, .int sc_place, .int sc_sort, .ref sc_numbers, .int sc_told])), (sc_bytes, .inl (cI, 150, .inl f_sc_bytes))] H → va_D (va_A (w_T_isWord1 cI cZ cP sc sc_bytes f_sc_bytes sc_length sc_next sc_place sc_sort sc_numbers sc_told) sz) [(sc, .inr (5, [.ref sc_bytes, .int sc_length, .int sc_next, .int sc_place, .int sc_sort, .ref sc_numbers, .int sc_told])), (sc_bytes, .inl (cI, 150, .inl f_sc_bytes))] → va_S (va_A (w_T_isWord1 cI cZ cP sc sc_bytes f_sc_bytes sc_length sc_next sc_place sc_sort sc_numbers sc_told) sz) s.heap H locs → lv_has ls 3 [(0, .ref sc), (1, .ref (sa 1)), (2, .int j28_l2)] → W p l e ({ frames := 4, cells := 0, slots := 0, locals := 85 } : Room) s m ([.ref sc, .ref (sa 1)] : List Value).toArray below meth c H locs 0 0 (MQ below (qQi D (w_T_isWord1 cI cZ cP sc sc_bytes f_sc_bytes sc_length sc_next sc_place sc_sort sc_numbers sc_told) sz (fun (r : Int32) (u : Unit) => rg r 0 1) (fun u : Unit => [(sc, .inr (5, [.ref sc_bytes, .int sc_length, .int sc_next, .int sc_place, .int sc_sort, .ref sc_numbers, .int sc_told])), (sc_bytes, .inl (cI, 150, .inl f_sc_bytes))])) ([.ref sc, .ref (sa 1)] : List Value).toArray s 0 0 (va_A (w_T_isWord1 cI cZ cP sc sc_bytes f_sc_bytes sc_length sc_next sc_place sc_sort sc_numbers sc_told) sz)) (F0 m 28 ls []) := by
    intro n_28
    induction n_28 with
    | zero => intro j28_l2 g28_j28_l2 g28_sc_length g28_sc_next g28_sc_place g28_sc_sort g28_sc_told x28_6 hm_28; exact (ms_0 hm_28 g28_j28_l2 (by decide)).elim
    | succ n_28 ih_28 =>
      intro j28_l2 g28_j28_l2 g28_sc_length g28_sc_next g28_sc_place g28_sc_sort g28_sc_told x28_6 hm_28 H locs ls hP hD hS hl
      refine lv_iload_n hx hb dX5_isWord_28 rfl (lv_at hl 2 rfl) ?_
      refine lv_aload_n hx hb dX5_isWord_29 rfl (lv_at hl 1 rfl) ?_
      refine q_Ti (wr := [(sc, .inr (5, [.ref sc_bytes, .int sc_length, .int sc_next, .int sc_place, .int sc_sort, .ref sc_numbers, .int sc_told])), (sc_bytes, .inl (cI, 150, .inl f_sc_bytes))]) [] [0, 1] hX hE hK hP hD hS hA hl.1 lk_X5_101 (c_s_length1 l D cI cZ cP sa _) rfl rfl rfl rfl (by decide) (vk_recv (i := 1) (hE.2.2.2.2.2.1.narrow hA.2) (by decide) hS) rfl rfl (Nat.le_of_ble_eq_true rfl) rfl rfl ⟨Nat.le_of_ble_eq_true rfl, Nat.le_of_ble_eq_true rfl⟩ ⟨Nat.le_of_ble_eq_true rfl, Nat.le_of_ble_eq_true rfl⟩ dX5_isWord_30 (fun x30 _ H locs h30 hP hD hS => ?_)
      have hr30 := h30
      have hP : va_P D vwCl [(sc, .inr (5, [.ref sc_bytes, .int sc_length, .int sc_next, .int sc_place, .int sc_sort, .ref sc_numbers, .int sc_told])), (sc_bytes, .inl (cI, 150, .inl f_sc_bytes))] H := hP
      have hD : va_D (va_A (w_T_isWord1 cI cZ cP sc sc_bytes f_sc_bytes sc_length sc_next sc_place sc_sort sc_numbers sc_told) sz) [(sc, .inr (5, [.ref sc_bytes, .int sc_length, .int sc_next, .int sc_place, .int sc_sort, .ref sc_numbers, .int sc_told])), (sc_bytes, .inl (cI, 150, .inl f_sc_bytes))] := hD
      subst hr30
      refine lv_icmp_ge (tgt := 63) hx hb dX5_isWord_33 (by decide) (fun c33 => ?_) (fun c33 => ?_)
      · have r33tb : rg j28_l2 4 4 := rg_leR c33 (rg_of (by decide) : rg (4 : Int32) 4 4) g28_j28_l2 (by decide)
        refine lv_iconst (v := 1) hx hb dX5_isWord_63 (by decide) ?_
        exact q_zret hX hr hlk (by decide) () (rg_w (rg_of (by decide) : rg (1 : Int32) 1 1) (by decide)) hP hD hS dX5_isWord_64
      · have r33fa : rg j28_l2 0 3 := rg_ltL (Int32.not_le.mp c33) g28_j28_l2 (rg_of (by decide) : rg (4 : Int32) 4 4) (by decide)
        refine lv_aload_n hx hb dX5_isWord_36 rfl (lv_at hl 0 rfl) ?_
        refine va_get (D := D) (ci := 5) (v := .ref sc_bytes) (C := RX5) (T := TX5) (N := 7) hx hb ht inX5 hown hK hP 0 rfl rfl 0 (Nat.le_of_ble_eq_true rfl) (ht _ kw_209) (fun _ h9 => h9) rfl dX5_isWord_37 ?_
        refine lv_aload_n hx hb dX5_isWord_40 rfl (lv_at hl 0 rfl) ?_
        refine va_get (D := D) (ci := 5) (v := .int sc_place) (C := RX5) (T := TX5) (N := 7) hx hb ht inX5 hown hK hP 0 rfl rfl 3 (Nat.le_of_ble_eq_true rfl) (ht _ kw_213) (fun _ h9 => h9) rfl dX5_isWord_41 ?_
        refine lv_iload_n hx hb dX5_isWord_44 rfl (lv_at hl 2 rfl) ?_
        refine lv_iadd hx hb dX5_isWord_45 ?_
        refine lv_topi (fun v45 e_v45 => ?_)
        obtain ⟨r_v45, q_v45⟩ := rg_add (l := 0) (h := 149) e_v45 g28_sc_place r33fa (by decide)
        refine va_iald hx hb hK hP 1 0 rfl rfl (rg_in r_v45 (by decide)) dX5_isWord_46 ?_
        refine lv_topi (fun v46 e_v46 => ?_)
        refine lv_aload_n hx hb dX5_isWord_47 rfl (lv_at hl 1 rfl) ?_
        refine lv_iload_n hx hb dX5_isWord_48 rfl (lv_at hl 2 rfl) ?_
        refine q_Ti (wr := [(sc, .inr (5, [.ref sc_bytes, .int sc_length, .int sc_next, .int sc_place, .int sc_sort, .ref sc_numbers, .int sc_told])), (sc_bytes, .inl (cI, 150, .inl f_sc_bytes))]) [] [0, 1] hX hE hK hP hD hS hA hl.1 lk_X5_105 (c_s_charAt1 l D cI cZ cP sa j28_l2 r33fa _) rfl rfl rfl rfl (by decide) (vk_recv (i := 1) (hE.2.2.2.2.2.1.narrow hA.2) (by decide) hS) rfl rfl (Nat.le_of_ble_eq_true rfl) rfl rfl ⟨Nat.le_of_ble_eq_true rfl, Nat.le_of_ble_eq_true rfl⟩ ⟨Nat.le_of_ble_eq_true rfl, Nat.le_of_ble_eq_true rfl⟩ dX5_isWord_49 (fun x49 _ H locs h49 hP hD hS => ?_)
        have hP : va_P D vwCl [(sc, .inr (5, [.ref sc_bytes, .int sc_length, .int sc_next, .int sc_place, .int sc_sort, .ref sc_numbers, .int sc_told])), (sc_bytes, .inl (cI, 150, .inl f_sc_bytes))] H := hP
        have hD : va_D (va_A (w_T_isWord1 cI cZ cP sc sc_bytes f_sc_bytes sc_length sc_next sc_place sc_sort sc_numbers sc_told) sz) [(sc, .inr (5, [.ref sc_bytes, .int sc_length, .int sc_next, .int sc_place, .int sc_sort, .ref sc_numbers, .int sc_told])), (sc_bytes, .inl (cI, 150, .inl f_sc_bytes))] := hD
        refine lv_icmp_eq (tgt := 57) hx hb dX5_isWord_52 (by decide) (fun c52 => ?_) (fun c52 => ?_)
        · obtain ⟨v57, e_v57⟩ : ∃ y : Int32, y = j28_l2 + 1 := ⟨_, rfl⟩
          obtain ⟨r_v57, q_v57⟩ := rg_add (l := 1) (h := 4) e_v57 r33fa (rg_of (by decide) : rg (1 : Int32) 1 1) (by decide)
          have i_v57 := in_up q_v57 (rg_of (by decide) : rg (1 : Int32) 1 1) (by decide)
          refine lv_iinc (v := v57) (lv' := [(2, .int v57), (0, .ref sc), (1, .ref (sa 1))]) hx hb dX5_isWord_57 hl (k := 2) rfl (by rw [e_v57]; rfl) (by decide) rfl (fun ls hl => ?_)
          refine lv_goto (tgt := 28) hx hb dX5_isWord_60 (by decide) ?_
          exact ih_28 v57 (rg_w r_v57 (by decide)) g28_sc_length g28_sc_next g28_sc_place g28_sc_sort g28_sc_told x28_6 (ms_up hm_28 i_v57) _ _ _ hP hD hS (lv_sub hl [1, 2, 0] rfl)
        · refine lv_iconst (v := 0) hx hb dX5_isWord_55 (by decide) ?_
          exact q_zret hX hr hlk (by decide) () (rg_w (rg_of (by decide) : rg (0 : Int32) 0 0) (by decide)) hP hD hS dX5_isWord_56
  have jp_24 : ∀ (_ : Unit), rg sc_length 0 150 → rg sc_next 0 150 → rg sc_place 0 150 → rg sc_told 0 6 → ∀ (H : Heap) (locs : List Loc) (ls : Array Slot), va_P D vwCl [(sc, .inr (5, [.ref sc_bytes, .int sc_length, .int sc_next, .int sc_place, .int sc_sort, .ref sc_numbers, .int sc_told])), (sc_bytes, .inl (cI, 150, .inl f_sc_bytes))] H → va_D (va_A (w_T_isWord1 cI cZ cP sc sc_bytes f_sc_bytes sc_length sc_next sc_place sc_sort sc_numbers sc_told) sz) [(sc, .inr (5, [.ref sc_bytes, .int sc_length, .int sc_next, .int sc_place, .int sc_sort, .ref sc_numbers, .int sc_told])), (sc_bytes, .inl (cI, 150, .inl f_sc_bytes))] → va_S (va_A (w_T_isWord1 cI cZ cP sc sc_bytes f_sc_bytes sc_length sc_next sc_place sc_sort sc_numbers sc_told) sz) s.heap H locs → lv_has ls 3 [(0, .ref sc), (1, .ref (sa 1))] → W p l e ({ frames := 4, cells := 0, slots := 0, locals := 85 } : Room) s m ([.ref sc, .ref (sa 1)] : List Value).toArray below meth c H locs 0 0 (MQ below (qQi D (w_T_isWord1 cI cZ cP sc sc_bytes f_sc_bytes sc_length sc_next sc_place sc_sort sc_numbers sc_told) sz (fun (r : Int32) (u : Unit) => rg r 0 1) (fun u : Unit => [(sc, .inr (5, [.ref sc_bytes, .int sc_length, .int sc_next, .int sc_place, .int sc_sort, .ref sc_numbers, .int sc_told])), (sc_bytes, .inl (cI, 150, .inl f_sc_bytes))])) ([.ref sc, .ref (sa 1)] : List Value).toArray s 0 0 (va_A (w_T_isWord1 cI cZ cP sc sc_bytes f_sc_bytes sc_length sc_next sc_place sc_sort sc_numbers sc_told) sz)) (F0 m 24 ls []) := by
    intro _ g24_sc_length g24_sc_next g24_sc_place g24_sc_told H locs ls hP hD hS hl
    refine lv_iconst (v := 0) hx hb dX5_isWord_24 (by decide) ?_
    exact q_zret hX hr hlk (by decide) () (rg_w (rg_of (by decide) : rg (0 : Int32) 0 0) (by decide)) hP hD hS dX5_isWord_25
  refine lv_aload_n hx hb dX5_isWord_0 rfl (lv_at hl 0 rfl) ?_
  refine va_get (D := D) (ci := 5) (v := .int sc_sort) (C := RX5) (T := TX5) (N := 7) hx hb ht inX5 hown hK hP 0 rfl rfl 4 (Nat.le_of_ble_eq_true rfl) (ht _ kw_214) (fun _ h9 => h9) rfl dX5_isWord_1 ?_
  refine lv_iconst (v := 1) hx hb dX5_isWord_4 (by decide) ?_
  refine lv_icmp_ne (tgt := 24) hx hb dX5_isWord_5 (by decide) (fun c5 => ?_) (fun c5 => ?_)
  · exact jp_24 () h_sc_length h_sc_next h_sc_place h_sc_told _ _ _ hP hD hS (lv_sub hl [0, 1] rfl)
  · have r5fa : rg sc_sort 1 1 := rg_eqL c5 (rg_any sc_sort) (rg_of (by decide) : rg (1 : Int32) 1 1) (by decide)
    refine lv_aload_n hx hb dX5_isWord_8 rfl (lv_at hl 0 rfl) ?_
    refine va_get (D := D) (ci := 5) (v := .int sc_next) (C := RX5) (T := TX5) (N := 7) hx hb ht inX5 hown hK hP 0 rfl rfl 2 (Nat.le_of_ble_eq_true rfl) (ht _ kw_212) (fun _ h9 => h9) rfl dX5_isWord_9 ?_
    refine lv_aload_n hx hb dX5_isWord_12 rfl (lv_at hl 0 rfl) ?_
    refine va_get (D := D) (ci := 5) (v := .int sc_place) (C := RX5) (T := TX5) (N := 7) hx hb ht inX5 hown hK hP 0 rfl rfl 3 (Nat.le_of_ble_eq_true rfl) (ht _ kw_213) (fun _ h9 => h9) rfl dX5_isWord_13 ?_
    refine lv_isub hx hb dX5_isWord_16 ?_
    refine lv_topi (fun v16 e_v16 => ?_)
    obtain ⟨r_v16, q_v16⟩ := rg_sub (l := (-150)) (h := 150) e_v16 h_sc_next h_sc_place (by decide)
    refine lv_aload_n hx hb dX5_isWord_17 rfl (lv_at hl 1 rfl) ?_
    refine q_Ti (wr := [(sc, .inr (5, [.ref sc_bytes, .int sc_length, .int sc_next, .int sc_place, .int sc_sort, .ref sc_numbers, .int sc_told])), (sc_bytes, .inl (cI, 150, .inl f_sc_bytes))]) [] [0, 1] hX hE hK hP hD hS hA hl.1 lk_X5_101 (c_s_length1 l D cI cZ cP sa _) rfl rfl rfl rfl (by decide) (vk_recv (i := 1) (hE.2.2.2.2.2.1.narrow hA.2) (by decide) hS) rfl rfl (Nat.le_of_ble_eq_true rfl) rfl rfl ⟨Nat.le_of_ble_eq_true rfl, Nat.le_of_ble_eq_true rfl⟩ ⟨Nat.le_of_ble_eq_true rfl, Nat.le_of_ble_eq_true rfl⟩ dX5_isWord_18 (fun x18 _ H locs h18 hP hD hS => ?_)
    have hr18 := h18
    have hP : va_P D vwCl [(sc, .inr (5, [.ref sc_bytes, .int sc_length, .int sc_next, .int sc_place, .int sc_sort, .ref sc_numbers, .int sc_told])), (sc_bytes, .inl (cI, 150, .inl f_sc_bytes))] H := hP
    have hD : va_D (va_A (w_T_isWord1 cI cZ cP sc sc_bytes f_sc_bytes sc_length sc_next sc_place sc_sort sc_numbers sc_told) sz) [(sc, .inr (5, [.ref sc_bytes, .int sc_length, .int sc_next, .int sc_place, .int sc_sort, .ref sc_numbers, .int sc_told])), (sc_bytes, .inl (cI, 150, .inl f_sc_bytes))] := hD
    subst hr18
    refine lv_icmp_eq (tgt := 26) hx hb dX5_isWord_21 (by decide) (fun c21 => ?_) (fun c21 => ?_)
    · have r21ta : rg v16 4 4 := rg_eqL c21 r_v16 (rg_of (by decide) : rg (4 : Int32) 4 4) (by decide)
      have r21tak : rg sc_next 4 150 := rg_backS q_v16 r21ta h_sc_place h_sc_next (by decide)
      have r21tam : rg sc_place 0 146 := rg_backT q_v16 r21ta r21tak h_sc_place (by decide)
      refine lv_iconst (v := 0) hx hb dX5_isWord_26 (by decide) ?_
      refine lv_istore_n (lv' := [(2, .int 0), (0, .ref sc), (1, .ref (sa 1))]) hx hb dX5_isWord_27 rfl hl (by decide) rfl (fun ls hl => ?_)
      exact lp_28 5 0 (rg_w (rg_of (by decide) : rg (0 : Int32) 0 0) (by decide)) h_sc_length r21tak r21tam r5fa h_sc_told c5 (ms_in (rg_of (by decide) : rg (0 : Int32) 0 0) (by decide)) _ _ _ hP hD hS (lv_sub hl [1, 2, 0] rfl)
    · exact jp_24 () h_sc_length h_sc_next h_sc_place h_sc_told _ _ _ hP hD hS (lv_sub hl [0, 1] rfl)
abbrev w_T_isWord2 (cI cZ cP : ClassId) (sc : Nat) (sc_bytes : Nat) (f_sc_bytes : Nat → Int32) (sc_length : Int32) (sc_next : Int32) (sc_place : Int32) (sc_sort : Int32) (sc_numbers : Nat) (sc_told : Int32) : va_W := [(sc, .inr (5, [.ref sc_bytes, .int sc_length, .int sc_next, .int sc_place, .int sc_sort, .ref sc_numbers, .int sc_told])), (sc_bytes, .inl (cI, 150, .inl f_sc_bytes))]
set_option maxHeartbeats 4000000 in
set_option maxRecDepth 100000 in
theorem c_T_isWord2 (l : Launch) (D : va_G) (cI cZ cP : ClassId) (sa : Nat → Nat) (sc : Nat) (sc_bytes : Nat) (f_sc_bytes : Nat → Int32) (sc_length : Int32) (sc_next : Int32) (sc_place : Int32) (sc_sort : Int32) (sc_numbers : Nat) (sc_told : Int32) (h_sc_length : rg sc_length 0 150) (h_sc_next : rg sc_next 0 150) (h_sc_place : rg sc_place 0 150) (h_sc_told : rg sc_told 0 6) (sz : Nat) : Met l yX5_isWord (qW yX5_isWord cX5_isWord 3 (some .boolean)) ({ frames := 4, cells := 0, slots := 0, locals := 85 } : Room) (qP D (TY cI cZ cP) sa [.ref sc, .ref (sa 2)] (w_T_isWord2 cI cZ cP sc sc_bytes f_sc_bytes sc_length sc_next sc_place sc_sort sc_numbers sc_told) sz) (qQi D (w_T_isWord2 cI cZ cP sc sc_bytes f_sc_bytes sc_length sc_next sc_place sc_sort sc_numbers sc_told) sz (fun (r : Int32) (u : Unit) => rg r 0 1) (fun u : Unit => [(sc, .inr (5, [.ref sc_bytes, .int sc_length, .int sc_next, .int sc_place, .int sc_sort, .ref sc_numbers, .int sc_told])), (sc_bytes, .inl (cI, 150, .inl f_sc_bytes))])) 0 0 (va_A (w_T_isWord2 cI cZ cP sc sc_bytes f_sc_bytes sc_length sc_next sc_place sc_sort sc_numbers sc_told) sz) := by
  refine q_enter (by decide) (Nat.le_of_ble_eq_true rfl) ?_
  intro p e s m below meth c ls hX hr hlk hnm hE hK hP hD hS hA hl
  obtain ⟨hx, hb, hml, hown, ht⟩ := id hX
  have hl : lv_has ls 3 [(0, .ref sc), (1, .ref (sa 2))] := hl
  have lp_28 : ∀ (n_28 : Nat) (j28_l2 : Int32), rg j28_l2 0 4 → rg sc_length 0 150 → rg sc_next 4 150 → rg sc_place 0 146 → rg sc_sort 1 1 → rg sc_told 0 6 → sc_sort = 1 → (5 ≤ j28_l2.toInt + n_28) → ∀ (H : Heap) (locs : List Loc) (ls : Array Slot), va_P D vwCl [(sc, .inr (5, [.ref sc_bytes, .int sc_length, .int sc_next, .int sc_place, .int sc_sort, .ref sc_numbers, .int sc_told])), (sc_bytes, .inl (cI, 150, .inl f_sc_bytes))] H → va_D (va_A (w_T_isWord2 cI cZ cP sc sc_bytes f_sc_bytes sc_length sc_next sc_place sc_sort sc_numbers sc_told) sz) [(sc, .inr (5, [.ref sc_bytes, .int sc_length, .int sc_next, .int sc_place, .int sc_sort, .ref sc_numbers, .int sc_told])), (sc_bytes, .inl (cI, 150, .inl f_sc_bytes))] → va_S (va_A (w_T_isWord2 cI cZ cP sc sc_bytes f_sc_bytes sc_length sc_next sc_place sc_sort sc_numbers sc_told) sz) s.heap H locs → lv_has ls 3 [(0, .ref sc), (1, .ref (sa 2)), (2, .int j28_l2)] → W p l e ({ frames := 4, cells := 0, slots := 0, locals := 85 } : Room) s m ([.ref sc, .ref (sa 2)] : List Value).toArray below meth c H locs 0 0 (MQ below (qQi D (w_T_isWord2 cI cZ cP sc sc_bytes f_sc_bytes sc_length sc_next sc_place sc_sort sc_numbers sc_told) sz (fun (r : Int32) (u : Unit) => rg r 0 1) (fun u : Unit => [(sc, .inr (5, [.ref sc_bytes, .int sc_length, .int sc_next, .int sc_place, .int sc_sort, .ref sc_numbers, .int sc_told])), (sc_bytes, .inl (cI, 150, .inl f_sc_bytes))])) ([.ref sc, .ref (sa 2)] : List Value).toArray s 0 0 (va_A (w_T_isWord2 cI cZ cP sc sc_bytes f_sc_bytes sc_length sc_next sc_place sc_sort sc_numbers sc_told) sz)) (F0 m 28 ls []) := by
    intro n_28
    induction n_28 with
    | zero => intro j28_l2 g28_j28_l2 g28_sc_length g28_sc_next g28_sc_place g28_sc_sort g28_sc_told x28_6 hm_28; exact (ms_0 hm_28 g28_j28_l2 (by decide)).elim
    | succ n_28 ih_28 =>
      intro j28_l2 g28_j28_l2 g28_sc_length g28_sc_next g28_sc_place g28_sc_sort g28_sc_told x28_6 hm_28 H locs ls hP hD hS hl
      refine lv_iload_n hx hb dX5_isWord_28 rfl (lv_at hl 2 rfl) ?_
      refine lv_aload_n hx hb dX5_isWord_29 rfl (lv_at hl 1 rfl) ?_
      refine q_Ti (wr := [(sc, .inr (5, [.ref sc_bytes, .int sc_length, .int sc_next, .int sc_place, .int sc_sort, .ref sc_numbers, .int sc_told])), (sc_bytes, .inl (cI, 150, .inl f_sc_bytes))]) [] [0, 1] hX hE hK hP hD hS hA hl.1 lk_X5_101 (c_s_length2 l D cI cZ cP sa _) rfl rfl rfl rfl (by decide) (vk_recv (i := 2) (hE.2.2.2.2.2.1.narrow hA.2) (by decide) hS) rfl rfl (Nat.le_of_ble_eq_true rfl) rfl rfl ⟨Nat.le_of_ble_eq_true rfl, Nat.le_of_ble_eq_true rfl⟩ ⟨Nat.le_of_ble_eq_true rfl, Nat.le_of_ble_eq_true rfl⟩ dX5_isWord_30 (fun x30 _ H locs h30 hP hD hS => ?_)
      have hr30 := h30
      have hP : va_P D vwCl [(sc, .inr (5, [.ref sc_bytes, .int sc_length, .int sc_next, .int sc_place, .int sc_sort, .ref sc_numbers, .int sc_told])), (sc_bytes, .inl (cI, 150, .inl f_sc_bytes))] H := hP
      have hD : va_D (va_A (w_T_isWord2 cI cZ cP sc sc_bytes f_sc_bytes sc_length sc_next sc_place sc_sort sc_numbers sc_told) sz) [(sc, .inr (5, [.ref sc_bytes, .int sc_length, .int sc_next, .int sc_place, .int sc_sort, .ref sc_numbers, .int sc_told])), (sc_bytes, .inl (cI, 150, .inl f_sc_bytes))] := hD
      subst hr30
      refine lv_icmp_ge (tgt := 63) hx hb dX5_isWord_33 (by decide) (fun c33 => ?_) (fun c33 => ?_)
      · have r33tb : rg j28_l2 4 4 := rg_leR c33 (rg_of (by decide) : rg (4 : Int32) 4 4) g28_j28_l2 (by decide)
        refine lv_iconst (v := 1) hx hb dX5_isWord_63 (by decide) ?_
        exact q_zret hX hr hlk (by decide) () (rg_w (rg_of (by decide) : rg (1 : Int32) 1 1) (by decide)) hP hD hS dX5_isWord_64
      · have r33fa : rg j28_l2 0 3 := rg_ltL (Int32.not_le.mp c33) g28_j28_l2 (rg_of (by decide) : rg (4 : Int32) 4 4) (by decide)
        refine lv_aload_n hx hb dX5_isWord_36 rfl (lv_at hl 0 rfl) ?_
        refine va_get (D := D) (ci := 5) (v := .ref sc_bytes) (C := RX5) (T := TX5) (N := 7) hx hb ht inX5 hown hK hP 0 rfl rfl 0 (Nat.le_of_ble_eq_true rfl) (ht _ kw_209) (fun _ h9 => h9) rfl dX5_isWord_37 ?_
        refine lv_aload_n hx hb dX5_isWord_40 rfl (lv_at hl 0 rfl) ?_
        refine va_get (D := D) (ci := 5) (v := .int sc_place) (C := RX5) (T := TX5) (N := 7) hx hb ht inX5 hown hK hP 0 rfl rfl 3 (Nat.le_of_ble_eq_true rfl) (ht _ kw_213) (fun _ h9 => h9) rfl dX5_isWord_41 ?_
        refine lv_iload_n hx hb dX5_isWord_44 rfl (lv_at hl 2 rfl) ?_
        refine lv_iadd hx hb dX5_isWord_45 ?_
        refine lv_topi (fun v45 e_v45 => ?_)
        obtain ⟨r_v45, q_v45⟩ := rg_add (l := 0) (h := 149) e_v45 g28_sc_place r33fa (by decide)
        refine va_iald hx hb hK hP 1 0 rfl rfl (rg_in r_v45 (by decide)) dX5_isWord_46 ?_
        refine lv_topi (fun v46 e_v46 => ?_)
        refine lv_aload_n hx hb dX5_isWord_47 rfl (lv_at hl 1 rfl) ?_
        refine lv_iload_n hx hb dX5_isWord_48 rfl (lv_at hl 2 rfl) ?_
        refine q_Ti (wr := [(sc, .inr (5, [.ref sc_bytes, .int sc_length, .int sc_next, .int sc_place, .int sc_sort, .ref sc_numbers, .int sc_told])), (sc_bytes, .inl (cI, 150, .inl f_sc_bytes))]) [] [0, 1] hX hE hK hP hD hS hA hl.1 lk_X5_105 (c_s_charAt2 l D cI cZ cP sa j28_l2 r33fa _) rfl rfl rfl rfl (by decide) (vk_recv (i := 2) (hE.2.2.2.2.2.1.narrow hA.2) (by decide) hS) rfl rfl (Nat.le_of_ble_eq_true rfl) rfl rfl ⟨Nat.le_of_ble_eq_true rfl, Nat.le_of_ble_eq_true rfl⟩ ⟨Nat.le_of_ble_eq_true rfl, Nat.le_of_ble_eq_true rfl⟩ dX5_isWord_49 (fun x49 _ H locs h49 hP hD hS => ?_)
        have hP : va_P D vwCl [(sc, .inr (5, [.ref sc_bytes, .int sc_length, .int sc_next, .int sc_place, .int sc_sort, .ref sc_numbers, .int sc_told])), (sc_bytes, .inl (cI, 150, .inl f_sc_bytes))] H := hP
        have hD : va_D (va_A (w_T_isWord2 cI cZ cP sc sc_bytes f_sc_bytes sc_length sc_next sc_place sc_sort sc_numbers sc_told) sz) [(sc, .inr (5, [.ref sc_bytes, .int sc_length, .int sc_next, .int sc_place, .int sc_sort, .ref sc_numbers, .int sc_told])), (sc_bytes, .inl (cI, 150, .inl f_sc_bytes))] := hD
        refine lv_icmp_eq (tgt := 57) hx hb dX5_isWord_52 (by decide) (fun c52 => ?_) (fun c52 => ?_)
        · obtain ⟨v57, e_v57⟩ : ∃ y : Int32, y = j28_l2 + 1 := ⟨_, rfl⟩
          obtain ⟨r_v57, q_v57⟩ := rg_add (l := 1) (h := 4) e_v57 r33fa (rg_of (by decide) : rg (1 : Int32) 1 1) (by decide)
          have i_v57 := in_up q_v57 (rg_of (by decide) : rg (1 : Int32) 1 1) (by decide)
          refine lv_iinc (v := v57) (lv' := [(2, .int v57), (0, .ref sc), (1, .ref (sa 2))]) hx hb dX5_isWord_57 hl (k := 2) rfl (by rw [e_v57]; rfl) (by decide) rfl (fun ls hl => ?_)
          refine lv_goto (tgt := 28) hx hb dX5_isWord_60 (by decide) ?_
          exact ih_28 v57 (rg_w r_v57 (by decide)) g28_sc_length g28_sc_next g28_sc_place g28_sc_sort g28_sc_told x28_6 (ms_up hm_28 i_v57) _ _ _ hP hD hS (lv_sub hl [1, 2, 0] rfl)
        · refine lv_iconst (v := 0) hx hb dX5_isWord_55 (by decide) ?_
          exact q_zret hX hr hlk (by decide) () (rg_w (rg_of (by decide) : rg (0 : Int32) 0 0) (by decide)) hP hD hS dX5_isWord_56
  have jp_24 : ∀ (_ : Unit), rg sc_length 0 150 → rg sc_next 0 150 → rg sc_place 0 150 → rg sc_told 0 6 → ∀ (H : Heap) (locs : List Loc) (ls : Array Slot), va_P D vwCl [(sc, .inr (5, [.ref sc_bytes, .int sc_length, .int sc_next, .int sc_place, .int sc_sort, .ref sc_numbers, .int sc_told])), (sc_bytes, .inl (cI, 150, .inl f_sc_bytes))] H → va_D (va_A (w_T_isWord2 cI cZ cP sc sc_bytes f_sc_bytes sc_length sc_next sc_place sc_sort sc_numbers sc_told) sz) [(sc, .inr (5, [.ref sc_bytes, .int sc_length, .int sc_next, .int sc_place, .int sc_sort, .ref sc_numbers, .int sc_told])), (sc_bytes, .inl (cI, 150, .inl f_sc_bytes))] → va_S (va_A (w_T_isWord2 cI cZ cP sc sc_bytes f_sc_bytes sc_length sc_next sc_place sc_sort sc_numbers sc_told) sz) s.heap H locs → lv_has ls 3 [(0, .ref sc), (1, .ref (sa 2))] → W p l e ({ frames := 4, cells := 0, slots := 0, locals := 85 } : Room) s m ([.ref sc, .ref (sa 2)] : List Value).toArray below meth c H locs 0 0 (MQ below (qQi D (w_T_isWord2 cI cZ cP sc sc_bytes f_sc_bytes sc_length sc_next sc_place sc_sort sc_numbers sc_told) sz (fun (r : Int32) (u : Unit) => rg r 0 1) (fun u : Unit => [(sc, .inr (5, [.ref sc_bytes, .int sc_length, .int sc_next, .int sc_place, .int sc_sort, .ref sc_numbers, .int sc_told])), (sc_bytes, .inl (cI, 150, .inl f_sc_bytes))])) ([.ref sc, .ref (sa 2)] : List Value).toArray s 0 0 (va_A (w_T_isWord2 cI cZ cP sc sc_bytes f_sc_bytes sc_length sc_next sc_place sc_sort sc_numbers sc_told) sz)) (F0 m 24 ls []) := by
    intro _ g24_sc_length g24_sc_next g24_sc_place g24_sc_told H locs ls hP hD hS hl
    refine lv_iconst (v := 0) hx hb dX5_isWord_24 (by decide) ?_
    exact q_zret hX hr hlk (by decide) () (rg_w (rg_of (by decide) : rg (0 : Int32) 0 0) (by decide)) hP hD hS dX5_isWord_25
  refine lv_aload_n hx hb dX5_isWord_0 rfl (lv_at hl 0 rfl) ?_
  refine va_get (D := D) (ci := 5) (v := .int sc_sort) (C := RX5) (T := TX5) (N := 7) hx hb ht inX5 hown hK hP 0 rfl rfl 4 (Nat.le_of_ble_eq_true rfl) (ht _ kw_214) (fun _ h9 => h9) rfl dX5_isWord_1 ?_
  refine lv_iconst (v := 1) hx hb dX5_isWord_4 (by decide) ?_
  refine lv_icmp_ne (tgt := 24) hx hb dX5_isWord_5 (by decide) (fun c5 => ?_) (fun c5 => ?_)
  · exact jp_24 () h_sc_length h_sc_next h_sc_place h_sc_told _ _ _ hP hD hS (lv_sub hl [0, 1] rfl)
  · have r5fa : rg sc_sort 1 1 := rg_eqL c5 (rg_any sc_sort) (rg_of (by decide) : rg (1 : Int32) 1 1) (by decide)
    refine lv_aload_n hx hb dX5_isWord_8 rfl (lv_at hl 0 rfl) ?_
    refine va_get (D := D) (ci := 5) (v := .int sc_next) (C := RX5) (T := TX5) (N := 7) hx hb ht inX5 hown hK hP 0 rfl rfl 2 (Nat.le_of_ble_eq_true rfl) (ht _ kw_212) (fun _ h9 => h9) rfl dX5_isWord_9 ?_
    refine lv_aload_n hx hb dX5_isWord_12 rfl (lv_at hl 0 rfl) ?_
    refine va_get (D := D) (ci := 5) (v := .int sc_place) (C := RX5) (T := TX5) (N := 7) hx hb ht inX5 hown hK hP 0 rfl rfl 3 (Nat.le_of_ble_eq_true rfl) (ht _ kw_213) (fun _ h9 => h9) rfl dX5_isWord_13 ?_
    refine lv_isub hx hb dX5_isWord_16 ?_
    refine lv_topi (fun v16 e_v16 => ?_)
    obtain ⟨r_v16, q_v16⟩ := rg_sub (l := (-150)) (h := 150) e_v16 h_sc_next h_sc_place (by decide)
    refine lv_aload_n hx hb dX5_isWord_17 rfl (lv_at hl 1 rfl) ?_
    refine q_Ti (wr := [(sc, .inr (5, [.ref sc_bytes, .int sc_length, .int sc_next, .int sc_place, .int sc_sort, .ref sc_numbers, .int sc_told])), (sc_bytes, .inl (cI, 150, .inl f_sc_bytes))]) [] [0, 1] hX hE hK hP hD hS hA hl.1 lk_X5_101 (c_s_length2 l D cI cZ cP sa _) rfl rfl rfl rfl (by decide) (vk_recv (i := 2) (hE.2.2.2.2.2.1.narrow hA.2) (by decide) hS) rfl rfl (Nat.le_of_ble_eq_true rfl) rfl rfl ⟨Nat.le_of_ble_eq_true rfl, Nat.le_of_ble_eq_true rfl⟩ ⟨Nat.le_of_ble_eq_true rfl, Nat.le_of_ble_eq_true rfl⟩ dX5_isWord_18 (fun x18 _ H locs h18 hP hD hS => ?_)
    have hr18 := h18
    have hP : va_P D vwCl [(sc, .inr (5, [.ref sc_bytes, .int sc_length, .int sc_next, .int sc_place, .int sc_sort, .ref sc_numbers, .int sc_told])), (sc_bytes, .inl (cI, 150, .inl f_sc_bytes))] H := hP
    have hD : va_D (va_A (w_T_isWord2 cI cZ cP sc sc_bytes f_sc_bytes sc_length sc_next sc_place sc_sort sc_numbers sc_told) sz) [(sc, .inr (5, [.ref sc_bytes, .int sc_length, .int sc_next, .int sc_place, .int sc_sort, .ref sc_numbers, .int sc_told])), (sc_bytes, .inl (cI, 150, .inl f_sc_bytes))] := hD
    subst hr18
    refine lv_icmp_eq (tgt := 26) hx hb dX5_isWord_21 (by decide) (fun c21 => ?_) (fun c21 => ?_)
    · have r21ta : rg v16 4 4 := rg_eqL c21 r_v16 (rg_of (by decide) : rg (4 : Int32) 4 4) (by decide)
      have r21tak : rg sc_next 4 150 := rg_backS q_v16 r21ta h_sc_place h_sc_next (by decide)
      have r21tam : rg sc_place 0 146 := rg_backT q_v16 r21ta r21tak h_sc_place (by decide)
      refine lv_iconst (v := 0) hx hb dX5_isWord_26 (by decide) ?_
      refine lv_istore_n (lv' := [(2, .int 0), (0, .ref sc), (1, .ref (sa 2))]) hx hb dX5_isWord_27 rfl hl (by decide) rfl (fun ls hl => ?_)
      exact lp_28 5 0 (rg_w (rg_of (by decide) : rg (0 : Int32) 0 0) (by decide)) h_sc_length r21tak r21tam r5fa h_sc_told c5 (ms_in (rg_of (by decide) : rg (0 : Int32) 0 0) (by decide)) _ _ _ hP hD hS (lv_sub hl [1, 2, 0] rfl)
    · exact jp_24 () h_sc_length h_sc_next h_sc_place h_sc_told _ _ _ hP hD hS (lv_sub hl [0, 1] rfl)
abbrev w_T_takeStop (cI cZ cP : ClassId) (sc : Nat) (sc_bytes : Nat) (f_sc_bytes : Nat → Int32) (sc_length : Int32) (sc_next : Int32) (sc_place : Int32) (sc_sort : Int32) (sc_numbers : Nat) (sc_told : Int32) : va_W := [(sc, .inr (5, [.ref sc_bytes, .int sc_length, .int sc_next, .int sc_place, .int sc_sort, .ref sc_numbers, .int sc_told])), (sc_bytes, .inl (cI, 150, .inl f_sc_bytes))]
set_option maxHeartbeats 4000000 in
set_option maxRecDepth 100000 in
theorem c_T_takeStop (l : Launch) (D : va_G) (cI cZ cP : ClassId) (sa : Nat → Nat) (sc : Nat) (sc_bytes : Nat) (f_sc_bytes : Nat → Int32) (sc_length : Int32) (sc_next : Int32) (sc_place : Int32) (sc_sort : Int32) (sc_numbers : Nat) (sc_told : Int32) (h_sc_length : rg sc_length 0 150) (h_sc_next : rg sc_next 0 150) (h_sc_place : rg sc_place 0 150) (h_sc_told : rg sc_told 0 6) (sz : Nat) : Met l yX5_takeStop (qW yX5_takeStop cX5_takeStop 1 (some .boolean)) ({ frames := 2, cells := 0, slots := 0, locals := 42 } : Room) (qP D (TY cI cZ cP) sa [.ref sc] (w_T_takeStop cI cZ cP sc sc_bytes f_sc_bytes sc_length sc_next sc_place sc_sort sc_numbers sc_told) sz) (qQi D (w_T_takeStop cI cZ cP sc sc_bytes f_sc_bytes sc_length sc_next sc_place sc_sort sc_numbers sc_told) sz (fun (r : Int32) (u : (Int32) × (Int32) × (Int32)) => rg r 0 1 ∧ rg u.1 0 150 ∧ rg u.2.1 0 150 ∧ rg u.2.2 0 4) (fun u : (Int32) × (Int32) × (Int32) => [(sc, .inr (5, [.ref sc_bytes, .int sc_length, .int u.1, .int u.2.1, .int u.2.2, .ref sc_numbers, .int sc_told])), (sc_bytes, .inl (cI, 150, .inl f_sc_bytes))])) 0 0 (va_A (w_T_takeStop cI cZ cP sc sc_bytes f_sc_bytes sc_length sc_next sc_place sc_sort sc_numbers sc_told) sz) := by
  refine q_enter (by decide) (Nat.le_of_ble_eq_true rfl) ?_
  intro p e s m below meth c ls hX hr hlk hnm hE hK hP hD hS hA hl
  obtain ⟨hx, hb, hml, hown, ht⟩ := id hX
  have hl : lv_has ls 1 [(0, .ref sc)] := hl
  refine lv_aload_n hx hb dX5_takeStop_0 rfl (lv_at hl 0 rfl) ?_
  refine q_Vv (wr := []) [0, 1] [] hX hE hK hP hD hS hA hl.1 lk_X5_25 (c_T_takeToken l D cI cZ cP sa sc sc_bytes f_sc_bytes sc_length sc_next sc_place sc_sort sc_numbers sc_told h_sc_length h_sc_next h_sc_place h_sc_told _) rfl rfl rfl rfl (by decide) 0 5 rfl rfl rfl rfl (Nat.le_of_ble_eq_true rfl) rfl rfl ⟨Nat.le_of_ble_eq_true rfl, Nat.le_of_ble_eq_true rfl⟩ ⟨Nat.le_of_ble_eq_true rfl, Nat.le_of_ble_eq_true rfl⟩ dX5_takeStop_1 (fun u1 H locs h1 hP hD hS => ?_)
  obtain ⟨u1_0, u1_1, u1_2⟩ := u1
  obtain ⟨k1_u1_0, k1_u1_1, k1_u1_2⟩ := h1
  have hP : va_P D vwCl [(sc, .inr (5, [.ref sc_bytes, .int sc_length, .int u1_0, .int u1_1, .int u1_2, .ref sc_numbers, .int sc_told])), (sc_bytes, .inl (cI, 150, .inl f_sc_bytes))] H := hP
  have hD : va_D (va_A (w_T_takeStop cI cZ cP sc sc_bytes f_sc_bytes sc_length sc_next sc_place sc_sort sc_numbers sc_told) sz) [(sc, .inr (5, [.ref sc_bytes, .int sc_length, .int u1_0, .int u1_1, .int u1_2, .ref sc_numbers, .int sc_told])), (sc_bytes, .inl (cI, 150, .inl f_sc_bytes))] := hD
  refine lv_aload_n hx hb dX5_takeStop_4 rfl (lv_at hl 0 rfl) ?_
  refine va_get (D := D) (ci := 5) (v := .int u1_2) (C := RX5) (T := TX5) (N := 7) hx hb ht inX5 hown hK hP 0 rfl rfl 4 (Nat.le_of_ble_eq_true rfl) (ht _ kw_214) (fun _ h9 => h9) rfl dX5_takeStop_5 ?_
  refine lv_iconst (v := 3) hx hb dX5_takeStop_8 (by decide) ?_
  refine lv_icmp_ne (tgt := 16) hx hb dX5_takeStop_9 (by decide) (fun c9 => ?_) (fun c9 => ?_)
  · refine lv_iconst (v := 0) hx hb dX5_takeStop_16 (by decide) ?_
    exact q_zret hX hr hlk (by decide) (u1_0, u1_1, u1_2) ⟨(rg_w (rg_of (by decide) : rg (0 : Int32) 0 0) (by decide)), k1_u1_0, k1_u1_1, k1_u1_2⟩ hP hD hS dX5_takeStop_17
  · have r9fa : rg u1_2 3 3 := rg_eqL c9 k1_u1_2 (rg_of (by decide) : rg (3 : Int32) 3 3) (by decide)
    refine lv_iconst (v := 1) hx hb dX5_takeStop_12 (by decide) ?_
    refine lv_goto (tgt := 17) hx hb dX5_takeStop_13 (by decide) ?_
    exact q_zret hX hr hlk (by decide) (u1_0, u1_1, u1_2) ⟨(rg_w (rg_of (by decide) : rg (1 : Int32) 1 1) (by decide)), k1_u1_0, k1_u1_1, (rg_w r9fa (by decide))⟩ hP hD hS dX5_takeStop_17
abbrev w_longestFrom (cI cZ cP : ClassId) (p0 : Int32) : va_W := []
set_option maxHeartbeats 4000000 in
set_option maxRecDepth 100000 in
theorem c_longestFrom (l : Launch) (D : va_G) (cI cZ cP : ClassId) (sa : Nat → Nat) (p0 : Int32) (h_p0 : rg p0 0 63) (sz : Nat) : Met l yX6_longestFrom (qW yX6_longestFrom cX6_longestFrom 1 (some .int)) ({ frames := 1, cells := 0, slots := 0, locals := 13 } : Room) (qP D (TY cI cZ cP) sa [.int p0] (w_longestFrom cI cZ cP p0) sz) (qQi D (w_longestFrom cI cZ cP p0) sz (fun (r : Int32) (u : Unit) => rg r 1 8) (fun u : Unit => [])) 0 0 (va_A (w_longestFrom cI cZ cP p0) sz) := by
  refine q_enter (by decide) (Nat.le_of_ble_eq_true rfl) ?_
  intro p e s m below meth c ls hX hr hlk hnm hE hK hP hD hS hA hl
  obtain ⟨hx, hb, hml, hown, ht⟩ := id hX
  have hl : lv_has ls 1 [(0, .int p0)] := hl
  refine lv_bipush (v := 8) hx hb dX6_longestFrom_0 (by decide) ?_
  refine lv_bipush (v := 64) hx hb dX6_longestFrom_2 (by decide) ?_
  refine lv_iload_n hx hb dX6_longestFrom_4 rfl (lv_at hl 0 rfl) ?_
  refine lv_isub hx hb dX6_longestFrom_5 ?_
  refine lv_topi (fun v5 e_v5 => ?_)
  obtain ⟨r_v5, q_v5⟩ := rg_sub (l := 1) (h := 64) e_v5 (rg_of (by decide) : rg (64 : Int32) 64 64) h_p0 (by decide)
  refine va_mmin hx hb (hml.trans hl.1.symm) hown (ht _ (mem_tb 414 rfl rfl)) (ht _ (mem_tb 415 rfl rfl)) (ht _ (mem_tb 96 rfl rfl)) (ht _ (mem_tb 416 rfl rfl)) (Nat.le_of_ble_eq_true rfl) (Nat.le_of_ble_eq_true rfl) (Nat.zero_le _) (Nat.zero_le _) dX6_longestFrom_6 ?_
  refine lv_topi (fun v6 e_v6 => ?_)
  have r_v6 : rg v6 1 8 := rg_min e_v6 r_v5 (rg_of (by decide) : rg (8 : Int32) 8 8) (by decide)
  exact q_iret hX hr hlk () r_v6 hP hD hS dX6_longestFrom_9
abbrev w_T_num_0_0_9_0 (cI cZ cP : ClassId) (sc : Nat) (sc_bytes : Nat) (f_sc_bytes : Nat → Int32) (sc_length : Int32) (sc_next : Int32) (sc_place : Int32) (sc_sort : Int32) (sc_numbers : Nat) (f_sc_numbers : Nat → Int32) : va_W := [(sc, .inr (5, [.ref sc_bytes, .int sc_length, .int sc_next, .int sc_place, .int sc_sort, .ref sc_numbers, .int 0])), (sc_bytes, .inl (cI, 150, .inl f_sc_bytes)), (sc_numbers, .inl (cI, 6, .inl f_sc_numbers))]
set_option maxHeartbeats 4000000 in
set_option maxRecDepth 100000 in
theorem c_T_num_0_0_9_0 (l : Launch) (D : va_G) (cI cZ cP : ClassId) (sa : Nat → Nat) (sc : Nat) (sc_bytes : Nat) (f_sc_bytes : Nat → Int32) (sc_length : Int32) (sc_next : Int32) (sc_place : Int32) (sc_sort : Int32) (sc_numbers : Nat) (f_sc_numbers : Nat → Int32) (h_sc_length : rg sc_length 0 150) (h_sc_next : rg sc_next 0 150) (h_sc_place : rg sc_place 0 150) (sz : Nat) : Met l yX5_takeNumber (qW yX5_takeNumber cX5_takeNumber 4 (some .boolean)) ({ frames := 2, cells := 0, slots := 0, locals := 42 } : Room) (qP D (TY cI cZ cP) sa [.ref sc, .int 0, .int 9] (w_T_num_0_0_9_0 cI cZ cP sc sc_bytes f_sc_bytes sc_length sc_next sc_place sc_sort sc_numbers f_sc_numbers) sz) (qQi D (w_T_num_0_0_9_0 cI cZ cP sc sc_bytes f_sc_bytes sc_length sc_next sc_place sc_sort sc_numbers f_sc_numbers) sz (fun (r : Int32) (u : (Int32) × (Int32) × (Int32) × (Int32) × (Nat → Int32)) => (r = 0 ∨ (r = 1 ∧ u.2.2.2.1 = 1)) ∧ rg u.1 0 150 ∧ rg u.2.1 0 150 ∧ rg u.2.2.1 0 4 ∧ rg u.2.2.2.1 0 1) (fun u : (Int32) × (Int32) × (Int32) × (Int32) × (Nat → Int32) => [(sc, .inr (5, [.ref sc_bytes, .int sc_length, .int u.1, .int u.2.1, .int u.2.2.1, .ref sc_numbers, .int u.2.2.2.1])), (sc_bytes, .inl (cI, 150, .inl f_sc_bytes)), (sc_numbers, .inl (cI, 6, .inl u.2.2.2.2))])) 0 0 (va_A (w_T_num_0_0_9_0 cI cZ cP sc sc_bytes f_sc_bytes sc_length sc_next sc_place sc_sort sc_numbers f_sc_numbers) sz) := by
  refine q_enter (by decide) (Nat.le_of_ble_eq_true rfl) ?_
  intro p e s m below meth c ls hX hr hlk hnm hE hK hP hD hS hA hl
  obtain ⟨hx, hb, hml, hown, ht⟩ := id hX
  have hl : lv_has ls 4 [(0, .ref sc), (1, .int 0), (2, .int 9)] := hl
  have jp_27 : ∀ (x5 : Int32) (u1_0 : Int32) (u1_1 : Int32) (u1_2 : Int32), rg sc_length 0 150 → rg u1_0 0 150 → rg u1_1 0 150 → rg u1_2 0 4 → ¬ (0 ≤ x5 ∧ x5 ≤ 9) → ∀ (H : Heap) (locs : List Loc) (ls : Array Slot), va_P D vwCl [(sc_numbers, .inl (cI, 6, .inl f_sc_numbers)), (sc, .inr (5, [.ref sc_bytes, .int sc_length, .int u1_0, .int u1_1, .int u1_2, .ref sc_numbers, .int 0])), (sc_bytes, .inl (cI, 150, .inl f_sc_bytes))] H → va_D (va_A (w_T_num_0_0_9_0 cI cZ cP sc sc_bytes f_sc_bytes sc_length sc_next sc_place sc_sort sc_numbers f_sc_numbers) sz) [(sc_numbers, .inl (cI, 6, .inl f_sc_numbers)), (sc, .inr (5, [.ref sc_bytes, .int sc_length, .int u1_0, .int u1_1, .int u1_2, .ref sc_numbers, .int 0])), (sc_bytes, .inl (cI, 150, .inl f_sc_bytes))] → va_S (va_A (w_T_num_0_0_9_0 cI cZ cP sc sc_bytes f_sc_bytes sc_length sc_next sc_place sc_sort sc_numbers f_sc_numbers) sz) s.heap H locs → lv_has ls 4 [(0, .ref sc), (1, .int 0), (2, .int 9), (3, .int x5)] → W p l e ({ frames := 2, cells := 0, slots := 0, locals := 42 } : Room) s m ([.ref sc, .int 0, .int 9] : List Value).toArray below meth c H locs 0 0 (MQ below (qQi D (w_T_num_0_0_9_0 cI cZ cP sc sc_bytes f_sc_bytes sc_length sc_next sc_place sc_sort sc_numbers f_sc_numbers) sz (fun (r : Int32) (u : (Int32) × (Int32) × (Int32) × (Int32) × (Nat → Int32)) => (r = 0 ∨ (r = 1 ∧ u.2.2.2.1 = 1)) ∧ rg u.1 0 150 ∧ rg u.2.1 0 150 ∧ rg u.2.2.1 0 4 ∧ rg u.2.2.2.1 0 1) (fun u : (Int32) × (Int32) × (Int32) × (Int32) × (Nat → Int32) => [(sc, .inr (5, [.ref sc_bytes, .int sc_length, .int u.1, .int u.2.1, .int u.2.2.1, .ref sc_numbers, .int u.2.2.2.1])), (sc_bytes, .inl (cI, 150, .inl f_sc_bytes)), (sc_numbers, .inl (cI, 6, .inl u.2.2.2.2))])) ([.ref sc, .int 0, .int 9] : List Value).toArray s 0 0 (va_A (w_T_num_0_0_9_0 cI cZ cP sc sc_bytes f_sc_bytes sc_length sc_next sc_place sc_sort sc_numbers f_sc_numbers) sz)) (F0 m 27 ls []) := by
    intro x5 u1_0 u1_1 u1_2 g27_sc_length g27_u1_0 g27_u1_1 g27_u1_2 x27_4 H locs ls hP hD hS hl
    refine lv_iconst (v := 0) hx hb dX5_takeNumber_27 (by decide) ?_
    exact q_zret hX hr hlk (by decide) (u1_0, u1_1, u1_2, 0, f_sc_numbers) ⟨(Or.inl rfl), g27_u1_0, g27_u1_1, g27_u1_2, (rg_w (rg_of (by decide) : rg (0 : Int32) 0 0) (by decide))⟩ (hP.sub [1, 2, 0] rfl) (hD.sub [1, 2, 0] (by decide) rfl) hS dX5_takeNumber_28
  refine lv_aload_n hx hb dX5_takeNumber_0 rfl (lv_at hl 0 rfl) ?_
  refine q_Vv (wr := [(sc_numbers, .inl (cI, 6, .inl f_sc_numbers))]) [0, 1] [2] hX hE hK hP hD hS hA hl.1 lk_X5_25 (c_T_takeToken l D cI cZ cP sa sc sc_bytes f_sc_bytes sc_length sc_next sc_place sc_sort sc_numbers 0 h_sc_length h_sc_next h_sc_place (rg_w (rg_of (by decide) : rg (0 : Int32) 0 0) (by decide)) _) rfl rfl rfl rfl (by decide) 0 5 rfl rfl rfl rfl (Nat.le_of_ble_eq_true rfl) rfl rfl ⟨Nat.le_of_ble_eq_true rfl, Nat.le_of_ble_eq_true rfl⟩ ⟨Nat.le_of_ble_eq_true rfl, Nat.le_of_ble_eq_true rfl⟩ dX5_takeNumber_1 (fun u1 H locs h1 hP hD hS => ?_)
  obtain ⟨u1_0, u1_1, u1_2⟩ := u1
  obtain ⟨k1_u1_0, k1_u1_1, k1_u1_2⟩ := h1
  have hP : va_P D vwCl [(sc_numbers, .inl (cI, 6, .inl f_sc_numbers)), (sc, .inr (5, [.ref sc_bytes, .int sc_length, .int u1_0, .int u1_1, .int u1_2, .ref sc_numbers, .int 0])), (sc_bytes, .inl (cI, 150, .inl f_sc_bytes))] H := hP
  have hD : va_D (va_A (w_T_num_0_0_9_0 cI cZ cP sc sc_bytes f_sc_bytes sc_length sc_next sc_place sc_sort sc_numbers f_sc_numbers) sz) [(sc_numbers, .inl (cI, 6, .inl f_sc_numbers)), (sc, .inr (5, [.ref sc_bytes, .int sc_length, .int u1_0, .int u1_1, .int u1_2, .ref sc_numbers, .int 0])), (sc_bytes, .inl (cI, 150, .inl f_sc_bytes))] := hD
  refine lv_aload_n hx hb dX5_takeNumber_4 rfl (lv_at hl 0 rfl) ?_
  refine q_Vi (wr := [(sc_numbers, .inl (cI, 6, .inl f_sc_numbers))]) [1, 2] [0] hX hE hK hP hD hS hA hl.1 lk_X5_90 (c_T_numberValue l D cI cZ cP sa sc sc_bytes f_sc_bytes sc_length u1_0 u1_1 u1_2 sc_numbers 0 h_sc_length k1_u1_0 k1_u1_1 (rg_w (rg_of (by decide) : rg (0 : Int32) 0 0) (by decide)) _) rfl rfl rfl rfl (by decide) 0 5 rfl rfl rfl rfl (Nat.le_of_ble_eq_true rfl) rfl rfl ⟨Nat.le_of_ble_eq_true rfl, Nat.le_of_ble_eq_true rfl⟩ ⟨Nat.le_of_ble_eq_true rfl, Nat.le_of_ble_eq_true rfl⟩ dX5_takeNumber_5 (fun x5 _ H locs h5 hP hD hS => ?_)
  have hP : va_P D vwCl [(sc_numbers, .inl (cI, 6, .inl f_sc_numbers)), (sc, .inr (5, [.ref sc_bytes, .int sc_length, .int u1_0, .int u1_1, .int u1_2, .ref sc_numbers, .int 0])), (sc_bytes, .inl (cI, 150, .inl f_sc_bytes))] H := hP
  have hD : va_D (va_A (w_T_num_0_0_9_0 cI cZ cP sc sc_bytes f_sc_bytes sc_length sc_next sc_place sc_sort sc_numbers f_sc_numbers) sz) [(sc_numbers, .inl (cI, 6, .inl f_sc_numbers)), (sc, .inr (5, [.ref sc_bytes, .int sc_length, .int u1_0, .int u1_1, .int u1_2, .ref sc_numbers, .int 0])), (sc_bytes, .inl (cI, 150, .inl f_sc_bytes))] := hD
  refine lv_istore_n (lv' := [(3, .int x5), (0, .ref sc), (1, .int 0), (2, .int 9)]) hx hb dX5_takeNumber_8 rfl hl (by decide) rfl (fun ls hl => ?_)
  refine lv_iload_n hx hb dX5_takeNumber_9 rfl (lv_at hl 0 rfl) ?_
  refine lv_iload_n hx hb dX5_takeNumber_10 rfl (lv_at hl 2 rfl) ?_
  refine lv_iload_n hx hb dX5_takeNumber_11 rfl (lv_at hl 3 rfl) ?_
  refine q_SNi (k := 3) (wr := [(sc_numbers, .inl (cI, 6, .inl f_sc_numbers)), (sc, .inr (5, [.ref sc_bytes, .int sc_length, .int u1_0, .int u1_1, .int u1_2, .ref sc_numbers, .int 0])), (sc_bytes, .inl (cI, 150, .inl f_sc_bytes))]) [] [0, 1, 2] hX hE hK hP hD hS hA hl.1 (List.mem_of_getElem? (i := 5) rfl) ⟨mem_tb 386 rfl rfl, mem_tb 87 rfl rfl, (by decide +kernel), mem_tb 385 rfl rfl⟩ (c_within l D cI cZ cP sa x5 0 9 _) rfl rfl rfl rfl (by decide) rfl rfl (Nat.le_of_ble_eq_true rfl) rfl rfl ⟨Nat.le_of_ble_eq_true rfl, Nat.le_of_ble_eq_true rfl⟩ ⟨Nat.le_of_ble_eq_true rfl, Nat.le_of_ble_eq_true rfl⟩ dX5_takeNumber_12 (fun x12 _ H locs h12 hP hD hS => ?_)
  have hP : va_P D vwCl [(sc_numbers, .inl (cI, 6, .inl f_sc_numbers)), (sc, .inr (5, [.ref sc_bytes, .int sc_length, .int u1_0, .int u1_1, .int u1_2, .ref sc_numbers, .int 0])), (sc_bytes, .inl (cI, 150, .inl f_sc_bytes))] H := hP
  have hD : va_D (va_A (w_T_num_0_0_9_0 cI cZ cP sc sc_bytes f_sc_bytes sc_length sc_next sc_place sc_sort sc_numbers f_sc_numbers) sz) [(sc_numbers, .inl (cI, 6, .inl f_sc_numbers)), (sc, .inr (5, [.ref sc_bytes, .int sc_length, .int u1_0, .int u1_1, .int u1_2, .ref sc_numbers, .int 0])), (sc_bytes, .inl (cI, 150, .inl f_sc_bytes))] := hD
  rcases Classical.em (0 ≤ x5 ∧ x5 ≤ 9) with d12 | d12
  · rw [if_pos d12] at h12; subst h12
    have w12ab : rg x5 0 2147483647 := rg_leR d12.1 (rg_of (by decide) : rg (0 : Int32) 0 0) (rg_any x5) (by decide)
    have w12ba : rg x5 0 9 := rg_leL d12.2 w12ab (rg_of (by decide) : rg (9 : Int32) 9 9) (by decide)
    refine lv_if_eq (tgt := 27) hx hb dX5_takeNumber_15 (by decide) (fun c15 => (rg_eqF c15 (rg_of (by decide) : rg (1 : Int32) 1 1) (rg_of (by decide) : rg (0 : Int32) 0 0) (by decide)).elim) (fun c15 => ?_)
    refine lv_aload_n hx hb dX5_takeNumber_18 rfl (lv_at hl 1 rfl) ?_
    refine va_get (D := D) (ci := 5) (v := .int 0) (C := RX5) (T := TX5) (N := 7) hx hb ht inX5 hown hK hP 1 rfl rfl 6 (Nat.le_of_ble_eq_true rfl) (ht _ kw_216) (fun _ h9 => h9) rfl dX5_takeNumber_19 ?_
    refine lv_bipush (v := 6) hx hb dX5_takeNumber_22 (by decide) ?_
    refine lv_icmp_lt (tgt := 29) hx hb dX5_takeNumber_24 (by decide) (fun c24 => ?_) (fun c24 => (rg_leF (Int32.not_lt.mp c24) (rg_of (by decide) : rg (6 : Int32) 6 6) (rg_of (by decide) : rg (0 : Int32) 0 0) (by decide)).elim)
    refine lv_aload_n hx hb dX5_takeNumber_29 rfl (lv_at hl 1 rfl) ?_
    refine va_get (D := D) (ci := 5) (v := .ref sc_numbers) (C := RX5) (T := TX5) (N := 7) hx hb ht inX5 hown hK hP 1 rfl rfl 5 (Nat.le_of_ble_eq_true rfl) (ht _ kw_215) (fun _ h9 => h9) rfl dX5_takeNumber_30 ?_
    refine lv_aload_n hx hb dX5_takeNumber_33 rfl (lv_at hl 1 rfl) ?_
    refine va_get (D := D) (ci := 5) (v := .int 0) (C := RX5) (T := TX5) (N := 7) hx hb ht inX5 hown hK hP 1 rfl rfl 6 (Nat.le_of_ble_eq_true rfl) (ht _ kw_216) (fun _ h9 => h9) rfl dX5_takeNumber_34 ?_
    refine lv_iload_n hx hb dX5_takeNumber_37 rfl (lv_at hl 0 rfl) ?_
    refine va_iast hx hb hK hP hD hS 0 0 rfl rfl (rg_in (rg_of (by decide) : rg (0 : Int32) 0 0) (by decide)) dX5_takeNumber_38 (fun H locs hP hD hS => ?_)
    have hP : va_P D vwCl [(sc_numbers, .inl (cI, 6, .inl (upd f_sc_numbers (0 : Int32).toNatClampNeg x5))), (sc, .inr (5, [.ref sc_bytes, .int sc_length, .int u1_0, .int u1_1, .int u1_2, .ref sc_numbers, .int 0])), (sc_bytes, .inl (cI, 150, .inl f_sc_bytes))] H := hP
    have hD : va_D (va_A (w_T_num_0_0_9_0 cI cZ cP sc sc_bytes f_sc_bytes sc_length sc_next sc_place sc_sort sc_numbers f_sc_numbers) sz) [(sc_numbers, .inl (cI, 6, .inl (upd f_sc_numbers (0 : Int32).toNatClampNeg x5))), (sc, .inr (5, [.ref sc_bytes, .int sc_length, .int u1_0, .int u1_1, .int u1_2, .ref sc_numbers, .int 0])), (sc_bytes, .inl (cI, 150, .inl f_sc_bytes))] := hD
    generalize hf_f38 : (upd f_sc_numbers (0 : Int32).toNatClampNeg x5) = f38 at hP hD
    have hP : va_P D vwCl [(sc_numbers, .inl (cI, 6, .inl f38)), (sc, .inr (5, [.ref sc_bytes, .int sc_length, .int u1_0, .int u1_1, .int u1_2, .ref sc_numbers, .int 0])), (sc_bytes, .inl (cI, 150, .inl f_sc_bytes))] H := hP
    have hD : va_D (va_A (w_T_num_0_0_9_0 cI cZ cP sc sc_bytes f_sc_bytes sc_length sc_next sc_place sc_sort sc_numbers f_sc_numbers) sz) [(sc_numbers, .inl (cI, 6, .inl f38)), (sc, .inr (5, [.ref sc_bytes, .int sc_length, .int u1_0, .int u1_1, .int u1_2, .ref sc_numbers, .int 0])), (sc_bytes, .inl (cI, 150, .inl f_sc_bytes))] := hD
    refine lv_aload_n hx hb dX5_takeNumber_39 rfl (lv_at hl 1 rfl) ?_
    refine lv_dup hx hb dX5_takeNumber_40 rfl ?_
    refine va_get (D := D) (ci := 5) (v := .int 0) (C := RX5) (T := TX5) (N := 7) hx hb ht inX5 hown hK hP 1 rfl rfl 6 (Nat.le_of_ble_eq_true rfl) (ht _ kw_216) (fun _ h9 => h9) rfl dX5_takeNumber_41 ?_
    refine lv_iconst (v := 1) hx hb dX5_takeNumber_44 (by decide) ?_
    refine lv_iadd hx hb dX5_takeNumber_45 ?_
    refine q_i (z := 1) (by decide) ?_
    refine va_put (D := D) (ci := 5) (v := .int 1) (ty := .int) (C := RX5) (T := TX5) (N := 7) hx hb ht inX5 tyX5 tyX5_ok nmX5 hown hK hP hD hS 1 rfl rfl 6 (Nat.le_of_ble_eq_true rfl) (ht _ kw_216) (fun _ h9 => h9) rfl (by decide +kernel) rfl rfl (Nat.le_of_ble_eq_true rfl) dX5_takeNumber_46 (fun H locs hP hD hS => ?_)
    have hP : va_P D vwCl [(sc_numbers, .inl (cI, 6, .inl f38)), (sc, .inr (5, [.ref sc_bytes, .int sc_length, .int u1_0, .int u1_1, .int u1_2, .ref sc_numbers, .int 1])), (sc_bytes, .inl (cI, 150, .inl f_sc_bytes))] H := hP
    have hD : va_D (va_A (w_T_num_0_0_9_0 cI cZ cP sc sc_bytes f_sc_bytes sc_length sc_next sc_place sc_sort sc_numbers f_sc_numbers) sz) [(sc_numbers, .inl (cI, 6, .inl f38)), (sc, .inr (5, [.ref sc_bytes, .int sc_length, .int u1_0, .int u1_1, .int u1_2, .ref sc_numbers, .int 1])), (sc_bytes, .inl (cI, 150, .inl f_sc_bytes))] := hD
    refine lv_iconst (v := 1) hx hb dX5_takeNumber_49 (by decide) ?_
    exact q_zret hX hr hlk (by decide) (u1_0, u1_1, u1_2, 1, f38) ⟨(Or.inr ⟨rfl, rfl⟩), k1_u1_0, k1_u1_1, k1_u1_2, (rg_w (rg_of (by decide) : rg (1 : Int32) 1 1) (by decide))⟩ (hP.sub [1, 2, 0] rfl) (hD.sub [1, 2, 0] (by decide) rfl) hS dX5_takeNumber_50
  · rw [if_neg d12] at h12; subst h12
    refine lv_if_eq (tgt := 27) hx hb dX5_takeNumber_15 (by decide) (fun c15 => ?_) (fun c15 => absurd rfl c15)
    exact jp_27 x5 u1_0 u1_1 u1_2 h_sc_length k1_u1_0 k1_u1_1 k1_u1_2 d12 _ _ _ hP hD hS (lv_sub hl [1, 2, 3, 0] rfl)
abbrev w_T_num_0_0_3_0 (cI cZ cP : ClassId) (sc : Nat) (sc_bytes : Nat) (f_sc_bytes : Nat → Int32) (sc_length : Int32) (sc_next : Int32) (sc_place : Int32) (sc_sort : Int32) (sc_numbers : Nat) (f_sc_numbers : Nat → Int32) : va_W := [(sc, .inr (5, [.ref sc_bytes, .int sc_length, .int sc_next, .int sc_place, .int sc_sort, .ref sc_numbers, .int 0])), (sc_bytes, .inl (cI, 150, .inl f_sc_bytes)), (sc_numbers, .inl (cI, 6, .inl f_sc_numbers))]
set_option maxHeartbeats 4000000 in
set_option maxRecDepth 100000 in
theorem c_T_num_0_0_3_0 (l : Launch) (D : va_G) (cI cZ cP : ClassId) (sa : Nat → Nat) (sc : Nat) (sc_bytes : Nat) (f_sc_bytes : Nat → Int32) (sc_length : Int32) (sc_next : Int32) (sc_place : Int32) (sc_sort : Int32) (sc_numbers : Nat) (f_sc_numbers : Nat → Int32) (h_sc_length : rg sc_length 0 150) (h_sc_next : rg sc_next 0 150) (h_sc_place : rg sc_place 0 150) (sz : Nat) : Met l yX5_takeNumber (qW yX5_takeNumber cX5_takeNumber 4 (some .boolean)) ({ frames := 2, cells := 0, slots := 0, locals := 42 } : Room) (qP D (TY cI cZ cP) sa [.ref sc, .int 0, .int 3] (w_T_num_0_0_3_0 cI cZ cP sc sc_bytes f_sc_bytes sc_length sc_next sc_place sc_sort sc_numbers f_sc_numbers) sz) (qQi D (w_T_num_0_0_3_0 cI cZ cP sc sc_bytes f_sc_bytes sc_length sc_next sc_place sc_sort sc_numbers f_sc_numbers) sz (fun (r : Int32) (u : (Int32) × (Int32) × (Int32) × (Int32) × (Nat → Int32)) => (r = 0 ∨ (r = 1 ∧ u.2.2.2.1 = 1 ∧ okV [(0, 0, 3)] u.2.2.2.2)) ∧ rg u.1 0 150 ∧ rg u.2.1 0 150 ∧ rg u.2.2.1 0 4 ∧ rg u.2.2.2.1 0 1) (fun u : (Int32) × (Int32) × (Int32) × (Int32) × (Nat → Int32) => [(sc, .inr (5, [.ref sc_bytes, .int sc_length, .int u.1, .int u.2.1, .int u.2.2.1, .ref sc_numbers, .int u.2.2.2.1])), (sc_bytes, .inl (cI, 150, .inl f_sc_bytes)), (sc_numbers, .inl (cI, 6, .inl u.2.2.2.2))])) 0 0 (va_A (w_T_num_0_0_3_0 cI cZ cP sc sc_bytes f_sc_bytes sc_length sc_next sc_place sc_sort sc_numbers f_sc_numbers) sz) := by
  refine q_enter (by decide) (Nat.le_of_ble_eq_true rfl) ?_
  intro p e s m below meth c ls hX hr hlk hnm hE hK hP hD hS hA hl
  obtain ⟨hx, hb, hml, hown, ht⟩ := id hX
  have hl : lv_has ls 4 [(0, .ref sc), (1, .int 0), (2, .int 3)] := hl
  have jp_27 : ∀ (x5 : Int32) (u1_0 : Int32) (u1_1 : Int32) (u1_2 : Int32), rg sc_length 0 150 → rg u1_0 0 150 → rg u1_1 0 150 → rg u1_2 0 4 → ¬ (0 ≤ x5 ∧ x5 ≤ 3) → ∀ (H : Heap) (locs : List Loc) (ls : Array Slot), va_P D vwCl [(sc_numbers, .inl (cI, 6, .inl f_sc_numbers)), (sc, .inr (5, [.ref sc_bytes, .int sc_length, .int u1_0, .int u1_1, .int u1_2, .ref sc_numbers, .int 0])), (sc_bytes, .inl (cI, 150, .inl f_sc_bytes))] H → va_D (va_A (w_T_num_0_0_3_0 cI cZ cP sc sc_bytes f_sc_bytes sc_length sc_next sc_place sc_sort sc_numbers f_sc_numbers) sz) [(sc_numbers, .inl (cI, 6, .inl f_sc_numbers)), (sc, .inr (5, [.ref sc_bytes, .int sc_length, .int u1_0, .int u1_1, .int u1_2, .ref sc_numbers, .int 0])), (sc_bytes, .inl (cI, 150, .inl f_sc_bytes))] → va_S (va_A (w_T_num_0_0_3_0 cI cZ cP sc sc_bytes f_sc_bytes sc_length sc_next sc_place sc_sort sc_numbers f_sc_numbers) sz) s.heap H locs → lv_has ls 4 [(0, .ref sc), (1, .int 0), (2, .int 3), (3, .int x5)] → W p l e ({ frames := 2, cells := 0, slots := 0, locals := 42 } : Room) s m ([.ref sc, .int 0, .int 3] : List Value).toArray below meth c H locs 0 0 (MQ below (qQi D (w_T_num_0_0_3_0 cI cZ cP sc sc_bytes f_sc_bytes sc_length sc_next sc_place sc_sort sc_numbers f_sc_numbers) sz (fun (r : Int32) (u : (Int32) × (Int32) × (Int32) × (Int32) × (Nat → Int32)) => (r = 0 ∨ (r = 1 ∧ u.2.2.2.1 = 1 ∧ okV [(0, 0, 3)] u.2.2.2.2)) ∧ rg u.1 0 150 ∧ rg u.2.1 0 150 ∧ rg u.2.2.1 0 4 ∧ rg u.2.2.2.1 0 1) (fun u : (Int32) × (Int32) × (Int32) × (Int32) × (Nat → Int32) => [(sc, .inr (5, [.ref sc_bytes, .int sc_length, .int u.1, .int u.2.1, .int u.2.2.1, .ref sc_numbers, .int u.2.2.2.1])), (sc_bytes, .inl (cI, 150, .inl f_sc_bytes)), (sc_numbers, .inl (cI, 6, .inl u.2.2.2.2))])) ([.ref sc, .int 0, .int 3] : List Value).toArray s 0 0 (va_A (w_T_num_0_0_3_0 cI cZ cP sc sc_bytes f_sc_bytes sc_length sc_next sc_place sc_sort sc_numbers f_sc_numbers) sz)) (F0 m 27 ls []) := by
    intro x5 u1_0 u1_1 u1_2 g27_sc_length g27_u1_0 g27_u1_1 g27_u1_2 x27_4 H locs ls hP hD hS hl
    refine lv_iconst (v := 0) hx hb dX5_takeNumber_27 (by decide) ?_
    exact q_zret hX hr hlk (by decide) (u1_0, u1_1, u1_2, 0, f_sc_numbers) ⟨(Or.inl rfl), g27_u1_0, g27_u1_1, g27_u1_2, (rg_w (rg_of (by decide) : rg (0 : Int32) 0 0) (by decide))⟩ (hP.sub [1, 2, 0] rfl) (hD.sub [1, 2, 0] (by decide) rfl) hS dX5_takeNumber_28
  refine lv_aload_n hx hb dX5_takeNumber_0 rfl (lv_at hl 0 rfl) ?_
  refine q_Vv (wr := [(sc_numbers, .inl (cI, 6, .inl f_sc_numbers))]) [0, 1] [2] hX hE hK hP hD hS hA hl.1 lk_X5_25 (c_T_takeToken l D cI cZ cP sa sc sc_bytes f_sc_bytes sc_length sc_next sc_place sc_sort sc_numbers 0 h_sc_length h_sc_next h_sc_place (rg_w (rg_of (by decide) : rg (0 : Int32) 0 0) (by decide)) _) rfl rfl rfl rfl (by decide) 0 5 rfl rfl rfl rfl (Nat.le_of_ble_eq_true rfl) rfl rfl ⟨Nat.le_of_ble_eq_true rfl, Nat.le_of_ble_eq_true rfl⟩ ⟨Nat.le_of_ble_eq_true rfl, Nat.le_of_ble_eq_true rfl⟩ dX5_takeNumber_1 (fun u1 H locs h1 hP hD hS => ?_)
  obtain ⟨u1_0, u1_1, u1_2⟩ := u1
  obtain ⟨k1_u1_0, k1_u1_1, k1_u1_2⟩ := h1
  have hP : va_P D vwCl [(sc_numbers, .inl (cI, 6, .inl f_sc_numbers)), (sc, .inr (5, [.ref sc_bytes, .int sc_length, .int u1_0, .int u1_1, .int u1_2, .ref sc_numbers, .int 0])), (sc_bytes, .inl (cI, 150, .inl f_sc_bytes))] H := hP
  have hD : va_D (va_A (w_T_num_0_0_3_0 cI cZ cP sc sc_bytes f_sc_bytes sc_length sc_next sc_place sc_sort sc_numbers f_sc_numbers) sz) [(sc_numbers, .inl (cI, 6, .inl f_sc_numbers)), (sc, .inr (5, [.ref sc_bytes, .int sc_length, .int u1_0, .int u1_1, .int u1_2, .ref sc_numbers, .int 0])), (sc_bytes, .inl (cI, 150, .inl f_sc_bytes))] := hD
  refine lv_aload_n hx hb dX5_takeNumber_4 rfl (lv_at hl 0 rfl) ?_
  refine q_Vi (wr := [(sc_numbers, .inl (cI, 6, .inl f_sc_numbers))]) [1, 2] [0] hX hE hK hP hD hS hA hl.1 lk_X5_90 (c_T_numberValue l D cI cZ cP sa sc sc_bytes f_sc_bytes sc_length u1_0 u1_1 u1_2 sc_numbers 0 h_sc_length k1_u1_0 k1_u1_1 (rg_w (rg_of (by decide) : rg (0 : Int32) 0 0) (by decide)) _) rfl rfl rfl rfl (by decide) 0 5 rfl rfl rfl rfl (Nat.le_of_ble_eq_true rfl) rfl rfl ⟨Nat.le_of_ble_eq_true rfl, Nat.le_of_ble_eq_true rfl⟩ ⟨Nat.le_of_ble_eq_true rfl, Nat.le_of_ble_eq_true rfl⟩ dX5_takeNumber_5 (fun x5 _ H locs h5 hP hD hS => ?_)
  have hP : va_P D vwCl [(sc_numbers, .inl (cI, 6, .inl f_sc_numbers)), (sc, .inr (5, [.ref sc_bytes, .int sc_length, .int u1_0, .int u1_1, .int u1_2, .ref sc_numbers, .int 0])), (sc_bytes, .inl (cI, 150, .inl f_sc_bytes))] H := hP
  have hD : va_D (va_A (w_T_num_0_0_3_0 cI cZ cP sc sc_bytes f_sc_bytes sc_length sc_next sc_place sc_sort sc_numbers f_sc_numbers) sz) [(sc_numbers, .inl (cI, 6, .inl f_sc_numbers)), (sc, .inr (5, [.ref sc_bytes, .int sc_length, .int u1_0, .int u1_1, .int u1_2, .ref sc_numbers, .int 0])), (sc_bytes, .inl (cI, 150, .inl f_sc_bytes))] := hD
  refine lv_istore_n (lv' := [(3, .int x5), (0, .ref sc), (1, .int 0), (2, .int 3)]) hx hb dX5_takeNumber_8 rfl hl (by decide) rfl (fun ls hl => ?_)
  refine lv_iload_n hx hb dX5_takeNumber_9 rfl (lv_at hl 0 rfl) ?_
  refine lv_iload_n hx hb dX5_takeNumber_10 rfl (lv_at hl 2 rfl) ?_
  refine lv_iload_n hx hb dX5_takeNumber_11 rfl (lv_at hl 3 rfl) ?_
  refine q_SNi (k := 3) (wr := [(sc_numbers, .inl (cI, 6, .inl f_sc_numbers)), (sc, .inr (5, [.ref sc_bytes, .int sc_length, .int u1_0, .int u1_1, .int u1_2, .ref sc_numbers, .int 0])), (sc_bytes, .inl (cI, 150, .inl f_sc_bytes))]) [] [0, 1, 2] hX hE hK hP hD hS hA hl.1 (List.mem_of_getElem? (i := 5) rfl) ⟨mem_tb 386 rfl rfl, mem_tb 87 rfl rfl, (by decide +kernel), mem_tb 385 rfl rfl⟩ (c_within l D cI cZ cP sa x5 0 3 _) rfl rfl rfl rfl (by decide) rfl rfl (Nat.le_of_ble_eq_true rfl) rfl rfl ⟨Nat.le_of_ble_eq_true rfl, Nat.le_of_ble_eq_true rfl⟩ ⟨Nat.le_of_ble_eq_true rfl, Nat.le_of_ble_eq_true rfl⟩ dX5_takeNumber_12 (fun x12 _ H locs h12 hP hD hS => ?_)
  have hP : va_P D vwCl [(sc_numbers, .inl (cI, 6, .inl f_sc_numbers)), (sc, .inr (5, [.ref sc_bytes, .int sc_length, .int u1_0, .int u1_1, .int u1_2, .ref sc_numbers, .int 0])), (sc_bytes, .inl (cI, 150, .inl f_sc_bytes))] H := hP
  have hD : va_D (va_A (w_T_num_0_0_3_0 cI cZ cP sc sc_bytes f_sc_bytes sc_length sc_next sc_place sc_sort sc_numbers f_sc_numbers) sz) [(sc_numbers, .inl (cI, 6, .inl f_sc_numbers)), (sc, .inr (5, [.ref sc_bytes, .int sc_length, .int u1_0, .int u1_1, .int u1_2, .ref sc_numbers, .int 0])), (sc_bytes, .inl (cI, 150, .inl f_sc_bytes))] := hD
  rcases Classical.em (0 ≤ x5 ∧ x5 ≤ 3) with d12 | d12
  · rw [if_pos d12] at h12; subst h12
    have w12ab : rg x5 0 2147483647 := rg_leR d12.1 (rg_of (by decide) : rg (0 : Int32) 0 0) (rg_any x5) (by decide)
    have w12ba : rg x5 0 3 := rg_leL d12.2 w12ab (rg_of (by decide) : rg (3 : Int32) 3 3) (by decide)
    refine lv_if_eq (tgt := 27) hx hb dX5_takeNumber_15 (by decide) (fun c15 => (rg_eqF c15 (rg_of (by decide) : rg (1 : Int32) 1 1) (rg_of (by decide) : rg (0 : Int32) 0 0) (by decide)).elim) (fun c15 => ?_)
    refine lv_aload_n hx hb dX5_takeNumber_18 rfl (lv_at hl 1 rfl) ?_
    refine va_get (D := D) (ci := 5) (v := .int 0) (C := RX5) (T := TX5) (N := 7) hx hb ht inX5 hown hK hP 1 rfl rfl 6 (Nat.le_of_ble_eq_true rfl) (ht _ kw_216) (fun _ h9 => h9) rfl dX5_takeNumber_19 ?_
    refine lv_bipush (v := 6) hx hb dX5_takeNumber_22 (by decide) ?_
    refine lv_icmp_lt (tgt := 29) hx hb dX5_takeNumber_24 (by decide) (fun c24 => ?_) (fun c24 => (rg_leF (Int32.not_lt.mp c24) (rg_of (by decide) : rg (6 : Int32) 6 6) (rg_of (by decide) : rg (0 : Int32) 0 0) (by decide)).elim)
    refine lv_aload_n hx hb dX5_takeNumber_29 rfl (lv_at hl 1 rfl) ?_
    refine va_get (D := D) (ci := 5) (v := .ref sc_numbers) (C := RX5) (T := TX5) (N := 7) hx hb ht inX5 hown hK hP 1 rfl rfl 5 (Nat.le_of_ble_eq_true rfl) (ht _ kw_215) (fun _ h9 => h9) rfl dX5_takeNumber_30 ?_
    refine lv_aload_n hx hb dX5_takeNumber_33 rfl (lv_at hl 1 rfl) ?_
    refine va_get (D := D) (ci := 5) (v := .int 0) (C := RX5) (T := TX5) (N := 7) hx hb ht inX5 hown hK hP 1 rfl rfl 6 (Nat.le_of_ble_eq_true rfl) (ht _ kw_216) (fun _ h9 => h9) rfl dX5_takeNumber_34 ?_
    refine lv_iload_n hx hb dX5_takeNumber_37 rfl (lv_at hl 0 rfl) ?_
    refine va_iast hx hb hK hP hD hS 0 0 rfl rfl (rg_in (rg_of (by decide) : rg (0 : Int32) 0 0) (by decide)) dX5_takeNumber_38 (fun H locs hP hD hS => ?_)
    have hP : va_P D vwCl [(sc_numbers, .inl (cI, 6, .inl (upd f_sc_numbers (0 : Int32).toNatClampNeg x5))), (sc, .inr (5, [.ref sc_bytes, .int sc_length, .int u1_0, .int u1_1, .int u1_2, .ref sc_numbers, .int 0])), (sc_bytes, .inl (cI, 150, .inl f_sc_bytes))] H := hP
    have hD : va_D (va_A (w_T_num_0_0_3_0 cI cZ cP sc sc_bytes f_sc_bytes sc_length sc_next sc_place sc_sort sc_numbers f_sc_numbers) sz) [(sc_numbers, .inl (cI, 6, .inl (upd f_sc_numbers (0 : Int32).toNatClampNeg x5))), (sc, .inr (5, [.ref sc_bytes, .int sc_length, .int u1_0, .int u1_1, .int u1_2, .ref sc_numbers, .int 0])), (sc_bytes, .inl (cI, 150, .inl f_sc_bytes))] := hD
    generalize hf_f38 : (upd f_sc_numbers (0 : Int32).toNatClampNeg x5) = f38 at hP hD
    have ov_f38 : okV [(0, 0, 3)] f38 := hf_f38 ▸ okV_upd (okV_0 f_sc_numbers) w12ba (by decide)
    have hP : va_P D vwCl [(sc_numbers, .inl (cI, 6, .inl f38)), (sc, .inr (5, [.ref sc_bytes, .int sc_length, .int u1_0, .int u1_1, .int u1_2, .ref sc_numbers, .int 0])), (sc_bytes, .inl (cI, 150, .inl f_sc_bytes))] H := hP
    have hD : va_D (va_A (w_T_num_0_0_3_0 cI cZ cP sc sc_bytes f_sc_bytes sc_length sc_next sc_place sc_sort sc_numbers f_sc_numbers) sz) [(sc_numbers, .inl (cI, 6, .inl f38)), (sc, .inr (5, [.ref sc_bytes, .int sc_length, .int u1_0, .int u1_1, .int u1_2, .ref sc_numbers, .int 0])), (sc_bytes, .inl (cI, 150, .inl f_sc_bytes))] := hD
    refine lv_aload_n hx hb dX5_takeNumber_39 rfl (lv_at hl 1 rfl) ?_
    refine lv_dup hx hb dX5_takeNumber_40 rfl ?_
    refine va_get (D := D) (ci := 5) (v := .int 0) (C := RX5) (T := TX5) (N := 7) hx hb ht inX5 hown hK hP 1 rfl rfl 6 (Nat.le_of_ble_eq_true rfl) (ht _ kw_216) (fun _ h9 => h9) rfl dX5_takeNumber_41 ?_
    refine lv_iconst (v := 1) hx hb dX5_takeNumber_44 (by decide) ?_
    refine lv_iadd hx hb dX5_takeNumber_45 ?_
    refine q_i (z := 1) (by decide) ?_
    refine va_put (D := D) (ci := 5) (v := .int 1) (ty := .int) (C := RX5) (T := TX5) (N := 7) hx hb ht inX5 tyX5 tyX5_ok nmX5 hown hK hP hD hS 1 rfl rfl 6 (Nat.le_of_ble_eq_true rfl) (ht _ kw_216) (fun _ h9 => h9) rfl (by decide +kernel) rfl rfl (Nat.le_of_ble_eq_true rfl) dX5_takeNumber_46 (fun H locs hP hD hS => ?_)
    have hP : va_P D vwCl [(sc_numbers, .inl (cI, 6, .inl f38)), (sc, .inr (5, [.ref sc_bytes, .int sc_length, .int u1_0, .int u1_1, .int u1_2, .ref sc_numbers, .int 1])), (sc_bytes, .inl (cI, 150, .inl f_sc_bytes))] H := hP
    have hD : va_D (va_A (w_T_num_0_0_3_0 cI cZ cP sc sc_bytes f_sc_bytes sc_length sc_next sc_place sc_sort sc_numbers f_sc_numbers) sz) [(sc_numbers, .inl (cI, 6, .inl f38)), (sc, .inr (5, [.ref sc_bytes, .int sc_length, .int u1_0, .int u1_1, .int u1_2, .ref sc_numbers, .int 1])), (sc_bytes, .inl (cI, 150, .inl f_sc_bytes))] := hD
    refine lv_iconst (v := 1) hx hb dX5_takeNumber_49 (by decide) ?_
    exact q_zret hX hr hlk (by decide) (u1_0, u1_1, u1_2, 1, f38) ⟨(Or.inr ⟨rfl, rfl, ov_f38⟩), k1_u1_0, k1_u1_1, k1_u1_2, (rg_w (rg_of (by decide) : rg (1 : Int32) 1 1) (by decide))⟩ (hP.sub [1, 2, 0] rfl) (hD.sub [1, 2, 0] (by decide) rfl) hS dX5_takeNumber_50
  · rw [if_neg d12] at h12; subst h12
    refine lv_if_eq (tgt := 27) hx hb dX5_takeNumber_15 (by decide) (fun c15 => ?_) (fun c15 => absurd rfl c15)
    exact jp_27 x5 u1_0 u1_1 u1_2 h_sc_length k1_u1_0 k1_u1_1 k1_u1_2 d12 _ _ _ hP hD hS (lv_sub hl [1, 2, 3, 0] rfl)
abbrev w_T_num_1_0_5_1 (cI cZ cP : ClassId) (sc : Nat) (sc_bytes : Nat) (f_sc_bytes : Nat → Int32) (sc_length : Int32) (sc_next : Int32) (sc_place : Int32) (sc_sort : Int32) (sc_numbers : Nat) (f_sc_numbers : Nat → Int32) : va_W := [(sc, .inr (5, [.ref sc_bytes, .int sc_length, .int sc_next, .int sc_place, .int sc_sort, .ref sc_numbers, .int 1])), (sc_bytes, .inl (cI, 150, .inl f_sc_bytes)), (sc_numbers, .inl (cI, 6, .inl f_sc_numbers))]
set_option maxHeartbeats 4000000 in
set_option maxRecDepth 100000 in
theorem c_T_num_1_0_5_1 (l : Launch) (D : va_G) (cI cZ cP : ClassId) (sa : Nat → Nat) (sc : Nat) (sc_bytes : Nat) (f_sc_bytes : Nat → Int32) (sc_length : Int32) (sc_next : Int32) (sc_place : Int32) (sc_sort : Int32) (sc_numbers : Nat) (f_sc_numbers : Nat → Int32) (h_sc_length : rg sc_length 0 150) (h_sc_next : rg sc_next 0 150) (h_sc_place : rg sc_place 0 150) (hx0 : okV [(0, 0, 3)] f_sc_numbers) (sz : Nat) : Met l yX5_takeNumber (qW yX5_takeNumber cX5_takeNumber 4 (some .boolean)) ({ frames := 2, cells := 0, slots := 0, locals := 42 } : Room) (qP D (TY cI cZ cP) sa [.ref sc, .int 0, .int 5] (w_T_num_1_0_5_1 cI cZ cP sc sc_bytes f_sc_bytes sc_length sc_next sc_place sc_sort sc_numbers f_sc_numbers) sz) (qQi D (w_T_num_1_0_5_1 cI cZ cP sc sc_bytes f_sc_bytes sc_length sc_next sc_place sc_sort sc_numbers f_sc_numbers) sz (fun (r : Int32) (u : (Int32) × (Int32) × (Int32) × (Int32) × (Nat → Int32)) => (r = 0 ∨ (r = 1 ∧ u.2.2.2.1 = 2 ∧ okV [(0, 0, 3)] u.2.2.2.2)) ∧ rg u.1 0 150 ∧ rg u.2.1 0 150 ∧ rg u.2.2.1 0 4 ∧ rg u.2.2.2.1 1 2) (fun u : (Int32) × (Int32) × (Int32) × (Int32) × (Nat → Int32) => [(sc, .inr (5, [.ref sc_bytes, .int sc_length, .int u.1, .int u.2.1, .int u.2.2.1, .ref sc_numbers, .int u.2.2.2.1])), (sc_bytes, .inl (cI, 150, .inl f_sc_bytes)), (sc_numbers, .inl (cI, 6, .inl u.2.2.2.2))])) 0 0 (va_A (w_T_num_1_0_5_1 cI cZ cP sc sc_bytes f_sc_bytes sc_length sc_next sc_place sc_sort sc_numbers f_sc_numbers) sz) := by
  refine q_enter (by decide) (Nat.le_of_ble_eq_true rfl) ?_
  intro p e s m below meth c ls hX hr hlk hnm hE hK hP hD hS hA hl
  obtain ⟨hx, hb, hml, hown, ht⟩ := id hX
  have hl : lv_has ls 4 [(0, .ref sc), (1, .int 0), (2, .int 5)] := hl
  have jp_27 : ∀ (x5 : Int32) (u1_0 : Int32) (u1_1 : Int32) (u1_2 : Int32), rg sc_length 0 150 → rg u1_0 0 150 → rg u1_1 0 150 → rg u1_2 0 4 → okV [(0, 0, 3)] f_sc_numbers → ¬ (0 ≤ x5 ∧ x5 ≤ 5) → ∀ (H : Heap) (locs : List Loc) (ls : Array Slot), va_P D vwCl [(sc_numbers, .inl (cI, 6, .inl f_sc_numbers)), (sc, .inr (5, [.ref sc_bytes, .int sc_length, .int u1_0, .int u1_1, .int u1_2, .ref sc_numbers, .int 1])), (sc_bytes, .inl (cI, 150, .inl f_sc_bytes))] H → va_D (va_A (w_T_num_1_0_5_1 cI cZ cP sc sc_bytes f_sc_bytes sc_length sc_next sc_place sc_sort sc_numbers f_sc_numbers) sz) [(sc_numbers, .inl (cI, 6, .inl f_sc_numbers)), (sc, .inr (5, [.ref sc_bytes, .int sc_length, .int u1_0, .int u1_1, .int u1_2, .ref sc_numbers, .int 1])), (sc_bytes, .inl (cI, 150, .inl f_sc_bytes))] → va_S (va_A (w_T_num_1_0_5_1 cI cZ cP sc sc_bytes f_sc_bytes sc_length sc_next sc_place sc_sort sc_numbers f_sc_numbers) sz) s.heap H locs → lv_has ls 4 [(0, .ref sc), (1, .int 0), (2, .int 5), (3, .int x5)] → W p l e ({ frames := 2, cells := 0, slots := 0, locals := 42 } : Room) s m ([.ref sc, .int 0, .int 5] : List Value).toArray below meth c H locs 0 0 (MQ below (qQi D (w_T_num_1_0_5_1 cI cZ cP sc sc_bytes f_sc_bytes sc_length sc_next sc_place sc_sort sc_numbers f_sc_numbers) sz (fun (r : Int32) (u : (Int32) × (Int32) × (Int32) × (Int32) × (Nat → Int32)) => (r = 0 ∨ (r = 1 ∧ u.2.2.2.1 = 2 ∧ okV [(0, 0, 3)] u.2.2.2.2)) ∧ rg u.1 0 150 ∧ rg u.2.1 0 150 ∧ rg u.2.2.1 0 4 ∧ rg u.2.2.2.1 1 2) (fun u : (Int32) × (Int32) × (Int32) × (Int32) × (Nat → Int32) => [(sc, .inr (5, [.ref sc_bytes, .int sc_length, .int u.1, .int u.2.1, .int u.2.2.1, .ref sc_numbers, .int u.2.2.2.1])), (sc_bytes, .inl (cI, 150, .inl f_sc_bytes)), (sc_numbers, .inl (cI, 6, .inl u.2.2.2.2))])) ([.ref sc, .int 0, .int 5] : List Value).toArray s 0 0 (va_A (w_T_num_1_0_5_1 cI cZ cP sc sc_bytes f_sc_bytes sc_length sc_next sc_place sc_sort sc_numbers f_sc_numbers) sz)) (F0 m 27 ls []) := by
    intro x5 u1_0 u1_1 u1_2 g27_sc_length g27_u1_0 g27_u1_1 g27_u1_2 x27_4 x27_5 H locs ls hP hD hS hl
    refine lv_iconst (v := 0) hx hb dX5_takeNumber_27 (by decide) ?_
    exact q_zret hX hr hlk (by decide) (u1_0, u1_1, u1_2, 1, f_sc_numbers) ⟨(Or.inl rfl), g27_u1_0, g27_u1_1, g27_u1_2, (rg_w (rg_of (by decide) : rg (1 : Int32) 1 1) (by decide))⟩ (hP.sub [1, 2, 0] rfl) (hD.sub [1, 2, 0] (by decide) rfl) hS dX5_takeNumber_28
  refine lv_aload_n hx hb dX5_takeNumber_0 rfl (lv_at hl 0 rfl) ?_
  refine q_Vv (wr := [(sc_numbers, .inl (cI, 6, .inl f_sc_numbers))]) [0, 1] [2] hX hE hK hP hD hS hA hl.1 lk_X5_25 (c_T_takeToken l D cI cZ cP sa sc sc_bytes f_sc_bytes sc_length sc_next sc_place sc_sort sc_numbers 1 h_sc_length h_sc_next h_sc_place (rg_w (rg_of (by decide) : rg (1 : Int32) 1 1) (by decide)) _) rfl rfl rfl rfl (by decide) 0 5 rfl rfl rfl rfl (Nat.le_of_ble_eq_true rfl) rfl rfl ⟨Nat.le_of_ble_eq_true rfl, Nat.le_of_ble_eq_true rfl⟩ ⟨Nat.le_of_ble_eq_true rfl, Nat.le_of_ble_eq_true rfl⟩ dX5_takeNumber_1 (fun u1 H locs h1 hP hD hS => ?_)
  obtain ⟨u1_0, u1_1, u1_2⟩ := u1
  obtain ⟨k1_u1_0, k1_u1_1, k1_u1_2⟩ := h1
  have hP : va_P D vwCl [(sc_numbers, .inl (cI, 6, .inl f_sc_numbers)), (sc, .inr (5, [.ref sc_bytes, .int sc_length, .int u1_0, .int u1_1, .int u1_2, .ref sc_numbers, .int 1])), (sc_bytes, .inl (cI, 150, .inl f_sc_bytes))] H := hP
  have hD : va_D (va_A (w_T_num_1_0_5_1 cI cZ cP sc sc_bytes f_sc_bytes sc_length sc_next sc_place sc_sort sc_numbers f_sc_numbers) sz) [(sc_numbers, .inl (cI, 6, .inl f_sc_numbers)), (sc, .inr (5, [.ref sc_bytes, .int sc_length, .int u1_0, .int u1_1, .int u1_2, .ref sc_numbers, .int 1])), (sc_bytes, .inl (cI, 150, .inl f_sc_bytes))] := hD
  refine lv_aload_n hx hb dX5_takeNumber_4 rfl (lv_at hl 0 rfl) ?_
  refine q_Vi (wr := [(sc_numbers, .inl (cI, 6, .inl f_sc_numbers))]) [1, 2] [0] hX hE hK hP hD hS hA hl.1 lk_X5_90 (c_T_numberValue l D cI cZ cP sa sc sc_bytes f_sc_bytes sc_length u1_0 u1_1 u1_2 sc_numbers 1 h_sc_length k1_u1_0 k1_u1_1 (rg_w (rg_of (by decide) : rg (1 : Int32) 1 1) (by decide)) _) rfl rfl rfl rfl (by decide) 0 5 rfl rfl rfl rfl (Nat.le_of_ble_eq_true rfl) rfl rfl ⟨Nat.le_of_ble_eq_true rfl, Nat.le_of_ble_eq_true rfl⟩ ⟨Nat.le_of_ble_eq_true rfl, Nat.le_of_ble_eq_true rfl⟩ dX5_takeNumber_5 (fun x5 _ H locs h5 hP hD hS => ?_)
  have hP : va_P D vwCl [(sc_numbers, .inl (cI, 6, .inl f_sc_numbers)), (sc, .inr (5, [.ref sc_bytes, .int sc_length, .int u1_0, .int u1_1, .int u1_2, .ref sc_numbers, .int 1])), (sc_bytes, .inl (cI, 150, .inl f_sc_bytes))] H := hP
  have hD : va_D (va_A (w_T_num_1_0_5_1 cI cZ cP sc sc_bytes f_sc_bytes sc_length sc_next sc_place sc_sort sc_numbers f_sc_numbers) sz) [(sc_numbers, .inl (cI, 6, .inl f_sc_numbers)), (sc, .inr (5, [.ref sc_bytes, .int sc_length, .int u1_0, .int u1_1, .int u1_2, .ref sc_numbers, .int 1])), (sc_bytes, .inl (cI, 150, .inl f_sc_bytes))] := hD
  refine lv_istore_n (lv' := [(3, .int x5), (0, .ref sc), (1, .int 0), (2, .int 5)]) hx hb dX5_takeNumber_8 rfl hl (by decide) rfl (fun ls hl => ?_)
  refine lv_iload_n hx hb dX5_takeNumber_9 rfl (lv_at hl 0 rfl) ?_
  refine lv_iload_n hx hb dX5_takeNumber_10 rfl (lv_at hl 2 rfl) ?_
  refine lv_iload_n hx hb dX5_takeNumber_11 rfl (lv_at hl 3 rfl) ?_
  refine q_SNi (k := 3) (wr := [(sc_numbers, .inl (cI, 6, .inl f_sc_numbers)), (sc, .inr (5, [.ref sc_bytes, .int sc_length, .int u1_0, .int u1_1, .int u1_2, .ref sc_numbers, .int 1])), (sc_bytes, .inl (cI, 150, .inl f_sc_bytes))]) [] [0, 1, 2] hX hE hK hP hD hS hA hl.1 (List.mem_of_getElem? (i := 5) rfl) ⟨mem_tb 386 rfl rfl, mem_tb 87 rfl rfl, (by decide +kernel), mem_tb 385 rfl rfl⟩ (c_within l D cI cZ cP sa x5 0 5 _) rfl rfl rfl rfl (by decide) rfl rfl (Nat.le_of_ble_eq_true rfl) rfl rfl ⟨Nat.le_of_ble_eq_true rfl, Nat.le_of_ble_eq_true rfl⟩ ⟨Nat.le_of_ble_eq_true rfl, Nat.le_of_ble_eq_true rfl⟩ dX5_takeNumber_12 (fun x12 _ H locs h12 hP hD hS => ?_)
  have hP : va_P D vwCl [(sc_numbers, .inl (cI, 6, .inl f_sc_numbers)), (sc, .inr (5, [.ref sc_bytes, .int sc_length, .int u1_0, .int u1_1, .int u1_2, .ref sc_numbers, .int 1])), (sc_bytes, .inl (cI, 150, .inl f_sc_bytes))] H := hP
  have hD : va_D (va_A (w_T_num_1_0_5_1 cI cZ cP sc sc_bytes f_sc_bytes sc_length sc_next sc_place sc_sort sc_numbers f_sc_numbers) sz) [(sc_numbers, .inl (cI, 6, .inl f_sc_numbers)), (sc, .inr (5, [.ref sc_bytes, .int sc_length, .int u1_0, .int u1_1, .int u1_2, .ref sc_numbers, .int 1])), (sc_bytes, .inl (cI, 150, .inl f_sc_bytes))] := hD
  rcases Classical.em (0 ≤ x5 ∧ x5 ≤ 5) with d12 | d12
  · rw [if_pos d12] at h12; subst h12
    have w12ab : rg x5 0 2147483647 := rg_leR d12.1 (rg_of (by decide) : rg (0 : Int32) 0 0) (rg_any x5) (by decide)
    have w12ba : rg x5 0 5 := rg_leL d12.2 w12ab (rg_of (by decide) : rg (5 : Int32) 5 5) (by decide)
    refine lv_if_eq (tgt := 27) hx hb dX5_takeNumber_15 (by decide) (fun c15 => (rg_eqF c15 (rg_of (by decide) : rg (1 : Int32) 1 1) (rg_of (by decide) : rg (0 : Int32) 0 0) (by decide)).elim) (fun c15 => ?_)
    refine lv_aload_n hx hb dX5_takeNumber_18 rfl (lv_at hl 1 rfl) ?_
    refine va_get (D := D) (ci := 5) (v := .int 1) (C := RX5) (T := TX5) (N := 7) hx hb ht inX5 hown hK hP 1 rfl rfl 6 (Nat.le_of_ble_eq_true rfl) (ht _ kw_216) (fun _ h9 => h9) rfl dX5_takeNumber_19 ?_
    refine lv_bipush (v := 6) hx hb dX5_takeNumber_22 (by decide) ?_
    refine lv_icmp_lt (tgt := 29) hx hb dX5_takeNumber_24 (by decide) (fun c24 => ?_) (fun c24 => (rg_leF (Int32.not_lt.mp c24) (rg_of (by decide) : rg (6 : Int32) 6 6) (rg_of (by decide) : rg (1 : Int32) 1 1) (by decide)).elim)
    refine lv_aload_n hx hb dX5_takeNumber_29 rfl (lv_at hl 1 rfl) ?_
    refine va_get (D := D) (ci := 5) (v := .ref sc_numbers) (C := RX5) (T := TX5) (N := 7) hx hb ht inX5 hown hK hP 1 rfl rfl 5 (Nat.le_of_ble_eq_true rfl) (ht _ kw_215) (fun _ h9 => h9) rfl dX5_takeNumber_30 ?_
    refine lv_aload_n hx hb dX5_takeNumber_33 rfl (lv_at hl 1 rfl) ?_
    refine va_get (D := D) (ci := 5) (v := .int 1) (C := RX5) (T := TX5) (N := 7) hx hb ht inX5 hown hK hP 1 rfl rfl 6 (Nat.le_of_ble_eq_true rfl) (ht _ kw_216) (fun _ h9 => h9) rfl dX5_takeNumber_34 ?_
    refine lv_iload_n hx hb dX5_takeNumber_37 rfl (lv_at hl 0 rfl) ?_
    refine va_iast hx hb hK hP hD hS 0 0 rfl rfl (rg_in (rg_of (by decide) : rg (1 : Int32) 1 1) (by decide)) dX5_takeNumber_38 (fun H locs hP hD hS => ?_)
    have hP : va_P D vwCl [(sc_numbers, .inl (cI, 6, .inl (upd f_sc_numbers (1 : Int32).toNatClampNeg x5))), (sc, .inr (5, [.ref sc_bytes, .int sc_length, .int u1_0, .int u1_1, .int u1_2, .ref sc_numbers, .int 1])), (sc_bytes, .inl (cI, 150, .inl f_sc_bytes))] H := hP
    have hD : va_D (va_A (w_T_num_1_0_5_1 cI cZ cP sc sc_bytes f_sc_bytes sc_length sc_next sc_place sc_sort sc_numbers f_sc_numbers) sz) [(sc_numbers, .inl (cI, 6, .inl (upd f_sc_numbers (1 : Int32).toNatClampNeg x5))), (sc, .inr (5, [.ref sc_bytes, .int sc_length, .int u1_0, .int u1_1, .int u1_2, .ref sc_numbers, .int 1])), (sc_bytes, .inl (cI, 150, .inl f_sc_bytes))] := hD
    generalize hf_f38 : (upd f_sc_numbers (1 : Int32).toNatClampNeg x5) = f38 at hP hD
    have ov_f38 : okV [(0, 0, 3)] f38 := hf_f38 ▸ okV_keep hx0 (by decide)
    have hP : va_P D vwCl [(sc_numbers, .inl (cI, 6, .inl f38)), (sc, .inr (5, [.ref sc_bytes, .int sc_length, .int u1_0, .int u1_1, .int u1_2, .ref sc_numbers, .int 1])), (sc_bytes, .inl (cI, 150, .inl f_sc_bytes))] H := hP
    have hD : va_D (va_A (w_T_num_1_0_5_1 cI cZ cP sc sc_bytes f_sc_bytes sc_length sc_next sc_place sc_sort sc_numbers f_sc_numbers) sz) [(sc_numbers, .inl (cI, 6, .inl f38)), (sc, .inr (5, [.ref sc_bytes, .int sc_length, .int u1_0, .int u1_1, .int u1_2, .ref sc_numbers, .int 1])), (sc_bytes, .inl (cI, 150, .inl f_sc_bytes))] := hD
    refine lv_aload_n hx hb dX5_takeNumber_39 rfl (lv_at hl 1 rfl) ?_
    refine lv_dup hx hb dX5_takeNumber_40 rfl ?_
    refine va_get (D := D) (ci := 5) (v := .int 1) (C := RX5) (T := TX5) (N := 7) hx hb ht inX5 hown hK hP 1 rfl rfl 6 (Nat.le_of_ble_eq_true rfl) (ht _ kw_216) (fun _ h9 => h9) rfl dX5_takeNumber_41 ?_
    refine lv_iconst (v := 1) hx hb dX5_takeNumber_44 (by decide) ?_
    refine lv_iadd hx hb dX5_takeNumber_45 ?_
    refine q_i (z := 2) (by decide) ?_
    refine va_put (D := D) (ci := 5) (v := .int 2) (ty := .int) (C := RX5) (T := TX5) (N := 7) hx hb ht inX5 tyX5 tyX5_ok nmX5 hown hK hP hD hS 1 rfl rfl 6 (Nat.le_of_ble_eq_true rfl) (ht _ kw_216) (fun _ h9 => h9) rfl (by decide +kernel) rfl rfl (Nat.le_of_ble_eq_true rfl) dX5_takeNumber_46 (fun H locs hP hD hS => ?_)
    have hP : va_P D vwCl [(sc_numbers, .inl (cI, 6, .inl f38)), (sc, .inr (5, [.ref sc_bytes, .int sc_length, .int u1_0, .int u1_1, .int u1_2, .ref sc_numbers, .int 2])), (sc_bytes, .inl (cI, 150, .inl f_sc_bytes))] H := hP
    have hD : va_D (va_A (w_T_num_1_0_5_1 cI cZ cP sc sc_bytes f_sc_bytes sc_length sc_next sc_place sc_sort sc_numbers f_sc_numbers) sz) [(sc_numbers, .inl (cI, 6, .inl f38)), (sc, .inr (5, [.ref sc_bytes, .int sc_length, .int u1_0, .int u1_1, .int u1_2, .ref sc_numbers, .int 2])), (sc_bytes, .inl (cI, 150, .inl f_sc_bytes))] := hD
    refine lv_iconst (v := 1) hx hb dX5_takeNumber_49 (by decide) ?_
    exact q_zret hX hr hlk (by decide) (u1_0, u1_1, u1_2, 2, f38) ⟨(Or.inr ⟨rfl, rfl, ov_f38⟩), k1_u1_0, k1_u1_1, k1_u1_2, (rg_w (rg_of (by decide) : rg (2 : Int32) 2 2) (by decide))⟩ (hP.sub [1, 2, 0] rfl) (hD.sub [1, 2, 0] (by decide) rfl) hS dX5_takeNumber_50
  · rw [if_neg d12] at h12; subst h12
    refine lv_if_eq (tgt := 27) hx hb dX5_takeNumber_15 (by decide) (fun c15 => ?_) (fun c15 => absurd rfl c15)
    exact jp_27 x5 u1_0 u1_1 u1_2 h_sc_length k1_u1_0 k1_u1_1 k1_u1_2 hx0 d12 _ _ _ hP hD hS (lv_sub hl [1, 2, 3, 0] rfl)
abbrev w_T_num_2_0_15_1 (cI cZ cP : ClassId) (sc : Nat) (sc_bytes : Nat) (f_sc_bytes : Nat → Int32) (sc_length : Int32) (sc_next : Int32) (sc_place : Int32) (sc_sort : Int32) (sc_numbers : Nat) (f_sc_numbers : Nat → Int32) : va_W := [(sc, .inr (5, [.ref sc_bytes, .int sc_length, .int sc_next, .int sc_place, .int sc_sort, .ref sc_numbers, .int 2])), (sc_bytes, .inl (cI, 150, .inl f_sc_bytes)), (sc_numbers, .inl (cI, 6, .inl f_sc_numbers))]
set_option maxHeartbeats 4000000 in
set_option maxRecDepth 100000 in
theorem c_T_num_2_0_15_1 (l : Launch) (D : va_G) (cI cZ cP : ClassId) (sa : Nat → Nat) (sc : Nat) (sc_bytes : Nat) (f_sc_bytes : Nat → Int32) (sc_length : Int32) (sc_next : Int32) (sc_place : Int32) (sc_sort : Int32) (sc_numbers : Nat) (f_sc_numbers : Nat → Int32) (h_sc_length : rg sc_length 0 150) (h_sc_next : rg sc_next 0 150) (h_sc_place : rg sc_place 0 150) (hx0 : okV [(0, 0, 3)] f_sc_numbers) (sz : Nat) : Met l yX5_takeNumber (qW yX5_takeNumber cX5_takeNumber 4 (some .boolean)) ({ frames := 2, cells := 0, slots := 0, locals := 42 } : Room) (qP D (TY cI cZ cP) sa [.ref sc, .int 0, .int 15] (w_T_num_2_0_15_1 cI cZ cP sc sc_bytes f_sc_bytes sc_length sc_next sc_place sc_sort sc_numbers f_sc_numbers) sz) (qQi D (w_T_num_2_0_15_1 cI cZ cP sc sc_bytes f_sc_bytes sc_length sc_next sc_place sc_sort sc_numbers f_sc_numbers) sz (fun (r : Int32) (u : (Int32) × (Int32) × (Int32) × (Int32) × (Nat → Int32)) => (r = 0 ∨ (r = 1 ∧ u.2.2.2.1 = 3 ∧ okV [(0, 0, 3)] u.2.2.2.2)) ∧ rg u.1 0 150 ∧ rg u.2.1 0 150 ∧ rg u.2.2.1 0 4 ∧ rg u.2.2.2.1 2 3) (fun u : (Int32) × (Int32) × (Int32) × (Int32) × (Nat → Int32) => [(sc, .inr (5, [.ref sc_bytes, .int sc_length, .int u.1, .int u.2.1, .int u.2.2.1, .ref sc_numbers, .int u.2.2.2.1])), (sc_bytes, .inl (cI, 150, .inl f_sc_bytes)), (sc_numbers, .inl (cI, 6, .inl u.2.2.2.2))])) 0 0 (va_A (w_T_num_2_0_15_1 cI cZ cP sc sc_bytes f_sc_bytes sc_length sc_next sc_place sc_sort sc_numbers f_sc_numbers) sz) := by
  refine q_enter (by decide) (Nat.le_of_ble_eq_true rfl) ?_
  intro p e s m below meth c ls hX hr hlk hnm hE hK hP hD hS hA hl
  obtain ⟨hx, hb, hml, hown, ht⟩ := id hX
  have hl : lv_has ls 4 [(0, .ref sc), (1, .int 0), (2, .int 15)] := hl
  have jp_27 : ∀ (x5 : Int32) (u1_0 : Int32) (u1_1 : Int32) (u1_2 : Int32), rg sc_length 0 150 → rg u1_0 0 150 → rg u1_1 0 150 → rg u1_2 0 4 → okV [(0, 0, 3)] f_sc_numbers → ¬ (0 ≤ x5 ∧ x5 ≤ 15) → ∀ (H : Heap) (locs : List Loc) (ls : Array Slot), va_P D vwCl [(sc_numbers, .inl (cI, 6, .inl f_sc_numbers)), (sc, .inr (5, [.ref sc_bytes, .int sc_length, .int u1_0, .int u1_1, .int u1_2, .ref sc_numbers, .int 2])), (sc_bytes, .inl (cI, 150, .inl f_sc_bytes))] H → va_D (va_A (w_T_num_2_0_15_1 cI cZ cP sc sc_bytes f_sc_bytes sc_length sc_next sc_place sc_sort sc_numbers f_sc_numbers) sz) [(sc_numbers, .inl (cI, 6, .inl f_sc_numbers)), (sc, .inr (5, [.ref sc_bytes, .int sc_length, .int u1_0, .int u1_1, .int u1_2, .ref sc_numbers, .int 2])), (sc_bytes, .inl (cI, 150, .inl f_sc_bytes))] → va_S (va_A (w_T_num_2_0_15_1 cI cZ cP sc sc_bytes f_sc_bytes sc_length sc_next sc_place sc_sort sc_numbers f_sc_numbers) sz) s.heap H locs → lv_has ls 4 [(0, .ref sc), (1, .int 0), (2, .int 15), (3, .int x5)] → W p l e ({ frames := 2, cells := 0, slots := 0, locals := 42 } : Room) s m ([.ref sc, .int 0, .int 15] : List Value).toArray below meth c H locs 0 0 (MQ below (qQi D (w_T_num_2_0_15_1 cI cZ cP sc sc_bytes f_sc_bytes sc_length sc_next sc_place sc_sort sc_numbers f_sc_numbers) sz (fun (r : Int32) (u : (Int32) × (Int32) × (Int32) × (Int32) × (Nat → Int32)) => (r = 0 ∨ (r = 1 ∧ u.2.2.2.1 = 3 ∧ okV [(0, 0, 3)] u.2.2.2.2)) ∧ rg u.1 0 150 ∧ rg u.2.1 0 150 ∧ rg u.2.2.1 0 4 ∧ rg u.2.2.2.1 2 3) (fun u : (Int32) × (Int32) × (Int32) × (Int32) × (Nat → Int32) => [(sc, .inr (5, [.ref sc_bytes, .int sc_length, .int u.1, .int u.2.1, .int u.2.2.1, .ref sc_numbers, .int u.2.2.2.1])), (sc_bytes, .inl (cI, 150, .inl f_sc_bytes)), (sc_numbers, .inl (cI, 6, .inl u.2.2.2.2))])) ([.ref sc, .int 0, .int 15] : List Value).toArray s 0 0 (va_A (w_T_num_2_0_15_1 cI cZ cP sc sc_bytes f_sc_bytes sc_length sc_next sc_place sc_sort sc_numbers f_sc_numbers) sz)) (F0 m 27 ls []) := by
    intro x5 u1_0 u1_1 u1_2 g27_sc_length g27_u1_0 g27_u1_1 g27_u1_2 x27_4 x27_5 H locs ls hP hD hS hl
    refine lv_iconst (v := 0) hx hb dX5_takeNumber_27 (by decide) ?_
    exact q_zret hX hr hlk (by decide) (u1_0, u1_1, u1_2, 2, f_sc_numbers) ⟨(Or.inl rfl), g27_u1_0, g27_u1_1, g27_u1_2, (rg_w (rg_of (by decide) : rg (2 : Int32) 2 2) (by decide))⟩ (hP.sub [1, 2, 0] rfl) (hD.sub [1, 2, 0] (by decide) rfl) hS dX5_takeNumber_28
  refine lv_aload_n hx hb dX5_takeNumber_0 rfl (lv_at hl 0 rfl) ?_
  refine q_Vv (wr := [(sc_numbers, .inl (cI, 6, .inl f_sc_numbers))]) [0, 1] [2] hX hE hK hP hD hS hA hl.1 lk_X5_25 (c_T_takeToken l D cI cZ cP sa sc sc_bytes f_sc_bytes sc_length sc_next sc_place sc_sort sc_numbers 2 h_sc_length h_sc_next h_sc_place (rg_w (rg_of (by decide) : rg (2 : Int32) 2 2) (by decide)) _) rfl rfl rfl rfl (by decide) 0 5 rfl rfl rfl rfl (Nat.le_of_ble_eq_true rfl) rfl rfl ⟨Nat.le_of_ble_eq_true rfl, Nat.le_of_ble_eq_true rfl⟩ ⟨Nat.le_of_ble_eq_true rfl, Nat.le_of_ble_eq_true rfl⟩ dX5_takeNumber_1 (fun u1 H locs h1 hP hD hS => ?_)
  obtain ⟨u1_0, u1_1, u1_2⟩ := u1
  obtain ⟨k1_u1_0, k1_u1_1, k1_u1_2⟩ := h1
  have hP : va_P D vwCl [(sc_numbers, .inl (cI, 6, .inl f_sc_numbers)), (sc, .inr (5, [.ref sc_bytes, .int sc_length, .int u1_0, .int u1_1, .int u1_2, .ref sc_numbers, .int 2])), (sc_bytes, .inl (cI, 150, .inl f_sc_bytes))] H := hP
  have hD : va_D (va_A (w_T_num_2_0_15_1 cI cZ cP sc sc_bytes f_sc_bytes sc_length sc_next sc_place sc_sort sc_numbers f_sc_numbers) sz) [(sc_numbers, .inl (cI, 6, .inl f_sc_numbers)), (sc, .inr (5, [.ref sc_bytes, .int sc_length, .int u1_0, .int u1_1, .int u1_2, .ref sc_numbers, .int 2])), (sc_bytes, .inl (cI, 150, .inl f_sc_bytes))] := hD
  refine lv_aload_n hx hb dX5_takeNumber_4 rfl (lv_at hl 0 rfl) ?_
  refine q_Vi (wr := [(sc_numbers, .inl (cI, 6, .inl f_sc_numbers))]) [1, 2] [0] hX hE hK hP hD hS hA hl.1 lk_X5_90 (c_T_numberValue l D cI cZ cP sa sc sc_bytes f_sc_bytes sc_length u1_0 u1_1 u1_2 sc_numbers 2 h_sc_length k1_u1_0 k1_u1_1 (rg_w (rg_of (by decide) : rg (2 : Int32) 2 2) (by decide)) _) rfl rfl rfl rfl (by decide) 0 5 rfl rfl rfl rfl (Nat.le_of_ble_eq_true rfl) rfl rfl ⟨Nat.le_of_ble_eq_true rfl, Nat.le_of_ble_eq_true rfl⟩ ⟨Nat.le_of_ble_eq_true rfl, Nat.le_of_ble_eq_true rfl⟩ dX5_takeNumber_5 (fun x5 _ H locs h5 hP hD hS => ?_)
  have hP : va_P D vwCl [(sc_numbers, .inl (cI, 6, .inl f_sc_numbers)), (sc, .inr (5, [.ref sc_bytes, .int sc_length, .int u1_0, .int u1_1, .int u1_2, .ref sc_numbers, .int 2])), (sc_bytes, .inl (cI, 150, .inl f_sc_bytes))] H := hP
  have hD : va_D (va_A (w_T_num_2_0_15_1 cI cZ cP sc sc_bytes f_sc_bytes sc_length sc_next sc_place sc_sort sc_numbers f_sc_numbers) sz) [(sc_numbers, .inl (cI, 6, .inl f_sc_numbers)), (sc, .inr (5, [.ref sc_bytes, .int sc_length, .int u1_0, .int u1_1, .int u1_2, .ref sc_numbers, .int 2])), (sc_bytes, .inl (cI, 150, .inl f_sc_bytes))] := hD
  refine lv_istore_n (lv' := [(3, .int x5), (0, .ref sc), (1, .int 0), (2, .int 15)]) hx hb dX5_takeNumber_8 rfl hl (by decide) rfl (fun ls hl => ?_)
  refine lv_iload_n hx hb dX5_takeNumber_9 rfl (lv_at hl 0 rfl) ?_
  refine lv_iload_n hx hb dX5_takeNumber_10 rfl (lv_at hl 2 rfl) ?_
  refine lv_iload_n hx hb dX5_takeNumber_11 rfl (lv_at hl 3 rfl) ?_
  refine q_SNi (k := 3) (wr := [(sc_numbers, .inl (cI, 6, .inl f_sc_numbers)), (sc, .inr (5, [.ref sc_bytes, .int sc_length, .int u1_0, .int u1_1, .int u1_2, .ref sc_numbers, .int 2])), (sc_bytes, .inl (cI, 150, .inl f_sc_bytes))]) [] [0, 1, 2] hX hE hK hP hD hS hA hl.1 (List.mem_of_getElem? (i := 5) rfl) ⟨mem_tb 386 rfl rfl, mem_tb 87 rfl rfl, (by decide +kernel), mem_tb 385 rfl rfl⟩ (c_within l D cI cZ cP sa x5 0 15 _) rfl rfl rfl rfl (by decide) rfl rfl (Nat.le_of_ble_eq_true rfl) rfl rfl ⟨Nat.le_of_ble_eq_true rfl, Nat.le_of_ble_eq_true rfl⟩ ⟨Nat.le_of_ble_eq_true rfl, Nat.le_of_ble_eq_true rfl⟩ dX5_takeNumber_12 (fun x12 _ H locs h12 hP hD hS => ?_)
  have hP : va_P D vwCl [(sc_numbers, .inl (cI, 6, .inl f_sc_numbers)), (sc, .inr (5, [.ref sc_bytes, .int sc_length, .int u1_0, .int u1_1, .int u1_2, .ref sc_numbers, .int 2])), (sc_bytes, .inl (cI, 150, .inl f_sc_bytes))] H := hP
  have hD : va_D (va_A (w_T_num_2_0_15_1 cI cZ cP sc sc_bytes f_sc_bytes sc_length sc_next sc_place sc_sort sc_numbers f_sc_numbers) sz) [(sc_numbers, .inl (cI, 6, .inl f_sc_numbers)), (sc, .inr (5, [.ref sc_bytes, .int sc_length, .int u1_0, .int u1_1, .int u1_2, .ref sc_numbers, .int 2])), (sc_bytes, .inl (cI, 150, .inl f_sc_bytes))] := hD
  rcases Classical.em (0 ≤ x5 ∧ x5 ≤ 15) with d12 | d12
  · rw [if_pos d12] at h12; subst h12
    have w12ab : rg x5 0 2147483647 := rg_leR d12.1 (rg_of (by decide) : rg (0 : Int32) 0 0) (rg_any x5) (by decide)
    have w12ba : rg x5 0 15 := rg_leL d12.2 w12ab (rg_of (by decide) : rg (15 : Int32) 15 15) (by decide)
    refine lv_if_eq (tgt := 27) hx hb dX5_takeNumber_15 (by decide) (fun c15 => (rg_eqF c15 (rg_of (by decide) : rg (1 : Int32) 1 1) (rg_of (by decide) : rg (0 : Int32) 0 0) (by decide)).elim) (fun c15 => ?_)
    refine lv_aload_n hx hb dX5_takeNumber_18 rfl (lv_at hl 1 rfl) ?_
    refine va_get (D := D) (ci := 5) (v := .int 2) (C := RX5) (T := TX5) (N := 7) hx hb ht inX5 hown hK hP 1 rfl rfl 6 (Nat.le_of_ble_eq_true rfl) (ht _ kw_216) (fun _ h9 => h9) rfl dX5_takeNumber_19 ?_
    refine lv_bipush (v := 6) hx hb dX5_takeNumber_22 (by decide) ?_
    refine lv_icmp_lt (tgt := 29) hx hb dX5_takeNumber_24 (by decide) (fun c24 => ?_) (fun c24 => (rg_leF (Int32.not_lt.mp c24) (rg_of (by decide) : rg (6 : Int32) 6 6) (rg_of (by decide) : rg (2 : Int32) 2 2) (by decide)).elim)
    refine lv_aload_n hx hb dX5_takeNumber_29 rfl (lv_at hl 1 rfl) ?_
    refine va_get (D := D) (ci := 5) (v := .ref sc_numbers) (C := RX5) (T := TX5) (N := 7) hx hb ht inX5 hown hK hP 1 rfl rfl 5 (Nat.le_of_ble_eq_true rfl) (ht _ kw_215) (fun _ h9 => h9) rfl dX5_takeNumber_30 ?_
    refine lv_aload_n hx hb dX5_takeNumber_33 rfl (lv_at hl 1 rfl) ?_
    refine va_get (D := D) (ci := 5) (v := .int 2) (C := RX5) (T := TX5) (N := 7) hx hb ht inX5 hown hK hP 1 rfl rfl 6 (Nat.le_of_ble_eq_true rfl) (ht _ kw_216) (fun _ h9 => h9) rfl dX5_takeNumber_34 ?_
    refine lv_iload_n hx hb dX5_takeNumber_37 rfl (lv_at hl 0 rfl) ?_
    refine va_iast hx hb hK hP hD hS 0 0 rfl rfl (rg_in (rg_of (by decide) : rg (2 : Int32) 2 2) (by decide)) dX5_takeNumber_38 (fun H locs hP hD hS => ?_)
    have hP : va_P D vwCl [(sc_numbers, .inl (cI, 6, .inl (upd f_sc_numbers (2 : Int32).toNatClampNeg x5))), (sc, .inr (5, [.ref sc_bytes, .int sc_length, .int u1_0, .int u1_1, .int u1_2, .ref sc_numbers, .int 2])), (sc_bytes, .inl (cI, 150, .inl f_sc_bytes))] H := hP
    have hD : va_D (va_A (w_T_num_2_0_15_1 cI cZ cP sc sc_bytes f_sc_bytes sc_length sc_next sc_place sc_sort sc_numbers f_sc_numbers) sz) [(sc_numbers, .inl (cI, 6, .inl (upd f_sc_numbers (2 : Int32).toNatClampNeg x5))), (sc, .inr (5, [.ref sc_bytes, .int sc_length, .int u1_0, .int u1_1, .int u1_2, .ref sc_numbers, .int 2])), (sc_bytes, .inl (cI, 150, .inl f_sc_bytes))] := hD
    generalize hf_f38 : (upd f_sc_numbers (2 : Int32).toNatClampNeg x5) = f38 at hP hD
    have ov_f38 : okV [(0, 0, 3)] f38 := hf_f38 ▸ okV_keep hx0 (by decide)
    have hP : va_P D vwCl [(sc_numbers, .inl (cI, 6, .inl f38)), (sc, .inr (5, [.ref sc_bytes, .int sc_length, .int u1_0, .int u1_1, .int u1_2, .ref sc_numbers, .int 2])), (sc_bytes, .inl (cI, 150, .inl f_sc_bytes))] H := hP
    have hD : va_D (va_A (w_T_num_2_0_15_1 cI cZ cP sc sc_bytes f_sc_bytes sc_length sc_next sc_place sc_sort sc_numbers f_sc_numbers) sz) [(sc_numbers, .inl (cI, 6, .inl f38)), (sc, .inr (5, [.ref sc_bytes, .int sc_length, .int u1_0, .int u1_1, .int u1_2, .ref sc_numbers, .int 2])), (sc_bytes, .inl (cI, 150, .inl f_sc_bytes))] := hD
    refine lv_aload_n hx hb dX5_takeNumber_39 rfl (lv_at hl 1 rfl) ?_
    refine lv_dup hx hb dX5_takeNumber_40 rfl ?_
    refine va_get (D := D) (ci := 5) (v := .int 2) (C := RX5) (T := TX5) (N := 7) hx hb ht inX5 hown hK hP 1 rfl rfl 6 (Nat.le_of_ble_eq_true rfl) (ht _ kw_216) (fun _ h9 => h9) rfl dX5_takeNumber_41 ?_
    refine lv_iconst (v := 1) hx hb dX5_takeNumber_44 (by decide) ?_
    refine lv_iadd hx hb dX5_takeNumber_45 ?_
    refine q_i (z := 3) (by decide) ?_
    refine va_put (D := D) (ci := 5) (v := .int 3) (ty := .int) (C := RX5) (T := TX5) (N := 7) hx hb ht inX5 tyX5 tyX5_ok nmX5 hown hK hP hD hS 1 rfl rfl 6 (Nat.le_of_ble_eq_true rfl) (ht _ kw_216) (fun _ h9 => h9) rfl (by decide +kernel) rfl rfl (Nat.le_of_ble_eq_true rfl) dX5_takeNumber_46 (fun H locs hP hD hS => ?_)
    have hP : va_P D vwCl [(sc_numbers, .inl (cI, 6, .inl f38)), (sc, .inr (5, [.ref sc_bytes, .int sc_length, .int u1_0, .int u1_1, .int u1_2, .ref sc_numbers, .int 3])), (sc_bytes, .inl (cI, 150, .inl f_sc_bytes))] H := hP
    have hD : va_D (va_A (w_T_num_2_0_15_1 cI cZ cP sc sc_bytes f_sc_bytes sc_length sc_next sc_place sc_sort sc_numbers f_sc_numbers) sz) [(sc_numbers, .inl (cI, 6, .inl f38)), (sc, .inr (5, [.ref sc_bytes, .int sc_length, .int u1_0, .int u1_1, .int u1_2, .ref sc_numbers, .int 3])), (sc_bytes, .inl (cI, 150, .inl f_sc_bytes))] := hD
    refine lv_iconst (v := 1) hx hb dX5_takeNumber_49 (by decide) ?_
    exact q_zret hX hr hlk (by decide) (u1_0, u1_1, u1_2, 3, f38) ⟨(Or.inr ⟨rfl, rfl, ov_f38⟩), k1_u1_0, k1_u1_1, k1_u1_2, (rg_w (rg_of (by decide) : rg (3 : Int32) 3 3) (by decide))⟩ (hP.sub [1, 2, 0] rfl) (hD.sub [1, 2, 0] (by decide) rfl) hS dX5_takeNumber_50
  · rw [if_neg d12] at h12; subst h12
    refine lv_if_eq (tgt := 27) hx hb dX5_takeNumber_15 (by decide) (fun c15 => ?_) (fun c15 => absurd rfl c15)
    exact jp_27 x5 u1_0 u1_1 u1_2 h_sc_length k1_u1_0 k1_u1_1 k1_u1_2 hx0 d12 _ _ _ hP hD hS (lv_sub hl [1, 2, 3, 0] rfl)
abbrev w_T_num_3_1_9_1 (cI cZ cP : ClassId) (sc : Nat) (sc_bytes : Nat) (f_sc_bytes : Nat → Int32) (sc_length : Int32) (sc_next : Int32) (sc_place : Int32) (sc_sort : Int32) (sc_numbers : Nat) (f_sc_numbers : Nat → Int32) : va_W := [(sc, .inr (5, [.ref sc_bytes, .int sc_length, .int sc_next, .int sc_place, .int sc_sort, .ref sc_numbers, .int 3])), (sc_bytes, .inl (cI, 150, .inl f_sc_bytes)), (sc_numbers, .inl (cI, 6, .inl f_sc_numbers))]
set_option maxHeartbeats 4000000 in
set_option maxRecDepth 100000 in
theorem c_T_num_3_1_9_1 (l : Launch) (D : va_G) (cI cZ cP : ClassId) (sa : Nat → Nat) (sc : Nat) (sc_bytes : Nat) (f_sc_bytes : Nat → Int32) (sc_length : Int32) (sc_next : Int32) (sc_place : Int32) (sc_sort : Int32) (sc_numbers : Nat) (f_sc_numbers : Nat → Int32) (h_sc_length : rg sc_length 0 150) (h_sc_next : rg sc_next 0 150) (h_sc_place : rg sc_place 0 150) (hx0 : okV [(0, 0, 3)] f_sc_numbers) (sz : Nat) : Met l yX5_takeNumber (qW yX5_takeNumber cX5_takeNumber 4 (some .boolean)) ({ frames := 2, cells := 0, slots := 0, locals := 42 } : Room) (qP D (TY cI cZ cP) sa [.ref sc, .int 1, .int 9] (w_T_num_3_1_9_1 cI cZ cP sc sc_bytes f_sc_bytes sc_length sc_next sc_place sc_sort sc_numbers f_sc_numbers) sz) (qQi D (w_T_num_3_1_9_1 cI cZ cP sc sc_bytes f_sc_bytes sc_length sc_next sc_place sc_sort sc_numbers f_sc_numbers) sz (fun (r : Int32) (u : (Int32) × (Int32) × (Int32) × (Int32) × (Nat → Int32)) => (r = 0 ∨ (r = 1 ∧ u.2.2.2.1 = 4 ∧ okV [(0, 0, 3)] u.2.2.2.2)) ∧ rg u.1 0 150 ∧ rg u.2.1 0 150 ∧ rg u.2.2.1 0 4 ∧ rg u.2.2.2.1 3 4) (fun u : (Int32) × (Int32) × (Int32) × (Int32) × (Nat → Int32) => [(sc, .inr (5, [.ref sc_bytes, .int sc_length, .int u.1, .int u.2.1, .int u.2.2.1, .ref sc_numbers, .int u.2.2.2.1])), (sc_bytes, .inl (cI, 150, .inl f_sc_bytes)), (sc_numbers, .inl (cI, 6, .inl u.2.2.2.2))])) 0 0 (va_A (w_T_num_3_1_9_1 cI cZ cP sc sc_bytes f_sc_bytes sc_length sc_next sc_place sc_sort sc_numbers f_sc_numbers) sz) := by
  refine q_enter (by decide) (Nat.le_of_ble_eq_true rfl) ?_
  intro p e s m below meth c ls hX hr hlk hnm hE hK hP hD hS hA hl
  obtain ⟨hx, hb, hml, hown, ht⟩ := id hX
  have hl : lv_has ls 4 [(0, .ref sc), (1, .int 1), (2, .int 9)] := hl
  have jp_27 : ∀ (x5 : Int32) (u1_0 : Int32) (u1_1 : Int32) (u1_2 : Int32), rg sc_length 0 150 → rg u1_0 0 150 → rg u1_1 0 150 → rg u1_2 0 4 → okV [(0, 0, 3)] f_sc_numbers → ¬ (1 ≤ x5 ∧ x5 ≤ 9) → ∀ (H : Heap) (locs : List Loc) (ls : Array Slot), va_P D vwCl [(sc_numbers, .inl (cI, 6, .inl f_sc_numbers)), (sc, .inr (5, [.ref sc_bytes, .int sc_length, .int u1_0, .int u1_1, .int u1_2, .ref sc_numbers, .int 3])), (sc_bytes, .inl (cI, 150, .inl f_sc_bytes))] H → va_D (va_A (w_T_num_3_1_9_1 cI cZ cP sc sc_bytes f_sc_bytes sc_length sc_next sc_place sc_sort sc_numbers f_sc_numbers) sz) [(sc_numbers, .inl (cI, 6, .inl f_sc_numbers)), (sc, .inr (5, [.ref sc_bytes, .int sc_length, .int u1_0, .int u1_1, .int u1_2, .ref sc_numbers, .int 3])), (sc_bytes, .inl (cI, 150, .inl f_sc_bytes))] → va_S (va_A (w_T_num_3_1_9_1 cI cZ cP sc sc_bytes f_sc_bytes sc_length sc_next sc_place sc_sort sc_numbers f_sc_numbers) sz) s.heap H locs → lv_has ls 4 [(0, .ref sc), (1, .int 1), (2, .int 9), (3, .int x5)] → W p l e ({ frames := 2, cells := 0, slots := 0, locals := 42 } : Room) s m ([.ref sc, .int 1, .int 9] : List Value).toArray below meth c H locs 0 0 (MQ below (qQi D (w_T_num_3_1_9_1 cI cZ cP sc sc_bytes f_sc_bytes sc_length sc_next sc_place sc_sort sc_numbers f_sc_numbers) sz (fun (r : Int32) (u : (Int32) × (Int32) × (Int32) × (Int32) × (Nat → Int32)) => (r = 0 ∨ (r = 1 ∧ u.2.2.2.1 = 4 ∧ okV [(0, 0, 3)] u.2.2.2.2)) ∧ rg u.1 0 150 ∧ rg u.2.1 0 150 ∧ rg u.2.2.1 0 4 ∧ rg u.2.2.2.1 3 4) (fun u : (Int32) × (Int32) × (Int32) × (Int32) × (Nat → Int32) => [(sc, .inr (5, [.ref sc_bytes, .int sc_length, .int u.1, .int u.2.1, .int u.2.2.1, .ref sc_numbers, .int u.2.2.2.1])), (sc_bytes, .inl (cI, 150, .inl f_sc_bytes)), (sc_numbers, .inl (cI, 6, .inl u.2.2.2.2))])) ([.ref sc, .int 1, .int 9] : List Value).toArray s 0 0 (va_A (w_T_num_3_1_9_1 cI cZ cP sc sc_bytes f_sc_bytes sc_length sc_next sc_place sc_sort sc_numbers f_sc_numbers) sz)) (F0 m 27 ls []) := by
    intro x5 u1_0 u1_1 u1_2 g27_sc_length g27_u1_0 g27_u1_1 g27_u1_2 x27_4 x27_5 H locs ls hP hD hS hl
    refine lv_iconst (v := 0) hx hb dX5_takeNumber_27 (by decide) ?_
    exact q_zret hX hr hlk (by decide) (u1_0, u1_1, u1_2, 3, f_sc_numbers) ⟨(Or.inl rfl), g27_u1_0, g27_u1_1, g27_u1_2, (rg_w (rg_of (by decide) : rg (3 : Int32) 3 3) (by decide))⟩ (hP.sub [1, 2, 0] rfl) (hD.sub [1, 2, 0] (by decide) rfl) hS dX5_takeNumber_28
  refine lv_aload_n hx hb dX5_takeNumber_0 rfl (lv_at hl 0 rfl) ?_
  refine q_Vv (wr := [(sc_numbers, .inl (cI, 6, .inl f_sc_numbers))]) [0, 1] [2] hX hE hK hP hD hS hA hl.1 lk_X5_25 (c_T_takeToken l D cI cZ cP sa sc sc_bytes f_sc_bytes sc_length sc_next sc_place sc_sort sc_numbers 3 h_sc_length h_sc_next h_sc_place (rg_w (rg_of (by decide) : rg (3 : Int32) 3 3) (by decide)) _) rfl rfl rfl rfl (by decide) 0 5 rfl rfl rfl rfl (Nat.le_of_ble_eq_true rfl) rfl rfl ⟨Nat.le_of_ble_eq_true rfl, Nat.le_of_ble_eq_true rfl⟩ ⟨Nat.le_of_ble_eq_true rfl, Nat.le_of_ble_eq_true rfl⟩ dX5_takeNumber_1 (fun u1 H locs h1 hP hD hS => ?_)
  obtain ⟨u1_0, u1_1, u1_2⟩ := u1
  obtain ⟨k1_u1_0, k1_u1_1, k1_u1_2⟩ := h1
  have hP : va_P D vwCl [(sc_numbers, .inl (cI, 6, .inl f_sc_numbers)), (sc, .inr (5, [.ref sc_bytes, .int sc_length, .int u1_0, .int u1_1, .int u1_2, .ref sc_numbers, .int 3])), (sc_bytes, .inl (cI, 150, .inl f_sc_bytes))] H := hP
  have hD : va_D (va_A (w_T_num_3_1_9_1 cI cZ cP sc sc_bytes f_sc_bytes sc_length sc_next sc_place sc_sort sc_numbers f_sc_numbers) sz) [(sc_numbers, .inl (cI, 6, .inl f_sc_numbers)), (sc, .inr (5, [.ref sc_bytes, .int sc_length, .int u1_0, .int u1_1, .int u1_2, .ref sc_numbers, .int 3])), (sc_bytes, .inl (cI, 150, .inl f_sc_bytes))] := hD
  refine lv_aload_n hx hb dX5_takeNumber_4 rfl (lv_at hl 0 rfl) ?_
  refine q_Vi (wr := [(sc_numbers, .inl (cI, 6, .inl f_sc_numbers))]) [1, 2] [0] hX hE hK hP hD hS hA hl.1 lk_X5_90 (c_T_numberValue l D cI cZ cP sa sc sc_bytes f_sc_bytes sc_length u1_0 u1_1 u1_2 sc_numbers 3 h_sc_length k1_u1_0 k1_u1_1 (rg_w (rg_of (by decide) : rg (3 : Int32) 3 3) (by decide)) _) rfl rfl rfl rfl (by decide) 0 5 rfl rfl rfl rfl (Nat.le_of_ble_eq_true rfl) rfl rfl ⟨Nat.le_of_ble_eq_true rfl, Nat.le_of_ble_eq_true rfl⟩ ⟨Nat.le_of_ble_eq_true rfl, Nat.le_of_ble_eq_true rfl⟩ dX5_takeNumber_5 (fun x5 _ H locs h5 hP hD hS => ?_)
  have hP : va_P D vwCl [(sc_numbers, .inl (cI, 6, .inl f_sc_numbers)), (sc, .inr (5, [.ref sc_bytes, .int sc_length, .int u1_0, .int u1_1, .int u1_2, .ref sc_numbers, .int 3])), (sc_bytes, .inl (cI, 150, .inl f_sc_bytes))] H := hP
  have hD : va_D (va_A (w_T_num_3_1_9_1 cI cZ cP sc sc_bytes f_sc_bytes sc_length sc_next sc_place sc_sort sc_numbers f_sc_numbers) sz) [(sc_numbers, .inl (cI, 6, .inl f_sc_numbers)), (sc, .inr (5, [.ref sc_bytes, .int sc_length, .int u1_0, .int u1_1, .int u1_2, .ref sc_numbers, .int 3])), (sc_bytes, .inl (cI, 150, .inl f_sc_bytes))] := hD
  refine lv_istore_n (lv' := [(3, .int x5), (0, .ref sc), (1, .int 1), (2, .int 9)]) hx hb dX5_takeNumber_8 rfl hl (by decide) rfl (fun ls hl => ?_)
  refine lv_iload_n hx hb dX5_takeNumber_9 rfl (lv_at hl 0 rfl) ?_
  refine lv_iload_n hx hb dX5_takeNumber_10 rfl (lv_at hl 2 rfl) ?_
  refine lv_iload_n hx hb dX5_takeNumber_11 rfl (lv_at hl 3 rfl) ?_
  refine q_SNi (k := 3) (wr := [(sc_numbers, .inl (cI, 6, .inl f_sc_numbers)), (sc, .inr (5, [.ref sc_bytes, .int sc_length, .int u1_0, .int u1_1, .int u1_2, .ref sc_numbers, .int 3])), (sc_bytes, .inl (cI, 150, .inl f_sc_bytes))]) [] [0, 1, 2] hX hE hK hP hD hS hA hl.1 (List.mem_of_getElem? (i := 5) rfl) ⟨mem_tb 386 rfl rfl, mem_tb 87 rfl rfl, (by decide +kernel), mem_tb 385 rfl rfl⟩ (c_within l D cI cZ cP sa x5 1 9 _) rfl rfl rfl rfl (by decide) rfl rfl (Nat.le_of_ble_eq_true rfl) rfl rfl ⟨Nat.le_of_ble_eq_true rfl, Nat.le_of_ble_eq_true rfl⟩ ⟨Nat.le_of_ble_eq_true rfl, Nat.le_of_ble_eq_true rfl⟩ dX5_takeNumber_12 (fun x12 _ H locs h12 hP hD hS => ?_)
  have hP : va_P D vwCl [(sc_numbers, .inl (cI, 6, .inl f_sc_numbers)), (sc, .inr (5, [.ref sc_bytes, .int sc_length, .int u1_0, .int u1_1, .int u1_2, .ref sc_numbers, .int 3])), (sc_bytes, .inl (cI, 150, .inl f_sc_bytes))] H := hP
  have hD : va_D (va_A (w_T_num_3_1_9_1 cI cZ cP sc sc_bytes f_sc_bytes sc_length sc_next sc_place sc_sort sc_numbers f_sc_numbers) sz) [(sc_numbers, .inl (cI, 6, .inl f_sc_numbers)), (sc, .inr (5, [.ref sc_bytes, .int sc_length, .int u1_0, .int u1_1, .int u1_2, .ref sc_numbers, .int 3])), (sc_bytes, .inl (cI, 150, .inl f_sc_bytes))] := hD
  rcases Classical.em (1 ≤ x5 ∧ x5 ≤ 9) with d12 | d12
  · rw [if_pos d12] at h12; subst h12
    have w12ab : rg x5 1 2147483647 := rg_leR d12.1 (rg_of (by decide) : rg (1 : Int32) 1 1) (rg_any x5) (by decide)
    have w12ba : rg x5 1 9 := rg_leL d12.2 w12ab (rg_of (by decide) : rg (9 : Int32) 9 9) (by decide)
    refine lv_if_eq (tgt := 27) hx hb dX5_takeNumber_15 (by decide) (fun c15 => (rg_eqF c15 (rg_of (by decide) : rg (1 : Int32) 1 1) (rg_of (by decide) : rg (0 : Int32) 0 0) (by decide)).elim) (fun c15 => ?_)
    refine lv_aload_n hx hb dX5_takeNumber_18 rfl (lv_at hl 1 rfl) ?_
    refine va_get (D := D) (ci := 5) (v := .int 3) (C := RX5) (T := TX5) (N := 7) hx hb ht inX5 hown hK hP 1 rfl rfl 6 (Nat.le_of_ble_eq_true rfl) (ht _ kw_216) (fun _ h9 => h9) rfl dX5_takeNumber_19 ?_
    refine lv_bipush (v := 6) hx hb dX5_takeNumber_22 (by decide) ?_
    refine lv_icmp_lt (tgt := 29) hx hb dX5_takeNumber_24 (by decide) (fun c24 => ?_) (fun c24 => (rg_leF (Int32.not_lt.mp c24) (rg_of (by decide) : rg (6 : Int32) 6 6) (rg_of (by decide) : rg (3 : Int32) 3 3) (by decide)).elim)
    refine lv_aload_n hx hb dX5_takeNumber_29 rfl (lv_at hl 1 rfl) ?_
    refine va_get (D := D) (ci := 5) (v := .ref sc_numbers) (C := RX5) (T := TX5) (N := 7) hx hb ht inX5 hown hK hP 1 rfl rfl 5 (Nat.le_of_ble_eq_true rfl) (ht _ kw_215) (fun _ h9 => h9) rfl dX5_takeNumber_30 ?_
    refine lv_aload_n hx hb dX5_takeNumber_33 rfl (lv_at hl 1 rfl) ?_
    refine va_get (D := D) (ci := 5) (v := .int 3) (C := RX5) (T := TX5) (N := 7) hx hb ht inX5 hown hK hP 1 rfl rfl 6 (Nat.le_of_ble_eq_true rfl) (ht _ kw_216) (fun _ h9 => h9) rfl dX5_takeNumber_34 ?_
    refine lv_iload_n hx hb dX5_takeNumber_37 rfl (lv_at hl 0 rfl) ?_
    refine va_iast hx hb hK hP hD hS 0 0 rfl rfl (rg_in (rg_of (by decide) : rg (3 : Int32) 3 3) (by decide)) dX5_takeNumber_38 (fun H locs hP hD hS => ?_)
    have hP : va_P D vwCl [(sc_numbers, .inl (cI, 6, .inl (upd f_sc_numbers (3 : Int32).toNatClampNeg x5))), (sc, .inr (5, [.ref sc_bytes, .int sc_length, .int u1_0, .int u1_1, .int u1_2, .ref sc_numbers, .int 3])), (sc_bytes, .inl (cI, 150, .inl f_sc_bytes))] H := hP
    have hD : va_D (va_A (w_T_num_3_1_9_1 cI cZ cP sc sc_bytes f_sc_bytes sc_length sc_next sc_place sc_sort sc_numbers f_sc_numbers) sz) [(sc_numbers, .inl (cI, 6, .inl (upd f_sc_numbers (3 : Int32).toNatClampNeg x5))), (sc, .inr (5, [.ref sc_bytes, .int sc_length, .int u1_0, .int u1_1, .int u1_2, .ref sc_numbers, .int 3])), (sc_bytes, .inl (cI, 150, .inl f_sc_bytes))] := hD
    generalize hf_f38 : (upd f_sc_numbers (3 : Int32).toNatClampNeg x5) = f38 at hP hD
    have ov_f38 : okV [(0, 0, 3)] f38 := hf_f38 ▸ okV_keep hx0 (by decide)
    have hP : va_P D vwCl [(sc_numbers, .inl (cI, 6, .inl f38)), (sc, .inr (5, [.ref sc_bytes, .int sc_length, .int u1_0, .int u1_1, .int u1_2, .ref sc_numbers, .int 3])), (sc_bytes, .inl (cI, 150, .inl f_sc_bytes))] H := hP
    have hD : va_D (va_A (w_T_num_3_1_9_1 cI cZ cP sc sc_bytes f_sc_bytes sc_length sc_next sc_place sc_sort sc_numbers f_sc_numbers) sz) [(sc_numbers, .inl (cI, 6, .inl f38)), (sc, .inr (5, [.ref sc_bytes, .int sc_length, .int u1_0, .int u1_1, .int u1_2, .ref sc_numbers, .int 3])), (sc_bytes, .inl (cI, 150, .inl f_sc_bytes))] := hD
    refine lv_aload_n hx hb dX5_takeNumber_39 rfl (lv_at hl 1 rfl) ?_
    refine lv_dup hx hb dX5_takeNumber_40 rfl ?_
    refine va_get (D := D) (ci := 5) (v := .int 3) (C := RX5) (T := TX5) (N := 7) hx hb ht inX5 hown hK hP 1 rfl rfl 6 (Nat.le_of_ble_eq_true rfl) (ht _ kw_216) (fun _ h9 => h9) rfl dX5_takeNumber_41 ?_
    refine lv_iconst (v := 1) hx hb dX5_takeNumber_44 (by decide) ?_
    refine lv_iadd hx hb dX5_takeNumber_45 ?_
    refine q_i (z := 4) (by decide) ?_
    refine va_put (D := D) (ci := 5) (v := .int 4) (ty := .int) (C := RX5) (T := TX5) (N := 7) hx hb ht inX5 tyX5 tyX5_ok nmX5 hown hK hP hD hS 1 rfl rfl 6 (Nat.le_of_ble_eq_true rfl) (ht _ kw_216) (fun _ h9 => h9) rfl (by decide +kernel) rfl rfl (Nat.le_of_ble_eq_true rfl) dX5_takeNumber_46 (fun H locs hP hD hS => ?_)
    have hP : va_P D vwCl [(sc_numbers, .inl (cI, 6, .inl f38)), (sc, .inr (5, [.ref sc_bytes, .int sc_length, .int u1_0, .int u1_1, .int u1_2, .ref sc_numbers, .int 4])), (sc_bytes, .inl (cI, 150, .inl f_sc_bytes))] H := hP
    have hD : va_D (va_A (w_T_num_3_1_9_1 cI cZ cP sc sc_bytes f_sc_bytes sc_length sc_next sc_place sc_sort sc_numbers f_sc_numbers) sz) [(sc_numbers, .inl (cI, 6, .inl f38)), (sc, .inr (5, [.ref sc_bytes, .int sc_length, .int u1_0, .int u1_1, .int u1_2, .ref sc_numbers, .int 4])), (sc_bytes, .inl (cI, 150, .inl f_sc_bytes))] := hD
    refine lv_iconst (v := 1) hx hb dX5_takeNumber_49 (by decide) ?_
    exact q_zret hX hr hlk (by decide) (u1_0, u1_1, u1_2, 4, f38) ⟨(Or.inr ⟨rfl, rfl, ov_f38⟩), k1_u1_0, k1_u1_1, k1_u1_2, (rg_w (rg_of (by decide) : rg (4 : Int32) 4 4) (by decide))⟩ (hP.sub [1, 2, 0] rfl) (hD.sub [1, 2, 0] (by decide) rfl) hS dX5_takeNumber_50
  · rw [if_neg d12] at h12; subst h12
    refine lv_if_eq (tgt := 27) hx hb dX5_takeNumber_15 (by decide) (fun c15 => ?_) (fun c15 => absurd rfl c15)
    exact jp_27 x5 u1_0 u1_1 u1_2 h_sc_length k1_u1_0 k1_u1_1 k1_u1_2 hx0 d12 _ _ _ hP hD hS (lv_sub hl [1, 2, 3, 0] rfl)
abbrev w_T_num_0_0_47_0 (cI cZ cP : ClassId) (sc : Nat) (sc_bytes : Nat) (f_sc_bytes : Nat → Int32) (sc_length : Int32) (sc_next : Int32) (sc_place : Int32) (sc_sort : Int32) (sc_numbers : Nat) (f_sc_numbers : Nat → Int32) : va_W := [(sc, .inr (5, [.ref sc_bytes, .int sc_length, .int sc_next, .int sc_place, .int sc_sort, .ref sc_numbers, .int 0])), (sc_bytes, .inl (cI, 150, .inl f_sc_bytes)), (sc_numbers, .inl (cI, 6, .inl f_sc_numbers))]
set_option maxHeartbeats 4000000 in
set_option maxRecDepth 100000 in
theorem c_T_num_0_0_47_0 (l : Launch) (D : va_G) (cI cZ cP : ClassId) (sa : Nat → Nat) (sc : Nat) (sc_bytes : Nat) (f_sc_bytes : Nat → Int32) (sc_length : Int32) (sc_next : Int32) (sc_place : Int32) (sc_sort : Int32) (sc_numbers : Nat) (f_sc_numbers : Nat → Int32) (h_sc_length : rg sc_length 0 150) (h_sc_next : rg sc_next 0 150) (h_sc_place : rg sc_place 0 150) (sz : Nat) : Met l yX5_takeNumber (qW yX5_takeNumber cX5_takeNumber 4 (some .boolean)) ({ frames := 2, cells := 0, slots := 0, locals := 42 } : Room) (qP D (TY cI cZ cP) sa [.ref sc, .int 0, .int 47] (w_T_num_0_0_47_0 cI cZ cP sc sc_bytes f_sc_bytes sc_length sc_next sc_place sc_sort sc_numbers f_sc_numbers) sz) (qQi D (w_T_num_0_0_47_0 cI cZ cP sc sc_bytes f_sc_bytes sc_length sc_next sc_place sc_sort sc_numbers f_sc_numbers) sz (fun (r : Int32) (u : (Int32) × (Int32) × (Int32) × (Int32) × (Nat → Int32)) => (r = 0 ∨ (r = 1 ∧ u.2.2.2.1 = 1)) ∧ rg u.1 0 150 ∧ rg u.2.1 0 150 ∧ rg u.2.2.1 0 4 ∧ rg u.2.2.2.1 0 1) (fun u : (Int32) × (Int32) × (Int32) × (Int32) × (Nat → Int32) => [(sc, .inr (5, [.ref sc_bytes, .int sc_length, .int u.1, .int u.2.1, .int u.2.2.1, .ref sc_numbers, .int u.2.2.2.1])), (sc_bytes, .inl (cI, 150, .inl f_sc_bytes)), (sc_numbers, .inl (cI, 6, .inl u.2.2.2.2))])) 0 0 (va_A (w_T_num_0_0_47_0 cI cZ cP sc sc_bytes f_sc_bytes sc_length sc_next sc_place sc_sort sc_numbers f_sc_numbers) sz) := by
  refine q_enter (by decide) (Nat.le_of_ble_eq_true rfl) ?_
  intro p e s m below meth c ls hX hr hlk hnm hE hK hP hD hS hA hl
  obtain ⟨hx, hb, hml, hown, ht⟩ := id hX
  have hl : lv_has ls 4 [(0, .ref sc), (1, .int 0), (2, .int 47)] := hl
  have jp_27 : ∀ (x5 : Int32) (u1_0 : Int32) (u1_1 : Int32) (u1_2 : Int32), rg sc_length 0 150 → rg u1_0 0 150 → rg u1_1 0 150 → rg u1_2 0 4 → ¬ (0 ≤ x5 ∧ x5 ≤ 47) → ∀ (H : Heap) (locs : List Loc) (ls : Array Slot), va_P D vwCl [(sc_numbers, .inl (cI, 6, .inl f_sc_numbers)), (sc, .inr (5, [.ref sc_bytes, .int sc_length, .int u1_0, .int u1_1, .int u1_2, .ref sc_numbers, .int 0])), (sc_bytes, .inl (cI, 150, .inl f_sc_bytes))] H → va_D (va_A (w_T_num_0_0_47_0 cI cZ cP sc sc_bytes f_sc_bytes sc_length sc_next sc_place sc_sort sc_numbers f_sc_numbers) sz) [(sc_numbers, .inl (cI, 6, .inl f_sc_numbers)), (sc, .inr (5, [.ref sc_bytes, .int sc_length, .int u1_0, .int u1_1, .int u1_2, .ref sc_numbers, .int 0])), (sc_bytes, .inl (cI, 150, .inl f_sc_bytes))] → va_S (va_A (w_T_num_0_0_47_0 cI cZ cP sc sc_bytes f_sc_bytes sc_length sc_next sc_place sc_sort sc_numbers f_sc_numbers) sz) s.heap H locs → lv_has ls 4 [(0, .ref sc), (1, .int 0), (2, .int 47), (3, .int x5)] → W p l e ({ frames := 2, cells := 0, slots := 0, locals := 42 } : Room) s m ([.ref sc, .int 0, .int 47] : List Value).toArray below meth c H locs 0 0 (MQ below (qQi D (w_T_num_0_0_47_0 cI cZ cP sc sc_bytes f_sc_bytes sc_length sc_next sc_place sc_sort sc_numbers f_sc_numbers) sz (fun (r : Int32) (u : (Int32) × (Int32) × (Int32) × (Int32) × (Nat → Int32)) => (r = 0 ∨ (r = 1 ∧ u.2.2.2.1 = 1)) ∧ rg u.1 0 150 ∧ rg u.2.1 0 150 ∧ rg u.2.2.1 0 4 ∧ rg u.2.2.2.1 0 1) (fun u : (Int32) × (Int32) × (Int32) × (Int32) × (Nat → Int32) => [(sc, .inr (5, [.ref sc_bytes, .int sc_length, .int u.1, .int u.2.1, .int u.2.2.1, .ref sc_numbers, .int u.2.2.2.1])), (sc_bytes, .inl (cI, 150, .inl f_sc_bytes)), (sc_numbers, .inl (cI, 6, .inl u.2.2.2.2))])) ([.ref sc, .int 0, .int 47] : List Value).toArray s 0 0 (va_A (w_T_num_0_0_47_0 cI cZ cP sc sc_bytes f_sc_bytes sc_length sc_next sc_place sc_sort sc_numbers f_sc_numbers) sz)) (F0 m 27 ls []) := by
    intro x5 u1_0 u1_1 u1_2 g27_sc_length g27_u1_0 g27_u1_1 g27_u1_2 x27_4 H locs ls hP hD hS hl
    refine lv_iconst (v := 0) hx hb dX5_takeNumber_27 (by decide) ?_
    exact q_zret hX hr hlk (by decide) (u1_0, u1_1, u1_2, 0, f_sc_numbers) ⟨(Or.inl rfl), g27_u1_0, g27_u1_1, g27_u1_2, (rg_w (rg_of (by decide) : rg (0 : Int32) 0 0) (by decide))⟩ (hP.sub [1, 2, 0] rfl) (hD.sub [1, 2, 0] (by decide) rfl) hS dX5_takeNumber_28
  refine lv_aload_n hx hb dX5_takeNumber_0 rfl (lv_at hl 0 rfl) ?_
  refine q_Vv (wr := [(sc_numbers, .inl (cI, 6, .inl f_sc_numbers))]) [0, 1] [2] hX hE hK hP hD hS hA hl.1 lk_X5_25 (c_T_takeToken l D cI cZ cP sa sc sc_bytes f_sc_bytes sc_length sc_next sc_place sc_sort sc_numbers 0 h_sc_length h_sc_next h_sc_place (rg_w (rg_of (by decide) : rg (0 : Int32) 0 0) (by decide)) _) rfl rfl rfl rfl (by decide) 0 5 rfl rfl rfl rfl (Nat.le_of_ble_eq_true rfl) rfl rfl ⟨Nat.le_of_ble_eq_true rfl, Nat.le_of_ble_eq_true rfl⟩ ⟨Nat.le_of_ble_eq_true rfl, Nat.le_of_ble_eq_true rfl⟩ dX5_takeNumber_1 (fun u1 H locs h1 hP hD hS => ?_)
  obtain ⟨u1_0, u1_1, u1_2⟩ := u1
  obtain ⟨k1_u1_0, k1_u1_1, k1_u1_2⟩ := h1
  have hP : va_P D vwCl [(sc_numbers, .inl (cI, 6, .inl f_sc_numbers)), (sc, .inr (5, [.ref sc_bytes, .int sc_length, .int u1_0, .int u1_1, .int u1_2, .ref sc_numbers, .int 0])), (sc_bytes, .inl (cI, 150, .inl f_sc_bytes))] H := hP
  have hD : va_D (va_A (w_T_num_0_0_47_0 cI cZ cP sc sc_bytes f_sc_bytes sc_length sc_next sc_place sc_sort sc_numbers f_sc_numbers) sz) [(sc_numbers, .inl (cI, 6, .inl f_sc_numbers)), (sc, .inr (5, [.ref sc_bytes, .int sc_length, .int u1_0, .int u1_1, .int u1_2, .ref sc_numbers, .int 0])), (sc_bytes, .inl (cI, 150, .inl f_sc_bytes))] := hD
  refine lv_aload_n hx hb dX5_takeNumber_4 rfl (lv_at hl 0 rfl) ?_
  refine q_Vi (wr := [(sc_numbers, .inl (cI, 6, .inl f_sc_numbers))]) [1, 2] [0] hX hE hK hP hD hS hA hl.1 lk_X5_90 (c_T_numberValue l D cI cZ cP sa sc sc_bytes f_sc_bytes sc_length u1_0 u1_1 u1_2 sc_numbers 0 h_sc_length k1_u1_0 k1_u1_1 (rg_w (rg_of (by decide) : rg (0 : Int32) 0 0) (by decide)) _) rfl rfl rfl rfl (by decide) 0 5 rfl rfl rfl rfl (Nat.le_of_ble_eq_true rfl) rfl rfl ⟨Nat.le_of_ble_eq_true rfl, Nat.le_of_ble_eq_true rfl⟩ ⟨Nat.le_of_ble_eq_true rfl, Nat.le_of_ble_eq_true rfl⟩ dX5_takeNumber_5 (fun x5 _ H locs h5 hP hD hS => ?_)
  have hP : va_P D vwCl [(sc_numbers, .inl (cI, 6, .inl f_sc_numbers)), (sc, .inr (5, [.ref sc_bytes, .int sc_length, .int u1_0, .int u1_1, .int u1_2, .ref sc_numbers, .int 0])), (sc_bytes, .inl (cI, 150, .inl f_sc_bytes))] H := hP
  have hD : va_D (va_A (w_T_num_0_0_47_0 cI cZ cP sc sc_bytes f_sc_bytes sc_length sc_next sc_place sc_sort sc_numbers f_sc_numbers) sz) [(sc_numbers, .inl (cI, 6, .inl f_sc_numbers)), (sc, .inr (5, [.ref sc_bytes, .int sc_length, .int u1_0, .int u1_1, .int u1_2, .ref sc_numbers, .int 0])), (sc_bytes, .inl (cI, 150, .inl f_sc_bytes))] := hD
  refine lv_istore_n (lv' := [(3, .int x5), (0, .ref sc), (1, .int 0), (2, .int 47)]) hx hb dX5_takeNumber_8 rfl hl (by decide) rfl (fun ls hl => ?_)
  refine lv_iload_n hx hb dX5_takeNumber_9 rfl (lv_at hl 0 rfl) ?_
  refine lv_iload_n hx hb dX5_takeNumber_10 rfl (lv_at hl 2 rfl) ?_
  refine lv_iload_n hx hb dX5_takeNumber_11 rfl (lv_at hl 3 rfl) ?_
  refine q_SNi (k := 3) (wr := [(sc_numbers, .inl (cI, 6, .inl f_sc_numbers)), (sc, .inr (5, [.ref sc_bytes, .int sc_length, .int u1_0, .int u1_1, .int u1_2, .ref sc_numbers, .int 0])), (sc_bytes, .inl (cI, 150, .inl f_sc_bytes))]) [] [0, 1, 2] hX hE hK hP hD hS hA hl.1 (List.mem_of_getElem? (i := 5) rfl) ⟨mem_tb 386 rfl rfl, mem_tb 87 rfl rfl, (by decide +kernel), mem_tb 385 rfl rfl⟩ (c_within l D cI cZ cP sa x5 0 47 _) rfl rfl rfl rfl (by decide) rfl rfl (Nat.le_of_ble_eq_true rfl) rfl rfl ⟨Nat.le_of_ble_eq_true rfl, Nat.le_of_ble_eq_true rfl⟩ ⟨Nat.le_of_ble_eq_true rfl, Nat.le_of_ble_eq_true rfl⟩ dX5_takeNumber_12 (fun x12 _ H locs h12 hP hD hS => ?_)
  have hP : va_P D vwCl [(sc_numbers, .inl (cI, 6, .inl f_sc_numbers)), (sc, .inr (5, [.ref sc_bytes, .int sc_length, .int u1_0, .int u1_1, .int u1_2, .ref sc_numbers, .int 0])), (sc_bytes, .inl (cI, 150, .inl f_sc_bytes))] H := hP
  have hD : va_D (va_A (w_T_num_0_0_47_0 cI cZ cP sc sc_bytes f_sc_bytes sc_length sc_next sc_place sc_sort sc_numbers f_sc_numbers) sz) [(sc_numbers, .inl (cI, 6, .inl f_sc_numbers)), (sc, .inr (5, [.ref sc_bytes, .int sc_length, .int u1_0, .int u1_1, .int u1_2, .ref sc_numbers, .int 0])), (sc_bytes, .inl (cI, 150, .inl f_sc_bytes))] := hD
  rcases Classical.em (0 ≤ x5 ∧ x5 ≤ 47) with d12 | d12
  · rw [if_pos d12] at h12; subst h12
    have w12ab : rg x5 0 2147483647 := rg_leR d12.1 (rg_of (by decide) : rg (0 : Int32) 0 0) (rg_any x5) (by decide)
    have w12ba : rg x5 0 47 := rg_leL d12.2 w12ab (rg_of (by decide) : rg (47 : Int32) 47 47) (by decide)
    refine lv_if_eq (tgt := 27) hx hb dX5_takeNumber_15 (by decide) (fun c15 => (rg_eqF c15 (rg_of (by decide) : rg (1 : Int32) 1 1) (rg_of (by decide) : rg (0 : Int32) 0 0) (by decide)).elim) (fun c15 => ?_)
    refine lv_aload_n hx hb dX5_takeNumber_18 rfl (lv_at hl 1 rfl) ?_
    refine va_get (D := D) (ci := 5) (v := .int 0) (C := RX5) (T := TX5) (N := 7) hx hb ht inX5 hown hK hP 1 rfl rfl 6 (Nat.le_of_ble_eq_true rfl) (ht _ kw_216) (fun _ h9 => h9) rfl dX5_takeNumber_19 ?_
    refine lv_bipush (v := 6) hx hb dX5_takeNumber_22 (by decide) ?_
    refine lv_icmp_lt (tgt := 29) hx hb dX5_takeNumber_24 (by decide) (fun c24 => ?_) (fun c24 => (rg_leF (Int32.not_lt.mp c24) (rg_of (by decide) : rg (6 : Int32) 6 6) (rg_of (by decide) : rg (0 : Int32) 0 0) (by decide)).elim)
    refine lv_aload_n hx hb dX5_takeNumber_29 rfl (lv_at hl 1 rfl) ?_
    refine va_get (D := D) (ci := 5) (v := .ref sc_numbers) (C := RX5) (T := TX5) (N := 7) hx hb ht inX5 hown hK hP 1 rfl rfl 5 (Nat.le_of_ble_eq_true rfl) (ht _ kw_215) (fun _ h9 => h9) rfl dX5_takeNumber_30 ?_
    refine lv_aload_n hx hb dX5_takeNumber_33 rfl (lv_at hl 1 rfl) ?_
    refine va_get (D := D) (ci := 5) (v := .int 0) (C := RX5) (T := TX5) (N := 7) hx hb ht inX5 hown hK hP 1 rfl rfl 6 (Nat.le_of_ble_eq_true rfl) (ht _ kw_216) (fun _ h9 => h9) rfl dX5_takeNumber_34 ?_
    refine lv_iload_n hx hb dX5_takeNumber_37 rfl (lv_at hl 0 rfl) ?_
    refine va_iast hx hb hK hP hD hS 0 0 rfl rfl (rg_in (rg_of (by decide) : rg (0 : Int32) 0 0) (by decide)) dX5_takeNumber_38 (fun H locs hP hD hS => ?_)
    have hP : va_P D vwCl [(sc_numbers, .inl (cI, 6, .inl (upd f_sc_numbers (0 : Int32).toNatClampNeg x5))), (sc, .inr (5, [.ref sc_bytes, .int sc_length, .int u1_0, .int u1_1, .int u1_2, .ref sc_numbers, .int 0])), (sc_bytes, .inl (cI, 150, .inl f_sc_bytes))] H := hP
    have hD : va_D (va_A (w_T_num_0_0_47_0 cI cZ cP sc sc_bytes f_sc_bytes sc_length sc_next sc_place sc_sort sc_numbers f_sc_numbers) sz) [(sc_numbers, .inl (cI, 6, .inl (upd f_sc_numbers (0 : Int32).toNatClampNeg x5))), (sc, .inr (5, [.ref sc_bytes, .int sc_length, .int u1_0, .int u1_1, .int u1_2, .ref sc_numbers, .int 0])), (sc_bytes, .inl (cI, 150, .inl f_sc_bytes))] := hD
    generalize hf_f38 : (upd f_sc_numbers (0 : Int32).toNatClampNeg x5) = f38 at hP hD
    have hP : va_P D vwCl [(sc_numbers, .inl (cI, 6, .inl f38)), (sc, .inr (5, [.ref sc_bytes, .int sc_length, .int u1_0, .int u1_1, .int u1_2, .ref sc_numbers, .int 0])), (sc_bytes, .inl (cI, 150, .inl f_sc_bytes))] H := hP
    have hD : va_D (va_A (w_T_num_0_0_47_0 cI cZ cP sc sc_bytes f_sc_bytes sc_length sc_next sc_place sc_sort sc_numbers f_sc_numbers) sz) [(sc_numbers, .inl (cI, 6, .inl f38)), (sc, .inr (5, [.ref sc_bytes, .int sc_length, .int u1_0, .int u1_1, .int u1_2, .ref sc_numbers, .int 0])), (sc_bytes, .inl (cI, 150, .inl f_sc_bytes))] := hD
    refine lv_aload_n hx hb dX5_takeNumber_39 rfl (lv_at hl 1 rfl) ?_
    refine lv_dup hx hb dX5_takeNumber_40 rfl ?_
    refine va_get (D := D) (ci := 5) (v := .int 0) (C := RX5) (T := TX5) (N := 7) hx hb ht inX5 hown hK hP 1 rfl rfl 6 (Nat.le_of_ble_eq_true rfl) (ht _ kw_216) (fun _ h9 => h9) rfl dX5_takeNumber_41 ?_
    refine lv_iconst (v := 1) hx hb dX5_takeNumber_44 (by decide) ?_
    refine lv_iadd hx hb dX5_takeNumber_45 ?_
    refine q_i (z := 1) (by decide) ?_
    refine va_put (D := D) (ci := 5) (v := .int 1) (ty := .int) (C := RX5) (T := TX5) (N := 7) hx hb ht inX5 tyX5 tyX5_ok nmX5 hown hK hP hD hS 1 rfl rfl 6 (Nat.le_of_ble_eq_true rfl) (ht _ kw_216) (fun _ h9 => h9) rfl (by decide +kernel) rfl rfl (Nat.le_of_ble_eq_true rfl) dX5_takeNumber_46 (fun H locs hP hD hS => ?_)
    have hP : va_P D vwCl [(sc_numbers, .inl (cI, 6, .inl f38)), (sc, .inr (5, [.ref sc_bytes, .int sc_length, .int u1_0, .int u1_1, .int u1_2, .ref sc_numbers, .int 1])), (sc_bytes, .inl (cI, 150, .inl f_sc_bytes))] H := hP
    have hD : va_D (va_A (w_T_num_0_0_47_0 cI cZ cP sc sc_bytes f_sc_bytes sc_length sc_next sc_place sc_sort sc_numbers f_sc_numbers) sz) [(sc_numbers, .inl (cI, 6, .inl f38)), (sc, .inr (5, [.ref sc_bytes, .int sc_length, .int u1_0, .int u1_1, .int u1_2, .ref sc_numbers, .int 1])), (sc_bytes, .inl (cI, 150, .inl f_sc_bytes))] := hD
    refine lv_iconst (v := 1) hx hb dX5_takeNumber_49 (by decide) ?_
    exact q_zret hX hr hlk (by decide) (u1_0, u1_1, u1_2, 1, f38) ⟨(Or.inr ⟨rfl, rfl⟩), k1_u1_0, k1_u1_1, k1_u1_2, (rg_w (rg_of (by decide) : rg (1 : Int32) 1 1) (by decide))⟩ (hP.sub [1, 2, 0] rfl) (hD.sub [1, 2, 0] (by decide) rfl) hS dX5_takeNumber_50
  · rw [if_neg d12] at h12; subst h12
    refine lv_if_eq (tgt := 27) hx hb dX5_takeNumber_15 (by decide) (fun c15 => ?_) (fun c15 => absurd rfl c15)
    exact jp_27 x5 u1_0 u1_1 u1_2 h_sc_length k1_u1_0 k1_u1_1 k1_u1_2 d12 _ _ _ hP hD hS (lv_sub hl [1, 2, 3, 0] rfl)
abbrev w_T_num_1_0_63_0 (cI cZ cP : ClassId) (sc : Nat) (sc_bytes : Nat) (f_sc_bytes : Nat → Int32) (sc_length : Int32) (sc_next : Int32) (sc_place : Int32) (sc_sort : Int32) (sc_numbers : Nat) (f_sc_numbers : Nat → Int32) : va_W := [(sc, .inr (5, [.ref sc_bytes, .int sc_length, .int sc_next, .int sc_place, .int sc_sort, .ref sc_numbers, .int 1])), (sc_bytes, .inl (cI, 150, .inl f_sc_bytes)), (sc_numbers, .inl (cI, 6, .inl f_sc_numbers))]
set_option maxHeartbeats 4000000 in
set_option maxRecDepth 100000 in
theorem c_T_num_1_0_63_0 (l : Launch) (D : va_G) (cI cZ cP : ClassId) (sa : Nat → Nat) (sc : Nat) (sc_bytes : Nat) (f_sc_bytes : Nat → Int32) (sc_length : Int32) (sc_next : Int32) (sc_place : Int32) (sc_sort : Int32) (sc_numbers : Nat) (f_sc_numbers : Nat → Int32) (h_sc_length : rg sc_length 0 150) (h_sc_next : rg sc_next 0 150) (h_sc_place : rg sc_place 0 150) (sz : Nat) : Met l yX5_takeNumber (qW yX5_takeNumber cX5_takeNumber 4 (some .boolean)) ({ frames := 2, cells := 0, slots := 0, locals := 42 } : Room) (qP D (TY cI cZ cP) sa [.ref sc, .int 0, .int 63] (w_T_num_1_0_63_0 cI cZ cP sc sc_bytes f_sc_bytes sc_length sc_next sc_place sc_sort sc_numbers f_sc_numbers) sz) (qQi D (w_T_num_1_0_63_0 cI cZ cP sc sc_bytes f_sc_bytes sc_length sc_next sc_place sc_sort sc_numbers f_sc_numbers) sz (fun (r : Int32) (u : (Int32) × (Int32) × (Int32) × (Int32) × (Nat → Int32)) => (r = 0 ∨ (r = 1 ∧ u.2.2.2.1 = 2 ∧ okV [(1, 0, 63)] u.2.2.2.2)) ∧ rg u.1 0 150 ∧ rg u.2.1 0 150 ∧ rg u.2.2.1 0 4 ∧ rg u.2.2.2.1 1 2) (fun u : (Int32) × (Int32) × (Int32) × (Int32) × (Nat → Int32) => [(sc, .inr (5, [.ref sc_bytes, .int sc_length, .int u.1, .int u.2.1, .int u.2.2.1, .ref sc_numbers, .int u.2.2.2.1])), (sc_bytes, .inl (cI, 150, .inl f_sc_bytes)), (sc_numbers, .inl (cI, 6, .inl u.2.2.2.2))])) 0 0 (va_A (w_T_num_1_0_63_0 cI cZ cP sc sc_bytes f_sc_bytes sc_length sc_next sc_place sc_sort sc_numbers f_sc_numbers) sz) := by
  refine q_enter (by decide) (Nat.le_of_ble_eq_true rfl) ?_
  intro p e s m below meth c ls hX hr hlk hnm hE hK hP hD hS hA hl
  obtain ⟨hx, hb, hml, hown, ht⟩ := id hX
  have hl : lv_has ls 4 [(0, .ref sc), (1, .int 0), (2, .int 63)] := hl
  have jp_27 : ∀ (x5 : Int32) (u1_0 : Int32) (u1_1 : Int32) (u1_2 : Int32), rg sc_length 0 150 → rg u1_0 0 150 → rg u1_1 0 150 → rg u1_2 0 4 → ¬ (0 ≤ x5 ∧ x5 ≤ 63) → ∀ (H : Heap) (locs : List Loc) (ls : Array Slot), va_P D vwCl [(sc_numbers, .inl (cI, 6, .inl f_sc_numbers)), (sc, .inr (5, [.ref sc_bytes, .int sc_length, .int u1_0, .int u1_1, .int u1_2, .ref sc_numbers, .int 1])), (sc_bytes, .inl (cI, 150, .inl f_sc_bytes))] H → va_D (va_A (w_T_num_1_0_63_0 cI cZ cP sc sc_bytes f_sc_bytes sc_length sc_next sc_place sc_sort sc_numbers f_sc_numbers) sz) [(sc_numbers, .inl (cI, 6, .inl f_sc_numbers)), (sc, .inr (5, [.ref sc_bytes, .int sc_length, .int u1_0, .int u1_1, .int u1_2, .ref sc_numbers, .int 1])), (sc_bytes, .inl (cI, 150, .inl f_sc_bytes))] → va_S (va_A (w_T_num_1_0_63_0 cI cZ cP sc sc_bytes f_sc_bytes sc_length sc_next sc_place sc_sort sc_numbers f_sc_numbers) sz) s.heap H locs → lv_has ls 4 [(0, .ref sc), (1, .int 0), (2, .int 63), (3, .int x5)] → W p l e ({ frames := 2, cells := 0, slots := 0, locals := 42 } : Room) s m ([.ref sc, .int 0, .int 63] : List Value).toArray below meth c H locs 0 0 (MQ below (qQi D (w_T_num_1_0_63_0 cI cZ cP sc sc_bytes f_sc_bytes sc_length sc_next sc_place sc_sort sc_numbers f_sc_numbers) sz (fun (r : Int32) (u : (Int32) × (Int32) × (Int32) × (Int32) × (Nat → Int32)) => (r = 0 ∨ (r = 1 ∧ u.2.2.2.1 = 2 ∧ okV [(1, 0, 63)] u.2.2.2.2)) ∧ rg u.1 0 150 ∧ rg u.2.1 0 150 ∧ rg u.2.2.1 0 4 ∧ rg u.2.2.2.1 1 2) (fun u : (Int32) × (Int32) × (Int32) × (Int32) × (Nat → Int32) => [(sc, .inr (5, [.ref sc_bytes, .int sc_length, .int u.1, .int u.2.1, .int u.2.2.1, .ref sc_numbers, .int u.2.2.2.1])), (sc_bytes, .inl (cI, 150, .inl f_sc_bytes)), (sc_numbers, .inl (cI, 6, .inl u.2.2.2.2))])) ([.ref sc, .int 0, .int 63] : List Value).toArray s 0 0 (va_A (w_T_num_1_0_63_0 cI cZ cP sc sc_bytes f_sc_bytes sc_length sc_next sc_place sc_sort sc_numbers f_sc_numbers) sz)) (F0 m 27 ls []) := by
    intro x5 u1_0 u1_1 u1_2 g27_sc_length g27_u1_0 g27_u1_1 g27_u1_2 x27_4 H locs ls hP hD hS hl
    refine lv_iconst (v := 0) hx hb dX5_takeNumber_27 (by decide) ?_
    exact q_zret hX hr hlk (by decide) (u1_0, u1_1, u1_2, 1, f_sc_numbers) ⟨(Or.inl rfl), g27_u1_0, g27_u1_1, g27_u1_2, (rg_w (rg_of (by decide) : rg (1 : Int32) 1 1) (by decide))⟩ (hP.sub [1, 2, 0] rfl) (hD.sub [1, 2, 0] (by decide) rfl) hS dX5_takeNumber_28
  refine lv_aload_n hx hb dX5_takeNumber_0 rfl (lv_at hl 0 rfl) ?_
  refine q_Vv (wr := [(sc_numbers, .inl (cI, 6, .inl f_sc_numbers))]) [0, 1] [2] hX hE hK hP hD hS hA hl.1 lk_X5_25 (c_T_takeToken l D cI cZ cP sa sc sc_bytes f_sc_bytes sc_length sc_next sc_place sc_sort sc_numbers 1 h_sc_length h_sc_next h_sc_place (rg_w (rg_of (by decide) : rg (1 : Int32) 1 1) (by decide)) _) rfl rfl rfl rfl (by decide) 0 5 rfl rfl rfl rfl (Nat.le_of_ble_eq_true rfl) rfl rfl ⟨Nat.le_of_ble_eq_true rfl, Nat.le_of_ble_eq_true rfl⟩ ⟨Nat.le_of_ble_eq_true rfl, Nat.le_of_ble_eq_true rfl⟩ dX5_takeNumber_1 (fun u1 H locs h1 hP hD hS => ?_)
  obtain ⟨u1_0, u1_1, u1_2⟩ := u1
  obtain ⟨k1_u1_0, k1_u1_1, k1_u1_2⟩ := h1
  have hP : va_P D vwCl [(sc_numbers, .inl (cI, 6, .inl f_sc_numbers)), (sc, .inr (5, [.ref sc_bytes, .int sc_length, .int u1_0, .int u1_1, .int u1_2, .ref sc_numbers, .int 1])), (sc_bytes, .inl (cI, 150, .inl f_sc_bytes))] H := hP
  have hD : va_D (va_A (w_T_num_1_0_63_0 cI cZ cP sc sc_bytes f_sc_bytes sc_length sc_next sc_place sc_sort sc_numbers f_sc_numbers) sz) [(sc_numbers, .inl (cI, 6, .inl f_sc_numbers)), (sc, .inr (5, [.ref sc_bytes, .int sc_length, .int u1_0, .int u1_1, .int u1_2, .ref sc_numbers, .int 1])), (sc_bytes, .inl (cI, 150, .inl f_sc_bytes))] := hD
  refine lv_aload_n hx hb dX5_takeNumber_4 rfl (lv_at hl 0 rfl) ?_
  refine q_Vi (wr := [(sc_numbers, .inl (cI, 6, .inl f_sc_numbers))]) [1, 2] [0] hX hE hK hP hD hS hA hl.1 lk_X5_90 (c_T_numberValue l D cI cZ cP sa sc sc_bytes f_sc_bytes sc_length u1_0 u1_1 u1_2 sc_numbers 1 h_sc_length k1_u1_0 k1_u1_1 (rg_w (rg_of (by decide) : rg (1 : Int32) 1 1) (by decide)) _) rfl rfl rfl rfl (by decide) 0 5 rfl rfl rfl rfl (Nat.le_of_ble_eq_true rfl) rfl rfl ⟨Nat.le_of_ble_eq_true rfl, Nat.le_of_ble_eq_true rfl⟩ ⟨Nat.le_of_ble_eq_true rfl, Nat.le_of_ble_eq_true rfl⟩ dX5_takeNumber_5 (fun x5 _ H locs h5 hP hD hS => ?_)
  have hP : va_P D vwCl [(sc_numbers, .inl (cI, 6, .inl f_sc_numbers)), (sc, .inr (5, [.ref sc_bytes, .int sc_length, .int u1_0, .int u1_1, .int u1_2, .ref sc_numbers, .int 1])), (sc_bytes, .inl (cI, 150, .inl f_sc_bytes))] H := hP
  have hD : va_D (va_A (w_T_num_1_0_63_0 cI cZ cP sc sc_bytes f_sc_bytes sc_length sc_next sc_place sc_sort sc_numbers f_sc_numbers) sz) [(sc_numbers, .inl (cI, 6, .inl f_sc_numbers)), (sc, .inr (5, [.ref sc_bytes, .int sc_length, .int u1_0, .int u1_1, .int u1_2, .ref sc_numbers, .int 1])), (sc_bytes, .inl (cI, 150, .inl f_sc_bytes))] := hD
  refine lv_istore_n (lv' := [(3, .int x5), (0, .ref sc), (1, .int 0), (2, .int 63)]) hx hb dX5_takeNumber_8 rfl hl (by decide) rfl (fun ls hl => ?_)
  refine lv_iload_n hx hb dX5_takeNumber_9 rfl (lv_at hl 0 rfl) ?_
  refine lv_iload_n hx hb dX5_takeNumber_10 rfl (lv_at hl 2 rfl) ?_
  refine lv_iload_n hx hb dX5_takeNumber_11 rfl (lv_at hl 3 rfl) ?_
  refine q_SNi (k := 3) (wr := [(sc_numbers, .inl (cI, 6, .inl f_sc_numbers)), (sc, .inr (5, [.ref sc_bytes, .int sc_length, .int u1_0, .int u1_1, .int u1_2, .ref sc_numbers, .int 1])), (sc_bytes, .inl (cI, 150, .inl f_sc_bytes))]) [] [0, 1, 2] hX hE hK hP hD hS hA hl.1 (List.mem_of_getElem? (i := 5) rfl) ⟨mem_tb 386 rfl rfl, mem_tb 87 rfl rfl, (by decide +kernel), mem_tb 385 rfl rfl⟩ (c_within l D cI cZ cP sa x5 0 63 _) rfl rfl rfl rfl (by decide) rfl rfl (Nat.le_of_ble_eq_true rfl) rfl rfl ⟨Nat.le_of_ble_eq_true rfl, Nat.le_of_ble_eq_true rfl⟩ ⟨Nat.le_of_ble_eq_true rfl, Nat.le_of_ble_eq_true rfl⟩ dX5_takeNumber_12 (fun x12 _ H locs h12 hP hD hS => ?_)
  have hP : va_P D vwCl [(sc_numbers, .inl (cI, 6, .inl f_sc_numbers)), (sc, .inr (5, [.ref sc_bytes, .int sc_length, .int u1_0, .int u1_1, .int u1_2, .ref sc_numbers, .int 1])), (sc_bytes, .inl (cI, 150, .inl f_sc_bytes))] H := hP
  have hD : va_D (va_A (w_T_num_1_0_63_0 cI cZ cP sc sc_bytes f_sc_bytes sc_length sc_next sc_place sc_sort sc_numbers f_sc_numbers) sz) [(sc_numbers, .inl (cI, 6, .inl f_sc_numbers)), (sc, .inr (5, [.ref sc_bytes, .int sc_length, .int u1_0, .int u1_1, .int u1_2, .ref sc_numbers, .int 1])), (sc_bytes, .inl (cI, 150, .inl f_sc_bytes))] := hD
  rcases Classical.em (0 ≤ x5 ∧ x5 ≤ 63) with d12 | d12
  · rw [if_pos d12] at h12; subst h12
    have w12ab : rg x5 0 2147483647 := rg_leR d12.1 (rg_of (by decide) : rg (0 : Int32) 0 0) (rg_any x5) (by decide)
    have w12ba : rg x5 0 63 := rg_leL d12.2 w12ab (rg_of (by decide) : rg (63 : Int32) 63 63) (by decide)
    refine lv_if_eq (tgt := 27) hx hb dX5_takeNumber_15 (by decide) (fun c15 => (rg_eqF c15 (rg_of (by decide) : rg (1 : Int32) 1 1) (rg_of (by decide) : rg (0 : Int32) 0 0) (by decide)).elim) (fun c15 => ?_)
    refine lv_aload_n hx hb dX5_takeNumber_18 rfl (lv_at hl 1 rfl) ?_
    refine va_get (D := D) (ci := 5) (v := .int 1) (C := RX5) (T := TX5) (N := 7) hx hb ht inX5 hown hK hP 1 rfl rfl 6 (Nat.le_of_ble_eq_true rfl) (ht _ kw_216) (fun _ h9 => h9) rfl dX5_takeNumber_19 ?_
    refine lv_bipush (v := 6) hx hb dX5_takeNumber_22 (by decide) ?_
    refine lv_icmp_lt (tgt := 29) hx hb dX5_takeNumber_24 (by decide) (fun c24 => ?_) (fun c24 => (rg_leF (Int32.not_lt.mp c24) (rg_of (by decide) : rg (6 : Int32) 6 6) (rg_of (by decide) : rg (1 : Int32) 1 1) (by decide)).elim)
    refine lv_aload_n hx hb dX5_takeNumber_29 rfl (lv_at hl 1 rfl) ?_
    refine va_get (D := D) (ci := 5) (v := .ref sc_numbers) (C := RX5) (T := TX5) (N := 7) hx hb ht inX5 hown hK hP 1 rfl rfl 5 (Nat.le_of_ble_eq_true rfl) (ht _ kw_215) (fun _ h9 => h9) rfl dX5_takeNumber_30 ?_
    refine lv_aload_n hx hb dX5_takeNumber_33 rfl (lv_at hl 1 rfl) ?_
    refine va_get (D := D) (ci := 5) (v := .int 1) (C := RX5) (T := TX5) (N := 7) hx hb ht inX5 hown hK hP 1 rfl rfl 6 (Nat.le_of_ble_eq_true rfl) (ht _ kw_216) (fun _ h9 => h9) rfl dX5_takeNumber_34 ?_
    refine lv_iload_n hx hb dX5_takeNumber_37 rfl (lv_at hl 0 rfl) ?_
    refine va_iast hx hb hK hP hD hS 0 0 rfl rfl (rg_in (rg_of (by decide) : rg (1 : Int32) 1 1) (by decide)) dX5_takeNumber_38 (fun H locs hP hD hS => ?_)
    have hP : va_P D vwCl [(sc_numbers, .inl (cI, 6, .inl (upd f_sc_numbers (1 : Int32).toNatClampNeg x5))), (sc, .inr (5, [.ref sc_bytes, .int sc_length, .int u1_0, .int u1_1, .int u1_2, .ref sc_numbers, .int 1])), (sc_bytes, .inl (cI, 150, .inl f_sc_bytes))] H := hP
    have hD : va_D (va_A (w_T_num_1_0_63_0 cI cZ cP sc sc_bytes f_sc_bytes sc_length sc_next sc_place sc_sort sc_numbers f_sc_numbers) sz) [(sc_numbers, .inl (cI, 6, .inl (upd f_sc_numbers (1 : Int32).toNatClampNeg x5))), (sc, .inr (5, [.ref sc_bytes, .int sc_length, .int u1_0, .int u1_1, .int u1_2, .ref sc_numbers, .int 1])), (sc_bytes, .inl (cI, 150, .inl f_sc_bytes))] := hD
    generalize hf_f38 : (upd f_sc_numbers (1 : Int32).toNatClampNeg x5) = f38 at hP hD
    have ov_f38 : okV [(1, 0, 63)] f38 := hf_f38 ▸ okV_upd (okV_0 f_sc_numbers) w12ba (by decide)
    have hP : va_P D vwCl [(sc_numbers, .inl (cI, 6, .inl f38)), (sc, .inr (5, [.ref sc_bytes, .int sc_length, .int u1_0, .int u1_1, .int u1_2, .ref sc_numbers, .int 1])), (sc_bytes, .inl (cI, 150, .inl f_sc_bytes))] H := hP
    have hD : va_D (va_A (w_T_num_1_0_63_0 cI cZ cP sc sc_bytes f_sc_bytes sc_length sc_next sc_place sc_sort sc_numbers f_sc_numbers) sz) [(sc_numbers, .inl (cI, 6, .inl f38)), (sc, .inr (5, [.ref sc_bytes, .int sc_length, .int u1_0, .int u1_1, .int u1_2, .ref sc_numbers, .int 1])), (sc_bytes, .inl (cI, 150, .inl f_sc_bytes))] := hD
    refine lv_aload_n hx hb dX5_takeNumber_39 rfl (lv_at hl 1 rfl) ?_
    refine lv_dup hx hb dX5_takeNumber_40 rfl ?_
    refine va_get (D := D) (ci := 5) (v := .int 1) (C := RX5) (T := TX5) (N := 7) hx hb ht inX5 hown hK hP 1 rfl rfl 6 (Nat.le_of_ble_eq_true rfl) (ht _ kw_216) (fun _ h9 => h9) rfl dX5_takeNumber_41 ?_
    refine lv_iconst (v := 1) hx hb dX5_takeNumber_44 (by decide) ?_
    refine lv_iadd hx hb dX5_takeNumber_45 ?_
    refine q_i (z := 2) (by decide) ?_
    refine va_put (D := D) (ci := 5) (v := .int 2) (ty := .int) (C := RX5) (T := TX5) (N := 7) hx hb ht inX5 tyX5 tyX5_ok nmX5 hown hK hP hD hS 1 rfl rfl 6 (Nat.le_of_ble_eq_true rfl) (ht _ kw_216) (fun _ h9 => h9) rfl (by decide +kernel) rfl rfl (Nat.le_of_ble_eq_true rfl) dX5_takeNumber_46 (fun H locs hP hD hS => ?_)
    have hP : va_P D vwCl [(sc_numbers, .inl (cI, 6, .inl f38)), (sc, .inr (5, [.ref sc_bytes, .int sc_length, .int u1_0, .int u1_1, .int u1_2, .ref sc_numbers, .int 2])), (sc_bytes, .inl (cI, 150, .inl f_sc_bytes))] H := hP
    have hD : va_D (va_A (w_T_num_1_0_63_0 cI cZ cP sc sc_bytes f_sc_bytes sc_length sc_next sc_place sc_sort sc_numbers f_sc_numbers) sz) [(sc_numbers, .inl (cI, 6, .inl f38)), (sc, .inr (5, [.ref sc_bytes, .int sc_length, .int u1_0, .int u1_1, .int u1_2, .ref sc_numbers, .int 2])), (sc_bytes, .inl (cI, 150, .inl f_sc_bytes))] := hD
    refine lv_iconst (v := 1) hx hb dX5_takeNumber_49 (by decide) ?_
    exact q_zret hX hr hlk (by decide) (u1_0, u1_1, u1_2, 2, f38) ⟨(Or.inr ⟨rfl, rfl, ov_f38⟩), k1_u1_0, k1_u1_1, k1_u1_2, (rg_w (rg_of (by decide) : rg (2 : Int32) 2 2) (by decide))⟩ (hP.sub [1, 2, 0] rfl) (hD.sub [1, 2, 0] (by decide) rfl) hS dX5_takeNumber_50
  · rw [if_neg d12] at h12; subst h12
    refine lv_if_eq (tgt := 27) hx hb dX5_takeNumber_15 (by decide) (fun c15 => ?_) (fun c15 => absurd rfl c15)
    exact jp_27 x5 u1_0 u1_1 u1_2 h_sc_length k1_u1_0 k1_u1_1 k1_u1_2 d12 _ _ _ hP hD hS (lv_sub hl [1, 2, 3, 0] rfl)
abbrev w_T_num_2_1_v_1 (cI cZ cP : ClassId) (sc : Nat) (sc_bytes : Nat) (f_sc_bytes : Nat → Int32) (sc_length : Int32) (sc_next : Int32) (sc_place : Int32) (sc_sort : Int32) (sc_numbers : Nat) (f_sc_numbers : Nat → Int32) (p1 : Int32) : va_W := [(sc, .inr (5, [.ref sc_bytes, .int sc_length, .int sc_next, .int sc_place, .int sc_sort, .ref sc_numbers, .int 2])), (sc_bytes, .inl (cI, 150, .inl f_sc_bytes)), (sc_numbers, .inl (cI, 6, .inl f_sc_numbers))]
set_option maxHeartbeats 4000000 in
set_option maxRecDepth 100000 in
theorem c_T_num_2_1_v_1 (l : Launch) (D : va_G) (cI cZ cP : ClassId) (sa : Nat → Nat) (sc : Nat) (sc_bytes : Nat) (f_sc_bytes : Nat → Int32) (sc_length : Int32) (sc_next : Int32) (sc_place : Int32) (sc_sort : Int32) (sc_numbers : Nat) (f_sc_numbers : Nat → Int32) (p1 : Int32) (h_sc_length : rg sc_length 0 150) (h_sc_next : rg sc_next 0 150) (h_sc_place : rg sc_place 0 150) (h_p1 : rg p1 1 8) (hx0 : okV [(1, 0, 63)] f_sc_numbers) (sz : Nat) : Met l yX5_takeNumber (qW yX5_takeNumber cX5_takeNumber 4 (some .boolean)) ({ frames := 2, cells := 0, slots := 0, locals := 42 } : Room) (qP D (TY cI cZ cP) sa [.ref sc, .int 1, .int p1] (w_T_num_2_1_v_1 cI cZ cP sc sc_bytes f_sc_bytes sc_length sc_next sc_place sc_sort sc_numbers f_sc_numbers p1) sz) (qQi D (w_T_num_2_1_v_1 cI cZ cP sc sc_bytes f_sc_bytes sc_length sc_next sc_place sc_sort sc_numbers f_sc_numbers p1) sz (fun (r : Int32) (u : (Int32) × (Int32) × (Int32) × (Int32) × (Nat → Int32)) => (r = 0 ∨ (r = 1 ∧ u.2.2.2.1 = 3 ∧ okV [(1, 0, 63)] u.2.2.2.2)) ∧ rg u.1 0 150 ∧ rg u.2.1 0 150 ∧ rg u.2.2.1 0 4 ∧ rg u.2.2.2.1 2 3) (fun u : (Int32) × (Int32) × (Int32) × (Int32) × (Nat → Int32) => [(sc, .inr (5, [.ref sc_bytes, .int sc_length, .int u.1, .int u.2.1, .int u.2.2.1, .ref sc_numbers, .int u.2.2.2.1])), (sc_bytes, .inl (cI, 150, .inl f_sc_bytes)), (sc_numbers, .inl (cI, 6, .inl u.2.2.2.2))])) 0 0 (va_A (w_T_num_2_1_v_1 cI cZ cP sc sc_bytes f_sc_bytes sc_length sc_next sc_place sc_sort sc_numbers f_sc_numbers p1) sz) := by
  refine q_enter (by decide) (Nat.le_of_ble_eq_true rfl) ?_
  intro p e s m below meth c ls hX hr hlk hnm hE hK hP hD hS hA hl
  obtain ⟨hx, hb, hml, hown, ht⟩ := id hX
  have hl : lv_has ls 4 [(0, .ref sc), (1, .int 1), (2, .int p1)] := hl
  have jp_27 : ∀ (x5 : Int32) (u1_0 : Int32) (u1_1 : Int32) (u1_2 : Int32), rg p1 1 8 → rg sc_length 0 150 → rg u1_0 0 150 → rg u1_1 0 150 → rg u1_2 0 4 → okV [(1, 0, 63)] f_sc_numbers → ¬ (1 ≤ x5 ∧ x5 ≤ p1) → ∀ (H : Heap) (locs : List Loc) (ls : Array Slot), va_P D vwCl [(sc_numbers, .inl (cI, 6, .inl f_sc_numbers)), (sc, .inr (5, [.ref sc_bytes, .int sc_length, .int u1_0, .int u1_1, .int u1_2, .ref sc_numbers, .int 2])), (sc_bytes, .inl (cI, 150, .inl f_sc_bytes))] H → va_D (va_A (w_T_num_2_1_v_1 cI cZ cP sc sc_bytes f_sc_bytes sc_length sc_next sc_place sc_sort sc_numbers f_sc_numbers p1) sz) [(sc_numbers, .inl (cI, 6, .inl f_sc_numbers)), (sc, .inr (5, [.ref sc_bytes, .int sc_length, .int u1_0, .int u1_1, .int u1_2, .ref sc_numbers, .int 2])), (sc_bytes, .inl (cI, 150, .inl f_sc_bytes))] → va_S (va_A (w_T_num_2_1_v_1 cI cZ cP sc sc_bytes f_sc_bytes sc_length sc_next sc_place sc_sort sc_numbers f_sc_numbers p1) sz) s.heap H locs → lv_has ls 4 [(0, .ref sc), (1, .int 1), (2, .int p1), (3, .int x5)] → W p l e ({ frames := 2, cells := 0, slots := 0, locals := 42 } : Room) s m ([.ref sc, .int 1, .int p1] : List Value).toArray below meth c H locs 0 0 (MQ below (qQi D (w_T_num_2_1_v_1 cI cZ cP sc sc_bytes f_sc_bytes sc_length sc_next sc_place sc_sort sc_numbers f_sc_numbers p1) sz (fun (r : Int32) (u : (Int32) × (Int32) × (Int32) × (Int32) × (Nat → Int32)) => (r = 0 ∨ (r = 1 ∧ u.2.2.2.1 = 3 ∧ okV [(1, 0, 63)] u.2.2.2.2)) ∧ rg u.1 0 150 ∧ rg u.2.1 0 150 ∧ rg u.2.2.1 0 4 ∧ rg u.2.2.2.1 2 3) (fun u : (Int32) × (Int32) × (Int32) × (Int32) × (Nat → Int32) => [(sc, .inr (5, [.ref sc_bytes, .int sc_length, .int u.1, .int u.2.1, .int u.2.2.1, .ref sc_numbers, .int u.2.2.2.1])), (sc_bytes, .inl (cI, 150, .inl f_sc_bytes)), (sc_numbers, .inl (cI, 6, .inl u.2.2.2.2))])) ([.ref sc, .int 1, .int p1] : List Value).toArray s 0 0 (va_A (w_T_num_2_1_v_1 cI cZ cP sc sc_bytes f_sc_bytes sc_length sc_next sc_place sc_sort sc_numbers f_sc_numbers p1) sz)) (F0 m 27 ls []) := by
    intro x5 u1_0 u1_1 u1_2 g27_p1 g27_sc_length g27_u1_0 g27_u1_1 g27_u1_2 x27_5 x27_6 H locs ls hP hD hS hl
    refine lv_iconst (v := 0) hx hb dX5_takeNumber_27 (by decide) ?_
    exact q_zret hX hr hlk (by decide) (u1_0, u1_1, u1_2, 2, f_sc_numbers) ⟨(Or.inl rfl), g27_u1_0, g27_u1_1, g27_u1_2, (rg_w (rg_of (by decide) : rg (2 : Int32) 2 2) (by decide))⟩ (hP.sub [1, 2, 0] rfl) (hD.sub [1, 2, 0] (by decide) rfl) hS dX5_takeNumber_28
  refine lv_aload_n hx hb dX5_takeNumber_0 rfl (lv_at hl 0 rfl) ?_
  refine q_Vv (wr := [(sc_numbers, .inl (cI, 6, .inl f_sc_numbers))]) [0, 1] [2] hX hE hK hP hD hS hA hl.1 lk_X5_25 (c_T_takeToken l D cI cZ cP sa sc sc_bytes f_sc_bytes sc_length sc_next sc_place sc_sort sc_numbers 2 h_sc_length h_sc_next h_sc_place (rg_w (rg_of (by decide) : rg (2 : Int32) 2 2) (by decide)) _) rfl rfl rfl rfl (by decide) 0 5 rfl rfl rfl rfl (Nat.le_of_ble_eq_true rfl) rfl rfl ⟨Nat.le_of_ble_eq_true rfl, Nat.le_of_ble_eq_true rfl⟩ ⟨Nat.le_of_ble_eq_true rfl, Nat.le_of_ble_eq_true rfl⟩ dX5_takeNumber_1 (fun u1 H locs h1 hP hD hS => ?_)
  obtain ⟨u1_0, u1_1, u1_2⟩ := u1
  obtain ⟨k1_u1_0, k1_u1_1, k1_u1_2⟩ := h1
  have hP : va_P D vwCl [(sc_numbers, .inl (cI, 6, .inl f_sc_numbers)), (sc, .inr (5, [.ref sc_bytes, .int sc_length, .int u1_0, .int u1_1, .int u1_2, .ref sc_numbers, .int 2])), (sc_bytes, .inl (cI, 150, .inl f_sc_bytes))] H := hP
  have hD : va_D (va_A (w_T_num_2_1_v_1 cI cZ cP sc sc_bytes f_sc_bytes sc_length sc_next sc_place sc_sort sc_numbers f_sc_numbers p1) sz) [(sc_numbers, .inl (cI, 6, .inl f_sc_numbers)), (sc, .inr (5, [.ref sc_bytes, .int sc_length, .int u1_0, .int u1_1, .int u1_2, .ref sc_numbers, .int 2])), (sc_bytes, .inl (cI, 150, .inl f_sc_bytes))] := hD
  refine lv_aload_n hx hb dX5_takeNumber_4 rfl (lv_at hl 0 rfl) ?_
  refine q_Vi (wr := [(sc_numbers, .inl (cI, 6, .inl f_sc_numbers))]) [1, 2] [0] hX hE hK hP hD hS hA hl.1 lk_X5_90 (c_T_numberValue l D cI cZ cP sa sc sc_bytes f_sc_bytes sc_length u1_0 u1_1 u1_2 sc_numbers 2 h_sc_length k1_u1_0 k1_u1_1 (rg_w (rg_of (by decide) : rg (2 : Int32) 2 2) (by decide)) _) rfl rfl rfl rfl (by decide) 0 5 rfl rfl rfl rfl (Nat.le_of_ble_eq_true rfl) rfl rfl ⟨Nat.le_of_ble_eq_true rfl, Nat.le_of_ble_eq_true rfl⟩ ⟨Nat.le_of_ble_eq_true rfl, Nat.le_of_ble_eq_true rfl⟩ dX5_takeNumber_5 (fun x5 _ H locs h5 hP hD hS => ?_)
  have hP : va_P D vwCl [(sc_numbers, .inl (cI, 6, .inl f_sc_numbers)), (sc, .inr (5, [.ref sc_bytes, .int sc_length, .int u1_0, .int u1_1, .int u1_2, .ref sc_numbers, .int 2])), (sc_bytes, .inl (cI, 150, .inl f_sc_bytes))] H := hP
  have hD : va_D (va_A (w_T_num_2_1_v_1 cI cZ cP sc sc_bytes f_sc_bytes sc_length sc_next sc_place sc_sort sc_numbers f_sc_numbers p1) sz) [(sc_numbers, .inl (cI, 6, .inl f_sc_numbers)), (sc, .inr (5, [.ref sc_bytes, .int sc_length, .int u1_0, .int u1_1, .int u1_2, .ref sc_numbers, .int 2])), (sc_bytes, .inl (cI, 150, .inl f_sc_bytes))] := hD
  refine lv_istore_n (lv' := [(3, .int x5), (0, .ref sc), (1, .int 1), (2, .int p1)]) hx hb dX5_takeNumber_8 rfl hl (by decide) rfl (fun ls hl => ?_)
  refine lv_iload_n hx hb dX5_takeNumber_9 rfl (lv_at hl 0 rfl) ?_
  refine lv_iload_n hx hb dX5_takeNumber_10 rfl (lv_at hl 2 rfl) ?_
  refine lv_iload_n hx hb dX5_takeNumber_11 rfl (lv_at hl 3 rfl) ?_
  refine q_SNi (k := 3) (wr := [(sc_numbers, .inl (cI, 6, .inl f_sc_numbers)), (sc, .inr (5, [.ref sc_bytes, .int sc_length, .int u1_0, .int u1_1, .int u1_2, .ref sc_numbers, .int 2])), (sc_bytes, .inl (cI, 150, .inl f_sc_bytes))]) [] [0, 1, 2] hX hE hK hP hD hS hA hl.1 (List.mem_of_getElem? (i := 5) rfl) ⟨mem_tb 386 rfl rfl, mem_tb 87 rfl rfl, (by decide +kernel), mem_tb 385 rfl rfl⟩ (c_within l D cI cZ cP sa x5 1 p1 _) rfl rfl rfl rfl (by decide) rfl rfl (Nat.le_of_ble_eq_true rfl) rfl rfl ⟨Nat.le_of_ble_eq_true rfl, Nat.le_of_ble_eq_true rfl⟩ ⟨Nat.le_of_ble_eq_true rfl, Nat.le_of_ble_eq_true rfl⟩ dX5_takeNumber_12 (fun x12 _ H locs h12 hP hD hS => ?_)
  have hP : va_P D vwCl [(sc_numbers, .inl (cI, 6, .inl f_sc_numbers)), (sc, .inr (5, [.ref sc_bytes, .int sc_length, .int u1_0, .int u1_1, .int u1_2, .ref sc_numbers, .int 2])), (sc_bytes, .inl (cI, 150, .inl f_sc_bytes))] H := hP
  have hD : va_D (va_A (w_T_num_2_1_v_1 cI cZ cP sc sc_bytes f_sc_bytes sc_length sc_next sc_place sc_sort sc_numbers f_sc_numbers p1) sz) [(sc_numbers, .inl (cI, 6, .inl f_sc_numbers)), (sc, .inr (5, [.ref sc_bytes, .int sc_length, .int u1_0, .int u1_1, .int u1_2, .ref sc_numbers, .int 2])), (sc_bytes, .inl (cI, 150, .inl f_sc_bytes))] := hD
  rcases Classical.em (1 ≤ x5 ∧ x5 ≤ p1) with d12 | d12
  · rw [if_pos d12] at h12; subst h12
    have w12ab : rg x5 1 2147483647 := rg_leR d12.1 (rg_of (by decide) : rg (1 : Int32) 1 1) (rg_any x5) (by decide)
    have w12ba : rg x5 1 8 := rg_leL d12.2 w12ab h_p1 (by decide)
    refine lv_if_eq (tgt := 27) hx hb dX5_takeNumber_15 (by decide) (fun c15 => (rg_eqF c15 (rg_of (by decide) : rg (1 : Int32) 1 1) (rg_of (by decide) : rg (0 : Int32) 0 0) (by decide)).elim) (fun c15 => ?_)
    refine lv_aload_n hx hb dX5_takeNumber_18 rfl (lv_at hl 1 rfl) ?_
    refine va_get (D := D) (ci := 5) (v := .int 2) (C := RX5) (T := TX5) (N := 7) hx hb ht inX5 hown hK hP 1 rfl rfl 6 (Nat.le_of_ble_eq_true rfl) (ht _ kw_216) (fun _ h9 => h9) rfl dX5_takeNumber_19 ?_
    refine lv_bipush (v := 6) hx hb dX5_takeNumber_22 (by decide) ?_
    refine lv_icmp_lt (tgt := 29) hx hb dX5_takeNumber_24 (by decide) (fun c24 => ?_) (fun c24 => (rg_leF (Int32.not_lt.mp c24) (rg_of (by decide) : rg (6 : Int32) 6 6) (rg_of (by decide) : rg (2 : Int32) 2 2) (by decide)).elim)
    refine lv_aload_n hx hb dX5_takeNumber_29 rfl (lv_at hl 1 rfl) ?_
    refine va_get (D := D) (ci := 5) (v := .ref sc_numbers) (C := RX5) (T := TX5) (N := 7) hx hb ht inX5 hown hK hP 1 rfl rfl 5 (Nat.le_of_ble_eq_true rfl) (ht _ kw_215) (fun _ h9 => h9) rfl dX5_takeNumber_30 ?_
    refine lv_aload_n hx hb dX5_takeNumber_33 rfl (lv_at hl 1 rfl) ?_
    refine va_get (D := D) (ci := 5) (v := .int 2) (C := RX5) (T := TX5) (N := 7) hx hb ht inX5 hown hK hP 1 rfl rfl 6 (Nat.le_of_ble_eq_true rfl) (ht _ kw_216) (fun _ h9 => h9) rfl dX5_takeNumber_34 ?_
    refine lv_iload_n hx hb dX5_takeNumber_37 rfl (lv_at hl 0 rfl) ?_
    refine va_iast hx hb hK hP hD hS 0 0 rfl rfl (rg_in (rg_of (by decide) : rg (2 : Int32) 2 2) (by decide)) dX5_takeNumber_38 (fun H locs hP hD hS => ?_)
    have hP : va_P D vwCl [(sc_numbers, .inl (cI, 6, .inl (upd f_sc_numbers (2 : Int32).toNatClampNeg x5))), (sc, .inr (5, [.ref sc_bytes, .int sc_length, .int u1_0, .int u1_1, .int u1_2, .ref sc_numbers, .int 2])), (sc_bytes, .inl (cI, 150, .inl f_sc_bytes))] H := hP
    have hD : va_D (va_A (w_T_num_2_1_v_1 cI cZ cP sc sc_bytes f_sc_bytes sc_length sc_next sc_place sc_sort sc_numbers f_sc_numbers p1) sz) [(sc_numbers, .inl (cI, 6, .inl (upd f_sc_numbers (2 : Int32).toNatClampNeg x5))), (sc, .inr (5, [.ref sc_bytes, .int sc_length, .int u1_0, .int u1_1, .int u1_2, .ref sc_numbers, .int 2])), (sc_bytes, .inl (cI, 150, .inl f_sc_bytes))] := hD
    generalize hf_f38 : (upd f_sc_numbers (2 : Int32).toNatClampNeg x5) = f38 at hP hD
    have ov_f38 : okV [(1, 0, 63)] f38 := hf_f38 ▸ okV_keep hx0 (by decide)
    have hP : va_P D vwCl [(sc_numbers, .inl (cI, 6, .inl f38)), (sc, .inr (5, [.ref sc_bytes, .int sc_length, .int u1_0, .int u1_1, .int u1_2, .ref sc_numbers, .int 2])), (sc_bytes, .inl (cI, 150, .inl f_sc_bytes))] H := hP
    have hD : va_D (va_A (w_T_num_2_1_v_1 cI cZ cP sc sc_bytes f_sc_bytes sc_length sc_next sc_place sc_sort sc_numbers f_sc_numbers p1) sz) [(sc_numbers, .inl (cI, 6, .inl f38)), (sc, .inr (5, [.ref sc_bytes, .int sc_length, .int u1_0, .int u1_1, .int u1_2, .ref sc_numbers, .int 2])), (sc_bytes, .inl (cI, 150, .inl f_sc_bytes))] := hD
    refine lv_aload_n hx hb dX5_takeNumber_39 rfl (lv_at hl 1 rfl) ?_
    refine lv_dup hx hb dX5_takeNumber_40 rfl ?_
    refine va_get (D := D) (ci := 5) (v := .int 2) (C := RX5) (T := TX5) (N := 7) hx hb ht inX5 hown hK hP 1 rfl rfl 6 (Nat.le_of_ble_eq_true rfl) (ht _ kw_216) (fun _ h9 => h9) rfl dX5_takeNumber_41 ?_
    refine lv_iconst (v := 1) hx hb dX5_takeNumber_44 (by decide) ?_
    refine lv_iadd hx hb dX5_takeNumber_45 ?_
    refine q_i (z := 3) (by decide) ?_
    refine va_put (D := D) (ci := 5) (v := .int 3) (ty := .int) (C := RX5) (T := TX5) (N := 7) hx hb ht inX5 tyX5 tyX5_ok nmX5 hown hK hP hD hS 1 rfl rfl 6 (Nat.le_of_ble_eq_true rfl) (ht _ kw_216) (fun _ h9 => h9) rfl (by decide +kernel) rfl rfl (Nat.le_of_ble_eq_true rfl) dX5_takeNumber_46 (fun H locs hP hD hS => ?_)
    have hP : va_P D vwCl [(sc_numbers, .inl (cI, 6, .inl f38)), (sc, .inr (5, [.ref sc_bytes, .int sc_length, .int u1_0, .int u1_1, .int u1_2, .ref sc_numbers, .int 3])), (sc_bytes, .inl (cI, 150, .inl f_sc_bytes))] H := hP
    have hD : va_D (va_A (w_T_num_2_1_v_1 cI cZ cP sc sc_bytes f_sc_bytes sc_length sc_next sc_place sc_sort sc_numbers f_sc_numbers p1) sz) [(sc_numbers, .inl (cI, 6, .inl f38)), (sc, .inr (5, [.ref sc_bytes, .int sc_length, .int u1_0, .int u1_1, .int u1_2, .ref sc_numbers, .int 3])), (sc_bytes, .inl (cI, 150, .inl f_sc_bytes))] := hD
    refine lv_iconst (v := 1) hx hb dX5_takeNumber_49 (by decide) ?_
    exact q_zret hX hr hlk (by decide) (u1_0, u1_1, u1_2, 3, f38) ⟨(Or.inr ⟨rfl, rfl, ov_f38⟩), k1_u1_0, k1_u1_1, k1_u1_2, (rg_w (rg_of (by decide) : rg (3 : Int32) 3 3) (by decide))⟩ (hP.sub [1, 2, 0] rfl) (hD.sub [1, 2, 0] (by decide) rfl) hS dX5_takeNumber_50
  · rw [if_neg d12] at h12; subst h12
    refine lv_if_eq (tgt := 27) hx hb dX5_takeNumber_15 (by decide) (fun c15 => ?_) (fun c15 => absurd rfl c15)
    exact jp_27 x5 u1_0 u1_1 u1_2 h_p1 h_sc_length k1_u1_0 k1_u1_1 k1_u1_2 hx0 d12 _ _ _ hP hD hS (lv_sub hl [1, 2, 3, 0] rfl)
abbrev w_T_num_3_0_1_1 (cI cZ cP : ClassId) (sc : Nat) (sc_bytes : Nat) (f_sc_bytes : Nat → Int32) (sc_length : Int32) (sc_next : Int32) (sc_place : Int32) (sc_sort : Int32) (sc_numbers : Nat) (f_sc_numbers : Nat → Int32) : va_W := [(sc, .inr (5, [.ref sc_bytes, .int sc_length, .int sc_next, .int sc_place, .int sc_sort, .ref sc_numbers, .int 3])), (sc_bytes, .inl (cI, 150, .inl f_sc_bytes)), (sc_numbers, .inl (cI, 6, .inl f_sc_numbers))]
set_option maxHeartbeats 4000000 in
set_option maxRecDepth 100000 in
theorem c_T_num_3_0_1_1 (l : Launch) (D : va_G) (cI cZ cP : ClassId) (sa : Nat → Nat) (sc : Nat) (sc_bytes : Nat) (f_sc_bytes : Nat → Int32) (sc_length : Int32) (sc_next : Int32) (sc_place : Int32) (sc_sort : Int32) (sc_numbers : Nat) (f_sc_numbers : Nat → Int32) (h_sc_length : rg sc_length 0 150) (h_sc_next : rg sc_next 0 150) (h_sc_place : rg sc_place 0 150) (hx0 : okV [(1, 0, 63)] f_sc_numbers) (sz : Nat) : Met l yX5_takeNumber (qW yX5_takeNumber cX5_takeNumber 4 (some .boolean)) ({ frames := 2, cells := 0, slots := 0, locals := 42 } : Room) (qP D (TY cI cZ cP) sa [.ref sc, .int 0, .int 1] (w_T_num_3_0_1_1 cI cZ cP sc sc_bytes f_sc_bytes sc_length sc_next sc_place sc_sort sc_numbers f_sc_numbers) sz) (qQi D (w_T_num_3_0_1_1 cI cZ cP sc sc_bytes f_sc_bytes sc_length sc_next sc_place sc_sort sc_numbers f_sc_numbers) sz (fun (r : Int32) (u : (Int32) × (Int32) × (Int32) × (Int32) × (Nat → Int32)) => (r = 0 ∨ (r = 1 ∧ u.2.2.2.1 = 4 ∧ okV [(1, 0, 63)] u.2.2.2.2)) ∧ rg u.1 0 150 ∧ rg u.2.1 0 150 ∧ rg u.2.2.1 0 4 ∧ rg u.2.2.2.1 3 4) (fun u : (Int32) × (Int32) × (Int32) × (Int32) × (Nat → Int32) => [(sc, .inr (5, [.ref sc_bytes, .int sc_length, .int u.1, .int u.2.1, .int u.2.2.1, .ref sc_numbers, .int u.2.2.2.1])), (sc_bytes, .inl (cI, 150, .inl f_sc_bytes)), (sc_numbers, .inl (cI, 6, .inl u.2.2.2.2))])) 0 0 (va_A (w_T_num_3_0_1_1 cI cZ cP sc sc_bytes f_sc_bytes sc_length sc_next sc_place sc_sort sc_numbers f_sc_numbers) sz) := by
  refine q_enter (by decide) (Nat.le_of_ble_eq_true rfl) ?_
  intro p e s m below meth c ls hX hr hlk hnm hE hK hP hD hS hA hl
  obtain ⟨hx, hb, hml, hown, ht⟩ := id hX
  have hl : lv_has ls 4 [(0, .ref sc), (1, .int 0), (2, .int 1)] := hl
  have jp_27 : ∀ (x5 : Int32) (u1_0 : Int32) (u1_1 : Int32) (u1_2 : Int32), rg sc_length 0 150 → rg u1_0 0 150 → rg u1_1 0 150 → rg u1_2 0 4 → okV [(1, 0, 63)] f_sc_numbers → ¬ (0 ≤ x5 ∧ x5 ≤ 1) → ∀ (H : Heap) (locs : List Loc) (ls : Array Slot), va_P D vwCl [(sc_numbers, .inl (cI, 6, .inl f_sc_numbers)), (sc, .inr (5, [.ref sc_bytes, .int sc_length, .int u1_0, .int u1_1, .int u1_2, .ref sc_numbers, .int 3])), (sc_bytes, .inl (cI, 150, .inl f_sc_bytes))] H → va_D (va_A (w_T_num_3_0_1_1 cI cZ cP sc sc_bytes f_sc_bytes sc_length sc_next sc_place sc_sort sc_numbers f_sc_numbers) sz) [(sc_numbers, .inl (cI, 6, .inl f_sc_numbers)), (sc, .inr (5, [.ref sc_bytes, .int sc_length, .int u1_0, .int u1_1, .int u1_2, .ref sc_numbers, .int 3])), (sc_bytes, .inl (cI, 150, .inl f_sc_bytes))] → va_S (va_A (w_T_num_3_0_1_1 cI cZ cP sc sc_bytes f_sc_bytes sc_length sc_next sc_place sc_sort sc_numbers f_sc_numbers) sz) s.heap H locs → lv_has ls 4 [(0, .ref sc), (1, .int 0), (2, .int 1), (3, .int x5)] → W p l e ({ frames := 2, cells := 0, slots := 0, locals := 42 } : Room) s m ([.ref sc, .int 0, .int 1] : List Value).toArray below meth c H locs 0 0 (MQ below (qQi D (w_T_num_3_0_1_1 cI cZ cP sc sc_bytes f_sc_bytes sc_length sc_next sc_place sc_sort sc_numbers f_sc_numbers) sz (fun (r : Int32) (u : (Int32) × (Int32) × (Int32) × (Int32) × (Nat → Int32)) => (r = 0 ∨ (r = 1 ∧ u.2.2.2.1 = 4 ∧ okV [(1, 0, 63)] u.2.2.2.2)) ∧ rg u.1 0 150 ∧ rg u.2.1 0 150 ∧ rg u.2.2.1 0 4 ∧ rg u.2.2.2.1 3 4) (fun u : (Int32) × (Int32) × (Int32) × (Int32) × (Nat → Int32) => [(sc, .inr (5, [.ref sc_bytes, .int sc_length, .int u.1, .int u.2.1, .int u.2.2.1, .ref sc_numbers, .int u.2.2.2.1])), (sc_bytes, .inl (cI, 150, .inl f_sc_bytes)), (sc_numbers, .inl (cI, 6, .inl u.2.2.2.2))])) ([.ref sc, .int 0, .int 1] : List Value).toArray s 0 0 (va_A (w_T_num_3_0_1_1 cI cZ cP sc sc_bytes f_sc_bytes sc_length sc_next sc_place sc_sort sc_numbers f_sc_numbers) sz)) (F0 m 27 ls []) := by
    intro x5 u1_0 u1_1 u1_2 g27_sc_length g27_u1_0 g27_u1_1 g27_u1_2 x27_4 x27_5 H locs ls hP hD hS hl
    refine lv_iconst (v := 0) hx hb dX5_takeNumber_27 (by decide) ?_
    exact q_zret hX hr hlk (by decide) (u1_0, u1_1, u1_2, 3, f_sc_numbers) ⟨(Or.inl rfl), g27_u1_0, g27_u1_1, g27_u1_2, (rg_w (rg_of (by decide) : rg (3 : Int32) 3 3) (by decide))⟩ (hP.sub [1, 2, 0] rfl) (hD.sub [1, 2, 0] (by decide) rfl) hS dX5_takeNumber_28
  refine lv_aload_n hx hb dX5_takeNumber_0 rfl (lv_at hl 0 rfl) ?_
  refine q_Vv (wr := [(sc_numbers, .inl (cI, 6, .inl f_sc_numbers))]) [0, 1] [2] hX hE hK hP hD hS hA hl.1 lk_X5_25 (c_T_takeToken l D cI cZ cP sa sc sc_bytes f_sc_bytes sc_length sc_next sc_place sc_sort sc_numbers 3 h_sc_length h_sc_next h_sc_place (rg_w (rg_of (by decide) : rg (3 : Int32) 3 3) (by decide)) _) rfl rfl rfl rfl (by decide) 0 5 rfl rfl rfl rfl (Nat.le_of_ble_eq_true rfl) rfl rfl ⟨Nat.le_of_ble_eq_true rfl, Nat.le_of_ble_eq_true rfl⟩ ⟨Nat.le_of_ble_eq_true rfl, Nat.le_of_ble_eq_true rfl⟩ dX5_takeNumber_1 (fun u1 H locs h1 hP hD hS => ?_)
  obtain ⟨u1_0, u1_1, u1_2⟩ := u1
  obtain ⟨k1_u1_0, k1_u1_1, k1_u1_2⟩ := h1
  have hP : va_P D vwCl [(sc_numbers, .inl (cI, 6, .inl f_sc_numbers)), (sc, .inr (5, [.ref sc_bytes, .int sc_length, .int u1_0, .int u1_1, .int u1_2, .ref sc_numbers, .int 3])), (sc_bytes, .inl (cI, 150, .inl f_sc_bytes))] H := hP
  have hD : va_D (va_A (w_T_num_3_0_1_1 cI cZ cP sc sc_bytes f_sc_bytes sc_length sc_next sc_place sc_sort sc_numbers f_sc_numbers) sz) [(sc_numbers, .inl (cI, 6, .inl f_sc_numbers)), (sc, .inr (5, [.ref sc_bytes, .int sc_length, .int u1_0, .int u1_1, .int u1_2, .ref sc_numbers, .int 3])), (sc_bytes, .inl (cI, 150, .inl f_sc_bytes))] := hD
  refine lv_aload_n hx hb dX5_takeNumber_4 rfl (lv_at hl 0 rfl) ?_
  refine q_Vi (wr := [(sc_numbers, .inl (cI, 6, .inl f_sc_numbers))]) [1, 2] [0] hX hE hK hP hD hS hA hl.1 lk_X5_90 (c_T_numberValue l D cI cZ cP sa sc sc_bytes f_sc_bytes sc_length u1_0 u1_1 u1_2 sc_numbers 3 h_sc_length k1_u1_0 k1_u1_1 (rg_w (rg_of (by decide) : rg (3 : Int32) 3 3) (by decide)) _) rfl rfl rfl rfl (by decide) 0 5 rfl rfl rfl rfl (Nat.le_of_ble_eq_true rfl) rfl rfl ⟨Nat.le_of_ble_eq_true rfl, Nat.le_of_ble_eq_true rfl⟩ ⟨Nat.le_of_ble_eq_true rfl, Nat.le_of_ble_eq_true rfl⟩ dX5_takeNumber_5 (fun x5 _ H locs h5 hP hD hS => ?_)
  have hP : va_P D vwCl [(sc_numbers, .inl (cI, 6, .inl f_sc_numbers)), (sc, .inr (5, [.ref sc_bytes, .int sc_length, .int u1_0, .int u1_1, .int u1_2, .ref sc_numbers, .int 3])), (sc_bytes, .inl (cI, 150, .inl f_sc_bytes))] H := hP
  have hD : va_D (va_A (w_T_num_3_0_1_1 cI cZ cP sc sc_bytes f_sc_bytes sc_length sc_next sc_place sc_sort sc_numbers f_sc_numbers) sz) [(sc_numbers, .inl (cI, 6, .inl f_sc_numbers)), (sc, .inr (5, [.ref sc_bytes, .int sc_length, .int u1_0, .int u1_1, .int u1_2, .ref sc_numbers, .int 3])), (sc_bytes, .inl (cI, 150, .inl f_sc_bytes))] := hD
  refine lv_istore_n (lv' := [(3, .int x5), (0, .ref sc), (1, .int 0), (2, .int 1)]) hx hb dX5_takeNumber_8 rfl hl (by decide) rfl (fun ls hl => ?_)
  refine lv_iload_n hx hb dX5_takeNumber_9 rfl (lv_at hl 0 rfl) ?_
  refine lv_iload_n hx hb dX5_takeNumber_10 rfl (lv_at hl 2 rfl) ?_
  refine lv_iload_n hx hb dX5_takeNumber_11 rfl (lv_at hl 3 rfl) ?_
  refine q_SNi (k := 3) (wr := [(sc_numbers, .inl (cI, 6, .inl f_sc_numbers)), (sc, .inr (5, [.ref sc_bytes, .int sc_length, .int u1_0, .int u1_1, .int u1_2, .ref sc_numbers, .int 3])), (sc_bytes, .inl (cI, 150, .inl f_sc_bytes))]) [] [0, 1, 2] hX hE hK hP hD hS hA hl.1 (List.mem_of_getElem? (i := 5) rfl) ⟨mem_tb 386 rfl rfl, mem_tb 87 rfl rfl, (by decide +kernel), mem_tb 385 rfl rfl⟩ (c_within l D cI cZ cP sa x5 0 1 _) rfl rfl rfl rfl (by decide) rfl rfl (Nat.le_of_ble_eq_true rfl) rfl rfl ⟨Nat.le_of_ble_eq_true rfl, Nat.le_of_ble_eq_true rfl⟩ ⟨Nat.le_of_ble_eq_true rfl, Nat.le_of_ble_eq_true rfl⟩ dX5_takeNumber_12 (fun x12 _ H locs h12 hP hD hS => ?_)
  have hP : va_P D vwCl [(sc_numbers, .inl (cI, 6, .inl f_sc_numbers)), (sc, .inr (5, [.ref sc_bytes, .int sc_length, .int u1_0, .int u1_1, .int u1_2, .ref sc_numbers, .int 3])), (sc_bytes, .inl (cI, 150, .inl f_sc_bytes))] H := hP
  have hD : va_D (va_A (w_T_num_3_0_1_1 cI cZ cP sc sc_bytes f_sc_bytes sc_length sc_next sc_place sc_sort sc_numbers f_sc_numbers) sz) [(sc_numbers, .inl (cI, 6, .inl f_sc_numbers)), (sc, .inr (5, [.ref sc_bytes, .int sc_length, .int u1_0, .int u1_1, .int u1_2, .ref sc_numbers, .int 3])), (sc_bytes, .inl (cI, 150, .inl f_sc_bytes))] := hD
  rcases Classical.em (0 ≤ x5 ∧ x5 ≤ 1) with d12 | d12
  · rw [if_pos d12] at h12; subst h12
    have w12ab : rg x5 0 2147483647 := rg_leR d12.1 (rg_of (by decide) : rg (0 : Int32) 0 0) (rg_any x5) (by decide)
    have w12ba : rg x5 0 1 := rg_leL d12.2 w12ab (rg_of (by decide) : rg (1 : Int32) 1 1) (by decide)
    refine lv_if_eq (tgt := 27) hx hb dX5_takeNumber_15 (by decide) (fun c15 => (rg_eqF c15 (rg_of (by decide) : rg (1 : Int32) 1 1) (rg_of (by decide) : rg (0 : Int32) 0 0) (by decide)).elim) (fun c15 => ?_)
    refine lv_aload_n hx hb dX5_takeNumber_18 rfl (lv_at hl 1 rfl) ?_
    refine va_get (D := D) (ci := 5) (v := .int 3) (C := RX5) (T := TX5) (N := 7) hx hb ht inX5 hown hK hP 1 rfl rfl 6 (Nat.le_of_ble_eq_true rfl) (ht _ kw_216) (fun _ h9 => h9) rfl dX5_takeNumber_19 ?_
    refine lv_bipush (v := 6) hx hb dX5_takeNumber_22 (by decide) ?_
    refine lv_icmp_lt (tgt := 29) hx hb dX5_takeNumber_24 (by decide) (fun c24 => ?_) (fun c24 => (rg_leF (Int32.not_lt.mp c24) (rg_of (by decide) : rg (6 : Int32) 6 6) (rg_of (by decide) : rg (3 : Int32) 3 3) (by decide)).elim)
    refine lv_aload_n hx hb dX5_takeNumber_29 rfl (lv_at hl 1 rfl) ?_
    refine va_get (D := D) (ci := 5) (v := .ref sc_numbers) (C := RX5) (T := TX5) (N := 7) hx hb ht inX5 hown hK hP 1 rfl rfl 5 (Nat.le_of_ble_eq_true rfl) (ht _ kw_215) (fun _ h9 => h9) rfl dX5_takeNumber_30 ?_
    refine lv_aload_n hx hb dX5_takeNumber_33 rfl (lv_at hl 1 rfl) ?_
    refine va_get (D := D) (ci := 5) (v := .int 3) (C := RX5) (T := TX5) (N := 7) hx hb ht inX5 hown hK hP 1 rfl rfl 6 (Nat.le_of_ble_eq_true rfl) (ht _ kw_216) (fun _ h9 => h9) rfl dX5_takeNumber_34 ?_
    refine lv_iload_n hx hb dX5_takeNumber_37 rfl (lv_at hl 0 rfl) ?_
    refine va_iast hx hb hK hP hD hS 0 0 rfl rfl (rg_in (rg_of (by decide) : rg (3 : Int32) 3 3) (by decide)) dX5_takeNumber_38 (fun H locs hP hD hS => ?_)
    have hP : va_P D vwCl [(sc_numbers, .inl (cI, 6, .inl (upd f_sc_numbers (3 : Int32).toNatClampNeg x5))), (sc, .inr (5, [.ref sc_bytes, .int sc_length, .int u1_0, .int u1_1, .int u1_2, .ref sc_numbers, .int 3])), (sc_bytes, .inl (cI, 150, .inl f_sc_bytes))] H := hP
    have hD : va_D (va_A (w_T_num_3_0_1_1 cI cZ cP sc sc_bytes f_sc_bytes sc_length sc_next sc_place sc_sort sc_numbers f_sc_numbers) sz) [(sc_numbers, .inl (cI, 6, .inl (upd f_sc_numbers (3 : Int32).toNatClampNeg x5))), (sc, .inr (5, [.ref sc_bytes, .int sc_length, .int u1_0, .int u1_1, .int u1_2, .ref sc_numbers, .int 3])), (sc_bytes, .inl (cI, 150, .inl f_sc_bytes))] := hD
    generalize hf_f38 : (upd f_sc_numbers (3 : Int32).toNatClampNeg x5) = f38 at hP hD
    have ov_f38 : okV [(1, 0, 63)] f38 := hf_f38 ▸ okV_keep hx0 (by decide)
    have hP : va_P D vwCl [(sc_numbers, .inl (cI, 6, .inl f38)), (sc, .inr (5, [.ref sc_bytes, .int sc_length, .int u1_0, .int u1_1, .int u1_2, .ref sc_numbers, .int 3])), (sc_bytes, .inl (cI, 150, .inl f_sc_bytes))] H := hP
    have hD : va_D (va_A (w_T_num_3_0_1_1 cI cZ cP sc sc_bytes f_sc_bytes sc_length sc_next sc_place sc_sort sc_numbers f_sc_numbers) sz) [(sc_numbers, .inl (cI, 6, .inl f38)), (sc, .inr (5, [.ref sc_bytes, .int sc_length, .int u1_0, .int u1_1, .int u1_2, .ref sc_numbers, .int 3])), (sc_bytes, .inl (cI, 150, .inl f_sc_bytes))] := hD
    refine lv_aload_n hx hb dX5_takeNumber_39 rfl (lv_at hl 1 rfl) ?_
    refine lv_dup hx hb dX5_takeNumber_40 rfl ?_
    refine va_get (D := D) (ci := 5) (v := .int 3) (C := RX5) (T := TX5) (N := 7) hx hb ht inX5 hown hK hP 1 rfl rfl 6 (Nat.le_of_ble_eq_true rfl) (ht _ kw_216) (fun _ h9 => h9) rfl dX5_takeNumber_41 ?_
    refine lv_iconst (v := 1) hx hb dX5_takeNumber_44 (by decide) ?_
    refine lv_iadd hx hb dX5_takeNumber_45 ?_
    refine q_i (z := 4) (by decide) ?_
    refine va_put (D := D) (ci := 5) (v := .int 4) (ty := .int) (C := RX5) (T := TX5) (N := 7) hx hb ht inX5 tyX5 tyX5_ok nmX5 hown hK hP hD hS 1 rfl rfl 6 (Nat.le_of_ble_eq_true rfl) (ht _ kw_216) (fun _ h9 => h9) rfl (by decide +kernel) rfl rfl (Nat.le_of_ble_eq_true rfl) dX5_takeNumber_46 (fun H locs hP hD hS => ?_)
    have hP : va_P D vwCl [(sc_numbers, .inl (cI, 6, .inl f38)), (sc, .inr (5, [.ref sc_bytes, .int sc_length, .int u1_0, .int u1_1, .int u1_2, .ref sc_numbers, .int 4])), (sc_bytes, .inl (cI, 150, .inl f_sc_bytes))] H := hP
    have hD : va_D (va_A (w_T_num_3_0_1_1 cI cZ cP sc sc_bytes f_sc_bytes sc_length sc_next sc_place sc_sort sc_numbers f_sc_numbers) sz) [(sc_numbers, .inl (cI, 6, .inl f38)), (sc, .inr (5, [.ref sc_bytes, .int sc_length, .int u1_0, .int u1_1, .int u1_2, .ref sc_numbers, .int 4])), (sc_bytes, .inl (cI, 150, .inl f_sc_bytes))] := hD
    refine lv_iconst (v := 1) hx hb dX5_takeNumber_49 (by decide) ?_
    exact q_zret hX hr hlk (by decide) (u1_0, u1_1, u1_2, 4, f38) ⟨(Or.inr ⟨rfl, rfl, ov_f38⟩), k1_u1_0, k1_u1_1, k1_u1_2, (rg_w (rg_of (by decide) : rg (4 : Int32) 4 4) (by decide))⟩ (hP.sub [1, 2, 0] rfl) (hD.sub [1, 2, 0] (by decide) rfl) hS dX5_takeNumber_50
  · rw [if_neg d12] at h12; subst h12
    refine lv_if_eq (tgt := 27) hx hb dX5_takeNumber_15 (by decide) (fun c15 => ?_) (fun c15 => absurd rfl c15)
    exact jp_27 x5 u1_0 u1_1 u1_2 h_sc_length k1_u1_0 k1_u1_1 k1_u1_2 hx0 d12 _ _ _ hP hD hS (lv_sub hl [1, 2, 3, 0] rfl)
abbrev w_T_num_4_0_9_1 (cI cZ cP : ClassId) (sc : Nat) (sc_bytes : Nat) (f_sc_bytes : Nat → Int32) (sc_length : Int32) (sc_next : Int32) (sc_place : Int32) (sc_sort : Int32) (sc_numbers : Nat) (f_sc_numbers : Nat → Int32) : va_W := [(sc, .inr (5, [.ref sc_bytes, .int sc_length, .int sc_next, .int sc_place, .int sc_sort, .ref sc_numbers, .int 4])), (sc_bytes, .inl (cI, 150, .inl f_sc_bytes)), (sc_numbers, .inl (cI, 6, .inl f_sc_numbers))]
set_option maxHeartbeats 4000000 in
set_option maxRecDepth 100000 in
theorem c_T_num_4_0_9_1 (l : Launch) (D : va_G) (cI cZ cP : ClassId) (sa : Nat → Nat) (sc : Nat) (sc_bytes : Nat) (f_sc_bytes : Nat → Int32) (sc_length : Int32) (sc_next : Int32) (sc_place : Int32) (sc_sort : Int32) (sc_numbers : Nat) (f_sc_numbers : Nat → Int32) (h_sc_length : rg sc_length 0 150) (h_sc_next : rg sc_next 0 150) (h_sc_place : rg sc_place 0 150) (hx0 : okV [(1, 0, 63)] f_sc_numbers) (sz : Nat) : Met l yX5_takeNumber (qW yX5_takeNumber cX5_takeNumber 4 (some .boolean)) ({ frames := 2, cells := 0, slots := 0, locals := 42 } : Room) (qP D (TY cI cZ cP) sa [.ref sc, .int 0, .int 9] (w_T_num_4_0_9_1 cI cZ cP sc sc_bytes f_sc_bytes sc_length sc_next sc_place sc_sort sc_numbers f_sc_numbers) sz) (qQi D (w_T_num_4_0_9_1 cI cZ cP sc sc_bytes f_sc_bytes sc_length sc_next sc_place sc_sort sc_numbers f_sc_numbers) sz (fun (r : Int32) (u : (Int32) × (Int32) × (Int32) × (Int32) × (Nat → Int32)) => (r = 0 ∨ (r = 1 ∧ u.2.2.2.1 = 5 ∧ okV [(1, 0, 63)] u.2.2.2.2)) ∧ rg u.1 0 150 ∧ rg u.2.1 0 150 ∧ rg u.2.2.1 0 4 ∧ rg u.2.2.2.1 4 5) (fun u : (Int32) × (Int32) × (Int32) × (Int32) × (Nat → Int32) => [(sc, .inr (5, [.ref sc_bytes, .int sc_length, .int u.1, .int u.2.1, .int u.2.2.1, .ref sc_numbers, .int u.2.2.2.1])), (sc_bytes, .inl (cI, 150, .inl f_sc_bytes)), (sc_numbers, .inl (cI, 6, .inl u.2.2.2.2))])) 0 0 (va_A (w_T_num_4_0_9_1 cI cZ cP sc sc_bytes f_sc_bytes sc_length sc_next sc_place sc_sort sc_numbers f_sc_numbers) sz) := by
  refine q_enter (by decide) (Nat.le_of_ble_eq_true rfl) ?_
  intro p e s m below meth c ls hX hr hlk hnm hE hK hP hD hS hA hl
  obtain ⟨hx, hb, hml, hown, ht⟩ := id hX
  have hl : lv_has ls 4 [(0, .ref sc), (1, .int 0), (2, .int 9)] := hl
  have jp_27 : ∀ (x5 : Int32) (u1_0 : Int32) (u1_1 : Int32) (u1_2 : Int32), rg sc_length 0 150 → rg u1_0 0 150 → rg u1_1 0 150 → rg u1_2 0 4 → okV [(1, 0, 63)] f_sc_numbers → ¬ (0 ≤ x5 ∧ x5 ≤ 9) → ∀ (H : Heap) (locs : List Loc) (ls : Array Slot), va_P D vwCl [(sc_numbers, .inl (cI, 6, .inl f_sc_numbers)), (sc, .inr (5, [.ref sc_bytes, .int sc_length, .int u1_0, .int u1_1, .int u1_2, .ref sc_numbers, .int 4])), (sc_bytes, .inl (cI, 150, .inl f_sc_bytes))] H → va_D (va_A (w_T_num_4_0_9_1 cI cZ cP sc sc_bytes f_sc_bytes sc_length sc_next sc_place sc_sort sc_numbers f_sc_numbers) sz) [(sc_numbers, .inl (cI, 6, .inl f_sc_numbers)), (sc, .inr (5, [.ref sc_bytes, .int sc_length, .int u1_0, .int u1_1, .int u1_2, .ref sc_numbers, .int 4])), (sc_bytes, .inl (cI, 150, .inl f_sc_bytes))] → va_S (va_A (w_T_num_4_0_9_1 cI cZ cP sc sc_bytes f_sc_bytes sc_length sc_next sc_place sc_sort sc_numbers f_sc_numbers) sz) s.heap H locs → lv_has ls 4 [(0, .ref sc), (1, .int 0), (2, .int 9), (3, .int x5)] → W p l e ({ frames := 2, cells := 0, slots := 0, locals := 42 } : Room) s m ([.ref sc, .int 0, .int 9] : List Value).toArray below meth c H locs 0 0 (MQ below (qQi D (w_T_num_4_0_9_1 cI cZ cP sc sc_bytes f_sc_bytes sc_length sc_next sc_place sc_sort sc_numbers f_sc_numbers) sz (fun (r : Int32) (u : (Int32) × (Int32) × (Int32) × (Int32) × (Nat → Int32)) => (r = 0 ∨ (r = 1 ∧ u.2.2.2.1 = 5 ∧ okV [(1, 0, 63)] u.2.2.2.2)) ∧ rg u.1 0 150 ∧ rg u.2.1 0 150 ∧ rg u.2.2.1 0 4 ∧ rg u.2.2.2.1 4 5) (fun u : (Int32) × (Int32) × (Int32) × (Int32) × (Nat → Int32) => [(sc, .inr (5, [.ref sc_bytes, .int sc_length, .int u.1, .int u.2.1, .int u.2.2.1, .ref sc_numbers, .int u.2.2.2.1])), (sc_bytes, .inl (cI, 150, .inl f_sc_bytes)), (sc_numbers, .inl (cI, 6, .inl u.2.2.2.2))])) ([.ref sc, .int 0, .int 9] : List Value).toArray s 0 0 (va_A (w_T_num_4_0_9_1 cI cZ cP sc sc_bytes f_sc_bytes sc_length sc_next sc_place sc_sort sc_numbers f_sc_numbers) sz)) (F0 m 27 ls []) := by
    intro x5 u1_0 u1_1 u1_2 g27_sc_length g27_u1_0 g27_u1_1 g27_u1_2 x27_4 x27_5 H locs ls hP hD hS hl
    refine lv_iconst (v := 0) hx hb dX5_takeNumber_27 (by decide) ?_
    exact q_zret hX hr hlk (by decide) (u1_0, u1_1, u1_2, 4, f_sc_numbers) ⟨(Or.inl rfl), g27_u1_0, g27_u1_1, g27_u1_2, (rg_w (rg_of (by decide) : rg (4 : Int32) 4 4) (by decide))⟩ (hP.sub [1, 2, 0] rfl) (hD.sub [1, 2, 0] (by decide) rfl) hS dX5_takeNumber_28
  refine lv_aload_n hx hb dX5_takeNumber_0 rfl (lv_at hl 0 rfl) ?_
  refine q_Vv (wr := [(sc_numbers, .inl (cI, 6, .inl f_sc_numbers))]) [0, 1] [2] hX hE hK hP hD hS hA hl.1 lk_X5_25 (c_T_takeToken l D cI cZ cP sa sc sc_bytes f_sc_bytes sc_length sc_next sc_place sc_sort sc_numbers 4 h_sc_length h_sc_next h_sc_place (rg_w (rg_of (by decide) : rg (4 : Int32) 4 4) (by decide)) _) rfl rfl rfl rfl (by decide) 0 5 rfl rfl rfl rfl (Nat.le_of_ble_eq_true rfl) rfl rfl ⟨Nat.le_of_ble_eq_true rfl, Nat.le_of_ble_eq_true rfl⟩ ⟨Nat.le_of_ble_eq_true rfl, Nat.le_of_ble_eq_true rfl⟩ dX5_takeNumber_1 (fun u1 H locs h1 hP hD hS => ?_)
  obtain ⟨u1_0, u1_1, u1_2⟩ := u1
  obtain ⟨k1_u1_0, k1_u1_1, k1_u1_2⟩ := h1
  have hP : va_P D vwCl [(sc_numbers, .inl (cI, 6, .inl f_sc_numbers)), (sc, .inr (5, [.ref sc_bytes, .int sc_length, .int u1_0, .int u1_1, .int u1_2, .ref sc_numbers, .int 4])), (sc_bytes, .inl (cI, 150, .inl f_sc_bytes))] H := hP
  have hD : va_D (va_A (w_T_num_4_0_9_1 cI cZ cP sc sc_bytes f_sc_bytes sc_length sc_next sc_place sc_sort sc_numbers f_sc_numbers) sz) [(sc_numbers, .inl (cI, 6, .inl f_sc_numbers)), (sc, .inr (5, [.ref sc_bytes, .int sc_length, .int u1_0, .int u1_1, .int u1_2, .ref sc_numbers, .int 4])), (sc_bytes, .inl (cI, 150, .inl f_sc_bytes))] := hD
  refine lv_aload_n hx hb dX5_takeNumber_4 rfl (lv_at hl 0 rfl) ?_
  refine q_Vi (wr := [(sc_numbers, .inl (cI, 6, .inl f_sc_numbers))]) [1, 2] [0] hX hE hK hP hD hS hA hl.1 lk_X5_90 (c_T_numberValue l D cI cZ cP sa sc sc_bytes f_sc_bytes sc_length u1_0 u1_1 u1_2 sc_numbers 4 h_sc_length k1_u1_0 k1_u1_1 (rg_w (rg_of (by decide) : rg (4 : Int32) 4 4) (by decide)) _) rfl rfl rfl rfl (by decide) 0 5 rfl rfl rfl rfl (Nat.le_of_ble_eq_true rfl) rfl rfl ⟨Nat.le_of_ble_eq_true rfl, Nat.le_of_ble_eq_true rfl⟩ ⟨Nat.le_of_ble_eq_true rfl, Nat.le_of_ble_eq_true rfl⟩ dX5_takeNumber_5 (fun x5 _ H locs h5 hP hD hS => ?_)
  have hP : va_P D vwCl [(sc_numbers, .inl (cI, 6, .inl f_sc_numbers)), (sc, .inr (5, [.ref sc_bytes, .int sc_length, .int u1_0, .int u1_1, .int u1_2, .ref sc_numbers, .int 4])), (sc_bytes, .inl (cI, 150, .inl f_sc_bytes))] H := hP
  have hD : va_D (va_A (w_T_num_4_0_9_1 cI cZ cP sc sc_bytes f_sc_bytes sc_length sc_next sc_place sc_sort sc_numbers f_sc_numbers) sz) [(sc_numbers, .inl (cI, 6, .inl f_sc_numbers)), (sc, .inr (5, [.ref sc_bytes, .int sc_length, .int u1_0, .int u1_1, .int u1_2, .ref sc_numbers, .int 4])), (sc_bytes, .inl (cI, 150, .inl f_sc_bytes))] := hD
  refine lv_istore_n (lv' := [(3, .int x5), (0, .ref sc), (1, .int 0), (2, .int 9)]) hx hb dX5_takeNumber_8 rfl hl (by decide) rfl (fun ls hl => ?_)
  refine lv_iload_n hx hb dX5_takeNumber_9 rfl (lv_at hl 0 rfl) ?_
  refine lv_iload_n hx hb dX5_takeNumber_10 rfl (lv_at hl 2 rfl) ?_
  refine lv_iload_n hx hb dX5_takeNumber_11 rfl (lv_at hl 3 rfl) ?_
  refine q_SNi (k := 3) (wr := [(sc_numbers, .inl (cI, 6, .inl f_sc_numbers)), (sc, .inr (5, [.ref sc_bytes, .int sc_length, .int u1_0, .int u1_1, .int u1_2, .ref sc_numbers, .int 4])), (sc_bytes, .inl (cI, 150, .inl f_sc_bytes))]) [] [0, 1, 2] hX hE hK hP hD hS hA hl.1 (List.mem_of_getElem? (i := 5) rfl) ⟨mem_tb 386 rfl rfl, mem_tb 87 rfl rfl, (by decide +kernel), mem_tb 385 rfl rfl⟩ (c_within l D cI cZ cP sa x5 0 9 _) rfl rfl rfl rfl (by decide) rfl rfl (Nat.le_of_ble_eq_true rfl) rfl rfl ⟨Nat.le_of_ble_eq_true rfl, Nat.le_of_ble_eq_true rfl⟩ ⟨Nat.le_of_ble_eq_true rfl, Nat.le_of_ble_eq_true rfl⟩ dX5_takeNumber_12 (fun x12 _ H locs h12 hP hD hS => ?_)
  have hP : va_P D vwCl [(sc_numbers, .inl (cI, 6, .inl f_sc_numbers)), (sc, .inr (5, [.ref sc_bytes, .int sc_length, .int u1_0, .int u1_1, .int u1_2, .ref sc_numbers, .int 4])), (sc_bytes, .inl (cI, 150, .inl f_sc_bytes))] H := hP
  have hD : va_D (va_A (w_T_num_4_0_9_1 cI cZ cP sc sc_bytes f_sc_bytes sc_length sc_next sc_place sc_sort sc_numbers f_sc_numbers) sz) [(sc_numbers, .inl (cI, 6, .inl f_sc_numbers)), (sc, .inr (5, [.ref sc_bytes, .int sc_length, .int u1_0, .int u1_1, .int u1_2, .ref sc_numbers, .int 4])), (sc_bytes, .inl (cI, 150, .inl f_sc_bytes))] := hD
  rcases Classical.em (0 ≤ x5 ∧ x5 ≤ 9) with d12 | d12
  · rw [if_pos d12] at h12; subst h12
    have w12ab : rg x5 0 2147483647 := rg_leR d12.1 (rg_of (by decide) : rg (0 : Int32) 0 0) (rg_any x5) (by decide)
    have w12ba : rg x5 0 9 := rg_leL d12.2 w12ab (rg_of (by decide) : rg (9 : Int32) 9 9) (by decide)
    refine lv_if_eq (tgt := 27) hx hb dX5_takeNumber_15 (by decide) (fun c15 => (rg_eqF c15 (rg_of (by decide) : rg (1 : Int32) 1 1) (rg_of (by decide) : rg (0 : Int32) 0 0) (by decide)).elim) (fun c15 => ?_)
    refine lv_aload_n hx hb dX5_takeNumber_18 rfl (lv_at hl 1 rfl) ?_
    refine va_get (D := D) (ci := 5) (v := .int 4) (C := RX5) (T := TX5) (N := 7) hx hb ht inX5 hown hK hP 1 rfl rfl 6 (Nat.le_of_ble_eq_true rfl) (ht _ kw_216) (fun _ h9 => h9) rfl dX5_takeNumber_19 ?_
    refine lv_bipush (v := 6) hx hb dX5_takeNumber_22 (by decide) ?_
    refine lv_icmp_lt (tgt := 29) hx hb dX5_takeNumber_24 (by decide) (fun c24 => ?_) (fun c24 => (rg_leF (Int32.not_lt.mp c24) (rg_of (by decide) : rg (6 : Int32) 6 6) (rg_of (by decide) : rg (4 : Int32) 4 4) (by decide)).elim)
    refine lv_aload_n hx hb dX5_takeNumber_29 rfl (lv_at hl 1 rfl) ?_
    refine va_get (D := D) (ci := 5) (v := .ref sc_numbers) (C := RX5) (T := TX5) (N := 7) hx hb ht inX5 hown hK hP 1 rfl rfl 5 (Nat.le_of_ble_eq_true rfl) (ht _ kw_215) (fun _ h9 => h9) rfl dX5_takeNumber_30 ?_
    refine lv_aload_n hx hb dX5_takeNumber_33 rfl (lv_at hl 1 rfl) ?_
    refine va_get (D := D) (ci := 5) (v := .int 4) (C := RX5) (T := TX5) (N := 7) hx hb ht inX5 hown hK hP 1 rfl rfl 6 (Nat.le_of_ble_eq_true rfl) (ht _ kw_216) (fun _ h9 => h9) rfl dX5_takeNumber_34 ?_
    refine lv_iload_n hx hb dX5_takeNumber_37 rfl (lv_at hl 0 rfl) ?_
    refine va_iast hx hb hK hP hD hS 0 0 rfl rfl (rg_in (rg_of (by decide) : rg (4 : Int32) 4 4) (by decide)) dX5_takeNumber_38 (fun H locs hP hD hS => ?_)
    have hP : va_P D vwCl [(sc_numbers, .inl (cI, 6, .inl (upd f_sc_numbers (4 : Int32).toNatClampNeg x5))), (sc, .inr (5, [.ref sc_bytes, .int sc_length, .int u1_0, .int u1_1, .int u1_2, .ref sc_numbers, .int 4])), (sc_bytes, .inl (cI, 150, .inl f_sc_bytes))] H := hP
    have hD : va_D (va_A (w_T_num_4_0_9_1 cI cZ cP sc sc_bytes f_sc_bytes sc_length sc_next sc_place sc_sort sc_numbers f_sc_numbers) sz) [(sc_numbers, .inl (cI, 6, .inl (upd f_sc_numbers (4 : Int32).toNatClampNeg x5))), (sc, .inr (5, [.ref sc_bytes, .int sc_length, .int u1_0, .int u1_1, .int u1_2, .ref sc_numbers, .int 4])), (sc_bytes, .inl (cI, 150, .inl f_sc_bytes))] := hD
    generalize hf_f38 : (upd f_sc_numbers (4 : Int32).toNatClampNeg x5) = f38 at hP hD
    have ov_f38 : okV [(1, 0, 63)] f38 := hf_f38 ▸ okV_keep hx0 (by decide)
    have hP : va_P D vwCl [(sc_numbers, .inl (cI, 6, .inl f38)), (sc, .inr (5, [.ref sc_bytes, .int sc_length, .int u1_0, .int u1_1, .int u1_2, .ref sc_numbers, .int 4])), (sc_bytes, .inl (cI, 150, .inl f_sc_bytes))] H := hP
    have hD : va_D (va_A (w_T_num_4_0_9_1 cI cZ cP sc sc_bytes f_sc_bytes sc_length sc_next sc_place sc_sort sc_numbers f_sc_numbers) sz) [(sc_numbers, .inl (cI, 6, .inl f38)), (sc, .inr (5, [.ref sc_bytes, .int sc_length, .int u1_0, .int u1_1, .int u1_2, .ref sc_numbers, .int 4])), (sc_bytes, .inl (cI, 150, .inl f_sc_bytes))] := hD
    refine lv_aload_n hx hb dX5_takeNumber_39 rfl (lv_at hl 1 rfl) ?_
    refine lv_dup hx hb dX5_takeNumber_40 rfl ?_
    refine va_get (D := D) (ci := 5) (v := .int 4) (C := RX5) (T := TX5) (N := 7) hx hb ht inX5 hown hK hP 1 rfl rfl 6 (Nat.le_of_ble_eq_true rfl) (ht _ kw_216) (fun _ h9 => h9) rfl dX5_takeNumber_41 ?_
    refine lv_iconst (v := 1) hx hb dX5_takeNumber_44 (by decide) ?_
    refine lv_iadd hx hb dX5_takeNumber_45 ?_
    refine q_i (z := 5) (by decide) ?_
    refine va_put (D := D) (ci := 5) (v := .int 5) (ty := .int) (C := RX5) (T := TX5) (N := 7) hx hb ht inX5 tyX5 tyX5_ok nmX5 hown hK hP hD hS 1 rfl rfl 6 (Nat.le_of_ble_eq_true rfl) (ht _ kw_216) (fun _ h9 => h9) rfl (by decide +kernel) rfl rfl (Nat.le_of_ble_eq_true rfl) dX5_takeNumber_46 (fun H locs hP hD hS => ?_)
    have hP : va_P D vwCl [(sc_numbers, .inl (cI, 6, .inl f38)), (sc, .inr (5, [.ref sc_bytes, .int sc_length, .int u1_0, .int u1_1, .int u1_2, .ref sc_numbers, .int 5])), (sc_bytes, .inl (cI, 150, .inl f_sc_bytes))] H := hP
    have hD : va_D (va_A (w_T_num_4_0_9_1 cI cZ cP sc sc_bytes f_sc_bytes sc_length sc_next sc_place sc_sort sc_numbers f_sc_numbers) sz) [(sc_numbers, .inl (cI, 6, .inl f38)), (sc, .inr (5, [.ref sc_bytes, .int sc_length, .int u1_0, .int u1_1, .int u1_2, .ref sc_numbers, .int 5])), (sc_bytes, .inl (cI, 150, .inl f_sc_bytes))] := hD
    refine lv_iconst (v := 1) hx hb dX5_takeNumber_49 (by decide) ?_
    exact q_zret hX hr hlk (by decide) (u1_0, u1_1, u1_2, 5, f38) ⟨(Or.inr ⟨rfl, rfl, ov_f38⟩), k1_u1_0, k1_u1_1, k1_u1_2, (rg_w (rg_of (by decide) : rg (5 : Int32) 5 5) (by decide))⟩ (hP.sub [1, 2, 0] rfl) (hD.sub [1, 2, 0] (by decide) rfl) hS dX5_takeNumber_50
  · rw [if_neg d12] at h12; subst h12
    refine lv_if_eq (tgt := 27) hx hb dX5_takeNumber_15 (by decide) (fun c15 => ?_) (fun c15 => absurd rfl c15)
    exact jp_27 x5 u1_0 u1_1 u1_2 h_sc_length k1_u1_0 k1_u1_1 k1_u1_2 hx0 d12 _ _ _ hP hD hS (lv_sub hl [1, 2, 3, 0] rfl)
abbrev w_T_num_5_0_4_1 (cI cZ cP : ClassId) (sc : Nat) (sc_bytes : Nat) (f_sc_bytes : Nat → Int32) (sc_length : Int32) (sc_next : Int32) (sc_place : Int32) (sc_sort : Int32) (sc_numbers : Nat) (f_sc_numbers : Nat → Int32) : va_W := [(sc, .inr (5, [.ref sc_bytes, .int sc_length, .int sc_next, .int sc_place, .int sc_sort, .ref sc_numbers, .int 5])), (sc_bytes, .inl (cI, 150, .inl f_sc_bytes)), (sc_numbers, .inl (cI, 6, .inl f_sc_numbers))]
set_option maxHeartbeats 4000000 in
set_option maxRecDepth 100000 in
theorem c_T_num_5_0_4_1 (l : Launch) (D : va_G) (cI cZ cP : ClassId) (sa : Nat → Nat) (sc : Nat) (sc_bytes : Nat) (f_sc_bytes : Nat → Int32) (sc_length : Int32) (sc_next : Int32) (sc_place : Int32) (sc_sort : Int32) (sc_numbers : Nat) (f_sc_numbers : Nat → Int32) (h_sc_length : rg sc_length 0 150) (h_sc_next : rg sc_next 0 150) (h_sc_place : rg sc_place 0 150) (hx0 : okV [(1, 0, 63)] f_sc_numbers) (sz : Nat) : Met l yX5_takeNumber (qW yX5_takeNumber cX5_takeNumber 4 (some .boolean)) ({ frames := 2, cells := 0, slots := 0, locals := 42 } : Room) (qP D (TY cI cZ cP) sa [.ref sc, .int 0, .int 4] (w_T_num_5_0_4_1 cI cZ cP sc sc_bytes f_sc_bytes sc_length sc_next sc_place sc_sort sc_numbers f_sc_numbers) sz) (qQi D (w_T_num_5_0_4_1 cI cZ cP sc sc_bytes f_sc_bytes sc_length sc_next sc_place sc_sort sc_numbers f_sc_numbers) sz (fun (r : Int32) (u : (Int32) × (Int32) × (Int32) × (Int32) × (Nat → Int32)) => (r = 0 ∨ (r = 1 ∧ u.2.2.2.1 = 6 ∧ okV [(5, 0, 4), (1, 0, 63)] u.2.2.2.2)) ∧ rg u.1 0 150 ∧ rg u.2.1 0 150 ∧ rg u.2.2.1 0 4 ∧ rg u.2.2.2.1 5 6) (fun u : (Int32) × (Int32) × (Int32) × (Int32) × (Nat → Int32) => [(sc, .inr (5, [.ref sc_bytes, .int sc_length, .int u.1, .int u.2.1, .int u.2.2.1, .ref sc_numbers, .int u.2.2.2.1])), (sc_bytes, .inl (cI, 150, .inl f_sc_bytes)), (sc_numbers, .inl (cI, 6, .inl u.2.2.2.2))])) 0 0 (va_A (w_T_num_5_0_4_1 cI cZ cP sc sc_bytes f_sc_bytes sc_length sc_next sc_place sc_sort sc_numbers f_sc_numbers) sz) := by
  refine q_enter (by decide) (Nat.le_of_ble_eq_true rfl) ?_
  intro p e s m below meth c ls hX hr hlk hnm hE hK hP hD hS hA hl
  obtain ⟨hx, hb, hml, hown, ht⟩ := id hX
  have hl : lv_has ls 4 [(0, .ref sc), (1, .int 0), (2, .int 4)] := hl
  have jp_27 : ∀ (x5 : Int32) (u1_0 : Int32) (u1_1 : Int32) (u1_2 : Int32), rg sc_length 0 150 → rg u1_0 0 150 → rg u1_1 0 150 → rg u1_2 0 4 → okV [(1, 0, 63)] f_sc_numbers → ¬ (0 ≤ x5 ∧ x5 ≤ 4) → ∀ (H : Heap) (locs : List Loc) (ls : Array Slot), va_P D vwCl [(sc_numbers, .inl (cI, 6, .inl f_sc_numbers)), (sc, .inr (5, [.ref sc_bytes, .int sc_length, .int u1_0, .int u1_1, .int u1_2, .ref sc_numbers, .int 5])), (sc_bytes, .inl (cI, 150, .inl f_sc_bytes))] H → va_D (va_A (w_T_num_5_0_4_1 cI cZ cP sc sc_bytes f_sc_bytes sc_length sc_next sc_place sc_sort sc_numbers f_sc_numbers) sz) [(sc_numbers, .inl (cI, 6, .inl f_sc_numbers)), (sc, .inr (5, [.ref sc_bytes, .int sc_length, .int u1_0, .int u1_1, .int u1_2, .ref sc_numbers, .int 5])), (sc_bytes, .inl (cI, 150, .inl f_sc_bytes))] → va_S (va_A (w_T_num_5_0_4_1 cI cZ cP sc sc_bytes f_sc_bytes sc_length sc_next sc_place sc_sort sc_numbers f_sc_numbers) sz) s.heap H locs → lv_has ls 4 [(0, .ref sc), (1, .int 0), (2, .int 4), (3, .int x5)] → W p l e ({ frames := 2, cells := 0, slots := 0, locals := 42 } : Room) s m ([.ref sc, .int 0, .int 4] : List Value).toArray below meth c H locs 0 0 (MQ below (qQi D (w_T_num_5_0_4_1 cI cZ cP sc sc_bytes f_sc_bytes sc_length sc_next sc_place sc_sort sc_numbers f_sc_numbers) sz (fun (r : Int32) (u : (Int32) × (Int32) × (Int32) × (Int32) × (Nat → Int32)) => (r = 0 ∨ (r = 1 ∧ u.2.2.2.1 = 6 ∧ okV [(5, 0, 4), (1, 0, 63)] u.2.2.2.2)) ∧ rg u.1 0 150 ∧ rg u.2.1 0 150 ∧ rg u.2.2.1 0 4 ∧ rg u.2.2.2.1 5 6) (fun u : (Int32) × (Int32) × (Int32) × (Int32) × (Nat → Int32) => [(sc, .inr (5, [.ref sc_bytes, .int sc_length, .int u.1, .int u.2.1, .int u.2.2.1, .ref sc_numbers, .int u.2.2.2.1])), (sc_bytes, .inl (cI, 150, .inl f_sc_bytes)), (sc_numbers, .inl (cI, 6, .inl u.2.2.2.2))])) ([.ref sc, .int 0, .int 4] : List Value).toArray s 0 0 (va_A (w_T_num_5_0_4_1 cI cZ cP sc sc_bytes f_sc_bytes sc_length sc_next sc_place sc_sort sc_numbers f_sc_numbers) sz)) (F0 m 27 ls []) := by
    intro x5 u1_0 u1_1 u1_2 g27_sc_length g27_u1_0 g27_u1_1 g27_u1_2 x27_4 x27_5 H locs ls hP hD hS hl
    refine lv_iconst (v := 0) hx hb dX5_takeNumber_27 (by decide) ?_
    exact q_zret hX hr hlk (by decide) (u1_0, u1_1, u1_2, 5, f_sc_numbers) ⟨(Or.inl rfl), g27_u1_0, g27_u1_1, g27_u1_2, (rg_w (rg_of (by decide) : rg (5 : Int32) 5 5) (by decide))⟩ (hP.sub [1, 2, 0] rfl) (hD.sub [1, 2, 0] (by decide) rfl) hS dX5_takeNumber_28
  refine lv_aload_n hx hb dX5_takeNumber_0 rfl (lv_at hl 0 rfl) ?_
  refine q_Vv (wr := [(sc_numbers, .inl (cI, 6, .inl f_sc_numbers))]) [0, 1] [2] hX hE hK hP hD hS hA hl.1 lk_X5_25 (c_T_takeToken l D cI cZ cP sa sc sc_bytes f_sc_bytes sc_length sc_next sc_place sc_sort sc_numbers 5 h_sc_length h_sc_next h_sc_place (rg_w (rg_of (by decide) : rg (5 : Int32) 5 5) (by decide)) _) rfl rfl rfl rfl (by decide) 0 5 rfl rfl rfl rfl (Nat.le_of_ble_eq_true rfl) rfl rfl ⟨Nat.le_of_ble_eq_true rfl, Nat.le_of_ble_eq_true rfl⟩ ⟨Nat.le_of_ble_eq_true rfl, Nat.le_of_ble_eq_true rfl⟩ dX5_takeNumber_1 (fun u1 H locs h1 hP hD hS => ?_)
  obtain ⟨u1_0, u1_1, u1_2⟩ := u1
  obtain ⟨k1_u1_0, k1_u1_1, k1_u1_2⟩ := h1
  have hP : va_P D vwCl [(sc_numbers, .inl (cI, 6, .inl f_sc_numbers)), (sc, .inr (5, [.ref sc_bytes, .int sc_length, .int u1_0, .int u1_1, .int u1_2, .ref sc_numbers, .int 5])), (sc_bytes, .inl (cI, 150, .inl f_sc_bytes))] H := hP
  have hD : va_D (va_A (w_T_num_5_0_4_1 cI cZ cP sc sc_bytes f_sc_bytes sc_length sc_next sc_place sc_sort sc_numbers f_sc_numbers) sz) [(sc_numbers, .inl (cI, 6, .inl f_sc_numbers)), (sc, .inr (5, [.ref sc_bytes, .int sc_length, .int u1_0, .int u1_1, .int u1_2, .ref sc_numbers, .int 5])), (sc_bytes, .inl (cI, 150, .inl f_sc_bytes))] := hD
  refine lv_aload_n hx hb dX5_takeNumber_4 rfl (lv_at hl 0 rfl) ?_
  refine q_Vi (wr := [(sc_numbers, .inl (cI, 6, .inl f_sc_numbers))]) [1, 2] [0] hX hE hK hP hD hS hA hl.1 lk_X5_90 (c_T_numberValue l D cI cZ cP sa sc sc_bytes f_sc_bytes sc_length u1_0 u1_1 u1_2 sc_numbers 5 h_sc_length k1_u1_0 k1_u1_1 (rg_w (rg_of (by decide) : rg (5 : Int32) 5 5) (by decide)) _) rfl rfl rfl rfl (by decide) 0 5 rfl rfl rfl rfl (Nat.le_of_ble_eq_true rfl) rfl rfl ⟨Nat.le_of_ble_eq_true rfl, Nat.le_of_ble_eq_true rfl⟩ ⟨Nat.le_of_ble_eq_true rfl, Nat.le_of_ble_eq_true rfl⟩ dX5_takeNumber_5 (fun x5 _ H locs h5 hP hD hS => ?_)
  have hP : va_P D vwCl [(sc_numbers, .inl (cI, 6, .inl f_sc_numbers)), (sc, .inr (5, [.ref sc_bytes, .int sc_length, .int u1_0, .int u1_1, .int u1_2, .ref sc_numbers, .int 5])), (sc_bytes, .inl (cI, 150, .inl f_sc_bytes))] H := hP
  have hD : va_D (va_A (w_T_num_5_0_4_1 cI cZ cP sc sc_bytes f_sc_bytes sc_length sc_next sc_place sc_sort sc_numbers f_sc_numbers) sz) [(sc_numbers, .inl (cI, 6, .inl f_sc_numbers)), (sc, .inr (5, [.ref sc_bytes, .int sc_length, .int u1_0, .int u1_1, .int u1_2, .ref sc_numbers, .int 5])), (sc_bytes, .inl (cI, 150, .inl f_sc_bytes))] := hD
  refine lv_istore_n (lv' := [(3, .int x5), (0, .ref sc), (1, .int 0), (2, .int 4)]) hx hb dX5_takeNumber_8 rfl hl (by decide) rfl (fun ls hl => ?_)
  refine lv_iload_n hx hb dX5_takeNumber_9 rfl (lv_at hl 0 rfl) ?_
  refine lv_iload_n hx hb dX5_takeNumber_10 rfl (lv_at hl 2 rfl) ?_
  refine lv_iload_n hx hb dX5_takeNumber_11 rfl (lv_at hl 3 rfl) ?_
  refine q_SNi (k := 3) (wr := [(sc_numbers, .inl (cI, 6, .inl f_sc_numbers)), (sc, .inr (5, [.ref sc_bytes, .int sc_length, .int u1_0, .int u1_1, .int u1_2, .ref sc_numbers, .int 5])), (sc_bytes, .inl (cI, 150, .inl f_sc_bytes))]) [] [0, 1, 2] hX hE hK hP hD hS hA hl.1 (List.mem_of_getElem? (i := 5) rfl) ⟨mem_tb 386 rfl rfl, mem_tb 87 rfl rfl, (by decide +kernel), mem_tb 385 rfl rfl⟩ (c_within l D cI cZ cP sa x5 0 4 _) rfl rfl rfl rfl (by decide) rfl rfl (Nat.le_of_ble_eq_true rfl) rfl rfl ⟨Nat.le_of_ble_eq_true rfl, Nat.le_of_ble_eq_true rfl⟩ ⟨Nat.le_of_ble_eq_true rfl, Nat.le_of_ble_eq_true rfl⟩ dX5_takeNumber_12 (fun x12 _ H locs h12 hP hD hS => ?_)
  have hP : va_P D vwCl [(sc_numbers, .inl (cI, 6, .inl f_sc_numbers)), (sc, .inr (5, [.ref sc_bytes, .int sc_length, .int u1_0, .int u1_1, .int u1_2, .ref sc_numbers, .int 5])), (sc_bytes, .inl (cI, 150, .inl f_sc_bytes))] H := hP
  have hD : va_D (va_A (w_T_num_5_0_4_1 cI cZ cP sc sc_bytes f_sc_bytes sc_length sc_next sc_place sc_sort sc_numbers f_sc_numbers) sz) [(sc_numbers, .inl (cI, 6, .inl f_sc_numbers)), (sc, .inr (5, [.ref sc_bytes, .int sc_length, .int u1_0, .int u1_1, .int u1_2, .ref sc_numbers, .int 5])), (sc_bytes, .inl (cI, 150, .inl f_sc_bytes))] := hD
  rcases Classical.em (0 ≤ x5 ∧ x5 ≤ 4) with d12 | d12
  · rw [if_pos d12] at h12; subst h12
    have w12ab : rg x5 0 2147483647 := rg_leR d12.1 (rg_of (by decide) : rg (0 : Int32) 0 0) (rg_any x5) (by decide)
    have w12ba : rg x5 0 4 := rg_leL d12.2 w12ab (rg_of (by decide) : rg (4 : Int32) 4 4) (by decide)
    refine lv_if_eq (tgt := 27) hx hb dX5_takeNumber_15 (by decide) (fun c15 => (rg_eqF c15 (rg_of (by decide) : rg (1 : Int32) 1 1) (rg_of (by decide) : rg (0 : Int32) 0 0) (by decide)).elim) (fun c15 => ?_)
    refine lv_aload_n hx hb dX5_takeNumber_18 rfl (lv_at hl 1 rfl) ?_
    refine va_get (D := D) (ci := 5) (v := .int 5) (C := RX5) (T := TX5) (N := 7) hx hb ht inX5 hown hK hP 1 rfl rfl 6 (Nat.le_of_ble_eq_true rfl) (ht _ kw_216) (fun _ h9 => h9) rfl dX5_takeNumber_19 ?_
    refine lv_bipush (v := 6) hx hb dX5_takeNumber_22 (by decide) ?_
    refine lv_icmp_lt (tgt := 29) hx hb dX5_takeNumber_24 (by decide) (fun c24 => ?_) (fun c24 => (rg_leF (Int32.not_lt.mp c24) (rg_of (by decide) : rg (6 : Int32) 6 6) (rg_of (by decide) : rg (5 : Int32) 5 5) (by decide)).elim)
    refine lv_aload_n hx hb dX5_takeNumber_29 rfl (lv_at hl 1 rfl) ?_
    refine va_get (D := D) (ci := 5) (v := .ref sc_numbers) (C := RX5) (T := TX5) (N := 7) hx hb ht inX5 hown hK hP 1 rfl rfl 5 (Nat.le_of_ble_eq_true rfl) (ht _ kw_215) (fun _ h9 => h9) rfl dX5_takeNumber_30 ?_
    refine lv_aload_n hx hb dX5_takeNumber_33 rfl (lv_at hl 1 rfl) ?_
    refine va_get (D := D) (ci := 5) (v := .int 5) (C := RX5) (T := TX5) (N := 7) hx hb ht inX5 hown hK hP 1 rfl rfl 6 (Nat.le_of_ble_eq_true rfl) (ht _ kw_216) (fun _ h9 => h9) rfl dX5_takeNumber_34 ?_
    refine lv_iload_n hx hb dX5_takeNumber_37 rfl (lv_at hl 0 rfl) ?_
    refine va_iast hx hb hK hP hD hS 0 0 rfl rfl (rg_in (rg_of (by decide) : rg (5 : Int32) 5 5) (by decide)) dX5_takeNumber_38 (fun H locs hP hD hS => ?_)
    have hP : va_P D vwCl [(sc_numbers, .inl (cI, 6, .inl (upd f_sc_numbers (5 : Int32).toNatClampNeg x5))), (sc, .inr (5, [.ref sc_bytes, .int sc_length, .int u1_0, .int u1_1, .int u1_2, .ref sc_numbers, .int 5])), (sc_bytes, .inl (cI, 150, .inl f_sc_bytes))] H := hP
    have hD : va_D (va_A (w_T_num_5_0_4_1 cI cZ cP sc sc_bytes f_sc_bytes sc_length sc_next sc_place sc_sort sc_numbers f_sc_numbers) sz) [(sc_numbers, .inl (cI, 6, .inl (upd f_sc_numbers (5 : Int32).toNatClampNeg x5))), (sc, .inr (5, [.ref sc_bytes, .int sc_length, .int u1_0, .int u1_1, .int u1_2, .ref sc_numbers, .int 5])), (sc_bytes, .inl (cI, 150, .inl f_sc_bytes))] := hD
    generalize hf_f38 : (upd f_sc_numbers (5 : Int32).toNatClampNeg x5) = f38 at hP hD
    have ov_f38 : okV [(5, 0, 4), (1, 0, 63)] f38 := hf_f38 ▸ okV_upd hx0 w12ba (by decide)
    have hP : va_P D vwCl [(sc_numbers, .inl (cI, 6, .inl f38)), (sc, .inr (5, [.ref sc_bytes, .int sc_length, .int u1_0, .int u1_1, .int u1_2, .ref sc_numbers, .int 5])), (sc_bytes, .inl (cI, 150, .inl f_sc_bytes))] H := hP
    have hD : va_D (va_A (w_T_num_5_0_4_1 cI cZ cP sc sc_bytes f_sc_bytes sc_length sc_next sc_place sc_sort sc_numbers f_sc_numbers) sz) [(sc_numbers, .inl (cI, 6, .inl f38)), (sc, .inr (5, [.ref sc_bytes, .int sc_length, .int u1_0, .int u1_1, .int u1_2, .ref sc_numbers, .int 5])), (sc_bytes, .inl (cI, 150, .inl f_sc_bytes))] := hD
    refine lv_aload_n hx hb dX5_takeNumber_39 rfl (lv_at hl 1 rfl) ?_
    refine lv_dup hx hb dX5_takeNumber_40 rfl ?_
    refine va_get (D := D) (ci := 5) (v := .int 5) (C := RX5) (T := TX5) (N := 7) hx hb ht inX5 hown hK hP 1 rfl rfl 6 (Nat.le_of_ble_eq_true rfl) (ht _ kw_216) (fun _ h9 => h9) rfl dX5_takeNumber_41 ?_
    refine lv_iconst (v := 1) hx hb dX5_takeNumber_44 (by decide) ?_
    refine lv_iadd hx hb dX5_takeNumber_45 ?_
    refine q_i (z := 6) (by decide) ?_
    refine va_put (D := D) (ci := 5) (v := .int 6) (ty := .int) (C := RX5) (T := TX5) (N := 7) hx hb ht inX5 tyX5 tyX5_ok nmX5 hown hK hP hD hS 1 rfl rfl 6 (Nat.le_of_ble_eq_true rfl) (ht _ kw_216) (fun _ h9 => h9) rfl (by decide +kernel) rfl rfl (Nat.le_of_ble_eq_true rfl) dX5_takeNumber_46 (fun H locs hP hD hS => ?_)
    have hP : va_P D vwCl [(sc_numbers, .inl (cI, 6, .inl f38)), (sc, .inr (5, [.ref sc_bytes, .int sc_length, .int u1_0, .int u1_1, .int u1_2, .ref sc_numbers, .int 6])), (sc_bytes, .inl (cI, 150, .inl f_sc_bytes))] H := hP
    have hD : va_D (va_A (w_T_num_5_0_4_1 cI cZ cP sc sc_bytes f_sc_bytes sc_length sc_next sc_place sc_sort sc_numbers f_sc_numbers) sz) [(sc_numbers, .inl (cI, 6, .inl f38)), (sc, .inr (5, [.ref sc_bytes, .int sc_length, .int u1_0, .int u1_1, .int u1_2, .ref sc_numbers, .int 6])), (sc_bytes, .inl (cI, 150, .inl f_sc_bytes))] := hD
    refine lv_iconst (v := 1) hx hb dX5_takeNumber_49 (by decide) ?_
    exact q_zret hX hr hlk (by decide) (u1_0, u1_1, u1_2, 6, f38) ⟨(Or.inr ⟨rfl, rfl, ov_f38⟩), k1_u1_0, k1_u1_1, k1_u1_2, (rg_w (rg_of (by decide) : rg (6 : Int32) 6 6) (by decide))⟩ (hP.sub [1, 2, 0] rfl) (hD.sub [1, 2, 0] (by decide) rfl) hS dX5_takeNumber_50
  · rw [if_neg d12] at h12; subst h12
    refine lv_if_eq (tgt := 27) hx hb dX5_takeNumber_15 (by decide) (fun c15 => ?_) (fun c15 => absurd rfl c15)
    exact jp_27 x5 u1_0 u1_1 u1_2 h_sc_length k1_u1_0 k1_u1_1 k1_u1_2 hx0 d12 _ _ _ hP hD hS (lv_sub hl [1, 2, 3, 0] rfl)
