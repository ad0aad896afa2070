abbrev w_playedCount (cI cZ cP : ClassId) (nw : Nat) (keys : Nat) (moms : Nat) (lens : Nat) (prts : Nat) (luds : Nat) (hnds : Nat) (lats : Nat) (knds : Nat) (rch : Nat) (spd : Nat) (unN : Nat) (unH : Nat) (ptn : Nat) : va_W := [(nw, .inr (3, [.int 2, .int 0, .ref keys, .ref moms, .ref lens, .ref prts, .ref luds, .ref hnds, .ref lats, .ref knds, .ref rch, .ref spd, .int 0, .int 0, .int 0, .ref unN, .ref unH, .ref ptn]))]
set_option maxHeartbeats 4000000 in
set_option maxRecDepth 100000 in
theorem c_playedCount (l : Launch) (D : va_G) (cI cZ cP : ClassId) (sa : Nat → Nat) (nw : Nat) (keys : Nat) (moms : Nat) (lens : Nat) (prts : Nat) (luds : Nat) (hnds : Nat) (lats : Nat) (knds : Nat) (rch : Nat) (spd : Nat) (unN : Nat) (unH : Nat) (ptn : Nat) (sz : Nat) : Met l yX3_playedCount (qW yX3_playedCount cX3_playedCount 3 (some .int)) ({ frames := 0, cells := 0, slots := 0, locals := 0 } : Room) (qP D (TY cI cZ cP) sa [.ref nw] (w_playedCount cI cZ cP nw keys moms lens prts luds hnds lats knds rch spd unN unH ptn) sz) (qQi D (w_playedCount cI cZ cP nw keys moms lens prts luds hnds lats knds rch spd unN unH ptn) sz (fun (r : Int32) (_ : Unit) => r = 0) (fun _ => [(nw, .inr (3, [.int 2, .int 0, .ref keys, .ref moms, .ref lens, .ref prts, .ref luds, .ref hnds, .ref lats, .ref knds, .ref rch, .ref spd, .int 0, .int 0, .int 0, .ref unN, .ref unH, .ref ptn]))])) 0 0 (va_A (w_playedCount cI cZ cP nw keys moms lens prts luds hnds lats knds rch spd unN unH ptn) sz) := by
  refine q_enter (by decide) (Nat.le_of_ble_eq_true rfl) ?_
  intro p e s m below meth c ls hX hr hlk hnm hE hK hP hD hS hA hl
  obtain ⟨hx, hb, hml, hown, ht⟩ := id hX
  have hl : lv_has ls 3 [(0, .ref nw)] := hl
  refine lv_iconst (v := 0) hx hb dX3_playedCount_0 (by decide) ?_
  refine lv_istore_n (lv' := [(1, .int 0), (0, .ref nw)]) hx hb dX3_playedCount_1 rfl hl (by decide) rfl (fun ls hl => ?_)
  refine lv_iconst (v := 0) hx hb dX3_playedCount_2 (by decide) ?_
  refine lv_istore_n (lv' := [(2, .int 0), (1, .int 0), (0, .ref nw)]) hx hb dX3_playedCount_3 rfl hl (by decide) rfl (fun ls hl => ?_)
  refine lv_iload_n hx hb dX3_playedCount_4 rfl (lv_at hl 0 rfl) ?_
  refine lv_aload_n hx hb dX3_playedCount_5 rfl (lv_at hl 2 rfl) ?_
  refine va_get (D := D) (ci := 3) (v := .int 0) (C := RX3) (T := TX3) (N := 18) hx hb ht inX3 hown hK hP 0 rfl rfl 1 (Nat.le_of_ble_eq_true rfl) (ht _ kw_122) (fun _ h9 => h9) rfl dX3_playedCount_6 ?_
  refine lv_icmp_ge (tgt := 29) hx hb dX3_playedCount_9 (by decide) (fun _ => ?_) (fun c_1 => absurd (by decide) c_1)
  refine lv_iload_n hx hb dX3_playedCount_29 rfl (lv_at hl 1 rfl) ?_
  exact q_iret hX hr hlk () rfl (hP.sub [0] rfl) (hD.sub [0] (by decide) rfl) hS dX3_playedCount_30
abbrev w_howMany0 (cI cZ cP : ClassId) (x0 : Nat) (nw : Nat) (sp : Nat) (im : Nat) (sc : Nat) (hg : Nat) (fg : Nat) (pg : Nat) (pr : Nat) (keys : Nat) (moms : Nat) (lens : Nat) (prts : Nat) (luds : Nat) (hnds : Nat) (lats : Nat) (knds : Nat) (rch : Nat) (spd : Nat) (unN : Nat) (unH : Nat) (ptn : Nat) (byt : Nat) (nms : Nat) : va_W := [(x0, .inr (6, [.ref nw, .ref sp, .ref im, .ref sc, .ref hg, .ref fg, .ref pg, .ref pr, .int 0, .long 0, .long 1, .int 0, .int 0, .int 0])), (nw, .inr (3, [.int 2, .int 0, .ref keys, .ref moms, .ref lens, .ref prts, .ref luds, .ref hnds, .ref lats, .ref knds, .ref rch, .ref spd, .int 0, .int 0, .int 0, .ref unN, .ref unH, .ref ptn])), (sc, .inr (5, [.ref byt, .int 0, .int 0, .int 0, .int 0, .ref nms, .int 0]))]
set_option maxHeartbeats 4000000 in
set_option maxRecDepth 100000 in
theorem c_howMany0 (l : Launch) (D : va_G) (cI cZ cP : ClassId) (sa : Nat → Nat) (x0 : Nat) (nw : Nat) (sp : Nat) (im : Nat) (sc : Nat) (hg : Nat) (fg : Nat) (pg : Nat) (pr : Nat) (keys : Nat) (moms : Nat) (lens : Nat) (prts : Nat) (luds : Nat) (hnds : Nat) (lats : Nat) (knds : Nat) (rch : Nat) (spd : Nat) (unN : Nat) (unH : Nat) (ptn : Nat) (byt : Nat) (nms : Nat) (sz : Nat) : Met l yX6_howMany (qW yX6_howMany cX6_howMany 2 (some .int)) ({ frames := 0, cells := 0, slots := 0, locals := 0 } : Room) (qP D (TY cI cZ cP) sa [.ref x0, .int 0] (w_howMany0 cI cZ cP x0 nw sp im sc hg fg pg pr keys moms lens prts luds hnds lats knds rch spd unN unH ptn byt nms) sz) (qQi D (w_howMany0 cI cZ cP x0 nw sp im sc hg fg pg pr keys moms lens prts luds hnds lats knds rch spd unN unH ptn byt nms) sz (fun (r : Int32) (_ : Unit) => r = 0) (fun _ => [(x0, .inr (6, [.ref nw, .ref sp, .ref im, .ref sc, .ref hg, .ref fg, .ref pg, .ref pr, .int 0, .long 0, .long 1, .int 0, .int 0, .int 0])), (nw, .inr (3, [.int 2, .int 0, .ref keys, .ref moms, .ref lens, .ref prts, .ref luds, .ref hnds, .ref lats, .ref knds, .ref rch, .ref spd, .int 0, .int 0, .int 0, .ref unN, .ref unH, .ref ptn])), (sc, .inr (5, [.ref byt, .int 0, .int 0, .int 0, .int 0, .ref nms, .int 0]))])) 0 0 (va_A (w_howMany0 cI cZ cP x0 nw sp im sc hg fg pg pr keys moms lens prts luds hnds lats knds rch spd unN unH ptn byt nms) sz) := by
  refine q_enter (by decide) (Nat.le_of_ble_eq_true rfl) ?_
  intro p e s m below meth c ls hX hr hlk hnm hE hK hP hD hS hA hl
  obtain ⟨hx, hb, hml, hown, ht⟩ := id hX
  have hl : lv_has ls 2 [(0, .ref x0), (1, .int 0)] := hl
  refine lv_iload_n hx hb dX6_howMany_0 rfl (lv_at hl 1 rfl) ?_
  refine lv_tableIn (off := 35) (tgt := 36) hx hb dX6_howMany_1 (by decide) (by decide) rfl (by decide) ?_
  refine lv_aload_n hx hb dX6_howMany_36 rfl (lv_at hl 0 rfl) ?_
  refine va_get (D := D) (ci := 6) (v := .ref nw) (C := RX6) (T := TX6) (N := 14) hx hb ht inX6 hown hK hP 0 rfl rfl 0 (Nat.le_of_ble_eq_true rfl) (ht _ kw_337) (fun _ h9 => h9) rfl dX6_howMany_37 ?_
  refine va_get (D := D) (ci := 3) (v := .int 0) (C := RX3) (T := TX3) (N := 18) hx hb ht inX3 hown hK hP 1 rfl rfl 1 (Nat.le_of_ble_eq_true rfl) (ht _ kw_123) (fun _ h9 => h9) rfl dX6_howMany_40 ?_
  exact q_iret hX hr hlk () rfl (hP.sub [0, 1, 2] rfl) (hD.sub [0, 1, 2] (by decide) rfl) hS dX6_howMany_43
abbrev w_howMany1 (cI cZ cP : ClassId) (x0 : Nat) (nw : Nat) (sp : Nat) (im : Nat) (sc : Nat) (hg : Nat) (fg : Nat) (pg : Nat) (pr : Nat) (keys : Nat) (moms : Nat) (lens : Nat) (prts : Nat) (luds : Nat) (hnds : Nat) (lats : Nat) (knds : Nat) (rch : Nat) (spd : Nat) (unN : Nat) (unH : Nat) (ptn : Nat) (byt : Nat) (nms : Nat) : va_W := [(x0, .inr (6, [.ref nw, .ref sp, .ref im, .ref sc, .ref hg, .ref fg, .ref pg, .ref pr, .int 0, .long 0, .long 1, .int 0, .int 0, .int 0])), (nw, .inr (3, [.int 2, .int 0, .ref keys, .ref moms, .ref lens, .ref prts, .ref luds, .ref hnds, .ref lats, .ref knds, .ref rch, .ref spd, .int 0, .int 0, .int 0, .ref unN, .ref unH, .ref ptn])), (sc, .inr (5, [.ref byt, .int 0, .int 0, .int 0, .int 0, .ref nms, .int 0]))]
set_option maxHeartbeats 4000000 in
set_option maxRecDepth 100000 in
theorem c_howMany1 (l : Launch) (D : va_G) (cI cZ cP : ClassId) (sa : Nat → Nat) (x0 : Nat) (nw : Nat) (sp : Nat) (im : Nat) (sc : Nat) (hg : Nat) (fg : Nat) (pg : Nat) (pr : Nat) (keys : Nat) (moms : Nat) (lens : Nat) (prts : Nat) (luds : Nat) (hnds : Nat) (lats : Nat) (knds : Nat) (rch : Nat) (spd : Nat) (unN : Nat) (unH : Nat) (ptn : Nat) (byt : Nat) (nms : Nat) (sz : Nat) : Met l yX6_howMany (qW yX6_howMany cX6_howMany 2 (some .int)) ({ frames := 1, cells := 0, slots := 0, locals := 22 } : Room) (qP D (TY cI cZ cP) sa [.ref x0, .int 1] (w_howMany1 cI cZ cP x0 nw sp im sc hg fg pg pr keys moms lens prts luds hnds lats knds rch spd unN unH ptn byt nms) sz) (qQi D (w_howMany1 cI cZ cP x0 nw sp im sc hg fg pg pr keys moms lens prts luds hnds lats knds rch spd unN unH ptn byt nms) sz (fun (r : Int32) (_ : Unit) => r = 0) (fun _ => [(x0, .inr (6, [.ref nw, .ref sp, .ref im, .ref sc, .ref hg, .ref fg, .ref pg, .ref pr, .int 0, .long 0, .long 1, .int 0, .int 0, .int 0])), (nw, .inr (3, [.int 2, .int 0, .ref keys, .ref moms, .ref lens, .ref prts, .ref luds, .ref hnds, .ref lats, .ref knds, .ref rch, .ref spd, .int 0, .int 0, .int 0, .ref unN, .ref unH, .ref ptn])), (sc, .inr (5, [.ref byt, .int 0, .int 0, .int 0, .int 0, .ref nms, .int 0]))])) 0 0 (va_A (w_howMany1 cI cZ cP x0 nw sp im sc hg fg pg pr keys moms lens prts luds hnds lats knds rch spd unN unH ptn byt nms) sz) := by
  refine q_enter (by decide) (Nat.le_of_ble_eq_true rfl) ?_
  intro p e s m below meth c ls hX hr hlk hnm hE hK hP hD hS hA hl
  obtain ⟨hx, hb, hml, hown, ht⟩ := id hX
  have hl : lv_has ls 2 [(0, .ref x0), (1, .int 1)] := hl
  refine lv_iload_n hx hb dX6_howMany_0 rfl (lv_at hl 1 rfl) ?_
  refine lv_tableIn (off := 43) (tgt := 44) hx hb dX6_howMany_1 (by decide) (by decide) rfl (by decide) ?_
  refine lv_aload_n hx hb dX6_howMany_44 rfl (lv_at hl 0 rfl) ?_
  refine va_get (D := D) (ci := 6) (v := .ref nw) (C := RX6) (T := TX6) (N := 14) hx hb ht inX6 hown hK hP 0 rfl rfl 0 (Nat.le_of_ble_eq_true rfl) (ht _ kw_337) (fun _ h9 => h9) rfl dX6_howMany_45 ?_
  refine q_Vi (wr := [(x0, .inr (6, [.ref nw, .ref sp, .ref im, .ref sc, .ref hg, .ref fg, .ref pg, .ref pr, .int 0, .long 0, .long 1, .int 0, .int 0, .int 0])), (sc, .inr (5, [.ref byt, .int 0, .int 0, .int 0, .int 0, .ref nms, .int 0]))]) [1] [0, 2] hX hE hK hP hD hS hA hl.1 lk_X6_296 (c_playedCount l D cI cZ cP sa nw keys moms lens prts luds hnds lats knds rch spd unN unH ptn _) rfl rfl rfl rfl (by decide) 0 3 rfl rfl rfl rfl (Nat.le_of_ble_eq_true rfl) rfl rfl ⟨Nat.le_of_ble_eq_true rfl, Nat.le_of_ble_eq_true rfl⟩ ⟨Nat.le_of_ble_eq_true rfl, Nat.le_of_ble_eq_true rfl⟩ dX6_howMany_48 (fun x_1 _ H locs h_1 hP hD hS => ?_)
  have hP : va_P D vwCl [(x0, .inr (6, [.ref nw, .ref sp, .ref im, .ref sc, .ref hg, .ref fg, .ref pg, .ref pr, .int 0, .long 0, .long 1, .int 0, .int 0, .int 0])), (sc, .inr (5, [.ref byt, .int 0, .int 0, .int 0, .int 0, .ref nms, .int 0])), (nw, .inr (3, [.int 2, .int 0, .ref keys, .ref moms, .ref lens, .ref prts, .ref luds, .ref hnds, .ref lats, .ref knds, .ref rch, .ref spd, .int 0, .int 0, .int 0, .ref unN, .ref unH, .ref ptn]))] H := hP
  have hD : va_D (va_A (w_howMany1 cI cZ cP x0 nw sp im sc hg fg pg pr keys moms lens prts luds hnds lats knds rch spd unN unH ptn byt nms) sz) [(x0, .inr (6, [.ref nw, .ref sp, .ref im, .ref sc, .ref hg, .ref fg, .ref pg, .ref pr, .int 0, .long 0, .long 1, .int 0, .int 0, .int 0])), (sc, .inr (5, [.ref byt, .int 0, .int 0, .int 0, .int 0, .ref nms, .int 0])), (nw, .inr (3, [.int 2, .int 0, .ref keys, .ref moms, .ref lens, .ref prts, .ref luds, .ref hnds, .ref lats, .ref knds, .ref rch, .ref spd, .int 0, .int 0, .int 0, .ref unN, .ref unH, .ref ptn]))] := hD
  subst h_1
  exact q_iret hX hr hlk () rfl (hP.sub [0, 2, 1] rfl) (hD.sub [0, 2, 1] (by decide) rfl) hS dX6_howMany_51
abbrev w_howMany2 (cI cZ cP : ClassId) (x0 : Nat) (nw : Nat) (sp : Nat) (im : Nat) (sc : Nat) (hg : Nat) (fg : Nat) (pg : Nat) (pr : Nat) (keys : Nat) (moms : Nat) (lens : Nat) (prts : Nat) (luds : Nat) (hnds : Nat) (lats : Nat) (knds : Nat) (rch : Nat) (spd : Nat) (unN : Nat) (unH : Nat) (ptn : Nat) (byt : Nat) (nms : Nat) : va_W := [(x0, .inr (6, [.ref nw, .ref sp, .ref im, .ref sc, .ref hg, .ref fg, .ref pg, .ref pr, .int 0, .long 0, .long 1, .int 0, .int 0, .int 0])), (nw, .inr (3, [.int 2, .int 0, .ref keys, .ref moms, .ref lens, .ref prts, .ref luds, .ref hnds, .ref lats, .ref knds, .ref rch, .ref spd, .int 0, .int 0, .int 0, .ref unN, .ref unH, .ref ptn])), (sc, .inr (5, [.ref byt, .int 0, .int 0, .int 0, .int 0, .ref nms, .int 0]))]
set_option maxHeartbeats 4000000 in
set_option maxRecDepth 100000 in
theorem c_howMany2 (l : Launch) (D : va_G) (cI cZ cP : ClassId) (sa : Nat → Nat) (x0 : Nat) (nw : Nat) (sp : Nat) (im : Nat) (sc : Nat) (hg : Nat) (fg : Nat) (pg : Nat) (pr : Nat) (keys : Nat) (moms : Nat) (lens : Nat) (prts : Nat) (luds : Nat) (hnds : Nat) (lats : Nat) (knds : Nat) (rch : Nat) (spd : Nat) (unN : Nat) (unH : Nat) (ptn : Nat) (byt : Nat) (nms : Nat) (sz : Nat) : Met l yX6_howMany (qW yX6_howMany cX6_howMany 2 (some .int)) ({ frames := 0, cells := 0, slots := 0, locals := 0 } : Room) (qP D (TY cI cZ cP) sa [.ref x0, .int 2] (w_howMany2 cI cZ cP x0 nw sp im sc hg fg pg pr keys moms lens prts luds hnds lats knds rch spd unN unH ptn byt nms) sz) (qQi D (w_howMany2 cI cZ cP x0 nw sp im sc hg fg pg pr keys moms lens prts luds hnds lats knds rch spd unN unH ptn byt nms) sz (fun (r : Int32) (_ : Unit) => r = 2) (fun _ => [(x0, .inr (6, [.ref nw, .ref sp, .ref im, .ref sc, .ref hg, .ref fg, .ref pg, .ref pr, .int 0, .long 0, .long 1, .int 0, .int 0, .int 0])), (nw, .inr (3, [.int 2, .int 0, .ref keys, .ref moms, .ref lens, .ref prts, .ref luds, .ref hnds, .ref lats, .ref knds, .ref rch, .ref spd, .int 0, .int 0, .int 0, .ref unN, .ref unH, .ref ptn])), (sc, .inr (5, [.ref byt, .int 0, .int 0, .int 0, .int 0, .ref nms, .int 0]))])) 0 0 (va_A (w_howMany2 cI cZ cP x0 nw sp im sc hg fg pg pr keys moms lens prts luds hnds lats knds rch spd unN unH ptn byt nms) sz) := by
  refine q_enter (by decide) (Nat.le_of_ble_eq_true rfl) ?_
  intro p e s m below meth c ls hX hr hlk hnm hE hK hP hD hS hA hl
  obtain ⟨hx, hb, hml, hown, ht⟩ := id hX
  have hl : lv_has ls 2 [(0, .ref x0), (1, .int 2)] := hl
  refine lv_iload_n hx hb dX6_howMany_0 rfl (lv_at hl 1 rfl) ?_
  refine lv_tableIn (off := 51) (tgt := 52) hx hb dX6_howMany_1 (by decide) (by decide) rfl (by decide) ?_
  refine lv_aload_n hx hb dX6_howMany_52 rfl (lv_at hl 0 rfl) ?_
  refine va_get (D := D) (ci := 6) (v := .ref nw) (C := RX6) (T := TX6) (N := 14) hx hb ht inX6 hown hK hP 0 rfl rfl 0 (Nat.le_of_ble_eq_true rfl) (ht _ kw_337) (fun _ h9 => h9) rfl dX6_howMany_53 ?_
  refine va_get (D := D) (ci := 3) (v := .int 2) (C := RX3) (T := TX3) (N := 18) hx hb ht inX3 hown hK hP 1 rfl rfl 0 (Nat.le_of_ble_eq_true rfl) (ht _ kw_121) (fun _ h9 => h9) rfl dX6_howMany_56 ?_
  exact q_iret hX hr hlk () rfl (hP.sub [0, 1, 2] rfl) (hD.sub [0, 1, 2] (by decide) rfl) hS dX6_howMany_59
abbrev w_howMany3 (cI cZ cP : ClassId) (x0 : Nat) (nw : Nat) (sp : Nat) (im : Nat) (sc : Nat) (hg : Nat) (fg : Nat) (pg : Nat) (pr : Nat) (keys : Nat) (moms : Nat) (lens : Nat) (prts : Nat) (luds : Nat) (hnds : Nat) (lats : Nat) (knds : Nat) (rch : Nat) (spd : Nat) (unN : Nat) (unH : Nat) (ptn : Nat) (byt : Nat) (nms : Nat) : va_W := [(x0, .inr (6, [.ref nw, .ref sp, .ref im, .ref sc, .ref hg, .ref fg, .ref pg, .ref pr, .int 0, .long 0, .long 1, .int 0, .int 0, .int 0])), (nw, .inr (3, [.int 2, .int 0, .ref keys, .ref moms, .ref lens, .ref prts, .ref luds, .ref hnds, .ref lats, .ref knds, .ref rch, .ref spd, .int 0, .int 0, .int 0, .ref unN, .ref unH, .ref ptn])), (sc, .inr (5, [.ref byt, .int 0, .int 0, .int 0, .int 0, .ref nms, .int 0]))]
set_option maxHeartbeats 4000000 in
set_option maxRecDepth 100000 in
theorem c_howMany3 (l : Launch) (D : va_G) (cI cZ cP : ClassId) (sa : Nat → Nat) (x0 : Nat) (nw : Nat) (sp : Nat) (im : Nat) (sc : Nat) (hg : Nat) (fg : Nat) (pg : Nat) (pr : Nat) (keys : Nat) (moms : Nat) (lens : Nat) (prts : Nat) (luds : Nat) (hnds : Nat) (lats : Nat) (knds : Nat) (rch : Nat) (spd : Nat) (unN : Nat) (unH : Nat) (ptn : Nat) (byt : Nat) (nms : Nat) (sz : Nat) : Met l yX6_howMany (qW yX6_howMany cX6_howMany 2 (some .int)) ({ frames := 0, cells := 0, slots := 0, locals := 0 } : Room) (qP D (TY cI cZ cP) sa [.ref x0, .int 3] (w_howMany3 cI cZ cP x0 nw sp im sc hg fg pg pr keys moms lens prts luds hnds lats knds rch spd unN unH ptn byt nms) sz) (qQi D (w_howMany3 cI cZ cP x0 nw sp im sc hg fg pg pr keys moms lens prts luds hnds lats knds rch spd unN unH ptn byt nms) sz (fun (r : Int32) (_ : Unit) => r = 0) (fun _ => [(x0, .inr (6, [.ref nw, .ref sp, .ref im, .ref sc, .ref hg, .ref fg, .ref pg, .ref pr, .int 0, .long 0, .long 1, .int 0, .int 0, .int 0])), (nw, .inr (3, [.int 2, .int 0, .ref keys, .ref moms, .ref lens, .ref prts, .ref luds, .ref hnds, .ref lats, .ref knds, .ref rch, .ref spd, .int 0, .int 0, .int 0, .ref unN, .ref unH, .ref ptn])), (sc, .inr (5, [.ref byt, .int 0, .int 0, .int 0, .int 0, .ref nms, .int 0]))])) 0 0 (va_A (w_howMany3 cI cZ cP x0 nw sp im sc hg fg pg pr keys moms lens prts luds hnds lats knds rch spd unN unH ptn byt nms) sz) := by
  refine q_enter (by decide) (Nat.le_of_ble_eq_true rfl) ?_
  intro p e s m below meth c ls hX hr hlk hnm hE hK hP hD hS hA hl
  obtain ⟨hx, hb, hml, hown, ht⟩ := id hX
  have hl : lv_has ls 2 [(0, .ref x0), (1, .int 3)] := hl
  refine lv_iload_n hx hb dX6_howMany_0 rfl (lv_at hl 1 rfl) ?_
  refine lv_tableIn (off := 59) (tgt := 60) hx hb dX6_howMany_1 (by decide) (by decide) rfl (by decide) ?_
  refine lv_aload_n hx hb dX6_howMany_60 rfl (lv_at hl 0 rfl) ?_
  refine va_get (D := D) (ci := 6) (v := .ref nw) (C := RX6) (T := TX6) (N := 14) hx hb ht inX6 hown hK hP 0 rfl rfl 0 (Nat.le_of_ble_eq_true rfl) (ht _ kw_337) (fun _ h9 => h9) rfl dX6_howMany_61 ?_
  refine va_get (D := D) (ci := 3) (v := .int 0) (C := RX3) (T := TX3) (N := 18) hx hb ht inX3 hown hK hP 1 rfl rfl 13 (Nat.le_of_ble_eq_true rfl) (ht _ kw_158) (fun _ h9 => h9) rfl dX6_howMany_64 ?_
  refine lv_aload_n hx hb dX6_howMany_67 rfl (lv_at hl 0 rfl) ?_
  refine va_get (D := D) (ci := 6) (v := .ref nw) (C := RX6) (T := TX6) (N := 14) hx hb ht inX6 hown hK hP 0 rfl rfl 0 (Nat.le_of_ble_eq_true rfl) (ht _ kw_337) (fun _ h9 => h9) rfl dX6_howMany_68 ?_
  refine va_get (D := D) (ci := 3) (v := .int 0) (C := RX3) (T := TX3) (N := 18) hx hb ht inX3 hown hK hP 1 rfl rfl 12 (Nat.le_of_ble_eq_true rfl) (ht _ kw_156) (fun _ h9 => h9) rfl dX6_howMany_71 ?_
  refine lv_isub hx hb dX6_howMany_74 ?_
  refine q_i (z := 0) (by decide) ?_
  exact q_iret hX hr hlk () rfl (hP.sub [0, 1, 2] rfl) (hD.sub [0, 1, 2] (by decide) rfl) hS dX6_howMany_75
abbrev w_howMany4 (cI cZ cP : ClassId) (x0 : Nat) (nw : Nat) (sp : Nat) (im : Nat) (sc : Nat) (hg : Nat) (fg : Nat) (pg : Nat) (pr : Nat) (keys : Nat) (moms : Nat) (lens : Nat) (prts : Nat) (luds : Nat) (hnds : Nat) (lats : Nat) (knds : Nat) (rch : Nat) (spd : Nat) (unN : Nat) (unH : Nat) (ptn : Nat) (byt : Nat) (nms : Nat) : va_W := [(x0, .inr (6, [.ref nw, .ref sp, .ref im, .ref sc, .ref hg, .ref fg, .ref pg, .ref pr, .int 0, .long 0, .long 1, .int 0, .int 0, .int 0])), (nw, .inr (3, [.int 2, .int 0, .ref keys, .ref moms, .ref lens, .ref prts, .ref luds, .ref hnds, .ref lats, .ref knds, .ref rch, .ref spd, .int 0, .int 0, .int 0, .ref unN, .ref unH, .ref ptn])), (sc, .inr (5, [.ref byt, .int 0, .int 0, .int 0, .int 0, .ref nms, .int 0]))]
set_option maxHeartbeats 4000000 in
set_option maxRecDepth 100000 in
theorem c_howMany4 (l : Launch) (D : va_G) (cI cZ cP : ClassId) (sa : Nat → Nat) (x0 : Nat) (nw : Nat) (sp : Nat) (im : Nat) (sc : Nat) (hg : Nat) (fg : Nat) (pg : Nat) (pr : Nat) (keys : Nat) (moms : Nat) (lens : Nat) (prts : Nat) (luds : Nat) (hnds : Nat) (lats : Nat) (knds : Nat) (rch : Nat) (spd : Nat) (unN : Nat) (unH : Nat) (ptn : Nat) (byt : Nat) (nms : Nat) (sz : Nat) : Met l yX6_howMany (qW yX6_howMany cX6_howMany 2 (some .int)) ({ frames := 0, cells := 0, slots := 0, locals := 0 } : Room) (qP D (TY cI cZ cP) sa [.ref x0, .int 4] (w_howMany4 cI cZ cP x0 nw sp im sc hg fg pg pr keys moms lens prts luds hnds lats knds rch spd unN unH ptn byt nms) sz) (qQi D (w_howMany4 cI cZ cP x0 nw sp im sc hg fg pg pr keys moms lens prts luds hnds lats knds rch spd unN unH ptn byt nms) sz (fun (r : Int32) (_ : Unit) => r = 0) (fun _ => [(x0, .inr (6, [.ref nw, .ref sp, .ref im, .ref sc, .ref hg, .ref fg, .ref pg, .ref pr, .int 0, .long 0, .long 1, .int 0, .int 0, .int 0])), (nw, .inr (3, [.int 2, .int 0, .ref keys, .ref moms, .ref lens, .ref prts, .ref luds, .ref hnds, .ref lats, .ref knds, .ref rch, .ref spd, .int 0, .int 0, .int 0, .ref unN, .ref unH, .ref ptn])), (sc, .inr (5, [.ref byt, .int 0, .int 0, .int 0, .int 0, .ref nms, .int 0]))])) 0 0 (va_A (w_howMany4 cI cZ cP x0 nw sp im sc hg fg pg pr keys moms lens prts luds hnds lats knds rch spd unN unH ptn byt nms) sz) := by
  refine q_enter (by decide) (Nat.le_of_ble_eq_true rfl) ?_
  intro p e s m below meth c ls hX hr hlk hnm hE hK hP hD hS hA hl
  obtain ⟨hx, hb, hml, hown, ht⟩ := id hX
  have hl : lv_has ls 2 [(0, .ref x0), (1, .int 4)] := hl
  refine lv_iload_n hx hb dX6_howMany_0 rfl (lv_at hl 1 rfl) ?_
  refine lv_tableIn (off := 75) (tgt := 76) hx hb dX6_howMany_1 (by decide) (by decide) rfl (by decide) ?_
  refine lv_aload_n hx hb dX6_howMany_76 rfl (lv_at hl 0 rfl) ?_
  refine va_get (D := D) (ci := 6) (v := .ref nw) (C := RX6) (T := TX6) (N := 14) hx hb ht inX6 hown hK hP 0 rfl rfl 0 (Nat.le_of_ble_eq_true rfl) (ht _ kw_337) (fun _ h9 => h9) rfl dX6_howMany_77 ?_
  refine va_get (D := D) (ci := 3) (v := .int 0) (C := RX3) (T := TX3) (N := 18) hx hb ht inX3 hown hK hP 1 rfl rfl 14 (Nat.le_of_ble_eq_true rfl) (ht _ kw_160) (fun _ h9 => h9) rfl dX6_howMany_80 ?_
  exact q_iret hX hr hlk () rfl (hP.sub [0, 1, 2] rfl) (hD.sub [0, 1, 2] (by decide) rfl) hS dX6_howMany_83
abbrev w_howMany5 (cI cZ cP : ClassId) (x0 : Nat) (nw : Nat) (sp : Nat) (im : Nat) (sc : Nat) (hg : Nat) (fg : Nat) (pg : Nat) (pr : Nat) (keys : Nat) (moms : Nat) (lens : Nat) (prts : Nat) (luds : Nat) (hnds : Nat) (lats : Nat) (knds : Nat) (rch : Nat) (spd : Nat) (unN : Nat) (unH : Nat) (ptn : Nat) (byt : Nat) (nms : Nat) : va_W := [(x0, .inr (6, [.ref nw, .ref sp, .ref im, .ref sc, .ref hg, .ref fg, .ref pg, .ref pr, .int 0, .long 0, .long 1, .int 0, .int 0, .int 0])), (nw, .inr (3, [.int 2, .int 0, .ref keys, .ref moms, .ref lens, .ref prts, .ref luds, .ref hnds, .ref lats, .ref knds, .ref rch, .ref spd, .int 0, .int 0, .int 0, .ref unN, .ref unH, .ref ptn])), (sc, .inr (5, [.ref byt, .int 0, .int 0, .int 0, .int 0, .ref nms, .int 0]))]
set_option maxHeartbeats 4000000 in
set_option maxRecDepth 100000 in
theorem c_howMany5 (l : Launch) (D : va_G) (cI cZ cP : ClassId) (sa : Nat → Nat) (x0 : Nat) (nw : Nat) (sp : Nat) (im : Nat) (sc : Nat) (hg : Nat) (fg : Nat) (pg : Nat) (pr : Nat) (keys : Nat) (moms : Nat) (lens : Nat) (prts : Nat) (luds : Nat) (hnds : Nat) (lats : Nat) (knds : Nat) (rch : Nat) (spd : Nat) (unN : Nat) (unH : Nat) (ptn : Nat) (byt : Nat) (nms : Nat) (sz : Nat) : Met l yX6_howMany (qW yX6_howMany cX6_howMany 2 (some .int)) ({ frames := 0, cells := 0, slots := 0, locals := 0 } : Room) (qP D (TY cI cZ cP) sa [.ref x0, .int 5] (w_howMany5 cI cZ cP x0 nw sp im sc hg fg pg pr keys moms lens prts luds hnds lats knds rch spd unN unH ptn byt nms) sz) (qQi D (w_howMany5 cI cZ cP x0 nw sp im sc hg fg pg pr keys moms lens prts luds hnds lats knds rch spd unN unH ptn byt nms) sz (fun (r : Int32) (_ : Unit) => r = 0) (fun _ => [(x0, .inr (6, [.ref nw, .ref sp, .ref im, .ref sc, .ref hg, .ref fg, .ref pg, .ref pr, .int 0, .long 0, .long 1, .int 0, .int 0, .int 0])), (nw, .inr (3, [.int 2, .int 0, .ref keys, .ref moms, .ref lens, .ref prts, .ref luds, .ref hnds, .ref lats, .ref knds, .ref rch, .ref spd, .int 0, .int 0, .int 0, .ref unN, .ref unH, .ref ptn])), (sc, .inr (5, [.ref byt, .int 0, .int 0, .int 0, .int 0, .ref nms, .int 0]))])) 0 0 (va_A (w_howMany5 cI cZ cP x0 nw sp im sc hg fg pg pr keys moms lens prts luds hnds lats knds rch spd unN unH ptn byt nms) sz) := by
  refine q_enter (by decide) (Nat.le_of_ble_eq_true rfl) ?_
  intro p e s m below meth c ls hX hr hlk hnm hE hK hP hD hS hA hl
  obtain ⟨hx, hb, hml, hown, ht⟩ := id hX
  have hl : lv_has ls 2 [(0, .ref x0), (1, .int 5)] := hl
  refine lv_iload_n hx hb dX6_howMany_0 rfl (lv_at hl 1 rfl) ?_
  refine lv_tableOut (tgt := 84) hx hb dX6_howMany_1 (by decide) (by decide) ?_
  refine lv_aload_n hx hb dX6_howMany_84 rfl (lv_at hl 0 rfl) ?_
  refine va_get (D := D) (ci := 6) (v := .ref sc) (C := RX6) (T := TX6) (N := 14) hx hb ht inX6 hown hK hP 0 rfl rfl 3 (Nat.le_of_ble_eq_true rfl) (ht _ kw_340) (fun _ h9 => h9) rfl dX6_howMany_85 ?_
  refine va_get (D := D) (ci := 5) (v := .int 0) (C := RX5) (T := TX5) (N := 7) hx hb ht inX5 hown hK hP 2 rfl rfl 1 (Nat.le_of_ble_eq_true rfl) (ht _ kw_211) (fun _ h9 => h9) rfl dX6_howMany_88 ?_
  exact q_iret hX hr hlk () rfl (hP.sub [0, 1, 2] rfl) (hD.sub [0, 1, 2] (by decide) rfl) hS dX6_howMany_91
abbrev w_digestFrom (cI cZ cP : ClassId) (nw : Nat) (keys : Nat) (moms : Nat) (lens : Nat) (prts : Nat) (luds : Nat) (hnds : Nat) (lats : Nat) (knds : Nat) (rch : Nat) (spd : Nat) (unN : Nat) (unH : Nat) (ptn : Nat) : va_W := [(nw, .inr (3, [.int 2, .int 0, .ref keys, .ref moms, .ref lens, .ref prts, .ref luds, .ref hnds, .ref lats, .ref knds, .ref rch, .ref spd, .int 0, .int 0, .int 0, .ref unN, .ref unH, .ref ptn])), (knds, .inl (cI, 4, .inl (fun _ => 0))), (rch, .inl (cI, 4, .inl (fun _ => 9))), (spd, .inl (cI, 4, .inl (fun _ => 4)))]
set_option maxHeartbeats 4000000 in
set_option maxRecDepth 100000 in
theorem c_digestFrom (l : Launch) (D : va_G) (cI cZ cP : ClassId) (sa : Nat → Nat) (nw : Nat) (keys : Nat) (moms : Nat) (lens : Nat) (prts : Nat) (luds : Nat) (hnds : Nat) (lats : Nat) (knds : Nat) (rch : Nat) (spd : Nat) (unN : Nat) (unH : Nat) (ptn : Nat) (sz : Nat) : Met l yX3_digestFrom (qW yX3_digestFrom cX3_digestFrom 6 (some .long)) ({ frames := 0, cells := 0, slots := 0, locals := 0 } : Room) (qP D (TY cI cZ cP) sa [.ref nw, .long 778340787819] (w_digestFrom cI cZ cP nw keys moms lens prts luds hnds lats knds rch spd unN unH ptn) sz) (qQl D (w_digestFrom cI cZ cP nw keys moms lens prts luds hnds lats knds rch spd unN unH ptn) sz (fun (r : Int64) (_ : Unit) => r = (-8131529189198335125)) (fun _ => [])) 0 0 (va_A (w_digestFrom cI cZ cP nw keys moms lens prts luds hnds lats knds rch spd unN unH ptn) sz) := by
  refine q_enter (by decide) (Nat.le_of_ble_eq_true rfl) ?_
  intro p e s m below meth c ls hX hr hlk hnm hE hK hP hD hS hA hl
  obtain ⟨hx, hb, hml, hown, ht⟩ := id hX
  have hl : lv_has ls 6 [(0, .ref nw), (1, .long 778340787819)] := hl
  refine lv_lload_n hx hb dX3_digestFrom_0 rfl (lv_at hl 1 rfl) ?_
  refine lv_lstore_n (lv' := [(3, .long 778340787819), (0, .ref nw), (1, .long 778340787819)]) hx hb dX3_digestFrom_1 rfl hl (by decide) rfl (fun ls hl => ?_)
  refine lv_iconst (v := 0) hx hb dX3_digestFrom_2 (by decide) ?_
  refine lv_istore (lv' := [(5, .int 0), (3, .long 778340787819), (0, .ref nw), (1, .long 778340787819)]) hx hb dX3_digestFrom_3 hl (by decide) rfl (fun ls hl => ?_)
  refine lv_iload hx hb dX3_digestFrom_5 (lv_at hl 0 rfl) ?_
  refine lv_iconst (v := 4) hx hb dX3_digestFrom_7 (by decide) ?_
  refine lv_icmp_ge (tgt := 62) hx hb dX3_digestFrom_8 (by decide) (fun c_1 => absurd c_1 (by decide)) (fun _ => ?_)
  refine lv_ldc2 hx hb hown (ht _ kw_894) dX3_digestFrom_11 ?_
  refine q_l (z := ((31 : Int32).toInt64)) (by decide) ?_
  refine lv_lload_n hx hb dX3_digestFrom_14 rfl (lv_at hl 1 rfl) ?_
  refine lv_lmul hx hb dX3_digestFrom_15 ?_
  refine q_l (z := 24128564422389) (by decide) ?_
  refine lv_aload_n hx hb dX3_digestFrom_16 rfl (lv_at hl 2 rfl) ?_
  refine va_get (D := D) (ci := 3) (v := .ref knds) (C := RX3) (T := TX3) (N := 18) hx hb ht inX3 hown hK hP 0 rfl rfl 9 (Nat.le_of_ble_eq_true rfl) (ht _ kw_151) (fun _ h9 => h9) rfl dX3_digestFrom_17 ?_
  refine lv_iload hx hb dX3_digestFrom_20 (lv_at hl 0 rfl) ?_
  refine va_iald hx hb hK hP 1 0 rfl rfl (vin (by decide)) dX3_digestFrom_22 ?_
  refine q_i (z := 0) rfl ?_
  refine lv_i2l (v := ((0 : Int32).toInt64)) hx hb dX3_digestFrom_23 rfl ?_
  refine lv_ladd hx hb dX3_digestFrom_24 ?_
  refine q_l (z := 24128564422389) (by decide) ?_
  refine lv_lstore_n (lv' := [(3, .long 24128564422389), (5, .int 0), (0, .ref nw), (1, .long 778340787819)]) hx hb dX3_digestFrom_25 rfl hl (by decide) rfl (fun ls hl => ?_)
  refine lv_ldc2 hx hb hown (ht _ kw_894) dX3_digestFrom_26 ?_
  refine q_l (z := ((31 : Int32).toInt64)) (by decide) ?_
  refine lv_lload_n hx hb dX3_digestFrom_29 rfl (lv_at hl 0 rfl) ?_
  refine lv_lmul hx hb dX3_digestFrom_30 ?_
  refine q_l (z := 747985497094059) (by decide) ?_
  refine lv_aload_n hx hb dX3_digestFrom_31 rfl (lv_at hl 2 rfl) ?_
  refine va_get (D := D) (ci := 3) (v := .ref rch) (C := RX3) (T := TX3) (N := 18) hx hb ht inX3 hown hK hP 0 rfl rfl 10 (Nat.le_of_ble_eq_true rfl) (ht _ kw_153) (fun _ h9 => h9) rfl dX3_digestFrom_32 ?_
  refine lv_iload hx hb dX3_digestFrom_35 (lv_at hl 1 rfl) ?_
  refine va_iald hx hb hK hP 2 0 rfl rfl (vin (by decide)) dX3_digestFrom_37 ?_
  refine q_i (z := 9) rfl ?_
  refine lv_i2l (v := ((9 : Int32).toInt64)) hx hb dX3_digestFrom_38 rfl ?_
  refine lv_ladd hx hb dX3_digestFrom_39 ?_
  refine q_l (z := 747985497094068) (by decide) ?_
  refine lv_lstore_n (lv' := [(3, .long 747985497094068), (5, .int 0), (0, .ref nw), (1, .long 778340787819)]) hx hb dX3_digestFrom_40 rfl hl (by decide) rfl (fun ls hl => ?_)
  refine lv_ldc2 hx hb hown (ht _ kw_894) dX3_digestFrom_41 ?_
  refine q_l (z := ((31 : Int32).toInt64)) (by decide) ?_
  refine lv_lload_n hx hb dX3_digestFrom_44 rfl (lv_at hl 0 rfl) ?_
  refine lv_lmul hx hb dX3_digestFrom_45 ?_
  refine q_l (z := 23187550409916108) (by decide) ?_
  refine lv_aload_n hx hb dX3_digestFrom_46 rfl (lv_at hl 2 rfl) ?_
  refine va_get (D := D) (ci := 3) (v := .ref spd) (C := RX3) (T := TX3) (N := 18) hx hb ht inX3 hown hK hP 0 rfl rfl 11 (Nat.le_of_ble_eq_true rfl) (ht _ kw_154) (fun _ h9 => h9) rfl dX3_digestFrom_47 ?_
  refine lv_iload hx hb dX3_digestFrom_50 (lv_at hl 1 rfl) ?_
  refine va_iald hx hb hK hP 3 0 rfl rfl (vin (by decide)) dX3_digestFrom_52 ?_
  refine q_i (z := 4) rfl ?_
  refine lv_i2l (v := ((4 : Int32).toInt64)) hx hb dX3_digestFrom_53 rfl ?_
  refine lv_ladd hx hb dX3_digestFrom_54 ?_
  refine q_l (z := 23187550409916112) (by decide) ?_
  refine lv_lstore_n (lv' := [(3, .long 23187550409916112), (5, .int 0), (0, .ref nw), (1, .long 778340787819)]) hx hb dX3_digestFrom_55 rfl hl (by decide) rfl (fun ls hl => ?_)
  refine lv_iinc (v := 1) (lv' := [(5, .int 1), (3, .long 23187550409916112), (0, .ref nw), (1, .long 778340787819)]) hx hb dX3_digestFrom_56 hl (k := 1) rfl (by decide) (by decide) rfl (fun ls hl => ?_)
  refine lv_goto (tgt := 5) hx hb dX3_digestFrom_59 (by decide) ?_
  refine lv_iload hx hb dX3_digestFrom_5 (lv_at hl 0 rfl) ?_
  refine lv_iconst (v := 4) hx hb dX3_digestFrom_7 (by decide) ?_
  refine lv_icmp_ge (tgt := 62) hx hb dX3_digestFrom_8 (by decide) (fun c_2 => absurd c_2 (by decide)) (fun _ => ?_)
  refine lv_ldc2 hx hb hown (ht _ kw_894) dX3_digestFrom_11 ?_
  refine q_l (z := ((31 : Int32).toInt64)) (by decide) ?_
  refine lv_lload_n hx hb dX3_digestFrom_14 rfl (lv_at hl 1 rfl) ?_
  refine lv_lmul hx hb dX3_digestFrom_15 ?_
  refine q_l (z := 718814062707399472) (by decide) ?_
  refine lv_aload_n hx hb dX3_digestFrom_16 rfl (lv_at hl 2 rfl) ?_
  refine va_get (D := D) (ci := 3) (v := .ref knds) (C := RX3) (T := TX3) (N := 18) hx hb ht inX3 hown hK hP 0 rfl rfl 9 (Nat.le_of_ble_eq_true rfl) (ht _ kw_151) (fun _ h9 => h9) rfl dX3_digestFrom_17 ?_
  refine lv_iload hx hb dX3_digestFrom_20 (lv_at hl 0 rfl) ?_
  refine va_iald hx hb hK hP 1 0 rfl rfl (vin (by decide)) dX3_digestFrom_22 ?_
  refine q_i (z := 0) rfl ?_
  refine lv_i2l (v := ((0 : Int32).toInt64)) hx hb dX3_digestFrom_23 rfl ?_
  refine lv_ladd hx hb dX3_digestFrom_24 ?_
  refine q_l (z := 718814062707399472) (by decide) ?_
  refine lv_lstore_n (lv' := [(3, .long 718814062707399472), (5, .int 1), (0, .ref nw), (1, .long 778340787819)]) hx hb dX3_digestFrom_25 rfl hl (by decide) rfl (fun ls hl => ?_)
  refine lv_ldc2 hx hb hown (ht _ kw_894) dX3_digestFrom_26 ?_
  refine q_l (z := ((31 : Int32).toInt64)) (by decide) ?_
  refine lv_lload_n hx hb dX3_digestFrom_29 rfl (lv_at hl 0 rfl) ?_
  refine lv_lmul hx hb dX3_digestFrom_30 ?_
  refine q_l (z := 3836491870219832016) (by decide) ?_
  refine lv_aload_n hx hb dX3_digestFrom_31 rfl (lv_at hl 2 rfl) ?_
  refine va_get (D := D) (ci := 3) (v := .ref rch) (C := RX3) (T := TX3) (N := 18) hx hb ht inX3 hown hK hP 0 rfl rfl 10 (Nat.le_of_ble_eq_true rfl) (ht _ kw_153) (fun _ h9 => h9) rfl dX3_digestFrom_32 ?_
  refine lv_iload hx hb dX3_digestFrom_35 (lv_at hl 1 rfl) ?_
  refine va_iald hx hb hK hP 2 0 rfl rfl (vin (by decide)) dX3_digestFrom_37 ?_
  refine q_i (z := 9) rfl ?_
  refine lv_i2l (v := ((9 : Int32).toInt64)) hx hb dX3_digestFrom_38 rfl ?_
  refine lv_ladd hx hb dX3_digestFrom_39 ?_
  refine q_l (z := 3836491870219832025) (by decide) ?_
  refine lv_lstore_n (lv' := [(3, .long 3836491870219832025), (5, .int 1), (0, .ref nw), (1, .long 778340787819)]) hx hb dX3_digestFrom_40 rfl hl (by decide) rfl (fun ls hl => ?_)
  refine lv_ldc2 hx hb hown (ht _ kw_894) dX3_digestFrom_41 ?_
  refine q_l (z := ((31 : Int32).toInt64)) (by decide) ?_
  refine lv_lload_n hx hb dX3_digestFrom_44 rfl (lv_at hl 0 rfl) ?_
  refine lv_lmul hx hb dX3_digestFrom_45 ?_
  refine q_l (z := 8250783534557483079) (by decide) ?_
  refine lv_aload_n hx hb dX3_digestFrom_46 rfl (lv_at hl 2 rfl) ?_
  refine va_get (D := D) (ci := 3) (v := .ref spd) (C := RX3) (T := TX3) (N := 18) hx hb ht inX3 hown hK hP 0 rfl rfl 11 (Nat.le_of_ble_eq_true rfl) (ht _ kw_154) (fun _ h9 => h9) rfl dX3_digestFrom_47 ?_
  refine lv_iload hx hb dX3_digestFrom_50 (lv_at hl 1 rfl) ?_
  refine va_iald hx hb hK hP 3 0 rfl rfl (vin (by decide)) dX3_digestFrom_52 ?_
  refine q_i (z := 4) rfl ?_
  refine lv_i2l (v := ((4 : Int32).toInt64)) hx hb dX3_digestFrom_53 rfl ?_
  refine lv_ladd hx hb dX3_digestFrom_54 ?_
  refine q_l (z := 8250783534557483083) (by decide) ?_
  refine lv_lstore_n (lv' := [(3, .long 8250783534557483083), (5, .int 1), (0, .ref nw), (1, .long 778340787819)]) hx hb dX3_digestFrom_55 rfl hl (by decide) rfl (fun ls hl => ?_)
  refine lv_iinc (v := 2) (lv' := [(5, .int 2), (3, .long 8250783534557483083), (0, .ref nw), (1, .long 778340787819)]) hx hb dX3_digestFrom_56 hl (k := 1) rfl (by decide) (by decide) rfl (fun ls hl => ?_)
  refine lv_goto (tgt := 5) hx hb dX3_digestFrom_59 (by decide) ?_
  refine lv_iload hx hb dX3_digestFrom_5 (lv_at hl 0 rfl) ?_
  refine lv_iconst (v := 4) hx hb dX3_digestFrom_7 (by decide) ?_
  refine lv_icmp_ge (tgt := 62) hx hb dX3_digestFrom_8 (by decide) (fun c_3 => absurd c_3 (by decide)) (fun _ => ?_)
  refine lv_ldc2 hx hb hown (ht _ kw_894) dX3_digestFrom_11 ?_
  refine q_l (z := ((31 : Int32).toInt64)) (by decide) ?_
  refine lv_lload_n hx hb dX3_digestFrom_14 rfl (lv_at hl 1 rfl) ?_
  refine lv_lmul hx hb dX3_digestFrom_15 ?_
  refine q_l (z := (-2480127460651747051)) (by decide) ?_
  refine lv_aload_n hx hb dX3_digestFrom_16 rfl (lv_at hl 2 rfl) ?_
  refine va_get (D := D) (ci := 3) (v := .ref knds) (C := RX3) (T := TX3) (N := 18) hx hb ht inX3 hown hK hP 0 rfl rfl 9 (Nat.le_of_ble_eq_true rfl) (ht _ kw_151) (fun _ h9 => h9) rfl dX3_digestFrom_17 ?_
  refine lv_iload hx hb dX3_digestFrom_20 (lv_at hl 0 rfl) ?_
  refine va_iald hx hb hK hP 1 0 rfl rfl (vin (by decide)) dX3_digestFrom_22 ?_
  refine q_i (z := 0) rfl ?_
  refine lv_i2l (v := ((0 : Int32).toInt64)) hx hb dX3_digestFrom_23 rfl ?_
  refine lv_ladd hx hb dX3_digestFrom_24 ?_
  refine q_l (z := (-2480127460651747051)) (by decide) ?_
  refine lv_lstore_n (lv' := [(3, .long (-2480127460651747051)), (5, .int 2), (0, .ref nw), (1, .long 778340787819)]) hx hb dX3_digestFrom_25 rfl hl (by decide) rfl (fun ls hl => ?_)
  refine lv_ldc2 hx hb hown (ht _ kw_894) dX3_digestFrom_26 ?_
  refine q_l (z := ((31 : Int32).toInt64)) (by decide) ?_
  refine lv_lload_n hx hb dX3_digestFrom_29 rfl (lv_at hl 0 rfl) ?_
  refine lv_lmul hx hb dX3_digestFrom_30 ?_
  refine q_l (z := (-3096974985365952117)) (by decide) ?_
  refine lv_aload_n hx hb dX3_digestFrom_31 rfl (lv_at hl 2 rfl) ?_
  refine va_get (D := D) (ci := 3) (v := .ref rch) (C := RX3) (T := TX3) (N := 18) hx hb ht inX3 hown hK hP 0 rfl rfl 10 (Nat.le_of_ble_eq_true rfl) (ht _ kw_153) (fun _ h9 => h9) rfl dX3_digestFrom_32 ?_
  refine lv_iload hx hb dX3_digestFrom_35 (lv_at hl 1 rfl) ?_
  refine va_iald hx hb hK hP 2 0 rfl rfl (vin (by decide)) dX3_digestFrom_37 ?_
  refine q_i (z := 9) rfl ?_
  refine lv_i2l (v := ((9 : Int32).toInt64)) hx hb dX3_digestFrom_38 rfl ?_
  refine lv_ladd hx hb dX3_digestFrom_39 ?_
  refine q_l (z := (-3096974985365952108)) (by decide) ?_
  refine lv_lstore_n (lv' := [(3, .long (-3096974985365952108)), (5, .int 2), (0, .ref nw), (1, .long 778340787819)]) hx hb dX3_digestFrom_40 rfl hl (by decide) rfl (fun ls hl => ?_)
  refine lv_ldc2 hx hb hown (ht _ kw_894) dX3_digestFrom_41 ?_
  refine q_l (z := ((31 : Int32).toInt64)) (by decide) ?_
  refine lv_lload_n hx hb dX3_digestFrom_44 rfl (lv_at hl 0 rfl) ?_
  refine lv_lmul hx hb dX3_digestFrom_45 ?_
  refine q_l (z := (-3772504177796757268)) (by decide) ?_
  refine lv_aload_n hx hb dX3_digestFrom_46 rfl (lv_at hl 2 rfl) ?_
  refine va_get (D := D) (ci := 3) (v := .ref spd) (C := RX3) (T := TX3) (N := 18) hx hb ht inX3 hown hK hP 0 rfl rfl 11 (Nat.le_of_ble_eq_true rfl) (ht _ kw_154) (fun _ h9 => h9) rfl dX3_digestFrom_47 ?_
  refine lv_iload hx hb dX3_digestFrom_50 (lv_at hl 1 rfl) ?_
  refine va_iald hx hb hK hP 3 0 rfl rfl (vin (by decide)) dX3_digestFrom_52 ?_
  refine q_i (z := 4) rfl ?_
  refine lv_i2l (v := ((4 : Int32).toInt64)) hx hb dX3_digestFrom_53 rfl ?_
  refine lv_ladd hx hb dX3_digestFrom_54 ?_
  refine q_l (z := (-3772504177796757264)) (by decide) ?_
  refine lv_lstore_n (lv' := [(3, .long (-3772504177796757264)), (5, .int 2), (0, .ref nw), (1, .long 778340787819)]) hx hb dX3_digestFrom_55 rfl hl (by decide) rfl (fun ls hl => ?_)
  refine lv_iinc (v := 3) (lv' := [(5, .int 3), (3, .long (-3772504177796757264)), (0, .ref nw), (1, .long 778340787819)]) hx hb dX3_digestFrom_56 hl (k := 1) rfl (by decide) (by decide) rfl (fun ls hl => ?_)
  refine lv_goto (tgt := 5) hx hb dX3_digestFrom_59 (by decide) ?_
  refine lv_iload hx hb dX3_digestFrom_5 (lv_at hl 0 rfl) ?_
  refine lv_iconst (v := 4) hx hb dX3_digestFrom_7 (by decide) ?_
  refine lv_icmp_ge (tgt := 62) hx hb dX3_digestFrom_8 (by decide) (fun c_4 => absurd c_4 (by decide)) (fun _ => ?_)
  refine lv_ldc2 hx hb hown (ht _ kw_894) dX3_digestFrom_11 ?_
  refine q_l (z := ((31 : Int32).toInt64)) (by decide) ?_
  refine lv_lload_n hx hb dX3_digestFrom_14 rfl (lv_at hl 1 rfl) ?_
  refine lv_lmul hx hb dX3_digestFrom_15 ?_
  refine q_l (z := (-6267165069442165488)) (by decide) ?_
  refine lv_aload_n hx hb dX3_digestFrom_16 rfl (lv_at hl 2 rfl) ?_
  refine va_get (D := D) (ci := 3) (v := .ref knds) (C := RX3) (T := TX3) (N := 18) hx hb ht inX3 hown hK hP 0 rfl rfl 9 (Nat.le_of_ble_eq_true rfl) (ht _ kw_151) (fun _ h9 => h9) rfl dX3_digestFrom_17 ?_
  refine lv_iload hx hb dX3_digestFrom_20 (lv_at hl 0 rfl) ?_
  refine va_iald hx hb hK hP 1 0 rfl rfl (vin (by decide)) dX3_digestFrom_22 ?_
  refine q_i (z := 0) rfl ?_
  refine lv_i2l (v := ((0 : Int32).toInt64)) hx hb dX3_digestFrom_23 rfl ?_
  refine lv_ladd hx hb dX3_digestFrom_24 ?_
  refine q_l (z := (-6267165069442165488)) (by decide) ?_
  refine lv_lstore_n (lv' := [(3, .long (-6267165069442165488)), (5, .int 3), (0, .ref nw), (1, .long 778340787819)]) hx hb dX3_digestFrom_25 rfl hl (by decide) rfl (fun ls hl => ?_)
  refine lv_ldc2 hx hb hown (ht _ kw_894) dX3_digestFrom_26 ?_
  refine q_l (z := ((31 : Int32).toInt64)) (by decide) ?_
  refine lv_lload_n hx hb dX3_digestFrom_29 rfl (lv_at hl 0 rfl) ?_
  refine lv_lmul hx hb dX3_digestFrom_30 ?_
  refine q_l (z := 8632067658097937648) (by decide) ?_
  refine lv_aload_n hx hb dX3_digestFrom_31 rfl (lv_at hl 2 rfl) ?_
  refine va_get (D := D) (ci := 3) (v := .ref rch) (C := RX3) (T := TX3) (N := 18) hx hb ht inX3 hown hK hP 0 rfl rfl 10 (Nat.le_of_ble_eq_true rfl) (ht _ kw_153) (fun _ h9 => h9) rfl dX3_digestFrom_32 ?_
  refine lv_iload hx hb dX3_digestFrom_35 (lv_at hl 1 rfl) ?_
  refine va_iald hx hb hK hP 2 0 rfl rfl (vin (by decide)) dX3_digestFrom_37 ?_
  refine q_i (z := 9) rfl ?_
  refine lv_i2l (v := ((9 : Int32).toInt64)) hx hb dX3_digestFrom_38 rfl ?_
  refine lv_ladd hx hb dX3_digestFrom_39 ?_
  refine q_l (z := 8632067658097937657) (by decide) ?_
  refine lv_lstore_n (lv' := [(3, .long 8632067658097937657), (5, .int 3), (0, .ref nw), (1, .long 778340787819)]) hx hb dX3_digestFrom_40 rfl hl (by decide) rfl (fun ls hl => ?_)
  refine lv_ldc2 hx hb hown (ht _ kw_894) dX3_digestFrom_41 ?_
  refine q_l (z := ((31 : Int32).toInt64)) (by decide) ?_
  refine lv_lload_n hx hb dX3_digestFrom_44 rfl (lv_at hl 0 rfl) ?_
  refine lv_lmul hx hb dX3_digestFrom_45 ?_
  refine q_l (z := (-9107063704607206873)) (by decide) ?_
  refine lv_aload_n hx hb dX3_digestFrom_46 rfl (lv_at hl 2 rfl) ?_
  refine va_get (D := D) (ci := 3) (v := .ref spd) (C := RX3) (T := TX3) (N := 18) hx hb ht inX3 hown hK hP 0 rfl rfl 11 (Nat.le_of_ble_eq_true rfl) (ht _ kw_154) (fun _ h9 => h9) rfl dX3_digestFrom_47 ?_
  refine lv_iload hx hb dX3_digestFrom_50 (lv_at hl 1 rfl) ?_
  refine va_iald hx hb hK hP 3 0 rfl rfl (vin (by decide)) dX3_digestFrom_52 ?_
  refine q_i (z := 4) rfl ?_
  refine lv_i2l (v := ((4 : Int32).toInt64)) hx hb dX3_digestFrom_53 rfl ?_
  refine lv_ladd hx hb dX3_digestFrom_54 ?_
  refine q_l (z := (-9107063704607206869)) (by decide) ?_
  refine lv_lstore_n (lv' := [(3, .long (-9107063704607206869)), (5, .int 3), (0, .ref nw), (1, .long 778340787819)]) hx hb dX3_digestFrom_55 rfl hl (by decide) rfl (fun ls hl => ?_)
  refine lv_iinc (v := 4) (lv' := [(5, .int 4), (3, .long (-9107063704607206869)), (0, .ref nw), (1, .long 778340787819)]) hx hb dX3_digestFrom_56 hl (k := 1) rfl (by decide) (by decide) rfl (fun ls hl => ?_)
  refine lv_goto (tgt := 5) hx hb dX3_digestFrom_59 (by decide) ?_
  refine lv_iload hx hb dX3_digestFrom_5 (lv_at hl 0 rfl) ?_
  refine lv_iconst (v := 4) hx hb dX3_digestFrom_7 (by decide) ?_
  refine lv_icmp_ge (tgt := 62) hx hb dX3_digestFrom_8 (by decide) (fun _ => ?_) (fun c_5 => absurd (by decide) c_5)
  refine lv_ldc2 hx hb hown (ht _ kw_894) dX3_digestFrom_62 ?_
  refine q_l (z := ((31 : Int32).toInt64)) (by decide) ?_
  refine lv_lload_n hx hb dX3_digestFrom_65 rfl (lv_at hl 1 rfl) ?_
  refine lv_lmul hx hb dX3_digestFrom_66 ?_
  refine q_l (z := (-5617813737180138699)) (by decide) ?_
  refine lv_aload_n hx hb dX3_digestFrom_67 rfl (lv_at hl 2 rfl) ?_
  refine va_get (D := D) (ci := 3) (v := .int 0) (C := RX3) (T := TX3) (N := 18) hx hb ht inX3 hown hK hP 0 rfl rfl 12 (Nat.le_of_ble_eq_true rfl) (ht _ kw_155) (fun _ h9 => h9) rfl dX3_digestFrom_68 ?_
  refine lv_i2l (v := ((0 : Int32).toInt64)) hx hb dX3_digestFrom_71 rfl ?_
  refine lv_ladd hx hb dX3_digestFrom_72 ?_
  refine q_l (z := (-5617813737180138699)) (by decide) ?_
  refine lv_lstore_n (lv' := [(3, .long (-5617813737180138699)), (5, .int 4), (0, .ref nw), (1, .long 778340787819)]) hx hb dX3_digestFrom_73 rfl hl (by decide) rfl (fun ls hl => ?_)
  refine lv_ldc2 hx hb hown (ht _ kw_894) dX3_digestFrom_74 ?_
  refine q_l (z := ((31 : Int32).toInt64)) (by decide) ?_
  refine lv_lload_n hx hb dX3_digestFrom_77 rfl (lv_at hl 0 rfl) ?_
  refine lv_lmul hx hb dX3_digestFrom_78 ?_
  refine q_l (z := (-8131529189198335125)) (by decide) ?_
  refine lv_aload_n hx hb dX3_digestFrom_79 rfl (lv_at hl 2 rfl) ?_
  refine va_get (D := D) (ci := 3) (v := .int 0) (C := RX3) (T := TX3) (N := 18) hx hb ht inX3 hown hK hP 0 rfl rfl 13 (Nat.le_of_ble_eq_true rfl) (ht _ kw_157) (fun _ h9 => h9) rfl dX3_digestFrom_80 ?_
  refine lv_i2l (v := ((0 : Int32).toInt64)) hx hb dX3_digestFrom_83 rfl ?_
  refine lv_ladd hx hb dX3_digestFrom_84 ?_
  refine q_l (z := (-8131529189198335125)) (by decide) ?_
  refine lv_lstore_n (lv' := [(3, .long (-8131529189198335125)), (5, .int 4), (0, .ref nw), (1, .long 778340787819)]) hx hb dX3_digestFrom_85 rfl hl (by decide) rfl (fun ls hl => ?_)
  refine lv_iconst (v := 0) hx hb dX3_digestFrom_86 (by decide) ?_
  refine lv_istore (lv' := [(5, .int 0), (3, .long (-8131529189198335125)), (0, .ref nw), (1, .long 778340787819)]) hx hb dX3_digestFrom_87 hl (by decide) rfl (fun ls hl => ?_)
  refine lv_iload hx hb dX3_digestFrom_89 (lv_at hl 0 rfl) ?_
  refine lv_aload_n hx hb dX3_digestFrom_91 rfl (lv_at hl 2 rfl) ?_
  refine va_get (D := D) (ci := 3) (v := .int 0) (C := RX3) (T := TX3) (N := 18) hx hb ht inX3 hown hK hP 0 rfl rfl 1 (Nat.le_of_ble_eq_true rfl) (ht _ kw_122) (fun _ h9 => h9) rfl dX3_digestFrom_92 ?_
  refine lv_icmp_ge (tgt := 209) hx hb dX3_digestFrom_95 (by decide) (fun _ => ?_) (fun c_6 => absurd (by decide) c_6)
  refine lv_lload_n hx hb dX3_digestFrom_209 rfl (lv_at hl 1 rfl) ?_
  exact q_lret hX hr hlk () rfl (hP.sub [] rfl) (hD.sub [] (by decide) rfl) hS dX3_digestFrom_210
abbrev w_digest (cI cZ cP : ClassId) (x0 : Nat) (nw : Nat) (sp : Nat) (im : Nat) (sc : Nat) (hg : Nat) (fg : Nat) (pg : Nat) (pr : Nat) (keys : Nat) (moms : Nat) (lens : Nat) (prts : Nat) (luds : Nat) (hnds : Nat) (lats : Nat) (knds : Nat) (rch : Nat) (spd : Nat) (unN : Nat) (unH : Nat) (ptn : Nat) (byt : Nat) (nms : Nat) : va_W := [(x0, .inr (6, [.ref nw, .ref sp, .ref im, .ref sc, .ref hg, .ref fg, .ref pg, .ref pr, .int 0, .long 0, .long 1, .int 0, .int 0, .int 0])), (nw, .inr (3, [.int 2, .int 0, .ref keys, .ref moms, .ref lens, .ref prts, .ref luds, .ref hnds, .ref lats, .ref knds, .ref rch, .ref spd, .int 0, .int 0, .int 0, .ref unN, .ref unH, .ref ptn])), (sc, .inr (5, [.ref byt, .int 0, .int 0, .int 0, .int 0, .ref nms, .int 0])), (knds, .inl (cI, 4, .inl (fun _ => 0))), (rch, .inl (cI, 4, .inl (fun _ => 9))), (spd, .inl (cI, 4, .inl (fun _ => 4)))]
set_option maxHeartbeats 4000000 in
set_option maxRecDepth 100000 in
theorem c_digest (l : Launch) (D : va_G) (cI cZ cP : ClassId) (sa : Nat → Nat) (x0 : Nat) (nw : Nat) (sp : Nat) (im : Nat) (sc : Nat) (hg : Nat) (fg : Nat) (pg : Nat) (pr : Nat) (keys : Nat) (moms : Nat) (lens : Nat) (prts : Nat) (luds : Nat) (hnds : Nat) (lats : Nat) (knds : Nat) (rch : Nat) (spd : Nat) (unN : Nat) (unH : Nat) (ptn : Nat) (byt : Nat) (nms : Nat) (sz : Nat) : Met l yX6_digest (qW yX6_digest cX6_digest 4 (some .long)) ({ frames := 2, cells := 0, slots := 0, locals := 43 } : Room) (qP D (TY cI cZ cP) sa [.ref x0] (w_digest cI cZ cP x0 nw sp im sc hg fg pg pr keys moms lens prts luds hnds lats knds rch spd unN unH ptn byt nms) sz) (qQl D (w_digest cI cZ cP x0 nw sp im sc hg fg pg pr keys moms lens prts luds hnds lats knds rch spd unN unH ptn byt nms) sz (fun (r : Int64) (_ : Unit) => r = 7019936433249830060) (fun _ => [])) 0 0 (va_A (w_digest cI cZ cP x0 nw sp im sc hg fg pg pr keys moms lens prts luds hnds lats knds rch spd unN unH ptn byt nms) sz) := by
  refine q_enter (by decide) (Nat.le_of_ble_eq_true rfl) ?_
  intro p e s m below meth c ls hX hr hlk hnm hE hK hP hD hS hA hl
  obtain ⟨hx, hb, hml, hown, ht⟩ := id hX
  have hl : lv_has ls 4 [(0, .ref x0)] := hl
  refine lv_ldc2 hx hb hown (ht _ kw_888) dX6_digest_0 ?_
  refine q_l (z := ((877 : Int32).toInt64)) (by decide) ?_
  refine lv_lstore_n (lv' := [(1, .long ((877 : Int32).toInt64)), (0, .ref x0)]) hx hb dX6_digest_3 rfl hl (by decide) rfl (fun ls hl => ?_)
  refine lv_iconst (v := 0) hx hb dX6_digest_4 (by decide) ?_
  refine lv_istore_n (lv' := [(3, .int 0), (1, .long ((877 : Int32).toInt64)), (0, .ref x0)]) hx hb dX6_digest_5 rfl hl (by decide) rfl (fun ls hl => ?_)
  refine lv_iload_n hx hb dX6_digest_6 rfl (lv_at hl 0 rfl) ?_
  refine lv_iconst (v := 5) hx hb dX6_digest_7 (by decide) ?_
  refine lv_icmp_gt (tgt := 30) hx hb dX6_digest_8 (by decide) (fun c_1 => absurd c_1 (by decide)) (fun _ => ?_)
  refine lv_ldc2 hx hb hown (ht _ kw_889) dX6_digest_11 ?_
  refine q_l (z := ((31 : Int32).toInt64)) (by decide) ?_
  refine lv_lload_n hx hb dX6_digest_14 rfl (lv_at hl 1 rfl) ?_
  refine lv_lmul hx hb dX6_digest_15 ?_
  refine q_l (z := ((27187 : Int32).toInt64)) (by decide) ?_
  refine lv_aload_n hx hb dX6_digest_16 rfl (lv_at hl 2 rfl) ?_
  refine lv_iload_n hx hb dX6_digest_17 rfl (lv_at hl 0 rfl) ?_
  refine q_Vi (wr := [(knds, .inl (cI, 4, .inl (fun _ => 0))), (rch, .inl (cI, 4, .inl (fun _ => 9))), (spd, .inl (cI, 4, .inl (fun _ => 4)))]) [0, 1, 2] [3, 4, 5] hX hE hK hP hD hS hA hl.1 lk_X6_281 (c_howMany0 l D cI cZ cP sa x0 nw sp im sc hg fg pg pr keys moms lens prts luds hnds lats knds rch spd unN unH ptn byt nms _) rfl rfl rfl rfl (by decide) 0 6 rfl rfl rfl rfl (Nat.le_of_ble_eq_true rfl) rfl rfl ⟨Nat.le_of_ble_eq_true rfl, Nat.le_of_ble_eq_true rfl⟩ ⟨Nat.le_of_ble_eq_true rfl, Nat.le_of_ble_eq_true rfl⟩ dX6_digest_18 (fun x_2 _ H locs h_2 hP hD hS => ?_)
  have hP : va_P D vwCl [(knds, .inl (cI, 4, .inl (fun _ => 0))), (rch, .inl (cI, 4, .inl (fun _ => 9))), (spd, .inl (cI, 4, .inl (fun _ => 4))), (x0, .inr (6, [.ref nw, .ref sp, .ref im, .ref sc, .ref hg, .ref fg, .ref pg, .ref pr, .int 0, .long 0, .long 1, .int 0, .int 0, .int 0])), (nw, .inr (3, [.int 2, .int 0, .ref keys, .ref moms, .ref lens, .ref prts, .ref luds, .ref hnds, .ref lats, .ref knds, .ref rch, .ref spd, .int 0, .int 0, .int 0, .ref unN, .ref unH, .ref ptn])), (sc, .inr (5, [.ref byt, .int 0, .int 0, .int 0, .int 0, .ref nms, .int 0]))] H := hP
  have hD : va_D (va_A (w_digest cI cZ cP x0 nw sp im sc hg fg pg pr keys moms lens prts luds hnds lats knds rch spd unN unH ptn byt nms) sz) [(knds, .inl (cI, 4, .inl (fun _ => 0))), (rch, .inl (cI, 4, .inl (fun _ => 9))), (spd, .inl (cI, 4, .inl (fun _ => 4))), (x0, .inr (6, [.ref nw, .ref sp, .ref im, .ref sc, .ref hg, .ref fg, .ref pg, .ref pr, .int 0, .long 0, .long 1, .int 0, .int 0, .int 0])), (nw, .inr (3, [.int 2, .int 0, .ref keys, .ref moms, .ref lens, .ref prts, .ref luds, .ref hnds, .ref lats, .ref knds, .ref rch, .ref spd, .int 0, .int 0, .int 0, .ref unN, .ref unH, .ref ptn])), (sc, .inr (5, [.ref byt, .int 0, .int 0, .int 0, .int 0, .ref nms, .int 0]))] := hD
  subst h_2
  refine lv_i2l (v := ((0 : Int32).toInt64)) hx hb dX6_digest_21 rfl ?_
  refine lv_ladd hx hb dX6_digest_22 ?_
  refine q_l (z := ((27187 : Int32).toInt64)) (by decide) ?_
  refine lv_lstore_n (lv' := [(1, .long ((27187 : Int32).toInt64)), (3, .int 0), (0, .ref x0)]) hx hb dX6_digest_23 rfl hl (by decide) rfl (fun ls hl => ?_)
  refine lv_iinc (v := 1) (lv' := [(3, .int 1), (1, .long ((27187 : Int32).toInt64)), (0, .ref x0)]) hx hb dX6_digest_24 hl (k := 1) rfl (by decide) (by decide) rfl (fun ls hl => ?_)
  refine lv_goto (tgt := 6) hx hb dX6_digest_27 (by decide) ?_
  refine lv_iload_n hx hb dX6_digest_6 rfl (lv_at hl 0 rfl) ?_
  refine lv_iconst (v := 5) hx hb dX6_digest_7 (by decide) ?_
  refine lv_icmp_gt (tgt := 30) hx hb dX6_digest_8 (by decide) (fun c_3 => absurd c_3 (by decide)) (fun _ => ?_)
  refine lv_ldc2 hx hb hown (ht _ kw_889) dX6_digest_11 ?_
  refine q_l (z := ((31 : Int32).toInt64)) (by decide) ?_
  refine lv_lload_n hx hb dX6_digest_14 rfl (lv_at hl 1 rfl) ?_
  refine lv_lmul hx hb dX6_digest_15 ?_
  refine q_l (z := ((842797 : Int32).toInt64)) (by decide) ?_
  refine lv_aload_n hx hb dX6_digest_16 rfl (lv_at hl 2 rfl) ?_
  refine lv_iload_n hx hb dX6_digest_17 rfl (lv_at hl 0 rfl) ?_
  refine q_Vi (wr := [(knds, .inl (cI, 4, .inl (fun _ => 0))), (rch, .inl (cI, 4, .inl (fun _ => 9))), (spd, .inl (cI, 4, .inl (fun _ => 4)))]) [3, 4, 5] [0, 1, 2] hX hE hK hP hD hS hA hl.1 lk_X6_281 (c_howMany1 l D cI cZ cP sa x0 nw sp im sc hg fg pg pr keys moms lens prts luds hnds lats knds rch spd unN unH ptn byt nms _) rfl rfl rfl rfl (by decide) 0 6 rfl rfl rfl rfl (Nat.le_of_ble_eq_true rfl) rfl rfl ⟨Nat.le_of_ble_eq_true rfl, Nat.le_of_ble_eq_true rfl⟩ ⟨Nat.le_of_ble_eq_true rfl, Nat.le_of_ble_eq_true rfl⟩ dX6_digest_18 (fun x_4 _ H locs h_4 hP hD hS => ?_)
  have hP : va_P D vwCl [(knds, .inl (cI, 4, .inl (fun _ => 0))), (rch, .inl (cI, 4, .inl (fun _ => 9))), (spd, .inl (cI, 4, .inl (fun _ => 4))), (x0, .inr (6, [.ref nw, .ref sp, .ref im, .ref sc, .ref hg, .ref fg, .ref pg, .ref pr, .int 0, .long 0, .long 1, .int 0, .int 0, .int 0])), (nw, .inr (3, [.int 2, .int 0, .ref keys, .ref moms, .ref lens, .ref prts, .ref luds, .ref hnds, .ref lats, .ref knds, .ref rch, .ref spd, .int 0, .int 0, .int 0, .ref unN, .ref unH, .ref ptn])), (sc, .inr (5, [.ref byt, .int 0, .int 0, .int 0, .int 0, .ref nms, .int 0]))] H := hP
  have hD : va_D (va_A (w_digest cI cZ cP x0 nw sp im sc hg fg pg pr keys moms lens prts luds hnds lats knds rch spd unN unH ptn byt nms) sz) [(knds, .inl (cI, 4, .inl (fun _ => 0))), (rch, .inl (cI, 4, .inl (fun _ => 9))), (spd, .inl (cI, 4, .inl (fun _ => 4))), (x0, .inr (6, [.ref nw, .ref sp, .ref im, .ref sc, .ref hg, .ref fg, .ref pg, .ref pr, .int 0, .long 0, .long 1, .int 0, .int 0, .int 0])), (nw, .inr (3, [.int 2, .int 0, .ref keys, .ref moms, .ref lens, .ref prts, .ref luds, .ref hnds, .ref lats, .ref knds, .ref rch, .ref spd, .int 0, .int 0, .int 0, .ref unN, .ref unH, .ref ptn])), (sc, .inr (5, [.ref byt, .int 0, .int 0, .int 0, .int 0, .ref nms, .int 0]))] := hD
  subst h_4
  refine lv_i2l (v := ((0 : Int32).toInt64)) hx hb dX6_digest_21 rfl ?_
  refine lv_ladd hx hb dX6_digest_22 ?_
  refine q_l (z := ((842797 : Int32).toInt64)) (by decide) ?_
  refine lv_lstore_n (lv' := [(1, .long ((842797 : Int32).toInt64)), (3, .int 1), (0, .ref x0)]) hx hb dX6_digest_23 rfl hl (by decide) rfl (fun ls hl => ?_)
  refine lv_iinc (v := 2) (lv' := [(3, .int 2), (1, .long ((842797 : Int32).toInt64)), (0, .ref x0)]) hx hb dX6_digest_24 hl (k := 1) rfl (by decide) (by decide) rfl (fun ls hl => ?_)
  refine lv_goto (tgt := 6) hx hb dX6_digest_27 (by decide) ?_
  refine lv_iload_n hx hb dX6_digest_6 rfl (lv_at hl 0 rfl) ?_
  refine lv_iconst (v := 5) hx hb dX6_digest_7 (by decide) ?_
  refine lv_icmp_gt (tgt := 30) hx hb dX6_digest_8 (by decide) (fun c_5 => absurd c_5 (by decide)) (fun _ => ?_)
  refine lv_ldc2 hx hb hown (ht _ kw_889) dX6_digest_11 ?_
  refine q_l (z := ((31 : Int32).toInt64)) (by decide) ?_
  refine lv_lload_n hx hb dX6_digest_14 rfl (lv_at hl 1 rfl) ?_
  refine lv_lmul hx hb dX6_digest_15 ?_
  refine q_l (z := ((26126707 : Int32).toInt64)) (by decide) ?_
  refine lv_aload_n hx hb dX6_digest_16 rfl (lv_at hl 2 rfl) ?_
  refine lv_iload_n hx hb dX6_digest_17 rfl (lv_at hl 0 rfl) ?_
  refine q_Vi (wr := [(knds, .inl (cI, 4, .inl (fun _ => 0))), (rch, .inl (cI, 4, .inl (fun _ => 9))), (spd, .inl (cI, 4, .inl (fun _ => 4)))]) [3, 4, 5] [0, 1, 2] hX hE hK hP hD hS hA hl.1 lk_X6_281 (c_howMany2 l D cI cZ cP sa x0 nw sp im sc hg fg pg pr keys moms lens prts luds hnds lats knds rch spd unN unH ptn byt nms _) rfl rfl rfl rfl (by decide) 0 6 rfl rfl rfl rfl (Nat.le_of_ble_eq_true rfl) rfl rfl ⟨Nat.le_of_ble_eq_true rfl, Nat.le_of_ble_eq_true rfl⟩ ⟨Nat.le_of_ble_eq_true rfl, Nat.le_of_ble_eq_true rfl⟩ dX6_digest_18 (fun x_6 _ H locs h_6 hP hD hS => ?_)
  have hP : va_P D vwCl [(knds, .inl (cI, 4, .inl (fun _ => 0))), (rch, .inl (cI, 4, .inl (fun _ => 9))), (spd, .inl (cI, 4, .inl (fun _ => 4))), (x0, .inr (6, [.ref nw, .ref sp, .ref im, .ref sc, .ref hg, .ref fg, .ref pg, .ref pr, .int 0, .long 0, .long 1, .int 0, .int 0, .int 0])), (nw, .inr (3, [.int 2, .int 0, .ref keys, .ref moms, .ref lens, .ref prts, .ref luds, .ref hnds, .ref lats, .ref knds, .ref rch, .ref spd, .int 0, .int 0, .int 0, .ref unN, .ref unH, .ref ptn])), (sc, .inr (5, [.ref byt, .int 0, .int 0, .int 0, .int 0, .ref nms, .int 0]))] H := hP
  have hD : va_D (va_A (w_digest cI cZ cP x0 nw sp im sc hg fg pg pr keys moms lens prts luds hnds lats knds rch spd unN unH ptn byt nms) sz) [(knds, .inl (cI, 4, .inl (fun _ => 0))), (rch, .inl (cI, 4, .inl (fun _ => 9))), (spd, .inl (cI, 4, .inl (fun _ => 4))), (x0, .inr (6, [.ref nw, .ref sp, .ref im, .ref sc, .ref hg, .ref fg, .ref pg, .ref pr, .int 0, .long 0, .long 1, .int 0, .int 0, .int 0])), (nw, .inr (3, [.int 2, .int 0, .ref keys, .ref moms, .ref lens, .ref prts, .ref luds, .ref hnds, .ref lats, .ref knds, .ref rch, .ref spd, .int 0, .int 0, .int 0, .ref unN, .ref unH, .ref ptn])), (sc, .inr (5, [.ref byt, .int 0, .int 0, .int 0, .int 0, .ref nms, .int 0]))] := hD
  subst h_6
  refine lv_i2l (v := ((2 : Int32).toInt64)) hx hb dX6_digest_21 rfl ?_
  refine lv_ladd hx hb dX6_digest_22 ?_
  refine q_l (z := ((26126709 : Int32).toInt64)) (by decide) ?_
  refine lv_lstore_n (lv' := [(1, .long ((26126709 : Int32).toInt64)), (3, .int 2), (0, .ref x0)]) hx hb dX6_digest_23 rfl hl (by decide) rfl (fun ls hl => ?_)
  refine lv_iinc (v := 3) (lv' := [(3, .int 3), (1, .long ((26126709 : Int32).toInt64)), (0, .ref x0)]) hx hb dX6_digest_24 hl (k := 1) rfl (by decide) (by decide) rfl (fun ls hl => ?_)
  refine lv_goto (tgt := 6) hx hb dX6_digest_27 (by decide) ?_
  refine lv_iload_n hx hb dX6_digest_6 rfl (lv_at hl 0 rfl) ?_
  refine lv_iconst (v := 5) hx hb dX6_digest_7 (by decide) ?_
  refine lv_icmp_gt (tgt := 30) hx hb dX6_digest_8 (by decide) (fun c_7 => absurd c_7 (by decide)) (fun _ => ?_)
  refine lv_ldc2 hx hb hown (ht _ kw_889) dX6_digest_11 ?_
  refine q_l (z := ((31 : Int32).toInt64)) (by decide) ?_
  refine lv_lload_n hx hb dX6_digest_14 rfl (lv_at hl 1 rfl) ?_
  refine lv_lmul hx hb dX6_digest_15 ?_
  refine q_l (z := ((809927979 : Int32).toInt64)) (by decide) ?_
  refine lv_aload_n hx hb dX6_digest_16 rfl (lv_at hl 2 rfl) ?_
  refine lv_iload_n hx hb dX6_digest_17 rfl (lv_at hl 0 rfl) ?_
  refine q_Vi (wr := [(knds, .inl (cI, 4, .inl (fun _ => 0))), (rch, .inl (cI, 4, .inl (fun _ => 9))), (spd, .inl (cI, 4, .inl (fun _ => 4)))]) [3, 4, 5] [0, 1, 2] hX hE hK hP hD hS hA hl.1 lk_X6_281 (c_howMany3 l D cI cZ cP sa x0 nw sp im sc hg fg pg pr keys moms lens prts luds hnds lats knds rch spd unN unH ptn byt nms _) rfl rfl rfl rfl (by decide) 0 6 rfl rfl rfl rfl (Nat.le_of_ble_eq_true rfl) rfl rfl ⟨Nat.le_of_ble_eq_true rfl, Nat.le_of_ble_eq_true rfl⟩ ⟨Nat.le_of_ble_eq_true rfl, Nat.le_of_ble_eq_true rfl⟩ dX6_digest_18 (fun x_8 _ H locs h_8 hP hD hS => ?_)
  have hP : va_P D vwCl [(knds, .inl (cI, 4, .inl (fun _ => 0))), (rch, .inl (cI, 4, .inl (fun _ => 9))), (spd, .inl (cI, 4, .inl (fun _ => 4))), (x0, .inr (6, [.ref nw, .ref sp, .ref im, .ref sc, .ref hg, .ref fg, .ref pg, .ref pr, .int 0, .long 0, .long 1, .int 0, .int 0, .int 0])), (nw, .inr (3, [.int 2, .int 0, .ref keys, .ref moms, .ref lens, .ref prts, .ref luds, .ref hnds, .ref lats, .ref knds, .ref rch, .ref spd, .int 0, .int 0, .int 0, .ref unN, .ref unH, .ref ptn])), (sc, .inr (5, [.ref byt, .int 0, .int 0, .int 0, .int 0, .ref nms, .int 0]))] H := hP
  have hD : va_D (va_A (w_digest cI cZ cP x0 nw sp im sc hg fg pg pr keys moms lens prts luds hnds lats knds rch spd unN unH ptn byt nms) sz) [(knds, .inl (cI, 4, .inl (fun _ => 0))), (rch, .inl (cI, 4, .inl (fun _ => 9))), (spd, .inl (cI, 4, .inl (fun _ => 4))), (x0, .inr (6, [.ref nw, .ref sp, .ref im, .ref sc, .ref hg, .ref fg, .ref pg, .ref pr, .int 0, .long 0, .long 1, .int 0, .int 0, .int 0])), (nw, .inr (3, [.int 2, .int 0, .ref keys, .ref moms, .ref lens, .ref prts, .ref luds, .ref hnds, .ref lats, .ref knds, .ref rch, .ref spd, .int 0, .int 0, .int 0, .ref unN, .ref unH, .ref ptn])), (sc, .inr (5, [.ref byt, .int 0, .int 0, .int 0, .int 0, .ref nms, .int 0]))] := hD
  subst h_8
  refine lv_i2l (v := ((0 : Int32).toInt64)) hx hb dX6_digest_21 rfl ?_
  refine lv_ladd hx hb dX6_digest_22 ?_
  refine q_l (z := ((809927979 : Int32).toInt64)) (by decide) ?_
  refine lv_lstore_n (lv' := [(1, .long ((809927979 : Int32).toInt64)), (3, .int 3), (0, .ref x0)]) hx hb dX6_digest_23 rfl hl (by decide) rfl (fun ls hl => ?_)
  refine lv_iinc (v := 4) (lv' := [(3, .int 4), (1, .long ((809927979 : Int32).toInt64)), (0, .ref x0)]) hx hb dX6_digest_24 hl (k := 1) rfl (by decide) (by decide) rfl (fun ls hl => ?_)
  refine lv_goto (tgt := 6) hx hb dX6_digest_27 (by decide) ?_
  refine lv_iload_n hx hb dX6_digest_6 rfl (lv_at hl 0 rfl) ?_
  refine lv_iconst (v := 5) hx hb dX6_digest_7 (by decide) ?_
  refine lv_icmp_gt (tgt := 30) hx hb dX6_digest_8 (by decide) (fun c_9 => absurd c_9 (by decide)) (fun _ => ?_)
  refine lv_ldc2 hx hb hown (ht _ kw_889) dX6_digest_11 ?_
  refine q_l (z := ((31 : Int32).toInt64)) (by decide) ?_
  refine lv_lload_n hx hb dX6_digest_14 rfl (lv_at hl 1 rfl) ?_
  refine lv_lmul hx hb dX6_digest_15 ?_
  refine q_l (z := 25107767349) (by decide) ?_
  refine lv_aload_n hx hb dX6_digest_16 rfl (lv_at hl 2 rfl) ?_
  refine lv_iload_n hx hb dX6_digest_17 rfl (lv_at hl 0 rfl) ?_
  refine q_Vi (wr := [(knds, .inl (cI, 4, .inl (fun _ => 0))), (rch, .inl (cI, 4, .inl (fun _ => 9))), (spd, .inl (cI, 4, .inl (fun _ => 4)))]) [3, 4, 5] [0, 1, 2] hX hE hK hP hD hS hA hl.1 lk_X6_281 (c_howMany4 l D cI cZ cP sa x0 nw sp im sc hg fg pg pr keys moms lens prts luds hnds lats knds rch spd unN unH ptn byt nms _) rfl rfl rfl rfl (by decide) 0 6 rfl rfl rfl rfl (Nat.le_of_ble_eq_true rfl) rfl rfl ⟨Nat.le_of_ble_eq_true rfl, Nat.le_of_ble_eq_true rfl⟩ ⟨Nat.le_of_ble_eq_true rfl, Nat.le_of_ble_eq_true rfl⟩ dX6_digest_18 (fun x_10 _ H locs h_10 hP hD hS => ?_)
  have hP : va_P D vwCl [(knds, .inl (cI, 4, .inl (fun _ => 0))), (rch, .inl (cI, 4, .inl (fun _ => 9))), (spd, .inl (cI, 4, .inl (fun _ => 4))), (x0, .inr (6, [.ref nw, .ref sp, .ref im, .ref sc, .ref hg, .ref fg, .ref pg, .ref pr, .int 0, .long 0, .long 1, .int 0, .int 0, .int 0])), (nw, .inr (3, [.int 2, .int 0, .ref keys, .ref moms, .ref lens, .ref prts, .ref luds, .ref hnds, .ref lats, .ref knds, .ref rch, .ref spd, .int 0, .int 0, .int 0, .ref unN, .ref unH, .ref ptn])), (sc, .inr (5, [.ref byt, .int 0, .int 0, .int 0, .int 0, .ref nms, .int 0]))] H := hP
  have hD : va_D (va_A (w_digest cI cZ cP x0 nw sp im sc hg fg pg pr keys moms lens prts luds hnds lats knds rch spd unN unH ptn byt nms) sz) [(knds, .inl (cI, 4, .inl (fun _ => 0))), (rch, .inl (cI, 4, .inl (fun _ => 9))), (spd, .inl (cI, 4, .inl (fun _ => 4))), (x0, .inr (6, [.ref nw, .ref sp, .ref im, .ref sc, .ref hg, .ref fg, .ref pg, .ref pr, .int 0, .long 0, .long 1, .int 0, .int 0, .int 0])), (nw, .inr (3, [.int 2, .int 0, .ref keys, .ref moms, .ref lens, .ref prts, .ref luds, .ref hnds, .ref lats, .ref knds, .ref rch, .ref spd, .int 0, .int 0, .int 0, .ref unN, .ref unH, .ref ptn])), (sc, .inr (5, [.ref byt, .int 0, .int 0, .int 0, .int 0, .ref nms, .int 0]))] := hD
  subst h_10
  refine lv_i2l (v := ((0 : Int32).toInt64)) hx hb dX6_digest_21 rfl ?_
  refine lv_ladd hx hb dX6_digest_22 ?_
  refine q_l (z := 25107767349) (by decide) ?_
  refine lv_lstore_n (lv' := [(1, .long 25107767349), (3, .int 4), (0, .ref x0)]) hx hb dX6_digest_23 rfl hl (by decide) rfl (fun ls hl => ?_)
  refine lv_iinc (v := 5) (lv' := [(3, .int 5), (1, .long 25107767349), (0, .ref x0)]) hx hb dX6_digest_24 hl (k := 1) rfl (by decide) (by decide) rfl (fun ls hl => ?_)
  refine lv_goto (tgt := 6) hx hb dX6_digest_27 (by decide) ?_
  refine lv_iload_n hx hb dX6_digest_6 rfl (lv_at hl 0 rfl) ?_
  refine lv_iconst (v := 5) hx hb dX6_digest_7 (by decide) ?_
  refine lv_icmp_gt (tgt := 30) hx hb dX6_digest_8 (by decide) (fun c_11 => absurd c_11 (by decide)) (fun _ => ?_)
  refine lv_ldc2 hx hb hown (ht _ kw_889) dX6_digest_11 ?_
  refine q_l (z := ((31 : Int32).toInt64)) (by decide) ?_
  refine lv_lload_n hx hb dX6_digest_14 rfl (lv_at hl 1 rfl) ?_
  refine lv_lmul hx hb dX6_digest_15 ?_
  refine q_l (z := 778340787819) (by decide) ?_
  refine lv_aload_n hx hb dX6_digest_16 rfl (lv_at hl 2 rfl) ?_
  refine lv_iload_n hx hb dX6_digest_17 rfl (lv_at hl 0 rfl) ?_
  refine q_Vi (wr := [(knds, .inl (cI, 4, .inl (fun _ => 0))), (rch, .inl (cI, 4, .inl (fun _ => 9))), (spd, .inl (cI, 4, .inl (fun _ => 4)))]) [3, 4, 5] [0, 1, 2] hX hE hK hP hD hS hA hl.1 lk_X6_281 (c_howMany5 l D cI cZ cP sa x0 nw sp im sc hg fg pg pr keys moms lens prts luds hnds lats knds rch spd unN unH ptn byt nms _) rfl rfl rfl rfl (by decide) 0 6 rfl rfl rfl rfl (Nat.le_of_ble_eq_true rfl) rfl rfl ⟨Nat.le_of_ble_eq_true rfl, Nat.le_of_ble_eq_true rfl⟩ ⟨Nat.le_of_ble_eq_true rfl, Nat.le_of_ble_eq_true rfl⟩ dX6_digest_18 (fun x_12 _ H locs h_12 hP hD hS => ?_)
  have hP : va_P D vwCl [(knds, .inl (cI, 4, .inl (fun _ => 0))), (rch, .inl (cI, 4, .inl (fun _ => 9))), (spd, .inl (cI, 4, .inl (fun _ => 4))), (x0, .inr (6, [.ref nw, .ref sp, .ref im, .ref sc, .ref hg, .ref fg, .ref pg, .ref pr, .int 0, .long 0, .long 1, .int 0, .int 0, .int 0])), (nw, .inr (3, [.int 2, .int 0, .ref keys, .ref moms, .ref lens, .ref prts, .ref luds, .ref hnds, .ref lats, .ref knds, .ref rch, .ref spd, .int 0, .int 0, .int 0, .ref unN, .ref unH, .ref ptn])), (sc, .inr (5, [.ref byt, .int 0, .int 0, .int 0, .int 0, .ref nms, .int 0]))] H := hP
  have hD : va_D (va_A (w_digest cI cZ cP x0 nw sp im sc hg fg pg pr keys moms lens prts luds hnds lats knds rch spd unN unH ptn byt nms) sz) [(knds, .inl (cI, 4, .inl (fun _ => 0))), (rch, .inl (cI, 4, .inl (fun _ => 9))), (spd, .inl (cI, 4, .inl (fun _ => 4))), (x0, .inr (6, [.ref nw, .ref sp, .ref im, .ref sc, .ref hg, .ref fg, .ref pg, .ref pr, .int 0, .long 0, .long 1, .int 0, .int 0, .int 0])), (nw, .inr (3, [.int 2, .int 0, .ref keys, .ref moms, .ref lens, .ref prts, .ref luds, .ref hnds, .ref lats, .ref knds, .ref rch, .ref spd, .int 0, .int 0, .int 0, .ref unN, .ref unH, .ref ptn])), (sc, .inr (5, [.ref byt, .int 0, .int 0, .int 0, .int 0, .ref nms, .int 0]))] := hD
  subst h_12
  refine lv_i2l (v := ((0 : Int32).toInt64)) hx hb dX6_digest_21 rfl ?_
  refine lv_ladd hx hb dX6_digest_22 ?_
  refine q_l (z := 778340787819) (by decide) ?_
  refine lv_lstore_n (lv' := [(1, .long 778340787819), (3, .int 5), (0, .ref x0)]) hx hb dX6_digest_23 rfl hl (by decide) rfl (fun ls hl => ?_)
  refine lv_iinc (v := 6) (lv' := [(3, .int 6), (1, .long 778340787819), (0, .ref x0)]) hx hb dX6_digest_24 hl (k := 1) rfl (by decide) (by decide) rfl (fun ls hl => ?_)
  refine lv_goto (tgt := 6) hx hb dX6_digest_27 (by decide) ?_
  refine lv_iload_n hx hb dX6_digest_6 rfl (lv_at hl 0 rfl) ?_
  refine lv_iconst (v := 5) hx hb dX6_digest_7 (by decide) ?_
  refine lv_icmp_gt (tgt := 30) hx hb dX6_digest_8 (by decide) (fun _ => ?_) (fun c_13 => absurd (by decide) c_13)
  refine lv_aload_n hx hb dX6_digest_30 rfl (lv_at hl 2 rfl) ?_
  refine va_get (D := D) (ci := 6) (v := .ref nw) (C := RX6) (T := TX6) (N := 14) hx hb ht inX6 hown hK hP 3 rfl rfl 0 (Nat.le_of_ble_eq_true rfl) (ht _ kw_337) (fun _ h9 => h9) rfl dX6_digest_31 ?_
  refine lv_lload_n hx hb dX6_digest_34 rfl (lv_at hl 1 rfl) ?_
  refine q_Vl (wr := [(x0, .inr (6, [.ref nw, .ref sp, .ref im, .ref sc, .ref hg, .ref fg, .ref pg, .ref pr, .int 0, .long 0, .long 1, .int 0, .int 0, .int 0])), (sc, .inr (5, [.ref byt, .int 0, .int 0, .int 0, .int 0, .ref nms, .int 0]))]) [4, 0, 1, 2] [3, 5] hX hE hK hP hD hS hA hl.1 lk_X6_288 (c_digestFrom l D cI cZ cP sa nw keys moms lens prts luds hnds lats knds rch spd unN unH ptn _) rfl rfl rfl rfl (by decide) 0 3 rfl rfl rfl rfl (Nat.le_of_ble_eq_true rfl) rfl rfl ⟨Nat.le_of_ble_eq_true rfl, Nat.le_of_ble_eq_true rfl⟩ ⟨Nat.le_of_ble_eq_true rfl, Nat.le_of_ble_eq_true rfl⟩ dX6_digest_35 (fun x_14 _ H locs h_14 hP hD hS => ?_)
  have hP : va_P D vwCl [(x0, .inr (6, [.ref nw, .ref sp, .ref im, .ref sc, .ref hg, .ref fg, .ref pg, .ref pr, .int 0, .long 0, .long 1, .int 0, .int 0, .int 0])), (sc, .inr (5, [.ref byt, .int 0, .int 0, .int 0, .int 0, .ref nms, .int 0]))] H := hP
  have hD : va_D (va_A (w_digest cI cZ cP x0 nw sp im sc hg fg pg pr keys moms lens prts luds hnds lats knds rch spd unN unH ptn byt nms) sz) [(x0, .inr (6, [.ref nw, .ref sp, .ref im, .ref sc, .ref hg, .ref fg, .ref pg, .ref pr, .int 0, .long 0, .long 1, .int 0, .int 0, .int 0])), (sc, .inr (5, [.ref byt, .int 0, .int 0, .int 0, .int 0, .ref nms, .int 0]))] := hD
  subst h_14
  refine lv_lstore_n (lv' := [(1, .long (-8131529189198335125)), (3, .int 6), (0, .ref x0)]) hx hb dX6_digest_38 rfl hl (by decide) rfl (fun ls hl => ?_)
  refine lv_ldc2 hx hb hown (ht _ kw_889) dX6_digest_39 ?_
  refine q_l (z := ((31 : Int32).toInt64)) (by decide) ?_
  refine lv_lload_n hx hb dX6_digest_42 rfl (lv_at hl 0 rfl) ?_
  refine lv_lmul hx hb dX6_digest_43 ?_
  refine q_l (z := 6177012166785333749) (by decide) ?_
  refine lv_aload_n hx hb dX6_digest_44 rfl (lv_at hl 2 rfl) ?_
  refine va_get (D := D) (ci := 6) (v := .long 0) (C := RX6) (T := TX6) (N := 14) hx hb ht inX6 hown hK hP 0 rfl rfl 9 (Nat.le_of_ble_eq_true rfl) (ht _ kw_346) (fun _ h9 => h9) rfl dX6_digest_45 ?_
  refine lv_ladd hx hb dX6_digest_48 ?_
  refine q_l (z := 6177012166785333749) (by decide) ?_
  refine lv_lstore_n (lv' := [(1, .long 6177012166785333749), (3, .int 6), (0, .ref x0)]) hx hb dX6_digest_49 rfl hl (by decide) rfl (fun ls hl => ?_)
  refine lv_ldc2 hx hb hown (ht _ kw_889) dX6_digest_50 ?_
  refine q_l (z := ((31 : Int32).toInt64)) (by decide) ?_
  refine lv_lload_n hx hb dX6_digest_53 rfl (lv_at hl 0 rfl) ?_
  refine lv_lmul hx hb dX6_digest_54 ?_
  refine q_l (z := 7019936433249830059) (by decide) ?_
  refine lv_aload_n hx hb dX6_digest_55 rfl (lv_at hl 2 rfl) ?_
  refine va_get (D := D) (ci := 6) (v := .long 1) (C := RX6) (T := TX6) (N := 14) hx hb ht inX6 hown hK hP 0 rfl rfl 10 (Nat.le_of_ble_eq_true rfl) (ht _ kw_347) (fun _ h9 => h9) rfl dX6_digest_56 ?_
  refine lv_ladd hx hb dX6_digest_59 ?_
  refine q_l (z := 7019936433249830060) (by decide) ?_
  exact q_lret hX hr hlk () rfl (hP.sub [] rfl) (hD.sub [] (by decide) rfl) hS dX6_digest_60
abbrev w_howManyX (cI cZ cP : ClassId) (x0 : Nat) (nw : Nat) (sp : Nat) (im : Nat) (sc : Nat) (hg : Nat) (fg : Nat) (pg : Nat) (pr : Nat) (keys : Nat) (moms : Nat) (lens : Nat) (prts : Nat) (luds : Nat) (hnds : Nat) (lats : Nat) (knds : Nat) (rch : Nat) (spd : Nat) (unN : Nat) (unH : Nat) (ptn : Nat) (byt : Nat) (nms : Nat) (p0 : Int32) : va_W := [(x0, .inr (6, [.ref nw, .ref sp, .ref im, .ref sc, .ref hg, .ref fg, .ref pg, .ref pr, .int 0, .long 0, .long 1, .int 0, .int 0, .int 0])), (nw, .inr (3, [.int 2, .int 0, .ref keys, .ref moms, .ref lens, .ref prts, .ref luds, .ref hnds, .ref lats, .ref knds, .ref rch, .ref spd, .int 0, .int 0, .int 0, .ref unN, .ref unH, .ref ptn])), (sc, .inr (5, [.ref byt, .int 0, .int 0, .int 0, .int 0, .ref nms, .int 0]))]
set_option maxHeartbeats 4000000 in
set_option maxRecDepth 100000 in
theorem c_howManyX (l : Launch) (D : va_G) (cI cZ cP : ClassId) (sa : Nat → Nat) (x0 : Nat) (nw : Nat) (sp : Nat) (im : Nat) (sc : Nat) (hg : Nat) (fg : Nat) (pg : Nat) (pr : Nat) (keys : Nat) (moms : Nat) (lens : Nat) (prts : Nat) (luds : Nat) (hnds : Nat) (lats : Nat) (knds : Nat) (rch : Nat) (spd : Nat) (unN : Nat) (unH : Nat) (ptn : Nat) (byt : Nat) (nms : Nat) (p0 : Int32) (sz : Nat) : Met l yX6_howMany (qW yX6_howMany cX6_howMany 2 (some .int)) ({ frames := 1, cells := 0, slots := 0, locals := 22 } : Room) (qP D (TY cI cZ cP) sa [.ref x0, .int p0] (w_howManyX cI cZ cP x0 nw sp im sc hg fg pg pr keys moms lens prts luds hnds lats knds rch spd unN unH ptn byt nms p0) sz) (qQi D (w_howManyX cI cZ cP x0 nw sp im sc hg fg pg pr keys moms lens prts luds hnds lats knds rch spd unN unH ptn byt nms p0) sz (fun (r : Int32) (_ : Unit) => r = if p0 = 2 then 2 else 0) (fun _ => [])) 0 0 (va_A (w_howManyX cI cZ cP x0 nw sp im sc hg fg pg pr keys moms lens prts luds hnds lats knds rch spd unN unH ptn byt nms p0) sz) := by
  refine q_enter (by decide) (Nat.le_of_ble_eq_true rfl) ?_
  intro p e s m below meth c ls hX hr hlk hnm hE hK hP hD hS hA hl
  obtain ⟨hx, hb, hml, hown, ht⟩ := id hX
  have hl : lv_has ls 2 [(0, .ref x0), (1, .int p0)] := hl
  refine lv_iload_n hx hb dX6_howMany_0 rfl (lv_at hl 1 rfl) ?_
  rcases Classical.em (p0 = 0) with c_1 | c_1
  · refine q_i (z := 0) c_1 ?_
    refine lv_tableIn (off := 35) (tgt := 36) hx hb dX6_howMany_1 (by decide) (by decide) rfl (by decide) ?_
    refine lv_aload_n hx hb dX6_howMany_36 rfl (lv_at hl 0 rfl) ?_
    refine va_get (D := D) (ci := 6) (v := .ref nw) (C := RX6) (T := TX6) (N := 14) hx hb ht inX6 hown hK hP 0 rfl rfl 0 (Nat.le_of_ble_eq_true rfl) (ht _ kw_337) (fun _ h9 => h9) rfl dX6_howMany_37 ?_
    refine va_get (D := D) (ci := 3) (v := .int 0) (C := RX3) (T := TX3) (N := 18) hx hb ht inX3 hown hK hP 1 rfl rfl 1 (Nat.le_of_ble_eq_true rfl) (ht _ kw_123) (fun _ h9 => h9) rfl dX6_howMany_40 ?_
    exact q_iret hX hr hlk () (by simp [c_1]) (hP.sub [] rfl) (hD.sub [] (by decide) rfl) hS dX6_howMany_43
  rcases Classical.em (p0 = 1) with c_2 | c_2
  · refine q_i (z := 1) c_2 ?_
    refine lv_tableIn (off := 43) (tgt := 44) hx hb dX6_howMany_1 (by decide) (by decide) rfl (by decide) ?_
    refine lv_aload_n hx hb dX6_howMany_44 rfl (lv_at hl 0 rfl) ?_
    refine va_get (D := D) (ci := 6) (v := .ref nw) (C := RX6) (T := TX6) (N := 14) hx hb ht inX6 hown hK hP 0 rfl rfl 0 (Nat.le_of_ble_eq_true rfl) (ht _ kw_337) (fun _ h9 => h9) rfl dX6_howMany_45 ?_
    refine q_Vi (wr := [(x0, .inr (6, [.ref nw, .ref sp, .ref im, .ref sc, .ref hg, .ref fg, .ref pg, .ref pr, .int 0, .long 0, .long 1, .int 0, .int 0, .int 0])), (sc, .inr (5, [.ref byt, .int 0, .int 0, .int 0, .int 0, .ref nms, .int 0]))]) [1] [0, 2] hX hE hK hP hD hS hA hl.1 lk_X6_296 (c_playedCount l D cI cZ cP sa nw keys moms lens prts luds hnds lats knds rch spd unN unH ptn _) rfl rfl rfl rfl (by decide) 0 3 rfl rfl rfl rfl (Nat.le_of_ble_eq_true rfl) rfl rfl ⟨Nat.le_of_ble_eq_true rfl, Nat.le_of_ble_eq_true rfl⟩ ⟨Nat.le_of_ble_eq_true rfl, Nat.le_of_ble_eq_true rfl⟩ dX6_howMany_48 (fun x_3 _ H locs h_3 hP hD hS => ?_)
    have hP : va_P D vwCl [(x0, .inr (6, [.ref nw, .ref sp, .ref im, .ref sc, .ref hg, .ref fg, .ref pg, .ref pr, .int 0, .long 0, .long 1, .int 0, .int 0, .int 0])), (sc, .inr (5, [.ref byt, .int 0, .int 0, .int 0, .int 0, .ref nms, .int 0])), (nw, .inr (3, [.int 2, .int 0, .ref keys, .ref moms, .ref lens, .ref prts, .ref luds, .ref hnds, .ref lats, .ref knds, .ref rch, .ref spd, .int 0, .int 0, .int 0, .ref unN, .ref unH, .ref ptn]))] H := hP
    have hD : va_D (va_A (w_howManyX cI cZ cP x0 nw sp im sc hg fg pg pr keys moms lens prts luds hnds lats knds rch spd unN unH ptn byt nms p0) sz) [(x0, .inr (6, [.ref nw, .ref sp, .ref im, .ref sc, .ref hg, .ref fg, .ref pg, .ref pr, .int 0, .long 0, .long 1, .int 0, .int 0, .int 0])), (sc, .inr (5, [.ref byt, .int 0, .int 0, .int 0, .int 0, .ref nms, .int 0])), (nw, .inr (3, [.int 2, .int 0, .ref keys, .ref moms, .ref lens, .ref prts, .ref luds, .ref hnds, .ref lats, .ref knds, .ref rch, .ref spd, .int 0, .int 0, .int 0, .ref unN, .ref unH, .ref ptn]))] := hD
    subst h_3
    exact q_iret hX hr hlk () (by simp [c_1, c_2]) (hP.sub [] rfl) (hD.sub [] (by decide) rfl) hS dX6_howMany_51
  rcases Classical.em (p0 = 2) with c_4 | c_4
  · refine q_i (z := 2) c_4 ?_
    refine lv_tableIn (off := 51) (tgt := 52) hx hb dX6_howMany_1 (by decide) (by decide) rfl (by decide) ?_
    refine lv_aload_n hx hb dX6_howMany_52 rfl (lv_at hl 0 rfl) ?_
    refine va_get (D := D) (ci := 6) (v := .ref nw) (C := RX6) (T := TX6) (N := 14) hx hb ht inX6 hown hK hP 0 rfl rfl 0 (Nat.le_of_ble_eq_true rfl) (ht _ kw_337) (fun _ h9 => h9) rfl dX6_howMany_53 ?_
    refine va_get (D := D) (ci := 3) (v := .int 2) (C := RX3) (T := TX3) (N := 18) hx hb ht inX3 hown hK hP 1 rfl rfl 0 (Nat.le_of_ble_eq_true rfl) (ht _ kw_121) (fun _ h9 => h9) rfl dX6_howMany_56 ?_
    exact q_iret hX hr hlk () (by simp [c_1, c_2, c_4]) (hP.sub [] rfl) (hD.sub [] (by decide) rfl) hS dX6_howMany_59
  rcases Classical.em (p0 = 3) with c_5 | c_5
  · refine q_i (z := 3) c_5 ?_
    refine lv_tableIn (off := 59) (tgt := 60) hx hb dX6_howMany_1 (by decide) (by decide) rfl (by decide) ?_
    refine lv_aload_n hx hb dX6_howMany_60 rfl (lv_at hl 0 rfl) ?_
    refine va_get (D := D) (ci := 6) (v := .ref nw) (C := RX6) (T := TX6) (N := 14) hx hb ht inX6 hown hK hP 0 rfl rfl 0 (Nat.le_of_ble_eq_true rfl) (ht _ kw_337) (fun _ h9 => h9) rfl dX6_howMany_61 ?_
    refine va_get (D := D) (ci := 3) (v := .int 0) (C := RX3) (T := TX3) (N := 18) hx hb ht inX3 hown hK hP 1 rfl rfl 13 (Nat.le_of_ble_eq_true rfl) (ht _ kw_158) (fun _ h9 => h9) rfl dX6_howMany_64 ?_
    refine lv_aload_n hx hb dX6_howMany_67 rfl (lv_at hl 0 rfl) ?_
    refine va_get (D := D) (ci := 6) (v := .ref nw) (C := RX6) (T := TX6) (N := 14) hx hb ht inX6 hown hK hP 0 rfl rfl 0 (Nat.le_of_ble_eq_true rfl) (ht _ kw_337) (fun _ h9 => h9) rfl dX6_howMany_68 ?_
    refine va_get (D := D) (ci := 3) (v := .int 0) (C := RX3) (T := TX3) (N := 18) hx hb ht inX3 hown hK hP 1 rfl rfl 12 (Nat.le_of_ble_eq_true rfl) (ht _ kw_156) (fun _ h9 => h9) rfl dX6_howMany_71 ?_
    refine lv_isub hx hb dX6_howMany_74 ?_
    refine q_i (z := 0) (by decide) ?_
    exact q_iret hX hr hlk () (by simp [c_1, c_2, c_4, c_5]) (hP.sub [] rfl) (hD.sub [] (by decide) rfl) hS dX6_howMany_75
  rcases Classical.em (p0 = 4) with c_6 | c_6
  · refine q_i (z := 4) c_6 ?_
    refine lv_tableIn (off := 75) (tgt := 76) hx hb dX6_howMany_1 (by decide) (by decide) rfl (by decide) ?_
    refine lv_aload_n hx hb dX6_howMany_76 rfl (lv_at hl 0 rfl) ?_
    refine va_get (D := D) (ci := 6) (v := .ref nw) (C := RX6) (T := TX6) (N := 14) hx hb ht inX6 hown hK hP 0 rfl rfl 0 (Nat.le_of_ble_eq_true rfl) (ht _ kw_337) (fun _ h9 => h9) rfl dX6_howMany_77 ?_
    refine va_get (D := D) (ci := 3) (v := .int 0) (C := RX3) (T := TX3) (N := 18) hx hb ht inX3 hown hK hP 1 rfl rfl 14 (Nat.le_of_ble_eq_true rfl) (ht _ kw_160) (fun _ h9 => h9) rfl dX6_howMany_80 ?_
    exact q_iret hX hr hlk () (by simp [c_1, c_2, c_4, c_5, c_6]) (hP.sub [] rfl) (hD.sub [] (by decide) rfl) hS dX6_howMany_83
  refine lv_tableOut (tgt := 84) hx hb dX6_howMany_1 (by have q0 := ne_toInt (v := 0) (n := 0) (by decide) c_1; have q1 := ne_toInt (v := 1) (n := 1) (by decide) c_2; have q2 := ne_toInt (v := 2) (n := 2) (by decide) c_4; have q3 := ne_toInt (v := 3) (n := 3) (by decide) c_5; have q4 := ne_toInt (v := 4) (n := 4) (by decide) c_6; omega) (by decide) ?_
  refine lv_aload_n hx hb dX6_howMany_84 rfl (lv_at hl 0 rfl) ?_
  refine va_get (D := D) (ci := 6) (v := .ref sc) (C := RX6) (T := TX6) (N := 14) hx hb ht inX6 hown hK hP 0 rfl rfl 3 (Nat.le_of_ble_eq_true rfl) (ht _ kw_340) (fun _ h9 => h9) rfl dX6_howMany_85 ?_
  refine va_get (D := D) (ci := 5) (v := .int 0) (C := RX5) (T := TX5) (N := 7) hx hb ht inX5 hown hK hP 2 rfl rfl 1 (Nat.le_of_ble_eq_true rfl) (ht _ kw_211) (fun _ h9 => h9) rfl dX6_howMany_88 ?_
  exact q_iret hX hr hlk () (by simp [c_1, c_2, c_4, c_5, c_6]) (hP.sub [] rfl) (hD.sub [] (by decide) rfl) hS dX6_howMany_91
abbrev w_count (cI cZ cP : ClassId) (x0 : Nat) (nw : Nat) (sp : Nat) (im : Nat) (sc : Nat) (hg : Nat) (fg : Nat) (pg : Nat) (pr : Nat) (keys : Nat) (moms : Nat) (lens : Nat) (prts : Nat) (luds : Nat) (hnds : Nat) (lats : Nat) (knds : Nat) (rch : Nat) (spd : Nat) (unN : Nat) (unH : Nat) (ptn : Nat) (byt : Nat) (nms : Nat) (p0 : Int32) : va_W := [(x0, .inr (6, [.ref nw, .ref sp, .ref im, .ref sc, .ref hg, .ref fg, .ref pg, .ref pr, .int 0, .long 0, .long 1, .int 0, .int 0, .int 0])), (nw, .inr (3, [.int 2, .int 0, .ref keys, .ref moms, .ref lens, .ref prts, .ref luds, .ref hnds, .ref lats, .ref knds, .ref rch, .ref spd, .int 0, .int 0, .int 0, .ref unN, .ref unH, .ref ptn])), (sc, .inr (5, [.ref byt, .int 0, .int 0, .int 0, .int 0, .ref nms, .int 0]))]
set_option maxHeartbeats 4000000 in
set_option maxRecDepth 100000 in
theorem c_count (l : Launch) (D : va_G) (cI cZ cP : ClassId) (sa : Nat → Nat) (x0 : Nat) (nw : Nat) (sp : Nat) (im : Nat) (sc : Nat) (hg : Nat) (fg : Nat) (pg : Nat) (pr : Nat) (keys : Nat) (moms : Nat) (lens : Nat) (prts : Nat) (luds : Nat) (hnds : Nat) (lats : Nat) (knds : Nat) (rch : Nat) (spd : Nat) (unN : Nat) (unH : Nat) (ptn : Nat) (byt : Nat) (nms : Nat) (p0 : Int32) (sz : Nat) : Met l yX6_count (qW yX6_count cX6_count 2 (some .int)) ({ frames := 2, cells := 0, slots := 0, locals := 43 } : Room) (qP D (TY cI cZ cP) sa [.ref x0, .int p0] (w_count cI cZ cP x0 nw sp im sc hg fg pg pr keys moms lens prts luds hnds lats knds rch spd unN unH ptn byt nms p0) sz) (qQi D (w_count cI cZ cP x0 nw sp im sc hg fg pg pr keys moms lens prts luds hnds lats knds rch spd unN unH ptn byt nms p0) sz (fun (r : Int32) (_ : Unit) => r = sp_count p0) (fun _ => [])) 0 0 (va_A (w_count cI cZ cP x0 nw sp im sc hg fg pg pr keys moms lens prts luds hnds lats knds rch spd unN unH ptn byt nms p0) sz) := by
  refine q_enter (by decide) (Nat.le_of_ble_eq_true rfl) ?_
  intro p e s m below meth c ls hX hr hlk hnm hE hK hP hD hS hA hl
  obtain ⟨hx, hb, hml, hown, ht⟩ := id hX
  have hl : lv_has ls 2 [(0, .ref x0), (1, .int p0)] := hl
  refine lv_iload_n hx hb dX6_count_0 rfl (lv_at hl 1 rfl) ?_
  refine lv_iconst (v := 0) hx hb dX6_count_1 (by decide) ?_
  refine lv_iconst (v := 5) hx hb dX6_count_2 (by decide) ?_
  refine q_Si (wr := [(x0, .inr (6, [.ref nw, .ref sp, .ref im, .ref sc, .ref hg, .ref fg, .ref pg, .ref pr, .int 0, .long 0, .long 1, .int 0, .int 0, .int 0])), (nw, .inr (3, [.int 2, .int 0, .ref keys, .ref moms, .ref lens, .ref prts, .ref luds, .ref hnds, .ref lats, .ref knds, .ref rch, .ref spd, .int 0, .int 0, .int 0, .ref unN, .ref unH, .ref ptn])), (sc, .inr (5, [.ref byt, .int 0, .int 0, .int 0, .int 0, .ref nms, .int 0]))]) [] [0, 1, 2] hX hE hK hP hD hS hA hl.1 lk_X6_62 (c_within l D cI cZ cP sa p0 0 5 _) rfl rfl rfl rfl (by decide) rfl rfl (Nat.le_of_ble_eq_true rfl) rfl rfl ⟨Nat.le_of_ble_eq_true rfl, Nat.le_of_ble_eq_true rfl⟩ ⟨Nat.le_of_ble_eq_true rfl, Nat.le_of_ble_eq_true rfl⟩ dX6_count_3 (fun x_1 _ H locs h_1 hP hD hS => ?_)
  have hP : va_P D vwCl [(x0, .inr (6, [.ref nw, .ref sp, .ref im, .ref sc, .ref hg, .ref fg, .ref pg, .ref pr, .int 0, .long 0, .long 1, .int 0, .int 0, .int 0])), (nw, .inr (3, [.int 2, .int 0, .ref keys, .ref moms, .ref lens, .ref prts, .ref luds, .ref hnds, .ref lats, .ref knds, .ref rch, .ref spd, .int 0, .int 0, .int 0, .ref unN, .ref unH, .ref ptn])), (sc, .inr (5, [.ref byt, .int 0, .int 0, .int 0, .int 0, .ref nms, .int 0]))] H := hP
  have hD : va_D (va_A (w_count cI cZ cP x0 nw sp im sc hg fg pg pr keys moms lens prts luds hnds lats knds rch spd unN unH ptn byt nms p0) sz) [(x0, .inr (6, [.ref nw, .ref sp, .ref im, .ref sc, .ref hg, .ref fg, .ref pg, .ref pr, .int 0, .long 0, .long 1, .int 0, .int 0, .int 0])), (nw, .inr (3, [.int 2, .int 0, .ref keys, .ref moms, .ref lens, .ref prts, .ref luds, .ref hnds, .ref lats, .ref knds, .ref rch, .ref spd, .int 0, .int 0, .int 0, .ref unN, .ref unH, .ref ptn])), (sc, .inr (5, [.ref byt, .int 0, .int 0, .int 0, .int 0, .ref nms, .int 0]))] := hD
  rcases Classical.em (0 ≤ p0 ∧ p0 ≤ 5) with c_1 | c_1
  · rw [if_pos c_1] at h_1; subst h_1
    refine lv_if_eq (tgt := 17) hx hb dX6_count_6 (by decide) (fun c_2 => absurd c_2 (by decide)) (fun _ => ?_)
    refine lv_aload_n hx hb dX6_count_9 rfl (lv_at hl 0 rfl) ?_
    refine lv_iload_n hx hb dX6_count_10 rfl (lv_at hl 1 rfl) ?_
    refine q_Vi (wr := []) [0, 1, 2] [] hX hE hK hP hD hS hA hl.1 lk_X6_281 (c_howManyX l D cI cZ cP sa x0 nw sp im sc hg fg pg pr keys moms lens prts luds hnds lats knds rch spd unN unH ptn byt nms p0 _) rfl rfl rfl rfl (by decide) 0 6 rfl rfl rfl rfl (Nat.le_of_ble_eq_true rfl) rfl rfl ⟨Nat.le_of_ble_eq_true rfl, Nat.le_of_ble_eq_true rfl⟩ ⟨Nat.le_of_ble_eq_true rfl, Nat.le_of_ble_eq_true rfl⟩ dX6_count_11 (fun x_3 _ H locs h_3 hP hD hS => ?_)
    have hP : va_P D vwCl [] H := hP
    have hD : va_D (va_A (w_count cI cZ cP x0 nw sp im sc hg fg pg pr keys moms lens prts luds hnds lats knds rch spd unN unH ptn byt nms p0) sz) [] := hD
    subst h_3
    refine lv_goto (tgt := 23) hx hb dX6_count_14 (by decide) ?_
    exact q_iret hX hr hlk () (by simp [sp_count, c_1]) (hP.sub [] rfl) (hD.sub [] (by decide) rfl) hS dX6_count_23
  · rw [if_neg c_1] at h_1; subst h_1
    refine lv_if_eq (tgt := 17) hx hb dX6_count_6 (by decide) (fun _ => ?_) (fun c_4 => absurd (by decide) c_4)
    refine lv_aload_n hx hb dX6_count_17 rfl (lv_at hl 0 rfl) ?_
    refine lv_bipush (v := (-2)) hx hb dX6_count_18 (by decide) ?_
    refine q_Vi (wr := [(nw, .inr (3, [.int 2, .int 0, .ref keys, .ref moms, .ref lens, .ref prts, .ref luds, .ref hnds, .ref lats, .ref knds, .ref rch, .ref spd, .int 0, .int 0, .int 0, .ref unN, .ref unH, .ref ptn])), (sc, .inr (5, [.ref byt, .int 0, .int 0, .int 0, .int 0, .ref nms, .int 0]))]) [0] [1, 2] hX hE hK hP hD hS hA hl.1 lk_X6_66 (c_refuseBad l D cI cZ cP sa x0 nw sp im sc hg fg pg pr 0 0 1 0 0 0 (-2) _) rfl rfl rfl rfl (by decide) 0 6 rfl rfl rfl rfl (Nat.le_of_ble_eq_true rfl) rfl rfl ⟨Nat.le_of_ble_eq_true rfl, Nat.le_of_ble_eq_true rfl⟩ ⟨Nat.le_of_ble_eq_true rfl, Nat.le_of_ble_eq_true rfl⟩ dX6_count_20 (fun x_5 _ H locs h_5 hP hD hS => ?_)
    have hP : va_P D vwCl [(nw, .inr (3, [.int 2, .int 0, .ref keys, .ref moms, .ref lens, .ref prts, .ref luds, .ref hnds, .ref lats, .ref knds, .ref rch, .ref spd, .int 0, .int 0, .int 0, .ref unN, .ref unH, .ref ptn])), (sc, .inr (5, [.ref byt, .int 0, .int 0, .int 0, .int 0, .ref nms, .int 0]))] H := hP
    have hD : va_D (va_A (w_count cI cZ cP x0 nw sp im sc hg fg pg pr keys moms lens prts luds hnds lats knds rch spd unN unH ptn byt nms p0) sz) [(nw, .inr (3, [.int 2, .int 0, .ref keys, .ref moms, .ref lens, .ref prts, .ref luds, .ref hnds, .ref lats, .ref knds, .ref rch, .ref spd, .int 0, .int 0, .int 0, .ref unN, .ref unH, .ref ptn])), (sc, .inr (5, [.ref byt, .int 0, .int 0, .int 0, .int 0, .ref nms, .int 0]))] := hD
    subst h_5
    exact q_iret hX hr hlk () (by simp [sp_count, c_1]) (hP.sub [] rfl) (hD.sub [] (by decide) rfl) hS dX6_count_23
abbrev w_clashCount (cI cZ cP : ClassId) (nw : Nat) (keys : Nat) (moms : Nat) (lens : Nat) (prts : Nat) (luds : Nat) (hnds : Nat) (lats : Nat) (knds : Nat) (rch : Nat) (spd : Nat) (unN : Nat) (unH : Nat) (ptn : Nat) : va_W := [(nw, .inr (3, [.int 2, .int 0, .ref keys, .ref moms, .ref lens, .ref prts, .ref luds, .ref hnds, .ref lats, .ref knds, .ref rch, .ref spd, .int 0, .int 0, .int 0, .ref unN, .ref unH, .ref ptn]))]
set_option maxHeartbeats 4000000 in
set_option maxRecDepth 100000 in
theorem c_clashCount (l : Launch) (D : va_G) (cI cZ cP : ClassId) (sa : Nat → Nat) (nw : Nat) (keys : Nat) (moms : Nat) (lens : Nat) (prts : Nat) (luds : Nat) (hnds : Nat) (lats : Nat) (knds : Nat) (rch : Nat) (spd : Nat) (unN : Nat) (unH : Nat) (ptn : Nat) (sz : Nat) : Met l yX3_clashCount (qW yX3_clashCount cX3_clashCount 4 (some .int)) ({ frames := 0, cells := 0, slots := 0, locals := 0 } : Room) (qP D (TY cI cZ cP) sa [.ref nw] (w_clashCount cI cZ cP nw keys moms lens prts luds hnds lats knds rch spd unN unH ptn) sz) (qQi D (w_clashCount cI cZ cP nw keys moms lens prts luds hnds lats knds rch spd unN unH ptn) sz (fun (r : Int32) (_ : Unit) => r = 0) (fun _ => [(nw, .inr (3, [.int 2, .int 0, .ref keys, .ref moms, .ref lens, .ref prts, .ref luds, .ref hnds, .ref lats, .ref knds, .ref rch, .ref spd, .int 0, .int 0, .int 0, .ref unN, .ref unH, .ref ptn]))])) 0 0 (va_A (w_clashCount cI cZ cP nw keys moms lens prts luds hnds lats knds rch spd unN unH ptn) sz) := by
  refine q_enter (by decide) (Nat.le_of_ble_eq_true rfl) ?_
  intro p e s m below meth c ls hX hr hlk hnm hE hK hP hD hS hA hl
  obtain ⟨hx, hb, hml, hown, ht⟩ := id hX
  have hl : lv_has ls 4 [(0, .ref nw)] := hl
  refine lv_iconst (v := 0) hx hb dX3_clashCount_0 (by decide) ?_
  refine lv_istore_n (lv' := [(1, .int 0), (0, .ref nw)]) hx hb dX3_clashCount_1 rfl hl (by decide) rfl (fun ls hl => ?_)
  refine lv_iconst (v := 0) hx hb dX3_clashCount_2 (by decide) ?_
  refine lv_istore_n (lv' := [(2, .int 0), (1, .int 0), (0, .ref nw)]) hx hb dX3_clashCount_3 rfl hl (by decide) rfl (fun ls hl => ?_)
  refine lv_iload_n hx hb dX3_clashCount_4 rfl (lv_at hl 0 rfl) ?_
  refine lv_aload_n hx hb dX3_clashCount_5 rfl (lv_at hl 2 rfl) ?_
  refine va_get (D := D) (ci := 3) (v := .int 0) (C := RX3) (T := TX3) (N := 18) hx hb ht inX3 hown hK hP 0 rfl rfl 1 (Nat.le_of_ble_eq_true rfl) (ht _ kw_122) (fun _ h9 => h9) rfl dX3_clashCount_6 ?_
  refine lv_icmp_ge (tgt := 49) hx hb dX3_clashCount_9 (by decide) (fun _ => ?_) (fun c_1 => absurd (by decide) c_1)
  refine lv_iload_n hx hb dX3_clashCount_49 rfl (lv_at hl 1 rfl) ?_
  exact q_iret hX hr hlk () rfl (hP.sub [0] rfl) (hD.sub [0] (by decide) rfl) hS dX3_clashCount_50
abbrev w_isFree (cI cZ cP : ClassId) (nw : Nat) (keys : Nat) (moms : Nat) (lens : Nat) (prts : Nat) (luds : Nat) (hnds : Nat) (lats : Nat) (knds : Nat) (rch : Nat) (spd : Nat) (unN : Nat) (unH : Nat) (ptn : Nat) (p0 : Int32) (p1 : Int32) : va_W := [(nw, .inr (3, [.int 2, .int 0, .ref keys, .ref moms, .ref lens, .ref prts, .ref luds, .ref hnds, .ref lats, .ref knds, .ref rch, .ref spd, .int 0, .int 0, .int 0, .ref unN, .ref unH, .ref ptn]))]
set_option maxHeartbeats 4000000 in
set_option maxRecDepth 100000 in
theorem c_isFree (l : Launch) (D : va_G) (cI cZ cP : ClassId) (sa : Nat → Nat) (nw : Nat) (keys : Nat) (moms : Nat) (lens : Nat) (prts : Nat) (luds : Nat) (hnds : Nat) (lats : Nat) (knds : Nat) (rch : Nat) (spd : Nat) (unN : Nat) (unH : Nat) (ptn : Nat) (p0 : Int32) (p1 : Int32) (sz : Nat) : Met l yX3_isFree (qW yX3_isFree cX3_isFree 4 (some .boolean)) ({ frames := 0, cells := 0, slots := 0, locals := 0 } : Room) (qP D (TY cI cZ cP) sa [.ref nw, .int p0, .int p1] (w_isFree cI cZ cP nw keys moms lens prts luds hnds lats knds rch spd unN unH ptn p0 p1) sz) (qQi D (w_isFree cI cZ cP nw keys moms lens prts luds hnds lats knds rch spd unN unH ptn p0 p1) sz (fun (r : Int32) (_ : Unit) => r = 1) (fun _ => [(nw, .inr (3, [.int 2, .int 0, .ref keys, .ref moms, .ref lens, .ref prts, .ref luds, .ref hnds, .ref lats, .ref knds, .ref rch, .ref spd, .int 0, .int 0, .int 0, .ref unN, .ref unH, .ref ptn]))])) 0 0 (va_A (w_isFree cI cZ cP nw keys moms lens prts luds hnds lats knds rch spd unN unH ptn p0 p1) sz) := by
  refine q_enter (by decide) (Nat.le_of_ble_eq_true rfl) ?_
  intro p e s m below meth c ls hX hr hlk hnm hE hK hP hD hS hA hl
  obtain ⟨hx, hb, hml, hown, ht⟩ := id hX
  have hl : lv_has ls 4 [(0, .ref nw), (1, .int p0), (2, .int p1)] := hl
  refine lv_iconst (v := 0) hx hb dX3_isFree_0 (by decide) ?_
  refine lv_istore_n (lv' := [(3, .int 0), (0, .ref nw), (1, .int p0), (2, .int p1)]) hx hb dX3_isFree_1 rfl hl (by decide) rfl (fun ls hl => ?_)
  refine lv_iload_n hx hb dX3_isFree_2 rfl (lv_at hl 0 rfl) ?_
  refine lv_aload_n hx hb dX3_isFree_3 rfl (lv_at hl 1 rfl) ?_
  refine va_get (D := D) (ci := 3) (v := .int 0) (C := RX3) (T := TX3) (N := 18) hx hb ht inX3 hown hK hP 0 rfl rfl 1 (Nat.le_of_ble_eq_true rfl) (ht _ kw_122) (fun _ h9 => h9) rfl dX3_isFree_4 ?_
  refine lv_icmp_ge (tgt := 37) hx hb dX3_isFree_7 (by decide) (fun _ => ?_) (fun c_1 => absurd (by decide) c_1)
  refine lv_iconst (v := 1) hx hb dX3_isFree_37 (by decide) ?_
  exact q_zret hX hr hlk (by decide) () rfl (hP.sub [0] rfl) (hD.sub [0] (by decide) rfl) hS dX3_isFree_38
abbrev w_isCovered (cI cZ cP : ClassId) (nw : Nat) (keys : Nat) (moms : Nat) (lens : Nat) (prts : Nat) (luds : Nat) (hnds : Nat) (lats : Nat) (knds : Nat) (rch : Nat) (spd : Nat) (unN : Nat) (unH : Nat) (ptn : Nat) (p0 : Int32) : va_W := [(nw, .inr (3, [.int 2, .int 0, .ref keys, .ref moms, .ref lens, .ref prts, .ref luds, .ref hnds, .ref lats, .ref knds, .ref rch, .ref spd, .int 0, .int 0, .int 0, .ref unN, .ref unH, .ref ptn]))]
set_option maxHeartbeats 4000000 in
set_option maxRecDepth 100000 in
theorem c_isCovered (l : Launch) (D : va_G) (cI cZ cP : ClassId) (sa : Nat → Nat) (nw : Nat) (keys : Nat) (moms : Nat) (lens : Nat) (prts : Nat) (luds : Nat) (hnds : Nat) (lats : Nat) (knds : Nat) (rch : Nat) (spd : Nat) (unN : Nat) (unH : Nat) (ptn : Nat) (p0 : Int32) (sz : Nat) : Met l yX3_isCovered (qW yX3_isCovered cX3_isCovered 5 (some .boolean)) ({ frames := 0, cells := 0, slots := 0, locals := 0 } : Room) (qP D (TY cI cZ cP) sa [.ref nw, .int p0] (w_isCovered cI cZ cP nw keys moms lens prts luds hnds lats knds rch spd unN unH ptn p0) sz) (qQi D (w_isCovered cI cZ cP nw keys moms lens prts luds hnds lats knds rch spd unN unH ptn p0) sz (fun (r : Int32) (_ : Unit) => r = 0) (fun _ => [(nw, .inr (3, [.int 2, .int 0, .ref keys, .ref moms, .ref lens, .ref prts, .ref luds, .ref hnds, .ref lats, .ref knds, .ref rch, .ref spd, .int 0, .int 0, .int 0, .ref unN, .ref unH, .ref ptn]))])) 0 0 (va_A (w_isCovered cI cZ cP nw keys moms lens prts luds hnds lats knds rch spd unN unH ptn p0) sz) := by
  refine q_enter (by decide) (Nat.le_of_ble_eq_true rfl) ?_
  intro p e s m below meth c ls hX hr hlk hnm hE hK hP hD hS hA hl
  obtain ⟨hx, hb, hml, hown, ht⟩ := id hX
  have hl : lv_has ls 5 [(0, .ref nw), (1, .int p0)] := hl
  refine lv_iconst (v := 0) hx hb dX3_isCovered_0 (by decide) ?_
  refine lv_istore_n (lv' := [(2, .int 0), (0, .ref nw), (1, .int p0)]) hx hb dX3_isCovered_1 rfl hl (by decide) rfl (fun ls hl => ?_)
  refine lv_iconst (v := 0) hx hb dX3_isCovered_2 (by decide) ?_
  refine lv_istore_n (lv' := [(3, .int 0), (2, .int 0), (0, .ref nw), (1, .int p0)]) hx hb dX3_isCovered_3 rfl hl (by decide) rfl (fun ls hl => ?_)
  refine lv_iconst (v := 0) hx hb dX3_isCovered_4 (by decide) ?_
  refine lv_istore (lv' := [(4, .int 0), (3, .int 0), (2, .int 0), (0, .ref nw), (1, .int p0)]) hx hb dX3_isCovered_5 hl (by decide) rfl (fun ls hl => ?_)
  refine lv_iload hx hb dX3_isCovered_7 (lv_at hl 0 rfl) ?_
  refine lv_aload_n hx hb dX3_isCovered_9 rfl (lv_at hl 3 rfl) ?_
  refine va_get (D := D) (ci := 3) (v := .int 0) (C := RX3) (T := TX3) (N := 18) hx hb ht inX3 hown hK hP 0 rfl rfl 1 (Nat.le_of_ble_eq_true rfl) (ht _ kw_122) (fun _ h9 => h9) rfl dX3_isCovered_10 ?_
  refine lv_icmp_ge (tgt := 81) hx hb dX3_isCovered_13 (by decide) (fun _ => ?_) (fun c_1 => absurd (by decide) c_1)
  refine lv_iload_n hx hb dX3_isCovered_81 rfl (lv_at hl 2 rfl) ?_
  refine lv_if_eq (tgt := 93) hx hb dX3_isCovered_82 (by decide) (fun _ => ?_) (fun c_2 => absurd (by decide) c_2)
  refine lv_iconst (v := 0) hx hb dX3_isCovered_93 (by decide) ?_
  exact q_zret hX hr hlk (by decide) () rfl (hP.sub [0] rfl) (hD.sub [0] (by decide) rfl) hS dX3_isCovered_94
abbrev w_isExplainedBy (cI cZ cP : ClassId) (nw : Nat) (keys : Nat) (moms : Nat) (lens : Nat) (prts : Nat) (luds : Nat) (hnds : Nat) (lats : Nat) (knds : Nat) (rch : Nat) (spd : Nat) (unN : Nat) (unH : Nat) (ptn : Nat) (p0 : Int32) : va_W := [(nw, .inr (3, [.int 2, .int 0, .ref keys, .ref moms, .ref lens, .ref prts, .ref luds, .ref hnds, .ref lats, .ref knds, .ref rch, .ref spd, .int 0, .int 0, .int 0, .ref unN, .ref unH, .ref ptn]))]
set_option maxHeartbeats 4000000 in
set_option maxRecDepth 100000 in
theorem c_isExplainedBy (l : Launch) (D : va_G) (cI cZ cP : ClassId) (sa : Nat → Nat) (nw : Nat) (keys : Nat) (moms : Nat) (lens : Nat) (prts : Nat) (luds : Nat) (hnds : Nat) (lats : Nat) (knds : Nat) (rch : Nat) (spd : Nat) (unN : Nat) (unH : Nat) (ptn : Nat) (p0 : Int32) (sz : Nat) : Met l yX3_isExplainedBy (qW yX3_isExplainedBy cX3_isExplainedBy 6 (some .boolean)) ({ frames := 0, cells := 0, slots := 0, locals := 0 } : Room) (qP D (TY cI cZ cP) sa [.ref nw, .int p0] (w_isExplainedBy cI cZ cP nw keys moms lens prts luds hnds lats knds rch spd unN unH ptn p0) sz) (qQi D (w_isExplainedBy cI cZ cP nw keys moms lens prts luds hnds lats knds rch spd unN unH ptn p0) sz (fun (r : Int32) (_ : Unit) => r = 1) (fun _ => [(nw, .inr (3, [.int 2, .int 0, .ref keys, .ref moms, .ref lens, .ref prts, .ref luds, .ref hnds, .ref lats, .ref knds, .ref rch, .ref spd, .int 0, .int 0, .int 0, .ref unN, .ref unH, .ref ptn]))])) 0 0 (va_A (w_isExplainedBy cI cZ cP nw keys moms lens prts luds hnds lats knds rch spd unN unH ptn p0) sz) := by
  refine q_enter (by decide) (Nat.le_of_ble_eq_true rfl) ?_
  intro p e s m below meth c ls hX hr hlk hnm hE hK hP hD hS hA hl
  obtain ⟨hx, hb, hml, hown, ht⟩ := id hX
  have hl : lv_has ls 6 [(0, .ref nw), (1, .int p0)] := hl
  refine lv_iconst (v := 0) hx hb dX3_isExplainedBy_0 (by decide) ?_
  refine lv_istore_n (lv' := [(2, .int 0), (0, .ref nw), (1, .int p0)]) hx hb dX3_isExplainedBy_1 rfl hl (by decide) rfl (fun ls hl => ?_)
  refine lv_iconst (v := (-1)) hx hb dX3_isExplainedBy_2 (by decide) ?_
  refine lv_istore_n (lv' := [(3, .int (-1)), (2, .int 0), (0, .ref nw), (1, .int p0)]) hx hb dX3_isExplainedBy_3 rfl hl (by decide) rfl (fun ls hl => ?_)
  refine lv_bipush (v := 64) hx hb dX3_isExplainedBy_4 (by decide) ?_
  refine lv_istore (lv' := [(4, .int 64), (3, .int (-1)), (2, .int 0), (0, .ref nw), (1, .int p0)]) hx hb dX3_isExplainedBy_6 hl (by decide) rfl (fun ls hl => ?_)
  refine lv_iconst (v := 0) hx hb dX3_isExplainedBy_8 (by decide) ?_
  refine lv_istore (lv' := [(5, .int 0), (4, .int 64), (3, .int (-1)), (2, .int 0), (0, .ref nw), (1, .int p0)]) hx hb dX3_isExplainedBy_9 hl (by decide) rfl (fun ls hl => ?_)
  refine lv_iload hx hb dX3_isExplainedBy_11 (lv_at hl 0 rfl) ?_
  refine lv_aload_n hx hb dX3_isExplainedBy_13 rfl (lv_at hl 4 rfl) ?_
  refine va_get (D := D) (ci := 3) (v := .int 0) (C := RX3) (T := TX3) (N := 18) hx hb ht inX3 hown hK hP 0 rfl rfl 1 (Nat.le_of_ble_eq_true rfl) (ht _ kw_122) (fun _ h9 => h9) rfl dX3_isExplainedBy_14 ?_
  refine lv_icmp_ge (tgt := 126) hx hb dX3_isExplainedBy_17 (by decide) (fun _ => ?_) (fun c_1 => absurd (by decide) c_1)
  refine lv_iload_n hx hb dX3_isExplainedBy_126 rfl (lv_at hl 3 rfl) ?_
  refine lv_if_eq (tgt := 136) hx hb dX3_isExplainedBy_127 (by decide) (fun _ => ?_) (fun c_2 => absurd (by decide) c_2)
  refine lv_iconst (v := 1) hx hb dX3_isExplainedBy_136 (by decide) ?_
  refine lv_goto (tgt := 141) hx hb dX3_isExplainedBy_137 (by decide) ?_
  exact q_zret hX hr hlk (by decide) () rfl (hP.sub [0] rfl) (hD.sub [0] (by decide) rfl) hS dX3_isExplainedBy_141
abbrev w_late (cI cZ cP : ClassId) (x0 : Nat) (nw : Nat) (sp : Nat) (im : Nat) (sc : Nat) (hg : Nat) (fg : Nat) (pg : Nat) (pr : Nat) (keys : Nat) (moms : Nat) (lens : Nat) (prts : Nat) (luds : Nat) (hnds : Nat) (lats : Nat) (knds : Nat) (rch : Nat) (spd : Nat) (unN : Nat) (unH : Nat) (ptn : Nat) : va_W := [(x0, .inr (6, [.ref nw, .ref sp, .ref im, .ref sc, .ref hg, .ref fg, .ref pg, .ref pr, .int 0, .long 0, .long 1, .int 0, .int 0, .int 0])), (nw, .inr (3, [.int 2, .int 0, .ref keys, .ref moms, .ref lens, .ref prts, .ref luds, .ref hnds, .ref lats, .ref knds, .ref rch, .ref spd, .int 0, .int 0, .int 0, .ref unN, .ref unH, .ref ptn]))]
set_option maxHeartbeats 4000000 in
set_option maxRecDepth 100000 in
theorem c_late (l : Launch) (D : va_G) (cI cZ cP : ClassId) (sa : Nat → Nat) (x0 : Nat) (nw : Nat) (sp : Nat) (im : Nat) (sc : Nat) (hg : Nat) (fg : Nat) (pg : Nat) (pr : Nat) (keys : Nat) (moms : Nat) (lens : Nat) (prts : Nat) (luds : Nat) (hnds : Nat) (lats : Nat) (knds : Nat) (rch : Nat) (spd : Nat) (unN : Nat) (unH : Nat) (ptn : Nat) (sz : Nat) : Met l yX6_late (qW yX6_late cX6_late 3 (some .int)) ({ frames := 1, cells := 0, slots := 0, locals := 25 } : Room) (qP D (TY cI cZ cP) sa [.ref x0] (w_late cI cZ cP x0 nw sp im sc hg fg pg pr keys moms lens prts luds hnds lats knds rch spd unN unH ptn) sz) (qQi D (w_late cI cZ cP x0 nw sp im sc hg fg pg pr keys moms lens prts luds hnds lats knds rch spd unN unH ptn) sz (fun (r : Int32) (_ : Unit) => r = 15) (fun _ => [])) 0 0 (va_A (w_late cI cZ cP x0 nw sp im sc hg fg pg pr keys moms lens prts luds hnds lats knds rch spd unN unH ptn) sz) := by
  refine q_enter (by decide) (Nat.le_of_ble_eq_true rfl) ?_
  intro p e s m below meth c ls hX hr hlk hnm hE hK hP hD hS hA hl
  obtain ⟨hx, hb, hml, hown, ht⟩ := id hX
  have hl : lv_has ls 3 [(0, .ref x0)] := hl
  refine lv_iconst (v := 0) hx hb dX6_late_0 (by decide) ?_
  refine lv_istore_n (lv' := [(1, .int 0), (0, .ref x0)]) hx hb dX6_late_1 rfl hl (by decide) rfl (fun ls hl => ?_)
  refine lv_iconst (v := 0) hx hb dX6_late_2 (by decide) ?_
  refine lv_istore_n (lv' := [(2, .int 0), (1, .int 0), (0, .ref x0)]) hx hb dX6_late_3 rfl hl (by decide) rfl (fun ls hl => ?_)
  refine lv_iload_n hx hb dX6_late_4 rfl (lv_at hl 0 rfl) ?_
  refine lv_iconst (v := 4) hx hb dX6_late_5 (by decide) ?_
  refine lv_icmp_ge (tgt := 32) hx hb dX6_late_6 (by decide) (fun c_1 => absurd c_1 (by decide)) (fun _ => ?_)
  refine lv_aload_n hx hb dX6_late_9 rfl (lv_at hl 2 rfl) ?_
  refine va_get (D := D) (ci := 6) (v := .ref nw) (C := RX6) (T := TX6) (N := 14) hx hb ht inX6 hown hK hP 0 rfl rfl 0 (Nat.le_of_ble_eq_true rfl) (ht _ kw_337) (fun _ h9 => h9) rfl dX6_late_10 ?_
  refine lv_iload_n hx hb dX6_late_13 rfl (lv_at hl 0 rfl) ?_
  refine q_Vi (wr := [(x0, .inr (6, [.ref nw, .ref sp, .ref im, .ref sc, .ref hg, .ref fg, .ref pg, .ref pr, .int 0, .long 0, .long 1, .int 0, .int 0, .int 0]))]) [1] [0] hX hE hK hP hD hS hA hl.1 lk_X6_249 (c_isExplainedBy l D cI cZ cP sa nw keys moms lens prts luds hnds lats knds rch spd unN unH ptn 0 _) rfl rfl rfl rfl (by decide) 0 3 rfl rfl rfl rfl (Nat.le_of_ble_eq_true rfl) rfl rfl ⟨Nat.le_of_ble_eq_true rfl, Nat.le_of_ble_eq_true rfl⟩ ⟨Nat.le_of_ble_eq_true rfl, Nat.le_of_ble_eq_true rfl⟩ dX6_late_14 (fun x_2 _ H locs h_2 hP hD hS => ?_)
  have hP : va_P D vwCl [(x0, .inr (6, [.ref nw, .ref sp, .ref im, .ref sc, .ref hg, .ref fg, .ref pg, .ref pr, .int 0, .long 0, .long 1, .int 0, .int 0, .int 0])), (nw, .inr (3, [.int 2, .int 0, .ref keys, .ref moms, .ref lens, .ref prts, .ref luds, .ref hnds, .ref lats, .ref knds, .ref rch, .ref spd, .int 0, .int 0, .int 0, .ref unN, .ref unH, .ref ptn]))] H := hP
  have hD : va_D (va_A (w_late cI cZ cP x0 nw sp im sc hg fg pg pr keys moms lens prts luds hnds lats knds rch spd unN unH ptn) sz) [(x0, .inr (6, [.ref nw, .ref sp, .ref im, .ref sc, .ref hg, .ref fg, .ref pg, .ref pr, .int 0, .long 0, .long 1, .int 0, .int 0, .int 0])), (nw, .inr (3, [.int 2, .int 0, .ref keys, .ref moms, .ref lens, .ref prts, .ref luds, .ref hnds, .ref lats, .ref knds, .ref rch, .ref spd, .int 0, .int 0, .int 0, .ref unN, .ref unH, .ref ptn]))] := hD
  subst h_2
  refine lv_if_eq (tgt := 26) hx hb dX6_late_17 (by decide) (fun c_3 => absurd c_3 (by decide)) (fun _ => ?_)
  refine lv_iload_n hx hb dX6_late_20 rfl (lv_at hl 1 rfl) ?_
  refine lv_iconst (v := 1) hx hb dX6_late_21 (by decide) ?_
  refine lv_iload_n hx hb dX6_late_22 rfl (lv_at hl 0 rfl) ?_
  refine lv_ishl hx hb dX6_late_23 ?_
  refine q_i (z := 1) (by decide) ?_
  refine lv_ior hx hb dX6_late_24 ?_
  refine q_i (z := 1) (by decide) ?_
  refine lv_istore_n (lv' := [(1, .int 1), (2, .int 0), (0, .ref x0)]) hx hb dX6_late_25 rfl hl (by decide) rfl (fun ls hl => ?_)
  refine lv_iinc (v := 1) (lv' := [(2, .int 1), (1, .int 1), (0, .ref x0)]) hx hb dX6_late_26 hl (k := 1) rfl (by decide) (by decide) rfl (fun ls hl => ?_)
  refine lv_goto (tgt := 4) hx hb dX6_late_29 (by decide) ?_
  refine lv_iload_n hx hb dX6_late_4 rfl (lv_at hl 0 rfl) ?_
  refine lv_iconst (v := 4) hx hb dX6_late_5 (by decide) ?_
  refine lv_icmp_ge (tgt := 32) hx hb dX6_late_6 (by decide) (fun c_4 => absurd c_4 (by decide)) (fun _ => ?_)
  refine lv_aload_n hx hb dX6_late_9 rfl (lv_at hl 2 rfl) ?_
  refine va_get (D := D) (ci := 6) (v := .ref nw) (C := RX6) (T := TX6) (N := 14) hx hb ht inX6 hown hK hP 0 rfl rfl 0 (Nat.le_of_ble_eq_true rfl) (ht _ kw_337) (fun _ h9 => h9) rfl dX6_late_10 ?_
  refine lv_iload_n hx hb dX6_late_13 rfl (lv_at hl 0 rfl) ?_
  refine q_Vi (wr := [(x0, .inr (6, [.ref nw, .ref sp, .ref im, .ref sc, .ref hg, .ref fg, .ref pg, .ref pr, .int 0, .long 0, .long 1, .int 0, .int 0, .int 0]))]) [1] [0] hX hE hK hP hD hS hA hl.1 lk_X6_249 (c_isExplainedBy l D cI cZ cP sa nw keys moms lens prts luds hnds lats knds rch spd unN unH ptn 1 _) rfl rfl rfl rfl (by decide) 0 3 rfl rfl rfl rfl (Nat.le_of_ble_eq_true rfl) rfl rfl ⟨Nat.le_of_ble_eq_true rfl, Nat.le_of_ble_eq_true rfl⟩ ⟨Nat.le_of_ble_eq_true rfl, Nat.le_of_ble_eq_true rfl⟩ dX6_late_14 (fun x_5 _ H locs h_5 hP hD hS => ?_)
  have hP : va_P D vwCl [(x0, .inr (6, [.ref nw, .ref sp, .ref im, .ref sc, .ref hg, .ref fg, .ref pg, .ref pr, .int 0, .long 0, .long 1, .int 0, .int 0, .int 0])), (nw, .inr (3, [.int 2, .int 0, .ref keys, .ref moms, .ref lens, .ref prts, .ref luds, .ref hnds, .ref lats, .ref knds, .ref rch, .ref spd, .int 0, .int 0, .int 0, .ref unN, .ref unH, .ref ptn]))] H := hP
  have hD : va_D (va_A (w_late cI cZ cP x0 nw sp im sc hg fg pg pr keys moms lens prts luds hnds lats knds rch spd unN unH ptn) sz) [(x0, .inr (6, [.ref nw, .ref sp, .ref im, .ref sc, .ref hg, .ref fg, .ref pg, .ref pr, .int 0, .long 0, .long 1, .int 0, .int 0, .int 0])), (nw, .inr (3, [.int 2, .int 0, .ref keys, .ref moms, .ref lens, .ref prts, .ref luds, .ref hnds, .ref lats, .ref knds, .ref rch, .ref spd, .int 0, .int 0, .int 0, .ref unN, .ref unH, .ref ptn]))] := hD
  subst h_5
  refine lv_if_eq (tgt := 26) hx hb dX6_late_17 (by decide) (fun c_6 => absurd c_6 (by decide)) (fun _ => ?_)
  refine lv_iload_n hx hb dX6_late_20 rfl (lv_at hl 1 rfl) ?_
  refine lv_iconst (v := 1) hx hb dX6_late_21 (by decide) ?_
  refine lv_iload_n hx hb dX6_late_22 rfl (lv_at hl 0 rfl) ?_
  refine lv_ishl hx hb dX6_late_23 ?_
  refine q_i (z := 2) (by decide) ?_
  refine lv_ior hx hb dX6_late_24 ?_
  refine q_i (z := 3) (by decide) ?_
  refine lv_istore_n (lv' := [(1, .int 3), (2, .int 1), (0, .ref x0)]) hx hb dX6_late_25 rfl hl (by decide) rfl (fun ls hl => ?_)
  refine lv_iinc (v := 2) (lv' := [(2, .int 2), (1, .int 3), (0, .ref x0)]) hx hb dX6_late_26 hl (k := 1) rfl (by decide) (by decide) rfl (fun ls hl => ?_)
  refine lv_goto (tgt := 4) hx hb dX6_late_29 (by decide) ?_
  refine lv_iload_n hx hb dX6_late_4 rfl (lv_at hl 0 rfl) ?_
  refine lv_iconst (v := 4) hx hb dX6_late_5 (by decide) ?_
  refine lv_icmp_ge (tgt := 32) hx hb dX6_late_6 (by decide) (fun c_7 => absurd c_7 (by decide)) (fun _ => ?_)
  refine lv_aload_n hx hb dX6_late_9 rfl (lv_at hl 2 rfl) ?_
  refine va_get (D := D) (ci := 6) (v := .ref nw) (C := RX6) (T := TX6) (N := 14) hx hb ht inX6 hown hK hP 0 rfl rfl 0 (Nat.le_of_ble_eq_true rfl) (ht _ kw_337) (fun _ h9 => h9) rfl dX6_late_10 ?_
  refine lv_iload_n hx hb dX6_late_13 rfl (lv_at hl 0 rfl) ?_
  refine q_Vi (wr := [(x0, .inr (6, [.ref nw, .ref sp, .ref im, .ref sc, .ref hg, .ref fg, .ref pg, .ref pr, .int 0, .long 0, .long 1, .int 0, .int 0, .int 0]))]) [1] [0] hX hE hK hP hD hS hA hl.1 lk_X6_249 (c_isExplainedBy l D cI cZ cP sa nw keys moms lens prts luds hnds lats knds rch spd unN unH ptn 2 _) rfl rfl rfl rfl (by decide) 0 3 rfl rfl rfl rfl (Nat.le_of_ble_eq_true rfl) rfl rfl ⟨Nat.le_of_ble_eq_true rfl, Nat.le_of_ble_eq_true rfl⟩ ⟨Nat.le_of_ble_eq_true rfl, Nat.le_of_ble_eq_true rfl⟩ dX6_late_14 (fun x_8 _ H locs h_8 hP hD hS => ?_)
  have hP : va_P D vwCl [(x0, .inr (6, [.ref nw, .ref sp, .ref im, .ref sc, .ref hg, .ref fg, .ref pg, .ref pr, .int 0, .long 0, .long 1, .int 0, .int 0, .int 0])), (nw, .inr (3, [.int 2, .int 0, .ref keys, .ref moms, .ref lens, .ref prts, .ref luds, .ref hnds, .ref lats, .ref knds, .ref rch, .ref spd, .int 0, .int 0, .int 0, .ref unN, .ref unH, .ref ptn]))] H := hP
  have hD : va_D (va_A (w_late cI cZ cP x0 nw sp im sc hg fg pg pr keys moms lens prts luds hnds lats knds rch spd unN unH ptn) sz) [(x0, .inr (6, [.ref nw, .ref sp, .ref im, .ref sc, .ref hg, .ref fg, .ref pg, .ref pr, .int 0, .long 0, .long 1, .int 0, .int 0, .int 0])), (nw, .inr (3, [.int 2, .int 0, .ref keys, .ref moms, .ref lens, .ref prts, .ref luds, .ref hnds, .ref lats, .ref knds, .ref rch, .ref spd, .int 0, .int 0, .int 0, .ref unN, .ref unH, .ref ptn]))] := hD
  subst h_8
  refine lv_if_eq (tgt := 26) hx hb dX6_late_17 (by decide) (fun c_9 => absurd c_9 (by decide)) (fun _ => ?_)
  refine lv_iload_n hx hb dX6_late_20 rfl (lv_at hl 1 rfl) ?_
  refine lv_iconst (v := 1) hx hb dX6_late_21 (by decide) ?_
  refine lv_iload_n hx hb dX6_late_22 rfl (lv_at hl 0 rfl) ?_
  refine lv_ishl hx hb dX6_late_23 ?_
  refine q_i (z := 4) (by decide) ?_
  refine lv_ior hx hb dX6_late_24 ?_
  refine q_i (z := 7) (by decide) ?_
  refine lv_istore_n (lv' := [(1, .int 7), (2, .int 2), (0, .ref x0)]) hx hb dX6_late_25 rfl hl (by decide) rfl (fun ls hl => ?_)
  refine lv_iinc (v := 3) (lv' := [(2, .int 3), (1, .int 7), (0, .ref x0)]) hx hb dX6_late_26 hl (k := 1) rfl (by decide) (by decide) rfl (fun ls hl => ?_)
  refine lv_goto (tgt := 4) hx hb dX6_late_29 (by decide) ?_
  refine lv_iload_n hx hb dX6_late_4 rfl (lv_at hl 0 rfl) ?_
  refine lv_iconst (v := 4) hx hb dX6_late_5 (by decide) ?_
  refine lv_icmp_ge (tgt := 32) hx hb dX6_late_6 (by decide) (fun c_10 => absurd c_10 (by decide)) (fun _ => ?_)
  refine lv_aload_n hx hb dX6_late_9 rfl (lv_at hl 2 rfl) ?_
  refine va_get (D := D) (ci := 6) (v := .ref nw) (C := RX6) (T := TX6) (N := 14) hx hb ht inX6 hown hK hP 0 rfl rfl 0 (Nat.le_of_ble_eq_true rfl) (ht _ kw_337) (fun _ h9 => h9) rfl dX6_late_10 ?_
  refine lv_iload_n hx hb dX6_late_13 rfl (lv_at hl 0 rfl) ?_
  refine q_Vi (wr := [(x0, .inr (6, [.ref nw, .ref sp, .ref im, .ref sc, .ref hg, .ref fg, .ref pg, .ref pr, .int 0, .long 0, .long 1, .int 0, .int 0, .int 0]))]) [1] [0] hX hE hK hP hD hS hA hl.1 lk_X6_249 (c_isExplainedBy l D cI cZ cP sa nw keys moms lens prts luds hnds lats knds rch spd unN unH ptn 3 _) rfl rfl rfl rfl (by decide) 0 3 rfl rfl rfl rfl (Nat.le_of_ble_eq_true rfl) rfl rfl ⟨Nat.le_of_ble_eq_true rfl, Nat.le_of_ble_eq_true rfl⟩ ⟨Nat.le_of_ble_eq_true rfl, Nat.le_of_ble_eq_true rfl⟩ dX6_late_14 (fun x_11 _ H locs h_11 hP hD hS => ?_)
  have hP : va_P D vwCl [(x0, .inr (6, [.ref nw, .ref sp, .ref im, .ref sc, .ref hg, .ref fg, .ref pg, .ref pr, .int 0, .long 0, .long 1, .int 0, .int 0, .int 0])), (nw, .inr (3, [.int 2, .int 0, .ref keys, .ref moms, .ref lens, .ref prts, .ref luds, .ref hnds, .ref lats, .ref knds, .ref rch, .ref spd, .int 0, .int 0, .int 0, .ref unN, .ref unH, .ref ptn]))] H := hP
  have hD : va_D (va_A (w_late cI cZ cP x0 nw sp im sc hg fg pg pr keys moms lens prts luds hnds lats knds rch spd unN unH ptn) sz) [(x0, .inr (6, [.ref nw, .ref sp, .ref im, .ref sc, .ref hg, .ref fg, .ref pg, .ref pr, .int 0, .long 0, .long 1, .int 0, .int 0, .int 0])), (nw, .inr (3, [.int 2, .int 0, .ref keys, .ref moms, .ref lens, .ref prts, .ref luds, .ref hnds, .ref lats, .ref knds, .ref rch, .ref spd, .int 0, .int 0, .int 0, .ref unN, .ref unH, .ref ptn]))] := hD
  subst h_11
  refine lv_if_eq (tgt := 26) hx hb dX6_late_17 (by decide) (fun c_12 => absurd c_12 (by decide)) (fun _ => ?_)
  refine lv_iload_n hx hb dX6_late_20 rfl (lv_at hl 1 rfl) ?_
  refine lv_iconst (v := 1) hx hb dX6_late_21 (by decide) ?_
  refine lv_iload_n hx hb dX6_late_22 rfl (lv_at hl 0 rfl) ?_
  refine lv_ishl hx hb dX6_late_23 ?_
  refine q_i (z := 8) (by decide) ?_
  refine lv_ior hx hb dX6_late_24 ?_
  refine q_i (z := 15) (by decide) ?_
  refine lv_istore_n (lv' := [(1, .int 15), (2, .int 3), (0, .ref x0)]) hx hb dX6_late_25 rfl hl (by decide) rfl (fun ls hl => ?_)
  refine lv_iinc (v := 4) (lv' := [(2, .int 4), (1, .int 15), (0, .ref x0)]) hx hb dX6_late_26 hl (k := 1) rfl (by decide) (by decide) rfl (fun ls hl => ?_)
  refine lv_goto (tgt := 4) hx hb dX6_late_29 (by decide) ?_
  refine lv_iload_n hx hb dX6_late_4 rfl (lv_at hl 0 rfl) ?_
  refine lv_iconst (v := 4) hx hb dX6_late_5 (by decide) ?_
  refine lv_icmp_ge (tgt := 32) hx hb dX6_late_6 (by decide) (fun _ => ?_) (fun c_13 => absurd (by decide) c_13)
  refine lv_iload_n hx hb dX6_late_32 rfl (lv_at hl 1 rfl) ?_
  exact q_iret hX hr hlk () rfl (hP.sub [] rfl) (hD.sub [] (by decide) rfl) hS dX6_late_33
abbrev w_covered (cI cZ cP : ClassId) (x0 : Nat) (nw : Nat) (sp : Nat) (im : Nat) (sc : Nat) (hg : Nat) (fg : Nat) (pg : Nat) (pr : Nat) (keys : Nat) (moms : Nat) (lens : Nat) (prts : Nat) (luds : Nat) (hnds : Nat) (lats : Nat) (knds : Nat) (rch : Nat) (spd : Nat) (unN : Nat) (unH : Nat) (ptn : Nat) : va_W := [(x0, .inr (6, [.ref nw, .ref sp, .ref im, .ref sc, .ref hg, .ref fg, .ref pg, .ref pr, .int 0, .long 0, .long 1, .int 0, .int 0, .int 0])), (nw, .inr (3, [.int 2, .int 0, .ref keys, .ref moms, .ref lens, .ref prts, .ref luds, .ref hnds, .ref lats, .ref knds, .ref rch, .ref spd, .int 0, .int 0, .int 0, .ref unN, .ref unH, .ref ptn]))]
set_option maxHeartbeats 4000000 in
set_option maxRecDepth 100000 in
theorem c_covered (l : Launch) (D : va_G) (cI cZ cP : ClassId) (sa : Nat → Nat) (x0 : Nat) (nw : Nat) (sp : Nat) (im : Nat) (sc : Nat) (hg : Nat) (fg : Nat) (pg : Nat) (pr : Nat) (keys : Nat) (moms : Nat) (lens : Nat) (prts : Nat) (luds : Nat) (hnds : Nat) (lats : Nat) (knds : Nat) (rch : Nat) (spd : Nat) (unN : Nat) (unH : Nat) (ptn : Nat) (sz : Nat) : Met l yX6_covered (qW yX6_covered cX6_covered 4 (some .long)) ({ frames := 1, cells := 0, slots := 0, locals := 24 } : Room) (qP D (TY cI cZ cP) sa [.ref x0] (w_covered cI cZ cP x0 nw sp im sc hg fg pg pr keys moms lens prts luds hnds lats knds rch spd unN unH ptn) sz) (qQl D (w_covered cI cZ cP x0 nw sp im sc hg fg pg pr keys moms lens prts luds hnds lats knds rch spd unN unH ptn) sz (fun (r : Int64) (_ : Unit) => r = ((0 : Int32).toInt64)) (fun _ => [])) 0 0 (va_A (w_covered cI cZ cP x0 nw sp im sc hg fg pg pr keys moms lens prts luds hnds lats knds rch spd unN unH ptn) sz) := by
  refine q_enter (by decide) (Nat.le_of_ble_eq_true rfl) ?_
  intro p e s m below meth c ls hX hr hlk hnm hE hK hP hD hS hA hl
  obtain ⟨hx, hb, hml, hown, ht⟩ := id hX
  have hl : lv_has ls 4 [(0, .ref x0)] := hl
  refine lv_lconst (v := 0) hx hb dX6_covered_0 (by decide) ?_
  refine q_l (z := ((0 : Int32).toInt64)) (by decide) ?_
  refine lv_lstore_n (lv' := [(1, .long ((0 : Int32).toInt64)), (0, .ref x0)]) hx hb dX6_covered_1 rfl hl (by decide) rfl (fun ls hl => ?_)
  refine lv_iconst (v := 0) hx hb dX6_covered_2 (by decide) ?_
  refine lv_istore_n (lv' := [(3, .int 0), (1, .long ((0 : Int32).toInt64)), (0, .ref x0)]) hx hb dX6_covered_3 rfl hl (by decide) rfl (fun ls hl => ?_)
  refine lv_iload_n hx hb dX6_covered_4 rfl (lv_at hl 0 rfl) ?_
  refine lv_bipush (v := 64) hx hb dX6_covered_5 (by decide) ?_
  refine lv_icmp_ge (tgt := 33) hx hb dX6_covered_7 (by decide) (fun c_1 => absurd c_1 (by decide)) (fun _ => ?_)
  refine lv_aload_n hx hb dX6_covered_10 rfl (lv_at hl 2 rfl) ?_
  refine va_get (D := D) (ci := 6) (v := .ref nw) (C := RX6) (T := TX6) (N := 14) hx hb ht inX6 hown hK hP 0 rfl rfl 0 (Nat.le_of_ble_eq_true rfl) (ht _ kw_337) (fun _ h9 => h9) rfl dX6_covered_11 ?_
  refine lv_iload_n hx hb dX6_covered_14 rfl (lv_at hl 0 rfl) ?_
  refine q_Vi (wr := [(x0, .inr (6, [.ref nw, .ref sp, .ref im, .ref sc, .ref hg, .ref fg, .ref pg, .ref pr, .int 0, .long 0, .long 1, .int 0, .int 0, .int 0]))]) [1] [0] hX hE hK hP hD hS hA hl.1 lk_X6_230 (c_isCovered l D cI cZ cP sa nw keys moms lens prts luds hnds lats knds rch spd unN unH ptn 0 _) rfl rfl rfl rfl (by decide) 0 3 rfl rfl rfl rfl (Nat.le_of_ble_eq_true rfl) rfl rfl ⟨Nat.le_of_ble_eq_true rfl, Nat.le_of_ble_eq_true rfl⟩ ⟨Nat.le_of_ble_eq_true rfl, Nat.le_of_ble_eq_true rfl⟩ dX6_covered_15 (fun x_2 _ H locs h_2 hP hD hS => ?_)
  have hP : va_P D vwCl [(x0, .inr (6, [.ref nw, .ref sp, .ref im, .ref sc, .ref hg, .ref fg, .ref pg, .ref pr, .int 0, .long 0, .long 1, .int 0, .int 0, .int 0])), (nw, .inr (3, [.int 2, .int 0, .ref keys, .ref moms, .ref lens, .ref prts, .ref luds, .ref hnds, .ref lats, .ref knds, .ref rch, .ref spd, .int 0, .int 0, .int 0, .ref unN, .ref unH, .ref ptn]))] H := hP
  have hD : va_D (va_A (w_covered cI cZ cP x0 nw sp im sc hg fg pg pr keys moms lens prts luds hnds lats knds rch spd unN unH ptn) sz) [(x0, .inr (6, [.ref nw, .ref sp, .ref im, .ref sc, .ref hg, .ref fg, .ref pg, .ref pr, .int 0, .long 0, .long 1, .int 0, .int 0, .int 0])), (nw, .inr (3, [.int 2, .int 0, .ref keys, .ref moms, .ref lens, .ref prts, .ref luds, .ref hnds, .ref lats, .ref knds, .ref rch, .ref spd, .int 0, .int 0, .int 0, .ref unN, .ref unH, .ref ptn]))] := hD
  subst h_2
  refine lv_if_eq (tgt := 27) hx hb dX6_covered_18 (by decide) (fun _ => ?_) (fun c_3 => absurd (by decide) c_3)
  refine lv_iinc (v := 1) (lv' := [(3, .int 1), (1, .long ((0 : Int32).toInt64)), (0, .ref x0)]) hx hb dX6_covered_27 hl (k := 0) rfl (by decide) (by decide) rfl (fun ls hl => ?_)
  refine lv_goto (tgt := 4) hx hb dX6_covered_30 (by decide) ?_
  refine lv_iload_n hx hb dX6_covered_4 rfl (lv_at hl 0 rfl) ?_
  refine lv_bipush (v := 64) hx hb dX6_covered_5 (by decide) ?_
  refine lv_icmp_ge (tgt := 33) hx hb dX6_covered_7 (by decide) (fun c_4 => absurd c_4 (by decide)) (fun _ => ?_)
  refine lv_aload_n hx hb dX6_covered_10 rfl (lv_at hl 2 rfl) ?_
  refine va_get (D := D) (ci := 6) (v := .ref nw) (C := RX6) (T := TX6) (N := 14) hx hb ht inX6 hown hK hP 0 rfl rfl 0 (Nat.le_of_ble_eq_true rfl) (ht _ kw_337) (fun _ h9 => h9) rfl dX6_covered_11 ?_
  refine lv_iload_n hx hb dX6_covered_14 rfl (lv_at hl 0 rfl) ?_
  refine q_Vi (wr := [(x0, .inr (6, [.ref nw, .ref sp, .ref im, .ref sc, .ref hg, .ref fg, .ref pg, .ref pr, .int 0, .long 0, .long 1, .int 0, .int 0, .int 0]))]) [1] [0] hX hE hK hP hD hS hA hl.1 lk_X6_230 (c_isCovered l D cI cZ cP sa nw keys moms lens prts luds hnds lats knds rch spd unN unH ptn 1 _) rfl rfl rfl rfl (by decide) 0 3 rfl rfl rfl rfl (Nat.le_of_ble_eq_true rfl) rfl rfl ⟨Nat.le_of_ble_eq_true rfl, Nat.le_of_ble_eq_true rfl⟩ ⟨Nat.le_of_ble_eq_true rfl, Nat.le_of_ble_eq_true rfl⟩ dX6_covered_15 (fun x_5 _ H locs h_5 hP hD hS => ?_)
  have hP : va_P D vwCl [(x0, .inr (6, [.ref nw, .ref sp, .ref im, .ref sc, .ref hg, .ref fg, .ref pg, .ref pr, .int 0, .long 0, .long 1, .int 0, .int 0, .int 0])), (nw, .inr (3, [.int 2, .int 0, .ref keys, .ref moms, .ref lens, .ref prts, .ref luds, .ref hnds, .ref lats, .ref knds, .ref rch, .ref spd, .int 0, .int 0, .int 0, .ref unN, .ref unH, .ref ptn]))] H := hP
  have hD : va_D (va_A (w_covered cI cZ cP x0 nw sp im sc hg fg pg pr keys moms lens prts luds hnds lats knds rch spd unN unH ptn) sz) [(x0, .inr (6, [.ref nw, .ref sp, .ref im, .ref sc, .ref hg, .ref fg, .ref pg, .ref pr, .int 0, .long 0, .long 1, .int 0, .int 0, .int 0])), (nw, .inr (3, [.int 2, .int 0, .ref keys, .ref moms, .ref lens, .ref prts, .ref luds, .ref hnds, .ref lats, .ref knds, .ref rch, .ref spd, .int 0, .int 0, .int 0, .ref unN, .ref unH, .ref ptn]))] := hD
  subst h_5
  refine lv_if_eq (tgt := 27) hx hb dX6_covered_18 (by decide) (fun _ => ?_) (fun c_6 => absurd (by decide) c_6)
  refine lv_iinc (v := 2) (lv' := [(3, .int 2), (1, .long ((0 : Int32).toInt64)), (0, .ref x0)]) hx hb dX6_covered_27 hl (k := 0) rfl (by decide) (by decide) rfl (fun ls hl => ?_)
  refine lv_goto (tgt := 4) hx hb dX6_covered_30 (by decide) ?_
  refine lv_iload_n hx hb dX6_covered_4 rfl (lv_at hl 0 rfl) ?_
  refine lv_bipush (v := 64) hx hb dX6_covered_5 (by decide) ?_
  refine lv_icmp_ge (tgt := 33) hx hb dX6_covered_7 (by decide) (fun c_7 => absurd c_7 (by decide)) (fun _ => ?_)
  refine lv_aload_n hx hb dX6_covered_10 rfl (lv_at hl 2 rfl) ?_
  refine va_get (D := D) (ci := 6) (v := .ref nw) (C := RX6) (T := TX6) (N := 14) hx hb ht inX6 hown hK hP 0 rfl rfl 0 (Nat.le_of_ble_eq_true rfl) (ht _ kw_337) (fun _ h9 => h9) rfl dX6_covered_11 ?_
  refine lv_iload_n hx hb dX6_covered_14 rfl (lv_at hl 0 rfl) ?_
  refine q_Vi (wr := [(x0, .inr (6, [.ref nw, .ref sp, .ref im, .ref sc, .ref hg, .ref fg, .ref pg, .ref pr, .int 0, .long 0, .long 1, .int 0, .int 0, .int 0]))]) [1] [0] hX hE hK hP hD hS hA hl.1 lk_X6_230 (c_isCovered l D cI cZ cP sa nw keys moms lens prts luds hnds lats knds rch spd unN unH ptn 2 _) rfl rfl rfl rfl (by decide) 0 3 rfl rfl rfl rfl (Nat.le_of_ble_eq_true rfl) rfl rfl ⟨Nat.le_of_ble_eq_true rfl, Nat.le_of_ble_eq_true rfl⟩ ⟨Nat.le_of_ble_eq_true rfl, Nat.le_of_ble_eq_true rfl⟩ dX6_covered_15 (fun x_8 _ H locs h_8 hP hD hS => ?_)
  have hP : va_P D vwCl [(x0, .inr (6, [.ref nw, .ref sp, .ref im, .ref sc, .ref hg, .ref fg, .ref pg, .ref pr, .int 0, .long 0, .long 1, .int 0, .int 0, .int 0])), (nw, .inr (3, [.int 2, .int 0, .ref keys, .ref moms, .ref lens, .ref prts, .ref luds, .ref hnds, .ref lats, .ref knds, .ref rch, .ref spd, .int 0, .int 0, .int 0, .ref unN, .ref unH, .ref ptn]))] H := hP
  have hD : va_D (va_A (w_covered cI cZ cP x0 nw sp im sc hg fg pg pr keys moms lens prts luds hnds lats knds rch spd unN unH ptn) sz) [(x0, .inr (6, [.ref nw, .ref sp, .ref im, .ref sc, .ref hg, .ref fg, .ref pg, .ref pr, .int 0, .long 0, .long 1, .int 0, .int 0, .int 0])), (nw, .inr (3, [.int 2, .int 0, .ref keys, .ref moms, .ref lens, .ref prts, .ref luds, .ref hnds, .ref lats, .ref knds, .ref rch, .ref spd, .int 0, .int 0, .int 0, .ref unN, .ref unH, .ref ptn]))] := hD
  subst h_8
  refine lv_if_eq (tgt := 27) hx hb dX6_covered_18 (by decide) (fun _ => ?_) (fun c_9 => absurd (by decide) c_9)
  refine lv_iinc (v := 3) (lv' := [(3, .int 3), (1, .long ((0 : Int32).toInt64)), (0, .ref x0)]) hx hb dX6_covered_27 hl (k := 0) rfl (by decide) (by decide) rfl (fun ls hl => ?_)
  refine lv_goto (tgt := 4) hx hb dX6_covered_30 (by decide) ?_
  refine lv_iload_n hx hb dX6_covered_4 rfl (lv_at hl 0 rfl) ?_
  refine lv_bipush (v := 64) hx hb dX6_covered_5 (by decide) ?_
  refine lv_icmp_ge (tgt := 33) hx hb dX6_covered_7 (by decide) (fun c_10 => absurd c_10 (by decide)) (fun _ => ?_)
  refine lv_aload_n hx hb dX6_covered_10 rfl (lv_at hl 2 rfl) ?_
  refine va_get (D := D) (ci := 6) (v := .ref nw) (C := RX6) (T := TX6) (N := 14) hx hb ht inX6 hown hK hP 0 rfl rfl 0 (Nat.le_of_ble_eq_true rfl) (ht _ kw_337) (fun _ h9 => h9) rfl dX6_covered_11 ?_
  refine lv_iload_n hx hb dX6_covered_14 rfl (lv_at hl 0 rfl) ?_
  refine q_Vi (wr := [(x0, .inr (6, [.ref nw, .ref sp, .ref im, .ref sc, .ref hg, .ref fg, .ref pg, .ref pr, .int 0, .long 0, .long 1, .int 0, .int 0, .int 0]))]) [1] [0] hX hE hK hP hD hS hA hl.1 lk_X6_230 (c_isCovered l D cI cZ cP sa nw keys moms lens prts luds hnds lats knds rch spd unN unH ptn 3 _) rfl rfl rfl rfl (by decide) 0 3 rfl rfl rfl rfl (Nat.le_of_ble_eq_true rfl) rfl rfl ⟨Nat.le_of_ble_eq_true rfl, Nat.le_of_ble_eq_true rfl⟩ ⟨Nat.le_of_ble_eq_true rfl, Nat.le_of_ble_eq_true rfl⟩ dX6_covered_15 (fun x_11 _ H locs h_11 hP hD hS => ?_)
  have hP : va_P D vwCl [(x0, .inr (6, [.ref nw, .ref sp, .ref im, .ref sc, .ref hg, .ref fg, .ref pg, .ref pr, .int 0, .long 0, .long 1, .int 0, .int 0, .int 0])), (nw, .inr (3, [.int 2, .int 0, .ref keys, .ref moms, .ref lens, .ref prts, .ref luds, .ref hnds, .ref lats, .ref knds, .ref rch, .ref spd, .int 0, .int 0, .int 0, .ref unN, .ref unH, .ref ptn]))] H := hP
  have hD : va_D (va_A (w_covered cI cZ cP x0 nw sp im sc hg fg pg pr keys moms lens prts luds hnds lats knds rch spd unN unH ptn) sz) [(x0, .inr (6, [.ref nw, .ref sp, .ref im, .ref sc, .ref hg, .ref fg, .ref pg, .ref pr, .int 0, .long 0, .long 1, .int 0, .int 0, .int 0])), (nw, .inr (3, [.int 2, .int 0, .ref keys, .ref moms, .ref lens, .ref prts, .ref luds, .ref hnds, .ref lats, .ref knds, .ref rch, .ref spd, .int 0, .int 0, .int 0, .ref unN, .ref unH, .ref ptn]))] := hD
  subst h_11
  refine lv_if_eq (tgt := 27) hx hb dX6_covered_18 (by decide) (fun _ => ?_) (fun c_12 => absurd (by decide) c_12)
  refine lv_iinc (v := 4) (lv' := [(3, .int 4), (1, .long ((0 : Int32).toInt64)), (0, .ref x0)]) hx hb dX6_covered_27 hl (k := 0) rfl (by decide) (by decide) rfl (fun ls hl => ?_)
  refine lv_goto (tgt := 4) hx hb dX6_covered_30 (by decide) ?_
  refine lv_iload_n hx hb dX6_covered_4 rfl (lv_at hl 0 rfl) ?_
  refine lv_bipush (v := 64) hx hb dX6_covered_5 (by decide) ?_
  refine lv_icmp_ge (tgt := 33) hx hb dX6_covered_7 (by decide) (fun c_13 => absurd c_13 (by decide)) (fun _ => ?_)
  refine lv_aload_n hx hb dX6_covered_10 rfl (lv_at hl 2 rfl) ?_
  refine va_get (D := D) (ci := 6) (v := .ref nw) (C := RX6) (T := TX6) (N := 14) hx hb ht inX6 hown hK hP 0 rfl rfl 0 (Nat.le_of_ble_eq_true rfl) (ht _ kw_337) (fun _ h9 => h9) rfl dX6_covered_11 ?_
  refine lv_iload_n hx hb dX6_covered_14 rfl (lv_at hl 0 rfl) ?_
  refine q_Vi (wr := [(x0, .inr (6, [.ref nw, .ref sp, .ref im, .ref sc, .ref hg, .ref fg, .ref pg, .ref pr, .int 0, .long 0, .long 1, .int 0, .int 0, .int 0]))]) [1] [0] hX hE hK hP hD hS hA hl.1 lk_X6_230 (c_isCovered l D cI cZ cP sa nw keys moms lens prts luds hnds lats knds rch spd unN unH ptn 4 _) rfl rfl rfl rfl (by decide) 0 3 rfl rfl rfl rfl (Nat.le_of_ble_eq_true rfl) rfl rfl ⟨Nat.le_of_ble_eq_true rfl, Nat.le_of_ble_eq_true rfl⟩ ⟨Nat.le_of_ble_eq_true rfl, Nat.le_of_ble_eq_true rfl⟩ dX6_covered_15 (fun x_14 _ H locs h_14 hP hD hS => ?_)
  have hP : va_P D vwCl [(x0, .inr (6, [.ref nw, .ref sp, .ref im, .ref sc, .ref hg, .ref fg, .ref pg, .ref pr, .int 0, .long 0, .long 1, .int 0, .int 0, .int 0])), (nw, .inr (3, [.int 2, .int 0, .ref keys, .ref moms, .ref lens, .ref prts, .ref luds, .ref hnds, .ref lats, .ref knds, .ref rch, .ref spd, .int 0, .int 0, .int 0, .ref unN, .ref unH, .ref ptn]))] H := hP
  have hD : va_D (va_A (w_covered cI cZ cP x0 nw sp im sc hg fg pg pr keys moms lens prts luds hnds lats knds rch spd unN unH ptn) sz) [(x0, .inr (6, [.ref nw, .ref sp, .ref im, .ref sc, .ref hg, .ref fg, .ref pg, .ref pr, .int 0, .long 0, .long 1, .int 0, .int 0, .int 0])), (nw, .inr (3, [.int 2, .int 0, .ref keys, .ref moms, .ref lens, .ref prts, .ref luds, .ref hnds, .ref lats, .ref knds, .ref rch, .ref spd, .int 0, .int 0, .int 0, .ref unN, .ref unH, .ref ptn]))] := hD
  subst h_14
  refine lv_if_eq (tgt := 27) hx hb dX6_covered_18 (by decide) (fun _ => ?_) (fun c_15 => absurd (by decide) c_15)
  refine lv_iinc (v := 5) (lv' := [(3, .int 5), (1, .long ((0 : Int32).toInt64)), (0, .ref x0)]) hx hb dX6_covered_27 hl (k := 0) rfl (by decide) (by decide) rfl (fun ls hl => ?_)
  refine lv_goto (tgt := 4) hx hb dX6_covered_30 (by decide) ?_
  refine lv_iload_n hx hb dX6_covered_4 rfl (lv_at hl 0 rfl) ?_
  refine lv_bipush (v := 64) hx hb dX6_covered_5 (by decide) ?_
  refine lv_icmp_ge (tgt := 33) hx hb dX6_covered_7 (by decide) (fun c_16 => absurd c_16 (by decide)) (fun _ => ?_)
  refine lv_aload_n hx hb dX6_covered_10 rfl (lv_at hl 2 rfl) ?_
  refine va_get (D := D) (ci := 6) (v := .ref nw) (C := RX6) (T := TX6) (N := 14) hx hb ht inX6 hown hK hP 0 rfl rfl 0 (Nat.le_of_ble_eq_true rfl) (ht _ kw_337) (fun _ h9 => h9) rfl dX6_covered_11 ?_
  refine lv_iload_n hx hb dX6_covered_14 rfl (lv_at hl 0 rfl) ?_
  refine q_Vi (wr := [(x0, .inr (6, [.ref nw, .ref sp, .ref im, .ref sc, .ref hg, .ref fg, .ref pg, .ref pr, .int 0, .long 0, .long 1, .int 0, .int 0, .int 0]))]) [1] [0] hX hE hK hP hD hS hA hl.1 lk_X6_230 (c_isCovered l D cI cZ cP sa nw keys moms lens prts luds hnds lats knds rch spd unN unH ptn 5 _) rfl rfl rfl rfl (by decide) 0 3 rfl rfl rfl rfl (Nat.le_of_ble_eq_true rfl) rfl rfl ⟨Nat.le_of_ble_eq_true rfl, Nat.le_of_ble_eq_true rfl⟩ ⟨Nat.le_of_ble_eq_true rfl, Nat.le_of_ble_eq_true rfl⟩ dX6_covered_15 (fun x_17 _ H locs h_17 hP hD hS => ?_)
  have hP : va_P D vwCl [(x0, .inr (6, [.ref nw, .ref sp, .ref im, .ref sc, .ref hg, .ref fg, .ref pg, .ref pr, .int 0, .long 0, .long 1, .int 0, .int 0, .int 0])), (nw, .inr (3, [.int 2, .int 0, .ref keys, .ref moms, .ref lens, .ref prts, .ref luds, .ref hnds, .ref lats, .ref knds, .ref rch, .ref spd, .int 0, .int 0, .int 0, .ref unN, .ref unH, .ref ptn]))] H := hP
  have hD : va_D (va_A (w_covered cI cZ cP x0 nw sp im sc hg fg pg pr keys moms lens prts luds hnds lats knds rch spd unN unH ptn) sz) [(x0, .inr (6, [.ref nw, .ref sp, .ref im, .ref sc, .ref hg, .ref fg, .ref pg, .ref pr, .int 0, .long 0, .long 1, .int 0, .int 0, .int 0])), (nw, .inr (3, [.int 2, .int 0, .ref keys, .ref moms, .ref lens, .ref prts, .ref luds, .ref hnds, .ref lats, .ref knds, .ref rch, .ref spd, .int 0, .int 0, .int 0, .ref unN, .ref unH, .ref ptn]))] := hD
  subst h_17
  refine lv_if_eq (tgt := 27) hx hb dX6_covered_18 (by decide) (fun _ => ?_) (fun c_18 => absurd (by decide) c_18)
  refine lv_iinc (v := 6) (lv' := [(3, .int 6), (1, .long ((0 : Int32).toInt64)), (0, .ref x0)]) hx hb dX6_covered_27 hl (k := 0) rfl (by decide) (by decide) rfl (fun ls hl => ?_)
  refine lv_goto (tgt := 4) hx hb dX6_covered_30 (by decide) ?_
  refine lv_iload_n hx hb dX6_covered_4 rfl (lv_at hl 0 rfl) ?_
  refine lv_bipush (v := 64) hx hb dX6_covered_5 (by decide) ?_
  refine lv_icmp_ge (tgt := 33) hx hb dX6_covered_7 (by decide) (fun c_19 => absurd c_19 (by decide)) (fun _ => ?_)
  refine lv_aload_n hx hb dX6_covered_10 rfl (lv_at hl 2 rfl) ?_
  refine va_get (D := D) (ci := 6) (v := .ref nw) (C := RX6) (T := TX6) (N := 14) hx hb ht inX6 hown hK hP 0 rfl rfl 0 (Nat.le_of_ble_eq_true rfl) (ht _ kw_337) (fun _ h9 => h9) rfl dX6_covered_11 ?_
  refine lv_iload_n hx hb dX6_covered_14 rfl (lv_at hl 0 rfl) ?_
  refine q_Vi (wr := [(x0, .inr (6, [.ref nw, .ref sp, .ref im, .ref sc, .ref hg, .ref fg, .ref pg, .ref pr, .int 0, .long 0, .long 1, .int 0, .int 0, .int 0]))]) [1] [0] hX hE hK hP hD hS hA hl.1 lk_X6_230 (c_isCovered l D cI cZ cP sa nw keys moms lens prts luds hnds lats knds rch spd unN unH ptn 6 _) rfl rfl rfl rfl (by decide) 0 3 rfl rfl rfl rfl (Nat.le_of_ble_eq_true rfl) rfl rfl ⟨Nat.le_of_ble_eq_true rfl, Nat.le_of_ble_eq_true rfl⟩ ⟨Nat.le_of_ble_eq_true rfl, Nat.le_of_ble_eq_true rfl⟩ dX6_covered_15 (fun x_20 _ H locs h_20 hP hD hS => ?_)
  have hP : va_P D vwCl [(x0, .inr (6, [.ref nw, .ref sp, .ref im, .ref sc, .ref hg, .ref fg, .ref pg, .ref pr, .int 0, .long 0, .long 1, .int 0, .int 0, .int 0])), (nw, .inr (3, [.int 2, .int 0, .ref keys, .ref moms, .ref lens, .ref prts, .ref luds, .ref hnds, .ref lats, .ref knds, .ref rch, .ref spd, .int 0, .int 0, .int 0, .ref unN, .ref unH, .ref ptn]))] H := hP
  have hD : va_D (va_A (w_covered cI cZ cP x0 nw sp im sc hg fg pg pr keys moms lens prts luds hnds lats knds rch spd unN unH ptn) sz) [(x0, .inr (6, [.ref nw, .ref sp, .ref im, .ref sc, .ref hg, .ref fg, .ref pg, .ref pr, .int 0, .long 0, .long 1, .int 0, .int 0, .int 0])), (nw, .inr (3, [.int 2, .int 0, .ref keys, .ref moms, .ref lens, .ref prts, .ref luds, .ref hnds, .ref lats, .ref knds, .ref rch, .ref spd, .int 0, .int 0, .int 0, .ref unN, .ref unH, .ref ptn]))] := hD
  subst h_20
  refine lv_if_eq (tgt := 27) hx hb dX6_covered_18 (by decide) (fun _ => ?_) (fun c_21 => absurd (by decide) c_21)
  refine lv_iinc (v := 7) (lv' := [(3, .int 7), (1, .long ((0 : Int32).toInt64)), (0, .ref x0)]) hx hb dX6_covered_27 hl (k := 0) rfl (by decide) (by decide) rfl (fun ls hl => ?_)
  refine lv_goto (tgt := 4) hx hb dX6_covered_30 (by decide) ?_
  refine lv_iload_n hx hb dX6_covered_4 rfl (lv_at hl 0 rfl) ?_
  refine lv_bipush (v := 64) hx hb dX6_covered_5 (by decide) ?_
  refine lv_icmp_ge (tgt := 33) hx hb dX6_covered_7 (by decide) (fun c_22 => absurd c_22 (by decide)) (fun _ => ?_)
  refine lv_aload_n hx hb dX6_covered_10 rfl (lv_at hl 2 rfl) ?_
  refine va_get (D := D) (ci := 6) (v := .ref nw) (C := RX6) (T := TX6) (N := 14) hx hb ht inX6 hown hK hP 0 rfl rfl 0 (Nat.le_of_ble_eq_true rfl) (ht _ kw_337) (fun _ h9 => h9) rfl dX6_covered_11 ?_
  refine lv_iload_n hx hb dX6_covered_14 rfl (lv_at hl 0 rfl) ?_
  refine q_Vi (wr := [(x0, .inr (6, [.ref nw, .ref sp, .ref im, .ref sc, .ref hg, .ref fg, .ref pg, .ref pr, .int 0, .long 0, .long 1, .int 0, .int 0, .int 0]))]) [1] [0] hX hE hK hP hD hS hA hl.1 lk_X6_230 (c_isCovered l D cI cZ cP sa nw keys moms lens prts luds hnds lats knds rch spd unN unH ptn 7 _) rfl rfl rfl rfl (by decide) 0 3 rfl rfl rfl rfl (Nat.le_of_ble_eq_true rfl) rfl rfl ⟨Nat.le_of_ble_eq_true rfl, Nat.le_of_ble_eq_true rfl⟩ ⟨Nat.le_of_ble_eq_true rfl, Nat.le_of_ble_eq_true rfl⟩ dX6_covered_15 (fun x_23 _ H locs h_23 hP hD hS => ?_)
  have hP : va_P D vwCl [(x0, .inr (6, [.ref nw, .ref sp, .ref im, .ref sc, .ref hg, .ref fg, .ref pg, .ref pr, .int 0, .long 0, .long 1, .int 0, .int 0, .int 0])), (nw, .inr (3, [.int 2, .int 0, .ref keys, .ref moms, .ref lens, .ref prts, .ref luds, .ref hnds, .ref lats, .ref knds, .ref rch, .ref spd, .int 0, .int 0, .int 0, .ref unN, .ref unH, .ref ptn]))] H := hP
  have hD : va_D (va_A (w_covered cI cZ cP x0 nw sp im sc hg fg pg pr keys moms lens prts luds hnds lats knds rch spd unN unH ptn) sz) [(x0, .inr (6, [.ref nw, .ref sp, .ref im, .ref sc, .ref hg, .ref fg, .ref pg, .ref pr, .int 0, .long 0, .long 1, .int 0, .int 0, .int 0])), (nw, .inr (3, [.int 2, .int 0, .ref keys, .ref moms, .ref lens, .ref prts, .ref luds, .ref hnds, .ref lats, .ref knds, .ref rch, .ref spd, .int 0, .int 0, .int 0, .ref unN, .ref unH, .ref ptn]))] := hD
  subst h_23
  refine lv_if_eq (tgt := 27) hx hb dX6_covered_18 (by decide) (fun _ => ?_) (fun c_24 => absurd (by decide) c_24)
  refine lv_iinc (v := 8) (lv' := [(3, .int 8), (1, .long ((0 : Int32).toInt64)), (0, .ref x0)]) hx hb dX6_covered_27 hl (k := 0) rfl (by decide) (by decide) rfl (fun ls hl => ?_)
  refine lv_goto (tgt := 4) hx hb dX6_covered_30 (by decide) ?_
  refine lv_iload_n hx hb dX6_covered_4 rfl (lv_at hl 0 rfl) ?_
  refine lv_bipush (v := 64) hx hb dX6_covered_5 (by decide) ?_
  refine lv_icmp_ge (tgt := 33) hx hb dX6_covered_7 (by decide) (fun c_25 => absurd c_25 (by decide)) (fun _ => ?_)
  refine lv_aload_n hx hb dX6_covered_10 rfl (lv_at hl 2 rfl) ?_
  refine va_get (D := D) (ci := 6) (v := .ref nw) (C := RX6) (T := TX6) (N := 14) hx hb ht inX6 hown hK hP 0 rfl rfl 0 (Nat.le_of_ble_eq_true rfl) (ht _ kw_337) (fun _ h9 => h9) rfl dX6_covered_11 ?_
  refine lv_iload_n hx hb dX6_covered_14 rfl (lv_at hl 0 rfl) ?_
  refine q_Vi (wr := [(x0, .inr (6, [.ref nw, .ref sp, .ref im, .ref sc, .ref hg, .ref fg, .ref pg, .ref pr, .int 0, .long 0, .long 1, .int 0, .int 0, .int 0]))]) [1] [0] hX hE hK hP hD hS hA hl.1 lk_X6_230 (c_isCovered l D cI cZ cP sa nw keys moms lens prts luds hnds lats knds rch spd unN unH ptn 8 _) rfl rfl rfl rfl (by decide) 0 3 rfl rfl rfl rfl (Nat.le_of_ble_eq_true rfl) rfl rfl ⟨Nat.le_of_ble_eq_true rfl, Nat.le_of_ble_eq_true rfl⟩ ⟨Nat.le_of_ble_eq_true rfl, Nat.le_of_ble_eq_true rfl⟩ dX6_covered_15 (fun x_26 _ H locs h_26 hP hD hS => ?_)
  have hP : va_P D vwCl [(x0, .inr (6, [.ref nw, .ref sp, .ref im, .ref sc, .ref hg, .ref fg, .ref pg, .ref pr, .int 0, .long 0, .long 1, .int 0, .int 0, .int 0])), (nw, .inr (3, [.int 2, .int 0, .ref keys, .ref moms, .ref lens, .ref prts, .ref luds, .ref hnds, .ref lats, .ref knds, .ref rch, .ref spd, .int 0, .int 0, .int 0, .ref unN, .ref unH, .ref ptn]))] H := hP
  have hD : va_D (va_A (w_covered cI cZ cP x0 nw sp im sc hg fg pg pr keys moms lens prts luds hnds lats knds rch spd unN unH ptn) sz) [(x0, .inr (6, [.ref nw, .ref sp, .ref im, .ref sc, .ref hg, .ref fg, .ref pg, .ref pr, .int 0, .long 0, .long 1, .int 0, .int 0, .int 0])), (nw, .inr (3, [.int 2, .int 0, .ref keys, .ref moms, .ref lens, .ref prts, .ref luds, .ref hnds, .ref lats, .ref knds, .ref rch, .ref spd, .int 0, .int 0, .int 0, .ref unN, .ref unH, .ref ptn]))] := hD
  subst h_26
  refine lv_if_eq (tgt := 27) hx hb dX6_covered_18 (by decide) (fun _ => ?_) (fun c_27 => absurd (by decide) c_27)
  refine lv_iinc (v := 9) (lv' := [(3, .int 9), (1, .long ((0 : Int32).toInt64)), (0, .ref x0)]) hx hb dX6_covered_27 hl (k := 0) rfl (by decide) (by decide) rfl (fun ls hl => ?_)
  refine lv_goto (tgt := 4) hx hb dX6_covered_30 (by decide) ?_
  refine lv_iload_n hx hb dX6_covered_4 rfl (lv_at hl 0 rfl) ?_
  refine lv_bipush (v := 64) hx hb dX6_covered_5 (by decide) ?_
  refine lv_icmp_ge (tgt := 33) hx hb dX6_covered_7 (by decide) (fun c_28 => absurd c_28 (by decide)) (fun _ => ?_)
  refine lv_aload_n hx hb dX6_covered_10 rfl (lv_at hl 2 rfl) ?_
  refine va_get (D := D) (ci := 6) (v := .ref nw) (C := RX6) (T := TX6) (N := 14) hx hb ht inX6 hown hK hP 0 rfl rfl 0 (Nat.le_of_ble_eq_true rfl) (ht _ kw_337) (fun _ h9 => h9) rfl dX6_covered_11 ?_
  refine lv_iload_n hx hb dX6_covered_14 rfl (lv_at hl 0 rfl) ?_
  refine q_Vi (wr := [(x0, .inr (6, [.ref nw, .ref sp, .ref im, .ref sc, .ref hg, .ref fg, .ref pg, .ref pr, .int 0, .long 0, .long 1, .int 0, .int 0, .int 0]))]) [1] [0] hX hE hK hP hD hS hA hl.1 lk_X6_230 (c_isCovered l D cI cZ cP sa nw keys moms lens prts luds hnds lats knds rch spd unN unH ptn 9 _) rfl rfl rfl rfl (by decide) 0 3 rfl rfl rfl rfl (Nat.le_of_ble_eq_true rfl) rfl rfl ⟨Nat.le_of_ble_eq_true rfl, Nat.le_of_ble_eq_true rfl⟩ ⟨Nat.le_of_ble_eq_true rfl, Nat.le_of_ble_eq_true rfl⟩ dX6_covered_15 (fun x_29 _ H locs h_29 hP hD hS => ?_)
  have hP : va_P D vwCl [(x0, .inr (6, [.ref nw, .ref sp, .ref im, .ref sc, .ref hg, .ref fg, .ref pg, .ref pr, .int 0, .long 0, .long 1, .int 0, .int 0, .int 0])), (nw, .inr (3, [.int 2, .int 0, .ref keys, .ref moms, .ref lens, .ref prts, .ref luds, .ref hnds, .ref lats, .ref knds, .ref rch, .ref spd, .int 0, .int 0, .int 0, .ref unN, .ref unH, .ref ptn]))] H := hP
  have hD : va_D (va_A (w_covered cI cZ cP x0 nw sp im sc hg fg pg pr keys moms lens prts luds hnds lats knds rch spd unN unH ptn) sz) [(x0, .inr (6, [.ref nw, .ref sp, .ref im, .ref sc, .ref hg, .ref fg, .ref pg, .ref pr, .int 0, .long 0, .long 1, .int 0, .int 0, .int 0])), (nw, .inr (3, [.int 2, .int 0, .ref keys, .ref moms, .ref lens, .ref prts, .ref luds, .ref hnds, .ref lats, .ref knds, .ref rch, .ref spd, .int 0, .int 0, .int 0, .ref unN, .ref unH, .ref ptn]))] := hD
  subst h_29
  refine lv_if_eq (tgt := 27) hx hb dX6_covered_18 (by decide) (fun _ => ?_) (fun c_30 => absurd (by decide) c_30)
  refine lv_iinc (v := 10) (lv' := [(3, .int 10), (1, .long ((0 : Int32).toInt64)), (0, .ref x0)]) hx hb dX6_covered_27 hl (k := 0) rfl (by decide) (by decide) rfl (fun ls hl => ?_)
  refine lv_goto (tgt := 4) hx hb dX6_covered_30 (by decide) ?_
  refine lv_iload_n hx hb dX6_covered_4 rfl (lv_at hl 0 rfl) ?_
  refine lv_bipush (v := 64) hx hb dX6_covered_5 (by decide) ?_
  refine lv_icmp_ge (tgt := 33) hx hb dX6_covered_7 (by decide) (fun c_31 => absurd c_31 (by decide)) (fun _ => ?_)
  refine lv_aload_n hx hb dX6_covered_10 rfl (lv_at hl 2 rfl) ?_
  refine va_get (D := D) (ci := 6) (v := .ref nw) (C := RX6) (T := TX6) (N := 14) hx hb ht inX6 hown hK hP 0 rfl rfl 0 (Nat.le_of_ble_eq_true rfl) (ht _ kw_337) (fun _ h9 => h9) rfl dX6_covered_11 ?_
  refine lv_iload_n hx hb dX6_covered_14 rfl (lv_at hl 0 rfl) ?_
  refine q_Vi (wr := [(x0, .inr (6, [.ref nw, .ref sp, .ref im, .ref sc, .ref hg, .ref fg, .ref pg, .ref pr, .int 0, .long 0, .long 1, .int 0, .int 0, .int 0]))]) [1] [0] hX hE hK hP hD hS hA hl.1 lk_X6_230 (c_isCovered l D cI cZ cP sa nw keys moms lens prts luds hnds lats knds rch spd unN unH ptn 10 _) rfl rfl rfl rfl (by decide) 0 3 rfl rfl rfl rfl (Nat.le_of_ble_eq_true rfl) rfl rfl ⟨Nat.le_of_ble_eq_true rfl, Nat.le_of_ble_eq_true rfl⟩ ⟨Nat.le_of_ble_eq_true rfl, Nat.le_of_ble_eq_true rfl⟩ dX6_covered_15 (fun x_32 _ H locs h_32 hP hD hS => ?_)
  have hP : va_P D vwCl [(x0, .inr (6, [.ref nw, .ref sp, .ref im, .ref sc, .ref hg, .ref fg, .ref pg, .ref pr, .int 0, .long 0, .long 1, .int 0, .int 0, .int 0])), (nw, .inr (3, [.int 2, .int 0, .ref keys, .ref moms, .ref lens, .ref prts, .ref luds, .ref hnds, .ref lats, .ref knds, .ref rch, .ref spd, .int 0, .int 0, .int 0, .ref unN, .ref unH, .ref ptn]))] H := hP
  have hD : va_D (va_A (w_covered cI cZ cP x0 nw sp im sc hg fg pg pr keys moms lens prts luds hnds lats knds rch spd unN unH ptn) sz) [(x0, .inr (6, [.ref nw, .ref sp, .ref im, .ref sc, .ref hg, .ref fg, .ref pg, .ref pr, .int 0, .long 0, .long 1, .int 0, .int 0, .int 0])), (nw, .inr (3, [.int 2, .int 0, .ref keys, .ref moms, .ref lens, .ref prts, .ref luds, .ref hnds, .ref lats, .ref knds, .ref rch, .ref spd, .int 0, .int 0, .int 0, .ref unN, .ref unH, .ref ptn]))] := hD
  subst h_32
  refine lv_if_eq (tgt := 27) hx hb dX6_covered_18 (by decide) (fun _ => ?_) (fun c_33 => absurd (by decide) c_33)
  refine lv_iinc (v := 11) (lv' := [(3, .int 11), (1, .long ((0 : Int32).toInt64)), (0, .ref x0)]) hx hb dX6_covered_27 hl (k := 0) rfl (by decide) (by decide) rfl (fun ls hl => ?_)
  refine lv_goto (tgt := 4) hx hb dX6_covered_30 (by decide) ?_
  refine lv_iload_n hx hb dX6_covered_4 rfl (lv_at hl 0 rfl) ?_
  refine lv_bipush (v := 64) hx hb dX6_covered_5 (by decide) ?_
  refine lv_icmp_ge (tgt := 33) hx hb dX6_covered_7 (by decide) (fun c_34 => absurd c_34 (by decide)) (fun _ => ?_)
  refine lv_aload_n hx hb dX6_covered_10 rfl (lv_at hl 2 rfl) ?_
  refine va_get (D := D) (ci := 6) (v := .ref nw) (C := RX6) (T := TX6) (N := 14) hx hb ht inX6 hown hK hP 0 rfl rfl 0 (Nat.le_of_ble_eq_true rfl) (ht _ kw_337) (fun _ h9 => h9) rfl dX6_covered_11 ?_
  refine lv_iload_n hx hb dX6_covered_14 rfl (lv_at hl 0 rfl) ?_
  refine q_Vi (wr := [(x0, .inr (6, [.ref nw, .ref sp, .ref im, .ref sc, .ref hg, .ref fg, .ref pg, .ref pr, .int 0, .long 0, .long 1, .int 0, .int 0, .int 0]))]) [1] [0] hX hE hK hP hD hS hA hl.1 lk_X6_230 (c_isCovered l D cI cZ cP sa nw keys moms lens prts luds hnds lats knds rch spd unN unH ptn 11 _) rfl rfl rfl rfl (by decide) 0 3 rfl rfl rfl rfl (Nat.le_of_ble_eq_true rfl) rfl rfl ⟨Nat.le_of_ble_eq_true rfl, Nat.le_of_ble_eq_true rfl⟩ ⟨Nat.le_of_ble_eq_true rfl, Nat.le_of_ble_eq_true rfl⟩ dX6_covered_15 (fun x_35 _ H locs h_35 hP hD hS => ?_)
  have hP : va_P D vwCl [(x0, .inr (6, [.ref nw, .ref sp, .ref im, .ref sc, .ref hg, .ref fg, .ref pg, .ref pr, .int 0, .long 0, .long 1, .int 0, .int 0, .int 0])), (nw, .inr (3, [.int 2, .int 0, .ref keys, .ref moms, .ref lens, .ref prts, .ref luds, .ref hnds, .ref lats, .ref knds, .ref rch, .ref spd, .int 0, .int 0, .int 0, .ref unN, .ref unH, .ref ptn]))] H := hP
  have hD : va_D (va_A (w_covered cI cZ cP x0 nw sp im sc hg fg pg pr keys moms lens prts luds hnds lats knds rch spd unN unH ptn) sz) [(x0, .inr (6, [.ref nw, .ref sp, .ref im, .ref sc, .ref hg, .ref fg, .ref pg, .ref pr, .int 0, .long 0, .long 1, .int 0, .int 0, .int 0])), (nw, .inr (3, [.int 2, .int 0, .ref keys, .ref moms, .ref lens, .ref prts, .ref luds, .ref hnds, .ref lats, .ref knds, .ref rch, .ref spd, .int 0, .int 0, .int 0, .ref unN, .ref unH, .ref ptn]))] := hD
  subst h_35
  refine lv_if_eq (tgt := 27) hx hb dX6_covered_18 (by decide) (fun _ => ?_) (fun c_36 => absurd (by decide) c_36)
  refine lv_iinc (v := 12) (lv' := [(3, .int 12), (1, .long ((0 : Int32).toInt64)), (0, .ref x0)]) hx hb dX6_covered_27 hl (k := 0) rfl (by decide) (by decide) rfl (fun ls hl => ?_)
  refine lv_goto (tgt := 4) hx hb dX6_covered_30 (by decide) ?_
  refine lv_iload_n hx hb dX6_covered_4 rfl (lv_at hl 0 rfl) ?_
  refine lv_bipush (v := 64) hx hb dX6_covered_5 (by decide) ?_
  refine lv_icmp_ge (tgt := 33) hx hb dX6_covered_7 (by decide) (fun c_37 => absurd c_37 (by decide)) (fun _ => ?_)
  refine lv_aload_n hx hb dX6_covered_10 rfl (lv_at hl 2 rfl) ?_
  refine va_get (D := D) (ci := 6) (v := .ref nw) (C := RX6) (T := TX6) (N := 14) hx hb ht inX6 hown hK hP 0 rfl rfl 0 (Nat.le_of_ble_eq_true rfl) (ht _ kw_337) (fun _ h9 => h9) rfl dX6_covered_11 ?_
  refine lv_iload_n hx hb dX6_covered_14 rfl (lv_at hl 0 rfl) ?_
  refine q_Vi (wr := [(x0, .inr (6, [.ref nw, .ref sp, .ref im, .ref sc, .ref hg, .ref fg, .ref pg, .ref pr, .int 0, .long 0, .long 1, .int 0, .int 0, .int 0]))]) [1] [0] hX hE hK hP hD hS hA hl.1 lk_X6_230 (c_isCovered l D cI cZ cP sa nw keys moms lens prts luds hnds lats knds rch spd unN unH ptn 12 _) rfl rfl rfl rfl (by decide) 0 3 rfl rfl rfl rfl (Nat.le_of_ble_eq_true rfl) rfl rfl ⟨Nat.le_of_ble_eq_true rfl, Nat.le_of_ble_eq_true rfl⟩ ⟨Nat.le_of_ble_eq_true rfl, Nat.le_of_ble_eq_true rfl⟩ dX6_covered_15 (fun x_38 _ H locs h_38 hP hD hS => ?_)
  have hP : va_P D vwCl [(x0, .inr (6, [.ref nw, .ref sp, .ref im, .ref sc, .ref hg, .ref fg, .ref pg, .ref pr, .int 0, .long 0, .long 1, .int 0, .int 0, .int 0])), (nw, .inr (3, [.int 2, .int 0, .ref keys, .ref moms, .ref lens, .ref prts, .ref luds, .ref hnds, .ref lats, .ref knds, .ref rch, .ref spd, .int 0, .int 0, .int 0, .ref unN, .ref unH, .ref ptn]))] H := hP
  have hD : va_D (va_A (w_covered cI cZ cP x0 nw sp im sc hg fg pg pr keys moms lens prts luds hnds lats knds rch spd unN unH ptn) sz) [(x0, .inr (6, [.ref nw, .ref sp, .ref im, .ref sc, .ref hg, .ref fg, .ref pg, .ref pr, .int 0, .long 0, .long 1, .int 0, .int 0, .int 0])), (nw, .inr (3, [.int 2, .int 0, .ref keys, .ref moms, .ref lens, .ref prts, .ref luds, .ref hnds, .ref lats, .ref knds, .ref rch, .ref spd, .int 0, .int 0, .int 0, .ref unN, .ref unH, .ref ptn]))] := hD
  subst h_38
  refine lv_if_eq (tgt := 27) hx hb dX6_covered_18 (by decide) (fun _ => ?_) (fun c_39 => absurd (by decide) c_39)
  refine lv_iinc (v := 13) (lv' := [(3, .int 13), (1, .long ((0 : Int32).toInt64)), (0, .ref x0)]) hx hb dX6_covered_27 hl (k := 0) rfl (by decide) (by decide) rfl (fun ls hl => ?_)
  refine lv_goto (tgt := 4) hx hb dX6_covered_30 (by decide) ?_
  refine lv_iload_n hx hb dX6_covered_4 rfl (lv_at hl 0 rfl) ?_
  refine lv_bipush (v := 64) hx hb dX6_covered_5 (by decide) ?_
  refine lv_icmp_ge (tgt := 33) hx hb dX6_covered_7 (by decide) (fun c_40 => absurd c_40 (by decide)) (fun _ => ?_)
  refine lv_aload_n hx hb dX6_covered_10 rfl (lv_at hl 2 rfl) ?_
  refine va_get (D := D) (ci := 6) (v := .ref nw) (C := RX6) (T := TX6) (N := 14) hx hb ht inX6 hown hK hP 0 rfl rfl 0 (Nat.le_of_ble_eq_true rfl) (ht _ kw_337) (fun _ h9 => h9) rfl dX6_covered_11 ?_
  refine lv_iload_n hx hb dX6_covered_14 rfl (lv_at hl 0 rfl) ?_
  refine q_Vi (wr := [(x0, .inr (6, [.ref nw, .ref sp, .ref im, .ref sc, .ref hg, .ref fg, .ref pg, .ref pr, .int 0, .long 0, .long 1, .int 0, .int 0, .int 0]))]) [1] [0] hX hE hK hP hD hS hA hl.1 lk_X6_230 (c_isCovered l D cI cZ cP sa nw keys moms lens prts luds hnds lats knds rch spd unN unH ptn 13 _) rfl rfl rfl rfl (by decide) 0 3 rfl rfl rfl rfl (Nat.le_of_ble_eq_true rfl) rfl rfl ⟨Nat.le_of_ble_eq_true rfl, Nat.le_of_ble_eq_true rfl⟩ ⟨Nat.le_of_ble_eq_true rfl, Nat.le_of_ble_eq_true rfl⟩ dX6_covered_15 (fun x_41 _ H locs h_41 hP hD hS => ?_)
  have hP : va_P D vwCl [(x0, .inr (6, [.ref nw, .ref sp, .ref im, .ref sc, .ref hg, .ref fg, .ref pg, .ref pr, .int 0, .long 0, .long 1, .int 0, .int 0, .int 0])), (nw, .inr (3, [.int 2, .int 0, .ref keys, .ref moms, .ref lens, .ref prts, .ref luds, .ref hnds, .ref lats, .ref knds, .ref rch, .ref spd, .int 0, .int 0, .int 0, .ref unN, .ref unH, .ref ptn]))] H := hP
  have hD : va_D (va_A (w_covered cI cZ cP x0 nw sp im sc hg fg pg pr keys moms lens prts luds hnds lats knds rch spd unN unH ptn) sz) [(x0, .inr (6, [.ref nw, .ref sp, .ref im, .ref sc, .ref hg, .ref fg, .ref pg, .ref pr, .int 0, .long 0, .long 1, .int 0, .int 0, .int 0])), (nw, .inr (3, [.int 2, .int 0, .ref keys, .ref moms, .ref lens, .ref prts, .ref luds, .ref hnds, .ref lats, .ref knds, .ref rch, .ref spd, .int 0, .int 0, .int 0, .ref unN, .ref unH, .ref ptn]))] := hD
  subst h_41
  refine lv_if_eq (tgt := 27) hx hb dX6_covered_18 (by decide) (fun _ => ?_) (fun c_42 => absurd (by decide) c_42)
  refine lv_iinc (v := 14) (lv' := [(3, .int 14), (1, .long ((0 : Int32).toInt64)), (0, .ref x0)]) hx hb dX6_covered_27 hl (k := 0) rfl (by decide) (by decide) rfl (fun ls hl => ?_)
  refine lv_goto (tgt := 4) hx hb dX6_covered_30 (by decide) ?_
  refine lv_iload_n hx hb dX6_covered_4 rfl (lv_at hl 0 rfl) ?_
  refine lv_bipush (v := 64) hx hb dX6_covered_5 (by decide) ?_
  refine lv_icmp_ge (tgt := 33) hx hb dX6_covered_7 (by decide) (fun c_43 => absurd c_43 (by decide)) (fun _ => ?_)
  refine lv_aload_n hx hb dX6_covered_10 rfl (lv_at hl 2 rfl) ?_
  refine va_get (D := D) (ci := 6) (v := .ref nw) (C := RX6) (T := TX6) (N := 14) hx hb ht inX6 hown hK hP 0 rfl rfl 0 (Nat.le_of_ble_eq_true rfl) (ht _ kw_337) (fun _ h9 => h9) rfl dX6_covered_11 ?_
  refine lv_iload_n hx hb dX6_covered_14 rfl (lv_at hl 0 rfl) ?_
  refine q_Vi (wr := [(x0, .inr (6, [.ref nw, .ref sp, .ref im, .ref sc, .ref hg, .ref fg, .ref pg, .ref pr, .int 0, .long 0, .long 1, .int 0, .int 0, .int 0]))]) [1] [0] hX hE hK hP hD hS hA hl.1 lk_X6_230 (c_isCovered l D cI cZ cP sa nw keys moms lens prts luds hnds lats knds rch spd unN unH ptn 14 _) rfl rfl rfl rfl (by decide) 0 3 rfl rfl rfl rfl (Nat.le_of_ble_eq_true rfl) rfl rfl ⟨Nat.le_of_ble_eq_true rfl, Nat.le_of_ble_eq_true rfl⟩ ⟨Nat.le_of_ble_eq_true rfl, Nat.le_of_ble_eq_true rfl⟩ dX6_covered_15 (fun x_44 _ H locs h_44 hP hD hS => ?_)
  have hP : va_P D vwCl [(x0, .inr (6, [.ref nw, .ref sp, .ref im, .ref sc, .ref hg, .ref fg, .ref pg, .ref pr, .int 0, .long 0, .long 1, .int 0, .int 0, .int 0])), (nw, .inr (3, [.int 2, .int 0, .ref keys, .ref moms, .ref lens, .ref prts, .ref luds, .ref hnds, .ref lats, .ref knds, .ref rch, .ref spd, .int 0, .int 0, .int 0, .ref unN, .ref unH, .ref ptn]))] H := hP
  have hD : va_D (va_A (w_covered cI cZ cP x0 nw sp im sc hg fg pg pr keys moms lens prts luds hnds lats knds rch spd unN unH ptn) sz) [(x0, .inr (6, [.ref nw, .ref sp, .ref im, .ref sc, .ref hg, .ref fg, .ref pg, .ref pr, .int 0, .long 0, .long 1, .int 0, .int 0, .int 0])), (nw, .inr (3, [.int 2, .int 0, .ref keys, .ref moms, .ref lens, .ref prts, .ref luds, .ref hnds, .ref lats, .ref knds, .ref rch, .ref spd, .int 0, .int 0, .int 0, .ref unN, .ref unH, .ref ptn]))] := hD
  subst h_44
  refine lv_if_eq (tgt := 27) hx hb dX6_covered_18 (by decide) (fun _ => ?_) (fun c_45 => absurd (by decide) c_45)
  refine lv_iinc (v := 15) (lv' := [(3, .int 15), (1, .long ((0 : Int32).toInt64)), (0, .ref x0)]) hx hb dX6_covered_27 hl (k := 0) rfl (by decide) (by decide) rfl (fun ls hl => ?_)
  refine lv_goto (tgt := 4) hx hb dX6_covered_30 (by decide) ?_
  refine lv_iload_n hx hb dX6_covered_4 rfl (lv_at hl 0 rfl) ?_
  refine lv_bipush (v := 64) hx hb dX6_covered_5 (by decide) ?_
  refine lv_icmp_ge (tgt := 33) hx hb dX6_covered_7 (by decide) (fun c_46 => absurd c_46 (by decide)) (fun _ => ?_)
  refine lv_aload_n hx hb dX6_covered_10 rfl (lv_at hl 2 rfl) ?_
  refine va_get (D := D) (ci := 6) (v := .ref nw) (C := RX6) (T := TX6) (N := 14) hx hb ht inX6 hown hK hP 0 rfl rfl 0 (Nat.le_of_ble_eq_true rfl) (ht _ kw_337) (fun _ h9 => h9) rfl dX6_covered_11 ?_
  refine lv_iload_n hx hb dX6_covered_14 rfl (lv_at hl 0 rfl) ?_
  refine q_Vi (wr := [(x0, .inr (6, [.ref nw, .ref sp, .ref im, .ref sc, .ref hg, .ref fg, .ref pg, .ref pr, .int 0, .long 0, .long 1, .int 0, .int 0, .int 0]))]) [1] [0] hX hE hK hP hD hS hA hl.1 lk_X6_230 (c_isCovered l D cI cZ cP sa nw keys moms lens prts luds hnds lats knds rch spd unN unH ptn 15 _) rfl rfl rfl rfl (by decide) 0 3 rfl rfl rfl rfl (Nat.le_of_ble_eq_true rfl) rfl rfl ⟨Nat.le_of_ble_eq_true rfl, Nat.le_of_ble_eq_true rfl⟩ ⟨Nat.le_of_ble_eq_true rfl, Nat.le_of_ble_eq_true rfl⟩ dX6_covered_15 (fun x_47 _ H locs h_47 hP hD hS => ?_)
  have hP : va_P D vwCl [(x0, .inr (6, [.ref nw, .ref sp, .ref im, .ref sc, .ref hg, .ref fg, .ref pg, .ref pr, .int 0, .long 0, .long 1, .int 0, .int 0, .int 0])), (nw, .inr (3, [.int 2, .int 0, .ref keys, .ref moms, .ref lens, .ref prts, .ref luds, .ref hnds, .ref lats, .ref knds, .ref rch, .ref spd, .int 0, .int 0, .int 0, .ref unN, .ref unH, .ref ptn]))] H := hP
  have hD : va_D (va_A (w_covered cI cZ cP x0 nw sp im sc hg fg pg pr keys moms lens prts luds hnds lats knds rch spd unN unH ptn) sz) [(x0, .inr (6, [.ref nw, .ref sp, .ref im, .ref sc, .ref hg, .ref fg, .ref pg, .ref pr, .int 0, .long 0, .long 1, .int 0, .int 0, .int 0])), (nw, .inr (3, [.int 2, .int 0, .ref keys, .ref moms, .ref lens, .ref prts, .ref luds, .ref hnds, .ref lats, .ref knds, .ref rch, .ref spd, .int 0, .int 0, .int 0, .ref unN, .ref unH, .ref ptn]))] := hD
  subst h_47
  refine lv_if_eq (tgt := 27) hx hb dX6_covered_18 (by decide) (fun _ => ?_) (fun c_48 => absurd (by decide) c_48)
  refine lv_iinc (v := 16) (lv' := [(3, .int 16), (1, .long ((0 : Int32).toInt64)), (0, .ref x0)]) hx hb dX6_covered_27 hl (k := 0) rfl (by decide) (by decide) rfl (fun ls hl => ?_)
  refine lv_goto (tgt := 4) hx hb dX6_covered_30 (by decide) ?_
  refine lv_iload_n hx hb dX6_covered_4 rfl (lv_at hl 0 rfl) ?_
  refine lv_bipush (v := 64) hx hb dX6_covered_5 (by decide) ?_
  refine lv_icmp_ge (tgt := 33) hx hb dX6_covered_7 (by decide) (fun c_49 => absurd c_49 (by decide)) (fun _ => ?_)
  refine lv_aload_n hx hb dX6_covered_10 rfl (lv_at hl 2 rfl) ?_
  refine va_get (D := D) (ci := 6) (v := .ref nw) (C := RX6) (T := TX6) (N := 14) hx hb ht inX6 hown hK hP 0 rfl rfl 0 (Nat.le_of_ble_eq_true rfl) (ht _ kw_337) (fun _ h9 => h9) rfl dX6_covered_11 ?_
  refine lv_iload_n hx hb dX6_covered_14 rfl (lv_at hl 0 rfl) ?_
  refine q_Vi (wr := [(x0, .inr (6, [.ref nw, .ref sp, .ref im, .ref sc, .ref hg, .ref fg, .ref pg, .ref pr, .int 0, .long 0, .long 1, .int 0, .int 0, .int 0]))]) [1] [0] hX hE hK hP hD hS hA hl.1 lk_X6_230 (c_isCovered l D cI cZ cP sa nw keys moms lens prts luds hnds lats knds rch spd unN unH ptn 16 _) rfl rfl rfl rfl (by decide) 0 3 rfl rfl rfl rfl (Nat.le_of_ble_eq_true rfl) rfl rfl ⟨Nat.le_of_ble_eq_true rfl, Nat.le_of_ble_eq_true rfl⟩ ⟨Nat.le_of_ble_eq_true rfl, Nat.le_of_ble_eq_true rfl⟩ dX6_covered_15 (fun x_50 _ H locs h_50 hP hD hS => ?_)
  have hP : va_P D vwCl [(x0, .inr (6, [.ref nw, .ref sp, .ref im, .ref sc, .ref hg, .ref fg, .ref pg, .ref pr, .int 0, .long 0, .long 1, .int 0, .int 0, .int 0])), (nw, .inr (3, [.int 2, .int 0, .ref keys, .ref moms, .ref lens, .ref prts, .ref luds, .ref hnds, .ref lats, .ref knds, .ref rch, .ref spd, .int 0, .int 0, .int 0, .ref unN, .ref unH, .ref ptn]))] H := hP
  have hD : va_D (va_A (w_covered cI cZ cP x0 nw sp im sc hg fg pg pr keys moms lens prts luds hnds lats knds rch spd unN unH ptn) sz) [(x0, .inr (6, [.ref nw, .ref sp, .ref im, .ref sc, .ref hg, .ref fg, .ref pg, .ref pr, .int 0, .long 0, .long 1, .int 0, .int 0, .int 0])), (nw, .inr (3, [.int 2, .int 0, .ref keys, .ref moms, .ref lens, .ref prts, .ref luds, .ref hnds, .ref lats, .ref knds, .ref rch, .ref spd, .int 0, .int 0, .int 0, .ref unN, .ref unH, .ref ptn]))] := hD
  subst h_50
  refine lv_if_eq (tgt := 27) hx hb dX6_covered_18 (by decide) (fun _ => ?_) (fun c_51 => absurd (by decide) c_51)
  refine lv_iinc (v := 17) (lv' := [(3, .int 17), (1, .long ((0 : Int32).toInt64)), (0, .ref x0)]) hx hb dX6_covered_27 hl (k := 0) rfl (by decide) (by decide) rfl (fun ls hl => ?_)
  refine lv_goto (tgt := 4) hx hb dX6_covered_30 (by decide) ?_
  refine lv_iload_n hx hb dX6_covered_4 rfl (lv_at hl 0 rfl) ?_
  refine lv_bipush (v := 64) hx hb dX6_covered_5 (by decide) ?_
  refine lv_icmp_ge (tgt := 33) hx hb dX6_covered_7 (by decide) (fun c_52 => absurd c_52 (by decide)) (fun _ => ?_)
  refine lv_aload_n hx hb dX6_covered_10 rfl (lv_at hl 2 rfl) ?_
  refine va_get (D := D) (ci := 6) (v := .ref nw) (C := RX6) (T := TX6) (N := 14) hx hb ht inX6 hown hK hP 0 rfl rfl 0 (Nat.le_of_ble_eq_true rfl) (ht _ kw_337) (fun _ h9 => h9) rfl dX6_covered_11 ?_
  refine lv_iload_n hx hb dX6_covered_14 rfl (lv_at hl 0 rfl) ?_
  refine q_Vi (wr := [(x0, .inr (6, [.ref nw, .ref sp, .ref im, .ref sc, .ref hg, .ref fg, .ref pg, .ref pr, .int 0, .long 0, .long 1, .int 0, .int 0, .int 0]))]) [1] [0] hX hE hK hP hD hS hA hl.1 lk_X6_230 (c_isCovered l D cI cZ cP sa nw keys moms lens prts luds hnds lats knds rch spd unN unH ptn 17 _) rfl rfl rfl rfl (by decide) 0 3 rfl rfl rfl rfl (Nat.le_of_ble_eq_true rfl) rfl rfl ⟨Nat.le_of_ble_eq_true rfl, Nat.le_of_ble_eq_true rfl⟩ ⟨Nat.le_of_ble_eq_true rfl, Nat.le_of_ble_eq_true rfl⟩ dX6_covered_15 (fun x_53 _ H locs h_53 hP hD hS => ?_)
  have hP : va_P D vwCl [(x0, .inr (6, [.ref nw, .ref sp, .ref im, .ref sc, .ref hg, .ref fg, .ref pg, .ref pr, .int 0, .long 0, .long 1, .int 0, .int 0, .int 0])), (nw, .inr (3, [.int 2, .int 0, .ref keys, .ref moms, .ref lens, .ref prts, .ref luds, .ref hnds, .ref lats, .ref knds, .ref rch, .ref spd, .int 0, .int 0, .int 0, .ref unN, .ref unH, .ref ptn]))] H := hP
  have hD : va_D (va_A (w_covered cI cZ cP x0 nw sp im sc hg fg pg pr keys moms lens prts luds hnds lats knds rch spd unN unH ptn) sz) [(x0, .inr (6, [.ref nw, .ref sp, .ref im, .ref sc, .ref hg, .ref fg, .ref pg, .ref pr, .int 0, .long 0, .long 1, .int 0, .int 0, .int 0])), (nw, .inr (3, [.int 2, .int 0, .ref keys, .ref moms, .ref lens, .ref prts, .ref luds, .ref hnds, .ref lats, .ref knds, .ref rch, .ref spd, .int 0, .int 0, .int 0, .ref unN, .ref unH, .ref ptn]))] := hD
  subst h_53
  refine lv_if_eq (tgt := 27) hx hb dX6_covered_18 (by decide) (fun _ => ?_) (fun c_54 => absurd (by decide) c_54)
  refine lv_iinc (v := 18) (lv' := [(3, .int 18), (1, .long ((0 : Int32).toInt64)), (0, .ref x0)]) hx hb dX6_covered_27 hl (k := 0) rfl (by decide) (by decide) rfl (fun ls hl => ?_)
  refine lv_goto (tgt := 4) hx hb dX6_covered_30 (by decide) ?_
  refine lv_iload_n hx hb dX6_covered_4 rfl (lv_at hl 0 rfl) ?_
  refine lv_bipush (v := 64) hx hb dX6_covered_5 (by decide) ?_
  refine lv_icmp_ge (tgt := 33) hx hb dX6_covered_7 (by decide) (fun c_55 => absurd c_55 (by decide)) (fun _ => ?_)
  refine lv_aload_n hx hb dX6_covered_10 rfl (lv_at hl 2 rfl) ?_
  refine va_get (D := D) (ci := 6) (v := .ref nw) (C := RX6) (T := TX6) (N := 14) hx hb ht inX6 hown hK hP 0 rfl rfl 0 (Nat.le_of_ble_eq_true rfl) (ht _ kw_337) (fun _ h9 => h9) rfl dX6_covered_11 ?_
  refine lv_iload_n hx hb dX6_covered_14 rfl (lv_at hl 0 rfl) ?_
  refine q_Vi (wr := [(x0, .inr (6, [.ref nw, .ref sp, .ref im, .ref sc, .ref hg, .ref fg, .ref pg, .ref pr, .int 0, .long 0, .long 1, .int 0, .int 0, .int 0]))]) [1] [0] hX hE hK hP hD hS hA hl.1 lk_X6_230 (c_isCovered l D cI cZ cP sa nw keys moms lens prts luds hnds lats knds rch spd unN unH ptn 18 _) rfl rfl rfl rfl (by decide) 0 3 rfl rfl rfl rfl (Nat.le_of_ble_eq_true rfl) rfl rfl ⟨Nat.le_of_ble_eq_true rfl, Nat.le_of_ble_eq_true rfl⟩ ⟨Nat.le_of_ble_eq_true rfl, Nat.le_of_ble_eq_true rfl⟩ dX6_covered_15 (fun x_56 _ H locs h_56 hP hD hS => ?_)
  have hP : va_P D vwCl [(x0, .inr (6, [.ref nw, .ref sp, .ref im, .ref sc, .ref hg, .ref fg, .ref pg, .ref pr, .int 0, .long 0, .long 1, .int 0, .int 0, .int 0])), (nw, .inr (3, [.int 2, .int 0, .ref keys, .ref moms, .ref lens, .ref prts, .ref luds, .ref hnds, .ref lats, .ref knds, .ref rch, .ref spd, .int 0, .int 0, .int 0, .ref unN, .ref unH, .ref ptn]))] H := hP
  have hD : va_D (va_A (w_covered cI cZ cP x0 nw sp im sc hg fg pg pr keys moms lens prts luds hnds lats knds rch spd unN unH ptn) sz) [(x0, .inr (6, [.ref nw, .ref sp, .ref im, .ref sc, .ref hg, .ref fg, .ref pg, .ref pr, .int 0, .long 0, .long 1, .int 0, .int 0, .int 0])), (nw, .inr (3, [.int 2, .int 0, .ref keys, .ref moms, .ref lens, .ref prts, .ref luds, .ref hnds, .ref lats, .ref knds, .ref rch, .ref spd, .int 0, .int 0, .int 0, .ref unN, .ref unH, .ref ptn]))] := hD
  subst h_56
  refine lv_if_eq (tgt := 27) hx hb dX6_covered_18 (by decide) (fun _ => ?_) (fun c_57 => absurd (by decide) c_57)
  refine lv_iinc (v := 19) (lv' := [(3, .int 19), (1, .long ((0 : Int32).toInt64)), (0, .ref x0)]) hx hb dX6_covered_27 hl (k := 0) rfl (by decide) (by decide) rfl (fun ls hl => ?_)
  refine lv_goto (tgt := 4) hx hb dX6_covered_30 (by decide) ?_
  refine lv_iload_n hx hb dX6_covered_4 rfl (lv_at hl 0 rfl) ?_
  refine lv_bipush (v := 64) hx hb dX6_covered_5 (by decide) ?_
  refine lv_icmp_ge (tgt := 33) hx hb dX6_covered_7 (by decide) (fun c_58 => absurd c_58 (by decide)) (fun _ => ?_)
  refine lv_aload_n hx hb dX6_covered_10 rfl (lv_at hl 2 rfl) ?_
  refine va_get (D := D) (ci := 6) (v := .ref nw) (C := RX6) (T := TX6) (N := 14) hx hb ht inX6 hown hK hP 0 rfl rfl 0 (Nat.le_of_ble_eq_true rfl) (ht _ kw_337) (fun _ h9 => h9) rfl dX6_covered_11 ?_
  refine lv_iload_n hx hb dX6_covered_14 rfl (lv_at hl 0 rfl) ?_
  refine q_Vi (wr := [(x0, .inr (6, [.ref nw, .ref sp, .ref im, .ref sc, .ref hg, .ref fg, .ref pg, .ref pr, .int 0, .long 0, .long 1, .int 0, .int 0, .int 0]))]) [1] [0] hX hE hK hP hD hS hA hl.1 lk_X6_230 (c_isCovered l D cI cZ cP sa nw keys moms lens prts luds hnds lats knds rch spd unN unH ptn 19 _) rfl rfl rfl rfl (by decide) 0 3 rfl rfl rfl rfl (Nat.le_of_ble_eq_true rfl) rfl rfl ⟨Nat.le_of_ble_eq_true rfl, Nat.le_of_ble_eq_true rfl⟩ ⟨Nat.le_of_ble_eq_true rfl, Nat.le_of_ble_eq_true rfl⟩ dX6_covered_15 (fun x_59 _ H locs h_59 hP hD hS => ?_)
  have hP : va_P D vwCl [(x0, .inr (6, [.ref nw, .ref sp, .ref im, .ref sc, .ref hg, .ref fg, .ref pg, .ref pr, .int 0, .long 0, .long 1, .int 0, .int 0, .int 0])), (nw, .inr (3, [.int 2, .int 0, .ref keys, .ref moms, .ref lens, .ref prts, .ref luds, .ref hnds, .ref lats, .ref knds, .ref rch, .ref spd, .int 0, .int 0, .int 0, .ref unN, .ref unH, .ref ptn]))] H := hP
  have hD : va_D (va_A (w_covered cI cZ cP x0 nw sp im sc hg fg pg pr keys moms lens prts luds hnds lats knds rch spd unN unH ptn) sz) [(x0, .inr (6, [.ref nw, .ref sp, .ref im, .ref sc, .ref hg, .ref fg, .ref pg, .ref pr, .int 0, .long 0, .long 1, .int 0, .int 0, .int 0])), (nw, .inr (3, [.int 2, .int 0, .ref keys, .ref moms, .ref lens, .ref prts, .ref luds, .ref hnds, .ref lats, .ref knds, .ref rch, .ref spd, .int 0, .int 0, .int 0, .ref unN, .ref unH, .ref ptn]))] := hD
  subst h_59
  refine lv_if_eq (tgt := 27) hx hb dX6_covered_18 (by decide) (fun _ => ?_) (fun c_60 => absurd (by decide) c_60)
  refine lv_iinc (v := 20) (lv' := [(3, .int 20), (1, .long ((0 : Int32).toInt64)), (0, .ref x0)]) hx hb dX6_covered_27 hl (k := 0) rfl (by decide) (by decide) rfl (fun ls hl => ?_)
  refine lv_goto (tgt := 4) hx hb dX6_covered_30 (by decide) ?_
  refine lv_iload_n hx hb dX6_covered_4 rfl (lv_at hl 0 rfl) ?_
  refine lv_bipush (v := 64) hx hb dX6_covered_5 (by decide) ?_
  refine lv_icmp_ge (tgt := 33) hx hb dX6_covered_7 (by decide) (fun c_61 => absurd c_61 (by decide)) (fun _ => ?_)
  refine lv_aload_n hx hb dX6_covered_10 rfl (lv_at hl 2 rfl) ?_
  refine va_get (D := D) (ci := 6) (v := .ref nw) (C := RX6) (T := TX6) (N := 14) hx hb ht inX6 hown hK hP 0 rfl rfl 0 (Nat.le_of_ble_eq_true rfl) (ht _ kw_337) (fun _ h9 => h9) rfl dX6_covered_11 ?_
  refine lv_iload_n hx hb dX6_covered_14 rfl (lv_at hl 0 rfl) ?_
  refine q_Vi (wr := [(x0, .inr (6, [.ref nw, .ref sp, .ref im, .ref sc, .ref hg, .ref fg, .ref pg, .ref pr, .int 0, .long 0, .long 1, .int 0, .int 0, .int 0]))]) [1] [0] hX hE hK hP hD hS hA hl.1 lk_X6_230 (c_isCovered l D cI cZ cP sa nw keys moms lens prts luds hnds lats knds rch spd unN unH ptn 20 _) rfl rfl rfl rfl (by decide) 0 3 rfl rfl rfl rfl (Nat.le_of_ble_eq_true rfl) rfl rfl ⟨Nat.le_of_ble_eq_true rfl, Nat.le_of_ble_eq_true rfl⟩ ⟨Nat.le_of_ble_eq_true rfl, Nat.le_of_ble_eq_true rfl⟩ dX6_covered_15 (fun x_62 _ H locs h_62 hP hD hS => ?_)
  have hP : va_P D vwCl [(x0, .inr (6, [.ref nw, .ref sp, .ref im, .ref sc, .ref hg, .ref fg, .ref pg, .ref pr, .int 0, .long 0, .long 1, .int 0, .int 0, .int 0])), (nw, .inr (3, [.int 2, .int 0, .ref keys, .ref moms, .ref lens, .ref prts, .ref luds, .ref hnds, .ref lats, .ref knds, .ref rch, .ref spd, .int 0, .int 0, .int 0, .ref unN, .ref unH, .ref ptn]))] H := hP
  have hD : va_D (va_A (w_covered cI cZ cP x0 nw sp im sc hg fg pg pr keys moms lens prts luds hnds lats knds rch spd unN unH ptn) sz) [(x0, .inr (6, [.ref nw, .ref sp, .ref im, .ref sc, .ref hg, .ref fg, .ref pg, .ref pr, .int 0, .long 0, .long 1, .int 0, .int 0, .int 0])), (nw, .inr (3, [.int 2, .int 0, .ref keys, .ref moms, .ref lens, .ref prts, .ref luds, .ref hnds, .ref lats, .ref knds, .ref rch, .ref spd, .int 0, .int 0, .int 0, .ref unN, .ref unH, .ref ptn]))] := hD
  subst h_62
  refine lv_if_eq (tgt := 27) hx hb dX6_covered_18 (by decide) (fun _ => ?_) (fun c_63 => absurd (by decide) c_63)
  refine lv_iinc (v := 21) (lv' := [(3, .int 21), (1, .long ((0 : Int32).toInt64)), (0, .ref x0)]) hx hb dX6_covered_27 hl (k := 0) rfl (by decide) (by decide) rfl (fun ls hl => ?_)
  refine lv_goto (tgt := 4) hx hb dX6_covered_30 (by decide) ?_
  refine lv_iload_n hx hb dX6_covered_4 rfl (lv_at hl 0 rfl) ?_
  refine lv_bipush (v := 64) hx hb dX6_covered_5 (by decide) ?_
  refine lv_icmp_ge (tgt := 33) hx hb dX6_covered_7 (by decide) (fun c_64 => absurd c_64 (by decide)) (fun _ => ?_)
  refine lv_aload_n hx hb dX6_covered_10 rfl (lv_at hl 2 rfl) ?_
  refine va_get (D := D) (ci := 6) (v := .ref nw) (C := RX6) (T := TX6) (N := 14) hx hb ht inX6 hown hK hP 0 rfl rfl 0 (Nat.le_of_ble_eq_true rfl) (ht _ kw_337) (fun _ h9 => h9) rfl dX6_covered_11 ?_
  refine lv_iload_n hx hb dX6_covered_14 rfl (lv_at hl 0 rfl) ?_
  refine q_Vi (wr := [(x0, .inr (6, [.ref nw, .ref sp, .ref im, .ref sc, .ref hg, .ref fg, .ref pg, .ref pr, .int 0, .long 0, .long 1, .int 0, .int 0, .int 0]))]) [1] [0] hX hE hK hP hD hS hA hl.1 lk_X6_230 (c_isCovered l D cI cZ cP sa nw keys moms lens prts luds hnds lats knds rch spd unN unH ptn 21 _) rfl rfl rfl rfl (by decide) 0 3 rfl rfl rfl rfl (Nat.le_of_ble_eq_true rfl) rfl rfl ⟨Nat.le_of_ble_eq_true rfl, Nat.le_of_ble_eq_true rfl⟩ ⟨Nat.le_of_ble_eq_true rfl, Nat.le_of_ble_eq_true rfl⟩ dX6_covered_15 (fun x_65 _ H locs h_65 hP hD hS => ?_)
  have hP : va_P D vwCl [(x0, .inr (6, [.ref nw, .ref sp, .ref im, .ref sc, .ref hg, .ref fg, .ref pg, .ref pr, .int 0, .long 0, .long 1, .int 0, .int 0, .int 0])), (nw, .inr (3, [.int 2, .int 0, .ref keys, .ref moms, .ref lens, .ref prts, .ref luds, .ref hnds, .ref lats, .ref knds, .ref rch, .ref spd, .int 0, .int 0, .int 0, .ref unN, .ref unH, .ref ptn]))] H := hP
  have hD : va_D (va_A (w_covered cI cZ cP x0 nw sp im sc hg fg pg pr keys moms lens prts luds hnds lats knds rch spd unN unH ptn) sz) [(x0, .inr (6, [.ref nw, .ref sp, .ref im, .ref sc, .ref hg, .ref fg, .ref pg, .ref pr, .int 0, .long 0, .long 1, .int 0, .int 0, .int 0])), (nw, .inr (3, [.int 2, .int 0, .ref keys, .ref moms, .ref lens, .ref prts, .ref luds, .ref hnds, .ref lats, .ref knds, .ref rch, .ref spd, .int 0, .int 0, .int 0, .ref unN, .ref unH, .ref ptn]))] := hD
  subst h_65
  refine lv_if_eq (tgt := 27) hx hb dX6_covered_18 (by decide) (fun _ => ?_) (fun c_66 => absurd (by decide) c_66)
  refine lv_iinc (v := 22) (lv' := [(3, .int 22), (1, .long ((0 : Int32).toInt64)), (0, .ref x0)]) hx hb dX6_covered_27 hl (k := 0) rfl (by decide) (by decide) rfl (fun ls hl => ?_)
  refine lv_goto (tgt := 4) hx hb dX6_covered_30 (by decide) ?_
  refine lv_iload_n hx hb dX6_covered_4 rfl (lv_at hl 0 rfl) ?_
  refine lv_bipush (v := 64) hx hb dX6_covered_5 (by decide) ?_
  refine lv_icmp_ge (tgt := 33) hx hb dX6_covered_7 (by decide) (fun c_67 => absurd c_67 (by decide)) (fun _ => ?_)
  refine lv_aload_n hx hb dX6_covered_10 rfl (lv_at hl 2 rfl) ?_
  refine va_get (D := D) (ci := 6) (v := .ref nw) (C := RX6) (T := TX6) (N := 14) hx hb ht inX6 hown hK hP 0 rfl rfl 0 (Nat.le_of_ble_eq_true rfl) (ht _ kw_337) (fun _ h9 => h9) rfl dX6_covered_11 ?_
  refine lv_iload_n hx hb dX6_covered_14 rfl (lv_at hl 0 rfl) ?_
  refine q_Vi (wr := [(x0, .inr (6, [.ref nw, .ref sp, .ref im, .ref sc, .ref hg, .ref fg, .ref pg, .ref pr, .int 0, .long 0, .long 1, .int 0, .int 0, .int 0]))]) [1] [0] hX hE hK hP hD hS hA hl.1 lk_X6_230 (c_isCovered l D cI cZ cP sa nw keys moms lens prts luds hnds lats knds rch spd unN unH ptn 22 _) rfl rfl rfl rfl (by decide) 0 3 rfl rfl rfl rfl (Nat.le_of_ble_eq_true rfl) rfl rfl ⟨Nat.le_of_ble_eq_true rfl, Nat.le_of_ble_eq_true rfl⟩ ⟨Nat.le_of_ble_eq_true rfl, Nat.le_of_ble_eq_true rfl⟩ dX6_covered_15 (fun x_68 _ H locs h_68 hP hD hS => ?_)
  have hP : va_P D vwCl [(x0, .inr (6, [.ref nw, .ref sp, .ref im, .ref sc, .ref hg, .ref fg, .ref pg, .ref pr, .int 0, .long 0, .long 1, .int 0, .int 0, .int 0])), (nw, .inr (3, [.int 2, .int 0, .ref keys, .ref moms, .ref lens, .ref prts, .ref luds, .ref hnds, .ref lats, .ref knds, .ref rch, .ref spd, .int 0, .int 0, .int 0, .ref unN, .ref unH, .ref ptn]))] H := hP
  have hD : va_D (va_A (w_covered cI cZ cP x0 nw sp im sc hg fg pg pr keys moms lens prts luds hnds lats knds rch spd unN unH ptn) sz) [(x0, .inr (6, [.ref nw, .ref sp, .ref im, .ref sc, .ref hg, .ref fg, .ref pg, .ref pr, .int 0, .long 0, .long 1, .int 0, .int 0, .int 0])), (nw, .inr (3, [.int 2, .int 0, .ref keys, .ref moms, .ref lens, .ref prts, .ref luds, .ref hnds, .ref lats, .ref knds, .ref rch, .ref spd, .int 0, .int 0, .int 0, .ref unN, .ref unH, .ref ptn]))] := hD
  subst h_68
  refine lv_if_eq (tgt := 27) hx hb dX6_covered_18 (by decide) (fun _ => ?_) (fun c_69 => absurd (by decide) c_69)
  refine lv_iinc (v := 23) (lv' := [(3, .int 23), (1, .long ((0 : Int32).toInt64)), (0, .ref x0)]) hx hb dX6_covered_27 hl (k := 0) rfl (by decide) (by decide) rfl (fun ls hl => ?_)
  refine lv_goto (tgt := 4) hx hb dX6_covered_30 (by decide) ?_
  refine lv_iload_n hx hb dX6_covered_4 rfl (lv_at hl 0 rfl) ?_
  refine lv_bipush (v := 64) hx hb dX6_covered_5 (by decide) ?_
  refine lv_icmp_ge (tgt := 33) hx hb dX6_covered_7 (by decide) (fun c_70 => absurd c_70 (by decide)) (fun _ => ?_)
  refine lv_aload_n hx hb dX6_covered_10 rfl (lv_at hl 2 rfl) ?_
  refine va_get (D := D) (ci := 6) (v := .ref nw) (C := RX6) (T := TX6) (N := 14) hx hb ht inX6 hown hK hP 0 rfl rfl 0 (Nat.le_of_ble_eq_true rfl) (ht _ kw_337) (fun _ h9 => h9) rfl dX6_covered_11 ?_
  refine lv_iload_n hx hb dX6_covered_14 rfl (lv_at hl 0 rfl) ?_
  refine q_Vi (wr := [(x0, .inr (6, [.ref nw, .ref sp, .ref im, .ref sc, .ref hg, .ref fg, .ref pg, .ref pr, .int 0, .long 0, .long 1, .int 0, .int 0, .int 0]))]) [1] [0] hX hE hK hP hD hS hA hl.1 lk_X6_230 (c_isCovered l D cI cZ cP sa nw keys moms lens prts luds hnds lats knds rch spd unN unH ptn 23 _) rfl rfl rfl rfl (by decide) 0 3 rfl rfl rfl rfl (Nat.le_of_ble_eq_true rfl) rfl rfl ⟨Nat.le_of_ble_eq_true rfl, Nat.le_of_ble_eq_true rfl⟩ ⟨Nat.le_of_ble_eq_true rfl, Nat.le_of_ble_eq_true rfl⟩ dX6_covered_15 (fun x_71 _ H locs h_71 hP hD hS => ?_)
  have hP : va_P D vwCl [(x0, .inr (6, [.ref nw, .ref sp, .ref im, .ref sc, .ref hg, .ref fg, .ref pg, .ref pr, .int 0, .long 0, .long 1, .int 0, .int 0, .int 0])), (nw, .inr (3, [.int 2, .int 0, .ref keys, .ref moms, .ref lens, .ref prts, .ref luds, .ref hnds, .ref lats, .ref knds, .ref rch, .ref spd, .int 0, .int 0, .int 0, .ref unN, .ref unH, .ref ptn]))] H := hP
  have hD : va_D (va_A (w_covered cI cZ cP x0 nw sp im sc hg fg pg pr keys moms lens prts luds hnds lats knds rch spd unN unH ptn) sz) [(x0, .inr (6, [.ref nw, .ref sp, .ref im, .ref sc, .ref hg, .ref fg, .ref pg, .ref pr, .int 0, .long 0, .long 1, .int 0, .int 0, .int 0])), (nw, .inr (3, [.int 2, .int 0, .ref keys, .ref moms, .ref lens, .ref prts, .ref luds, .ref hnds, .ref lats, .ref knds, .ref rch, .ref spd, .int 0, .int 0, .int 0, .ref unN, .ref unH, .ref ptn]))] := hD
  subst h_71
  refine lv_if_eq (tgt := 27) hx hb dX6_covered_18 (by decide) (fun _ => ?_) (fun c_72 => absurd (by decide) c_72)
  refine lv_iinc (v := 24) (lv' := [(3, .int 24), (1, .long ((0 : Int32).toInt64)), (0, .ref x0)]) hx hb dX6_covered_27 hl (k := 0) rfl (by decide) (by decide) rfl (fun ls hl => ?_)
  refine lv_goto (tgt := 4) hx hb dX6_covered_30 (by decide) ?_
  refine lv_iload_n hx hb dX6_covered_4 rfl (lv_at hl 0 rfl) ?_
  refine lv_bipush (v := 64) hx hb dX6_covered_5 (by decide) ?_
  refine lv_icmp_ge (tgt := 33) hx hb dX6_covered_7 (by decide) (fun c_73 => absurd c_73 (by decide)) (fun _ => ?_)
  refine lv_aload_n hx hb dX6_covered_10 rfl (lv_at hl 2 rfl) ?_
  refine va_get (D := D) (ci := 6) (v := .ref nw) (C := RX6) (T := TX6) (N := 14) hx hb ht inX6 hown hK hP 0 rfl rfl 0 (Nat.le_of_ble_eq_true rfl) (ht _ kw_337) (fun _ h9 => h9) rfl dX6_covered_11 ?_
  refine lv_iload_n hx hb dX6_covered_14 rfl (lv_at hl 0 rfl) ?_
  refine q_Vi (wr := [(x0, .inr (6, [.ref nw, .ref sp, .ref im, .ref sc, .ref hg, .ref fg, .ref pg, .ref pr, .int 0, .long 0, .long 1, .int 0, .int 0, .int 0]))]) [1] [0] hX hE hK hP hD hS hA hl.1 lk_X6_230 (c_isCovered l D cI cZ cP sa nw keys moms lens prts luds hnds lats knds rch spd unN unH ptn 24 _) rfl rfl rfl rfl (by decide) 0 3 rfl rfl rfl rfl (Nat.le_of_ble_eq_true rfl) rfl rfl ⟨Nat.le_of_ble_eq_true rfl, Nat.le_of_ble_eq_true rfl⟩ ⟨Nat.le_of_ble_eq_true rfl, Nat.le_of_ble_eq_true rfl⟩ dX6_covered_15 (fun x_74 _ H locs h_74 hP hD hS => ?_)
  have hP : va_P D vwCl [(x0, .inr (6, [.ref nw, .ref sp, .ref im, .ref sc, .ref hg, .ref fg, .ref pg, .ref pr, .int 0, .long 0, .long 1, .int 0, .int 0, .int 0])), (nw, .inr (3, [.int 2, .int 0, .ref keys, .ref moms, .ref lens, .ref prts, .ref luds, .ref hnds, .ref lats, .ref knds, .ref rch, .ref spd, .int 0, .int 0, .int 0, .ref unN, .ref unH, .ref ptn]))] H := hP
  have hD : va_D (va_A (w_covered cI cZ cP x0 nw sp im sc hg fg pg pr keys moms lens prts luds hnds lats knds rch spd unN unH ptn) sz) [(x0, .inr (6, [.ref nw, .ref sp, .ref im, .ref sc, .ref hg, .ref fg, .ref pg, .ref pr, .int 0, .long 0, .long 1, .int 0, .int 0, .int 0])), (nw, .inr (3, [.int 2, .int 0, .ref keys, .ref moms, .ref lens, .ref prts, .ref luds, .ref hnds, .ref lats, .ref knds, .ref rch, .ref spd, .int 0, .int 0, .int 0, .ref unN, .ref unH, .ref ptn]))] := hD
  subst h_74
  refine lv_if_eq (tgt := 27) hx hb dX6_covered_18 (by decide) (fun _ => ?_) (fun c_75 => absurd (by decide) c_75)
  refine lv_iinc (v := 25) (lv' := [(3, .int 25), (1, .long ((0 : Int32).toInt64)), (0, .ref x0)]) hx hb dX6_covered_27 hl (k := 0) rfl (by decide) (by decide) rfl (fun ls hl => ?_)
  refine lv_goto (tgt := 4) hx hb dX6_covered_30 (by decide) ?_
  refine lv_iload_n hx hb dX6_covered_4 rfl (lv_at hl 0 rfl) ?_
  refine lv_bipush (v := 64) hx hb dX6_covered_5 (by decide) ?_
  refine lv_icmp_ge (tgt := 33) hx hb dX6_covered_7 (by decide) (fun c_76 => absurd c_76 (by decide)) (fun _ => ?_)
  refine lv_aload_n hx hb dX6_covered_10 rfl (lv_at hl 2 rfl) ?_
  refine va_get (D := D) (ci := 6) (v := .ref nw) (C := RX6) (T := TX6) (N := 14) hx hb ht inX6 hown hK hP 0 rfl rfl 0 (Nat.le_of_ble_eq_true rfl) (ht _ kw_337) (fun _ h9 => h9) rfl dX6_covered_11 ?_
  refine lv_iload_n hx hb dX6_covered_14 rfl (lv_at hl 0 rfl) ?_
  refine q_Vi (wr := [(x0, .inr (6, [.ref nw, .ref sp, .ref im, .ref sc, .ref hg, .ref fg, .ref pg, .ref pr, .int 0, .long 0, .long 1, .int 0, .int 0, .int 0]))]) [1] [0] hX hE hK hP hD hS hA hl.1 lk_X6_230 (c_isCovered l D cI cZ cP sa nw keys moms lens prts luds hnds lats knds rch spd unN unH ptn 25 _) rfl rfl rfl rfl (by decide) 0 3 rfl rfl rfl rfl (Nat.le_of_ble_eq_true rfl) rfl rfl ⟨Nat.le_of_ble_eq_true rfl, Nat.le_of_ble_eq_true rfl⟩ ⟨Nat.le_of_ble_eq_true rfl, Nat.le_of_ble_eq_true rfl⟩ dX6_covered_15 (fun x_77 _ H locs h_77 hP hD hS => ?_)
  have hP : va_P D vwCl [(x0, .inr (6, [.ref nw, .ref sp, .ref im, .ref sc, .ref hg, .ref fg, .ref pg, .ref pr, .int 0, .long 0, .long 1, .int 0, .int 0, .int 0])), (nw, .inr (3, [.int 2, .int 0, .ref keys, .ref moms, .ref lens, .ref prts, .ref luds, .ref hnds, .ref lats, .ref knds, .ref rch, .ref spd, .int 0, .int 0, .int 0, .ref unN, .ref unH, .ref ptn]))] H := hP
  have hD : va_D (va_A (w_covered cI cZ cP x0 nw sp im sc hg fg pg pr keys moms lens prts luds hnds lats knds rch spd unN unH ptn) sz) [(x0, .inr (6, [.ref nw, .ref sp, .ref im, .ref sc, .ref hg, .ref fg, .ref pg, .ref pr, .int 0, .long 0, .long 1, .int 0, .int 0, .int 0])), (nw, .inr (3, [.int 2, .int 0, .ref keys, .ref moms, .ref lens, .ref prts, .ref luds, .ref hnds, .ref lats, .ref knds, .ref rch, .ref spd, .int 0, .int 0, .int 0, .ref unN, .ref unH, .ref ptn]))] := hD
  subst h_77
  refine lv_if_eq (tgt := 27) hx hb dX6_covered_18 (by decide) (fun _ => ?_) (fun c_78 => absurd (by decide) c_78)
  refine lv_iinc (v := 26) (lv' := [(3, .int 26), (1, .long ((0 : Int32).toInt64)), (0, .ref x0)]) hx hb dX6_covered_27 hl (k := 0) rfl (by decide) (by decide) rfl (fun ls hl => ?_)
  refine lv_goto (tgt := 4) hx hb dX6_covered_30 (by decide) ?_
  refine lv_iload_n hx hb dX6_covered_4 rfl (lv_at hl 0 rfl) ?_
  refine lv_bipush (v := 64) hx hb dX6_covered_5 (by decide) ?_
  refine lv_icmp_ge (tgt := 33) hx hb dX6_covered_7 (by decide) (fun c_79 => absurd c_79 (by decide)) (fun _ => ?_)
  refine lv_aload_n hx hb dX6_covered_10 rfl (lv_at hl 2 rfl) ?_
  refine va_get (D := D) (ci := 6) (v := .ref nw) (C := RX6) (T := TX6) (N := 14) hx hb ht inX6 hown hK hP 0 rfl rfl 0 (Nat.le_of_ble_eq_true rfl) (ht _ kw_337) (fun _ h9 => h9) rfl dX6_covered_11 ?_
  refine lv_iload_n hx hb dX6_covered_14 rfl (lv_at hl 0 rfl) ?_
  refine q_Vi (wr := [(x0, .inr (6, [.ref nw, .ref sp, .ref im, .ref sc, .ref hg, .ref fg, .ref pg, .ref pr, .int 0, .long 0, .long 1, .int 0, .int 0, .int 0]))]) [1] [0] hX hE hK hP hD hS hA hl.1 lk_X6_230 (c_isCovered l D cI cZ cP sa nw keys moms lens prts luds hnds lats knds rch spd unN unH ptn 26 _) rfl rfl rfl rfl (by decide) 0 3 rfl rfl rfl rfl (Nat.le_of_ble_eq_true rfl) rfl rfl ⟨Nat.le_of_ble_eq_true rfl, Nat.le_of_ble_eq_true rfl⟩ ⟨Nat.le_of_ble_eq_true rfl, Nat.le_of_ble_eq_true rfl⟩ dX6_covered_15 (fun x_80 _ H locs h_80 hP hD hS => ?_)
  have hP : va_P D vwCl [(x0, .inr (6, [.ref nw, .ref sp, .ref im, .ref sc, .ref hg, .ref fg, .ref pg, .ref pr, .int 0, .long 0, .long 1, .int 0, .int 0, .int 0])), (nw, .inr (3, [.int 2, .int 0, .ref keys, .ref moms, .ref lens, .ref prts, .ref luds, .ref hnds, .ref lats, .ref knds, .ref rch, .ref spd, .int 0, .int 0, .int 0, .ref unN, .ref unH, .ref ptn]))] H := hP
  have hD : va_D (va_A (w_covered cI cZ cP x0 nw sp im sc hg fg pg pr keys moms lens prts luds hnds lats knds rch spd unN unH ptn) sz) [(x0, .inr (6, [.ref nw, .ref sp, .ref im, .ref sc, .ref hg, .ref fg, .ref pg, .ref pr, .int 0, .long 0, .long 1, .int 0, .int 0, .int 0])), (nw, .inr (3, [.int 2, .int 0, .ref keys, .ref moms, .ref lens, .ref prts, .ref luds, .ref hnds, .ref lats, .ref knds, .ref rch, .ref spd, .int 0, .int 0, .int 0, .ref unN, .ref unH, .ref ptn]))] := hD
  subst h_80
  refine lv_if_eq (tgt := 27) hx hb dX6_covered_18 (by decide) (fun _ => ?_) (fun c_81 => absurd (by decide) c_81)
  refine lv_iinc (v := 27) (lv' := [(3, .int 27), (1, .long ((0 : Int32).toInt64)), (0, .ref x0)]) hx hb dX6_covered_27 hl (k := 0) rfl (by decide) (by decide) rfl (fun ls hl => ?_)
  refine lv_goto (tgt := 4) hx hb dX6_covered_30 (by decide) ?_
  refine lv_iload_n hx hb dX6_covered_4 rfl (lv_at hl 0 rfl) ?_
  refine lv_bipush (v := 64) hx hb dX6_covered_5 (by decide) ?_
  refine lv_icmp_ge (tgt := 33) hx hb dX6_covered_7 (by decide) (fun c_82 => absurd c_82 (by decide)) (fun _ => ?_)
  refine lv_aload_n hx hb dX6_covered_10 rfl (lv_at hl 2 rfl) ?_
  refine va_get (D := D) (ci := 6) (v := .ref nw) (C := RX6) (T := TX6) (N := 14) hx hb ht inX6 hown hK hP 0 rfl rfl 0 (Nat.le_of_ble_eq_true rfl) (ht _ kw_337) (fun _ h9 => h9) rfl dX6_covered_11 ?_
  refine lv_iload_n hx hb dX6_covered_14 rfl (lv_at hl 0 rfl) ?_
  refine q_Vi (wr := [(x0, .inr (6, [.ref nw, .ref sp, .ref im, .ref sc, .ref hg, .ref fg, .ref pg, .ref pr, .int 0, .long 0, .long 1, .int 0, .int 0, .int 0]))]) [1] [0] hX hE hK hP hD hS hA hl.1 lk_X6_230 (c_isCovered l D cI cZ cP sa nw keys moms lens prts luds hnds lats knds rch spd unN unH ptn 27 _) rfl rfl rfl rfl (by decide) 0 3 rfl rfl rfl rfl (Nat.le_of_ble_eq_true rfl) rfl rfl ⟨Nat.le_of_ble_eq_true rfl, Nat.le_of_ble_eq_true rfl⟩ ⟨Nat.le_of_ble_eq_true rfl, Nat.le_of_ble_eq_true rfl⟩ dX6_covered_15 (fun x_83 _ H locs h_83 hP hD hS => ?_)
  have hP : va_P D vwCl [(x0, .inr (6, [.ref nw, .ref sp, .ref im, .ref sc, .ref hg, .ref fg, .ref pg, .ref pr, .int 0, .long 0, .long 1, .int 0, .int 0, .int 0])), (nw, .inr (3, [.int 2, .int 0, .ref keys, .ref moms, .ref lens, .ref prts, .ref luds, .ref hnds, .ref lats, .ref knds, .ref rch, .ref spd, .int 0, .int 0, .int 0, .ref unN, .ref unH, .ref ptn]))] H := hP
  have hD : va_D (va_A (w_covered cI cZ cP x0 nw sp im sc hg fg pg pr keys moms lens prts luds hnds lats knds rch spd unN unH ptn) sz) [(x0, .inr (6, [.ref nw, .ref sp, .ref im, .ref sc, .ref hg, .ref fg, .ref pg, .ref pr, .int 0, .long 0, .long 1, .int 0, .int 0, .int 0])), (nw, .inr (3, [.int 2, .int 0, .ref keys, .ref moms, .ref lens, .ref prts, .ref luds, .ref hnds, .ref lats, .ref knds, .ref rch, .ref spd, .int 0, .int 0, .int 0, .ref unN, .ref unH, .ref ptn]))] := hD
  subst h_83
  refine lv_if_eq (tgt := 27) hx hb dX6_covered_18 (by decide) (fun _ => ?_) (fun c_84 => absurd (by decide) c_84)
  refine lv_iinc (v := 28) (lv' := [(3, .int 28), (1, .long ((0 : Int32).toInt64)), (0, .ref x0)]) hx hb dX6_covered_27 hl (k := 0) rfl (by decide) (by decide) rfl (fun ls hl => ?_)
  refine lv_goto (tgt := 4) hx hb dX6_covered_30 (by decide) ?_
  refine lv_iload_n hx hb dX6_covered_4 rfl (lv_at hl 0 rfl) ?_
  refine lv_bipush (v := 64) hx hb dX6_covered_5 (by decide) ?_
  refine lv_icmp_ge (tgt := 33) hx hb dX6_covered_7 (by decide) (fun c_85 => absurd c_85 (by decide)) (fun _ => ?_)
  refine lv_aload_n hx hb dX6_covered_10 rfl (lv_at hl 2 rfl) ?_
  refine va_get (D := D) (ci := 6) (v := .ref nw) (C := RX6) (T := TX6) (N := 14) hx hb ht inX6 hown hK hP 0 rfl rfl 0 (Nat.le_of_ble_eq_true rfl) (ht _ kw_337) (fun _ h9 => h9) rfl dX6_covered_11 ?_
  refine lv_iload_n hx hb dX6_covered_14 rfl (lv_at hl 0 rfl) ?_
  refine q_Vi (wr := [(x0, .inr (6, [.ref nw, .ref sp, .ref im, .ref sc, .ref hg, .ref fg, .ref pg, .ref pr, .int 0, .long 0, .long 1, .int 0, .int 0, .int 0]))]) [1] [0] hX hE hK hP hD hS hA hl.1 lk_X6_230 (c_isCovered l D cI cZ cP sa nw keys moms lens prts luds hnds lats knds rch spd unN unH ptn 28 _) rfl rfl rfl rfl (by decide) 0 3 rfl rfl rfl rfl (Nat.le_of_ble_eq_true rfl) rfl rfl ⟨Nat.le_of_ble_eq_true rfl, Nat.le_of_ble_eq_true rfl⟩ ⟨Nat.le_of_ble_eq_true rfl, Nat.le_of_ble_eq_true rfl⟩ dX6_covered_15 (fun x_86 _ H locs h_86 hP hD hS => ?_)
  have hP : va_P D vwCl [(x0, .inr (6, [.ref nw, .ref sp, .ref im, .ref sc, .ref hg, .ref fg, .ref pg, .ref pr, .int 0, .long 0, .long 1, .int 0, .int 0, .int 0])), (nw, .inr (3, [.int 2, .int 0, .ref keys, .ref moms, .ref lens, .ref prts, .ref luds, .ref hnds, .ref lats, .ref knds, .ref rch, .ref spd, .int 0, .int 0, .int 0, .ref unN, .ref unH, .ref ptn]))] H := hP
  have hD : va_D (va_A (w_covered cI cZ cP x0 nw sp im sc hg fg pg pr keys moms lens prts luds hnds lats knds rch spd unN unH ptn) sz) [(x0, .inr (6, [.ref nw, .ref sp, .ref im, .ref sc, .ref hg, .ref fg, .ref pg, .ref pr, .int 0, .long 0, .long 1, .int 0, .int 0, .int 0])), (nw, .inr (3, [.int 2, .int 0, .ref keys, .ref moms, .ref lens, .ref prts, .ref luds, .ref hnds, .ref lats, .ref knds, .ref rch, .ref spd, .int 0, .int 0, .int 0, .ref unN, .ref unH, .ref ptn]))] := hD
  subst h_86
  refine lv_if_eq (tgt := 27) hx hb dX6_covered_18 (by decide) (fun _ => ?_) (fun c_87 => absurd (by decide) c_87)
  refine lv_iinc (v := 29) (lv' := [(3, .int 29), (1, .long ((0 : Int32).toInt64)), (0, .ref x0)]) hx hb dX6_covered_27 hl (k := 0) rfl (by decide) (by decide) rfl (fun ls hl => ?_)
  refine lv_goto (tgt := 4) hx hb dX6_covered_30 (by decide) ?_
  refine lv_iload_n hx hb dX6_covered_4 rfl (lv_at hl 0 rfl) ?_
  refine lv_bipush (v := 64) hx hb dX6_covered_5 (by decide) ?_
  refine lv_icmp_ge (tgt := 33) hx hb dX6_covered_7 (by decide) (fun c_88 => absurd c_88 (by decide)) (fun _ => ?_)
  refine lv_aload_n hx hb dX6_covered_10 rfl (lv_at hl 2 rfl) ?_
  refine va_get (D := D) (ci := 6) (v := .ref nw) (C := RX6) (T := TX6) (N := 14) hx hb ht inX6 hown hK hP 0 rfl rfl 0 (Nat.le_of_ble_eq_true rfl) (ht _ kw_337) (fun _ h9 => h9) rfl dX6_covered_11 ?_
  refine lv_iload_n hx hb dX6_covered_14 rfl (lv_at hl 0 rfl) ?_
  refine q_Vi (wr := [(x0, .inr (6, [.ref nw, .ref sp, .ref im, .ref sc, .ref hg, .ref fg, .ref pg, .ref pr, .int 0, .long 0, .long 1, .int 0, .int 0, .int 0]))]) [1] [0] hX hE hK hP hD hS hA hl.1 lk_X6_230 (c_isCovered l D cI cZ cP sa nw keys moms lens prts luds hnds lats knds rch spd unN unH ptn 29 _) rfl rfl rfl rfl (by decide) 0 3 rfl rfl rfl rfl (Nat.le_of_ble_eq_true rfl) rfl rfl ⟨Nat.le_of_ble_eq_true rfl, Nat.le_of_ble_eq_true rfl⟩ ⟨Nat.le_of_ble_eq_true rfl, Nat.le_of_ble_eq_true rfl⟩ dX6_covered_15 (fun x_89 _ H locs h_89 hP hD hS => ?_)
  have hP : va_P D vwCl [(x0, .inr (6, [.ref nw, .ref sp, .ref im, .ref sc, .ref hg, .ref fg, .ref pg, .ref pr, .int 0, .long 0, .long 1, .int 0, .int 0, .int 0])), (nw, .inr (3, [.int 2, .int 0, .ref keys, .ref moms, .ref lens, .ref prts, .ref luds, .ref hnds, .ref lats, .ref knds, .ref rch, .ref spd, .int 0, .int 0, .int 0, .ref unN, .ref unH, .ref ptn]))] H := hP
  have hD : va_D (va_A (w_covered cI cZ cP x0 nw sp im sc hg fg pg pr keys moms lens prts luds hnds lats knds rch spd unN unH ptn) sz) [(x0, .inr (6, [.ref nw, .ref sp, .ref im, .ref sc, .ref hg, .ref fg, .ref pg, .ref pr, .int 0, .long 0, .long 1, .int 0, .int 0, .int 0])), (nw, .inr (3, [.int 2, .int 0, .ref keys, .ref moms, .ref lens, .ref prts, .ref luds, .ref hnds, .ref lats, .ref knds, .ref rch, .ref spd, .int 0, .int 0, .int 0, .ref unN, .ref unH, .ref ptn]))] := hD
  subst h_89
  refine lv_if_eq (tgt := 27) hx hb dX6_covered_18 (by decide) (fun _ => ?_) (fun c_90 => absurd (by decide) c_90)
  refine lv_iinc (v := 30) (lv' := [(3, .int 30), (1, .long ((0 : Int32).toInt64)), (0, .ref x0)]) hx hb dX6_covered_27 hl (k := 0) rfl (by decide) (by decide) rfl (fun ls hl => ?_)
  refine lv_goto (tgt := 4) hx hb dX6_covered_30 (by decide) ?_
  refine lv_iload_n hx hb dX6_covered_4 rfl (lv_at hl 0 rfl) ?_
  refine lv_bipush (v := 64) hx hb dX6_covered_5 (by decide) ?_
  refine lv_icmp_ge (tgt := 33) hx hb dX6_covered_7 (by decide) (fun c_91 => absurd c_91 (by decide)) (fun _ => ?_)
  refine lv_aload_n hx hb dX6_covered_10 rfl (lv_at hl 2 rfl) ?_
  refine va_get (D := D) (ci := 6) (v := .ref nw) (C := RX6) (T := TX6) (N := 14) hx hb ht inX6 hown hK hP 0 rfl rfl 0 (Nat.le_of_ble_eq_true rfl) (ht _ kw_337) (fun _ h9 => h9) rfl dX6_covered_11 ?_
  refine lv_iload_n hx hb dX6_covered_14 rfl (lv_at hl 0 rfl) ?_
  refine q_Vi (wr := [(x0, .inr (6, [.ref nw, .ref sp, .ref im, .ref sc, .ref hg, .ref fg, .ref pg, .ref pr, .int 0, .long 0, .long 1, .int 0, .int 0, .int 0]))]) [1] [0] hX hE hK hP hD hS hA hl.1 lk_X6_230 (c_isCovered l D cI cZ cP sa nw keys moms lens prts luds hnds lats knds rch spd unN unH ptn 30 _) rfl rfl rfl rfl (by decide) 0 3 rfl rfl rfl rfl (Nat.le_of_ble_eq_true rfl) rfl rfl ⟨Nat.le_of_ble_eq_true rfl, Nat.le_of_ble_eq_true rfl⟩ ⟨Nat.le_of_ble_eq_true rfl, Nat.le_of_ble_eq_true rfl⟩ dX6_covered_15 (fun x_92 _ H locs h_92 hP hD hS => ?_)
  have hP : va_P D vwCl [(x0, .inr (6, [.ref nw, .ref sp, .ref im, .ref sc, .ref hg, .ref fg, .ref pg, .ref pr, .int 0, .long 0, .long 1, .int 0, .int 0, .int 0])), (nw, .inr (3, [.int 2, .int 0, .ref keys, .ref moms, .ref lens, .ref prts, .ref luds, .ref hnds, .ref lats, .ref knds, .ref rch, .ref spd, .int 0, .int 0, .int 0, .ref unN, .ref unH, .ref ptn]))] H := hP
  have hD : va_D (va_A (w_covered cI cZ cP x0 nw sp im sc hg fg pg pr keys moms lens prts luds hnds lats knds rch spd unN unH ptn) sz) [(x0, .inr (6, [.ref nw, .ref sp, .ref im, .ref sc, .ref hg, .ref fg, .ref pg, .ref pr, .int 0, .long 0, .long 1, .int 0, .int 0, .int 0])), (nw, .inr (3, [.int 2, .int 0, .ref keys, .ref moms, .ref lens, .ref prts, .ref luds, .ref hnds, .ref lats, .ref knds, .ref rch, .ref spd, .int 0, .int 0, .int 0, .ref unN, .ref unH, .ref ptn]))] := hD
  subst h_92
  refine lv_if_eq (tgt := 27) hx hb dX6_covered_18 (by decide) (fun _ => ?_) (fun c_93 => absurd (by decide) c_93)
  refine lv_iinc (v := 31) (lv' := [(3, .int 31), (1, .long ((0 : Int32).toInt64)), (0, .ref x0)]) hx hb dX6_covered_27 hl (k := 0) rfl (by decide) (by decide) rfl (fun ls hl => ?_)
  refine lv_goto (tgt := 4) hx hb dX6_covered_30 (by decide) ?_
  refine lv_iload_n hx hb dX6_covered_4 rfl (lv_at hl 0 rfl) ?_
  refine lv_bipush (v := 64) hx hb dX6_covered_5 (by decide) ?_
  refine lv_icmp_ge (tgt := 33) hx hb dX6_covered_7 (by decide) (fun c_94 => absurd c_94 (by decide)) (fun _ => ?_)
  refine lv_aload_n hx hb dX6_covered_10 rfl (lv_at hl 2 rfl) ?_
  refine va_get (D := D) (ci := 6) (v := .ref nw) (C := RX6) (T := TX6) (N := 14) hx hb ht inX6 hown hK hP 0 rfl rfl 0 (Nat.le_of_ble_eq_true rfl) (ht _ kw_337) (fun _ h9 => h9) rfl dX6_covered_11 ?_
  refine lv_iload_n hx hb dX6_covered_14 rfl (lv_at hl 0 rfl) ?_
  refine q_Vi (wr := [(x0, .inr (6, [.ref nw, .ref sp, .ref im, .ref sc, .ref hg, .ref fg, .ref pg, .ref pr, .int 0, .long 0, .long 1, .int 0, .int 0, .int 0]))]) [1] [0] hX hE hK hP hD hS hA hl.1 lk_X6_230 (c_isCovered l D cI cZ cP sa nw keys moms lens prts luds hnds lats knds rch spd unN unH ptn 31 _) rfl rfl rfl rfl (by decide) 0 3 rfl rfl rfl rfl (Nat.le_of_ble_eq_true rfl) rfl rfl ⟨Nat.le_of_ble_eq_true rfl, Nat.le_of_ble_eq_true rfl⟩ ⟨Nat.le_of_ble_eq_true rfl, Nat.le_of_ble_eq_true rfl⟩ dX6_covered_15 (fun x_95 _ H locs h_95 hP hD hS => ?_)
  have hP : va_P D vwCl [(x0, .inr (6, [.ref nw, .ref sp, .ref im, .ref sc, .ref hg, .ref fg, .ref pg, .ref pr, .int 0, .long 0, .long 1, .int 0, .int 0, .int 0])), (nw, .inr (3, [.int 2, .int 0, .ref keys, .ref moms, .ref lens, .ref prts, .ref luds, .ref hnds, .ref lats, .ref knds, .ref rch, .ref spd, .int 0, .int 0, .int 0, .ref unN, .ref unH, .ref ptn]))] H := hP
  have hD : va_D (va_A (w_covered cI cZ cP x0 nw sp im sc hg fg pg pr keys moms lens prts luds hnds lats knds rch spd unN unH ptn) sz) [(x0, .inr (6, [.ref nw, .ref sp, .ref im, .ref sc, .ref hg, .ref fg, .ref pg, .ref pr, .int 0, .long 0, .long 1, .int 0, .int 0, .int 0])), (nw, .inr (3, [.int 2, .int 0, .ref keys, .ref moms, .ref lens, .ref prts, .ref luds, .ref hnds, .ref lats, .ref knds, .ref rch, .ref spd, .int 0, .int 0, .int 0, .ref unN, .ref unH, .ref ptn]))] := hD
  subst h_95
  refine lv_if_eq (tgt := 27) hx hb dX6_covered_18 (by decide) (fun _ => ?_) (fun c_96 => absurd (by decide) c_96)
  refine lv_iinc (v := 32) (lv' := [(3, .int 32), (1, .long ((0 : Int32).toInt64)), (0, .ref x0)]) hx hb dX6_covered_27 hl (k := 0) rfl (by decide) (by decide) rfl (fun ls hl => ?_)
  refine lv_goto (tgt := 4) hx hb dX6_covered_30 (by decide) ?_
  refine lv_iload_n hx hb dX6_covered_4 rfl (lv_at hl 0 rfl) ?_
  refine lv_bipush (v := 64) hx hb dX6_covered_5 (by decide) ?_
  refine lv_icmp_ge (tgt := 33) hx hb dX6_covered_7 (by decide) (fun c_97 => absurd c_97 (by decide)) (fun _ => ?_)
  refine lv_aload_n hx hb dX6_covered_10 rfl (lv_at hl 2 rfl) ?_
  refine va_get (D := D) (ci := 6) (v := .ref nw) (C := RX6) (T := TX6) (N := 14) hx hb ht inX6 hown hK hP 0 rfl rfl 0 (Nat.le_of_ble_eq_true rfl) (ht _ kw_337) (fun _ h9 => h9) rfl dX6_covered_11 ?_
  refine lv_iload_n hx hb dX6_covered_14 rfl (lv_at hl 0 rfl) ?_
  refine q_Vi (wr := [(x0, .inr (6, [.ref nw, .ref sp, .ref im, .ref sc, .ref hg, .ref fg, .ref pg, .ref pr, .int 0, .long 0, .long 1, .int 0, .int 0, .int 0]))]) [1] [0] hX hE hK hP hD hS hA hl.1 lk_X6_230 (c_isCovered l D cI cZ cP sa nw keys moms lens prts luds hnds lats knds rch spd unN unH ptn 32 _) rfl rfl rfl rfl (by decide) 0 3 rfl rfl rfl rfl (Nat.le_of_ble_eq_true rfl) rfl rfl ⟨Nat.le_of_ble_eq_true rfl, Nat.le_of_ble_eq_true rfl⟩ ⟨Nat.le_of_ble_eq_true rfl, Nat.le_of_ble_eq_true rfl⟩ dX6_covered_15 (fun x_98 _ H locs h_98 hP hD hS => ?_)
  have hP : va_P D vwCl [(x0, .inr (6, [.ref nw, .ref sp, .ref im, .ref sc, .ref hg, .ref fg, .ref pg, .ref pr, .int 0, .long 0, .long 1, .int 0, .int 0, .int 0])), (nw, .inr (3, [.int 2, .int 0, .ref keys, .ref moms, .ref lens, .ref prts, .ref luds, .ref hnds, .ref lats, .ref knds, .ref rch, .ref spd, .int 0, .int 0, .int 0, .ref unN, .ref unH, .ref ptn]))] H := hP
  have hD : va_D (va_A (w_covered cI cZ cP x0 nw sp im sc hg fg pg pr keys moms lens prts luds hnds lats knds rch spd unN unH ptn) sz) [(x0, .inr (6, [.ref nw, .ref sp, .ref im, .ref sc, .ref hg, .ref fg, .ref pg, .ref pr, .int 0, .long 0, .long 1, .int 0, .int 0, .int 0])), (nw, .inr (3, [.int 2, .int 0, .ref keys, .ref moms, .ref lens, .ref prts, .ref luds, .ref hnds, .ref lats, .ref knds, .ref rch, .ref spd, .int 0, .int 0, .int 0, .ref unN, .ref unH, .ref ptn]))] := hD
  subst h_98
  refine lv_if_eq (tgt := 27) hx hb dX6_covered_18 (by decide) (fun _ => ?_) (fun c_99 => absurd (by decide) c_99)
  refine lv_iinc (v := 33) (lv' := [(3, .int 33), (1, .long ((0 : Int32).toInt64)), (0, .ref x0)]) hx hb dX6_covered_27 hl (k := 0) rfl (by decide) (by decide) rfl (fun ls hl => ?_)
  refine lv_goto (tgt := 4) hx hb dX6_covered_30 (by decide) ?_
  refine lv_iload_n hx hb dX6_covered_4 rfl (lv_at hl 0 rfl) ?_
  refine lv_bipush (v := 64) hx hb dX6_covered_5 (by decide) ?_
  refine lv_icmp_ge (tgt := 33) hx hb dX6_covered_7 (by decide) (fun c_100 => absurd c_100 (by decide)) (fun _ => ?_)
  refine lv_aload_n hx hb dX6_covered_10 rfl (lv_at hl 2 rfl) ?_
  refine va_get (D := D) (ci := 6) (v := .ref nw) (C := RX6) (T := TX6) (N := 14) hx hb ht inX6 hown hK hP 0 rfl rfl 0 (Nat.le_of_ble_eq_true rfl) (ht _ kw_337) (fun _ h9 => h9) rfl dX6_covered_11 ?_
  refine lv_iload_n hx hb dX6_covered_14 rfl (lv_at hl 0 rfl) ?_
  refine q_Vi (wr := [(x0, .inr (6, [.ref nw, .ref sp, .ref im, .ref sc, .ref hg, .ref fg, .ref pg, .ref pr, .int 0, .long 0, .long 1, .int 0, .int 0, .int 0]))]) [1] [0] hX hE hK hP hD hS hA hl.1 lk_X6_230 (c_isCovered l D cI cZ cP sa nw keys moms lens prts luds hnds lats knds rch spd unN unH ptn 33 _) rfl rfl rfl rfl (by decide) 0 3 rfl rfl rfl rfl (Nat.le_of_ble_eq_true rfl) rfl rfl ⟨Nat.le_of_ble_eq_true rfl, Nat.le_of_ble_eq_true rfl⟩ ⟨Nat.le_of_ble_eq_true rfl, Nat.le_of_ble_eq_true rfl⟩ dX6_covered_15 (fun x_101 _ H locs h_101 hP hD hS => ?_)
  have hP : va_P D vwCl [(x0, .inr (6, [.ref nw, .ref sp, .ref im, .ref sc, .ref hg, .ref fg, .ref pg, .ref pr, .int 0, .long 0, .long 1, .int 0, .int 0, .int 0])), (nw, .inr (3, [.int 2, .int 0, .ref keys, .ref moms, .ref lens, .ref prts, .ref luds, .ref hnds, .ref lats, .ref knds, .ref rch, .ref spd, .int 0, .int 0, .int 0, .ref unN, .ref unH, .ref ptn]))] H := hP
  have hD : va_D (va_A (w_covered cI cZ cP x0 nw sp im sc hg fg pg pr keys moms lens prts luds hnds lats knds rch spd unN unH ptn) sz) [(x0, .inr (6, [.ref nw, .ref sp, .ref im, .ref sc, .ref hg, .ref fg, .ref pg, .ref pr, .int 0, .long 0, .long 1, .int 0, .int 0, .int 0])), (nw, .inr (3, [.int 2, .int 0, .ref keys, .ref moms, .ref lens, .ref prts, .ref luds, .ref hnds, .ref lats, .ref knds, .ref rch, .ref spd, .int 0, .int 0, .int 0, .ref unN, .ref unH, .ref ptn]))] := hD
  subst h_101
  refine lv_if_eq (tgt := 27) hx hb dX6_covered_18 (by decide) (fun _ => ?_) (fun c_102 => absurd (by decide) c_102)
  refine lv_iinc (v := 34) (lv' := [(3, .int 34), (1, .long ((0 : Int32).toInt64)), (0, .ref x0)]) hx hb dX6_covered_27 hl (k := 0) rfl (by decide) (by decide) rfl (fun ls hl => ?_)
  refine lv_goto (tgt := 4) hx hb dX6_covered_30 (by decide) ?_
  refine lv_iload_n hx hb dX6_covered_4 rfl (lv_at hl 0 rfl) ?_
  refine lv_bipush (v := 64) hx hb dX6_covered_5 (by decide) ?_
  refine lv_icmp_ge (tgt := 33) hx hb dX6_covered_7 (by decide) (fun c_103 => absurd c_103 (by decide)) (fun _ => ?_)
  refine lv_aload_n hx hb dX6_covered_10 rfl (lv_at hl 2 rfl) ?_
  refine va_get (D := D) (ci := 6) (v := .ref nw) (C := RX6) (T := TX6) (N := 14) hx hb ht inX6 hown hK hP 0 rfl rfl 0 (Nat.le_of_ble_eq_true rfl) (ht _ kw_337) (fun _ h9 => h9) rfl dX6_covered_11 ?_
  refine lv_iload_n hx hb dX6_covered_14 rfl (lv_at hl 0 rfl) ?_
  refine q_Vi (wr := [(x0, .inr (6, [.ref nw, .ref sp, .ref im, .ref sc, .ref hg, .ref fg, .ref pg, .ref pr, .int 0, .long 0, .long 1, .int 0, .int 0, .int 0]))]) [1] [0] hX hE hK hP hD hS hA hl.1 lk_X6_230 (c_isCovered l D cI cZ cP sa nw keys moms lens prts luds hnds lats knds rch spd unN unH ptn 34 _) rfl rfl rfl rfl (by decide) 0 3 rfl rfl rfl rfl (Nat.le_of_ble_eq_true rfl) rfl rfl ⟨Nat.le_of_ble_eq_true rfl, Nat.le_of_ble_eq_true rfl⟩ ⟨Nat.le_of_ble_eq_true rfl, Nat.le_of_ble_eq_true rfl⟩ dX6_covered_15 (fun x_104 _ H locs h_104 hP hD hS => ?_)
  have hP : va_P D vwCl [(x0, .inr (6, [.ref nw, .ref sp, .ref im, .ref sc, .ref hg, .ref fg, .ref pg, .ref pr, .int 0, .long 0, .long 1, .int 0, .int 0, .int 0])), (nw, .inr (3, [.int 2, .int 0, .ref keys, .ref moms, .ref lens, .ref prts, .ref luds, .ref hnds, .ref lats, .ref knds, .ref rch, .ref spd, .int 0, .int 0, .int 0, .ref unN, .ref unH, .ref ptn]))] H := hP
  have hD : va_D (va_A (w_covered cI cZ cP x0 nw sp im sc hg fg pg pr keys moms lens prts luds hnds lats knds rch spd unN unH ptn) sz) [(x0, .inr (6, [.ref nw, .ref sp, .ref im, .ref sc, .ref hg, .ref fg, .ref pg, .ref pr, .int 0, .long 0, .long 1, .int 0, .int 0, .int 0])), (nw, .inr (3, [.int 2, .int 0, .ref keys, .ref moms, .ref lens, .ref prts, .ref luds, .ref hnds, .ref lats, .ref knds, .ref rch, .ref spd, .int 0, .int 0, .int 0, .ref unN, .ref unH, .ref ptn]))] := hD
  subst h_104
  refine lv_if_eq (tgt := 27) hx hb dX6_covered_18 (by decide) (fun _ => ?_) (fun c_105 => absurd (by decide) c_105)
  refine lv_iinc (v := 35) (lv' := [(3, .int 35), (1, .long ((0 : Int32).toInt64)), (0, .ref x0)]) hx hb dX6_covered_27 hl (k := 0) rfl (by decide) (by decide) rfl (fun ls hl => ?_)
  refine lv_goto (tgt := 4) hx hb dX6_covered_30 (by decide) ?_
  refine lv_iload_n hx hb dX6_covered_4 rfl (lv_at hl 0 rfl) ?_
  refine lv_bipush (v := 64) hx hb dX6_covered_5 (by decide) ?_
  refine lv_icmp_ge (tgt := 33) hx hb dX6_covered_7 (by decide) (fun c_106 => absurd c_106 (by decide)) (fun _ => ?_)
  refine lv_aload_n hx hb dX6_covered_10 rfl (lv_at hl 2 rfl) ?_
  refine va_get (D := D) (ci := 6) (v := .ref nw) (C := RX6) (T := TX6) (N := 14) hx hb ht inX6 hown hK hP 0 rfl rfl 0 (Nat.le_of_ble_eq_true rfl) (ht _ kw_337) (fun _ h9 => h9) rfl dX6_covered_11 ?_
  refine lv_iload_n hx hb dX6_covered_14 rfl (lv_at hl 0 rfl) ?_
  refine q_Vi (wr := [(x0, .inr (6, [.ref nw, .ref sp, .ref im, .ref sc, .ref hg, .ref fg, .ref pg, .ref pr, .int 0, .long 0, .long 1, .int 0, .int 0, .int 0]))]) [1] [0] hX hE hK hP hD hS hA hl.1 lk_X6_230 (c_isCovered l D cI cZ cP sa nw keys moms lens prts luds hnds lats knds rch spd unN unH ptn 35 _) rfl rfl rfl rfl (by decide) 0 3 rfl rfl rfl rfl (Nat.le_of_ble_eq_true rfl) rfl rfl ⟨Nat.le_of_ble_eq_true rfl, Nat.le_of_ble_eq_true rfl⟩ ⟨Nat.le_of_ble_eq_true rfl, Nat.le_of_ble_eq_true rfl⟩ dX6_covered_15 (fun x_107 _ H locs h_107 hP hD hS => ?_)
  have hP : va_P D vwCl [(x0, .inr (6, [.ref nw, .ref sp, .ref im, .ref sc, .ref hg, .ref fg, .ref pg, .ref pr, .int 0, .long 0, .long 1, .int 0, .int 0, .int 0])), (nw, .inr (3, [.int 2, .int 0, .ref keys, .ref moms, .ref lens, .ref prts, .ref luds, .ref hnds, .ref lats, .ref knds, .ref rch, .ref spd, .int 0, .int 0, .int 0, .ref unN, .ref unH, .ref ptn]))] H := hP
  have hD : va_D (va_A (w_covered cI cZ cP x0 nw sp im sc hg fg pg pr keys moms lens prts luds hnds lats knds rch spd unN unH ptn) sz) [(x0, .inr (6, [.ref nw, .ref sp, .ref im, .ref sc, .ref hg, .ref fg, .ref pg, .ref pr, .int 0, .long 0, .long 1, .int 0, .int 0, .int 0])), (nw, .inr (3, [.int 2, .int 0, .ref keys, .ref moms, .ref lens, .ref prts, .ref luds, .ref hnds, .ref lats, .ref knds, .ref rch, .ref spd, .int 0, .int 0, .int 0, .ref unN, .ref unH, .ref ptn]))] := hD
  subst h_107
  refine lv_if_eq (tgt := 27) hx hb dX6_covered_18 (by decide) (fun _ => ?_) (fun c_108 => absurd (by decide) c_108)
  refine lv_iinc (v := 36) (lv' := [(3, .int 36), (1, .long ((0 : Int32).toInt64)), (0, .ref x0)]) hx hb dX6_covered_27 hl (k := 0) rfl (by decide) (by decide) rfl (fun ls hl => ?_)
  refine lv_goto (tgt := 4) hx hb dX6_covered_30 (by decide) ?_
  refine lv_iload_n hx hb dX6_covered_4 rfl (lv_at hl 0 rfl) ?_
  refine lv_bipush (v := 64) hx hb dX6_covered_5 (by decide) ?_
  refine lv_icmp_ge (tgt := 33) hx hb dX6_covered_7 (by decide) (fun c_109 => absurd c_109 (by decide)) (fun _ => ?_)
  refine lv_aload_n hx hb dX6_covered_10 rfl (lv_at hl 2 rfl) ?_
  refine va_get (D := D) (ci := 6) (v := .ref nw) (C := RX6) (T := TX6) (N := 14) hx hb ht inX6 hown hK hP 0 rfl rfl 0 (Nat.le_of_ble_eq_true rfl) (ht _ kw_337) (fun _ h9 => h9) rfl dX6_covered_11 ?_
  refine lv_iload_n hx hb dX6_covered_14 rfl (lv_at hl 0 rfl) ?_
  refine q_Vi (wr := [(x0, .inr (6, [.ref nw, .ref sp, .ref im, .ref sc, .ref hg, .ref fg, .ref pg, .ref pr, .int 0, .long 0, .long 1, .int 0, .int 0, .int 0]))]) [1] [0] hX hE hK hP hD hS hA hl.1 lk_X6_230 (c_isCovered l D cI cZ cP sa nw keys moms lens prts luds hnds lats knds rch spd unN unH ptn 36 _) rfl rfl rfl rfl (by decide) 0 3 rfl rfl rfl rfl (Nat.le_of_ble_eq_true rfl) rfl rfl ⟨Nat.le_of_ble_eq_true rfl, Nat.le_of_ble_eq_true rfl⟩ ⟨Nat.le_of_ble_eq_true rfl, Nat.le_of_ble_eq_true rfl⟩ dX6_covered_15 (fun x_110 _ H locs h_110 hP hD hS => ?_)
  have hP : va_P D vwCl [(x0, .inr (6, [.ref nw, .ref sp, .ref im, .ref sc, .ref hg, .ref fg, .ref pg, .ref pr, .int 0, .long 0, .long 1, .int 0, .int 0, .int 0])), (nw, .inr (3, [.int 2, .int 0, .ref keys, .ref moms, .ref lens, .ref prts, .ref luds, .ref hnds, .ref lats, .ref knds, .ref rch, .ref spd, .int 0, .int 0, .int 0, .ref unN, .ref unH, .ref ptn]))] H := hP
  have hD : va_D (va_A (w_covered cI cZ cP x0 nw sp im sc hg fg pg pr keys moms lens prts luds hnds lats knds rch spd unN unH ptn) sz) [(x0, .inr (6, [.ref nw, .ref sp, .ref im, .ref sc, .ref hg, .ref fg, .ref pg, .ref pr, .int 0, .long 0, .long 1, .int 0, .int 0, .int 0])), (nw, .inr (3, [.int 2, .int 0, .ref keys, .ref moms, .ref lens, .ref prts, .ref luds, .ref hnds, .ref lats, .ref knds, .ref rch, .ref spd, .int 0, .int 0, .int 0, .ref unN, .ref unH, .ref ptn]))] := hD
  subst h_110
  refine lv_if_eq (tgt := 27) hx hb dX6_covered_18 (by decide) (fun _ => ?_) (fun c_111 => absurd (by decide) c_111)
  refine lv_iinc (v := 37) (lv' := [(3, .int 37), (1, .long ((0 : Int32).toInt64)), (0, .ref x0)]) hx hb dX6_covered_27 hl (k := 0) rfl (by decide) (by decide) rfl (fun ls hl => ?_)
  refine lv_goto (tgt := 4) hx hb dX6_covered_30 (by decide) ?_
  refine lv_iload_n hx hb dX6_covered_4 rfl (lv_at hl 0 rfl) ?_
  refine lv_bipush (v := 64) hx hb dX6_covered_5 (by decide) ?_
  refine lv_icmp_ge (tgt := 33) hx hb dX6_covered_7 (by decide) (fun c_112 => absurd c_112 (by decide)) (fun _ => ?_)
  refine lv_aload_n hx hb dX6_covered_10 rfl (lv_at hl 2 rfl) ?_
  refine va_get (D := D) (ci := 6) (v := .ref nw) (C := RX6) (T := TX6) (N := 14) hx hb ht inX6 hown hK hP 0 rfl rfl 0 (Nat.le_of_ble_eq_true rfl) (ht _ kw_337) (fun _ h9 => h9) rfl dX6_covered_11 ?_
  refine lv_iload_n hx hb dX6_covered_14 rfl (lv_at hl 0 rfl) ?_
  refine q_Vi (wr := [(x0, .inr (6, [.ref nw, .ref sp, .ref im, .ref sc, .ref hg, .ref fg, .ref pg, .ref pr, .int 0, .long 0, .long 1, .int 0, .int 0, .int 0]))]) [1] [0] hX hE hK hP hD hS hA hl.1 lk_X6_230 (c_isCovered l D cI cZ cP sa nw keys moms lens prts luds hnds lats knds rch spd unN unH ptn 37 _) rfl rfl rfl rfl (by decide) 0 3 rfl rfl rfl rfl (Nat.le_of_ble_eq_true rfl) rfl rfl ⟨Nat.le_of_ble_eq_true rfl, Nat.le_of_ble_eq_true rfl⟩ ⟨Nat.le_of_ble_eq_true rfl, Nat.le_of_ble_eq_true rfl⟩ dX6_covered_15 (fun x_113 _ H locs h_113 hP hD hS => ?_)
  have hP : va_P D vwCl [(x0, .inr (6, [.ref nw, .ref sp, .ref im, .ref sc, .ref hg, .ref fg, .ref pg, .ref pr, .int 0, .long 0, .long 1, .int 0, .int 0, .int 0])), (nw, .inr (3, [.int 2, .int 0, .ref keys, .ref moms, .ref lens, .ref prts, .ref luds, .ref hnds, .ref lats, .ref knds, .ref rch, .ref spd, .int 0, .int 0, .int 0, .ref unN, .ref unH, .ref ptn]))] H := hP
  have hD : va_D (va_A (w_covered cI cZ cP x0 nw sp im sc hg fg pg pr keys moms lens prts luds hnds lats knds rch spd unN unH ptn) sz) [(x0, .inr (6, [.ref nw, .ref sp, .ref im, .ref sc, .ref hg, .ref fg, .ref pg, .ref pr, .int 0, .long 0, .long 1, .int 0, .int 0, .int 0])), (nw, .inr (3, [.int 2, .int 0, .ref keys, .ref moms, .ref lens, .ref prts, .ref luds, .ref hnds, .ref lats, .ref knds, .ref rch, .ref spd, .int 0, .int 0, .int 0, .ref unN, .ref unH, .ref ptn]))] := hD
  subst h_113
  refine lv_if_eq (tgt := 27) hx hb dX6_covered_18 (by decide) (fun _ => ?_) (fun c_114 => absurd (by decide) c_114)
  refine lv_iinc (v := 38) (lv' := [(3, .int 38), (1, .long ((0 : Int32).toInt64)), (0, .ref x0)]) hx hb dX6_covered_27 hl (k := 0) rfl (by decide) (by decide) rfl (fun ls hl => ?_)
  refine lv_goto (tgt := 4) hx hb dX6_covered_30 (by decide) ?_
  refine lv_iload_n hx hb dX6_covered_4 rfl (lv_at hl 0 rfl) ?_
  refine lv_bipush (v := 64) hx hb dX6_covered_5 (by decide) ?_
  refine lv_icmp_ge (tgt := 33) hx hb dX6_covered_7 (by decide) (fun c_115 => absurd c_115 (by decide)) (fun _ => ?_)
  refine lv_aload_n hx hb dX6_covered_10 rfl (lv_at hl 2 rfl) ?_
  refine va_get (D := D) (ci := 6) (v := .ref nw) (C := RX6) (T := TX6) (N := 14) hx hb ht inX6 hown hK hP 0 rfl rfl 0 (Nat.le_of_ble_eq_true rfl) (ht _ kw_337) (fun _ h9 => h9) rfl dX6_covered_11 ?_
  refine lv_iload_n hx hb dX6_covered_14 rfl (lv_at hl 0 rfl) ?_
  refine q_Vi (wr := [(x0, .inr (6, [.ref nw, .ref sp, .ref im, .ref sc, .ref hg, .ref fg, .ref pg, .ref pr, .int 0, .long 0, .long 1, .int 0, .int 0, .int 0]))]) [1] [0] hX hE hK hP hD hS hA hl.1 lk_X6_230 (c_isCovered l D cI cZ cP sa nw keys moms lens prts luds hnds lats knds rch spd unN unH ptn 38 _) rfl rfl rfl rfl (by decide) 0 3 rfl rfl rfl rfl (Nat.le_of_ble_eq_true rfl) rfl rfl ⟨Nat.le_of_ble_eq_true rfl, Nat.le_of_ble_eq_true rfl⟩ ⟨Nat.le_of_ble_eq_true rfl, Nat.le_of_ble_eq_true rfl⟩ dX6_covered_15 (fun x_116 _ H locs h_116 hP hD hS => ?_)
  have hP : va_P D vwCl [(x0, .inr (6, [.ref nw, .ref sp, .ref im, .ref sc, .ref hg, .ref fg, .ref pg, .ref pr, .int 0, .long 0, .long 1, .int 0, .int 0, .int 0])), (nw, .inr (3, [.int 2, .int 0, .ref keys, .ref moms, .ref lens, .ref prts, .ref luds, .ref hnds, .ref lats, .ref knds, .ref rch, .ref spd, .int 0, .int 0, .int 0, .ref unN, .ref unH, .ref ptn]))] H := hP
  have hD : va_D (va_A (w_covered cI cZ cP x0 nw sp im sc hg fg pg pr keys moms lens prts luds hnds lats knds rch spd unN unH ptn) sz) [(x0, .inr (6, [.ref nw, .ref sp, .ref im, .ref sc, .ref hg, .ref fg, .ref pg, .ref pr, .int 0, .long 0, .long 1, .int 0, .int 0, .int 0])), (nw, .inr (3, [.int 2, .int 0, .ref keys, .ref moms, .ref lens, .ref prts, .ref luds, .ref hnds, .ref lats, .ref knds, .ref rch, .ref spd, .int 0, .int 0, .int 0, .ref unN, .ref unH, .ref ptn]))] := hD
  subst h_116
  refine lv_if_eq (tgt := 27) hx hb dX6_covered_18 (by decide) (fun _ => ?_) (fun c_117 => absurd (by decide) c_117)
  refine lv_iinc (v := 39) (lv' := [(3, .int 39), (1, .long ((0 : Int32).toInt64)), (0, .ref x0)]) hx hb dX6_covered_27 hl (k := 0) rfl (by decide) (by decide) rfl (fun ls hl => ?_)
  refine lv_goto (tgt := 4) hx hb dX6_covered_30 (by decide) ?_
  refine lv_iload_n hx hb dX6_covered_4 rfl (lv_at hl 0 rfl) ?_
  refine lv_bipush (v := 64) hx hb dX6_covered_5 (by decide) ?_
  refine lv_icmp_ge (tgt := 33) hx hb dX6_covered_7 (by decide) (fun c_118 => absurd c_118 (by decide)) (fun _ => ?_)
  refine lv_aload_n hx hb dX6_covered_10 rfl (lv_at hl 2 rfl) ?_
  refine va_get (D := D) (ci := 6) (v := .ref nw) (C := RX6) (T := TX6) (N := 14) hx hb ht inX6 hown hK hP 0 rfl rfl 0 (Nat.le_of_ble_eq_true rfl) (ht _ kw_337) (fun _ h9 => h9) rfl dX6_covered_11 ?_
  refine lv_iload_n hx hb dX6_covered_14 rfl (lv_at hl 0 rfl) ?_
  refine q_Vi (wr := [(x0, .inr (6, [.ref nw, .ref sp, .ref im, .ref sc, .ref hg, .ref fg, .ref pg, .ref pr, .int 0, .long 0, .long 1, .int 0, .int 0, .int 0]))]) [1] [0] hX hE hK hP hD hS hA hl.1 lk_X6_230 (c_isCovered l D cI cZ cP sa nw keys moms lens prts luds hnds lats knds rch spd unN unH ptn 39 _) rfl rfl rfl rfl (by decide) 0 3 rfl rfl rfl rfl (Nat.le_of_ble_eq_true rfl) rfl rfl ⟨Nat.le_of_ble_eq_true rfl, Nat.le_of_ble_eq_true rfl⟩ ⟨Nat.le_of_ble_eq_true rfl, Nat.le_of_ble_eq_true rfl⟩ dX6_covered_15 (fun x_119 _ H locs h_119 hP hD hS => ?_)
  have hP : va_P D vwCl [(x0, .inr (6, [.ref nw, .ref sp, .ref im, .ref sc, .ref hg, .ref fg, .ref pg, .ref pr, .int 0, .long 0, .long 1, .int 0, .int 0, .int 0])), (nw, .inr (3, [.int 2, .int 0, .ref keys, .ref moms, .ref lens, .ref prts, .ref luds, .ref hnds, .ref lats, .ref knds, .ref rch, .ref spd, .int 0, .int 0, .int 0, .ref unN, .ref unH, .ref ptn]))] H := hP
  have hD : va_D (va_A (w_covered cI cZ cP x0 nw sp im sc hg fg pg pr keys moms lens prts luds hnds lats knds rch spd unN unH ptn) sz) [(x0, .inr (6, [.ref nw, .ref sp, .ref im, .ref sc, .ref hg, .ref fg, .ref pg, .ref pr, .int 0, .long 0, .long 1, .int 0, .int 0, .int 0])), (nw, .inr (3, [.int 2, .int 0, .ref keys, .ref moms, .ref lens, .ref prts, .ref luds, .ref hnds, .ref lats, .ref knds, .ref rch, .ref spd, .int 0, .int 0, .int 0, .ref unN, .ref unH, .ref ptn]))] := hD
  subst h_119
  refine lv_if_eq (tgt := 27) hx hb dX6_covered_18 (by decide) (fun _ => ?_) (fun c_120 => absurd (by decide) c_120)
  refine lv_iinc (v := 40) (lv' := [(3, .int 40), (1, .long ((0 : Int32).toInt64)), (0, .ref x0)]) hx hb dX6_covered_27 hl (k := 0) rfl (by decide) (by decide) rfl (fun ls hl => ?_)
  refine lv_goto (tgt := 4) hx hb dX6_covered_30 (by decide) ?_
  refine lv_iload_n hx hb dX6_covered_4 rfl (lv_at hl 0 rfl) ?_
  refine lv_bipush (v := 64) hx hb dX6_covered_5 (by decide) ?_
  refine lv_icmp_ge (tgt := 33) hx hb dX6_covered_7 (by decide) (fun c_121 => absurd c_121 (by decide)) (fun _ => ?_)
  refine lv_aload_n hx hb dX6_covered_10 rfl (lv_at hl 2 rfl) ?_
  refine va_get (D := D) (ci := 6) (v := .ref nw) (C := RX6) (T := TX6) (N := 14) hx hb ht inX6 hown hK hP 0 rfl rfl 0 (Nat.le_of_ble_eq_true rfl) (ht _ kw_337) (fun _ h9 => h9) rfl dX6_covered_11 ?_
  refine lv_iload_n hx hb dX6_covered_14 rfl (lv_at hl 0 rfl) ?_
  refine q_Vi (wr := [(x0, .inr (6, [.ref nw, .ref sp, .ref im, .ref sc, .ref hg, .ref fg, .ref pg, .ref pr, .int 0, .long 0, .long 1, .int 0, .int 0, .int 0]))]) [1] [0] hX hE hK hP hD hS hA hl.1 lk_X6_230 (c_isCovered l D cI cZ cP sa nw keys moms lens prts luds hnds lats knds rch spd unN unH ptn 40 _) rfl rfl rfl rfl (by decide) 0 3 rfl rfl rfl rfl (Nat.le_of_ble_eq_true rfl) rfl rfl ⟨Nat.le_of_ble_eq_true rfl, Nat.le_of_ble_eq_true rfl⟩ ⟨Nat.le_of_ble_eq_true rfl, Nat.le_of_ble_eq_true rfl⟩ dX6_covered_15 (fun x_122 _ H locs h_122 hP hD hS => ?_)
  have hP : va_P D vwCl [(x0, .inr (6, [.ref nw, .ref sp, .ref im, .ref sc, .ref hg, .ref fg, .ref pg, .ref pr, .int 0, .long 0, .long 1, .int 0, .int 0, .int 0])), (nw, .inr (3, [.int 2, .int 0, .ref keys, .ref moms, .ref lens, .ref prts, .ref luds, .ref hnds, .ref lats, .ref knds, .ref rch, .ref spd, .int 0, .int 0, .int 0, .ref unN, .ref unH, .ref ptn]))] H := hP
  have hD : va_D (va_A (w_covered cI cZ cP x0 nw sp im sc hg fg pg pr keys moms lens prts luds hnds lats knds rch spd unN unH ptn) sz) [(x0, .inr (6, [.ref nw, .ref sp, .ref im, .ref sc, .ref hg, .ref fg, .ref pg, .ref pr, .int 0, .long 0, .long 1, .int 0, .int 0, .int 0])), (nw, .inr (3, [.int 2, .int 0, .ref keys, .ref moms, .ref lens, .ref prts, .ref luds, .ref hnds, .ref lats, .ref knds, .ref rch, .ref spd, .int 0, .int 0, .int 0, .ref unN, .ref unH, .ref ptn]))] := hD
  subst h_122
  refine lv_if_eq (tgt := 27) hx hb dX6_covered_18 (by decide) (fun _ => ?_) (fun c_123 => absurd (by decide) c_123)
  refine lv_iinc (v := 41) (lv' := [(3, .int 41), (1, .long ((0 : Int32).toInt64)), (0, .ref x0)]) hx hb dX6_covered_27 hl (k := 0) rfl (by decide) (by decide) rfl (fun ls hl => ?_)
  refine lv_goto (tgt := 4) hx hb dX6_covered_30 (by decide) ?_
  refine lv_iload_n hx hb dX6_covered_4 rfl (lv_at hl 0 rfl) ?_
  refine lv_bipush (v := 64) hx hb dX6_covered_5 (by decide) ?_
  refine lv_icmp_ge (tgt := 33) hx hb dX6_covered_7 (by decide) (fun c_124 => absurd c_124 (by decide)) (fun _ => ?_)
  refine lv_aload_n hx hb dX6_covered_10 rfl (lv_at hl 2 rfl) ?_
  refine va_get (D := D) (ci := 6) (v := .ref nw) (C := RX6) (T := TX6) (N := 14) hx hb ht inX6 hown hK hP 0 rfl rfl 0 (Nat.le_of_ble_eq_true rfl) (ht _ kw_337) (fun _ h9 => h9) rfl dX6_covered_11 ?_
  refine lv_iload_n hx hb dX6_covered_14 rfl (lv_at hl 0 rfl) ?_
  refine q_Vi (wr := [(x0, .inr (6, [.ref nw, .ref sp, .ref im, .ref sc, .ref hg, .ref fg, .ref pg, .ref pr, .int 0, .long 0, .long 1, .int 0, .int 0, .int 0]))]) [1] [0] hX hE hK hP hD hS hA hl.1 lk_X6_230 (c_isCovered l D cI cZ cP sa nw keys moms lens prts luds hnds lats knds rch spd unN unH ptn 41 _) rfl rfl rfl rfl (by decide) 0 3 rfl rfl rfl rfl (Nat.le_of_ble_eq_true rfl) rfl rfl ⟨Nat.le_of_ble_eq_true rfl, Nat.le_of_ble_eq_true rfl⟩ ⟨Nat.le_of_ble_eq_true rfl, Nat.le_of_ble_eq_true rfl⟩ dX6_covered_15 (fun x_125 _ H locs h_125 hP hD hS => ?_)
  have hP : va_P D vwCl [(x0, .inr (6, [.ref nw, .ref sp, .ref im, .ref sc, .ref hg, .ref fg, .ref pg, .ref pr, .int 0, .long 0, .long 1, .int 0, .int 0, .int 0])), (nw, .inr (3, [.int 2, .int 0, .ref keys, .ref moms, .ref lens, .ref prts, .ref luds, .ref hnds, .ref lats, .ref knds, .ref rch, .ref spd, .int 0, .int 0, .int 0, .ref unN, .ref unH, .ref ptn]))] H := hP
  have hD : va_D (va_A (w_covered cI cZ cP x0 nw sp im sc hg fg pg pr keys moms lens prts luds hnds lats knds rch spd unN unH ptn) sz) [(x0, .inr (6, [.ref nw, .ref sp, .ref im, .ref sc, .ref hg, .ref fg, .ref pg, .ref pr, .int 0, .long 0, .long 1, .int 0, .int 0, .int 0])), (nw, .inr (3, [.int 2, .int 0, .ref keys, .ref moms, .ref lens, .ref prts, .ref luds, .ref hnds, .ref lats, .ref knds, .ref rch, .ref spd, .int 0, .int 0, .int 0, .ref unN, .ref unH, .ref ptn]))] := hD
  subst h_125
  refine lv_if_eq (tgt := 27) hx hb dX6_covered_18 (by decide) (fun _ => ?_) (fun c_126 => absurd (by decide) c_126)
  refine lv_iinc (v := 42) (lv' := [(3, .int 42), (1, .long ((0 : Int32).toInt64)), (0, .ref x0)]) hx hb dX6_covered_27 hl (k := 0) rfl (by decide) (by decide) rfl (fun ls hl => ?_)
  refine lv_goto (tgt := 4) hx hb dX6_covered_30 (by decide) ?_
  refine lv_iload_n hx hb dX6_covered_4 rfl (lv_at hl 0 rfl) ?_
  refine lv_bipush (v := 64) hx hb dX6_covered_5 (by decide) ?_
  refine lv_icmp_ge (tgt := 33) hx hb dX6_covered_7 (by decide) (fun c_127 => absurd c_127 (by decide)) (fun _ => ?_)
  refine lv_aload_n hx hb dX6_covered_10 rfl (lv_at hl 2 rfl) ?_
  refine va_get (D := D) (ci := 6) (v := .ref nw) (C := RX6) (T := TX6) (N := 14) hx hb ht inX6 hown hK hP 0 rfl rfl 0 (Nat.le_of_ble_eq_true rfl) (ht _ kw_337) (fun _ h9 => h9) rfl dX6_covered_11 ?_
  refine lv_iload_n hx hb dX6_covered_14 rfl (lv_at hl 0 rfl) ?_
  refine q_Vi (wr := [(x0, .inr (6, [.ref nw, .ref sp, .ref im, .ref sc, .ref hg, .ref fg, .ref pg, .ref pr, .int 0, .long 0, .long 1, .int 0, .int 0, .int 0]))]) [1] [0] hX hE hK hP hD hS hA hl.1 lk_X6_230 (c_isCovered l D cI cZ cP sa nw keys moms lens prts luds hnds lats knds rch spd unN unH ptn 42 _) rfl rfl rfl rfl (by decide) 0 3 rfl rfl rfl rfl (Nat.le_of_ble_eq_true rfl) rfl rfl ⟨Nat.le_of_ble_eq_true rfl, Nat.le_of_ble_eq_true rfl⟩ ⟨Nat.le_of_ble_eq_true rfl, Nat.le_of_ble_eq_true rfl⟩ dX6_covered_15 (fun x_128 _ H locs h_128 hP hD hS => ?_)
  have hP : va_P D vwCl [(x0, .inr (6, [.ref nw, .ref sp, .ref im, .ref sc, .ref hg, .ref fg, .ref pg, .ref pr, .int 0, .long 0, .long 1, .int 0, .int 0, .int 0])), (nw, .inr (3, [.int 2, .int 0, .ref keys, .ref moms, .ref lens, .ref prts, .ref luds, .ref hnds, .ref lats, .ref knds, .ref rch, .ref spd, .int 0, .int 0, .int 0, .ref unN, .ref unH, .ref ptn]))] H := hP
  have hD : va_D (va_A (w_covered cI cZ cP x0 nw sp im sc hg fg pg pr keys moms lens prts luds hnds lats knds rch spd unN unH ptn) sz) [(x0, .inr (6, [.ref nw, .ref sp, .ref im, .ref sc, .ref hg, .ref fg, .ref pg, .ref pr, .int 0, .long 0, .long 1, .int 0, .int 0, .int 0])), (nw, .inr (3, [.int 2, .int 0, .ref keys, .ref moms, .ref lens, .ref prts, .ref luds, .ref hnds, .ref lats, .ref knds, .ref rch, .ref spd, .int 0, .int 0, .int 0, .ref unN, .ref unH, .ref ptn]))] := hD
  subst h_128
  refine lv_if_eq (tgt := 27) hx hb dX6_covered_18 (by decide) (fun _ => ?_) (fun c_129 => absurd (by decide) c_129)
  refine lv_iinc (v := 43) (lv' := [(3, .int 43), (1, .long ((0 : Int32).toInt64)), (0, .ref x0)]) hx hb dX6_covered_27 hl (k := 0) rfl (by decide) (by decide) rfl (fun ls hl => ?_)
  refine lv_goto (tgt := 4) hx hb dX6_covered_30 (by decide) ?_
  refine lv_iload_n hx hb dX6_covered_4 rfl (lv_at hl 0 rfl) ?_
  refine lv_bipush (v := 64) hx hb dX6_covered_5 (by decide) ?_
  refine lv_icmp_ge (tgt := 33) hx hb dX6_covered_7 (by decide) (fun c_130 => absurd c_130 (by decide)) (fun _ => ?_)
  refine lv_aload_n hx hb dX6_covered_10 rfl (lv_at hl 2 rfl) ?_
  refine va_get (D := D) (ci := 6) (v := .ref nw) (C := RX6) (T := TX6) (N := 14) hx hb ht inX6 hown hK hP 0 rfl rfl 0 (Nat.le_of_ble_eq_true rfl) (ht _ kw_337) (fun _ h9 => h9) rfl dX6_covered_11 ?_
  refine lv_iload_n hx hb dX6_covered_14 rfl (lv_at hl 0 rfl) ?_
  refine q_Vi (wr := [(x0, .inr (6, [.ref nw, .ref sp, .ref im, .ref sc, .ref hg, .ref fg, .ref pg, .ref pr, .int 0, .long 0, .long 1, .int 0, .int 0, .int 0]))]) [1] [0] hX hE hK hP hD hS hA hl.1 lk_X6_230 (c_isCovered l D cI cZ cP sa nw keys moms lens prts luds hnds lats knds rch spd unN unH ptn 43 _) rfl rfl rfl rfl (by decide) 0 3 rfl rfl rfl rfl (Nat.le_of_ble_eq_true rfl) rfl rfl ⟨Nat.le_of_ble_eq_true rfl, Nat.le_of_ble_eq_true rfl⟩ ⟨Nat.le_of_ble_eq_true rfl, Nat.le_of_ble_eq_true rfl⟩ dX6_covered_15 (fun x_131 _ H locs h_131 hP hD hS => ?_)
  have hP : va_P D vwCl [(x0, .inr (6, [.ref nw, .ref sp, .ref im, .ref sc, .ref hg, .ref fg, .ref pg, .ref pr, .int 0, .long 0, .long 1, .int 0, .int 0, .int 0])), (nw, .inr (3, [.int 2, .int 0, .ref keys, .ref moms, .ref lens, .ref prts, .ref luds, .ref hnds, .ref lats, .ref knds, .ref rch, .ref spd, .int 0, .int 0, .int 0, .ref unN, .ref unH, .ref ptn]))] H := hP
  have hD : va_D (va_A (w_covered cI cZ cP x0 nw sp im sc hg fg pg pr keys moms lens prts luds hnds lats knds rch spd unN unH ptn) sz) [(x0, .inr (6, [.ref nw, .ref sp, .ref im, .ref sc, .ref hg, .ref fg, .ref pg, .ref pr, .int 0, .long 0, .long 1, .int 0, .int 0, .int 0])), (nw, .inr (3, [.int 2, .int 0, .ref keys, .ref moms, .ref lens, .ref prts, .ref luds, .ref hnds, .ref lats, .ref knds, .ref rch, .ref spd, .int 0, .int 0, .int 0, .ref unN, .ref unH, .ref ptn]))] := hD
  subst h_131
  refine lv_if_eq (tgt := 27) hx hb dX6_covered_18 (by decide) (fun _ => ?_) (fun c_132 => absurd (by decide) c_132)
  refine lv_iinc (v := 44) (lv' := [(3, .int 44), (1, .long ((0 : Int32).toInt64)), (0, .ref x0)]) hx hb dX6_covered_27 hl (k := 0) rfl (by decide) (by decide) rfl (fun ls hl => ?_)
  refine lv_goto (tgt := 4) hx hb dX6_covered_30 (by decide) ?_
  refine lv_iload_n hx hb dX6_covered_4 rfl (lv_at hl 0 rfl) ?_
  refine lv_bipush (v := 64) hx hb dX6_covered_5 (by decide) ?_
  refine lv_icmp_ge (tgt := 33) hx hb dX6_covered_7 (by decide) (fun c_133 => absurd c_133 (by decide)) (fun _ => ?_)
  refine lv_aload_n hx hb dX6_covered_10 rfl (lv_at hl 2 rfl) ?_
  refine va_get (D := D) (ci := 6) (v := .ref nw) (C := RX6) (T := TX6) (N := 14) hx hb ht inX6 hown hK hP 0 rfl rfl 0 (Nat.le_of_ble_eq_true rfl) (ht _ kw_337) (fun _ h9 => h9) rfl dX6_covered_11 ?_
  refine lv_iload_n hx hb dX6_covered_14 rfl (lv_at hl 0 rfl) ?_
  refine q_Vi (wr := [(x0, .inr (6, [.ref nw, .ref sp, .ref im, .ref sc, .ref hg, .ref fg, .ref pg, .ref pr, .int 0, .long 0, .long 1, .int 0, .int 0, .int 0]))]) [1] [0] hX hE hK hP hD hS hA hl.1 lk_X6_230 (c_isCovered l D cI cZ cP sa nw keys moms lens prts luds hnds lats knds rch spd unN unH ptn 44 _) rfl rfl rfl rfl (by decide) 0 3 rfl rfl rfl rfl (Nat.le_of_ble_eq_true rfl) rfl rfl ⟨Nat.le_of_ble_eq_true rfl, Nat.le_of_ble_eq_true rfl⟩ ⟨Nat.le_of_ble_eq_true rfl, Nat.le_of_ble_eq_true rfl⟩ dX6_covered_15 (fun x_134 _ H locs h_134 hP hD hS => ?_)
  have hP : va_P D vwCl [(x0, .inr (6, [.ref nw, .ref sp, .ref im, .ref sc, .ref hg, .ref fg, .ref pg, .ref pr, .int 0, .long 0, .long 1, .int 0, .int 0, .int 0])), (nw, .inr (3, [.int 2, .int 0, .ref keys, .ref moms, .ref lens, .ref prts, .ref luds, .ref hnds, .ref lats, .ref knds, .ref rch, .ref spd, .int 0, .int 0, .int 0, .ref unN, .ref unH, .ref ptn]))] H := hP
  have hD : va_D (va_A (w_covered cI cZ cP x0 nw sp im sc hg fg pg pr keys moms lens prts luds hnds lats knds rch spd unN unH ptn) sz) [(x0, .inr (6, [.ref nw, .ref sp, .ref im, .ref sc, .ref hg, .ref fg, .ref pg, .ref pr, .int 0, .long 0, .long 1, .int 0, .int 0, .int 0])), (nw, .inr (3, [.int 2, .int 0, .ref keys, .ref moms, .ref lens, .ref prts, .ref luds, .ref hnds, .ref lats, .ref knds, .ref rch, .ref spd, .int 0, .int 0, .int 0, .ref unN, .ref unH, .ref ptn]))] := hD
  subst h_134
  refine lv_if_eq (tgt := 27) hx hb dX6_covered_18 (by decide) (fun _ => ?_) (fun c_135 => absurd (by decide) c_135)
  refine lv_iinc (v := 45) (lv' := [(3, .int 45), (1, .long ((0 : Int32).toInt64)), (0, .ref x0)]) hx hb dX6_covered_27 hl (k := 0) rfl (by decide) (by decide) rfl (fun ls hl => ?_)
  refine lv_goto (tgt := 4) hx hb dX6_covered_30 (by decide) ?_
  refine lv_iload_n hx hb dX6_covered_4 rfl (lv_at hl 0 rfl) ?_
  refine lv_bipush (v := 64) hx hb dX6_covered_5 (by decide) ?_
  refine lv_icmp_ge (tgt := 33) hx hb dX6_covered_7 (by decide) (fun c_136 => absurd c_136 (by decide)) (fun _ => ?_)
  refine lv_aload_n hx hb dX6_covered_10 rfl (lv_at hl 2 rfl) ?_
  refine va_get (D := D) (ci := 6) (v := .ref nw) (C := RX6) (T := TX6) (N := 14) hx hb ht inX6 hown hK hP 0 rfl rfl 0 (Nat.le_of_ble_eq_true rfl) (ht _ kw_337) (fun _ h9 => h9) rfl dX6_covered_11 ?_
  refine lv_iload_n hx hb dX6_covered_14 rfl (lv_at hl 0 rfl) ?_
  refine q_Vi (wr := [(x0, .inr (6, [.ref nw, .ref sp, .ref im, .ref sc, .ref hg, .ref fg, .ref pg, .ref pr, .int 0, .long 0, .long 1, .int 0, .int 0, .int 0]))]) [1] [0] hX hE hK hP hD hS hA hl.1 lk_X6_230 (c_isCovered l D cI cZ cP sa nw keys moms lens prts luds hnds lats knds rch spd unN unH ptn 45 _) rfl rfl rfl rfl (by decide) 0 3 rfl rfl rfl rfl (Nat.le_of_ble_eq_true rfl) rfl rfl ⟨Nat.le_of_ble_eq_true rfl, Nat.le_of_ble_eq_true rfl⟩ ⟨Nat.le_of_ble_eq_true rfl, Nat.le_of_ble_eq_true rfl⟩ dX6_covered_15 (fun x_137 _ H locs h_137 hP hD hS => ?_)
  have hP : va_P D vwCl [(x0, .inr (6, [.ref nw, .ref sp, .ref im, .ref sc, .ref hg, .ref fg, .ref pg, .ref pr, .int 0, .long 0, .long 1, .int 0, .int 0, .int 0])), (nw, .inr (3, [.int 2, .int 0, .ref keys, .ref moms, .ref lens, .ref prts, .ref luds, .ref hnds, .ref lats, .ref knds, .ref rch, .ref spd, .int 0, .int 0, .int 0, .ref unN, .ref unH, .ref ptn]))] H := hP
  have hD : va_D (va_A (w_covered cI cZ cP x0 nw sp im sc hg fg pg pr keys moms lens prts luds hnds lats knds rch spd unN unH ptn) sz) [(x0, .inr (6, [.ref nw, .ref sp, .ref im, .ref sc, .ref hg, .ref fg, .ref pg, .ref pr, .int 0, .long 0, .long 1, .int 0, .int 0, .int 0])), (nw, .inr (3, [.int 2, .int 0, .ref keys, .ref moms, .ref lens, .ref prts, .ref luds, .ref hnds, .ref lats, .ref knds, .ref rch, .ref spd, .int 0, .int 0, .int 0, .ref unN, .ref unH, .ref ptn]))] := hD
  subst h_137
  refine lv_if_eq (tgt := 27) hx hb dX6_covered_18 (by decide) (fun _ => ?_) (fun c_138 => absurd (by decide) c_138)
  refine lv_iinc (v := 46) (lv' := [(3, .int 46), (1, .long ((0 : Int32).toInt64)), (0, .ref x0)]) hx hb dX6_covered_27 hl (k := 0) rfl (by decide) (by decide) rfl (fun ls hl => ?_)
  refine lv_goto (tgt := 4) hx hb dX6_covered_30 (by decide) ?_
  refine lv_iload_n hx hb dX6_covered_4 rfl (lv_at hl 0 rfl) ?_
  refine lv_bipush (v := 64) hx hb dX6_covered_5 (by decide) ?_
  refine lv_icmp_ge (tgt := 33) hx hb dX6_covered_7 (by decide) (fun c_139 => absurd c_139 (by decide)) (fun _ => ?_)
  refine lv_aload_n hx hb dX6_covered_10 rfl (lv_at hl 2 rfl) ?_
  refine va_get (D := D) (ci := 6) (v := .ref nw) (C := RX6) (T := TX6) (N := 14) hx hb ht inX6 hown hK hP 0 rfl rfl 0 (Nat.le_of_ble_eq_true rfl) (ht _ kw_337) (fun _ h9 => h9) rfl dX6_covered_11 ?_
  refine lv_iload_n hx hb dX6_covered_14 rfl (lv_at hl 0 rfl) ?_
  refine q_Vi (wr := [(x0, .inr (6, [.ref nw, .ref sp, .ref im, .ref sc, .ref hg, .ref fg, .ref pg, .ref pr, .int 0, .long 0, .long 1, .int 0, .int 0, .int 0]))]) [1] [0] hX hE hK hP hD hS hA hl.1 lk_X6_230 (c_isCovered l D cI cZ cP sa nw keys moms lens prts luds hnds lats knds rch spd unN unH ptn 46 _) rfl rfl rfl rfl (by decide) 0 3 rfl rfl rfl rfl (Nat.le_of_ble_eq_true rfl) rfl rfl ⟨Nat.le_of_ble_eq_true rfl, Nat.le_of_ble_eq_true rfl⟩ ⟨Nat.le_of_ble_eq_true rfl, Nat.le_of_ble_eq_true rfl⟩ dX6_covered_15 (fun x_140 _ H locs h_140 hP hD hS => ?_)
  have hP : va_P D vwCl [(x0, .inr (6, [.ref nw, .ref sp, .ref im, .ref sc, .ref hg, .ref fg, .ref pg, .ref pr, .int 0, .long 0, .long 1, .int 0, .int 0, .int 0])), (nw, .inr (3, [.int 2, .int 0, .ref keys, .ref moms, .ref lens, .ref prts, .ref luds, .ref hnds, .ref lats, .ref knds, .ref rch, .ref spd, .int 0, .int 0, .int 0, .ref unN, .ref unH, .ref ptn]))] H := hP
  have hD : va_D (va_A (w_covered cI cZ cP x0 nw sp im sc hg fg pg pr keys moms lens prts luds hnds lats knds rch spd unN unH ptn) sz) [(x0, .inr (6, [.ref nw, .ref sp, .ref im, .ref sc, .ref hg, .ref fg, .ref pg, .ref pr, .int 0, .long 0, .long 1, .int 0, .int 0, .int 0])), (nw, .inr (3, [.int 2, .int 0, .ref keys, .ref moms, .ref lens, .ref prts, .ref luds, .ref hnds, .ref lats, .ref knds, .ref rch, .ref spd, .int 0, .int 0, .int 0, .ref unN, .ref unH, .ref ptn]))] := hD
  subst h_140
  refine lv_if_eq (tgt := 27) hx hb dX6_covered_18 (by decide) (fun _ => ?_) (fun c_141 => absurd (by decide) c_141)
  refine lv_iinc (v := 47) (lv' := [(3, .int 47), (1, .long ((0 : Int32).toInt64)), (0, .ref x0)]) hx hb dX6_covered_27 hl (k := 0) rfl (by decide) (by decide) rfl (fun ls hl => ?_)
  refine lv_goto (tgt := 4) hx hb dX6_covered_30 (by decide) ?_
  refine lv_iload_n hx hb dX6_covered_4 rfl (lv_at hl 0 rfl) ?_
  refine lv_bipush (v := 64) hx hb dX6_covered_5 (by decide) ?_
  refine lv_icmp_ge (tgt := 33) hx hb dX6_covered_7 (by decide) (fun c_142 => absurd c_142 (by decide)) (fun _ => ?_)
  refine lv_aload_n hx hb dX6_covered_10 rfl (lv_at hl 2 rfl) ?_
  refine va_get (D := D) (ci := 6) (v := .ref nw) (C := RX6) (T := TX6) (N := 14) hx hb ht inX6 hown hK hP 0 rfl rfl 0 (Nat.le_of_ble_eq_true rfl) (ht _ kw_337) (fun _ h9 => h9) rfl dX6_covered_11 ?_
  refine lv_iload_n hx hb dX6_covered_14 rfl (lv_at hl 0 rfl) ?_
  refine q_Vi (wr := [(x0, .inr (6, [.ref nw, .ref sp, .ref im, .ref sc, .ref hg, .ref fg, .ref pg, .ref pr, .int 0, .long 0, .long 1, .int 0, .int 0, .int 0]))]) [1] [0] hX hE hK hP hD hS hA hl.1 lk_X6_230 (c_isCovered l D cI cZ cP sa nw keys moms lens prts luds hnds lats knds rch spd unN unH ptn 47 _) rfl rfl rfl rfl (by decide) 0 3 rfl rfl rfl rfl (Nat.le_of_ble_eq_true rfl) rfl rfl ⟨Nat.le_of_ble_eq_true rfl, Nat.le_of_ble_eq_true rfl⟩ ⟨Nat.le_of_ble_eq_true rfl, Nat.le_of_ble_eq_true rfl⟩ dX6_covered_15 (fun x_143 _ H locs h_143 hP hD hS => ?_)
  have hP : va_P D vwCl [(x0, .inr (6, [.ref nw, .ref sp, .ref im, .ref sc, .ref hg, .ref fg, .ref pg, .ref pr, .int 0, .long 0, .long 1, .int 0, .int 0, .int 0])), (nw, .inr (3, [.int 2, .int 0, .ref keys, .ref moms, .ref lens, .ref prts, .ref luds, .ref hnds, .ref lats, .ref knds, .ref rch, .ref spd, .int 0, .int 0, .int 0, .ref unN, .ref unH, .ref ptn]))] H := hP
  have hD : va_D (va_A (w_covered cI cZ cP x0 nw sp im sc hg fg pg pr keys moms lens prts luds hnds lats knds rch spd unN unH ptn) sz) [(x0, .inr (6, [.ref nw, .ref sp, .ref im, .ref sc, .ref hg, .ref fg, .ref pg, .ref pr, .int 0, .long 0, .long 1, .int 0, .int 0, .int 0])), (nw, .inr (3, [.int 2, .int 0, .ref keys, .ref moms, .ref lens, .ref prts, .ref luds, .ref hnds, .ref lats, .ref knds, .ref rch, .ref spd, .int 0, .int 0, .int 0, .ref unN, .ref unH, .ref ptn]))] := hD
  subst h_143
  refine lv_if_eq (tgt := 27) hx hb dX6_covered_18 (by decide) (fun _ => ?_) (fun c_144 => absurd (by decide) c_144)
  refine lv_iinc (v := 48) (lv' := [(3, .int 48), (1, .long ((0 : Int32).toInt64)), (0, .ref x0)]) hx hb dX6_covered_27 hl (k := 0) rfl (by decide) (by decide) rfl (fun ls hl => ?_)
  refine lv_goto (tgt := 4) hx hb dX6_covered_30 (by decide) ?_
  refine lv_iload_n hx hb dX6_covered_4 rfl (lv_at hl 0 rfl) ?_
  refine lv_bipush (v := 64) hx hb dX6_covered_5 (by decide) ?_
  refine lv_icmp_ge (tgt := 33) hx hb dX6_covered_7 (by decide) (fun c_145 => absurd c_145 (by decide)) (fun _ => ?_)
  refine lv_aload_n hx hb dX6_covered_10 rfl (lv_at hl 2 rfl) ?_
  refine va_get (D := D) (ci := 6) (v := .ref nw) (C := RX6) (T := TX6) (N := 14) hx hb ht inX6 hown hK hP 0 rfl rfl 0 (Nat.le_of_ble_eq_true rfl) (ht _ kw_337) (fun _ h9 => h9) rfl dX6_covered_11 ?_
  refine lv_iload_n hx hb dX6_covered_14 rfl (lv_at hl 0 rfl) ?_
  refine q_Vi (wr := [(x0, .inr (6, [.ref nw, .ref sp, .ref im, .ref sc, .ref hg, .ref fg, .ref pg, .ref pr, .int 0, .long 0, .long 1, .int 0, .int 0, .int 0]))]) [1] [0] hX hE hK hP hD hS hA hl.1 lk_X6_230 (c_isCovered l D cI cZ cP sa nw keys moms lens prts luds hnds lats knds rch spd unN unH ptn 48 _) rfl rfl rfl rfl (by decide) 0 3 rfl rfl rfl rfl (Nat.le_of_ble_eq_true rfl) rfl rfl ⟨Nat.le_of_ble_eq_true rfl, Nat.le_of_ble_eq_true rfl⟩ ⟨Nat.le_of_ble_eq_true rfl, Nat.le_of_ble_eq_true rfl⟩ dX6_covered_15 (fun x_146 _ H locs h_146 hP hD hS => ?_)
  have hP : va_P D vwCl [(x0, .inr (6, [.ref nw, .ref sp, .ref im, .ref sc, .ref hg, .ref fg, .ref pg, .ref pr, .int 0, .long 0, .long 1, .int 0, .int 0, .int 0])), (nw, .inr (3, [.int 2, .int 0, .ref keys, .ref moms, .ref lens, .ref prts, .ref luds, .ref hnds, .ref lats, .ref knds, .ref rch, .ref spd, .int 0, .int 0, .int 0, .ref unN, .ref unH, .ref ptn]))] H := hP
  have hD : va_D (va_A (w_covered cI cZ cP x0 nw sp im sc hg fg pg pr keys moms lens prts luds hnds lats knds rch spd unN unH ptn) sz) [(x0, .inr (6, [.ref nw, .ref sp, .ref im, .ref sc, .ref hg, .ref fg, .ref pg, .ref pr, .int 0, .long 0, .long 1, .int 0, .int 0, .int 0])), (nw, .inr (3, [.int 2, .int 0, .ref keys, .ref moms, .ref lens, .ref prts, .ref luds, .ref hnds, .ref lats, .ref knds, .ref rch, .ref spd, .int 0, .int 0, .int 0, .ref unN, .ref unH, .ref ptn]))] := hD
  subst h_146
  refine lv_if_eq (tgt := 27) hx hb dX6_covered_18 (by decide) (fun _ => ?_) (fun c_147 => absurd (by decide) c_147)
  refine lv_iinc (v := 49) (lv' := [(3, .int 49), (1, .long ((0 : Int32).toInt64)), (0, .ref x0)]) hx hb dX6_covered_27 hl (k := 0) rfl (by decide) (by decide) rfl (fun ls hl => ?_)
  refine lv_goto (tgt := 4) hx hb dX6_covered_30 (by decide) ?_
  refine lv_iload_n hx hb dX6_covered_4 rfl (lv_at hl 0 rfl) ?_
  refine lv_bipush (v := 64) hx hb dX6_covered_5 (by decide) ?_
  refine lv_icmp_ge (tgt := 33) hx hb dX6_covered_7 (by decide) (fun c_148 => absurd c_148 (by decide)) (fun _ => ?_)
  refine lv_aload_n hx hb dX6_covered_10 rfl (lv_at hl 2 rfl) ?_
  refine va_get (D := D) (ci := 6) (v := .ref nw) (C := RX6) (T := TX6) (N := 14) hx hb ht inX6 hown hK hP 0 rfl rfl 0 (Nat.le_of_ble_eq_true rfl) (ht _ kw_337) (fun _ h9 => h9) rfl dX6_covered_11 ?_
  refine lv_iload_n hx hb dX6_covered_14 rfl (lv_at hl 0 rfl) ?_
  refine q_Vi (wr := [(x0, .inr (6, [.ref nw, .ref sp, .ref im, .ref sc, .ref hg, .ref fg, .ref pg, .ref pr, .int 0, .long 0, .long 1, .int 0, .int 0, .int 0]))]) [1] [0] hX hE hK hP hD hS hA hl.1 lk_X6_230 (c_isCovered l D cI cZ cP sa nw keys moms lens prts luds hnds lats knds rch spd unN unH ptn 49 _) rfl rfl rfl rfl (by decide) 0 3 rfl rfl rfl rfl (Nat.le_of_ble_eq_true rfl) rfl rfl ⟨Nat.le_of_ble_eq_true rfl, Nat.le_of_ble_eq_true rfl⟩ ⟨Nat.le_of_ble_eq_true rfl, Nat.le_of_ble_eq_true rfl⟩ dX6_covered_15 (fun x_149 _ H locs h_149 hP hD hS => ?_)
  have hP : va_P D vwCl [(x0, .inr (6, [.ref nw, .ref sp, .ref im, .ref sc, .ref hg, .ref fg, .ref pg, .ref pr, .int 0, .long 0, .long 1, .int 0, .int 0, .int 0])), (nw, .inr (3, [.int 2, .int 0, .ref keys, .ref moms, .ref lens, .ref prts, .ref luds, .ref hnds, .ref lats, .ref knds, .ref rch, .ref spd, .int 0, .int 0, .int 0, .ref unN, .ref unH, .ref ptn]))] H := hP
  have hD : va_D (va_A (w_covered cI cZ cP x0 nw sp im sc hg fg pg pr keys moms lens prts luds hnds lats knds rch spd unN unH ptn) sz) [(x0, .inr (6, [.ref nw, .ref sp, .ref im, .ref sc, .ref hg, .ref fg, .ref pg, .ref pr, .int 0, .long 0, .long 1, .int 0, .int 0, .int 0])), (nw, .inr (3, [.int 2, .int 0, .ref keys, .ref moms, .ref lens, .ref prts, .ref luds, .ref hnds, .ref lats, .ref knds, .ref rch, .ref spd, .int 0, .int 0, .int 0, .ref unN, .ref unH, .ref ptn]))] := hD
  subst h_149
  refine lv_if_eq (tgt := 27) hx hb dX6_covered_18 (by decide) (fun _ => ?_) (fun c_150 => absurd (by decide) c_150)
  refine lv_iinc (v := 50) (lv' := [(3, .int 50), (1, .long ((0 : Int32).toInt64)), (0, .ref x0)]) hx hb dX6_covered_27 hl (k := 0) rfl (by decide) (by decide) rfl (fun ls hl => ?_)
  refine lv_goto (tgt := 4) hx hb dX6_covered_30 (by decide) ?_
  refine lv_iload_n hx hb dX6_covered_4 rfl (lv_at hl 0 rfl) ?_
  refine lv_bipush (v := 64) hx hb dX6_covered_5 (by decide) ?_
  refine lv_icmp_ge (tgt := 33) hx hb dX6_covered_7 (by decide) (fun c_151 => absurd c_151 (by decide)) (fun _ => ?_)
  refine lv_aload_n hx hb dX6_covered_10 rfl (lv_at hl 2 rfl) ?_
  refine va_get (D := D) (ci := 6) (v := .ref nw) (C := RX6) (T := TX6) (N := 14) hx hb ht inX6 hown hK hP 0 rfl rfl 0 (Nat.le_of_ble_eq_true rfl) (ht _ kw_337) (fun _ h9 => h9) rfl dX6_covered_11 ?_
  refine lv_iload_n hx hb dX6_covered_14 rfl (lv_at hl 0 rfl) ?_
  refine q_Vi (wr := [(x0, .inr (6, [.ref nw, .ref sp, .ref im, .ref sc, .ref hg, .ref fg, .ref pg, .ref pr, .int 0, .long 0, .long 1, .int 0, .int 0, .int 0]))]) [1] [0] hX hE hK hP hD hS hA hl.1 lk_X6_230 (c_isCovered l D cI cZ cP sa nw keys moms lens prts luds hnds lats knds rch spd unN unH ptn 50 _) rfl rfl rfl rfl (by decide) 0 3 rfl rfl rfl rfl (Nat.le_of_ble_eq_true rfl) rfl rfl ⟨Nat.le_of_ble_eq_true rfl, Nat.le_of_ble_eq_true rfl⟩ ⟨Nat.le_of_ble_eq_true rfl, Nat.le_of_ble_eq_true rfl⟩ dX6_covered_15 (fun x_152 _ H locs h_152 hP hD hS => ?_)
  have hP : va_P D vwCl [(x0, .inr (6, [.ref nw, .ref sp, .ref im, .ref sc, .ref hg, .ref fg, .ref pg, .ref pr, .int 0, .long 0, .long 1, .int 0, .int 0, .int 0])), (nw, .inr (3, [.int 2, .int 0, .ref keys, .ref moms, .ref lens, .ref prts, .ref luds, .ref hnds, .ref lats, .ref knds, .ref rch, .ref spd, .int 0, .int 0, .int 0, .ref unN, .ref unH, .ref ptn]))] H := hP
  have hD : va_D (va_A (w_covered cI cZ cP x0 nw sp im sc hg fg pg pr keys moms lens prts luds hnds lats knds rch spd unN unH ptn) sz) [(x0, .inr (6, [.ref nw, .ref sp, .ref im, .ref sc, .ref hg, .ref fg, .ref pg, .ref pr, .int 0, .long 0, .long 1, .int 0, .int 0, .int 0])), (nw, .inr (3, [.int 2, .int 0, .ref keys, .ref moms, .ref lens, .ref prts, .ref luds, .ref hnds, .ref lats, .ref knds, .ref rch, .ref spd, .int 0, .int 0, .int 0, .ref unN, .ref unH, .ref ptn]))] := hD
  subst h_152
  refine lv_if_eq (tgt := 27) hx hb dX6_covered_18 (by decide) (fun _ => ?_) (fun c_153 => absurd (by decide) c_153)
  refine lv_iinc (v := 51) (lv' := [(3, .int 51), (1, .long ((0 : Int32).toInt64)), (0, .ref x0)]) hx hb dX6_covered_27 hl (k := 0) rfl (by decide) (by decide) rfl (fun ls hl => ?_)
  refine lv_goto (tgt := 4) hx hb dX6_covered_30 (by decide) ?_
  refine lv_iload_n hx hb dX6_covered_4 rfl (lv_at hl 0 rfl) ?_
  refine lv_bipush (v := 64) hx hb dX6_covered_5 (by decide) ?_
  refine lv_icmp_ge (tgt := 33) hx hb dX6_covered_7 (by decide) (fun c_154 => absurd c_154 (by decide)) (fun _ => ?_)
  refine lv_aload_n hx hb dX6_covered_10 rfl (lv_at hl 2 rfl) ?_
  refine va_get (D := D) (ci := 6) (v := .ref nw) (C := RX6) (T := TX6) (N := 14) hx hb ht inX6 hown hK hP 0 rfl rfl 0 (Nat.le_of_ble_eq_true rfl) (ht _ kw_337) (fun _ h9 => h9) rfl dX6_covered_11 ?_
  refine lv_iload_n hx hb dX6_covered_14 rfl (lv_at hl 0 rfl) ?_
  refine q_Vi (wr := [(x0, .inr (6, [.ref nw, .ref sp, .ref im, .ref sc, .ref hg, .ref fg, .ref pg, .ref pr, .int 0, .long 0, .long 1, .int 0, .int 0, .int 0]))]) [1] [0] hX hE hK hP hD hS hA hl.1 lk_X6_230 (c_isCovered l D cI cZ cP sa nw keys moms lens prts luds hnds lats knds rch spd unN unH ptn 51 _) rfl rfl rfl rfl (by decide) 0 3 rfl rfl rfl rfl (Nat.le_of_ble_eq_true rfl) rfl rfl ⟨Nat.le_of_ble_eq_true rfl, Nat.le_of_ble_eq_true rfl⟩ ⟨Nat.le_of_ble_eq_true rfl, Nat.le_of_ble_eq_true rfl⟩ dX6_covered_15 (fun x_155 _ H locs h_155 hP hD hS => ?_)
  have hP : va_P D vwCl [(x0, .inr (6, [.ref nw, .ref sp, .ref im, .ref sc, .ref hg, .ref fg, .ref pg, .ref pr, .int 0, .long 0, .long 1, .int 0, .int 0, .int 0])), (nw, .inr (3, [.int 2, .int 0, .ref keys, .ref moms, .ref lens, .ref prts, .ref luds, .ref hnds, .ref lats, .ref knds, .ref rch, .ref spd, .int 0, .int 0, .int 0, .ref unN, .ref unH, .ref ptn]))] H := hP
  have hD : va_D (va_A (w_covered cI cZ cP x0 nw sp im sc hg fg pg pr keys moms lens prts luds hnds lats knds rch spd unN unH ptn) sz) [(x0, .inr (6, [.ref nw, .ref sp, .ref im, .ref sc, .ref hg, .ref fg, .ref pg, .ref pr, .int 0, .long 0, .long 1, .int 0, .int 0, .int 0])), (nw, .inr (3, [.int 2, .int 0, .ref keys, .ref moms, .ref lens, .ref prts, .ref luds, .ref hnds, .ref lats, .ref knds, .ref rch, .ref spd, .int 0, .int 0, .int 0, .ref unN, .ref unH, .ref ptn]))] := hD
  subst h_155
  refine lv_if_eq (tgt := 27) hx hb dX6_covered_18 (by decide) (fun _ => ?_) (fun c_156 => absurd (by decide) c_156)
  refine lv_iinc (v := 52) (lv' := [(3, .int 52), (1, .long ((0 : Int32).toInt64)), (0, .ref x0)]) hx hb dX6_covered_27 hl (k := 0) rfl (by decide) (by decide) rfl (fun ls hl => ?_)
  refine lv_goto (tgt := 4) hx hb dX6_covered_30 (by decide) ?_
  refine lv_iload_n hx hb dX6_covered_4 rfl (lv_at hl 0 rfl) ?_
  refine lv_bipush (v := 64) hx hb dX6_covered_5 (by decide) ?_
  refine lv_icmp_ge (tgt := 33) hx hb dX6_covered_7 (by decide) (fun c_157 => absurd c_157 (by decide)) (fun _ => ?_)
  refine lv_aload_n hx hb dX6_covered_10 rfl (lv_at hl 2 rfl) ?_
  refine va_get (D := D) (ci := 6) (v := .ref nw) (C := RX6) (T := TX6) (N := 14) hx hb ht inX6 hown hK hP 0 rfl rfl 0 (Nat.le_of_ble_eq_true rfl) (ht _ kw_337) (fun _ h9 => h9) rfl dX6_covered_11 ?_
  refine lv_iload_n hx hb dX6_covered_14 rfl (lv_at hl 0 rfl) ?_
  refine q_Vi (wr := [(x0, .inr (6, [.ref nw, .ref sp, .ref im, .ref sc, .ref hg, .ref fg, .ref pg, .ref pr, .int 0, .long 0, .long 1, .int 0, .int 0, .int 0]))]) [1] [0] hX hE hK hP hD hS hA hl.1 lk_X6_230 (c_isCovered l D cI cZ cP sa nw keys moms lens prts luds hnds lats knds rch spd unN unH ptn 52 _) rfl rfl rfl rfl (by decide) 0 3 rfl rfl rfl rfl (Nat.le_of_ble_eq_true rfl) rfl rfl ⟨Nat.le_of_ble_eq_true rfl, Nat.le_of_ble_eq_true rfl⟩ ⟨Nat.le_of_ble_eq_true rfl, Nat.le_of_ble_eq_true rfl⟩ dX6_covered_15 (fun x_158 _ H locs h_158 hP hD hS => ?_)
  have hP : va_P D vwCl [(x0, .inr (6, [.ref nw, .ref sp, .ref im, .ref sc, .ref hg, .ref fg, .ref pg, .ref pr, .int 0, .long 0, .long 1, .int 0, .int 0, .int 0])), (nw, .inr (3, [.int 2, .int 0, .ref keys, .ref moms, .ref lens, .ref prts, .ref luds, .ref hnds, .ref lats, .ref knds, .ref rch, .ref spd, .int 0, .int 0, .int 0, .ref unN, .ref unH, .ref ptn]))] H := hP
  have hD : va_D (va_A (w_covered cI cZ cP x0 nw sp im sc hg fg pg pr keys moms lens prts luds hnds lats knds rch spd unN unH ptn) sz) [(x0, .inr (6, [.ref nw, .ref sp, .ref im, .ref sc, .ref hg, .ref fg, .ref pg, .ref pr, .int 0, .long 0, .long 1, .int 0, .int 0, .int 0])), (nw, .inr (3, [.int 2, .int 0, .ref keys, .ref moms, .ref lens, .ref prts, .ref luds, .ref hnds, .ref lats, .ref knds, .ref rch, .ref spd, .int 0, .int 0, .int 0, .ref unN, .ref unH, .ref ptn]))] := hD
  subst h_158
  refine lv_if_eq (tgt := 27) hx hb dX6_covered_18 (by decide) (fun _ => ?_) (fun c_159 => absurd (by decide) c_159)
  refine lv_iinc (v := 53) (lv' := [(3, .int 53), (1, .long ((0 : Int32).toInt64)), (0, .ref x0)]) hx hb dX6_covered_27 hl (k := 0) rfl (by decide) (by decide) rfl (fun ls hl => ?_)
  refine lv_goto (tgt := 4) hx hb dX6_covered_30 (by decide) ?_
  refine lv_iload_n hx hb dX6_covered_4 rfl (lv_at hl 0 rfl) ?_
  refine lv_bipush (v := 64) hx hb dX6_covered_5 (by decide) ?_
  refine lv_icmp_ge (tgt := 33) hx hb dX6_covered_7 (by decide) (fun c_160 => absurd c_160 (by decide)) (fun _ => ?_)
  refine lv_aload_n hx hb dX6_covered_10 rfl (lv_at hl 2 rfl) ?_
  refine va_get (D := D) (ci := 6) (v := .ref nw) (C := RX6) (T := TX6) (N := 14) hx hb ht inX6 hown hK hP 0 rfl rfl 0 (Nat.le_of_ble_eq_true rfl) (ht _ kw_337) (fun _ h9 => h9) rfl dX6_covered_11 ?_
  refine lv_iload_n hx hb dX6_covered_14 rfl (lv_at hl 0 rfl) ?_
  refine q_Vi (wr := [(x0, .inr (6, [.ref nw, .ref sp, .ref im, .ref sc, .ref hg, .ref fg, .ref pg, .ref pr, .int 0, .long 0, .long 1, .int 0, .int 0, .int 0]))]) [1] [0] hX hE hK hP hD hS hA hl.1 lk_X6_230 (c_isCovered l D cI cZ cP sa nw keys moms lens prts luds hnds lats knds rch spd unN unH ptn 53 _) rfl rfl rfl rfl (by decide) 0 3 rfl rfl rfl rfl (Nat.le_of_ble_eq_true rfl) rfl rfl ⟨Nat.le_of_ble_eq_true rfl, Nat.le_of_ble_eq_true rfl⟩ ⟨Nat.le_of_ble_eq_true rfl, Nat.le_of_ble_eq_true rfl⟩ dX6_covered_15 (fun x_161 _ H locs h_161 hP hD hS => ?_)
  have hP : va_P D vwCl [(x0, .inr (6, [.ref nw, .ref sp, .ref im, .ref sc, .ref hg, .ref fg, .ref pg, .ref pr, .int 0, .long 0, .long 1, .int 0, .int 0, .int 0])), (nw, .inr (3, [.int 2, .int 0, .ref keys, .ref moms, .ref lens, .ref prts, .ref luds, .ref hnds, .ref lats, .ref knds, .ref rch, .ref spd, .int 0, .int 0, .int 0, .ref unN, .ref unH, .ref ptn]))] H := hP
  have hD : va_D (va_A (w_covered cI cZ cP x0 nw sp im sc hg fg pg pr keys moms lens prts luds hnds lats knds rch spd unN unH ptn) sz) [(x0, .inr (6, [.ref nw, .ref sp, .ref im, .ref sc, .ref hg, .ref fg, .ref pg, .ref pr, .int 0, .long 0, .long 1, .int 0, .int 0, .int 0])), (nw, .inr (3, [.int 2, .int 0, .ref keys, .ref moms, .ref lens, .ref prts, .ref luds, .ref hnds, .ref lats, .ref knds, .ref rch, .ref spd, .int 0, .int 0, .int 0, .ref unN, .ref unH, .ref ptn]))] := hD
  subst h_161
  refine lv_if_eq (tgt := 27) hx hb dX6_covered_18 (by decide) (fun _ => ?_) (fun c_162 => absurd (by decide) c_162)
  refine lv_iinc (v := 54) (lv' := [(3, .int 54), (1, .long ((0 : Int32).toInt64)), (0, .ref x0)]) hx hb dX6_covered_27 hl (k := 0) rfl (by decide) (by decide) rfl (fun ls hl => ?_)
  refine lv_goto (tgt := 4) hx hb dX6_covered_30 (by decide) ?_
  refine lv_iload_n hx hb dX6_covered_4 rfl (lv_at hl 0 rfl) ?_
  refine lv_bipush (v := 64) hx hb dX6_covered_5 (by decide) ?_
  refine lv_icmp_ge (tgt := 33) hx hb dX6_covered_7 (by decide) (fun c_163 => absurd c_163 (by decide)) (fun _ => ?_)
  refine lv_aload_n hx hb dX6_covered_10 rfl (lv_at hl 2 rfl) ?_
  refine va_get (D := D) (ci := 6) (v := .ref nw) (C := RX6) (T := TX6) (N := 14) hx hb ht inX6 hown hK hP 0 rfl rfl 0 (Nat.le_of_ble_eq_true rfl) (ht _ kw_337) (fun _ h9 => h9) rfl dX6_covered_11 ?_
  refine lv_iload_n hx hb dX6_covered_14 rfl (lv_at hl 0 rfl) ?_
  refine q_Vi (wr := [(x0, .inr (6, [.ref nw, .ref sp, .ref im, .ref sc, .ref hg, .ref fg, .ref pg, .ref pr, .int 0, .long 0, .long 1, .int 0, .int 0, .int 0]))]) [1] [0] hX hE hK hP hD hS hA hl.1 lk_X6_230 (c_isCovered l D cI cZ cP sa nw keys moms lens prts luds hnds lats knds rch spd unN unH ptn 54 _) rfl rfl rfl rfl (by decide) 0 3 rfl rfl rfl rfl (Nat.le_of_ble_eq_true rfl) rfl rfl ⟨Nat.le_of_ble_eq_true rfl, Nat.le_of_ble_eq_true rfl⟩ ⟨Nat.le_of_ble_eq_true rfl, Nat.le_of_ble_eq_true rfl⟩ dX6_covered_15 (fun x_164 _ H locs h_164 hP hD hS => ?_)
  have hP : va_P D vwCl [(x0, .inr (6, [.ref nw, .ref sp, .ref im, .ref sc, .ref hg, .ref fg, .ref pg, .ref pr, .int 0, .long 0, .long 1, .int 0, .int 0, .int 0])), (nw, .inr (3, [.int 2, .int 0, .ref keys, .ref moms, .ref lens, .ref prts, .ref luds, .ref hnds, .ref lats, .ref knds, .ref rch, .ref spd, .int 0, .int 0, .int 0, .ref unN, .ref unH, .ref ptn]))] H := hP
  have hD : va_D (va_A (w_covered cI cZ cP x0 nw sp im sc hg fg pg pr keys moms lens prts luds hnds lats knds rch spd unN unH ptn) sz) [(x0, .inr (6, [.ref nw, .ref sp, .ref im, .ref sc, .ref hg, .ref fg, .ref pg, .ref pr, .int 0, .long 0, .long 1, .int 0, .int 0, .int 0])), (nw, .inr (3, [.int 2, .int 0, .ref keys, .ref moms, .ref lens, .ref prts, .ref luds, .ref hnds, .ref lats, .ref knds, .ref rch, .ref spd, .int 0, .int 0, .int 0, .ref unN, .ref unH, .ref ptn]))] := hD
  subst h_164
  refine lv_if_eq (tgt := 27) hx hb dX6_covered_18 (by decide) (fun _ => ?_) (fun c_165 => absurd (by decide) c_165)
  refine lv_iinc (v := 55) (lv' := [(3, .int 55), (1, .long ((0 : Int32).toInt64)), (0, .ref x0)]) hx hb dX6_covered_27 hl (k := 0) rfl (by decide) (by decide) rfl (fun ls hl => ?_)
  refine lv_goto (tgt := 4) hx hb dX6_covered_30 (by decide) ?_
  refine lv_iload_n hx hb dX6_covered_4 rfl (lv_at hl 0 rfl) ?_
  refine lv_bipush (v := 64) hx hb dX6_covered_5 (by decide) ?_
  refine lv_icmp_ge (tgt := 33) hx hb dX6_covered_7 (by decide) (fun c_166 => absurd c_166 (by decide)) (fun _ => ?_)
  refine lv_aload_n hx hb dX6_covered_10 rfl (lv_at hl 2 rfl) ?_
  refine va_get (D := D) (ci := 6) (v := .ref nw) (C := RX6) (T := TX6) (N := 14) hx hb ht inX6 hown hK hP 0 rfl rfl 0 (Nat.le_of_ble_eq_true rfl) (ht _ kw_337) (fun _ h9 => h9) rfl dX6_covered_11 ?_
  refine lv_iload_n hx hb dX6_covered_14 rfl (lv_at hl 0 rfl) ?_
  refine q_Vi (wr := [(x0, .inr (6, [.ref nw, .ref sp, .ref im, .ref sc, .ref hg, .ref fg, .ref pg, .ref pr, .int 0, .long 0, .long 1, .int 0, .int 0, .int 0]))]) [1] [0] hX hE hK hP hD hS hA hl.1 lk_X6_230 (c_isCovered l D cI cZ cP sa nw keys moms lens prts luds hnds lats knds rch spd unN unH ptn 55 _) rfl rfl rfl rfl (by decide) 0 3 rfl rfl rfl rfl (Nat.le_of_ble_eq_true rfl) rfl rfl ⟨Nat.le_of_ble_eq_true rfl, Nat.le_of_ble_eq_true rfl⟩ ⟨Nat.le_of_ble_eq_true rfl, Nat.le_of_ble_eq_true rfl⟩ dX6_covered_15 (fun x_167 _ H locs h_167 hP hD hS => ?_)
  have hP : va_P D vwCl [(x0, .inr (6, [.ref nw, .ref sp, .ref im, .ref sc, .ref hg, .ref fg, .ref pg, .ref pr, .int 0, .long 0, .long 1, .int 0, .int 0, .int 0])), (nw, .inr (3, [.int 2, .int 0, .ref keys, .ref moms, .ref lens, .ref prts, .ref luds, .ref hnds, .ref lats, .ref knds, .ref rch, .ref spd, .int 0, .int 0, .int 0, .ref unN, .ref unH, .ref ptn]))] H := hP
  have hD : va_D (va_A (w_covered cI cZ cP x0 nw sp im sc hg fg pg pr keys moms lens prts luds hnds lats knds rch spd unN unH ptn) sz) [(x0, .inr (6, [.ref nw, .ref sp, .ref im, .ref sc, .ref hg, .ref fg, .ref pg, .ref pr, .int 0, .long 0, .long 1, .int 0, .int 0, .int 0])), (nw, .inr (3, [.int 2, .int 0, .ref keys, .ref moms, .ref lens, .ref prts, .ref luds, .ref hnds, .ref lats, .ref knds, .ref rch, .ref spd, .int 0, .int 0, .int 0, .ref unN, .ref unH, .ref ptn]))] := hD
  subst h_167
  refine lv_if_eq (tgt := 27) hx hb dX6_covered_18 (by decide) (fun _ => ?_) (fun c_168 => absurd (by decide) c_168)
  refine lv_iinc (v := 56) (lv' := [(3, .int 56), (1, .long ((0 : Int32).toInt64)), (0, .ref x0)]) hx hb dX6_covered_27 hl (k := 0) rfl (by decide) (by decide) rfl (fun ls hl => ?_)
  refine lv_goto (tgt := 4) hx hb dX6_covered_30 (by decide) ?_
  refine lv_iload_n hx hb dX6_covered_4 rfl (lv_at hl 0 rfl) ?_
  refine lv_bipush (v := 64) hx hb dX6_covered_5 (by decide) ?_
  refine lv_icmp_ge (tgt := 33) hx hb dX6_covered_7 (by decide) (fun c_169 => absurd c_169 (by decide)) (fun _ => ?_)
  refine lv_aload_n hx hb dX6_covered_10 rfl (lv_at hl 2 rfl) ?_
  refine va_get (D := D) (ci := 6) (v := .ref nw) (C := RX6) (T := TX6) (N := 14) hx hb ht inX6 hown hK hP 0 rfl rfl 0 (Nat.le_of_ble_eq_true rfl) (ht _ kw_337) (fun _ h9 => h9) rfl dX6_covered_11 ?_
  refine lv_iload_n hx hb dX6_covered_14 rfl (lv_at hl 0 rfl) ?_
  refine q_Vi (wr := [(x0, .inr (6, [.ref nw, .ref sp, .ref im, .ref sc, .ref hg, .ref fg, .ref pg, .ref pr, .int 0, .long 0, .long 1, .int 0, .int 0, .int 0]))]) [1] [0] hX hE hK hP hD hS hA hl.1 lk_X6_230 (c_isCovered l D cI cZ cP sa nw keys moms lens prts luds hnds lats knds rch spd unN unH ptn 56 _) rfl rfl rfl rfl (by decide) 0 3 rfl rfl rfl rfl (Nat.le_of_ble_eq_true rfl) rfl rfl ⟨Nat.le_of_ble_eq_true rfl, Nat.le_of_ble_eq_true rfl⟩ ⟨Nat.le_of_ble_eq_true rfl, Nat.le_of_ble_eq_true rfl⟩ dX6_covered_15 (fun x_170 _ H locs h_170 hP hD hS => ?_)
  have hP : va_P D vwCl [(x0, .inr (6, [.ref nw, .ref sp, .ref im, .ref sc, .ref hg, .ref fg, .ref pg, .ref pr, .int 0, .long 0, .long 1, .int 0, .int 0, .int 0])), (nw, .inr (3, [.int 2, .int 0, .ref keys, .ref moms, .ref lens, .ref prts, .ref luds, .ref hnds, .ref lats, .ref knds, .ref rch, .ref spd, .int 0, .int 0, .int 0, .ref unN, .ref unH, .ref ptn]))] H := hP
  have hD : va_D (va_A (w_covered cI cZ cP x0 nw sp im sc hg fg pg pr keys moms lens prts luds hnds lats knds rch spd unN unH ptn) sz) [(x0, .inr (6, [.ref nw, .ref sp, .ref im, .ref sc, .ref hg, .ref fg, .ref pg, .ref pr, .int 0, .long 0, .long 1, .int 0, .int 0, .int 0])), (nw, .inr (3, [.int 2, .int 0, .ref keys, .ref moms, .ref lens, .ref prts, .ref luds, .ref hnds, .ref lats, .ref knds, .ref rch, .ref spd, .int 0, .int 0, .int 0, .ref unN, .ref unH, .ref ptn]))] := hD
  subst h_170
  refine lv_if_eq (tgt := 27) hx hb dX6_covered_18 (by decide) (fun _ => ?_) (fun c_171 => absurd (by decide) c_171)
  refine lv_iinc (v := 57) (lv' := [(3, .int 57), (1, .long ((0 : Int32).toInt64)), (0, .ref x0)]) hx hb dX6_covered_27 hl (k := 0) rfl (by decide) (by decide) rfl (fun ls hl => ?_)
  refine lv_goto (tgt := 4) hx hb dX6_covered_30 (by decide) ?_
  refine lv_iload_n hx hb dX6_covered_4 rfl (lv_at hl 0 rfl) ?_
  refine lv_bipush (v := 64) hx hb dX6_covered_5 (by decide) ?_
  refine lv_icmp_ge (tgt := 33) hx hb dX6_covered_7 (by decide) (fun c_172 => absurd c_172 (by decide)) (fun _ => ?_)
  refine lv_aload_n hx hb dX6_covered_10 rfl (lv_at hl 2 rfl) ?_
  refine va_get (D := D) (ci := 6) (v := .ref nw) (C := RX6) (T := TX6) (N := 14) hx hb ht inX6 hown hK hP 0 rfl rfl 0 (Nat.le_of_ble_eq_true rfl) (ht _ kw_337) (fun _ h9 => h9) rfl dX6_covered_11 ?_
  refine lv_iload_n hx hb dX6_covered_14 rfl (lv_at hl 0 rfl) ?_
  refine q_Vi (wr := [(x0, .inr (6, [.ref nw, .ref sp, .ref im, .ref sc, .ref hg, .ref fg, .ref pg, .ref pr, .int 0, .long 0, .long 1, .int 0, .int 0, .int 0]))]) [1] [0] hX hE hK hP hD hS hA hl.1 lk_X6_230 (c_isCovered l D cI cZ cP sa nw keys moms lens prts luds hnds lats knds rch spd unN unH ptn 57 _) rfl rfl rfl rfl (by decide) 0 3 rfl rfl rfl rfl (Nat.le_of_ble_eq_true rfl) rfl rfl ⟨Nat.le_of_ble_eq_true rfl, Nat.le_of_ble_eq_true rfl⟩ ⟨Nat.le_of_ble_eq_true rfl, Nat.le_of_ble_eq_true rfl⟩ dX6_covered_15 (fun x_173 _ H locs h_173 hP hD hS => ?_)
  have hP : va_P D vwCl [(x0, .inr (6, [.ref nw, .ref sp, .ref im, .ref sc, .ref hg, .ref fg, .ref pg, .ref pr, .int 0, .long 0, .long 1, .int 0, .int 0, .int 0])), (nw, .inr (3, [.int 2, .int 0, .ref keys, .ref moms, .ref lens, .ref prts, .ref luds, .ref hnds, .ref lats, .ref knds, .ref rch, .ref spd, .int 0, .int 0, .int 0, .ref unN, .ref unH, .ref ptn]))] H := hP
  have hD : va_D (va_A (w_covered cI cZ cP x0 nw sp im sc hg fg pg pr keys moms lens prts luds hnds lats knds rch spd unN unH ptn) sz) [(x0, .inr (6, [.ref nw, .ref sp, .ref im, .ref sc, .ref hg, .ref fg, .ref pg, .ref pr, .int 0, .long 0, .long 1, .int 0, .int 0, .int 0])), (nw, .inr (3, [.int 2, .int 0, .ref keys, .ref moms, .ref lens, .ref prts, .ref luds, .ref hnds, .ref lats, .ref knds, .ref rch, .ref spd, .int 0, .int 0, .int 0, .ref unN, .ref unH, .ref ptn]))] := hD
  subst h_173
  refine lv_if_eq (tgt := 27) hx hb dX6_covered_18 (by decide) (fun _ => ?_) (fun c_174 => absurd (by decide) c_174)
  refine lv_iinc (v := 58) (lv' := [(3, .int 58), (1, .long ((0 : Int32).toInt64)), (0, .ref x0)]) hx hb dX6_covered_27 hl (k := 0) rfl (by decide) (by decide) rfl (fun ls hl => ?_)
  refine lv_goto (tgt := 4) hx hb dX6_covered_30 (by decide) ?_
  refine lv_iload_n hx hb dX6_covered_4 rfl (lv_at hl 0 rfl) ?_
  refine lv_bipush (v := 64) hx hb dX6_covered_5 (by decide) ?_
  refine lv_icmp_ge (tgt := 33) hx hb dX6_covered_7 (by decide) (fun c_175 => absurd c_175 (by decide)) (fun _ => ?_)
  refine lv_aload_n hx hb dX6_covered_10 rfl (lv_at hl 2 rfl) ?_
  refine va_get (D := D) (ci := 6) (v := .ref nw) (C := RX6) (T := TX6) (N := 14) hx hb ht inX6 hown hK hP 0 rfl rfl 0 (Nat.le_of_ble_eq_true rfl) (ht _ kw_337) (fun _ h9 => h9) rfl dX6_covered_11 ?_
  refine lv_iload_n hx hb dX6_covered_14 rfl (lv_at hl 0 rfl) ?_
  refine q_Vi (wr := [(x0, .inr (6, [.ref nw, .ref sp, .ref im, .ref sc, .ref hg, .ref fg, .ref pg, .ref pr, .int 0, .long 0, .long 1, .int 0, .int 0, .int 0]))]) [1] [0] hX hE hK hP hD hS hA hl.1 lk_X6_230 (c_isCovered l D cI cZ cP sa nw keys moms lens prts luds hnds lats knds rch spd unN unH ptn 58 _) rfl rfl rfl rfl (by decide) 0 3 rfl rfl rfl rfl (Nat.le_of_ble_eq_true rfl) rfl rfl ⟨Nat.le_of_ble_eq_true rfl, Nat.le_of_ble_eq_true rfl⟩ ⟨Nat.le_of_ble_eq_true rfl, Nat.le_of_ble_eq_true rfl⟩ dX6_covered_15 (fun x_176 _ H locs h_176 hP hD hS => ?_)
  have hP : va_P D vwCl [(x0, .inr (6, [.ref nw, .ref sp, .ref im, .ref sc, .ref hg, .ref fg, .ref pg, .ref pr, .int 0, .long 0, .long 1, .int 0, .int 0, .int 0])), (nw, .inr (3, [.int 2, .int 0, .ref keys, .ref moms, .ref lens, .ref prts, .ref luds, .ref hnds, .ref lats, .ref knds, .ref rch, .ref spd, .int 0, .int 0, .int 0, .ref unN, .ref unH, .ref ptn]))] H := hP
  have hD : va_D (va_A (w_covered cI cZ cP x0 nw sp im sc hg fg pg pr keys moms lens prts luds hnds lats knds rch spd unN unH ptn) sz) [(x0, .inr (6, [.ref nw, .ref sp, .ref im, .ref sc, .ref hg, .ref fg, .ref pg, .ref pr, .int 0, .long 0, .long 1, .int 0, .int 0, .int 0])), (nw, .inr (3, [.int 2, .int 0, .ref keys, .ref moms, .ref lens, .ref prts, .ref luds, .ref hnds, .ref lats, .ref knds, .ref rch, .ref spd, .int 0, .int 0, .int 0, .ref unN, .ref unH, .ref ptn]))] := hD
  subst h_176
  refine lv_if_eq (tgt := 27) hx hb dX6_covered_18 (by decide) (fun _ => ?_) (fun c_177 => absurd (by decide) c_177)
  refine lv_iinc (v := 59) (lv' := [(3, .int 59), (1, .long ((0 : Int32).toInt64)), (0, .ref x0)]) hx hb dX6_covered_27 hl (k := 0) rfl (by decide) (by decide) rfl (fun ls hl => ?_)
  refine lv_goto (tgt := 4) hx hb dX6_covered_30 (by decide) ?_
  refine lv_iload_n hx hb dX6_covered_4 rfl (lv_at hl 0 rfl) ?_
  refine lv_bipush (v := 64) hx hb dX6_covered_5 (by decide) ?_
  refine lv_icmp_ge (tgt := 33) hx hb dX6_covered_7 (by decide) (fun c_178 => absurd c_178 (by decide)) (fun _ => ?_)
  refine lv_aload_n hx hb dX6_covered_10 rfl (lv_at hl 2 rfl) ?_
  refine va_get (D := D) (ci := 6) (v := .ref nw) (C := RX6) (T := TX6) (N := 14) hx hb ht inX6 hown hK hP 0 rfl rfl 0 (Nat.le_of_ble_eq_true rfl) (ht _ kw_337) (fun _ h9 => h9) rfl dX6_covered_11 ?_
  refine lv_iload_n hx hb dX6_covered_14 rfl (lv_at hl 0 rfl) ?_
  refine q_Vi (wr := [(x0, .inr (6, [.ref nw, .ref sp, .ref im, .ref sc, .ref hg, .ref fg, .ref pg, .ref pr, .int 0, .long 0, .long 1, .int 0, .int 0, .int 0]))]) [1] [0] hX hE hK hP hD hS hA hl.1 lk_X6_230 (c_isCovered l D cI cZ cP sa nw keys moms lens prts luds hnds lats knds rch spd unN unH ptn 59 _) rfl rfl rfl rfl (by decide) 0 3 rfl rfl rfl rfl (Nat.le_of_ble_eq_true rfl) rfl rfl ⟨Nat.le_of_ble_eq_true rfl, Nat.le_of_ble_eq_true rfl⟩ ⟨Nat.le_of_ble_eq_true rfl, Nat.le_of_ble_eq_true rfl⟩ dX6_covered_15 (fun x_179 _ H locs h_179 hP hD hS => ?_)
  have hP : va_P D vwCl [(x0, .inr (6, [.ref nw, .ref sp, .ref im, .ref sc, .ref hg, .ref fg, .ref pg, .ref pr, .int 0, .long 0, .long 1, .int 0, .int 0, .int 0])), (nw, .inr (3, [.int 2, .int 0, .ref keys, .ref moms, .ref lens, .ref prts, .ref luds, .ref hnds, .ref lats, .ref knds, .ref rch, .ref spd, .int 0, .int 0, .int 0, .ref unN, .ref unH, .ref ptn]))] H := hP
  have hD : va_D (va_A (w_covered cI cZ cP x0 nw sp im sc hg fg pg pr keys moms lens prts luds hnds lats knds rch spd unN unH ptn) sz) [(x0, .inr (6, [.ref nw, .ref sp, .ref im, .ref sc, .ref hg, .ref fg, .ref pg, .ref pr, .int 0, .long 0, .long 1, .int 0, .int 0, .int 0])), (nw, .inr (3, [.int 2, .int 0, .ref keys, .ref moms, .ref lens, .ref prts, .ref luds, .ref hnds, .ref lats, .ref knds, .ref rch, .ref spd, .int 0, .int 0, .int 0, .ref unN, .ref unH, .ref ptn]))] := hD
  subst h_179
  refine lv_if_eq (tgt := 27) hx hb dX6_covered_18 (by decide) (fun _ => ?_) (fun c_180 => absurd (by decide) c_180)
  refine lv_iinc (v := 60) (lv' := [(3, .int 60), (1, .long ((0 : Int32).toInt64)), (0, .ref x0)]) hx hb dX6_covered_27 hl (k := 0) rfl (by decide) (by decide) rfl (fun ls hl => ?_)
  refine lv_goto (tgt := 4) hx hb dX6_covered_30 (by decide) ?_
  refine lv_iload_n hx hb dX6_covered_4 rfl (lv_at hl 0 rfl) ?_
  refine lv_bipush (v := 64) hx hb dX6_covered_5 (by decide) ?_
  refine lv_icmp_ge (tgt := 33) hx hb dX6_covered_7 (by decide) (fun c_181 => absurd c_181 (by decide)) (fun _ => ?_)
  refine lv_aload_n hx hb dX6_covered_10 rfl (lv_at hl 2 rfl) ?_
  refine va_get (D := D) (ci := 6) (v := .ref nw) (C := RX6) (T := TX6) (N := 14) hx hb ht inX6 hown hK hP 0 rfl rfl 0 (Nat.le_of_ble_eq_true rfl) (ht _ kw_337) (fun _ h9 => h9) rfl dX6_covered_11 ?_
  refine lv_iload_n hx hb dX6_covered_14 rfl (lv_at hl 0 rfl) ?_
  refine q_Vi (wr := [(x0, .inr (6, [.ref nw, .ref sp, .ref im, .ref sc, .ref hg, .ref fg, .ref pg, .ref pr, .int 0, .long 0, .long 1, .int 0, .int 0, .int 0]))]) [1] [0] hX hE hK hP hD hS hA hl.1 lk_X6_230 (c_isCovered l D cI cZ cP sa nw keys moms lens prts luds hnds lats knds rch spd unN unH ptn 60 _) rfl rfl rfl rfl (by decide) 0 3 rfl rfl rfl rfl (Nat.le_of_ble_eq_true rfl) rfl rfl ⟨Nat.le_of_ble_eq_true rfl, Nat.le_of_ble_eq_true rfl⟩ ⟨Nat.le_of_ble_eq_true rfl, Nat.le_of_ble_eq_true rfl⟩ dX6_covered_15 (fun x_182 _ H locs h_182 hP hD hS => ?_)
  have hP : va_P D vwCl [(x0, .inr (6, [.ref nw, .ref sp, .ref im, .ref sc, .ref hg, .ref fg, .ref pg, .ref pr, .int 0, .long 0, .long 1, .int 0, .int 0, .int 0])), (nw, .inr (3, [.int 2, .int 0, .ref keys, .ref moms, .ref lens, .ref prts, .ref luds, .ref hnds, .ref lats, .ref knds, .ref rch, .ref spd, .int 0, .int 0, .int 0, .ref unN, .ref unH, .ref ptn]))] H := hP
  have hD : va_D (va_A (w_covered cI cZ cP x0 nw sp im sc hg fg pg pr keys moms lens prts luds hnds lats knds rch spd unN unH ptn) sz) [(x0, .inr (6, [.ref nw, .ref sp, .ref im, .ref sc, .ref hg, .ref fg, .ref pg, .ref pr, .int 0, .long 0, .long 1, .int 0, .int 0, .int 0])), (nw, .inr (3, [.int 2, .int 0, .ref keys, .ref moms, .ref lens, .ref prts, .ref luds, .ref hnds, .ref lats, .ref knds, .ref rch, .ref spd, .int 0, .int 0, .int 0, .ref unN, .ref unH, .ref ptn]))] := hD
  subst h_182
  refine lv_if_eq (tgt := 27) hx hb dX6_covered_18 (by decide) (fun _ => ?_) (fun c_183 => absurd (by decide) c_183)
  refine lv_iinc (v := 61) (lv' := [(3, .int 61), (1, .long ((0 : Int32).toInt64)), (0, .ref x0)]) hx hb dX6_covered_27 hl (k := 0) rfl (by decide) (by decide) rfl (fun ls hl => ?_)
  refine lv_goto (tgt := 4) hx hb dX6_covered_30 (by decide) ?_
  refine lv_iload_n hx hb dX6_covered_4 rfl (lv_at hl 0 rfl) ?_
  refine lv_bipush (v := 64) hx hb dX6_covered_5 (by decide) ?_
  refine lv_icmp_ge (tgt := 33) hx hb dX6_covered_7 (by decide) (fun c_184 => absurd c_184 (by decide)) (fun _ => ?_)
  refine lv_aload_n hx hb dX6_covered_10 rfl (lv_at hl 2 rfl) ?_
  refine va_get (D := D) (ci := 6) (v := .ref nw) (C := RX6) (T := TX6) (N := 14) hx hb ht inX6 hown hK hP 0 rfl rfl 0 (Nat.le_of_ble_eq_true rfl) (ht _ kw_337) (fun _ h9 => h9) rfl dX6_covered_11 ?_
  refine lv_iload_n hx hb dX6_covered_14 rfl (lv_at hl 0 rfl) ?_
  refine q_Vi (wr := [(x0, .inr (6, [.ref nw, .ref sp, .ref im, .ref sc, .ref hg, .ref fg, .ref pg, .ref pr, .int 0, .long 0, .long 1, .int 0, .int 0, .int 0]))]) [1] [0] hX hE hK hP hD hS hA hl.1 lk_X6_230 (c_isCovered l D cI cZ cP sa nw keys moms lens prts luds hnds lats knds rch spd unN unH ptn 61 _) rfl rfl rfl rfl (by decide) 0 3 rfl rfl rfl rfl (Nat.le_of_ble_eq_true rfl) rfl rfl ⟨Nat.le_of_ble_eq_true rfl, Nat.le_of_ble_eq_true rfl⟩ ⟨Nat.le_of_ble_eq_true rfl, Nat.le_of_ble_eq_true rfl⟩ dX6_covered_15 (fun x_185 _ H locs h_185 hP hD hS => ?_)
  have hP : va_P D vwCl [(x0, .inr (6, [.ref nw, .ref sp, .ref im, .ref sc, .ref hg, .ref fg, .ref pg, .ref pr, .int 0, .long 0, .long 1, .int 0, .int 0, .int 0])), (nw, .inr (3, [.int 2, .int 0, .ref keys, .ref moms, .ref lens, .ref prts, .ref luds, .ref hnds, .ref lats, .ref knds, .ref rch, .ref spd, .int 0, .int 0, .int 0, .ref unN, .ref unH, .ref ptn]))] H := hP
  have hD : va_D (va_A (w_covered cI cZ cP x0 nw sp im sc hg fg pg pr keys moms lens prts luds hnds lats knds rch spd unN unH ptn) sz) [(x0, .inr (6, [.ref nw, .ref sp, .ref im, .ref sc, .ref hg, .ref fg, .ref pg, .ref pr, .int 0, .long 0, .long 1, .int 0, .int 0, .int 0])), (nw, .inr (3, [.int 2, .int 0, .ref keys, .ref moms, .ref lens, .ref prts, .ref luds, .ref hnds, .ref lats, .ref knds, .ref rch, .ref spd, .int 0, .int 0, .int 0, .ref unN, .ref unH, .ref ptn]))] := hD
  subst h_185
  refine lv_if_eq (tgt := 27) hx hb dX6_covered_18 (by decide) (fun _ => ?_) (fun c_186 => absurd (by decide) c_186)
  refine lv_iinc (v := 62) (lv' := [(3, .int 62), (1, .long ((0 : Int32).toInt64)), (0, .ref x0)]) hx hb dX6_covered_27 hl (k := 0) rfl (by decide) (by decide) rfl (fun ls hl => ?_)
  refine lv_goto (tgt := 4) hx hb dX6_covered_30 (by decide) ?_
  refine lv_iload_n hx hb dX6_covered_4 rfl (lv_at hl 0 rfl) ?_
  refine lv_bipush (v := 64) hx hb dX6_covered_5 (by decide) ?_
  refine lv_icmp_ge (tgt := 33) hx hb dX6_covered_7 (by decide) (fun c_187 => absurd c_187 (by decide)) (fun _ => ?_)
  refine lv_aload_n hx hb dX6_covered_10 rfl (lv_at hl 2 rfl) ?_
  refine va_get (D := D) (ci := 6) (v := .ref nw) (C := RX6) (T := TX6) (N := 14) hx hb ht inX6 hown hK hP 0 rfl rfl 0 (Nat.le_of_ble_eq_true rfl) (ht _ kw_337) (fun _ h9 => h9) rfl dX6_covered_11 ?_
  refine lv_iload_n hx hb dX6_covered_14 rfl (lv_at hl 0 rfl) ?_
  refine q_Vi (wr := [(x0, .inr (6, [.ref nw, .ref sp, .ref im, .ref sc, .ref hg, .ref fg, .ref pg, .ref pr, .int 0, .long 0, .long 1, .int 0, .int 0, .int 0]))]) [1] [0] hX hE hK hP hD hS hA hl.1 lk_X6_230 (c_isCovered l D cI cZ cP sa nw keys moms lens prts luds hnds lats knds rch spd unN unH ptn 62 _) rfl rfl rfl rfl (by decide) 0 3 rfl rfl rfl rfl (Nat.le_of_ble_eq_true rfl) rfl rfl ⟨Nat.le_of_ble_eq_true rfl, Nat.le_of_ble_eq_true rfl⟩ ⟨Nat.le_of_ble_eq_true rfl, Nat.le_of_ble_eq_true rfl⟩ dX6_covered_15 (fun x_188 _ H locs h_188 hP hD hS => ?_)
  have hP : va_P D vwCl [(x0, .inr (6, [.ref nw, .ref sp, .ref im, .ref sc, .ref hg, .ref fg, .ref pg, .ref pr, .int 0, .long 0, .long 1, .int 0, .int 0, .int 0])), (nw, .inr (3, [.int 2, .int 0, .ref keys, .ref moms, .ref lens, .ref prts, .ref luds, .ref hnds, .ref lats, .ref knds, .ref rch, .ref spd, .int 0, .int 0, .int 0, .ref unN, .ref unH, .ref ptn]))] H := hP
  have hD : va_D (va_A (w_covered cI cZ cP x0 nw sp im sc hg fg pg pr keys moms lens prts luds hnds lats knds rch spd unN unH ptn) sz) [(x0, .inr (6, [.ref nw, .ref sp, .ref im, .ref sc, .ref hg, .ref fg, .ref pg, .ref pr, .int 0, .long 0, .long 1, .int 0, .int 0, .int 0])), (nw, .inr (3, [.int 2, .int 0, .ref keys, .ref moms, .ref lens, .ref prts, .ref luds, .ref hnds, .ref lats, .ref knds, .ref rch, .ref spd, .int 0, .int 0, .int 0, .ref unN, .ref unH, .ref ptn]))] := hD
  subst h_188
  refine lv_if_eq (tgt := 27) hx hb dX6_covered_18 (by decide) (fun _ => ?_) (fun c_189 => absurd (by decide) c_189)
  refine lv_iinc (v := 63) (lv' := [(3, .int 63), (1, .long ((0 : Int32).toInt64)), (0, .ref x0)]) hx hb dX6_covered_27 hl (k := 0) rfl (by decide) (by decide) rfl (fun ls hl => ?_)
  refine lv_goto (tgt := 4) hx hb dX6_covered_30 (by decide) ?_
  refine lv_iload_n hx hb dX6_covered_4 rfl (lv_at hl 0 rfl) ?_
  refine lv_bipush (v := 64) hx hb dX6_covered_5 (by decide) ?_
  refine lv_icmp_ge (tgt := 33) hx hb dX6_covered_7 (by decide) (fun c_190 => absurd c_190 (by decide)) (fun _ => ?_)
  refine lv_aload_n hx hb dX6_covered_10 rfl (lv_at hl 2 rfl) ?_
  refine va_get (D := D) (ci := 6) (v := .ref nw) (C := RX6) (T := TX6) (N := 14) hx hb ht inX6 hown hK hP 0 rfl rfl 0 (Nat.le_of_ble_eq_true rfl) (ht _ kw_337) (fun _ h9 => h9) rfl dX6_covered_11 ?_
  refine lv_iload_n hx hb dX6_covered_14 rfl (lv_at hl 0 rfl) ?_
  refine q_Vi (wr := [(x0, .inr (6, [.ref nw, .ref sp, .ref im, .ref sc, .ref hg, .ref fg, .ref pg, .ref pr, .int 0, .long 0, .long 1, .int 0, .int 0, .int 0]))]) [1] [0] hX hE hK hP hD hS hA hl.1 lk_X6_230 (c_isCovered l D cI cZ cP sa nw keys moms lens prts luds hnds lats knds rch spd unN unH ptn 63 _) rfl rfl rfl rfl (by decide) 0 3 rfl rfl rfl rfl (Nat.le_of_ble_eq_true rfl) rfl rfl ⟨Nat.le_of_ble_eq_true rfl, Nat.le_of_ble_eq_true rfl⟩ ⟨Nat.le_of_ble_eq_true rfl, Nat.le_of_ble_eq_true rfl⟩ dX6_covered_15 (fun x_191 _ H locs h_191 hP hD hS => ?_)
  have hP : va_P D vwCl [(x0, .inr (6, [.ref nw, .ref sp, .ref im, .ref sc, .ref hg, .ref fg, .ref pg, .ref pr, .int 0, .long 0, .long 1, .int 0, .int 0, .int 0])), (nw, .inr (3, [.int 2, .int 0, .ref keys, .ref moms, .ref lens, .ref prts, .ref luds, .ref hnds, .ref lats, .ref knds, .ref rch, .ref spd, .int 0, .int 0, .int 0, .ref unN, .ref unH, .ref ptn]))] H := hP
  have hD : va_D (va_A (w_covered cI cZ cP x0 nw sp im sc hg fg pg pr keys moms lens prts luds hnds lats knds rch spd unN unH ptn) sz) [(x0, .inr (6, [.ref nw, .ref sp, .ref im, .ref sc, .ref hg, .ref fg, .ref pg, .ref pr, .int 0, .long 0, .long 1, .int 0, .int 0, .int 0])), (nw, .inr (3, [.int 2, .int 0, .ref keys, .ref moms, .ref lens, .ref prts, .ref luds, .ref hnds, .ref lats, .ref knds, .ref rch, .ref spd, .int 0, .int 0, .int 0, .ref unN, .ref unH, .ref ptn]))] := hD
  subst h_191
  refine lv_if_eq (tgt := 27) hx hb dX6_covered_18 (by decide) (fun _ => ?_) (fun c_192 => absurd (by decide) c_192)
  refine lv_iinc (v := 64) (lv' := [(3, .int 64), (1, .long ((0 : Int32).toInt64)), (0, .ref x0)]) hx hb dX6_covered_27 hl (k := 0) rfl (by decide) (by decide) rfl (fun ls hl => ?_)
  refine lv_goto (tgt := 4) hx hb dX6_covered_30 (by decide) ?_
  refine lv_iload_n hx hb dX6_covered_4 rfl (lv_at hl 0 rfl) ?_
  refine lv_bipush (v := 64) hx hb dX6_covered_5 (by decide) ?_
  refine lv_icmp_ge (tgt := 33) hx hb dX6_covered_7 (by decide) (fun _ => ?_) (fun c_193 => absurd (by decide) c_193)
  refine lv_lload_n hx hb dX6_covered_33 rfl (lv_at hl 1 rfl) ?_
  exact q_lret hX hr hlk () rfl (hP.sub [] rfl) (hD.sub [] (by decide) rfl) hS dX6_covered_34
abbrev w_gatherEnds (cI cZ cP : ClassId) (pg : Nat) (ends : Nat) (ear : Nat) (ltr : Nat) (nw : Nat) (keys : Nat) (moms : Nat) (lens : Nat) (prts : Nat) (luds : Nat) (hnds : Nat) (lats : Nat) (knds : Nat) (rch : Nat) (spd : Nat) (unN : Nat) (unH : Nat) (ptn : Nat) : va_W := [(pg, .inr (2, [.int 0, .int 0, .int 0, .ref ends, .int 0, .ref ear, .ref ltr, .int 0])), (nw, .inr (3, [.int 2, .int 0, .ref keys, .ref moms, .ref lens, .ref prts, .ref luds, .ref hnds, .ref lats, .ref knds, .ref rch, .ref spd, .int 0, .int 0, .int 0, .ref unN, .ref unH, .ref ptn]))]
set_option maxHeartbeats 4000000 in
set_option maxRecDepth 100000 in
theorem c_gatherEnds (l : Launch) (D : va_G) (cI cZ cP : ClassId) (sa : Nat → Nat) (pg : Nat) (ends : Nat) (ear : Nat) (ltr : Nat) (nw : Nat) (keys : Nat) (moms : Nat) (lens : Nat) (prts : Nat) (luds : Nat) (hnds : Nat) (lats : Nat) (knds : Nat) (rch : Nat) (spd : Nat) (unN : Nat) (unH : Nat) (ptn : Nat) (sz : Nat) : Met l yX2_gatherEnds (qW yX2_gatherEnds cX2_gatherEnds 6 none) ({ frames := 0, cells := 0, slots := 0, locals := 0 } : Room) (qP D (TY cI cZ cP) sa [.ref pg, .ref nw] (w_gatherEnds cI cZ cP pg ends ear ltr nw keys moms lens prts luds hnds lats knds rch spd unN unH ptn) sz) (qQv D (w_gatherEnds cI cZ cP pg ends ear ltr nw keys moms lens prts luds hnds lats knds rch spd unN unH ptn) sz (fun _ : Unit => True) (fun _ => [(pg, .inr (2, [.int 0, .int 0, .int 0, .ref ends, .int 0, .ref ear, .ref ltr, .int 0])), (nw, .inr (3, [.int 2, .int 0, .ref keys, .ref moms, .ref lens, .ref prts, .ref luds, .ref hnds, .ref lats, .ref knds, .ref rch, .ref spd, .int 0, .int 0, .int 0, .ref unN, .ref unH, .ref ptn]))])) 0 0 (va_A (w_gatherEnds cI cZ cP pg ends ear ltr nw keys moms lens prts luds hnds lats knds rch spd unN unH ptn) sz) := by
  refine q_enter (by decide) (Nat.le_of_ble_eq_true rfl) ?_
  intro p e s m below meth c ls hX hr hlk hnm hE hK hP hD hS hA hl
  obtain ⟨hx, hb, hml, hown, ht⟩ := id hX
  have hl : lv_has ls 6 [(0, .ref pg), (1, .ref nw)] := hl
  refine lv_lconst (v := 0) hx hb dX2_gatherEnds_0 (by decide) ?_
  refine q_l (z := ((0 : Int32).toInt64)) (by decide) ?_
  refine lv_lstore_n (lv' := [(2, .long ((0 : Int32).toInt64)), (0, .ref pg), (1, .ref nw)]) hx hb dX2_gatherEnds_1 rfl hl (by decide) rfl (fun ls hl => ?_)
  refine lv_iconst (v := 0) hx hb dX2_gatherEnds_2 (by decide) ?_
  refine lv_istore (lv' := [(4, .int 0), (2, .long ((0 : Int32).toInt64)), (0, .ref pg), (1, .ref nw)]) hx hb dX2_gatherEnds_3 hl (by decide) rfl (fun ls hl => ?_)
  refine lv_iload hx hb dX2_gatherEnds_5 (lv_at hl 0 rfl) ?_
  refine lv_aload_n hx hb dX2_gatherEnds_7 rfl (lv_at hl 3 rfl) ?_
  refine va_get (D := D) (ci := 3) (v := .int 0) (C := RX3) (T := TX3) (N := 18) hx hb ht inX3 hown hK hP 1 rfl rfl 1 (Nat.le_of_ble_eq_true rfl) (ht _ kw_125) (fun _ h9 => h9) rfl dX2_gatherEnds_8 ?_
  refine lv_icmp_ge (tgt := 41) hx hb dX2_gatherEnds_11 (by decide) (fun _ => ?_) (fun c_1 => absurd (by decide) c_1)
  refine lv_aload_n hx hb dX2_gatherEnds_41 rfl (lv_at hl 2 rfl) ?_
  refine lv_iconst (v := 0) hx hb dX2_gatherEnds_42 (by decide) ?_
  refine va_put (D := D) (ci := 2) (v := .int 0) (ty := .int) (C := RX2) (T := TX2) (N := 8) hx hb ht inX2 tyX2 tyX2_ok nmX2 hown hK hP hD hS 0 rfl rfl 4 (Nat.le_of_ble_eq_true rfl) (ht _ kw_295) (fun _ h9 => h9) rfl (by decide +kernel) rfl rfl (Nat.le_of_ble_eq_true rfl) dX2_gatherEnds_43 (fun H locs hP hD hS => ?_)
  have hP : va_P D vwCl [(pg, .inr (2, [.int 0, .int 0, .int 0, .ref ends, .int 0, .ref ear, .ref ltr, .int 0])), (nw, .inr (3, [.int 2, .int 0, .ref keys, .ref moms, .ref lens, .ref prts, .ref luds, .ref hnds, .ref lats, .ref knds, .ref rch, .ref spd, .int 0, .int 0, .int 0, .ref unN, .ref unH, .ref ptn]))] H := hP
  have hD : va_D (va_A (w_gatherEnds cI cZ cP pg ends ear ltr nw keys moms lens prts luds hnds lats knds rch spd unN unH ptn) sz) [(pg, .inr (2, [.int 0, .int 0, .int 0, .ref ends, .int 0, .ref ear, .ref ltr, .int 0])), (nw, .inr (3, [.int 2, .int 0, .ref keys, .ref moms, .ref lens, .ref prts, .ref luds, .ref hnds, .ref lats, .ref knds, .ref rch, .ref spd, .int 0, .int 0, .int 0, .ref unN, .ref unH, .ref ptn]))] := hD
  refine lv_iconst (v := 0) hx hb dX2_gatherEnds_46 (by decide) ?_
  refine lv_istore (lv' := [(4, .int 0), (2, .long ((0 : Int32).toInt64)), (0, .ref pg), (1, .ref nw)]) hx hb dX2_gatherEnds_47 hl (by decide) rfl (fun ls hl => ?_)
  refine lv_iload hx hb dX2_gatherEnds_49 (lv_at hl 0 rfl) ?_
  refine lv_aload_n hx hb dX2_gatherEnds_51 rfl (lv_at hl 3 rfl) ?_
  refine va_get (D := D) (ci := 3) (v := .int 0) (C := RX3) (T := TX3) (N := 18) hx hb ht inX3 hown hK hP 1 rfl rfl 1 (Nat.le_of_ble_eq_true rfl) (ht _ kw_125) (fun _ h9 => h9) rfl dX2_gatherEnds_52 ?_
  refine lv_icmp_ge (tgt := 131) hx hb dX2_gatherEnds_55 (by decide) (fun _ => ?_) (fun c_2 => absurd (by decide) c_2)
  exact q_vret hX hr hlk () trivial (hP.sub [0, 1] rfl) (hD.sub [0, 1] (by decide) rfl) hS dX2_gatherEnds_131
abbrev w_gatherPairs (cI cZ cP : ClassId) (pg : Nat) (ends : Nat) (ear : Nat) (ltr : Nat) (nw : Nat) (keys : Nat) (moms : Nat) (lens : Nat) (prts : Nat) (luds : Nat) (hnds : Nat) (lats : Nat) (knds : Nat) (rch : Nat) (spd : Nat) (unN : Nat) (unH : Nat) (ptn : Nat) : va_W := [(pg, .inr (2, [.int 0, .int 0, .int 0, .ref ends, .int 0, .ref ear, .ref ltr, .int 0])), (nw, .inr (3, [.int 2, .int 0, .ref keys, .ref moms, .ref lens, .ref prts, .ref luds, .ref hnds, .ref lats, .ref knds, .ref rch, .ref spd, .int 0, .int 0, .int 0, .ref unN, .ref unH, .ref ptn]))]
set_option maxHeartbeats 4000000 in
set_option maxRecDepth 100000 in
theorem c_gatherPairs (l : Launch) (D : va_G) (cI cZ cP : ClassId) (sa : Nat → Nat) (pg : Nat) (ends : Nat) (ear : Nat) (ltr : Nat) (nw : Nat) (keys : Nat) (moms : Nat) (lens : Nat) (prts : Nat) (luds : Nat) (hnds : Nat) (lats : Nat) (knds : Nat) (rch : Nat) (spd : Nat) (unN : Nat) (unH : Nat) (ptn : Nat) (sz : Nat) : Met l yX2_gatherPairs (qW yX2_gatherPairs cX2_gatherPairs 5 none) ({ frames := 0, cells := 0, slots := 0, locals := 0 } : Room) (qP D (TY cI cZ cP) sa [.ref pg, .ref nw] (w_gatherPairs cI cZ cP pg ends ear ltr nw keys moms lens prts luds hnds lats knds rch spd unN unH ptn) sz) (qQv D (w_gatherPairs cI cZ cP pg ends ear ltr nw keys moms lens prts luds hnds lats knds rch spd unN unH ptn) sz (fun _ : Unit => True) (fun _ => [(pg, .inr (2, [.int 0, .int 0, .int 0, .ref ends, .int 0, .ref ear, .ref ltr, .int 0])), (nw, .inr (3, [.int 2, .int 0, .ref keys, .ref moms, .ref lens, .ref prts, .ref luds, .ref hnds, .ref lats, .ref knds, .ref rch, .ref spd, .int 0, .int 0, .int 0, .ref unN, .ref unH, .ref ptn]))])) 0 0 (va_A (w_gatherPairs cI cZ cP pg ends ear ltr nw keys moms lens prts luds hnds lats knds rch spd unN unH ptn) sz) := by
  refine q_enter (by decide) (Nat.le_of_ble_eq_true rfl) ?_
  intro p e s m below meth c ls hX hr hlk hnm hE hK hP hD hS hA hl
  obtain ⟨hx, hb, hml, hown, ht⟩ := id hX
  have hl : lv_has ls 5 [(0, .ref pg), (1, .ref nw)] := hl
  refine lv_aload_n hx hb dX2_gatherPairs_0 rfl (lv_at hl 0 rfl) ?_
  refine lv_iconst (v := 0) hx hb dX2_gatherPairs_1 (by decide) ?_
  refine va_put (D := D) (ci := 2) (v := .int 0) (ty := .int) (C := RX2) (T := TX2) (N := 8) hx hb ht inX2 tyX2 tyX2_ok nmX2 hown hK hP hD hS 0 rfl rfl 7 (Nat.le_of_ble_eq_true rfl) (ht _ kw_298) (fun _ h9 => h9) rfl (by decide +kernel) rfl rfl (Nat.le_of_ble_eq_true rfl) dX2_gatherPairs_2 (fun H locs hP hD hS => ?_)
  have hP : va_P D vwCl [(pg, .inr (2, [.int 0, .int 0, .int 0, .ref ends, .int 0, .ref ear, .ref ltr, .int 0])), (nw, .inr (3, [.int 2, .int 0, .ref keys, .ref moms, .ref lens, .ref prts, .ref luds, .ref hnds, .ref lats, .ref knds, .ref rch, .ref spd, .int 0, .int 0, .int 0, .ref unN, .ref unH, .ref ptn]))] H := hP
  have hD : va_D (va_A (w_gatherPairs cI cZ cP pg ends ear ltr nw keys moms lens prts luds hnds lats knds rch spd unN unH ptn) sz) [(pg, .inr (2, [.int 0, .int 0, .int 0, .ref ends, .int 0, .ref ear, .ref ltr, .int 0])), (nw, .inr (3, [.int 2, .int 0, .ref keys, .ref moms, .ref lens, .ref prts, .ref luds, .ref hnds, .ref lats, .ref knds, .ref rch, .ref spd, .int 0, .int 0, .int 0, .ref unN, .ref unH, .ref ptn]))] := hD
  refine lv_iconst (v := 0) hx hb dX2_gatherPairs_5 (by decide) ?_
  refine lv_istore_n (lv' := [(2, .int 0), (0, .ref pg), (1, .ref nw)]) hx hb dX2_gatherPairs_6 rfl hl (by decide) rfl (fun ls hl => ?_)
  refine lv_iload_n hx hb dX2_gatherPairs_7 rfl (lv_at hl 0 rfl) ?_
  refine lv_aload_n hx hb dX2_gatherPairs_8 rfl (lv_at hl 2 rfl) ?_
  refine va_get (D := D) (ci := 3) (v := .int 0) (C := RX3) (T := TX3) (N := 18) hx hb ht inX3 hown hK hP 1 rfl rfl 1 (Nat.le_of_ble_eq_true rfl) (ht _ kw_125) (fun _ h9 => h9) rfl dX2_gatherPairs_9 ?_
  refine lv_icmp_ge (tgt := 150) hx hb dX2_gatherPairs_12 (by decide) (fun _ => ?_) (fun c_1 => absurd (by decide) c_1)
  exact q_vret hX hr hlk () trivial (hP.sub [0, 1] rfl) (hD.sub [0, 1] (by decide) rfl) hS dX2_gatherPairs_150
abbrev w_gather (cI cZ cP : ClassId) (pg : Nat) (ends : Nat) (ear : Nat) (ltr : Nat) (nw : Nat) (keys : Nat) (moms : Nat) (lens : Nat) (prts : Nat) (luds : Nat) (hnds : Nat) (lats : Nat) (knds : Nat) (rch : Nat) (spd : Nat) (unN : Nat) (unH : Nat) (ptn : Nat) : va_W := [(pg, .inr (2, [.int 0, .int 0, .int 0, .ref ends, .int 0, .ref ear, .ref ltr, .int 0])), (nw, .inr (3, [.int 2, .int 0, .ref keys, .ref moms, .ref lens, .ref prts, .ref luds, .ref hnds, .ref lats, .ref knds, .ref rch, .ref spd, .int 0, .int 0, .int 0, .ref unN, .ref unH, .ref ptn]))]
set_option maxHeartbeats 4000000 in
set_option maxRecDepth 100000 in
theorem c_gather (l : Launch) (D : va_G) (cI cZ cP : ClassId) (sa : Nat → Nat) (pg : Nat) (ends : Nat) (ear : Nat) (ltr : Nat) (nw : Nat) (keys : Nat) (moms : Nat) (lens : Nat) (prts : Nat) (luds : Nat) (hnds : Nat) (lats : Nat) (knds : Nat) (rch : Nat) (spd : Nat) (unN : Nat) (unH : Nat) (ptn : Nat) (sz : Nat) : Met l yX2_gather (qW yX2_gather cX2_gather 2 none) ({ frames := 1, cells := 0, slots := 0, locals := 25 } : Room) (qP D (TY cI cZ cP) sa [.ref pg, .ref nw] (w_gather cI cZ cP pg ends ear ltr nw keys moms lens prts luds hnds lats knds rch spd unN unH ptn) sz) (qQv D (w_gather cI cZ cP pg ends ear ltr nw keys moms lens prts luds hnds lats knds rch spd unN unH ptn) sz (fun _ : Unit => True) (fun _ => [(pg, .inr (2, [.int 0, .int 0, .int 0, .ref ends, .int 0, .ref ear, .ref ltr, .int 0])), (nw, .inr (3, [.int 2, .int 0, .ref keys, .ref moms, .ref lens, .ref prts, .ref luds, .ref hnds, .ref lats, .ref knds, .ref rch, .ref spd, .int 0, .int 0, .int 0, .ref unN, .ref unH, .ref ptn]))])) 0 0 (va_A (w_gather cI cZ cP pg ends ear ltr nw keys moms lens prts luds hnds lats knds rch spd unN unH ptn) sz) := by
  refine q_enter (by decide) (Nat.le_of_ble_eq_true rfl) ?_
  intro p e s m below meth c ls hX hr hlk hnm hE hK hP hD hS hA hl
  obtain ⟨hx, hb, hml, hown, ht⟩ := id hX
  have hl : lv_has ls 2 [(0, .ref pg), (1, .ref nw)] := hl
  refine lv_aload_n hx hb dX2_gather_0 rfl (lv_at hl 0 rfl) ?_
  refine lv_aload_n hx hb dX2_gather_1 rfl (lv_at hl 1 rfl) ?_
  refine q_Vv (wr := []) [0, 1] [] hX hE hK hP hD hS hA hl.1 lk_X2_21 (c_gatherEnds l D cI cZ cP sa pg ends ear ltr nw keys moms lens prts luds hnds lats knds rch spd unN unH ptn _) rfl rfl rfl rfl (by decide) 0 2 rfl rfl rfl rfl (Nat.le_of_ble_eq_true rfl) rfl rfl ⟨Nat.le_of_ble_eq_true rfl, Nat.le_of_ble_eq_true rfl⟩ ⟨Nat.le_of_ble_eq_true rfl, Nat.le_of_ble_eq_true rfl⟩ dX2_gather_2 (fun _ H locs h_1 hP hD hS => ?_)
  have hP : va_P D vwCl [(pg, .inr (2, [.int 0, .int 0, .int 0, .ref ends, .int 0, .ref ear, .ref ltr, .int 0])), (nw, .inr (3, [.int 2, .int 0, .ref keys, .ref moms, .ref lens, .ref prts, .ref luds, .ref hnds, .ref lats, .ref knds, .ref rch, .ref spd, .int 0, .int 0, .int 0, .ref unN, .ref unH, .ref ptn]))] H := hP
  have hD : va_D (va_A (w_gather cI cZ cP pg ends ear ltr nw keys moms lens prts luds hnds lats knds rch spd unN unH ptn) sz) [(pg, .inr (2, [.int 0, .int 0, .int 0, .ref ends, .int 0, .ref ear, .ref ltr, .int 0])), (nw, .inr (3, [.int 2, .int 0, .ref keys, .ref moms, .ref lens, .ref prts, .ref luds, .ref hnds, .ref lats, .ref knds, .ref rch, .ref spd, .int 0, .int 0, .int 0, .ref unN, .ref unH, .ref ptn]))] := hD
  refine lv_aload_n hx hb dX2_gather_5 rfl (lv_at hl 0 rfl) ?_
  refine lv_aload_n hx hb dX2_gather_6 rfl (lv_at hl 1 rfl) ?_
  refine q_Vv (wr := []) [0, 1] [] hX hE hK hP hD hS hA hl.1 lk_X2_25 (c_gatherPairs l D cI cZ cP sa pg ends ear ltr nw keys moms lens prts luds hnds lats knds rch spd unN unH ptn _) rfl rfl rfl rfl (by decide) 0 2 rfl rfl rfl rfl (Nat.le_of_ble_eq_true rfl) rfl rfl ⟨Nat.le_of_ble_eq_true rfl, Nat.le_of_ble_eq_true rfl⟩ ⟨Nat.le_of_ble_eq_true rfl, Nat.le_of_ble_eq_true rfl⟩ dX2_gather_7 (fun _ H locs h_2 hP hD hS => ?_)
  have hP : va_P D vwCl [(pg, .inr (2, [.int 0, .int 0, .int 0, .ref ends, .int 0, .ref ear, .ref ltr, .int 0])), (nw, .inr (3, [.int 2, .int 0, .ref keys, .ref moms, .ref lens, .ref prts, .ref luds, .ref hnds, .ref lats, .ref knds, .ref rch, .ref spd, .int 0, .int 0, .int 0, .ref unN, .ref unH, .ref ptn]))] H := hP
  have hD : va_D (va_A (w_gather cI cZ cP pg ends ear ltr nw keys moms lens prts luds hnds lats knds rch spd unN unH ptn) sz) [(pg, .inr (2, [.int 0, .int 0, .int 0, .ref ends, .int 0, .ref ear, .ref ltr, .int 0])), (nw, .inr (3, [.int 2, .int 0, .ref keys, .ref moms, .ref lens, .ref prts, .ref luds, .ref hnds, .ref lats, .ref knds, .ref rch, .ref spd, .int 0, .int 0, .int 0, .ref unN, .ref unH, .ref ptn]))] := hD
  exact q_vret hX hr hlk () trivial (hP.sub [0, 1] rfl) (hD.sub [0, 1] (by decide) rfl) hS dX2_gather_10
abbrev w_joined (cI cZ cP : ClassId) (pg : Nat) (ends : Nat) (ear : Nat) (ltr : Nat) (p0 : Int32) (p1 : Int32) : va_W := [(pg, .inr (2, [.int 0, .int 0, .int 0, .ref ends, .int 0, .ref ear, .ref ltr, .int 0]))]
set_option maxHeartbeats 4000000 in
set_option maxRecDepth 100000 in
theorem c_joined (l : Launch) (D : va_G) (cI cZ cP : ClassId) (sa : Nat → Nat) (pg : Nat) (ends : Nat) (ear : Nat) (ltr : Nat) (p0 : Int32) (p1 : Int32) (sz : Nat) : Met l yX2_joined (qW yX2_joined cX2_joined 5 (some .int)) ({ frames := 0, cells := 0, slots := 0, locals := 0 } : Room) (qP D (TY cI cZ cP) sa [.ref pg, .int p0, .int p1] (w_joined cI cZ cP pg ends ear ltr p0 p1) sz) (qQi D (w_joined cI cZ cP pg ends ear ltr p0 p1) sz (fun (r : Int32) (_ : Unit) => r = 0) (fun _ => [(pg, .inr (2, [.int 0, .int 0, .int 0, .ref ends, .int 0, .ref ear, .ref ltr, .int 0]))])) 0 0 (va_A (w_joined cI cZ cP pg ends ear ltr p0 p1) sz) := by
  refine q_enter (by decide) (Nat.le_of_ble_eq_true rfl) ?_
  intro p e s m below meth c ls hX hr hlk hnm hE hK hP hD hS hA hl
  obtain ⟨hx, hb, hml, hown, ht⟩ := id hX
  have hl : lv_has ls 5 [(0, .ref pg), (1, .int p0), (2, .int p1)] := hl
  refine lv_iconst (v := 0) hx hb dX2_joined_0 (by decide) ?_
  refine lv_istore_n (lv' := [(3, .int 0), (0, .ref pg), (1, .int p0), (2, .int p1)]) hx hb dX2_joined_1 rfl hl (by decide) rfl (fun ls hl => ?_)
  refine lv_iconst (v := 0) hx hb dX2_joined_2 (by decide) ?_
  refine lv_istore (lv' := [(4, .int 0), (3, .int 0), (0, .ref pg), (1, .int p0), (2, .int p1)]) hx hb dX2_joined_3 hl (by decide) rfl (fun ls hl => ?_)
  refine lv_iload hx hb dX2_joined_5 (lv_at hl 0 rfl) ?_
  refine lv_aload_n hx hb dX2_joined_7 rfl (lv_at hl 2 rfl) ?_
  refine va_get (D := D) (ci := 2) (v := .int 0) (C := RX2) (T := TX2) (N := 8) hx hb ht inX2 hown hK hP 0 rfl rfl 4 (Nat.le_of_ble_eq_true rfl) (ht _ kw_295) (fun _ h9 => h9) rfl dX2_joined_8 ?_
  refine lv_icmp_ge (tgt := 47) hx hb dX2_joined_11 (by decide) (fun _ => ?_) (fun c_1 => absurd (by decide) c_1)
  refine lv_iload_n hx hb dX2_joined_47 rfl (lv_at hl 1 rfl) ?_
  exact q_iret hX hr hlk () rfl (hP.sub [0] rfl) (hD.sub [0] (by decide) rfl) hS dX2_joined_48
abbrev w_blurred (cI cZ cP : ClassId) (pg : Nat) (ends : Nat) (ear : Nat) (ltr : Nat) (p0 : Int32) (p1 : Int32) : va_W := [(pg, .inr (2, [.int 0, .int 0, .int 0, .ref ends, .int 0, .ref ear, .ref ltr, .int 0]))]
set_option maxHeartbeats 4000000 in
set_option maxRecDepth 100000 in
theorem c_blurred (l : Launch) (D : va_G) (cI cZ cP : ClassId) (sa : Nat → Nat) (pg : Nat) (ends : Nat) (ear : Nat) (ltr : Nat) (p0 : Int32) (p1 : Int32) (sz : Nat) : Met l yX2_blurred (qW yX2_blurred cX2_blurred 5 (some .int)) ({ frames := 0, cells := 0, slots := 0, locals := 0 } : Room) (qP D (TY cI cZ cP) sa [.ref pg, .int p0, .int p1] (w_blurred cI cZ cP pg ends ear ltr p0 p1) sz) (qQi D (w_blurred cI cZ cP pg ends ear ltr p0 p1) sz (fun (r : Int32) (_ : Unit) => r = 0) (fun _ => [(pg, .inr (2, [.int 0, .int 0, .int 0, .ref ends, .int 0, .ref ear, .ref ltr, .int 0]))])) 0 0 (va_A (w_blurred cI cZ cP pg ends ear ltr p0 p1) sz) := by
  refine q_enter (by decide) (Nat.le_of_ble_eq_true rfl) ?_
  intro p e s m below meth c ls hX hr hlk hnm hE hK hP hD hS hA hl
  obtain ⟨hx, hb, hml, hown, ht⟩ := id hX
  have hl : lv_has ls 5 [(0, .ref pg), (1, .int p0), (2, .int p1)] := hl
  refine lv_iconst (v := 0) hx hb dX2_blurred_0 (by decide) ?_
  refine lv_istore_n (lv' := [(3, .int 0), (0, .ref pg), (1, .int p0), (2, .int p1)]) hx hb dX2_blurred_1 rfl hl (by decide) rfl (fun ls hl => ?_)
  refine lv_iconst (v := 0) hx hb dX2_blurred_2 (by decide) ?_
  refine lv_istore (lv' := [(4, .int 0), (3, .int 0), (0, .ref pg), (1, .int p0), (2, .int p1)]) hx hb dX2_blurred_3 hl (by decide) rfl (fun ls hl => ?_)
  refine lv_iload hx hb dX2_blurred_5 (lv_at hl 0 rfl) ?_
  refine lv_aload_n hx hb dX2_blurred_7 rfl (lv_at hl 2 rfl) ?_
  refine va_get (D := D) (ci := 2) (v := .int 0) (C := RX2) (T := TX2) (N := 8) hx hb ht inX2 hown hK hP 0 rfl rfl 7 (Nat.le_of_ble_eq_true rfl) (ht _ kw_298) (fun _ h9 => h9) rfl dX2_blurred_8 ?_
  refine lv_icmp_ge (tgt := 54) hx hb dX2_blurred_11 (by decide) (fun _ => ?_) (fun c_1 => absurd (by decide) c_1)
  refine lv_iload_n hx hb dX2_blurred_54 rfl (lv_at hl 1 rfl) ?_
  exact q_iret hX hr hlk () rfl (hP.sub [0] rfl) (hD.sub [0] (by decide) rfl) hS dX2_blurred_55
abbrev w_blurs (cI cZ cP : ClassId) (x0 : Nat) (nw : Nat) (sp : Nat) (im : Nat) (sc : Nat) (hg : Nat) (fg : Nat) (pg : Nat) (pr : Nat) (keys : Nat) (moms : Nat) (lens : Nat) (prts : Nat) (luds : Nat) (hnds : Nat) (lats : Nat) (knds : Nat) (rch : Nat) (spd : Nat) (unN : Nat) (unH : Nat) (ptn : Nat) (ends : Nat) (ear : Nat) (ltr : Nat) (p0 : Int32) : va_W := [(x0, .inr (6, [.ref nw, .ref sp, .ref im, .ref sc, .ref hg, .ref fg, .ref pg, .ref pr, .int 0, .long 0, .long 1, .int 0, .int 0, .int 0])), (nw, .inr (3, [.int 2, .int 0, .ref keys, .ref moms, .ref lens, .ref prts, .ref luds, .ref hnds, .ref lats, .ref knds, .ref rch, .ref spd, .int 0, .int 0, .int 0, .ref unN, .ref unH, .ref ptn])), (pg, .inr (2, [.int 0, .int 0, .int 0, .ref ends, .int 0, .ref ear, .ref ltr, .int 0]))]
set_option maxHeartbeats 4000000 in
set_option maxRecDepth 100000 in
theorem c_blurs (l : Launch) (D : va_G) (cI cZ cP : ClassId) (sa : Nat → Nat) (x0 : Nat) (nw : Nat) (sp : Nat) (im : Nat) (sc : Nat) (hg : Nat) (fg : Nat) (pg : Nat) (pr : Nat) (keys : Nat) (moms : Nat) (lens : Nat) (prts : Nat) (luds : Nat) (hnds : Nat) (lats : Nat) (knds : Nat) (rch : Nat) (spd : Nat) (unN : Nat) (unH : Nat) (ptn : Nat) (ends : Nat) (ear : Nat) (ltr : Nat) (p0 : Int32) (sz : Nat) : Met l yX6_blurs (qW yX6_blurs cX6_blurs 2 (some .int)) ({ frames := 2, cells := 0, slots := 0, locals := 46 } : Room) (qP D (TY cI cZ cP) sa [.ref x0, .int p0] (w_blurs cI cZ cP x0 nw sp im sc hg fg pg pr keys moms lens prts luds hnds lats knds rch spd unN unH ptn ends ear ltr p0) sz) (qQi D (w_blurs cI cZ cP x0 nw sp im sc hg fg pg pr keys moms lens prts luds hnds lats knds rch spd unN unH ptn ends ear ltr p0) sz (fun (r : Int32) (_ : Unit) => r = sp_blurs p0) (fun _ => [])) 0 0 (va_A (w_blurs cI cZ cP x0 nw sp im sc hg fg pg pr keys moms lens prts luds hnds lats knds rch spd unN unH ptn ends ear ltr p0) sz) := by
  refine q_enter (by decide) (Nat.le_of_ble_eq_true rfl) ?_
  intro p e s m below meth c ls hX hr hlk hnm hE hK hP hD hS hA hl
  obtain ⟨hx, hb, hml, hown, ht⟩ := id hX
  have hl : lv_has ls 2 [(0, .ref x0), (1, .int p0)] := hl
  refine lv_iload_n hx hb dX6_blurs_0 rfl (lv_at hl 1 rfl) ?_
  refine lv_iconst (v := 0) hx hb dX6_blurs_1 (by decide) ?_
  refine lv_iconst (v := 1) hx hb dX6_blurs_2 (by decide) ?_
  refine q_Si (wr := [(x0, .inr (6, [.ref nw, .ref sp, .ref im, .ref sc, .ref hg, .ref fg, .ref pg, .ref pr, .int 0, .long 0, .long 1, .int 0, .int 0, .int 0])), (nw, .inr (3, [.int 2, .int 0, .ref keys, .ref moms, .ref lens, .ref prts, .ref luds, .ref hnds, .ref lats, .ref knds, .ref rch, .ref spd, .int 0, .int 0, .int 0, .ref unN, .ref unH, .ref ptn])), (pg, .inr (2, [.int 0, .int 0, .int 0, .ref ends, .int 0, .ref ear, .ref ltr, .int 0]))]) [] [0, 1, 2] hX hE hK hP hD hS hA hl.1 lk_X6_62 (c_within l D cI cZ cP sa p0 0 1 _) rfl rfl rfl rfl (by decide) rfl rfl (Nat.le_of_ble_eq_true rfl) rfl rfl ⟨Nat.le_of_ble_eq_true rfl, Nat.le_of_ble_eq_true rfl⟩ ⟨Nat.le_of_ble_eq_true rfl, Nat.le_of_ble_eq_true rfl⟩ dX6_blurs_3 (fun x_1 _ H locs h_1 hP hD hS => ?_)
  have hP : va_P D vwCl [(x0, .inr (6, [.ref nw, .ref sp, .ref im, .ref sc, .ref hg, .ref fg, .ref pg, .ref pr, .int 0, .long 0, .long 1, .int 0, .int 0, .int 0])), (nw, .inr (3, [.int 2, .int 0, .ref keys, .ref moms, .ref lens, .ref prts, .ref luds, .ref hnds, .ref lats, .ref knds, .ref rch, .ref spd, .int 0, .int 0, .int 0, .ref unN, .ref unH, .ref ptn])), (pg, .inr (2, [.int 0, .int 0, .int 0, .ref ends, .int 0, .ref ear, .ref ltr, .int 0]))] H := hP
  have hD : va_D (va_A (w_blurs cI cZ cP x0 nw sp im sc hg fg pg pr keys moms lens prts luds hnds lats knds rch spd unN unH ptn ends ear ltr p0) sz) [(x0, .inr (6, [.ref nw, .ref sp, .ref im, .ref sc, .ref hg, .ref fg, .ref pg, .ref pr, .int 0, .long 0, .long 1, .int 0, .int 0, .int 0])), (nw, .inr (3, [.int 2, .int 0, .ref keys, .ref moms, .ref lens, .ref prts, .ref luds, .ref hnds, .ref lats, .ref knds, .ref rch, .ref spd, .int 0, .int 0, .int 0, .ref unN, .ref unH, .ref ptn])), (pg, .inr (2, [.int 0, .int 0, .int 0, .ref ends, .int 0, .ref ear, .ref ltr, .int 0]))] := hD
  rcases Classical.em (0 ≤ p0 ∧ p0 ≤ 1) with c_1 | c_1
  · rw [if_pos c_1] at h_1; subst h_1
    refine lv_if_ne (tgt := 16) hx hb dX6_blurs_6 (by decide) (fun _ => ?_) (fun c_2 => absurd c_2 (by decide))
    refine lv_aload_n hx hb dX6_blurs_16 rfl (lv_at hl 0 rfl) ?_
    refine va_get (D := D) (ci := 6) (v := .ref pg) (C := RX6) (T := TX6) (N := 14) hx hb ht inX6 hown hK hP 0 rfl rfl 6 (Nat.le_of_ble_eq_true rfl) (ht _ kw_343) (fun _ h9 => h9) rfl dX6_blurs_17 ?_
    refine lv_aload_n hx hb dX6_blurs_20 rfl (lv_at hl 0 rfl) ?_
    refine va_get (D := D) (ci := 6) (v := .ref nw) (C := RX6) (T := TX6) (N := 14) hx hb ht inX6 hown hK hP 0 rfl rfl 0 (Nat.le_of_ble_eq_true rfl) (ht _ kw_337) (fun _ h9 => h9) rfl dX6_blurs_21 ?_
    refine q_Vv (wr := [(x0, .inr (6, [.ref nw, .ref sp, .ref im, .ref sc, .ref hg, .ref fg, .ref pg, .ref pr, .int 0, .long 0, .long 1, .int 0, .int 0, .int 0]))]) [2, 1] [0] hX hE hK hP hD hS hA hl.1 lk_X6_206 (c_gather l D cI cZ cP sa pg ends ear ltr nw keys moms lens prts luds hnds lats knds rch spd unN unH ptn _) rfl rfl rfl rfl (by decide) 0 2 rfl rfl rfl rfl (Nat.le_of_ble_eq_true rfl) rfl rfl ⟨Nat.le_of_ble_eq_true rfl, Nat.le_of_ble_eq_true rfl⟩ ⟨Nat.le_of_ble_eq_true rfl, Nat.le_of_ble_eq_true rfl⟩ dX6_blurs_24 (fun _ H locs h_3 hP hD hS => ?_)
    have hP : va_P D vwCl [(x0, .inr (6, [.ref nw, .ref sp, .ref im, .ref sc, .ref hg, .ref fg, .ref pg, .ref pr, .int 0, .long 0, .long 1, .int 0, .int 0, .int 0])), (pg, .inr (2, [.int 0, .int 0, .int 0, .ref ends, .int 0, .ref ear, .ref ltr, .int 0])), (nw, .inr (3, [.int 2, .int 0, .ref keys, .ref moms, .ref lens, .ref prts, .ref luds, .ref hnds, .ref lats, .ref knds, .ref rch, .ref spd, .int 0, .int 0, .int 0, .ref unN, .ref unH, .ref ptn]))] H := hP
    have hD : va_D (va_A (w_blurs cI cZ cP x0 nw sp im sc hg fg pg pr keys moms lens prts luds hnds lats knds rch spd unN unH ptn ends ear ltr p0) sz) [(x0, .inr (6, [.ref nw, .ref sp, .ref im, .ref sc, .ref hg, .ref fg, .ref pg, .ref pr, .int 0, .long 0, .long 1, .int 0, .int 0, .int 0])), (pg, .inr (2, [.int 0, .int 0, .int 0, .ref ends, .int 0, .ref ear, .ref ltr, .int 0])), (nw, .inr (3, [.int 2, .int 0, .ref keys, .ref moms, .ref lens, .ref prts, .ref luds, .ref hnds, .ref lats, .ref knds, .ref rch, .ref spd, .int 0, .int 0, .int 0, .ref unN, .ref unH, .ref ptn]))] := hD
    refine lv_iload_n hx hb dX6_blurs_27 rfl (lv_at hl 1 rfl) ?_
    refine lv_if_ne (tgt := 53) hx hb dX6_blurs_28 (by decide) (fun c_4 => ?_) (fun c_4 => ?_)
    · refine lv_aload_n hx hb dX6_blurs_53 rfl (lv_at hl 0 rfl) ?_
      refine va_get (D := D) (ci := 6) (v := .ref pg) (C := RX6) (T := TX6) (N := 14) hx hb ht inX6 hown hK hP 0 rfl rfl 6 (Nat.le_of_ble_eq_true rfl) (ht _ kw_343) (fun _ h9 => h9) rfl dX6_blurs_54 ?_
      refine lv_aload_n hx hb dX6_blurs_57 rfl (lv_at hl 0 rfl) ?_
      refine va_get (D := D) (ci := 6) (v := .ref nw) (C := RX6) (T := TX6) (N := 14) hx hb ht inX6 hown hK hP 0 rfl rfl 0 (Nat.le_of_ble_eq_true rfl) (ht _ kw_337) (fun _ h9 => h9) rfl dX6_blurs_58 ?_
      refine va_get (D := D) (ci := 3) (v := .int 0) (C := RX3) (T := TX3) (N := 18) hx hb ht inX3 hown hK hP 2 rfl rfl 12 (Nat.le_of_ble_eq_true rfl) (ht _ kw_156) (fun _ h9 => h9) rfl dX6_blurs_61 ?_
      refine lv_aload_n hx hb dX6_blurs_64 rfl (lv_at hl 0 rfl) ?_
      refine va_get (D := D) (ci := 6) (v := .ref nw) (C := RX6) (T := TX6) (N := 14) hx hb ht inX6 hown hK hP 0 rfl rfl 0 (Nat.le_of_ble_eq_true rfl) (ht _ kw_337) (fun _ h9 => h9) rfl dX6_blurs_65 ?_
      refine va_get (D := D) (ci := 3) (v := .int 0) (C := RX3) (T := TX3) (N := 18) hx hb ht inX3 hown hK hP 2 rfl rfl 13 (Nat.le_of_ble_eq_true rfl) (ht _ kw_158) (fun _ h9 => h9) rfl dX6_blurs_68 ?_
      refine q_Vi (wr := [(x0, .inr (6, [.ref nw, .ref sp, .ref im, .ref sc, .ref hg, .ref fg, .ref pg, .ref pr, .int 0, .long 0, .long 1, .int 0, .int 0, .int 0])), (nw, .inr (3, [.int 2, .int 0, .ref keys, .ref moms, .ref lens, .ref prts, .ref luds, .ref hnds, .ref lats, .ref knds, .ref rch, .ref spd, .int 0, .int 0, .int 0, .ref unN, .ref unH, .ref ptn]))]) [1] [0, 2] hX hE hK hP hD hS hA hl.1 lk_X6_212 (c_joined l D cI cZ cP sa pg ends ear ltr 0 0 _) rfl rfl rfl rfl (by decide) 0 2 rfl rfl rfl rfl (Nat.le_of_ble_eq_true rfl) rfl rfl ⟨Nat.le_of_ble_eq_true rfl, Nat.le_of_ble_eq_true rfl⟩ ⟨Nat.le_of_ble_eq_true rfl, Nat.le_of_ble_eq_true rfl⟩ dX6_blurs_71 (fun x_5 _ H locs h_5 hP hD hS => ?_)
      have hP : va_P D vwCl [(x0, .inr (6, [.ref nw, .ref sp, .ref im, .ref sc, .ref hg, .ref fg, .ref pg, .ref pr, .int 0, .long 0, .long 1, .int 0, .int 0, .int 0])), (nw, .inr (3, [.int 2, .int 0, .ref keys, .ref moms, .ref lens, .ref prts, .ref luds, .ref hnds, .ref lats, .ref knds, .ref rch, .ref spd, .int 0, .int 0, .int 0, .ref unN, .ref unH, .ref ptn])), (pg, .inr (2, [.int 0, .int 0, .int 0, .ref ends, .int 0, .ref ear, .ref ltr, .int 0]))] H := hP
      have hD : va_D (va_A (w_blurs cI cZ cP x0 nw sp im sc hg fg pg pr keys moms lens prts luds hnds lats knds rch spd unN unH ptn ends ear ltr p0) sz) [(x0, .inr (6, [.ref nw, .ref sp, .ref im, .ref sc, .ref hg, .ref fg, .ref pg, .ref pr, .int 0, .long 0, .long 1, .int 0, .int 0, .int 0])), (nw, .inr (3, [.int 2, .int 0, .ref keys, .ref moms, .ref lens, .ref prts, .ref luds, .ref hnds, .ref lats, .ref knds, .ref rch, .ref spd, .int 0, .int 0, .int 0, .ref unN, .ref unH, .ref ptn])), (pg, .inr (2, [.int 0, .int 0, .int 0, .ref ends, .int 0, .ref ear, .ref ltr, .int 0]))] := hD
      subst h_5
      exact q_iret hX hr hlk () (by simp [sp_blurs, c_1, c_4]) (hP.sub [] rfl) (hD.sub [] (by decide) rfl) hS dX6_blurs_74
    · refine lv_aload_n hx hb dX6_blurs_31 rfl (lv_at hl 0 rfl) ?_
      refine va_get (D := D) (ci := 6) (v := .ref pg) (C := RX6) (T := TX6) (N := 14) hx hb ht inX6 hown hK hP 0 rfl rfl 6 (Nat.le_of_ble_eq_true rfl) (ht _ kw_343) (fun _ h9 => h9) rfl dX6_blurs_32 ?_
      refine lv_aload_n hx hb dX6_blurs_35 rfl (lv_at hl 0 rfl) ?_
      refine va_get (D := D) (ci := 6) (v := .ref nw) (C := RX6) (T := TX6) (N := 14) hx hb ht inX6 hown hK hP 0 rfl rfl 0 (Nat.le_of_ble_eq_true rfl) (ht _ kw_337) (fun _ h9 => h9) rfl dX6_blurs_36 ?_
      refine va_get (D := D) (ci := 3) (v := .int 0) (C := RX3) (T := TX3) (N := 18) hx hb ht inX3 hown hK hP 2 rfl rfl 12 (Nat.le_of_ble_eq_true rfl) (ht _ kw_156) (fun _ h9 => h9) rfl dX6_blurs_39 ?_
      refine lv_aload_n hx hb dX6_blurs_42 rfl (lv_at hl 0 rfl) ?_
      refine va_get (D := D) (ci := 6) (v := .ref nw) (C := RX6) (T := TX6) (N := 14) hx hb ht inX6 hown hK hP 0 rfl rfl 0 (Nat.le_of_ble_eq_true rfl) (ht _ kw_337) (fun _ h9 => h9) rfl dX6_blurs_43 ?_
      refine va_get (D := D) (ci := 3) (v := .int 0) (C := RX3) (T := TX3) (N := 18) hx hb ht inX3 hown hK hP 2 rfl rfl 13 (Nat.le_of_ble_eq_true rfl) (ht _ kw_158) (fun _ h9 => h9) rfl dX6_blurs_46 ?_
      refine q_Vi (wr := [(x0, .inr (6, [.ref nw, .ref sp, .ref im, .ref sc, .ref hg, .ref fg, .ref pg, .ref pr, .int 0, .long 0, .long 1, .int 0, .int 0, .int 0])), (nw, .inr (3, [.int 2, .int 0, .ref keys, .ref moms, .ref lens, .ref prts, .ref luds, .ref hnds, .ref lats, .ref knds, .ref rch, .ref spd, .int 0, .int 0, .int 0, .ref unN, .ref unH, .ref ptn]))]) [1] [0, 2] hX hE hK hP hD hS hA hl.1 lk_X6_209 (c_blurred l D cI cZ cP sa pg ends ear ltr 0 0 _) rfl rfl rfl rfl (by decide) 0 2 rfl rfl rfl rfl (Nat.le_of_ble_eq_true rfl) rfl rfl ⟨Nat.le_of_ble_eq_true rfl, Nat.le_of_ble_eq_true rfl⟩ ⟨Nat.le_of_ble_eq_true rfl, Nat.le_of_ble_eq_true rfl⟩ dX6_blurs_49 (fun x_6 _ H locs h_6 hP hD hS => ?_)
      have hP : va_P D vwCl [(x0, .inr (6, [.ref nw, .ref sp, .ref im, .ref sc, .ref hg, .ref fg, .ref pg, .ref pr, .int 0, .long 0, .long 1, .int 0, .int 0, .int 0])), (nw, .inr (3, [.int 2, .int 0, .ref keys, .ref moms, .ref lens, .ref prts, .ref luds, .ref hnds, .ref lats, .ref knds, .ref rch, .ref spd, .int 0, .int 0, .int 0, .ref unN, .ref unH, .ref ptn])), (pg, .inr (2, [.int 0, .int 0, .int 0, .ref ends, .int 0, .ref ear, .ref ltr, .int 0]))] H := hP
      have hD : va_D (va_A (w_blurs cI cZ cP x0 nw sp im sc hg fg pg pr keys moms lens prts luds hnds lats knds rch spd unN unH ptn ends ear ltr p0) sz) [(x0, .inr (6, [.ref nw, .ref sp, .ref im, .ref sc, .ref hg, .ref fg, .ref pg, .ref pr, .int 0, .long 0, .long 1, .int 0, .int 0, .int 0])), (nw, .inr (3, [.int 2, .int 0, .ref keys, .ref moms, .ref lens, .ref prts, .ref luds, .ref hnds, .ref lats, .ref knds, .ref rch, .ref spd, .int 0, .int 0, .int 0, .ref unN, .ref unH, .ref ptn])), (pg, .inr (2, [.int 0, .int 0, .int 0, .ref ends, .int 0, .ref ear, .ref ltr, .int 0]))] := hD
      subst h_6
      exact q_iret hX hr hlk () (by simp [sp_blurs, c_1, c_4]) (hP.sub [] rfl) (hD.sub [] (by decide) rfl) hS dX6_blurs_52
  · rw [if_neg c_1] at h_1; subst h_1
    refine lv_if_ne (tgt := 16) hx hb dX6_blurs_6 (by decide) (fun c_7 => absurd (by decide) c_7) (fun _ => ?_)
    refine lv_aload_n hx hb dX6_blurs_9 rfl (lv_at hl 0 rfl) ?_
    refine lv_bipush (v := (-2)) hx hb dX6_blurs_10 (by decide) ?_
    refine q_Vi (wr := [(nw, .inr (3, [.int 2, .int 0, .ref keys, .ref moms, .ref lens, .ref prts, .ref luds, .ref hnds, .ref lats, .ref knds, .ref rch, .ref spd, .int 0, .int 0, .int 0, .ref unN, .ref unH, .ref ptn])), (pg, .inr (2, [.int 0, .int 0, .int 0, .ref ends, .int 0, .ref ear, .ref ltr, .int 0]))]) [0] [1, 2] hX hE hK hP hD hS hA hl.1 lk_X6_66 (c_refuseBad l D cI cZ cP sa x0 nw sp im sc hg fg pg pr 0 0 1 0 0 0 (-2) _) rfl rfl rfl rfl (by decide) 0 6 rfl rfl rfl rfl (Nat.le_of_ble_eq_true rfl) rfl rfl ⟨Nat.le_of_ble_eq_true rfl, Nat.le_of_ble_eq_true rfl⟩ ⟨Nat.le_of_ble_eq_true rfl, Nat.le_of_ble_eq_true rfl⟩ dX6_blurs_12 (fun x_8 _ H locs h_8 hP hD hS => ?_)
    have hP : va_P D vwCl [(nw, .inr (3, [.int 2, .int 0, .ref keys, .ref moms, .ref lens, .ref prts, .ref luds, .ref hnds, .ref lats, .ref knds, .ref rch, .ref spd, .int 0, .int 0, .int 0, .ref unN, .ref unH, .ref ptn])), (pg, .inr (2, [.int 0, .int 0, .int 0, .ref ends, .int 0, .ref ear, .ref ltr, .int 0]))] H := hP
    have hD : va_D (va_A (w_blurs cI cZ cP x0 nw sp im sc hg fg pg pr keys moms lens prts luds hnds lats knds rch spd unN unH ptn ends ear ltr p0) sz) [(nw, .inr (3, [.int 2, .int 0, .ref keys, .ref moms, .ref lens, .ref prts, .ref luds, .ref hnds, .ref lats, .ref knds, .ref rch, .ref spd, .int 0, .int 0, .int 0, .ref unN, .ref unH, .ref ptn])), (pg, .inr (2, [.int 0, .int 0, .int 0, .ref ends, .int 0, .ref ear, .ref ltr, .int 0]))] := hD
    subst h_8
    exact q_iret hX hr hlk () (by simp [sp_blurs, c_1]) (hP.sub [] rfl) (hD.sub [] (by decide) rfl) hS dX6_blurs_15
