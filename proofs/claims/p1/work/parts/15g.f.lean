abbrev w_psolve (cI cZ cP : ClassId) (pr : Nat) (prw : Nat) (lft : Nat) (lea : Nat) (nw : Nat) (keys : Nat) (moms : Nat) (lens : Nat) (prts : Nat) (luds : Nat) (hnds : Nat) (lats : Nat) (knds : Nat) (rch : Nat) (spd : Nat) (unN : Nat) (unH : Nat) (ptn : Nat) (t : Nat) : va_W := [(pr, .inr (4, [.int 0, .ref prw, .ref lft, .ref lea])), (lft, .inl (cI, 56, .inl (fun _ => 0))), (lea, .inl (cI, 63, .inl (fun _ => 0))), (prw, .inl (cI, 6, .inl (fun _ => 0))), (nw, .inr (3, [.int 2, .int 0, .ref keys, .ref moms, .ref lens, .ref prts, .ref luds, .ref hnds, .ref lats, .ref knds, .ref rch, .ref spd, .int 0, .int 0, .int 0, .ref unN, .ref unH, .ref ptn]))]
set_option maxHeartbeats 4000000 in
set_option maxRecDepth 100000 in
theorem c_psolve (l : Launch) (D : va_G) (cI cZ cP : ClassId) (sa : Nat → Nat) (pr : Nat) (prw : Nat) (lft : Nat) (lea : Nat) (nw : Nat) (keys : Nat) (moms : Nat) (lens : Nat) (prts : Nat) (luds : Nat) (hnds : Nat) (lats : Nat) (knds : Nat) (rch : Nat) (spd : Nat) (unN : Nat) (unH : Nat) (ptn : Nat) (t : Nat) (hti : t ≤ 6) (sz : Nat) : Met l yX4_solve (qW yX4_solve cX4_solve 6 none) ({ frames := 3, cells := 0, slots := 0, locals := 72 } : Room) (qP D (TY cI cZ cP) sa [.ref pr, .ref nw, .int (nI t)] (w_psolve cI cZ cP pr prw lft lea nw keys moms lens prts luds hnds lats knds rch spd unN unH ptn t) sz) (qQv D (w_psolve cI cZ cP pr prw lft lea nw keys moms lens prts luds hnds lats knds rch spd unN unH ptn t) sz (fun _ : Unit => True) (fun _ => [(pr, .inr (4, [.int 0, .ref prw, .ref lft, .ref lea])), (prw, .inl (cI, 6, .inl (fun _ => 0)))])) 0 0 (va_A (w_psolve cI cZ cP pr prw lft lea nw keys moms lens prts luds hnds lats knds rch spd unN unH ptn t) sz) := by
  refine q_enter (by decide) (Nat.le_of_ble_eq_true rfl) ?_
  intro p e s m below meth c ls hX hr hlk hnm hE hK hP hD hS hA hl
  obtain ⟨hx, hb, hml, hown, ht⟩ := id hX
  have hl : lv_has ls 6 [(0, .ref pr), (1, .ref nw), (2, .int (nI t))] := hl
  refine lv_aload_n hx hb dX4_solve_0 rfl (lv_at hl 0 rfl) ?_
  refine lv_aload_n hx hb dX4_solve_1 rfl (lv_at hl 1 rfl) ?_
  refine q_Vv (wr := [(lea, .inl (cI, 63, .inl (fun _ => 0))), (prw, .inl (cI, 6, .inl (fun _ => 0)))]) [0, 1, 4] [2, 3] hX hE hK hP hD hS hA hl.1 lk_X4_21 (c_countSlips l D cI cZ cP sa pr prw lft lea nw keys moms lens prts luds hnds lats knds rch spd unN unH ptn _) rfl rfl rfl rfl (by decide) 0 4 rfl rfl rfl rfl (Nat.le_of_ble_eq_true rfl) rfl rfl ⟨Nat.le_of_ble_eq_true rfl, Nat.le_of_ble_eq_true rfl⟩ ⟨Nat.le_of_ble_eq_true rfl, Nat.le_of_ble_eq_true rfl⟩ dX4_solve_2 (fun _ H locs h_1 hP hD hS => ?_)
  have hP : va_P D vwCl [(lea, .inl (cI, 63, .inl (fun _ => 0))), (prw, .inl (cI, 6, .inl (fun _ => 0))), (pr, .inr (4, [.int 0, .ref prw, .ref lft, .ref lea])), (lft, .inl (cI, 56, .inl (fun _ => 0)))] H := hP
  have hD : va_D (va_A (w_psolve cI cZ cP pr prw lft lea nw keys moms lens prts luds hnds lats knds rch spd unN unH ptn t) sz) [(lea, .inl (cI, 63, .inl (fun _ => 0))), (prw, .inl (cI, 6, .inl (fun _ => 0))), (pr, .inr (4, [.int 0, .ref prw, .ref lft, .ref lea])), (lft, .inl (cI, 56, .inl (fun _ => 0)))] := hD
  refine lv_bipush (v := 7) hx hb dX4_solve_5 (by decide) ?_
  refine lv_istore_n (lv' := [(3, .int 7), (0, .ref pr), (1, .ref nw), (2, .int (nI t))]) hx hb dX4_solve_7 rfl hl (by decide) rfl (fun ls hl => ?_)
  refine lv_iload_n hx hb dX4_solve_8 rfl (lv_at hl 0 rfl) ?_
  refine lv_if_lt (tgt := 63) hx hb dX4_solve_9 (by decide) (fun c_2 => absurd c_2 (by decide)) (fun _ => ?_)
  refine lv_iconst (v := 0) hx hb dX4_solve_12 (by decide) ?_
  refine lv_istore (lv' := [(4, .int 0), (3, .int 7), (0, .ref pr), (1, .ref nw), (2, .int (nI t))]) hx hb dX4_solve_13 hl (by decide) rfl (fun ls hl => ?_)
  have lp_15 : ∀ (n_15 : Nat) (b7 : Nat), (b7 ≤ t + 1) → (t + 2 ≤ b7 + n_15) → ∀ (H : Heap) (locs : List Loc) (ls : Array Slot), va_P D vwCl [(lea, .inl (cI, 63, .inl (fun _ => 0))), (prw, .inl (cI, 6, .inl (fun _ => 0))), (pr, .inr (4, [.int 0, .ref prw, .ref lft, .ref lea])), (lft, .inl (cI, 56, .inl (fun _ => 0)))] H → va_D (va_A (w_psolve cI cZ cP pr prw lft lea nw keys moms lens prts luds hnds lats knds rch spd unN unH ptn t) sz) [(lea, .inl (cI, 63, .inl (fun _ => 0))), (prw, .inl (cI, 6, .inl (fun _ => 0))), (pr, .inr (4, [.int 0, .ref prw, .ref lft, .ref lea])), (lft, .inl (cI, 56, .inl (fun _ => 0)))] → va_S (va_A (w_psolve cI cZ cP pr prw lft lea nw keys moms lens prts luds hnds lats knds rch spd unN unH ptn t) sz) s.heap H locs → lv_has ls 6 [(4, .int (nI b7)), (3, .int 7), (0, .ref pr), (1, .ref nw), (2, .int (nI t))] → W p l e ({ frames := 3, cells := 0, slots := 0, locals := 72 } : Room) s m ([.ref pr, .ref nw, .int (nI t)] : List Value).toArray below meth c H locs 0 0 (MQ below (qQv D (w_psolve cI cZ cP pr prw lft lea nw keys moms lens prts luds hnds lats knds rch spd unN unH ptn t) sz (fun _ : Unit => True) (fun _ => [(pr, .inr (4, [.int 0, .ref prw, .ref lft, .ref lea])), (prw, .inl (cI, 6, .inl (fun _ => 0)))])) ([.ref pr, .ref nw, .int (nI t)] : List Value).toArray s 0 0 (va_A (w_psolve cI cZ cP pr prw lft lea nw keys moms lens prts luds hnds lats knds rch spd unN unH ptn t) sz)) (F0 m 15 ls []) := by
    intro n_15
    induction n_15 with
    | zero => intro b7 hb7 hm_15; exact absurd hm_15 (by omega)
    | succ n_15 ih_15 =>
      intro b7 hb7 hm_15 H locs ls hP hD hS hl
      refine lv_iload hx hb dX4_solve_15 (lv_at hl 0 rfl) ?_
      refine lv_iload_n hx hb dX4_solve_17 rfl (lv_at hl 4 rfl) ?_
      refine lv_icmp_gt (tgt := 57) hx hb dX4_solve_18 (by decide) (fun c_3 => ?_) (fun c_3 => ?_)
      · refine lv_iinc (v := 6) (lv' := [(3, .int 6), (4, .int (nI b7)), (0, .ref pr), (1, .ref nw), (2, .int (nI t))]) hx hb dX4_solve_57 hl (k := 1) rfl (by decide) (by decide) rfl (fun ls hl => ?_)
        refine lv_goto (tgt := 8) hx hb dX4_solve_60 (by decide) ?_
        refine lv_iload_n hx hb dX4_solve_8 rfl (lv_at hl 0 rfl) ?_
        refine lv_if_lt (tgt := 63) hx hb dX4_solve_9 (by decide) (fun c_4 => absurd c_4 (by decide)) (fun _ => ?_)
        refine lv_iconst (v := 0) hx hb dX4_solve_12 (by decide) ?_
        refine lv_istore (lv' := [(4, .int 0), (3, .int 6), (0, .ref pr), (1, .ref nw), (2, .int (nI t))]) hx hb dX4_solve_13 hl (by decide) rfl (fun ls hl => ?_)
        have lp_15 : ∀ (n_15 : Nat) (b6 : Nat), (b6 ≤ t + 1) → (t + 2 ≤ b6 + n_15) → ∀ (H : Heap) (locs : List Loc) (ls : Array Slot), va_P D vwCl [(lea, .inl (cI, 63, .inl (fun _ => 0))), (prw, .inl (cI, 6, .inl (fun _ => 0))), (pr, .inr (4, [.int 0, .ref prw, .ref lft, .ref lea])), (lft, .inl (cI, 56, .inl (fun _ => 0)))] H → va_D (va_A (w_psolve cI cZ cP pr prw lft lea nw keys moms lens prts luds hnds lats knds rch spd unN unH ptn t) sz) [(lea, .inl (cI, 63, .inl (fun _ => 0))), (prw, .inl (cI, 6, .inl (fun _ => 0))), (pr, .inr (4, [.int 0, .ref prw, .ref lft, .ref lea])), (lft, .inl (cI, 56, .inl (fun _ => 0)))] → va_S (va_A (w_psolve cI cZ cP pr prw lft lea nw keys moms lens prts luds hnds lats knds rch spd unN unH ptn t) sz) s.heap H locs → lv_has ls 6 [(4, .int (nI b6)), (3, .int 6), (0, .ref pr), (1, .ref nw), (2, .int (nI t))] → W p l e ({ frames := 3, cells := 0, slots := 0, locals := 72 } : Room) s m ([.ref pr, .ref nw, .int (nI t)] : List Value).toArray below meth c H locs 0 0 (MQ below (qQv D (w_psolve cI cZ cP pr prw lft lea nw keys moms lens prts luds hnds lats knds rch spd unN unH ptn t) sz (fun _ : Unit => True) (fun _ => [(pr, .inr (4, [.int 0, .ref prw, .ref lft, .ref lea])), (prw, .inl (cI, 6, .inl (fun _ => 0)))])) ([.ref pr, .ref nw, .int (nI t)] : List Value).toArray s 0 0 (va_A (w_psolve cI cZ cP pr prw lft lea nw keys moms lens prts luds hnds lats knds rch spd unN unH ptn t) sz)) (F0 m 15 ls []) := by
          intro n_15
          induction n_15 with
          | zero => intro b6 hb6 hm_15; exact absurd hm_15 (by omega)
          | succ n_15 ih_15 =>
            intro b6 hb6 hm_15 H locs ls hP hD hS hl
            refine lv_iload hx hb dX4_solve_15 (lv_at hl 0 rfl) ?_
            refine lv_iload_n hx hb dX4_solve_17 rfl (lv_at hl 4 rfl) ?_
            refine lv_icmp_gt (tgt := 57) hx hb dX4_solve_18 (by decide) (fun c_5 => ?_) (fun c_5 => ?_)
            · refine lv_iinc (v := 5) (lv' := [(3, .int 5), (4, .int (nI b6)), (0, .ref pr), (1, .ref nw), (2, .int (nI t))]) hx hb dX4_solve_57 hl (k := 1) rfl (by decide) (by decide) rfl (fun ls hl => ?_)
              refine lv_goto (tgt := 8) hx hb dX4_solve_60 (by decide) ?_
              refine lv_iload_n hx hb dX4_solve_8 rfl (lv_at hl 0 rfl) ?_
              refine lv_if_lt (tgt := 63) hx hb dX4_solve_9 (by decide) (fun c_6 => absurd c_6 (by decide)) (fun _ => ?_)
              refine lv_iconst (v := 0) hx hb dX4_solve_12 (by decide) ?_
              refine lv_istore (lv' := [(4, .int 0), (3, .int 5), (0, .ref pr), (1, .ref nw), (2, .int (nI t))]) hx hb dX4_solve_13 hl (by decide) rfl (fun ls hl => ?_)
              have lp_15 : ∀ (n_15 : Nat) (b5 : Nat), (b5 ≤ t + 1) → (t + 2 ≤ b5 + n_15) → ∀ (H : Heap) (locs : List Loc) (ls : Array Slot), va_P D vwCl [(lea, .inl (cI, 63, .inl (fun _ => 0))), (prw, .inl (cI, 6, .inl (fun _ => 0))), (pr, .inr (4, [.int 0, .ref prw, .ref lft, .ref lea])), (lft, .inl (cI, 56, .inl (fun _ => 0)))] H → va_D (va_A (w_psolve cI cZ cP pr prw lft lea nw keys moms lens prts luds hnds lats knds rch spd unN unH ptn t) sz) [(lea, .inl (cI, 63, .inl (fun _ => 0))), (prw, .inl (cI, 6, .inl (fun _ => 0))), (pr, .inr (4, [.int 0, .ref prw, .ref lft, .ref lea])), (lft, .inl (cI, 56, .inl (fun _ => 0)))] → va_S (va_A (w_psolve cI cZ cP pr prw lft lea nw keys moms lens prts luds hnds lats knds rch spd unN unH ptn t) sz) s.heap H locs → lv_has ls 6 [(4, .int (nI b5)), (3, .int 5), (0, .ref pr), (1, .ref nw), (2, .int (nI t))] → W p l e ({ frames := 3, cells := 0, slots := 0, locals := 72 } : Room) s m ([.ref pr, .ref nw, .int (nI t)] : List Value).toArray below meth c H locs 0 0 (MQ below (qQv D (w_psolve cI cZ cP pr prw lft lea nw keys moms lens prts luds hnds lats knds rch spd unN unH ptn t) sz (fun _ : Unit => True) (fun _ => [(pr, .inr (4, [.int 0, .ref prw, .ref lft, .ref lea])), (prw, .inl (cI, 6, .inl (fun _ => 0)))])) ([.ref pr, .ref nw, .int (nI t)] : List Value).toArray s 0 0 (va_A (w_psolve cI cZ cP pr prw lft lea nw keys moms lens prts luds hnds lats knds rch spd unN unH ptn t) sz)) (F0 m 15 ls []) := by
                intro n_15
                induction n_15 with
                | zero => intro b5 hb5 hm_15; exact absurd hm_15 (by omega)
                | succ n_15 ih_15 =>
                  intro b5 hb5 hm_15 H locs ls hP hD hS hl
                  refine lv_iload hx hb dX4_solve_15 (lv_at hl 0 rfl) ?_
                  refine lv_iload_n hx hb dX4_solve_17 rfl (lv_at hl 4 rfl) ?_
                  refine lv_icmp_gt (tgt := 57) hx hb dX4_solve_18 (by decide) (fun c_7 => ?_) (fun c_7 => ?_)
                  · refine lv_iinc (v := 4) (lv' := [(3, .int 4), (4, .int (nI b5)), (0, .ref pr), (1, .ref nw), (2, .int (nI t))]) hx hb dX4_solve_57 hl (k := 1) rfl (by decide) (by decide) rfl (fun ls hl => ?_)
                    refine lv_goto (tgt := 8) hx hb dX4_solve_60 (by decide) ?_
                    refine lv_iload_n hx hb dX4_solve_8 rfl (lv_at hl 0 rfl) ?_
                    refine lv_if_lt (tgt := 63) hx hb dX4_solve_9 (by decide) (fun c_8 => absurd c_8 (by decide)) (fun _ => ?_)
                    refine lv_iconst (v := 0) hx hb dX4_solve_12 (by decide) ?_
                    refine lv_istore (lv' := [(4, .int 0), (3, .int 4), (0, .ref pr), (1, .ref nw), (2, .int (nI t))]) hx hb dX4_solve_13 hl (by decide) rfl (fun ls hl => ?_)
                    have lp_15 : ∀ (n_15 : Nat) (b4 : Nat), (b4 ≤ t + 1) → (t + 2 ≤ b4 + n_15) → ∀ (H : Heap) (locs : List Loc) (ls : Array Slot), va_P D vwCl [(lea, .inl (cI, 63, .inl (fun _ => 0))), (prw, .inl (cI, 6, .inl (fun _ => 0))), (pr, .inr (4, [.int 0, .ref prw, .ref lft, .ref lea])), (lft, .inl (cI, 56, .inl (fun _ => 0)))] H → va_D (va_A (w_psolve cI cZ cP pr prw lft lea nw keys moms lens prts luds hnds lats knds rch spd unN unH ptn t) sz) [(lea, .inl (cI, 63, .inl (fun _ => 0))), (prw, .inl (cI, 6, .inl (fun _ => 0))), (pr, .inr (4, [.int 0, .ref prw, .ref lft, .ref lea])), (lft, .inl (cI, 56, .inl (fun _ => 0)))] → va_S (va_A (w_psolve cI cZ cP pr prw lft lea nw keys moms lens prts luds hnds lats knds rch spd unN unH ptn t) sz) s.heap H locs → lv_has ls 6 [(4, .int (nI b4)), (3, .int 4), (0, .ref pr), (1, .ref nw), (2, .int (nI t))] → W p l e ({ frames := 3, cells := 0, slots := 0, locals := 72 } : Room) s m ([.ref pr, .ref nw, .int (nI t)] : List Value).toArray below meth c H locs 0 0 (MQ below (qQv D (w_psolve cI cZ cP pr prw lft lea nw keys moms lens prts luds hnds lats knds rch spd unN unH ptn t) sz (fun _ : Unit => True) (fun _ => [(pr, .inr (4, [.int 0, .ref prw, .ref lft, .ref lea])), (prw, .inl (cI, 6, .inl (fun _ => 0)))])) ([.ref pr, .ref nw, .int (nI t)] : List Value).toArray s 0 0 (va_A (w_psolve cI cZ cP pr prw lft lea nw keys moms lens prts luds hnds lats knds rch spd unN unH ptn t) sz)) (F0 m 15 ls []) := by
                      intro n_15
                      induction n_15 with
                      | zero => intro b4 hb4 hm_15; exact absurd hm_15 (by omega)
                      | succ n_15 ih_15 =>
                        intro b4 hb4 hm_15 H locs ls hP hD hS hl
                        refine lv_iload hx hb dX4_solve_15 (lv_at hl 0 rfl) ?_
                        refine lv_iload_n hx hb dX4_solve_17 rfl (lv_at hl 4 rfl) ?_
                        refine lv_icmp_gt (tgt := 57) hx hb dX4_solve_18 (by decide) (fun c_9 => ?_) (fun c_9 => ?_)
                        · refine lv_iinc (v := 3) (lv' := [(3, .int 3), (4, .int (nI b4)), (0, .ref pr), (1, .ref nw), (2, .int (nI t))]) hx hb dX4_solve_57 hl (k := 1) rfl (by decide) (by decide) rfl (fun ls hl => ?_)
                          refine lv_goto (tgt := 8) hx hb dX4_solve_60 (by decide) ?_
                          refine lv_iload_n hx hb dX4_solve_8 rfl (lv_at hl 0 rfl) ?_
                          refine lv_if_lt (tgt := 63) hx hb dX4_solve_9 (by decide) (fun c_10 => absurd c_10 (by decide)) (fun _ => ?_)
                          refine lv_iconst (v := 0) hx hb dX4_solve_12 (by decide) ?_
                          refine lv_istore (lv' := [(4, .int 0), (3, .int 3), (0, .ref pr), (1, .ref nw), (2, .int (nI t))]) hx hb dX4_solve_13 hl (by decide) rfl (fun ls hl => ?_)
                          have lp_15 : ∀ (n_15 : Nat) (b3 : Nat), (b3 ≤ t + 1) → (t + 2 ≤ b3 + n_15) → ∀ (H : Heap) (locs : List Loc) (ls : Array Slot), va_P D vwCl [(lea, .inl (cI, 63, .inl (fun _ => 0))), (prw, .inl (cI, 6, .inl (fun _ => 0))), (pr, .inr (4, [.int 0, .ref prw, .ref lft, .ref lea])), (lft, .inl (cI, 56, .inl (fun _ => 0)))] H → va_D (va_A (w_psolve cI cZ cP pr prw lft lea nw keys moms lens prts luds hnds lats knds rch spd unN unH ptn t) sz) [(lea, .inl (cI, 63, .inl (fun _ => 0))), (prw, .inl (cI, 6, .inl (fun _ => 0))), (pr, .inr (4, [.int 0, .ref prw, .ref lft, .ref lea])), (lft, .inl (cI, 56, .inl (fun _ => 0)))] → va_S (va_A (w_psolve cI cZ cP pr prw lft lea nw keys moms lens prts luds hnds lats knds rch spd unN unH ptn t) sz) s.heap H locs → lv_has ls 6 [(4, .int (nI b3)), (3, .int 3), (0, .ref pr), (1, .ref nw), (2, .int (nI t))] → W p l e ({ frames := 3, cells := 0, slots := 0, locals := 72 } : Room) s m ([.ref pr, .ref nw, .int (nI t)] : List Value).toArray below meth c H locs 0 0 (MQ below (qQv D (w_psolve cI cZ cP pr prw lft lea nw keys moms lens prts luds hnds lats knds rch spd unN unH ptn t) sz (fun _ : Unit => True) (fun _ => [(pr, .inr (4, [.int 0, .ref prw, .ref lft, .ref lea])), (prw, .inl (cI, 6, .inl (fun _ => 0)))])) ([.ref pr, .ref nw, .int (nI t)] : List Value).toArray s 0 0 (va_A (w_psolve cI cZ cP pr prw lft lea nw keys moms lens prts luds hnds lats knds rch spd unN unH ptn t) sz)) (F0 m 15 ls []) := by
                            intro n_15
                            induction n_15 with
                            | zero => intro b3 hb3 hm_15; exact absurd hm_15 (by omega)
                            | succ n_15 ih_15 =>
                              intro b3 hb3 hm_15 H locs ls hP hD hS hl
                              refine lv_iload hx hb dX4_solve_15 (lv_at hl 0 rfl) ?_
                              refine lv_iload_n hx hb dX4_solve_17 rfl (lv_at hl 4 rfl) ?_
                              refine lv_icmp_gt (tgt := 57) hx hb dX4_solve_18 (by decide) (fun c_11 => ?_) (fun c_11 => ?_)
                              · refine lv_iinc (v := 2) (lv' := [(3, .int 2), (4, .int (nI b3)), (0, .ref pr), (1, .ref nw), (2, .int (nI t))]) hx hb dX4_solve_57 hl (k := 1) rfl (by decide) (by decide) rfl (fun ls hl => ?_)
                                refine lv_goto (tgt := 8) hx hb dX4_solve_60 (by decide) ?_
                                refine lv_iload_n hx hb dX4_solve_8 rfl (lv_at hl 0 rfl) ?_
                                refine lv_if_lt (tgt := 63) hx hb dX4_solve_9 (by decide) (fun c_12 => absurd c_12 (by decide)) (fun _ => ?_)
                                refine lv_iconst (v := 0) hx hb dX4_solve_12 (by decide) ?_
                                refine lv_istore (lv' := [(4, .int 0), (3, .int 2), (0, .ref pr), (1, .ref nw), (2, .int (nI t))]) hx hb dX4_solve_13 hl (by decide) rfl (fun ls hl => ?_)
                                have lp_15 : ∀ (n_15 : Nat) (b2 : Nat), (b2 ≤ t + 1) → (t + 2 ≤ b2 + n_15) → ∀ (H : Heap) (locs : List Loc) (ls : Array Slot), va_P D vwCl [(lea, .inl (cI, 63, .inl (fun _ => 0))), (prw, .inl (cI, 6, .inl (fun _ => 0))), (pr, .inr (4, [.int 0, .ref prw, .ref lft, .ref lea])), (lft, .inl (cI, 56, .inl (fun _ => 0)))] H → va_D (va_A (w_psolve cI cZ cP pr prw lft lea nw keys moms lens prts luds hnds lats knds rch spd unN unH ptn t) sz) [(lea, .inl (cI, 63, .inl (fun _ => 0))), (prw, .inl (cI, 6, .inl (fun _ => 0))), (pr, .inr (4, [.int 0, .ref prw, .ref lft, .ref lea])), (lft, .inl (cI, 56, .inl (fun _ => 0)))] → va_S (va_A (w_psolve cI cZ cP pr prw lft lea nw keys moms lens prts luds hnds lats knds rch spd unN unH ptn t) sz) s.heap H locs → lv_has ls 6 [(4, .int (nI b2)), (3, .int 2), (0, .ref pr), (1, .ref nw), (2, .int (nI t))] → W p l e ({ frames := 3, cells := 0, slots := 0, locals := 72 } : Room) s m ([.ref pr, .ref nw, .int (nI t)] : List Value).toArray below meth c H locs 0 0 (MQ below (qQv D (w_psolve cI cZ cP pr prw lft lea nw keys moms lens prts luds hnds lats knds rch spd unN unH ptn t) sz (fun _ : Unit => True) (fun _ => [(pr, .inr (4, [.int 0, .ref prw, .ref lft, .ref lea])), (prw, .inl (cI, 6, .inl (fun _ => 0)))])) ([.ref pr, .ref nw, .int (nI t)] : List Value).toArray s 0 0 (va_A (w_psolve cI cZ cP pr prw lft lea nw keys moms lens prts luds hnds lats knds rch spd unN unH ptn t) sz)) (F0 m 15 ls []) := by
                                  intro n_15
                                  induction n_15 with
                                  | zero => intro b2 hb2 hm_15; exact absurd hm_15 (by omega)
                                  | succ n_15 ih_15 =>
                                    intro b2 hb2 hm_15 H locs ls hP hD hS hl
                                    refine lv_iload hx hb dX4_solve_15 (lv_at hl 0 rfl) ?_
                                    refine lv_iload_n hx hb dX4_solve_17 rfl (lv_at hl 4 rfl) ?_
                                    refine lv_icmp_gt (tgt := 57) hx hb dX4_solve_18 (by decide) (fun c_13 => ?_) (fun c_13 => ?_)
                                    · refine lv_iinc (v := 1) (lv' := [(3, .int 1), (4, .int (nI b2)), (0, .ref pr), (1, .ref nw), (2, .int (nI t))]) hx hb dX4_solve_57 hl (k := 1) rfl (by decide) (by decide) rfl (fun ls hl => ?_)
                                      refine lv_goto (tgt := 8) hx hb dX4_solve_60 (by decide) ?_
                                      refine lv_iload_n hx hb dX4_solve_8 rfl (lv_at hl 0 rfl) ?_
                                      refine lv_if_lt (tgt := 63) hx hb dX4_solve_9 (by decide) (fun c_14 => absurd c_14 (by decide)) (fun _ => ?_)
                                      refine lv_iconst (v := 0) hx hb dX4_solve_12 (by decide) ?_
                                      refine lv_istore (lv' := [(4, .int 0), (3, .int 1), (0, .ref pr), (1, .ref nw), (2, .int (nI t))]) hx hb dX4_solve_13 hl (by decide) rfl (fun ls hl => ?_)
                                      have lp_15 : ∀ (n_15 : Nat) (b1 : Nat), (b1 ≤ t + 1) → (t + 2 ≤ b1 + n_15) → ∀ (H : Heap) (locs : List Loc) (ls : Array Slot), va_P D vwCl [(lea, .inl (cI, 63, .inl (fun _ => 0))), (prw, .inl (cI, 6, .inl (fun _ => 0))), (pr, .inr (4, [.int 0, .ref prw, .ref lft, .ref lea])), (lft, .inl (cI, 56, .inl (fun _ => 0)))] H → va_D (va_A (w_psolve cI cZ cP pr prw lft lea nw keys moms lens prts luds hnds lats knds rch spd unN unH ptn t) sz) [(lea, .inl (cI, 63, .inl (fun _ => 0))), (prw, .inl (cI, 6, .inl (fun _ => 0))), (pr, .inr (4, [.int 0, .ref prw, .ref lft, .ref lea])), (lft, .inl (cI, 56, .inl (fun _ => 0)))] → va_S (va_A (w_psolve cI cZ cP pr prw lft lea nw keys moms lens prts luds hnds lats knds rch spd unN unH ptn t) sz) s.heap H locs → lv_has ls 6 [(4, .int (nI b1)), (3, .int 1), (0, .ref pr), (1, .ref nw), (2, .int (nI t))] → W p l e ({ frames := 3, cells := 0, slots := 0, locals := 72 } : Room) s m ([.ref pr, .ref nw, .int (nI t)] : List Value).toArray below meth c H locs 0 0 (MQ below (qQv D (w_psolve cI cZ cP pr prw lft lea nw keys moms lens prts luds hnds lats knds rch spd unN unH ptn t) sz (fun _ : Unit => True) (fun _ => [(pr, .inr (4, [.int 0, .ref prw, .ref lft, .ref lea])), (prw, .inl (cI, 6, .inl (fun _ => 0)))])) ([.ref pr, .ref nw, .int (nI t)] : List Value).toArray s 0 0 (va_A (w_psolve cI cZ cP pr prw lft lea nw keys moms lens prts luds hnds lats knds rch spd unN unH ptn t) sz)) (F0 m 15 ls []) := by
                                        intro n_15
                                        induction n_15 with
                                        | zero => intro b1 hb1 hm_15; exact absurd hm_15 (by omega)
                                        | succ n_15 ih_15 =>
                                          intro b1 hb1 hm_15 H locs ls hP hD hS hl
                                          refine lv_iload hx hb dX4_solve_15 (lv_at hl 0 rfl) ?_
                                          refine lv_iload_n hx hb dX4_solve_17 rfl (lv_at hl 4 rfl) ?_
                                          refine lv_icmp_gt (tgt := 57) hx hb dX4_solve_18 (by decide) (fun c_15 => ?_) (fun c_15 => ?_)
                                          · refine lv_iinc (v := 0) (lv' := [(3, .int 0), (4, .int (nI b1)), (0, .ref pr), (1, .ref nw), (2, .int (nI t))]) hx hb dX4_solve_57 hl (k := 1) rfl (by decide) (by decide) rfl (fun ls hl => ?_)
                                            refine lv_goto (tgt := 8) hx hb dX4_solve_60 (by decide) ?_
                                            refine lv_iload_n hx hb dX4_solve_8 rfl (lv_at hl 0 rfl) ?_
                                            refine lv_if_lt (tgt := 63) hx hb dX4_solve_9 (by decide) (fun c_16 => absurd c_16 (by decide)) (fun _ => ?_)
                                            refine lv_iconst (v := 0) hx hb dX4_solve_12 (by decide) ?_
                                            refine lv_istore (lv' := [(4, .int 0), (3, .int 0), (0, .ref pr), (1, .ref nw), (2, .int (nI t))]) hx hb dX4_solve_13 hl (by decide) rfl (fun ls hl => ?_)
                                            have lp_15 : ∀ (n_15 : Nat) (b0 : Nat), (b0 ≤ t + 1) → (t + 2 ≤ b0 + n_15) → ∀ (H : Heap) (locs : List Loc) (ls : Array Slot), va_P D vwCl [(lea, .inl (cI, 63, .inl (fun _ => 0))), (prw, .inl (cI, 6, .inl (fun _ => 0))), (pr, .inr (4, [.int 0, .ref prw, .ref lft, .ref lea])), (lft, .inl (cI, 56, .inl (fun _ => 0)))] H → va_D (va_A (w_psolve cI cZ cP pr prw lft lea nw keys moms lens prts luds hnds lats knds rch spd unN unH ptn t) sz) [(lea, .inl (cI, 63, .inl (fun _ => 0))), (prw, .inl (cI, 6, .inl (fun _ => 0))), (pr, .inr (4, [.int 0, .ref prw, .ref lft, .ref lea])), (lft, .inl (cI, 56, .inl (fun _ => 0)))] → va_S (va_A (w_psolve cI cZ cP pr prw lft lea nw keys moms lens prts luds hnds lats knds rch spd unN unH ptn t) sz) s.heap H locs → lv_has ls 6 [(4, .int (nI b0)), (3, .int 0), (0, .ref pr), (1, .ref nw), (2, .int (nI t))] → W p l e ({ frames := 3, cells := 0, slots := 0, locals := 72 } : Room) s m ([.ref pr, .ref nw, .int (nI t)] : List Value).toArray below meth c H locs 0 0 (MQ below (qQv D (w_psolve cI cZ cP pr prw lft lea nw keys moms lens prts luds hnds lats knds rch spd unN unH ptn t) sz (fun _ : Unit => True) (fun _ => [(pr, .inr (4, [.int 0, .ref prw, .ref lft, .ref lea])), (prw, .inl (cI, 6, .inl (fun _ => 0)))])) ([.ref pr, .ref nw, .int (nI t)] : List Value).toArray s 0 0 (va_A (w_psolve cI cZ cP pr prw lft lea nw keys moms lens prts luds hnds lats knds rch spd unN unH ptn t) sz)) (F0 m 15 ls []) := by
                                              intro n_15
                                              induction n_15 with
                                              | zero => intro b0 hb0 hm_15; exact absurd hm_15 (by omega)
                                              | succ n_15 ih_15 =>
                                                intro b0 hb0 hm_15 H locs ls hP hD hS hl
                                                refine lv_iload hx hb dX4_solve_15 (lv_at hl 0 rfl) ?_
                                                refine lv_iload_n hx hb dX4_solve_17 rfl (lv_at hl 4 rfl) ?_
                                                refine lv_icmp_gt (tgt := 57) hx hb dX4_solve_18 (by decide) (fun c_17 => ?_) (fun c_17 => ?_)
                                                · refine lv_iinc (v := (-1)) (lv' := [(3, .int (-1)), (4, .int (nI b0)), (0, .ref pr), (1, .ref nw), (2, .int (nI t))]) hx hb dX4_solve_57 hl (k := 1) rfl (by decide) (by decide) rfl (fun ls hl => ?_)
                                                  refine lv_goto (tgt := 8) hx hb dX4_solve_60 (by decide) ?_
                                                  refine lv_iload_n hx hb dX4_solve_8 rfl (lv_at hl 0 rfl) ?_
                                                  refine lv_if_lt (tgt := 63) hx hb dX4_solve_9 (by decide) (fun _ => ?_) (fun c_18 => absurd (by decide) c_18)
                                                  refine lv_aload_n hx hb dX4_solve_63 rfl (lv_at hl 2 rfl) ?_
                                                  refine lv_aload_n hx hb dX4_solve_64 rfl (lv_at hl 2 rfl) ?_
                                                  refine va_get (D := D) (ci := 4) (v := .ref lea) (C := RX4) (T := TX4) (N := 4) hx hb ht inX4 hown hK hP 2 rfl rfl 3 (Nat.le_of_ble_eq_true rfl) (ht _ kw_327) (fun _ h9 => h9) rfl dX4_solve_65 ?_
                                                  refine lv_iload_n hx hb dX4_solve_68 rfl (lv_at hl 4 rfl) ?_
                                                  refine va_iald hx hb hK hP 0 0 rfl rfl (vp_in_nI (by omega) (by omega)) dX4_solve_69 ?_
                                                  refine q_i (z := 0) rfl ?_
                                                  refine va_put (D := D) (ci := 4) (v := .int 0) (ty := .int) (C := RX4) (T := TX4) (N := 4) hx hb ht inX4 tyX4 tyX4_ok nmX4 hown hK hP hD hS 2 rfl rfl 0 (Nat.le_of_ble_eq_true rfl) (ht _ kw_322) (fun _ h9 => h9) rfl (by decide +kernel) rfl rfl (Nat.le_of_ble_eq_true rfl) dX4_solve_70 (fun H locs hP hD hS => ?_)
                                                  have hP : va_P D vwCl [(lea, .inl (cI, 63, .inl (fun _ => 0))), (prw, .inl (cI, 6, .inl (fun _ => 0))), (pr, .inr (4, [.int 0, .ref prw, .ref lft, .ref lea])), (lft, .inl (cI, 56, .inl (fun _ => 0)))] H := hP
                                                  have hD : va_D (va_A (w_psolve cI cZ cP pr prw lft lea nw keys moms lens prts luds hnds lats knds rch spd unN unH ptn t) sz) [(lea, .inl (cI, 63, .inl (fun _ => 0))), (prw, .inl (cI, 6, .inl (fun _ => 0))), (pr, .inr (4, [.int 0, .ref prw, .ref lft, .ref lea])), (lft, .inl (cI, 56, .inl (fun _ => 0)))] := hD
                                                  refine lv_aload_n hx hb dX4_solve_73 rfl (lv_at hl 2 rfl) ?_
                                                  refine lv_iload_n hx hb dX4_solve_74 rfl (lv_at hl 4 rfl) ?_
                                                  refine q_Vv (wr := []) [2, 3, 0, 1] [] hX hE hK hP hD hS hA hl.1 lk_X4_37 (c_fillRow l D cI cZ cP sa pr prw lft lea t hti _) rfl rfl rfl rfl (by decide) 0 4 rfl rfl rfl rfl (Nat.le_of_ble_eq_true rfl) rfl rfl ⟨Nat.le_of_ble_eq_true rfl, Nat.le_of_ble_eq_true rfl⟩ ⟨Nat.le_of_ble_eq_true rfl, Nat.le_of_ble_eq_true rfl⟩ dX4_solve_75 (fun _ H locs h_19 hP hD hS => ?_)
                                                  have hP : va_P D vwCl [(pr, .inr (4, [.int 0, .ref prw, .ref lft, .ref lea])), (prw, .inl (cI, 6, .inl (fun _ => 0)))] H := hP
                                                  have hD : va_D (va_A (w_psolve cI cZ cP pr prw lft lea nw keys moms lens prts luds hnds lats knds rch spd unN unH ptn t) sz) [(pr, .inr (4, [.int 0, .ref prw, .ref lft, .ref lea])), (prw, .inl (cI, 6, .inl (fun _ => 0)))] := hD
                                                  exact q_vret hX hr hlk () trivial (hP.sub [0, 1] rfl) (hD.sub [0, 1] (by decide) rfl) hS dX4_solve_78
                                                · have hc_b0 : b0 ≤ t := nI_lit (N := t) rfl c_17 (by omega) (by omega)
                                                  refine lv_aload_n hx hb dX4_solve_21 rfl (lv_at hl 2 rfl) ?_
                                                  refine lv_iload_n hx hb dX4_solve_22 rfl (lv_at hl 1 rfl) ?_
                                                  refine lv_iload hx hb dX4_solve_23 (lv_at hl 0 rfl) ?_
                                                  refine q_Vi (wr := [(prw, .inl (cI, 6, .inl (fun _ => 0)))]) [2, 3, 0] [1] hX hE hK hP hD hS hA hl.1 lk_X4_25 (c_hoursHere l D cI cZ cP sa pr prw lft lea 0 b0 (by decide) (by omega) _) rfl rfl rfl rfl (by decide) 0 4 rfl rfl rfl rfl (Nat.le_of_ble_eq_true rfl) rfl rfl ⟨Nat.le_of_ble_eq_true rfl, Nat.le_of_ble_eq_true rfl⟩ ⟨Nat.le_of_ble_eq_true rfl, Nat.le_of_ble_eq_true rfl⟩ dX4_solve_25 (fun x_20 _ H locs h_20 hP hD hS => ?_)
                                                  have hP : va_P D vwCl [(prw, .inl (cI, 6, .inl (fun _ => 0))), (pr, .inr (4, [.int 0, .ref prw, .ref lft, .ref lea])), (lft, .inl (cI, 56, .inl (fun _ => 0))), (lea, .inl (cI, 63, .inl (fun _ => 0)))] H := hP
                                                  have hD : va_D (va_A (w_psolve cI cZ cP pr prw lft lea nw keys moms lens prts luds hnds lats knds rch spd unN unH ptn t) sz) [(prw, .inl (cI, 6, .inl (fun _ => 0))), (pr, .inr (4, [.int 0, .ref prw, .ref lft, .ref lea])), (lft, .inl (cI, 56, .inl (fun _ => 0))), (lea, .inl (cI, 63, .inl (fun _ => 0)))] := hD
                                                  subst h_20
                                                  refine lv_istore (lv' := [(5, .int (nI b0)), (4, .int (nI b0)), (3, .int 0), (0, .ref pr), (1, .ref nw), (2, .int (nI t))]) hx hb dX4_solve_28 hl (by decide) rfl (fun ls hl => ?_)
                                                  refine lv_aload_n hx hb dX4_solve_30 rfl (lv_at hl 3 rfl) ?_
                                                  refine va_get (D := D) (ci := 4) (v := .ref lea) (C := RX4) (T := TX4) (N := 4) hx hb ht inX4 hown hK hP 1 rfl rfl 3 (Nat.le_of_ble_eq_true rfl) (ht _ kw_327) (fun _ h9 => h9) rfl dX4_solve_31 ?_
                                                  refine lv_iload_n hx hb dX4_solve_34 rfl (lv_at hl 2 rfl) ?_
                                                  refine lv_bipush (v := 7) hx hb dX4_solve_35 (by decide) ?_
                                                  refine lv_imul hx hb dX4_solve_37 ?_
                                                  refine q_i (z := 0) (by decide) ?_
                                                  refine lv_iload hx hb dX4_solve_38 (lv_at hl 1 rfl) ?_
                                                  refine lv_iadd hx hb dX4_solve_40 ?_
                                                  refine q_i (z := (nI b0)) (Int32.zero_add _) ?_
                                                  refine lv_aload_n hx hb dX4_solve_41 rfl (lv_at hl 3 rfl) ?_
                                                  refine lv_iload_n hx hb dX4_solve_42 rfl (lv_at hl 2 rfl) ?_
                                                  refine lv_iload hx hb dX4_solve_43 (lv_at hl 0 rfl) ?_
                                                  refine lv_iload hx hb dX4_solve_45 (lv_at hl 1 rfl) ?_
                                                  refine q_Vi (wr := [(prw, .inl (cI, 6, .inl (fun _ => 0)))]) [1, 2, 3] [0] hX hE hK hP hD hS hA hl.1 lk_X4_29 (c_leaves l D cI cZ cP sa pr prw lft lea 0 b0 b0 (by decide) (by omega) (by omega) _) rfl rfl rfl rfl (by decide) 0 4 rfl rfl rfl rfl (Nat.le_of_ble_eq_true rfl) rfl rfl ⟨Nat.le_of_ble_eq_true rfl, Nat.le_of_ble_eq_true rfl⟩ ⟨Nat.le_of_ble_eq_true rfl, Nat.le_of_ble_eq_true rfl⟩ dX4_solve_47 (fun x_21 _ H locs h_21 hP hD hS => ?_)
                                                  have hP : va_P D vwCl [(prw, .inl (cI, 6, .inl (fun _ => 0))), (pr, .inr (4, [.int 0, .ref prw, .ref lft, .ref lea])), (lft, .inl (cI, 56, .inl (fun _ => 0))), (lea, .inl (cI, 63, .inl (fun _ => 0)))] H := hP
                                                  have hD : va_D (va_A (w_psolve cI cZ cP pr prw lft lea nw keys moms lens prts luds hnds lats knds rch spd unN unH ptn t) sz) [(prw, .inl (cI, 6, .inl (fun _ => 0))), (pr, .inr (4, [.int 0, .ref prw, .ref lft, .ref lea])), (lft, .inl (cI, 56, .inl (fun _ => 0))), (lea, .inl (cI, 63, .inl (fun _ => 0)))] := hD
                                                  subst h_21
                                                  refine va_iast hx hb hK hP hD hS 3 0 rfl rfl (vp_in_nI (by omega) (by omega)) dX4_solve_50 (fun H locs hP hD hS => ?_)
                                                  have hP : va_P D vwCl [(prw, .inl (cI, 6, .inl (fun _ => 0))), (pr, .inr (4, [.int 0, .ref prw, .ref lft, .ref lea])), (lft, .inl (cI, 56, .inl (fun _ => 0))), (lea, .inl (cI, 63, .inl (upd (fun _ => 0) (nI b0).toNatClampNeg 0)))] H := hP
                                                  have hD : va_D (va_A (w_psolve cI cZ cP pr prw lft lea nw keys moms lens prts luds hnds lats knds rch spd unN unH ptn t) sz) [(prw, .inl (cI, 6, .inl (fun _ => 0))), (pr, .inr (4, [.int 0, .ref prw, .ref lft, .ref lea])), (lft, .inl (cI, 56, .inl (fun _ => 0))), (lea, .inl (cI, 63, .inl (upd (fun _ => 0) (nI b0).toNatClampNeg 0)))] := hD
                                                  rw [upd_c] at hP hD
                                                  have hP : va_P D vwCl [(prw, .inl (cI, 6, .inl (fun _ => 0))), (pr, .inr (4, [.int 0, .ref prw, .ref lft, .ref lea])), (lft, .inl (cI, 56, .inl (fun _ => 0))), (lea, .inl (cI, 63, .inl (fun _ => 0)))] H := hP
                                                  have hD : va_D (va_A (w_psolve cI cZ cP pr prw lft lea nw keys moms lens prts luds hnds lats knds rch spd unN unH ptn t) sz) [(prw, .inl (cI, 6, .inl (fun _ => 0))), (pr, .inr (4, [.int 0, .ref prw, .ref lft, .ref lea])), (lft, .inl (cI, 56, .inl (fun _ => 0))), (lea, .inl (cI, 63, .inl (fun _ => 0)))] := hD
                                                  refine lv_iinc (v := (nI (b0 + 1))) (lv' := [(4, .int (nI (b0 + 1))), (5, .int (nI b0)), (3, .int 0), (0, .ref pr), (1, .ref nw), (2, .int (nI t))]) hx hb dX4_solve_51 hl (k := 1) rfl (nI_1 b0) (by decide) rfl (fun ls hl => ?_)
                                                  refine lv_goto (tgt := 15) hx hb dX4_solve_54 (by decide) ?_
                                                  exact ih_15 (b0 + 1) (by omega) (by omega) _ _ _ (hP.sub [3, 0, 1, 2] rfl) (hD.sub [3, 0, 1, 2] (by decide) rfl) hS (lv_sub hl [0, 2, 3, 4, 5] rfl)
                                            exact lp_15 (t + 2) 0 (by omega) (by omega) _ _ _ hP hD hS (lv_sub hl [0, 1, 2, 3, 4] rfl)
                                          · have hc_b1 : b1 ≤ t := nI_lit (N := t) rfl c_15 (by omega) (by omega)
                                            refine lv_aload_n hx hb dX4_solve_21 rfl (lv_at hl 2 rfl) ?_
                                            refine lv_iload_n hx hb dX4_solve_22 rfl (lv_at hl 1 rfl) ?_
                                            refine lv_iload hx hb dX4_solve_23 (lv_at hl 0 rfl) ?_
                                            refine q_Vi (wr := [(prw, .inl (cI, 6, .inl (fun _ => 0)))]) [2, 3, 0] [1] hX hE hK hP hD hS hA hl.1 lk_X4_25 (c_hoursHere l D cI cZ cP sa pr prw lft lea 1 b1 (by decide) (by omega) _) rfl rfl rfl rfl (by decide) 0 4 rfl rfl rfl rfl (Nat.le_of_ble_eq_true rfl) rfl rfl ⟨Nat.le_of_ble_eq_true rfl, Nat.le_of_ble_eq_true rfl⟩ ⟨Nat.le_of_ble_eq_true rfl, Nat.le_of_ble_eq_true rfl⟩ dX4_solve_25 (fun x_22 _ H locs h_22 hP hD hS => ?_)
                                            have hP : va_P D vwCl [(prw, .inl (cI, 6, .inl (fun _ => 0))), (pr, .inr (4, [.int 0, .ref prw, .ref lft, .ref lea])), (lft, .inl (cI, 56, .inl (fun _ => 0))), (lea, .inl (cI, 63, .inl (fun _ => 0)))] H := hP
                                            have hD : va_D (va_A (w_psolve cI cZ cP pr prw lft lea nw keys moms lens prts luds hnds lats knds rch spd unN unH ptn t) sz) [(prw, .inl (cI, 6, .inl (fun _ => 0))), (pr, .inr (4, [.int 0, .ref prw, .ref lft, .ref lea])), (lft, .inl (cI, 56, .inl (fun _ => 0))), (lea, .inl (cI, 63, .inl (fun _ => 0)))] := hD
                                            subst h_22
                                            refine lv_istore (lv' := [(5, .int (nI b1)), (4, .int (nI b1)), (3, .int 1), (0, .ref pr), (1, .ref nw), (2, .int (nI t))]) hx hb dX4_solve_28 hl (by decide) rfl (fun ls hl => ?_)
                                            refine lv_aload_n hx hb dX4_solve_30 rfl (lv_at hl 3 rfl) ?_
                                            refine va_get (D := D) (ci := 4) (v := .ref lea) (C := RX4) (T := TX4) (N := 4) hx hb ht inX4 hown hK hP 1 rfl rfl 3 (Nat.le_of_ble_eq_true rfl) (ht _ kw_327) (fun _ h9 => h9) rfl dX4_solve_31 ?_
                                            refine lv_iload_n hx hb dX4_solve_34 rfl (lv_at hl 2 rfl) ?_
                                            refine lv_bipush (v := 7) hx hb dX4_solve_35 (by decide) ?_
                                            refine lv_imul hx hb dX4_solve_37 ?_
                                            refine q_i (z := 7) (by decide) ?_
                                            refine lv_iload hx hb dX4_solve_38 (lv_at hl 1 rfl) ?_
                                            refine lv_iadd hx hb dX4_solve_40 ?_
                                            refine q_i (z := (nI (7 + b1))) (nI_add 7 b1) ?_
                                            refine lv_aload_n hx hb dX4_solve_41 rfl (lv_at hl 3 rfl) ?_
                                            refine lv_iload_n hx hb dX4_solve_42 rfl (lv_at hl 2 rfl) ?_
                                            refine lv_iload hx hb dX4_solve_43 (lv_at hl 0 rfl) ?_
                                            refine lv_iload hx hb dX4_solve_45 (lv_at hl 1 rfl) ?_
                                            refine q_Vi (wr := [(prw, .inl (cI, 6, .inl (fun _ => 0)))]) [1, 2, 3] [0] hX hE hK hP hD hS hA hl.1 lk_X4_29 (c_leaves l D cI cZ cP sa pr prw lft lea 1 b1 b1 (by decide) (by omega) (by omega) _) rfl rfl rfl rfl (by decide) 0 4 rfl rfl rfl rfl (Nat.le_of_ble_eq_true rfl) rfl rfl ⟨Nat.le_of_ble_eq_true rfl, Nat.le_of_ble_eq_true rfl⟩ ⟨Nat.le_of_ble_eq_true rfl, Nat.le_of_ble_eq_true rfl⟩ dX4_solve_47 (fun x_23 _ H locs h_23 hP hD hS => ?_)
                                            have hP : va_P D vwCl [(prw, .inl (cI, 6, .inl (fun _ => 0))), (pr, .inr (4, [.int 0, .ref prw, .ref lft, .ref lea])), (lft, .inl (cI, 56, .inl (fun _ => 0))), (lea, .inl (cI, 63, .inl (fun _ => 0)))] H := hP
                                            have hD : va_D (va_A (w_psolve cI cZ cP pr prw lft lea nw keys moms lens prts luds hnds lats knds rch spd unN unH ptn t) sz) [(prw, .inl (cI, 6, .inl (fun _ => 0))), (pr, .inr (4, [.int 0, .ref prw, .ref lft, .ref lea])), (lft, .inl (cI, 56, .inl (fun _ => 0))), (lea, .inl (cI, 63, .inl (fun _ => 0)))] := hD
                                            subst h_23
                                            refine va_iast hx hb hK hP hD hS 3 0 rfl rfl (vp_in_nI (by omega) (by omega)) dX4_solve_50 (fun H locs hP hD hS => ?_)
                                            have hP : va_P D vwCl [(prw, .inl (cI, 6, .inl (fun _ => 0))), (pr, .inr (4, [.int 0, .ref prw, .ref lft, .ref lea])), (lft, .inl (cI, 56, .inl (fun _ => 0))), (lea, .inl (cI, 63, .inl (upd (fun _ => 0) (nI (7 + b1)).toNatClampNeg 0)))] H := hP
                                            have hD : va_D (va_A (w_psolve cI cZ cP pr prw lft lea nw keys moms lens prts luds hnds lats knds rch spd unN unH ptn t) sz) [(prw, .inl (cI, 6, .inl (fun _ => 0))), (pr, .inr (4, [.int 0, .ref prw, .ref lft, .ref lea])), (lft, .inl (cI, 56, .inl (fun _ => 0))), (lea, .inl (cI, 63, .inl (upd (fun _ => 0) (nI (7 + b1)).toNatClampNeg 0)))] := hD
                                            rw [upd_c] at hP hD
                                            have hP : va_P D vwCl [(prw, .inl (cI, 6, .inl (fun _ => 0))), (pr, .inr (4, [.int 0, .ref prw, .ref lft, .ref lea])), (lft, .inl (cI, 56, .inl (fun _ => 0))), (lea, .inl (cI, 63, .inl (fun _ => 0)))] H := hP
                                            have hD : va_D (va_A (w_psolve cI cZ cP pr prw lft lea nw keys moms lens prts luds hnds lats knds rch spd unN unH ptn t) sz) [(prw, .inl (cI, 6, .inl (fun _ => 0))), (pr, .inr (4, [.int 0, .ref prw, .ref lft, .ref lea])), (lft, .inl (cI, 56, .inl (fun _ => 0))), (lea, .inl (cI, 63, .inl (fun _ => 0)))] := hD
                                            refine lv_iinc (v := (nI (b1 + 1))) (lv' := [(4, .int (nI (b1 + 1))), (5, .int (nI b1)), (3, .int 1), (0, .ref pr), (1, .ref nw), (2, .int (nI t))]) hx hb dX4_solve_51 hl (k := 1) rfl (nI_1 b1) (by decide) rfl (fun ls hl => ?_)
                                            refine lv_goto (tgt := 15) hx hb dX4_solve_54 (by decide) ?_
                                            exact ih_15 (b1 + 1) (by omega) (by omega) _ _ _ (hP.sub [3, 0, 1, 2] rfl) (hD.sub [3, 0, 1, 2] (by decide) rfl) hS (lv_sub hl [0, 2, 3, 4, 5] rfl)
                                      exact lp_15 (t + 2) 0 (by omega) (by omega) _ _ _ hP hD hS (lv_sub hl [0, 1, 2, 3, 4] rfl)
                                    · have hc_b2 : b2 ≤ t := nI_lit (N := t) rfl c_13 (by omega) (by omega)
                                      refine lv_aload_n hx hb dX4_solve_21 rfl (lv_at hl 2 rfl) ?_
                                      refine lv_iload_n hx hb dX4_solve_22 rfl (lv_at hl 1 rfl) ?_
                                      refine lv_iload hx hb dX4_solve_23 (lv_at hl 0 rfl) ?_
                                      refine q_Vi (wr := [(prw, .inl (cI, 6, .inl (fun _ => 0)))]) [2, 3, 0] [1] hX hE hK hP hD hS hA hl.1 lk_X4_25 (c_hoursHere l D cI cZ cP sa pr prw lft lea 2 b2 (by decide) (by omega) _) rfl rfl rfl rfl (by decide) 0 4 rfl rfl rfl rfl (Nat.le_of_ble_eq_true rfl) rfl rfl ⟨Nat.le_of_ble_eq_true rfl, Nat.le_of_ble_eq_true rfl⟩ ⟨Nat.le_of_ble_eq_true rfl, Nat.le_of_ble_eq_true rfl⟩ dX4_solve_25 (fun x_24 _ H locs h_24 hP hD hS => ?_)
                                      have hP : va_P D vwCl [(prw, .inl (cI, 6, .inl (fun _ => 0))), (pr, .inr (4, [.int 0, .ref prw, .ref lft, .ref lea])), (lft, .inl (cI, 56, .inl (fun _ => 0))), (lea, .inl (cI, 63, .inl (fun _ => 0)))] H := hP
                                      have hD : va_D (va_A (w_psolve cI cZ cP pr prw lft lea nw keys moms lens prts luds hnds lats knds rch spd unN unH ptn t) sz) [(prw, .inl (cI, 6, .inl (fun _ => 0))), (pr, .inr (4, [.int 0, .ref prw, .ref lft, .ref lea])), (lft, .inl (cI, 56, .inl (fun _ => 0))), (lea, .inl (cI, 63, .inl (fun _ => 0)))] := hD
                                      subst h_24
                                      refine lv_istore (lv' := [(5, .int (nI b2)), (4, .int (nI b2)), (3, .int 2), (0, .ref pr), (1, .ref nw), (2, .int (nI t))]) hx hb dX4_solve_28 hl (by decide) rfl (fun ls hl => ?_)
                                      refine lv_aload_n hx hb dX4_solve_30 rfl (lv_at hl 3 rfl) ?_
                                      refine va_get (D := D) (ci := 4) (v := .ref lea) (C := RX4) (T := TX4) (N := 4) hx hb ht inX4 hown hK hP 1 rfl rfl 3 (Nat.le_of_ble_eq_true rfl) (ht _ kw_327) (fun _ h9 => h9) rfl dX4_solve_31 ?_
                                      refine lv_iload_n hx hb dX4_solve_34 rfl (lv_at hl 2 rfl) ?_
                                      refine lv_bipush (v := 7) hx hb dX4_solve_35 (by decide) ?_
                                      refine lv_imul hx hb dX4_solve_37 ?_
                                      refine q_i (z := 14) (by decide) ?_
                                      refine lv_iload hx hb dX4_solve_38 (lv_at hl 1 rfl) ?_
                                      refine lv_iadd hx hb dX4_solve_40 ?_
                                      refine q_i (z := (nI (14 + b2))) (nI_add 14 b2) ?_
                                      refine lv_aload_n hx hb dX4_solve_41 rfl (lv_at hl 3 rfl) ?_
                                      refine lv_iload_n hx hb dX4_solve_42 rfl (lv_at hl 2 rfl) ?_
                                      refine lv_iload hx hb dX4_solve_43 (lv_at hl 0 rfl) ?_
                                      refine lv_iload hx hb dX4_solve_45 (lv_at hl 1 rfl) ?_
                                      refine q_Vi (wr := [(prw, .inl (cI, 6, .inl (fun _ => 0)))]) [1, 2, 3] [0] hX hE hK hP hD hS hA hl.1 lk_X4_29 (c_leaves l D cI cZ cP sa pr prw lft lea 2 b2 b2 (by decide) (by omega) (by omega) _) rfl rfl rfl rfl (by decide) 0 4 rfl rfl rfl rfl (Nat.le_of_ble_eq_true rfl) rfl rfl ⟨Nat.le_of_ble_eq_true rfl, Nat.le_of_ble_eq_true rfl⟩ ⟨Nat.le_of_ble_eq_true rfl, Nat.le_of_ble_eq_true rfl⟩ dX4_solve_47 (fun x_25 _ H locs h_25 hP hD hS => ?_)
                                      have hP : va_P D vwCl [(prw, .inl (cI, 6, .inl (fun _ => 0))), (pr, .inr (4, [.int 0, .ref prw, .ref lft, .ref lea])), (lft, .inl (cI, 56, .inl (fun _ => 0))), (lea, .inl (cI, 63, .inl (fun _ => 0)))] H := hP
                                      have hD : va_D (va_A (w_psolve cI cZ cP pr prw lft lea nw keys moms lens prts luds hnds lats knds rch spd unN unH ptn t) sz) [(prw, .inl (cI, 6, .inl (fun _ => 0))), (pr, .inr (4, [.int 0, .ref prw, .ref lft, .ref lea])), (lft, .inl (cI, 56, .inl (fun _ => 0))), (lea, .inl (cI, 63, .inl (fun _ => 0)))] := hD
                                      subst h_25
                                      refine va_iast hx hb hK hP hD hS 3 0 rfl rfl (vp_in_nI (by omega) (by omega)) dX4_solve_50 (fun H locs hP hD hS => ?_)
                                      have hP : va_P D vwCl [(prw, .inl (cI, 6, .inl (fun _ => 0))), (pr, .inr (4, [.int 0, .ref prw, .ref lft, .ref lea])), (lft, .inl (cI, 56, .inl (fun _ => 0))), (lea, .inl (cI, 63, .inl (upd (fun _ => 0) (nI (14 + b2)).toNatClampNeg 0)))] H := hP
                                      have hD : va_D (va_A (w_psolve cI cZ cP pr prw lft lea nw keys moms lens prts luds hnds lats knds rch spd unN unH ptn t) sz) [(prw, .inl (cI, 6, .inl (fun _ => 0))), (pr, .inr (4, [.int 0, .ref prw, .ref lft, .ref lea])), (lft, .inl (cI, 56, .inl (fun _ => 0))), (lea, .inl (cI, 63, .inl (upd (fun _ => 0) (nI (14 + b2)).toNatClampNeg 0)))] := hD
                                      rw [upd_c] at hP hD
                                      have hP : va_P D vwCl [(prw, .inl (cI, 6, .inl (fun _ => 0))), (pr, .inr (4, [.int 0, .ref prw, .ref lft, .ref lea])), (lft, .inl (cI, 56, .inl (fun _ => 0))), (lea, .inl (cI, 63, .inl (fun _ => 0)))] H := hP
                                      have hD : va_D (va_A (w_psolve cI cZ cP pr prw lft lea nw keys moms lens prts luds hnds lats knds rch spd unN unH ptn t) sz) [(prw, .inl (cI, 6, .inl (fun _ => 0))), (pr, .inr (4, [.int 0, .ref prw, .ref lft, .ref lea])), (lft, .inl (cI, 56, .inl (fun _ => 0))), (lea, .inl (cI, 63, .inl (fun _ => 0)))] := hD
                                      refine lv_iinc (v := (nI (b2 + 1))) (lv' := [(4, .int (nI (b2 + 1))), (5, .int (nI b2)), (3, .int 2), (0, .ref pr), (1, .ref nw), (2, .int (nI t))]) hx hb dX4_solve_51 hl (k := 1) rfl (nI_1 b2) (by decide) rfl (fun ls hl => ?_)
                                      refine lv_goto (tgt := 15) hx hb dX4_solve_54 (by decide) ?_
                                      exact ih_15 (b2 + 1) (by omega) (by omega) _ _ _ (hP.sub [3, 0, 1, 2] rfl) (hD.sub [3, 0, 1, 2] (by decide) rfl) hS (lv_sub hl [0, 2, 3, 4, 5] rfl)
                                exact lp_15 (t + 2) 0 (by omega) (by omega) _ _ _ hP hD hS (lv_sub hl [0, 1, 2, 3, 4] rfl)
                              · have hc_b3 : b3 ≤ t := nI_lit (N := t) rfl c_11 (by omega) (by omega)
                                refine lv_aload_n hx hb dX4_solve_21 rfl (lv_at hl 2 rfl) ?_
                                refine lv_iload_n hx hb dX4_solve_22 rfl (lv_at hl 1 rfl) ?_
                                refine lv_iload hx hb dX4_solve_23 (lv_at hl 0 rfl) ?_
                                refine q_Vi (wr := [(prw, .inl (cI, 6, .inl (fun _ => 0)))]) [2, 3, 0] [1] hX hE hK hP hD hS hA hl.1 lk_X4_25 (c_hoursHere l D cI cZ cP sa pr prw lft lea 3 b3 (by decide) (by omega) _) rfl rfl rfl rfl (by decide) 0 4 rfl rfl rfl rfl (Nat.le_of_ble_eq_true rfl) rfl rfl ⟨Nat.le_of_ble_eq_true rfl, Nat.le_of_ble_eq_true rfl⟩ ⟨Nat.le_of_ble_eq_true rfl, Nat.le_of_ble_eq_true rfl⟩ dX4_solve_25 (fun x_26 _ H locs h_26 hP hD hS => ?_)
                                have hP : va_P D vwCl [(prw, .inl (cI, 6, .inl (fun _ => 0))), (pr, .inr (4, [.int 0, .ref prw, .ref lft, .ref lea])), (lft, .inl (cI, 56, .inl (fun _ => 0))), (lea, .inl (cI, 63, .inl (fun _ => 0)))] H := hP
                                have hD : va_D (va_A (w_psolve cI cZ cP pr prw lft lea nw keys moms lens prts luds hnds lats knds rch spd unN unH ptn t) sz) [(prw, .inl (cI, 6, .inl (fun _ => 0))), (pr, .inr (4, [.int 0, .ref prw, .ref lft, .ref lea])), (lft, .inl (cI, 56, .inl (fun _ => 0))), (lea, .inl (cI, 63, .inl (fun _ => 0)))] := hD
                                subst h_26
                                refine lv_istore (lv' := [(5, .int (nI b3)), (4, .int (nI b3)), (3, .int 3), (0, .ref pr), (1, .ref nw), (2, .int (nI t))]) hx hb dX4_solve_28 hl (by decide) rfl (fun ls hl => ?_)
                                refine lv_aload_n hx hb dX4_solve_30 rfl (lv_at hl 3 rfl) ?_
                                refine va_get (D := D) (ci := 4) (v := .ref lea) (C := RX4) (T := TX4) (N := 4) hx hb ht inX4 hown hK hP 1 rfl rfl 3 (Nat.le_of_ble_eq_true rfl) (ht _ kw_327) (fun _ h9 => h9) rfl dX4_solve_31 ?_
                                refine lv_iload_n hx hb dX4_solve_34 rfl (lv_at hl 2 rfl) ?_
                                refine lv_bipush (v := 7) hx hb dX4_solve_35 (by decide) ?_
                                refine lv_imul hx hb dX4_solve_37 ?_
                                refine q_i (z := 21) (by decide) ?_
                                refine lv_iload hx hb dX4_solve_38 (lv_at hl 1 rfl) ?_
                                refine lv_iadd hx hb dX4_solve_40 ?_
                                refine q_i (z := (nI (21 + b3))) (nI_add 21 b3) ?_
                                refine lv_aload_n hx hb dX4_solve_41 rfl (lv_at hl 3 rfl) ?_
                                refine lv_iload_n hx hb dX4_solve_42 rfl (lv_at hl 2 rfl) ?_
                                refine lv_iload hx hb dX4_solve_43 (lv_at hl 0 rfl) ?_
                                refine lv_iload hx hb dX4_solve_45 (lv_at hl 1 rfl) ?_
                                refine q_Vi (wr := [(prw, .inl (cI, 6, .inl (fun _ => 0)))]) [1, 2, 3] [0] hX hE hK hP hD hS hA hl.1 lk_X4_29 (c_leaves l D cI cZ cP sa pr prw lft lea 3 b3 b3 (by decide) (by omega) (by omega) _) rfl rfl rfl rfl (by decide) 0 4 rfl rfl rfl rfl (Nat.le_of_ble_eq_true rfl) rfl rfl ⟨Nat.le_of_ble_eq_true rfl, Nat.le_of_ble_eq_true rfl⟩ ⟨Nat.le_of_ble_eq_true rfl, Nat.le_of_ble_eq_true rfl⟩ dX4_solve_47 (fun x_27 _ H locs h_27 hP hD hS => ?_)
                                have hP : va_P D vwCl [(prw, .inl (cI, 6, .inl (fun _ => 0))), (pr, .inr (4, [.int 0, .ref prw, .ref lft, .ref lea])), (lft, .inl (cI, 56, .inl (fun _ => 0))), (lea, .inl (cI, 63, .inl (fun _ => 0)))] H := hP
                                have hD : va_D (va_A (w_psolve cI cZ cP pr prw lft lea nw keys moms lens prts luds hnds lats knds rch spd unN unH ptn t) sz) [(prw, .inl (cI, 6, .inl (fun _ => 0))), (pr, .inr (4, [.int 0, .ref prw, .ref lft, .ref lea])), (lft, .inl (cI, 56, .inl (fun _ => 0))), (lea, .inl (cI, 63, .inl (fun _ => 0)))] := hD
                                subst h_27
                                refine va_iast hx hb hK hP hD hS 3 0 rfl rfl (vp_in_nI (by omega) (by omega)) dX4_solve_50 (fun H locs hP hD hS => ?_)
                                have hP : va_P D vwCl [(prw, .inl (cI, 6, .inl (fun _ => 0))), (pr, .inr (4, [.int 0, .ref prw, .ref lft, .ref lea])), (lft, .inl (cI, 56, .inl (fun _ => 0))), (lea, .inl (cI, 63, .inl (upd (fun _ => 0) (nI (21 + b3)).toNatClampNeg 0)))] H := hP
                                have hD : va_D (va_A (w_psolve cI cZ cP pr prw lft lea nw keys moms lens prts luds hnds lats knds rch spd unN unH ptn t) sz) [(prw, .inl (cI, 6, .inl (fun _ => 0))), (pr, .inr (4, [.int 0, .ref prw, .ref lft, .ref lea])), (lft, .inl (cI, 56, .inl (fun _ => 0))), (lea, .inl (cI, 63, .inl (upd (fun _ => 0) (nI (21 + b3)).toNatClampNeg 0)))] := hD
                                rw [upd_c] at hP hD
                                have hP : va_P D vwCl [(prw, .inl (cI, 6, .inl (fun _ => 0))), (pr, .inr (4, [.int 0, .ref prw, .ref lft, .ref lea])), (lft, .inl (cI, 56, .inl (fun _ => 0))), (lea, .inl (cI, 63, .inl (fun _ => 0)))] H := hP
                                have hD : va_D (va_A (w_psolve cI cZ cP pr prw lft lea nw keys moms lens prts luds hnds lats knds rch spd unN unH ptn t) sz) [(prw, .inl (cI, 6, .inl (fun _ => 0))), (pr, .inr (4, [.int 0, .ref prw, .ref lft, .ref lea])), (lft, .inl (cI, 56, .inl (fun _ => 0))), (lea, .inl (cI, 63, .inl (fun _ => 0)))] := hD
                                refine lv_iinc (v := (nI (b3 + 1))) (lv' := [(4, .int (nI (b3 + 1))), (5, .int (nI b3)), (3, .int 3), (0, .ref pr), (1, .ref nw), (2, .int (nI t))]) hx hb dX4_solve_51 hl (k := 1) rfl (nI_1 b3) (by decide) rfl (fun ls hl => ?_)
                                refine lv_goto (tgt := 15) hx hb dX4_solve_54 (by decide) ?_
                                exact ih_15 (b3 + 1) (by omega) (by omega) _ _ _ (hP.sub [3, 0, 1, 2] rfl) (hD.sub [3, 0, 1, 2] (by decide) rfl) hS (lv_sub hl [0, 2, 3, 4, 5] rfl)
                          exact lp_15 (t + 2) 0 (by omega) (by omega) _ _ _ hP hD hS (lv_sub hl [0, 1, 2, 3, 4] rfl)
                        · have hc_b4 : b4 ≤ t := nI_lit (N := t) rfl c_9 (by omega) (by omega)
                          refine lv_aload_n hx hb dX4_solve_21 rfl (lv_at hl 2 rfl) ?_
                          refine lv_iload_n hx hb dX4_solve_22 rfl (lv_at hl 1 rfl) ?_
                          refine lv_iload hx hb dX4_solve_23 (lv_at hl 0 rfl) ?_
                          refine q_Vi (wr := [(prw, .inl (cI, 6, .inl (fun _ => 0)))]) [2, 3, 0] [1] hX hE hK hP hD hS hA hl.1 lk_X4_25 (c_hoursHere l D cI cZ cP sa pr prw lft lea 4 b4 (by decide) (by omega) _) rfl rfl rfl rfl (by decide) 0 4 rfl rfl rfl rfl (Nat.le_of_ble_eq_true rfl) rfl rfl ⟨Nat.le_of_ble_eq_true rfl, Nat.le_of_ble_eq_true rfl⟩ ⟨Nat.le_of_ble_eq_true rfl, Nat.le_of_ble_eq_true rfl⟩ dX4_solve_25 (fun x_28 _ H locs h_28 hP hD hS => ?_)
                          have hP : va_P D vwCl [(prw, .inl (cI, 6, .inl (fun _ => 0))), (pr, .inr (4, [.int 0, .ref prw, .ref lft, .ref lea])), (lft, .inl (cI, 56, .inl (fun _ => 0))), (lea, .inl (cI, 63, .inl (fun _ => 0)))] H := hP
                          have hD : va_D (va_A (w_psolve cI cZ cP pr prw lft lea nw keys moms lens prts luds hnds lats knds rch spd unN unH ptn t) sz) [(prw, .inl (cI, 6, .inl (fun _ => 0))), (pr, .inr (4, [.int 0, .ref prw, .ref lft, .ref lea])), (lft, .inl (cI, 56, .inl (fun _ => 0))), (lea, .inl (cI, 63, .inl (fun _ => 0)))] := hD
                          subst h_28
                          refine lv_istore (lv' := [(5, .int (nI b4)), (4, .int (nI b4)), (3, .int 4), (0, .ref pr), (1, .ref nw), (2, .int (nI t))]) hx hb dX4_solve_28 hl (by decide) rfl (fun ls hl => ?_)
                          refine lv_aload_n hx hb dX4_solve_30 rfl (lv_at hl 3 rfl) ?_
                          refine va_get (D := D) (ci := 4) (v := .ref lea) (C := RX4) (T := TX4) (N := 4) hx hb ht inX4 hown hK hP 1 rfl rfl 3 (Nat.le_of_ble_eq_true rfl) (ht _ kw_327) (fun _ h9 => h9) rfl dX4_solve_31 ?_
                          refine lv_iload_n hx hb dX4_solve_34 rfl (lv_at hl 2 rfl) ?_
                          refine lv_bipush (v := 7) hx hb dX4_solve_35 (by decide) ?_
                          refine lv_imul hx hb dX4_solve_37 ?_
                          refine q_i (z := 28) (by decide) ?_
                          refine lv_iload hx hb dX4_solve_38 (lv_at hl 1 rfl) ?_
                          refine lv_iadd hx hb dX4_solve_40 ?_
                          refine q_i (z := (nI (28 + b4))) (nI_add 28 b4) ?_
                          refine lv_aload_n hx hb dX4_solve_41 rfl (lv_at hl 3 rfl) ?_
                          refine lv_iload_n hx hb dX4_solve_42 rfl (lv_at hl 2 rfl) ?_
                          refine lv_iload hx hb dX4_solve_43 (lv_at hl 0 rfl) ?_
                          refine lv_iload hx hb dX4_solve_45 (lv_at hl 1 rfl) ?_
                          refine q_Vi (wr := [(prw, .inl (cI, 6, .inl (fun _ => 0)))]) [1, 2, 3] [0] hX hE hK hP hD hS hA hl.1 lk_X4_29 (c_leaves l D cI cZ cP sa pr prw lft lea 4 b4 b4 (by decide) (by omega) (by omega) _) rfl rfl rfl rfl (by decide) 0 4 rfl rfl rfl rfl (Nat.le_of_ble_eq_true rfl) rfl rfl ⟨Nat.le_of_ble_eq_true rfl, Nat.le_of_ble_eq_true rfl⟩ ⟨Nat.le_of_ble_eq_true rfl, Nat.le_of_ble_eq_true rfl⟩ dX4_solve_47 (fun x_29 _ H locs h_29 hP hD hS => ?_)
                          have hP : va_P D vwCl [(prw, .inl (cI, 6, .inl (fun _ => 0))), (pr, .inr (4, [.int 0, .ref prw, .ref lft, .ref lea])), (lft, .inl (cI, 56, .inl (fun _ => 0))), (lea, .inl (cI, 63, .inl (fun _ => 0)))] H := hP
                          have hD : va_D (va_A (w_psolve cI cZ cP pr prw lft lea nw keys moms lens prts luds hnds lats knds rch spd unN unH ptn t) sz) [(prw, .inl (cI, 6, .inl (fun _ => 0))), (pr, .inr (4, [.int 0, .ref prw, .ref lft, .ref lea])), (lft, .inl (cI, 56, .inl (fun _ => 0))), (lea, .inl (cI, 63, .inl (fun _ => 0)))] := hD
                          subst h_29
                          refine va_iast hx hb hK hP hD hS 3 0 rfl rfl (vp_in_nI (by omega) (by omega)) dX4_solve_50 (fun H locs hP hD hS => ?_)
                          have hP : va_P D vwCl [(prw, .inl (cI, 6, .inl (fun _ => 0))), (pr, .inr (4, [.int 0, .ref prw, .ref lft, .ref lea])), (lft, .inl (cI, 56, .inl (fun _ => 0))), (lea, .inl (cI, 63, .inl (upd (fun _ => 0) (nI (28 + b4)).toNatClampNeg 0)))] H := hP
                          have hD : va_D (va_A (w_psolve cI cZ cP pr prw lft lea nw keys moms lens prts luds hnds lats knds rch spd unN unH ptn t) sz) [(prw, .inl (cI, 6, .inl (fun _ => 0))), (pr, .inr (4, [.int 0, .ref prw, .ref lft, .ref lea])), (lft, .inl (cI, 56, .inl (fun _ => 0))), (lea, .inl (cI, 63, .inl (upd (fun _ => 0) (nI (28 + b4)).toNatClampNeg 0)))] := hD
                          rw [upd_c] at hP hD
                          have hP : va_P D vwCl [(prw, .inl (cI, 6, .inl (fun _ => 0))), (pr, .inr (4, [.int 0, .ref prw, .ref lft, .ref lea])), (lft, .inl (cI, 56, .inl (fun _ => 0))), (lea, .inl (cI, 63, .inl (fun _ => 0)))] H := hP
                          have hD : va_D (va_A (w_psolve cI cZ cP pr prw lft lea nw keys moms lens prts luds hnds lats knds rch spd unN unH ptn t) sz) [(prw, .inl (cI, 6, .inl (fun _ => 0))), (pr, .inr (4, [.int 0, .ref prw, .ref lft, .ref lea])), (lft, .inl (cI, 56, .inl (fun _ => 0))), (lea, .inl (cI, 63, .inl (fun _ => 0)))] := hD
                          refine lv_iinc (v := (nI (b4 + 1))) (lv' := [(4, .int (nI (b4 + 1))), (5, .int (nI b4)), (3, .int 4), (0, .ref pr), (1, .ref nw), (2, .int (nI t))]) hx hb dX4_solve_51 hl (k := 1) rfl (nI_1 b4) (by decide) rfl (fun ls hl => ?_)
                          refine lv_goto (tgt := 15) hx hb dX4_solve_54 (by decide) ?_
                          exact ih_15 (b4 + 1) (by omega) (by omega) _ _ _ (hP.sub [3, 0, 1, 2] rfl) (hD.sub [3, 0, 1, 2] (by decide) rfl) hS (lv_sub hl [0, 2, 3, 4, 5] rfl)
                    exact lp_15 (t + 2) 0 (by omega) (by omega) _ _ _ hP hD hS (lv_sub hl [0, 1, 2, 3, 4] rfl)
                  · have hc_b5 : b5 ≤ t := nI_lit (N := t) rfl c_7 (by omega) (by omega)
                    refine lv_aload_n hx hb dX4_solve_21 rfl (lv_at hl 2 rfl) ?_
                    refine lv_iload_n hx hb dX4_solve_22 rfl (lv_at hl 1 rfl) ?_
                    refine lv_iload hx hb dX4_solve_23 (lv_at hl 0 rfl) ?_
                    refine q_Vi (wr := [(prw, .inl (cI, 6, .inl (fun _ => 0)))]) [2, 3, 0] [1] hX hE hK hP hD hS hA hl.1 lk_X4_25 (c_hoursHere l D cI cZ cP sa pr prw lft lea 5 b5 (by decide) (by omega) _) rfl rfl rfl rfl (by decide) 0 4 rfl rfl rfl rfl (Nat.le_of_ble_eq_true rfl) rfl rfl ⟨Nat.le_of_ble_eq_true rfl, Nat.le_of_ble_eq_true rfl⟩ ⟨Nat.le_of_ble_eq_true rfl, Nat.le_of_ble_eq_true rfl⟩ dX4_solve_25 (fun x_30 _ H locs h_30 hP hD hS => ?_)
                    have hP : va_P D vwCl [(prw, .inl (cI, 6, .inl (fun _ => 0))), (pr, .inr (4, [.int 0, .ref prw, .ref lft, .ref lea])), (lft, .inl (cI, 56, .inl (fun _ => 0))), (lea, .inl (cI, 63, .inl (fun _ => 0)))] H := hP
                    have hD : va_D (va_A (w_psolve cI cZ cP pr prw lft lea nw keys moms lens prts luds hnds lats knds rch spd unN unH ptn t) sz) [(prw, .inl (cI, 6, .inl (fun _ => 0))), (pr, .inr (4, [.int 0, .ref prw, .ref lft, .ref lea])), (lft, .inl (cI, 56, .inl (fun _ => 0))), (lea, .inl (cI, 63, .inl (fun _ => 0)))] := hD
                    subst h_30
                    refine lv_istore (lv' := [(5, .int (nI b5)), (4, .int (nI b5)), (3, .int 5), (0, .ref pr), (1, .ref nw), (2, .int (nI t))]) hx hb dX4_solve_28 hl (by decide) rfl (fun ls hl => ?_)
                    refine lv_aload_n hx hb dX4_solve_30 rfl (lv_at hl 3 rfl) ?_
                    refine va_get (D := D) (ci := 4) (v := .ref lea) (C := RX4) (T := TX4) (N := 4) hx hb ht inX4 hown hK hP 1 rfl rfl 3 (Nat.le_of_ble_eq_true rfl) (ht _ kw_327) (fun _ h9 => h9) rfl dX4_solve_31 ?_
                    refine lv_iload_n hx hb dX4_solve_34 rfl (lv_at hl 2 rfl) ?_
                    refine lv_bipush (v := 7) hx hb dX4_solve_35 (by decide) ?_
                    refine lv_imul hx hb dX4_solve_37 ?_
                    refine q_i (z := 35) (by decide) ?_
                    refine lv_iload hx hb dX4_solve_38 (lv_at hl 1 rfl) ?_
                    refine lv_iadd hx hb dX4_solve_40 ?_
                    refine q_i (z := (nI (35 + b5))) (nI_add 35 b5) ?_
                    refine lv_aload_n hx hb dX4_solve_41 rfl (lv_at hl 3 rfl) ?_
                    refine lv_iload_n hx hb dX4_solve_42 rfl (lv_at hl 2 rfl) ?_
                    refine lv_iload hx hb dX4_solve_43 (lv_at hl 0 rfl) ?_
                    refine lv_iload hx hb dX4_solve_45 (lv_at hl 1 rfl) ?_
                    refine q_Vi (wr := [(prw, .inl (cI, 6, .inl (fun _ => 0)))]) [1, 2, 3] [0] hX hE hK hP hD hS hA hl.1 lk_X4_29 (c_leaves l D cI cZ cP sa pr prw lft lea 5 b5 b5 (by decide) (by omega) (by omega) _) rfl rfl rfl rfl (by decide) 0 4 rfl rfl rfl rfl (Nat.le_of_ble_eq_true rfl) rfl rfl ⟨Nat.le_of_ble_eq_true rfl, Nat.le_of_ble_eq_true rfl⟩ ⟨Nat.le_of_ble_eq_true rfl, Nat.le_of_ble_eq_true rfl⟩ dX4_solve_47 (fun x_31 _ H locs h_31 hP hD hS => ?_)
                    have hP : va_P D vwCl [(prw, .inl (cI, 6, .inl (fun _ => 0))), (pr, .inr (4, [.int 0, .ref prw, .ref lft, .ref lea])), (lft, .inl (cI, 56, .inl (fun _ => 0))), (lea, .inl (cI, 63, .inl (fun _ => 0)))] H := hP
                    have hD : va_D (va_A (w_psolve cI cZ cP pr prw lft lea nw keys moms lens prts luds hnds lats knds rch spd unN unH ptn t) sz) [(prw, .inl (cI, 6, .inl (fun _ => 0))), (pr, .inr (4, [.int 0, .ref prw, .ref lft, .ref lea])), (lft, .inl (cI, 56, .inl (fun _ => 0))), (lea, .inl (cI, 63, .inl (fun _ => 0)))] := hD
                    subst h_31
                    refine va_iast hx hb hK hP hD hS 3 0 rfl rfl (vp_in_nI (by omega) (by omega)) dX4_solve_50 (fun H locs hP hD hS => ?_)
                    have hP : va_P D vwCl [(prw, .inl (cI, 6, .inl (fun _ => 0))), (pr, .inr (4, [.int 0, .ref prw, .ref lft, .ref lea])), (lft, .inl (cI, 56, .inl (fun _ => 0))), (lea, .inl (cI, 63, .inl (upd (fun _ => 0) (nI (35 + b5)).toNatClampNeg 0)))] H := hP
                    have hD : va_D (va_A (w_psolve cI cZ cP pr prw lft lea nw keys moms lens prts luds hnds lats knds rch spd unN unH ptn t) sz) [(prw, .inl (cI, 6, .inl (fun _ => 0))), (pr, .inr (4, [.int 0, .ref prw, .ref lft, .ref lea])), (lft, .inl (cI, 56, .inl (fun _ => 0))), (lea, .inl (cI, 63, .inl (upd (fun _ => 0) (nI (35 + b5)).toNatClampNeg 0)))] := hD
                    rw [upd_c] at hP hD
                    have hP : va_P D vwCl [(prw, .inl (cI, 6, .inl (fun _ => 0))), (pr, .inr (4, [.int 0, .ref prw, .ref lft, .ref lea])), (lft, .inl (cI, 56, .inl (fun _ => 0))), (lea, .inl (cI, 63, .inl (fun _ => 0)))] H := hP
                    have hD : va_D (va_A (w_psolve cI cZ cP pr prw lft lea nw keys moms lens prts luds hnds lats knds rch spd unN unH ptn t) sz) [(prw, .inl (cI, 6, .inl (fun _ => 0))), (pr, .inr (4, [.int 0, .ref prw, .ref lft, .ref lea])), (lft, .inl (cI, 56, .inl (fun _ => 0))), (lea, .inl (cI, 63, .inl (fun _ => 0)))] := hD
                    refine lv_iinc (v := (nI (b5 + 1))) (lv' := [(4, .int (nI (b5 + 1))), (5, .int (nI b5)), (3, .int 5), (0, .ref pr), (1, .ref nw), (2, .int (nI t))]) hx hb dX4_solve_51 hl (k := 1) rfl (nI_1 b5) (by decide) rfl (fun ls hl => ?_)
                    refine lv_goto (tgt := 15) hx hb dX4_solve_54 (by decide) ?_
                    exact ih_15 (b5 + 1) (by omega) (by omega) _ _ _ (hP.sub [3, 0, 1, 2] rfl) (hD.sub [3, 0, 1, 2] (by decide) rfl) hS (lv_sub hl [0, 2, 3, 4, 5] rfl)
              exact lp_15 (t + 2) 0 (by omega) (by omega) _ _ _ hP hD hS (lv_sub hl [0, 1, 2, 3, 4] rfl)
            · have hc_b6 : b6 ≤ t := nI_lit (N := t) rfl c_5 (by omega) (by omega)
              refine lv_aload_n hx hb dX4_solve_21 rfl (lv_at hl 2 rfl) ?_
              refine lv_iload_n hx hb dX4_solve_22 rfl (lv_at hl 1 rfl) ?_
              refine lv_iload hx hb dX4_solve_23 (lv_at hl 0 rfl) ?_
              refine q_Vi (wr := [(prw, .inl (cI, 6, .inl (fun _ => 0)))]) [2, 3, 0] [1] hX hE hK hP hD hS hA hl.1 lk_X4_25 (c_hoursHere l D cI cZ cP sa pr prw lft lea 6 b6 (by decide) (by omega) _) rfl rfl rfl rfl (by decide) 0 4 rfl rfl rfl rfl (Nat.le_of_ble_eq_true rfl) rfl rfl ⟨Nat.le_of_ble_eq_true rfl, Nat.le_of_ble_eq_true rfl⟩ ⟨Nat.le_of_ble_eq_true rfl, Nat.le_of_ble_eq_true rfl⟩ dX4_solve_25 (fun x_32 _ H locs h_32 hP hD hS => ?_)
              have hP : va_P D vwCl [(prw, .inl (cI, 6, .inl (fun _ => 0))), (pr, .inr (4, [.int 0, .ref prw, .ref lft, .ref lea])), (lft, .inl (cI, 56, .inl (fun _ => 0))), (lea, .inl (cI, 63, .inl (fun _ => 0)))] H := hP
              have hD : va_D (va_A (w_psolve cI cZ cP pr prw lft lea nw keys moms lens prts luds hnds lats knds rch spd unN unH ptn t) sz) [(prw, .inl (cI, 6, .inl (fun _ => 0))), (pr, .inr (4, [.int 0, .ref prw, .ref lft, .ref lea])), (lft, .inl (cI, 56, .inl (fun _ => 0))), (lea, .inl (cI, 63, .inl (fun _ => 0)))] := hD
              subst h_32
              refine lv_istore (lv' := [(5, .int (nI b6)), (4, .int (nI b6)), (3, .int 6), (0, .ref pr), (1, .ref nw), (2, .int (nI t))]) hx hb dX4_solve_28 hl (by decide) rfl (fun ls hl => ?_)
              refine lv_aload_n hx hb dX4_solve_30 rfl (lv_at hl 3 rfl) ?_
              refine va_get (D := D) (ci := 4) (v := .ref lea) (C := RX4) (T := TX4) (N := 4) hx hb ht inX4 hown hK hP 1 rfl rfl 3 (Nat.le_of_ble_eq_true rfl) (ht _ kw_327) (fun _ h9 => h9) rfl dX4_solve_31 ?_
              refine lv_iload_n hx hb dX4_solve_34 rfl (lv_at hl 2 rfl) ?_
              refine lv_bipush (v := 7) hx hb dX4_solve_35 (by decide) ?_
              refine lv_imul hx hb dX4_solve_37 ?_
              refine q_i (z := 42) (by decide) ?_
              refine lv_iload hx hb dX4_solve_38 (lv_at hl 1 rfl) ?_
              refine lv_iadd hx hb dX4_solve_40 ?_
              refine q_i (z := (nI (42 + b6))) (nI_add 42 b6) ?_
              refine lv_aload_n hx hb dX4_solve_41 rfl (lv_at hl 3 rfl) ?_
              refine lv_iload_n hx hb dX4_solve_42 rfl (lv_at hl 2 rfl) ?_
              refine lv_iload hx hb dX4_solve_43 (lv_at hl 0 rfl) ?_
              refine lv_iload hx hb dX4_solve_45 (lv_at hl 1 rfl) ?_
              refine q_Vi (wr := [(prw, .inl (cI, 6, .inl (fun _ => 0)))]) [1, 2, 3] [0] hX hE hK hP hD hS hA hl.1 lk_X4_29 (c_leaves l D cI cZ cP sa pr prw lft lea 6 b6 b6 (by decide) (by omega) (by omega) _) rfl rfl rfl rfl (by decide) 0 4 rfl rfl rfl rfl (Nat.le_of_ble_eq_true rfl) rfl rfl ⟨Nat.le_of_ble_eq_true rfl, Nat.le_of_ble_eq_true rfl⟩ ⟨Nat.le_of_ble_eq_true rfl, Nat.le_of_ble_eq_true rfl⟩ dX4_solve_47 (fun x_33 _ H locs h_33 hP hD hS => ?_)
              have hP : va_P D vwCl [(prw, .inl (cI, 6, .inl (fun _ => 0))), (pr, .inr (4, [.int 0, .ref prw, .ref lft, .ref lea])), (lft, .inl (cI, 56, .inl (fun _ => 0))), (lea, .inl (cI, 63, .inl (fun _ => 0)))] H := hP
              have hD : va_D (va_A (w_psolve cI cZ cP pr prw lft lea nw keys moms lens prts luds hnds lats knds rch spd unN unH ptn t) sz) [(prw, .inl (cI, 6, .inl (fun _ => 0))), (pr, .inr (4, [.int 0, .ref prw, .ref lft, .ref lea])), (lft, .inl (cI, 56, .inl (fun _ => 0))), (lea, .inl (cI, 63, .inl (fun _ => 0)))] := hD
              subst h_33
              refine va_iast hx hb hK hP hD hS 3 0 rfl rfl (vp_in_nI (by omega) (by omega)) dX4_solve_50 (fun H locs hP hD hS => ?_)
              have hP : va_P D vwCl [(prw, .inl (cI, 6, .inl (fun _ => 0))), (pr, .inr (4, [.int 0, .ref prw, .ref lft, .ref lea])), (lft, .inl (cI, 56, .inl (fun _ => 0))), (lea, .inl (cI, 63, .inl (upd (fun _ => 0) (nI (42 + b6)).toNatClampNeg 0)))] H := hP
              have hD : va_D (va_A (w_psolve cI cZ cP pr prw lft lea nw keys moms lens prts luds hnds lats knds rch spd unN unH ptn t) sz) [(prw, .inl (cI, 6, .inl (fun _ => 0))), (pr, .inr (4, [.int 0, .ref prw, .ref lft, .ref lea])), (lft, .inl (cI, 56, .inl (fun _ => 0))), (lea, .inl (cI, 63, .inl (upd (fun _ => 0) (nI (42 + b6)).toNatClampNeg 0)))] := hD
              rw [upd_c] at hP hD
              have hP : va_P D vwCl [(prw, .inl (cI, 6, .inl (fun _ => 0))), (pr, .inr (4, [.int 0, .ref prw, .ref lft, .ref lea])), (lft, .inl (cI, 56, .inl (fun _ => 0))), (lea, .inl (cI, 63, .inl (fun _ => 0)))] H := hP
              have hD : va_D (va_A (w_psolve cI cZ cP pr prw lft lea nw keys moms lens prts luds hnds lats knds rch spd unN unH ptn t) sz) [(prw, .inl (cI, 6, .inl (fun _ => 0))), (pr, .inr (4, [.int 0, .ref prw, .ref lft, .ref lea])), (lft, .inl (cI, 56, .inl (fun _ => 0))), (lea, .inl (cI, 63, .inl (fun _ => 0)))] := hD
              refine lv_iinc (v := (nI (b6 + 1))) (lv' := [(4, .int (nI (b6 + 1))), (5, .int (nI b6)), (3, .int 6), (0, .ref pr), (1, .ref nw), (2, .int (nI t))]) hx hb dX4_solve_51 hl (k := 1) rfl (nI_1 b6) (by decide) rfl (fun ls hl => ?_)
              refine lv_goto (tgt := 15) hx hb dX4_solve_54 (by decide) ?_
              exact ih_15 (b6 + 1) (by omega) (by omega) _ _ _ (hP.sub [3, 0, 1, 2] rfl) (hD.sub [3, 0, 1, 2] (by decide) rfl) hS (lv_sub hl [0, 2, 3, 4, 5] rfl)
        exact lp_15 (t + 2) 0 (by omega) (by omega) _ _ _ hP hD hS (lv_sub hl [0, 1, 2, 3, 4] rfl)
      · have hc_b7 : b7 ≤ t := nI_lit (N := t) rfl c_3 (by omega) (by omega)
        refine lv_aload_n hx hb dX4_solve_21 rfl (lv_at hl 2 rfl) ?_
        refine lv_iload_n hx hb dX4_solve_22 rfl (lv_at hl 1 rfl) ?_
        refine lv_iload hx hb dX4_solve_23 (lv_at hl 0 rfl) ?_
        refine q_Vi (wr := [(prw, .inl (cI, 6, .inl (fun _ => 0)))]) [2, 3, 0] [1] hX hE hK hP hD hS hA hl.1 lk_X4_25 (c_hoursHere l D cI cZ cP sa pr prw lft lea 7 b7 (by decide) (by omega) _) rfl rfl rfl rfl (by decide) 0 4 rfl rfl rfl rfl (Nat.le_of_ble_eq_true rfl) rfl rfl ⟨Nat.le_of_ble_eq_true rfl, Nat.le_of_ble_eq_true rfl⟩ ⟨Nat.le_of_ble_eq_true rfl, Nat.le_of_ble_eq_true rfl⟩ dX4_solve_25 (fun x_34 _ H locs h_34 hP hD hS => ?_)
        have hP : va_P D vwCl [(prw, .inl (cI, 6, .inl (fun _ => 0))), (pr, .inr (4, [.int 0, .ref prw, .ref lft, .ref lea])), (lft, .inl (cI, 56, .inl (fun _ => 0))), (lea, .inl (cI, 63, .inl (fun _ => 0)))] H := hP
        have hD : va_D (va_A (w_psolve cI cZ cP pr prw lft lea nw keys moms lens prts luds hnds lats knds rch spd unN unH ptn t) sz) [(prw, .inl (cI, 6, .inl (fun _ => 0))), (pr, .inr (4, [.int 0, .ref prw, .ref lft, .ref lea])), (lft, .inl (cI, 56, .inl (fun _ => 0))), (lea, .inl (cI, 63, .inl (fun _ => 0)))] := hD
        subst h_34
        refine lv_istore (lv' := [(5, .int (nI b7)), (4, .int (nI b7)), (3, .int 7), (0, .ref pr), (1, .ref nw), (2, .int (nI t))]) hx hb dX4_solve_28 hl (by decide) rfl (fun ls hl => ?_)
        refine lv_aload_n hx hb dX4_solve_30 rfl (lv_at hl 3 rfl) ?_
        refine va_get (D := D) (ci := 4) (v := .ref lea) (C := RX4) (T := TX4) (N := 4) hx hb ht inX4 hown hK hP 1 rfl rfl 3 (Nat.le_of_ble_eq_true rfl) (ht _ kw_327) (fun _ h9 => h9) rfl dX4_solve_31 ?_
        refine lv_iload_n hx hb dX4_solve_34 rfl (lv_at hl 2 rfl) ?_
        refine lv_bipush (v := 7) hx hb dX4_solve_35 (by decide) ?_
        refine lv_imul hx hb dX4_solve_37 ?_
        refine q_i (z := 49) (by decide) ?_
        refine lv_iload hx hb dX4_solve_38 (lv_at hl 1 rfl) ?_
        refine lv_iadd hx hb dX4_solve_40 ?_
        refine q_i (z := (nI (49 + b7))) (nI_add 49 b7) ?_
        refine lv_aload_n hx hb dX4_solve_41 rfl (lv_at hl 3 rfl) ?_
        refine lv_iload_n hx hb dX4_solve_42 rfl (lv_at hl 2 rfl) ?_
        refine lv_iload hx hb dX4_solve_43 (lv_at hl 0 rfl) ?_
        refine lv_iload hx hb dX4_solve_45 (lv_at hl 1 rfl) ?_
        refine q_Vi (wr := [(prw, .inl (cI, 6, .inl (fun _ => 0)))]) [1, 2, 3] [0] hX hE hK hP hD hS hA hl.1 lk_X4_29 (c_leaves l D cI cZ cP sa pr prw lft lea 7 b7 b7 (by decide) (by omega) (by omega) _) rfl rfl rfl rfl (by decide) 0 4 rfl rfl rfl rfl (Nat.le_of_ble_eq_true rfl) rfl rfl ⟨Nat.le_of_ble_eq_true rfl, Nat.le_of_ble_eq_true rfl⟩ ⟨Nat.le_of_ble_eq_true rfl, Nat.le_of_ble_eq_true rfl⟩ dX4_solve_47 (fun x_35 _ H locs h_35 hP hD hS => ?_)
        have hP : va_P D vwCl [(prw, .inl (cI, 6, .inl (fun _ => 0))), (pr, .inr (4, [.int 0, .ref prw, .ref lft, .ref lea])), (lft, .inl (cI, 56, .inl (fun _ => 0))), (lea, .inl (cI, 63, .inl (fun _ => 0)))] H := hP
        have hD : va_D (va_A (w_psolve cI cZ cP pr prw lft lea nw keys moms lens prts luds hnds lats knds rch spd unN unH ptn t) sz) [(prw, .inl (cI, 6, .inl (fun _ => 0))), (pr, .inr (4, [.int 0, .ref prw, .ref lft, .ref lea])), (lft, .inl (cI, 56, .inl (fun _ => 0))), (lea, .inl (cI, 63, .inl (fun _ => 0)))] := hD
        subst h_35
        refine va_iast hx hb hK hP hD hS 3 0 rfl rfl (vp_in_nI (by omega) (by omega)) dX4_solve_50 (fun H locs hP hD hS => ?_)
        have hP : va_P D vwCl [(prw, .inl (cI, 6, .inl (fun _ => 0))), (pr, .inr (4, [.int 0, .ref prw, .ref lft, .ref lea])), (lft, .inl (cI, 56, .inl (fun _ => 0))), (lea, .inl (cI, 63, .inl (upd (fun _ => 0) (nI (49 + b7)).toNatClampNeg 0)))] H := hP
        have hD : va_D (va_A (w_psolve cI cZ cP pr prw lft lea nw keys moms lens prts luds hnds lats knds rch spd unN unH ptn t) sz) [(prw, .inl (cI, 6, .inl (fun _ => 0))), (pr, .inr (4, [.int 0, .ref prw, .ref lft, .ref lea])), (lft, .inl (cI, 56, .inl (fun _ => 0))), (lea, .inl (cI, 63, .inl (upd (fun _ => 0) (nI (49 + b7)).toNatClampNeg 0)))] := hD
        rw [upd_c] at hP hD
        have hP : va_P D vwCl [(prw, .inl (cI, 6, .inl (fun _ => 0))), (pr, .inr (4, [.int 0, .ref prw, .ref lft, .ref lea])), (lft, .inl (cI, 56, .inl (fun _ => 0))), (lea, .inl (cI, 63, .inl (fun _ => 0)))] H := hP
        have hD : va_D (va_A (w_psolve cI cZ cP pr prw lft lea nw keys moms lens prts luds hnds lats knds rch spd unN unH ptn t) sz) [(prw, .inl (cI, 6, .inl (fun _ => 0))), (pr, .inr (4, [.int 0, .ref prw, .ref lft, .ref lea])), (lft, .inl (cI, 56, .inl (fun _ => 0))), (lea, .inl (cI, 63, .inl (fun _ => 0)))] := hD
        refine lv_iinc (v := (nI (b7 + 1))) (lv' := [(4, .int (nI (b7 + 1))), (5, .int (nI b7)), (3, .int 7), (0, .ref pr), (1, .ref nw), (2, .int (nI t))]) hx hb dX4_solve_51 hl (k := 1) rfl (nI_1 b7) (by decide) rfl (fun ls hl => ?_)
        refine lv_goto (tgt := 15) hx hb dX4_solve_54 (by decide) ?_
        exact ih_15 (b7 + 1) (by omega) (by omega) _ _ _ (hP.sub [3, 0, 1, 2] rfl) (hD.sub [3, 0, 1, 2] (by decide) rfl) hS (lv_sub hl [0, 2, 3, 4, 5] rfl)
  exact lp_15 (t + 2) 0 (by omega) (by omega) _ _ _ hP hD hS (lv_sub hl [0, 1, 2, 3, 4] rfl)
abbrev w_practice (cI cZ cP : ClassId) (x0 : Nat) (nw : Nat) (sp : Nat) (im : Nat) (sc : Nat) (hg : Nat) (fg : Nat) (pg : Nat) (pr : Nat) (keys : Nat) (moms : Nat) (lens : Nat) (prts : Nat) (luds : Nat) (hnds : Nat) (lats : Nat) (knds : Nat) (rch : Nat) (spd : Nat) (unN : Nat) (unH : Nat) (ptn : Nat) (prw : Nat) (lft : Nat) (lea : Nat) (p0 : Int32) (p1 : Int32) : va_W := [(x0, .inr (6, [.ref nw, .ref sp, .ref im, .ref sc, .ref hg, .ref fg, .ref pg, .ref pr, .int 0, .long 0, .long 1, .int 0, .int 0, .int 0])), (nw, .inr (3, [.int 2, .int 0, .ref keys, .ref moms, .ref lens, .ref prts, .ref luds, .ref hnds, .ref lats, .ref knds, .ref rch, .ref spd, .int 0, .int 0, .int 0, .ref unN, .ref unH, .ref ptn])), (pr, .inr (4, [.int 0, .ref prw, .ref lft, .ref lea])), (lft, .inl (cI, 56, .inl (fun _ => 0))), (lea, .inl (cI, 63, .inl (fun _ => 0))), (prw, .inl (cI, 6, .inl (fun _ => 0)))]
set_option maxHeartbeats 4000000 in
set_option maxRecDepth 100000 in
theorem c_practice (l : Launch) (D : va_G) (cI cZ cP : ClassId) (sa : Nat → Nat) (x0 : Nat) (nw : Nat) (sp : Nat) (im : Nat) (sc : Nat) (hg : Nat) (fg : Nat) (pg : Nat) (pr : Nat) (keys : Nat) (moms : Nat) (lens : Nat) (prts : Nat) (luds : Nat) (hnds : Nat) (lats : Nat) (knds : Nat) (rch : Nat) (spd : Nat) (unN : Nat) (unH : Nat) (ptn : Nat) (prw : Nat) (lft : Nat) (lea : Nat) (p0 : Int32) (p1 : Int32) (sz : Nat) : Met l yX6_practice (qW yX6_practice cX6_practice 3 (some .int)) ({ frames := 4, cells := 0, slots := 0, locals := 97 } : Room) (qP D (TY cI cZ cP) sa [.ref x0, .int p0, .int p1] (w_practice cI cZ cP x0 nw sp im sc hg fg pg pr keys moms lens prts luds hnds lats knds rch spd unN unH ptn prw lft lea p0 p1) sz) (qQi D (w_practice cI cZ cP x0 nw sp im sc hg fg pg pr keys moms lens prts luds hnds lats knds rch spd unN unH ptn prw lft lea p0 p1) sz (fun (r : Int32) (_ : Unit) => r = sp_practice p0 p1) (fun _ => [])) 0 0 (va_A (w_practice cI cZ cP x0 nw sp im sc hg fg pg pr keys moms lens prts luds hnds lats knds rch spd unN unH ptn prw lft lea p0 p1) sz) := by
  refine q_enter (by decide) (Nat.le_of_ble_eq_true rfl) ?_
  intro p e s m below meth c ls hX hr hlk hnm hE hK hP hD hS hA hl
  obtain ⟨hx, hb, hml, hown, ht⟩ := id hX
  have hl : lv_has ls 3 [(0, .ref x0), (1, .int p0), (2, .int p1)] := hl
  refine lv_iload_n hx hb dX6_practice_0 rfl (lv_at hl 1 rfl) ?_
  refine lv_iconst (v := 0) hx hb dX6_practice_1 (by decide) ?_
  refine lv_bipush (v := 6) hx hb dX6_practice_2 (by decide) ?_
  refine q_Si (wr := [(x0, .inr (6, [.ref nw, .ref sp, .ref im, .ref sc, .ref hg, .ref fg, .ref pg, .ref pr, .int 0, .long 0, .long 1, .int 0, .int 0, .int 0])), (nw, .inr (3, [.int 2, .int 0, .ref keys, .ref moms, .ref lens, .ref prts, .ref luds, .ref hnds, .ref lats, .ref knds, .ref rch, .ref spd, .int 0, .int 0, .int 0, .ref unN, .ref unH, .ref ptn])), (pr, .inr (4, [.int 0, .ref prw, .ref lft, .ref lea])), (lft, .inl (cI, 56, .inl (fun _ => 0))), (lea, .inl (cI, 63, .inl (fun _ => 0))), (prw, .inl (cI, 6, .inl (fun _ => 0)))]) [] [0, 1, 2, 3, 4, 5] hX hE hK hP hD hS hA hl.1 lk_X6_62 (c_within l D cI cZ cP sa p0 0 6 _) rfl rfl rfl rfl (by decide) rfl rfl (Nat.le_of_ble_eq_true rfl) rfl rfl ⟨Nat.le_of_ble_eq_true rfl, Nat.le_of_ble_eq_true rfl⟩ ⟨Nat.le_of_ble_eq_true rfl, Nat.le_of_ble_eq_true rfl⟩ dX6_practice_4 (fun x_1 _ H locs h_1 hP hD hS => ?_)
  have hP : va_P D vwCl [(x0, .inr (6, [.ref nw, .ref sp, .ref im, .ref sc, .ref hg, .ref fg, .ref pg, .ref pr, .int 0, .long 0, .long 1, .int 0, .int 0, .int 0])), (nw, .inr (3, [.int 2, .int 0, .ref keys, .ref moms, .ref lens, .ref prts, .ref luds, .ref hnds, .ref lats, .ref knds, .ref rch, .ref spd, .int 0, .int 0, .int 0, .ref unN, .ref unH, .ref ptn])), (pr, .inr (4, [.int 0, .ref prw, .ref lft, .ref lea])), (lft, .inl (cI, 56, .inl (fun _ => 0))), (lea, .inl (cI, 63, .inl (fun _ => 0))), (prw, .inl (cI, 6, .inl (fun _ => 0)))] H := hP
  have hD : va_D (va_A (w_practice cI cZ cP x0 nw sp im sc hg fg pg pr keys moms lens prts luds hnds lats knds rch spd unN unH ptn prw lft lea p0 p1) sz) [(x0, .inr (6, [.ref nw, .ref sp, .ref im, .ref sc, .ref hg, .ref fg, .ref pg, .ref pr, .int 0, .long 0, .long 1, .int 0, .int 0, .int 0])), (nw, .inr (3, [.int 2, .int 0, .ref keys, .ref moms, .ref lens, .ref prts, .ref luds, .ref hnds, .ref lats, .ref knds, .ref rch, .ref spd, .int 0, .int 0, .int 0, .ref unN, .ref unH, .ref ptn])), (pr, .inr (4, [.int 0, .ref prw, .ref lft, .ref lea])), (lft, .inl (cI, 56, .inl (fun _ => 0))), (lea, .inl (cI, 63, .inl (fun _ => 0))), (prw, .inl (cI, 6, .inl (fun _ => 0)))] := hD
  rcases Classical.em (0 ≤ p0 ∧ p0 ≤ 6) with c_1 | c_1
  · rw [if_pos c_1] at h_1; subst h_1
    refine lv_if_eq (tgt := 15) hx hb dX6_practice_7 (by decide) (fun c_2 => absurd c_2 (by decide)) (fun _ => ?_)
    refine lv_iload_n hx hb dX6_practice_10 rfl (lv_at hl 2 rfl) ?_
    refine lv_iconst (v := (-1)) hx hb dX6_practice_11 (by decide) ?_
    refine lv_icmp_ge (tgt := 22) hx hb dX6_practice_12 (by decide) (fun c_3 => ?_) (fun c_3 => ?_)
    · obtain ⟨t, hti, c_t⟩ := nI_63 (n := 6) c_1 (by decide)
      refine lv_aload_n hx hb dX6_practice_22 rfl (lv_at hl 0 rfl) ?_
      refine va_get (D := D) (ci := 6) (v := .ref pr) (C := RX6) (T := TX6) (N := 14) hx hb ht inX6 hown hK hP 0 rfl rfl 7 (Nat.le_of_ble_eq_true rfl) (ht _ kw_344) (fun _ h9 => h9) rfl dX6_practice_23 ?_
      refine lv_aload_n hx hb dX6_practice_26 rfl (lv_at hl 0 rfl) ?_
      refine va_get (D := D) (ci := 6) (v := .ref nw) (C := RX6) (T := TX6) (N := 14) hx hb ht inX6 hown hK hP 0 rfl rfl 0 (Nat.le_of_ble_eq_true rfl) (ht _ kw_337) (fun _ h9 => h9) rfl dX6_practice_27 ?_
      refine lv_iload_n hx hb dX6_practice_30 rfl (lv_at hl 1 rfl) ?_
      refine q_i (z := (nI t)) c_t ?_
      refine q_Vv (wr := [(x0, .inr (6, [.ref nw, .ref sp, .ref im, .ref sc, .ref hg, .ref fg, .ref pg, .ref pr, .int 0, .long 0, .long 1, .int 0, .int 0, .int 0]))]) [2, 3, 4, 5, 1] [0] hX hE hK hP hD hS hA hl.1 lk_X6_233 (c_psolve l D cI cZ cP sa pr prw lft lea nw keys moms lens prts luds hnds lats knds rch spd unN unH ptn t (by omega) _) rfl rfl rfl rfl (by decide) 0 4 rfl rfl rfl rfl (Nat.le_of_ble_eq_true rfl) rfl rfl ⟨Nat.le_of_ble_eq_true rfl, Nat.le_of_ble_eq_true rfl⟩ ⟨Nat.le_of_ble_eq_true rfl, Nat.le_of_ble_eq_true rfl⟩ dX6_practice_31 (fun _ H locs h_4 hP hD hS => ?_)
      have hP : va_P D vwCl [(x0, .inr (6, [.ref nw, .ref sp, .ref im, .ref sc, .ref hg, .ref fg, .ref pg, .ref pr, .int 0, .long 0, .long 1, .int 0, .int 0, .int 0])), (pr, .inr (4, [.int 0, .ref prw, .ref lft, .ref lea])), (prw, .inl (cI, 6, .inl (fun _ => 0)))] H := hP
      have hD : va_D (va_A (w_practice cI cZ cP x0 nw sp im sc hg fg pg pr keys moms lens prts luds hnds lats knds rch spd unN unH ptn prw lft lea p0 p1) sz) [(x0, .inr (6, [.ref nw, .ref sp, .ref im, .ref sc, .ref hg, .ref fg, .ref pg, .ref pr, .int 0, .long 0, .long 1, .int 0, .int 0, .int 0])), (pr, .inr (4, [.int 0, .ref prw, .ref lft, .ref lea])), (prw, .inl (cI, 6, .inl (fun _ => 0)))] := hD
      refine lv_iload_n hx hb dX6_practice_34 rfl (lv_at hl 2 rfl) ?_
      refine lv_iconst (v := (-1)) hx hb dX6_practice_35 (by decide) ?_
      refine lv_icmp_ne (tgt := 47) hx hb dX6_practice_36 (by decide) (fun c_5 => ?_) (fun c_5 => ?_)
      · refine lv_iload_n hx hb dX6_practice_47 rfl (lv_at hl 2 rfl) ?_
        refine lv_iload_n hx hb dX6_practice_48 rfl (lv_at hl 1 rfl) ?_
        refine q_i (z := (nI t)) c_t ?_
        refine lv_icmp_ge (tgt := 64) hx hb dX6_practice_49 (by decide) (fun c_6 => ?_) (fun c_6 => ?_)
        · refine lv_bipush (v := (-5)) hx hb dX6_practice_64 (by decide) ?_
          exact q_iret hX hr hlk () (by rw [← c_t] at c_6; simp [sp_practice, nlt1, yes1, Int32.not_le, Int32.not_lt, c_1, c_3, c_5, c_6]) (hP.sub [] rfl) (hD.sub [] (by decide) rfl) hS dX6_practice_66
        · refine lv_aload_n hx hb dX6_practice_52 rfl (lv_at hl 0 rfl) ?_
          refine va_get (D := D) (ci := 6) (v := .ref pr) (C := RX6) (T := TX6) (N := 14) hx hb ht inX6 hown hK hP 0 rfl rfl 7 (Nat.le_of_ble_eq_true rfl) (ht _ kw_344) (fun _ h9 => h9) rfl dX6_practice_53 ?_
          refine va_get (D := D) (ci := 4) (v := .ref prw) (C := RX4) (T := TX4) (N := 4) hx hb ht inX4 hown hK hP 1 rfl rfl 1 (Nat.le_of_ble_eq_true rfl) (ht _ kw_325) (fun _ h9 => h9) rfl dX6_practice_56 ?_
          refine lv_iload_n hx hb dX6_practice_59 rfl (lv_at hl 2 rfl) ?_
          refine va_iald hx hb hK hP 2 0 rfl rfl (row_in c_1 c_3 c_5 (by rw [c_t]; exact Int32.not_le.mp c_6)) dX6_practice_60 ?_
          refine q_i (z := 0) rfl ?_
          refine lv_goto (tgt := 66) hx hb dX6_practice_61 (by decide) ?_
          exact q_iret hX hr hlk () (by rw [← c_t] at c_6; simp [sp_practice, nlt1, yes1, Int32.not_le, Int32.not_lt, c_1, c_3, c_5, c_6]) (hP.sub [] rfl) (hD.sub [] (by decide) rfl) hS dX6_practice_66
      · refine lv_aload_n hx hb dX6_practice_39 rfl (lv_at hl 0 rfl) ?_
        refine va_get (D := D) (ci := 6) (v := .ref pr) (C := RX6) (T := TX6) (N := 14) hx hb ht inX6 hown hK hP 0 rfl rfl 7 (Nat.le_of_ble_eq_true rfl) (ht _ kw_344) (fun _ h9 => h9) rfl dX6_practice_40 ?_
        refine va_get (D := D) (ci := 4) (v := .int 0) (C := RX4) (T := TX4) (N := 4) hx hb ht inX4 hown hK hP 1 rfl rfl 0 (Nat.le_of_ble_eq_true rfl) (ht _ kw_323) (fun _ h9 => h9) rfl dX6_practice_43 ?_
        exact q_iret hX hr hlk () (by simp [sp_practice, nlt1, yes1, Int32.not_le, Int32.not_lt, c_1, c_3, c_5]) (hP.sub [] rfl) (hD.sub [] (by decide) rfl) hS dX6_practice_46
    · refine lv_aload_n hx hb dX6_practice_15 rfl (lv_at hl 0 rfl) ?_
      refine lv_bipush (v := (-10)) hx hb dX6_practice_16 (by decide) ?_
      refine q_Vi (wr := [(nw, .inr (3, [.int 2, .int 0, .ref keys, .ref moms, .ref lens, .ref prts, .ref luds, .ref hnds, .ref lats, .ref knds, .ref rch, .ref spd, .int 0, .int 0, .int 0, .ref unN, .ref unH, .ref ptn])), (pr, .inr (4, [.int 0, .ref prw, .ref lft, .ref lea])), (lft, .inl (cI, 56, .inl (fun _ => 0))), (lea, .inl (cI, 63, .inl (fun _ => 0))), (prw, .inl (cI, 6, .inl (fun _ => 0)))]) [0] [1, 2, 3, 4, 5] hX hE hK hP hD hS hA hl.1 lk_X6_66 (c_refuseBad l D cI cZ cP sa x0 nw sp im sc hg fg pg pr 0 0 1 0 0 0 (-10) _) rfl rfl rfl rfl (by decide) 0 6 rfl rfl rfl rfl (Nat.le_of_ble_eq_true rfl) rfl rfl ⟨Nat.le_of_ble_eq_true rfl, Nat.le_of_ble_eq_true rfl⟩ ⟨Nat.le_of_ble_eq_true rfl, Nat.le_of_ble_eq_true rfl⟩ dX6_practice_18 (fun x_7 _ H locs h_7 hP hD hS => ?_)
      have hP : va_P D vwCl [(nw, .inr (3, [.int 2, .int 0, .ref keys, .ref moms, .ref lens, .ref prts, .ref luds, .ref hnds, .ref lats, .ref knds, .ref rch, .ref spd, .int 0, .int 0, .int 0, .ref unN, .ref unH, .ref ptn])), (pr, .inr (4, [.int 0, .ref prw, .ref lft, .ref lea])), (lft, .inl (cI, 56, .inl (fun _ => 0))), (lea, .inl (cI, 63, .inl (fun _ => 0))), (prw, .inl (cI, 6, .inl (fun _ => 0)))] H := hP
      have hD : va_D (va_A (w_practice cI cZ cP x0 nw sp im sc hg fg pg pr keys moms lens prts luds hnds lats knds rch spd unN unH ptn prw lft lea p0 p1) sz) [(nw, .inr (3, [.int 2, .int 0, .ref keys, .ref moms, .ref lens, .ref prts, .ref luds, .ref hnds, .ref lats, .ref knds, .ref rch, .ref spd, .int 0, .int 0, .int 0, .ref unN, .ref unH, .ref ptn])), (pr, .inr (4, [.int 0, .ref prw, .ref lft, .ref lea])), (lft, .inl (cI, 56, .inl (fun _ => 0))), (lea, .inl (cI, 63, .inl (fun _ => 0))), (prw, .inl (cI, 6, .inl (fun _ => 0)))] := hD
      subst h_7
      exact q_iret hX hr hlk () (by simp [sp_practice, c_1, c_3]) (hP.sub [] rfl) (hD.sub [] (by decide) rfl) hS dX6_practice_21
  · rw [if_neg c_1] at h_1; subst h_1
    refine lv_if_eq (tgt := 15) hx hb dX6_practice_7 (by decide) (fun _ => ?_) (fun c_8 => absurd (by decide) c_8)
    refine lv_aload_n hx hb dX6_practice_15 rfl (lv_at hl 0 rfl) ?_
    refine lv_bipush (v := (-10)) hx hb dX6_practice_16 (by decide) ?_
    refine q_Vi (wr := [(nw, .inr (3, [.int 2, .int 0, .ref keys, .ref moms, .ref lens, .ref prts, .ref luds, .ref hnds, .ref lats, .ref knds, .ref rch, .ref spd, .int 0, .int 0, .int 0, .ref unN, .ref unH, .ref ptn])), (pr, .inr (4, [.int 0, .ref prw, .ref lft, .ref lea])), (lft, .inl (cI, 56, .inl (fun _ => 0))), (lea, .inl (cI, 63, .inl (fun _ => 0))), (prw, .inl (cI, 6, .inl (fun _ => 0)))]) [0] [1, 2, 3, 4, 5] hX hE hK hP hD hS hA hl.1 lk_X6_66 (c_refuseBad l D cI cZ cP sa x0 nw sp im sc hg fg pg pr 0 0 1 0 0 0 (-10) _) rfl rfl rfl rfl (by decide) 0 6 rfl rfl rfl rfl (Nat.le_of_ble_eq_true rfl) rfl rfl ⟨Nat.le_of_ble_eq_true rfl, Nat.le_of_ble_eq_true rfl⟩ ⟨Nat.le_of_ble_eq_true rfl, Nat.le_of_ble_eq_true rfl⟩ dX6_practice_18 (fun x_9 _ H locs h_9 hP hD hS => ?_)
    have hP : va_P D vwCl [(nw, .inr (3, [.int 2, .int 0, .ref keys, .ref moms, .ref lens, .ref prts, .ref luds, .ref hnds, .ref lats, .ref knds, .ref rch, .ref spd, .int 0, .int 0, .int 0, .ref unN, .ref unH, .ref ptn])), (pr, .inr (4, [.int 0, .ref prw, .ref lft, .ref lea])), (lft, .inl (cI, 56, .inl (fun _ => 0))), (lea, .inl (cI, 63, .inl (fun _ => 0))), (prw, .inl (cI, 6, .inl (fun _ => 0)))] H := hP
    have hD : va_D (va_A (w_practice cI cZ cP x0 nw sp im sc hg fg pg pr keys moms lens prts luds hnds lats knds rch spd unN unH ptn prw lft lea p0 p1) sz) [(nw, .inr (3, [.int 2, .int 0, .ref keys, .ref moms, .ref lens, .ref prts, .ref luds, .ref hnds, .ref lats, .ref knds, .ref rch, .ref spd, .int 0, .int 0, .int 0, .ref unN, .ref unH, .ref ptn])), (pr, .inr (4, [.int 0, .ref prw, .ref lft, .ref lea])), (lft, .inl (cI, 56, .inl (fun _ => 0))), (lea, .inl (cI, 63, .inl (fun _ => 0))), (prw, .inl (cI, 6, .inl (fun _ => 0)))] := hD
    subst h_9
    exact q_iret hX hr hlk () (by simp [sp_practice, c_1]) (hP.sub [] rfl) (hD.sub [] (by decide) rfl) hS dX6_practice_21
