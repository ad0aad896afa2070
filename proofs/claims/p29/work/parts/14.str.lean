/-! calls on the String constants; returns of narrow types -/
section QT
variable {p : Program} {l : Launch} {e : Env} {R : Room} {s : State} {m : MethodId} {args : Array Value} {below : List Frame} {meth : Method} {c : Code} {H : Heap} {locs : List Loc} {cells slots : Nat} {Q : State → Prop}
variable {cc : ByteArray} {pc nL : Nat} {ls : Array Slot} {own : String} {D : va_G} {tys : List (ClassId × FieldType)} {sa : Nat → Nat} {ws wc wr : va_W} {A : Nat → Prop} {index n k mc ms : Nat} {y : MethodName} {b : ByteArray} {r : Option FieldType} {rm : Room} {As st rest : List Value} {a : Nat} {S : Type} {w2 : S → va_W}
theorem q_Ti {post : Int32 → S → Prop} (isC isR : List Nat) (hX : CallFix p m c cc nL s args tb own) (hE : qE sa s) (hK : va_K D vwCl tys s) (hP : va_P D vwCl ws H) (hD : va_D A ws) (hS : va_S A s.heap H locs) (hA : (∀ q, s.heap.size ≤ q → A q) ∧ ∀ q, A q → sa 3 ≤ q) (hsz : ls.size = nL)
    (hl : LkV own index y b n r k) (hM : Met l y (qW y b n r) rm (qP D tys sa (.ref a :: As) wc H.size) (qQi D wc H.size post w2) mc ms (va_A wc H.size))
    (hC : isC.map (fun i => ws[i]?) = wc.map some) (hR : isR.map (fun i => ws[i]?) = wr.map some) (hnC : va_nd isC = true) (hnR : va_nd isR = true) (hdis : ∀ i ∈ isR, i ∉ isC)
    (hrv : ∃ cell : Cell, H[a]? = some cell ∧ cell.vm.isStatics = false ∧ s.vm.findClass y.cls = some cell.cls) (hk : As.length = k) (hst : st = As.reverse ++ .ref a :: rest) (hw : (rest.map fun v => v.category).sum ≤ 8) (hrc : rm.cells = mc) (hrs : rm.slots = ms) (hRm : rm.frames + 1 ≤ R.frames ∧ 8 + (n + 11) + rm.locals ≤ R.locals) (hf : cells + mc ≤ R.cells ∧ slots + ms ≤ R.slots) (hdg : decode cc pc = .ok (.invokevirtual index, 3))
    (kk : ∀ (x : Int32) (u : S) (H1 : Heap) (locs1 : List Loc), post x u → va_P D vwCl (wr ++ w2 u) H1 → va_D A (wr ++ w2 u) → va_S A s.heap H1 locs1 → W p l e R s m args below meth c H1 locs1 (cells + mc) (slots + ms) Q (F0 m (pc + 3) ls (.int x :: rest))) : W p l e R s m args below meth c H locs cells slots Q (F0 m pc ls st) := by
  subst hst
  have hFc := va_free hD hS hA.1 isC hC
  have hp := q_preV (As := .ref a :: As) hE hK hP hD hS hA isC hC hnC (q_cf isC hC)
  refine va_calli (va_runV (As := As) (rest := rest) hX hM ⟨lk_b hX hl.1 hrc hrs hRm, hX.2.2.2.2 _ hl.2.1, hX.2.2.2.2 _ hl.2.2⟩ ⟨hp.1, hrv, hp.2⟩ rfl hk hsz rfl (lv_room hw) hdg hf) hS (fun q _ h => hFc q h) hFc (fun x u t H1 locs1 ht hvm hpo hB hz1 hk1 hS1 => ?_)
  obtain ⟨hP1, hD1⟩ := hB
  rw [ht] at hP1
  obtain ⟨hP2, hD2⟩ := va_join hP hD isC isR hC hR hnR hdis hk1 hFc hP1 hD1
  exact kk x u H1 locs1 hpo hP2 hD2 hS1
variable {w0 : va_W} {sz : Nat}
theorem q_nret {post : Int32 → S → Prop} {v : Int32} {ty : FieldType} (hX : CallFix p m c cc nL s args tb own) (hr : meth.sig.returnType = some ty) (hlk : meth.locks = false) (hn : narrow ty (.int v) = .int v) (u : S) (hp : post v u) (hP : va_P D vwCl (w2 u) H) (hD : va_D (va_A w0 sz) (w2 u)) (hS : va_S (va_A w0 sz) s.heap H locs) (hdg : decode cc pc = .ok (.ireturn, 1)) : W p l e R s m args below meth c H locs cells slots (MQ below (qQi D w0 sz post w2) args s cells slots (va_A w0 sz)) (F0 m pc ls [.int v]) :=
  W.zret hX.1 hX.2.1 hr hn (fun t ht hW => ⟨⟨v, u, rfl, hp, by rw [ht]; exact hP, hD⟩, hS.F ht⟩) hS.2.2 hdg hlk
end QT
