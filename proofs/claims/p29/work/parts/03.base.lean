/-! words: one list for all methods -/
def tb : List Cond := lw_tbl.filter goodWord
def qW (y : MethodName) (b : ByteArray) (n : Nat) (r : Option FieldType) : List Cond := Cond.code y b n r :: tb
theorem good_w {y : MethodName} {b : ByteArray} {n : Nat} {r : Option FieldType} (h : Cond.code y b n r ∈ tb) : GoodIn tb (qW y b n r) := by
  intro w hw
  have hm : w ∈ tb := by
    rcases List.mem_cons.mp hw with e | e
    · rw [e]; exact h
    · exact e
  exact ⟨hm, good_of_word (List.mem_filter.mp hm).2⟩
theorem mem_tb {w : Cond} (i : Nat) (h : lw_tbl[i]? = some w) (g : goodWord w = true) : w ∈ tb := List.mem_filter.mpr ⟨List.mem_of_getElem? h, g⟩
/-! what is taken along: links of nest mates, the String constants, the arrays over Piece -/
def nestW : List (String × Nat × MethodName) := [("FourHands", 25, ⟨"FourHands$Script", "<init>", "()V"⟩), ("FourHands", 32, ⟨"FourHands$Handing", "<init>", "()V"⟩), ("FourHands", 39, ⟨"FourHands$Fingering", "<init>", "()V"⟩), ("FourHands", 46, ⟨"FourHands$Pedalling", "<init>", "()V"⟩), ("FourHands", 53, ⟨"FourHands$Practising", "<init>", "()V"⟩), ("FourHands$Script", 94, ⟨"FourHands", "within", "(III)Z"⟩), ("FourHands$Script", 82, ⟨"FourHands", "longestFrom", "(I)I"⟩), ("FourHands$Pedalling", 59, ⟨"FourHands", "within", "(III)Z"⟩)]
def bytS : List (List Int32) := [[112, 105, 101, 99, 101], [104, 97, 110, 100], [110, 111, 116, 101]]
def qS (sa : Nat → Nat) (U : State) (H : Heap) : Prop := vk_S 3 [5, 4, 4] bytS sa (fun i => sa (4 + i)) (fun q => sa 3 ≤ q) U H ∧ va_Z "java/lang/String" "COMPACT_STRINGS" "Z" (.int 1) (fun q => sa 3 ≤ q) U H ∧ va_Zq "jdk/internal/util/Preconditions" "SIOOBE_FORMATTER" "Ljava/util/function/BiFunction;" (fun q => sa 3 ≤ q) U H
def qE (sa : Nat → Nat) (U : State) : Prop := (∀ q ∈ nestW, va_Nw (.methodLinkNest q.1 q.2.1 q.2.2 "FourHands") U) ∧ vk_R "FourHands$Script" 38 "piece" (sa 0) U ∧ vk_R "FourHands$Script" 51 "hand" (sa 1) U ∧ vk_R "FourHands$Script" 56 "note" (sa 2) U ∧ va_AO "FourHands$Piece" U ∧ qS sa U U.heap
theorem qE.same {sa : Nat → Nat} {u U : State} (h : u.vm = U.vm) (hh : u.heap = U.heap) (hE : qE sa u) : qE sa U :=
  ⟨fun q hq => va_Nw.same rfl h (hE.1 q hq), vk_R.same h.symm hE.2.1, vk_R.same h.symm hE.2.2.1, vk_R.same h.symm hE.2.2.2.1, va_AO.moved (h ▸ Vm.Alike.refl u.vm) hE.2.2.2.2.1, by rw [← hh]; exact ⟨vk_S.moved (h ▸ Vm.Alike.refl u.vm) hE.2.2.2.2.2.1, va_Z.moved (h ▸ Vm.Alike.refl u.vm) hE.2.2.2.2.2.2.1, va_Zq.moved (h ▸ Vm.Alike.refl u.vm) hE.2.2.2.2.2.2.2⟩⟩
theorem qE.warm {sa : Nat → Nat} {s U : State} (hW : s.WarmedH U.vm) (hq9 : ∀ a : Nat, a < s.heap.size → ¬ sa 3 ≤ a → U.heap[a]? = s.heap[a]?) (hE : qE sa s) : qE sa U :=
  ⟨fun q hq => va_Nw.warmM hW (hE.1 q hq), vk_R.warm hW hE.2.1, vk_R.warm hW hE.2.2.1, vk_R.warm hW hE.2.2.2.1, va_AO.moved hW.alike hE.2.2.2.2.1, (vk_S.moved hW.alike hE.2.2.2.2.2.1).kept hq9, (va_Z.moved hW.alike hE.2.2.2.2.2.2.1).kept hq9, (va_Zq.moved hW.alike hE.2.2.2.2.2.2.2).kept hq9⟩
/-! contracts -/
def qP (D : va_G) (tys : List (ClassId × FieldType)) (sa : Nat → Nat) (av : List Value) (ws : va_W) (sz : Nat) : Array Value → State → Prop := va_Pc av (fun U => U.heap.size = sz ∧ va_P D vwCl ws U.heap ∧ va_K D vwCl tys U ∧ qE sa U ∧ va_D (fun _ => True) ws ∧ ∀ q, va_A ws sz q → sa 3 ≤ q)
def qB {S : Type} (D : va_G) (ws : va_W) (sz : Nat) (w2 : S → va_W) : S → State → Prop := fun u t => va_P D vwCl (w2 u) t.heap ∧ va_D (va_A ws sz) (w2 u)
def qQi {S : Type} (D : va_G) (ws : va_W) (sz : Nat) (post : Int32 → S → Prop) (w2 : S → va_W) : Array Value → State → Outcome → State → Prop := va_Qi post (qB D ws sz w2) (va_A ws sz)
def qQl {S : Type} (D : va_G) (ws : va_W) (sz : Nat) (post : Int64 → S → Prop) (w2 : S → va_W) : Array Value → State → Outcome → State → Prop := va_Ql post (qB D ws sz w2) (va_A ws sz)
def qQv {S : Type} (D : va_G) (ws : va_W) (sz : Nat) (post : S → Prop) (w2 : S → va_W) : Array Value → State → Outcome → State → Prop := va_Qv post (qB D ws sz w2) (va_A ws sz)
theorem qP_blind {D : va_G} {tys : List (ClassId × FieldType)} {sa : Nat → Nat} {av : List Value} {ws : va_W} {sz : Nat} : FrameBlind (qP D tys sa av ws sz) := by
  intro a U g mk q
  obtain ⟨q0, q1, qP, qK, qe, qD⟩ := q
  exact ⟨q0, q1, qP, va_K.moved (u := U) (U := U.calling g mk a) (Vm.Alike.refl U.vm) qK, qE.same (u := U) (U := U.calling g mk a) rfl rfl qe, qD⟩
theorem q_enter {l : Launch} {y : MethodName} {b : ByteArray} {n : Nat} {r : Option FieldType} {rm : Room} {D : va_G} {tys : List (ClassId × FieldType)} {sa : Nat → Nat} {av : List Value} {w0 : va_W} {sz mc ms : Nat} {Qc : Array Value → State → Outcome → State → Prop} (hy : plainName y.cls = true) (hn : (lg_sl av).length ≤ n)
    (body : ∀ (p : Program) (e : Env) (s : State) (m : MethodId) (below : List Frame) (meth : Method) (c : Code) (ls : Array Slot), CallFix p m c b n s av.toArray tb y.cls → meth.sig.returnType = r → meth.locks = false → meth.name = y.name → qE sa s → va_K D vwCl tys s → va_P D vwCl w0 s.heap → va_D (va_A w0 sz) w0 → va_S (va_A w0 sz) s.heap s.heap [] → ((∀ q : Nat, s.heap.size ≤ q → va_A w0 sz q) ∧ ∀ q, va_A w0 sz q → sa 3 ≤ q) → lv_has ls n (lv_args 0 av) →
      W p l e rm s m av.toArray below meth c s.heap [] 0 0 (MQ below Qc av.toArray s mc ms (va_A w0 sz)) (F0 m 0 ls [])) :
    Met l y (qW y b n r) rm (qP D tys sa av w0 sz) Qc mc ms (va_A w0 sz) := by
  refine Met.ofW (cc := b) (maxL := n) (ret := r) hy rfl ?_
  intro p e s m args below meth c s₁ B hml hv
  obtain ⟨rfl, hsz, hP, hK, hE, hD0, hN9⟩ := hv
  have hts := atoms_spec (ws := qW y b n r) B.pre
  rw [lg_entry_eq]
  exact body p e s m below meth c _ ⟨B.exec, B.bytes, hml, findClass_of_methodNamed B.named, fun w hw => hts w (List.mem_cons_of_mem _ hw)⟩ B.returns B.notSynchronized (name_of_methodNamed B.named B.method).1 hE hK hP (hD0.self (sz := sz)) va_S.rf ⟨fun q h => Or.inr (by rw [← hsz]; exact h), hN9⟩ (lv_entry av hn)
/-! what a call site knows -/
def LkB (own : String) (index : Nat) (y : MethodName) (b : ByteArray) (n : Nat) (r : Option FieldType) (k : Nat) : Prop :=
  Cond.code y b n r ∈ tb ∧ Cond.methodLink own index y ∈ tb ∧ Cond.initialized y.cls ∈ tb ∧ (y.cls ≠ "java/lang/invoke/MethodHandle" ∧ y.cls ≠ "java/lang/invoke/VarHandle" ∧ (parseMethodDescriptor y.desc).map (fun d => d.parameters.length) = some k)
def LkV (own : String) (index : Nat) (y : MethodName) (b : ByteArray) (n : Nat) (r : Option FieldType) (k : Nat) : Prop :=
  LkB own index y b n r k ∧ Cond.instanceMethod y ∈ tb ∧ Cond.selects y.cls y y ∈ tb
def LkS (own : String) (index : Nat) (y : MethodName) (b : ByteArray) (n : Nat) (r : Option FieldType) (k : Nat) : Prop :=
  LkB own index y b n r k ∧ Cond.static y ∈ tb
def LkI (own : String) (index : Nat) (y : MethodName) (b : ByteArray) (n : Nat) (k : Nat) : Prop :=
  LkB own index y b n none k ∧ y.name = "<init>" ∧ Cond.instanceMethod y ∈ tb
section QC
variable {p : Program} {l : Launch} {e : Env} {R : Room} {s : State} {m : MethodId} {args : Array Value} {below : List Frame} {meth : Method} {c : Code} {H : Heap} {locs : List Loc} {cells slots : Nat} {Q : State → Prop}
variable {cc : ByteArray} {pc nL : Nat} {ls : Array Slot} {own : String} {D : va_G} {tys : List (ClassId × FieldType)} {sa : Nat → Nat} {ws wc wr : va_W} {A : Nat → Prop} {index n k mc ms : Nat} {y : MethodName} {b : ByteArray} {r : Option FieldType} {rm : Room} {As st rest : List Value} {a : Nat} {S : Type} {w2 : S → va_W}
theorem lk_b (hX : CallFix p m c cc nL s args tb own) (hl : LkB own index y b n r k) (hrc : rm.cells = mc) (hrs : rm.slots = ms) (hR : rm.frames + 1 ≤ R.frames ∧ 8 + (n + 11) + rm.locals ≤ R.locals) : CallB R s args own index y b n r (qW y b n r) rm mc ms k :=
  callB_of k hX.2.2.2.2 (good_w hl.1) rfl hrc hrs (hX.2.2.2.2 _ hl.2.2.1) (hX.2.2.2.2 _ hl.2.1) hl.2.2.2 hR
theorem q_preV (hE : qE sa s) (hK : va_K D vwCl tys s) (hP : va_P D vwCl ws H) (hD : va_D A ws) (hS : va_S A s.heap H locs) (hA : (∀ q, s.heap.size ≤ q → A q) ∧ ∀ q, A q → sa 3 ≤ q) (isC : List Nat) (hC : isC.map (fun i => ws[i]?) = wc.map some) (hnC : va_nd isC = true) (hCf : isC.filterMap (fun i => ws[i]?) = wc) : PreS s H (qP D tys sa As wc H.size) As :=
  ⟨qP_blind, fun U hU hW => ⟨rfl, by rw [hU], by rw [hU]; exact hP.sub isC hCf, va_K.moved hW.alike hK, hE.warm hW (by rw [hU]; exact fun a h1 h2 => hS.2.1 a h1 (fun h3 => h2 (hA.2 a h3))), (hD.sub isC hnC hC).weaken (fun _ _ _ _ => trivial), fun q h => hA.2 q (va_free hD hS hA.1 isC hC q h)⟩⟩
theorem q_cf (isC : List Nat) (hC : isC.map (fun i => ws[i]?) = wc.map some) : isC.filterMap (fun i => ws[i]?) = wc := by
  have h : (isC.map (fun i => ws[i]?)).filterMap id = wc := by
    rw [hC, List.filterMap_map]
    simp
  rw [List.filterMap_map] at h
  exact h
theorem q_Vi {post : Int32 → S → Prop} (isC isR : List Nat) (hX : CallFix p m c cc nL s args tb own) (hE : qE sa s) (hK : va_K D vwCl tys s) (hP : va_P D vwCl ws H) (hD : va_D A ws) (hS : va_S A s.heap H locs) (hA : (∀ q, s.heap.size ≤ q → A q) ∧ ∀ q, A q → sa 3 ≤ q) (hsz : ls.size = nL)
    (hl : LkV own index y b n r k) (hM : Met l y (qW y b n r) rm (qP D tys sa (.ref a :: As) wc H.size) (qQi D wc H.size post w2) mc ms (va_A wc H.size))
    (hC : isC.map (fun i => ws[i]?) = wc.map some) (hR : isR.map (fun i => ws[i]?) = wr.map some) (hnC : va_nd isC = true) (hnR : va_nd isR = true) (hdis : ∀ i ∈ isR, i ∉ isC)
    (q0 ci : Nat) {fs : List Value} {T : u_T} {N : Nat} (hq0 : wc[q0]? = some (a, .inr (ci, fs))) (hci : vwCl[ci]? = some (y.cls, T, N)) (hk : As.length = k) (hst : st = As.reverse ++ .ref a :: rest) (hw : (rest.map fun v => v.category).sum ≤ 8) (hrc : rm.cells = mc) (hrs : rm.slots = ms) (hRm : rm.frames + 1 ≤ R.frames ∧ 8 + (n + 11) + rm.locals ≤ R.locals) (hf : cells + mc ≤ R.cells ∧ slots + ms ≤ R.slots) (hdg : decode cc pc = .ok (.invokevirtual index, 3))
    (kk : ∀ (x : Int32) (u : S) (H1 : Heap) (locs1 : List Loc), post x u → va_P D vwCl (wr ++ w2 u) H1 → va_D A (wr ++ w2 u) → va_S A s.heap H1 locs1 → W p l e R s m args below meth c H1 locs1 (cells + mc) (slots + ms) Q (F0 m (pc + 3) ls (.int x :: rest))) : W p l e R s m args below meth c H locs cells slots Q (F0 m pc ls st) := by
  subst hst
  have hFc := va_free hD hS hA.1 isC hC
  have hp := q_preV (As := .ref a :: As) hE hK hP hD hS hA isC hC hnC (q_cf isC hC)
  refine va_calli (va_runV (As := As) (rest := rest) hX hM ⟨lk_b hX hl.1 hrc hrs hRm, hX.2.2.2.2 _ hl.2.1, hX.2.2.2.2 _ hl.2.2⟩ ⟨hp.1, va_recv hK (hP.sub isC (q_cf isC hC)) hci hq0, hp.2⟩ rfl hk hsz rfl (lv_room hw) hdg hf) hS (fun q _ h => hFc q h) hFc (fun x u t H1 locs1 ht hvm hpo hB hz1 hk1 hS1 => ?_)
  obtain ⟨hP1, hD1⟩ := hB
  rw [ht] at hP1
  obtain ⟨hP2, hD2⟩ := va_join hP hD isC isR hC hR hnR hdis hk1 hFc hP1 hD1
  exact kk x u H1 locs1 hpo hP2 hD2 hS1
theorem q_Vl {post : Int64 → S → Prop} (isC isR : List Nat) (hX : CallFix p m c cc nL s args tb own) (hE : qE sa s) (hK : va_K D vwCl tys s) (hP : va_P D vwCl ws H) (hD : va_D A ws) (hS : va_S A s.heap H locs) (hA : (∀ q, s.heap.size ≤ q → A q) ∧ ∀ q, A q → sa 3 ≤ q) (hsz : ls.size = nL)
    (hl : LkV own index y b n r k) (hM : Met l y (qW y b n r) rm (qP D tys sa (.ref a :: As) wc H.size) (qQl D wc H.size post w2) mc ms (va_A wc H.size))
    (hC : isC.map (fun i => ws[i]?) = wc.map some) (hR : isR.map (fun i => ws[i]?) = wr.map some) (hnC : va_nd isC = true) (hnR : va_nd isR = true) (hdis : ∀ i ∈ isR, i ∉ isC)
    (q0 ci : Nat) {fs : List Value} {T : u_T} {N : Nat} (hq0 : wc[q0]? = some (a, .inr (ci, fs))) (hci : vwCl[ci]? = some (y.cls, T, N)) (hk : As.length = k) (hst : st = As.reverse ++ .ref a :: rest) (hw : (rest.map fun v => v.category).sum ≤ 8) (hrc : rm.cells = mc) (hrs : rm.slots = ms) (hRm : rm.frames + 1 ≤ R.frames ∧ 8 + (n + 11) + rm.locals ≤ R.locals) (hf : cells + mc ≤ R.cells ∧ slots + ms ≤ R.slots) (hdg : decode cc pc = .ok (.invokevirtual index, 3))
    (kk : ∀ (x : Int64) (u : S) (H1 : Heap) (locs1 : List Loc), post x u → va_P D vwCl (wr ++ w2 u) H1 → va_D A (wr ++ w2 u) → va_S A s.heap H1 locs1 → W p l e R s m args below meth c H1 locs1 (cells + mc) (slots + ms) Q (F0 m (pc + 3) ls (.long x :: rest))) : W p l e R s m args below meth c H locs cells slots Q (F0 m pc ls st) := by
  subst hst
  have hFc := va_free hD hS hA.1 isC hC
  have hp := q_preV (As := .ref a :: As) hE hK hP hD hS hA isC hC hnC (q_cf isC hC)
  refine va_calll (va_runV (As := As) (rest := rest) hX hM ⟨lk_b hX hl.1 hrc hrs hRm, hX.2.2.2.2 _ hl.2.1, hX.2.2.2.2 _ hl.2.2⟩ ⟨hp.1, va_recv hK (hP.sub isC (q_cf isC hC)) hci hq0, hp.2⟩ rfl hk hsz rfl (lv_room hw) hdg hf) hS (fun q _ h => hFc q h) hFc (fun x u t H1 locs1 ht hvm hpo hB hz1 hk1 hS1 => ?_)
  obtain ⟨hP1, hD1⟩ := hB
  rw [ht] at hP1
  obtain ⟨hP2, hD2⟩ := va_join hP hD isC isR hC hR hnR hdis hk1 hFc hP1 hD1
  exact kk x u H1 locs1 hpo hP2 hD2 hS1
theorem q_Vv {post : S → Prop} (isC isR : List Nat) (hX : CallFix p m c cc nL s args tb own) (hE : qE sa s) (hK : va_K D vwCl tys s) (hP : va_P D vwCl ws H) (hD : va_D A ws) (hS : va_S A s.heap H locs) (hA : (∀ q, s.heap.size ≤ q → A q) ∧ ∀ q, A q → sa 3 ≤ q) (hsz : ls.size = nL)
    (hl : LkV own index y b n r k) (hM : Met l y (qW y b n r) rm (qP D tys sa (.ref a :: As) wc H.size) (qQv D wc H.size post w2) mc ms (va_A wc H.size))
    (hC : isC.map (fun i => ws[i]?) = wc.map some) (hR : isR.map (fun i => ws[i]?) = wr.map some) (hnC : va_nd isC = true) (hnR : va_nd isR = true) (hdis : ∀ i ∈ isR, i ∉ isC)
    (q0 ci : Nat) {fs : List Value} {T : u_T} {N : Nat} (hq0 : wc[q0]? = some (a, .inr (ci, fs))) (hci : vwCl[ci]? = some (y.cls, T, N)) (hk : As.length = k) (hst : st = As.reverse ++ .ref a :: rest) (hw : (rest.map fun v => v.category).sum ≤ 8) (hrc : rm.cells = mc) (hrs : rm.slots = ms) (hRm : rm.frames + 1 ≤ R.frames ∧ 8 + (n + 11) + rm.locals ≤ R.locals) (hf : cells + mc ≤ R.cells ∧ slots + ms ≤ R.slots) (hdg : decode cc pc = .ok (.invokevirtual index, 3))
    (kk : ∀ (u : S) (H1 : Heap) (locs1 : List Loc), post u → va_P D vwCl (wr ++ w2 u) H1 → va_D A (wr ++ w2 u) → va_S A s.heap H1 locs1 → W p l e R s m args below meth c H1 locs1 (cells + mc) (slots + ms) Q (F0 m (pc + 3) ls rest)) : W p l e R s m args below meth c H locs cells slots Q (F0 m pc ls st) := by
  subst hst
  have hFc := va_free hD hS hA.1 isC hC
  have hp := q_preV (As := .ref a :: As) hE hK hP hD hS hA isC hC hnC (q_cf isC hC)
  refine va_callv (va_runV (As := As) (rest := rest) hX hM ⟨lk_b hX hl.1 hrc hrs hRm, hX.2.2.2.2 _ hl.2.1, hX.2.2.2.2 _ hl.2.2⟩ ⟨hp.1, va_recv hK (hP.sub isC (q_cf isC hC)) hci hq0, hp.2⟩ rfl hk hsz rfl (lv_room hw) hdg hf) hS (fun q _ h => hFc q h) hFc (fun u t H1 locs1 ht hvm hpo hB hz1 hk1 hS1 => ?_)
  obtain ⟨hP1, hD1⟩ := hB
  rw [ht] at hP1
  obtain ⟨hP2, hD2⟩ := va_join hP hD isC isR hC hR hnR hdis hk1 hFc hP1 hD1
  exact kk u H1 locs1 hpo hP2 hD2 hS1
theorem q_Si {post : Int32 → S → Prop} (isC isR : List Nat) (hX : CallFix p m c cc nL s args tb own) (hE : qE sa s) (hK : va_K D vwCl tys s) (hP : va_P D vwCl ws H) (hD : va_D A ws) (hS : va_S A s.heap H locs) (hA : (∀ q, s.heap.size ≤ q → A q) ∧ ∀ q, A q → sa 3 ≤ q) (hsz : ls.size = nL)
    (hl : LkS own index y b n r k) (hM : Met l y (qW y b n r) rm (qP D tys sa As wc H.size) (qQi D wc H.size post w2) mc ms (va_A wc H.size))
    (hC : isC.map (fun i => ws[i]?) = wc.map some) (hR : isR.map (fun i => ws[i]?) = wr.map some) (hnC : va_nd isC = true) (hnR : va_nd isR = true) (hdis : ∀ i ∈ isR, i ∉ isC)
    (hk : As.length = k) (hst : st = As.reverse ++ rest) (hw : (rest.map fun v => v.category).sum ≤ 8) (hrc : rm.cells = mc) (hrs : rm.slots = ms) (hRm : rm.frames + 1 ≤ R.frames ∧ 8 + (n + 11) + rm.locals ≤ R.locals) (hf : cells + mc ≤ R.cells ∧ slots + ms ≤ R.slots) (hdg : decode cc pc = .ok (.invokestatic index, 3))
    (kk : ∀ (x : Int32) (u : S) (H1 : Heap) (locs1 : List Loc), post x u → va_P D vwCl (wr ++ w2 u) H1 → va_D A (wr ++ w2 u) → va_S A s.heap H1 locs1 → W p l e R s m args below meth c H1 locs1 (cells + mc) (slots + ms) Q (F0 m (pc + 3) ls (.int x :: rest))) : W p l e R s m args below meth c H locs cells slots Q (F0 m pc ls st) := by
  subst hst
  have hFc := va_free hD hS hA.1 isC hC
  have hp := q_preV (As := As) hE hK hP hD hS hA isC hC hnC (q_cf isC hC)
  refine va_calli (va_runS (As := As) (rest := rest) hX hM ⟨lk_b hX hl.1 hrc hrs hRm, hX.2.2.2.2 _ hl.2⟩ hp rfl hk hsz rfl (lv_room hw) hdg hf) hS (fun q _ h => hFc q h) hFc (fun x u t H1 locs1 ht hvm hpo hB hz1 hk1 hS1 => ?_)
  obtain ⟨hP1, hD1⟩ := hB
  rw [ht] at hP1
  obtain ⟨hP2, hD2⟩ := va_join hP hD isC isR hC hR hnR hdis hk1 hFc hP1 hD1
  exact kk x u H1 locs1 hpo hP2 hD2 hS1
theorem q_Sv {post : S → Prop} (isC isR : List Nat) (hX : CallFix p m c cc nL s args tb own) (hE : qE sa s) (hK : va_K D vwCl tys s) (hP : va_P D vwCl ws H) (hD : va_D A ws) (hS : va_S A s.heap H locs) (hA : (∀ q, s.heap.size ≤ q → A q) ∧ ∀ q, A q → sa 3 ≤ q) (hsz : ls.size = nL)
    (hl : LkS own index y b n r k) (hM : Met l y (qW y b n r) rm (qP D tys sa As wc H.size) (qQv D wc H.size post w2) mc ms (va_A wc H.size))
    (hC : isC.map (fun i => ws[i]?) = wc.map some) (hR : isR.map (fun i => ws[i]?) = wr.map some) (hnC : va_nd isC = true) (hnR : va_nd isR = true) (hdis : ∀ i ∈ isR, i ∉ isC)
    (hk : As.length = k) (hst : st = As.reverse ++ rest) (hw : (rest.map fun v => v.category).sum ≤ 8) (hrc : rm.cells = mc) (hrs : rm.slots = ms) (hRm : rm.frames + 1 ≤ R.frames ∧ 8 + (n + 11) + rm.locals ≤ R.locals) (hf : cells + mc ≤ R.cells ∧ slots + ms ≤ R.slots) (hdg : decode cc pc = .ok (.invokestatic index, 3))
    (kk : ∀ (u : S) (H1 : Heap) (locs1 : List Loc), post u → va_P D vwCl (wr ++ w2 u) H1 → va_D A (wr ++ w2 u) → va_S A s.heap H1 locs1 → W p l e R s m args below meth c H1 locs1 (cells + mc) (slots + ms) Q (F0 m (pc + 3) ls rest)) : W p l e R s m args below meth c H locs cells slots Q (F0 m pc ls st) := by
  subst hst
  have hFc := va_free hD hS hA.1 isC hC
  have hp := q_preV (As := As) hE hK hP hD hS hA isC hC hnC (q_cf isC hC)
  refine va_callv (va_runS (As := As) (rest := rest) hX hM ⟨lk_b hX hl.1 hrc hrs hRm, hX.2.2.2.2 _ hl.2⟩ hp rfl hk hsz rfl (lv_room hw) hdg hf) hS (fun q _ h => hFc q h) hFc (fun u t H1 locs1 ht hvm hpo hB hz1 hk1 hS1 => ?_)
  obtain ⟨hP1, hD1⟩ := hB
  rw [ht] at hP1
  obtain ⟨hP2, hD2⟩ := va_join hP hD isC isR hC hR hnR hdis hk1 hFc hP1 hD1
  exact kk u H1 locs1 hpo hP2 hD2 hS1
theorem q_Iv {post : S → Prop} (isC isR : List Nat) (hX : CallFix p m c cc nL s args tb own) (hE : qE sa s) (hK : va_K D vwCl tys s) (hP : va_P D vwCl ws H) (hD : va_D A ws) (hS : va_S A s.heap H locs) (hA : (∀ q, s.heap.size ≤ q → A q) ∧ ∀ q, A q → sa 3 ≤ q) (hsz : ls.size = nL)
    (hl : LkI own index y b n k) (hM : Met l y (qW y b n none) rm (qP D tys sa (.ref a :: As) wc H.size) (qQv D wc H.size post w2) mc ms (va_A wc H.size))
    (hC : isC.map (fun i => ws[i]?) = wc.map some) (hR : isR.map (fun i => ws[i]?) = wr.map some) (hnC : va_nd isC = true) (hnR : va_nd isR = true) (hdis : ∀ i ∈ isR, i ∉ isC)
    (hk : As.length = k) (hst : st = As.reverse ++ .ref a :: rest) (hw : (rest.map fun v => v.category).sum ≤ 8) (hrc : rm.cells = mc) (hrs : rm.slots = ms) (hRm : rm.frames + 1 ≤ R.frames ∧ 8 + (n + 11) + rm.locals ≤ R.locals) (hf : cells + mc ≤ R.cells ∧ slots + ms ≤ R.slots) (hdg : decode cc pc = .ok (.invokespecial index, 3))
    (kk : ∀ (u : S) (H1 : Heap) (locs1 : List Loc), post u → va_P D vwCl (wr ++ w2 u) H1 → va_D A (wr ++ w2 u) → va_S A s.heap H1 locs1 → W p l e R s m args below meth c H1 locs1 (cells + mc) (slots + ms) Q (F0 m (pc + 3) ls rest)) : W p l e R s m args below meth c H locs cells slots Q (F0 m pc ls st) := by
  subst hst
  have hFc := va_free hD hS hA.1 isC hC
  have hp := q_preV (As := .ref a :: As) hE hK hP hD hS hA isC hC hnC (q_cf isC hC)
  refine va_callv (va_runI (As := As) (rest := rest) hX hM ⟨lk_b hX hl.1 hrc hrs hRm, hl.2.1, hX.2.2.2.2 _ hl.2.2⟩ hp rfl hk hsz rfl (lv_room hw) hdg hf) hS (fun q _ h => hFc q h) hFc (fun u t H1 locs1 ht hvm hpo hB hz1 hk1 hS1 => ?_)
  obtain ⟨hP1, hD1⟩ := hB
  rw [ht] at hP1
  obtain ⟨hP2, hD2⟩ := va_join hP hD isC isR hC hR hnR hdis hk1 hFc hP1 hD1
  exact kk u H1 locs1 hpo hP2 hD2 hS1
theorem q_INv {post : S → Prop} (isC isR : List Nat) (hX : CallFix p m c cc nL s args tb own) (hE : qE sa s) (hK : va_K D vwCl tys s) (hP : va_P D vwCl ws H) (hD : va_D A ws) (hS : va_S A s.heap H locs) (hA : (∀ q, s.heap.size ≤ q → A q) ∧ ∀ q, A q → sa 3 ≤ q) (hsz : ls.size = nL)
    (hw9 : (own, index, y) ∈ nestW) (hl : Cond.code y b n none ∈ tb ∧ Cond.initialized y.cls ∈ tb ∧ (y.cls ≠ "java/lang/invoke/MethodHandle" ∧ y.cls ≠ "java/lang/invoke/VarHandle" ∧ (parseMethodDescriptor y.desc).map (fun d => d.parameters.length) = some k) ∧ y.name = "<init>" ∧ Cond.instanceMethod y ∈ tb) (hM : Met l y (qW y b n none) rm (qP D tys sa (.ref a :: As) wc H.size) (qQv D wc H.size post w2) mc ms (va_A wc H.size))
    (hC : isC.map (fun i => ws[i]?) = wc.map some) (hR : isR.map (fun i => ws[i]?) = wr.map some) (hnC : va_nd isC = true) (hnR : va_nd isR = true) (hdis : ∀ i ∈ isR, i ∉ isC)
    (hk : As.length = k) (hst : st = As.reverse ++ .ref a :: rest) (hw : (rest.map fun v => v.category).sum ≤ 8) (hrc : rm.cells = mc) (hrs : rm.slots = ms) (hRm : rm.frames + 1 ≤ R.frames ∧ 8 + (n + 11) + rm.locals ≤ R.locals) (hf : cells + mc ≤ R.cells ∧ slots + ms ≤ R.slots) (hdg : decode cc pc = .ok (.invokespecial index, 3))
    (kk : ∀ (u : S) (H1 : Heap) (locs1 : List Loc), post u → va_P D vwCl (wr ++ w2 u) H1 → va_D A (wr ++ w2 u) → va_S A s.heap H1 locs1 → W p l e R s m args below meth c H1 locs1 (cells + mc) (slots + ms) Q (F0 m (pc + 3) ls rest)) : W p l e R s m args below meth c H locs cells slots Q (F0 m pc ls st) := by
  subst hst
  have hFc := va_free hD hS hA.1 isC hC
  have hp := q_preV (As := .ref a :: As) hE hK hP hD hS hA isC hC hnC (q_cf isC hC)
  refine va_callv (va_runIN (As := As) (rest := rest) hX hM ⟨va_cnB k hX.2.2.2.2 (good_w hl.1) rfl hrc hrs (hE.1 _ hw9) (hX.2.2.2.2 _ hl.2.1) hl.2.2.1 hRm, hl.2.2.2.1, hX.2.2.2.2 _ hl.2.2.2.2⟩ hp rfl hk hsz rfl (lv_room hw) hdg hf) hS (fun q _ h => hFc q h) hFc (fun u t H1 locs1 ht hvm hpo hB hz1 hk1 hS1 => ?_)
  obtain ⟨hP1, hD1⟩ := hB
  rw [ht] at hP1
  obtain ⟨hP2, hD2⟩ := va_join hP hD isC isR hC hR hnR hdis hk1 hFc hP1 hD1
  exact kk u H1 locs1 hpo hP2 hD2 hS1
/-! ends -/
variable {w0 : va_W} {sz : Nat}
theorem q_iret {post : Int32 → S → Prop} {v : Int32} (hX : CallFix p m c cc nL s args tb own) (hr : meth.sig.returnType = some .int) (hlk : meth.locks = false) (u : S) (hp : post v u) (hP : va_P D vwCl (w2 u) H) (hD : va_D (va_A w0 sz) (w2 u)) (hS : va_S (va_A w0 sz) s.heap H locs) (hdg : decode cc pc = .ok (.ireturn, 1)) : W p l e R s m args below meth c H locs cells slots (MQ below (qQi D w0 sz post w2) args s cells slots (va_A w0 sz)) (F0 m pc ls [.int v]) :=
  W.iret hX.1 hX.2.1 hr (fun t ht hW => ⟨⟨v, u, rfl, hp, by rw [ht]; exact hP, hD⟩, hS.F ht⟩) hS.2.2 hdg hlk
theorem q_zret {post : Int32 → S → Prop} {v : Int32} (hX : CallFix p m c cc nL s args tb own) (hr : meth.sig.returnType = some .boolean) (hlk : meth.locks = false) (hn : narrow .boolean (.int v) = .int v) (u : S) (hp : post v u) (hP : va_P D vwCl (w2 u) H) (hD : va_D (va_A w0 sz) (w2 u)) (hS : va_S (va_A w0 sz) s.heap H locs) (hdg : decode cc pc = .ok (.ireturn, 1)) : W p l e R s m args below meth c H locs cells slots (MQ below (qQi D w0 sz post w2) args s cells slots (va_A w0 sz)) (F0 m pc ls [.int v]) :=
  W.zret hX.1 hX.2.1 hr hn (fun t ht hW => ⟨⟨v, u, rfl, hp, by rw [ht]; exact hP, hD⟩, hS.F ht⟩) hS.2.2 hdg hlk
theorem q_lret {post : Int64 → S → Prop} {v : Int64} (hX : CallFix p m c cc nL s args tb own) (hr : meth.sig.returnType = some .long) (hlk : meth.locks = false) (u : S) (hp : post v u) (hP : va_P D vwCl (w2 u) H) (hD : va_D (va_A w0 sz) (w2 u)) (hS : va_S (va_A w0 sz) s.heap H locs) (hdg : decode cc pc = .ok (.lreturn, 1)) : W p l e R s m args below meth c H locs cells slots (MQ below (qQl D w0 sz post w2) args s cells slots (va_A w0 sz)) (F0 m pc ls [.long v]) :=
  W.lret hX.1 hX.2.1 hr (fun t ht hW => ⟨⟨v, u, rfl, hp, by rw [ht]; exact hP, hD⟩, hS.F ht⟩) hS.2.2 hdg hlk
theorem q_vret {post : S → Prop} (hX : CallFix p m c cc nL s args tb own) (hr : meth.sig.returnType = none) (hlk : meth.locks = false) (u : S) (hp : post u) (hP : va_P D vwCl (w2 u) H) (hD : va_D (va_A w0 sz) (w2 u)) (hS : va_S (va_A w0 sz) s.heap H locs) (hdg : decode cc pc = .ok (.return_, 1)) : W p l e R s m args below meth c H locs cells slots (MQ below (qQv D w0 sz post w2) args s cells slots (va_A w0 sz)) (F0 m pc ls []) :=
  W.vret hX.1 hX.2.1 hr (fun t ht hW => ⟨⟨u, rfl, hp, by rw [ht]; exact hP, hD⟩, hS.F ht⟩) hS.2.2 hdg hlk
/-! a number at the stack's top, by another name -/
theorem q_i {x z : Int32} (h : x = z) (k : W p l e R s m args below meth c H locs cells slots Q (F0 m pc ls (.int z :: rest))) : W p l e R s m args below meth c H locs cells slots Q (F0 m pc ls (.int x :: rest)) := by rw [h]; exact k
theorem q_l {x z : Int64} (h : x = z) (k : W p l e R s m args below meth c H locs cells slots Q (F0 m pc ls (.long z :: rest))) : W p l e R s m args below meth c H locs cells slots Q (F0 m pc ls (.long x :: rest)) := by rw [h]; exact k
end QC
