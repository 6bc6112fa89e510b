def yWd (G : ZG) (A : Nat → Prop) (s : State) (H : Heap) (locs : List Loc) (ws : va_W) : Prop :=
  va_K G.2.2.1 vwCl (zty G) s ∧ va_P G.2.2.1 vwCl ws H ∧ va_D A ws ∧ va_S A s.heap H locs ∧ (∀ q, s.heap.size ≤ q → A q) ∧ zSt G A s s.heap
/-- THE CONTRACT of a constructor: the world W0 comes to be W1 -/
def yCt (l : Launch) (y : MethodName) (cc : ByteArray) (nL dp mc ms : Nat) (G : ZG) (h : Nat) (W0 : va_W) (post : va_W → Prop) : Prop :=
  ∀ sz, Met l y (.code y cc nL none :: WS) { frames := dp, cells := mc, slots := ms, locals := 45 * dp } (va_Pc [.ref h] (fun U => U.heap.size = sz ∧ va_P G.2.2.1 vwCl W0 U.heap ∧ va_K G.2.2.1 vwCl (zty G) U ∧ va_D (fun _ => True) W0 ∧ zSt G (va_A W0 sz) U U.heap))
    (fun _ st oc t => (oc = .returned none ∧ ∃ W1, post W1 ∧ va_P G.2.2.1 vwCl W1 t.heap ∧ va_K G.2.2.1 vwCl (zty G) t ∧ va_D (va_A W0 sz) W1) ∧ va_F (va_A W0 sz) st t) mc ms (va_A W0 sz)
def yQ (below : List Frame) (G : ZG) (A : Nat → Prop) (post : va_W → Prop) (args : Array Value) (s : State) (mc ms : Nat) : State → Prop := MQ below (fun _ st oc t => (oc = .returned none ∧ ∃ W1, post W1 ∧ va_P G.2.2.1 vwCl W1 t.heap ∧ va_K G.2.2.1 vwCl (zty G) t ∧ va_D A W1) ∧ va_F A st t) args s mc ms A
abbrev yR (dp mc ms : Nat) : Room := { frames := dp, cells := mc, slots := ms, locals := 45 * dp }
theorem yCt.mk {l : Launch} {y : MethodName} {cc : ByteArray} {nL dp mc ms : Nat} {G : ZG} {h : Nat} {W0 : va_W} {post : va_W → Prop} (hy : plainName y.cls = true) (hn : y.name = "<init>") (hlen : (lg_sl [.ref h]).length ≤ nL)
    (body : ∀ (p : Program) (e : Env) (s : State) (m : MethodId) (args : Array Value) (below : List Frame) (meth : Method) (c : Code) (A : Nat → Prop) (H : Heap) (locs : List Loc) (ls : Array Slot), CallFix p m c cc nL s args WS y.cls → meth.sig.returnType = none → meth.locks = false → meth.name = "<init>" → yWd G A s H locs W0 → lv_has ls nL (lv_args 0 [.ref h]) → W p l e (yR dp mc ms) s m args below meth c H locs 0 0 (yQ below G A post args s mc ms) (F0 m 0 ls [])) : yCt l y cc nL dp mc ms G h W0 post := by
  intro sz
  refine Met.ofW (cc := cc) (maxL := nL) (ret := none) hy rfl ?_
  intro p e s m args below meth c s₁ B hml hv
  obtain ⟨rfl, hsz, hP, hK, hD0, hT⟩ := hv
  have hts := atoms_spec (ws := .code y cc nL none :: WS) B.pre
  subst hsz
  have hD := hD0.self (sz := s.heap.size)
  have hl := lv_entry [.ref h] (n := nL) hlen
  rw [lg_entry_eq]
  exact body p e s m _ below meth c (va_A W0 s.heap.size) s.heap [] _ ⟨B.exec, B.bytes, hml, findClass_of_methodNamed B.named, fun w h => hts w (List.mem_cons_of_mem _ h)⟩ B.returns B.notSynchronized ((name_of_methodNamed B.named B.method).1.trans hn) ⟨hK, hP, hD, va_S.rf, fun q h => Or.inr h, hT⟩ hl
def yMi (y : MethodName) (bytes : ByteArray) (maxL : Nat) : Prop := Cond.code y bytes maxL none ∈ WS ∧ Cond.initialized y.cls ∈ WS ∧ Cond.instanceMethod y ∈ WS ∧ y.name = "<init>" ∧ y.cls ≠ "java/lang/invoke/MethodHandle" ∧ y.cls ≠ "java/lang/invoke/VarHandle" ∧ (parseMethodDescriptor y.desc).map (fun d => d.parameters.length) = some 0
theorem ySet {pre r : va_W} {a : Nat} {e e' : va_E} : (pre ++ (a, e) :: r).set pre.length (a, e') = pre ++ (a, e') :: r := by
  induction pre with
  | nil => rfl
  | cons x xs ih => simp only [List.cons_append, List.length_cons, List.set_cons_succ, ih]
theorem yGet {pre r : va_W} {x : Nat × va_E} : (pre ++ x :: r)[pre.length]? = some x := by
  rw [List.getElem?_append_right (Nat.le_refl _), Nat.sub_self]
  rfl
section YW
variable {p : Program} {l : Launch} {e : Env} {R : Room} {s : State} {m : MethodId} {args : Array Value} {below : List Frame} {meth : Method} {c : Code} {H : Heap} {locs : List Loc} {cells slots : Nat} {Q : State → Prop}
variable {cc : ByteArray} {pc nL : Nat} {ls : Array Slot} {rest st0 : List Value} {own : String} {G : ZG} {A : Nat → Prop}
theorem y_obj (S : CallFix p m c cc nL s args WS own) {idx a : Nat} (hl : Cond.methodLink own idx Lib.objectInit ∈ WS) (hsz : ls.size = nL) (hdg : decode cc pc = .ok (.invokespecial idx, 3)) (hR : 1 ≤ R.frames ∧ (rest.map fun v => v.category).sum + 12 ≤ R.locals) (kk : W p l e R s m args below meth c H locs cells slots Q (F0 m (pc + 3) ls rest)) : W p l e R s m args below meth c H locs cells slots Q (F0 m pc ls (.ref a :: rest)) := by
  obtain ⟨hx, hb, hml, hown, hts⟩ := S
  exact W.objInit hx hb hown (hts _ hl) (hts _ (zIn 20 (by decide +kernel) (by decide +kernel))) (hts _ (zIn 21 (by decide +kernel) (by decide +kernel))) rfl (hsz.trans hml.symm) rfl hdg hR.1 (by show 2 * 0 + _ + 12 ≤ _; omega) kk
theorem y_newI (S : CallFix p m c cc nL s args WS own) {pre r : va_W} (hw : yWd G A s H locs (pre ++ r)) {n : Int32} {N : Nat} (hn : ¬ n < 0) (hN : n.toNatClampNeg = N) (hb : N ≤ 4200) (hcells : cells + 1 ≤ R.cells ∧ slots + N ≤ R.slots) (hdg : decode cc pc = .ok (.newarray .int, 2))
    (kk : ∀ (q : Nat) (H1 : Heap), yWd G A s H1 locs (pre ++ (r ++ [(q, .inl (G.2.1 0, N, .inl (fun _ => 0)))])) → W p l e R s m args below meth c H1 locs (cells + 1) (slots + N) Q (F0 m (pc + 2) ls (.ref q :: rest))) : W p l e R s m args below meth c H locs cells slots Q (F0 m pc ls (.int n :: rest)) := by
  obtain ⟨hx, hbb, hml, hown, hts⟩ := S
  obtain ⟨hK, hP, hD, hS, hA, hT⟩ := hw
  refine va_newa (atype := .int) hx hbb (hts _ (zIn 35 (by decide +kernel) (by decide +kernel))) (ty := .int) rfl hK hP hD hS hA (a0 := (N, .inl (fun _ => 0))) (fun cA => rfl) hn hN (by show N * 4 ≤ _; omega) hcells.1 hcells.2 hdg (fun q cA H1 hK1 hP1 hD1 hS1 => ?_)
  have e : cA = G.2.1 0 := by
    have h1 := va_nm_int (hK1.2 2 (cA, .int) rfl).2
    have h2 := va_nm_int (hK.2 0 (G.2.1 0, .int) rfl).2
    exact Option.some.inj (h1.symm.trans h2)
  subst e
  rw [List.append_assoc] at hP1 hD1
  exact kk q H1 ⟨hK, hP1, hD1, hS1, hA, hT⟩
theorem y_newJ (S : CallFix p m c cc nL s args WS own) {pre r : va_W} (hw : yWd G A s H locs (pre ++ r)) {n : Int32} {N : Nat} (hn : ¬ n < 0) (hN : n.toNatClampNeg = N) (hb : N ≤ 4200) (hcells : cells + 1 ≤ R.cells ∧ slots + N ≤ R.slots) (hdg : decode cc pc = .ok (.newarray .long, 2))
    (kk : ∀ (q : Nat) (H1 : Heap), yWd G A s H1 locs (pre ++ (r ++ [(q, .inl (G.2.1 1, N, .inr (.inl (fun _ => 0))))])) → W p l e R s m args below meth c H1 locs (cells + 1) (slots + N) Q (F0 m (pc + 2) ls (.ref q :: rest))) : W p l e R s m args below meth c H locs cells slots Q (F0 m pc ls (.int n :: rest)) := by
  obtain ⟨hx, hbb, hml, hown, hts⟩ := S
  obtain ⟨hK, hP, hD, hS, hA, hT⟩ := hw
  refine va_newa (atype := .long) hx hbb (hts _ (zIn 49 (by decide +kernel) (by decide +kernel))) (ty := .long) rfl hK hP hD hS hA (a0 := (N, .inr (.inl (fun _ => 0)))) (fun cA => rfl) hn hN (by show N * 8 ≤ _; omega) hcells.1 hcells.2 hdg (fun q cA H1 hK1 hP1 hD1 hS1 => ?_)
  have e : cA = G.2.1 1 := by
    have h1 := va_nm_long (hK1.2 2 (cA, .long) rfl).2
    have h2 := va_nm_long (hK.2 1 (G.2.1 1, .long) rfl).2
    exact Option.some.inj (h1.symm.trans h2)
  subst e
  rw [List.append_assoc] at hP1 hD1
  exact kk q H1 ⟨hK, hP1, hD1, hS1, hA, hT⟩
theorem y_new (S : CallFix p m c cc nL s args WS own) {pre r : va_W} (hw : yWd G A s H locs (pre ++ r)) {C : String} {T : u_T} {N ci index : Nat} {ty : Nat → FieldType} {fs : List Value} (hc : vwCl[ci]? = some (C, T, N)) (hin : ∀ w ∈ u_ws C T N, w ∈ WS) (hty : ∀ k, k < N → parseFieldDescriptor (T k).2.2.1 = some (ty k)) (hcl : Cond.classLink own index C ∈ WS) (hinst : Cond.instantiable C N ∈ WS) (hini : Cond.initialized C ∈ WS) (hfs : ∀ j, j < N → defaultValue (ty j) = vp_V fs j) (hcells : cells + 1 ≤ R.cells ∧ slots + N ≤ R.slots) (hdg : decode cc pc = .ok (.new index, 3))
    (kk : ∀ (q : Nat) (H1 : Heap), yWd G A s H1 locs (pre ++ (r ++ [(q, .inr (ci, fs))])) → W p l e R s m args below meth c H1 locs (cells + 1) (slots + N) Q (F0 m (pc + 3) ls (.ref q :: rest))) : W p l e R s m args below meth c H locs cells slots Q (F0 m pc ls rest) := by
  obtain ⟨hx, hbb, hml, hown, hts⟩ := S
  obtain ⟨hK, hP, hD, hS, hA, hT⟩ := hw
  refine va_new hx hbb hts hin ty hty hown (hts _ hcl) (hts _ hinst) (hts _ hini) hK hP hD hS hA hc hfs hcells.1 hcells.2 hdg (fun q H1 hP1 hD1 hS1 => ?_)
  rw [List.append_assoc] at hP1 hD1
  exact kk q H1 ⟨hK, hP1, hD1, hS1, hA, hT⟩
/-- a final field of the object that is made, a reference -/
theorem y_putF (S : CallFix p m c cc nL s args WS own) {pre r : va_W} {a q ci k index : Nat} {fs : List Value} (hw : yWd G A s H locs (pre ++ (a, .inr (ci, fs)) :: r)) {C : String} {T : u_T} {N : Nat} {ty : Nat → FieldType} (hc : vwCl[ci]? = some (C, T, N)) (hin : ∀ w ∈ u_ws C T N, w ∈ WS) (hty : ∀ k, k < N → parseFieldDescriptor (T k).2.2.1 = some (ty k)) (hnm : ∀ a, a < N → ∀ b, b < N → a ≠ b → (T a).2.1 ≠ (T b).2.1) (hk : k < N) (hl : Cond.fieldLink own index (T k).1 (T k).2.1 (T k).2.2.1 ∈ WS) (hfin : (T k).2.2.2 = true) (hi : meth.name = "<init>") (hdecl : (T k).1 = own) (hft : narrow (ty k) (.ref q) = .ref q ∧ fits (ty k) (.ref q) = true) (hlen : k < fs.length) (hdg : decode cc pc = .ok (.putfield index, 3))
    (kk : ∀ (H1 : Heap) (locs1 : List Loc), yWd G A s H1 locs1 (pre ++ (a, .inr (ci, fs.set k (.ref q))) :: r) → W p l e R s m args below meth c H1 locs1 cells slots Q (F0 m (pc + 3) ls rest)) : W p l e R s m args below meth c H locs cells slots Q (F0 m pc ls (.ref q :: .ref a :: rest)) := by
  obtain ⟨hx, hbb, hml, hown, hts⟩ := S
  obtain ⟨hK, hP, hD, hS, hA, hT⟩ := hw
  refine va_putF (D := G.2.2.1) (v := .ref q) hx hbb hts hin ty hty hnm hown hK hP hD hS pre.length yGet hc k hk (hts _ hl) (fun _ h => h) hfin hi hdecl (hty k hk) hft.1 hft.2 hlen hdg (fun H1 locs1 hP1 hD1 hS1 => ?_)
  rw [ySet] at hP1 hD1
  exact kk H1 locs1 ⟨hK, hP1, hD1, hS1, hA, hT⟩
theorem y_putI (S : CallFix p m c cc nL s args WS own) {pre r : va_W} {a ci k index : Nat} {v : Int32} {fs : List Value} (hw : yWd G A s H locs (pre ++ (a, .inr (ci, fs)) :: r)) {C : String} {T : u_T} {N : Nat} {ty : Nat → FieldType} (hc : vwCl[ci]? = some (C, T, N)) (hin : ∀ w ∈ u_ws C T N, w ∈ WS) (hty : ∀ k, k < N → parseFieldDescriptor (T k).2.2.1 = some (ty k)) (hnm : ∀ a, a < N → ∀ b, b < N → a ≠ b → (T a).2.1 ≠ (T b).2.1) (hk : k < N) (hl : Cond.fieldLink own index (T k).1 (T k).2.1 (T k).2.2.1 ∈ WS) (hfin : (T k).2.2.2 = false) (hft : ty k = .int) (hlen : k < fs.length) (hdg : decode cc pc = .ok (.putfield index, 3))
    (kk : ∀ (H1 : Heap) (locs1 : List Loc), yWd G A s H1 locs1 (pre ++ (a, .inr (ci, fs.set k (.int v))) :: r) → W p l e R s m args below meth c H1 locs1 cells slots Q (F0 m (pc + 3) ls rest)) : W p l e R s m args below meth c H locs cells slots Q (F0 m pc ls (.int v :: .ref a :: rest)) := by
  obtain ⟨hx, hbb, hml, hown, hts⟩ := S
  obtain ⟨hK, hP, hD, hS, hA, hT⟩ := hw
  refine va_put (D := G.2.2.1) (v := .int v) hx hbb hts hin ty hty hnm hown hK hP hD hS pre.length yGet hc k hk (hts _ hl) (fun _ h => h) hfin (hty k hk) (by rw [hft]; rfl) (by rw [hft]; rfl) hlen hdg (fun H1 locs1 hP1 hD1 hS1 => ?_)
  rw [ySet] at hP1 hD1
  exact kk H1 locs1 ⟨hK, hP1, hD1, hS1, hA, hT⟩
theorem y_call {y : MethodName} {bytes : ByteArray} {maxL dq mc ms index h : Nat} {W0 : va_W} {post : va_W → Prop} (S : CallFix p m c cc nL s args WS own) (hw : yWd G A s H locs W0) (hC : yCt l y bytes maxL dq mc ms G h W0 post) (hmi : yMi y bytes maxL) (hlk : zLk own index y) (hcat : (rest.map fun v => v.category).sum ≤ 8) (hR : dq + 1 ≤ R.frames ∧ 8 + (maxL + 11) + 45 * dq ≤ R.locals) (hcells : cells + mc ≤ R.cells ∧ slots + ms ≤ R.slots) (hsz : ls.size = nL) (hdg : decode cc pc = .ok (.invokespecial index, 3))
    (kk : ∀ (W1 : va_W), post W1 → ∀ (H1 : Heap) (locs1 : List Loc), yWd G A s H1 locs1 W1 → W p l e R s m args below meth c H1 locs1 (cells + mc) (slots + ms) Q (F0 m (pc + 3) ls rest)) : W p l e R s m args below meth c H locs cells slots Q (F0 m pc ls (.ref h :: rest)) := by
  obtain ⟨hcode, hini, hins, hname, hd1, hd2, hd3⟩ := hmi
  have hts := S.2.2.2.2
  have hw0 := hw
  obtain ⟨hK, hP, hD, hS, hA, hT⟩ := hw
  have hAq : ∀ q, va_A W0 H.size q → A q := by
    intro q h
    rcases h with ⟨k, e, h⟩ | h
    · exact hD.2 k (q, e) h
    · exact hA q (Nat.le_trans hS.1 h)
  have pre : FrameBlind (va_Pc [.ref h] (fun U => U.heap.size = H.size ∧ va_P G.2.2.1 vwCl W0 U.heap ∧ va_K G.2.2.1 vwCl (zty G) U ∧ va_D (fun _ => True) W0 ∧ zSt G (va_A W0 H.size) U U.heap)) ∧ ∀ U : State, U.heap = H → s.WarmedH U.vm → va_Pc [.ref h] (fun U => U.heap.size = H.size ∧ va_P G.2.2.1 vwCl W0 U.heap ∧ va_K G.2.2.1 vwCl (zty G) U ∧ va_D (fun _ => True) W0 ∧ zSt G (va_A W0 H.size) U U.heap) ([Value.ref h] : List Value).toArray U := by
    refine ⟨fun a U g mk q => ?_, fun U hU hW => ⟨rfl, by rw [hU], by rw [hU]; exact hP, va_K.moved hW.alike hK, hD.weaken (fun _ _ _ _ => trivial), by rw [hU]; exact hT.to hS hW hAq⟩⟩
    obtain ⟨q0, q1, q2, q3, q4, q5⟩ := q
    exact ⟨q0, q1, q2, va_K.moved (u := U) (U := U.calling g mk a) (Vm.Alike.refl U.vm) q3, q4, ⟨q5.1.moved (u := U) (U := U.calling g mk a) (Vm.Alike.refl U.vm), q5.2.1.moved (u := U) (U := U.calling g mk a) (Vm.Alike.refl U.vm), fun own i y h' hm => va_Nw.same (u := U) (U := U.calling g mk a) rfl rfl (q5.2.2.1 own i y h' hm), q5.2.2.2.moved (u := U) (U := U.calling g mk a) (Vm.Alike.refl U.vm)⟩⟩
  have hr : va_Run p l e R s m args below meth c H locs cells slots mc ms (F0 m pc ls (.ref h :: rest)) rest (fun st oc t => (oc = .returned none ∧ ∃ W1, post W1 ∧ va_P G.2.2.1 vwCl W1 t.heap ∧ va_K G.2.2.1 vwCl (zty G) t ∧ va_D (va_A W0 H.size) W1) ∧ va_F (va_A W0 H.size) st t) (va_A W0 H.size) := by
    rcases hlk with hlk | ⟨host, hlk⟩
    · exact va_runI (As := []) (rest := rest) S (hC H.size) (cwI 0 hts (zGoodM hcode) rfl rfl rfl (hts _ hini) (hts _ hlk) (hts _ hins) hname ⟨hd1, hd2, hd3⟩ ⟨hR.1, hR.2⟩) ⟨pre.1, pre.2⟩ rfl rfl hsz rfl (lv_room hcat) hdg hcells
    · exact va_runIN (As := []) (rest := rest) S (hC H.size) ⟨va_cnB 0 hts (zGoodM hcode) rfl rfl rfl (hT.2.2.1 _ _ _ _ hlk) (hts _ hini) ⟨hd1, hd2, hd3⟩ ⟨hR.1, hR.2⟩, hname, hts _ hins⟩ ⟨pre.1, pre.2⟩ rfl rfl hsz rfl (lv_room hcat) hdg hcells
  intro T hT2 X
  obtain ⟨v, st₀, t, T', L, h0, X', hL, e1, e2, ⟨⟨hv, W1, hp1, hp, hk0, hd1'⟩, hz, hk⟩, st⟩ := hr T hT2 X
  cases hv
  rw [h0] at hz hk
  obtain ⟨t2, a1, b1⟩ := kk W1 hp1 T'.heap (locs ++ L) ⟨hK, by rw [e1]; exact hp, hd1'.weaken (fun k q _ hq => hAq _ hq), ⟨Nat.le_trans hS.1 (by rw [e1]; exact hz), fun q h1 h2 => by rw [e1, hk q (Nat.lt_of_lt_of_le h1 hS.1) (fun z => h2 (hAq q z))]; exact hS.2.1 q h1 h2, fun q hq => by
      rcases List.mem_append.mp hq with h | h
      · exact hS.2.2 q h
      · exact hAq _ (hL q h)⟩, hA, hT⟩ T' rfl X'
  exact ⟨t2, st t2 a1, b1⟩
theorem y_ret {W1 : va_W} {post : va_W → Prop} (S : CallFix p m c cc nL s args WS own) (hr : meth.sig.returnType = none) (hlk : meth.locks = false) (hw : yWd G A s H locs W1) (hp : post W1) (hdg : decode cc pc = .ok (.return_, 1)) : W p l e R s m args below meth c H locs cells slots (yQ below G A post args s cells slots) (F0 m pc ls []) := by
  obtain ⟨hx, hb, hml, hown, hts⟩ := S
  obtain ⟨hK, hP, hD, hS, hA, hT⟩ := hw
  exact W.vret hx hb hr (fun t ht hW => ⟨⟨rfl, W1, hp, by rw [ht]; exact hP, va_K.moved hW.alike hK, hD⟩, hS.F ht⟩) hS.2.2 hdg hlk
end YW
theorem ki_X11_1 : Cond.methodLink RX11 1 Lib.objectInit ∈ WS := zIn 19 (by decide +kernel) (by decide +kernel)
theorem kn_X11_7 : Cond.classLink RX11 7 RX10 ∈ WS := zIn 22 (by decide +kernel) (by decide +kernel)
theorem ki_X11_9 : zLk RX11 9 yX10_init := Or.inr ⟨"MayBeRead", List.mem_append_right _ (List.mem_of_getElem? (i := 24) (by decide +kernel))⟩
theorem kn_X11_22 : Cond.classLink RX11 22 RX9 ∈ WS := zIn 36 (by decide +kernel) (by decide +kernel)
theorem ki_X11_24 : zLk RX11 24 yX9_init := Or.inr ⟨"MayBeRead", List.mem_append_right _ (List.mem_of_getElem? (i := 38) (by decide +kernel))⟩
theorem kn_X11_29 : Cond.classLink RX11 29 RX7 ∈ WS := zIn 50 (by decide +kernel) (by decide +kernel)
theorem ki_X11_31 : zLk RX11 31 yX7_init := Or.inr ⟨"MayBeRead", List.mem_append_right _ (List.mem_of_getElem? (i := 52) (by decide +kernel))⟩
theorem kn_X11_36 : Cond.classLink RX11 36 RX2 ∈ WS := zIn 87 (by decide +kernel) (by decide +kernel)
theorem ki_X11_38 : zLk RX11 38 yX2_init := Or.inr ⟨"MayBeRead", List.mem_append_right _ (List.mem_of_getElem? (i := 89) (by decide +kernel))⟩
theorem kn_X11_43 : Cond.classLink RX11 43 RX8 ∈ WS := zIn 134 (by decide +kernel) (by decide +kernel)
theorem ki_X11_45 : zLk RX11 45 yX8_init := Or.inr ⟨"MayBeRead", List.mem_append_right _ (List.mem_of_getElem? (i := 136) (by decide +kernel))⟩
theorem kn_X11_50 : Cond.classLink RX11 50 RX4 ∈ WS := zIn 147 (by decide +kernel) (by decide +kernel)
theorem ki_X11_52 : zLk RX11 52 yX4_init := Or.inr ⟨"MayBeRead", List.mem_append_right _ (List.mem_of_getElem? (i := 149) (by decide +kernel))⟩
theorem kn_X11_57 : Cond.classLink RX11 57 RX6 ∈ WS := zIn 160 (by decide +kernel) (by decide +kernel)
theorem ki_X11_59 : zLk RX11 59 yX6_init := Or.inr ⟨"MayBeRead", List.mem_append_right _ (List.mem_of_getElem? (i := 162) (by decide +kernel))⟩
theorem kn_X11_67 : Cond.classLink RX11 67 RX3 ∈ WS := zIn 176 (by decide +kernel) (by decide +kernel)
theorem ki_X11_69 : zLk RX11 69 yX3_init := Or.inr ⟨"MayBeRead", List.mem_append_right _ (List.mem_of_getElem? (i := 178) (by decide +kernel))⟩
theorem kn_X11_74 : Cond.classLink RX11 74 RX0 ∈ WS := zIn 193 (by decide +kernel) (by decide +kernel)
theorem ki_X11_76 : zLk RX11 76 yX0_init := Or.inr ⟨"MayBeRead", List.mem_append_right _ (List.mem_of_getElem? (i := 195) (by decide +kernel))⟩
theorem kn_X11_81 : Cond.classLink RX11 81 RX1 ∈ WS := zIn 209 (by decide +kernel) (by decide +kernel)
theorem ki_X11_83 : zLk RX11 83 yX1_init := Or.inr ⟨"MayBeRead", List.mem_append_right _ (List.mem_of_getElem? (i := 211) (by decide +kernel))⟩
theorem ki_X0_3 : Cond.methodLink RX0 3 Lib.objectInit ∈ WS := zIn 198 (by decide +kernel) (by decide +kernel)
theorem ki_X1_1 : Cond.methodLink RX1 1 Lib.objectInit ∈ WS := zIn 214 (by decide +kernel) (by decide +kernel)
theorem kn_X1_7 : Cond.classLink RX1 7 RX10 ∈ WS := zIn 215 (by decide +kernel) (by decide +kernel)
theorem ki_X1_9 : zLk RX1 9 yX10_init := Or.inr ⟨"MayBeRead", List.mem_append_right _ (List.mem_of_getElem? (i := 216) (by decide +kernel))⟩
theorem kn_X1_16 : Cond.classLink RX1 16 RX4 ∈ WS := zIn 217 (by decide +kernel) (by decide +kernel)
theorem ki_X1_18 : zLk RX1 18 yX4_init := Or.inr ⟨"MayBeRead", List.mem_append_right _ (List.mem_of_getElem? (i := 218) (by decide +kernel))⟩
theorem kn_X1_23 : Cond.classLink RX1 23 RX0 ∈ WS := zIn 219 (by decide +kernel) (by decide +kernel)
theorem ki_X1_25 : zLk RX1 25 yX0_init := Or.inr ⟨"MayBeRead", List.mem_append_right _ (List.mem_of_getElem? (i := 220) (by decide +kernel))⟩
theorem ki_X2_3 : Cond.methodLink RX2 3 Lib.objectInit ∈ WS := zIn 92 (by decide +kernel) (by decide +kernel)
theorem kn_X2_9 : Cond.classLink RX2 9 RX5 ∈ WS := zIn 93 (by decide +kernel) (by decide +kernel)
theorem ki_X2_11 : zLk RX2 11 yX5_init := Or.inr ⟨"MayBeRead", List.mem_append_right _ (List.mem_of_getElem? (i := 95) (by decide +kernel))⟩
theorem ki_X3_3 : Cond.methodLink RX3 3 Lib.objectInit ∈ WS := zIn 181 (by decide +kernel) (by decide +kernel)
theorem ki_X4_3 : Cond.methodLink RX4 3 Lib.objectInit ∈ WS := zIn 152 (by decide +kernel) (by decide +kernel)
theorem ki_X5_3 : Cond.methodLink RX5 3 Lib.objectInit ∈ WS := zIn 98 (by decide +kernel) (by decide +kernel)
theorem ki_X6_3 : Cond.methodLink RX6 3 Lib.objectInit ∈ WS := zIn 165 (by decide +kernel) (by decide +kernel)
theorem ki_X7_3 : Cond.methodLink RX7 3 Lib.objectInit ∈ WS := zIn 55 (by decide +kernel) (by decide +kernel)
theorem ki_X8_3 : Cond.methodLink RX8 3 Lib.objectInit ∈ WS := zIn 139 (by decide +kernel) (by decide +kernel)
theorem ki_X9_3 : Cond.methodLink RX9 3 Lib.objectInit ∈ WS := zIn 41 (by decide +kernel) (by decide +kernel)
theorem ki_X10_3 : Cond.methodLink RX10 3 Lib.objectInit ∈ WS := zIn 27 (by decide +kernel) (by decide +kernel)
theorem kn_L_10 : Cond.classLink RL 10 RX11 ∈ WS := zIn 14 (by decide +kernel) (by decide +kernel)
theorem ki_L_62 : zLk RL 62 yX11_init := Or.inl (zIn 16 (by decide +kernel) (by decide +kernel))
theorem kc0 : Cond.instantiable RX0 3 ∈ WS ∧ Cond.initialized RX0 ∈ WS := ⟨zIn 194 (by decide +kernel) (by decide +kernel), zIn 11 (by decide +kernel) (by decide +kernel)⟩
theorem mi_0 : yMi yX0_init cX0_init 1 := ⟨zIn 197 (by decide +kernel) (by decide +kernel), zIn 11 (by decide +kernel) (by decide +kernel), zIn 196 (by decide +kernel) (by decide +kernel), rfl, by decide +kernel, by decide +kernel, by decide +kernel⟩
theorem df_0 : ∀ j, j < 3 → defaultValue (tyX0 j) = vp_V [.null, .null, .int 0] j := by decide +kernel
theorem kc1 : Cond.instantiable RX1 4 ∈ WS ∧ Cond.initialized RX1 ∈ WS := ⟨zIn 210 (by decide +kernel) (by decide +kernel), zIn 12 (by decide +kernel) (by decide +kernel)⟩
theorem mi_1 : yMi yX1_init cX1_init 1 := ⟨zIn 213 (by decide +kernel) (by decide +kernel), zIn 12 (by decide +kernel) (by decide +kernel), zIn 212 (by decide +kernel) (by decide +kernel), rfl, by decide +kernel, by decide +kernel, by decide +kernel⟩
theorem df_1 : ∀ j, j < 4 → defaultValue (tyX1 j) = vp_V [.null, .null, .null, .int 0] j := by decide +kernel
theorem kc2 : Cond.instantiable RX2 6 ∈ WS ∧ Cond.initialized RX2 ∈ WS := ⟨zIn 88 (by decide +kernel) (by decide +kernel), zIn 5 (by decide +kernel) (by decide +kernel)⟩
theorem mi_2 : yMi yX2_init cX2_init 1 := ⟨zIn 91 (by decide +kernel) (by decide +kernel), zIn 5 (by decide +kernel) (by decide +kernel), zIn 90 (by decide +kernel) (by decide +kernel), rfl, by decide +kernel, by decide +kernel, by decide +kernel⟩
theorem df_2 : ∀ j, j < 6 → defaultValue (tyX2 j) = vp_V [.null, .null, .null, .null, .int 0, .int 0] j := by decide +kernel
theorem kc3 : Cond.instantiable RX3 4 ∈ WS ∧ Cond.initialized RX3 ∈ WS := ⟨zIn 177 (by decide +kernel) (by decide +kernel), zIn 10 (by decide +kernel) (by decide +kernel)⟩
theorem mi_3 : yMi yX3_init cX3_init 1 := ⟨zIn 180 (by decide +kernel) (by decide +kernel), zIn 10 (by decide +kernel) (by decide +kernel), zIn 179 (by decide +kernel) (by decide +kernel), rfl, by decide +kernel, by decide +kernel, by decide +kernel⟩
theorem df_3 : ∀ j, j < 4 → defaultValue (tyX3 j) = vp_V [.null, .null, .int 0, .int 0] j := by decide +kernel
theorem kc4 : Cond.instantiable RX4 2 ∈ WS ∧ Cond.initialized RX4 ∈ WS := ⟨zIn 148 (by decide +kernel) (by decide +kernel), zIn 8 (by decide +kernel) (by decide +kernel)⟩
theorem mi_4 : yMi yX4_init cX4_init 1 := ⟨zIn 151 (by decide +kernel) (by decide +kernel), zIn 8 (by decide +kernel) (by decide +kernel), zIn 150 (by decide +kernel) (by decide +kernel), rfl, by decide +kernel, by decide +kernel, by decide +kernel⟩
theorem df_4 : ∀ j, j < 2 → defaultValue (tyX4 j) = vp_V [.null, .int 0] j := by decide +kernel
theorem kc5 : Cond.instantiable RX5 5 ∈ WS ∧ Cond.initialized RX5 ∈ WS := ⟨zIn 94 (by decide +kernel) (by decide +kernel), zIn 6 (by decide +kernel) (by decide +kernel)⟩
theorem mi_5 : yMi yX5_init cX5_init 1 := ⟨zIn 97 (by decide +kernel) (by decide +kernel), zIn 6 (by decide +kernel) (by decide +kernel), zIn 96 (by decide +kernel) (by decide +kernel), rfl, by decide +kernel, by decide +kernel, by decide +kernel⟩
theorem df_5 : ∀ j, j < 5 → defaultValue (tyX5 j) = vp_V [.null, .null, .null, .int 0, .int 0] j := by decide +kernel
theorem kc6 : Cond.instantiable RX6 3 ∈ WS ∧ Cond.initialized RX6 ∈ WS := ⟨zIn 161 (by decide +kernel) (by decide +kernel), zIn 9 (by decide +kernel) (by decide +kernel)⟩
theorem mi_6 : yMi yX6_init cX6_init 1 := ⟨zIn 164 (by decide +kernel) (by decide +kernel), zIn 9 (by decide +kernel) (by decide +kernel), zIn 163 (by decide +kernel) (by decide +kernel), rfl, by decide +kernel, by decide +kernel, by decide +kernel⟩
theorem df_6 : ∀ j, j < 3 → defaultValue (tyX6 j) = vp_V [.null, .int 0, .int 0] j := by decide +kernel
theorem kc7 : Cond.instantiable RX7 10 ∈ WS ∧ Cond.initialized RX7 ∈ WS := ⟨zIn 51 (by decide +kernel) (by decide +kernel), zIn 4 (by decide +kernel) (by decide +kernel)⟩
theorem mi_7 : yMi yX7_init cX7_init 1 := ⟨zIn 54 (by decide +kernel) (by decide +kernel), zIn 4 (by decide +kernel) (by decide +kernel), zIn 53 (by decide +kernel) (by decide +kernel), rfl, by decide +kernel, by decide +kernel, by decide +kernel⟩
theorem df_7 : ∀ j, j < 10 → defaultValue (tyX7 j) = vp_V [.null, .null, .null, .null, .int 0, .null, .null, .null, .null, .int 0] j := by decide +kernel
theorem kc8 : Cond.instantiable RX8 2 ∈ WS ∧ Cond.initialized RX8 ∈ WS := ⟨zIn 135 (by decide +kernel) (by decide +kernel), zIn 7 (by decide +kernel) (by decide +kernel)⟩
theorem mi_8 : yMi yX8_init cX8_init 1 := ⟨zIn 138 (by decide +kernel) (by decide +kernel), zIn 7 (by decide +kernel) (by decide +kernel), zIn 137 (by decide +kernel) (by decide +kernel), rfl, by decide +kernel, by decide +kernel, by decide +kernel⟩
theorem df_8 : ∀ j, j < 2 → defaultValue (tyX8 j) = vp_V [.null, .int 0] j := by decide +kernel
theorem kc9 : Cond.instantiable RX9 2 ∈ WS ∧ Cond.initialized RX9 ∈ WS := ⟨zIn 37 (by decide +kernel) (by decide +kernel), zIn 3 (by decide +kernel) (by decide +kernel)⟩
theorem mi_9 : yMi yX9_init cX9_init 1 := ⟨zIn 40 (by decide +kernel) (by decide +kernel), zIn 3 (by decide +kernel) (by decide +kernel), zIn 39 (by decide +kernel) (by decide +kernel), rfl, by decide +kernel, by decide +kernel, by decide +kernel⟩
theorem df_9 : ∀ j, j < 2 → defaultValue (tyX9 j) = vp_V [.null, .null] j := by decide +kernel
theorem kc10 : Cond.instantiable RX10 2 ∈ WS ∧ Cond.initialized RX10 ∈ WS := ⟨zIn 23 (by decide +kernel) (by decide +kernel), zIn 2 (by decide +kernel) (by decide +kernel)⟩
theorem mi_10 : yMi yX10_init cX10_init 1 := ⟨zIn 26 (by decide +kernel) (by decide +kernel), zIn 2 (by decide +kernel) (by decide +kernel), zIn 25 (by decide +kernel) (by decide +kernel), rfl, by decide +kernel, by decide +kernel, by decide +kernel⟩
theorem df_10 : ∀ j, j < 2 → defaultValue (tyX10 j) = vp_V [.null, .int 0] j := by decide +kernel
theorem kc11 : Cond.instantiable RX11 14 ∈ WS ∧ Cond.initialized RX11 ∈ WS := ⟨zIn 15 (by decide +kernel) (by decide +kernel), zIn 1 (by decide +kernel) (by decide +kernel)⟩
theorem mi_11 : yMi yX11_init cX11_init 1 := ⟨zIn 18 (by decide +kernel) (by decide +kernel), zIn 1 (by decide +kernel) (by decide +kernel), zIn 17 (by decide +kernel) (by decide +kernel), rfl, by decide +kernel, by decide +kernel, by decide +kernel⟩
theorem df_11 : ∀ j, j < 14 → defaultValue (tyX11 j) = vp_V [.null, .null, .null, .null, .null, .null, .null, .null, .null, .null, .null, .null, .null, .null] j := by decide +kernel
set_option maxHeartbeats 4000000 in
set_option maxRecDepth 100000 in
theorem c_X10_init (l : Launch) (G : ZG) (pre : va_W) (h0 : Nat) : yCt l yX10_init cX10_init 1 1 1 21 G h0 (pre ++ [(h0, .inr (10, [.null, .int 0]))]) (fun W1 => ∃ (q1 : Nat), W1 = pre ++ [(h0, .inr (10, [.ref q1, .int 0])), (q1, .inl (G.2.1 0, 21, .inl (fun _ => 0)))]) := by
  refine yCt.mk (by decide +kernel) rfl (Nat.le_of_ble_eq_true rfl) ?_
  intro p e s m args below meth c A H locs ls S hr hlk hin hw hl
  have S : CallFix p m c cX10_init 1 s args WS RX10 := S
  have hl : lv_has ls 1 [(0, .ref h0)] := hl
  refine lv_aload_n S.1 S.2.1 dX10_init_0 rfl (lv_at hl 0 rfl) ?_
  refine y_obj S ki_X10_3 hl.1 dX10_init_1 ⟨Nat.le_of_ble_eq_true rfl, Nat.le_of_ble_eq_true rfl⟩ ?_
  refine lv_aload_n S.1 S.2.1 dX10_init_4 rfl (lv_at hl 0 rfl) ?_
  refine lv_bipush (v := 21) S.1 S.2.1 dX10_init_5 (by decide) ?_
  refine y_newI (N := 21) S hw (by decide) (by decide) (by decide) ⟨Nat.le_of_ble_eq_true rfl, Nat.le_of_ble_eq_true rfl⟩ dX10_init_7 (fun q1 H hw => ?_)
  have hw : yWd G A s H locs (pre ++ (h0, .inr (10, [.null, .int 0])) :: [(q1, .inl (G.2.1 0, 21, .inl (fun _ => 0)))]) := hw
  refine y_putF (q := q1) (k := 0) S hw rfl inW10 tyX10_ok nmX10 (by decide) (zIn 28 (by decide +kernel) (by decide +kernel)) rfl hin rfl ⟨rfl, rfl⟩ (Nat.le_of_ble_eq_true rfl) dX10_init_9 (fun H locs hw => ?_)
  have hw : yWd G A s H locs (pre ++ [(h0, .inr (10, [.ref q1, .int 0])), (q1, .inl (G.2.1 0, 21, .inl (fun _ => 0)))]) := hw
  refine W.widen (k := 1) (n := 21) (Nat.le_of_ble_eq_true rfl) (Nat.le_of_ble_eq_true rfl) ?_
  exact y_ret S hr hlk hw ⟨q1, rfl⟩ dX10_init_12
set_option maxHeartbeats 4000000 in
set_option maxRecDepth 100000 in
theorem c_X9_init (l : Launch) (G : ZG) (pre : va_W) (h0 : Nat) : yCt l yX9_init cX9_init 1 1 2 968 G h0 (pre ++ [(h0, .inr (9, [.null, .null]))]) (fun W1 => ∃ (q1 q2 : Nat), W1 = pre ++ [(h0, .inr (9, [.ref q1, .ref q2])), (q1, .inl (G.2.1 1, 484, .inr (.inl (fun _ => 0)))), (q2, .inl (G.2.1 1, 484, .inr (.inl (fun _ => 0))))]) := by
  refine yCt.mk (by decide +kernel) rfl (Nat.le_of_ble_eq_true rfl) ?_
  intro p e s m args below meth c A H locs ls S hr hlk hin hw hl
  have S : CallFix p m c cX9_init 1 s args WS RX9 := S
  have hl : lv_has ls 1 [(0, .ref h0)] := hl
  refine lv_aload_n S.1 S.2.1 dX9_init_0 rfl (lv_at hl 0 rfl) ?_
  refine y_obj S ki_X9_3 hl.1 dX9_init_1 ⟨Nat.le_of_ble_eq_true rfl, Nat.le_of_ble_eq_true rfl⟩ ?_
  refine lv_aload_n S.1 S.2.1 dX9_init_4 rfl (lv_at hl 0 rfl) ?_
  refine lv_sipush (v := 484) S.1 S.2.1 dX9_init_5 (by decide) ?_
  refine y_newJ (N := 484) S hw (by decide) (by decide) (by decide) ⟨Nat.le_of_ble_eq_true rfl, Nat.le_of_ble_eq_true rfl⟩ dX9_init_8 (fun q1 H hw => ?_)
  have hw : yWd G A s H locs (pre ++ (h0, .inr (9, [.null, .null])) :: [(q1, .inl (G.2.1 1, 484, .inr (.inl (fun _ => 0))))]) := hw
  refine y_putF (q := q1) (k := 0) S hw rfl inW9 tyX9_ok nmX9 (by decide) (zIn 42 (by decide +kernel) (by decide +kernel)) rfl hin rfl ⟨rfl, rfl⟩ (Nat.le_of_ble_eq_true rfl) dX9_init_10 (fun H locs hw => ?_)
  have hw : yWd G A s H locs (pre ++ [(h0, .inr (9, [.ref q1, .null])), (q1, .inl (G.2.1 1, 484, .inr (.inl (fun _ => 0))))]) := hw
  refine lv_aload_n S.1 S.2.1 dX9_init_13 rfl (lv_at hl 0 rfl) ?_
  refine lv_sipush (v := 484) S.1 S.2.1 dX9_init_14 (by decide) ?_
  refine y_newJ (N := 484) S hw (by decide) (by decide) (by decide) ⟨Nat.le_of_ble_eq_true rfl, Nat.le_of_ble_eq_true rfl⟩ dX9_init_17 (fun q2 H hw => ?_)
  have hw : yWd G A s H locs (pre ++ (h0, .inr (9, [.ref q1, .null])) :: [(q1, .inl (G.2.1 1, 484, .inr (.inl (fun _ => 0)))), (q2, .inl (G.2.1 1, 484, .inr (.inl (fun _ => 0))))]) := hw
  refine y_putF (q := q2) (k := 1) S hw rfl inW9 tyX9_ok nmX9 (by decide) (zIn 43 (by decide +kernel) (by decide +kernel)) rfl hin rfl ⟨rfl, rfl⟩ (Nat.le_of_ble_eq_true rfl) dX9_init_19 (fun H locs hw => ?_)
  have hw : yWd G A s H locs (pre ++ [(h0, .inr (9, [.ref q1, .ref q2])), (q1, .inl (G.2.1 1, 484, .inr (.inl (fun _ => 0)))), (q2, .inl (G.2.1 1, 484, .inr (.inl (fun _ => 0))))]) := hw
  refine W.widen (k := 2) (n := 968) (Nat.le_of_ble_eq_true rfl) (Nat.le_of_ble_eq_true rfl) ?_
  exact y_ret S hr hlk hw ⟨q1, q2, rfl⟩ dX9_init_22
set_option maxHeartbeats 4000000 in
set_option maxRecDepth 100000 in
theorem c_X7_init (l : Launch) (G : ZG) (pre : va_W) (h0 : Nat) : yCt l yX7_init cX7_init 1 1 8 168 G h0 (pre ++ [(h0, .inr (7, [.null, .null, .null, .null, .int 0, .null, .null, .null, .null, .int 0]))]) (fun W1 => ∃ (q1 q2 q3 q4 q5 q6 q7 q8 : Nat), W1 = pre ++ [(h0, .inr (7, [.ref q1, .ref q2, .ref q3, .ref q4, .int 0, .ref q5, .ref q6, .ref q7, .ref q8, .int 0])), (q1, .inl (G.2.1 0, 21, .inl (fun _ => 0))), (q2, .inl (G.2.1 0, 21, .inl (fun _ => 0))), (q3, .inl (G.2.1 0, 21, .inl (fun _ => 0))), (q4, .inl (G.2.1 0, 21, .inl (fun _ => 0))), (q5, .inl (G.2.1 0, 21, .inl (fun _ => 0))), (q6, .inl (G.2.1 0, 21, .inl (fun _ => 0))), (q7, .inl (G.2.1 1, 21, .inr (.inl (fun _ => 0)))), (q8, .inl (G.2.1 0, 21, .inl (fun _ => 0)))]) := by
  refine yCt.mk (by decide +kernel) rfl (Nat.le_of_ble_eq_true rfl) ?_
  intro p e s m args below meth c A H locs ls S hr hlk hin hw hl
  have S : CallFix p m c cX7_init 1 s args WS RX7 := S
  have hl : lv_has ls 1 [(0, .ref h0)] := hl
  refine lv_aload_n S.1 S.2.1 dX7_init_0 rfl (lv_at hl 0 rfl) ?_
  refine y_obj S ki_X7_3 hl.1 dX7_init_1 ⟨Nat.le_of_ble_eq_true rfl, Nat.le_of_ble_eq_true rfl⟩ ?_
  refine lv_aload_n S.1 S.2.1 dX7_init_4 rfl (lv_at hl 0 rfl) ?_
  refine lv_bipush (v := 21) S.1 S.2.1 dX7_init_5 (by decide) ?_
  refine y_newI (N := 21) S hw (by decide) (by decide) (by decide) ⟨Nat.le_of_ble_eq_true rfl, Nat.le_of_ble_eq_true rfl⟩ dX7_init_7 (fun q1 H hw => ?_)
  have hw : yWd G A s H locs (pre ++ (h0, .inr (7, [.null, .null, .null, .null, .int 0, .null, .null, .null, .null, .int 0])) :: [(q1, .inl (G.2.1 0, 21, .inl (fun _ => 0)))]) := hw
  refine y_putF (q := q1) (k := 0) S hw rfl inW7 tyX7_ok nmX7 (by decide) (zIn 56 (by decide +kernel) (by decide +kernel)) rfl hin rfl ⟨rfl, rfl⟩ (Nat.le_of_ble_eq_true rfl) dX7_init_9 (fun H locs hw => ?_)
  have hw : yWd G A s H locs (pre ++ [(h0, .inr (7, [.ref q1, .null, .null, .null, .int 0, .null, .null, .null, .null, .int 0])), (q1, .inl (G.2.1 0, 21, .inl (fun _ => 0)))]) := hw
  refine lv_aload_n S.1 S.2.1 dX7_init_12 rfl (lv_at hl 0 rfl) ?_
  refine lv_bipush (v := 21) S.1 S.2.1 dX7_init_13 (by decide) ?_
  refine y_newI (N := 21) S hw (by decide) (by decide) (by decide) ⟨Nat.le_of_ble_eq_true rfl, Nat.le_of_ble_eq_true rfl⟩ dX7_init_15 (fun q2 H hw => ?_)
  have hw : yWd G A s H locs (pre ++ (h0, .inr (7, [.ref q1, .null, .null, .null, .int 0, .null, .null, .null, .null, .int 0])) :: [(q1, .inl (G.2.1 0, 21, .inl (fun _ => 0))), (q2, .inl (G.2.1 0, 21, .inl (fun _ => 0)))]) := hw
  refine y_putF (q := q2) (k := 1) S hw rfl inW7 tyX7_ok nmX7 (by decide) (zIn 57 (by decide +kernel) (by decide +kernel)) rfl hin rfl ⟨rfl, rfl⟩ (Nat.le_of_ble_eq_true rfl) dX7_init_17 (fun H locs hw => ?_)
  have hw : yWd G A s H locs (pre ++ [(h0, .inr (7, [.ref q1, .ref q2, .null, .null, .int 0, .null, .null, .null, .null, .int 0])), (q1, .inl (G.2.1 0, 21, .inl (fun _ => 0))), (q2, .inl (G.2.1 0, 21, .inl (fun _ => 0)))]) := hw
  refine lv_aload_n S.1 S.2.1 dX7_init_20 rfl (lv_at hl 0 rfl) ?_
  refine lv_bipush (v := 21) S.1 S.2.1 dX7_init_21 (by decide) ?_
  refine y_newI (N := 21) S hw (by decide) (by decide) (by decide) ⟨Nat.le_of_ble_eq_true rfl, Nat.le_of_ble_eq_true rfl⟩ dX7_init_23 (fun q3 H hw => ?_)
  have hw : yWd G A s H locs (pre ++ (h0, .inr (7, [.ref q1, .ref q2, .null, .null, .int 0, .null, .null, .null, .null, .int 0])) :: [(q1, .inl (G.2.1 0, 21, .inl (fun _ => 0))), (q2, .inl (G.2.1 0, 21, .inl (fun _ => 0))), (q3, .inl (G.2.1 0, 21, .inl (fun _ => 0)))]) := hw
  refine y_putF (q := q3) (k := 2) S hw rfl inW7 tyX7_ok nmX7 (by decide) (zIn 58 (by decide +kernel) (by decide +kernel)) rfl hin rfl ⟨rfl, rfl⟩ (Nat.le_of_ble_eq_true rfl) dX7_init_25 (fun H locs hw => ?_)
  have hw : yWd G A s H locs (pre ++ [(h0, .inr (7, [.ref q1, .ref q2, .ref q3, .null, .int 0, .null, .null, .null, .null, .int 0])), (q1, .inl (G.2.1 0, 21, .inl (fun _ => 0))), (q2, .inl (G.2.1 0, 21, .inl (fun _ => 0))), (q3, .inl (G.2.1 0, 21, .inl (fun _ => 0)))]) := hw
  refine lv_aload_n S.1 S.2.1 dX7_init_28 rfl (lv_at hl 0 rfl) ?_
  refine lv_bipush (v := 21) S.1 S.2.1 dX7_init_29 (by decide) ?_
  refine y_newI (N := 21) S hw (by decide) (by decide) (by decide) ⟨Nat.le_of_ble_eq_true rfl, Nat.le_of_ble_eq_true rfl⟩ dX7_init_31 (fun q4 H hw => ?_)
  have hw : yWd G A s H locs (pre ++ (h0, .inr (7, [.ref q1, .ref q2, .ref q3, .null, .int 0, .null, .null, .null, .null, .int 0])) :: [(q1, .inl (G.2.1 0, 21, .inl (fun _ => 0))), (q2, .inl (G.2.1 0, 21, .inl (fun _ => 0))), (q3, .inl (G.2.1 0, 21, .inl (fun _ => 0))), (q4, .inl (G.2.1 0, 21, .inl (fun _ => 0)))]) := hw
  refine y_putF (q := q4) (k := 3) S hw rfl inW7 tyX7_ok nmX7 (by decide) (zIn 59 (by decide +kernel) (by decide +kernel)) rfl hin rfl ⟨rfl, rfl⟩ (Nat.le_of_ble_eq_true rfl) dX7_init_33 (fun H locs hw => ?_)
  have hw : yWd G A s H locs (pre ++ [(h0, .inr (7, [.ref q1, .ref q2, .ref q3, .ref q4, .int 0, .null, .null, .null, .null, .int 0])), (q1, .inl (G.2.1 0, 21, .inl (fun _ => 0))), (q2, .inl (G.2.1 0, 21, .inl (fun _ => 0))), (q3, .inl (G.2.1 0, 21, .inl (fun _ => 0))), (q4, .inl (G.2.1 0, 21, .inl (fun _ => 0)))]) := hw
  refine lv_aload_n S.1 S.2.1 dX7_init_36 rfl (lv_at hl 0 rfl) ?_
  refine lv_bipush (v := 21) S.1 S.2.1 dX7_init_37 (by decide) ?_
  refine y_newI (N := 21) S hw (by decide) (by decide) (by decide) ⟨Nat.le_of_ble_eq_true rfl, Nat.le_of_ble_eq_true rfl⟩ dX7_init_39 (fun q5 H hw => ?_)
  have hw : yWd G A s H locs (pre ++ (h0, .inr (7, [.ref q1, .ref q2, .ref q3, .ref q4, .int 0, .null, .null, .null, .null, .int 0])) :: [(q1, .inl (G.2.1 0, 21, .inl (fun _ => 0))), (q2, .inl (G.2.1 0, 21, .inl (fun _ => 0))), (q3, .inl (G.2.1 0, 21, .inl (fun _ => 0))), (q4, .inl (G.2.1 0, 21, .inl (fun _ => 0))), (q5, .inl (G.2.1 0, 21, .inl (fun _ => 0)))]) := hw
  refine y_putF (q := q5) (k := 5) S hw rfl inW7 tyX7_ok nmX7 (by decide) (zIn 61 (by decide +kernel) (by decide +kernel)) rfl hin rfl ⟨rfl, rfl⟩ (Nat.le_of_ble_eq_true rfl) dX7_init_41 (fun H locs hw => ?_)
  have hw : yWd G A s H locs (pre ++ [(h0, .inr (7, [.ref q1, .ref q2, .ref q3, .ref q4, .int 0, .ref q5, .null, .null, .null, .int 0])), (q1, .inl (G.2.1 0, 21, .inl (fun _ => 0))), (q2, .inl (G.2.1 0, 21, .inl (fun _ => 0))), (q3, .inl (G.2.1 0, 21, .inl (fun _ => 0))), (q4, .inl (G.2.1 0, 21, .inl (fun _ => 0))), (q5, .inl (G.2.1 0, 21, .inl (fun _ => 0)))]) := hw
  refine lv_aload_n S.1 S.2.1 dX7_init_44 rfl (lv_at hl 0 rfl) ?_
  refine lv_bipush (v := 21) S.1 S.2.1 dX7_init_45 (by decide) ?_
  refine y_newI (N := 21) S hw (by decide) (by decide) (by decide) ⟨Nat.le_of_ble_eq_true rfl, Nat.le_of_ble_eq_true rfl⟩ dX7_init_47 (fun q6 H hw => ?_)
  have hw : yWd G A s H locs (pre ++ (h0, .inr (7, [.ref q1, .ref q2, .ref q3, .ref q4, .int 0, .ref q5, .null, .null, .null, .int 0])) :: [(q1, .inl (G.2.1 0, 21, .inl (fun _ => 0))), (q2, .inl (G.2.1 0, 21, .inl (fun _ => 0))), (q3, .inl (G.2.1 0, 21, .inl (fun _ => 0))), (q4, .inl (G.2.1 0, 21, .inl (fun _ => 0))), (q5, .inl (G.2.1 0, 21, .inl (fun _ => 0))), (q6, .inl (G.2.1 0, 21, .inl (fun _ => 0)))]) := hw
  refine y_putF (q := q6) (k := 6) S hw rfl inW7 tyX7_ok nmX7 (by decide) (zIn 62 (by decide +kernel) (by decide +kernel)) rfl hin rfl ⟨rfl, rfl⟩ (Nat.le_of_ble_eq_true rfl) dX7_init_49 (fun H locs hw => ?_)
  have hw : yWd G A s H locs (pre ++ [(h0, .inr (7, [.ref q1, .ref q2, .ref q3, .ref q4, .int 0, .ref q5, .ref q6, .null, .null, .int 0])), (q1, .inl (G.2.1 0, 21, .inl (fun _ => 0))), (q2, .inl (G.2.1 0, 21, .inl (fun _ => 0))), (q3, .inl (G.2.1 0, 21, .inl (fun _ => 0))), (q4, .inl (G.2.1 0, 21, .inl (fun _ => 0))), (q5, .inl (G.2.1 0, 21, .inl (fun _ => 0))), (q6, .inl (G.2.1 0, 21, .inl (fun _ => 0)))]) := hw
  refine lv_aload_n S.1 S.2.1 dX7_init_52 rfl (lv_at hl 0 rfl) ?_
  refine lv_bipush (v := 21) S.1 S.2.1 dX7_init_53 (by decide) ?_
  refine y_newJ (N := 21) S hw (by decide) (by decide) (by decide) ⟨Nat.le_of_ble_eq_true rfl, Nat.le_of_ble_eq_true rfl⟩ dX7_init_55 (fun q7 H hw => ?_)
  have hw : yWd G A s H locs (pre ++ (h0, .inr (7, [.ref q1, .ref q2, .ref q3, .ref q4, .int 0, .ref q5, .ref q6, .null, .null, .int 0])) :: [(q1, .inl (G.2.1 0, 21, .inl (fun _ => 0))), (q2, .inl (G.2.1 0, 21, .inl (fun _ => 0))), (q3, .inl (G.2.1 0, 21, .inl (fun _ => 0))), (q4, .inl (G.2.1 0, 21, .inl (fun _ => 0))), (q5, .inl (G.2.1 0, 21, .inl (fun _ => 0))), (q6, .inl (G.2.1 0, 21, .inl (fun _ => 0))), (q7, .inl (G.2.1 1, 21, .inr (.inl (fun _ => 0))))]) := hw
  refine y_putF (q := q7) (k := 7) S hw rfl inW7 tyX7_ok nmX7 (by decide) (zIn 63 (by decide +kernel) (by decide +kernel)) rfl hin rfl ⟨rfl, rfl⟩ (Nat.le_of_ble_eq_true rfl) dX7_init_57 (fun H locs hw => ?_)
  have hw : yWd G A s H locs (pre ++ [(h0, .inr (7, [.ref q1, .ref q2, .ref q3, .ref q4, .int 0, .ref q5, .ref q6, .ref q7, .null, .int 0])), (q1, .inl (G.2.1 0, 21, .inl (fun _ => 0))), (q2, .inl (G.2.1 0, 21, .inl (fun _ => 0))), (q3, .inl (G.2.1 0, 21, .inl (fun _ => 0))), (q4, .inl (G.2.1 0, 21, .inl (fun _ => 0))), (q5, .inl (G.2.1 0, 21, .inl (fun _ => 0))), (q6, .inl (G.2.1 0, 21, .inl (fun _ => 0))), (q7, .inl (G.2.1 1, 21, .inr (.inl (fun _ => 0))))]) := hw
  refine lv_aload_n S.1 S.2.1 dX7_init_60 rfl (lv_at hl 0 rfl) ?_
  refine lv_bipush (v := 21) S.1 S.2.1 dX7_init_61 (by decide) ?_
  refine y_newI (N := 21) S hw (by decide) (by decide) (by decide) ⟨Nat.le_of_ble_eq_true rfl, Nat.le_of_ble_eq_true rfl⟩ dX7_init_63 (fun q8 H hw => ?_)
  have hw : yWd G A s H locs (pre ++ (h0, .inr (7, [.ref q1, .ref q2, .ref q3, .ref q4, .int 0, .ref q5, .ref q6, .ref q7, .null, .int 0])) :: [(q1, .inl (G.2.1 0, 21, .inl (fun _ => 0))), (q2, .inl (G.2.1 0, 21, .inl (fun _ => 0))), (q3, .inl (G.2.1 0, 21, .inl (fun _ => 0))), (q4, .inl (G.2.1 0, 21, .inl (fun _ => 0))), (q5, .inl (G.2.1 0, 21, .inl (fun _ => 0))), (q6, .inl (G.2.1 0, 21, .inl (fun _ => 0))), (q7, .inl (G.2.1 1, 21, .inr (.inl (fun _ => 0)))), (q8, .inl (G.2.1 0, 21, .inl (fun _ => 0)))]) := hw
  refine y_putF (q := q8) (k := 8) S hw rfl inW7 tyX7_ok nmX7 (by decide) (zIn 64 (by decide +kernel) (by decide +kernel)) rfl hin rfl ⟨rfl, rfl⟩ (Nat.le_of_ble_eq_true rfl) dX7_init_65 (fun H locs hw => ?_)
  have hw : yWd G A s H locs (pre ++ [(h0, .inr (7, [.ref q1, .ref q2, .ref q3, .ref q4, .int 0, .ref q5, .ref q6, .ref q7, .ref q8, .int 0])), (q1, .inl (G.2.1 0, 21, .inl (fun _ => 0))), (q2, .inl (G.2.1 0, 21, .inl (fun _ => 0))), (q3, .inl (G.2.1 0, 21, .inl (fun _ => 0))), (q4, .inl (G.2.1 0, 21, .inl (fun _ => 0))), (q5, .inl (G.2.1 0, 21, .inl (fun _ => 0))), (q6, .inl (G.2.1 0, 21, .inl (fun _ => 0))), (q7, .inl (G.2.1 1, 21, .inr (.inl (fun _ => 0)))), (q8, .inl (G.2.1 0, 21, .inl (fun _ => 0)))]) := hw
  refine W.widen (k := 8) (n := 168) (Nat.le_of_ble_eq_true rfl) (Nat.le_of_ble_eq_true rfl) ?_
  exact y_ret S hr hlk hw ⟨q1, q2, q3, q4, q5, q6, q7, q8, rfl⟩ dX7_init_68
set_option maxHeartbeats 4000000 in
set_option maxRecDepth 100000 in
theorem c_X5_init (l : Launch) (G : ZG) (pre : va_W) (h0 : Nat) : yCt l yX5_init cX5_init 1 1 3 63 G h0 (pre ++ [(h0, .inr (5, [.null, .null, .null, .int 0, .int 0]))]) (fun W1 => ∃ (q1 q2 q3 : Nat), W1 = pre ++ [(h0, .inr (5, [.ref q1, .ref q2, .ref q3, .int 0, .int 0])), (q1, .inl (G.2.1 1, 21, .inr (.inl (fun _ => 0)))), (q2, .inl (G.2.1 1, 21, .inr (.inl (fun _ => 0)))), (q3, .inl (G.2.1 0, 21, .inl (fun _ => 0)))]) := by
  refine yCt.mk (by decide +kernel) rfl (Nat.le_of_ble_eq_true rfl) ?_
  intro p e s m args below meth c A H locs ls S hr hlk hin hw hl
  have S : CallFix p m c cX5_init 1 s args WS RX5 := S
  have hl : lv_has ls 1 [(0, .ref h0)] := hl
  refine lv_aload_n S.1 S.2.1 dX5_init_0 rfl (lv_at hl 0 rfl) ?_
  refine y_obj S ki_X5_3 hl.1 dX5_init_1 ⟨Nat.le_of_ble_eq_true rfl, Nat.le_of_ble_eq_true rfl⟩ ?_
  refine lv_aload_n S.1 S.2.1 dX5_init_4 rfl (lv_at hl 0 rfl) ?_
  refine lv_bipush (v := 21) S.1 S.2.1 dX5_init_5 (by decide) ?_
  refine y_newJ (N := 21) S hw (by decide) (by decide) (by decide) ⟨Nat.le_of_ble_eq_true rfl, Nat.le_of_ble_eq_true rfl⟩ dX5_init_7 (fun q1 H hw => ?_)
  have hw : yWd G A s H locs (pre ++ (h0, .inr (5, [.null, .null, .null, .int 0, .int 0])) :: [(q1, .inl (G.2.1 1, 21, .inr (.inl (fun _ => 0))))]) := hw
  refine y_putF (q := q1) (k := 0) S hw rfl inW5 tyX5_ok nmX5 (by decide) (zIn 99 (by decide +kernel) (by decide +kernel)) rfl hin rfl ⟨rfl, rfl⟩ (Nat.le_of_ble_eq_true rfl) dX5_init_9 (fun H locs hw => ?_)
  have hw : yWd G A s H locs (pre ++ [(h0, .inr (5, [.ref q1, .null, .null, .int 0, .int 0])), (q1, .inl (G.2.1 1, 21, .inr (.inl (fun _ => 0))))]) := hw
  refine lv_aload_n S.1 S.2.1 dX5_init_12 rfl (lv_at hl 0 rfl) ?_
  refine lv_bipush (v := 21) S.1 S.2.1 dX5_init_13 (by decide) ?_
  refine y_newJ (N := 21) S hw (by decide) (by decide) (by decide) ⟨Nat.le_of_ble_eq_true rfl, Nat.le_of_ble_eq_true rfl⟩ dX5_init_15 (fun q2 H hw => ?_)
  have hw : yWd G A s H locs (pre ++ (h0, .inr (5, [.ref q1, .null, .null, .int 0, .int 0])) :: [(q1, .inl (G.2.1 1, 21, .inr (.inl (fun _ => 0)))), (q2, .inl (G.2.1 1, 21, .inr (.inl (fun _ => 0))))]) := hw
  refine y_putF (q := q2) (k := 1) S hw rfl inW5 tyX5_ok nmX5 (by decide) (zIn 100 (by decide +kernel) (by decide +kernel)) rfl hin rfl ⟨rfl, rfl⟩ (Nat.le_of_ble_eq_true rfl) dX5_init_17 (fun H locs hw => ?_)
  have hw : yWd G A s H locs (pre ++ [(h0, .inr (5, [.ref q1, .ref q2, .null, .int 0, .int 0])), (q1, .inl (G.2.1 1, 21, .inr (.inl (fun _ => 0)))), (q2, .inl (G.2.1 1, 21, .inr (.inl (fun _ => 0))))]) := hw
  refine lv_aload_n S.1 S.2.1 dX5_init_20 rfl (lv_at hl 0 rfl) ?_
  refine lv_bipush (v := 21) S.1 S.2.1 dX5_init_21 (by decide) ?_
  refine y_newI (N := 21) S hw (by decide) (by decide) (by decide) ⟨Nat.le_of_ble_eq_true rfl, Nat.le_of_ble_eq_true rfl⟩ dX5_init_23 (fun q3 H hw => ?_)
  have hw : yWd G A s H locs (pre ++ (h0, .inr (5, [.ref q1, .ref q2, .null, .int 0, .int 0])) :: [(q1, .inl (G.2.1 1, 21, .inr (.inl (fun _ => 0)))), (q2, .inl (G.2.1 1, 21, .inr (.inl (fun _ => 0)))), (q3, .inl (G.2.1 0, 21, .inl (fun _ => 0)))]) := hw
  refine y_putF (q := q3) (k := 2) S hw rfl inW5 tyX5_ok nmX5 (by decide) (zIn 101 (by decide +kernel) (by decide +kernel)) rfl hin rfl ⟨rfl, rfl⟩ (Nat.le_of_ble_eq_true rfl) dX5_init_25 (fun H locs hw => ?_)
  have hw : yWd G A s H locs (pre ++ [(h0, .inr (5, [.ref q1, .ref q2, .ref q3, .int 0, .int 0])), (q1, .inl (G.2.1 1, 21, .inr (.inl (fun _ => 0)))), (q2, .inl (G.2.1 1, 21, .inr (.inl (fun _ => 0)))), (q3, .inl (G.2.1 0, 21, .inl (fun _ => 0)))]) := hw
  refine W.widen (k := 3) (n := 63) (Nat.le_of_ble_eq_true rfl) (Nat.le_of_ble_eq_true rfl) ?_
  exact y_ret S hr hlk hw ⟨q1, q2, q3, rfl⟩ dX5_init_28
set_option maxHeartbeats 4000000 in
set_option maxRecDepth 100000 in
theorem c_X2_init (l : Launch) (G : ZG) (pre : va_W) (h0 : Nat) : yCt l yX2_init cX2_init 1 2 7 668 G h0 (pre ++ [(h0, .inr (2, [.null, .null, .null, .null, .int 0, .int 0]))]) (fun W1 => ∃ (q1 q2 q3 q4 q5 q6 q7 : Nat), W1 = pre ++ [(h0, .inr (2, [.ref q1, .ref q5, .ref q6, .ref q7, .int 0, .int 0])), (q1, .inr (5, [.ref q2, .ref q3, .ref q4, .int 0, .int 0])), (q2, .inl (G.2.1 1, 21, .inr (.inl (fun _ => 0)))), (q3, .inl (G.2.1 1, 21, .inr (.inl (fun _ => 0)))), (q4, .inl (G.2.1 0, 21, .inl (fun _ => 0))), (q5, .inl (G.2.1 1, 200, .inr (.inl (fun _ => 0)))), (q6, .inl (G.2.1 0, 200, .inl (fun _ => 0))), (q7, .inl (G.2.1 0, 200, .inl (fun _ => 0)))]) := by
  refine yCt.mk (by decide +kernel) rfl (Nat.le_of_ble_eq_true rfl) ?_
  intro p e s m args below meth c A H locs ls S hr hlk hin hw hl
  have S : CallFix p m c cX2_init 1 s args WS RX2 := S
  have hl : lv_has ls 1 [(0, .ref h0)] := hl
  refine lv_aload_n S.1 S.2.1 dX2_init_0 rfl (lv_at hl 0 rfl) ?_
  refine y_obj S ki_X2_3 hl.1 dX2_init_1 ⟨Nat.le_of_ble_eq_true rfl, Nat.le_of_ble_eq_true rfl⟩ ?_
  refine lv_aload_n S.1 S.2.1 dX2_init_4 rfl (lv_at hl 0 rfl) ?_
  refine y_new (fs := [.null, .null, .null, .int 0, .int 0]) S hw (ci := 5) rfl inW5 tyX5_ok kn_X2_9 kc5.1 kc5.2 df_5 ⟨Nat.le_of_ble_eq_true rfl, Nat.le_of_ble_eq_true rfl⟩ dX2_init_5 (fun q1 H hw => ?_)
  refine lv_dup S.1 S.2.1 dX2_init_8 rfl ?_
  have hw : yWd G A s H locs ((pre ++ [(h0, .inr (2, [.null, .null, .null, .null, .int 0, .int 0]))]) ++ [(q1, .inr (5, [.null, .null, .null, .int 0, .int 0]))]) := by rw [List.append_assoc]; exact hw
  refine y_call S hw (c_X5_init l G (pre ++ [(h0, .inr (2, [.null, .null, .null, .null, .int 0, .int 0]))]) q1) mi_5 ki_X2_11 (Nat.le_of_ble_eq_true rfl) ⟨Nat.le_of_ble_eq_true rfl, Nat.le_of_ble_eq_true rfl⟩ ⟨Nat.le_of_ble_eq_true rfl, Nat.le_of_ble_eq_true rfl⟩ hl.1 dX2_init_9 (fun W1 hp H locs hw => ?_)
  obtain ⟨q2, q3, q4, rfl⟩ := hp
  have hw : yWd G A s H locs (pre ++ [(h0, .inr (2, [.null, .null, .null, .null, .int 0, .int 0])), (q1, .inr (5, [.ref q2, .ref q3, .ref q4, .int 0, .int 0])), (q2, .inl (G.2.1 1, 21, .inr (.inl (fun _ => 0)))), (q3, .inl (G.2.1 1, 21, .inr (.inl (fun _ => 0)))), (q4, .inl (G.2.1 0, 21, .inl (fun _ => 0)))]) := by rw [List.append_assoc] at hw; exact hw
  have hw : yWd G A s H locs (pre ++ (h0, .inr (2, [.null, .null, .null, .null, .int 0, .int 0])) :: [(q1, .inr (5, [.ref q2, .ref q3, .ref q4, .int 0, .int 0])), (q2, .inl (G.2.1 1, 21, .inr (.inl (fun _ => 0)))), (q3, .inl (G.2.1 1, 21, .inr (.inl (fun _ => 0)))), (q4, .inl (G.2.1 0, 21, .inl (fun _ => 0)))]) := hw
  refine y_putF (q := q1) (k := 0) S hw rfl inW2 tyX2_ok nmX2 (by decide) (zIn 115 (by decide +kernel) (by decide +kernel)) rfl hin rfl ⟨rfl, rfl⟩ (Nat.le_of_ble_eq_true rfl) dX2_init_12 (fun H locs hw => ?_)
  have hw : yWd G A s H locs (pre ++ [(h0, .inr (2, [.ref q1, .null, .null, .null, .int 0, .int 0])), (q1, .inr (5, [.ref q2, .ref q3, .ref q4, .int 0, .int 0])), (q2, .inl (G.2.1 1, 21, .inr (.inl (fun _ => 0)))), (q3, .inl (G.2.1 1, 21, .inr (.inl (fun _ => 0)))), (q4, .inl (G.2.1 0, 21, .inl (fun _ => 0)))]) := hw
  refine lv_aload_n S.1 S.2.1 dX2_init_15 rfl (lv_at hl 0 rfl) ?_
  refine lv_sipush (v := 200) S.1 S.2.1 dX2_init_16 (by decide) ?_
  refine y_newJ (N := 200) S hw (by decide) (by decide) (by decide) ⟨Nat.le_of_ble_eq_true rfl, Nat.le_of_ble_eq_true rfl⟩ dX2_init_19 (fun q5 H hw => ?_)
  have hw : yWd G A s H locs (pre ++ (h0, .inr (2, [.ref q1, .null, .null, .null, .int 0, .int 0])) :: [(q1, .inr (5, [.ref q2, .ref q3, .ref q4, .int 0, .int 0])), (q2, .inl (G.2.1 1, 21, .inr (.inl (fun _ => 0)))), (q3, .inl (G.2.1 1, 21, .inr (.inl (fun _ => 0)))), (q4, .inl (G.2.1 0, 21, .inl (fun _ => 0))), (q5, .inl (G.2.1 1, 200, .inr (.inl (fun _ => 0))))]) := hw
  refine y_putF (q := q5) (k := 1) S hw rfl inW2 tyX2_ok nmX2 (by decide) (zIn 116 (by decide +kernel) (by decide +kernel)) rfl hin rfl ⟨rfl, rfl⟩ (Nat.le_of_ble_eq_true rfl) dX2_init_21 (fun H locs hw => ?_)
  have hw : yWd G A s H locs (pre ++ [(h0, .inr (2, [.ref q1, .ref q5, .null, .null, .int 0, .int 0])), (q1, .inr (5, [.ref q2, .ref q3, .ref q4, .int 0, .int 0])), (q2, .inl (G.2.1 1, 21, .inr (.inl (fun _ => 0)))), (q3, .inl (G.2.1 1, 21, .inr (.inl (fun _ => 0)))), (q4, .inl (G.2.1 0, 21, .inl (fun _ => 0))), (q5, .inl (G.2.1 1, 200, .inr (.inl (fun _ => 0))))]) := hw
  refine lv_aload_n S.1 S.2.1 dX2_init_24 rfl (lv_at hl 0 rfl) ?_
  refine lv_sipush (v := 200) S.1 S.2.1 dX2_init_25 (by decide) ?_
  refine y_newI (N := 200) S hw (by decide) (by decide) (by decide) ⟨Nat.le_of_ble_eq_true rfl, Nat.le_of_ble_eq_true rfl⟩ dX2_init_28 (fun q6 H hw => ?_)
  have hw : yWd G A s H locs (pre ++ (h0, .inr (2, [.ref q1, .ref q5, .null, .null, .int 0, .int 0])) :: [(q1, .inr (5, [.ref q2, .ref q3, .ref q4, .int 0, .int 0])), (q2, .inl (G.2.1 1, 21, .inr (.inl (fun _ => 0)))), (q3, .inl (G.2.1 1, 21, .inr (.inl (fun _ => 0)))), (q4, .inl (G.2.1 0, 21, .inl (fun _ => 0))), (q5, .inl (G.2.1 1, 200, .inr (.inl (fun _ => 0)))), (q6, .inl (G.2.1 0, 200, .inl (fun _ => 0)))]) := hw
  refine y_putF (q := q6) (k := 2) S hw rfl inW2 tyX2_ok nmX2 (by decide) (zIn 117 (by decide +kernel) (by decide +kernel)) rfl hin rfl ⟨rfl, rfl⟩ (Nat.le_of_ble_eq_true rfl) dX2_init_30 (fun H locs hw => ?_)
  have hw : yWd G A s H locs (pre ++ [(h0, .inr (2, [.ref q1, .ref q5, .ref q6, .null, .int 0, .int 0])), (q1, .inr (5, [.ref q2, .ref q3, .ref q4, .int 0, .int 0])), (q2, .inl (G.2.1 1, 21, .inr (.inl (fun _ => 0)))), (q3, .inl (G.2.1 1, 21, .inr (.inl (fun _ => 0)))), (q4, .inl (G.2.1 0, 21, .inl (fun _ => 0))), (q5, .inl (G.2.1 1, 200, .inr (.inl (fun _ => 0)))), (q6, .inl (G.2.1 0, 200, .inl (fun _ => 0)))]) := hw
  refine lv_aload_n S.1 S.2.1 dX2_init_33 rfl (lv_at hl 0 rfl) ?_
  refine lv_sipush (v := 200) S.1 S.2.1 dX2_init_34 (by decide) ?_
  refine y_newI (N := 200) S hw (by decide) (by decide) (by decide) ⟨Nat.le_of_ble_eq_true rfl, Nat.le_of_ble_eq_true rfl⟩ dX2_init_37 (fun q7 H hw => ?_)
  have hw : yWd G A s H locs (pre ++ (h0, .inr (2, [.ref q1, .ref q5, .ref q6, .null, .int 0, .int 0])) :: [(q1, .inr (5, [.ref q2, .ref q3, .ref q4, .int 0, .int 0])), (q2, .inl (G.2.1 1, 21, .inr (.inl (fun _ => 0)))), (q3, .inl (G.2.1 1, 21, .inr (.inl (fun _ => 0)))), (q4, .inl (G.2.1 0, 21, .inl (fun _ => 0))), (q5, .inl (G.2.1 1, 200, .inr (.inl (fun _ => 0)))), (q6, .inl (G.2.1 0, 200, .inl (fun _ => 0))), (q7, .inl (G.2.1 0, 200, .inl (fun _ => 0)))]) := hw
  refine y_putF (q := q7) (k := 3) S hw rfl inW2 tyX2_ok nmX2 (by decide) (zIn 118 (by decide +kernel) (by decide +kernel)) rfl hin rfl ⟨rfl, rfl⟩ (Nat.le_of_ble_eq_true rfl) dX2_init_39 (fun H locs hw => ?_)
  have hw : yWd G A s H locs (pre ++ [(h0, .inr (2, [.ref q1, .ref q5, .ref q6, .ref q7, .int 0, .int 0])), (q1, .inr (5, [.ref q2, .ref q3, .ref q4, .int 0, .int 0])), (q2, .inl (G.2.1 1, 21, .inr (.inl (fun _ => 0)))), (q3, .inl (G.2.1 1, 21, .inr (.inl (fun _ => 0)))), (q4, .inl (G.2.1 0, 21, .inl (fun _ => 0))), (q5, .inl (G.2.1 1, 200, .inr (.inl (fun _ => 0)))), (q6, .inl (G.2.1 0, 200, .inl (fun _ => 0))), (q7, .inl (G.2.1 0, 200, .inl (fun _ => 0)))]) := hw
  refine W.widen (k := 7) (n := 668) (Nat.le_of_ble_eq_true rfl) (Nat.le_of_ble_eq_true rfl) ?_
  exact y_ret S hr hlk hw ⟨q1, q2, q3, q4, q5, q6, q7, rfl⟩ dX2_init_42
set_option maxHeartbeats 4000000 in
set_option maxRecDepth 100000 in
theorem c_X8_init (l : Launch) (G : ZG) (pre : va_W) (h0 : Nat) : yCt l yX8_init cX8_init 1 1 1 200 G h0 (pre ++ [(h0, .inr (8, [.null, .int 0]))]) (fun W1 => ∃ (q1 : Nat), W1 = pre ++ [(h0, .inr (8, [.ref q1, .int 0])), (q1, .inl (G.2.1 1, 200, .inr (.inl (fun _ => 0))))]) := by
  refine yCt.mk (by decide +kernel) rfl (Nat.le_of_ble_eq_true rfl) ?_
  intro p e s m args below meth c A H locs ls S hr hlk hin hw hl
  have S : CallFix p m c cX8_init 1 s args WS RX8 := S
  have hl : lv_has ls 1 [(0, .ref h0)] := hl
  refine lv_aload_n S.1 S.2.1 dX8_init_0 rfl (lv_at hl 0 rfl) ?_
  refine y_obj S ki_X8_3 hl.1 dX8_init_1 ⟨Nat.le_of_ble_eq_true rfl, Nat.le_of_ble_eq_true rfl⟩ ?_
  refine lv_aload_n S.1 S.2.1 dX8_init_4 rfl (lv_at hl 0 rfl) ?_
  refine lv_sipush (v := 200) S.1 S.2.1 dX8_init_5 (by decide) ?_
  refine y_newJ (N := 200) S hw (by decide) (by decide) (by decide) ⟨Nat.le_of_ble_eq_true rfl, Nat.le_of_ble_eq_true rfl⟩ dX8_init_8 (fun q1 H hw => ?_)
  have hw : yWd G A s H locs (pre ++ (h0, .inr (8, [.null, .int 0])) :: [(q1, .inl (G.2.1 1, 200, .inr (.inl (fun _ => 0))))]) := hw
  refine y_putF (q := q1) (k := 0) S hw rfl inW8 tyX8_ok nmX8 (by decide) (zIn 140 (by decide +kernel) (by decide +kernel)) rfl hin rfl ⟨rfl, rfl⟩ (Nat.le_of_ble_eq_true rfl) dX8_init_10 (fun H locs hw => ?_)
  have hw : yWd G A s H locs (pre ++ [(h0, .inr (8, [.ref q1, .int 0])), (q1, .inl (G.2.1 1, 200, .inr (.inl (fun _ => 0))))]) := hw
  refine W.widen (k := 1) (n := 200) (Nat.le_of_ble_eq_true rfl) (Nat.le_of_ble_eq_true rfl) ?_
  exact y_ret S hr hlk hw ⟨q1, rfl⟩ dX8_init_13
set_option maxHeartbeats 4000000 in
set_option maxRecDepth 100000 in
theorem c_X4_init (l : Launch) (G : ZG) (pre : va_W) (h0 : Nat) : yCt l yX4_init cX4_init 1 1 1 6 G h0 (pre ++ [(h0, .inr (4, [.null, .int 0]))]) (fun W1 => ∃ (q1 : Nat), W1 = pre ++ [(h0, .inr (4, [.ref q1, .int 0])), (q1, .inl (G.2.1 0, 6, .inl (fun _ => 0)))]) := by
  refine yCt.mk (by decide +kernel) rfl (Nat.le_of_ble_eq_true rfl) ?_
  intro p e s m args below meth c A H locs ls S hr hlk hin hw hl
  have S : CallFix p m c cX4_init 1 s args WS RX4 := S
  have hl : lv_has ls 1 [(0, .ref h0)] := hl
  refine lv_aload_n S.1 S.2.1 dX4_init_0 rfl (lv_at hl 0 rfl) ?_
  refine y_obj S ki_X4_3 hl.1 dX4_init_1 ⟨Nat.le_of_ble_eq_true rfl, Nat.le_of_ble_eq_true rfl⟩ ?_
  refine lv_aload_n S.1 S.2.1 dX4_init_4 rfl (lv_at hl 0 rfl) ?_
  refine lv_bipush (v := 6) S.1 S.2.1 dX4_init_5 (by decide) ?_
  refine y_newI (N := 6) S hw (by decide) (by decide) (by decide) ⟨Nat.le_of_ble_eq_true rfl, Nat.le_of_ble_eq_true rfl⟩ dX4_init_7 (fun q1 H hw => ?_)
  have hw : yWd G A s H locs (pre ++ (h0, .inr (4, [.null, .int 0])) :: [(q1, .inl (G.2.1 0, 6, .inl (fun _ => 0)))]) := hw
  refine y_putF (q := q1) (k := 0) S hw rfl inW4 tyX4_ok nmX4 (by decide) (zIn 153 (by decide +kernel) (by decide +kernel)) rfl hin rfl ⟨rfl, rfl⟩ (Nat.le_of_ble_eq_true rfl) dX4_init_9 (fun H locs hw => ?_)
  have hw : yWd G A s H locs (pre ++ [(h0, .inr (4, [.ref q1, .int 0])), (q1, .inl (G.2.1 0, 6, .inl (fun _ => 0)))]) := hw
  refine W.widen (k := 1) (n := 6) (Nat.le_of_ble_eq_true rfl) (Nat.le_of_ble_eq_true rfl) ?_
  exact y_ret S hr hlk hw ⟨q1, rfl⟩ dX4_init_12
set_option maxHeartbeats 4000000 in
set_option maxRecDepth 100000 in
theorem c_X6_init (l : Launch) (G : ZG) (pre : va_W) (h0 : Nat) : yCt l yX6_init cX6_init 1 1 1 200 G h0 (pre ++ [(h0, .inr (6, [.null, .int 0, .int 0]))]) (fun W1 => ∃ (q1 : Nat), W1 = pre ++ [(h0, .inr (6, [.ref q1, .int 0, .int 0])), (q1, .inl (G.2.1 0, 200, .inl (fun _ => 0)))]) := by
  refine yCt.mk (by decide +kernel) rfl (Nat.le_of_ble_eq_true rfl) ?_
  intro p e s m args below meth c A H locs ls S hr hlk hin hw hl
  have S : CallFix p m c cX6_init 1 s args WS RX6 := S
  have hl : lv_has ls 1 [(0, .ref h0)] := hl
  refine lv_aload_n S.1 S.2.1 dX6_init_0 rfl (lv_at hl 0 rfl) ?_
  refine y_obj S ki_X6_3 hl.1 dX6_init_1 ⟨Nat.le_of_ble_eq_true rfl, Nat.le_of_ble_eq_true rfl⟩ ?_
  refine lv_aload_n S.1 S.2.1 dX6_init_4 rfl (lv_at hl 0 rfl) ?_
  refine lv_sipush (v := 200) S.1 S.2.1 dX6_init_5 (by decide) ?_
  refine y_newI (N := 200) S hw (by decide) (by decide) (by decide) ⟨Nat.le_of_ble_eq_true rfl, Nat.le_of_ble_eq_true rfl⟩ dX6_init_8 (fun q1 H hw => ?_)
  have hw : yWd G A s H locs (pre ++ (h0, .inr (6, [.null, .int 0, .int 0])) :: [(q1, .inl (G.2.1 0, 200, .inl (fun _ => 0)))]) := hw
  refine y_putF (q := q1) (k := 0) S hw rfl inW6 tyX6_ok nmX6 (by decide) (zIn 166 (by decide +kernel) (by decide +kernel)) rfl hin rfl ⟨rfl, rfl⟩ (Nat.le_of_ble_eq_true rfl) dX6_init_10 (fun H locs hw => ?_)
  have hw : yWd G A s H locs (pre ++ [(h0, .inr (6, [.ref q1, .int 0, .int 0])), (q1, .inl (G.2.1 0, 200, .inl (fun _ => 0)))]) := hw
  refine W.widen (k := 1) (n := 200) (Nat.le_of_ble_eq_true rfl) (Nat.le_of_ble_eq_true rfl) ?_
  exact y_ret S hr hlk hw ⟨q1, rfl⟩ dX6_init_13
set_option maxHeartbeats 4000000 in
set_option maxRecDepth 100000 in
theorem c_X3_init (l : Launch) (G : ZG) (pre : va_W) (h0 : Nat) : yCt l yX3_init cX3_init 1 1 2 684 G h0 (pre ++ [(h0, .inr (3, [.null, .null, .int 0, .int 0]))]) (fun W1 => ∃ (q1 q2 : Nat), W1 = pre ++ [(h0, .inr (3, [.ref q1, .ref q2, .int 0, .int 0])), (q1, .inl (G.2.1 0, 484, .inl (fun _ => 0))), (q2, .inl (G.2.1 0, 200, .inl (fun _ => 0)))]) := by
  refine yCt.mk (by decide +kernel) rfl (Nat.le_of_ble_eq_true rfl) ?_
  intro p e s m args below meth c A H locs ls S hr hlk hin hw hl
  have S : CallFix p m c cX3_init 1 s args WS RX3 := S
  have hl : lv_has ls 1 [(0, .ref h0)] := hl
  refine lv_aload_n S.1 S.2.1 dX3_init_0 rfl (lv_at hl 0 rfl) ?_
  refine y_obj S ki_X3_3 hl.1 dX3_init_1 ⟨Nat.le_of_ble_eq_true rfl, Nat.le_of_ble_eq_true rfl⟩ ?_
  refine lv_aload_n S.1 S.2.1 dX3_init_4 rfl (lv_at hl 0 rfl) ?_
  refine lv_sipush (v := 484) S.1 S.2.1 dX3_init_5 (by decide) ?_
  refine y_newI (N := 484) S hw (by decide) (by decide) (by decide) ⟨Nat.le_of_ble_eq_true rfl, Nat.le_of_ble_eq_true rfl⟩ dX3_init_8 (fun q1 H hw => ?_)
  have hw : yWd G A s H locs (pre ++ (h0, .inr (3, [.null, .null, .int 0, .int 0])) :: [(q1, .inl (G.2.1 0, 484, .inl (fun _ => 0)))]) := hw
  refine y_putF (q := q1) (k := 0) S hw rfl inW3 tyX3_ok nmX3 (by decide) (zIn 182 (by decide +kernel) (by decide +kernel)) rfl hin rfl ⟨rfl, rfl⟩ (Nat.le_of_ble_eq_true rfl) dX3_init_10 (fun H locs hw => ?_)
  have hw : yWd G A s H locs (pre ++ [(h0, .inr (3, [.ref q1, .null, .int 0, .int 0])), (q1, .inl (G.2.1 0, 484, .inl (fun _ => 0)))]) := hw
  refine lv_aload_n S.1 S.2.1 dX3_init_13 rfl (lv_at hl 0 rfl) ?_
  refine lv_sipush (v := 200) S.1 S.2.1 dX3_init_14 (by decide) ?_
  refine y_newI (N := 200) S hw (by decide) (by decide) (by decide) ⟨Nat.le_of_ble_eq_true rfl, Nat.le_of_ble_eq_true rfl⟩ dX3_init_17 (fun q2 H hw => ?_)
  have hw : yWd G A s H locs (pre ++ (h0, .inr (3, [.ref q1, .null, .int 0, .int 0])) :: [(q1, .inl (G.2.1 0, 484, .inl (fun _ => 0))), (q2, .inl (G.2.1 0, 200, .inl (fun _ => 0)))]) := hw
  refine y_putF (q := q2) (k := 1) S hw rfl inW3 tyX3_ok nmX3 (by decide) (zIn 183 (by decide +kernel) (by decide +kernel)) rfl hin rfl ⟨rfl, rfl⟩ (Nat.le_of_ble_eq_true rfl) dX3_init_19 (fun H locs hw => ?_)
  have hw : yWd G A s H locs (pre ++ [(h0, .inr (3, [.ref q1, .ref q2, .int 0, .int 0])), (q1, .inl (G.2.1 0, 484, .inl (fun _ => 0))), (q2, .inl (G.2.1 0, 200, .inl (fun _ => 0)))]) := hw
  refine W.widen (k := 2) (n := 684) (Nat.le_of_ble_eq_true rfl) (Nat.le_of_ble_eq_true rfl) ?_
  exact y_ret S hr hlk hw ⟨q1, q2, rfl⟩ dX3_init_22
set_option maxHeartbeats 4000000 in
set_option maxRecDepth 100000 in
theorem c_X0_init (l : Launch) (G : ZG) (pre : va_W) (h0 : Nat) : yCt l yX0_init cX0_init 1 1 2 16 G h0 (pre ++ [(h0, .inr (0, [.null, .null, .int 0]))]) (fun W1 => ∃ (q1 q2 : Nat), W1 = pre ++ [(h0, .inr (0, [.ref q1, .ref q2, .int 0])), (q1, .inl (G.2.1 0, 8, .inl (fun _ => 0))), (q2, .inl (G.2.1 0, 8, .inl (fun _ => 0)))]) := by
  refine yCt.mk (by decide +kernel) rfl (Nat.le_of_ble_eq_true rfl) ?_
  intro p e s m args below meth c A H locs ls S hr hlk hin hw hl
  have S : CallFix p m c cX0_init 1 s args WS RX0 := S
  have hl : lv_has ls 1 [(0, .ref h0)] := hl
  refine lv_aload_n S.1 S.2.1 dX0_init_0 rfl (lv_at hl 0 rfl) ?_
  refine y_obj S ki_X0_3 hl.1 dX0_init_1 ⟨Nat.le_of_ble_eq_true rfl, Nat.le_of_ble_eq_true rfl⟩ ?_
  refine lv_aload_n S.1 S.2.1 dX0_init_4 rfl (lv_at hl 0 rfl) ?_
  refine lv_bipush (v := 8) S.1 S.2.1 dX0_init_5 (by decide) ?_
  refine y_newI (N := 8) S hw (by decide) (by decide) (by decide) ⟨Nat.le_of_ble_eq_true rfl, Nat.le_of_ble_eq_true rfl⟩ dX0_init_7 (fun q1 H hw => ?_)
  have hw : yWd G A s H locs (pre ++ (h0, .inr (0, [.null, .null, .int 0])) :: [(q1, .inl (G.2.1 0, 8, .inl (fun _ => 0)))]) := hw
  refine y_putF (q := q1) (k := 0) S hw rfl inW0 tyX0_ok nmX0 (by decide) (zIn 199 (by decide +kernel) (by decide +kernel)) rfl hin rfl ⟨rfl, rfl⟩ (Nat.le_of_ble_eq_true rfl) dX0_init_9 (fun H locs hw => ?_)
  have hw : yWd G A s H locs (pre ++ [(h0, .inr (0, [.ref q1, .null, .int 0])), (q1, .inl (G.2.1 0, 8, .inl (fun _ => 0)))]) := hw
  refine lv_aload_n S.1 S.2.1 dX0_init_12 rfl (lv_at hl 0 rfl) ?_
  refine lv_bipush (v := 8) S.1 S.2.1 dX0_init_13 (by decide) ?_
  refine y_newI (N := 8) S hw (by decide) (by decide) (by decide) ⟨Nat.le_of_ble_eq_true rfl, Nat.le_of_ble_eq_true rfl⟩ dX0_init_15 (fun q2 H hw => ?_)
  have hw : yWd G A s H locs (pre ++ (h0, .inr (0, [.ref q1, .null, .int 0])) :: [(q1, .inl (G.2.1 0, 8, .inl (fun _ => 0))), (q2, .inl (G.2.1 0, 8, .inl (fun _ => 0)))]) := hw
  refine y_putF (q := q2) (k := 1) S hw rfl inW0 tyX0_ok nmX0 (by decide) (zIn 200 (by decide +kernel) (by decide +kernel)) rfl hin rfl ⟨rfl, rfl⟩ (Nat.le_of_ble_eq_true rfl) dX0_init_17 (fun H locs hw => ?_)
  have hw : yWd G A s H locs (pre ++ [(h0, .inr (0, [.ref q1, .ref q2, .int 0])), (q1, .inl (G.2.1 0, 8, .inl (fun _ => 0))), (q2, .inl (G.2.1 0, 8, .inl (fun _ => 0)))]) := hw
  refine W.widen (k := 2) (n := 16) (Nat.le_of_ble_eq_true rfl) (Nat.le_of_ble_eq_true rfl) ?_
  exact y_ret S hr hlk hw ⟨q1, q2, rfl⟩ dX0_init_20
set_option maxHeartbeats 4000000 in
set_option maxRecDepth 100000 in
theorem c_X1_init (l : Launch) (G : ZG) (pre : va_W) (h0 : Nat) : yCt l yX1_init cX1_init 1 2 7 50 G h0 (pre ++ [(h0, .inr (1, [.null, .null, .null, .int 0]))]) (fun W1 => ∃ (q1 q2 q3 q4 q5 q6 q7 : Nat), W1 = pre ++ [(h0, .inr (1, [.ref q1, .ref q3, .ref q5, .int 0])), (q1, .inr (10, [.ref q2, .int 0])), (q2, .inl (G.2.1 0, 21, .inl (fun _ => 0))), (q3, .inr (4, [.ref q4, .int 0])), (q4, .inl (G.2.1 0, 6, .inl (fun _ => 0))), (q5, .inr (0, [.ref q6, .ref q7, .int 0])), (q6, .inl (G.2.1 0, 8, .inl (fun _ => 0))), (q7, .inl (G.2.1 0, 8, .inl (fun _ => 0)))]) := by
  refine yCt.mk (by decide +kernel) rfl (Nat.le_of_ble_eq_true rfl) ?_
  intro p e s m args below meth c A H locs ls S hr hlk hin hw hl
  have S : CallFix p m c cX1_init 1 s args WS RX1 := S
  have hl : lv_has ls 1 [(0, .ref h0)] := hl
  refine lv_aload_n S.1 S.2.1 dX1_init_0 rfl (lv_at hl 0 rfl) ?_
  refine y_obj S ki_X1_1 hl.1 dX1_init_1 ⟨Nat.le_of_ble_eq_true rfl, Nat.le_of_ble_eq_true rfl⟩ ?_
  refine lv_aload_n S.1 S.2.1 dX1_init_4 rfl (lv_at hl 0 rfl) ?_
  refine y_new (fs := [.null, .int 0]) S hw (ci := 10) rfl inW10 tyX10_ok kn_X1_7 kc10.1 kc10.2 df_10 ⟨Nat.le_of_ble_eq_true rfl, Nat.le_of_ble_eq_true rfl⟩ dX1_init_5 (fun q1 H hw => ?_)
  refine lv_dup S.1 S.2.1 dX1_init_8 rfl ?_
  have hw : yWd G A s H locs ((pre ++ [(h0, .inr (1, [.null, .null, .null, .int 0]))]) ++ [(q1, .inr (10, [.null, .int 0]))]) := by rw [List.append_assoc]; exact hw
  refine y_call S hw (c_X10_init l G (pre ++ [(h0, .inr (1, [.null, .null, .null, .int 0]))]) q1) mi_10 ki_X1_9 (Nat.le_of_ble_eq_true rfl) ⟨Nat.le_of_ble_eq_true rfl, Nat.le_of_ble_eq_true rfl⟩ ⟨Nat.le_of_ble_eq_true rfl, Nat.le_of_ble_eq_true rfl⟩ hl.1 dX1_init_9 (fun W1 hp H locs hw => ?_)
  obtain ⟨q2, rfl⟩ := hp
  have hw : yWd G A s H locs (pre ++ [(h0, .inr (1, [.null, .null, .null, .int 0])), (q1, .inr (10, [.ref q2, .int 0])), (q2, .inl (G.2.1 0, 21, .inl (fun _ => 0)))]) := by rw [List.append_assoc] at hw; exact hw
  have hw : yWd G A s H locs (pre ++ (h0, .inr (1, [.null, .null, .null, .int 0])) :: [(q1, .inr (10, [.ref q2, .int 0])), (q2, .inl (G.2.1 0, 21, .inl (fun _ => 0)))]) := hw
  refine y_putF (q := q1) (k := 0) S hw rfl inW1 tyX1_ok nmX1 (by decide) (zIn 221 (by decide +kernel) (by decide +kernel)) rfl hin rfl ⟨rfl, rfl⟩ (Nat.le_of_ble_eq_true rfl) dX1_init_12 (fun H locs hw => ?_)
  have hw : yWd G A s H locs (pre ++ [(h0, .inr (1, [.ref q1, .null, .null, .int 0])), (q1, .inr (10, [.ref q2, .int 0])), (q2, .inl (G.2.1 0, 21, .inl (fun _ => 0)))]) := hw
  refine lv_aload_n S.1 S.2.1 dX1_init_15 rfl (lv_at hl 0 rfl) ?_
  refine y_new (fs := [.null, .int 0]) S hw (ci := 4) rfl inW4 tyX4_ok kn_X1_16 kc4.1 kc4.2 df_4 ⟨Nat.le_of_ble_eq_true rfl, Nat.le_of_ble_eq_true rfl⟩ dX1_init_16 (fun q3 H hw => ?_)
  refine lv_dup S.1 S.2.1 dX1_init_19 rfl ?_
  have hw : yWd G A s H locs ((pre ++ [(h0, .inr (1, [.ref q1, .null, .null, .int 0])), (q1, .inr (10, [.ref q2, .int 0])), (q2, .inl (G.2.1 0, 21, .inl (fun _ => 0)))]) ++ [(q3, .inr (4, [.null, .int 0]))]) := by rw [List.append_assoc]; exact hw
  refine y_call S hw (c_X4_init l G (pre ++ [(h0, .inr (1, [.ref q1, .null, .null, .int 0])), (q1, .inr (10, [.ref q2, .int 0])), (q2, .inl (G.2.1 0, 21, .inl (fun _ => 0)))]) q3) mi_4 ki_X1_18 (Nat.le_of_ble_eq_true rfl) ⟨Nat.le_of_ble_eq_true rfl, Nat.le_of_ble_eq_true rfl⟩ ⟨Nat.le_of_ble_eq_true rfl, Nat.le_of_ble_eq_true rfl⟩ hl.1 dX1_init_20 (fun W1 hp H locs hw => ?_)
  obtain ⟨q4, rfl⟩ := hp
  have hw : yWd G A s H locs (pre ++ [(h0, .inr (1, [.ref q1, .null, .null, .int 0])), (q1, .inr (10, [.ref q2, .int 0])), (q2, .inl (G.2.1 0, 21, .inl (fun _ => 0))), (q3, .inr (4, [.ref q4, .int 0])), (q4, .inl (G.2.1 0, 6, .inl (fun _ => 0)))]) := by rw [List.append_assoc] at hw; exact hw
  have hw : yWd G A s H locs (pre ++ (h0, .inr (1, [.ref q1, .null, .null, .int 0])) :: [(q1, .inr (10, [.ref q2, .int 0])), (q2, .inl (G.2.1 0, 21, .inl (fun _ => 0))), (q3, .inr (4, [.ref q4, .int 0])), (q4, .inl (G.2.1 0, 6, .inl (fun _ => 0)))]) := hw
  refine y_putF (q := q3) (k := 1) S hw rfl inW1 tyX1_ok nmX1 (by decide) (zIn 222 (by decide +kernel) (by decide +kernel)) rfl hin rfl ⟨rfl, rfl⟩ (Nat.le_of_ble_eq_true rfl) dX1_init_23 (fun H locs hw => ?_)
  have hw : yWd G A s H locs (pre ++ [(h0, .inr (1, [.ref q1, .ref q3, .null, .int 0])), (q1, .inr (10, [.ref q2, .int 0])), (q2, .inl (G.2.1 0, 21, .inl (fun _ => 0))), (q3, .inr (4, [.ref q4, .int 0])), (q4, .inl (G.2.1 0, 6, .inl (fun _ => 0)))]) := hw
  refine lv_aload_n S.1 S.2.1 dX1_init_26 rfl (lv_at hl 0 rfl) ?_
  refine y_new (fs := [.null, .null, .int 0]) S hw (ci := 0) rfl inW0 tyX0_ok kn_X1_23 kc0.1 kc0.2 df_0 ⟨Nat.le_of_ble_eq_true rfl, Nat.le_of_ble_eq_true rfl⟩ dX1_init_27 (fun q5 H hw => ?_)
  refine lv_dup S.1 S.2.1 dX1_init_30 rfl ?_
  have hw : yWd G A s H locs ((pre ++ [(h0, .inr (1, [.ref q1, .ref q3, .null, .int 0])), (q1, .inr (10, [.ref q2, .int 0])), (q2, .inl (G.2.1 0, 21, .inl (fun _ => 0))), (q3, .inr (4, [.ref q4, .int 0])), (q4, .inl (G.2.1 0, 6, .inl (fun _ => 0)))]) ++ [(q5, .inr (0, [.null, .null, .int 0]))]) := by rw [List.append_assoc]; exact hw
  refine y_call S hw (c_X0_init l G (pre ++ [(h0, .inr (1, [.ref q1, .ref q3, .null, .int 0])), (q1, .inr (10, [.ref q2, .int 0])), (q2, .inl (G.2.1 0, 21, .inl (fun _ => 0))), (q3, .inr (4, [.ref q4, .int 0])), (q4, .inl (G.2.1 0, 6, .inl (fun _ => 0)))]) q5) mi_0 ki_X1_25 (Nat.le_of_ble_eq_true rfl) ⟨Nat.le_of_ble_eq_true rfl, Nat.le_of_ble_eq_true rfl⟩ ⟨Nat.le_of_ble_eq_true rfl, Nat.le_of_ble_eq_true rfl⟩ hl.1 dX1_init_31 (fun W1 hp H locs hw => ?_)
  obtain ⟨q6, q7, rfl⟩ := hp
  have hw : yWd G A s H locs (pre ++ [(h0, .inr (1, [.ref q1, .ref q3, .null, .int 0])), (q1, .inr (10, [.ref q2, .int 0])), (q2, .inl (G.2.1 0, 21, .inl (fun _ => 0))), (q3, .inr (4, [.ref q4, .int 0])), (q4, .inl (G.2.1 0, 6, .inl (fun _ => 0))), (q5, .inr (0, [.ref q6, .ref q7, .int 0])), (q6, .inl (G.2.1 0, 8, .inl (fun _ => 0))), (q7, .inl (G.2.1 0, 8, .inl (fun _ => 0)))]) := by rw [List.append_assoc] at hw; exact hw
  have hw : yWd G A s H locs (pre ++ (h0, .inr (1, [.ref q1, .ref q3, .null, .int 0])) :: [(q1, .inr (10, [.ref q2, .int 0])), (q2, .inl (G.2.1 0, 21, .inl (fun _ => 0))), (q3, .inr (4, [.ref q4, .int 0])), (q4, .inl (G.2.1 0, 6, .inl (fun _ => 0))), (q5, .inr (0, [.ref q6, .ref q7, .int 0])), (q6, .inl (G.2.1 0, 8, .inl (fun _ => 0))), (q7, .inl (G.2.1 0, 8, .inl (fun _ => 0)))]) := hw
  refine y_putF (q := q5) (k := 2) S hw rfl inW1 tyX1_ok nmX1 (by decide) (zIn 223 (by decide +kernel) (by decide +kernel)) rfl hin rfl ⟨rfl, rfl⟩ (Nat.le_of_ble_eq_true rfl) dX1_init_34 (fun H locs hw => ?_)
  have hw : yWd G A s H locs (pre ++ [(h0, .inr (1, [.ref q1, .ref q3, .ref q5, .int 0])), (q1, .inr (10, [.ref q2, .int 0])), (q2, .inl (G.2.1 0, 21, .inl (fun _ => 0))), (q3, .inr (4, [.ref q4, .int 0])), (q4, .inl (G.2.1 0, 6, .inl (fun _ => 0))), (q5, .inr (0, [.ref q6, .ref q7, .int 0])), (q6, .inl (G.2.1 0, 8, .inl (fun _ => 0))), (q7, .inl (G.2.1 0, 8, .inl (fun _ => 0)))]) := hw
  refine W.widen (k := 7) (n := 50) (Nat.le_of_ble_eq_true rfl) (Nat.le_of_ble_eq_true rfl) ?_
  exact y_ret S hr hlk hw ⟨q1, q2, q3, q4, q5, q6, q7, rfl⟩ dX1_init_37
