/-! THE WORLD AS NUMBERS: cells have numbers 0 .. 50 (the class's 0 .. 49, the law's own row 50); what is in them are two functions, of ints and of longs; references are fixed -/
abbrev ZM : Type := (Nat → Nat → Int32) × (Nat → Nat → Int64)
def zi (M : ZM) (a k : Nat) (v : Int32) : ZM := (fun b j => if b = a ∧ j = k then v else M.1 b j, M.2)
def zl (M : ZM) (a k : Nat) (v : Int64) : ZM := (M.1, fun b j => if b = a ∧ j = k then v else M.2 b j)
/-- addresses, array classes, the tables' numbers, the static row, from .. to which cells, the script: where, how long, what -/
abbrev ZG : Type := (Nat → Nat) × (Nat → ClassId) × va_G × Nat × Nat × Nat × Nat × Nat × (Nat → Int32)
/-- kinds: 0 ints, 1 longs, 2 booleans, 10 and more a class -/
def zKs : List Nat := [21, 20, 0, 20, 0, 20, 0, 19, 1, 1, 17, 0, 0, 0, 0, 0, 0, 1, 0, 12, 15, 1, 1, 0, 1, 0, 0, 18, 1, 14, 0, 16, 0, 16, 0, 13, 0, 0, 10, 0, 0, 11, 20, 0, 14, 0, 10, 0, 0, 0, 0]
def zNs : List Nat := [14, 2, 21, 2, 21, 2, 21, 2, 484, 484, 10, 21, 21, 21, 21, 21, 21, 21, 21, 6, 5, 21, 21, 21, 200, 200, 200, 2, 200, 2, 6, 3, 200, 3, 200, 4, 484, 200, 3, 8, 8, 4, 2, 21, 2, 6, 3, 8, 8, 7, 64]
def zRs : List (List Nat) := [[1, 3, 5, 7, 10, 19, 27, 29, 31, 33, 35, 38, 41, 49], [2, 0], [], [4, 0], [], [6, 0], [], [8, 9], [], [], [11, 12, 13, 14, 0, 15, 16, 17, 18, 0], [], [], [], [], [], [], [], [], [20, 24, 25, 26, 0, 0], [21, 22, 23, 0, 0], [], [], [], [], [], [], [28, 0], [], [30, 0], [], [32, 0, 0], [], [34, 0, 0], [], [36, 37, 0, 0], [], [], [39, 40, 0], [], [], [42, 44, 46, 0], [43, 0], [], [45, 0], [], [47, 48, 0], [], [], [], []]
def zTs : List (List Bool) := [[true, true, false], [true, true, true, false], [true, true, true, true, false, false], [true, true, false, false], [true, false], [true, true, true, false, false], [true, false, false], [true, true, true, true, false, true, true, true, true, false], [true, false], [true, true], [true, false], [true, true, true, true, true, true, true, true, true, true, true, true, true, true]]
def zBs : List (List Bool) := [[false, false, false], [false, false, false, true], [false, false, false, false, false, true], [false, false, false, false], [false, false], [false, false, false, false, false], [false, false, false], [false, false, false, false, false, false, false, false, false, false], [false, false], [false, false], [false, false], [false, false, false, false, false, false, false, false, false, false, false, false, false, false]]
def zNf : List Nat := [3, 4, 6, 4, 2, 5, 3, 10, 2, 2, 2, 14]
def zk (G : ZG) (a : Nat) : Nat := if G.2.2.2.2.1 ≤ a ∧ a < G.2.2.2.2.2.1 then zKs.getD a 99 else 99
def zn (a : Nat) : Nat := zNs.getD a 0
def zr (a k : Nat) : Nat := (zRs.getD a []).getD k 0
def zt (ci k : Nat) : Bool := (zTs.getD ci []).getD k false
def zb (ci k : Nat) : Bool := (zBs.getD ci []).getD k false
def za (G : ZG) (a : Nat) : Nat := G.1 a
def zfv (G : ZG) (M : ZM) (ci a j : Nat) : Value := if zt ci j then .ref (za G (zr a j)) else .int (M.1 a j)
def zc (G : ZG) (M : ZM) (a : Nat) : va_E :=
  if zKs.getD a 99 = 0 then .inl (G.2.1 0, (zn a, .inl (M.1 a)))
  else if zKs.getD a 99 = 1 then .inl (G.2.1 1, (zn a, .inr (.inl (M.2 a))))
  else if zKs.getD a 99 = 2 then .inl (G.2.1 2, (zn a, .inl (M.1 a)))
  else .inr (zKs.getD a 99 - 10, (List.range (zn a)).map (zfv G M (zKs.getD a 99 - 10) a))
def zw (G : ZG) (M : ZM) : va_W := (List.range (G.2.2.2.2.2.1 - G.2.2.2.2.1)).map (fun j => (za G (G.2.2.2.2.1 + j), zc G M (G.2.2.2.2.1 + j)))
theorem zk_in {G : ZG} {a n : Nat} (h : zk G a = n) (hn : n ≠ 99) : G.2.2.2.2.1 ≤ a ∧ a < G.2.2.2.2.2.1 ∧ zKs.getD a 99 = n := by
  unfold zk at h
  split at h
  · rename_i h1
    exact ⟨h1.1, h1.2, h⟩
  · exact absurd h.symm hn
theorem zw_len (G : ZG) (M : ZM) : (zw G M).length = G.2.2.2.2.2.1 - G.2.2.2.2.1 := by simp [zw]
theorem zw_get (G : ZG) (M : ZM) (j : Nat) (h : j < G.2.2.2.2.2.1 - G.2.2.2.2.1) : (zw G M)[j]? = some (za G (G.2.2.2.2.1 + j), zc G M (G.2.2.2.2.1 + j)) := by
  unfold zw
  rw [List.getElem?_map, List.getElem?_range h]
  rfl
theorem zw_at {G : ZG} {M : ZM} {a n : Nat} (h : zk G a = n) (hn : n ≠ 99) : (zw G M)[a - G.2.2.2.2.1]? = some (za G a, zc G M a) := by
  obtain ⟨h1, h2, -⟩ := zk_in h hn
  rw [zw_get G M _ (by omega), show G.2.2.2.2.1 + (a - G.2.2.2.2.1) = a by omega]
theorem zw_set {G : ZG} {M M' : ZM} {a n : Nat} {e : va_E} (h : zk G a = n) (hn : n ≠ 99) (he : zc G M' a = e) (ho : ∀ b, b ≠ a → zc G M' b = zc G M b) : (zw G M).set (a - G.2.2.2.2.1) (za G a, e) = zw G M' := by
  obtain ⟨h1, h2, -⟩ := zk_in h hn
  apply List.ext_getElem?
  intro i
  rw [List.getElem?_set]
  split
  · rename_i hi
    subst hi
    rw [if_pos (by rw [zw_len]; omega), zw_at h hn, he]
  · rename_i hi
    by_cases hl : i < G.2.2.2.2.2.1 - G.2.2.2.2.1
    · rw [zw_get G M i hl, zw_get G M' i hl, ho _ (by omega)]
    · rw [List.getElem?_eq_none (by rw [zw_len]; omega), List.getElem?_eq_none (by rw [zw_len]; omega)]
theorem zc_I {G : ZG} {M : ZM} {a : Nat} (h : zKs.getD a 99 = 0) : zc G M a = .inl (G.2.1 0, (zn a, .inl (M.1 a))) := by unfold zc; rw [if_pos h]
theorem zc_J {G : ZG} {M : ZM} {a : Nat} (h : zKs.getD a 99 = 1) : zc G M a = .inl (G.2.1 1, (zn a, .inr (.inl (M.2 a)))) := by unfold zc; rw [if_neg (by omega), if_pos h]
theorem zc_Z {G : ZG} {M : ZM} {a : Nat} (h : zKs.getD a 99 = 2) : zc G M a = .inl (G.2.1 2, (zn a, .inl (M.1 a))) := by unfold zc; rw [if_neg (by omega), if_neg (by omega), if_pos h]
theorem zc_O {G : ZG} {M : ZM} {a ci : Nat} (h : zKs.getD a 99 = 10 + ci) : zc G M a = .inr (ci, (List.range (zn a)).map (zfv G M ci a)) := by
  unfold zc
  rw [if_neg (by omega), if_neg (by omega), if_neg (by omega), h, show 10 + ci - 10 = ci by omega]
theorem zn_all : ∀ a, a < 51 → 10 ≤ zKs.getD a 99 → zn a = zNf.getD (zKs.getD a 99 - 10) 0 := by decide +kernel
theorem zKs_out {a : Nat} (h : ¬ a < 51) : zKs.getD a 99 = 99 := by
  have : zKs.length = 51 := by decide +kernel
  rw [List.getD_eq_getElem?_getD, List.getElem?_eq_none (by omega)]
  rfl
theorem zn_O {a ci : Nat} (h : zKs.getD a 99 = 10 + ci) (hc : ci < 12) : zn a = zNf.getD ci 0 := by
  by_cases ha : a < 51
  · rw [zn_all a ha (by omega), h, show 10 + ci - 10 = ci by omega]
  · rw [zKs_out ha] at h
    omega
theorem zc_zi {G : ZG} {M : ZM} {a k : Nat} {v : Int32} {b : Nat} (hb : b ≠ a) : zc G (zi M a k v) b = zc G M b := by
  have e : (zi M a k v).1 b = M.1 b := by funext j; simp [zi, hb]
  have e2 : ∀ ci, zfv G (zi M a k v) ci b = zfv G M ci b := fun ci => by funext j; simp [zfv, e]
  unfold zc
  rw [e]
  simp only [e2]
  rfl
theorem zc_zl {G : ZG} {M : ZM} {a k : Nat} {v : Int64} {b : Nat} (hb : b ≠ a) : zc G (zl M a k v) b = zc G M b := by
  have e : (zl M a k v).2 b = M.2 b := by funext j; simp [zl, hb]
  have e2 : ∀ ci, zfv G (zl M a k v) ci b = zfv G M ci b := fun ci => rfl
  unfold zc
  rw [e]
  rfl
theorem zw_addr (G : ZG) (M M' : ZM) (k : Nat) (q : Nat × va_E) (h : (zw G M)[k]? = some q) : ∃ q', (zw G M')[k]? = some q' ∧ q'.1 = q.1 := by
  have hl : k < G.2.2.2.2.2.1 - G.2.2.2.2.1 := by rw [← zw_len G M]; exact (List.getElem?_eq_some_iff.mp h).1
  rw [zw_get G M k hl] at h
  cases h
  exact ⟨_, zw_get G M' k hl, rfl⟩
theorem zw_D {G : ZG} {A : Nat → Prop} {M : ZM} (M' : ZM) (h : va_D A (zw G M)) : va_D A (zw G M') := by
  refine ⟨fun i j p q hi hj e => ?_, fun k q hk => ?_⟩
  · obtain ⟨p', g1, e1⟩ := zw_addr G M' M i p hi
    obtain ⟨q', g2, e2⟩ := zw_addr G M' M j q hj
    exact h.1 i j p' q' g1 g2 (by rw [e1, e2, e])
  · obtain ⟨q', g, e⟩ := zw_addr G M' M k q hk
    rw [← e]
    exact h.2 k q' g
def zmk (j : Nat) : Int64 := [2863311530, 3435973836, 4042322160, 4278255360, 4294901760].getD j 0
def zNw (U : State) : Prop := ∀ (own : String) (i : Nat) (y : MethodName) (h : String), Cond.methodLinkNest own i y h ∈ lw_tbl → va_Nw (.methodLinkNest own i y h) U
/-- the static row of the class; the links among nest mates -/
def zSt (G : ZG) (A : Nat → Prop) (U : State) (H : Heap) : Prop := va_Z "MayBeRead" "MARK_CASES" "[J" (.ref G.2.2.2.1) A U H ∧ va_T .long G.2.2.2.1 5 (fun j => .long (zmk j)) A U H ∧ zNw U ∧ va_T .int G.2.2.2.2.2.2.1 G.2.2.2.2.2.2.2.1 (fun j => .int (G.2.2.2.2.2.2.2.2 j)) A U H
def zSc (G : ZG) (L : Nat) (xs : Nat → Int32) : Prop := G.2.2.2.2.2.2.2 = (L, xs)
def zty (G : ZG) : List (ClassId × FieldType) := [(G.2.1 0, .int), (G.2.1 1, .long)]
def zWd (G : ZG) (A : Nat → Prop) (s : State) (H : Heap) (locs : List Loc) (M : ZM) : Prop :=
  va_K G.2.2.1 vwCl (zty G) s ∧ va_P G.2.2.1 vwCl (zw G M) H ∧ va_D A (zw G M) ∧ va_S A s.heap H locs ∧ (∀ q, s.heap.size ≤ q → A q) ∧ zSt G A s s.heap
/-- a field's link: the class's number, the field's place -/
def zFl (own : String) (index ci k : Nat) : Prop := ∃ (C : String) (T : u_T) (N : Nat) (ty : Nat → FieldType), vwCl[ci]? = some (C, T, N) ∧ ci < 12 ∧ N = zNf.getD ci 0 ∧ (∀ w ∈ u_ws C T N, w ∈ WS) ∧ k < N ∧ Cond.fieldLink own index (T k).1 (T k).2.1 (T k).2.2.1 ∈ WS ∧ (∀ k, k < N → parseFieldDescriptor (T k).2.2.1 = some (ty k)) ∧ (∀ a, a < N → ∀ b, b < N → a ≠ b → (T a).2.1 ≠ (T b).2.1) ∧ (zt ci k = false → (T k).2.2.2 = false ∧ ty k = (if zb ci k then .boolean else .int))
def zX (p : Program) (R : Room) (s : State) (m : MethodId) (args : Array Value) (c : Code) (cells slots : Nat) (cc : ByteArray) (nL : Nat) (own : String) : Prop := CallFix p m c cc nL s args WS own ∧ cells ≤ R.cells ∧ slots ≤ R.slots
def zin (i : Int32) (n : Nat) : Bool := decide (¬ (i < 0 ∨ n ≤ i.toNatClampNeg))
theorem zin_in {i : Int32} {n : Nat} (h : zin i n = true) : vp_in i n := of_decide_eq_true (p := ¬ (i < 0 ∨ n ≤ i.toNatClampNeg)) h
/-- how an equation about a program is taken apart -/
def zlet {α β : Type} (a : α) (f : α → β) : β := f a
theorem zlet_ex {α β : Type} {a : α} {f : α → β} {r : β} (h : zlet a f = r) : ∃ y, y = a ∧ f y = r := ⟨a, rfl, h⟩
def zck {α : Type} (b : Bool) (x : Option α) : Option α := if b = true then x else none
theorem zck_ex {α : Type} {b : Bool} {x : Option α} {r : α} (h : zck b x = some r) : b = true ∧ x = some r := by
  unfold zck at h
  split at h
  · rename_i hb; exact ⟨hb, h⟩
  · cases h
def zQ (below : List Frame) (G : ZG) (A : Nat → Prop) (rv : Option Value) (M' : ZM) (args : Array Value) (s : State) : State → Prop := MQ below (fun _ st oc t => (oc = .returned rv ∧ va_P G.2.2.1 vwCl (zw G M') t.heap ∧ va_K G.2.2.1 vwCl (zty G) t) ∧ va_F A st t) args s 0 0 A
abbrev zR (dp : Nat) : Room := { frames := dp, cells := 0, slots := 0, locals := 45 * dp }
/-- THE CONTRACT of every method: it answers rv and makes M into M' -/
def zCt (l : Launch) (y : MethodName) (cc : ByteArray) (nL : Nat) (ret : Option FieldType) (dp : Nat) (G : ZG) (vs : List Value) (M : ZM) (rv : Option Value) (M' : ZM) : Prop :=
  ∀ sz, Met l y (.code y cc nL ret :: WS) (zR dp) (va_Pc vs (fun U => U.heap.size = sz ∧ va_P G.2.2.1 vwCl (zw G M) U.heap ∧ va_K G.2.2.1 vwCl (zty G) U ∧ va_D (fun _ => True) (zw G M) ∧ zSt G (va_A (zw G M) sz) U U.heap))
    (fun _ st oc t => (oc = .returned rv ∧ va_P G.2.2.1 vwCl (zw G M') t.heap ∧ va_K G.2.2.1 vwCl (zty G) t) ∧ va_F (va_A (zw G M) sz) st t) 0 0 (va_A (zw G M) sz)
theorem zCt.mk {l : Launch} {y : MethodName} {cc : ByteArray} {nL : Nat} {ret : Option FieldType} {dp : Nat} {G : ZG} {vs : List Value} {M : ZM} {rv : Option Value} {M' : ZM} (hy : plainName y.cls = true) (hlen : (lg_sl vs).length ≤ nL)
    (body : ∀ (p : Program) (e : Env) (s : State) (m : MethodId) (args : Array Value) (below : List Frame) (meth : Method) (c : Code) (A : Nat → Prop) (H : Heap) (locs : List Loc) (ls : Array Slot), zX p (zR dp) s m args c 0 0 cc nL y.cls → meth.sig.returnType = ret → meth.locks = false → zWd G A s H locs M → lv_has ls nL (lv_args 0 vs) → W p l e (zR dp) s m args below meth c H locs 0 0 (zQ below G A rv M' args s) (F0 m 0 ls [])) : zCt l y cc nL ret dp G vs M rv M' := by
  intro sz
  refine Met.ofW (cc := cc) (maxL := nL) (ret := ret) hy rfl ?_
  intro p e s m args below meth c s₁ B hml hv
  obtain ⟨rfl, hsz, hP, hK, hD0, hT⟩ := hv
  have hts := atoms_spec (ws := .code y cc nL ret :: WS) B.pre
  subst hsz
  have hD := hD0.self (sz := s.heap.size)
  have hl := lv_entry vs (n := nL) hlen
  rw [lg_entry_eq]
  exact body p e s m _ below meth c (va_A (zw G M) s.heap.size) s.heap [] _ ⟨⟨B.exec, B.bytes, hml, findClass_of_methodNamed B.named, fun w h => hts w (List.mem_cons_of_mem _ h)⟩, Nat.zero_le _, Nat.zero_le _⟩ B.returns B.notSynchronized ⟨hK, hP, hD, va_S.rf, fun q h => Or.inr h, hT⟩ hl
/-- a method's own words -/
def zMv (y : MethodName) (bytes : ByteArray) (maxL : Nat) (ret : Option FieldType) (n : Nat) : Prop := Cond.code y bytes maxL ret ∈ WS ∧ Cond.initialized y.cls ∈ WS ∧ Cond.instanceMethod y ∈ WS ∧ Cond.selects y.cls y y ∈ WS ∧ y.cls ≠ "java/lang/invoke/MethodHandle" ∧ y.cls ≠ "java/lang/invoke/VarHandle" ∧ (parseMethodDescriptor y.desc).map (fun d => d.parameters.length) = some n
def zMs (y : MethodName) (bytes : ByteArray) (maxL : Nat) (ret : Option FieldType) (n : Nat) : Prop := Cond.code y bytes maxL ret ∈ WS ∧ Cond.initialized y.cls ∈ WS ∧ Cond.static y ∈ WS ∧ y.cls ≠ "java/lang/invoke/MethodHandle" ∧ y.cls ≠ "java/lang/invoke/VarHandle" ∧ (parseMethodDescriptor y.desc).map (fun d => d.parameters.length) = some n
/-- a call's link, of the class's own or a nest mate's method -/
def zLk (own : String) (index : Nat) (y : MethodName) : Prop := Cond.methodLink own index y ∈ WS ∨ ∃ host, Cond.methodLinkNest own index y host ∈ lw_tbl
theorem zGoodM {y : MethodName} {bytes : ByteArray} {maxL : Nat} {ret : Option FieldType} (h : Cond.code y bytes maxL ret ∈ WS) : GoodIn WS (.code y bytes maxL ret :: WS) := zGood (List.forall_mem_cons.mpr ⟨h, fun _ h => h⟩)
theorem zSt.to {G : ZG} {A B : Nat → Prop} {s U : State} {H : Heap} {locs : List Loc} (h : zSt G A s s.heap) (hS : va_S A s.heap H locs) (hW : s.WarmedH U.vm) (hAB : ∀ q, B q → A q) : zSt G B U H :=
  ⟨((h.1.kept (fun a h1 h2 => hS.2.1 a h1 h2)).moved hW.alike).narrow hAB, ((h.2.1.kept (fun a h1 h2 => hS.2.1 a h1 h2)).moved hW.alike).narrow hAB, fun own i y h' hm => va_Nw.warmM hW (h.2.2.1 own i y h' hm), ((h.2.2.2.kept (fun a h1 h2 => hS.2.1 a h1 h2)).moved hW.alike).narrow hAB⟩
section ZW
variable {p : Program} {l : Launch} {e : Env} {R : Room} {s : State} {m : MethodId} {args : Array Value} {below : List Frame} {meth : Method} {c : Code} {H : Heap} {locs : List Loc} {cells slots : Nat} {Q : State → Prop}
variable {cc : ByteArray} {pc nL : Nat} {ls : Array Slot} {rest st0 : List Value} {own : String} {G : ZG} {A : Nat → Prop} {M M1 : ZM}
theorem zA_of (hw : zWd G A s H locs M) : ∀ q, va_A (zw G M) H.size q → A q := by
  obtain ⟨hK, hP, hD, hS, hA, hT⟩ := hw
  intro q h
  rcases h with ⟨k, e, h⟩ | h
  · exact hD.2 k (q, e) h
  · exact hA q (Nat.le_trans hS.1 h)
theorem z_getI (S : zX p R s m args c cells slots cc nL own) (hw : zWd G A s H locs M) {a ci k index : Nat} (ha : zk G a = 10 + ci) (hf : zFl own index ci k) (ht : zt ci k = false) (hdg : decode cc pc = .ok (.getfield index, 3)) (kk : W p l e R s m args below meth c H locs cells slots Q (F0 m (pc + 3) ls (.int (M.1 a k) :: rest))) : W p l e R s m args below meth c H locs cells slots Q (F0 m pc ls (.ref (za G a) :: rest)) := by
  obtain ⟨⟨hx, hb, hml, hown, hts⟩, -⟩ := S
  obtain ⟨hK, hP, hD, hS, hA, hT⟩ := hw
  obtain ⟨C, T, N, ty, h1, hc, h2, h3, h4, h5, h6, h7, h8⟩ := hf
  obtain ⟨g1, g2, g3⟩ := zk_in ha (by omega)
  have hn := zn_O g3 hc
  refine va_get (D := G.2.2.1) (v := .int (M.1 a k)) hx hb hts h3 hown hK hP (a - G.2.2.2.2.1) (ci := ci) (fs := (List.range (zn a)).map (zfv G M ci a)) ((zw_at ha (by omega)).trans (by rw [zc_O g3])) h1 k h4 (hts _ h5) (fun _ h => h) ?_ hdg kk
  rw [List.getElem?_map, List.getElem?_range (by omega)]
  simp [zfv, ht]
theorem z_getR (S : zX p R s m args c cells slots cc nL own) (hw : zWd G A s H locs M) {a ci k index : Nat} (ha : zk G a = 10 + ci) (hf : zFl own index ci k) (ht : zt ci k = true) (hdg : decode cc pc = .ok (.getfield index, 3)) (kk : W p l e R s m args below meth c H locs cells slots Q (F0 m (pc + 3) ls (.ref (za G (zr a k)) :: rest))) : W p l e R s m args below meth c H locs cells slots Q (F0 m pc ls (.ref (za G a) :: rest)) := by
  obtain ⟨⟨hx, hb, hml, hown, hts⟩, -⟩ := S
  obtain ⟨hK, hP, hD, hS, hA, hT⟩ := hw
  obtain ⟨C, T, N, ty, h1, hc, h2, h3, h4, h5, h6, h7, h8⟩ := hf
  obtain ⟨g1, g2, g3⟩ := zk_in ha (by omega)
  have hn := zn_O g3 hc
  refine va_get (D := G.2.2.1) (v := .ref (za G (zr a k))) hx hb hts h3 hown hK hP (a - G.2.2.2.2.1) (ci := ci) (fs := (List.range (zn a)).map (zfv G M ci a)) ((zw_at ha (by omega)).trans (by rw [zc_O g3])) h1 k h4 (hts _ h5) (fun _ h => h) ?_ hdg kk
  rw [List.getElem?_map, List.getElem?_range (by omega)]
  simp [zfv, ht]
theorem z_putI (S : zX p R s m args c cells slots cc nL own) (hw : zWd G A s H locs M) {a ci k index : Nat} {v : Int32} (hM : M1 = zi M a k v) (ha : zk G a = 10 + ci) (hf : zFl own index ci k) (ht : zt ci k = false) (hv : zb ci k = true → v = 0 ∨ v = 1) (hdg : decode cc pc = .ok (.putfield index, 3)) (kk : ∀ (H1 : Heap) (locs1 : List Loc), zWd G A s H1 locs1 M1 → W p l e R s m args below meth c H1 locs1 cells slots Q (F0 m (pc + 3) ls rest)) : W p l e R s m args below meth c H locs cells slots Q (F0 m pc ls (.int v :: .ref (za G a) :: rest)) := by
  subst hM
  obtain ⟨⟨hx, hb, hml, hown, hts⟩, -⟩ := S
  obtain ⟨hK, hP, hD, hS, hA, hT⟩ := hw
  obtain ⟨C, T, N, ty, h1, hc, h2, h3, h4, h5, h6, h7, h8⟩ := hf
  obtain ⟨g1, g2, g3⟩ := zk_in ha (by omega)
  have hn := zn_O g3 hc
  obtain ⟨h9, h10⟩ := h8 ht
  have hnar : narrow (ty k) (.int v) = .int v ∧ fits (ty k) (.int v) = true := by
    rw [h10]
    cases hz : zb ci k with
    | false => exact ⟨rfl, rfl⟩
    | true =>
      rcases hv hz with rfl | rfl
      · exact ⟨rfl, rfl⟩
      · exact ⟨rfl, rfl⟩
  refine va_put (D := G.2.2.1) (v := .int v) hx hb hts h3 ty h6 h7 hown hK hP hD hS (a - G.2.2.2.2.1) (ci := ci) (fs := (List.range (zn a)).map (zfv G M ci a)) ((zw_at ha (by omega)).trans (by rw [zc_O g3])) h1 k h4 (hts _ h5) (fun _ h => h) h9 (h6 k h4) hnar.1 hnar.2 (by simp; omega) hdg (fun H1 locs1 hP1 hD1 hS1 => ?_)
  have hset : (zw G M).set (a - G.2.2.2.2.1) (za G a, .inr (ci, ((List.range (zn a)).map (zfv G M ci a)).set k (.int v))) = zw G (zi M a k v) := by
    refine zw_set ha (by omega) ?_ (fun b hb => zc_zi hb)
    rw [zc_O g3]
    congr 2
    apply List.ext_getElem?
    intro j
    rw [List.getElem?_set, List.getElem?_map]
    by_cases hj : k = j
    · subst hj
      rw [if_pos rfl, if_pos (by simp; omega), List.getElem?_range (by omega)]
      simp [zfv, ht, zi]
    · rw [if_neg hj, List.getElem?_map]
      by_cases hl : j < zn a
      · rw [List.getElem?_range hl]
        have hj2 : ¬ (j = k) := fun h => hj h.symm
        simp [zfv, zi, hj2]
      · rw [List.getElem?_eq_none (by simp; omega)]
        rfl
  rw [hset] at hP1 hD1
  exact kk H1 locs1 ⟨hK, hP1, hD1, hS1, hA, hT⟩
theorem z_alen (S : zX p R s m args c cells slots cc nL own) (hw : zWd G A s H locs M) {a t : Nat} (ha : zk G a = t) (ht : t < 2) (hdg : decode cc pc = .ok (.arraylength, 1)) (kk : W p l e R s m args below meth c H locs cells slots Q (F0 m (pc + 1) ls (.int (Int32.ofNat (zn a)) :: rest))) : W p l e R s m args below meth c H locs cells slots Q (F0 m pc ls (.ref (za G a) :: rest)) := by
  obtain ⟨⟨hx, hb, hml, hown, hts⟩, -⟩ := S
  obtain ⟨hK, hP, hD, hS, hA, hT⟩ := hw
  obtain ⟨g1, g2, g3⟩ := zk_in ha (by omega)
  rcases (show t = 0 ∨ t = 1 by omega) with rfl | rfl
  · exact va_alen hx hb hK hP (a - G.2.2.2.2.1) 0 ((zw_at ha (by omega)).trans (by rw [zc_I g3])) (ty := .int) rfl rfl hdg kk
  · exact va_alen hx hb hK hP (a - G.2.2.2.2.1) 1 ((zw_at ha (by omega)).trans (by rw [zc_J g3])) (ty := .long) rfl rfl hdg kk
theorem z_iald (S : zX p R s m args c cells slots cc nL own) (hw : zWd G A s H locs M) {a : Nat} {i : Int32} (ha : zk G a = 0) (hi : zin i (zn a) = true) (hdg : decode cc pc = .ok (.iaload, 1)) (kk : W p l e R s m args below meth c H locs cells slots Q (F0 m (pc + 1) ls (.int (M.1 a i.toNatClampNeg) :: rest))) : W p l e R s m args below meth c H locs cells slots Q (F0 m pc ls (.int i :: .ref (za G a) :: rest)) := by
  obtain ⟨⟨hx, hb, hml, hown, hts⟩, -⟩ := S
  obtain ⟨hK, hP, hD, hS, hA, hT⟩ := hw
  exact va_iald hx hb hK hP (a - G.2.2.2.2.1) 0 ((zw_at ha (by omega)).trans (by rw [zc_I (zk_in ha (by omega)).2.2])) rfl (zin_in hi) hdg kk
theorem z_lald (S : zX p R s m args c cells slots cc nL own) (hw : zWd G A s H locs M) {a : Nat} {i : Int32} (ha : zk G a = 1) (hi : zin i (zn a) = true) (hdg : decode cc pc = .ok (.laload, 1)) (kk : W p l e R s m args below meth c H locs cells slots Q (F0 m (pc + 1) ls (.long (M.2 a i.toNatClampNeg) :: rest))) : W p l e R s m args below meth c H locs cells slots Q (F0 m pc ls (.int i :: .ref (za G a) :: rest)) := by
  obtain ⟨⟨hx, hb, hml, hown, hts⟩, -⟩ := S
  obtain ⟨hK, hP, hD, hS, hA, hT⟩ := hw
  exact va_lald hx hb hK hP (a - G.2.2.2.2.1) 1 ((zw_at ha (by omega)).trans (by rw [zc_J (zk_in ha (by omega)).2.2])) rfl (zin_in hi) hdg kk
theorem z_iast (S : zX p R s m args c cells slots cc nL own) (hw : zWd G A s H locs M) {a : Nat} {i v : Int32} (hM : M1 = zi M a i.toNatClampNeg v) (ha : zk G a = 0) (hi : zin i (zn a) = true) (hdg : decode cc pc = .ok (.iastore, 1)) (kk : ∀ (H1 : Heap) (locs1 : List Loc), zWd G A s H1 locs1 M1 → W p l e R s m args below meth c H1 locs1 cells slots Q (F0 m (pc + 1) ls rest)) : W p l e R s m args below meth c H locs cells slots Q (F0 m pc ls (.int v :: .int i :: .ref (za G a) :: rest)) := by
  subst hM
  obtain ⟨⟨hx, hb, hml, hown, hts⟩, -⟩ := S
  obtain ⟨hK, hP, hD, hS, hA, hT⟩ := hw
  have g3 := (zk_in ha (by omega)).2.2
  refine va_iast hx hb hK hP hD hS (a - G.2.2.2.2.1) 0 ((zw_at ha (by omega)).trans (by rw [zc_I g3])) rfl (zin_in hi) hdg (fun H1 locs1 hP1 hD1 hS1 => ?_)
  have hset : (zw G M).set (a - G.2.2.2.2.1) (za G a, .inl (G.2.1 0, zn a, .inl (upd (M.1 a) i.toNatClampNeg v))) = zw G (zi M a i.toNatClampNeg v) := by
    refine zw_set ha (by omega) ?_ (fun b hb => zc_zi hb)
    rw [zc_I g3]
    congr 4
    funext j
    simp [zi, upd]
  rw [hset] at hP1 hD1
  exact kk H1 locs1 ⟨hK, hP1, hD1, hS1, hA, hT⟩
theorem z_last (S : zX p R s m args c cells slots cc nL own) (hw : zWd G A s H locs M) {a : Nat} {i : Int32} {v : Int64} (hM : M1 = zl M a i.toNatClampNeg v) (ha : zk G a = 1) (hi : zin i (zn a) = true) (hdg : decode cc pc = .ok (.lastore, 1)) (kk : ∀ (H1 : Heap) (locs1 : List Loc), zWd G A s H1 locs1 M1 → W p l e R s m args below meth c H1 locs1 cells slots Q (F0 m (pc + 1) ls rest)) : W p l e R s m args below meth c H locs cells slots Q (F0 m pc ls (.long v :: .int i :: .ref (za G a) :: rest)) := by
  subst hM
  obtain ⟨⟨hx, hb, hml, hown, hts⟩, -⟩ := S
  obtain ⟨hK, hP, hD, hS, hA, hT⟩ := hw
  have g3 := (zk_in ha (by omega)).2.2
  refine va_last hx hb hK hP hD hS (a - G.2.2.2.2.1) 1 ((zw_at ha (by omega)).trans (by rw [zc_J g3])) rfl (zin_in hi) hdg (fun H1 locs1 hP1 hD1 hS1 => ?_)
  have hset : (zw G M).set (a - G.2.2.2.2.1) (za G a, .inl (G.2.1 1, zn a, .inr (.inl (vp_updL (M.2 a) i.toNatClampNeg v)))) = zw G (zl M a i.toNatClampNeg v) := by
    refine zw_set ha (by omega) ?_ (fun b hb => zc_zl hb)
    rw [zc_J g3]
    congr 5
    funext j
    simp [zl, vp_updL]
  rw [hset] at hP1 hD1
  exact kk H1 locs1 ⟨hK, hP1, hD1, hS1, hA, hT⟩
theorem z_marks (S : zX p R s m args c cells slots cc nL own) (hw : zWd G A s H locs M) {index : Nat} (hl : Cond.fieldLink own index "MayBeRead" "MARK_CASES" "[J" ∈ WS) (hdg : decode cc pc = .ok (.getstatic index, 3)) (kk : W p l e R s m args below meth c H locs cells slots Q (F0 m (pc + 3) ls (.ref G.2.2.2.1 :: rest))) : W p l e R s m args below meth c H locs cells slots Q (F0 m pc ls rest) := by
  obtain ⟨⟨hx, hb, hml, hown, hts⟩, -⟩ := S
  obtain ⟨hK, hP, hD, hS, hA, hT⟩ := hw
  exact va_gets hx hb hT.1 hS hown (hts _ hl) (fun _ h => h) hdg kk
theorem z_markslen (S : zX p R s m args c cells slots cc nL own) (hw : zWd G A s H locs M) (hdg : decode cc pc = .ok (.arraylength, 1)) (kk : W p l e R s m args below meth c H locs cells slots Q (F0 m (pc + 1) ls (.int 5 :: rest))) : W p l e R s m args below meth c H locs cells slots Q (F0 m pc ls (.ref G.2.2.2.1 :: rest)) := by
  obtain ⟨⟨hx, hb, hml, hown, hts⟩, -⟩ := S
  obtain ⟨hK, hP, hD, hS, hA, hT⟩ := hw
  exact va_tlen hx hb hT.2.1 hS rfl hdg kk
theorem z_marksld (S : zX p R s m args c cells slots cc nL own) (hw : zWd G A s H locs M) {i : Int32} (hi : zin i 5 = true) (hdg : decode cc pc = .ok (.laload, 1)) (kk : W p l e R s m args below meth c H locs cells slots Q (F0 m (pc + 1) ls (.long (zmk i.toNatClampNeg) :: rest))) : W p l e R s m args below meth c H locs cells slots Q (F0 m pc ls (.int i :: .ref G.2.2.2.1 :: rest)) := by
  obtain ⟨⟨hx, hb, hml, hown, hts⟩, -⟩ := S
  obtain ⟨hK, hP, hD, hS, hA, hT⟩ := hw
  exact va_tl hx hb hT.2.1 hS (zin_in hi) rfl hdg kk
theorem z_slen (S : zX p R s m args c cells slots cc nL own) (hw : zWd G A s H locs M) {L : Nat} {xs : Nat → Int32} (hsc : zSc G L xs) (hdg : decode cc pc = .ok (.arraylength, 1)) (kk : W p l e R s m args below meth c H locs cells slots Q (F0 m (pc + 1) ls (.int (Int32.ofNat L) :: rest))) : W p l e R s m args below meth c H locs cells slots Q (F0 m pc ls (.ref G.2.2.2.2.2.2.1 :: rest)) := by
  obtain ⟨⟨hx, hb, hml, hown, hts⟩, -⟩ := S
  obtain ⟨hK, hP, hD, hS, hA, hT⟩ := hw
  have h4 := hT.2.2.2
  rw [hsc] at h4
  exact va_tlen hx hb h4 hS rfl hdg kk
theorem z_sld (S : zX p R s m args c cells slots cc nL own) (hw : zWd G A s H locs M) {L : Nat} {xs : Nat → Int32} (hsc : zSc G L xs) {i : Int32} (hi : zin i L = true) (hdg : decode cc pc = .ok (.iaload, 1)) (kk : W p l e R s m args below meth c H locs cells slots Q (F0 m (pc + 1) ls (.int (xs i.toNatClampNeg) :: rest))) : W p l e R s m args below meth c H locs cells slots Q (F0 m pc ls (.int i :: .ref G.2.2.2.2.2.2.1 :: rest)) := by
  obtain ⟨⟨hx, hb, hml, hown, hts⟩, -⟩ := S
  obtain ⟨hK, hP, hD, hS, hA, hT⟩ := hw
  have h4 := hT.2.2.2
  rw [hsc] at h4
  exact va_ti hx hb h4 hS (zin_in hi) rfl hdg kk
theorem z_ret_i {v : Int32} (S : zX p R s m args c 0 0 cc nL own) (hr : meth.sig.returnType = some .int) (hlk : meth.locks = false) (hw : zWd G A s H locs M) (hdg : decode cc pc = .ok (.ireturn, 1)) : W p l e R s m args below meth c H locs 0 0 (zQ below G A (some (.int v)) M args s) (F0 m pc ls [.int v]) := by
  obtain ⟨⟨hx, hb, hml, hown, hts⟩, -⟩ := S
  obtain ⟨hK, hP, hD, hS, hA, hT⟩ := hw
  exact W.iret (v := v) hx hb hr (fun t ht hW => ⟨⟨rfl, by rw [ht]; exact hP, va_K.moved hW.alike hK⟩, hS.F ht⟩) hS.2.2 hdg hlk
theorem z_ret_z {v : Int32} (S : zX p R s m args c 0 0 cc nL own) (hr : meth.sig.returnType = some .boolean) (hlk : meth.locks = false) (hv : v = 0 ∨ v = 1) (hw : zWd G A s H locs M) (hdg : decode cc pc = .ok (.ireturn, 1)) : W p l e R s m args below meth c H locs 0 0 (zQ below G A (some (.int v)) M args s) (F0 m pc ls [.int v]) := by
  obtain ⟨⟨hx, hb, hml, hown, hts⟩, -⟩ := S
  obtain ⟨hK, hP, hD, hS, hA, hT⟩ := hw
  exact W.zret (v := v) hx hb hr (by rcases hv with rfl | rfl <;> rfl) (fun t ht hW => ⟨⟨rfl, by rw [ht]; exact hP, va_K.moved hW.alike hK⟩, hS.F ht⟩) hS.2.2 hdg hlk
theorem z_ret_l {v : Int64} (S : zX p R s m args c 0 0 cc nL own) (hr : meth.sig.returnType = some .long) (hlk : meth.locks = false) (hw : zWd G A s H locs M) (hdg : decode cc pc = .ok (.lreturn, 1)) : W p l e R s m args below meth c H locs 0 0 (zQ below G A (some (.long v)) M args s) (F0 m pc ls [.long v]) := by
  obtain ⟨⟨hx, hb, hml, hown, hts⟩, -⟩ := S
  obtain ⟨hK, hP, hD, hS, hA, hT⟩ := hw
  exact W.lret (v := v) hx hb hr (fun t ht hW => ⟨⟨rfl, by rw [ht]; exact hP, va_K.moved hW.alike hK⟩, hS.F ht⟩) hS.2.2 hdg hlk
theorem z_ret_v (S : zX p R s m args c 0 0 cc nL own) (hr : meth.sig.returnType = none) (hlk : meth.locks = false) (hw : zWd G A s H locs M) (hdg : decode cc pc = .ok (.return_, 1)) : W p l e R s m args below meth c H locs 0 0 (zQ below G A none M args s) (F0 m pc ls []) := by
  obtain ⟨⟨hx, hb, hml, hown, hts⟩, -⟩ := S
  obtain ⟨hK, hP, hD, hS, hA, hT⟩ := hw
  exact W.vret hx hb hr (fun t ht hW => ⟨⟨rfl, by rw [ht]; exact hP, va_K.moved hW.alike hK⟩, hS.F ht⟩) hS.2.2 hdg hlk
theorem z_ret_r {a : Nat} {C : String} (S : zX p R s m args c 0 0 cc nL own) (hr : meth.sig.returnType = some (.object C)) (hlk : meth.locks = false) (hw : zWd G A s H locs M) (hdg : decode cc pc = .ok (.areturn, 1)) : W p l e R s m args below meth c H locs 0 0 (zQ below G A (some (.ref (za G a))) M args s) (F0 m pc ls [.ref (za G a)]) := by
  obtain ⟨⟨hx, hb, hml, hown, hts⟩, -⟩ := S
  obtain ⟨hK, hP, hD, hS, hA, hT⟩ := hw
  exact W.aret hx hb hr (Or.inl ⟨C, rfl⟩) (Or.inr ⟨_, rfl⟩) (fun t ht hW => ⟨⟨rfl, by rw [ht]; exact hP, va_K.moved hW.alike hK⟩, hS.F ht⟩) hS.2.2 hdg hlk
theorem z_back {rv : Option Value} {A1 : Nat → Prop} {index : Nat} (hr : va_Run p l e R s m args below meth c H locs cells slots 0 0 (F0 m pc ls st0) rest (fun st oc t => (oc = .returned rv ∧ va_P G.2.2.1 vwCl (zw G M1) t.heap ∧ va_K G.2.2.1 vwCl (zty G) t) ∧ va_F A1 st t) A1) (hw : zWd G A s H locs M) (hA1 : ∀ q, A1 q → A q)
    (kk : ∀ (H1 : Heap) (locs1 : List Loc), zWd G A s H1 locs1 M1 → W p l e R s m args below meth c H1 locs1 cells slots Q (F0 m (pc + 3) ls (rv.toList ++ rest))) : W p l e R s m args below meth c H locs cells slots Q (F0 m pc ls st0) := by
  obtain ⟨hK, hP, hD, hS, hA, hT⟩ := hw
  intro T hT2 X
  obtain ⟨v, st₀, t, T', L, h0, X', hL, e1, e2, ⟨⟨hv, hp, hk0⟩, hz, hk⟩, st⟩ := hr T hT2 X
  cases hv
  rw [h0] at hz hk
  have hal : s.vm.Alike t.vm := by rw [← e2]; exact X'.warmed.alike
  obtain ⟨t2, a1, b1⟩ := kk T'.heap (locs ++ L) ⟨hK, by rw [e1]; exact hp, zw_D M1 hD, ⟨Nat.le_trans hS.1 (by rw [e1]; exact hz), fun q h1 h2 => by rw [e1, hk q (Nat.lt_of_lt_of_le h1 hS.1) (fun z => h2 (hA1 q z))]; exact hS.2.1 q h1 h2, fun q hq => by
      rcases List.mem_append.mp hq with h | h
      · exact hS.2.2 q h
      · exact hA1 _ (hL q h)⟩, hA, hT⟩ T' rfl X'
  exact ⟨t2, st t2 a1, b1⟩
theorem zPre (hw : zWd G A s H locs M) {vs : List Value} : FrameBlind (va_Pc vs (fun U => U.heap.size = H.size ∧ va_P G.2.2.1 vwCl (zw G M) U.heap ∧ va_K G.2.2.1 vwCl (zty G) U ∧ va_D (fun _ => True) (zw G M) ∧ zSt G (va_A (zw G M) H.size) U U.heap)) ∧ ∀ U : State, U.heap = H → s.WarmedH U.vm → va_Pc vs (fun U => U.heap.size = H.size ∧ va_P G.2.2.1 vwCl (zw G M) U.heap ∧ va_K G.2.2.1 vwCl (zty G) U ∧ va_D (fun _ => True) (zw G M) ∧ zSt G (va_A (zw G M) H.size) U U.heap) vs.toArray U := by
  have hAq := zA_of hw
  obtain ⟨hK, hP, hD, hS, hA, hT⟩ := hw
  refine ⟨fun a U g mk q => ?_, fun U hU hW => ⟨rfl, by rw [hU], by rw [hU]; exact hP, va_K.moved hW.alike hK, hD.weaken (fun _ _ _ _ => trivial), by rw [hU]; exact hT.to hS hW hAq⟩⟩
  obtain ⟨q0, q1, q2, q3, q4, q5⟩ := q
  exact ⟨q0, q1, q2, va_K.moved (u := U) (U := U.calling g mk a) (Vm.Alike.refl U.vm) q3, q4, ⟨q5.1.moved (u := U) (U := U.calling g mk a) (Vm.Alike.refl U.vm), q5.2.1.moved (u := U) (U := U.calling g mk a) (Vm.Alike.refl U.vm), fun own i y h' hm => va_Nw.same (u := U) (U := U.calling g mk a) rfl rfl (q5.2.2.1 own i y h' hm), q5.2.2.2.moved (u := U) (U := U.calling g mk a) (Vm.Alike.refl U.vm)⟩⟩
theorem z_callV {y : MethodName} {bytes : ByteArray} {maxL dq n b ci index : Nat} {ret : Option FieldType} {As : List Value} {rv : Option Value} (S : zX p R s m args c cells slots cc nL own) (hw : zWd G A s H locs M) (hC : zCt l y bytes maxL ret dq G (.ref (za G b) :: As) M rv M1) (hmv : zMv y bytes maxL ret n) (hlk : zLk own index y) (hb : zk G b = 10 + ci) (hci : ∃ T N, vwCl[ci]? = some (y.cls, T, N)) (hc13 : ci < 12) (hn : As.length = n) (hst : st0 = As.reverse ++ .ref (za G b) :: rest) (hcat : (rest.map fun v => v.category).sum ≤ 8) (hR : dq + 1 ≤ R.frames ∧ 8 + (maxL + 11) + 45 * dq ≤ R.locals) (hsz : ls.size = nL) (hdg : decode cc pc = .ok (.invokevirtual index, 3))
    (kk : ∀ (H1 : Heap) (locs1 : List Loc), zWd G A s H1 locs1 M1 → W p l e R s m args below meth c H1 locs1 cells slots Q (F0 m (pc + 3) ls (rv.toList ++ rest))) : W p l e R s m args below meth c H locs cells slots Q (F0 m pc ls st0) := by
  obtain ⟨hcode, hini, hins, hsel, hd1, hd2, hd3⟩ := hmv
  obtain ⟨T, N, hci⟩ := hci
  obtain ⟨S1, S2, S3⟩ := S
  have hts := S1.2.2.2.2
  have g3 := (zk_in hb (by omega)).2.2
  have hrecv : ∃ cellB : Cell, H[za G b]? = some cellB ∧ cellB.vm.isStatics = false ∧ s.vm.findClass y.cls = some cellB.cls := va_recv hw.1 hw.2.1 hci ((zw_at hb (by omega)).trans (by rw [zc_O g3]))
  rcases hlk with hlk | ⟨host, hlk⟩
  · refine z_back (index := index) (va_runV S1 (hC H.size) (cwV n hts (zGood ?_) rfl rfl rfl ⟨rfl, hd1, hd2, hd3⟩ ⟨hR.1, hR.2⟩) ⟨(zPre hw).1, hrecv, (zPre hw).2⟩ rfl hn hsz hst (lv_room hcat) hdg ⟨S2, S3⟩) hw (zA_of hw) kk
    exact List.forall_mem_cons.mpr ⟨hlk, List.forall_mem_cons.mpr ⟨hins, List.forall_mem_cons.mpr ⟨hsel, List.forall_mem_cons.mpr ⟨hini, List.forall_mem_cons.mpr ⟨hcode, fun _ h => h⟩⟩⟩⟩⟩
  · exact z_back (index := index) (va_runVN S1 (hC H.size) ⟨va_cnB n hts (zGoodM hcode) rfl rfl rfl (hw.2.2.2.2.2.2.2.1 _ _ _ _ hlk) (hts _ hini) ⟨hd1, hd2, hd3⟩ ⟨hR.1, hR.2⟩, hts _ hins, hts _ hsel⟩ ⟨(zPre hw).1, hrecv, (zPre hw).2⟩ rfl hn hsz hst (lv_room hcat) hdg ⟨S2, S3⟩) hw (zA_of hw) kk
theorem z_callS {y : MethodName} {bytes : ByteArray} {maxL dq n index : Nat} {ret : Option FieldType} {As : List Value} {rv : Option Value} (S : zX p R s m args c cells slots cc nL own) (hw : zWd G A s H locs M) (hC : zCt l y bytes maxL ret dq G As M rv M1) (hmv : zMs y bytes maxL ret n) (hlk : zLk own index y) (hn : As.length = n) (hst : st0 = As.reverse ++ rest) (hcat : (rest.map fun v => v.category).sum ≤ 8) (hR : dq + 1 ≤ R.frames ∧ 8 + (maxL + 11) + 45 * dq ≤ R.locals) (hsz : ls.size = nL) (hdg : decode cc pc = .ok (.invokestatic index, 3))
    (kk : ∀ (H1 : Heap) (locs1 : List Loc), zWd G A s H1 locs1 M1 → W p l e R s m args below meth c H1 locs1 cells slots Q (F0 m (pc + 3) ls (rv.toList ++ rest))) : W p l e R s m args below meth c H locs cells slots Q (F0 m pc ls st0) := by
  obtain ⟨hcode, hini, hsta, hd1, hd2, hd3⟩ := hmv
  obtain ⟨S1, S2, S3⟩ := S
  have hts := S1.2.2.2.2
  rcases hlk with hlk | ⟨host, hlk⟩
  · refine z_back (index := index) (va_runS S1 (hC H.size) (va_cwS n hts (zGood ?_) rfl rfl rfl ⟨hd1, hd2, hd3⟩ ⟨hR.1, hR.2⟩) ⟨(zPre hw).1, (zPre hw).2⟩ rfl hn hsz hst (lv_room hcat) hdg ⟨S2, S3⟩) hw (zA_of hw) kk
    exact List.forall_mem_cons.mpr ⟨hlk, List.forall_mem_cons.mpr ⟨hsta, List.forall_mem_cons.mpr ⟨hini, List.forall_mem_cons.mpr ⟨hcode, fun _ h => h⟩⟩⟩⟩
  · exact z_back (index := index) (va_runSN S1 (hC H.size) ⟨va_cnB n hts (zGoodM hcode) rfl rfl rfl (hw.2.2.2.2.2.2.2.1 _ _ _ _ hlk) (hts _ hini) ⟨hd1, hd2, hd3⟩ ⟨hR.1, hR.2⟩, hts _ hsta, trivial⟩ ⟨(zPre hw).1, (zPre hw).2⟩ rfl hn hsz hst (lv_room hcat) hdg ⟨S2, S3⟩) hw (zA_of hw) kk
theorem lv_topiE {x y : Int32} (h : y = x) (k : W p l e R s m args below meth c H locs cells slots Q (F0 m pc ls (.int y :: rest))) : W p l e R s m args below meth c H locs cells slots Q (F0 m pc ls (.int x :: rest)) := h ▸ k
theorem lv_toplE {x y : Int64} (h : y = x) (k : W p l e R s m args below meth c H locs cells slots Q (F0 m pc ls (.long y :: rest))) : W p l e R s m args below meth c H locs cells slots Q (F0 m pc ls (.long x :: rest)) := h ▸ k
end ZW
