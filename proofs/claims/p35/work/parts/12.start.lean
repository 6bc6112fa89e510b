/-! THE CLAIM OUT OF ONE WALK OF THE LAW'S BODY. Your part is whole_start (and what it stands on); all else here is the same for every law, but numbers. -/
def R_law : String := "MayBeReadLaw"
def lw_P (b : Addr) (xs : List Int32) (args : Array Value) (s : State) : Prop := args = #[.ref b] ∧ s.IntsAt b xs ∧ xs.length ≤ 260 ∧ (Jvm.Cond.and given_1 narrow_1).before args s = true
def lw_Q (_ : Array Value) (s : State) (o : Outcome) (t : State) : Prop := o = .returned (some (.int 1)) ∧ Framed s o t [] 51 3353
def lw_Z (below : List Frame) (a : Array Value) (s : State) : State → Prop := fun t => ∃ o, t.status = .running ∧ Ended t below o ∧ lw_Q a s o t
/-- the law's own end, with 1 on the stack, nothing written that was there before, its room as the claim has it -/
theorem lw_ret {p : Program} {l : Launch} {e : Env} {s : State} {m : MethodId} {below : List Frame} {meth : Method} {c : Code} {b : Nat} (hx : p.tables.exec = Jvm.exec) (hb : c.code = code) (hr : meth.sig.returnType = ret) (hlocks : meth.locks = false) {pc : Nat} {H : Heap} {ls : Array Slot} (hdg : decode code pc = .ok (.ireturn, 1)) : W p l e room_1 s m #[Value.ref b] below meth c H [] 51 3353 (lw_Z below #[Value.ref b] s) (F0 m pc ls [.int 1]) := by
  intro T hT X
  obtain ⟨fs, hret, hrun, hended, hW, hframe⟩ := X.leave (v := some (.int 1)) (hlocks := hlocks) (fun h => by rw [hr] at h; cases h)
  have hmeth' : T.vm.method? m = some meth := X.method'
  refine ⟨T.setFrames fs, ?_, .returned (some (.int 1)), hrun, hended, rfl, ⟨_, rfl⟩, hW, hframe⟩
  jvm_step X.here [X.here.top, hx, hb, hdg, hmeth', hr, ret, narrow_b1]
  (try refine ⟨rfl, ?_⟩); (try refine ⟨rfl, ?_⟩)
  first | (intro acts; rw [hret _ acts rfl rfl rfl]) | rw [hret _ _ rfl rfl rfl]
  exact Steps.refl _
/-- what holds at the law's entry: the machine, the code, the tables' words (any of lw_tbl by 'hts w (by decide +kernel)'), the script of L ints xs at the cell b, what the Statement gives of the start (any of its parts by flat_of_before) -/
def lw_At (p : Program) (s : State) (m : MethodId) (meth : Method) (c : Code) (b L : Nat) (xs : Nat → Int32) : Prop :=
  p.tables.exec = Jvm.exec ∧ c.code = code ∧ meth.sig.returnType = ret ∧ c.maxLocals = 19 ∧ s.vm.findClass R_law = some m.cls ∧ (∀ w ∈ lw_tbl, w.before #[Value.ref b] s = true) ∧ va_X b L xs s s.heap ∧ b < s.heap.size ∧ meth.locks = false ∧ (Jvm.Cond.and given_1 narrow_1).before #[Value.ref b] s = true
set_option maxHeartbeats 4000000 in
set_option maxRecDepth 100000 in
/-- THE LAW, from its entry -/
theorem whole_start_of (hpure : LawPure) {p : Program} {e : Env} {s : State} {m : MethodId} {below : List Frame} {meth : Method} {c : Code} (l : Launch) {b L : Nat} {xs : Nat → Int32} (hL : L ≤ 260) (C0 : lw_At p s m meth c b L xs) : W p l e room_1 s m #[Value.ref b] below meth c s.heap [] 0 0 (lw_Z below #[Value.ref b] s) (entryFrame m ([Value.ref b] : List Value).toArray 19) := by
  obtain ⟨M1, hM1, hlaw⟩ := hpure
  obtain ⟨n0, M2, hM2, hn0, hlaw⟩ := hlaw L xs hL
  obtain ⟨hx, hb, hr, hml, hown, hts, hX, hbl, hlocks, hgv⟩ := id C0
  have hts2 : ∀ w ∈ WS, w.before #[Value.ref b] s = true := fun w h => hts w (List.mem_filter.mp h).1
  have hA : ∀ q : Nat, s.heap.size ≤ q → (fun q : Nat => s.heap.size ≤ q) q := fun _ h => h
  have hbA : ¬ (fun q : Nat => s.heap.size ≤ q) b := Nat.not_le.mpr hbl
  have hAn : ∀ a : Nat, a < s.heap.size → ¬ (fun q : Nat => s.heap.size ≤ q) a := fun a h => Nat.not_le.mpr h
  obtain ⟨cc0, ii0, hKn0⟩ := u_known (C := RX0) (T := TX0) (N := 3) (n := 3) hts2 inW0 (hts2 _ kc0.1)
  obtain ⟨cc1, ii1, hKn1⟩ := u_known (C := RX1) (T := TX1) (N := 4) (n := 4) hts2 inW1 (hts2 _ kc1.1)
  obtain ⟨cc2, ii2, hKn2⟩ := u_known (C := RX2) (T := TX2) (N := 6) (n := 6) hts2 inW2 (hts2 _ kc2.1)
  obtain ⟨cc3, ii3, hKn3⟩ := u_known (C := RX3) (T := TX3) (N := 4) (n := 4) hts2 inW3 (hts2 _ kc3.1)
  obtain ⟨cc4, ii4, hKn4⟩ := u_known (C := RX4) (T := TX4) (N := 2) (n := 2) hts2 inW4 (hts2 _ kc4.1)
  obtain ⟨cc5, ii5, hKn5⟩ := u_known (C := RX5) (T := TX5) (N := 5) (n := 5) hts2 inW5 (hts2 _ kc5.1)
  obtain ⟨cc6, ii6, hKn6⟩ := u_known (C := RX6) (T := TX6) (N := 3) (n := 3) hts2 inW6 (hts2 _ kc6.1)
  obtain ⟨cc7, ii7, hKn7⟩ := u_known (C := RX7) (T := TX7) (N := 10) (n := 10) hts2 inW7 (hts2 _ kc7.1)
  obtain ⟨cc8, ii8, hKn8⟩ := u_known (C := RX8) (T := TX8) (N := 2) (n := 2) hts2 inW8 (hts2 _ kc8.1)
  obtain ⟨cc9, ii9, hKn9⟩ := u_known (C := RX9) (T := TX9) (N := 2) (n := 2) hts2 inW9 (hts2 _ kc9.1)
  obtain ⟨cc10, ii10, hKn10⟩ := u_known (C := RX10) (T := TX10) (N := 2) (n := 2) hts2 inW10 (hts2 _ kc10.1)
  obtain ⟨cc11, ii11, hKn11⟩ := u_known (C := RX11) (T := TX11) (N := 14) (n := 14) hts2 inW11 (hts2 _ kc11.1)
  obtain ⟨dC, dI, hKc⟩ : ∃ (dC : Nat → ClassId) (dI : Nat → Nat → Nat), ∀ (k : Nat) (q : vw_C), vwCl[k]? = some q → u_Kn s q.1 q.2.1 q.2.2 (dC k) (dI k) := by
    refine ⟨fun k => if k = 0 then cc0 else if k = 1 then cc1 else if k = 2 then cc2 else if k = 3 then cc3 else if k = 4 then cc4 else if k = 5 then cc5 else if k = 6 then cc6 else if k = 7 then cc7 else if k = 8 then cc8 else if k = 9 then cc9 else if k = 10 then cc10 else cc11, fun k => if k = 0 then ii0 else if k = 1 then ii1 else if k = 2 then ii2 else if k = 3 then ii3 else if k = 4 then ii4 else if k = 5 then ii5 else if k = 6 then ii6 else if k = 7 then ii7 else if k = 8 then ii8 else if k = 9 then ii9 else if k = 10 then ii10 else ii11, ?_⟩
    intro k q hq
    match k, hq with
    | 0, hq => cases hq; exact hKn0
    | 1, hq => cases hq; exact hKn1
    | 2, hq => cases hq; exact hKn2
    | 3, hq => cases hq; exact hKn3
    | 4, hq => cases hq; exact hKn4
    | 5, hq => cases hq; exact hKn5
    | 6, hq => cases hq; exact hKn6
    | 7, hq => cases hq; exact hKn7
    | 8, hq => cases hq; exact hKn8
    | 9, hq => cases hq; exact hKn9
    | 10, hq => cases hq; exact hKn10
    | 11, hq => cases hq; exact hKn11
    | k + 12, hq => simp [vwCl] at hq
  have harr : ∀ ty : FieldType, Cond.arrayClass ty ∈ WS → (∀ n : Nat, ty ≠ .byte → True) → ∃ cA : ClassId, s.vm.findClass ("[" ++ ty.toString) = some cA ∧ ∃ (kA : Class) (comp : ClassId), s.vm.classes[cA]? = some kA ∧ kA.kind = .array comp ty := by
    intro ty hm _
    obtain ⟨cA, kA, comp, h1, h2, h3⟩ := Cond.arrayClass_spec (hts2 _ hm)
    exact ⟨cA, h1, kA, comp, h2, h3⟩
  obtain ⟨cI, hcI, kI, coI, hkI, hdI⟩ := harr .int (zIn 35 (by decide +kernel) (by decide +kernel)) (fun _ _ => trivial)
  obtain ⟨cJ, hcJ, kJ, coJ, hkJ, hdJ⟩ := harr .long (zIn 49 (by decide +kernel) (by decide +kernel)) (fun _ _ => trivial)
  have hfl := flat_of_before _ hgv
  have hms : (Cond.arrayOf (Term.static "MayBeRead" "MARK_CASES" "[J") .long).before #[Value.ref b] s = true := hfl _ (by decide +kernel)
  have hml5 : (Cond.eq (Term.length (Term.static "MayBeRead" "MARK_CASES" "[J")) (Term.int 5)).before #[Value.ref b] s = true := hfl _ (by decide +kernel)
  have hm0 : (Cond.eq (Term.elem (Term.static "MayBeRead" "MARK_CASES" "[J") (Term.int 0)) (Term.long 2863311530)).before #[Value.ref b] s = true := hfl _ (by decide +kernel)
  have hm1 : (Cond.eq (Term.elem (Term.static "MayBeRead" "MARK_CASES" "[J") (Term.int 1)) (Term.long 3435973836)).before #[Value.ref b] s = true := hfl _ (by decide +kernel)
  have hm2 : (Cond.eq (Term.elem (Term.static "MayBeRead" "MARK_CASES" "[J") (Term.int 2)) (Term.long 4042322160)).before #[Value.ref b] s = true := hfl _ (by decide +kernel)
  have hm3 : (Cond.eq (Term.elem (Term.static "MayBeRead" "MARK_CASES" "[J") (Term.int 3)) (Term.long 4278255360)).before #[Value.ref b] s = true := hfl _ (by decide +kernel)
  have hm4 : (Cond.eq (Term.elem (Term.static "MayBeRead" "MARK_CASES" "[J") (Term.int 4)) (Term.long 4294901760)).before #[Value.ref b] s = true := hfl _ (by decide +kernel)
  obtain ⟨t, ht1, ht2⟩ := va_Tof (A := fun q : Nat => s.heap.size ≤ q) (f := fun j => .long (zmk j)) (N := 5) (by decide) hms (va_eqt hml5) (fun j hj => by
    rcases (show j = 0 ∨ j = 1 ∨ j = 2 ∨ j = 3 ∨ j = 4 by omega) with rfl | rfl | rfl | rfl | rfl
    · exact va_eqtl hm0
    · exact va_eqtl hm1
    · exact va_eqtl hm2
    · exact va_eqtl hm3
    · exact va_eqtl hm4) hAn
  have hZt := va_Zof (A := fun q : Nat => s.heap.size ≤ q) (C := "MayBeRead") (n := "MARK_CASES") (d := "[J") (hts _ (List.mem_append_right _ (List.mem_of_getElem? (i := 463) (by decide +kernel)))) (hts2 _ (zIn 1 (by decide +kernel) (by decide +kernel))) ht1 hAn
  have hNw : zNw s := fun own i y h hm => va_Nw.of rfl (hts _ hm)
  have hXt : va_T .int b L (fun j => .int (xs j)) (fun q : Nat => s.heap.size ≤ q) s s.heap := by
    obtain ⟨scr, h1, h2, h3, h4, h5⟩ := hX
    exact ⟨scr, h1, h2, h3, by rw [h4]; exact Nat.le_refl _, by rw [h4] <;> rfl, h5, hbA⟩
  obtain ⟨G, hGe⟩ : ∃ G : ZG, G = ((fun _ => 0), (fun k => if k = 0 then cI else cJ), (dC, dI), t, 0, 0, b, L, xs) := ⟨_, rfl⟩
  have hsc : zSc G L xs := by rw [hGe]; rfl
  have hsb : G.2.2.2.2.2.2.1 = b := by rw [hGe]
  have hw : yWd G (fun q : Nat => s.heap.size ≤ q) s s.heap [] ([] ++ []) := by
    subst hGe
    refine ⟨⟨hKc, fun k q hk => ?_⟩, fun k q h => by simp at h, ⟨fun i j p q h => by simp at h, fun k q h => by simp at h⟩, va_S.rf, hA, hZt, ht2, hNw, hXt⟩
    match k, hk with
    | 0, hk => cases hk; exact ⟨fun n z => ⟨fun k h => (by cases h), kI, hkI, coI, hdI⟩, hcI⟩
    | 1, hk => cases hk; exact ⟨fun n z => ⟨fun k h => (by cases h), kJ, hkJ, coJ, hdJ⟩, hcJ⟩
    | k + 2, hk => simp [zty] at hk
  have S : CallFix p m c cL_law 19 s #[Value.ref b] WS RL := ⟨hx, hb, hml, hown, hts2⟩
  have hl := lv_entry ([.ref b]) (n := 19) (Nat.le_of_ble_eq_true rfl)
  rw [lg_entry_eq]
  generalize (lg_sl ([.ref b]) ++ List.replicate (19 - (lg_sl ([.ref b])).length) Slot.unset).toArray = ls at hl ⊢
  have hl : lv_has ls 19 [(0, .ref b)] := hl
  refine y_new (fs := [.null, .null, .null, .null, .null, .null, .null, .null, .null, .null, .null, .null, .null, .null]) S hw (ci := 11) rfl inW11 tyX11_ok kn_L_10 kc11.1 kc11.2 df_11 ⟨Nat.le_of_ble_eq_true rfl, Nat.le_of_ble_eq_true rfl⟩ dL_law_0 (fun x0 H hw => ?_)
  refine lv_dup hx hb dL_law_3 rfl ?_
  refine y_call S hw (c_X11_init l G x0 M1 hM1) mi_11 ki_L_62 (Nat.le_of_ble_eq_true rfl) ⟨Nat.le_of_ble_eq_true rfl, Nat.le_of_ble_eq_true rfl⟩ ⟨Nat.le_of_ble_eq_true rfl, Nat.le_of_ble_eq_true rfl⟩ hl.1 dL_law_4 (fun W1 hp H locs hw => ?_)
  obtain ⟨as, hx0, rfl⟩ := hp
  refine lv_astore_n (lv' := [(1, .ref x0), (0, .ref b)]) hx hb dL_law_7 rfl hl (by decide) rfl (fun ls hl => ?_)
  have hw : yWd G (fun q : Nat => s.heap.size ≤ q) s H locs (zw (zG1 G as) M1 ++ []) := by rw [List.append_nil]; exact hw
  refine lv_bipush (v := 64) hx hb dL_law_8 (by decide) ?_
  refine y_newI (N := 64) S hw (by decide) (by decide) (by decide) ⟨Nat.le_of_ble_eq_true rfl, Nat.le_of_ble_eq_true rfl⟩ dL_law_10 (fun u0 H hw => ?_)
  have hw : yWd G (fun q : Nat => s.heap.size ≤ q) s H locs (zw (zG2 G as u0) (zmix M1)) := by rw [z_world2]; exact hw
  refine lv_astore_n (lv' := [(2, .ref u0), (1, .ref x0), (0, .ref b)]) hx hb dL_law_12 rfl hl (by decide) rfl (fun ls hl => ?_)
  refine W.widen (k := 51) (n := 3353) (Nat.le_of_ble_eq_true rfl) (Nat.le_of_ble_eq_true rfl) ?_
  have hw : zWd (zG2 G as u0) (fun q : Nat => s.heap.size ≤ q) s H locs (zmix M1) := hw
  have hG : zOk (zG2 G as u0) := Or.inr rfl
  have hsc : zSc (zG2 G as u0) L xs := hsc
  have e0 : (zG2 G as u0).2.2.2.2.2.2.1 = b := hsb
  have e1 : za (zG2 G as u0) 0 = x0 := hx0
  have e2 : za (zG2 G as u0) 50 = u0 := rfl
  have k1 : zk (zG2 G as u0) 0 = 21 := rfl
  have k2 : zk (zG2 G as u0) 50 = 0 := rfl
  have hl : lv_has ls 19 [(2, .ref (za (zG2 G as u0) 50)), (1, .ref (za (zG2 G as u0) 0)), (0, .ref (zG2 G as u0).2.2.2.2.2.2.1)] := by rw [e0, e1, e2]; exact hl
  have S2 : zX p room_1 s m #[Value.ref b] c 51 3353 cL_law 19 RL := ⟨S, Nat.le_of_ble_eq_true rfl, Nat.le_of_ble_eq_true rfl⟩
  refine lv_aload_n hx hb dL_law_13 rfl (lv_at hl 1 rfl) ?_
  refine lv_aload_n hx hb dL_law_14 rfl (lv_at hl 0 rfl) ?_
  refine lv_aload_n hx hb dL_law_15 rfl (lv_at hl 2 rfl) ?_
  refine lv_iconst (v := 0) hx hb dL_law_16 (by decide) ?_
  refine z_callS (As := [.ref (za (zG2 G as u0) 0), .ref (za (zG2 G as u0) 50), .ref (zG2 G as u0).2.2.2.2.2.2.1, .int 0]) (rest := []) (rv := (some (.int n0))) (M1 := M2) S2 hw (c_L_sentence l hG 0 50 L xs 0 k1 k2 hsc (zmix M1) (n0, M2) hM2) mv_L_sentence lk_L_63 rfl rfl (Nat.le_of_ble_eq_true rfl) ⟨Nat.le_of_ble_eq_true rfl, Nat.le_of_ble_eq_true rfl⟩ hl.1 dL_law_17 (fun H locs hw => ?_)
  refine lv_istore_n (lv' := [(3, .int n0), (2, .ref (za (zG2 G as u0) 50)), (1, .ref (za (zG2 G as u0) 0)), (0, .ref (zG2 G as u0).2.2.2.2.2.2.1)]) hx hb dL_law_20 rfl hl (by decide) rfl (fun ls hl => ?_)
  refine lv_iload_n hx hb dL_law_21 rfl (lv_at hl 0 rfl) ?_
  refine lv_if_ge (tgt := 27) hx hb dL_law_22 (by decide) (fun _ => ?_) (fun c1 => absurd hn0 c1)
  refine lv_bipush (v := 6) hx hb dL_law_27 (by decide) ?_
  refine lv_istore (lv' := [(4, .int 6), (3, .int n0), (2, .ref (za (zG2 G as u0) 50)), (1, .ref (za (zG2 G as u0) 0)), (0, .ref (zG2 G as u0).2.2.2.2.2.2.1)]) hx hb dL_law_29 hl (by decide) rfl (fun ls hl => ?_)
  refine w_L_law_31 hG S2 L xs 0 hsc k1 (K := fun _ => some 1) (fun M h H locs ls hw hl => ?_) zN 6 M2 hlaw H locs ls hw (lv_sub hl [4, 3, 0] rfl)
  refine lv_iconst (v := 1) hx hb dL_law_948 (by decide) ?_
  refine va_forget (fun q hq => hw.2.2.2.1.2.2 q hq) ?_
  exact lw_ret hx hb hr hlocks dL_law_949
