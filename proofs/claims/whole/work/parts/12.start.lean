/-! THE CLAIM OUT OF ONE WALK OF THE LAW'S BODY. Your part is whole_start (and what it stands on); all else here is the same for every law, but numbers. -/
def R_law : String := "MayBeReadLaw"
def lw_P (b : Addr) (xs : List Int32) (args : Array Value) (s : State) : Prop := args = #[.ref b] ∧ s.IntsAt b xs ∧ xs.length ≤ 2048 ∧ (Jvm.Cond.and given_1 narrow_1).before args s = true
def lw_Q (_ : Array Value) (s : State) (o : Outcome) (t : State) : Prop := o = .returned (some (.int 1)) ∧ Framed s o t [] 600000 7302250
def lw_Z (below : List Frame) (a : Array Value) (s : State) : State → Prop := fun t => ∃ o, t.status = .running ∧ Ended t below o ∧ lw_Q a s o t
/-- the law's own end, with 1 on the stack, nothing written that was there before, its room as the claim has it -/
theorem lw_ret {p : Program} {l : Launch} {e : Env} {s : State} {m : MethodId} {below : List Frame} {meth : Method} {c : Code} {b : Nat} (hx : p.tables.exec = Jvm.exec) (hb : c.code = code) (hr : meth.sig.returnType = ret) (hlocks : meth.locks = false) {pc : Nat} {H : Heap} {ls : Array Slot} (hdg : decode code pc = .ok (.ireturn, 1)) : W p l e room_1 s m #[Value.ref b] below meth c H [] 600000 7302250 (lw_Z below #[Value.ref b] s) (F0 m pc ls [.int 1]) := by
  intro T hT X
  obtain ⟨fs, hret, hrun, hended, hW, hframe⟩ := X.leave (v := some (.int 1)) (hlocks := hlocks) (fun h => by rw [hr] at h; cases h)
  have hmeth' : T.vm.method? m = some meth := X.method'
  refine ⟨T.setFrames fs, ?_, .returned (some (.int 1)), hrun, hended, rfl, ⟨_, rfl⟩, hW, hframe⟩
  jvm_step X.here [X.here.top, hx, hb, hdg, hmeth', hr, ret, narrow_b1]
  (try refine ⟨rfl, ?_⟩); (try refine ⟨rfl, ?_⟩)
  first | (intro acts; rw [hret _ acts rfl rfl rfl]) | rw [hret _ _ rfl rfl rfl]
  exact Steps.refl _
/-- what holds at the law's entry: the machine, the code, the tables' words (any of lw_tbl by 'hts w (by decide +kernel)'), the script of L ints xs at the cell b, what the Statement gives of the start (any of its parts by flat_of_before) -/
def lw_At (p : Program) (s : State) (m : MethodId) (meth : Method) (c : Code) (b L : Nat) (xs : Nat → Int32) : Prop :=
  p.tables.exec = Jvm.exec ∧ c.code = code ∧ meth.sig.returnType = ret ∧ c.maxLocals = 4 ∧ s.vm.findClass R_law = some m.cls ∧ (∀ w ∈ lw_tbl, w.before #[Value.ref b] s = true) ∧ va_X b L xs s s.heap ∧ b < s.heap.size ∧ meth.locks = false ∧ (Jvm.Cond.and given_1 narrow_1).before #[Value.ref b] s = true
set_option maxHeartbeats 4000000 in
set_option maxRecDepth 100000 in
/-- THE LAW, from its entry -/
theorem whole_start_of (hpure : LawPure) {p : Program} {e : Env} {s : State} {m : MethodId} {below : List Frame} {meth : Method} {c : Code} (l : Launch) {b L : Nat} {xs : Nat → Int32} (hL : L ≤ 2048) (C0 : lw_At p s m meth c b L xs) : W p l e room_1 s m #[Value.ref b] below meth c s.heap [] 0 0 (lw_Z below #[Value.ref b] s) (entryFrame m ([Value.ref b] : List Value).toArray 4) := by
  obtain ⟨M1, M2, hM1, hM2, hlaw⟩ := hpure
  obtain ⟨hx, hb, hr, hml, hown, hts, hX, hbl, hlocks, hgv⟩ := id C0
  have hts2 : ∀ w ∈ WS, w.before #[Value.ref b] s = true := fun w h => hts w (List.mem_filter.mp h).1
  have hA : ∀ q : Nat, s.heap.size ≤ q → (fun q : Nat => s.heap.size ≤ q) q := fun _ h => h
  have hbA : ¬ (fun q : Nat => s.heap.size ≤ q) b := Nat.not_le.mpr hbl
  have hAn : ∀ a : Nat, a < s.heap.size → ¬ (fun q : Nat => s.heap.size ≤ q) a := fun a h => Nat.not_le.mpr h
  obtain ⟨cc0, ii0, hKn0⟩ := u_known (C := RX0) (T := TX0) (N := 3) (n := 3) hts2 inW0 (hts2 _ kc0.1)
  obtain ⟨cc1, ii1, hKn1⟩ := u_known (C := RX1) (T := TX1) (N := 4) (n := 4) hts2 inW1 (hts2 _ kc1.1)
  obtain ⟨cc2, ii2, hKn2⟩ := u_known (C := RX2) (T := TX2) (N := 6) (n := 6) hts2 inW2 (hts2 _ kc2.1)
  obtain ⟨cc3, ii3, hKn3⟩ := u_known (C := RX3) (T := TX3) (N := 4) (n := 4) hts2 inW3 (hts2 _ kc3.1)
  obtain ⟨cc4, ii4, hKn4⟩ := u_known (C := RX4) (T := TX4) (N := 2) (n := 2) hts2 inW4 (hts2 _ kc4.1)
  obtain ⟨cc5, ii5, hKn5⟩ := u_known (C := RX5) (T := TX5) (N := 5) (n := 5) hts2 inW5 (hts2 _ kc5.1)
  obtain ⟨cc6, ii6, hKn6⟩ := u_known (C := RX6) (T := TX6) (N := 3) (n := 3) hts2 inW6 (hts2 _ kc6.1)
  obtain ⟨cc7, ii7, hKn7⟩ := u_known (C := RX7) (T := TX7) (N := 10) (n := 10) hts2 inW7 (hts2 _ kc7.1)
  obtain ⟨cc8, ii8, hKn8⟩ := u_known (C := RX8) (T := TX8) (N := 2) (n := 2) hts2 inW8 (hts2 _ kc8.1)
  obtain ⟨cc9, ii9, hKn9⟩ := u_known (C := RX9) (T := TX9) (N := 2) (n := 2) hts2 inW9 (hts2 _ kc9.1)
  obtain ⟨cc10, ii10, hKn10⟩ := u_known (C := RX10) (T := TX10) (N := 2) (n := 2) hts2 inW10 (hts2 _ kc10.1)
  obtain ⟨cc11, ii11, hKn11⟩ := u_known (C := RX11) (T := TX11) (N := 14) (n := 14) hts2 inW11 (hts2 _ kc11.1)
  obtain ⟨cc12, ii12, hKn12⟩ := u_known (C := RX12) (T := TX12) (N := 39) (n := 39) hts2 inW12 (hts2 _ kc12.1)
  obtain ⟨dC, dI, hKc⟩ : ∃ (dC : Nat → ClassId) (dI : Nat → Nat → Nat), ∀ (k : Nat) (q : vw_C), vwCl[k]? = some q → u_Kn s q.1 q.2.1 q.2.2 (dC k) (dI k) := by
    refine ⟨fun k => if k = 0 then cc0 else if k = 1 then cc1 else if k = 2 then cc2 else if k = 3 then cc3 else if k = 4 then cc4 else if k = 5 then cc5 else if k = 6 then cc6 else if k = 7 then cc7 else if k = 8 then cc8 else if k = 9 then cc9 else if k = 10 then cc10 else if k = 11 then cc11 else cc12, fun k => if k = 0 then ii0 else if k = 1 then ii1 else if k = 2 then ii2 else if k = 3 then ii3 else if k = 4 then ii4 else if k = 5 then ii5 else if k = 6 then ii6 else if k = 7 then ii7 else if k = 8 then ii8 else if k = 9 then ii9 else if k = 10 then ii10 else if k = 11 then ii11 else ii12, ?_⟩
    intro k q hq
    match k, hq with
    | 0, hq => cases hq; exact hKn0
    | 1, hq => cases hq; exact hKn1
    | 2, hq => cases hq; exact hKn2
    | 3, hq => cases hq; exact hKn3
    | 4, hq => cases hq; exact hKn4
    | 5, hq => cases hq; exact hKn5
    | 6, hq => cases hq; exact hKn6
    | 7, hq => cases hq; exact hKn7
    | 8, hq => cases hq; exact hKn8
    | 9, hq => cases hq; exact hKn9
    | 10, hq => cases hq; exact hKn10
    | 11, hq => cases hq; exact hKn11
    | 12, hq => cases hq; exact hKn12
    | k + 13, hq => simp [vwCl] at hq
  have harr : ∀ ty : FieldType, Cond.arrayClass ty ∈ WS → (∀ n : Nat, ty ≠ .byte → True) → ∃ cA : ClassId, s.vm.findClass ("[" ++ ty.toString) = some cA ∧ ∃ (kA : Class) (comp : ClassId), s.vm.classes[cA]? = some kA ∧ kA.kind = .array comp ty := by
    intro ty hm _
    obtain ⟨cA, kA, comp, h1, h2, h3⟩ := Cond.arrayClass_spec (hts2 _ hm)
    exact ⟨cA, h1, kA, comp, h2, h3⟩
  obtain ⟨cI, hcI, kI, coI, hkI, hdI⟩ := harr .int (zIn 36 (by decide +kernel) (by decide +kernel)) (fun _ _ => trivial)
  obtain ⟨cJ, hcJ, kJ, coJ, hkJ, hdJ⟩ := harr .long (zIn 50 (by decide +kernel) (by decide +kernel)) (fun _ _ => trivial)
  obtain ⟨cZ, hcZ, kZ, coZ, hkZ, hdZ⟩ := harr .boolean (zIn 1040 (by decide +kernel) (by decide +kernel)) (fun _ _ => trivial)
  have hfl := flat_of_before _ hgv
  have hms : (Cond.arrayOf (Term.static "MayBeRead" "MARK_CASES" "[J") .long).before #[Value.ref b] s = true := hfl _ (by decide +kernel)
  have hml5 : (Cond.eq (Term.length (Term.static "MayBeRead" "MARK_CASES" "[J")) (Term.int 5)).before #[Value.ref b] s = true := hfl _ (by decide +kernel)
  have hm0 : (Cond.eq (Term.elem (Term.static "MayBeRead" "MARK_CASES" "[J") (Term.int 0)) (Term.long 2863311530)).before #[Value.ref b] s = true := hfl _ (by decide +kernel)
  have hm1 : (Cond.eq (Term.elem (Term.static "MayBeRead" "MARK_CASES" "[J") (Term.int 1)) (Term.long 3435973836)).before #[Value.ref b] s = true := hfl _ (by decide +kernel)
  have hm2 : (Cond.eq (Term.elem (Term.static "MayBeRead" "MARK_CASES" "[J") (Term.int 2)) (Term.long 4042322160)).before #[Value.ref b] s = true := hfl _ (by decide +kernel)
  have hm3 : (Cond.eq (Term.elem (Term.static "MayBeRead" "MARK_CASES" "[J") (Term.int 3)) (Term.long 4278255360)).before #[Value.ref b] s = true := hfl _ (by decide +kernel)
  have hm4 : (Cond.eq (Term.elem (Term.static "MayBeRead" "MARK_CASES" "[J") (Term.int 4)) (Term.long 4294901760)).before #[Value.ref b] s = true := hfl _ (by decide +kernel)
  obtain ⟨t, ht1, ht2⟩ := va_Tof (A := fun q : Nat => s.heap.size ≤ q) (f := fun j => .long (zmk j)) (N := 5) (by decide) hms (va_eqt hml5) (fun j hj => by
    rcases (show j = 0 ∨ j = 1 ∨ j = 2 ∨ j = 3 ∨ j = 4 by omega) with rfl | rfl | rfl | rfl | rfl
    · exact va_eqtl hm0
    · exact va_eqtl hm1
    · exact va_eqtl hm2
    · exact va_eqtl hm3
    · exact va_eqtl hm4) hAn
  have hZt := va_Zof (A := fun q : Nat => s.heap.size ≤ q) (C := "MayBeRead") (n := "MARK_CASES") (d := "[J") (hts _ (List.mem_append_right _ (List.mem_of_getElem? (i := 466) (by decide +kernel)))) (hts2 _ (zIn 1 (by decide +kernel) (by decide +kernel))) ht1 hAn
  have hNw : zNw s := fun own i y h hm => va_Nw.of rfl (hts _ hm)
  obtain ⟨G, hGe⟩ : ∃ G : ZG, G = ((fun _ => 0), (fun k => if k = 0 then cI else if k = 1 then cJ else cZ), (dC, dI), t, 0, 0) := ⟨_, rfl⟩
  have hw : yWd G (fun q : Nat => s.heap.size ≤ q) s s.heap [] ([] ++ []) := by
    subst hGe
    refine ⟨⟨hKc, fun k q hk => ?_⟩, fun k q h => by simp at h, ⟨fun i j p q h => by simp at h, fun k q h => by simp at h⟩, va_S.rf, hA, hZt, ht2, hNw⟩
    match k, hk with
    | 0, hk => cases hk; exact ⟨fun n z => ⟨fun k h => (by cases h), kI, hkI, coI, hdI⟩, hcI⟩
    | 1, hk => cases hk; exact ⟨fun n z => ⟨fun k h => (by cases h), kJ, hkJ, coJ, hdJ⟩, hcJ⟩
    | 2, hk => cases hk; exact ⟨fun n z => ⟨fun k h => (by cases h), kZ, hkZ, coZ, hdZ⟩, hcZ⟩
    | k + 3, hk => simp [zty] at hk
  have S : CallFix p m c cL_law 4 s #[Value.ref b] WS RL := ⟨hx, hb, hml, hown, hts2⟩
  have hl := lv_entry ([.ref b]) (n := 4) (Nat.le_of_ble_eq_true rfl)
  rw [lg_entry_eq]
  generalize (lg_sl ([.ref b]) ++ List.replicate (4 - (lg_sl ([.ref b])).length) Slot.unset).toArray = ls at hl ⊢
  have hl : lv_has ls 4 [(0, .ref b)] := hl
  refine y_new (fs := [.null, .null, .null, .null, .null, .null, .null, .null, .null, .null, .null, .null, .null, .null]) S hw (ci := 11) rfl inW11 tyX11_ok kn_L_7 kc11.1 kc11.2 df_11 ⟨Nat.le_of_ble_eq_true rfl, Nat.le_of_ble_eq_true rfl⟩ dL_law_0 (fun x0 H hw => ?_)
  refine lv_dup hx hb dL_law_3 rfl ?_
  refine y_call S hw (c_X11_init l G x0 M1 hM1) mi_11 ki_L_9 (Nat.le_of_ble_eq_true rfl) ⟨Nat.le_of_ble_eq_true rfl, Nat.le_of_ble_eq_true rfl⟩ ⟨Nat.le_of_ble_eq_true rfl, Nat.le_of_ble_eq_true rfl⟩ hl.1 dL_law_4 (fun W1 hp H locs hw => ?_)
  obtain ⟨as, hx0, rfl⟩ := hp
  refine lv_astore_n (lv' := [(1, .ref x0), (0, .ref b)]) hx hb dL_law_7 rfl hl (by decide) rfl (fun ls hl => ?_)
  have hw : yWd G (fun q : Nat => s.heap.size ≤ q) s H locs (zw (zG1 G as) M1 ++ []) := by rw [List.append_nil]; exact hw
  refine y_new (fs := [.null, .null, .null, .null, .null, .null, .null, .null, .null, .null, .int 0, .int 0, .int 0, .int 0, .int 0, .int 0, .int 0, .int 0, .null, .null, .null, .null, .null, .null, .null, .null, .int 0, .int 0, .int 0, .int 0, .int 0, .int 0, .null, .null, .int 0, .null, .null, .int 0, .null]) S hw (ci := 12) rfl inW12 tyX12_ok kn_L_10 kc12.1 kc12.2 df_12 ⟨Nat.le_of_ble_eq_true rfl, Nat.le_of_ble_eq_true rfl⟩ dL_law_8 (fun m0 H hw => ?_)
  refine lv_dup hx hb dL_law_11 rfl ?_
  refine y_call S hw (c_X12_init l G as m0 M1 M2 hM2) mi_12 ki_L_12 (Nat.le_of_ble_eq_true rfl) ⟨Nat.le_of_ble_eq_true rfl, Nat.le_of_ble_eq_true rfl⟩ ⟨Nat.le_of_ble_eq_true rfl, Nat.le_of_ble_eq_true rfl⟩ hl.1 dL_law_12 (fun W1 hp H locs hw => ?_)
  obtain ⟨bs, hm0', rfl⟩ := hp
  refine lv_astore_n (lv' := [(2, .ref m0), (1, .ref x0), (0, .ref b)]) hx hb dL_law_15 rfl hl (by decide) rfl (fun ls hl => ?_)
  refine lv_iconst (v := 0) hx hb dL_law_16 (by decide) ?_
  refine lv_istore_n (lv' := [(3, .int 0), (2, .ref m0), (1, .ref x0), (0, .ref b)]) hx hb dL_law_17 rfl hl (by decide) rfl (fun ls hl => ?_)
  refine W.widen (k := 74) (n := 17954) (Nat.le_of_ble_eq_true rfl) (Nat.le_of_ble_eq_true rfl) ?_
  have hw : zWd (zG2 G as bs) (fun q : Nat => s.heap.size ≤ q) s H locs M2 := hw
  have e1 : za (zG2 G as bs) 0 = x0 := hx0
  have e2 : za (zG2 G as bs) 50 = m0 := hm0'
  have hl : lv_has ls 4 [(0, .ref b), (1, .ref (za (zG2 G as bs) 0)), (2, .ref (za (zG2 G as bs) 50)), (3, .int 0)] := by rw [e1, e2]; exact lv_sub hl [3, 2, 1, 0] rfl
  have S2 : zX p room_1 s m #[Value.ref b] c 74 17954 cL_law 4 RL := ⟨S, Nat.le_of_ble_eq_true rfl, Nat.le_of_ble_eq_true rfl⟩
  refine w_L_law_18 (Or.inr (Or.inr rfl)) S2 hX hbl hbA 0 50 rfl rfl (K := fun _ => some 1) (fun M h H locs ls hw hl => ?_) zN 0 M2 (hlaw L xs hL) H locs ls hw hl
  refine lv_iconst (v := 1) hx hb dL_law_947 (by decide) ?_
  refine va_forget (fun q hq => hw.2.2.2.1.2.2 q hq) ?_
  refine W.widen (k := 600000) (n := 7302250) (Nat.le_of_ble_eq_true rfl) (Nat.le_of_ble_eq_true rfl) ?_
  exact lw_ret hx hb hr hlocks dL_law_948
