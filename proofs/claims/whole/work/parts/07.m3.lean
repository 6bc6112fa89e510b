section Z
variable {p : Program} {l : Launch} {e : Env} {s : State} {m : MethodId} {args : Array Value} {below : List Frame} {meth : Method} {c : Code} {A : Nat → Prop}
def f_X12_means (t0 : Nat) (v1 : Int32) (M : ZM) : Option (Int64 × ZM) :=
  zlet (f_X12_wrong t0 v1 M) fun (q1 : Int32) =>
  if q1 = 0 then (
    zck (zin v1 (zn (zr t0 25))) <|
    some ((M.2 (zr t0 25) v1.toNatClampNeg), M)) else (
    (f_X12_refuse t0 q1 M).bind fun (q4 : (Int32 × ZM)) =>
    some ((q4.1.toInt64), q4.2))
set_option maxHeartbeats 4000000 in
set_option maxRecDepth 100000 in
theorem c_X12_means (l : Launch) {G : ZG} (hG : zOk G) (t0 : Nat) (v1 : Int32) (k0 : zk G t0 = 22) (M : ZM) (res : (Int64 × ZM)) (h : f_X12_means t0 v1 M = some res) : zCt l yX12_means cX12_means 3 (Option.some FieldType.long) 2 G [.ref (za G t0), .int v1] M (some (.long res.1)) res.2 := by
  refine zCt.mk (by decide +kernel) (Nat.le_of_ble_eq_true rfl) ?_
  intro p e s m args below meth c A H locs ls S hr hlk hw hl
  have S : zX p (zR 2) s m args c 0 0 cX12_means 3 RX12 := S
  have hx := S.1.1
  have hb := S.1.2.1
  have hown := S.1.2.2.2.1
  have hts := S.1.2.2.2.2
  have hl : lv_has ls 3 [(0, .ref (za G t0)), (1, .int v1)] := hl
  unfold f_X12_means at h
  refine lv_aload_n hx hb dX12_means_0 rfl (lv_at hl 0 rfl) ?_
  refine lv_iload_n hx hb dX12_means_1 rfl (lv_at hl 1 rfl) ?_
  obtain ⟨q1, eq1, h⟩ := zlet_ex h
  refine z_callV (ci := 12) (As := [.int v1]) (rest := []) (rv := (some (.int q1))) (M1 := M) S hw (c_X12_wrong l hG t0 v1 k0 M q1 eq1.symm) mv_X12_wrong lk_X12_176 k0 ⟨_, _, rfl⟩ (by decide) rfl rfl (Nat.le_of_ble_eq_true rfl) ⟨Nat.le_of_ble_eq_true rfl, Nat.le_of_ble_eq_true rfl⟩ hl.1 dX12_means_2 (fun H locs hw => ?_)
  refine lv_istore_n (lv' := [(2, .int q1), (0, .ref (za G t0)), (1, .int v1)]) hx hb dX12_means_5 rfl hl (by decide) rfl (fun ls hl => ?_)
  refine lv_iload_n hx hb dX12_means_6 rfl (lv_at hl 0 rfl) ?_
  refine lv_if_eq (tgt := 19) hx hb dX12_means_7 (by decide) (fun c2 => ?_) (fun c2 => ?_)
  · have h := zif_t h c2
    refine lv_aload_n hx hb dX12_means_19 rfl (lv_at hl 1 rfl) ?_
    refine z_getR S hw k0 fl_X12_62 rfl dX12_means_20 ?_
    refine lv_iload_n hx hb dX12_means_23 rfl (lv_at hl 2 rfl) ?_
    obtain ⟨g3, h⟩ := zck_ex h
    refine z_lald S hw (kr_12_25 hG k0) g3 dX12_means_24 ?_
    have h := Option.some.inj h
    subst h
    exact z_ret_l S hr hlk hw dX12_means_25
  · have h := zif_f h c2
    refine lv_aload_n hx hb dX12_means_10 rfl (lv_at hl 1 rfl) ?_
    refine lv_iload_n hx hb dX12_means_11 rfl (lv_at hl 0 rfl) ?_
    obtain ⟨q4, eq4, h⟩ := Option.bind_eq_some_iff.mp h
    refine z_callV (ci := 12) (As := [.int q1]) (rest := []) (rv := (some (.int q4.1))) (M1 := q4.2) S hw (c_X12_refuse l hG t0 q1 k0 M q4 eq4) mv_X12_refuse lk_X12_91 k0 ⟨_, _, rfl⟩ (by decide) rfl rfl (Nat.le_of_ble_eq_true rfl) ⟨Nat.le_of_ble_eq_true rfl, Nat.le_of_ble_eq_true rfl⟩ hl.1 dX12_means_12 (fun H locs hw => ?_)
    refine lv_i2l (v := (q4.1.toInt64)) hx hb dX12_means_15 rfl ?_
    refine lv_goto (tgt := 25) hx hb dX12_means_16 (by decide) ?_
    have h := Option.some.inj h
    subst h
    exact z_ret_l S hr hlk hw dX12_means_25
def f_X12_does (t0 : Nat) (v1 : Int32) (v2 : Int32) (M : ZM) : Option Int32 :=
  zck (zin v1 (zn (zr t0 25))) <|
  if (lg_cmp (((M.2 (zr t0 25) v1.toNatClampNeg) >>> (v2.toInt64 &&& 63)) &&& 1) 1) = 0 then (
    some (1 : Int32)) else (
    some (0 : Int32))
set_option maxHeartbeats 4000000 in
set_option maxRecDepth 100000 in
theorem c_X12_does (l : Launch) {G : ZG} (hG : zOk G) (t0 : Nat) (v1 : Int32) (v2 : Int32) (k0 : zk G t0 = 22) (M : ZM) (res : Int32) (h : f_X12_does t0 v1 v2 M = some res) : zCt l yX12_does cX12_does 3 (Option.some FieldType.boolean) 0 G [.ref (za G t0), .int v1, .int v2] M (some (.int res)) M := by
  refine zCt.mk (by decide +kernel) (Nat.le_of_ble_eq_true rfl) ?_
  intro p e s m args below meth c A H locs ls S hr hlk hw hl
  have S : zX p (zR 0) s m args c 0 0 cX12_does 3 RX12 := S
  have hx := S.1.1
  have hb := S.1.2.1
  have hown := S.1.2.2.2.1
  have hts := S.1.2.2.2.2
  have hl : lv_has ls 3 [(0, .ref (za G t0)), (1, .int v1), (2, .int v2)] := hl
  unfold f_X12_does at h
  refine lv_aload_n hx hb dX12_does_0 rfl (lv_at hl 0 rfl) ?_
  refine z_getR S hw k0 fl_X12_62 rfl dX12_does_1 ?_
  refine lv_iload_n hx hb dX12_does_4 rfl (lv_at hl 1 rfl) ?_
  obtain ⟨g1, h⟩ := zck_ex h
  refine z_lald S hw (kr_12_25 hG k0) g1 dX12_does_5 ?_
  refine lv_iload_n hx hb dX12_does_6 rfl (lv_at hl 2 rfl) ?_
  refine lv_lshr (v := ((M.2 (zr t0 25) v1.toNatClampNeg) >>> (v2.toInt64 &&& 63))) hx hb dX12_does_7 rfl ?_
  refine lv_lconst (v := 1) hx hb dX12_does_8 (by decide) ?_
  refine lv_land hx hb dX12_does_9 ?_
  refine lv_lconst (v := 1) hx hb dX12_does_10 (by decide) ?_
  refine W.lcmp hx hb dX12_does_11 ?_
  refine lv_if_ne (tgt := 19) hx hb dX12_does_12 (by decide) (fun c2 => ?_) (fun c2 => ?_)
  · have h := zif_f h c2
    refine lv_iconst (v := 0) hx hb dX12_does_19 (by decide) ?_
    have h := Option.some.inj h
    subst h
    exact z_ret_z S hr hlk (Or.inl rfl) hw dX12_does_20
  · have h := zif_t h c2
    refine lv_iconst (v := 1) hx hb dX12_does_15 (by decide) ?_
    refine lv_goto (tgt := 20) hx hb dX12_does_16 (by decide) ?_
    have h := Option.some.inj h
    subst h
    exact z_ret_z S hr hlk (Or.inr rfl) hw dX12_does_20
def f_X12_lets (t0 : Nat) (v1 : Int32) (v2 : Int32) (M : ZM) : Option (Int32 × ZM) :=
  zlet (fun (v3 : Int32) (M : ZM) =>
    if v3 = 0 then (
      (f_X12_does t0 v1 v2 M).bind fun (q2 : Int32) =>
      if q2 = 0 then (
        some ((0 : Int32), M)) else (
        some ((1 : Int32), M))) else (
      (f_X12_refuse t0 v3 M).bind fun (q4 : (Int32 × ZM)) =>
      some (q4.1, q4.2))) fun J21 =>
  zlet (f_X12_wrong t0 v1 M) fun (q5 : Int32) =>
  if q5 = 0 then (
    zlet (f_X12_isIn v2 32 M) fun (q7 : Int32) =>
    if q7 = 0 then (
      J21 (-1) M) else (
      J21 q5 M)) else (
    J21 q5 M)
set_option maxHeartbeats 4000000 in
set_option maxRecDepth 100000 in
theorem c_X12_lets (l : Launch) {G : ZG} (hG : zOk G) (t0 : Nat) (v1 : Int32) (v2 : Int32) (k0 : zk G t0 = 22) (M : ZM) (res : (Int32 × ZM)) (h : f_X12_lets t0 v1 v2 M = some res) : zCt l yX12_lets cX12_lets 4 (Option.some FieldType.int) 2 G [.ref (za G t0), .int v1, .int v2] M (some (.int res.1)) res.2 := by
  refine zCt.mk (by decide +kernel) (Nat.le_of_ble_eq_true rfl) ?_
  intro p e s m args below meth c A H locs ls S hr hlk hw hl
  have S : zX p (zR 2) s m args c 0 0 cX12_lets 4 RX12 := S
  have hx := S.1.1
  have hb := S.1.2.1
  have hown := S.1.2.2.2.1
  have hts := S.1.2.2.2.2
  have hl : lv_has ls 4 [(0, .ref (za G t0)), (1, .int v1), (2, .int v2)] := hl
  unfold f_X12_lets at h
  obtain ⟨J21, hJ21, h⟩ := zlet_ex h
  have wJ21 : ∀ (v3 : Int32) (M : ZM), J21 v3 M = some res → ∀ (H : Heap) (locs : List Loc) (ls : Array Slot), zWd G A s H locs M → lv_has ls 4 [(0, .ref (za G t0)), (1, .int v1), (2, .int v2), (3, .int v3)] → W p l e (zR 2) s m args below meth c H locs 0 0 (zQ below G A (some (.int res.1)) res.2 args s) (F0 m 21 ls []) := by
    intro v3 M h H locs ls hw hl
    subst hJ21
    refine lv_iload_n hx hb dX12_lets_21 rfl (lv_at hl 3 rfl) ?_
    refine lv_if_eq (tgt := 33) hx hb dX12_lets_22 (by decide) (fun c1 => ?_) (fun c1 => ?_)
    · have h := zif_t h c1
      refine lv_aload_n hx hb dX12_lets_33 rfl (lv_at hl 0 rfl) ?_
      refine lv_iload_n hx hb dX12_lets_34 rfl (lv_at hl 1 rfl) ?_
      refine lv_iload_n hx hb dX12_lets_35 rfl (lv_at hl 2 rfl) ?_
      obtain ⟨q2, eq2, h⟩ := Option.bind_eq_some_iff.mp h
      refine z_callV (ci := 12) (As := [.int v1, .int v2]) (rest := []) (rv := (some (.int q2))) (M1 := M) S hw (c_X12_does l hG t0 v1 v2 k0 M q2 eq2) mv_X12_does lk_X12_179 k0 ⟨_, _, rfl⟩ (by decide) rfl rfl (Nat.le_of_ble_eq_true rfl) ⟨Nat.le_of_ble_eq_true rfl, Nat.le_of_ble_eq_true rfl⟩ hl.1 dX12_lets_36 (fun H locs hw => ?_)
      refine lv_if_eq (tgt := 46) hx hb dX12_lets_39 (by decide) (fun c3 => ?_) (fun c3 => ?_)
      · have h := zif_t h c3
        refine lv_iconst (v := 0) hx hb dX12_lets_46 (by decide) ?_
        have h := Option.some.inj h
        subst h
        exact z_ret_i S hr hlk hw dX12_lets_47
      · have h := zif_f h c3
        refine lv_iconst (v := 1) hx hb dX12_lets_42 (by decide) ?_
        refine lv_goto (tgt := 47) hx hb dX12_lets_43 (by decide) ?_
        have h := Option.some.inj h
        subst h
        exact z_ret_i S hr hlk hw dX12_lets_47
    · have h := zif_f h c1
      refine lv_aload_n hx hb dX12_lets_25 rfl (lv_at hl 0 rfl) ?_
      refine lv_iload_n hx hb dX12_lets_26 rfl (lv_at hl 3 rfl) ?_
      obtain ⟨q4, eq4, h⟩ := Option.bind_eq_some_iff.mp h
      refine z_callV (ci := 12) (As := [.int v3]) (rest := []) (rv := (some (.int q4.1))) (M1 := q4.2) S hw (c_X12_refuse l hG t0 v3 k0 M q4 eq4) mv_X12_refuse lk_X12_91 k0 ⟨_, _, rfl⟩ (by decide) rfl rfl (Nat.le_of_ble_eq_true rfl) ⟨Nat.le_of_ble_eq_true rfl, Nat.le_of_ble_eq_true rfl⟩ hl.1 dX12_lets_27 (fun H locs hw => ?_)
      refine lv_goto (tgt := 47) hx hb dX12_lets_30 (by decide) ?_
      have h := Option.some.inj h
      subst h
      exact z_ret_i S hr hlk hw dX12_lets_47
  refine lv_aload_n hx hb dX12_lets_0 rfl (lv_at hl 0 rfl) ?_
  refine lv_iload_n hx hb dX12_lets_1 rfl (lv_at hl 1 rfl) ?_
  obtain ⟨q5, eq5, h⟩ := zlet_ex h
  refine z_callV (ci := 12) (As := [.int v1]) (rest := []) (rv := (some (.int q5))) (M1 := M) S hw (c_X12_wrong l hG t0 v1 k0 M q5 eq5.symm) mv_X12_wrong lk_X12_176 k0 ⟨_, _, rfl⟩ (by decide) rfl rfl (Nat.le_of_ble_eq_true rfl) ⟨Nat.le_of_ble_eq_true rfl, Nat.le_of_ble_eq_true rfl⟩ hl.1 dX12_lets_2 (fun H locs hw => ?_)
  refine lv_istore_n (lv' := [(3, .int q5), (0, .ref (za G t0)), (1, .int v1), (2, .int v2)]) hx hb dX12_lets_5 rfl hl (by decide) rfl (fun ls hl => ?_)
  refine lv_iload_n hx hb dX12_lets_6 rfl (lv_at hl 0 rfl) ?_
  refine lv_if_ne (tgt := 21) hx hb dX12_lets_7 (by decide) (fun c6 => ?_) (fun c6 => ?_)
  · have h := zif_f h c6
    exact wJ21 q5 M h H locs ls hw (lv_sub hl [1, 2, 3, 0] rfl)
  · have h := zif_t h c6
    refine lv_iload_n hx hb dX12_lets_10 rfl (lv_at hl 3 rfl) ?_
    refine lv_bipush (v := 32) hx hb dX12_lets_11 (by decide) ?_
    obtain ⟨q7, eq7, h⟩ := zlet_ex h
    refine z_callS (As := [.int v2, .int 32]) (rest := []) (rv := (some (.int q7))) (M1 := M) S hw (c_X12_isIn l hG v2 32 M q7 eq7.symm) mv_X12_isIn lk_X12_111 rfl rfl (Nat.le_of_ble_eq_true rfl) ⟨Nat.le_of_ble_eq_true rfl, Nat.le_of_ble_eq_true rfl⟩ hl.1 dX12_lets_13 (fun H locs hw => ?_)
    refine lv_if_ne (tgt := 21) hx hb dX12_lets_16 (by decide) (fun c8 => ?_) (fun c8 => ?_)
    · have h := zif_f h c8
      exact wJ21 q5 M h H locs ls hw (lv_sub hl [1, 2, 3, 0] rfl)
    · have h := zif_t h c8
      refine lv_iconst (v := (-1)) hx hb dX12_lets_19 (by decide) ?_
      refine lv_istore_n (lv' := [(3, .int (-1)), (0, .ref (za G t0)), (1, .int v1), (2, .int v2)]) hx hb dX12_lets_20 rfl hl (by decide) rfl (fun ls hl => ?_)
      exact wJ21 (-1) M h H locs ls hw (lv_sub hl [1, 2, 3, 0] rfl)
def f_X12_lettingOf_4 (t0 : Nat) (v1 : Int32) (M : ZM) (K : Int32 → Option Int32) : Nat → Int32 → Int32 → Option Int32
  | 0, _, _ => none
  | n + 1, v2, v3 =>
    if (M.1 t0 26) ≤ v3 then (
      K v2) else (
      (f_X12_does t0 v3 v1 M).bind fun (q2 : Int32) =>
      if q2 = 0 then (
        zlet (v2 + 0) fun (x4 : Int32) =>
        zlet (v3 + 1) fun (x5 : Int32) =>
        f_X12_lettingOf_4 t0 v1 M K n x4 x5) else (
        zlet (v2 + 1) fun (x6 : Int32) =>
        zlet (v3 + 1) fun (x7 : Int32) =>
        f_X12_lettingOf_4 t0 v1 M K n x6 x7))

def f_X12_lettingOf (t0 : Nat) (v1 : Int32) (M : ZM) : Option Int32 :=
  f_X12_lettingOf_4 t0 v1 M (fun (v2 : Int32) =>
    some v2) zN 0 0
set_option maxHeartbeats 4000000 in
set_option maxRecDepth 100000 in
theorem w_X12_lettingOf_4 {G : ZG} (hG : zOk G) (S : zX p (zR 1) s m args c 0 0 cX12_lettingOf 4 RX12) (hr : meth.sig.returnType = (Option.some FieldType.int)) (hlk : meth.locks = false) (t0 : Nat) (v1 : Int32) (k0 : zk G t0 = 22) (M : ZM)  {K : Int32 → Option Int32} {res : Int32} (hK : ∀ (v2 : Int32), K v2 = some res → ∀ (H : Heap) (locs : List Loc) (ls : Array Slot), zWd G A s H locs M → lv_has ls 4 [(2, .int v2)] → W p l e (zR 1) s m args below meth c H locs 0 0 (zQ below G A (some (.int res)) M args s) (F0 m 35 ls [])) : ∀ (n : Nat) (v2 : Int32) (v3 : Int32), f_X12_lettingOf_4 t0 v1 M K n v2 v3 = some res → ∀ (H : Heap) (locs : List Loc) (ls : Array Slot), zWd G A s H locs M → lv_has ls 4 [(0, .ref (za G t0)), (1, .int v1), (2, .int v2), (3, .int v3)] → W p l e (zR 1) s m args below meth c H locs 0 0 (zQ below G A (some (.int res)) M args s) (F0 m 4 ls []) := by
  have hx := S.1.1
  have hb := S.1.2.1
  have hown := S.1.2.2.2.1
  have hts := S.1.2.2.2.2
  intro n
  induction n with
  | zero =>
    intro v2 v3 h
    rw [f_X12_lettingOf_4] at h
    cases h
  | succ n ih =>
    intro v2 v3 h H locs ls hw hl
    rw [f_X12_lettingOf_4] at h
    refine lv_iload_n hx hb dX12_lettingOf_4 rfl (lv_at hl 3 rfl) ?_
    refine lv_aload_n hx hb dX12_lettingOf_5 rfl (lv_at hl 0 rfl) ?_
    refine z_getI S hw k0 fl_X12_129 rfl dX12_lettingOf_6 ?_
    refine lv_icmp_ge (tgt := 35) hx hb dX12_lettingOf_9 (by decide) (fun c1 => ?_) (fun c1 => ?_)
    · have h := zif_t h c1
      exact hK v2 h H locs ls hw (lv_sub hl [2] rfl)
    · have h := zif_f h c1
      refine lv_iload_n hx hb dX12_lettingOf_12 rfl (lv_at hl 2 rfl) ?_
      refine lv_aload_n hx hb dX12_lettingOf_13 rfl (lv_at hl 0 rfl) ?_
      refine lv_iload_n hx hb dX12_lettingOf_14 rfl (lv_at hl 3 rfl) ?_
      refine lv_iload_n hx hb dX12_lettingOf_15 rfl (lv_at hl 1 rfl) ?_
      obtain ⟨q2, eq2, h⟩ := Option.bind_eq_some_iff.mp h
      refine z_callV (ci := 12) (As := [.int v3, .int v1]) (rest := [.int v2]) (rv := (some (.int q2))) (M1 := M) S hw (c_X12_does l hG t0 v3 v1 k0 M q2 eq2) mv_X12_does lk_X12_179 k0 ⟨_, _, rfl⟩ (by decide) rfl rfl (Nat.le_of_ble_eq_true rfl) ⟨Nat.le_of_ble_eq_true rfl, Nat.le_of_ble_eq_true rfl⟩ hl.1 dX12_lettingOf_16 (fun H locs hw => ?_)
      refine lv_if_eq (tgt := 26) hx hb dX12_lettingOf_19 (by decide) (fun c3 => ?_) (fun c3 => ?_)
      · have h := zif_t h c3
        refine lv_iconst (v := 0) hx hb dX12_lettingOf_26 (by decide) ?_
        refine lv_iadd hx hb dX12_lettingOf_27 ?_
        obtain ⟨x4, ex4, h⟩ := zlet_ex h
        refine lv_topiE ex4 ?_
        refine lv_istore_n (lv' := [(2, .int x4), (0, .ref (za G t0)), (1, .int v1), (3, .int v3)]) hx hb dX12_lettingOf_28 rfl hl (by decide) rfl (fun ls hl => ?_)
        obtain ⟨x5, ex5, h⟩ := zlet_ex h
        refine lv_iinc (v := x5) (lv' := [(3, .int x5), (2, .int x4), (0, .ref (za G t0)), (1, .int v1)]) hx hb dX12_lettingOf_29 hl (k := 3) rfl (by rw [ex5]; rfl) (by decide) rfl (fun ls hl => ?_)
        refine lv_goto (tgt := 4) hx hb dX12_lettingOf_32 (by decide) ?_
        exact ih x4 x5 h H locs ls hw (lv_sub hl [2, 3, 1, 0] rfl)
      · have h := zif_f h c3
        refine lv_iconst (v := 1) hx hb dX12_lettingOf_22 (by decide) ?_
        refine lv_goto (tgt := 27) hx hb dX12_lettingOf_23 (by decide) ?_
        refine lv_iadd hx hb dX12_lettingOf_27 ?_
        obtain ⟨x6, ex6, h⟩ := zlet_ex h
        refine lv_topiE ex6 ?_
        refine lv_istore_n (lv' := [(2, .int x6), (0, .ref (za G t0)), (1, .int v1), (3, .int v3)]) hx hb dX12_lettingOf_28 rfl hl (by decide) rfl (fun ls hl => ?_)
        obtain ⟨x7, ex7, h⟩ := zlet_ex h
        refine lv_iinc (v := x7) (lv' := [(3, .int x7), (2, .int x6), (0, .ref (za G t0)), (1, .int v1)]) hx hb dX12_lettingOf_29 hl (k := 3) rfl (by rw [ex7]; rfl) (by decide) rfl (fun ls hl => ?_)
        refine lv_goto (tgt := 4) hx hb dX12_lettingOf_32 (by decide) ?_
        exact ih x6 x7 h H locs ls hw (lv_sub hl [2, 3, 1, 0] rfl)
set_option maxHeartbeats 4000000 in
set_option maxRecDepth 100000 in
theorem c_X12_lettingOf (l : Launch) {G : ZG} (hG : zOk G) (t0 : Nat) (v1 : Int32) (k0 : zk G t0 = 22) (M : ZM) (res : Int32) (h : f_X12_lettingOf t0 v1 M = some res) : zCt l yX12_lettingOf cX12_lettingOf 4 (Option.some FieldType.int) 1 G [.ref (za G t0), .int v1] M (some (.int res)) M := by
  refine zCt.mk (by decide +kernel) (Nat.le_of_ble_eq_true rfl) ?_
  intro p e s m args below meth c A H locs ls S hr hlk hw hl
  have S : zX p (zR 1) s m args c 0 0 cX12_lettingOf 4 RX12 := S
  have hx := S.1.1
  have hb := S.1.2.1
  have hown := S.1.2.2.2.1
  have hts := S.1.2.2.2.2
  have hl : lv_has ls 4 [(0, .ref (za G t0)), (1, .int v1)] := hl
  unfold f_X12_lettingOf at h
  refine lv_iconst (v := 0) hx hb dX12_lettingOf_0 (by decide) ?_
  refine lv_istore_n (lv' := [(2, .int 0), (0, .ref (za G t0)), (1, .int v1)]) hx hb dX12_lettingOf_1 rfl hl (by decide) rfl (fun ls hl => ?_)
  refine lv_iconst (v := 0) hx hb dX12_lettingOf_2 (by decide) ?_
  refine lv_istore_n (lv' := [(3, .int 0), (2, .int 0), (0, .ref (za G t0)), (1, .int v1)]) hx hb dX12_lettingOf_3 rfl hl (by decide) rfl (fun ls hl => ?_)
  refine w_X12_lettingOf_4 hG S hr hlk t0 v1 k0 M (fun v2 h H locs ls hw hl => ?_) zN 0 0 h H locs ls hw (lv_sub hl [2, 3, 1, 0] rfl)
  refine lv_iload_n hx hb dX12_lettingOf_35 rfl (lv_at hl 0 rfl) ?_
  have h := Option.some.inj h
  subst h
  exact z_ret_i S hr hlk hw dX12_lettingOf_36
def f_X12_map (t0 : Nat) (v1 : Int32) (M : ZM) : Option (Int32 × ZM) :=
  zlet (fun (s0 : Int32) (M : ZM) =>
    if s0 = 0 then (
      (f_X12_lettingOf t0 v1 M).bind fun (q2 : Int32) =>
      some (q2, M)) else (
      (f_X12_refuse t0 s0 M).bind fun (q3 : (Int32 × ZM)) =>
      some (q3.1, q3.2))) fun J26 =>
  if (M.1 t0 29) = 0 then (
    J26 (-5) M) else (
    zlet (f_X12_isIn v1 32 M) fun (q5 : Int32) =>
    if q5 = 0 then (
      J26 (-1) M) else (
      J26 0 M))
set_option maxHeartbeats 4000000 in
set_option maxRecDepth 100000 in
theorem c_X12_map (l : Launch) {G : ZG} (hG : zOk G) (t0 : Nat) (v1 : Int32) (k0 : zk G t0 = 22) (M : ZM) (res : (Int32 × ZM)) (h : f_X12_map t0 v1 M = some res) : zCt l yX12_map cX12_map 3 (Option.some FieldType.int) 2 G [.ref (za G t0), .int v1] M (some (.int res.1)) res.2 := by
  refine zCt.mk (by decide +kernel) (Nat.le_of_ble_eq_true rfl) ?_
  intro p e s m args below meth c A H locs ls S hr hlk hw hl
  have S : zX p (zR 2) s m args c 0 0 cX12_map 3 RX12 := S
  have hx := S.1.1
  have hb := S.1.2.1
  have hown := S.1.2.2.2.1
  have hts := S.1.2.2.2.2
  have hl : lv_has ls 3 [(0, .ref (za G t0)), (1, .int v1)] := hl
  unfold f_X12_map at h
  obtain ⟨J26, hJ26, h⟩ := zlet_ex h
  have wJ26 : ∀ (s0 : Int32) (M : ZM), J26 s0 M = some res → ∀ (H : Heap) (locs : List Loc) (ls : Array Slot), zWd G A s H locs M → lv_has ls 3 [(0, .ref (za G t0)), (1, .int v1)] → W p l e (zR 2) s m args below meth c H locs 0 0 (zQ below G A (some (.int res.1)) res.2 args s) (F0 m 26 ls [.int s0]) := by
    intro s0 M h H locs ls hw hl
    subst hJ26
    refine lv_istore_n (lv' := [(2, .int s0), (0, .ref (za G t0)), (1, .int v1)]) hx hb dX12_map_26 rfl hl (by decide) rfl (fun ls hl => ?_)
    refine lv_iload_n hx hb dX12_map_27 rfl (lv_at hl 0 rfl) ?_
    refine lv_if_eq (tgt := 39) hx hb dX12_map_28 (by decide) (fun c1 => ?_) (fun c1 => ?_)
    · have h := zif_t h c1
      refine lv_aload_n hx hb dX12_map_39 rfl (lv_at hl 1 rfl) ?_
      refine lv_iload_n hx hb dX12_map_40 rfl (lv_at hl 2 rfl) ?_
      obtain ⟨q2, eq2, h⟩ := Option.bind_eq_some_iff.mp h
      refine z_callV (ci := 12) (As := [.int v1]) (rest := []) (rv := (some (.int q2))) (M1 := M) S hw (c_X12_lettingOf l hG t0 v1 k0 M q2 eq2) mv_X12_lettingOf lk_X12_182 k0 ⟨_, _, rfl⟩ (by decide) rfl rfl (Nat.le_of_ble_eq_true rfl) ⟨Nat.le_of_ble_eq_true rfl, Nat.le_of_ble_eq_true rfl⟩ hl.1 dX12_map_41 (fun H locs hw => ?_)
      have h := Option.some.inj h
      subst h
      exact z_ret_i S hr hlk hw dX12_map_44
    · have h := zif_f h c1
      refine lv_aload_n hx hb dX12_map_31 rfl (lv_at hl 1 rfl) ?_
      refine lv_iload_n hx hb dX12_map_32 rfl (lv_at hl 0 rfl) ?_
      obtain ⟨q3, eq3, h⟩ := Option.bind_eq_some_iff.mp h
      refine z_callV (ci := 12) (As := [.int s0]) (rest := []) (rv := (some (.int q3.1))) (M1 := q3.2) S hw (c_X12_refuse l hG t0 s0 k0 M q3 eq3) mv_X12_refuse lk_X12_91 k0 ⟨_, _, rfl⟩ (by decide) rfl rfl (Nat.le_of_ble_eq_true rfl) ⟨Nat.le_of_ble_eq_true rfl, Nat.le_of_ble_eq_true rfl⟩ hl.1 dX12_map_33 (fun H locs hw => ?_)
      refine lv_goto (tgt := 44) hx hb dX12_map_36 (by decide) ?_
      have h := Option.some.inj h
      subst h
      exact z_ret_i S hr hlk hw dX12_map_44
  refine lv_aload_n hx hb dX12_map_0 rfl (lv_at hl 0 rfl) ?_
  refine z_getI S hw k0 fl_X12_170 rfl dX12_map_1 ?_
  refine lv_if_ne (tgt := 12) hx hb dX12_map_4 (by decide) (fun c4 => ?_) (fun c4 => ?_)
  · have h := zif_f h c4
    refine lv_iload_n hx hb dX12_map_12 rfl (lv_at hl 1 rfl) ?_
    refine lv_bipush (v := 32) hx hb dX12_map_13 (by decide) ?_
    obtain ⟨q5, eq5, h⟩ := zlet_ex h
    refine z_callS (As := [.int v1, .int 32]) (rest := []) (rv := (some (.int q5))) (M1 := M) S hw (c_X12_isIn l hG v1 32 M q5 eq5.symm) mv_X12_isIn lk_X12_111 rfl rfl (Nat.le_of_ble_eq_true rfl) ⟨Nat.le_of_ble_eq_true rfl, Nat.le_of_ble_eq_true rfl⟩ hl.1 dX12_map_15 (fun H locs hw => ?_)
    refine lv_if_eq (tgt := 25) hx hb dX12_map_18 (by decide) (fun c6 => ?_) (fun c6 => ?_)
    · have h := zif_t h c6
      refine lv_iconst (v := (-1)) hx hb dX12_map_25 (by decide) ?_
      exact wJ26 (-1) M h H locs ls hw (lv_sub hl [0, 1] rfl)
    · have h := zif_f h c6
      refine lv_iconst (v := 0) hx hb dX12_map_21 (by decide) ?_
      refine lv_goto (tgt := 26) hx hb dX12_map_22 (by decide) ?_
      exact wJ26 0 M h H locs ls hw (lv_sub hl [0, 1] rfl)
  · have h := zif_t h c4
    refine lv_bipush (v := (-5)) hx hb dX12_map_7 (by decide) ?_
    refine lv_goto (tgt := 26) hx hb dX12_map_9 (by decide) ?_
    exact wJ26 (-5) M h H locs ls hw (lv_sub hl [0, 1] rfl)
def f_X12_all_22 (t0 : Nat) (v1 : Int32) (K : Int64 → ZM → Option (Int64 × ZM)) : Nat → Int64 → Int32 → ZM → Option (Int64 × ZM)
  | 0, _, _, _ => none
  | n + 1, v2, v4, M =>
    if (M.1 t0 26) ≤ v4 then (
      K v2 M) else (
      if v1 = 0 then (
        zck (zin v4 (zn (zr t0 25))) <|
        zlet (v2 &&& ((M.2 (zr t0 25) v4.toNatClampNeg) ^^^ (-1))) fun (x5 : Int64) =>
        zlet (v4 + 1) fun (x6 : Int32) =>
        f_X12_all_22 t0 v1 K n x5 x6 M) else (
        zck (zin v4 (zn (zr t0 25))) <|
        zlet (v2 &&& (M.2 (zr t0 25) v4.toNatClampNeg)) fun (x8 : Int64) =>
        zlet (v4 + 1) fun (x9 : Int32) =>
        f_X12_all_22 t0 v1 K n x8 x9 M))

def f_X12_all (t0 : Nat) (v1 : Int32) (M : ZM) : Option (Int64 × ZM) :=
  if (M.1 t0 29) = 0 then (
    (f_X12_refuse t0 (-5) M).bind fun (q10 : (Int32 × ZM)) =>
    some ((q10.1.toInt64), q10.2)) else (
    f_X12_all_22 t0 v1 (fun (v2 : Int64) (M : ZM) =>
      some (v2, M)) zN 4294967295 0 M)
set_option maxHeartbeats 4000000 in
set_option maxRecDepth 100000 in
theorem w_X12_all_22 {G : ZG} (hG : zOk G) (S : zX p (zR 1) s m args c 0 0 cX12_all 5 RX12) (hr : meth.sig.returnType = (Option.some FieldType.long)) (hlk : meth.locks = false) (t0 : Nat) (v1 : Int32) (k0 : zk G t0 = 22)  {K : Int64 → ZM → Option (Int64 × ZM)} {res : (Int64 × ZM)} (hK : ∀ (v2 : Int64) (M : ZM), K v2 M = some res → ∀ (H : Heap) (locs : List Loc) (ls : Array Slot), zWd G A s H locs M → lv_has ls 5 [(2, .long v2)] → W p l e (zR 1) s m args below meth c H locs 0 0 (zQ below G A (some (.long res.1)) res.2 args s) (F0 m 65 ls [])) : ∀ (n : Nat) (v2 : Int64) (v4 : Int32) (M : ZM), f_X12_all_22 t0 v1 K n v2 v4 M = some res → ∀ (H : Heap) (locs : List Loc) (ls : Array Slot), zWd G A s H locs M → lv_has ls 5 [(0, .ref (za G t0)), (1, .int v1), (2, .long v2), (4, .int v4)] → W p l e (zR 1) s m args below meth c H locs 0 0 (zQ below G A (some (.long res.1)) res.2 args s) (F0 m 22 ls []) := by
  have hx := S.1.1
  have hb := S.1.2.1
  have hown := S.1.2.2.2.1
  have hts := S.1.2.2.2.2
  intro n
  induction n with
  | zero =>
    intro v2 v4 M h
    rw [f_X12_all_22] at h
    cases h
  | succ n ih =>
    intro v2 v4 M h H locs ls hw hl
    rw [f_X12_all_22] at h
    refine lv_iload hx hb dX12_all_22 (lv_at hl 3 rfl) ?_
    refine lv_aload_n hx hb dX12_all_24 rfl (lv_at hl 0 rfl) ?_
    refine z_getI S hw k0 fl_X12_129 rfl dX12_all_25 ?_
    refine lv_icmp_ge (tgt := 65) hx hb dX12_all_28 (by decide) (fun c2 => ?_) (fun c2 => ?_)
    · have h := zif_t h c2
      exact hK v2 M h H locs ls hw (lv_sub hl [2] rfl)
    · have h := zif_f h c2
      refine lv_lload_n hx hb dX12_all_31 rfl (lv_at hl 2 rfl) ?_
      refine lv_iload_n hx hb dX12_all_32 rfl (lv_at hl 1 rfl) ?_
      refine lv_if_eq (tgt := 46) hx hb dX12_all_33 (by decide) (fun c3 => ?_) (fun c3 => ?_)
      · have h := zif_t h c3
        refine lv_aload_n hx hb dX12_all_46 rfl (lv_at hl 0 rfl) ?_
        refine z_getR S hw k0 fl_X12_62 rfl dX12_all_47 ?_
        refine lv_iload hx hb dX12_all_50 (lv_at hl 3 rfl) ?_
        obtain ⟨g4, h⟩ := zck_ex h
        refine z_lald S hw (kr_12_25 hG k0) g4 dX12_all_52 ?_
        refine lv_ldc2 (v := (-1)) hx hb hown (hts _ kc_X12_152) dX12_all_53 ?_
        refine lv_lxor hx hb dX12_all_56 ?_
        refine lv_land hx hb dX12_all_57 ?_
        obtain ⟨x5, ex5, h⟩ := zlet_ex h
        refine lv_toplE ex5 ?_
        refine lv_lstore_n (lv' := [(2, .long x5), (0, .ref (za G t0)), (1, .int v1), (4, .int v4)]) hx hb dX12_all_58 rfl hl (by decide) rfl (fun ls hl => ?_)
        obtain ⟨x6, ex6, h⟩ := zlet_ex h
        refine lv_iinc (v := x6) (lv' := [(4, .int x6), (2, .long x5), (0, .ref (za G t0)), (1, .int v1)]) hx hb dX12_all_59 hl (k := 3) rfl (by rw [ex6]; rfl) (by decide) rfl (fun ls hl => ?_)
        refine lv_goto (tgt := 22) hx hb dX12_all_62 (by decide) ?_
        exact ih x5 x6 M h H locs ls hw (lv_sub hl [2, 3, 1, 0] rfl)
      · have h := zif_f h c3
        refine lv_aload_n hx hb dX12_all_36 rfl (lv_at hl 0 rfl) ?_
        refine z_getR S hw k0 fl_X12_62 rfl dX12_all_37 ?_
        refine lv_iload hx hb dX12_all_40 (lv_at hl 3 rfl) ?_
        obtain ⟨g7, h⟩ := zck_ex h
        refine z_lald S hw (kr_12_25 hG k0) g7 dX12_all_42 ?_
        refine lv_goto (tgt := 57) hx hb dX12_all_43 (by decide) ?_
        refine lv_land hx hb dX12_all_57 ?_
        obtain ⟨x8, ex8, h⟩ := zlet_ex h
        refine lv_toplE ex8 ?_
        refine lv_lstore_n (lv' := [(2, .long x8), (0, .ref (za G t0)), (1, .int v1), (4, .int v4)]) hx hb dX12_all_58 rfl hl (by decide) rfl (fun ls hl => ?_)
        obtain ⟨x9, ex9, h⟩ := zlet_ex h
        refine lv_iinc (v := x9) (lv' := [(4, .int x9), (2, .long x8), (0, .ref (za G t0)), (1, .int v1)]) hx hb dX12_all_59 hl (k := 3) rfl (by rw [ex9]; rfl) (by decide) rfl (fun ls hl => ?_)
        refine lv_goto (tgt := 22) hx hb dX12_all_62 (by decide) ?_
        exact ih x8 x9 M h H locs ls hw (lv_sub hl [2, 3, 1, 0] rfl)
set_option maxHeartbeats 4000000 in
set_option maxRecDepth 100000 in
theorem c_X12_all (l : Launch) {G : ZG} (hG : zOk G) (t0 : Nat) (v1 : Int32) (k0 : zk G t0 = 22) (M : ZM) (res : (Int64 × ZM)) (h : f_X12_all t0 v1 M = some res) : zCt l yX12_all cX12_all 5 (Option.some FieldType.long) 1 G [.ref (za G t0), .int v1] M (some (.long res.1)) res.2 := by
  refine zCt.mk (by decide +kernel) (Nat.le_of_ble_eq_true rfl) ?_
  intro p e s m args below meth c A H locs ls S hr hlk hw hl
  have S : zX p (zR 1) s m args c 0 0 cX12_all 5 RX12 := S
  have hx := S.1.1
  have hb := S.1.2.1
  have hown := S.1.2.2.2.1
  have hts := S.1.2.2.2.2
  have hl : lv_has ls 5 [(0, .ref (za G t0)), (1, .int v1)] := hl
  unfold f_X12_all at h
  refine lv_aload_n hx hb dX12_all_0 rfl (lv_at hl 0 rfl) ?_
  refine z_getI S hw k0 fl_X12_170 rfl dX12_all_1 ?_
  refine lv_if_ne (tgt := 15) hx hb dX12_all_4 (by decide) (fun c1 => ?_) (fun c1 => ?_)
  · have h := zif_f h c1
    refine lv_ldc2 (v := 4294967295) hx hb hown (hts _ kc_X12_142) dX12_all_15 ?_
    refine lv_lstore_n (lv' := [(2, .long 4294967295), (0, .ref (za G t0)), (1, .int v1)]) hx hb dX12_all_18 rfl hl (by decide) rfl (fun ls hl => ?_)
    refine lv_iconst (v := 0) hx hb dX12_all_19 (by decide) ?_
    refine lv_istore (lv' := [(4, .int 0), (2, .long 4294967295), (0, .ref (za G t0)), (1, .int v1)]) hx hb dX12_all_20 hl (by decide) rfl (fun ls hl => ?_)
    refine w_X12_all_22 hG S hr hlk t0 v1 k0 (fun v2 M h H locs ls hw hl => ?_) zN 4294967295 0 M h H locs ls hw (lv_sub hl [2, 3, 1, 0] rfl)
    refine lv_lload_n hx hb dX12_all_65 rfl (lv_at hl 0 rfl) ?_
    have h := Option.some.inj h
    subst h
    exact z_ret_l S hr hlk hw dX12_all_66
  · have h := zif_t h c1
    refine lv_aload_n hx hb dX12_all_7 rfl (lv_at hl 0 rfl) ?_
    refine lv_bipush (v := (-5)) hx hb dX12_all_8 (by decide) ?_
    obtain ⟨q10, eq10, h⟩ := Option.bind_eq_some_iff.mp h
    refine z_callV (ci := 12) (As := [.int (-5)]) (rest := []) (rv := (some (.int q10.1))) (M1 := q10.2) S hw (c_X12_refuse l hG t0 (-5) k0 M q10 eq10) mv_X12_refuse lk_X12_91 k0 ⟨_, _, rfl⟩ (by decide) rfl rfl (Nat.le_of_ble_eq_true rfl) ⟨Nat.le_of_ble_eq_true rfl, Nat.le_of_ble_eq_true rfl⟩ hl.1 dX12_all_10 (fun H locs hw => ?_)
    refine lv_i2l (v := (q10.1.toInt64)) hx hb dX12_all_13 rfl ?_
    have h := Option.some.inj h
    subst h
    exact z_ret_l S hr hlk hw dX12_all_14
def f_X12_same (t0 : Nat) (v1 : Int32) (v2 : Int32) (M : ZM) : Option (Int32 × ZM) :=
  zlet (fun (s0 : Int32) (M : ZM) =>
    if s0 = 0 then (
      zck (zin v1 (zn (zr t0 25))) <|
      zck (zin v2 (zn (zr t0 25))) <|
      if (lg_cmp (M.2 (zr t0 25) v1.toNatClampNeg) (M.2 (zr t0 25) v2.toNatClampNeg)) = 0 then (
        some ((1 : Int32), M)) else (
        some ((0 : Int32), M))) else (
      (f_X12_refuse t0 s0 M).bind fun (q5 : (Int32 × ZM)) =>
      some (q5.1, q5.2))) fun J21 =>
  zlet (f_X12_wrong t0 v1 M) fun (q6 : Int32) =>
  if q6 = 0 then (
    zlet (f_X12_wrong t0 v2 M) fun (q8 : Int32) =>
    J21 q8 M) else (
    zlet (f_X12_wrong t0 v1 M) fun (q9 : Int32) =>
    J21 q9 M)
set_option maxHeartbeats 4000000 in
set_option maxRecDepth 100000 in
theorem c_X12_same (l : Launch) {G : ZG} (hG : zOk G) (t0 : Nat) (v1 : Int32) (v2 : Int32) (k0 : zk G t0 = 22) (M : ZM) (res : (Int32 × ZM)) (h : f_X12_same t0 v1 v2 M = some res) : zCt l yX12_same cX12_same 4 (Option.some FieldType.int) 2 G [.ref (za G t0), .int v1, .int v2] M (some (.int res.1)) res.2 := by
  refine zCt.mk (by decide +kernel) (Nat.le_of_ble_eq_true rfl) ?_
  intro p e s m args below meth c A H locs ls S hr hlk hw hl
  have S : zX p (zR 2) s m args c 0 0 cX12_same 4 RX12 := S
  have hx := S.1.1
  have hb := S.1.2.1
  have hown := S.1.2.2.2.1
  have hts := S.1.2.2.2.2
  have hl : lv_has ls 4 [(0, .ref (za G t0)), (1, .int v1), (2, .int v2)] := hl
  unfold f_X12_same at h
  obtain ⟨J21, hJ21, h⟩ := zlet_ex h
  have wJ21 : ∀ (s0 : Int32) (M : ZM), J21 s0 M = some res → ∀ (H : Heap) (locs : List Loc) (ls : Array Slot), zWd G A s H locs M → lv_has ls 4 [(0, .ref (za G t0)), (1, .int v1), (2, .int v2)] → W p l e (zR 2) s m args below meth c H locs 0 0 (zQ below G A (some (.int res.1)) res.2 args s) (F0 m 21 ls [.int s0]) := by
    intro s0 M h H locs ls hw hl
    subst hJ21
    refine lv_istore_n (lv' := [(3, .int s0), (0, .ref (za G t0)), (1, .int v1), (2, .int v2)]) hx hb dX12_same_21 rfl hl (by decide) rfl (fun ls hl => ?_)
    refine lv_iload_n hx hb dX12_same_22 rfl (lv_at hl 0 rfl) ?_
    refine lv_if_eq (tgt := 34) hx hb dX12_same_23 (by decide) (fun c1 => ?_) (fun c1 => ?_)
    · have h := zif_t h c1
      refine lv_aload_n hx hb dX12_same_34 rfl (lv_at hl 1 rfl) ?_
      refine z_getR S hw k0 fl_X12_62 rfl dX12_same_35 ?_
      refine lv_iload_n hx hb dX12_same_38 rfl (lv_at hl 2 rfl) ?_
      obtain ⟨g2, h⟩ := zck_ex h
      refine z_lald S hw (kr_12_25 hG k0) g2 dX12_same_39 ?_
      refine lv_aload_n hx hb dX12_same_40 rfl (lv_at hl 1 rfl) ?_
      refine z_getR S hw k0 fl_X12_62 rfl dX12_same_41 ?_
      refine lv_iload_n hx hb dX12_same_44 rfl (lv_at hl 3 rfl) ?_
      obtain ⟨g3, h⟩ := zck_ex h
      refine z_lald S hw (kr_12_25 hG k0) g3 dX12_same_45 ?_
      refine W.lcmp hx hb dX12_same_46 ?_
      refine lv_if_ne (tgt := 54) hx hb dX12_same_47 (by decide) (fun c4 => ?_) (fun c4 => ?_)
      · have h := zif_f h c4
        refine lv_iconst (v := 0) hx hb dX12_same_54 (by decide) ?_
        have h := Option.some.inj h
        subst h
        exact z_ret_i S hr hlk hw dX12_same_55
      · have h := zif_t h c4
        refine lv_iconst (v := 1) hx hb dX12_same_50 (by decide) ?_
        refine lv_goto (tgt := 55) hx hb dX12_same_51 (by decide) ?_
        have h := Option.some.inj h
        subst h
        exact z_ret_i S hr hlk hw dX12_same_55
    · have h := zif_f h c1
      refine lv_aload_n hx hb dX12_same_26 rfl (lv_at hl 1 rfl) ?_
      refine lv_iload_n hx hb dX12_same_27 rfl (lv_at hl 0 rfl) ?_
      obtain ⟨q5, eq5, h⟩ := Option.bind_eq_some_iff.mp h
      refine z_callV (ci := 12) (As := [.int s0]) (rest := []) (rv := (some (.int q5.1))) (M1 := q5.2) S hw (c_X12_refuse l hG t0 s0 k0 M q5 eq5) mv_X12_refuse lk_X12_91 k0 ⟨_, _, rfl⟩ (by decide) rfl rfl (Nat.le_of_ble_eq_true rfl) ⟨Nat.le_of_ble_eq_true rfl, Nat.le_of_ble_eq_true rfl⟩ hl.1 dX12_same_28 (fun H locs hw => ?_)
      refine lv_goto (tgt := 55) hx hb dX12_same_31 (by decide) ?_
      have h := Option.some.inj h
      subst h
      exact z_ret_i S hr hlk hw dX12_same_55
  refine lv_aload_n hx hb dX12_same_0 rfl (lv_at hl 0 rfl) ?_
  refine lv_iload_n hx hb dX12_same_1 rfl (lv_at hl 1 rfl) ?_
  obtain ⟨q6, eq6, h⟩ := zlet_ex h
  refine z_callV (ci := 12) (As := [.int v1]) (rest := []) (rv := (some (.int q6))) (M1 := M) S hw (c_X12_wrong l hG t0 v1 k0 M q6 eq6.symm) mv_X12_wrong lk_X12_176 k0 ⟨_, _, rfl⟩ (by decide) rfl rfl (Nat.le_of_ble_eq_true rfl) ⟨Nat.le_of_ble_eq_true rfl, Nat.le_of_ble_eq_true rfl⟩ hl.1 dX12_same_2 (fun H locs hw => ?_)
  refine lv_if_eq (tgt := 16) hx hb dX12_same_5 (by decide) (fun c7 => ?_) (fun c7 => ?_)
  · have h := zif_t h c7
    refine lv_aload_n hx hb dX12_same_16 rfl (lv_at hl 0 rfl) ?_
    refine lv_iload_n hx hb dX12_same_17 rfl (lv_at hl 2 rfl) ?_
    obtain ⟨q8, eq8, h⟩ := zlet_ex h
    refine z_callV (ci := 12) (As := [.int v2]) (rest := []) (rv := (some (.int q8))) (M1 := M) S hw (c_X12_wrong l hG t0 v2 k0 M q8 eq8.symm) mv_X12_wrong lk_X12_176 k0 ⟨_, _, rfl⟩ (by decide) rfl rfl (Nat.le_of_ble_eq_true rfl) ⟨Nat.le_of_ble_eq_true rfl, Nat.le_of_ble_eq_true rfl⟩ hl.1 dX12_same_18 (fun H locs hw => ?_)
    exact wJ21 q8 M h H locs ls hw (lv_sub hl [0, 1, 2] rfl)
  · have h := zif_f h c7
    refine lv_aload_n hx hb dX12_same_8 rfl (lv_at hl 0 rfl) ?_
    refine lv_iload_n hx hb dX12_same_9 rfl (lv_at hl 1 rfl) ?_
    obtain ⟨q9, eq9, h⟩ := zlet_ex h
    refine z_callV (ci := 12) (As := [.int v1]) (rest := []) (rv := (some (.int q9))) (M1 := M) S hw (c_X12_wrong l hG t0 v1 k0 M q9 eq9.symm) mv_X12_wrong lk_X12_176 k0 ⟨_, _, rfl⟩ (by decide) rfl rfl (Nat.le_of_ble_eq_true rfl) ⟨Nat.le_of_ble_eq_true rfl, Nat.le_of_ble_eq_true rfl⟩ hl.1 dX12_same_10 (fun H locs hw => ?_)
    refine lv_goto (tgt := 21) hx hb dX12_same_13 (by decide) ?_
    exact wJ21 q9 M h H locs ls hw (lv_sub hl [0, 1, 2] rfl)
def f_X12_findUnlike_19 (t0 : Nat) (v1 : Int32) (K : Int32 → ZM → Option ZM) : Nat → Int32 → Int32 → ZM → Option ZM
  | 0, _, _, _ => none
  | n + 1, v2, v3, M =>
    if (M.1 t0 34) ≤ v3 then (
      K v2 M) else (
      if v2 = 0 then (
        zck (zin v3 (zn (zr t0 33))) <|
        zck (zin v1 (zn (zr t0 25))) <|
        if (lg_cmp (M.2 (zr t0 33) v3.toNatClampNeg) (M.2 (zr t0 25) v1.toNatClampNeg)) = 0 then (
          zlet (v3 + 1) fun (x10 : Int32) =>
          f_X12_findUnlike_19 t0 v1 K n 1 x10 M) else (
          zlet (v3 + 1) fun (x9 : Int32) =>
          f_X12_findUnlike_19 t0 v1 K n 0 x9 M)) else (
        zlet (v3 + 1) fun (x5 : Int32) =>
        f_X12_findUnlike_19 t0 v1 K n 1 x5 M))

def f_X12_findUnlike_7 (t0 : Nat) (K : ZM → Option ZM) : Nat → Int32 → ZM → Option ZM
  | 0, _, _ => none
  | n + 1, v1, M =>
    if (M.1 t0 26) ≤ v1 then (
      K M) else (
      f_X12_findUnlike_19 t0 v1 (fun (v2 : Int32) (M : ZM) =>
        if v2 = 0 then (
          zck (zin v1 (zn (zr t0 25))) <|
          zck (zin (M.1 t0 34) (zn (zr t0 33))) <|
          zlet (zl M (zr t0 33) (M.1 t0 34).toNatClampNeg (M.2 (zr t0 25) v1.toNatClampNeg)) fun (M14 : ZM) =>
          zlet (zi M14 t0 34 ((M14.1 t0 34) + 1)) fun (M15 : ZM) =>
          zlet (v1 + 1) fun (x16 : Int32) =>
          f_X12_findUnlike_7 t0 K n x16 M15) else (
          zlet (v1 + 1) fun (x17 : Int32) =>
          f_X12_findUnlike_7 t0 K n x17 M)) zN 0 0 M)

def f_X12_findUnlike (t0 : Nat) (M : ZM) : Option ZM :=
  zlet (zi M t0 34 0) fun (M1 : ZM) =>
  f_X12_findUnlike_7 t0 (fun (M : ZM) =>
    some M) zN 0 M1
set_option maxHeartbeats 4000000 in
set_option maxRecDepth 100000 in
theorem w_X12_findUnlike_19 {G : ZG} (hG : zOk G) (S : zX p (zR 0) s m args c 0 0 cX12_findUnlike 4 RX12) (hr : meth.sig.returnType = none) (hlk : meth.locks = false) (t0 : Nat) (v1 : Int32) (k0 : zk G t0 = 22)  {K : Int32 → ZM → Option ZM} {res : ZM} (hK : ∀ (v2 : Int32) (M : ZM), K v2 M = some res → ∀ (H : Heap) (locs : List Loc) (ls : Array Slot), zWd G A s H locs M → lv_has ls 4 [(0, .ref (za G t0)), (1, .int v1), (2, .int v2)] → W p l e (zR 0) s m args below meth c H locs 0 0 (zQ below G A none res args s) (F0 m 59 ls [])) : ∀ (n : Nat) (v2 : Int32) (v3 : Int32) (M : ZM), f_X12_findUnlike_19 t0 v1 K n v2 v3 M = some res → ∀ (H : Heap) (locs : List Loc) (ls : Array Slot), zWd G A s H locs M → lv_has ls 4 [(0, .ref (za G t0)), (1, .int v1), (2, .int v2), (3, .int v3)] → W p l e (zR 0) s m args below meth c H locs 0 0 (zQ below G A none res args s) (F0 m 19 ls []) := by
  have hx := S.1.1
  have hb := S.1.2.1
  have hown := S.1.2.2.2.1
  have hts := S.1.2.2.2.2
  intro n
  induction n with
  | zero =>
    intro v2 v3 M h
    rw [f_X12_findUnlike_19] at h
    cases h
  | succ n ih =>
    intro v2 v3 M h H locs ls hw hl
    rw [f_X12_findUnlike_19] at h
    refine lv_iload_n hx hb dX12_findUnlike_19 rfl (lv_at hl 3 rfl) ?_
    refine lv_aload_n hx hb dX12_findUnlike_20 rfl (lv_at hl 0 rfl) ?_
    refine z_getI S hw k0 fl_X12_185 rfl dX12_findUnlike_21 ?_
    refine lv_icmp_ge (tgt := 59) hx hb dX12_findUnlike_24 (by decide) (fun c3 => ?_) (fun c3 => ?_)
    · have h := zif_t h c3
      exact hK v2 M h H locs ls hw (lv_sub hl [0, 1, 2] rfl)
    · have h := zif_f h c3
      refine lv_iload_n hx hb dX12_findUnlike_27 rfl (lv_at hl 2 rfl) ?_
      refine lv_if_ne (tgt := 47) hx hb dX12_findUnlike_28 (by decide) (fun c4 => ?_) (fun c4 => ?_)
      · have h := zif_f h c4
        refine lv_iconst (v := 1) hx hb dX12_findUnlike_47 (by decide) ?_
        refine lv_goto (tgt := 52) hx hb dX12_findUnlike_48 (by decide) ?_
        refine lv_istore_n (lv' := [(2, .int 1), (0, .ref (za G t0)), (1, .int v1), (3, .int v3)]) hx hb dX12_findUnlike_52 rfl hl (by decide) rfl (fun ls hl => ?_)
        obtain ⟨x5, ex5, h⟩ := zlet_ex h
        refine lv_iinc (v := x5) (lv' := [(3, .int x5), (2, .int 1), (0, .ref (za G t0)), (1, .int v1)]) hx hb dX12_findUnlike_53 hl (k := 3) rfl (by rw [ex5]; rfl) (by decide) rfl (fun ls hl => ?_)
        refine lv_goto (tgt := 19) hx hb dX12_findUnlike_56 (by decide) ?_
        exact ih 1 x5 M h H locs ls hw (lv_sub hl [2, 3, 1, 0] rfl)
      · have h := zif_t h c4
        refine lv_aload_n hx hb dX12_findUnlike_31 rfl (lv_at hl 0 rfl) ?_
        refine z_getR S hw k0 fl_X12_72 rfl dX12_findUnlike_32 ?_
        refine lv_iload_n hx hb dX12_findUnlike_35 rfl (lv_at hl 3 rfl) ?_
        obtain ⟨g6, h⟩ := zck_ex h
        refine z_lald S hw (kr_12_33 hG k0) g6 dX12_findUnlike_36 ?_
        refine lv_aload_n hx hb dX12_findUnlike_37 rfl (lv_at hl 0 rfl) ?_
        refine z_getR S hw k0 fl_X12_62 rfl dX12_findUnlike_38 ?_
        refine lv_iload_n hx hb dX12_findUnlike_41 rfl (lv_at hl 1 rfl) ?_
        obtain ⟨g7, h⟩ := zck_ex h
        refine z_lald S hw (kr_12_25 hG k0) g7 dX12_findUnlike_42 ?_
        refine W.lcmp hx hb dX12_findUnlike_43 ?_
        refine lv_if_ne (tgt := 51) hx hb dX12_findUnlike_44 (by decide) (fun c8 => ?_) (fun c8 => ?_)
        · have h := zif_f h c8
          refine lv_iconst (v := 0) hx hb dX12_findUnlike_51 (by decide) ?_
          refine lv_istore_n (lv' := [(2, .int 0), (0, .ref (za G t0)), (1, .int v1), (3, .int v3)]) hx hb dX12_findUnlike_52 rfl hl (by decide) rfl (fun ls hl => ?_)
          obtain ⟨x9, ex9, h⟩ := zlet_ex h
          refine lv_iinc (v := x9) (lv' := [(3, .int x9), (2, .int 0), (0, .ref (za G t0)), (1, .int v1)]) hx hb dX12_findUnlike_53 hl (k := 3) rfl (by rw [ex9]; rfl) (by decide) rfl (fun ls hl => ?_)
          refine lv_goto (tgt := 19) hx hb dX12_findUnlike_56 (by decide) ?_
          exact ih 0 x9 M h H locs ls hw (lv_sub hl [2, 3, 1, 0] rfl)
        · have h := zif_t h c8
          refine lv_iconst (v := 1) hx hb dX12_findUnlike_47 (by decide) ?_
          refine lv_goto (tgt := 52) hx hb dX12_findUnlike_48 (by decide) ?_
          refine lv_istore_n (lv' := [(2, .int 1), (0, .ref (za G t0)), (1, .int v1), (3, .int v3)]) hx hb dX12_findUnlike_52 rfl hl (by decide) rfl (fun ls hl => ?_)
          obtain ⟨x10, ex10, h⟩ := zlet_ex h
          refine lv_iinc (v := x10) (lv' := [(3, .int x10), (2, .int 1), (0, .ref (za G t0)), (1, .int v1)]) hx hb dX12_findUnlike_53 hl (k := 3) rfl (by rw [ex10]; rfl) (by decide) rfl (fun ls hl => ?_)
          refine lv_goto (tgt := 19) hx hb dX12_findUnlike_56 (by decide) ?_
          exact ih 1 x10 M h H locs ls hw (lv_sub hl [2, 3, 1, 0] rfl)
set_option maxHeartbeats 4000000 in
set_option maxRecDepth 100000 in
theorem w_X12_findUnlike_7 {G : ZG} (hG : zOk G) (S : zX p (zR 0) s m args c 0 0 cX12_findUnlike 4 RX12) (hr : meth.sig.returnType = none) (hlk : meth.locks = false) (t0 : Nat) (k0 : zk G t0 = 22)  {K : ZM → Option ZM} {res : ZM} (hK : ∀  (M : ZM), K M = some res → ∀ (H : Heap) (locs : List Loc) (ls : Array Slot), zWd G A s H locs M → lv_has ls 4 [] → W p l e (zR 0) s m args below meth c H locs 0 0 (zQ below G A none res args s) (F0 m 97 ls [])) : ∀ (n : Nat) (v1 : Int32) (M : ZM), f_X12_findUnlike_7 t0 K n v1 M = some res → ∀ (H : Heap) (locs : List Loc) (ls : Array Slot), zWd G A s H locs M → lv_has ls 4 [(0, .ref (za G t0)), (1, .int v1)] → W p l e (zR 0) s m args below meth c H locs 0 0 (zQ below G A none res args s) (F0 m 7 ls []) := by
  have hx := S.1.1
  have hb := S.1.2.1
  have hown := S.1.2.2.2.1
  have hts := S.1.2.2.2.2
  intro n
  induction n with
  | zero =>
    intro v1 M h
    rw [f_X12_findUnlike_7] at h
    cases h
  | succ n ih =>
    intro v1 M h H locs ls hw hl
    rw [f_X12_findUnlike_7] at h
    refine lv_iload_n hx hb dX12_findUnlike_7 rfl (lv_at hl 1 rfl) ?_
    refine lv_aload_n hx hb dX12_findUnlike_8 rfl (lv_at hl 0 rfl) ?_
    refine z_getI S hw k0 fl_X12_129 rfl dX12_findUnlike_9 ?_
    refine lv_icmp_ge (tgt := 97) hx hb dX12_findUnlike_12 (by decide) (fun c2 => ?_) (fun c2 => ?_)
    · have h := zif_t h c2
      exact hK M h H locs ls hw (lv_sub hl [] rfl)
    · have h := zif_f h c2
      refine lv_iconst (v := 0) hx hb dX12_findUnlike_15 (by decide) ?_
      refine lv_istore_n (lv' := [(2, .int 0), (0, .ref (za G t0)), (1, .int v1)]) hx hb dX12_findUnlike_16 rfl hl (by decide) rfl (fun ls hl => ?_)
      refine lv_iconst (v := 0) hx hb dX12_findUnlike_17 (by decide) ?_
      refine lv_istore_n (lv' := [(3, .int 0), (2, .int 0), (0, .ref (za G t0)), (1, .int v1)]) hx hb dX12_findUnlike_18 rfl hl (by decide) rfl (fun ls hl => ?_)
      refine w_X12_findUnlike_19 hG S hr hlk t0 v1 k0 (fun v2 M h H locs ls hw hl => ?_) zN 0 0 M h H locs ls hw (lv_sub hl [2, 3, 1, 0] rfl)
      refine lv_iload_n hx hb dX12_findUnlike_59 rfl (lv_at hl 2 rfl) ?_
      refine lv_if_eq (tgt := 66) hx hb dX12_findUnlike_60 (by decide) (fun c11 => ?_) (fun c11 => ?_)
      · have h := zif_t h c11
        refine lv_aload_n hx hb dX12_findUnlike_66 rfl (lv_at hl 0 rfl) ?_
        refine z_getR S hw k0 fl_X12_72 rfl dX12_findUnlike_67 ?_
        refine lv_aload_n hx hb dX12_findUnlike_70 rfl (lv_at hl 0 rfl) ?_
        refine z_getI S hw k0 fl_X12_185 rfl dX12_findUnlike_71 ?_
        refine lv_aload_n hx hb dX12_findUnlike_74 rfl (lv_at hl 0 rfl) ?_
        refine z_getR S hw k0 fl_X12_62 rfl dX12_findUnlike_75 ?_
        refine lv_iload_n hx hb dX12_findUnlike_78 rfl (lv_at hl 1 rfl) ?_
        obtain ⟨g12, h⟩ := zck_ex h
        refine z_lald S hw (kr_12_25 hG k0) g12 dX12_findUnlike_79 ?_
        obtain ⟨g13, h⟩ := zck_ex h
        obtain ⟨M14, eM14, h⟩ := zlet_ex h
        refine z_last S hw eM14 (kr_12_33 hG k0) g13 dX12_findUnlike_80 (fun H locs hw => ?_)
        refine lv_aload_n hx hb dX12_findUnlike_81 rfl (lv_at hl 0 rfl) ?_
        refine lv_dup hx hb dX12_findUnlike_82 rfl ?_
        refine z_getI S hw k0 fl_X12_185 rfl dX12_findUnlike_83 ?_
        refine lv_iconst (v := 1) hx hb dX12_findUnlike_86 (by decide) ?_
        refine lv_iadd hx hb dX12_findUnlike_87 ?_
        obtain ⟨M15, eM15, h⟩ := zlet_ex h
        refine z_putI S hw eM15 k0 fl_X12_185 rfl (fun h => absurd h (by decide)) dX12_findUnlike_88 (fun H locs hw => ?_)
        obtain ⟨x16, ex16, h⟩ := zlet_ex h
        refine lv_iinc (v := x16) (lv' := [(1, .int x16), (0, .ref (za G t0)), (2, .int v2)]) hx hb dX12_findUnlike_91 hl (k := 1) rfl (by rw [ex16]; rfl) (by decide) rfl (fun ls hl => ?_)
        refine lv_goto (tgt := 7) hx hb dX12_findUnlike_94 (by decide) ?_
        exact ih x16 M15 h H locs ls hw (lv_sub hl [1, 0] rfl)
      · have h := zif_f h c11
        refine lv_goto (tgt := 91) hx hb dX12_findUnlike_63 (by decide) ?_
        obtain ⟨x17, ex17, h⟩ := zlet_ex h
        refine lv_iinc (v := x17) (lv' := [(1, .int x17), (0, .ref (za G t0)), (2, .int v2)]) hx hb dX12_findUnlike_91 hl (k := 1) rfl (by rw [ex17]; rfl) (by decide) rfl (fun ls hl => ?_)
        refine lv_goto (tgt := 7) hx hb dX12_findUnlike_94 (by decide) ?_
        exact ih x17 M h H locs ls hw (lv_sub hl [1, 0] rfl)
set_option maxHeartbeats 4000000 in
set_option maxRecDepth 100000 in
theorem c_X12_findUnlike (l : Launch) {G : ZG} (hG : zOk G) (t0 : Nat) (k0 : zk G t0 = 22) (M : ZM) (res : ZM) (h : f_X12_findUnlike t0 M = some res) : zCt l yX12_findUnlike cX12_findUnlike 4 none 0 G [.ref (za G t0)] M none res := by
  refine zCt.mk (by decide +kernel) (Nat.le_of_ble_eq_true rfl) ?_
  intro p e s m args below meth c A H locs ls S hr hlk hw hl
  have S : zX p (zR 0) s m args c 0 0 cX12_findUnlike 4 RX12 := S
  have hx := S.1.1
  have hb := S.1.2.1
  have hown := S.1.2.2.2.1
  have hts := S.1.2.2.2.2
  have hl : lv_has ls 4 [(0, .ref (za G t0))] := hl
  unfold f_X12_findUnlike at h
  refine lv_aload_n hx hb dX12_findUnlike_0 rfl (lv_at hl 0 rfl) ?_
  refine lv_iconst (v := 0) hx hb dX12_findUnlike_1 (by decide) ?_
  obtain ⟨M1, eM1, h⟩ := zlet_ex h
  refine z_putI S hw eM1 k0 fl_X12_185 rfl (fun h => absurd h (by decide)) dX12_findUnlike_2 (fun H locs hw => ?_)
  refine lv_iconst (v := 0) hx hb dX12_findUnlike_5 (by decide) ?_
  refine lv_istore_n (lv' := [(1, .int 0), (0, .ref (za G t0))]) hx hb dX12_findUnlike_6 rfl hl (by decide) rfl (fun ls hl => ?_)
  refine w_X12_findUnlike_7 hG S hr hlk t0 k0 (fun M h H locs ls hw hl => ?_) zN 0 M1 h H locs ls hw (lv_sub hl [1, 0] rfl)
  have h := Option.some.inj h
  subst h
  exact z_ret_v S hr hlk hw dX12_findUnlike_97
def f_X12_unlike (t0 : Nat) (M : ZM) : Option (Int32 × ZM) :=
  if (M.1 t0 29) = 0 then (
    (f_X12_refuse t0 (-5) M).bind fun (q3 : (Int32 × ZM)) =>
    some (q3.1, q3.2)) else (
    (f_X12_findUnlike t0 M).bind fun (q2 : ZM) =>
    some ((q2.1 t0 34), q2))
set_option maxHeartbeats 4000000 in
set_option maxRecDepth 100000 in
theorem c_X12_unlike (l : Launch) {G : ZG} (hG : zOk G) (t0 : Nat) (k0 : zk G t0 = 22) (M : ZM) (res : (Int32 × ZM)) (h : f_X12_unlike t0 M = some res) : zCt l yX12_unlike cX12_unlike 1 (Option.some FieldType.int) 1 G [.ref (za G t0)] M (some (.int res.1)) res.2 := by
  refine zCt.mk (by decide +kernel) (Nat.le_of_ble_eq_true rfl) ?_
  intro p e s m args below meth c A H locs ls S hr hlk hw hl
  have S : zX p (zR 1) s m args c 0 0 cX12_unlike 1 RX12 := S
  have hx := S.1.1
  have hb := S.1.2.1
  have hown := S.1.2.2.2.1
  have hts := S.1.2.2.2.2
  have hl : lv_has ls 1 [(0, .ref (za G t0))] := hl
  unfold f_X12_unlike at h
  refine lv_aload_n hx hb dX12_unlike_0 rfl (lv_at hl 0 rfl) ?_
  refine z_getI S hw k0 fl_X12_170 rfl dX12_unlike_1 ?_
  refine lv_if_ne (tgt := 14) hx hb dX12_unlike_4 (by decide) (fun c1 => ?_) (fun c1 => ?_)
  · have h := zif_f h c1
    refine lv_aload_n hx hb dX12_unlike_14 rfl (lv_at hl 0 rfl) ?_
    obtain ⟨q2, eq2, h⟩ := Option.bind_eq_some_iff.mp h
    refine z_callV (ci := 12) (As := []) (rest := []) (rv := none) (M1 := q2) S hw (c_X12_findUnlike l hG t0 k0 M q2 eq2) mv_X12_findUnlike lk_X12_188 k0 ⟨_, _, rfl⟩ (by decide) rfl rfl (Nat.le_of_ble_eq_true rfl) ⟨Nat.le_of_ble_eq_true rfl, Nat.le_of_ble_eq_true rfl⟩ hl.1 dX12_unlike_15 (fun H locs hw => ?_)
    refine lv_aload_n hx hb dX12_unlike_18 rfl (lv_at hl 0 rfl) ?_
    refine z_getI S hw k0 fl_X12_185 rfl dX12_unlike_19 ?_
    have h := Option.some.inj h
    subst h
    exact z_ret_i S hr hlk hw dX12_unlike_22
  · have h := zif_t h c1
    refine lv_aload_n hx hb dX12_unlike_7 rfl (lv_at hl 0 rfl) ?_
    refine lv_bipush (v := (-5)) hx hb dX12_unlike_8 (by decide) ?_
    obtain ⟨q3, eq3, h⟩ := Option.bind_eq_some_iff.mp h
    refine z_callV (ci := 12) (As := [.int (-5)]) (rest := []) (rv := (some (.int q3.1))) (M1 := q3.2) S hw (c_X12_refuse l hG t0 (-5) k0 M q3 eq3) mv_X12_refuse lk_X12_91 k0 ⟨_, _, rfl⟩ (by decide) rfl rfl (Nat.le_of_ble_eq_true rfl) ⟨Nat.le_of_ble_eq_true rfl, Nat.le_of_ble_eq_true rfl⟩ hl.1 dX12_unlike_10 (fun H locs hw => ?_)
    have h := Option.some.inj h
    subst h
    exact z_ret_i S hr hlk hw dX12_unlike_13
def f_X12_part_35 (t0 : Nat) (v1 : Int32) (v2 : Int32) (K : ZM → Option (Int32 × ZM)) : Nat → Int32 → ZM → Option (Int32 × ZM)
  | 0, _, _ => none
  | n + 1, v4, M =>
    if 32 ≤ v4 then (
      K M) else (
      (f_X12_does t0 v1 v4 M).bind fun (q3 : Int32) =>
      (f_X12_does t0 v2 v4 M).bind fun (q4 : Int32) =>
      if q3 = q4 then (
        zlet (v4 + 1) fun (x6 : Int32) =>
        f_X12_part_35 t0 v1 v2 K n x6 M) else (
        some (v4, M)))

def f_X12_part (t0 : Nat) (v1 : Int32) (v2 : Int32) (M : ZM) : Option (Int32 × ZM) :=
  zlet (fun (s0 : Int32) (M : ZM) =>
    if s0 = 0 then (
      f_X12_part_35 t0 v1 v2 (fun (M : ZM) =>
        some (((-9) : Int32), M)) zN 0 M) else (
      (f_X12_refuse t0 s0 M).bind fun (q7 : (Int32 × ZM)) =>
      some (q7.1, q7.2))) fun J21 =>
  zlet (f_X12_wrong t0 v1 M) fun (q8 : Int32) =>
  if q8 = 0 then (
    zlet (f_X12_wrong t0 v2 M) fun (q10 : Int32) =>
    J21 q10 M) else (
    zlet (f_X12_wrong t0 v1 M) fun (q11 : Int32) =>
    J21 q11 M)
set_option maxHeartbeats 4000000 in
set_option maxRecDepth 100000 in
theorem w_X12_part_35 {G : ZG} (hG : zOk G) (S : zX p (zR 2) s m args c 0 0 cX12_part 5 RX12) (hr : meth.sig.returnType = (Option.some FieldType.int)) (hlk : meth.locks = false) (t0 : Nat) (v1 : Int32) (v2 : Int32) (k0 : zk G t0 = 22)  {K : ZM → Option (Int32 × ZM)} {res : (Int32 × ZM)} (hK : ∀  (M : ZM), K M = some res → ∀ (H : Heap) (locs : List Loc) (ls : Array Slot), zWd G A s H locs M → lv_has ls 5 [] → W p l e (zR 2) s m args below meth c H locs 0 0 (zQ below G A (some (.int res.1)) res.2 args s) (F0 m 68 ls [])) : ∀ (n : Nat) (v4 : Int32) (M : ZM), f_X12_part_35 t0 v1 v2 K n v4 M = some res → ∀ (H : Heap) (locs : List Loc) (ls : Array Slot), zWd G A s H locs M → lv_has ls 5 [(0, .ref (za G t0)), (1, .int v1), (2, .int v2), (4, .int v4)] → W p l e (zR 2) s m args below meth c H locs 0 0 (zQ below G A (some (.int res.1)) res.2 args s) (F0 m 35 ls []) := by
  have hx := S.1.1
  have hb := S.1.2.1
  have hown := S.1.2.2.2.1
  have hts := S.1.2.2.2.2
  intro n
  induction n with
  | zero =>
    intro v4 M h
    rw [f_X12_part_35] at h
    cases h
  | succ n ih =>
    intro v4 M h H locs ls hw hl
    rw [f_X12_part_35] at h
    refine lv_iload hx hb dX12_part_35 (lv_at hl 3 rfl) ?_
    refine lv_bipush (v := 32) hx hb dX12_part_37 (by decide) ?_
    refine lv_icmp_ge (tgt := 68) hx hb dX12_part_39 (by decide) (fun c2 => ?_) (fun c2 => ?_)
    · have h := zif_t h c2
      exact hK M h H locs ls hw (lv_sub hl [] rfl)
    · have h := zif_f h c2
      refine lv_aload_n hx hb dX12_part_42 rfl (lv_at hl 0 rfl) ?_
      refine lv_iload_n hx hb dX12_part_43 rfl (lv_at hl 1 rfl) ?_
      refine lv_iload hx hb dX12_part_44 (lv_at hl 3 rfl) ?_
      obtain ⟨q3, eq3, h⟩ := Option.bind_eq_some_iff.mp h
      refine z_callV (ci := 12) (As := [.int v1, .int v4]) (rest := []) (rv := (some (.int q3))) (M1 := M) S hw (c_X12_does l hG t0 v1 v4 k0 M q3 eq3) mv_X12_does lk_X12_179 k0 ⟨_, _, rfl⟩ (by decide) rfl rfl (Nat.le_of_ble_eq_true rfl) ⟨Nat.le_of_ble_eq_true rfl, Nat.le_of_ble_eq_true rfl⟩ hl.1 dX12_part_46 (fun H locs hw => ?_)
      refine lv_aload_n hx hb dX12_part_49 rfl (lv_at hl 0 rfl) ?_
      refine lv_iload_n hx hb dX12_part_50 rfl (lv_at hl 2 rfl) ?_
      refine lv_iload hx hb dX12_part_51 (lv_at hl 3 rfl) ?_
      obtain ⟨q4, eq4, h⟩ := Option.bind_eq_some_iff.mp h
      refine z_callV (ci := 12) (As := [.int v2, .int v4]) (rest := [.int q3]) (rv := (some (.int q4))) (M1 := M) S hw (c_X12_does l hG t0 v2 v4 k0 M q4 eq4) mv_X12_does lk_X12_179 k0 ⟨_, _, rfl⟩ (by decide) rfl rfl (Nat.le_of_ble_eq_true rfl) ⟨Nat.le_of_ble_eq_true rfl, Nat.le_of_ble_eq_true rfl⟩ hl.1 dX12_part_53 (fun H locs hw => ?_)
      refine lv_icmp_eq (tgt := 62) hx hb dX12_part_56 (by decide) (fun c5 => ?_) (fun c5 => ?_)
      · have h := zif_t h c5
        obtain ⟨x6, ex6, h⟩ := zlet_ex h
        refine lv_iinc (v := x6) (lv' := [(4, .int x6), (0, .ref (za G t0)), (1, .int v1), (2, .int v2)]) hx hb dX12_part_62 hl (k := 3) rfl (by rw [ex6]; rfl) (by decide) rfl (fun ls hl => ?_)
        refine lv_goto (tgt := 35) hx hb dX12_part_65 (by decide) ?_
        exact ih x6 M h H locs ls hw (lv_sub hl [1, 2, 3, 0] rfl)
      · have h := zif_f h c5
        refine lv_iload hx hb dX12_part_59 (lv_at hl 3 rfl) ?_
        have h := Option.some.inj h
        subst h
        exact z_ret_i S hr hlk hw dX12_part_61
set_option maxHeartbeats 4000000 in
set_option maxRecDepth 100000 in
theorem c_X12_part (l : Launch) {G : ZG} (hG : zOk G) (t0 : Nat) (v1 : Int32) (v2 : Int32) (k0 : zk G t0 = 22) (M : ZM) (res : (Int32 × ZM)) (h : f_X12_part t0 v1 v2 M = some res) : zCt l yX12_part cX12_part 5 (Option.some FieldType.int) 2 G [.ref (za G t0), .int v1, .int v2] M (some (.int res.1)) res.2 := by
  refine zCt.mk (by decide +kernel) (Nat.le_of_ble_eq_true rfl) ?_
  intro p e s m args below meth c A H locs ls S hr hlk hw hl
  have S : zX p (zR 2) s m args c 0 0 cX12_part 5 RX12 := S
  have hx := S.1.1
  have hb := S.1.2.1
  have hown := S.1.2.2.2.1
  have hts := S.1.2.2.2.2
  have hl : lv_has ls 5 [(0, .ref (za G t0)), (1, .int v1), (2, .int v2)] := hl
  unfold f_X12_part at h
  obtain ⟨J21, hJ21, h⟩ := zlet_ex h
  have wJ21 : ∀ (s0 : Int32) (M : ZM), J21 s0 M = some res → ∀ (H : Heap) (locs : List Loc) (ls : Array Slot), zWd G A s H locs M → lv_has ls 5 [(0, .ref (za G t0)), (1, .int v1), (2, .int v2)] → W p l e (zR 2) s m args below meth c H locs 0 0 (zQ below G A (some (.int res.1)) res.2 args s) (F0 m 21 ls [.int s0]) := by
    intro s0 M h H locs ls hw hl
    subst hJ21
    refine lv_istore_n (lv' := [(3, .int s0), (0, .ref (za G t0)), (1, .int v1), (2, .int v2)]) hx hb dX12_part_21 rfl hl (by decide) rfl (fun ls hl => ?_)
    refine lv_iload_n hx hb dX12_part_22 rfl (lv_at hl 0 rfl) ?_
    refine lv_if_eq (tgt := 32) hx hb dX12_part_23 (by decide) (fun c1 => ?_) (fun c1 => ?_)
    · have h := zif_t h c1
      refine lv_iconst (v := 0) hx hb dX12_part_32 (by decide) ?_
      refine lv_istore (lv' := [(4, .int 0), (3, .int s0), (0, .ref (za G t0)), (1, .int v1), (2, .int v2)]) hx hb dX12_part_33 hl (by decide) rfl (fun ls hl => ?_)
      refine w_X12_part_35 hG S hr hlk t0 v1 v2 k0 (fun M h H locs ls hw hl => ?_) zN 0 M h H locs ls hw (lv_sub hl [2, 3, 4, 0] rfl)
      refine lv_bipush (v := (-9)) hx hb dX12_part_68 (by decide) ?_
      have h := Option.some.inj h
      subst h
      exact z_ret_i S hr hlk hw dX12_part_70
    · have h := zif_f h c1
      refine lv_aload_n hx hb dX12_part_26 rfl (lv_at hl 1 rfl) ?_
      refine lv_iload_n hx hb dX12_part_27 rfl (lv_at hl 0 rfl) ?_
      obtain ⟨q7, eq7, h⟩ := Option.bind_eq_some_iff.mp h
      refine z_callV (ci := 12) (As := [.int s0]) (rest := []) (rv := (some (.int q7.1))) (M1 := q7.2) S hw (c_X12_refuse l hG t0 s0 k0 M q7 eq7) mv_X12_refuse lk_X12_91 k0 ⟨_, _, rfl⟩ (by decide) rfl rfl (Nat.le_of_ble_eq_true rfl) ⟨Nat.le_of_ble_eq_true rfl, Nat.le_of_ble_eq_true rfl⟩ hl.1 dX12_part_28 (fun H locs hw => ?_)
      have h := Option.some.inj h
      subst h
      exact z_ret_i S hr hlk hw dX12_part_31
  refine lv_aload_n hx hb dX12_part_0 rfl (lv_at hl 0 rfl) ?_
  refine lv_iload_n hx hb dX12_part_1 rfl (lv_at hl 1 rfl) ?_
  obtain ⟨q8, eq8, h⟩ := zlet_ex h
  refine z_callV (ci := 12) (As := [.int v1]) (rest := []) (rv := (some (.int q8))) (M1 := M) S hw (c_X12_wrong l hG t0 v1 k0 M q8 eq8.symm) mv_X12_wrong lk_X12_176 k0 ⟨_, _, rfl⟩ (by decide) rfl rfl (Nat.le_of_ble_eq_true rfl) ⟨Nat.le_of_ble_eq_true rfl, Nat.le_of_ble_eq_true rfl⟩ hl.1 dX12_part_2 (fun H locs hw => ?_)
  refine lv_if_eq (tgt := 16) hx hb dX12_part_5 (by decide) (fun c9 => ?_) (fun c9 => ?_)
  · have h := zif_t h c9
    refine lv_aload_n hx hb dX12_part_16 rfl (lv_at hl 0 rfl) ?_
    refine lv_iload_n hx hb dX12_part_17 rfl (lv_at hl 2 rfl) ?_
    obtain ⟨q10, eq10, h⟩ := zlet_ex h
    refine z_callV (ci := 12) (As := [.int v2]) (rest := []) (rv := (some (.int q10))) (M1 := M) S hw (c_X12_wrong l hG t0 v2 k0 M q10 eq10.symm) mv_X12_wrong lk_X12_176 k0 ⟨_, _, rfl⟩ (by decide) rfl rfl (Nat.le_of_ble_eq_true rfl) ⟨Nat.le_of_ble_eq_true rfl, Nat.le_of_ble_eq_true rfl⟩ hl.1 dX12_part_18 (fun H locs hw => ?_)
    exact wJ21 q10 M h H locs ls hw (lv_sub hl [0, 1, 2] rfl)
  · have h := zif_f h c9
    refine lv_aload_n hx hb dX12_part_8 rfl (lv_at hl 0 rfl) ?_
    refine lv_iload_n hx hb dX12_part_9 rfl (lv_at hl 1 rfl) ?_
    obtain ⟨q11, eq11, h⟩ := zlet_ex h
    refine z_callV (ci := 12) (As := [.int v1]) (rest := []) (rv := (some (.int q11))) (M1 := M) S hw (c_X12_wrong l hG t0 v1 k0 M q11 eq11.symm) mv_X12_wrong lk_X12_176 k0 ⟨_, _, rfl⟩ (by decide) rfl rfl (Nat.le_of_ble_eq_true rfl) ⟨Nat.le_of_ble_eq_true rfl, Nat.le_of_ble_eq_true rfl⟩ hl.1 dX12_part_10 (fun H locs hw => ?_)
    refine lv_goto (tgt := 21) hx hb dX12_part_13 (by decide) ?_
    exact wJ21 q11 M h H locs ls hw (lv_sub hl [0, 1, 2] rfl)
def f_X12_idle (t0 : Nat) (v1 : Int32) (M : ZM) : Option (Int32 × ZM) :=
  zlet (f_X12_wrong t0 v1 M) fun (q1 : Int32) =>
  if q1 = 0 then (
    zck (zin v1 (zn (zr t0 24))) <|
    some ((M.1 (zr t0 24) v1.toNatClampNeg), M)) else (
    (f_X12_refuse t0 q1 M).bind fun (q4 : (Int32 × ZM)) =>
    some (q4.1, q4.2))
set_option maxHeartbeats 4000000 in
set_option maxRecDepth 100000 in
theorem c_X12_idle (l : Launch) {G : ZG} (hG : zOk G) (t0 : Nat) (v1 : Int32) (k0 : zk G t0 = 22) (M : ZM) (res : (Int32 × ZM)) (h : f_X12_idle t0 v1 M = some res) : zCt l yX12_idle cX12_idle 3 (Option.some FieldType.int) 2 G [.ref (za G t0), .int v1] M (some (.int res.1)) res.2 := by
  refine zCt.mk (by decide +kernel) (Nat.le_of_ble_eq_true rfl) ?_
  intro p e s m args below meth c A H locs ls S hr hlk hw hl
  have S : zX p (zR 2) s m args c 0 0 cX12_idle 3 RX12 := S
  have hx := S.1.1
  have hb := S.1.2.1
  have hown := S.1.2.2.2.1
  have hts := S.1.2.2.2.2
  have hl : lv_has ls 3 [(0, .ref (za G t0)), (1, .int v1)] := hl
  unfold f_X12_idle at h
  refine lv_aload_n hx hb dX12_idle_0 rfl (lv_at hl 0 rfl) ?_
  refine lv_iload_n hx hb dX12_idle_1 rfl (lv_at hl 1 rfl) ?_
  obtain ⟨q1, eq1, h⟩ := zlet_ex h
  refine z_callV (ci := 12) (As := [.int v1]) (rest := []) (rv := (some (.int q1))) (M1 := M) S hw (c_X12_wrong l hG t0 v1 k0 M q1 eq1.symm) mv_X12_wrong lk_X12_176 k0 ⟨_, _, rfl⟩ (by decide) rfl rfl (Nat.le_of_ble_eq_true rfl) ⟨Nat.le_of_ble_eq_true rfl, Nat.le_of_ble_eq_true rfl⟩ hl.1 dX12_idle_2 (fun H locs hw => ?_)
  refine lv_istore_n (lv' := [(2, .int q1), (0, .ref (za G t0)), (1, .int v1)]) hx hb dX12_idle_5 rfl hl (by decide) rfl (fun ls hl => ?_)
  refine lv_iload_n hx hb dX12_idle_6 rfl (lv_at hl 0 rfl) ?_
  refine lv_if_eq (tgt := 18) hx hb dX12_idle_7 (by decide) (fun c2 => ?_) (fun c2 => ?_)
  · have h := zif_t h c2
    refine lv_aload_n hx hb dX12_idle_18 rfl (lv_at hl 1 rfl) ?_
    refine z_getR S hw k0 fl_X12_59 rfl dX12_idle_19 ?_
    refine lv_iload_n hx hb dX12_idle_22 rfl (lv_at hl 2 rfl) ?_
    obtain ⟨g3, h⟩ := zck_ex h
    refine z_iald S hw (kr_12_24 hG k0) g3 dX12_idle_23 ?_
    have h := Option.some.inj h
    subst h
    exact z_ret_i S hr hlk hw dX12_idle_24
  · have h := zif_f h c2
    refine lv_aload_n hx hb dX12_idle_10 rfl (lv_at hl 1 rfl) ?_
    refine lv_iload_n hx hb dX12_idle_11 rfl (lv_at hl 0 rfl) ?_
    obtain ⟨q4, eq4, h⟩ := Option.bind_eq_some_iff.mp h
    refine z_callV (ci := 12) (As := [.int q1]) (rest := []) (rv := (some (.int q4.1))) (M1 := q4.2) S hw (c_X12_refuse l hG t0 q1 k0 M q4 eq4) mv_X12_refuse lk_X12_91 k0 ⟨_, _, rfl⟩ (by decide) rfl rfl (Nat.le_of_ble_eq_true rfl) ⟨Nat.le_of_ble_eq_true rfl, Nat.le_of_ble_eq_true rfl⟩ hl.1 dX12_idle_12 (fun H locs hw => ?_)
    refine lv_goto (tgt := 24) hx hb dX12_idle_15 (by decide) ?_
    have h := Option.some.inj h
    subst h
    exact z_ret_i S hr hlk hw dX12_idle_24
end Z
