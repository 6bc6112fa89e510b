section Z
variable {p : Program} {l : Launch} {e : Env} {s : State} {m : MethodId} {args : Array Value} {below : List Frame} {meth : Method} {c : Code} {A : Nat → Prop}
def f_X11_noCase (v0 : Int32) (M : ZM) : Int32 :=
  if v0 < 0 then (
    (1 : Int32)) else (
    if v0 < 32 then (
      (0 : Int32)) else (
      (1 : Int32)))
set_option maxHeartbeats 4000000 in
set_option maxRecDepth 100000 in
theorem c_X11_noCase (l : Launch) {G : ZG} (hG : zOk G) (v0 : Int32) (M : ZM) (res : Int32) (h : f_X11_noCase v0 M = res) : zCt l yX11_noCase cX11_noCase 1 (Option.some FieldType.boolean) 0 G [.int v0] M (some (.int res)) M := by
  refine zCt.mk (by decide +kernel) (Nat.le_of_ble_eq_true rfl) ?_
  intro p e s m args below meth c A H locs ls S hr hlk hw hl
  have S : zX p (zR 0) s m args c 0 0 cX11_noCase 1 RX11 := S
  have hx := S.1.1
  have hb := S.1.2.1
  have hown := S.1.2.2.2.1
  have hts := S.1.2.2.2.2
  have hl : lv_has ls 1 [(0, .int v0)] := hl
  unfold f_X11_noCase at h
  refine lv_iload_n hx hb dX11_noCase_0 rfl (lv_at hl 0 rfl) ?_
  refine lv_if_lt (tgt := 10) hx hb dX11_noCase_1 (by decide) (fun c1 => ?_) (fun c1 => ?_)
  · have h := zif_t h c1
    refine lv_iconst (v := 1) hx hb dX11_noCase_10 (by decide) ?_
    refine lv_goto (tgt := 15) hx hb dX11_noCase_11 (by decide) ?_
    subst h
    exact z_ret_z S hr hlk (Or.inr rfl) hw dX11_noCase_15
  · have h := zif_f h c1
    refine lv_iload_n hx hb dX11_noCase_4 rfl (lv_at hl 0 rfl) ?_
    refine lv_bipush (v := 32) hx hb dX11_noCase_5 (by decide) ?_
    refine lv_icmp_lt (tgt := 14) hx hb dX11_noCase_7 (by decide) (fun c2 => ?_) (fun c2 => ?_)
    · have h := zif_t h c2
      refine lv_iconst (v := 0) hx hb dX11_noCase_14 (by decide) ?_
      subst h
      exact z_ret_z S hr hlk (Or.inl rfl) hw dX11_noCase_15
    · have h := zif_f h c2
      refine lv_iconst (v := 1) hx hb dX11_noCase_10 (by decide) ?_
      refine lv_goto (tgt := 15) hx hb dX11_noCase_11 (by decide) ?_
      subst h
      exact z_ret_z S hr hlk (Or.inr rfl) hw dX11_noCase_15
def f_X11_bit (v0 : Int64) (v2 : Int32) (M : ZM) : Int32 :=
  ((((v0).toUInt64 >>> ((v2).toInt64.toUInt64 &&& Int64.toUInt64 63)).toInt64 &&& 1).toInt32)
set_option maxHeartbeats 4000000 in
set_option maxRecDepth 100000 in
theorem c_X11_bit (l : Launch) {G : ZG} (hG : zOk G) (v0 : Int64) (v2 : Int32) (M : ZM) (res : Int32) (h : f_X11_bit v0 v2 M = res) : zCt l yX11_bit cX11_bit 3 (Option.some FieldType.int) 0 G [.long v0, .int v2] M (some (.int res)) M := by
  refine zCt.mk (by decide +kernel) (Nat.le_of_ble_eq_true rfl) ?_
  intro p e s m args below meth c A H locs ls S hr hlk hw hl
  have S : zX p (zR 0) s m args c 0 0 cX11_bit 3 RX11 := S
  have hx := S.1.1
  have hb := S.1.2.1
  have hown := S.1.2.2.2.1
  have hts := S.1.2.2.2.2
  have hl : lv_has ls 3 [(0, .long v0), (2, .int v2)] := hl
  unfold f_X11_bit at h
  refine lv_lload_n hx hb dX11_bit_0 rfl (lv_at hl 0 rfl) ?_
  refine lv_iload_n hx hb dX11_bit_1 rfl (lv_at hl 1 rfl) ?_
  refine lv_lushr (v := ((v0).toUInt64 >>> ((v2).toInt64.toUInt64 &&& Int64.toUInt64 63)).toInt64) hx hb dX11_bit_2 rfl ?_
  refine lv_lconst (v := 1) hx hb dX11_bit_3 (by decide) ?_
  refine lv_land hx hb dX11_bit_4 ?_
  refine lv_l2i (v := ((((v0).toUInt64 >>> ((v2).toInt64.toUInt64 &&& Int64.toUInt64 63)).toInt64 &&& 1).toInt32)) hx hb dX11_bit_5 rfl ?_
  subst h
  exact z_ret_i S hr hlk hw dX11_bit_6
def f_X11_lets (t0 : Nat) (v1 : Int32) (v2 : Int32) (M : ZM) : Option (Int32 × ZM) :=
  (f_X11_spent t0 M).bind fun (q1 : (Int32 × ZM)) =>
  if q1.1 = 0 then (
    zlet (f_X11_noReading t0 v1 q1.2) fun (q3 : Int32) =>
    if q3 = 0 then (
      zlet (f_X11_noCase v2 q1.2) fun (q6 : Int32) =>
      if q6 = 0 then (
        zlet (f_X2_meaning (zr t0 5) v1 q1.2) fun (q8 : Int64) =>
        zlet (f_X11_bit q8 v2 q1.2) fun (q9 : Int32) =>
        some (q9, q1.2)) else (
        zlet (f_X11_refuse t0 (-1) q1.2) fun (q10 : (Int32 × ZM)) =>
        some (q10.1, q10.2))) else (
      zlet (f_X11_refuse t0 (-1) q1.2) fun (q5 : (Int32 × ZM)) =>
      some (q5.1, q5.2))) else (
    zlet (f_X11_refuse t0 (-5) q1.2) fun (q11 : (Int32 × ZM)) =>
    some (q11.1, q11.2))
set_option maxHeartbeats 4000000 in
set_option maxRecDepth 100000 in
theorem c_X11_lets (l : Launch) {G : ZG} (hG : zOk G) (t0 : Nat) (v1 : Int32) (v2 : Int32) (k0 : zk G t0 = 21) (M : ZM) (res : (Int32 × ZM)) (h : f_X11_lets t0 v1 v2 M = some res) : zCt l yX11_lets cX11_lets 3 (Option.some FieldType.int) 6 G [.ref (za G t0), .int v1, .int v2] M (some (.int res.1)) res.2 := by
  refine zCt.mk (by decide +kernel) (Nat.le_of_ble_eq_true rfl) ?_
  intro p e s m args below meth c A H locs ls S hr hlk hw hl
  have S : zX p (zR 6) s m args c 0 0 cX11_lets 3 RX11 := S
  have hx := S.1.1
  have hb := S.1.2.1
  have hown := S.1.2.2.2.1
  have hts := S.1.2.2.2.2
  have hl : lv_has ls 3 [(0, .ref (za G t0)), (1, .int v1), (2, .int v2)] := hl
  unfold f_X11_lets at h
  refine lv_aload_n hx hb dX11_lets_0 rfl (lv_at hl 0 rfl) ?_
  obtain ⟨q1, eq1, h⟩ := Option.bind_eq_some_iff.mp h
  refine z_callV (ci := 11) (As := []) (rest := []) (rv := (some (.int q1.1))) (M1 := q1.2) S hw (c_X11_spent l hG t0 k0 M q1 eq1) mv_X11_spent lk_X11_126 k0 ⟨_, _, rfl⟩ (by decide) rfl rfl (Nat.le_of_ble_eq_true rfl) ⟨Nat.le_of_ble_eq_true rfl, Nat.le_of_ble_eq_true rfl⟩ hl.1 dX11_lets_1 (fun H locs hw => ?_)
  refine lv_if_eq (tgt := 14) hx hb dX11_lets_4 (by decide) (fun c2 => ?_) (fun c2 => ?_)
  · have h := zif_t h c2
    refine lv_aload_n hx hb dX11_lets_14 rfl (lv_at hl 0 rfl) ?_
    refine lv_iload_n hx hb dX11_lets_15 rfl (lv_at hl 1 rfl) ?_
    obtain ⟨q3, eq3, h⟩ := zlet_ex h
    refine z_callV (ci := 11) (As := [.int v1]) (rest := []) (rv := (some (.int q3))) (M1 := q1.2) S hw (c_X11_noReading l hG t0 v1 k0 q1.2 q3 eq3.symm) mv_X11_noReading lk_X11_130 k0 ⟨_, _, rfl⟩ (by decide) rfl rfl (Nat.le_of_ble_eq_true rfl) ⟨Nat.le_of_ble_eq_true rfl, Nat.le_of_ble_eq_true rfl⟩ hl.1 dX11_lets_16 (fun H locs hw => ?_)
    refine lv_if_ne (tgt := 29) hx hb dX11_lets_19 (by decide) (fun c4 => ?_) (fun c4 => ?_)
    · have h := zif_f h c4
      refine lv_aload_n hx hb dX11_lets_29 rfl (lv_at hl 0 rfl) ?_
      refine lv_iconst (v := (-1)) hx hb dX11_lets_30 (by decide) ?_
      obtain ⟨q5, eq5, h⟩ := zlet_ex h
      refine z_callV (ci := 11) (As := [.int (-1)]) (rest := []) (rv := (some (.int q5.1))) (M1 := q5.2) S hw (c_X11_refuse l hG t0 (-1) k0 q1.2 q5 eq5.symm) mv_X11_refuse lk_X11_100 k0 ⟨_, _, rfl⟩ (by decide) rfl rfl (Nat.le_of_ble_eq_true rfl) ⟨Nat.le_of_ble_eq_true rfl, Nat.le_of_ble_eq_true rfl⟩ hl.1 dX11_lets_31 (fun H locs hw => ?_)
      have h := Option.some.inj h
      subst h
      exact z_ret_i S hr hlk hw dX11_lets_34
    · have h := zif_t h c4
      refine lv_iload_n hx hb dX11_lets_22 rfl (lv_at hl 2 rfl) ?_
      obtain ⟨q6, eq6, h⟩ := zlet_ex h
      refine z_callS (As := [.int v2]) (rest := []) (rv := (some (.int q6))) (M1 := q1.2) S hw (c_X11_noCase l hG v2 q1.2 q6 eq6.symm) mv_X11_noCase lk_X11_152 rfl rfl (Nat.le_of_ble_eq_true rfl) ⟨Nat.le_of_ble_eq_true rfl, Nat.le_of_ble_eq_true rfl⟩ hl.1 dX11_lets_23 (fun H locs hw => ?_)
      refine lv_if_eq (tgt := 35) hx hb dX11_lets_26 (by decide) (fun c7 => ?_) (fun c7 => ?_)
      · have h := zif_t h c7
        refine lv_aload_n hx hb dX11_lets_35 rfl (lv_at hl 0 rfl) ?_
        refine z_getR S hw k0 fl_X11_39 rfl dX11_lets_36 ?_
        refine lv_iload_n hx hb dX11_lets_39 rfl (lv_at hl 1 rfl) ?_
        obtain ⟨q8, eq8, h⟩ := zlet_ex h
        refine z_callV (ci := 2) (As := [.int v1]) (rest := []) (rv := (some (.long q8))) (M1 := q1.2) S hw (c_X2_meaning l hG (zr t0 5) v1 (kr_11_5 hG k0) q1.2 q8 eq8.symm) mv_X2_meaning lk_X11_148 (kr_11_5 hG k0) ⟨_, _, rfl⟩ (by decide) rfl rfl (Nat.le_of_ble_eq_true rfl) ⟨Nat.le_of_ble_eq_true rfl, Nat.le_of_ble_eq_true rfl⟩ hl.1 dX11_lets_40 (fun H locs hw => ?_)
        refine lv_iload_n hx hb dX11_lets_43 rfl (lv_at hl 2 rfl) ?_
        obtain ⟨q9, eq9, h⟩ := zlet_ex h
        refine z_callS (As := [.long q8, .int v2]) (rest := []) (rv := (some (.int q9))) (M1 := q1.2) S hw (c_X11_bit l hG q8 v2 q1.2 q9 eq9.symm) mv_X11_bit lk_X11_155 rfl rfl (Nat.le_of_ble_eq_true rfl) ⟨Nat.le_of_ble_eq_true rfl, Nat.le_of_ble_eq_true rfl⟩ hl.1 dX11_lets_44 (fun H locs hw => ?_)
        have h := Option.some.inj h
        subst h
        exact z_ret_i S hr hlk hw dX11_lets_47
      · have h := zif_f h c7
        refine lv_aload_n hx hb dX11_lets_29 rfl (lv_at hl 0 rfl) ?_
        refine lv_iconst (v := (-1)) hx hb dX11_lets_30 (by decide) ?_
        obtain ⟨q10, eq10, h⟩ := zlet_ex h
        refine z_callV (ci := 11) (As := [.int (-1)]) (rest := []) (rv := (some (.int q10.1))) (M1 := q10.2) S hw (c_X11_refuse l hG t0 (-1) k0 q1.2 q10 eq10.symm) mv_X11_refuse lk_X11_100 k0 ⟨_, _, rfl⟩ (by decide) rfl rfl (Nat.le_of_ble_eq_true rfl) ⟨Nat.le_of_ble_eq_true rfl, Nat.le_of_ble_eq_true rfl⟩ hl.1 dX11_lets_31 (fun H locs hw => ?_)
        have h := Option.some.inj h
        subst h
        exact z_ret_i S hr hlk hw dX11_lets_34
  · have h := zif_f h c2
    refine lv_aload_n hx hb dX11_lets_7 rfl (lv_at hl 0 rfl) ?_
    refine lv_bipush (v := (-5)) hx hb dX11_lets_8 (by decide) ?_
    obtain ⟨q11, eq11, h⟩ := zlet_ex h
    refine z_callV (ci := 11) (As := [.int (-5)]) (rest := []) (rv := (some (.int q11.1))) (M1 := q11.2) S hw (c_X11_refuse l hG t0 (-5) k0 q1.2 q11 eq11.symm) mv_X11_refuse lk_X11_100 k0 ⟨_, _, rfl⟩ (by decide) rfl rfl (Nat.le_of_ble_eq_true rfl) ⟨Nat.le_of_ble_eq_true rfl, Nat.le_of_ble_eq_true rfl⟩ hl.1 dX11_lets_10 (fun H locs hw => ?_)
    have h := Option.some.inj h
    subst h
    exact z_ret_i S hr hlk hw dX11_lets_13
def f_X2_lettingAt_4 (t0 : Nat) (v1 : Int32) (M : ZM) (K : Int32 → Option Int32) : Nat → Int32 → Int32 → Option Int32
  | 0, _, _ => none
  | n + 1, v2, v3 =>
    if (M.1 t0 4) ≤ v3 then (
      K v2) else (
      zlet (f_X2_meaning t0 v3 M) fun (q2 : Int64) =>
      zlet (f_X11_bit q2 v1 M) fun (q3 : Int32) =>
      zlet (v2 + q3) fun (x4 : Int32) =>
      zlet (v3 + 1) fun (x5 : Int32) =>
      f_X2_lettingAt_4 t0 v1 M K n x4 x5)

def f_X2_lettingAt (t0 : Nat) (v1 : Int32) (M : ZM) : Option Int32 :=
  f_X2_lettingAt_4 t0 v1 M (fun (v2 : Int32) =>
    some v2) zN 0 0
set_option maxHeartbeats 4000000 in
set_option maxRecDepth 100000 in
theorem w_X2_lettingAt_4 {G : ZG} (hG : zOk G) (S : zX p (zR 2) s m args c 0 0 cX2_lettingAt 4 RX2) (hr : meth.sig.returnType = (Option.some FieldType.int)) (hlk : meth.locks = false) (t0 : Nat) (v1 : Int32) (k0 : zk G t0 = 12) (M : ZM)  {K : Int32 → Option Int32} {res : Int32} (hK : ∀ (v2 : Int32), K v2 = some res → ∀ (H : Heap) (locs : List Loc) (ls : Array Slot), zWd G A s H locs M → lv_has ls 4 [(2, .int v2)] → W p l e (zR 2) s m args below meth c H locs 0 0 (zQ below G A (some (.int res)) M args s) (F0 m 30 ls [])) : ∀ (n : Nat) (v2 : Int32) (v3 : Int32), f_X2_lettingAt_4 t0 v1 M K n v2 v3 = some res → ∀ (H : Heap) (locs : List Loc) (ls : Array Slot), zWd G A s H locs M → lv_has ls 4 [(0, .ref (za G t0)), (1, .int v1), (2, .int v2), (3, .int v3)] → W p l e (zR 2) s m args below meth c H locs 0 0 (zQ below G A (some (.int res)) M args s) (F0 m 4 ls []) := by
  have hx := S.1.1
  have hb := S.1.2.1
  have hown := S.1.2.2.2.1
  have hts := S.1.2.2.2.2
  intro n
  induction n with
  | zero =>
    intro v2 v3 h
    rw [f_X2_lettingAt_4] at h
    cases h
  | succ n ih =>
    intro v2 v3 h H locs ls hw hl
    rw [f_X2_lettingAt_4] at h
    refine lv_iload_n hx hb dX2_lettingAt_4 rfl (lv_at hl 3 rfl) ?_
    refine lv_aload_n hx hb dX2_lettingAt_5 rfl (lv_at hl 0 rfl) ?_
    refine z_getI S hw k0 fl_X2_33 rfl dX2_lettingAt_6 ?_
    refine lv_icmp_ge (tgt := 30) hx hb dX2_lettingAt_9 (by decide) (fun c1 => ?_) (fun c1 => ?_)
    · have h := zif_t h c1
      exact hK v2 h H locs ls hw (lv_sub hl [2] rfl)
    · have h := zif_f h c1
      refine lv_iload_n hx hb dX2_lettingAt_12 rfl (lv_at hl 2 rfl) ?_
      refine lv_aload_n hx hb dX2_lettingAt_13 rfl (lv_at hl 0 rfl) ?_
      refine lv_iload_n hx hb dX2_lettingAt_14 rfl (lv_at hl 3 rfl) ?_
      obtain ⟨q2, eq2, h⟩ := zlet_ex h
      refine z_callV (ci := 2) (As := [.int v3]) (rest := [.int v2]) (rv := (some (.long q2))) (M1 := M) S hw (c_X2_meaning l hG t0 v3 k0 M q2 eq2.symm) mv_X2_meaning lk_X2_76 k0 ⟨_, _, rfl⟩ (by decide) rfl rfl (Nat.le_of_ble_eq_true rfl) ⟨Nat.le_of_ble_eq_true rfl, Nat.le_of_ble_eq_true rfl⟩ hl.1 dX2_lettingAt_15 (fun H locs hw => ?_)
      refine lv_iload_n hx hb dX2_lettingAt_18 rfl (lv_at hl 1 rfl) ?_
      obtain ⟨q3, eq3, h⟩ := zlet_ex h
      refine z_callS (As := [.long q2, .int v1]) (rest := [.int v2]) (rv := (some (.int q3))) (M1 := M) S hw (c_X11_bit l hG q2 v1 M q3 eq3.symm) mv_X11_bit lk_X2_72 rfl rfl (Nat.le_of_ble_eq_true rfl) ⟨Nat.le_of_ble_eq_true rfl, Nat.le_of_ble_eq_true rfl⟩ hl.1 dX2_lettingAt_19 (fun H locs hw => ?_)
      refine lv_iadd hx hb dX2_lettingAt_22 ?_
      obtain ⟨x4, ex4, h⟩ := zlet_ex h
      refine lv_topiE ex4 ?_
      refine lv_istore_n (lv' := [(2, .int x4), (0, .ref (za G t0)), (1, .int v1), (3, .int v3)]) hx hb dX2_lettingAt_23 rfl hl (by decide) rfl (fun ls hl => ?_)
      obtain ⟨x5, ex5, h⟩ := zlet_ex h
      refine lv_iinc (v := x5) (lv' := [(3, .int x5), (2, .int x4), (0, .ref (za G t0)), (1, .int v1)]) hx hb dX2_lettingAt_24 hl (k := 3) rfl (by rw [ex5]; rfl) (by decide) rfl (fun ls hl => ?_)
      refine lv_goto (tgt := 4) hx hb dX2_lettingAt_27 (by decide) ?_
      exact ih x4 x5 h H locs ls hw (lv_sub hl [2, 3, 1, 0] rfl)
set_option maxHeartbeats 4000000 in
set_option maxRecDepth 100000 in
theorem c_X2_lettingAt (l : Launch) {G : ZG} (hG : zOk G) (t0 : Nat) (v1 : Int32) (k0 : zk G t0 = 12) (M : ZM) (res : Int32) (h : f_X2_lettingAt t0 v1 M = some res) : zCt l yX2_lettingAt cX2_lettingAt 4 (Option.some FieldType.int) 2 G [.ref (za G t0), .int v1] M (some (.int res)) M := by
  refine zCt.mk (by decide +kernel) (Nat.le_of_ble_eq_true rfl) ?_
  intro p e s m args below meth c A H locs ls S hr hlk hw hl
  have S : zX p (zR 2) s m args c 0 0 cX2_lettingAt 4 RX2 := S
  have hx := S.1.1
  have hb := S.1.2.1
  have hown := S.1.2.2.2.1
  have hts := S.1.2.2.2.2
  have hl : lv_has ls 4 [(0, .ref (za G t0)), (1, .int v1)] := hl
  unfold f_X2_lettingAt at h
  refine lv_iconst (v := 0) hx hb dX2_lettingAt_0 (by decide) ?_
  refine lv_istore_n (lv' := [(2, .int 0), (0, .ref (za G t0)), (1, .int v1)]) hx hb dX2_lettingAt_1 rfl hl (by decide) rfl (fun ls hl => ?_)
  refine lv_iconst (v := 0) hx hb dX2_lettingAt_2 (by decide) ?_
  refine lv_istore_n (lv' := [(3, .int 0), (2, .int 0), (0, .ref (za G t0)), (1, .int v1)]) hx hb dX2_lettingAt_3 rfl hl (by decide) rfl (fun ls hl => ?_)
  refine w_X2_lettingAt_4 hG S hr hlk t0 v1 k0 M (fun v2 h H locs ls hw hl => ?_) zN 0 0 h H locs ls hw (lv_sub hl [2, 3, 1, 0] rfl)
  refine lv_iload_n hx hb dX2_lettingAt_30 rfl (lv_at hl 0 rfl) ?_
  have h := Option.some.inj h
  subst h
  exact z_ret_i S hr hlk hw dX2_lettingAt_31
def f_X11_map (t0 : Nat) (v1 : Int32) (M : ZM) : Option (Int32 × ZM) :=
  (f_X11_spent t0 M).bind fun (q1 : (Int32 × ZM)) =>
  if q1.1 = 0 then (
    zlet (f_X11_noCase v1 q1.2) fun (q3 : Int32) =>
    if q3 = 0 then (
      (f_X2_lettingAt (zr t0 5) v1 q1.2).bind fun (q5 : Int32) =>
      some (q5, q1.2)) else (
      zlet (f_X11_refuse t0 (-1) q1.2) fun (q6 : (Int32 × ZM)) =>
      some (q6.1, q6.2))) else (
    zlet (f_X11_refuse t0 (-5) q1.2) fun (q7 : (Int32 × ZM)) =>
    some (q7.1, q7.2))
set_option maxHeartbeats 4000000 in
set_option maxRecDepth 100000 in
theorem c_X11_map (l : Launch) {G : ZG} (hG : zOk G) (t0 : Nat) (v1 : Int32) (k0 : zk G t0 = 21) (M : ZM) (res : (Int32 × ZM)) (h : f_X11_map t0 v1 M = some res) : zCt l yX11_map cX11_map 2 (Option.some FieldType.int) 6 G [.ref (za G t0), .int v1] M (some (.int res.1)) res.2 := by
  refine zCt.mk (by decide +kernel) (Nat.le_of_ble_eq_true rfl) ?_
  intro p e s m args below meth c A H locs ls S hr hlk hw hl
  have S : zX p (zR 6) s m args c 0 0 cX11_map 2 RX11 := S
  have hx := S.1.1
  have hb := S.1.2.1
  have hown := S.1.2.2.2.1
  have hts := S.1.2.2.2.2
  have hl : lv_has ls 2 [(0, .ref (za G t0)), (1, .int v1)] := hl
  unfold f_X11_map at h
  refine lv_aload_n hx hb dX11_map_0 rfl (lv_at hl 0 rfl) ?_
  obtain ⟨q1, eq1, h⟩ := Option.bind_eq_some_iff.mp h
  refine z_callV (ci := 11) (As := []) (rest := []) (rv := (some (.int q1.1))) (M1 := q1.2) S hw (c_X11_spent l hG t0 k0 M q1 eq1) mv_X11_spent lk_X11_126 k0 ⟨_, _, rfl⟩ (by decide) rfl rfl (Nat.le_of_ble_eq_true rfl) ⟨Nat.le_of_ble_eq_true rfl, Nat.le_of_ble_eq_true rfl⟩ hl.1 dX11_map_1 (fun H locs hw => ?_)
  refine lv_if_eq (tgt := 14) hx hb dX11_map_4 (by decide) (fun c2 => ?_) (fun c2 => ?_)
  · have h := zif_t h c2
    refine lv_iload_n hx hb dX11_map_14 rfl (lv_at hl 1 rfl) ?_
    obtain ⟨q3, eq3, h⟩ := zlet_ex h
    refine z_callS (As := [.int v1]) (rest := []) (rv := (some (.int q3))) (M1 := q1.2) S hw (c_X11_noCase l hG v1 q1.2 q3 eq3.symm) mv_X11_noCase lk_X11_152 rfl rfl (Nat.le_of_ble_eq_true rfl) ⟨Nat.le_of_ble_eq_true rfl, Nat.le_of_ble_eq_true rfl⟩ hl.1 dX11_map_15 (fun H locs hw => ?_)
    refine lv_if_eq (tgt := 29) hx hb dX11_map_18 (by decide) (fun c4 => ?_) (fun c4 => ?_)
    · have h := zif_t h c4
      refine lv_aload_n hx hb dX11_map_29 rfl (lv_at hl 0 rfl) ?_
      refine z_getR S hw k0 fl_X11_39 rfl dX11_map_30 ?_
      refine lv_iload_n hx hb dX11_map_33 rfl (lv_at hl 1 rfl) ?_
      obtain ⟨q5, eq5, h⟩ := Option.bind_eq_some_iff.mp h
      refine z_callV (ci := 2) (As := [.int v1]) (rest := []) (rv := (some (.int q5))) (M1 := q1.2) S hw (c_X2_lettingAt l hG (zr t0 5) v1 (kr_11_5 hG k0) q1.2 q5 eq5) mv_X2_lettingAt lk_X11_159 (kr_11_5 hG k0) ⟨_, _, rfl⟩ (by decide) rfl rfl (Nat.le_of_ble_eq_true rfl) ⟨Nat.le_of_ble_eq_true rfl, Nat.le_of_ble_eq_true rfl⟩ hl.1 dX11_map_34 (fun H locs hw => ?_)
      have h := Option.some.inj h
      subst h
      exact z_ret_i S hr hlk hw dX11_map_37
    · have h := zif_f h c4
      refine lv_aload_n hx hb dX11_map_21 rfl (lv_at hl 0 rfl) ?_
      refine lv_iconst (v := (-1)) hx hb dX11_map_22 (by decide) ?_
      obtain ⟨q6, eq6, h⟩ := zlet_ex h
      refine z_callV (ci := 11) (As := [.int (-1)]) (rest := []) (rv := (some (.int q6.1))) (M1 := q6.2) S hw (c_X11_refuse l hG t0 (-1) k0 q1.2 q6 eq6.symm) mv_X11_refuse lk_X11_100 k0 ⟨_, _, rfl⟩ (by decide) rfl rfl (Nat.le_of_ble_eq_true rfl) ⟨Nat.le_of_ble_eq_true rfl, Nat.le_of_ble_eq_true rfl⟩ hl.1 dX11_map_23 (fun H locs hw => ?_)
      refine lv_goto (tgt := 37) hx hb dX11_map_26 (by decide) ?_
      have h := Option.some.inj h
      subst h
      exact z_ret_i S hr hlk hw dX11_map_37
  · have h := zif_f h c2
    refine lv_aload_n hx hb dX11_map_7 rfl (lv_at hl 0 rfl) ?_
    refine lv_bipush (v := (-5)) hx hb dX11_map_8 (by decide) ?_
    obtain ⟨q7, eq7, h⟩ := zlet_ex h
    refine z_callV (ci := 11) (As := [.int (-5)]) (rest := []) (rv := (some (.int q7.1))) (M1 := q7.2) S hw (c_X11_refuse l hG t0 (-5) k0 q1.2 q7 eq7.symm) mv_X11_refuse lk_X11_100 k0 ⟨_, _, rfl⟩ (by decide) rfl rfl (Nat.le_of_ble_eq_true rfl) ⟨Nat.le_of_ble_eq_true rfl, Nat.le_of_ble_eq_true rfl⟩ hl.1 dX11_map_10 (fun H locs hw => ?_)
    have h := Option.some.inj h
    subst h
    exact z_ret_i S hr hlk hw dX11_map_13
def f_X2_letByAll_6 (t0 : Nat) (M : ZM) (K : Int64 → Option Int64) : Nat → Int64 → Int32 → Option Int64
  | 0, _, _ => none
  | n + 1, v1, v3 =>
    if (M.1 t0 4) ≤ v3 then (
      K v1) else (
      zlet (f_X2_meaning t0 v3 M) fun (q2 : Int64) =>
      zlet (v1 &&& q2) fun (x3 : Int64) =>
      zlet (v3 + 1) fun (x4 : Int32) =>
      f_X2_letByAll_6 t0 M K n x3 x4)

def f_X2_letByAll (t0 : Nat) (M : ZM) : Option Int64 :=
  f_X2_letByAll_6 t0 M (fun (v1 : Int64) =>
    some v1) zN 4294967295 0
set_option maxHeartbeats 4000000 in
set_option maxRecDepth 100000 in
theorem w_X2_letByAll_6 {G : ZG} (hG : zOk G) (S : zX p (zR 2) s m args c 0 0 cX2_letByAll 4 RX2) (hr : meth.sig.returnType = (Option.some FieldType.long)) (hlk : meth.locks = false) (t0 : Nat) (k0 : zk G t0 = 12) (M : ZM)  {K : Int64 → Option Int64} {res : Int64} (hK : ∀ (v1 : Int64), K v1 = some res → ∀ (H : Heap) (locs : List Loc) (ls : Array Slot), zWd G A s H locs M → lv_has ls 4 [(1, .long v1)] → W p l e (zR 2) s m args below meth c H locs 0 0 (zQ below G A (some (.long res)) M args s) (F0 m 28 ls [])) : ∀ (n : Nat) (v1 : Int64) (v3 : Int32), f_X2_letByAll_6 t0 M K n v1 v3 = some res → ∀ (H : Heap) (locs : List Loc) (ls : Array Slot), zWd G A s H locs M → lv_has ls 4 [(0, .ref (za G t0)), (1, .long v1), (3, .int v3)] → W p l e (zR 2) s m args below meth c H locs 0 0 (zQ below G A (some (.long res)) M args s) (F0 m 6 ls []) := by
  have hx := S.1.1
  have hb := S.1.2.1
  have hown := S.1.2.2.2.1
  have hts := S.1.2.2.2.2
  intro n
  induction n with
  | zero =>
    intro v1 v3 h
    rw [f_X2_letByAll_6] at h
    cases h
  | succ n ih =>
    intro v1 v3 h H locs ls hw hl
    rw [f_X2_letByAll_6] at h
    refine lv_iload_n hx hb dX2_letByAll_6 rfl (lv_at hl 2 rfl) ?_
    refine lv_aload_n hx hb dX2_letByAll_7 rfl (lv_at hl 0 rfl) ?_
    refine z_getI S hw k0 fl_X2_33 rfl dX2_letByAll_8 ?_
    refine lv_icmp_ge (tgt := 28) hx hb dX2_letByAll_11 (by decide) (fun c1 => ?_) (fun c1 => ?_)
    · have h := zif_t h c1
      exact hK v1 h H locs ls hw (lv_sub hl [1] rfl)
    · have h := zif_f h c1
      refine lv_lload_n hx hb dX2_letByAll_14 rfl (lv_at hl 1 rfl) ?_
      refine lv_aload_n hx hb dX2_letByAll_15 rfl (lv_at hl 0 rfl) ?_
      refine lv_iload_n hx hb dX2_letByAll_16 rfl (lv_at hl 2 rfl) ?_
      obtain ⟨q2, eq2, h⟩ := zlet_ex h
      refine z_callV (ci := 2) (As := [.int v3]) (rest := [.long v1]) (rv := (some (.long q2))) (M1 := M) S hw (c_X2_meaning l hG t0 v3 k0 M q2 eq2.symm) mv_X2_meaning lk_X2_76 k0 ⟨_, _, rfl⟩ (by decide) rfl rfl (Nat.le_of_ble_eq_true rfl) ⟨Nat.le_of_ble_eq_true rfl, Nat.le_of_ble_eq_true rfl⟩ hl.1 dX2_letByAll_17 (fun H locs hw => ?_)
      refine lv_land hx hb dX2_letByAll_20 ?_
      obtain ⟨x3, ex3, h⟩ := zlet_ex h
      refine lv_toplE ex3 ?_
      refine lv_lstore_n (lv' := [(1, .long x3), (0, .ref (za G t0)), (3, .int v3)]) hx hb dX2_letByAll_21 rfl hl (by decide) rfl (fun ls hl => ?_)
      obtain ⟨x4, ex4, h⟩ := zlet_ex h
      refine lv_iinc (v := x4) (lv' := [(3, .int x4), (1, .long x3), (0, .ref (za G t0))]) hx hb dX2_letByAll_22 hl (k := 2) rfl (by rw [ex4]; rfl) (by decide) rfl (fun ls hl => ?_)
      refine lv_goto (tgt := 6) hx hb dX2_letByAll_25 (by decide) ?_
      exact ih x3 x4 h H locs ls hw (lv_sub hl [2, 1, 0] rfl)
set_option maxHeartbeats 4000000 in
set_option maxRecDepth 100000 in
theorem c_X2_letByAll (l : Launch) {G : ZG} (hG : zOk G) (t0 : Nat) (k0 : zk G t0 = 12) (M : ZM) (res : Int64) (h : f_X2_letByAll t0 M = some res) : zCt l yX2_letByAll cX2_letByAll 4 (Option.some FieldType.long) 2 G [.ref (za G t0)] M (some (.long res)) M := by
  refine zCt.mk (by decide +kernel) (Nat.le_of_ble_eq_true rfl) ?_
  intro p e s m args below meth c A H locs ls S hr hlk hw hl
  have S : zX p (zR 2) s m args c 0 0 cX2_letByAll 4 RX2 := S
  have hx := S.1.1
  have hb := S.1.2.1
  have hown := S.1.2.2.2.1
  have hts := S.1.2.2.2.2
  have hl : lv_has ls 4 [(0, .ref (za G t0))] := hl
  unfold f_X2_letByAll at h
  refine lv_ldc2 (v := 4294967295) hx hb hown (hts _ kc_X2_79) dX2_letByAll_0 ?_
  refine lv_lstore_n (lv' := [(1, .long 4294967295), (0, .ref (za G t0))]) hx hb dX2_letByAll_3 rfl hl (by decide) rfl (fun ls hl => ?_)
  refine lv_iconst (v := 0) hx hb dX2_letByAll_4 (by decide) ?_
  refine lv_istore_n (lv' := [(3, .int 0), (1, .long 4294967295), (0, .ref (za G t0))]) hx hb dX2_letByAll_5 rfl hl (by decide) rfl (fun ls hl => ?_)
  refine w_X2_letByAll_6 hG S hr hlk t0 k0 M (fun v1 h H locs ls hw hl => ?_) zN 4294967295 0 h H locs ls hw (lv_sub hl [2, 1, 0] rfl)
  refine lv_lload_n hx hb dX2_letByAll_28 rfl (lv_at hl 0 rfl) ?_
  have h := Option.some.inj h
  subst h
  exact z_ret_l S hr hlk hw dX2_letByAll_29
def f_X2_barredByAll_6 (t0 : Nat) (M : ZM) (K : Int64 → Option Int64) : Nat → Int64 → Int32 → Option Int64
  | 0, _, _ => none
  | n + 1, v1, v3 =>
    if (M.1 t0 4) ≤ v3 then (
      K v1) else (
      zlet (f_X2_meaning t0 v3 M) fun (q2 : Int64) =>
      zlet (v1 &&& (q2 ^^^ (-1))) fun (x3 : Int64) =>
      zlet (v3 + 1) fun (x4 : Int32) =>
      f_X2_barredByAll_6 t0 M K n x3 x4)

def f_X2_barredByAll (t0 : Nat) (M : ZM) : Option Int64 :=
  f_X2_barredByAll_6 t0 M (fun (v1 : Int64) =>
    some v1) zN 4294967295 0
set_option maxHeartbeats 4000000 in
set_option maxRecDepth 100000 in
theorem w_X2_barredByAll_6 {G : ZG} (hG : zOk G) (S : zX p (zR 2) s m args c 0 0 cX2_barredByAll 4 RX2) (hr : meth.sig.returnType = (Option.some FieldType.long)) (hlk : meth.locks = false) (t0 : Nat) (k0 : zk G t0 = 12) (M : ZM)  {K : Int64 → Option Int64} {res : Int64} (hK : ∀ (v1 : Int64), K v1 = some res → ∀ (H : Heap) (locs : List Loc) (ls : Array Slot), zWd G A s H locs M → lv_has ls 4 [(1, .long v1)] → W p l e (zR 2) s m args below meth c H locs 0 0 (zQ below G A (some (.long res)) M args s) (F0 m 32 ls [])) : ∀ (n : Nat) (v1 : Int64) (v3 : Int32), f_X2_barredByAll_6 t0 M K n v1 v3 = some res → ∀ (H : Heap) (locs : List Loc) (ls : Array Slot), zWd G A s H locs M → lv_has ls 4 [(0, .ref (za G t0)), (1, .long v1), (3, .int v3)] → W p l e (zR 2) s m args below meth c H locs 0 0 (zQ below G A (some (.long res)) M args s) (F0 m 6 ls []) := by
  have hx := S.1.1
  have hb := S.1.2.1
  have hown := S.1.2.2.2.1
  have hts := S.1.2.2.2.2
  intro n
  induction n with
  | zero =>
    intro v1 v3 h
    rw [f_X2_barredByAll_6] at h
    cases h
  | succ n ih =>
    intro v1 v3 h H locs ls hw hl
    rw [f_X2_barredByAll_6] at h
    refine lv_iload_n hx hb dX2_barredByAll_6 rfl (lv_at hl 2 rfl) ?_
    refine lv_aload_n hx hb dX2_barredByAll_7 rfl (lv_at hl 0 rfl) ?_
    refine z_getI S hw k0 fl_X2_33 rfl dX2_barredByAll_8 ?_
    refine lv_icmp_ge (tgt := 32) hx hb dX2_barredByAll_11 (by decide) (fun c1 => ?_) (fun c1 => ?_)
    · have h := zif_t h c1
      exact hK v1 h H locs ls hw (lv_sub hl [1] rfl)
    · have h := zif_f h c1
      refine lv_lload_n hx hb dX2_barredByAll_14 rfl (lv_at hl 1 rfl) ?_
      refine lv_aload_n hx hb dX2_barredByAll_15 rfl (lv_at hl 0 rfl) ?_
      refine lv_iload_n hx hb dX2_barredByAll_16 rfl (lv_at hl 2 rfl) ?_
      obtain ⟨q2, eq2, h⟩ := zlet_ex h
      refine z_callV (ci := 2) (As := [.int v3]) (rest := [.long v1]) (rv := (some (.long q2))) (M1 := M) S hw (c_X2_meaning l hG t0 v3 k0 M q2 eq2.symm) mv_X2_meaning lk_X2_76 k0 ⟨_, _, rfl⟩ (by decide) rfl rfl (Nat.le_of_ble_eq_true rfl) ⟨Nat.le_of_ble_eq_true rfl, Nat.le_of_ble_eq_true rfl⟩ hl.1 dX2_barredByAll_17 (fun H locs hw => ?_)
      refine lv_ldc2 (v := (-1)) hx hb hown (hts _ kc_X2_81) dX2_barredByAll_20 ?_
      refine lv_lxor hx hb dX2_barredByAll_23 ?_
      refine lv_land hx hb dX2_barredByAll_24 ?_
      obtain ⟨x3, ex3, h⟩ := zlet_ex h
      refine lv_toplE ex3 ?_
      refine lv_lstore_n (lv' := [(1, .long x3), (0, .ref (za G t0)), (3, .int v3)]) hx hb dX2_barredByAll_25 rfl hl (by decide) rfl (fun ls hl => ?_)
      obtain ⟨x4, ex4, h⟩ := zlet_ex h
      refine lv_iinc (v := x4) (lv' := [(3, .int x4), (1, .long x3), (0, .ref (za G t0))]) hx hb dX2_barredByAll_26 hl (k := 2) rfl (by rw [ex4]; rfl) (by decide) rfl (fun ls hl => ?_)
      refine lv_goto (tgt := 6) hx hb dX2_barredByAll_29 (by decide) ?_
      exact ih x3 x4 h H locs ls hw (lv_sub hl [2, 1, 0] rfl)
set_option maxHeartbeats 4000000 in
set_option maxRecDepth 100000 in
theorem c_X2_barredByAll (l : Launch) {G : ZG} (hG : zOk G) (t0 : Nat) (k0 : zk G t0 = 12) (M : ZM) (res : Int64) (h : f_X2_barredByAll t0 M = some res) : zCt l yX2_barredByAll cX2_barredByAll 4 (Option.some FieldType.long) 2 G [.ref (za G t0)] M (some (.long res)) M := by
  refine zCt.mk (by decide +kernel) (Nat.le_of_ble_eq_true rfl) ?_
  intro p e s m args below meth c A H locs ls S hr hlk hw hl
  have S : zX p (zR 2) s m args c 0 0 cX2_barredByAll 4 RX2 := S
  have hx := S.1.1
  have hb := S.1.2.1
  have hown := S.1.2.2.2.1
  have hts := S.1.2.2.2.2
  have hl : lv_has ls 4 [(0, .ref (za G t0))] := hl
  unfold f_X2_barredByAll at h
  refine lv_ldc2 (v := 4294967295) hx hb hown (hts _ kc_X2_79) dX2_barredByAll_0 ?_
  refine lv_lstore_n (lv' := [(1, .long 4294967295), (0, .ref (za G t0))]) hx hb dX2_barredByAll_3 rfl hl (by decide) rfl (fun ls hl => ?_)
  refine lv_iconst (v := 0) hx hb dX2_barredByAll_4 (by decide) ?_
  refine lv_istore_n (lv' := [(3, .int 0), (1, .long 4294967295), (0, .ref (za G t0))]) hx hb dX2_barredByAll_5 rfl hl (by decide) rfl (fun ls hl => ?_)
  refine w_X2_barredByAll_6 hG S hr hlk t0 k0 M (fun v1 h H locs ls hw hl => ?_) zN 4294967295 0 h H locs ls hw (lv_sub hl [2, 1, 0] rfl)
  refine lv_lload_n hx hb dX2_barredByAll_32 rfl (lv_at hl 0 rfl) ?_
  have h := Option.some.inj h
  subst h
  exact z_ret_l S hr hlk hw dX2_barredByAll_33
def f_X11_all (t0 : Nat) (v1 : Int32) (M : ZM) : Option (Int64 × ZM) :=
  (f_X11_spent t0 M).bind fun (q1 : (Int32 × ZM)) =>
  if q1.1 = 0 then (
    if v1 = 0 then (
      (f_X2_barredByAll (zr t0 5) q1.2).bind fun (q4 : Int64) =>
      some (q4, q1.2)) else (
      (f_X2_letByAll (zr t0 5) q1.2).bind fun (q5 : Int64) =>
      some (q5, q1.2))) else (
    zlet (f_X11_refuse t0 (-5) q1.2) fun (q6 : (Int32 × ZM)) =>
    some ((q6.1.toInt64), q6.2))
set_option maxHeartbeats 4000000 in
set_option maxRecDepth 100000 in
theorem c_X11_all (l : Launch) {G : ZG} (hG : zOk G) (t0 : Nat) (v1 : Int32) (k0 : zk G t0 = 21) (M : ZM) (res : (Int64 × ZM)) (h : f_X11_all t0 v1 M = some res) : zCt l yX11_all cX11_all 2 (Option.some FieldType.long) 6 G [.ref (za G t0), .int v1] M (some (.long res.1)) res.2 := by
  refine zCt.mk (by decide +kernel) (Nat.le_of_ble_eq_true rfl) ?_
  intro p e s m args below meth c A H locs ls S hr hlk hw hl
  have S : zX p (zR 6) s m args c 0 0 cX11_all 2 RX11 := S
  have hx := S.1.1
  have hb := S.1.2.1
  have hown := S.1.2.2.2.1
  have hts := S.1.2.2.2.2
  have hl : lv_has ls 2 [(0, .ref (za G t0)), (1, .int v1)] := hl
  unfold f_X11_all at h
  refine lv_aload_n hx hb dX11_all_0 rfl (lv_at hl 0 rfl) ?_
  obtain ⟨q1, eq1, h⟩ := Option.bind_eq_some_iff.mp h
  refine z_callV (ci := 11) (As := []) (rest := []) (rv := (some (.int q1.1))) (M1 := q1.2) S hw (c_X11_spent l hG t0 k0 M q1 eq1) mv_X11_spent lk_X11_126 k0 ⟨_, _, rfl⟩ (by decide) rfl rfl (Nat.le_of_ble_eq_true rfl) ⟨Nat.le_of_ble_eq_true rfl, Nat.le_of_ble_eq_true rfl⟩ hl.1 dX11_all_1 (fun H locs hw => ?_)
  refine lv_if_eq (tgt := 15) hx hb dX11_all_4 (by decide) (fun c2 => ?_) (fun c2 => ?_)
  · have h := zif_t h c2
    refine lv_iload_n hx hb dX11_all_15 rfl (lv_at hl 1 rfl) ?_
    refine lv_if_eq (tgt := 29) hx hb dX11_all_16 (by decide) (fun c3 => ?_) (fun c3 => ?_)
    · have h := zif_t h c3
      refine lv_aload_n hx hb dX11_all_29 rfl (lv_at hl 0 rfl) ?_
      refine z_getR S hw k0 fl_X11_39 rfl dX11_all_30 ?_
      obtain ⟨q4, eq4, h⟩ := Option.bind_eq_some_iff.mp h
      refine z_callV (ci := 2) (As := []) (rest := []) (rv := (some (.long q4))) (M1 := q1.2) S hw (c_X2_barredByAll l hG (zr t0 5) (kr_11_5 hG k0) q1.2 q4 eq4) mv_X2_barredByAll lk_X11_166 (kr_11_5 hG k0) ⟨_, _, rfl⟩ (by decide) rfl rfl (Nat.le_of_ble_eq_true rfl) ⟨Nat.le_of_ble_eq_true rfl, Nat.le_of_ble_eq_true rfl⟩ hl.1 dX11_all_33 (fun H locs hw => ?_)
      have h := Option.some.inj h
      subst h
      exact z_ret_l S hr hlk hw dX11_all_36
    · have h := zif_f h c3
      refine lv_aload_n hx hb dX11_all_19 rfl (lv_at hl 0 rfl) ?_
      refine z_getR S hw k0 fl_X11_39 rfl dX11_all_20 ?_
      obtain ⟨q5, eq5, h⟩ := Option.bind_eq_some_iff.mp h
      refine z_callV (ci := 2) (As := []) (rest := []) (rv := (some (.long q5))) (M1 := q1.2) S hw (c_X2_letByAll l hG (zr t0 5) (kr_11_5 hG k0) q1.2 q5 eq5) mv_X2_letByAll lk_X11_162 (kr_11_5 hG k0) ⟨_, _, rfl⟩ (by decide) rfl rfl (Nat.le_of_ble_eq_true rfl) ⟨Nat.le_of_ble_eq_true rfl, Nat.le_of_ble_eq_true rfl⟩ hl.1 dX11_all_23 (fun H locs hw => ?_)
      refine lv_goto (tgt := 36) hx hb dX11_all_26 (by decide) ?_
      have h := Option.some.inj h
      subst h
      exact z_ret_l S hr hlk hw dX11_all_36
  · have h := zif_f h c2
    refine lv_aload_n hx hb dX11_all_7 rfl (lv_at hl 0 rfl) ?_
    refine lv_bipush (v := (-5)) hx hb dX11_all_8 (by decide) ?_
    obtain ⟨q6, eq6, h⟩ := zlet_ex h
    refine z_callV (ci := 11) (As := [.int (-5)]) (rest := []) (rv := (some (.int q6.1))) (M1 := q6.2) S hw (c_X11_refuse l hG t0 (-5) k0 q1.2 q6 eq6.symm) mv_X11_refuse lk_X11_100 k0 ⟨_, _, rfl⟩ (by decide) rfl rfl (Nat.le_of_ble_eq_true rfl) ⟨Nat.le_of_ble_eq_true rfl, Nat.le_of_ble_eq_true rfl⟩ hl.1 dX11_all_10 (fun H locs hw => ?_)
    refine lv_i2l (v := (q6.1.toInt64)) hx hb dX11_all_13 rfl ?_
    have h := Option.some.inj h
    subst h
    exact z_ret_l S hr hlk hw dX11_all_14
def f_X11_same (t0 : Nat) (v1 : Int32) (v2 : Int32) (M : ZM) : Option (Int32 × ZM) :=
  (f_X11_spent t0 M).bind fun (q1 : (Int32 × ZM)) =>
  if q1.1 = 0 then (
    zlet (f_X11_noReading t0 v1 q1.2) fun (q3 : Int32) =>
    if q3 = 0 then (
      zlet (f_X11_noReading t0 v2 q1.2) fun (q6 : Int32) =>
      if q6 = 0 then (
        zlet (f_X2_meaning (zr t0 5) v1 q1.2) fun (q8 : Int64) =>
        zlet (f_X2_meaning (zr t0 5) v2 q1.2) fun (q9 : Int64) =>
        if (lg_cmp q8 q9) = 0 then (
          some ((1 : Int32), q1.2)) else (
          some ((0 : Int32), q1.2))) else (
        zlet (f_X11_refuse t0 (-1) q1.2) fun (q11 : (Int32 × ZM)) =>
        some (q11.1, q11.2))) else (
      zlet (f_X11_refuse t0 (-1) q1.2) fun (q5 : (Int32 × ZM)) =>
      some (q5.1, q5.2))) else (
    zlet (f_X11_refuse t0 (-5) q1.2) fun (q12 : (Int32 × ZM)) =>
    some (q12.1, q12.2))
set_option maxHeartbeats 4000000 in
set_option maxRecDepth 100000 in
theorem c_X11_same (l : Launch) {G : ZG} (hG : zOk G) (t0 : Nat) (v1 : Int32) (v2 : Int32) (k0 : zk G t0 = 21) (M : ZM) (res : (Int32 × ZM)) (h : f_X11_same t0 v1 v2 M = some res) : zCt l yX11_same cX11_same 3 (Option.some FieldType.int) 6 G [.ref (za G t0), .int v1, .int v2] M (some (.int res.1)) res.2 := by
  refine zCt.mk (by decide +kernel) (Nat.le_of_ble_eq_true rfl) ?_
  intro p e s m args below meth c A H locs ls S hr hlk hw hl
  have S : zX p (zR 6) s m args c 0 0 cX11_same 3 RX11 := S
  have hx := S.1.1
  have hb := S.1.2.1
  have hown := S.1.2.2.2.1
  have hts := S.1.2.2.2.2
  have hl : lv_has ls 3 [(0, .ref (za G t0)), (1, .int v1), (2, .int v2)] := hl
  unfold f_X11_same at h
  refine lv_aload_n hx hb dX11_same_0 rfl (lv_at hl 0 rfl) ?_
  obtain ⟨q1, eq1, h⟩ := Option.bind_eq_some_iff.mp h
  refine z_callV (ci := 11) (As := []) (rest := []) (rv := (some (.int q1.1))) (M1 := q1.2) S hw (c_X11_spent l hG t0 k0 M q1 eq1) mv_X11_spent lk_X11_126 k0 ⟨_, _, rfl⟩ (by decide) rfl rfl (Nat.le_of_ble_eq_true rfl) ⟨Nat.le_of_ble_eq_true rfl, Nat.le_of_ble_eq_true rfl⟩ hl.1 dX11_same_1 (fun H locs hw => ?_)
  refine lv_if_eq (tgt := 14) hx hb dX11_same_4 (by decide) (fun c2 => ?_) (fun c2 => ?_)
  · have h := zif_t h c2
    refine lv_aload_n hx hb dX11_same_14 rfl (lv_at hl 0 rfl) ?_
    refine lv_iload_n hx hb dX11_same_15 rfl (lv_at hl 1 rfl) ?_
    obtain ⟨q3, eq3, h⟩ := zlet_ex h
    refine z_callV (ci := 11) (As := [.int v1]) (rest := []) (rv := (some (.int q3))) (M1 := q1.2) S hw (c_X11_noReading l hG t0 v1 k0 q1.2 q3 eq3.symm) mv_X11_noReading lk_X11_130 k0 ⟨_, _, rfl⟩ (by decide) rfl rfl (Nat.le_of_ble_eq_true rfl) ⟨Nat.le_of_ble_eq_true rfl, Nat.le_of_ble_eq_true rfl⟩ hl.1 dX11_same_16 (fun H locs hw => ?_)
    refine lv_if_ne (tgt := 30) hx hb dX11_same_19 (by decide) (fun c4 => ?_) (fun c4 => ?_)
    · have h := zif_f h c4
      refine lv_aload_n hx hb dX11_same_30 rfl (lv_at hl 0 rfl) ?_
      refine lv_iconst (v := (-1)) hx hb dX11_same_31 (by decide) ?_
      obtain ⟨q5, eq5, h⟩ := zlet_ex h
      refine z_callV (ci := 11) (As := [.int (-1)]) (rest := []) (rv := (some (.int q5.1))) (M1 := q5.2) S hw (c_X11_refuse l hG t0 (-1) k0 q1.2 q5 eq5.symm) mv_X11_refuse lk_X11_100 k0 ⟨_, _, rfl⟩ (by decide) rfl rfl (Nat.le_of_ble_eq_true rfl) ⟨Nat.le_of_ble_eq_true rfl, Nat.le_of_ble_eq_true rfl⟩ hl.1 dX11_same_32 (fun H locs hw => ?_)
      have h := Option.some.inj h
      subst h
      exact z_ret_i S hr hlk hw dX11_same_35
    · have h := zif_t h c4
      refine lv_aload_n hx hb dX11_same_22 rfl (lv_at hl 0 rfl) ?_
      refine lv_iload_n hx hb dX11_same_23 rfl (lv_at hl 2 rfl) ?_
      obtain ⟨q6, eq6, h⟩ := zlet_ex h
      refine z_callV (ci := 11) (As := [.int v2]) (rest := []) (rv := (some (.int q6))) (M1 := q1.2) S hw (c_X11_noReading l hG t0 v2 k0 q1.2 q6 eq6.symm) mv_X11_noReading lk_X11_130 k0 ⟨_, _, rfl⟩ (by decide) rfl rfl (Nat.le_of_ble_eq_true rfl) ⟨Nat.le_of_ble_eq_true rfl, Nat.le_of_ble_eq_true rfl⟩ hl.1 dX11_same_24 (fun H locs hw => ?_)
      refine lv_if_eq (tgt := 36) hx hb dX11_same_27 (by decide) (fun c7 => ?_) (fun c7 => ?_)
      · have h := zif_t h c7
        refine lv_aload_n hx hb dX11_same_36 rfl (lv_at hl 0 rfl) ?_
        refine z_getR S hw k0 fl_X11_39 rfl dX11_same_37 ?_
        refine lv_iload_n hx hb dX11_same_40 rfl (lv_at hl 1 rfl) ?_
        obtain ⟨q8, eq8, h⟩ := zlet_ex h
        refine z_callV (ci := 2) (As := [.int v1]) (rest := []) (rv := (some (.long q8))) (M1 := q1.2) S hw (c_X2_meaning l hG (zr t0 5) v1 (kr_11_5 hG k0) q1.2 q8 eq8.symm) mv_X2_meaning lk_X11_148 (kr_11_5 hG k0) ⟨_, _, rfl⟩ (by decide) rfl rfl (Nat.le_of_ble_eq_true rfl) ⟨Nat.le_of_ble_eq_true rfl, Nat.le_of_ble_eq_true rfl⟩ hl.1 dX11_same_41 (fun H locs hw => ?_)
        refine lv_aload_n hx hb dX11_same_44 rfl (lv_at hl 0 rfl) ?_
        refine z_getR S hw k0 fl_X11_39 rfl dX11_same_45 ?_
        refine lv_iload_n hx hb dX11_same_48 rfl (lv_at hl 2 rfl) ?_
        obtain ⟨q9, eq9, h⟩ := zlet_ex h
        refine z_callV (ci := 2) (As := [.int v2]) (rest := [.long q8]) (rv := (some (.long q9))) (M1 := q1.2) S hw (c_X2_meaning l hG (zr t0 5) v2 (kr_11_5 hG k0) q1.2 q9 eq9.symm) mv_X2_meaning lk_X11_148 (kr_11_5 hG k0) ⟨_, _, rfl⟩ (by decide) rfl rfl (Nat.le_of_ble_eq_true rfl) ⟨Nat.le_of_ble_eq_true rfl, Nat.le_of_ble_eq_true rfl⟩ hl.1 dX11_same_49 (fun H locs hw => ?_)
        refine W.lcmp hx hb dX11_same_52 ?_
        refine lv_if_ne (tgt := 60) hx hb dX11_same_53 (by decide) (fun c10 => ?_) (fun c10 => ?_)
        · have h := zif_f h c10
          refine lv_iconst (v := 0) hx hb dX11_same_60 (by decide) ?_
          have h := Option.some.inj h
          subst h
          exact z_ret_i S hr hlk hw dX11_same_61
        · have h := zif_t h c10
          refine lv_iconst (v := 1) hx hb dX11_same_56 (by decide) ?_
          refine lv_goto (tgt := 61) hx hb dX11_same_57 (by decide) ?_
          have h := Option.some.inj h
          subst h
          exact z_ret_i S hr hlk hw dX11_same_61
      · have h := zif_f h c7
        refine lv_aload_n hx hb dX11_same_30 rfl (lv_at hl 0 rfl) ?_
        refine lv_iconst (v := (-1)) hx hb dX11_same_31 (by decide) ?_
        obtain ⟨q11, eq11, h⟩ := zlet_ex h
        refine z_callV (ci := 11) (As := [.int (-1)]) (rest := []) (rv := (some (.int q11.1))) (M1 := q11.2) S hw (c_X11_refuse l hG t0 (-1) k0 q1.2 q11 eq11.symm) mv_X11_refuse lk_X11_100 k0 ⟨_, _, rfl⟩ (by decide) rfl rfl (Nat.le_of_ble_eq_true rfl) ⟨Nat.le_of_ble_eq_true rfl, Nat.le_of_ble_eq_true rfl⟩ hl.1 dX11_same_32 (fun H locs hw => ?_)
        have h := Option.some.inj h
        subst h
        exact z_ret_i S hr hlk hw dX11_same_35
  · have h := zif_f h c2
    refine lv_aload_n hx hb dX11_same_7 rfl (lv_at hl 0 rfl) ?_
    refine lv_bipush (v := (-5)) hx hb dX11_same_8 (by decide) ?_
    obtain ⟨q12, eq12, h⟩ := zlet_ex h
    refine z_callV (ci := 11) (As := [.int (-5)]) (rest := []) (rv := (some (.int q12.1))) (M1 := q12.2) S hw (c_X11_refuse l hG t0 (-5) k0 q1.2 q12 eq12.symm) mv_X11_refuse lk_X11_100 k0 ⟨_, _, rfl⟩ (by decide) rfl rfl (Nat.le_of_ble_eq_true rfl) ⟨Nat.le_of_ble_eq_true rfl, Nat.le_of_ble_eq_true rfl⟩ hl.1 dX11_same_10 (fun H locs hw => ?_)
    have h := Option.some.inj h
    subst h
    exact z_ret_i S hr hlk hw dX11_same_13
def f_X8_has_2 (t0 : Nat) (v1 : Int64) (M : ZM) (K : Option Int32) : Nat → Int32 → Option Int32
  | 0, _ => none
  | n + 1, v3 =>
    if (M.1 t0 1) ≤ v3 then (
      K) else (
      zlet (f_X11_look_ (zr t0 0) v3 M) fun (q2 : Int64) =>
      if (lg_cmp q2 v1) = 0 then (
        some (1 : Int32)) else (
        zlet (v3 + 1) fun (x4 : Int32) =>
        f_X8_has_2 t0 v1 M K n x4))

def f_X8_has (t0 : Nat) (v1 : Int64) (M : ZM) : Option Int32 :=
  f_X8_has_2 t0 v1 M (
    some (0 : Int32)) zN 0
set_option maxHeartbeats 4000000 in
set_option maxRecDepth 100000 in
theorem w_X8_has_2 {G : ZG} (hG : zOk G) (S : zX p (zR 1) s m args c 0 0 cX8_has 4 RX8) (hr : meth.sig.returnType = (Option.some FieldType.boolean)) (hlk : meth.locks = false) (t0 : Nat) (v1 : Int64) (k0 : zk G t0 = 18) (M : ZM)  {K : Option Int32} {res : Int32} (hK : K = some res → ∀ (H : Heap) (locs : List Loc) (ls : Array Slot), zWd G A s H locs M → lv_has ls 4 [] → W p l e (zR 1) s m args below meth c H locs 0 0 (zQ below G A (some (.int res)) M args s) (F0 m 31 ls [])) : ∀ (n : Nat) (v3 : Int32), f_X8_has_2 t0 v1 M K n v3 = some res → ∀ (H : Heap) (locs : List Loc) (ls : Array Slot), zWd G A s H locs M → lv_has ls 4 [(0, .ref (za G t0)), (1, .long v1), (3, .int v3)] → W p l e (zR 1) s m args below meth c H locs 0 0 (zQ below G A (some (.int res)) M args s) (F0 m 2 ls []) := by
  have hx := S.1.1
  have hb := S.1.2.1
  have hown := S.1.2.2.2.1
  have hts := S.1.2.2.2.2
  intro n
  induction n with
  | zero =>
    intro v3 h
    rw [f_X8_has_2] at h
    cases h
  | succ n ih =>
    intro v3 h H locs ls hw hl
    rw [f_X8_has_2] at h
    refine lv_iload_n hx hb dX8_has_2 rfl (lv_at hl 2 rfl) ?_
    refine lv_aload_n hx hb dX8_has_3 rfl (lv_at hl 0 rfl) ?_
    refine z_getI S hw k0 fl_X8_15 rfl dX8_has_4 ?_
    refine lv_icmp_ge (tgt := 31) hx hb dX8_has_7 (by decide) (fun c1 => ?_) (fun c1 => ?_)
    · have h := zif_t h c1
      exact hK  h H locs ls hw (lv_sub hl [] rfl)
    · have h := zif_f h c1
      refine lv_aload_n hx hb dX8_has_10 rfl (lv_at hl 0 rfl) ?_
      refine z_getR S hw k0 fl_X8_9 rfl dX8_has_11 ?_
      refine lv_iload_n hx hb dX8_has_14 rfl (lv_at hl 2 rfl) ?_
      obtain ⟨q2, eq2, h⟩ := zlet_ex h
      refine z_callS (As := [.ref (za G (zr t0 0)), .int v3]) (rest := []) (rv := (some (.long q2))) (M1 := M) S hw (c_X11_look_ l hG (zr t0 0) v3 (kr_8_0 hG k0) M q2 eq2.symm) mv_X11_look_ lk_X8_36 rfl rfl (Nat.le_of_ble_eq_true rfl) ⟨Nat.le_of_ble_eq_true rfl, Nat.le_of_ble_eq_true rfl⟩ hl.1 dX8_has_15 (fun H locs hw => ?_)
      refine lv_lload_n hx hb dX8_has_18 rfl (lv_at hl 1 rfl) ?_
      refine W.lcmp hx hb dX8_has_19 ?_
      refine lv_if_ne (tgt := 25) hx hb dX8_has_20 (by decide) (fun c3 => ?_) (fun c3 => ?_)
      · have h := zif_f h c3
        obtain ⟨x4, ex4, h⟩ := zlet_ex h
        refine lv_iinc (v := x4) (lv' := [(3, .int x4), (0, .ref (za G t0)), (1, .long v1)]) hx hb dX8_has_25 hl (k := 2) rfl (by rw [ex4]; rfl) (by decide) rfl (fun ls hl => ?_)
        refine lv_goto (tgt := 2) hx hb dX8_has_28 (by decide) ?_
        exact ih x4 h H locs ls hw (lv_sub hl [1, 2, 0] rfl)
      · have h := zif_t h c3
        refine lv_iconst (v := 1) hx hb dX8_has_23 (by decide) ?_
        have h := Option.some.inj h
        subst h
        exact z_ret_z S hr hlk (Or.inr rfl) hw dX8_has_24
set_option maxHeartbeats 4000000 in
set_option maxRecDepth 100000 in
theorem c_X8_has (l : Launch) {G : ZG} (hG : zOk G) (t0 : Nat) (v1 : Int64) (k0 : zk G t0 = 18) (M : ZM) (res : Int32) (h : f_X8_has t0 v1 M = some res) : zCt l yX8_has cX8_has 4 (Option.some FieldType.boolean) 1 G [.ref (za G t0), .long v1] M (some (.int res)) M := by
  refine zCt.mk (by decide +kernel) (Nat.le_of_ble_eq_true rfl) ?_
  intro p e s m args below meth c A H locs ls S hr hlk hw hl
  have S : zX p (zR 1) s m args c 0 0 cX8_has 4 RX8 := S
  have hx := S.1.1
  have hb := S.1.2.1
  have hown := S.1.2.2.2.1
  have hts := S.1.2.2.2.2
  have hl : lv_has ls 4 [(0, .ref (za G t0)), (1, .long v1)] := hl
  unfold f_X8_has at h
  refine lv_iconst (v := 0) hx hb dX8_has_0 (by decide) ?_
  refine lv_istore_n (lv' := [(3, .int 0), (0, .ref (za G t0)), (1, .long v1)]) hx hb dX8_has_1 rfl hl (by decide) rfl (fun ls hl => ?_)
  refine w_X8_has_2 hG S hr hlk t0 v1 k0 M (fun h H locs ls hw hl => ?_) zN 0 h H locs ls hw (lv_sub hl [1, 2, 0] rfl)
  refine lv_iconst (v := 0) hx hb dX8_has_31 (by decide) ?_
  have h := Option.some.inj h
  subst h
  exact z_ret_z S hr hlk (Or.inl rfl) hw dX8_has_32
def f_X8_gather_7 (t0 : Nat) (t1 : Nat) (K : ZM → Option ZM) : Nat → Int32 → ZM → Option ZM
  | 0, _, _ => none
  | n + 1, v2, M =>
    zlet (f_X2_size t1 M) fun (q2 : Int32) =>
    if q2 ≤ v2 then (
      K M) else (
      zlet (f_X2_meaning t1 v2 M) fun (q4 : Int64) =>
      (f_X8_has t0 q4 M).bind fun (q5 : Int32) =>
      if q5 = 0 then (
        zlet (f_X2_meaning t1 v2 M) fun (q8 : Int64) =>
        zlet (f_X11_put_ (zr t0 0) (M.1 t0 1) q8 M) fun (q9 : ZM) =>
        zlet (zi q9 t0 1 ((q9.1 t0 1) + 1)) fun (M10 : ZM) =>
        zlet (v2 + 1) fun (x11 : Int32) =>
        f_X8_gather_7 t0 t1 K n x11 M10) else (
        zlet (v2 + 1) fun (x7 : Int32) =>
        f_X8_gather_7 t0 t1 K n x7 M))

def f_X8_gather (t0 : Nat) (t1 : Nat) (M : ZM) : Option ZM :=
  zlet (zi M t0 1 0) fun (M1 : ZM) =>
  f_X8_gather_7 t0 t1 (fun (M : ZM) =>
    some M) zN 0 M1
set_option maxHeartbeats 4000000 in
set_option maxRecDepth 100000 in
theorem w_X8_gather_7 {G : ZG} (hG : zOk G) (S : zX p (zR 2) s m args c 0 0 cX8_gather 3 RX8) (hr : meth.sig.returnType = none) (hlk : meth.locks = false) (t0 : Nat) (t1 : Nat) (k0 : zk G t0 = 18) (k1 : zk G t1 = 12)  {K : ZM → Option ZM} {res : ZM} (hK : ∀  (M : ZM), K M = some res → ∀ (H : Heap) (locs : List Loc) (ls : Array Slot), zWd G A s H locs M → lv_has ls 3 [] → W p l e (zR 2) s m args below meth c H locs 0 0 (zQ below G A none res args s) (F0 m 59 ls [])) : ∀ (n : Nat) (v2 : Int32) (M : ZM), f_X8_gather_7 t0 t1 K n v2 M = some res → ∀ (H : Heap) (locs : List Loc) (ls : Array Slot), zWd G A s H locs M → lv_has ls 3 [(0, .ref (za G t0)), (1, .ref (za G t1)), (2, .int v2)] → W p l e (zR 2) s m args below meth c H locs 0 0 (zQ below G A none res args s) (F0 m 7 ls []) := by
  have hx := S.1.1
  have hb := S.1.2.1
  have hown := S.1.2.2.2.1
  have hts := S.1.2.2.2.2
  intro n
  induction n with
  | zero =>
    intro v2 M h
    rw [f_X8_gather_7] at h
    cases h
  | succ n ih =>
    intro v2 M h H locs ls hw hl
    rw [f_X8_gather_7] at h
    refine lv_iload_n hx hb dX8_gather_7 rfl (lv_at hl 2 rfl) ?_
    refine lv_aload_n hx hb dX8_gather_8 rfl (lv_at hl 1 rfl) ?_
    obtain ⟨q2, eq2, h⟩ := zlet_ex h
    refine z_callV (ci := 2) (As := []) (rest := [.int v2]) (rv := (some (.int q2))) (M1 := M) S hw (c_X2_size l hG t1 k1 M q2 eq2.symm) mv_X2_size lk_X8_19 k1 ⟨_, _, rfl⟩ (by decide) rfl rfl (Nat.le_of_ble_eq_true rfl) ⟨Nat.le_of_ble_eq_true rfl, Nat.le_of_ble_eq_true rfl⟩ hl.1 dX8_gather_9 (fun H locs hw => ?_)
    refine lv_icmp_ge (tgt := 59) hx hb dX8_gather_12 (by decide) (fun c3 => ?_) (fun c3 => ?_)
    · have h := zif_t h c3
      exact hK M h H locs ls hw (lv_sub hl [] rfl)
    · have h := zif_f h c3
      refine lv_aload_n hx hb dX8_gather_15 rfl (lv_at hl 0 rfl) ?_
      refine lv_aload_n hx hb dX8_gather_16 rfl (lv_at hl 1 rfl) ?_
      refine lv_iload_n hx hb dX8_gather_17 rfl (lv_at hl 2 rfl) ?_
      obtain ⟨q4, eq4, h⟩ := zlet_ex h
      refine z_callV (ci := 2) (As := [.int v2]) (rest := [.ref (za G t0)]) (rv := (some (.long q4))) (M1 := M) S hw (c_X2_meaning l hG t1 v2 k1 M q4 eq4.symm) mv_X2_meaning lk_X8_24 k1 ⟨_, _, rfl⟩ (by decide) rfl rfl (Nat.le_of_ble_eq_true rfl) ⟨Nat.le_of_ble_eq_true rfl, Nat.le_of_ble_eq_true rfl⟩ hl.1 dX8_gather_18 (fun H locs hw => ?_)
      obtain ⟨q5, eq5, h⟩ := Option.bind_eq_some_iff.mp h
      refine z_callV (ci := 8) (As := [.long q4]) (rest := []) (rv := (some (.int q5))) (M1 := M) S hw (c_X8_has l hG t0 q4 k0 M q5 eq5) mv_X8_has lk_X8_28 k0 ⟨_, _, rfl⟩ (by decide) rfl rfl (Nat.le_of_ble_eq_true rfl) ⟨Nat.le_of_ble_eq_true rfl, Nat.le_of_ble_eq_true rfl⟩ hl.1 dX8_gather_21 (fun H locs hw => ?_)
      refine lv_if_ne (tgt := 53) hx hb dX8_gather_24 (by decide) (fun c6 => ?_) (fun c6 => ?_)
      · have h := zif_f h c6
        obtain ⟨x7, ex7, h⟩ := zlet_ex h
        refine lv_iinc (v := x7) (lv' := [(2, .int x7), (0, .ref (za G t0)), (1, .ref (za G t1))]) hx hb dX8_gather_53 hl (k := 2) rfl (by rw [ex7]; rfl) (by decide) rfl (fun ls hl => ?_)
        refine lv_goto (tgt := 7) hx hb dX8_gather_56 (by decide) ?_
        exact ih x7 M h H locs ls hw (lv_sub hl [1, 2, 0] rfl)
      · have h := zif_t h c6
        refine lv_aload_n hx hb dX8_gather_27 rfl (lv_at hl 0 rfl) ?_
        refine z_getR S hw k0 fl_X8_9 rfl dX8_gather_28 ?_
        refine lv_aload_n hx hb dX8_gather_31 rfl (lv_at hl 0 rfl) ?_
        refine z_getI S hw k0 fl_X8_15 rfl dX8_gather_32 ?_
        refine lv_aload_n hx hb dX8_gather_35 rfl (lv_at hl 1 rfl) ?_
        refine lv_iload_n hx hb dX8_gather_36 rfl (lv_at hl 2 rfl) ?_
        obtain ⟨q8, eq8, h⟩ := zlet_ex h
        refine z_callV (ci := 2) (As := [.int v2]) (rest := [.int (M.1 t0 1), .ref (za G (zr t0 0))]) (rv := (some (.long q8))) (M1 := M) S hw (c_X2_meaning l hG t1 v2 k1 M q8 eq8.symm) mv_X2_meaning lk_X8_24 k1 ⟨_, _, rfl⟩ (by decide) rfl rfl (Nat.le_of_ble_eq_true rfl) ⟨Nat.le_of_ble_eq_true rfl, Nat.le_of_ble_eq_true rfl⟩ hl.1 dX8_gather_37 (fun H locs hw => ?_)
        obtain ⟨q9, eq9, h⟩ := zlet_ex h
        refine z_callS (As := [.ref (za G (zr t0 0)), .int (M.1 t0 1), .long q8]) (rest := []) (rv := none) (M1 := q9) S hw (c_X11_put_ l hG (zr t0 0) (M.1 t0 1) q8 (kr_8_0 hG k0) M q9 eq9.symm) mv_X11_put_ lk_X8_32 rfl rfl (Nat.le_of_ble_eq_true rfl) ⟨Nat.le_of_ble_eq_true rfl, Nat.le_of_ble_eq_true rfl⟩ hl.1 dX8_gather_40 (fun H locs hw => ?_)
        refine lv_aload_n hx hb dX8_gather_43 rfl (lv_at hl 0 rfl) ?_
        refine lv_dup hx hb dX8_gather_44 rfl ?_
        refine z_getI S hw k0 fl_X8_15 rfl dX8_gather_45 ?_
        refine lv_iconst (v := 1) hx hb dX8_gather_48 (by decide) ?_
        refine lv_iadd hx hb dX8_gather_49 ?_
        obtain ⟨M10, eM10, h⟩ := zlet_ex h
        refine z_putI S hw eM10 k0 fl_X8_15 rfl (fun h => absurd h (by decide)) dX8_gather_50 (fun H locs hw => ?_)
        obtain ⟨x11, ex11, h⟩ := zlet_ex h
        refine lv_iinc (v := x11) (lv' := [(2, .int x11), (0, .ref (za G t0)), (1, .ref (za G t1))]) hx hb dX8_gather_53 hl (k := 2) rfl (by rw [ex11]; rfl) (by decide) rfl (fun ls hl => ?_)
        refine lv_goto (tgt := 7) hx hb dX8_gather_56 (by decide) ?_
        exact ih x11 M10 h H locs ls hw (lv_sub hl [1, 2, 0] rfl)
set_option maxHeartbeats 4000000 in
set_option maxRecDepth 100000 in
theorem c_X8_gather (l : Launch) {G : ZG} (hG : zOk G) (t0 : Nat) (t1 : Nat) (k0 : zk G t0 = 18) (k1 : zk G t1 = 12) (M : ZM) (res : ZM) (h : f_X8_gather t0 t1 M = some res) : zCt l yX8_gather cX8_gather 3 none 2 G [.ref (za G t0), .ref (za G t1)] M none res := by
  refine zCt.mk (by decide +kernel) (Nat.le_of_ble_eq_true rfl) ?_
  intro p e s m args below meth c A H locs ls S hr hlk hw hl
  have S : zX p (zR 2) s m args c 0 0 cX8_gather 3 RX8 := S
  have hx := S.1.1
  have hb := S.1.2.1
  have hown := S.1.2.2.2.1
  have hts := S.1.2.2.2.2
  have hl : lv_has ls 3 [(0, .ref (za G t0)), (1, .ref (za G t1))] := hl
  unfold f_X8_gather at h
  refine lv_aload_n hx hb dX8_gather_0 rfl (lv_at hl 0 rfl) ?_
  refine lv_iconst (v := 0) hx hb dX8_gather_1 (by decide) ?_
  obtain ⟨M1, eM1, h⟩ := zlet_ex h
  refine z_putI S hw eM1 k0 fl_X8_15 rfl (fun h => absurd h (by decide)) dX8_gather_2 (fun H locs hw => ?_)
  refine lv_iconst (v := 0) hx hb dX8_gather_5 (by decide) ?_
  refine lv_istore_n (lv' := [(2, .int 0), (0, .ref (za G t0)), (1, .ref (za G t1))]) hx hb dX8_gather_6 rfl hl (by decide) rfl (fun ls hl => ?_)
  refine w_X8_gather_7 hG S hr hlk t0 t1 k0 k1 (fun M h H locs ls hw hl => ?_) zN 0 M1 h H locs ls hw (lv_sub hl [1, 2, 0] rfl)
  have h := Option.some.inj h
  subst h
  exact z_ret_v S hr hlk hw dX8_gather_59
def f_X8_size (t0 : Nat) (M : ZM) : Int32 :=
  (M.1 t0 1)
set_option maxHeartbeats 4000000 in
set_option maxRecDepth 100000 in
theorem c_X8_size (l : Launch) {G : ZG} (hG : zOk G) (t0 : Nat) (k0 : zk G t0 = 18) (M : ZM) (res : Int32) (h : f_X8_size t0 M = res) : zCt l yX8_size cX8_size 1 (Option.some FieldType.int) 0 G [.ref (za G t0)] M (some (.int res)) M := by
  refine zCt.mk (by decide +kernel) (Nat.le_of_ble_eq_true rfl) ?_
  intro p e s m args below meth c A H locs ls S hr hlk hw hl
  have S : zX p (zR 0) s m args c 0 0 cX8_size 1 RX8 := S
  have hx := S.1.1
  have hb := S.1.2.1
  have hown := S.1.2.2.2.1
  have hts := S.1.2.2.2.2
  have hl : lv_has ls 1 [(0, .ref (za G t0))] := hl
  unfold f_X8_size at h
  refine lv_aload_n hx hb dX8_size_0 rfl (lv_at hl 0 rfl) ?_
  refine z_getI S hw k0 fl_X8_15 rfl dX8_size_1 ?_
  subst h
  exact z_ret_i S hr hlk hw dX8_size_4
def f_X11_unlike (t0 : Nat) (M : ZM) : Option (Int32 × ZM) :=
  (f_X11_spent t0 M).bind fun (q1 : (Int32 × ZM)) =>
  if q1.1 = 0 then (
    (f_X8_gather (zr t0 6) (zr t0 5) q1.2).bind fun (q3 : ZM) =>
    zlet (f_X8_size (zr t0 6) q3) fun (q4 : Int32) =>
    some (q4, q3)) else (
    zlet (f_X11_refuse t0 (-5) q1.2) fun (q5 : (Int32 × ZM)) =>
    some (q5.1, q5.2))
set_option maxHeartbeats 4000000 in
set_option maxRecDepth 100000 in
theorem c_X11_unlike (l : Launch) {G : ZG} (hG : zOk G) (t0 : Nat) (k0 : zk G t0 = 21) (M : ZM) (res : (Int32 × ZM)) (h : f_X11_unlike t0 M = some res) : zCt l yX11_unlike cX11_unlike 1 (Option.some FieldType.int) 6 G [.ref (za G t0)] M (some (.int res.1)) res.2 := by
  refine zCt.mk (by decide +kernel) (Nat.le_of_ble_eq_true rfl) ?_
  intro p e s m args below meth c A H locs ls S hr hlk hw hl
  have S : zX p (zR 6) s m args c 0 0 cX11_unlike 1 RX11 := S
  have hx := S.1.1
  have hb := S.1.2.1
  have hown := S.1.2.2.2.1
  have hts := S.1.2.2.2.2
  have hl : lv_has ls 1 [(0, .ref (za G t0))] := hl
  unfold f_X11_unlike at h
  refine lv_aload_n hx hb dX11_unlike_0 rfl (lv_at hl 0 rfl) ?_
  obtain ⟨q1, eq1, h⟩ := Option.bind_eq_some_iff.mp h
  refine z_callV (ci := 11) (As := []) (rest := []) (rv := (some (.int q1.1))) (M1 := q1.2) S hw (c_X11_spent l hG t0 k0 M q1 eq1) mv_X11_spent lk_X11_126 k0 ⟨_, _, rfl⟩ (by decide) rfl rfl (Nat.le_of_ble_eq_true rfl) ⟨Nat.le_of_ble_eq_true rfl, Nat.le_of_ble_eq_true rfl⟩ hl.1 dX11_unlike_1 (fun H locs hw => ?_)
  refine lv_if_eq (tgt := 14) hx hb dX11_unlike_4 (by decide) (fun c2 => ?_) (fun c2 => ?_)
  · have h := zif_t h c2
    refine lv_aload_n hx hb dX11_unlike_14 rfl (lv_at hl 0 rfl) ?_
    refine z_getR S hw k0 fl_X11_46 rfl dX11_unlike_15 ?_
    refine lv_aload_n hx hb dX11_unlike_18 rfl (lv_at hl 0 rfl) ?_
    refine z_getR S hw k0 fl_X11_39 rfl dX11_unlike_19 ?_
    obtain ⟨q3, eq3, h⟩ := Option.bind_eq_some_iff.mp h
    refine z_callV (ci := 8) (As := [.ref (za G (zr t0 5))]) (rest := []) (rv := none) (M1 := q3) S hw (c_X8_gather l hG (zr t0 6) (zr t0 5) (kr_11_6 hG k0) (kr_11_5 hG k0) q1.2 q3 eq3) mv_X8_gather lk_X11_169 (kr_11_6 hG k0) ⟨_, _, rfl⟩ (by decide) rfl rfl (Nat.le_of_ble_eq_true rfl) ⟨Nat.le_of_ble_eq_true rfl, Nat.le_of_ble_eq_true rfl⟩ hl.1 dX11_unlike_22 (fun H locs hw => ?_)
    refine lv_aload_n hx hb dX11_unlike_25 rfl (lv_at hl 0 rfl) ?_
    refine z_getR S hw k0 fl_X11_46 rfl dX11_unlike_26 ?_
    obtain ⟨q4, eq4, h⟩ := zlet_ex h
    refine z_callV (ci := 8) (As := []) (rest := []) (rv := (some (.int q4))) (M1 := q3) S hw (c_X8_size l hG (zr t0 6) (kr_11_6 hG k0) q3 q4 eq4.symm) mv_X8_size lk_X11_173 (kr_11_6 hG k0) ⟨_, _, rfl⟩ (by decide) rfl rfl (Nat.le_of_ble_eq_true rfl) ⟨Nat.le_of_ble_eq_true rfl, Nat.le_of_ble_eq_true rfl⟩ hl.1 dX11_unlike_29 (fun H locs hw => ?_)
    have h := Option.some.inj h
    subst h
    exact z_ret_i S hr hlk hw dX11_unlike_32
  · have h := zif_f h c2
    refine lv_aload_n hx hb dX11_unlike_7 rfl (lv_at hl 0 rfl) ?_
    refine lv_bipush (v := (-5)) hx hb dX11_unlike_8 (by decide) ?_
    obtain ⟨q5, eq5, h⟩ := zlet_ex h
    refine z_callV (ci := 11) (As := [.int (-5)]) (rest := []) (rv := (some (.int q5.1))) (M1 := q5.2) S hw (c_X11_refuse l hG t0 (-5) k0 q1.2 q5 eq5.symm) mv_X11_refuse lk_X11_100 k0 ⟨_, _, rfl⟩ (by decide) rfl rfl (Nat.le_of_ble_eq_true rfl) ⟨Nat.le_of_ble_eq_true rfl, Nat.le_of_ble_eq_true rfl⟩ hl.1 dX11_unlike_10 (fun H locs hw => ?_)
    have h := Option.some.inj h
    subst h
    exact z_ret_i S hr hlk hw dX11_unlike_13
def f_X11_leastCase_2 (v0 : Int64) (M : ZM) (K : Option Int32) : Nat → Int32 → Option Int32
  | 0, _ => none
  | n + 1, v2 =>
    if 32 ≤ v2 then (
      K) else (
      zlet (f_X11_bit v0 v2 M) fun (q2 : Int32) =>
      if q2 = 1 then (
        some v2) else (
        zlet (v2 + 1) fun (x4 : Int32) =>
        f_X11_leastCase_2 v0 M K n x4))

def f_X11_leastCase (v0 : Int64) (M : ZM) : Option Int32 :=
  f_X11_leastCase_2 v0 M (
    some ((-9) : Int32)) zN 0
set_option maxHeartbeats 4000000 in
set_option maxRecDepth 100000 in
theorem w_X11_leastCase_2 {G : ZG} (hG : zOk G) (S : zX p (zR 1) s m args c 0 0 cX11_leastCase 3 RX11) (hr : meth.sig.returnType = (Option.some FieldType.int)) (hlk : meth.locks = false) (v0 : Int64) (M : ZM)  {K : Option Int32} {res : Int32} (hK : K = some res → ∀ (H : Heap) (locs : List Loc) (ls : Array Slot), zWd G A s H locs M → lv_has ls 3 [] → W p l e (zR 1) s m args below meth c H locs 0 0 (zQ below G A (some (.int res)) M args s) (F0 m 25 ls [])) : ∀ (n : Nat) (v2 : Int32), f_X11_leastCase_2 v0 M K n v2 = some res → ∀ (H : Heap) (locs : List Loc) (ls : Array Slot), zWd G A s H locs M → lv_has ls 3 [(0, .long v0), (2, .int v2)] → W p l e (zR 1) s m args below meth c H locs 0 0 (zQ below G A (some (.int res)) M args s) (F0 m 2 ls []) := by
  have hx := S.1.1
  have hb := S.1.2.1
  have hown := S.1.2.2.2.1
  have hts := S.1.2.2.2.2
  intro n
  induction n with
  | zero =>
    intro v2 h
    rw [f_X11_leastCase_2] at h
    cases h
  | succ n ih =>
    intro v2 h H locs ls hw hl
    rw [f_X11_leastCase_2] at h
    refine lv_iload_n hx hb dX11_leastCase_2 rfl (lv_at hl 1 rfl) ?_
    refine lv_bipush (v := 32) hx hb dX11_leastCase_3 (by decide) ?_
    refine lv_icmp_ge (tgt := 25) hx hb dX11_leastCase_5 (by decide) (fun c1 => ?_) (fun c1 => ?_)
    · have h := zif_t h c1
      exact hK  h H locs ls hw (lv_sub hl [] rfl)
    · have h := zif_f h c1
      refine lv_lload_n hx hb dX11_leastCase_8 rfl (lv_at hl 0 rfl) ?_
      refine lv_iload_n hx hb dX11_leastCase_9 rfl (lv_at hl 1 rfl) ?_
      obtain ⟨q2, eq2, h⟩ := zlet_ex h
      refine z_callS (As := [.long v0, .int v2]) (rest := []) (rv := (some (.int q2))) (M1 := M) S hw (c_X11_bit l hG v0 v2 M q2 eq2.symm) mv_X11_bit lk_X11_155 rfl rfl (Nat.le_of_ble_eq_true rfl) ⟨Nat.le_of_ble_eq_true rfl, Nat.le_of_ble_eq_true rfl⟩ hl.1 dX11_leastCase_10 (fun H locs hw => ?_)
      refine lv_iconst (v := 1) hx hb dX11_leastCase_13 (by decide) ?_
      refine lv_icmp_ne (tgt := 19) hx hb dX11_leastCase_14 (by decide) (fun c3 => ?_) (fun c3 => ?_)
      · have h := zif_f h c3
        obtain ⟨x4, ex4, h⟩ := zlet_ex h
        refine lv_iinc (v := x4) (lv' := [(2, .int x4), (0, .long v0)]) hx hb dX11_leastCase_19 hl (k := 1) rfl (by rw [ex4]; rfl) (by decide) rfl (fun ls hl => ?_)
        refine lv_goto (tgt := 2) hx hb dX11_leastCase_22 (by decide) ?_
        exact ih x4 h H locs ls hw (lv_sub hl [1, 0] rfl)
      · have h := zif_t h c3
        refine lv_iload_n hx hb dX11_leastCase_17 rfl (lv_at hl 1 rfl) ?_
        have h := Option.some.inj h
        subst h
        exact z_ret_i S hr hlk hw dX11_leastCase_18
set_option maxHeartbeats 4000000 in
set_option maxRecDepth 100000 in
theorem c_X11_leastCase (l : Launch) {G : ZG} (hG : zOk G) (v0 : Int64) (M : ZM) (res : Int32) (h : f_X11_leastCase v0 M = some res) : zCt l yX11_leastCase cX11_leastCase 3 (Option.some FieldType.int) 1 G [.long v0] M (some (.int res)) M := by
  refine zCt.mk (by decide +kernel) (Nat.le_of_ble_eq_true rfl) ?_
  intro p e s m args below meth c A H locs ls S hr hlk hw hl
  have S : zX p (zR 1) s m args c 0 0 cX11_leastCase 3 RX11 := S
  have hx := S.1.1
  have hb := S.1.2.1
  have hown := S.1.2.2.2.1
  have hts := S.1.2.2.2.2
  have hl : lv_has ls 3 [(0, .long v0)] := hl
  unfold f_X11_leastCase at h
  refine lv_iconst (v := 0) hx hb dX11_leastCase_0 (by decide) ?_
  refine lv_istore_n (lv' := [(2, .int 0), (0, .long v0)]) hx hb dX11_leastCase_1 rfl hl (by decide) rfl (fun ls hl => ?_)
  refine w_X11_leastCase_2 hG S hr hlk v0 M (fun h H locs ls hw hl => ?_) zN 0 h H locs ls hw (lv_sub hl [1, 0] rfl)
  refine lv_bipush (v := (-9)) hx hb dX11_leastCase_25 (by decide) ?_
  have h := Option.some.inj h
  subst h
  exact z_ret_i S hr hlk hw dX11_leastCase_27
def f_X11_part (t0 : Nat) (v1 : Int32) (v2 : Int32) (M : ZM) : Option (Int32 × ZM) :=
  (f_X11_spent t0 M).bind fun (q1 : (Int32 × ZM)) =>
  if q1.1 = 0 then (
    zlet (f_X11_noReading t0 v1 q1.2) fun (q3 : Int32) =>
    if q3 = 0 then (
      zlet (f_X11_noReading t0 v2 q1.2) fun (q6 : Int32) =>
      if q6 = 0 then (
        zlet (f_X2_meaning (zr t0 5) v1 q1.2) fun (q8 : Int64) =>
        zlet (f_X2_meaning (zr t0 5) v2 q1.2) fun (q9 : Int64) =>
        (f_X11_leastCase (q8 ^^^ q9) q1.2).bind fun (q10 : Int32) =>
        some (q10, q1.2)) else (
        zlet (f_X11_refuse t0 (-1) q1.2) fun (q11 : (Int32 × ZM)) =>
        some (q11.1, q11.2))) else (
      zlet (f_X11_refuse t0 (-1) q1.2) fun (q5 : (Int32 × ZM)) =>
      some (q5.1, q5.2))) else (
    zlet (f_X11_refuse t0 (-5) q1.2) fun (q12 : (Int32 × ZM)) =>
    some (q12.1, q12.2))
set_option maxHeartbeats 4000000 in
set_option maxRecDepth 100000 in
theorem c_X11_part (l : Launch) {G : ZG} (hG : zOk G) (t0 : Nat) (v1 : Int32) (v2 : Int32) (k0 : zk G t0 = 21) (M : ZM) (res : (Int32 × ZM)) (h : f_X11_part t0 v1 v2 M = some res) : zCt l yX11_part cX11_part 3 (Option.some FieldType.int) 6 G [.ref (za G t0), .int v1, .int v2] M (some (.int res.1)) res.2 := by
  refine zCt.mk (by decide +kernel) (Nat.le_of_ble_eq_true rfl) ?_
  intro p e s m args below meth c A H locs ls S hr hlk hw hl
  have S : zX p (zR 6) s m args c 0 0 cX11_part 3 RX11 := S
  have hx := S.1.1
  have hb := S.1.2.1
  have hown := S.1.2.2.2.1
  have hts := S.1.2.2.2.2
  have hl : lv_has ls 3 [(0, .ref (za G t0)), (1, .int v1), (2, .int v2)] := hl
  unfold f_X11_part at h
  refine lv_aload_n hx hb dX11_part_0 rfl (lv_at hl 0 rfl) ?_
  obtain ⟨q1, eq1, h⟩ := Option.bind_eq_some_iff.mp h
  refine z_callV (ci := 11) (As := []) (rest := []) (rv := (some (.int q1.1))) (M1 := q1.2) S hw (c_X11_spent l hG t0 k0 M q1 eq1) mv_X11_spent lk_X11_126 k0 ⟨_, _, rfl⟩ (by decide) rfl rfl (Nat.le_of_ble_eq_true rfl) ⟨Nat.le_of_ble_eq_true rfl, Nat.le_of_ble_eq_true rfl⟩ hl.1 dX11_part_1 (fun H locs hw => ?_)
  refine lv_if_eq (tgt := 14) hx hb dX11_part_4 (by decide) (fun c2 => ?_) (fun c2 => ?_)
  · have h := zif_t h c2
    refine lv_aload_n hx hb dX11_part_14 rfl (lv_at hl 0 rfl) ?_
    refine lv_iload_n hx hb dX11_part_15 rfl (lv_at hl 1 rfl) ?_
    obtain ⟨q3, eq3, h⟩ := zlet_ex h
    refine z_callV (ci := 11) (As := [.int v1]) (rest := []) (rv := (some (.int q3))) (M1 := q1.2) S hw (c_X11_noReading l hG t0 v1 k0 q1.2 q3 eq3.symm) mv_X11_noReading lk_X11_130 k0 ⟨_, _, rfl⟩ (by decide) rfl rfl (Nat.le_of_ble_eq_true rfl) ⟨Nat.le_of_ble_eq_true rfl, Nat.le_of_ble_eq_true rfl⟩ hl.1 dX11_part_16 (fun H locs hw => ?_)
    refine lv_if_ne (tgt := 30) hx hb dX11_part_19 (by decide) (fun c4 => ?_) (fun c4 => ?_)
    · have h := zif_f h c4
      refine lv_aload_n hx hb dX11_part_30 rfl (lv_at hl 0 rfl) ?_
      refine lv_iconst (v := (-1)) hx hb dX11_part_31 (by decide) ?_
      obtain ⟨q5, eq5, h⟩ := zlet_ex h
      refine z_callV (ci := 11) (As := [.int (-1)]) (rest := []) (rv := (some (.int q5.1))) (M1 := q5.2) S hw (c_X11_refuse l hG t0 (-1) k0 q1.2 q5 eq5.symm) mv_X11_refuse lk_X11_100 k0 ⟨_, _, rfl⟩ (by decide) rfl rfl (Nat.le_of_ble_eq_true rfl) ⟨Nat.le_of_ble_eq_true rfl, Nat.le_of_ble_eq_true rfl⟩ hl.1 dX11_part_32 (fun H locs hw => ?_)
      have h := Option.some.inj h
      subst h
      exact z_ret_i S hr hlk hw dX11_part_35
    · have h := zif_t h c4
      refine lv_aload_n hx hb dX11_part_22 rfl (lv_at hl 0 rfl) ?_
      refine lv_iload_n hx hb dX11_part_23 rfl (lv_at hl 2 rfl) ?_
      obtain ⟨q6, eq6, h⟩ := zlet_ex h
      refine z_callV (ci := 11) (As := [.int v2]) (rest := []) (rv := (some (.int q6))) (M1 := q1.2) S hw (c_X11_noReading l hG t0 v2 k0 q1.2 q6 eq6.symm) mv_X11_noReading lk_X11_130 k0 ⟨_, _, rfl⟩ (by decide) rfl rfl (Nat.le_of_ble_eq_true rfl) ⟨Nat.le_of_ble_eq_true rfl, Nat.le_of_ble_eq_true rfl⟩ hl.1 dX11_part_24 (fun H locs hw => ?_)
      refine lv_if_eq (tgt := 36) hx hb dX11_part_27 (by decide) (fun c7 => ?_) (fun c7 => ?_)
      · have h := zif_t h c7
        refine lv_aload_n hx hb dX11_part_36 rfl (lv_at hl 0 rfl) ?_
        refine z_getR S hw k0 fl_X11_39 rfl dX11_part_37 ?_
        refine lv_iload_n hx hb dX11_part_40 rfl (lv_at hl 1 rfl) ?_
        obtain ⟨q8, eq8, h⟩ := zlet_ex h
        refine z_callV (ci := 2) (As := [.int v1]) (rest := []) (rv := (some (.long q8))) (M1 := q1.2) S hw (c_X2_meaning l hG (zr t0 5) v1 (kr_11_5 hG k0) q1.2 q8 eq8.symm) mv_X2_meaning lk_X11_148 (kr_11_5 hG k0) ⟨_, _, rfl⟩ (by decide) rfl rfl (Nat.le_of_ble_eq_true rfl) ⟨Nat.le_of_ble_eq_true rfl, Nat.le_of_ble_eq_true rfl⟩ hl.1 dX11_part_41 (fun H locs hw => ?_)
        refine lv_aload_n hx hb dX11_part_44 rfl (lv_at hl 0 rfl) ?_
        refine z_getR S hw k0 fl_X11_39 rfl dX11_part_45 ?_
        refine lv_iload_n hx hb dX11_part_48 rfl (lv_at hl 2 rfl) ?_
        obtain ⟨q9, eq9, h⟩ := zlet_ex h
        refine z_callV (ci := 2) (As := [.int v2]) (rest := [.long q8]) (rv := (some (.long q9))) (M1 := q1.2) S hw (c_X2_meaning l hG (zr t0 5) v2 (kr_11_5 hG k0) q1.2 q9 eq9.symm) mv_X2_meaning lk_X11_148 (kr_11_5 hG k0) ⟨_, _, rfl⟩ (by decide) rfl rfl (Nat.le_of_ble_eq_true rfl) ⟨Nat.le_of_ble_eq_true rfl, Nat.le_of_ble_eq_true rfl⟩ hl.1 dX11_part_49 (fun H locs hw => ?_)
        refine lv_lxor hx hb dX11_part_52 ?_
        obtain ⟨q10, eq10, h⟩ := Option.bind_eq_some_iff.mp h
        refine z_callS (As := [.long (q8 ^^^ q9)]) (rest := []) (rv := (some (.int q10))) (M1 := q1.2) S hw (c_X11_leastCase l hG (q8 ^^^ q9) q1.2 q10 eq10) mv_X11_leastCase lk_X11_174 rfl rfl (Nat.le_of_ble_eq_true rfl) ⟨Nat.le_of_ble_eq_true rfl, Nat.le_of_ble_eq_true rfl⟩ hl.1 dX11_part_53 (fun H locs hw => ?_)
        have h := Option.some.inj h
        subst h
        exact z_ret_i S hr hlk hw dX11_part_56
      · have h := zif_f h c7
        refine lv_aload_n hx hb dX11_part_30 rfl (lv_at hl 0 rfl) ?_
        refine lv_iconst (v := (-1)) hx hb dX11_part_31 (by decide) ?_
        obtain ⟨q11, eq11, h⟩ := zlet_ex h
        refine z_callV (ci := 11) (As := [.int (-1)]) (rest := []) (rv := (some (.int q11.1))) (M1 := q11.2) S hw (c_X11_refuse l hG t0 (-1) k0 q1.2 q11 eq11.symm) mv_X11_refuse lk_X11_100 k0 ⟨_, _, rfl⟩ (by decide) rfl rfl (Nat.le_of_ble_eq_true rfl) ⟨Nat.le_of_ble_eq_true rfl, Nat.le_of_ble_eq_true rfl⟩ hl.1 dX11_part_32 (fun H locs hw => ?_)
        have h := Option.some.inj h
        subst h
        exact z_ret_i S hr hlk hw dX11_part_35
  · have h := zif_f h c2
    refine lv_aload_n hx hb dX11_part_7 rfl (lv_at hl 0 rfl) ?_
    refine lv_bipush (v := (-5)) hx hb dX11_part_8 (by decide) ?_
    obtain ⟨q12, eq12, h⟩ := zlet_ex h
    refine z_callV (ci := 11) (As := [.int (-5)]) (rest := []) (rv := (some (.int q12.1))) (M1 := q12.2) S hw (c_X11_refuse l hG t0 (-5) k0 q1.2 q12 eq12.symm) mv_X11_refuse lk_X11_100 k0 ⟨_, _, rfl⟩ (by decide) rfl rfl (Nat.le_of_ble_eq_true rfl) ⟨Nat.le_of_ble_eq_true rfl, Nat.le_of_ble_eq_true rfl⟩ hl.1 dX11_part_10 (fun H locs hw => ?_)
    have h := Option.some.inj h
    subst h
    exact z_ret_i S hr hlk hw dX11_part_13
end Z
