section Z
variable {p : Program} {l : Launch} {e : Env} {s : State} {m : MethodId} {args : Array Value} {below : List Frame} {meth : Method} {c : Code} {A : Nat → Prop}
def f_L_cell (L : Nat) (xs : Nat → Int32) (v1 : Int32) (M : ZM) : Option Int32 :=
  zlet (fun (s0 : Int32) (s1 : Int32) =>
    zlet ((s0 * (s1 + (1009 * v1))) + 12345) fun (x1 : Int32) =>
    zlet ((x1 ^^^ ((x1).toUInt32 >>> (((13 : Int32)).toUInt32 &&& Int32.toUInt32 31)).toInt32) * 1103515245) fun (x2 : Int32) =>
    some (x2 ^^^ ((x2).toUInt32 >>> (((16 : Int32)).toUInt32 &&& Int32.toUInt32 31)).toInt32)) fun J15 =>
  if (Int32.ofNat L) ≤ v1 then (
    J15 69069 0) else (
    zck (zin v1 L) <|
    J15 69069 (xs v1.toNatClampNeg))
set_option maxHeartbeats 4000000 in
set_option maxRecDepth 100000 in
theorem c_L_cell (l : Launch) {G : ZG} (hG : zOk G) (L : Nat) (xs : Nat → Int32) (v1 : Int32) (k0 : zSc G L xs) (M : ZM) (res : Int32) (h : f_L_cell L xs v1 M = some res) : zCt l yL_cell cL_cell 3 (Option.some FieldType.int) 0 G [.ref G.2.2.2.2.2.2.1, .int v1] M (some (.int res)) M := by
  refine zCt.mk (by decide +kernel) (Nat.le_of_ble_eq_true rfl) ?_
  intro p e s m args below meth c A H locs ls S hr hlk hw hl
  have S : zX p (zR 0) s m args c 0 0 cL_cell 3 RL := S
  have hx := S.1.1
  have hb := S.1.2.1
  have hown := S.1.2.2.2.1
  have hts := S.1.2.2.2.2
  have hl : lv_has ls 3 [(0, .ref G.2.2.2.2.2.2.1), (1, .int v1)] := hl
  unfold f_L_cell at h
  obtain ⟨J15, hJ15, h⟩ := zlet_ex h
  have wJ15 : ∀ (s0 : Int32) (s1 : Int32), J15 s0 s1 = some res → ∀ (H : Heap) (locs : List Loc) (ls : Array Slot), zWd G A s H locs M → lv_has ls 3 [(1, .int v1)] → W p l e (zR 0) s m args below meth c H locs 0 0 (zQ below G A (some (.int res)) M args s) (F0 m 15 ls [.int s1, .int s0]) := by
    intro s0 s1 h H locs ls hw hl
    subst hJ15
    refine lv_sipush (v := 1009) hx hb dL_cell_15 (by decide) ?_
    refine lv_iload_n hx hb dL_cell_18 rfl (lv_at hl 0 rfl) ?_
    refine lv_imul hx hb dL_cell_19 ?_
    refine lv_iadd hx hb dL_cell_20 ?_
    refine lv_imul hx hb dL_cell_21 ?_
    refine lv_sipush (v := 12345) hx hb dL_cell_22 (by decide) ?_
    refine lv_iadd hx hb dL_cell_25 ?_
    obtain ⟨x1, ex1, h⟩ := zlet_ex h
    refine lv_topiE ex1 ?_
    refine lv_istore_n (lv' := [(2, .int x1), (1, .int v1)]) hx hb dL_cell_26 rfl hl (by decide) rfl (fun ls hl => ?_)
    refine lv_iload_n hx hb dL_cell_27 rfl (lv_at hl 0 rfl) ?_
    refine lv_iload_n hx hb dL_cell_28 rfl (lv_at hl 0 rfl) ?_
    refine lv_bipush (v := 13) hx hb dL_cell_29 (by decide) ?_
    refine lv_iushr (v := ((x1).toUInt32 >>> (((13 : Int32)).toUInt32 &&& Int32.toUInt32 31)).toInt32) hx hb dL_cell_31 rfl ?_
    refine lv_ixor hx hb dL_cell_32 ?_
    refine lv_ldc (v := 1103515245) hx hb hown (hts _ kc_L_8) dL_cell_33 ?_
    refine lv_imul hx hb dL_cell_35 ?_
    obtain ⟨x2, ex2, h⟩ := zlet_ex h
    refine lv_topiE ex2 ?_
    refine lv_istore_n (lv' := [(2, .int x2), (1, .int v1)]) hx hb dL_cell_36 rfl hl (by decide) rfl (fun ls hl => ?_)
    refine lv_iload_n hx hb dL_cell_37 rfl (lv_at hl 0 rfl) ?_
    refine lv_iload_n hx hb dL_cell_38 rfl (lv_at hl 0 rfl) ?_
    refine lv_bipush (v := 16) hx hb dL_cell_39 (by decide) ?_
    refine lv_iushr (v := ((x2).toUInt32 >>> (((16 : Int32)).toUInt32 &&& Int32.toUInt32 31)).toInt32) hx hb dL_cell_41 rfl ?_
    refine lv_ixor hx hb dL_cell_42 ?_
    have h := Option.some.inj h
    subst h
    exact z_ret_i S hr hlk hw dL_cell_43
  refine lv_ldc (v := 69069) hx hb hown (hts _ kc_L_7) dL_cell_0 ?_
  refine lv_iload_n hx hb dL_cell_2 rfl (lv_at hl 1 rfl) ?_
  refine lv_aload_n hx hb dL_cell_3 rfl (lv_at hl 0 rfl) ?_
  refine z_slen S hw k0 dL_cell_4 ?_
  refine lv_icmp_ge (tgt := 14) hx hb dL_cell_5 (by decide) (fun c3 => ?_) (fun c3 => ?_)
  · have h := zif_t h c3
    refine lv_iconst (v := 0) hx hb dL_cell_14 (by decide) ?_
    exact wJ15 69069 0 h H locs ls hw (lv_sub hl [1] rfl)
  · have h := zif_f h c3
    refine lv_aload_n hx hb dL_cell_8 rfl (lv_at hl 0 rfl) ?_
    refine lv_iload_n hx hb dL_cell_9 rfl (lv_at hl 1 rfl) ?_
    obtain ⟨g4, h⟩ := zck_ex h
    refine z_sld S hw k0 g4 dL_cell_10 ?_
    refine lv_goto (tgt := 15) hx hb dL_cell_11 (by decide) ?_
    exact wJ15 69069 (xs v1.toNatClampNeg) h H locs ls hw (lv_sub hl [1] rfl)
def f_L_say (t0 : Nat) (v1 : Int32) (M : ZM) : Option (Int32 × ZM) :=
  (f_X11_feed t0 1 (v1.toInt64) M).bind fun (q1 : (Int32 × ZM)) =>
  some (q1.1, q1.2)
set_option maxHeartbeats 4000000 in
set_option maxRecDepth 100000 in
theorem c_L_say (l : Launch) {G : ZG} (hG : zOk G) (t0 : Nat) (v1 : Int32) (k0 : zk G t0 = 21) (M : ZM) (res : (Int32 × ZM)) (h : f_L_say t0 v1 M = some res) : zCt l yL_say cL_say 2 (Option.some FieldType.int) 3 G [.ref (za G t0), .int v1] M (some (.int res.1)) res.2 := by
  refine zCt.mk (by decide +kernel) (Nat.le_of_ble_eq_true rfl) ?_
  intro p e s m args below meth c A H locs ls S hr hlk hw hl
  have S : zX p (zR 3) s m args c 0 0 cL_say 2 RL := S
  have hx := S.1.1
  have hb := S.1.2.1
  have hown := S.1.2.2.2.1
  have hts := S.1.2.2.2.2
  have hl : lv_has ls 2 [(0, .ref (za G t0)), (1, .int v1)] := hl
  unfold f_L_say at h
  refine lv_aload_n hx hb dL_say_0 rfl (lv_at hl 0 rfl) ?_
  refine lv_iconst (v := 1) hx hb dL_say_1 (by decide) ?_
  refine lv_iload_n hx hb dL_say_2 rfl (lv_at hl 1 rfl) ?_
  refine lv_i2l (v := (v1.toInt64)) hx hb dL_say_3 rfl ?_
  obtain ⟨q1, eq1, h⟩ := Option.bind_eq_some_iff.mp h
  refine z_callV (ci := 11) (As := [.int 1, .long (v1.toInt64)]) (rest := []) (rv := (some (.int q1.1))) (M1 := q1.2) S hw (c_X11_feed l hG t0 1 (v1.toInt64) k0 M q1 eq1) mv_X11_feed lk_L_9 k0 ⟨_, _, rfl⟩ (by decide) rfl rfl (Nat.le_of_ble_eq_true rfl) ⟨Nat.le_of_ble_eq_true rfl, Nat.le_of_ble_eq_true rfl⟩ hl.1 dL_say_4 (fun H locs hw => ?_)
  have h := Option.some.inj h
  subst h
  exact z_ret_i S hr hlk hw dL_say_7
def f_L_stir (L : Nat) (xs : Nat → Int32) (v1 : Int32) (v2 : Int32) (M : ZM) : Option Int32 :=
  zck (znzI (3 : Int32)) <|
  (f_L_cell L xs ((v1 + 1) + (v2 / 3)) M).bind fun (q2 : Int32) =>
  zck (znzI (3 : Int32)) <|
  (f_L_cell L xs ((v1 + 2) + (v2 - v2 / 3 * 3)) M).bind fun (q4 : Int32) =>
  zlet ((69069 * ((q2 + (31 * q4)) + (1009 * v2))) + 12345) fun (x5 : Int32) =>
  zlet ((x5 ^^^ ((x5).toUInt32 >>> (((13 : Int32)).toUInt32 &&& Int32.toUInt32 31)).toInt32) * 1103515245) fun (x6 : Int32) =>
  some (((x6).toUInt32 >>> (((16 : Int32)).toUInt32 &&& Int32.toUInt32 31)).toInt32 &&& 63)
set_option maxHeartbeats 4000000 in
set_option maxRecDepth 100000 in
theorem c_L_stir (l : Launch) {G : ZG} (hG : zOk G) (L : Nat) (xs : Nat → Int32) (v1 : Int32) (v2 : Int32) (k0 : zSc G L xs) (M : ZM) (res : Int32) (h : f_L_stir L xs v1 v2 M = some res) : zCt l yL_stir cL_stir 4 (Option.some FieldType.int) 1 G [.ref G.2.2.2.2.2.2.1, .int v1, .int v2] M (some (.int res)) M := by
  refine zCt.mk (by decide +kernel) (Nat.le_of_ble_eq_true rfl) ?_
  intro p e s m args below meth c A H locs ls S hr hlk hw hl
  have S : zX p (zR 1) s m args c 0 0 cL_stir 4 RL := S
  have hx := S.1.1
  have hb := S.1.2.1
  have hown := S.1.2.2.2.1
  have hts := S.1.2.2.2.2
  have hl : lv_has ls 4 [(0, .ref G.2.2.2.2.2.2.1), (1, .int v1), (2, .int v2)] := hl
  unfold f_L_stir at h
  refine lv_ldc (v := 69069) hx hb hown (hts _ kc_L_7) dL_stir_0 ?_
  refine lv_aload_n hx hb dL_stir_2 rfl (lv_at hl 0 rfl) ?_
  refine lv_iload_n hx hb dL_stir_3 rfl (lv_at hl 1 rfl) ?_
  refine lv_iconst (v := 1) hx hb dL_stir_4 (by decide) ?_
  refine lv_iadd hx hb dL_stir_5 ?_
  refine lv_iload_n hx hb dL_stir_6 rfl (lv_at hl 2 rfl) ?_
  refine lv_iconst (v := 3) hx hb dL_stir_7 (by decide) ?_
  obtain ⟨g1, h⟩ := zck_ex h
  refine lv_idiv hx hb dL_stir_8 (znzI_of g1) ?_
  refine lv_iadd hx hb dL_stir_9 ?_
  obtain ⟨q2, eq2, h⟩ := Option.bind_eq_some_iff.mp h
  refine z_callS (As := [.ref G.2.2.2.2.2.2.1, .int ((v1 + 1) + (v2 / 3))]) (rest := [.int 69069]) (rv := (some (.int q2))) (M1 := M) S hw (c_L_cell l hG L xs ((v1 + 1) + (v2 / 3)) k0 M q2 eq2) mv_L_cell lk_L_15 rfl rfl (Nat.le_of_ble_eq_true rfl) ⟨Nat.le_of_ble_eq_true rfl, Nat.le_of_ble_eq_true rfl⟩ hl.1 dL_stir_10 (fun H locs hw => ?_)
  refine lv_bipush (v := 31) hx hb dL_stir_13 (by decide) ?_
  refine lv_aload_n hx hb dL_stir_15 rfl (lv_at hl 0 rfl) ?_
  refine lv_iload_n hx hb dL_stir_16 rfl (lv_at hl 1 rfl) ?_
  refine lv_iconst (v := 2) hx hb dL_stir_17 (by decide) ?_
  refine lv_iadd hx hb dL_stir_18 ?_
  refine lv_iload_n hx hb dL_stir_19 rfl (lv_at hl 2 rfl) ?_
  refine lv_iconst (v := 3) hx hb dL_stir_20 (by decide) ?_
  obtain ⟨g3, h⟩ := zck_ex h
  refine lv_irem hx hb dL_stir_21 (znzI_of g3) ?_
  refine lv_iadd hx hb dL_stir_22 ?_
  obtain ⟨q4, eq4, h⟩ := Option.bind_eq_some_iff.mp h
  refine z_callS (As := [.ref G.2.2.2.2.2.2.1, .int ((v1 + 2) + (v2 - v2 / 3 * 3))]) (rest := [.int 31, .int q2, .int 69069]) (rv := (some (.int q4))) (M1 := M) S hw (c_L_cell l hG L xs ((v1 + 2) + (v2 - v2 / 3 * 3)) k0 M q4 eq4) mv_L_cell lk_L_15 rfl rfl (Nat.le_of_ble_eq_true rfl) ⟨Nat.le_of_ble_eq_true rfl, Nat.le_of_ble_eq_true rfl⟩ hl.1 dL_stir_23 (fun H locs hw => ?_)
  refine lv_imul hx hb dL_stir_26 ?_
  refine lv_iadd hx hb dL_stir_27 ?_
  refine lv_sipush (v := 1009) hx hb dL_stir_28 (by decide) ?_
  refine lv_iload_n hx hb dL_stir_31 rfl (lv_at hl 2 rfl) ?_
  refine lv_imul hx hb dL_stir_32 ?_
  refine lv_iadd hx hb dL_stir_33 ?_
  refine lv_imul hx hb dL_stir_34 ?_
  refine lv_sipush (v := 12345) hx hb dL_stir_35 (by decide) ?_
  refine lv_iadd hx hb dL_stir_38 ?_
  obtain ⟨x5, ex5, h⟩ := zlet_ex h
  refine lv_topiE ex5 ?_
  refine lv_istore_n (lv' := [(3, .int x5), (0, .ref G.2.2.2.2.2.2.1), (1, .int v1), (2, .int v2)]) hx hb dL_stir_39 rfl hl (by decide) rfl (fun ls hl => ?_)
  refine lv_iload_n hx hb dL_stir_40 rfl (lv_at hl 0 rfl) ?_
  refine lv_iload_n hx hb dL_stir_41 rfl (lv_at hl 0 rfl) ?_
  refine lv_bipush (v := 13) hx hb dL_stir_42 (by decide) ?_
  refine lv_iushr (v := ((x5).toUInt32 >>> (((13 : Int32)).toUInt32 &&& Int32.toUInt32 31)).toInt32) hx hb dL_stir_44 rfl ?_
  refine lv_ixor hx hb dL_stir_45 ?_
  refine lv_ldc (v := 1103515245) hx hb hown (hts _ kc_L_8) dL_stir_46 ?_
  refine lv_imul hx hb dL_stir_48 ?_
  obtain ⟨x6, ex6, h⟩ := zlet_ex h
  refine lv_topiE ex6 ?_
  refine lv_istore_n (lv' := [(3, .int x6), (0, .ref G.2.2.2.2.2.2.1), (1, .int v1), (2, .int v2)]) hx hb dL_stir_49 rfl hl (by decide) rfl (fun ls hl => ?_)
  refine lv_iload_n hx hb dL_stir_50 rfl (lv_at hl 0 rfl) ?_
  refine lv_bipush (v := 16) hx hb dL_stir_51 (by decide) ?_
  refine lv_iushr (v := ((x6).toUInt32 >>> (((16 : Int32)).toUInt32 &&& Int32.toUInt32 31)).toInt32) hx hb dL_stir_53 rfl ?_
  refine lv_bipush (v := 63) hx hb dL_stir_54 (by decide) ?_
  refine lv_iand hx hb dL_stir_56 ?_
  have h := Option.some.inj h
  subst h
  exact z_ret_i S hr hlk hw dL_stir_57
def f_L_sentence_31 (t0 : Nat) (t1 : Nat) (L : Nat) (xs : Nat → Int32) (v3 : Int32) (v4 : Int32) (K : Int32 → ZM → Option (Int32 × ZM)) : Nat → Int32 → Int32 → Int32 → ZM → Option (Int32 × ZM)
  | 0, _, _, _, _ => none
  | n + 1, v5, v6, v7, M =>
    zlet (fun (v5 : Int32) (v6 : Int32) (v10 : Int32) (s0 : Int32) (M : ZM) =>
      zck (zin v5 (zn t1)) <|
      zlet (zi M t1 v5.toNatClampNeg v10) fun (M5 : ZM) =>
      zlet (v5 + 1) fun (x6 : Int32) =>
      f_L_sentence_31 t0 t1 L xs v3 v4 K n x6 v6 s0 M5) fun J282 =>
    zlet (fun (v5 : Int32) (v6 : Int32) (v10 : Int32) (M : ZM) =>
      J282 v5 v6 v10 0 M) fun J281 =>
    zlet (fun (v5 : Int32) (v6 : Int32) (v10 : Int32) (M : ZM) =>
      J282 v5 v6 v10 1 M) fun J277 =>
    zlet (fun (v5 : Int32) (v10 : Int32) (s0 : Int32) (s1 : Int32) (M : ZM) =>
      zlet (s0 + s1) fun (x7 : Int32) =>
      if v10 = 41 then (
        J277 v5 x7 v10 M) else (
        if v10 < 97 then (
          J281 v5 x7 v10 M) else (
          if 101 < v10 then (
            J281 v5 x7 v10 M) else (
            J277 v5 x7 v10 M)))) fun J253 =>
    zlet (fun (v5 : Int32) (v6 : Int32) (v10 : Int32) (M : ZM) =>
      if v10 = 40 then (
        J253 v5 v10 v6 1 M) else (
        if v10 = 41 then (
          J253 v5 v10 v6 (-1) M) else (
          J253 v5 v10 v6 0 M))) fun J228 =>
    zlet (fun (v5 : Int32) (v6 : Int32) (s0 : Int32) (M : ZM) =>
      J228 v5 v6 s0 M) fun J226 =>
    zlet (fun (v5 : Int32) (v6 : Int32) (v8 : Int32) (M : ZM) =>
      zck (znzI (5 : Int32)) <|
      J226 v5 v6 (97 + (((v8 >>> ((2 : Int32) &&& 31)) &&& 7) - ((v8 >>> ((2 : Int32) &&& 31)) &&& 7) / 5 * 5)) M) fun J186 =>
    zlet (fun (v5 : Int32) (v6 : Int32) (v9 : Int32) (s0 : Int32) (M : ZM) =>
      if v9 = 0 then (
        J228 v5 v6 s0 M) else (
        if v6 = 0 then (
          K v5 M) else (
          J228 v5 v6 s0 M))) fun J158 =>
    zlet (fun (v5 : Int32) (v6 : Int32) (v8 : Int32) (v9 : Int32) (M : ZM) =>
      if ((v8 >>> ((2 : Int32) &&& 31)) &&& 3) = 0 then (
        J158 v5 v6 v9 38 M) else (
        if ((v8 >>> ((2 : Int32) &&& 31)) &&& 3) = 1 then (
          J158 v5 v6 v9 124 M) else (
          if ((v8 >>> ((2 : Int32) &&& 31)) &&& 3) = 2 then (
            J158 v5 v6 v9 62 M) else (
            J158 v5 v6 v9 45 M)))) fun J112 =>
    zlet (fun (v5 : Int32) (v6 : Int32) (v9 : Int32) (M : ZM) =>
      J158 v5 v6 v9 41 M) fun J107 =>
    zlet (fun (v5 : Int32) (v6 : Int32) (v7 : Int32) (v8 : Int32) (s0 : Int32) (M : ZM) =>
      if v7 = 0 then (
        if s0 = 0 then (
          if (v8 &&& 3) ≤ 1 then (
            if (v8 &&& 3) = 0 then (
              J226 v5 v6 33 M) else (
              if 2 ≤ v6 then (
                J226 v5 v6 99 M) else (
                J226 v5 v6 40 M))) else (
            J186 v5 v6 v8 M)) else (
          J186 v5 v6 v8 M)) else (
        if v6 ≤ 0 then (
          J112 v5 v6 v8 s0 M) else (
          if s0 = 0 then (
            if (v8 &&& 3) = 0 then (
              J107 v5 v6 s0 M) else (
              J112 v5 v6 v8 s0 M)) else (
            J107 v5 v6 s0 M)))) fun J83 =>
    zlet (fun (v5 : Int32) (v6 : Int32) (v7 : Int32) (v8 : Int32) (s0 : Int32) (s1 : Int32) (M : ZM) =>
      if (s0 + s1) < v4 then (
        J83 v5 v6 v7 v8 0 M) else (
        J83 v5 v6 v7 v8 1 M)) fun J72 =>
    zlet (fun (v5 : Int32) (v6 : Int32) (v7 : Int32) (M : ZM) =>
      (f_L_stir L xs v3 v5 M).bind fun (q28 : Int32) =>
      if v7 = 0 then (
        J72 v5 v6 v7 q28 (v5 + v6) 1 M) else (
        J72 v5 v6 v7 q28 (v5 + v6) 0 M)) fun J48 =>
    if v7 = 0 then (
      J48 v5 v6 v7 M) else (
      if 0 < v6 then (
        J48 v5 v6 v7 M) else (
        if v4 ≤ v5 then (
          K v5 M) else (
          J48 v5 v6 v7 M)))

def f_L_sentence_299 (t0 : Nat) (t1 : Nat) (v5 : Int32) (K : ZM → Option (Int32 × ZM)) : Nat → Int32 → ZM → Option (Int32 × ZM)
  | 0, _, _ => none
  | n + 1, v8, M =>
    if v5 ≤ v8 then (
      K M) else (
      zck (zin v8 (zn t1)) <|
      (f_L_say t0 (M.1 t1 v8.toNatClampNeg) M).bind fun (q35 : (Int32 × ZM)) =>
      zlet (v8 + 1) fun (x36 : Int32) =>
      f_L_sentence_299 t0 t1 v5 K n x36 q35.2)

def f_L_sentence (t0 : Nat) (t1 : Nat) (L : Nat) (xs : Nat → Int32) (v3 : Int32) (M : ZM) : Option (Int32 × ZM) :=
  (f_L_cell L xs v3 M).bind fun (q1 : Int32) =>
  (f_L_cell L xs v3 M).bind fun (q2 : Int32) =>
  zlet ((1 + (q1 &&& 7)) + ((q2 >>> ((3 : Int32) &&& 31)) &&& 3)) fun (x3 : Int32) =>
  f_L_sentence_31 t0 t1 L xs v3 x3 (fun (v5 : Int32) (M : ZM) =>
    f_L_sentence_299 t0 t1 v5 (fun (M : ZM) =>
      (f_X11_read t0 M).bind fun (q37 : (Int32 × ZM)) =>
      if q37.1 = v5 then (
        some (v5, q37.2)) else (
        some (((-1) : Int32), q37.2))) zN 0 M) zN 0 0 0 M
set_option maxHeartbeats 4000000 in
set_option maxRecDepth 100000 in
theorem w_L_sentence_31 {G : ZG} (hG : zOk G) (S : zX p (zR 6) s m args c 0 0 cL_sentence 11 RL) (hr : meth.sig.returnType = (Option.some FieldType.int)) (hlk : meth.locks = false) (t0 : Nat) (t1 : Nat) (L : Nat) (xs : Nat → Int32) (v3 : Int32) (v4 : Int32) (k0 : zk G t0 = 21) (k1 : zk G t1 = 0) (k2 : zSc G L xs)  {K : Int32 → ZM → Option (Int32 × ZM)} {res : (Int32 × ZM)} (hK : ∀ (v5 : Int32) (M : ZM), K v5 M = some res → ∀ (H : Heap) (locs : List Loc) (ls : Array Slot), zWd G A s H locs M → lv_has ls 11 [(0, .ref (za G t0)), (1, .ref (za G t1)), (5, .int v5)] → W p l e (zR 6) s m args below meth c H locs 0 0 (zQ below G A (some (.int res.1)) res.2 args s) (F0 m 296 ls [])) : ∀ (n : Nat) (v5 : Int32) (v6 : Int32) (v7 : Int32) (M : ZM), f_L_sentence_31 t0 t1 L xs v3 v4 K n v5 v6 v7 M = some res → ∀ (H : Heap) (locs : List Loc) (ls : Array Slot), zWd G A s H locs M → lv_has ls 11 [(0, .ref (za G t0)), (1, .ref (za G t1)), (2, .ref G.2.2.2.2.2.2.1), (3, .int v3), (4, .int v4), (5, .int v5), (6, .int v6), (7, .int v7)] → W p l e (zR 6) s m args below meth c H locs 0 0 (zQ below G A (some (.int res.1)) res.2 args s) (F0 m 31 ls []) := by
  have hx := S.1.1
  have hb := S.1.2.1
  have hown := S.1.2.2.2.1
  have hts := S.1.2.2.2.2
  intro n
  induction n with
  | zero =>
    intro v5 v6 v7 M h
    rw [f_L_sentence_31] at h
    cases h
  | succ n ih =>
    intro v5 v6 v7 M h H locs ls hw hl
    rw [f_L_sentence_31] at h
    obtain ⟨J282, hJ282, h⟩ := zlet_ex h
    have wJ282 : ∀ (v5 : Int32) (v6 : Int32) (v10 : Int32) (s0 : Int32) (M : ZM), J282 v5 v6 v10 s0 M = some res → ∀ (H : Heap) (locs : List Loc) (ls : Array Slot), zWd G A s H locs M → lv_has ls 11 [(0, .ref (za G t0)), (1, .ref (za G t1)), (2, .ref G.2.2.2.2.2.2.1), (3, .int v3), (4, .int v4), (5, .int v5), (6, .int v6), (10, .int v10)] → W p l e (zR 6) s m args below meth c H locs 0 0 (zQ below G A (some (.int res.1)) res.2 args s) (F0 m 282 ls [.int s0]) := by
      intro v5 v6 v10 s0 M h H locs ls hw hl
      subst hJ282
      refine lv_istore (lv' := [(7, .int s0), (0, .ref (za G t0)), (1, .ref (za G t1)), (2, .ref G.2.2.2.2.2.2.1), (3, .int v3), (4, .int v4), (5, .int v5), (6, .int v6), (10, .int v10)]) hx hb dL_sentence_282 hl (by decide) rfl (fun ls hl => ?_)
      refine lv_aload_n hx hb dL_sentence_284 rfl (lv_at hl 2 rfl) ?_
      refine lv_iload hx hb dL_sentence_285 (lv_at hl 6 rfl) ?_
      refine lv_iload hx hb dL_sentence_287 (lv_at hl 8 rfl) ?_
      obtain ⟨g4, h⟩ := zck_ex h
      obtain ⟨M5, eM5, h⟩ := zlet_ex h
      refine z_iast S hw eM5 k1 g4 dL_sentence_289 (fun H locs hw => ?_)
      obtain ⟨x6, ex6, h⟩ := zlet_ex h
      refine lv_iinc (v := x6) (lv' := [(5, .int x6), (7, .int s0), (0, .ref (za G t0)), (1, .ref (za G t1)), (2, .ref G.2.2.2.2.2.2.1), (3, .int v3), (4, .int v4), (6, .int v6), (10, .int v10)]) hx hb dL_sentence_290 hl (k := 6) rfl (by rw [ex6]; rfl) (by decide) rfl (fun ls hl => ?_)
      refine lv_goto (tgt := 31) hx hb dL_sentence_293 (by decide) ?_
      exact ih x6 v6 s0 M5 h H locs ls hw (lv_sub hl [2, 3, 4, 5, 6, 0, 7, 1] rfl)
    obtain ⟨J281, hJ281, h⟩ := zlet_ex h
    have wJ281 : ∀ (v5 : Int32) (v6 : Int32) (v10 : Int32) (M : ZM), J281 v5 v6 v10 M = some res → ∀ (H : Heap) (locs : List Loc) (ls : Array Slot), zWd G A s H locs M → lv_has ls 11 [(0, .ref (za G t0)), (1, .ref (za G t1)), (2, .ref G.2.2.2.2.2.2.1), (3, .int v3), (4, .int v4), (5, .int v5), (6, .int v6), (10, .int v10)] → W p l e (zR 6) s m args below meth c H locs 0 0 (zQ below G A (some (.int res.1)) res.2 args s) (F0 m 281 ls []) := by
      intro v5 v6 v10 M h H locs ls hw hl
      subst hJ281
      refine lv_iconst (v := 0) hx hb dL_sentence_281 (by decide) ?_
      exact wJ282 v5 v6 v10 0 M h H locs ls hw (lv_sub hl [0, 1, 2, 3, 4, 5, 6, 7] rfl)
    obtain ⟨J277, hJ277, h⟩ := zlet_ex h
    have wJ277 : ∀ (v5 : Int32) (v6 : Int32) (v10 : Int32) (M : ZM), J277 v5 v6 v10 M = some res → ∀ (H : Heap) (locs : List Loc) (ls : Array Slot), zWd G A s H locs M → lv_has ls 11 [(0, .ref (za G t0)), (1, .ref (za G t1)), (2, .ref G.2.2.2.2.2.2.1), (3, .int v3), (4, .int v4), (5, .int v5), (6, .int v6), (10, .int v10)] → W p l e (zR 6) s m args below meth c H locs 0 0 (zQ below G A (some (.int res.1)) res.2 args s) (F0 m 277 ls []) := by
      intro v5 v6 v10 M h H locs ls hw hl
      subst hJ277
      refine lv_iconst (v := 1) hx hb dL_sentence_277 (by decide) ?_
      refine lv_goto (tgt := 282) hx hb dL_sentence_278 (by decide) ?_
      exact wJ282 v5 v6 v10 1 M h H locs ls hw (lv_sub hl [0, 1, 2, 3, 4, 5, 6, 7] rfl)
    obtain ⟨J253, hJ253, h⟩ := zlet_ex h
    have wJ253 : ∀ (v5 : Int32) (v10 : Int32) (s0 : Int32) (s1 : Int32) (M : ZM), J253 v5 v10 s0 s1 M = some res → ∀ (H : Heap) (locs : List Loc) (ls : Array Slot), zWd G A s H locs M → lv_has ls 11 [(0, .ref (za G t0)), (1, .ref (za G t1)), (2, .ref G.2.2.2.2.2.2.1), (3, .int v3), (4, .int v4), (5, .int v5), (10, .int v10)] → W p l e (zR 6) s m args below meth c H locs 0 0 (zQ below G A (some (.int res.1)) res.2 args s) (F0 m 253 ls [.int s1, .int s0]) := by
      intro v5 v10 s0 s1 M h H locs ls hw hl
      subst hJ253
      refine lv_iadd hx hb dL_sentence_253 ?_
      obtain ⟨x7, ex7, h⟩ := zlet_ex h
      refine lv_topiE ex7 ?_
      refine lv_istore (lv' := [(6, .int x7), (0, .ref (za G t0)), (1, .ref (za G t1)), (2, .ref G.2.2.2.2.2.2.1), (3, .int v3), (4, .int v4), (5, .int v5), (10, .int v10)]) hx hb dL_sentence_254 hl (by decide) rfl (fun ls hl => ?_)
      refine lv_iload hx hb dL_sentence_256 (lv_at hl 7 rfl) ?_
      refine lv_bipush (v := 41) hx hb dL_sentence_258 (by decide) ?_
      refine lv_icmp_eq (tgt := 277) hx hb dL_sentence_260 (by decide) (fun c8 => ?_) (fun c8 => ?_)
      · have h := zif_t h c8
        exact wJ277 v5 x7 v10 M h H locs ls hw (lv_sub hl [1, 2, 3, 4, 5, 6, 0, 7] rfl)
      · have h := zif_f h c8
        refine lv_iload hx hb dL_sentence_263 (lv_at hl 7 rfl) ?_
        refine lv_bipush (v := 97) hx hb dL_sentence_265 (by decide) ?_
        refine lv_icmp_lt (tgt := 281) hx hb dL_sentence_267 (by decide) (fun c9 => ?_) (fun c9 => ?_)
        · have h := zif_t h c9
          exact wJ281 v5 x7 v10 M h H locs ls hw (lv_sub hl [1, 2, 3, 4, 5, 6, 0, 7] rfl)
        · have h := zif_f h c9
          refine lv_iload hx hb dL_sentence_270 (lv_at hl 7 rfl) ?_
          refine lv_bipush (v := 101) hx hb dL_sentence_272 (by decide) ?_
          refine lv_icmp_gt (tgt := 281) hx hb dL_sentence_274 (by decide) (fun c10 => ?_) (fun c10 => ?_)
          · have h := zif_t h c10
            exact wJ281 v5 x7 v10 M h H locs ls hw (lv_sub hl [1, 2, 3, 4, 5, 6, 0, 7] rfl)
          · have h := zif_f h c10
            exact wJ277 v5 x7 v10 M h H locs ls hw (lv_sub hl [1, 2, 3, 4, 5, 6, 0, 7] rfl)
    obtain ⟨J228, hJ228, h⟩ := zlet_ex h
    have wJ228 : ∀ (v5 : Int32) (v6 : Int32) (v10 : Int32) (M : ZM), J228 v5 v6 v10 M = some res → ∀ (H : Heap) (locs : List Loc) (ls : Array Slot), zWd G A s H locs M → lv_has ls 11 [(0, .ref (za G t0)), (1, .ref (za G t1)), (2, .ref G.2.2.2.2.2.2.1), (3, .int v3), (4, .int v4), (5, .int v5), (6, .int v6), (10, .int v10)] → W p l e (zR 6) s m args below meth c H locs 0 0 (zQ below G A (some (.int res.1)) res.2 args s) (F0 m 228 ls []) := by
      intro v5 v6 v10 M h H locs ls hw hl
      subst hJ228
      refine lv_iload hx hb dL_sentence_228 (lv_at hl 6 rfl) ?_
      refine lv_iload hx hb dL_sentence_230 (lv_at hl 7 rfl) ?_
      refine lv_bipush (v := 40) hx hb dL_sentence_232 (by decide) ?_
      refine lv_icmp_ne (tgt := 241) hx hb dL_sentence_234 (by decide) (fun c11 => ?_) (fun c11 => ?_)
      · have h := zif_f h c11
        refine lv_iload hx hb dL_sentence_241 (lv_at hl 7 rfl) ?_
        refine lv_bipush (v := 41) hx hb dL_sentence_243 (by decide) ?_
        refine lv_icmp_ne (tgt := 252) hx hb dL_sentence_245 (by decide) (fun c12 => ?_) (fun c12 => ?_)
        · have h := zif_f h c12
          refine lv_iconst (v := 0) hx hb dL_sentence_252 (by decide) ?_
          exact wJ253 v5 v10 v6 0 M h H locs ls hw (lv_sub hl [0, 1, 2, 3, 4, 5, 7] rfl)
        · have h := zif_t h c12
          refine lv_iconst (v := (-1)) hx hb dL_sentence_248 (by decide) ?_
          refine lv_goto (tgt := 253) hx hb dL_sentence_249 (by decide) ?_
          exact wJ253 v5 v10 v6 (-1) M h H locs ls hw (lv_sub hl [0, 1, 2, 3, 4, 5, 7] rfl)
      · have h := zif_t h c11
        refine lv_iconst (v := 1) hx hb dL_sentence_237 (by decide) ?_
        refine lv_goto (tgt := 253) hx hb dL_sentence_238 (by decide) ?_
        exact wJ253 v5 v10 v6 1 M h H locs ls hw (lv_sub hl [0, 1, 2, 3, 4, 5, 7] rfl)
    obtain ⟨J226, hJ226, h⟩ := zlet_ex h
    have wJ226 : ∀ (v5 : Int32) (v6 : Int32) (s0 : Int32) (M : ZM), J226 v5 v6 s0 M = some res → ∀ (H : Heap) (locs : List Loc) (ls : Array Slot), zWd G A s H locs M → lv_has ls 11 [(0, .ref (za G t0)), (1, .ref (za G t1)), (2, .ref G.2.2.2.2.2.2.1), (3, .int v3), (4, .int v4), (5, .int v5), (6, .int v6)] → W p l e (zR 6) s m args below meth c H locs 0 0 (zQ below G A (some (.int res.1)) res.2 args s) (F0 m 226 ls [.int s0]) := by
      intro v5 v6 s0 M h H locs ls hw hl
      subst hJ226
      refine lv_istore (lv' := [(10, .int s0), (0, .ref (za G t0)), (1, .ref (za G t1)), (2, .ref G.2.2.2.2.2.2.1), (3, .int v3), (4, .int v4), (5, .int v5), (6, .int v6)]) hx hb dL_sentence_226 hl (by decide) rfl (fun ls hl => ?_)
      exact wJ228 v5 v6 s0 M h H locs ls hw (lv_sub hl [1, 2, 3, 4, 5, 6, 7, 0] rfl)
    obtain ⟨J186, hJ186, h⟩ := zlet_ex h
    have wJ186 : ∀ (v5 : Int32) (v6 : Int32) (v8 : Int32) (M : ZM), J186 v5 v6 v8 M = some res → ∀ (H : Heap) (locs : List Loc) (ls : Array Slot), zWd G A s H locs M → lv_has ls 11 [(0, .ref (za G t0)), (1, .ref (za G t1)), (2, .ref G.2.2.2.2.2.2.1), (3, .int v3), (4, .int v4), (5, .int v5), (6, .int v6), (8, .int v8)] → W p l e (zR 6) s m args below meth c H locs 0 0 (zQ below G A (some (.int res.1)) res.2 args s) (F0 m 186 ls []) := by
      intro v5 v6 v8 M h H locs ls hw hl
      subst hJ186
      refine lv_bipush (v := 97) hx hb dL_sentence_186 (by decide) ?_
      refine lv_iload hx hb dL_sentence_188 (lv_at hl 7 rfl) ?_
      refine lv_iconst (v := 2) hx hb dL_sentence_190 (by decide) ?_
      refine lv_ishr hx hb dL_sentence_191 ?_
      refine lv_bipush (v := 7) hx hb dL_sentence_192 (by decide) ?_
      refine lv_iand hx hb dL_sentence_194 ?_
      refine lv_iconst (v := 5) hx hb dL_sentence_195 (by decide) ?_
      obtain ⟨g13, h⟩ := zck_ex h
      refine lv_irem hx hb dL_sentence_196 (znzI_of g13) ?_
      refine lv_iadd hx hb dL_sentence_197 ?_
      refine lv_goto (tgt := 226) hx hb dL_sentence_198 (by decide) ?_
      exact wJ226 v5 v6 (97 + (((v8 >>> ((2 : Int32) &&& 31)) &&& 7) - ((v8 >>> ((2 : Int32) &&& 31)) &&& 7) / 5 * 5)) M h H locs ls hw (lv_sub hl [0, 1, 2, 3, 4, 5, 6] rfl)
    obtain ⟨J158, hJ158, h⟩ := zlet_ex h
    have wJ158 : ∀ (v5 : Int32) (v6 : Int32) (v9 : Int32) (s0 : Int32) (M : ZM), J158 v5 v6 v9 s0 M = some res → ∀ (H : Heap) (locs : List Loc) (ls : Array Slot), zWd G A s H locs M → lv_has ls 11 [(0, .ref (za G t0)), (1, .ref (za G t1)), (2, .ref G.2.2.2.2.2.2.1), (3, .int v3), (4, .int v4), (5, .int v5), (6, .int v6), (9, .int v9)] → W p l e (zR 6) s m args below meth c H locs 0 0 (zQ below G A (some (.int res.1)) res.2 args s) (F0 m 158 ls [.int s0]) := by
      intro v5 v6 v9 s0 M h H locs ls hw hl
      subst hJ158
      refine lv_istore (lv' := [(10, .int s0), (0, .ref (za G t0)), (1, .ref (za G t1)), (2, .ref G.2.2.2.2.2.2.1), (3, .int v3), (4, .int v4), (5, .int v5), (6, .int v6), (9, .int v9)]) hx hb dL_sentence_158 hl (by decide) rfl (fun ls hl => ?_)
      refine lv_iload hx hb dL_sentence_160 (lv_at hl 8 rfl) ?_
      refine lv_if_eq (tgt := 228) hx hb dL_sentence_162 (by decide) (fun c14 => ?_) (fun c14 => ?_)
      · have h := zif_t h c14
        exact wJ228 v5 v6 s0 M h H locs ls hw (lv_sub hl [1, 2, 3, 4, 5, 6, 7, 0] rfl)
      · have h := zif_f h c14
        refine lv_iload hx hb dL_sentence_165 (lv_at hl 7 rfl) ?_
        refine lv_if_ne (tgt := 228) hx hb dL_sentence_167 (by decide) (fun c15 => ?_) (fun c15 => ?_)
        · have h := zif_f h c15
          exact wJ228 v5 v6 s0 M h H locs ls hw (lv_sub hl [1, 2, 3, 4, 5, 6, 7, 0] rfl)
        · have h := zif_t h c15
          refine lv_goto (tgt := 296) hx hb dL_sentence_170 (by decide) ?_
          exact hK v5 M h H locs ls hw (lv_sub hl [1, 2, 6] rfl)
    obtain ⟨J112, hJ112, h⟩ := zlet_ex h
    have wJ112 : ∀ (v5 : Int32) (v6 : Int32) (v8 : Int32) (v9 : Int32) (M : ZM), J112 v5 v6 v8 v9 M = some res → ∀ (H : Heap) (locs : List Loc) (ls : Array Slot), zWd G A s H locs M → lv_has ls 11 [(0, .ref (za G t0)), (1, .ref (za G t1)), (2, .ref G.2.2.2.2.2.2.1), (3, .int v3), (4, .int v4), (5, .int v5), (6, .int v6), (8, .int v8), (9, .int v9)] → W p l e (zR 6) s m args below meth c H locs 0 0 (zQ below G A (some (.int res.1)) res.2 args s) (F0 m 112 ls []) := by
      intro v5 v6 v8 v9 M h H locs ls hw hl
      subst hJ112
      refine lv_iload hx hb dL_sentence_112 (lv_at hl 7 rfl) ?_
      refine lv_iconst (v := 2) hx hb dL_sentence_114 (by decide) ?_
      refine lv_ishr hx hb dL_sentence_115 ?_
      refine lv_iconst (v := 3) hx hb dL_sentence_116 (by decide) ?_
      refine lv_iand hx hb dL_sentence_117 ?_
      refine lv_if_ne (tgt := 126) hx hb dL_sentence_118 (by decide) (fun c16 => ?_) (fun c16 => ?_)
      · have h := zif_f h c16
        refine lv_iload hx hb dL_sentence_126 (lv_at hl 7 rfl) ?_
        refine lv_iconst (v := 2) hx hb dL_sentence_128 (by decide) ?_
        refine lv_ishr hx hb dL_sentence_129 ?_
        refine lv_iconst (v := 3) hx hb dL_sentence_130 (by decide) ?_
        refine lv_iand hx hb dL_sentence_131 ?_
        refine lv_iconst (v := 1) hx hb dL_sentence_132 (by decide) ?_
        refine lv_icmp_ne (tgt := 141) hx hb dL_sentence_133 (by decide) (fun c17 => ?_) (fun c17 => ?_)
        · have h := zif_f h c17
          refine lv_iload hx hb dL_sentence_141 (lv_at hl 7 rfl) ?_
          refine lv_iconst (v := 2) hx hb dL_sentence_143 (by decide) ?_
          refine lv_ishr hx hb dL_sentence_144 ?_
          refine lv_iconst (v := 3) hx hb dL_sentence_145 (by decide) ?_
          refine lv_iand hx hb dL_sentence_146 ?_
          refine lv_iconst (v := 2) hx hb dL_sentence_147 (by decide) ?_
          refine lv_icmp_ne (tgt := 156) hx hb dL_sentence_148 (by decide) (fun c18 => ?_) (fun c18 => ?_)
          · have h := zif_f h c18
            refine lv_bipush (v := 45) hx hb dL_sentence_156 (by decide) ?_
            exact wJ158 v5 v6 v9 45 M h H locs ls hw (lv_sub hl [0, 1, 2, 3, 4, 5, 6, 8] rfl)
          · have h := zif_t h c18
            refine lv_bipush (v := 62) hx hb dL_sentence_151 (by decide) ?_
            refine lv_goto (tgt := 158) hx hb dL_sentence_153 (by decide) ?_
            exact wJ158 v5 v6 v9 62 M h H locs ls hw (lv_sub hl [0, 1, 2, 3, 4, 5, 6, 8] rfl)
        · have h := zif_t h c17
          refine lv_bipush (v := 124) hx hb dL_sentence_136 (by decide) ?_
          refine lv_goto (tgt := 158) hx hb dL_sentence_138 (by decide) ?_
          exact wJ158 v5 v6 v9 124 M h H locs ls hw (lv_sub hl [0, 1, 2, 3, 4, 5, 6, 8] rfl)
      · have h := zif_t h c16
        refine lv_bipush (v := 38) hx hb dL_sentence_121 (by decide) ?_
        refine lv_goto (tgt := 158) hx hb dL_sentence_123 (by decide) ?_
        exact wJ158 v5 v6 v9 38 M h H locs ls hw (lv_sub hl [0, 1, 2, 3, 4, 5, 6, 8] rfl)
    obtain ⟨J107, hJ107, h⟩ := zlet_ex h
    have wJ107 : ∀ (v5 : Int32) (v6 : Int32) (v9 : Int32) (M : ZM), J107 v5 v6 v9 M = some res → ∀ (H : Heap) (locs : List Loc) (ls : Array Slot), zWd G A s H locs M → lv_has ls 11 [(0, .ref (za G t0)), (1, .ref (za G t1)), (2, .ref G.2.2.2.2.2.2.1), (3, .int v3), (4, .int v4), (5, .int v5), (6, .int v6), (9, .int v9)] → W p l e (zR 6) s m args below meth c H locs 0 0 (zQ below G A (some (.int res.1)) res.2 args s) (F0 m 107 ls []) := by
      intro v5 v6 v9 M h H locs ls hw hl
      subst hJ107
      refine lv_bipush (v := 41) hx hb dL_sentence_107 (by decide) ?_
      refine lv_goto (tgt := 158) hx hb dL_sentence_109 (by decide) ?_
      exact wJ158 v5 v6 v9 41 M h H locs ls hw (lv_sub hl [0, 1, 2, 3, 4, 5, 6, 7] rfl)
    obtain ⟨J83, hJ83, h⟩ := zlet_ex h
    have wJ83 : ∀ (v5 : Int32) (v6 : Int32) (v7 : Int32) (v8 : Int32) (s0 : Int32) (M : ZM), J83 v5 v6 v7 v8 s0 M = some res → ∀ (H : Heap) (locs : List Loc) (ls : Array Slot), zWd G A s H locs M → lv_has ls 11 [(0, .ref (za G t0)), (1, .ref (za G t1)), (2, .ref G.2.2.2.2.2.2.1), (3, .int v3), (4, .int v4), (5, .int v5), (6, .int v6), (7, .int v7), (8, .int v8)] → W p l e (zR 6) s m args below meth c H locs 0 0 (zQ below G A (some (.int res.1)) res.2 args s) (F0 m 83 ls [.int s0]) := by
      intro v5 v6 v7 v8 s0 M h H locs ls hw hl
      subst hJ83
      refine lv_istore (lv' := [(9, .int s0), (0, .ref (za G t0)), (1, .ref (za G t1)), (2, .ref G.2.2.2.2.2.2.1), (3, .int v3), (4, .int v4), (5, .int v5), (6, .int v6), (7, .int v7), (8, .int v8)]) hx hb dL_sentence_83 hl (by decide) rfl (fun ls hl => ?_)
      refine lv_iload hx hb dL_sentence_85 (lv_at hl 8 rfl) ?_
      refine lv_if_eq (tgt := 173) hx hb dL_sentence_87 (by decide) (fun c19 => ?_) (fun c19 => ?_)
      · have h := zif_t h c19
        refine lv_iload hx hb dL_sentence_173 (lv_at hl 0 rfl) ?_
        refine lv_if_ne (tgt := 186) hx hb dL_sentence_175 (by decide) (fun c20 => ?_) (fun c20 => ?_)
        · have h := zif_f h c20
          exact wJ186 v5 v6 v8 M h H locs ls hw (lv_sub hl [1, 2, 3, 4, 5, 6, 7, 9] rfl)
        · have h := zif_t h c20
          refine lv_iload hx hb dL_sentence_178 (lv_at hl 9 rfl) ?_
          refine lv_iconst (v := 3) hx hb dL_sentence_180 (by decide) ?_
          refine lv_iand hx hb dL_sentence_181 ?_
          refine lv_iconst (v := 1) hx hb dL_sentence_182 (by decide) ?_
          refine lv_icmp_le (tgt := 201) hx hb dL_sentence_183 (by decide) (fun c21 => ?_) (fun c21 => ?_)
          · have h := zif_t h c21
            refine lv_iload hx hb dL_sentence_201 (lv_at hl 9 rfl) ?_
            refine lv_iconst (v := 3) hx hb dL_sentence_203 (by decide) ?_
            refine lv_iand hx hb dL_sentence_204 ?_
            refine lv_if_ne (tgt := 213) hx hb dL_sentence_205 (by decide) (fun c22 => ?_) (fun c22 => ?_)
            · have h := zif_f h c22
              refine lv_iload hx hb dL_sentence_213 (lv_at hl 7 rfl) ?_
              refine lv_iconst (v := 2) hx hb dL_sentence_215 (by decide) ?_
              refine lv_icmp_ge (tgt := 224) hx hb dL_sentence_216 (by decide) (fun c23 => ?_) (fun c23 => ?_)
              · have h := zif_t h c23
                refine lv_bipush (v := 99) hx hb dL_sentence_224 (by decide) ?_
                exact wJ226 v5 v6 99 M h H locs ls hw (lv_sub hl [1, 2, 3, 4, 5, 6, 7] rfl)
              · have h := zif_f h c23
                refine lv_bipush (v := 40) hx hb dL_sentence_219 (by decide) ?_
                refine lv_goto (tgt := 226) hx hb dL_sentence_221 (by decide) ?_
                exact wJ226 v5 v6 40 M h H locs ls hw (lv_sub hl [1, 2, 3, 4, 5, 6, 7] rfl)
            · have h := zif_t h c22
              refine lv_bipush (v := 33) hx hb dL_sentence_208 (by decide) ?_
              refine lv_goto (tgt := 226) hx hb dL_sentence_210 (by decide) ?_
              exact wJ226 v5 v6 33 M h H locs ls hw (lv_sub hl [1, 2, 3, 4, 5, 6, 7] rfl)
          · have h := zif_f h c21
            exact wJ186 v5 v6 v8 M h H locs ls hw (lv_sub hl [1, 2, 3, 4, 5, 6, 7, 9] rfl)
      · have h := zif_f h c19
        refine lv_iload hx hb dL_sentence_90 (lv_at hl 7 rfl) ?_
        refine lv_if_le (tgt := 112) hx hb dL_sentence_92 (by decide) (fun c24 => ?_) (fun c24 => ?_)
        · have h := zif_t h c24
          exact wJ112 v5 v6 v8 s0 M h H locs ls hw (lv_sub hl [1, 2, 3, 4, 5, 6, 7, 9, 0] rfl)
        · have h := zif_f h c24
          refine lv_iload hx hb dL_sentence_95 (lv_at hl 0 rfl) ?_
          refine lv_if_ne (tgt := 107) hx hb dL_sentence_97 (by decide) (fun c25 => ?_) (fun c25 => ?_)
          · have h := zif_f h c25
            exact wJ107 v5 v6 s0 M h H locs ls hw (lv_sub hl [1, 2, 3, 4, 5, 6, 7, 0] rfl)
          · have h := zif_t h c25
            refine lv_iload hx hb dL_sentence_100 (lv_at hl 9 rfl) ?_
            refine lv_iconst (v := 3) hx hb dL_sentence_102 (by decide) ?_
            refine lv_iand hx hb dL_sentence_103 ?_
            refine lv_if_ne (tgt := 112) hx hb dL_sentence_104 (by decide) (fun c26 => ?_) (fun c26 => ?_)
            · have h := zif_f h c26
              exact wJ112 v5 v6 v8 s0 M h H locs ls hw (lv_sub hl [1, 2, 3, 4, 5, 6, 7, 9, 0] rfl)
            · have h := zif_t h c26
              exact wJ107 v5 v6 s0 M h H locs ls hw (lv_sub hl [1, 2, 3, 4, 5, 6, 7, 0] rfl)
    obtain ⟨J72, hJ72, h⟩ := zlet_ex h
    have wJ72 : ∀ (v5 : Int32) (v6 : Int32) (v7 : Int32) (v8 : Int32) (s0 : Int32) (s1 : Int32) (M : ZM), J72 v5 v6 v7 v8 s0 s1 M = some res → ∀ (H : Heap) (locs : List Loc) (ls : Array Slot), zWd G A s H locs M → lv_has ls 11 [(0, .ref (za G t0)), (1, .ref (za G t1)), (2, .ref G.2.2.2.2.2.2.1), (3, .int v3), (4, .int v4), (5, .int v5), (6, .int v6), (7, .int v7), (8, .int v8)] → W p l e (zR 6) s m args below meth c H locs 0 0 (zQ below G A (some (.int res.1)) res.2 args s) (F0 m 72 ls [.int s1, .int s0]) := by
      intro v5 v6 v7 v8 s0 s1 M h H locs ls hw hl
      subst hJ72
      refine lv_iadd hx hb dL_sentence_72 ?_
      refine lv_iload hx hb dL_sentence_73 (lv_at hl 4 rfl) ?_
      refine lv_icmp_lt (tgt := 82) hx hb dL_sentence_75 (by decide) (fun c27 => ?_) (fun c27 => ?_)
      · have h := zif_t h c27
        refine lv_iconst (v := 0) hx hb dL_sentence_82 (by decide) ?_
        exact wJ83 v5 v6 v7 v8 0 M h H locs ls hw (lv_sub hl [0, 1, 2, 3, 4, 5, 6, 7, 8] rfl)
      · have h := zif_f h c27
        refine lv_iconst (v := 1) hx hb dL_sentence_78 (by decide) ?_
        refine lv_goto (tgt := 83) hx hb dL_sentence_79 (by decide) ?_
        exact wJ83 v5 v6 v7 v8 1 M h H locs ls hw (lv_sub hl [0, 1, 2, 3, 4, 5, 6, 7, 8] rfl)
    obtain ⟨J48, hJ48, h⟩ := zlet_ex h
    have wJ48 : ∀ (v5 : Int32) (v6 : Int32) (v7 : Int32) (M : ZM), J48 v5 v6 v7 M = some res → ∀ (H : Heap) (locs : List Loc) (ls : Array Slot), zWd G A s H locs M → lv_has ls 11 [(0, .ref (za G t0)), (1, .ref (za G t1)), (2, .ref G.2.2.2.2.2.2.1), (3, .int v3), (4, .int v4), (5, .int v5), (6, .int v6), (7, .int v7)] → W p l e (zR 6) s m args below meth c H locs 0 0 (zQ below G A (some (.int res.1)) res.2 args s) (F0 m 48 ls []) := by
      intro v5 v6 v7 M h H locs ls hw hl
      subst hJ48
      refine lv_aload_n hx hb dL_sentence_48 rfl (lv_at hl 2 rfl) ?_
      refine lv_iload_n hx hb dL_sentence_49 rfl (lv_at hl 3 rfl) ?_
      refine lv_iload hx hb dL_sentence_50 (lv_at hl 5 rfl) ?_
      obtain ⟨q28, eq28, h⟩ := Option.bind_eq_some_iff.mp h
      refine z_callS (As := [.ref G.2.2.2.2.2.2.1, .int v3, .int v5]) (rest := []) (rv := (some (.int q28))) (M1 := M) S hw (c_L_stir l hG L xs v3 v5 k2 M q28 eq28) mv_L_stir lk_L_21 rfl rfl (Nat.le_of_ble_eq_true rfl) ⟨Nat.le_of_ble_eq_true rfl, Nat.le_of_ble_eq_true rfl⟩ hl.1 dL_sentence_52 (fun H locs hw => ?_)
      refine lv_istore (lv' := [(8, .int q28), (0, .ref (za G t0)), (1, .ref (za G t1)), (2, .ref G.2.2.2.2.2.2.1), (3, .int v3), (4, .int v4), (5, .int v5), (6, .int v6), (7, .int v7)]) hx hb dL_sentence_55 hl (by decide) rfl (fun ls hl => ?_)
      refine lv_iload hx hb dL_sentence_57 (lv_at hl 6 rfl) ?_
      refine lv_iload hx hb dL_sentence_59 (lv_at hl 7 rfl) ?_
      refine lv_iadd hx hb dL_sentence_61 ?_
      refine lv_iload hx hb dL_sentence_62 (lv_at hl 8 rfl) ?_
      refine lv_if_eq (tgt := 71) hx hb dL_sentence_64 (by decide) (fun c29 => ?_) (fun c29 => ?_)
      · have h := zif_t h c29
        refine lv_iconst (v := 1) hx hb dL_sentence_71 (by decide) ?_
        exact wJ72 v5 v6 v7 q28 (v5 + v6) 1 M h H locs ls hw (lv_sub hl [1, 2, 3, 4, 5, 6, 7, 8, 0] rfl)
      · have h := zif_f h c29
        refine lv_iconst (v := 0) hx hb dL_sentence_67 (by decide) ?_
        refine lv_goto (tgt := 72) hx hb dL_sentence_68 (by decide) ?_
        exact wJ72 v5 v6 v7 q28 (v5 + v6) 0 M h H locs ls hw (lv_sub hl [1, 2, 3, 4, 5, 6, 7, 8, 0] rfl)
    refine lv_iload hx hb dL_sentence_31 (lv_at hl 7 rfl) ?_
    refine lv_if_eq (tgt := 48) hx hb dL_sentence_33 (by decide) (fun c30 => ?_) (fun c30 => ?_)
    · have h := zif_t h c30
      exact wJ48 v5 v6 v7 M h H locs ls hw (lv_sub hl [0, 1, 2, 3, 4, 5, 6, 7] rfl)
    · have h := zif_f h c30
      refine lv_iload hx hb dL_sentence_36 (lv_at hl 6 rfl) ?_
      refine lv_if_gt (tgt := 48) hx hb dL_sentence_38 (by decide) (fun c31 => ?_) (fun c31 => ?_)
      · have h := zif_t h c31
        exact wJ48 v5 v6 v7 M h H locs ls hw (lv_sub hl [0, 1, 2, 3, 4, 5, 6, 7] rfl)
      · have h := zif_f h c31
        refine lv_iload hx hb dL_sentence_41 (lv_at hl 5 rfl) ?_
        refine lv_iload hx hb dL_sentence_43 (lv_at hl 4 rfl) ?_
        refine lv_icmp_ge (tgt := 296) hx hb dL_sentence_45 (by decide) (fun c32 => ?_) (fun c32 => ?_)
        · have h := zif_t h c32
          exact hK v5 M h H locs ls hw (lv_sub hl [0, 1, 5] rfl)
        · have h := zif_f h c32
          exact wJ48 v5 v6 v7 M h H locs ls hw (lv_sub hl [0, 1, 2, 3, 4, 5, 6, 7] rfl)
set_option maxHeartbeats 4000000 in
set_option maxRecDepth 100000 in
theorem w_L_sentence_299 {G : ZG} (hG : zOk G) (S : zX p (zR 6) s m args c 0 0 cL_sentence 11 RL) (hr : meth.sig.returnType = (Option.some FieldType.int)) (hlk : meth.locks = false) (t0 : Nat) (t1 : Nat) (v5 : Int32) (k0 : zk G t0 = 21) (k1 : zk G t1 = 0)  {K : ZM → Option (Int32 × ZM)} {res : (Int32 × ZM)} (hK : ∀  (M : ZM), K M = some res → ∀ (H : Heap) (locs : List Loc) (ls : Array Slot), zWd G A s H locs M → lv_has ls 11 [(0, .ref (za G t0)), (5, .int v5)] → W p l e (zR 6) s m args below meth c H locs 0 0 (zQ below G A (some (.int res.1)) res.2 args s) (F0 m 322 ls [])) : ∀ (n : Nat) (v8 : Int32) (M : ZM), f_L_sentence_299 t0 t1 v5 K n v8 M = some res → ∀ (H : Heap) (locs : List Loc) (ls : Array Slot), zWd G A s H locs M → lv_has ls 11 [(0, .ref (za G t0)), (1, .ref (za G t1)), (5, .int v5), (8, .int v8)] → W p l e (zR 6) s m args below meth c H locs 0 0 (zQ below G A (some (.int res.1)) res.2 args s) (F0 m 299 ls []) := by
  have hx := S.1.1
  have hb := S.1.2.1
  have hown := S.1.2.2.2.1
  have hts := S.1.2.2.2.2
  intro n
  induction n with
  | zero =>
    intro v8 M h
    rw [f_L_sentence_299] at h
    cases h
  | succ n ih =>
    intro v8 M h H locs ls hw hl
    rw [f_L_sentence_299] at h
    refine lv_iload hx hb dL_sentence_299 (lv_at hl 3 rfl) ?_
    refine lv_iload hx hb dL_sentence_301 (lv_at hl 2 rfl) ?_
    refine lv_icmp_ge (tgt := 322) hx hb dL_sentence_303 (by decide) (fun c33 => ?_) (fun c33 => ?_)
    · have h := zif_t h c33
      exact hK M h H locs ls hw (lv_sub hl [0, 2] rfl)
    · have h := zif_f h c33
      refine lv_aload_n hx hb dL_sentence_306 rfl (lv_at hl 0 rfl) ?_
      refine lv_aload_n hx hb dL_sentence_307 rfl (lv_at hl 1 rfl) ?_
      refine lv_iload hx hb dL_sentence_308 (lv_at hl 3 rfl) ?_
      obtain ⟨g34, h⟩ := zck_ex h
      refine z_iald S hw k1 g34 dL_sentence_310 ?_
      obtain ⟨q35, eq35, h⟩ := Option.bind_eq_some_iff.mp h
      refine z_callS (As := [.ref (za G t0), .int (M.1 t1 v8.toNatClampNeg)]) (rest := []) (rv := (some (.int q35.1))) (M1 := q35.2) S hw (c_L_say l hG t0 (M.1 t1 v8.toNatClampNeg) k0 M q35 eq35) mv_L_say lk_L_25 rfl rfl (Nat.le_of_ble_eq_true rfl) ⟨Nat.le_of_ble_eq_true rfl, Nat.le_of_ble_eq_true rfl⟩ hl.1 dL_sentence_311 (fun H locs hw => ?_)
      refine lv_istore (lv' := [(9, .int q35.1), (0, .ref (za G t0)), (1, .ref (za G t1)), (5, .int v5), (8, .int v8)]) hx hb dL_sentence_314 hl (by decide) rfl (fun ls hl => ?_)
      obtain ⟨x36, ex36, h⟩ := zlet_ex h
      refine lv_iinc (v := x36) (lv' := [(8, .int x36), (9, .int q35.1), (0, .ref (za G t0)), (1, .ref (za G t1)), (5, .int v5)]) hx hb dL_sentence_316 hl (k := 4) rfl (by rw [ex36]; rfl) (by decide) rfl (fun ls hl => ?_)
      refine lv_goto (tgt := 299) hx hb dL_sentence_319 (by decide) ?_
      exact ih x36 q35.2 h H locs ls hw (lv_sub hl [2, 3, 4, 0] rfl)
set_option maxHeartbeats 4000000 in
set_option maxRecDepth 100000 in
theorem c_L_sentence (l : Launch) {G : ZG} (hG : zOk G) (t0 : Nat) (t1 : Nat) (L : Nat) (xs : Nat → Int32) (v3 : Int32) (k0 : zk G t0 = 21) (k1 : zk G t1 = 0) (k2 : zSc G L xs) (M : ZM) (res : (Int32 × ZM)) (h : f_L_sentence t0 t1 L xs v3 M = some res) : zCt l yL_sentence cL_sentence 11 (Option.some FieldType.int) 6 G [.ref (za G t0), .ref (za G t1), .ref G.2.2.2.2.2.2.1, .int v3] M (some (.int res.1)) res.2 := by
  refine zCt.mk (by decide +kernel) (Nat.le_of_ble_eq_true rfl) ?_
  intro p e s m args below meth c A H locs ls S hr hlk hw hl
  have S : zX p (zR 6) s m args c 0 0 cL_sentence 11 RL := S
  have hx := S.1.1
  have hb := S.1.2.1
  have hown := S.1.2.2.2.1
  have hts := S.1.2.2.2.2
  have hl : lv_has ls 11 [(0, .ref (za G t0)), (1, .ref (za G t1)), (2, .ref G.2.2.2.2.2.2.1), (3, .int v3)] := hl
  unfold f_L_sentence at h
  refine lv_iconst (v := 1) hx hb dL_sentence_0 (by decide) ?_
  refine lv_aload_n hx hb dL_sentence_1 rfl (lv_at hl 2 rfl) ?_
  refine lv_iload_n hx hb dL_sentence_2 rfl (lv_at hl 3 rfl) ?_
  obtain ⟨q1, eq1, h⟩ := Option.bind_eq_some_iff.mp h
  refine z_callS (As := [.ref G.2.2.2.2.2.2.1, .int v3]) (rest := [.int 1]) (rv := (some (.int q1))) (M1 := M) S hw (c_L_cell l hG L xs v3 k2 M q1 eq1) mv_L_cell lk_L_15 rfl rfl (Nat.le_of_ble_eq_true rfl) ⟨Nat.le_of_ble_eq_true rfl, Nat.le_of_ble_eq_true rfl⟩ hl.1 dL_sentence_3 (fun H locs hw => ?_)
  refine lv_bipush (v := 7) hx hb dL_sentence_6 (by decide) ?_
  refine lv_iand hx hb dL_sentence_8 ?_
  refine lv_iadd hx hb dL_sentence_9 ?_
  refine lv_aload_n hx hb dL_sentence_10 rfl (lv_at hl 2 rfl) ?_
  refine lv_iload_n hx hb dL_sentence_11 rfl (lv_at hl 3 rfl) ?_
  obtain ⟨q2, eq2, h⟩ := Option.bind_eq_some_iff.mp h
  refine z_callS (As := [.ref G.2.2.2.2.2.2.1, .int v3]) (rest := [.int (1 + (q1 &&& 7))]) (rv := (some (.int q2))) (M1 := M) S hw (c_L_cell l hG L xs v3 k2 M q2 eq2) mv_L_cell lk_L_15 rfl rfl (Nat.le_of_ble_eq_true rfl) ⟨Nat.le_of_ble_eq_true rfl, Nat.le_of_ble_eq_true rfl⟩ hl.1 dL_sentence_12 (fun H locs hw => ?_)
  refine lv_iconst (v := 3) hx hb dL_sentence_15 (by decide) ?_
  refine lv_ishr hx hb dL_sentence_16 ?_
  refine lv_iconst (v := 3) hx hb dL_sentence_17 (by decide) ?_
  refine lv_iand hx hb dL_sentence_18 ?_
  refine lv_iadd hx hb dL_sentence_19 ?_
  obtain ⟨x3, ex3, h⟩ := zlet_ex h
  refine lv_topiE ex3 ?_
  refine lv_istore (lv' := [(4, .int x3), (0, .ref (za G t0)), (1, .ref (za G t1)), (2, .ref G.2.2.2.2.2.2.1), (3, .int v3)]) hx hb dL_sentence_20 hl (by decide) rfl (fun ls hl => ?_)
  refine lv_iconst (v := 0) hx hb dL_sentence_22 (by decide) ?_
  refine lv_istore (lv' := [(5, .int 0), (4, .int x3), (0, .ref (za G t0)), (1, .ref (za G t1)), (2, .ref G.2.2.2.2.2.2.1), (3, .int v3)]) hx hb dL_sentence_23 hl (by decide) rfl (fun ls hl => ?_)
  refine lv_iconst (v := 0) hx hb dL_sentence_25 (by decide) ?_
  refine lv_istore (lv' := [(6, .int 0), (5, .int 0), (4, .int x3), (0, .ref (za G t0)), (1, .ref (za G t1)), (2, .ref G.2.2.2.2.2.2.1), (3, .int v3)]) hx hb dL_sentence_26 hl (by decide) rfl (fun ls hl => ?_)
  refine lv_iconst (v := 0) hx hb dL_sentence_28 (by decide) ?_
  refine lv_istore (lv' := [(7, .int 0), (6, .int 0), (5, .int 0), (4, .int x3), (0, .ref (za G t0)), (1, .ref (za G t1)), (2, .ref G.2.2.2.2.2.2.1), (3, .int v3)]) hx hb dL_sentence_29 hl (by decide) rfl (fun ls hl => ?_)
  refine w_L_sentence_31 hG S hr hlk t0 t1 L xs v3 x3 k0 k1 k2 (fun v5 M h H locs ls hw hl => ?_) zN 0 0 0 M h H locs ls hw (lv_sub hl [4, 5, 6, 7, 3, 2, 1, 0] rfl)
  refine lv_iconst (v := 0) hx hb dL_sentence_296 (by decide) ?_
  refine lv_istore (lv' := [(8, .int 0), (0, .ref (za G t0)), (1, .ref (za G t1)), (5, .int v5)]) hx hb dL_sentence_297 hl (by decide) rfl (fun ls hl => ?_)
  refine w_L_sentence_299 hG S hr hlk t0 t1 v5 k0 k1 (fun M h H locs ls hw hl => ?_) zN 0 M h H locs ls hw (lv_sub hl [1, 2, 3, 0] rfl)
  refine lv_aload_n hx hb dL_sentence_322 rfl (lv_at hl 0 rfl) ?_
  obtain ⟨q37, eq37, h⟩ := Option.bind_eq_some_iff.mp h
  refine z_callV (ci := 11) (As := []) (rest := []) (rv := (some (.int q37.1))) (M1 := q37.2) S hw (c_X11_read l hG t0 k0 M q37 eq37) mv_X11_read lk_L_29 k0 ⟨_, _, rfl⟩ (by decide) rfl rfl (Nat.le_of_ble_eq_true rfl) ⟨Nat.le_of_ble_eq_true rfl, Nat.le_of_ble_eq_true rfl⟩ hl.1 dL_sentence_323 (fun H locs hw => ?_)
  refine lv_iload hx hb dL_sentence_326 (lv_at hl 1 rfl) ?_
  refine lv_icmp_ne (tgt := 336) hx hb dL_sentence_328 (by decide) (fun c38 => ?_) (fun c38 => ?_)
  · have h := zif_f h c38
    refine lv_iconst (v := (-1)) hx hb dL_sentence_336 (by decide) ?_
    have h := Option.some.inj h
    subst h
    exact z_ret_i S hr hlk hw dL_sentence_337
  · have h := zif_t h c38
    refine lv_iload hx hb dL_sentence_331 (lv_at hl 1 rfl) ?_
    refine lv_goto (tgt := 337) hx hb dL_sentence_333 (by decide) ?_
    have h := Option.some.inj h
    subst h
    exact z_ret_i S hr hlk hw dL_sentence_337
def f_L_sight_6 (t0 : Nat) (M : ZM) (K : Int64 → Option Int64) : Nat → Int64 → Int32 → Option Int64
  | 0, _, _ => none
  | n + 1, v1, v3 =>
    if 21 ≤ v3 then (
      K v1) else (
      zlet (f_X11_wordAt t0 v3 M) fun (q2 : Int32) =>
      zlet ((31 * v1) + (q2.toInt64)) fun (x3 : Int64) =>
      zlet (v3 + 1) fun (x4 : Int32) =>
      f_L_sight_6 t0 M K n x3 x4)

def f_L_sight_33 (t0 : Nat) (M : ZM) (K : Int64 → Option Int64) : Nat → Int64 → Int32 → Option Int64
  | 0, _, _ => none
  | n + 1, v1, v3 =>
    if 5 ≤ v3 then (
      K v1) else (
      (f_X11_count t0 v3 M).bind fun (q6 : Int32) =>
      zlet ((31 * v1) + (q6.toInt64)) fun (x7 : Int64) =>
      zlet (v3 + 1) fun (x8 : Int32) =>
      f_L_sight_33 t0 M K n x7 x8)

def f_L_sight (t0 : Nat) (M : ZM) : Option Int64 :=
  f_L_sight_6 t0 M (fun (v1 : Int64) =>
    f_L_sight_33 t0 M (fun (v1 : Int64) =>
      zlet (f_X11_readings t0 M) fun (q9 : Int64) =>
      some ((31 * v1) + q9)) zN v1 0) zN 7 0
set_option maxHeartbeats 4000000 in
set_option maxRecDepth 100000 in
theorem w_L_sight_6 {G : ZG} (hG : zOk G) (S : zX p (zR 4) s m args c 0 0 cL_sight 4 RL) (hr : meth.sig.returnType = (Option.some FieldType.long)) (hlk : meth.locks = false) (t0 : Nat) (k0 : zk G t0 = 21) (M : ZM)  {K : Int64 → Option Int64} {res : Int64} (hK : ∀ (v1 : Int64), K v1 = some res → ∀ (H : Heap) (locs : List Loc) (ls : Array Slot), zWd G A s H locs M → lv_has ls 4 [(0, .ref (za G t0)), (1, .long v1)] → W p l e (zR 4) s m args below meth c H locs 0 0 (zQ below G A (some (.long res)) M args s) (F0 m 31 ls [])) : ∀ (n : Nat) (v1 : Int64) (v3 : Int32), f_L_sight_6 t0 M K n v1 v3 = some res → ∀ (H : Heap) (locs : List Loc) (ls : Array Slot), zWd G A s H locs M → lv_has ls 4 [(0, .ref (za G t0)), (1, .long v1), (3, .int v3)] → W p l e (zR 4) s m args below meth c H locs 0 0 (zQ below G A (some (.long res)) M args s) (F0 m 6 ls []) := by
  have hx := S.1.1
  have hb := S.1.2.1
  have hown := S.1.2.2.2.1
  have hts := S.1.2.2.2.2
  intro n
  induction n with
  | zero =>
    intro v1 v3 h
    rw [f_L_sight_6] at h
    cases h
  | succ n ih =>
    intro v1 v3 h H locs ls hw hl
    rw [f_L_sight_6] at h
    refine lv_iload_n hx hb dL_sight_6 rfl (lv_at hl 2 rfl) ?_
    refine lv_bipush (v := 21) hx hb dL_sight_7 (by decide) ?_
    refine lv_icmp_ge (tgt := 31) hx hb dL_sight_9 (by decide) (fun c1 => ?_) (fun c1 => ?_)
    · have h := zif_t h c1
      exact hK v1 h H locs ls hw (lv_sub hl [0, 1] rfl)
    · have h := zif_f h c1
      refine lv_ldc2 (v := 31) hx hb hown (hts _ kc_L_49) dL_sight_12 ?_
      refine lv_lload_n hx hb dL_sight_15 rfl (lv_at hl 1 rfl) ?_
      refine lv_lmul hx hb dL_sight_16 ?_
      refine lv_aload_n hx hb dL_sight_17 rfl (lv_at hl 0 rfl) ?_
      refine lv_iload_n hx hb dL_sight_18 rfl (lv_at hl 2 rfl) ?_
      obtain ⟨q2, eq2, h⟩ := zlet_ex h
      refine z_callV (ci := 11) (As := [.int v3]) (rest := [.long (31 * v1)]) (rv := (some (.int q2))) (M1 := M) S hw (c_X11_wordAt l hG t0 v3 k0 M q2 eq2.symm) mv_X11_wordAt lk_L_51 k0 ⟨_, _, rfl⟩ (by decide) rfl rfl (Nat.le_of_ble_eq_true rfl) ⟨Nat.le_of_ble_eq_true rfl, Nat.le_of_ble_eq_true rfl⟩ hl.1 dL_sight_19 (fun H locs hw => ?_)
      refine lv_i2l (v := (q2.toInt64)) hx hb dL_sight_22 rfl ?_
      refine lv_ladd hx hb dL_sight_23 ?_
      obtain ⟨x3, ex3, h⟩ := zlet_ex h
      refine lv_toplE ex3 ?_
      refine lv_lstore_n (lv' := [(1, .long x3), (0, .ref (za G t0)), (3, .int v3)]) hx hb dL_sight_24 rfl hl (by decide) rfl (fun ls hl => ?_)
      obtain ⟨x4, ex4, h⟩ := zlet_ex h
      refine lv_iinc (v := x4) (lv' := [(3, .int x4), (1, .long x3), (0, .ref (za G t0))]) hx hb dL_sight_25 hl (k := 2) rfl (by rw [ex4]; rfl) (by decide) rfl (fun ls hl => ?_)
      refine lv_goto (tgt := 6) hx hb dL_sight_28 (by decide) ?_
      exact ih x3 x4 h H locs ls hw (lv_sub hl [2, 1, 0] rfl)
set_option maxHeartbeats 4000000 in
set_option maxRecDepth 100000 in
theorem w_L_sight_33 {G : ZG} (hG : zOk G) (S : zX p (zR 4) s m args c 0 0 cL_sight 4 RL) (hr : meth.sig.returnType = (Option.some FieldType.long)) (hlk : meth.locks = false) (t0 : Nat) (k0 : zk G t0 = 21) (M : ZM)  {K : Int64 → Option Int64} {res : Int64} (hK : ∀ (v1 : Int64), K v1 = some res → ∀ (H : Heap) (locs : List Loc) (ls : Array Slot), zWd G A s H locs M → lv_has ls 4 [(0, .ref (za G t0)), (1, .long v1)] → W p l e (zR 4) s m args below meth c H locs 0 0 (zQ below G A (some (.long res)) M args s) (F0 m 57 ls [])) : ∀ (n : Nat) (v1 : Int64) (v3 : Int32), f_L_sight_33 t0 M K n v1 v3 = some res → ∀ (H : Heap) (locs : List Loc) (ls : Array Slot), zWd G A s H locs M → lv_has ls 4 [(0, .ref (za G t0)), (1, .long v1), (3, .int v3)] → W p l e (zR 4) s m args below meth c H locs 0 0 (zQ below G A (some (.long res)) M args s) (F0 m 33 ls []) := by
  have hx := S.1.1
  have hb := S.1.2.1
  have hown := S.1.2.2.2.1
  have hts := S.1.2.2.2.2
  intro n
  induction n with
  | zero =>
    intro v1 v3 h
    rw [f_L_sight_33] at h
    cases h
  | succ n ih =>
    intro v1 v3 h H locs ls hw hl
    rw [f_L_sight_33] at h
    refine lv_iload_n hx hb dL_sight_33 rfl (lv_at hl 2 rfl) ?_
    refine lv_iconst (v := 5) hx hb dL_sight_34 (by decide) ?_
    refine lv_icmp_ge (tgt := 57) hx hb dL_sight_35 (by decide) (fun c5 => ?_) (fun c5 => ?_)
    · have h := zif_t h c5
      exact hK v1 h H locs ls hw (lv_sub hl [0, 1] rfl)
    · have h := zif_f h c5
      refine lv_ldc2 (v := 31) hx hb hown (hts _ kc_L_49) dL_sight_38 ?_
      refine lv_lload_n hx hb dL_sight_41 rfl (lv_at hl 1 rfl) ?_
      refine lv_lmul hx hb dL_sight_42 ?_
      refine lv_aload_n hx hb dL_sight_43 rfl (lv_at hl 0 rfl) ?_
      refine lv_iload_n hx hb dL_sight_44 rfl (lv_at hl 2 rfl) ?_
      obtain ⟨q6, eq6, h⟩ := Option.bind_eq_some_iff.mp h
      refine z_callV (ci := 11) (As := [.int v3]) (rest := [.long (31 * v1)]) (rv := (some (.int q6))) (M1 := M) S hw (c_X11_count l hG t0 v3 k0 M q6 eq6) mv_X11_count lk_L_55 k0 ⟨_, _, rfl⟩ (by decide) rfl rfl (Nat.le_of_ble_eq_true rfl) ⟨Nat.le_of_ble_eq_true rfl, Nat.le_of_ble_eq_true rfl⟩ hl.1 dL_sight_45 (fun H locs hw => ?_)
      refine lv_i2l (v := (q6.toInt64)) hx hb dL_sight_48 rfl ?_
      refine lv_ladd hx hb dL_sight_49 ?_
      obtain ⟨x7, ex7, h⟩ := zlet_ex h
      refine lv_toplE ex7 ?_
      refine lv_lstore_n (lv' := [(1, .long x7), (0, .ref (za G t0)), (3, .int v3)]) hx hb dL_sight_50 rfl hl (by decide) rfl (fun ls hl => ?_)
      obtain ⟨x8, ex8, h⟩ := zlet_ex h
      refine lv_iinc (v := x8) (lv' := [(3, .int x8), (1, .long x7), (0, .ref (za G t0))]) hx hb dL_sight_51 hl (k := 2) rfl (by rw [ex8]; rfl) (by decide) rfl (fun ls hl => ?_)
      refine lv_goto (tgt := 33) hx hb dL_sight_54 (by decide) ?_
      exact ih x7 x8 h H locs ls hw (lv_sub hl [2, 1, 0] rfl)
set_option maxHeartbeats 4000000 in
set_option maxRecDepth 100000 in
theorem c_L_sight (l : Launch) {G : ZG} (hG : zOk G) (t0 : Nat) (k0 : zk G t0 = 21) (M : ZM) (res : Int64) (h : f_L_sight t0 M = some res) : zCt l yL_sight cL_sight 4 (Option.some FieldType.long) 4 G [.ref (za G t0)] M (some (.long res)) M := by
  refine zCt.mk (by decide +kernel) (Nat.le_of_ble_eq_true rfl) ?_
  intro p e s m args below meth c A H locs ls S hr hlk hw hl
  have S : zX p (zR 4) s m args c 0 0 cL_sight 4 RL := S
  have hx := S.1.1
  have hb := S.1.2.1
  have hown := S.1.2.2.2.1
  have hts := S.1.2.2.2.2
  have hl : lv_has ls 4 [(0, .ref (za G t0))] := hl
  unfold f_L_sight at h
  refine lv_ldc2 (v := 7) hx hb hown (hts _ kc_L_47) dL_sight_0 ?_
  refine lv_lstore_n (lv' := [(1, .long 7), (0, .ref (za G t0))]) hx hb dL_sight_3 rfl hl (by decide) rfl (fun ls hl => ?_)
  refine lv_iconst (v := 0) hx hb dL_sight_4 (by decide) ?_
  refine lv_istore_n (lv' := [(3, .int 0), (1, .long 7), (0, .ref (za G t0))]) hx hb dL_sight_5 rfl hl (by decide) rfl (fun ls hl => ?_)
  refine w_L_sight_6 hG S hr hlk t0 k0 M (fun v1 h H locs ls hw hl => ?_) zN 7 0 h H locs ls hw (lv_sub hl [2, 1, 0] rfl)
  refine lv_iconst (v := 0) hx hb dL_sight_31 (by decide) ?_
  refine lv_istore_n (lv' := [(3, .int 0), (0, .ref (za G t0)), (1, .long v1)]) hx hb dL_sight_32 rfl hl (by decide) rfl (fun ls hl => ?_)
  refine w_L_sight_33 hG S hr hlk t0 k0 M (fun v1 h H locs ls hw hl => ?_) zN v1 0 h H locs ls hw (lv_sub hl [1, 2, 0] rfl)
  refine lv_ldc2 (v := 31) hx hb hown (hts _ kc_L_49) dL_sight_57 ?_
  refine lv_lload_n hx hb dL_sight_60 rfl (lv_at hl 1 rfl) ?_
  refine lv_lmul hx hb dL_sight_61 ?_
  refine lv_aload_n hx hb dL_sight_62 rfl (lv_at hl 0 rfl) ?_
  obtain ⟨q9, eq9, h⟩ := zlet_ex h
  refine z_callV (ci := 11) (As := []) (rest := [.long (31 * v1)]) (rv := (some (.long q9))) (M1 := M) S hw (c_X11_readings l hG t0 k0 M q9 eq9.symm) mv_X11_readings lk_L_58 k0 ⟨_, _, rfl⟩ (by decide) rfl rfl (Nat.le_of_ble_eq_true rfl) ⟨Nat.le_of_ble_eq_true rfl, Nat.le_of_ble_eq_true rfl⟩ hl.1 dL_sight_63 (fun H locs hw => ?_)
  refine lv_ladd hx hb dL_sight_66 ?_
  have h := Option.some.inj h
  subst h
  exact z_ret_l S hr hlk hw dL_sight_67
end Z
