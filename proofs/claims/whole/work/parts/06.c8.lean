section Z
variable {p : Program} {l : Launch} {e : Env} {s : State} {m : MethodId} {args : Array Value} {below : List Frame} {meth : Method} {c : Code} {A : Nat → Prop}
def f_X3_sharedWith_4 (t0 : Nat) (v1 : Int32) (M : ZM) (K : Int32 → Option Int32) : Nat → Int32 → Int32 → Option Int32
  | 0, _, _ => none
  | n + 1, v2, v3 =>
    if (M.1 t0 2) ≤ v3 then (
      K v2) else (
      zlet (f_X11_look (zr t0 1) v3 M) fun (q2 : Int32) =>
      if (q2 &&& v1) = v1 then (
        zlet (f_X11_look (zr t0 1) v3 M) fun (q5 : Int32) =>
        zlet (v2 ||| q5) fun (x6 : Int32) =>
        zlet (v3 + 1) fun (x7 : Int32) =>
        f_X3_sharedWith_4 t0 v1 M K n x6 x7) else (
        zlet (v3 + 1) fun (x4 : Int32) =>
        f_X3_sharedWith_4 t0 v1 M K n v2 x4))

def f_X3_sharedWith (t0 : Nat) (v1 : Int32) (M : ZM) : Option Int32 :=
  f_X3_sharedWith_4 t0 v1 M (fun (v2 : Int32) =>
    some v2) zN 0 0
set_option maxHeartbeats 4000000 in
set_option maxRecDepth 100000 in
theorem w_X3_sharedWith_4 {G : ZG} (hG : zOk G) (S : zX p (zR 1) s m args c 0 0 cX3_sharedWith 4 RX3) (hr : meth.sig.returnType = (Option.some FieldType.int)) (hlk : meth.locks = false) (t0 : Nat) (v1 : Int32) (k0 : zk G t0 = 13) (M : ZM)  {K : Int32 → Option Int32} {res : Int32} (hK : ∀ (v2 : Int32), K v2 = some res → ∀ (H : Heap) (locs : List Loc) (ls : Array Slot), zWd G A s H locs M → lv_has ls 4 [(2, .int v2)] → W p l e (zR 1) s m args below meth c H locs 0 0 (zQ below G A (some (.int res)) M args s) (F0 m 43 ls [])) : ∀ (n : Nat) (v2 : Int32) (v3 : Int32), f_X3_sharedWith_4 t0 v1 M K n v2 v3 = some res → ∀ (H : Heap) (locs : List Loc) (ls : Array Slot), zWd G A s H locs M → lv_has ls 4 [(0, .ref (za G t0)), (1, .int v1), (2, .int v2), (3, .int v3)] → W p l e (zR 1) s m args below meth c H locs 0 0 (zQ below G A (some (.int res)) M args s) (F0 m 4 ls []) := by
  have hx := S.1.1
  have hb := S.1.2.1
  have hown := S.1.2.2.2.1
  have hts := S.1.2.2.2.2
  intro n
  induction n with
  | zero =>
    intro v2 v3 h
    rw [f_X3_sharedWith_4] at h
    cases h
  | succ n ih =>
    intro v2 v3 h H locs ls hw hl
    rw [f_X3_sharedWith_4] at h
    refine lv_iload_n hx hb dX3_sharedWith_4 rfl (lv_at hl 3 rfl) ?_
    refine lv_aload_n hx hb dX3_sharedWith_5 rfl (lv_at hl 0 rfl) ?_
    refine z_getI S hw k0 fl_X3_18 rfl dX3_sharedWith_6 ?_
    refine lv_icmp_ge (tgt := 43) hx hb dX3_sharedWith_9 (by decide) (fun c1 => ?_) (fun c1 => ?_)
    · have h := zif_t h c1
      exact hK v2 h H locs ls hw (lv_sub hl [2] rfl)
    · have h := zif_f h c1
      refine lv_aload_n hx hb dX3_sharedWith_12 rfl (lv_at hl 0 rfl) ?_
      refine z_getR S hw k0 fl_X3_15 rfl dX3_sharedWith_13 ?_
      refine lv_iload_n hx hb dX3_sharedWith_16 rfl (lv_at hl 3 rfl) ?_
      obtain ⟨q2, eq2, h⟩ := zlet_ex h
      refine z_callS (As := [.ref (za G (zr t0 1)), .int v3]) (rest := []) (rv := (some (.int q2))) (M1 := M) S hw (c_X11_look l hG (zr t0 1) v3 (kr_3_1 hG k0) M q2 eq2.symm) mv_X11_look lk_X3_44 rfl rfl (Nat.le_of_ble_eq_true rfl) ⟨Nat.le_of_ble_eq_true rfl, Nat.le_of_ble_eq_true rfl⟩ hl.1 dX3_sharedWith_17 (fun H locs hw => ?_)
      refine lv_iload_n hx hb dX3_sharedWith_20 rfl (lv_at hl 1 rfl) ?_
      refine lv_iand hx hb dX3_sharedWith_21 ?_
      refine lv_iload_n hx hb dX3_sharedWith_22 rfl (lv_at hl 1 rfl) ?_
      refine lv_icmp_ne (tgt := 37) hx hb dX3_sharedWith_23 (by decide) (fun c3 => ?_) (fun c3 => ?_)
      · have h := zif_f h c3
        obtain ⟨x4, ex4, h⟩ := zlet_ex h
        refine lv_iinc (v := x4) (lv' := [(3, .int x4), (0, .ref (za G t0)), (1, .int v1), (2, .int v2)]) hx hb dX3_sharedWith_37 hl (k := 3) rfl (by rw [ex4]; rfl) (by decide) rfl (fun ls hl => ?_)
        refine lv_goto (tgt := 4) hx hb dX3_sharedWith_40 (by decide) ?_
        exact ih v2 x4 h H locs ls hw (lv_sub hl [1, 2, 3, 0] rfl)
      · have h := zif_t h c3
        refine lv_iload_n hx hb dX3_sharedWith_26 rfl (lv_at hl 2 rfl) ?_
        refine lv_aload_n hx hb dX3_sharedWith_27 rfl (lv_at hl 0 rfl) ?_
        refine z_getR S hw k0 fl_X3_15 rfl dX3_sharedWith_28 ?_
        refine lv_iload_n hx hb dX3_sharedWith_31 rfl (lv_at hl 3 rfl) ?_
        obtain ⟨q5, eq5, h⟩ := zlet_ex h
        refine z_callS (As := [.ref (za G (zr t0 1)), .int v3]) (rest := [.int v2]) (rv := (some (.int q5))) (M1 := M) S hw (c_X11_look l hG (zr t0 1) v3 (kr_3_1 hG k0) M q5 eq5.symm) mv_X11_look lk_X3_44 rfl rfl (Nat.le_of_ble_eq_true rfl) ⟨Nat.le_of_ble_eq_true rfl, Nat.le_of_ble_eq_true rfl⟩ hl.1 dX3_sharedWith_32 (fun H locs hw => ?_)
        refine lv_ior hx hb dX3_sharedWith_35 ?_
        obtain ⟨x6, ex6, h⟩ := zlet_ex h
        refine lv_topiE ex6 ?_
        refine lv_istore_n (lv' := [(2, .int x6), (0, .ref (za G t0)), (1, .int v1), (3, .int v3)]) hx hb dX3_sharedWith_36 rfl hl (by decide) rfl (fun ls hl => ?_)
        obtain ⟨x7, ex7, h⟩ := zlet_ex h
        refine lv_iinc (v := x7) (lv' := [(3, .int x7), (2, .int x6), (0, .ref (za G t0)), (1, .int v1)]) hx hb dX3_sharedWith_37 hl (k := 3) rfl (by rw [ex7]; rfl) (by decide) rfl (fun ls hl => ?_)
        refine lv_goto (tgt := 4) hx hb dX3_sharedWith_40 (by decide) ?_
        exact ih x6 x7 h H locs ls hw (lv_sub hl [2, 3, 1, 0] rfl)
set_option maxHeartbeats 4000000 in
set_option maxRecDepth 100000 in
theorem c_X3_sharedWith (l : Launch) {G : ZG} (hG : zOk G) (t0 : Nat) (v1 : Int32) (k0 : zk G t0 = 13) (M : ZM) (res : Int32) (h : f_X3_sharedWith t0 v1 M = some res) : zCt l yX3_sharedWith cX3_sharedWith 4 (Option.some FieldType.int) 1 G [.ref (za G t0), .int v1] M (some (.int res)) M := by
  refine zCt.mk (by decide +kernel) (Nat.le_of_ble_eq_true rfl) ?_
  intro p e s m args below meth c A H locs ls S hr hlk hw hl
  have S : zX p (zR 1) s m args c 0 0 cX3_sharedWith 4 RX3 := S
  have hx := S.1.1
  have hb := S.1.2.1
  have hown := S.1.2.2.2.1
  have hts := S.1.2.2.2.2
  have hl : lv_has ls 4 [(0, .ref (za G t0)), (1, .int v1)] := hl
  unfold f_X3_sharedWith at h
  refine lv_iconst (v := 0) hx hb dX3_sharedWith_0 (by decide) ?_
  refine lv_istore_n (lv' := [(2, .int 0), (0, .ref (za G t0)), (1, .int v1)]) hx hb dX3_sharedWith_1 rfl hl (by decide) rfl (fun ls hl => ?_)
  refine lv_iconst (v := 0) hx hb dX3_sharedWith_2 (by decide) ?_
  refine lv_istore_n (lv' := [(3, .int 0), (2, .int 0), (0, .ref (za G t0)), (1, .int v1)]) hx hb dX3_sharedWith_3 rfl hl (by decide) rfl (fun ls hl => ?_)
  refine w_X3_sharedWith_4 hG S hr hlk t0 v1 k0 M (fun v2 h H locs ls hw hl => ?_) zN 0 0 h H locs ls hw (lv_sub hl [2, 3, 1, 0] rfl)
  refine lv_iload_n hx hb dX3_sharedWith_43 rfl (lv_at hl 0 rfl) ?_
  have h := Option.some.inj h
  subst h
  exact z_ret_i S hr hlk hw dX3_sharedWith_44
def f_X3_fewestNodes_28 (t0 : Nat) (M : ZM) (K : Option Int32) : Nat → Int32 → Option Int32
  | 0, _ => none
  | n + 1, v1 =>
    if 21 ≤ v1 then (
      K) else (
      zlet ((M.1 t0 3) &&& (1 <<< (v1 &&& 31))) fun (x5 : Int32) =>
      if x5 = 0 then (
        zlet (v1 + 1) fun (x7 : Int32) =>
        f_X3_fewestNodes_28 t0 M K n x7) else (
        (f_X3_sharedWith t0 x5 M).bind fun (q8 : Int32) =>
        if ((M.1 t0 3) &&& (q8 ^^^ (-1))) = 0 then (
          zlet (v1 + 1) fun (x10 : Int32) =>
          f_X3_fewestNodes_28 t0 M K n x10) else (
          some (2 : Int32))))

def f_X3_fewestNodes (t0 : Nat) (M : ZM) : Option Int32 :=
  if (M.1 t0 2) = 0 then (
    some (0 : Int32)) else (
    (f_X3_sharedWith t0 0 M).bind fun (q2 : Int32) =>
    if ((M.1 t0 3) &&& (q2 ^^^ (-1))) = 0 then (
      f_X3_fewestNodes_28 t0 M (
        some ((-9) : Int32)) zN 0) else (
      some (1 : Int32)))
set_option maxHeartbeats 4000000 in
set_option maxRecDepth 100000 in
theorem w_X3_fewestNodes_28 {G : ZG} (hG : zOk G) (S : zX p (zR 2) s m args c 0 0 cX3_fewestNodes 3 RX3) (hr : meth.sig.returnType = (Option.some FieldType.int)) (hlk : meth.locks = false) (t0 : Nat) (k0 : zk G t0 = 13) (M : ZM)  {K : Option Int32} {res : Int32} (hK : K = some res → ∀ (H : Heap) (locs : List Loc) (ls : Array Slot), zWd G A s H locs M → lv_has ls 3 [] → W p l e (zR 2) s m args below meth c H locs 0 0 (zQ below G A (some (.int res)) M args s) (F0 m 70 ls [])) : ∀ (n : Nat) (v1 : Int32), f_X3_fewestNodes_28 t0 M K n v1 = some res → ∀ (H : Heap) (locs : List Loc) (ls : Array Slot), zWd G A s H locs M → lv_has ls 3 [(0, .ref (za G t0)), (1, .int v1)] → W p l e (zR 2) s m args below meth c H locs 0 0 (zQ below G A (some (.int res)) M args s) (F0 m 28 ls []) := by
  have hx := S.1.1
  have hb := S.1.2.1
  have hown := S.1.2.2.2.1
  have hts := S.1.2.2.2.2
  intro n
  induction n with
  | zero =>
    intro v1 h
    rw [f_X3_fewestNodes_28] at h
    cases h
  | succ n ih =>
    intro v1 h H locs ls hw hl
    rw [f_X3_fewestNodes_28] at h
    refine lv_iload_n hx hb dX3_fewestNodes_28 rfl (lv_at hl 1 rfl) ?_
    refine lv_bipush (v := 21) hx hb dX3_fewestNodes_29 (by decide) ?_
    refine lv_icmp_ge (tgt := 70) hx hb dX3_fewestNodes_31 (by decide) (fun c4 => ?_) (fun c4 => ?_)
    · have h := zif_t h c4
      exact hK  h H locs ls hw (lv_sub hl [] rfl)
    · have h := zif_f h c4
      refine lv_aload_n hx hb dX3_fewestNodes_34 rfl (lv_at hl 0 rfl) ?_
      refine z_getI S hw k0 fl_X3_22 rfl dX3_fewestNodes_35 ?_
      refine lv_iconst (v := 1) hx hb dX3_fewestNodes_38 (by decide) ?_
      refine lv_iload_n hx hb dX3_fewestNodes_39 rfl (lv_at hl 1 rfl) ?_
      refine lv_ishl hx hb dX3_fewestNodes_40 ?_
      refine lv_iand hx hb dX3_fewestNodes_41 ?_
      obtain ⟨x5, ex5, h⟩ := zlet_ex h
      refine lv_topiE ex5 ?_
      refine lv_istore_n (lv' := [(2, .int x5), (0, .ref (za G t0)), (1, .int v1)]) hx hb dX3_fewestNodes_42 rfl hl (by decide) rfl (fun ls hl => ?_)
      refine lv_iload_n hx hb dX3_fewestNodes_43 rfl (lv_at hl 0 rfl) ?_
      refine lv_if_eq (tgt := 64) hx hb dX3_fewestNodes_44 (by decide) (fun c6 => ?_) (fun c6 => ?_)
      · have h := zif_t h c6
        obtain ⟨x7, ex7, h⟩ := zlet_ex h
        refine lv_iinc (v := x7) (lv' := [(1, .int x7), (2, .int x5), (0, .ref (za G t0))]) hx hb dX3_fewestNodes_64 hl (k := 2) rfl (by rw [ex7]; rfl) (by decide) rfl (fun ls hl => ?_)
        refine lv_goto (tgt := 28) hx hb dX3_fewestNodes_67 (by decide) ?_
        exact ih x7 h H locs ls hw (lv_sub hl [2, 0] rfl)
      · have h := zif_f h c6
        refine lv_aload_n hx hb dX3_fewestNodes_47 rfl (lv_at hl 1 rfl) ?_
        refine z_getI S hw k0 fl_X3_22 rfl dX3_fewestNodes_48 ?_
        refine lv_aload_n hx hb dX3_fewestNodes_51 rfl (lv_at hl 1 rfl) ?_
        refine lv_iload_n hx hb dX3_fewestNodes_52 rfl (lv_at hl 0 rfl) ?_
        obtain ⟨q8, eq8, h⟩ := Option.bind_eq_some_iff.mp h
        refine z_callV (ci := 3) (As := [.int x5]) (rest := [.int (M.1 t0 3)]) (rv := (some (.int q8))) (M1 := M) S hw (c_X3_sharedWith l hG t0 x5 k0 M q8 eq8) mv_X3_sharedWith lk_X3_48 k0 ⟨_, _, rfl⟩ (by decide) rfl rfl (Nat.le_of_ble_eq_true rfl) ⟨Nat.le_of_ble_eq_true rfl, Nat.le_of_ble_eq_true rfl⟩ hl.1 dX3_fewestNodes_53 (fun H locs hw => ?_)
        refine lv_iconst (v := (-1)) hx hb dX3_fewestNodes_56 (by decide) ?_
        refine lv_ixor hx hb dX3_fewestNodes_57 ?_
        refine lv_iand hx hb dX3_fewestNodes_58 ?_
        refine lv_if_eq (tgt := 64) hx hb dX3_fewestNodes_59 (by decide) (fun c9 => ?_) (fun c9 => ?_)
        · have h := zif_t h c9
          obtain ⟨x10, ex10, h⟩ := zlet_ex h
          refine lv_iinc (v := x10) (lv' := [(1, .int x10), (2, .int x5), (0, .ref (za G t0))]) hx hb dX3_fewestNodes_64 hl (k := 2) rfl (by rw [ex10]; rfl) (by decide) rfl (fun ls hl => ?_)
          refine lv_goto (tgt := 28) hx hb dX3_fewestNodes_67 (by decide) ?_
          exact ih x10 h H locs ls hw (lv_sub hl [2, 0] rfl)
        · have h := zif_f h c9
          refine lv_iconst (v := 2) hx hb dX3_fewestNodes_62 (by decide) ?_
          have h := Option.some.inj h
          subst h
          exact z_ret_i S hr hlk hw dX3_fewestNodes_63
set_option maxHeartbeats 4000000 in
set_option maxRecDepth 100000 in
theorem c_X3_fewestNodes (l : Launch) {G : ZG} (hG : zOk G) (t0 : Nat) (k0 : zk G t0 = 13) (M : ZM) (res : Int32) (h : f_X3_fewestNodes t0 M = some res) : zCt l yX3_fewestNodes cX3_fewestNodes 3 (Option.some FieldType.int) 2 G [.ref (za G t0)] M (some (.int res)) M := by
  refine zCt.mk (by decide +kernel) (Nat.le_of_ble_eq_true rfl) ?_
  intro p e s m args below meth c A H locs ls S hr hlk hw hl
  have S : zX p (zR 2) s m args c 0 0 cX3_fewestNodes 3 RX3 := S
  have hx := S.1.1
  have hb := S.1.2.1
  have hown := S.1.2.2.2.1
  have hts := S.1.2.2.2.2
  have hl : lv_has ls 3 [(0, .ref (za G t0))] := hl
  unfold f_X3_fewestNodes at h
  refine lv_aload_n hx hb dX3_fewestNodes_0 rfl (lv_at hl 0 rfl) ?_
  refine z_getI S hw k0 fl_X3_18 rfl dX3_fewestNodes_1 ?_
  refine lv_if_ne (tgt := 9) hx hb dX3_fewestNodes_4 (by decide) (fun c1 => ?_) (fun c1 => ?_)
  · have h := zif_f h c1
    refine lv_aload_n hx hb dX3_fewestNodes_9 rfl (lv_at hl 0 rfl) ?_
    refine z_getI S hw k0 fl_X3_22 rfl dX3_fewestNodes_10 ?_
    refine lv_aload_n hx hb dX3_fewestNodes_13 rfl (lv_at hl 0 rfl) ?_
    refine lv_iconst (v := 0) hx hb dX3_fewestNodes_14 (by decide) ?_
    obtain ⟨q2, eq2, h⟩ := Option.bind_eq_some_iff.mp h
    refine z_callV (ci := 3) (As := [.int 0]) (rest := [.int (M.1 t0 3)]) (rv := (some (.int q2))) (M1 := M) S hw (c_X3_sharedWith l hG t0 0 k0 M q2 eq2) mv_X3_sharedWith lk_X3_48 k0 ⟨_, _, rfl⟩ (by decide) rfl rfl (Nat.le_of_ble_eq_true rfl) ⟨Nat.le_of_ble_eq_true rfl, Nat.le_of_ble_eq_true rfl⟩ hl.1 dX3_fewestNodes_15 (fun H locs hw => ?_)
    refine lv_iconst (v := (-1)) hx hb dX3_fewestNodes_18 (by decide) ?_
    refine lv_ixor hx hb dX3_fewestNodes_19 ?_
    refine lv_iand hx hb dX3_fewestNodes_20 ?_
    refine lv_if_eq (tgt := 26) hx hb dX3_fewestNodes_21 (by decide) (fun c3 => ?_) (fun c3 => ?_)
    · have h := zif_t h c3
      refine lv_iconst (v := 0) hx hb dX3_fewestNodes_26 (by decide) ?_
      refine lv_istore_n (lv' := [(1, .int 0), (0, .ref (za G t0))]) hx hb dX3_fewestNodes_27 rfl hl (by decide) rfl (fun ls hl => ?_)
      refine w_X3_fewestNodes_28 hG S hr hlk t0 k0 M (fun h H locs ls hw hl => ?_) zN 0 h H locs ls hw (lv_sub hl [1, 0] rfl)
      refine lv_bipush (v := (-9)) hx hb dX3_fewestNodes_70 (by decide) ?_
      have h := Option.some.inj h
      subst h
      exact z_ret_i S hr hlk hw dX3_fewestNodes_72
    · have h := zif_f h c3
      refine lv_iconst (v := 1) hx hb dX3_fewestNodes_24 (by decide) ?_
      have h := Option.some.inj h
      subst h
      exact z_ret_i S hr hlk hw dX3_fewestNodes_25
  · have h := zif_t h c1
    refine lv_iconst (v := 0) hx hb dX3_fewestNodes_7 (by decide) ?_
    have h := Option.some.inj h
    subst h
    exact z_ret_i S hr hlk hw dX3_fewestNodes_8
def f_X11_mend_58 (t0 : Nat) (v1 : Int32) (K : ZM → Option (Int32 × ZM)) : Nat → Int32 → ZM → Option (Int32 × ZM)
  | 0, _, _ => none
  | n + 1, v2, M =>
    zlet (f_X2_size (zr t0 5) M) fun (q7 : Int32) =>
    if q7 ≤ v2 then (
      K M) else (
      zlet (f_X2_meaning (zr t0 5) v2 M) fun (q9 : Int64) =>
      zlet (f_X2_meaning (zr t0 5) v1 M) fun (q10 : Int64) =>
      if (lg_cmp q9 q10) = 0 then (
        zlet (v2 + 1) fun (x12 : Int32) =>
        f_X11_mend_58 t0 v1 K n x12 M) else (
        (f_X7_grow (zr t0 4) (zr t0 1) (zr t0 3) (v2.toInt64) M).bind fun (q13 : ZM) =>
        (f_X3_hold (zr t0 10) (zr t0 4) q13).bind fun (q14 : ZM) =>
        zlet (v2 + 1) fun (x15 : Int32) =>
        f_X11_mend_58 t0 v1 K n x15 q14))

def f_X11_mend (t0 : Nat) (v1 : Int32) (M : ZM) : Option (Int32 × ZM) :=
  (f_X11_spent t0 M).bind fun (q1 : (Int32 × ZM)) =>
  if q1.1 = 0 then (
    zlet (f_X11_noReading t0 v1 q1.2) fun (q3 : Int32) =>
    if q3 = 0 then (
      (f_X7_grow (zr t0 4) (zr t0 1) (zr t0 3) (v1.toInt64) q1.2).bind fun (q5 : ZM) =>
      (f_X3_begin (zr t0 10) (zr t0 4) q5).bind fun (q6 : ZM) =>
      f_X11_mend_58 t0 v1 (fun (M : ZM) =>
        (f_X3_fewestNodes (zr t0 10) M).bind fun (q16 : Int32) =>
        some (q16, M)) zN 0 q6) else (
      zlet (f_X11_refuse t0 (-1) q1.2) fun (q17 : (Int32 × ZM)) =>
      some (q17.1, q17.2))) else (
    zlet (f_X11_refuse t0 (-5) q1.2) fun (q18 : (Int32 × ZM)) =>
    some (q18.1, q18.2))
set_option maxHeartbeats 4000000 in
set_option maxRecDepth 100000 in
theorem w_X11_mend_58 {G : ZG} (hG : zOk G) (S : zX p (zR 6) s m args c 0 0 cX11_mend 3 RX11) (hr : meth.sig.returnType = (Option.some FieldType.int)) (hlk : meth.locks = false) (t0 : Nat) (v1 : Int32) (k0 : zk G t0 = 21)  {K : ZM → Option (Int32 × ZM)} {res : (Int32 × ZM)} (hK : ∀  (M : ZM), K M = some res → ∀ (H : Heap) (locs : List Loc) (ls : Array Slot), zWd G A s H locs M → lv_has ls 3 [(0, .ref (za G t0))] → W p l e (zR 6) s m args below meth c H locs 0 0 (zQ below G A (some (.int res.1)) res.2 args s) (F0 m 123 ls [])) : ∀ (n : Nat) (v2 : Int32) (M : ZM), f_X11_mend_58 t0 v1 K n v2 M = some res → ∀ (H : Heap) (locs : List Loc) (ls : Array Slot), zWd G A s H locs M → lv_has ls 3 [(0, .ref (za G t0)), (1, .int v1), (2, .int v2)] → W p l e (zR 6) s m args below meth c H locs 0 0 (zQ below G A (some (.int res.1)) res.2 args s) (F0 m 58 ls []) := by
  have hx := S.1.1
  have hb := S.1.2.1
  have hown := S.1.2.2.2.1
  have hts := S.1.2.2.2.2
  intro n
  induction n with
  | zero =>
    intro v2 M h
    rw [f_X11_mend_58] at h
    cases h
  | succ n ih =>
    intro v2 M h H locs ls hw hl
    rw [f_X11_mend_58] at h
    refine lv_iload_n hx hb dX11_mend_58 rfl (lv_at hl 2 rfl) ?_
    refine lv_aload_n hx hb dX11_mend_59 rfl (lv_at hl 0 rfl) ?_
    refine z_getR S hw k0 fl_X11_39 rfl dX11_mend_60 ?_
    obtain ⟨q7, eq7, h⟩ := zlet_ex h
    refine z_callV (ci := 2) (As := []) (rest := [.int v2]) (rv := (some (.int q7))) (M1 := M) S hw (c_X2_size l hG (zr t0 5) (kr_11_5 hG k0) M q7 eq7.symm) mv_X2_size lk_X11_230 (kr_11_5 hG k0) ⟨_, _, rfl⟩ (by decide) rfl rfl (Nat.le_of_ble_eq_true rfl) ⟨Nat.le_of_ble_eq_true rfl, Nat.le_of_ble_eq_true rfl⟩ hl.1 dX11_mend_63 (fun H locs hw => ?_)
    refine lv_icmp_ge (tgt := 123) hx hb dX11_mend_66 (by decide) (fun c8 => ?_) (fun c8 => ?_)
    · have h := zif_t h c8
      exact hK M h H locs ls hw (lv_sub hl [0] rfl)
    · have h := zif_f h c8
      refine lv_aload_n hx hb dX11_mend_69 rfl (lv_at hl 0 rfl) ?_
      refine z_getR S hw k0 fl_X11_39 rfl dX11_mend_70 ?_
      refine lv_iload_n hx hb dX11_mend_73 rfl (lv_at hl 2 rfl) ?_
      obtain ⟨q9, eq9, h⟩ := zlet_ex h
      refine z_callV (ci := 2) (As := [.int v2]) (rest := []) (rv := (some (.long q9))) (M1 := M) S hw (c_X2_meaning l hG (zr t0 5) v2 (kr_11_5 hG k0) M q9 eq9.symm) mv_X2_meaning lk_X11_148 (kr_11_5 hG k0) ⟨_, _, rfl⟩ (by decide) rfl rfl (Nat.le_of_ble_eq_true rfl) ⟨Nat.le_of_ble_eq_true rfl, Nat.le_of_ble_eq_true rfl⟩ hl.1 dX11_mend_74 (fun H locs hw => ?_)
      refine lv_aload_n hx hb dX11_mend_77 rfl (lv_at hl 0 rfl) ?_
      refine z_getR S hw k0 fl_X11_39 rfl dX11_mend_78 ?_
      refine lv_iload_n hx hb dX11_mend_81 rfl (lv_at hl 1 rfl) ?_
      obtain ⟨q10, eq10, h⟩ := zlet_ex h
      refine z_callV (ci := 2) (As := [.int v1]) (rest := [.long q9]) (rv := (some (.long q10))) (M1 := M) S hw (c_X2_meaning l hG (zr t0 5) v1 (kr_11_5 hG k0) M q10 eq10.symm) mv_X2_meaning lk_X11_148 (kr_11_5 hG k0) ⟨_, _, rfl⟩ (by decide) rfl rfl (Nat.le_of_ble_eq_true rfl) ⟨Nat.le_of_ble_eq_true rfl, Nat.le_of_ble_eq_true rfl⟩ hl.1 dX11_mend_82 (fun H locs hw => ?_)
      refine W.lcmp hx hb dX11_mend_85 ?_
      refine lv_if_eq (tgt := 117) hx hb dX11_mend_86 (by decide) (fun c11 => ?_) (fun c11 => ?_)
      · have h := zif_t h c11
        obtain ⟨x12, ex12, h⟩ := zlet_ex h
        refine lv_iinc (v := x12) (lv' := [(2, .int x12), (0, .ref (za G t0)), (1, .int v1)]) hx hb dX11_mend_117 hl (k := 2) rfl (by rw [ex12]; rfl) (by decide) rfl (fun ls hl => ?_)
        refine lv_goto (tgt := 58) hx hb dX11_mend_120 (by decide) ?_
        exact ih x12 M h H locs ls hw (lv_sub hl [1, 2, 0] rfl)
      · have h := zif_f h c11
        refine lv_aload_n hx hb dX11_mend_89 rfl (lv_at hl 0 rfl) ?_
        refine z_getR S hw k0 fl_X11_32 rfl dX11_mend_90 ?_
        refine lv_aload_n hx hb dX11_mend_93 rfl (lv_at hl 0 rfl) ?_
        refine z_getR S hw k0 fl_X11_16 rfl dX11_mend_94 ?_
        refine lv_aload_n hx hb dX11_mend_97 rfl (lv_at hl 0 rfl) ?_
        refine z_getR S hw k0 fl_X11_25 rfl dX11_mend_98 ?_
        refine lv_iload_n hx hb dX11_mend_101 rfl (lv_at hl 2 rfl) ?_
        refine lv_i2l (v := (v2.toInt64)) hx hb dX11_mend_102 rfl ?_
        obtain ⟨q13, eq13, h⟩ := Option.bind_eq_some_iff.mp h
        refine z_callV (ci := 7) (As := [.ref (za G (zr t0 1)), .ref (za G (zr t0 3)), .long (v2.toInt64)]) (rest := []) (rv := none) (M1 := q13) S hw (c_X7_grow l hG (zr t0 4) (zr t0 1) (zr t0 3) (v2.toInt64) (kr_11_4 hG k0) (kr_11_1 hG k0) (kr_11_3 hG k0) M q13 eq13) mv_X7_grow lk_X11_134 (kr_11_4 hG k0) ⟨_, _, rfl⟩ (by decide) rfl rfl (Nat.le_of_ble_eq_true rfl) ⟨Nat.le_of_ble_eq_true rfl, Nat.le_of_ble_eq_true rfl⟩ hl.1 dX11_mend_103 (fun H locs hw => ?_)
        refine lv_aload_n hx hb dX11_mend_106 rfl (lv_at hl 0 rfl) ?_
        refine z_getR S hw k0 fl_X11_70 rfl dX11_mend_107 ?_
        refine lv_aload_n hx hb dX11_mend_110 rfl (lv_at hl 0 rfl) ?_
        refine z_getR S hw k0 fl_X11_32 rfl dX11_mend_111 ?_
        obtain ⟨q14, eq14, h⟩ := Option.bind_eq_some_iff.mp h
        refine z_callV (ci := 3) (As := [.ref (za G (zr t0 4))]) (rest := []) (rv := none) (M1 := q14) S hw (c_X3_hold l hG (zr t0 10) (zr t0 4) (kr_11_10 hG k0) (kr_11_4 hG k0) q13 q14 eq14) mv_X3_hold lk_X11_231 (kr_11_10 hG k0) ⟨_, _, rfl⟩ (by decide) rfl rfl (Nat.le_of_ble_eq_true rfl) ⟨Nat.le_of_ble_eq_true rfl, Nat.le_of_ble_eq_true rfl⟩ hl.1 dX11_mend_114 (fun H locs hw => ?_)
        obtain ⟨x15, ex15, h⟩ := zlet_ex h
        refine lv_iinc (v := x15) (lv' := [(2, .int x15), (0, .ref (za G t0)), (1, .int v1)]) hx hb dX11_mend_117 hl (k := 2) rfl (by rw [ex15]; rfl) (by decide) rfl (fun ls hl => ?_)
        refine lv_goto (tgt := 58) hx hb dX11_mend_120 (by decide) ?_
        exact ih x15 q14 h H locs ls hw (lv_sub hl [1, 2, 0] rfl)
set_option maxHeartbeats 4000000 in
set_option maxRecDepth 100000 in
theorem c_X11_mend (l : Launch) {G : ZG} (hG : zOk G) (t0 : Nat) (v1 : Int32) (k0 : zk G t0 = 21) (M : ZM) (res : (Int32 × ZM)) (h : f_X11_mend t0 v1 M = some res) : zCt l yX11_mend cX11_mend 3 (Option.some FieldType.int) 6 G [.ref (za G t0), .int v1] M (some (.int res.1)) res.2 := by
  refine zCt.mk (by decide +kernel) (Nat.le_of_ble_eq_true rfl) ?_
  intro p e s m args below meth c A H locs ls S hr hlk hw hl
  have S : zX p (zR 6) s m args c 0 0 cX11_mend 3 RX11 := S
  have hx := S.1.1
  have hb := S.1.2.1
  have hown := S.1.2.2.2.1
  have hts := S.1.2.2.2.2
  have hl : lv_has ls 3 [(0, .ref (za G t0)), (1, .int v1)] := hl
  unfold f_X11_mend at h
  refine lv_aload_n hx hb dX11_mend_0 rfl (lv_at hl 0 rfl) ?_
  obtain ⟨q1, eq1, h⟩ := Option.bind_eq_some_iff.mp h
  refine z_callV (ci := 11) (As := []) (rest := []) (rv := (some (.int q1.1))) (M1 := q1.2) S hw (c_X11_spent l hG t0 k0 M q1 eq1) mv_X11_spent lk_X11_126 k0 ⟨_, _, rfl⟩ (by decide) rfl rfl (Nat.le_of_ble_eq_true rfl) ⟨Nat.le_of_ble_eq_true rfl, Nat.le_of_ble_eq_true rfl⟩ hl.1 dX11_mend_1 (fun H locs hw => ?_)
  refine lv_if_eq (tgt := 14) hx hb dX11_mend_4 (by decide) (fun c2 => ?_) (fun c2 => ?_)
  · have h := zif_t h c2
    refine lv_aload_n hx hb dX11_mend_14 rfl (lv_at hl 0 rfl) ?_
    refine lv_iload_n hx hb dX11_mend_15 rfl (lv_at hl 1 rfl) ?_
    obtain ⟨q3, eq3, h⟩ := zlet_ex h
    refine z_callV (ci := 11) (As := [.int v1]) (rest := []) (rv := (some (.int q3))) (M1 := q1.2) S hw (c_X11_noReading l hG t0 v1 k0 q1.2 q3 eq3.symm) mv_X11_noReading lk_X11_130 k0 ⟨_, _, rfl⟩ (by decide) rfl rfl (Nat.le_of_ble_eq_true rfl) ⟨Nat.le_of_ble_eq_true rfl, Nat.le_of_ble_eq_true rfl⟩ hl.1 dX11_mend_16 (fun H locs hw => ?_)
    refine lv_if_eq (tgt := 28) hx hb dX11_mend_19 (by decide) (fun c4 => ?_) (fun c4 => ?_)
    · have h := zif_t h c4
      refine lv_aload_n hx hb dX11_mend_28 rfl (lv_at hl 0 rfl) ?_
      refine z_getR S hw k0 fl_X11_32 rfl dX11_mend_29 ?_
      refine lv_aload_n hx hb dX11_mend_32 rfl (lv_at hl 0 rfl) ?_
      refine z_getR S hw k0 fl_X11_16 rfl dX11_mend_33 ?_
      refine lv_aload_n hx hb dX11_mend_36 rfl (lv_at hl 0 rfl) ?_
      refine z_getR S hw k0 fl_X11_25 rfl dX11_mend_37 ?_
      refine lv_iload_n hx hb dX11_mend_40 rfl (lv_at hl 1 rfl) ?_
      refine lv_i2l (v := (v1.toInt64)) hx hb dX11_mend_41 rfl ?_
      obtain ⟨q5, eq5, h⟩ := Option.bind_eq_some_iff.mp h
      refine z_callV (ci := 7) (As := [.ref (za G (zr t0 1)), .ref (za G (zr t0 3)), .long (v1.toInt64)]) (rest := []) (rv := none) (M1 := q5) S hw (c_X7_grow l hG (zr t0 4) (zr t0 1) (zr t0 3) (v1.toInt64) (kr_11_4 hG k0) (kr_11_1 hG k0) (kr_11_3 hG k0) q1.2 q5 eq5) mv_X7_grow lk_X11_134 (kr_11_4 hG k0) ⟨_, _, rfl⟩ (by decide) rfl rfl (Nat.le_of_ble_eq_true rfl) ⟨Nat.le_of_ble_eq_true rfl, Nat.le_of_ble_eq_true rfl⟩ hl.1 dX11_mend_42 (fun H locs hw => ?_)
      refine lv_aload_n hx hb dX11_mend_45 rfl (lv_at hl 0 rfl) ?_
      refine z_getR S hw k0 fl_X11_70 rfl dX11_mend_46 ?_
      refine lv_aload_n hx hb dX11_mend_49 rfl (lv_at hl 0 rfl) ?_
      refine z_getR S hw k0 fl_X11_32 rfl dX11_mend_50 ?_
      obtain ⟨q6, eq6, h⟩ := Option.bind_eq_some_iff.mp h
      refine z_callV (ci := 3) (As := [.ref (za G (zr t0 4))]) (rest := []) (rv := none) (M1 := q6) S hw (c_X3_begin l hG (zr t0 10) (zr t0 4) (kr_11_10 hG k0) (kr_11_4 hG k0) q5 q6 eq6) mv_X3_begin lk_X11_226 (kr_11_10 hG k0) ⟨_, _, rfl⟩ (by decide) rfl rfl (Nat.le_of_ble_eq_true rfl) ⟨Nat.le_of_ble_eq_true rfl, Nat.le_of_ble_eq_true rfl⟩ hl.1 dX11_mend_53 (fun H locs hw => ?_)
      refine lv_iconst (v := 0) hx hb dX11_mend_56 (by decide) ?_
      refine lv_istore_n (lv' := [(2, .int 0), (0, .ref (za G t0)), (1, .int v1)]) hx hb dX11_mend_57 rfl hl (by decide) rfl (fun ls hl => ?_)
      refine w_X11_mend_58 hG S hr hlk t0 v1 k0 (fun M h H locs ls hw hl => ?_) zN 0 q6 h H locs ls hw (lv_sub hl [1, 2, 0] rfl)
      refine lv_aload_n hx hb dX11_mend_123 rfl (lv_at hl 0 rfl) ?_
      refine z_getR S hw k0 fl_X11_70 rfl dX11_mend_124 ?_
      obtain ⟨q16, eq16, h⟩ := Option.bind_eq_some_iff.mp h
      refine z_callV (ci := 3) (As := []) (rest := []) (rv := (some (.int q16))) (M1 := M) S hw (c_X3_fewestNodes l hG (zr t0 10) (kr_11_10 hG k0) M q16 eq16) mv_X3_fewestNodes lk_X11_234 (kr_11_10 hG k0) ⟨_, _, rfl⟩ (by decide) rfl rfl (Nat.le_of_ble_eq_true rfl) ⟨Nat.le_of_ble_eq_true rfl, Nat.le_of_ble_eq_true rfl⟩ hl.1 dX11_mend_127 (fun H locs hw => ?_)
      have h := Option.some.inj h
      subst h
      exact z_ret_i S hr hlk hw dX11_mend_130
    · have h := zif_f h c4
      refine lv_aload_n hx hb dX11_mend_22 rfl (lv_at hl 0 rfl) ?_
      refine lv_iconst (v := (-1)) hx hb dX11_mend_23 (by decide) ?_
      obtain ⟨q17, eq17, h⟩ := zlet_ex h
      refine z_callV (ci := 11) (As := [.int (-1)]) (rest := []) (rv := (some (.int q17.1))) (M1 := q17.2) S hw (c_X11_refuse l hG t0 (-1) k0 q1.2 q17 eq17.symm) mv_X11_refuse lk_X11_100 k0 ⟨_, _, rfl⟩ (by decide) rfl rfl (Nat.le_of_ble_eq_true rfl) ⟨Nat.le_of_ble_eq_true rfl, Nat.le_of_ble_eq_true rfl⟩ hl.1 dX11_mend_24 (fun H locs hw => ?_)
      have h := Option.some.inj h
      subst h
      exact z_ret_i S hr hlk hw dX11_mend_27
  · have h := zif_f h c2
    refine lv_aload_n hx hb dX11_mend_7 rfl (lv_at hl 0 rfl) ?_
    refine lv_bipush (v := (-5)) hx hb dX11_mend_8 (by decide) ?_
    obtain ⟨q18, eq18, h⟩ := zlet_ex h
    refine z_callV (ci := 11) (As := [.int (-5)]) (rest := []) (rv := (some (.int q18.1))) (M1 := q18.2) S hw (c_X11_refuse l hG t0 (-5) k0 q1.2 q18 eq18.symm) mv_X11_refuse lk_X11_100 k0 ⟨_, _, rfl⟩ (by decide) rfl rfl (Nat.le_of_ble_eq_true rfl) ⟨Nat.le_of_ble_eq_true rfl, Nat.le_of_ble_eq_true rfl⟩ hl.1 dX11_mend_10 (fun H locs hw => ?_)
    have h := Option.some.inj h
    subst h
    exact z_ret_i S hr hlk hw dX11_mend_13
def f_X0_size (t0 : Nat) (M : ZM) : Int32 :=
  (M.1 t0 2)
set_option maxHeartbeats 4000000 in
set_option maxRecDepth 100000 in
theorem c_X0_size (l : Launch) {G : ZG} (hG : zOk G) (t0 : Nat) (k0 : zk G t0 = 10) (M : ZM) (res : Int32) (h : f_X0_size t0 M = res) : zCt l yX0_size cX0_size 1 (Option.some FieldType.int) 0 G [.ref (za G t0)] M (some (.int res)) M := by
  refine zCt.mk (by decide +kernel) (Nat.le_of_ble_eq_true rfl) ?_
  intro p e s m args below meth c A H locs ls S hr hlk hw hl
  have S : zX p (zR 0) s m args c 0 0 cX0_size 1 RX0 := S
  have hx := S.1.1
  have hb := S.1.2.1
  have hown := S.1.2.2.2.1
  have hts := S.1.2.2.2.2
  have hl : lv_has ls 1 [(0, .ref (za G t0))] := hl
  unfold f_X0_size at h
  refine lv_aload_n hx hb dX0_size_0 rfl (lv_at hl 0 rfl) ?_
  refine z_getI S hw k0 fl_X0_18 rfl dX0_size_1 ?_
  subst h
  exact z_ret_i S hr hlk hw dX0_size_4
def f_X0_add (t0 : Nat) (v1 : Int32) (v2 : Int32) (M : ZM) : ZM :=
  if 8 ≤ (M.1 t0 2) then (
    M) else (
    zlet (f_X11_put (zr t0 0) (M.1 t0 2) v1 M) fun (q2 : ZM) =>
    zlet (f_X11_put (zr t0 1) (q2.1 t0 2) v2 q2) fun (q3 : ZM) =>
    zlet (zi q3 t0 2 ((q3.1 t0 2) + 1)) fun (M4 : ZM) =>
    M4)
set_option maxHeartbeats 4000000 in
set_option maxRecDepth 100000 in
theorem c_X0_add (l : Launch) {G : ZG} (hG : zOk G) (t0 : Nat) (v1 : Int32) (v2 : Int32) (k0 : zk G t0 = 10) (M : ZM) (res : ZM) (h : f_X0_add t0 v1 v2 M = res) : zCt l yX0_add cX0_add 3 none 1 G [.ref (za G t0), .int v1, .int v2] M none res := by
  refine zCt.mk (by decide +kernel) (Nat.le_of_ble_eq_true rfl) ?_
  intro p e s m args below meth c A H locs ls S hr hlk hw hl
  have S : zX p (zR 1) s m args c 0 0 cX0_add 3 RX0 := S
  have hx := S.1.1
  have hb := S.1.2.1
  have hown := S.1.2.2.2.1
  have hts := S.1.2.2.2.2
  have hl : lv_has ls 3 [(0, .ref (za G t0)), (1, .int v1), (2, .int v2)] := hl
  unfold f_X0_add at h
  refine lv_aload_n hx hb dX0_add_0 rfl (lv_at hl 0 rfl) ?_
  refine z_getI S hw k0 fl_X0_18 rfl dX0_add_1 ?_
  refine lv_bipush (v := 8) hx hb dX0_add_4 (by decide) ?_
  refine lv_icmp_ge (tgt := 43) hx hb dX0_add_6 (by decide) (fun c1 => ?_) (fun c1 => ?_)
  · have h := zif_t h c1
    subst h
    exact z_ret_v S hr hlk hw dX0_add_43
  · have h := zif_f h c1
    refine lv_aload_n hx hb dX0_add_9 rfl (lv_at hl 0 rfl) ?_
    refine z_getR S hw k0 fl_X0_9 rfl dX0_add_10 ?_
    refine lv_aload_n hx hb dX0_add_13 rfl (lv_at hl 0 rfl) ?_
    refine z_getI S hw k0 fl_X0_18 rfl dX0_add_14 ?_
    refine lv_iload_n hx hb dX0_add_17 rfl (lv_at hl 1 rfl) ?_
    obtain ⟨q2, eq2, h⟩ := zlet_ex h
    refine z_callS (As := [.ref (za G (zr t0 0)), .int (M.1 t0 2), .int v1]) (rest := []) (rv := none) (M1 := q2) S hw (c_X11_put l hG (zr t0 0) (M.1 t0 2) v1 (kr_0_0 hG k0) M q2 eq2.symm) mv_X11_put lk_X0_22 rfl rfl (Nat.le_of_ble_eq_true rfl) ⟨Nat.le_of_ble_eq_true rfl, Nat.le_of_ble_eq_true rfl⟩ hl.1 dX0_add_18 (fun H locs hw => ?_)
    refine lv_aload_n hx hb dX0_add_21 rfl (lv_at hl 0 rfl) ?_
    refine z_getR S hw k0 fl_X0_15 rfl dX0_add_22 ?_
    refine lv_aload_n hx hb dX0_add_25 rfl (lv_at hl 0 rfl) ?_
    refine z_getI S hw k0 fl_X0_18 rfl dX0_add_26 ?_
    refine lv_iload_n hx hb dX0_add_29 rfl (lv_at hl 2 rfl) ?_
    obtain ⟨q3, eq3, h⟩ := zlet_ex h
    refine z_callS (As := [.ref (za G (zr t0 1)), .int (q2.1 t0 2), .int v2]) (rest := []) (rv := none) (M1 := q3) S hw (c_X11_put l hG (zr t0 1) (q2.1 t0 2) v2 (kr_0_1 hG k0) q2 q3 eq3.symm) mv_X11_put lk_X0_22 rfl rfl (Nat.le_of_ble_eq_true rfl) ⟨Nat.le_of_ble_eq_true rfl, Nat.le_of_ble_eq_true rfl⟩ hl.1 dX0_add_30 (fun H locs hw => ?_)
    refine lv_aload_n hx hb dX0_add_33 rfl (lv_at hl 0 rfl) ?_
    refine lv_dup hx hb dX0_add_34 rfl ?_
    refine z_getI S hw k0 fl_X0_18 rfl dX0_add_35 ?_
    refine lv_iconst (v := 1) hx hb dX0_add_38 (by decide) ?_
    refine lv_iadd hx hb dX0_add_39 ?_
    obtain ⟨M4, eM4, h⟩ := zlet_ex h
    refine z_putI S hw eM4 k0 fl_X0_18 rfl (fun h => absurd h (by decide)) dX0_add_40 (fun H locs hw => ?_)
    subst h
    exact z_ret_v S hr hlk hw dX0_add_43
def f_X11_aim (t0 : Nat) (v1 : Int32) (v2 : Int32) (M : ZM) : (Int32 × ZM) :=
  zlet (f_X11_noCase v1 M) fun (q1 : Int32) =>
  if q1 = 0 then (
    if (-99) ≤ v2 then (
      if 99 < v2 then (
        zlet (f_X11_refuse t0 (-6) M) fun (q5 : (Int32 × ZM)) =>
        (q5.1, q5.2)) else (
        zlet (f_X0_size (zr t0 11) M) fun (q6 : Int32) =>
        if q6 < 8 then (
          zlet (f_X0_add (zr t0 11) v1 v2 M) fun (q8 : ZM) =>
          zlet (f_X0_size (zr t0 11) q8) fun (q9 : Int32) =>
          (q9, q8)) else (
          zlet (f_X11_refuse t0 (-6) M) fun (q10 : (Int32 × ZM)) =>
          (q10.1, q10.2)))) else (
      zlet (f_X11_refuse t0 (-4) M) fun (q11 : (Int32 × ZM)) =>
      (q11.1, q11.2))) else (
    zlet (f_X11_refuse t0 (-1) M) fun (q12 : (Int32 × ZM)) =>
    (q12.1, q12.2))
set_option maxHeartbeats 4000000 in
set_option maxRecDepth 100000 in
theorem c_X11_aim (l : Launch) {G : ZG} (hG : zOk G) (t0 : Nat) (v1 : Int32) (v2 : Int32) (k0 : zk G t0 = 21) (M : ZM) (res : (Int32 × ZM)) (h : f_X11_aim t0 v1 v2 M = res) : zCt l yX11_aim cX11_aim 3 (Option.some FieldType.int) 2 G [.ref (za G t0), .int v1, .int v2] M (some (.int res.1)) res.2 := by
  refine zCt.mk (by decide +kernel) (Nat.le_of_ble_eq_true rfl) ?_
  intro p e s m args below meth c A H locs ls S hr hlk hw hl
  have S : zX p (zR 2) s m args c 0 0 cX11_aim 3 RX11 := S
  have hx := S.1.1
  have hb := S.1.2.1
  have hown := S.1.2.2.2.1
  have hts := S.1.2.2.2.2
  have hl : lv_has ls 3 [(0, .ref (za G t0)), (1, .int v1), (2, .int v2)] := hl
  unfold f_X11_aim at h
  refine lv_iload_n hx hb dX11_aim_0 rfl (lv_at hl 1 rfl) ?_
  obtain ⟨q1, eq1, h⟩ := zlet_ex h
  refine z_callS (As := [.int v1]) (rest := []) (rv := (some (.int q1))) (M1 := M) S hw (c_X11_noCase l hG v1 M q1 eq1.symm) mv_X11_noCase lk_X11_152 rfl rfl (Nat.le_of_ble_eq_true rfl) ⟨Nat.le_of_ble_eq_true rfl, Nat.le_of_ble_eq_true rfl⟩ hl.1 dX11_aim_1 (fun H locs hw => ?_)
  refine lv_if_eq (tgt := 13) hx hb dX11_aim_4 (by decide) (fun c2 => ?_) (fun c2 => ?_)
  · have h := zif_t h c2
    refine lv_iload_n hx hb dX11_aim_13 rfl (lv_at hl 2 rfl) ?_
    refine lv_bipush (v := (-99)) hx hb dX11_aim_14 (by decide) ?_
    refine lv_icmp_ge (tgt := 26) hx hb dX11_aim_16 (by decide) (fun c3 => ?_) (fun c3 => ?_)
    · have h := zif_t h c3
      refine lv_iload_n hx hb dX11_aim_26 rfl (lv_at hl 2 rfl) ?_
      refine lv_bipush (v := 99) hx hb dX11_aim_27 (by decide) ?_
      refine lv_icmp_gt (tgt := 44) hx hb dX11_aim_29 (by decide) (fun c4 => ?_) (fun c4 => ?_)
      · have h := zif_t h c4
        refine lv_aload_n hx hb dX11_aim_44 rfl (lv_at hl 0 rfl) ?_
        refine lv_bipush (v := (-6)) hx hb dX11_aim_45 (by decide) ?_
        obtain ⟨q5, eq5, h⟩ := zlet_ex h
        refine z_callV (ci := 11) (As := [.int (-6)]) (rest := []) (rv := (some (.int q5.1))) (M1 := q5.2) S hw (c_X11_refuse l hG t0 (-6) k0 M q5 eq5.symm) mv_X11_refuse lk_X11_100 k0 ⟨_, _, rfl⟩ (by decide) rfl rfl (Nat.le_of_ble_eq_true rfl) ⟨Nat.le_of_ble_eq_true rfl, Nat.le_of_ble_eq_true rfl⟩ hl.1 dX11_aim_47 (fun H locs hw => ?_)
        subst h
        exact z_ret_i S hr hlk hw dX11_aim_50
      · have h := zif_f h c4
        refine lv_aload_n hx hb dX11_aim_32 rfl (lv_at hl 0 rfl) ?_
        refine z_getR S hw k0 fl_X11_77 rfl dX11_aim_33 ?_
        obtain ⟨q6, eq6, h⟩ := zlet_ex h
        refine z_callV (ci := 0) (As := []) (rest := []) (rv := (some (.int q6))) (M1 := M) S hw (c_X0_size l hG (zr t0 11) (kr_11_11 hG k0) M q6 eq6.symm) mv_X0_size lk_X11_237 (kr_11_11 hG k0) ⟨_, _, rfl⟩ (by decide) rfl rfl (Nat.le_of_ble_eq_true rfl) ⟨Nat.le_of_ble_eq_true rfl, Nat.le_of_ble_eq_true rfl⟩ hl.1 dX11_aim_36 (fun H locs hw => ?_)
        refine lv_bipush (v := 8) hx hb dX11_aim_39 (by decide) ?_
        refine lv_icmp_lt (tgt := 51) hx hb dX11_aim_41 (by decide) (fun c7 => ?_) (fun c7 => ?_)
        · have h := zif_t h c7
          refine lv_aload_n hx hb dX11_aim_51 rfl (lv_at hl 0 rfl) ?_
          refine z_getR S hw k0 fl_X11_77 rfl dX11_aim_52 ?_
          refine lv_iload_n hx hb dX11_aim_55 rfl (lv_at hl 1 rfl) ?_
          refine lv_iload_n hx hb dX11_aim_56 rfl (lv_at hl 2 rfl) ?_
          obtain ⟨q8, eq8, h⟩ := zlet_ex h
          refine z_callV (ci := 0) (As := [.int v1, .int v2]) (rest := []) (rv := none) (M1 := q8) S hw (c_X0_add l hG (zr t0 11) v1 v2 (kr_11_11 hG k0) M q8 eq8.symm) mv_X0_add lk_X11_238 (kr_11_11 hG k0) ⟨_, _, rfl⟩ (by decide) rfl rfl (Nat.le_of_ble_eq_true rfl) ⟨Nat.le_of_ble_eq_true rfl, Nat.le_of_ble_eq_true rfl⟩ hl.1 dX11_aim_57 (fun H locs hw => ?_)
          refine lv_aload_n hx hb dX11_aim_60 rfl (lv_at hl 0 rfl) ?_
          refine z_getR S hw k0 fl_X11_77 rfl dX11_aim_61 ?_
          obtain ⟨q9, eq9, h⟩ := zlet_ex h
          refine z_callV (ci := 0) (As := []) (rest := []) (rv := (some (.int q9))) (M1 := q8) S hw (c_X0_size l hG (zr t0 11) (kr_11_11 hG k0) q8 q9 eq9.symm) mv_X0_size lk_X11_237 (kr_11_11 hG k0) ⟨_, _, rfl⟩ (by decide) rfl rfl (Nat.le_of_ble_eq_true rfl) ⟨Nat.le_of_ble_eq_true rfl, Nat.le_of_ble_eq_true rfl⟩ hl.1 dX11_aim_64 (fun H locs hw => ?_)
          subst h
          exact z_ret_i S hr hlk hw dX11_aim_67
        · have h := zif_f h c7
          refine lv_aload_n hx hb dX11_aim_44 rfl (lv_at hl 0 rfl) ?_
          refine lv_bipush (v := (-6)) hx hb dX11_aim_45 (by decide) ?_
          obtain ⟨q10, eq10, h⟩ := zlet_ex h
          refine z_callV (ci := 11) (As := [.int (-6)]) (rest := []) (rv := (some (.int q10.1))) (M1 := q10.2) S hw (c_X11_refuse l hG t0 (-6) k0 M q10 eq10.symm) mv_X11_refuse lk_X11_100 k0 ⟨_, _, rfl⟩ (by decide) rfl rfl (Nat.le_of_ble_eq_true rfl) ⟨Nat.le_of_ble_eq_true rfl, Nat.le_of_ble_eq_true rfl⟩ hl.1 dX11_aim_47 (fun H locs hw => ?_)
          subst h
          exact z_ret_i S hr hlk hw dX11_aim_50
    · have h := zif_f h c3
      refine lv_aload_n hx hb dX11_aim_19 rfl (lv_at hl 0 rfl) ?_
      refine lv_bipush (v := (-4)) hx hb dX11_aim_20 (by decide) ?_
      obtain ⟨q11, eq11, h⟩ := zlet_ex h
      refine z_callV (ci := 11) (As := [.int (-4)]) (rest := []) (rv := (some (.int q11.1))) (M1 := q11.2) S hw (c_X11_refuse l hG t0 (-4) k0 M q11 eq11.symm) mv_X11_refuse lk_X11_100 k0 ⟨_, _, rfl⟩ (by decide) rfl rfl (Nat.le_of_ble_eq_true rfl) ⟨Nat.le_of_ble_eq_true rfl, Nat.le_of_ble_eq_true rfl⟩ hl.1 dX11_aim_22 (fun H locs hw => ?_)
      subst h
      exact z_ret_i S hr hlk hw dX11_aim_25
  · have h := zif_f h c2
    refine lv_aload_n hx hb dX11_aim_7 rfl (lv_at hl 0 rfl) ?_
    refine lv_iconst (v := (-1)) hx hb dX11_aim_8 (by decide) ?_
    obtain ⟨q12, eq12, h⟩ := zlet_ex h
    refine z_callV (ci := 11) (As := [.int (-1)]) (rest := []) (rv := (some (.int q12.1))) (M1 := q12.2) S hw (c_X11_refuse l hG t0 (-1) k0 M q12 eq12.symm) mv_X11_refuse lk_X11_100 k0 ⟨_, _, rfl⟩ (by decide) rfl rfl (Nat.le_of_ble_eq_true rfl) ⟨Nat.le_of_ble_eq_true rfl, Nat.le_of_ble_eq_true rfl⟩ hl.1 dX11_aim_9 (fun H locs hw => ?_)
    subst h
    exact z_ret_i S hr hlk hw dX11_aim_12
def f_X0_servedBy_5 (t0 : Nat) (v1 : Int64) (M : ZM) (K : Int32 → Option Int32) : Nat → Int32 → Int32 → Option Int32
  | 0, _, _ => none
  | n + 1, v3, v4 =>
    if (M.1 t0 2) ≤ v4 then (
      K v3) else (
      zlet (f_X11_look (zr t0 1) v4 M) fun (q2 : Int32) =>
      zlet (f_X11_look (zr t0 0) v4 M) fun (q3 : Int32) =>
      zlet (f_X11_bit v1 q3 M) fun (q4 : Int32) =>
      zlet (v3 + (q2 * q4)) fun (x5 : Int32) =>
      zlet (v4 + 1) fun (x6 : Int32) =>
      f_X0_servedBy_5 t0 v1 M K n x5 x6)

def f_X0_servedBy (t0 : Nat) (v1 : Int64) (M : ZM) : Option Int32 :=
  f_X0_servedBy_5 t0 v1 M (fun (v3 : Int32) =>
    some v3) zN 0 0
set_option maxHeartbeats 4000000 in
set_option maxRecDepth 100000 in
theorem w_X0_servedBy_5 {G : ZG} (hG : zOk G) (S : zX p (zR 1) s m args c 0 0 cX0_servedBy 5 RX0) (hr : meth.sig.returnType = (Option.some FieldType.int)) (hlk : meth.locks = false) (t0 : Nat) (v1 : Int64) (k0 : zk G t0 = 10) (M : ZM)  {K : Int32 → Option Int32} {res : Int32} (hK : ∀ (v3 : Int32), K v3 = some res → ∀ (H : Heap) (locs : List Loc) (ls : Array Slot), zWd G A s H locs M → lv_has ls 5 [(3, .int v3)] → W p l e (zR 1) s m args below meth c H locs 0 0 (zQ below G A (some (.int res)) M args s) (F0 m 46 ls [])) : ∀ (n : Nat) (v3 : Int32) (v4 : Int32), f_X0_servedBy_5 t0 v1 M K n v3 v4 = some res → ∀ (H : Heap) (locs : List Loc) (ls : Array Slot), zWd G A s H locs M → lv_has ls 5 [(0, .ref (za G t0)), (1, .long v1), (3, .int v3), (4, .int v4)] → W p l e (zR 1) s m args below meth c H locs 0 0 (zQ below G A (some (.int res)) M args s) (F0 m 5 ls []) := by
  have hx := S.1.1
  have hb := S.1.2.1
  have hown := S.1.2.2.2.1
  have hts := S.1.2.2.2.2
  intro n
  induction n with
  | zero =>
    intro v3 v4 h
    rw [f_X0_servedBy_5] at h
    cases h
  | succ n ih =>
    intro v3 v4 h H locs ls hw hl
    rw [f_X0_servedBy_5] at h
    refine lv_iload hx hb dX0_servedBy_5 (lv_at hl 3 rfl) ?_
    refine lv_aload_n hx hb dX0_servedBy_7 rfl (lv_at hl 0 rfl) ?_
    refine z_getI S hw k0 fl_X0_18 rfl dX0_servedBy_8 ?_
    refine lv_icmp_ge (tgt := 46) hx hb dX0_servedBy_11 (by decide) (fun c1 => ?_) (fun c1 => ?_)
    · have h := zif_t h c1
      exact hK v3 h H locs ls hw (lv_sub hl [2] rfl)
    · have h := zif_f h c1
      refine lv_iload_n hx hb dX0_servedBy_14 rfl (lv_at hl 2 rfl) ?_
      refine lv_aload_n hx hb dX0_servedBy_15 rfl (lv_at hl 0 rfl) ?_
      refine z_getR S hw k0 fl_X0_15 rfl dX0_servedBy_16 ?_
      refine lv_iload hx hb dX0_servedBy_19 (lv_at hl 3 rfl) ?_
      obtain ⟨q2, eq2, h⟩ := zlet_ex h
      refine z_callS (As := [.ref (za G (zr t0 1)), .int v4]) (rest := [.int v3]) (rv := (some (.int q2))) (M1 := M) S hw (c_X11_look l hG (zr t0 1) v4 (kr_0_1 hG k0) M q2 eq2.symm) mv_X11_look lk_X0_26 rfl rfl (Nat.le_of_ble_eq_true rfl) ⟨Nat.le_of_ble_eq_true rfl, Nat.le_of_ble_eq_true rfl⟩ hl.1 dX0_servedBy_21 (fun H locs hw => ?_)
      refine lv_lload_n hx hb dX0_servedBy_24 rfl (lv_at hl 1 rfl) ?_
      refine lv_aload_n hx hb dX0_servedBy_25 rfl (lv_at hl 0 rfl) ?_
      refine z_getR S hw k0 fl_X0_9 rfl dX0_servedBy_26 ?_
      refine lv_iload hx hb dX0_servedBy_29 (lv_at hl 3 rfl) ?_
      obtain ⟨q3, eq3, h⟩ := zlet_ex h
      refine z_callS (As := [.ref (za G (zr t0 0)), .int v4]) (rest := [.long v1, .int q2, .int v3]) (rv := (some (.int q3))) (M1 := M) S hw (c_X11_look l hG (zr t0 0) v4 (kr_0_0 hG k0) M q3 eq3.symm) mv_X11_look lk_X0_26 rfl rfl (Nat.le_of_ble_eq_true rfl) ⟨Nat.le_of_ble_eq_true rfl, Nat.le_of_ble_eq_true rfl⟩ hl.1 dX0_servedBy_31 (fun H locs hw => ?_)
      obtain ⟨q4, eq4, h⟩ := zlet_ex h
      refine z_callS (As := [.long v1, .int q3]) (rest := [.int q2, .int v3]) (rv := (some (.int q4))) (M1 := M) S hw (c_X11_bit l hG v1 q3 M q4 eq4.symm) mv_X11_bit lk_X0_34 rfl rfl (Nat.le_of_ble_eq_true rfl) ⟨Nat.le_of_ble_eq_true rfl, Nat.le_of_ble_eq_true rfl⟩ hl.1 dX0_servedBy_34 (fun H locs hw => ?_)
      refine lv_imul hx hb dX0_servedBy_37 ?_
      refine lv_iadd hx hb dX0_servedBy_38 ?_
      obtain ⟨x5, ex5, h⟩ := zlet_ex h
      refine lv_topiE ex5 ?_
      refine lv_istore_n (lv' := [(3, .int x5), (0, .ref (za G t0)), (1, .long v1), (4, .int v4)]) hx hb dX0_servedBy_39 rfl hl (by decide) rfl (fun ls hl => ?_)
      obtain ⟨x6, ex6, h⟩ := zlet_ex h
      refine lv_iinc (v := x6) (lv' := [(4, .int x6), (3, .int x5), (0, .ref (za G t0)), (1, .long v1)]) hx hb dX0_servedBy_40 hl (k := 3) rfl (by rw [ex6]; rfl) (by decide) rfl (fun ls hl => ?_)
      refine lv_goto (tgt := 5) hx hb dX0_servedBy_43 (by decide) ?_
      exact ih x5 x6 h H locs ls hw (lv_sub hl [2, 3, 1, 0] rfl)
set_option maxHeartbeats 4000000 in
set_option maxRecDepth 100000 in
theorem c_X0_servedBy (l : Launch) {G : ZG} (hG : zOk G) (t0 : Nat) (v1 : Int64) (k0 : zk G t0 = 10) (M : ZM) (res : Int32) (h : f_X0_servedBy t0 v1 M = some res) : zCt l yX0_servedBy cX0_servedBy 5 (Option.some FieldType.int) 1 G [.ref (za G t0), .long v1] M (some (.int res)) M := by
  refine zCt.mk (by decide +kernel) (Nat.le_of_ble_eq_true rfl) ?_
  intro p e s m args below meth c A H locs ls S hr hlk hw hl
  have S : zX p (zR 1) s m args c 0 0 cX0_servedBy 5 RX0 := S
  have hx := S.1.1
  have hb := S.1.2.1
  have hown := S.1.2.2.2.1
  have hts := S.1.2.2.2.2
  have hl : lv_has ls 5 [(0, .ref (za G t0)), (1, .long v1)] := hl
  unfold f_X0_servedBy at h
  refine lv_iconst (v := 0) hx hb dX0_servedBy_0 (by decide) ?_
  refine lv_istore_n (lv' := [(3, .int 0), (0, .ref (za G t0)), (1, .long v1)]) hx hb dX0_servedBy_1 rfl hl (by decide) rfl (fun ls hl => ?_)
  refine lv_iconst (v := 0) hx hb dX0_servedBy_2 (by decide) ?_
  refine lv_istore (lv' := [(4, .int 0), (3, .int 0), (0, .ref (za G t0)), (1, .long v1)]) hx hb dX0_servedBy_3 hl (by decide) rfl (fun ls hl => ?_)
  refine w_X0_servedBy_5 hG S hr hlk t0 v1 k0 M (fun v3 h H locs ls hw hl => ?_) zN 0 0 h H locs ls hw (lv_sub hl [2, 3, 1, 0] rfl)
  refine lv_iload_n hx hb dX0_servedBy_46 rfl (lv_at hl 0 rfl) ?_
  have h := Option.some.inj h
  subst h
  exact z_ret_i S hr hlk hw dX0_servedBy_47
def f_X11_serves (t0 : Nat) (v1 : Int32) (M : ZM) : Option (Int32 × ZM) :=
  (f_X11_spent t0 M).bind fun (q1 : (Int32 × ZM)) =>
  if q1.1 = 0 then (
    zlet (f_X11_noReading t0 v1 q1.2) fun (q3 : Int32) =>
    if q3 = 0 then (
      zlet (f_X2_meaning (zr t0 5) v1 q1.2) fun (q5 : Int64) =>
      (f_X0_servedBy (zr t0 11) q5 q1.2).bind fun (q6 : Int32) =>
      some (q6, q1.2)) else (
      zlet (f_X11_refuse t0 (-1) q1.2) fun (q7 : (Int32 × ZM)) =>
      some ((1000000000 - q7.1), q7.2))) else (
    zlet (f_X11_refuse t0 (-5) q1.2) fun (q8 : (Int32 × ZM)) =>
    some ((1000000000 - q8.1), q8.2))
set_option maxHeartbeats 4000000 in
set_option maxRecDepth 100000 in
theorem c_X11_serves (l : Launch) {G : ZG} (hG : zOk G) (t0 : Nat) (v1 : Int32) (k0 : zk G t0 = 21) (M : ZM) (res : (Int32 × ZM)) (h : f_X11_serves t0 v1 M = some res) : zCt l yX11_serves cX11_serves 2 (Option.some FieldType.int) 6 G [.ref (za G t0), .int v1] M (some (.int res.1)) res.2 := by
  refine zCt.mk (by decide +kernel) (Nat.le_of_ble_eq_true rfl) ?_
  intro p e s m args below meth c A H locs ls S hr hlk hw hl
  have S : zX p (zR 6) s m args c 0 0 cX11_serves 2 RX11 := S
  have hx := S.1.1
  have hb := S.1.2.1
  have hown := S.1.2.2.2.1
  have hts := S.1.2.2.2.2
  have hl : lv_has ls 2 [(0, .ref (za G t0)), (1, .int v1)] := hl
  unfold f_X11_serves at h
  refine lv_aload_n hx hb dX11_serves_0 rfl (lv_at hl 0 rfl) ?_
  obtain ⟨q1, eq1, h⟩ := Option.bind_eq_some_iff.mp h
  refine z_callV (ci := 11) (As := []) (rest := []) (rv := (some (.int q1.1))) (M1 := q1.2) S hw (c_X11_spent l hG t0 k0 M q1 eq1) mv_X11_spent lk_X11_126 k0 ⟨_, _, rfl⟩ (by decide) rfl rfl (Nat.le_of_ble_eq_true rfl) ⟨Nat.le_of_ble_eq_true rfl, Nat.le_of_ble_eq_true rfl⟩ hl.1 dX11_serves_1 (fun H locs hw => ?_)
  refine lv_if_eq (tgt := 17) hx hb dX11_serves_4 (by decide) (fun c2 => ?_) (fun c2 => ?_)
  · have h := zif_t h c2
    refine lv_aload_n hx hb dX11_serves_17 rfl (lv_at hl 0 rfl) ?_
    refine lv_iload_n hx hb dX11_serves_18 rfl (lv_at hl 1 rfl) ?_
    obtain ⟨q3, eq3, h⟩ := zlet_ex h
    refine z_callV (ci := 11) (As := [.int v1]) (rest := []) (rv := (some (.int q3))) (M1 := q1.2) S hw (c_X11_noReading l hG t0 v1 k0 q1.2 q3 eq3.symm) mv_X11_noReading lk_X11_130 k0 ⟨_, _, rfl⟩ (by decide) rfl rfl (Nat.le_of_ble_eq_true rfl) ⟨Nat.le_of_ble_eq_true rfl, Nat.le_of_ble_eq_true rfl⟩ hl.1 dX11_serves_19 (fun H locs hw => ?_)
    refine lv_if_eq (tgt := 34) hx hb dX11_serves_22 (by decide) (fun c4 => ?_) (fun c4 => ?_)
    · have h := zif_t h c4
      refine lv_aload_n hx hb dX11_serves_34 rfl (lv_at hl 0 rfl) ?_
      refine z_getR S hw k0 fl_X11_77 rfl dX11_serves_35 ?_
      refine lv_aload_n hx hb dX11_serves_38 rfl (lv_at hl 0 rfl) ?_
      refine z_getR S hw k0 fl_X11_39 rfl dX11_serves_39 ?_
      refine lv_iload_n hx hb dX11_serves_42 rfl (lv_at hl 1 rfl) ?_
      obtain ⟨q5, eq5, h⟩ := zlet_ex h
      refine z_callV (ci := 2) (As := [.int v1]) (rest := [.ref (za G (zr t0 11))]) (rv := (some (.long q5))) (M1 := q1.2) S hw (c_X2_meaning l hG (zr t0 5) v1 (kr_11_5 hG k0) q1.2 q5 eq5.symm) mv_X2_meaning lk_X11_148 (kr_11_5 hG k0) ⟨_, _, rfl⟩ (by decide) rfl rfl (Nat.le_of_ble_eq_true rfl) ⟨Nat.le_of_ble_eq_true rfl, Nat.le_of_ble_eq_true rfl⟩ hl.1 dX11_serves_43 (fun H locs hw => ?_)
      obtain ⟨q6, eq6, h⟩ := Option.bind_eq_some_iff.mp h
      refine z_callV (ci := 0) (As := [.long q5]) (rest := []) (rv := (some (.int q6))) (M1 := q1.2) S hw (c_X0_servedBy l hG (zr t0 11) q5 (kr_11_11 hG k0) q1.2 q6 eq6) mv_X0_servedBy lk_X11_242 (kr_11_11 hG k0) ⟨_, _, rfl⟩ (by decide) rfl rfl (Nat.le_of_ble_eq_true rfl) ⟨Nat.le_of_ble_eq_true rfl, Nat.le_of_ble_eq_true rfl⟩ hl.1 dX11_serves_46 (fun H locs hw => ?_)
      have h := Option.some.inj h
      subst h
      exact z_ret_i S hr hlk hw dX11_serves_49
    · have h := zif_f h c4
      refine lv_ldc (v := 1000000000) hx hb hown (hts _ kc_X11_241) dX11_serves_25 ?_
      refine lv_aload_n hx hb dX11_serves_27 rfl (lv_at hl 0 rfl) ?_
      refine lv_iconst (v := (-1)) hx hb dX11_serves_28 (by decide) ?_
      obtain ⟨q7, eq7, h⟩ := zlet_ex h
      refine z_callV (ci := 11) (As := [.int (-1)]) (rest := [.int 1000000000]) (rv := (some (.int q7.1))) (M1 := q7.2) S hw (c_X11_refuse l hG t0 (-1) k0 q1.2 q7 eq7.symm) mv_X11_refuse lk_X11_100 k0 ⟨_, _, rfl⟩ (by decide) rfl rfl (Nat.le_of_ble_eq_true rfl) ⟨Nat.le_of_ble_eq_true rfl, Nat.le_of_ble_eq_true rfl⟩ hl.1 dX11_serves_29 (fun H locs hw => ?_)
      refine lv_isub hx hb dX11_serves_32 ?_
      have h := Option.some.inj h
      subst h
      exact z_ret_i S hr hlk hw dX11_serves_33
  · have h := zif_f h c2
    refine lv_ldc (v := 1000000000) hx hb hown (hts _ kc_X11_241) dX11_serves_7 ?_
    refine lv_aload_n hx hb dX11_serves_9 rfl (lv_at hl 0 rfl) ?_
    refine lv_bipush (v := (-5)) hx hb dX11_serves_10 (by decide) ?_
    obtain ⟨q8, eq8, h⟩ := zlet_ex h
    refine z_callV (ci := 11) (As := [.int (-5)]) (rest := [.int 1000000000]) (rv := (some (.int q8.1))) (M1 := q8.2) S hw (c_X11_refuse l hG t0 (-5) k0 q1.2 q8 eq8.symm) mv_X11_refuse lk_X11_100 k0 ⟨_, _, rfl⟩ (by decide) rfl rfl (Nat.le_of_ble_eq_true rfl) ⟨Nat.le_of_ble_eq_true rfl, Nat.le_of_ble_eq_true rfl⟩ hl.1 dX11_serves_12 (fun H locs hw => ?_)
    refine lv_isub hx hb dX11_serves_15 ?_
    have h := Option.some.inj h
    subst h
    exact z_ret_i S hr hlk hw dX11_serves_16
def f_X11_best_18 (t0 : Nat) (K : Int32 → ZM → Option (Int32 × ZM)) : Nat → Int32 → Int32 → ZM → Option (Int32 × ZM)
  | 0, _, _, _ => none
  | n + 1, v1, v2, M =>
    zlet (f_X2_size (zr t0 5) M) fun (q3 : Int32) =>
    if q3 ≤ v2 then (
      K v1 M) else (
      zlet (f_X2_meaning (zr t0 5) v2 M) fun (q5 : Int64) =>
      (f_X0_servedBy (zr t0 11) q5 M).bind fun (q6 : Int32) =>
      zlet (f_X2_meaning (zr t0 5) v1 M) fun (q7 : Int64) =>
      (f_X0_servedBy (zr t0 11) q7 M).bind fun (q8 : Int32) =>
      if q6 ≤ q8 then (
        zlet (v2 + 1) fun (x10 : Int32) =>
        f_X11_best_18 t0 K n v1 x10 M) else (
        zlet (v2 + 1) fun (x11 : Int32) =>
        f_X11_best_18 t0 K n v2 x11 M))

def f_X11_best (t0 : Nat) (M : ZM) : Option (Int32 × ZM) :=
  (f_X11_spent t0 M).bind fun (q1 : (Int32 × ZM)) =>
  if q1.1 = 0 then (
    f_X11_best_18 t0 (fun (v1 : Int32) (M : ZM) =>
      some (v1, M)) zN 0 1 q1.2) else (
    zlet (f_X11_refuse t0 (-5) q1.2) fun (q12 : (Int32 × ZM)) =>
    some (q12.1, q12.2))
set_option maxHeartbeats 4000000 in
set_option maxRecDepth 100000 in
theorem w_X11_best_18 {G : ZG} (hG : zOk G) (S : zX p (zR 6) s m args c 0 0 cX11_best 3 RX11) (hr : meth.sig.returnType = (Option.some FieldType.int)) (hlk : meth.locks = false) (t0 : Nat) (k0 : zk G t0 = 21)  {K : Int32 → ZM → Option (Int32 × ZM)} {res : (Int32 × ZM)} (hK : ∀ (v1 : Int32) (M : ZM), K v1 M = some res → ∀ (H : Heap) (locs : List Loc) (ls : Array Slot), zWd G A s H locs M → lv_has ls 3 [(1, .int v1)] → W p l e (zR 6) s m args below meth c H locs 0 0 (zQ below G A (some (.int res.1)) res.2 args s) (F0 m 70 ls [])) : ∀ (n : Nat) (v1 : Int32) (v2 : Int32) (M : ZM), f_X11_best_18 t0 K n v1 v2 M = some res → ∀ (H : Heap) (locs : List Loc) (ls : Array Slot), zWd G A s H locs M → lv_has ls 3 [(0, .ref (za G t0)), (1, .int v1), (2, .int v2)] → W p l e (zR 6) s m args below meth c H locs 0 0 (zQ below G A (some (.int res.1)) res.2 args s) (F0 m 18 ls []) := by
  have hx := S.1.1
  have hb := S.1.2.1
  have hown := S.1.2.2.2.1
  have hts := S.1.2.2.2.2
  intro n
  induction n with
  | zero =>
    intro v1 v2 M h
    rw [f_X11_best_18] at h
    cases h
  | succ n ih =>
    intro v1 v2 M h H locs ls hw hl
    rw [f_X11_best_18] at h
    refine lv_iload_n hx hb dX11_best_18 rfl (lv_at hl 2 rfl) ?_
    refine lv_aload_n hx hb dX11_best_19 rfl (lv_at hl 0 rfl) ?_
    refine z_getR S hw k0 fl_X11_39 rfl dX11_best_20 ?_
    obtain ⟨q3, eq3, h⟩ := zlet_ex h
    refine z_callV (ci := 2) (As := []) (rest := [.int v2]) (rv := (some (.int q3))) (M1 := M) S hw (c_X2_size l hG (zr t0 5) (kr_11_5 hG k0) M q3 eq3.symm) mv_X2_size lk_X11_230 (kr_11_5 hG k0) ⟨_, _, rfl⟩ (by decide) rfl rfl (Nat.le_of_ble_eq_true rfl) ⟨Nat.le_of_ble_eq_true rfl, Nat.le_of_ble_eq_true rfl⟩ hl.1 dX11_best_23 (fun H locs hw => ?_)
    refine lv_icmp_ge (tgt := 70) hx hb dX11_best_26 (by decide) (fun c4 => ?_) (fun c4 => ?_)
    · have h := zif_t h c4
      exact hK v1 M h H locs ls hw (lv_sub hl [1] rfl)
    · have h := zif_f h c4
      refine lv_aload_n hx hb dX11_best_29 rfl (lv_at hl 0 rfl) ?_
      refine z_getR S hw k0 fl_X11_77 rfl dX11_best_30 ?_
      refine lv_aload_n hx hb dX11_best_33 rfl (lv_at hl 0 rfl) ?_
      refine z_getR S hw k0 fl_X11_39 rfl dX11_best_34 ?_
      refine lv_iload_n hx hb dX11_best_37 rfl (lv_at hl 2 rfl) ?_
      obtain ⟨q5, eq5, h⟩ := zlet_ex h
      refine z_callV (ci := 2) (As := [.int v2]) (rest := [.ref (za G (zr t0 11))]) (rv := (some (.long q5))) (M1 := M) S hw (c_X2_meaning l hG (zr t0 5) v2 (kr_11_5 hG k0) M q5 eq5.symm) mv_X2_meaning lk_X11_148 (kr_11_5 hG k0) ⟨_, _, rfl⟩ (by decide) rfl rfl (Nat.le_of_ble_eq_true rfl) ⟨Nat.le_of_ble_eq_true rfl, Nat.le_of_ble_eq_true rfl⟩ hl.1 dX11_best_38 (fun H locs hw => ?_)
      obtain ⟨q6, eq6, h⟩ := Option.bind_eq_some_iff.mp h
      refine z_callV (ci := 0) (As := [.long q5]) (rest := []) (rv := (some (.int q6))) (M1 := M) S hw (c_X0_servedBy l hG (zr t0 11) q5 (kr_11_11 hG k0) M q6 eq6) mv_X0_servedBy lk_X11_242 (kr_11_11 hG k0) ⟨_, _, rfl⟩ (by decide) rfl rfl (Nat.le_of_ble_eq_true rfl) ⟨Nat.le_of_ble_eq_true rfl, Nat.le_of_ble_eq_true rfl⟩ hl.1 dX11_best_41 (fun H locs hw => ?_)
      refine lv_aload_n hx hb dX11_best_44 rfl (lv_at hl 0 rfl) ?_
      refine z_getR S hw k0 fl_X11_77 rfl dX11_best_45 ?_
      refine lv_aload_n hx hb dX11_best_48 rfl (lv_at hl 0 rfl) ?_
      refine z_getR S hw k0 fl_X11_39 rfl dX11_best_49 ?_
      refine lv_iload_n hx hb dX11_best_52 rfl (lv_at hl 1 rfl) ?_
      obtain ⟨q7, eq7, h⟩ := zlet_ex h
      refine z_callV (ci := 2) (As := [.int v1]) (rest := [.ref (za G (zr t0 11)), .int q6]) (rv := (some (.long q7))) (M1 := M) S hw (c_X2_meaning l hG (zr t0 5) v1 (kr_11_5 hG k0) M q7 eq7.symm) mv_X2_meaning lk_X11_148 (kr_11_5 hG k0) ⟨_, _, rfl⟩ (by decide) rfl rfl (Nat.le_of_ble_eq_true rfl) ⟨Nat.le_of_ble_eq_true rfl, Nat.le_of_ble_eq_true rfl⟩ hl.1 dX11_best_53 (fun H locs hw => ?_)
      obtain ⟨q8, eq8, h⟩ := Option.bind_eq_some_iff.mp h
      refine z_callV (ci := 0) (As := [.long q7]) (rest := [.int q6]) (rv := (some (.int q8))) (M1 := M) S hw (c_X0_servedBy l hG (zr t0 11) q7 (kr_11_11 hG k0) M q8 eq8) mv_X0_servedBy lk_X11_242 (kr_11_11 hG k0) ⟨_, _, rfl⟩ (by decide) rfl rfl (Nat.le_of_ble_eq_true rfl) ⟨Nat.le_of_ble_eq_true rfl, Nat.le_of_ble_eq_true rfl⟩ hl.1 dX11_best_56 (fun H locs hw => ?_)
      refine lv_icmp_le (tgt := 64) hx hb dX11_best_59 (by decide) (fun c9 => ?_) (fun c9 => ?_)
      · have h := zif_t h c9
        obtain ⟨x10, ex10, h⟩ := zlet_ex h
        refine lv_iinc (v := x10) (lv' := [(2, .int x10), (0, .ref (za G t0)), (1, .int v1)]) hx hb dX11_best_64 hl (k := 2) rfl (by rw [ex10]; rfl) (by decide) rfl (fun ls hl => ?_)
        refine lv_goto (tgt := 18) hx hb dX11_best_67 (by decide) ?_
        exact ih v1 x10 M h H locs ls hw (lv_sub hl [1, 2, 0] rfl)
      · have h := zif_f h c9
        refine lv_iload_n hx hb dX11_best_62 rfl (lv_at hl 2 rfl) ?_
        refine lv_istore_n (lv' := [(1, .int v2), (0, .ref (za G t0)), (2, .int v2)]) hx hb dX11_best_63 rfl hl (by decide) rfl (fun ls hl => ?_)
        obtain ⟨x11, ex11, h⟩ := zlet_ex h
        refine lv_iinc (v := x11) (lv' := [(2, .int x11), (1, .int v2), (0, .ref (za G t0))]) hx hb dX11_best_64 hl (k := 2) rfl (by rw [ex11]; rfl) (by decide) rfl (fun ls hl => ?_)
        refine lv_goto (tgt := 18) hx hb dX11_best_67 (by decide) ?_
        exact ih v2 x11 M h H locs ls hw (lv_sub hl [2, 1, 0] rfl)
set_option maxHeartbeats 4000000 in
set_option maxRecDepth 100000 in
theorem c_X11_best (l : Launch) {G : ZG} (hG : zOk G) (t0 : Nat) (k0 : zk G t0 = 21) (M : ZM) (res : (Int32 × ZM)) (h : f_X11_best t0 M = some res) : zCt l yX11_best cX11_best 3 (Option.some FieldType.int) 6 G [.ref (za G t0)] M (some (.int res.1)) res.2 := by
  refine zCt.mk (by decide +kernel) (Nat.le_of_ble_eq_true rfl) ?_
  intro p e s m args below meth c A H locs ls S hr hlk hw hl
  have S : zX p (zR 6) s m args c 0 0 cX11_best 3 RX11 := S
  have hx := S.1.1
  have hb := S.1.2.1
  have hown := S.1.2.2.2.1
  have hts := S.1.2.2.2.2
  have hl : lv_has ls 3 [(0, .ref (za G t0))] := hl
  unfold f_X11_best at h
  refine lv_aload_n hx hb dX11_best_0 rfl (lv_at hl 0 rfl) ?_
  obtain ⟨q1, eq1, h⟩ := Option.bind_eq_some_iff.mp h
  refine z_callV (ci := 11) (As := []) (rest := []) (rv := (some (.int q1.1))) (M1 := q1.2) S hw (c_X11_spent l hG t0 k0 M q1 eq1) mv_X11_spent lk_X11_126 k0 ⟨_, _, rfl⟩ (by decide) rfl rfl (Nat.le_of_ble_eq_true rfl) ⟨Nat.le_of_ble_eq_true rfl, Nat.le_of_ble_eq_true rfl⟩ hl.1 dX11_best_1 (fun H locs hw => ?_)
  refine lv_if_eq (tgt := 14) hx hb dX11_best_4 (by decide) (fun c2 => ?_) (fun c2 => ?_)
  · have h := zif_t h c2
    refine lv_iconst (v := 0) hx hb dX11_best_14 (by decide) ?_
    refine lv_istore_n (lv' := [(1, .int 0), (0, .ref (za G t0))]) hx hb dX11_best_15 rfl hl (by decide) rfl (fun ls hl => ?_)
    refine lv_iconst (v := 1) hx hb dX11_best_16 (by decide) ?_
    refine lv_istore_n (lv' := [(2, .int 1), (1, .int 0), (0, .ref (za G t0))]) hx hb dX11_best_17 rfl hl (by decide) rfl (fun ls hl => ?_)
    refine w_X11_best_18 hG S hr hlk t0 k0 (fun v1 M h H locs ls hw hl => ?_) zN 0 1 q1.2 h H locs ls hw (lv_sub hl [2, 1, 0] rfl)
    refine lv_iload_n hx hb dX11_best_70 rfl (lv_at hl 0 rfl) ?_
    have h := Option.some.inj h
    subst h
    exact z_ret_i S hr hlk hw dX11_best_71
  · have h := zif_f h c2
    refine lv_aload_n hx hb dX11_best_7 rfl (lv_at hl 0 rfl) ?_
    refine lv_bipush (v := (-5)) hx hb dX11_best_8 (by decide) ?_
    obtain ⟨q12, eq12, h⟩ := zlet_ex h
    refine z_callV (ci := 11) (As := [.int (-5)]) (rest := []) (rv := (some (.int q12.1))) (M1 := q12.2) S hw (c_X11_refuse l hG t0 (-5) k0 q1.2 q12 eq12.symm) mv_X11_refuse lk_X11_100 k0 ⟨_, _, rfl⟩ (by decide) rfl rfl (Nat.le_of_ble_eq_true rfl) ⟨Nat.le_of_ble_eq_true rfl, Nat.le_of_ble_eq_true rfl⟩ hl.1 dX11_best_10 (fun H locs hw => ?_)
    have h := Option.some.inj h
    subst h
    exact z_ret_i S hr hlk hw dX11_best_13
end Z
