section Z
variable {p : Program} {l : Launch} {e : Env} {s : State} {m : MethodId} {args : Array Value} {below : List Frame} {meth : Method} {c : Code} {A : Nat → Prop}
def f_X11_refuse (t0 : Nat) (v1 : Int32) (M : ZM) : (Int32 × ZM) :=
  zlet (f_X11_look (zr t0 13) (-v1) M) fun (q1 : Int32) =>
  zlet (f_X11_put (zr t0 13) (-v1) (q1 + 1) M) fun (q2 : ZM) =>
  (v1, q2)
set_option maxHeartbeats 4000000 in
set_option maxRecDepth 100000 in
theorem c_X11_refuse (l : Launch) {G : ZG} (hG : zOk G) (t0 : Nat) (v1 : Int32) (k0 : zk G t0 = 21) (M : ZM) (res : (Int32 × ZM)) (h : f_X11_refuse t0 v1 M = res) : zCt l yX11_refuse cX11_refuse 2 (Option.some FieldType.int) 1 G [.ref (za G t0), .int v1] M (some (.int res.1)) res.2 := by
  refine zCt.mk (by decide +kernel) (Nat.le_of_ble_eq_true rfl) ?_
  intro p e s m args below meth c A H locs ls S hr hlk hw hl
  have S : zX p (zR 1) s m args c 0 0 cX11_refuse 2 RX11 := S
  have hx := S.1.1
  have hb := S.1.2.1
  have hown := S.1.2.2.2.1
  have hts := S.1.2.2.2.2
  have hl : lv_has ls 2 [(0, .ref (za G t0)), (1, .int v1)] := hl
  unfold f_X11_refuse at h
  refine lv_aload_n hx hb dX11_refuse_0 rfl (lv_at hl 0 rfl) ?_
  refine z_getR S hw k0 fl_X11_88 rfl dX11_refuse_1 ?_
  refine lv_iload_n hx hb dX11_refuse_4 rfl (lv_at hl 1 rfl) ?_
  refine lv_ineg hx hb dX11_refuse_5 ?_
  refine lv_aload_n hx hb dX11_refuse_6 rfl (lv_at hl 0 rfl) ?_
  refine z_getR S hw k0 fl_X11_88 rfl dX11_refuse_7 ?_
  refine lv_iload_n hx hb dX11_refuse_10 rfl (lv_at hl 1 rfl) ?_
  refine lv_ineg hx hb dX11_refuse_11 ?_
  obtain ⟨q1, eq1, h⟩ := zlet_ex h
  refine z_callS (As := [.ref (za G (zr t0 13)), .int (-v1)]) (rest := [.int (-v1), .ref (za G (zr t0 13))]) (rv := (some (.int q1))) (M1 := M) S hw (c_X11_look l hG (zr t0 13) (-v1) (kr_11_13 hG k0) M q1 eq1.symm) mv_X11_look lk_X11_272 rfl rfl (Nat.le_of_ble_eq_true rfl) ⟨Nat.le_of_ble_eq_true rfl, Nat.le_of_ble_eq_true rfl⟩ hl.1 dX11_refuse_12 (fun H locs hw => ?_)
  refine lv_iconst (v := 1) hx hb dX11_refuse_15 (by decide) ?_
  refine lv_iadd hx hb dX11_refuse_16 ?_
  obtain ⟨q2, eq2, h⟩ := zlet_ex h
  refine z_callS (As := [.ref (za G (zr t0 13)), .int (-v1), .int (q1 + 1)]) (rest := []) (rv := none) (M1 := q2) S hw (c_X11_put l hG (zr t0 13) (-v1) (q1 + 1) (kr_11_13 hG k0) M q2 eq2.symm) mv_X11_put lk_X11_276 rfl rfl (Nat.le_of_ble_eq_true rfl) ⟨Nat.le_of_ble_eq_true rfl, Nat.le_of_ble_eq_true rfl⟩ hl.1 dX11_refuse_17 (fun H locs hw => ?_)
  refine lv_iload_n hx hb dX11_refuse_20 rfl (lv_at hl 1 rfl) ?_
  subst h
  exact z_ret_i S hr hlk hw dX11_refuse_21
def f_X10_size (t0 : Nat) (M : ZM) : Int32 :=
  (M.1 t0 1)
set_option maxHeartbeats 4000000 in
set_option maxRecDepth 100000 in
theorem c_X10_size (l : Launch) {G : ZG} (hG : zOk G) (t0 : Nat) (k0 : zk G t0 = 20) (M : ZM) (res : Int32) (h : f_X10_size t0 M = res) : zCt l yX10_size cX10_size 1 (Option.some FieldType.int) 0 G [.ref (za G t0)] M (some (.int res)) M := by
  refine zCt.mk (by decide +kernel) (Nat.le_of_ble_eq_true rfl) ?_
  intro p e s m args below meth c A H locs ls S hr hlk hw hl
  have S : zX p (zR 0) s m args c 0 0 cX10_size 1 RX10 := S
  have hx := S.1.1
  have hb := S.1.2.1
  have hown := S.1.2.2.2.1
  have hts := S.1.2.2.2.2
  have hl : lv_has ls 1 [(0, .ref (za G t0))] := hl
  unfold f_X10_size at h
  refine lv_aload_n hx hb dX10_size_0 rfl (lv_at hl 0 rfl) ?_
  refine z_getI S hw k0 fl_X10_15 rfl dX10_size_1 ?_
  subst h
  exact z_ret_i S hr hlk hw dX10_size_4
def f_X10_add (t0 : Nat) (v1 : Int32) (M : ZM) : ZM :=
  if 21 ≤ (M.1 t0 1) then (
    M) else (
    zlet (f_X11_put (zr t0 0) (M.1 t0 1) v1 M) fun (q2 : ZM) =>
    zlet (zi q2 t0 1 ((q2.1 t0 1) + 1)) fun (M3 : ZM) =>
    M3)
set_option maxHeartbeats 4000000 in
set_option maxRecDepth 100000 in
theorem c_X10_add (l : Launch) {G : ZG} (hG : zOk G) (t0 : Nat) (v1 : Int32) (k0 : zk G t0 = 20) (M : ZM) (res : ZM) (h : f_X10_add t0 v1 M = res) : zCt l yX10_add cX10_add 2 none 1 G [.ref (za G t0), .int v1] M none res := by
  refine zCt.mk (by decide +kernel) (Nat.le_of_ble_eq_true rfl) ?_
  intro p e s m args below meth c A H locs ls S hr hlk hw hl
  have S : zX p (zR 1) s m args c 0 0 cX10_add 2 RX10 := S
  have hx := S.1.1
  have hb := S.1.2.1
  have hown := S.1.2.2.2.1
  have hts := S.1.2.2.2.2
  have hl : lv_has ls 2 [(0, .ref (za G t0)), (1, .int v1)] := hl
  unfold f_X10_add at h
  refine lv_aload_n hx hb dX10_add_0 rfl (lv_at hl 0 rfl) ?_
  refine z_getI S hw k0 fl_X10_15 rfl dX10_add_1 ?_
  refine lv_bipush (v := 21) hx hb dX10_add_4 (by decide) ?_
  refine lv_icmp_ge (tgt := 31) hx hb dX10_add_6 (by decide) (fun c1 => ?_) (fun c1 => ?_)
  · have h := zif_t h c1
    subst h
    exact z_ret_v S hr hlk hw dX10_add_31
  · have h := zif_f h c1
    refine lv_aload_n hx hb dX10_add_9 rfl (lv_at hl 0 rfl) ?_
    refine z_getR S hw k0 fl_X10_9 rfl dX10_add_10 ?_
    refine lv_aload_n hx hb dX10_add_13 rfl (lv_at hl 0 rfl) ?_
    refine z_getI S hw k0 fl_X10_15 rfl dX10_add_14 ?_
    refine lv_iload_n hx hb dX10_add_17 rfl (lv_at hl 1 rfl) ?_
    obtain ⟨q2, eq2, h⟩ := zlet_ex h
    refine z_callS (As := [.ref (za G (zr t0 0)), .int (M.1 t0 1), .int v1]) (rest := []) (rv := none) (M1 := q2) S hw (c_X11_put l hG (zr t0 0) (M.1 t0 1) v1 (kr_10_0 hG k0) M q2 eq2.symm) mv_X11_put lk_X10_23 rfl rfl (Nat.le_of_ble_eq_true rfl) ⟨Nat.le_of_ble_eq_true rfl, Nat.le_of_ble_eq_true rfl⟩ hl.1 dX10_add_18 (fun H locs hw => ?_)
    refine lv_aload_n hx hb dX10_add_21 rfl (lv_at hl 0 rfl) ?_
    refine lv_dup hx hb dX10_add_22 rfl ?_
    refine z_getI S hw k0 fl_X10_15 rfl dX10_add_23 ?_
    refine lv_iconst (v := 1) hx hb dX10_add_26 (by decide) ?_
    refine lv_iadd hx hb dX10_add_27 ?_
    obtain ⟨M3, eM3, h⟩ := zlet_ex h
    refine z_putI S hw eM3 k0 fl_X10_15 rfl (fun h => absurd h (by decide)) dX10_add_28 (fun H locs hw => ?_)
    subst h
    exact z_ret_v S hr hlk hw dX10_add_31
def f_X11_feed_42 (t0 : Nat) (v1 : Int32) (v2 : Int64) (K : ZM → Option (Int32 × ZM)) : Nat → Int32 → ZM → Option (Int32 × ZM)
  | 0, _, _ => none
  | n + 1, v4, M =>
    if v1 ≤ v4 then (
      K M) else (
      zlet (f_X10_add (zr t0 0) ((((v2).toUInt64 >>> ((((8 * v4) : Int32)).toInt64.toUInt64 &&& Int64.toUInt64 63)).toInt64 &&& 255).toInt32) M) fun (q7 : ZM) =>
      zlet (v4 + 1) fun (x8 : Int32) =>
      f_X11_feed_42 t0 v1 v2 K n x8 q7)

def f_X11_feed (t0 : Nat) (v1 : Int32) (v2 : Int64) (M : ZM) : Option (Int32 × ZM) :=
  if 1 ≤ v1 then (
    if 8 < v1 then (
      zlet (f_X11_refuse t0 (-6) M) fun (q3 : (Int32 × ZM)) =>
      some (q3.1, q3.2)) else (
      zlet (f_X10_size (zr t0 0) M) fun (q4 : Int32) =>
      if (q4 + v1) ≤ 21 then (
        f_X11_feed_42 t0 v1 v2 (fun (M : ZM) =>
          zlet (f_X10_size (zr t0 0) M) fun (q9 : Int32) =>
          some (q9, M)) zN 0 M) else (
        zlet (f_X11_refuse t0 (-6) M) fun (q10 : (Int32 × ZM)) =>
        some (q10.1, q10.2)))) else (
    zlet (f_X11_refuse t0 (-4) M) fun (q11 : (Int32 × ZM)) =>
    some (q11.1, q11.2))
set_option maxHeartbeats 4000000 in
set_option maxRecDepth 100000 in
theorem w_X11_feed_42 {G : ZG} (hG : zOk G) (S : zX p (zR 2) s m args c 0 0 cX11_feed 5 RX11) (hr : meth.sig.returnType = (Option.some FieldType.int)) (hlk : meth.locks = false) (t0 : Nat) (v1 : Int32) (v2 : Int64) (k0 : zk G t0 = 21)  {K : ZM → Option (Int32 × ZM)} {res : (Int32 × ZM)} (hK : ∀  (M : ZM), K M = some res → ∀ (H : Heap) (locs : List Loc) (ls : Array Slot), zWd G A s H locs M → lv_has ls 5 [(0, .ref (za G t0))] → W p l e (zR 2) s m args below meth c H locs 0 0 (zQ below G A (some (.int res.1)) res.2 args s) (F0 m 73 ls [])) : ∀ (n : Nat) (v4 : Int32) (M : ZM), f_X11_feed_42 t0 v1 v2 K n v4 M = some res → ∀ (H : Heap) (locs : List Loc) (ls : Array Slot), zWd G A s H locs M → lv_has ls 5 [(0, .ref (za G t0)), (1, .int v1), (2, .long v2), (4, .int v4)] → W p l e (zR 2) s m args below meth c H locs 0 0 (zQ below G A (some (.int res.1)) res.2 args s) (F0 m 42 ls []) := by
  have hx := S.1.1
  have hb := S.1.2.1
  have hown := S.1.2.2.2.1
  have hts := S.1.2.2.2.2
  intro n
  induction n with
  | zero =>
    intro v4 M h
    rw [f_X11_feed_42] at h
    cases h
  | succ n ih =>
    intro v4 M h H locs ls hw hl
    rw [f_X11_feed_42] at h
    refine lv_iload hx hb dX11_feed_42 (lv_at hl 3 rfl) ?_
    refine lv_iload_n hx hb dX11_feed_44 rfl (lv_at hl 1 rfl) ?_
    refine lv_icmp_ge (tgt := 73) hx hb dX11_feed_45 (by decide) (fun c6 => ?_) (fun c6 => ?_)
    · have h := zif_t h c6
      exact hK M h H locs ls hw (lv_sub hl [0] rfl)
    · have h := zif_f h c6
      refine lv_aload_n hx hb dX11_feed_48 rfl (lv_at hl 0 rfl) ?_
      refine z_getR S hw k0 fl_X11_10 rfl dX11_feed_49 ?_
      refine lv_lload_n hx hb dX11_feed_52 rfl (lv_at hl 2 rfl) ?_
      refine lv_bipush (v := 8) hx hb dX11_feed_53 (by decide) ?_
      refine lv_iload hx hb dX11_feed_55 (lv_at hl 3 rfl) ?_
      refine lv_imul hx hb dX11_feed_57 ?_
      refine lv_lushr (v := ((v2).toUInt64 >>> ((((8 * v4) : Int32)).toInt64.toUInt64 &&& Int64.toUInt64 63)).toInt64) hx hb dX11_feed_58 rfl ?_
      refine lv_ldc2 (v := 255) hx hb hown (hts _ kc_X11_108) dX11_feed_59 ?_
      refine lv_land hx hb dX11_feed_62 ?_
      refine lv_l2i (v := ((((v2).toUInt64 >>> ((((8 * v4) : Int32)).toInt64.toUInt64 &&& Int64.toUInt64 63)).toInt64 &&& 255).toInt32)) hx hb dX11_feed_63 rfl ?_
      obtain ⟨q7, eq7, h⟩ := zlet_ex h
      refine z_callV (ci := 10) (As := [.int ((((v2).toUInt64 >>> ((((8 * v4) : Int32)).toInt64.toUInt64 &&& Int64.toUInt64 63)).toInt64 &&& 255).toInt32)]) (rest := []) (rv := none) (M1 := q7) S hw (c_X10_add l hG (zr t0 0) ((((v2).toUInt64 >>> ((((8 * v4) : Int32)).toInt64.toUInt64 &&& Int64.toUInt64 63)).toInt64 &&& 255).toInt32) (kr_11_0 hG k0) M q7 eq7.symm) mv_X10_add lk_X11_92 (kr_11_0 hG k0) ⟨_, _, rfl⟩ (by decide) rfl rfl (Nat.le_of_ble_eq_true rfl) ⟨Nat.le_of_ble_eq_true rfl, Nat.le_of_ble_eq_true rfl⟩ hl.1 dX11_feed_64 (fun H locs hw => ?_)
      obtain ⟨x8, ex8, h⟩ := zlet_ex h
      refine lv_iinc (v := x8) (lv' := [(4, .int x8), (0, .ref (za G t0)), (1, .int v1), (2, .long v2)]) hx hb dX11_feed_67 hl (k := 3) rfl (by rw [ex8]; rfl) (by decide) rfl (fun ls hl => ?_)
      refine lv_goto (tgt := 42) hx hb dX11_feed_70 (by decide) ?_
      exact ih x8 q7 h H locs ls hw (lv_sub hl [1, 2, 3, 0] rfl)
set_option maxHeartbeats 4000000 in
set_option maxRecDepth 100000 in
theorem c_X11_feed (l : Launch) {G : ZG} (hG : zOk G) (t0 : Nat) (v1 : Int32) (v2 : Int64) (k0 : zk G t0 = 21) (M : ZM) (res : (Int32 × ZM)) (h : f_X11_feed t0 v1 v2 M = some res) : zCt l yX11_feed cX11_feed 5 (Option.some FieldType.int) 2 G [.ref (za G t0), .int v1, .long v2] M (some (.int res.1)) res.2 := by
  refine zCt.mk (by decide +kernel) (Nat.le_of_ble_eq_true rfl) ?_
  intro p e s m args below meth c A H locs ls S hr hlk hw hl
  have S : zX p (zR 2) s m args c 0 0 cX11_feed 5 RX11 := S
  have hx := S.1.1
  have hb := S.1.2.1
  have hown := S.1.2.2.2.1
  have hts := S.1.2.2.2.2
  have hl : lv_has ls 5 [(0, .ref (za G t0)), (1, .int v1), (2, .long v2)] := hl
  unfold f_X11_feed at h
  refine lv_iload_n hx hb dX11_feed_0 rfl (lv_at hl 1 rfl) ?_
  refine lv_iconst (v := 1) hx hb dX11_feed_1 (by decide) ?_
  refine lv_icmp_ge (tgt := 12) hx hb dX11_feed_2 (by decide) (fun c1 => ?_) (fun c1 => ?_)
  · have h := zif_t h c1
    refine lv_iload_n hx hb dX11_feed_12 rfl (lv_at hl 1 rfl) ?_
    refine lv_bipush (v := 8) hx hb dX11_feed_13 (by decide) ?_
    refine lv_icmp_gt (tgt := 32) hx hb dX11_feed_15 (by decide) (fun c2 => ?_) (fun c2 => ?_)
    · have h := zif_t h c2
      refine lv_aload_n hx hb dX11_feed_32 rfl (lv_at hl 0 rfl) ?_
      refine lv_bipush (v := (-6)) hx hb dX11_feed_33 (by decide) ?_
      obtain ⟨q3, eq3, h⟩ := zlet_ex h
      refine z_callV (ci := 11) (As := [.int (-6)]) (rest := []) (rv := (some (.int q3.1))) (M1 := q3.2) S hw (c_X11_refuse l hG t0 (-6) k0 M q3 eq3.symm) mv_X11_refuse lk_X11_100 k0 ⟨_, _, rfl⟩ (by decide) rfl rfl (Nat.le_of_ble_eq_true rfl) ⟨Nat.le_of_ble_eq_true rfl, Nat.le_of_ble_eq_true rfl⟩ hl.1 dX11_feed_35 (fun H locs hw => ?_)
      have h := Option.some.inj h
      subst h
      exact z_ret_i S hr hlk hw dX11_feed_38
    · have h := zif_f h c2
      refine lv_aload_n hx hb dX11_feed_18 rfl (lv_at hl 0 rfl) ?_
      refine z_getR S hw k0 fl_X11_10 rfl dX11_feed_19 ?_
      obtain ⟨q4, eq4, h⟩ := zlet_ex h
      refine z_callV (ci := 10) (As := []) (rest := []) (rv := (some (.int q4))) (M1 := M) S hw (c_X10_size l hG (zr t0 0) (kr_11_0 hG k0) M q4 eq4.symm) mv_X10_size lk_X11_104 (kr_11_0 hG k0) ⟨_, _, rfl⟩ (by decide) rfl rfl (Nat.le_of_ble_eq_true rfl) ⟨Nat.le_of_ble_eq_true rfl, Nat.le_of_ble_eq_true rfl⟩ hl.1 dX11_feed_22 (fun H locs hw => ?_)
      refine lv_iload_n hx hb dX11_feed_25 rfl (lv_at hl 1 rfl) ?_
      refine lv_iadd hx hb dX11_feed_26 ?_
      refine lv_bipush (v := 21) hx hb dX11_feed_27 (by decide) ?_
      refine lv_icmp_le (tgt := 39) hx hb dX11_feed_29 (by decide) (fun c5 => ?_) (fun c5 => ?_)
      · have h := zif_t h c5
        refine lv_iconst (v := 0) hx hb dX11_feed_39 (by decide) ?_
        refine lv_istore (lv' := [(4, .int 0), (0, .ref (za G t0)), (1, .int v1), (2, .long v2)]) hx hb dX11_feed_40 hl (by decide) rfl (fun ls hl => ?_)
        refine w_X11_feed_42 hG S hr hlk t0 v1 v2 k0 (fun M h H locs ls hw hl => ?_) zN 0 M h H locs ls hw (lv_sub hl [1, 2, 3, 0] rfl)
        refine lv_aload_n hx hb dX11_feed_73 rfl (lv_at hl 0 rfl) ?_
        refine z_getR S hw k0 fl_X11_10 rfl dX11_feed_74 ?_
        obtain ⟨q9, eq9, h⟩ := zlet_ex h
        refine z_callV (ci := 10) (As := []) (rest := []) (rv := (some (.int q9))) (M1 := M) S hw (c_X10_size l hG (zr t0 0) (kr_11_0 hG k0) M q9 eq9.symm) mv_X10_size lk_X11_104 (kr_11_0 hG k0) ⟨_, _, rfl⟩ (by decide) rfl rfl (Nat.le_of_ble_eq_true rfl) ⟨Nat.le_of_ble_eq_true rfl, Nat.le_of_ble_eq_true rfl⟩ hl.1 dX11_feed_77 (fun H locs hw => ?_)
        have h := Option.some.inj h
        subst h
        exact z_ret_i S hr hlk hw dX11_feed_80
      · have h := zif_f h c5
        refine lv_aload_n hx hb dX11_feed_32 rfl (lv_at hl 0 rfl) ?_
        refine lv_bipush (v := (-6)) hx hb dX11_feed_33 (by decide) ?_
        obtain ⟨q10, eq10, h⟩ := zlet_ex h
        refine z_callV (ci := 11) (As := [.int (-6)]) (rest := []) (rv := (some (.int q10.1))) (M1 := q10.2) S hw (c_X11_refuse l hG t0 (-6) k0 M q10 eq10.symm) mv_X11_refuse lk_X11_100 k0 ⟨_, _, rfl⟩ (by decide) rfl rfl (Nat.le_of_ble_eq_true rfl) ⟨Nat.le_of_ble_eq_true rfl, Nat.le_of_ble_eq_true rfl⟩ hl.1 dX11_feed_35 (fun H locs hw => ?_)
        have h := Option.some.inj h
        subst h
        exact z_ret_i S hr hlk hw dX11_feed_38
  · have h := zif_f h c1
    refine lv_aload_n hx hb dX11_feed_5 rfl (lv_at hl 0 rfl) ?_
    refine lv_bipush (v := (-4)) hx hb dX11_feed_6 (by decide) ?_
    obtain ⟨q11, eq11, h⟩ := zlet_ex h
    refine z_callV (ci := 11) (As := [.int (-4)]) (rest := []) (rv := (some (.int q11.1))) (M1 := q11.2) S hw (c_X11_refuse l hG t0 (-4) k0 M q11 eq11.symm) mv_X11_refuse lk_X11_100 k0 ⟨_, _, rfl⟩ (by decide) rfl rfl (Nat.le_of_ble_eq_true rfl) ⟨Nat.le_of_ble_eq_true rfl, Nat.le_of_ble_eq_true rfl⟩ hl.1 dX11_feed_8 (fun H locs hw => ?_)
    have h := Option.some.inj h
    subst h
    exact z_ret_i S hr hlk hw dX11_feed_11
def f_X10_at (t0 : Nat) (v1 : Int32) (M : ZM) : Int32 :=
  zlet (f_X11_look (zr t0 0) v1 M) fun (q1 : Int32) =>
  q1
set_option maxHeartbeats 4000000 in
set_option maxRecDepth 100000 in
theorem c_X10_at (l : Launch) {G : ZG} (hG : zOk G) (t0 : Nat) (v1 : Int32) (k0 : zk G t0 = 20) (M : ZM) (res : Int32) (h : f_X10_at t0 v1 M = res) : zCt l yX10_at cX10_at 2 (Option.some FieldType.int) 1 G [.ref (za G t0), .int v1] M (some (.int res)) M := by
  refine zCt.mk (by decide +kernel) (Nat.le_of_ble_eq_true rfl) ?_
  intro p e s m args below meth c A H locs ls S hr hlk hw hl
  have S : zX p (zR 1) s m args c 0 0 cX10_at 2 RX10 := S
  have hx := S.1.1
  have hb := S.1.2.1
  have hown := S.1.2.2.2.1
  have hts := S.1.2.2.2.2
  have hl : lv_has ls 2 [(0, .ref (za G t0)), (1, .int v1)] := hl
  unfold f_X10_at at h
  refine lv_aload_n hx hb dX10_at_0 rfl (lv_at hl 0 rfl) ?_
  refine z_getR S hw k0 fl_X10_9 rfl dX10_at_1 ?_
  refine lv_iload_n hx hb dX10_at_4 rfl (lv_at hl 1 rfl) ?_
  obtain ⟨q1, eq1, h⟩ := zlet_ex h
  refine z_callS (As := [.ref (za G (zr t0 0)), .int v1]) (rest := []) (rv := (some (.int q1))) (M1 := M) S hw (c_X11_look l hG (zr t0 0) v1 (kr_10_0 hG k0) M q1 eq1.symm) mv_X11_look lk_X10_19 rfl rfl (Nat.le_of_ble_eq_true rfl) ⟨Nat.le_of_ble_eq_true rfl, Nat.le_of_ble_eq_true rfl⟩ hl.1 dX10_at_5 (fun H locs hw => ?_)
  subst h
  exact z_ret_i S hr hlk hw dX10_at_8
def f_X11_kindOf (v0 : Int32) (M : ZM) : Int32 :=
  if v0 = 33 then (
    (1 : Int32)) else (
  if v0 = 38 then (
    (3 : Int32)) else (
  if v0 = 40 then (
    (2 : Int32)) else (
  if v0 = 45 then (
    (6 : Int32)) else (
  if v0 = 62 then (
    (5 : Int32)) else (
  if v0 = 97 then (
    (0 : Int32)) else (
  if v0 = 98 then (
    (0 : Int32)) else (
  if v0 = 99 then (
    (0 : Int32)) else (
  if v0 = 100 then (
    (0 : Int32)) else (
  if v0 = 101 then (
    (0 : Int32)) else (
  if v0 = 124 then (
    (4 : Int32)) else (
    ((-1) : Int32))))))))))))
set_option maxHeartbeats 4000000 in
set_option maxRecDepth 100000 in
theorem c_X11_kindOf (l : Launch) {G : ZG} (hG : zOk G) (v0 : Int32) (M : ZM) (res : Int32) (h : f_X11_kindOf v0 M = res) : zCt l yX11_kindOf cX11_kindOf 1 (Option.some FieldType.int) 0 G [.int v0] M (some (.int res)) M := by
  refine zCt.mk (by decide +kernel) (Nat.le_of_ble_eq_true rfl) ?_
  intro p e s m args below meth c A H locs ls S hr hlk hw hl
  have S : zX p (zR 0) s m args c 0 0 cX11_kindOf 1 RX11 := S
  have hx := S.1.1
  have hb := S.1.2.1
  have hown := S.1.2.2.2.1
  have hts := S.1.2.2.2.2
  have hl : lv_has ls 1 [(0, .int v0)] := hl
  unfold f_X11_kindOf at h
  refine lv_iload_n hx hb dX11_kindOf_0 rfl (lv_at hl 0 rfl) ?_
  rcases Decidable.em (v0 = 33) with c1 | c1
  · have h := zif_t h c1
    refine z_look S (off := 101) (by rw [c1]; decide +kernel) dX11_kindOf_1 (by decide +kernel) (tgt := 102) (by decide) ?_
    refine lv_iconst (v := 1) hx hb dX11_kindOf_102 (by decide) ?_
    subst h
    exact z_ret_i S hr hlk hw dX11_kindOf_103
  have h := zif_f h c1
  rcases Decidable.em (v0 = 38) with c2 | c2
  · have h := zif_t h c2
    refine z_look S (off := 105) (by rw [c2]; decide +kernel) dX11_kindOf_1 (by decide +kernel) (tgt := 106) (by decide) ?_
    refine lv_iconst (v := 3) hx hb dX11_kindOf_106 (by decide) ?_
    subst h
    exact z_ret_i S hr hlk hw dX11_kindOf_107
  have h := zif_f h c2
  rcases Decidable.em (v0 = 40) with c3 | c3
  · have h := zif_t h c3
    refine z_look S (off := 103) (by rw [c3]; decide +kernel) dX11_kindOf_1 (by decide +kernel) (tgt := 104) (by decide) ?_
    refine lv_iconst (v := 2) hx hb dX11_kindOf_104 (by decide) ?_
    subst h
    exact z_ret_i S hr hlk hw dX11_kindOf_105
  have h := zif_f h c3
  rcases Decidable.em (v0 = 45) with c4 | c4
  · have h := zif_t h c4
    refine z_look S (off := 111) (by rw [c4]; decide +kernel) dX11_kindOf_1 (by decide +kernel) (tgt := 112) (by decide) ?_
    refine lv_bipush (v := 6) hx hb dX11_kindOf_112 (by decide) ?_
    subst h
    exact z_ret_i S hr hlk hw dX11_kindOf_114
  have h := zif_f h c4
  rcases Decidable.em (v0 = 62) with c5 | c5
  · have h := zif_t h c5
    refine z_look S (off := 109) (by rw [c5]; decide +kernel) dX11_kindOf_1 (by decide +kernel) (tgt := 110) (by decide) ?_
    refine lv_iconst (v := 5) hx hb dX11_kindOf_110 (by decide) ?_
    subst h
    exact z_ret_i S hr hlk hw dX11_kindOf_111
  have h := zif_f h c5
  rcases Decidable.em (v0 = 97) with c6 | c6
  · have h := zif_t h c6
    refine z_look S (off := 99) (by rw [c6]; decide +kernel) dX11_kindOf_1 (by decide +kernel) (tgt := 100) (by decide) ?_
    refine lv_iconst (v := 0) hx hb dX11_kindOf_100 (by decide) ?_
    subst h
    exact z_ret_i S hr hlk hw dX11_kindOf_101
  have h := zif_f h c6
  rcases Decidable.em (v0 = 98) with c7 | c7
  · have h := zif_t h c7
    refine z_look S (off := 99) (by rw [c7]; decide +kernel) dX11_kindOf_1 (by decide +kernel) (tgt := 100) (by decide) ?_
    refine lv_iconst (v := 0) hx hb dX11_kindOf_100 (by decide) ?_
    subst h
    exact z_ret_i S hr hlk hw dX11_kindOf_101
  have h := zif_f h c7
  rcases Decidable.em (v0 = 99) with c8 | c8
  · have h := zif_t h c8
    refine z_look S (off := 99) (by rw [c8]; decide +kernel) dX11_kindOf_1 (by decide +kernel) (tgt := 100) (by decide) ?_
    refine lv_iconst (v := 0) hx hb dX11_kindOf_100 (by decide) ?_
    subst h
    exact z_ret_i S hr hlk hw dX11_kindOf_101
  have h := zif_f h c8
  rcases Decidable.em (v0 = 100) with c9 | c9
  · have h := zif_t h c9
    refine z_look S (off := 99) (by rw [c9]; decide +kernel) dX11_kindOf_1 (by decide +kernel) (tgt := 100) (by decide) ?_
    refine lv_iconst (v := 0) hx hb dX11_kindOf_100 (by decide) ?_
    subst h
    exact z_ret_i S hr hlk hw dX11_kindOf_101
  have h := zif_f h c9
  rcases Decidable.em (v0 = 101) with c10 | c10
  · have h := zif_t h c10
    refine z_look S (off := 99) (by rw [c10]; decide +kernel) dX11_kindOf_1 (by decide +kernel) (tgt := 100) (by decide) ?_
    refine lv_iconst (v := 0) hx hb dX11_kindOf_100 (by decide) ?_
    subst h
    exact z_ret_i S hr hlk hw dX11_kindOf_101
  have h := zif_f h c10
  rcases Decidable.em (v0 = 124) with c11 | c11
  · have h := zif_t h c11
    refine z_look S (off := 107) (by rw [c11]; decide +kernel) dX11_kindOf_1 (by decide +kernel) (tgt := 108) (by decide) ?_
    refine lv_iconst (v := 4) hx hb dX11_kindOf_108 (by decide) ?_
    subst h
    exact z_ret_i S hr hlk hw dX11_kindOf_109
  have h := zif_f h c11
  have nc1 := zne c1 (z := 33) (by decide)
  have nc2 := zne c2 (z := 38) (by decide)
  have nc3 := zne c3 (z := 40) (by decide)
  have nc4 := zne c4 (z := 45) (by decide)
  have nc5 := zne c5 (z := 62) (by decide)
  have nc6 := zne c6 (z := 97) (by decide)
  have nc7 := zne c7 (z := 98) (by decide)
  have nc8 := zne c8 (z := 99) (by decide)
  have nc9 := zne c9 (z := 100) (by decide)
  have nc10 := zne c10 (z := 101) (by decide)
  have nc11 := zne c11 (z := 124) (by decide)
  refine z_look S (off := 114) (by simp [Op.lookupswitch.offset, Ne.symm nc1, Ne.symm nc2, Ne.symm nc3, Ne.symm nc4, Ne.symm nc5, Ne.symm nc6, Ne.symm nc7, Ne.symm nc8, Ne.symm nc9, Ne.symm nc10, Ne.symm nc11]) dX11_kindOf_1 (by decide +kernel) (tgt := 115) (by decide) ?_
  refine lv_iconst (v := (-1)) hx hb dX11_kindOf_115 (by decide) ?_
  subst h
  exact z_ret_i S hr hlk hw dX11_kindOf_116
def f_X11_isJoin (v0 : Int32) (M : ZM) : Int32 :=
  if v0 < 3 then (
    (0 : Int32)) else (
    (1 : Int32))
set_option maxHeartbeats 4000000 in
set_option maxRecDepth 100000 in
theorem c_X11_isJoin (l : Launch) {G : ZG} (hG : zOk G) (v0 : Int32) (M : ZM) (res : Int32) (h : f_X11_isJoin v0 M = res) : zCt l yX11_isJoin cX11_isJoin 1 (Option.some FieldType.boolean) 0 G [.int v0] M (some (.int res)) M := by
  refine zCt.mk (by decide +kernel) (Nat.le_of_ble_eq_true rfl) ?_
  intro p e s m args below meth c A H locs ls S hr hlk hw hl
  have S : zX p (zR 0) s m args c 0 0 cX11_isJoin 1 RX11 := S
  have hx := S.1.1
  have hb := S.1.2.1
  have hown := S.1.2.2.2.1
  have hts := S.1.2.2.2.2
  have hl : lv_has ls 1 [(0, .int v0)] := hl
  unfold f_X11_isJoin at h
  refine lv_iload_n hx hb dX11_isJoin_0 rfl (lv_at hl 0 rfl) ?_
  refine lv_iconst (v := 3) hx hb dX11_isJoin_1 (by decide) ?_
  refine lv_icmp_lt (tgt := 9) hx hb dX11_isJoin_2 (by decide) (fun c1 => ?_) (fun c1 => ?_)
  · have h := zif_t h c1
    refine lv_iconst (v := 0) hx hb dX11_isJoin_9 (by decide) ?_
    subst h
    exact z_ret_z S hr hlk (Or.inl rfl) hw dX11_isJoin_10
  · have h := zif_f h c1
    refine lv_iconst (v := 1) hx hb dX11_isJoin_5 (by decide) ?_
    refine lv_goto (tgt := 10) hx hb dX11_isJoin_6 (by decide) ?_
    subst h
    exact z_ret_z S hr hlk (Or.inr rfl) hw dX11_isJoin_10
def f_X10_fault_6 (t0 : Nat) (M : ZM) (K : Int32 → Int32 → Option Int32) : Nat → Int32 → Int32 → Int32 → Option Int32
  | 0, _, _, _ => none
  | n + 1, v1, v2, v3 =>
    zlet (fun (v1 : Int32) (v2 : Int32) (v3 : Int32) (v4 : Int32) =>
      if v1 = 0 then (
        some v3) else (
        if v4 = 33 then (
          zlet (v3 + 1) fun (x3 : Int32) =>
          f_X10_fault_6 t0 M K n v1 v2 x3) else (
          some v3))) fun J101 =>
    zlet (fun (v1 : Int32) (v2 : Int32) (v3 : Int32) (v4 : Int32) =>
      if v1 = 0 then (
        zlet (f_X11_kindOf v4 M) fun (q5 : Int32) =>
        zlet (f_X11_isJoin q5 M) fun (q6 : Int32) =>
        if q6 = 0 then (
          J101 v1 v2 v3 v4) else (
          zlet (v3 + 1) fun (x8 : Int32) =>
          f_X10_fault_6 t0 M K n 1 v2 x8)) else (
        J101 v1 v2 v3 v4)) fun J81 =>
    zlet (fun (v1 : Int32) (v2 : Int32) (v3 : Int32) (v4 : Int32) =>
      if v1 = 0 then (
        if v4 = 41 then (
          if v2 ≤ 0 then (
            J81 v1 v2 v3 v4) else (
            zlet (v2 + (-1)) fun (x12 : Int32) =>
            zlet (v3 + 1) fun (x13 : Int32) =>
            f_X10_fault_6 t0 M K n v1 x12 x13)) else (
          J81 v1 v2 v3 v4)) else (
        J81 v1 v2 v3 v4)) fun J60 =>
    zlet (fun (v1 : Int32) (v2 : Int32) (v3 : Int32) (v4 : Int32) =>
      if v1 = 0 then (
        J60 v1 v2 v3 v4) else (
        zlet (f_X11_kindOf v4 M) fun (q15 : Int32) =>
        if q15 = 0 then (
          zlet (v3 + 1) fun (x17 : Int32) =>
          f_X10_fault_6 t0 M K n 0 v2 x17) else (
          J60 v1 v2 v3 v4))) fun J43 =>
    if (M.1 t0 1) ≤ v3 then (
      K v1 v2) else (
      zlet (f_X10_at t0 v3 M) fun (q19 : Int32) =>
      if v1 = 0 then (
        J43 v1 v2 v3 q19) else (
        if q19 = 40 then (
          if 4 ≤ v2 then (
            J43 v1 v2 v3 q19) else (
            zlet (v2 + 1) fun (x23 : Int32) =>
            zlet (v3 + 1) fun (x24 : Int32) =>
            f_X10_fault_6 t0 M K n v1 x23 x24)) else (
          J43 v1 v2 v3 q19)))

def f_X10_fault (t0 : Nat) (M : ZM) : Option Int32 :=
  f_X10_fault_6 t0 M (fun (v1 : Int32) (v2 : Int32) =>
    if v1 = 0 then (
      if v2 ≤ 0 then (
        some ((-1) : Int32)) else (
        some (M.1 t0 1))) else (
      some (M.1 t0 1))) zN 1 0 0
set_option maxHeartbeats 4000000 in
set_option maxRecDepth 100000 in
theorem w_X10_fault_6 {G : ZG} (hG : zOk G) (S : zX p (zR 2) s m args c 0 0 cX10_fault 5 RX10) (hr : meth.sig.returnType = (Option.some FieldType.int)) (hlk : meth.locks = false) (t0 : Nat) (k0 : zk G t0 = 20) (M : ZM)  {K : Int32 → Int32 → Option Int32} {res : Int32} (hK : ∀ (v1 : Int32) (v2 : Int32), K v1 v2 = some res → ∀ (H : Heap) (locs : List Loc) (ls : Array Slot), zWd G A s H locs M → lv_has ls 5 [(0, .ref (za G t0)), (1, .int v1), (2, .int v2)] → W p l e (zR 2) s m args below meth c H locs 0 0 (zQ below G A (some (.int res)) M args s) (F0 m 120 ls [])) : ∀ (n : Nat) (v1 : Int32) (v2 : Int32) (v3 : Int32), f_X10_fault_6 t0 M K n v1 v2 v3 = some res → ∀ (H : Heap) (locs : List Loc) (ls : Array Slot), zWd G A s H locs M → lv_has ls 5 [(0, .ref (za G t0)), (1, .int v1), (2, .int v2), (3, .int v3)] → W p l e (zR 2) s m args below meth c H locs 0 0 (zQ below G A (some (.int res)) M args s) (F0 m 6 ls []) := by
  have hx := S.1.1
  have hb := S.1.2.1
  have hown := S.1.2.2.2.1
  have hts := S.1.2.2.2.2
  intro n
  induction n with
  | zero =>
    intro v1 v2 v3 h
    rw [f_X10_fault_6] at h
    cases h
  | succ n ih =>
    intro v1 v2 v3 h H locs ls hw hl
    rw [f_X10_fault_6] at h
    obtain ⟨J101, hJ101, h⟩ := zlet_ex h
    have wJ101 : ∀ (v1 : Int32) (v2 : Int32) (v3 : Int32) (v4 : Int32), J101 v1 v2 v3 v4 = some res → ∀ (H : Heap) (locs : List Loc) (ls : Array Slot), zWd G A s H locs M → lv_has ls 5 [(0, .ref (za G t0)), (1, .int v1), (2, .int v2), (3, .int v3), (4, .int v4)] → W p l e (zR 2) s m args below meth c H locs 0 0 (zQ below G A (some (.int res)) M args s) (F0 m 101 ls []) := by
      intro v1 v2 v3 v4 h H locs ls hw hl
      subst hJ101
      refine lv_iload_n hx hb dX10_fault_101 rfl (lv_at hl 1 rfl) ?_
      refine lv_if_eq (tgt := 112) hx hb dX10_fault_102 (by decide) (fun c1 => ?_) (fun c1 => ?_)
      · have h := zif_t h c1
        refine lv_iload_n hx hb dX10_fault_112 rfl (lv_at hl 3 rfl) ?_
        have h := Option.some.inj h
        subst h
        exact z_ret_i S hr hlk hw dX10_fault_113
      · have h := zif_f h c1
        refine lv_iload hx hb dX10_fault_105 (lv_at hl 4 rfl) ?_
        refine lv_bipush (v := 33) hx hb dX10_fault_107 (by decide) ?_
        refine lv_icmp_eq (tgt := 114) hx hb dX10_fault_109 (by decide) (fun c2 => ?_) (fun c2 => ?_)
        · have h := zif_t h c2
          obtain ⟨x3, ex3, h⟩ := zlet_ex h
          refine lv_iinc (v := x3) (lv' := [(3, .int x3), (0, .ref (za G t0)), (1, .int v1), (2, .int v2), (4, .int v4)]) hx hb dX10_fault_114 hl (k := 3) rfl (by rw [ex3]; rfl) (by decide) rfl (fun ls hl => ?_)
          refine lv_goto (tgt := 6) hx hb dX10_fault_117 (by decide) ?_
          exact ih v1 v2 x3 h H locs ls hw (lv_sub hl [1, 2, 3, 0] rfl)
        · have h := zif_f h c2
          refine lv_iload_n hx hb dX10_fault_112 rfl (lv_at hl 3 rfl) ?_
          have h := Option.some.inj h
          subst h
          exact z_ret_i S hr hlk hw dX10_fault_113
    obtain ⟨J81, hJ81, h⟩ := zlet_ex h
    have wJ81 : ∀ (v1 : Int32) (v2 : Int32) (v3 : Int32) (v4 : Int32), J81 v1 v2 v3 v4 = some res → ∀ (H : Heap) (locs : List Loc) (ls : Array Slot), zWd G A s H locs M → lv_has ls 5 [(0, .ref (za G t0)), (1, .int v1), (2, .int v2), (3, .int v3), (4, .int v4)] → W p l e (zR 2) s m args below meth c H locs 0 0 (zQ below G A (some (.int res)) M args s) (F0 m 81 ls []) := by
      intro v1 v2 v3 v4 h H locs ls hw hl
      subst hJ81
      refine lv_iload_n hx hb dX10_fault_81 rfl (lv_at hl 1 rfl) ?_
      refine lv_if_ne (tgt := 101) hx hb dX10_fault_82 (by decide) (fun c4 => ?_) (fun c4 => ?_)
      · have h := zif_f h c4
        exact wJ101 v1 v2 v3 v4 h H locs ls hw (lv_sub hl [0, 1, 2, 3, 4] rfl)
      · have h := zif_t h c4
        refine lv_iload hx hb dX10_fault_85 (lv_at hl 4 rfl) ?_
        obtain ⟨q5, eq5, h⟩ := zlet_ex h
        refine z_callS (As := [.int v4]) (rest := []) (rv := (some (.int q5))) (M1 := M) S hw (c_X11_kindOf l hG v4 M q5 eq5.symm) mv_X11_kindOf lk_X10_38 rfl rfl (Nat.le_of_ble_eq_true rfl) ⟨Nat.le_of_ble_eq_true rfl, Nat.le_of_ble_eq_true rfl⟩ hl.1 dX10_fault_87 (fun H locs hw => ?_)
        obtain ⟨q6, eq6, h⟩ := zlet_ex h
        refine z_callS (As := [.int q5]) (rest := []) (rv := (some (.int q6))) (M1 := M) S hw (c_X11_isJoin l hG q5 M q6 eq6.symm) mv_X11_isJoin lk_X10_47 rfl rfl (Nat.le_of_ble_eq_true rfl) ⟨Nat.le_of_ble_eq_true rfl, Nat.le_of_ble_eq_true rfl⟩ hl.1 dX10_fault_90 (fun H locs hw => ?_)
        refine lv_if_eq (tgt := 101) hx hb dX10_fault_93 (by decide) (fun c7 => ?_) (fun c7 => ?_)
        · have h := zif_t h c7
          exact wJ101 v1 v2 v3 v4 h H locs ls hw (lv_sub hl [0, 1, 2, 3, 4] rfl)
        · have h := zif_f h c7
          refine lv_iconst (v := 1) hx hb dX10_fault_96 (by decide) ?_
          refine lv_istore_n (lv' := [(1, .int 1), (0, .ref (za G t0)), (2, .int v2), (3, .int v3), (4, .int v4)]) hx hb dX10_fault_97 rfl hl (by decide) rfl (fun ls hl => ?_)
          refine lv_goto (tgt := 114) hx hb dX10_fault_98 (by decide) ?_
          obtain ⟨x8, ex8, h⟩ := zlet_ex h
          refine lv_iinc (v := x8) (lv' := [(3, .int x8), (1, .int 1), (0, .ref (za G t0)), (2, .int v2), (4, .int v4)]) hx hb dX10_fault_114 hl (k := 3) rfl (by rw [ex8]; rfl) (by decide) rfl (fun ls hl => ?_)
          refine lv_goto (tgt := 6) hx hb dX10_fault_117 (by decide) ?_
          exact ih 1 v2 x8 h H locs ls hw (lv_sub hl [2, 1, 3, 0] rfl)
    obtain ⟨J60, hJ60, h⟩ := zlet_ex h
    have wJ60 : ∀ (v1 : Int32) (v2 : Int32) (v3 : Int32) (v4 : Int32), J60 v1 v2 v3 v4 = some res → ∀ (H : Heap) (locs : List Loc) (ls : Array Slot), zWd G A s H locs M → lv_has ls 5 [(0, .ref (za G t0)), (1, .int v1), (2, .int v2), (3, .int v3), (4, .int v4)] → W p l e (zR 2) s m args below meth c H locs 0 0 (zQ below G A (some (.int res)) M args s) (F0 m 60 ls []) := by
      intro v1 v2 v3 v4 h H locs ls hw hl
      subst hJ60
      refine lv_iload_n hx hb dX10_fault_60 rfl (lv_at hl 1 rfl) ?_
      refine lv_if_ne (tgt := 81) hx hb dX10_fault_61 (by decide) (fun c9 => ?_) (fun c9 => ?_)
      · have h := zif_f h c9
        exact wJ81 v1 v2 v3 v4 h H locs ls hw (lv_sub hl [0, 1, 2, 3, 4] rfl)
      · have h := zif_t h c9
        refine lv_iload hx hb dX10_fault_64 (lv_at hl 4 rfl) ?_
        refine lv_bipush (v := 41) hx hb dX10_fault_66 (by decide) ?_
        refine lv_icmp_ne (tgt := 81) hx hb dX10_fault_68 (by decide) (fun c10 => ?_) (fun c10 => ?_)
        · have h := zif_f h c10
          exact wJ81 v1 v2 v3 v4 h H locs ls hw (lv_sub hl [0, 1, 2, 3, 4] rfl)
        · have h := zif_t h c10
          refine lv_iload_n hx hb dX10_fault_71 rfl (lv_at hl 2 rfl) ?_
          refine lv_if_le (tgt := 81) hx hb dX10_fault_72 (by decide) (fun c11 => ?_) (fun c11 => ?_)
          · have h := zif_t h c11
            exact wJ81 v1 v2 v3 v4 h H locs ls hw (lv_sub hl [0, 1, 2, 3, 4] rfl)
          · have h := zif_f h c11
            obtain ⟨x12, ex12, h⟩ := zlet_ex h
            refine lv_iinc (v := x12) (lv' := [(2, .int x12), (0, .ref (za G t0)), (1, .int v1), (3, .int v3), (4, .int v4)]) hx hb dX10_fault_75 hl (k := 2) rfl (by rw [ex12]; rfl) (by decide) rfl (fun ls hl => ?_)
            refine lv_goto (tgt := 114) hx hb dX10_fault_78 (by decide) ?_
            obtain ⟨x13, ex13, h⟩ := zlet_ex h
            refine lv_iinc (v := x13) (lv' := [(3, .int x13), (2, .int x12), (0, .ref (za G t0)), (1, .int v1), (4, .int v4)]) hx hb dX10_fault_114 hl (k := 3) rfl (by rw [ex13]; rfl) (by decide) rfl (fun ls hl => ?_)
            refine lv_goto (tgt := 6) hx hb dX10_fault_117 (by decide) ?_
            exact ih v1 x12 x13 h H locs ls hw (lv_sub hl [2, 3, 1, 0] rfl)
    obtain ⟨J43, hJ43, h⟩ := zlet_ex h
    have wJ43 : ∀ (v1 : Int32) (v2 : Int32) (v3 : Int32) (v4 : Int32), J43 v1 v2 v3 v4 = some res → ∀ (H : Heap) (locs : List Loc) (ls : Array Slot), zWd G A s H locs M → lv_has ls 5 [(0, .ref (za G t0)), (1, .int v1), (2, .int v2), (3, .int v3), (4, .int v4)] → W p l e (zR 2) s m args below meth c H locs 0 0 (zQ below G A (some (.int res)) M args s) (F0 m 43 ls []) := by
      intro v1 v2 v3 v4 h H locs ls hw hl
      subst hJ43
      refine lv_iload_n hx hb dX10_fault_43 rfl (lv_at hl 1 rfl) ?_
      refine lv_if_eq (tgt := 60) hx hb dX10_fault_44 (by decide) (fun c14 => ?_) (fun c14 => ?_)
      · have h := zif_t h c14
        exact wJ60 v1 v2 v3 v4 h H locs ls hw (lv_sub hl [0, 1, 2, 3, 4] rfl)
      · have h := zif_f h c14
        refine lv_iload hx hb dX10_fault_47 (lv_at hl 4 rfl) ?_
        obtain ⟨q15, eq15, h⟩ := zlet_ex h
        refine z_callS (As := [.int v4]) (rest := []) (rv := (some (.int q15))) (M1 := M) S hw (c_X11_kindOf l hG v4 M q15 eq15.symm) mv_X11_kindOf lk_X10_38 rfl rfl (Nat.le_of_ble_eq_true rfl) ⟨Nat.le_of_ble_eq_true rfl, Nat.le_of_ble_eq_true rfl⟩ hl.1 dX10_fault_49 (fun H locs hw => ?_)
        refine lv_if_ne (tgt := 60) hx hb dX10_fault_52 (by decide) (fun c16 => ?_) (fun c16 => ?_)
        · have h := zif_f h c16
          exact wJ60 v1 v2 v3 v4 h H locs ls hw (lv_sub hl [0, 1, 2, 3, 4] rfl)
        · have h := zif_t h c16
          refine lv_iconst (v := 0) hx hb dX10_fault_55 (by decide) ?_
          refine lv_istore_n (lv' := [(1, .int 0), (0, .ref (za G t0)), (2, .int v2), (3, .int v3), (4, .int v4)]) hx hb dX10_fault_56 rfl hl (by decide) rfl (fun ls hl => ?_)
          refine lv_goto (tgt := 114) hx hb dX10_fault_57 (by decide) ?_
          obtain ⟨x17, ex17, h⟩ := zlet_ex h
          refine lv_iinc (v := x17) (lv' := [(3, .int x17), (1, .int 0), (0, .ref (za G t0)), (2, .int v2), (4, .int v4)]) hx hb dX10_fault_114 hl (k := 3) rfl (by rw [ex17]; rfl) (by decide) rfl (fun ls hl => ?_)
          refine lv_goto (tgt := 6) hx hb dX10_fault_117 (by decide) ?_
          exact ih 0 v2 x17 h H locs ls hw (lv_sub hl [2, 1, 3, 0] rfl)
    refine lv_iload_n hx hb dX10_fault_6 rfl (lv_at hl 3 rfl) ?_
    refine lv_aload_n hx hb dX10_fault_7 rfl (lv_at hl 0 rfl) ?_
    refine z_getI S hw k0 fl_X10_15 rfl dX10_fault_8 ?_
    refine lv_icmp_ge (tgt := 120) hx hb dX10_fault_11 (by decide) (fun c18 => ?_) (fun c18 => ?_)
    · have h := zif_t h c18
      exact hK v1 v2 h H locs ls hw (lv_sub hl [0, 1, 2] rfl)
    · have h := zif_f h c18
      refine lv_aload_n hx hb dX10_fault_14 rfl (lv_at hl 0 rfl) ?_
      refine lv_iload_n hx hb dX10_fault_15 rfl (lv_at hl 3 rfl) ?_
      obtain ⟨q19, eq19, h⟩ := zlet_ex h
      refine z_callV (ci := 10) (As := [.int v3]) (rest := []) (rv := (some (.int q19))) (M1 := M) S hw (c_X10_at l hG t0 v3 k0 M q19 eq19.symm) mv_X10_at lk_X10_30 k0 ⟨_, _, rfl⟩ (by decide) rfl rfl (Nat.le_of_ble_eq_true rfl) ⟨Nat.le_of_ble_eq_true rfl, Nat.le_of_ble_eq_true rfl⟩ hl.1 dX10_fault_16 (fun H locs hw => ?_)
      refine lv_istore (lv' := [(4, .int q19), (0, .ref (za G t0)), (1, .int v1), (2, .int v2), (3, .int v3)]) hx hb dX10_fault_19 hl (by decide) rfl (fun ls hl => ?_)
      refine lv_iload_n hx hb dX10_fault_21 rfl (lv_at hl 2 rfl) ?_
      refine lv_if_eq (tgt := 43) hx hb dX10_fault_22 (by decide) (fun c20 => ?_) (fun c20 => ?_)
      · have h := zif_t h c20
        exact wJ43 v1 v2 v3 q19 h H locs ls hw (lv_sub hl [1, 2, 3, 4, 0] rfl)
      · have h := zif_f h c20
        refine lv_iload hx hb dX10_fault_25 (lv_at hl 0 rfl) ?_
        refine lv_bipush (v := 40) hx hb dX10_fault_27 (by decide) ?_
        refine lv_icmp_ne (tgt := 43) hx hb dX10_fault_29 (by decide) (fun c21 => ?_) (fun c21 => ?_)
        · have h := zif_f h c21
          exact wJ43 v1 v2 v3 q19 h H locs ls hw (lv_sub hl [1, 2, 3, 4, 0] rfl)
        · have h := zif_t h c21
          refine lv_iload_n hx hb dX10_fault_32 rfl (lv_at hl 3 rfl) ?_
          refine lv_iconst (v := 4) hx hb dX10_fault_33 (by decide) ?_
          refine lv_icmp_ge (tgt := 43) hx hb dX10_fault_34 (by decide) (fun c22 => ?_) (fun c22 => ?_)
          · have h := zif_t h c22
            exact wJ43 v1 v2 v3 q19 h H locs ls hw (lv_sub hl [1, 2, 3, 4, 0] rfl)
          · have h := zif_f h c22
            obtain ⟨x23, ex23, h⟩ := zlet_ex h
            refine lv_iinc (v := x23) (lv' := [(2, .int x23), (4, .int q19), (0, .ref (za G t0)), (1, .int v1), (3, .int v3)]) hx hb dX10_fault_37 hl (k := 3) rfl (by rw [ex23]; rfl) (by decide) rfl (fun ls hl => ?_)
            refine lv_goto (tgt := 114) hx hb dX10_fault_40 (by decide) ?_
            obtain ⟨x24, ex24, h⟩ := zlet_ex h
            refine lv_iinc (v := x24) (lv' := [(3, .int x24), (2, .int x23), (4, .int q19), (0, .ref (za G t0)), (1, .int v1)]) hx hb dX10_fault_114 hl (k := 4) rfl (by rw [ex24]; rfl) (by decide) rfl (fun ls hl => ?_)
            refine lv_goto (tgt := 6) hx hb dX10_fault_117 (by decide) ?_
            exact ih v1 x23 x24 h H locs ls hw (lv_sub hl [3, 4, 1, 0] rfl)
set_option maxHeartbeats 4000000 in
set_option maxRecDepth 100000 in
theorem c_X10_fault (l : Launch) {G : ZG} (hG : zOk G) (t0 : Nat) (k0 : zk G t0 = 20) (M : ZM) (res : Int32) (h : f_X10_fault t0 M = some res) : zCt l yX10_fault cX10_fault 5 (Option.some FieldType.int) 2 G [.ref (za G t0)] M (some (.int res)) M := by
  refine zCt.mk (by decide +kernel) (Nat.le_of_ble_eq_true rfl) ?_
  intro p e s m args below meth c A H locs ls S hr hlk hw hl
  have S : zX p (zR 2) s m args c 0 0 cX10_fault 5 RX10 := S
  have hx := S.1.1
  have hb := S.1.2.1
  have hown := S.1.2.2.2.1
  have hts := S.1.2.2.2.2
  have hl : lv_has ls 5 [(0, .ref (za G t0))] := hl
  unfold f_X10_fault at h
  refine lv_iconst (v := 1) hx hb dX10_fault_0 (by decide) ?_
  refine lv_istore_n (lv' := [(1, .int 1), (0, .ref (za G t0))]) hx hb dX10_fault_1 rfl hl (by decide) rfl (fun ls hl => ?_)
  refine lv_iconst (v := 0) hx hb dX10_fault_2 (by decide) ?_
  refine lv_istore_n (lv' := [(2, .int 0), (1, .int 1), (0, .ref (za G t0))]) hx hb dX10_fault_3 rfl hl (by decide) rfl (fun ls hl => ?_)
  refine lv_iconst (v := 0) hx hb dX10_fault_4 (by decide) ?_
  refine lv_istore_n (lv' := [(3, .int 0), (2, .int 0), (1, .int 1), (0, .ref (za G t0))]) hx hb dX10_fault_5 rfl hl (by decide) rfl (fun ls hl => ?_)
  refine w_X10_fault_6 hG S hr hlk t0 k0 M (fun v1 v2 h H locs ls hw hl => ?_) zN 1 0 0 h H locs ls hw (lv_sub hl [3, 2, 1, 0] rfl)
  refine lv_iload_n hx hb dX10_fault_120 rfl (lv_at hl 1 rfl) ?_
  refine lv_if_ne (tgt := 128) hx hb dX10_fault_121 (by decide) (fun c25 => ?_) (fun c25 => ?_)
  · have h := zif_f h c25
    refine lv_aload_n hx hb dX10_fault_128 rfl (lv_at hl 0 rfl) ?_
    refine z_getI S hw k0 fl_X10_15 rfl dX10_fault_129 ?_
    refine lv_goto (tgt := 136) hx hb dX10_fault_132 (by decide) ?_
    have h := Option.some.inj h
    subst h
    exact z_ret_i S hr hlk hw dX10_fault_136
  · have h := zif_t h c25
    refine lv_iload_n hx hb dX10_fault_124 rfl (lv_at hl 2 rfl) ?_
    refine lv_if_le (tgt := 135) hx hb dX10_fault_125 (by decide) (fun c26 => ?_) (fun c26 => ?_)
    · have h := zif_t h c26
      refine lv_iconst (v := (-1)) hx hb dX10_fault_135 (by decide) ?_
      have h := Option.some.inj h
      subst h
      exact z_ret_i S hr hlk hw dX10_fault_136
    · have h := zif_f h c26
      refine lv_aload_n hx hb dX10_fault_128 rfl (lv_at hl 0 rfl) ?_
      refine z_getI S hw k0 fl_X10_15 rfl dX10_fault_129 ?_
      refine lv_goto (tgt := 136) hx hb dX10_fault_132 (by decide) ?_
      have h := Option.some.inj h
      subst h
      exact z_ret_i S hr hlk hw dX10_fault_136
def f_X10_clear (t0 : Nat) (M : ZM) : ZM :=
  zlet (zi M t0 1 0) fun (M1 : ZM) =>
  M1
set_option maxHeartbeats 4000000 in
set_option maxRecDepth 100000 in
theorem c_X10_clear (l : Launch) {G : ZG} (hG : zOk G) (t0 : Nat) (k0 : zk G t0 = 20) (M : ZM) (res : ZM) (h : f_X10_clear t0 M = res) : zCt l yX10_clear cX10_clear 1 none 0 G [.ref (za G t0)] M none res := by
  refine zCt.mk (by decide +kernel) (Nat.le_of_ble_eq_true rfl) ?_
  intro p e s m args below meth c A H locs ls S hr hlk hw hl
  have S : zX p (zR 0) s m args c 0 0 cX10_clear 1 RX10 := S
  have hx := S.1.1
  have hb := S.1.2.1
  have hown := S.1.2.2.2.1
  have hts := S.1.2.2.2.2
  have hl : lv_has ls 1 [(0, .ref (za G t0))] := hl
  unfold f_X10_clear at h
  refine lv_aload_n hx hb dX10_clear_0 rfl (lv_at hl 0 rfl) ?_
  refine lv_iconst (v := 0) hx hb dX10_clear_1 (by decide) ?_
  obtain ⟨M1, eM1, h⟩ := zlet_ex h
  refine z_putI S hw eM1 k0 fl_X10_15 rfl (fun h => absurd h (by decide)) dX10_clear_2 (fun H locs hw => ?_)
  subst h
  exact z_ret_v S hr hlk hw dX10_clear_5
def f_X10_become_6 (t0 : Nat) (t1 : Nat) (K : ZM → Option ZM) : Nat → Int32 → ZM → Option ZM
  | 0, _, _ => none
  | n + 1, v2, M =>
    if (M.1 t1 1) ≤ v2 then (
      K M) else (
      zlet (f_X10_at t1 v2 M) fun (q3 : Int32) =>
      zlet (f_X10_add t0 q3 M) fun (q4 : ZM) =>
      zlet (v2 + 1) fun (x5 : Int32) =>
      f_X10_become_6 t0 t1 K n x5 q4)

def f_X10_become (t0 : Nat) (t1 : Nat) (M : ZM) : Option ZM :=
  zlet (f_X10_clear t0 M) fun (q1 : ZM) =>
  f_X10_become_6 t0 t1 (fun (M : ZM) =>
    some M) zN 0 q1
set_option maxHeartbeats 4000000 in
set_option maxRecDepth 100000 in
theorem w_X10_become_6 {G : ZG} (hG : zOk G) (S : zX p (zR 2) s m args c 0 0 cX10_become 3 RX10) (hr : meth.sig.returnType = none) (hlk : meth.locks = false) (t0 : Nat) (t1 : Nat) (k0 : zk G t0 = 20) (k1 : zk G t1 = 20)  {K : ZM → Option ZM} {res : ZM} (hK : ∀  (M : ZM), K M = some res → ∀ (H : Heap) (locs : List Loc) (ls : Array Slot), zWd G A s H locs M → lv_has ls 3 [] → W p l e (zR 2) s m args below meth c H locs 0 0 (zQ below G A none res args s) (F0 m 29 ls [])) : ∀ (n : Nat) (v2 : Int32) (M : ZM), f_X10_become_6 t0 t1 K n v2 M = some res → ∀ (H : Heap) (locs : List Loc) (ls : Array Slot), zWd G A s H locs M → lv_has ls 3 [(0, .ref (za G t0)), (1, .ref (za G t1)), (2, .int v2)] → W p l e (zR 2) s m args below meth c H locs 0 0 (zQ below G A none res args s) (F0 m 6 ls []) := by
  have hx := S.1.1
  have hb := S.1.2.1
  have hown := S.1.2.2.2.1
  have hts := S.1.2.2.2.2
  intro n
  induction n with
  | zero =>
    intro v2 M h
    rw [f_X10_become_6] at h
    cases h
  | succ n ih =>
    intro v2 M h H locs ls hw hl
    rw [f_X10_become_6] at h
    refine lv_iload_n hx hb dX10_become_6 rfl (lv_at hl 2 rfl) ?_
    refine lv_aload_n hx hb dX10_become_7 rfl (lv_at hl 1 rfl) ?_
    refine z_getI S hw k1 fl_X10_15 rfl dX10_become_8 ?_
    refine lv_icmp_ge (tgt := 29) hx hb dX10_become_11 (by decide) (fun c2 => ?_) (fun c2 => ?_)
    · have h := zif_t h c2
      exact hK M h H locs ls hw (lv_sub hl [] rfl)
    · have h := zif_f h c2
      refine lv_aload_n hx hb dX10_become_14 rfl (lv_at hl 0 rfl) ?_
      refine lv_aload_n hx hb dX10_become_15 rfl (lv_at hl 1 rfl) ?_
      refine lv_iload_n hx hb dX10_become_16 rfl (lv_at hl 2 rfl) ?_
      obtain ⟨q3, eq3, h⟩ := zlet_ex h
      refine z_callV (ci := 10) (As := [.int v2]) (rest := [.ref (za G t0)]) (rv := (some (.int q3))) (M1 := M) S hw (c_X10_at l hG t1 v2 k1 M q3 eq3.symm) mv_X10_at lk_X10_30 k1 ⟨_, _, rfl⟩ (by decide) rfl rfl (Nat.le_of_ble_eq_true rfl) ⟨Nat.le_of_ble_eq_true rfl, Nat.le_of_ble_eq_true rfl⟩ hl.1 dX10_become_17 (fun H locs hw => ?_)
      obtain ⟨q4, eq4, h⟩ := zlet_ex h
      refine z_callV (ci := 10) (As := [.int q3]) (rest := []) (rv := none) (M1 := q4) S hw (c_X10_add l hG t0 q3 k0 M q4 eq4.symm) mv_X10_add lk_X10_34 k0 ⟨_, _, rfl⟩ (by decide) rfl rfl (Nat.le_of_ble_eq_true rfl) ⟨Nat.le_of_ble_eq_true rfl, Nat.le_of_ble_eq_true rfl⟩ hl.1 dX10_become_20 (fun H locs hw => ?_)
      obtain ⟨x5, ex5, h⟩ := zlet_ex h
      refine lv_iinc (v := x5) (lv' := [(2, .int x5), (0, .ref (za G t0)), (1, .ref (za G t1))]) hx hb dX10_become_23 hl (k := 2) rfl (by rw [ex5]; rfl) (by decide) rfl (fun ls hl => ?_)
      refine lv_goto (tgt := 6) hx hb dX10_become_26 (by decide) ?_
      exact ih x5 q4 h H locs ls hw (lv_sub hl [1, 2, 0] rfl)
set_option maxHeartbeats 4000000 in
set_option maxRecDepth 100000 in
theorem c_X10_become (l : Launch) {G : ZG} (hG : zOk G) (t0 : Nat) (t1 : Nat) (k0 : zk G t0 = 20) (k1 : zk G t1 = 20) (M : ZM) (res : ZM) (h : f_X10_become t0 t1 M = some res) : zCt l yX10_become cX10_become 3 none 2 G [.ref (za G t0), .ref (za G t1)] M none res := by
  refine zCt.mk (by decide +kernel) (Nat.le_of_ble_eq_true rfl) ?_
  intro p e s m args below meth c A H locs ls S hr hlk hw hl
  have S : zX p (zR 2) s m args c 0 0 cX10_become 3 RX10 := S
  have hx := S.1.1
  have hb := S.1.2.1
  have hown := S.1.2.2.2.1
  have hts := S.1.2.2.2.2
  have hl : lv_has ls 3 [(0, .ref (za G t0)), (1, .ref (za G t1))] := hl
  unfold f_X10_become at h
  refine lv_aload_n hx hb dX10_become_0 rfl (lv_at hl 0 rfl) ?_
  obtain ⟨q1, eq1, h⟩ := zlet_ex h
  refine z_callV (ci := 10) (As := []) (rest := []) (rv := none) (M1 := q1) S hw (c_X10_clear l hG t0 k0 M q1 eq1.symm) mv_X10_clear lk_X10_27 k0 ⟨_, _, rfl⟩ (by decide) rfl rfl (Nat.le_of_ble_eq_true rfl) ⟨Nat.le_of_ble_eq_true rfl, Nat.le_of_ble_eq_true rfl⟩ hl.1 dX10_become_1 (fun H locs hw => ?_)
  refine lv_iconst (v := 0) hx hb dX10_become_4 (by decide) ?_
  refine lv_istore_n (lv' := [(2, .int 0), (0, .ref (za G t0)), (1, .ref (za G t1))]) hx hb dX10_become_5 rfl hl (by decide) rfl (fun ls hl => ?_)
  refine w_X10_become_6 hG S hr hlk t0 t1 k0 k1 (fun M h H locs ls hw hl => ?_) zN 0 q1 h H locs ls hw (lv_sub hl [1, 2, 0] rfl)
  have h := Option.some.inj h
  subst h
  exact z_ret_v S hr hlk hw dX10_become_29
def f_X10_closeAfter_4 (t0 : Nat) (M : ZM) (K : Option Int32) : Nat → Int32 → Int32 → Option Int32
  | 0, _, _ => none
  | n + 1, v2, v3 =>
    zlet (fun (v2 : Int32) (v3 : Int32) =>
      if 0 ≤ v2 then (
        zlet (v3 + 1) fun (x2 : Int32) =>
        f_X10_closeAfter_4 t0 M K n v2 x2) else (
        some v3)) fun J45 =>
    if (M.1 t0 1) ≤ v3 then (
      K) else (
      zlet (f_X11_look (zr t0 0) v3 M) fun (q4 : Int32) =>
      if q4 = 40 then (
        zlet (v2 + 1) fun (x8 : Int32) =>
        J45 x8 v3) else (
        if q4 = 41 then (
          zlet (v2 + (-1)) fun (x7 : Int32) =>
          J45 x7 v3) else (
          J45 v2 v3)))

def f_X10_closeAfter (t0 : Nat) (v1 : Int32) (M : ZM) : Option Int32 :=
  f_X10_closeAfter_4 t0 M (
    some (M.1 t0 1)) zN 0 v1
set_option maxHeartbeats 4000000 in
set_option maxRecDepth 100000 in
theorem w_X10_closeAfter_4 {G : ZG} (hG : zOk G) (S : zX p (zR 1) s m args c 0 0 cX10_closeAfter 5 RX10) (hr : meth.sig.returnType = (Option.some FieldType.int)) (hlk : meth.locks = false) (t0 : Nat) (k0 : zk G t0 = 20) (M : ZM)  {K : Option Int32} {res : Int32} (hK : K = some res → ∀ (H : Heap) (locs : List Loc) (ls : Array Slot), zWd G A s H locs M → lv_has ls 5 [(0, .ref (za G t0))] → W p l e (zR 1) s m args below meth c H locs 0 0 (zQ below G A (some (.int res)) M args s) (F0 m 57 ls [])) : ∀ (n : Nat) (v2 : Int32) (v3 : Int32), f_X10_closeAfter_4 t0 M K n v2 v3 = some res → ∀ (H : Heap) (locs : List Loc) (ls : Array Slot), zWd G A s H locs M → lv_has ls 5 [(0, .ref (za G t0)), (2, .int v2), (3, .int v3)] → W p l e (zR 1) s m args below meth c H locs 0 0 (zQ below G A (some (.int res)) M args s) (F0 m 4 ls []) := by
  have hx := S.1.1
  have hb := S.1.2.1
  have hown := S.1.2.2.2.1
  have hts := S.1.2.2.2.2
  intro n
  induction n with
  | zero =>
    intro v2 v3 h
    rw [f_X10_closeAfter_4] at h
    cases h
  | succ n ih =>
    intro v2 v3 h H locs ls hw hl
    rw [f_X10_closeAfter_4] at h
    obtain ⟨J45, hJ45, h⟩ := zlet_ex h
    have wJ45 : ∀ (v2 : Int32) (v3 : Int32), J45 v2 v3 = some res → ∀ (H : Heap) (locs : List Loc) (ls : Array Slot), zWd G A s H locs M → lv_has ls 5 [(0, .ref (za G t0)), (2, .int v2), (3, .int v3)] → W p l e (zR 1) s m args below meth c H locs 0 0 (zQ below G A (some (.int res)) M args s) (F0 m 45 ls []) := by
      intro v2 v3 h H locs ls hw hl
      subst hJ45
      refine lv_iload_n hx hb dX10_closeAfter_45 rfl (lv_at hl 1 rfl) ?_
      refine lv_if_ge (tgt := 51) hx hb dX10_closeAfter_46 (by decide) (fun c1 => ?_) (fun c1 => ?_)
      · have h := zif_t h c1
        obtain ⟨x2, ex2, h⟩ := zlet_ex h
        refine lv_iinc (v := x2) (lv' := [(3, .int x2), (0, .ref (za G t0)), (2, .int v2)]) hx hb dX10_closeAfter_51 hl (k := 2) rfl (by rw [ex2]; rfl) (by decide) rfl (fun ls hl => ?_)
        refine lv_goto (tgt := 4) hx hb dX10_closeAfter_54 (by decide) ?_
        exact ih v2 x2 h H locs ls hw (lv_sub hl [1, 2, 0] rfl)
      · have h := zif_f h c1
        refine lv_iload_n hx hb dX10_closeAfter_49 rfl (lv_at hl 2 rfl) ?_
        have h := Option.some.inj h
        subst h
        exact z_ret_i S hr hlk hw dX10_closeAfter_50
    refine lv_iload_n hx hb dX10_closeAfter_4 rfl (lv_at hl 2 rfl) ?_
    refine lv_aload_n hx hb dX10_closeAfter_5 rfl (lv_at hl 0 rfl) ?_
    refine z_getI S hw k0 fl_X10_15 rfl dX10_closeAfter_6 ?_
    refine lv_icmp_ge (tgt := 57) hx hb dX10_closeAfter_9 (by decide) (fun c3 => ?_) (fun c3 => ?_)
    · have h := zif_t h c3
      exact hK  h H locs ls hw (lv_sub hl [0] rfl)
    · have h := zif_f h c3
      refine lv_aload_n hx hb dX10_closeAfter_12 rfl (lv_at hl 0 rfl) ?_
      refine z_getR S hw k0 fl_X10_9 rfl dX10_closeAfter_13 ?_
      refine lv_iload_n hx hb dX10_closeAfter_16 rfl (lv_at hl 2 rfl) ?_
      obtain ⟨q4, eq4, h⟩ := zlet_ex h
      refine z_callS (As := [.ref (za G (zr t0 0)), .int v3]) (rest := []) (rv := (some (.int q4))) (M1 := M) S hw (c_X11_look l hG (zr t0 0) v3 (kr_10_0 hG k0) M q4 eq4.symm) mv_X11_look lk_X10_19 rfl rfl (Nat.le_of_ble_eq_true rfl) ⟨Nat.le_of_ble_eq_true rfl, Nat.le_of_ble_eq_true rfl⟩ hl.1 dX10_closeAfter_17 (fun H locs hw => ?_)
      refine lv_istore (lv' := [(4, .int q4), (0, .ref (za G t0)), (2, .int v2), (3, .int v3)]) hx hb dX10_closeAfter_20 hl (by decide) rfl (fun ls hl => ?_)
      refine lv_iload hx hb dX10_closeAfter_22 (lv_at hl 0 rfl) ?_
      refine lv_bipush (v := 40) hx hb dX10_closeAfter_24 (by decide) ?_
      refine lv_icmp_ne (tgt := 35) hx hb dX10_closeAfter_26 (by decide) (fun c5 => ?_) (fun c5 => ?_)
      · have h := zif_f h c5
        refine lv_iload hx hb dX10_closeAfter_35 (lv_at hl 0 rfl) ?_
        refine lv_bipush (v := 41) hx hb dX10_closeAfter_37 (by decide) ?_
        refine lv_icmp_ne (tgt := 45) hx hb dX10_closeAfter_39 (by decide) (fun c6 => ?_) (fun c6 => ?_)
        · have h := zif_f h c6
          exact wJ45 v2 v3 h H locs ls hw (lv_sub hl [1, 2, 3] rfl)
        · have h := zif_t h c6
          obtain ⟨x7, ex7, h⟩ := zlet_ex h
          refine lv_iinc (v := x7) (lv' := [(2, .int x7), (4, .int q4), (0, .ref (za G t0)), (3, .int v3)]) hx hb dX10_closeAfter_42 hl (k := 2) rfl (by rw [ex7]; rfl) (by decide) rfl (fun ls hl => ?_)
          exact wJ45 x7 v3 h H locs ls hw (lv_sub hl [2, 0, 3] rfl)
      · have h := zif_t h c5
        obtain ⟨x8, ex8, h⟩ := zlet_ex h
        refine lv_iinc (v := x8) (lv' := [(2, .int x8), (4, .int q4), (0, .ref (za G t0)), (3, .int v3)]) hx hb dX10_closeAfter_29 hl (k := 2) rfl (by rw [ex8]; rfl) (by decide) rfl (fun ls hl => ?_)
        refine lv_goto (tgt := 45) hx hb dX10_closeAfter_32 (by decide) ?_
        exact wJ45 x8 v3 h H locs ls hw (lv_sub hl [2, 0, 3] rfl)
set_option maxHeartbeats 4000000 in
set_option maxRecDepth 100000 in
theorem c_X10_closeAfter (l : Launch) {G : ZG} (hG : zOk G) (t0 : Nat) (v1 : Int32) (k0 : zk G t0 = 20) (M : ZM) (res : Int32) (h : f_X10_closeAfter t0 v1 M = some res) : zCt l yX10_closeAfter cX10_closeAfter 5 (Option.some FieldType.int) 1 G [.ref (za G t0), .int v1] M (some (.int res)) M := by
  refine zCt.mk (by decide +kernel) (Nat.le_of_ble_eq_true rfl) ?_
  intro p e s m args below meth c A H locs ls S hr hlk hw hl
  have S : zX p (zR 1) s m args c 0 0 cX10_closeAfter 5 RX10 := S
  have hx := S.1.1
  have hb := S.1.2.1
  have hown := S.1.2.2.2.1
  have hts := S.1.2.2.2.2
  have hl : lv_has ls 5 [(0, .ref (za G t0)), (1, .int v1)] := hl
  unfold f_X10_closeAfter at h
  refine lv_iconst (v := 0) hx hb dX10_closeAfter_0 (by decide) ?_
  refine lv_istore_n (lv' := [(2, .int 0), (0, .ref (za G t0)), (1, .int v1)]) hx hb dX10_closeAfter_1 rfl hl (by decide) rfl (fun ls hl => ?_)
  refine lv_iload_n hx hb dX10_closeAfter_2 rfl (lv_at hl 2 rfl) ?_
  refine lv_istore_n (lv' := [(3, .int v1), (2, .int 0), (0, .ref (za G t0)), (1, .int v1)]) hx hb dX10_closeAfter_3 rfl hl (by decide) rfl (fun ls hl => ?_)
  refine w_X10_closeAfter_4 hG S hr hlk t0 k0 M (fun h H locs ls hw hl => ?_) zN 0 v1 h H locs ls hw (lv_sub hl [2, 1, 0] rfl)
  refine lv_aload_n hx hb dX10_closeAfter_57 rfl (lv_at hl 0 rfl) ?_
  refine z_getI S hw k0 fl_X10_15 rfl dX10_closeAfter_58 ?_
  have h := Option.some.inj h
  subst h
  exact z_ret_i S hr hlk hw dX10_closeAfter_61
def f_X9_number (t0 : Nat) (v1 : Int32) (v2 : Int32) (M : ZM) : Int64 :=
  zlet (f_X11_look_ (zr t0 0) ((v1 * 22) + v2) M) fun (q1 : Int64) =>
  q1
set_option maxHeartbeats 4000000 in
set_option maxRecDepth 100000 in
theorem c_X9_number (l : Launch) {G : ZG} (hG : zOk G) (t0 : Nat) (v1 : Int32) (v2 : Int32) (k0 : zk G t0 = 19) (M : ZM) (res : Int64) (h : f_X9_number t0 v1 v2 M = res) : zCt l yX9_number cX9_number 3 (Option.some FieldType.long) 1 G [.ref (za G t0), .int v1, .int v2] M (some (.long res)) M := by
  refine zCt.mk (by decide +kernel) (Nat.le_of_ble_eq_true rfl) ?_
  intro p e s m args below meth c A H locs ls S hr hlk hw hl
  have S : zX p (zR 1) s m args c 0 0 cX9_number 3 RX9 := S
  have hx := S.1.1
  have hb := S.1.2.1
  have hown := S.1.2.2.2.1
  have hts := S.1.2.2.2.2
  have hl : lv_has ls 3 [(0, .ref (za G t0)), (1, .int v1), (2, .int v2)] := hl
  unfold f_X9_number at h
  refine lv_aload_n hx hb dX9_number_0 rfl (lv_at hl 0 rfl) ?_
  refine z_getR S hw k0 fl_X9_11 rfl dX9_number_1 ?_
  refine lv_iload_n hx hb dX9_number_4 rfl (lv_at hl 1 rfl) ?_
  refine lv_bipush (v := 22) hx hb dX9_number_5 (by decide) ?_
  refine lv_imul hx hb dX9_number_7 ?_
  refine lv_iload_n hx hb dX9_number_8 rfl (lv_at hl 2 rfl) ?_
  refine lv_iadd hx hb dX9_number_9 ?_
  obtain ⟨q1, eq1, h⟩ := zlet_ex h
  refine z_callS (As := [.ref (za G (zr t0 0)), .int ((v1 * 22) + v2)]) (rest := []) (rv := (some (.long q1))) (M1 := M) S hw (c_X11_look_ l hG (zr t0 0) ((v1 * 22) + v2) (kr_9_0 hG k0) M q1 eq1.symm) mv_X11_look_ lk_X9_18 rfl rfl (Nat.le_of_ble_eq_true rfl) ⟨Nat.le_of_ble_eq_true rfl, Nat.le_of_ble_eq_true rfl⟩ hl.1 dX9_number_10 (fun H locs hw => ?_)
  subst h
  exact z_ret_l S hr hlk hw dX9_number_13
def f_X9_fronted (t0 : Nat) (v1 : Int32) (v2 : Int32) (v3 : Int32) (v4 : Int32) (M : ZM) : Int64 :=
  if v1 = 0 then (
    if v3 = (v2 + 1) then (
      (1 : Int64)) else (
      (0 : Int64))) else (
    if v1 = 1 then (
      zlet (f_X9_number t0 (v2 + 1) v3 M) fun (q6 : Int64) =>
      q6) else (
      if v1 = 2 then (
        if v4 = (v3 - 1) then (
          zlet (f_X9_number t0 (v2 + 1) v4 M) fun (q5 : Int64) =>
          q5) else (
          (0 : Int64))) else (
        (0 : Int64))))
set_option maxHeartbeats 4000000 in
set_option maxRecDepth 100000 in
theorem c_X9_fronted (l : Launch) {G : ZG} (hG : zOk G) (t0 : Nat) (v1 : Int32) (v2 : Int32) (v3 : Int32) (v4 : Int32) (k0 : zk G t0 = 19) (M : ZM) (res : Int64) (h : f_X9_fronted t0 v1 v2 v3 v4 M = res) : zCt l yX9_fronted cX9_fronted 5 (Option.some FieldType.long) 2 G [.ref (za G t0), .int v1, .int v2, .int v3, .int v4] M (some (.long res)) M := by
  refine zCt.mk (by decide +kernel) (Nat.le_of_ble_eq_true rfl) ?_
  intro p e s m args below meth c A H locs ls S hr hlk hw hl
  have S : zX p (zR 2) s m args c 0 0 cX9_fronted 5 RX9 := S
  have hx := S.1.1
  have hb := S.1.2.1
  have hown := S.1.2.2.2.1
  have hts := S.1.2.2.2.2
  have hl : lv_has ls 5 [(0, .ref (za G t0)), (1, .int v1), (2, .int v2), (3, .int v3), (4, .int v4)] := hl
  unfold f_X9_fronted at h
  refine lv_iload_n hx hb dX9_fronted_0 rfl (lv_at hl 1 rfl) ?_
  refine lv_if_ne (tgt := 17) hx hb dX9_fronted_1 (by decide) (fun c1 => ?_) (fun c1 => ?_)
  · have h := zif_f h c1
    refine lv_iload_n hx hb dX9_fronted_17 rfl (lv_at hl 1 rfl) ?_
    refine lv_iconst (v := 1) hx hb dX9_fronted_18 (by decide) ?_
    refine lv_icmp_ne (tgt := 31) hx hb dX9_fronted_19 (by decide) (fun c2 => ?_) (fun c2 => ?_)
    · have h := zif_f h c2
      refine lv_iload_n hx hb dX9_fronted_31 rfl (lv_at hl 1 rfl) ?_
      refine lv_iconst (v := 2) hx hb dX9_fronted_32 (by decide) ?_
      refine lv_icmp_ne (tgt := 56) hx hb dX9_fronted_33 (by decide) (fun c3 => ?_) (fun c3 => ?_)
      · have h := zif_f h c3
        refine lv_lconst (v := 0) hx hb dX9_fronted_56 (by decide) ?_
        subst h
        exact z_ret_l S hr hlk hw dX9_fronted_57
      · have h := zif_t h c3
        refine lv_iload hx hb dX9_fronted_36 (lv_at hl 4 rfl) ?_
        refine lv_iload_n hx hb dX9_fronted_38 rfl (lv_at hl 3 rfl) ?_
        refine lv_iconst (v := 1) hx hb dX9_fronted_39 (by decide) ?_
        refine lv_isub hx hb dX9_fronted_40 ?_
        refine lv_icmp_ne (tgt := 56) hx hb dX9_fronted_41 (by decide) (fun c4 => ?_) (fun c4 => ?_)
        · have h := zif_f h c4
          refine lv_lconst (v := 0) hx hb dX9_fronted_56 (by decide) ?_
          subst h
          exact z_ret_l S hr hlk hw dX9_fronted_57
        · have h := zif_t h c4
          refine lv_aload_n hx hb dX9_fronted_44 rfl (lv_at hl 0 rfl) ?_
          refine lv_iload_n hx hb dX9_fronted_45 rfl (lv_at hl 2 rfl) ?_
          refine lv_iconst (v := 1) hx hb dX9_fronted_46 (by decide) ?_
          refine lv_iadd hx hb dX9_fronted_47 ?_
          refine lv_iload hx hb dX9_fronted_48 (lv_at hl 4 rfl) ?_
          obtain ⟨q5, eq5, h⟩ := zlet_ex h
          refine z_callV (ci := 9) (As := [.int (v2 + 1), .int v4]) (rest := []) (rv := (some (.long q5))) (M1 := M) S hw (c_X9_number l hG t0 (v2 + 1) v4 k0 M q5 eq5.symm) mv_X9_number lk_X9_50 k0 ⟨_, _, rfl⟩ (by decide) rfl rfl (Nat.le_of_ble_eq_true rfl) ⟨Nat.le_of_ble_eq_true rfl, Nat.le_of_ble_eq_true rfl⟩ hl.1 dX9_fronted_50 (fun H locs hw => ?_)
          refine lv_goto (tgt := 57) hx hb dX9_fronted_53 (by decide) ?_
          subst h
          exact z_ret_l S hr hlk hw dX9_fronted_57
    · have h := zif_t h c2
      refine lv_aload_n hx hb dX9_fronted_22 rfl (lv_at hl 0 rfl) ?_
      refine lv_iload_n hx hb dX9_fronted_23 rfl (lv_at hl 2 rfl) ?_
      refine lv_iconst (v := 1) hx hb dX9_fronted_24 (by decide) ?_
      refine lv_iadd hx hb dX9_fronted_25 ?_
      refine lv_iload_n hx hb dX9_fronted_26 rfl (lv_at hl 3 rfl) ?_
      obtain ⟨q6, eq6, h⟩ := zlet_ex h
      refine z_callV (ci := 9) (As := [.int (v2 + 1), .int v3]) (rest := []) (rv := (some (.long q6))) (M1 := M) S hw (c_X9_number l hG t0 (v2 + 1) v3 k0 M q6 eq6.symm) mv_X9_number lk_X9_50 k0 ⟨_, _, rfl⟩ (by decide) rfl rfl (Nat.le_of_ble_eq_true rfl) ⟨Nat.le_of_ble_eq_true rfl, Nat.le_of_ble_eq_true rfl⟩ hl.1 dX9_fronted_27 (fun H locs hw => ?_)
      subst h
      exact z_ret_l S hr hlk hw dX9_fronted_30
  · have h := zif_t h c1
    refine lv_iload_n hx hb dX9_fronted_4 rfl (lv_at hl 3 rfl) ?_
    refine lv_iload_n hx hb dX9_fronted_5 rfl (lv_at hl 2 rfl) ?_
    refine lv_iconst (v := 1) hx hb dX9_fronted_6 (by decide) ?_
    refine lv_iadd hx hb dX9_fronted_7 ?_
    refine lv_icmp_ne (tgt := 15) hx hb dX9_fronted_8 (by decide) (fun c7 => ?_) (fun c7 => ?_)
    · have h := zif_f h c7
      refine lv_lconst (v := 0) hx hb dX9_fronted_15 (by decide) ?_
      subst h
      exact z_ret_l S hr hlk hw dX9_fronted_16
    · have h := zif_t h c7
      refine lv_lconst (v := 1) hx hb dX9_fronted_11 (by decide) ?_
      refine lv_goto (tgt := 16) hx hb dX9_fronted_12 (by decide) ?_
      subst h
      exact z_ret_l S hr hlk hw dX9_fronted_16
def f_X9_parted_8 (t0 : Nat) (t1 : Nat) (v2 : Int32) (v3 : Int32) (M : ZM) (K : Int64 → Option Int64) : Nat → Int64 → Int32 → Option Int64
  | 0, _, _ => none
  | n + 1, v4, v6 =>
    if (v3 - 1) ≤ v6 then (
      K v4) else (
      zlet (f_X10_at t1 v6 M) fun (q3 : Int32) =>
      zlet (f_X11_kindOf q3 M) fun (q4 : Int32) =>
      zlet (f_X11_isJoin q4 M) fun (q5 : Int32) =>
      if q5 = 0 then (
        zlet (v6 + 1) fun (x7 : Int32) =>
        f_X9_parted_8 t0 t1 v2 v3 M K n v4 x7) else (
        zlet (f_X9_number t0 v2 v6 M) fun (q8 : Int64) =>
        zlet (f_X9_number t0 (v6 + 1) v3 M) fun (q9 : Int64) =>
        zlet (v4 + (q8 * q9)) fun (x10 : Int64) =>
        zlet (v6 + 1) fun (x11 : Int32) =>
        f_X9_parted_8 t0 t1 v2 v3 M K n x10 x11))

def f_X9_parted (t0 : Nat) (t1 : Nat) (v2 : Int32) (v3 : Int32) (M : ZM) : Option Int64 :=
  zlet (v2 + 1) fun (x1 : Int32) =>
  f_X9_parted_8 t0 t1 v2 v3 M (fun (v4 : Int64) =>
    some v4) zN 0 x1
set_option maxHeartbeats 4000000 in
set_option maxRecDepth 100000 in
theorem w_X9_parted_8 {G : ZG} (hG : zOk G) (S : zX p (zR 2) s m args c 0 0 cX9_parted 7 RX9) (hr : meth.sig.returnType = (Option.some FieldType.long)) (hlk : meth.locks = false) (t0 : Nat) (t1 : Nat) (v2 : Int32) (v3 : Int32) (k0 : zk G t0 = 19) (k1 : zk G t1 = 20) (M : ZM)  {K : Int64 → Option Int64} {res : Int64} (hK : ∀ (v4 : Int64), K v4 = some res → ∀ (H : Heap) (locs : List Loc) (ls : Array Slot), zWd G A s H locs M → lv_has ls 7 [(4, .long v4)] → W p l e (zR 2) s m args below meth c H locs 0 0 (zQ below G A (some (.long res)) M args s) (F0 m 59 ls [])) : ∀ (n : Nat) (v4 : Int64) (v6 : Int32), f_X9_parted_8 t0 t1 v2 v3 M K n v4 v6 = some res → ∀ (H : Heap) (locs : List Loc) (ls : Array Slot), zWd G A s H locs M → lv_has ls 7 [(0, .ref (za G t0)), (1, .ref (za G t1)), (2, .int v2), (3, .int v3), (4, .long v4), (6, .int v6)] → W p l e (zR 2) s m args below meth c H locs 0 0 (zQ below G A (some (.long res)) M args s) (F0 m 8 ls []) := by
  have hx := S.1.1
  have hb := S.1.2.1
  have hown := S.1.2.2.2.1
  have hts := S.1.2.2.2.2
  intro n
  induction n with
  | zero =>
    intro v4 v6 h
    rw [f_X9_parted_8] at h
    cases h
  | succ n ih =>
    intro v4 v6 h H locs ls hw hl
    rw [f_X9_parted_8] at h
    refine lv_iload hx hb dX9_parted_8 (lv_at hl 5 rfl) ?_
    refine lv_iload_n hx hb dX9_parted_10 rfl (lv_at hl 3 rfl) ?_
    refine lv_iconst (v := 1) hx hb dX9_parted_11 (by decide) ?_
    refine lv_isub hx hb dX9_parted_12 ?_
    refine lv_icmp_ge (tgt := 59) hx hb dX9_parted_13 (by decide) (fun c2 => ?_) (fun c2 => ?_)
    · have h := zif_t h c2
      exact hK v4 h H locs ls hw (lv_sub hl [4] rfl)
    · have h := zif_f h c2
      refine lv_aload_n hx hb dX9_parted_16 rfl (lv_at hl 1 rfl) ?_
      refine lv_iload hx hb dX9_parted_17 (lv_at hl 5 rfl) ?_
      obtain ⟨q3, eq3, h⟩ := zlet_ex h
      refine z_callV (ci := 10) (As := [.int v6]) (rest := []) (rv := (some (.int q3))) (M1 := M) S hw (c_X10_at l hG t1 v6 k1 M q3 eq3.symm) mv_X10_at lk_X9_32 k1 ⟨_, _, rfl⟩ (by decide) rfl rfl (Nat.le_of_ble_eq_true rfl) ⟨Nat.le_of_ble_eq_true rfl, Nat.le_of_ble_eq_true rfl⟩ hl.1 dX9_parted_19 (fun H locs hw => ?_)
      obtain ⟨q4, eq4, h⟩ := zlet_ex h
      refine z_callS (As := [.int q3]) (rest := []) (rv := (some (.int q4))) (M1 := M) S hw (c_X11_kindOf l hG q3 M q4 eq4.symm) mv_X11_kindOf lk_X9_35 rfl rfl (Nat.le_of_ble_eq_true rfl) ⟨Nat.le_of_ble_eq_true rfl, Nat.le_of_ble_eq_true rfl⟩ hl.1 dX9_parted_22 (fun H locs hw => ?_)
      obtain ⟨q5, eq5, h⟩ := zlet_ex h
      refine z_callS (As := [.int q4]) (rest := []) (rv := (some (.int q5))) (M1 := M) S hw (c_X11_isJoin l hG q4 M q5 eq5.symm) mv_X11_isJoin lk_X9_54 rfl rfl (Nat.le_of_ble_eq_true rfl) ⟨Nat.le_of_ble_eq_true rfl, Nat.le_of_ble_eq_true rfl⟩ hl.1 dX9_parted_25 (fun H locs hw => ?_)
      refine lv_if_eq (tgt := 53) hx hb dX9_parted_28 (by decide) (fun c6 => ?_) (fun c6 => ?_)
      · have h := zif_t h c6
        obtain ⟨x7, ex7, h⟩ := zlet_ex h
        refine lv_iinc (v := x7) (lv' := [(6, .int x7), (0, .ref (za G t0)), (1, .ref (za G t1)), (2, .int v2), (3, .int v3), (4, .long v4)]) hx hb dX9_parted_53 hl (k := 5) rfl (by rw [ex7]; rfl) (by decide) rfl (fun ls hl => ?_)
        refine lv_goto (tgt := 8) hx hb dX9_parted_56 (by decide) ?_
        exact ih v4 x7 h H locs ls hw (lv_sub hl [1, 2, 3, 4, 5, 0] rfl)
      · have h := zif_f h c6
        refine lv_lload hx hb dX9_parted_31 (lv_at hl 4 rfl) ?_
        refine lv_aload_n hx hb dX9_parted_33 rfl (lv_at hl 0 rfl) ?_
        refine lv_iload_n hx hb dX9_parted_34 rfl (lv_at hl 2 rfl) ?_
        refine lv_iload hx hb dX9_parted_35 (lv_at hl 5 rfl) ?_
        obtain ⟨q8, eq8, h⟩ := zlet_ex h
        refine z_callV (ci := 9) (As := [.int v2, .int v6]) (rest := [.long v4]) (rv := (some (.long q8))) (M1 := M) S hw (c_X9_number l hG t0 v2 v6 k0 M q8 eq8.symm) mv_X9_number lk_X9_50 k0 ⟨_, _, rfl⟩ (by decide) rfl rfl (Nat.le_of_ble_eq_true rfl) ⟨Nat.le_of_ble_eq_true rfl, Nat.le_of_ble_eq_true rfl⟩ hl.1 dX9_parted_37 (fun H locs hw => ?_)
        refine lv_aload_n hx hb dX9_parted_40 rfl (lv_at hl 0 rfl) ?_
        refine lv_iload hx hb dX9_parted_41 (lv_at hl 5 rfl) ?_
        refine lv_iconst (v := 1) hx hb dX9_parted_43 (by decide) ?_
        refine lv_iadd hx hb dX9_parted_44 ?_
        refine lv_iload_n hx hb dX9_parted_45 rfl (lv_at hl 3 rfl) ?_
        obtain ⟨q9, eq9, h⟩ := zlet_ex h
        refine z_callV (ci := 9) (As := [.int (v6 + 1), .int v3]) (rest := [.long q8, .long v4]) (rv := (some (.long q9))) (M1 := M) S hw (c_X9_number l hG t0 (v6 + 1) v3 k0 M q9 eq9.symm) mv_X9_number lk_X9_50 k0 ⟨_, _, rfl⟩ (by decide) rfl rfl (Nat.le_of_ble_eq_true rfl) ⟨Nat.le_of_ble_eq_true rfl, Nat.le_of_ble_eq_true rfl⟩ hl.1 dX9_parted_46 (fun H locs hw => ?_)
        refine lv_lmul hx hb dX9_parted_49 ?_
        refine lv_ladd hx hb dX9_parted_50 ?_
        obtain ⟨x10, ex10, h⟩ := zlet_ex h
        refine lv_toplE ex10 ?_
        refine lv_lstore (lv' := [(4, .long x10), (0, .ref (za G t0)), (1, .ref (za G t1)), (2, .int v2), (3, .int v3), (6, .int v6)]) hx hb dX9_parted_51 hl (by decide) rfl (fun ls hl => ?_)
        obtain ⟨x11, ex11, h⟩ := zlet_ex h
        refine lv_iinc (v := x11) (lv' := [(6, .int x11), (4, .long x10), (0, .ref (za G t0)), (1, .ref (za G t1)), (2, .int v2), (3, .int v3)]) hx hb dX9_parted_53 hl (k := 5) rfl (by rw [ex11]; rfl) (by decide) rfl (fun ls hl => ?_)
        refine lv_goto (tgt := 8) hx hb dX9_parted_56 (by decide) ?_
        exact ih x10 x11 h H locs ls hw (lv_sub hl [2, 3, 4, 5, 1, 0] rfl)
set_option maxHeartbeats 4000000 in
set_option maxRecDepth 100000 in
theorem c_X9_parted (l : Launch) {G : ZG} (hG : zOk G) (t0 : Nat) (t1 : Nat) (v2 : Int32) (v3 : Int32) (k0 : zk G t0 = 19) (k1 : zk G t1 = 20) (M : ZM) (res : Int64) (h : f_X9_parted t0 t1 v2 v3 M = some res) : zCt l yX9_parted cX9_parted 7 (Option.some FieldType.long) 2 G [.ref (za G t0), .ref (za G t1), .int v2, .int v3] M (some (.long res)) M := by
  refine zCt.mk (by decide +kernel) (Nat.le_of_ble_eq_true rfl) ?_
  intro p e s m args below meth c A H locs ls S hr hlk hw hl
  have S : zX p (zR 2) s m args c 0 0 cX9_parted 7 RX9 := S
  have hx := S.1.1
  have hb := S.1.2.1
  have hown := S.1.2.2.2.1
  have hts := S.1.2.2.2.2
  have hl : lv_has ls 7 [(0, .ref (za G t0)), (1, .ref (za G t1)), (2, .int v2), (3, .int v3)] := hl
  unfold f_X9_parted at h
  refine lv_lconst (v := 0) hx hb dX9_parted_0 (by decide) ?_
  refine lv_lstore (lv' := [(4, .long 0), (0, .ref (za G t0)), (1, .ref (za G t1)), (2, .int v2), (3, .int v3)]) hx hb dX9_parted_1 hl (by decide) rfl (fun ls hl => ?_)
  refine lv_iload_n hx hb dX9_parted_3 rfl (lv_at hl 3 rfl) ?_
  refine lv_iconst (v := 1) hx hb dX9_parted_4 (by decide) ?_
  refine lv_iadd hx hb dX9_parted_5 ?_
  obtain ⟨x1, ex1, h⟩ := zlet_ex h
  refine lv_topiE ex1 ?_
  refine lv_istore (lv' := [(6, .int x1), (4, .long 0), (0, .ref (za G t0)), (1, .ref (za G t1)), (2, .int v2), (3, .int v3)]) hx hb dX9_parted_6 hl (by decide) rfl (fun ls hl => ?_)
  refine w_X9_parted_8 hG S hr hlk t0 t1 v2 v3 k0 k1 M (fun v4 h H locs ls hw hl => ?_) zN 0 x1 h H locs ls hw (lv_sub hl [2, 3, 4, 5, 1, 0] rfl)
  refine lv_lload hx hb dX9_parted_59 (lv_at hl 0 rfl) ?_
  have h := Option.some.inj h
  subst h
  exact z_ret_l S hr hlk hw dX9_parted_61
end Z
