section Z
variable {p : Program} {l : Launch} {e : Env} {s : State} {m : MethodId} {args : Array Value} {below : List Frame} {meth : Method} {c : Code} {A : Nat → Prop}
def f_X11_aim (t0 : Nat) (v1 : Int32) (v2 : Int32) (M : ZM) : (Int32 × ZM) :=
  zlet (f_X11_noCase v1 M) fun (q1 : Int32) =>
  if q1 = 0 then (
    if (-99) ≤ v2 then (
      if 99 < v2 then (
        zlet (f_X11_refuse t0 (-6) M) fun (q5 : (Int32 × ZM)) =>
        (q5.1, q5.2)) else (
        zlet (f_X0_size (zr t0 11) M) fun (q6 : Int32) =>
        if q6 < 8 then (
          zlet (f_X0_add (zr t0 11) v1 v2 M) fun (q8 : ZM) =>
          zlet (f_X0_size (zr t0 11) q8) fun (q9 : Int32) =>
          (q9, q8)) else (
          zlet (f_X11_refuse t0 (-6) M) fun (q10 : (Int32 × ZM)) =>
          (q10.1, q10.2)))) else (
      zlet (f_X11_refuse t0 (-4) M) fun (q11 : (Int32 × ZM)) =>
      (q11.1, q11.2))) else (
    zlet (f_X11_refuse t0 (-1) M) fun (q12 : (Int32 × ZM)) =>
    (q12.1, q12.2))
set_option maxHeartbeats 4000000 in
set_option maxRecDepth 100000 in
theorem c_X11_aim (l : Launch) {G : ZG} (hG : zOk G) (t0 : Nat) (v1 : Int32) (v2 : Int32) (k0 : zk G t0 = 21) (M : ZM) (res : (Int32 × ZM)) (h : f_X11_aim t0 v1 v2 M = res) : zCt l yX11_aim cX11_aim 3 (Option.some FieldType.int) 2 G [.ref (za G t0), .int v1, .int v2] M (some (.int res.1)) res.2 := by
  refine zCt.mk (by decide +kernel) (Nat.le_of_ble_eq_true rfl) ?_
  intro p e s m args below meth c A H locs ls S hr hlk hw hl
  have S : zX p (zR 2) s m args c 0 0 cX11_aim 3 RX11 := S
  have hx := S.1.1
  have hb := S.1.2.1
  have hown := S.1.2.2.2.1
  have hts := S.1.2.2.2.2
  have hl : lv_has ls 3 [(0, .ref (za G t0)), (1, .int v1), (2, .int v2)] := hl
  unfold f_X11_aim at h
  refine lv_iload_n hx hb dX11_aim_0 rfl (lv_at hl 1 rfl) ?_
  obtain ⟨q1, eq1, h⟩ := zlet_ex h
  refine z_callS (As := [.int v1]) (rest := []) (rv := (some (.int q1))) (M1 := M) S hw (c_X11_noCase l hG v1 M q1 eq1.symm) mv_X11_noCase lk_X11_152 rfl rfl (Nat.le_of_ble_eq_true rfl) ⟨Nat.le_of_ble_eq_true rfl, Nat.le_of_ble_eq_true rfl⟩ hl.1 dX11_aim_1 (fun H locs hw => ?_)
  refine lv_if_eq (tgt := 13) hx hb dX11_aim_4 (by decide) (fun c2 => ?_) (fun c2 => ?_)
  · have h := zif_t h c2
    refine lv_iload_n hx hb dX11_aim_13 rfl (lv_at hl 2 rfl) ?_
    refine lv_bipush (v := (-99)) hx hb dX11_aim_14 (by decide) ?_
    refine lv_icmp_ge (tgt := 26) hx hb dX11_aim_16 (by decide) (fun c3 => ?_) (fun c3 => ?_)
    · have h := zif_t h c3
      refine lv_iload_n hx hb dX11_aim_26 rfl (lv_at hl 2 rfl) ?_
      refine lv_bipush (v := 99) hx hb dX11_aim_27 (by decide) ?_
      refine lv_icmp_gt (tgt := 44) hx hb dX11_aim_29 (by decide) (fun c4 => ?_) (fun c4 => ?_)
      · have h := zif_t h c4
        refine lv_aload_n hx hb dX11_aim_44 rfl (lv_at hl 0 rfl) ?_
        refine lv_bipush (v := (-6)) hx hb dX11_aim_45 (by decide) ?_
        obtain ⟨q5, eq5, h⟩ := zlet_ex h
        refine z_callV (ci := 11) (As := [.int (-6)]) (rest := []) (rv := (some (.int q5.1))) (M1 := q5.2) S hw (c_X11_refuse l hG t0 (-6) k0 M q5 eq5.symm) mv_X11_refuse lk_X11_100 k0 ⟨_, _, rfl⟩ (by decide) rfl rfl (Nat.le_of_ble_eq_true rfl) ⟨Nat.le_of_ble_eq_true rfl, Nat.le_of_ble_eq_true rfl⟩ hl.1 dX11_aim_47 (fun H locs hw => ?_)
        subst h
        exact z_ret_i S hr hlk hw dX11_aim_50
      · have h := zif_f h c4
        refine lv_aload_n hx hb dX11_aim_32 rfl (lv_at hl 0 rfl) ?_
        refine z_getR S hw k0 fl_X11_77 rfl dX11_aim_33 ?_
        obtain ⟨q6, eq6, h⟩ := zlet_ex h
        refine z_callV (ci := 0) (As := []) (rest := []) (rv := (some (.int q6))) (M1 := M) S hw (c_X0_size l hG (zr t0 11) (kr_11_11 hG k0) M q6 eq6.symm) mv_X0_size lk_X11_237 (kr_11_11 hG k0) ⟨_, _, rfl⟩ (by decide) rfl rfl (Nat.le_of_ble_eq_true rfl) ⟨Nat.le_of_ble_eq_true rfl, Nat.le_of_ble_eq_true rfl⟩ hl.1 dX11_aim_36 (fun H locs hw => ?_)
        refine lv_bipush (v := 8) hx hb dX11_aim_39 (by decide) ?_
        refine lv_icmp_lt (tgt := 51) hx hb dX11_aim_41 (by decide) (fun c7 => ?_) (fun c7 => ?_)
        · have h := zif_t h c7
          refine lv_aload_n hx hb dX11_aim_51 rfl (lv_at hl 0 rfl) ?_
          refine z_getR S hw k0 fl_X11_77 rfl dX11_aim_52 ?_
          refine lv_iload_n hx hb dX11_aim_55 rfl (lv_at hl 1 rfl) ?_
          refine lv_iload_n hx hb dX11_aim_56 rfl (lv_at hl 2 rfl) ?_
          obtain ⟨q8, eq8, h⟩ := zlet_ex h
          refine z_callV (ci := 0) (As := [.int v1, .int v2]) (rest := []) (rv := none) (M1 := q8) S hw (c_X0_add l hG (zr t0 11) v1 v2 (kr_11_11 hG k0) M q8 eq8.symm) mv_X0_add lk_X11_238 (kr_11_11 hG k0) ⟨_, _, rfl⟩ (by decide) rfl rfl (Nat.le_of_ble_eq_true rfl) ⟨Nat.le_of_ble_eq_true rfl, Nat.le_of_ble_eq_true rfl⟩ hl.1 dX11_aim_57 (fun H locs hw => ?_)
          refine lv_aload_n hx hb dX11_aim_60 rfl (lv_at hl 0 rfl) ?_
          refine z_getR S hw k0 fl_X11_77 rfl dX11_aim_61 ?_
          obtain ⟨q9, eq9, h⟩ := zlet_ex h
          refine z_callV (ci := 0) (As := []) (rest := []) (rv := (some (.int q9))) (M1 := q8) S hw (c_X0_size l hG (zr t0 11) (kr_11_11 hG k0) q8 q9 eq9.symm) mv_X0_size lk_X11_237 (kr_11_11 hG k0) ⟨_, _, rfl⟩ (by decide) rfl rfl (Nat.le_of_ble_eq_true rfl) ⟨Nat.le_of_ble_eq_true rfl, Nat.le_of_ble_eq_true rfl⟩ hl.1 dX11_aim_64 (fun H locs hw => ?_)
          subst h
          exact z_ret_i S hr hlk hw dX11_aim_67
        · have h := zif_f h c7
          refine lv_aload_n hx hb dX11_aim_44 rfl (lv_at hl 0 rfl) ?_
          refine lv_bipush (v := (-6)) hx hb dX11_aim_45 (by decide) ?_
          obtain ⟨q10, eq10, h⟩ := zlet_ex h
          refine z_callV (ci := 11) (As := [.int (-6)]) (rest := []) (rv := (some (.int q10.1))) (M1 := q10.2) S hw (c_X11_refuse l hG t0 (-6) k0 M q10 eq10.symm) mv_X11_refuse lk_X11_100 k0 ⟨_, _, rfl⟩ (by decide) rfl rfl (Nat.le_of_ble_eq_true rfl) ⟨Nat.le_of_ble_eq_true rfl, Nat.le_of_ble_eq_true rfl⟩ hl.1 dX11_aim_47 (fun H locs hw => ?_)
          subst h
          exact z_ret_i S hr hlk hw dX11_aim_50
    · have h := zif_f h c3
      refine lv_aload_n hx hb dX11_aim_19 rfl (lv_at hl 0 rfl) ?_
      refine lv_bipush (v := (-4)) hx hb dX11_aim_20 (by decide) ?_
      obtain ⟨q11, eq11, h⟩ := zlet_ex h
      refine z_callV (ci := 11) (As := [.int (-4)]) (rest := []) (rv := (some (.int q11.1))) (M1 := q11.2) S hw (c_X11_refuse l hG t0 (-4) k0 M q11 eq11.symm) mv_X11_refuse lk_X11_100 k0 ⟨_, _, rfl⟩ (by decide) rfl rfl (Nat.le_of_ble_eq_true rfl) ⟨Nat.le_of_ble_eq_true rfl, Nat.le_of_ble_eq_true rfl⟩ hl.1 dX11_aim_22 (fun H locs hw => ?_)
      subst h
      exact z_ret_i S hr hlk hw dX11_aim_25
  · have h := zif_f h c2
    refine lv_aload_n hx hb dX11_aim_7 rfl (lv_at hl 0 rfl) ?_
    refine lv_iconst (v := (-1)) hx hb dX11_aim_8 (by decide) ?_
    obtain ⟨q12, eq12, h⟩ := zlet_ex h
    refine z_callV (ci := 11) (As := [.int (-1)]) (rest := []) (rv := (some (.int q12.1))) (M1 := q12.2) S hw (c_X11_refuse l hG t0 (-1) k0 M q12 eq12.symm) mv_X11_refuse lk_X11_100 k0 ⟨_, _, rfl⟩ (by decide) rfl rfl (Nat.le_of_ble_eq_true rfl) ⟨Nat.le_of_ble_eq_true rfl, Nat.le_of_ble_eq_true rfl⟩ hl.1 dX11_aim_9 (fun H locs hw => ?_)
    subst h
    exact z_ret_i S hr hlk hw dX11_aim_12
def f_X0_servedBy_5 (t0 : Nat) (v1 : Int64) (M : ZM) (K : Int32 → Option Int32) : Nat → Int32 → Int32 → Option Int32
  | 0, _, _ => none
  | n + 1, v3, v4 =>
    if (M.1 t0 2) ≤ v4 then (
      K v3) else (
      zlet (f_X11_look (zr t0 1) v4 M) fun (q2 : Int32) =>
      zlet (f_X11_look (zr t0 0) v4 M) fun (q3 : Int32) =>
      zlet (f_X11_bit v1 q3 M) fun (q4 : Int32) =>
      zlet (v3 + (q2 * q4)) fun (x5 : Int32) =>
      zlet (v4 + 1) fun (x6 : Int32) =>
      f_X0_servedBy_5 t0 v1 M K n x5 x6)

def f_X0_servedBy (t0 : Nat) (v1 : Int64) (M : ZM) : Option Int32 :=
  f_X0_servedBy_5 t0 v1 M (fun (v3 : Int32) =>
    some v3) zN 0 0
set_option maxHeartbeats 4000000 in
set_option maxRecDepth 100000 in
theorem w_X0_servedBy_5 {G : ZG} (hG : zOk G) (S : zX p (zR 1) s m args c 0 0 cX0_servedBy 5 RX0) (hr : meth.sig.returnType = (Option.some FieldType.int)) (hlk : meth.locks = false) (t0 : Nat) (v1 : Int64) (k0 : zk G t0 = 10) (M : ZM)  {K : Int32 → Option Int32} {res : Int32} (hK : ∀ (v3 : Int32), K v3 = some res → ∀ (H : Heap) (locs : List Loc) (ls : Array Slot), zWd G A s H locs M → lv_has ls 5 [(3, .int v3)] → W p l e (zR 1) s m args below meth c H locs 0 0 (zQ below G A (some (.int res)) M args s) (F0 m 46 ls [])) : ∀ (n : Nat) (v3 : Int32) (v4 : Int32), f_X0_servedBy_5 t0 v1 M K n v3 v4 = some res → ∀ (H : Heap) (locs : List Loc) (ls : Array Slot), zWd G A s H locs M → lv_has ls 5 [(0, .ref (za G t0)), (1, .long v1), (3, .int v3), (4, .int v4)] → W p l e (zR 1) s m args below meth c H locs 0 0 (zQ below G A (some (.int res)) M args s) (F0 m 5 ls []) := by
  have hx := S.1.1
  have hb := S.1.2.1
  have hown := S.1.2.2.2.1
  have hts := S.1.2.2.2.2
  intro n
  induction n with
  | zero =>
    intro v3 v4 h
    rw [f_X0_servedBy_5] at h
    cases h
  | succ n ih =>
    intro v3 v4 h H locs ls hw hl
    rw [f_X0_servedBy_5] at h
    refine lv_iload hx hb dX0_servedBy_5 (lv_at hl 3 rfl) ?_
    refine lv_aload_n hx hb dX0_servedBy_7 rfl (lv_at hl 0 rfl) ?_
    refine z_getI S hw k0 fl_X0_18 rfl dX0_servedBy_8 ?_
    refine lv_icmp_ge (tgt := 46) hx hb dX0_servedBy_11 (by decide) (fun c1 => ?_) (fun c1 => ?_)
    · have h := zif_t h c1
      exact hK v3 h H locs ls hw (lv_sub hl [2] rfl)
    · have h := zif_f h c1
      refine lv_iload_n hx hb dX0_servedBy_14 rfl (lv_at hl 2 rfl) ?_
      refine lv_aload_n hx hb dX0_servedBy_15 rfl (lv_at hl 0 rfl) ?_
      refine z_getR S hw k0 fl_X0_15 rfl dX0_servedBy_16 ?_
      refine lv_iload hx hb dX0_servedBy_19 (lv_at hl 3 rfl) ?_
      obtain ⟨q2, eq2, h⟩ := zlet_ex h
      refine z_callS (As := [.ref (za G (zr t0 1)), .int v4]) (rest := [.int v3]) (rv := (some (.int q2))) (M1 := M) S hw (c_X11_look l hG (zr t0 1) v4 (kr_0_1 hG k0) M q2 eq2.symm) mv_X11_look lk_X0_26 rfl rfl (Nat.le_of_ble_eq_true rfl) ⟨Nat.le_of_ble_eq_true rfl, Nat.le_of_ble_eq_true rfl⟩ hl.1 dX0_servedBy_21 (fun H locs hw => ?_)
      refine lv_lload_n hx hb dX0_servedBy_24 rfl (lv_at hl 1 rfl) ?_
      refine lv_aload_n hx hb dX0_servedBy_25 rfl (lv_at hl 0 rfl) ?_
      refine z_getR S hw k0 fl_X0_9 rfl dX0_servedBy_26 ?_
      refine lv_iload hx hb dX0_servedBy_29 (lv_at hl 3 rfl) ?_
      obtain ⟨q3, eq3, h⟩ := zlet_ex h
      refine z_callS (As := [.ref (za G (zr t0 0)), .int v4]) (rest := [.long v1, .int q2, .int v3]) (rv := (some (.int q3))) (M1 := M) S hw (c_X11_look l hG (zr t0 0) v4 (kr_0_0 hG k0) M q3 eq3.symm) mv_X11_look lk_X0_26 rfl rfl (Nat.le_of_ble_eq_true rfl) ⟨Nat.le_of_ble_eq_true rfl, Nat.le_of_ble_eq_true rfl⟩ hl.1 dX0_servedBy_31 (fun H locs hw => ?_)
      obtain ⟨q4, eq4, h⟩ := zlet_ex h
      refine z_callS (As := [.long v1, .int q3]) (rest := [.int q2, .int v3]) (rv := (some (.int q4))) (M1 := M) S hw (c_X11_bit l hG v1 q3 M q4 eq4.symm) mv_X11_bit lk_X0_34 rfl rfl (Nat.le_of_ble_eq_true rfl) ⟨Nat.le_of_ble_eq_true rfl, Nat.le_of_ble_eq_true rfl⟩ hl.1 dX0_servedBy_34 (fun H locs hw => ?_)
      refine lv_imul hx hb dX0_servedBy_37 ?_
      refine lv_iadd hx hb dX0_servedBy_38 ?_
      obtain ⟨x5, ex5, h⟩ := zlet_ex h
      refine lv_topiE ex5 ?_
      refine lv_istore_n (lv' := [(3, .int x5), (0, .ref (za G t0)), (1, .long v1), (4, .int v4)]) hx hb dX0_servedBy_39 rfl hl (by decide) rfl (fun ls hl => ?_)
      obtain ⟨x6, ex6, h⟩ := zlet_ex h
      refine lv_iinc (v := x6) (lv' := [(4, .int x6), (3, .int x5), (0, .ref (za G t0)), (1, .long v1)]) hx hb dX0_servedBy_40 hl (k := 3) rfl (by rw [ex6]; rfl) (by decide) rfl (fun ls hl => ?_)
      refine lv_goto (tgt := 5) hx hb dX0_servedBy_43 (by decide) ?_
      exact ih x5 x6 h H locs ls hw (lv_sub hl [2, 3, 1, 0] rfl)
set_option maxHeartbeats 4000000 in
set_option maxRecDepth 100000 in
theorem c_X0_servedBy (l : Launch) {G : ZG} (hG : zOk G) (t0 : Nat) (v1 : Int64) (k0 : zk G t0 = 10) (M : ZM) (res : Int32) (h : f_X0_servedBy t0 v1 M = some res) : zCt l yX0_servedBy cX0_servedBy 5 (Option.some FieldType.int) 1 G [.ref (za G t0), .long v1] M (some (.int res)) M := by
  refine zCt.mk (by decide +kernel) (Nat.le_of_ble_eq_true rfl) ?_
  intro p e s m args below meth c A H locs ls S hr hlk hw hl
  have S : zX p (zR 1) s m args c 0 0 cX0_servedBy 5 RX0 := S
  have hx := S.1.1
  have hb := S.1.2.1
  have hown := S.1.2.2.2.1
  have hts := S.1.2.2.2.2
  have hl : lv_has ls 5 [(0, .ref (za G t0)), (1, .long v1)] := hl
  unfold f_X0_servedBy at h
  refine lv_iconst (v := 0) hx hb dX0_servedBy_0 (by decide) ?_
  refine lv_istore_n (lv' := [(3, .int 0), (0, .ref (za G t0)), (1, .long v1)]) hx hb dX0_servedBy_1 rfl hl (by decide) rfl (fun ls hl => ?_)
  refine lv_iconst (v := 0) hx hb dX0_servedBy_2 (by decide) ?_
  refine lv_istore (lv' := [(4, .int 0), (3, .int 0), (0, .ref (za G t0)), (1, .long v1)]) hx hb dX0_servedBy_3 hl (by decide) rfl (fun ls hl => ?_)
  refine w_X0_servedBy_5 hG S hr hlk t0 v1 k0 M (fun v3 h H locs ls hw hl => ?_) zN 0 0 h H locs ls hw (lv_sub hl [2, 3, 1, 0] rfl)
  refine lv_iload_n hx hb dX0_servedBy_46 rfl (lv_at hl 0 rfl) ?_
  have h := Option.some.inj h
  subst h
  exact z_ret_i S hr hlk hw dX0_servedBy_47
def f_X11_serves (t0 : Nat) (v1 : Int32) (M : ZM) : Option (Int32 × ZM) :=
  (f_X11_spent t0 M).bind fun (q1 : (Int32 × ZM)) =>
  if q1.1 = 0 then (
    zlet (f_X11_noReading t0 v1 q1.2) fun (q3 : Int32) =>
    if q3 = 0 then (
      zlet (f_X2_meaning (zr t0 5) v1 q1.2) fun (q5 : Int64) =>
      (f_X0_servedBy (zr t0 11) q5 q1.2).bind fun (q6 : Int32) =>
      some (q6, q1.2)) else (
      zlet (f_X11_refuse t0 (-1) q1.2) fun (q7 : (Int32 × ZM)) =>
      some ((1000000000 - q7.1), q7.2))) else (
    zlet (f_X11_refuse t0 (-5) q1.2) fun (q8 : (Int32 × ZM)) =>
    some ((1000000000 - q8.1), q8.2))
set_option maxHeartbeats 4000000 in
set_option maxRecDepth 100000 in
theorem c_X11_serves (l : Launch) {G : ZG} (hG : zOk G) (t0 : Nat) (v1 : Int32) (k0 : zk G t0 = 21) (M : ZM) (res : (Int32 × ZM)) (h : f_X11_serves t0 v1 M = some res) : zCt l yX11_serves cX11_serves 2 (Option.some FieldType.int) 6 G [.ref (za G t0), .int v1] M (some (.int res.1)) res.2 := by
  refine zCt.mk (by decide +kernel) (Nat.le_of_ble_eq_true rfl) ?_
  intro p e s m args below meth c A H locs ls S hr hlk hw hl
  have S : zX p (zR 6) s m args c 0 0 cX11_serves 2 RX11 := S
  have hx := S.1.1
  have hb := S.1.2.1
  have hown := S.1.2.2.2.1
  have hts := S.1.2.2.2.2
  have hl : lv_has ls 2 [(0, .ref (za G t0)), (1, .int v1)] := hl
  unfold f_X11_serves at h
  refine lv_aload_n hx hb dX11_serves_0 rfl (lv_at hl 0 rfl) ?_
  obtain ⟨q1, eq1, h⟩ := Option.bind_eq_some_iff.mp h
  refine z_callV (ci := 11) (As := []) (rest := []) (rv := (some (.int q1.1))) (M1 := q1.2) S hw (c_X11_spent l hG t0 k0 M q1 eq1) mv_X11_spent lk_X11_126 k0 ⟨_, _, rfl⟩ (by decide) rfl rfl (Nat.le_of_ble_eq_true rfl) ⟨Nat.le_of_ble_eq_true rfl, Nat.le_of_ble_eq_true rfl⟩ hl.1 dX11_serves_1 (fun H locs hw => ?_)
  refine lv_if_eq (tgt := 17) hx hb dX11_serves_4 (by decide) (fun c2 => ?_) (fun c2 => ?_)
  · have h := zif_t h c2
    refine lv_aload_n hx hb dX11_serves_17 rfl (lv_at hl 0 rfl) ?_
    refine lv_iload_n hx hb dX11_serves_18 rfl (lv_at hl 1 rfl) ?_
    obtain ⟨q3, eq3, h⟩ := zlet_ex h
    refine z_callV (ci := 11) (As := [.int v1]) (rest := []) (rv := (some (.int q3))) (M1 := q1.2) S hw (c_X11_noReading l hG t0 v1 k0 q1.2 q3 eq3.symm) mv_X11_noReading lk_X11_130 k0 ⟨_, _, rfl⟩ (by decide) rfl rfl (Nat.le_of_ble_eq_true rfl) ⟨Nat.le_of_ble_eq_true rfl, Nat.le_of_ble_eq_true rfl⟩ hl.1 dX11_serves_19 (fun H locs hw => ?_)
    refine lv_if_eq (tgt := 34) hx hb dX11_serves_22 (by decide) (fun c4 => ?_) (fun c4 => ?_)
    · have h := zif_t h c4
      refine lv_aload_n hx hb dX11_serves_34 rfl (lv_at hl 0 rfl) ?_
      refine z_getR S hw k0 fl_X11_77 rfl dX11_serves_35 ?_
      refine lv_aload_n hx hb dX11_serves_38 rfl (lv_at hl 0 rfl) ?_
      refine z_getR S hw k0 fl_X11_39 rfl dX11_serves_39 ?_
      refine lv_iload_n hx hb dX11_serves_42 rfl (lv_at hl 1 rfl) ?_
      obtain ⟨q5, eq5, h⟩ := zlet_ex h
      refine z_callV (ci := 2) (As := [.int v1]) (rest := [.ref (za G (zr t0 11))]) (rv := (some (.long q5))) (M1 := q1.2) S hw (c_X2_meaning l hG (zr t0 5) v1 (kr_11_5 hG k0) q1.2 q5 eq5.symm) mv_X2_meaning lk_X11_148 (kr_11_5 hG k0) ⟨_, _, rfl⟩ (by decide) rfl rfl (Nat.le_of_ble_eq_true rfl) ⟨Nat.le_of_ble_eq_true rfl, Nat.le_of_ble_eq_true rfl⟩ hl.1 dX11_serves_43 (fun H locs hw => ?_)
      obtain ⟨q6, eq6, h⟩ := Option.bind_eq_some_iff.mp h
      refine z_callV (ci := 0) (As := [.long q5]) (rest := []) (rv := (some (.int q6))) (M1 := q1.2) S hw (c_X0_servedBy l hG (zr t0 11) q5 (kr_11_11 hG k0) q1.2 q6 eq6) mv_X0_servedBy lk_X11_242 (kr_11_11 hG k0) ⟨_, _, rfl⟩ (by decide) rfl rfl (Nat.le_of_ble_eq_true rfl) ⟨Nat.le_of_ble_eq_true rfl, Nat.le_of_ble_eq_true rfl⟩ hl.1 dX11_serves_46 (fun H locs hw => ?_)
      have h := Option.some.inj h
      subst h
      exact z_ret_i S hr hlk hw dX11_serves_49
    · have h := zif_f h c4
      refine lv_ldc (v := 1000000000) hx hb hown (hts _ kc_X11_241) dX11_serves_25 ?_
      refine lv_aload_n hx hb dX11_serves_27 rfl (lv_at hl 0 rfl) ?_
      refine lv_iconst (v := (-1)) hx hb dX11_serves_28 (by decide) ?_
      obtain ⟨q7, eq7, h⟩ := zlet_ex h
      refine z_callV (ci := 11) (As := [.int (-1)]) (rest := [.int 1000000000]) (rv := (some (.int q7.1))) (M1 := q7.2) S hw (c_X11_refuse l hG t0 (-1) k0 q1.2 q7 eq7.symm) mv_X11_refuse lk_X11_100 k0 ⟨_, _, rfl⟩ (by decide) rfl rfl (Nat.le_of_ble_eq_true rfl) ⟨Nat.le_of_ble_eq_true rfl, Nat.le_of_ble_eq_true rfl⟩ hl.1 dX11_serves_29 (fun H locs hw => ?_)
      refine lv_isub hx hb dX11_serves_32 ?_
      have h := Option.some.inj h
      subst h
      exact z_ret_i S hr hlk hw dX11_serves_33
  · have h := zif_f h c2
    refine lv_ldc (v := 1000000000) hx hb hown (hts _ kc_X11_241) dX11_serves_7 ?_
    refine lv_aload_n hx hb dX11_serves_9 rfl (lv_at hl 0 rfl) ?_
    refine lv_bipush (v := (-5)) hx hb dX11_serves_10 (by decide) ?_
    obtain ⟨q8, eq8, h⟩ := zlet_ex h
    refine z_callV (ci := 11) (As := [.int (-5)]) (rest := [.int 1000000000]) (rv := (some (.int q8.1))) (M1 := q8.2) S hw (c_X11_refuse l hG t0 (-5) k0 q1.2 q8 eq8.symm) mv_X11_refuse lk_X11_100 k0 ⟨_, _, rfl⟩ (by decide) rfl rfl (Nat.le_of_ble_eq_true rfl) ⟨Nat.le_of_ble_eq_true rfl, Nat.le_of_ble_eq_true rfl⟩ hl.1 dX11_serves_12 (fun H locs hw => ?_)
    refine lv_isub hx hb dX11_serves_15 ?_
    have h := Option.some.inj h
    subst h
    exact z_ret_i S hr hlk hw dX11_serves_16
def f_X11_best_18 (t0 : Nat) (K : Int32 → ZM → Option (Int32 × ZM)) : Nat → Int32 → Int32 → ZM → Option (Int32 × ZM)
  | 0, _, _, _ => none
  | n + 1, v1, v2, M =>
    zlet (f_X2_size (zr t0 5) M) fun (q3 : Int32) =>
    if q3 ≤ v2 then (
      K v1 M) else (
      zlet (f_X2_meaning (zr t0 5) v2 M) fun (q5 : Int64) =>
      (f_X0_servedBy (zr t0 11) q5 M).bind fun (q6 : Int32) =>
      zlet (f_X2_meaning (zr t0 5) v1 M) fun (q7 : Int64) =>
      (f_X0_servedBy (zr t0 11) q7 M).bind fun (q8 : Int32) =>
      if q6 ≤ q8 then (
        zlet (v2 + 1) fun (x10 : Int32) =>
        f_X11_best_18 t0 K n v1 x10 M) else (
        zlet (v2 + 1) fun (x11 : Int32) =>
        f_X11_best_18 t0 K n v2 x11 M))

def f_X11_best (t0 : Nat) (M : ZM) : Option (Int32 × ZM) :=
  (f_X11_spent t0 M).bind fun (q1 : (Int32 × ZM)) =>
  if q1.1 = 0 then (
    f_X11_best_18 t0 (fun (v1 : Int32) (M : ZM) =>
      some (v1, M)) zN 0 1 q1.2) else (
    zlet (f_X11_refuse t0 (-5) q1.2) fun (q12 : (Int32 × ZM)) =>
    some (q12.1, q12.2))
set_option maxHeartbeats 4000000 in
set_option maxRecDepth 100000 in
theorem w_X11_best_18 {G : ZG} (hG : zOk G) (S : zX p (zR 6) s m args c 0 0 cX11_best 3 RX11) (hr : meth.sig.returnType = (Option.some FieldType.int)) (hlk : meth.locks = false) (t0 : Nat) (k0 : zk G t0 = 21)  {K : Int32 → ZM → Option (Int32 × ZM)} {res : (Int32 × ZM)} (hK : ∀ (v1 : Int32) (M : ZM), K v1 M = some res → ∀ (H : Heap) (locs : List Loc) (ls : Array Slot), zWd G A s H locs M → lv_has ls 3 [(1, .int v1)] → W p l e (zR 6) s m args below meth c H locs 0 0 (zQ below G A (some (.int res.1)) res.2 args s) (F0 m 70 ls [])) : ∀ (n : Nat) (v1 : Int32) (v2 : Int32) (M : ZM), f_X11_best_18 t0 K n v1 v2 M = some res → ∀ (H : Heap) (locs : List Loc) (ls : Array Slot), zWd G A s H locs M → lv_has ls 3 [(0, .ref (za G t0)), (1, .int v1), (2, .int v2)] → W p l e (zR 6) s m args below meth c H locs 0 0 (zQ below G A (some (.int res.1)) res.2 args s) (F0 m 18 ls []) := by
  have hx := S.1.1
  have hb := S.1.2.1
  have hown := S.1.2.2.2.1
  have hts := S.1.2.2.2.2
  intro n
  induction n with
  | zero =>
    intro v1 v2 M h
    rw [f_X11_best_18] at h
    cases h
  | succ n ih =>
    intro v1 v2 M h H locs ls hw hl
    rw [f_X11_best_18] at h
    refine lv_iload_n hx hb dX11_best_18 rfl (lv_at hl 2 rfl) ?_
    refine lv_aload_n hx hb dX11_best_19 rfl (lv_at hl 0 rfl) ?_
    refine z_getR S hw k0 fl_X11_39 rfl dX11_best_20 ?_
    obtain ⟨q3, eq3, h⟩ := zlet_ex h
    refine z_callV (ci := 2) (As := []) (rest := [.int v2]) (rv := (some (.int q3))) (M1 := M) S hw (c_X2_size l hG (zr t0 5) (kr_11_5 hG k0) M q3 eq3.symm) mv_X2_size lk_X11_230 (kr_11_5 hG k0) ⟨_, _, rfl⟩ (by decide) rfl rfl (Nat.le_of_ble_eq_true rfl) ⟨Nat.le_of_ble_eq_true rfl, Nat.le_of_ble_eq_true rfl⟩ hl.1 dX11_best_23 (fun H locs hw => ?_)
    refine lv_icmp_ge (tgt := 70) hx hb dX11_best_26 (by decide) (fun c4 => ?_) (fun c4 => ?_)
    · have h := zif_t h c4
      exact hK v1 M h H locs ls hw (lv_sub hl [1] rfl)
    · have h := zif_f h c4
      refine lv_aload_n hx hb dX11_best_29 rfl (lv_at hl 0 rfl) ?_
      refine z_getR S hw k0 fl_X11_77 rfl dX11_best_30 ?_
      refine lv_aload_n hx hb dX11_best_33 rfl (lv_at hl 0 rfl) ?_
      refine z_getR S hw k0 fl_X11_39 rfl dX11_best_34 ?_
      refine lv_iload_n hx hb dX11_best_37 rfl (lv_at hl 2 rfl) ?_
      obtain ⟨q5, eq5, h⟩ := zlet_ex h
      refine z_callV (ci := 2) (As := [.int v2]) (rest := [.ref (za G (zr t0 11))]) (rv := (some (.long q5))) (M1 := M) S hw (c_X2_meaning l hG (zr t0 5) v2 (kr_11_5 hG k0) M q5 eq5.symm) mv_X2_meaning lk_X11_148 (kr_11_5 hG k0) ⟨_, _, rfl⟩ (by decide) rfl rfl (Nat.le_of_ble_eq_true rfl) ⟨Nat.le_of_ble_eq_true rfl, Nat.le_of_ble_eq_true rfl⟩ hl.1 dX11_best_38 (fun H locs hw => ?_)
      obtain ⟨q6, eq6, h⟩ := Option.bind_eq_some_iff.mp h
      refine z_callV (ci := 0) (As := [.long q5]) (rest := []) (rv := (some (.int q6))) (M1 := M) S hw (c_X0_servedBy l hG (zr t0 11) q5 (kr_11_11 hG k0) M q6 eq6) mv_X0_servedBy lk_X11_242 (kr_11_11 hG k0) ⟨_, _, rfl⟩ (by decide) rfl rfl (Nat.le_of_ble_eq_true rfl) ⟨Nat.le_of_ble_eq_true rfl, Nat.le_of_ble_eq_true rfl⟩ hl.1 dX11_best_41 (fun H locs hw => ?_)
      refine lv_aload_n hx hb dX11_best_44 rfl (lv_at hl 0 rfl) ?_
      refine z_getR S hw k0 fl_X11_77 rfl dX11_best_45 ?_
      refine lv_aload_n hx hb dX11_best_48 rfl (lv_at hl 0 rfl) ?_
      refine z_getR S hw k0 fl_X11_39 rfl dX11_best_49 ?_
      refine lv_iload_n hx hb dX11_best_52 rfl (lv_at hl 1 rfl) ?_
      obtain ⟨q7, eq7, h⟩ := zlet_ex h
      refine z_callV (ci := 2) (As := [.int v1]) (rest := [.ref (za G (zr t0 11)), .int q6]) (rv := (some (.long q7))) (M1 := M) S hw (c_X2_meaning l hG (zr t0 5) v1 (kr_11_5 hG k0) M q7 eq7.symm) mv_X2_meaning lk_X11_148 (kr_11_5 hG k0) ⟨_, _, rfl⟩ (by decide) rfl rfl (Nat.le_of_ble_eq_true rfl) ⟨Nat.le_of_ble_eq_true rfl, Nat.le_of_ble_eq_true rfl⟩ hl.1 dX11_best_53 (fun H locs hw => ?_)
      obtain ⟨q8, eq8, h⟩ := Option.bind_eq_some_iff.mp h
      refine z_callV (ci := 0) (As := [.long q7]) (rest := [.int q6]) (rv := (some (.int q8))) (M1 := M) S hw (c_X0_servedBy l hG (zr t0 11) q7 (kr_11_11 hG k0) M q8 eq8) mv_X0_servedBy lk_X11_242 (kr_11_11 hG k0) ⟨_, _, rfl⟩ (by decide) rfl rfl (Nat.le_of_ble_eq_true rfl) ⟨Nat.le_of_ble_eq_true rfl, Nat.le_of_ble_eq_true rfl⟩ hl.1 dX11_best_56 (fun H locs hw => ?_)
      refine lv_icmp_le (tgt := 64) hx hb dX11_best_59 (by decide) (fun c9 => ?_) (fun c9 => ?_)
      · have h := zif_t h c9
        obtain ⟨x10, ex10, h⟩ := zlet_ex h
        refine lv_iinc (v := x10) (lv' := [(2, .int x10), (0, .ref (za G t0)), (1, .int v1)]) hx hb dX11_best_64 hl (k := 2) rfl (by rw [ex10]; rfl) (by decide) rfl (fun ls hl => ?_)
        refine lv_goto (tgt := 18) hx hb dX11_best_67 (by decide) ?_
        exact ih v1 x10 M h H locs ls hw (lv_sub hl [1, 2, 0] rfl)
      · have h := zif_f h c9
        refine lv_iload_n hx hb dX11_best_62 rfl (lv_at hl 2 rfl) ?_
        refine lv_istore_n (lv' := [(1, .int v2), (0, .ref (za G t0)), (2, .int v2)]) hx hb dX11_best_63 rfl hl (by decide) rfl (fun ls hl => ?_)
        obtain ⟨x11, ex11, h⟩ := zlet_ex h
        refine lv_iinc (v := x11) (lv' := [(2, .int x11), (1, .int v2), (0, .ref (za G t0))]) hx hb dX11_best_64 hl (k := 2) rfl (by rw [ex11]; rfl) (by decide) rfl (fun ls hl => ?_)
        refine lv_goto (tgt := 18) hx hb dX11_best_67 (by decide) ?_
        exact ih v2 x11 M h H locs ls hw (lv_sub hl [2, 1, 0] rfl)
set_option maxHeartbeats 4000000 in
set_option maxRecDepth 100000 in
theorem c_X11_best (l : Launch) {G : ZG} (hG : zOk G) (t0 : Nat) (k0 : zk G t0 = 21) (M : ZM) (res : (Int32 × ZM)) (h : f_X11_best t0 M = some res) : zCt l yX11_best cX11_best 3 (Option.some FieldType.int) 6 G [.ref (za G t0)] M (some (.int res.1)) res.2 := by
  refine zCt.mk (by decide +kernel) (Nat.le_of_ble_eq_true rfl) ?_
  intro p e s m args below meth c A H locs ls S hr hlk hw hl
  have S : zX p (zR 6) s m args c 0 0 cX11_best 3 RX11 := S
  have hx := S.1.1
  have hb := S.1.2.1
  have hown := S.1.2.2.2.1
  have hts := S.1.2.2.2.2
  have hl : lv_has ls 3 [(0, .ref (za G t0))] := hl
  unfold f_X11_best at h
  refine lv_aload_n hx hb dX11_best_0 rfl (lv_at hl 0 rfl) ?_
  obtain ⟨q1, eq1, h⟩ := Option.bind_eq_some_iff.mp h
  refine z_callV (ci := 11) (As := []) (rest := []) (rv := (some (.int q1.1))) (M1 := q1.2) S hw (c_X11_spent l hG t0 k0 M q1 eq1) mv_X11_spent lk_X11_126 k0 ⟨_, _, rfl⟩ (by decide) rfl rfl (Nat.le_of_ble_eq_true rfl) ⟨Nat.le_of_ble_eq_true rfl, Nat.le_of_ble_eq_true rfl⟩ hl.1 dX11_best_1 (fun H locs hw => ?_)
  refine lv_if_eq (tgt := 14) hx hb dX11_best_4 (by decide) (fun c2 => ?_) (fun c2 => ?_)
  · have h := zif_t h c2
    refine lv_iconst (v := 0) hx hb dX11_best_14 (by decide) ?_
    refine lv_istore_n (lv' := [(1, .int 0), (0, .ref (za G t0))]) hx hb dX11_best_15 rfl hl (by decide) rfl (fun ls hl => ?_)
    refine lv_iconst (v := 1) hx hb dX11_best_16 (by decide) ?_
    refine lv_istore_n (lv' := [(2, .int 1), (1, .int 0), (0, .ref (za G t0))]) hx hb dX11_best_17 rfl hl (by decide) rfl (fun ls hl => ?_)
    refine w_X11_best_18 hG S hr hlk t0 k0 (fun v1 M h H locs ls hw hl => ?_) zN 0 1 q1.2 h H locs ls hw (lv_sub hl [2, 1, 0] rfl)
    refine lv_iload_n hx hb dX11_best_70 rfl (lv_at hl 0 rfl) ?_
    have h := Option.some.inj h
    subst h
    exact z_ret_i S hr hlk hw dX11_best_71
  · have h := zif_f h c2
    refine lv_aload_n hx hb dX11_best_7 rfl (lv_at hl 0 rfl) ?_
    refine lv_bipush (v := (-5)) hx hb dX11_best_8 (by decide) ?_
    obtain ⟨q12, eq12, h⟩ := zlet_ex h
    refine z_callV (ci := 11) (As := [.int (-5)]) (rest := []) (rv := (some (.int q12.1))) (M1 := q12.2) S hw (c_X11_refuse l hG t0 (-5) k0 q1.2 q12 eq12.symm) mv_X11_refuse lk_X11_100 k0 ⟨_, _, rfl⟩ (by decide) rfl rfl (Nat.le_of_ble_eq_true rfl) ⟨Nat.le_of_ble_eq_true rfl, Nat.le_of_ble_eq_true rfl⟩ hl.1 dX11_best_10 (fun H locs hw => ?_)
    have h := Option.some.inj h
    subst h
    exact z_ret_i S hr hlk hw dX11_best_13
def f_X4_become_6 (t0 : Nat) (t1 : Nat) (K : ZM → Option ZM) : Nat → Int32 → ZM → Option ZM
  | 0, _, _ => none
  | n + 1, v2, M =>
    if (M.1 t1 1) ≤ v2 then (
      K M) else (
      zlet (f_X4_at t1 v2 M) fun (q3 : Int32) =>
      zlet (f_X4_add t0 q3 M) fun (q4 : ZM) =>
      zlet (v2 + 1) fun (x5 : Int32) =>
      f_X4_become_6 t0 t1 K n x5 q4)

def f_X4_become (t0 : Nat) (t1 : Nat) (M : ZM) : Option ZM :=
  zlet (f_X4_clear t0 M) fun (q1 : ZM) =>
  f_X4_become_6 t0 t1 (fun (M : ZM) =>
    some M) zN 0 q1
set_option maxHeartbeats 4000000 in
set_option maxRecDepth 100000 in
theorem w_X4_become_6 {G : ZG} (hG : zOk G) (S : zX p (zR 2) s m args c 0 0 cX4_become 3 RX4) (hr : meth.sig.returnType = none) (hlk : meth.locks = false) (t0 : Nat) (t1 : Nat) (k0 : zk G t0 = 14) (k1 : zk G t1 = 14)  {K : ZM → Option ZM} {res : ZM} (hK : ∀  (M : ZM), K M = some res → ∀ (H : Heap) (locs : List Loc) (ls : Array Slot), zWd G A s H locs M → lv_has ls 3 [] → W p l e (zR 2) s m args below meth c H locs 0 0 (zQ below G A none res args s) (F0 m 29 ls [])) : ∀ (n : Nat) (v2 : Int32) (M : ZM), f_X4_become_6 t0 t1 K n v2 M = some res → ∀ (H : Heap) (locs : List Loc) (ls : Array Slot), zWd G A s H locs M → lv_has ls 3 [(0, .ref (za G t0)), (1, .ref (za G t1)), (2, .int v2)] → W p l e (zR 2) s m args below meth c H locs 0 0 (zQ below G A none res args s) (F0 m 6 ls []) := by
  have hx := S.1.1
  have hb := S.1.2.1
  have hown := S.1.2.2.2.1
  have hts := S.1.2.2.2.2
  intro n
  induction n with
  | zero =>
    intro v2 M h
    rw [f_X4_become_6] at h
    cases h
  | succ n ih =>
    intro v2 M h H locs ls hw hl
    rw [f_X4_become_6] at h
    refine lv_iload_n hx hb dX4_become_6 rfl (lv_at hl 2 rfl) ?_
    refine lv_aload_n hx hb dX4_become_7 rfl (lv_at hl 1 rfl) ?_
    refine z_getI S hw k1 fl_X4_15 rfl dX4_become_8 ?_
    refine lv_icmp_ge (tgt := 29) hx hb dX4_become_11 (by decide) (fun c2 => ?_) (fun c2 => ?_)
    · have h := zif_t h c2
      exact hK M h H locs ls hw (lv_sub hl [] rfl)
    · have h := zif_f h c2
      refine lv_aload_n hx hb dX4_become_14 rfl (lv_at hl 0 rfl) ?_
      refine lv_aload_n hx hb dX4_become_15 rfl (lv_at hl 1 rfl) ?_
      refine lv_iload_n hx hb dX4_become_16 rfl (lv_at hl 2 rfl) ?_
      obtain ⟨q3, eq3, h⟩ := zlet_ex h
      refine z_callV (ci := 4) (As := [.int v2]) (rest := [.ref (za G t0)]) (rv := (some (.int q3))) (M1 := M) S hw (c_X4_at l hG t1 v2 k1 M q3 eq3.symm) mv_X4_at lk_X4_23 k1 ⟨_, _, rfl⟩ (by decide) rfl rfl (Nat.le_of_ble_eq_true rfl) ⟨Nat.le_of_ble_eq_true rfl, Nat.le_of_ble_eq_true rfl⟩ hl.1 dX4_become_17 (fun H locs hw => ?_)
      obtain ⟨q4, eq4, h⟩ := zlet_ex h
      refine z_callV (ci := 4) (As := [.int q3]) (rest := []) (rv := none) (M1 := q4) S hw (c_X4_add l hG t0 q3 k0 M q4 eq4.symm) mv_X4_add lk_X4_34 k0 ⟨_, _, rfl⟩ (by decide) rfl rfl (Nat.le_of_ble_eq_true rfl) ⟨Nat.le_of_ble_eq_true rfl, Nat.le_of_ble_eq_true rfl⟩ hl.1 dX4_become_20 (fun H locs hw => ?_)
      obtain ⟨x5, ex5, h⟩ := zlet_ex h
      refine lv_iinc (v := x5) (lv' := [(2, .int x5), (0, .ref (za G t0)), (1, .ref (za G t1))]) hx hb dX4_become_23 hl (k := 2) rfl (by rw [ex5]; rfl) (by decide) rfl (fun ls hl => ?_)
      refine lv_goto (tgt := 6) hx hb dX4_become_26 (by decide) ?_
      exact ih x5 q4 h H locs ls hw (lv_sub hl [1, 2, 0] rfl)
set_option maxHeartbeats 4000000 in
set_option maxRecDepth 100000 in
theorem c_X4_become (l : Launch) {G : ZG} (hG : zOk G) (t0 : Nat) (t1 : Nat) (k0 : zk G t0 = 14) (k1 : zk G t1 = 14) (M : ZM) (res : ZM) (h : f_X4_become t0 t1 M = some res) : zCt l yX4_become cX4_become 3 none 2 G [.ref (za G t0), .ref (za G t1)] M none res := by
  refine zCt.mk (by decide +kernel) (Nat.le_of_ble_eq_true rfl) ?_
  intro p e s m args below meth c A H locs ls S hr hlk hw hl
  have S : zX p (zR 2) s m args c 0 0 cX4_become 3 RX4 := S
  have hx := S.1.1
  have hb := S.1.2.1
  have hown := S.1.2.2.2.1
  have hts := S.1.2.2.2.2
  have hl : lv_has ls 3 [(0, .ref (za G t0)), (1, .ref (za G t1))] := hl
  unfold f_X4_become at h
  refine lv_aload_n hx hb dX4_become_0 rfl (lv_at hl 0 rfl) ?_
  obtain ⟨q1, eq1, h⟩ := zlet_ex h
  refine z_callV (ci := 4) (As := []) (rest := []) (rv := none) (M1 := q1) S hw (c_X4_clear l hG t0 k0 M q1 eq1.symm) mv_X4_clear lk_X4_31 k0 ⟨_, _, rfl⟩ (by decide) rfl rfl (Nat.le_of_ble_eq_true rfl) ⟨Nat.le_of_ble_eq_true rfl, Nat.le_of_ble_eq_true rfl⟩ hl.1 dX4_become_1 (fun H locs hw => ?_)
  refine lv_iconst (v := 0) hx hb dX4_become_4 (by decide) ?_
  refine lv_istore_n (lv' := [(2, .int 0), (0, .ref (za G t0)), (1, .ref (za G t1))]) hx hb dX4_become_5 rfl hl (by decide) rfl (fun ls hl => ?_)
  refine w_X4_become_6 hG S hr hlk t0 t1 k0 k1 (fun M h H locs ls hw hl => ?_) zN 0 q1 h H locs ls hw (lv_sub hl [1, 2, 0] rfl)
  have h := Option.some.inj h
  subst h
  exact z_ret_v S hr hlk hw dX4_become_29
def f_X0_become_7 (t0 : Nat) (t1 : Nat) (K : ZM → Option ZM) : Nat → Int32 → ZM → Option ZM
  | 0, _, _ => none
  | n + 1, v2, M =>
    if (M.1 t1 2) ≤ v2 then (
      K M) else (
      zlet (f_X11_look (zr t1 0) v2 M) fun (q3 : Int32) =>
      zlet (f_X11_look (zr t1 1) v2 M) fun (q4 : Int32) =>
      zlet (f_X0_add t0 q3 q4 M) fun (q5 : ZM) =>
      zlet (v2 + 1) fun (x6 : Int32) =>
      f_X0_become_7 t0 t1 K n x6 q5)

def f_X0_become (t0 : Nat) (t1 : Nat) (M : ZM) : Option ZM :=
  zlet (zi M t0 2 0) fun (M1 : ZM) =>
  f_X0_become_7 t0 t1 (fun (M : ZM) =>
    some M) zN 0 M1
set_option maxHeartbeats 4000000 in
set_option maxRecDepth 100000 in
theorem w_X0_become_7 {G : ZG} (hG : zOk G) (S : zX p (zR 2) s m args c 0 0 cX0_become 3 RX0) (hr : meth.sig.returnType = none) (hlk : meth.locks = false) (t0 : Nat) (t1 : Nat) (k0 : zk G t0 = 10) (k1 : zk G t1 = 10)  {K : ZM → Option ZM} {res : ZM} (hK : ∀  (M : ZM), K M = some res → ∀ (H : Heap) (locs : List Loc) (ls : Array Slot), zWd G A s H locs M → lv_has ls 3 [] → W p l e (zR 2) s m args below meth c H locs 0 0 (zQ below G A none res args s) (F0 m 41 ls [])) : ∀ (n : Nat) (v2 : Int32) (M : ZM), f_X0_become_7 t0 t1 K n v2 M = some res → ∀ (H : Heap) (locs : List Loc) (ls : Array Slot), zWd G A s H locs M → lv_has ls 3 [(0, .ref (za G t0)), (1, .ref (za G t1)), (2, .int v2)] → W p l e (zR 2) s m args below meth c H locs 0 0 (zQ below G A none res args s) (F0 m 7 ls []) := by
  have hx := S.1.1
  have hb := S.1.2.1
  have hown := S.1.2.2.2.1
  have hts := S.1.2.2.2.2
  intro n
  induction n with
  | zero =>
    intro v2 M h
    rw [f_X0_become_7] at h
    cases h
  | succ n ih =>
    intro v2 M h H locs ls hw hl
    rw [f_X0_become_7] at h
    refine lv_iload_n hx hb dX0_become_7 rfl (lv_at hl 2 rfl) ?_
    refine lv_aload_n hx hb dX0_become_8 rfl (lv_at hl 1 rfl) ?_
    refine z_getI S hw k1 fl_X0_18 rfl dX0_become_9 ?_
    refine lv_icmp_ge (tgt := 41) hx hb dX0_become_12 (by decide) (fun c2 => ?_) (fun c2 => ?_)
    · have h := zif_t h c2
      exact hK M h H locs ls hw (lv_sub hl [] rfl)
    · have h := zif_f h c2
      refine lv_aload_n hx hb dX0_become_15 rfl (lv_at hl 0 rfl) ?_
      refine lv_aload_n hx hb dX0_become_16 rfl (lv_at hl 1 rfl) ?_
      refine z_getR S hw k1 fl_X0_9 rfl dX0_become_17 ?_
      refine lv_iload_n hx hb dX0_become_20 rfl (lv_at hl 2 rfl) ?_
      obtain ⟨q3, eq3, h⟩ := zlet_ex h
      refine z_callS (As := [.ref (za G (zr t1 0)), .int v2]) (rest := [.ref (za G t0)]) (rv := (some (.int q3))) (M1 := M) S hw (c_X11_look l hG (zr t1 0) v2 (kr_0_0 hG k1) M q3 eq3.symm) mv_X11_look lk_X0_26 rfl rfl (Nat.le_of_ble_eq_true rfl) ⟨Nat.le_of_ble_eq_true rfl, Nat.le_of_ble_eq_true rfl⟩ hl.1 dX0_become_21 (fun H locs hw => ?_)
      refine lv_aload_n hx hb dX0_become_24 rfl (lv_at hl 1 rfl) ?_
      refine z_getR S hw k1 fl_X0_15 rfl dX0_become_25 ?_
      refine lv_iload_n hx hb dX0_become_28 rfl (lv_at hl 2 rfl) ?_
      obtain ⟨q4, eq4, h⟩ := zlet_ex h
      refine z_callS (As := [.ref (za G (zr t1 1)), .int v2]) (rest := [.int q3, .ref (za G t0)]) (rv := (some (.int q4))) (M1 := M) S hw (c_X11_look l hG (zr t1 1) v2 (kr_0_1 hG k1) M q4 eq4.symm) mv_X11_look lk_X0_26 rfl rfl (Nat.le_of_ble_eq_true rfl) ⟨Nat.le_of_ble_eq_true rfl, Nat.le_of_ble_eq_true rfl⟩ hl.1 dX0_become_29 (fun H locs hw => ?_)
      obtain ⟨q5, eq5, h⟩ := zlet_ex h
      refine z_callV (ci := 0) (As := [.int q3, .int q4]) (rest := []) (rv := none) (M1 := q5) S hw (c_X0_add l hG t0 q3 q4 k0 M q5 eq5.symm) mv_X0_add lk_X0_30 k0 ⟨_, _, rfl⟩ (by decide) rfl rfl (Nat.le_of_ble_eq_true rfl) ⟨Nat.le_of_ble_eq_true rfl, Nat.le_of_ble_eq_true rfl⟩ hl.1 dX0_become_32 (fun H locs hw => ?_)
      obtain ⟨x6, ex6, h⟩ := zlet_ex h
      refine lv_iinc (v := x6) (lv' := [(2, .int x6), (0, .ref (za G t0)), (1, .ref (za G t1))]) hx hb dX0_become_35 hl (k := 2) rfl (by rw [ex6]; rfl) (by decide) rfl (fun ls hl => ?_)
      refine lv_goto (tgt := 7) hx hb dX0_become_38 (by decide) ?_
      exact ih x6 q5 h H locs ls hw (lv_sub hl [1, 2, 0] rfl)
set_option maxHeartbeats 4000000 in
set_option maxRecDepth 100000 in
theorem c_X0_become (l : Launch) {G : ZG} (hG : zOk G) (t0 : Nat) (t1 : Nat) (k0 : zk G t0 = 10) (k1 : zk G t1 = 10) (M : ZM) (res : ZM) (h : f_X0_become t0 t1 M = some res) : zCt l yX0_become cX0_become 3 none 2 G [.ref (za G t0), .ref (za G t1)] M none res := by
  refine zCt.mk (by decide +kernel) (Nat.le_of_ble_eq_true rfl) ?_
  intro p e s m args below meth c A H locs ls S hr hlk hw hl
  have S : zX p (zR 2) s m args c 0 0 cX0_become 3 RX0 := S
  have hx := S.1.1
  have hb := S.1.2.1
  have hown := S.1.2.2.2.1
  have hts := S.1.2.2.2.2
  have hl : lv_has ls 3 [(0, .ref (za G t0)), (1, .ref (za G t1))] := hl
  unfold f_X0_become at h
  refine lv_aload_n hx hb dX0_become_0 rfl (lv_at hl 0 rfl) ?_
  refine lv_iconst (v := 0) hx hb dX0_become_1 (by decide) ?_
  obtain ⟨M1, eM1, h⟩ := zlet_ex h
  refine z_putI S hw eM1 k0 fl_X0_18 rfl (fun h => absurd h (by decide)) dX0_become_2 (fun H locs hw => ?_)
  refine lv_iconst (v := 0) hx hb dX0_become_5 (by decide) ?_
  refine lv_istore_n (lv' := [(2, .int 0), (0, .ref (za G t0)), (1, .ref (za G t1))]) hx hb dX0_become_6 rfl hl (by decide) rfl (fun ls hl => ?_)
  refine w_X0_become_7 hG S hr hlk t0 t1 k0 k1 (fun M h H locs ls hw hl => ?_) zN 0 M1 h H locs ls hw (lv_sub hl [1, 2, 0] rfl)
  have h := Option.some.inj h
  subst h
  exact z_ret_v S hr hlk hw dX0_become_41
def f_X1_take (t0 : Nat) (t1 : Nat) (t2 : Nat) (t3 : Nat) (M : ZM) : Option ZM :=
  (f_X10_become (zr t0 0) t1 M).bind fun (q1 : ZM) =>
  (f_X4_become (zr t0 1) t2 q1).bind fun (q2 : ZM) =>
  (f_X0_become (zr t0 2) t3 q2).bind fun (q3 : ZM) =>
  zlet (zi q3 t0 3 1) fun (M4 : ZM) =>
  some M4
set_option maxHeartbeats 4000000 in
set_option maxRecDepth 100000 in
theorem c_X1_take (l : Launch) {G : ZG} (hG : zOk G) (t0 : Nat) (t1 : Nat) (t2 : Nat) (t3 : Nat) (k0 : zk G t0 = 11) (k1 : zk G t1 = 20) (k2 : zk G t2 = 14) (k3 : zk G t3 = 10) (M : ZM) (res : ZM) (h : f_X1_take t0 t1 t2 t3 M = some res) : zCt l yX1_take cX1_take 4 none 3 G [.ref (za G t0), .ref (za G t1), .ref (za G t2), .ref (za G t3)] M none res := by
  refine zCt.mk (by decide +kernel) (Nat.le_of_ble_eq_true rfl) ?_
  intro p e s m args below meth c A H locs ls S hr hlk hw hl
  have S : zX p (zR 3) s m args c 0 0 cX1_take 4 RX1 := S
  have hx := S.1.1
  have hb := S.1.2.1
  have hown := S.1.2.2.2.1
  have hts := S.1.2.2.2.2
  have hl : lv_has ls 4 [(0, .ref (za G t0)), (1, .ref (za G t1)), (2, .ref (za G t2)), (3, .ref (za G t3))] := hl
  unfold f_X1_take at h
  refine lv_aload_n hx hb dX1_take_0 rfl (lv_at hl 0 rfl) ?_
  refine z_getR S hw k0 fl_X1_10 rfl dX1_take_1 ?_
  refine lv_aload_n hx hb dX1_take_4 rfl (lv_at hl 1 rfl) ?_
  obtain ⟨q1, eq1, h⟩ := Option.bind_eq_some_iff.mp h
  refine z_callV (ci := 10) (As := [.ref (za G t1)]) (rest := []) (rv := none) (M1 := q1) S hw (c_X10_become l hG (zr t0 0) t1 (kr_1_0 hG k0) k1 M q1 eq1) mv_X10_become lk_X1_34 (kr_1_0 hG k0) ⟨_, _, rfl⟩ (by decide) rfl rfl (Nat.le_of_ble_eq_true rfl) ⟨Nat.le_of_ble_eq_true rfl, Nat.le_of_ble_eq_true rfl⟩ hl.1 dX1_take_5 (fun H locs hw => ?_)
  refine lv_aload_n hx hb dX1_take_8 rfl (lv_at hl 0 rfl) ?_
  refine z_getR S hw k0 fl_X1_19 rfl dX1_take_9 ?_
  refine lv_aload_n hx hb dX1_take_12 rfl (lv_at hl 2 rfl) ?_
  obtain ⟨q2, eq2, h⟩ := Option.bind_eq_some_iff.mp h
  refine z_callV (ci := 4) (As := [.ref (za G t2)]) (rest := []) (rv := none) (M1 := q2) S hw (c_X4_become l hG (zr t0 1) t2 (kr_1_1 hG k0) k2 q1 q2 eq2) mv_X4_become lk_X1_38 (kr_1_1 hG k0) ⟨_, _, rfl⟩ (by decide) rfl rfl (Nat.le_of_ble_eq_true rfl) ⟨Nat.le_of_ble_eq_true rfl, Nat.le_of_ble_eq_true rfl⟩ hl.1 dX1_take_13 (fun H locs hw => ?_)
  refine lv_aload_n hx hb dX1_take_16 rfl (lv_at hl 0 rfl) ?_
  refine z_getR S hw k0 fl_X1_26 rfl dX1_take_17 ?_
  refine lv_aload_n hx hb dX1_take_20 rfl (lv_at hl 3 rfl) ?_
  obtain ⟨q3, eq3, h⟩ := Option.bind_eq_some_iff.mp h
  refine z_callV (ci := 0) (As := [.ref (za G t3)]) (rest := []) (rv := none) (M1 := q3) S hw (c_X0_become l hG (zr t0 2) t3 (kr_1_2 hG k0) k3 q2 q3 eq3) mv_X0_become lk_X1_41 (kr_1_2 hG k0) ⟨_, _, rfl⟩ (by decide) rfl rfl (Nat.le_of_ble_eq_true rfl) ⟨Nat.le_of_ble_eq_true rfl, Nat.le_of_ble_eq_true rfl⟩ hl.1 dX1_take_21 (fun H locs hw => ?_)
  refine lv_aload_n hx hb dX1_take_24 rfl (lv_at hl 0 rfl) ?_
  refine lv_iconst (v := 1) hx hb dX1_take_25 (by decide) ?_
  obtain ⟨M4, eM4, h⟩ := zlet_ex h
  refine z_putI S hw eM4 k0 fl_X1_30 rfl (fun _ => by decide) dX1_take_26 (fun H locs hw => ?_)
  have h := Option.some.inj h
  subst h
  exact z_ret_v S hr hlk hw dX1_take_29
def f_X11_image (t0 : Nat) (M : ZM) : Option (Int32 × ZM) :=
  (f_X1_take (zr t0 12) (zr t0 1) (zr t0 7) (zr t0 11) M).bind fun (q1 : ZM) =>
  zlet (f_X10_size (zr t0 1) q1) fun (q2 : Int32) =>
  some (q2, q1)
set_option maxHeartbeats 4000000 in
set_option maxRecDepth 100000 in
theorem c_X11_image (l : Launch) {G : ZG} (hG : zOk G) (t0 : Nat) (k0 : zk G t0 = 21) (M : ZM) (res : (Int32 × ZM)) (h : f_X11_image t0 M = some res) : zCt l yX11_image cX11_image 1 (Option.some FieldType.int) 4 G [.ref (za G t0)] M (some (.int res.1)) res.2 := by
  refine zCt.mk (by decide +kernel) (Nat.le_of_ble_eq_true rfl) ?_
  intro p e s m args below meth c A H locs ls S hr hlk hw hl
  have S : zX p (zR 4) s m args c 0 0 cX11_image 1 RX11 := S
  have hx := S.1.1
  have hb := S.1.2.1
  have hown := S.1.2.2.2.1
  have hts := S.1.2.2.2.2
  have hl : lv_has ls 1 [(0, .ref (za G t0))] := hl
  unfold f_X11_image at h
  refine lv_aload_n hx hb dX11_image_0 rfl (lv_at hl 0 rfl) ?_
  refine z_getR S hw k0 fl_X11_84 rfl dX11_image_1 ?_
  refine lv_aload_n hx hb dX11_image_4 rfl (lv_at hl 0 rfl) ?_
  refine z_getR S hw k0 fl_X11_16 rfl dX11_image_5 ?_
  refine lv_aload_n hx hb dX11_image_8 rfl (lv_at hl 0 rfl) ?_
  refine z_getR S hw k0 fl_X11_53 rfl dX11_image_9 ?_
  refine lv_aload_n hx hb dX11_image_12 rfl (lv_at hl 0 rfl) ?_
  refine z_getR S hw k0 fl_X11_77 rfl dX11_image_13 ?_
  obtain ⟨q1, eq1, h⟩ := Option.bind_eq_some_iff.mp h
  refine z_callV (ci := 1) (As := [.ref (za G (zr t0 1)), .ref (za G (zr t0 7)), .ref (za G (zr t0 11))]) (rest := []) (rv := none) (M1 := q1) S hw (c_X1_take l hG (zr t0 12) (zr t0 1) (zr t0 7) (zr t0 11) (kr_11_12 hG k0) (kr_11_1 hG k0) (kr_11_7 hG k0) (kr_11_11 hG k0) M q1 eq1) mv_X1_take lk_X11_245 (kr_11_12 hG k0) ⟨_, _, rfl⟩ (by decide) rfl rfl (Nat.le_of_ble_eq_true rfl) ⟨Nat.le_of_ble_eq_true rfl, Nat.le_of_ble_eq_true rfl⟩ hl.1 dX11_image_16 (fun H locs hw => ?_)
  refine lv_aload_n hx hb dX11_image_19 rfl (lv_at hl 0 rfl) ?_
  refine z_getR S hw k0 fl_X11_16 rfl dX11_image_20 ?_
  obtain ⟨q2, eq2, h⟩ := zlet_ex h
  refine z_callV (ci := 10) (As := []) (rest := []) (rv := (some (.int q2))) (M1 := q1) S hw (c_X10_size l hG (zr t0 1) (kr_11_1 hG k0) q1 q2 eq2.symm) mv_X10_size lk_X11_104 (kr_11_1 hG k0) ⟨_, _, rfl⟩ (by decide) rfl rfl (Nat.le_of_ble_eq_true rfl) ⟨Nat.le_of_ble_eq_true rfl, Nat.le_of_ble_eq_true rfl⟩ hl.1 dX11_image_23 (fun H locs hw => ?_)
  have h := Option.some.inj h
  subst h
  exact z_ret_i S hr hlk hw dX11_image_26
def f_X1_isThere (t0 : Nat) (M : ZM) : Option Int32 :=
  zck (zbo (M.1 t0 3)) <|
  some (M.1 t0 3)
set_option maxHeartbeats 4000000 in
set_option maxRecDepth 100000 in
theorem c_X1_isThere (l : Launch) {G : ZG} (hG : zOk G) (t0 : Nat) (k0 : zk G t0 = 11) (M : ZM) (res : Int32) (h : f_X1_isThere t0 M = some res) : zCt l yX1_isThere cX1_isThere 1 (Option.some FieldType.boolean) 0 G [.ref (za G t0)] M (some (.int res)) M := by
  refine zCt.mk (by decide +kernel) (Nat.le_of_ble_eq_true rfl) ?_
  intro p e s m args below meth c A H locs ls S hr hlk hw hl
  have S : zX p (zR 0) s m args c 0 0 cX1_isThere 1 RX1 := S
  have hx := S.1.1
  have hb := S.1.2.1
  have hown := S.1.2.2.2.1
  have hts := S.1.2.2.2.2
  have hl : lv_has ls 1 [(0, .ref (za G t0))] := hl
  unfold f_X1_isThere at h
  refine lv_aload_n hx hb dX1_isThere_0 rfl (lv_at hl 0 rfl) ?_
  refine z_getI S hw k0 fl_X1_30 rfl dX1_isThere_1 ?_
  obtain ⟨g1, h⟩ := zck_ex h
  have h := Option.some.inj h
  subst h
  exact z_ret_z S hr hlk (zbo_of g1) hw dX1_isThere_4
set_option maxHeartbeats 4000000 in
set_option maxRecDepth 100000 in
theorem c_X1_words (l : Launch) {G : ZG} (hG : zOk G) (t0 : Nat) (k0 : zk G t0 = 11) (M : ZM) : zCt l yX1_words cX1_words 1 (Option.some (FieldType.object "MayBeRead$Words")) 0 G [.ref (za G t0)] M (some (.ref (za G (zr t0 0)))) M := by
  refine zCt.mk (by decide +kernel) (Nat.le_of_ble_eq_true rfl) ?_
  intro p e s m args below meth c A H locs ls S hr hlk hw hl
  have S : zX p (zR 0) s m args c 0 0 cX1_words 1 RX1 := S
  have hx := S.1.1
  have hb := S.1.2.1
  have hown := S.1.2.2.2.1
  have hts := S.1.2.2.2.2
  have hl : lv_has ls 1 [(0, .ref (za G t0))] := hl
  refine lv_aload_n hx hb dX1_words_0 rfl (lv_at hl 0 rfl) ?_
  refine z_getR S hw k0 fl_X1_10 rfl dX1_words_1 ?_
  exact z_ret_r S hr hlk hw dX1_words_4
set_option maxHeartbeats 4000000 in
set_option maxRecDepth 100000 in
theorem c_X1_order (l : Launch) {G : ZG} (hG : zOk G) (t0 : Nat) (k0 : zk G t0 = 11) (M : ZM) : zCt l yX1_order cX1_order 1 (Option.some (FieldType.object "MayBeRead$Order")) 0 G [.ref (za G t0)] M (some (.ref (za G (zr t0 1)))) M := by
  refine zCt.mk (by decide +kernel) (Nat.le_of_ble_eq_true rfl) ?_
  intro p e s m args below meth c A H locs ls S hr hlk hw hl
  have S : zX p (zR 0) s m args c 0 0 cX1_order 1 RX1 := S
  have hx := S.1.1
  have hb := S.1.2.1
  have hown := S.1.2.2.2.1
  have hts := S.1.2.2.2.2
  have hl : lv_has ls 1 [(0, .ref (za G t0))] := hl
  refine lv_aload_n hx hb dX1_order_0 rfl (lv_at hl 0 rfl) ?_
  refine z_getR S hw k0 fl_X1_19 rfl dX1_order_1 ?_
  exact z_ret_r S hr hlk hw dX1_order_4
set_option maxHeartbeats 4000000 in
set_option maxRecDepth 100000 in
theorem c_X1_aims (l : Launch) {G : ZG} (hG : zOk G) (t0 : Nat) (k0 : zk G t0 = 11) (M : ZM) : zCt l yX1_aims cX1_aims 1 (Option.some (FieldType.object "MayBeRead$Aims")) 0 G [.ref (za G t0)] M (some (.ref (za G (zr t0 2)))) M := by
  refine zCt.mk (by decide +kernel) (Nat.le_of_ble_eq_true rfl) ?_
  intro p e s m args below meth c A H locs ls S hr hlk hw hl
  have S : zX p (zR 0) s m args c 0 0 cX1_aims 1 RX1 := S
  have hx := S.1.1
  have hb := S.1.2.1
  have hown := S.1.2.2.2.1
  have hts := S.1.2.2.2.2
  have hl : lv_has ls 1 [(0, .ref (za G t0))] := hl
  refine lv_aload_n hx hb dX1_aims_0 rfl (lv_at hl 0 rfl) ?_
  refine z_getR S hw k0 fl_X1_26 rfl dX1_aims_1 ?_
  exact z_ret_r S hr hlk hw dX1_aims_4
def f_X11_on (t0 : Nat) (M : ZM) : Option (Int32 × ZM) :=
  (f_X1_isThere (zr t0 12) M).bind fun (q1 : Int32) =>
  if q1 = 0 then (
    zlet (f_X11_refuse t0 (-3) M) fun (q7 : (Int32 × ZM)) =>
    some (q7.1, q7.2)) else (
    (f_X11_takeSentence t0 (zr (zr t0 12) 0) M).bind fun (q3 : ZM) =>
    (f_X4_become (zr t0 7) (zr (zr t0 12) 1) q3).bind fun (q4 : ZM) =>
    (f_X0_become (zr t0 11) (zr (zr t0 12) 2) q4).bind fun (q5 : ZM) =>
    zlet (f_X10_size (zr t0 1) q5) fun (q6 : Int32) =>
    some (q6, q5))
set_option maxHeartbeats 4000000 in
set_option maxRecDepth 100000 in
theorem c_X11_on (l : Launch) {G : ZG} (hG : zOk G) (t0 : Nat) (k0 : zk G t0 = 21) (M : ZM) (res : (Int32 × ZM)) (h : f_X11_on t0 M = some res) : zCt l yX11_on cX11_on 1 (Option.some FieldType.int) 5 G [.ref (za G t0)] M (some (.int res.1)) res.2 := by
  refine zCt.mk (by decide +kernel) (Nat.le_of_ble_eq_true rfl) ?_
  intro p e s m args below meth c A H locs ls S hr hlk hw hl
  have S : zX p (zR 5) s m args c 0 0 cX11_on 1 RX11 := S
  have hx := S.1.1
  have hb := S.1.2.1
  have hown := S.1.2.2.2.1
  have hts := S.1.2.2.2.2
  have hl : lv_has ls 1 [(0, .ref (za G t0))] := hl
  unfold f_X11_on at h
  refine lv_aload_n hx hb dX11_on_0 rfl (lv_at hl 0 rfl) ?_
  refine z_getR S hw k0 fl_X11_84 rfl dX11_on_1 ?_
  obtain ⟨q1, eq1, h⟩ := Option.bind_eq_some_iff.mp h
  refine z_callV (ci := 1) (As := []) (rest := []) (rv := (some (.int q1))) (M1 := M) S hw (c_X1_isThere l hG (zr t0 12) (kr_11_12 hG k0) M q1 eq1) mv_X1_isThere lk_X11_249 (kr_11_12 hG k0) ⟨_, _, rfl⟩ (by decide) rfl rfl (Nat.le_of_ble_eq_true rfl) ⟨Nat.le_of_ble_eq_true rfl, Nat.le_of_ble_eq_true rfl⟩ hl.1 dX11_on_4 (fun H locs hw => ?_)
  refine lv_if_ne (tgt := 17) hx hb dX11_on_7 (by decide) (fun c2 => ?_) (fun c2 => ?_)
  · have h := zif_f h c2
    refine lv_aload_n hx hb dX11_on_17 rfl (lv_at hl 0 rfl) ?_
    refine lv_aload_n hx hb dX11_on_18 rfl (lv_at hl 0 rfl) ?_
    refine z_getR S hw k0 fl_X11_84 rfl dX11_on_19 ?_
    refine z_callV (ci := 1) (As := []) (rest := [.ref (za G t0)]) (M1 := M) S hw (c_X1_words l hG (zr t0 12) (kr_11_12 hG k0) M) mv_X1_words lk_X11_252 (kr_11_12 hG k0) ⟨_, _, rfl⟩ (by decide) rfl rfl (Nat.le_of_ble_eq_true rfl) ⟨Nat.le_of_ble_eq_true rfl, Nat.le_of_ble_eq_true rfl⟩ hl.1 dX11_on_22 (fun H locs hw => ?_)
    obtain ⟨q3, eq3, h⟩ := Option.bind_eq_some_iff.mp h
    refine z_callV (ci := 11) (As := [.ref (za G (zr (zr t0 12) 0))]) (rest := []) (rv := none) (M1 := q3) S hw (c_X11_takeSentence l hG t0 (zr (zr t0 12) 0) k0 (kr_1_0 hG (kr_11_12 hG k0)) M q3 eq3) mv_X11_takeSentence lk_X11_113 k0 ⟨_, _, rfl⟩ (by decide) rfl rfl (Nat.le_of_ble_eq_true rfl) ⟨Nat.le_of_ble_eq_true rfl, Nat.le_of_ble_eq_true rfl⟩ hl.1 dX11_on_25 (fun H locs hw => ?_)
    refine lv_aload_n hx hb dX11_on_28 rfl (lv_at hl 0 rfl) ?_
    refine z_getR S hw k0 fl_X11_53 rfl dX11_on_29 ?_
    refine lv_aload_n hx hb dX11_on_32 rfl (lv_at hl 0 rfl) ?_
    refine z_getR S hw k0 fl_X11_84 rfl dX11_on_33 ?_
    refine z_callV (ci := 1) (As := []) (rest := [.ref (za G (zr t0 7))]) (M1 := q3) S hw (c_X1_order l hG (zr t0 12) (kr_11_12 hG k0) q3) mv_X1_order lk_X11_256 (kr_11_12 hG k0) ⟨_, _, rfl⟩ (by decide) rfl rfl (Nat.le_of_ble_eq_true rfl) ⟨Nat.le_of_ble_eq_true rfl, Nat.le_of_ble_eq_true rfl⟩ hl.1 dX11_on_36 (fun H locs hw => ?_)
    obtain ⟨q4, eq4, h⟩ := Option.bind_eq_some_iff.mp h
    refine z_callV (ci := 4) (As := [.ref (za G (zr (zr t0 12) 1))]) (rest := []) (rv := none) (M1 := q4) S hw (c_X4_become l hG (zr t0 7) (zr (zr t0 12) 1) (kr_11_7 hG k0) (kr_1_1 hG (kr_11_12 hG k0)) q3 q4 eq4) mv_X4_become lk_X11_259 (kr_11_7 hG k0) ⟨_, _, rfl⟩ (by decide) rfl rfl (Nat.le_of_ble_eq_true rfl) ⟨Nat.le_of_ble_eq_true rfl, Nat.le_of_ble_eq_true rfl⟩ hl.1 dX11_on_39 (fun H locs hw => ?_)
    refine lv_aload_n hx hb dX11_on_42 rfl (lv_at hl 0 rfl) ?_
    refine z_getR S hw k0 fl_X11_77 rfl dX11_on_43 ?_
    refine lv_aload_n hx hb dX11_on_46 rfl (lv_at hl 0 rfl) ?_
    refine z_getR S hw k0 fl_X11_84 rfl dX11_on_47 ?_
    refine z_callV (ci := 1) (As := []) (rest := [.ref (za G (zr t0 11))]) (M1 := q4) S hw (c_X1_aims l hG (zr t0 12) (kr_11_12 hG k0) q4) mv_X1_aims lk_X11_263 (kr_11_12 hG k0) ⟨_, _, rfl⟩ (by decide) rfl rfl (Nat.le_of_ble_eq_true rfl) ⟨Nat.le_of_ble_eq_true rfl, Nat.le_of_ble_eq_true rfl⟩ hl.1 dX11_on_50 (fun H locs hw => ?_)
    obtain ⟨q5, eq5, h⟩ := Option.bind_eq_some_iff.mp h
    refine z_callV (ci := 0) (As := [.ref (za G (zr (zr t0 12) 2))]) (rest := []) (rv := none) (M1 := q5) S hw (c_X0_become l hG (zr t0 11) (zr (zr t0 12) 2) (kr_11_11 hG k0) (kr_1_2 hG (kr_11_12 hG k0)) q4 q5 eq5) mv_X0_become lk_X11_266 (kr_11_11 hG k0) ⟨_, _, rfl⟩ (by decide) rfl rfl (Nat.le_of_ble_eq_true rfl) ⟨Nat.le_of_ble_eq_true rfl, Nat.le_of_ble_eq_true rfl⟩ hl.1 dX11_on_53 (fun H locs hw => ?_)
    refine lv_aload_n hx hb dX11_on_56 rfl (lv_at hl 0 rfl) ?_
    refine z_getR S hw k0 fl_X11_16 rfl dX11_on_57 ?_
    obtain ⟨q6, eq6, h⟩ := zlet_ex h
    refine z_callV (ci := 10) (As := []) (rest := []) (rv := (some (.int q6))) (M1 := q5) S hw (c_X10_size l hG (zr t0 1) (kr_11_1 hG k0) q5 q6 eq6.symm) mv_X10_size lk_X11_104 (kr_11_1 hG k0) ⟨_, _, rfl⟩ (by decide) rfl rfl (Nat.le_of_ble_eq_true rfl) ⟨Nat.le_of_ble_eq_true rfl, Nat.le_of_ble_eq_true rfl⟩ hl.1 dX11_on_60 (fun H locs hw => ?_)
    have h := Option.some.inj h
    subst h
    exact z_ret_i S hr hlk hw dX11_on_63
  · have h := zif_t h c2
    refine lv_aload_n hx hb dX11_on_10 rfl (lv_at hl 0 rfl) ?_
    refine lv_bipush (v := (-3)) hx hb dX11_on_11 (by decide) ?_
    obtain ⟨q7, eq7, h⟩ := zlet_ex h
    refine z_callV (ci := 11) (As := [.int (-3)]) (rest := []) (rv := (some (.int q7.1))) (M1 := q7.2) S hw (c_X11_refuse l hG t0 (-3) k0 M q7 eq7.symm) mv_X11_refuse lk_X11_100 k0 ⟨_, _, rfl⟩ (by decide) rfl rfl (Nat.le_of_ble_eq_true rfl) ⟨Nat.le_of_ble_eq_true rfl, Nat.le_of_ble_eq_true rfl⟩ hl.1 dX11_on_13 (fun H locs hw => ?_)
    have h := Option.some.inj h
    subst h
    exact z_ret_i S hr hlk hw dX11_on_16
def f_X10_letters_4 (t0 : Nat) (M : ZM) (K : Int32 → Option Int32) : Nat → Int32 → Int32 → Option Int32
  | 0, _, _ => none
  | n + 1, v1, v2 =>
    if (M.1 t0 1) ≤ v2 then (
      K v1) else (
      zlet (f_X10_at t0 v2 M) fun (q2 : Int32) =>
      zlet (f_X11_kindOf q2 M) fun (q3 : Int32) =>
      if q3 = 0 then (
        zlet (v1 + 1) fun (x6 : Int32) =>
        zlet (v2 + 1) fun (x7 : Int32) =>
        f_X10_letters_4 t0 M K n x6 x7) else (
        zlet (v2 + 1) fun (x5 : Int32) =>
        f_X10_letters_4 t0 M K n v1 x5))

def f_X10_letters (t0 : Nat) (M : ZM) : Option Int32 :=
  f_X10_letters_4 t0 M (fun (v1 : Int32) =>
    some v1) zN 0 0
set_option maxHeartbeats 4000000 in
set_option maxRecDepth 100000 in
theorem w_X10_letters_4 {G : ZG} (hG : zOk G) (S : zX p (zR 2) s m args c 0 0 cX10_letters 3 RX10) (hr : meth.sig.returnType = (Option.some FieldType.int)) (hlk : meth.locks = false) (t0 : Nat) (k0 : zk G t0 = 20) (M : ZM)  {K : Int32 → Option Int32} {res : Int32} (hK : ∀ (v1 : Int32), K v1 = some res → ∀ (H : Heap) (locs : List Loc) (ls : Array Slot), zWd G A s H locs M → lv_has ls 3 [(1, .int v1)] → W p l e (zR 2) s m args below meth c H locs 0 0 (zQ below G A (some (.int res)) M args s) (F0 m 32 ls [])) : ∀ (n : Nat) (v1 : Int32) (v2 : Int32), f_X10_letters_4 t0 M K n v1 v2 = some res → ∀ (H : Heap) (locs : List Loc) (ls : Array Slot), zWd G A s H locs M → lv_has ls 3 [(0, .ref (za G t0)), (1, .int v1), (2, .int v2)] → W p l e (zR 2) s m args below meth c H locs 0 0 (zQ below G A (some (.int res)) M args s) (F0 m 4 ls []) := by
  have hx := S.1.1
  have hb := S.1.2.1
  have hown := S.1.2.2.2.1
  have hts := S.1.2.2.2.2
  intro n
  induction n with
  | zero =>
    intro v1 v2 h
    rw [f_X10_letters_4] at h
    cases h
  | succ n ih =>
    intro v1 v2 h H locs ls hw hl
    rw [f_X10_letters_4] at h
    refine lv_iload_n hx hb dX10_letters_4 rfl (lv_at hl 2 rfl) ?_
    refine lv_aload_n hx hb dX10_letters_5 rfl (lv_at hl 0 rfl) ?_
    refine z_getI S hw k0 fl_X10_15 rfl dX10_letters_6 ?_
    refine lv_icmp_ge (tgt := 32) hx hb dX10_letters_9 (by decide) (fun c1 => ?_) (fun c1 => ?_)
    · have h := zif_t h c1
      exact hK v1 h H locs ls hw (lv_sub hl [1] rfl)
    · have h := zif_f h c1
      refine lv_aload_n hx hb dX10_letters_12 rfl (lv_at hl 0 rfl) ?_
      refine lv_iload_n hx hb dX10_letters_13 rfl (lv_at hl 2 rfl) ?_
      obtain ⟨q2, eq2, h⟩ := zlet_ex h
      refine z_callV (ci := 10) (As := [.int v2]) (rest := []) (rv := (some (.int q2))) (M1 := M) S hw (c_X10_at l hG t0 v2 k0 M q2 eq2.symm) mv_X10_at lk_X10_30 k0 ⟨_, _, rfl⟩ (by decide) rfl rfl (Nat.le_of_ble_eq_true rfl) ⟨Nat.le_of_ble_eq_true rfl, Nat.le_of_ble_eq_true rfl⟩ hl.1 dX10_letters_14 (fun H locs hw => ?_)
      obtain ⟨q3, eq3, h⟩ := zlet_ex h
      refine z_callS (As := [.int q2]) (rest := []) (rv := (some (.int q3))) (M1 := M) S hw (c_X11_kindOf l hG q2 M q3 eq3.symm) mv_X11_kindOf lk_X10_38 rfl rfl (Nat.le_of_ble_eq_true rfl) ⟨Nat.le_of_ble_eq_true rfl, Nat.le_of_ble_eq_true rfl⟩ hl.1 dX10_letters_17 (fun H locs hw => ?_)
      refine lv_if_ne (tgt := 26) hx hb dX10_letters_20 (by decide) (fun c4 => ?_) (fun c4 => ?_)
      · have h := zif_f h c4
        obtain ⟨x5, ex5, h⟩ := zlet_ex h
        refine lv_iinc (v := x5) (lv' := [(2, .int x5), (0, .ref (za G t0)), (1, .int v1)]) hx hb dX10_letters_26 hl (k := 2) rfl (by rw [ex5]; rfl) (by decide) rfl (fun ls hl => ?_)
        refine lv_goto (tgt := 4) hx hb dX10_letters_29 (by decide) ?_
        exact ih v1 x5 h H locs ls hw (lv_sub hl [1, 2, 0] rfl)
      · have h := zif_t h c4
        obtain ⟨x6, ex6, h⟩ := zlet_ex h
        refine lv_iinc (v := x6) (lv' := [(1, .int x6), (0, .ref (za G t0)), (2, .int v2)]) hx hb dX10_letters_23 hl (k := 1) rfl (by rw [ex6]; rfl) (by decide) rfl (fun ls hl => ?_)
        obtain ⟨x7, ex7, h⟩ := zlet_ex h
        refine lv_iinc (v := x7) (lv' := [(2, .int x7), (1, .int x6), (0, .ref (za G t0))]) hx hb dX10_letters_26 hl (k := 2) rfl (by rw [ex7]; rfl) (by decide) rfl (fun ls hl => ?_)
        refine lv_goto (tgt := 4) hx hb dX10_letters_29 (by decide) ?_
        exact ih x6 x7 h H locs ls hw (lv_sub hl [2, 1, 0] rfl)
set_option maxHeartbeats 4000000 in
set_option maxRecDepth 100000 in
theorem c_X10_letters (l : Launch) {G : ZG} (hG : zOk G) (t0 : Nat) (k0 : zk G t0 = 20) (M : ZM) (res : Int32) (h : f_X10_letters t0 M = some res) : zCt l yX10_letters cX10_letters 3 (Option.some FieldType.int) 2 G [.ref (za G t0)] M (some (.int res)) M := by
  refine zCt.mk (by decide +kernel) (Nat.le_of_ble_eq_true rfl) ?_
  intro p e s m args below meth c A H locs ls S hr hlk hw hl
  have S : zX p (zR 2) s m args c 0 0 cX10_letters 3 RX10 := S
  have hx := S.1.1
  have hb := S.1.2.1
  have hown := S.1.2.2.2.1
  have hts := S.1.2.2.2.2
  have hl : lv_has ls 3 [(0, .ref (za G t0))] := hl
  unfold f_X10_letters at h
  refine lv_iconst (v := 0) hx hb dX10_letters_0 (by decide) ?_
  refine lv_istore_n (lv' := [(1, .int 0), (0, .ref (za G t0))]) hx hb dX10_letters_1 rfl hl (by decide) rfl (fun ls hl => ?_)
  refine lv_iconst (v := 0) hx hb dX10_letters_2 (by decide) ?_
  refine lv_istore_n (lv' := [(2, .int 0), (1, .int 0), (0, .ref (za G t0))]) hx hb dX10_letters_3 rfl hl (by decide) rfl (fun ls hl => ?_)
  refine w_X10_letters_4 hG S hr hlk t0 k0 M (fun v1 h H locs ls hw hl => ?_) zN 0 0 h H locs ls hw (lv_sub hl [2, 1, 0] rfl)
  refine lv_iload_n hx hb dX10_letters_32 rfl (lv_at hl 0 rfl) ?_
  have h := Option.some.inj h
  subst h
  exact z_ret_i S hr hlk hw dX10_letters_33
def f_X11_count (t0 : Nat) (v1 : Int32) (M : ZM) : Option Int32 :=
  if v1 = 0 then (
    zlet (f_X10_size (zr t0 1) M) fun (q2 : Int32) =>
    some q2) else (
  if v1 = 1 then (
    zlet (f_X4_size (zr t0 7) M) fun (q4 : Int32) =>
    some q4) else (
  if v1 = 2 then (
    zlet (f_X0_size (zr t0 11) M) fun (q6 : Int32) =>
    some q6) else (
  if v1 = 3 then (
    zlet (f_X10_size (zr t0 0) M) fun (q8 : Int32) =>
    some q8) else (
  if v1 = 4 then (
    (f_X10_letters (zr t0 1) M).bind fun (q10 : Int32) =>
    some q10) else (
    if v1 < 11 then (
      some ((-9) : Int32)) else (
      if 16 < v1 then (
        some ((-9) : Int32)) else (
        zlet (f_X11_look (zr t0 13) (v1 - 10) M) fun (q13 : Int32) =>
        some q13)))))))
set_option maxHeartbeats 4000000 in
set_option maxRecDepth 100000 in
theorem c_X11_count (l : Launch) {G : ZG} (hG : zOk G) (t0 : Nat) (v1 : Int32) (k0 : zk G t0 = 21) (M : ZM) (res : Int32) (h : f_X11_count t0 v1 M = some res) : zCt l yX11_count cX11_count 2 (Option.some FieldType.int) 3 G [.ref (za G t0), .int v1] M (some (.int res)) M := by
  refine zCt.mk (by decide +kernel) (Nat.le_of_ble_eq_true rfl) ?_
  intro p e s m args below meth c A H locs ls S hr hlk hw hl
  have S : zX p (zR 3) s m args c 0 0 cX11_count 2 RX11 := S
  have hx := S.1.1
  have hb := S.1.2.1
  have hown := S.1.2.2.2.1
  have hts := S.1.2.2.2.2
  have hl : lv_has ls 2 [(0, .ref (za G t0)), (1, .int v1)] := hl
  unfold f_X11_count at h
  refine lv_iload_n hx hb dX11_count_0 rfl (lv_at hl 1 rfl) ?_
  rcases Decidable.em (v1 = 0) with c1 | c1
  · have h := zif_t h c1
    refine z_tab S (off := 35) c1 (by decide) (by decide) dX11_count_1 (by decide +kernel) (tgt := 36) (by decide) ?_
    refine lv_aload_n hx hb dX11_count_36 rfl (lv_at hl 0 rfl) ?_
    refine z_getR S hw k0 fl_X11_16 rfl dX11_count_37 ?_
    obtain ⟨q2, eq2, h⟩ := zlet_ex h
    refine z_callV (ci := 10) (As := []) (rest := []) (rv := (some (.int q2))) (M1 := M) S hw (c_X10_size l hG (zr t0 1) (kr_11_1 hG k0) M q2 eq2.symm) mv_X10_size lk_X11_104 (kr_11_1 hG k0) ⟨_, _, rfl⟩ (by decide) rfl rfl (Nat.le_of_ble_eq_true rfl) ⟨Nat.le_of_ble_eq_true rfl, Nat.le_of_ble_eq_true rfl⟩ hl.1 dX11_count_40 (fun H locs hw => ?_)
    have h := Option.some.inj h
    subst h
    exact z_ret_i S hr hlk hw dX11_count_43
  have h := zif_f h c1
  rcases Decidable.em (v1 = 1) with c3 | c3
  · have h := zif_t h c3
    refine z_tab S (off := 43) c3 (by decide) (by decide) dX11_count_1 (by decide +kernel) (tgt := 44) (by decide) ?_
    refine lv_aload_n hx hb dX11_count_44 rfl (lv_at hl 0 rfl) ?_
    refine z_getR S hw k0 fl_X11_53 rfl dX11_count_45 ?_
    obtain ⟨q4, eq4, h⟩ := zlet_ex h
    refine z_callV (ci := 4) (As := []) (rest := []) (rv := (some (.int q4))) (M1 := M) S hw (c_X4_size l hG (zr t0 7) (kr_11_7 hG k0) M q4 eq4.symm) mv_X4_size lk_X11_195 (kr_11_7 hG k0) ⟨_, _, rfl⟩ (by decide) rfl rfl (Nat.le_of_ble_eq_true rfl) ⟨Nat.le_of_ble_eq_true rfl, Nat.le_of_ble_eq_true rfl⟩ hl.1 dX11_count_48 (fun H locs hw => ?_)
    have h := Option.some.inj h
    subst h
    exact z_ret_i S hr hlk hw dX11_count_51
  have h := zif_f h c3
  rcases Decidable.em (v1 = 2) with c5 | c5
  · have h := zif_t h c5
    refine z_tab S (off := 51) c5 (by decide) (by decide) dX11_count_1 (by decide +kernel) (tgt := 52) (by decide) ?_
    refine lv_aload_n hx hb dX11_count_52 rfl (lv_at hl 0 rfl) ?_
    refine z_getR S hw k0 fl_X11_77 rfl dX11_count_53 ?_
    obtain ⟨q6, eq6, h⟩ := zlet_ex h
    refine z_callV (ci := 0) (As := []) (rest := []) (rv := (some (.int q6))) (M1 := M) S hw (c_X0_size l hG (zr t0 11) (kr_11_11 hG k0) M q6 eq6.symm) mv_X0_size lk_X11_237 (kr_11_11 hG k0) ⟨_, _, rfl⟩ (by decide) rfl rfl (Nat.le_of_ble_eq_true rfl) ⟨Nat.le_of_ble_eq_true rfl, Nat.le_of_ble_eq_true rfl⟩ hl.1 dX11_count_56 (fun H locs hw => ?_)
    have h := Option.some.inj h
    subst h
    exact z_ret_i S hr hlk hw dX11_count_59
  have h := zif_f h c5
  rcases Decidable.em (v1 = 3) with c7 | c7
  · have h := zif_t h c7
    refine z_tab S (off := 59) c7 (by decide) (by decide) dX11_count_1 (by decide +kernel) (tgt := 60) (by decide) ?_
    refine lv_aload_n hx hb dX11_count_60 rfl (lv_at hl 0 rfl) ?_
    refine z_getR S hw k0 fl_X11_10 rfl dX11_count_61 ?_
    obtain ⟨q8, eq8, h⟩ := zlet_ex h
    refine z_callV (ci := 10) (As := []) (rest := []) (rv := (some (.int q8))) (M1 := M) S hw (c_X10_size l hG (zr t0 0) (kr_11_0 hG k0) M q8 eq8.symm) mv_X10_size lk_X11_104 (kr_11_0 hG k0) ⟨_, _, rfl⟩ (by decide) rfl rfl (Nat.le_of_ble_eq_true rfl) ⟨Nat.le_of_ble_eq_true rfl, Nat.le_of_ble_eq_true rfl⟩ hl.1 dX11_count_64 (fun H locs hw => ?_)
    have h := Option.some.inj h
    subst h
    exact z_ret_i S hr hlk hw dX11_count_67
  have h := zif_f h c7
  rcases Decidable.em (v1 = 4) with c9 | c9
  · have h := zif_t h c9
    refine z_tab S (off := 67) c9 (by decide) (by decide) dX11_count_1 (by decide +kernel) (tgt := 68) (by decide) ?_
    refine lv_aload_n hx hb dX11_count_68 rfl (lv_at hl 0 rfl) ?_
    refine z_getR S hw k0 fl_X11_16 rfl dX11_count_69 ?_
    obtain ⟨q10, eq10, h⟩ := Option.bind_eq_some_iff.mp h
    refine z_callV (ci := 10) (As := []) (rest := []) (rv := (some (.int q10))) (M1 := M) S hw (c_X10_letters l hG (zr t0 1) (kr_11_1 hG k0) M q10 eq10) mv_X10_letters lk_X11_269 (kr_11_1 hG k0) ⟨_, _, rfl⟩ (by decide) rfl rfl (Nat.le_of_ble_eq_true rfl) ⟨Nat.le_of_ble_eq_true rfl, Nat.le_of_ble_eq_true rfl⟩ hl.1 dX11_count_72 (fun H locs hw => ?_)
    have h := Option.some.inj h
    subst h
    exact z_ret_i S hr hlk hw dX11_count_75
  have h := zif_f h c9
  have nc1 := zne c1 (z := 0) (by decide)
  have nc3 := zne c3 (z := 1) (by decide)
  have nc5 := zne c5 (z := 2) (by decide)
  have nc7 := zne c7 (z := 3) (by decide)
  have nc9 := zne c9 (z := 4) (by decide)
  refine z_tabD S (by omega) dX11_count_1 (tgt := 76) (by decide) ?_
  refine lv_iload_n hx hb dX11_count_76 rfl (lv_at hl 1 rfl) ?_
  refine lv_bipush (v := 11) hx hb dX11_count_77 (by decide) ?_
  refine lv_icmp_lt (tgt := 102) hx hb dX11_count_79 (by decide) (fun c11 => ?_) (fun c11 => ?_)
  · have h := zif_t h c11
    refine lv_bipush (v := (-9)) hx hb dX11_count_102 (by decide) ?_
    have h := Option.some.inj h
    subst h
    exact z_ret_i S hr hlk hw dX11_count_104
  · have h := zif_f h c11
    refine lv_iload_n hx hb dX11_count_82 rfl (lv_at hl 1 rfl) ?_
    refine lv_bipush (v := 16) hx hb dX11_count_83 (by decide) ?_
    refine lv_icmp_gt (tgt := 102) hx hb dX11_count_85 (by decide) (fun c12 => ?_) (fun c12 => ?_)
    · have h := zif_t h c12
      refine lv_bipush (v := (-9)) hx hb dX11_count_102 (by decide) ?_
      have h := Option.some.inj h
      subst h
      exact z_ret_i S hr hlk hw dX11_count_104
    · have h := zif_f h c12
      refine lv_aload_n hx hb dX11_count_88 rfl (lv_at hl 0 rfl) ?_
      refine z_getR S hw k0 fl_X11_88 rfl dX11_count_89 ?_
      refine lv_iload_n hx hb dX11_count_92 rfl (lv_at hl 1 rfl) ?_
      refine lv_bipush (v := 10) hx hb dX11_count_93 (by decide) ?_
      refine lv_isub hx hb dX11_count_95 ?_
      obtain ⟨q13, eq13, h⟩ := zlet_ex h
      refine z_callS (As := [.ref (za G (zr t0 13)), .int (v1 - 10)]) (rest := []) (rv := (some (.int q13))) (M1 := M) S hw (c_X11_look l hG (zr t0 13) (v1 - 10) (kr_11_13 hG k0) M q13 eq13.symm) mv_X11_look lk_X11_272 rfl rfl (Nat.le_of_ble_eq_true rfl) ⟨Nat.le_of_ble_eq_true rfl, Nat.le_of_ble_eq_true rfl⟩ hl.1 dX11_count_96 (fun H locs hw => ?_)
      refine lv_goto (tgt := 104) hx hb dX11_count_99 (by decide) ?_
      have h := Option.some.inj h
      subst h
      exact z_ret_i S hr hlk hw dX11_count_104
end Z
