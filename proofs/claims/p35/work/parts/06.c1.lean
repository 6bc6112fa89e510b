section Z
variable {p : Program} {l : Launch} {e : Env} {s : State} {m : MethodId} {args : Array Value} {below : List Frame} {meth : Method} {c : Code} {A : Nat → Prop}
def f_X9_reckon_24 (t0 : Nat) (t1 : Nat) (v2 : Int32) (v3 : Int32) (K : ZM → Option ZM) : Nat → Int32 → ZM → Option ZM
  | 0, _, _ => none
  | n + 1, v4, M =>
    zlet (f_X10_size t1 M) fun (q6 : Int32) =>
    if q6 < v4 then (
      K M) else (
      zlet (f_X10_at t1 v2 M) fun (q8 : Int32) =>
      zlet (f_X11_kindOf q8 M) fun (q9 : Int32) =>
      zlet (f_X9_fronted t0 q9 v2 v4 v3 M) fun (q10 : Int64) =>
      zlet (f_X11_put_ (zr t0 1) ((v2 * 22) + v4) q10 M) fun (q11 : ZM) =>
      (f_X9_parted t0 t1 v2 v4 q11).bind fun (q12 : Int64) =>
      zlet (f_X11_put_ (zr t0 0) ((v2 * 22) + v4) (q10 + q12) q11) fun (q13 : ZM) =>
      zlet (v4 + 1) fun (x14 : Int32) =>
      f_X9_reckon_24 t0 t1 v2 v3 K n x14 q13)

def f_X9_reckon_7 (t0 : Nat) (t1 : Nat) (K : ZM → Option ZM) : Nat → Int32 → ZM → Option ZM
  | 0, _, _ => none
  | n + 1, v2, M =>
    if v2 < 0 then (
      K M) else (
      (f_X10_closeAfter t1 (v2 + 1) M).bind fun (q4 : Int32) =>
      zlet (v2 + 1) fun (x5 : Int32) =>
      f_X9_reckon_24 t0 t1 v2 q4 (fun (M : ZM) =>
        zlet (v2 + (-1)) fun (x15 : Int32) =>
        f_X9_reckon_7 t0 t1 K n x15 M) zN x5 M)

def f_X9_reckon (t0 : Nat) (t1 : Nat) (M : ZM) : Option ZM :=
  zlet (f_X10_size t1 M) fun (q1 : Int32) =>
  zlet (q1 - 1) fun (x2 : Int32) =>
  f_X9_reckon_7 t0 t1 (fun (M : ZM) =>
    some M) zN x2 M
set_option maxHeartbeats 4000000 in
set_option maxRecDepth 100000 in
theorem w_X9_reckon_24 {G : ZG} (hG : zOk G) (S : zX p (zR 3) s m args c 0 0 cX9_reckon 7 RX9) (hr : meth.sig.returnType = none) (hlk : meth.locks = false) (t0 : Nat) (t1 : Nat) (v2 : Int32) (v3 : Int32) (k0 : zk G t0 = 19) (k1 : zk G t1 = 20)  {K : ZM → Option ZM} {res : ZM} (hK : ∀  (M : ZM), K M = some res → ∀ (H : Heap) (locs : List Loc) (ls : Array Slot), zWd G A s H locs M → lv_has ls 7 [(0, .ref (za G t0)), (1, .ref (za G t1)), (2, .int v2)] → W p l e (zR 3) s m args below meth c H locs 0 0 (zQ below G A none res args s) (F0 m 98 ls [])) : ∀ (n : Nat) (v4 : Int32) (M : ZM), f_X9_reckon_24 t0 t1 v2 v3 K n v4 M = some res → ∀ (H : Heap) (locs : List Loc) (ls : Array Slot), zWd G A s H locs M → lv_has ls 7 [(0, .ref (za G t0)), (1, .ref (za G t1)), (2, .int v2), (3, .int v3), (4, .int v4)] → W p l e (zR 3) s m args below meth c H locs 0 0 (zQ below G A none res args s) (F0 m 24 ls []) := by
  have hx := S.1.1
  have hb := S.1.2.1
  have hown := S.1.2.2.2.1
  have hts := S.1.2.2.2.2
  intro n
  induction n with
  | zero =>
    intro v4 M h
    rw [f_X9_reckon_24] at h
    cases h
  | succ n ih =>
    intro v4 M h H locs ls hw hl
    rw [f_X9_reckon_24] at h
    refine lv_iload hx hb dX9_reckon_24 (lv_at hl 4 rfl) ?_
    refine lv_aload_n hx hb dX9_reckon_26 rfl (lv_at hl 1 rfl) ?_
    obtain ⟨q6, eq6, h⟩ := zlet_ex h
    refine z_callV (ci := 10) (As := []) (rest := [.int v4]) (rv := (some (.int q6))) (M1 := M) S hw (c_X10_size l hG t1 k1 M q6 eq6.symm) mv_X10_size lk_X9_22 k1 ⟨_, _, rfl⟩ (by decide) rfl rfl (Nat.le_of_ble_eq_true rfl) ⟨Nat.le_of_ble_eq_true rfl, Nat.le_of_ble_eq_true rfl⟩ hl.1 dX9_reckon_27 (fun H locs hw => ?_)
    refine lv_icmp_gt (tgt := 98) hx hb dX9_reckon_30 (by decide) (fun c7 => ?_) (fun c7 => ?_)
    · have h := zif_t h c7
      exact hK M h H locs ls hw (lv_sub hl [0, 1, 2] rfl)
    · have h := zif_f h c7
      refine lv_aload_n hx hb dX9_reckon_33 rfl (lv_at hl 0 rfl) ?_
      refine lv_aload_n hx hb dX9_reckon_34 rfl (lv_at hl 1 rfl) ?_
      refine lv_iload_n hx hb dX9_reckon_35 rfl (lv_at hl 2 rfl) ?_
      obtain ⟨q8, eq8, h⟩ := zlet_ex h
      refine z_callV (ci := 10) (As := [.int v2]) (rest := [.ref (za G t0)]) (rv := (some (.int q8))) (M1 := M) S hw (c_X10_at l hG t1 v2 k1 M q8 eq8.symm) mv_X10_at lk_X9_32 k1 ⟨_, _, rfl⟩ (by decide) rfl rfl (Nat.le_of_ble_eq_true rfl) ⟨Nat.le_of_ble_eq_true rfl, Nat.le_of_ble_eq_true rfl⟩ hl.1 dX9_reckon_36 (fun H locs hw => ?_)
      obtain ⟨q9, eq9, h⟩ := zlet_ex h
      refine z_callS (As := [.int q8]) (rest := [.ref (za G t0)]) (rv := (some (.int q9))) (M1 := M) S hw (c_X11_kindOf l hG q8 M q9 eq9.symm) mv_X11_kindOf lk_X9_35 rfl rfl (Nat.le_of_ble_eq_true rfl) ⟨Nat.le_of_ble_eq_true rfl, Nat.le_of_ble_eq_true rfl⟩ hl.1 dX9_reckon_39 (fun H locs hw => ?_)
      refine lv_iload_n hx hb dX9_reckon_42 rfl (lv_at hl 2 rfl) ?_
      refine lv_iload hx hb dX9_reckon_43 (lv_at hl 4 rfl) ?_
      refine lv_iload_n hx hb dX9_reckon_45 rfl (lv_at hl 3 rfl) ?_
      obtain ⟨q10, eq10, h⟩ := zlet_ex h
      refine z_callV (ci := 9) (As := [.int q9, .int v2, .int v4, .int v3]) (rest := []) (rv := (some (.long q10))) (M1 := M) S hw (c_X9_fronted l hG t0 q9 v2 v4 v3 k0 M q10 eq10.symm) mv_X9_fronted lk_X9_38 k0 ⟨_, _, rfl⟩ (by decide) rfl rfl (Nat.le_of_ble_eq_true rfl) ⟨Nat.le_of_ble_eq_true rfl, Nat.le_of_ble_eq_true rfl⟩ hl.1 dX9_reckon_46 (fun H locs hw => ?_)
      refine lv_lstore (lv' := [(5, .long q10), (0, .ref (za G t0)), (1, .ref (za G t1)), (2, .int v2), (3, .int v3), (4, .int v4)]) hx hb dX9_reckon_49 hl (by decide) rfl (fun ls hl => ?_)
      refine lv_aload_n hx hb dX9_reckon_51 rfl (lv_at hl 1 rfl) ?_
      refine z_getR S hw k0 fl_X9_15 rfl dX9_reckon_52 ?_
      refine lv_iload_n hx hb dX9_reckon_55 rfl (lv_at hl 3 rfl) ?_
      refine lv_bipush (v := 22) hx hb dX9_reckon_56 (by decide) ?_
      refine lv_imul hx hb dX9_reckon_58 ?_
      refine lv_iload hx hb dX9_reckon_59 (lv_at hl 5 rfl) ?_
      refine lv_iadd hx hb dX9_reckon_61 ?_
      refine lv_lload hx hb dX9_reckon_62 (lv_at hl 0 rfl) ?_
      obtain ⟨q11, eq11, h⟩ := zlet_ex h
      refine z_callS (As := [.ref (za G (zr t0 1)), .int ((v2 * 22) + v4), .long q10]) (rest := []) (rv := none) (M1 := q11) S hw (c_X11_put_ l hG (zr t0 1) ((v2 * 22) + v4) q10 (kr_9_1 hG k0) M q11 eq11.symm) mv_X11_put_ lk_X9_42 rfl rfl (Nat.le_of_ble_eq_true rfl) ⟨Nat.le_of_ble_eq_true rfl, Nat.le_of_ble_eq_true rfl⟩ hl.1 dX9_reckon_64 (fun H locs hw => ?_)
      refine lv_aload_n hx hb dX9_reckon_67 rfl (lv_at hl 1 rfl) ?_
      refine z_getR S hw k0 fl_X9_11 rfl dX9_reckon_68 ?_
      refine lv_iload_n hx hb dX9_reckon_71 rfl (lv_at hl 3 rfl) ?_
      refine lv_bipush (v := 22) hx hb dX9_reckon_72 (by decide) ?_
      refine lv_imul hx hb dX9_reckon_74 ?_
      refine lv_iload hx hb dX9_reckon_75 (lv_at hl 5 rfl) ?_
      refine lv_iadd hx hb dX9_reckon_77 ?_
      refine lv_lload hx hb dX9_reckon_78 (lv_at hl 0 rfl) ?_
      refine lv_aload_n hx hb dX9_reckon_80 rfl (lv_at hl 1 rfl) ?_
      refine lv_aload_n hx hb dX9_reckon_81 rfl (lv_at hl 2 rfl) ?_
      refine lv_iload_n hx hb dX9_reckon_82 rfl (lv_at hl 3 rfl) ?_
      refine lv_iload hx hb dX9_reckon_83 (lv_at hl 5 rfl) ?_
      obtain ⟨q12, eq12, h⟩ := Option.bind_eq_some_iff.mp h
      refine z_callV (ci := 9) (As := [.ref (za G t1), .int v2, .int v4]) (rest := [.long q10, .int ((v2 * 22) + v4), .ref (za G (zr t0 0))]) (rv := (some (.long q12))) (M1 := q11) S hw (c_X9_parted l hG t0 t1 v2 v4 k0 k1 q11 q12 eq12) mv_X9_parted lk_X9_46 k0 ⟨_, _, rfl⟩ (by decide) rfl rfl (Nat.le_of_ble_eq_true rfl) ⟨Nat.le_of_ble_eq_true rfl, Nat.le_of_ble_eq_true rfl⟩ hl.1 dX9_reckon_85 (fun H locs hw => ?_)
      refine lv_ladd hx hb dX9_reckon_88 ?_
      obtain ⟨q13, eq13, h⟩ := zlet_ex h
      refine z_callS (As := [.ref (za G (zr t0 0)), .int ((v2 * 22) + v4), .long (q10 + q12)]) (rest := []) (rv := none) (M1 := q13) S hw (c_X11_put_ l hG (zr t0 0) ((v2 * 22) + v4) (q10 + q12) (kr_9_0 hG k0) q11 q13 eq13.symm) mv_X11_put_ lk_X9_42 rfl rfl (Nat.le_of_ble_eq_true rfl) ⟨Nat.le_of_ble_eq_true rfl, Nat.le_of_ble_eq_true rfl⟩ hl.1 dX9_reckon_89 (fun H locs hw => ?_)
      obtain ⟨x14, ex14, h⟩ := zlet_ex h
      refine lv_iinc (v := x14) (lv' := [(4, .int x14), (5, .long q10), (0, .ref (za G t0)), (1, .ref (za G t1)), (2, .int v2), (3, .int v3)]) hx hb dX9_reckon_92 hl (k := 5) rfl (by rw [ex14]; rfl) (by decide) rfl (fun ls hl => ?_)
      refine lv_goto (tgt := 24) hx hb dX9_reckon_95 (by decide) ?_
      exact ih x14 q13 h H locs ls hw (lv_sub hl [2, 3, 4, 5, 0] rfl)
set_option maxHeartbeats 4000000 in
set_option maxRecDepth 100000 in
theorem w_X9_reckon_7 {G : ZG} (hG : zOk G) (S : zX p (zR 3) s m args c 0 0 cX9_reckon 7 RX9) (hr : meth.sig.returnType = none) (hlk : meth.locks = false) (t0 : Nat) (t1 : Nat) (k0 : zk G t0 = 19) (k1 : zk G t1 = 20)  {K : ZM → Option ZM} {res : ZM} (hK : ∀  (M : ZM), K M = some res → ∀ (H : Heap) (locs : List Loc) (ls : Array Slot), zWd G A s H locs M → lv_has ls 7 [] → W p l e (zR 3) s m args below meth c H locs 0 0 (zQ below G A none res args s) (F0 m 104 ls [])) : ∀ (n : Nat) (v2 : Int32) (M : ZM), f_X9_reckon_7 t0 t1 K n v2 M = some res → ∀ (H : Heap) (locs : List Loc) (ls : Array Slot), zWd G A s H locs M → lv_has ls 7 [(0, .ref (za G t0)), (1, .ref (za G t1)), (2, .int v2)] → W p l e (zR 3) s m args below meth c H locs 0 0 (zQ below G A none res args s) (F0 m 7 ls []) := by
  have hx := S.1.1
  have hb := S.1.2.1
  have hown := S.1.2.2.2.1
  have hts := S.1.2.2.2.2
  intro n
  induction n with
  | zero =>
    intro v2 M h
    rw [f_X9_reckon_7] at h
    cases h
  | succ n ih =>
    intro v2 M h H locs ls hw hl
    rw [f_X9_reckon_7] at h
    refine lv_iload_n hx hb dX9_reckon_7 rfl (lv_at hl 2 rfl) ?_
    refine lv_if_lt (tgt := 104) hx hb dX9_reckon_8 (by decide) (fun c3 => ?_) (fun c3 => ?_)
    · have h := zif_t h c3
      exact hK M h H locs ls hw (lv_sub hl [] rfl)
    · have h := zif_f h c3
      refine lv_aload_n hx hb dX9_reckon_11 rfl (lv_at hl 1 rfl) ?_
      refine lv_iload_n hx hb dX9_reckon_12 rfl (lv_at hl 2 rfl) ?_
      refine lv_iconst (v := 1) hx hb dX9_reckon_13 (by decide) ?_
      refine lv_iadd hx hb dX9_reckon_14 ?_
      obtain ⟨q4, eq4, h⟩ := Option.bind_eq_some_iff.mp h
      refine z_callV (ci := 10) (As := [.int (v2 + 1)]) (rest := []) (rv := (some (.int q4))) (M1 := M) S hw (c_X10_closeAfter l hG t1 (v2 + 1) k1 M q4 eq4) mv_X10_closeAfter lk_X9_28 k1 ⟨_, _, rfl⟩ (by decide) rfl rfl (Nat.le_of_ble_eq_true rfl) ⟨Nat.le_of_ble_eq_true rfl, Nat.le_of_ble_eq_true rfl⟩ hl.1 dX9_reckon_15 (fun H locs hw => ?_)
      refine lv_istore_n (lv' := [(3, .int q4), (0, .ref (za G t0)), (1, .ref (za G t1)), (2, .int v2)]) hx hb dX9_reckon_18 rfl hl (by decide) rfl (fun ls hl => ?_)
      refine lv_iload_n hx hb dX9_reckon_19 rfl (lv_at hl 3 rfl) ?_
      refine lv_iconst (v := 1) hx hb dX9_reckon_20 (by decide) ?_
      refine lv_iadd hx hb dX9_reckon_21 ?_
      obtain ⟨x5, ex5, h⟩ := zlet_ex h
      refine lv_topiE ex5 ?_
      refine lv_istore (lv' := [(4, .int x5), (3, .int q4), (0, .ref (za G t0)), (1, .ref (za G t1)), (2, .int v2)]) hx hb dX9_reckon_22 hl (by decide) rfl (fun ls hl => ?_)
      refine w_X9_reckon_24 hG S hr hlk t0 t1 v2 q4 k0 k1 (fun M h H locs ls hw hl => ?_) zN x5 M h H locs ls hw (lv_sub hl [2, 3, 4, 1, 0] rfl)
      obtain ⟨x15, ex15, h⟩ := zlet_ex h
      refine lv_iinc (v := x15) (lv' := [(2, .int x15), (0, .ref (za G t0)), (1, .ref (za G t1))]) hx hb dX9_reckon_98 hl (k := 2) rfl (by rw [ex15]; rfl) (by decide) rfl (fun ls hl => ?_)
      refine lv_goto (tgt := 7) hx hb dX9_reckon_101 (by decide) ?_
      exact ih x15 M h H locs ls hw (lv_sub hl [1, 2, 0] rfl)
set_option maxHeartbeats 4000000 in
set_option maxRecDepth 100000 in
theorem c_X9_reckon (l : Launch) {G : ZG} (hG : zOk G) (t0 : Nat) (t1 : Nat) (k0 : zk G t0 = 19) (k1 : zk G t1 = 20) (M : ZM) (res : ZM) (h : f_X9_reckon t0 t1 M = some res) : zCt l yX9_reckon cX9_reckon 7 none 3 G [.ref (za G t0), .ref (za G t1)] M none res := by
  refine zCt.mk (by decide +kernel) (Nat.le_of_ble_eq_true rfl) ?_
  intro p e s m args below meth c A H locs ls S hr hlk hw hl
  have S : zX p (zR 3) s m args c 0 0 cX9_reckon 7 RX9 := S
  have hx := S.1.1
  have hb := S.1.2.1
  have hown := S.1.2.2.2.1
  have hts := S.1.2.2.2.2
  have hl : lv_has ls 7 [(0, .ref (za G t0)), (1, .ref (za G t1))] := hl
  unfold f_X9_reckon at h
  refine lv_aload_n hx hb dX9_reckon_0 rfl (lv_at hl 1 rfl) ?_
  obtain ⟨q1, eq1, h⟩ := zlet_ex h
  refine z_callV (ci := 10) (As := []) (rest := []) (rv := (some (.int q1))) (M1 := M) S hw (c_X10_size l hG t1 k1 M q1 eq1.symm) mv_X10_size lk_X9_22 k1 ⟨_, _, rfl⟩ (by decide) rfl rfl (Nat.le_of_ble_eq_true rfl) ⟨Nat.le_of_ble_eq_true rfl, Nat.le_of_ble_eq_true rfl⟩ hl.1 dX9_reckon_1 (fun H locs hw => ?_)
  refine lv_iconst (v := 1) hx hb dX9_reckon_4 (by decide) ?_
  refine lv_isub hx hb dX9_reckon_5 ?_
  obtain ⟨x2, ex2, h⟩ := zlet_ex h
  refine lv_topiE ex2 ?_
  refine lv_istore_n (lv' := [(2, .int x2), (0, .ref (za G t0)), (1, .ref (za G t1))]) hx hb dX9_reckon_6 rfl hl (by decide) rfl (fun ls hl => ?_)
  refine w_X9_reckon_7 hG S hr hlk t0 t1 k0 k1 (fun M h H locs ls hw hl => ?_) zN x2 M h H locs ls hw (lv_sub hl [1, 2, 0] rfl)
  have h := Option.some.inj h
  subst h
  exact z_ret_v S hr hlk hw dX9_reckon_104
def f_X2_forget (t0 : Nat) (M : ZM) : ZM :=
  zlet (zi M t0 5 0) fun (M1 : ZM) =>
  M1
set_option maxHeartbeats 4000000 in
set_option maxRecDepth 100000 in
theorem c_X2_forget (l : Launch) {G : ZG} (hG : zOk G) (t0 : Nat) (k0 : zk G t0 = 12) (M : ZM) (res : ZM) (h : f_X2_forget t0 M = res) : zCt l yX2_forget cX2_forget 1 none 0 G [.ref (za G t0)] M none res := by
  refine zCt.mk (by decide +kernel) (Nat.le_of_ble_eq_true rfl) ?_
  intro p e s m args below meth c A H locs ls S hr hlk hw hl
  have S : zX p (zR 0) s m args c 0 0 cX2_forget 1 RX2 := S
  have hx := S.1.1
  have hb := S.1.2.1
  have hown := S.1.2.2.2.1
  have hts := S.1.2.2.2.2
  have hl : lv_has ls 1 [(0, .ref (za G t0))] := hl
  unfold f_X2_forget at h
  refine lv_aload_n hx hb dX2_forget_0 rfl (lv_at hl 0 rfl) ?_
  refine lv_iconst (v := 0) hx hb dX2_forget_1 (by decide) ?_
  obtain ⟨M1, eM1, h⟩ := zlet_ex h
  refine z_putI S hw eM1 k0 fl_X2_29 rfl (fun _ => by decide) dX2_forget_2 (fun H locs hw => ?_)
  subst h
  exact z_ret_v S hr hlk hw dX2_forget_5
def f_X11_takeSentence (t0 : Nat) (t1 : Nat) (M : ZM) : Option ZM :=
  (f_X10_become (zr t0 1) t1 M).bind fun (q1 : ZM) =>
  (f_X9_reckon (zr t0 3) (zr t0 1) q1).bind fun (q2 : ZM) =>
  zlet (f_X2_forget (zr t0 5) q2) fun (q3 : ZM) =>
  some q3
set_option maxHeartbeats 4000000 in
set_option maxRecDepth 100000 in
theorem c_X11_takeSentence (l : Launch) {G : ZG} (hG : zOk G) (t0 : Nat) (t1 : Nat) (k0 : zk G t0 = 21) (k1 : zk G t1 = 20) (M : ZM) (res : ZM) (h : f_X11_takeSentence t0 t1 M = some res) : zCt l yX11_takeSentence cX11_takeSentence 2 none 4 G [.ref (za G t0), .ref (za G t1)] M none res := by
  refine zCt.mk (by decide +kernel) (Nat.le_of_ble_eq_true rfl) ?_
  intro p e s m args below meth c A H locs ls S hr hlk hw hl
  have S : zX p (zR 4) s m args c 0 0 cX11_takeSentence 2 RX11 := S
  have hx := S.1.1
  have hb := S.1.2.1
  have hown := S.1.2.2.2.1
  have hts := S.1.2.2.2.2
  have hl : lv_has ls 2 [(0, .ref (za G t0)), (1, .ref (za G t1))] := hl
  unfold f_X11_takeSentence at h
  refine lv_aload_n hx hb dX11_takeSentence_0 rfl (lv_at hl 0 rfl) ?_
  refine z_getR S hw k0 fl_X11_16 rfl dX11_takeSentence_1 ?_
  refine lv_aload_n hx hb dX11_takeSentence_4 rfl (lv_at hl 1 rfl) ?_
  obtain ⟨q1, eq1, h⟩ := Option.bind_eq_some_iff.mp h
  refine z_callV (ci := 10) (As := [.ref (za G t1)]) (rest := []) (rv := none) (M1 := q1) S hw (c_X10_become l hG (zr t0 1) t1 (kr_11_1 hG k0) k1 M q1 eq1) mv_X10_become lk_X11_280 (kr_11_1 hG k0) ⟨_, _, rfl⟩ (by decide) rfl rfl (Nat.le_of_ble_eq_true rfl) ⟨Nat.le_of_ble_eq_true rfl, Nat.le_of_ble_eq_true rfl⟩ hl.1 dX11_takeSentence_5 (fun H locs hw => ?_)
  refine lv_aload_n hx hb dX11_takeSentence_8 rfl (lv_at hl 0 rfl) ?_
  refine z_getR S hw k0 fl_X11_25 rfl dX11_takeSentence_9 ?_
  refine lv_aload_n hx hb dX11_takeSentence_12 rfl (lv_at hl 0 rfl) ?_
  refine z_getR S hw k0 fl_X11_16 rfl dX11_takeSentence_13 ?_
  obtain ⟨q2, eq2, h⟩ := Option.bind_eq_some_iff.mp h
  refine z_callV (ci := 9) (As := [.ref (za G (zr t0 1))]) (rest := []) (rv := none) (M1 := q2) S hw (c_X9_reckon l hG (zr t0 3) (zr t0 1) (kr_11_3 hG k0) (kr_11_1 hG k0) q1 q2 eq2) mv_X9_reckon lk_X11_96 (kr_11_3 hG k0) ⟨_, _, rfl⟩ (by decide) rfl rfl (Nat.le_of_ble_eq_true rfl) ⟨Nat.le_of_ble_eq_true rfl, Nat.le_of_ble_eq_true rfl⟩ hl.1 dX11_takeSentence_16 (fun H locs hw => ?_)
  refine lv_aload_n hx hb dX11_takeSentence_19 rfl (lv_at hl 0 rfl) ?_
  refine z_getR S hw k0 fl_X11_39 rfl dX11_takeSentence_20 ?_
  obtain ⟨q3, eq3, h⟩ := zlet_ex h
  refine z_callV (ci := 2) (As := []) (rest := []) (rv := none) (M1 := q3) S hw (c_X2_forget l hG (zr t0 5) (kr_11_5 hG k0) q2 q3 eq3.symm) mv_X2_forget lk_X11_282 (kr_11_5 hG k0) ⟨_, _, rfl⟩ (by decide) rfl rfl (Nat.le_of_ble_eq_true rfl) ⟨Nat.le_of_ble_eq_true rfl, Nat.le_of_ble_eq_true rfl⟩ hl.1 dX11_takeSentence_23 (fun H locs hw => ?_)
  have h := Option.some.inj h
  subst h
  exact z_ret_v S hr hlk hw dX11_takeSentence_26
def f_X11_read (t0 : Nat) (M : ZM) : Option (Int32 × ZM) :=
  zlet (fun (v1 : Int32) (M : ZM) =>
    zlet (f_X10_clear (zr t0 0) M) fun (q1 : ZM) =>
    if v1 = (-1) then (
      zlet (f_X10_size (zr t0 1) q1) fun (q3 : Int32) =>
      some (q3, q1)) else (
      some (((-20) - v1), q1))) fun J21 =>
  (f_X10_fault (zr t0 0) M).bind fun (q4 : Int32) =>
  if q4 = (-1) then (
    (f_X11_takeSentence t0 (zr t0 0) M).bind fun (q6 : ZM) =>
    J21 q4 q6) else (
    J21 q4 M)
set_option maxHeartbeats 4000000 in
set_option maxRecDepth 100000 in
theorem c_X11_read (l : Launch) {G : ZG} (hG : zOk G) (t0 : Nat) (k0 : zk G t0 = 21) (M : ZM) (res : (Int32 × ZM)) (h : f_X11_read t0 M = some res) : zCt l yX11_read cX11_read 2 (Option.some FieldType.int) 5 G [.ref (za G t0)] M (some (.int res.1)) res.2 := by
  refine zCt.mk (by decide +kernel) (Nat.le_of_ble_eq_true rfl) ?_
  intro p e s m args below meth c A H locs ls S hr hlk hw hl
  have S : zX p (zR 5) s m args c 0 0 cX11_read 2 RX11 := S
  have hx := S.1.1
  have hb := S.1.2.1
  have hown := S.1.2.2.2.1
  have hts := S.1.2.2.2.2
  have hl : lv_has ls 2 [(0, .ref (za G t0))] := hl
  unfold f_X11_read at h
  obtain ⟨J21, hJ21, h⟩ := zlet_ex h
  have wJ21 : ∀ (v1 : Int32) (M : ZM), J21 v1 M = some res → ∀ (H : Heap) (locs : List Loc) (ls : Array Slot), zWd G A s H locs M → lv_has ls 2 [(0, .ref (za G t0)), (1, .int v1)] → W p l e (zR 5) s m args below meth c H locs 0 0 (zQ below G A (some (.int res.1)) res.2 args s) (F0 m 21 ls []) := by
    intro v1 M h H locs ls hw hl
    subst hJ21
    refine lv_aload_n hx hb dX11_read_21 rfl (lv_at hl 0 rfl) ?_
    refine z_getR S hw k0 fl_X11_10 rfl dX11_read_22 ?_
    obtain ⟨q1, eq1, h⟩ := zlet_ex h
    refine z_callV (ci := 10) (As := []) (rest := []) (rv := none) (M1 := q1) S hw (c_X10_clear l hG (zr t0 0) (kr_11_0 hG k0) M q1 eq1.symm) mv_X10_clear lk_X11_116 (kr_11_0 hG k0) ⟨_, _, rfl⟩ (by decide) rfl rfl (Nat.le_of_ble_eq_true rfl) ⟨Nat.le_of_ble_eq_true rfl, Nat.le_of_ble_eq_true rfl⟩ hl.1 dX11_read_25 (fun H locs hw => ?_)
    refine lv_iload_n hx hb dX11_read_28 rfl (lv_at hl 1 rfl) ?_
    refine lv_iconst (v := (-1)) hx hb dX11_read_29 (by decide) ?_
    refine lv_icmp_ne (tgt := 43) hx hb dX11_read_30 (by decide) (fun c2 => ?_) (fun c2 => ?_)
    · have h := zif_f h c2
      refine lv_bipush (v := (-20)) hx hb dX11_read_43 (by decide) ?_
      refine lv_iload_n hx hb dX11_read_45 rfl (lv_at hl 1 rfl) ?_
      refine lv_isub hx hb dX11_read_46 ?_
      have h := Option.some.inj h
      subst h
      exact z_ret_i S hr hlk hw dX11_read_47
    · have h := zif_t h c2
      refine lv_aload_n hx hb dX11_read_33 rfl (lv_at hl 0 rfl) ?_
      refine z_getR S hw k0 fl_X11_16 rfl dX11_read_34 ?_
      obtain ⟨q3, eq3, h⟩ := zlet_ex h
      refine z_callV (ci := 10) (As := []) (rest := []) (rv := (some (.int q3))) (M1 := q1) S hw (c_X10_size l hG (zr t0 1) (kr_11_1 hG k0) q1 q3 eq3.symm) mv_X10_size lk_X11_104 (kr_11_1 hG k0) ⟨_, _, rfl⟩ (by decide) rfl rfl (Nat.le_of_ble_eq_true rfl) ⟨Nat.le_of_ble_eq_true rfl, Nat.le_of_ble_eq_true rfl⟩ hl.1 dX11_read_37 (fun H locs hw => ?_)
      refine lv_goto (tgt := 47) hx hb dX11_read_40 (by decide) ?_
      have h := Option.some.inj h
      subst h
      exact z_ret_i S hr hlk hw dX11_read_47
  refine lv_aload_n hx hb dX11_read_0 rfl (lv_at hl 0 rfl) ?_
  refine z_getR S hw k0 fl_X11_10 rfl dX11_read_1 ?_
  obtain ⟨q4, eq4, h⟩ := Option.bind_eq_some_iff.mp h
  refine z_callV (ci := 10) (As := []) (rest := []) (rv := (some (.int q4))) (M1 := M) S hw (c_X10_fault l hG (zr t0 0) (kr_11_0 hG k0) M q4 eq4) mv_X10_fault lk_X11_110 (kr_11_0 hG k0) ⟨_, _, rfl⟩ (by decide) rfl rfl (Nat.le_of_ble_eq_true rfl) ⟨Nat.le_of_ble_eq_true rfl, Nat.le_of_ble_eq_true rfl⟩ hl.1 dX11_read_4 (fun H locs hw => ?_)
  refine lv_istore_n (lv' := [(1, .int q4), (0, .ref (za G t0))]) hx hb dX11_read_7 rfl hl (by decide) rfl (fun ls hl => ?_)
  refine lv_iload_n hx hb dX11_read_8 rfl (lv_at hl 0 rfl) ?_
  refine lv_iconst (v := (-1)) hx hb dX11_read_9 (by decide) ?_
  refine lv_icmp_ne (tgt := 21) hx hb dX11_read_10 (by decide) (fun c5 => ?_) (fun c5 => ?_)
  · have h := zif_f h c5
    exact wJ21 q4 M h H locs ls hw (lv_sub hl [1, 0] rfl)
  · have h := zif_t h c5
    refine lv_aload_n hx hb dX11_read_13 rfl (lv_at hl 1 rfl) ?_
    refine lv_aload_n hx hb dX11_read_14 rfl (lv_at hl 1 rfl) ?_
    refine z_getR S hw k0 fl_X11_10 rfl dX11_read_15 ?_
    obtain ⟨q6, eq6, h⟩ := Option.bind_eq_some_iff.mp h
    refine z_callV (ci := 11) (As := [.ref (za G (zr t0 0))]) (rest := []) (rv := none) (M1 := q6) S hw (c_X11_takeSentence l hG t0 (zr t0 0) k0 (kr_11_0 hG k0) M q6 eq6) mv_X11_takeSentence lk_X11_113 k0 ⟨_, _, rfl⟩ (by decide) rfl rfl (Nat.le_of_ble_eq_true rfl) ⟨Nat.le_of_ble_eq_true rfl, Nat.le_of_ble_eq_true rfl⟩ hl.1 dX11_read_18 (fun H locs hw => ?_)
    exact wJ21 q4 q6 h H locs ls hw (lv_sub hl [1, 0] rfl)
def f_X11_wordAt (t0 : Nat) (v1 : Int32) (M : ZM) : Int32 :=
  if v1 < 0 then (
    ((-9) : Int32)) else (
    zlet (f_X10_size (zr t0 1) M) fun (q2 : Int32) =>
    if q2 ≤ v1 then (
      ((-9) : Int32)) else (
      zlet (f_X10_at (zr t0 1) v1 M) fun (q4 : Int32) =>
      q4))
set_option maxHeartbeats 4000000 in
set_option maxRecDepth 100000 in
theorem c_X11_wordAt (l : Launch) {G : ZG} (hG : zOk G) (t0 : Nat) (v1 : Int32) (k0 : zk G t0 = 21) (M : ZM) (res : Int32) (h : f_X11_wordAt t0 v1 M = res) : zCt l yX11_wordAt cX11_wordAt 2 (Option.some FieldType.int) 2 G [.ref (za G t0), .int v1] M (some (.int res)) M := by
  refine zCt.mk (by decide +kernel) (Nat.le_of_ble_eq_true rfl) ?_
  intro p e s m args below meth c A H locs ls S hr hlk hw hl
  have S : zX p (zR 2) s m args c 0 0 cX11_wordAt 2 RX11 := S
  have hx := S.1.1
  have hb := S.1.2.1
  have hown := S.1.2.2.2.1
  have hts := S.1.2.2.2.2
  have hl : lv_has ls 2 [(0, .ref (za G t0)), (1, .int v1)] := hl
  unfold f_X11_wordAt at h
  refine lv_iload_n hx hb dX11_wordAt_0 rfl (lv_at hl 1 rfl) ?_
  refine lv_if_lt (tgt := 26) hx hb dX11_wordAt_1 (by decide) (fun c1 => ?_) (fun c1 => ?_)
  · have h := zif_t h c1
    refine lv_bipush (v := (-9)) hx hb dX11_wordAt_26 (by decide) ?_
    subst h
    exact z_ret_i S hr hlk hw dX11_wordAt_28
  · have h := zif_f h c1
    refine lv_iload_n hx hb dX11_wordAt_4 rfl (lv_at hl 1 rfl) ?_
    refine lv_aload_n hx hb dX11_wordAt_5 rfl (lv_at hl 0 rfl) ?_
    refine z_getR S hw k0 fl_X11_16 rfl dX11_wordAt_6 ?_
    obtain ⟨q2, eq2, h⟩ := zlet_ex h
    refine z_callV (ci := 10) (As := []) (rest := [.int v1]) (rv := (some (.int q2))) (M1 := M) S hw (c_X10_size l hG (zr t0 1) (kr_11_1 hG k0) M q2 eq2.symm) mv_X10_size lk_X11_104 (kr_11_1 hG k0) ⟨_, _, rfl⟩ (by decide) rfl rfl (Nat.le_of_ble_eq_true rfl) ⟨Nat.le_of_ble_eq_true rfl, Nat.le_of_ble_eq_true rfl⟩ hl.1 dX11_wordAt_9 (fun H locs hw => ?_)
    refine lv_icmp_ge (tgt := 26) hx hb dX11_wordAt_12 (by decide) (fun c3 => ?_) (fun c3 => ?_)
    · have h := zif_t h c3
      refine lv_bipush (v := (-9)) hx hb dX11_wordAt_26 (by decide) ?_
      subst h
      exact z_ret_i S hr hlk hw dX11_wordAt_28
    · have h := zif_f h c3
      refine lv_aload_n hx hb dX11_wordAt_15 rfl (lv_at hl 0 rfl) ?_
      refine z_getR S hw k0 fl_X11_16 rfl dX11_wordAt_16 ?_
      refine lv_iload_n hx hb dX11_wordAt_19 rfl (lv_at hl 1 rfl) ?_
      obtain ⟨q4, eq4, h⟩ := zlet_ex h
      refine z_callV (ci := 10) (As := [.int v1]) (rest := []) (rv := (some (.int q4))) (M1 := M) S hw (c_X10_at l hG (zr t0 1) v1 (kr_11_1 hG k0) M q4 eq4.symm) mv_X10_at lk_X11_119 (kr_11_1 hG k0) ⟨_, _, rfl⟩ (by decide) rfl rfl (Nat.le_of_ble_eq_true rfl) ⟨Nat.le_of_ble_eq_true rfl, Nat.le_of_ble_eq_true rfl⟩ hl.1 dX11_wordAt_20 (fun H locs hw => ?_)
      refine lv_goto (tgt := 28) hx hb dX11_wordAt_23 (by decide) ?_
      subst h
      exact z_ret_i S hr hlk hw dX11_wordAt_28
def f_X11_readings (t0 : Nat) (M : ZM) : Int64 :=
  zlet (f_X10_size (zr t0 1) M) fun (q1 : Int32) =>
  zlet (f_X9_number (zr t0 3) 0 q1 M) fun (q2 : Int64) =>
  q2
set_option maxHeartbeats 4000000 in
set_option maxRecDepth 100000 in
theorem c_X11_readings (l : Launch) {G : ZG} (hG : zOk G) (t0 : Nat) (k0 : zk G t0 = 21) (M : ZM) (res : Int64) (h : f_X11_readings t0 M = res) : zCt l yX11_readings cX11_readings 1 (Option.some FieldType.long) 2 G [.ref (za G t0)] M (some (.long res)) M := by
  refine zCt.mk (by decide +kernel) (Nat.le_of_ble_eq_true rfl) ?_
  intro p e s m args below meth c A H locs ls S hr hlk hw hl
  have S : zX p (zR 2) s m args c 0 0 cX11_readings 1 RX11 := S
  have hx := S.1.1
  have hb := S.1.2.1
  have hown := S.1.2.2.2.1
  have hts := S.1.2.2.2.2
  have hl : lv_has ls 1 [(0, .ref (za G t0))] := hl
  unfold f_X11_readings at h
  refine lv_aload_n hx hb dX11_readings_0 rfl (lv_at hl 0 rfl) ?_
  refine z_getR S hw k0 fl_X11_25 rfl dX11_readings_1 ?_
  refine lv_iconst (v := 0) hx hb dX11_readings_4 (by decide) ?_
  refine lv_aload_n hx hb dX11_readings_5 rfl (lv_at hl 0 rfl) ?_
  refine z_getR S hw k0 fl_X11_16 rfl dX11_readings_6 ?_
  obtain ⟨q1, eq1, h⟩ := zlet_ex h
  refine z_callV (ci := 10) (As := []) (rest := [.int 0, .ref (za G (zr t0 3))]) (rv := (some (.int q1))) (M1 := M) S hw (c_X10_size l hG (zr t0 1) (kr_11_1 hG k0) M q1 eq1.symm) mv_X10_size lk_X11_104 (kr_11_1 hG k0) ⟨_, _, rfl⟩ (by decide) rfl rfl (Nat.le_of_ble_eq_true rfl) ⟨Nat.le_of_ble_eq_true rfl, Nat.le_of_ble_eq_true rfl⟩ hl.1 dX11_readings_9 (fun H locs hw => ?_)
  obtain ⟨q2, eq2, h⟩ := zlet_ex h
  refine z_callV (ci := 9) (As := [.int 0, .int q1]) (rest := []) (rv := (some (.long q2))) (M1 := M) S hw (c_X9_number l hG (zr t0 3) 0 q1 (kr_11_3 hG k0) M q2 eq2.symm) mv_X9_number lk_X11_122 (kr_11_3 hG k0) ⟨_, _, rfl⟩ (by decide) rfl rfl (Nat.le_of_ble_eq_true rfl) ⟨Nat.le_of_ble_eq_true rfl, Nat.le_of_ble_eq_true rfl⟩ hl.1 dX11_readings_12 (fun H locs hw => ?_)
  subst h
  exact z_ret_l S hr hlk hw dX11_readings_15
def f_X2_isMade (t0 : Nat) (M : ZM) : Option Int32 :=
  zck (zbo (M.1 t0 5)) <|
  some (M.1 t0 5)
set_option maxHeartbeats 4000000 in
set_option maxRecDepth 100000 in
theorem c_X2_isMade (l : Launch) {G : ZG} (hG : zOk G) (t0 : Nat) (k0 : zk G t0 = 12) (M : ZM) (res : Int32) (h : f_X2_isMade t0 M = some res) : zCt l yX2_isMade cX2_isMade 1 (Option.some FieldType.boolean) 0 G [.ref (za G t0)] M (some (.int res)) M := by
  refine zCt.mk (by decide +kernel) (Nat.le_of_ble_eq_true rfl) ?_
  intro p e s m args below meth c A H locs ls S hr hlk hw hl
  have S : zX p (zR 0) s m args c 0 0 cX2_isMade 1 RX2 := S
  have hx := S.1.1
  have hb := S.1.2.1
  have hown := S.1.2.2.2.1
  have hts := S.1.2.2.2.2
  have hl : lv_has ls 1 [(0, .ref (za G t0))] := hl
  unfold f_X2_isMade at h
  refine lv_aload_n hx hb dX2_isMade_0 rfl (lv_at hl 0 rfl) ?_
  refine z_getI S hw k0 fl_X2_29 rfl dX2_isMade_1 ?_
  obtain ⟨g1, h⟩ := zck_ex h
  have h := Option.some.inj h
  subst h
  exact z_ret_z S hr hlk (zbo_of g1) hw dX2_isMade_4
def f_X7_await (t0 : Nat) (v1 : Int32) (v2 : Int32) (v3 : Int64) (v5 : Int32) (M : ZM) : ZM :=
  zlet (f_X11_put (zr t0 5) (M.1 t0 9) v1 M) fun (q1 : ZM) =>
  zlet (f_X11_put (zr t0 6) (q1.1 t0 9) v2 q1) fun (q2 : ZM) =>
  zlet (f_X11_put_ (zr t0 7) (q2.1 t0 9) v3 q2) fun (q3 : ZM) =>
  zlet (f_X11_put (zr t0 8) (q3.1 t0 9) v5 q3) fun (q4 : ZM) =>
  zlet (zi q4 t0 9 ((q4.1 t0 9) + 1)) fun (M5 : ZM) =>
  M5
set_option maxHeartbeats 4000000 in
set_option maxRecDepth 100000 in
theorem c_X7_await (l : Launch) {G : ZG} (hG : zOk G) (t0 : Nat) (v1 : Int32) (v2 : Int32) (v3 : Int64) (v5 : Int32) (k0 : zk G t0 = 17) (M : ZM) (res : ZM) (h : f_X7_await t0 v1 v2 v3 v5 M = res) : zCt l yX7_await cX7_await 6 none 1 G [.ref (za G t0), .int v1, .int v2, .long v3, .int v5] M none res := by
  refine zCt.mk (by decide +kernel) (Nat.le_of_ble_eq_true rfl) ?_
  intro p e s m args below meth c A H locs ls S hr hlk hw hl
  have S : zX p (zR 1) s m args c 0 0 cX7_await 6 RX7 := S
  have hx := S.1.1
  have hb := S.1.2.1
  have hown := S.1.2.2.2.1
  have hts := S.1.2.2.2.2
  have hl : lv_has ls 6 [(0, .ref (za G t0)), (1, .int v1), (2, .int v2), (3, .long v3), (5, .int v5)] := hl
  unfold f_X7_await at h
  refine lv_aload_n hx hb dX7_await_0 rfl (lv_at hl 0 rfl) ?_
  refine z_getR S hw k0 fl_X7_24 rfl dX7_await_1 ?_
  refine lv_aload_n hx hb dX7_await_4 rfl (lv_at hl 0 rfl) ?_
  refine z_getI S hw k0 fl_X7_45 rfl dX7_await_5 ?_
  refine lv_iload_n hx hb dX7_await_8 rfl (lv_at hl 1 rfl) ?_
  obtain ⟨q1, eq1, h⟩ := zlet_ex h
  refine z_callS (As := [.ref (za G (zr t0 5)), .int (M.1 t0 9), .int v1]) (rest := []) (rv := none) (M1 := q1) S hw (c_X11_put l hG (zr t0 5) (M.1 t0 9) v1 (kr_7_5 hG k0) M q1 eq1.symm) mv_X11_put lk_X7_66 rfl rfl (Nat.le_of_ble_eq_true rfl) ⟨Nat.le_of_ble_eq_true rfl, Nat.le_of_ble_eq_true rfl⟩ hl.1 dX7_await_9 (fun H locs hw => ?_)
  refine lv_aload_n hx hb dX7_await_12 rfl (lv_at hl 0 rfl) ?_
  refine z_getR S hw k0 fl_X7_27 rfl dX7_await_13 ?_
  refine lv_aload_n hx hb dX7_await_16 rfl (lv_at hl 0 rfl) ?_
  refine z_getI S hw k0 fl_X7_45 rfl dX7_await_17 ?_
  refine lv_iload_n hx hb dX7_await_20 rfl (lv_at hl 2 rfl) ?_
  obtain ⟨q2, eq2, h⟩ := zlet_ex h
  refine z_callS (As := [.ref (za G (zr t0 6)), .int (q1.1 t0 9), .int v2]) (rest := []) (rv := none) (M1 := q2) S hw (c_X11_put l hG (zr t0 6) (q1.1 t0 9) v2 (kr_7_6 hG k0) q1 q2 eq2.symm) mv_X11_put lk_X7_66 rfl rfl (Nat.le_of_ble_eq_true rfl) ⟨Nat.le_of_ble_eq_true rfl, Nat.le_of_ble_eq_true rfl⟩ hl.1 dX7_await_21 (fun H locs hw => ?_)
  refine lv_aload_n hx hb dX7_await_24 rfl (lv_at hl 0 rfl) ?_
  refine z_getR S hw k0 fl_X7_30 rfl dX7_await_25 ?_
  refine lv_aload_n hx hb dX7_await_28 rfl (lv_at hl 0 rfl) ?_
  refine z_getI S hw k0 fl_X7_45 rfl dX7_await_29 ?_
  refine lv_lload_n hx hb dX7_await_32 rfl (lv_at hl 3 rfl) ?_
  obtain ⟨q3, eq3, h⟩ := zlet_ex h
  refine z_callS (As := [.ref (za G (zr t0 7)), .int (q2.1 t0 9), .long v3]) (rest := []) (rv := none) (M1 := q3) S hw (c_X11_put_ l hG (zr t0 7) (q2.1 t0 9) v3 (kr_7_7 hG k0) q2 q3 eq3.symm) mv_X11_put_ lk_X7_78 rfl rfl (Nat.le_of_ble_eq_true rfl) ⟨Nat.le_of_ble_eq_true rfl, Nat.le_of_ble_eq_true rfl⟩ hl.1 dX7_await_33 (fun H locs hw => ?_)
  refine lv_aload_n hx hb dX7_await_36 rfl (lv_at hl 0 rfl) ?_
  refine z_getR S hw k0 fl_X7_34 rfl dX7_await_37 ?_
  refine lv_aload_n hx hb dX7_await_40 rfl (lv_at hl 0 rfl) ?_
  refine z_getI S hw k0 fl_X7_45 rfl dX7_await_41 ?_
  refine lv_iload hx hb dX7_await_44 (lv_at hl 4 rfl) ?_
  obtain ⟨q4, eq4, h⟩ := zlet_ex h
  refine z_callS (As := [.ref (za G (zr t0 8)), .int (q3.1 t0 9), .int v5]) (rest := []) (rv := none) (M1 := q4) S hw (c_X11_put l hG (zr t0 8) (q3.1 t0 9) v5 (kr_7_8 hG k0) q3 q4 eq4.symm) mv_X11_put lk_X7_66 rfl rfl (Nat.le_of_ble_eq_true rfl) ⟨Nat.le_of_ble_eq_true rfl, Nat.le_of_ble_eq_true rfl⟩ hl.1 dX7_await_46 (fun H locs hw => ?_)
  refine lv_aload_n hx hb dX7_await_49 rfl (lv_at hl 0 rfl) ?_
  refine lv_dup hx hb dX7_await_50 rfl ?_
  refine z_getI S hw k0 fl_X7_45 rfl dX7_await_51 ?_
  refine lv_iconst (v := 1) hx hb dX7_await_54 (by decide) ?_
  refine lv_iadd hx hb dX7_await_55 ?_
  obtain ⟨M5, eM5, h⟩ := zlet_ex h
  refine z_putI S hw eM5 k0 fl_X7_45 rfl (fun h => absurd h (by decide)) dX7_await_56 (fun H locs hw => ?_)
  subst h
  exact z_ret_v S hr hlk hw dX7_await_59
def f_X9_frontNumber (t0 : Nat) (v1 : Int32) (v2 : Int32) (M : ZM) : Int64 :=
  zlet (f_X11_look_ (zr t0 1) ((v1 * 22) + v2) M) fun (q1 : Int64) =>
  q1
set_option maxHeartbeats 4000000 in
set_option maxRecDepth 100000 in
theorem c_X9_frontNumber (l : Launch) {G : ZG} (hG : zOk G) (t0 : Nat) (v1 : Int32) (v2 : Int32) (k0 : zk G t0 = 19) (M : ZM) (res : Int64) (h : f_X9_frontNumber t0 v1 v2 M = res) : zCt l yX9_frontNumber cX9_frontNumber 3 (Option.some FieldType.long) 1 G [.ref (za G t0), .int v1, .int v2] M (some (.long res)) M := by
  refine zCt.mk (by decide +kernel) (Nat.le_of_ble_eq_true rfl) ?_
  intro p e s m args below meth c A H locs ls S hr hlk hw hl
  have S : zX p (zR 1) s m args c 0 0 cX9_frontNumber 3 RX9 := S
  have hx := S.1.1
  have hb := S.1.2.1
  have hown := S.1.2.2.2.1
  have hts := S.1.2.2.2.2
  have hl : lv_has ls 3 [(0, .ref (za G t0)), (1, .int v1), (2, .int v2)] := hl
  unfold f_X9_frontNumber at h
  refine lv_aload_n hx hb dX9_frontNumber_0 rfl (lv_at hl 0 rfl) ?_
  refine z_getR S hw k0 fl_X9_15 rfl dX9_frontNumber_1 ?_
  refine lv_iload_n hx hb dX9_frontNumber_4 rfl (lv_at hl 1 rfl) ?_
  refine lv_bipush (v := 22) hx hb dX9_frontNumber_5 (by decide) ?_
  refine lv_imul hx hb dX9_frontNumber_7 ?_
  refine lv_iload_n hx hb dX9_frontNumber_8 rfl (lv_at hl 2 rfl) ?_
  refine lv_iadd hx hb dX9_frontNumber_9 ?_
  obtain ⟨q1, eq1, h⟩ := zlet_ex h
  refine z_callS (As := [.ref (za G (zr t0 1)), .int ((v1 * 22) + v2)]) (rest := []) (rv := (some (.long q1))) (M1 := M) S hw (c_X11_look_ l hG (zr t0 1) ((v1 * 22) + v2) (kr_9_1 hG k0) M q1 eq1.symm) mv_X11_look_ lk_X9_18 rfl rfl (Nat.le_of_ble_eq_true rfl) ⟨Nat.le_of_ble_eq_true rfl, Nat.le_of_ble_eq_true rfl⟩ hl.1 dX9_frontNumber_10 (fun H locs hw => ?_)
  subst h
  exact z_ret_l S hr hlk hw dX9_frontNumber_13
def f_X7_addNode (t0 : Nat) (v1 : Int32) (v2 : Int32) (v3 : Int32) (M : ZM) : ZM :=
  zlet (f_X11_put (zr t0 0) (M.1 t0 4) v1 M) fun (q1 : ZM) =>
  zlet (f_X11_put (zr t0 1) (q1.1 t0 4) v2 q1) fun (q2 : ZM) =>
  zlet (f_X11_put (zr t0 2) (q2.1 t0 4) v3 q2) fun (q3 : ZM) =>
  zlet (zi q3 t0 4 ((q3.1 t0 4) + 1)) fun (M4 : ZM) =>
  M4
set_option maxHeartbeats 4000000 in
set_option maxRecDepth 100000 in
theorem c_X7_addNode (l : Launch) {G : ZG} (hG : zOk G) (t0 : Nat) (v1 : Int32) (v2 : Int32) (v3 : Int32) (k0 : zk G t0 = 17) (M : ZM) (res : ZM) (h : f_X7_addNode t0 v1 v2 v3 M = res) : zCt l yX7_addNode cX7_addNode 4 none 1 G [.ref (za G t0), .int v1, .int v2, .int v3] M none res := by
  refine zCt.mk (by decide +kernel) (Nat.le_of_ble_eq_true rfl) ?_
  intro p e s m args below meth c A H locs ls S hr hlk hw hl
  have S : zX p (zR 1) s m args c 0 0 cX7_addNode 4 RX7 := S
  have hx := S.1.1
  have hb := S.1.2.1
  have hown := S.1.2.2.2.1
  have hts := S.1.2.2.2.2
  have hl : lv_has ls 4 [(0, .ref (za G t0)), (1, .int v1), (2, .int v2), (3, .int v3)] := hl
  unfold f_X7_addNode at h
  refine lv_aload_n hx hb dX7_addNode_0 rfl (lv_at hl 0 rfl) ?_
  refine z_getR S hw k0 fl_X7_9 rfl dX7_addNode_1 ?_
  refine lv_aload_n hx hb dX7_addNode_4 rfl (lv_at hl 0 rfl) ?_
  refine z_getI S hw k0 fl_X7_37 rfl dX7_addNode_5 ?_
  refine lv_iload_n hx hb dX7_addNode_8 rfl (lv_at hl 1 rfl) ?_
  obtain ⟨q1, eq1, h⟩ := zlet_ex h
  refine z_callS (As := [.ref (za G (zr t0 0)), .int (M.1 t0 4), .int v1]) (rest := []) (rv := none) (M1 := q1) S hw (c_X11_put l hG (zr t0 0) (M.1 t0 4) v1 (kr_7_0 hG k0) M q1 eq1.symm) mv_X11_put lk_X7_66 rfl rfl (Nat.le_of_ble_eq_true rfl) ⟨Nat.le_of_ble_eq_true rfl, Nat.le_of_ble_eq_true rfl⟩ hl.1 dX7_addNode_9 (fun H locs hw => ?_)
  refine lv_aload_n hx hb dX7_addNode_12 rfl (lv_at hl 0 rfl) ?_
  refine z_getR S hw k0 fl_X7_15 rfl dX7_addNode_13 ?_
  refine lv_aload_n hx hb dX7_addNode_16 rfl (lv_at hl 0 rfl) ?_
  refine z_getI S hw k0 fl_X7_37 rfl dX7_addNode_17 ?_
  refine lv_iload_n hx hb dX7_addNode_20 rfl (lv_at hl 2 rfl) ?_
  obtain ⟨q2, eq2, h⟩ := zlet_ex h
  refine z_callS (As := [.ref (za G (zr t0 1)), .int (q1.1 t0 4), .int v2]) (rest := []) (rv := none) (M1 := q2) S hw (c_X11_put l hG (zr t0 1) (q1.1 t0 4) v2 (kr_7_1 hG k0) q1 q2 eq2.symm) mv_X11_put lk_X7_66 rfl rfl (Nat.le_of_ble_eq_true rfl) ⟨Nat.le_of_ble_eq_true rfl, Nat.le_of_ble_eq_true rfl⟩ hl.1 dX7_addNode_21 (fun H locs hw => ?_)
  refine lv_aload_n hx hb dX7_addNode_24 rfl (lv_at hl 0 rfl) ?_
  refine z_getR S hw k0 fl_X7_18 rfl dX7_addNode_25 ?_
  refine lv_aload_n hx hb dX7_addNode_28 rfl (lv_at hl 0 rfl) ?_
  refine z_getI S hw k0 fl_X7_37 rfl dX7_addNode_29 ?_
  refine lv_iload_n hx hb dX7_addNode_32 rfl (lv_at hl 3 rfl) ?_
  obtain ⟨q3, eq3, h⟩ := zlet_ex h
  refine z_callS (As := [.ref (za G (zr t0 2)), .int (q2.1 t0 4), .int v3]) (rest := []) (rv := none) (M1 := q3) S hw (c_X11_put l hG (zr t0 2) (q2.1 t0 4) v3 (kr_7_2 hG k0) q2 q3 eq3.symm) mv_X11_put lk_X7_66 rfl rfl (Nat.le_of_ble_eq_true rfl) ⟨Nat.le_of_ble_eq_true rfl, Nat.le_of_ble_eq_true rfl⟩ hl.1 dX7_addNode_33 (fun H locs hw => ?_)
  refine lv_aload_n hx hb dX7_addNode_36 rfl (lv_at hl 0 rfl) ?_
  refine lv_dup hx hb dX7_addNode_37 rfl ?_
  refine z_getI S hw k0 fl_X7_37 rfl dX7_addNode_38 ?_
  refine lv_iconst (v := 1) hx hb dX7_addNode_41 (by decide) ?_
  refine lv_iadd hx hb dX7_addNode_42 ?_
  obtain ⟨M4, eM4, h⟩ := zlet_ex h
  refine z_putI S hw eM4 k0 fl_X7_37 rfl (fun h => absurd h (by decide)) dX7_addNode_43 (fun H locs hw => ?_)
  subst h
  exact z_ret_v S hr hlk hw dX7_addNode_46
def f_X7_growFront (t0 : Nat) (t1 : Nat) (v2 : Int32) (v3 : Int32) (v4 : Int64) (M : ZM) : ZM :=
  zlet (f_X10_at t1 v2 M) fun (q1 : Int32) =>
  zlet (f_X11_kindOf q1 M) fun (q2 : Int32) =>
  zlet (f_X7_addNode t0 q2 v2 v3 M) fun (q3 : ZM) =>
  if q2 = 1 then (
    zlet (f_X7_await t0 (v2 + 1) v3 v4 (-9) q3) fun (q7 : ZM) =>
    q7) else (
    if q2 = 2 then (
      zlet (f_X7_await t0 (v2 + 1) (v3 - 1) v4 (-9) q3) fun (q6 : ZM) =>
      q6) else (
      q3))
set_option maxHeartbeats 4000000 in
set_option maxRecDepth 100000 in
theorem c_X7_growFront (l : Launch) {G : ZG} (hG : zOk G) (t0 : Nat) (t1 : Nat) (v2 : Int32) (v3 : Int32) (v4 : Int64) (k0 : zk G t0 = 17) (k1 : zk G t1 = 20) (M : ZM) (res : ZM) (h : f_X7_growFront t0 t1 v2 v3 v4 M = res) : zCt l yX7_growFront cX7_growFront 7 none 2 G [.ref (za G t0), .ref (za G t1), .int v2, .int v3, .long v4] M none res := by
  refine zCt.mk (by decide +kernel) (Nat.le_of_ble_eq_true rfl) ?_
  intro p e s m args below meth c A H locs ls S hr hlk hw hl
  have S : zX p (zR 2) s m args c 0 0 cX7_growFront 7 RX7 := S
  have hx := S.1.1
  have hb := S.1.2.1
  have hown := S.1.2.2.2.1
  have hts := S.1.2.2.2.2
  have hl : lv_has ls 7 [(0, .ref (za G t0)), (1, .ref (za G t1)), (2, .int v2), (3, .int v3), (4, .long v4)] := hl
  unfold f_X7_growFront at h
  refine lv_aload_n hx hb dX7_growFront_0 rfl (lv_at hl 1 rfl) ?_
  refine lv_iload_n hx hb dX7_growFront_1 rfl (lv_at hl 2 rfl) ?_
  obtain ⟨q1, eq1, h⟩ := zlet_ex h
  refine z_callV (ci := 10) (As := [.int v2]) (rest := []) (rv := (some (.int q1))) (M1 := M) S hw (c_X10_at l hG t1 v2 k1 M q1 eq1.symm) mv_X10_at lk_X7_81 k1 ⟨_, _, rfl⟩ (by decide) rfl rfl (Nat.le_of_ble_eq_true rfl) ⟨Nat.le_of_ble_eq_true rfl, Nat.le_of_ble_eq_true rfl⟩ hl.1 dX7_growFront_2 (fun H locs hw => ?_)
  obtain ⟨q2, eq2, h⟩ := zlet_ex h
  refine z_callS (As := [.int q1]) (rest := []) (rv := (some (.int q2))) (M1 := M) S hw (c_X11_kindOf l hG q1 M q2 eq2.symm) mv_X11_kindOf lk_X7_85 rfl rfl (Nat.le_of_ble_eq_true rfl) ⟨Nat.le_of_ble_eq_true rfl, Nat.le_of_ble_eq_true rfl⟩ hl.1 dX7_growFront_5 (fun H locs hw => ?_)
  refine lv_istore (lv' := [(6, .int q2), (0, .ref (za G t0)), (1, .ref (za G t1)), (2, .int v2), (3, .int v3), (4, .long v4)]) hx hb dX7_growFront_8 hl (by decide) rfl (fun ls hl => ?_)
  refine lv_aload_n hx hb dX7_growFront_10 rfl (lv_at hl 1 rfl) ?_
  refine lv_iload hx hb dX7_growFront_11 (lv_at hl 0 rfl) ?_
  refine lv_iload_n hx hb dX7_growFront_13 rfl (lv_at hl 3 rfl) ?_
  refine lv_iload_n hx hb dX7_growFront_14 rfl (lv_at hl 4 rfl) ?_
  obtain ⟨q3, eq3, h⟩ := zlet_ex h
  refine z_callV (ci := 7) (As := [.int q2, .int v2, .int v3]) (rest := []) (rv := none) (M1 := q3) S hw (c_X7_addNode l hG t0 q2 v2 v3 k0 M q3 eq3.symm) mv_X7_addNode lk_X7_88 k0 ⟨_, _, rfl⟩ (by decide) rfl rfl (Nat.le_of_ble_eq_true rfl) ⟨Nat.le_of_ble_eq_true rfl, Nat.le_of_ble_eq_true rfl⟩ hl.1 dX7_growFront_15 (fun H locs hw => ?_)
  refine lv_iload hx hb dX7_growFront_18 (lv_at hl 0 rfl) ?_
  refine lv_iconst (v := 1) hx hb dX7_growFront_20 (by decide) ?_
  refine lv_icmp_ne (tgt := 39) hx hb dX7_growFront_21 (by decide) (fun c4 => ?_) (fun c4 => ?_)
  · have h := zif_f h c4
    refine lv_iload hx hb dX7_growFront_39 (lv_at hl 0 rfl) ?_
    refine lv_iconst (v := 2) hx hb dX7_growFront_41 (by decide) ?_
    refine lv_icmp_ne (tgt := 59) hx hb dX7_growFront_42 (by decide) (fun c5 => ?_) (fun c5 => ?_)
    · have h := zif_f h c5
      subst h
      exact z_ret_v S hr hlk hw dX7_growFront_59
    · have h := zif_t h c5
      refine lv_aload_n hx hb dX7_growFront_45 rfl (lv_at hl 1 rfl) ?_
      refine lv_iload_n hx hb dX7_growFront_46 rfl (lv_at hl 3 rfl) ?_
      refine lv_iconst (v := 1) hx hb dX7_growFront_47 (by decide) ?_
      refine lv_iadd hx hb dX7_growFront_48 ?_
      refine lv_iload_n hx hb dX7_growFront_49 rfl (lv_at hl 4 rfl) ?_
      refine lv_iconst (v := 1) hx hb dX7_growFront_50 (by decide) ?_
      refine lv_isub hx hb dX7_growFront_51 ?_
      refine lv_lload hx hb dX7_growFront_52 (lv_at hl 5 rfl) ?_
      refine lv_bipush (v := (-9)) hx hb dX7_growFront_54 (by decide) ?_
      obtain ⟨q6, eq6, h⟩ := zlet_ex h
      refine z_callV (ci := 7) (As := [.int (v2 + 1), .int (v3 - 1), .long v4, .int (-9)]) (rest := []) (rv := none) (M1 := q6) S hw (c_X7_await l hG t0 (v2 + 1) (v3 - 1) v4 (-9) k0 q3 q6 eq6.symm) mv_X7_await lk_X7_53 k0 ⟨_, _, rfl⟩ (by decide) rfl rfl (Nat.le_of_ble_eq_true rfl) ⟨Nat.le_of_ble_eq_true rfl, Nat.le_of_ble_eq_true rfl⟩ hl.1 dX7_growFront_56 (fun H locs hw => ?_)
      subst h
      exact z_ret_v S hr hlk hw dX7_growFront_59
  · have h := zif_t h c4
    refine lv_aload_n hx hb dX7_growFront_24 rfl (lv_at hl 1 rfl) ?_
    refine lv_iload_n hx hb dX7_growFront_25 rfl (lv_at hl 3 rfl) ?_
    refine lv_iconst (v := 1) hx hb dX7_growFront_26 (by decide) ?_
    refine lv_iadd hx hb dX7_growFront_27 ?_
    refine lv_iload_n hx hb dX7_growFront_28 rfl (lv_at hl 4 rfl) ?_
    refine lv_lload hx hb dX7_growFront_29 (lv_at hl 5 rfl) ?_
    refine lv_bipush (v := (-9)) hx hb dX7_growFront_31 (by decide) ?_
    obtain ⟨q7, eq7, h⟩ := zlet_ex h
    refine z_callV (ci := 7) (As := [.int (v2 + 1), .int v3, .long v4, .int (-9)]) (rest := []) (rv := none) (M1 := q7) S hw (c_X7_await l hG t0 (v2 + 1) v3 v4 (-9) k0 q3 q7 eq7.symm) mv_X7_await lk_X7_53 k0 ⟨_, _, rfl⟩ (by decide) rfl rfl (Nat.le_of_ble_eq_true rfl) ⟨Nat.le_of_ble_eq_true rfl, Nat.le_of_ble_eq_true rfl⟩ hl.1 dX7_growFront_33 (fun H locs hw => ?_)
    refine lv_goto (tgt := 59) hx hb dX7_growFront_36 (by decide) ?_
    subst h
    exact z_ret_v S hr hlk hw dX7_growFront_59
def f_X7_growJoin_9 (t0 : Nat) (t1 : Nat) (t2 : Nat) (v3 : Int32) (v4 : Int32) (K : ZM → Option ZM) : Nat → Int64 → Int32 → ZM → Option ZM
  | 0, _, _, _ => none
  | n + 1, v7, v9, M =>
    zlet (fun (v7 : Int64) (v9 : Int32) (v13 : Int64) (M : ZM) =>
      zlet (v7 - v13) fun (x2 : Int64) =>
      zlet (v9 + 1) fun (x3 : Int32) =>
      f_X7_growJoin_9 t0 t1 t2 v3 v4 K n x2 x3 M) fun J122 =>
    if (v4 - 1) ≤ v9 then (
      K M) else (
      zlet (f_X10_at t1 v9 M) fun (q5 : Int32) =>
      zlet (f_X11_kindOf q5 M) fun (q6 : Int32) =>
      zlet (f_X11_isJoin q6 M) fun (q7 : Int32) =>
      if q7 = 0 then (
        zlet (v9 + 1) fun (x19 : Int32) =>
        f_X7_growJoin_9 t0 t1 t2 v3 v4 K n v7 x19 M) else (
        zlet (f_X9_number t2 (v9 + 1) v4 M) fun (q9 : Int64) =>
        zlet (f_X9_number t2 v3 v9 M) fun (q10 : Int64) =>
        zlet (q10 * q9) fun (x11 : Int64) =>
        if 0 ≤ (lg_cmp v7 x11) then (
          J122 v7 v9 x11 M) else (
          if (lg_cmp q9 0) ≤ 0 then (
            J122 v7 v9 x11 M) else (
            zck (znz q9) <|
            zlet (f_X7_await t0 (v9 + 1) v4 (v7 - v7 / q9 * q9) (M.1 t0 4) M) fun (q15 : ZM) =>
            zck (znz q9) <|
            zlet (f_X7_await t0 v3 v9 (v7 / q9) (-9) q15) fun (q17 : ZM) =>
            zlet (f_X7_addNode t0 q6 v3 v4 q17) fun (q18 : ZM) =>
            some q18))))

def f_X7_growJoin (t0 : Nat) (t1 : Nat) (t2 : Nat) (v3 : Int32) (v4 : Int32) (v5 : Int64) (M : ZM) : Option ZM :=
  zlet (v3 + 1) fun (x1 : Int32) =>
  f_X7_growJoin_9 t0 t1 t2 v3 v4 (fun (M : ZM) =>
    some M) zN v5 x1 M
set_option maxHeartbeats 4000000 in
set_option maxRecDepth 100000 in
theorem w_X7_growJoin_9 {G : ZG} (hG : zOk G) (S : zX p (zR 2) s m args c 0 0 cX7_growJoin 15 RX7) (hr : meth.sig.returnType = none) (hlk : meth.locks = false) (t0 : Nat) (t1 : Nat) (t2 : Nat) (v3 : Int32) (v4 : Int32) (k0 : zk G t0 = 17) (k1 : zk G t1 = 20) (k2 : zk G t2 = 19)  {K : ZM → Option ZM} {res : ZM} (hK : ∀  (M : ZM), K M = some res → ∀ (H : Heap) (locs : List Loc) (ls : Array Slot), zWd G A s H locs M → lv_has ls 15 [] → W p l e (zR 2) s m args below meth c H locs 0 0 (zQ below G A none res args s) (F0 m 135 ls [])) : ∀ (n : Nat) (v7 : Int64) (v9 : Int32) (M : ZM), f_X7_growJoin_9 t0 t1 t2 v3 v4 K n v7 v9 M = some res → ∀ (H : Heap) (locs : List Loc) (ls : Array Slot), zWd G A s H locs M → lv_has ls 15 [(0, .ref (za G t0)), (1, .ref (za G t1)), (2, .ref (za G t2)), (3, .int v3), (4, .int v4), (7, .long v7), (9, .int v9)] → W p l e (zR 2) s m args below meth c H locs 0 0 (zQ below G A none res args s) (F0 m 9 ls []) := by
  have hx := S.1.1
  have hb := S.1.2.1
  have hown := S.1.2.2.2.1
  have hts := S.1.2.2.2.2
  intro n
  induction n with
  | zero =>
    intro v7 v9 M h
    rw [f_X7_growJoin_9] at h
    cases h
  | succ n ih =>
    intro v7 v9 M h H locs ls hw hl
    rw [f_X7_growJoin_9] at h
    obtain ⟨J122, hJ122, h⟩ := zlet_ex h
    have wJ122 : ∀ (v7 : Int64) (v9 : Int32) (v13 : Int64) (M : ZM), J122 v7 v9 v13 M = some res → ∀ (H : Heap) (locs : List Loc) (ls : Array Slot), zWd G A s H locs M → lv_has ls 15 [(0, .ref (za G t0)), (1, .ref (za G t1)), (2, .ref (za G t2)), (3, .int v3), (4, .int v4), (7, .long v7), (9, .int v9), (13, .long v13)] → W p l e (zR 2) s m args below meth c H locs 0 0 (zQ below G A none res args s) (F0 m 122 ls []) := by
      intro v7 v9 v13 M h H locs ls hw hl
      subst hJ122
      refine lv_lload hx hb dX7_growJoin_122 (lv_at hl 5 rfl) ?_
      refine lv_lload hx hb dX7_growJoin_124 (lv_at hl 7 rfl) ?_
      refine lv_lsub hx hb dX7_growJoin_126 ?_
      obtain ⟨x2, ex2, h⟩ := zlet_ex h
      refine lv_toplE ex2 ?_
      refine lv_lstore (lv' := [(7, .long x2), (0, .ref (za G t0)), (1, .ref (za G t1)), (2, .ref (za G t2)), (3, .int v3), (4, .int v4), (9, .int v9), (13, .long v13)]) hx hb dX7_growJoin_127 hl (by decide) rfl (fun ls hl => ?_)
      obtain ⟨x3, ex3, h⟩ := zlet_ex h
      refine lv_iinc (v := x3) (lv' := [(9, .int x3), (7, .long x2), (0, .ref (za G t0)), (1, .ref (za G t1)), (2, .ref (za G t2)), (3, .int v3), (4, .int v4), (13, .long v13)]) hx hb dX7_growJoin_129 hl (k := 6) rfl (by rw [ex3]; rfl) (by decide) rfl (fun ls hl => ?_)
      refine lv_goto (tgt := 9) hx hb dX7_growJoin_132 (by decide) ?_
      exact ih x2 x3 M h H locs ls hw (lv_sub hl [2, 3, 4, 5, 6, 1, 0] rfl)
    refine lv_iload hx hb dX7_growJoin_9 (lv_at hl 6 rfl) ?_
    refine lv_iload hx hb dX7_growJoin_11 (lv_at hl 4 rfl) ?_
    refine lv_iconst (v := 1) hx hb dX7_growJoin_13 (by decide) ?_
    refine lv_isub hx hb dX7_growJoin_14 ?_
    refine lv_icmp_ge (tgt := 135) hx hb dX7_growJoin_15 (by decide) (fun c4 => ?_) (fun c4 => ?_)
    · have h := zif_t h c4
      exact hK M h H locs ls hw (lv_sub hl [] rfl)
    · have h := zif_f h c4
      refine lv_aload_n hx hb dX7_growJoin_18 rfl (lv_at hl 1 rfl) ?_
      refine lv_iload hx hb dX7_growJoin_19 (lv_at hl 6 rfl) ?_
      obtain ⟨q5, eq5, h⟩ := zlet_ex h
      refine z_callV (ci := 10) (As := [.int v9]) (rest := []) (rv := (some (.int q5))) (M1 := M) S hw (c_X10_at l hG t1 v9 k1 M q5 eq5.symm) mv_X10_at lk_X7_81 k1 ⟨_, _, rfl⟩ (by decide) rfl rfl (Nat.le_of_ble_eq_true rfl) ⟨Nat.le_of_ble_eq_true rfl, Nat.le_of_ble_eq_true rfl⟩ hl.1 dX7_growJoin_21 (fun H locs hw => ?_)
      obtain ⟨q6, eq6, h⟩ := zlet_ex h
      refine z_callS (As := [.int q5]) (rest := []) (rv := (some (.int q6))) (M1 := M) S hw (c_X11_kindOf l hG q5 M q6 eq6.symm) mv_X11_kindOf lk_X7_85 rfl rfl (Nat.le_of_ble_eq_true rfl) ⟨Nat.le_of_ble_eq_true rfl, Nat.le_of_ble_eq_true rfl⟩ hl.1 dX7_growJoin_24 (fun H locs hw => ?_)
      refine lv_istore (lv' := [(10, .int q6), (0, .ref (za G t0)), (1, .ref (za G t1)), (2, .ref (za G t2)), (3, .int v3), (4, .int v4), (7, .long v7), (9, .int v9)]) hx hb dX7_growJoin_27 hl (by decide) rfl (fun ls hl => ?_)
      refine lv_iload hx hb dX7_growJoin_29 (lv_at hl 0 rfl) ?_
      obtain ⟨q7, eq7, h⟩ := zlet_ex h
      refine z_callS (As := [.int q6]) (rest := []) (rv := (some (.int q7))) (M1 := M) S hw (c_X11_isJoin l hG q6 M q7 eq7.symm) mv_X11_isJoin lk_X7_92 rfl rfl (Nat.le_of_ble_eq_true rfl) ⟨Nat.le_of_ble_eq_true rfl, Nat.le_of_ble_eq_true rfl⟩ hl.1 dX7_growJoin_31 (fun H locs hw => ?_)
      refine lv_if_ne (tgt := 40) hx hb dX7_growJoin_34 (by decide) (fun c8 => ?_) (fun c8 => ?_)
      · have h := zif_f h c8
        refine lv_aload_n hx hb dX7_growJoin_40 rfl (lv_at hl 3 rfl) ?_
        refine lv_iload hx hb dX7_growJoin_41 (lv_at hl 7 rfl) ?_
        refine lv_iconst (v := 1) hx hb dX7_growJoin_43 (by decide) ?_
        refine lv_iadd hx hb dX7_growJoin_44 ?_
        refine lv_iload hx hb dX7_growJoin_45 (lv_at hl 5 rfl) ?_
        obtain ⟨q9, eq9, h⟩ := zlet_ex h
        refine z_callV (ci := 9) (As := [.int (v9 + 1), .int v4]) (rest := []) (rv := (some (.long q9))) (M1 := M) S hw (c_X9_number l hG t2 (v9 + 1) v4 k2 M q9 eq9.symm) mv_X9_number lk_X7_96 k2 ⟨_, _, rfl⟩ (by decide) rfl rfl (Nat.le_of_ble_eq_true rfl) ⟨Nat.le_of_ble_eq_true rfl, Nat.le_of_ble_eq_true rfl⟩ hl.1 dX7_growJoin_47 (fun H locs hw => ?_)
        refine lv_lstore (lv' := [(11, .long q9), (10, .int q6), (0, .ref (za G t0)), (1, .ref (za G t1)), (2, .ref (za G t2)), (3, .int v3), (4, .int v4), (7, .long v7), (9, .int v9)]) hx hb dX7_growJoin_50 hl (by decide) rfl (fun ls hl => ?_)
        refine lv_aload_n hx hb dX7_growJoin_52 rfl (lv_at hl 4 rfl) ?_
        refine lv_iload_n hx hb dX7_growJoin_53 rfl (lv_at hl 5 rfl) ?_
        refine lv_iload hx hb dX7_growJoin_54 (lv_at hl 8 rfl) ?_
        obtain ⟨q10, eq10, h⟩ := zlet_ex h
        refine z_callV (ci := 9) (As := [.int v3, .int v9]) (rest := []) (rv := (some (.long q10))) (M1 := M) S hw (c_X9_number l hG t2 v3 v9 k2 M q10 eq10.symm) mv_X9_number lk_X7_96 k2 ⟨_, _, rfl⟩ (by decide) rfl rfl (Nat.le_of_ble_eq_true rfl) ⟨Nat.le_of_ble_eq_true rfl, Nat.le_of_ble_eq_true rfl⟩ hl.1 dX7_growJoin_56 (fun H locs hw => ?_)
        refine lv_lload hx hb dX7_growJoin_59 (lv_at hl 0 rfl) ?_
        refine lv_lmul hx hb dX7_growJoin_61 ?_
        obtain ⟨x11, ex11, h⟩ := zlet_ex h
        refine lv_toplE ex11 ?_
        refine lv_lstore (lv' := [(13, .long x11), (11, .long q9), (10, .int q6), (0, .ref (za G t0)), (1, .ref (za G t1)), (2, .ref (za G t2)), (3, .int v3), (4, .int v4), (7, .long v7), (9, .int v9)]) hx hb dX7_growJoin_62 hl (by decide) rfl (fun ls hl => ?_)
        refine lv_lload hx hb dX7_growJoin_64 (lv_at hl 8 rfl) ?_
        refine lv_lload hx hb dX7_growJoin_66 (lv_at hl 0 rfl) ?_
        refine W.lcmp hx hb dX7_growJoin_68 ?_
        refine lv_if_ge (tgt := 122) hx hb dX7_growJoin_69 (by decide) (fun c12 => ?_) (fun c12 => ?_)
        · have h := zif_t h c12
          exact wJ122 v7 v9 x11 M h H locs ls hw (lv_sub hl [3, 4, 5, 6, 7, 8, 9, 0] rfl)
        · have h := zif_f h c12
          refine lv_lload hx hb dX7_growJoin_72 (lv_at hl 1 rfl) ?_
          refine lv_lconst (v := 0) hx hb dX7_growJoin_74 (by decide) ?_
          refine W.lcmp hx hb dX7_growJoin_75 ?_
          refine lv_if_le (tgt := 122) hx hb dX7_growJoin_76 (by decide) (fun c13 => ?_) (fun c13 => ?_)
          · have h := zif_t h c13
            exact wJ122 v7 v9 x11 M h H locs ls hw (lv_sub hl [3, 4, 5, 6, 7, 8, 9, 0] rfl)
          · have h := zif_f h c13
            refine lv_aload_n hx hb dX7_growJoin_79 rfl (lv_at hl 3 rfl) ?_
            refine lv_iload hx hb dX7_growJoin_80 (lv_at hl 9 rfl) ?_
            refine lv_iconst (v := 1) hx hb dX7_growJoin_82 (by decide) ?_
            refine lv_iadd hx hb dX7_growJoin_83 ?_
            refine lv_iload hx hb dX7_growJoin_84 (lv_at hl 7 rfl) ?_
            refine lv_lload hx hb dX7_growJoin_86 (lv_at hl 8 rfl) ?_
            refine lv_lload hx hb dX7_growJoin_88 (lv_at hl 1 rfl) ?_
            obtain ⟨g14, h⟩ := zck_ex h
            refine lv_lrem hx hb dX7_growJoin_90 (znz_of g14) ?_
            refine lv_aload_n hx hb dX7_growJoin_91 rfl (lv_at hl 3 rfl) ?_
            refine z_getI S hw k0 fl_X7_37 rfl dX7_growJoin_92 ?_
            obtain ⟨q15, eq15, h⟩ := zlet_ex h
            refine z_callV (ci := 7) (As := [.int (v9 + 1), .int v4, .long (v7 - v7 / q9 * q9), .int (M.1 t0 4)]) (rest := []) (rv := none) (M1 := q15) S hw (c_X7_await l hG t0 (v9 + 1) v4 (v7 - v7 / q9 * q9) (M.1 t0 4) k0 M q15 eq15.symm) mv_X7_await lk_X7_53 k0 ⟨_, _, rfl⟩ (by decide) rfl rfl (Nat.le_of_ble_eq_true rfl) ⟨Nat.le_of_ble_eq_true rfl, Nat.le_of_ble_eq_true rfl⟩ hl.1 dX7_growJoin_95 (fun H locs hw => ?_)
            refine lv_aload_n hx hb dX7_growJoin_98 rfl (lv_at hl 3 rfl) ?_
            refine lv_iload_n hx hb dX7_growJoin_99 rfl (lv_at hl 6 rfl) ?_
            refine lv_iload hx hb dX7_growJoin_100 (lv_at hl 9 rfl) ?_
            refine lv_lload hx hb dX7_growJoin_102 (lv_at hl 8 rfl) ?_
            refine lv_lload hx hb dX7_growJoin_104 (lv_at hl 1 rfl) ?_
            obtain ⟨g16, h⟩ := zck_ex h
            refine lv_ldiv hx hb dX7_growJoin_106 (znz_of g16) ?_
            refine lv_bipush (v := (-9)) hx hb dX7_growJoin_107 (by decide) ?_
            obtain ⟨q17, eq17, h⟩ := zlet_ex h
            refine z_callV (ci := 7) (As := [.int v3, .int v9, .long (v7 / q9), .int (-9)]) (rest := []) (rv := none) (M1 := q17) S hw (c_X7_await l hG t0 v3 v9 (v7 / q9) (-9) k0 q15 q17 eq17.symm) mv_X7_await lk_X7_53 k0 ⟨_, _, rfl⟩ (by decide) rfl rfl (Nat.le_of_ble_eq_true rfl) ⟨Nat.le_of_ble_eq_true rfl, Nat.le_of_ble_eq_true rfl⟩ hl.1 dX7_growJoin_109 (fun H locs hw => ?_)
            refine lv_aload_n hx hb dX7_growJoin_112 rfl (lv_at hl 3 rfl) ?_
            refine lv_iload hx hb dX7_growJoin_113 (lv_at hl 2 rfl) ?_
            refine lv_iload_n hx hb dX7_growJoin_115 rfl (lv_at hl 6 rfl) ?_
            refine lv_iload hx hb dX7_growJoin_116 (lv_at hl 7 rfl) ?_
            obtain ⟨q18, eq18, h⟩ := zlet_ex h
            refine z_callV (ci := 7) (As := [.int q6, .int v3, .int v4]) (rest := []) (rv := none) (M1 := q18) S hw (c_X7_addNode l hG t0 q6 v3 v4 k0 q17 q18 eq18.symm) mv_X7_addNode lk_X7_88 k0 ⟨_, _, rfl⟩ (by decide) rfl rfl (Nat.le_of_ble_eq_true rfl) ⟨Nat.le_of_ble_eq_true rfl, Nat.le_of_ble_eq_true rfl⟩ hl.1 dX7_growJoin_118 (fun H locs hw => ?_)
            have h := Option.some.inj h
            subst h
            exact z_ret_v S hr hlk hw dX7_growJoin_121
      · have h := zif_t h c8
        refine lv_goto (tgt := 129) hx hb dX7_growJoin_37 (by decide) ?_
        obtain ⟨x19, ex19, h⟩ := zlet_ex h
        refine lv_iinc (v := x19) (lv' := [(9, .int x19), (10, .int q6), (0, .ref (za G t0)), (1, .ref (za G t1)), (2, .ref (za G t2)), (3, .int v3), (4, .int v4), (7, .long v7)]) hx hb dX7_growJoin_129 hl (k := 7) rfl (by rw [ex19]; rfl) (by decide) rfl (fun ls hl => ?_)
        refine lv_goto (tgt := 9) hx hb dX7_growJoin_132 (by decide) ?_
        exact ih v7 x19 M h H locs ls hw (lv_sub hl [2, 3, 4, 5, 6, 7, 0] rfl)
set_option maxHeartbeats 4000000 in
set_option maxRecDepth 100000 in
theorem c_X7_growJoin (l : Launch) {G : ZG} (hG : zOk G) (t0 : Nat) (t1 : Nat) (t2 : Nat) (v3 : Int32) (v4 : Int32) (v5 : Int64) (k0 : zk G t0 = 17) (k1 : zk G t1 = 20) (k2 : zk G t2 = 19) (M : ZM) (res : ZM) (h : f_X7_growJoin t0 t1 t2 v3 v4 v5 M = some res) : zCt l yX7_growJoin cX7_growJoin 15 none 2 G [.ref (za G t0), .ref (za G t1), .ref (za G t2), .int v3, .int v4, .long v5] M none res := by
  refine zCt.mk (by decide +kernel) (Nat.le_of_ble_eq_true rfl) ?_
  intro p e s m args below meth c A H locs ls S hr hlk hw hl
  have S : zX p (zR 2) s m args c 0 0 cX7_growJoin 15 RX7 := S
  have hx := S.1.1
  have hb := S.1.2.1
  have hown := S.1.2.2.2.1
  have hts := S.1.2.2.2.2
  have hl : lv_has ls 15 [(0, .ref (za G t0)), (1, .ref (za G t1)), (2, .ref (za G t2)), (3, .int v3), (4, .int v4), (5, .long v5)] := hl
  unfold f_X7_growJoin at h
  refine lv_lload hx hb dX7_growJoin_0 (lv_at hl 5 rfl) ?_
  refine lv_lstore (lv' := [(7, .long v5), (0, .ref (za G t0)), (1, .ref (za G t1)), (2, .ref (za G t2)), (3, .int v3), (4, .int v4), (5, .long v5)]) hx hb dX7_growJoin_2 hl (by decide) rfl (fun ls hl => ?_)
  refine lv_iload_n hx hb dX7_growJoin_4 rfl (lv_at hl 4 rfl) ?_
  refine lv_iconst (v := 1) hx hb dX7_growJoin_5 (by decide) ?_
  refine lv_iadd hx hb dX7_growJoin_6 ?_
  obtain ⟨x1, ex1, h⟩ := zlet_ex h
  refine lv_topiE ex1 ?_
  refine lv_istore (lv' := [(9, .int x1), (7, .long v5), (0, .ref (za G t0)), (1, .ref (za G t1)), (2, .ref (za G t2)), (3, .int v3), (4, .int v4), (5, .long v5)]) hx hb dX7_growJoin_7 hl (by decide) rfl (fun ls hl => ?_)
  refine w_X7_growJoin_9 hG S hr hlk t0 t1 t2 v3 v4 k0 k1 k2 (fun M h H locs ls hw hl => ?_) zN v5 x1 M h H locs ls hw (lv_sub hl [2, 3, 4, 5, 6, 1, 0] rfl)
  have h := Option.some.inj h
  subst h
  exact z_ret_v S hr hlk hw dX7_growJoin_135
end Z
