section Z
variable {p : Program} {l : Launch} {e : Env} {s : State} {m : MethodId} {args : Array Value} {below : List Frame} {meth : Method} {c : Code} {A : Nat → Prop}
def f_X7_grow_25 (t0 : Nat) (t1 : Nat) (t2 : Nat) (K : ZM → Option ZM) : Nat → Int32 → ZM → Option ZM
  | 0, _, _ => none
  | n + 1, v5, M =>
    if 21 ≤ v5 then (
      K M) else (
      if (M.1 t0 9) ≤ 0 then (
        K M) else (
        zlet (zi M t0 9 ((M.1 t0 9) - 1)) fun (M7 : ZM) =>
        zlet (f_X11_look (zr t0 5) (M7.1 t0 9) M7) fun (q8 : Int32) =>
        zlet (f_X11_look (zr t0 6) (M7.1 t0 9) M7) fun (q9 : Int32) =>
        zlet (f_X11_look_ (zr t0 7) (M7.1 t0 9) M7) fun (q10 : Int64) =>
        zlet (f_X9_frontNumber t2 q8 q9 M7) fun (q11 : Int64) =>
        zlet (f_X11_look (zr t0 8) (M7.1 t0 9) M7) fun (q12 : Int32) =>
        zlet (f_X11_put (zr t0 3) q12 (M7.1 t0 4) M7) fun (q13 : ZM) =>
        if 0 ≤ (lg_cmp q10 q11) then (
          (f_X7_growJoin t0 t1 t2 q8 q9 (q10 - q11) q13).bind fun (q15 : ZM) =>
          zlet (v5 + 1) fun (x16 : Int32) =>
          f_X7_grow_25 t0 t1 t2 K n x16 q15) else (
          zlet (f_X7_growFront t0 t1 q8 q9 q10 q13) fun (q17 : ZM) =>
          zlet (v5 + 1) fun (x18 : Int32) =>
          f_X7_grow_25 t0 t1 t2 K n x18 q17)))

def f_X7_grow (t0 : Nat) (t1 : Nat) (t2 : Nat) (v3 : Int64) (M : ZM) : Option ZM :=
  zlet (zi M t0 4 0) fun (M1 : ZM) =>
  zlet (zi M1 t0 9 0) fun (M2 : ZM) =>
  zlet (f_X10_size t1 M2) fun (q3 : Int32) =>
  zlet (f_X7_await t0 0 q3 v3 (-9) M2) fun (q4 : ZM) =>
  f_X7_grow_25 t0 t1 t2 (fun (M : ZM) =>
    some M) zN 0 q4
set_option maxHeartbeats 4000000 in
set_option maxRecDepth 100000 in
theorem w_X7_grow_25 {G : ZG} (hG : zOk G) (S : zX p (zR 3) s m args c 0 0 cX7_grow 12 RX7) (hr : meth.sig.returnType = none) (hlk : meth.locks = false) (t0 : Nat) (t1 : Nat) (t2 : Nat) (k0 : zk G t0 = 17) (k1 : zk G t1 = 20) (k2 : zk G t2 = 19)  {K : ZM → Option ZM} {res : ZM} (hK : ∀  (M : ZM), K M = some res → ∀ (H : Heap) (locs : List Loc) (ls : Array Slot), zWd G A s H locs M → lv_has ls 12 [] → W p l e (zR 3) s m args below meth c H locs 0 0 (zQ below G A none res args s) (F0 m 163 ls [])) : ∀ (n : Nat) (v5 : Int32) (M : ZM), f_X7_grow_25 t0 t1 t2 K n v5 M = some res → ∀ (H : Heap) (locs : List Loc) (ls : Array Slot), zWd G A s H locs M → lv_has ls 12 [(0, .ref (za G t0)), (1, .ref (za G t1)), (2, .ref (za G t2)), (5, .int v5)] → W p l e (zR 3) s m args below meth c H locs 0 0 (zQ below G A none res args s) (F0 m 25 ls []) := by
  have hx := S.1.1
  have hb := S.1.2.1
  have hown := S.1.2.2.2.1
  have hts := S.1.2.2.2.2
  intro n
  induction n with
  | zero =>
    intro v5 M h
    rw [f_X7_grow_25] at h
    cases h
  | succ n ih =>
    intro v5 M h H locs ls hw hl
    rw [f_X7_grow_25] at h
    refine lv_iload hx hb dX7_grow_25 (lv_at hl 3 rfl) ?_
    refine lv_bipush (v := 21) hx hb dX7_grow_27 (by decide) ?_
    refine lv_icmp_ge (tgt := 163) hx hb dX7_grow_29 (by decide) (fun c5 => ?_) (fun c5 => ?_)
    · have h := zif_t h c5
      exact hK M h H locs ls hw (lv_sub hl [] rfl)
    · have h := zif_f h c5
      refine lv_aload_n hx hb dX7_grow_32 rfl (lv_at hl 0 rfl) ?_
      refine z_getI S hw k0 fl_X7_45 rfl dX7_grow_33 ?_
      refine lv_if_le (tgt := 163) hx hb dX7_grow_36 (by decide) (fun c6 => ?_) (fun c6 => ?_)
      · have h := zif_t h c6
        exact hK M h H locs ls hw (lv_sub hl [] rfl)
      · have h := zif_f h c6
        refine lv_aload_n hx hb dX7_grow_39 rfl (lv_at hl 0 rfl) ?_
        refine lv_dup hx hb dX7_grow_40 rfl ?_
        refine z_getI S hw k0 fl_X7_45 rfl dX7_grow_41 ?_
        refine lv_iconst (v := 1) hx hb dX7_grow_44 (by decide) ?_
        refine lv_isub hx hb dX7_grow_45 ?_
        obtain ⟨M7, eM7, h⟩ := zlet_ex h
        refine z_putI S hw eM7 k0 fl_X7_45 rfl (fun h => absurd h (by decide)) dX7_grow_46 (fun H locs hw => ?_)
        refine lv_aload_n hx hb dX7_grow_49 rfl (lv_at hl 0 rfl) ?_
        refine z_getR S hw k0 fl_X7_24 rfl dX7_grow_50 ?_
        refine lv_aload_n hx hb dX7_grow_53 rfl (lv_at hl 0 rfl) ?_
        refine z_getI S hw k0 fl_X7_45 rfl dX7_grow_54 ?_
        obtain ⟨q8, eq8, h⟩ := zlet_ex h
        refine z_callS (As := [.ref (za G (zr t0 5)), .int (M7.1 t0 9)]) (rest := []) (rv := (some (.int q8))) (M1 := M7) S hw (c_X11_look l hG (zr t0 5) (M7.1 t0 9) (kr_7_5 hG k0) M7 q8 eq8.symm) mv_X11_look lk_X7_41 rfl rfl (Nat.le_of_ble_eq_true rfl) ⟨Nat.le_of_ble_eq_true rfl, Nat.le_of_ble_eq_true rfl⟩ hl.1 dX7_grow_57 (fun H locs hw => ?_)
        refine lv_istore (lv' := [(6, .int q8), (0, .ref (za G t0)), (1, .ref (za G t1)), (2, .ref (za G t2)), (5, .int v5)]) hx hb dX7_grow_60 hl (by decide) rfl (fun ls hl => ?_)
        refine lv_aload_n hx hb dX7_grow_62 rfl (lv_at hl 1 rfl) ?_
        refine z_getR S hw k0 fl_X7_27 rfl dX7_grow_63 ?_
        refine lv_aload_n hx hb dX7_grow_66 rfl (lv_at hl 1 rfl) ?_
        refine z_getI S hw k0 fl_X7_45 rfl dX7_grow_67 ?_
        obtain ⟨q9, eq9, h⟩ := zlet_ex h
        refine z_callS (As := [.ref (za G (zr t0 6)), .int (M7.1 t0 9)]) (rest := []) (rv := (some (.int q9))) (M1 := M7) S hw (c_X11_look l hG (zr t0 6) (M7.1 t0 9) (kr_7_6 hG k0) M7 q9 eq9.symm) mv_X11_look lk_X7_41 rfl rfl (Nat.le_of_ble_eq_true rfl) ⟨Nat.le_of_ble_eq_true rfl, Nat.le_of_ble_eq_true rfl⟩ hl.1 dX7_grow_70 (fun H locs hw => ?_)
        refine lv_istore (lv' := [(7, .int q9), (6, .int q8), (0, .ref (za G t0)), (1, .ref (za G t1)), (2, .ref (za G t2)), (5, .int v5)]) hx hb dX7_grow_73 hl (by decide) rfl (fun ls hl => ?_)
        refine lv_aload_n hx hb dX7_grow_75 rfl (lv_at hl 2 rfl) ?_
        refine z_getR S hw k0 fl_X7_30 rfl dX7_grow_76 ?_
        refine lv_aload_n hx hb dX7_grow_79 rfl (lv_at hl 2 rfl) ?_
        refine z_getI S hw k0 fl_X7_45 rfl dX7_grow_80 ?_
        obtain ⟨q10, eq10, h⟩ := zlet_ex h
        refine z_callS (As := [.ref (za G (zr t0 7)), .int (M7.1 t0 9)]) (rest := []) (rv := (some (.long q10))) (M1 := M7) S hw (c_X11_look_ l hG (zr t0 7) (M7.1 t0 9) (kr_7_7 hG k0) M7 q10 eq10.symm) mv_X11_look_ lk_X7_57 rfl rfl (Nat.le_of_ble_eq_true rfl) ⟨Nat.le_of_ble_eq_true rfl, Nat.le_of_ble_eq_true rfl⟩ hl.1 dX7_grow_83 (fun H locs hw => ?_)
        refine lv_lstore (lv' := [(8, .long q10), (7, .int q9), (6, .int q8), (0, .ref (za G t0)), (1, .ref (za G t1)), (2, .ref (za G t2)), (5, .int v5)]) hx hb dX7_grow_86 hl (by decide) rfl (fun ls hl => ?_)
        refine lv_aload_n hx hb dX7_grow_88 rfl (lv_at hl 5 rfl) ?_
        refine lv_iload hx hb dX7_grow_89 (lv_at hl 2 rfl) ?_
        refine lv_iload hx hb dX7_grow_91 (lv_at hl 1 rfl) ?_
        obtain ⟨q11, eq11, h⟩ := zlet_ex h
        refine z_callV (ci := 9) (As := [.int q8, .int q9]) (rest := []) (rv := (some (.long q11))) (M1 := M7) S hw (c_X9_frontNumber l hG t2 q8 q9 k2 M7 q11 eq11.symm) mv_X9_frontNumber lk_X7_60 k2 ⟨_, _, rfl⟩ (by decide) rfl rfl (Nat.le_of_ble_eq_true rfl) ⟨Nat.le_of_ble_eq_true rfl, Nat.le_of_ble_eq_true rfl⟩ hl.1 dX7_grow_93 (fun H locs hw => ?_)
        refine lv_lstore (lv' := [(10, .long q11), (8, .long q10), (7, .int q9), (6, .int q8), (0, .ref (za G t0)), (1, .ref (za G t1)), (2, .ref (za G t2)), (5, .int v5)]) hx hb dX7_grow_96 hl (by decide) rfl (fun ls hl => ?_)
        refine lv_aload_n hx hb dX7_grow_98 rfl (lv_at hl 4 rfl) ?_
        refine z_getR S hw k0 fl_X7_21 rfl dX7_grow_99 ?_
        refine lv_aload_n hx hb dX7_grow_102 rfl (lv_at hl 4 rfl) ?_
        refine z_getR S hw k0 fl_X7_34 rfl dX7_grow_103 ?_
        refine lv_aload_n hx hb dX7_grow_106 rfl (lv_at hl 4 rfl) ?_
        refine z_getI S hw k0 fl_X7_45 rfl dX7_grow_107 ?_
        obtain ⟨q12, eq12, h⟩ := zlet_ex h
        refine z_callS (As := [.ref (za G (zr t0 8)), .int (M7.1 t0 9)]) (rest := [.ref (za G (zr t0 3))]) (rv := (some (.int q12))) (M1 := M7) S hw (c_X11_look l hG (zr t0 8) (M7.1 t0 9) (kr_7_8 hG k0) M7 q12 eq12.symm) mv_X11_look lk_X7_41 rfl rfl (Nat.le_of_ble_eq_true rfl) ⟨Nat.le_of_ble_eq_true rfl, Nat.le_of_ble_eq_true rfl⟩ hl.1 dX7_grow_110 (fun H locs hw => ?_)
        refine lv_aload_n hx hb dX7_grow_113 rfl (lv_at hl 4 rfl) ?_
        refine z_getI S hw k0 fl_X7_37 rfl dX7_grow_114 ?_
        obtain ⟨q13, eq13, h⟩ := zlet_ex h
        refine z_callS (As := [.ref (za G (zr t0 3)), .int q12, .int (M7.1 t0 4)]) (rest := []) (rv := none) (M1 := q13) S hw (c_X11_put l hG (zr t0 3) q12 (M7.1 t0 4) (kr_7_3 hG k0) M7 q13 eq13.symm) mv_X11_put lk_X7_66 rfl rfl (Nat.le_of_ble_eq_true rfl) ⟨Nat.le_of_ble_eq_true rfl, Nat.le_of_ble_eq_true rfl⟩ hl.1 dX7_grow_117 (fun H locs hw => ?_)
        refine lv_lload hx hb dX7_grow_120 (lv_at hl 1 rfl) ?_
        refine lv_lload hx hb dX7_grow_122 (lv_at hl 0 rfl) ?_
        refine W.lcmp hx hb dX7_grow_124 ?_
        refine lv_if_ge (tgt := 142) hx hb dX7_grow_125 (by decide) (fun c14 => ?_) (fun c14 => ?_)
        · have h := zif_t h c14
          refine lv_aload_n hx hb dX7_grow_142 rfl (lv_at hl 4 rfl) ?_
          refine lv_aload_n hx hb dX7_grow_143 rfl (lv_at hl 5 rfl) ?_
          refine lv_aload_n hx hb dX7_grow_144 rfl (lv_at hl 6 rfl) ?_
          refine lv_iload hx hb dX7_grow_145 (lv_at hl 3 rfl) ?_
          refine lv_iload hx hb dX7_grow_147 (lv_at hl 2 rfl) ?_
          refine lv_lload hx hb dX7_grow_149 (lv_at hl 1 rfl) ?_
          refine lv_lload hx hb dX7_grow_151 (lv_at hl 0 rfl) ?_
          refine lv_lsub hx hb dX7_grow_153 ?_
          obtain ⟨q15, eq15, h⟩ := Option.bind_eq_some_iff.mp h
          refine z_callV (ci := 7) (As := [.ref (za G t1), .ref (za G t2), .int q8, .int q9, .long (q10 - q11)]) (rest := []) (rv := none) (M1 := q15) S hw (c_X7_growJoin l hG t0 t1 t2 q8 q9 (q10 - q11) k0 k1 k2 q13 q15 eq15) mv_X7_growJoin lk_X7_74 k0 ⟨_, _, rfl⟩ (by decide) rfl rfl (Nat.le_of_ble_eq_true rfl) ⟨Nat.le_of_ble_eq_true rfl, Nat.le_of_ble_eq_true rfl⟩ hl.1 dX7_grow_154 (fun H locs hw => ?_)
          obtain ⟨x16, ex16, h⟩ := zlet_ex h
          refine lv_iinc (v := x16) (lv' := [(5, .int x16), (10, .long q11), (8, .long q10), (7, .int q9), (6, .int q8), (0, .ref (za G t0)), (1, .ref (za G t1)), (2, .ref (za G t2))]) hx hb dX7_grow_157 hl (k := 7) rfl (by rw [ex16]; rfl) (by decide) rfl (fun ls hl => ?_)
          refine lv_goto (tgt := 25) hx hb dX7_grow_160 (by decide) ?_
          exact ih x16 q15 h H locs ls hw (lv_sub hl [5, 6, 7, 0] rfl)
        · have h := zif_f h c14
          refine lv_aload_n hx hb dX7_grow_128 rfl (lv_at hl 4 rfl) ?_
          refine lv_aload_n hx hb dX7_grow_129 rfl (lv_at hl 5 rfl) ?_
          refine lv_iload hx hb dX7_grow_130 (lv_at hl 3 rfl) ?_
          refine lv_iload hx hb dX7_grow_132 (lv_at hl 2 rfl) ?_
          refine lv_lload hx hb dX7_grow_134 (lv_at hl 1 rfl) ?_
          obtain ⟨q17, eq17, h⟩ := zlet_ex h
          refine z_callV (ci := 7) (As := [.ref (za G t1), .int q8, .int q9, .long q10]) (rest := []) (rv := none) (M1 := q17) S hw (c_X7_growFront l hG t0 t1 q8 q9 q10 k0 k1 q13 q17 eq17.symm) mv_X7_growFront lk_X7_70 k0 ⟨_, _, rfl⟩ (by decide) rfl rfl (Nat.le_of_ble_eq_true rfl) ⟨Nat.le_of_ble_eq_true rfl, Nat.le_of_ble_eq_true rfl⟩ hl.1 dX7_grow_136 (fun H locs hw => ?_)
          refine lv_goto (tgt := 157) hx hb dX7_grow_139 (by decide) ?_
          obtain ⟨x18, ex18, h⟩ := zlet_ex h
          refine lv_iinc (v := x18) (lv' := [(5, .int x18), (10, .long q11), (8, .long q10), (7, .int q9), (6, .int q8), (0, .ref (za G t0)), (1, .ref (za G t1)), (2, .ref (za G t2))]) hx hb dX7_grow_157 hl (k := 7) rfl (by rw [ex18]; rfl) (by decide) rfl (fun ls hl => ?_)
          refine lv_goto (tgt := 25) hx hb dX7_grow_160 (by decide) ?_
          exact ih x18 q17 h H locs ls hw (lv_sub hl [5, 6, 7, 0] rfl)
set_option maxHeartbeats 4000000 in
set_option maxRecDepth 100000 in
theorem c_X7_grow (l : Launch) {G : ZG} (hG : zOk G) (t0 : Nat) (t1 : Nat) (t2 : Nat) (v3 : Int64) (k0 : zk G t0 = 17) (k1 : zk G t1 = 20) (k2 : zk G t2 = 19) (M : ZM) (res : ZM) (h : f_X7_grow t0 t1 t2 v3 M = some res) : zCt l yX7_grow cX7_grow 12 none 3 G [.ref (za G t0), .ref (za G t1), .ref (za G t2), .long v3] M none res := by
  refine zCt.mk (by decide +kernel) (Nat.le_of_ble_eq_true rfl) ?_
  intro p e s m args below meth c A H locs ls S hr hlk hw hl
  have S : zX p (zR 3) s m args c 0 0 cX7_grow 12 RX7 := S
  have hx := S.1.1
  have hb := S.1.2.1
  have hown := S.1.2.2.2.1
  have hts := S.1.2.2.2.2
  have hl : lv_has ls 12 [(0, .ref (za G t0)), (1, .ref (za G t1)), (2, .ref (za G t2)), (3, .long v3)] := hl
  unfold f_X7_grow at h
  refine lv_aload_n hx hb dX7_grow_0 rfl (lv_at hl 0 rfl) ?_
  refine lv_iconst (v := 0) hx hb dX7_grow_1 (by decide) ?_
  obtain ⟨M1, eM1, h⟩ := zlet_ex h
  refine z_putI S hw eM1 k0 fl_X7_37 rfl (fun h => absurd h (by decide)) dX7_grow_2 (fun H locs hw => ?_)
  refine lv_aload_n hx hb dX7_grow_5 rfl (lv_at hl 0 rfl) ?_
  refine lv_iconst (v := 0) hx hb dX7_grow_6 (by decide) ?_
  obtain ⟨M2, eM2, h⟩ := zlet_ex h
  refine z_putI S hw eM2 k0 fl_X7_45 rfl (fun h => absurd h (by decide)) dX7_grow_7 (fun H locs hw => ?_)
  refine lv_aload_n hx hb dX7_grow_10 rfl (lv_at hl 0 rfl) ?_
  refine lv_iconst (v := 0) hx hb dX7_grow_11 (by decide) ?_
  refine lv_aload_n hx hb dX7_grow_12 rfl (lv_at hl 1 rfl) ?_
  obtain ⟨q3, eq3, h⟩ := zlet_ex h
  refine z_callV (ci := 10) (As := []) (rest := [.int 0, .ref (za G t0)]) (rv := (some (.int q3))) (M1 := M2) S hw (c_X10_size l hG t1 k1 M2 q3 eq3.symm) mv_X10_size lk_X7_48 k1 ⟨_, _, rfl⟩ (by decide) rfl rfl (Nat.le_of_ble_eq_true rfl) ⟨Nat.le_of_ble_eq_true rfl, Nat.le_of_ble_eq_true rfl⟩ hl.1 dX7_grow_13 (fun H locs hw => ?_)
  refine lv_lload_n hx hb dX7_grow_16 rfl (lv_at hl 3 rfl) ?_
  refine lv_bipush (v := (-9)) hx hb dX7_grow_17 (by decide) ?_
  obtain ⟨q4, eq4, h⟩ := zlet_ex h
  refine z_callV (ci := 7) (As := [.int 0, .int q3, .long v3, .int (-9)]) (rest := []) (rv := none) (M1 := q4) S hw (c_X7_await l hG t0 0 q3 v3 (-9) k0 M2 q4 eq4.symm) mv_X7_await lk_X7_53 k0 ⟨_, _, rfl⟩ (by decide) rfl rfl (Nat.le_of_ble_eq_true rfl) ⟨Nat.le_of_ble_eq_true rfl, Nat.le_of_ble_eq_true rfl⟩ hl.1 dX7_grow_19 (fun H locs hw => ?_)
  refine lv_iconst (v := 0) hx hb dX7_grow_22 (by decide) ?_
  refine lv_istore (lv' := [(5, .int 0), (0, .ref (za G t0)), (1, .ref (za G t1)), (2, .ref (za G t2)), (3, .long v3)]) hx hb dX7_grow_23 hl (by decide) rfl (fun ls hl => ?_)
  refine w_X7_grow_25 hG S hr hlk t0 t1 t2 k0 k1 k2 (fun M h H locs ls hw hl => ?_) zN 0 q4 h H locs ls hw (lv_sub hl [1, 2, 3, 0] rfl)
  have h := Option.some.inj h
  subst h
  exact z_ret_v S hr hlk hw dX7_grow_163
def f_X7_size (t0 : Nat) (M : ZM) : Int32 :=
  (M.1 t0 4)
set_option maxHeartbeats 4000000 in
set_option maxRecDepth 100000 in
theorem c_X7_size (l : Launch) {G : ZG} (hG : zOk G) (t0 : Nat) (k0 : zk G t0 = 17) (M : ZM) (res : Int32) (h : f_X7_size t0 M = res) : zCt l yX7_size cX7_size 1 (Option.some FieldType.int) 0 G [.ref (za G t0)] M (some (.int res)) M := by
  refine zCt.mk (by decide +kernel) (Nat.le_of_ble_eq_true rfl) ?_
  intro p e s m args below meth c A H locs ls S hr hlk hw hl
  have S : zX p (zR 0) s m args c 0 0 cX7_size 1 RX7 := S
  have hx := S.1.1
  have hb := S.1.2.1
  have hown := S.1.2.2.2.1
  have hts := S.1.2.2.2.2
  have hl : lv_has ls 1 [(0, .ref (za G t0))] := hl
  unfold f_X7_size at h
  refine lv_aload_n hx hb dX7_size_0 rfl (lv_at hl 0 rfl) ?_
  refine z_getI S hw k0 fl_X7_37 rfl dX7_size_1 ?_
  subst h
  exact z_ret_i S hr hlk hw dX7_size_4
def f_X7_inner (t0 : Nat) (v1 : Int32) (M : ZM) : Int32 :=
  (v1 + 1)
set_option maxHeartbeats 4000000 in
set_option maxRecDepth 100000 in
theorem c_X7_inner (l : Launch) {G : ZG} (hG : zOk G) (t0 : Nat) (v1 : Int32) (k0 : zk G t0 = 17) (M : ZM) (res : Int32) (h : f_X7_inner t0 v1 M = res) : zCt l yX7_inner cX7_inner 2 (Option.some FieldType.int) 0 G [.ref (za G t0), .int v1] M (some (.int res)) M := by
  refine zCt.mk (by decide +kernel) (Nat.le_of_ble_eq_true rfl) ?_
  intro p e s m args below meth c A H locs ls S hr hlk hw hl
  have S : zX p (zR 0) s m args c 0 0 cX7_inner 2 RX7 := S
  have hx := S.1.1
  have hb := S.1.2.1
  have hown := S.1.2.2.2.1
  have hts := S.1.2.2.2.2
  have hl : lv_has ls 2 [(0, .ref (za G t0)), (1, .int v1)] := hl
  unfold f_X7_inner at h
  refine lv_iload_n hx hb dX7_inner_0 rfl (lv_at hl 1 rfl) ?_
  refine lv_iconst (v := 1) hx hb dX7_inner_1 (by decide) ?_
  refine lv_iadd hx hb dX7_inner_2 ?_
  subst h
  exact z_ret_i S hr hlk hw dX7_inner_3
def f_X7_behind (t0 : Nat) (v1 : Int32) (M : ZM) : Int32 :=
  zlet (f_X11_look (zr t0 3) v1 M) fun (q1 : Int32) =>
  q1
set_option maxHeartbeats 4000000 in
set_option maxRecDepth 100000 in
theorem c_X7_behind (l : Launch) {G : ZG} (hG : zOk G) (t0 : Nat) (v1 : Int32) (k0 : zk G t0 = 17) (M : ZM) (res : Int32) (h : f_X7_behind t0 v1 M = res) : zCt l yX7_behind cX7_behind 2 (Option.some FieldType.int) 1 G [.ref (za G t0), .int v1] M (some (.int res)) M := by
  refine zCt.mk (by decide +kernel) (Nat.le_of_ble_eq_true rfl) ?_
  intro p e s m args below meth c A H locs ls S hr hlk hw hl
  have S : zX p (zR 1) s m args c 0 0 cX7_behind 2 RX7 := S
  have hx := S.1.1
  have hb := S.1.2.1
  have hown := S.1.2.2.2.1
  have hts := S.1.2.2.2.2
  have hl : lv_has ls 2 [(0, .ref (za G t0)), (1, .int v1)] := hl
  unfold f_X7_behind at h
  refine lv_aload_n hx hb dX7_behind_0 rfl (lv_at hl 0 rfl) ?_
  refine z_getR S hw k0 fl_X7_21 rfl dX7_behind_1 ?_
  refine lv_iload_n hx hb dX7_behind_4 rfl (lv_at hl 1 rfl) ?_
  obtain ⟨q1, eq1, h⟩ := zlet_ex h
  refine z_callS (As := [.ref (za G (zr t0 3)), .int v1]) (rest := []) (rv := (some (.int q1))) (M1 := M) S hw (c_X11_look l hG (zr t0 3) v1 (kr_7_3 hG k0) M q1 eq1.symm) mv_X11_look lk_X7_41 rfl rfl (Nat.le_of_ble_eq_true rfl) ⟨Nat.le_of_ble_eq_true rfl, Nat.le_of_ble_eq_true rfl⟩ hl.1 dX7_behind_5 (fun H locs hw => ?_)
  subst h
  exact z_ret_i S hr hlk hw dX7_behind_8
def f_X7_kind (t0 : Nat) (v1 : Int32) (M : ZM) : Int32 :=
  zlet (f_X11_look (zr t0 0) v1 M) fun (q1 : Int32) =>
  q1
set_option maxHeartbeats 4000000 in
set_option maxRecDepth 100000 in
theorem c_X7_kind (l : Launch) {G : ZG} (hG : zOk G) (t0 : Nat) (v1 : Int32) (k0 : zk G t0 = 17) (M : ZM) (res : Int32) (h : f_X7_kind t0 v1 M = res) : zCt l yX7_kind cX7_kind 2 (Option.some FieldType.int) 1 G [.ref (za G t0), .int v1] M (some (.int res)) M := by
  refine zCt.mk (by decide +kernel) (Nat.le_of_ble_eq_true rfl) ?_
  intro p e s m args below meth c A H locs ls S hr hlk hw hl
  have S : zX p (zR 1) s m args c 0 0 cX7_kind 2 RX7 := S
  have hx := S.1.1
  have hb := S.1.2.1
  have hown := S.1.2.2.2.1
  have hts := S.1.2.2.2.2
  have hl : lv_has ls 2 [(0, .ref (za G t0)), (1, .int v1)] := hl
  unfold f_X7_kind at h
  refine lv_aload_n hx hb dX7_kind_0 rfl (lv_at hl 0 rfl) ?_
  refine z_getR S hw k0 fl_X7_9 rfl dX7_kind_1 ?_
  refine lv_iload_n hx hb dX7_kind_4 rfl (lv_at hl 1 rfl) ?_
  obtain ⟨q1, eq1, h⟩ := zlet_ex h
  refine z_callS (As := [.ref (za G (zr t0 0)), .int v1]) (rest := []) (rv := (some (.int q1))) (M1 := M) S hw (c_X11_look l hG (zr t0 0) v1 (kr_7_0 hG k0) M q1 eq1.symm) mv_X11_look lk_X7_41 rfl rfl (Nat.le_of_ble_eq_true rfl) ⟨Nat.le_of_ble_eq_true rfl, Nat.le_of_ble_eq_true rfl⟩ hl.1 dX7_kind_5 (fun H locs hw => ?_)
  subst h
  exact z_ret_i S hr hlk hw dX7_kind_8
def f_X7_from (t0 : Nat) (v1 : Int32) (M : ZM) : Int32 :=
  zlet (f_X11_look (zr t0 1) v1 M) fun (q1 : Int32) =>
  q1
set_option maxHeartbeats 4000000 in
set_option maxRecDepth 100000 in
theorem c_X7_from (l : Launch) {G : ZG} (hG : zOk G) (t0 : Nat) (v1 : Int32) (k0 : zk G t0 = 17) (M : ZM) (res : Int32) (h : f_X7_from t0 v1 M = res) : zCt l yX7_from cX7_from 2 (Option.some FieldType.int) 1 G [.ref (za G t0), .int v1] M (some (.int res)) M := by
  refine zCt.mk (by decide +kernel) (Nat.le_of_ble_eq_true rfl) ?_
  intro p e s m args below meth c A H locs ls S hr hlk hw hl
  have S : zX p (zR 1) s m args c 0 0 cX7_from 2 RX7 := S
  have hx := S.1.1
  have hb := S.1.2.1
  have hown := S.1.2.2.2.1
  have hts := S.1.2.2.2.2
  have hl : lv_has ls 2 [(0, .ref (za G t0)), (1, .int v1)] := hl
  unfold f_X7_from at h
  refine lv_aload_n hx hb dX7_from_0 rfl (lv_at hl 0 rfl) ?_
  refine z_getR S hw k0 fl_X7_15 rfl dX7_from_1 ?_
  refine lv_iload_n hx hb dX7_from_4 rfl (lv_at hl 1 rfl) ?_
  obtain ⟨q1, eq1, h⟩ := zlet_ex h
  refine z_callS (As := [.ref (za G (zr t0 1)), .int v1]) (rest := []) (rv := (some (.int q1))) (M1 := M) S hw (c_X11_look l hG (zr t0 1) v1 (kr_7_1 hG k0) M q1 eq1.symm) mv_X11_look lk_X7_41 rfl rfl (Nat.le_of_ble_eq_true rfl) ⟨Nat.le_of_ble_eq_true rfl, Nat.le_of_ble_eq_true rfl⟩ hl.1 dX7_from_5 (fun H locs hw => ?_)
  subst h
  exact z_ret_i S hr hlk hw dX7_from_8
def f_X5_meaningOf (t0 : Nat) (t1 : Nat) (t2 : Nat) (v3 : Int32) (M : ZM) : Int64 :=
  zlet (f_X7_inner t1 v3 M) fun (q1 : Int32) =>
  zlet (f_X11_look_ (zr t0 0) q1 M) fun (q2 : Int64) =>
  zlet (f_X7_behind t1 v3 M) fun (q3 : Int32) =>
  zlet (f_X11_look_ (zr t0 0) q3 M) fun (q4 : Int64) =>
  zlet (f_X7_kind t1 v3 M) fun (q5 : Int32) =>
  if q5 = 0 then (
    zlet (f_X7_from t1 v3 M) fun (q7 : Int32) =>
    zlet (f_X10_at t2 q7 M) fun (q8 : Int32) =>
    zlet (f_X11_casesOf q8 M) fun (q9 : Int64) =>
    q9) else (
  if q5 = 1 then (
    (4294967295 &&& (q2 ^^^ (-1)))) else (
  if q5 = 2 then (
    q2) else (
  if q5 = 3 then (
    (q2 &&& q4)) else (
  if q5 = 4 then (
    (q2 ||| q4)) else (
  if q5 = 5 then (
    (4294967295 &&& ((q2 ^^^ (-1)) ||| q4))) else (
  if q5 = 6 then (
    (q2 &&& (q4 ^^^ (-1)))) else (
    q2)))))))
set_option maxHeartbeats 4000000 in
set_option maxRecDepth 100000 in
theorem c_X5_meaningOf (l : Launch) {G : ZG} (hG : zOk G) (t0 : Nat) (t1 : Nat) (t2 : Nat) (v3 : Int32) (k0 : zk G t0 = 15) (k1 : zk G t1 = 17) (k2 : zk G t2 = 20) (M : ZM) (res : Int64) (h : f_X5_meaningOf t0 t1 t2 v3 M = res) : zCt l yX5_meaningOf cX5_meaningOf 8 (Option.some FieldType.long) 2 G [.ref (za G t0), .ref (za G t1), .ref (za G t2), .int v3] M (some (.long res)) M := by
  refine zCt.mk (by decide +kernel) (Nat.le_of_ble_eq_true rfl) ?_
  intro p e s m args below meth c A H locs ls S hr hlk hw hl
  have S : zX p (zR 2) s m args c 0 0 cX5_meaningOf 8 RX5 := S
  have hx := S.1.1
  have hb := S.1.2.1
  have hown := S.1.2.2.2.1
  have hts := S.1.2.2.2.2
  have hl : lv_has ls 8 [(0, .ref (za G t0)), (1, .ref (za G t1)), (2, .ref (za G t2)), (3, .int v3)] := hl
  unfold f_X5_meaningOf at h
  refine lv_aload_n hx hb dX5_meaningOf_0 rfl (lv_at hl 0 rfl) ?_
  refine z_getR S hw k0 fl_X5_9 rfl dX5_meaningOf_1 ?_
  refine lv_aload_n hx hb dX5_meaningOf_4 rfl (lv_at hl 1 rfl) ?_
  refine lv_iload_n hx hb dX5_meaningOf_5 rfl (lv_at hl 3 rfl) ?_
  obtain ⟨q1, eq1, h⟩ := zlet_ex h
  refine z_callV (ci := 7) (As := [.int v3]) (rest := [.ref (za G (zr t0 0))]) (rv := (some (.int q1))) (M1 := M) S hw (c_X7_inner l hG t1 v3 k1 M q1 eq1.symm) mv_X7_inner lk_X5_65 k1 ⟨_, _, rfl⟩ (by decide) rfl rfl (Nat.le_of_ble_eq_true rfl) ⟨Nat.le_of_ble_eq_true rfl, Nat.le_of_ble_eq_true rfl⟩ hl.1 dX5_meaningOf_6 (fun H locs hw => ?_)
  obtain ⟨q2, eq2, h⟩ := zlet_ex h
  refine z_callS (As := [.ref (za G (zr t0 0)), .int q1]) (rest := []) (rv := (some (.long q2))) (M1 := M) S hw (c_X11_look_ l hG (zr t0 0) q1 (kr_5_0 hG k0) M q2 eq2.symm) mv_X11_look_ lk_X5_22 rfl rfl (Nat.le_of_ble_eq_true rfl) ⟨Nat.le_of_ble_eq_true rfl, Nat.le_of_ble_eq_true rfl⟩ hl.1 dX5_meaningOf_9 (fun H locs hw => ?_)
  refine lv_lstore (lv' := [(4, .long q2), (0, .ref (za G t0)), (1, .ref (za G t1)), (2, .ref (za G t2)), (3, .int v3)]) hx hb dX5_meaningOf_12 hl (by decide) rfl (fun ls hl => ?_)
  refine lv_aload_n hx hb dX5_meaningOf_14 rfl (lv_at hl 1 rfl) ?_
  refine z_getR S hw k0 fl_X5_9 rfl dX5_meaningOf_15 ?_
  refine lv_aload_n hx hb dX5_meaningOf_18 rfl (lv_at hl 2 rfl) ?_
  refine lv_iload_n hx hb dX5_meaningOf_19 rfl (lv_at hl 4 rfl) ?_
  obtain ⟨q3, eq3, h⟩ := zlet_ex h
  refine z_callV (ci := 7) (As := [.int v3]) (rest := [.ref (za G (zr t0 0))]) (rv := (some (.int q3))) (M1 := M) S hw (c_X7_behind l hG t1 v3 k1 M q3 eq3.symm) mv_X7_behind lk_X5_69 k1 ⟨_, _, rfl⟩ (by decide) rfl rfl (Nat.le_of_ble_eq_true rfl) ⟨Nat.le_of_ble_eq_true rfl, Nat.le_of_ble_eq_true rfl⟩ hl.1 dX5_meaningOf_20 (fun H locs hw => ?_)
  obtain ⟨q4, eq4, h⟩ := zlet_ex h
  refine z_callS (As := [.ref (za G (zr t0 0)), .int q3]) (rest := []) (rv := (some (.long q4))) (M1 := M) S hw (c_X11_look_ l hG (zr t0 0) q3 (kr_5_0 hG k0) M q4 eq4.symm) mv_X11_look_ lk_X5_22 rfl rfl (Nat.le_of_ble_eq_true rfl) ⟨Nat.le_of_ble_eq_true rfl, Nat.le_of_ble_eq_true rfl⟩ hl.1 dX5_meaningOf_23 (fun H locs hw => ?_)
  refine lv_lstore (lv' := [(6, .long q4), (4, .long q2), (0, .ref (za G t0)), (1, .ref (za G t1)), (2, .ref (za G t2)), (3, .int v3)]) hx hb dX5_meaningOf_26 hl (by decide) rfl (fun ls hl => ?_)
  refine lv_aload_n hx hb dX5_meaningOf_28 rfl (lv_at hl 3 rfl) ?_
  refine lv_iload_n hx hb dX5_meaningOf_29 rfl (lv_at hl 5 rfl) ?_
  obtain ⟨q5, eq5, h⟩ := zlet_ex h
  refine z_callV (ci := 7) (As := [.int v3]) (rest := []) (rv := (some (.int q5))) (M1 := M) S hw (c_X7_kind l hG t1 v3 k1 M q5 eq5.symm) mv_X7_kind lk_X5_72 k1 ⟨_, _, rfl⟩ (by decide) rfl rfl (Nat.le_of_ble_eq_true rfl) ⟨Nat.le_of_ble_eq_true rfl, Nat.le_of_ble_eq_true rfl⟩ hl.1 dX5_meaningOf_30 (fun H locs hw => ?_)
  rcases Decidable.em (q5 = 0) with c6 | c6
  · have h := zif_t h c6
    refine z_tab S (off := 43) c6 (by decide) (by decide) dX5_meaningOf_33 (by decide +kernel) (tgt := 76) (by decide) ?_
    refine lv_aload_n hx hb dX5_meaningOf_76 rfl (lv_at hl 4 rfl) ?_
    refine lv_aload_n hx hb dX5_meaningOf_77 rfl (lv_at hl 3 rfl) ?_
    refine lv_iload_n hx hb dX5_meaningOf_78 rfl (lv_at hl 5 rfl) ?_
    obtain ⟨q7, eq7, h⟩ := zlet_ex h
    refine z_callV (ci := 7) (As := [.int v3]) (rest := [.ref (za G t2)]) (rv := (some (.int q7))) (M1 := M) S hw (c_X7_from l hG t1 v3 k1 M q7 eq7.symm) mv_X7_from lk_X5_75 k1 ⟨_, _, rfl⟩ (by decide) rfl rfl (Nat.le_of_ble_eq_true rfl) ⟨Nat.le_of_ble_eq_true rfl, Nat.le_of_ble_eq_true rfl⟩ hl.1 dX5_meaningOf_79 (fun H locs hw => ?_)
    obtain ⟨q8, eq8, h⟩ := zlet_ex h
    refine z_callV (ci := 10) (As := [.int q7]) (rest := []) (rv := (some (.int q8))) (M1 := M) S hw (c_X10_at l hG t2 q7 k2 M q8 eq8.symm) mv_X10_at lk_X5_78 k2 ⟨_, _, rfl⟩ (by decide) rfl rfl (Nat.le_of_ble_eq_true rfl) ⟨Nat.le_of_ble_eq_true rfl, Nat.le_of_ble_eq_true rfl⟩ hl.1 dX5_meaningOf_82 (fun H locs hw => ?_)
    obtain ⟨q9, eq9, h⟩ := zlet_ex h
    refine z_callS (As := [.int q8]) (rest := []) (rv := (some (.long q9))) (M1 := M) S hw (c_X11_casesOf l hG q8 M q9 eq9.symm) mv_X11_casesOf lk_X5_83 rfl rfl (Nat.le_of_ble_eq_true rfl) ⟨Nat.le_of_ble_eq_true rfl, Nat.le_of_ble_eq_true rfl⟩ hl.1 dX5_meaningOf_85 (fun H locs hw => ?_)
    subst h
    exact z_ret_l S hr hlk hw dX5_meaningOf_88
  have h := zif_f h c6
  rcases Decidable.em (q5 = 1) with c10 | c10
  · have h := zif_t h c10
    refine z_tab S (off := 56) c10 (by decide) (by decide) dX5_meaningOf_33 (by decide +kernel) (tgt := 89) (by decide) ?_
    refine lv_ldc2 (v := 4294967295) hx hb hown (hts _ kc_X5_87) dX5_meaningOf_89 ?_
    refine lv_lload hx hb dX5_meaningOf_92 (lv_at hl 1 rfl) ?_
    refine lv_ldc2 (v := (-1)) hx hb hown (hts _ kc_X5_89) dX5_meaningOf_94 ?_
    refine lv_lxor hx hb dX5_meaningOf_97 ?_
    refine lv_land hx hb dX5_meaningOf_98 ?_
    subst h
    exact z_ret_l S hr hlk hw dX5_meaningOf_99
  have h := zif_f h c10
  rcases Decidable.em (q5 = 2) with c11 | c11
  · have h := zif_t h c11
    refine z_tab S (off := 103) c11 (by decide) (by decide) dX5_meaningOf_33 (by decide +kernel) (tgt := 136) (by decide) ?_
    refine lv_lload hx hb dX5_meaningOf_136 (lv_at hl 1 rfl) ?_
    subst h
    exact z_ret_l S hr hlk hw dX5_meaningOf_138
  have h := zif_f h c11
  rcases Decidable.em (q5 = 3) with c12 | c12
  · have h := zif_t h c12
    refine z_tab S (off := 67) c12 (by decide) (by decide) dX5_meaningOf_33 (by decide +kernel) (tgt := 100) (by decide) ?_
    refine lv_lload hx hb dX5_meaningOf_100 (lv_at hl 1 rfl) ?_
    refine lv_lload hx hb dX5_meaningOf_102 (lv_at hl 0 rfl) ?_
    refine lv_land hx hb dX5_meaningOf_104 ?_
    subst h
    exact z_ret_l S hr hlk hw dX5_meaningOf_105
  have h := zif_f h c12
  rcases Decidable.em (q5 = 4) with c13 | c13
  · have h := zif_t h c13
    refine z_tab S (off := 73) c13 (by decide) (by decide) dX5_meaningOf_33 (by decide +kernel) (tgt := 106) (by decide) ?_
    refine lv_lload hx hb dX5_meaningOf_106 (lv_at hl 1 rfl) ?_
    refine lv_lload hx hb dX5_meaningOf_108 (lv_at hl 0 rfl) ?_
    refine lv_lor hx hb dX5_meaningOf_110 ?_
    subst h
    exact z_ret_l S hr hlk hw dX5_meaningOf_111
  have h := zif_f h c13
  rcases Decidable.em (q5 = 5) with c14 | c14
  · have h := zif_t h c14
    refine z_tab S (off := 79) c14 (by decide) (by decide) dX5_meaningOf_33 (by decide +kernel) (tgt := 112) (by decide) ?_
    refine lv_ldc2 (v := 4294967295) hx hb hown (hts _ kc_X5_87) dX5_meaningOf_112 ?_
    refine lv_lload hx hb dX5_meaningOf_115 (lv_at hl 1 rfl) ?_
    refine lv_ldc2 (v := (-1)) hx hb hown (hts _ kc_X5_89) dX5_meaningOf_117 ?_
    refine lv_lxor hx hb dX5_meaningOf_120 ?_
    refine lv_lload hx hb dX5_meaningOf_121 (lv_at hl 0 rfl) ?_
    refine lv_lor hx hb dX5_meaningOf_123 ?_
    refine lv_land hx hb dX5_meaningOf_124 ?_
    subst h
    exact z_ret_l S hr hlk hw dX5_meaningOf_125
  have h := zif_f h c14
  rcases Decidable.em (q5 = 6) with c15 | c15
  · have h := zif_t h c15
    refine z_tab S (off := 93) c15 (by decide) (by decide) dX5_meaningOf_33 (by decide +kernel) (tgt := 126) (by decide) ?_
    refine lv_lload hx hb dX5_meaningOf_126 (lv_at hl 1 rfl) ?_
    refine lv_lload hx hb dX5_meaningOf_128 (lv_at hl 0 rfl) ?_
    refine lv_ldc2 (v := (-1)) hx hb hown (hts _ kc_X5_89) dX5_meaningOf_130 ?_
    refine lv_lxor hx hb dX5_meaningOf_133 ?_
    refine lv_land hx hb dX5_meaningOf_134 ?_
    subst h
    exact z_ret_l S hr hlk hw dX5_meaningOf_135
  have h := zif_f h c15
  have nc6 := zne c6 (z := 0) (by decide)
  have nc10 := zne c10 (z := 1) (by decide)
  have nc11 := zne c11 (z := 2) (by decide)
  have nc12 := zne c12 (z := 3) (by decide)
  have nc13 := zne c13 (z := 4) (by decide)
  have nc14 := zne c14 (z := 5) (by decide)
  have nc15 := zne c15 (z := 6) (by decide)
  refine z_tabD S (by omega) dX5_meaningOf_33 (tgt := 136) (by decide) ?_
  refine lv_lload hx hb dX5_meaningOf_136 (lv_at hl 1 rfl) ?_
  subst h
  exact z_ret_l S hr hlk hw dX5_meaningOf_138
def f_X5_bareOf (t0 : Nat) (t1 : Nat) (v2 : Int32) (M : ZM) : Int32 :=
  zlet (f_X7_kind t1 v2 M) fun (q1 : Int32) =>
  if q1 = 0 then (
    (0 : Int32)) else (
    if q1 = 2 then (
      (0 : Int32)) else (
      zlet (f_X7_inner t1 v2 M) fun (q4 : Int32) =>
      zlet (f_X11_look (zr t0 2) q4 M) fun (q5 : Int32) =>
      if q1 = 1 then (
        q5) else (
        zlet (f_X7_behind t1 v2 M) fun (q7 : Int32) =>
        zlet (f_X11_look (zr t0 2) q7 M) fun (q8 : Int32) =>
        ((q5 ||| q8) ||| (1 <<< (q1 &&& 31))))))
set_option maxHeartbeats 4000000 in
set_option maxRecDepth 100000 in
theorem c_X5_bareOf (l : Launch) {G : ZG} (hG : zOk G) (t0 : Nat) (t1 : Nat) (v2 : Int32) (k0 : zk G t0 = 15) (k1 : zk G t1 = 17) (M : ZM) (res : Int32) (h : f_X5_bareOf t0 t1 v2 M = res) : zCt l yX5_bareOf cX5_bareOf 5 (Option.some FieldType.int) 2 G [.ref (za G t0), .ref (za G t1), .int v2] M (some (.int res)) M := by
  refine zCt.mk (by decide +kernel) (Nat.le_of_ble_eq_true rfl) ?_
  intro p e s m args below meth c A H locs ls S hr hlk hw hl
  have S : zX p (zR 2) s m args c 0 0 cX5_bareOf 5 RX5 := S
  have hx := S.1.1
  have hb := S.1.2.1
  have hown := S.1.2.2.2.1
  have hts := S.1.2.2.2.2
  have hl : lv_has ls 5 [(0, .ref (za G t0)), (1, .ref (za G t1)), (2, .int v2)] := hl
  unfold f_X5_bareOf at h
  refine lv_aload_n hx hb dX5_bareOf_0 rfl (lv_at hl 1 rfl) ?_
  refine lv_iload_n hx hb dX5_bareOf_1 rfl (lv_at hl 2 rfl) ?_
  obtain ⟨q1, eq1, h⟩ := zlet_ex h
  refine z_callV (ci := 7) (As := [.int v2]) (rest := []) (rv := (some (.int q1))) (M1 := M) S hw (c_X7_kind l hG t1 v2 k1 M q1 eq1.symm) mv_X7_kind lk_X5_72 k1 ⟨_, _, rfl⟩ (by decide) rfl rfl (Nat.le_of_ble_eq_true rfl) ⟨Nat.le_of_ble_eq_true rfl, Nat.le_of_ble_eq_true rfl⟩ hl.1 dX5_bareOf_2 (fun H locs hw => ?_)
  refine lv_istore_n (lv' := [(3, .int q1), (0, .ref (za G t0)), (1, .ref (za G t1)), (2, .int v2)]) hx hb dX5_bareOf_5 rfl hl (by decide) rfl (fun ls hl => ?_)
  refine lv_iload_n hx hb dX5_bareOf_6 rfl (lv_at hl 0 rfl) ?_
  refine lv_if_eq (tgt := 15) hx hb dX5_bareOf_7 (by decide) (fun c2 => ?_) (fun c2 => ?_)
  · have h := zif_t h c2
    refine lv_iconst (v := 0) hx hb dX5_bareOf_15 (by decide) ?_
    subst h
    exact z_ret_i S hr hlk hw dX5_bareOf_16
  · have h := zif_f h c2
    refine lv_iload_n hx hb dX5_bareOf_10 rfl (lv_at hl 0 rfl) ?_
    refine lv_iconst (v := 2) hx hb dX5_bareOf_11 (by decide) ?_
    refine lv_icmp_ne (tgt := 17) hx hb dX5_bareOf_12 (by decide) (fun c3 => ?_) (fun c3 => ?_)
    · have h := zif_f h c3
      refine lv_aload_n hx hb dX5_bareOf_17 rfl (lv_at hl 1 rfl) ?_
      refine z_getR S hw k0 fl_X5_18 rfl dX5_bareOf_18 ?_
      refine lv_aload_n hx hb dX5_bareOf_21 rfl (lv_at hl 2 rfl) ?_
      refine lv_iload_n hx hb dX5_bareOf_22 rfl (lv_at hl 3 rfl) ?_
      obtain ⟨q4, eq4, h⟩ := zlet_ex h
      refine z_callV (ci := 7) (As := [.int v2]) (rest := [.ref (za G (zr t0 2))]) (rv := (some (.int q4))) (M1 := M) S hw (c_X7_inner l hG t1 v2 k1 M q4 eq4.symm) mv_X7_inner lk_X5_65 k1 ⟨_, _, rfl⟩ (by decide) rfl rfl (Nat.le_of_ble_eq_true rfl) ⟨Nat.le_of_ble_eq_true rfl, Nat.le_of_ble_eq_true rfl⟩ hl.1 dX5_bareOf_23 (fun H locs hw => ?_)
      obtain ⟨q5, eq5, h⟩ := zlet_ex h
      refine z_callS (As := [.ref (za G (zr t0 2)), .int q4]) (rest := []) (rv := (some (.int q5))) (M1 := M) S hw (c_X11_look l hG (zr t0 2) q4 (kr_5_2 hG k0) M q5 eq5.symm) mv_X11_look lk_X5_91 rfl rfl (Nat.le_of_ble_eq_true rfl) ⟨Nat.le_of_ble_eq_true rfl, Nat.le_of_ble_eq_true rfl⟩ hl.1 dX5_bareOf_26 (fun H locs hw => ?_)
      refine lv_istore (lv' := [(4, .int q5), (3, .int q1), (0, .ref (za G t0)), (1, .ref (za G t1)), (2, .int v2)]) hx hb dX5_bareOf_29 hl (by decide) rfl (fun ls hl => ?_)
      refine lv_iload_n hx hb dX5_bareOf_31 rfl (lv_at hl 1 rfl) ?_
      refine lv_iconst (v := 1) hx hb dX5_bareOf_32 (by decide) ?_
      refine lv_icmp_ne (tgt := 41) hx hb dX5_bareOf_33 (by decide) (fun c6 => ?_) (fun c6 => ?_)
      · have h := zif_f h c6
        refine lv_iload hx hb dX5_bareOf_41 (lv_at hl 0 rfl) ?_
        refine lv_aload_n hx hb dX5_bareOf_43 rfl (lv_at hl 2 rfl) ?_
        refine z_getR S hw k0 fl_X5_18 rfl dX5_bareOf_44 ?_
        refine lv_aload_n hx hb dX5_bareOf_47 rfl (lv_at hl 3 rfl) ?_
        refine lv_iload_n hx hb dX5_bareOf_48 rfl (lv_at hl 4 rfl) ?_
        obtain ⟨q7, eq7, h⟩ := zlet_ex h
        refine z_callV (ci := 7) (As := [.int v2]) (rest := [.ref (za G (zr t0 2)), .int q5]) (rv := (some (.int q7))) (M1 := M) S hw (c_X7_behind l hG t1 v2 k1 M q7 eq7.symm) mv_X7_behind lk_X5_69 k1 ⟨_, _, rfl⟩ (by decide) rfl rfl (Nat.le_of_ble_eq_true rfl) ⟨Nat.le_of_ble_eq_true rfl, Nat.le_of_ble_eq_true rfl⟩ hl.1 dX5_bareOf_49 (fun H locs hw => ?_)
        obtain ⟨q8, eq8, h⟩ := zlet_ex h
        refine z_callS (As := [.ref (za G (zr t0 2)), .int q7]) (rest := [.int q5]) (rv := (some (.int q8))) (M1 := M) S hw (c_X11_look l hG (zr t0 2) q7 (kr_5_2 hG k0) M q8 eq8.symm) mv_X11_look lk_X5_91 rfl rfl (Nat.le_of_ble_eq_true rfl) ⟨Nat.le_of_ble_eq_true rfl, Nat.le_of_ble_eq_true rfl⟩ hl.1 dX5_bareOf_52 (fun H locs hw => ?_)
        refine lv_ior hx hb dX5_bareOf_55 ?_
        refine lv_iconst (v := 1) hx hb dX5_bareOf_56 (by decide) ?_
        refine lv_iload_n hx hb dX5_bareOf_57 rfl (lv_at hl 1 rfl) ?_
        refine lv_ishl hx hb dX5_bareOf_58 ?_
        refine lv_ior hx hb dX5_bareOf_59 ?_
        subst h
        exact z_ret_i S hr hlk hw dX5_bareOf_60
      · have h := zif_t h c6
        refine lv_iload hx hb dX5_bareOf_36 (lv_at hl 0 rfl) ?_
        refine lv_goto (tgt := 60) hx hb dX5_bareOf_38 (by decide) ?_
        subst h
        exact z_ret_i S hr hlk hw dX5_bareOf_60
    · have h := zif_t h c3
      refine lv_iconst (v := 0) hx hb dX5_bareOf_15 (by decide) ?_
      subst h
      exact z_ret_i S hr hlk hw dX5_bareOf_16
def f_X7_end (t0 : Nat) (v1 : Int32) (M : ZM) : Int32 :=
  zlet (f_X11_look (zr t0 2) v1 M) fun (q1 : Int32) =>
  q1
set_option maxHeartbeats 4000000 in
set_option maxRecDepth 100000 in
theorem c_X7_end (l : Launch) {G : ZG} (hG : zOk G) (t0 : Nat) (v1 : Int32) (k0 : zk G t0 = 17) (M : ZM) (res : Int32) (h : f_X7_end t0 v1 M = res) : zCt l yX7_end cX7_end 2 (Option.some FieldType.int) 1 G [.ref (za G t0), .int v1] M (some (.int res)) M := by
  refine zCt.mk (by decide +kernel) (Nat.le_of_ble_eq_true rfl) ?_
  intro p e s m args below meth c A H locs ls S hr hlk hw hl
  have S : zX p (zR 1) s m args c 0 0 cX7_end 2 RX7 := S
  have hx := S.1.1
  have hb := S.1.2.1
  have hown := S.1.2.2.2.1
  have hts := S.1.2.2.2.2
  have hl : lv_has ls 2 [(0, .ref (za G t0)), (1, .int v1)] := hl
  unfold f_X7_end at h
  refine lv_aload_n hx hb dX7_end_0 rfl (lv_at hl 0 rfl) ?_
  refine z_getR S hw k0 fl_X7_18 rfl dX7_end_1 ?_
  refine lv_iload_n hx hb dX7_end_4 rfl (lv_at hl 1 rfl) ?_
  obtain ⟨q1, eq1, h⟩ := zlet_ex h
  refine z_callS (As := [.ref (za G (zr t0 2)), .int v1]) (rest := []) (rv := (some (.int q1))) (M1 := M) S hw (c_X11_look l hG (zr t0 2) v1 (kr_7_2 hG k0) M q1 eq1.symm) mv_X11_look lk_X7_41 rfl rfl (Nat.le_of_ble_eq_true rfl) ⟨Nat.le_of_ble_eq_true rfl, Nat.le_of_ble_eq_true rfl⟩ hl.1 dX7_end_5 (fun H locs hw => ?_)
  subst h
  exact z_ret_i S hr hlk hw dX7_end_8
def f_X5_brokenAt (t0 : Nat) (t1 : Nat) (t2 : Nat) (v3 : Int32) (M : ZM) : Option Int32 :=
  zlet (fun (v4 : Int32) (v5 : Int32) (v6 : Int32) (v7 : Int32) =>
    if v4 = 3 then (
      if ((v5 ||| v6) &&& 112) = 0 then (
        some v7) else (
        zlet (v7 ||| 8) fun (x3 : Int32) =>
        some x3)) else (
      some v7)) fun J103 =>
  zlet (fun (v4 : Int32) (v5 : Int32) (v6 : Int32) (v7 : Int32) =>
    zlet (f_X11_isJoin v4 M) fun (q4 : Int32) =>
    if q4 = 0 then (
      J103 v4 v5 v6 v7) else (
      if v6 = 0 then (
        J103 v4 v5 v6 v7) else (
        zlet (v7 ||| 4) fun (x7 : Int32) =>
        J103 v4 v5 v6 x7))) fun J84 =>
  zlet (fun (v4 : Int32) (v5 : Int32) (v6 : Int32) (v7 : Int32) =>
    if v4 = 1 then (
      zlet (f_X7_end t1 v3 M) fun (q9 : Int32) =>
      zlet (f_X7_from t1 v3 M) fun (q10 : Int32) =>
      (f_X10_closeAfter t2 q10 M).bind fun (q11 : Int32) =>
      if q9 = q11 then (
        J84 v4 v5 v6 v7) else (
        zlet (v7 ||| 2) fun (x13 : Int32) =>
        J84 v4 v5 v6 x13)) else (
      J84 v4 v5 v6 v7)) fun J55 =>
  zlet (f_X7_kind t1 v3 M) fun (q14 : Int32) =>
  zlet (f_X7_inner t1 v3 M) fun (q15 : Int32) =>
  zlet (f_X11_look (zr t0 2) q15 M) fun (q16 : Int32) =>
  zlet (f_X7_behind t1 v3 M) fun (q17 : Int32) =>
  zlet (f_X11_look (zr t0 2) q17 M) fun (q18 : Int32) =>
  if q14 = 1 then (
    if q16 = 0 then (
      J55 q14 q16 q18 0) else (
      zlet (0 ||| 1) fun (x21 : Int32) =>
      J55 q14 q16 q18 x21)) else (
    J55 q14 q16 q18 0)
set_option maxHeartbeats 4000000 in
set_option maxRecDepth 100000 in
theorem c_X5_brokenAt (l : Launch) {G : ZG} (hG : zOk G) (t0 : Nat) (t1 : Nat) (t2 : Nat) (v3 : Int32) (k0 : zk G t0 = 15) (k1 : zk G t1 = 17) (k2 : zk G t2 = 20) (M : ZM) (res : Int32) (h : f_X5_brokenAt t0 t1 t2 v3 M = some res) : zCt l yX5_brokenAt cX5_brokenAt 8 (Option.some FieldType.int) 2 G [.ref (za G t0), .ref (za G t1), .ref (za G t2), .int v3] M (some (.int res)) M := by
  refine zCt.mk (by decide +kernel) (Nat.le_of_ble_eq_true rfl) ?_
  intro p e s m args below meth c A H locs ls S hr hlk hw hl
  have S : zX p (zR 2) s m args c 0 0 cX5_brokenAt 8 RX5 := S
  have hx := S.1.1
  have hb := S.1.2.1
  have hown := S.1.2.2.2.1
  have hts := S.1.2.2.2.2
  have hl : lv_has ls 8 [(0, .ref (za G t0)), (1, .ref (za G t1)), (2, .ref (za G t2)), (3, .int v3)] := hl
  unfold f_X5_brokenAt at h
  obtain ⟨J103, hJ103, h⟩ := zlet_ex h
  have wJ103 : ∀ (v4 : Int32) (v5 : Int32) (v6 : Int32) (v7 : Int32), J103 v4 v5 v6 v7 = some res → ∀ (H : Heap) (locs : List Loc) (ls : Array Slot), zWd G A s H locs M → lv_has ls 8 [(4, .int v4), (5, .int v5), (6, .int v6), (7, .int v7)] → W p l e (zR 2) s m args below meth c H locs 0 0 (zQ below G A (some (.int res)) M args s) (F0 m 103 ls []) := by
    intro v4 v5 v6 v7 h H locs ls hw hl
    subst hJ103
    refine lv_iload hx hb dX5_brokenAt_103 (lv_at hl 0 rfl) ?_
    refine lv_iconst (v := 3) hx hb dX5_brokenAt_105 (by decide) ?_
    refine lv_icmp_ne (tgt := 127) hx hb dX5_brokenAt_106 (by decide) (fun c1 => ?_) (fun c1 => ?_)
    · have h := zif_f h c1
      refine lv_iload hx hb dX5_brokenAt_127 (lv_at hl 3 rfl) ?_
      have h := Option.some.inj h
      subst h
      exact z_ret_i S hr hlk hw dX5_brokenAt_129
    · have h := zif_t h c1
      refine lv_iload hx hb dX5_brokenAt_109 (lv_at hl 1 rfl) ?_
      refine lv_iload hx hb dX5_brokenAt_111 (lv_at hl 2 rfl) ?_
      refine lv_ior hx hb dX5_brokenAt_113 ?_
      refine lv_bipush (v := 112) hx hb dX5_brokenAt_114 (by decide) ?_
      refine lv_iand hx hb dX5_brokenAt_116 ?_
      refine lv_if_eq (tgt := 127) hx hb dX5_brokenAt_117 (by decide) (fun c2 => ?_) (fun c2 => ?_)
      · have h := zif_t h c2
        refine lv_iload hx hb dX5_brokenAt_127 (lv_at hl 3 rfl) ?_
        have h := Option.some.inj h
        subst h
        exact z_ret_i S hr hlk hw dX5_brokenAt_129
      · have h := zif_f h c2
        refine lv_iload hx hb dX5_brokenAt_120 (lv_at hl 3 rfl) ?_
        refine lv_bipush (v := 8) hx hb dX5_brokenAt_122 (by decide) ?_
        refine lv_ior hx hb dX5_brokenAt_124 ?_
        obtain ⟨x3, ex3, h⟩ := zlet_ex h
        refine lv_topiE ex3 ?_
        refine lv_istore (lv' := [(7, .int x3), (4, .int v4), (5, .int v5), (6, .int v6)]) hx hb dX5_brokenAt_125 hl (by decide) rfl (fun ls hl => ?_)
        refine lv_iload hx hb dX5_brokenAt_127 (lv_at hl 0 rfl) ?_
        have h := Option.some.inj h
        subst h
        exact z_ret_i S hr hlk hw dX5_brokenAt_129
  obtain ⟨J84, hJ84, h⟩ := zlet_ex h
  have wJ84 : ∀ (v4 : Int32) (v5 : Int32) (v6 : Int32) (v7 : Int32), J84 v4 v5 v6 v7 = some res → ∀ (H : Heap) (locs : List Loc) (ls : Array Slot), zWd G A s H locs M → lv_has ls 8 [(4, .int v4), (5, .int v5), (6, .int v6), (7, .int v7)] → W p l e (zR 2) s m args below meth c H locs 0 0 (zQ below G A (some (.int res)) M args s) (F0 m 84 ls []) := by
    intro v4 v5 v6 v7 h H locs ls hw hl
    subst hJ84
    refine lv_iload hx hb dX5_brokenAt_84 (lv_at hl 0 rfl) ?_
    obtain ⟨q4, eq4, h⟩ := zlet_ex h
    refine z_callS (As := [.int v4]) (rest := []) (rv := (some (.int q4))) (M1 := M) S hw (c_X11_isJoin l hG v4 M q4 eq4.symm) mv_X11_isJoin lk_X5_94 rfl rfl (Nat.le_of_ble_eq_true rfl) ⟨Nat.le_of_ble_eq_true rfl, Nat.le_of_ble_eq_true rfl⟩ hl.1 dX5_brokenAt_86 (fun H locs hw => ?_)
    refine lv_if_eq (tgt := 103) hx hb dX5_brokenAt_89 (by decide) (fun c5 => ?_) (fun c5 => ?_)
    · have h := zif_t h c5
      exact wJ103 v4 v5 v6 v7 h H locs ls hw (lv_sub hl [0, 1, 2, 3] rfl)
    · have h := zif_f h c5
      refine lv_iload hx hb dX5_brokenAt_92 (lv_at hl 2 rfl) ?_
      refine lv_if_eq (tgt := 103) hx hb dX5_brokenAt_94 (by decide) (fun c6 => ?_) (fun c6 => ?_)
      · have h := zif_t h c6
        exact wJ103 v4 v5 v6 v7 h H locs ls hw (lv_sub hl [0, 1, 2, 3] rfl)
      · have h := zif_f h c6
        refine lv_iload hx hb dX5_brokenAt_97 (lv_at hl 3 rfl) ?_
        refine lv_iconst (v := 4) hx hb dX5_brokenAt_99 (by decide) ?_
        refine lv_ior hx hb dX5_brokenAt_100 ?_
        obtain ⟨x7, ex7, h⟩ := zlet_ex h
        refine lv_topiE ex7 ?_
        refine lv_istore (lv' := [(7, .int x7), (4, .int v4), (5, .int v5), (6, .int v6)]) hx hb dX5_brokenAt_101 hl (by decide) rfl (fun ls hl => ?_)
        exact wJ103 v4 v5 v6 x7 h H locs ls hw (lv_sub hl [1, 2, 3, 0] rfl)
  obtain ⟨J55, hJ55, h⟩ := zlet_ex h
  have wJ55 : ∀ (v4 : Int32) (v5 : Int32) (v6 : Int32) (v7 : Int32), J55 v4 v5 v6 v7 = some res → ∀ (H : Heap) (locs : List Loc) (ls : Array Slot), zWd G A s H locs M → lv_has ls 8 [(1, .ref (za G t1)), (2, .ref (za G t2)), (3, .int v3), (4, .int v4), (5, .int v5), (6, .int v6), (7, .int v7)] → W p l e (zR 2) s m args below meth c H locs 0 0 (zQ below G A (some (.int res)) M args s) (F0 m 55 ls []) := by
    intro v4 v5 v6 v7 h H locs ls hw hl
    subst hJ55
    refine lv_iload hx hb dX5_brokenAt_55 (lv_at hl 3 rfl) ?_
    refine lv_iconst (v := 1) hx hb dX5_brokenAt_57 (by decide) ?_
    refine lv_icmp_ne (tgt := 84) hx hb dX5_brokenAt_58 (by decide) (fun c8 => ?_) (fun c8 => ?_)
    · have h := zif_f h c8
      exact wJ84 v4 v5 v6 v7 h H locs ls hw (lv_sub hl [3, 4, 5, 6] rfl)
    · have h := zif_t h c8
      refine lv_aload_n hx hb dX5_brokenAt_61 rfl (lv_at hl 0 rfl) ?_
      refine lv_iload_n hx hb dX5_brokenAt_62 rfl (lv_at hl 2 rfl) ?_
      obtain ⟨q9, eq9, h⟩ := zlet_ex h
      refine z_callV (ci := 7) (As := [.int v3]) (rest := []) (rv := (some (.int q9))) (M1 := M) S hw (c_X7_end l hG t1 v3 k1 M q9 eq9.symm) mv_X7_end lk_X5_102 k1 ⟨_, _, rfl⟩ (by decide) rfl rfl (Nat.le_of_ble_eq_true rfl) ⟨Nat.le_of_ble_eq_true rfl, Nat.le_of_ble_eq_true rfl⟩ hl.1 dX5_brokenAt_63 (fun H locs hw => ?_)
      refine lv_aload_n hx hb dX5_brokenAt_66 rfl (lv_at hl 1 rfl) ?_
      refine lv_aload_n hx hb dX5_brokenAt_67 rfl (lv_at hl 0 rfl) ?_
      refine lv_iload_n hx hb dX5_brokenAt_68 rfl (lv_at hl 2 rfl) ?_
      obtain ⟨q10, eq10, h⟩ := zlet_ex h
      refine z_callV (ci := 7) (As := [.int v3]) (rest := [.ref (za G t2), .int q9]) (rv := (some (.int q10))) (M1 := M) S hw (c_X7_from l hG t1 v3 k1 M q10 eq10.symm) mv_X7_from lk_X5_75 k1 ⟨_, _, rfl⟩ (by decide) rfl rfl (Nat.le_of_ble_eq_true rfl) ⟨Nat.le_of_ble_eq_true rfl, Nat.le_of_ble_eq_true rfl⟩ hl.1 dX5_brokenAt_69 (fun H locs hw => ?_)
      obtain ⟨q11, eq11, h⟩ := Option.bind_eq_some_iff.mp h
      refine z_callV (ci := 10) (As := [.int q10]) (rest := [.int q9]) (rv := (some (.int q11))) (M1 := M) S hw (c_X10_closeAfter l hG t2 q10 k2 M q11 eq11) mv_X10_closeAfter lk_X5_105 k2 ⟨_, _, rfl⟩ (by decide) rfl rfl (Nat.le_of_ble_eq_true rfl) ⟨Nat.le_of_ble_eq_true rfl, Nat.le_of_ble_eq_true rfl⟩ hl.1 dX5_brokenAt_72 (fun H locs hw => ?_)
      refine lv_icmp_eq (tgt := 84) hx hb dX5_brokenAt_75 (by decide) (fun c12 => ?_) (fun c12 => ?_)
      · have h := zif_t h c12
        exact wJ84 v4 v5 v6 v7 h H locs ls hw (lv_sub hl [3, 4, 5, 6] rfl)
      · have h := zif_f h c12
        refine lv_iload hx hb dX5_brokenAt_78 (lv_at hl 6 rfl) ?_
        refine lv_iconst (v := 2) hx hb dX5_brokenAt_80 (by decide) ?_
        refine lv_ior hx hb dX5_brokenAt_81 ?_
        obtain ⟨x13, ex13, h⟩ := zlet_ex h
        refine lv_topiE ex13 ?_
        refine lv_istore (lv' := [(7, .int x13), (1, .ref (za G t1)), (2, .ref (za G t2)), (3, .int v3), (4, .int v4), (5, .int v5), (6, .int v6)]) hx hb dX5_brokenAt_82 hl (by decide) rfl (fun ls hl => ?_)
        exact wJ84 v4 v5 v6 x13 h H locs ls hw (lv_sub hl [4, 5, 6, 0] rfl)
  refine lv_aload_n hx hb dX5_brokenAt_0 rfl (lv_at hl 1 rfl) ?_
  refine lv_iload_n hx hb dX5_brokenAt_1 rfl (lv_at hl 3 rfl) ?_
  obtain ⟨q14, eq14, h⟩ := zlet_ex h
  refine z_callV (ci := 7) (As := [.int v3]) (rest := []) (rv := (some (.int q14))) (M1 := M) S hw (c_X7_kind l hG t1 v3 k1 M q14 eq14.symm) mv_X7_kind lk_X5_72 k1 ⟨_, _, rfl⟩ (by decide) rfl rfl (Nat.le_of_ble_eq_true rfl) ⟨Nat.le_of_ble_eq_true rfl, Nat.le_of_ble_eq_true rfl⟩ hl.1 dX5_brokenAt_2 (fun H locs hw => ?_)
  refine lv_istore (lv' := [(4, .int q14), (0, .ref (za G t0)), (1, .ref (za G t1)), (2, .ref (za G t2)), (3, .int v3)]) hx hb dX5_brokenAt_5 hl (by decide) rfl (fun ls hl => ?_)
  refine lv_aload_n hx hb dX5_brokenAt_7 rfl (lv_at hl 1 rfl) ?_
  refine z_getR S hw k0 fl_X5_18 rfl dX5_brokenAt_8 ?_
  refine lv_aload_n hx hb dX5_brokenAt_11 rfl (lv_at hl 2 rfl) ?_
  refine lv_iload_n hx hb dX5_brokenAt_12 rfl (lv_at hl 4 rfl) ?_
  obtain ⟨q15, eq15, h⟩ := zlet_ex h
  refine z_callV (ci := 7) (As := [.int v3]) (rest := [.ref (za G (zr t0 2))]) (rv := (some (.int q15))) (M1 := M) S hw (c_X7_inner l hG t1 v3 k1 M q15 eq15.symm) mv_X7_inner lk_X5_65 k1 ⟨_, _, rfl⟩ (by decide) rfl rfl (Nat.le_of_ble_eq_true rfl) ⟨Nat.le_of_ble_eq_true rfl, Nat.le_of_ble_eq_true rfl⟩ hl.1 dX5_brokenAt_13 (fun H locs hw => ?_)
  obtain ⟨q16, eq16, h⟩ := zlet_ex h
  refine z_callS (As := [.ref (za G (zr t0 2)), .int q15]) (rest := []) (rv := (some (.int q16))) (M1 := M) S hw (c_X11_look l hG (zr t0 2) q15 (kr_5_2 hG k0) M q16 eq16.symm) mv_X11_look lk_X5_91 rfl rfl (Nat.le_of_ble_eq_true rfl) ⟨Nat.le_of_ble_eq_true rfl, Nat.le_of_ble_eq_true rfl⟩ hl.1 dX5_brokenAt_16 (fun H locs hw => ?_)
  refine lv_istore (lv' := [(5, .int q16), (4, .int q14), (0, .ref (za G t0)), (1, .ref (za G t1)), (2, .ref (za G t2)), (3, .int v3)]) hx hb dX5_brokenAt_19 hl (by decide) rfl (fun ls hl => ?_)
  refine lv_aload_n hx hb dX5_brokenAt_21 rfl (lv_at hl 2 rfl) ?_
  refine z_getR S hw k0 fl_X5_18 rfl dX5_brokenAt_22 ?_
  refine lv_aload_n hx hb dX5_brokenAt_25 rfl (lv_at hl 3 rfl) ?_
  refine lv_iload_n hx hb dX5_brokenAt_26 rfl (lv_at hl 5 rfl) ?_
  obtain ⟨q17, eq17, h⟩ := zlet_ex h
  refine z_callV (ci := 7) (As := [.int v3]) (rest := [.ref (za G (zr t0 2))]) (rv := (some (.int q17))) (M1 := M) S hw (c_X7_behind l hG t1 v3 k1 M q17 eq17.symm) mv_X7_behind lk_X5_69 k1 ⟨_, _, rfl⟩ (by decide) rfl rfl (Nat.le_of_ble_eq_true rfl) ⟨Nat.le_of_ble_eq_true rfl, Nat.le_of_ble_eq_true rfl⟩ hl.1 dX5_brokenAt_27 (fun H locs hw => ?_)
  obtain ⟨q18, eq18, h⟩ := zlet_ex h
  refine z_callS (As := [.ref (za G (zr t0 2)), .int q17]) (rest := []) (rv := (some (.int q18))) (M1 := M) S hw (c_X11_look l hG (zr t0 2) q17 (kr_5_2 hG k0) M q18 eq18.symm) mv_X11_look lk_X5_91 rfl rfl (Nat.le_of_ble_eq_true rfl) ⟨Nat.le_of_ble_eq_true rfl, Nat.le_of_ble_eq_true rfl⟩ hl.1 dX5_brokenAt_30 (fun H locs hw => ?_)
  refine lv_istore (lv' := [(6, .int q18), (5, .int q16), (4, .int q14), (0, .ref (za G t0)), (1, .ref (za G t1)), (2, .ref (za G t2)), (3, .int v3)]) hx hb dX5_brokenAt_33 hl (by decide) rfl (fun ls hl => ?_)
  refine lv_iconst (v := 0) hx hb dX5_brokenAt_35 (by decide) ?_
  refine lv_istore (lv' := [(7, .int 0), (6, .int q18), (5, .int q16), (4, .int q14), (0, .ref (za G t0)), (1, .ref (za G t1)), (2, .ref (za G t2)), (3, .int v3)]) hx hb dX5_brokenAt_36 hl (by decide) rfl (fun ls hl => ?_)
  refine lv_iload hx hb dX5_brokenAt_38 (lv_at hl 3 rfl) ?_
  refine lv_iconst (v := 1) hx hb dX5_brokenAt_40 (by decide) ?_
  refine lv_icmp_ne (tgt := 55) hx hb dX5_brokenAt_41 (by decide) (fun c19 => ?_) (fun c19 => ?_)
  · have h := zif_f h c19
    exact wJ55 q14 q16 q18 0 h H locs ls hw (lv_sub hl [5, 6, 7, 3, 2, 1, 0] rfl)
  · have h := zif_t h c19
    refine lv_iload hx hb dX5_brokenAt_44 (lv_at hl 2 rfl) ?_
    refine lv_if_eq (tgt := 55) hx hb dX5_brokenAt_46 (by decide) (fun c20 => ?_) (fun c20 => ?_)
    · have h := zif_t h c20
      exact wJ55 q14 q16 q18 0 h H locs ls hw (lv_sub hl [5, 6, 7, 3, 2, 1, 0] rfl)
    · have h := zif_f h c20
      refine lv_iload hx hb dX5_brokenAt_49 (lv_at hl 0 rfl) ?_
      refine lv_iconst (v := 1) hx hb dX5_brokenAt_51 (by decide) ?_
      refine lv_ior hx hb dX5_brokenAt_52 ?_
      obtain ⟨x21, ex21, h⟩ := zlet_ex h
      refine lv_topiE ex21 ?_
      refine lv_istore (lv' := [(7, .int x21), (6, .int q18), (5, .int q16), (4, .int q14), (0, .ref (za G t0)), (1, .ref (za G t1)), (2, .ref (za G t2)), (3, .int v3)]) hx hb dX5_brokenAt_53 hl (by decide) rfl (fun ls hl => ?_)
      exact wJ55 q14 q16 q18 x21 h H locs ls hw (lv_sub hl [5, 6, 7, 3, 2, 1, 0] rfl)
def f_X5_findIdle_18 (t0 : Nat) (t1 : Nat) (K : ZM → Option ZM) : Nat → Int32 → ZM → Option ZM
  | 0, _, _ => none
  | n + 1, v2, M =>
    zlet (fun (v2 : Int32) (v3 : Int32) (v4 : Int64) (v6 : Int64) (s1 : Int32) (s2 : Int64) (s3 : Int64) (M : ZM) =>
      zlet (f_X11_put_ (zr t0 1) s1 (s2 &&& s3) M) fun (q3 : ZM) =>
      zlet (f_X7_behind t1 v2 q3) fun (q4 : Int32) =>
      if v3 = 4 then (
        zlet (f_X11_put_ (zr t0 1) q4 (v4 &&& (v6 ^^^ (-1))) q3) fun (q8 : ZM) =>
        zlet (v2 + 1) fun (x9 : Int32) =>
        f_X5_findIdle_18 t0 t1 K n x9 q8) else (
        zlet (f_X11_put_ (zr t0 1) q4 (v4 &&& v6) q3) fun (q6 : ZM) =>
        zlet (v2 + 1) fun (x7 : Int32) =>
        f_X5_findIdle_18 t0 t1 K n x7 q6)) fun J104 =>
    zlet (f_X7_size t1 M) fun (q10 : Int32) =>
    if q10 ≤ v2 then (
      K M) else (
      zlet (f_X7_kind t1 v2 M) fun (q12 : Int32) =>
      zlet (f_X11_look_ (zr t0 1) v2 M) fun (q13 : Int64) =>
      zlet (f_X11_isJoin q12 M) fun (q14 : Int32) =>
      if q14 = 0 then (
        if q12 = 0 then (
          if (lg_cmp q13 0) = 0 then (
            zlet (f_X7_from t1 v2 M) fun (q19 : Int32) =>
            zlet (zi M t0 3 ((M.1 t0 3) ||| (1 <<< (q19 &&& 31)))) fun (M20 : ZM) =>
            zlet (v2 + 1) fun (x21 : Int32) =>
            f_X5_findIdle_18 t0 t1 K n x21 M20) else (
            zlet (v2 + 1) fun (x18 : Int32) =>
            f_X5_findIdle_18 t0 t1 K n x18 M)) else (
          zlet (f_X7_inner t1 v2 M) fun (q22 : Int32) =>
          zlet (f_X11_put_ (zr t0 1) q22 q13 M) fun (q23 : ZM) =>
          zlet (v2 + 1) fun (x24 : Int32) =>
          f_X5_findIdle_18 t0 t1 K n x24 q23)) else (
        zlet (f_X7_inner t1 v2 M) fun (q25 : Int32) =>
        zlet (f_X11_look_ (zr t0 0) q25 M) fun (q26 : Int64) =>
        zlet (f_X7_behind t1 v2 M) fun (q27 : Int32) =>
        zlet (f_X11_look_ (zr t0 0) q27 M) fun (q28 : Int64) =>
        zlet (f_X7_inner t1 v2 M) fun (q29 : Int32) =>
        if q12 = 3 then (
          J104 v2 q12 q13 q26 q29 q13 q28 M) else (
          J104 v2 q12 q13 q26 q29 q13 (q28 ^^^ (-1)) M)))

def f_X5_findIdle (t0 : Nat) (t1 : Nat) (M : ZM) : Option ZM :=
  zlet (zi M t0 3 0) fun (M1 : ZM) =>
  zlet (f_X11_put_ (zr t0 1) 0 4294967295 M1) fun (q2 : ZM) =>
  f_X5_findIdle_18 t0 t1 (fun (M : ZM) =>
    some M) zN 0 q2
set_option maxHeartbeats 4000000 in
set_option maxRecDepth 100000 in
theorem w_X5_findIdle_18 {G : ZG} (hG : zOk G) (S : zX p (zR 2) s m args c 0 0 cX5_findIdle 10 RX5) (hr : meth.sig.returnType = none) (hlk : meth.locks = false) (t0 : Nat) (t1 : Nat) (k0 : zk G t0 = 15) (k1 : zk G t1 = 17)  {K : ZM → Option ZM} {res : ZM} (hK : ∀  (M : ZM), K M = some res → ∀ (H : Heap) (locs : List Loc) (ls : Array Slot), zWd G A s H locs M → lv_has ls 10 [] → W p l e (zR 2) s m args below meth c H locs 0 0 (zQ below G A none res args s) (F0 m 192 ls [])) : ∀ (n : Nat) (v2 : Int32) (M : ZM), f_X5_findIdle_18 t0 t1 K n v2 M = some res → ∀ (H : Heap) (locs : List Loc) (ls : Array Slot), zWd G A s H locs M → lv_has ls 10 [(0, .ref (za G t0)), (1, .ref (za G t1)), (2, .int v2)] → W p l e (zR 2) s m args below meth c H locs 0 0 (zQ below G A none res args s) (F0 m 18 ls []) := by
  have hx := S.1.1
  have hb := S.1.2.1
  have hown := S.1.2.2.2.1
  have hts := S.1.2.2.2.2
  intro n
  induction n with
  | zero =>
    intro v2 M h
    rw [f_X5_findIdle_18] at h
    cases h
  | succ n ih =>
    intro v2 M h H locs ls hw hl
    rw [f_X5_findIdle_18] at h
    obtain ⟨J104, hJ104, h⟩ := zlet_ex h
    have wJ104 : ∀ (v2 : Int32) (v3 : Int32) (v4 : Int64) (v6 : Int64) (s1 : Int32) (s2 : Int64) (s3 : Int64) (M : ZM), J104 v2 v3 v4 v6 s1 s2 s3 M = some res → ∀ (H : Heap) (locs : List Loc) (ls : Array Slot), zWd G A s H locs M → lv_has ls 10 [(0, .ref (za G t0)), (1, .ref (za G t1)), (2, .int v2), (3, .int v3), (4, .long v4), (6, .long v6)] → W p l e (zR 2) s m args below meth c H locs 0 0 (zQ below G A none res args s) (F0 m 104 ls [.long s3, .long s2, .int s1, .ref (za G (zr t0 1))]) := by
      intro v2 v3 v4 v6 s1 s2 s3 M h H locs ls hw hl
      subst hJ104
      refine lv_land hx hb dX5_findIdle_104 ?_
      obtain ⟨q3, eq3, h⟩ := zlet_ex h
      refine z_callS (As := [.ref (za G (zr t0 1)), .int s1, .long (s2 &&& s3)]) (rest := []) (rv := none) (M1 := q3) S hw (c_X11_put_ l hG (zr t0 1) s1 (s2 &&& s3) (kr_5_1 hG k0) M q3 eq3.symm) mv_X11_put_ lk_X5_43 rfl rfl (Nat.le_of_ble_eq_true rfl) ⟨Nat.le_of_ble_eq_true rfl, Nat.le_of_ble_eq_true rfl⟩ hl.1 dX5_findIdle_105 (fun H locs hw => ?_)
      refine lv_aload_n hx hb dX5_findIdle_108 rfl (lv_at hl 0 rfl) ?_
      refine z_getR S hw k0 fl_X5_15 rfl dX5_findIdle_109 ?_
      refine lv_aload_n hx hb dX5_findIdle_112 rfl (lv_at hl 1 rfl) ?_
      refine lv_iload_n hx hb dX5_findIdle_113 rfl (lv_at hl 2 rfl) ?_
      obtain ⟨q4, eq4, h⟩ := zlet_ex h
      refine z_callV (ci := 7) (As := [.int v2]) (rest := [.ref (za G (zr t0 1))]) (rv := (some (.int q4))) (M1 := q3) S hw (c_X7_behind l hG t1 v2 k1 q3 q4 eq4.symm) mv_X7_behind lk_X5_69 k1 ⟨_, _, rfl⟩ (by decide) rfl rfl (Nat.le_of_ble_eq_true rfl) ⟨Nat.le_of_ble_eq_true rfl, Nat.le_of_ble_eq_true rfl⟩ hl.1 dX5_findIdle_114 (fun H locs hw => ?_)
      refine lv_lload hx hb dX5_findIdle_117 (lv_at hl 4 rfl) ?_
      refine lv_iload_n hx hb dX5_findIdle_119 rfl (lv_at hl 3 rfl) ?_
      refine lv_iconst (v := 4) hx hb dX5_findIdle_120 (by decide) ?_
      refine lv_icmp_ne (tgt := 133) hx hb dX5_findIdle_121 (by decide) (fun c5 => ?_) (fun c5 => ?_)
      · have h := zif_f h c5
        refine lv_lload hx hb dX5_findIdle_133 (lv_at hl 5 rfl) ?_
        refine lv_land hx hb dX5_findIdle_135 ?_
        obtain ⟨q6, eq6, h⟩ := zlet_ex h
        refine z_callS (As := [.ref (za G (zr t0 1)), .int q4, .long (v4 &&& v6)]) (rest := []) (rv := none) (M1 := q6) S hw (c_X11_put_ l hG (zr t0 1) q4 (v4 &&& v6) (kr_5_1 hG k0) q3 q6 eq6.symm) mv_X11_put_ lk_X5_43 rfl rfl (Nat.le_of_ble_eq_true rfl) ⟨Nat.le_of_ble_eq_true rfl, Nat.le_of_ble_eq_true rfl⟩ hl.1 dX5_findIdle_136 (fun H locs hw => ?_)
        refine lv_goto (tgt := 186) hx hb dX5_findIdle_139 (by decide) ?_
        obtain ⟨x7, ex7, h⟩ := zlet_ex h
        refine lv_iinc (v := x7) (lv' := [(2, .int x7), (0, .ref (za G t0)), (1, .ref (za G t1)), (3, .int v3), (4, .long v4), (6, .long v6)]) hx hb dX5_findIdle_186 hl (k := 2) rfl (by rw [ex7]; rfl) (by decide) rfl (fun ls hl => ?_)
        refine lv_goto (tgt := 18) hx hb dX5_findIdle_189 (by decide) ?_
        exact ih x7 q6 h H locs ls hw (lv_sub hl [1, 2, 0] rfl)
      · have h := zif_t h c5
        refine lv_lload hx hb dX5_findIdle_124 (lv_at hl 5 rfl) ?_
        refine lv_ldc2 (v := (-1)) hx hb hown (hts _ kc_X5_89) dX5_findIdle_126 ?_
        refine lv_lxor hx hb dX5_findIdle_129 ?_
        refine lv_goto (tgt := 135) hx hb dX5_findIdle_130 (by decide) ?_
        refine lv_land hx hb dX5_findIdle_135 ?_
        obtain ⟨q8, eq8, h⟩ := zlet_ex h
        refine z_callS (As := [.ref (za G (zr t0 1)), .int q4, .long (v4 &&& (v6 ^^^ (-1)))]) (rest := []) (rv := none) (M1 := q8) S hw (c_X11_put_ l hG (zr t0 1) q4 (v4 &&& (v6 ^^^ (-1))) (kr_5_1 hG k0) q3 q8 eq8.symm) mv_X11_put_ lk_X5_43 rfl rfl (Nat.le_of_ble_eq_true rfl) ⟨Nat.le_of_ble_eq_true rfl, Nat.le_of_ble_eq_true rfl⟩ hl.1 dX5_findIdle_136 (fun H locs hw => ?_)
        refine lv_goto (tgt := 186) hx hb dX5_findIdle_139 (by decide) ?_
        obtain ⟨x9, ex9, h⟩ := zlet_ex h
        refine lv_iinc (v := x9) (lv' := [(2, .int x9), (0, .ref (za G t0)), (1, .ref (za G t1)), (3, .int v3), (4, .long v4), (6, .long v6)]) hx hb dX5_findIdle_186 hl (k := 2) rfl (by rw [ex9]; rfl) (by decide) rfl (fun ls hl => ?_)
        refine lv_goto (tgt := 18) hx hb dX5_findIdle_189 (by decide) ?_
        exact ih x9 q8 h H locs ls hw (lv_sub hl [1, 2, 0] rfl)
    refine lv_iload_n hx hb dX5_findIdle_18 rfl (lv_at hl 2 rfl) ?_
    refine lv_aload_n hx hb dX5_findIdle_19 rfl (lv_at hl 1 rfl) ?_
    obtain ⟨q10, eq10, h⟩ := zlet_ex h
    refine z_callV (ci := 7) (As := []) (rest := [.int v2]) (rv := (some (.int q10))) (M1 := M) S hw (c_X7_size l hG t1 k1 M q10 eq10.symm) mv_X7_size lk_X5_33 k1 ⟨_, _, rfl⟩ (by decide) rfl rfl (Nat.le_of_ble_eq_true rfl) ⟨Nat.le_of_ble_eq_true rfl, Nat.le_of_ble_eq_true rfl⟩ hl.1 dX5_findIdle_20 (fun H locs hw => ?_)
    refine lv_icmp_ge (tgt := 192) hx hb dX5_findIdle_23 (by decide) (fun c11 => ?_) (fun c11 => ?_)
    · have h := zif_t h c11
      exact hK M h H locs ls hw (lv_sub hl [] rfl)
    · have h := zif_f h c11
      refine lv_aload_n hx hb dX5_findIdle_26 rfl (lv_at hl 1 rfl) ?_
      refine lv_iload_n hx hb dX5_findIdle_27 rfl (lv_at hl 2 rfl) ?_
      obtain ⟨q12, eq12, h⟩ := zlet_ex h
      refine z_callV (ci := 7) (As := [.int v2]) (rest := []) (rv := (some (.int q12))) (M1 := M) S hw (c_X7_kind l hG t1 v2 k1 M q12 eq12.symm) mv_X7_kind lk_X5_72 k1 ⟨_, _, rfl⟩ (by decide) rfl rfl (Nat.le_of_ble_eq_true rfl) ⟨Nat.le_of_ble_eq_true rfl, Nat.le_of_ble_eq_true rfl⟩ hl.1 dX5_findIdle_28 (fun H locs hw => ?_)
      refine lv_istore_n (lv' := [(3, .int q12), (0, .ref (za G t0)), (1, .ref (za G t1)), (2, .int v2)]) hx hb dX5_findIdle_31 rfl hl (by decide) rfl (fun ls hl => ?_)
      refine lv_aload_n hx hb dX5_findIdle_32 rfl (lv_at hl 1 rfl) ?_
      refine z_getR S hw k0 fl_X5_15 rfl dX5_findIdle_33 ?_
      refine lv_iload_n hx hb dX5_findIdle_36 rfl (lv_at hl 3 rfl) ?_
      obtain ⟨q13, eq13, h⟩ := zlet_ex h
      refine z_callS (As := [.ref (za G (zr t0 1)), .int v2]) (rest := []) (rv := (some (.long q13))) (M1 := M) S hw (c_X11_look_ l hG (zr t0 1) v2 (kr_5_1 hG k0) M q13 eq13.symm) mv_X11_look_ lk_X5_22 rfl rfl (Nat.le_of_ble_eq_true rfl) ⟨Nat.le_of_ble_eq_true rfl, Nat.le_of_ble_eq_true rfl⟩ hl.1 dX5_findIdle_37 (fun H locs hw => ?_)
      refine lv_lstore (lv' := [(4, .long q13), (3, .int q12), (0, .ref (za G t0)), (1, .ref (za G t1)), (2, .int v2)]) hx hb dX5_findIdle_40 hl (by decide) rfl (fun ls hl => ?_)
      refine lv_iload_n hx hb dX5_findIdle_42 rfl (lv_at hl 1 rfl) ?_
      obtain ⟨q14, eq14, h⟩ := zlet_ex h
      refine z_callS (As := [.int q12]) (rest := []) (rv := (some (.int q14))) (M1 := M) S hw (c_X11_isJoin l hG q12 M q14 eq14.symm) mv_X11_isJoin lk_X5_94 rfl rfl (Nat.le_of_ble_eq_true rfl) ⟨Nat.le_of_ble_eq_true rfl, Nat.le_of_ble_eq_true rfl⟩ hl.1 dX5_findIdle_43 (fun H locs hw => ?_)
      refine lv_if_eq (tgt := 142) hx hb dX5_findIdle_46 (by decide) (fun c15 => ?_) (fun c15 => ?_)
      · have h := zif_t h c15
        refine lv_iload_n hx hb dX5_findIdle_142 rfl (lv_at hl 1 rfl) ?_
        refine lv_if_eq (tgt := 163) hx hb dX5_findIdle_143 (by decide) (fun c16 => ?_) (fun c16 => ?_)
        · have h := zif_t h c16
          refine lv_lload hx hb dX5_findIdle_163 (lv_at hl 0 rfl) ?_
          refine lv_lconst (v := 0) hx hb dX5_findIdle_165 (by decide) ?_
          refine W.lcmp hx hb dX5_findIdle_166 ?_
          refine lv_if_ne (tgt := 186) hx hb dX5_findIdle_167 (by decide) (fun c17 => ?_) (fun c17 => ?_)
          · have h := zif_f h c17
            obtain ⟨x18, ex18, h⟩ := zlet_ex h
            refine lv_iinc (v := x18) (lv' := [(2, .int x18), (4, .long q13), (3, .int q12), (0, .ref (za G t0)), (1, .ref (za G t1))]) hx hb dX5_findIdle_186 hl (k := 4) rfl (by rw [ex18]; rfl) (by decide) rfl (fun ls hl => ?_)
            refine lv_goto (tgt := 18) hx hb dX5_findIdle_189 (by decide) ?_
            exact ih x18 M h H locs ls hw (lv_sub hl [3, 4, 0] rfl)
          · have h := zif_t h c17
            refine lv_aload_n hx hb dX5_findIdle_170 rfl (lv_at hl 2 rfl) ?_
            refine lv_dup hx hb dX5_findIdle_171 rfl ?_
            refine z_getI S hw k0 fl_X5_26 rfl dX5_findIdle_172 ?_
            refine lv_iconst (v := 1) hx hb dX5_findIdle_175 (by decide) ?_
            refine lv_aload_n hx hb dX5_findIdle_176 rfl (lv_at hl 3 rfl) ?_
            refine lv_iload_n hx hb dX5_findIdle_177 rfl (lv_at hl 4 rfl) ?_
            obtain ⟨q19, eq19, h⟩ := zlet_ex h
            refine z_callV (ci := 7) (As := [.int v2]) (rest := [.int 1, .int (M.1 t0 3), .ref (za G t0)]) (rv := (some (.int q19))) (M1 := M) S hw (c_X7_from l hG t1 v2 k1 M q19 eq19.symm) mv_X7_from lk_X5_75 k1 ⟨_, _, rfl⟩ (by decide) rfl rfl (Nat.le_of_ble_eq_true rfl) ⟨Nat.le_of_ble_eq_true rfl, Nat.le_of_ble_eq_true rfl⟩ hl.1 dX5_findIdle_178 (fun H locs hw => ?_)
            refine lv_ishl hx hb dX5_findIdle_181 ?_
            refine lv_ior hx hb dX5_findIdle_182 ?_
            obtain ⟨M20, eM20, h⟩ := zlet_ex h
            refine z_putI S hw eM20 k0 fl_X5_26 rfl (fun h => absurd h (by decide)) dX5_findIdle_183 (fun H locs hw => ?_)
            obtain ⟨x21, ex21, h⟩ := zlet_ex h
            refine lv_iinc (v := x21) (lv' := [(2, .int x21), (4, .long q13), (3, .int q12), (0, .ref (za G t0)), (1, .ref (za G t1))]) hx hb dX5_findIdle_186 hl (k := 4) rfl (by rw [ex21]; rfl) (by decide) rfl (fun ls hl => ?_)
            refine lv_goto (tgt := 18) hx hb dX5_findIdle_189 (by decide) ?_
            exact ih x21 M20 h H locs ls hw (lv_sub hl [3, 4, 0] rfl)
        · have h := zif_f h c16
          refine lv_aload_n hx hb dX5_findIdle_146 rfl (lv_at hl 2 rfl) ?_
          refine z_getR S hw k0 fl_X5_15 rfl dX5_findIdle_147 ?_
          refine lv_aload_n hx hb dX5_findIdle_150 rfl (lv_at hl 3 rfl) ?_
          refine lv_iload_n hx hb dX5_findIdle_151 rfl (lv_at hl 4 rfl) ?_
          obtain ⟨q22, eq22, h⟩ := zlet_ex h
          refine z_callV (ci := 7) (As := [.int v2]) (rest := [.ref (za G (zr t0 1))]) (rv := (some (.int q22))) (M1 := M) S hw (c_X7_inner l hG t1 v2 k1 M q22 eq22.symm) mv_X7_inner lk_X5_65 k1 ⟨_, _, rfl⟩ (by decide) rfl rfl (Nat.le_of_ble_eq_true rfl) ⟨Nat.le_of_ble_eq_true rfl, Nat.le_of_ble_eq_true rfl⟩ hl.1 dX5_findIdle_152 (fun H locs hw => ?_)
          refine lv_lload hx hb dX5_findIdle_155 (lv_at hl 0 rfl) ?_
          obtain ⟨q23, eq23, h⟩ := zlet_ex h
          refine z_callS (As := [.ref (za G (zr t0 1)), .int q22, .long q13]) (rest := []) (rv := none) (M1 := q23) S hw (c_X11_put_ l hG (zr t0 1) q22 q13 (kr_5_1 hG k0) M q23 eq23.symm) mv_X11_put_ lk_X5_43 rfl rfl (Nat.le_of_ble_eq_true rfl) ⟨Nat.le_of_ble_eq_true rfl, Nat.le_of_ble_eq_true rfl⟩ hl.1 dX5_findIdle_157 (fun H locs hw => ?_)
          refine lv_goto (tgt := 186) hx hb dX5_findIdle_160 (by decide) ?_
          obtain ⟨x24, ex24, h⟩ := zlet_ex h
          refine lv_iinc (v := x24) (lv' := [(2, .int x24), (4, .long q13), (3, .int q12), (0, .ref (za G t0)), (1, .ref (za G t1))]) hx hb dX5_findIdle_186 hl (k := 4) rfl (by rw [ex24]; rfl) (by decide) rfl (fun ls hl => ?_)
          refine lv_goto (tgt := 18) hx hb dX5_findIdle_189 (by decide) ?_
          exact ih x24 q23 h H locs ls hw (lv_sub hl [3, 4, 0] rfl)
      · have h := zif_f h c15
        refine lv_aload_n hx hb dX5_findIdle_49 rfl (lv_at hl 2 rfl) ?_
        refine z_getR S hw k0 fl_X5_9 rfl dX5_findIdle_50 ?_
        refine lv_aload_n hx hb dX5_findIdle_53 rfl (lv_at hl 3 rfl) ?_
        refine lv_iload_n hx hb dX5_findIdle_54 rfl (lv_at hl 4 rfl) ?_
        obtain ⟨q25, eq25, h⟩ := zlet_ex h
        refine z_callV (ci := 7) (As := [.int v2]) (rest := [.ref (za G (zr t0 0))]) (rv := (some (.int q25))) (M1 := M) S hw (c_X7_inner l hG t1 v2 k1 M q25 eq25.symm) mv_X7_inner lk_X5_65 k1 ⟨_, _, rfl⟩ (by decide) rfl rfl (Nat.le_of_ble_eq_true rfl) ⟨Nat.le_of_ble_eq_true rfl, Nat.le_of_ble_eq_true rfl⟩ hl.1 dX5_findIdle_55 (fun H locs hw => ?_)
        obtain ⟨q26, eq26, h⟩ := zlet_ex h
        refine z_callS (As := [.ref (za G (zr t0 0)), .int q25]) (rest := []) (rv := (some (.long q26))) (M1 := M) S hw (c_X11_look_ l hG (zr t0 0) q25 (kr_5_0 hG k0) M q26 eq26.symm) mv_X11_look_ lk_X5_22 rfl rfl (Nat.le_of_ble_eq_true rfl) ⟨Nat.le_of_ble_eq_true rfl, Nat.le_of_ble_eq_true rfl⟩ hl.1 dX5_findIdle_58 (fun H locs hw => ?_)
        refine lv_lstore (lv' := [(6, .long q26), (4, .long q13), (3, .int q12), (0, .ref (za G t0)), (1, .ref (za G t1)), (2, .int v2)]) hx hb dX5_findIdle_61 hl (by decide) rfl (fun ls hl => ?_)
        refine lv_aload_n hx hb dX5_findIdle_63 rfl (lv_at hl 3 rfl) ?_
        refine z_getR S hw k0 fl_X5_9 rfl dX5_findIdle_64 ?_
        refine lv_aload_n hx hb dX5_findIdle_67 rfl (lv_at hl 4 rfl) ?_
        refine lv_iload_n hx hb dX5_findIdle_68 rfl (lv_at hl 5 rfl) ?_
        obtain ⟨q27, eq27, h⟩ := zlet_ex h
        refine z_callV (ci := 7) (As := [.int v2]) (rest := [.ref (za G (zr t0 0))]) (rv := (some (.int q27))) (M1 := M) S hw (c_X7_behind l hG t1 v2 k1 M q27 eq27.symm) mv_X7_behind lk_X5_69 k1 ⟨_, _, rfl⟩ (by decide) rfl rfl (Nat.le_of_ble_eq_true rfl) ⟨Nat.le_of_ble_eq_true rfl, Nat.le_of_ble_eq_true rfl⟩ hl.1 dX5_findIdle_69 (fun H locs hw => ?_)
        obtain ⟨q28, eq28, h⟩ := zlet_ex h
        refine z_callS (As := [.ref (za G (zr t0 0)), .int q27]) (rest := []) (rv := (some (.long q28))) (M1 := M) S hw (c_X11_look_ l hG (zr t0 0) q27 (kr_5_0 hG k0) M q28 eq28.symm) mv_X11_look_ lk_X5_22 rfl rfl (Nat.le_of_ble_eq_true rfl) ⟨Nat.le_of_ble_eq_true rfl, Nat.le_of_ble_eq_true rfl⟩ hl.1 dX5_findIdle_72 (fun H locs hw => ?_)
        refine lv_lstore (lv' := [(8, .long q28), (6, .long q26), (4, .long q13), (3, .int q12), (0, .ref (za G t0)), (1, .ref (za G t1)), (2, .int v2)]) hx hb dX5_findIdle_75 hl (by decide) rfl (fun ls hl => ?_)
        refine lv_aload_n hx hb dX5_findIdle_77 rfl (lv_at hl 4 rfl) ?_
        refine z_getR S hw k0 fl_X5_15 rfl dX5_findIdle_78 ?_
        refine lv_aload_n hx hb dX5_findIdle_81 rfl (lv_at hl 5 rfl) ?_
        refine lv_iload_n hx hb dX5_findIdle_82 rfl (lv_at hl 6 rfl) ?_
        obtain ⟨q29, eq29, h⟩ := zlet_ex h
        refine z_callV (ci := 7) (As := [.int v2]) (rest := [.ref (za G (zr t0 1))]) (rv := (some (.int q29))) (M1 := M) S hw (c_X7_inner l hG t1 v2 k1 M q29 eq29.symm) mv_X7_inner lk_X5_65 k1 ⟨_, _, rfl⟩ (by decide) rfl rfl (Nat.le_of_ble_eq_true rfl) ⟨Nat.le_of_ble_eq_true rfl, Nat.le_of_ble_eq_true rfl⟩ hl.1 dX5_findIdle_83 (fun H locs hw => ?_)
        refine lv_lload hx hb dX5_findIdle_86 (lv_at hl 2 rfl) ?_
        refine lv_iload_n hx hb dX5_findIdle_88 rfl (lv_at hl 3 rfl) ?_
        refine lv_iconst (v := 3) hx hb dX5_findIdle_89 (by decide) ?_
        refine lv_icmp_ne (tgt := 98) hx hb dX5_findIdle_90 (by decide) (fun c30 => ?_) (fun c30 => ?_)
        · have h := zif_f h c30
          refine lv_lload hx hb dX5_findIdle_98 (lv_at hl 0 rfl) ?_
          refine lv_ldc2 (v := (-1)) hx hb hown (hts _ kc_X5_89) dX5_findIdle_100 ?_
          refine lv_lxor hx hb dX5_findIdle_103 ?_
          exact wJ104 v2 q12 q13 q26 q29 q13 (q28 ^^^ (-1)) M h H locs ls hw (lv_sub hl [4, 5, 6, 3, 2, 1] rfl)
        · have h := zif_t h c30
          refine lv_lload hx hb dX5_findIdle_93 (lv_at hl 0 rfl) ?_
          refine lv_goto (tgt := 104) hx hb dX5_findIdle_95 (by decide) ?_
          exact wJ104 v2 q12 q13 q26 q29 q13 q28 M h H locs ls hw (lv_sub hl [4, 5, 6, 3, 2, 1] rfl)
set_option maxHeartbeats 4000000 in
set_option maxRecDepth 100000 in
theorem c_X5_findIdle (l : Launch) {G : ZG} (hG : zOk G) (t0 : Nat) (t1 : Nat) (k0 : zk G t0 = 15) (k1 : zk G t1 = 17) (M : ZM) (res : ZM) (h : f_X5_findIdle t0 t1 M = some res) : zCt l yX5_findIdle cX5_findIdle 10 none 2 G [.ref (za G t0), .ref (za G t1)] M none res := by
  refine zCt.mk (by decide +kernel) (Nat.le_of_ble_eq_true rfl) ?_
  intro p e s m args below meth c A H locs ls S hr hlk hw hl
  have S : zX p (zR 2) s m args c 0 0 cX5_findIdle 10 RX5 := S
  have hx := S.1.1
  have hb := S.1.2.1
  have hown := S.1.2.2.2.1
  have hts := S.1.2.2.2.2
  have hl : lv_has ls 10 [(0, .ref (za G t0)), (1, .ref (za G t1))] := hl
  unfold f_X5_findIdle at h
  refine lv_aload_n hx hb dX5_findIdle_0 rfl (lv_at hl 0 rfl) ?_
  refine lv_iconst (v := 0) hx hb dX5_findIdle_1 (by decide) ?_
  obtain ⟨M1, eM1, h⟩ := zlet_ex h
  refine z_putI S hw eM1 k0 fl_X5_26 rfl (fun h => absurd h (by decide)) dX5_findIdle_2 (fun H locs hw => ?_)
  refine lv_aload_n hx hb dX5_findIdle_5 rfl (lv_at hl 0 rfl) ?_
  refine z_getR S hw k0 fl_X5_15 rfl dX5_findIdle_6 ?_
  refine lv_iconst (v := 0) hx hb dX5_findIdle_9 (by decide) ?_
  refine lv_ldc2 (v := 4294967295) hx hb hown (hts _ kc_X5_87) dX5_findIdle_10 ?_
  obtain ⟨q2, eq2, h⟩ := zlet_ex h
  refine z_callS (As := [.ref (za G (zr t0 1)), .int 0, .long 4294967295]) (rest := []) (rv := none) (M1 := q2) S hw (c_X11_put_ l hG (zr t0 1) 0 4294967295 (kr_5_1 hG k0) M1 q2 eq2.symm) mv_X11_put_ lk_X5_43 rfl rfl (Nat.le_of_ble_eq_true rfl) ⟨Nat.le_of_ble_eq_true rfl, Nat.le_of_ble_eq_true rfl⟩ hl.1 dX5_findIdle_13 (fun H locs hw => ?_)
  refine lv_iconst (v := 0) hx hb dX5_findIdle_16 (by decide) ?_
  refine lv_istore_n (lv' := [(2, .int 0), (0, .ref (za G t0)), (1, .ref (za G t1))]) hx hb dX5_findIdle_17 rfl hl (by decide) rfl (fun ls hl => ?_)
  refine w_X5_findIdle_18 hG S hr hlk t0 t1 k0 k1 (fun M h H locs ls hw hl => ?_) zN 0 q2 h H locs ls hw (lv_sub hl [1, 2, 0] rfl)
  have h := Option.some.inj h
  subst h
  exact z_ret_v S hr hlk hw dX5_findIdle_192
end Z
