section Z
variable {p : Program} {l : Launch} {e : Env} {s : State} {m : MethodId} {args : Array Value} {below : List Frame} {meth : Method} {c : Code} {A : Nat → Prop}
def f_X12_hangs_50 (t0 : Nat) (v1 : Int32) (v2 : Int32) (K : Int32 → ZM → Option (Int32 × ZM)) : Nat → Int32 → Int32 → ZM → Option (Int32 × ZM)
  | 0, _, _, _ => none
  | n + 1, v3, v4, M =>
    if (M.1 t0 26) ≤ v4 then (
      K v3 M) else (
      if v3 = 0 then (
        zlet (v4 + 1) fun (x7 : Int32) =>
        f_X12_hangs_50 t0 v1 v2 K n 0 x7 M) else (
        zck (zin v4 (zn (zr t0 35))) <|
        zck (zin v4 (zn (zr t0 36))) <|
        if (M.1 (zr t0 35) v4.toNatClampNeg) = (M.1 (zr t0 36) v4.toNatClampNeg) then (
          zlet (v4 + 1) fun (x12 : Int32) =>
          f_X12_hangs_50 t0 v1 v2 K n 1 x12 M) else (
          zlet (v4 + 1) fun (x11 : Int32) =>
          f_X12_hangs_50 t0 v1 v2 K n 0 x11 M)))

def f_X12_hangs_28 (t0 : Nat) (K : Int32 → ZM → Option (Int32 × ZM)) : Nat → Int32 → Int32 → ZM → Option (Int32 × ZM)
  | 0, _, _, _ => none
  | n + 1, v1, v2, M =>
    if (M.1 t0 12) ≤ v2 then (
      K v1 M) else (
      (f_X12_findOver t0 (zr t0 36) v2 M).bind fun (q4 : ZM) =>
      f_X12_hangs_50 t0 v1 v2 (fun (v3 : Int32) (M : ZM) =>
        if v3 = 0 then (
          zck (zin v2 (zn (zr t0 3))) <|
          zlet (v1 ||| (1 <<< ((M.1 (zr t0 3) v2.toNatClampNeg) &&& 31))) fun (x15 : Int32) =>
          zlet (v2 + 1) fun (x16 : Int32) =>
          f_X12_hangs_28 t0 K n x15 x16 M) else (
          zlet (v1 ||| 0) fun (x17 : Int32) =>
          zlet (v2 + 1) fun (x18 : Int32) =>
          f_X12_hangs_28 t0 K n x17 x18 M)) zN 1 0 q4)

def f_X12_hangs (t0 : Nat) (M : ZM) : Option (Int32 × ZM) :=
  if (M.1 t0 29) = 0 then (
    (f_X12_refuse t0 (-5) M).bind fun (q19 : (Int32 × ZM)) =>
    some (q19.1, q19.2)) else (
    (f_X12_findOver t0 (zr t0 35) (-9) M).bind fun (q2 : ZM) =>
    f_X12_hangs_28 t0 (fun (v1 : Int32) (M : ZM) =>
      some (v1, M)) zN 0 0 q2)
set_option maxHeartbeats 4000000 in
set_option maxRecDepth 100000 in
theorem w_X12_hangs_50 {G : ZG} (hG : zOk G) (S : zX p (zR 1) s m args c 0 0 cX12_hangs 5 RX12) (hr : meth.sig.returnType = (Option.some FieldType.int)) (hlk : meth.locks = false) (t0 : Nat) (v1 : Int32) (v2 : Int32) (k0 : zk G t0 = 22)  {K : Int32 → ZM → Option (Int32 × ZM)} {res : (Int32 × ZM)} (hK : ∀ (v3 : Int32) (M : ZM), K v3 M = some res → ∀ (H : Heap) (locs : List Loc) (ls : Array Slot), zWd G A s H locs M → lv_has ls 5 [(0, .ref (za G t0)), (1, .int v1), (2, .int v2), (3, .int v3)] → W p l e (zR 1) s m args below meth c H locs 0 0 (zQ below G A (some (.int res.1)) res.2 args s) (F0 m 92 ls [])) : ∀ (n : Nat) (v3 : Int32) (v4 : Int32) (M : ZM), f_X12_hangs_50 t0 v1 v2 K n v3 v4 M = some res → ∀ (H : Heap) (locs : List Loc) (ls : Array Slot), zWd G A s H locs M → lv_has ls 5 [(0, .ref (za G t0)), (1, .int v1), (2, .int v2), (3, .int v3), (4, .int v4)] → W p l e (zR 1) s m args below meth c H locs 0 0 (zQ below G A (some (.int res.1)) res.2 args s) (F0 m 50 ls []) := by
  have hx := S.1.1
  have hb := S.1.2.1
  have hown := S.1.2.2.2.1
  have hts := S.1.2.2.2.2
  intro n
  induction n with
  | zero =>
    intro v3 v4 M h
    rw [f_X12_hangs_50] at h
    cases h
  | succ n ih =>
    intro v3 v4 M h H locs ls hw hl
    rw [f_X12_hangs_50] at h
    refine lv_iload hx hb dX12_hangs_50 (lv_at hl 4 rfl) ?_
    refine lv_aload_n hx hb dX12_hangs_52 rfl (lv_at hl 0 rfl) ?_
    refine z_getI S hw k0 fl_X12_129 rfl dX12_hangs_53 ?_
    refine lv_icmp_ge (tgt := 92) hx hb dX12_hangs_56 (by decide) (fun c5 => ?_) (fun c5 => ?_)
    · have h := zif_t h c5
      exact hK v3 M h H locs ls hw (lv_sub hl [0, 1, 2, 3] rfl)
    · have h := zif_f h c5
      refine lv_iload_n hx hb dX12_hangs_59 rfl (lv_at hl 3 rfl) ?_
      refine lv_if_eq (tgt := 84) hx hb dX12_hangs_60 (by decide) (fun c6 => ?_) (fun c6 => ?_)
      · have h := zif_t h c6
        refine lv_iconst (v := 0) hx hb dX12_hangs_84 (by decide) ?_
        refine lv_istore_n (lv' := [(3, .int 0), (0, .ref (za G t0)), (1, .int v1), (2, .int v2), (4, .int v4)]) hx hb dX12_hangs_85 rfl hl (by decide) rfl (fun ls hl => ?_)
        obtain ⟨x7, ex7, h⟩ := zlet_ex h
        refine lv_iinc (v := x7) (lv' := [(4, .int x7), (3, .int 0), (0, .ref (za G t0)), (1, .int v1), (2, .int v2)]) hx hb dX12_hangs_86 hl (k := 4) rfl (by rw [ex7]; rfl) (by decide) rfl (fun ls hl => ?_)
        refine lv_goto (tgt := 50) hx hb dX12_hangs_89 (by decide) ?_
        exact ih 0 x7 M h H locs ls hw (lv_sub hl [2, 3, 4, 1, 0] rfl)
      · have h := zif_f h c6
        refine lv_aload_n hx hb dX12_hangs_63 rfl (lv_at hl 0 rfl) ?_
        refine z_getR S hw k0 fl_X12_75 rfl dX12_hangs_64 ?_
        refine lv_iload hx hb dX12_hangs_67 (lv_at hl 4 rfl) ?_
        obtain ⟨g8, h⟩ := zck_ex h
        refine z_zald S hw (kr_12_35 hG k0) g8 dX12_hangs_69 ?_
        refine lv_aload_n hx hb dX12_hangs_70 rfl (lv_at hl 0 rfl) ?_
        refine z_getR S hw k0 fl_X12_79 rfl dX12_hangs_71 ?_
        refine lv_iload hx hb dX12_hangs_74 (lv_at hl 4 rfl) ?_
        obtain ⟨g9, h⟩ := zck_ex h
        refine z_zald S hw (kr_12_36 hG k0) g9 dX12_hangs_76 ?_
        refine lv_icmp_ne (tgt := 84) hx hb dX12_hangs_77 (by decide) (fun c10 => ?_) (fun c10 => ?_)
        · have h := zif_f h c10
          refine lv_iconst (v := 0) hx hb dX12_hangs_84 (by decide) ?_
          refine lv_istore_n (lv' := [(3, .int 0), (0, .ref (za G t0)), (1, .int v1), (2, .int v2), (4, .int v4)]) hx hb dX12_hangs_85 rfl hl (by decide) rfl (fun ls hl => ?_)
          obtain ⟨x11, ex11, h⟩ := zlet_ex h
          refine lv_iinc (v := x11) (lv' := [(4, .int x11), (3, .int 0), (0, .ref (za G t0)), (1, .int v1), (2, .int v2)]) hx hb dX12_hangs_86 hl (k := 4) rfl (by rw [ex11]; rfl) (by decide) rfl (fun ls hl => ?_)
          refine lv_goto (tgt := 50) hx hb dX12_hangs_89 (by decide) ?_
          exact ih 0 x11 M h H locs ls hw (lv_sub hl [2, 3, 4, 1, 0] rfl)
        · have h := zif_t h c10
          refine lv_iconst (v := 1) hx hb dX12_hangs_80 (by decide) ?_
          refine lv_goto (tgt := 85) hx hb dX12_hangs_81 (by decide) ?_
          refine lv_istore_n (lv' := [(3, .int 1), (0, .ref (za G t0)), (1, .int v1), (2, .int v2), (4, .int v4)]) hx hb dX12_hangs_85 rfl hl (by decide) rfl (fun ls hl => ?_)
          obtain ⟨x12, ex12, h⟩ := zlet_ex h
          refine lv_iinc (v := x12) (lv' := [(4, .int x12), (3, .int 1), (0, .ref (za G t0)), (1, .int v1), (2, .int v2)]) hx hb dX12_hangs_86 hl (k := 4) rfl (by rw [ex12]; rfl) (by decide) rfl (fun ls hl => ?_)
          refine lv_goto (tgt := 50) hx hb dX12_hangs_89 (by decide) ?_
          exact ih 1 x12 M h H locs ls hw (lv_sub hl [2, 3, 4, 1, 0] rfl)
set_option maxHeartbeats 4000000 in
set_option maxRecDepth 100000 in
theorem w_X12_hangs_28 {G : ZG} (hG : zOk G) (S : zX p (zR 1) s m args c 0 0 cX12_hangs 5 RX12) (hr : meth.sig.returnType = (Option.some FieldType.int)) (hlk : meth.locks = false) (t0 : Nat) (k0 : zk G t0 = 22)  {K : Int32 → ZM → Option (Int32 × ZM)} {res : (Int32 × ZM)} (hK : ∀ (v1 : Int32) (M : ZM), K v1 M = some res → ∀ (H : Heap) (locs : List Loc) (ls : Array Slot), zWd G A s H locs M → lv_has ls 5 [(1, .int v1)] → W p l e (zR 1) s m args below meth c H locs 0 0 (zQ below G A (some (.int res.1)) res.2 args s) (F0 m 117 ls [])) : ∀ (n : Nat) (v1 : Int32) (v2 : Int32) (M : ZM), f_X12_hangs_28 t0 K n v1 v2 M = some res → ∀ (H : Heap) (locs : List Loc) (ls : Array Slot), zWd G A s H locs M → lv_has ls 5 [(0, .ref (za G t0)), (1, .int v1), (2, .int v2)] → W p l e (zR 1) s m args below meth c H locs 0 0 (zQ below G A (some (.int res.1)) res.2 args s) (F0 m 28 ls []) := by
  have hx := S.1.1
  have hb := S.1.2.1
  have hown := S.1.2.2.2.1
  have hts := S.1.2.2.2.2
  intro n
  induction n with
  | zero =>
    intro v1 v2 M h
    rw [f_X12_hangs_28] at h
    cases h
  | succ n ih =>
    intro v1 v2 M h H locs ls hw hl
    rw [f_X12_hangs_28] at h
    refine lv_iload_n hx hb dX12_hangs_28 rfl (lv_at hl 2 rfl) ?_
    refine lv_aload_n hx hb dX12_hangs_29 rfl (lv_at hl 0 rfl) ?_
    refine z_getI S hw k0 fl_X12_191 rfl dX12_hangs_30 ?_
    refine lv_icmp_ge (tgt := 117) hx hb dX12_hangs_33 (by decide) (fun c3 => ?_) (fun c3 => ?_)
    · have h := zif_t h c3
      exact hK v1 M h H locs ls hw (lv_sub hl [1] rfl)
    · have h := zif_f h c3
      refine lv_aload_n hx hb dX12_hangs_36 rfl (lv_at hl 0 rfl) ?_
      refine lv_aload_n hx hb dX12_hangs_37 rfl (lv_at hl 0 rfl) ?_
      refine z_getR S hw k0 fl_X12_79 rfl dX12_hangs_38 ?_
      refine lv_iload_n hx hb dX12_hangs_41 rfl (lv_at hl 2 rfl) ?_
      obtain ⟨q4, eq4, h⟩ := Option.bind_eq_some_iff.mp h
      refine z_callV (ci := 12) (As := [.ref (za G (zr t0 36)), .int v2]) (rest := []) (rv := none) (M1 := q4) S hw (c_X12_findOver l hG t0 (zr t0 36) v2 k0 (kr_12_36 hG k0) M q4 eq4) mv_X12_findOver lk_X12_197 k0 ⟨_, _, rfl⟩ (by decide) rfl rfl (Nat.le_of_ble_eq_true rfl) ⟨Nat.le_of_ble_eq_true rfl, Nat.le_of_ble_eq_true rfl⟩ hl.1 dX12_hangs_42 (fun H locs hw => ?_)
      refine lv_iconst (v := 1) hx hb dX12_hangs_45 (by decide) ?_
      refine lv_istore_n (lv' := [(3, .int 1), (0, .ref (za G t0)), (1, .int v1), (2, .int v2)]) hx hb dX12_hangs_46 rfl hl (by decide) rfl (fun ls hl => ?_)
      refine lv_iconst (v := 0) hx hb dX12_hangs_47 (by decide) ?_
      refine lv_istore (lv' := [(4, .int 0), (3, .int 1), (0, .ref (za G t0)), (1, .int v1), (2, .int v2)]) hx hb dX12_hangs_48 hl (by decide) rfl (fun ls hl => ?_)
      refine w_X12_hangs_50 hG S hr hlk t0 v1 v2 k0 (fun v3 M h H locs ls hw hl => ?_) zN 1 0 q4 h H locs ls hw (lv_sub hl [2, 3, 4, 1, 0] rfl)
      refine lv_iload_n hx hb dX12_hangs_92 rfl (lv_at hl 1 rfl) ?_
      refine lv_iload_n hx hb dX12_hangs_93 rfl (lv_at hl 3 rfl) ?_
      refine lv_if_eq (tgt := 101) hx hb dX12_hangs_94 (by decide) (fun c13 => ?_) (fun c13 => ?_)
      · have h := zif_t h c13
        refine lv_iconst (v := 1) hx hb dX12_hangs_101 (by decide) ?_
        refine lv_aload_n hx hb dX12_hangs_102 rfl (lv_at hl 0 rfl) ?_
        refine z_getR S hw k0 fl_X12_19 rfl dX12_hangs_103 ?_
        refine lv_iload_n hx hb dX12_hangs_106 rfl (lv_at hl 2 rfl) ?_
        obtain ⟨g14, h⟩ := zck_ex h
        refine z_iald S hw (kr_12_3 hG k0) g14 dX12_hangs_107 ?_
        refine lv_ishl hx hb dX12_hangs_108 ?_
        refine lv_ior hx hb dX12_hangs_109 ?_
        obtain ⟨x15, ex15, h⟩ := zlet_ex h
        refine lv_topiE ex15 ?_
        refine lv_istore_n (lv' := [(1, .int x15), (0, .ref (za G t0)), (2, .int v2), (3, .int v3)]) hx hb dX12_hangs_110 rfl hl (by decide) rfl (fun ls hl => ?_)
        obtain ⟨x16, ex16, h⟩ := zlet_ex h
        refine lv_iinc (v := x16) (lv' := [(2, .int x16), (1, .int x15), (0, .ref (za G t0)), (3, .int v3)]) hx hb dX12_hangs_111 hl (k := 2) rfl (by rw [ex16]; rfl) (by decide) rfl (fun ls hl => ?_)
        refine lv_goto (tgt := 28) hx hb dX12_hangs_114 (by decide) ?_
        exact ih x15 x16 M h H locs ls hw (lv_sub hl [2, 1, 0] rfl)
      · have h := zif_f h c13
        refine lv_iconst (v := 0) hx hb dX12_hangs_97 (by decide) ?_
        refine lv_goto (tgt := 109) hx hb dX12_hangs_98 (by decide) ?_
        refine lv_ior hx hb dX12_hangs_109 ?_
        obtain ⟨x17, ex17, h⟩ := zlet_ex h
        refine lv_topiE ex17 ?_
        refine lv_istore_n (lv' := [(1, .int x17), (0, .ref (za G t0)), (2, .int v2), (3, .int v3)]) hx hb dX12_hangs_110 rfl hl (by decide) rfl (fun ls hl => ?_)
        obtain ⟨x18, ex18, h⟩ := zlet_ex h
        refine lv_iinc (v := x18) (lv' := [(2, .int x18), (1, .int x17), (0, .ref (za G t0)), (3, .int v3)]) hx hb dX12_hangs_111 hl (k := 2) rfl (by rw [ex18]; rfl) (by decide) rfl (fun ls hl => ?_)
        refine lv_goto (tgt := 28) hx hb dX12_hangs_114 (by decide) ?_
        exact ih x17 x18 M h H locs ls hw (lv_sub hl [2, 1, 0] rfl)
set_option maxHeartbeats 4000000 in
set_option maxRecDepth 100000 in
theorem c_X12_hangs (l : Launch) {G : ZG} (hG : zOk G) (t0 : Nat) (k0 : zk G t0 = 22) (M : ZM) (res : (Int32 × ZM)) (h : f_X12_hangs t0 M = some res) : zCt l yX12_hangs cX12_hangs 5 (Option.some FieldType.int) 1 G [.ref (za G t0)] M (some (.int res.1)) res.2 := by
  refine zCt.mk (by decide +kernel) (Nat.le_of_ble_eq_true rfl) ?_
  intro p e s m args below meth c A H locs ls S hr hlk hw hl
  have S : zX p (zR 1) s m args c 0 0 cX12_hangs 5 RX12 := S
  have hx := S.1.1
  have hb := S.1.2.1
  have hown := S.1.2.2.2.1
  have hts := S.1.2.2.2.2
  have hl : lv_has ls 5 [(0, .ref (za G t0))] := hl
  unfold f_X12_hangs at h
  refine lv_aload_n hx hb dX12_hangs_0 rfl (lv_at hl 0 rfl) ?_
  refine z_getI S hw k0 fl_X12_170 rfl dX12_hangs_1 ?_
  refine lv_if_ne (tgt := 14) hx hb dX12_hangs_4 (by decide) (fun c1 => ?_) (fun c1 => ?_)
  · have h := zif_f h c1
    refine lv_iconst (v := 0) hx hb dX12_hangs_14 (by decide) ?_
    refine lv_istore_n (lv' := [(1, .int 0), (0, .ref (za G t0))]) hx hb dX12_hangs_15 rfl hl (by decide) rfl (fun ls hl => ?_)
    refine lv_aload_n hx hb dX12_hangs_16 rfl (lv_at hl 1 rfl) ?_
    refine lv_aload_n hx hb dX12_hangs_17 rfl (lv_at hl 1 rfl) ?_
    refine z_getR S hw k0 fl_X12_75 rfl dX12_hangs_18 ?_
    refine lv_bipush (v := (-9)) hx hb dX12_hangs_21 (by decide) ?_
    obtain ⟨q2, eq2, h⟩ := Option.bind_eq_some_iff.mp h
    refine z_callV (ci := 12) (As := [.ref (za G (zr t0 35)), .int (-9)]) (rest := []) (rv := none) (M1 := q2) S hw (c_X12_findOver l hG t0 (zr t0 35) (-9) k0 (kr_12_35 hG k0) M q2 eq2) mv_X12_findOver lk_X12_197 k0 ⟨_, _, rfl⟩ (by decide) rfl rfl (Nat.le_of_ble_eq_true rfl) ⟨Nat.le_of_ble_eq_true rfl, Nat.le_of_ble_eq_true rfl⟩ hl.1 dX12_hangs_23 (fun H locs hw => ?_)
    refine lv_iconst (v := 0) hx hb dX12_hangs_26 (by decide) ?_
    refine lv_istore_n (lv' := [(2, .int 0), (1, .int 0), (0, .ref (za G t0))]) hx hb dX12_hangs_27 rfl hl (by decide) rfl (fun ls hl => ?_)
    refine w_X12_hangs_28 hG S hr hlk t0 k0 (fun v1 M h H locs ls hw hl => ?_) zN 0 0 q2 h H locs ls hw (lv_sub hl [2, 1, 0] rfl)
    refine lv_iload_n hx hb dX12_hangs_117 rfl (lv_at hl 0 rfl) ?_
    have h := Option.some.inj h
    subst h
    exact z_ret_i S hr hlk hw dX12_hangs_118
  · have h := zif_t h c1
    refine lv_aload_n hx hb dX12_hangs_7 rfl (lv_at hl 0 rfl) ?_
    refine lv_bipush (v := (-5)) hx hb dX12_hangs_8 (by decide) ?_
    obtain ⟨q19, eq19, h⟩ := Option.bind_eq_some_iff.mp h
    refine z_callV (ci := 12) (As := [.int (-5)]) (rest := []) (rv := (some (.int q19.1))) (M1 := q19.2) S hw (c_X12_refuse l hG t0 (-5) k0 M q19 eq19) mv_X12_refuse lk_X12_91 k0 ⟨_, _, rfl⟩ (by decide) rfl rfl (Nat.le_of_ble_eq_true rfl) ⟨Nat.le_of_ble_eq_true rfl, Nat.le_of_ble_eq_true rfl⟩ hl.1 dX12_hangs_10 (fun H locs hw => ?_)
    have h := Option.some.inj h
    subst h
    exact z_ret_i S hr hlk hw dX12_hangs_13
def f_X12_test_21 (t0 : Nat) (K : Int32 → ZM → Option (Int32 × ZM)) : Nat → Int32 → Int32 → Int32 → ZM → Option (Int32 × ZM)
  | 0, _, _, _, _ => none
  | n + 1, v1, v2, v3, M =>
    zlet (fun (v3 : Int32) (v4 : Int32) (M : ZM) =>
      zlet (v3 + 1) fun (x2 : Int32) =>
      f_X12_test_21 t0 K n v3 v4 x2 M) fun J69 =>
    zlet (fun (v1 : Int32) (v2 : Int32) (v3 : Int32) (s0 : Int32) (M : ZM) =>
      if v1 < 0 then (
        J69 v3 s0 M) else (
        if s0 < v2 then (
          J69 v3 s0 M) else (
          zlet (v3 + 1) fun (x5 : Int32) =>
          f_X12_test_21 t0 K n v1 v2 x5 M))) fun J54 =>
    if 32 ≤ v3 then (
      K v1 M) else (
      (f_X12_lettingOf t0 v3 M).bind fun (q7 : Int32) =>
      zlet ((2 * q7) - (M.1 t0 26)) fun (x8 : Int32) =>
      if 0 ≤ x8 then (
        J54 v1 v2 v3 x8 M) else (
        J54 v1 v2 v3 (-x8) M))

def f_X12_test (t0 : Nat) (M : ZM) : Option (Int32 × ZM) :=
  if (M.1 t0 29) = 0 then (
    (f_X12_refuse t0 (-5) M).bind fun (q10 : (Int32 × ZM)) =>
    some (q10.1, q10.2)) else (
    f_X12_test_21 t0 (fun (v1 : Int32) (M : ZM) =>
      some (v1, M)) zN (-9) 0 0 M)
set_option maxHeartbeats 4000000 in
set_option maxRecDepth 100000 in
theorem w_X12_test_21 {G : ZG} (hG : zOk G) (S : zX p (zR 2) s m args c 0 0 cX12_test 5 RX12) (hr : meth.sig.returnType = (Option.some FieldType.int)) (hlk : meth.locks = false) (t0 : Nat) (k0 : zk G t0 = 22)  {K : Int32 → ZM → Option (Int32 × ZM)} {res : (Int32 × ZM)} (hK : ∀ (v1 : Int32) (M : ZM), K v1 M = some res → ∀ (H : Heap) (locs : List Loc) (ls : Array Slot), zWd G A s H locs M → lv_has ls 5 [(1, .int v1)] → W p l e (zR 2) s m args below meth c H locs 0 0 (zQ below G A (some (.int res.1)) res.2 args s) (F0 m 80 ls [])) : ∀ (n : Nat) (v1 : Int32) (v2 : Int32) (v3 : Int32) (M : ZM), f_X12_test_21 t0 K n v1 v2 v3 M = some res → ∀ (H : Heap) (locs : List Loc) (ls : Array Slot), zWd G A s H locs M → lv_has ls 5 [(0, .ref (za G t0)), (1, .int v1), (2, .int v2), (3, .int v3)] → W p l e (zR 2) s m args below meth c H locs 0 0 (zQ below G A (some (.int res.1)) res.2 args s) (F0 m 21 ls []) := by
  have hx := S.1.1
  have hb := S.1.2.1
  have hown := S.1.2.2.2.1
  have hts := S.1.2.2.2.2
  intro n
  induction n with
  | zero =>
    intro v1 v2 v3 M h
    rw [f_X12_test_21] at h
    cases h
  | succ n ih =>
    intro v1 v2 v3 M h H locs ls hw hl
    rw [f_X12_test_21] at h
    obtain ⟨J69, hJ69, h⟩ := zlet_ex h
    have wJ69 : ∀ (v3 : Int32) (v4 : Int32) (M : ZM), J69 v3 v4 M = some res → ∀ (H : Heap) (locs : List Loc) (ls : Array Slot), zWd G A s H locs M → lv_has ls 5 [(0, .ref (za G t0)), (3, .int v3), (4, .int v4)] → W p l e (zR 2) s m args below meth c H locs 0 0 (zQ below G A (some (.int res.1)) res.2 args s) (F0 m 69 ls []) := by
      intro v3 v4 M h H locs ls hw hl
      subst hJ69
      refine lv_iload_n hx hb dX12_test_69 rfl (lv_at hl 1 rfl) ?_
      refine lv_istore_n (lv' := [(1, .int v3), (0, .ref (za G t0)), (3, .int v3), (4, .int v4)]) hx hb dX12_test_70 rfl hl (by decide) rfl (fun ls hl => ?_)
      refine lv_iload hx hb dX12_test_71 (lv_at hl 3 rfl) ?_
      refine lv_istore_n (lv' := [(2, .int v4), (1, .int v3), (0, .ref (za G t0)), (3, .int v3), (4, .int v4)]) hx hb dX12_test_73 rfl hl (by decide) rfl (fun ls hl => ?_)
      obtain ⟨x2, ex2, h⟩ := zlet_ex h
      refine lv_iinc (v := x2) (lv' := [(3, .int x2), (2, .int v4), (1, .int v3), (0, .ref (za G t0)), (4, .int v4)]) hx hb dX12_test_74 hl (k := 3) rfl (by rw [ex2]; rfl) (by decide) rfl (fun ls hl => ?_)
      refine lv_goto (tgt := 21) hx hb dX12_test_77 (by decide) ?_
      exact ih v3 v4 x2 M h H locs ls hw (lv_sub hl [3, 2, 1, 0] rfl)
    obtain ⟨J54, hJ54, h⟩ := zlet_ex h
    have wJ54 : ∀ (v1 : Int32) (v2 : Int32) (v3 : Int32) (s0 : Int32) (M : ZM), J54 v1 v2 v3 s0 M = some res → ∀ (H : Heap) (locs : List Loc) (ls : Array Slot), zWd G A s H locs M → lv_has ls 5 [(0, .ref (za G t0)), (1, .int v1), (2, .int v2), (3, .int v3)] → W p l e (zR 2) s m args below meth c H locs 0 0 (zQ below G A (some (.int res.1)) res.2 args s) (F0 m 54 ls [.int s0]) := by
      intro v1 v2 v3 s0 M h H locs ls hw hl
      subst hJ54
      refine lv_istore (lv' := [(4, .int s0), (0, .ref (za G t0)), (1, .int v1), (2, .int v2), (3, .int v3)]) hx hb dX12_test_54 hl (by decide) rfl (fun ls hl => ?_)
      refine lv_iload_n hx hb dX12_test_56 rfl (lv_at hl 2 rfl) ?_
      refine lv_if_lt (tgt := 69) hx hb dX12_test_57 (by decide) (fun c3 => ?_) (fun c3 => ?_)
      · have h := zif_t h c3
        exact wJ69 v3 s0 M h H locs ls hw (lv_sub hl [1, 4, 0] rfl)
      · have h := zif_f h c3
        refine lv_iload hx hb dX12_test_60 (lv_at hl 0 rfl) ?_
        refine lv_iload_n hx hb dX12_test_62 rfl (lv_at hl 3 rfl) ?_
        refine lv_icmp_lt (tgt := 69) hx hb dX12_test_63 (by decide) (fun c4 => ?_) (fun c4 => ?_)
        · have h := zif_t h c4
          exact wJ69 v3 s0 M h H locs ls hw (lv_sub hl [1, 4, 0] rfl)
        · have h := zif_f h c4
          refine lv_goto (tgt := 74) hx hb dX12_test_66 (by decide) ?_
          obtain ⟨x5, ex5, h⟩ := zlet_ex h
          refine lv_iinc (v := x5) (lv' := [(3, .int x5), (4, .int s0), (0, .ref (za G t0)), (1, .int v1), (2, .int v2)]) hx hb dX12_test_74 hl (k := 4) rfl (by rw [ex5]; rfl) (by decide) rfl (fun ls hl => ?_)
          refine lv_goto (tgt := 21) hx hb dX12_test_77 (by decide) ?_
          exact ih v1 v2 x5 M h H locs ls hw (lv_sub hl [2, 3, 4, 0] rfl)
    refine lv_iload_n hx hb dX12_test_21 rfl (lv_at hl 3 rfl) ?_
    refine lv_bipush (v := 32) hx hb dX12_test_22 (by decide) ?_
    refine lv_icmp_ge (tgt := 80) hx hb dX12_test_24 (by decide) (fun c6 => ?_) (fun c6 => ?_)
    · have h := zif_t h c6
      exact hK v1 M h H locs ls hw (lv_sub hl [1] rfl)
    · have h := zif_f h c6
      refine lv_iconst (v := 2) hx hb dX12_test_27 (by decide) ?_
      refine lv_aload_n hx hb dX12_test_28 rfl (lv_at hl 0 rfl) ?_
      refine lv_iload_n hx hb dX12_test_29 rfl (lv_at hl 3 rfl) ?_
      obtain ⟨q7, eq7, h⟩ := Option.bind_eq_some_iff.mp h
      refine z_callV (ci := 12) (As := [.int v3]) (rest := [.int 2]) (rv := (some (.int q7))) (M1 := M) S hw (c_X12_lettingOf l hG t0 v3 k0 M q7 eq7) mv_X12_lettingOf lk_X12_182 k0 ⟨_, _, rfl⟩ (by decide) rfl rfl (Nat.le_of_ble_eq_true rfl) ⟨Nat.le_of_ble_eq_true rfl, Nat.le_of_ble_eq_true rfl⟩ hl.1 dX12_test_30 (fun H locs hw => ?_)
      refine lv_imul hx hb dX12_test_33 ?_
      refine lv_aload_n hx hb dX12_test_34 rfl (lv_at hl 0 rfl) ?_
      refine z_getI S hw k0 fl_X12_129 rfl dX12_test_35 ?_
      refine lv_isub hx hb dX12_test_38 ?_
      obtain ⟨x8, ex8, h⟩ := zlet_ex h
      refine lv_topiE ex8 ?_
      refine lv_istore (lv' := [(4, .int x8), (0, .ref (za G t0)), (1, .int v1), (2, .int v2), (3, .int v3)]) hx hb dX12_test_39 hl (by decide) rfl (fun ls hl => ?_)
      refine lv_iload hx hb dX12_test_41 (lv_at hl 0 rfl) ?_
      refine lv_if_ge (tgt := 52) hx hb dX12_test_43 (by decide) (fun c9 => ?_) (fun c9 => ?_)
      · have h := zif_t h c9
        refine lv_iload hx hb dX12_test_52 (lv_at hl 0 rfl) ?_
        exact wJ54 v1 v2 v3 x8 M h H locs ls hw (lv_sub hl [1, 2, 3, 4] rfl)
      · have h := zif_f h c9
        refine lv_iload hx hb dX12_test_46 (lv_at hl 0 rfl) ?_
        refine lv_ineg hx hb dX12_test_48 ?_
        refine lv_goto (tgt := 54) hx hb dX12_test_49 (by decide) ?_
        exact wJ54 v1 v2 v3 (-x8) M h H locs ls hw (lv_sub hl [1, 2, 3, 4] rfl)
set_option maxHeartbeats 4000000 in
set_option maxRecDepth 100000 in
theorem c_X12_test (l : Launch) {G : ZG} (hG : zOk G) (t0 : Nat) (k0 : zk G t0 = 22) (M : ZM) (res : (Int32 × ZM)) (h : f_X12_test t0 M = some res) : zCt l yX12_test cX12_test 5 (Option.some FieldType.int) 2 G [.ref (za G t0)] M (some (.int res.1)) res.2 := by
  refine zCt.mk (by decide +kernel) (Nat.le_of_ble_eq_true rfl) ?_
  intro p e s m args below meth c A H locs ls S hr hlk hw hl
  have S : zX p (zR 2) s m args c 0 0 cX12_test 5 RX12 := S
  have hx := S.1.1
  have hb := S.1.2.1
  have hown := S.1.2.2.2.1
  have hts := S.1.2.2.2.2
  have hl : lv_has ls 5 [(0, .ref (za G t0))] := hl
  unfold f_X12_test at h
  refine lv_aload_n hx hb dX12_test_0 rfl (lv_at hl 0 rfl) ?_
  refine z_getI S hw k0 fl_X12_170 rfl dX12_test_1 ?_
  refine lv_if_ne (tgt := 14) hx hb dX12_test_4 (by decide) (fun c1 => ?_) (fun c1 => ?_)
  · have h := zif_f h c1
    refine lv_bipush (v := (-9)) hx hb dX12_test_14 (by decide) ?_
    refine lv_istore_n (lv' := [(1, .int (-9)), (0, .ref (za G t0))]) hx hb dX12_test_16 rfl hl (by decide) rfl (fun ls hl => ?_)
    refine lv_iconst (v := 0) hx hb dX12_test_17 (by decide) ?_
    refine lv_istore_n (lv' := [(2, .int 0), (1, .int (-9)), (0, .ref (za G t0))]) hx hb dX12_test_18 rfl hl (by decide) rfl (fun ls hl => ?_)
    refine lv_iconst (v := 0) hx hb dX12_test_19 (by decide) ?_
    refine lv_istore_n (lv' := [(3, .int 0), (2, .int 0), (1, .int (-9)), (0, .ref (za G t0))]) hx hb dX12_test_20 rfl hl (by decide) rfl (fun ls hl => ?_)
    refine w_X12_test_21 hG S hr hlk t0 k0 (fun v1 M h H locs ls hw hl => ?_) zN (-9) 0 0 M h H locs ls hw (lv_sub hl [3, 2, 1, 0] rfl)
    refine lv_iload_n hx hb dX12_test_80 rfl (lv_at hl 0 rfl) ?_
    have h := Option.some.inj h
    subst h
    exact z_ret_i S hr hlk hw dX12_test_81
  · have h := zif_t h c1
    refine lv_aload_n hx hb dX12_test_7 rfl (lv_at hl 0 rfl) ?_
    refine lv_bipush (v := (-5)) hx hb dX12_test_8 (by decide) ?_
    obtain ⟨q10, eq10, h⟩ := Option.bind_eq_some_iff.mp h
    refine z_callV (ci := 12) (As := [.int (-5)]) (rest := []) (rv := (some (.int q10.1))) (M1 := q10.2) S hw (c_X12_refuse l hG t0 (-5) k0 M q10 eq10) mv_X12_refuse lk_X12_91 k0 ⟨_, _, rfl⟩ (by decide) rfl rfl (Nat.le_of_ble_eq_true rfl) ⟨Nat.le_of_ble_eq_true rfl, Nat.le_of_ble_eq_true rfl⟩ hl.1 dX12_test_10 (fun H locs hw => ?_)
    have h := Option.some.inj h
    subst h
    exact z_ret_i S hr hlk hw dX12_test_13
def f_X12_isParted_13 (t0 : Nat) (v1 : Int64) (v3 : Int32) (M : ZM) (K : Option Int32) : Nat → Int32 → Option Int32
  | 0, _ => none
  | n + 1, v4 =>
    if v3 ≤ v4 then (
      K) else (
      zck (zin v3 (zn (zr t0 33))) <|
      zck (zin v4 (zn (zr t0 33))) <|
      if (lg_cmp (((M.2 (zr t0 33) v3.toNatClampNeg) ^^^ (M.2 (zr t0 33) v4.toNatClampNeg)) &&& v1) 0) = 0 then (
        some (0 : Int32)) else (
        zlet (v4 + 1) fun (x6 : Int32) =>
        f_X12_isParted_13 t0 v1 v3 M K n x6))

def f_X12_isParted_2 (t0 : Nat) (v1 : Int64) (M : ZM) (K : Option Int32) : Nat → Int32 → Option Int32
  | 0, _ => none
  | n + 1, v3 =>
    if (M.1 t0 34) ≤ v3 then (
      K) else (
      f_X12_isParted_13 t0 v1 v3 M (
        zlet (v3 + 1) fun (x7 : Int32) =>
        f_X12_isParted_2 t0 v1 M K n x7) zN 0)

def f_X12_isParted (t0 : Nat) (v1 : Int64) (M : ZM) : Option Int32 :=
  f_X12_isParted_2 t0 v1 M (
    some (1 : Int32)) zN 0
set_option maxHeartbeats 4000000 in
set_option maxRecDepth 100000 in
theorem w_X12_isParted_13 {G : ZG} (hG : zOk G) (S : zX p (zR 0) s m args c 0 0 cX12_isParted 5 RX12) (hr : meth.sig.returnType = (Option.some FieldType.boolean)) (hlk : meth.locks = false) (t0 : Nat) (v1 : Int64) (v3 : Int32) (k0 : zk G t0 = 22) (M : ZM)  {K : Option Int32} {res : Int32} (hK : K = some res → ∀ (H : Heap) (locs : List Loc) (ls : Array Slot), zWd G A s H locs M → lv_has ls 5 [(0, .ref (za G t0)), (1, .long v1), (3, .int v3)] → W p l e (zR 0) s m args below meth c H locs 0 0 (zQ below G A (some (.int res)) M args s) (F0 m 48 ls [])) : ∀ (n : Nat) (v4 : Int32), f_X12_isParted_13 t0 v1 v3 M K n v4 = some res → ∀ (H : Heap) (locs : List Loc) (ls : Array Slot), zWd G A s H locs M → lv_has ls 5 [(0, .ref (za G t0)), (1, .long v1), (3, .int v3), (4, .int v4)] → W p l e (zR 0) s m args below meth c H locs 0 0 (zQ below G A (some (.int res)) M args s) (F0 m 13 ls []) := by
  have hx := S.1.1
  have hb := S.1.2.1
  have hown := S.1.2.2.2.1
  have hts := S.1.2.2.2.2
  intro n
  induction n with
  | zero =>
    intro v4 h
    rw [f_X12_isParted_13] at h
    cases h
  | succ n ih =>
    intro v4 h H locs ls hw hl
    rw [f_X12_isParted_13] at h
    refine lv_iload hx hb dX12_isParted_13 (lv_at hl 3 rfl) ?_
    refine lv_iload_n hx hb dX12_isParted_15 rfl (lv_at hl 2 rfl) ?_
    refine lv_icmp_ge (tgt := 48) hx hb dX12_isParted_16 (by decide) (fun c2 => ?_) (fun c2 => ?_)
    · have h := zif_t h c2
      exact hK  h H locs ls hw (lv_sub hl [0, 1, 2] rfl)
    · have h := zif_f h c2
      refine lv_aload_n hx hb dX12_isParted_19 rfl (lv_at hl 0 rfl) ?_
      refine z_getR S hw k0 fl_X12_72 rfl dX12_isParted_20 ?_
      refine lv_iload_n hx hb dX12_isParted_23 rfl (lv_at hl 2 rfl) ?_
      obtain ⟨g3, h⟩ := zck_ex h
      refine z_lald S hw (kr_12_33 hG k0) g3 dX12_isParted_24 ?_
      refine lv_aload_n hx hb dX12_isParted_25 rfl (lv_at hl 0 rfl) ?_
      refine z_getR S hw k0 fl_X12_72 rfl dX12_isParted_26 ?_
      refine lv_iload hx hb dX12_isParted_29 (lv_at hl 3 rfl) ?_
      obtain ⟨g4, h⟩ := zck_ex h
      refine z_lald S hw (kr_12_33 hG k0) g4 dX12_isParted_31 ?_
      refine lv_lxor hx hb dX12_isParted_32 ?_
      refine lv_lload_n hx hb dX12_isParted_33 rfl (lv_at hl 1 rfl) ?_
      refine lv_land hx hb dX12_isParted_34 ?_
      refine lv_lconst (v := 0) hx hb dX12_isParted_35 (by decide) ?_
      refine W.lcmp hx hb dX12_isParted_36 ?_
      refine lv_if_ne (tgt := 42) hx hb dX12_isParted_37 (by decide) (fun c5 => ?_) (fun c5 => ?_)
      · have h := zif_f h c5
        obtain ⟨x6, ex6, h⟩ := zlet_ex h
        refine lv_iinc (v := x6) (lv' := [(4, .int x6), (0, .ref (za G t0)), (1, .long v1), (3, .int v3)]) hx hb dX12_isParted_42 hl (k := 3) rfl (by rw [ex6]; rfl) (by decide) rfl (fun ls hl => ?_)
        refine lv_goto (tgt := 13) hx hb dX12_isParted_45 (by decide) ?_
        exact ih x6 h H locs ls hw (lv_sub hl [1, 2, 3, 0] rfl)
      · have h := zif_t h c5
        refine lv_iconst (v := 0) hx hb dX12_isParted_40 (by decide) ?_
        have h := Option.some.inj h
        subst h
        exact z_ret_z S hr hlk (Or.inl rfl) hw dX12_isParted_41
set_option maxHeartbeats 4000000 in
set_option maxRecDepth 100000 in
theorem w_X12_isParted_2 {G : ZG} (hG : zOk G) (S : zX p (zR 0) s m args c 0 0 cX12_isParted 5 RX12) (hr : meth.sig.returnType = (Option.some FieldType.boolean)) (hlk : meth.locks = false) (t0 : Nat) (v1 : Int64) (k0 : zk G t0 = 22) (M : ZM)  {K : Option Int32} {res : Int32} (hK : K = some res → ∀ (H : Heap) (locs : List Loc) (ls : Array Slot), zWd G A s H locs M → lv_has ls 5 [] → W p l e (zR 0) s m args below meth c H locs 0 0 (zQ below G A (some (.int res)) M args s) (F0 m 54 ls [])) : ∀ (n : Nat) (v3 : Int32), f_X12_isParted_2 t0 v1 M K n v3 = some res → ∀ (H : Heap) (locs : List Loc) (ls : Array Slot), zWd G A s H locs M → lv_has ls 5 [(0, .ref (za G t0)), (1, .long v1), (3, .int v3)] → W p l e (zR 0) s m args below meth c H locs 0 0 (zQ below G A (some (.int res)) M args s) (F0 m 2 ls []) := by
  have hx := S.1.1
  have hb := S.1.2.1
  have hown := S.1.2.2.2.1
  have hts := S.1.2.2.2.2
  intro n
  induction n with
  | zero =>
    intro v3 h
    rw [f_X12_isParted_2] at h
    cases h
  | succ n ih =>
    intro v3 h H locs ls hw hl
    rw [f_X12_isParted_2] at h
    refine lv_iload_n hx hb dX12_isParted_2 rfl (lv_at hl 2 rfl) ?_
    refine lv_aload_n hx hb dX12_isParted_3 rfl (lv_at hl 0 rfl) ?_
    refine z_getI S hw k0 fl_X12_185 rfl dX12_isParted_4 ?_
    refine lv_icmp_ge (tgt := 54) hx hb dX12_isParted_7 (by decide) (fun c1 => ?_) (fun c1 => ?_)
    · have h := zif_t h c1
      exact hK  h H locs ls hw (lv_sub hl [] rfl)
    · have h := zif_f h c1
      refine lv_iconst (v := 0) hx hb dX12_isParted_10 (by decide) ?_
      refine lv_istore (lv' := [(4, .int 0), (0, .ref (za G t0)), (1, .long v1), (3, .int v3)]) hx hb dX12_isParted_11 hl (by decide) rfl (fun ls hl => ?_)
      refine w_X12_isParted_13 hG S hr hlk t0 v1 v3 k0 M (fun h H locs ls hw hl => ?_) zN 0 h H locs ls hw (lv_sub hl [1, 2, 3, 0] rfl)
      obtain ⟨x7, ex7, h⟩ := zlet_ex h
      refine lv_iinc (v := x7) (lv' := [(3, .int x7), (0, .ref (za G t0)), (1, .long v1)]) hx hb dX12_isParted_48 hl (k := 2) rfl (by rw [ex7]; rfl) (by decide) rfl (fun ls hl => ?_)
      refine lv_goto (tgt := 2) hx hb dX12_isParted_51 (by decide) ?_
      exact ih x7 h H locs ls hw (lv_sub hl [1, 2, 0] rfl)
set_option maxHeartbeats 4000000 in
set_option maxRecDepth 100000 in
theorem c_X12_isParted (l : Launch) {G : ZG} (hG : zOk G) (t0 : Nat) (v1 : Int64) (k0 : zk G t0 = 22) (M : ZM) (res : Int32) (h : f_X12_isParted t0 v1 M = some res) : zCt l yX12_isParted cX12_isParted 5 (Option.some FieldType.boolean) 0 G [.ref (za G t0), .long v1] M (some (.int res)) M := by
  refine zCt.mk (by decide +kernel) (Nat.le_of_ble_eq_true rfl) ?_
  intro p e s m args below meth c A H locs ls S hr hlk hw hl
  have S : zX p (zR 0) s m args c 0 0 cX12_isParted 5 RX12 := S
  have hx := S.1.1
  have hb := S.1.2.1
  have hown := S.1.2.2.2.1
  have hts := S.1.2.2.2.2
  have hl : lv_has ls 5 [(0, .ref (za G t0)), (1, .long v1)] := hl
  unfold f_X12_isParted at h
  refine lv_iconst (v := 0) hx hb dX12_isParted_0 (by decide) ?_
  refine lv_istore_n (lv' := [(3, .int 0), (0, .ref (za G t0)), (1, .long v1)]) hx hb dX12_isParted_1 rfl hl (by decide) rfl (fun ls hl => ?_)
  refine w_X12_isParted_2 hG S hr hlk t0 v1 k0 M (fun h H locs ls hw hl => ?_) zN 0 h H locs ls hw (lv_sub hl [1, 2, 0] rfl)
  refine lv_iconst (v := 1) hx hb dX12_isParted_54 (by decide) ?_
  have h := Option.some.inj h
  subst h
  exact z_ret_z S hr hlk (Or.inr rfl) hw dX12_isParted_55
def f_X12_isPartedBy_13 (t0 : Nat) (v1 : Int32) (v3 : Int64) (F : Nat → Int32 → Int32 → Int64 → ZM → Option Int32) (M : ZM) (K : Option Int32) : Nat → Int32 → Option Int32
  | 0, _ => none
  | n + 1, v5 =>
    if 32 ≤ v5 then (
      K) else (
      (F t0 (v1 - 1) (v5 + 1) (v3 ||| (1 <<< (v5.toInt64 &&& 63))) M).bind fun (q3 : Int32) =>
      if q3 = 0 then (
        zlet (v5 + 1) fun (x5 : Int32) =>
        f_X12_isPartedBy_13 t0 v1 v3 F M K n x5) else (
        some (1 : Int32)))

def f_X12_isPartedBy : Nat → Nat → Int32 → Int32 → Int64 → ZM → Option Int32
  | 0, _, _, _, _, _ => none
  | d + 1, t0, v1, v2, v3, M =>
  if v1 = 0 then (
    (f_X12_isParted t0 v3 M).bind fun (q6 : Int32) =>
    zck (zbo q6) <|
    some q6) else (
    f_X12_isPartedBy_13 t0 v1 v3 (f_X12_isPartedBy d) M (
      some (0 : Int32)) zN v2)
set_option maxHeartbeats 4000000 in
set_option maxRecDepth 100000 in
theorem w_X12_isPartedBy_13 {G : ZG} {d : Nat} (hG : zOk G) (S : zX p (zR (1 + (d + 1))) s m args c 0 0 cX12_isPartedBy 6 RX12) (hr : meth.sig.returnType = (Option.some FieldType.boolean)) (hlk : meth.locks = false) (t0 : Nat) (v1 : Int32) (v3 : Int64) (k0 : zk G t0 = 22) (F : Nat → Int32 → Int32 → Int64 → ZM → Option Int32) (M : ZM) (ihd : ∀ {G : ZG} (hG : zOk G) (t0 : Nat) (v1 : Int32) (v2 : Int32) (v3 : Int64) (k0 : zk G t0 = 22) (M : ZM) (res : Int32) (h : F t0 v1 v2 v3 M = some res), zCt l yX12_isPartedBy cX12_isPartedBy 6 (Option.some FieldType.boolean) (1 + d) G [.ref (za G t0), .int v1, .int v2, .long v3] M (some (.int res)) M) {K : Option Int32} {res : Int32} (hK : K = some res → ∀ (H : Heap) (locs : List Loc) (ls : Array Slot), zWd G A s H locs M → lv_has ls 6 [] → W p l e (zR (1 + (d + 1))) s m args below meth c H locs 0 0 (zQ below G A (some (.int res)) M args s) (F0 m 48 ls [])) : ∀ (n : Nat) (v5 : Int32), f_X12_isPartedBy_13 t0 v1 v3 F M K n v5 = some res → ∀ (H : Heap) (locs : List Loc) (ls : Array Slot), zWd G A s H locs M → lv_has ls 6 [(0, .ref (za G t0)), (1, .int v1), (3, .long v3), (5, .int v5)] → W p l e (zR (1 + (d + 1))) s m args below meth c H locs 0 0 (zQ below G A (some (.int res)) M args s) (F0 m 13 ls []) := by
  have hx := S.1.1
  have hb := S.1.2.1
  have hown := S.1.2.2.2.1
  have hts := S.1.2.2.2.2
  intro n
  induction n with
  | zero =>
    intro v5 h
    rw [f_X12_isPartedBy_13] at h
    cases h
  | succ n ih =>
    intro v5 h H locs ls hw hl
    rw [f_X12_isPartedBy_13] at h
    refine lv_iload hx hb dX12_isPartedBy_13 (lv_at hl 3 rfl) ?_
    refine lv_bipush (v := 32) hx hb dX12_isPartedBy_15 (by decide) ?_
    refine lv_icmp_ge (tgt := 48) hx hb dX12_isPartedBy_17 (by decide) (fun c2 => ?_) (fun c2 => ?_)
    · have h := zif_t h c2
      exact hK  h H locs ls hw (lv_sub hl [] rfl)
    · have h := zif_f h c2
      refine lv_aload_n hx hb dX12_isPartedBy_20 rfl (lv_at hl 0 rfl) ?_
      refine lv_iload_n hx hb dX12_isPartedBy_21 rfl (lv_at hl 1 rfl) ?_
      refine lv_iconst (v := 1) hx hb dX12_isPartedBy_22 (by decide) ?_
      refine lv_isub hx hb dX12_isPartedBy_23 ?_
      refine lv_iload hx hb dX12_isPartedBy_24 (lv_at hl 3 rfl) ?_
      refine lv_iconst (v := 1) hx hb dX12_isPartedBy_26 (by decide) ?_
      refine lv_iadd hx hb dX12_isPartedBy_27 ?_
      refine lv_lload_n hx hb dX12_isPartedBy_28 rfl (lv_at hl 2 rfl) ?_
      refine lv_lconst (v := 1) hx hb dX12_isPartedBy_29 (by decide) ?_
      refine lv_iload hx hb dX12_isPartedBy_30 (lv_at hl 3 rfl) ?_
      refine lv_lshl (v := (1 <<< (v5.toInt64 &&& 63))) hx hb dX12_isPartedBy_32 rfl ?_
      refine lv_lor hx hb dX12_isPartedBy_33 ?_
      obtain ⟨q3, eq3, h⟩ := Option.bind_eq_some_iff.mp h
      refine z_callV (ci := 12) (As := [.int (v1 - 1), .int (v5 + 1), .long (v3 ||| (1 <<< (v5.toInt64 &&& 63)))]) (rest := []) (rv := (some (.int q3))) (M1 := M) S hw (ihd hG t0 (v1 - 1) (v5 + 1) (v3 ||| (1 <<< (v5.toInt64 &&& 63))) k0 M q3 eq3) mv_X12_isPartedBy lk_X12_205 k0 ⟨_, _, rfl⟩ (by decide) rfl rfl (Nat.le_of_ble_eq_true rfl) ⟨by show _ ≤ 1 + (d + 1); omega, by show _ ≤ 60 * (1 + (d + 1)); omega⟩ hl.1 dX12_isPartedBy_34 (fun H locs hw => ?_)
      refine lv_if_eq (tgt := 42) hx hb dX12_isPartedBy_37 (by decide) (fun c4 => ?_) (fun c4 => ?_)
      · have h := zif_t h c4
        obtain ⟨x5, ex5, h⟩ := zlet_ex h
        refine lv_iinc (v := x5) (lv' := [(5, .int x5), (0, .ref (za G t0)), (1, .int v1), (3, .long v3)]) hx hb dX12_isPartedBy_42 hl (k := 3) rfl (by rw [ex5]; rfl) (by decide) rfl (fun ls hl => ?_)
        refine lv_goto (tgt := 13) hx hb dX12_isPartedBy_45 (by decide) ?_
        exact ih x5 h H locs ls hw (lv_sub hl [1, 2, 3, 0] rfl)
      · have h := zif_f h c4
        refine lv_iconst (v := 1) hx hb dX12_isPartedBy_40 (by decide) ?_
        have h := Option.some.inj h
        subst h
        exact z_ret_z S hr hlk (Or.inr rfl) hw dX12_isPartedBy_41
set_option maxHeartbeats 4000000 in
set_option maxRecDepth 100000 in
theorem c_X12_isPartedBy (l : Launch) : ∀ (d : Nat) {G : ZG} (hG : zOk G) (t0 : Nat) (v1 : Int32) (v2 : Int32) (v3 : Int64) (k0 : zk G t0 = 22) (M : ZM) (res : Int32) (h : f_X12_isPartedBy d t0 v1 v2 v3 M = some res), zCt l yX12_isPartedBy cX12_isPartedBy 6 (Option.some FieldType.boolean) (1 + d) G [.ref (za G t0), .int v1, .int v2, .long v3] M (some (.int res)) M := by
  intro d
  induction d with
  | zero =>
    intro G hG t0 v1 v2 v3 k0 M res h
    rw [f_X12_isPartedBy] at h
    cases h
  | succ d ihd =>
    intro G hG t0 v1 v2 v3 k0 M res h
    refine zCt.mk (by decide +kernel) (Nat.le_of_ble_eq_true rfl) ?_
    intro p e s m args below meth c A H locs ls S hr hlk hw hl
    have S : zX p (zR (1 + (d + 1))) s m args c 0 0 cX12_isPartedBy 6 RX12 := S
    have hx := S.1.1
    have hb := S.1.2.1
    have hown := S.1.2.2.2.1
    have hts := S.1.2.2.2.2
    have hl : lv_has ls 6 [(0, .ref (za G t0)), (1, .int v1), (2, .int v2), (3, .long v3)] := hl
    rw [f_X12_isPartedBy] at h
    refine lv_iload_n hx hb dX12_isPartedBy_0 rfl (lv_at hl 1 rfl) ?_
    refine lv_if_ne (tgt := 10) hx hb dX12_isPartedBy_1 (by decide) (fun c1 => ?_) (fun c1 => ?_)
    · have h := zif_f h c1
      refine lv_iload_n hx hb dX12_isPartedBy_10 rfl (lv_at hl 2 rfl) ?_
      refine lv_istore (lv' := [(5, .int v2), (0, .ref (za G t0)), (1, .int v1), (2, .int v2), (3, .long v3)]) hx hb dX12_isPartedBy_11 hl (by decide) rfl (fun ls hl => ?_)
      refine w_X12_isPartedBy_13 hG S hr hlk t0 v1 v3 k0 (f_X12_isPartedBy d) M ihd (fun h H locs ls hw hl => ?_) zN v2 h H locs ls hw (lv_sub hl [1, 2, 4, 0] rfl)
      refine lv_iconst (v := 0) hx hb dX12_isPartedBy_48 (by decide) ?_
      have h := Option.some.inj h
      subst h
      exact z_ret_z S hr hlk (Or.inl rfl) hw dX12_isPartedBy_49
    · have h := zif_t h c1
      refine lv_aload_n hx hb dX12_isPartedBy_4 rfl (lv_at hl 0 rfl) ?_
      refine lv_lload_n hx hb dX12_isPartedBy_5 rfl (lv_at hl 3 rfl) ?_
      obtain ⟨q6, eq6, h⟩ := Option.bind_eq_some_iff.mp h
      refine z_callV (ci := 12) (As := [.long v3]) (rest := []) (rv := (some (.int q6))) (M1 := M) S hw (c_X12_isParted l hG t0 v3 k0 M q6 eq6) mv_X12_isParted lk_X12_201 k0 ⟨_, _, rfl⟩ (by decide) rfl rfl (Nat.le_of_ble_eq_true rfl) ⟨by show _ ≤ 1 + (d + 1); omega, by show _ ≤ 60 * (1 + (d + 1)); omega⟩ hl.1 dX12_isPartedBy_6 (fun H locs hw => ?_)
      obtain ⟨g7, h⟩ := zck_ex h
      have h := Option.some.inj h
      subst h
      exact z_ret_z S hr hlk (zbo_of g7) hw dX12_isPartedBy_9
def f_X12_fewest_32 (t0 : Nat) (K : ZM → Option (Int32 × ZM)) : Nat → Int32 → ZM → Option (Int32 × ZM)
  | 0, _, _ => none
  | n + 1, v1, M =>
    if 4 ≤ v1 then (
      K M) else (
      (f_X12_isPartedBy zD t0 v1 0 0 M).bind fun (q5 : Int32) =>
      if q5 = 0 then (
        zlet (v1 + 1) fun (x7 : Int32) =>
        f_X12_fewest_32 t0 K n x7 M) else (
        some (v1, M)))

def f_X12_fewest (t0 : Nat) (M : ZM) : Option (Int32 × ZM) :=
  if (M.1 t0 29) = 0 then (
    (f_X12_refuse t0 (-5) M).bind fun (q8 : (Int32 × ZM)) =>
    some (q8.1, q8.2)) else (
    (f_X12_findUnlike t0 M).bind fun (q2 : ZM) =>
    if (q2.1 t0 34) ≤ 8 then (
      f_X12_fewest_32 t0 (fun (M : ZM) =>
        some (((-9) : Int32), M)) zN 0 q2) else (
      some (((-9) : Int32), q2)))
set_option maxHeartbeats 4000000 in
set_option maxRecDepth 100000 in
theorem w_X12_fewest_32 {G : ZG} (hG : zOk G) (S : zX p (zR 42) s m args c 0 0 cX12_fewest 2 RX12) (hr : meth.sig.returnType = (Option.some FieldType.int)) (hlk : meth.locks = false) (t0 : Nat) (k0 : zk G t0 = 22)  {K : ZM → Option (Int32 × ZM)} {res : (Int32 × ZM)} (hK : ∀  (M : ZM), K M = some res → ∀ (H : Heap) (locs : List Loc) (ls : Array Slot), zWd G A s H locs M → lv_has ls 2 [] → W p l e (zR 42) s m args below meth c H locs 0 0 (zQ below G A (some (.int res.1)) res.2 args s) (F0 m 55 ls [])) : ∀ (n : Nat) (v1 : Int32) (M : ZM), f_X12_fewest_32 t0 K n v1 M = some res → ∀ (H : Heap) (locs : List Loc) (ls : Array Slot), zWd G A s H locs M → lv_has ls 2 [(0, .ref (za G t0)), (1, .int v1)] → W p l e (zR 42) s m args below meth c H locs 0 0 (zQ below G A (some (.int res.1)) res.2 args s) (F0 m 32 ls []) := by
  have hx := S.1.1
  have hb := S.1.2.1
  have hown := S.1.2.2.2.1
  have hts := S.1.2.2.2.2
  intro n
  induction n with
  | zero =>
    intro v1 M h
    rw [f_X12_fewest_32] at h
    cases h
  | succ n ih =>
    intro v1 M h H locs ls hw hl
    rw [f_X12_fewest_32] at h
    refine lv_iload_n hx hb dX12_fewest_32 rfl (lv_at hl 1 rfl) ?_
    refine lv_iconst (v := 4) hx hb dX12_fewest_33 (by decide) ?_
    refine lv_icmp_ge (tgt := 55) hx hb dX12_fewest_34 (by decide) (fun c4 => ?_) (fun c4 => ?_)
    · have h := zif_t h c4
      exact hK M h H locs ls hw (lv_sub hl [] rfl)
    · have h := zif_f h c4
      refine lv_aload_n hx hb dX12_fewest_37 rfl (lv_at hl 0 rfl) ?_
      refine lv_iload_n hx hb dX12_fewest_38 rfl (lv_at hl 1 rfl) ?_
      refine lv_iconst (v := 0) hx hb dX12_fewest_39 (by decide) ?_
      refine lv_lconst (v := 0) hx hb dX12_fewest_40 (by decide) ?_
      obtain ⟨q5, eq5, h⟩ := Option.bind_eq_some_iff.mp h
      refine z_callV (ci := 12) (As := [.int v1, .int 0, .long 0]) (rest := []) (rv := (some (.int q5))) (M1 := M) S hw (c_X12_isPartedBy l zD hG t0 v1 0 0 k0 M q5 eq5) mv_X12_isPartedBy lk_X12_205 k0 ⟨_, _, rfl⟩ (by decide) rfl rfl (Nat.le_of_ble_eq_true rfl) ⟨Nat.le_of_ble_eq_true rfl, Nat.le_of_ble_eq_true rfl⟩ hl.1 dX12_fewest_41 (fun H locs hw => ?_)
      refine lv_if_eq (tgt := 49) hx hb dX12_fewest_44 (by decide) (fun c6 => ?_) (fun c6 => ?_)
      · have h := zif_t h c6
        obtain ⟨x7, ex7, h⟩ := zlet_ex h
        refine lv_iinc (v := x7) (lv' := [(1, .int x7), (0, .ref (za G t0))]) hx hb dX12_fewest_49 hl (k := 1) rfl (by rw [ex7]; rfl) (by decide) rfl (fun ls hl => ?_)
        refine lv_goto (tgt := 32) hx hb dX12_fewest_52 (by decide) ?_
        exact ih x7 M h H locs ls hw (lv_sub hl [1, 0] rfl)
      · have h := zif_f h c6
        refine lv_iload_n hx hb dX12_fewest_47 rfl (lv_at hl 1 rfl) ?_
        have h := Option.some.inj h
        subst h
        exact z_ret_i S hr hlk hw dX12_fewest_48
set_option maxHeartbeats 4000000 in
set_option maxRecDepth 100000 in
theorem c_X12_fewest (l : Launch) {G : ZG} (hG : zOk G) (t0 : Nat) (k0 : zk G t0 = 22) (M : ZM) (res : (Int32 × ZM)) (h : f_X12_fewest t0 M = some res) : zCt l yX12_fewest cX12_fewest 2 (Option.some FieldType.int) 42 G [.ref (za G t0)] M (some (.int res.1)) res.2 := by
  refine zCt.mk (by decide +kernel) (Nat.le_of_ble_eq_true rfl) ?_
  intro p e s m args below meth c A H locs ls S hr hlk hw hl
  have S : zX p (zR 42) s m args c 0 0 cX12_fewest 2 RX12 := S
  have hx := S.1.1
  have hb := S.1.2.1
  have hown := S.1.2.2.2.1
  have hts := S.1.2.2.2.2
  have hl : lv_has ls 2 [(0, .ref (za G t0))] := hl
  unfold f_X12_fewest at h
  refine lv_aload_n hx hb dX12_fewest_0 rfl (lv_at hl 0 rfl) ?_
  refine z_getI S hw k0 fl_X12_170 rfl dX12_fewest_1 ?_
  refine lv_if_ne (tgt := 14) hx hb dX12_fewest_4 (by decide) (fun c1 => ?_) (fun c1 => ?_)
  · have h := zif_f h c1
    refine lv_aload_n hx hb dX12_fewest_14 rfl (lv_at hl 0 rfl) ?_
    obtain ⟨q2, eq2, h⟩ := Option.bind_eq_some_iff.mp h
    refine z_callV (ci := 12) (As := []) (rest := []) (rv := none) (M1 := q2) S hw (c_X12_findUnlike l hG t0 k0 M q2 eq2) mv_X12_findUnlike lk_X12_188 k0 ⟨_, _, rfl⟩ (by decide) rfl rfl (Nat.le_of_ble_eq_true rfl) ⟨Nat.le_of_ble_eq_true rfl, Nat.le_of_ble_eq_true rfl⟩ hl.1 dX12_fewest_15 (fun H locs hw => ?_)
    refine lv_aload_n hx hb dX12_fewest_18 rfl (lv_at hl 0 rfl) ?_
    refine z_getI S hw k0 fl_X12_185 rfl dX12_fewest_19 ?_
    refine lv_bipush (v := 8) hx hb dX12_fewest_22 (by decide) ?_
    refine lv_icmp_le (tgt := 30) hx hb dX12_fewest_24 (by decide) (fun c3 => ?_) (fun c3 => ?_)
    · have h := zif_t h c3
      refine lv_iconst (v := 0) hx hb dX12_fewest_30 (by decide) ?_
      refine lv_istore_n (lv' := [(1, .int 0), (0, .ref (za G t0))]) hx hb dX12_fewest_31 rfl hl (by decide) rfl (fun ls hl => ?_)
      refine w_X12_fewest_32 hG S hr hlk t0 k0 (fun M h H locs ls hw hl => ?_) zN 0 q2 h H locs ls hw (lv_sub hl [1, 0] rfl)
      refine lv_bipush (v := (-9)) hx hb dX12_fewest_55 (by decide) ?_
      have h := Option.some.inj h
      subst h
      exact z_ret_i S hr hlk hw dX12_fewest_57
    · have h := zif_f h c3
      refine lv_bipush (v := (-9)) hx hb dX12_fewest_27 (by decide) ?_
      have h := Option.some.inj h
      subst h
      exact z_ret_i S hr hlk hw dX12_fewest_29
  · have h := zif_t h c1
    refine lv_aload_n hx hb dX12_fewest_7 rfl (lv_at hl 0 rfl) ?_
    refine lv_bipush (v := (-5)) hx hb dX12_fewest_8 (by decide) ?_
    obtain ⟨q8, eq8, h⟩ := Option.bind_eq_some_iff.mp h
    refine z_callV (ci := 12) (As := [.int (-5)]) (rest := []) (rv := (some (.int q8.1))) (M1 := q8.2) S hw (c_X12_refuse l hG t0 (-5) k0 M q8 eq8) mv_X12_refuse lk_X12_91 k0 ⟨_, _, rfl⟩ (by decide) rfl rfl (Nat.le_of_ble_eq_true rfl) ⟨Nat.le_of_ble_eq_true rfl, Nat.le_of_ble_eq_true rfl⟩ hl.1 dX12_fewest_10 (fun H locs hw => ?_)
    have h := Option.some.inj h
    subst h
    exact z_ret_i S hr hlk hw dX12_fewest_13
def f_X12_bracket_44 (t0 : Nat) (v1 : Int32) (v2 : Int32) (K : Int32 → Int32 → ZM → Option (Int32 × ZM)) : Nat → Int32 → Int32 → Int32 → Int32 → ZM → Option (Int32 × ZM)
  | 0, _, _, _, _, _ => none
  | n + 1, v3, v4, v5, v6, M =>
    zlet (fun (v3 : Int32) (v4 : Int32) (v6 : Int32) (s0 : Int32) (M : ZM) =>
      if v6 = v2 then (
        zck (zin v3 (zn (zr t0 38))) <|
        zlet (zi M (zr t0 38) v3.toNatClampNeg 41) fun (M11 : ZM) =>
        zlet (v3 + 1) fun (x12 : Int32) =>
        zlet (v4 + (-1)) fun (x13 : Int32) =>
        zlet (v6 + 1) fun (x14 : Int32) =>
        f_X12_bracket_44 t0 v1 v2 K n x12 x13 s0 x14 M11) else (
        zlet (v6 + 1) fun (x9 : Int32) =>
        f_X12_bracket_44 t0 v1 v2 K n v3 v4 s0 x9 M)) fun J157 =>
    zlet (fun (v3 : Int32) (v5 : Int32) (v6 : Int32) (s0 : Int32) (s1 : Int32) (M : ZM) =>
      zlet (s0 + s1) fun (x15 : Int32) =>
      if x15 ≤ v5 then (
        J157 v3 x15 v6 v5 M) else (
        J157 v3 x15 v6 x15 M)) fun J140 =>
    zlet (fun (v3 : Int32) (v4 : Int32) (v5 : Int32) (v6 : Int32) (M : ZM) =>
      zck (zin v6 (zn (zr t0 1))) <|
      zck (zin v3 (zn (zr t0 38))) <|
      zlet (zi M (zr t0 38) v3.toNatClampNeg (M.1 (zr t0 1) v6.toNatClampNeg)) fun (M19 : ZM) =>
      zlet (v3 + 1) fun (x20 : Int32) =>
      zck (zin v6 (zn (zr t0 1))) <|
      if (M19.1 (zr t0 1) v6.toNatClampNeg) = 40 then (
        J140 x20 v5 v6 v4 1 M19) else (
        zck (zin v6 (zn (zr t0 1))) <|
        if (M19.1 (zr t0 1) v6.toNatClampNeg) = 41 then (
          J140 x20 v5 v6 v4 (-1) M19) else (
          J140 x20 v5 v6 v4 0 M19))) fun J89 =>
    zlet (fun (v3 : Int32) (v4 : Int32) (v6 : Int32) (s0 : Int32) (M : ZM) =>
      J89 v3 v4 s0 v6 M) fun J87 =>
    if (M.1 t0 10) ≤ v6 then (
      K v3 v5 M) else (
      if v6 = v1 then (
        zck (zin v3 (zn (zr t0 38))) <|
        zlet (zi M (zr t0 38) v3.toNatClampNeg 40) fun (M28 : ZM) =>
        zlet (v3 + 1) fun (x29 : Int32) =>
        zlet (v4 + 1) fun (x30 : Int32) =>
        if x30 ≤ v5 then (
          J87 x29 x30 v6 v5 M28) else (
          J87 x29 x30 v6 x30 M28)) else (
        J89 v3 v4 v5 v6 M))

def f_X12_bracket_225 (t0 : Nat) (v3 : Int32) (K : ZM → Option (Int32 × ZM)) : Nat → Int32 → ZM → Option (Int32 × ZM)
  | 0, _, _ => none
  | n + 1, v6, M =>
    if v3 ≤ v6 then (
      K M) else (
      zck (zin v6 (zn (zr t0 38))) <|
      zck (zin v6 (zn (zr t0 1))) <|
      zlet (zi M (zr t0 1) v6.toNatClampNeg (M.1 (zr t0 38) v6.toNatClampNeg)) fun (M40 : ZM) =>
      zlet (v6 + 1) fun (x41 : Int32) =>
      f_X12_bracket_225 t0 v3 K n x41 M40)

def f_X12_bracket (t0 : Nat) (v1 : Int32) (v2 : Int32) (M : ZM) : Option (Int32 × ZM) :=
  zlet (f_X12_isIn v1 (M.1 t0 10) M) fun (q1 : Int32) =>
  if q1 = 0 then (
    (f_X12_refuse t0 (-1) M).bind fun (q3 : (Int32 × ZM)) =>
    some (q3.1, q3.2)) else (
    zlet (f_X12_isIn v2 (M.1 t0 10) M) fun (q4 : Int32) =>
    if q4 = 0 then (
      (f_X12_refuse t0 (-1) M).bind fun (q6 : (Int32 × ZM)) =>
      some (q6.1, q6.2)) else (
      if v1 ≤ v2 then (
        f_X12_bracket_44 t0 v1 v2 (fun (v3 : Int32) (v5 : Int32) (M : ZM) =>
          if 21 < v3 then (
            (f_X12_refuse t0 (-6) M).bind fun (q33 : (Int32 × ZM)) =>
            some (q33.1, q33.2)) else (
            if v5 ≤ 4 then (
              (f_X12_fault (zr t0 38) v3 M).bind fun (q35 : Int32) =>
              if q35 < 0 then (
                f_X12_bracket_225 t0 v3 (fun (M : ZM) =>
                  zlet (zi M t0 10 v3) fun (M42 : ZM) =>
                  (f_X12_finds t0 M42).bind fun (q43 : ZM) =>
                  some ((q43.1 t0 10), q43)) zN 0 M) else (
                (f_X12_refuse t0 (-3) M).bind fun (q44 : (Int32 × ZM)) =>
                some (q44.1, q44.2))) else (
              (f_X12_refuse t0 (-6) M).bind fun (q45 : (Int32 × ZM)) =>
              some (q45.1, q45.2)))) zN 0 0 0 0 M) else (
        (f_X12_refuse t0 (-1) M).bind fun (q46 : (Int32 × ZM)) =>
        some (q46.1, q46.2))))
set_option maxHeartbeats 4000000 in
set_option maxRecDepth 100000 in
theorem w_X12_bracket_44 {G : ZG} (hG : zOk G) (S : zX p (zR 46) s m args c 0 0 cX12_bracket 7 RX12) (hr : meth.sig.returnType = (Option.some FieldType.int)) (hlk : meth.locks = false) (t0 : Nat) (v1 : Int32) (v2 : Int32) (k0 : zk G t0 = 22)  {K : Int32 → Int32 → ZM → Option (Int32 × ZM)} {res : (Int32 × ZM)} (hK : ∀ (v3 : Int32) (v5 : Int32) (M : ZM), K v3 v5 M = some res → ∀ (H : Heap) (locs : List Loc) (ls : Array Slot), zWd G A s H locs M → lv_has ls 7 [(0, .ref (za G t0)), (3, .int v3), (5, .int v5)] → W p l e (zR 46) s m args below meth c H locs 0 0 (zQ below G A (some (.int res.1)) res.2 args s) (F0 m 185 ls [])) : ∀ (n : Nat) (v3 : Int32) (v4 : Int32) (v5 : Int32) (v6 : Int32) (M : ZM), f_X12_bracket_44 t0 v1 v2 K n v3 v4 v5 v6 M = some res → ∀ (H : Heap) (locs : List Loc) (ls : Array Slot), zWd G A s H locs M → lv_has ls 7 [(0, .ref (za G t0)), (1, .int v1), (2, .int v2), (3, .int v3), (4, .int v4), (5, .int v5), (6, .int v6)] → W p l e (zR 46) s m args below meth c H locs 0 0 (zQ below G A (some (.int res.1)) res.2 args s) (F0 m 44 ls []) := by
  have hx := S.1.1
  have hb := S.1.2.1
  have hown := S.1.2.2.2.1
  have hts := S.1.2.2.2.2
  intro n
  induction n with
  | zero =>
    intro v3 v4 v5 v6 M h
    rw [f_X12_bracket_44] at h
    cases h
  | succ n ih =>
    intro v3 v4 v5 v6 M h H locs ls hw hl
    rw [f_X12_bracket_44] at h
    obtain ⟨J157, hJ157, h⟩ := zlet_ex h
    have wJ157 : ∀ (v3 : Int32) (v4 : Int32) (v6 : Int32) (s0 : Int32) (M : ZM), J157 v3 v4 v6 s0 M = some res → ∀ (H : Heap) (locs : List Loc) (ls : Array Slot), zWd G A s H locs M → lv_has ls 7 [(0, .ref (za G t0)), (1, .int v1), (2, .int v2), (3, .int v3), (4, .int v4), (6, .int v6)] → W p l e (zR 46) s m args below meth c H locs 0 0 (zQ below G A (some (.int res.1)) res.2 args s) (F0 m 157 ls [.int s0]) := by
      intro v3 v4 v6 s0 M h H locs ls hw hl
      subst hJ157
      refine lv_istore (lv' := [(5, .int s0), (0, .ref (za G t0)), (1, .int v1), (2, .int v2), (3, .int v3), (4, .int v4), (6, .int v6)]) hx hb dX12_bracket_157 hl (by decide) rfl (fun ls hl => ?_)
      refine lv_iload hx hb dX12_bracket_159 (lv_at hl 6 rfl) ?_
      refine lv_iload_n hx hb dX12_bracket_161 rfl (lv_at hl 3 rfl) ?_
      refine lv_icmp_ne (tgt := 179) hx hb dX12_bracket_162 (by decide) (fun c8 => ?_) (fun c8 => ?_)
      · have h := zif_f h c8
        obtain ⟨x9, ex9, h⟩ := zlet_ex h
        refine lv_iinc (v := x9) (lv' := [(6, .int x9), (5, .int s0), (0, .ref (za G t0)), (1, .int v1), (2, .int v2), (3, .int v3), (4, .int v4)]) hx hb dX12_bracket_179 hl (k := 6) rfl (by rw [ex9]; rfl) (by decide) rfl (fun ls hl => ?_)
        refine lv_goto (tgt := 44) hx hb dX12_bracket_182 (by decide) ?_
        exact ih v3 v4 s0 x9 M h H locs ls hw (lv_sub hl [2, 3, 4, 5, 6, 1, 0] rfl)
      · have h := zif_t h c8
        refine lv_aload_n hx hb dX12_bracket_165 rfl (lv_at hl 1 rfl) ?_
        refine z_getR S hw k0 fl_X12_82 rfl dX12_bracket_166 ?_
        refine lv_iload_n hx hb dX12_bracket_169 rfl (lv_at hl 4 rfl) ?_
        refine lv_bipush (v := 41) hx hb dX12_bracket_170 (by decide) ?_
        obtain ⟨g10, h⟩ := zck_ex h
        obtain ⟨M11, eM11, h⟩ := zlet_ex h
        refine z_iast S hw eM11 (kr_12_38 hG k0) g10 dX12_bracket_172 (fun H locs hw => ?_)
        obtain ⟨x12, ex12, h⟩ := zlet_ex h
        refine lv_iinc (v := x12) (lv' := [(3, .int x12), (5, .int s0), (0, .ref (za G t0)), (1, .int v1), (2, .int v2), (4, .int v4), (6, .int v6)]) hx hb dX12_bracket_173 hl (k := 4) rfl (by rw [ex12]; rfl) (by decide) rfl (fun ls hl => ?_)
        obtain ⟨x13, ex13, h⟩ := zlet_ex h
        refine lv_iinc (v := x13) (lv' := [(4, .int x13), (3, .int x12), (5, .int s0), (0, .ref (za G t0)), (1, .int v1), (2, .int v2), (6, .int v6)]) hx hb dX12_bracket_176 hl (k := 5) rfl (by rw [ex13]; rfl) (by decide) rfl (fun ls hl => ?_)
        obtain ⟨x14, ex14, h⟩ := zlet_ex h
        refine lv_iinc (v := x14) (lv' := [(6, .int x14), (4, .int x13), (3, .int x12), (5, .int s0), (0, .ref (za G t0)), (1, .int v1), (2, .int v2)]) hx hb dX12_bracket_179 hl (k := 6) rfl (by rw [ex14]; rfl) (by decide) rfl (fun ls hl => ?_)
        refine lv_goto (tgt := 44) hx hb dX12_bracket_182 (by decide) ?_
        exact ih x12 x13 s0 x14 M11 h H locs ls hw (lv_sub hl [4, 5, 6, 2, 1, 3, 0] rfl)
    obtain ⟨J140, hJ140, h⟩ := zlet_ex h
    have wJ140 : ∀ (v3 : Int32) (v5 : Int32) (v6 : Int32) (s0 : Int32) (s1 : Int32) (M : ZM), J140 v3 v5 v6 s0 s1 M = some res → ∀ (H : Heap) (locs : List Loc) (ls : Array Slot), zWd G A s H locs M → lv_has ls 7 [(0, .ref (za G t0)), (1, .int v1), (2, .int v2), (3, .int v3), (5, .int v5), (6, .int v6)] → W p l e (zR 46) s m args below meth c H locs 0 0 (zQ below G A (some (.int res.1)) res.2 args s) (F0 m 140 ls [.int s1, .int s0]) := by
      intro v3 v5 v6 s0 s1 M h H locs ls hw hl
      subst hJ140
      refine lv_iadd hx hb dX12_bracket_140 ?_
      obtain ⟨x15, ex15, h⟩ := zlet_ex h
      refine lv_topiE ex15 ?_
      refine lv_istore (lv' := [(4, .int x15), (0, .ref (za G t0)), (1, .int v1), (2, .int v2), (3, .int v3), (5, .int v5), (6, .int v6)]) hx hb dX12_bracket_141 hl (by decide) rfl (fun ls hl => ?_)
      refine lv_iload hx hb dX12_bracket_143 (lv_at hl 0 rfl) ?_
      refine lv_iload hx hb dX12_bracket_145 (lv_at hl 5 rfl) ?_
      refine lv_icmp_le (tgt := 155) hx hb dX12_bracket_147 (by decide) (fun c16 => ?_) (fun c16 => ?_)
      · have h := zif_t h c16
        refine lv_iload hx hb dX12_bracket_155 (lv_at hl 5 rfl) ?_
        exact wJ157 v3 x15 v6 v5 M h H locs ls hw (lv_sub hl [1, 2, 3, 4, 0, 6] rfl)
      · have h := zif_f h c16
        refine lv_iload hx hb dX12_bracket_150 (lv_at hl 0 rfl) ?_
        refine lv_goto (tgt := 157) hx hb dX12_bracket_152 (by decide) ?_
        exact wJ157 v3 x15 v6 x15 M h H locs ls hw (lv_sub hl [1, 2, 3, 4, 0, 6] rfl)
    obtain ⟨J89, hJ89, h⟩ := zlet_ex h
    have wJ89 : ∀ (v3 : Int32) (v4 : Int32) (v5 : Int32) (v6 : Int32) (M : ZM), J89 v3 v4 v5 v6 M = some res → ∀ (H : Heap) (locs : List Loc) (ls : Array Slot), zWd G A s H locs M → lv_has ls 7 [(0, .ref (za G t0)), (1, .int v1), (2, .int v2), (3, .int v3), (4, .int v4), (5, .int v5), (6, .int v6)] → W p l e (zR 46) s m args below meth c H locs 0 0 (zQ below G A (some (.int res.1)) res.2 args s) (F0 m 89 ls []) := by
      intro v3 v4 v5 v6 M h H locs ls hw hl
      subst hJ89
      refine lv_aload_n hx hb dX12_bracket_89 rfl (lv_at hl 0 rfl) ?_
      refine z_getR S hw k0 fl_X12_82 rfl dX12_bracket_90 ?_
      refine lv_iload_n hx hb dX12_bracket_93 rfl (lv_at hl 3 rfl) ?_
      refine lv_aload_n hx hb dX12_bracket_94 rfl (lv_at hl 0 rfl) ?_
      refine z_getR S hw k0 fl_X12_13 rfl dX12_bracket_95 ?_
      refine lv_iload hx hb dX12_bracket_98 (lv_at hl 6 rfl) ?_
      obtain ⟨g17, h⟩ := zck_ex h
      refine z_iald S hw (kr_12_1 hG k0) g17 dX12_bracket_100 ?_
      obtain ⟨g18, h⟩ := zck_ex h
      obtain ⟨M19, eM19, h⟩ := zlet_ex h
      refine z_iast S hw eM19 (kr_12_38 hG k0) g18 dX12_bracket_101 (fun H locs hw => ?_)
      obtain ⟨x20, ex20, h⟩ := zlet_ex h
      refine lv_iinc (v := x20) (lv' := [(3, .int x20), (0, .ref (za G t0)), (1, .int v1), (2, .int v2), (4, .int v4), (5, .int v5), (6, .int v6)]) hx hb dX12_bracket_102 hl (k := 3) rfl (by rw [ex20]; rfl) (by decide) rfl (fun ls hl => ?_)
      refine lv_iload hx hb dX12_bracket_105 (lv_at hl 4 rfl) ?_
      refine lv_aload_n hx hb dX12_bracket_107 rfl (lv_at hl 1 rfl) ?_
      refine z_getR S hw k0 fl_X12_13 rfl dX12_bracket_108 ?_
      refine lv_iload hx hb dX12_bracket_111 (lv_at hl 6 rfl) ?_
      obtain ⟨g21, h⟩ := zck_ex h
      refine z_iald S hw (kr_12_1 hG k0) g21 dX12_bracket_113 ?_
      refine lv_bipush (v := 40) hx hb dX12_bracket_114 (by decide) ?_
      refine lv_icmp_ne (tgt := 123) hx hb dX12_bracket_116 (by decide) (fun c22 => ?_) (fun c22 => ?_)
      · have h := zif_f h c22
        refine lv_aload_n hx hb dX12_bracket_123 rfl (lv_at hl 1 rfl) ?_
        refine z_getR S hw k0 fl_X12_13 rfl dX12_bracket_124 ?_
        refine lv_iload hx hb dX12_bracket_127 (lv_at hl 6 rfl) ?_
        obtain ⟨g23, h⟩ := zck_ex h
        refine z_iald S hw (kr_12_1 hG k0) g23 dX12_bracket_129 ?_
        refine lv_bipush (v := 41) hx hb dX12_bracket_130 (by decide) ?_
        refine lv_icmp_ne (tgt := 139) hx hb dX12_bracket_132 (by decide) (fun c24 => ?_) (fun c24 => ?_)
        · have h := zif_f h c24
          refine lv_iconst (v := 0) hx hb dX12_bracket_139 (by decide) ?_
          exact wJ140 x20 v5 v6 v4 0 M19 h H locs ls hw (lv_sub hl [1, 2, 3, 0, 5, 6] rfl)
        · have h := zif_t h c24
          refine lv_iconst (v := (-1)) hx hb dX12_bracket_135 (by decide) ?_
          refine lv_goto (tgt := 140) hx hb dX12_bracket_136 (by decide) ?_
          exact wJ140 x20 v5 v6 v4 (-1) M19 h H locs ls hw (lv_sub hl [1, 2, 3, 0, 5, 6] rfl)
      · have h := zif_t h c22
        refine lv_iconst (v := 1) hx hb dX12_bracket_119 (by decide) ?_
        refine lv_goto (tgt := 140) hx hb dX12_bracket_120 (by decide) ?_
        exact wJ140 x20 v5 v6 v4 1 M19 h H locs ls hw (lv_sub hl [1, 2, 3, 0, 5, 6] rfl)
    obtain ⟨J87, hJ87, h⟩ := zlet_ex h
    have wJ87 : ∀ (v3 : Int32) (v4 : Int32) (v6 : Int32) (s0 : Int32) (M : ZM), J87 v3 v4 v6 s0 M = some res → ∀ (H : Heap) (locs : List Loc) (ls : Array Slot), zWd G A s H locs M → lv_has ls 7 [(0, .ref (za G t0)), (1, .int v1), (2, .int v2), (3, .int v3), (4, .int v4), (6, .int v6)] → W p l e (zR 46) s m args below meth c H locs 0 0 (zQ below G A (some (.int res.1)) res.2 args s) (F0 m 87 ls [.int s0]) := by
      intro v3 v4 v6 s0 M h H locs ls hw hl
      subst hJ87
      refine lv_istore (lv' := [(5, .int s0), (0, .ref (za G t0)), (1, .int v1), (2, .int v2), (3, .int v3), (4, .int v4), (6, .int v6)]) hx hb dX12_bracket_87 hl (by decide) rfl (fun ls hl => ?_)
      exact wJ89 v3 v4 s0 v6 M h H locs ls hw (lv_sub hl [1, 2, 3, 4, 5, 0, 6] rfl)
    refine lv_iload hx hb dX12_bracket_44 (lv_at hl 6 rfl) ?_
    refine lv_aload_n hx hb dX12_bracket_46 rfl (lv_at hl 0 rfl) ?_
    refine z_getI S hw k0 fl_X12_85 rfl dX12_bracket_47 ?_
    refine lv_icmp_ge (tgt := 185) hx hb dX12_bracket_50 (by decide) (fun c25 => ?_) (fun c25 => ?_)
    · have h := zif_t h c25
      exact hK v3 v5 M h H locs ls hw (lv_sub hl [0, 3, 5] rfl)
    · have h := zif_f h c25
      refine lv_iload hx hb dX12_bracket_53 (lv_at hl 6 rfl) ?_
      refine lv_iload_n hx hb dX12_bracket_55 rfl (lv_at hl 1 rfl) ?_
      refine lv_icmp_ne (tgt := 89) hx hb dX12_bracket_56 (by decide) (fun c26 => ?_) (fun c26 => ?_)
      · have h := zif_f h c26
        exact wJ89 v3 v4 v5 v6 M h H locs ls hw (lv_sub hl [0, 1, 2, 3, 4, 5, 6] rfl)
      · have h := zif_t h c26
        refine lv_aload_n hx hb dX12_bracket_59 rfl (lv_at hl 0 rfl) ?_
        refine z_getR S hw k0 fl_X12_82 rfl dX12_bracket_60 ?_
        refine lv_iload_n hx hb dX12_bracket_63 rfl (lv_at hl 3 rfl) ?_
        refine lv_bipush (v := 40) hx hb dX12_bracket_64 (by decide) ?_
        obtain ⟨g27, h⟩ := zck_ex h
        obtain ⟨M28, eM28, h⟩ := zlet_ex h
        refine z_iast S hw eM28 (kr_12_38 hG k0) g27 dX12_bracket_66 (fun H locs hw => ?_)
        obtain ⟨x29, ex29, h⟩ := zlet_ex h
        refine lv_iinc (v := x29) (lv' := [(3, .int x29), (0, .ref (za G t0)), (1, .int v1), (2, .int v2), (4, .int v4), (5, .int v5), (6, .int v6)]) hx hb dX12_bracket_67 hl (k := 3) rfl (by rw [ex29]; rfl) (by decide) rfl (fun ls hl => ?_)
        obtain ⟨x30, ex30, h⟩ := zlet_ex h
        refine lv_iinc (v := x30) (lv' := [(4, .int x30), (3, .int x29), (0, .ref (za G t0)), (1, .int v1), (2, .int v2), (5, .int v5), (6, .int v6)]) hx hb dX12_bracket_70 hl (k := 4) rfl (by rw [ex30]; rfl) (by decide) rfl (fun ls hl => ?_)
        refine lv_iload hx hb dX12_bracket_73 (lv_at hl 0 rfl) ?_
        refine lv_iload hx hb dX12_bracket_75 (lv_at hl 5 rfl) ?_
        refine lv_icmp_le (tgt := 85) hx hb dX12_bracket_77 (by decide) (fun c31 => ?_) (fun c31 => ?_)
        · have h := zif_t h c31
          refine lv_iload hx hb dX12_bracket_85 (lv_at hl 5 rfl) ?_
          exact wJ87 x29 x30 v6 v5 M28 h H locs ls hw (lv_sub hl [2, 3, 4, 1, 0, 6] rfl)
        · have h := zif_f h c31
          refine lv_iload hx hb dX12_bracket_80 (lv_at hl 0 rfl) ?_
          refine lv_goto (tgt := 87) hx hb dX12_bracket_82 (by decide) ?_
          exact wJ87 x29 x30 v6 x30 M28 h H locs ls hw (lv_sub hl [2, 3, 4, 1, 0, 6] rfl)
set_option maxHeartbeats 4000000 in
set_option maxRecDepth 100000 in
theorem w_X12_bracket_225 {G : ZG} (hG : zOk G) (S : zX p (zR 46) s m args c 0 0 cX12_bracket 7 RX12) (hr : meth.sig.returnType = (Option.some FieldType.int)) (hlk : meth.locks = false) (t0 : Nat) (v3 : Int32) (k0 : zk G t0 = 22)  {K : ZM → Option (Int32 × ZM)} {res : (Int32 × ZM)} (hK : ∀  (M : ZM), K M = some res → ∀ (H : Heap) (locs : List Loc) (ls : Array Slot), zWd G A s H locs M → lv_has ls 7 [(0, .ref (za G t0)), (3, .int v3)] → W p l e (zR 46) s m args below meth c H locs 0 0 (zQ below G A (some (.int res.1)) res.2 args s) (F0 m 251 ls [])) : ∀ (n : Nat) (v6 : Int32) (M : ZM), f_X12_bracket_225 t0 v3 K n v6 M = some res → ∀ (H : Heap) (locs : List Loc) (ls : Array Slot), zWd G A s H locs M → lv_has ls 7 [(0, .ref (za G t0)), (3, .int v3), (6, .int v6)] → W p l e (zR 46) s m args below meth c H locs 0 0 (zQ below G A (some (.int res.1)) res.2 args s) (F0 m 225 ls []) := by
  have hx := S.1.1
  have hb := S.1.2.1
  have hown := S.1.2.2.2.1
  have hts := S.1.2.2.2.2
  intro n
  induction n with
  | zero =>
    intro v6 M h
    rw [f_X12_bracket_225] at h
    cases h
  | succ n ih =>
    intro v6 M h H locs ls hw hl
    rw [f_X12_bracket_225] at h
    refine lv_iload hx hb dX12_bracket_225 (lv_at hl 2 rfl) ?_
    refine lv_iload_n hx hb dX12_bracket_227 rfl (lv_at hl 1 rfl) ?_
    refine lv_icmp_ge (tgt := 251) hx hb dX12_bracket_228 (by decide) (fun c37 => ?_) (fun c37 => ?_)
    · have h := zif_t h c37
      exact hK M h H locs ls hw (lv_sub hl [0, 1] rfl)
    · have h := zif_f h c37
      refine lv_aload_n hx hb dX12_bracket_231 rfl (lv_at hl 0 rfl) ?_
      refine z_getR S hw k0 fl_X12_13 rfl dX12_bracket_232 ?_
      refine lv_iload hx hb dX12_bracket_235 (lv_at hl 2 rfl) ?_
      refine lv_aload_n hx hb dX12_bracket_237 rfl (lv_at hl 0 rfl) ?_
      refine z_getR S hw k0 fl_X12_82 rfl dX12_bracket_238 ?_
      refine lv_iload hx hb dX12_bracket_241 (lv_at hl 2 rfl) ?_
      obtain ⟨g38, h⟩ := zck_ex h
      refine z_iald S hw (kr_12_38 hG k0) g38 dX12_bracket_243 ?_
      obtain ⟨g39, h⟩ := zck_ex h
      obtain ⟨M40, eM40, h⟩ := zlet_ex h
      refine z_iast S hw eM40 (kr_12_1 hG k0) g39 dX12_bracket_244 (fun H locs hw => ?_)
      obtain ⟨x41, ex41, h⟩ := zlet_ex h
      refine lv_iinc (v := x41) (lv' := [(6, .int x41), (0, .ref (za G t0)), (3, .int v3)]) hx hb dX12_bracket_245 hl (k := 2) rfl (by rw [ex41]; rfl) (by decide) rfl (fun ls hl => ?_)
      refine lv_goto (tgt := 225) hx hb dX12_bracket_248 (by decide) ?_
      exact ih x41 M40 h H locs ls hw (lv_sub hl [1, 2, 0] rfl)
set_option maxHeartbeats 4000000 in
set_option maxRecDepth 100000 in
theorem c_X12_bracket (l : Launch) {G : ZG} (hG : zOk G) (t0 : Nat) (v1 : Int32) (v2 : Int32) (k0 : zk G t0 = 22) (M : ZM) (res : (Int32 × ZM)) (h : f_X12_bracket t0 v1 v2 M = some res) : zCt l yX12_bracket cX12_bracket 7 (Option.some FieldType.int) 46 G [.ref (za G t0), .int v1, .int v2] M (some (.int res.1)) res.2 := by
  refine zCt.mk (by decide +kernel) (Nat.le_of_ble_eq_true rfl) ?_
  intro p e s m args below meth c A H locs ls S hr hlk hw hl
  have S : zX p (zR 46) s m args c 0 0 cX12_bracket 7 RX12 := S
  have hx := S.1.1
  have hb := S.1.2.1
  have hown := S.1.2.2.2.1
  have hts := S.1.2.2.2.2
  have hl : lv_has ls 7 [(0, .ref (za G t0)), (1, .int v1), (2, .int v2)] := hl
  unfold f_X12_bracket at h
  refine lv_iload_n hx hb dX12_bracket_0 rfl (lv_at hl 1 rfl) ?_
  refine lv_aload_n hx hb dX12_bracket_1 rfl (lv_at hl 0 rfl) ?_
  refine z_getI S hw k0 fl_X12_85 rfl dX12_bracket_2 ?_
  obtain ⟨q1, eq1, h⟩ := zlet_ex h
  refine z_callS (As := [.int v1, .int (M.1 t0 10)]) (rest := []) (rv := (some (.int q1))) (M1 := M) S hw (c_X12_isIn l hG v1 (M.1 t0 10) M q1 eq1.symm) mv_X12_isIn lk_X12_111 rfl rfl (Nat.le_of_ble_eq_true rfl) ⟨Nat.le_of_ble_eq_true rfl, Nat.le_of_ble_eq_true rfl⟩ hl.1 dX12_bracket_5 (fun H locs hw => ?_)
  refine lv_if_eq (tgt := 27) hx hb dX12_bracket_8 (by decide) (fun c2 => ?_) (fun c2 => ?_)
  · have h := zif_t h c2
    refine lv_aload_n hx hb dX12_bracket_27 rfl (lv_at hl 0 rfl) ?_
    refine lv_iconst (v := (-1)) hx hb dX12_bracket_28 (by decide) ?_
    obtain ⟨q3, eq3, h⟩ := Option.bind_eq_some_iff.mp h
    refine z_callV (ci := 12) (As := [.int (-1)]) (rest := []) (rv := (some (.int q3.1))) (M1 := q3.2) S hw (c_X12_refuse l hG t0 (-1) k0 M q3 eq3) mv_X12_refuse lk_X12_91 k0 ⟨_, _, rfl⟩ (by decide) rfl rfl (Nat.le_of_ble_eq_true rfl) ⟨Nat.le_of_ble_eq_true rfl, Nat.le_of_ble_eq_true rfl⟩ hl.1 dX12_bracket_29 (fun H locs hw => ?_)
    have h := Option.some.inj h
    subst h
    exact z_ret_i S hr hlk hw dX12_bracket_32
  · have h := zif_f h c2
    refine lv_iload_n hx hb dX12_bracket_11 rfl (lv_at hl 2 rfl) ?_
    refine lv_aload_n hx hb dX12_bracket_12 rfl (lv_at hl 0 rfl) ?_
    refine z_getI S hw k0 fl_X12_85 rfl dX12_bracket_13 ?_
    obtain ⟨q4, eq4, h⟩ := zlet_ex h
    refine z_callS (As := [.int v2, .int (M.1 t0 10)]) (rest := []) (rv := (some (.int q4))) (M1 := M) S hw (c_X12_isIn l hG v2 (M.1 t0 10) M q4 eq4.symm) mv_X12_isIn lk_X12_111 rfl rfl (Nat.le_of_ble_eq_true rfl) ⟨Nat.le_of_ble_eq_true rfl, Nat.le_of_ble_eq_true rfl⟩ hl.1 dX12_bracket_16 (fun H locs hw => ?_)
    refine lv_if_eq (tgt := 27) hx hb dX12_bracket_19 (by decide) (fun c5 => ?_) (fun c5 => ?_)
    · have h := zif_t h c5
      refine lv_aload_n hx hb dX12_bracket_27 rfl (lv_at hl 0 rfl) ?_
      refine lv_iconst (v := (-1)) hx hb dX12_bracket_28 (by decide) ?_
      obtain ⟨q6, eq6, h⟩ := Option.bind_eq_some_iff.mp h
      refine z_callV (ci := 12) (As := [.int (-1)]) (rest := []) (rv := (some (.int q6.1))) (M1 := q6.2) S hw (c_X12_refuse l hG t0 (-1) k0 M q6 eq6) mv_X12_refuse lk_X12_91 k0 ⟨_, _, rfl⟩ (by decide) rfl rfl (Nat.le_of_ble_eq_true rfl) ⟨Nat.le_of_ble_eq_true rfl, Nat.le_of_ble_eq_true rfl⟩ hl.1 dX12_bracket_29 (fun H locs hw => ?_)
      have h := Option.some.inj h
      subst h
      exact z_ret_i S hr hlk hw dX12_bracket_32
    · have h := zif_f h c5
      refine lv_iload_n hx hb dX12_bracket_22 rfl (lv_at hl 2 rfl) ?_
      refine lv_iload_n hx hb dX12_bracket_23 rfl (lv_at hl 1 rfl) ?_
      refine lv_icmp_ge (tgt := 33) hx hb dX12_bracket_24 (by decide) (fun c7 => ?_) (fun c7 => ?_)
      · have h := zif_t h c7
        refine lv_iconst (v := 0) hx hb dX12_bracket_33 (by decide) ?_
        refine lv_istore_n (lv' := [(3, .int 0), (0, .ref (za G t0)), (1, .int v1), (2, .int v2)]) hx hb dX12_bracket_34 rfl hl (by decide) rfl (fun ls hl => ?_)
        refine lv_iconst (v := 0) hx hb dX12_bracket_35 (by decide) ?_
        refine lv_istore (lv' := [(4, .int 0), (3, .int 0), (0, .ref (za G t0)), (1, .int v1), (2, .int v2)]) hx hb dX12_bracket_36 hl (by decide) rfl (fun ls hl => ?_)
        refine lv_iconst (v := 0) hx hb dX12_bracket_38 (by decide) ?_
        refine lv_istore (lv' := [(5, .int 0), (4, .int 0), (3, .int 0), (0, .ref (za G t0)), (1, .int v1), (2, .int v2)]) hx hb dX12_bracket_39 hl (by decide) rfl (fun ls hl => ?_)
        refine lv_iconst (v := 0) hx hb dX12_bracket_41 (by decide) ?_
        refine lv_istore (lv' := [(6, .int 0), (5, .int 0), (4, .int 0), (3, .int 0), (0, .ref (za G t0)), (1, .int v1), (2, .int v2)]) hx hb dX12_bracket_42 hl (by decide) rfl (fun ls hl => ?_)
        refine w_X12_bracket_44 hG S hr hlk t0 v1 v2 k0 (fun v3 v5 M h H locs ls hw hl => ?_) zN 0 0 0 0 M h H locs ls hw (lv_sub hl [4, 5, 6, 3, 2, 1, 0] rfl)
        refine lv_iload_n hx hb dX12_bracket_185 rfl (lv_at hl 1 rfl) ?_
        refine lv_bipush (v := 21) hx hb dX12_bracket_186 (by decide) ?_
        refine lv_icmp_gt (tgt := 197) hx hb dX12_bracket_188 (by decide) (fun c32 => ?_) (fun c32 => ?_)
        · have h := zif_t h c32
          refine lv_aload_n hx hb dX12_bracket_197 rfl (lv_at hl 0 rfl) ?_
          refine lv_bipush (v := (-6)) hx hb dX12_bracket_198 (by decide) ?_
          obtain ⟨q33, eq33, h⟩ := Option.bind_eq_some_iff.mp h
          refine z_callV (ci := 12) (As := [.int (-6)]) (rest := []) (rv := (some (.int q33.1))) (M1 := q33.2) S hw (c_X12_refuse l hG t0 (-6) k0 M q33 eq33) mv_X12_refuse lk_X12_91 k0 ⟨_, _, rfl⟩ (by decide) rfl rfl (Nat.le_of_ble_eq_true rfl) ⟨Nat.le_of_ble_eq_true rfl, Nat.le_of_ble_eq_true rfl⟩ hl.1 dX12_bracket_200 (fun H locs hw => ?_)
          have h := Option.some.inj h
          subst h
          exact z_ret_i S hr hlk hw dX12_bracket_203
        · have h := zif_f h c32
          refine lv_iload hx hb dX12_bracket_191 (lv_at hl 2 rfl) ?_
          refine lv_iconst (v := 4) hx hb dX12_bracket_193 (by decide) ?_
          refine lv_icmp_le (tgt := 204) hx hb dX12_bracket_194 (by decide) (fun c34 => ?_) (fun c34 => ?_)
          · have h := zif_t h c34
            refine lv_aload_n hx hb dX12_bracket_204 rfl (lv_at hl 0 rfl) ?_
            refine z_getR S hw k0 fl_X12_82 rfl dX12_bracket_205 ?_
            refine lv_iload_n hx hb dX12_bracket_208 rfl (lv_at hl 1 rfl) ?_
            obtain ⟨q35, eq35, h⟩ := Option.bind_eq_some_iff.mp h
            refine z_callS (As := [.ref (za G (zr t0 38)), .int v3]) (rest := []) (rv := (some (.int q35))) (M1 := M) S hw (c_X12_fault l hG (zr t0 38) v3 (kr_12_38 hG k0) M q35 eq35) mv_X12_fault lk_X12_107 rfl rfl (Nat.le_of_ble_eq_true rfl) ⟨Nat.le_of_ble_eq_true rfl, Nat.le_of_ble_eq_true rfl⟩ hl.1 dX12_bracket_209 (fun H locs hw => ?_)
            refine lv_if_lt (tgt := 222) hx hb dX12_bracket_212 (by decide) (fun c36 => ?_) (fun c36 => ?_)
            · have h := zif_t h c36
              refine lv_iconst (v := 0) hx hb dX12_bracket_222 (by decide) ?_
              refine lv_istore (lv' := [(6, .int 0), (0, .ref (za G t0)), (3, .int v3), (5, .int v5)]) hx hb dX12_bracket_223 hl (by decide) rfl (fun ls hl => ?_)
              refine w_X12_bracket_225 hG S hr hlk t0 v3 k0 (fun M h H locs ls hw hl => ?_) zN 0 M h H locs ls hw (lv_sub hl [1, 2, 0] rfl)
              refine lv_aload_n hx hb dX12_bracket_251 rfl (lv_at hl 0 rfl) ?_
              refine lv_iload_n hx hb dX12_bracket_252 rfl (lv_at hl 1 rfl) ?_
              obtain ⟨M42, eM42, h⟩ := zlet_ex h
              refine z_putI S hw eM42 k0 fl_X12_85 rfl (fun h => absurd h (by decide)) dX12_bracket_253 (fun H locs hw => ?_)
              refine lv_aload_n hx hb dX12_bracket_256 rfl (lv_at hl 0 rfl) ?_
              obtain ⟨q43, eq43, h⟩ := Option.bind_eq_some_iff.mp h
              refine z_callV (ci := 12) (As := []) (rest := []) (rv := none) (M1 := q43) S hw (c_X12_finds l hG t0 k0 M42 q43 eq43) mv_X12_finds lk_X12_88 k0 ⟨_, _, rfl⟩ (by decide) rfl rfl (Nat.le_of_ble_eq_true rfl) ⟨Nat.le_of_ble_eq_true rfl, Nat.le_of_ble_eq_true rfl⟩ hl.1 dX12_bracket_257 (fun H locs hw => ?_)
              refine lv_aload_n hx hb dX12_bracket_260 rfl (lv_at hl 0 rfl) ?_
              refine z_getI S hw k0 fl_X12_85 rfl dX12_bracket_261 ?_
              have h := Option.some.inj h
              subst h
              exact z_ret_i S hr hlk hw dX12_bracket_264
            · have h := zif_f h c36
              refine lv_aload_n hx hb dX12_bracket_215 rfl (lv_at hl 0 rfl) ?_
              refine lv_bipush (v := (-3)) hx hb dX12_bracket_216 (by decide) ?_
              obtain ⟨q44, eq44, h⟩ := Option.bind_eq_some_iff.mp h
              refine z_callV (ci := 12) (As := [.int (-3)]) (rest := []) (rv := (some (.int q44.1))) (M1 := q44.2) S hw (c_X12_refuse l hG t0 (-3) k0 M q44 eq44) mv_X12_refuse lk_X12_91 k0 ⟨_, _, rfl⟩ (by decide) rfl rfl (Nat.le_of_ble_eq_true rfl) ⟨Nat.le_of_ble_eq_true rfl, Nat.le_of_ble_eq_true rfl⟩ hl.1 dX12_bracket_218 (fun H locs hw => ?_)
              have h := Option.some.inj h
              subst h
              exact z_ret_i S hr hlk hw dX12_bracket_221
          · have h := zif_f h c34
            refine lv_aload_n hx hb dX12_bracket_197 rfl (lv_at hl 0 rfl) ?_
            refine lv_bipush (v := (-6)) hx hb dX12_bracket_198 (by decide) ?_
            obtain ⟨q45, eq45, h⟩ := Option.bind_eq_some_iff.mp h
            refine z_callV (ci := 12) (As := [.int (-6)]) (rest := []) (rv := (some (.int q45.1))) (M1 := q45.2) S hw (c_X12_refuse l hG t0 (-6) k0 M q45 eq45) mv_X12_refuse lk_X12_91 k0 ⟨_, _, rfl⟩ (by decide) rfl rfl (Nat.le_of_ble_eq_true rfl) ⟨Nat.le_of_ble_eq_true rfl, Nat.le_of_ble_eq_true rfl⟩ hl.1 dX12_bracket_200 (fun H locs hw => ?_)
            have h := Option.some.inj h
            subst h
            exact z_ret_i S hr hlk hw dX12_bracket_203
      · have h := zif_f h c7
        refine lv_aload_n hx hb dX12_bracket_27 rfl (lv_at hl 0 rfl) ?_
        refine lv_iconst (v := (-1)) hx hb dX12_bracket_28 (by decide) ?_
        obtain ⟨q46, eq46, h⟩ := Option.bind_eq_some_iff.mp h
        refine z_callV (ci := 12) (As := [.int (-1)]) (rest := []) (rv := (some (.int q46.1))) (M1 := q46.2) S hw (c_X12_refuse l hG t0 (-1) k0 M q46 eq46) mv_X12_refuse lk_X12_91 k0 ⟨_, _, rfl⟩ (by decide) rfl rfl (Nat.le_of_ble_eq_true rfl) ⟨Nat.le_of_ble_eq_true rfl, Nat.le_of_ble_eq_true rfl⟩ hl.1 dX12_bracket_29 (fun H locs hw => ?_)
        have h := Option.some.inj h
        subst h
        exact z_ret_i S hr hlk hw dX12_bracket_32
end Z
