section Z
variable {p : Program} {l : Launch} {e : Env} {s : State} {m : MethodId} {args : Array Value} {below : List Frame} {meth : Method} {c : Code} {A : Nat → Prop}
def f_X12_meansNow (t0 : Nat) (v1 : Int32) (M : ZM) : Option (Int64 × ZM) :=
  (f_X12_meansRun zD t0 0 (M.1 t0 10) (v1.toInt64) 0 0 0 (M.1 t0 10) M).bind fun (q1 : (Int64 × ZM)) =>
  some (q1.1, q1.2)
set_option maxHeartbeats 4000000 in
set_option maxRecDepth 100000 in
theorem c_X12_meansNow (l : Launch) {G : ZG} (hG : zOk G) (t0 : Nat) (v1 : Int32) (k0 : zk G t0 = 22) (M : ZM) (res : (Int64 × ZM)) (h : f_X12_meansNow t0 v1 M = some res) : zCt l yX12_meansNow cX12_meansNow 2 (Option.some FieldType.long) 43 G [.ref (za G t0), .int v1] M (some (.long res.1)) res.2 := by
  refine zCt.mk (by decide +kernel) (Nat.le_of_ble_eq_true rfl) ?_
  intro p e s m args below meth c A H locs ls S hr hlk hw hl
  have S : zX p (zR 43) s m args c 0 0 cX12_meansNow 2 RX12 := S
  have hx := S.1.1
  have hb := S.1.2.1
  have hown := S.1.2.2.2.1
  have hts := S.1.2.2.2.2
  have hl : lv_has ls 2 [(0, .ref (za G t0)), (1, .int v1)] := hl
  unfold f_X12_meansNow at h
  refine lv_aload_n hx hb dX12_meansNow_0 rfl (lv_at hl 0 rfl) ?_
  refine lv_iconst (v := 0) hx hb dX12_meansNow_1 (by decide) ?_
  refine lv_aload_n hx hb dX12_meansNow_2 rfl (lv_at hl 0 rfl) ?_
  refine z_getI S hw k0 fl_X12_85 rfl dX12_meansNow_3 ?_
  refine lv_iload_n hx hb dX12_meansNow_6 rfl (lv_at hl 1 rfl) ?_
  refine lv_i2l (v := (v1.toInt64)) hx hb dX12_meansNow_7 rfl ?_
  refine lv_iconst (v := 0) hx hb dX12_meansNow_8 (by decide) ?_
  refine lv_iconst (v := 0) hx hb dX12_meansNow_9 (by decide) ?_
  refine lv_iconst (v := 0) hx hb dX12_meansNow_10 (by decide) ?_
  refine lv_aload_n hx hb dX12_meansNow_11 rfl (lv_at hl 0 rfl) ?_
  refine z_getI S hw k0 fl_X12_85 rfl dX12_meansNow_12 ?_
  obtain ⟨q1, eq1, h⟩ := Option.bind_eq_some_iff.mp h
  refine z_callV (ci := 12) (As := [.int 0, .int (M.1 t0 10), .long (v1.toInt64), .int 0, .int 0, .int 0, .int (M.1 t0 10)]) (rest := []) (rv := (some (.long q1.1))) (M1 := q1.2) S hw (c_X12_meansRun l zD hG t0 0 (M.1 t0 10) (v1.toInt64) 0 0 0 (M.1 t0 10) k0 M q1 eq1) mv_X12_meansRun lk_X12_148 k0 ⟨_, _, rfl⟩ (by decide) rfl rfl (Nat.le_of_ble_eq_true rfl) ⟨Nat.le_of_ble_eq_true rfl, Nat.le_of_ble_eq_true rfl⟩ hl.1 dX12_meansNow_15 (fun H locs hw => ?_)
  have h := Option.some.inj h
  subst h
  exact z_ret_l S hr hlk hw dX12_meansNow_18
def f_X12_idleIn_4 (t0 : Nat) (v1 : Int32) (K : Int32 → ZM → Option (Int32 × ZM)) : Nat → Int32 → Int32 → ZM → Option (Int32 × ZM)
  | 0, _, _, _ => none
  | n + 1, v2, v3, M =>
    if (M.1 t0 10) ≤ v3 then (
      K v2 M) else (
      zck (zin v3 (zn (zr t0 1))) <|
      zlet (f_X12_isLetter (M.1 (zr t0 1) v3.toNatClampNeg) M) fun (q3 : Int32) =>
      if q3 = 0 then (
        zlet (v3 + 1) fun (x15 : Int32) =>
        f_X12_idleIn_4 t0 v1 K n v2 x15 M) else (
        zlet (zi M t0 28 v3) fun (M5 : ZM) =>
        zlet (zi M5 t0 31 1) fun (M6 : ZM) =>
        (f_X12_meansNow t0 v1 M6).bind fun (q7 : (Int64 × ZM)) =>
        zlet (zi q7.2 t0 31 0) fun (M8 : ZM) =>
        (f_X12_meansNow t0 v1 M8).bind fun (q9 : (Int64 × ZM)) =>
        if (lg_cmp q7.1 q9.1) = 0 then (
          zlet (v2 ||| (1 <<< (v3 &&& 31))) fun (x13 : Int32) =>
          zlet (v3 + 1) fun (x14 : Int32) =>
          f_X12_idleIn_4 t0 v1 K n x13 x14 q9.2) else (
          zlet (v2 ||| 0) fun (x11 : Int32) =>
          zlet (v3 + 1) fun (x12 : Int32) =>
          f_X12_idleIn_4 t0 v1 K n x11 x12 q9.2)))

def f_X12_idleIn (t0 : Nat) (v1 : Int32) (M : ZM) : Option (Int32 × ZM) :=
  f_X12_idleIn_4 t0 v1 (fun (v2 : Int32) (M : ZM) =>
    zlet (zi M t0 28 (-9)) fun (M16 : ZM) =>
    some (v2, M16)) zN 0 0 M
set_option maxHeartbeats 4000000 in
set_option maxRecDepth 100000 in
theorem w_X12_idleIn_4 {G : ZG} (hG : zOk G) (S : zX p (zR 44) s m args c 0 0 cX12_idleIn 6 RX12) (hr : meth.sig.returnType = (Option.some FieldType.int)) (hlk : meth.locks = false) (t0 : Nat) (v1 : Int32) (k0 : zk G t0 = 22)  {K : Int32 → ZM → Option (Int32 × ZM)} {res : (Int32 × ZM)} (hK : ∀ (v2 : Int32) (M : ZM), K v2 M = some res → ∀ (H : Heap) (locs : List Loc) (ls : Array Slot), zWd G A s H locs M → lv_has ls 6 [(0, .ref (za G t0)), (2, .int v2)] → W p l e (zR 44) s m args below meth c H locs 0 0 (zQ below G A (some (.int res.1)) res.2 args s) (F0 m 76 ls [])) : ∀ (n : Nat) (v2 : Int32) (v3 : Int32) (M : ZM), f_X12_idleIn_4 t0 v1 K n v2 v3 M = some res → ∀ (H : Heap) (locs : List Loc) (ls : Array Slot), zWd G A s H locs M → lv_has ls 6 [(0, .ref (za G t0)), (1, .int v1), (2, .int v2), (3, .int v3)] → W p l e (zR 44) s m args below meth c H locs 0 0 (zQ below G A (some (.int res.1)) res.2 args s) (F0 m 4 ls []) := by
  have hx := S.1.1
  have hb := S.1.2.1
  have hown := S.1.2.2.2.1
  have hts := S.1.2.2.2.2
  intro n
  induction n with
  | zero =>
    intro v2 v3 M h
    rw [f_X12_idleIn_4] at h
    cases h
  | succ n ih =>
    intro v2 v3 M h H locs ls hw hl
    rw [f_X12_idleIn_4] at h
    refine lv_iload_n hx hb dX12_idleIn_4 rfl (lv_at hl 3 rfl) ?_
    refine lv_aload_n hx hb dX12_idleIn_5 rfl (lv_at hl 0 rfl) ?_
    refine z_getI S hw k0 fl_X12_85 rfl dX12_idleIn_6 ?_
    refine lv_icmp_ge (tgt := 76) hx hb dX12_idleIn_9 (by decide) (fun c1 => ?_) (fun c1 => ?_)
    · have h := zif_t h c1
      exact hK v2 M h H locs ls hw (lv_sub hl [0, 2] rfl)
    · have h := zif_f h c1
      refine lv_aload_n hx hb dX12_idleIn_12 rfl (lv_at hl 0 rfl) ?_
      refine z_getR S hw k0 fl_X12_13 rfl dX12_idleIn_13 ?_
      refine lv_iload_n hx hb dX12_idleIn_16 rfl (lv_at hl 3 rfl) ?_
      obtain ⟨g2, h⟩ := zck_ex h
      refine z_iald S hw (kr_12_1 hG k0) g2 dX12_idleIn_17 ?_
      obtain ⟨q3, eq3, h⟩ := zlet_ex h
      refine z_callS (As := [.int (M.1 (zr t0 1) v3.toNatClampNeg)]) (rest := []) (rv := (some (.int q3))) (M1 := M) S hw (c_X12_isLetter l hG (M.1 (zr t0 1) v3.toNatClampNeg) M q3 eq3.symm) mv_X12_isLetter lk_X12_103 rfl rfl (Nat.le_of_ble_eq_true rfl) ⟨Nat.le_of_ble_eq_true rfl, Nat.le_of_ble_eq_true rfl⟩ hl.1 dX12_idleIn_18 (fun H locs hw => ?_)
      refine lv_if_ne (tgt := 27) hx hb dX12_idleIn_21 (by decide) (fun c4 => ?_) (fun c4 => ?_)
      · have h := zif_f h c4
        refine lv_aload_n hx hb dX12_idleIn_27 rfl (lv_at hl 0 rfl) ?_
        refine lv_iload_n hx hb dX12_idleIn_28 rfl (lv_at hl 3 rfl) ?_
        obtain ⟨M5, eM5, h⟩ := zlet_ex h
        refine z_putI S hw eM5 k0 fl_X12_65 rfl (fun h => absurd h (by decide)) dX12_idleIn_29 (fun H locs hw => ?_)
        refine lv_aload_n hx hb dX12_idleIn_32 rfl (lv_at hl 0 rfl) ?_
        refine lv_iconst (v := 1) hx hb dX12_idleIn_33 (by decide) ?_
        obtain ⟨M6, eM6, h⟩ := zlet_ex h
        refine z_putI S hw eM6 k0 fl_X12_139 rfl (fun _ => by decide) dX12_idleIn_34 (fun H locs hw => ?_)
        refine lv_aload_n hx hb dX12_idleIn_37 rfl (lv_at hl 0 rfl) ?_
        refine lv_iload_n hx hb dX12_idleIn_38 rfl (lv_at hl 1 rfl) ?_
        obtain ⟨q7, eq7, h⟩ := Option.bind_eq_some_iff.mp h
        refine z_callV (ci := 12) (As := [.int v1]) (rest := []) (rv := (some (.long q7.1))) (M1 := q7.2) S hw (c_X12_meansNow l hG t0 v1 k0 M6 q7 eq7) mv_X12_meansNow lk_X12_154 k0 ⟨_, _, rfl⟩ (by decide) rfl rfl (Nat.le_of_ble_eq_true rfl) ⟨Nat.le_of_ble_eq_true rfl, Nat.le_of_ble_eq_true rfl⟩ hl.1 dX12_idleIn_39 (fun H locs hw => ?_)
        refine lv_lstore (lv' := [(4, .long q7.1), (0, .ref (za G t0)), (1, .int v1), (2, .int v2), (3, .int v3)]) hx hb dX12_idleIn_42 hl (by decide) rfl (fun ls hl => ?_)
        refine lv_aload_n hx hb dX12_idleIn_44 rfl (lv_at hl 1 rfl) ?_
        refine lv_iconst (v := 0) hx hb dX12_idleIn_45 (by decide) ?_
        obtain ⟨M8, eM8, h⟩ := zlet_ex h
        refine z_putI S hw eM8 k0 fl_X12_139 rfl (fun _ => by decide) dX12_idleIn_46 (fun H locs hw => ?_)
        refine lv_iload_n hx hb dX12_idleIn_49 rfl (lv_at hl 3 rfl) ?_
        refine lv_lload hx hb dX12_idleIn_50 (lv_at hl 0 rfl) ?_
        refine lv_aload_n hx hb dX12_idleIn_52 rfl (lv_at hl 1 rfl) ?_
        refine lv_iload_n hx hb dX12_idleIn_53 rfl (lv_at hl 2 rfl) ?_
        obtain ⟨q9, eq9, h⟩ := Option.bind_eq_some_iff.mp h
        refine z_callV (ci := 12) (As := [.int v1]) (rest := [.long q7.1, .int v2]) (rv := (some (.long q9.1))) (M1 := q9.2) S hw (c_X12_meansNow l hG t0 v1 k0 M8 q9 eq9) mv_X12_meansNow lk_X12_154 k0 ⟨_, _, rfl⟩ (by decide) rfl rfl (Nat.le_of_ble_eq_true rfl) ⟨Nat.le_of_ble_eq_true rfl, Nat.le_of_ble_eq_true rfl⟩ hl.1 dX12_idleIn_54 (fun H locs hw => ?_)
        refine W.lcmp hx hb dX12_idleIn_57 ?_
        refine lv_if_ne (tgt := 67) hx hb dX12_idleIn_58 (by decide) (fun c10 => ?_) (fun c10 => ?_)
        · have h := zif_f h c10
          refine lv_iconst (v := 0) hx hb dX12_idleIn_67 (by decide) ?_
          refine lv_ior hx hb dX12_idleIn_68 ?_
          obtain ⟨x11, ex11, h⟩ := zlet_ex h
          refine lv_topiE ex11 ?_
          refine lv_istore_n (lv' := [(2, .int x11), (4, .long q7.1), (0, .ref (za G t0)), (1, .int v1), (3, .int v3)]) hx hb dX12_idleIn_69 rfl hl (by decide) rfl (fun ls hl => ?_)
          obtain ⟨x12, ex12, h⟩ := zlet_ex h
          refine lv_iinc (v := x12) (lv' := [(3, .int x12), (2, .int x11), (4, .long q7.1), (0, .ref (za G t0)), (1, .int v1)]) hx hb dX12_idleIn_70 hl (k := 4) rfl (by rw [ex12]; rfl) (by decide) rfl (fun ls hl => ?_)
          refine lv_goto (tgt := 4) hx hb dX12_idleIn_73 (by decide) ?_
          exact ih x11 x12 q9.2 h H locs ls hw (lv_sub hl [3, 4, 1, 0] rfl)
        · have h := zif_t h c10
          refine lv_iconst (v := 1) hx hb dX12_idleIn_61 (by decide) ?_
          refine lv_iload_n hx hb dX12_idleIn_62 rfl (lv_at hl 4 rfl) ?_
          refine lv_ishl hx hb dX12_idleIn_63 ?_
          refine lv_goto (tgt := 68) hx hb dX12_idleIn_64 (by decide) ?_
          refine lv_ior hx hb dX12_idleIn_68 ?_
          obtain ⟨x13, ex13, h⟩ := zlet_ex h
          refine lv_topiE ex13 ?_
          refine lv_istore_n (lv' := [(2, .int x13), (4, .long q7.1), (0, .ref (za G t0)), (1, .int v1), (3, .int v3)]) hx hb dX12_idleIn_69 rfl hl (by decide) rfl (fun ls hl => ?_)
          obtain ⟨x14, ex14, h⟩ := zlet_ex h
          refine lv_iinc (v := x14) (lv' := [(3, .int x14), (2, .int x13), (4, .long q7.1), (0, .ref (za G t0)), (1, .int v1)]) hx hb dX12_idleIn_70 hl (k := 4) rfl (by rw [ex14]; rfl) (by decide) rfl (fun ls hl => ?_)
          refine lv_goto (tgt := 4) hx hb dX12_idleIn_73 (by decide) ?_
          exact ih x13 x14 q9.2 h H locs ls hw (lv_sub hl [3, 4, 1, 0] rfl)
      · have h := zif_t h c4
        refine lv_goto (tgt := 70) hx hb dX12_idleIn_24 (by decide) ?_
        obtain ⟨x15, ex15, h⟩ := zlet_ex h
        refine lv_iinc (v := x15) (lv' := [(3, .int x15), (0, .ref (za G t0)), (1, .int v1), (2, .int v2)]) hx hb dX12_idleIn_70 hl (k := 3) rfl (by rw [ex15]; rfl) (by decide) rfl (fun ls hl => ?_)
        refine lv_goto (tgt := 4) hx hb dX12_idleIn_73 (by decide) ?_
        exact ih v2 x15 M h H locs ls hw (lv_sub hl [1, 2, 3, 0] rfl)
set_option maxHeartbeats 4000000 in
set_option maxRecDepth 100000 in
theorem c_X12_idleIn (l : Launch) {G : ZG} (hG : zOk G) (t0 : Nat) (v1 : Int32) (k0 : zk G t0 = 22) (M : ZM) (res : (Int32 × ZM)) (h : f_X12_idleIn t0 v1 M = some res) : zCt l yX12_idleIn cX12_idleIn 6 (Option.some FieldType.int) 44 G [.ref (za G t0), .int v1] M (some (.int res.1)) res.2 := by
  refine zCt.mk (by decide +kernel) (Nat.le_of_ble_eq_true rfl) ?_
  intro p e s m args below meth c A H locs ls S hr hlk hw hl
  have S : zX p (zR 44) s m args c 0 0 cX12_idleIn 6 RX12 := S
  have hx := S.1.1
  have hb := S.1.2.1
  have hown := S.1.2.2.2.1
  have hts := S.1.2.2.2.2
  have hl : lv_has ls 6 [(0, .ref (za G t0)), (1, .int v1)] := hl
  unfold f_X12_idleIn at h
  refine lv_iconst (v := 0) hx hb dX12_idleIn_0 (by decide) ?_
  refine lv_istore_n (lv' := [(2, .int 0), (0, .ref (za G t0)), (1, .int v1)]) hx hb dX12_idleIn_1 rfl hl (by decide) rfl (fun ls hl => ?_)
  refine lv_iconst (v := 0) hx hb dX12_idleIn_2 (by decide) ?_
  refine lv_istore_n (lv' := [(3, .int 0), (2, .int 0), (0, .ref (za G t0)), (1, .int v1)]) hx hb dX12_idleIn_3 rfl hl (by decide) rfl (fun ls hl => ?_)
  refine w_X12_idleIn_4 hG S hr hlk t0 v1 k0 (fun v2 M h H locs ls hw hl => ?_) zN 0 0 M h H locs ls hw (lv_sub hl [2, 3, 1, 0] rfl)
  refine lv_aload_n hx hb dX12_idleIn_76 rfl (lv_at hl 0 rfl) ?_
  refine lv_bipush (v := (-9)) hx hb dX12_idleIn_77 (by decide) ?_
  obtain ⟨M16, eM16, h⟩ := zlet_ex h
  refine z_putI S hw eM16 k0 fl_X12_65 rfl (fun h => absurd h (by decide)) dX12_idleIn_79 (fun H locs hw => ?_)
  refine lv_iload_n hx hb dX12_idleIn_82 rfl (lv_at hl 1 rfl) ?_
  have h := Option.some.inj h
  subst h
  exact z_ret_i S hr hlk hw dX12_idleIn_83
def f_X12_finds_66 (t0 : Nat) (v1 : Int32) (K : ZM → Option ZM) : Nat → ZM → Option ZM
  | 0, _ => none
  | n + 1, M =>
    zlet (fun (s1 : Int32) (s2 : Int32) (s3 : Int32) (M : ZM) =>
      zck (zin s1 (zn (zr t0 23))) <|
      zlet (zi M (zr t0 23) s1.toNatClampNeg (s2 ||| s3)) fun (M8 : ZM) =>
      zlet (zi M8 t0 26 ((M8.1 t0 26) + 1)) fun (M9 : ZM) =>
      f_X12_finds_66 t0 v1 K n M9) fun J227 =>
    zlet (fun (s1 : Int32) (s2 : Int32) (M : ZM) =>
      J227 s1 s2 0 M) fun J226 =>
    zlet (fun (s1 : Int32) (s2 : Int32) (s3 : Int32) (M : ZM) =>
      zck (zin s1 (zn (zr t0 23))) <|
      zlet (zi M (zr t0 23) s1.toNatClampNeg (s2 ||| s3)) fun (M11 : ZM) =>
      zck (zin (M11.1 t0 26) (zn (zr t0 23))) <|
      zck (zin (M11.1 t0 26) (zn (zr t0 25))) <|
      if (lg_cmp (M11.2 (zr t0 25) (M11.1 t0 26).toNatClampNeg) 0) = 0 then (
        J226 (M11.1 t0 26) (M11.1 (zr t0 23) (M11.1 t0 26).toNatClampNeg) M11) else (
        zck (zin (M11.1 t0 26) (zn (zr t0 25))) <|
        if (lg_cmp (M11.2 (zr t0 25) (M11.1 t0 26).toNatClampNeg) 4294967295) = 0 then (
          J226 (M11.1 t0 26) (M11.1 (zr t0 23) (M11.1 t0 26).toNatClampNeg) M11) else (
          J227 (M11.1 t0 26) (M11.1 (zr t0 23) (M11.1 t0 26).toNatClampNeg) 32 M11))) fun J179 =>
    if v1 ≤ (M.1 t0 26) then (
      K M) else (
      zck (zin (M.1 t0 26) (zn (zr t0 22))) <|
      zlet (zi M (zr t0 22) (M.1 t0 26).toNatClampNeg 0) fun (M19 : ZM) =>
      zlet (zi M19 t0 27 0) fun (M20 : ZM) =>
      zlet (zi M20 t0 30 1) fun (M21 : ZM) =>
      (f_X12_meansNow t0 (M21.1 t0 26) M21).bind fun (q22 : (Int64 × ZM)) =>
      zck (zin (M21.1 t0 26) (zn (zr t0 25))) <|
      zlet (zl q22.2 (zr t0 25) (M21.1 t0 26).toNatClampNeg q22.1) fun (M24 : ZM) =>
      zlet (zi M24 t0 30 0) fun (M25 : ZM) =>
      zck (zin (M25.1 t0 26) (zn (zr t0 23))) <|
      zlet (zi M25 (zr t0 23) (M25.1 t0 26).toNatClampNeg (((M25.1 t0 27) ^^^ (-1)) &&& 15)) fun (M27 : ZM) =>
      (f_X12_idleIn t0 (M27.1 t0 26) M27).bind fun (q28 : (Int32 × ZM)) =>
      zck (zin (M27.1 t0 26) (zn (zr t0 24))) <|
      zlet (zi q28.2 (zr t0 24) (M27.1 t0 26).toNatClampNeg q28.1) fun (M30 : ZM) =>
      zck (zin (M30.1 t0 26) (zn (zr t0 23))) <|
      zck (zin (M30.1 t0 26) (zn (zr t0 24))) <|
      if (M30.1 (zr t0 24) (M30.1 t0 26).toNatClampNeg) = 0 then (
        J179 (M30.1 t0 26) (M30.1 (zr t0 23) (M30.1 t0 26).toNatClampNeg) 16 M30) else (
        J179 (M30.1 t0 26) (M30.1 (zr t0 23) (M30.1 t0 26).toNatClampNeg) 0 M30))

def f_X12_finds_2 (t0 : Nat) (K : ZM → Option ZM) : Nat → Int32 → ZM → Option ZM
  | 0, _, _ => none
  | n + 1, v1, M =>
    if 5 ≤ v1 then (
      K M) else (
      (f_X12_mask v1 M).bind fun (q35 : Int64) =>
      zck (zin v1 (zn (zr t0 32))) <|
      zlet (zl M (zr t0 32) v1.toNatClampNeg q35) fun (M37 : ZM) =>
      zlet (v1 + 1) fun (x38 : Int32) =>
      f_X12_finds_2 t0 K n x38 M37)

def f_X12_finds (t0 : Nat) (M : ZM) : Option ZM :=
  zlet (fun (s1 : Int32) (M : ZM) =>
    zck (zbo s1) <|
    zlet (zi M t0 29 s1) fun (M2 : ZM) =>
    if (M2.1 t0 29) = 0 then (
      some M2) else (
      (f_X12_readings t0 M2).bind fun (q4 : Int64) =>
      zlet (q4.toInt32) fun (x5 : Int32) =>
      zlet (zi M2 t0 26 0) fun (M6 : ZM) =>
      f_X12_finds_66 t0 x5 (fun (M : ZM) =>
        some M) zN M6)) fun J44 =>
  f_X12_finds_2 t0 (fun (M : ZM) =>
    (f_X12_findWays t0 M).bind fun (q39 : ZM) =>
    (f_X12_readings t0 q39).bind fun (q40 : Int64) =>
    if 0 < (lg_cmp q40 200) then (
      J44 0 q39) else (
      J44 1 q39)) zN 0 M
set_option maxHeartbeats 4000000 in
set_option maxRecDepth 100000 in
theorem w_X12_finds_66 {G : ZG} (hG : zOk G) (S : zX p (zR 45) s m args c 0 0 cX12_finds 2 RX12) (hr : meth.sig.returnType = none) (hlk : meth.locks = false) (t0 : Nat) (v1 : Int32) (k0 : zk G t0 = 22)  {K : ZM → Option ZM} {res : ZM} (hK : ∀  (M : ZM), K M = some res → ∀ (H : Heap) (locs : List Loc) (ls : Array Slot), zWd G A s H locs M → lv_has ls 2 [] → W p l e (zR 45) s m args below meth c H locs 0 0 (zQ below G A none res args s) (F0 m 242 ls [])) : ∀ (n : Nat)  (M : ZM), f_X12_finds_66 t0 v1 K n M = some res → ∀ (H : Heap) (locs : List Loc) (ls : Array Slot), zWd G A s H locs M → lv_has ls 2 [(0, .ref (za G t0)), (1, .int v1)] → W p l e (zR 45) s m args below meth c H locs 0 0 (zQ below G A none res args s) (F0 m 66 ls []) := by
  have hx := S.1.1
  have hb := S.1.2.1
  have hown := S.1.2.2.2.1
  have hts := S.1.2.2.2.2
  intro n
  induction n with
  | zero =>
    intro M h
    rw [f_X12_finds_66] at h
    cases h
  | succ n ih =>
    intro M h H locs ls hw hl
    rw [f_X12_finds_66] at h
    obtain ⟨J227, hJ227, h⟩ := zlet_ex h
    have wJ227 : ∀ (s1 : Int32) (s2 : Int32) (s3 : Int32) (M : ZM), J227 s1 s2 s3 M = some res → ∀ (H : Heap) (locs : List Loc) (ls : Array Slot), zWd G A s H locs M → lv_has ls 2 [(0, .ref (za G t0)), (1, .int v1)] → W p l e (zR 45) s m args below meth c H locs 0 0 (zQ below G A none res args s) (F0 m 227 ls [.int s3, .int s2, .int s1, .ref (za G (zr t0 23))]) := by
      intro s1 s2 s3 M h H locs ls hw hl
      subst hJ227
      refine lv_ior hx hb dX12_finds_227 ?_
      obtain ⟨g7, h⟩ := zck_ex h
      obtain ⟨M8, eM8, h⟩ := zlet_ex h
      refine z_iast S hw eM8 (kr_12_23 hG k0) g7 dX12_finds_228 (fun H locs hw => ?_)
      refine lv_aload_n hx hb dX12_finds_229 rfl (lv_at hl 0 rfl) ?_
      refine lv_dup hx hb dX12_finds_230 rfl ?_
      refine z_getI S hw k0 fl_X12_129 rfl dX12_finds_231 ?_
      refine lv_iconst (v := 1) hx hb dX12_finds_234 (by decide) ?_
      refine lv_iadd hx hb dX12_finds_235 ?_
      obtain ⟨M9, eM9, h⟩ := zlet_ex h
      refine z_putI S hw eM9 k0 fl_X12_129 rfl (fun h => absurd h (by decide)) dX12_finds_236 (fun H locs hw => ?_)
      refine lv_goto (tgt := 66) hx hb dX12_finds_239 (by decide) ?_
      exact ih M9 h H locs ls hw (lv_sub hl [0, 1] rfl)
    obtain ⟨J226, hJ226, h⟩ := zlet_ex h
    have wJ226 : ∀ (s1 : Int32) (s2 : Int32) (M : ZM), J226 s1 s2 M = some res → ∀ (H : Heap) (locs : List Loc) (ls : Array Slot), zWd G A s H locs M → lv_has ls 2 [(0, .ref (za G t0)), (1, .int v1)] → W p l e (zR 45) s m args below meth c H locs 0 0 (zQ below G A none res args s) (F0 m 226 ls [.int s2, .int s1, .ref (za G (zr t0 23))]) := by
      intro s1 s2 M h H locs ls hw hl
      subst hJ226
      refine lv_iconst (v := 0) hx hb dX12_finds_226 (by decide) ?_
      exact wJ227 s1 s2 0 M h H locs ls hw (lv_sub hl [0, 1] rfl)
    obtain ⟨J179, hJ179, h⟩ := zlet_ex h
    have wJ179 : ∀ (s1 : Int32) (s2 : Int32) (s3 : Int32) (M : ZM), J179 s1 s2 s3 M = some res → ∀ (H : Heap) (locs : List Loc) (ls : Array Slot), zWd G A s H locs M → lv_has ls 2 [(0, .ref (za G t0)), (1, .int v1)] → W p l e (zR 45) s m args below meth c H locs 0 0 (zQ below G A none res args s) (F0 m 179 ls [.int s3, .int s2, .int s1, .ref (za G (zr t0 23))]) := by
      intro s1 s2 s3 M h H locs ls hw hl
      subst hJ179
      refine lv_ior hx hb dX12_finds_179 ?_
      obtain ⟨g10, h⟩ := zck_ex h
      obtain ⟨M11, eM11, h⟩ := zlet_ex h
      refine z_iast S hw eM11 (kr_12_23 hG k0) g10 dX12_finds_180 (fun H locs hw => ?_)
      refine lv_aload_n hx hb dX12_finds_181 rfl (lv_at hl 0 rfl) ?_
      refine z_getR S hw k0 fl_X12_56 rfl dX12_finds_182 ?_
      refine lv_aload_n hx hb dX12_finds_185 rfl (lv_at hl 0 rfl) ?_
      refine z_getI S hw k0 fl_X12_129 rfl dX12_finds_186 ?_
      refine lv_dup2_11 hx hb dX12_finds_189 rfl rfl ?_
      obtain ⟨g12, h⟩ := zck_ex h
      refine z_iald S hw (kr_12_23 hG k0) g12 dX12_finds_190 ?_
      refine lv_aload_n hx hb dX12_finds_191 rfl (lv_at hl 0 rfl) ?_
      refine z_getR S hw k0 fl_X12_62 rfl dX12_finds_192 ?_
      refine lv_aload_n hx hb dX12_finds_195 rfl (lv_at hl 0 rfl) ?_
      refine z_getI S hw k0 fl_X12_129 rfl dX12_finds_196 ?_
      obtain ⟨g13, h⟩ := zck_ex h
      refine z_lald S hw (kr_12_25 hG k0) g13 dX12_finds_199 ?_
      refine lv_lconst (v := 0) hx hb dX12_finds_200 (by decide) ?_
      refine W.lcmp hx hb dX12_finds_201 ?_
      refine lv_if_eq (tgt := 226) hx hb dX12_finds_202 (by decide) (fun c14 => ?_) (fun c14 => ?_)
      · have h := zif_t h c14
        exact wJ226 (M11.1 t0 26) (M11.1 (zr t0 23) (M11.1 t0 26).toNatClampNeg) M11 h H locs ls hw (lv_sub hl [0, 1] rfl)
      · have h := zif_f h c14
        refine lv_aload_n hx hb dX12_finds_205 rfl (lv_at hl 0 rfl) ?_
        refine z_getR S hw k0 fl_X12_62 rfl dX12_finds_206 ?_
        refine lv_aload_n hx hb dX12_finds_209 rfl (lv_at hl 0 rfl) ?_
        refine z_getI S hw k0 fl_X12_129 rfl dX12_finds_210 ?_
        obtain ⟨g15, h⟩ := zck_ex h
        refine z_lald S hw (kr_12_25 hG k0) g15 dX12_finds_213 ?_
        refine lv_ldc2 (v := 4294967295) hx hb hown (hts _ kc_X12_142) dX12_finds_214 ?_
        refine W.lcmp hx hb dX12_finds_217 ?_
        refine lv_if_eq (tgt := 226) hx hb dX12_finds_218 (by decide) (fun c16 => ?_) (fun c16 => ?_)
        · have h := zif_t h c16
          exact wJ226 (M11.1 t0 26) (M11.1 (zr t0 23) (M11.1 t0 26).toNatClampNeg) M11 h H locs ls hw (lv_sub hl [0, 1] rfl)
        · have h := zif_f h c16
          refine lv_bipush (v := 32) hx hb dX12_finds_221 (by decide) ?_
          refine lv_goto (tgt := 227) hx hb dX12_finds_223 (by decide) ?_
          exact wJ227 (M11.1 t0 26) (M11.1 (zr t0 23) (M11.1 t0 26).toNatClampNeg) 32 M11 h H locs ls hw (lv_sub hl [0, 1] rfl)
    refine lv_aload_n hx hb dX12_finds_66 rfl (lv_at hl 0 rfl) ?_
    refine z_getI S hw k0 fl_X12_129 rfl dX12_finds_67 ?_
    refine lv_iload_n hx hb dX12_finds_70 rfl (lv_at hl 1 rfl) ?_
    refine lv_icmp_ge (tgt := 242) hx hb dX12_finds_71 (by decide) (fun c17 => ?_) (fun c17 => ?_)
    · have h := zif_t h c17
      exact hK M h H locs ls hw (lv_sub hl [] rfl)
    · have h := zif_f h c17
      refine lv_aload_n hx hb dX12_finds_74 rfl (lv_at hl 0 rfl) ?_
      refine z_getR S hw k0 fl_X12_53 rfl dX12_finds_75 ?_
      refine lv_aload_n hx hb dX12_finds_78 rfl (lv_at hl 0 rfl) ?_
      refine z_getI S hw k0 fl_X12_129 rfl dX12_finds_79 ?_
      refine lv_iconst (v := 0) hx hb dX12_finds_82 (by decide) ?_
      obtain ⟨g18, h⟩ := zck_ex h
      obtain ⟨M19, eM19, h⟩ := zlet_ex h
      refine z_iast S hw eM19 (kr_12_22 hG k0) g18 dX12_finds_83 (fun H locs hw => ?_)
      refine lv_aload_n hx hb dX12_finds_84 rfl (lv_at hl 0 rfl) ?_
      refine lv_iconst (v := 0) hx hb dX12_finds_85 (by decide) ?_
      obtain ⟨M20, eM20, h⟩ := zlet_ex h
      refine z_putI S hw eM20 k0 fl_X12_132 rfl (fun h => absurd h (by decide)) dX12_finds_86 (fun H locs hw => ?_)
      refine lv_aload_n hx hb dX12_finds_89 rfl (lv_at hl 0 rfl) ?_
      refine lv_iconst (v := 1) hx hb dX12_finds_90 (by decide) ?_
      obtain ⟨M21, eM21, h⟩ := zlet_ex h
      refine z_putI S hw eM21 k0 fl_X12_125 rfl (fun _ => by decide) dX12_finds_91 (fun H locs hw => ?_)
      refine lv_aload_n hx hb dX12_finds_94 rfl (lv_at hl 0 rfl) ?_
      refine z_getR S hw k0 fl_X12_62 rfl dX12_finds_95 ?_
      refine lv_aload_n hx hb dX12_finds_98 rfl (lv_at hl 0 rfl) ?_
      refine z_getI S hw k0 fl_X12_129 rfl dX12_finds_99 ?_
      refine lv_aload_n hx hb dX12_finds_102 rfl (lv_at hl 0 rfl) ?_
      refine lv_aload_n hx hb dX12_finds_103 rfl (lv_at hl 0 rfl) ?_
      refine z_getI S hw k0 fl_X12_129 rfl dX12_finds_104 ?_
      obtain ⟨q22, eq22, h⟩ := Option.bind_eq_some_iff.mp h
      refine z_callV (ci := 12) (As := [.int (M21.1 t0 26)]) (rest := [.int (M21.1 t0 26), .ref (za G (zr t0 25))]) (rv := (some (.long q22.1))) (M1 := q22.2) S hw (c_X12_meansNow l hG t0 (M21.1 t0 26) k0 M21 q22 eq22) mv_X12_meansNow lk_X12_154 k0 ⟨_, _, rfl⟩ (by decide) rfl rfl (Nat.le_of_ble_eq_true rfl) ⟨Nat.le_of_ble_eq_true rfl, Nat.le_of_ble_eq_true rfl⟩ hl.1 dX12_finds_107 (fun H locs hw => ?_)
      obtain ⟨g23, h⟩ := zck_ex h
      obtain ⟨M24, eM24, h⟩ := zlet_ex h
      refine z_last S hw eM24 (kr_12_25 hG k0) g23 dX12_finds_110 (fun H locs hw => ?_)
      refine lv_aload_n hx hb dX12_finds_111 rfl (lv_at hl 0 rfl) ?_
      refine lv_iconst (v := 0) hx hb dX12_finds_112 (by decide) ?_
      obtain ⟨M25, eM25, h⟩ := zlet_ex h
      refine z_putI S hw eM25 k0 fl_X12_125 rfl (fun _ => by decide) dX12_finds_113 (fun H locs hw => ?_)
      refine lv_aload_n hx hb dX12_finds_116 rfl (lv_at hl 0 rfl) ?_
      refine z_getR S hw k0 fl_X12_56 rfl dX12_finds_117 ?_
      refine lv_aload_n hx hb dX12_finds_120 rfl (lv_at hl 0 rfl) ?_
      refine z_getI S hw k0 fl_X12_129 rfl dX12_finds_121 ?_
      refine lv_aload_n hx hb dX12_finds_124 rfl (lv_at hl 0 rfl) ?_
      refine z_getI S hw k0 fl_X12_132 rfl dX12_finds_125 ?_
      refine lv_iconst (v := (-1)) hx hb dX12_finds_128 (by decide) ?_
      refine lv_ixor hx hb dX12_finds_129 ?_
      refine lv_bipush (v := 15) hx hb dX12_finds_130 (by decide) ?_
      refine lv_iand hx hb dX12_finds_132 ?_
      obtain ⟨g26, h⟩ := zck_ex h
      obtain ⟨M27, eM27, h⟩ := zlet_ex h
      refine z_iast S hw eM27 (kr_12_23 hG k0) g26 dX12_finds_133 (fun H locs hw => ?_)
      refine lv_aload_n hx hb dX12_finds_134 rfl (lv_at hl 0 rfl) ?_
      refine z_getR S hw k0 fl_X12_59 rfl dX12_finds_135 ?_
      refine lv_aload_n hx hb dX12_finds_138 rfl (lv_at hl 0 rfl) ?_
      refine z_getI S hw k0 fl_X12_129 rfl dX12_finds_139 ?_
      refine lv_aload_n hx hb dX12_finds_142 rfl (lv_at hl 0 rfl) ?_
      refine lv_aload_n hx hb dX12_finds_143 rfl (lv_at hl 0 rfl) ?_
      refine z_getI S hw k0 fl_X12_129 rfl dX12_finds_144 ?_
      obtain ⟨q28, eq28, h⟩ := Option.bind_eq_some_iff.mp h
      refine z_callV (ci := 12) (As := [.int (M27.1 t0 26)]) (rest := [.int (M27.1 t0 26), .ref (za G (zr t0 24))]) (rv := (some (.int q28.1))) (M1 := q28.2) S hw (c_X12_idleIn l hG t0 (M27.1 t0 26) k0 M27 q28 eq28) mv_X12_idleIn lk_X12_173 k0 ⟨_, _, rfl⟩ (by decide) rfl rfl (Nat.le_of_ble_eq_true rfl) ⟨Nat.le_of_ble_eq_true rfl, Nat.le_of_ble_eq_true rfl⟩ hl.1 dX12_finds_147 (fun H locs hw => ?_)
      obtain ⟨g29, h⟩ := zck_ex h
      obtain ⟨M30, eM30, h⟩ := zlet_ex h
      refine z_iast S hw eM30 (kr_12_24 hG k0) g29 dX12_finds_150 (fun H locs hw => ?_)
      refine lv_aload_n hx hb dX12_finds_151 rfl (lv_at hl 0 rfl) ?_
      refine z_getR S hw k0 fl_X12_56 rfl dX12_finds_152 ?_
      refine lv_aload_n hx hb dX12_finds_155 rfl (lv_at hl 0 rfl) ?_
      refine z_getI S hw k0 fl_X12_129 rfl dX12_finds_156 ?_
      refine lv_dup2_11 hx hb dX12_finds_159 rfl rfl ?_
      obtain ⟨g31, h⟩ := zck_ex h
      refine z_iald S hw (kr_12_23 hG k0) g31 dX12_finds_160 ?_
      refine lv_aload_n hx hb dX12_finds_161 rfl (lv_at hl 0 rfl) ?_
      refine z_getR S hw k0 fl_X12_59 rfl dX12_finds_162 ?_
      refine lv_aload_n hx hb dX12_finds_165 rfl (lv_at hl 0 rfl) ?_
      refine z_getI S hw k0 fl_X12_129 rfl dX12_finds_166 ?_
      obtain ⟨g32, h⟩ := zck_ex h
      refine z_iald S hw (kr_12_24 hG k0) g32 dX12_finds_169 ?_
      refine lv_if_ne (tgt := 178) hx hb dX12_finds_170 (by decide) (fun c33 => ?_) (fun c33 => ?_)
      · have h := zif_f h c33
        refine lv_iconst (v := 0) hx hb dX12_finds_178 (by decide) ?_
        exact wJ179 (M30.1 t0 26) (M30.1 (zr t0 23) (M30.1 t0 26).toNatClampNeg) 0 M30 h H locs ls hw (lv_sub hl [0, 1] rfl)
      · have h := zif_t h c33
        refine lv_bipush (v := 16) hx hb dX12_finds_173 (by decide) ?_
        refine lv_goto (tgt := 179) hx hb dX12_finds_175 (by decide) ?_
        exact wJ179 (M30.1 t0 26) (M30.1 (zr t0 23) (M30.1 t0 26).toNatClampNeg) 16 M30 h H locs ls hw (lv_sub hl [0, 1] rfl)
set_option maxHeartbeats 4000000 in
set_option maxRecDepth 100000 in
theorem w_X12_finds_2 {G : ZG} (hG : zOk G) (S : zX p (zR 45) s m args c 0 0 cX12_finds 2 RX12) (hr : meth.sig.returnType = none) (hlk : meth.locks = false) (t0 : Nat) (k0 : zk G t0 = 22)  {K : ZM → Option ZM} {res : ZM} (hK : ∀  (M : ZM), K M = some res → ∀ (H : Heap) (locs : List Loc) (ls : Array Slot), zWd G A s H locs M → lv_has ls 2 [(0, .ref (za G t0))] → W p l e (zR 45) s m args below meth c H locs 0 0 (zQ below G A none res args s) (F0 m 23 ls [])) : ∀ (n : Nat) (v1 : Int32) (M : ZM), f_X12_finds_2 t0 K n v1 M = some res → ∀ (H : Heap) (locs : List Loc) (ls : Array Slot), zWd G A s H locs M → lv_has ls 2 [(0, .ref (za G t0)), (1, .int v1)] → W p l e (zR 45) s m args below meth c H locs 0 0 (zQ below G A none res args s) (F0 m 2 ls []) := by
  have hx := S.1.1
  have hb := S.1.2.1
  have hown := S.1.2.2.2.1
  have hts := S.1.2.2.2.2
  intro n
  induction n with
  | zero =>
    intro v1 M h
    rw [f_X12_finds_2] at h
    cases h
  | succ n ih =>
    intro v1 M h H locs ls hw hl
    rw [f_X12_finds_2] at h
    refine lv_iload_n hx hb dX12_finds_2 rfl (lv_at hl 1 rfl) ?_
    refine lv_iconst (v := 5) hx hb dX12_finds_3 (by decide) ?_
    refine lv_icmp_ge (tgt := 23) hx hb dX12_finds_4 (by decide) (fun c34 => ?_) (fun c34 => ?_)
    · have h := zif_t h c34
      exact hK M h H locs ls hw (lv_sub hl [0] rfl)
    · have h := zif_f h c34
      refine lv_aload_n hx hb dX12_finds_7 rfl (lv_at hl 0 rfl) ?_
      refine z_getR S hw k0 fl_X12_69 rfl dX12_finds_8 ?_
      refine lv_iload_n hx hb dX12_finds_11 rfl (lv_at hl 1 rfl) ?_
      refine lv_iload_n hx hb dX12_finds_12 rfl (lv_at hl 1 rfl) ?_
      obtain ⟨q35, eq35, h⟩ := Option.bind_eq_some_iff.mp h
      refine z_callS (As := [.int v1]) (rest := [.int v1, .ref (za G (zr t0 32))]) (rv := (some (.long q35))) (M1 := M) S hw (c_X12_mask l hG v1 M q35 eq35) mv_X12_mask lk_X12_158 rfl rfl (Nat.le_of_ble_eq_true rfl) ⟨Nat.le_of_ble_eq_true rfl, Nat.le_of_ble_eq_true rfl⟩ hl.1 dX12_finds_13 (fun H locs hw => ?_)
      obtain ⟨g36, h⟩ := zck_ex h
      obtain ⟨M37, eM37, h⟩ := zlet_ex h
      refine z_last S hw eM37 (kr_12_32 hG k0) g36 dX12_finds_16 (fun H locs hw => ?_)
      obtain ⟨x38, ex38, h⟩ := zlet_ex h
      refine lv_iinc (v := x38) (lv' := [(1, .int x38), (0, .ref (za G t0))]) hx hb dX12_finds_17 hl (k := 1) rfl (by rw [ex38]; rfl) (by decide) rfl (fun ls hl => ?_)
      refine lv_goto (tgt := 2) hx hb dX12_finds_20 (by decide) ?_
      exact ih x38 M37 h H locs ls hw (lv_sub hl [1, 0] rfl)
set_option maxHeartbeats 4000000 in
set_option maxRecDepth 100000 in
theorem c_X12_finds (l : Launch) {G : ZG} (hG : zOk G) (t0 : Nat) (k0 : zk G t0 = 22) (M : ZM) (res : ZM) (h : f_X12_finds t0 M = some res) : zCt l yX12_finds cX12_finds 2 none 45 G [.ref (za G t0)] M none res := by
  refine zCt.mk (by decide +kernel) (Nat.le_of_ble_eq_true rfl) ?_
  intro p e s m args below meth c A H locs ls S hr hlk hw hl
  have S : zX p (zR 45) s m args c 0 0 cX12_finds 2 RX12 := S
  have hx := S.1.1
  have hb := S.1.2.1
  have hown := S.1.2.2.2.1
  have hts := S.1.2.2.2.2
  have hl : lv_has ls 2 [(0, .ref (za G t0))] := hl
  unfold f_X12_finds at h
  obtain ⟨J44, hJ44, h⟩ := zlet_ex h
  have wJ44 : ∀ (s1 : Int32) (M : ZM), J44 s1 M = some res → ∀ (H : Heap) (locs : List Loc) (ls : Array Slot), zWd G A s H locs M → lv_has ls 2 [(0, .ref (za G t0))] → W p l e (zR 45) s m args below meth c H locs 0 0 (zQ below G A none res args s) (F0 m 44 ls [.int s1, .ref (za G t0)]) := by
    intro s1 M h H locs ls hw hl
    subst hJ44
    obtain ⟨g1, h⟩ := zck_ex h
    obtain ⟨M2, eM2, h⟩ := zlet_ex h
    refine z_putI S hw eM2 k0 fl_X12_170 rfl (fun _ => zbo_of g1) dX12_finds_44 (fun H locs hw => ?_)
    refine lv_aload_n hx hb dX12_finds_47 rfl (lv_at hl 0 rfl) ?_
    refine z_getI S hw k0 fl_X12_170 rfl dX12_finds_48 ?_
    refine lv_if_ne (tgt := 55) hx hb dX12_finds_51 (by decide) (fun c3 => ?_) (fun c3 => ?_)
    · have h := zif_f h c3
      refine lv_aload_n hx hb dX12_finds_55 rfl (lv_at hl 0 rfl) ?_
      obtain ⟨q4, eq4, h⟩ := Option.bind_eq_some_iff.mp h
      refine z_callV (ci := 12) (As := []) (rest := []) (rv := (some (.long q4))) (M1 := M2) S hw (c_X12_readings l hG t0 k0 M2 q4 eq4) mv_X12_readings lk_X12_164 k0 ⟨_, _, rfl⟩ (by decide) rfl rfl (Nat.le_of_ble_eq_true rfl) ⟨Nat.le_of_ble_eq_true rfl, Nat.le_of_ble_eq_true rfl⟩ hl.1 dX12_finds_56 (fun H locs hw => ?_)
      refine lv_l2i (v := (q4.toInt32)) hx hb dX12_finds_59 rfl ?_
      obtain ⟨x5, ex5, h⟩ := zlet_ex h
      refine lv_topiE ex5 ?_
      refine lv_istore_n (lv' := [(1, .int x5), (0, .ref (za G t0))]) hx hb dX12_finds_60 rfl hl (by decide) rfl (fun ls hl => ?_)
      refine lv_aload_n hx hb dX12_finds_61 rfl (lv_at hl 1 rfl) ?_
      refine lv_iconst (v := 0) hx hb dX12_finds_62 (by decide) ?_
      obtain ⟨M6, eM6, h⟩ := zlet_ex h
      refine z_putI S hw eM6 k0 fl_X12_129 rfl (fun h => absurd h (by decide)) dX12_finds_63 (fun H locs hw => ?_)
      refine w_X12_finds_66 hG S hr hlk t0 x5 k0 (fun M h H locs ls hw hl => ?_) zN M6 h H locs ls hw (lv_sub hl [1, 0] rfl)
      have h := Option.some.inj h
      subst h
      exact z_ret_v S hr hlk hw dX12_finds_242
    · have h := zif_t h c3
      have h := Option.some.inj h
      subst h
      exact z_ret_v S hr hlk hw dX12_finds_54
  refine lv_iconst (v := 0) hx hb dX12_finds_0 (by decide) ?_
  refine lv_istore_n (lv' := [(1, .int 0), (0, .ref (za G t0))]) hx hb dX12_finds_1 rfl hl (by decide) rfl (fun ls hl => ?_)
  refine w_X12_finds_2 hG S hr hlk t0 k0 (fun M h H locs ls hw hl => ?_) zN 0 M h H locs ls hw (lv_sub hl [1, 0] rfl)
  refine lv_aload_n hx hb dX12_finds_23 rfl (lv_at hl 0 rfl) ?_
  obtain ⟨q39, eq39, h⟩ := Option.bind_eq_some_iff.mp h
  refine z_callV (ci := 12) (As := []) (rest := []) (rv := none) (M1 := q39) S hw (c_X12_findWays l hG t0 k0 M q39 eq39) mv_X12_findWays lk_X12_161 k0 ⟨_, _, rfl⟩ (by decide) rfl rfl (Nat.le_of_ble_eq_true rfl) ⟨Nat.le_of_ble_eq_true rfl, Nat.le_of_ble_eq_true rfl⟩ hl.1 dX12_finds_24 (fun H locs hw => ?_)
  refine lv_aload_n hx hb dX12_finds_27 rfl (lv_at hl 0 rfl) ?_
  refine lv_aload_n hx hb dX12_finds_28 rfl (lv_at hl 0 rfl) ?_
  obtain ⟨q40, eq40, h⟩ := Option.bind_eq_some_iff.mp h
  refine z_callV (ci := 12) (As := []) (rest := [.ref (za G t0)]) (rv := (some (.long q40))) (M1 := q39) S hw (c_X12_readings l hG t0 k0 q39 q40 eq40) mv_X12_readings lk_X12_164 k0 ⟨_, _, rfl⟩ (by decide) rfl rfl (Nat.le_of_ble_eq_true rfl) ⟨Nat.le_of_ble_eq_true rfl, Nat.le_of_ble_eq_true rfl⟩ hl.1 dX12_finds_29 (fun H locs hw => ?_)
  refine lv_ldc2 (v := 200) hx hb hown (hts _ kc_X12_168) dX12_finds_32 ?_
  refine W.lcmp hx hb dX12_finds_35 ?_
  refine lv_if_gt (tgt := 43) hx hb dX12_finds_36 (by decide) (fun c41 => ?_) (fun c41 => ?_)
  · have h := zif_t h c41
    refine lv_iconst (v := 0) hx hb dX12_finds_43 (by decide) ?_
    exact wJ44 0 q39 h H locs ls hw (lv_sub hl [0] rfl)
  · have h := zif_f h c41
    refine lv_iconst (v := 1) hx hb dX12_finds_39 (by decide) ?_
    refine lv_goto (tgt := 44) hx hb dX12_finds_40 (by decide) ?_
    exact wJ44 1 q39 h H locs ls hw (lv_sub hl [0] rfl)
def f_X12_read_33 (t0 : Nat) (v2 : Int32) (K : ZM → Option (Int32 × ZM)) : Nat → Int32 → ZM → Option (Int32 × ZM)
  | 0, _, _ => none
  | n + 1, v3, M =>
    if v2 ≤ v3 then (
      K M) else (
      zck (zin v3 (zn (zr t0 2))) <|
      zck (zin v3 (zn (zr t0 1))) <|
      zlet (zi M (zr t0 1) v3.toNatClampNeg (M.1 (zr t0 2) v3.toNatClampNeg)) fun (M8 : ZM) =>
      zlet (v3 + 1) fun (x9 : Int32) =>
      f_X12_read_33 t0 v2 K n x9 M8)

def f_X12_read (t0 : Nat) (M : ZM) : Option (Int32 × ZM) :=
  (f_X12_fault (zr t0 2) (M.1 t0 11) M).bind fun (q1 : Int32) =>
  zlet (M.1 t0 11) fun (x2 : Int32) =>
  zlet (zi M t0 11 0) fun (M3 : ZM) =>
  if q1 < 0 then (
    f_X12_read_33 t0 x2 (fun (M : ZM) =>
      zlet (zi M t0 10 x2) fun (M10 : ZM) =>
      (f_X12_finds t0 M10).bind fun (q11 : ZM) =>
      some ((q11.1 t0 10), q11)) zN 0 M3) else (
    some (((-20) - q1), M3))
set_option maxHeartbeats 4000000 in
set_option maxRecDepth 100000 in
theorem w_X12_read_33 {G : ZG} (hG : zOk G) (S : zX p (zR 46) s m args c 0 0 cX12_read 4 RX12) (hr : meth.sig.returnType = (Option.some FieldType.int)) (hlk : meth.locks = false) (t0 : Nat) (v2 : Int32) (k0 : zk G t0 = 22)  {K : ZM → Option (Int32 × ZM)} {res : (Int32 × ZM)} (hK : ∀  (M : ZM), K M = some res → ∀ (H : Heap) (locs : List Loc) (ls : Array Slot), zWd G A s H locs M → lv_has ls 4 [(0, .ref (za G t0)), (2, .int v2)] → W p l e (zR 46) s m args below meth c H locs 0 0 (zQ below G A (some (.int res.1)) res.2 args s) (F0 m 56 ls [])) : ∀ (n : Nat) (v3 : Int32) (M : ZM), f_X12_read_33 t0 v2 K n v3 M = some res → ∀ (H : Heap) (locs : List Loc) (ls : Array Slot), zWd G A s H locs M → lv_has ls 4 [(0, .ref (za G t0)), (2, .int v2), (3, .int v3)] → W p l e (zR 46) s m args below meth c H locs 0 0 (zQ below G A (some (.int res.1)) res.2 args s) (F0 m 33 ls []) := by
  have hx := S.1.1
  have hb := S.1.2.1
  have hown := S.1.2.2.2.1
  have hts := S.1.2.2.2.2
  intro n
  induction n with
  | zero =>
    intro v3 M h
    rw [f_X12_read_33] at h
    cases h
  | succ n ih =>
    intro v3 M h H locs ls hw hl
    rw [f_X12_read_33] at h
    refine lv_iload_n hx hb dX12_read_33 rfl (lv_at hl 2 rfl) ?_
    refine lv_iload_n hx hb dX12_read_34 rfl (lv_at hl 1 rfl) ?_
    refine lv_icmp_ge (tgt := 56) hx hb dX12_read_35 (by decide) (fun c5 => ?_) (fun c5 => ?_)
    · have h := zif_t h c5
      exact hK M h H locs ls hw (lv_sub hl [0, 1] rfl)
    · have h := zif_f h c5
      refine lv_aload_n hx hb dX12_read_38 rfl (lv_at hl 0 rfl) ?_
      refine z_getR S hw k0 fl_X12_13 rfl dX12_read_39 ?_
      refine lv_iload_n hx hb dX12_read_42 rfl (lv_at hl 2 rfl) ?_
      refine lv_aload_n hx hb dX12_read_43 rfl (lv_at hl 0 rfl) ?_
      refine z_getR S hw k0 fl_X12_16 rfl dX12_read_44 ?_
      refine lv_iload_n hx hb dX12_read_47 rfl (lv_at hl 2 rfl) ?_
      obtain ⟨g6, h⟩ := zck_ex h
      refine z_iald S hw (kr_12_2 hG k0) g6 dX12_read_48 ?_
      obtain ⟨g7, h⟩ := zck_ex h
      obtain ⟨M8, eM8, h⟩ := zlet_ex h
      refine z_iast S hw eM8 (kr_12_1 hG k0) g7 dX12_read_49 (fun H locs hw => ?_)
      obtain ⟨x9, ex9, h⟩ := zlet_ex h
      refine lv_iinc (v := x9) (lv' := [(3, .int x9), (0, .ref (za G t0)), (2, .int v2)]) hx hb dX12_read_50 hl (k := 2) rfl (by rw [ex9]; rfl) (by decide) rfl (fun ls hl => ?_)
      refine lv_goto (tgt := 33) hx hb dX12_read_53 (by decide) ?_
      exact ih x9 M8 h H locs ls hw (lv_sub hl [1, 2, 0] rfl)
set_option maxHeartbeats 4000000 in
set_option maxRecDepth 100000 in
theorem c_X12_read (l : Launch) {G : ZG} (hG : zOk G) (t0 : Nat) (k0 : zk G t0 = 22) (M : ZM) (res : (Int32 × ZM)) (h : f_X12_read t0 M = some res) : zCt l yX12_read cX12_read 4 (Option.some FieldType.int) 46 G [.ref (za G t0)] M (some (.int res.1)) res.2 := by
  refine zCt.mk (by decide +kernel) (Nat.le_of_ble_eq_true rfl) ?_
  intro p e s m args below meth c A H locs ls S hr hlk hw hl
  have S : zX p (zR 46) s m args c 0 0 cX12_read 4 RX12 := S
  have hx := S.1.1
  have hb := S.1.2.1
  have hown := S.1.2.2.2.1
  have hts := S.1.2.2.2.2
  have hl : lv_has ls 4 [(0, .ref (za G t0))] := hl
  unfold f_X12_read at h
  refine lv_aload_n hx hb dX12_read_0 rfl (lv_at hl 0 rfl) ?_
  refine z_getR S hw k0 fl_X12_16 rfl dX12_read_1 ?_
  refine lv_aload_n hx hb dX12_read_4 rfl (lv_at hl 0 rfl) ?_
  refine z_getI S hw k0 fl_X12_95 rfl dX12_read_5 ?_
  obtain ⟨q1, eq1, h⟩ := Option.bind_eq_some_iff.mp h
  refine z_callS (As := [.ref (za G (zr t0 2)), .int (M.1 t0 11)]) (rest := []) (rv := (some (.int q1))) (M1 := M) S hw (c_X12_fault l hG (zr t0 2) (M.1 t0 11) (kr_12_2 hG k0) M q1 eq1) mv_X12_fault lk_X12_107 rfl rfl (Nat.le_of_ble_eq_true rfl) ⟨Nat.le_of_ble_eq_true rfl, Nat.le_of_ble_eq_true rfl⟩ hl.1 dX12_read_8 (fun H locs hw => ?_)
  refine lv_istore_n (lv' := [(1, .int q1), (0, .ref (za G t0))]) hx hb dX12_read_11 rfl hl (by decide) rfl (fun ls hl => ?_)
  refine lv_aload_n hx hb dX12_read_12 rfl (lv_at hl 1 rfl) ?_
  refine z_getI S hw k0 fl_X12_95 rfl dX12_read_13 ?_
  obtain ⟨x2, ex2, h⟩ := zlet_ex h
  refine lv_topiE ex2 ?_
  refine lv_istore_n (lv' := [(2, .int x2), (1, .int q1), (0, .ref (za G t0))]) hx hb dX12_read_16 rfl hl (by decide) rfl (fun ls hl => ?_)
  refine lv_aload_n hx hb dX12_read_17 rfl (lv_at hl 2 rfl) ?_
  refine lv_iconst (v := 0) hx hb dX12_read_18 (by decide) ?_
  obtain ⟨M3, eM3, h⟩ := zlet_ex h
  refine z_putI S hw eM3 k0 fl_X12_95 rfl (fun h => absurd h (by decide)) dX12_read_19 (fun H locs hw => ?_)
  refine lv_iload_n hx hb dX12_read_22 rfl (lv_at hl 1 rfl) ?_
  refine lv_if_lt (tgt := 31) hx hb dX12_read_23 (by decide) (fun c4 => ?_) (fun c4 => ?_)
  · have h := zif_t h c4
    refine lv_iconst (v := 0) hx hb dX12_read_31 (by decide) ?_
    refine lv_istore_n (lv' := [(3, .int 0), (2, .int x2), (1, .int q1), (0, .ref (za G t0))]) hx hb dX12_read_32 rfl hl (by decide) rfl (fun ls hl => ?_)
    refine w_X12_read_33 hG S hr hlk t0 x2 k0 (fun M h H locs ls hw hl => ?_) zN 0 M3 h H locs ls hw (lv_sub hl [3, 1, 0] rfl)
    refine lv_aload_n hx hb dX12_read_56 rfl (lv_at hl 0 rfl) ?_
    refine lv_iload_n hx hb dX12_read_57 rfl (lv_at hl 1 rfl) ?_
    obtain ⟨M10, eM10, h⟩ := zlet_ex h
    refine z_putI S hw eM10 k0 fl_X12_85 rfl (fun h => absurd h (by decide)) dX12_read_58 (fun H locs hw => ?_)
    refine lv_aload_n hx hb dX12_read_61 rfl (lv_at hl 0 rfl) ?_
    obtain ⟨q11, eq11, h⟩ := Option.bind_eq_some_iff.mp h
    refine z_callV (ci := 12) (As := []) (rest := []) (rv := none) (M1 := q11) S hw (c_X12_finds l hG t0 k0 M10 q11 eq11) mv_X12_finds lk_X12_88 k0 ⟨_, _, rfl⟩ (by decide) rfl rfl (Nat.le_of_ble_eq_true rfl) ⟨Nat.le_of_ble_eq_true rfl, Nat.le_of_ble_eq_true rfl⟩ hl.1 dX12_read_62 (fun H locs hw => ?_)
    refine lv_aload_n hx hb dX12_read_65 rfl (lv_at hl 0 rfl) ?_
    refine z_getI S hw k0 fl_X12_85 rfl dX12_read_66 ?_
    have h := Option.some.inj h
    subst h
    exact z_ret_i S hr hlk hw dX12_read_69
  · have h := zif_f h c4
    refine lv_bipush (v := (-20)) hx hb dX12_read_26 (by decide) ?_
    refine lv_iload_n hx hb dX12_read_28 rfl (lv_at hl 1 rfl) ?_
    refine lv_isub hx hb dX12_read_29 ?_
    have h := Option.some.inj h
    subst h
    exact z_ret_i S hr hlk hw dX12_read_30
def f_X12_wordAt (t0 : Nat) (v1 : Int32) (M : ZM) : Option Int32 :=
  zlet (f_X12_isIn v1 (M.1 t0 10) M) fun (q1 : Int32) =>
  if q1 = 0 then (
    some ((-9) : Int32)) else (
    zck (zin v1 (zn (zr t0 1))) <|
    some (M.1 (zr t0 1) v1.toNatClampNeg))
set_option maxHeartbeats 4000000 in
set_option maxRecDepth 100000 in
theorem c_X12_wordAt (l : Launch) {G : ZG} (hG : zOk G) (t0 : Nat) (v1 : Int32) (k0 : zk G t0 = 22) (M : ZM) (res : Int32) (h : f_X12_wordAt t0 v1 M = some res) : zCt l yX12_wordAt cX12_wordAt 2 (Option.some FieldType.int) 1 G [.ref (za G t0), .int v1] M (some (.int res)) M := by
  refine zCt.mk (by decide +kernel) (Nat.le_of_ble_eq_true rfl) ?_
  intro p e s m args below meth c A H locs ls S hr hlk hw hl
  have S : zX p (zR 1) s m args c 0 0 cX12_wordAt 2 RX12 := S
  have hx := S.1.1
  have hb := S.1.2.1
  have hown := S.1.2.2.2.1
  have hts := S.1.2.2.2.2
  have hl : lv_has ls 2 [(0, .ref (za G t0)), (1, .int v1)] := hl
  unfold f_X12_wordAt at h
  refine lv_iload_n hx hb dX12_wordAt_0 rfl (lv_at hl 1 rfl) ?_
  refine lv_aload_n hx hb dX12_wordAt_1 rfl (lv_at hl 0 rfl) ?_
  refine z_getI S hw k0 fl_X12_85 rfl dX12_wordAt_2 ?_
  obtain ⟨q1, eq1, h⟩ := zlet_ex h
  refine z_callS (As := [.int v1, .int (M.1 t0 10)]) (rest := []) (rv := (some (.int q1))) (M1 := M) S hw (c_X12_isIn l hG v1 (M.1 t0 10) M q1 eq1.symm) mv_X12_isIn lk_X12_111 rfl rfl (Nat.le_of_ble_eq_true rfl) ⟨Nat.le_of_ble_eq_true rfl, Nat.le_of_ble_eq_true rfl⟩ hl.1 dX12_wordAt_5 (fun H locs hw => ?_)
  refine lv_if_eq (tgt := 20) hx hb dX12_wordAt_8 (by decide) (fun c2 => ?_) (fun c2 => ?_)
  · have h := zif_t h c2
    refine lv_bipush (v := (-9)) hx hb dX12_wordAt_20 (by decide) ?_
    have h := Option.some.inj h
    subst h
    exact z_ret_i S hr hlk hw dX12_wordAt_22
  · have h := zif_f h c2
    refine lv_aload_n hx hb dX12_wordAt_11 rfl (lv_at hl 0 rfl) ?_
    refine z_getR S hw k0 fl_X12_13 rfl dX12_wordAt_12 ?_
    refine lv_iload_n hx hb dX12_wordAt_15 rfl (lv_at hl 1 rfl) ?_
    obtain ⟨g3, h⟩ := zck_ex h
    refine z_iald S hw (kr_12_1 hG k0) g3 dX12_wordAt_16 ?_
    refine lv_goto (tgt := 22) hx hb dX12_wordAt_17 (by decide) ?_
    have h := Option.some.inj h
    subst h
    exact z_ret_i S hr hlk hw dX12_wordAt_22
def f_X12_wrong (t0 : Nat) (v1 : Int32) (M : ZM) : Int32 :=
  if (M.1 t0 29) = 0 then (
    ((-5) : Int32)) else (
    zlet (f_X12_isIn v1 (M.1 t0 26) M) fun (q2 : Int32) =>
    if q2 = 0 then (
      ((-1) : Int32)) else (
      (0 : Int32)))
set_option maxHeartbeats 4000000 in
set_option maxRecDepth 100000 in
theorem c_X12_wrong (l : Launch) {G : ZG} (hG : zOk G) (t0 : Nat) (v1 : Int32) (k0 : zk G t0 = 22) (M : ZM) (res : Int32) (h : f_X12_wrong t0 v1 M = res) : zCt l yX12_wrong cX12_wrong 2 (Option.some FieldType.int) 1 G [.ref (za G t0), .int v1] M (some (.int res)) M := by
  refine zCt.mk (by decide +kernel) (Nat.le_of_ble_eq_true rfl) ?_
  intro p e s m args below meth c A H locs ls S hr hlk hw hl
  have S : zX p (zR 1) s m args c 0 0 cX12_wrong 2 RX12 := S
  have hx := S.1.1
  have hb := S.1.2.1
  have hown := S.1.2.2.2.1
  have hts := S.1.2.2.2.2
  have hl : lv_has ls 2 [(0, .ref (za G t0)), (1, .int v1)] := hl
  unfold f_X12_wrong at h
  refine lv_aload_n hx hb dX12_wrong_0 rfl (lv_at hl 0 rfl) ?_
  refine z_getI S hw k0 fl_X12_170 rfl dX12_wrong_1 ?_
  refine lv_if_ne (tgt := 12) hx hb dX12_wrong_4 (by decide) (fun c1 => ?_) (fun c1 => ?_)
  · have h := zif_f h c1
    refine lv_iload_n hx hb dX12_wrong_12 rfl (lv_at hl 1 rfl) ?_
    refine lv_aload_n hx hb dX12_wrong_13 rfl (lv_at hl 0 rfl) ?_
    refine z_getI S hw k0 fl_X12_129 rfl dX12_wrong_14 ?_
    obtain ⟨q2, eq2, h⟩ := zlet_ex h
    refine z_callS (As := [.int v1, .int (M.1 t0 26)]) (rest := []) (rv := (some (.int q2))) (M1 := M) S hw (c_X12_isIn l hG v1 (M.1 t0 26) M q2 eq2.symm) mv_X12_isIn lk_X12_111 rfl rfl (Nat.le_of_ble_eq_true rfl) ⟨Nat.le_of_ble_eq_true rfl, Nat.le_of_ble_eq_true rfl⟩ hl.1 dX12_wrong_17 (fun H locs hw => ?_)
    refine lv_if_eq (tgt := 27) hx hb dX12_wrong_20 (by decide) (fun c3 => ?_) (fun c3 => ?_)
    · have h := zif_t h c3
      refine lv_iconst (v := (-1)) hx hb dX12_wrong_27 (by decide) ?_
      subst h
      exact z_ret_i S hr hlk hw dX12_wrong_28
    · have h := zif_f h c3
      refine lv_iconst (v := 0) hx hb dX12_wrong_23 (by decide) ?_
      refine lv_goto (tgt := 28) hx hb dX12_wrong_24 (by decide) ?_
      subst h
      exact z_ret_i S hr hlk hw dX12_wrong_28
  · have h := zif_t h c1
    refine lv_bipush (v := (-5)) hx hb dX12_wrong_7 (by decide) ?_
    refine lv_goto (tgt := 28) hx hb dX12_wrong_9 (by decide) ?_
    subst h
    exact z_ret_i S hr hlk hw dX12_wrong_28
def f_X12_nodes (t0 : Nat) (v1 : Int32) (M : ZM) : Option (Int32 × ZM) :=
  zlet (f_X12_wrong t0 v1 M) fun (q1 : Int32) =>
  if q1 = 0 then (
    zck (zin v1 (zn (zr t0 22))) <|
    some ((M.1 (zr t0 22) v1.toNatClampNeg), M)) else (
    (f_X12_refuse t0 q1 M).bind fun (q4 : (Int32 × ZM)) =>
    some (q4.1, q4.2))
set_option maxHeartbeats 4000000 in
set_option maxRecDepth 100000 in
theorem c_X12_nodes (l : Launch) {G : ZG} (hG : zOk G) (t0 : Nat) (v1 : Int32) (k0 : zk G t0 = 22) (M : ZM) (res : (Int32 × ZM)) (h : f_X12_nodes t0 v1 M = some res) : zCt l yX12_nodes cX12_nodes 3 (Option.some FieldType.int) 2 G [.ref (za G t0), .int v1] M (some (.int res.1)) res.2 := by
  refine zCt.mk (by decide +kernel) (Nat.le_of_ble_eq_true rfl) ?_
  intro p e s m args below meth c A H locs ls S hr hlk hw hl
  have S : zX p (zR 2) s m args c 0 0 cX12_nodes 3 RX12 := S
  have hx := S.1.1
  have hb := S.1.2.1
  have hown := S.1.2.2.2.1
  have hts := S.1.2.2.2.2
  have hl : lv_has ls 3 [(0, .ref (za G t0)), (1, .int v1)] := hl
  unfold f_X12_nodes at h
  refine lv_aload_n hx hb dX12_nodes_0 rfl (lv_at hl 0 rfl) ?_
  refine lv_iload_n hx hb dX12_nodes_1 rfl (lv_at hl 1 rfl) ?_
  obtain ⟨q1, eq1, h⟩ := zlet_ex h
  refine z_callV (ci := 12) (As := [.int v1]) (rest := []) (rv := (some (.int q1))) (M1 := M) S hw (c_X12_wrong l hG t0 v1 k0 M q1 eq1.symm) mv_X12_wrong lk_X12_176 k0 ⟨_, _, rfl⟩ (by decide) rfl rfl (Nat.le_of_ble_eq_true rfl) ⟨Nat.le_of_ble_eq_true rfl, Nat.le_of_ble_eq_true rfl⟩ hl.1 dX12_nodes_2 (fun H locs hw => ?_)
  refine lv_istore_n (lv' := [(2, .int q1), (0, .ref (za G t0)), (1, .int v1)]) hx hb dX12_nodes_5 rfl hl (by decide) rfl (fun ls hl => ?_)
  refine lv_iload_n hx hb dX12_nodes_6 rfl (lv_at hl 0 rfl) ?_
  refine lv_if_eq (tgt := 18) hx hb dX12_nodes_7 (by decide) (fun c2 => ?_) (fun c2 => ?_)
  · have h := zif_t h c2
    refine lv_aload_n hx hb dX12_nodes_18 rfl (lv_at hl 1 rfl) ?_
    refine z_getR S hw k0 fl_X12_53 rfl dX12_nodes_19 ?_
    refine lv_iload_n hx hb dX12_nodes_22 rfl (lv_at hl 2 rfl) ?_
    obtain ⟨g3, h⟩ := zck_ex h
    refine z_iald S hw (kr_12_22 hG k0) g3 dX12_nodes_23 ?_
    have h := Option.some.inj h
    subst h
    exact z_ret_i S hr hlk hw dX12_nodes_24
  · have h := zif_f h c2
    refine lv_aload_n hx hb dX12_nodes_10 rfl (lv_at hl 1 rfl) ?_
    refine lv_iload_n hx hb dX12_nodes_11 rfl (lv_at hl 0 rfl) ?_
    obtain ⟨q4, eq4, h⟩ := Option.bind_eq_some_iff.mp h
    refine z_callV (ci := 12) (As := [.int q1]) (rest := []) (rv := (some (.int q4.1))) (M1 := q4.2) S hw (c_X12_refuse l hG t0 q1 k0 M q4 eq4) mv_X12_refuse lk_X12_91 k0 ⟨_, _, rfl⟩ (by decide) rfl rfl (Nat.le_of_ble_eq_true rfl) ⟨Nat.le_of_ble_eq_true rfl, Nat.le_of_ble_eq_true rfl⟩ hl.1 dX12_nodes_12 (fun H locs hw => ?_)
    refine lv_goto (tgt := 24) hx hb dX12_nodes_15 (by decide) ?_
    have h := Option.some.inj h
    subst h
    exact z_ret_i S hr hlk hw dX12_nodes_24
def f_X12_node (t0 : Nat) (v1 : Int32) (v2 : Int32) (v3 : Int32) (M : ZM) : Option (Int32 × ZM) :=
  zlet (fun (v4 : Int32) (M : ZM) =>
    if v4 = 0 then (
      zlet ((21 * v1) + v2) fun (x2 : Int32) =>
      if v3 = 0 then (
        zck (zin x2 (zn (zr t0 19))) <|
        some ((M.1 (zr t0 19) x2.toNatClampNeg), M)) else (
        if v3 = 1 then (
          zck (zin x2 (zn (zr t0 20))) <|
          some ((M.1 (zr t0 20) x2.toNatClampNeg), M)) else (
          zck (zin x2 (zn (zr t0 21))) <|
          some ((M.1 (zr t0 21) x2.toNatClampNeg), M)))) else (
      (f_X12_refuse t0 v4 M).bind fun (q8 : (Int32 × ZM)) =>
      some (q8.1, q8.2))) fun J45 =>
  zlet (fun (v4 : Int32) (M : ZM) =>
    if v4 = 0 then (
      zlet (f_X12_isIn v3 3 M) fun (q10 : Int32) =>
      if q10 = 0 then (
        J45 (-2) M) else (
        J45 v4 M)) else (
      J45 v4 M)) fun J28 =>
  zlet (f_X12_wrong t0 v1 M) fun (q12 : Int32) =>
  if q12 = 0 then (
    zck (zin v1 (zn (zr t0 22))) <|
    zlet (f_X12_isIn v2 (M.1 (zr t0 22) v1.toNatClampNeg) M) fun (q15 : Int32) =>
    if q15 = 0 then (
      J28 (-1) M) else (
      J28 q12 M)) else (
    J28 q12 M)
set_option maxHeartbeats 4000000 in
set_option maxRecDepth 100000 in
theorem c_X12_node (l : Launch) {G : ZG} (hG : zOk G) (t0 : Nat) (v1 : Int32) (v2 : Int32) (v3 : Int32) (k0 : zk G t0 = 22) (M : ZM) (res : (Int32 × ZM)) (h : f_X12_node t0 v1 v2 v3 M = some res) : zCt l yX12_node cX12_node 6 (Option.some FieldType.int) 2 G [.ref (za G t0), .int v1, .int v2, .int v3] M (some (.int res.1)) res.2 := by
  refine zCt.mk (by decide +kernel) (Nat.le_of_ble_eq_true rfl) ?_
  intro p e s m args below meth c A H locs ls S hr hlk hw hl
  have S : zX p (zR 2) s m args c 0 0 cX12_node 6 RX12 := S
  have hx := S.1.1
  have hb := S.1.2.1
  have hown := S.1.2.2.2.1
  have hts := S.1.2.2.2.2
  have hl : lv_has ls 6 [(0, .ref (za G t0)), (1, .int v1), (2, .int v2), (3, .int v3)] := hl
  unfold f_X12_node at h
  obtain ⟨J45, hJ45, h⟩ := zlet_ex h
  have wJ45 : ∀ (v4 : Int32) (M : ZM), J45 v4 M = some res → ∀ (H : Heap) (locs : List Loc) (ls : Array Slot), zWd G A s H locs M → lv_has ls 6 [(0, .ref (za G t0)), (1, .int v1), (2, .int v2), (3, .int v3), (4, .int v4)] → W p l e (zR 2) s m args below meth c H locs 0 0 (zQ below G A (some (.int res.1)) res.2 args s) (F0 m 45 ls []) := by
    intro v4 M h H locs ls hw hl
    subst hJ45
    refine lv_iload hx hb dX12_node_45 (lv_at hl 4 rfl) ?_
    refine lv_if_eq (tgt := 57) hx hb dX12_node_47 (by decide) (fun c1 => ?_) (fun c1 => ?_)
    · have h := zif_t h c1
      refine lv_bipush (v := 21) hx hb dX12_node_57 (by decide) ?_
      refine lv_iload_n hx hb dX12_node_59 rfl (lv_at hl 1 rfl) ?_
      refine lv_imul hx hb dX12_node_60 ?_
      refine lv_iload_n hx hb dX12_node_61 rfl (lv_at hl 2 rfl) ?_
      refine lv_iadd hx hb dX12_node_62 ?_
      obtain ⟨x2, ex2, h⟩ := zlet_ex h
      refine lv_topiE ex2 ?_
      refine lv_istore (lv' := [(5, .int x2), (0, .ref (za G t0)), (1, .int v1), (2, .int v2), (3, .int v3), (4, .int v4)]) hx hb dX12_node_63 hl (by decide) rfl (fun ls hl => ?_)
      refine lv_iload_n hx hb dX12_node_65 rfl (lv_at hl 4 rfl) ?_
      refine lv_if_ne (tgt := 79) hx hb dX12_node_66 (by decide) (fun c3 => ?_) (fun c3 => ?_)
      · have h := zif_f h c3
        refine lv_iload_n hx hb dX12_node_79 rfl (lv_at hl 4 rfl) ?_
        refine lv_iconst (v := 1) hx hb dX12_node_80 (by decide) ?_
        refine lv_icmp_ne (tgt := 94) hx hb dX12_node_81 (by decide) (fun c4 => ?_) (fun c4 => ?_)
        · have h := zif_f h c4
          refine lv_aload_n hx hb dX12_node_94 rfl (lv_at hl 1 rfl) ?_
          refine z_getR S hw k0 fl_X12_50 rfl dX12_node_95 ?_
          refine lv_iload hx hb dX12_node_98 (lv_at hl 0 rfl) ?_
          obtain ⟨g5, h⟩ := zck_ex h
          refine z_iald S hw (kr_12_21 hG k0) g5 dX12_node_100 ?_
          have h := Option.some.inj h
          subst h
          exact z_ret_i S hr hlk hw dX12_node_101
        · have h := zif_t h c4
          refine lv_aload_n hx hb dX12_node_84 rfl (lv_at hl 1 rfl) ?_
          refine z_getR S hw k0 fl_X12_47 rfl dX12_node_85 ?_
          refine lv_iload hx hb dX12_node_88 (lv_at hl 0 rfl) ?_
          obtain ⟨g6, h⟩ := zck_ex h
          refine z_iald S hw (kr_12_20 hG k0) g6 dX12_node_90 ?_
          refine lv_goto (tgt := 101) hx hb dX12_node_91 (by decide) ?_
          have h := Option.some.inj h
          subst h
          exact z_ret_i S hr hlk hw dX12_node_101
      · have h := zif_t h c3
        refine lv_aload_n hx hb dX12_node_69 rfl (lv_at hl 1 rfl) ?_
        refine z_getR S hw k0 fl_X12_44 rfl dX12_node_70 ?_
        refine lv_iload hx hb dX12_node_73 (lv_at hl 0 rfl) ?_
        obtain ⟨g7, h⟩ := zck_ex h
        refine z_iald S hw (kr_12_19 hG k0) g7 dX12_node_75 ?_
        refine lv_goto (tgt := 101) hx hb dX12_node_76 (by decide) ?_
        have h := Option.some.inj h
        subst h
        exact z_ret_i S hr hlk hw dX12_node_101
    · have h := zif_f h c1
      refine lv_aload_n hx hb dX12_node_50 rfl (lv_at hl 0 rfl) ?_
      refine lv_iload hx hb dX12_node_51 (lv_at hl 4 rfl) ?_
      obtain ⟨q8, eq8, h⟩ := Option.bind_eq_some_iff.mp h
      refine z_callV (ci := 12) (As := [.int v4]) (rest := []) (rv := (some (.int q8.1))) (M1 := q8.2) S hw (c_X12_refuse l hG t0 v4 k0 M q8 eq8) mv_X12_refuse lk_X12_91 k0 ⟨_, _, rfl⟩ (by decide) rfl rfl (Nat.le_of_ble_eq_true rfl) ⟨Nat.le_of_ble_eq_true rfl, Nat.le_of_ble_eq_true rfl⟩ hl.1 dX12_node_53 (fun H locs hw => ?_)
      have h := Option.some.inj h
      subst h
      exact z_ret_i S hr hlk hw dX12_node_56
  obtain ⟨J28, hJ28, h⟩ := zlet_ex h
  have wJ28 : ∀ (v4 : Int32) (M : ZM), J28 v4 M = some res → ∀ (H : Heap) (locs : List Loc) (ls : Array Slot), zWd G A s H locs M → lv_has ls 6 [(0, .ref (za G t0)), (1, .int v1), (2, .int v2), (3, .int v3), (4, .int v4)] → W p l e (zR 2) s m args below meth c H locs 0 0 (zQ below G A (some (.int res.1)) res.2 args s) (F0 m 28 ls []) := by
    intro v4 M h H locs ls hw hl
    subst hJ28
    refine lv_iload hx hb dX12_node_28 (lv_at hl 4 rfl) ?_
    refine lv_if_ne (tgt := 45) hx hb dX12_node_30 (by decide) (fun c9 => ?_) (fun c9 => ?_)
    · have h := zif_f h c9
      exact wJ45 v4 M h H locs ls hw (lv_sub hl [0, 1, 2, 3, 4] rfl)
    · have h := zif_t h c9
      refine lv_iload_n hx hb dX12_node_33 rfl (lv_at hl 3 rfl) ?_
      refine lv_iconst (v := 3) hx hb dX12_node_34 (by decide) ?_
      obtain ⟨q10, eq10, h⟩ := zlet_ex h
      refine z_callS (As := [.int v3, .int 3]) (rest := []) (rv := (some (.int q10))) (M1 := M) S hw (c_X12_isIn l hG v3 3 M q10 eq10.symm) mv_X12_isIn lk_X12_111 rfl rfl (Nat.le_of_ble_eq_true rfl) ⟨Nat.le_of_ble_eq_true rfl, Nat.le_of_ble_eq_true rfl⟩ hl.1 dX12_node_35 (fun H locs hw => ?_)
      refine lv_if_ne (tgt := 45) hx hb dX12_node_38 (by decide) (fun c11 => ?_) (fun c11 => ?_)
      · have h := zif_f h c11
        exact wJ45 v4 M h H locs ls hw (lv_sub hl [0, 1, 2, 3, 4] rfl)
      · have h := zif_t h c11
        refine lv_bipush (v := (-2)) hx hb dX12_node_41 (by decide) ?_
        refine lv_istore (lv' := [(4, .int (-2)), (0, .ref (za G t0)), (1, .int v1), (2, .int v2), (3, .int v3)]) hx hb dX12_node_43 hl (by decide) rfl (fun ls hl => ?_)
        exact wJ45 (-2) M h H locs ls hw (lv_sub hl [1, 2, 3, 4, 0] rfl)
  refine lv_aload_n hx hb dX12_node_0 rfl (lv_at hl 0 rfl) ?_
  refine lv_iload_n hx hb dX12_node_1 rfl (lv_at hl 1 rfl) ?_
  obtain ⟨q12, eq12, h⟩ := zlet_ex h
  refine z_callV (ci := 12) (As := [.int v1]) (rest := []) (rv := (some (.int q12))) (M1 := M) S hw (c_X12_wrong l hG t0 v1 k0 M q12 eq12.symm) mv_X12_wrong lk_X12_176 k0 ⟨_, _, rfl⟩ (by decide) rfl rfl (Nat.le_of_ble_eq_true rfl) ⟨Nat.le_of_ble_eq_true rfl, Nat.le_of_ble_eq_true rfl⟩ hl.1 dX12_node_2 (fun H locs hw => ?_)
  refine lv_istore (lv' := [(4, .int q12), (0, .ref (za G t0)), (1, .int v1), (2, .int v2), (3, .int v3)]) hx hb dX12_node_5 hl (by decide) rfl (fun ls hl => ?_)
  refine lv_iload hx hb dX12_node_7 (lv_at hl 0 rfl) ?_
  refine lv_if_ne (tgt := 28) hx hb dX12_node_9 (by decide) (fun c13 => ?_) (fun c13 => ?_)
  · have h := zif_f h c13
    exact wJ28 q12 M h H locs ls hw (lv_sub hl [1, 2, 3, 4, 0] rfl)
  · have h := zif_t h c13
    refine lv_iload_n hx hb dX12_node_12 rfl (lv_at hl 3 rfl) ?_
    refine lv_aload_n hx hb dX12_node_13 rfl (lv_at hl 1 rfl) ?_
    refine z_getR S hw k0 fl_X12_53 rfl dX12_node_14 ?_
    refine lv_iload_n hx hb dX12_node_17 rfl (lv_at hl 2 rfl) ?_
    obtain ⟨g14, h⟩ := zck_ex h
    refine z_iald S hw (kr_12_22 hG k0) g14 dX12_node_18 ?_
    obtain ⟨q15, eq15, h⟩ := zlet_ex h
    refine z_callS (As := [.int v2, .int (M.1 (zr t0 22) v1.toNatClampNeg)]) (rest := []) (rv := (some (.int q15))) (M1 := M) S hw (c_X12_isIn l hG v2 (M.1 (zr t0 22) v1.toNatClampNeg) M q15 eq15.symm) mv_X12_isIn lk_X12_111 rfl rfl (Nat.le_of_ble_eq_true rfl) ⟨Nat.le_of_ble_eq_true rfl, Nat.le_of_ble_eq_true rfl⟩ hl.1 dX12_node_19 (fun H locs hw => ?_)
    refine lv_if_ne (tgt := 28) hx hb dX12_node_22 (by decide) (fun c16 => ?_) (fun c16 => ?_)
    · have h := zif_f h c16
      exact wJ28 q12 M h H locs ls hw (lv_sub hl [1, 2, 3, 4, 0] rfl)
    · have h := zif_t h c16
      refine lv_iconst (v := (-1)) hx hb dX12_node_25 (by decide) ?_
      refine lv_istore (lv' := [(4, .int (-1)), (0, .ref (za G t0)), (1, .int v1), (2, .int v2), (3, .int v3)]) hx hb dX12_node_26 hl (by decide) rfl (fun ls hl => ?_)
      exact wJ28 (-1) M h H locs ls hw (lv_sub hl [1, 2, 3, 4, 0] rfl)
end Z
