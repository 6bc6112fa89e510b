section Z
variable {p : Program} {l : Launch} {e : Env} {s : State} {m : MethodId} {args : Array Value} {below : List Frame} {meth : Method} {c : Code} {A : Nat → Prop}
def f_X12_needless_23 (t0 : Nat) (K : Int32 → ZM → Option (Int32 × ZM)) : Nat → Int32 → Int32 → ZM → Option (Int32 × ZM)
  | 0, _, _, _ => none
  | n + 1, v1, v2, M =>
    if (M.1 t0 26) ≤ v2 then (
      K v1 M) else (
      zck (zin v2 (zn (zr t0 24))) <|
      zlet (v1 &&& (M.1 (zr t0 24) v2.toNatClampNeg)) fun (x6 : Int32) =>
      zlet (v2 + 1) fun (x7 : Int32) =>
      f_X12_needless_23 t0 K n x6 x7 M)

def f_X12_needless (t0 : Nat) (M : ZM) : Option (Int32 × ZM) :=
  if (M.1 t0 29) = 0 then (
    (f_X12_refuse t0 (-5) M).bind fun (q8 : (Int32 × ZM)) =>
    some (q8.1, q8.2)) else (
    zck (zin 0 (zn (zr t0 24))) <|
    zlet (M.1 (zr t0 24) (0 : Int32).toNatClampNeg) fun (x3 : Int32) =>
    f_X12_needless_23 t0 (fun (v1 : Int32) (M : ZM) =>
      some (v1, M)) zN x3 1 M)
set_option maxHeartbeats 4000000 in
set_option maxRecDepth 100000 in
theorem w_X12_needless_23 {G : ZG} (hG : zOk G) (S : zX p (zR 1) s m args c 0 0 cX12_needless 3 RX12) (hr : meth.sig.returnType = (Option.some FieldType.int)) (hlk : meth.locks = false) (t0 : Nat) (k0 : zk G t0 = 22)  {K : Int32 → ZM → Option (Int32 × ZM)} {res : (Int32 × ZM)} (hK : ∀ (v1 : Int32) (M : ZM), K v1 M = some res → ∀ (H : Heap) (locs : List Loc) (ls : Array Slot), zWd G A s H locs M → lv_has ls 3 [(1, .int v1)] → W p l e (zR 1) s m args below meth c H locs 0 0 (zQ below G A (some (.int res.1)) res.2 args s) (F0 m 46 ls [])) : ∀ (n : Nat) (v1 : Int32) (v2 : Int32) (M : ZM), f_X12_needless_23 t0 K n v1 v2 M = some res → ∀ (H : Heap) (locs : List Loc) (ls : Array Slot), zWd G A s H locs M → lv_has ls 3 [(0, .ref (za G t0)), (1, .int v1), (2, .int v2)] → W p l e (zR 1) s m args below meth c H locs 0 0 (zQ below G A (some (.int res.1)) res.2 args s) (F0 m 23 ls []) := by
  have hx := S.1.1
  have hb := S.1.2.1
  have hown := S.1.2.2.2.1
  have hts := S.1.2.2.2.2
  intro n
  induction n with
  | zero =>
    intro v1 v2 M h
    rw [f_X12_needless_23] at h
    cases h
  | succ n ih =>
    intro v1 v2 M h H locs ls hw hl
    rw [f_X12_needless_23] at h
    refine lv_iload_n hx hb dX12_needless_23 rfl (lv_at hl 2 rfl) ?_
    refine lv_aload_n hx hb dX12_needless_24 rfl (lv_at hl 0 rfl) ?_
    refine z_getI S hw k0 fl_X12_129 rfl dX12_needless_25 ?_
    refine lv_icmp_ge (tgt := 46) hx hb dX12_needless_28 (by decide) (fun c4 => ?_) (fun c4 => ?_)
    · have h := zif_t h c4
      exact hK v1 M h H locs ls hw (lv_sub hl [1] rfl)
    · have h := zif_f h c4
      refine lv_iload_n hx hb dX12_needless_31 rfl (lv_at hl 1 rfl) ?_
      refine lv_aload_n hx hb dX12_needless_32 rfl (lv_at hl 0 rfl) ?_
      refine z_getR S hw k0 fl_X12_59 rfl dX12_needless_33 ?_
      refine lv_iload_n hx hb dX12_needless_36 rfl (lv_at hl 2 rfl) ?_
      obtain ⟨g5, h⟩ := zck_ex h
      refine z_iald S hw (kr_12_24 hG k0) g5 dX12_needless_37 ?_
      refine lv_iand hx hb dX12_needless_38 ?_
      obtain ⟨x6, ex6, h⟩ := zlet_ex h
      refine lv_topiE ex6 ?_
      refine lv_istore_n (lv' := [(1, .int x6), (0, .ref (za G t0)), (2, .int v2)]) hx hb dX12_needless_39 rfl hl (by decide) rfl (fun ls hl => ?_)
      obtain ⟨x7, ex7, h⟩ := zlet_ex h
      refine lv_iinc (v := x7) (lv' := [(2, .int x7), (1, .int x6), (0, .ref (za G t0))]) hx hb dX12_needless_40 hl (k := 2) rfl (by rw [ex7]; rfl) (by decide) rfl (fun ls hl => ?_)
      refine lv_goto (tgt := 23) hx hb dX12_needless_43 (by decide) ?_
      exact ih x6 x7 M h H locs ls hw (lv_sub hl [2, 1, 0] rfl)
set_option maxHeartbeats 4000000 in
set_option maxRecDepth 100000 in
theorem c_X12_needless (l : Launch) {G : ZG} (hG : zOk G) (t0 : Nat) (k0 : zk G t0 = 22) (M : ZM) (res : (Int32 × ZM)) (h : f_X12_needless t0 M = some res) : zCt l yX12_needless cX12_needless 3 (Option.some FieldType.int) 1 G [.ref (za G t0)] M (some (.int res.1)) res.2 := by
  refine zCt.mk (by decide +kernel) (Nat.le_of_ble_eq_true rfl) ?_
  intro p e s m args below meth c A H locs ls S hr hlk hw hl
  have S : zX p (zR 1) s m args c 0 0 cX12_needless 3 RX12 := S
  have hx := S.1.1
  have hb := S.1.2.1
  have hown := S.1.2.2.2.1
  have hts := S.1.2.2.2.2
  have hl : lv_has ls 3 [(0, .ref (za G t0))] := hl
  unfold f_X12_needless at h
  refine lv_aload_n hx hb dX12_needless_0 rfl (lv_at hl 0 rfl) ?_
  refine z_getI S hw k0 fl_X12_170 rfl dX12_needless_1 ?_
  refine lv_if_ne (tgt := 14) hx hb dX12_needless_4 (by decide) (fun c1 => ?_) (fun c1 => ?_)
  · have h := zif_f h c1
    refine lv_aload_n hx hb dX12_needless_14 rfl (lv_at hl 0 rfl) ?_
    refine z_getR S hw k0 fl_X12_59 rfl dX12_needless_15 ?_
    refine lv_iconst (v := 0) hx hb dX12_needless_18 (by decide) ?_
    obtain ⟨g2, h⟩ := zck_ex h
    refine z_iald S hw (kr_12_24 hG k0) g2 dX12_needless_19 ?_
    obtain ⟨x3, ex3, h⟩ := zlet_ex h
    refine lv_topiE ex3 ?_
    refine lv_istore_n (lv' := [(1, .int x3), (0, .ref (za G t0))]) hx hb dX12_needless_20 rfl hl (by decide) rfl (fun ls hl => ?_)
    refine lv_iconst (v := 1) hx hb dX12_needless_21 (by decide) ?_
    refine lv_istore_n (lv' := [(2, .int 1), (1, .int x3), (0, .ref (za G t0))]) hx hb dX12_needless_22 rfl hl (by decide) rfl (fun ls hl => ?_)
    refine w_X12_needless_23 hG S hr hlk t0 k0 (fun v1 M h H locs ls hw hl => ?_) zN x3 1 M h H locs ls hw (lv_sub hl [2, 1, 0] rfl)
    refine lv_iload_n hx hb dX12_needless_46 rfl (lv_at hl 0 rfl) ?_
    have h := Option.some.inj h
    subst h
    exact z_ret_i S hr hlk hw dX12_needless_47
  · have h := zif_t h c1
    refine lv_aload_n hx hb dX12_needless_7 rfl (lv_at hl 0 rfl) ?_
    refine lv_bipush (v := (-5)) hx hb dX12_needless_8 (by decide) ?_
    obtain ⟨q8, eq8, h⟩ := Option.bind_eq_some_iff.mp h
    refine z_callV (ci := 12) (As := [.int (-5)]) (rest := []) (rv := (some (.int q8.1))) (M1 := q8.2) S hw (c_X12_refuse l hG t0 (-5) k0 M q8 eq8) mv_X12_refuse lk_X12_91 k0 ⟨_, _, rfl⟩ (by decide) rfl rfl (Nat.le_of_ble_eq_true rfl) ⟨Nat.le_of_ble_eq_true rfl, Nat.le_of_ble_eq_true rfl⟩ hl.1 dX12_needless_10 (fun H locs hw => ?_)
    have h := Option.some.inj h
    subst h
    exact z_ret_i S hr hlk hw dX12_needless_13
def f_X12_meets (t0 : Nat) (v1 : Int32) (v2 : Int32) (M : ZM) : Option (Int32 × ZM) :=
  zlet (fun (v3 : Int32) (M : ZM) =>
    if v3 = 0 then (
      zck (zin v1 (zn (zr t0 23))) <|
      some ((((M.1 (zr t0 23) v1.toNatClampNeg) >>> (v2 &&& 31)) &&& 1), M)) else (
      (f_X12_refuse t0 v3 M).bind fun (q3 : (Int32 × ZM)) =>
      some (q3.1, q3.2))) fun J21 =>
  zlet (f_X12_wrong t0 v1 M) fun (q4 : Int32) =>
  if q4 = 0 then (
    zlet (f_X12_isIn v2 6 M) fun (q6 : Int32) =>
    if q6 = 0 then (
      J21 (-1) M) else (
      J21 q4 M)) else (
    J21 q4 M)
set_option maxHeartbeats 4000000 in
set_option maxRecDepth 100000 in
theorem c_X12_meets (l : Launch) {G : ZG} (hG : zOk G) (t0 : Nat) (v1 : Int32) (v2 : Int32) (k0 : zk G t0 = 22) (M : ZM) (res : (Int32 × ZM)) (h : f_X12_meets t0 v1 v2 M = some res) : zCt l yX12_meets cX12_meets 4 (Option.some FieldType.int) 2 G [.ref (za G t0), .int v1, .int v2] M (some (.int res.1)) res.2 := by
  refine zCt.mk (by decide +kernel) (Nat.le_of_ble_eq_true rfl) ?_
  intro p e s m args below meth c A H locs ls S hr hlk hw hl
  have S : zX p (zR 2) s m args c 0 0 cX12_meets 4 RX12 := S
  have hx := S.1.1
  have hb := S.1.2.1
  have hown := S.1.2.2.2.1
  have hts := S.1.2.2.2.2
  have hl : lv_has ls 4 [(0, .ref (za G t0)), (1, .int v1), (2, .int v2)] := hl
  unfold f_X12_meets at h
  obtain ⟨J21, hJ21, h⟩ := zlet_ex h
  have wJ21 : ∀ (v3 : Int32) (M : ZM), J21 v3 M = some res → ∀ (H : Heap) (locs : List Loc) (ls : Array Slot), zWd G A s H locs M → lv_has ls 4 [(0, .ref (za G t0)), (1, .int v1), (2, .int v2), (3, .int v3)] → W p l e (zR 2) s m args below meth c H locs 0 0 (zQ below G A (some (.int res.1)) res.2 args s) (F0 m 21 ls []) := by
    intro v3 M h H locs ls hw hl
    subst hJ21
    refine lv_iload_n hx hb dX12_meets_21 rfl (lv_at hl 3 rfl) ?_
    refine lv_if_eq (tgt := 33) hx hb dX12_meets_22 (by decide) (fun c1 => ?_) (fun c1 => ?_)
    · have h := zif_t h c1
      refine lv_aload_n hx hb dX12_meets_33 rfl (lv_at hl 0 rfl) ?_
      refine z_getR S hw k0 fl_X12_56 rfl dX12_meets_34 ?_
      refine lv_iload_n hx hb dX12_meets_37 rfl (lv_at hl 1 rfl) ?_
      obtain ⟨g2, h⟩ := zck_ex h
      refine z_iald S hw (kr_12_23 hG k0) g2 dX12_meets_38 ?_
      refine lv_iload_n hx hb dX12_meets_39 rfl (lv_at hl 2 rfl) ?_
      refine lv_ishr hx hb dX12_meets_40 ?_
      refine lv_iconst (v := 1) hx hb dX12_meets_41 (by decide) ?_
      refine lv_iand hx hb dX12_meets_42 ?_
      have h := Option.some.inj h
      subst h
      exact z_ret_i S hr hlk hw dX12_meets_43
    · have h := zif_f h c1
      refine lv_aload_n hx hb dX12_meets_25 rfl (lv_at hl 0 rfl) ?_
      refine lv_iload_n hx hb dX12_meets_26 rfl (lv_at hl 3 rfl) ?_
      obtain ⟨q3, eq3, h⟩ := Option.bind_eq_some_iff.mp h
      refine z_callV (ci := 12) (As := [.int v3]) (rest := []) (rv := (some (.int q3.1))) (M1 := q3.2) S hw (c_X12_refuse l hG t0 v3 k0 M q3 eq3) mv_X12_refuse lk_X12_91 k0 ⟨_, _, rfl⟩ (by decide) rfl rfl (Nat.le_of_ble_eq_true rfl) ⟨Nat.le_of_ble_eq_true rfl, Nat.le_of_ble_eq_true rfl⟩ hl.1 dX12_meets_27 (fun H locs hw => ?_)
      refine lv_goto (tgt := 43) hx hb dX12_meets_30 (by decide) ?_
      have h := Option.some.inj h
      subst h
      exact z_ret_i S hr hlk hw dX12_meets_43
  refine lv_aload_n hx hb dX12_meets_0 rfl (lv_at hl 0 rfl) ?_
  refine lv_iload_n hx hb dX12_meets_1 rfl (lv_at hl 1 rfl) ?_
  obtain ⟨q4, eq4, h⟩ := zlet_ex h
  refine z_callV (ci := 12) (As := [.int v1]) (rest := []) (rv := (some (.int q4))) (M1 := M) S hw (c_X12_wrong l hG t0 v1 k0 M q4 eq4.symm) mv_X12_wrong lk_X12_176 k0 ⟨_, _, rfl⟩ (by decide) rfl rfl (Nat.le_of_ble_eq_true rfl) ⟨Nat.le_of_ble_eq_true rfl, Nat.le_of_ble_eq_true rfl⟩ hl.1 dX12_meets_2 (fun H locs hw => ?_)
  refine lv_istore_n (lv' := [(3, .int q4), (0, .ref (za G t0)), (1, .int v1), (2, .int v2)]) hx hb dX12_meets_5 rfl hl (by decide) rfl (fun ls hl => ?_)
  refine lv_iload_n hx hb dX12_meets_6 rfl (lv_at hl 0 rfl) ?_
  refine lv_if_ne (tgt := 21) hx hb dX12_meets_7 (by decide) (fun c5 => ?_) (fun c5 => ?_)
  · have h := zif_f h c5
    exact wJ21 q4 M h H locs ls hw (lv_sub hl [1, 2, 3, 0] rfl)
  · have h := zif_t h c5
    refine lv_iload_n hx hb dX12_meets_10 rfl (lv_at hl 3 rfl) ?_
    refine lv_bipush (v := 6) hx hb dX12_meets_11 (by decide) ?_
    obtain ⟨q6, eq6, h⟩ := zlet_ex h
    refine z_callS (As := [.int v2, .int 6]) (rest := []) (rv := (some (.int q6))) (M1 := M) S hw (c_X12_isIn l hG v2 6 M q6 eq6.symm) mv_X12_isIn lk_X12_111 rfl rfl (Nat.le_of_ble_eq_true rfl) ⟨Nat.le_of_ble_eq_true rfl, Nat.le_of_ble_eq_true rfl⟩ hl.1 dX12_meets_13 (fun H locs hw => ?_)
    refine lv_if_ne (tgt := 21) hx hb dX12_meets_16 (by decide) (fun c7 => ?_) (fun c7 => ?_)
    · have h := zif_f h c7
      exact wJ21 q4 M h H locs ls hw (lv_sub hl [1, 2, 3, 0] rfl)
    · have h := zif_t h c7
      refine lv_iconst (v := (-1)) hx hb dX12_meets_19 (by decide) ?_
      refine lv_istore_n (lv' := [(3, .int (-1)), (0, .ref (za G t0)), (1, .int v1), (2, .int v2)]) hx hb dX12_meets_20 rfl hl (by decide) rfl (fun ls hl => ?_)
      exact wJ21 (-1) M h H locs ls hw (lv_sub hl [1, 2, 3, 0] rfl)
def f_X12_choose_17 (t0 : Nat) (v1 : Int32) (K : ZM → Option (Int32 × ZM)) : Nat → Int32 → ZM → Option (Int32 × ZM)
  | 0, _, _ => none
  | n + 1, v2, M =>
    if (M.1 t0 12) ≤ v2 then (
      K M) else (
      zck (zin v2 (zn (zr t0 3))) <|
      if (M.1 (zr t0 3) v2.toNatClampNeg) = v1 then (
        (f_X12_refuse t0 (-3) M).bind fun (q7 : (Int32 × ZM)) =>
        some (q7.1, q7.2)) else (
        zlet (v2 + 1) fun (x6 : Int32) =>
        f_X12_choose_17 t0 v1 K n x6 M))

def f_X12_choose (t0 : Nat) (v1 : Int32) (M : ZM) : Option (Int32 × ZM) :=
  zlet (f_X12_isIn v1 6 M) fun (q1 : Int32) =>
  if q1 = 0 then (
    (f_X12_refuse t0 (-1) M).bind fun (q11 : (Int32 × ZM)) =>
    some (q11.1, q11.2)) else (
    f_X12_choose_17 t0 v1 (fun (M : ZM) =>
      zck (zin (M.1 t0 12) (zn (zr t0 3))) <|
      zlet (zi M (zr t0 3) (M.1 t0 12).toNatClampNeg v1) fun (M9 : ZM) =>
      zlet (zi M9 t0 12 ((M9.1 t0 12) + 1)) fun (M10 : ZM) =>
      some ((M10.1 t0 12), M10)) zN 0 M)
set_option maxHeartbeats 4000000 in
set_option maxRecDepth 100000 in
theorem w_X12_choose_17 {G : ZG} (hG : zOk G) (S : zX p (zR 1) s m args c 0 0 cX12_choose 3 RX12) (hr : meth.sig.returnType = (Option.some FieldType.int)) (hlk : meth.locks = false) (t0 : Nat) (v1 : Int32) (k0 : zk G t0 = 22)  {K : ZM → Option (Int32 × ZM)} {res : (Int32 × ZM)} (hK : ∀  (M : ZM), K M = some res → ∀ (H : Heap) (locs : List Loc) (ls : Array Slot), zWd G A s H locs M → lv_has ls 3 [(0, .ref (za G t0)), (1, .int v1)] → W p l e (zR 1) s m args below meth c H locs 0 0 (zQ below G A (some (.int res.1)) res.2 args s) (F0 m 48 ls [])) : ∀ (n : Nat) (v2 : Int32) (M : ZM), f_X12_choose_17 t0 v1 K n v2 M = some res → ∀ (H : Heap) (locs : List Loc) (ls : Array Slot), zWd G A s H locs M → lv_has ls 3 [(0, .ref (za G t0)), (1, .int v1), (2, .int v2)] → W p l e (zR 1) s m args below meth c H locs 0 0 (zQ below G A (some (.int res.1)) res.2 args s) (F0 m 17 ls []) := by
  have hx := S.1.1
  have hb := S.1.2.1
  have hown := S.1.2.2.2.1
  have hts := S.1.2.2.2.2
  intro n
  induction n with
  | zero =>
    intro v2 M h
    rw [f_X12_choose_17] at h
    cases h
  | succ n ih =>
    intro v2 M h H locs ls hw hl
    rw [f_X12_choose_17] at h
    refine lv_iload_n hx hb dX12_choose_17 rfl (lv_at hl 2 rfl) ?_
    refine lv_aload_n hx hb dX12_choose_18 rfl (lv_at hl 0 rfl) ?_
    refine z_getI S hw k0 fl_X12_191 rfl dX12_choose_19 ?_
    refine lv_icmp_ge (tgt := 48) hx hb dX12_choose_22 (by decide) (fun c3 => ?_) (fun c3 => ?_)
    · have h := zif_t h c3
      exact hK M h H locs ls hw (lv_sub hl [0, 1] rfl)
    · have h := zif_f h c3
      refine lv_aload_n hx hb dX12_choose_25 rfl (lv_at hl 0 rfl) ?_
      refine z_getR S hw k0 fl_X12_19 rfl dX12_choose_26 ?_
      refine lv_iload_n hx hb dX12_choose_29 rfl (lv_at hl 2 rfl) ?_
      obtain ⟨g4, h⟩ := zck_ex h
      refine z_iald S hw (kr_12_3 hG k0) g4 dX12_choose_30 ?_
      refine lv_iload_n hx hb dX12_choose_31 rfl (lv_at hl 1 rfl) ?_
      refine lv_icmp_ne (tgt := 42) hx hb dX12_choose_32 (by decide) (fun c5 => ?_) (fun c5 => ?_)
      · have h := zif_f h c5
        obtain ⟨x6, ex6, h⟩ := zlet_ex h
        refine lv_iinc (v := x6) (lv' := [(2, .int x6), (0, .ref (za G t0)), (1, .int v1)]) hx hb dX12_choose_42 hl (k := 2) rfl (by rw [ex6]; rfl) (by decide) rfl (fun ls hl => ?_)
        refine lv_goto (tgt := 17) hx hb dX12_choose_45 (by decide) ?_
        exact ih x6 M h H locs ls hw (lv_sub hl [1, 2, 0] rfl)
      · have h := zif_t h c5
        refine lv_aload_n hx hb dX12_choose_35 rfl (lv_at hl 0 rfl) ?_
        refine lv_bipush (v := (-3)) hx hb dX12_choose_36 (by decide) ?_
        obtain ⟨q7, eq7, h⟩ := Option.bind_eq_some_iff.mp h
        refine z_callV (ci := 12) (As := [.int (-3)]) (rest := []) (rv := (some (.int q7.1))) (M1 := q7.2) S hw (c_X12_refuse l hG t0 (-3) k0 M q7 eq7) mv_X12_refuse lk_X12_91 k0 ⟨_, _, rfl⟩ (by decide) rfl rfl (Nat.le_of_ble_eq_true rfl) ⟨Nat.le_of_ble_eq_true rfl, Nat.le_of_ble_eq_true rfl⟩ hl.1 dX12_choose_38 (fun H locs hw => ?_)
        have h := Option.some.inj h
        subst h
        exact z_ret_i S hr hlk hw dX12_choose_41
set_option maxHeartbeats 4000000 in
set_option maxRecDepth 100000 in
theorem c_X12_choose (l : Launch) {G : ZG} (hG : zOk G) (t0 : Nat) (v1 : Int32) (k0 : zk G t0 = 22) (M : ZM) (res : (Int32 × ZM)) (h : f_X12_choose t0 v1 M = some res) : zCt l yX12_choose cX12_choose 3 (Option.some FieldType.int) 1 G [.ref (za G t0), .int v1] M (some (.int res.1)) res.2 := by
  refine zCt.mk (by decide +kernel) (Nat.le_of_ble_eq_true rfl) ?_
  intro p e s m args below meth c A H locs ls S hr hlk hw hl
  have S : zX p (zR 1) s m args c 0 0 cX12_choose 3 RX12 := S
  have hx := S.1.1
  have hb := S.1.2.1
  have hown := S.1.2.2.2.1
  have hts := S.1.2.2.2.2
  have hl : lv_has ls 3 [(0, .ref (za G t0)), (1, .int v1)] := hl
  unfold f_X12_choose at h
  refine lv_iload_n hx hb dX12_choose_0 rfl (lv_at hl 1 rfl) ?_
  refine lv_bipush (v := 6) hx hb dX12_choose_1 (by decide) ?_
  obtain ⟨q1, eq1, h⟩ := zlet_ex h
  refine z_callS (As := [.int v1, .int 6]) (rest := []) (rv := (some (.int q1))) (M1 := M) S hw (c_X12_isIn l hG v1 6 M q1 eq1.symm) mv_X12_isIn lk_X12_111 rfl rfl (Nat.le_of_ble_eq_true rfl) ⟨Nat.le_of_ble_eq_true rfl, Nat.le_of_ble_eq_true rfl⟩ hl.1 dX12_choose_3 (fun H locs hw => ?_)
  refine lv_if_ne (tgt := 15) hx hb dX12_choose_6 (by decide) (fun c2 => ?_) (fun c2 => ?_)
  · have h := zif_f h c2
    refine lv_iconst (v := 0) hx hb dX12_choose_15 (by decide) ?_
    refine lv_istore_n (lv' := [(2, .int 0), (0, .ref (za G t0)), (1, .int v1)]) hx hb dX12_choose_16 rfl hl (by decide) rfl (fun ls hl => ?_)
    refine w_X12_choose_17 hG S hr hlk t0 v1 k0 (fun M h H locs ls hw hl => ?_) zN 0 M h H locs ls hw (lv_sub hl [1, 2, 0] rfl)
    refine lv_aload_n hx hb dX12_choose_48 rfl (lv_at hl 0 rfl) ?_
    refine z_getR S hw k0 fl_X12_19 rfl dX12_choose_49 ?_
    refine lv_aload_n hx hb dX12_choose_52 rfl (lv_at hl 0 rfl) ?_
    refine z_getI S hw k0 fl_X12_191 rfl dX12_choose_53 ?_
    refine lv_iload_n hx hb dX12_choose_56 rfl (lv_at hl 1 rfl) ?_
    obtain ⟨g8, h⟩ := zck_ex h
    obtain ⟨M9, eM9, h⟩ := zlet_ex h
    refine z_iast S hw eM9 (kr_12_3 hG k0) g8 dX12_choose_57 (fun H locs hw => ?_)
    refine lv_aload_n hx hb dX12_choose_58 rfl (lv_at hl 0 rfl) ?_
    refine lv_dup hx hb dX12_choose_59 rfl ?_
    refine z_getI S hw k0 fl_X12_191 rfl dX12_choose_60 ?_
    refine lv_iconst (v := 1) hx hb dX12_choose_63 (by decide) ?_
    refine lv_iadd hx hb dX12_choose_64 ?_
    obtain ⟨M10, eM10, h⟩ := zlet_ex h
    refine z_putI S hw eM10 k0 fl_X12_191 rfl (fun h => absurd h (by decide)) dX12_choose_65 (fun H locs hw => ?_)
    refine lv_aload_n hx hb dX12_choose_68 rfl (lv_at hl 0 rfl) ?_
    refine z_getI S hw k0 fl_X12_191 rfl dX12_choose_69 ?_
    have h := Option.some.inj h
    subst h
    exact z_ret_i S hr hlk hw dX12_choose_72
  · have h := zif_t h c2
    refine lv_aload_n hx hb dX12_choose_9 rfl (lv_at hl 0 rfl) ?_
    refine lv_iconst (v := (-1)) hx hb dX12_choose_10 (by decide) ?_
    obtain ⟨q11, eq11, h⟩ := Option.bind_eq_some_iff.mp h
    refine z_callV (ci := 12) (As := [.int (-1)]) (rest := []) (rv := (some (.int q11.1))) (M1 := q11.2) S hw (c_X12_refuse l hG t0 (-1) k0 M q11 eq11) mv_X12_refuse lk_X12_91 k0 ⟨_, _, rfl⟩ (by decide) rfl rfl (Nat.le_of_ble_eq_true rfl) ⟨Nat.le_of_ble_eq_true rfl, Nat.le_of_ble_eq_true rfl⟩ hl.1 dX12_choose_11 (fun H locs hw => ?_)
    have h := Option.some.inj h
    subst h
    exact z_ret_i S hr hlk hw dX12_choose_14
def f_X12_unchoose (t0 : Nat) (M : ZM) : (Int32 × ZM) :=
  zlet (M.1 t0 12) fun (x1 : Int32) =>
  zlet (zi M t0 12 0) fun (M2 : ZM) =>
  (x1, M2)
set_option maxHeartbeats 4000000 in
set_option maxRecDepth 100000 in
theorem c_X12_unchoose (l : Launch) {G : ZG} (hG : zOk G) (t0 : Nat) (k0 : zk G t0 = 22) (M : ZM) (res : (Int32 × ZM)) (h : f_X12_unchoose t0 M = res) : zCt l yX12_unchoose cX12_unchoose 2 (Option.some FieldType.int) 0 G [.ref (za G t0)] M (some (.int res.1)) res.2 := by
  refine zCt.mk (by decide +kernel) (Nat.le_of_ble_eq_true rfl) ?_
  intro p e s m args below meth c A H locs ls S hr hlk hw hl
  have S : zX p (zR 0) s m args c 0 0 cX12_unchoose 2 RX12 := S
  have hx := S.1.1
  have hb := S.1.2.1
  have hown := S.1.2.2.2.1
  have hts := S.1.2.2.2.2
  have hl : lv_has ls 2 [(0, .ref (za G t0))] := hl
  unfold f_X12_unchoose at h
  refine lv_aload_n hx hb dX12_unchoose_0 rfl (lv_at hl 0 rfl) ?_
  refine z_getI S hw k0 fl_X12_191 rfl dX12_unchoose_1 ?_
  obtain ⟨x1, ex1, h⟩ := zlet_ex h
  refine lv_topiE ex1 ?_
  refine lv_istore_n (lv' := [(1, .int x1), (0, .ref (za G t0))]) hx hb dX12_unchoose_4 rfl hl (by decide) rfl (fun ls hl => ?_)
  refine lv_aload_n hx hb dX12_unchoose_5 rfl (lv_at hl 1 rfl) ?_
  refine lv_iconst (v := 0) hx hb dX12_unchoose_6 (by decide) ?_
  obtain ⟨M2, eM2, h⟩ := zlet_ex h
  refine z_putI S hw eM2 k0 fl_X12_191 rfl (fun h => absurd h (by decide)) dX12_unchoose_7 (fun H locs hw => ?_)
  refine lv_iload_n hx hb dX12_unchoose_10 rfl (lv_at hl 0 rfl) ?_
  subst h
  exact z_ret_i S hr hlk hw dX12_unchoose_11
def f_X12_findOver_2 (t0 : Nat) (t1 : Nat) (v2 : Int32) (K : ZM → Option ZM) : Nat → Int32 → ZM → Option ZM
  | 0, _, _ => none
  | n + 1, v3, M =>
    if (M.1 t0 26) ≤ v3 then (
      K M) else (
      zck (zin v3 (zn t1)) <|
      zlet (zi M t1 v3.toNatClampNeg 1) fun (M3 : ZM) =>
      zlet (v3 + 1) fun (x4 : Int32) =>
      f_X12_findOver_2 t0 t1 v2 K n x4 M3)

def f_X12_findOver_125 (t0 : Nat) (t1 : Nat) (v2 : Int32) (v3 : Int32) (v4 : Int32) (K : ZM → Option ZM) : Nat → Int32 → ZM → Option ZM
  | 0, _, _ => none
  | n + 1, v5, M =>
    if (M.1 t0 26) ≤ v5 then (
      K M) else (
      if v4 = 0 then (
        K M) else (
        zck (zin v5 (zn t1)) <|
        if (M.1 t1 v5.toNatClampNeg) = 0 then (
          zck (zin v5 (zn t1)) <|
          zlet (zi M t1 v5.toNatClampNeg 0) fun (M12 : ZM) =>
          zlet (v5 + 1) fun (x13 : Int32) =>
          f_X12_findOver_125 t0 t1 v2 v3 v4 K n x13 M12) else (
          zck (zin v5 (zn (zr t0 23))) <|
          zck (zin v3 (zn (zr t0 3))) <|
          if (((M.1 (zr t0 23) v5.toNatClampNeg) >>> ((M.1 (zr t0 3) v3.toNatClampNeg) &&& 31)) &&& 1) = 1 then (
            zck (zin v5 (zn t1)) <|
            zlet (zi M t1 v5.toNatClampNeg 1) fun (M21 : ZM) =>
            zlet (v5 + 1) fun (x22 : Int32) =>
            f_X12_findOver_125 t0 t1 v2 v3 v4 K n x22 M21) else (
            zck (zin v5 (zn t1)) <|
            zlet (zi M t1 v5.toNatClampNeg 0) fun (M18 : ZM) =>
            zlet (v5 + 1) fun (x19 : Int32) =>
            f_X12_findOver_125 t0 t1 v2 v3 v4 K n x19 M18))))

def f_X12_findOver_49 (t0 : Nat) (t1 : Nat) (v2 : Int32) (v3 : Int32) (K : Int32 → ZM → Option ZM) : Nat → Int32 → Int32 → ZM → Option ZM
  | 0, _, _, _ => none
  | n + 1, v4, v5, M =>
    if (M.1 t0 26) ≤ v5 then (
      K v4 M) else (
      if v4 = 0 then (
        zck (zin v5 (zn t1)) <|
        if (M.1 t1 v5.toNatClampNeg) = 0 then (
          zlet (v5 + 1) fun (x31 : Int32) =>
          f_X12_findOver_49 t0 t1 v2 v3 K n 0 x31 M) else (
          zck (zin v5 (zn (zr t0 23))) <|
          zck (zin v3 (zn (zr t0 3))) <|
          if (((M.1 (zr t0 23) v5.toNatClampNeg) >>> ((M.1 (zr t0 3) v3.toNatClampNeg) &&& 31)) &&& 1) = 1 then (
            zlet (v5 + 1) fun (x36 : Int32) =>
            f_X12_findOver_49 t0 t1 v2 v3 K n 1 x36 M) else (
            zlet (v5 + 1) fun (x35 : Int32) =>
            f_X12_findOver_49 t0 t1 v2 v3 K n 0 x35 M))) else (
        zlet (v5 + 1) fun (x28 : Int32) =>
        f_X12_findOver_49 t0 t1 v2 v3 K n 1 x28 M))

def f_X12_findOver_27 (t0 : Nat) (t1 : Nat) (v2 : Int32) (K : ZM → Option ZM) : Nat → Int32 → ZM → Option ZM
  | 0, _, _ => none
  | n + 1, v3, M =>
    zlet (fun (v3 : Int32) (v4 : Int32) (s1 : Int32) (s2 : Int32) (M : ZM) =>
      zlet (zi M t0 37 (s1 + s2)) fun (M6 : ZM) =>
      f_X12_findOver_125 t0 t1 v2 v3 v4 (fun (M : ZM) =>
        zlet (v3 + 1) fun (x23 : Int32) =>
        f_X12_findOver_27 t0 t1 v2 K n x23 M) zN 0 M6) fun J118 =>
    if (M.1 t0 12) ≤ v3 then (
      K M) else (
      if v3 = v2 then (
        zlet (v3 + 1) fun (x38 : Int32) =>
        f_X12_findOver_27 t0 t1 v2 K n x38 M) else (
        f_X12_findOver_49 t0 t1 v2 v3 (fun (v4 : Int32) (M : ZM) =>
          if v4 = 0 then (
            J118 v3 v4 (M.1 t0 37) 1 M) else (
            J118 v3 v4 (M.1 t0 37) 0 M)) zN 0 0 M))

def f_X12_findOver (t0 : Nat) (t1 : Nat) (v2 : Int32) (M : ZM) : Option ZM :=
  f_X12_findOver_2 t0 t1 v2 (fun (M : ZM) =>
    zlet (zi M t0 37 0) fun (M5 : ZM) =>
    f_X12_findOver_27 t0 t1 v2 (fun (M : ZM) =>
      some M) zN 0 M5) zN 0 M
set_option maxHeartbeats 4000000 in
set_option maxRecDepth 100000 in
theorem w_X12_findOver_2 {G : ZG} (hG : zOk G) (S : zX p (zR 0) s m args c 0 0 cX12_findOver 6 RX12) (hr : meth.sig.returnType = none) (hlk : meth.locks = false) (t0 : Nat) (t1 : Nat) (v2 : Int32) (k0 : zk G t0 = 22) (k1 : zk G t1 = 2)  {K : ZM → Option ZM} {res : ZM} (hK : ∀  (M : ZM), K M = some res → ∀ (H : Heap) (locs : List Loc) (ls : Array Slot), zWd G A s H locs M → lv_has ls 6 [(0, .ref (za G t0)), (1, .ref (za G t1)), (2, .int v2)] → W p l e (zR 0) s m args below meth c H locs 0 0 (zQ below G A none res args s) (F0 m 20 ls [])) : ∀ (n : Nat) (v3 : Int32) (M : ZM), f_X12_findOver_2 t0 t1 v2 K n v3 M = some res → ∀ (H : Heap) (locs : List Loc) (ls : Array Slot), zWd G A s H locs M → lv_has ls 6 [(0, .ref (za G t0)), (1, .ref (za G t1)), (2, .int v2), (3, .int v3)] → W p l e (zR 0) s m args below meth c H locs 0 0 (zQ below G A none res args s) (F0 m 2 ls []) := by
  have hx := S.1.1
  have hb := S.1.2.1
  have hown := S.1.2.2.2.1
  have hts := S.1.2.2.2.2
  intro n
  induction n with
  | zero =>
    intro v3 M h
    rw [f_X12_findOver_2] at h
    cases h
  | succ n ih =>
    intro v3 M h H locs ls hw hl
    rw [f_X12_findOver_2] at h
    refine lv_iload_n hx hb dX12_findOver_2 rfl (lv_at hl 3 rfl) ?_
    refine lv_aload_n hx hb dX12_findOver_3 rfl (lv_at hl 0 rfl) ?_
    refine z_getI S hw k0 fl_X12_129 rfl dX12_findOver_4 ?_
    refine lv_icmp_ge (tgt := 20) hx hb dX12_findOver_7 (by decide) (fun c1 => ?_) (fun c1 => ?_)
    · have h := zif_t h c1
      exact hK M h H locs ls hw (lv_sub hl [0, 1, 2] rfl)
    · have h := zif_f h c1
      refine lv_aload_n hx hb dX12_findOver_10 rfl (lv_at hl 1 rfl) ?_
      refine lv_iload_n hx hb dX12_findOver_11 rfl (lv_at hl 3 rfl) ?_
      refine lv_iconst (v := 1) hx hb dX12_findOver_12 (by decide) ?_
      obtain ⟨g2, h⟩ := zck_ex h
      obtain ⟨M3, eM3, h⟩ := zlet_ex h
      refine z_zast S hw eM3 k1 g2 (by decide) dX12_findOver_13 (fun H locs hw => ?_)
      obtain ⟨x4, ex4, h⟩ := zlet_ex h
      refine lv_iinc (v := x4) (lv' := [(3, .int x4), (0, .ref (za G t0)), (1, .ref (za G t1)), (2, .int v2)]) hx hb dX12_findOver_14 hl (k := 3) rfl (by rw [ex4]; rfl) (by decide) rfl (fun ls hl => ?_)
      refine lv_goto (tgt := 2) hx hb dX12_findOver_17 (by decide) ?_
      exact ih x4 M3 h H locs ls hw (lv_sub hl [1, 2, 3, 0] rfl)
set_option maxHeartbeats 4000000 in
set_option maxRecDepth 100000 in
theorem w_X12_findOver_125 {G : ZG} (hG : zOk G) (S : zX p (zR 0) s m args c 0 0 cX12_findOver 6 RX12) (hr : meth.sig.returnType = none) (hlk : meth.locks = false) (t0 : Nat) (t1 : Nat) (v2 : Int32) (v3 : Int32) (v4 : Int32) (k0 : zk G t0 = 22) (k1 : zk G t1 = 2)  {K : ZM → Option ZM} {res : ZM} (hK : ∀  (M : ZM), K M = some res → ∀ (H : Heap) (locs : List Loc) (ls : Array Slot), zWd G A s H locs M → lv_has ls 6 [(0, .ref (za G t0)), (1, .ref (za G t1)), (2, .int v2), (3, .int v3)] → W p l e (zR 0) s m args below meth c H locs 0 0 (zQ below G A none res args s) (F0 m 181 ls [])) : ∀ (n : Nat) (v5 : Int32) (M : ZM), f_X12_findOver_125 t0 t1 v2 v3 v4 K n v5 M = some res → ∀ (H : Heap) (locs : List Loc) (ls : Array Slot), zWd G A s H locs M → lv_has ls 6 [(0, .ref (za G t0)), (1, .ref (za G t1)), (2, .int v2), (3, .int v3), (4, .int v4), (5, .int v5)] → W p l e (zR 0) s m args below meth c H locs 0 0 (zQ below G A none res args s) (F0 m 125 ls []) := by
  have hx := S.1.1
  have hb := S.1.2.1
  have hown := S.1.2.2.2.1
  have hts := S.1.2.2.2.2
  intro n
  induction n with
  | zero =>
    intro v5 M h
    rw [f_X12_findOver_125] at h
    cases h
  | succ n ih =>
    intro v5 M h H locs ls hw hl
    rw [f_X12_findOver_125] at h
    refine lv_iload hx hb dX12_findOver_125 (lv_at hl 5 rfl) ?_
    refine lv_aload_n hx hb dX12_findOver_127 rfl (lv_at hl 0 rfl) ?_
    refine z_getI S hw k0 fl_X12_129 rfl dX12_findOver_128 ?_
    refine lv_icmp_ge (tgt := 181) hx hb dX12_findOver_131 (by decide) (fun c7 => ?_) (fun c7 => ?_)
    · have h := zif_t h c7
      exact hK M h H locs ls hw (lv_sub hl [0, 1, 2, 3] rfl)
    · have h := zif_f h c7
      refine lv_iload hx hb dX12_findOver_134 (lv_at hl 4 rfl) ?_
      refine lv_if_eq (tgt := 181) hx hb dX12_findOver_136 (by decide) (fun c8 => ?_) (fun c8 => ?_)
      · have h := zif_t h c8
        exact hK M h H locs ls hw (lv_sub hl [0, 1, 2, 3] rfl)
      · have h := zif_f h c8
        refine lv_aload_n hx hb dX12_findOver_139 rfl (lv_at hl 1 rfl) ?_
        refine lv_iload hx hb dX12_findOver_140 (lv_at hl 5 rfl) ?_
        refine lv_aload_n hx hb dX12_findOver_142 rfl (lv_at hl 1 rfl) ?_
        refine lv_iload hx hb dX12_findOver_143 (lv_at hl 5 rfl) ?_
        obtain ⟨g9, h⟩ := zck_ex h
        refine z_zald S hw k1 g9 dX12_findOver_145 ?_
        refine lv_if_eq (tgt := 173) hx hb dX12_findOver_146 (by decide) (fun c10 => ?_) (fun c10 => ?_)
        · have h := zif_t h c10
          refine lv_iconst (v := 0) hx hb dX12_findOver_173 (by decide) ?_
          obtain ⟨g11, h⟩ := zck_ex h
          obtain ⟨M12, eM12, h⟩ := zlet_ex h
          refine z_zast S hw eM12 k1 g11 (by decide) dX12_findOver_174 (fun H locs hw => ?_)
          obtain ⟨x13, ex13, h⟩ := zlet_ex h
          refine lv_iinc (v := x13) (lv' := [(5, .int x13), (0, .ref (za G t0)), (1, .ref (za G t1)), (2, .int v2), (3, .int v3), (4, .int v4)]) hx hb dX12_findOver_175 hl (k := 5) rfl (by rw [ex13]; rfl) (by decide) rfl (fun ls hl => ?_)
          refine lv_goto (tgt := 125) hx hb dX12_findOver_178 (by decide) ?_
          exact ih x13 M12 h H locs ls hw (lv_sub hl [1, 2, 3, 4, 5, 0] rfl)
        · have h := zif_f h c10
          refine lv_aload_n hx hb dX12_findOver_149 rfl (lv_at hl 0 rfl) ?_
          refine z_getR S hw k0 fl_X12_56 rfl dX12_findOver_150 ?_
          refine lv_iload hx hb dX12_findOver_153 (lv_at hl 5 rfl) ?_
          obtain ⟨g14, h⟩ := zck_ex h
          refine z_iald S hw (kr_12_23 hG k0) g14 dX12_findOver_155 ?_
          refine lv_aload_n hx hb dX12_findOver_156 rfl (lv_at hl 0 rfl) ?_
          refine z_getR S hw k0 fl_X12_19 rfl dX12_findOver_157 ?_
          refine lv_iload_n hx hb dX12_findOver_160 rfl (lv_at hl 3 rfl) ?_
          obtain ⟨g15, h⟩ := zck_ex h
          refine z_iald S hw (kr_12_3 hG k0) g15 dX12_findOver_161 ?_
          refine lv_ishr hx hb dX12_findOver_162 ?_
          refine lv_iconst (v := 1) hx hb dX12_findOver_163 (by decide) ?_
          refine lv_iand hx hb dX12_findOver_164 ?_
          refine lv_iconst (v := 1) hx hb dX12_findOver_165 (by decide) ?_
          refine lv_icmp_ne (tgt := 173) hx hb dX12_findOver_166 (by decide) (fun c16 => ?_) (fun c16 => ?_)
          · have h := zif_f h c16
            refine lv_iconst (v := 0) hx hb dX12_findOver_173 (by decide) ?_
            obtain ⟨g17, h⟩ := zck_ex h
            obtain ⟨M18, eM18, h⟩ := zlet_ex h
            refine z_zast S hw eM18 k1 g17 (by decide) dX12_findOver_174 (fun H locs hw => ?_)
            obtain ⟨x19, ex19, h⟩ := zlet_ex h
            refine lv_iinc (v := x19) (lv' := [(5, .int x19), (0, .ref (za G t0)), (1, .ref (za G t1)), (2, .int v2), (3, .int v3), (4, .int v4)]) hx hb dX12_findOver_175 hl (k := 5) rfl (by rw [ex19]; rfl) (by decide) rfl (fun ls hl => ?_)
            refine lv_goto (tgt := 125) hx hb dX12_findOver_178 (by decide) ?_
            exact ih x19 M18 h H locs ls hw (lv_sub hl [1, 2, 3, 4, 5, 0] rfl)
          · have h := zif_t h c16
            refine lv_iconst (v := 1) hx hb dX12_findOver_169 (by decide) ?_
            refine lv_goto (tgt := 174) hx hb dX12_findOver_170 (by decide) ?_
            obtain ⟨g20, h⟩ := zck_ex h
            obtain ⟨M21, eM21, h⟩ := zlet_ex h
            refine z_zast S hw eM21 k1 g20 (by decide) dX12_findOver_174 (fun H locs hw => ?_)
            obtain ⟨x22, ex22, h⟩ := zlet_ex h
            refine lv_iinc (v := x22) (lv' := [(5, .int x22), (0, .ref (za G t0)), (1, .ref (za G t1)), (2, .int v2), (3, .int v3), (4, .int v4)]) hx hb dX12_findOver_175 hl (k := 5) rfl (by rw [ex22]; rfl) (by decide) rfl (fun ls hl => ?_)
            refine lv_goto (tgt := 125) hx hb dX12_findOver_178 (by decide) ?_
            exact ih x22 M21 h H locs ls hw (lv_sub hl [1, 2, 3, 4, 5, 0] rfl)
set_option maxHeartbeats 4000000 in
set_option maxRecDepth 100000 in
theorem w_X12_findOver_49 {G : ZG} (hG : zOk G) (S : zX p (zR 0) s m args c 0 0 cX12_findOver 6 RX12) (hr : meth.sig.returnType = none) (hlk : meth.locks = false) (t0 : Nat) (t1 : Nat) (v2 : Int32) (v3 : Int32) (k0 : zk G t0 = 22) (k1 : zk G t1 = 2)  {K : Int32 → ZM → Option ZM} {res : ZM} (hK : ∀ (v4 : Int32) (M : ZM), K v4 M = some res → ∀ (H : Heap) (locs : List Loc) (ls : Array Slot), zWd G A s H locs M → lv_has ls 6 [(0, .ref (za G t0)), (1, .ref (za G t1)), (2, .int v2), (3, .int v3), (4, .int v4)] → W p l e (zR 0) s m args below meth c H locs 0 0 (zQ below G A none res args s) (F0 m 103 ls [])) : ∀ (n : Nat) (v4 : Int32) (v5 : Int32) (M : ZM), f_X12_findOver_49 t0 t1 v2 v3 K n v4 v5 M = some res → ∀ (H : Heap) (locs : List Loc) (ls : Array Slot), zWd G A s H locs M → lv_has ls 6 [(0, .ref (za G t0)), (1, .ref (za G t1)), (2, .int v2), (3, .int v3), (4, .int v4), (5, .int v5)] → W p l e (zR 0) s m args below meth c H locs 0 0 (zQ below G A none res args s) (F0 m 49 ls []) := by
  have hx := S.1.1
  have hb := S.1.2.1
  have hown := S.1.2.2.2.1
  have hts := S.1.2.2.2.2
  intro n
  induction n with
  | zero =>
    intro v4 v5 M h
    rw [f_X12_findOver_49] at h
    cases h
  | succ n ih =>
    intro v4 v5 M h H locs ls hw hl
    rw [f_X12_findOver_49] at h
    refine lv_iload hx hb dX12_findOver_49 (lv_at hl 5 rfl) ?_
    refine lv_aload_n hx hb dX12_findOver_51 rfl (lv_at hl 0 rfl) ?_
    refine z_getI S hw k0 fl_X12_129 rfl dX12_findOver_52 ?_
    refine lv_icmp_ge (tgt := 103) hx hb dX12_findOver_55 (by decide) (fun c26 => ?_) (fun c26 => ?_)
    · have h := zif_t h c26
      exact hK v4 M h H locs ls hw (lv_sub hl [0, 1, 2, 3, 4] rfl)
    · have h := zif_f h c26
      refine lv_iload hx hb dX12_findOver_58 (lv_at hl 4 rfl) ?_
      refine lv_if_ne (tgt := 90) hx hb dX12_findOver_60 (by decide) (fun c27 => ?_) (fun c27 => ?_)
      · have h := zif_f h c27
        refine lv_iconst (v := 1) hx hb dX12_findOver_90 (by decide) ?_
        refine lv_goto (tgt := 95) hx hb dX12_findOver_91 (by decide) ?_
        refine lv_istore (lv' := [(4, .int 1), (0, .ref (za G t0)), (1, .ref (za G t1)), (2, .int v2), (3, .int v3), (5, .int v5)]) hx hb dX12_findOver_95 hl (by decide) rfl (fun ls hl => ?_)
        obtain ⟨x28, ex28, h⟩ := zlet_ex h
        refine lv_iinc (v := x28) (lv' := [(5, .int x28), (4, .int 1), (0, .ref (za G t0)), (1, .ref (za G t1)), (2, .int v2), (3, .int v3)]) hx hb dX12_findOver_97 hl (k := 5) rfl (by rw [ex28]; rfl) (by decide) rfl (fun ls hl => ?_)
        refine lv_goto (tgt := 49) hx hb dX12_findOver_100 (by decide) ?_
        exact ih 1 x28 M h H locs ls hw (lv_sub hl [2, 3, 4, 5, 1, 0] rfl)
      · have h := zif_t h c27
        refine lv_aload_n hx hb dX12_findOver_63 rfl (lv_at hl 1 rfl) ?_
        refine lv_iload hx hb dX12_findOver_64 (lv_at hl 5 rfl) ?_
        obtain ⟨g29, h⟩ := zck_ex h
        refine z_zald S hw k1 g29 dX12_findOver_66 ?_
        refine lv_if_eq (tgt := 94) hx hb dX12_findOver_67 (by decide) (fun c30 => ?_) (fun c30 => ?_)
        · have h := zif_t h c30
          refine lv_iconst (v := 0) hx hb dX12_findOver_94 (by decide) ?_
          refine lv_istore (lv' := [(4, .int 0), (0, .ref (za G t0)), (1, .ref (za G t1)), (2, .int v2), (3, .int v3), (5, .int v5)]) hx hb dX12_findOver_95 hl (by decide) rfl (fun ls hl => ?_)
          obtain ⟨x31, ex31, h⟩ := zlet_ex h
          refine lv_iinc (v := x31) (lv' := [(5, .int x31), (4, .int 0), (0, .ref (za G t0)), (1, .ref (za G t1)), (2, .int v2), (3, .int v3)]) hx hb dX12_findOver_97 hl (k := 5) rfl (by rw [ex31]; rfl) (by decide) rfl (fun ls hl => ?_)
          refine lv_goto (tgt := 49) hx hb dX12_findOver_100 (by decide) ?_
          exact ih 0 x31 M h H locs ls hw (lv_sub hl [2, 3, 4, 5, 1, 0] rfl)
        · have h := zif_f h c30
          refine lv_aload_n hx hb dX12_findOver_70 rfl (lv_at hl 0 rfl) ?_
          refine z_getR S hw k0 fl_X12_56 rfl dX12_findOver_71 ?_
          refine lv_iload hx hb dX12_findOver_74 (lv_at hl 5 rfl) ?_
          obtain ⟨g32, h⟩ := zck_ex h
          refine z_iald S hw (kr_12_23 hG k0) g32 dX12_findOver_76 ?_
          refine lv_aload_n hx hb dX12_findOver_77 rfl (lv_at hl 0 rfl) ?_
          refine z_getR S hw k0 fl_X12_19 rfl dX12_findOver_78 ?_
          refine lv_iload_n hx hb dX12_findOver_81 rfl (lv_at hl 3 rfl) ?_
          obtain ⟨g33, h⟩ := zck_ex h
          refine z_iald S hw (kr_12_3 hG k0) g33 dX12_findOver_82 ?_
          refine lv_ishr hx hb dX12_findOver_83 ?_
          refine lv_iconst (v := 1) hx hb dX12_findOver_84 (by decide) ?_
          refine lv_iand hx hb dX12_findOver_85 ?_
          refine lv_iconst (v := 1) hx hb dX12_findOver_86 (by decide) ?_
          refine lv_icmp_ne (tgt := 94) hx hb dX12_findOver_87 (by decide) (fun c34 => ?_) (fun c34 => ?_)
          · have h := zif_f h c34
            refine lv_iconst (v := 0) hx hb dX12_findOver_94 (by decide) ?_
            refine lv_istore (lv' := [(4, .int 0), (0, .ref (za G t0)), (1, .ref (za G t1)), (2, .int v2), (3, .int v3), (5, .int v5)]) hx hb dX12_findOver_95 hl (by decide) rfl (fun ls hl => ?_)
            obtain ⟨x35, ex35, h⟩ := zlet_ex h
            refine lv_iinc (v := x35) (lv' := [(5, .int x35), (4, .int 0), (0, .ref (za G t0)), (1, .ref (za G t1)), (2, .int v2), (3, .int v3)]) hx hb dX12_findOver_97 hl (k := 5) rfl (by rw [ex35]; rfl) (by decide) rfl (fun ls hl => ?_)
            refine lv_goto (tgt := 49) hx hb dX12_findOver_100 (by decide) ?_
            exact ih 0 x35 M h H locs ls hw (lv_sub hl [2, 3, 4, 5, 1, 0] rfl)
          · have h := zif_t h c34
            refine lv_iconst (v := 1) hx hb dX12_findOver_90 (by decide) ?_
            refine lv_goto (tgt := 95) hx hb dX12_findOver_91 (by decide) ?_
            refine lv_istore (lv' := [(4, .int 1), (0, .ref (za G t0)), (1, .ref (za G t1)), (2, .int v2), (3, .int v3), (5, .int v5)]) hx hb dX12_findOver_95 hl (by decide) rfl (fun ls hl => ?_)
            obtain ⟨x36, ex36, h⟩ := zlet_ex h
            refine lv_iinc (v := x36) (lv' := [(5, .int x36), (4, .int 1), (0, .ref (za G t0)), (1, .ref (za G t1)), (2, .int v2), (3, .int v3)]) hx hb dX12_findOver_97 hl (k := 5) rfl (by rw [ex36]; rfl) (by decide) rfl (fun ls hl => ?_)
            refine lv_goto (tgt := 49) hx hb dX12_findOver_100 (by decide) ?_
            exact ih 1 x36 M h H locs ls hw (lv_sub hl [2, 3, 4, 5, 1, 0] rfl)
set_option maxHeartbeats 4000000 in
set_option maxRecDepth 100000 in
theorem w_X12_findOver_27 {G : ZG} (hG : zOk G) (S : zX p (zR 0) s m args c 0 0 cX12_findOver 6 RX12) (hr : meth.sig.returnType = none) (hlk : meth.locks = false) (t0 : Nat) (t1 : Nat) (v2 : Int32) (k0 : zk G t0 = 22) (k1 : zk G t1 = 2)  {K : ZM → Option ZM} {res : ZM} (hK : ∀  (M : ZM), K M = some res → ∀ (H : Heap) (locs : List Loc) (ls : Array Slot), zWd G A s H locs M → lv_has ls 6 [] → W p l e (zR 0) s m args below meth c H locs 0 0 (zQ below G A none res args s) (F0 m 187 ls [])) : ∀ (n : Nat) (v3 : Int32) (M : ZM), f_X12_findOver_27 t0 t1 v2 K n v3 M = some res → ∀ (H : Heap) (locs : List Loc) (ls : Array Slot), zWd G A s H locs M → lv_has ls 6 [(0, .ref (za G t0)), (1, .ref (za G t1)), (2, .int v2), (3, .int v3)] → W p l e (zR 0) s m args below meth c H locs 0 0 (zQ below G A none res args s) (F0 m 27 ls []) := by
  have hx := S.1.1
  have hb := S.1.2.1
  have hown := S.1.2.2.2.1
  have hts := S.1.2.2.2.2
  intro n
  induction n with
  | zero =>
    intro v3 M h
    rw [f_X12_findOver_27] at h
    cases h
  | succ n ih =>
    intro v3 M h H locs ls hw hl
    rw [f_X12_findOver_27] at h
    obtain ⟨J118, hJ118, h⟩ := zlet_ex h
    have wJ118 : ∀ (v3 : Int32) (v4 : Int32) (s1 : Int32) (s2 : Int32) (M : ZM), J118 v3 v4 s1 s2 M = some res → ∀ (H : Heap) (locs : List Loc) (ls : Array Slot), zWd G A s H locs M → lv_has ls 6 [(0, .ref (za G t0)), (1, .ref (za G t1)), (2, .int v2), (3, .int v3), (4, .int v4)] → W p l e (zR 0) s m args below meth c H locs 0 0 (zQ below G A none res args s) (F0 m 118 ls [.int s2, .int s1, .ref (za G t0)]) := by
      intro v3 v4 s1 s2 M h H locs ls hw hl
      subst hJ118
      refine lv_iadd hx hb dX12_findOver_118 ?_
      obtain ⟨M6, eM6, h⟩ := zlet_ex h
      refine z_putI S hw eM6 k0 fl_X12_194 rfl (fun h => absurd h (by decide)) dX12_findOver_119 (fun H locs hw => ?_)
      refine lv_iconst (v := 0) hx hb dX12_findOver_122 (by decide) ?_
      refine lv_istore (lv' := [(5, .int 0), (0, .ref (za G t0)), (1, .ref (za G t1)), (2, .int v2), (3, .int v3), (4, .int v4)]) hx hb dX12_findOver_123 hl (by decide) rfl (fun ls hl => ?_)
      refine w_X12_findOver_125 hG S hr hlk t0 t1 v2 v3 v4 k0 k1 (fun M h H locs ls hw hl => ?_) zN 0 M6 h H locs ls hw (lv_sub hl [1, 2, 3, 4, 5, 0] rfl)
      obtain ⟨x23, ex23, h⟩ := zlet_ex h
      refine lv_iinc (v := x23) (lv' := [(3, .int x23), (0, .ref (za G t0)), (1, .ref (za G t1)), (2, .int v2)]) hx hb dX12_findOver_181 hl (k := 3) rfl (by rw [ex23]; rfl) (by decide) rfl (fun ls hl => ?_)
      refine lv_goto (tgt := 27) hx hb dX12_findOver_184 (by decide) ?_
      exact ih x23 M h H locs ls hw (lv_sub hl [1, 2, 3, 0] rfl)
    refine lv_iload_n hx hb dX12_findOver_27 rfl (lv_at hl 3 rfl) ?_
    refine lv_aload_n hx hb dX12_findOver_28 rfl (lv_at hl 0 rfl) ?_
    refine z_getI S hw k0 fl_X12_191 rfl dX12_findOver_29 ?_
    refine lv_icmp_ge (tgt := 187) hx hb dX12_findOver_32 (by decide) (fun c24 => ?_) (fun c24 => ?_)
    · have h := zif_t h c24
      exact hK M h H locs ls hw (lv_sub hl [] rfl)
    · have h := zif_f h c24
      refine lv_iload_n hx hb dX12_findOver_35 rfl (lv_at hl 3 rfl) ?_
      refine lv_iload_n hx hb dX12_findOver_36 rfl (lv_at hl 2 rfl) ?_
      refine lv_icmp_ne (tgt := 43) hx hb dX12_findOver_37 (by decide) (fun c25 => ?_) (fun c25 => ?_)
      · have h := zif_f h c25
        refine lv_iconst (v := 0) hx hb dX12_findOver_43 (by decide) ?_
        refine lv_istore (lv' := [(4, .int 0), (0, .ref (za G t0)), (1, .ref (za G t1)), (2, .int v2), (3, .int v3)]) hx hb dX12_findOver_44 hl (by decide) rfl (fun ls hl => ?_)
        refine lv_iconst (v := 0) hx hb dX12_findOver_46 (by decide) ?_
        refine lv_istore (lv' := [(5, .int 0), (4, .int 0), (0, .ref (za G t0)), (1, .ref (za G t1)), (2, .int v2), (3, .int v3)]) hx hb dX12_findOver_47 hl (by decide) rfl (fun ls hl => ?_)
        refine w_X12_findOver_49 hG S hr hlk t0 t1 v2 v3 k0 k1 (fun v4 M h H locs ls hw hl => ?_) zN 0 0 M h H locs ls hw (lv_sub hl [2, 3, 4, 5, 1, 0] rfl)
        refine lv_aload_n hx hb dX12_findOver_103 rfl (lv_at hl 0 rfl) ?_
        refine lv_dup hx hb dX12_findOver_104 rfl ?_
        refine z_getI S hw k0 fl_X12_194 rfl dX12_findOver_105 ?_
        refine lv_iload hx hb dX12_findOver_108 (lv_at hl 4 rfl) ?_
        refine lv_if_eq (tgt := 117) hx hb dX12_findOver_110 (by decide) (fun c37 => ?_) (fun c37 => ?_)
        · have h := zif_t h c37
          refine lv_iconst (v := 1) hx hb dX12_findOver_117 (by decide) ?_
          exact wJ118 v3 v4 (M.1 t0 37) 1 M h H locs ls hw (lv_sub hl [0, 1, 2, 3, 4] rfl)
        · have h := zif_f h c37
          refine lv_iconst (v := 0) hx hb dX12_findOver_113 (by decide) ?_
          refine lv_goto (tgt := 118) hx hb dX12_findOver_114 (by decide) ?_
          exact wJ118 v3 v4 (M.1 t0 37) 0 M h H locs ls hw (lv_sub hl [0, 1, 2, 3, 4] rfl)
      · have h := zif_t h c25
        refine lv_goto (tgt := 181) hx hb dX12_findOver_40 (by decide) ?_
        obtain ⟨x38, ex38, h⟩ := zlet_ex h
        refine lv_iinc (v := x38) (lv' := [(3, .int x38), (0, .ref (za G t0)), (1, .ref (za G t1)), (2, .int v2)]) hx hb dX12_findOver_181 hl (k := 3) rfl (by rw [ex38]; rfl) (by decide) rfl (fun ls hl => ?_)
        refine lv_goto (tgt := 27) hx hb dX12_findOver_184 (by decide) ?_
        exact ih x38 M h H locs ls hw (lv_sub hl [1, 2, 3, 0] rfl)
set_option maxHeartbeats 4000000 in
set_option maxRecDepth 100000 in
theorem c_X12_findOver (l : Launch) {G : ZG} (hG : zOk G) (t0 : Nat) (t1 : Nat) (v2 : Int32) (k0 : zk G t0 = 22) (k1 : zk G t1 = 2) (M : ZM) (res : ZM) (h : f_X12_findOver t0 t1 v2 M = some res) : zCt l yX12_findOver cX12_findOver 6 none 0 G [.ref (za G t0), .ref (za G t1), .int v2] M none res := by
  refine zCt.mk (by decide +kernel) (Nat.le_of_ble_eq_true rfl) ?_
  intro p e s m args below meth c A H locs ls S hr hlk hw hl
  have S : zX p (zR 0) s m args c 0 0 cX12_findOver 6 RX12 := S
  have hx := S.1.1
  have hb := S.1.2.1
  have hown := S.1.2.2.2.1
  have hts := S.1.2.2.2.2
  have hl : lv_has ls 6 [(0, .ref (za G t0)), (1, .ref (za G t1)), (2, .int v2)] := hl
  unfold f_X12_findOver at h
  refine lv_iconst (v := 0) hx hb dX12_findOver_0 (by decide) ?_
  refine lv_istore_n (lv' := [(3, .int 0), (0, .ref (za G t0)), (1, .ref (za G t1)), (2, .int v2)]) hx hb dX12_findOver_1 rfl hl (by decide) rfl (fun ls hl => ?_)
  refine w_X12_findOver_2 hG S hr hlk t0 t1 v2 k0 k1 (fun M h H locs ls hw hl => ?_) zN 0 M h H locs ls hw (lv_sub hl [1, 2, 3, 0] rfl)
  refine lv_aload_n hx hb dX12_findOver_20 rfl (lv_at hl 0 rfl) ?_
  refine lv_iconst (v := 0) hx hb dX12_findOver_21 (by decide) ?_
  obtain ⟨M5, eM5, h⟩ := zlet_ex h
  refine z_putI S hw eM5 k0 fl_X12_194 rfl (fun h => absurd h (by decide)) dX12_findOver_22 (fun H locs hw => ?_)
  refine lv_iconst (v := 0) hx hb dX12_findOver_25 (by decide) ?_
  refine lv_istore_n (lv' := [(3, .int 0), (0, .ref (za G t0)), (1, .ref (za G t1)), (2, .int v2)]) hx hb dX12_findOver_26 rfl hl (by decide) rfl (fun ls hl => ?_)
  refine w_X12_findOver_27 hG S hr hlk t0 t1 v2 k0 k1 (fun M h H locs ls hw hl => ?_) zN 0 M5 h H locs ls hw (lv_sub hl [1, 2, 3, 0] rfl)
  have h := Option.some.inj h
  subst h
  exact z_ret_v S hr hlk hw dX12_findOver_187
def f_X12_leftOver_48 (t0 : Nat) (v1 : Int32) (K : Int32 → ZM → Option (Int32 × ZM)) : Nat → Int32 → Int32 → ZM → Option (Int32 × ZM)
  | 0, _, _, _ => none
  | n + 1, v3, v4, M =>
    if (M.1 t0 26) ≤ v4 then (
      K v3 M) else (
      zck (zin v4 (zn (zr t0 35))) <|
      if (M.1 (zr t0 35) v4.toNatClampNeg) = 0 then (
        zlet (v4 + 1) fun (x9 : Int32) =>
        f_X12_leftOver_48 t0 v1 K n v3 x9 M) else (
        if v3 = v1 then (
          some (v4, M)) else (
          zlet (v3 + 1) fun (x7 : Int32) =>
          zlet (v4 + 1) fun (x8 : Int32) =>
          f_X12_leftOver_48 t0 v1 K n x7 x8 M)))

def f_X12_leftOver (t0 : Nat) (v1 : Int32) (M : ZM) : Option (Int32 × ZM) :=
  zlet (fun (s0 : Int32) (M : ZM) =>
    if s0 = 0 then (
      (f_X12_findOver t0 (zr t0 35) (-9) M).bind fun (q2 : ZM) =>
      f_X12_leftOver_48 t0 v1 (fun (v3 : Int32) (M : ZM) =>
        if 0 ≤ v1 then (
          some (((-9) : Int32), M)) else (
          some (v3, M))) zN 0 0 q2) else (
      (f_X12_refuse t0 s0 M).bind fun (q11 : (Int32 × ZM)) =>
      some (q11.1, q11.2))) fun J22 =>
  if (M.1 t0 29) = 0 then (
    J22 (-5) M) else (
    if (-1) ≤ v1 then (
      J22 0 M) else (
      J22 (-1) M))
set_option maxHeartbeats 4000000 in
set_option maxRecDepth 100000 in
theorem w_X12_leftOver_48 {G : ZG} (hG : zOk G) (S : zX p (zR 1) s m args c 0 0 cX12_leftOver 5 RX12) (hr : meth.sig.returnType = (Option.some FieldType.int)) (hlk : meth.locks = false) (t0 : Nat) (v1 : Int32) (k0 : zk G t0 = 22)  {K : Int32 → ZM → Option (Int32 × ZM)} {res : (Int32 × ZM)} (hK : ∀ (v3 : Int32) (M : ZM), K v3 M = some res → ∀ (H : Heap) (locs : List Loc) (ls : Array Slot), zWd G A s H locs M → lv_has ls 5 [(1, .int v1), (3, .int v3)] → W p l e (zR 1) s m args below meth c H locs 0 0 (zQ below G A (some (.int res.1)) res.2 args s) (F0 m 87 ls [])) : ∀ (n : Nat) (v3 : Int32) (v4 : Int32) (M : ZM), f_X12_leftOver_48 t0 v1 K n v3 v4 M = some res → ∀ (H : Heap) (locs : List Loc) (ls : Array Slot), zWd G A s H locs M → lv_has ls 5 [(0, .ref (za G t0)), (1, .int v1), (3, .int v3), (4, .int v4)] → W p l e (zR 1) s m args below meth c H locs 0 0 (zQ below G A (some (.int res.1)) res.2 args s) (F0 m 48 ls []) := by
  have hx := S.1.1
  have hb := S.1.2.1
  have hown := S.1.2.2.2.1
  have hts := S.1.2.2.2.2
  intro n
  induction n with
  | zero =>
    intro v3 v4 M h
    rw [f_X12_leftOver_48] at h
    cases h
  | succ n ih =>
    intro v3 v4 M h H locs ls hw hl
    rw [f_X12_leftOver_48] at h
    refine lv_iload hx hb dX12_leftOver_48 (lv_at hl 3 rfl) ?_
    refine lv_aload_n hx hb dX12_leftOver_50 rfl (lv_at hl 0 rfl) ?_
    refine z_getI S hw k0 fl_X12_129 rfl dX12_leftOver_51 ?_
    refine lv_icmp_ge (tgt := 87) hx hb dX12_leftOver_54 (by decide) (fun c3 => ?_) (fun c3 => ?_)
    · have h := zif_t h c3
      exact hK v3 M h H locs ls hw (lv_sub hl [1, 2] rfl)
    · have h := zif_f h c3
      refine lv_aload_n hx hb dX12_leftOver_57 rfl (lv_at hl 0 rfl) ?_
      refine z_getR S hw k0 fl_X12_75 rfl dX12_leftOver_58 ?_
      refine lv_iload hx hb dX12_leftOver_61 (lv_at hl 3 rfl) ?_
      obtain ⟨g4, h⟩ := zck_ex h
      refine z_zald S hw (kr_12_35 hG k0) g4 dX12_leftOver_63 ?_
      refine lv_if_ne (tgt := 70) hx hb dX12_leftOver_64 (by decide) (fun c5 => ?_) (fun c5 => ?_)
      · have h := zif_f h c5
        refine lv_iload_n hx hb dX12_leftOver_70 rfl (lv_at hl 2 rfl) ?_
        refine lv_iload_n hx hb dX12_leftOver_71 rfl (lv_at hl 1 rfl) ?_
        refine lv_icmp_ne (tgt := 78) hx hb dX12_leftOver_72 (by decide) (fun c6 => ?_) (fun c6 => ?_)
        · have h := zif_f h c6
          obtain ⟨x7, ex7, h⟩ := zlet_ex h
          refine lv_iinc (v := x7) (lv' := [(3, .int x7), (0, .ref (za G t0)), (1, .int v1), (4, .int v4)]) hx hb dX12_leftOver_78 hl (k := 2) rfl (by rw [ex7]; rfl) (by decide) rfl (fun ls hl => ?_)
          obtain ⟨x8, ex8, h⟩ := zlet_ex h
          refine lv_iinc (v := x8) (lv' := [(4, .int x8), (3, .int x7), (0, .ref (za G t0)), (1, .int v1)]) hx hb dX12_leftOver_81 hl (k := 3) rfl (by rw [ex8]; rfl) (by decide) rfl (fun ls hl => ?_)
          refine lv_goto (tgt := 48) hx hb dX12_leftOver_84 (by decide) ?_
          exact ih x7 x8 M h H locs ls hw (lv_sub hl [2, 3, 1, 0] rfl)
        · have h := zif_t h c6
          refine lv_iload hx hb dX12_leftOver_75 (lv_at hl 3 rfl) ?_
          have h := Option.some.inj h
          subst h
          exact z_ret_i S hr hlk hw dX12_leftOver_77
      · have h := zif_t h c5
        refine lv_goto (tgt := 81) hx hb dX12_leftOver_67 (by decide) ?_
        obtain ⟨x9, ex9, h⟩ := zlet_ex h
        refine lv_iinc (v := x9) (lv' := [(4, .int x9), (0, .ref (za G t0)), (1, .int v1), (3, .int v3)]) hx hb dX12_leftOver_81 hl (k := 3) rfl (by rw [ex9]; rfl) (by decide) rfl (fun ls hl => ?_)
        refine lv_goto (tgt := 48) hx hb dX12_leftOver_84 (by decide) ?_
        exact ih v3 x9 M h H locs ls hw (lv_sub hl [1, 2, 3, 0] rfl)
set_option maxHeartbeats 4000000 in
set_option maxRecDepth 100000 in
theorem c_X12_leftOver (l : Launch) {G : ZG} (hG : zOk G) (t0 : Nat) (v1 : Int32) (k0 : zk G t0 = 22) (M : ZM) (res : (Int32 × ZM)) (h : f_X12_leftOver t0 v1 M = some res) : zCt l yX12_leftOver cX12_leftOver 5 (Option.some FieldType.int) 1 G [.ref (za G t0), .int v1] M (some (.int res.1)) res.2 := by
  refine zCt.mk (by decide +kernel) (Nat.le_of_ble_eq_true rfl) ?_
  intro p e s m args below meth c A H locs ls S hr hlk hw hl
  have S : zX p (zR 1) s m args c 0 0 cX12_leftOver 5 RX12 := S
  have hx := S.1.1
  have hb := S.1.2.1
  have hown := S.1.2.2.2.1
  have hts := S.1.2.2.2.2
  have hl : lv_has ls 5 [(0, .ref (za G t0)), (1, .int v1)] := hl
  unfold f_X12_leftOver at h
  obtain ⟨J22, hJ22, h⟩ := zlet_ex h
  have wJ22 : ∀ (s0 : Int32) (M : ZM), J22 s0 M = some res → ∀ (H : Heap) (locs : List Loc) (ls : Array Slot), zWd G A s H locs M → lv_has ls 5 [(0, .ref (za G t0)), (1, .int v1)] → W p l e (zR 1) s m args below meth c H locs 0 0 (zQ below G A (some (.int res.1)) res.2 args s) (F0 m 22 ls [.int s0]) := by
    intro s0 M h H locs ls hw hl
    subst hJ22
    refine lv_istore_n (lv' := [(2, .int s0), (0, .ref (za G t0)), (1, .int v1)]) hx hb dX12_leftOver_22 rfl hl (by decide) rfl (fun ls hl => ?_)
    refine lv_iload_n hx hb dX12_leftOver_23 rfl (lv_at hl 0 rfl) ?_
    refine lv_if_eq (tgt := 33) hx hb dX12_leftOver_24 (by decide) (fun c1 => ?_) (fun c1 => ?_)
    · have h := zif_t h c1
      refine lv_aload_n hx hb dX12_leftOver_33 rfl (lv_at hl 1 rfl) ?_
      refine lv_aload_n hx hb dX12_leftOver_34 rfl (lv_at hl 1 rfl) ?_
      refine z_getR S hw k0 fl_X12_75 rfl dX12_leftOver_35 ?_
      refine lv_bipush (v := (-9)) hx hb dX12_leftOver_38 (by decide) ?_
      obtain ⟨q2, eq2, h⟩ := Option.bind_eq_some_iff.mp h
      refine z_callV (ci := 12) (As := [.ref (za G (zr t0 35)), .int (-9)]) (rest := []) (rv := none) (M1 := q2) S hw (c_X12_findOver l hG t0 (zr t0 35) (-9) k0 (kr_12_35 hG k0) M q2 eq2) mv_X12_findOver lk_X12_197 k0 ⟨_, _, rfl⟩ (by decide) rfl rfl (Nat.le_of_ble_eq_true rfl) ⟨Nat.le_of_ble_eq_true rfl, Nat.le_of_ble_eq_true rfl⟩ hl.1 dX12_leftOver_40 (fun H locs hw => ?_)
      refine lv_iconst (v := 0) hx hb dX12_leftOver_43 (by decide) ?_
      refine lv_istore_n (lv' := [(3, .int 0), (2, .int s0), (0, .ref (za G t0)), (1, .int v1)]) hx hb dX12_leftOver_44 rfl hl (by decide) rfl (fun ls hl => ?_)
      refine lv_iconst (v := 0) hx hb dX12_leftOver_45 (by decide) ?_
      refine lv_istore (lv' := [(4, .int 0), (3, .int 0), (2, .int s0), (0, .ref (za G t0)), (1, .int v1)]) hx hb dX12_leftOver_46 hl (by decide) rfl (fun ls hl => ?_)
      refine w_X12_leftOver_48 hG S hr hlk t0 v1 k0 (fun v3 M h H locs ls hw hl => ?_) zN 0 0 q2 h H locs ls hw (lv_sub hl [3, 4, 1, 0] rfl)
      refine lv_iload_n hx hb dX12_leftOver_87 rfl (lv_at hl 0 rfl) ?_
      refine lv_if_ge (tgt := 95) hx hb dX12_leftOver_88 (by decide) (fun c10 => ?_) (fun c10 => ?_)
      · have h := zif_t h c10
        refine lv_bipush (v := (-9)) hx hb dX12_leftOver_95 (by decide) ?_
        have h := Option.some.inj h
        subst h
        exact z_ret_i S hr hlk hw dX12_leftOver_97
      · have h := zif_f h c10
        refine lv_iload_n hx hb dX12_leftOver_91 rfl (lv_at hl 1 rfl) ?_
        refine lv_goto (tgt := 97) hx hb dX12_leftOver_92 (by decide) ?_
        have h := Option.some.inj h
        subst h
        exact z_ret_i S hr hlk hw dX12_leftOver_97
    · have h := zif_f h c1
      refine lv_aload_n hx hb dX12_leftOver_27 rfl (lv_at hl 1 rfl) ?_
      refine lv_iload_n hx hb dX12_leftOver_28 rfl (lv_at hl 0 rfl) ?_
      obtain ⟨q11, eq11, h⟩ := Option.bind_eq_some_iff.mp h
      refine z_callV (ci := 12) (As := [.int s0]) (rest := []) (rv := (some (.int q11.1))) (M1 := q11.2) S hw (c_X12_refuse l hG t0 s0 k0 M q11 eq11) mv_X12_refuse lk_X12_91 k0 ⟨_, _, rfl⟩ (by decide) rfl rfl (Nat.le_of_ble_eq_true rfl) ⟨Nat.le_of_ble_eq_true rfl, Nat.le_of_ble_eq_true rfl⟩ hl.1 dX12_leftOver_29 (fun H locs hw => ?_)
      have h := Option.some.inj h
      subst h
      exact z_ret_i S hr hlk hw dX12_leftOver_32
  refine lv_aload_n hx hb dX12_leftOver_0 rfl (lv_at hl 0 rfl) ?_
  refine z_getI S hw k0 fl_X12_170 rfl dX12_leftOver_1 ?_
  refine lv_if_ne (tgt := 12) hx hb dX12_leftOver_4 (by decide) (fun c12 => ?_) (fun c12 => ?_)
  · have h := zif_f h c12
    refine lv_iload_n hx hb dX12_leftOver_12 rfl (lv_at hl 1 rfl) ?_
    refine lv_iconst (v := (-1)) hx hb dX12_leftOver_13 (by decide) ?_
    refine lv_icmp_ge (tgt := 21) hx hb dX12_leftOver_14 (by decide) (fun c13 => ?_) (fun c13 => ?_)
    · have h := zif_t h c13
      refine lv_iconst (v := 0) hx hb dX12_leftOver_21 (by decide) ?_
      exact wJ22 0 M h H locs ls hw (lv_sub hl [0, 1] rfl)
    · have h := zif_f h c13
      refine lv_iconst (v := (-1)) hx hb dX12_leftOver_17 (by decide) ?_
      refine lv_goto (tgt := 22) hx hb dX12_leftOver_18 (by decide) ?_
      exact wJ22 (-1) M h H locs ls hw (lv_sub hl [0, 1] rfl)
  · have h := zif_t h c12
    refine lv_bipush (v := (-5)) hx hb dX12_leftOver_7 (by decide) ?_
    refine lv_goto (tgt := 22) hx hb dX12_leftOver_9 (by decide) ?_
    exact wJ22 (-5) M h H locs ls hw (lv_sub hl [0, 1] rfl)
def f_X12_passedOver (t0 : Nat) (M : ZM) : Option (Int32 × ZM) :=
  if (M.1 t0 29) = 0 then (
    (f_X12_refuse t0 (-5) M).bind fun (q3 : (Int32 × ZM)) =>
    some (q3.1, q3.2)) else (
    (f_X12_findOver t0 (zr t0 35) (-9) M).bind fun (q2 : ZM) =>
    some ((q2.1 t0 37), q2))
set_option maxHeartbeats 4000000 in
set_option maxRecDepth 100000 in
theorem c_X12_passedOver (l : Launch) {G : ZG} (hG : zOk G) (t0 : Nat) (k0 : zk G t0 = 22) (M : ZM) (res : (Int32 × ZM)) (h : f_X12_passedOver t0 M = some res) : zCt l yX12_passedOver cX12_passedOver 1 (Option.some FieldType.int) 1 G [.ref (za G t0)] M (some (.int res.1)) res.2 := by
  refine zCt.mk (by decide +kernel) (Nat.le_of_ble_eq_true rfl) ?_
  intro p e s m args below meth c A H locs ls S hr hlk hw hl
  have S : zX p (zR 1) s m args c 0 0 cX12_passedOver 1 RX12 := S
  have hx := S.1.1
  have hb := S.1.2.1
  have hown := S.1.2.2.2.1
  have hts := S.1.2.2.2.2
  have hl : lv_has ls 1 [(0, .ref (za G t0))] := hl
  unfold f_X12_passedOver at h
  refine lv_aload_n hx hb dX12_passedOver_0 rfl (lv_at hl 0 rfl) ?_
  refine z_getI S hw k0 fl_X12_170 rfl dX12_passedOver_1 ?_
  refine lv_if_ne (tgt := 14) hx hb dX12_passedOver_4 (by decide) (fun c1 => ?_) (fun c1 => ?_)
  · have h := zif_f h c1
    refine lv_aload_n hx hb dX12_passedOver_14 rfl (lv_at hl 0 rfl) ?_
    refine lv_aload_n hx hb dX12_passedOver_15 rfl (lv_at hl 0 rfl) ?_
    refine z_getR S hw k0 fl_X12_75 rfl dX12_passedOver_16 ?_
    refine lv_bipush (v := (-9)) hx hb dX12_passedOver_19 (by decide) ?_
    obtain ⟨q2, eq2, h⟩ := Option.bind_eq_some_iff.mp h
    refine z_callV (ci := 12) (As := [.ref (za G (zr t0 35)), .int (-9)]) (rest := []) (rv := none) (M1 := q2) S hw (c_X12_findOver l hG t0 (zr t0 35) (-9) k0 (kr_12_35 hG k0) M q2 eq2) mv_X12_findOver lk_X12_197 k0 ⟨_, _, rfl⟩ (by decide) rfl rfl (Nat.le_of_ble_eq_true rfl) ⟨Nat.le_of_ble_eq_true rfl, Nat.le_of_ble_eq_true rfl⟩ hl.1 dX12_passedOver_21 (fun H locs hw => ?_)
    refine lv_aload_n hx hb dX12_passedOver_24 rfl (lv_at hl 0 rfl) ?_
    refine z_getI S hw k0 fl_X12_194 rfl dX12_passedOver_25 ?_
    have h := Option.some.inj h
    subst h
    exact z_ret_i S hr hlk hw dX12_passedOver_28
  · have h := zif_t h c1
    refine lv_aload_n hx hb dX12_passedOver_7 rfl (lv_at hl 0 rfl) ?_
    refine lv_bipush (v := (-5)) hx hb dX12_passedOver_8 (by decide) ?_
    obtain ⟨q3, eq3, h⟩ := Option.bind_eq_some_iff.mp h
    refine z_callV (ci := 12) (As := [.int (-5)]) (rest := []) (rv := (some (.int q3.1))) (M1 := q3.2) S hw (c_X12_refuse l hG t0 (-5) k0 M q3 eq3) mv_X12_refuse lk_X12_91 k0 ⟨_, _, rfl⟩ (by decide) rfl rfl (Nat.le_of_ble_eq_true rfl) ⟨Nat.le_of_ble_eq_true rfl, Nat.le_of_ble_eq_true rfl⟩ hl.1 dX12_passedOver_10 (fun H locs hw => ?_)
    have h := Option.some.inj h
    subst h
    exact z_ret_i S hr hlk hw dX12_passedOver_13
def f_X12_quarrel_60 (t0 : Nat) (v1 : Int32) (v2 : Int32) (K : Int32 → Int32 → ZM → Option (Int32 × ZM)) : Nat → Int32 → Int32 → Int32 → ZM → Option (Int32 × ZM)
  | 0, _, _, _, _ => none
  | n + 1, v4, v5, v6, M =>
    zlet (fun (v5 : Int32) (v6 : Int32) (v8 : Int32) (s0 : Int32) (M : ZM) =>
      if v5 = 0 then (
        if v8 = 0 then (
          zlet (v6 + 1) fun (x5 : Int32) =>
          f_X12_quarrel_60 t0 v1 v2 K n s0 0 x5 M) else (
          zlet (v6 + 1) fun (x6 : Int32) =>
          f_X12_quarrel_60 t0 v1 v2 K n s0 1 x6 M)) else (
        zlet (v6 + 1) fun (x3 : Int32) =>
        f_X12_quarrel_60 t0 v1 v2 K n s0 1 x3 M)) fun J140 =>
    zlet (fun (v5 : Int32) (v6 : Int32) (v8 : Int32) (M : ZM) =>
      J140 v5 v6 v8 1 M) fun J135 =>
    zlet (fun (v4 : Int32) (v5 : Int32) (v6 : Int32) (v7 : Int32) (v8 : Int32) (M : ZM) =>
      if v4 = 0 then (
        if v7 = 0 then (
          J140 v5 v6 v8 0 M) else (
          J135 v5 v6 v8 M)) else (
        J135 v5 v6 v8 M)) fun J125 =>
    zlet (fun (v4 : Int32) (v5 : Int32) (v6 : Int32) (v7 : Int32) (s0 : Int32) (M : ZM) =>
      if v7 = 0 then (
        J125 v4 v5 v6 v7 s0 M) else (
        if s0 = 0 then (
          J125 v4 v5 v6 v7 s0 M) else (
          some ((0 : Int32), M)))) fun J111 =>
    zlet (fun (v4 : Int32) (v5 : Int32) (v6 : Int32) (s0 : Int32) (M : ZM) =>
      zck (zin v6 (zn (zr t0 23))) <|
      if (((M.1 (zr t0 23) v6.toNatClampNeg) >>> (v2 &&& 31)) &&& 1) = 1 then (
        J111 v4 v5 v6 s0 1 M) else (
        J111 v4 v5 v6 s0 0 M)) fun J89 =>
    if (M.1 t0 26) ≤ v6 then (
      K v4 v5 M) else (
      zck (zin v6 (zn (zr t0 23))) <|
      if (((M.1 (zr t0 23) v6.toNatClampNeg) >>> (v1 &&& 31)) &&& 1) = 1 then (
        J89 v4 v5 v6 1 M) else (
        J89 v4 v5 v6 0 M))

def f_X12_quarrel (t0 : Nat) (v1 : Int32) (v2 : Int32) (M : ZM) : Option (Int32 × ZM) :=
  zlet (fun (s0 : Int32) (M : ZM) =>
    if s0 = 0 then (
      f_X12_quarrel_60 t0 v1 v2 (fun (v4 : Int32) (v5 : Int32) (M : ZM) =>
        if v4 = 0 then (
          some ((0 : Int32), M)) else (
          if v5 = 0 then (
            some ((0 : Int32), M)) else (
            some ((1 : Int32), M)))) zN 0 0 0 M) else (
      (f_X12_refuse t0 s0 M).bind fun (q18 : (Int32 × ZM)) =>
      some (q18.1, q18.2))) fun J40 =>
  zlet (fun (M : ZM) =>
    J40 (-1) M) fun J39 =>
  if (M.1 t0 29) = 0 then (
    J40 (-5) M) else (
    zlet (f_X12_isIn v1 6 M) fun (q20 : Int32) =>
    if q20 = 0 then (
      J39 M) else (
      zlet (f_X12_isIn v2 6 M) fun (q22 : Int32) =>
      if q22 = 0 then (
        J39 M) else (
        if v1 = v2 then (
          J39 M) else (
          J40 0 M))))
set_option maxHeartbeats 4000000 in
set_option maxRecDepth 100000 in
theorem w_X12_quarrel_60 {G : ZG} (hG : zOk G) (S : zX p (zR 1) s m args c 0 0 cX12_quarrel 9 RX12) (hr : meth.sig.returnType = (Option.some FieldType.int)) (hlk : meth.locks = false) (t0 : Nat) (v1 : Int32) (v2 : Int32) (k0 : zk G t0 = 22)  {K : Int32 → Int32 → ZM → Option (Int32 × ZM)} {res : (Int32 × ZM)} (hK : ∀ (v4 : Int32) (v5 : Int32) (M : ZM), K v4 v5 M = some res → ∀ (H : Heap) (locs : List Loc) (ls : Array Slot), zWd G A s H locs M → lv_has ls 9 [(4, .int v4), (5, .int v5)] → W p l e (zR 1) s m args below meth c H locs 0 0 (zQ below G A (some (.int res.1)) res.2 args s) (F0 m 165 ls [])) : ∀ (n : Nat) (v4 : Int32) (v5 : Int32) (v6 : Int32) (M : ZM), f_X12_quarrel_60 t0 v1 v2 K n v4 v5 v6 M = some res → ∀ (H : Heap) (locs : List Loc) (ls : Array Slot), zWd G A s H locs M → lv_has ls 9 [(0, .ref (za G t0)), (1, .int v1), (2, .int v2), (4, .int v4), (5, .int v5), (6, .int v6)] → W p l e (zR 1) s m args below meth c H locs 0 0 (zQ below G A (some (.int res.1)) res.2 args s) (F0 m 60 ls []) := by
  have hx := S.1.1
  have hb := S.1.2.1
  have hown := S.1.2.2.2.1
  have hts := S.1.2.2.2.2
  intro n
  induction n with
  | zero =>
    intro v4 v5 v6 M h
    rw [f_X12_quarrel_60] at h
    cases h
  | succ n ih =>
    intro v4 v5 v6 M h H locs ls hw hl
    rw [f_X12_quarrel_60] at h
    obtain ⟨J140, hJ140, h⟩ := zlet_ex h
    have wJ140 : ∀ (v5 : Int32) (v6 : Int32) (v8 : Int32) (s0 : Int32) (M : ZM), J140 v5 v6 v8 s0 M = some res → ∀ (H : Heap) (locs : List Loc) (ls : Array Slot), zWd G A s H locs M → lv_has ls 9 [(0, .ref (za G t0)), (1, .int v1), (2, .int v2), (5, .int v5), (6, .int v6), (8, .int v8)] → W p l e (zR 1) s m args below meth c H locs 0 0 (zQ below G A (some (.int res.1)) res.2 args s) (F0 m 140 ls [.int s0]) := by
      intro v5 v6 v8 s0 M h H locs ls hw hl
      subst hJ140
      refine lv_istore (lv' := [(4, .int s0), (0, .ref (za G t0)), (1, .int v1), (2, .int v2), (5, .int v5), (6, .int v6), (8, .int v8)]) hx hb dX12_quarrel_140 hl (by decide) rfl (fun ls hl => ?_)
      refine lv_iload hx hb dX12_quarrel_142 (lv_at hl 4 rfl) ?_
      refine lv_if_ne (tgt := 152) hx hb dX12_quarrel_144 (by decide) (fun c2 => ?_) (fun c2 => ?_)
      · have h := zif_f h c2
        refine lv_iconst (v := 1) hx hb dX12_quarrel_152 (by decide) ?_
        refine lv_goto (tgt := 157) hx hb dX12_quarrel_153 (by decide) ?_
        refine lv_istore (lv' := [(5, .int 1), (4, .int s0), (0, .ref (za G t0)), (1, .int v1), (2, .int v2), (6, .int v6), (8, .int v8)]) hx hb dX12_quarrel_157 hl (by decide) rfl (fun ls hl => ?_)
        obtain ⟨x3, ex3, h⟩ := zlet_ex h
        refine lv_iinc (v := x3) (lv' := [(6, .int x3), (5, .int 1), (4, .int s0), (0, .ref (za G t0)), (1, .int v1), (2, .int v2), (8, .int v8)]) hx hb dX12_quarrel_159 hl (k := 5) rfl (by rw [ex3]; rfl) (by decide) rfl (fun ls hl => ?_)
        refine lv_goto (tgt := 60) hx hb dX12_quarrel_162 (by decide) ?_
        exact ih s0 1 x3 M h H locs ls hw (lv_sub hl [3, 4, 5, 2, 1, 0] rfl)
      · have h := zif_t h c2
        refine lv_iload hx hb dX12_quarrel_147 (lv_at hl 6 rfl) ?_
        refine lv_if_eq (tgt := 156) hx hb dX12_quarrel_149 (by decide) (fun c4 => ?_) (fun c4 => ?_)
        · have h := zif_t h c4
          refine lv_iconst (v := 0) hx hb dX12_quarrel_156 (by decide) ?_
          refine lv_istore (lv' := [(5, .int 0), (4, .int s0), (0, .ref (za G t0)), (1, .int v1), (2, .int v2), (6, .int v6), (8, .int v8)]) hx hb dX12_quarrel_157 hl (by decide) rfl (fun ls hl => ?_)
          obtain ⟨x5, ex5, h⟩ := zlet_ex h
          refine lv_iinc (v := x5) (lv' := [(6, .int x5), (5, .int 0), (4, .int s0), (0, .ref (za G t0)), (1, .int v1), (2, .int v2), (8, .int v8)]) hx hb dX12_quarrel_159 hl (k := 5) rfl (by rw [ex5]; rfl) (by decide) rfl (fun ls hl => ?_)
          refine lv_goto (tgt := 60) hx hb dX12_quarrel_162 (by decide) ?_
          exact ih s0 0 x5 M h H locs ls hw (lv_sub hl [3, 4, 5, 2, 1, 0] rfl)
        · have h := zif_f h c4
          refine lv_iconst (v := 1) hx hb dX12_quarrel_152 (by decide) ?_
          refine lv_goto (tgt := 157) hx hb dX12_quarrel_153 (by decide) ?_
          refine lv_istore (lv' := [(5, .int 1), (4, .int s0), (0, .ref (za G t0)), (1, .int v1), (2, .int v2), (6, .int v6), (8, .int v8)]) hx hb dX12_quarrel_157 hl (by decide) rfl (fun ls hl => ?_)
          obtain ⟨x6, ex6, h⟩ := zlet_ex h
          refine lv_iinc (v := x6) (lv' := [(6, .int x6), (5, .int 1), (4, .int s0), (0, .ref (za G t0)), (1, .int v1), (2, .int v2), (8, .int v8)]) hx hb dX12_quarrel_159 hl (k := 5) rfl (by rw [ex6]; rfl) (by decide) rfl (fun ls hl => ?_)
          refine lv_goto (tgt := 60) hx hb dX12_quarrel_162 (by decide) ?_
          exact ih s0 1 x6 M h H locs ls hw (lv_sub hl [3, 4, 5, 2, 1, 0] rfl)
    obtain ⟨J135, hJ135, h⟩ := zlet_ex h
    have wJ135 : ∀ (v5 : Int32) (v6 : Int32) (v8 : Int32) (M : ZM), J135 v5 v6 v8 M = some res → ∀ (H : Heap) (locs : List Loc) (ls : Array Slot), zWd G A s H locs M → lv_has ls 9 [(0, .ref (za G t0)), (1, .int v1), (2, .int v2), (5, .int v5), (6, .int v6), (8, .int v8)] → W p l e (zR 1) s m args below meth c H locs 0 0 (zQ below G A (some (.int res.1)) res.2 args s) (F0 m 135 ls []) := by
      intro v5 v6 v8 M h H locs ls hw hl
      subst hJ135
      refine lv_iconst (v := 1) hx hb dX12_quarrel_135 (by decide) ?_
      refine lv_goto (tgt := 140) hx hb dX12_quarrel_136 (by decide) ?_
      exact wJ140 v5 v6 v8 1 M h H locs ls hw (lv_sub hl [0, 1, 2, 3, 4, 5] rfl)
    obtain ⟨J125, hJ125, h⟩ := zlet_ex h
    have wJ125 : ∀ (v4 : Int32) (v5 : Int32) (v6 : Int32) (v7 : Int32) (v8 : Int32) (M : ZM), J125 v4 v5 v6 v7 v8 M = some res → ∀ (H : Heap) (locs : List Loc) (ls : Array Slot), zWd G A s H locs M → lv_has ls 9 [(0, .ref (za G t0)), (1, .int v1), (2, .int v2), (4, .int v4), (5, .int v5), (6, .int v6), (7, .int v7), (8, .int v8)] → W p l e (zR 1) s m args below meth c H locs 0 0 (zQ below G A (some (.int res.1)) res.2 args s) (F0 m 125 ls []) := by
      intro v4 v5 v6 v7 v8 M h H locs ls hw hl
      subst hJ125
      refine lv_iload hx hb dX12_quarrel_125 (lv_at hl 3 rfl) ?_
      refine lv_if_ne (tgt := 135) hx hb dX12_quarrel_127 (by decide) (fun c7 => ?_) (fun c7 => ?_)
      · have h := zif_f h c7
        exact wJ135 v5 v6 v8 M h H locs ls hw (lv_sub hl [0, 1, 2, 4, 5, 7] rfl)
      · have h := zif_t h c7
        refine lv_iload hx hb dX12_quarrel_130 (lv_at hl 6 rfl) ?_
        refine lv_if_eq (tgt := 139) hx hb dX12_quarrel_132 (by decide) (fun c8 => ?_) (fun c8 => ?_)
        · have h := zif_t h c8
          refine lv_iconst (v := 0) hx hb dX12_quarrel_139 (by decide) ?_
          exact wJ140 v5 v6 v8 0 M h H locs ls hw (lv_sub hl [0, 1, 2, 4, 5, 7] rfl)
        · have h := zif_f h c8
          exact wJ135 v5 v6 v8 M h H locs ls hw (lv_sub hl [0, 1, 2, 4, 5, 7] rfl)
    obtain ⟨J111, hJ111, h⟩ := zlet_ex h
    have wJ111 : ∀ (v4 : Int32) (v5 : Int32) (v6 : Int32) (v7 : Int32) (s0 : Int32) (M : ZM), J111 v4 v5 v6 v7 s0 M = some res → ∀ (H : Heap) (locs : List Loc) (ls : Array Slot), zWd G A s H locs M → lv_has ls 9 [(0, .ref (za G t0)), (1, .int v1), (2, .int v2), (4, .int v4), (5, .int v5), (6, .int v6), (7, .int v7)] → W p l e (zR 1) s m args below meth c H locs 0 0 (zQ below G A (some (.int res.1)) res.2 args s) (F0 m 111 ls [.int s0]) := by
      intro v4 v5 v6 v7 s0 M h H locs ls hw hl
      subst hJ111
      refine lv_istore (lv' := [(8, .int s0), (0, .ref (za G t0)), (1, .int v1), (2, .int v2), (4, .int v4), (5, .int v5), (6, .int v6), (7, .int v7)]) hx hb dX12_quarrel_111 hl (by decide) rfl (fun ls hl => ?_)
      refine lv_iload hx hb dX12_quarrel_113 (lv_at hl 7 rfl) ?_
      refine lv_if_eq (tgt := 125) hx hb dX12_quarrel_115 (by decide) (fun c9 => ?_) (fun c9 => ?_)
      · have h := zif_t h c9
        exact wJ125 v4 v5 v6 v7 s0 M h H locs ls hw (lv_sub hl [1, 2, 3, 4, 5, 6, 7, 0] rfl)
      · have h := zif_f h c9
        refine lv_iload hx hb dX12_quarrel_118 (lv_at hl 0 rfl) ?_
        refine lv_if_eq (tgt := 125) hx hb dX12_quarrel_120 (by decide) (fun c10 => ?_) (fun c10 => ?_)
        · have h := zif_t h c10
          exact wJ125 v4 v5 v6 v7 s0 M h H locs ls hw (lv_sub hl [1, 2, 3, 4, 5, 6, 7, 0] rfl)
        · have h := zif_f h c10
          refine lv_iconst (v := 0) hx hb dX12_quarrel_123 (by decide) ?_
          have h := Option.some.inj h
          subst h
          exact z_ret_i S hr hlk hw dX12_quarrel_124
    obtain ⟨J89, hJ89, h⟩ := zlet_ex h
    have wJ89 : ∀ (v4 : Int32) (v5 : Int32) (v6 : Int32) (s0 : Int32) (M : ZM), J89 v4 v5 v6 s0 M = some res → ∀ (H : Heap) (locs : List Loc) (ls : Array Slot), zWd G A s H locs M → lv_has ls 9 [(0, .ref (za G t0)), (1, .int v1), (2, .int v2), (4, .int v4), (5, .int v5), (6, .int v6)] → W p l e (zR 1) s m args below meth c H locs 0 0 (zQ below G A (some (.int res.1)) res.2 args s) (F0 m 89 ls [.int s0]) := by
      intro v4 v5 v6 s0 M h H locs ls hw hl
      subst hJ89
      refine lv_istore (lv' := [(7, .int s0), (0, .ref (za G t0)), (1, .int v1), (2, .int v2), (4, .int v4), (5, .int v5), (6, .int v6)]) hx hb dX12_quarrel_89 hl (by decide) rfl (fun ls hl => ?_)
      refine lv_aload_n hx hb dX12_quarrel_91 rfl (lv_at hl 1 rfl) ?_
      refine z_getR S hw k0 fl_X12_56 rfl dX12_quarrel_92 ?_
      refine lv_iload hx hb dX12_quarrel_95 (lv_at hl 6 rfl) ?_
      obtain ⟨g11, h⟩ := zck_ex h
      refine z_iald S hw (kr_12_23 hG k0) g11 dX12_quarrel_97 ?_
      refine lv_iload_n hx hb dX12_quarrel_98 rfl (lv_at hl 3 rfl) ?_
      refine lv_ishr hx hb dX12_quarrel_99 ?_
      refine lv_iconst (v := 1) hx hb dX12_quarrel_100 (by decide) ?_
      refine lv_iand hx hb dX12_quarrel_101 ?_
      refine lv_iconst (v := 1) hx hb dX12_quarrel_102 (by decide) ?_
      refine lv_icmp_ne (tgt := 110) hx hb dX12_quarrel_103 (by decide) (fun c12 => ?_) (fun c12 => ?_)
      · have h := zif_f h c12
        refine lv_iconst (v := 0) hx hb dX12_quarrel_110 (by decide) ?_
        exact wJ111 v4 v5 v6 s0 0 M h H locs ls hw (lv_sub hl [1, 2, 3, 4, 5, 6, 0] rfl)
      · have h := zif_t h c12
        refine lv_iconst (v := 1) hx hb dX12_quarrel_106 (by decide) ?_
        refine lv_goto (tgt := 111) hx hb dX12_quarrel_107 (by decide) ?_
        exact wJ111 v4 v5 v6 s0 1 M h H locs ls hw (lv_sub hl [1, 2, 3, 4, 5, 6, 0] rfl)
    refine lv_iload hx hb dX12_quarrel_60 (lv_at hl 5 rfl) ?_
    refine lv_aload_n hx hb dX12_quarrel_62 rfl (lv_at hl 0 rfl) ?_
    refine z_getI S hw k0 fl_X12_129 rfl dX12_quarrel_63 ?_
    refine lv_icmp_ge (tgt := 165) hx hb dX12_quarrel_66 (by decide) (fun c13 => ?_) (fun c13 => ?_)
    · have h := zif_t h c13
      exact hK v4 v5 M h H locs ls hw (lv_sub hl [3, 4] rfl)
    · have h := zif_f h c13
      refine lv_aload_n hx hb dX12_quarrel_69 rfl (lv_at hl 0 rfl) ?_
      refine z_getR S hw k0 fl_X12_56 rfl dX12_quarrel_70 ?_
      refine lv_iload hx hb dX12_quarrel_73 (lv_at hl 5 rfl) ?_
      obtain ⟨g14, h⟩ := zck_ex h
      refine z_iald S hw (kr_12_23 hG k0) g14 dX12_quarrel_75 ?_
      refine lv_iload_n hx hb dX12_quarrel_76 rfl (lv_at hl 1 rfl) ?_
      refine lv_ishr hx hb dX12_quarrel_77 ?_
      refine lv_iconst (v := 1) hx hb dX12_quarrel_78 (by decide) ?_
      refine lv_iand hx hb dX12_quarrel_79 ?_
      refine lv_iconst (v := 1) hx hb dX12_quarrel_80 (by decide) ?_
      refine lv_icmp_ne (tgt := 88) hx hb dX12_quarrel_81 (by decide) (fun c15 => ?_) (fun c15 => ?_)
      · have h := zif_f h c15
        refine lv_iconst (v := 0) hx hb dX12_quarrel_88 (by decide) ?_
        exact wJ89 v4 v5 v6 0 M h H locs ls hw (lv_sub hl [0, 1, 2, 3, 4, 5] rfl)
      · have h := zif_t h c15
        refine lv_iconst (v := 1) hx hb dX12_quarrel_84 (by decide) ?_
        refine lv_goto (tgt := 89) hx hb dX12_quarrel_85 (by decide) ?_
        exact wJ89 v4 v5 v6 1 M h H locs ls hw (lv_sub hl [0, 1, 2, 3, 4, 5] rfl)
set_option maxHeartbeats 4000000 in
set_option maxRecDepth 100000 in
theorem c_X12_quarrel (l : Launch) {G : ZG} (hG : zOk G) (t0 : Nat) (v1 : Int32) (v2 : Int32) (k0 : zk G t0 = 22) (M : ZM) (res : (Int32 × ZM)) (h : f_X12_quarrel t0 v1 v2 M = some res) : zCt l yX12_quarrel cX12_quarrel 9 (Option.some FieldType.int) 1 G [.ref (za G t0), .int v1, .int v2] M (some (.int res.1)) res.2 := by
  refine zCt.mk (by decide +kernel) (Nat.le_of_ble_eq_true rfl) ?_
  intro p e s m args below meth c A H locs ls S hr hlk hw hl
  have S : zX p (zR 1) s m args c 0 0 cX12_quarrel 9 RX12 := S
  have hx := S.1.1
  have hb := S.1.2.1
  have hown := S.1.2.2.2.1
  have hts := S.1.2.2.2.2
  have hl : lv_has ls 9 [(0, .ref (za G t0)), (1, .int v1), (2, .int v2)] := hl
  unfold f_X12_quarrel at h
  obtain ⟨J40, hJ40, h⟩ := zlet_ex h
  have wJ40 : ∀ (s0 : Int32) (M : ZM), J40 s0 M = some res → ∀ (H : Heap) (locs : List Loc) (ls : Array Slot), zWd G A s H locs M → lv_has ls 9 [(0, .ref (za G t0)), (1, .int v1), (2, .int v2)] → W p l e (zR 1) s m args below meth c H locs 0 0 (zQ below G A (some (.int res.1)) res.2 args s) (F0 m 40 ls [.int s0]) := by
    intro s0 M h H locs ls hw hl
    subst hJ40
    refine lv_istore_n (lv' := [(3, .int s0), (0, .ref (za G t0)), (1, .int v1), (2, .int v2)]) hx hb dX12_quarrel_40 rfl hl (by decide) rfl (fun ls hl => ?_)
    refine lv_iload_n hx hb dX12_quarrel_41 rfl (lv_at hl 0 rfl) ?_
    refine lv_if_eq (tgt := 51) hx hb dX12_quarrel_42 (by decide) (fun c1 => ?_) (fun c1 => ?_)
    · have h := zif_t h c1
      refine lv_iconst (v := 0) hx hb dX12_quarrel_51 (by decide) ?_
      refine lv_istore (lv' := [(4, .int 0), (3, .int s0), (0, .ref (za G t0)), (1, .int v1), (2, .int v2)]) hx hb dX12_quarrel_52 hl (by decide) rfl (fun ls hl => ?_)
      refine lv_iconst (v := 0) hx hb dX12_quarrel_54 (by decide) ?_
      refine lv_istore (lv' := [(5, .int 0), (4, .int 0), (3, .int s0), (0, .ref (za G t0)), (1, .int v1), (2, .int v2)]) hx hb dX12_quarrel_55 hl (by decide) rfl (fun ls hl => ?_)
      refine lv_iconst (v := 0) hx hb dX12_quarrel_57 (by decide) ?_
      refine lv_istore (lv' := [(6, .int 0), (5, .int 0), (4, .int 0), (3, .int s0), (0, .ref (za G t0)), (1, .int v1), (2, .int v2)]) hx hb dX12_quarrel_58 hl (by decide) rfl (fun ls hl => ?_)
      refine w_X12_quarrel_60 hG S hr hlk t0 v1 v2 k0 (fun v4 v5 M h H locs ls hw hl => ?_) zN 0 0 0 M h H locs ls hw (lv_sub hl [4, 5, 6, 2, 1, 0] rfl)
      refine lv_iload hx hb dX12_quarrel_165 (lv_at hl 0 rfl) ?_
      refine lv_if_eq (tgt := 179) hx hb dX12_quarrel_167 (by decide) (fun c16 => ?_) (fun c16 => ?_)
      · have h := zif_t h c16
        refine lv_iconst (v := 0) hx hb dX12_quarrel_179 (by decide) ?_
        have h := Option.some.inj h
        subst h
        exact z_ret_i S hr hlk hw dX12_quarrel_180
      · have h := zif_f h c16
        refine lv_iload hx hb dX12_quarrel_170 (lv_at hl 1 rfl) ?_
        refine lv_if_eq (tgt := 179) hx hb dX12_quarrel_172 (by decide) (fun c17 => ?_) (fun c17 => ?_)
        · have h := zif_t h c17
          refine lv_iconst (v := 0) hx hb dX12_quarrel_179 (by decide) ?_
          have h := Option.some.inj h
          subst h
          exact z_ret_i S hr hlk hw dX12_quarrel_180
        · have h := zif_f h c17
          refine lv_iconst (v := 1) hx hb dX12_quarrel_175 (by decide) ?_
          refine lv_goto (tgt := 180) hx hb dX12_quarrel_176 (by decide) ?_
          have h := Option.some.inj h
          subst h
          exact z_ret_i S hr hlk hw dX12_quarrel_180
    · have h := zif_f h c1
      refine lv_aload_n hx hb dX12_quarrel_45 rfl (lv_at hl 1 rfl) ?_
      refine lv_iload_n hx hb dX12_quarrel_46 rfl (lv_at hl 0 rfl) ?_
      obtain ⟨q18, eq18, h⟩ := Option.bind_eq_some_iff.mp h
      refine z_callV (ci := 12) (As := [.int s0]) (rest := []) (rv := (some (.int q18.1))) (M1 := q18.2) S hw (c_X12_refuse l hG t0 s0 k0 M q18 eq18) mv_X12_refuse lk_X12_91 k0 ⟨_, _, rfl⟩ (by decide) rfl rfl (Nat.le_of_ble_eq_true rfl) ⟨Nat.le_of_ble_eq_true rfl, Nat.le_of_ble_eq_true rfl⟩ hl.1 dX12_quarrel_47 (fun H locs hw => ?_)
      have h := Option.some.inj h
      subst h
      exact z_ret_i S hr hlk hw dX12_quarrel_50
  obtain ⟨J39, hJ39, h⟩ := zlet_ex h
  have wJ39 : ∀ (M : ZM), J39 M = some res → ∀ (H : Heap) (locs : List Loc) (ls : Array Slot), zWd G A s H locs M → lv_has ls 9 [(0, .ref (za G t0)), (1, .int v1), (2, .int v2)] → W p l e (zR 1) s m args below meth c H locs 0 0 (zQ below G A (some (.int res.1)) res.2 args s) (F0 m 39 ls []) := by
    intro M h H locs ls hw hl
    subst hJ39
    refine lv_iconst (v := (-1)) hx hb dX12_quarrel_39 (by decide) ?_
    exact wJ40 (-1) M h H locs ls hw (lv_sub hl [0, 1, 2] rfl)
  refine lv_aload_n hx hb dX12_quarrel_0 rfl (lv_at hl 0 rfl) ?_
  refine z_getI S hw k0 fl_X12_170 rfl dX12_quarrel_1 ?_
  refine lv_if_ne (tgt := 12) hx hb dX12_quarrel_4 (by decide) (fun c19 => ?_) (fun c19 => ?_)
  · have h := zif_f h c19
    refine lv_iload_n hx hb dX12_quarrel_12 rfl (lv_at hl 1 rfl) ?_
    refine lv_bipush (v := 6) hx hb dX12_quarrel_13 (by decide) ?_
    obtain ⟨q20, eq20, h⟩ := zlet_ex h
    refine z_callS (As := [.int v1, .int 6]) (rest := []) (rv := (some (.int q20))) (M1 := M) S hw (c_X12_isIn l hG v1 6 M q20 eq20.symm) mv_X12_isIn lk_X12_111 rfl rfl (Nat.le_of_ble_eq_true rfl) ⟨Nat.le_of_ble_eq_true rfl, Nat.le_of_ble_eq_true rfl⟩ hl.1 dX12_quarrel_15 (fun H locs hw => ?_)
    refine lv_if_eq (tgt := 39) hx hb dX12_quarrel_18 (by decide) (fun c21 => ?_) (fun c21 => ?_)
    · have h := zif_t h c21
      exact wJ39 M h H locs ls hw (lv_sub hl [0, 1, 2] rfl)
    · have h := zif_f h c21
      refine lv_iload_n hx hb dX12_quarrel_21 rfl (lv_at hl 2 rfl) ?_
      refine lv_bipush (v := 6) hx hb dX12_quarrel_22 (by decide) ?_
      obtain ⟨q22, eq22, h⟩ := zlet_ex h
      refine z_callS (As := [.int v2, .int 6]) (rest := []) (rv := (some (.int q22))) (M1 := M) S hw (c_X12_isIn l hG v2 6 M q22 eq22.symm) mv_X12_isIn lk_X12_111 rfl rfl (Nat.le_of_ble_eq_true rfl) ⟨Nat.le_of_ble_eq_true rfl, Nat.le_of_ble_eq_true rfl⟩ hl.1 dX12_quarrel_24 (fun H locs hw => ?_)
      refine lv_if_eq (tgt := 39) hx hb dX12_quarrel_27 (by decide) (fun c23 => ?_) (fun c23 => ?_)
      · have h := zif_t h c23
        exact wJ39 M h H locs ls hw (lv_sub hl [0, 1, 2] rfl)
      · have h := zif_f h c23
        refine lv_iload_n hx hb dX12_quarrel_30 rfl (lv_at hl 1 rfl) ?_
        refine lv_iload_n hx hb dX12_quarrel_31 rfl (lv_at hl 2 rfl) ?_
        refine lv_icmp_eq (tgt := 39) hx hb dX12_quarrel_32 (by decide) (fun c24 => ?_) (fun c24 => ?_)
        · have h := zif_t h c24
          exact wJ39 M h H locs ls hw (lv_sub hl [0, 1, 2] rfl)
        · have h := zif_f h c24
          refine lv_iconst (v := 0) hx hb dX12_quarrel_35 (by decide) ?_
          refine lv_goto (tgt := 40) hx hb dX12_quarrel_36 (by decide) ?_
          exact wJ40 0 M h H locs ls hw (lv_sub hl [0, 1, 2] rfl)
  · have h := zif_t h c19
    refine lv_bipush (v := (-5)) hx hb dX12_quarrel_7 (by decide) ?_
    refine lv_goto (tgt := 40) hx hb dX12_quarrel_9 (by decide) ?_
    exact wJ40 (-5) M h H locs ls hw (lv_sub hl [0, 1, 2] rfl)
end Z
