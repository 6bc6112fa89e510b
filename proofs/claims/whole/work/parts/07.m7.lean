section Z
variable {p : Program} {l : Launch} {e : Env} {s : State} {m : MethodId} {args : Array Value} {below : List Frame} {meth : Method} {c : Code} {A : Nat → Prop}
def f_X12_serves (t0 : Nat) (v1 : Int32) (M : ZM) : Option (Int32 × ZM) :=
  zlet (f_X12_wrong t0 v1 M) fun (q1 : Int32) =>
  if q1 = 0 then (
    (f_X12_servesBy t0 v1 M).bind fun (q3 : Int32) =>
    some (q3, M)) else (
    (f_X12_refuse t0 q1 M).bind fun (q4 : (Int32 × ZM)) =>
    some ((1000000000 - q4.1), q4.2))
set_option maxHeartbeats 4000000 in
set_option maxRecDepth 100000 in
theorem c_X12_serves (l : Launch) {G : ZG} (hG : zOk G) (t0 : Nat) (v1 : Int32) (k0 : zk G t0 = 22) (M : ZM) (res : (Int32 × ZM)) (h : f_X12_serves t0 v1 M = some res) : zCt l yX12_serves cX12_serves 3 (Option.some FieldType.int) 2 G [.ref (za G t0), .int v1] M (some (.int res.1)) res.2 := by
  refine zCt.mk (by decide +kernel) (Nat.le_of_ble_eq_true rfl) ?_
  intro p e s m args below meth c A H locs ls S hr hlk hw hl
  have S : zX p (zR 2) s m args c 0 0 cX12_serves 3 RX12 := S
  have hx := S.1.1
  have hb := S.1.2.1
  have hown := S.1.2.2.2.1
  have hts := S.1.2.2.2.2
  have hl : lv_has ls 3 [(0, .ref (za G t0)), (1, .int v1)] := hl
  unfold f_X12_serves at h
  refine lv_aload_n hx hb dX12_serves_0 rfl (lv_at hl 0 rfl) ?_
  refine lv_iload_n hx hb dX12_serves_1 rfl (lv_at hl 1 rfl) ?_
  obtain ⟨q1, eq1, h⟩ := zlet_ex h
  refine z_callV (ci := 12) (As := [.int v1]) (rest := []) (rv := (some (.int q1))) (M1 := M) S hw (c_X12_wrong l hG t0 v1 k0 M q1 eq1.symm) mv_X12_wrong lk_X12_176 k0 ⟨_, _, rfl⟩ (by decide) rfl rfl (Nat.le_of_ble_eq_true rfl) ⟨Nat.le_of_ble_eq_true rfl, Nat.le_of_ble_eq_true rfl⟩ hl.1 dX12_serves_2 (fun H locs hw => ?_)
  refine lv_istore_n (lv' := [(2, .int q1), (0, .ref (za G t0)), (1, .int v1)]) hx hb dX12_serves_5 rfl hl (by decide) rfl (fun ls hl => ?_)
  refine lv_iload_n hx hb dX12_serves_6 rfl (lv_at hl 0 rfl) ?_
  refine lv_if_eq (tgt := 21) hx hb dX12_serves_7 (by decide) (fun c2 => ?_) (fun c2 => ?_)
  · have h := zif_t h c2
    refine lv_aload_n hx hb dX12_serves_21 rfl (lv_at hl 1 rfl) ?_
    refine lv_iload_n hx hb dX12_serves_22 rfl (lv_at hl 2 rfl) ?_
    obtain ⟨q3, eq3, h⟩ := Option.bind_eq_some_iff.mp h
    refine z_callV (ci := 12) (As := [.int v1]) (rest := []) (rv := (some (.int q3))) (M1 := M) S hw (c_X12_servesBy l hG t0 v1 k0 M q3 eq3) mv_X12_servesBy lk_X12_227 k0 ⟨_, _, rfl⟩ (by decide) rfl rfl (Nat.le_of_ble_eq_true rfl) ⟨Nat.le_of_ble_eq_true rfl, Nat.le_of_ble_eq_true rfl⟩ hl.1 dX12_serves_23 (fun H locs hw => ?_)
    have h := Option.some.inj h
    subst h
    exact z_ret_i S hr hlk hw dX12_serves_26
  · have h := zif_f h c2
    refine lv_ldc (v := 1000000000) hx hb hown (hts _ kc_X12_226) dX12_serves_10 ?_
    refine lv_aload_n hx hb dX12_serves_12 rfl (lv_at hl 1 rfl) ?_
    refine lv_iload_n hx hb dX12_serves_13 rfl (lv_at hl 0 rfl) ?_
    obtain ⟨q4, eq4, h⟩ := Option.bind_eq_some_iff.mp h
    refine z_callV (ci := 12) (As := [.int q1]) (rest := [.int 1000000000]) (rv := (some (.int q4.1))) (M1 := q4.2) S hw (c_X12_refuse l hG t0 q1 k0 M q4 eq4) mv_X12_refuse lk_X12_91 k0 ⟨_, _, rfl⟩ (by decide) rfl rfl (Nat.le_of_ble_eq_true rfl) ⟨Nat.le_of_ble_eq_true rfl, Nat.le_of_ble_eq_true rfl⟩ hl.1 dX12_serves_14 (fun H locs hw => ?_)
    refine lv_isub hx hb dX12_serves_17 ?_
    refine lv_goto (tgt := 26) hx hb dX12_serves_18 (by decide) ?_
    have h := Option.some.inj h
    subst h
    exact z_ret_i S hr hlk hw dX12_serves_26
def f_X12_best_18 (t0 : Nat) (K : Int32 → ZM → Option (Int32 × ZM)) : Nat → Int32 → Int32 → ZM → Option (Int32 × ZM)
  | 0, _, _, _ => none
  | n + 1, v1, v2, M =>
    if (M.1 t0 26) ≤ v2 then (
      K v1 M) else (
      (f_X12_servesBy t0 v2 M).bind fun (q3 : Int32) =>
      (f_X12_servesBy t0 v1 M).bind fun (q4 : Int32) =>
      if q3 ≤ q4 then (
        zlet (v2 + 1) fun (x6 : Int32) =>
        f_X12_best_18 t0 K n v1 x6 M) else (
        zlet (v2 + 1) fun (x7 : Int32) =>
        f_X12_best_18 t0 K n v2 x7 M))

def f_X12_best (t0 : Nat) (M : ZM) : Option (Int32 × ZM) :=
  if (M.1 t0 29) = 0 then (
    (f_X12_refuse t0 (-5) M).bind fun (q8 : (Int32 × ZM)) =>
    some (q8.1, q8.2)) else (
    f_X12_best_18 t0 (fun (v1 : Int32) (M : ZM) =>
      some (v1, M)) zN 0 1 M)
set_option maxHeartbeats 4000000 in
set_option maxRecDepth 100000 in
theorem w_X12_best_18 {G : ZG} (hG : zOk G) (S : zX p (zR 2) s m args c 0 0 cX12_best 3 RX12) (hr : meth.sig.returnType = (Option.some FieldType.int)) (hlk : meth.locks = false) (t0 : Nat) (k0 : zk G t0 = 22)  {K : Int32 → ZM → Option (Int32 × ZM)} {res : (Int32 × ZM)} (hK : ∀ (v1 : Int32) (M : ZM), K v1 M = some res → ∀ (H : Heap) (locs : List Loc) (ls : Array Slot), zWd G A s H locs M → lv_has ls 3 [(1, .int v1)] → W p l e (zR 2) s m args below meth c H locs 0 0 (zQ below G A (some (.int res.1)) res.2 args s) (F0 m 51 ls [])) : ∀ (n : Nat) (v1 : Int32) (v2 : Int32) (M : ZM), f_X12_best_18 t0 K n v1 v2 M = some res → ∀ (H : Heap) (locs : List Loc) (ls : Array Slot), zWd G A s H locs M → lv_has ls 3 [(0, .ref (za G t0)), (1, .int v1), (2, .int v2)] → W p l e (zR 2) s m args below meth c H locs 0 0 (zQ below G A (some (.int res.1)) res.2 args s) (F0 m 18 ls []) := by
  have hx := S.1.1
  have hb := S.1.2.1
  have hown := S.1.2.2.2.1
  have hts := S.1.2.2.2.2
  intro n
  induction n with
  | zero =>
    intro v1 v2 M h
    rw [f_X12_best_18] at h
    cases h
  | succ n ih =>
    intro v1 v2 M h H locs ls hw hl
    rw [f_X12_best_18] at h
    refine lv_iload_n hx hb dX12_best_18 rfl (lv_at hl 2 rfl) ?_
    refine lv_aload_n hx hb dX12_best_19 rfl (lv_at hl 0 rfl) ?_
    refine z_getI S hw k0 fl_X12_129 rfl dX12_best_20 ?_
    refine lv_icmp_ge (tgt := 51) hx hb dX12_best_23 (by decide) (fun c2 => ?_) (fun c2 => ?_)
    · have h := zif_t h c2
      exact hK v1 M h H locs ls hw (lv_sub hl [1] rfl)
    · have h := zif_f h c2
      refine lv_aload_n hx hb dX12_best_26 rfl (lv_at hl 0 rfl) ?_
      refine lv_iload_n hx hb dX12_best_27 rfl (lv_at hl 2 rfl) ?_
      obtain ⟨q3, eq3, h⟩ := Option.bind_eq_some_iff.mp h
      refine z_callV (ci := 12) (As := [.int v2]) (rest := []) (rv := (some (.int q3))) (M1 := M) S hw (c_X12_servesBy l hG t0 v2 k0 M q3 eq3) mv_X12_servesBy lk_X12_227 k0 ⟨_, _, rfl⟩ (by decide) rfl rfl (Nat.le_of_ble_eq_true rfl) ⟨Nat.le_of_ble_eq_true rfl, Nat.le_of_ble_eq_true rfl⟩ hl.1 dX12_best_28 (fun H locs hw => ?_)
      refine lv_aload_n hx hb dX12_best_31 rfl (lv_at hl 0 rfl) ?_
      refine lv_iload_n hx hb dX12_best_32 rfl (lv_at hl 1 rfl) ?_
      obtain ⟨q4, eq4, h⟩ := Option.bind_eq_some_iff.mp h
      refine z_callV (ci := 12) (As := [.int v1]) (rest := [.int q3]) (rv := (some (.int q4))) (M1 := M) S hw (c_X12_servesBy l hG t0 v1 k0 M q4 eq4) mv_X12_servesBy lk_X12_227 k0 ⟨_, _, rfl⟩ (by decide) rfl rfl (Nat.le_of_ble_eq_true rfl) ⟨Nat.le_of_ble_eq_true rfl, Nat.le_of_ble_eq_true rfl⟩ hl.1 dX12_best_33 (fun H locs hw => ?_)
      refine lv_icmp_le (tgt := 43) hx hb dX12_best_36 (by decide) (fun c5 => ?_) (fun c5 => ?_)
      · have h := zif_t h c5
        refine lv_iload_n hx hb dX12_best_43 rfl (lv_at hl 1 rfl) ?_
        refine lv_istore_n (lv' := [(1, .int v1), (0, .ref (za G t0)), (2, .int v2)]) hx hb dX12_best_44 rfl hl (by decide) rfl (fun ls hl => ?_)
        obtain ⟨x6, ex6, h⟩ := zlet_ex h
        refine lv_iinc (v := x6) (lv' := [(2, .int x6), (1, .int v1), (0, .ref (za G t0))]) hx hb dX12_best_45 hl (k := 2) rfl (by rw [ex6]; rfl) (by decide) rfl (fun ls hl => ?_)
        refine lv_goto (tgt := 18) hx hb dX12_best_48 (by decide) ?_
        exact ih v1 x6 M h H locs ls hw (lv_sub hl [2, 1, 0] rfl)
      · have h := zif_f h c5
        refine lv_iload_n hx hb dX12_best_39 rfl (lv_at hl 2 rfl) ?_
        refine lv_goto (tgt := 44) hx hb dX12_best_40 (by decide) ?_
        refine lv_istore_n (lv' := [(1, .int v2), (0, .ref (za G t0)), (2, .int v2)]) hx hb dX12_best_44 rfl hl (by decide) rfl (fun ls hl => ?_)
        obtain ⟨x7, ex7, h⟩ := zlet_ex h
        refine lv_iinc (v := x7) (lv' := [(2, .int x7), (1, .int v2), (0, .ref (za G t0))]) hx hb dX12_best_45 hl (k := 2) rfl (by rw [ex7]; rfl) (by decide) rfl (fun ls hl => ?_)
        refine lv_goto (tgt := 18) hx hb dX12_best_48 (by decide) ?_
        exact ih v2 x7 M h H locs ls hw (lv_sub hl [2, 1, 0] rfl)
set_option maxHeartbeats 4000000 in
set_option maxRecDepth 100000 in
theorem c_X12_best (l : Launch) {G : ZG} (hG : zOk G) (t0 : Nat) (k0 : zk G t0 = 22) (M : ZM) (res : (Int32 × ZM)) (h : f_X12_best t0 M = some res) : zCt l yX12_best cX12_best 3 (Option.some FieldType.int) 2 G [.ref (za G t0)] M (some (.int res.1)) res.2 := by
  refine zCt.mk (by decide +kernel) (Nat.le_of_ble_eq_true rfl) ?_
  intro p e s m args below meth c A H locs ls S hr hlk hw hl
  have S : zX p (zR 2) s m args c 0 0 cX12_best 3 RX12 := S
  have hx := S.1.1
  have hb := S.1.2.1
  have hown := S.1.2.2.2.1
  have hts := S.1.2.2.2.2
  have hl : lv_has ls 3 [(0, .ref (za G t0))] := hl
  unfold f_X12_best at h
  refine lv_aload_n hx hb dX12_best_0 rfl (lv_at hl 0 rfl) ?_
  refine z_getI S hw k0 fl_X12_170 rfl dX12_best_1 ?_
  refine lv_if_ne (tgt := 14) hx hb dX12_best_4 (by decide) (fun c1 => ?_) (fun c1 => ?_)
  · have h := zif_f h c1
    refine lv_iconst (v := 0) hx hb dX12_best_14 (by decide) ?_
    refine lv_istore_n (lv' := [(1, .int 0), (0, .ref (za G t0))]) hx hb dX12_best_15 rfl hl (by decide) rfl (fun ls hl => ?_)
    refine lv_iconst (v := 1) hx hb dX12_best_16 (by decide) ?_
    refine lv_istore_n (lv' := [(2, .int 1), (1, .int 0), (0, .ref (za G t0))]) hx hb dX12_best_17 rfl hl (by decide) rfl (fun ls hl => ?_)
    refine w_X12_best_18 hG S hr hlk t0 k0 (fun v1 M h H locs ls hw hl => ?_) zN 0 1 M h H locs ls hw (lv_sub hl [2, 1, 0] rfl)
    refine lv_iload_n hx hb dX12_best_51 rfl (lv_at hl 0 rfl) ?_
    have h := Option.some.inj h
    subst h
    exact z_ret_i S hr hlk hw dX12_best_52
  · have h := zif_t h c1
    refine lv_aload_n hx hb dX12_best_7 rfl (lv_at hl 0 rfl) ?_
    refine lv_bipush (v := (-5)) hx hb dX12_best_8 (by decide) ?_
    obtain ⟨q8, eq8, h⟩ := Option.bind_eq_some_iff.mp h
    refine z_callV (ci := 12) (As := [.int (-5)]) (rest := []) (rv := (some (.int q8.1))) (M1 := q8.2) S hw (c_X12_refuse l hG t0 (-5) k0 M q8 eq8) mv_X12_refuse lk_X12_91 k0 ⟨_, _, rfl⟩ (by decide) rfl rfl (Nat.le_of_ble_eq_true rfl) ⟨Nat.le_of_ble_eq_true rfl, Nat.le_of_ble_eq_true rfl⟩ hl.1 dX12_best_10 (fun H locs hw => ?_)
    have h := Option.some.inj h
    subst h
    exact z_ret_i S hr hlk hw dX12_best_13
def f_X12_image_2 (t0 : Nat) (K : ZM → Option (Int32 × ZM)) : Nat → Int32 → ZM → Option (Int32 × ZM)
  | 0, _, _ => none
  | n + 1, v1, M =>
    if 21 ≤ v1 then (
      K M) else (
      zck (zin v1 (zn (zr t0 1))) <|
      zck (zin v1 (zn (zr t0 6))) <|
      zlet (zi M (zr t0 6) v1.toNatClampNeg (M.1 (zr t0 1) v1.toNatClampNeg)) fun (M4 : ZM) =>
      zlet (v1 + 1) fun (x5 : Int32) =>
      f_X12_image_2 t0 K n x5 M4)

def f_X12_image_28 (t0 : Nat) (K : ZM → Option (Int32 × ZM)) : Nat → Int32 → ZM → Option (Int32 × ZM)
  | 0, _, _ => none
  | n + 1, v1, M =>
    if 6 ≤ v1 then (
      K M) else (
      zck (zin v1 (zn (zr t0 3))) <|
      zck (zin v1 (zn (zr t0 7))) <|
      zlet (zi M (zr t0 7) v1.toNatClampNeg (M.1 (zr t0 3) v1.toNatClampNeg)) fun (M9 : ZM) =>
      zlet (v1 + 1) fun (x10 : Int32) =>
      f_X12_image_28 t0 K n x10 M9)

def f_X12_image_54 (t0 : Nat) (K : ZM → Option (Int32 × ZM)) : Nat → Int32 → ZM → Option (Int32 × ZM)
  | 0, _, _ => none
  | n + 1, v1, M =>
    if 8 ≤ v1 then (
      K M) else (
      zck (zin v1 (zn (zr t0 4))) <|
      zck (zin v1 (zn (zr t0 8))) <|
      zlet (zi M (zr t0 8) v1.toNatClampNeg (M.1 (zr t0 4) v1.toNatClampNeg)) fun (M14 : ZM) =>
      zck (zin v1 (zn (zr t0 5))) <|
      zck (zin v1 (zn (zr t0 9))) <|
      zlet (zi M14 (zr t0 9) v1.toNatClampNeg (M14.1 (zr t0 5) v1.toNatClampNeg)) fun (M17 : ZM) =>
      zlet (v1 + 1) fun (x18 : Int32) =>
      f_X12_image_54 t0 K n x18 M17)

def f_X12_image (t0 : Nat) (M : ZM) : Option (Int32 × ZM) :=
  f_X12_image_2 t0 (fun (M : ZM) =>
    f_X12_image_28 t0 (fun (M : ZM) =>
      f_X12_image_54 t0 (fun (M : ZM) =>
        zlet (zi M t0 14 (M.1 t0 10)) fun (M19 : ZM) =>
        zlet (zi M19 t0 15 (M19.1 t0 12)) fun (M20 : ZM) =>
        zlet (zi M20 t0 16 (M20.1 t0 13)) fun (M21 : ZM) =>
        zlet (zi M21 t0 17 1) fun (M22 : ZM) =>
        some ((M22.1 t0 10), M22)) zN 0 M) zN 0 M) zN 0 M
set_option maxHeartbeats 4000000 in
set_option maxRecDepth 100000 in
theorem w_X12_image_2 {G : ZG} (hG : zOk G) (S : zX p (zR 0) s m args c 0 0 cX12_image 2 RX12) (hr : meth.sig.returnType = (Option.some FieldType.int)) (hlk : meth.locks = false) (t0 : Nat) (k0 : zk G t0 = 22)  {K : ZM → Option (Int32 × ZM)} {res : (Int32 × ZM)} (hK : ∀  (M : ZM), K M = some res → ∀ (H : Heap) (locs : List Loc) (ls : Array Slot), zWd G A s H locs M → lv_has ls 2 [(0, .ref (za G t0))] → W p l e (zR 0) s m args below meth c H locs 0 0 (zQ below G A (some (.int res.1)) res.2 args s) (F0 m 26 ls [])) : ∀ (n : Nat) (v1 : Int32) (M : ZM), f_X12_image_2 t0 K n v1 M = some res → ∀ (H : Heap) (locs : List Loc) (ls : Array Slot), zWd G A s H locs M → lv_has ls 2 [(0, .ref (za G t0)), (1, .int v1)] → W p l e (zR 0) s m args below meth c H locs 0 0 (zQ below G A (some (.int res.1)) res.2 args s) (F0 m 2 ls []) := by
  have hx := S.1.1
  have hb := S.1.2.1
  have hown := S.1.2.2.2.1
  have hts := S.1.2.2.2.2
  intro n
  induction n with
  | zero =>
    intro v1 M h
    rw [f_X12_image_2] at h
    cases h
  | succ n ih =>
    intro v1 M h H locs ls hw hl
    rw [f_X12_image_2] at h
    refine lv_iload_n hx hb dX12_image_2 rfl (lv_at hl 1 rfl) ?_
    refine lv_bipush (v := 21) hx hb dX12_image_3 (by decide) ?_
    refine lv_icmp_ge (tgt := 26) hx hb dX12_image_5 (by decide) (fun c1 => ?_) (fun c1 => ?_)
    · have h := zif_t h c1
      exact hK M h H locs ls hw (lv_sub hl [0] rfl)
    · have h := zif_f h c1
      refine lv_aload_n hx hb dX12_image_8 rfl (lv_at hl 0 rfl) ?_
      refine z_getR S hw k0 fl_X12_28 rfl dX12_image_9 ?_
      refine lv_iload_n hx hb dX12_image_12 rfl (lv_at hl 1 rfl) ?_
      refine lv_aload_n hx hb dX12_image_13 rfl (lv_at hl 0 rfl) ?_
      refine z_getR S hw k0 fl_X12_13 rfl dX12_image_14 ?_
      refine lv_iload_n hx hb dX12_image_17 rfl (lv_at hl 1 rfl) ?_
      obtain ⟨g2, h⟩ := zck_ex h
      refine z_iald S hw (kr_12_1 hG k0) g2 dX12_image_18 ?_
      obtain ⟨g3, h⟩ := zck_ex h
      obtain ⟨M4, eM4, h⟩ := zlet_ex h
      refine z_iast S hw eM4 (kr_12_6 hG k0) g3 dX12_image_19 (fun H locs hw => ?_)
      obtain ⟨x5, ex5, h⟩ := zlet_ex h
      refine lv_iinc (v := x5) (lv' := [(1, .int x5), (0, .ref (za G t0))]) hx hb dX12_image_20 hl (k := 1) rfl (by rw [ex5]; rfl) (by decide) rfl (fun ls hl => ?_)
      refine lv_goto (tgt := 2) hx hb dX12_image_23 (by decide) ?_
      exact ih x5 M4 h H locs ls hw (lv_sub hl [1, 0] rfl)
set_option maxHeartbeats 4000000 in
set_option maxRecDepth 100000 in
theorem w_X12_image_28 {G : ZG} (hG : zOk G) (S : zX p (zR 0) s m args c 0 0 cX12_image 2 RX12) (hr : meth.sig.returnType = (Option.some FieldType.int)) (hlk : meth.locks = false) (t0 : Nat) (k0 : zk G t0 = 22)  {K : ZM → Option (Int32 × ZM)} {res : (Int32 × ZM)} (hK : ∀  (M : ZM), K M = some res → ∀ (H : Heap) (locs : List Loc) (ls : Array Slot), zWd G A s H locs M → lv_has ls 2 [(0, .ref (za G t0))] → W p l e (zR 0) s m args below meth c H locs 0 0 (zQ below G A (some (.int res.1)) res.2 args s) (F0 m 52 ls [])) : ∀ (n : Nat) (v1 : Int32) (M : ZM), f_X12_image_28 t0 K n v1 M = some res → ∀ (H : Heap) (locs : List Loc) (ls : Array Slot), zWd G A s H locs M → lv_has ls 2 [(0, .ref (za G t0)), (1, .int v1)] → W p l e (zR 0) s m args below meth c H locs 0 0 (zQ below G A (some (.int res.1)) res.2 args s) (F0 m 28 ls []) := by
  have hx := S.1.1
  have hb := S.1.2.1
  have hown := S.1.2.2.2.1
  have hts := S.1.2.2.2.2
  intro n
  induction n with
  | zero =>
    intro v1 M h
    rw [f_X12_image_28] at h
    cases h
  | succ n ih =>
    intro v1 M h H locs ls hw hl
    rw [f_X12_image_28] at h
    refine lv_iload_n hx hb dX12_image_28 rfl (lv_at hl 1 rfl) ?_
    refine lv_bipush (v := 6) hx hb dX12_image_29 (by decide) ?_
    refine lv_icmp_ge (tgt := 52) hx hb dX12_image_31 (by decide) (fun c6 => ?_) (fun c6 => ?_)
    · have h := zif_t h c6
      exact hK M h H locs ls hw (lv_sub hl [0] rfl)
    · have h := zif_f h c6
      refine lv_aload_n hx hb dX12_image_34 rfl (lv_at hl 0 rfl) ?_
      refine z_getR S hw k0 fl_X12_31 rfl dX12_image_35 ?_
      refine lv_iload_n hx hb dX12_image_38 rfl (lv_at hl 1 rfl) ?_
      refine lv_aload_n hx hb dX12_image_39 rfl (lv_at hl 0 rfl) ?_
      refine z_getR S hw k0 fl_X12_19 rfl dX12_image_40 ?_
      refine lv_iload_n hx hb dX12_image_43 rfl (lv_at hl 1 rfl) ?_
      obtain ⟨g7, h⟩ := zck_ex h
      refine z_iald S hw (kr_12_3 hG k0) g7 dX12_image_44 ?_
      obtain ⟨g8, h⟩ := zck_ex h
      obtain ⟨M9, eM9, h⟩ := zlet_ex h
      refine z_iast S hw eM9 (kr_12_7 hG k0) g8 dX12_image_45 (fun H locs hw => ?_)
      obtain ⟨x10, ex10, h⟩ := zlet_ex h
      refine lv_iinc (v := x10) (lv' := [(1, .int x10), (0, .ref (za G t0))]) hx hb dX12_image_46 hl (k := 1) rfl (by rw [ex10]; rfl) (by decide) rfl (fun ls hl => ?_)
      refine lv_goto (tgt := 28) hx hb dX12_image_49 (by decide) ?_
      exact ih x10 M9 h H locs ls hw (lv_sub hl [1, 0] rfl)
set_option maxHeartbeats 4000000 in
set_option maxRecDepth 100000 in
theorem w_X12_image_54 {G : ZG} (hG : zOk G) (S : zX p (zR 0) s m args c 0 0 cX12_image 2 RX12) (hr : meth.sig.returnType = (Option.some FieldType.int)) (hlk : meth.locks = false) (t0 : Nat) (k0 : zk G t0 = 22)  {K : ZM → Option (Int32 × ZM)} {res : (Int32 × ZM)} (hK : ∀  (M : ZM), K M = some res → ∀ (H : Heap) (locs : List Loc) (ls : Array Slot), zWd G A s H locs M → lv_has ls 2 [(0, .ref (za G t0))] → W p l e (zR 0) s m args below meth c H locs 0 0 (zQ below G A (some (.int res.1)) res.2 args s) (F0 m 90 ls [])) : ∀ (n : Nat) (v1 : Int32) (M : ZM), f_X12_image_54 t0 K n v1 M = some res → ∀ (H : Heap) (locs : List Loc) (ls : Array Slot), zWd G A s H locs M → lv_has ls 2 [(0, .ref (za G t0)), (1, .int v1)] → W p l e (zR 0) s m args below meth c H locs 0 0 (zQ below G A (some (.int res.1)) res.2 args s) (F0 m 54 ls []) := by
  have hx := S.1.1
  have hb := S.1.2.1
  have hown := S.1.2.2.2.1
  have hts := S.1.2.2.2.2
  intro n
  induction n with
  | zero =>
    intro v1 M h
    rw [f_X12_image_54] at h
    cases h
  | succ n ih =>
    intro v1 M h H locs ls hw hl
    rw [f_X12_image_54] at h
    refine lv_iload_n hx hb dX12_image_54 rfl (lv_at hl 1 rfl) ?_
    refine lv_bipush (v := 8) hx hb dX12_image_55 (by decide) ?_
    refine lv_icmp_ge (tgt := 90) hx hb dX12_image_57 (by decide) (fun c11 => ?_) (fun c11 => ?_)
    · have h := zif_t h c11
      exact hK M h H locs ls hw (lv_sub hl [0] rfl)
    · have h := zif_f h c11
      refine lv_aload_n hx hb dX12_image_60 rfl (lv_at hl 0 rfl) ?_
      refine z_getR S hw k0 fl_X12_34 rfl dX12_image_61 ?_
      refine lv_iload_n hx hb dX12_image_64 rfl (lv_at hl 1 rfl) ?_
      refine lv_aload_n hx hb dX12_image_65 rfl (lv_at hl 0 rfl) ?_
      refine z_getR S hw k0 fl_X12_22 rfl dX12_image_66 ?_
      refine lv_iload_n hx hb dX12_image_69 rfl (lv_at hl 1 rfl) ?_
      obtain ⟨g12, h⟩ := zck_ex h
      refine z_iald S hw (kr_12_4 hG k0) g12 dX12_image_70 ?_
      obtain ⟨g13, h⟩ := zck_ex h
      obtain ⟨M14, eM14, h⟩ := zlet_ex h
      refine z_iast S hw eM14 (kr_12_8 hG k0) g13 dX12_image_71 (fun H locs hw => ?_)
      refine lv_aload_n hx hb dX12_image_72 rfl (lv_at hl 0 rfl) ?_
      refine z_getR S hw k0 fl_X12_37 rfl dX12_image_73 ?_
      refine lv_iload_n hx hb dX12_image_76 rfl (lv_at hl 1 rfl) ?_
      refine lv_aload_n hx hb dX12_image_77 rfl (lv_at hl 0 rfl) ?_
      refine z_getR S hw k0 fl_X12_25 rfl dX12_image_78 ?_
      refine lv_iload_n hx hb dX12_image_81 rfl (lv_at hl 1 rfl) ?_
      obtain ⟨g15, h⟩ := zck_ex h
      refine z_iald S hw (kr_12_5 hG k0) g15 dX12_image_82 ?_
      obtain ⟨g16, h⟩ := zck_ex h
      obtain ⟨M17, eM17, h⟩ := zlet_ex h
      refine z_iast S hw eM17 (kr_12_9 hG k0) g16 dX12_image_83 (fun H locs hw => ?_)
      obtain ⟨x18, ex18, h⟩ := zlet_ex h
      refine lv_iinc (v := x18) (lv' := [(1, .int x18), (0, .ref (za G t0))]) hx hb dX12_image_84 hl (k := 1) rfl (by rw [ex18]; rfl) (by decide) rfl (fun ls hl => ?_)
      refine lv_goto (tgt := 54) hx hb dX12_image_87 (by decide) ?_
      exact ih x18 M17 h H locs ls hw (lv_sub hl [1, 0] rfl)
set_option maxHeartbeats 4000000 in
set_option maxRecDepth 100000 in
theorem c_X12_image (l : Launch) {G : ZG} (hG : zOk G) (t0 : Nat) (k0 : zk G t0 = 22) (M : ZM) (res : (Int32 × ZM)) (h : f_X12_image t0 M = some res) : zCt l yX12_image cX12_image 2 (Option.some FieldType.int) 0 G [.ref (za G t0)] M (some (.int res.1)) res.2 := by
  refine zCt.mk (by decide +kernel) (Nat.le_of_ble_eq_true rfl) ?_
  intro p e s m args below meth c A H locs ls S hr hlk hw hl
  have S : zX p (zR 0) s m args c 0 0 cX12_image 2 RX12 := S
  have hx := S.1.1
  have hb := S.1.2.1
  have hown := S.1.2.2.2.1
  have hts := S.1.2.2.2.2
  have hl : lv_has ls 2 [(0, .ref (za G t0))] := hl
  unfold f_X12_image at h
  refine lv_iconst (v := 0) hx hb dX12_image_0 (by decide) ?_
  refine lv_istore_n (lv' := [(1, .int 0), (0, .ref (za G t0))]) hx hb dX12_image_1 rfl hl (by decide) rfl (fun ls hl => ?_)
  refine w_X12_image_2 hG S hr hlk t0 k0 (fun M h H locs ls hw hl => ?_) zN 0 M h H locs ls hw (lv_sub hl [1, 0] rfl)
  refine lv_iconst (v := 0) hx hb dX12_image_26 (by decide) ?_
  refine lv_istore_n (lv' := [(1, .int 0), (0, .ref (za G t0))]) hx hb dX12_image_27 rfl hl (by decide) rfl (fun ls hl => ?_)
  refine w_X12_image_28 hG S hr hlk t0 k0 (fun M h H locs ls hw hl => ?_) zN 0 M h H locs ls hw (lv_sub hl [1, 0] rfl)
  refine lv_iconst (v := 0) hx hb dX12_image_52 (by decide) ?_
  refine lv_istore_n (lv' := [(1, .int 0), (0, .ref (za G t0))]) hx hb dX12_image_53 rfl hl (by decide) rfl (fun ls hl => ?_)
  refine w_X12_image_54 hG S hr hlk t0 k0 (fun M h H locs ls hw hl => ?_) zN 0 M h H locs ls hw (lv_sub hl [1, 0] rfl)
  refine lv_aload_n hx hb dX12_image_90 rfl (lv_at hl 0 rfl) ?_
  refine lv_aload_n hx hb dX12_image_91 rfl (lv_at hl 0 rfl) ?_
  refine z_getI S hw k0 fl_X12_85 rfl dX12_image_92 ?_
  obtain ⟨M19, eM19, h⟩ := zlet_ex h
  refine z_putI S hw eM19 k0 fl_X12_230 rfl (fun h => absurd h (by decide)) dX12_image_95 (fun H locs hw => ?_)
  refine lv_aload_n hx hb dX12_image_98 rfl (lv_at hl 0 rfl) ?_
  refine lv_aload_n hx hb dX12_image_99 rfl (lv_at hl 0 rfl) ?_
  refine z_getI S hw k0 fl_X12_191 rfl dX12_image_100 ?_
  obtain ⟨M20, eM20, h⟩ := zlet_ex h
  refine z_putI S hw eM20 k0 fl_X12_233 rfl (fun h => absurd h (by decide)) dX12_image_103 (fun H locs hw => ?_)
  refine lv_aload_n hx hb dX12_image_106 rfl (lv_at hl 0 rfl) ?_
  refine lv_aload_n hx hb dX12_image_107 rfl (lv_at hl 0 rfl) ?_
  refine z_getI S hw k0 fl_X12_223 rfl dX12_image_108 ?_
  obtain ⟨M21, eM21, h⟩ := zlet_ex h
  refine z_putI S hw eM21 k0 fl_X12_236 rfl (fun h => absurd h (by decide)) dX12_image_111 (fun H locs hw => ?_)
  refine lv_aload_n hx hb dX12_image_114 rfl (lv_at hl 0 rfl) ?_
  refine lv_iconst (v := 1) hx hb dX12_image_115 (by decide) ?_
  obtain ⟨M22, eM22, h⟩ := zlet_ex h
  refine z_putI S hw eM22 k0 fl_X12_239 rfl (fun _ => by decide) dX12_image_116 (fun H locs hw => ?_)
  refine lv_aload_n hx hb dX12_image_119 rfl (lv_at hl 0 rfl) ?_
  refine z_getI S hw k0 fl_X12_85 rfl dX12_image_120 ?_
  have h := Option.some.inj h
  subst h
  exact z_ret_i S hr hlk hw dX12_image_123
def f_X12_on_16 (t0 : Nat) (K : ZM → Option (Int32 × ZM)) : Nat → Int32 → ZM → Option (Int32 × ZM)
  | 0, _, _ => none
  | n + 1, v1, M =>
    if 21 ≤ v1 then (
      K M) else (
      zck (zin v1 (zn (zr t0 6))) <|
      zck (zin v1 (zn (zr t0 1))) <|
      zlet (zi M (zr t0 1) v1.toNatClampNeg (M.1 (zr t0 6) v1.toNatClampNeg)) fun (M5 : ZM) =>
      zlet (v1 + 1) fun (x6 : Int32) =>
      f_X12_on_16 t0 K n x6 M5)

def f_X12_on_42 (t0 : Nat) (K : ZM → Option (Int32 × ZM)) : Nat → Int32 → ZM → Option (Int32 × ZM)
  | 0, _, _ => none
  | n + 1, v1, M =>
    if 6 ≤ v1 then (
      K M) else (
      zck (zin v1 (zn (zr t0 7))) <|
      zck (zin v1 (zn (zr t0 3))) <|
      zlet (zi M (zr t0 3) v1.toNatClampNeg (M.1 (zr t0 7) v1.toNatClampNeg)) fun (M10 : ZM) =>
      zlet (v1 + 1) fun (x11 : Int32) =>
      f_X12_on_42 t0 K n x11 M10)

def f_X12_on_68 (t0 : Nat) (K : ZM → Option (Int32 × ZM)) : Nat → Int32 → ZM → Option (Int32 × ZM)
  | 0, _, _ => none
  | n + 1, v1, M =>
    if 8 ≤ v1 then (
      K M) else (
      zck (zin v1 (zn (zr t0 8))) <|
      zck (zin v1 (zn (zr t0 4))) <|
      zlet (zi M (zr t0 4) v1.toNatClampNeg (M.1 (zr t0 8) v1.toNatClampNeg)) fun (M15 : ZM) =>
      zck (zin v1 (zn (zr t0 9))) <|
      zck (zin v1 (zn (zr t0 5))) <|
      zlet (zi M15 (zr t0 5) v1.toNatClampNeg (M15.1 (zr t0 9) v1.toNatClampNeg)) fun (M18 : ZM) =>
      zlet (v1 + 1) fun (x19 : Int32) =>
      f_X12_on_68 t0 K n x19 M18)

def f_X12_on (t0 : Nat) (M : ZM) : Option (Int32 × ZM) :=
  if (M.1 t0 17) = 0 then (
    (f_X12_refuse t0 (-3) M).bind fun (q24 : (Int32 × ZM)) =>
    some (q24.1, q24.2)) else (
    f_X12_on_16 t0 (fun (M : ZM) =>
      f_X12_on_42 t0 (fun (M : ZM) =>
        f_X12_on_68 t0 (fun (M : ZM) =>
          zlet (zi M t0 10 (M.1 t0 14)) fun (M20 : ZM) =>
          zlet (zi M20 t0 12 (M20.1 t0 15)) fun (M21 : ZM) =>
          zlet (zi M21 t0 13 (M21.1 t0 16)) fun (M22 : ZM) =>
          (f_X12_finds t0 M22).bind fun (q23 : ZM) =>
          some ((q23.1 t0 10), q23)) zN 0 M) zN 0 M) zN 0 M)
set_option maxHeartbeats 4000000 in
set_option maxRecDepth 100000 in
theorem w_X12_on_16 {G : ZG} (hG : zOk G) (S : zX p (zR 46) s m args c 0 0 cX12_on 2 RX12) (hr : meth.sig.returnType = (Option.some FieldType.int)) (hlk : meth.locks = false) (t0 : Nat) (k0 : zk G t0 = 22)  {K : ZM → Option (Int32 × ZM)} {res : (Int32 × ZM)} (hK : ∀  (M : ZM), K M = some res → ∀ (H : Heap) (locs : List Loc) (ls : Array Slot), zWd G A s H locs M → lv_has ls 2 [(0, .ref (za G t0))] → W p l e (zR 46) s m args below meth c H locs 0 0 (zQ below G A (some (.int res.1)) res.2 args s) (F0 m 40 ls [])) : ∀ (n : Nat) (v1 : Int32) (M : ZM), f_X12_on_16 t0 K n v1 M = some res → ∀ (H : Heap) (locs : List Loc) (ls : Array Slot), zWd G A s H locs M → lv_has ls 2 [(0, .ref (za G t0)), (1, .int v1)] → W p l e (zR 46) s m args below meth c H locs 0 0 (zQ below G A (some (.int res.1)) res.2 args s) (F0 m 16 ls []) := by
  have hx := S.1.1
  have hb := S.1.2.1
  have hown := S.1.2.2.2.1
  have hts := S.1.2.2.2.2
  intro n
  induction n with
  | zero =>
    intro v1 M h
    rw [f_X12_on_16] at h
    cases h
  | succ n ih =>
    intro v1 M h H locs ls hw hl
    rw [f_X12_on_16] at h
    refine lv_iload_n hx hb dX12_on_16 rfl (lv_at hl 1 rfl) ?_
    refine lv_bipush (v := 21) hx hb dX12_on_17 (by decide) ?_
    refine lv_icmp_ge (tgt := 40) hx hb dX12_on_19 (by decide) (fun c2 => ?_) (fun c2 => ?_)
    · have h := zif_t h c2
      exact hK M h H locs ls hw (lv_sub hl [0] rfl)
    · have h := zif_f h c2
      refine lv_aload_n hx hb dX12_on_22 rfl (lv_at hl 0 rfl) ?_
      refine z_getR S hw k0 fl_X12_13 rfl dX12_on_23 ?_
      refine lv_iload_n hx hb dX12_on_26 rfl (lv_at hl 1 rfl) ?_
      refine lv_aload_n hx hb dX12_on_27 rfl (lv_at hl 0 rfl) ?_
      refine z_getR S hw k0 fl_X12_28 rfl dX12_on_28 ?_
      refine lv_iload_n hx hb dX12_on_31 rfl (lv_at hl 1 rfl) ?_
      obtain ⟨g3, h⟩ := zck_ex h
      refine z_iald S hw (kr_12_6 hG k0) g3 dX12_on_32 ?_
      obtain ⟨g4, h⟩ := zck_ex h
      obtain ⟨M5, eM5, h⟩ := zlet_ex h
      refine z_iast S hw eM5 (kr_12_1 hG k0) g4 dX12_on_33 (fun H locs hw => ?_)
      obtain ⟨x6, ex6, h⟩ := zlet_ex h
      refine lv_iinc (v := x6) (lv' := [(1, .int x6), (0, .ref (za G t0))]) hx hb dX12_on_34 hl (k := 1) rfl (by rw [ex6]; rfl) (by decide) rfl (fun ls hl => ?_)
      refine lv_goto (tgt := 16) hx hb dX12_on_37 (by decide) ?_
      exact ih x6 M5 h H locs ls hw (lv_sub hl [1, 0] rfl)
set_option maxHeartbeats 4000000 in
set_option maxRecDepth 100000 in
theorem w_X12_on_42 {G : ZG} (hG : zOk G) (S : zX p (zR 46) s m args c 0 0 cX12_on 2 RX12) (hr : meth.sig.returnType = (Option.some FieldType.int)) (hlk : meth.locks = false) (t0 : Nat) (k0 : zk G t0 = 22)  {K : ZM → Option (Int32 × ZM)} {res : (Int32 × ZM)} (hK : ∀  (M : ZM), K M = some res → ∀ (H : Heap) (locs : List Loc) (ls : Array Slot), zWd G A s H locs M → lv_has ls 2 [(0, .ref (za G t0))] → W p l e (zR 46) s m args below meth c H locs 0 0 (zQ below G A (some (.int res.1)) res.2 args s) (F0 m 66 ls [])) : ∀ (n : Nat) (v1 : Int32) (M : ZM), f_X12_on_42 t0 K n v1 M = some res → ∀ (H : Heap) (locs : List Loc) (ls : Array Slot), zWd G A s H locs M → lv_has ls 2 [(0, .ref (za G t0)), (1, .int v1)] → W p l e (zR 46) s m args below meth c H locs 0 0 (zQ below G A (some (.int res.1)) res.2 args s) (F0 m 42 ls []) := by
  have hx := S.1.1
  have hb := S.1.2.1
  have hown := S.1.2.2.2.1
  have hts := S.1.2.2.2.2
  intro n
  induction n with
  | zero =>
    intro v1 M h
    rw [f_X12_on_42] at h
    cases h
  | succ n ih =>
    intro v1 M h H locs ls hw hl
    rw [f_X12_on_42] at h
    refine lv_iload_n hx hb dX12_on_42 rfl (lv_at hl 1 rfl) ?_
    refine lv_bipush (v := 6) hx hb dX12_on_43 (by decide) ?_
    refine lv_icmp_ge (tgt := 66) hx hb dX12_on_45 (by decide) (fun c7 => ?_) (fun c7 => ?_)
    · have h := zif_t h c7
      exact hK M h H locs ls hw (lv_sub hl [0] rfl)
    · have h := zif_f h c7
      refine lv_aload_n hx hb dX12_on_48 rfl (lv_at hl 0 rfl) ?_
      refine z_getR S hw k0 fl_X12_19 rfl dX12_on_49 ?_
      refine lv_iload_n hx hb dX12_on_52 rfl (lv_at hl 1 rfl) ?_
      refine lv_aload_n hx hb dX12_on_53 rfl (lv_at hl 0 rfl) ?_
      refine z_getR S hw k0 fl_X12_31 rfl dX12_on_54 ?_
      refine lv_iload_n hx hb dX12_on_57 rfl (lv_at hl 1 rfl) ?_
      obtain ⟨g8, h⟩ := zck_ex h
      refine z_iald S hw (kr_12_7 hG k0) g8 dX12_on_58 ?_
      obtain ⟨g9, h⟩ := zck_ex h
      obtain ⟨M10, eM10, h⟩ := zlet_ex h
      refine z_iast S hw eM10 (kr_12_3 hG k0) g9 dX12_on_59 (fun H locs hw => ?_)
      obtain ⟨x11, ex11, h⟩ := zlet_ex h
      refine lv_iinc (v := x11) (lv' := [(1, .int x11), (0, .ref (za G t0))]) hx hb dX12_on_60 hl (k := 1) rfl (by rw [ex11]; rfl) (by decide) rfl (fun ls hl => ?_)
      refine lv_goto (tgt := 42) hx hb dX12_on_63 (by decide) ?_
      exact ih x11 M10 h H locs ls hw (lv_sub hl [1, 0] rfl)
set_option maxHeartbeats 4000000 in
set_option maxRecDepth 100000 in
theorem w_X12_on_68 {G : ZG} (hG : zOk G) (S : zX p (zR 46) s m args c 0 0 cX12_on 2 RX12) (hr : meth.sig.returnType = (Option.some FieldType.int)) (hlk : meth.locks = false) (t0 : Nat) (k0 : zk G t0 = 22)  {K : ZM → Option (Int32 × ZM)} {res : (Int32 × ZM)} (hK : ∀  (M : ZM), K M = some res → ∀ (H : Heap) (locs : List Loc) (ls : Array Slot), zWd G A s H locs M → lv_has ls 2 [(0, .ref (za G t0))] → W p l e (zR 46) s m args below meth c H locs 0 0 (zQ below G A (some (.int res.1)) res.2 args s) (F0 m 104 ls [])) : ∀ (n : Nat) (v1 : Int32) (M : ZM), f_X12_on_68 t0 K n v1 M = some res → ∀ (H : Heap) (locs : List Loc) (ls : Array Slot), zWd G A s H locs M → lv_has ls 2 [(0, .ref (za G t0)), (1, .int v1)] → W p l e (zR 46) s m args below meth c H locs 0 0 (zQ below G A (some (.int res.1)) res.2 args s) (F0 m 68 ls []) := by
  have hx := S.1.1
  have hb := S.1.2.1
  have hown := S.1.2.2.2.1
  have hts := S.1.2.2.2.2
  intro n
  induction n with
  | zero =>
    intro v1 M h
    rw [f_X12_on_68] at h
    cases h
  | succ n ih =>
    intro v1 M h H locs ls hw hl
    rw [f_X12_on_68] at h
    refine lv_iload_n hx hb dX12_on_68 rfl (lv_at hl 1 rfl) ?_
    refine lv_bipush (v := 8) hx hb dX12_on_69 (by decide) ?_
    refine lv_icmp_ge (tgt := 104) hx hb dX12_on_71 (by decide) (fun c12 => ?_) (fun c12 => ?_)
    · have h := zif_t h c12
      exact hK M h H locs ls hw (lv_sub hl [0] rfl)
    · have h := zif_f h c12
      refine lv_aload_n hx hb dX12_on_74 rfl (lv_at hl 0 rfl) ?_
      refine z_getR S hw k0 fl_X12_22 rfl dX12_on_75 ?_
      refine lv_iload_n hx hb dX12_on_78 rfl (lv_at hl 1 rfl) ?_
      refine lv_aload_n hx hb dX12_on_79 rfl (lv_at hl 0 rfl) ?_
      refine z_getR S hw k0 fl_X12_34 rfl dX12_on_80 ?_
      refine lv_iload_n hx hb dX12_on_83 rfl (lv_at hl 1 rfl) ?_
      obtain ⟨g13, h⟩ := zck_ex h
      refine z_iald S hw (kr_12_8 hG k0) g13 dX12_on_84 ?_
      obtain ⟨g14, h⟩ := zck_ex h
      obtain ⟨M15, eM15, h⟩ := zlet_ex h
      refine z_iast S hw eM15 (kr_12_4 hG k0) g14 dX12_on_85 (fun H locs hw => ?_)
      refine lv_aload_n hx hb dX12_on_86 rfl (lv_at hl 0 rfl) ?_
      refine z_getR S hw k0 fl_X12_25 rfl dX12_on_87 ?_
      refine lv_iload_n hx hb dX12_on_90 rfl (lv_at hl 1 rfl) ?_
      refine lv_aload_n hx hb dX12_on_91 rfl (lv_at hl 0 rfl) ?_
      refine z_getR S hw k0 fl_X12_37 rfl dX12_on_92 ?_
      refine lv_iload_n hx hb dX12_on_95 rfl (lv_at hl 1 rfl) ?_
      obtain ⟨g16, h⟩ := zck_ex h
      refine z_iald S hw (kr_12_9 hG k0) g16 dX12_on_96 ?_
      obtain ⟨g17, h⟩ := zck_ex h
      obtain ⟨M18, eM18, h⟩ := zlet_ex h
      refine z_iast S hw eM18 (kr_12_5 hG k0) g17 dX12_on_97 (fun H locs hw => ?_)
      obtain ⟨x19, ex19, h⟩ := zlet_ex h
      refine lv_iinc (v := x19) (lv' := [(1, .int x19), (0, .ref (za G t0))]) hx hb dX12_on_98 hl (k := 1) rfl (by rw [ex19]; rfl) (by decide) rfl (fun ls hl => ?_)
      refine lv_goto (tgt := 68) hx hb dX12_on_101 (by decide) ?_
      exact ih x19 M18 h H locs ls hw (lv_sub hl [1, 0] rfl)
set_option maxHeartbeats 4000000 in
set_option maxRecDepth 100000 in
theorem c_X12_on (l : Launch) {G : ZG} (hG : zOk G) (t0 : Nat) (k0 : zk G t0 = 22) (M : ZM) (res : (Int32 × ZM)) (h : f_X12_on t0 M = some res) : zCt l yX12_on cX12_on 2 (Option.some FieldType.int) 46 G [.ref (za G t0)] M (some (.int res.1)) res.2 := by
  refine zCt.mk (by decide +kernel) (Nat.le_of_ble_eq_true rfl) ?_
  intro p e s m args below meth c A H locs ls S hr hlk hw hl
  have S : zX p (zR 46) s m args c 0 0 cX12_on 2 RX12 := S
  have hx := S.1.1
  have hb := S.1.2.1
  have hown := S.1.2.2.2.1
  have hts := S.1.2.2.2.2
  have hl : lv_has ls 2 [(0, .ref (za G t0))] := hl
  unfold f_X12_on at h
  refine lv_aload_n hx hb dX12_on_0 rfl (lv_at hl 0 rfl) ?_
  refine z_getI S hw k0 fl_X12_239 rfl dX12_on_1 ?_
  refine lv_if_ne (tgt := 14) hx hb dX12_on_4 (by decide) (fun c1 => ?_) (fun c1 => ?_)
  · have h := zif_f h c1
    refine lv_iconst (v := 0) hx hb dX12_on_14 (by decide) ?_
    refine lv_istore_n (lv' := [(1, .int 0), (0, .ref (za G t0))]) hx hb dX12_on_15 rfl hl (by decide) rfl (fun ls hl => ?_)
    refine w_X12_on_16 hG S hr hlk t0 k0 (fun M h H locs ls hw hl => ?_) zN 0 M h H locs ls hw (lv_sub hl [1, 0] rfl)
    refine lv_iconst (v := 0) hx hb dX12_on_40 (by decide) ?_
    refine lv_istore_n (lv' := [(1, .int 0), (0, .ref (za G t0))]) hx hb dX12_on_41 rfl hl (by decide) rfl (fun ls hl => ?_)
    refine w_X12_on_42 hG S hr hlk t0 k0 (fun M h H locs ls hw hl => ?_) zN 0 M h H locs ls hw (lv_sub hl [1, 0] rfl)
    refine lv_iconst (v := 0) hx hb dX12_on_66 (by decide) ?_
    refine lv_istore_n (lv' := [(1, .int 0), (0, .ref (za G t0))]) hx hb dX12_on_67 rfl hl (by decide) rfl (fun ls hl => ?_)
    refine w_X12_on_68 hG S hr hlk t0 k0 (fun M h H locs ls hw hl => ?_) zN 0 M h H locs ls hw (lv_sub hl [1, 0] rfl)
    refine lv_aload_n hx hb dX12_on_104 rfl (lv_at hl 0 rfl) ?_
    refine lv_aload_n hx hb dX12_on_105 rfl (lv_at hl 0 rfl) ?_
    refine z_getI S hw k0 fl_X12_230 rfl dX12_on_106 ?_
    obtain ⟨M20, eM20, h⟩ := zlet_ex h
    refine z_putI S hw eM20 k0 fl_X12_85 rfl (fun h => absurd h (by decide)) dX12_on_109 (fun H locs hw => ?_)
    refine lv_aload_n hx hb dX12_on_112 rfl (lv_at hl 0 rfl) ?_
    refine lv_aload_n hx hb dX12_on_113 rfl (lv_at hl 0 rfl) ?_
    refine z_getI S hw k0 fl_X12_233 rfl dX12_on_114 ?_
    obtain ⟨M21, eM21, h⟩ := zlet_ex h
    refine z_putI S hw eM21 k0 fl_X12_191 rfl (fun h => absurd h (by decide)) dX12_on_117 (fun H locs hw => ?_)
    refine lv_aload_n hx hb dX12_on_120 rfl (lv_at hl 0 rfl) ?_
    refine lv_aload_n hx hb dX12_on_121 rfl (lv_at hl 0 rfl) ?_
    refine z_getI S hw k0 fl_X12_236 rfl dX12_on_122 ?_
    obtain ⟨M22, eM22, h⟩ := zlet_ex h
    refine z_putI S hw eM22 k0 fl_X12_223 rfl (fun h => absurd h (by decide)) dX12_on_125 (fun H locs hw => ?_)
    refine lv_aload_n hx hb dX12_on_128 rfl (lv_at hl 0 rfl) ?_
    obtain ⟨q23, eq23, h⟩ := Option.bind_eq_some_iff.mp h
    refine z_callV (ci := 12) (As := []) (rest := []) (rv := none) (M1 := q23) S hw (c_X12_finds l hG t0 k0 M22 q23 eq23) mv_X12_finds lk_X12_88 k0 ⟨_, _, rfl⟩ (by decide) rfl rfl (Nat.le_of_ble_eq_true rfl) ⟨Nat.le_of_ble_eq_true rfl, Nat.le_of_ble_eq_true rfl⟩ hl.1 dX12_on_129 (fun H locs hw => ?_)
    refine lv_aload_n hx hb dX12_on_132 rfl (lv_at hl 0 rfl) ?_
    refine z_getI S hw k0 fl_X12_85 rfl dX12_on_133 ?_
    have h := Option.some.inj h
    subst h
    exact z_ret_i S hr hlk hw dX12_on_136
  · have h := zif_t h c1
    refine lv_aload_n hx hb dX12_on_7 rfl (lv_at hl 0 rfl) ?_
    refine lv_bipush (v := (-3)) hx hb dX12_on_8 (by decide) ?_
    obtain ⟨q24, eq24, h⟩ := Option.bind_eq_some_iff.mp h
    refine z_callV (ci := 12) (As := [.int (-3)]) (rest := []) (rv := (some (.int q24.1))) (M1 := q24.2) S hw (c_X12_refuse l hG t0 (-3) k0 M q24 eq24) mv_X12_refuse lk_X12_91 k0 ⟨_, _, rfl⟩ (by decide) rfl rfl (Nat.le_of_ble_eq_true rfl) ⟨Nat.le_of_ble_eq_true rfl, Nat.le_of_ble_eq_true rfl⟩ hl.1 dX12_on_10 (fun H locs hw => ?_)
    have h := Option.some.inj h
    subst h
    exact z_ret_i S hr hlk hw dX12_on_13
def f_X12_count_82 (t0 : Nat) (M : ZM) (K : Int32 → Option Int32) : Nat → Int32 → Int32 → Option Int32
  | 0, _, _ => none
  | n + 1, v2, v3 =>
    if (M.1 t0 10) ≤ v3 then (
      K v2) else (
      zck (zin v3 (zn (zr t0 1))) <|
      zlet (f_X12_isLetter (M.1 (zr t0 1) v3.toNatClampNeg) M) fun (q8 : Int32) =>
      if q8 = 0 then (
        zlet (v2 + 0) fun (x10 : Int32) =>
        zlet (v3 + 1) fun (x11 : Int32) =>
        f_X12_count_82 t0 M K n x10 x11) else (
        zlet (v2 + 1) fun (x12 : Int32) =>
        zlet (v3 + 1) fun (x13 : Int32) =>
        f_X12_count_82 t0 M K n x12 x13))

def f_X12_count (t0 : Nat) (v1 : Int32) (M : ZM) : Option Int32 :=
  zlet (
    if v1 = 0 then (
      some (M.1 t0 10)) else (
    if v1 = 1 then (
      some (M.1 t0 12)) else (
    if v1 = 2 then (
      some (M.1 t0 13)) else (
    if v1 = 3 then (
      some (M.1 t0 11)) else (
    if v1 = 4 then (
      f_X12_count_82 t0 M (fun (v2 : Int32) =>
        some v2) zN 0 0) else (
      some ((-9) : Int32))))))) fun J22 =>
  if v1 ≤ 10 then (
    J22) else (
    if 17 ≤ v1 then (
      J22) else (
      zck (zin (v1 - 10) (zn (zr t0 0))) <|
      some (M.1 (zr t0 0) (v1 - 10).toNatClampNeg)))
set_option maxHeartbeats 4000000 in
set_option maxRecDepth 100000 in
theorem w_X12_count_82 {G : ZG} (hG : zOk G) (S : zX p (zR 1) s m args c 0 0 cX12_count 4 RX12) (hr : meth.sig.returnType = (Option.some FieldType.int)) (hlk : meth.locks = false) (t0 : Nat) (k0 : zk G t0 = 22) (M : ZM)  {K : Int32 → Option Int32} {res : Int32} (hK : ∀ (v2 : Int32), K v2 = some res → ∀ (H : Heap) (locs : List Loc) (ls : Array Slot), zWd G A s H locs M → lv_has ls 4 [(2, .int v2)] → W p l e (zR 1) s m args below meth c H locs 0 0 (zQ below G A (some (.int res)) M args s) (F0 m 116 ls [])) : ∀ (n : Nat) (v2 : Int32) (v3 : Int32), f_X12_count_82 t0 M K n v2 v3 = some res → ∀ (H : Heap) (locs : List Loc) (ls : Array Slot), zWd G A s H locs M → lv_has ls 4 [(0, .ref (za G t0)), (2, .int v2), (3, .int v3)] → W p l e (zR 1) s m args below meth c H locs 0 0 (zQ below G A (some (.int res)) M args s) (F0 m 82 ls []) := by
  have hx := S.1.1
  have hb := S.1.2.1
  have hown := S.1.2.2.2.1
  have hts := S.1.2.2.2.2
  intro n
  induction n with
  | zero =>
    intro v2 v3 h
    rw [f_X12_count_82] at h
    cases h
  | succ n ih =>
    intro v2 v3 h H locs ls hw hl
    rw [f_X12_count_82] at h
    refine lv_iload_n hx hb dX12_count_82 rfl (lv_at hl 2 rfl) ?_
    refine lv_aload_n hx hb dX12_count_83 rfl (lv_at hl 0 rfl) ?_
    refine z_getI S hw k0 fl_X12_85 rfl dX12_count_84 ?_
    refine lv_icmp_ge (tgt := 116) hx hb dX12_count_87 (by decide) (fun c6 => ?_) (fun c6 => ?_)
    · have h := zif_t h c6
      exact hK v2 h H locs ls hw (lv_sub hl [1] rfl)
    · have h := zif_f h c6
      refine lv_iload_n hx hb dX12_count_90 rfl (lv_at hl 1 rfl) ?_
      refine lv_aload_n hx hb dX12_count_91 rfl (lv_at hl 0 rfl) ?_
      refine z_getR S hw k0 fl_X12_13 rfl dX12_count_92 ?_
      refine lv_iload_n hx hb dX12_count_95 rfl (lv_at hl 2 rfl) ?_
      obtain ⟨g7, h⟩ := zck_ex h
      refine z_iald S hw (kr_12_1 hG k0) g7 dX12_count_96 ?_
      obtain ⟨q8, eq8, h⟩ := zlet_ex h
      refine z_callS (As := [.int (M.1 (zr t0 1) v3.toNatClampNeg)]) (rest := [.int v2]) (rv := (some (.int q8))) (M1 := M) S hw (c_X12_isLetter l hG (M.1 (zr t0 1) v3.toNatClampNeg) M q8 eq8.symm) mv_X12_isLetter lk_X12_103 rfl rfl (Nat.le_of_ble_eq_true rfl) ⟨Nat.le_of_ble_eq_true rfl, Nat.le_of_ble_eq_true rfl⟩ hl.1 dX12_count_97 (fun H locs hw => ?_)
      refine lv_if_eq (tgt := 107) hx hb dX12_count_100 (by decide) (fun c9 => ?_) (fun c9 => ?_)
      · have h := zif_t h c9
        refine lv_iconst (v := 0) hx hb dX12_count_107 (by decide) ?_
        refine lv_iadd hx hb dX12_count_108 ?_
        obtain ⟨x10, ex10, h⟩ := zlet_ex h
        refine lv_topiE ex10 ?_
        refine lv_istore_n (lv' := [(2, .int x10), (0, .ref (za G t0)), (3, .int v3)]) hx hb dX12_count_109 rfl hl (by decide) rfl (fun ls hl => ?_)
        obtain ⟨x11, ex11, h⟩ := zlet_ex h
        refine lv_iinc (v := x11) (lv' := [(3, .int x11), (2, .int x10), (0, .ref (za G t0))]) hx hb dX12_count_110 hl (k := 2) rfl (by rw [ex11]; rfl) (by decide) rfl (fun ls hl => ?_)
        refine lv_goto (tgt := 82) hx hb dX12_count_113 (by decide) ?_
        exact ih x10 x11 h H locs ls hw (lv_sub hl [2, 1, 0] rfl)
      · have h := zif_f h c9
        refine lv_iconst (v := 1) hx hb dX12_count_103 (by decide) ?_
        refine lv_goto (tgt := 108) hx hb dX12_count_104 (by decide) ?_
        refine lv_iadd hx hb dX12_count_108 ?_
        obtain ⟨x12, ex12, h⟩ := zlet_ex h
        refine lv_topiE ex12 ?_
        refine lv_istore_n (lv' := [(2, .int x12), (0, .ref (za G t0)), (3, .int v3)]) hx hb dX12_count_109 rfl hl (by decide) rfl (fun ls hl => ?_)
        obtain ⟨x13, ex13, h⟩ := zlet_ex h
        refine lv_iinc (v := x13) (lv' := [(3, .int x13), (2, .int x12), (0, .ref (za G t0))]) hx hb dX12_count_110 hl (k := 2) rfl (by rw [ex13]; rfl) (by decide) rfl (fun ls hl => ?_)
        refine lv_goto (tgt := 82) hx hb dX12_count_113 (by decide) ?_
        exact ih x12 x13 h H locs ls hw (lv_sub hl [2, 1, 0] rfl)
set_option maxHeartbeats 4000000 in
set_option maxRecDepth 100000 in
theorem c_X12_count (l : Launch) {G : ZG} (hG : zOk G) (t0 : Nat) (v1 : Int32) (k0 : zk G t0 = 22) (M : ZM) (res : Int32) (h : f_X12_count t0 v1 M = some res) : zCt l yX12_count cX12_count 4 (Option.some FieldType.int) 1 G [.ref (za G t0), .int v1] M (some (.int res)) M := by
  refine zCt.mk (by decide +kernel) (Nat.le_of_ble_eq_true rfl) ?_
  intro p e s m args below meth c A H locs ls S hr hlk hw hl
  have S : zX p (zR 1) s m args c 0 0 cX12_count 4 RX12 := S
  have hx := S.1.1
  have hb := S.1.2.1
  have hown := S.1.2.2.2.1
  have hts := S.1.2.2.2.2
  have hl : lv_has ls 4 [(0, .ref (za G t0)), (1, .int v1)] := hl
  unfold f_X12_count at h
  obtain ⟨J22, hJ22, h⟩ := zlet_ex h
  have wJ22 : J22 = some res → ∀ (H : Heap) (locs : List Loc) (ls : Array Slot), zWd G A s H locs M → lv_has ls 4 [(0, .ref (za G t0)), (1, .int v1)] → W p l e (zR 1) s m args below meth c H locs 0 0 (zQ below G A (some (.int res)) M args s) (F0 m 22 ls []) := by
    intro  h H locs ls hw hl
    subst hJ22
    refine lv_iconst (v := 0) hx hb dX12_count_22 (by decide) ?_
    refine lv_istore_n (lv' := [(2, .int 0), (0, .ref (za G t0)), (1, .int v1)]) hx hb dX12_count_23 rfl hl (by decide) rfl (fun ls hl => ?_)
    refine lv_iload_n hx hb dX12_count_24 rfl (lv_at hl 2 rfl) ?_
    rcases Decidable.em (v1 = 0) with c1 | c1
    · have h := zif_t h c1
      refine z_tab S (off := 35) c1 (by decide) (by decide) dX12_count_25 (by decide +kernel) (tgt := 60) (by decide) ?_
      refine lv_aload_n hx hb dX12_count_60 rfl (lv_at hl 1 rfl) ?_
      refine z_getI S hw k0 fl_X12_85 rfl dX12_count_61 ?_
      have h := Option.some.inj h
      subst h
      exact z_ret_i S hr hlk hw dX12_count_64
    have h := zif_f h c1
    rcases Decidable.em (v1 = 1) with c2 | c2
    · have h := zif_t h c2
      refine z_tab S (off := 40) c2 (by decide) (by decide) dX12_count_25 (by decide +kernel) (tgt := 65) (by decide) ?_
      refine lv_aload_n hx hb dX12_count_65 rfl (lv_at hl 1 rfl) ?_
      refine z_getI S hw k0 fl_X12_191 rfl dX12_count_66 ?_
      have h := Option.some.inj h
      subst h
      exact z_ret_i S hr hlk hw dX12_count_69
    have h := zif_f h c2
    rcases Decidable.em (v1 = 2) with c3 | c3
    · have h := zif_t h c3
      refine z_tab S (off := 45) c3 (by decide) (by decide) dX12_count_25 (by decide +kernel) (tgt := 70) (by decide) ?_
      refine lv_aload_n hx hb dX12_count_70 rfl (lv_at hl 1 rfl) ?_
      refine z_getI S hw k0 fl_X12_223 rfl dX12_count_71 ?_
      have h := Option.some.inj h
      subst h
      exact z_ret_i S hr hlk hw dX12_count_74
    have h := zif_f h c3
    rcases Decidable.em (v1 = 3) with c4 | c4
    · have h := zif_t h c4
      refine z_tab S (off := 50) c4 (by decide) (by decide) dX12_count_25 (by decide +kernel) (tgt := 75) (by decide) ?_
      refine lv_aload_n hx hb dX12_count_75 rfl (lv_at hl 1 rfl) ?_
      refine z_getI S hw k0 fl_X12_95 rfl dX12_count_76 ?_
      have h := Option.some.inj h
      subst h
      exact z_ret_i S hr hlk hw dX12_count_79
    have h := zif_f h c4
    rcases Decidable.em (v1 = 4) with c5 | c5
    · have h := zif_t h c5
      refine z_tab S (off := 55) c5 (by decide) (by decide) dX12_count_25 (by decide +kernel) (tgt := 80) (by decide) ?_
      refine lv_iconst (v := 0) hx hb dX12_count_80 (by decide) ?_
      refine lv_istore_n (lv' := [(3, .int 0), (2, .int 0), (0, .ref (za G t0)), (1, .int v1)]) hx hb dX12_count_81 rfl hl (by decide) rfl (fun ls hl => ?_)
      refine w_X12_count_82 hG S hr hlk t0 k0 M (fun v2 h H locs ls hw hl => ?_) zN 0 0 h H locs ls hw (lv_sub hl [2, 1, 0] rfl)
      refine lv_iload_n hx hb dX12_count_116 rfl (lv_at hl 0 rfl) ?_
      have h := Option.some.inj h
      subst h
      exact z_ret_i S hr hlk hw dX12_count_117
    have h := zif_f h c5
    have nc1 := zne c1 (z := 0) (by decide)
    have nc2 := zne c2 (z := 1) (by decide)
    have nc3 := zne c3 (z := 2) (by decide)
    have nc4 := zne c4 (z := 3) (by decide)
    have nc5 := zne c5 (z := 4) (by decide)
    refine z_tabD S (by omega) dX12_count_25 (tgt := 118) (by decide) ?_
    refine lv_bipush (v := (-9)) hx hb dX12_count_118 (by decide) ?_
    have h := Option.some.inj h
    subst h
    exact z_ret_i S hr hlk hw dX12_count_120
  refine lv_iload_n hx hb dX12_count_0 rfl (lv_at hl 1 rfl) ?_
  refine lv_bipush (v := 10) hx hb dX12_count_1 (by decide) ?_
  refine lv_icmp_le (tgt := 22) hx hb dX12_count_3 (by decide) (fun c14 => ?_) (fun c14 => ?_)
  · have h := zif_t h c14
    exact wJ22 h H locs ls hw (lv_sub hl [0, 1] rfl)
  · have h := zif_f h c14
    refine lv_iload_n hx hb dX12_count_6 rfl (lv_at hl 1 rfl) ?_
    refine lv_bipush (v := 17) hx hb dX12_count_7 (by decide) ?_
    refine lv_icmp_ge (tgt := 22) hx hb dX12_count_9 (by decide) (fun c15 => ?_) (fun c15 => ?_)
    · have h := zif_t h c15
      exact wJ22 h H locs ls hw (lv_sub hl [0, 1] rfl)
    · have h := zif_f h c15
      refine lv_aload_n hx hb dX12_count_12 rfl (lv_at hl 0 rfl) ?_
      refine z_getR S hw k0 fl_X12_7 rfl dX12_count_13 ?_
      refine lv_iload_n hx hb dX12_count_16 rfl (lv_at hl 1 rfl) ?_
      refine lv_bipush (v := 10) hx hb dX12_count_17 (by decide) ?_
      refine lv_isub hx hb dX12_count_19 ?_
      obtain ⟨g16, h⟩ := zck_ex h
      refine z_iald S hw (kr_12_0 hG k0) g16 dX12_count_20 ?_
      have h := Option.some.inj h
      subst h
      exact z_ret_i S hr hlk hw dX12_count_21
end Z
