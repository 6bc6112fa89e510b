section Z
variable {p : Program} {l : Launch} {e : Env} {s : State} {m : MethodId} {args : Array Value} {below : List Frame} {meth : Method} {c : Code} {A : Nat → Prop}
def f_X12_refuse (t0 : Nat) (v1 : Int32) (M : ZM) : Option (Int32 × ZM) :=
  zck (zin (-v1) (zn (zr t0 0))) <|
  zck (zin (-v1) (zn (zr t0 0))) <|
  zlet (zi M (zr t0 0) (-v1).toNatClampNeg ((M.1 (zr t0 0) (-v1).toNatClampNeg) + 1)) fun (M3 : ZM) =>
  some (v1, M3)
set_option maxHeartbeats 4000000 in
set_option maxRecDepth 100000 in
theorem c_X12_refuse (l : Launch) {G : ZG} (hG : zOk G) (t0 : Nat) (v1 : Int32) (k0 : zk G t0 = 22) (M : ZM) (res : (Int32 × ZM)) (h : f_X12_refuse t0 v1 M = some res) : zCt l yX12_refuse cX12_refuse 2 (Option.some FieldType.int) 0 G [.ref (za G t0), .int v1] M (some (.int res.1)) res.2 := by
  refine zCt.mk (by decide +kernel) (Nat.le_of_ble_eq_true rfl) ?_
  intro p e s m args below meth c A H locs ls S hr hlk hw hl
  have S : zX p (zR 0) s m args c 0 0 cX12_refuse 2 RX12 := S
  have hx := S.1.1
  have hb := S.1.2.1
  have hown := S.1.2.2.2.1
  have hts := S.1.2.2.2.2
  have hl : lv_has ls 2 [(0, .ref (za G t0)), (1, .int v1)] := hl
  unfold f_X12_refuse at h
  refine lv_aload_n hx hb dX12_refuse_0 rfl (lv_at hl 0 rfl) ?_
  refine z_getR S hw k0 fl_X12_7 rfl dX12_refuse_1 ?_
  refine lv_iload_n hx hb dX12_refuse_4 rfl (lv_at hl 1 rfl) ?_
  refine lv_ineg hx hb dX12_refuse_5 ?_
  refine lv_dup2_11 hx hb dX12_refuse_6 rfl rfl ?_
  obtain ⟨g1, h⟩ := zck_ex h
  refine z_iald S hw (kr_12_0 hG k0) g1 dX12_refuse_7 ?_
  refine lv_iconst (v := 1) hx hb dX12_refuse_8 (by decide) ?_
  refine lv_iadd hx hb dX12_refuse_9 ?_
  obtain ⟨g2, h⟩ := zck_ex h
  obtain ⟨M3, eM3, h⟩ := zlet_ex h
  refine z_iast S hw eM3 (kr_12_0 hG k0) g2 dX12_refuse_10 (fun H locs hw => ?_)
  refine lv_iload_n hx hb dX12_refuse_11 rfl (lv_at hl 1 rfl) ?_
  have h := Option.some.inj h
  subst h
  exact z_ret_i S hr hlk hw dX12_refuse_12
def f_X12_isIn (v0 : Int32) (v1 : Int32) (M : ZM) : Int32 :=
  if v0 < 0 then (
    (0 : Int32)) else (
    if v1 ≤ v0 then (
      (0 : Int32)) else (
      (1 : Int32)))
set_option maxHeartbeats 4000000 in
set_option maxRecDepth 100000 in
theorem c_X12_isIn (l : Launch) {G : ZG} (hG : zOk G) (v0 : Int32) (v1 : Int32) (M : ZM) (res : Int32) (h : f_X12_isIn v0 v1 M = res) : zCt l yX12_isIn cX12_isIn 2 (Option.some FieldType.boolean) 0 G [.int v0, .int v1] M (some (.int res)) M := by
  refine zCt.mk (by decide +kernel) (Nat.le_of_ble_eq_true rfl) ?_
  intro p e s m args below meth c A H locs ls S hr hlk hw hl
  have S : zX p (zR 0) s m args c 0 0 cX12_isIn 2 RX12 := S
  have hx := S.1.1
  have hb := S.1.2.1
  have hown := S.1.2.2.2.1
  have hts := S.1.2.2.2.2
  have hl : lv_has ls 2 [(0, .int v0), (1, .int v1)] := hl
  unfold f_X12_isIn at h
  refine lv_iload_n hx hb dX12_isIn_0 rfl (lv_at hl 0 rfl) ?_
  refine lv_if_lt (tgt := 13) hx hb dX12_isIn_1 (by decide) (fun c1 => ?_) (fun c1 => ?_)
  · have h := zif_t h c1
    refine lv_iconst (v := 0) hx hb dX12_isIn_13 (by decide) ?_
    subst h
    exact z_ret_z S hr hlk (Or.inl rfl) hw dX12_isIn_14
  · have h := zif_f h c1
    refine lv_iload_n hx hb dX12_isIn_4 rfl (lv_at hl 0 rfl) ?_
    refine lv_iload_n hx hb dX12_isIn_5 rfl (lv_at hl 1 rfl) ?_
    refine lv_icmp_ge (tgt := 13) hx hb dX12_isIn_6 (by decide) (fun c2 => ?_) (fun c2 => ?_)
    · have h := zif_t h c2
      refine lv_iconst (v := 0) hx hb dX12_isIn_13 (by decide) ?_
      subst h
      exact z_ret_z S hr hlk (Or.inl rfl) hw dX12_isIn_14
    · have h := zif_f h c2
      refine lv_iconst (v := 1) hx hb dX12_isIn_9 (by decide) ?_
      refine lv_goto (tgt := 14) hx hb dX12_isIn_10 (by decide) ?_
      subst h
      exact z_ret_z S hr hlk (Or.inr rfl) hw dX12_isIn_14
def f_X12_within (v0 : Int32) (v1 : Int32) (v2 : Int32) (M : ZM) : Int32 :=
  if v1 ≤ v0 then (
    if v0 ≤ v2 then (
      (0 : Int32)) else (
      ((-6) : Int32))) else (
    ((-4) : Int32))
set_option maxHeartbeats 4000000 in
set_option maxRecDepth 100000 in
theorem c_X12_within (l : Launch) {G : ZG} (hG : zOk G) (v0 : Int32) (v1 : Int32) (v2 : Int32) (M : ZM) (res : Int32) (h : f_X12_within v0 v1 v2 M = res) : zCt l yX12_within cX12_within 3 (Option.some FieldType.int) 0 G [.int v0, .int v1, .int v2] M (some (.int res)) M := by
  refine zCt.mk (by decide +kernel) (Nat.le_of_ble_eq_true rfl) ?_
  intro p e s m args below meth c A H locs ls S hr hlk hw hl
  have S : zX p (zR 0) s m args c 0 0 cX12_within 3 RX12 := S
  have hx := S.1.1
  have hb := S.1.2.1
  have hown := S.1.2.2.2.1
  have hts := S.1.2.2.2.2
  have hl : lv_has ls 3 [(0, .int v0), (1, .int v1), (2, .int v2)] := hl
  unfold f_X12_within at h
  refine lv_iload_n hx hb dX12_within_0 rfl (lv_at hl 0 rfl) ?_
  refine lv_iload_n hx hb dX12_within_1 rfl (lv_at hl 1 rfl) ?_
  refine lv_icmp_ge (tgt := 10) hx hb dX12_within_2 (by decide) (fun c1 => ?_) (fun c1 => ?_)
  · have h := zif_t h c1
    refine lv_iload_n hx hb dX12_within_10 rfl (lv_at hl 0 rfl) ?_
    refine lv_iload_n hx hb dX12_within_11 rfl (lv_at hl 2 rfl) ?_
    refine lv_icmp_le (tgt := 20) hx hb dX12_within_12 (by decide) (fun c2 => ?_) (fun c2 => ?_)
    · have h := zif_t h c2
      refine lv_iconst (v := 0) hx hb dX12_within_20 (by decide) ?_
      subst h
      exact z_ret_i S hr hlk hw dX12_within_21
    · have h := zif_f h c2
      refine lv_bipush (v := (-6)) hx hb dX12_within_15 (by decide) ?_
      refine lv_goto (tgt := 21) hx hb dX12_within_17 (by decide) ?_
      subst h
      exact z_ret_i S hr hlk hw dX12_within_21
  · have h := zif_f h c1
    refine lv_bipush (v := (-4)) hx hb dX12_within_5 (by decide) ?_
    refine lv_goto (tgt := 21) hx hb dX12_within_7 (by decide) ?_
    subst h
    exact z_ret_i S hr hlk hw dX12_within_21
def f_X12_feed_39 (t0 : Nat) (v1 : Int32) (v2 : Int64) (K : ZM → Option (Int32 × ZM)) : Nat → Int32 → ZM → Option (Int32 × ZM)
  | 0, _, _ => none
  | n + 1, v4, M =>
    if v1 ≤ v4 then (
      K M) else (
      zck (zin (M.1 t0 11) (zn (zr t0 2))) <|
      zlet (zi M (zr t0 2) (M.1 t0 11).toNatClampNeg (((v2 >>> (((8 * v4) : Int32).toInt64 &&& 63)) &&& 255).toInt32)) fun (M7 : ZM) =>
      zlet (zi M7 t0 11 ((M7.1 t0 11) + 1)) fun (M8 : ZM) =>
      zlet (v4 + 1) fun (x9 : Int32) =>
      f_X12_feed_39 t0 v1 v2 K n x9 M8)

def f_X12_feed (t0 : Nat) (v1 : Int32) (v2 : Int64) (M : ZM) : Option (Int32 × ZM) :=
  if 1 ≤ v1 then (
    if 8 < v1 then (
      (f_X12_refuse t0 (-6) M).bind fun (q3 : (Int32 × ZM)) =>
      some (q3.1, q3.2)) else (
      if ((M.1 t0 11) + v1) ≤ 21 then (
        f_X12_feed_39 t0 v1 v2 (fun (M : ZM) =>
          some ((M.1 t0 11), M)) zN 0 M) else (
        (f_X12_refuse t0 (-6) M).bind fun (q10 : (Int32 × ZM)) =>
        some (q10.1, q10.2)))) else (
    (f_X12_refuse t0 (-4) M).bind fun (q11 : (Int32 × ZM)) =>
    some (q11.1, q11.2))
set_option maxHeartbeats 4000000 in
set_option maxRecDepth 100000 in
theorem w_X12_feed_39 {G : ZG} (hG : zOk G) (S : zX p (zR 1) s m args c 0 0 cX12_feed 5 RX12) (hr : meth.sig.returnType = (Option.some FieldType.int)) (hlk : meth.locks = false) (t0 : Nat) (v1 : Int32) (v2 : Int64) (k0 : zk G t0 = 22)  {K : ZM → Option (Int32 × ZM)} {res : (Int32 × ZM)} (hK : ∀  (M : ZM), K M = some res → ∀ (H : Heap) (locs : List Loc) (ls : Array Slot), zWd G A s H locs M → lv_has ls 5 [(0, .ref (za G t0))] → W p l e (zR 1) s m args below meth c H locs 0 0 (zQ below G A (some (.int res.1)) res.2 args s) (F0 m 82 ls [])) : ∀ (n : Nat) (v4 : Int32) (M : ZM), f_X12_feed_39 t0 v1 v2 K n v4 M = some res → ∀ (H : Heap) (locs : List Loc) (ls : Array Slot), zWd G A s H locs M → lv_has ls 5 [(0, .ref (za G t0)), (1, .int v1), (2, .long v2), (4, .int v4)] → W p l e (zR 1) s m args below meth c H locs 0 0 (zQ below G A (some (.int res.1)) res.2 args s) (F0 m 39 ls []) := by
  have hx := S.1.1
  have hb := S.1.2.1
  have hown := S.1.2.2.2.1
  have hts := S.1.2.2.2.2
  intro n
  induction n with
  | zero =>
    intro v4 M h
    rw [f_X12_feed_39] at h
    cases h
  | succ n ih =>
    intro v4 M h H locs ls hw hl
    rw [f_X12_feed_39] at h
    refine lv_iload hx hb dX12_feed_39 (lv_at hl 3 rfl) ?_
    refine lv_iload_n hx hb dX12_feed_41 rfl (lv_at hl 1 rfl) ?_
    refine lv_icmp_ge (tgt := 82) hx hb dX12_feed_42 (by decide) (fun c5 => ?_) (fun c5 => ?_)
    · have h := zif_t h c5
      exact hK M h H locs ls hw (lv_sub hl [0] rfl)
    · have h := zif_f h c5
      refine lv_aload_n hx hb dX12_feed_45 rfl (lv_at hl 0 rfl) ?_
      refine z_getR S hw k0 fl_X12_16 rfl dX12_feed_46 ?_
      refine lv_aload_n hx hb dX12_feed_49 rfl (lv_at hl 0 rfl) ?_
      refine z_getI S hw k0 fl_X12_95 rfl dX12_feed_50 ?_
      refine lv_lload_n hx hb dX12_feed_53 rfl (lv_at hl 2 rfl) ?_
      refine lv_bipush (v := 8) hx hb dX12_feed_54 (by decide) ?_
      refine lv_iload hx hb dX12_feed_56 (lv_at hl 3 rfl) ?_
      refine lv_imul hx hb dX12_feed_58 ?_
      refine lv_lshr (v := (v2 >>> (((8 * v4) : Int32).toInt64 &&& 63))) hx hb dX12_feed_59 rfl ?_
      refine lv_ldc2 (v := 255) hx hb hown (hts _ kc_X12_98) dX12_feed_60 ?_
      refine lv_land hx hb dX12_feed_63 ?_
      refine lv_l2i (v := (((v2 >>> (((8 * v4) : Int32).toInt64 &&& 63)) &&& 255).toInt32)) hx hb dX12_feed_64 rfl ?_
      obtain ⟨g6, h⟩ := zck_ex h
      obtain ⟨M7, eM7, h⟩ := zlet_ex h
      refine z_iast S hw eM7 (kr_12_2 hG k0) g6 dX12_feed_65 (fun H locs hw => ?_)
      refine lv_aload_n hx hb dX12_feed_66 rfl (lv_at hl 0 rfl) ?_
      refine lv_dup hx hb dX12_feed_67 rfl ?_
      refine z_getI S hw k0 fl_X12_95 rfl dX12_feed_68 ?_
      refine lv_iconst (v := 1) hx hb dX12_feed_71 (by decide) ?_
      refine lv_iadd hx hb dX12_feed_72 ?_
      obtain ⟨M8, eM8, h⟩ := zlet_ex h
      refine z_putI S hw eM8 k0 fl_X12_95 rfl (fun h => absurd h (by decide)) dX12_feed_73 (fun H locs hw => ?_)
      obtain ⟨x9, ex9, h⟩ := zlet_ex h
      refine lv_iinc (v := x9) (lv' := [(4, .int x9), (0, .ref (za G t0)), (1, .int v1), (2, .long v2)]) hx hb dX12_feed_76 hl (k := 3) rfl (by rw [ex9]; rfl) (by decide) rfl (fun ls hl => ?_)
      refine lv_goto (tgt := 39) hx hb dX12_feed_79 (by decide) ?_
      exact ih x9 M8 h H locs ls hw (lv_sub hl [1, 2, 3, 0] rfl)
set_option maxHeartbeats 4000000 in
set_option maxRecDepth 100000 in
theorem c_X12_feed (l : Launch) {G : ZG} (hG : zOk G) (t0 : Nat) (v1 : Int32) (v2 : Int64) (k0 : zk G t0 = 22) (M : ZM) (res : (Int32 × ZM)) (h : f_X12_feed t0 v1 v2 M = some res) : zCt l yX12_feed cX12_feed 5 (Option.some FieldType.int) 1 G [.ref (za G t0), .int v1, .long v2] M (some (.int res.1)) res.2 := by
  refine zCt.mk (by decide +kernel) (Nat.le_of_ble_eq_true rfl) ?_
  intro p e s m args below meth c A H locs ls S hr hlk hw hl
  have S : zX p (zR 1) s m args c 0 0 cX12_feed 5 RX12 := S
  have hx := S.1.1
  have hb := S.1.2.1
  have hown := S.1.2.2.2.1
  have hts := S.1.2.2.2.2
  have hl : lv_has ls 5 [(0, .ref (za G t0)), (1, .int v1), (2, .long v2)] := hl
  unfold f_X12_feed at h
  refine lv_iload_n hx hb dX12_feed_0 rfl (lv_at hl 1 rfl) ?_
  refine lv_iconst (v := 1) hx hb dX12_feed_1 (by decide) ?_
  refine lv_icmp_ge (tgt := 12) hx hb dX12_feed_2 (by decide) (fun c1 => ?_) (fun c1 => ?_)
  · have h := zif_t h c1
    refine lv_iload_n hx hb dX12_feed_12 rfl (lv_at hl 1 rfl) ?_
    refine lv_bipush (v := 8) hx hb dX12_feed_13 (by decide) ?_
    refine lv_icmp_gt (tgt := 29) hx hb dX12_feed_15 (by decide) (fun c2 => ?_) (fun c2 => ?_)
    · have h := zif_t h c2
      refine lv_aload_n hx hb dX12_feed_29 rfl (lv_at hl 0 rfl) ?_
      refine lv_bipush (v := (-6)) hx hb dX12_feed_30 (by decide) ?_
      obtain ⟨q3, eq3, h⟩ := Option.bind_eq_some_iff.mp h
      refine z_callV (ci := 12) (As := [.int (-6)]) (rest := []) (rv := (some (.int q3.1))) (M1 := q3.2) S hw (c_X12_refuse l hG t0 (-6) k0 M q3 eq3) mv_X12_refuse lk_X12_91 k0 ⟨_, _, rfl⟩ (by decide) rfl rfl (Nat.le_of_ble_eq_true rfl) ⟨Nat.le_of_ble_eq_true rfl, Nat.le_of_ble_eq_true rfl⟩ hl.1 dX12_feed_32 (fun H locs hw => ?_)
      have h := Option.some.inj h
      subst h
      exact z_ret_i S hr hlk hw dX12_feed_35
    · have h := zif_f h c2
      refine lv_aload_n hx hb dX12_feed_18 rfl (lv_at hl 0 rfl) ?_
      refine z_getI S hw k0 fl_X12_95 rfl dX12_feed_19 ?_
      refine lv_iload_n hx hb dX12_feed_22 rfl (lv_at hl 1 rfl) ?_
      refine lv_iadd hx hb dX12_feed_23 ?_
      refine lv_bipush (v := 21) hx hb dX12_feed_24 (by decide) ?_
      refine lv_icmp_le (tgt := 36) hx hb dX12_feed_26 (by decide) (fun c4 => ?_) (fun c4 => ?_)
      · have h := zif_t h c4
        refine lv_iconst (v := 0) hx hb dX12_feed_36 (by decide) ?_
        refine lv_istore (lv' := [(4, .int 0), (0, .ref (za G t0)), (1, .int v1), (2, .long v2)]) hx hb dX12_feed_37 hl (by decide) rfl (fun ls hl => ?_)
        refine w_X12_feed_39 hG S hr hlk t0 v1 v2 k0 (fun M h H locs ls hw hl => ?_) zN 0 M h H locs ls hw (lv_sub hl [1, 2, 3, 0] rfl)
        refine lv_aload_n hx hb dX12_feed_82 rfl (lv_at hl 0 rfl) ?_
        refine z_getI S hw k0 fl_X12_95 rfl dX12_feed_83 ?_
        have h := Option.some.inj h
        subst h
        exact z_ret_i S hr hlk hw dX12_feed_86
      · have h := zif_f h c4
        refine lv_aload_n hx hb dX12_feed_29 rfl (lv_at hl 0 rfl) ?_
        refine lv_bipush (v := (-6)) hx hb dX12_feed_30 (by decide) ?_
        obtain ⟨q10, eq10, h⟩ := Option.bind_eq_some_iff.mp h
        refine z_callV (ci := 12) (As := [.int (-6)]) (rest := []) (rv := (some (.int q10.1))) (M1 := q10.2) S hw (c_X12_refuse l hG t0 (-6) k0 M q10 eq10) mv_X12_refuse lk_X12_91 k0 ⟨_, _, rfl⟩ (by decide) rfl rfl (Nat.le_of_ble_eq_true rfl) ⟨Nat.le_of_ble_eq_true rfl, Nat.le_of_ble_eq_true rfl⟩ hl.1 dX12_feed_32 (fun H locs hw => ?_)
        have h := Option.some.inj h
        subst h
        exact z_ret_i S hr hlk hw dX12_feed_35
  · have h := zif_f h c1
    refine lv_aload_n hx hb dX12_feed_5 rfl (lv_at hl 0 rfl) ?_
    refine lv_bipush (v := (-4)) hx hb dX12_feed_6 (by decide) ?_
    obtain ⟨q11, eq11, h⟩ := Option.bind_eq_some_iff.mp h
    refine z_callV (ci := 12) (As := [.int (-4)]) (rest := []) (rv := (some (.int q11.1))) (M1 := q11.2) S hw (c_X12_refuse l hG t0 (-4) k0 M q11 eq11) mv_X12_refuse lk_X12_91 k0 ⟨_, _, rfl⟩ (by decide) rfl rfl (Nat.le_of_ble_eq_true rfl) ⟨Nat.le_of_ble_eq_true rfl, Nat.le_of_ble_eq_true rfl⟩ hl.1 dX12_feed_8 (fun H locs hw => ?_)
    have h := Option.some.inj h
    subst h
    exact z_ret_i S hr hlk hw dX12_feed_11
def f_X12_isLetter (v0 : Int32) (M : ZM) : Int32 :=
  if v0 < 97 then (
    (0 : Int32)) else (
    if 101 < v0 then (
      (0 : Int32)) else (
      (1 : Int32)))
set_option maxHeartbeats 4000000 in
set_option maxRecDepth 100000 in
theorem c_X12_isLetter (l : Launch) {G : ZG} (hG : zOk G) (v0 : Int32) (M : ZM) (res : Int32) (h : f_X12_isLetter v0 M = res) : zCt l yX12_isLetter cX12_isLetter 1 (Option.some FieldType.boolean) 0 G [.int v0] M (some (.int res)) M := by
  refine zCt.mk (by decide +kernel) (Nat.le_of_ble_eq_true rfl) ?_
  intro p e s m args below meth c A H locs ls S hr hlk hw hl
  have S : zX p (zR 0) s m args c 0 0 cX12_isLetter 1 RX12 := S
  have hx := S.1.1
  have hb := S.1.2.1
  have hown := S.1.2.2.2.1
  have hts := S.1.2.2.2.2
  have hl : lv_has ls 1 [(0, .int v0)] := hl
  unfold f_X12_isLetter at h
  refine lv_iload_n hx hb dX12_isLetter_0 rfl (lv_at hl 0 rfl) ?_
  refine lv_bipush (v := 97) hx hb dX12_isLetter_1 (by decide) ?_
  refine lv_icmp_lt (tgt := 16) hx hb dX12_isLetter_3 (by decide) (fun c1 => ?_) (fun c1 => ?_)
  · have h := zif_t h c1
    refine lv_iconst (v := 0) hx hb dX12_isLetter_16 (by decide) ?_
    subst h
    exact z_ret_z S hr hlk (Or.inl rfl) hw dX12_isLetter_17
  · have h := zif_f h c1
    refine lv_iload_n hx hb dX12_isLetter_6 rfl (lv_at hl 0 rfl) ?_
    refine lv_bipush (v := 101) hx hb dX12_isLetter_7 (by decide) ?_
    refine lv_icmp_gt (tgt := 16) hx hb dX12_isLetter_9 (by decide) (fun c2 => ?_) (fun c2 => ?_)
    · have h := zif_t h c2
      refine lv_iconst (v := 0) hx hb dX12_isLetter_16 (by decide) ?_
      subst h
      exact z_ret_z S hr hlk (Or.inl rfl) hw dX12_isLetter_17
    · have h := zif_f h c2
      refine lv_iconst (v := 1) hx hb dX12_isLetter_12 (by decide) ?_
      refine lv_goto (tgt := 17) hx hb dX12_isLetter_13 (by decide) ?_
      subst h
      exact z_ret_z S hr hlk (Or.inr rfl) hw dX12_isLetter_17
def f_X12_kindOf (v0 : Int32) (M : ZM) : Int32 :=
  if v0 = 38 then (
    (3 : Int32)) else (
    if v0 = 124 then (
      (4 : Int32)) else (
      if v0 = 62 then (
        (5 : Int32)) else (
        if v0 = 45 then (
          (6 : Int32)) else (
          ((-9) : Int32)))))
set_option maxHeartbeats 4000000 in
set_option maxRecDepth 100000 in
theorem c_X12_kindOf (l : Launch) {G : ZG} (hG : zOk G) (v0 : Int32) (M : ZM) (res : Int32) (h : f_X12_kindOf v0 M = res) : zCt l yX12_kindOf cX12_kindOf 1 (Option.some FieldType.int) 0 G [.int v0] M (some (.int res)) M := by
  refine zCt.mk (by decide +kernel) (Nat.le_of_ble_eq_true rfl) ?_
  intro p e s m args below meth c A H locs ls S hr hlk hw hl
  have S : zX p (zR 0) s m args c 0 0 cX12_kindOf 1 RX12 := S
  have hx := S.1.1
  have hb := S.1.2.1
  have hown := S.1.2.2.2.1
  have hts := S.1.2.2.2.2
  have hl : lv_has ls 1 [(0, .int v0)] := hl
  unfold f_X12_kindOf at h
  refine lv_iload_n hx hb dX12_kindOf_0 rfl (lv_at hl 0 rfl) ?_
  refine lv_bipush (v := 38) hx hb dX12_kindOf_1 (by decide) ?_
  refine lv_icmp_ne (tgt := 10) hx hb dX12_kindOf_3 (by decide) (fun c1 => ?_) (fun c1 => ?_)
  · have h := zif_f h c1
    refine lv_iload_n hx hb dX12_kindOf_10 rfl (lv_at hl 0 rfl) ?_
    refine lv_bipush (v := 124) hx hb dX12_kindOf_11 (by decide) ?_
    refine lv_icmp_ne (tgt := 20) hx hb dX12_kindOf_13 (by decide) (fun c2 => ?_) (fun c2 => ?_)
    · have h := zif_f h c2
      refine lv_iload_n hx hb dX12_kindOf_20 rfl (lv_at hl 0 rfl) ?_
      refine lv_bipush (v := 62) hx hb dX12_kindOf_21 (by decide) ?_
      refine lv_icmp_ne (tgt := 30) hx hb dX12_kindOf_23 (by decide) (fun c3 => ?_) (fun c3 => ?_)
      · have h := zif_f h c3
        refine lv_iload_n hx hb dX12_kindOf_30 rfl (lv_at hl 0 rfl) ?_
        refine lv_bipush (v := 45) hx hb dX12_kindOf_31 (by decide) ?_
        refine lv_icmp_ne (tgt := 41) hx hb dX12_kindOf_33 (by decide) (fun c4 => ?_) (fun c4 => ?_)
        · have h := zif_f h c4
          refine lv_bipush (v := (-9)) hx hb dX12_kindOf_41 (by decide) ?_
          subst h
          exact z_ret_i S hr hlk hw dX12_kindOf_43
        · have h := zif_t h c4
          refine lv_bipush (v := 6) hx hb dX12_kindOf_36 (by decide) ?_
          refine lv_goto (tgt := 43) hx hb dX12_kindOf_38 (by decide) ?_
          subst h
          exact z_ret_i S hr hlk hw dX12_kindOf_43
      · have h := zif_t h c3
        refine lv_iconst (v := 5) hx hb dX12_kindOf_26 (by decide) ?_
        refine lv_goto (tgt := 43) hx hb dX12_kindOf_27 (by decide) ?_
        subst h
        exact z_ret_i S hr hlk hw dX12_kindOf_43
    · have h := zif_t h c2
      refine lv_iconst (v := 4) hx hb dX12_kindOf_16 (by decide) ?_
      refine lv_goto (tgt := 43) hx hb dX12_kindOf_17 (by decide) ?_
      subst h
      exact z_ret_i S hr hlk hw dX12_kindOf_43
  · have h := zif_t h c1
    refine lv_iconst (v := 3) hx hb dX12_kindOf_6 (by decide) ?_
    refine lv_goto (tgt := 43) hx hb dX12_kindOf_7 (by decide) ?_
    subst h
    exact z_ret_i S hr hlk hw dX12_kindOf_43
def f_X12_fault_7 (t0 : Nat) (v1 : Int32) (M : ZM) (K : Int32 → Int32 → Option Int32) : Nat → Int32 → Int32 → Int32 → Option Int32
  | 0, _, _, _ => none
  | n + 1, v2, v3, v4 =>
    zlet (fun (v2 : Int32) (v4 : Int32) (v5 : Int32) =>
      zlet (f_X12_kindOf v5 M) fun (q1 : Int32) =>
      if q1 ≤ 0 then (
        some v4) else (
        zlet (v4 + 1) fun (x3 : Int32) =>
        f_X12_fault_7 t0 v1 M K n v2 0 x3)) fun J40 =>
    if v1 ≤ v4 then (
      K v2 v3) else (
      zck (zin v4 (zn t0)) <|
      zlet (M.1 t0 v4.toNatClampNeg) fun (x6 : Int32) =>
      if v3 = 0 then (
        zlet (f_X12_isLetter x6 M) fun (q8 : Int32) =>
        if q8 = 0 then (
          if x6 = 40 then (
            if v2 = 4 then (
              some v4) else (
              zlet (v2 + 1) fun (x14 : Int32) =>
              zlet (v4 + 1) fun (x15 : Int32) =>
              f_X12_fault_7 t0 v1 M K n x14 v3 x15)) else (
            if x6 = 33 then (
              zlet (v4 + 1) fun (x12 : Int32) =>
              f_X12_fault_7 t0 v1 M K n v2 v3 x12) else (
              some v4))) else (
          zlet (v4 + 1) fun (x16 : Int32) =>
          f_X12_fault_7 t0 v1 M K n v2 1 x16)) else (
        if x6 = 41 then (
          if v2 ≤ 0 then (
            J40 v2 v4 x6) else (
            zlet (v2 + (-1)) fun (x19 : Int32) =>
            zlet (v4 + 1) fun (x20 : Int32) =>
            f_X12_fault_7 t0 v1 M K n x19 v3 x20)) else (
          J40 v2 v4 x6)))

def f_X12_fault (t0 : Nat) (v1 : Int32) (M : ZM) : Option Int32 :=
  f_X12_fault_7 t0 v1 M (fun (v2 : Int32) (v3 : Int32) =>
    if v3 = 0 then (
      some v1) else (
      if v2 = 0 then (
        some ((-9) : Int32)) else (
        some v1))) zN 0 0 0
set_option maxHeartbeats 4000000 in
set_option maxRecDepth 100000 in
theorem w_X12_fault_7 {G : ZG} (hG : zOk G) (S : zX p (zR 1) s m args c 0 0 cX12_fault 6 RX12) (hr : meth.sig.returnType = (Option.some FieldType.int)) (hlk : meth.locks = false) (t0 : Nat) (v1 : Int32) (k0 : zk G t0 = 0) (M : ZM)  {K : Int32 → Int32 → Option Int32} {res : Int32} (hK : ∀ (v2 : Int32) (v3 : Int32), K v2 v3 = some res → ∀ (H : Heap) (locs : List Loc) (ls : Array Slot), zWd G A s H locs M → lv_has ls 6 [(1, .int v1), (2, .int v2), (3, .int v3)] → W p l e (zR 1) s m args below meth c H locs 0 0 (zQ below G A (some (.int res)) M args s) (F0 m 106 ls [])) : ∀ (n : Nat) (v2 : Int32) (v3 : Int32) (v4 : Int32), f_X12_fault_7 t0 v1 M K n v2 v3 v4 = some res → ∀ (H : Heap) (locs : List Loc) (ls : Array Slot), zWd G A s H locs M → lv_has ls 6 [(0, .ref (za G t0)), (1, .int v1), (2, .int v2), (3, .int v3), (4, .int v4)] → W p l e (zR 1) s m args below meth c H locs 0 0 (zQ below G A (some (.int res)) M args s) (F0 m 7 ls []) := by
  have hx := S.1.1
  have hb := S.1.2.1
  have hown := S.1.2.2.2.1
  have hts := S.1.2.2.2.2
  intro n
  induction n with
  | zero =>
    intro v2 v3 v4 h
    rw [f_X12_fault_7] at h
    cases h
  | succ n ih =>
    intro v2 v3 v4 h H locs ls hw hl
    rw [f_X12_fault_7] at h
    obtain ⟨J40, hJ40, h⟩ := zlet_ex h
    have wJ40 : ∀ (v2 : Int32) (v4 : Int32) (v5 : Int32), J40 v2 v4 v5 = some res → ∀ (H : Heap) (locs : List Loc) (ls : Array Slot), zWd G A s H locs M → lv_has ls 6 [(0, .ref (za G t0)), (1, .int v1), (2, .int v2), (4, .int v4), (5, .int v5)] → W p l e (zR 1) s m args below meth c H locs 0 0 (zQ below G A (some (.int res)) M args s) (F0 m 40 ls []) := by
      intro v2 v4 v5 h H locs ls hw hl
      subst hJ40
      refine lv_iload hx hb dX12_fault_40 (lv_at hl 4 rfl) ?_
      obtain ⟨q1, eq1, h⟩ := zlet_ex h
      refine z_callS (As := [.int v5]) (rest := []) (rv := (some (.int q1))) (M1 := M) S hw (c_X12_kindOf l hG v5 M q1 eq1.symm) mv_X12_kindOf lk_X12_100 rfl rfl (Nat.le_of_ble_eq_true rfl) ⟨Nat.le_of_ble_eq_true rfl, Nat.le_of_ble_eq_true rfl⟩ hl.1 dX12_fault_42 (fun H locs hw => ?_)
      refine lv_if_le (tgt := 53) hx hb dX12_fault_45 (by decide) (fun c2 => ?_) (fun c2 => ?_)
      · have h := zif_t h c2
        refine lv_iload hx hb dX12_fault_53 (lv_at hl 3 rfl) ?_
        have h := Option.some.inj h
        subst h
        exact z_ret_i S hr hlk hw dX12_fault_55
      · have h := zif_f h c2
        refine lv_iconst (v := 0) hx hb dX12_fault_48 (by decide) ?_
        refine lv_istore_n (lv' := [(3, .int 0), (0, .ref (za G t0)), (1, .int v1), (2, .int v2), (4, .int v4), (5, .int v5)]) hx hb dX12_fault_49 rfl hl (by decide) rfl (fun ls hl => ?_)
        refine lv_goto (tgt := 100) hx hb dX12_fault_50 (by decide) ?_
        obtain ⟨x3, ex3, h⟩ := zlet_ex h
        refine lv_iinc (v := x3) (lv' := [(4, .int x3), (3, .int 0), (0, .ref (za G t0)), (1, .int v1), (2, .int v2), (5, .int v5)]) hx hb dX12_fault_100 hl (k := 4) rfl (by rw [ex3]; rfl) (by decide) rfl (fun ls hl => ?_)
        refine lv_goto (tgt := 7) hx hb dX12_fault_103 (by decide) ?_
        exact ih v2 0 x3 h H locs ls hw (lv_sub hl [2, 3, 4, 1, 0] rfl)
    refine lv_iload hx hb dX12_fault_7 (lv_at hl 4 rfl) ?_
    refine lv_iload_n hx hb dX12_fault_9 rfl (lv_at hl 1 rfl) ?_
    refine lv_icmp_ge (tgt := 106) hx hb dX12_fault_10 (by decide) (fun c4 => ?_) (fun c4 => ?_)
    · have h := zif_t h c4
      exact hK v2 v3 h H locs ls hw (lv_sub hl [1, 2, 3] rfl)
    · have h := zif_f h c4
      refine lv_aload_n hx hb dX12_fault_13 rfl (lv_at hl 0 rfl) ?_
      refine lv_iload hx hb dX12_fault_14 (lv_at hl 4 rfl) ?_
      obtain ⟨g5, h⟩ := zck_ex h
      refine z_iald S hw k0 g5 dX12_fault_16 ?_
      obtain ⟨x6, ex6, h⟩ := zlet_ex h
      refine lv_topiE ex6 ?_
      refine lv_istore (lv' := [(5, .int x6), (0, .ref (za G t0)), (1, .int v1), (2, .int v2), (3, .int v3), (4, .int v4)]) hx hb dX12_fault_17 hl (by decide) rfl (fun ls hl => ?_)
      refine lv_iload_n hx hb dX12_fault_19 rfl (lv_at hl 4 rfl) ?_
      refine lv_if_eq (tgt := 56) hx hb dX12_fault_20 (by decide) (fun c7 => ?_) (fun c7 => ?_)
      · have h := zif_t h c7
        refine lv_iload hx hb dX12_fault_56 (lv_at hl 0 rfl) ?_
        obtain ⟨q8, eq8, h⟩ := zlet_ex h
        refine z_callS (As := [.int x6]) (rest := []) (rv := (some (.int q8))) (M1 := M) S hw (c_X12_isLetter l hG x6 M q8 eq8.symm) mv_X12_isLetter lk_X12_103 rfl rfl (Nat.le_of_ble_eq_true rfl) ⟨Nat.le_of_ble_eq_true rfl, Nat.le_of_ble_eq_true rfl⟩ hl.1 dX12_fault_58 (fun H locs hw => ?_)
        refine lv_if_eq (tgt := 69) hx hb dX12_fault_61 (by decide) (fun c9 => ?_) (fun c9 => ?_)
        · have h := zif_t h c9
          refine lv_iload hx hb dX12_fault_69 (lv_at hl 0 rfl) ?_
          refine lv_bipush (v := 40) hx hb dX12_fault_71 (by decide) ?_
          refine lv_icmp_ne (tgt := 90) hx hb dX12_fault_73 (by decide) (fun c10 => ?_) (fun c10 => ?_)
          · have h := zif_f h c10
            refine lv_iload hx hb dX12_fault_90 (lv_at hl 0 rfl) ?_
            refine lv_bipush (v := 33) hx hb dX12_fault_92 (by decide) ?_
            refine lv_icmp_eq (tgt := 100) hx hb dX12_fault_94 (by decide) (fun c11 => ?_) (fun c11 => ?_)
            · have h := zif_t h c11
              obtain ⟨x12, ex12, h⟩ := zlet_ex h
              refine lv_iinc (v := x12) (lv' := [(4, .int x12), (5, .int x6), (0, .ref (za G t0)), (1, .int v1), (2, .int v2), (3, .int v3)]) hx hb dX12_fault_100 hl (k := 5) rfl (by rw [ex12]; rfl) (by decide) rfl (fun ls hl => ?_)
              refine lv_goto (tgt := 7) hx hb dX12_fault_103 (by decide) ?_
              exact ih v2 v3 x12 h H locs ls hw (lv_sub hl [2, 3, 4, 5, 0] rfl)
            · have h := zif_f h c11
              refine lv_iload hx hb dX12_fault_97 (lv_at hl 5 rfl) ?_
              have h := Option.some.inj h
              subst h
              exact z_ret_i S hr hlk hw dX12_fault_99
          · have h := zif_t h c10
            refine lv_iload_n hx hb dX12_fault_76 rfl (lv_at hl 3 rfl) ?_
            refine lv_iconst (v := 4) hx hb dX12_fault_77 (by decide) ?_
            refine lv_icmp_ne (tgt := 84) hx hb dX12_fault_78 (by decide) (fun c13 => ?_) (fun c13 => ?_)
            · have h := zif_f h c13
              obtain ⟨x14, ex14, h⟩ := zlet_ex h
              refine lv_iinc (v := x14) (lv' := [(2, .int x14), (5, .int x6), (0, .ref (za G t0)), (1, .int v1), (3, .int v3), (4, .int v4)]) hx hb dX12_fault_84 hl (k := 3) rfl (by rw [ex14]; rfl) (by decide) rfl (fun ls hl => ?_)
              refine lv_goto (tgt := 100) hx hb dX12_fault_87 (by decide) ?_
              obtain ⟨x15, ex15, h⟩ := zlet_ex h
              refine lv_iinc (v := x15) (lv' := [(4, .int x15), (2, .int x14), (5, .int x6), (0, .ref (za G t0)), (1, .int v1), (3, .int v3)]) hx hb dX12_fault_100 hl (k := 5) rfl (by rw [ex15]; rfl) (by decide) rfl (fun ls hl => ?_)
              refine lv_goto (tgt := 7) hx hb dX12_fault_103 (by decide) ?_
              exact ih x14 v3 x15 h H locs ls hw (lv_sub hl [3, 4, 1, 5, 0] rfl)
            · have h := zif_t h c13
              refine lv_iload hx hb dX12_fault_81 (lv_at hl 5 rfl) ?_
              have h := Option.some.inj h
              subst h
              exact z_ret_i S hr hlk hw dX12_fault_83
        · have h := zif_f h c9
          refine lv_iconst (v := 1) hx hb dX12_fault_64 (by decide) ?_
          refine lv_istore_n (lv' := [(3, .int 1), (5, .int x6), (0, .ref (za G t0)), (1, .int v1), (2, .int v2), (4, .int v4)]) hx hb dX12_fault_65 rfl hl (by decide) rfl (fun ls hl => ?_)
          refine lv_goto (tgt := 100) hx hb dX12_fault_66 (by decide) ?_
          obtain ⟨x16, ex16, h⟩ := zlet_ex h
          refine lv_iinc (v := x16) (lv' := [(4, .int x16), (3, .int 1), (5, .int x6), (0, .ref (za G t0)), (1, .int v1), (2, .int v2)]) hx hb dX12_fault_100 hl (k := 5) rfl (by rw [ex16]; rfl) (by decide) rfl (fun ls hl => ?_)
          refine lv_goto (tgt := 7) hx hb dX12_fault_103 (by decide) ?_
          exact ih v2 1 x16 h H locs ls hw (lv_sub hl [3, 4, 5, 1, 0] rfl)
      · have h := zif_f h c7
        refine lv_iload hx hb dX12_fault_23 (lv_at hl 0 rfl) ?_
        refine lv_bipush (v := 41) hx hb dX12_fault_25 (by decide) ?_
        refine lv_icmp_ne (tgt := 40) hx hb dX12_fault_27 (by decide) (fun c17 => ?_) (fun c17 => ?_)
        · have h := zif_f h c17
          exact wJ40 v2 v4 x6 h H locs ls hw (lv_sub hl [1, 2, 3, 5, 0] rfl)
        · have h := zif_t h c17
          refine lv_iload_n hx hb dX12_fault_30 rfl (lv_at hl 3 rfl) ?_
          refine lv_if_le (tgt := 40) hx hb dX12_fault_31 (by decide) (fun c18 => ?_) (fun c18 => ?_)
          · have h := zif_t h c18
            exact wJ40 v2 v4 x6 h H locs ls hw (lv_sub hl [1, 2, 3, 5, 0] rfl)
          · have h := zif_f h c18
            obtain ⟨x19, ex19, h⟩ := zlet_ex h
            refine lv_iinc (v := x19) (lv' := [(2, .int x19), (5, .int x6), (0, .ref (za G t0)), (1, .int v1), (3, .int v3), (4, .int v4)]) hx hb dX12_fault_34 hl (k := 3) rfl (by rw [ex19]; rfl) (by decide) rfl (fun ls hl => ?_)
            refine lv_goto (tgt := 100) hx hb dX12_fault_37 (by decide) ?_
            obtain ⟨x20, ex20, h⟩ := zlet_ex h
            refine lv_iinc (v := x20) (lv' := [(4, .int x20), (2, .int x19), (5, .int x6), (0, .ref (za G t0)), (1, .int v1), (3, .int v3)]) hx hb dX12_fault_100 hl (k := 5) rfl (by rw [ex20]; rfl) (by decide) rfl (fun ls hl => ?_)
            refine lv_goto (tgt := 7) hx hb dX12_fault_103 (by decide) ?_
            exact ih x19 v3 x20 h H locs ls hw (lv_sub hl [3, 4, 1, 5, 0] rfl)
set_option maxHeartbeats 4000000 in
set_option maxRecDepth 100000 in
theorem c_X12_fault (l : Launch) {G : ZG} (hG : zOk G) (t0 : Nat) (v1 : Int32) (k0 : zk G t0 = 0) (M : ZM) (res : Int32) (h : f_X12_fault t0 v1 M = some res) : zCt l yX12_fault cX12_fault 6 (Option.some FieldType.int) 1 G [.ref (za G t0), .int v1] M (some (.int res)) M := by
  refine zCt.mk (by decide +kernel) (Nat.le_of_ble_eq_true rfl) ?_
  intro p e s m args below meth c A H locs ls S hr hlk hw hl
  have S : zX p (zR 1) s m args c 0 0 cX12_fault 6 RX12 := S
  have hx := S.1.1
  have hb := S.1.2.1
  have hown := S.1.2.2.2.1
  have hts := S.1.2.2.2.2
  have hl : lv_has ls 6 [(0, .ref (za G t0)), (1, .int v1)] := hl
  unfold f_X12_fault at h
  refine lv_iconst (v := 0) hx hb dX12_fault_0 (by decide) ?_
  refine lv_istore_n (lv' := [(2, .int 0), (0, .ref (za G t0)), (1, .int v1)]) hx hb dX12_fault_1 rfl hl (by decide) rfl (fun ls hl => ?_)
  refine lv_iconst (v := 0) hx hb dX12_fault_2 (by decide) ?_
  refine lv_istore_n (lv' := [(3, .int 0), (2, .int 0), (0, .ref (za G t0)), (1, .int v1)]) hx hb dX12_fault_3 rfl hl (by decide) rfl (fun ls hl => ?_)
  refine lv_iconst (v := 0) hx hb dX12_fault_4 (by decide) ?_
  refine lv_istore (lv' := [(4, .int 0), (3, .int 0), (2, .int 0), (0, .ref (za G t0)), (1, .int v1)]) hx hb dX12_fault_5 hl (by decide) rfl (fun ls hl => ?_)
  refine w_X12_fault_7 hG S hr hlk t0 v1 k0 M (fun v2 v3 h H locs ls hw hl => ?_) zN 0 0 0 h H locs ls hw (lv_sub hl [3, 4, 2, 1, 0] rfl)
  refine lv_iload_n hx hb dX12_fault_106 rfl (lv_at hl 2 rfl) ?_
  refine lv_if_eq (tgt := 119) hx hb dX12_fault_107 (by decide) (fun c21 => ?_) (fun c21 => ?_)
  · have h := zif_t h c21
    refine lv_iload_n hx hb dX12_fault_119 rfl (lv_at hl 0 rfl) ?_
    have h := Option.some.inj h
    subst h
    exact z_ret_i S hr hlk hw dX12_fault_120
  · have h := zif_f h c21
    refine lv_iload_n hx hb dX12_fault_110 rfl (lv_at hl 1 rfl) ?_
    refine lv_if_ne (tgt := 119) hx hb dX12_fault_111 (by decide) (fun c22 => ?_) (fun c22 => ?_)
    · have h := zif_f h c22
      refine lv_iload_n hx hb dX12_fault_119 rfl (lv_at hl 0 rfl) ?_
      have h := Option.some.inj h
      subst h
      exact z_ret_i S hr hlk hw dX12_fault_120
    · have h := zif_t h c22
      refine lv_bipush (v := (-9)) hx hb dX12_fault_114 (by decide) ?_
      refine lv_goto (tgt := 120) hx hb dX12_fault_116 (by decide) ?_
      have h := Option.some.inj h
      subst h
      exact z_ret_i S hr hlk hw dX12_fault_120
def f_X12_mask_4 (v0 : Int32) (M : ZM) (K : Int64 → Option Int64) : Nat → Int64 → Int32 → Option Int64
  | 0, _, _ => none
  | n + 1, v1, v3 =>
    if 32 ≤ v3 then (
      K v1) else (
      if ((v3 >>> (v0 &&& 31)) &&& 1) = 1 then (
        zlet (v1 ||| (1 <<< (v3.toInt64 &&& 63))) fun (x5 : Int64) =>
        zlet (v3 + 1) fun (x6 : Int32) =>
        f_X12_mask_4 v0 M K n x5 x6) else (
        zlet (v1 ||| 0) fun (x3 : Int64) =>
        zlet (v3 + 1) fun (x4 : Int32) =>
        f_X12_mask_4 v0 M K n x3 x4))

def f_X12_mask (v0 : Int32) (M : ZM) : Option Int64 :=
  f_X12_mask_4 v0 M (fun (v1 : Int64) =>
    some v1) zN 0 0
set_option maxHeartbeats 4000000 in
set_option maxRecDepth 100000 in
theorem w_X12_mask_4 {G : ZG} (hG : zOk G) (S : zX p (zR 0) s m args c 0 0 cX12_mask 4 RX12) (hr : meth.sig.returnType = (Option.some FieldType.long)) (hlk : meth.locks = false) (v0 : Int32) (M : ZM)  {K : Int64 → Option Int64} {res : Int64} (hK : ∀ (v1 : Int64), K v1 = some res → ∀ (H : Heap) (locs : List Loc) (ls : Array Slot), zWd G A s H locs M → lv_has ls 4 [(1, .long v1)] → W p l e (zR 0) s m args below meth c H locs 0 0 (zQ below G A (some (.long res)) M args s) (F0 m 35 ls [])) : ∀ (n : Nat) (v1 : Int64) (v3 : Int32), f_X12_mask_4 v0 M K n v1 v3 = some res → ∀ (H : Heap) (locs : List Loc) (ls : Array Slot), zWd G A s H locs M → lv_has ls 4 [(0, .int v0), (1, .long v1), (3, .int v3)] → W p l e (zR 0) s m args below meth c H locs 0 0 (zQ below G A (some (.long res)) M args s) (F0 m 4 ls []) := by
  have hx := S.1.1
  have hb := S.1.2.1
  have hown := S.1.2.2.2.1
  have hts := S.1.2.2.2.2
  intro n
  induction n with
  | zero =>
    intro v1 v3 h
    rw [f_X12_mask_4] at h
    cases h
  | succ n ih =>
    intro v1 v3 h H locs ls hw hl
    rw [f_X12_mask_4] at h
    refine lv_iload_n hx hb dX12_mask_4 rfl (lv_at hl 2 rfl) ?_
    refine lv_bipush (v := 32) hx hb dX12_mask_5 (by decide) ?_
    refine lv_icmp_ge (tgt := 35) hx hb dX12_mask_7 (by decide) (fun c1 => ?_) (fun c1 => ?_)
    · have h := zif_t h c1
      exact hK v1 h H locs ls hw (lv_sub hl [1] rfl)
    · have h := zif_f h c1
      refine lv_lload_n hx hb dX12_mask_10 rfl (lv_at hl 1 rfl) ?_
      refine lv_iload_n hx hb dX12_mask_11 rfl (lv_at hl 2 rfl) ?_
      refine lv_iload_n hx hb dX12_mask_12 rfl (lv_at hl 0 rfl) ?_
      refine lv_ishr hx hb dX12_mask_13 ?_
      refine lv_iconst (v := 1) hx hb dX12_mask_14 (by decide) ?_
      refine lv_iand hx hb dX12_mask_15 ?_
      refine lv_iconst (v := 1) hx hb dX12_mask_16 (by decide) ?_
      refine lv_icmp_ne (tgt := 26) hx hb dX12_mask_17 (by decide) (fun c2 => ?_) (fun c2 => ?_)
      · have h := zif_f h c2
        refine lv_lconst (v := 0) hx hb dX12_mask_26 (by decide) ?_
        refine lv_lor hx hb dX12_mask_27 ?_
        obtain ⟨x3, ex3, h⟩ := zlet_ex h
        refine lv_toplE ex3 ?_
        refine lv_lstore_n (lv' := [(1, .long x3), (0, .int v0), (3, .int v3)]) hx hb dX12_mask_28 rfl hl (by decide) rfl (fun ls hl => ?_)
        obtain ⟨x4, ex4, h⟩ := zlet_ex h
        refine lv_iinc (v := x4) (lv' := [(3, .int x4), (1, .long x3), (0, .int v0)]) hx hb dX12_mask_29 hl (k := 2) rfl (by rw [ex4]; rfl) (by decide) rfl (fun ls hl => ?_)
        refine lv_goto (tgt := 4) hx hb dX12_mask_32 (by decide) ?_
        exact ih x3 x4 h H locs ls hw (lv_sub hl [2, 1, 0] rfl)
      · have h := zif_t h c2
        refine lv_lconst (v := 1) hx hb dX12_mask_20 (by decide) ?_
        refine lv_iload_n hx hb dX12_mask_21 rfl (lv_at hl 2 rfl) ?_
        refine lv_lshl (v := (1 <<< (v3.toInt64 &&& 63))) hx hb dX12_mask_22 rfl ?_
        refine lv_goto (tgt := 27) hx hb dX12_mask_23 (by decide) ?_
        refine lv_lor hx hb dX12_mask_27 ?_
        obtain ⟨x5, ex5, h⟩ := zlet_ex h
        refine lv_toplE ex5 ?_
        refine lv_lstore_n (lv' := [(1, .long x5), (0, .int v0), (3, .int v3)]) hx hb dX12_mask_28 rfl hl (by decide) rfl (fun ls hl => ?_)
        obtain ⟨x6, ex6, h⟩ := zlet_ex h
        refine lv_iinc (v := x6) (lv' := [(3, .int x6), (1, .long x5), (0, .int v0)]) hx hb dX12_mask_29 hl (k := 2) rfl (by rw [ex6]; rfl) (by decide) rfl (fun ls hl => ?_)
        refine lv_goto (tgt := 4) hx hb dX12_mask_32 (by decide) ?_
        exact ih x5 x6 h H locs ls hw (lv_sub hl [2, 1, 0] rfl)
set_option maxHeartbeats 4000000 in
set_option maxRecDepth 100000 in
theorem c_X12_mask (l : Launch) {G : ZG} (hG : zOk G) (v0 : Int32) (M : ZM) (res : Int64) (h : f_X12_mask v0 M = some res) : zCt l yX12_mask cX12_mask 4 (Option.some FieldType.long) 0 G [.int v0] M (some (.long res)) M := by
  refine zCt.mk (by decide +kernel) (Nat.le_of_ble_eq_true rfl) ?_
  intro p e s m args below meth c A H locs ls S hr hlk hw hl
  have S : zX p (zR 0) s m args c 0 0 cX12_mask 4 RX12 := S
  have hx := S.1.1
  have hb := S.1.2.1
  have hown := S.1.2.2.2.1
  have hts := S.1.2.2.2.2
  have hl : lv_has ls 4 [(0, .int v0)] := hl
  unfold f_X12_mask at h
  refine lv_lconst (v := 0) hx hb dX12_mask_0 (by decide) ?_
  refine lv_lstore_n (lv' := [(1, .long 0), (0, .int v0)]) hx hb dX12_mask_1 rfl hl (by decide) rfl (fun ls hl => ?_)
  refine lv_iconst (v := 0) hx hb dX12_mask_2 (by decide) ?_
  refine lv_istore_n (lv' := [(3, .int 0), (1, .long 0), (0, .int v0)]) hx hb dX12_mask_3 rfl hl (by decide) rfl (fun ls hl => ?_)
  refine w_X12_mask_4 hG S hr hlk v0 M (fun v1 h H locs ls hw hl => ?_) zN 0 0 h H locs ls hw (lv_sub hl [2, 1, 0] rfl)
  refine lv_lload_n hx hb dX12_mask_35 rfl (lv_at hl 0 rfl) ?_
  have h := Option.some.inj h
  subst h
  exact z_ret_l S hr hlk hw dX12_mask_36
def f_X12_waysOf (t0 : Nat) (v1 : Int32) (v2 : Int32) (M : ZM) : Option Int64 :=
  zck (zin ((22 * v1) + v2) (zn (zr t0 18))) <|
  some (M.2 (zr t0 18) ((22 * v1) + v2).toNatClampNeg)
set_option maxHeartbeats 4000000 in
set_option maxRecDepth 100000 in
theorem c_X12_waysOf (l : Launch) {G : ZG} (hG : zOk G) (t0 : Nat) (v1 : Int32) (v2 : Int32) (k0 : zk G t0 = 22) (M : ZM) (res : Int64) (h : f_X12_waysOf t0 v1 v2 M = some res) : zCt l yX12_waysOf cX12_waysOf 3 (Option.some FieldType.long) 0 G [.ref (za G t0), .int v1, .int v2] M (some (.long res)) M := by
  refine zCt.mk (by decide +kernel) (Nat.le_of_ble_eq_true rfl) ?_
  intro p e s m args below meth c A H locs ls S hr hlk hw hl
  have S : zX p (zR 0) s m args c 0 0 cX12_waysOf 3 RX12 := S
  have hx := S.1.1
  have hb := S.1.2.1
  have hown := S.1.2.2.2.1
  have hts := S.1.2.2.2.2
  have hl : lv_has ls 3 [(0, .ref (za G t0)), (1, .int v1), (2, .int v2)] := hl
  unfold f_X12_waysOf at h
  refine lv_aload_n hx hb dX12_waysOf_0 rfl (lv_at hl 0 rfl) ?_
  refine z_getR S hw k0 fl_X12_40 rfl dX12_waysOf_1 ?_
  refine lv_bipush (v := 22) hx hb dX12_waysOf_4 (by decide) ?_
  refine lv_iload_n hx hb dX12_waysOf_6 rfl (lv_at hl 1 rfl) ?_
  refine lv_imul hx hb dX12_waysOf_7 ?_
  refine lv_iload_n hx hb dX12_waysOf_8 rfl (lv_at hl 2 rfl) ?_
  refine lv_iadd hx hb dX12_waysOf_9 ?_
  obtain ⟨g1, h⟩ := zck_ex h
  refine z_lald S hw (kr_12_18 hG k0) g1 dX12_waysOf_10 ?_
  have h := Option.some.inj h
  subst h
  exact z_ret_l S hr hlk hw dX12_waysOf_11
def f_X12_isBracketed (t0 : Nat) (v1 : Int32) (v2 : Int32) (M : ZM) : Option Int32 :=
  zck (zin v1 (zn (zr t0 1))) <|
  if (M.1 (zr t0 1) v1.toNatClampNeg) = 40 then (
    zck (zin (v2 - 1) (zn (zr t0 1))) <|
    if (M.1 (zr t0 1) (v2 - 1).toNatClampNeg) = 41 then (
      if (v2 - v1) ≤ 2 then (
        some (0 : Int32)) else (
        some (1 : Int32))) else (
      some (0 : Int32))) else (
    some (0 : Int32))
set_option maxHeartbeats 4000000 in
set_option maxRecDepth 100000 in
theorem c_X12_isBracketed (l : Launch) {G : ZG} (hG : zOk G) (t0 : Nat) (v1 : Int32) (v2 : Int32) (k0 : zk G t0 = 22) (M : ZM) (res : Int32) (h : f_X12_isBracketed t0 v1 v2 M = some res) : zCt l yX12_isBracketed cX12_isBracketed 3 (Option.some FieldType.boolean) 0 G [.ref (za G t0), .int v1, .int v2] M (some (.int res)) M := by
  refine zCt.mk (by decide +kernel) (Nat.le_of_ble_eq_true rfl) ?_
  intro p e s m args below meth c A H locs ls S hr hlk hw hl
  have S : zX p (zR 0) s m args c 0 0 cX12_isBracketed 3 RX12 := S
  have hx := S.1.1
  have hb := S.1.2.1
  have hown := S.1.2.2.2.1
  have hts := S.1.2.2.2.2
  have hl : lv_has ls 3 [(0, .ref (za G t0)), (1, .int v1), (2, .int v2)] := hl
  unfold f_X12_isBracketed at h
  refine lv_aload_n hx hb dX12_isBracketed_0 rfl (lv_at hl 0 rfl) ?_
  refine z_getR S hw k0 fl_X12_13 rfl dX12_isBracketed_1 ?_
  refine lv_iload_n hx hb dX12_isBracketed_4 rfl (lv_at hl 1 rfl) ?_
  obtain ⟨g1, h⟩ := zck_ex h
  refine z_iald S hw (kr_12_1 hG k0) g1 dX12_isBracketed_5 ?_
  refine lv_bipush (v := 40) hx hb dX12_isBracketed_6 (by decide) ?_
  refine lv_icmp_ne (tgt := 35) hx hb dX12_isBracketed_8 (by decide) (fun c2 => ?_) (fun c2 => ?_)
  · have h := zif_f h c2
    refine lv_iconst (v := 0) hx hb dX12_isBracketed_35 (by decide) ?_
    have h := Option.some.inj h
    subst h
    exact z_ret_z S hr hlk (Or.inl rfl) hw dX12_isBracketed_36
  · have h := zif_t h c2
    refine lv_aload_n hx hb dX12_isBracketed_11 rfl (lv_at hl 0 rfl) ?_
    refine z_getR S hw k0 fl_X12_13 rfl dX12_isBracketed_12 ?_
    refine lv_iload_n hx hb dX12_isBracketed_15 rfl (lv_at hl 2 rfl) ?_
    refine lv_iconst (v := 1) hx hb dX12_isBracketed_16 (by decide) ?_
    refine lv_isub hx hb dX12_isBracketed_17 ?_
    obtain ⟨g3, h⟩ := zck_ex h
    refine z_iald S hw (kr_12_1 hG k0) g3 dX12_isBracketed_18 ?_
    refine lv_bipush (v := 41) hx hb dX12_isBracketed_19 (by decide) ?_
    refine lv_icmp_ne (tgt := 35) hx hb dX12_isBracketed_21 (by decide) (fun c4 => ?_) (fun c4 => ?_)
    · have h := zif_f h c4
      refine lv_iconst (v := 0) hx hb dX12_isBracketed_35 (by decide) ?_
      have h := Option.some.inj h
      subst h
      exact z_ret_z S hr hlk (Or.inl rfl) hw dX12_isBracketed_36
    · have h := zif_t h c4
      refine lv_iload_n hx hb dX12_isBracketed_24 rfl (lv_at hl 2 rfl) ?_
      refine lv_iload_n hx hb dX12_isBracketed_25 rfl (lv_at hl 1 rfl) ?_
      refine lv_isub hx hb dX12_isBracketed_26 ?_
      refine lv_iconst (v := 2) hx hb dX12_isBracketed_27 (by decide) ?_
      refine lv_icmp_le (tgt := 35) hx hb dX12_isBracketed_28 (by decide) (fun c5 => ?_) (fun c5 => ?_)
      · have h := zif_t h c5
        refine lv_iconst (v := 0) hx hb dX12_isBracketed_35 (by decide) ?_
        have h := Option.some.inj h
        subst h
        exact z_ret_z S hr hlk (Or.inl rfl) hw dX12_isBracketed_36
      · have h := zif_f h c5
        refine lv_iconst (v := 1) hx hb dX12_isBracketed_31 (by decide) ?_
        refine lv_goto (tgt := 36) hx hb dX12_isBracketed_32 (by decide) ?_
        have h := Option.some.inj h
        subst h
        exact z_ret_z S hr hlk (Or.inr rfl) hw dX12_isBracketed_36
def f_X12_firstWays (t0 : Nat) (v1 : Int32) (v2 : Int32) (M : ZM) : Option Int64 :=
  if (v2 - v1) = 1 then (
    zck (zin v1 (zn (zr t0 1))) <|
    zlet (f_X12_isLetter (M.1 (zr t0 1) v1.toNatClampNeg) M) fun (q9 : Int32) =>
    if q9 = 0 then (
      some (0 : Int64)) else (
      some (1 : Int64))) else (
    zck (zin v1 (zn (zr t0 1))) <|
    if (M.1 (zr t0 1) v1.toNatClampNeg) = 33 then (
      (f_X12_waysOf t0 (v1 + 1) v2 M).bind fun (q7 : Int64) =>
      some q7) else (
      (f_X12_isBracketed t0 v1 v2 M).bind fun (q4 : Int32) =>
      if q4 = 0 then (
        some (0 : Int64)) else (
        (f_X12_waysOf t0 (v1 + 1) (v2 - 1) M).bind fun (q6 : Int64) =>
        some q6)))
set_option maxHeartbeats 4000000 in
set_option maxRecDepth 100000 in
theorem c_X12_firstWays (l : Launch) {G : ZG} (hG : zOk G) (t0 : Nat) (v1 : Int32) (v2 : Int32) (k0 : zk G t0 = 22) (M : ZM) (res : Int64) (h : f_X12_firstWays t0 v1 v2 M = some res) : zCt l yX12_firstWays cX12_firstWays 3 (Option.some FieldType.long) 1 G [.ref (za G t0), .int v1, .int v2] M (some (.long res)) M := by
  refine zCt.mk (by decide +kernel) (Nat.le_of_ble_eq_true rfl) ?_
  intro p e s m args below meth c A H locs ls S hr hlk hw hl
  have S : zX p (zR 1) s m args c 0 0 cX12_firstWays 3 RX12 := S
  have hx := S.1.1
  have hb := S.1.2.1
  have hown := S.1.2.2.2.1
  have hts := S.1.2.2.2.2
  have hl : lv_has ls 3 [(0, .ref (za G t0)), (1, .int v1), (2, .int v2)] := hl
  unfold f_X12_firstWays at h
  refine lv_iload_n hx hb dX12_firstWays_0 rfl (lv_at hl 2 rfl) ?_
  refine lv_iload_n hx hb dX12_firstWays_1 rfl (lv_at hl 1 rfl) ?_
  refine lv_isub hx hb dX12_firstWays_2 ?_
  refine lv_iconst (v := 1) hx hb dX12_firstWays_3 (by decide) ?_
  refine lv_icmp_ne (tgt := 25) hx hb dX12_firstWays_4 (by decide) (fun c1 => ?_) (fun c1 => ?_)
  · have h := zif_f h c1
    refine lv_aload_n hx hb dX12_firstWays_25 rfl (lv_at hl 0 rfl) ?_
    refine z_getR S hw k0 fl_X12_13 rfl dX12_firstWays_26 ?_
    refine lv_iload_n hx hb dX12_firstWays_29 rfl (lv_at hl 1 rfl) ?_
    obtain ⟨g2, h⟩ := zck_ex h
    refine z_iald S hw (kr_12_1 hG k0) g2 dX12_firstWays_30 ?_
    refine lv_bipush (v := 33) hx hb dX12_firstWays_31 (by decide) ?_
    refine lv_icmp_ne (tgt := 45) hx hb dX12_firstWays_33 (by decide) (fun c3 => ?_) (fun c3 => ?_)
    · have h := zif_f h c3
      refine lv_aload_n hx hb dX12_firstWays_45 rfl (lv_at hl 0 rfl) ?_
      refine lv_iload_n hx hb dX12_firstWays_46 rfl (lv_at hl 1 rfl) ?_
      refine lv_iload_n hx hb dX12_firstWays_47 rfl (lv_at hl 2 rfl) ?_
      obtain ⟨q4, eq4, h⟩ := Option.bind_eq_some_iff.mp h
      refine z_callV (ci := 12) (As := [.int v1, .int v2]) (rest := []) (rv := (some (.int q4))) (M1 := M) S hw (c_X12_isBracketed l hG t0 v1 v2 k0 M q4 eq4) mv_X12_isBracketed lk_X12_119 k0 ⟨_, _, rfl⟩ (by decide) rfl rfl (Nat.le_of_ble_eq_true rfl) ⟨Nat.le_of_ble_eq_true rfl, Nat.le_of_ble_eq_true rfl⟩ hl.1 dX12_firstWays_48 (fun H locs hw => ?_)
      refine lv_if_eq (tgt := 67) hx hb dX12_firstWays_51 (by decide) (fun c5 => ?_) (fun c5 => ?_)
      · have h := zif_t h c5
        refine lv_lconst (v := 0) hx hb dX12_firstWays_67 (by decide) ?_
        have h := Option.some.inj h
        subst h
        exact z_ret_l S hr hlk hw dX12_firstWays_68
      · have h := zif_f h c5
        refine lv_aload_n hx hb dX12_firstWays_54 rfl (lv_at hl 0 rfl) ?_
        refine lv_iload_n hx hb dX12_firstWays_55 rfl (lv_at hl 1 rfl) ?_
        refine lv_iconst (v := 1) hx hb dX12_firstWays_56 (by decide) ?_
        refine lv_iadd hx hb dX12_firstWays_57 ?_
        refine lv_iload_n hx hb dX12_firstWays_58 rfl (lv_at hl 2 rfl) ?_
        refine lv_iconst (v := 1) hx hb dX12_firstWays_59 (by decide) ?_
        refine lv_isub hx hb dX12_firstWays_60 ?_
        obtain ⟨q6, eq6, h⟩ := Option.bind_eq_some_iff.mp h
        refine z_callV (ci := 12) (As := [.int (v1 + 1), .int (v2 - 1)]) (rest := []) (rv := (some (.long q6))) (M1 := M) S hw (c_X12_waysOf l hG t0 (v1 + 1) (v2 - 1) k0 M q6 eq6) mv_X12_waysOf lk_X12_115 k0 ⟨_, _, rfl⟩ (by decide) rfl rfl (Nat.le_of_ble_eq_true rfl) ⟨Nat.le_of_ble_eq_true rfl, Nat.le_of_ble_eq_true rfl⟩ hl.1 dX12_firstWays_61 (fun H locs hw => ?_)
        refine lv_goto (tgt := 68) hx hb dX12_firstWays_64 (by decide) ?_
        have h := Option.some.inj h
        subst h
        exact z_ret_l S hr hlk hw dX12_firstWays_68
    · have h := zif_t h c3
      refine lv_aload_n hx hb dX12_firstWays_36 rfl (lv_at hl 0 rfl) ?_
      refine lv_iload_n hx hb dX12_firstWays_37 rfl (lv_at hl 1 rfl) ?_
      refine lv_iconst (v := 1) hx hb dX12_firstWays_38 (by decide) ?_
      refine lv_iadd hx hb dX12_firstWays_39 ?_
      refine lv_iload_n hx hb dX12_firstWays_40 rfl (lv_at hl 2 rfl) ?_
      obtain ⟨q7, eq7, h⟩ := Option.bind_eq_some_iff.mp h
      refine z_callV (ci := 12) (As := [.int (v1 + 1), .int v2]) (rest := []) (rv := (some (.long q7))) (M1 := M) S hw (c_X12_waysOf l hG t0 (v1 + 1) v2 k0 M q7 eq7) mv_X12_waysOf lk_X12_115 k0 ⟨_, _, rfl⟩ (by decide) rfl rfl (Nat.le_of_ble_eq_true rfl) ⟨Nat.le_of_ble_eq_true rfl, Nat.le_of_ble_eq_true rfl⟩ hl.1 dX12_firstWays_41 (fun H locs hw => ?_)
      have h := Option.some.inj h
      subst h
      exact z_ret_l S hr hlk hw dX12_firstWays_44
  · have h := zif_t h c1
    refine lv_aload_n hx hb dX12_firstWays_7 rfl (lv_at hl 0 rfl) ?_
    refine z_getR S hw k0 fl_X12_13 rfl dX12_firstWays_8 ?_
    refine lv_iload_n hx hb dX12_firstWays_11 rfl (lv_at hl 1 rfl) ?_
    obtain ⟨g8, h⟩ := zck_ex h
    refine z_iald S hw (kr_12_1 hG k0) g8 dX12_firstWays_12 ?_
    obtain ⟨q9, eq9, h⟩ := zlet_ex h
    refine z_callS (As := [.int (M.1 (zr t0 1) v1.toNatClampNeg)]) (rest := []) (rv := (some (.int q9))) (M1 := M) S hw (c_X12_isLetter l hG (M.1 (zr t0 1) v1.toNatClampNeg) M q9 eq9.symm) mv_X12_isLetter lk_X12_103 rfl rfl (Nat.le_of_ble_eq_true rfl) ⟨Nat.le_of_ble_eq_true rfl, Nat.le_of_ble_eq_true rfl⟩ hl.1 dX12_firstWays_13 (fun H locs hw => ?_)
    refine lv_if_eq (tgt := 23) hx hb dX12_firstWays_16 (by decide) (fun c10 => ?_) (fun c10 => ?_)
    · have h := zif_t h c10
      refine lv_lconst (v := 0) hx hb dX12_firstWays_23 (by decide) ?_
      have h := Option.some.inj h
      subst h
      exact z_ret_l S hr hlk hw dX12_firstWays_24
    · have h := zif_f h c10
      refine lv_lconst (v := 1) hx hb dX12_firstWays_19 (by decide) ?_
      refine lv_goto (tgt := 24) hx hb dX12_firstWays_20 (by decide) ?_
      have h := Option.some.inj h
      subst h
      exact z_ret_l S hr hlk hw dX12_firstWays_24
def f_X12_findWays_39 (t0 : Nat) (v1 : Int32) (v2 : Int32) (v3 : Int32) (K : Int64 → ZM → Option ZM) : Nat → Int64 → Int32 → ZM → Option ZM
  | 0, _, _, _ => none
  | n + 1, v4, v6, M =>
    if (v3 - 1) ≤ v6 then (
      K v4 M) else (
      zck (zin v6 (zn (zr t0 1))) <|
      zlet (f_X12_kindOf (M.1 (zr t0 1) v6.toNatClampNeg) M) fun (q8 : Int32) =>
      if q8 ≤ 0 then (
        zlet (v6 + 1) fun (x10 : Int32) =>
        f_X12_findWays_39 t0 v1 v2 v3 K n v4 x10 M) else (
        (f_X12_waysOf t0 v2 v6 M).bind fun (q11 : Int64) =>
        (f_X12_waysOf t0 (v6 + 1) v3 M).bind fun (q12 : Int64) =>
        zlet (v4 + (q11 * q12)) fun (x13 : Int64) =>
        zlet (v6 + 1) fun (x14 : Int32) =>
        f_X12_findWays_39 t0 v1 v2 v3 K n x13 x14 M))

def f_X12_findWays_12 (t0 : Nat) (v1 : Int32) (K : ZM → Option ZM) : Nat → Int32 → ZM → Option ZM
  | 0, _, _ => none
  | n + 1, v2, M =>
    if (M.1 t0 10) < (v2 + v1) then (
      K M) else (
      zlet (v2 + v1) fun (x3 : Int32) =>
      (f_X12_firstWays t0 v2 x3 M).bind fun (q4 : Int64) =>
      zlet (v2 + 1) fun (x5 : Int32) =>
      f_X12_findWays_39 t0 v1 v2 x3 (fun (v4 : Int64) (M : ZM) =>
        zck (zin ((22 * v2) + x3) (zn (zr t0 18))) <|
        zlet (zl M (zr t0 18) ((22 * v2) + x3).toNatClampNeg v4) fun (M16 : ZM) =>
        zlet (v2 + 1) fun (x17 : Int32) =>
        f_X12_findWays_12 t0 v1 K n x17 M16) zN q4 x5 M)

def f_X12_findWays_2 (t0 : Nat) (K : ZM → Option ZM) : Nat → Int32 → ZM → Option ZM
  | 0, _, _ => none
  | n + 1, v1, M =>
    if (M.1 t0 10) < v1 then (
      K M) else (
      f_X12_findWays_12 t0 v1 (fun (M : ZM) =>
        zlet (v1 + 1) fun (x18 : Int32) =>
        f_X12_findWays_2 t0 K n x18 M) zN 0 M)

def f_X12_findWays (t0 : Nat) (M : ZM) : Option ZM :=
  f_X12_findWays_2 t0 (fun (M : ZM) =>
    some M) zN 1 M
set_option maxHeartbeats 4000000 in
set_option maxRecDepth 100000 in
theorem w_X12_findWays_39 {G : ZG} (hG : zOk G) (S : zX p (zR 2) s m args c 0 0 cX12_findWays 7 RX12) (hr : meth.sig.returnType = none) (hlk : meth.locks = false) (t0 : Nat) (v1 : Int32) (v2 : Int32) (v3 : Int32) (k0 : zk G t0 = 22)  {K : Int64 → ZM → Option ZM} {res : ZM} (hK : ∀ (v4 : Int64) (M : ZM), K v4 M = some res → ∀ (H : Heap) (locs : List Loc) (ls : Array Slot), zWd G A s H locs M → lv_has ls 7 [(0, .ref (za G t0)), (1, .int v1), (2, .int v2), (3, .int v3), (4, .long v4)] → W p l e (zR 2) s m args below meth c H locs 0 0 (zQ below G A none res args s) (F0 m 88 ls [])) : ∀ (n : Nat) (v4 : Int64) (v6 : Int32) (M : ZM), f_X12_findWays_39 t0 v1 v2 v3 K n v4 v6 M = some res → ∀ (H : Heap) (locs : List Loc) (ls : Array Slot), zWd G A s H locs M → lv_has ls 7 [(0, .ref (za G t0)), (1, .int v1), (2, .int v2), (3, .int v3), (4, .long v4), (6, .int v6)] → W p l e (zR 2) s m args below meth c H locs 0 0 (zQ below G A none res args s) (F0 m 39 ls []) := by
  have hx := S.1.1
  have hb := S.1.2.1
  have hown := S.1.2.2.2.1
  have hts := S.1.2.2.2.2
  intro n
  induction n with
  | zero =>
    intro v4 v6 M h
    rw [f_X12_findWays_39] at h
    cases h
  | succ n ih =>
    intro v4 v6 M h H locs ls hw hl
    rw [f_X12_findWays_39] at h
    refine lv_iload hx hb dX12_findWays_39 (lv_at hl 5 rfl) ?_
    refine lv_iload_n hx hb dX12_findWays_41 rfl (lv_at hl 3 rfl) ?_
    refine lv_iconst (v := 1) hx hb dX12_findWays_42 (by decide) ?_
    refine lv_isub hx hb dX12_findWays_43 ?_
    refine lv_icmp_ge (tgt := 88) hx hb dX12_findWays_44 (by decide) (fun c6 => ?_) (fun c6 => ?_)
    · have h := zif_t h c6
      exact hK v4 M h H locs ls hw (lv_sub hl [0, 1, 2, 3, 4] rfl)
    · have h := zif_f h c6
      refine lv_aload_n hx hb dX12_findWays_47 rfl (lv_at hl 0 rfl) ?_
      refine z_getR S hw k0 fl_X12_13 rfl dX12_findWays_48 ?_
      refine lv_iload hx hb dX12_findWays_51 (lv_at hl 5 rfl) ?_
      obtain ⟨g7, h⟩ := zck_ex h
      refine z_iald S hw (kr_12_1 hG k0) g7 dX12_findWays_53 ?_
      obtain ⟨q8, eq8, h⟩ := zlet_ex h
      refine z_callS (As := [.int (M.1 (zr t0 1) v6.toNatClampNeg)]) (rest := []) (rv := (some (.int q8))) (M1 := M) S hw (c_X12_kindOf l hG (M.1 (zr t0 1) v6.toNatClampNeg) M q8 eq8.symm) mv_X12_kindOf lk_X12_100 rfl rfl (Nat.le_of_ble_eq_true rfl) ⟨Nat.le_of_ble_eq_true rfl, Nat.le_of_ble_eq_true rfl⟩ hl.1 dX12_findWays_54 (fun H locs hw => ?_)
      refine lv_if_le (tgt := 82) hx hb dX12_findWays_57 (by decide) (fun c9 => ?_) (fun c9 => ?_)
      · have h := zif_t h c9
        obtain ⟨x10, ex10, h⟩ := zlet_ex h
        refine lv_iinc (v := x10) (lv' := [(6, .int x10), (0, .ref (za G t0)), (1, .int v1), (2, .int v2), (3, .int v3), (4, .long v4)]) hx hb dX12_findWays_82 hl (k := 5) rfl (by rw [ex10]; rfl) (by decide) rfl (fun ls hl => ?_)
        refine lv_goto (tgt := 39) hx hb dX12_findWays_85 (by decide) ?_
        exact ih v4 x10 M h H locs ls hw (lv_sub hl [1, 2, 3, 4, 5, 0] rfl)
      · have h := zif_f h c9
        refine lv_lload hx hb dX12_findWays_60 (lv_at hl 4 rfl) ?_
        refine lv_aload_n hx hb dX12_findWays_62 rfl (lv_at hl 0 rfl) ?_
        refine lv_iload_n hx hb dX12_findWays_63 rfl (lv_at hl 2 rfl) ?_
        refine lv_iload hx hb dX12_findWays_64 (lv_at hl 5 rfl) ?_
        obtain ⟨q11, eq11, h⟩ := Option.bind_eq_some_iff.mp h
        refine z_callV (ci := 12) (As := [.int v2, .int v6]) (rest := [.long v4]) (rv := (some (.long q11))) (M1 := M) S hw (c_X12_waysOf l hG t0 v2 v6 k0 M q11 eq11) mv_X12_waysOf lk_X12_115 k0 ⟨_, _, rfl⟩ (by decide) rfl rfl (Nat.le_of_ble_eq_true rfl) ⟨Nat.le_of_ble_eq_true rfl, Nat.le_of_ble_eq_true rfl⟩ hl.1 dX12_findWays_66 (fun H locs hw => ?_)
        refine lv_aload_n hx hb dX12_findWays_69 rfl (lv_at hl 0 rfl) ?_
        refine lv_iload hx hb dX12_findWays_70 (lv_at hl 5 rfl) ?_
        refine lv_iconst (v := 1) hx hb dX12_findWays_72 (by decide) ?_
        refine lv_iadd hx hb dX12_findWays_73 ?_
        refine lv_iload_n hx hb dX12_findWays_74 rfl (lv_at hl 3 rfl) ?_
        obtain ⟨q12, eq12, h⟩ := Option.bind_eq_some_iff.mp h
        refine z_callV (ci := 12) (As := [.int (v6 + 1), .int v3]) (rest := [.long q11, .long v4]) (rv := (some (.long q12))) (M1 := M) S hw (c_X12_waysOf l hG t0 (v6 + 1) v3 k0 M q12 eq12) mv_X12_waysOf lk_X12_115 k0 ⟨_, _, rfl⟩ (by decide) rfl rfl (Nat.le_of_ble_eq_true rfl) ⟨Nat.le_of_ble_eq_true rfl, Nat.le_of_ble_eq_true rfl⟩ hl.1 dX12_findWays_75 (fun H locs hw => ?_)
        refine lv_lmul hx hb dX12_findWays_78 ?_
        refine lv_ladd hx hb dX12_findWays_79 ?_
        obtain ⟨x13, ex13, h⟩ := zlet_ex h
        refine lv_toplE ex13 ?_
        refine lv_lstore (lv' := [(4, .long x13), (0, .ref (za G t0)), (1, .int v1), (2, .int v2), (3, .int v3), (6, .int v6)]) hx hb dX12_findWays_80 hl (by decide) rfl (fun ls hl => ?_)
        obtain ⟨x14, ex14, h⟩ := zlet_ex h
        refine lv_iinc (v := x14) (lv' := [(6, .int x14), (4, .long x13), (0, .ref (za G t0)), (1, .int v1), (2, .int v2), (3, .int v3)]) hx hb dX12_findWays_82 hl (k := 5) rfl (by rw [ex14]; rfl) (by decide) rfl (fun ls hl => ?_)
        refine lv_goto (tgt := 39) hx hb dX12_findWays_85 (by decide) ?_
        exact ih x13 x14 M h H locs ls hw (lv_sub hl [2, 3, 4, 5, 1, 0] rfl)
set_option maxHeartbeats 4000000 in
set_option maxRecDepth 100000 in
theorem w_X12_findWays_12 {G : ZG} (hG : zOk G) (S : zX p (zR 2) s m args c 0 0 cX12_findWays 7 RX12) (hr : meth.sig.returnType = none) (hlk : meth.locks = false) (t0 : Nat) (v1 : Int32) (k0 : zk G t0 = 22)  {K : ZM → Option ZM} {res : ZM} (hK : ∀  (M : ZM), K M = some res → ∀ (H : Heap) (locs : List Loc) (ls : Array Slot), zWd G A s H locs M → lv_has ls 7 [(0, .ref (za G t0)), (1, .int v1)] → W p l e (zR 2) s m args below meth c H locs 0 0 (zQ below G A none res args s) (F0 m 107 ls [])) : ∀ (n : Nat) (v2 : Int32) (M : ZM), f_X12_findWays_12 t0 v1 K n v2 M = some res → ∀ (H : Heap) (locs : List Loc) (ls : Array Slot), zWd G A s H locs M → lv_has ls 7 [(0, .ref (za G t0)), (1, .int v1), (2, .int v2)] → W p l e (zR 2) s m args below meth c H locs 0 0 (zQ below G A none res args s) (F0 m 12 ls []) := by
  have hx := S.1.1
  have hb := S.1.2.1
  have hown := S.1.2.2.2.1
  have hts := S.1.2.2.2.2
  intro n
  induction n with
  | zero =>
    intro v2 M h
    rw [f_X12_findWays_12] at h
    cases h
  | succ n ih =>
    intro v2 M h H locs ls hw hl
    rw [f_X12_findWays_12] at h
    refine lv_iload_n hx hb dX12_findWays_12 rfl (lv_at hl 2 rfl) ?_
    refine lv_iload_n hx hb dX12_findWays_13 rfl (lv_at hl 1 rfl) ?_
    refine lv_iadd hx hb dX12_findWays_14 ?_
    refine lv_aload_n hx hb dX12_findWays_15 rfl (lv_at hl 0 rfl) ?_
    refine z_getI S hw k0 fl_X12_85 rfl dX12_findWays_16 ?_
    refine lv_icmp_gt (tgt := 107) hx hb dX12_findWays_19 (by decide) (fun c2 => ?_) (fun c2 => ?_)
    · have h := zif_t h c2
      exact hK M h H locs ls hw (lv_sub hl [0, 1] rfl)
    · have h := zif_f h c2
      refine lv_iload_n hx hb dX12_findWays_22 rfl (lv_at hl 2 rfl) ?_
      refine lv_iload_n hx hb dX12_findWays_23 rfl (lv_at hl 1 rfl) ?_
      refine lv_iadd hx hb dX12_findWays_24 ?_
      obtain ⟨x3, ex3, h⟩ := zlet_ex h
      refine lv_topiE ex3 ?_
      refine lv_istore_n (lv' := [(3, .int x3), (0, .ref (za G t0)), (1, .int v1), (2, .int v2)]) hx hb dX12_findWays_25 rfl hl (by decide) rfl (fun ls hl => ?_)
      refine lv_aload_n hx hb dX12_findWays_26 rfl (lv_at hl 1 rfl) ?_
      refine lv_iload_n hx hb dX12_findWays_27 rfl (lv_at hl 3 rfl) ?_
      refine lv_iload_n hx hb dX12_findWays_28 rfl (lv_at hl 0 rfl) ?_
      obtain ⟨q4, eq4, h⟩ := Option.bind_eq_some_iff.mp h
      refine z_callV (ci := 12) (As := [.int v2, .int x3]) (rest := []) (rv := (some (.long q4))) (M1 := M) S hw (c_X12_firstWays l hG t0 v2 x3 k0 M q4 eq4) mv_X12_firstWays lk_X12_122 k0 ⟨_, _, rfl⟩ (by decide) rfl rfl (Nat.le_of_ble_eq_true rfl) ⟨Nat.le_of_ble_eq_true rfl, Nat.le_of_ble_eq_true rfl⟩ hl.1 dX12_findWays_29 (fun H locs hw => ?_)
      refine lv_lstore (lv' := [(4, .long q4), (3, .int x3), (0, .ref (za G t0)), (1, .int v1), (2, .int v2)]) hx hb dX12_findWays_32 hl (by decide) rfl (fun ls hl => ?_)
      refine lv_iload_n hx hb dX12_findWays_34 rfl (lv_at hl 4 rfl) ?_
      refine lv_iconst (v := 1) hx hb dX12_findWays_35 (by decide) ?_
      refine lv_iadd hx hb dX12_findWays_36 ?_
      obtain ⟨x5, ex5, h⟩ := zlet_ex h
      refine lv_topiE ex5 ?_
      refine lv_istore (lv' := [(6, .int x5), (4, .long q4), (3, .int x3), (0, .ref (za G t0)), (1, .int v1), (2, .int v2)]) hx hb dX12_findWays_37 hl (by decide) rfl (fun ls hl => ?_)
      refine w_X12_findWays_39 hG S hr hlk t0 v1 v2 x3 k0 (fun v4 M h H locs ls hw hl => ?_) zN q4 x5 M h H locs ls hw (lv_sub hl [3, 4, 5, 2, 1, 0] rfl)
      refine lv_aload_n hx hb dX12_findWays_88 rfl (lv_at hl 0 rfl) ?_
      refine z_getR S hw k0 fl_X12_40 rfl dX12_findWays_89 ?_
      refine lv_bipush (v := 22) hx hb dX12_findWays_92 (by decide) ?_
      refine lv_iload_n hx hb dX12_findWays_94 rfl (lv_at hl 2 rfl) ?_
      refine lv_imul hx hb dX12_findWays_95 ?_
      refine lv_iload_n hx hb dX12_findWays_96 rfl (lv_at hl 3 rfl) ?_
      refine lv_iadd hx hb dX12_findWays_97 ?_
      refine lv_lload hx hb dX12_findWays_98 (lv_at hl 4 rfl) ?_
      obtain ⟨g15, h⟩ := zck_ex h
      obtain ⟨M16, eM16, h⟩ := zlet_ex h
      refine z_last S hw eM16 (kr_12_18 hG k0) g15 dX12_findWays_100 (fun H locs hw => ?_)
      obtain ⟨x17, ex17, h⟩ := zlet_ex h
      refine lv_iinc (v := x17) (lv' := [(2, .int x17), (0, .ref (za G t0)), (1, .int v1), (3, .int x3), (4, .long v4)]) hx hb dX12_findWays_101 hl (k := 2) rfl (by rw [ex17]; rfl) (by decide) rfl (fun ls hl => ?_)
      refine lv_goto (tgt := 12) hx hb dX12_findWays_104 (by decide) ?_
      exact ih x17 M16 h H locs ls hw (lv_sub hl [1, 2, 0] rfl)
set_option maxHeartbeats 4000000 in
set_option maxRecDepth 100000 in
theorem w_X12_findWays_2 {G : ZG} (hG : zOk G) (S : zX p (zR 2) s m args c 0 0 cX12_findWays 7 RX12) (hr : meth.sig.returnType = none) (hlk : meth.locks = false) (t0 : Nat) (k0 : zk G t0 = 22)  {K : ZM → Option ZM} {res : ZM} (hK : ∀  (M : ZM), K M = some res → ∀ (H : Heap) (locs : List Loc) (ls : Array Slot), zWd G A s H locs M → lv_has ls 7 [] → W p l e (zR 2) s m args below meth c H locs 0 0 (zQ below G A none res args s) (F0 m 113 ls [])) : ∀ (n : Nat) (v1 : Int32) (M : ZM), f_X12_findWays_2 t0 K n v1 M = some res → ∀ (H : Heap) (locs : List Loc) (ls : Array Slot), zWd G A s H locs M → lv_has ls 7 [(0, .ref (za G t0)), (1, .int v1)] → W p l e (zR 2) s m args below meth c H locs 0 0 (zQ below G A none res args s) (F0 m 2 ls []) := by
  have hx := S.1.1
  have hb := S.1.2.1
  have hown := S.1.2.2.2.1
  have hts := S.1.2.2.2.2
  intro n
  induction n with
  | zero =>
    intro v1 M h
    rw [f_X12_findWays_2] at h
    cases h
  | succ n ih =>
    intro v1 M h H locs ls hw hl
    rw [f_X12_findWays_2] at h
    refine lv_iload_n hx hb dX12_findWays_2 rfl (lv_at hl 1 rfl) ?_
    refine lv_aload_n hx hb dX12_findWays_3 rfl (lv_at hl 0 rfl) ?_
    refine z_getI S hw k0 fl_X12_85 rfl dX12_findWays_4 ?_
    refine lv_icmp_gt (tgt := 113) hx hb dX12_findWays_7 (by decide) (fun c1 => ?_) (fun c1 => ?_)
    · have h := zif_t h c1
      exact hK M h H locs ls hw (lv_sub hl [] rfl)
    · have h := zif_f h c1
      refine lv_iconst (v := 0) hx hb dX12_findWays_10 (by decide) ?_
      refine lv_istore_n (lv' := [(2, .int 0), (0, .ref (za G t0)), (1, .int v1)]) hx hb dX12_findWays_11 rfl hl (by decide) rfl (fun ls hl => ?_)
      refine w_X12_findWays_12 hG S hr hlk t0 v1 k0 (fun M h H locs ls hw hl => ?_) zN 0 M h H locs ls hw (lv_sub hl [1, 2, 0] rfl)
      obtain ⟨x18, ex18, h⟩ := zlet_ex h
      refine lv_iinc (v := x18) (lv' := [(1, .int x18), (0, .ref (za G t0))]) hx hb dX12_findWays_107 hl (k := 1) rfl (by rw [ex18]; rfl) (by decide) rfl (fun ls hl => ?_)
      refine lv_goto (tgt := 2) hx hb dX12_findWays_110 (by decide) ?_
      exact ih x18 M h H locs ls hw (lv_sub hl [1, 0] rfl)
set_option maxHeartbeats 4000000 in
set_option maxRecDepth 100000 in
theorem c_X12_findWays (l : Launch) {G : ZG} (hG : zOk G) (t0 : Nat) (k0 : zk G t0 = 22) (M : ZM) (res : ZM) (h : f_X12_findWays t0 M = some res) : zCt l yX12_findWays cX12_findWays 7 none 2 G [.ref (za G t0)] M none res := by
  refine zCt.mk (by decide +kernel) (Nat.le_of_ble_eq_true rfl) ?_
  intro p e s m args below meth c A H locs ls S hr hlk hw hl
  have S : zX p (zR 2) s m args c 0 0 cX12_findWays 7 RX12 := S
  have hx := S.1.1
  have hb := S.1.2.1
  have hown := S.1.2.2.2.1
  have hts := S.1.2.2.2.2
  have hl : lv_has ls 7 [(0, .ref (za G t0))] := hl
  unfold f_X12_findWays at h
  refine lv_iconst (v := 1) hx hb dX12_findWays_0 (by decide) ?_
  refine lv_istore_n (lv' := [(1, .int 1), (0, .ref (za G t0))]) hx hb dX12_findWays_1 rfl hl (by decide) rfl (fun ls hl => ?_)
  refine w_X12_findWays_2 hG S hr hlk t0 k0 (fun M h H locs ls hw hl => ?_) zN 1 M h H locs ls hw (lv_sub hl [1, 0] rfl)
  have h := Option.some.inj h
  subst h
  exact z_ret_v S hr hlk hw dX12_findWays_113
end Z
