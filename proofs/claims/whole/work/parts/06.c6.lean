section Z
variable {p : Program} {l : Launch} {e : Env} {s : State} {m : MethodId} {args : Array Value} {below : List Frame} {meth : Method} {c : Code} {A : Nat → Prop}
def f_X6_passed (t0 : Nat) (M : ZM) : Int32 :=
  (M.1 t0 2)
set_option maxHeartbeats 4000000 in
set_option maxRecDepth 100000 in
theorem c_X6_passed (l : Launch) {G : ZG} (hG : zOk G) (t0 : Nat) (k0 : zk G t0 = 16) (M : ZM) (res : Int32) (h : f_X6_passed t0 M = res) : zCt l yX6_passed cX6_passed 1 (Option.some FieldType.int) 0 G [.ref (za G t0)] M (some (.int res)) M := by
  refine zCt.mk (by decide +kernel) (Nat.le_of_ble_eq_true rfl) ?_
  intro p e s m args below meth c A H locs ls S hr hlk hw hl
  have S : zX p (zR 0) s m args c 0 0 cX6_passed 1 RX6 := S
  have hx := S.1.1
  have hb := S.1.2.1
  have hown := S.1.2.2.2.1
  have hts := S.1.2.2.2.2
  have hl : lv_has ls 1 [(0, .ref (za G t0))] := hl
  unfold f_X6_passed at h
  refine lv_aload_n hx hb dX6_passed_0 rfl (lv_at hl 0 rfl) ?_
  refine z_getI S hw k0 fl_X6_23 rfl dX6_passed_1 ?_
  subst h
  exact z_ret_i S hr hlk hw dX6_passed_4
def f_X11_passedOver (t0 : Nat) (M : ZM) : Option (Int32 × ZM) :=
  (f_X11_spent t0 M).bind fun (q1 : (Int32 × ZM)) =>
  if q1.1 = 0 then (
    (f_X6_sift (zr t0 8) (zr t0 5) (zr t0 7) (-1) q1.2).bind fun (q3 : ZM) =>
    zlet (f_X6_passed (zr t0 8) q3) fun (q4 : Int32) =>
    some (q4, q3)) else (
    zlet (f_X11_refuse t0 (-5) q1.2) fun (q5 : (Int32 × ZM)) =>
    some (q5.1, q5.2))
set_option maxHeartbeats 4000000 in
set_option maxRecDepth 100000 in
theorem c_X11_passedOver (l : Launch) {G : ZG} (hG : zOk G) (t0 : Nat) (k0 : zk G t0 = 21) (M : ZM) (res : (Int32 × ZM)) (h : f_X11_passedOver t0 M = some res) : zCt l yX11_passedOver cX11_passedOver 1 (Option.some FieldType.int) 6 G [.ref (za G t0)] M (some (.int res.1)) res.2 := by
  refine zCt.mk (by decide +kernel) (Nat.le_of_ble_eq_true rfl) ?_
  intro p e s m args below meth c A H locs ls S hr hlk hw hl
  have S : zX p (zR 6) s m args c 0 0 cX11_passedOver 1 RX11 := S
  have hx := S.1.1
  have hb := S.1.2.1
  have hown := S.1.2.2.2.1
  have hts := S.1.2.2.2.2
  have hl : lv_has ls 1 [(0, .ref (za G t0))] := hl
  unfold f_X11_passedOver at h
  refine lv_aload_n hx hb dX11_passedOver_0 rfl (lv_at hl 0 rfl) ?_
  obtain ⟨q1, eq1, h⟩ := Option.bind_eq_some_iff.mp h
  refine z_callV (ci := 11) (As := []) (rest := []) (rv := (some (.int q1.1))) (M1 := q1.2) S hw (c_X11_spent l hG t0 k0 M q1 eq1) mv_X11_spent lk_X11_126 k0 ⟨_, _, rfl⟩ (by decide) rfl rfl (Nat.le_of_ble_eq_true rfl) ⟨Nat.le_of_ble_eq_true rfl, Nat.le_of_ble_eq_true rfl⟩ hl.1 dX11_passedOver_1 (fun H locs hw => ?_)
  refine lv_if_eq (tgt := 14) hx hb dX11_passedOver_4 (by decide) (fun c2 => ?_) (fun c2 => ?_)
  · have h := zif_t h c2
    refine lv_aload_n hx hb dX11_passedOver_14 rfl (lv_at hl 0 rfl) ?_
    refine z_getR S hw k0 fl_X11_60 rfl dX11_passedOver_15 ?_
    refine lv_aload_n hx hb dX11_passedOver_18 rfl (lv_at hl 0 rfl) ?_
    refine z_getR S hw k0 fl_X11_39 rfl dX11_passedOver_19 ?_
    refine lv_aload_n hx hb dX11_passedOver_22 rfl (lv_at hl 0 rfl) ?_
    refine z_getR S hw k0 fl_X11_53 rfl dX11_passedOver_23 ?_
    refine lv_iconst (v := (-1)) hx hb dX11_passedOver_26 (by decide) ?_
    obtain ⟨q3, eq3, h⟩ := Option.bind_eq_some_iff.mp h
    refine z_callV (ci := 6) (As := [.ref (za G (zr t0 5)), .ref (za G (zr t0 7)), .int (-1)]) (rest := []) (rv := none) (M1 := q3) S hw (c_X6_sift l hG (zr t0 8) (zr t0 5) (zr t0 7) (-1) (kr_11_8 hG k0) (kr_11_5 hG k0) (kr_11_7 hG k0) q1.2 q3 eq3) mv_X6_sift lk_X11_197 (kr_11_8 hG k0) ⟨_, _, rfl⟩ (by decide) rfl rfl (Nat.le_of_ble_eq_true rfl) ⟨Nat.le_of_ble_eq_true rfl, Nat.le_of_ble_eq_true rfl⟩ hl.1 dX11_passedOver_27 (fun H locs hw => ?_)
    refine lv_aload_n hx hb dX11_passedOver_30 rfl (lv_at hl 0 rfl) ?_
    refine z_getR S hw k0 fl_X11_60 rfl dX11_passedOver_31 ?_
    obtain ⟨q4, eq4, h⟩ := zlet_ex h
    refine z_callV (ci := 6) (As := []) (rest := []) (rv := (some (.int q4))) (M1 := q3) S hw (c_X6_passed l hG (zr t0 8) (kr_11_8 hG k0) q3 q4 eq4.symm) mv_X6_passed lk_X11_203 (kr_11_8 hG k0) ⟨_, _, rfl⟩ (by decide) rfl rfl (Nat.le_of_ble_eq_true rfl) ⟨Nat.le_of_ble_eq_true rfl, Nat.le_of_ble_eq_true rfl⟩ hl.1 dX11_passedOver_34 (fun H locs hw => ?_)
    have h := Option.some.inj h
    subst h
    exact z_ret_i S hr hlk hw dX11_passedOver_37
  · have h := zif_f h c2
    refine lv_aload_n hx hb dX11_passedOver_7 rfl (lv_at hl 0 rfl) ?_
    refine lv_bipush (v := (-5)) hx hb dX11_passedOver_8 (by decide) ?_
    obtain ⟨q5, eq5, h⟩ := zlet_ex h
    refine z_callV (ci := 11) (As := [.int (-5)]) (rest := []) (rv := (some (.int q5.1))) (M1 := q5.2) S hw (c_X11_refuse l hG t0 (-5) k0 q1.2 q5 eq5.symm) mv_X11_refuse lk_X11_100 k0 ⟨_, _, rfl⟩ (by decide) rfl rfl (Nat.le_of_ble_eq_true rfl) ⟨Nat.le_of_ble_eq_true rfl, Nat.le_of_ble_eq_true rfl⟩ hl.1 dX11_passedOver_10 (fun H locs hw => ?_)
    have h := Option.some.inj h
    subst h
    exact z_ret_i S hr hlk hw dX11_passedOver_13
def f_X2_areAtOdds_8 (t0 : Nat) (v1 : Int32) (v2 : Int32) (M : ZM) (K : Int32 → Int32 → Option Int32) : Nat → Int32 → Int32 → Int32 → Option Int32
  | 0, _, _, _ => none
  | n + 1, v3, v4, v5 =>
    zlet (fun (v4 : Int32) (v5 : Int32) (s0 : Int32) =>
      if v4 = 0 then (
        zlet (f_X2_isMet t0 v5 v2 M) fun (q3 : Int32) =>
        if q3 = 0 then (
          zlet (v5 + 1) fun (x5 : Int32) =>
          f_X2_areAtOdds_8 t0 v1 v2 M K n s0 0 x5) else (
          zlet (v5 + 1) fun (x6 : Int32) =>
          f_X2_areAtOdds_8 t0 v1 v2 M K n s0 1 x6)) else (
        zlet (v5 + 1) fun (x2 : Int32) =>
        f_X2_areAtOdds_8 t0 v1 v2 M K n s0 1 x2)) fun J58 =>
    zlet (fun (v4 : Int32) (v5 : Int32) =>
      J58 v4 v5 1) fun J53 =>
    zlet (fun (v3 : Int32) (v4 : Int32) (v5 : Int32) =>
      if v3 = 0 then (
        zlet (f_X2_isMet t0 v5 v1 M) fun (q8 : Int32) =>
        if q8 = 0 then (
          J58 v4 v5 0) else (
          J53 v4 v5)) else (
        J53 v4 v5)) fun J39 =>
    if (M.1 t0 4) ≤ v5 then (
      K v3 v4) else (
      zlet (f_X2_isMet t0 v5 v1 M) fun (q11 : Int32) =>
      if q11 = 0 then (
        J39 v3 v4 v5) else (
        zlet (f_X2_isMet t0 v5 v2 M) fun (q13 : Int32) =>
        if q13 = 0 then (
          J39 v3 v4 v5) else (
          some (0 : Int32))))

def f_X2_areAtOdds (t0 : Nat) (v1 : Int32) (v2 : Int32) (M : ZM) : Option Int32 :=
  f_X2_areAtOdds_8 t0 v1 v2 M (fun (v3 : Int32) (v4 : Int32) =>
    if v3 = 0 then (
      some (0 : Int32)) else (
      if v4 = 0 then (
        some (0 : Int32)) else (
        some (1 : Int32)))) zN 0 0 0
set_option maxHeartbeats 4000000 in
set_option maxRecDepth 100000 in
theorem w_X2_areAtOdds_8 {G : ZG} (hG : zOk G) (S : zX p (zR 2) s m args c 0 0 cX2_areAtOdds 6 RX2) (hr : meth.sig.returnType = (Option.some FieldType.boolean)) (hlk : meth.locks = false) (t0 : Nat) (v1 : Int32) (v2 : Int32) (k0 : zk G t0 = 12) (M : ZM)  {K : Int32 → Int32 → Option Int32} {res : Int32} (hK : ∀ (v3 : Int32) (v4 : Int32), K v3 v4 = some res → ∀ (H : Heap) (locs : List Loc) (ls : Array Slot), zWd G A s H locs M → lv_has ls 6 [(3, .int v3), (4, .int v4)] → W p l e (zR 2) s m args below meth c H locs 0 0 (zQ below G A (some (.int res)) M args s) (F0 m 87 ls [])) : ∀ (n : Nat) (v3 : Int32) (v4 : Int32) (v5 : Int32), f_X2_areAtOdds_8 t0 v1 v2 M K n v3 v4 v5 = some res → ∀ (H : Heap) (locs : List Loc) (ls : Array Slot), zWd G A s H locs M → lv_has ls 6 [(0, .ref (za G t0)), (1, .int v1), (2, .int v2), (3, .int v3), (4, .int v4), (5, .int v5)] → W p l e (zR 2) s m args below meth c H locs 0 0 (zQ below G A (some (.int res)) M args s) (F0 m 8 ls []) := by
  have hx := S.1.1
  have hb := S.1.2.1
  have hown := S.1.2.2.2.1
  have hts := S.1.2.2.2.2
  intro n
  induction n with
  | zero =>
    intro v3 v4 v5 h
    rw [f_X2_areAtOdds_8] at h
    cases h
  | succ n ih =>
    intro v3 v4 v5 h H locs ls hw hl
    rw [f_X2_areAtOdds_8] at h
    obtain ⟨J58, hJ58, h⟩ := zlet_ex h
    have wJ58 : ∀ (v4 : Int32) (v5 : Int32) (s0 : Int32), J58 v4 v5 s0 = some res → ∀ (H : Heap) (locs : List Loc) (ls : Array Slot), zWd G A s H locs M → lv_has ls 6 [(0, .ref (za G t0)), (1, .int v1), (2, .int v2), (4, .int v4), (5, .int v5)] → W p l e (zR 2) s m args below meth c H locs 0 0 (zQ below G A (some (.int res)) M args s) (F0 m 58 ls [.int s0]) := by
      intro v4 v5 s0 h H locs ls hw hl
      subst hJ58
      refine lv_istore_n (lv' := [(3, .int s0), (0, .ref (za G t0)), (1, .int v1), (2, .int v2), (4, .int v4), (5, .int v5)]) hx hb dX2_areAtOdds_58 rfl hl (by decide) rfl (fun ls hl => ?_)
      refine lv_iload hx hb dX2_areAtOdds_59 (lv_at hl 4 rfl) ?_
      refine lv_if_ne (tgt := 74) hx hb dX2_areAtOdds_61 (by decide) (fun c1 => ?_) (fun c1 => ?_)
      · have h := zif_f h c1
        refine lv_iconst (v := 1) hx hb dX2_areAtOdds_74 (by decide) ?_
        refine lv_goto (tgt := 79) hx hb dX2_areAtOdds_75 (by decide) ?_
        refine lv_istore (lv' := [(4, .int 1), (3, .int s0), (0, .ref (za G t0)), (1, .int v1), (2, .int v2), (5, .int v5)]) hx hb dX2_areAtOdds_79 hl (by decide) rfl (fun ls hl => ?_)
        obtain ⟨x2, ex2, h⟩ := zlet_ex h
        refine lv_iinc (v := x2) (lv' := [(5, .int x2), (4, .int 1), (3, .int s0), (0, .ref (za G t0)), (1, .int v1), (2, .int v2)]) hx hb dX2_areAtOdds_81 hl (k := 5) rfl (by rw [ex2]; rfl) (by decide) rfl (fun ls hl => ?_)
        refine lv_goto (tgt := 8) hx hb dX2_areAtOdds_84 (by decide) ?_
        exact ih s0 1 x2 h H locs ls hw (lv_sub hl [3, 4, 5, 2, 1, 0] rfl)
      · have h := zif_t h c1
        refine lv_aload_n hx hb dX2_areAtOdds_64 rfl (lv_at hl 1 rfl) ?_
        refine lv_iload hx hb dX2_areAtOdds_65 (lv_at hl 5 rfl) ?_
        refine lv_iload_n hx hb dX2_areAtOdds_67 rfl (lv_at hl 3 rfl) ?_
        obtain ⟨q3, eq3, h⟩ := zlet_ex h
        refine z_callV (ci := 2) (As := [.int v5, .int v2]) (rest := []) (rv := (some (.int q3))) (M1 := M) S hw (c_X2_isMet l hG t0 v5 v2 k0 M q3 eq3.symm) mv_X2_isMet lk_X2_86 k0 ⟨_, _, rfl⟩ (by decide) rfl rfl (Nat.le_of_ble_eq_true rfl) ⟨Nat.le_of_ble_eq_true rfl, Nat.le_of_ble_eq_true rfl⟩ hl.1 dX2_areAtOdds_68 (fun H locs hw => ?_)
        refine lv_if_eq (tgt := 78) hx hb dX2_areAtOdds_71 (by decide) (fun c4 => ?_) (fun c4 => ?_)
        · have h := zif_t h c4
          refine lv_iconst (v := 0) hx hb dX2_areAtOdds_78 (by decide) ?_
          refine lv_istore (lv' := [(4, .int 0), (3, .int s0), (0, .ref (za G t0)), (1, .int v1), (2, .int v2), (5, .int v5)]) hx hb dX2_areAtOdds_79 hl (by decide) rfl (fun ls hl => ?_)
          obtain ⟨x5, ex5, h⟩ := zlet_ex h
          refine lv_iinc (v := x5) (lv' := [(5, .int x5), (4, .int 0), (3, .int s0), (0, .ref (za G t0)), (1, .int v1), (2, .int v2)]) hx hb dX2_areAtOdds_81 hl (k := 5) rfl (by rw [ex5]; rfl) (by decide) rfl (fun ls hl => ?_)
          refine lv_goto (tgt := 8) hx hb dX2_areAtOdds_84 (by decide) ?_
          exact ih s0 0 x5 h H locs ls hw (lv_sub hl [3, 4, 5, 2, 1, 0] rfl)
        · have h := zif_f h c4
          refine lv_iconst (v := 1) hx hb dX2_areAtOdds_74 (by decide) ?_
          refine lv_goto (tgt := 79) hx hb dX2_areAtOdds_75 (by decide) ?_
          refine lv_istore (lv' := [(4, .int 1), (3, .int s0), (0, .ref (za G t0)), (1, .int v1), (2, .int v2), (5, .int v5)]) hx hb dX2_areAtOdds_79 hl (by decide) rfl (fun ls hl => ?_)
          obtain ⟨x6, ex6, h⟩ := zlet_ex h
          refine lv_iinc (v := x6) (lv' := [(5, .int x6), (4, .int 1), (3, .int s0), (0, .ref (za G t0)), (1, .int v1), (2, .int v2)]) hx hb dX2_areAtOdds_81 hl (k := 5) rfl (by rw [ex6]; rfl) (by decide) rfl (fun ls hl => ?_)
          refine lv_goto (tgt := 8) hx hb dX2_areAtOdds_84 (by decide) ?_
          exact ih s0 1 x6 h H locs ls hw (lv_sub hl [3, 4, 5, 2, 1, 0] rfl)
    obtain ⟨J53, hJ53, h⟩ := zlet_ex h
    have wJ53 : ∀ (v4 : Int32) (v5 : Int32), J53 v4 v5 = some res → ∀ (H : Heap) (locs : List Loc) (ls : Array Slot), zWd G A s H locs M → lv_has ls 6 [(0, .ref (za G t0)), (1, .int v1), (2, .int v2), (4, .int v4), (5, .int v5)] → W p l e (zR 2) s m args below meth c H locs 0 0 (zQ below G A (some (.int res)) M args s) (F0 m 53 ls []) := by
      intro v4 v5 h H locs ls hw hl
      subst hJ53
      refine lv_iconst (v := 1) hx hb dX2_areAtOdds_53 (by decide) ?_
      refine lv_goto (tgt := 58) hx hb dX2_areAtOdds_54 (by decide) ?_
      exact wJ58 v4 v5 1 h H locs ls hw (lv_sub hl [0, 1, 2, 3, 4] rfl)
    obtain ⟨J39, hJ39, h⟩ := zlet_ex h
    have wJ39 : ∀ (v3 : Int32) (v4 : Int32) (v5 : Int32), J39 v3 v4 v5 = some res → ∀ (H : Heap) (locs : List Loc) (ls : Array Slot), zWd G A s H locs M → lv_has ls 6 [(0, .ref (za G t0)), (1, .int v1), (2, .int v2), (3, .int v3), (4, .int v4), (5, .int v5)] → W p l e (zR 2) s m args below meth c H locs 0 0 (zQ below G A (some (.int res)) M args s) (F0 m 39 ls []) := by
      intro v3 v4 v5 h H locs ls hw hl
      subst hJ39
      refine lv_iload_n hx hb dX2_areAtOdds_39 rfl (lv_at hl 3 rfl) ?_
      refine lv_if_ne (tgt := 53) hx hb dX2_areAtOdds_40 (by decide) (fun c7 => ?_) (fun c7 => ?_)
      · have h := zif_f h c7
        exact wJ53 v4 v5 h H locs ls hw (lv_sub hl [0, 1, 2, 4, 5] rfl)
      · have h := zif_t h c7
        refine lv_aload_n hx hb dX2_areAtOdds_43 rfl (lv_at hl 0 rfl) ?_
        refine lv_iload hx hb dX2_areAtOdds_44 (lv_at hl 5 rfl) ?_
        refine lv_iload_n hx hb dX2_areAtOdds_46 rfl (lv_at hl 1 rfl) ?_
        obtain ⟨q8, eq8, h⟩ := zlet_ex h
        refine z_callV (ci := 2) (As := [.int v5, .int v1]) (rest := []) (rv := (some (.int q8))) (M1 := M) S hw (c_X2_isMet l hG t0 v5 v1 k0 M q8 eq8.symm) mv_X2_isMet lk_X2_86 k0 ⟨_, _, rfl⟩ (by decide) rfl rfl (Nat.le_of_ble_eq_true rfl) ⟨Nat.le_of_ble_eq_true rfl, Nat.le_of_ble_eq_true rfl⟩ hl.1 dX2_areAtOdds_47 (fun H locs hw => ?_)
        refine lv_if_eq (tgt := 57) hx hb dX2_areAtOdds_50 (by decide) (fun c9 => ?_) (fun c9 => ?_)
        · have h := zif_t h c9
          refine lv_iconst (v := 0) hx hb dX2_areAtOdds_57 (by decide) ?_
          exact wJ58 v4 v5 0 h H locs ls hw (lv_sub hl [0, 1, 2, 4, 5] rfl)
        · have h := zif_f h c9
          exact wJ53 v4 v5 h H locs ls hw (lv_sub hl [0, 1, 2, 4, 5] rfl)
    refine lv_iload hx hb dX2_areAtOdds_8 (lv_at hl 5 rfl) ?_
    refine lv_aload_n hx hb dX2_areAtOdds_10 rfl (lv_at hl 0 rfl) ?_
    refine z_getI S hw k0 fl_X2_33 rfl dX2_areAtOdds_11 ?_
    refine lv_icmp_ge (tgt := 87) hx hb dX2_areAtOdds_14 (by decide) (fun c10 => ?_) (fun c10 => ?_)
    · have h := zif_t h c10
      exact hK v3 v4 h H locs ls hw (lv_sub hl [3, 4] rfl)
    · have h := zif_f h c10
      refine lv_aload_n hx hb dX2_areAtOdds_17 rfl (lv_at hl 0 rfl) ?_
      refine lv_iload hx hb dX2_areAtOdds_18 (lv_at hl 5 rfl) ?_
      refine lv_iload_n hx hb dX2_areAtOdds_20 rfl (lv_at hl 1 rfl) ?_
      obtain ⟨q11, eq11, h⟩ := zlet_ex h
      refine z_callV (ci := 2) (As := [.int v5, .int v1]) (rest := []) (rv := (some (.int q11))) (M1 := M) S hw (c_X2_isMet l hG t0 v5 v1 k0 M q11 eq11.symm) mv_X2_isMet lk_X2_86 k0 ⟨_, _, rfl⟩ (by decide) rfl rfl (Nat.le_of_ble_eq_true rfl) ⟨Nat.le_of_ble_eq_true rfl, Nat.le_of_ble_eq_true rfl⟩ hl.1 dX2_areAtOdds_21 (fun H locs hw => ?_)
      refine lv_if_eq (tgt := 39) hx hb dX2_areAtOdds_24 (by decide) (fun c12 => ?_) (fun c12 => ?_)
      · have h := zif_t h c12
        exact wJ39 v3 v4 v5 h H locs ls hw (lv_sub hl [0, 1, 2, 3, 4, 5] rfl)
      · have h := zif_f h c12
        refine lv_aload_n hx hb dX2_areAtOdds_27 rfl (lv_at hl 0 rfl) ?_
        refine lv_iload hx hb dX2_areAtOdds_28 (lv_at hl 5 rfl) ?_
        refine lv_iload_n hx hb dX2_areAtOdds_30 rfl (lv_at hl 2 rfl) ?_
        obtain ⟨q13, eq13, h⟩ := zlet_ex h
        refine z_callV (ci := 2) (As := [.int v5, .int v2]) (rest := []) (rv := (some (.int q13))) (M1 := M) S hw (c_X2_isMet l hG t0 v5 v2 k0 M q13 eq13.symm) mv_X2_isMet lk_X2_86 k0 ⟨_, _, rfl⟩ (by decide) rfl rfl (Nat.le_of_ble_eq_true rfl) ⟨Nat.le_of_ble_eq_true rfl, Nat.le_of_ble_eq_true rfl⟩ hl.1 dX2_areAtOdds_31 (fun H locs hw => ?_)
        refine lv_if_eq (tgt := 39) hx hb dX2_areAtOdds_34 (by decide) (fun c14 => ?_) (fun c14 => ?_)
        · have h := zif_t h c14
          exact wJ39 v3 v4 v5 h H locs ls hw (lv_sub hl [0, 1, 2, 3, 4, 5] rfl)
        · have h := zif_f h c14
          refine lv_iconst (v := 0) hx hb dX2_areAtOdds_37 (by decide) ?_
          have h := Option.some.inj h
          subst h
          exact z_ret_z S hr hlk (Or.inl rfl) hw dX2_areAtOdds_38
set_option maxHeartbeats 4000000 in
set_option maxRecDepth 100000 in
theorem c_X2_areAtOdds (l : Launch) {G : ZG} (hG : zOk G) (t0 : Nat) (v1 : Int32) (v2 : Int32) (k0 : zk G t0 = 12) (M : ZM) (res : Int32) (h : f_X2_areAtOdds t0 v1 v2 M = some res) : zCt l yX2_areAtOdds cX2_areAtOdds 6 (Option.some FieldType.boolean) 2 G [.ref (za G t0), .int v1, .int v2] M (some (.int res)) M := by
  refine zCt.mk (by decide +kernel) (Nat.le_of_ble_eq_true rfl) ?_
  intro p e s m args below meth c A H locs ls S hr hlk hw hl
  have S : zX p (zR 2) s m args c 0 0 cX2_areAtOdds 6 RX2 := S
  have hx := S.1.1
  have hb := S.1.2.1
  have hown := S.1.2.2.2.1
  have hts := S.1.2.2.2.2
  have hl : lv_has ls 6 [(0, .ref (za G t0)), (1, .int v1), (2, .int v2)] := hl
  unfold f_X2_areAtOdds at h
  refine lv_iconst (v := 0) hx hb dX2_areAtOdds_0 (by decide) ?_
  refine lv_istore_n (lv' := [(3, .int 0), (0, .ref (za G t0)), (1, .int v1), (2, .int v2)]) hx hb dX2_areAtOdds_1 rfl hl (by decide) rfl (fun ls hl => ?_)
  refine lv_iconst (v := 0) hx hb dX2_areAtOdds_2 (by decide) ?_
  refine lv_istore (lv' := [(4, .int 0), (3, .int 0), (0, .ref (za G t0)), (1, .int v1), (2, .int v2)]) hx hb dX2_areAtOdds_3 hl (by decide) rfl (fun ls hl => ?_)
  refine lv_iconst (v := 0) hx hb dX2_areAtOdds_5 (by decide) ?_
  refine lv_istore (lv' := [(5, .int 0), (4, .int 0), (3, .int 0), (0, .ref (za G t0)), (1, .int v1), (2, .int v2)]) hx hb dX2_areAtOdds_6 hl (by decide) rfl (fun ls hl => ?_)
  refine w_X2_areAtOdds_8 hG S hr hlk t0 v1 v2 k0 M (fun v3 v4 h H locs ls hw hl => ?_) zN 0 0 0 h H locs ls hw (lv_sub hl [3, 4, 5, 2, 1, 0] rfl)
  refine lv_iload_n hx hb dX2_areAtOdds_87 rfl (lv_at hl 0 rfl) ?_
  refine lv_if_eq (tgt := 100) hx hb dX2_areAtOdds_88 (by decide) (fun c15 => ?_) (fun c15 => ?_)
  · have h := zif_t h c15
    refine lv_iconst (v := 0) hx hb dX2_areAtOdds_100 (by decide) ?_
    have h := Option.some.inj h
    subst h
    exact z_ret_z S hr hlk (Or.inl rfl) hw dX2_areAtOdds_101
  · have h := zif_f h c15
    refine lv_iload hx hb dX2_areAtOdds_91 (lv_at hl 1 rfl) ?_
    refine lv_if_eq (tgt := 100) hx hb dX2_areAtOdds_93 (by decide) (fun c16 => ?_) (fun c16 => ?_)
    · have h := zif_t h c16
      refine lv_iconst (v := 0) hx hb dX2_areAtOdds_100 (by decide) ?_
      have h := Option.some.inj h
      subst h
      exact z_ret_z S hr hlk (Or.inl rfl) hw dX2_areAtOdds_101
    · have h := zif_f h c16
      refine lv_iconst (v := 1) hx hb dX2_areAtOdds_96 (by decide) ?_
      refine lv_goto (tgt := 101) hx hb dX2_areAtOdds_97 (by decide) ?_
      have h := Option.some.inj h
      subst h
      exact z_ret_z S hr hlk (Or.inr rfl) hw dX2_areAtOdds_101
def f_X11_quarrel (t0 : Nat) (v1 : Int32) (v2 : Int32) (M : ZM) : Option (Int32 × ZM) :=
  (f_X11_spent t0 M).bind fun (q1 : (Int32 × ZM)) =>
  if q1.1 = 0 then (
    zlet (f_X11_noRule v1 q1.2) fun (q3 : Int32) =>
    if q3 = 0 then (
      zlet (f_X11_noRule v2 q1.2) fun (q6 : Int32) =>
      if q6 = 0 then (
        if v1 = v2 then (
          zlet (f_X11_refuse t0 (-1) q1.2) fun (q12 : (Int32 × ZM)) =>
          some (q12.1, q12.2)) else (
          (f_X2_areAtOdds (zr t0 5) v1 v2 q1.2).bind fun (q10 : Int32) =>
          if q10 = 0 then (
            some ((0 : Int32), q1.2)) else (
            some ((1 : Int32), q1.2)))) else (
        zlet (f_X11_refuse t0 (-1) q1.2) fun (q8 : (Int32 × ZM)) =>
        some (q8.1, q8.2))) else (
      zlet (f_X11_refuse t0 (-1) q1.2) fun (q5 : (Int32 × ZM)) =>
      some (q5.1, q5.2))) else (
    zlet (f_X11_refuse t0 (-5) q1.2) fun (q13 : (Int32 × ZM)) =>
    some (q13.1, q13.2))
set_option maxHeartbeats 4000000 in
set_option maxRecDepth 100000 in
theorem c_X11_quarrel (l : Launch) {G : ZG} (hG : zOk G) (t0 : Nat) (v1 : Int32) (v2 : Int32) (k0 : zk G t0 = 21) (M : ZM) (res : (Int32 × ZM)) (h : f_X11_quarrel t0 v1 v2 M = some res) : zCt l yX11_quarrel cX11_quarrel 3 (Option.some FieldType.int) 6 G [.ref (za G t0), .int v1, .int v2] M (some (.int res.1)) res.2 := by
  refine zCt.mk (by decide +kernel) (Nat.le_of_ble_eq_true rfl) ?_
  intro p e s m args below meth c A H locs ls S hr hlk hw hl
  have S : zX p (zR 6) s m args c 0 0 cX11_quarrel 3 RX11 := S
  have hx := S.1.1
  have hb := S.1.2.1
  have hown := S.1.2.2.2.1
  have hts := S.1.2.2.2.2
  have hl : lv_has ls 3 [(0, .ref (za G t0)), (1, .int v1), (2, .int v2)] := hl
  unfold f_X11_quarrel at h
  refine lv_aload_n hx hb dX11_quarrel_0 rfl (lv_at hl 0 rfl) ?_
  obtain ⟨q1, eq1, h⟩ := Option.bind_eq_some_iff.mp h
  refine z_callV (ci := 11) (As := []) (rest := []) (rv := (some (.int q1.1))) (M1 := q1.2) S hw (c_X11_spent l hG t0 k0 M q1 eq1) mv_X11_spent lk_X11_126 k0 ⟨_, _, rfl⟩ (by decide) rfl rfl (Nat.le_of_ble_eq_true rfl) ⟨Nat.le_of_ble_eq_true rfl, Nat.le_of_ble_eq_true rfl⟩ hl.1 dX11_quarrel_1 (fun H locs hw => ?_)
  refine lv_if_eq (tgt := 14) hx hb dX11_quarrel_4 (by decide) (fun c2 => ?_) (fun c2 => ?_)
  · have h := zif_t h c2
    refine lv_iload_n hx hb dX11_quarrel_14 rfl (lv_at hl 1 rfl) ?_
    obtain ⟨q3, eq3, h⟩ := zlet_ex h
    refine z_callS (As := [.int v1]) (rest := []) (rv := (some (.int q3))) (M1 := q1.2) S hw (c_X11_noRule l hG v1 q1.2 q3 eq3.symm) mv_X11_noRule lk_X11_184 rfl rfl (Nat.le_of_ble_eq_true rfl) ⟨Nat.le_of_ble_eq_true rfl, Nat.le_of_ble_eq_true rfl⟩ hl.1 dX11_quarrel_15 (fun H locs hw => ?_)
    refine lv_if_ne (tgt := 33) hx hb dX11_quarrel_18 (by decide) (fun c4 => ?_) (fun c4 => ?_)
    · have h := zif_f h c4
      refine lv_aload_n hx hb dX11_quarrel_33 rfl (lv_at hl 0 rfl) ?_
      refine lv_iconst (v := (-1)) hx hb dX11_quarrel_34 (by decide) ?_
      obtain ⟨q5, eq5, h⟩ := zlet_ex h
      refine z_callV (ci := 11) (As := [.int (-1)]) (rest := []) (rv := (some (.int q5.1))) (M1 := q5.2) S hw (c_X11_refuse l hG t0 (-1) k0 q1.2 q5 eq5.symm) mv_X11_refuse lk_X11_100 k0 ⟨_, _, rfl⟩ (by decide) rfl rfl (Nat.le_of_ble_eq_true rfl) ⟨Nat.le_of_ble_eq_true rfl, Nat.le_of_ble_eq_true rfl⟩ hl.1 dX11_quarrel_35 (fun H locs hw => ?_)
      have h := Option.some.inj h
      subst h
      exact z_ret_i S hr hlk hw dX11_quarrel_38
    · have h := zif_t h c4
      refine lv_iload_n hx hb dX11_quarrel_21 rfl (lv_at hl 2 rfl) ?_
      obtain ⟨q6, eq6, h⟩ := zlet_ex h
      refine z_callS (As := [.int v2]) (rest := []) (rv := (some (.int q6))) (M1 := q1.2) S hw (c_X11_noRule l hG v2 q1.2 q6 eq6.symm) mv_X11_noRule lk_X11_184 rfl rfl (Nat.le_of_ble_eq_true rfl) ⟨Nat.le_of_ble_eq_true rfl, Nat.le_of_ble_eq_true rfl⟩ hl.1 dX11_quarrel_22 (fun H locs hw => ?_)
      refine lv_if_ne (tgt := 33) hx hb dX11_quarrel_25 (by decide) (fun c7 => ?_) (fun c7 => ?_)
      · have h := zif_f h c7
        refine lv_aload_n hx hb dX11_quarrel_33 rfl (lv_at hl 0 rfl) ?_
        refine lv_iconst (v := (-1)) hx hb dX11_quarrel_34 (by decide) ?_
        obtain ⟨q8, eq8, h⟩ := zlet_ex h
        refine z_callV (ci := 11) (As := [.int (-1)]) (rest := []) (rv := (some (.int q8.1))) (M1 := q8.2) S hw (c_X11_refuse l hG t0 (-1) k0 q1.2 q8 eq8.symm) mv_X11_refuse lk_X11_100 k0 ⟨_, _, rfl⟩ (by decide) rfl rfl (Nat.le_of_ble_eq_true rfl) ⟨Nat.le_of_ble_eq_true rfl, Nat.le_of_ble_eq_true rfl⟩ hl.1 dX11_quarrel_35 (fun H locs hw => ?_)
        have h := Option.some.inj h
        subst h
        exact z_ret_i S hr hlk hw dX11_quarrel_38
      · have h := zif_t h c7
        refine lv_iload_n hx hb dX11_quarrel_28 rfl (lv_at hl 1 rfl) ?_
        refine lv_iload_n hx hb dX11_quarrel_29 rfl (lv_at hl 2 rfl) ?_
        refine lv_icmp_ne (tgt := 39) hx hb dX11_quarrel_30 (by decide) (fun c9 => ?_) (fun c9 => ?_)
        · have h := zif_f h c9
          refine lv_aload_n hx hb dX11_quarrel_39 rfl (lv_at hl 0 rfl) ?_
          refine z_getR S hw k0 fl_X11_39 rfl dX11_quarrel_40 ?_
          refine lv_iload_n hx hb dX11_quarrel_43 rfl (lv_at hl 1 rfl) ?_
          refine lv_iload_n hx hb dX11_quarrel_44 rfl (lv_at hl 2 rfl) ?_
          obtain ⟨q10, eq10, h⟩ := Option.bind_eq_some_iff.mp h
          refine z_callV (ci := 2) (As := [.int v1, .int v2]) (rest := []) (rv := (some (.int q10))) (M1 := q1.2) S hw (c_X2_areAtOdds l hG (zr t0 5) v1 v2 (kr_11_5 hG k0) q1.2 q10 eq10) mv_X2_areAtOdds lk_X11_206 (kr_11_5 hG k0) ⟨_, _, rfl⟩ (by decide) rfl rfl (Nat.le_of_ble_eq_true rfl) ⟨Nat.le_of_ble_eq_true rfl, Nat.le_of_ble_eq_true rfl⟩ hl.1 dX11_quarrel_45 (fun H locs hw => ?_)
          refine lv_if_eq (tgt := 55) hx hb dX11_quarrel_48 (by decide) (fun c11 => ?_) (fun c11 => ?_)
          · have h := zif_t h c11
            refine lv_iconst (v := 0) hx hb dX11_quarrel_55 (by decide) ?_
            have h := Option.some.inj h
            subst h
            exact z_ret_i S hr hlk hw dX11_quarrel_56
          · have h := zif_f h c11
            refine lv_iconst (v := 1) hx hb dX11_quarrel_51 (by decide) ?_
            refine lv_goto (tgt := 56) hx hb dX11_quarrel_52 (by decide) ?_
            have h := Option.some.inj h
            subst h
            exact z_ret_i S hr hlk hw dX11_quarrel_56
        · have h := zif_t h c9
          refine lv_aload_n hx hb dX11_quarrel_33 rfl (lv_at hl 0 rfl) ?_
          refine lv_iconst (v := (-1)) hx hb dX11_quarrel_34 (by decide) ?_
          obtain ⟨q12, eq12, h⟩ := zlet_ex h
          refine z_callV (ci := 11) (As := [.int (-1)]) (rest := []) (rv := (some (.int q12.1))) (M1 := q12.2) S hw (c_X11_refuse l hG t0 (-1) k0 q1.2 q12 eq12.symm) mv_X11_refuse lk_X11_100 k0 ⟨_, _, rfl⟩ (by decide) rfl rfl (Nat.le_of_ble_eq_true rfl) ⟨Nat.le_of_ble_eq_true rfl, Nat.le_of_ble_eq_true rfl⟩ hl.1 dX11_quarrel_35 (fun H locs hw => ?_)
          have h := Option.some.inj h
          subst h
          exact z_ret_i S hr hlk hw dX11_quarrel_38
  · have h := zif_f h c2
    refine lv_aload_n hx hb dX11_quarrel_7 rfl (lv_at hl 0 rfl) ?_
    refine lv_bipush (v := (-5)) hx hb dX11_quarrel_8 (by decide) ?_
    obtain ⟨q13, eq13, h⟩ := zlet_ex h
    refine z_callV (ci := 11) (As := [.int (-5)]) (rest := []) (rv := (some (.int q13.1))) (M1 := q13.2) S hw (c_X11_refuse l hG t0 (-5) k0 q1.2 q13 eq13.symm) mv_X11_refuse lk_X11_100 k0 ⟨_, _, rfl⟩ (by decide) rfl rfl (Nat.le_of_ble_eq_true rfl) ⟨Nat.le_of_ble_eq_true rfl, Nat.le_of_ble_eq_true rfl⟩ hl.1 dX11_quarrel_10 (fun H locs hw => ?_)
    have h := Option.some.inj h
    subst h
    exact z_ret_i S hr hlk hw dX11_quarrel_13
def f_X6_keepsAs_2 (t0 : Nat) (t1 : Nat) (M : ZM) (K : Option Int32) : Nat → Int32 → Option Int32
  | 0, _ => none
  | n + 1, v2 =>
    if (M.1 t0 1) ≤ v2 then (
      K) else (
      zlet (f_X6_at t0 v2 M) fun (q2 : Int32) =>
      zlet (f_X6_at t1 v2 M) fun (q3 : Int32) =>
      if q2 = q3 then (
        zlet (v2 + 1) fun (x5 : Int32) =>
        f_X6_keepsAs_2 t0 t1 M K n x5) else (
        some (0 : Int32)))

def f_X6_keepsAs (t0 : Nat) (t1 : Nat) (M : ZM) : Option Int32 :=
  f_X6_keepsAs_2 t0 t1 M (
    if (M.1 t0 1) = (M.1 t1 1) then (
      some (1 : Int32)) else (
      some (0 : Int32))) zN 0
set_option maxHeartbeats 4000000 in
set_option maxRecDepth 100000 in
theorem w_X6_keepsAs_2 {G : ZG} (hG : zOk G) (S : zX p (zR 2) s m args c 0 0 cX6_keepsAs 3 RX6) (hr : meth.sig.returnType = (Option.some FieldType.boolean)) (hlk : meth.locks = false) (t0 : Nat) (t1 : Nat) (k0 : zk G t0 = 16) (k1 : zk G t1 = 16) (M : ZM)  {K : Option Int32} {res : Int32} (hK : K = some res → ∀ (H : Heap) (locs : List Loc) (ls : Array Slot), zWd G A s H locs M → lv_has ls 3 [(0, .ref (za G t0)), (1, .ref (za G t1))] → W p l e (zR 2) s m args below meth c H locs 0 0 (zQ below G A (some (.int res)) M args s) (F0 m 31 ls [])) : ∀ (n : Nat) (v2 : Int32), f_X6_keepsAs_2 t0 t1 M K n v2 = some res → ∀ (H : Heap) (locs : List Loc) (ls : Array Slot), zWd G A s H locs M → lv_has ls 3 [(0, .ref (za G t0)), (1, .ref (za G t1)), (2, .int v2)] → W p l e (zR 2) s m args below meth c H locs 0 0 (zQ below G A (some (.int res)) M args s) (F0 m 2 ls []) := by
  have hx := S.1.1
  have hb := S.1.2.1
  have hown := S.1.2.2.2.1
  have hts := S.1.2.2.2.2
  intro n
  induction n with
  | zero =>
    intro v2 h
    rw [f_X6_keepsAs_2] at h
    cases h
  | succ n ih =>
    intro v2 h H locs ls hw hl
    rw [f_X6_keepsAs_2] at h
    refine lv_iload_n hx hb dX6_keepsAs_2 rfl (lv_at hl 2 rfl) ?_
    refine lv_aload_n hx hb dX6_keepsAs_3 rfl (lv_at hl 0 rfl) ?_
    refine z_getI S hw k0 fl_X6_15 rfl dX6_keepsAs_4 ?_
    refine lv_icmp_ge (tgt := 31) hx hb dX6_keepsAs_7 (by decide) (fun c1 => ?_) (fun c1 => ?_)
    · have h := zif_t h c1
      exact hK  h H locs ls hw (lv_sub hl [0, 1] rfl)
    · have h := zif_f h c1
      refine lv_aload_n hx hb dX6_keepsAs_10 rfl (lv_at hl 0 rfl) ?_
      refine lv_iload_n hx hb dX6_keepsAs_11 rfl (lv_at hl 2 rfl) ?_
      obtain ⟨q2, eq2, h⟩ := zlet_ex h
      refine z_callV (ci := 6) (As := [.int v2]) (rest := []) (rv := (some (.int q2))) (M1 := M) S hw (c_X6_at l hG t0 v2 k0 M q2 eq2.symm) mv_X6_at lk_X6_46 k0 ⟨_, _, rfl⟩ (by decide) rfl rfl (Nat.le_of_ble_eq_true rfl) ⟨Nat.le_of_ble_eq_true rfl, Nat.le_of_ble_eq_true rfl⟩ hl.1 dX6_keepsAs_12 (fun H locs hw => ?_)
      refine lv_aload_n hx hb dX6_keepsAs_15 rfl (lv_at hl 1 rfl) ?_
      refine lv_iload_n hx hb dX6_keepsAs_16 rfl (lv_at hl 2 rfl) ?_
      obtain ⟨q3, eq3, h⟩ := zlet_ex h
      refine z_callV (ci := 6) (As := [.int v2]) (rest := [.int q2]) (rv := (some (.int q3))) (M1 := M) S hw (c_X6_at l hG t1 v2 k1 M q3 eq3.symm) mv_X6_at lk_X6_46 k1 ⟨_, _, rfl⟩ (by decide) rfl rfl (Nat.le_of_ble_eq_true rfl) ⟨Nat.le_of_ble_eq_true rfl, Nat.le_of_ble_eq_true rfl⟩ hl.1 dX6_keepsAs_17 (fun H locs hw => ?_)
      refine lv_icmp_eq (tgt := 25) hx hb dX6_keepsAs_20 (by decide) (fun c4 => ?_) (fun c4 => ?_)
      · have h := zif_t h c4
        obtain ⟨x5, ex5, h⟩ := zlet_ex h
        refine lv_iinc (v := x5) (lv' := [(2, .int x5), (0, .ref (za G t0)), (1, .ref (za G t1))]) hx hb dX6_keepsAs_25 hl (k := 2) rfl (by rw [ex5]; rfl) (by decide) rfl (fun ls hl => ?_)
        refine lv_goto (tgt := 2) hx hb dX6_keepsAs_28 (by decide) ?_
        exact ih x5 h H locs ls hw (lv_sub hl [1, 2, 0] rfl)
      · have h := zif_f h c4
        refine lv_iconst (v := 0) hx hb dX6_keepsAs_23 (by decide) ?_
        have h := Option.some.inj h
        subst h
        exact z_ret_z S hr hlk (Or.inl rfl) hw dX6_keepsAs_24
set_option maxHeartbeats 4000000 in
set_option maxRecDepth 100000 in
theorem c_X6_keepsAs (l : Launch) {G : ZG} (hG : zOk G) (t0 : Nat) (t1 : Nat) (k0 : zk G t0 = 16) (k1 : zk G t1 = 16) (M : ZM) (res : Int32) (h : f_X6_keepsAs t0 t1 M = some res) : zCt l yX6_keepsAs cX6_keepsAs 3 (Option.some FieldType.boolean) 2 G [.ref (za G t0), .ref (za G t1)] M (some (.int res)) M := by
  refine zCt.mk (by decide +kernel) (Nat.le_of_ble_eq_true rfl) ?_
  intro p e s m args below meth c A H locs ls S hr hlk hw hl
  have S : zX p (zR 2) s m args c 0 0 cX6_keepsAs 3 RX6 := S
  have hx := S.1.1
  have hb := S.1.2.1
  have hown := S.1.2.2.2.1
  have hts := S.1.2.2.2.2
  have hl : lv_has ls 3 [(0, .ref (za G t0)), (1, .ref (za G t1))] := hl
  unfold f_X6_keepsAs at h
  refine lv_iconst (v := 0) hx hb dX6_keepsAs_0 (by decide) ?_
  refine lv_istore_n (lv' := [(2, .int 0), (0, .ref (za G t0)), (1, .ref (za G t1))]) hx hb dX6_keepsAs_1 rfl hl (by decide) rfl (fun ls hl => ?_)
  refine w_X6_keepsAs_2 hG S hr hlk t0 t1 k0 k1 M (fun h H locs ls hw hl => ?_) zN 0 h H locs ls hw (lv_sub hl [1, 2, 0] rfl)
  refine lv_aload_n hx hb dX6_keepsAs_31 rfl (lv_at hl 0 rfl) ?_
  refine z_getI S hw k0 fl_X6_15 rfl dX6_keepsAs_32 ?_
  refine lv_aload_n hx hb dX6_keepsAs_35 rfl (lv_at hl 1 rfl) ?_
  refine z_getI S hw k1 fl_X6_15 rfl dX6_keepsAs_36 ?_
  refine lv_icmp_ne (tgt := 46) hx hb dX6_keepsAs_39 (by decide) (fun c6 => ?_) (fun c6 => ?_)
  · have h := zif_f h c6
    refine lv_iconst (v := 0) hx hb dX6_keepsAs_46 (by decide) ?_
    have h := Option.some.inj h
    subst h
    exact z_ret_z S hr hlk (Or.inl rfl) hw dX6_keepsAs_47
  · have h := zif_t h c6
    refine lv_iconst (v := 1) hx hb dX6_keepsAs_42 (by decide) ?_
    refine lv_goto (tgt := 47) hx hb dX6_keepsAs_43 (by decide) ?_
    have h := Option.some.inj h
    subst h
    exact z_ret_z S hr hlk (Or.inr rfl) hw dX6_keepsAs_47
def f_X11_hangs_34 (t0 : Nat) (K : Int32 → ZM → Option (Int32 × ZM)) : Nat → Int32 → Int32 → ZM → Option (Int32 × ZM)
  | 0, _, _, _ => none
  | n + 1, v1, v2, M =>
    if 6 ≤ v2 then (
      K v1 M) else (
      (f_X4_has (zr t0 7) v2 M).bind fun (q5 : Int32) =>
      if q5 = 0 then (
        zlet (v2 + 1) fun (x7 : Int32) =>
        f_X11_hangs_34 t0 K n v1 x7 M) else (
        (f_X6_sift (zr t0 9) (zr t0 5) (zr t0 7) v2 M).bind fun (q8 : ZM) =>
        (f_X6_keepsAs (zr t0 8) (zr t0 9) q8).bind fun (q9 : Int32) =>
        if q9 = 0 then (
          zlet (v1 ||| (1 <<< (v2 &&& 31))) fun (x12 : Int32) =>
          zlet (v2 + 1) fun (x13 : Int32) =>
          f_X11_hangs_34 t0 K n x12 x13 q8) else (
          zlet (v2 + 1) fun (x11 : Int32) =>
          f_X11_hangs_34 t0 K n v1 x11 q8)))

def f_X11_hangs (t0 : Nat) (M : ZM) : Option (Int32 × ZM) :=
  (f_X11_spent t0 M).bind fun (q1 : (Int32 × ZM)) =>
  if q1.1 = 0 then (
    (f_X6_sift (zr t0 8) (zr t0 5) (zr t0 7) (-1) q1.2).bind fun (q3 : ZM) =>
    f_X11_hangs_34 t0 (fun (v1 : Int32) (M : ZM) =>
      some (v1, M)) zN 0 0 q3) else (
    zlet (f_X11_refuse t0 (-5) q1.2) fun (q14 : (Int32 × ZM)) =>
    some (q14.1, q14.2))
set_option maxHeartbeats 4000000 in
set_option maxRecDepth 100000 in
theorem w_X11_hangs_34 {G : ZG} (hG : zOk G) (S : zX p (zR 6) s m args c 0 0 cX11_hangs 3 RX11) (hr : meth.sig.returnType = (Option.some FieldType.int)) (hlk : meth.locks = false) (t0 : Nat) (k0 : zk G t0 = 21)  {K : Int32 → ZM → Option (Int32 × ZM)} {res : (Int32 × ZM)} (hK : ∀ (v1 : Int32) (M : ZM), K v1 M = some res → ∀ (H : Heap) (locs : List Loc) (ls : Array Slot), zWd G A s H locs M → lv_has ls 3 [(1, .int v1)] → W p l e (zR 6) s m args below meth c H locs 0 0 (zQ below G A (some (.int res.1)) res.2 args s) (F0 m 93 ls [])) : ∀ (n : Nat) (v1 : Int32) (v2 : Int32) (M : ZM), f_X11_hangs_34 t0 K n v1 v2 M = some res → ∀ (H : Heap) (locs : List Loc) (ls : Array Slot), zWd G A s H locs M → lv_has ls 3 [(0, .ref (za G t0)), (1, .int v1), (2, .int v2)] → W p l e (zR 6) s m args below meth c H locs 0 0 (zQ below G A (some (.int res.1)) res.2 args s) (F0 m 34 ls []) := by
  have hx := S.1.1
  have hb := S.1.2.1
  have hown := S.1.2.2.2.1
  have hts := S.1.2.2.2.2
  intro n
  induction n with
  | zero =>
    intro v1 v2 M h
    rw [f_X11_hangs_34] at h
    cases h
  | succ n ih =>
    intro v1 v2 M h H locs ls hw hl
    rw [f_X11_hangs_34] at h
    refine lv_iload_n hx hb dX11_hangs_34 rfl (lv_at hl 2 rfl) ?_
    refine lv_bipush (v := 6) hx hb dX11_hangs_35 (by decide) ?_
    refine lv_icmp_ge (tgt := 93) hx hb dX11_hangs_37 (by decide) (fun c4 => ?_) (fun c4 => ?_)
    · have h := zif_t h c4
      exact hK v1 M h H locs ls hw (lv_sub hl [1] rfl)
    · have h := zif_f h c4
      refine lv_aload_n hx hb dX11_hangs_40 rfl (lv_at hl 0 rfl) ?_
      refine z_getR S hw k0 fl_X11_53 rfl dX11_hangs_41 ?_
      refine lv_iload_n hx hb dX11_hangs_44 rfl (lv_at hl 2 rfl) ?_
      obtain ⟨q5, eq5, h⟩ := Option.bind_eq_some_iff.mp h
      refine z_callV (ci := 4) (As := [.int v2]) (rest := []) (rv := (some (.int q5))) (M1 := M) S hw (c_X4_has l hG (zr t0 7) v2 (kr_11_7 hG k0) M q5 eq5) mv_X4_has lk_X11_191 (kr_11_7 hG k0) ⟨_, _, rfl⟩ (by decide) rfl rfl (Nat.le_of_ble_eq_true rfl) ⟨Nat.le_of_ble_eq_true rfl, Nat.le_of_ble_eq_true rfl⟩ hl.1 dX11_hangs_45 (fun H locs hw => ?_)
      refine lv_if_eq (tgt := 87) hx hb dX11_hangs_48 (by decide) (fun c6 => ?_) (fun c6 => ?_)
      · have h := zif_t h c6
        obtain ⟨x7, ex7, h⟩ := zlet_ex h
        refine lv_iinc (v := x7) (lv' := [(2, .int x7), (0, .ref (za G t0)), (1, .int v1)]) hx hb dX11_hangs_87 hl (k := 2) rfl (by rw [ex7]; rfl) (by decide) rfl (fun ls hl => ?_)
        refine lv_goto (tgt := 34) hx hb dX11_hangs_90 (by decide) ?_
        exact ih v1 x7 M h H locs ls hw (lv_sub hl [1, 2, 0] rfl)
      · have h := zif_f h c6
        refine lv_aload_n hx hb dX11_hangs_51 rfl (lv_at hl 0 rfl) ?_
        refine z_getR S hw k0 fl_X11_64 rfl dX11_hangs_52 ?_
        refine lv_aload_n hx hb dX11_hangs_55 rfl (lv_at hl 0 rfl) ?_
        refine z_getR S hw k0 fl_X11_39 rfl dX11_hangs_56 ?_
        refine lv_aload_n hx hb dX11_hangs_59 rfl (lv_at hl 0 rfl) ?_
        refine z_getR S hw k0 fl_X11_53 rfl dX11_hangs_60 ?_
        refine lv_iload_n hx hb dX11_hangs_63 rfl (lv_at hl 2 rfl) ?_
        obtain ⟨q8, eq8, h⟩ := Option.bind_eq_some_iff.mp h
        refine z_callV (ci := 6) (As := [.ref (za G (zr t0 5)), .ref (za G (zr t0 7)), .int v2]) (rest := []) (rv := none) (M1 := q8) S hw (c_X6_sift l hG (zr t0 9) (zr t0 5) (zr t0 7) v2 (kr_11_9 hG k0) (kr_11_5 hG k0) (kr_11_7 hG k0) M q8 eq8) mv_X6_sift lk_X11_197 (kr_11_9 hG k0) ⟨_, _, rfl⟩ (by decide) rfl rfl (Nat.le_of_ble_eq_true rfl) ⟨Nat.le_of_ble_eq_true rfl, Nat.le_of_ble_eq_true rfl⟩ hl.1 dX11_hangs_64 (fun H locs hw => ?_)
        refine lv_aload_n hx hb dX11_hangs_67 rfl (lv_at hl 0 rfl) ?_
        refine z_getR S hw k0 fl_X11_60 rfl dX11_hangs_68 ?_
        refine lv_aload_n hx hb dX11_hangs_71 rfl (lv_at hl 0 rfl) ?_
        refine z_getR S hw k0 fl_X11_64 rfl dX11_hangs_72 ?_
        obtain ⟨q9, eq9, h⟩ := Option.bind_eq_some_iff.mp h
        refine z_callV (ci := 6) (As := [.ref (za G (zr t0 9))]) (rest := []) (rv := (some (.int q9))) (M1 := q8) S hw (c_X6_keepsAs l hG (zr t0 8) (zr t0 9) (kr_11_8 hG k0) (kr_11_9 hG k0) q8 q9 eq9) mv_X6_keepsAs lk_X11_209 (kr_11_8 hG k0) ⟨_, _, rfl⟩ (by decide) rfl rfl (Nat.le_of_ble_eq_true rfl) ⟨Nat.le_of_ble_eq_true rfl, Nat.le_of_ble_eq_true rfl⟩ hl.1 dX11_hangs_75 (fun H locs hw => ?_)
        refine lv_if_ne (tgt := 87) hx hb dX11_hangs_78 (by decide) (fun c10 => ?_) (fun c10 => ?_)
        · have h := zif_f h c10
          obtain ⟨x11, ex11, h⟩ := zlet_ex h
          refine lv_iinc (v := x11) (lv' := [(2, .int x11), (0, .ref (za G t0)), (1, .int v1)]) hx hb dX11_hangs_87 hl (k := 2) rfl (by rw [ex11]; rfl) (by decide) rfl (fun ls hl => ?_)
          refine lv_goto (tgt := 34) hx hb dX11_hangs_90 (by decide) ?_
          exact ih v1 x11 q8 h H locs ls hw (lv_sub hl [1, 2, 0] rfl)
        · have h := zif_t h c10
          refine lv_iload_n hx hb dX11_hangs_81 rfl (lv_at hl 1 rfl) ?_
          refine lv_iconst (v := 1) hx hb dX11_hangs_82 (by decide) ?_
          refine lv_iload_n hx hb dX11_hangs_83 rfl (lv_at hl 2 rfl) ?_
          refine lv_ishl hx hb dX11_hangs_84 ?_
          refine lv_ior hx hb dX11_hangs_85 ?_
          obtain ⟨x12, ex12, h⟩ := zlet_ex h
          refine lv_topiE ex12 ?_
          refine lv_istore_n (lv' := [(1, .int x12), (0, .ref (za G t0)), (2, .int v2)]) hx hb dX11_hangs_86 rfl hl (by decide) rfl (fun ls hl => ?_)
          obtain ⟨x13, ex13, h⟩ := zlet_ex h
          refine lv_iinc (v := x13) (lv' := [(2, .int x13), (1, .int x12), (0, .ref (za G t0))]) hx hb dX11_hangs_87 hl (k := 2) rfl (by rw [ex13]; rfl) (by decide) rfl (fun ls hl => ?_)
          refine lv_goto (tgt := 34) hx hb dX11_hangs_90 (by decide) ?_
          exact ih x12 x13 q8 h H locs ls hw (lv_sub hl [2, 1, 0] rfl)
set_option maxHeartbeats 4000000 in
set_option maxRecDepth 100000 in
theorem c_X11_hangs (l : Launch) {G : ZG} (hG : zOk G) (t0 : Nat) (k0 : zk G t0 = 21) (M : ZM) (res : (Int32 × ZM)) (h : f_X11_hangs t0 M = some res) : zCt l yX11_hangs cX11_hangs 3 (Option.some FieldType.int) 6 G [.ref (za G t0)] M (some (.int res.1)) res.2 := by
  refine zCt.mk (by decide +kernel) (Nat.le_of_ble_eq_true rfl) ?_
  intro p e s m args below meth c A H locs ls S hr hlk hw hl
  have S : zX p (zR 6) s m args c 0 0 cX11_hangs 3 RX11 := S
  have hx := S.1.1
  have hb := S.1.2.1
  have hown := S.1.2.2.2.1
  have hts := S.1.2.2.2.2
  have hl : lv_has ls 3 [(0, .ref (za G t0))] := hl
  unfold f_X11_hangs at h
  refine lv_aload_n hx hb dX11_hangs_0 rfl (lv_at hl 0 rfl) ?_
  obtain ⟨q1, eq1, h⟩ := Option.bind_eq_some_iff.mp h
  refine z_callV (ci := 11) (As := []) (rest := []) (rv := (some (.int q1.1))) (M1 := q1.2) S hw (c_X11_spent l hG t0 k0 M q1 eq1) mv_X11_spent lk_X11_126 k0 ⟨_, _, rfl⟩ (by decide) rfl rfl (Nat.le_of_ble_eq_true rfl) ⟨Nat.le_of_ble_eq_true rfl, Nat.le_of_ble_eq_true rfl⟩ hl.1 dX11_hangs_1 (fun H locs hw => ?_)
  refine lv_if_eq (tgt := 14) hx hb dX11_hangs_4 (by decide) (fun c2 => ?_) (fun c2 => ?_)
  · have h := zif_t h c2
    refine lv_aload_n hx hb dX11_hangs_14 rfl (lv_at hl 0 rfl) ?_
    refine z_getR S hw k0 fl_X11_60 rfl dX11_hangs_15 ?_
    refine lv_aload_n hx hb dX11_hangs_18 rfl (lv_at hl 0 rfl) ?_
    refine z_getR S hw k0 fl_X11_39 rfl dX11_hangs_19 ?_
    refine lv_aload_n hx hb dX11_hangs_22 rfl (lv_at hl 0 rfl) ?_
    refine z_getR S hw k0 fl_X11_53 rfl dX11_hangs_23 ?_
    refine lv_iconst (v := (-1)) hx hb dX11_hangs_26 (by decide) ?_
    obtain ⟨q3, eq3, h⟩ := Option.bind_eq_some_iff.mp h
    refine z_callV (ci := 6) (As := [.ref (za G (zr t0 5)), .ref (za G (zr t0 7)), .int (-1)]) (rest := []) (rv := none) (M1 := q3) S hw (c_X6_sift l hG (zr t0 8) (zr t0 5) (zr t0 7) (-1) (kr_11_8 hG k0) (kr_11_5 hG k0) (kr_11_7 hG k0) q1.2 q3 eq3) mv_X6_sift lk_X11_197 (kr_11_8 hG k0) ⟨_, _, rfl⟩ (by decide) rfl rfl (Nat.le_of_ble_eq_true rfl) ⟨Nat.le_of_ble_eq_true rfl, Nat.le_of_ble_eq_true rfl⟩ hl.1 dX11_hangs_27 (fun H locs hw => ?_)
    refine lv_iconst (v := 0) hx hb dX11_hangs_30 (by decide) ?_
    refine lv_istore_n (lv' := [(1, .int 0), (0, .ref (za G t0))]) hx hb dX11_hangs_31 rfl hl (by decide) rfl (fun ls hl => ?_)
    refine lv_iconst (v := 0) hx hb dX11_hangs_32 (by decide) ?_
    refine lv_istore_n (lv' := [(2, .int 0), (1, .int 0), (0, .ref (za G t0))]) hx hb dX11_hangs_33 rfl hl (by decide) rfl (fun ls hl => ?_)
    refine w_X11_hangs_34 hG S hr hlk t0 k0 (fun v1 M h H locs ls hw hl => ?_) zN 0 0 q3 h H locs ls hw (lv_sub hl [2, 1, 0] rfl)
    refine lv_iload_n hx hb dX11_hangs_93 rfl (lv_at hl 0 rfl) ?_
    have h := Option.some.inj h
    subst h
    exact z_ret_i S hr hlk hw dX11_hangs_94
  · have h := zif_f h c2
    refine lv_aload_n hx hb dX11_hangs_7 rfl (lv_at hl 0 rfl) ?_
    refine lv_bipush (v := (-5)) hx hb dX11_hangs_8 (by decide) ?_
    obtain ⟨q14, eq14, h⟩ := zlet_ex h
    refine z_callV (ci := 11) (As := [.int (-5)]) (rest := []) (rv := (some (.int q14.1))) (M1 := q14.2) S hw (c_X11_refuse l hG t0 (-5) k0 q1.2 q14 eq14.symm) mv_X11_refuse lk_X11_100 k0 ⟨_, _, rfl⟩ (by decide) rfl rfl (Nat.le_of_ble_eq_true rfl) ⟨Nat.le_of_ble_eq_true rfl, Nat.le_of_ble_eq_true rfl⟩ hl.1 dX11_hangs_10 (fun H locs hw => ?_)
    have h := Option.some.inj h
    subst h
    exact z_ret_i S hr hlk hw dX11_hangs_13
def f_X2_evenestCase_11 (t0 : Nat) (M : ZM) (K : Int32 → Option Int32) : Nat → Int32 → Int32 → Int32 → Option Int32
  | 0, _, _, _ => none
  | n + 1, v1, v2, v3 =>
    if 32 ≤ v3 then (
      K v1) else (
      (f_X2_lettingAt t0 v3 M).bind fun (q3 : Int32) =>
      zlet (zabs ((2 * q3) - (M.1 t0 4))) fun (x5 : Int32) =>
      if v2 ≤ x5 then (
        zlet (v3 + 1) fun (x7 : Int32) =>
        f_X2_evenestCase_11 t0 M K n v1 v2 x7) else (
        zlet (v3 + 1) fun (x8 : Int32) =>
        f_X2_evenestCase_11 t0 M K n v3 x5 x8))

def f_X2_evenestCase (t0 : Nat) (M : ZM) : Option Int32 :=
  zlet ((M.1 t0 4) + 1) fun (x1 : Int32) =>
  f_X2_evenestCase_11 t0 M (fun (v1 : Int32) =>
    some v1) zN 0 x1 0
set_option maxHeartbeats 4000000 in
set_option maxRecDepth 100000 in
theorem w_X2_evenestCase_11 {G : ZG} (hG : zOk G) (S : zX p (zR 3) s m args c 0 0 cX2_evenestCase 5 RX2) (hr : meth.sig.returnType = (Option.some FieldType.int)) (hlk : meth.locks = false) (t0 : Nat) (k0 : zk G t0 = 12) (M : ZM)  {K : Int32 → Option Int32} {res : Int32} (hK : ∀ (v1 : Int32), K v1 = some res → ∀ (H : Heap) (locs : List Loc) (ls : Array Slot), zWd G A s H locs M → lv_has ls 5 [(1, .int v1)] → W p l e (zR 3) s m args below meth c H locs 0 0 (zQ below G A (some (.int res)) M args s) (F0 m 51 ls [])) : ∀ (n : Nat) (v1 : Int32) (v2 : Int32) (v3 : Int32), f_X2_evenestCase_11 t0 M K n v1 v2 v3 = some res → ∀ (H : Heap) (locs : List Loc) (ls : Array Slot), zWd G A s H locs M → lv_has ls 5 [(0, .ref (za G t0)), (1, .int v1), (2, .int v2), (3, .int v3)] → W p l e (zR 3) s m args below meth c H locs 0 0 (zQ below G A (some (.int res)) M args s) (F0 m 11 ls []) := by
  have hx := S.1.1
  have hb := S.1.2.1
  have hown := S.1.2.2.2.1
  have hts := S.1.2.2.2.2
  intro n
  induction n with
  | zero =>
    intro v1 v2 v3 h
    rw [f_X2_evenestCase_11] at h
    cases h
  | succ n ih =>
    intro v1 v2 v3 h H locs ls hw hl
    rw [f_X2_evenestCase_11] at h
    refine lv_iload_n hx hb dX2_evenestCase_11 rfl (lv_at hl 3 rfl) ?_
    refine lv_bipush (v := 32) hx hb dX2_evenestCase_12 (by decide) ?_
    refine lv_icmp_ge (tgt := 51) hx hb dX2_evenestCase_14 (by decide) (fun c2 => ?_) (fun c2 => ?_)
    · have h := zif_t h c2
      exact hK v1 h H locs ls hw (lv_sub hl [1] rfl)
    · have h := zif_f h c2
      refine lv_iconst (v := 2) hx hb dX2_evenestCase_17 (by decide) ?_
      refine lv_aload_n hx hb dX2_evenestCase_18 rfl (lv_at hl 0 rfl) ?_
      refine lv_iload_n hx hb dX2_evenestCase_19 rfl (lv_at hl 3 rfl) ?_
      obtain ⟨q3, eq3, h⟩ := Option.bind_eq_some_iff.mp h
      refine z_callV (ci := 2) (As := [.int v3]) (rest := [.int 2]) (rv := (some (.int q3))) (M1 := M) S hw (c_X2_lettingAt l hG t0 v3 k0 M q3 eq3) mv_X2_lettingAt lk_X2_90 k0 ⟨_, _, rfl⟩ (by decide) rfl rfl (Nat.le_of_ble_eq_true rfl) ⟨Nat.le_of_ble_eq_true rfl, Nat.le_of_ble_eq_true rfl⟩ hl.1 dX2_evenestCase_20 (fun H locs hw => ?_)
      refine lv_imul hx hb dX2_evenestCase_23 ?_
      refine lv_aload_n hx hb dX2_evenestCase_24 rfl (lv_at hl 0 rfl) ?_
      refine z_getI S hw k0 fl_X2_33 rfl dX2_evenestCase_25 ?_
      refine lv_isub hx hb dX2_evenestCase_28 ?_
      refine z_absI S lkm_X2_93 hl.1 ⟨Nat.le_of_ble_eq_true rfl, Nat.le_of_ble_eq_true rfl⟩ dX2_evenestCase_29 ?_
      obtain ⟨x5, ex5, h⟩ := zlet_ex h
      refine lv_topiE ex5 ?_
      refine lv_istore (lv' := [(4, .int x5), (0, .ref (za G t0)), (1, .int v1), (2, .int v2), (3, .int v3)]) hx hb dX2_evenestCase_32 hl (by decide) rfl (fun ls hl => ?_)
      refine lv_iload hx hb dX2_evenestCase_34 (lv_at hl 0 rfl) ?_
      refine lv_iload_n hx hb dX2_evenestCase_36 rfl (lv_at hl 3 rfl) ?_
      refine lv_icmp_ge (tgt := 45) hx hb dX2_evenestCase_37 (by decide) (fun c6 => ?_) (fun c6 => ?_)
      · have h := zif_t h c6
        obtain ⟨x7, ex7, h⟩ := zlet_ex h
        refine lv_iinc (v := x7) (lv' := [(3, .int x7), (4, .int x5), (0, .ref (za G t0)), (1, .int v1), (2, .int v2)]) hx hb dX2_evenestCase_45 hl (k := 4) rfl (by rw [ex7]; rfl) (by decide) rfl (fun ls hl => ?_)
        refine lv_goto (tgt := 11) hx hb dX2_evenestCase_48 (by decide) ?_
        exact ih v1 v2 x7 h H locs ls hw (lv_sub hl [2, 3, 4, 0] rfl)
      · have h := zif_f h c6
        refine lv_iload hx hb dX2_evenestCase_40 (lv_at hl 0 rfl) ?_
        refine lv_istore_n (lv' := [(2, .int x5), (4, .int x5), (0, .ref (za G t0)), (1, .int v1), (3, .int v3)]) hx hb dX2_evenestCase_42 rfl hl (by decide) rfl (fun ls hl => ?_)
        refine lv_iload_n hx hb dX2_evenestCase_43 rfl (lv_at hl 4 rfl) ?_
        refine lv_istore_n (lv' := [(1, .int v3), (2, .int x5), (4, .int x5), (0, .ref (za G t0)), (3, .int v3)]) hx hb dX2_evenestCase_44 rfl hl (by decide) rfl (fun ls hl => ?_)
        obtain ⟨x8, ex8, h⟩ := zlet_ex h
        refine lv_iinc (v := x8) (lv' := [(3, .int x8), (1, .int v3), (2, .int x5), (4, .int x5), (0, .ref (za G t0))]) hx hb dX2_evenestCase_45 hl (k := 4) rfl (by rw [ex8]; rfl) (by decide) rfl (fun ls hl => ?_)
        refine lv_goto (tgt := 11) hx hb dX2_evenestCase_48 (by decide) ?_
        exact ih v3 x5 x8 h H locs ls hw (lv_sub hl [4, 1, 2, 0] rfl)
set_option maxHeartbeats 4000000 in
set_option maxRecDepth 100000 in
theorem c_X2_evenestCase (l : Launch) {G : ZG} (hG : zOk G) (t0 : Nat) (k0 : zk G t0 = 12) (M : ZM) (res : Int32) (h : f_X2_evenestCase t0 M = some res) : zCt l yX2_evenestCase cX2_evenestCase 5 (Option.some FieldType.int) 3 G [.ref (za G t0)] M (some (.int res)) M := by
  refine zCt.mk (by decide +kernel) (Nat.le_of_ble_eq_true rfl) ?_
  intro p e s m args below meth c A H locs ls S hr hlk hw hl
  have S : zX p (zR 3) s m args c 0 0 cX2_evenestCase 5 RX2 := S
  have hx := S.1.1
  have hb := S.1.2.1
  have hown := S.1.2.2.2.1
  have hts := S.1.2.2.2.2
  have hl : lv_has ls 5 [(0, .ref (za G t0))] := hl
  unfold f_X2_evenestCase at h
  refine lv_iconst (v := 0) hx hb dX2_evenestCase_0 (by decide) ?_
  refine lv_istore_n (lv' := [(1, .int 0), (0, .ref (za G t0))]) hx hb dX2_evenestCase_1 rfl hl (by decide) rfl (fun ls hl => ?_)
  refine lv_aload_n hx hb dX2_evenestCase_2 rfl (lv_at hl 1 rfl) ?_
  refine z_getI S hw k0 fl_X2_33 rfl dX2_evenestCase_3 ?_
  refine lv_iconst (v := 1) hx hb dX2_evenestCase_6 (by decide) ?_
  refine lv_iadd hx hb dX2_evenestCase_7 ?_
  obtain ⟨x1, ex1, h⟩ := zlet_ex h
  refine lv_topiE ex1 ?_
  refine lv_istore_n (lv' := [(2, .int x1), (1, .int 0), (0, .ref (za G t0))]) hx hb dX2_evenestCase_8 rfl hl (by decide) rfl (fun ls hl => ?_)
  refine lv_iconst (v := 0) hx hb dX2_evenestCase_9 (by decide) ?_
  refine lv_istore_n (lv' := [(3, .int 0), (2, .int x1), (1, .int 0), (0, .ref (za G t0))]) hx hb dX2_evenestCase_10 rfl hl (by decide) rfl (fun ls hl => ?_)
  refine w_X2_evenestCase_11 hG S hr hlk t0 k0 M (fun v1 h H locs ls hw hl => ?_) zN 0 x1 0 h H locs ls hw (lv_sub hl [3, 2, 1, 0] rfl)
  refine lv_iload_n hx hb dX2_evenestCase_51 rfl (lv_at hl 0 rfl) ?_
  have h := Option.some.inj h
  subst h
  exact z_ret_i S hr hlk hw dX2_evenestCase_52
def f_X11_test (t0 : Nat) (M : ZM) : Option (Int32 × ZM) :=
  (f_X11_spent t0 M).bind fun (q1 : (Int32 × ZM)) =>
  if q1.1 = 0 then (
    (f_X2_evenestCase (zr t0 5) q1.2).bind fun (q3 : Int32) =>
    some (q3, q1.2)) else (
    zlet (f_X11_refuse t0 (-5) q1.2) fun (q4 : (Int32 × ZM)) =>
    some (q4.1, q4.2))
set_option maxHeartbeats 4000000 in
set_option maxRecDepth 100000 in
theorem c_X11_test (l : Launch) {G : ZG} (hG : zOk G) (t0 : Nat) (k0 : zk G t0 = 21) (M : ZM) (res : (Int32 × ZM)) (h : f_X11_test t0 M = some res) : zCt l yX11_test cX11_test 1 (Option.some FieldType.int) 6 G [.ref (za G t0)] M (some (.int res.1)) res.2 := by
  refine zCt.mk (by decide +kernel) (Nat.le_of_ble_eq_true rfl) ?_
  intro p e s m args below meth c A H locs ls S hr hlk hw hl
  have S : zX p (zR 6) s m args c 0 0 cX11_test 1 RX11 := S
  have hx := S.1.1
  have hb := S.1.2.1
  have hown := S.1.2.2.2.1
  have hts := S.1.2.2.2.2
  have hl : lv_has ls 1 [(0, .ref (za G t0))] := hl
  unfold f_X11_test at h
  refine lv_aload_n hx hb dX11_test_0 rfl (lv_at hl 0 rfl) ?_
  obtain ⟨q1, eq1, h⟩ := Option.bind_eq_some_iff.mp h
  refine z_callV (ci := 11) (As := []) (rest := []) (rv := (some (.int q1.1))) (M1 := q1.2) S hw (c_X11_spent l hG t0 k0 M q1 eq1) mv_X11_spent lk_X11_126 k0 ⟨_, _, rfl⟩ (by decide) rfl rfl (Nat.le_of_ble_eq_true rfl) ⟨Nat.le_of_ble_eq_true rfl, Nat.le_of_ble_eq_true rfl⟩ hl.1 dX11_test_1 (fun H locs hw => ?_)
  refine lv_if_eq (tgt := 16) hx hb dX11_test_4 (by decide) (fun c2 => ?_) (fun c2 => ?_)
  · have h := zif_t h c2
    refine lv_aload_n hx hb dX11_test_16 rfl (lv_at hl 0 rfl) ?_
    refine z_getR S hw k0 fl_X11_39 rfl dX11_test_17 ?_
    obtain ⟨q3, eq3, h⟩ := Option.bind_eq_some_iff.mp h
    refine z_callV (ci := 2) (As := []) (rest := []) (rv := (some (.int q3))) (M1 := q1.2) S hw (c_X2_evenestCase l hG (zr t0 5) (kr_11_5 hG k0) q1.2 q3 eq3) mv_X2_evenestCase lk_X11_213 (kr_11_5 hG k0) ⟨_, _, rfl⟩ (by decide) rfl rfl (Nat.le_of_ble_eq_true rfl) ⟨Nat.le_of_ble_eq_true rfl, Nat.le_of_ble_eq_true rfl⟩ hl.1 dX11_test_20 (fun H locs hw => ?_)
    have h := Option.some.inj h
    subst h
    exact z_ret_i S hr hlk hw dX11_test_23
  · have h := zif_f h c2
    refine lv_aload_n hx hb dX11_test_7 rfl (lv_at hl 0 rfl) ?_
    refine lv_bipush (v := (-5)) hx hb dX11_test_8 (by decide) ?_
    obtain ⟨q4, eq4, h⟩ := zlet_ex h
    refine z_callV (ci := 11) (As := [.int (-5)]) (rest := []) (rv := (some (.int q4.1))) (M1 := q4.2) S hw (c_X11_refuse l hG t0 (-5) k0 q1.2 q4 eq4.symm) mv_X11_refuse lk_X11_100 k0 ⟨_, _, rfl⟩ (by decide) rfl rfl (Nat.le_of_ble_eq_true rfl) ⟨Nat.le_of_ble_eq_true rfl, Nat.le_of_ble_eq_true rfl⟩ hl.1 dX11_test_10 (fun H locs hw => ?_)
    refine lv_goto (tgt := 23) hx hb dX11_test_13 (by decide) ?_
    have h := Option.some.inj h
    subst h
    exact z_ret_i S hr hlk hw dX11_test_23
def f_X8_arePartedBy_6 (t0 : Nat) (v1 : Int32) (v2 : Int32) (v3 : Int32) (M : ZM) (K : Option Int32) : Nat → Int32 → Int32 → Option Int32
  | 0, _, _ => none
  | n + 1, v4, v5 =>
    if (M.1 t0 1) ≤ v5 then (
      K) else (
      zlet (f_X11_look_ (zr t0 0) v5 M) fun (q2 : Int64) =>
      zlet (f_X11_bit q2 v1 M) fun (q3 : Int32) =>
      zlet (f_X11_bit q2 v2 M) fun (q4 : Int32) =>
      zlet (f_X11_bit q2 v3 M) fun (q5 : Int32) =>
      zlet (1 <<< (((q3 + (2 * q4)) + (4 * q5)) &&& 31)) fun (x6 : Int32) =>
      if (v4 &&& x6) = 0 then (
        zlet (v4 ||| x6) fun (x8 : Int32) =>
        zlet (v5 + 1) fun (x9 : Int32) =>
        f_X8_arePartedBy_6 t0 v1 v2 v3 M K n x8 x9) else (
        some (0 : Int32)))

def f_X8_arePartedBy (t0 : Nat) (v1 : Int32) (v2 : Int32) (v3 : Int32) (M : ZM) : Option Int32 :=
  f_X8_arePartedBy_6 t0 v1 v2 v3 M (
    some (1 : Int32)) zN 0 0
set_option maxHeartbeats 4000000 in
set_option maxRecDepth 100000 in
theorem w_X8_arePartedBy_6 {G : ZG} (hG : zOk G) (S : zX p (zR 1) s m args c 0 0 cX8_arePartedBy 9 RX8) (hr : meth.sig.returnType = (Option.some FieldType.boolean)) (hlk : meth.locks = false) (t0 : Nat) (v1 : Int32) (v2 : Int32) (v3 : Int32) (k0 : zk G t0 = 18) (M : ZM)  {K : Option Int32} {res : Int32} (hK : K = some res → ∀ (H : Heap) (locs : List Loc) (ls : Array Slot), zWd G A s H locs M → lv_has ls 9 [] → W p l e (zR 1) s m args below meth c H locs 0 0 (zQ below G A (some (.int res)) M args s) (F0 m 77 ls [])) : ∀ (n : Nat) (v4 : Int32) (v5 : Int32), f_X8_arePartedBy_6 t0 v1 v2 v3 M K n v4 v5 = some res → ∀ (H : Heap) (locs : List Loc) (ls : Array Slot), zWd G A s H locs M → lv_has ls 9 [(0, .ref (za G t0)), (1, .int v1), (2, .int v2), (3, .int v3), (4, .int v4), (5, .int v5)] → W p l e (zR 1) s m args below meth c H locs 0 0 (zQ below G A (some (.int res)) M args s) (F0 m 6 ls []) := by
  have hx := S.1.1
  have hb := S.1.2.1
  have hown := S.1.2.2.2.1
  have hts := S.1.2.2.2.2
  intro n
  induction n with
  | zero =>
    intro v4 v5 h
    rw [f_X8_arePartedBy_6] at h
    cases h
  | succ n ih =>
    intro v4 v5 h H locs ls hw hl
    rw [f_X8_arePartedBy_6] at h
    refine lv_iload hx hb dX8_arePartedBy_6 (lv_at hl 5 rfl) ?_
    refine lv_aload_n hx hb dX8_arePartedBy_8 rfl (lv_at hl 0 rfl) ?_
    refine z_getI S hw k0 fl_X8_15 rfl dX8_arePartedBy_9 ?_
    refine lv_icmp_ge (tgt := 77) hx hb dX8_arePartedBy_12 (by decide) (fun c1 => ?_) (fun c1 => ?_)
    · have h := zif_t h c1
      exact hK  h H locs ls hw (lv_sub hl [] rfl)
    · have h := zif_f h c1
      refine lv_aload_n hx hb dX8_arePartedBy_15 rfl (lv_at hl 0 rfl) ?_
      refine z_getR S hw k0 fl_X8_9 rfl dX8_arePartedBy_16 ?_
      refine lv_iload hx hb dX8_arePartedBy_19 (lv_at hl 5 rfl) ?_
      obtain ⟨q2, eq2, h⟩ := zlet_ex h
      refine z_callS (As := [.ref (za G (zr t0 0)), .int v5]) (rest := []) (rv := (some (.long q2))) (M1 := M) S hw (c_X11_look_ l hG (zr t0 0) v5 (kr_8_0 hG k0) M q2 eq2.symm) mv_X11_look_ lk_X8_36 rfl rfl (Nat.le_of_ble_eq_true rfl) ⟨Nat.le_of_ble_eq_true rfl, Nat.le_of_ble_eq_true rfl⟩ hl.1 dX8_arePartedBy_21 (fun H locs hw => ?_)
      refine lv_lstore (lv' := [(6, .long q2), (0, .ref (za G t0)), (1, .int v1), (2, .int v2), (3, .int v3), (4, .int v4), (5, .int v5)]) hx hb dX8_arePartedBy_24 hl (by decide) rfl (fun ls hl => ?_)
      refine lv_iconst (v := 1) hx hb dX8_arePartedBy_26 (by decide) ?_
      refine lv_lload hx hb dX8_arePartedBy_27 (lv_at hl 0 rfl) ?_
      refine lv_iload_n hx hb dX8_arePartedBy_29 rfl (lv_at hl 2 rfl) ?_
      obtain ⟨q3, eq3, h⟩ := zlet_ex h
      refine z_callS (As := [.long q2, .int v1]) (rest := [.int 1]) (rv := (some (.int q3))) (M1 := M) S hw (c_X11_bit l hG q2 v1 M q3 eq3.symm) mv_X11_bit lk_X8_48 rfl rfl (Nat.le_of_ble_eq_true rfl) ⟨Nat.le_of_ble_eq_true rfl, Nat.le_of_ble_eq_true rfl⟩ hl.1 dX8_arePartedBy_30 (fun H locs hw => ?_)
      refine lv_iconst (v := 2) hx hb dX8_arePartedBy_33 (by decide) ?_
      refine lv_lload hx hb dX8_arePartedBy_34 (lv_at hl 0 rfl) ?_
      refine lv_iload_n hx hb dX8_arePartedBy_36 rfl (lv_at hl 3 rfl) ?_
      obtain ⟨q4, eq4, h⟩ := zlet_ex h
      refine z_callS (As := [.long q2, .int v2]) (rest := [.int 2, .int q3, .int 1]) (rv := (some (.int q4))) (M1 := M) S hw (c_X11_bit l hG q2 v2 M q4 eq4.symm) mv_X11_bit lk_X8_48 rfl rfl (Nat.le_of_ble_eq_true rfl) ⟨Nat.le_of_ble_eq_true rfl, Nat.le_of_ble_eq_true rfl⟩ hl.1 dX8_arePartedBy_37 (fun H locs hw => ?_)
      refine lv_imul hx hb dX8_arePartedBy_40 ?_
      refine lv_iadd hx hb dX8_arePartedBy_41 ?_
      refine lv_iconst (v := 4) hx hb dX8_arePartedBy_42 (by decide) ?_
      refine lv_lload hx hb dX8_arePartedBy_43 (lv_at hl 0 rfl) ?_
      refine lv_iload_n hx hb dX8_arePartedBy_45 rfl (lv_at hl 4 rfl) ?_
      obtain ⟨q5, eq5, h⟩ := zlet_ex h
      refine z_callS (As := [.long q2, .int v3]) (rest := [.int 4, .int (q3 + (2 * q4)), .int 1]) (rv := (some (.int q5))) (M1 := M) S hw (c_X11_bit l hG q2 v3 M q5 eq5.symm) mv_X11_bit lk_X8_48 rfl rfl (Nat.le_of_ble_eq_true rfl) ⟨Nat.le_of_ble_eq_true rfl, Nat.le_of_ble_eq_true rfl⟩ hl.1 dX8_arePartedBy_46 (fun H locs hw => ?_)
      refine lv_imul hx hb dX8_arePartedBy_49 ?_
      refine lv_iadd hx hb dX8_arePartedBy_50 ?_
      refine lv_ishl hx hb dX8_arePartedBy_51 ?_
      obtain ⟨x6, ex6, h⟩ := zlet_ex h
      refine lv_topiE ex6 ?_
      refine lv_istore (lv' := [(8, .int x6), (6, .long q2), (0, .ref (za G t0)), (1, .int v1), (2, .int v2), (3, .int v3), (4, .int v4), (5, .int v5)]) hx hb dX8_arePartedBy_52 hl (by decide) rfl (fun ls hl => ?_)
      refine lv_iload hx hb dX8_arePartedBy_54 (lv_at hl 6 rfl) ?_
      refine lv_iload hx hb dX8_arePartedBy_56 (lv_at hl 0 rfl) ?_
      refine lv_iand hx hb dX8_arePartedBy_58 ?_
      refine lv_if_eq (tgt := 64) hx hb dX8_arePartedBy_59 (by decide) (fun c7 => ?_) (fun c7 => ?_)
      · have h := zif_t h c7
        refine lv_iload hx hb dX8_arePartedBy_64 (lv_at hl 6 rfl) ?_
        refine lv_iload hx hb dX8_arePartedBy_66 (lv_at hl 0 rfl) ?_
        refine lv_ior hx hb dX8_arePartedBy_68 ?_
        obtain ⟨x8, ex8, h⟩ := zlet_ex h
        refine lv_topiE ex8 ?_
        refine lv_istore (lv' := [(4, .int x8), (8, .int x6), (6, .long q2), (0, .ref (za G t0)), (1, .int v1), (2, .int v2), (3, .int v3), (5, .int v5)]) hx hb dX8_arePartedBy_69 hl (by decide) rfl (fun ls hl => ?_)
        obtain ⟨x9, ex9, h⟩ := zlet_ex h
        refine lv_iinc (v := x9) (lv' := [(5, .int x9), (4, .int x8), (8, .int x6), (6, .long q2), (0, .ref (za G t0)), (1, .int v1), (2, .int v2), (3, .int v3)]) hx hb dX8_arePartedBy_71 hl (k := 7) rfl (by rw [ex9]; rfl) (by decide) rfl (fun ls hl => ?_)
        refine lv_goto (tgt := 6) hx hb dX8_arePartedBy_74 (by decide) ?_
        exact ih x8 x9 h H locs ls hw (lv_sub hl [4, 5, 6, 7, 1, 0] rfl)
      · have h := zif_f h c7
        refine lv_iconst (v := 0) hx hb dX8_arePartedBy_62 (by decide) ?_
        have h := Option.some.inj h
        subst h
        exact z_ret_z S hr hlk (Or.inl rfl) hw dX8_arePartedBy_63
set_option maxHeartbeats 4000000 in
set_option maxRecDepth 100000 in
theorem c_X8_arePartedBy (l : Launch) {G : ZG} (hG : zOk G) (t0 : Nat) (v1 : Int32) (v2 : Int32) (v3 : Int32) (k0 : zk G t0 = 18) (M : ZM) (res : Int32) (h : f_X8_arePartedBy t0 v1 v2 v3 M = some res) : zCt l yX8_arePartedBy cX8_arePartedBy 9 (Option.some FieldType.boolean) 1 G [.ref (za G t0), .int v1, .int v2, .int v3] M (some (.int res)) M := by
  refine zCt.mk (by decide +kernel) (Nat.le_of_ble_eq_true rfl) ?_
  intro p e s m args below meth c A H locs ls S hr hlk hw hl
  have S : zX p (zR 1) s m args c 0 0 cX8_arePartedBy 9 RX8 := S
  have hx := S.1.1
  have hb := S.1.2.1
  have hown := S.1.2.2.2.1
  have hts := S.1.2.2.2.2
  have hl : lv_has ls 9 [(0, .ref (za G t0)), (1, .int v1), (2, .int v2), (3, .int v3)] := hl
  unfold f_X8_arePartedBy at h
  refine lv_iconst (v := 0) hx hb dX8_arePartedBy_0 (by decide) ?_
  refine lv_istore (lv' := [(4, .int 0), (0, .ref (za G t0)), (1, .int v1), (2, .int v2), (3, .int v3)]) hx hb dX8_arePartedBy_1 hl (by decide) rfl (fun ls hl => ?_)
  refine lv_iconst (v := 0) hx hb dX8_arePartedBy_3 (by decide) ?_
  refine lv_istore (lv' := [(5, .int 0), (4, .int 0), (0, .ref (za G t0)), (1, .int v1), (2, .int v2), (3, .int v3)]) hx hb dX8_arePartedBy_4 hl (by decide) rfl (fun ls hl => ?_)
  refine w_X8_arePartedBy_6 hG S hr hlk t0 v1 v2 v3 k0 M (fun h H locs ls hw hl => ?_) zN 0 0 h H locs ls hw (lv_sub hl [2, 3, 4, 5, 1, 0] rfl)
  refine lv_iconst (v := 1) hx hb dX8_arePartedBy_77 (by decide) ?_
  have h := Option.some.inj h
  subst h
  exact z_ret_z S hr hlk (Or.inr rfl) hw dX8_arePartedBy_78
def f_X8_isThirdFor_4 (t0 : Nat) (v1 : Int32) (v2 : Int32) (M : ZM) (K : Option Int32) : Nat → Int32 → Option Int32
  | 0, _ => none
  | n + 1, v3 =>
    if 32 ≤ v3 then (
      K) else (
      (f_X8_arePartedBy t0 v1 v2 v3 M).bind fun (q3 : Int32) =>
      if q3 = 0 then (
        zlet (v3 + 1) fun (x5 : Int32) =>
        f_X8_isThirdFor_4 t0 v1 v2 M K n x5) else (
        some (1 : Int32)))

def f_X8_isThirdFor (t0 : Nat) (v1 : Int32) (v2 : Int32) (M : ZM) : Option Int32 :=
  zlet (v2 + 1) fun (x1 : Int32) =>
  f_X8_isThirdFor_4 t0 v1 v2 M (
    some (0 : Int32)) zN x1
set_option maxHeartbeats 4000000 in
set_option maxRecDepth 100000 in
theorem w_X8_isThirdFor_4 {G : ZG} (hG : zOk G) (S : zX p (zR 2) s m args c 0 0 cX8_isThirdFor 4 RX8) (hr : meth.sig.returnType = (Option.some FieldType.boolean)) (hlk : meth.locks = false) (t0 : Nat) (v1 : Int32) (v2 : Int32) (k0 : zk G t0 = 18) (M : ZM)  {K : Option Int32} {res : Int32} (hK : K = some res → ∀ (H : Heap) (locs : List Loc) (ls : Array Slot), zWd G A s H locs M → lv_has ls 4 [] → W p l e (zR 2) s m args below meth c H locs 0 0 (zQ below G A (some (.int res)) M args s) (F0 m 28 ls [])) : ∀ (n : Nat) (v3 : Int32), f_X8_isThirdFor_4 t0 v1 v2 M K n v3 = some res → ∀ (H : Heap) (locs : List Loc) (ls : Array Slot), zWd G A s H locs M → lv_has ls 4 [(0, .ref (za G t0)), (1, .int v1), (2, .int v2), (3, .int v3)] → W p l e (zR 2) s m args below meth c H locs 0 0 (zQ below G A (some (.int res)) M args s) (F0 m 4 ls []) := by
  have hx := S.1.1
  have hb := S.1.2.1
  have hown := S.1.2.2.2.1
  have hts := S.1.2.2.2.2
  intro n
  induction n with
  | zero =>
    intro v3 h
    rw [f_X8_isThirdFor_4] at h
    cases h
  | succ n ih =>
    intro v3 h H locs ls hw hl
    rw [f_X8_isThirdFor_4] at h
    refine lv_iload_n hx hb dX8_isThirdFor_4 rfl (lv_at hl 3 rfl) ?_
    refine lv_bipush (v := 32) hx hb dX8_isThirdFor_5 (by decide) ?_
    refine lv_icmp_ge (tgt := 28) hx hb dX8_isThirdFor_7 (by decide) (fun c2 => ?_) (fun c2 => ?_)
    · have h := zif_t h c2
      exact hK  h H locs ls hw (lv_sub hl [] rfl)
    · have h := zif_f h c2
      refine lv_aload_n hx hb dX8_isThirdFor_10 rfl (lv_at hl 0 rfl) ?_
      refine lv_iload_n hx hb dX8_isThirdFor_11 rfl (lv_at hl 1 rfl) ?_
      refine lv_iload_n hx hb dX8_isThirdFor_12 rfl (lv_at hl 2 rfl) ?_
      refine lv_iload_n hx hb dX8_isThirdFor_13 rfl (lv_at hl 3 rfl) ?_
      obtain ⟨q3, eq3, h⟩ := Option.bind_eq_some_iff.mp h
      refine z_callV (ci := 8) (As := [.int v1, .int v2, .int v3]) (rest := []) (rv := (some (.int q3))) (M1 := M) S hw (c_X8_arePartedBy l hG t0 v1 v2 v3 k0 M q3 eq3) mv_X8_arePartedBy lk_X8_40 k0 ⟨_, _, rfl⟩ (by decide) rfl rfl (Nat.le_of_ble_eq_true rfl) ⟨Nat.le_of_ble_eq_true rfl, Nat.le_of_ble_eq_true rfl⟩ hl.1 dX8_isThirdFor_14 (fun H locs hw => ?_)
      refine lv_if_eq (tgt := 22) hx hb dX8_isThirdFor_17 (by decide) (fun c4 => ?_) (fun c4 => ?_)
      · have h := zif_t h c4
        obtain ⟨x5, ex5, h⟩ := zlet_ex h
        refine lv_iinc (v := x5) (lv' := [(3, .int x5), (0, .ref (za G t0)), (1, .int v1), (2, .int v2)]) hx hb dX8_isThirdFor_22 hl (k := 3) rfl (by rw [ex5]; rfl) (by decide) rfl (fun ls hl => ?_)
        refine lv_goto (tgt := 4) hx hb dX8_isThirdFor_25 (by decide) ?_
        exact ih x5 h H locs ls hw (lv_sub hl [1, 2, 3, 0] rfl)
      · have h := zif_f h c4
        refine lv_iconst (v := 1) hx hb dX8_isThirdFor_20 (by decide) ?_
        have h := Option.some.inj h
        subst h
        exact z_ret_z S hr hlk (Or.inr rfl) hw dX8_isThirdFor_21
set_option maxHeartbeats 4000000 in
set_option maxRecDepth 100000 in
theorem c_X8_isThirdFor (l : Launch) {G : ZG} (hG : zOk G) (t0 : Nat) (v1 : Int32) (v2 : Int32) (k0 : zk G t0 = 18) (M : ZM) (res : Int32) (h : f_X8_isThirdFor t0 v1 v2 M = some res) : zCt l yX8_isThirdFor cX8_isThirdFor 4 (Option.some FieldType.boolean) 2 G [.ref (za G t0), .int v1, .int v2] M (some (.int res)) M := by
  refine zCt.mk (by decide +kernel) (Nat.le_of_ble_eq_true rfl) ?_
  intro p e s m args below meth c A H locs ls S hr hlk hw hl
  have S : zX p (zR 2) s m args c 0 0 cX8_isThirdFor 4 RX8 := S
  have hx := S.1.1
  have hb := S.1.2.1
  have hown := S.1.2.2.2.1
  have hts := S.1.2.2.2.2
  have hl : lv_has ls 4 [(0, .ref (za G t0)), (1, .int v1), (2, .int v2)] := hl
  unfold f_X8_isThirdFor at h
  refine lv_iload_n hx hb dX8_isThirdFor_0 rfl (lv_at hl 2 rfl) ?_
  refine lv_iconst (v := 1) hx hb dX8_isThirdFor_1 (by decide) ?_
  refine lv_iadd hx hb dX8_isThirdFor_2 ?_
  obtain ⟨x1, ex1, h⟩ := zlet_ex h
  refine lv_topiE ex1 ?_
  refine lv_istore_n (lv' := [(3, .int x1), (0, .ref (za G t0)), (1, .int v1), (2, .int v2)]) hx hb dX8_isThirdFor_3 rfl hl (by decide) rfl (fun ls hl => ?_)
  refine w_X8_isThirdFor_4 hG S hr hlk t0 v1 v2 k0 M (fun h H locs ls hw hl => ?_) zN x1 h H locs ls hw (lv_sub hl [1, 2, 3, 0] rfl)
  refine lv_iconst (v := 0) hx hb dX8_isThirdFor_28 (by decide) ?_
  have h := Option.some.inj h
  subst h
  exact z_ret_z S hr hlk (Or.inl rfl) hw dX8_isThirdFor_29
end Z
