section Z
variable {p : Program} {l : Launch} {e : Env} {s : State} {m : MethodId} {args : Array Value} {below : List Frame} {meth : Method} {c : Code} {A : Nat → Prop}
def f_X5_meaning (t0 : Nat) (M : ZM) : Int64 :=
  zlet (f_X11_look_ (zr t0 0) 0 M) fun (q1 : Int64) =>
  q1
set_option maxHeartbeats 4000000 in
set_option maxRecDepth 100000 in
theorem c_X5_meaning (l : Launch) {G : ZG} (hG : zOk G) (t0 : Nat) (k0 : zk G t0 = 15) (M : ZM) (res : Int64) (h : f_X5_meaning t0 M = res) : zCt l yX5_meaning cX5_meaning 1 (Option.some FieldType.long) 1 G [.ref (za G t0)] M (some (.long res)) M := by
  refine zCt.mk (by decide +kernel) (Nat.le_of_ble_eq_true rfl) ?_
  intro p e s m args below meth c A H locs ls S hr hlk hw hl
  have S : zX p (zR 1) s m args c 0 0 cX5_meaning 1 RX5 := S
  have hx := S.1.1
  have hb := S.1.2.1
  have hown := S.1.2.2.2.1
  have hts := S.1.2.2.2.2
  have hl : lv_has ls 1 [(0, .ref (za G t0))] := hl
  unfold f_X5_meaning at h
  refine lv_aload_n hx hb dX5_meaning_0 rfl (lv_at hl 0 rfl) ?_
  refine z_getR S hw k0 fl_X5_9 rfl dX5_meaning_1 ?_
  refine lv_iconst (v := 0) hx hb dX5_meaning_4 (by decide) ?_
  obtain ⟨q1, eq1, h⟩ := zlet_ex h
  refine z_callS (As := [.ref (za G (zr t0 0)), .int 0]) (rest := []) (rv := (some (.long q1))) (M1 := M) S hw (c_X11_look_ l hG (zr t0 0) 0 (kr_5_0 hG k0) M q1 eq1.symm) mv_X11_look_ lk_X5_22 rfl rfl (Nat.le_of_ble_eq_true rfl) ⟨Nat.le_of_ble_eq_true rfl, Nat.le_of_ble_eq_true rfl⟩ hl.1 dX5_meaning_5 (fun H locs hw => ?_)
  subst h
  exact z_ret_l S hr hlk hw dX5_meaning_8
def f_X5_brokenByWhole (t0 : Nat) (M : ZM) : Int32 :=
  zlet (fun (v1 : Int32) =>
    zlet (v1 ||| 32) fun (x1 : Int32) =>
    x1) fun J34 =>
  zlet (fun (v1 : Int32) =>
    zlet (f_X5_meaning t0 M) fun (q2 : Int64) =>
    if (lg_cmp q2 0) = 0 then (
      J34 v1) else (
      zlet (f_X5_meaning t0 M) fun (q4 : Int64) =>
      if (lg_cmp q4 4294967295) = 0 then (
        J34 v1) else (
        v1))) fun J14 =>
  if (M.1 t0 3) = 0 then (
    J14 0) else (
    zlet (0 ||| 16) fun (x7 : Int32) =>
    J14 x7)
set_option maxHeartbeats 4000000 in
set_option maxRecDepth 100000 in
theorem c_X5_brokenByWhole (l : Launch) {G : ZG} (hG : zOk G) (t0 : Nat) (k0 : zk G t0 = 15) (M : ZM) (res : Int32) (h : f_X5_brokenByWhole t0 M = res) : zCt l yX5_brokenByWhole cX5_brokenByWhole 2 (Option.some FieldType.int) 2 G [.ref (za G t0)] M (some (.int res)) M := by
  refine zCt.mk (by decide +kernel) (Nat.le_of_ble_eq_true rfl) ?_
  intro p e s m args below meth c A H locs ls S hr hlk hw hl
  have S : zX p (zR 2) s m args c 0 0 cX5_brokenByWhole 2 RX5 := S
  have hx := S.1.1
  have hb := S.1.2.1
  have hown := S.1.2.2.2.1
  have hts := S.1.2.2.2.2
  have hl : lv_has ls 2 [(0, .ref (za G t0))] := hl
  unfold f_X5_brokenByWhole at h
  obtain ⟨J34, hJ34, h⟩ := zlet_ex h
  have wJ34 : ∀ (v1 : Int32), J34 v1 = res → ∀ (H : Heap) (locs : List Loc) (ls : Array Slot), zWd G A s H locs M → lv_has ls 2 [(1, .int v1)] → W p l e (zR 2) s m args below meth c H locs 0 0 (zQ below G A (some (.int res)) M args s) (F0 m 34 ls []) := by
    intro v1 h H locs ls hw hl
    subst hJ34
    refine lv_iload_n hx hb dX5_brokenByWhole_34 rfl (lv_at hl 0 rfl) ?_
    refine lv_bipush (v := 32) hx hb dX5_brokenByWhole_35 (by decide) ?_
    refine lv_ior hx hb dX5_brokenByWhole_37 ?_
    obtain ⟨x1, ex1, h⟩ := zlet_ex h
    refine lv_topiE ex1 ?_
    refine lv_istore_n (lv' := [(1, .int x1)]) hx hb dX5_brokenByWhole_38 rfl hl (by decide) rfl (fun ls hl => ?_)
    refine lv_iload_n hx hb dX5_brokenByWhole_39 rfl (lv_at hl 0 rfl) ?_
    subst h
    exact z_ret_i S hr hlk hw dX5_brokenByWhole_40
  obtain ⟨J14, hJ14, h⟩ := zlet_ex h
  have wJ14 : ∀ (v1 : Int32), J14 v1 = res → ∀ (H : Heap) (locs : List Loc) (ls : Array Slot), zWd G A s H locs M → lv_has ls 2 [(0, .ref (za G t0)), (1, .int v1)] → W p l e (zR 2) s m args below meth c H locs 0 0 (zQ below G A (some (.int res)) M args s) (F0 m 14 ls []) := by
    intro v1 h H locs ls hw hl
    subst hJ14
    refine lv_aload_n hx hb dX5_brokenByWhole_14 rfl (lv_at hl 0 rfl) ?_
    obtain ⟨q2, eq2, h⟩ := zlet_ex h
    refine z_callV (ci := 5) (As := []) (rest := []) (rv := (some (.long q2))) (M1 := M) S hw (c_X5_meaning l hG t0 k0 M q2 eq2.symm) mv_X5_meaning lk_X5_98 k0 ⟨_, _, rfl⟩ (by decide) rfl rfl (Nat.le_of_ble_eq_true rfl) ⟨Nat.le_of_ble_eq_true rfl, Nat.le_of_ble_eq_true rfl⟩ hl.1 dX5_brokenByWhole_15 (fun H locs hw => ?_)
    refine lv_lconst (v := 0) hx hb dX5_brokenByWhole_18 (by decide) ?_
    refine W.lcmp hx hb dX5_brokenByWhole_19 ?_
    refine lv_if_eq (tgt := 34) hx hb dX5_brokenByWhole_20 (by decide) (fun c3 => ?_) (fun c3 => ?_)
    · have h := zif_t h c3
      exact wJ34 v1 h H locs ls hw (lv_sub hl [1] rfl)
    · have h := zif_f h c3
      refine lv_aload_n hx hb dX5_brokenByWhole_23 rfl (lv_at hl 0 rfl) ?_
      obtain ⟨q4, eq4, h⟩ := zlet_ex h
      refine z_callV (ci := 5) (As := []) (rest := []) (rv := (some (.long q4))) (M1 := M) S hw (c_X5_meaning l hG t0 k0 M q4 eq4.symm) mv_X5_meaning lk_X5_98 k0 ⟨_, _, rfl⟩ (by decide) rfl rfl (Nat.le_of_ble_eq_true rfl) ⟨Nat.le_of_ble_eq_true rfl, Nat.le_of_ble_eq_true rfl⟩ hl.1 dX5_brokenByWhole_24 (fun H locs hw => ?_)
      refine lv_ldc2 (v := 4294967295) hx hb hown (hts _ kc_X5_87) dX5_brokenByWhole_27 ?_
      refine W.lcmp hx hb dX5_brokenByWhole_30 ?_
      refine lv_if_ne (tgt := 39) hx hb dX5_brokenByWhole_31 (by decide) (fun c5 => ?_) (fun c5 => ?_)
      · have h := zif_f h c5
        refine lv_iload_n hx hb dX5_brokenByWhole_39 rfl (lv_at hl 1 rfl) ?_
        subst h
        exact z_ret_i S hr hlk hw dX5_brokenByWhole_40
      · have h := zif_t h c5
        exact wJ34 v1 h H locs ls hw (lv_sub hl [1] rfl)
  refine lv_iconst (v := 0) hx hb dX5_brokenByWhole_0 (by decide) ?_
  refine lv_istore_n (lv' := [(1, .int 0), (0, .ref (za G t0))]) hx hb dX5_brokenByWhole_1 rfl hl (by decide) rfl (fun ls hl => ?_)
  refine lv_aload_n hx hb dX5_brokenByWhole_2 rfl (lv_at hl 1 rfl) ?_
  refine z_getI S hw k0 fl_X5_26 rfl dX5_brokenByWhole_3 ?_
  refine lv_if_eq (tgt := 14) hx hb dX5_brokenByWhole_6 (by decide) (fun c6 => ?_) (fun c6 => ?_)
  · have h := zif_t h c6
    exact wJ14 0 h H locs ls hw (lv_sub hl [1, 0] rfl)
  · have h := zif_f h c6
    refine lv_iload_n hx hb dX5_brokenByWhole_9 rfl (lv_at hl 0 rfl) ?_
    refine lv_bipush (v := 16) hx hb dX5_brokenByWhole_10 (by decide) ?_
    refine lv_ior hx hb dX5_brokenByWhole_12 ?_
    obtain ⟨x7, ex7, h⟩ := zlet_ex h
    refine lv_topiE ex7 ?_
    refine lv_istore_n (lv' := [(1, .int x7), (0, .ref (za G t0))]) hx hb dX5_brokenByWhole_13 rfl hl (by decide) rfl (fun ls hl => ?_)
    exact wJ14 x7 h H locs ls hw (lv_sub hl [1, 0] rfl)
def f_X5_weigh_10 (t0 : Nat) (t1 : Nat) (t2 : Nat) (K : Int32 → ZM → Option ZM) : Nat → Int32 → Int32 → ZM → Option ZM
  | 0, _, _, _ => none
  | n + 1, v3, v4, M =>
    if v4 < 0 then (
      K v3 M) else (
      zlet (f_X5_meaningOf t0 t1 t2 v4 M) fun (q4 : Int64) =>
      zlet (f_X11_put_ (zr t0 0) v4 q4 M) fun (q5 : ZM) =>
      zlet (f_X5_bareOf t0 t1 v4 q5) fun (q6 : Int32) =>
      zlet (f_X11_put (zr t0 2) v4 q6 q5) fun (q7 : ZM) =>
      (f_X5_brokenAt t0 t1 t2 v4 q7).bind fun (q8 : Int32) =>
      zlet (v3 ||| q8) fun (x9 : Int32) =>
      zlet (v4 + (-1)) fun (x10 : Int32) =>
      f_X5_weigh_10 t0 t1 t2 K n x9 x10 q7)

def f_X5_weigh (t0 : Nat) (t1 : Nat) (t2 : Nat) (M : ZM) : Option ZM :=
  zlet (f_X7_size t1 M) fun (q1 : Int32) =>
  zlet (q1 - 1) fun (x2 : Int32) =>
  f_X5_weigh_10 t0 t1 t2 (fun (v3 : Int32) (M : ZM) =>
    (f_X5_findIdle t0 t1 M).bind fun (q11 : ZM) =>
    zlet (f_X5_brokenByWhole t0 q11) fun (q12 : Int32) =>
    zlet (zi q11 t0 4 (63 &&& ((v3 ||| q12) ^^^ (-1)))) fun (M13 : ZM) =>
    some M13) zN 0 x2 M
set_option maxHeartbeats 4000000 in
set_option maxRecDepth 100000 in
theorem w_X5_weigh_10 {G : ZG} (hG : zOk G) (S : zX p (zR 3) s m args c 0 0 cX5_weigh 5 RX5) (hr : meth.sig.returnType = none) (hlk : meth.locks = false) (t0 : Nat) (t1 : Nat) (t2 : Nat) (k0 : zk G t0 = 15) (k1 : zk G t1 = 17) (k2 : zk G t2 = 20)  {K : Int32 → ZM → Option ZM} {res : ZM} (hK : ∀ (v3 : Int32) (M : ZM), K v3 M = some res → ∀ (H : Heap) (locs : List Loc) (ls : Array Slot), zWd G A s H locs M → lv_has ls 5 [(0, .ref (za G t0)), (1, .ref (za G t1)), (3, .int v3)] → W p l e (zR 3) s m args below meth c H locs 0 0 (zQ below G A none res args s) (F0 m 65 ls [])) : ∀ (n : Nat) (v3 : Int32) (v4 : Int32) (M : ZM), f_X5_weigh_10 t0 t1 t2 K n v3 v4 M = some res → ∀ (H : Heap) (locs : List Loc) (ls : Array Slot), zWd G A s H locs M → lv_has ls 5 [(0, .ref (za G t0)), (1, .ref (za G t1)), (2, .ref (za G t2)), (3, .int v3), (4, .int v4)] → W p l e (zR 3) s m args below meth c H locs 0 0 (zQ below G A none res args s) (F0 m 10 ls []) := by
  have hx := S.1.1
  have hb := S.1.2.1
  have hown := S.1.2.2.2.1
  have hts := S.1.2.2.2.2
  intro n
  induction n with
  | zero =>
    intro v3 v4 M h
    rw [f_X5_weigh_10] at h
    cases h
  | succ n ih =>
    intro v3 v4 M h H locs ls hw hl
    rw [f_X5_weigh_10] at h
    refine lv_iload hx hb dX5_weigh_10 (lv_at hl 4 rfl) ?_
    refine lv_if_lt (tgt := 65) hx hb dX5_weigh_12 (by decide) (fun c3 => ?_) (fun c3 => ?_)
    · have h := zif_t h c3
      exact hK v3 M h H locs ls hw (lv_sub hl [0, 1, 3] rfl)
    · have h := zif_f h c3
      refine lv_aload_n hx hb dX5_weigh_15 rfl (lv_at hl 0 rfl) ?_
      refine z_getR S hw k0 fl_X5_9 rfl dX5_weigh_16 ?_
      refine lv_iload hx hb dX5_weigh_19 (lv_at hl 4 rfl) ?_
      refine lv_aload_n hx hb dX5_weigh_21 rfl (lv_at hl 0 rfl) ?_
      refine lv_aload_n hx hb dX5_weigh_22 rfl (lv_at hl 1 rfl) ?_
      refine lv_aload_n hx hb dX5_weigh_23 rfl (lv_at hl 2 rfl) ?_
      refine lv_iload hx hb dX5_weigh_24 (lv_at hl 4 rfl) ?_
      obtain ⟨q4, eq4, h⟩ := zlet_ex h
      refine z_callV (ci := 5) (As := [.ref (za G t1), .ref (za G t2), .int v4]) (rest := [.int v4, .ref (za G (zr t0 0))]) (rv := (some (.long q4))) (M1 := M) S hw (c_X5_meaningOf l hG t0 t1 t2 v4 k0 k1 k2 M q4 eq4.symm) mv_X5_meaningOf lk_X5_39 k0 ⟨_, _, rfl⟩ (by decide) rfl rfl (Nat.le_of_ble_eq_true rfl) ⟨Nat.le_of_ble_eq_true rfl, Nat.le_of_ble_eq_true rfl⟩ hl.1 dX5_weigh_26 (fun H locs hw => ?_)
      obtain ⟨q5, eq5, h⟩ := zlet_ex h
      refine z_callS (As := [.ref (za G (zr t0 0)), .int v4, .long q4]) (rest := []) (rv := none) (M1 := q5) S hw (c_X11_put_ l hG (zr t0 0) v4 q4 (kr_5_0 hG k0) M q5 eq5.symm) mv_X11_put_ lk_X5_43 rfl rfl (Nat.le_of_ble_eq_true rfl) ⟨Nat.le_of_ble_eq_true rfl, Nat.le_of_ble_eq_true rfl⟩ hl.1 dX5_weigh_29 (fun H locs hw => ?_)
      refine lv_aload_n hx hb dX5_weigh_32 rfl (lv_at hl 0 rfl) ?_
      refine z_getR S hw k0 fl_X5_18 rfl dX5_weigh_33 ?_
      refine lv_iload hx hb dX5_weigh_36 (lv_at hl 4 rfl) ?_
      refine lv_aload_n hx hb dX5_weigh_38 rfl (lv_at hl 0 rfl) ?_
      refine lv_aload_n hx hb dX5_weigh_39 rfl (lv_at hl 1 rfl) ?_
      refine lv_iload hx hb dX5_weigh_40 (lv_at hl 4 rfl) ?_
      obtain ⟨q6, eq6, h⟩ := zlet_ex h
      refine z_callV (ci := 5) (As := [.ref (za G t1), .int v4]) (rest := [.int v4, .ref (za G (zr t0 2))]) (rv := (some (.int q6))) (M1 := q5) S hw (c_X5_bareOf l hG t0 t1 v4 k0 k1 q5 q6 eq6.symm) mv_X5_bareOf lk_X5_47 k0 ⟨_, _, rfl⟩ (by decide) rfl rfl (Nat.le_of_ble_eq_true rfl) ⟨Nat.le_of_ble_eq_true rfl, Nat.le_of_ble_eq_true rfl⟩ hl.1 dX5_weigh_42 (fun H locs hw => ?_)
      obtain ⟨q7, eq7, h⟩ := zlet_ex h
      refine z_callS (As := [.ref (za G (zr t0 2)), .int v4, .int q6]) (rest := []) (rv := none) (M1 := q7) S hw (c_X11_put l hG (zr t0 2) v4 q6 (kr_5_2 hG k0) q5 q7 eq7.symm) mv_X11_put lk_X5_51 rfl rfl (Nat.le_of_ble_eq_true rfl) ⟨Nat.le_of_ble_eq_true rfl, Nat.le_of_ble_eq_true rfl⟩ hl.1 dX5_weigh_45 (fun H locs hw => ?_)
      refine lv_iload_n hx hb dX5_weigh_48 rfl (lv_at hl 3 rfl) ?_
      refine lv_aload_n hx hb dX5_weigh_49 rfl (lv_at hl 0 rfl) ?_
      refine lv_aload_n hx hb dX5_weigh_50 rfl (lv_at hl 1 rfl) ?_
      refine lv_aload_n hx hb dX5_weigh_51 rfl (lv_at hl 2 rfl) ?_
      refine lv_iload hx hb dX5_weigh_52 (lv_at hl 4 rfl) ?_
      obtain ⟨q8, eq8, h⟩ := Option.bind_eq_some_iff.mp h
      refine z_callV (ci := 5) (As := [.ref (za G t1), .ref (za G t2), .int v4]) (rest := [.int v3]) (rv := (some (.int q8))) (M1 := q7) S hw (c_X5_brokenAt l hG t0 t1 t2 v4 k0 k1 k2 q7 q8 eq8) mv_X5_brokenAt lk_X5_54 k0 ⟨_, _, rfl⟩ (by decide) rfl rfl (Nat.le_of_ble_eq_true rfl) ⟨Nat.le_of_ble_eq_true rfl, Nat.le_of_ble_eq_true rfl⟩ hl.1 dX5_weigh_54 (fun H locs hw => ?_)
      refine lv_ior hx hb dX5_weigh_57 ?_
      obtain ⟨x9, ex9, h⟩ := zlet_ex h
      refine lv_topiE ex9 ?_
      refine lv_istore_n (lv' := [(3, .int x9), (0, .ref (za G t0)), (1, .ref (za G t1)), (2, .ref (za G t2)), (4, .int v4)]) hx hb dX5_weigh_58 rfl hl (by decide) rfl (fun ls hl => ?_)
      obtain ⟨x10, ex10, h⟩ := zlet_ex h
      refine lv_iinc (v := x10) (lv' := [(4, .int x10), (3, .int x9), (0, .ref (za G t0)), (1, .ref (za G t1)), (2, .ref (za G t2))]) hx hb dX5_weigh_59 hl (k := 4) rfl (by rw [ex10]; rfl) (by decide) rfl (fun ls hl => ?_)
      refine lv_goto (tgt := 10) hx hb dX5_weigh_62 (by decide) ?_
      exact ih x9 x10 q7 h H locs ls hw (lv_sub hl [2, 3, 4, 1, 0] rfl)
set_option maxHeartbeats 4000000 in
set_option maxRecDepth 100000 in
theorem c_X5_weigh (l : Launch) {G : ZG} (hG : zOk G) (t0 : Nat) (t1 : Nat) (t2 : Nat) (k0 : zk G t0 = 15) (k1 : zk G t1 = 17) (k2 : zk G t2 = 20) (M : ZM) (res : ZM) (h : f_X5_weigh t0 t1 t2 M = some res) : zCt l yX5_weigh cX5_weigh 5 none 3 G [.ref (za G t0), .ref (za G t1), .ref (za G t2)] M none res := by
  refine zCt.mk (by decide +kernel) (Nat.le_of_ble_eq_true rfl) ?_
  intro p e s m args below meth c A H locs ls S hr hlk hw hl
  have S : zX p (zR 3) s m args c 0 0 cX5_weigh 5 RX5 := S
  have hx := S.1.1
  have hb := S.1.2.1
  have hown := S.1.2.2.2.1
  have hts := S.1.2.2.2.2
  have hl : lv_has ls 5 [(0, .ref (za G t0)), (1, .ref (za G t1)), (2, .ref (za G t2))] := hl
  unfold f_X5_weigh at h
  refine lv_iconst (v := 0) hx hb dX5_weigh_0 (by decide) ?_
  refine lv_istore_n (lv' := [(3, .int 0), (0, .ref (za G t0)), (1, .ref (za G t1)), (2, .ref (za G t2))]) hx hb dX5_weigh_1 rfl hl (by decide) rfl (fun ls hl => ?_)
  refine lv_aload_n hx hb dX5_weigh_2 rfl (lv_at hl 2 rfl) ?_
  obtain ⟨q1, eq1, h⟩ := zlet_ex h
  refine z_callV (ci := 7) (As := []) (rest := []) (rv := (some (.int q1))) (M1 := M) S hw (c_X7_size l hG t1 k1 M q1 eq1.symm) mv_X7_size lk_X5_33 k1 ⟨_, _, rfl⟩ (by decide) rfl rfl (Nat.le_of_ble_eq_true rfl) ⟨Nat.le_of_ble_eq_true rfl, Nat.le_of_ble_eq_true rfl⟩ hl.1 dX5_weigh_3 (fun H locs hw => ?_)
  refine lv_iconst (v := 1) hx hb dX5_weigh_6 (by decide) ?_
  refine lv_isub hx hb dX5_weigh_7 ?_
  obtain ⟨x2, ex2, h⟩ := zlet_ex h
  refine lv_topiE ex2 ?_
  refine lv_istore (lv' := [(4, .int x2), (3, .int 0), (0, .ref (za G t0)), (1, .ref (za G t1)), (2, .ref (za G t2))]) hx hb dX5_weigh_8 hl (by decide) rfl (fun ls hl => ?_)
  refine w_X5_weigh_10 hG S hr hlk t0 t1 t2 k0 k1 k2 (fun v3 M h H locs ls hw hl => ?_) zN 0 x2 M h H locs ls hw (lv_sub hl [2, 3, 4, 1, 0] rfl)
  refine lv_aload_n hx hb dX5_weigh_65 rfl (lv_at hl 0 rfl) ?_
  refine lv_aload_n hx hb dX5_weigh_66 rfl (lv_at hl 1 rfl) ?_
  obtain ⟨q11, eq11, h⟩ := Option.bind_eq_some_iff.mp h
  refine z_callV (ci := 5) (As := [.ref (za G t1)]) (rest := []) (rv := none) (M1 := q11) S hw (c_X5_findIdle l hG t0 t1 k0 k1 M q11 eq11) mv_X5_findIdle lk_X5_58 k0 ⟨_, _, rfl⟩ (by decide) rfl rfl (Nat.le_of_ble_eq_true rfl) ⟨Nat.le_of_ble_eq_true rfl, Nat.le_of_ble_eq_true rfl⟩ hl.1 dX5_weigh_67 (fun H locs hw => ?_)
  refine lv_aload_n hx hb dX5_weigh_70 rfl (lv_at hl 0 rfl) ?_
  refine lv_bipush (v := 63) hx hb dX5_weigh_71 (by decide) ?_
  refine lv_iload_n hx hb dX5_weigh_73 rfl (lv_at hl 2 rfl) ?_
  refine lv_aload_n hx hb dX5_weigh_74 rfl (lv_at hl 0 rfl) ?_
  obtain ⟨q12, eq12, h⟩ := zlet_ex h
  refine z_callV (ci := 5) (As := []) (rest := [.int v3, .int 63, .ref (za G t0)]) (rv := (some (.int q12))) (M1 := q11) S hw (c_X5_brokenByWhole l hG t0 k0 q11 q12 eq12.symm) mv_X5_brokenByWhole lk_X5_62 k0 ⟨_, _, rfl⟩ (by decide) rfl rfl (Nat.le_of_ble_eq_true rfl) ⟨Nat.le_of_ble_eq_true rfl, Nat.le_of_ble_eq_true rfl⟩ hl.1 dX5_weigh_75 (fun H locs hw => ?_)
  refine lv_ior hx hb dX5_weigh_78 ?_
  refine lv_iconst (v := (-1)) hx hb dX5_weigh_79 (by decide) ?_
  refine lv_ixor hx hb dX5_weigh_80 ?_
  refine lv_iand hx hb dX5_weigh_81 ?_
  obtain ⟨M13, eM13, h⟩ := zlet_ex h
  refine z_putI S hw eM13 k0 fl_X5_30 rfl (fun h => absurd h (by decide)) dX5_weigh_82 (fun H locs hw => ?_)
  have h := Option.some.inj h
  subst h
  exact z_ret_v S hr hlk hw dX5_weigh_85
def f_X5_idlePlaces (t0 : Nat) (M : ZM) : Int32 :=
  (M.1 t0 3)
set_option maxHeartbeats 4000000 in
set_option maxRecDepth 100000 in
theorem c_X5_idlePlaces (l : Launch) {G : ZG} (hG : zOk G) (t0 : Nat) (k0 : zk G t0 = 15) (M : ZM) (res : Int32) (h : f_X5_idlePlaces t0 M = res) : zCt l yX5_idlePlaces cX5_idlePlaces 1 (Option.some FieldType.int) 0 G [.ref (za G t0)] M (some (.int res)) M := by
  refine zCt.mk (by decide +kernel) (Nat.le_of_ble_eq_true rfl) ?_
  intro p e s m args below meth c A H locs ls S hr hlk hw hl
  have S : zX p (zR 0) s m args c 0 0 cX5_idlePlaces 1 RX5 := S
  have hx := S.1.1
  have hb := S.1.2.1
  have hown := S.1.2.2.2.1
  have hts := S.1.2.2.2.2
  have hl : lv_has ls 1 [(0, .ref (za G t0))] := hl
  unfold f_X5_idlePlaces at h
  refine lv_aload_n hx hb dX5_idlePlaces_0 rfl (lv_at hl 0 rfl) ?_
  refine z_getI S hw k0 fl_X5_26 rfl dX5_idlePlaces_1 ?_
  subst h
  exact z_ret_i S hr hlk hw dX5_idlePlaces_4
def f_X5_metRules (t0 : Nat) (M : ZM) : Int32 :=
  (M.1 t0 4)
set_option maxHeartbeats 4000000 in
set_option maxRecDepth 100000 in
theorem c_X5_metRules (l : Launch) {G : ZG} (hG : zOk G) (t0 : Nat) (k0 : zk G t0 = 15) (M : ZM) (res : Int32) (h : f_X5_metRules t0 M = res) : zCt l yX5_metRules cX5_metRules 1 (Option.some FieldType.int) 0 G [.ref (za G t0)] M (some (.int res)) M := by
  refine zCt.mk (by decide +kernel) (Nat.le_of_ble_eq_true rfl) ?_
  intro p e s m args below meth c A H locs ls S hr hlk hw hl
  have S : zX p (zR 0) s m args c 0 0 cX5_metRules 1 RX5 := S
  have hx := S.1.1
  have hb := S.1.2.1
  have hown := S.1.2.2.2.1
  have hts := S.1.2.2.2.2
  have hl : lv_has ls 1 [(0, .ref (za G t0))] := hl
  unfold f_X5_metRules at h
  refine lv_aload_n hx hb dX5_metRules_0 rfl (lv_at hl 0 rfl) ?_
  refine z_getI S hw k0 fl_X5_30 rfl dX5_metRules_1 ?_
  subst h
  exact z_ret_i S hr hlk hw dX5_metRules_4
def f_X2_make_9 (t0 : Nat) (t1 : Nat) (t2 : Nat) (t3 : Nat) (K : ZM → Option ZM) : Nat → Int32 → ZM → Option ZM
  | 0, _, _ => none
  | n + 1, v5, M =>
    if (M.1 t0 4) ≤ v5 then (
      K M) else (
      (f_X7_grow t3 t1 t2 (v5.toInt64) M).bind fun (q3 : ZM) =>
      (f_X5_weigh (zr t0 0) t3 t1 q3).bind fun (q4 : ZM) =>
      zlet (f_X5_meaning (zr t0 0) q4) fun (q5 : Int64) =>
      zlet (f_X11_put_ (zr t0 1) v5 q5 q4) fun (q6 : ZM) =>
      zlet (f_X5_idlePlaces (zr t0 0) q6) fun (q7 : Int32) =>
      zlet (f_X11_put (zr t0 2) v5 q7 q6) fun (q8 : ZM) =>
      zlet (f_X5_metRules (zr t0 0) q8) fun (q9 : Int32) =>
      zlet (f_X11_put (zr t0 3) v5 q9 q8) fun (q10 : ZM) =>
      zlet (v5 + 1) fun (x11 : Int32) =>
      f_X2_make_9 t0 t1 t2 t3 K n x11 q10)

def f_X2_make (t0 : Nat) (t1 : Nat) (t2 : Nat) (t3 : Nat) (v4 : Int32) (M : ZM) : Option ZM :=
  zlet (zi M t0 4 v4) fun (M1 : ZM) =>
  f_X2_make_9 t0 t1 t2 t3 (fun (M : ZM) =>
    zlet (zi M t0 5 1) fun (M12 : ZM) =>
    some M12) zN 0 M1
set_option maxHeartbeats 4000000 in
set_option maxRecDepth 100000 in
theorem w_X2_make_9 {G : ZG} (hG : zOk G) (S : zX p (zR 4) s m args c 0 0 cX2_make 6 RX2) (hr : meth.sig.returnType = none) (hlk : meth.locks = false) (t0 : Nat) (t1 : Nat) (t2 : Nat) (t3 : Nat) (k0 : zk G t0 = 12) (k1 : zk G t1 = 20) (k2 : zk G t2 = 19) (k3 : zk G t3 = 17)  {K : ZM → Option ZM} {res : ZM} (hK : ∀  (M : ZM), K M = some res → ∀ (H : Heap) (locs : List Loc) (ls : Array Slot), zWd G A s H locs M → lv_has ls 6 [(0, .ref (za G t0))] → W p l e (zR 4) s m args below meth c H locs 0 0 (zQ below G A none res args s) (F0 m 90 ls [])) : ∀ (n : Nat) (v5 : Int32) (M : ZM), f_X2_make_9 t0 t1 t2 t3 K n v5 M = some res → ∀ (H : Heap) (locs : List Loc) (ls : Array Slot), zWd G A s H locs M → lv_has ls 6 [(0, .ref (za G t0)), (1, .ref (za G t1)), (2, .ref (za G t2)), (3, .ref (za G t3)), (5, .int v5)] → W p l e (zR 4) s m args below meth c H locs 0 0 (zQ below G A none res args s) (F0 m 9 ls []) := by
  have hx := S.1.1
  have hb := S.1.2.1
  have hown := S.1.2.2.2.1
  have hts := S.1.2.2.2.2
  intro n
  induction n with
  | zero =>
    intro v5 M h
    rw [f_X2_make_9] at h
    cases h
  | succ n ih =>
    intro v5 M h H locs ls hw hl
    rw [f_X2_make_9] at h
    refine lv_iload hx hb dX2_make_9 (lv_at hl 4 rfl) ?_
    refine lv_aload_n hx hb dX2_make_11 rfl (lv_at hl 0 rfl) ?_
    refine z_getI S hw k0 fl_X2_33 rfl dX2_make_12 ?_
    refine lv_icmp_ge (tgt := 90) hx hb dX2_make_15 (by decide) (fun c2 => ?_) (fun c2 => ?_)
    · have h := zif_t h c2
      exact hK M h H locs ls hw (lv_sub hl [0] rfl)
    · have h := zif_f h c2
      refine lv_aload_n hx hb dX2_make_18 rfl (lv_at hl 3 rfl) ?_
      refine lv_aload_n hx hb dX2_make_19 rfl (lv_at hl 1 rfl) ?_
      refine lv_aload_n hx hb dX2_make_20 rfl (lv_at hl 2 rfl) ?_
      refine lv_iload hx hb dX2_make_21 (lv_at hl 4 rfl) ?_
      refine lv_i2l (v := (v5.toInt64)) hx hb dX2_make_23 rfl ?_
      obtain ⟨q3, eq3, h⟩ := Option.bind_eq_some_iff.mp h
      refine z_callV (ci := 7) (As := [.ref (za G t1), .ref (za G t2), .long (v5.toInt64)]) (rest := []) (rv := none) (M1 := q3) S hw (c_X7_grow l hG t3 t1 t2 (v5.toInt64) k3 k1 k2 M q3 eq3) mv_X7_grow lk_X2_37 k3 ⟨_, _, rfl⟩ (by decide) rfl rfl (Nat.le_of_ble_eq_true rfl) ⟨Nat.le_of_ble_eq_true rfl, Nat.le_of_ble_eq_true rfl⟩ hl.1 dX2_make_24 (fun H locs hw => ?_)
      refine lv_aload_n hx hb dX2_make_27 rfl (lv_at hl 0 rfl) ?_
      refine z_getR S hw k0 fl_X2_12 rfl dX2_make_28 ?_
      refine lv_aload_n hx hb dX2_make_31 rfl (lv_at hl 3 rfl) ?_
      refine lv_aload_n hx hb dX2_make_32 rfl (lv_at hl 1 rfl) ?_
      obtain ⟨q4, eq4, h⟩ := Option.bind_eq_some_iff.mp h
      refine z_callV (ci := 5) (As := [.ref (za G t3), .ref (za G t1)]) (rest := []) (rv := none) (M1 := q4) S hw (c_X5_weigh l hG (zr t0 0) t3 t1 (kr_2_0 hG k0) k3 k1 q3 q4 eq4) mv_X5_weigh lk_X2_43 (kr_2_0 hG k0) ⟨_, _, rfl⟩ (by decide) rfl rfl (Nat.le_of_ble_eq_true rfl) ⟨Nat.le_of_ble_eq_true rfl, Nat.le_of_ble_eq_true rfl⟩ hl.1 dX2_make_33 (fun H locs hw => ?_)
      refine lv_aload_n hx hb dX2_make_36 rfl (lv_at hl 0 rfl) ?_
      refine z_getR S hw k0 fl_X2_18 rfl dX2_make_37 ?_
      refine lv_iload hx hb dX2_make_40 (lv_at hl 4 rfl) ?_
      refine lv_aload_n hx hb dX2_make_42 rfl (lv_at hl 0 rfl) ?_
      refine z_getR S hw k0 fl_X2_12 rfl dX2_make_43 ?_
      obtain ⟨q5, eq5, h⟩ := zlet_ex h
      refine z_callV (ci := 5) (As := []) (rest := [.int v5, .ref (za G (zr t0 1))]) (rv := (some (.long q5))) (M1 := q4) S hw (c_X5_meaning l hG (zr t0 0) (kr_2_0 hG k0) q4 q5 eq5.symm) mv_X5_meaning lk_X2_47 (kr_2_0 hG k0) ⟨_, _, rfl⟩ (by decide) rfl rfl (Nat.le_of_ble_eq_true rfl) ⟨Nat.le_of_ble_eq_true rfl, Nat.le_of_ble_eq_true rfl⟩ hl.1 dX2_make_46 (fun H locs hw => ?_)
      obtain ⟨q6, eq6, h⟩ := zlet_ex h
      refine z_callS (As := [.ref (za G (zr t0 1)), .int v5, .long q5]) (rest := []) (rv := none) (M1 := q6) S hw (c_X11_put_ l hG (zr t0 1) v5 q5 (kr_2_1 hG k0) q4 q6 eq6.symm) mv_X11_put_ lk_X2_51 rfl rfl (Nat.le_of_ble_eq_true rfl) ⟨Nat.le_of_ble_eq_true rfl, Nat.le_of_ble_eq_true rfl⟩ hl.1 dX2_make_49 (fun H locs hw => ?_)
      refine lv_aload_n hx hb dX2_make_52 rfl (lv_at hl 0 rfl) ?_
      refine z_getR S hw k0 fl_X2_22 rfl dX2_make_53 ?_
      refine lv_iload hx hb dX2_make_56 (lv_at hl 4 rfl) ?_
      refine lv_aload_n hx hb dX2_make_58 rfl (lv_at hl 0 rfl) ?_
      refine z_getR S hw k0 fl_X2_12 rfl dX2_make_59 ?_
      obtain ⟨q7, eq7, h⟩ := zlet_ex h
      refine z_callV (ci := 5) (As := []) (rest := [.int v5, .ref (za G (zr t0 2))]) (rv := (some (.int q7))) (M1 := q6) S hw (c_X5_idlePlaces l hG (zr t0 0) (kr_2_0 hG k0) q6 q7 eq7.symm) mv_X5_idlePlaces lk_X2_55 (kr_2_0 hG k0) ⟨_, _, rfl⟩ (by decide) rfl rfl (Nat.le_of_ble_eq_true rfl) ⟨Nat.le_of_ble_eq_true rfl, Nat.le_of_ble_eq_true rfl⟩ hl.1 dX2_make_62 (fun H locs hw => ?_)
      obtain ⟨q8, eq8, h⟩ := zlet_ex h
      refine z_callS (As := [.ref (za G (zr t0 2)), .int v5, .int q7]) (rest := []) (rv := none) (M1 := q8) S hw (c_X11_put l hG (zr t0 2) v5 q7 (kr_2_2 hG k0) q6 q8 eq8.symm) mv_X11_put lk_X2_59 rfl rfl (Nat.le_of_ble_eq_true rfl) ⟨Nat.le_of_ble_eq_true rfl, Nat.le_of_ble_eq_true rfl⟩ hl.1 dX2_make_65 (fun H locs hw => ?_)
      refine lv_aload_n hx hb dX2_make_68 rfl (lv_at hl 0 rfl) ?_
      refine z_getR S hw k0 fl_X2_26 rfl dX2_make_69 ?_
      refine lv_iload hx hb dX2_make_72 (lv_at hl 4 rfl) ?_
      refine lv_aload_n hx hb dX2_make_74 rfl (lv_at hl 0 rfl) ?_
      refine z_getR S hw k0 fl_X2_12 rfl dX2_make_75 ?_
      obtain ⟨q9, eq9, h⟩ := zlet_ex h
      refine z_callV (ci := 5) (As := []) (rest := [.int v5, .ref (za G (zr t0 3))]) (rv := (some (.int q9))) (M1 := q8) S hw (c_X5_metRules l hG (zr t0 0) (kr_2_0 hG k0) q8 q9 eq9.symm) mv_X5_metRules lk_X2_62 (kr_2_0 hG k0) ⟨_, _, rfl⟩ (by decide) rfl rfl (Nat.le_of_ble_eq_true rfl) ⟨Nat.le_of_ble_eq_true rfl, Nat.le_of_ble_eq_true rfl⟩ hl.1 dX2_make_78 (fun H locs hw => ?_)
      obtain ⟨q10, eq10, h⟩ := zlet_ex h
      refine z_callS (As := [.ref (za G (zr t0 3)), .int v5, .int q9]) (rest := []) (rv := none) (M1 := q10) S hw (c_X11_put l hG (zr t0 3) v5 q9 (kr_2_3 hG k0) q8 q10 eq10.symm) mv_X11_put lk_X2_59 rfl rfl (Nat.le_of_ble_eq_true rfl) ⟨Nat.le_of_ble_eq_true rfl, Nat.le_of_ble_eq_true rfl⟩ hl.1 dX2_make_81 (fun H locs hw => ?_)
      obtain ⟨x11, ex11, h⟩ := zlet_ex h
      refine lv_iinc (v := x11) (lv' := [(5, .int x11), (0, .ref (za G t0)), (1, .ref (za G t1)), (2, .ref (za G t2)), (3, .ref (za G t3))]) hx hb dX2_make_84 hl (k := 4) rfl (by rw [ex11]; rfl) (by decide) rfl (fun ls hl => ?_)
      refine lv_goto (tgt := 9) hx hb dX2_make_87 (by decide) ?_
      exact ih x11 q10 h H locs ls hw (lv_sub hl [1, 2, 3, 4, 0] rfl)
set_option maxHeartbeats 4000000 in
set_option maxRecDepth 100000 in
theorem c_X2_make (l : Launch) {G : ZG} (hG : zOk G) (t0 : Nat) (t1 : Nat) (t2 : Nat) (t3 : Nat) (v4 : Int32) (k0 : zk G t0 = 12) (k1 : zk G t1 = 20) (k2 : zk G t2 = 19) (k3 : zk G t3 = 17) (M : ZM) (res : ZM) (h : f_X2_make t0 t1 t2 t3 v4 M = some res) : zCt l yX2_make cX2_make 6 none 4 G [.ref (za G t0), .ref (za G t1), .ref (za G t2), .ref (za G t3), .int v4] M none res := by
  refine zCt.mk (by decide +kernel) (Nat.le_of_ble_eq_true rfl) ?_
  intro p e s m args below meth c A H locs ls S hr hlk hw hl
  have S : zX p (zR 4) s m args c 0 0 cX2_make 6 RX2 := S
  have hx := S.1.1
  have hb := S.1.2.1
  have hown := S.1.2.2.2.1
  have hts := S.1.2.2.2.2
  have hl : lv_has ls 6 [(0, .ref (za G t0)), (1, .ref (za G t1)), (2, .ref (za G t2)), (3, .ref (za G t3)), (4, .int v4)] := hl
  unfold f_X2_make at h
  refine lv_aload_n hx hb dX2_make_0 rfl (lv_at hl 0 rfl) ?_
  refine lv_iload hx hb dX2_make_1 (lv_at hl 4 rfl) ?_
  obtain ⟨M1, eM1, h⟩ := zlet_ex h
  refine z_putI S hw eM1 k0 fl_X2_33 rfl (fun h => absurd h (by decide)) dX2_make_3 (fun H locs hw => ?_)
  refine lv_iconst (v := 0) hx hb dX2_make_6 (by decide) ?_
  refine lv_istore (lv' := [(5, .int 0), (0, .ref (za G t0)), (1, .ref (za G t1)), (2, .ref (za G t2)), (3, .ref (za G t3)), (4, .int v4)]) hx hb dX2_make_7 hl (by decide) rfl (fun ls hl => ?_)
  refine w_X2_make_9 hG S hr hlk t0 t1 t2 t3 k0 k1 k2 k3 (fun M h H locs ls hw hl => ?_) zN 0 M1 h H locs ls hw (lv_sub hl [1, 2, 3, 4, 0] rfl)
  refine lv_aload_n hx hb dX2_make_90 rfl (lv_at hl 0 rfl) ?_
  refine lv_iconst (v := 1) hx hb dX2_make_91 (by decide) ?_
  obtain ⟨M12, eM12, h⟩ := zlet_ex h
  refine z_putI S hw eM12 k0 fl_X2_29 rfl (fun _ => by decide) dX2_make_92 (fun H locs hw => ?_)
  have h := Option.some.inj h
  subst h
  exact z_ret_v S hr hlk hw dX2_make_95
def f_X11_spent (t0 : Nat) (M : ZM) : Option (Int32 × ZM) :=
  zlet (f_X11_readings t0 M) fun (q1 : Int64) =>
  if (lg_cmp q1 200) ≤ 0 then (
    (f_X2_isMade (zr t0 5) M).bind fun (q3 : Int32) =>
    if q3 = 0 then (
      (f_X2_make (zr t0 5) (zr t0 1) (zr t0 3) (zr t0 4) (q1.toInt32) M).bind fun (q5 : ZM) =>
      some ((0 : Int32), q5)) else (
      some ((0 : Int32), M))) else (
    some ((1 : Int32), M))
set_option maxHeartbeats 4000000 in
set_option maxRecDepth 100000 in
theorem c_X11_spent (l : Launch) {G : ZG} (hG : zOk G) (t0 : Nat) (k0 : zk G t0 = 21) (M : ZM) (res : (Int32 × ZM)) (h : f_X11_spent t0 M = some res) : zCt l yX11_spent cX11_spent 3 (Option.some FieldType.boolean) 5 G [.ref (za G t0)] M (some (.int res.1)) res.2 := by
  refine zCt.mk (by decide +kernel) (Nat.le_of_ble_eq_true rfl) ?_
  intro p e s m args below meth c A H locs ls S hr hlk hw hl
  have S : zX p (zR 5) s m args c 0 0 cX11_spent 3 RX11 := S
  have hx := S.1.1
  have hb := S.1.2.1
  have hown := S.1.2.2.2.1
  have hts := S.1.2.2.2.2
  have hl : lv_has ls 3 [(0, .ref (za G t0))] := hl
  unfold f_X11_spent at h
  refine lv_aload_n hx hb dX11_spent_0 rfl (lv_at hl 0 rfl) ?_
  obtain ⟨q1, eq1, h⟩ := zlet_ex h
  refine z_callV (ci := 11) (As := []) (rest := []) (rv := (some (.long q1))) (M1 := M) S hw (c_X11_readings l hG t0 k0 M q1 eq1.symm) mv_X11_readings lk_X11_285 k0 ⟨_, _, rfl⟩ (by decide) rfl rfl (Nat.le_of_ble_eq_true rfl) ⟨Nat.le_of_ble_eq_true rfl, Nat.le_of_ble_eq_true rfl⟩ hl.1 dX11_spent_1 (fun H locs hw => ?_)
  refine lv_lstore_n (lv' := [(1, .long q1), (0, .ref (za G t0))]) hx hb dX11_spent_4 rfl hl (by decide) rfl (fun ls hl => ?_)
  refine lv_lload_n hx hb dX11_spent_5 rfl (lv_at hl 0 rfl) ?_
  refine lv_ldc2 (v := 200) hx hb hown (hts _ kc_X11_288) dX11_spent_6 ?_
  refine W.lcmp hx hb dX11_spent_9 ?_
  refine lv_if_le (tgt := 15) hx hb dX11_spent_10 (by decide) (fun c2 => ?_) (fun c2 => ?_)
  · have h := zif_t h c2
    refine lv_aload_n hx hb dX11_spent_15 rfl (lv_at hl 1 rfl) ?_
    refine z_getR S hw k0 fl_X11_39 rfl dX11_spent_16 ?_
    obtain ⟨q3, eq3, h⟩ := Option.bind_eq_some_iff.mp h
    refine z_callV (ci := 2) (As := []) (rest := []) (rv := (some (.int q3))) (M1 := M) S hw (c_X2_isMade l hG (zr t0 5) (kr_11_5 hG k0) M q3 eq3) mv_X2_isMade lk_X11_290 (kr_11_5 hG k0) ⟨_, _, rfl⟩ (by decide) rfl rfl (Nat.le_of_ble_eq_true rfl) ⟨Nat.le_of_ble_eq_true rfl, Nat.le_of_ble_eq_true rfl⟩ hl.1 dX11_spent_19 (fun H locs hw => ?_)
    refine lv_if_ne (tgt := 46) hx hb dX11_spent_22 (by decide) (fun c4 => ?_) (fun c4 => ?_)
    · have h := zif_f h c4
      refine lv_iconst (v := 0) hx hb dX11_spent_46 (by decide) ?_
      have h := Option.some.inj h
      subst h
      exact z_ret_z S hr hlk (Or.inl rfl) hw dX11_spent_47
    · have h := zif_t h c4
      refine lv_aload_n hx hb dX11_spent_25 rfl (lv_at hl 1 rfl) ?_
      refine z_getR S hw k0 fl_X11_39 rfl dX11_spent_26 ?_
      refine lv_aload_n hx hb dX11_spent_29 rfl (lv_at hl 1 rfl) ?_
      refine z_getR S hw k0 fl_X11_16 rfl dX11_spent_30 ?_
      refine lv_aload_n hx hb dX11_spent_33 rfl (lv_at hl 1 rfl) ?_
      refine z_getR S hw k0 fl_X11_25 rfl dX11_spent_34 ?_
      refine lv_aload_n hx hb dX11_spent_37 rfl (lv_at hl 1 rfl) ?_
      refine z_getR S hw k0 fl_X11_32 rfl dX11_spent_38 ?_
      refine lv_lload_n hx hb dX11_spent_41 rfl (lv_at hl 0 rfl) ?_
      refine lv_l2i (v := (q1.toInt32)) hx hb dX11_spent_42 rfl ?_
      obtain ⟨q5, eq5, h⟩ := Option.bind_eq_some_iff.mp h
      refine z_callV (ci := 2) (As := [.ref (za G (zr t0 1)), .ref (za G (zr t0 3)), .ref (za G (zr t0 4)), .int (q1.toInt32)]) (rest := []) (rv := none) (M1 := q5) S hw (c_X2_make l hG (zr t0 5) (zr t0 1) (zr t0 3) (zr t0 4) (q1.toInt32) (kr_11_5 hG k0) (kr_11_1 hG k0) (kr_11_3 hG k0) (kr_11_4 hG k0) M q5 eq5) mv_X2_make lk_X11_293 (kr_11_5 hG k0) ⟨_, _, rfl⟩ (by decide) rfl rfl (Nat.le_of_ble_eq_true rfl) ⟨Nat.le_of_ble_eq_true rfl, Nat.le_of_ble_eq_true rfl⟩ hl.1 dX11_spent_43 (fun H locs hw => ?_)
      refine lv_iconst (v := 0) hx hb dX11_spent_46 (by decide) ?_
      have h := Option.some.inj h
      subst h
      exact z_ret_z S hr hlk (Or.inl rfl) hw dX11_spent_47
  · have h := zif_f h c2
    refine lv_iconst (v := 1) hx hb dX11_spent_13 (by decide) ?_
    have h := Option.some.inj h
    subst h
    exact z_ret_z S hr hlk (Or.inr rfl) hw dX11_spent_14
def f_X2_size (t0 : Nat) (M : ZM) : Int32 :=
  (M.1 t0 4)
set_option maxHeartbeats 4000000 in
set_option maxRecDepth 100000 in
theorem c_X2_size (l : Launch) {G : ZG} (hG : zOk G) (t0 : Nat) (k0 : zk G t0 = 12) (M : ZM) (res : Int32) (h : f_X2_size t0 M = res) : zCt l yX2_size cX2_size 1 (Option.some FieldType.int) 0 G [.ref (za G t0)] M (some (.int res)) M := by
  refine zCt.mk (by decide +kernel) (Nat.le_of_ble_eq_true rfl) ?_
  intro p e s m args below meth c A H locs ls S hr hlk hw hl
  have S : zX p (zR 0) s m args c 0 0 cX2_size 1 RX2 := S
  have hx := S.1.1
  have hb := S.1.2.1
  have hown := S.1.2.2.2.1
  have hts := S.1.2.2.2.2
  have hl : lv_has ls 1 [(0, .ref (za G t0))] := hl
  unfold f_X2_size at h
  refine lv_aload_n hx hb dX2_size_0 rfl (lv_at hl 0 rfl) ?_
  refine z_getI S hw k0 fl_X2_33 rfl dX2_size_1 ?_
  subst h
  exact z_ret_i S hr hlk hw dX2_size_4
def f_X11_noReading (t0 : Nat) (v1 : Int32) (M : ZM) : Int32 :=
  if v1 < 0 then (
    (1 : Int32)) else (
    zlet (f_X2_size (zr t0 5) M) fun (q2 : Int32) =>
    if v1 < q2 then (
      (0 : Int32)) else (
      (1 : Int32)))
set_option maxHeartbeats 4000000 in
set_option maxRecDepth 100000 in
theorem c_X11_noReading (l : Launch) {G : ZG} (hG : zOk G) (t0 : Nat) (v1 : Int32) (k0 : zk G t0 = 21) (M : ZM) (res : Int32) (h : f_X11_noReading t0 v1 M = res) : zCt l yX11_noReading cX11_noReading 2 (Option.some FieldType.boolean) 1 G [.ref (za G t0), .int v1] M (some (.int res)) M := by
  refine zCt.mk (by decide +kernel) (Nat.le_of_ble_eq_true rfl) ?_
  intro p e s m args below meth c A H locs ls S hr hlk hw hl
  have S : zX p (zR 1) s m args c 0 0 cX11_noReading 2 RX11 := S
  have hx := S.1.1
  have hb := S.1.2.1
  have hown := S.1.2.2.2.1
  have hts := S.1.2.2.2.2
  have hl : lv_has ls 2 [(0, .ref (za G t0)), (1, .int v1)] := hl
  unfold f_X11_noReading at h
  refine lv_iload_n hx hb dX11_noReading_0 rfl (lv_at hl 1 rfl) ?_
  refine lv_if_lt (tgt := 15) hx hb dX11_noReading_1 (by decide) (fun c1 => ?_) (fun c1 => ?_)
  · have h := zif_t h c1
    refine lv_iconst (v := 1) hx hb dX11_noReading_15 (by decide) ?_
    refine lv_goto (tgt := 20) hx hb dX11_noReading_16 (by decide) ?_
    subst h
    exact z_ret_z S hr hlk (Or.inr rfl) hw dX11_noReading_20
  · have h := zif_f h c1
    refine lv_iload_n hx hb dX11_noReading_4 rfl (lv_at hl 1 rfl) ?_
    refine lv_aload_n hx hb dX11_noReading_5 rfl (lv_at hl 0 rfl) ?_
    refine z_getR S hw k0 fl_X11_39 rfl dX11_noReading_6 ?_
    obtain ⟨q2, eq2, h⟩ := zlet_ex h
    refine z_callV (ci := 2) (As := []) (rest := [.int v1]) (rv := (some (.int q2))) (M1 := M) S hw (c_X2_size l hG (zr t0 5) (kr_11_5 hG k0) M q2 eq2.symm) mv_X2_size lk_X11_230 (kr_11_5 hG k0) ⟨_, _, rfl⟩ (by decide) rfl rfl (Nat.le_of_ble_eq_true rfl) ⟨Nat.le_of_ble_eq_true rfl, Nat.le_of_ble_eq_true rfl⟩ hl.1 dX11_noReading_9 (fun H locs hw => ?_)
    refine lv_icmp_lt (tgt := 19) hx hb dX11_noReading_12 (by decide) (fun c3 => ?_) (fun c3 => ?_)
    · have h := zif_t h c3
      refine lv_iconst (v := 0) hx hb dX11_noReading_19 (by decide) ?_
      subst h
      exact z_ret_z S hr hlk (Or.inl rfl) hw dX11_noReading_20
    · have h := zif_f h c3
      refine lv_iconst (v := 1) hx hb dX11_noReading_15 (by decide) ?_
      refine lv_goto (tgt := 20) hx hb dX11_noReading_16 (by decide) ?_
      subst h
      exact z_ret_z S hr hlk (Or.inr rfl) hw dX11_noReading_20
def f_X2_meaning (t0 : Nat) (v1 : Int32) (M : ZM) : Int64 :=
  zlet (f_X11_look_ (zr t0 1) v1 M) fun (q1 : Int64) =>
  q1
set_option maxHeartbeats 4000000 in
set_option maxRecDepth 100000 in
theorem c_X2_meaning (l : Launch) {G : ZG} (hG : zOk G) (t0 : Nat) (v1 : Int32) (k0 : zk G t0 = 12) (M : ZM) (res : Int64) (h : f_X2_meaning t0 v1 M = res) : zCt l yX2_meaning cX2_meaning 2 (Option.some FieldType.long) 1 G [.ref (za G t0), .int v1] M (some (.long res)) M := by
  refine zCt.mk (by decide +kernel) (Nat.le_of_ble_eq_true rfl) ?_
  intro p e s m args below meth c A H locs ls S hr hlk hw hl
  have S : zX p (zR 1) s m args c 0 0 cX2_meaning 2 RX2 := S
  have hx := S.1.1
  have hb := S.1.2.1
  have hown := S.1.2.2.2.1
  have hts := S.1.2.2.2.2
  have hl : lv_has ls 2 [(0, .ref (za G t0)), (1, .int v1)] := hl
  unfold f_X2_meaning at h
  refine lv_aload_n hx hb dX2_meaning_0 rfl (lv_at hl 0 rfl) ?_
  refine z_getR S hw k0 fl_X2_18 rfl dX2_meaning_1 ?_
  refine lv_iload_n hx hb dX2_meaning_4 rfl (lv_at hl 1 rfl) ?_
  obtain ⟨q1, eq1, h⟩ := zlet_ex h
  refine z_callS (As := [.ref (za G (zr t0 1)), .int v1]) (rest := []) (rv := (some (.long q1))) (M1 := M) S hw (c_X11_look_ l hG (zr t0 1) v1 (kr_2_1 hG k0) M q1 eq1.symm) mv_X11_look_ lk_X2_65 rfl rfl (Nat.le_of_ble_eq_true rfl) ⟨Nat.le_of_ble_eq_true rfl, Nat.le_of_ble_eq_true rfl⟩ hl.1 dX2_meaning_5 (fun H locs hw => ?_)
  subst h
  exact z_ret_l S hr hlk hw dX2_meaning_8
def f_X11_means (t0 : Nat) (v1 : Int32) (M : ZM) : Option (Int64 × ZM) :=
  (f_X11_spent t0 M).bind fun (q1 : (Int32 × ZM)) =>
  if q1.1 = 0 then (
    zlet (f_X11_noReading t0 v1 q1.2) fun (q3 : Int32) =>
    if q3 = 0 then (
      zlet (f_X2_meaning (zr t0 5) v1 q1.2) fun (q5 : Int64) =>
      some (q5, q1.2)) else (
      zlet (f_X11_refuse t0 (-1) q1.2) fun (q6 : (Int32 × ZM)) =>
      some ((q6.1.toInt64), q6.2))) else (
    zlet (f_X11_refuse t0 (-5) q1.2) fun (q7 : (Int32 × ZM)) =>
    some ((q7.1.toInt64), q7.2))
set_option maxHeartbeats 4000000 in
set_option maxRecDepth 100000 in
theorem c_X11_means (l : Launch) {G : ZG} (hG : zOk G) (t0 : Nat) (v1 : Int32) (k0 : zk G t0 = 21) (M : ZM) (res : (Int64 × ZM)) (h : f_X11_means t0 v1 M = some res) : zCt l yX11_means cX11_means 2 (Option.some FieldType.long) 6 G [.ref (za G t0), .int v1] M (some (.long res.1)) res.2 := by
  refine zCt.mk (by decide +kernel) (Nat.le_of_ble_eq_true rfl) ?_
  intro p e s m args below meth c A H locs ls S hr hlk hw hl
  have S : zX p (zR 6) s m args c 0 0 cX11_means 2 RX11 := S
  have hx := S.1.1
  have hb := S.1.2.1
  have hown := S.1.2.2.2.1
  have hts := S.1.2.2.2.2
  have hl : lv_has ls 2 [(0, .ref (za G t0)), (1, .int v1)] := hl
  unfold f_X11_means at h
  refine lv_aload_n hx hb dX11_means_0 rfl (lv_at hl 0 rfl) ?_
  obtain ⟨q1, eq1, h⟩ := Option.bind_eq_some_iff.mp h
  refine z_callV (ci := 11) (As := []) (rest := []) (rv := (some (.int q1.1))) (M1 := q1.2) S hw (c_X11_spent l hG t0 k0 M q1 eq1) mv_X11_spent lk_X11_126 k0 ⟨_, _, rfl⟩ (by decide) rfl rfl (Nat.le_of_ble_eq_true rfl) ⟨Nat.le_of_ble_eq_true rfl, Nat.le_of_ble_eq_true rfl⟩ hl.1 dX11_means_1 (fun H locs hw => ?_)
  refine lv_if_eq (tgt := 15) hx hb dX11_means_4 (by decide) (fun c2 => ?_) (fun c2 => ?_)
  · have h := zif_t h c2
    refine lv_aload_n hx hb dX11_means_15 rfl (lv_at hl 0 rfl) ?_
    refine lv_iload_n hx hb dX11_means_16 rfl (lv_at hl 1 rfl) ?_
    obtain ⟨q3, eq3, h⟩ := zlet_ex h
    refine z_callV (ci := 11) (As := [.int v1]) (rest := []) (rv := (some (.int q3))) (M1 := q1.2) S hw (c_X11_noReading l hG t0 v1 k0 q1.2 q3 eq3.symm) mv_X11_noReading lk_X11_130 k0 ⟨_, _, rfl⟩ (by decide) rfl rfl (Nat.le_of_ble_eq_true rfl) ⟨Nat.le_of_ble_eq_true rfl, Nat.le_of_ble_eq_true rfl⟩ hl.1 dX11_means_17 (fun H locs hw => ?_)
    refine lv_if_eq (tgt := 32) hx hb dX11_means_20 (by decide) (fun c4 => ?_) (fun c4 => ?_)
    · have h := zif_t h c4
      refine lv_aload_n hx hb dX11_means_32 rfl (lv_at hl 0 rfl) ?_
      refine z_getR S hw k0 fl_X11_39 rfl dX11_means_33 ?_
      refine lv_iload_n hx hb dX11_means_36 rfl (lv_at hl 1 rfl) ?_
      obtain ⟨q5, eq5, h⟩ := zlet_ex h
      refine z_callV (ci := 2) (As := [.int v1]) (rest := []) (rv := (some (.long q5))) (M1 := q1.2) S hw (c_X2_meaning l hG (zr t0 5) v1 (kr_11_5 hG k0) q1.2 q5 eq5.symm) mv_X2_meaning lk_X11_148 (kr_11_5 hG k0) ⟨_, _, rfl⟩ (by decide) rfl rfl (Nat.le_of_ble_eq_true rfl) ⟨Nat.le_of_ble_eq_true rfl, Nat.le_of_ble_eq_true rfl⟩ hl.1 dX11_means_37 (fun H locs hw => ?_)
      have h := Option.some.inj h
      subst h
      exact z_ret_l S hr hlk hw dX11_means_40
    · have h := zif_f h c4
      refine lv_aload_n hx hb dX11_means_23 rfl (lv_at hl 0 rfl) ?_
      refine lv_iconst (v := (-1)) hx hb dX11_means_24 (by decide) ?_
      obtain ⟨q6, eq6, h⟩ := zlet_ex h
      refine z_callV (ci := 11) (As := [.int (-1)]) (rest := []) (rv := (some (.int q6.1))) (M1 := q6.2) S hw (c_X11_refuse l hG t0 (-1) k0 q1.2 q6 eq6.symm) mv_X11_refuse lk_X11_100 k0 ⟨_, _, rfl⟩ (by decide) rfl rfl (Nat.le_of_ble_eq_true rfl) ⟨Nat.le_of_ble_eq_true rfl, Nat.le_of_ble_eq_true rfl⟩ hl.1 dX11_means_25 (fun H locs hw => ?_)
      refine lv_i2l (v := (q6.1.toInt64)) hx hb dX11_means_28 rfl ?_
      refine lv_goto (tgt := 40) hx hb dX11_means_29 (by decide) ?_
      have h := Option.some.inj h
      subst h
      exact z_ret_l S hr hlk hw dX11_means_40
  · have h := zif_f h c2
    refine lv_aload_n hx hb dX11_means_7 rfl (lv_at hl 0 rfl) ?_
    refine lv_bipush (v := (-5)) hx hb dX11_means_8 (by decide) ?_
    obtain ⟨q7, eq7, h⟩ := zlet_ex h
    refine z_callV (ci := 11) (As := [.int (-5)]) (rest := []) (rv := (some (.int q7.1))) (M1 := q7.2) S hw (c_X11_refuse l hG t0 (-5) k0 q1.2 q7 eq7.symm) mv_X11_refuse lk_X11_100 k0 ⟨_, _, rfl⟩ (by decide) rfl rfl (Nat.le_of_ble_eq_true rfl) ⟨Nat.le_of_ble_eq_true rfl, Nat.le_of_ble_eq_true rfl⟩ hl.1 dX11_means_10 (fun H locs hw => ?_)
    refine lv_i2l (v := (q7.1.toInt64)) hx hb dX11_means_13 rfl ?_
    have h := Option.some.inj h
    subst h
    exact z_ret_l S hr hlk hw dX11_means_14
def f_X2_letByAll_6 (t0 : Nat) (M : ZM) (K : Int64 → Option Int64) : Nat → Int64 → Int32 → Option Int64
  | 0, _, _ => none
  | n + 1, v1, v3 =>
    if (M.1 t0 4) ≤ v3 then (
      K v1) else (
      zlet (f_X2_meaning t0 v3 M) fun (q2 : Int64) =>
      zlet (v1 &&& q2) fun (x3 : Int64) =>
      zlet (v3 + 1) fun (x4 : Int32) =>
      f_X2_letByAll_6 t0 M K n x3 x4)

def f_X2_letByAll (t0 : Nat) (M : ZM) : Option Int64 :=
  f_X2_letByAll_6 t0 M (fun (v1 : Int64) =>
    some v1) zN 4294967295 0
set_option maxHeartbeats 4000000 in
set_option maxRecDepth 100000 in
theorem w_X2_letByAll_6 {G : ZG} (hG : zOk G) (S : zX p (zR 2) s m args c 0 0 cX2_letByAll 4 RX2) (hr : meth.sig.returnType = (Option.some FieldType.long)) (hlk : meth.locks = false) (t0 : Nat) (k0 : zk G t0 = 12) (M : ZM)  {K : Int64 → Option Int64} {res : Int64} (hK : ∀ (v1 : Int64), K v1 = some res → ∀ (H : Heap) (locs : List Loc) (ls : Array Slot), zWd G A s H locs M → lv_has ls 4 [(1, .long v1)] → W p l e (zR 2) s m args below meth c H locs 0 0 (zQ below G A (some (.long res)) M args s) (F0 m 28 ls [])) : ∀ (n : Nat) (v1 : Int64) (v3 : Int32), f_X2_letByAll_6 t0 M K n v1 v3 = some res → ∀ (H : Heap) (locs : List Loc) (ls : Array Slot), zWd G A s H locs M → lv_has ls 4 [(0, .ref (za G t0)), (1, .long v1), (3, .int v3)] → W p l e (zR 2) s m args below meth c H locs 0 0 (zQ below G A (some (.long res)) M args s) (F0 m 6 ls []) := by
  have hx := S.1.1
  have hb := S.1.2.1
  have hown := S.1.2.2.2.1
  have hts := S.1.2.2.2.2
  intro n
  induction n with
  | zero =>
    intro v1 v3 h
    rw [f_X2_letByAll_6] at h
    cases h
  | succ n ih =>
    intro v1 v3 h H locs ls hw hl
    rw [f_X2_letByAll_6] at h
    refine lv_iload_n hx hb dX2_letByAll_6 rfl (lv_at hl 2 rfl) ?_
    refine lv_aload_n hx hb dX2_letByAll_7 rfl (lv_at hl 0 rfl) ?_
    refine z_getI S hw k0 fl_X2_33 rfl dX2_letByAll_8 ?_
    refine lv_icmp_ge (tgt := 28) hx hb dX2_letByAll_11 (by decide) (fun c1 => ?_) (fun c1 => ?_)
    · have h := zif_t h c1
      exact hK v1 h H locs ls hw (lv_sub hl [1] rfl)
    · have h := zif_f h c1
      refine lv_lload_n hx hb dX2_letByAll_14 rfl (lv_at hl 1 rfl) ?_
      refine lv_aload_n hx hb dX2_letByAll_15 rfl (lv_at hl 0 rfl) ?_
      refine lv_iload_n hx hb dX2_letByAll_16 rfl (lv_at hl 2 rfl) ?_
      obtain ⟨q2, eq2, h⟩ := zlet_ex h
      refine z_callV (ci := 2) (As := [.int v3]) (rest := [.long v1]) (rv := (some (.long q2))) (M1 := M) S hw (c_X2_meaning l hG t0 v3 k0 M q2 eq2.symm) mv_X2_meaning lk_X2_76 k0 ⟨_, _, rfl⟩ (by decide) rfl rfl (Nat.le_of_ble_eq_true rfl) ⟨Nat.le_of_ble_eq_true rfl, Nat.le_of_ble_eq_true rfl⟩ hl.1 dX2_letByAll_17 (fun H locs hw => ?_)
      refine lv_land hx hb dX2_letByAll_20 ?_
      obtain ⟨x3, ex3, h⟩ := zlet_ex h
      refine lv_toplE ex3 ?_
      refine lv_lstore_n (lv' := [(1, .long x3), (0, .ref (za G t0)), (3, .int v3)]) hx hb dX2_letByAll_21 rfl hl (by decide) rfl (fun ls hl => ?_)
      obtain ⟨x4, ex4, h⟩ := zlet_ex h
      refine lv_iinc (v := x4) (lv' := [(3, .int x4), (1, .long x3), (0, .ref (za G t0))]) hx hb dX2_letByAll_22 hl (k := 2) rfl (by rw [ex4]; rfl) (by decide) rfl (fun ls hl => ?_)
      refine lv_goto (tgt := 6) hx hb dX2_letByAll_25 (by decide) ?_
      exact ih x3 x4 h H locs ls hw (lv_sub hl [2, 1, 0] rfl)
set_option maxHeartbeats 4000000 in
set_option maxRecDepth 100000 in
theorem c_X2_letByAll (l : Launch) {G : ZG} (hG : zOk G) (t0 : Nat) (k0 : zk G t0 = 12) (M : ZM) (res : Int64) (h : f_X2_letByAll t0 M = some res) : zCt l yX2_letByAll cX2_letByAll 4 (Option.some FieldType.long) 2 G [.ref (za G t0)] M (some (.long res)) M := by
  refine zCt.mk (by decide +kernel) (Nat.le_of_ble_eq_true rfl) ?_
  intro p e s m args below meth c A H locs ls S hr hlk hw hl
  have S : zX p (zR 2) s m args c 0 0 cX2_letByAll 4 RX2 := S
  have hx := S.1.1
  have hb := S.1.2.1
  have hown := S.1.2.2.2.1
  have hts := S.1.2.2.2.2
  have hl : lv_has ls 4 [(0, .ref (za G t0))] := hl
  unfold f_X2_letByAll at h
  refine lv_ldc2 (v := 4294967295) hx hb hown (hts _ kc_X2_79) dX2_letByAll_0 ?_
  refine lv_lstore_n (lv' := [(1, .long 4294967295), (0, .ref (za G t0))]) hx hb dX2_letByAll_3 rfl hl (by decide) rfl (fun ls hl => ?_)
  refine lv_iconst (v := 0) hx hb dX2_letByAll_4 (by decide) ?_
  refine lv_istore_n (lv' := [(3, .int 0), (1, .long 4294967295), (0, .ref (za G t0))]) hx hb dX2_letByAll_5 rfl hl (by decide) rfl (fun ls hl => ?_)
  refine w_X2_letByAll_6 hG S hr hlk t0 k0 M (fun v1 h H locs ls hw hl => ?_) zN 4294967295 0 h H locs ls hw (lv_sub hl [2, 1, 0] rfl)
  refine lv_lload_n hx hb dX2_letByAll_28 rfl (lv_at hl 0 rfl) ?_
  have h := Option.some.inj h
  subst h
  exact z_ret_l S hr hlk hw dX2_letByAll_29
def f_X2_barredByAll_6 (t0 : Nat) (M : ZM) (K : Int64 → Option Int64) : Nat → Int64 → Int32 → Option Int64
  | 0, _, _ => none
  | n + 1, v1, v3 =>
    if (M.1 t0 4) ≤ v3 then (
      K v1) else (
      zlet (f_X2_meaning t0 v3 M) fun (q2 : Int64) =>
      zlet (v1 &&& (q2 ^^^ (-1))) fun (x3 : Int64) =>
      zlet (v3 + 1) fun (x4 : Int32) =>
      f_X2_barredByAll_6 t0 M K n x3 x4)

def f_X2_barredByAll (t0 : Nat) (M : ZM) : Option Int64 :=
  f_X2_barredByAll_6 t0 M (fun (v1 : Int64) =>
    some v1) zN 4294967295 0
set_option maxHeartbeats 4000000 in
set_option maxRecDepth 100000 in
theorem w_X2_barredByAll_6 {G : ZG} (hG : zOk G) (S : zX p (zR 2) s m args c 0 0 cX2_barredByAll 4 RX2) (hr : meth.sig.returnType = (Option.some FieldType.long)) (hlk : meth.locks = false) (t0 : Nat) (k0 : zk G t0 = 12) (M : ZM)  {K : Int64 → Option Int64} {res : Int64} (hK : ∀ (v1 : Int64), K v1 = some res → ∀ (H : Heap) (locs : List Loc) (ls : Array Slot), zWd G A s H locs M → lv_has ls 4 [(1, .long v1)] → W p l e (zR 2) s m args below meth c H locs 0 0 (zQ below G A (some (.long res)) M args s) (F0 m 32 ls [])) : ∀ (n : Nat) (v1 : Int64) (v3 : Int32), f_X2_barredByAll_6 t0 M K n v1 v3 = some res → ∀ (H : Heap) (locs : List Loc) (ls : Array Slot), zWd G A s H locs M → lv_has ls 4 [(0, .ref (za G t0)), (1, .long v1), (3, .int v3)] → W p l e (zR 2) s m args below meth c H locs 0 0 (zQ below G A (some (.long res)) M args s) (F0 m 6 ls []) := by
  have hx := S.1.1
  have hb := S.1.2.1
  have hown := S.1.2.2.2.1
  have hts := S.1.2.2.2.2
  intro n
  induction n with
  | zero =>
    intro v1 v3 h
    rw [f_X2_barredByAll_6] at h
    cases h
  | succ n ih =>
    intro v1 v3 h H locs ls hw hl
    rw [f_X2_barredByAll_6] at h
    refine lv_iload_n hx hb dX2_barredByAll_6 rfl (lv_at hl 2 rfl) ?_
    refine lv_aload_n hx hb dX2_barredByAll_7 rfl (lv_at hl 0 rfl) ?_
    refine z_getI S hw k0 fl_X2_33 rfl dX2_barredByAll_8 ?_
    refine lv_icmp_ge (tgt := 32) hx hb dX2_barredByAll_11 (by decide) (fun c1 => ?_) (fun c1 => ?_)
    · have h := zif_t h c1
      exact hK v1 h H locs ls hw (lv_sub hl [1] rfl)
    · have h := zif_f h c1
      refine lv_lload_n hx hb dX2_barredByAll_14 rfl (lv_at hl 1 rfl) ?_
      refine lv_aload_n hx hb dX2_barredByAll_15 rfl (lv_at hl 0 rfl) ?_
      refine lv_iload_n hx hb dX2_barredByAll_16 rfl (lv_at hl 2 rfl) ?_
      obtain ⟨q2, eq2, h⟩ := zlet_ex h
      refine z_callV (ci := 2) (As := [.int v3]) (rest := [.long v1]) (rv := (some (.long q2))) (M1 := M) S hw (c_X2_meaning l hG t0 v3 k0 M q2 eq2.symm) mv_X2_meaning lk_X2_76 k0 ⟨_, _, rfl⟩ (by decide) rfl rfl (Nat.le_of_ble_eq_true rfl) ⟨Nat.le_of_ble_eq_true rfl, Nat.le_of_ble_eq_true rfl⟩ hl.1 dX2_barredByAll_17 (fun H locs hw => ?_)
      refine lv_ldc2 (v := (-1)) hx hb hown (hts _ kc_X2_81) dX2_barredByAll_20 ?_
      refine lv_lxor hx hb dX2_barredByAll_23 ?_
      refine lv_land hx hb dX2_barredByAll_24 ?_
      obtain ⟨x3, ex3, h⟩ := zlet_ex h
      refine lv_toplE ex3 ?_
      refine lv_lstore_n (lv' := [(1, .long x3), (0, .ref (za G t0)), (3, .int v3)]) hx hb dX2_barredByAll_25 rfl hl (by decide) rfl (fun ls hl => ?_)
      obtain ⟨x4, ex4, h⟩ := zlet_ex h
      refine lv_iinc (v := x4) (lv' := [(3, .int x4), (1, .long x3), (0, .ref (za G t0))]) hx hb dX2_barredByAll_26 hl (k := 2) rfl (by rw [ex4]; rfl) (by decide) rfl (fun ls hl => ?_)
      refine lv_goto (tgt := 6) hx hb dX2_barredByAll_29 (by decide) ?_
      exact ih x3 x4 h H locs ls hw (lv_sub hl [2, 1, 0] rfl)
set_option maxHeartbeats 4000000 in
set_option maxRecDepth 100000 in
theorem c_X2_barredByAll (l : Launch) {G : ZG} (hG : zOk G) (t0 : Nat) (k0 : zk G t0 = 12) (M : ZM) (res : Int64) (h : f_X2_barredByAll t0 M = some res) : zCt l yX2_barredByAll cX2_barredByAll 4 (Option.some FieldType.long) 2 G [.ref (za G t0)] M (some (.long res)) M := by
  refine zCt.mk (by decide +kernel) (Nat.le_of_ble_eq_true rfl) ?_
  intro p e s m args below meth c A H locs ls S hr hlk hw hl
  have S : zX p (zR 2) s m args c 0 0 cX2_barredByAll 4 RX2 := S
  have hx := S.1.1
  have hb := S.1.2.1
  have hown := S.1.2.2.2.1
  have hts := S.1.2.2.2.2
  have hl : lv_has ls 4 [(0, .ref (za G t0))] := hl
  unfold f_X2_barredByAll at h
  refine lv_ldc2 (v := 4294967295) hx hb hown (hts _ kc_X2_79) dX2_barredByAll_0 ?_
  refine lv_lstore_n (lv' := [(1, .long 4294967295), (0, .ref (za G t0))]) hx hb dX2_barredByAll_3 rfl hl (by decide) rfl (fun ls hl => ?_)
  refine lv_iconst (v := 0) hx hb dX2_barredByAll_4 (by decide) ?_
  refine lv_istore_n (lv' := [(3, .int 0), (1, .long 4294967295), (0, .ref (za G t0))]) hx hb dX2_barredByAll_5 rfl hl (by decide) rfl (fun ls hl => ?_)
  refine w_X2_barredByAll_6 hG S hr hlk t0 k0 M (fun v1 h H locs ls hw hl => ?_) zN 4294967295 0 h H locs ls hw (lv_sub hl [2, 1, 0] rfl)
  refine lv_lload_n hx hb dX2_barredByAll_32 rfl (lv_at hl 0 rfl) ?_
  have h := Option.some.inj h
  subst h
  exact z_ret_l S hr hlk hw dX2_barredByAll_33
def f_X11_all (t0 : Nat) (v1 : Int32) (M : ZM) : Option (Int64 × ZM) :=
  (f_X11_spent t0 M).bind fun (q1 : (Int32 × ZM)) =>
  if q1.1 = 0 then (
    if v1 = 0 then (
      (f_X2_barredByAll (zr t0 5) q1.2).bind fun (q4 : Int64) =>
      some (q4, q1.2)) else (
      (f_X2_letByAll (zr t0 5) q1.2).bind fun (q5 : Int64) =>
      some (q5, q1.2))) else (
    zlet (f_X11_refuse t0 (-5) q1.2) fun (q6 : (Int32 × ZM)) =>
    some ((q6.1.toInt64), q6.2))
set_option maxHeartbeats 4000000 in
set_option maxRecDepth 100000 in
theorem c_X11_all (l : Launch) {G : ZG} (hG : zOk G) (t0 : Nat) (v1 : Int32) (k0 : zk G t0 = 21) (M : ZM) (res : (Int64 × ZM)) (h : f_X11_all t0 v1 M = some res) : zCt l yX11_all cX11_all 2 (Option.some FieldType.long) 6 G [.ref (za G t0), .int v1] M (some (.long res.1)) res.2 := by
  refine zCt.mk (by decide +kernel) (Nat.le_of_ble_eq_true rfl) ?_
  intro p e s m args below meth c A H locs ls S hr hlk hw hl
  have S : zX p (zR 6) s m args c 0 0 cX11_all 2 RX11 := S
  have hx := S.1.1
  have hb := S.1.2.1
  have hown := S.1.2.2.2.1
  have hts := S.1.2.2.2.2
  have hl : lv_has ls 2 [(0, .ref (za G t0)), (1, .int v1)] := hl
  unfold f_X11_all at h
  refine lv_aload_n hx hb dX11_all_0 rfl (lv_at hl 0 rfl) ?_
  obtain ⟨q1, eq1, h⟩ := Option.bind_eq_some_iff.mp h
  refine z_callV (ci := 11) (As := []) (rest := []) (rv := (some (.int q1.1))) (M1 := q1.2) S hw (c_X11_spent l hG t0 k0 M q1 eq1) mv_X11_spent lk_X11_126 k0 ⟨_, _, rfl⟩ (by decide) rfl rfl (Nat.le_of_ble_eq_true rfl) ⟨Nat.le_of_ble_eq_true rfl, Nat.le_of_ble_eq_true rfl⟩ hl.1 dX11_all_1 (fun H locs hw => ?_)
  refine lv_if_eq (tgt := 15) hx hb dX11_all_4 (by decide) (fun c2 => ?_) (fun c2 => ?_)
  · have h := zif_t h c2
    refine lv_iload_n hx hb dX11_all_15 rfl (lv_at hl 1 rfl) ?_
    refine lv_if_eq (tgt := 29) hx hb dX11_all_16 (by decide) (fun c3 => ?_) (fun c3 => ?_)
    · have h := zif_t h c3
      refine lv_aload_n hx hb dX11_all_29 rfl (lv_at hl 0 rfl) ?_
      refine z_getR S hw k0 fl_X11_39 rfl dX11_all_30 ?_
      obtain ⟨q4, eq4, h⟩ := Option.bind_eq_some_iff.mp h
      refine z_callV (ci := 2) (As := []) (rest := []) (rv := (some (.long q4))) (M1 := q1.2) S hw (c_X2_barredByAll l hG (zr t0 5) (kr_11_5 hG k0) q1.2 q4 eq4) mv_X2_barredByAll lk_X11_166 (kr_11_5 hG k0) ⟨_, _, rfl⟩ (by decide) rfl rfl (Nat.le_of_ble_eq_true rfl) ⟨Nat.le_of_ble_eq_true rfl, Nat.le_of_ble_eq_true rfl⟩ hl.1 dX11_all_33 (fun H locs hw => ?_)
      have h := Option.some.inj h
      subst h
      exact z_ret_l S hr hlk hw dX11_all_36
    · have h := zif_f h c3
      refine lv_aload_n hx hb dX11_all_19 rfl (lv_at hl 0 rfl) ?_
      refine z_getR S hw k0 fl_X11_39 rfl dX11_all_20 ?_
      obtain ⟨q5, eq5, h⟩ := Option.bind_eq_some_iff.mp h
      refine z_callV (ci := 2) (As := []) (rest := []) (rv := (some (.long q5))) (M1 := q1.2) S hw (c_X2_letByAll l hG (zr t0 5) (kr_11_5 hG k0) q1.2 q5 eq5) mv_X2_letByAll lk_X11_162 (kr_11_5 hG k0) ⟨_, _, rfl⟩ (by decide) rfl rfl (Nat.le_of_ble_eq_true rfl) ⟨Nat.le_of_ble_eq_true rfl, Nat.le_of_ble_eq_true rfl⟩ hl.1 dX11_all_23 (fun H locs hw => ?_)
      refine lv_goto (tgt := 36) hx hb dX11_all_26 (by decide) ?_
      have h := Option.some.inj h
      subst h
      exact z_ret_l S hr hlk hw dX11_all_36
  · have h := zif_f h c2
    refine lv_aload_n hx hb dX11_all_7 rfl (lv_at hl 0 rfl) ?_
    refine lv_bipush (v := (-5)) hx hb dX11_all_8 (by decide) ?_
    obtain ⟨q6, eq6, h⟩ := zlet_ex h
    refine z_callV (ci := 11) (As := [.int (-5)]) (rest := []) (rv := (some (.int q6.1))) (M1 := q6.2) S hw (c_X11_refuse l hG t0 (-5) k0 q1.2 q6 eq6.symm) mv_X11_refuse lk_X11_100 k0 ⟨_, _, rfl⟩ (by decide) rfl rfl (Nat.le_of_ble_eq_true rfl) ⟨Nat.le_of_ble_eq_true rfl, Nat.le_of_ble_eq_true rfl⟩ hl.1 dX11_all_10 (fun H locs hw => ?_)
    refine lv_i2l (v := (q6.1.toInt64)) hx hb dX11_all_13 rfl ?_
    have h := Option.some.inj h
    subst h
    exact z_ret_l S hr hlk hw dX11_all_14
def f_X11_same (t0 : Nat) (v1 : Int32) (v2 : Int32) (M : ZM) : Option (Int32 × ZM) :=
  (f_X11_spent t0 M).bind fun (q1 : (Int32 × ZM)) =>
  if q1.1 = 0 then (
    zlet (f_X11_noReading t0 v1 q1.2) fun (q3 : Int32) =>
    if q3 = 0 then (
      zlet (f_X11_noReading t0 v2 q1.2) fun (q6 : Int32) =>
      if q6 = 0 then (
        zlet (f_X2_meaning (zr t0 5) v1 q1.2) fun (q8 : Int64) =>
        zlet (f_X2_meaning (zr t0 5) v2 q1.2) fun (q9 : Int64) =>
        if (lg_cmp q8 q9) = 0 then (
          some ((1 : Int32), q1.2)) else (
          some ((0 : Int32), q1.2))) else (
        zlet (f_X11_refuse t0 (-1) q1.2) fun (q11 : (Int32 × ZM)) =>
        some (q11.1, q11.2))) else (
      zlet (f_X11_refuse t0 (-1) q1.2) fun (q5 : (Int32 × ZM)) =>
      some (q5.1, q5.2))) else (
    zlet (f_X11_refuse t0 (-5) q1.2) fun (q12 : (Int32 × ZM)) =>
    some (q12.1, q12.2))
set_option maxHeartbeats 4000000 in
set_option maxRecDepth 100000 in
theorem c_X11_same (l : Launch) {G : ZG} (hG : zOk G) (t0 : Nat) (v1 : Int32) (v2 : Int32) (k0 : zk G t0 = 21) (M : ZM) (res : (Int32 × ZM)) (h : f_X11_same t0 v1 v2 M = some res) : zCt l yX11_same cX11_same 3 (Option.some FieldType.int) 6 G [.ref (za G t0), .int v1, .int v2] M (some (.int res.1)) res.2 := by
  refine zCt.mk (by decide +kernel) (Nat.le_of_ble_eq_true rfl) ?_
  intro p e s m args below meth c A H locs ls S hr hlk hw hl
  have S : zX p (zR 6) s m args c 0 0 cX11_same 3 RX11 := S
  have hx := S.1.1
  have hb := S.1.2.1
  have hown := S.1.2.2.2.1
  have hts := S.1.2.2.2.2
  have hl : lv_has ls 3 [(0, .ref (za G t0)), (1, .int v1), (2, .int v2)] := hl
  unfold f_X11_same at h
  refine lv_aload_n hx hb dX11_same_0 rfl (lv_at hl 0 rfl) ?_
  obtain ⟨q1, eq1, h⟩ := Option.bind_eq_some_iff.mp h
  refine z_callV (ci := 11) (As := []) (rest := []) (rv := (some (.int q1.1))) (M1 := q1.2) S hw (c_X11_spent l hG t0 k0 M q1 eq1) mv_X11_spent lk_X11_126 k0 ⟨_, _, rfl⟩ (by decide) rfl rfl (Nat.le_of_ble_eq_true rfl) ⟨Nat.le_of_ble_eq_true rfl, Nat.le_of_ble_eq_true rfl⟩ hl.1 dX11_same_1 (fun H locs hw => ?_)
  refine lv_if_eq (tgt := 14) hx hb dX11_same_4 (by decide) (fun c2 => ?_) (fun c2 => ?_)
  · have h := zif_t h c2
    refine lv_aload_n hx hb dX11_same_14 rfl (lv_at hl 0 rfl) ?_
    refine lv_iload_n hx hb dX11_same_15 rfl (lv_at hl 1 rfl) ?_
    obtain ⟨q3, eq3, h⟩ := zlet_ex h
    refine z_callV (ci := 11) (As := [.int v1]) (rest := []) (rv := (some (.int q3))) (M1 := q1.2) S hw (c_X11_noReading l hG t0 v1 k0 q1.2 q3 eq3.symm) mv_X11_noReading lk_X11_130 k0 ⟨_, _, rfl⟩ (by decide) rfl rfl (Nat.le_of_ble_eq_true rfl) ⟨Nat.le_of_ble_eq_true rfl, Nat.le_of_ble_eq_true rfl⟩ hl.1 dX11_same_16 (fun H locs hw => ?_)
    refine lv_if_ne (tgt := 30) hx hb dX11_same_19 (by decide) (fun c4 => ?_) (fun c4 => ?_)
    · have h := zif_f h c4
      refine lv_aload_n hx hb dX11_same_30 rfl (lv_at hl 0 rfl) ?_
      refine lv_iconst (v := (-1)) hx hb dX11_same_31 (by decide) ?_
      obtain ⟨q5, eq5, h⟩ := zlet_ex h
      refine z_callV (ci := 11) (As := [.int (-1)]) (rest := []) (rv := (some (.int q5.1))) (M1 := q5.2) S hw (c_X11_refuse l hG t0 (-1) k0 q1.2 q5 eq5.symm) mv_X11_refuse lk_X11_100 k0 ⟨_, _, rfl⟩ (by decide) rfl rfl (Nat.le_of_ble_eq_true rfl) ⟨Nat.le_of_ble_eq_true rfl, Nat.le_of_ble_eq_true rfl⟩ hl.1 dX11_same_32 (fun H locs hw => ?_)
      have h := Option.some.inj h
      subst h
      exact z_ret_i S hr hlk hw dX11_same_35
    · have h := zif_t h c4
      refine lv_aload_n hx hb dX11_same_22 rfl (lv_at hl 0 rfl) ?_
      refine lv_iload_n hx hb dX11_same_23 rfl (lv_at hl 2 rfl) ?_
      obtain ⟨q6, eq6, h⟩ := zlet_ex h
      refine z_callV (ci := 11) (As := [.int v2]) (rest := []) (rv := (some (.int q6))) (M1 := q1.2) S hw (c_X11_noReading l hG t0 v2 k0 q1.2 q6 eq6.symm) mv_X11_noReading lk_X11_130 k0 ⟨_, _, rfl⟩ (by decide) rfl rfl (Nat.le_of_ble_eq_true rfl) ⟨Nat.le_of_ble_eq_true rfl, Nat.le_of_ble_eq_true rfl⟩ hl.1 dX11_same_24 (fun H locs hw => ?_)
      refine lv_if_eq (tgt := 36) hx hb dX11_same_27 (by decide) (fun c7 => ?_) (fun c7 => ?_)
      · have h := zif_t h c7
        refine lv_aload_n hx hb dX11_same_36 rfl (lv_at hl 0 rfl) ?_
        refine z_getR S hw k0 fl_X11_39 rfl dX11_same_37 ?_
        refine lv_iload_n hx hb dX11_same_40 rfl (lv_at hl 1 rfl) ?_
        obtain ⟨q8, eq8, h⟩ := zlet_ex h
        refine z_callV (ci := 2) (As := [.int v1]) (rest := []) (rv := (some (.long q8))) (M1 := q1.2) S hw (c_X2_meaning l hG (zr t0 5) v1 (kr_11_5 hG k0) q1.2 q8 eq8.symm) mv_X2_meaning lk_X11_148 (kr_11_5 hG k0) ⟨_, _, rfl⟩ (by decide) rfl rfl (Nat.le_of_ble_eq_true rfl) ⟨Nat.le_of_ble_eq_true rfl, Nat.le_of_ble_eq_true rfl⟩ hl.1 dX11_same_41 (fun H locs hw => ?_)
        refine lv_aload_n hx hb dX11_same_44 rfl (lv_at hl 0 rfl) ?_
        refine z_getR S hw k0 fl_X11_39 rfl dX11_same_45 ?_
        refine lv_iload_n hx hb dX11_same_48 rfl (lv_at hl 2 rfl) ?_
        obtain ⟨q9, eq9, h⟩ := zlet_ex h
        refine z_callV (ci := 2) (As := [.int v2]) (rest := [.long q8]) (rv := (some (.long q9))) (M1 := q1.2) S hw (c_X2_meaning l hG (zr t0 5) v2 (kr_11_5 hG k0) q1.2 q9 eq9.symm) mv_X2_meaning lk_X11_148 (kr_11_5 hG k0) ⟨_, _, rfl⟩ (by decide) rfl rfl (Nat.le_of_ble_eq_true rfl) ⟨Nat.le_of_ble_eq_true rfl, Nat.le_of_ble_eq_true rfl⟩ hl.1 dX11_same_49 (fun H locs hw => ?_)
        refine W.lcmp hx hb dX11_same_52 ?_
        refine lv_if_ne (tgt := 60) hx hb dX11_same_53 (by decide) (fun c10 => ?_) (fun c10 => ?_)
        · have h := zif_f h c10
          refine lv_iconst (v := 0) hx hb dX11_same_60 (by decide) ?_
          have h := Option.some.inj h
          subst h
          exact z_ret_i S hr hlk hw dX11_same_61
        · have h := zif_t h c10
          refine lv_iconst (v := 1) hx hb dX11_same_56 (by decide) ?_
          refine lv_goto (tgt := 61) hx hb dX11_same_57 (by decide) ?_
          have h := Option.some.inj h
          subst h
          exact z_ret_i S hr hlk hw dX11_same_61
      · have h := zif_f h c7
        refine lv_aload_n hx hb dX11_same_30 rfl (lv_at hl 0 rfl) ?_
        refine lv_iconst (v := (-1)) hx hb dX11_same_31 (by decide) ?_
        obtain ⟨q11, eq11, h⟩ := zlet_ex h
        refine z_callV (ci := 11) (As := [.int (-1)]) (rest := []) (rv := (some (.int q11.1))) (M1 := q11.2) S hw (c_X11_refuse l hG t0 (-1) k0 q1.2 q11 eq11.symm) mv_X11_refuse lk_X11_100 k0 ⟨_, _, rfl⟩ (by decide) rfl rfl (Nat.le_of_ble_eq_true rfl) ⟨Nat.le_of_ble_eq_true rfl, Nat.le_of_ble_eq_true rfl⟩ hl.1 dX11_same_32 (fun H locs hw => ?_)
        have h := Option.some.inj h
        subst h
        exact z_ret_i S hr hlk hw dX11_same_35
  · have h := zif_f h c2
    refine lv_aload_n hx hb dX11_same_7 rfl (lv_at hl 0 rfl) ?_
    refine lv_bipush (v := (-5)) hx hb dX11_same_8 (by decide) ?_
    obtain ⟨q12, eq12, h⟩ := zlet_ex h
    refine z_callV (ci := 11) (As := [.int (-5)]) (rest := []) (rv := (some (.int q12.1))) (M1 := q12.2) S hw (c_X11_refuse l hG t0 (-5) k0 q1.2 q12 eq12.symm) mv_X11_refuse lk_X11_100 k0 ⟨_, _, rfl⟩ (by decide) rfl rfl (Nat.le_of_ble_eq_true rfl) ⟨Nat.le_of_ble_eq_true rfl, Nat.le_of_ble_eq_true rfl⟩ hl.1 dX11_same_10 (fun H locs hw => ?_)
    have h := Option.some.inj h
    subst h
    exact z_ret_i S hr hlk hw dX11_same_13
end Z
