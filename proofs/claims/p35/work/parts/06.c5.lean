section Z
variable {p : Program} {l : Launch} {e : Env} {s : State} {m : MethodId} {args : Array Value} {below : List Frame} {meth : Method} {c : Code} {A : Nat → Prop}
def f_X6_keepMet_5 (t0 : Nat) (t1 : Nat) (v2 : Int32) (K : Int32 → ZM → Option ZM) : Nat → Int32 → Int32 → ZM → Option ZM
  | 0, _, _, _ => none
  | n + 1, v3, v4, M =>
    if (M.1 t0 1) ≤ v4 then (
      K v3 M) else (
      zlet (f_X6_at t0 v4 M) fun (q2 : Int32) =>
      zlet (f_X2_isMet t1 q2 v2 M) fun (q3 : Int32) =>
      if q3 = 0 then (
        zlet (v4 + 1) fun (x5 : Int32) =>
        f_X6_keepMet_5 t0 t1 v2 K n v3 x5 M) else (
        zlet (f_X6_at t0 v4 M) fun (q6 : Int32) =>
        zlet (f_X11_put (zr t0 0) v3 q6 M) fun (q7 : ZM) =>
        zlet (v3 + 1) fun (x8 : Int32) =>
        zlet (v4 + 1) fun (x9 : Int32) =>
        f_X6_keepMet_5 t0 t1 v2 K n x8 x9 q7))

def f_X6_keepMet (t0 : Nat) (t1 : Nat) (v2 : Int32) (M : ZM) : Option ZM :=
  f_X6_keepMet_5 t0 t1 v2 (fun (v3 : Int32) (M : ZM) =>
    if v3 = 0 then (
      zlet (zi M t0 2 ((M.1 t0 2) + 1)) fun (M12 : ZM) =>
      some M12) else (
      zlet (zi M t0 1 v3) fun (M11 : ZM) =>
      some M11)) zN 0 0 M
set_option maxHeartbeats 4000000 in
set_option maxRecDepth 100000 in
theorem w_X6_keepMet_5 {G : ZG} (hG : zOk G) (S : zX p (zR 2) s m args c 0 0 cX6_keepMet 5 RX6) (hr : meth.sig.returnType = none) (hlk : meth.locks = false) (t0 : Nat) (t1 : Nat) (v2 : Int32) (k0 : zk G t0 = 16) (k1 : zk G t1 = 12)  {K : Int32 → ZM → Option ZM} {res : ZM} (hK : ∀ (v3 : Int32) (M : ZM), K v3 M = some res → ∀ (H : Heap) (locs : List Loc) (ls : Array Slot), zWd G A s H locs M → lv_has ls 5 [(0, .ref (za G t0)), (3, .int v3)] → W p l e (zR 2) s m args below meth c H locs 0 0 (zQ below G A none res args s) (F0 m 51 ls [])) : ∀ (n : Nat) (v3 : Int32) (v4 : Int32) (M : ZM), f_X6_keepMet_5 t0 t1 v2 K n v3 v4 M = some res → ∀ (H : Heap) (locs : List Loc) (ls : Array Slot), zWd G A s H locs M → lv_has ls 5 [(0, .ref (za G t0)), (1, .ref (za G t1)), (2, .int v2), (3, .int v3), (4, .int v4)] → W p l e (zR 2) s m args below meth c H locs 0 0 (zQ below G A none res args s) (F0 m 5 ls []) := by
  have hx := S.1.1
  have hb := S.1.2.1
  have hown := S.1.2.2.2.1
  have hts := S.1.2.2.2.2
  intro n
  induction n with
  | zero =>
    intro v3 v4 M h
    rw [f_X6_keepMet_5] at h
    cases h
  | succ n ih =>
    intro v3 v4 M h H locs ls hw hl
    rw [f_X6_keepMet_5] at h
    refine lv_iload hx hb dX6_keepMet_5 (lv_at hl 4 rfl) ?_
    refine lv_aload_n hx hb dX6_keepMet_7 rfl (lv_at hl 0 rfl) ?_
    refine z_getI S hw k0 fl_X6_15 rfl dX6_keepMet_8 ?_
    refine lv_icmp_ge (tgt := 51) hx hb dX6_keepMet_11 (by decide) (fun c1 => ?_) (fun c1 => ?_)
    · have h := zif_t h c1
      exact hK v3 M h H locs ls hw (lv_sub hl [0, 3] rfl)
    · have h := zif_f h c1
      refine lv_aload_n hx hb dX6_keepMet_14 rfl (lv_at hl 1 rfl) ?_
      refine lv_aload_n hx hb dX6_keepMet_15 rfl (lv_at hl 0 rfl) ?_
      refine lv_iload hx hb dX6_keepMet_16 (lv_at hl 4 rfl) ?_
      obtain ⟨q2, eq2, h⟩ := zlet_ex h
      refine z_callV (ci := 6) (As := [.int v4]) (rest := [.ref (za G t1)]) (rv := (some (.int q2))) (M1 := M) S hw (c_X6_at l hG t0 v4 k0 M q2 eq2.symm) mv_X6_at lk_X6_46 k0 ⟨_, _, rfl⟩ (by decide) rfl rfl (Nat.le_of_ble_eq_true rfl) ⟨Nat.le_of_ble_eq_true rfl, Nat.le_of_ble_eq_true rfl⟩ hl.1 dX6_keepMet_18 (fun H locs hw => ?_)
      refine lv_iload_n hx hb dX6_keepMet_21 rfl (lv_at hl 2 rfl) ?_
      obtain ⟨q3, eq3, h⟩ := zlet_ex h
      refine z_callV (ci := 2) (As := [.int q2, .int v2]) (rest := []) (rv := (some (.int q3))) (M1 := M) S hw (c_X2_isMet l hG t1 q2 v2 k1 M q3 eq3.symm) mv_X2_isMet lk_X6_47 k1 ⟨_, _, rfl⟩ (by decide) rfl rfl (Nat.le_of_ble_eq_true rfl) ⟨Nat.le_of_ble_eq_true rfl, Nat.le_of_ble_eq_true rfl⟩ hl.1 dX6_keepMet_22 (fun H locs hw => ?_)
      refine lv_if_eq (tgt := 45) hx hb dX6_keepMet_25 (by decide) (fun c4 => ?_) (fun c4 => ?_)
      · have h := zif_t h c4
        obtain ⟨x5, ex5, h⟩ := zlet_ex h
        refine lv_iinc (v := x5) (lv' := [(4, .int x5), (0, .ref (za G t0)), (1, .ref (za G t1)), (2, .int v2), (3, .int v3)]) hx hb dX6_keepMet_45 hl (k := 4) rfl (by rw [ex5]; rfl) (by decide) rfl (fun ls hl => ?_)
        refine lv_goto (tgt := 5) hx hb dX6_keepMet_48 (by decide) ?_
        exact ih v3 x5 M h H locs ls hw (lv_sub hl [1, 2, 3, 4, 0] rfl)
      · have h := zif_f h c4
        refine lv_aload_n hx hb dX6_keepMet_28 rfl (lv_at hl 0 rfl) ?_
        refine z_getR S hw k0 fl_X6_9 rfl dX6_keepMet_29 ?_
        refine lv_iload_n hx hb dX6_keepMet_32 rfl (lv_at hl 3 rfl) ?_
        refine lv_aload_n hx hb dX6_keepMet_33 rfl (lv_at hl 0 rfl) ?_
        refine lv_iload hx hb dX6_keepMet_34 (lv_at hl 4 rfl) ?_
        obtain ⟨q6, eq6, h⟩ := zlet_ex h
        refine z_callV (ci := 6) (As := [.int v4]) (rest := [.int v3, .ref (za G (zr t0 0))]) (rv := (some (.int q6))) (M1 := M) S hw (c_X6_at l hG t0 v4 k0 M q6 eq6.symm) mv_X6_at lk_X6_46 k0 ⟨_, _, rfl⟩ (by decide) rfl rfl (Nat.le_of_ble_eq_true rfl) ⟨Nat.le_of_ble_eq_true rfl, Nat.le_of_ble_eq_true rfl⟩ hl.1 dX6_keepMet_36 (fun H locs hw => ?_)
        obtain ⟨q7, eq7, h⟩ := zlet_ex h
        refine z_callS (As := [.ref (za G (zr t0 0)), .int v3, .int q6]) (rest := []) (rv := none) (M1 := q7) S hw (c_X11_put l hG (zr t0 0) v3 q6 (kr_6_0 hG k0) M q7 eq7.symm) mv_X11_put lk_X6_31 rfl rfl (Nat.le_of_ble_eq_true rfl) ⟨Nat.le_of_ble_eq_true rfl, Nat.le_of_ble_eq_true rfl⟩ hl.1 dX6_keepMet_39 (fun H locs hw => ?_)
        obtain ⟨x8, ex8, h⟩ := zlet_ex h
        refine lv_iinc (v := x8) (lv' := [(3, .int x8), (0, .ref (za G t0)), (1, .ref (za G t1)), (2, .int v2), (4, .int v4)]) hx hb dX6_keepMet_42 hl (k := 3) rfl (by rw [ex8]; rfl) (by decide) rfl (fun ls hl => ?_)
        obtain ⟨x9, ex9, h⟩ := zlet_ex h
        refine lv_iinc (v := x9) (lv' := [(4, .int x9), (3, .int x8), (0, .ref (za G t0)), (1, .ref (za G t1)), (2, .int v2)]) hx hb dX6_keepMet_45 hl (k := 4) rfl (by rw [ex9]; rfl) (by decide) rfl (fun ls hl => ?_)
        refine lv_goto (tgt := 5) hx hb dX6_keepMet_48 (by decide) ?_
        exact ih x8 x9 q7 h H locs ls hw (lv_sub hl [2, 3, 4, 1, 0] rfl)
set_option maxHeartbeats 4000000 in
set_option maxRecDepth 100000 in
theorem c_X6_keepMet (l : Launch) {G : ZG} (hG : zOk G) (t0 : Nat) (t1 : Nat) (v2 : Int32) (k0 : zk G t0 = 16) (k1 : zk G t1 = 12) (M : ZM) (res : ZM) (h : f_X6_keepMet t0 t1 v2 M = some res) : zCt l yX6_keepMet cX6_keepMet 5 none 2 G [.ref (za G t0), .ref (za G t1), .int v2] M none res := by
  refine zCt.mk (by decide +kernel) (Nat.le_of_ble_eq_true rfl) ?_
  intro p e s m args below meth c A H locs ls S hr hlk hw hl
  have S : zX p (zR 2) s m args c 0 0 cX6_keepMet 5 RX6 := S
  have hx := S.1.1
  have hb := S.1.2.1
  have hown := S.1.2.2.2.1
  have hts := S.1.2.2.2.2
  have hl : lv_has ls 5 [(0, .ref (za G t0)), (1, .ref (za G t1)), (2, .int v2)] := hl
  unfold f_X6_keepMet at h
  refine lv_iconst (v := 0) hx hb dX6_keepMet_0 (by decide) ?_
  refine lv_istore_n (lv' := [(3, .int 0), (0, .ref (za G t0)), (1, .ref (za G t1)), (2, .int v2)]) hx hb dX6_keepMet_1 rfl hl (by decide) rfl (fun ls hl => ?_)
  refine lv_iconst (v := 0) hx hb dX6_keepMet_2 (by decide) ?_
  refine lv_istore (lv' := [(4, .int 0), (3, .int 0), (0, .ref (za G t0)), (1, .ref (za G t1)), (2, .int v2)]) hx hb dX6_keepMet_3 hl (by decide) rfl (fun ls hl => ?_)
  refine w_X6_keepMet_5 hG S hr hlk t0 t1 v2 k0 k1 (fun v3 M h H locs ls hw hl => ?_) zN 0 0 M h H locs ls hw (lv_sub hl [2, 3, 4, 1, 0] rfl)
  refine lv_iload_n hx hb dX6_keepMet_51 rfl (lv_at hl 1 rfl) ?_
  refine lv_if_ne (tgt := 68) hx hb dX6_keepMet_52 (by decide) (fun c10 => ?_) (fun c10 => ?_)
  · have h := zif_f h c10
    refine lv_aload_n hx hb dX6_keepMet_68 rfl (lv_at hl 0 rfl) ?_
    refine lv_iload_n hx hb dX6_keepMet_69 rfl (lv_at hl 1 rfl) ?_
    obtain ⟨M11, eM11, h⟩ := zlet_ex h
    refine z_putI S hw eM11 k0 fl_X6_15 rfl (fun h => absurd h (by decide)) dX6_keepMet_70 (fun H locs hw => ?_)
    have h := Option.some.inj h
    subst h
    exact z_ret_v S hr hlk hw dX6_keepMet_73
  · have h := zif_t h c10
    refine lv_aload_n hx hb dX6_keepMet_55 rfl (lv_at hl 0 rfl) ?_
    refine lv_dup hx hb dX6_keepMet_56 rfl ?_
    refine z_getI S hw k0 fl_X6_23 rfl dX6_keepMet_57 ?_
    refine lv_iconst (v := 1) hx hb dX6_keepMet_60 (by decide) ?_
    refine lv_iadd hx hb dX6_keepMet_61 ?_
    obtain ⟨M12, eM12, h⟩ := zlet_ex h
    refine z_putI S hw eM12 k0 fl_X6_23 rfl (fun h => absurd h (by decide)) dX6_keepMet_62 (fun H locs hw => ?_)
    refine lv_goto (tgt := 73) hx hb dX6_keepMet_65 (by decide) ?_
    have h := Option.some.inj h
    subst h
    exact z_ret_v S hr hlk hw dX6_keepMet_73
def f_X6_sift_16 (t0 : Nat) (t1 : Nat) (t2 : Nat) (v3 : Int32) (K : ZM → Option ZM) : Nat → Int32 → ZM → Option ZM
  | 0, _, _ => none
  | n + 1, v4, M =>
    if (M.1 t0 1) ≤ v4 then (
      K M) else (
      zlet (f_X11_put (zr t0 0) v4 v4 M) fun (q5 : ZM) =>
      zlet (v4 + 1) fun (x6 : Int32) =>
      f_X6_sift_16 t0 t1 t2 v3 K n x6 q5)

def f_X6_sift_45 (t0 : Nat) (t1 : Nat) (t2 : Nat) (v3 : Int32) (K : ZM → Option ZM) : Nat → Int32 → ZM → Option ZM
  | 0, _, _ => none
  | n + 1, v4, M =>
    zlet (f_X4_size t2 M) fun (q7 : Int32) =>
    if q7 ≤ v4 then (
      K M) else (
      zlet (f_X4_at t2 v4 M) fun (q9 : Int32) =>
      if q9 = v3 then (
        zlet (v4 + 1) fun (x11 : Int32) =>
        f_X6_sift_45 t0 t1 t2 v3 K n x11 M) else (
        zlet (f_X4_at t2 v4 M) fun (q12 : Int32) =>
        (f_X6_keepMet t0 t1 q12 M).bind fun (q13 : ZM) =>
        zlet (v4 + 1) fun (x14 : Int32) =>
        f_X6_sift_45 t0 t1 t2 v3 K n x14 q13))

def f_X6_sift (t0 : Nat) (t1 : Nat) (t2 : Nat) (v3 : Int32) (M : ZM) : Option ZM :=
  zlet (zi M t0 2 0) fun (M1 : ZM) =>
  zlet (f_X2_size t1 M1) fun (q2 : Int32) =>
  zlet (zi M1 t0 1 q2) fun (M3 : ZM) =>
  f_X6_sift_16 t0 t1 t2 v3 (fun (M : ZM) =>
    f_X6_sift_45 t0 t1 t2 v3 (fun (M : ZM) =>
      some M) zN 0 M) zN 0 M3
set_option maxHeartbeats 4000000 in
set_option maxRecDepth 100000 in
theorem w_X6_sift_16 {G : ZG} (hG : zOk G) (S : zX p (zR 3) s m args c 0 0 cX6_sift 5 RX6) (hr : meth.sig.returnType = none) (hlk : meth.locks = false) (t0 : Nat) (t1 : Nat) (t2 : Nat) (v3 : Int32) (k0 : zk G t0 = 16) (k1 : zk G t1 = 12) (k2 : zk G t2 = 14)  {K : ZM → Option ZM} {res : ZM} (hK : ∀  (M : ZM), K M = some res → ∀ (H : Heap) (locs : List Loc) (ls : Array Slot), zWd G A s H locs M → lv_has ls 5 [(0, .ref (za G t0)), (1, .ref (za G t1)), (2, .ref (za G t2)), (3, .int v3)] → W p l e (zR 3) s m args below meth c H locs 0 0 (zQ below G A none res args s) (F0 m 42 ls [])) : ∀ (n : Nat) (v4 : Int32) (M : ZM), f_X6_sift_16 t0 t1 t2 v3 K n v4 M = some res → ∀ (H : Heap) (locs : List Loc) (ls : Array Slot), zWd G A s H locs M → lv_has ls 5 [(0, .ref (za G t0)), (1, .ref (za G t1)), (2, .ref (za G t2)), (3, .int v3), (4, .int v4)] → W p l e (zR 3) s m args below meth c H locs 0 0 (zQ below G A none res args s) (F0 m 16 ls []) := by
  have hx := S.1.1
  have hb := S.1.2.1
  have hown := S.1.2.2.2.1
  have hts := S.1.2.2.2.2
  intro n
  induction n with
  | zero =>
    intro v4 M h
    rw [f_X6_sift_16] at h
    cases h
  | succ n ih =>
    intro v4 M h H locs ls hw hl
    rw [f_X6_sift_16] at h
    refine lv_iload hx hb dX6_sift_16 (lv_at hl 4 rfl) ?_
    refine lv_aload_n hx hb dX6_sift_18 rfl (lv_at hl 0 rfl) ?_
    refine z_getI S hw k0 fl_X6_15 rfl dX6_sift_19 ?_
    refine lv_icmp_ge (tgt := 42) hx hb dX6_sift_22 (by decide) (fun c4 => ?_) (fun c4 => ?_)
    · have h := zif_t h c4
      exact hK M h H locs ls hw (lv_sub hl [0, 1, 2, 3] rfl)
    · have h := zif_f h c4
      refine lv_aload_n hx hb dX6_sift_25 rfl (lv_at hl 0 rfl) ?_
      refine z_getR S hw k0 fl_X6_9 rfl dX6_sift_26 ?_
      refine lv_iload hx hb dX6_sift_29 (lv_at hl 4 rfl) ?_
      refine lv_iload hx hb dX6_sift_31 (lv_at hl 4 rfl) ?_
      obtain ⟨q5, eq5, h⟩ := zlet_ex h
      refine z_callS (As := [.ref (za G (zr t0 0)), .int v4, .int v4]) (rest := []) (rv := none) (M1 := q5) S hw (c_X11_put l hG (zr t0 0) v4 v4 (kr_6_0 hG k0) M q5 eq5.symm) mv_X11_put lk_X6_31 rfl rfl (Nat.le_of_ble_eq_true rfl) ⟨Nat.le_of_ble_eq_true rfl, Nat.le_of_ble_eq_true rfl⟩ hl.1 dX6_sift_33 (fun H locs hw => ?_)
      obtain ⟨x6, ex6, h⟩ := zlet_ex h
      refine lv_iinc (v := x6) (lv' := [(4, .int x6), (0, .ref (za G t0)), (1, .ref (za G t1)), (2, .ref (za G t2)), (3, .int v3)]) hx hb dX6_sift_36 hl (k := 4) rfl (by rw [ex6]; rfl) (by decide) rfl (fun ls hl => ?_)
      refine lv_goto (tgt := 16) hx hb dX6_sift_39 (by decide) ?_
      exact ih x6 q5 h H locs ls hw (lv_sub hl [1, 2, 3, 4, 0] rfl)
set_option maxHeartbeats 4000000 in
set_option maxRecDepth 100000 in
theorem w_X6_sift_45 {G : ZG} (hG : zOk G) (S : zX p (zR 3) s m args c 0 0 cX6_sift 5 RX6) (hr : meth.sig.returnType = none) (hlk : meth.locks = false) (t0 : Nat) (t1 : Nat) (t2 : Nat) (v3 : Int32) (k0 : zk G t0 = 16) (k1 : zk G t1 = 12) (k2 : zk G t2 = 14)  {K : ZM → Option ZM} {res : ZM} (hK : ∀  (M : ZM), K M = some res → ∀ (H : Heap) (locs : List Loc) (ls : Array Slot), zWd G A s H locs M → lv_has ls 5 [] → W p l e (zR 3) s m args below meth c H locs 0 0 (zQ below G A none res args s) (F0 m 81 ls [])) : ∀ (n : Nat) (v4 : Int32) (M : ZM), f_X6_sift_45 t0 t1 t2 v3 K n v4 M = some res → ∀ (H : Heap) (locs : List Loc) (ls : Array Slot), zWd G A s H locs M → lv_has ls 5 [(0, .ref (za G t0)), (1, .ref (za G t1)), (2, .ref (za G t2)), (3, .int v3), (4, .int v4)] → W p l e (zR 3) s m args below meth c H locs 0 0 (zQ below G A none res args s) (F0 m 45 ls []) := by
  have hx := S.1.1
  have hb := S.1.2.1
  have hown := S.1.2.2.2.1
  have hts := S.1.2.2.2.2
  intro n
  induction n with
  | zero =>
    intro v4 M h
    rw [f_X6_sift_45] at h
    cases h
  | succ n ih =>
    intro v4 M h H locs ls hw hl
    rw [f_X6_sift_45] at h
    refine lv_iload hx hb dX6_sift_45 (lv_at hl 4 rfl) ?_
    refine lv_aload_n hx hb dX6_sift_47 rfl (lv_at hl 2 rfl) ?_
    obtain ⟨q7, eq7, h⟩ := zlet_ex h
    refine z_callV (ci := 4) (As := []) (rest := [.int v4]) (rv := (some (.int q7))) (M1 := M) S hw (c_X4_size l hG t2 k2 M q7 eq7.symm) mv_X4_size lk_X6_35 k2 ⟨_, _, rfl⟩ (by decide) rfl rfl (Nat.le_of_ble_eq_true rfl) ⟨Nat.le_of_ble_eq_true rfl, Nat.le_of_ble_eq_true rfl⟩ hl.1 dX6_sift_48 (fun H locs hw => ?_)
    refine lv_icmp_ge (tgt := 81) hx hb dX6_sift_51 (by decide) (fun c8 => ?_) (fun c8 => ?_)
    · have h := zif_t h c8
      exact hK M h H locs ls hw (lv_sub hl [] rfl)
    · have h := zif_f h c8
      refine lv_aload_n hx hb dX6_sift_54 rfl (lv_at hl 2 rfl) ?_
      refine lv_iload hx hb dX6_sift_55 (lv_at hl 4 rfl) ?_
      obtain ⟨q9, eq9, h⟩ := zlet_ex h
      refine z_callV (ci := 4) (As := [.int v4]) (rest := []) (rv := (some (.int q9))) (M1 := M) S hw (c_X4_at l hG t2 v4 k2 M q9 eq9.symm) mv_X4_at lk_X6_38 k2 ⟨_, _, rfl⟩ (by decide) rfl rfl (Nat.le_of_ble_eq_true rfl) ⟨Nat.le_of_ble_eq_true rfl, Nat.le_of_ble_eq_true rfl⟩ hl.1 dX6_sift_57 (fun H locs hw => ?_)
      refine lv_iload_n hx hb dX6_sift_60 rfl (lv_at hl 3 rfl) ?_
      refine lv_icmp_eq (tgt := 75) hx hb dX6_sift_61 (by decide) (fun c10 => ?_) (fun c10 => ?_)
      · have h := zif_t h c10
        obtain ⟨x11, ex11, h⟩ := zlet_ex h
        refine lv_iinc (v := x11) (lv' := [(4, .int x11), (0, .ref (za G t0)), (1, .ref (za G t1)), (2, .ref (za G t2)), (3, .int v3)]) hx hb dX6_sift_75 hl (k := 4) rfl (by rw [ex11]; rfl) (by decide) rfl (fun ls hl => ?_)
        refine lv_goto (tgt := 45) hx hb dX6_sift_78 (by decide) ?_
        exact ih x11 M h H locs ls hw (lv_sub hl [1, 2, 3, 4, 0] rfl)
      · have h := zif_f h c10
        refine lv_aload_n hx hb dX6_sift_64 rfl (lv_at hl 0 rfl) ?_
        refine lv_aload_n hx hb dX6_sift_65 rfl (lv_at hl 1 rfl) ?_
        refine lv_aload_n hx hb dX6_sift_66 rfl (lv_at hl 2 rfl) ?_
        refine lv_iload hx hb dX6_sift_67 (lv_at hl 4 rfl) ?_
        obtain ⟨q12, eq12, h⟩ := zlet_ex h
        refine z_callV (ci := 4) (As := [.int v4]) (rest := [.ref (za G t1), .ref (za G t0)]) (rv := (some (.int q12))) (M1 := M) S hw (c_X4_at l hG t2 v4 k2 M q12 eq12.symm) mv_X4_at lk_X6_38 k2 ⟨_, _, rfl⟩ (by decide) rfl rfl (Nat.le_of_ble_eq_true rfl) ⟨Nat.le_of_ble_eq_true rfl, Nat.le_of_ble_eq_true rfl⟩ hl.1 dX6_sift_69 (fun H locs hw => ?_)
        obtain ⟨q13, eq13, h⟩ := Option.bind_eq_some_iff.mp h
        refine z_callV (ci := 6) (As := [.ref (za G t1), .int q12]) (rest := []) (rv := none) (M1 := q13) S hw (c_X6_keepMet l hG t0 t1 q12 k0 k1 M q13 eq13) mv_X6_keepMet lk_X6_42 k0 ⟨_, _, rfl⟩ (by decide) rfl rfl (Nat.le_of_ble_eq_true rfl) ⟨Nat.le_of_ble_eq_true rfl, Nat.le_of_ble_eq_true rfl⟩ hl.1 dX6_sift_72 (fun H locs hw => ?_)
        obtain ⟨x14, ex14, h⟩ := zlet_ex h
        refine lv_iinc (v := x14) (lv' := [(4, .int x14), (0, .ref (za G t0)), (1, .ref (za G t1)), (2, .ref (za G t2)), (3, .int v3)]) hx hb dX6_sift_75 hl (k := 4) rfl (by rw [ex14]; rfl) (by decide) rfl (fun ls hl => ?_)
        refine lv_goto (tgt := 45) hx hb dX6_sift_78 (by decide) ?_
        exact ih x14 q13 h H locs ls hw (lv_sub hl [1, 2, 3, 4, 0] rfl)
set_option maxHeartbeats 4000000 in
set_option maxRecDepth 100000 in
theorem c_X6_sift (l : Launch) {G : ZG} (hG : zOk G) (t0 : Nat) (t1 : Nat) (t2 : Nat) (v3 : Int32) (k0 : zk G t0 = 16) (k1 : zk G t1 = 12) (k2 : zk G t2 = 14) (M : ZM) (res : ZM) (h : f_X6_sift t0 t1 t2 v3 M = some res) : zCt l yX6_sift cX6_sift 5 none 3 G [.ref (za G t0), .ref (za G t1), .ref (za G t2), .int v3] M none res := by
  refine zCt.mk (by decide +kernel) (Nat.le_of_ble_eq_true rfl) ?_
  intro p e s m args below meth c A H locs ls S hr hlk hw hl
  have S : zX p (zR 3) s m args c 0 0 cX6_sift 5 RX6 := S
  have hx := S.1.1
  have hb := S.1.2.1
  have hown := S.1.2.2.2.1
  have hts := S.1.2.2.2.2
  have hl : lv_has ls 5 [(0, .ref (za G t0)), (1, .ref (za G t1)), (2, .ref (za G t2)), (3, .int v3)] := hl
  unfold f_X6_sift at h
  refine lv_aload_n hx hb dX6_sift_0 rfl (lv_at hl 0 rfl) ?_
  refine lv_iconst (v := 0) hx hb dX6_sift_1 (by decide) ?_
  obtain ⟨M1, eM1, h⟩ := zlet_ex h
  refine z_putI S hw eM1 k0 fl_X6_23 rfl (fun h => absurd h (by decide)) dX6_sift_2 (fun H locs hw => ?_)
  refine lv_aload_n hx hb dX6_sift_5 rfl (lv_at hl 0 rfl) ?_
  refine lv_aload_n hx hb dX6_sift_6 rfl (lv_at hl 1 rfl) ?_
  obtain ⟨q2, eq2, h⟩ := zlet_ex h
  refine z_callV (ci := 2) (As := []) (rest := [.ref (za G t0)]) (rv := (some (.int q2))) (M1 := M1) S hw (c_X2_size l hG t1 k1 M1 q2 eq2.symm) mv_X2_size lk_X6_26 k1 ⟨_, _, rfl⟩ (by decide) rfl rfl (Nat.le_of_ble_eq_true rfl) ⟨Nat.le_of_ble_eq_true rfl, Nat.le_of_ble_eq_true rfl⟩ hl.1 dX6_sift_7 (fun H locs hw => ?_)
  obtain ⟨M3, eM3, h⟩ := zlet_ex h
  refine z_putI S hw eM3 k0 fl_X6_15 rfl (fun h => absurd h (by decide)) dX6_sift_10 (fun H locs hw => ?_)
  refine lv_iconst (v := 0) hx hb dX6_sift_13 (by decide) ?_
  refine lv_istore (lv' := [(4, .int 0), (0, .ref (za G t0)), (1, .ref (za G t1)), (2, .ref (za G t2)), (3, .int v3)]) hx hb dX6_sift_14 hl (by decide) rfl (fun ls hl => ?_)
  refine w_X6_sift_16 hG S hr hlk t0 t1 t2 v3 k0 k1 k2 (fun M h H locs ls hw hl => ?_) zN 0 M3 h H locs ls hw (lv_sub hl [1, 2, 3, 4, 0] rfl)
  refine lv_iconst (v := 0) hx hb dX6_sift_42 (by decide) ?_
  refine lv_istore (lv' := [(4, .int 0), (0, .ref (za G t0)), (1, .ref (za G t1)), (2, .ref (za G t2)), (3, .int v3)]) hx hb dX6_sift_43 hl (by decide) rfl (fun ls hl => ?_)
  refine w_X6_sift_45 hG S hr hlk t0 t1 t2 v3 k0 k1 k2 (fun M h H locs ls hw hl => ?_) zN 0 M h H locs ls hw (lv_sub hl [1, 2, 3, 4, 0] rfl)
  have h := Option.some.inj h
  subst h
  exact z_ret_v S hr hlk hw dX6_sift_81
def f_X6_size (t0 : Nat) (M : ZM) : Int32 :=
  (M.1 t0 1)
set_option maxHeartbeats 4000000 in
set_option maxRecDepth 100000 in
theorem c_X6_size (l : Launch) {G : ZG} (hG : zOk G) (t0 : Nat) (k0 : zk G t0 = 16) (M : ZM) (res : Int32) (h : f_X6_size t0 M = res) : zCt l yX6_size cX6_size 1 (Option.some FieldType.int) 0 G [.ref (za G t0)] M (some (.int res)) M := by
  refine zCt.mk (by decide +kernel) (Nat.le_of_ble_eq_true rfl) ?_
  intro p e s m args below meth c A H locs ls S hr hlk hw hl
  have S : zX p (zR 0) s m args c 0 0 cX6_size 1 RX6 := S
  have hx := S.1.1
  have hb := S.1.2.1
  have hown := S.1.2.2.2.1
  have hts := S.1.2.2.2.2
  have hl : lv_has ls 1 [(0, .ref (za G t0))] := hl
  unfold f_X6_size at h
  refine lv_aload_n hx hb dX6_size_0 rfl (lv_at hl 0 rfl) ?_
  refine z_getI S hw k0 fl_X6_15 rfl dX6_size_1 ?_
  subst h
  exact z_ret_i S hr hlk hw dX6_size_4
def f_X11_leftOver (t0 : Nat) (v1 : Int32) (M : ZM) : Option (Int32 × ZM) :=
  (f_X11_spent t0 M).bind fun (q1 : (Int32 × ZM)) =>
  if q1.1 = 0 then (
    if (-1) ≤ v1 then (
      (f_X6_sift (zr t0 8) (zr t0 5) (zr t0 7) (-1) q1.2).bind fun (q4 : ZM) =>
      if v1 = (-1) then (
        zlet (f_X6_size (zr t0 8) q4) fun (q9 : Int32) =>
        some (q9, q4)) else (
        zlet (f_X6_size (zr t0 8) q4) fun (q6 : Int32) =>
        if q6 ≤ v1 then (
          some (((-9) : Int32), q4)) else (
          zlet (f_X6_at (zr t0 8) v1 q4) fun (q8 : Int32) =>
          some (q8, q4)))) else (
      zlet (f_X11_refuse t0 (-1) q1.2) fun (q10 : (Int32 × ZM)) =>
      some (q10.1, q10.2))) else (
    zlet (f_X11_refuse t0 (-5) q1.2) fun (q11 : (Int32 × ZM)) =>
    some (q11.1, q11.2))
set_option maxHeartbeats 4000000 in
set_option maxRecDepth 100000 in
theorem c_X11_leftOver (l : Launch) {G : ZG} (hG : zOk G) (t0 : Nat) (v1 : Int32) (k0 : zk G t0 = 21) (M : ZM) (res : (Int32 × ZM)) (h : f_X11_leftOver t0 v1 M = some res) : zCt l yX11_leftOver cX11_leftOver 2 (Option.some FieldType.int) 6 G [.ref (za G t0), .int v1] M (some (.int res.1)) res.2 := by
  refine zCt.mk (by decide +kernel) (Nat.le_of_ble_eq_true rfl) ?_
  intro p e s m args below meth c A H locs ls S hr hlk hw hl
  have S : zX p (zR 6) s m args c 0 0 cX11_leftOver 2 RX11 := S
  have hx := S.1.1
  have hb := S.1.2.1
  have hown := S.1.2.2.2.1
  have hts := S.1.2.2.2.2
  have hl : lv_has ls 2 [(0, .ref (za G t0)), (1, .int v1)] := hl
  unfold f_X11_leftOver at h
  refine lv_aload_n hx hb dX11_leftOver_0 rfl (lv_at hl 0 rfl) ?_
  obtain ⟨q1, eq1, h⟩ := Option.bind_eq_some_iff.mp h
  refine z_callV (ci := 11) (As := []) (rest := []) (rv := (some (.int q1.1))) (M1 := q1.2) S hw (c_X11_spent l hG t0 k0 M q1 eq1) mv_X11_spent lk_X11_126 k0 ⟨_, _, rfl⟩ (by decide) rfl rfl (Nat.le_of_ble_eq_true rfl) ⟨Nat.le_of_ble_eq_true rfl, Nat.le_of_ble_eq_true rfl⟩ hl.1 dX11_leftOver_1 (fun H locs hw => ?_)
  refine lv_if_eq (tgt := 14) hx hb dX11_leftOver_4 (by decide) (fun c2 => ?_) (fun c2 => ?_)
  · have h := zif_t h c2
    refine lv_iload_n hx hb dX11_leftOver_14 rfl (lv_at hl 1 rfl) ?_
    refine lv_iconst (v := (-1)) hx hb dX11_leftOver_15 (by decide) ?_
    refine lv_icmp_ge (tgt := 25) hx hb dX11_leftOver_16 (by decide) (fun c3 => ?_) (fun c3 => ?_)
    · have h := zif_t h c3
      refine lv_aload_n hx hb dX11_leftOver_25 rfl (lv_at hl 0 rfl) ?_
      refine z_getR S hw k0 fl_X11_60 rfl dX11_leftOver_26 ?_
      refine lv_aload_n hx hb dX11_leftOver_29 rfl (lv_at hl 0 rfl) ?_
      refine z_getR S hw k0 fl_X11_39 rfl dX11_leftOver_30 ?_
      refine lv_aload_n hx hb dX11_leftOver_33 rfl (lv_at hl 0 rfl) ?_
      refine z_getR S hw k0 fl_X11_53 rfl dX11_leftOver_34 ?_
      refine lv_iconst (v := (-1)) hx hb dX11_leftOver_37 (by decide) ?_
      obtain ⟨q4, eq4, h⟩ := Option.bind_eq_some_iff.mp h
      refine z_callV (ci := 6) (As := [.ref (za G (zr t0 5)), .ref (za G (zr t0 7)), .int (-1)]) (rest := []) (rv := none) (M1 := q4) S hw (c_X6_sift l hG (zr t0 8) (zr t0 5) (zr t0 7) (-1) (kr_11_8 hG k0) (kr_11_5 hG k0) (kr_11_7 hG k0) q1.2 q4 eq4) mv_X6_sift lk_X11_197 (kr_11_8 hG k0) ⟨_, _, rfl⟩ (by decide) rfl rfl (Nat.le_of_ble_eq_true rfl) ⟨Nat.le_of_ble_eq_true rfl, Nat.le_of_ble_eq_true rfl⟩ hl.1 dX11_leftOver_38 (fun H locs hw => ?_)
      refine lv_iload_n hx hb dX11_leftOver_41 rfl (lv_at hl 1 rfl) ?_
      refine lv_iconst (v := (-1)) hx hb dX11_leftOver_42 (by decide) ?_
      refine lv_icmp_ne (tgt := 54) hx hb dX11_leftOver_43 (by decide) (fun c5 => ?_) (fun c5 => ?_)
      · have h := zif_f h c5
        refine lv_iload_n hx hb dX11_leftOver_54 rfl (lv_at hl 1 rfl) ?_
        refine lv_aload_n hx hb dX11_leftOver_55 rfl (lv_at hl 0 rfl) ?_
        refine z_getR S hw k0 fl_X11_60 rfl dX11_leftOver_56 ?_
        obtain ⟨q6, eq6, h⟩ := zlet_ex h
        refine z_callV (ci := 6) (As := []) (rest := [.int v1]) (rv := (some (.int q6))) (M1 := q4) S hw (c_X6_size l hG (zr t0 8) (kr_11_8 hG k0) q4 q6 eq6.symm) mv_X6_size lk_X11_201 (kr_11_8 hG k0) ⟨_, _, rfl⟩ (by decide) rfl rfl (Nat.le_of_ble_eq_true rfl) ⟨Nat.le_of_ble_eq_true rfl, Nat.le_of_ble_eq_true rfl⟩ hl.1 dX11_leftOver_59 (fun H locs hw => ?_)
        refine lv_icmp_ge (tgt := 76) hx hb dX11_leftOver_62 (by decide) (fun c7 => ?_) (fun c7 => ?_)
        · have h := zif_t h c7
          refine lv_bipush (v := (-9)) hx hb dX11_leftOver_76 (by decide) ?_
          have h := Option.some.inj h
          subst h
          exact z_ret_i S hr hlk hw dX11_leftOver_78
        · have h := zif_f h c7
          refine lv_aload_n hx hb dX11_leftOver_65 rfl (lv_at hl 0 rfl) ?_
          refine z_getR S hw k0 fl_X11_60 rfl dX11_leftOver_66 ?_
          refine lv_iload_n hx hb dX11_leftOver_69 rfl (lv_at hl 1 rfl) ?_
          obtain ⟨q8, eq8, h⟩ := zlet_ex h
          refine z_callV (ci := 6) (As := [.int v1]) (rest := []) (rv := (some (.int q8))) (M1 := q4) S hw (c_X6_at l hG (zr t0 8) v1 (kr_11_8 hG k0) q4 q8 eq8.symm) mv_X6_at lk_X11_202 (kr_11_8 hG k0) ⟨_, _, rfl⟩ (by decide) rfl rfl (Nat.le_of_ble_eq_true rfl) ⟨Nat.le_of_ble_eq_true rfl, Nat.le_of_ble_eq_true rfl⟩ hl.1 dX11_leftOver_70 (fun H locs hw => ?_)
          refine lv_goto (tgt := 78) hx hb dX11_leftOver_73 (by decide) ?_
          have h := Option.some.inj h
          subst h
          exact z_ret_i S hr hlk hw dX11_leftOver_78
      · have h := zif_t h c5
        refine lv_aload_n hx hb dX11_leftOver_46 rfl (lv_at hl 0 rfl) ?_
        refine z_getR S hw k0 fl_X11_60 rfl dX11_leftOver_47 ?_
        obtain ⟨q9, eq9, h⟩ := zlet_ex h
        refine z_callV (ci := 6) (As := []) (rest := []) (rv := (some (.int q9))) (M1 := q4) S hw (c_X6_size l hG (zr t0 8) (kr_11_8 hG k0) q4 q9 eq9.symm) mv_X6_size lk_X11_201 (kr_11_8 hG k0) ⟨_, _, rfl⟩ (by decide) rfl rfl (Nat.le_of_ble_eq_true rfl) ⟨Nat.le_of_ble_eq_true rfl, Nat.le_of_ble_eq_true rfl⟩ hl.1 dX11_leftOver_50 (fun H locs hw => ?_)
        have h := Option.some.inj h
        subst h
        exact z_ret_i S hr hlk hw dX11_leftOver_53
    · have h := zif_f h c3
      refine lv_aload_n hx hb dX11_leftOver_19 rfl (lv_at hl 0 rfl) ?_
      refine lv_iconst (v := (-1)) hx hb dX11_leftOver_20 (by decide) ?_
      obtain ⟨q10, eq10, h⟩ := zlet_ex h
      refine z_callV (ci := 11) (As := [.int (-1)]) (rest := []) (rv := (some (.int q10.1))) (M1 := q10.2) S hw (c_X11_refuse l hG t0 (-1) k0 q1.2 q10 eq10.symm) mv_X11_refuse lk_X11_100 k0 ⟨_, _, rfl⟩ (by decide) rfl rfl (Nat.le_of_ble_eq_true rfl) ⟨Nat.le_of_ble_eq_true rfl, Nat.le_of_ble_eq_true rfl⟩ hl.1 dX11_leftOver_21 (fun H locs hw => ?_)
      have h := Option.some.inj h
      subst h
      exact z_ret_i S hr hlk hw dX11_leftOver_24
  · have h := zif_f h c2
    refine lv_aload_n hx hb dX11_leftOver_7 rfl (lv_at hl 0 rfl) ?_
    refine lv_bipush (v := (-5)) hx hb dX11_leftOver_8 (by decide) ?_
    obtain ⟨q11, eq11, h⟩ := zlet_ex h
    refine z_callV (ci := 11) (As := [.int (-5)]) (rest := []) (rv := (some (.int q11.1))) (M1 := q11.2) S hw (c_X11_refuse l hG t0 (-5) k0 q1.2 q11 eq11.symm) mv_X11_refuse lk_X11_100 k0 ⟨_, _, rfl⟩ (by decide) rfl rfl (Nat.le_of_ble_eq_true rfl) ⟨Nat.le_of_ble_eq_true rfl, Nat.le_of_ble_eq_true rfl⟩ hl.1 dX11_leftOver_10 (fun H locs hw => ?_)
    have h := Option.some.inj h
    subst h
    exact z_ret_i S hr hlk hw dX11_leftOver_13
def f_X6_passed (t0 : Nat) (M : ZM) : Int32 :=
  (M.1 t0 2)
set_option maxHeartbeats 4000000 in
set_option maxRecDepth 100000 in
theorem c_X6_passed (l : Launch) {G : ZG} (hG : zOk G) (t0 : Nat) (k0 : zk G t0 = 16) (M : ZM) (res : Int32) (h : f_X6_passed t0 M = res) : zCt l yX6_passed cX6_passed 1 (Option.some FieldType.int) 0 G [.ref (za G t0)] M (some (.int res)) M := by
  refine zCt.mk (by decide +kernel) (Nat.le_of_ble_eq_true rfl) ?_
  intro p e s m args below meth c A H locs ls S hr hlk hw hl
  have S : zX p (zR 0) s m args c 0 0 cX6_passed 1 RX6 := S
  have hx := S.1.1
  have hb := S.1.2.1
  have hown := S.1.2.2.2.1
  have hts := S.1.2.2.2.2
  have hl : lv_has ls 1 [(0, .ref (za G t0))] := hl
  unfold f_X6_passed at h
  refine lv_aload_n hx hb dX6_passed_0 rfl (lv_at hl 0 rfl) ?_
  refine z_getI S hw k0 fl_X6_23 rfl dX6_passed_1 ?_
  subst h
  exact z_ret_i S hr hlk hw dX6_passed_4
def f_X11_passedOver (t0 : Nat) (M : ZM) : Option (Int32 × ZM) :=
  (f_X11_spent t0 M).bind fun (q1 : (Int32 × ZM)) =>
  if q1.1 = 0 then (
    (f_X6_sift (zr t0 8) (zr t0 5) (zr t0 7) (-1) q1.2).bind fun (q3 : ZM) =>
    zlet (f_X6_passed (zr t0 8) q3) fun (q4 : Int32) =>
    some (q4, q3)) else (
    zlet (f_X11_refuse t0 (-5) q1.2) fun (q5 : (Int32 × ZM)) =>
    some (q5.1, q5.2))
set_option maxHeartbeats 4000000 in
set_option maxRecDepth 100000 in
theorem c_X11_passedOver (l : Launch) {G : ZG} (hG : zOk G) (t0 : Nat) (k0 : zk G t0 = 21) (M : ZM) (res : (Int32 × ZM)) (h : f_X11_passedOver t0 M = some res) : zCt l yX11_passedOver cX11_passedOver 1 (Option.some FieldType.int) 6 G [.ref (za G t0)] M (some (.int res.1)) res.2 := by
  refine zCt.mk (by decide +kernel) (Nat.le_of_ble_eq_true rfl) ?_
  intro p e s m args below meth c A H locs ls S hr hlk hw hl
  have S : zX p (zR 6) s m args c 0 0 cX11_passedOver 1 RX11 := S
  have hx := S.1.1
  have hb := S.1.2.1
  have hown := S.1.2.2.2.1
  have hts := S.1.2.2.2.2
  have hl : lv_has ls 1 [(0, .ref (za G t0))] := hl
  unfold f_X11_passedOver at h
  refine lv_aload_n hx hb dX11_passedOver_0 rfl (lv_at hl 0 rfl) ?_
  obtain ⟨q1, eq1, h⟩ := Option.bind_eq_some_iff.mp h
  refine z_callV (ci := 11) (As := []) (rest := []) (rv := (some (.int q1.1))) (M1 := q1.2) S hw (c_X11_spent l hG t0 k0 M q1 eq1) mv_X11_spent lk_X11_126 k0 ⟨_, _, rfl⟩ (by decide) rfl rfl (Nat.le_of_ble_eq_true rfl) ⟨Nat.le_of_ble_eq_true rfl, Nat.le_of_ble_eq_true rfl⟩ hl.1 dX11_passedOver_1 (fun H locs hw => ?_)
  refine lv_if_eq (tgt := 14) hx hb dX11_passedOver_4 (by decide) (fun c2 => ?_) (fun c2 => ?_)
  · have h := zif_t h c2
    refine lv_aload_n hx hb dX11_passedOver_14 rfl (lv_at hl 0 rfl) ?_
    refine z_getR S hw k0 fl_X11_60 rfl dX11_passedOver_15 ?_
    refine lv_aload_n hx hb dX11_passedOver_18 rfl (lv_at hl 0 rfl) ?_
    refine z_getR S hw k0 fl_X11_39 rfl dX11_passedOver_19 ?_
    refine lv_aload_n hx hb dX11_passedOver_22 rfl (lv_at hl 0 rfl) ?_
    refine z_getR S hw k0 fl_X11_53 rfl dX11_passedOver_23 ?_
    refine lv_iconst (v := (-1)) hx hb dX11_passedOver_26 (by decide) ?_
    obtain ⟨q3, eq3, h⟩ := Option.bind_eq_some_iff.mp h
    refine z_callV (ci := 6) (As := [.ref (za G (zr t0 5)), .ref (za G (zr t0 7)), .int (-1)]) (rest := []) (rv := none) (M1 := q3) S hw (c_X6_sift l hG (zr t0 8) (zr t0 5) (zr t0 7) (-1) (kr_11_8 hG k0) (kr_11_5 hG k0) (kr_11_7 hG k0) q1.2 q3 eq3) mv_X6_sift lk_X11_197 (kr_11_8 hG k0) ⟨_, _, rfl⟩ (by decide) rfl rfl (Nat.le_of_ble_eq_true rfl) ⟨Nat.le_of_ble_eq_true rfl, Nat.le_of_ble_eq_true rfl⟩ hl.1 dX11_passedOver_27 (fun H locs hw => ?_)
    refine lv_aload_n hx hb dX11_passedOver_30 rfl (lv_at hl 0 rfl) ?_
    refine z_getR S hw k0 fl_X11_60 rfl dX11_passedOver_31 ?_
    obtain ⟨q4, eq4, h⟩ := zlet_ex h
    refine z_callV (ci := 6) (As := []) (rest := []) (rv := (some (.int q4))) (M1 := q3) S hw (c_X6_passed l hG (zr t0 8) (kr_11_8 hG k0) q3 q4 eq4.symm) mv_X6_passed lk_X11_203 (kr_11_8 hG k0) ⟨_, _, rfl⟩ (by decide) rfl rfl (Nat.le_of_ble_eq_true rfl) ⟨Nat.le_of_ble_eq_true rfl, Nat.le_of_ble_eq_true rfl⟩ hl.1 dX11_passedOver_34 (fun H locs hw => ?_)
    have h := Option.some.inj h
    subst h
    exact z_ret_i S hr hlk hw dX11_passedOver_37
  · have h := zif_f h c2
    refine lv_aload_n hx hb dX11_passedOver_7 rfl (lv_at hl 0 rfl) ?_
    refine lv_bipush (v := (-5)) hx hb dX11_passedOver_8 (by decide) ?_
    obtain ⟨q5, eq5, h⟩ := zlet_ex h
    refine z_callV (ci := 11) (As := [.int (-5)]) (rest := []) (rv := (some (.int q5.1))) (M1 := q5.2) S hw (c_X11_refuse l hG t0 (-5) k0 q1.2 q5 eq5.symm) mv_X11_refuse lk_X11_100 k0 ⟨_, _, rfl⟩ (by decide) rfl rfl (Nat.le_of_ble_eq_true rfl) ⟨Nat.le_of_ble_eq_true rfl, Nat.le_of_ble_eq_true rfl⟩ hl.1 dX11_passedOver_10 (fun H locs hw => ?_)
    have h := Option.some.inj h
    subst h
    exact z_ret_i S hr hlk hw dX11_passedOver_13
def f_X6_keepsAs_2 (t0 : Nat) (t1 : Nat) (M : ZM) (K : Option Int32) : Nat → Int32 → Option Int32
  | 0, _ => none
  | n + 1, v2 =>
    if (M.1 t0 1) ≤ v2 then (
      K) else (
      zlet (f_X6_at t0 v2 M) fun (q2 : Int32) =>
      zlet (f_X6_at t1 v2 M) fun (q3 : Int32) =>
      if q2 = q3 then (
        zlet (v2 + 1) fun (x5 : Int32) =>
        f_X6_keepsAs_2 t0 t1 M K n x5) else (
        some (0 : Int32)))

def f_X6_keepsAs (t0 : Nat) (t1 : Nat) (M : ZM) : Option Int32 :=
  f_X6_keepsAs_2 t0 t1 M (
    if (M.1 t0 1) = (M.1 t1 1) then (
      some (1 : Int32)) else (
      some (0 : Int32))) zN 0
set_option maxHeartbeats 4000000 in
set_option maxRecDepth 100000 in
theorem w_X6_keepsAs_2 {G : ZG} (hG : zOk G) (S : zX p (zR 2) s m args c 0 0 cX6_keepsAs 3 RX6) (hr : meth.sig.returnType = (Option.some FieldType.boolean)) (hlk : meth.locks = false) (t0 : Nat) (t1 : Nat) (k0 : zk G t0 = 16) (k1 : zk G t1 = 16) (M : ZM)  {K : Option Int32} {res : Int32} (hK : K = some res → ∀ (H : Heap) (locs : List Loc) (ls : Array Slot), zWd G A s H locs M → lv_has ls 3 [(0, .ref (za G t0)), (1, .ref (za G t1))] → W p l e (zR 2) s m args below meth c H locs 0 0 (zQ below G A (some (.int res)) M args s) (F0 m 31 ls [])) : ∀ (n : Nat) (v2 : Int32), f_X6_keepsAs_2 t0 t1 M K n v2 = some res → ∀ (H : Heap) (locs : List Loc) (ls : Array Slot), zWd G A s H locs M → lv_has ls 3 [(0, .ref (za G t0)), (1, .ref (za G t1)), (2, .int v2)] → W p l e (zR 2) s m args below meth c H locs 0 0 (zQ below G A (some (.int res)) M args s) (F0 m 2 ls []) := by
  have hx := S.1.1
  have hb := S.1.2.1
  have hown := S.1.2.2.2.1
  have hts := S.1.2.2.2.2
  intro n
  induction n with
  | zero =>
    intro v2 h
    rw [f_X6_keepsAs_2] at h
    cases h
  | succ n ih =>
    intro v2 h H locs ls hw hl
    rw [f_X6_keepsAs_2] at h
    refine lv_iload_n hx hb dX6_keepsAs_2 rfl (lv_at hl 2 rfl) ?_
    refine lv_aload_n hx hb dX6_keepsAs_3 rfl (lv_at hl 0 rfl) ?_
    refine z_getI S hw k0 fl_X6_15 rfl dX6_keepsAs_4 ?_
    refine lv_icmp_ge (tgt := 31) hx hb dX6_keepsAs_7 (by decide) (fun c1 => ?_) (fun c1 => ?_)
    · have h := zif_t h c1
      exact hK  h H locs ls hw (lv_sub hl [0, 1] rfl)
    · have h := zif_f h c1
      refine lv_aload_n hx hb dX6_keepsAs_10 rfl (lv_at hl 0 rfl) ?_
      refine lv_iload_n hx hb dX6_keepsAs_11 rfl (lv_at hl 2 rfl) ?_
      obtain ⟨q2, eq2, h⟩ := zlet_ex h
      refine z_callV (ci := 6) (As := [.int v2]) (rest := []) (rv := (some (.int q2))) (M1 := M) S hw (c_X6_at l hG t0 v2 k0 M q2 eq2.symm) mv_X6_at lk_X6_46 k0 ⟨_, _, rfl⟩ (by decide) rfl rfl (Nat.le_of_ble_eq_true rfl) ⟨Nat.le_of_ble_eq_true rfl, Nat.le_of_ble_eq_true rfl⟩ hl.1 dX6_keepsAs_12 (fun H locs hw => ?_)
      refine lv_aload_n hx hb dX6_keepsAs_15 rfl (lv_at hl 1 rfl) ?_
      refine lv_iload_n hx hb dX6_keepsAs_16 rfl (lv_at hl 2 rfl) ?_
      obtain ⟨q3, eq3, h⟩ := zlet_ex h
      refine z_callV (ci := 6) (As := [.int v2]) (rest := [.int q2]) (rv := (some (.int q3))) (M1 := M) S hw (c_X6_at l hG t1 v2 k1 M q3 eq3.symm) mv_X6_at lk_X6_46 k1 ⟨_, _, rfl⟩ (by decide) rfl rfl (Nat.le_of_ble_eq_true rfl) ⟨Nat.le_of_ble_eq_true rfl, Nat.le_of_ble_eq_true rfl⟩ hl.1 dX6_keepsAs_17 (fun H locs hw => ?_)
      refine lv_icmp_eq (tgt := 25) hx hb dX6_keepsAs_20 (by decide) (fun c4 => ?_) (fun c4 => ?_)
      · have h := zif_t h c4
        obtain ⟨x5, ex5, h⟩ := zlet_ex h
        refine lv_iinc (v := x5) (lv' := [(2, .int x5), (0, .ref (za G t0)), (1, .ref (za G t1))]) hx hb dX6_keepsAs_25 hl (k := 2) rfl (by rw [ex5]; rfl) (by decide) rfl (fun ls hl => ?_)
        refine lv_goto (tgt := 2) hx hb dX6_keepsAs_28 (by decide) ?_
        exact ih x5 h H locs ls hw (lv_sub hl [1, 2, 0] rfl)
      · have h := zif_f h c4
        refine lv_iconst (v := 0) hx hb dX6_keepsAs_23 (by decide) ?_
        have h := Option.some.inj h
        subst h
        exact z_ret_z S hr hlk (Or.inl rfl) hw dX6_keepsAs_24
set_option maxHeartbeats 4000000 in
set_option maxRecDepth 100000 in
theorem c_X6_keepsAs (l : Launch) {G : ZG} (hG : zOk G) (t0 : Nat) (t1 : Nat) (k0 : zk G t0 = 16) (k1 : zk G t1 = 16) (M : ZM) (res : Int32) (h : f_X6_keepsAs t0 t1 M = some res) : zCt l yX6_keepsAs cX6_keepsAs 3 (Option.some FieldType.boolean) 2 G [.ref (za G t0), .ref (za G t1)] M (some (.int res)) M := by
  refine zCt.mk (by decide +kernel) (Nat.le_of_ble_eq_true rfl) ?_
  intro p e s m args below meth c A H locs ls S hr hlk hw hl
  have S : zX p (zR 2) s m args c 0 0 cX6_keepsAs 3 RX6 := S
  have hx := S.1.1
  have hb := S.1.2.1
  have hown := S.1.2.2.2.1
  have hts := S.1.2.2.2.2
  have hl : lv_has ls 3 [(0, .ref (za G t0)), (1, .ref (za G t1))] := hl
  unfold f_X6_keepsAs at h
  refine lv_iconst (v := 0) hx hb dX6_keepsAs_0 (by decide) ?_
  refine lv_istore_n (lv' := [(2, .int 0), (0, .ref (za G t0)), (1, .ref (za G t1))]) hx hb dX6_keepsAs_1 rfl hl (by decide) rfl (fun ls hl => ?_)
  refine w_X6_keepsAs_2 hG S hr hlk t0 t1 k0 k1 M (fun h H locs ls hw hl => ?_) zN 0 h H locs ls hw (lv_sub hl [1, 2, 0] rfl)
  refine lv_aload_n hx hb dX6_keepsAs_31 rfl (lv_at hl 0 rfl) ?_
  refine z_getI S hw k0 fl_X6_15 rfl dX6_keepsAs_32 ?_
  refine lv_aload_n hx hb dX6_keepsAs_35 rfl (lv_at hl 1 rfl) ?_
  refine z_getI S hw k1 fl_X6_15 rfl dX6_keepsAs_36 ?_
  refine lv_icmp_ne (tgt := 46) hx hb dX6_keepsAs_39 (by decide) (fun c6 => ?_) (fun c6 => ?_)
  · have h := zif_f h c6
    refine lv_iconst (v := 0) hx hb dX6_keepsAs_46 (by decide) ?_
    have h := Option.some.inj h
    subst h
    exact z_ret_z S hr hlk (Or.inl rfl) hw dX6_keepsAs_47
  · have h := zif_t h c6
    refine lv_iconst (v := 1) hx hb dX6_keepsAs_42 (by decide) ?_
    refine lv_goto (tgt := 47) hx hb dX6_keepsAs_43 (by decide) ?_
    have h := Option.some.inj h
    subst h
    exact z_ret_z S hr hlk (Or.inr rfl) hw dX6_keepsAs_47
def f_X11_hangs_34 (t0 : Nat) (K : Int32 → ZM → Option (Int32 × ZM)) : Nat → Int32 → Int32 → ZM → Option (Int32 × ZM)
  | 0, _, _, _ => none
  | n + 1, v1, v2, M =>
    if 6 ≤ v2 then (
      K v1 M) else (
      (f_X4_has (zr t0 7) v2 M).bind fun (q5 : Int32) =>
      if q5 = 0 then (
        zlet (v2 + 1) fun (x7 : Int32) =>
        f_X11_hangs_34 t0 K n v1 x7 M) else (
        (f_X6_sift (zr t0 9) (zr t0 5) (zr t0 7) v2 M).bind fun (q8 : ZM) =>
        (f_X6_keepsAs (zr t0 8) (zr t0 9) q8).bind fun (q9 : Int32) =>
        if q9 = 0 then (
          zlet (v1 ||| (1 <<< (v2 &&& 31))) fun (x12 : Int32) =>
          zlet (v2 + 1) fun (x13 : Int32) =>
          f_X11_hangs_34 t0 K n x12 x13 q8) else (
          zlet (v2 + 1) fun (x11 : Int32) =>
          f_X11_hangs_34 t0 K n v1 x11 q8)))

def f_X11_hangs (t0 : Nat) (M : ZM) : Option (Int32 × ZM) :=
  (f_X11_spent t0 M).bind fun (q1 : (Int32 × ZM)) =>
  if q1.1 = 0 then (
    (f_X6_sift (zr t0 8) (zr t0 5) (zr t0 7) (-1) q1.2).bind fun (q3 : ZM) =>
    f_X11_hangs_34 t0 (fun (v1 : Int32) (M : ZM) =>
      some (v1, M)) zN 0 0 q3) else (
    zlet (f_X11_refuse t0 (-5) q1.2) fun (q14 : (Int32 × ZM)) =>
    some (q14.1, q14.2))
set_option maxHeartbeats 4000000 in
set_option maxRecDepth 100000 in
theorem w_X11_hangs_34 {G : ZG} (hG : zOk G) (S : zX p (zR 6) s m args c 0 0 cX11_hangs 3 RX11) (hr : meth.sig.returnType = (Option.some FieldType.int)) (hlk : meth.locks = false) (t0 : Nat) (k0 : zk G t0 = 21)  {K : Int32 → ZM → Option (Int32 × ZM)} {res : (Int32 × ZM)} (hK : ∀ (v1 : Int32) (M : ZM), K v1 M = some res → ∀ (H : Heap) (locs : List Loc) (ls : Array Slot), zWd G A s H locs M → lv_has ls 3 [(1, .int v1)] → W p l e (zR 6) s m args below meth c H locs 0 0 (zQ below G A (some (.int res.1)) res.2 args s) (F0 m 93 ls [])) : ∀ (n : Nat) (v1 : Int32) (v2 : Int32) (M : ZM), f_X11_hangs_34 t0 K n v1 v2 M = some res → ∀ (H : Heap) (locs : List Loc) (ls : Array Slot), zWd G A s H locs M → lv_has ls 3 [(0, .ref (za G t0)), (1, .int v1), (2, .int v2)] → W p l e (zR 6) s m args below meth c H locs 0 0 (zQ below G A (some (.int res.1)) res.2 args s) (F0 m 34 ls []) := by
  have hx := S.1.1
  have hb := S.1.2.1
  have hown := S.1.2.2.2.1
  have hts := S.1.2.2.2.2
  intro n
  induction n with
  | zero =>
    intro v1 v2 M h
    rw [f_X11_hangs_34] at h
    cases h
  | succ n ih =>
    intro v1 v2 M h H locs ls hw hl
    rw [f_X11_hangs_34] at h
    refine lv_iload_n hx hb dX11_hangs_34 rfl (lv_at hl 2 rfl) ?_
    refine lv_bipush (v := 6) hx hb dX11_hangs_35 (by decide) ?_
    refine lv_icmp_ge (tgt := 93) hx hb dX11_hangs_37 (by decide) (fun c4 => ?_) (fun c4 => ?_)
    · have h := zif_t h c4
      exact hK v1 M h H locs ls hw (lv_sub hl [1] rfl)
    · have h := zif_f h c4
      refine lv_aload_n hx hb dX11_hangs_40 rfl (lv_at hl 0 rfl) ?_
      refine z_getR S hw k0 fl_X11_53 rfl dX11_hangs_41 ?_
      refine lv_iload_n hx hb dX11_hangs_44 rfl (lv_at hl 2 rfl) ?_
      obtain ⟨q5, eq5, h⟩ := Option.bind_eq_some_iff.mp h
      refine z_callV (ci := 4) (As := [.int v2]) (rest := []) (rv := (some (.int q5))) (M1 := M) S hw (c_X4_has l hG (zr t0 7) v2 (kr_11_7 hG k0) M q5 eq5) mv_X4_has lk_X11_191 (kr_11_7 hG k0) ⟨_, _, rfl⟩ (by decide) rfl rfl (Nat.le_of_ble_eq_true rfl) ⟨Nat.le_of_ble_eq_true rfl, Nat.le_of_ble_eq_true rfl⟩ hl.1 dX11_hangs_45 (fun H locs hw => ?_)
      refine lv_if_eq (tgt := 87) hx hb dX11_hangs_48 (by decide) (fun c6 => ?_) (fun c6 => ?_)
      · have h := zif_t h c6
        obtain ⟨x7, ex7, h⟩ := zlet_ex h
        refine lv_iinc (v := x7) (lv' := [(2, .int x7), (0, .ref (za G t0)), (1, .int v1)]) hx hb dX11_hangs_87 hl (k := 2) rfl (by rw [ex7]; rfl) (by decide) rfl (fun ls hl => ?_)
        refine lv_goto (tgt := 34) hx hb dX11_hangs_90 (by decide) ?_
        exact ih v1 x7 M h H locs ls hw (lv_sub hl [1, 2, 0] rfl)
      · have h := zif_f h c6
        refine lv_aload_n hx hb dX11_hangs_51 rfl (lv_at hl 0 rfl) ?_
        refine z_getR S hw k0 fl_X11_64 rfl dX11_hangs_52 ?_
        refine lv_aload_n hx hb dX11_hangs_55 rfl (lv_at hl 0 rfl) ?_
        refine z_getR S hw k0 fl_X11_39 rfl dX11_hangs_56 ?_
        refine lv_aload_n hx hb dX11_hangs_59 rfl (lv_at hl 0 rfl) ?_
        refine z_getR S hw k0 fl_X11_53 rfl dX11_hangs_60 ?_
        refine lv_iload_n hx hb dX11_hangs_63 rfl (lv_at hl 2 rfl) ?_
        obtain ⟨q8, eq8, h⟩ := Option.bind_eq_some_iff.mp h
        refine z_callV (ci := 6) (As := [.ref (za G (zr t0 5)), .ref (za G (zr t0 7)), .int v2]) (rest := []) (rv := none) (M1 := q8) S hw (c_X6_sift l hG (zr t0 9) (zr t0 5) (zr t0 7) v2 (kr_11_9 hG k0) (kr_11_5 hG k0) (kr_11_7 hG k0) M q8 eq8) mv_X6_sift lk_X11_197 (kr_11_9 hG k0) ⟨_, _, rfl⟩ (by decide) rfl rfl (Nat.le_of_ble_eq_true rfl) ⟨Nat.le_of_ble_eq_true rfl, Nat.le_of_ble_eq_true rfl⟩ hl.1 dX11_hangs_64 (fun H locs hw => ?_)
        refine lv_aload_n hx hb dX11_hangs_67 rfl (lv_at hl 0 rfl) ?_
        refine z_getR S hw k0 fl_X11_60 rfl dX11_hangs_68 ?_
        refine lv_aload_n hx hb dX11_hangs_71 rfl (lv_at hl 0 rfl) ?_
        refine z_getR S hw k0 fl_X11_64 rfl dX11_hangs_72 ?_
        obtain ⟨q9, eq9, h⟩ := Option.bind_eq_some_iff.mp h
        refine z_callV (ci := 6) (As := [.ref (za G (zr t0 9))]) (rest := []) (rv := (some (.int q9))) (M1 := q8) S hw (c_X6_keepsAs l hG (zr t0 8) (zr t0 9) (kr_11_8 hG k0) (kr_11_9 hG k0) q8 q9 eq9) mv_X6_keepsAs lk_X11_209 (kr_11_8 hG k0) ⟨_, _, rfl⟩ (by decide) rfl rfl (Nat.le_of_ble_eq_true rfl) ⟨Nat.le_of_ble_eq_true rfl, Nat.le_of_ble_eq_true rfl⟩ hl.1 dX11_hangs_75 (fun H locs hw => ?_)
        refine lv_if_ne (tgt := 87) hx hb dX11_hangs_78 (by decide) (fun c10 => ?_) (fun c10 => ?_)
        · have h := zif_f h c10
          obtain ⟨x11, ex11, h⟩ := zlet_ex h
          refine lv_iinc (v := x11) (lv' := [(2, .int x11), (0, .ref (za G t0)), (1, .int v1)]) hx hb dX11_hangs_87 hl (k := 2) rfl (by rw [ex11]; rfl) (by decide) rfl (fun ls hl => ?_)
          refine lv_goto (tgt := 34) hx hb dX11_hangs_90 (by decide) ?_
          exact ih v1 x11 q8 h H locs ls hw (lv_sub hl [1, 2, 0] rfl)
        · have h := zif_t h c10
          refine lv_iload_n hx hb dX11_hangs_81 rfl (lv_at hl 1 rfl) ?_
          refine lv_iconst (v := 1) hx hb dX11_hangs_82 (by decide) ?_
          refine lv_iload_n hx hb dX11_hangs_83 rfl (lv_at hl 2 rfl) ?_
          refine lv_ishl hx hb dX11_hangs_84 ?_
          refine lv_ior hx hb dX11_hangs_85 ?_
          obtain ⟨x12, ex12, h⟩ := zlet_ex h
          refine lv_topiE ex12 ?_
          refine lv_istore_n (lv' := [(1, .int x12), (0, .ref (za G t0)), (2, .int v2)]) hx hb dX11_hangs_86 rfl hl (by decide) rfl (fun ls hl => ?_)
          obtain ⟨x13, ex13, h⟩ := zlet_ex h
          refine lv_iinc (v := x13) (lv' := [(2, .int x13), (1, .int x12), (0, .ref (za G t0))]) hx hb dX11_hangs_87 hl (k := 2) rfl (by rw [ex13]; rfl) (by decide) rfl (fun ls hl => ?_)
          refine lv_goto (tgt := 34) hx hb dX11_hangs_90 (by decide) ?_
          exact ih x12 x13 q8 h H locs ls hw (lv_sub hl [2, 1, 0] rfl)
set_option maxHeartbeats 4000000 in
set_option maxRecDepth 100000 in
theorem c_X11_hangs (l : Launch) {G : ZG} (hG : zOk G) (t0 : Nat) (k0 : zk G t0 = 21) (M : ZM) (res : (Int32 × ZM)) (h : f_X11_hangs t0 M = some res) : zCt l yX11_hangs cX11_hangs 3 (Option.some FieldType.int) 6 G [.ref (za G t0)] M (some (.int res.1)) res.2 := by
  refine zCt.mk (by decide +kernel) (Nat.le_of_ble_eq_true rfl) ?_
  intro p e s m args below meth c A H locs ls S hr hlk hw hl
  have S : zX p (zR 6) s m args c 0 0 cX11_hangs 3 RX11 := S
  have hx := S.1.1
  have hb := S.1.2.1
  have hown := S.1.2.2.2.1
  have hts := S.1.2.2.2.2
  have hl : lv_has ls 3 [(0, .ref (za G t0))] := hl
  unfold f_X11_hangs at h
  refine lv_aload_n hx hb dX11_hangs_0 rfl (lv_at hl 0 rfl) ?_
  obtain ⟨q1, eq1, h⟩ := Option.bind_eq_some_iff.mp h
  refine z_callV (ci := 11) (As := []) (rest := []) (rv := (some (.int q1.1))) (M1 := q1.2) S hw (c_X11_spent l hG t0 k0 M q1 eq1) mv_X11_spent lk_X11_126 k0 ⟨_, _, rfl⟩ (by decide) rfl rfl (Nat.le_of_ble_eq_true rfl) ⟨Nat.le_of_ble_eq_true rfl, Nat.le_of_ble_eq_true rfl⟩ hl.1 dX11_hangs_1 (fun H locs hw => ?_)
  refine lv_if_eq (tgt := 14) hx hb dX11_hangs_4 (by decide) (fun c2 => ?_) (fun c2 => ?_)
  · have h := zif_t h c2
    refine lv_aload_n hx hb dX11_hangs_14 rfl (lv_at hl 0 rfl) ?_
    refine z_getR S hw k0 fl_X11_60 rfl dX11_hangs_15 ?_
    refine lv_aload_n hx hb dX11_hangs_18 rfl (lv_at hl 0 rfl) ?_
    refine z_getR S hw k0 fl_X11_39 rfl dX11_hangs_19 ?_
    refine lv_aload_n hx hb dX11_hangs_22 rfl (lv_at hl 0 rfl) ?_
    refine z_getR S hw k0 fl_X11_53 rfl dX11_hangs_23 ?_
    refine lv_iconst (v := (-1)) hx hb dX11_hangs_26 (by decide) ?_
    obtain ⟨q3, eq3, h⟩ := Option.bind_eq_some_iff.mp h
    refine z_callV (ci := 6) (As := [.ref (za G (zr t0 5)), .ref (za G (zr t0 7)), .int (-1)]) (rest := []) (rv := none) (M1 := q3) S hw (c_X6_sift l hG (zr t0 8) (zr t0 5) (zr t0 7) (-1) (kr_11_8 hG k0) (kr_11_5 hG k0) (kr_11_7 hG k0) q1.2 q3 eq3) mv_X6_sift lk_X11_197 (kr_11_8 hG k0) ⟨_, _, rfl⟩ (by decide) rfl rfl (Nat.le_of_ble_eq_true rfl) ⟨Nat.le_of_ble_eq_true rfl, Nat.le_of_ble_eq_true rfl⟩ hl.1 dX11_hangs_27 (fun H locs hw => ?_)
    refine lv_iconst (v := 0) hx hb dX11_hangs_30 (by decide) ?_
    refine lv_istore_n (lv' := [(1, .int 0), (0, .ref (za G t0))]) hx hb dX11_hangs_31 rfl hl (by decide) rfl (fun ls hl => ?_)
    refine lv_iconst (v := 0) hx hb dX11_hangs_32 (by decide) ?_
    refine lv_istore_n (lv' := [(2, .int 0), (1, .int 0), (0, .ref (za G t0))]) hx hb dX11_hangs_33 rfl hl (by decide) rfl (fun ls hl => ?_)
    refine w_X11_hangs_34 hG S hr hlk t0 k0 (fun v1 M h H locs ls hw hl => ?_) zN 0 0 q3 h H locs ls hw (lv_sub hl [2, 1, 0] rfl)
    refine lv_iload_n hx hb dX11_hangs_93 rfl (lv_at hl 0 rfl) ?_
    have h := Option.some.inj h
    subst h
    exact z_ret_i S hr hlk hw dX11_hangs_94
  · have h := zif_f h c2
    refine lv_aload_n hx hb dX11_hangs_7 rfl (lv_at hl 0 rfl) ?_
    refine lv_bipush (v := (-5)) hx hb dX11_hangs_8 (by decide) ?_
    obtain ⟨q14, eq14, h⟩ := zlet_ex h
    refine z_callV (ci := 11) (As := [.int (-5)]) (rest := []) (rv := (some (.int q14.1))) (M1 := q14.2) S hw (c_X11_refuse l hG t0 (-5) k0 q1.2 q14 eq14.symm) mv_X11_refuse lk_X11_100 k0 ⟨_, _, rfl⟩ (by decide) rfl rfl (Nat.le_of_ble_eq_true rfl) ⟨Nat.le_of_ble_eq_true rfl, Nat.le_of_ble_eq_true rfl⟩ hl.1 dX11_hangs_10 (fun H locs hw => ?_)
    have h := Option.some.inj h
    subst h
    exact z_ret_i S hr hlk hw dX11_hangs_13
def f_X2_lettingAt_4 (t0 : Nat) (v1 : Int32) (M : ZM) (K : Int32 → Option Int32) : Nat → Int32 → Int32 → Option Int32
  | 0, _, _ => none
  | n + 1, v2, v3 =>
    if (M.1 t0 4) ≤ v3 then (
      K v2) else (
      zlet (f_X2_meaning t0 v3 M) fun (q2 : Int64) =>
      zlet (f_X11_bit q2 v1 M) fun (q3 : Int32) =>
      zlet (v2 + q3) fun (x4 : Int32) =>
      zlet (v3 + 1) fun (x5 : Int32) =>
      f_X2_lettingAt_4 t0 v1 M K n x4 x5)

def f_X2_lettingAt (t0 : Nat) (v1 : Int32) (M : ZM) : Option Int32 :=
  f_X2_lettingAt_4 t0 v1 M (fun (v2 : Int32) =>
    some v2) zN 0 0
set_option maxHeartbeats 4000000 in
set_option maxRecDepth 100000 in
theorem w_X2_lettingAt_4 {G : ZG} (hG : zOk G) (S : zX p (zR 2) s m args c 0 0 cX2_lettingAt 4 RX2) (hr : meth.sig.returnType = (Option.some FieldType.int)) (hlk : meth.locks = false) (t0 : Nat) (v1 : Int32) (k0 : zk G t0 = 12) (M : ZM)  {K : Int32 → Option Int32} {res : Int32} (hK : ∀ (v2 : Int32), K v2 = some res → ∀ (H : Heap) (locs : List Loc) (ls : Array Slot), zWd G A s H locs M → lv_has ls 4 [(2, .int v2)] → W p l e (zR 2) s m args below meth c H locs 0 0 (zQ below G A (some (.int res)) M args s) (F0 m 30 ls [])) : ∀ (n : Nat) (v2 : Int32) (v3 : Int32), f_X2_lettingAt_4 t0 v1 M K n v2 v3 = some res → ∀ (H : Heap) (locs : List Loc) (ls : Array Slot), zWd G A s H locs M → lv_has ls 4 [(0, .ref (za G t0)), (1, .int v1), (2, .int v2), (3, .int v3)] → W p l e (zR 2) s m args below meth c H locs 0 0 (zQ below G A (some (.int res)) M args s) (F0 m 4 ls []) := by
  have hx := S.1.1
  have hb := S.1.2.1
  have hown := S.1.2.2.2.1
  have hts := S.1.2.2.2.2
  intro n
  induction n with
  | zero =>
    intro v2 v3 h
    rw [f_X2_lettingAt_4] at h
    cases h
  | succ n ih =>
    intro v2 v3 h H locs ls hw hl
    rw [f_X2_lettingAt_4] at h
    refine lv_iload_n hx hb dX2_lettingAt_4 rfl (lv_at hl 3 rfl) ?_
    refine lv_aload_n hx hb dX2_lettingAt_5 rfl (lv_at hl 0 rfl) ?_
    refine z_getI S hw k0 fl_X2_33 rfl dX2_lettingAt_6 ?_
    refine lv_icmp_ge (tgt := 30) hx hb dX2_lettingAt_9 (by decide) (fun c1 => ?_) (fun c1 => ?_)
    · have h := zif_t h c1
      exact hK v2 h H locs ls hw (lv_sub hl [2] rfl)
    · have h := zif_f h c1
      refine lv_iload_n hx hb dX2_lettingAt_12 rfl (lv_at hl 2 rfl) ?_
      refine lv_aload_n hx hb dX2_lettingAt_13 rfl (lv_at hl 0 rfl) ?_
      refine lv_iload_n hx hb dX2_lettingAt_14 rfl (lv_at hl 3 rfl) ?_
      obtain ⟨q2, eq2, h⟩ := zlet_ex h
      refine z_callV (ci := 2) (As := [.int v3]) (rest := [.int v2]) (rv := (some (.long q2))) (M1 := M) S hw (c_X2_meaning l hG t0 v3 k0 M q2 eq2.symm) mv_X2_meaning lk_X2_76 k0 ⟨_, _, rfl⟩ (by decide) rfl rfl (Nat.le_of_ble_eq_true rfl) ⟨Nat.le_of_ble_eq_true rfl, Nat.le_of_ble_eq_true rfl⟩ hl.1 dX2_lettingAt_15 (fun H locs hw => ?_)
      refine lv_iload_n hx hb dX2_lettingAt_18 rfl (lv_at hl 1 rfl) ?_
      obtain ⟨q3, eq3, h⟩ := zlet_ex h
      refine z_callS (As := [.long q2, .int v1]) (rest := [.int v2]) (rv := (some (.int q3))) (M1 := M) S hw (c_X11_bit l hG q2 v1 M q3 eq3.symm) mv_X11_bit lk_X2_72 rfl rfl (Nat.le_of_ble_eq_true rfl) ⟨Nat.le_of_ble_eq_true rfl, Nat.le_of_ble_eq_true rfl⟩ hl.1 dX2_lettingAt_19 (fun H locs hw => ?_)
      refine lv_iadd hx hb dX2_lettingAt_22 ?_
      obtain ⟨x4, ex4, h⟩ := zlet_ex h
      refine lv_topiE ex4 ?_
      refine lv_istore_n (lv' := [(2, .int x4), (0, .ref (za G t0)), (1, .int v1), (3, .int v3)]) hx hb dX2_lettingAt_23 rfl hl (by decide) rfl (fun ls hl => ?_)
      obtain ⟨x5, ex5, h⟩ := zlet_ex h
      refine lv_iinc (v := x5) (lv' := [(3, .int x5), (2, .int x4), (0, .ref (za G t0)), (1, .int v1)]) hx hb dX2_lettingAt_24 hl (k := 3) rfl (by rw [ex5]; rfl) (by decide) rfl (fun ls hl => ?_)
      refine lv_goto (tgt := 4) hx hb dX2_lettingAt_27 (by decide) ?_
      exact ih x4 x5 h H locs ls hw (lv_sub hl [2, 3, 1, 0] rfl)
set_option maxHeartbeats 4000000 in
set_option maxRecDepth 100000 in
theorem c_X2_lettingAt (l : Launch) {G : ZG} (hG : zOk G) (t0 : Nat) (v1 : Int32) (k0 : zk G t0 = 12) (M : ZM) (res : Int32) (h : f_X2_lettingAt t0 v1 M = some res) : zCt l yX2_lettingAt cX2_lettingAt 4 (Option.some FieldType.int) 2 G [.ref (za G t0), .int v1] M (some (.int res)) M := by
  refine zCt.mk (by decide +kernel) (Nat.le_of_ble_eq_true rfl) ?_
  intro p e s m args below meth c A H locs ls S hr hlk hw hl
  have S : zX p (zR 2) s m args c 0 0 cX2_lettingAt 4 RX2 := S
  have hx := S.1.1
  have hb := S.1.2.1
  have hown := S.1.2.2.2.1
  have hts := S.1.2.2.2.2
  have hl : lv_has ls 4 [(0, .ref (za G t0)), (1, .int v1)] := hl
  unfold f_X2_lettingAt at h
  refine lv_iconst (v := 0) hx hb dX2_lettingAt_0 (by decide) ?_
  refine lv_istore_n (lv' := [(2, .int 0), (0, .ref (za G t0)), (1, .int v1)]) hx hb dX2_lettingAt_1 rfl hl (by decide) rfl (fun ls hl => ?_)
  refine lv_iconst (v := 0) hx hb dX2_lettingAt_2 (by decide) ?_
  refine lv_istore_n (lv' := [(3, .int 0), (2, .int 0), (0, .ref (za G t0)), (1, .int v1)]) hx hb dX2_lettingAt_3 rfl hl (by decide) rfl (fun ls hl => ?_)
  refine w_X2_lettingAt_4 hG S hr hlk t0 v1 k0 M (fun v2 h H locs ls hw hl => ?_) zN 0 0 h H locs ls hw (lv_sub hl [2, 3, 1, 0] rfl)
  refine lv_iload_n hx hb dX2_lettingAt_30 rfl (lv_at hl 0 rfl) ?_
  have h := Option.some.inj h
  subst h
  exact z_ret_i S hr hlk hw dX2_lettingAt_31
def f_X2_evenestCase_11 (t0 : Nat) (M : ZM) (K : Int32 → Option Int32) : Nat → Int32 → Int32 → Int32 → Option Int32
  | 0, _, _, _ => none
  | n + 1, v1, v2, v3 =>
    if 32 ≤ v3 then (
      K v1) else (
      (f_X2_lettingAt t0 v3 M).bind fun (q3 : Int32) =>
      zlet (zabs ((2 * q3) - (M.1 t0 4))) fun (x5 : Int32) =>
      if v2 ≤ x5 then (
        zlet (v3 + 1) fun (x7 : Int32) =>
        f_X2_evenestCase_11 t0 M K n v1 v2 x7) else (
        zlet (v3 + 1) fun (x8 : Int32) =>
        f_X2_evenestCase_11 t0 M K n v3 x5 x8))

def f_X2_evenestCase (t0 : Nat) (M : ZM) : Option Int32 :=
  zlet ((M.1 t0 4) + 1) fun (x1 : Int32) =>
  f_X2_evenestCase_11 t0 M (fun (v1 : Int32) =>
    some v1) zN 0 x1 0
set_option maxHeartbeats 4000000 in
set_option maxRecDepth 100000 in
theorem w_X2_evenestCase_11 {G : ZG} (hG : zOk G) (S : zX p (zR 3) s m args c 0 0 cX2_evenestCase 5 RX2) (hr : meth.sig.returnType = (Option.some FieldType.int)) (hlk : meth.locks = false) (t0 : Nat) (k0 : zk G t0 = 12) (M : ZM)  {K : Int32 → Option Int32} {res : Int32} (hK : ∀ (v1 : Int32), K v1 = some res → ∀ (H : Heap) (locs : List Loc) (ls : Array Slot), zWd G A s H locs M → lv_has ls 5 [(1, .int v1)] → W p l e (zR 3) s m args below meth c H locs 0 0 (zQ below G A (some (.int res)) M args s) (F0 m 51 ls [])) : ∀ (n : Nat) (v1 : Int32) (v2 : Int32) (v3 : Int32), f_X2_evenestCase_11 t0 M K n v1 v2 v3 = some res → ∀ (H : Heap) (locs : List Loc) (ls : Array Slot), zWd G A s H locs M → lv_has ls 5 [(0, .ref (za G t0)), (1, .int v1), (2, .int v2), (3, .int v3)] → W p l e (zR 3) s m args below meth c H locs 0 0 (zQ below G A (some (.int res)) M args s) (F0 m 11 ls []) := by
  have hx := S.1.1
  have hb := S.1.2.1
  have hown := S.1.2.2.2.1
  have hts := S.1.2.2.2.2
  intro n
  induction n with
  | zero =>
    intro v1 v2 v3 h
    rw [f_X2_evenestCase_11] at h
    cases h
  | succ n ih =>
    intro v1 v2 v3 h H locs ls hw hl
    rw [f_X2_evenestCase_11] at h
    refine lv_iload_n hx hb dX2_evenestCase_11 rfl (lv_at hl 3 rfl) ?_
    refine lv_bipush (v := 32) hx hb dX2_evenestCase_12 (by decide) ?_
    refine lv_icmp_ge (tgt := 51) hx hb dX2_evenestCase_14 (by decide) (fun c2 => ?_) (fun c2 => ?_)
    · have h := zif_t h c2
      exact hK v1 h H locs ls hw (lv_sub hl [1] rfl)
    · have h := zif_f h c2
      refine lv_iconst (v := 2) hx hb dX2_evenestCase_17 (by decide) ?_
      refine lv_aload_n hx hb dX2_evenestCase_18 rfl (lv_at hl 0 rfl) ?_
      refine lv_iload_n hx hb dX2_evenestCase_19 rfl (lv_at hl 3 rfl) ?_
      obtain ⟨q3, eq3, h⟩ := Option.bind_eq_some_iff.mp h
      refine z_callV (ci := 2) (As := [.int v3]) (rest := [.int 2]) (rv := (some (.int q3))) (M1 := M) S hw (c_X2_lettingAt l hG t0 v3 k0 M q3 eq3) mv_X2_lettingAt lk_X2_90 k0 ⟨_, _, rfl⟩ (by decide) rfl rfl (Nat.le_of_ble_eq_true rfl) ⟨Nat.le_of_ble_eq_true rfl, Nat.le_of_ble_eq_true rfl⟩ hl.1 dX2_evenestCase_20 (fun H locs hw => ?_)
      refine lv_imul hx hb dX2_evenestCase_23 ?_
      refine lv_aload_n hx hb dX2_evenestCase_24 rfl (lv_at hl 0 rfl) ?_
      refine z_getI S hw k0 fl_X2_33 rfl dX2_evenestCase_25 ?_
      refine lv_isub hx hb dX2_evenestCase_28 ?_
      refine z_absI S lkm_X2_93 hl.1 ⟨Nat.le_of_ble_eq_true rfl, Nat.le_of_ble_eq_true rfl⟩ dX2_evenestCase_29 ?_
      obtain ⟨x5, ex5, h⟩ := zlet_ex h
      refine lv_topiE ex5 ?_
      refine lv_istore (lv' := [(4, .int x5), (0, .ref (za G t0)), (1, .int v1), (2, .int v2), (3, .int v3)]) hx hb dX2_evenestCase_32 hl (by decide) rfl (fun ls hl => ?_)
      refine lv_iload hx hb dX2_evenestCase_34 (lv_at hl 0 rfl) ?_
      refine lv_iload_n hx hb dX2_evenestCase_36 rfl (lv_at hl 3 rfl) ?_
      refine lv_icmp_ge (tgt := 45) hx hb dX2_evenestCase_37 (by decide) (fun c6 => ?_) (fun c6 => ?_)
      · have h := zif_t h c6
        obtain ⟨x7, ex7, h⟩ := zlet_ex h
        refine lv_iinc (v := x7) (lv' := [(3, .int x7), (4, .int x5), (0, .ref (za G t0)), (1, .int v1), (2, .int v2)]) hx hb dX2_evenestCase_45 hl (k := 4) rfl (by rw [ex7]; rfl) (by decide) rfl (fun ls hl => ?_)
        refine lv_goto (tgt := 11) hx hb dX2_evenestCase_48 (by decide) ?_
        exact ih v1 v2 x7 h H locs ls hw (lv_sub hl [2, 3, 4, 0] rfl)
      · have h := zif_f h c6
        refine lv_iload hx hb dX2_evenestCase_40 (lv_at hl 0 rfl) ?_
        refine lv_istore_n (lv' := [(2, .int x5), (4, .int x5), (0, .ref (za G t0)), (1, .int v1), (3, .int v3)]) hx hb dX2_evenestCase_42 rfl hl (by decide) rfl (fun ls hl => ?_)
        refine lv_iload_n hx hb dX2_evenestCase_43 rfl (lv_at hl 4 rfl) ?_
        refine lv_istore_n (lv' := [(1, .int v3), (2, .int x5), (4, .int x5), (0, .ref (za G t0)), (3, .int v3)]) hx hb dX2_evenestCase_44 rfl hl (by decide) rfl (fun ls hl => ?_)
        obtain ⟨x8, ex8, h⟩ := zlet_ex h
        refine lv_iinc (v := x8) (lv' := [(3, .int x8), (1, .int v3), (2, .int x5), (4, .int x5), (0, .ref (za G t0))]) hx hb dX2_evenestCase_45 hl (k := 4) rfl (by rw [ex8]; rfl) (by decide) rfl (fun ls hl => ?_)
        refine lv_goto (tgt := 11) hx hb dX2_evenestCase_48 (by decide) ?_
        exact ih v3 x5 x8 h H locs ls hw (lv_sub hl [4, 1, 2, 0] rfl)
set_option maxHeartbeats 4000000 in
set_option maxRecDepth 100000 in
theorem c_X2_evenestCase (l : Launch) {G : ZG} (hG : zOk G) (t0 : Nat) (k0 : zk G t0 = 12) (M : ZM) (res : Int32) (h : f_X2_evenestCase t0 M = some res) : zCt l yX2_evenestCase cX2_evenestCase 5 (Option.some FieldType.int) 3 G [.ref (za G t0)] M (some (.int res)) M := by
  refine zCt.mk (by decide +kernel) (Nat.le_of_ble_eq_true rfl) ?_
  intro p e s m args below meth c A H locs ls S hr hlk hw hl
  have S : zX p (zR 3) s m args c 0 0 cX2_evenestCase 5 RX2 := S
  have hx := S.1.1
  have hb := S.1.2.1
  have hown := S.1.2.2.2.1
  have hts := S.1.2.2.2.2
  have hl : lv_has ls 5 [(0, .ref (za G t0))] := hl
  unfold f_X2_evenestCase at h
  refine lv_iconst (v := 0) hx hb dX2_evenestCase_0 (by decide) ?_
  refine lv_istore_n (lv' := [(1, .int 0), (0, .ref (za G t0))]) hx hb dX2_evenestCase_1 rfl hl (by decide) rfl (fun ls hl => ?_)
  refine lv_aload_n hx hb dX2_evenestCase_2 rfl (lv_at hl 1 rfl) ?_
  refine z_getI S hw k0 fl_X2_33 rfl dX2_evenestCase_3 ?_
  refine lv_iconst (v := 1) hx hb dX2_evenestCase_6 (by decide) ?_
  refine lv_iadd hx hb dX2_evenestCase_7 ?_
  obtain ⟨x1, ex1, h⟩ := zlet_ex h
  refine lv_topiE ex1 ?_
  refine lv_istore_n (lv' := [(2, .int x1), (1, .int 0), (0, .ref (za G t0))]) hx hb dX2_evenestCase_8 rfl hl (by decide) rfl (fun ls hl => ?_)
  refine lv_iconst (v := 0) hx hb dX2_evenestCase_9 (by decide) ?_
  refine lv_istore_n (lv' := [(3, .int 0), (2, .int x1), (1, .int 0), (0, .ref (za G t0))]) hx hb dX2_evenestCase_10 rfl hl (by decide) rfl (fun ls hl => ?_)
  refine w_X2_evenestCase_11 hG S hr hlk t0 k0 M (fun v1 h H locs ls hw hl => ?_) zN 0 x1 0 h H locs ls hw (lv_sub hl [3, 2, 1, 0] rfl)
  refine lv_iload_n hx hb dX2_evenestCase_51 rfl (lv_at hl 0 rfl) ?_
  have h := Option.some.inj h
  subst h
  exact z_ret_i S hr hlk hw dX2_evenestCase_52
def f_X11_test (t0 : Nat) (M : ZM) : Option (Int32 × ZM) :=
  (f_X11_spent t0 M).bind fun (q1 : (Int32 × ZM)) =>
  if q1.1 = 0 then (
    (f_X2_evenestCase (zr t0 5) q1.2).bind fun (q3 : Int32) =>
    some (q3, q1.2)) else (
    zlet (f_X11_refuse t0 (-5) q1.2) fun (q4 : (Int32 × ZM)) =>
    some (q4.1, q4.2))
set_option maxHeartbeats 4000000 in
set_option maxRecDepth 100000 in
theorem c_X11_test (l : Launch) {G : ZG} (hG : zOk G) (t0 : Nat) (k0 : zk G t0 = 21) (M : ZM) (res : (Int32 × ZM)) (h : f_X11_test t0 M = some res) : zCt l yX11_test cX11_test 1 (Option.some FieldType.int) 6 G [.ref (za G t0)] M (some (.int res.1)) res.2 := by
  refine zCt.mk (by decide +kernel) (Nat.le_of_ble_eq_true rfl) ?_
  intro p e s m args below meth c A H locs ls S hr hlk hw hl
  have S : zX p (zR 6) s m args c 0 0 cX11_test 1 RX11 := S
  have hx := S.1.1
  have hb := S.1.2.1
  have hown := S.1.2.2.2.1
  have hts := S.1.2.2.2.2
  have hl : lv_has ls 1 [(0, .ref (za G t0))] := hl
  unfold f_X11_test at h
  refine lv_aload_n hx hb dX11_test_0 rfl (lv_at hl 0 rfl) ?_
  obtain ⟨q1, eq1, h⟩ := Option.bind_eq_some_iff.mp h
  refine z_callV (ci := 11) (As := []) (rest := []) (rv := (some (.int q1.1))) (M1 := q1.2) S hw (c_X11_spent l hG t0 k0 M q1 eq1) mv_X11_spent lk_X11_126 k0 ⟨_, _, rfl⟩ (by decide) rfl rfl (Nat.le_of_ble_eq_true rfl) ⟨Nat.le_of_ble_eq_true rfl, Nat.le_of_ble_eq_true rfl⟩ hl.1 dX11_test_1 (fun H locs hw => ?_)
  refine lv_if_eq (tgt := 16) hx hb dX11_test_4 (by decide) (fun c2 => ?_) (fun c2 => ?_)
  · have h := zif_t h c2
    refine lv_aload_n hx hb dX11_test_16 rfl (lv_at hl 0 rfl) ?_
    refine z_getR S hw k0 fl_X11_39 rfl dX11_test_17 ?_
    obtain ⟨q3, eq3, h⟩ := Option.bind_eq_some_iff.mp h
    refine z_callV (ci := 2) (As := []) (rest := []) (rv := (some (.int q3))) (M1 := q1.2) S hw (c_X2_evenestCase l hG (zr t0 5) (kr_11_5 hG k0) q1.2 q3 eq3) mv_X2_evenestCase lk_X11_213 (kr_11_5 hG k0) ⟨_, _, rfl⟩ (by decide) rfl rfl (Nat.le_of_ble_eq_true rfl) ⟨Nat.le_of_ble_eq_true rfl, Nat.le_of_ble_eq_true rfl⟩ hl.1 dX11_test_20 (fun H locs hw => ?_)
    have h := Option.some.inj h
    subst h
    exact z_ret_i S hr hlk hw dX11_test_23
  · have h := zif_f h c2
    refine lv_aload_n hx hb dX11_test_7 rfl (lv_at hl 0 rfl) ?_
    refine lv_bipush (v := (-5)) hx hb dX11_test_8 (by decide) ?_
    obtain ⟨q4, eq4, h⟩ := zlet_ex h
    refine z_callV (ci := 11) (As := [.int (-5)]) (rest := []) (rv := (some (.int q4.1))) (M1 := q4.2) S hw (c_X11_refuse l hG t0 (-5) k0 q1.2 q4 eq4.symm) mv_X11_refuse lk_X11_100 k0 ⟨_, _, rfl⟩ (by decide) rfl rfl (Nat.le_of_ble_eq_true rfl) ⟨Nat.le_of_ble_eq_true rfl, Nat.le_of_ble_eq_true rfl⟩ hl.1 dX11_test_10 (fun H locs hw => ?_)
    refine lv_goto (tgt := 23) hx hb dX11_test_13 (by decide) ?_
    have h := Option.some.inj h
    subst h
    exact z_ret_i S hr hlk hw dX11_test_23
end Z
