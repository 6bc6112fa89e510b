section Z
variable {p : Program} {l : Launch} {e : Env} {s : State} {m : MethodId} {args : Array Value} {below : List Frame} {meth : Method} {c : Code} {A : Nat → Prop}
def f_X8_has_2 (t0 : Nat) (v1 : Int64) (M : ZM) (K : Option Int32) : Nat → Int32 → Option Int32
  | 0, _ => none
  | n + 1, v3 =>
    if (M.1 t0 1) ≤ v3 then (
      K) else (
      zlet (f_X11_look_ (zr t0 0) v3 M) fun (q2 : Int64) =>
      if (lg_cmp q2 v1) = 0 then (
        some (1 : Int32)) else (
        zlet (v3 + 1) fun (x4 : Int32) =>
        f_X8_has_2 t0 v1 M K n x4))

def f_X8_has (t0 : Nat) (v1 : Int64) (M : ZM) : Option Int32 :=
  f_X8_has_2 t0 v1 M (
    some (0 : Int32)) zN 0
set_option maxHeartbeats 4000000 in
set_option maxRecDepth 100000 in
theorem w_X8_has_2 {G : ZG} (hG : zOk G) (S : zX p (zR 1) s m args c 0 0 cX8_has 4 RX8) (hr : meth.sig.returnType = (Option.some FieldType.boolean)) (hlk : meth.locks = false) (t0 : Nat) (v1 : Int64) (k0 : zk G t0 = 18) (M : ZM)  {K : Option Int32} {res : Int32} (hK : K = some res → ∀ (H : Heap) (locs : List Loc) (ls : Array Slot), zWd G A s H locs M → lv_has ls 4 [] → W p l e (zR 1) s m args below meth c H locs 0 0 (zQ below G A (some (.int res)) M args s) (F0 m 31 ls [])) : ∀ (n : Nat) (v3 : Int32), f_X8_has_2 t0 v1 M K n v3 = some res → ∀ (H : Heap) (locs : List Loc) (ls : Array Slot), zWd G A s H locs M → lv_has ls 4 [(0, .ref (za G t0)), (1, .long v1), (3, .int v3)] → W p l e (zR 1) s m args below meth c H locs 0 0 (zQ below G A (some (.int res)) M args s) (F0 m 2 ls []) := by
  have hx := S.1.1
  have hb := S.1.2.1
  have hown := S.1.2.2.2.1
  have hts := S.1.2.2.2.2
  intro n
  induction n with
  | zero =>
    intro v3 h
    rw [f_X8_has_2] at h
    cases h
  | succ n ih =>
    intro v3 h H locs ls hw hl
    rw [f_X8_has_2] at h
    refine lv_iload_n hx hb dX8_has_2 rfl (lv_at hl 2 rfl) ?_
    refine lv_aload_n hx hb dX8_has_3 rfl (lv_at hl 0 rfl) ?_
    refine z_getI S hw k0 fl_X8_15 rfl dX8_has_4 ?_
    refine lv_icmp_ge (tgt := 31) hx hb dX8_has_7 (by decide) (fun c1 => ?_) (fun c1 => ?_)
    · have h := zif_t h c1
      exact hK  h H locs ls hw (lv_sub hl [] rfl)
    · have h := zif_f h c1
      refine lv_aload_n hx hb dX8_has_10 rfl (lv_at hl 0 rfl) ?_
      refine z_getR S hw k0 fl_X8_9 rfl dX8_has_11 ?_
      refine lv_iload_n hx hb dX8_has_14 rfl (lv_at hl 2 rfl) ?_
      obtain ⟨q2, eq2, h⟩ := zlet_ex h
      refine z_callS (As := [.ref (za G (zr t0 0)), .int v3]) (rest := []) (rv := (some (.long q2))) (M1 := M) S hw (c_X11_look_ l hG (zr t0 0) v3 (kr_8_0 hG k0) M q2 eq2.symm) mv_X11_look_ lk_X8_36 rfl rfl (Nat.le_of_ble_eq_true rfl) ⟨Nat.le_of_ble_eq_true rfl, Nat.le_of_ble_eq_true rfl⟩ hl.1 dX8_has_15 (fun H locs hw => ?_)
      refine lv_lload_n hx hb dX8_has_18 rfl (lv_at hl 1 rfl) ?_
      refine W.lcmp hx hb dX8_has_19 ?_
      refine lv_if_ne (tgt := 25) hx hb dX8_has_20 (by decide) (fun c3 => ?_) (fun c3 => ?_)
      · have h := zif_f h c3
        obtain ⟨x4, ex4, h⟩ := zlet_ex h
        refine lv_iinc (v := x4) (lv' := [(3, .int x4), (0, .ref (za G t0)), (1, .long v1)]) hx hb dX8_has_25 hl (k := 2) rfl (by rw [ex4]; rfl) (by decide) rfl (fun ls hl => ?_)
        refine lv_goto (tgt := 2) hx hb dX8_has_28 (by decide) ?_
        exact ih x4 h H locs ls hw (lv_sub hl [1, 2, 0] rfl)
      · have h := zif_t h c3
        refine lv_iconst (v := 1) hx hb dX8_has_23 (by decide) ?_
        have h := Option.some.inj h
        subst h
        exact z_ret_z S hr hlk (Or.inr rfl) hw dX8_has_24
set_option maxHeartbeats 4000000 in
set_option maxRecDepth 100000 in
theorem c_X8_has (l : Launch) {G : ZG} (hG : zOk G) (t0 : Nat) (v1 : Int64) (k0 : zk G t0 = 18) (M : ZM) (res : Int32) (h : f_X8_has t0 v1 M = some res) : zCt l yX8_has cX8_has 4 (Option.some FieldType.boolean) 1 G [.ref (za G t0), .long v1] M (some (.int res)) M := by
  refine zCt.mk (by decide +kernel) (Nat.le_of_ble_eq_true rfl) ?_
  intro p e s m args below meth c A H locs ls S hr hlk hw hl
  have S : zX p (zR 1) s m args c 0 0 cX8_has 4 RX8 := S
  have hx := S.1.1
  have hb := S.1.2.1
  have hown := S.1.2.2.2.1
  have hts := S.1.2.2.2.2
  have hl : lv_has ls 4 [(0, .ref (za G t0)), (1, .long v1)] := hl
  unfold f_X8_has at h
  refine lv_iconst (v := 0) hx hb dX8_has_0 (by decide) ?_
  refine lv_istore_n (lv' := [(3, .int 0), (0, .ref (za G t0)), (1, .long v1)]) hx hb dX8_has_1 rfl hl (by decide) rfl (fun ls hl => ?_)
  refine w_X8_has_2 hG S hr hlk t0 v1 k0 M (fun h H locs ls hw hl => ?_) zN 0 h H locs ls hw (lv_sub hl [1, 2, 0] rfl)
  refine lv_iconst (v := 0) hx hb dX8_has_31 (by decide) ?_
  have h := Option.some.inj h
  subst h
  exact z_ret_z S hr hlk (Or.inl rfl) hw dX8_has_32
def f_X8_gather_7 (t0 : Nat) (t1 : Nat) (K : ZM → Option ZM) : Nat → Int32 → ZM → Option ZM
  | 0, _, _ => none
  | n + 1, v2, M =>
    zlet (f_X2_size t1 M) fun (q2 : Int32) =>
    if q2 ≤ v2 then (
      K M) else (
      zlet (f_X2_meaning t1 v2 M) fun (q4 : Int64) =>
      (f_X8_has t0 q4 M).bind fun (q5 : Int32) =>
      if q5 = 0 then (
        zlet (f_X2_meaning t1 v2 M) fun (q8 : Int64) =>
        zlet (f_X11_put_ (zr t0 0) (M.1 t0 1) q8 M) fun (q9 : ZM) =>
        zlet (zi q9 t0 1 ((q9.1 t0 1) + 1)) fun (M10 : ZM) =>
        zlet (v2 + 1) fun (x11 : Int32) =>
        f_X8_gather_7 t0 t1 K n x11 M10) else (
        zlet (v2 + 1) fun (x7 : Int32) =>
        f_X8_gather_7 t0 t1 K n x7 M))

def f_X8_gather (t0 : Nat) (t1 : Nat) (M : ZM) : Option ZM :=
  zlet (zi M t0 1 0) fun (M1 : ZM) =>
  f_X8_gather_7 t0 t1 (fun (M : ZM) =>
    some M) zN 0 M1
set_option maxHeartbeats 4000000 in
set_option maxRecDepth 100000 in
theorem w_X8_gather_7 {G : ZG} (hG : zOk G) (S : zX p (zR 2) s m args c 0 0 cX8_gather 3 RX8) (hr : meth.sig.returnType = none) (hlk : meth.locks = false) (t0 : Nat) (t1 : Nat) (k0 : zk G t0 = 18) (k1 : zk G t1 = 12)  {K : ZM → Option ZM} {res : ZM} (hK : ∀  (M : ZM), K M = some res → ∀ (H : Heap) (locs : List Loc) (ls : Array Slot), zWd G A s H locs M → lv_has ls 3 [] → W p l e (zR 2) s m args below meth c H locs 0 0 (zQ below G A none res args s) (F0 m 59 ls [])) : ∀ (n : Nat) (v2 : Int32) (M : ZM), f_X8_gather_7 t0 t1 K n v2 M = some res → ∀ (H : Heap) (locs : List Loc) (ls : Array Slot), zWd G A s H locs M → lv_has ls 3 [(0, .ref (za G t0)), (1, .ref (za G t1)), (2, .int v2)] → W p l e (zR 2) s m args below meth c H locs 0 0 (zQ below G A none res args s) (F0 m 7 ls []) := by
  have hx := S.1.1
  have hb := S.1.2.1
  have hown := S.1.2.2.2.1
  have hts := S.1.2.2.2.2
  intro n
  induction n with
  | zero =>
    intro v2 M h
    rw [f_X8_gather_7] at h
    cases h
  | succ n ih =>
    intro v2 M h H locs ls hw hl
    rw [f_X8_gather_7] at h
    refine lv_iload_n hx hb dX8_gather_7 rfl (lv_at hl 2 rfl) ?_
    refine lv_aload_n hx hb dX8_gather_8 rfl (lv_at hl 1 rfl) ?_
    obtain ⟨q2, eq2, h⟩ := zlet_ex h
    refine z_callV (ci := 2) (As := []) (rest := [.int v2]) (rv := (some (.int q2))) (M1 := M) S hw (c_X2_size l hG t1 k1 M q2 eq2.symm) mv_X2_size lk_X8_19 k1 ⟨_, _, rfl⟩ (by decide) rfl rfl (Nat.le_of_ble_eq_true rfl) ⟨Nat.le_of_ble_eq_true rfl, Nat.le_of_ble_eq_true rfl⟩ hl.1 dX8_gather_9 (fun H locs hw => ?_)
    refine lv_icmp_ge (tgt := 59) hx hb dX8_gather_12 (by decide) (fun c3 => ?_) (fun c3 => ?_)
    · have h := zif_t h c3
      exact hK M h H locs ls hw (lv_sub hl [] rfl)
    · have h := zif_f h c3
      refine lv_aload_n hx hb dX8_gather_15 rfl (lv_at hl 0 rfl) ?_
      refine lv_aload_n hx hb dX8_gather_16 rfl (lv_at hl 1 rfl) ?_
      refine lv_iload_n hx hb dX8_gather_17 rfl (lv_at hl 2 rfl) ?_
      obtain ⟨q4, eq4, h⟩ := zlet_ex h
      refine z_callV (ci := 2) (As := [.int v2]) (rest := [.ref (za G t0)]) (rv := (some (.long q4))) (M1 := M) S hw (c_X2_meaning l hG t1 v2 k1 M q4 eq4.symm) mv_X2_meaning lk_X8_24 k1 ⟨_, _, rfl⟩ (by decide) rfl rfl (Nat.le_of_ble_eq_true rfl) ⟨Nat.le_of_ble_eq_true rfl, Nat.le_of_ble_eq_true rfl⟩ hl.1 dX8_gather_18 (fun H locs hw => ?_)
      obtain ⟨q5, eq5, h⟩ := Option.bind_eq_some_iff.mp h
      refine z_callV (ci := 8) (As := [.long q4]) (rest := []) (rv := (some (.int q5))) (M1 := M) S hw (c_X8_has l hG t0 q4 k0 M q5 eq5) mv_X8_has lk_X8_28 k0 ⟨_, _, rfl⟩ (by decide) rfl rfl (Nat.le_of_ble_eq_true rfl) ⟨Nat.le_of_ble_eq_true rfl, Nat.le_of_ble_eq_true rfl⟩ hl.1 dX8_gather_21 (fun H locs hw => ?_)
      refine lv_if_ne (tgt := 53) hx hb dX8_gather_24 (by decide) (fun c6 => ?_) (fun c6 => ?_)
      · have h := zif_f h c6
        obtain ⟨x7, ex7, h⟩ := zlet_ex h
        refine lv_iinc (v := x7) (lv' := [(2, .int x7), (0, .ref (za G t0)), (1, .ref (za G t1))]) hx hb dX8_gather_53 hl (k := 2) rfl (by rw [ex7]; rfl) (by decide) rfl (fun ls hl => ?_)
        refine lv_goto (tgt := 7) hx hb dX8_gather_56 (by decide) ?_
        exact ih x7 M h H locs ls hw (lv_sub hl [1, 2, 0] rfl)
      · have h := zif_t h c6
        refine lv_aload_n hx hb dX8_gather_27 rfl (lv_at hl 0 rfl) ?_
        refine z_getR S hw k0 fl_X8_9 rfl dX8_gather_28 ?_
        refine lv_aload_n hx hb dX8_gather_31 rfl (lv_at hl 0 rfl) ?_
        refine z_getI S hw k0 fl_X8_15 rfl dX8_gather_32 ?_
        refine lv_aload_n hx hb dX8_gather_35 rfl (lv_at hl 1 rfl) ?_
        refine lv_iload_n hx hb dX8_gather_36 rfl (lv_at hl 2 rfl) ?_
        obtain ⟨q8, eq8, h⟩ := zlet_ex h
        refine z_callV (ci := 2) (As := [.int v2]) (rest := [.int (M.1 t0 1), .ref (za G (zr t0 0))]) (rv := (some (.long q8))) (M1 := M) S hw (c_X2_meaning l hG t1 v2 k1 M q8 eq8.symm) mv_X2_meaning lk_X8_24 k1 ⟨_, _, rfl⟩ (by decide) rfl rfl (Nat.le_of_ble_eq_true rfl) ⟨Nat.le_of_ble_eq_true rfl, Nat.le_of_ble_eq_true rfl⟩ hl.1 dX8_gather_37 (fun H locs hw => ?_)
        obtain ⟨q9, eq9, h⟩ := zlet_ex h
        refine z_callS (As := [.ref (za G (zr t0 0)), .int (M.1 t0 1), .long q8]) (rest := []) (rv := none) (M1 := q9) S hw (c_X11_put_ l hG (zr t0 0) (M.1 t0 1) q8 (kr_8_0 hG k0) M q9 eq9.symm) mv_X11_put_ lk_X8_32 rfl rfl (Nat.le_of_ble_eq_true rfl) ⟨Nat.le_of_ble_eq_true rfl, Nat.le_of_ble_eq_true rfl⟩ hl.1 dX8_gather_40 (fun H locs hw => ?_)
        refine lv_aload_n hx hb dX8_gather_43 rfl (lv_at hl 0 rfl) ?_
        refine lv_dup hx hb dX8_gather_44 rfl ?_
        refine z_getI S hw k0 fl_X8_15 rfl dX8_gather_45 ?_
        refine lv_iconst (v := 1) hx hb dX8_gather_48 (by decide) ?_
        refine lv_iadd hx hb dX8_gather_49 ?_
        obtain ⟨M10, eM10, h⟩ := zlet_ex h
        refine z_putI S hw eM10 k0 fl_X8_15 rfl (fun h => absurd h (by decide)) dX8_gather_50 (fun H locs hw => ?_)
        obtain ⟨x11, ex11, h⟩ := zlet_ex h
        refine lv_iinc (v := x11) (lv' := [(2, .int x11), (0, .ref (za G t0)), (1, .ref (za G t1))]) hx hb dX8_gather_53 hl (k := 2) rfl (by rw [ex11]; rfl) (by decide) rfl (fun ls hl => ?_)
        refine lv_goto (tgt := 7) hx hb dX8_gather_56 (by decide) ?_
        exact ih x11 M10 h H locs ls hw (lv_sub hl [1, 2, 0] rfl)
set_option maxHeartbeats 4000000 in
set_option maxRecDepth 100000 in
theorem c_X8_gather (l : Launch) {G : ZG} (hG : zOk G) (t0 : Nat) (t1 : Nat) (k0 : zk G t0 = 18) (k1 : zk G t1 = 12) (M : ZM) (res : ZM) (h : f_X8_gather t0 t1 M = some res) : zCt l yX8_gather cX8_gather 3 none 2 G [.ref (za G t0), .ref (za G t1)] M none res := by
  refine zCt.mk (by decide +kernel) (Nat.le_of_ble_eq_true rfl) ?_
  intro p e s m args below meth c A H locs ls S hr hlk hw hl
  have S : zX p (zR 2) s m args c 0 0 cX8_gather 3 RX8 := S
  have hx := S.1.1
  have hb := S.1.2.1
  have hown := S.1.2.2.2.1
  have hts := S.1.2.2.2.2
  have hl : lv_has ls 3 [(0, .ref (za G t0)), (1, .ref (za G t1))] := hl
  unfold f_X8_gather at h
  refine lv_aload_n hx hb dX8_gather_0 rfl (lv_at hl 0 rfl) ?_
  refine lv_iconst (v := 0) hx hb dX8_gather_1 (by decide) ?_
  obtain ⟨M1, eM1, h⟩ := zlet_ex h
  refine z_putI S hw eM1 k0 fl_X8_15 rfl (fun h => absurd h (by decide)) dX8_gather_2 (fun H locs hw => ?_)
  refine lv_iconst (v := 0) hx hb dX8_gather_5 (by decide) ?_
  refine lv_istore_n (lv' := [(2, .int 0), (0, .ref (za G t0)), (1, .ref (za G t1))]) hx hb dX8_gather_6 rfl hl (by decide) rfl (fun ls hl => ?_)
  refine w_X8_gather_7 hG S hr hlk t0 t1 k0 k1 (fun M h H locs ls hw hl => ?_) zN 0 M1 h H locs ls hw (lv_sub hl [1, 2, 0] rfl)
  have h := Option.some.inj h
  subst h
  exact z_ret_v S hr hlk hw dX8_gather_59
def f_X8_size (t0 : Nat) (M : ZM) : Int32 :=
  (M.1 t0 1)
set_option maxHeartbeats 4000000 in
set_option maxRecDepth 100000 in
theorem c_X8_size (l : Launch) {G : ZG} (hG : zOk G) (t0 : Nat) (k0 : zk G t0 = 18) (M : ZM) (res : Int32) (h : f_X8_size t0 M = res) : zCt l yX8_size cX8_size 1 (Option.some FieldType.int) 0 G [.ref (za G t0)] M (some (.int res)) M := by
  refine zCt.mk (by decide +kernel) (Nat.le_of_ble_eq_true rfl) ?_
  intro p e s m args below meth c A H locs ls S hr hlk hw hl
  have S : zX p (zR 0) s m args c 0 0 cX8_size 1 RX8 := S
  have hx := S.1.1
  have hb := S.1.2.1
  have hown := S.1.2.2.2.1
  have hts := S.1.2.2.2.2
  have hl : lv_has ls 1 [(0, .ref (za G t0))] := hl
  unfold f_X8_size at h
  refine lv_aload_n hx hb dX8_size_0 rfl (lv_at hl 0 rfl) ?_
  refine z_getI S hw k0 fl_X8_15 rfl dX8_size_1 ?_
  subst h
  exact z_ret_i S hr hlk hw dX8_size_4
def f_X11_unlike (t0 : Nat) (M : ZM) : Option (Int32 × ZM) :=
  (f_X11_spent t0 M).bind fun (q1 : (Int32 × ZM)) =>
  if q1.1 = 0 then (
    (f_X8_gather (zr t0 6) (zr t0 5) q1.2).bind fun (q3 : ZM) =>
    zlet (f_X8_size (zr t0 6) q3) fun (q4 : Int32) =>
    some (q4, q3)) else (
    zlet (f_X11_refuse t0 (-5) q1.2) fun (q5 : (Int32 × ZM)) =>
    some (q5.1, q5.2))
set_option maxHeartbeats 4000000 in
set_option maxRecDepth 100000 in
theorem c_X11_unlike (l : Launch) {G : ZG} (hG : zOk G) (t0 : Nat) (k0 : zk G t0 = 21) (M : ZM) (res : (Int32 × ZM)) (h : f_X11_unlike t0 M = some res) : zCt l yX11_unlike cX11_unlike 1 (Option.some FieldType.int) 6 G [.ref (za G t0)] M (some (.int res.1)) res.2 := by
  refine zCt.mk (by decide +kernel) (Nat.le_of_ble_eq_true rfl) ?_
  intro p e s m args below meth c A H locs ls S hr hlk hw hl
  have S : zX p (zR 6) s m args c 0 0 cX11_unlike 1 RX11 := S
  have hx := S.1.1
  have hb := S.1.2.1
  have hown := S.1.2.2.2.1
  have hts := S.1.2.2.2.2
  have hl : lv_has ls 1 [(0, .ref (za G t0))] := hl
  unfold f_X11_unlike at h
  refine lv_aload_n hx hb dX11_unlike_0 rfl (lv_at hl 0 rfl) ?_
  obtain ⟨q1, eq1, h⟩ := Option.bind_eq_some_iff.mp h
  refine z_callV (ci := 11) (As := []) (rest := []) (rv := (some (.int q1.1))) (M1 := q1.2) S hw (c_X11_spent l hG t0 k0 M q1 eq1) mv_X11_spent lk_X11_126 k0 ⟨_, _, rfl⟩ (by decide) rfl rfl (Nat.le_of_ble_eq_true rfl) ⟨Nat.le_of_ble_eq_true rfl, Nat.le_of_ble_eq_true rfl⟩ hl.1 dX11_unlike_1 (fun H locs hw => ?_)
  refine lv_if_eq (tgt := 14) hx hb dX11_unlike_4 (by decide) (fun c2 => ?_) (fun c2 => ?_)
  · have h := zif_t h c2
    refine lv_aload_n hx hb dX11_unlike_14 rfl (lv_at hl 0 rfl) ?_
    refine z_getR S hw k0 fl_X11_46 rfl dX11_unlike_15 ?_
    refine lv_aload_n hx hb dX11_unlike_18 rfl (lv_at hl 0 rfl) ?_
    refine z_getR S hw k0 fl_X11_39 rfl dX11_unlike_19 ?_
    obtain ⟨q3, eq3, h⟩ := Option.bind_eq_some_iff.mp h
    refine z_callV (ci := 8) (As := [.ref (za G (zr t0 5))]) (rest := []) (rv := none) (M1 := q3) S hw (c_X8_gather l hG (zr t0 6) (zr t0 5) (kr_11_6 hG k0) (kr_11_5 hG k0) q1.2 q3 eq3) mv_X8_gather lk_X11_169 (kr_11_6 hG k0) ⟨_, _, rfl⟩ (by decide) rfl rfl (Nat.le_of_ble_eq_true rfl) ⟨Nat.le_of_ble_eq_true rfl, Nat.le_of_ble_eq_true rfl⟩ hl.1 dX11_unlike_22 (fun H locs hw => ?_)
    refine lv_aload_n hx hb dX11_unlike_25 rfl (lv_at hl 0 rfl) ?_
    refine z_getR S hw k0 fl_X11_46 rfl dX11_unlike_26 ?_
    obtain ⟨q4, eq4, h⟩ := zlet_ex h
    refine z_callV (ci := 8) (As := []) (rest := []) (rv := (some (.int q4))) (M1 := q3) S hw (c_X8_size l hG (zr t0 6) (kr_11_6 hG k0) q3 q4 eq4.symm) mv_X8_size lk_X11_173 (kr_11_6 hG k0) ⟨_, _, rfl⟩ (by decide) rfl rfl (Nat.le_of_ble_eq_true rfl) ⟨Nat.le_of_ble_eq_true rfl, Nat.le_of_ble_eq_true rfl⟩ hl.1 dX11_unlike_29 (fun H locs hw => ?_)
    have h := Option.some.inj h
    subst h
    exact z_ret_i S hr hlk hw dX11_unlike_32
  · have h := zif_f h c2
    refine lv_aload_n hx hb dX11_unlike_7 rfl (lv_at hl 0 rfl) ?_
    refine lv_bipush (v := (-5)) hx hb dX11_unlike_8 (by decide) ?_
    obtain ⟨q5, eq5, h⟩ := zlet_ex h
    refine z_callV (ci := 11) (As := [.int (-5)]) (rest := []) (rv := (some (.int q5.1))) (M1 := q5.2) S hw (c_X11_refuse l hG t0 (-5) k0 q1.2 q5 eq5.symm) mv_X11_refuse lk_X11_100 k0 ⟨_, _, rfl⟩ (by decide) rfl rfl (Nat.le_of_ble_eq_true rfl) ⟨Nat.le_of_ble_eq_true rfl, Nat.le_of_ble_eq_true rfl⟩ hl.1 dX11_unlike_10 (fun H locs hw => ?_)
    have h := Option.some.inj h
    subst h
    exact z_ret_i S hr hlk hw dX11_unlike_13
def f_X11_bit (v0 : Int64) (v2 : Int32) (M : ZM) : Int32 :=
  ((((v0).toUInt64 >>> ((v2).toInt64.toUInt64 &&& Int64.toUInt64 63)).toInt64 &&& 1).toInt32)
set_option maxHeartbeats 4000000 in
set_option maxRecDepth 100000 in
theorem c_X11_bit (l : Launch) {G : ZG} (hG : zOk G) (v0 : Int64) (v2 : Int32) (M : ZM) (res : Int32) (h : f_X11_bit v0 v2 M = res) : zCt l yX11_bit cX11_bit 3 (Option.some FieldType.int) 0 G [.long v0, .int v2] M (some (.int res)) M := by
  refine zCt.mk (by decide +kernel) (Nat.le_of_ble_eq_true rfl) ?_
  intro p e s m args below meth c A H locs ls S hr hlk hw hl
  have S : zX p (zR 0) s m args c 0 0 cX11_bit 3 RX11 := S
  have hx := S.1.1
  have hb := S.1.2.1
  have hown := S.1.2.2.2.1
  have hts := S.1.2.2.2.2
  have hl : lv_has ls 3 [(0, .long v0), (2, .int v2)] := hl
  unfold f_X11_bit at h
  refine lv_lload_n hx hb dX11_bit_0 rfl (lv_at hl 0 rfl) ?_
  refine lv_iload_n hx hb dX11_bit_1 rfl (lv_at hl 1 rfl) ?_
  refine lv_lushr (v := ((v0).toUInt64 >>> ((v2).toInt64.toUInt64 &&& Int64.toUInt64 63)).toInt64) hx hb dX11_bit_2 rfl ?_
  refine lv_lconst (v := 1) hx hb dX11_bit_3 (by decide) ?_
  refine lv_land hx hb dX11_bit_4 ?_
  refine lv_l2i (v := ((((v0).toUInt64 >>> ((v2).toInt64.toUInt64 &&& Int64.toUInt64 63)).toInt64 &&& 1).toInt32)) hx hb dX11_bit_5 rfl ?_
  subst h
  exact z_ret_i S hr hlk hw dX11_bit_6
def f_X11_leastCase_2 (v0 : Int64) (M : ZM) (K : Option Int32) : Nat → Int32 → Option Int32
  | 0, _ => none
  | n + 1, v2 =>
    if 32 ≤ v2 then (
      K) else (
      zlet (f_X11_bit v0 v2 M) fun (q2 : Int32) =>
      if q2 = 1 then (
        some v2) else (
        zlet (v2 + 1) fun (x4 : Int32) =>
        f_X11_leastCase_2 v0 M K n x4))

def f_X11_leastCase (v0 : Int64) (M : ZM) : Option Int32 :=
  f_X11_leastCase_2 v0 M (
    some ((-9) : Int32)) zN 0
set_option maxHeartbeats 4000000 in
set_option maxRecDepth 100000 in
theorem w_X11_leastCase_2 {G : ZG} (hG : zOk G) (S : zX p (zR 1) s m args c 0 0 cX11_leastCase 3 RX11) (hr : meth.sig.returnType = (Option.some FieldType.int)) (hlk : meth.locks = false) (v0 : Int64) (M : ZM)  {K : Option Int32} {res : Int32} (hK : K = some res → ∀ (H : Heap) (locs : List Loc) (ls : Array Slot), zWd G A s H locs M → lv_has ls 3 [] → W p l e (zR 1) s m args below meth c H locs 0 0 (zQ below G A (some (.int res)) M args s) (F0 m 25 ls [])) : ∀ (n : Nat) (v2 : Int32), f_X11_leastCase_2 v0 M K n v2 = some res → ∀ (H : Heap) (locs : List Loc) (ls : Array Slot), zWd G A s H locs M → lv_has ls 3 [(0, .long v0), (2, .int v2)] → W p l e (zR 1) s m args below meth c H locs 0 0 (zQ below G A (some (.int res)) M args s) (F0 m 2 ls []) := by
  have hx := S.1.1
  have hb := S.1.2.1
  have hown := S.1.2.2.2.1
  have hts := S.1.2.2.2.2
  intro n
  induction n with
  | zero =>
    intro v2 h
    rw [f_X11_leastCase_2] at h
    cases h
  | succ n ih =>
    intro v2 h H locs ls hw hl
    rw [f_X11_leastCase_2] at h
    refine lv_iload_n hx hb dX11_leastCase_2 rfl (lv_at hl 1 rfl) ?_
    refine lv_bipush (v := 32) hx hb dX11_leastCase_3 (by decide) ?_
    refine lv_icmp_ge (tgt := 25) hx hb dX11_leastCase_5 (by decide) (fun c1 => ?_) (fun c1 => ?_)
    · have h := zif_t h c1
      exact hK  h H locs ls hw (lv_sub hl [] rfl)
    · have h := zif_f h c1
      refine lv_lload_n hx hb dX11_leastCase_8 rfl (lv_at hl 0 rfl) ?_
      refine lv_iload_n hx hb dX11_leastCase_9 rfl (lv_at hl 1 rfl) ?_
      obtain ⟨q2, eq2, h⟩ := zlet_ex h
      refine z_callS (As := [.long v0, .int v2]) (rest := []) (rv := (some (.int q2))) (M1 := M) S hw (c_X11_bit l hG v0 v2 M q2 eq2.symm) mv_X11_bit lk_X11_155 rfl rfl (Nat.le_of_ble_eq_true rfl) ⟨Nat.le_of_ble_eq_true rfl, Nat.le_of_ble_eq_true rfl⟩ hl.1 dX11_leastCase_10 (fun H locs hw => ?_)
      refine lv_iconst (v := 1) hx hb dX11_leastCase_13 (by decide) ?_
      refine lv_icmp_ne (tgt := 19) hx hb dX11_leastCase_14 (by decide) (fun c3 => ?_) (fun c3 => ?_)
      · have h := zif_f h c3
        obtain ⟨x4, ex4, h⟩ := zlet_ex h
        refine lv_iinc (v := x4) (lv' := [(2, .int x4), (0, .long v0)]) hx hb dX11_leastCase_19 hl (k := 1) rfl (by rw [ex4]; rfl) (by decide) rfl (fun ls hl => ?_)
        refine lv_goto (tgt := 2) hx hb dX11_leastCase_22 (by decide) ?_
        exact ih x4 h H locs ls hw (lv_sub hl [1, 0] rfl)
      · have h := zif_t h c3
        refine lv_iload_n hx hb dX11_leastCase_17 rfl (lv_at hl 1 rfl) ?_
        have h := Option.some.inj h
        subst h
        exact z_ret_i S hr hlk hw dX11_leastCase_18
set_option maxHeartbeats 4000000 in
set_option maxRecDepth 100000 in
theorem c_X11_leastCase (l : Launch) {G : ZG} (hG : zOk G) (v0 : Int64) (M : ZM) (res : Int32) (h : f_X11_leastCase v0 M = some res) : zCt l yX11_leastCase cX11_leastCase 3 (Option.some FieldType.int) 1 G [.long v0] M (some (.int res)) M := by
  refine zCt.mk (by decide +kernel) (Nat.le_of_ble_eq_true rfl) ?_
  intro p e s m args below meth c A H locs ls S hr hlk hw hl
  have S : zX p (zR 1) s m args c 0 0 cX11_leastCase 3 RX11 := S
  have hx := S.1.1
  have hb := S.1.2.1
  have hown := S.1.2.2.2.1
  have hts := S.1.2.2.2.2
  have hl : lv_has ls 3 [(0, .long v0)] := hl
  unfold f_X11_leastCase at h
  refine lv_iconst (v := 0) hx hb dX11_leastCase_0 (by decide) ?_
  refine lv_istore_n (lv' := [(2, .int 0), (0, .long v0)]) hx hb dX11_leastCase_1 rfl hl (by decide) rfl (fun ls hl => ?_)
  refine w_X11_leastCase_2 hG S hr hlk v0 M (fun h H locs ls hw hl => ?_) zN 0 h H locs ls hw (lv_sub hl [1, 0] rfl)
  refine lv_bipush (v := (-9)) hx hb dX11_leastCase_25 (by decide) ?_
  have h := Option.some.inj h
  subst h
  exact z_ret_i S hr hlk hw dX11_leastCase_27
def f_X11_part (t0 : Nat) (v1 : Int32) (v2 : Int32) (M : ZM) : Option (Int32 × ZM) :=
  (f_X11_spent t0 M).bind fun (q1 : (Int32 × ZM)) =>
  if q1.1 = 0 then (
    zlet (f_X11_noReading t0 v1 q1.2) fun (q3 : Int32) =>
    if q3 = 0 then (
      zlet (f_X11_noReading t0 v2 q1.2) fun (q6 : Int32) =>
      if q6 = 0 then (
        zlet (f_X2_meaning (zr t0 5) v1 q1.2) fun (q8 : Int64) =>
        zlet (f_X2_meaning (zr t0 5) v2 q1.2) fun (q9 : Int64) =>
        (f_X11_leastCase (q8 ^^^ q9) q1.2).bind fun (q10 : Int32) =>
        some (q10, q1.2)) else (
        zlet (f_X11_refuse t0 (-1) q1.2) fun (q11 : (Int32 × ZM)) =>
        some (q11.1, q11.2))) else (
      zlet (f_X11_refuse t0 (-1) q1.2) fun (q5 : (Int32 × ZM)) =>
      some (q5.1, q5.2))) else (
    zlet (f_X11_refuse t0 (-5) q1.2) fun (q12 : (Int32 × ZM)) =>
    some (q12.1, q12.2))
set_option maxHeartbeats 4000000 in
set_option maxRecDepth 100000 in
theorem c_X11_part (l : Launch) {G : ZG} (hG : zOk G) (t0 : Nat) (v1 : Int32) (v2 : Int32) (k0 : zk G t0 = 21) (M : ZM) (res : (Int32 × ZM)) (h : f_X11_part t0 v1 v2 M = some res) : zCt l yX11_part cX11_part 3 (Option.some FieldType.int) 6 G [.ref (za G t0), .int v1, .int v2] M (some (.int res.1)) res.2 := by
  refine zCt.mk (by decide +kernel) (Nat.le_of_ble_eq_true rfl) ?_
  intro p e s m args below meth c A H locs ls S hr hlk hw hl
  have S : zX p (zR 6) s m args c 0 0 cX11_part 3 RX11 := S
  have hx := S.1.1
  have hb := S.1.2.1
  have hown := S.1.2.2.2.1
  have hts := S.1.2.2.2.2
  have hl : lv_has ls 3 [(0, .ref (za G t0)), (1, .int v1), (2, .int v2)] := hl
  unfold f_X11_part at h
  refine lv_aload_n hx hb dX11_part_0 rfl (lv_at hl 0 rfl) ?_
  obtain ⟨q1, eq1, h⟩ := Option.bind_eq_some_iff.mp h
  refine z_callV (ci := 11) (As := []) (rest := []) (rv := (some (.int q1.1))) (M1 := q1.2) S hw (c_X11_spent l hG t0 k0 M q1 eq1) mv_X11_spent lk_X11_126 k0 ⟨_, _, rfl⟩ (by decide) rfl rfl (Nat.le_of_ble_eq_true rfl) ⟨Nat.le_of_ble_eq_true rfl, Nat.le_of_ble_eq_true rfl⟩ hl.1 dX11_part_1 (fun H locs hw => ?_)
  refine lv_if_eq (tgt := 14) hx hb dX11_part_4 (by decide) (fun c2 => ?_) (fun c2 => ?_)
  · have h := zif_t h c2
    refine lv_aload_n hx hb dX11_part_14 rfl (lv_at hl 0 rfl) ?_
    refine lv_iload_n hx hb dX11_part_15 rfl (lv_at hl 1 rfl) ?_
    obtain ⟨q3, eq3, h⟩ := zlet_ex h
    refine z_callV (ci := 11) (As := [.int v1]) (rest := []) (rv := (some (.int q3))) (M1 := q1.2) S hw (c_X11_noReading l hG t0 v1 k0 q1.2 q3 eq3.symm) mv_X11_noReading lk_X11_130 k0 ⟨_, _, rfl⟩ (by decide) rfl rfl (Nat.le_of_ble_eq_true rfl) ⟨Nat.le_of_ble_eq_true rfl, Nat.le_of_ble_eq_true rfl⟩ hl.1 dX11_part_16 (fun H locs hw => ?_)
    refine lv_if_ne (tgt := 30) hx hb dX11_part_19 (by decide) (fun c4 => ?_) (fun c4 => ?_)
    · have h := zif_f h c4
      refine lv_aload_n hx hb dX11_part_30 rfl (lv_at hl 0 rfl) ?_
      refine lv_iconst (v := (-1)) hx hb dX11_part_31 (by decide) ?_
      obtain ⟨q5, eq5, h⟩ := zlet_ex h
      refine z_callV (ci := 11) (As := [.int (-1)]) (rest := []) (rv := (some (.int q5.1))) (M1 := q5.2) S hw (c_X11_refuse l hG t0 (-1) k0 q1.2 q5 eq5.symm) mv_X11_refuse lk_X11_100 k0 ⟨_, _, rfl⟩ (by decide) rfl rfl (Nat.le_of_ble_eq_true rfl) ⟨Nat.le_of_ble_eq_true rfl, Nat.le_of_ble_eq_true rfl⟩ hl.1 dX11_part_32 (fun H locs hw => ?_)
      have h := Option.some.inj h
      subst h
      exact z_ret_i S hr hlk hw dX11_part_35
    · have h := zif_t h c4
      refine lv_aload_n hx hb dX11_part_22 rfl (lv_at hl 0 rfl) ?_
      refine lv_iload_n hx hb dX11_part_23 rfl (lv_at hl 2 rfl) ?_
      obtain ⟨q6, eq6, h⟩ := zlet_ex h
      refine z_callV (ci := 11) (As := [.int v2]) (rest := []) (rv := (some (.int q6))) (M1 := q1.2) S hw (c_X11_noReading l hG t0 v2 k0 q1.2 q6 eq6.symm) mv_X11_noReading lk_X11_130 k0 ⟨_, _, rfl⟩ (by decide) rfl rfl (Nat.le_of_ble_eq_true rfl) ⟨Nat.le_of_ble_eq_true rfl, Nat.le_of_ble_eq_true rfl⟩ hl.1 dX11_part_24 (fun H locs hw => ?_)
      refine lv_if_eq (tgt := 36) hx hb dX11_part_27 (by decide) (fun c7 => ?_) (fun c7 => ?_)
      · have h := zif_t h c7
        refine lv_aload_n hx hb dX11_part_36 rfl (lv_at hl 0 rfl) ?_
        refine z_getR S hw k0 fl_X11_39 rfl dX11_part_37 ?_
        refine lv_iload_n hx hb dX11_part_40 rfl (lv_at hl 1 rfl) ?_
        obtain ⟨q8, eq8, h⟩ := zlet_ex h
        refine z_callV (ci := 2) (As := [.int v1]) (rest := []) (rv := (some (.long q8))) (M1 := q1.2) S hw (c_X2_meaning l hG (zr t0 5) v1 (kr_11_5 hG k0) q1.2 q8 eq8.symm) mv_X2_meaning lk_X11_148 (kr_11_5 hG k0) ⟨_, _, rfl⟩ (by decide) rfl rfl (Nat.le_of_ble_eq_true rfl) ⟨Nat.le_of_ble_eq_true rfl, Nat.le_of_ble_eq_true rfl⟩ hl.1 dX11_part_41 (fun H locs hw => ?_)
        refine lv_aload_n hx hb dX11_part_44 rfl (lv_at hl 0 rfl) ?_
        refine z_getR S hw k0 fl_X11_39 rfl dX11_part_45 ?_
        refine lv_iload_n hx hb dX11_part_48 rfl (lv_at hl 2 rfl) ?_
        obtain ⟨q9, eq9, h⟩ := zlet_ex h
        refine z_callV (ci := 2) (As := [.int v2]) (rest := [.long q8]) (rv := (some (.long q9))) (M1 := q1.2) S hw (c_X2_meaning l hG (zr t0 5) v2 (kr_11_5 hG k0) q1.2 q9 eq9.symm) mv_X2_meaning lk_X11_148 (kr_11_5 hG k0) ⟨_, _, rfl⟩ (by decide) rfl rfl (Nat.le_of_ble_eq_true rfl) ⟨Nat.le_of_ble_eq_true rfl, Nat.le_of_ble_eq_true rfl⟩ hl.1 dX11_part_49 (fun H locs hw => ?_)
        refine lv_lxor hx hb dX11_part_52 ?_
        obtain ⟨q10, eq10, h⟩ := Option.bind_eq_some_iff.mp h
        refine z_callS (As := [.long (q8 ^^^ q9)]) (rest := []) (rv := (some (.int q10))) (M1 := q1.2) S hw (c_X11_leastCase l hG (q8 ^^^ q9) q1.2 q10 eq10) mv_X11_leastCase lk_X11_174 rfl rfl (Nat.le_of_ble_eq_true rfl) ⟨Nat.le_of_ble_eq_true rfl, Nat.le_of_ble_eq_true rfl⟩ hl.1 dX11_part_53 (fun H locs hw => ?_)
        have h := Option.some.inj h
        subst h
        exact z_ret_i S hr hlk hw dX11_part_56
      · have h := zif_f h c7
        refine lv_aload_n hx hb dX11_part_30 rfl (lv_at hl 0 rfl) ?_
        refine lv_iconst (v := (-1)) hx hb dX11_part_31 (by decide) ?_
        obtain ⟨q11, eq11, h⟩ := zlet_ex h
        refine z_callV (ci := 11) (As := [.int (-1)]) (rest := []) (rv := (some (.int q11.1))) (M1 := q11.2) S hw (c_X11_refuse l hG t0 (-1) k0 q1.2 q11 eq11.symm) mv_X11_refuse lk_X11_100 k0 ⟨_, _, rfl⟩ (by decide) rfl rfl (Nat.le_of_ble_eq_true rfl) ⟨Nat.le_of_ble_eq_true rfl, Nat.le_of_ble_eq_true rfl⟩ hl.1 dX11_part_32 (fun H locs hw => ?_)
        have h := Option.some.inj h
        subst h
        exact z_ret_i S hr hlk hw dX11_part_35
  · have h := zif_f h c2
    refine lv_aload_n hx hb dX11_part_7 rfl (lv_at hl 0 rfl) ?_
    refine lv_bipush (v := (-5)) hx hb dX11_part_8 (by decide) ?_
    obtain ⟨q12, eq12, h⟩ := zlet_ex h
    refine z_callV (ci := 11) (As := [.int (-5)]) (rest := []) (rv := (some (.int q12.1))) (M1 := q12.2) S hw (c_X11_refuse l hG t0 (-5) k0 q1.2 q12 eq12.symm) mv_X11_refuse lk_X11_100 k0 ⟨_, _, rfl⟩ (by decide) rfl rfl (Nat.le_of_ble_eq_true rfl) ⟨Nat.le_of_ble_eq_true rfl, Nat.le_of_ble_eq_true rfl⟩ hl.1 dX11_part_10 (fun H locs hw => ?_)
    have h := Option.some.inj h
    subst h
    exact z_ret_i S hr hlk hw dX11_part_13
def f_X2_idlePlaces (t0 : Nat) (v1 : Int32) (M : ZM) : Int32 :=
  zlet (f_X11_look (zr t0 2) v1 M) fun (q1 : Int32) =>
  q1
set_option maxHeartbeats 4000000 in
set_option maxRecDepth 100000 in
theorem c_X2_idlePlaces (l : Launch) {G : ZG} (hG : zOk G) (t0 : Nat) (v1 : Int32) (k0 : zk G t0 = 12) (M : ZM) (res : Int32) (h : f_X2_idlePlaces t0 v1 M = res) : zCt l yX2_idlePlaces cX2_idlePlaces 2 (Option.some FieldType.int) 1 G [.ref (za G t0), .int v1] M (some (.int res)) M := by
  refine zCt.mk (by decide +kernel) (Nat.le_of_ble_eq_true rfl) ?_
  intro p e s m args below meth c A H locs ls S hr hlk hw hl
  have S : zX p (zR 1) s m args c 0 0 cX2_idlePlaces 2 RX2 := S
  have hx := S.1.1
  have hb := S.1.2.1
  have hown := S.1.2.2.2.1
  have hts := S.1.2.2.2.2
  have hl : lv_has ls 2 [(0, .ref (za G t0)), (1, .int v1)] := hl
  unfold f_X2_idlePlaces at h
  refine lv_aload_n hx hb dX2_idlePlaces_0 rfl (lv_at hl 0 rfl) ?_
  refine z_getR S hw k0 fl_X2_22 rfl dX2_idlePlaces_1 ?_
  refine lv_iload_n hx hb dX2_idlePlaces_4 rfl (lv_at hl 1 rfl) ?_
  obtain ⟨q1, eq1, h⟩ := zlet_ex h
  refine z_callS (As := [.ref (za G (zr t0 2)), .int v1]) (rest := []) (rv := (some (.int q1))) (M1 := M) S hw (c_X11_look l hG (zr t0 2) v1 (kr_2_2 hG k0) M q1 eq1.symm) mv_X11_look lk_X2_69 rfl rfl (Nat.le_of_ble_eq_true rfl) ⟨Nat.le_of_ble_eq_true rfl, Nat.le_of_ble_eq_true rfl⟩ hl.1 dX2_idlePlaces_5 (fun H locs hw => ?_)
  subst h
  exact z_ret_i S hr hlk hw dX2_idlePlaces_8
def f_X11_idle (t0 : Nat) (v1 : Int32) (M : ZM) : Option (Int32 × ZM) :=
  (f_X11_spent t0 M).bind fun (q1 : (Int32 × ZM)) =>
  if q1.1 = 0 then (
    zlet (f_X11_noReading t0 v1 q1.2) fun (q3 : Int32) =>
    if q3 = 0 then (
      zlet (f_X2_idlePlaces (zr t0 5) v1 q1.2) fun (q5 : Int32) =>
      some (q5, q1.2)) else (
      zlet (f_X11_refuse t0 (-1) q1.2) fun (q6 : (Int32 × ZM)) =>
      some (q6.1, q6.2))) else (
    zlet (f_X11_refuse t0 (-5) q1.2) fun (q7 : (Int32 × ZM)) =>
    some (q7.1, q7.2))
set_option maxHeartbeats 4000000 in
set_option maxRecDepth 100000 in
theorem c_X11_idle (l : Launch) {G : ZG} (hG : zOk G) (t0 : Nat) (v1 : Int32) (k0 : zk G t0 = 21) (M : ZM) (res : (Int32 × ZM)) (h : f_X11_idle t0 v1 M = some res) : zCt l yX11_idle cX11_idle 2 (Option.some FieldType.int) 6 G [.ref (za G t0), .int v1] M (some (.int res.1)) res.2 := by
  refine zCt.mk (by decide +kernel) (Nat.le_of_ble_eq_true rfl) ?_
  intro p e s m args below meth c A H locs ls S hr hlk hw hl
  have S : zX p (zR 6) s m args c 0 0 cX11_idle 2 RX11 := S
  have hx := S.1.1
  have hb := S.1.2.1
  have hown := S.1.2.2.2.1
  have hts := S.1.2.2.2.2
  have hl : lv_has ls 2 [(0, .ref (za G t0)), (1, .int v1)] := hl
  unfold f_X11_idle at h
  refine lv_aload_n hx hb dX11_idle_0 rfl (lv_at hl 0 rfl) ?_
  obtain ⟨q1, eq1, h⟩ := Option.bind_eq_some_iff.mp h
  refine z_callV (ci := 11) (As := []) (rest := []) (rv := (some (.int q1.1))) (M1 := q1.2) S hw (c_X11_spent l hG t0 k0 M q1 eq1) mv_X11_spent lk_X11_126 k0 ⟨_, _, rfl⟩ (by decide) rfl rfl (Nat.le_of_ble_eq_true rfl) ⟨Nat.le_of_ble_eq_true rfl, Nat.le_of_ble_eq_true rfl⟩ hl.1 dX11_idle_1 (fun H locs hw => ?_)
  refine lv_if_eq (tgt := 14) hx hb dX11_idle_4 (by decide) (fun c2 => ?_) (fun c2 => ?_)
  · have h := zif_t h c2
    refine lv_aload_n hx hb dX11_idle_14 rfl (lv_at hl 0 rfl) ?_
    refine lv_iload_n hx hb dX11_idle_15 rfl (lv_at hl 1 rfl) ?_
    obtain ⟨q3, eq3, h⟩ := zlet_ex h
    refine z_callV (ci := 11) (As := [.int v1]) (rest := []) (rv := (some (.int q3))) (M1 := q1.2) S hw (c_X11_noReading l hG t0 v1 k0 q1.2 q3 eq3.symm) mv_X11_noReading lk_X11_130 k0 ⟨_, _, rfl⟩ (by decide) rfl rfl (Nat.le_of_ble_eq_true rfl) ⟨Nat.le_of_ble_eq_true rfl, Nat.le_of_ble_eq_true rfl⟩ hl.1 dX11_idle_16 (fun H locs hw => ?_)
    refine lv_if_eq (tgt := 30) hx hb dX11_idle_19 (by decide) (fun c4 => ?_) (fun c4 => ?_)
    · have h := zif_t h c4
      refine lv_aload_n hx hb dX11_idle_30 rfl (lv_at hl 0 rfl) ?_
      refine z_getR S hw k0 fl_X11_39 rfl dX11_idle_31 ?_
      refine lv_iload_n hx hb dX11_idle_34 rfl (lv_at hl 1 rfl) ?_
      obtain ⟨q5, eq5, h⟩ := zlet_ex h
      refine z_callV (ci := 2) (As := [.int v1]) (rest := []) (rv := (some (.int q5))) (M1 := q1.2) S hw (c_X2_idlePlaces l hG (zr t0 5) v1 (kr_11_5 hG k0) q1.2 q5 eq5.symm) mv_X2_idlePlaces lk_X11_178 (kr_11_5 hG k0) ⟨_, _, rfl⟩ (by decide) rfl rfl (Nat.le_of_ble_eq_true rfl) ⟨Nat.le_of_ble_eq_true rfl, Nat.le_of_ble_eq_true rfl⟩ hl.1 dX11_idle_35 (fun H locs hw => ?_)
      have h := Option.some.inj h
      subst h
      exact z_ret_i S hr hlk hw dX11_idle_38
    · have h := zif_f h c4
      refine lv_aload_n hx hb dX11_idle_22 rfl (lv_at hl 0 rfl) ?_
      refine lv_iconst (v := (-1)) hx hb dX11_idle_23 (by decide) ?_
      obtain ⟨q6, eq6, h⟩ := zlet_ex h
      refine z_callV (ci := 11) (As := [.int (-1)]) (rest := []) (rv := (some (.int q6.1))) (M1 := q6.2) S hw (c_X11_refuse l hG t0 (-1) k0 q1.2 q6 eq6.symm) mv_X11_refuse lk_X11_100 k0 ⟨_, _, rfl⟩ (by decide) rfl rfl (Nat.le_of_ble_eq_true rfl) ⟨Nat.le_of_ble_eq_true rfl, Nat.le_of_ble_eq_true rfl⟩ hl.1 dX11_idle_24 (fun H locs hw => ?_)
      refine lv_goto (tgt := 38) hx hb dX11_idle_27 (by decide) ?_
      have h := Option.some.inj h
      subst h
      exact z_ret_i S hr hlk hw dX11_idle_38
  · have h := zif_f h c2
    refine lv_aload_n hx hb dX11_idle_7 rfl (lv_at hl 0 rfl) ?_
    refine lv_bipush (v := (-5)) hx hb dX11_idle_8 (by decide) ?_
    obtain ⟨q7, eq7, h⟩ := zlet_ex h
    refine z_callV (ci := 11) (As := [.int (-5)]) (rest := []) (rv := (some (.int q7.1))) (M1 := q7.2) S hw (c_X11_refuse l hG t0 (-5) k0 q1.2 q7 eq7.symm) mv_X11_refuse lk_X11_100 k0 ⟨_, _, rfl⟩ (by decide) rfl rfl (Nat.le_of_ble_eq_true rfl) ⟨Nat.le_of_ble_eq_true rfl, Nat.le_of_ble_eq_true rfl⟩ hl.1 dX11_idle_10 (fun H locs hw => ?_)
    have h := Option.some.inj h
    subst h
    exact z_ret_i S hr hlk hw dX11_idle_13
def f_X2_idleInAll_8 (t0 : Nat) (M : ZM) (K : Int32 → Option Int32) : Nat → Int32 → Int32 → Option Int32
  | 0, _, _ => none
  | n + 1, v1, v2 =>
    if (M.1 t0 4) ≤ v2 then (
      K v1) else (
      zlet (f_X2_idlePlaces t0 v2 M) fun (q3 : Int32) =>
      zlet (v1 &&& q3) fun (x4 : Int32) =>
      zlet (v2 + 1) fun (x5 : Int32) =>
      f_X2_idleInAll_8 t0 M K n x4 x5)

def f_X2_idleInAll (t0 : Nat) (M : ZM) : Option Int32 :=
  zlet (f_X2_idlePlaces t0 0 M) fun (q1 : Int32) =>
  f_X2_idleInAll_8 t0 M (fun (v1 : Int32) =>
    some v1) zN q1 1
set_option maxHeartbeats 4000000 in
set_option maxRecDepth 100000 in
theorem w_X2_idleInAll_8 {G : ZG} (hG : zOk G) (S : zX p (zR 2) s m args c 0 0 cX2_idleInAll 3 RX2) (hr : meth.sig.returnType = (Option.some FieldType.int)) (hlk : meth.locks = false) (t0 : Nat) (k0 : zk G t0 = 12) (M : ZM)  {K : Int32 → Option Int32} {res : Int32} (hK : ∀ (v1 : Int32), K v1 = some res → ∀ (H : Heap) (locs : List Loc) (ls : Array Slot), zWd G A s H locs M → lv_has ls 3 [(1, .int v1)] → W p l e (zR 2) s m args below meth c H locs 0 0 (zQ below G A (some (.int res)) M args s) (F0 m 30 ls [])) : ∀ (n : Nat) (v1 : Int32) (v2 : Int32), f_X2_idleInAll_8 t0 M K n v1 v2 = some res → ∀ (H : Heap) (locs : List Loc) (ls : Array Slot), zWd G A s H locs M → lv_has ls 3 [(0, .ref (za G t0)), (1, .int v1), (2, .int v2)] → W p l e (zR 2) s m args below meth c H locs 0 0 (zQ below G A (some (.int res)) M args s) (F0 m 8 ls []) := by
  have hx := S.1.1
  have hb := S.1.2.1
  have hown := S.1.2.2.2.1
  have hts := S.1.2.2.2.2
  intro n
  induction n with
  | zero =>
    intro v1 v2 h
    rw [f_X2_idleInAll_8] at h
    cases h
  | succ n ih =>
    intro v1 v2 h H locs ls hw hl
    rw [f_X2_idleInAll_8] at h
    refine lv_iload_n hx hb dX2_idleInAll_8 rfl (lv_at hl 2 rfl) ?_
    refine lv_aload_n hx hb dX2_idleInAll_9 rfl (lv_at hl 0 rfl) ?_
    refine z_getI S hw k0 fl_X2_33 rfl dX2_idleInAll_10 ?_
    refine lv_icmp_ge (tgt := 30) hx hb dX2_idleInAll_13 (by decide) (fun c2 => ?_) (fun c2 => ?_)
    · have h := zif_t h c2
      exact hK v1 h H locs ls hw (lv_sub hl [1] rfl)
    · have h := zif_f h c2
      refine lv_iload_n hx hb dX2_idleInAll_16 rfl (lv_at hl 1 rfl) ?_
      refine lv_aload_n hx hb dX2_idleInAll_17 rfl (lv_at hl 0 rfl) ?_
      refine lv_iload_n hx hb dX2_idleInAll_18 rfl (lv_at hl 2 rfl) ?_
      obtain ⟨q3, eq3, h⟩ := zlet_ex h
      refine z_callV (ci := 2) (As := [.int v2]) (rest := [.int v1]) (rv := (some (.int q3))) (M1 := M) S hw (c_X2_idlePlaces l hG t0 v2 k0 M q3 eq3.symm) mv_X2_idlePlaces lk_X2_83 k0 ⟨_, _, rfl⟩ (by decide) rfl rfl (Nat.le_of_ble_eq_true rfl) ⟨Nat.le_of_ble_eq_true rfl, Nat.le_of_ble_eq_true rfl⟩ hl.1 dX2_idleInAll_19 (fun H locs hw => ?_)
      refine lv_iand hx hb dX2_idleInAll_22 ?_
      obtain ⟨x4, ex4, h⟩ := zlet_ex h
      refine lv_topiE ex4 ?_
      refine lv_istore_n (lv' := [(1, .int x4), (0, .ref (za G t0)), (2, .int v2)]) hx hb dX2_idleInAll_23 rfl hl (by decide) rfl (fun ls hl => ?_)
      obtain ⟨x5, ex5, h⟩ := zlet_ex h
      refine lv_iinc (v := x5) (lv' := [(2, .int x5), (1, .int x4), (0, .ref (za G t0))]) hx hb dX2_idleInAll_24 hl (k := 2) rfl (by rw [ex5]; rfl) (by decide) rfl (fun ls hl => ?_)
      refine lv_goto (tgt := 8) hx hb dX2_idleInAll_27 (by decide) ?_
      exact ih x4 x5 h H locs ls hw (lv_sub hl [2, 1, 0] rfl)
set_option maxHeartbeats 4000000 in
set_option maxRecDepth 100000 in
theorem c_X2_idleInAll (l : Launch) {G : ZG} (hG : zOk G) (t0 : Nat) (k0 : zk G t0 = 12) (M : ZM) (res : Int32) (h : f_X2_idleInAll t0 M = some res) : zCt l yX2_idleInAll cX2_idleInAll 3 (Option.some FieldType.int) 2 G [.ref (za G t0)] M (some (.int res)) M := by
  refine zCt.mk (by decide +kernel) (Nat.le_of_ble_eq_true rfl) ?_
  intro p e s m args below meth c A H locs ls S hr hlk hw hl
  have S : zX p (zR 2) s m args c 0 0 cX2_idleInAll 3 RX2 := S
  have hx := S.1.1
  have hb := S.1.2.1
  have hown := S.1.2.2.2.1
  have hts := S.1.2.2.2.2
  have hl : lv_has ls 3 [(0, .ref (za G t0))] := hl
  unfold f_X2_idleInAll at h
  refine lv_aload_n hx hb dX2_idleInAll_0 rfl (lv_at hl 0 rfl) ?_
  refine lv_iconst (v := 0) hx hb dX2_idleInAll_1 (by decide) ?_
  obtain ⟨q1, eq1, h⟩ := zlet_ex h
  refine z_callV (ci := 2) (As := [.int 0]) (rest := []) (rv := (some (.int q1))) (M1 := M) S hw (c_X2_idlePlaces l hG t0 0 k0 M q1 eq1.symm) mv_X2_idlePlaces lk_X2_83 k0 ⟨_, _, rfl⟩ (by decide) rfl rfl (Nat.le_of_ble_eq_true rfl) ⟨Nat.le_of_ble_eq_true rfl, Nat.le_of_ble_eq_true rfl⟩ hl.1 dX2_idleInAll_2 (fun H locs hw => ?_)
  refine lv_istore_n (lv' := [(1, .int q1), (0, .ref (za G t0))]) hx hb dX2_idleInAll_5 rfl hl (by decide) rfl (fun ls hl => ?_)
  refine lv_iconst (v := 1) hx hb dX2_idleInAll_6 (by decide) ?_
  refine lv_istore_n (lv' := [(2, .int 1), (1, .int q1), (0, .ref (za G t0))]) hx hb dX2_idleInAll_7 rfl hl (by decide) rfl (fun ls hl => ?_)
  refine w_X2_idleInAll_8 hG S hr hlk t0 k0 M (fun v1 h H locs ls hw hl => ?_) zN q1 1 h H locs ls hw (lv_sub hl [2, 1, 0] rfl)
  refine lv_iload_n hx hb dX2_idleInAll_30 rfl (lv_at hl 0 rfl) ?_
  have h := Option.some.inj h
  subst h
  exact z_ret_i S hr hlk hw dX2_idleInAll_31
def f_X11_needless (t0 : Nat) (M : ZM) : Option (Int32 × ZM) :=
  (f_X11_spent t0 M).bind fun (q1 : (Int32 × ZM)) =>
  if q1.1 = 0 then (
    (f_X2_idleInAll (zr t0 5) q1.2).bind fun (q3 : Int32) =>
    some (q3, q1.2)) else (
    zlet (f_X11_refuse t0 (-5) q1.2) fun (q4 : (Int32 × ZM)) =>
    some (q4.1, q4.2))
set_option maxHeartbeats 4000000 in
set_option maxRecDepth 100000 in
theorem c_X11_needless (l : Launch) {G : ZG} (hG : zOk G) (t0 : Nat) (k0 : zk G t0 = 21) (M : ZM) (res : (Int32 × ZM)) (h : f_X11_needless t0 M = some res) : zCt l yX11_needless cX11_needless 1 (Option.some FieldType.int) 6 G [.ref (za G t0)] M (some (.int res.1)) res.2 := by
  refine zCt.mk (by decide +kernel) (Nat.le_of_ble_eq_true rfl) ?_
  intro p e s m args below meth c A H locs ls S hr hlk hw hl
  have S : zX p (zR 6) s m args c 0 0 cX11_needless 1 RX11 := S
  have hx := S.1.1
  have hb := S.1.2.1
  have hown := S.1.2.2.2.1
  have hts := S.1.2.2.2.2
  have hl : lv_has ls 1 [(0, .ref (za G t0))] := hl
  unfold f_X11_needless at h
  refine lv_aload_n hx hb dX11_needless_0 rfl (lv_at hl 0 rfl) ?_
  obtain ⟨q1, eq1, h⟩ := Option.bind_eq_some_iff.mp h
  refine z_callV (ci := 11) (As := []) (rest := []) (rv := (some (.int q1.1))) (M1 := q1.2) S hw (c_X11_spent l hG t0 k0 M q1 eq1) mv_X11_spent lk_X11_126 k0 ⟨_, _, rfl⟩ (by decide) rfl rfl (Nat.le_of_ble_eq_true rfl) ⟨Nat.le_of_ble_eq_true rfl, Nat.le_of_ble_eq_true rfl⟩ hl.1 dX11_needless_1 (fun H locs hw => ?_)
  refine lv_if_eq (tgt := 16) hx hb dX11_needless_4 (by decide) (fun c2 => ?_) (fun c2 => ?_)
  · have h := zif_t h c2
    refine lv_aload_n hx hb dX11_needless_16 rfl (lv_at hl 0 rfl) ?_
    refine z_getR S hw k0 fl_X11_39 rfl dX11_needless_17 ?_
    obtain ⟨q3, eq3, h⟩ := Option.bind_eq_some_iff.mp h
    refine z_callV (ci := 2) (As := []) (rest := []) (rv := (some (.int q3))) (M1 := q1.2) S hw (c_X2_idleInAll l hG (zr t0 5) (kr_11_5 hG k0) q1.2 q3 eq3) mv_X2_idleInAll lk_X11_181 (kr_11_5 hG k0) ⟨_, _, rfl⟩ (by decide) rfl rfl (Nat.le_of_ble_eq_true rfl) ⟨Nat.le_of_ble_eq_true rfl, Nat.le_of_ble_eq_true rfl⟩ hl.1 dX11_needless_20 (fun H locs hw => ?_)
    have h := Option.some.inj h
    subst h
    exact z_ret_i S hr hlk hw dX11_needless_23
  · have h := zif_f h c2
    refine lv_aload_n hx hb dX11_needless_7 rfl (lv_at hl 0 rfl) ?_
    refine lv_bipush (v := (-5)) hx hb dX11_needless_8 (by decide) ?_
    obtain ⟨q4, eq4, h⟩ := zlet_ex h
    refine z_callV (ci := 11) (As := [.int (-5)]) (rest := []) (rv := (some (.int q4.1))) (M1 := q4.2) S hw (c_X11_refuse l hG t0 (-5) k0 q1.2 q4 eq4.symm) mv_X11_refuse lk_X11_100 k0 ⟨_, _, rfl⟩ (by decide) rfl rfl (Nat.le_of_ble_eq_true rfl) ⟨Nat.le_of_ble_eq_true rfl, Nat.le_of_ble_eq_true rfl⟩ hl.1 dX11_needless_10 (fun H locs hw => ?_)
    refine lv_goto (tgt := 23) hx hb dX11_needless_13 (by decide) ?_
    have h := Option.some.inj h
    subst h
    exact z_ret_i S hr hlk hw dX11_needless_23
def f_X11_noRule (v0 : Int32) (M : ZM) : Int32 :=
  if v0 < 0 then (
    (1 : Int32)) else (
    if v0 < 6 then (
      (0 : Int32)) else (
      (1 : Int32)))
set_option maxHeartbeats 4000000 in
set_option maxRecDepth 100000 in
theorem c_X11_noRule (l : Launch) {G : ZG} (hG : zOk G) (v0 : Int32) (M : ZM) (res : Int32) (h : f_X11_noRule v0 M = res) : zCt l yX11_noRule cX11_noRule 1 (Option.some FieldType.boolean) 0 G [.int v0] M (some (.int res)) M := by
  refine zCt.mk (by decide +kernel) (Nat.le_of_ble_eq_true rfl) ?_
  intro p e s m args below meth c A H locs ls S hr hlk hw hl
  have S : zX p (zR 0) s m args c 0 0 cX11_noRule 1 RX11 := S
  have hx := S.1.1
  have hb := S.1.2.1
  have hown := S.1.2.2.2.1
  have hts := S.1.2.2.2.2
  have hl : lv_has ls 1 [(0, .int v0)] := hl
  unfold f_X11_noRule at h
  refine lv_iload_n hx hb dX11_noRule_0 rfl (lv_at hl 0 rfl) ?_
  refine lv_if_lt (tgt := 10) hx hb dX11_noRule_1 (by decide) (fun c1 => ?_) (fun c1 => ?_)
  · have h := zif_t h c1
    refine lv_iconst (v := 1) hx hb dX11_noRule_10 (by decide) ?_
    refine lv_goto (tgt := 15) hx hb dX11_noRule_11 (by decide) ?_
    subst h
    exact z_ret_z S hr hlk (Or.inr rfl) hw dX11_noRule_15
  · have h := zif_f h c1
    refine lv_iload_n hx hb dX11_noRule_4 rfl (lv_at hl 0 rfl) ?_
    refine lv_bipush (v := 6) hx hb dX11_noRule_5 (by decide) ?_
    refine lv_icmp_lt (tgt := 14) hx hb dX11_noRule_7 (by decide) (fun c2 => ?_) (fun c2 => ?_)
    · have h := zif_t h c2
      refine lv_iconst (v := 0) hx hb dX11_noRule_14 (by decide) ?_
      subst h
      exact z_ret_z S hr hlk (Or.inl rfl) hw dX11_noRule_15
    · have h := zif_f h c2
      refine lv_iconst (v := 1) hx hb dX11_noRule_10 (by decide) ?_
      refine lv_goto (tgt := 15) hx hb dX11_noRule_11 (by decide) ?_
      subst h
      exact z_ret_z S hr hlk (Or.inr rfl) hw dX11_noRule_15
def f_X4_at (t0 : Nat) (v1 : Int32) (M : ZM) : Int32 :=
  zlet (f_X11_look (zr t0 0) v1 M) fun (q1 : Int32) =>
  q1
set_option maxHeartbeats 4000000 in
set_option maxRecDepth 100000 in
theorem c_X4_at (l : Launch) {G : ZG} (hG : zOk G) (t0 : Nat) (v1 : Int32) (k0 : zk G t0 = 14) (M : ZM) (res : Int32) (h : f_X4_at t0 v1 M = res) : zCt l yX4_at cX4_at 2 (Option.some FieldType.int) 1 G [.ref (za G t0), .int v1] M (some (.int res)) M := by
  refine zCt.mk (by decide +kernel) (Nat.le_of_ble_eq_true rfl) ?_
  intro p e s m args below meth c A H locs ls S hr hlk hw hl
  have S : zX p (zR 1) s m args c 0 0 cX4_at 2 RX4 := S
  have hx := S.1.1
  have hb := S.1.2.1
  have hown := S.1.2.2.2.1
  have hts := S.1.2.2.2.2
  have hl : lv_has ls 2 [(0, .ref (za G t0)), (1, .int v1)] := hl
  unfold f_X4_at at h
  refine lv_aload_n hx hb dX4_at_0 rfl (lv_at hl 0 rfl) ?_
  refine z_getR S hw k0 fl_X4_9 rfl dX4_at_1 ?_
  refine lv_iload_n hx hb dX4_at_4 rfl (lv_at hl 1 rfl) ?_
  obtain ⟨q1, eq1, h⟩ := zlet_ex h
  refine z_callS (As := [.ref (za G (zr t0 0)), .int v1]) (rest := []) (rv := (some (.int q1))) (M1 := M) S hw (c_X11_look l hG (zr t0 0) v1 (kr_4_0 hG k0) M q1 eq1.symm) mv_X11_look lk_X4_19 rfl rfl (Nat.le_of_ble_eq_true rfl) ⟨Nat.le_of_ble_eq_true rfl, Nat.le_of_ble_eq_true rfl⟩ hl.1 dX4_at_5 (fun H locs hw => ?_)
  subst h
  exact z_ret_i S hr hlk hw dX4_at_8
def f_X4_has_2 (t0 : Nat) (v1 : Int32) (M : ZM) (K : Option Int32) : Nat → Int32 → Option Int32
  | 0, _ => none
  | n + 1, v2 =>
    if (M.1 t0 1) ≤ v2 then (
      K) else (
      zlet (f_X4_at t0 v2 M) fun (q2 : Int32) =>
      if q2 = v1 then (
        some (1 : Int32)) else (
        zlet (v2 + 1) fun (x4 : Int32) =>
        f_X4_has_2 t0 v1 M K n x4))

def f_X4_has (t0 : Nat) (v1 : Int32) (M : ZM) : Option Int32 :=
  f_X4_has_2 t0 v1 M (
    some (0 : Int32)) zN 0
set_option maxHeartbeats 4000000 in
set_option maxRecDepth 100000 in
theorem w_X4_has_2 {G : ZG} (hG : zOk G) (S : zX p (zR 2) s m args c 0 0 cX4_has 3 RX4) (hr : meth.sig.returnType = (Option.some FieldType.boolean)) (hlk : meth.locks = false) (t0 : Nat) (v1 : Int32) (k0 : zk G t0 = 14) (M : ZM)  {K : Option Int32} {res : Int32} (hK : K = some res → ∀ (H : Heap) (locs : List Loc) (ls : Array Slot), zWd G A s H locs M → lv_has ls 3 [] → W p l e (zR 2) s m args below meth c H locs 0 0 (zQ below G A (some (.int res)) M args s) (F0 m 27 ls [])) : ∀ (n : Nat) (v2 : Int32), f_X4_has_2 t0 v1 M K n v2 = some res → ∀ (H : Heap) (locs : List Loc) (ls : Array Slot), zWd G A s H locs M → lv_has ls 3 [(0, .ref (za G t0)), (1, .int v1), (2, .int v2)] → W p l e (zR 2) s m args below meth c H locs 0 0 (zQ below G A (some (.int res)) M args s) (F0 m 2 ls []) := by
  have hx := S.1.1
  have hb := S.1.2.1
  have hown := S.1.2.2.2.1
  have hts := S.1.2.2.2.2
  intro n
  induction n with
  | zero =>
    intro v2 h
    rw [f_X4_has_2] at h
    cases h
  | succ n ih =>
    intro v2 h H locs ls hw hl
    rw [f_X4_has_2] at h
    refine lv_iload_n hx hb dX4_has_2 rfl (lv_at hl 2 rfl) ?_
    refine lv_aload_n hx hb dX4_has_3 rfl (lv_at hl 0 rfl) ?_
    refine z_getI S hw k0 fl_X4_15 rfl dX4_has_4 ?_
    refine lv_icmp_ge (tgt := 27) hx hb dX4_has_7 (by decide) (fun c1 => ?_) (fun c1 => ?_)
    · have h := zif_t h c1
      exact hK  h H locs ls hw (lv_sub hl [] rfl)
    · have h := zif_f h c1
      refine lv_aload_n hx hb dX4_has_10 rfl (lv_at hl 0 rfl) ?_
      refine lv_iload_n hx hb dX4_has_11 rfl (lv_at hl 2 rfl) ?_
      obtain ⟨q2, eq2, h⟩ := zlet_ex h
      refine z_callV (ci := 4) (As := [.int v2]) (rest := []) (rv := (some (.int q2))) (M1 := M) S hw (c_X4_at l hG t0 v2 k0 M q2 eq2.symm) mv_X4_at lk_X4_23 k0 ⟨_, _, rfl⟩ (by decide) rfl rfl (Nat.le_of_ble_eq_true rfl) ⟨Nat.le_of_ble_eq_true rfl, Nat.le_of_ble_eq_true rfl⟩ hl.1 dX4_has_12 (fun H locs hw => ?_)
      refine lv_iload_n hx hb dX4_has_15 rfl (lv_at hl 1 rfl) ?_
      refine lv_icmp_ne (tgt := 21) hx hb dX4_has_16 (by decide) (fun c3 => ?_) (fun c3 => ?_)
      · have h := zif_f h c3
        obtain ⟨x4, ex4, h⟩ := zlet_ex h
        refine lv_iinc (v := x4) (lv' := [(2, .int x4), (0, .ref (za G t0)), (1, .int v1)]) hx hb dX4_has_21 hl (k := 2) rfl (by rw [ex4]; rfl) (by decide) rfl (fun ls hl => ?_)
        refine lv_goto (tgt := 2) hx hb dX4_has_24 (by decide) ?_
        exact ih x4 h H locs ls hw (lv_sub hl [1, 2, 0] rfl)
      · have h := zif_t h c3
        refine lv_iconst (v := 1) hx hb dX4_has_19 (by decide) ?_
        have h := Option.some.inj h
        subst h
        exact z_ret_z S hr hlk (Or.inr rfl) hw dX4_has_20
set_option maxHeartbeats 4000000 in
set_option maxRecDepth 100000 in
theorem c_X4_has (l : Launch) {G : ZG} (hG : zOk G) (t0 : Nat) (v1 : Int32) (k0 : zk G t0 = 14) (M : ZM) (res : Int32) (h : f_X4_has t0 v1 M = some res) : zCt l yX4_has cX4_has 3 (Option.some FieldType.boolean) 2 G [.ref (za G t0), .int v1] M (some (.int res)) M := by
  refine zCt.mk (by decide +kernel) (Nat.le_of_ble_eq_true rfl) ?_
  intro p e s m args below meth c A H locs ls S hr hlk hw hl
  have S : zX p (zR 2) s m args c 0 0 cX4_has 3 RX4 := S
  have hx := S.1.1
  have hb := S.1.2.1
  have hown := S.1.2.2.2.1
  have hts := S.1.2.2.2.2
  have hl : lv_has ls 3 [(0, .ref (za G t0)), (1, .int v1)] := hl
  unfold f_X4_has at h
  refine lv_iconst (v := 0) hx hb dX4_has_0 (by decide) ?_
  refine lv_istore_n (lv' := [(2, .int 0), (0, .ref (za G t0)), (1, .int v1)]) hx hb dX4_has_1 rfl hl (by decide) rfl (fun ls hl => ?_)
  refine w_X4_has_2 hG S hr hlk t0 v1 k0 M (fun h H locs ls hw hl => ?_) zN 0 h H locs ls hw (lv_sub hl [1, 2, 0] rfl)
  refine lv_iconst (v := 0) hx hb dX4_has_27 (by decide) ?_
  have h := Option.some.inj h
  subst h
  exact z_ret_z S hr hlk (Or.inl rfl) hw dX4_has_28
def f_X4_add (t0 : Nat) (v1 : Int32) (M : ZM) : ZM :=
  if 6 ≤ (M.1 t0 1) then (
    M) else (
    zlet (f_X11_put (zr t0 0) (M.1 t0 1) v1 M) fun (q2 : ZM) =>
    zlet (zi q2 t0 1 ((q2.1 t0 1) + 1)) fun (M3 : ZM) =>
    M3)
set_option maxHeartbeats 4000000 in
set_option maxRecDepth 100000 in
theorem c_X4_add (l : Launch) {G : ZG} (hG : zOk G) (t0 : Nat) (v1 : Int32) (k0 : zk G t0 = 14) (M : ZM) (res : ZM) (h : f_X4_add t0 v1 M = res) : zCt l yX4_add cX4_add 2 none 1 G [.ref (za G t0), .int v1] M none res := by
  refine zCt.mk (by decide +kernel) (Nat.le_of_ble_eq_true rfl) ?_
  intro p e s m args below meth c A H locs ls S hr hlk hw hl
  have S : zX p (zR 1) s m args c 0 0 cX4_add 2 RX4 := S
  have hx := S.1.1
  have hb := S.1.2.1
  have hown := S.1.2.2.2.1
  have hts := S.1.2.2.2.2
  have hl : lv_has ls 2 [(0, .ref (za G t0)), (1, .int v1)] := hl
  unfold f_X4_add at h
  refine lv_aload_n hx hb dX4_add_0 rfl (lv_at hl 0 rfl) ?_
  refine z_getI S hw k0 fl_X4_15 rfl dX4_add_1 ?_
  refine lv_bipush (v := 6) hx hb dX4_add_4 (by decide) ?_
  refine lv_icmp_ge (tgt := 31) hx hb dX4_add_6 (by decide) (fun c1 => ?_) (fun c1 => ?_)
  · have h := zif_t h c1
    subst h
    exact z_ret_v S hr hlk hw dX4_add_31
  · have h := zif_f h c1
    refine lv_aload_n hx hb dX4_add_9 rfl (lv_at hl 0 rfl) ?_
    refine z_getR S hw k0 fl_X4_9 rfl dX4_add_10 ?_
    refine lv_aload_n hx hb dX4_add_13 rfl (lv_at hl 0 rfl) ?_
    refine z_getI S hw k0 fl_X4_15 rfl dX4_add_14 ?_
    refine lv_iload_n hx hb dX4_add_17 rfl (lv_at hl 1 rfl) ?_
    obtain ⟨q2, eq2, h⟩ := zlet_ex h
    refine z_callS (As := [.ref (za G (zr t0 0)), .int (M.1 t0 1), .int v1]) (rest := []) (rv := none) (M1 := q2) S hw (c_X11_put l hG (zr t0 0) (M.1 t0 1) v1 (kr_4_0 hG k0) M q2 eq2.symm) mv_X11_put lk_X4_27 rfl rfl (Nat.le_of_ble_eq_true rfl) ⟨Nat.le_of_ble_eq_true rfl, Nat.le_of_ble_eq_true rfl⟩ hl.1 dX4_add_18 (fun H locs hw => ?_)
    refine lv_aload_n hx hb dX4_add_21 rfl (lv_at hl 0 rfl) ?_
    refine lv_dup hx hb dX4_add_22 rfl ?_
    refine z_getI S hw k0 fl_X4_15 rfl dX4_add_23 ?_
    refine lv_iconst (v := 1) hx hb dX4_add_26 (by decide) ?_
    refine lv_iadd hx hb dX4_add_27 ?_
    obtain ⟨M3, eM3, h⟩ := zlet_ex h
    refine z_putI S hw eM3 k0 fl_X4_15 rfl (fun h => absurd h (by decide)) dX4_add_28 (fun H locs hw => ?_)
    subst h
    exact z_ret_v S hr hlk hw dX4_add_31
def f_X4_size (t0 : Nat) (M : ZM) : Int32 :=
  (M.1 t0 1)
set_option maxHeartbeats 4000000 in
set_option maxRecDepth 100000 in
theorem c_X4_size (l : Launch) {G : ZG} (hG : zOk G) (t0 : Nat) (k0 : zk G t0 = 14) (M : ZM) (res : Int32) (h : f_X4_size t0 M = res) : zCt l yX4_size cX4_size 1 (Option.some FieldType.int) 0 G [.ref (za G t0)] M (some (.int res)) M := by
  refine zCt.mk (by decide +kernel) (Nat.le_of_ble_eq_true rfl) ?_
  intro p e s m args below meth c A H locs ls S hr hlk hw hl
  have S : zX p (zR 0) s m args c 0 0 cX4_size 1 RX4 := S
  have hx := S.1.1
  have hb := S.1.2.1
  have hown := S.1.2.2.2.1
  have hts := S.1.2.2.2.2
  have hl : lv_has ls 1 [(0, .ref (za G t0))] := hl
  unfold f_X4_size at h
  refine lv_aload_n hx hb dX4_size_0 rfl (lv_at hl 0 rfl) ?_
  refine z_getI S hw k0 fl_X4_15 rfl dX4_size_1 ?_
  subst h
  exact z_ret_i S hr hlk hw dX4_size_4
def f_X11_choose (t0 : Nat) (v1 : Int32) (M : ZM) : Option (Int32 × ZM) :=
  zlet (f_X11_noRule v1 M) fun (q1 : Int32) =>
  if q1 = 0 then (
    (f_X4_has (zr t0 7) v1 M).bind fun (q3 : Int32) =>
    if q3 = 0 then (
      zlet (f_X4_add (zr t0 7) v1 M) fun (q5 : ZM) =>
      zlet (f_X4_size (zr t0 7) q5) fun (q6 : Int32) =>
      some (q6, q5)) else (
      zlet (f_X11_refuse t0 (-3) M) fun (q7 : (Int32 × ZM)) =>
      some (q7.1, q7.2))) else (
    zlet (f_X11_refuse t0 (-1) M) fun (q8 : (Int32 × ZM)) =>
    some (q8.1, q8.2))
set_option maxHeartbeats 4000000 in
set_option maxRecDepth 100000 in
theorem c_X11_choose (l : Launch) {G : ZG} (hG : zOk G) (t0 : Nat) (v1 : Int32) (k0 : zk G t0 = 21) (M : ZM) (res : (Int32 × ZM)) (h : f_X11_choose t0 v1 M = some res) : zCt l yX11_choose cX11_choose 2 (Option.some FieldType.int) 3 G [.ref (za G t0), .int v1] M (some (.int res.1)) res.2 := by
  refine zCt.mk (by decide +kernel) (Nat.le_of_ble_eq_true rfl) ?_
  intro p e s m args below meth c A H locs ls S hr hlk hw hl
  have S : zX p (zR 3) s m args c 0 0 cX11_choose 2 RX11 := S
  have hx := S.1.1
  have hb := S.1.2.1
  have hown := S.1.2.2.2.1
  have hts := S.1.2.2.2.2
  have hl : lv_has ls 2 [(0, .ref (za G t0)), (1, .int v1)] := hl
  unfold f_X11_choose at h
  refine lv_iload_n hx hb dX11_choose_0 rfl (lv_at hl 1 rfl) ?_
  obtain ⟨q1, eq1, h⟩ := zlet_ex h
  refine z_callS (As := [.int v1]) (rest := []) (rv := (some (.int q1))) (M1 := M) S hw (c_X11_noRule l hG v1 M q1 eq1.symm) mv_X11_noRule lk_X11_184 rfl rfl (Nat.le_of_ble_eq_true rfl) ⟨Nat.le_of_ble_eq_true rfl, Nat.le_of_ble_eq_true rfl⟩ hl.1 dX11_choose_1 (fun H locs hw => ?_)
  refine lv_if_eq (tgt := 13) hx hb dX11_choose_4 (by decide) (fun c2 => ?_) (fun c2 => ?_)
  · have h := zif_t h c2
    refine lv_aload_n hx hb dX11_choose_13 rfl (lv_at hl 0 rfl) ?_
    refine z_getR S hw k0 fl_X11_53 rfl dX11_choose_14 ?_
    refine lv_iload_n hx hb dX11_choose_17 rfl (lv_at hl 1 rfl) ?_
    obtain ⟨q3, eq3, h⟩ := Option.bind_eq_some_iff.mp h
    refine z_callV (ci := 4) (As := [.int v1]) (rest := []) (rv := (some (.int q3))) (M1 := M) S hw (c_X4_has l hG (zr t0 7) v1 (kr_11_7 hG k0) M q3 eq3) mv_X4_has lk_X11_191 (kr_11_7 hG k0) ⟨_, _, rfl⟩ (by decide) rfl rfl (Nat.le_of_ble_eq_true rfl) ⟨Nat.le_of_ble_eq_true rfl, Nat.le_of_ble_eq_true rfl⟩ hl.1 dX11_choose_18 (fun H locs hw => ?_)
    refine lv_if_eq (tgt := 31) hx hb dX11_choose_21 (by decide) (fun c4 => ?_) (fun c4 => ?_)
    · have h := zif_t h c4
      refine lv_aload_n hx hb dX11_choose_31 rfl (lv_at hl 0 rfl) ?_
      refine z_getR S hw k0 fl_X11_53 rfl dX11_choose_32 ?_
      refine lv_iload_n hx hb dX11_choose_35 rfl (lv_at hl 1 rfl) ?_
      obtain ⟨q5, eq5, h⟩ := zlet_ex h
      refine z_callV (ci := 4) (As := [.int v1]) (rest := []) (rv := none) (M1 := q5) S hw (c_X4_add l hG (zr t0 7) v1 (kr_11_7 hG k0) M q5 eq5.symm) mv_X4_add lk_X11_194 (kr_11_7 hG k0) ⟨_, _, rfl⟩ (by decide) rfl rfl (Nat.le_of_ble_eq_true rfl) ⟨Nat.le_of_ble_eq_true rfl, Nat.le_of_ble_eq_true rfl⟩ hl.1 dX11_choose_36 (fun H locs hw => ?_)
      refine lv_aload_n hx hb dX11_choose_39 rfl (lv_at hl 0 rfl) ?_
      refine z_getR S hw k0 fl_X11_53 rfl dX11_choose_40 ?_
      obtain ⟨q6, eq6, h⟩ := zlet_ex h
      refine z_callV (ci := 4) (As := []) (rest := []) (rv := (some (.int q6))) (M1 := q5) S hw (c_X4_size l hG (zr t0 7) (kr_11_7 hG k0) q5 q6 eq6.symm) mv_X4_size lk_X11_195 (kr_11_7 hG k0) ⟨_, _, rfl⟩ (by decide) rfl rfl (Nat.le_of_ble_eq_true rfl) ⟨Nat.le_of_ble_eq_true rfl, Nat.le_of_ble_eq_true rfl⟩ hl.1 dX11_choose_43 (fun H locs hw => ?_)
      have h := Option.some.inj h
      subst h
      exact z_ret_i S hr hlk hw dX11_choose_46
    · have h := zif_f h c4
      refine lv_aload_n hx hb dX11_choose_24 rfl (lv_at hl 0 rfl) ?_
      refine lv_bipush (v := (-3)) hx hb dX11_choose_25 (by decide) ?_
      obtain ⟨q7, eq7, h⟩ := zlet_ex h
      refine z_callV (ci := 11) (As := [.int (-3)]) (rest := []) (rv := (some (.int q7.1))) (M1 := q7.2) S hw (c_X11_refuse l hG t0 (-3) k0 M q7 eq7.symm) mv_X11_refuse lk_X11_100 k0 ⟨_, _, rfl⟩ (by decide) rfl rfl (Nat.le_of_ble_eq_true rfl) ⟨Nat.le_of_ble_eq_true rfl, Nat.le_of_ble_eq_true rfl⟩ hl.1 dX11_choose_27 (fun H locs hw => ?_)
      have h := Option.some.inj h
      subst h
      exact z_ret_i S hr hlk hw dX11_choose_30
  · have h := zif_f h c2
    refine lv_aload_n hx hb dX11_choose_7 rfl (lv_at hl 0 rfl) ?_
    refine lv_iconst (v := (-1)) hx hb dX11_choose_8 (by decide) ?_
    obtain ⟨q8, eq8, h⟩ := zlet_ex h
    refine z_callV (ci := 11) (As := [.int (-1)]) (rest := []) (rv := (some (.int q8.1))) (M1 := q8.2) S hw (c_X11_refuse l hG t0 (-1) k0 M q8 eq8.symm) mv_X11_refuse lk_X11_100 k0 ⟨_, _, rfl⟩ (by decide) rfl rfl (Nat.le_of_ble_eq_true rfl) ⟨Nat.le_of_ble_eq_true rfl, Nat.le_of_ble_eq_true rfl⟩ hl.1 dX11_choose_9 (fun H locs hw => ?_)
    have h := Option.some.inj h
    subst h
    exact z_ret_i S hr hlk hw dX11_choose_12
def f_X4_clear (t0 : Nat) (M : ZM) : ZM :=
  zlet (zi M t0 1 0) fun (M1 : ZM) =>
  M1
set_option maxHeartbeats 4000000 in
set_option maxRecDepth 100000 in
theorem c_X4_clear (l : Launch) {G : ZG} (hG : zOk G) (t0 : Nat) (k0 : zk G t0 = 14) (M : ZM) (res : ZM) (h : f_X4_clear t0 M = res) : zCt l yX4_clear cX4_clear 1 none 0 G [.ref (za G t0)] M none res := by
  refine zCt.mk (by decide +kernel) (Nat.le_of_ble_eq_true rfl) ?_
  intro p e s m args below meth c A H locs ls S hr hlk hw hl
  have S : zX p (zR 0) s m args c 0 0 cX4_clear 1 RX4 := S
  have hx := S.1.1
  have hb := S.1.2.1
  have hown := S.1.2.2.2.1
  have hts := S.1.2.2.2.2
  have hl : lv_has ls 1 [(0, .ref (za G t0))] := hl
  unfold f_X4_clear at h
  refine lv_aload_n hx hb dX4_clear_0 rfl (lv_at hl 0 rfl) ?_
  refine lv_iconst (v := 0) hx hb dX4_clear_1 (by decide) ?_
  obtain ⟨M1, eM1, h⟩ := zlet_ex h
  refine z_putI S hw eM1 k0 fl_X4_15 rfl (fun h => absurd h (by decide)) dX4_clear_2 (fun H locs hw => ?_)
  subst h
  exact z_ret_v S hr hlk hw dX4_clear_5
def f_X11_unchoose (t0 : Nat) (M : ZM) : (Int32 × ZM) :=
  zlet (f_X4_size (zr t0 7) M) fun (q1 : Int32) =>
  zlet (f_X4_clear (zr t0 7) M) fun (q2 : ZM) =>
  (q1, q2)
set_option maxHeartbeats 4000000 in
set_option maxRecDepth 100000 in
theorem c_X11_unchoose (l : Launch) {G : ZG} (hG : zOk G) (t0 : Nat) (k0 : zk G t0 = 21) (M : ZM) (res : (Int32 × ZM)) (h : f_X11_unchoose t0 M = res) : zCt l yX11_unchoose cX11_unchoose 2 (Option.some FieldType.int) 1 G [.ref (za G t0)] M (some (.int res.1)) res.2 := by
  refine zCt.mk (by decide +kernel) (Nat.le_of_ble_eq_true rfl) ?_
  intro p e s m args below meth c A H locs ls S hr hlk hw hl
  have S : zX p (zR 1) s m args c 0 0 cX11_unchoose 2 RX11 := S
  have hx := S.1.1
  have hb := S.1.2.1
  have hown := S.1.2.2.2.1
  have hts := S.1.2.2.2.2
  have hl : lv_has ls 2 [(0, .ref (za G t0))] := hl
  unfold f_X11_unchoose at h
  refine lv_aload_n hx hb dX11_unchoose_0 rfl (lv_at hl 0 rfl) ?_
  refine z_getR S hw k0 fl_X11_53 rfl dX11_unchoose_1 ?_
  obtain ⟨q1, eq1, h⟩ := zlet_ex h
  refine z_callV (ci := 4) (As := []) (rest := []) (rv := (some (.int q1))) (M1 := M) S hw (c_X4_size l hG (zr t0 7) (kr_11_7 hG k0) M q1 eq1.symm) mv_X4_size lk_X11_195 (kr_11_7 hG k0) ⟨_, _, rfl⟩ (by decide) rfl rfl (Nat.le_of_ble_eq_true rfl) ⟨Nat.le_of_ble_eq_true rfl, Nat.le_of_ble_eq_true rfl⟩ hl.1 dX11_unchoose_4 (fun H locs hw => ?_)
  refine lv_istore_n (lv' := [(1, .int q1), (0, .ref (za G t0))]) hx hb dX11_unchoose_7 rfl hl (by decide) rfl (fun ls hl => ?_)
  refine lv_aload_n hx hb dX11_unchoose_8 rfl (lv_at hl 1 rfl) ?_
  refine z_getR S hw k0 fl_X11_53 rfl dX11_unchoose_9 ?_
  obtain ⟨q2, eq2, h⟩ := zlet_ex h
  refine z_callV (ci := 4) (As := []) (rest := []) (rv := none) (M1 := q2) S hw (c_X4_clear l hG (zr t0 7) (kr_11_7 hG k0) M q2 eq2.symm) mv_X4_clear lk_X11_196 (kr_11_7 hG k0) ⟨_, _, rfl⟩ (by decide) rfl rfl (Nat.le_of_ble_eq_true rfl) ⟨Nat.le_of_ble_eq_true rfl, Nat.le_of_ble_eq_true rfl⟩ hl.1 dX11_unchoose_12 (fun H locs hw => ?_)
  refine lv_iload_n hx hb dX11_unchoose_15 rfl (lv_at hl 0 rfl) ?_
  subst h
  exact z_ret_i S hr hlk hw dX11_unchoose_16
def f_X6_at (t0 : Nat) (v1 : Int32) (M : ZM) : Int32 :=
  zlet (f_X11_look (zr t0 0) v1 M) fun (q1 : Int32) =>
  q1
set_option maxHeartbeats 4000000 in
set_option maxRecDepth 100000 in
theorem c_X6_at (l : Launch) {G : ZG} (hG : zOk G) (t0 : Nat) (v1 : Int32) (k0 : zk G t0 = 16) (M : ZM) (res : Int32) (h : f_X6_at t0 v1 M = res) : zCt l yX6_at cX6_at 2 (Option.some FieldType.int) 1 G [.ref (za G t0), .int v1] M (some (.int res)) M := by
  refine zCt.mk (by decide +kernel) (Nat.le_of_ble_eq_true rfl) ?_
  intro p e s m args below meth c A H locs ls S hr hlk hw hl
  have S : zX p (zR 1) s m args c 0 0 cX6_at 2 RX6 := S
  have hx := S.1.1
  have hb := S.1.2.1
  have hown := S.1.2.2.2.1
  have hts := S.1.2.2.2.2
  have hl : lv_has ls 2 [(0, .ref (za G t0)), (1, .int v1)] := hl
  unfold f_X6_at at h
  refine lv_aload_n hx hb dX6_at_0 rfl (lv_at hl 0 rfl) ?_
  refine z_getR S hw k0 fl_X6_9 rfl dX6_at_1 ?_
  refine lv_iload_n hx hb dX6_at_4 rfl (lv_at hl 1 rfl) ?_
  obtain ⟨q1, eq1, h⟩ := zlet_ex h
  refine z_callS (As := [.ref (za G (zr t0 0)), .int v1]) (rest := []) (rv := (some (.int q1))) (M1 := M) S hw (c_X11_look l hG (zr t0 0) v1 (kr_6_0 hG k0) M q1 eq1.symm) mv_X11_look lk_X6_19 rfl rfl (Nat.le_of_ble_eq_true rfl) ⟨Nat.le_of_ble_eq_true rfl, Nat.le_of_ble_eq_true rfl⟩ hl.1 dX6_at_5 (fun H locs hw => ?_)
  subst h
  exact z_ret_i S hr hlk hw dX6_at_8
def f_X2_isMet (t0 : Nat) (v1 : Int32) (v2 : Int32) (M : ZM) : Int32 :=
  zlet (f_X11_look (zr t0 3) v1 M) fun (q1 : Int32) =>
  zlet (f_X11_bit (q1.toInt64) v2 M) fun (q2 : Int32) =>
  if q2 = 1 then (
    (1 : Int32)) else (
    (0 : Int32))
set_option maxHeartbeats 4000000 in
set_option maxRecDepth 100000 in
theorem c_X2_isMet (l : Launch) {G : ZG} (hG : zOk G) (t0 : Nat) (v1 : Int32) (v2 : Int32) (k0 : zk G t0 = 12) (M : ZM) (res : Int32) (h : f_X2_isMet t0 v1 v2 M = res) : zCt l yX2_isMet cX2_isMet 3 (Option.some FieldType.boolean) 1 G [.ref (za G t0), .int v1, .int v2] M (some (.int res)) M := by
  refine zCt.mk (by decide +kernel) (Nat.le_of_ble_eq_true rfl) ?_
  intro p e s m args below meth c A H locs ls S hr hlk hw hl
  have S : zX p (zR 1) s m args c 0 0 cX2_isMet 3 RX2 := S
  have hx := S.1.1
  have hb := S.1.2.1
  have hown := S.1.2.2.2.1
  have hts := S.1.2.2.2.2
  have hl : lv_has ls 3 [(0, .ref (za G t0)), (1, .int v1), (2, .int v2)] := hl
  unfold f_X2_isMet at h
  refine lv_aload_n hx hb dX2_isMet_0 rfl (lv_at hl 0 rfl) ?_
  refine z_getR S hw k0 fl_X2_26 rfl dX2_isMet_1 ?_
  refine lv_iload_n hx hb dX2_isMet_4 rfl (lv_at hl 1 rfl) ?_
  obtain ⟨q1, eq1, h⟩ := zlet_ex h
  refine z_callS (As := [.ref (za G (zr t0 3)), .int v1]) (rest := []) (rv := (some (.int q1))) (M1 := M) S hw (c_X11_look l hG (zr t0 3) v1 (kr_2_3 hG k0) M q1 eq1.symm) mv_X11_look lk_X2_69 rfl rfl (Nat.le_of_ble_eq_true rfl) ⟨Nat.le_of_ble_eq_true rfl, Nat.le_of_ble_eq_true rfl⟩ hl.1 dX2_isMet_5 (fun H locs hw => ?_)
  refine lv_i2l (v := (q1.toInt64)) hx hb dX2_isMet_8 rfl ?_
  refine lv_iload_n hx hb dX2_isMet_9 rfl (lv_at hl 2 rfl) ?_
  obtain ⟨q2, eq2, h⟩ := zlet_ex h
  refine z_callS (As := [.long (q1.toInt64), .int v2]) (rest := []) (rv := (some (.int q2))) (M1 := M) S hw (c_X11_bit l hG (q1.toInt64) v2 M q2 eq2.symm) mv_X11_bit lk_X2_72 rfl rfl (Nat.le_of_ble_eq_true rfl) ⟨Nat.le_of_ble_eq_true rfl, Nat.le_of_ble_eq_true rfl⟩ hl.1 dX2_isMet_10 (fun H locs hw => ?_)
  refine lv_iconst (v := 1) hx hb dX2_isMet_13 (by decide) ?_
  refine lv_icmp_ne (tgt := 21) hx hb dX2_isMet_14 (by decide) (fun c3 => ?_) (fun c3 => ?_)
  · have h := zif_f h c3
    refine lv_iconst (v := 0) hx hb dX2_isMet_21 (by decide) ?_
    subst h
    exact z_ret_z S hr hlk (Or.inl rfl) hw dX2_isMet_22
  · have h := zif_t h c3
    refine lv_iconst (v := 1) hx hb dX2_isMet_17 (by decide) ?_
    refine lv_goto (tgt := 22) hx hb dX2_isMet_18 (by decide) ?_
    subst h
    exact z_ret_z S hr hlk (Or.inr rfl) hw dX2_isMet_22
end Z
