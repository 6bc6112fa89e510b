section Z
variable {p : Program} {l : Launch} {e : Env} {s : State} {m : MethodId} {args : Array Value} {below : List Frame} {meth : Method} {c : Code} {A : Nat → Prop}
def f_X8_arePartedBy_6 (t0 : Nat) (v1 : Int32) (v2 : Int32) (v3 : Int32) (M : ZM) (K : Option Int32) : Nat → Int32 → Int32 → Option Int32
  | 0, _, _ => none
  | n + 1, v4, v5 =>
    if (M.1 t0 1) ≤ v5 then (
      K) else (
      zlet (f_X11_look_ (zr t0 0) v5 M) fun (q2 : Int64) =>
      zlet (f_X11_bit q2 v1 M) fun (q3 : Int32) =>
      zlet (f_X11_bit q2 v2 M) fun (q4 : Int32) =>
      zlet (f_X11_bit q2 v3 M) fun (q5 : Int32) =>
      zlet (1 <<< (((q3 + (2 * q4)) + (4 * q5)) &&& 31)) fun (x6 : Int32) =>
      if (v4 &&& x6) = 0 then (
        zlet (v4 ||| x6) fun (x8 : Int32) =>
        zlet (v5 + 1) fun (x9 : Int32) =>
        f_X8_arePartedBy_6 t0 v1 v2 v3 M K n x8 x9) else (
        some (0 : Int32)))

def f_X8_arePartedBy (t0 : Nat) (v1 : Int32) (v2 : Int32) (v3 : Int32) (M : ZM) : Option Int32 :=
  f_X8_arePartedBy_6 t0 v1 v2 v3 M (
    some (1 : Int32)) zN 0 0
set_option maxHeartbeats 4000000 in
set_option maxRecDepth 100000 in
theorem w_X8_arePartedBy_6 {G : ZG} (hG : zOk G) (S : zX p (zR 1) s m args c 0 0 cX8_arePartedBy 9 RX8) (hr : meth.sig.returnType = (Option.some FieldType.boolean)) (hlk : meth.locks = false) (t0 : Nat) (v1 : Int32) (v2 : Int32) (v3 : Int32) (k0 : zk G t0 = 18) (M : ZM)  {K : Option Int32} {res : Int32} (hK : K = some res → ∀ (H : Heap) (locs : List Loc) (ls : Array Slot), zWd G A s H locs M → lv_has ls 9 [] → W p l e (zR 1) s m args below meth c H locs 0 0 (zQ below G A (some (.int res)) M args s) (F0 m 77 ls [])) : ∀ (n : Nat) (v4 : Int32) (v5 : Int32), f_X8_arePartedBy_6 t0 v1 v2 v3 M K n v4 v5 = some res → ∀ (H : Heap) (locs : List Loc) (ls : Array Slot), zWd G A s H locs M → lv_has ls 9 [(0, .ref (za G t0)), (1, .int v1), (2, .int v2), (3, .int v3), (4, .int v4), (5, .int v5)] → W p l e (zR 1) s m args below meth c H locs 0 0 (zQ below G A (some (.int res)) M args s) (F0 m 6 ls []) := by
  have hx := S.1.1
  have hb := S.1.2.1
  have hown := S.1.2.2.2.1
  have hts := S.1.2.2.2.2
  intro n
  induction n with
  | zero =>
    intro v4 v5 h
    rw [f_X8_arePartedBy_6] at h
    cases h
  | succ n ih =>
    intro v4 v5 h H locs ls hw hl
    rw [f_X8_arePartedBy_6] at h
    refine lv_iload hx hb dX8_arePartedBy_6 (lv_at hl 5 rfl) ?_
    refine lv_aload_n hx hb dX8_arePartedBy_8 rfl (lv_at hl 0 rfl) ?_
    refine z_getI S hw k0 fl_X8_15 rfl dX8_arePartedBy_9 ?_
    refine lv_icmp_ge (tgt := 77) hx hb dX8_arePartedBy_12 (by decide) (fun c1 => ?_) (fun c1 => ?_)
    · have h := zif_t h c1
      exact hK  h H locs ls hw (lv_sub hl [] rfl)
    · have h := zif_f h c1
      refine lv_aload_n hx hb dX8_arePartedBy_15 rfl (lv_at hl 0 rfl) ?_
      refine z_getR S hw k0 fl_X8_9 rfl dX8_arePartedBy_16 ?_
      refine lv_iload hx hb dX8_arePartedBy_19 (lv_at hl 5 rfl) ?_
      obtain ⟨q2, eq2, h⟩ := zlet_ex h
      refine z_callS (As := [.ref (za G (zr t0 0)), .int v5]) (rest := []) (rv := (some (.long q2))) (M1 := M) S hw (c_X11_look_ l hG (zr t0 0) v5 (kr_8_0 hG k0) M q2 eq2.symm) mv_X11_look_ lk_X8_36 rfl rfl (Nat.le_of_ble_eq_true rfl) ⟨Nat.le_of_ble_eq_true rfl, Nat.le_of_ble_eq_true rfl⟩ hl.1 dX8_arePartedBy_21 (fun H locs hw => ?_)
      refine lv_lstore (lv' := [(6, .long q2), (0, .ref (za G t0)), (1, .int v1), (2, .int v2), (3, .int v3), (4, .int v4), (5, .int v5)]) hx hb dX8_arePartedBy_24 hl (by decide) rfl (fun ls hl => ?_)
      refine lv_iconst (v := 1) hx hb dX8_arePartedBy_26 (by decide) ?_
      refine lv_lload hx hb dX8_arePartedBy_27 (lv_at hl 0 rfl) ?_
      refine lv_iload_n hx hb dX8_arePartedBy_29 rfl (lv_at hl 2 rfl) ?_
      obtain ⟨q3, eq3, h⟩ := zlet_ex h
      refine z_callS (As := [.long q2, .int v1]) (rest := [.int 1]) (rv := (some (.int q3))) (M1 := M) S hw (c_X11_bit l hG q2 v1 M q3 eq3.symm) mv_X11_bit lk_X8_48 rfl rfl (Nat.le_of_ble_eq_true rfl) ⟨Nat.le_of_ble_eq_true rfl, Nat.le_of_ble_eq_true rfl⟩ hl.1 dX8_arePartedBy_30 (fun H locs hw => ?_)
      refine lv_iconst (v := 2) hx hb dX8_arePartedBy_33 (by decide) ?_
      refine lv_lload hx hb dX8_arePartedBy_34 (lv_at hl 0 rfl) ?_
      refine lv_iload_n hx hb dX8_arePartedBy_36 rfl (lv_at hl 3 rfl) ?_
      obtain ⟨q4, eq4, h⟩ := zlet_ex h
      refine z_callS (As := [.long q2, .int v2]) (rest := [.int 2, .int q3, .int 1]) (rv := (some (.int q4))) (M1 := M) S hw (c_X11_bit l hG q2 v2 M q4 eq4.symm) mv_X11_bit lk_X8_48 rfl rfl (Nat.le_of_ble_eq_true rfl) ⟨Nat.le_of_ble_eq_true rfl, Nat.le_of_ble_eq_true rfl⟩ hl.1 dX8_arePartedBy_37 (fun H locs hw => ?_)
      refine lv_imul hx hb dX8_arePartedBy_40 ?_
      refine lv_iadd hx hb dX8_arePartedBy_41 ?_
      refine lv_iconst (v := 4) hx hb dX8_arePartedBy_42 (by decide) ?_
      refine lv_lload hx hb dX8_arePartedBy_43 (lv_at hl 0 rfl) ?_
      refine lv_iload_n hx hb dX8_arePartedBy_45 rfl (lv_at hl 4 rfl) ?_
      obtain ⟨q5, eq5, h⟩ := zlet_ex h
      refine z_callS (As := [.long q2, .int v3]) (rest := [.int 4, .int (q3 + (2 * q4)), .int 1]) (rv := (some (.int q5))) (M1 := M) S hw (c_X11_bit l hG q2 v3 M q5 eq5.symm) mv_X11_bit lk_X8_48 rfl rfl (Nat.le_of_ble_eq_true rfl) ⟨Nat.le_of_ble_eq_true rfl, Nat.le_of_ble_eq_true rfl⟩ hl.1 dX8_arePartedBy_46 (fun H locs hw => ?_)
      refine lv_imul hx hb dX8_arePartedBy_49 ?_
      refine lv_iadd hx hb dX8_arePartedBy_50 ?_
      refine lv_ishl hx hb dX8_arePartedBy_51 ?_
      obtain ⟨x6, ex6, h⟩ := zlet_ex h
      refine lv_topiE ex6 ?_
      refine lv_istore (lv' := [(8, .int x6), (6, .long q2), (0, .ref (za G t0)), (1, .int v1), (2, .int v2), (3, .int v3), (4, .int v4), (5, .int v5)]) hx hb dX8_arePartedBy_52 hl (by decide) rfl (fun ls hl => ?_)
      refine lv_iload hx hb dX8_arePartedBy_54 (lv_at hl 6 rfl) ?_
      refine lv_iload hx hb dX8_arePartedBy_56 (lv_at hl 0 rfl) ?_
      refine lv_iand hx hb dX8_arePartedBy_58 ?_
      refine lv_if_eq (tgt := 64) hx hb dX8_arePartedBy_59 (by decide) (fun c7 => ?_) (fun c7 => ?_)
      · have h := zif_t h c7
        refine lv_iload hx hb dX8_arePartedBy_64 (lv_at hl 6 rfl) ?_
        refine lv_iload hx hb dX8_arePartedBy_66 (lv_at hl 0 rfl) ?_
        refine lv_ior hx hb dX8_arePartedBy_68 ?_
        obtain ⟨x8, ex8, h⟩ := zlet_ex h
        refine lv_topiE ex8 ?_
        refine lv_istore (lv' := [(4, .int x8), (8, .int x6), (6, .long q2), (0, .ref (za G t0)), (1, .int v1), (2, .int v2), (3, .int v3), (5, .int v5)]) hx hb dX8_arePartedBy_69 hl (by decide) rfl (fun ls hl => ?_)
        obtain ⟨x9, ex9, h⟩ := zlet_ex h
        refine lv_iinc (v := x9) (lv' := [(5, .int x9), (4, .int x8), (8, .int x6), (6, .long q2), (0, .ref (za G t0)), (1, .int v1), (2, .int v2), (3, .int v3)]) hx hb dX8_arePartedBy_71 hl (k := 7) rfl (by rw [ex9]; rfl) (by decide) rfl (fun ls hl => ?_)
        refine lv_goto (tgt := 6) hx hb dX8_arePartedBy_74 (by decide) ?_
        exact ih x8 x9 h H locs ls hw (lv_sub hl [4, 5, 6, 7, 1, 0] rfl)
      · have h := zif_f h c7
        refine lv_iconst (v := 0) hx hb dX8_arePartedBy_62 (by decide) ?_
        have h := Option.some.inj h
        subst h
        exact z_ret_z S hr hlk (Or.inl rfl) hw dX8_arePartedBy_63
set_option maxHeartbeats 4000000 in
set_option maxRecDepth 100000 in
theorem c_X8_arePartedBy (l : Launch) {G : ZG} (hG : zOk G) (t0 : Nat) (v1 : Int32) (v2 : Int32) (v3 : Int32) (k0 : zk G t0 = 18) (M : ZM) (res : Int32) (h : f_X8_arePartedBy t0 v1 v2 v3 M = some res) : zCt l yX8_arePartedBy cX8_arePartedBy 9 (Option.some FieldType.boolean) 1 G [.ref (za G t0), .int v1, .int v2, .int v3] M (some (.int res)) M := by
  refine zCt.mk (by decide +kernel) (Nat.le_of_ble_eq_true rfl) ?_
  intro p e s m args below meth c A H locs ls S hr hlk hw hl
  have S : zX p (zR 1) s m args c 0 0 cX8_arePartedBy 9 RX8 := S
  have hx := S.1.1
  have hb := S.1.2.1
  have hown := S.1.2.2.2.1
  have hts := S.1.2.2.2.2
  have hl : lv_has ls 9 [(0, .ref (za G t0)), (1, .int v1), (2, .int v2), (3, .int v3)] := hl
  unfold f_X8_arePartedBy at h
  refine lv_iconst (v := 0) hx hb dX8_arePartedBy_0 (by decide) ?_
  refine lv_istore (lv' := [(4, .int 0), (0, .ref (za G t0)), (1, .int v1), (2, .int v2), (3, .int v3)]) hx hb dX8_arePartedBy_1 hl (by decide) rfl (fun ls hl => ?_)
  refine lv_iconst (v := 0) hx hb dX8_arePartedBy_3 (by decide) ?_
  refine lv_istore (lv' := [(5, .int 0), (4, .int 0), (0, .ref (za G t0)), (1, .int v1), (2, .int v2), (3, .int v3)]) hx hb dX8_arePartedBy_4 hl (by decide) rfl (fun ls hl => ?_)
  refine w_X8_arePartedBy_6 hG S hr hlk t0 v1 v2 v3 k0 M (fun h H locs ls hw hl => ?_) zN 0 0 h H locs ls hw (lv_sub hl [2, 3, 4, 5, 1, 0] rfl)
  refine lv_iconst (v := 1) hx hb dX8_arePartedBy_77 (by decide) ?_
  have h := Option.some.inj h
  subst h
  exact z_ret_z S hr hlk (Or.inr rfl) hw dX8_arePartedBy_78
def f_X8_isThirdFor_4 (t0 : Nat) (v1 : Int32) (v2 : Int32) (M : ZM) (K : Option Int32) : Nat → Int32 → Option Int32
  | 0, _ => none
  | n + 1, v3 =>
    if 32 ≤ v3 then (
      K) else (
      (f_X8_arePartedBy t0 v1 v2 v3 M).bind fun (q3 : Int32) =>
      if q3 = 0 then (
        zlet (v3 + 1) fun (x5 : Int32) =>
        f_X8_isThirdFor_4 t0 v1 v2 M K n x5) else (
        some (1 : Int32)))

def f_X8_isThirdFor (t0 : Nat) (v1 : Int32) (v2 : Int32) (M : ZM) : Option Int32 :=
  zlet (v2 + 1) fun (x1 : Int32) =>
  f_X8_isThirdFor_4 t0 v1 v2 M (
    some (0 : Int32)) zN x1
set_option maxHeartbeats 4000000 in
set_option maxRecDepth 100000 in
theorem w_X8_isThirdFor_4 {G : ZG} (hG : zOk G) (S : zX p (zR 2) s m args c 0 0 cX8_isThirdFor 4 RX8) (hr : meth.sig.returnType = (Option.some FieldType.boolean)) (hlk : meth.locks = false) (t0 : Nat) (v1 : Int32) (v2 : Int32) (k0 : zk G t0 = 18) (M : ZM)  {K : Option Int32} {res : Int32} (hK : K = some res → ∀ (H : Heap) (locs : List Loc) (ls : Array Slot), zWd G A s H locs M → lv_has ls 4 [] → W p l e (zR 2) s m args below meth c H locs 0 0 (zQ below G A (some (.int res)) M args s) (F0 m 28 ls [])) : ∀ (n : Nat) (v3 : Int32), f_X8_isThirdFor_4 t0 v1 v2 M K n v3 = some res → ∀ (H : Heap) (locs : List Loc) (ls : Array Slot), zWd G A s H locs M → lv_has ls 4 [(0, .ref (za G t0)), (1, .int v1), (2, .int v2), (3, .int v3)] → W p l e (zR 2) s m args below meth c H locs 0 0 (zQ below G A (some (.int res)) M args s) (F0 m 4 ls []) := by
  have hx := S.1.1
  have hb := S.1.2.1
  have hown := S.1.2.2.2.1
  have hts := S.1.2.2.2.2
  intro n
  induction n with
  | zero =>
    intro v3 h
    rw [f_X8_isThirdFor_4] at h
    cases h
  | succ n ih =>
    intro v3 h H locs ls hw hl
    rw [f_X8_isThirdFor_4] at h
    refine lv_iload_n hx hb dX8_isThirdFor_4 rfl (lv_at hl 3 rfl) ?_
    refine lv_bipush (v := 32) hx hb dX8_isThirdFor_5 (by decide) ?_
    refine lv_icmp_ge (tgt := 28) hx hb dX8_isThirdFor_7 (by decide) (fun c2 => ?_) (fun c2 => ?_)
    · have h := zif_t h c2
      exact hK  h H locs ls hw (lv_sub hl [] rfl)
    · have h := zif_f h c2
      refine lv_aload_n hx hb dX8_isThirdFor_10 rfl (lv_at hl 0 rfl) ?_
      refine lv_iload_n hx hb dX8_isThirdFor_11 rfl (lv_at hl 1 rfl) ?_
      refine lv_iload_n hx hb dX8_isThirdFor_12 rfl (lv_at hl 2 rfl) ?_
      refine lv_iload_n hx hb dX8_isThirdFor_13 rfl (lv_at hl 3 rfl) ?_
      obtain ⟨q3, eq3, h⟩ := Option.bind_eq_some_iff.mp h
      refine z_callV (ci := 8) (As := [.int v1, .int v2, .int v3]) (rest := []) (rv := (some (.int q3))) (M1 := M) S hw (c_X8_arePartedBy l hG t0 v1 v2 v3 k0 M q3 eq3) mv_X8_arePartedBy lk_X8_40 k0 ⟨_, _, rfl⟩ (by decide) rfl rfl (Nat.le_of_ble_eq_true rfl) ⟨Nat.le_of_ble_eq_true rfl, Nat.le_of_ble_eq_true rfl⟩ hl.1 dX8_isThirdFor_14 (fun H locs hw => ?_)
      refine lv_if_eq (tgt := 22) hx hb dX8_isThirdFor_17 (by decide) (fun c4 => ?_) (fun c4 => ?_)
      · have h := zif_t h c4
        obtain ⟨x5, ex5, h⟩ := zlet_ex h
        refine lv_iinc (v := x5) (lv' := [(3, .int x5), (0, .ref (za G t0)), (1, .int v1), (2, .int v2)]) hx hb dX8_isThirdFor_22 hl (k := 3) rfl (by rw [ex5]; rfl) (by decide) rfl (fun ls hl => ?_)
        refine lv_goto (tgt := 4) hx hb dX8_isThirdFor_25 (by decide) ?_
        exact ih x5 h H locs ls hw (lv_sub hl [1, 2, 3, 0] rfl)
      · have h := zif_f h c4
        refine lv_iconst (v := 1) hx hb dX8_isThirdFor_20 (by decide) ?_
        have h := Option.some.inj h
        subst h
        exact z_ret_z S hr hlk (Or.inr rfl) hw dX8_isThirdFor_21
set_option maxHeartbeats 4000000 in
set_option maxRecDepth 100000 in
theorem c_X8_isThirdFor (l : Launch) {G : ZG} (hG : zOk G) (t0 : Nat) (v1 : Int32) (v2 : Int32) (k0 : zk G t0 = 18) (M : ZM) (res : Int32) (h : f_X8_isThirdFor t0 v1 v2 M = some res) : zCt l yX8_isThirdFor cX8_isThirdFor 4 (Option.some FieldType.boolean) 2 G [.ref (za G t0), .int v1, .int v2] M (some (.int res)) M := by
  refine zCt.mk (by decide +kernel) (Nat.le_of_ble_eq_true rfl) ?_
  intro p e s m args below meth c A H locs ls S hr hlk hw hl
  have S : zX p (zR 2) s m args c 0 0 cX8_isThirdFor 4 RX8 := S
  have hx := S.1.1
  have hb := S.1.2.1
  have hown := S.1.2.2.2.1
  have hts := S.1.2.2.2.2
  have hl : lv_has ls 4 [(0, .ref (za G t0)), (1, .int v1), (2, .int v2)] := hl
  unfold f_X8_isThirdFor at h
  refine lv_iload_n hx hb dX8_isThirdFor_0 rfl (lv_at hl 2 rfl) ?_
  refine lv_iconst (v := 1) hx hb dX8_isThirdFor_1 (by decide) ?_
  refine lv_iadd hx hb dX8_isThirdFor_2 ?_
  obtain ⟨x1, ex1, h⟩ := zlet_ex h
  refine lv_topiE ex1 ?_
  refine lv_istore_n (lv' := [(3, .int x1), (0, .ref (za G t0)), (1, .int v1), (2, .int v2)]) hx hb dX8_isThirdFor_3 rfl hl (by decide) rfl (fun ls hl => ?_)
  refine w_X8_isThirdFor_4 hG S hr hlk t0 v1 v2 k0 M (fun h H locs ls hw hl => ?_) zN x1 h H locs ls hw (lv_sub hl [1, 2, 3, 0] rfl)
  refine lv_iconst (v := 0) hx hb dX8_isThirdFor_28 (by decide) ?_
  have h := Option.some.inj h
  subst h
  exact z_ret_z S hr hlk (Or.inl rfl) hw dX8_isThirdFor_29
def f_X8_fewestCases_49 (t0 : Nat) (v2 : Int32) (M : ZM) (K : Int32 → Option Int32) : Nat → Int32 → Int32 → Option Int32
  | 0, _, _ => none
  | n + 1, v1, v3 =>
    if 32 ≤ v3 then (
      K v1) else (
      if v1 = 2 then (
        K v1) else (
        (f_X8_arePartedBy t0 v2 v3 v3 M).bind fun (q9 : Int32) =>
        if q9 = 0 then (
          if v1 = (-9) then (
            (f_X8_isThirdFor t0 v2 v3 M).bind fun (q13 : Int32) =>
            if q13 = 0 then (
              zlet (v3 + 1) fun (x15 : Int32) =>
              f_X8_fewestCases_49 t0 v2 M K n v1 x15) else (
              zlet (v3 + 1) fun (x16 : Int32) =>
              f_X8_fewestCases_49 t0 v2 M K n 3 x16)) else (
            zlet (v3 + 1) fun (x12 : Int32) =>
            f_X8_fewestCases_49 t0 v2 M K n v1 x12)) else (
          zlet (v3 + 1) fun (x17 : Int32) =>
          f_X8_fewestCases_49 t0 v2 M K n 2 x17)))

def f_X8_fewestCases_27 (t0 : Nat) (M : ZM) (K : Int32 → Option Int32) : Nat → Int32 → Int32 → Option Int32
  | 0, _, _ => none
  | n + 1, v1, v2 =>
    if 32 ≤ v2 then (
      K v1) else (
      (f_X8_arePartedBy t0 v2 v2 v2 M).bind fun (q4 : Int32) =>
      if q4 = 0 then (
        zlet (v2 + 1) fun (x6 : Int32) =>
        f_X8_fewestCases_49 t0 v2 M (fun (v1 : Int32) =>
          zlet (v2 + 1) fun (x18 : Int32) =>
          f_X8_fewestCases_27 t0 M K n v1 x18) zN v1 x6) else (
        some (1 : Int32)))

def f_X8_fewestCases (t0 : Nat) (M : ZM) : Option Int32 :=
  if 1 < (M.1 t0 1) then (
    if (M.1 t0 1) ≤ 8 then (
      f_X8_fewestCases_27 t0 M (fun (v1 : Int32) =>
        some v1) zN (-9) 0) else (
      some ((-9) : Int32))) else (
    some (0 : Int32))
set_option maxHeartbeats 4000000 in
set_option maxRecDepth 100000 in
theorem w_X8_fewestCases_49 {G : ZG} (hG : zOk G) (S : zX p (zR 3) s m args c 0 0 cX8_fewestCases 4 RX8) (hr : meth.sig.returnType = (Option.some FieldType.int)) (hlk : meth.locks = false) (t0 : Nat) (v2 : Int32) (k0 : zk G t0 = 18) (M : ZM)  {K : Int32 → Option Int32} {res : Int32} (hK : ∀ (v1 : Int32), K v1 = some res → ∀ (H : Heap) (locs : List Loc) (ls : Array Slot), zWd G A s H locs M → lv_has ls 4 [(0, .ref (za G t0)), (1, .int v1), (2, .int v2)] → W p l e (zR 3) s m args below meth c H locs 0 0 (zQ below G A (some (.int res)) M args s) (F0 m 98 ls [])) : ∀ (n : Nat) (v1 : Int32) (v3 : Int32), f_X8_fewestCases_49 t0 v2 M K n v1 v3 = some res → ∀ (H : Heap) (locs : List Loc) (ls : Array Slot), zWd G A s H locs M → lv_has ls 4 [(0, .ref (za G t0)), (1, .int v1), (2, .int v2), (3, .int v3)] → W p l e (zR 3) s m args below meth c H locs 0 0 (zQ below G A (some (.int res)) M args s) (F0 m 49 ls []) := by
  have hx := S.1.1
  have hb := S.1.2.1
  have hown := S.1.2.2.2.1
  have hts := S.1.2.2.2.2
  intro n
  induction n with
  | zero =>
    intro v1 v3 h
    rw [f_X8_fewestCases_49] at h
    cases h
  | succ n ih =>
    intro v1 v3 h H locs ls hw hl
    rw [f_X8_fewestCases_49] at h
    refine lv_iload_n hx hb dX8_fewestCases_49 rfl (lv_at hl 3 rfl) ?_
    refine lv_bipush (v := 32) hx hb dX8_fewestCases_50 (by decide) ?_
    refine lv_icmp_ge (tgt := 98) hx hb dX8_fewestCases_52 (by decide) (fun c7 => ?_) (fun c7 => ?_)
    · have h := zif_t h c7
      exact hK v1 h H locs ls hw (lv_sub hl [0, 1, 2] rfl)
    · have h := zif_f h c7
      refine lv_iload_n hx hb dX8_fewestCases_55 rfl (lv_at hl 1 rfl) ?_
      refine lv_iconst (v := 2) hx hb dX8_fewestCases_56 (by decide) ?_
      refine lv_icmp_eq (tgt := 98) hx hb dX8_fewestCases_57 (by decide) (fun c8 => ?_) (fun c8 => ?_)
      · have h := zif_t h c8
        exact hK v1 h H locs ls hw (lv_sub hl [0, 1, 2] rfl)
      · have h := zif_f h c8
        refine lv_aload_n hx hb dX8_fewestCases_60 rfl (lv_at hl 0 rfl) ?_
        refine lv_iload_n hx hb dX8_fewestCases_61 rfl (lv_at hl 2 rfl) ?_
        refine lv_iload_n hx hb dX8_fewestCases_62 rfl (lv_at hl 3 rfl) ?_
        refine lv_iload_n hx hb dX8_fewestCases_63 rfl (lv_at hl 3 rfl) ?_
        obtain ⟨q9, eq9, h⟩ := Option.bind_eq_some_iff.mp h
        refine z_callV (ci := 8) (As := [.int v2, .int v3, .int v3]) (rest := []) (rv := (some (.int q9))) (M1 := M) S hw (c_X8_arePartedBy l hG t0 v2 v3 v3 k0 M q9 eq9) mv_X8_arePartedBy lk_X8_40 k0 ⟨_, _, rfl⟩ (by decide) rfl rfl (Nat.le_of_ble_eq_true rfl) ⟨Nat.le_of_ble_eq_true rfl, Nat.le_of_ble_eq_true rfl⟩ hl.1 dX8_fewestCases_64 (fun H locs hw => ?_)
        refine lv_if_eq (tgt := 75) hx hb dX8_fewestCases_67 (by decide) (fun c10 => ?_) (fun c10 => ?_)
        · have h := zif_t h c10
          refine lv_iload_n hx hb dX8_fewestCases_75 rfl (lv_at hl 1 rfl) ?_
          refine lv_bipush (v := (-9)) hx hb dX8_fewestCases_76 (by decide) ?_
          refine lv_icmp_ne (tgt := 92) hx hb dX8_fewestCases_78 (by decide) (fun c11 => ?_) (fun c11 => ?_)
          · have h := zif_f h c11
            obtain ⟨x12, ex12, h⟩ := zlet_ex h
            refine lv_iinc (v := x12) (lv' := [(3, .int x12), (0, .ref (za G t0)), (1, .int v1), (2, .int v2)]) hx hb dX8_fewestCases_92 hl (k := 3) rfl (by rw [ex12]; rfl) (by decide) rfl (fun ls hl => ?_)
            refine lv_goto (tgt := 49) hx hb dX8_fewestCases_95 (by decide) ?_
            exact ih v1 x12 h H locs ls hw (lv_sub hl [1, 2, 3, 0] rfl)
          · have h := zif_t h c11
            refine lv_aload_n hx hb dX8_fewestCases_81 rfl (lv_at hl 0 rfl) ?_
            refine lv_iload_n hx hb dX8_fewestCases_82 rfl (lv_at hl 2 rfl) ?_
            refine lv_iload_n hx hb dX8_fewestCases_83 rfl (lv_at hl 3 rfl) ?_
            obtain ⟨q13, eq13, h⟩ := Option.bind_eq_some_iff.mp h
            refine z_callV (ci := 8) (As := [.int v2, .int v3]) (rest := []) (rv := (some (.int q13))) (M1 := M) S hw (c_X8_isThirdFor l hG t0 v2 v3 k0 M q13 eq13) mv_X8_isThirdFor lk_X8_44 k0 ⟨_, _, rfl⟩ (by decide) rfl rfl (Nat.le_of_ble_eq_true rfl) ⟨Nat.le_of_ble_eq_true rfl, Nat.le_of_ble_eq_true rfl⟩ hl.1 dX8_fewestCases_84 (fun H locs hw => ?_)
            refine lv_if_eq (tgt := 92) hx hb dX8_fewestCases_87 (by decide) (fun c14 => ?_) (fun c14 => ?_)
            · have h := zif_t h c14
              obtain ⟨x15, ex15, h⟩ := zlet_ex h
              refine lv_iinc (v := x15) (lv' := [(3, .int x15), (0, .ref (za G t0)), (1, .int v1), (2, .int v2)]) hx hb dX8_fewestCases_92 hl (k := 3) rfl (by rw [ex15]; rfl) (by decide) rfl (fun ls hl => ?_)
              refine lv_goto (tgt := 49) hx hb dX8_fewestCases_95 (by decide) ?_
              exact ih v1 x15 h H locs ls hw (lv_sub hl [1, 2, 3, 0] rfl)
            · have h := zif_f h c14
              refine lv_iconst (v := 3) hx hb dX8_fewestCases_90 (by decide) ?_
              refine lv_istore_n (lv' := [(1, .int 3), (0, .ref (za G t0)), (2, .int v2), (3, .int v3)]) hx hb dX8_fewestCases_91 rfl hl (by decide) rfl (fun ls hl => ?_)
              obtain ⟨x16, ex16, h⟩ := zlet_ex h
              refine lv_iinc (v := x16) (lv' := [(3, .int x16), (1, .int 3), (0, .ref (za G t0)), (2, .int v2)]) hx hb dX8_fewestCases_92 hl (k := 3) rfl (by rw [ex16]; rfl) (by decide) rfl (fun ls hl => ?_)
              refine lv_goto (tgt := 49) hx hb dX8_fewestCases_95 (by decide) ?_
              exact ih 3 x16 h H locs ls hw (lv_sub hl [2, 1, 3, 0] rfl)
        · have h := zif_f h c10
          refine lv_iconst (v := 2) hx hb dX8_fewestCases_70 (by decide) ?_
          refine lv_istore_n (lv' := [(1, .int 2), (0, .ref (za G t0)), (2, .int v2), (3, .int v3)]) hx hb dX8_fewestCases_71 rfl hl (by decide) rfl (fun ls hl => ?_)
          refine lv_goto (tgt := 92) hx hb dX8_fewestCases_72 (by decide) ?_
          obtain ⟨x17, ex17, h⟩ := zlet_ex h
          refine lv_iinc (v := x17) (lv' := [(3, .int x17), (1, .int 2), (0, .ref (za G t0)), (2, .int v2)]) hx hb dX8_fewestCases_92 hl (k := 3) rfl (by rw [ex17]; rfl) (by decide) rfl (fun ls hl => ?_)
          refine lv_goto (tgt := 49) hx hb dX8_fewestCases_95 (by decide) ?_
          exact ih 2 x17 h H locs ls hw (lv_sub hl [2, 1, 3, 0] rfl)
set_option maxHeartbeats 4000000 in
set_option maxRecDepth 100000 in
theorem w_X8_fewestCases_27 {G : ZG} (hG : zOk G) (S : zX p (zR 3) s m args c 0 0 cX8_fewestCases 4 RX8) (hr : meth.sig.returnType = (Option.some FieldType.int)) (hlk : meth.locks = false) (t0 : Nat) (k0 : zk G t0 = 18) (M : ZM)  {K : Int32 → Option Int32} {res : Int32} (hK : ∀ (v1 : Int32), K v1 = some res → ∀ (H : Heap) (locs : List Loc) (ls : Array Slot), zWd G A s H locs M → lv_has ls 4 [(1, .int v1)] → W p l e (zR 3) s m args below meth c H locs 0 0 (zQ below G A (some (.int res)) M args s) (F0 m 104 ls [])) : ∀ (n : Nat) (v1 : Int32) (v2 : Int32), f_X8_fewestCases_27 t0 M K n v1 v2 = some res → ∀ (H : Heap) (locs : List Loc) (ls : Array Slot), zWd G A s H locs M → lv_has ls 4 [(0, .ref (za G t0)), (1, .int v1), (2, .int v2)] → W p l e (zR 3) s m args below meth c H locs 0 0 (zQ below G A (some (.int res)) M args s) (F0 m 27 ls []) := by
  have hx := S.1.1
  have hb := S.1.2.1
  have hown := S.1.2.2.2.1
  have hts := S.1.2.2.2.2
  intro n
  induction n with
  | zero =>
    intro v1 v2 h
    rw [f_X8_fewestCases_27] at h
    cases h
  | succ n ih =>
    intro v1 v2 h H locs ls hw hl
    rw [f_X8_fewestCases_27] at h
    refine lv_iload_n hx hb dX8_fewestCases_27 rfl (lv_at hl 2 rfl) ?_
    refine lv_bipush (v := 32) hx hb dX8_fewestCases_28 (by decide) ?_
    refine lv_icmp_ge (tgt := 104) hx hb dX8_fewestCases_30 (by decide) (fun c3 => ?_) (fun c3 => ?_)
    · have h := zif_t h c3
      exact hK v1 h H locs ls hw (lv_sub hl [1] rfl)
    · have h := zif_f h c3
      refine lv_aload_n hx hb dX8_fewestCases_33 rfl (lv_at hl 0 rfl) ?_
      refine lv_iload_n hx hb dX8_fewestCases_34 rfl (lv_at hl 2 rfl) ?_
      refine lv_iload_n hx hb dX8_fewestCases_35 rfl (lv_at hl 2 rfl) ?_
      refine lv_iload_n hx hb dX8_fewestCases_36 rfl (lv_at hl 2 rfl) ?_
      obtain ⟨q4, eq4, h⟩ := Option.bind_eq_some_iff.mp h
      refine z_callV (ci := 8) (As := [.int v2, .int v2, .int v2]) (rest := []) (rv := (some (.int q4))) (M1 := M) S hw (c_X8_arePartedBy l hG t0 v2 v2 v2 k0 M q4 eq4) mv_X8_arePartedBy lk_X8_40 k0 ⟨_, _, rfl⟩ (by decide) rfl rfl (Nat.le_of_ble_eq_true rfl) ⟨Nat.le_of_ble_eq_true rfl, Nat.le_of_ble_eq_true rfl⟩ hl.1 dX8_fewestCases_37 (fun H locs hw => ?_)
      refine lv_if_eq (tgt := 45) hx hb dX8_fewestCases_40 (by decide) (fun c5 => ?_) (fun c5 => ?_)
      · have h := zif_t h c5
        refine lv_iload_n hx hb dX8_fewestCases_45 rfl (lv_at hl 2 rfl) ?_
        refine lv_iconst (v := 1) hx hb dX8_fewestCases_46 (by decide) ?_
        refine lv_iadd hx hb dX8_fewestCases_47 ?_
        obtain ⟨x6, ex6, h⟩ := zlet_ex h
        refine lv_topiE ex6 ?_
        refine lv_istore_n (lv' := [(3, .int x6), (0, .ref (za G t0)), (1, .int v1), (2, .int v2)]) hx hb dX8_fewestCases_48 rfl hl (by decide) rfl (fun ls hl => ?_)
        refine w_X8_fewestCases_49 hG S hr hlk t0 v2 k0 M (fun v1 h H locs ls hw hl => ?_) zN v1 x6 h H locs ls hw (lv_sub hl [1, 2, 3, 0] rfl)
        obtain ⟨x18, ex18, h⟩ := zlet_ex h
        refine lv_iinc (v := x18) (lv' := [(2, .int x18), (0, .ref (za G t0)), (1, .int v1)]) hx hb dX8_fewestCases_98 hl (k := 2) rfl (by rw [ex18]; rfl) (by decide) rfl (fun ls hl => ?_)
        refine lv_goto (tgt := 27) hx hb dX8_fewestCases_101 (by decide) ?_
        exact ih v1 x18 h H locs ls hw (lv_sub hl [1, 2, 0] rfl)
      · have h := zif_f h c5
        refine lv_iconst (v := 1) hx hb dX8_fewestCases_43 (by decide) ?_
        have h := Option.some.inj h
        subst h
        exact z_ret_i S hr hlk hw dX8_fewestCases_44
set_option maxHeartbeats 4000000 in
set_option maxRecDepth 100000 in
theorem c_X8_fewestCases (l : Launch) {G : ZG} (hG : zOk G) (t0 : Nat) (k0 : zk G t0 = 18) (M : ZM) (res : Int32) (h : f_X8_fewestCases t0 M = some res) : zCt l yX8_fewestCases cX8_fewestCases 4 (Option.some FieldType.int) 3 G [.ref (za G t0)] M (some (.int res)) M := by
  refine zCt.mk (by decide +kernel) (Nat.le_of_ble_eq_true rfl) ?_
  intro p e s m args below meth c A H locs ls S hr hlk hw hl
  have S : zX p (zR 3) s m args c 0 0 cX8_fewestCases 4 RX8 := S
  have hx := S.1.1
  have hb := S.1.2.1
  have hown := S.1.2.2.2.1
  have hts := S.1.2.2.2.2
  have hl : lv_has ls 4 [(0, .ref (za G t0))] := hl
  unfold f_X8_fewestCases at h
  refine lv_aload_n hx hb dX8_fewestCases_0 rfl (lv_at hl 0 rfl) ?_
  refine z_getI S hw k0 fl_X8_15 rfl dX8_fewestCases_1 ?_
  refine lv_iconst (v := 1) hx hb dX8_fewestCases_4 (by decide) ?_
  refine lv_icmp_gt (tgt := 10) hx hb dX8_fewestCases_5 (by decide) (fun c1 => ?_) (fun c1 => ?_)
  · have h := zif_t h c1
    refine lv_aload_n hx hb dX8_fewestCases_10 rfl (lv_at hl 0 rfl) ?_
    refine z_getI S hw k0 fl_X8_15 rfl dX8_fewestCases_11 ?_
    refine lv_bipush (v := 8) hx hb dX8_fewestCases_14 (by decide) ?_
    refine lv_icmp_le (tgt := 22) hx hb dX8_fewestCases_16 (by decide) (fun c2 => ?_) (fun c2 => ?_)
    · have h := zif_t h c2
      refine lv_bipush (v := (-9)) hx hb dX8_fewestCases_22 (by decide) ?_
      refine lv_istore_n (lv' := [(1, .int (-9)), (0, .ref (za G t0))]) hx hb dX8_fewestCases_24 rfl hl (by decide) rfl (fun ls hl => ?_)
      refine lv_iconst (v := 0) hx hb dX8_fewestCases_25 (by decide) ?_
      refine lv_istore_n (lv' := [(2, .int 0), (1, .int (-9)), (0, .ref (za G t0))]) hx hb dX8_fewestCases_26 rfl hl (by decide) rfl (fun ls hl => ?_)
      refine w_X8_fewestCases_27 hG S hr hlk t0 k0 M (fun v1 h H locs ls hw hl => ?_) zN (-9) 0 h H locs ls hw (lv_sub hl [2, 1, 0] rfl)
      refine lv_iload_n hx hb dX8_fewestCases_104 rfl (lv_at hl 0 rfl) ?_
      have h := Option.some.inj h
      subst h
      exact z_ret_i S hr hlk hw dX8_fewestCases_105
    · have h := zif_f h c2
      refine lv_bipush (v := (-9)) hx hb dX8_fewestCases_19 (by decide) ?_
      have h := Option.some.inj h
      subst h
      exact z_ret_i S hr hlk hw dX8_fewestCases_21
  · have h := zif_f h c1
    refine lv_iconst (v := 0) hx hb dX8_fewestCases_8 (by decide) ?_
    have h := Option.some.inj h
    subst h
    exact z_ret_i S hr hlk hw dX8_fewestCases_9
def f_X11_fewest (t0 : Nat) (M : ZM) : Option (Int32 × ZM) :=
  (f_X11_spent t0 M).bind fun (q1 : (Int32 × ZM)) =>
  if q1.1 = 0 then (
    (f_X8_gather (zr t0 6) (zr t0 5) q1.2).bind fun (q3 : ZM) =>
    (f_X8_fewestCases (zr t0 6) q3).bind fun (q4 : Int32) =>
    some (q4, q3)) else (
    zlet (f_X11_refuse t0 (-5) q1.2) fun (q5 : (Int32 × ZM)) =>
    some (q5.1, q5.2))
set_option maxHeartbeats 4000000 in
set_option maxRecDepth 100000 in
theorem c_X11_fewest (l : Launch) {G : ZG} (hG : zOk G) (t0 : Nat) (k0 : zk G t0 = 21) (M : ZM) (res : (Int32 × ZM)) (h : f_X11_fewest t0 M = some res) : zCt l yX11_fewest cX11_fewest 1 (Option.some FieldType.int) 6 G [.ref (za G t0)] M (some (.int res.1)) res.2 := by
  refine zCt.mk (by decide +kernel) (Nat.le_of_ble_eq_true rfl) ?_
  intro p e s m args below meth c A H locs ls S hr hlk hw hl
  have S : zX p (zR 6) s m args c 0 0 cX11_fewest 1 RX11 := S
  have hx := S.1.1
  have hb := S.1.2.1
  have hown := S.1.2.2.2.1
  have hts := S.1.2.2.2.2
  have hl : lv_has ls 1 [(0, .ref (za G t0))] := hl
  unfold f_X11_fewest at h
  refine lv_aload_n hx hb dX11_fewest_0 rfl (lv_at hl 0 rfl) ?_
  obtain ⟨q1, eq1, h⟩ := Option.bind_eq_some_iff.mp h
  refine z_callV (ci := 11) (As := []) (rest := []) (rv := (some (.int q1.1))) (M1 := q1.2) S hw (c_X11_spent l hG t0 k0 M q1 eq1) mv_X11_spent lk_X11_126 k0 ⟨_, _, rfl⟩ (by decide) rfl rfl (Nat.le_of_ble_eq_true rfl) ⟨Nat.le_of_ble_eq_true rfl, Nat.le_of_ble_eq_true rfl⟩ hl.1 dX11_fewest_1 (fun H locs hw => ?_)
  refine lv_if_eq (tgt := 14) hx hb dX11_fewest_4 (by decide) (fun c2 => ?_) (fun c2 => ?_)
  · have h := zif_t h c2
    refine lv_aload_n hx hb dX11_fewest_14 rfl (lv_at hl 0 rfl) ?_
    refine z_getR S hw k0 fl_X11_46 rfl dX11_fewest_15 ?_
    refine lv_aload_n hx hb dX11_fewest_18 rfl (lv_at hl 0 rfl) ?_
    refine z_getR S hw k0 fl_X11_39 rfl dX11_fewest_19 ?_
    obtain ⟨q3, eq3, h⟩ := Option.bind_eq_some_iff.mp h
    refine z_callV (ci := 8) (As := [.ref (za G (zr t0 5))]) (rest := []) (rv := none) (M1 := q3) S hw (c_X8_gather l hG (zr t0 6) (zr t0 5) (kr_11_6 hG k0) (kr_11_5 hG k0) q1.2 q3 eq3) mv_X8_gather lk_X11_169 (kr_11_6 hG k0) ⟨_, _, rfl⟩ (by decide) rfl rfl (Nat.le_of_ble_eq_true rfl) ⟨Nat.le_of_ble_eq_true rfl, Nat.le_of_ble_eq_true rfl⟩ hl.1 dX11_fewest_22 (fun H locs hw => ?_)
    refine lv_aload_n hx hb dX11_fewest_25 rfl (lv_at hl 0 rfl) ?_
    refine z_getR S hw k0 fl_X11_46 rfl dX11_fewest_26 ?_
    obtain ⟨q4, eq4, h⟩ := Option.bind_eq_some_iff.mp h
    refine z_callV (ci := 8) (As := []) (rest := []) (rv := (some (.int q4))) (M1 := q3) S hw (c_X8_fewestCases l hG (zr t0 6) (kr_11_6 hG k0) q3 q4 eq4) mv_X8_fewestCases lk_X11_216 (kr_11_6 hG k0) ⟨_, _, rfl⟩ (by decide) rfl rfl (Nat.le_of_ble_eq_true rfl) ⟨Nat.le_of_ble_eq_true rfl, Nat.le_of_ble_eq_true rfl⟩ hl.1 dX11_fewest_29 (fun H locs hw => ?_)
    have h := Option.some.inj h
    subst h
    exact z_ret_i S hr hlk hw dX11_fewest_32
  · have h := zif_f h c2
    refine lv_aload_n hx hb dX11_fewest_7 rfl (lv_at hl 0 rfl) ?_
    refine lv_bipush (v := (-5)) hx hb dX11_fewest_8 (by decide) ?_
    obtain ⟨q5, eq5, h⟩ := zlet_ex h
    refine z_callV (ci := 11) (As := [.int (-5)]) (rest := []) (rv := (some (.int q5.1))) (M1 := q5.2) S hw (c_X11_refuse l hG t0 (-5) k0 q1.2 q5 eq5.symm) mv_X11_refuse lk_X11_100 k0 ⟨_, _, rfl⟩ (by decide) rfl rfl (Nat.le_of_ble_eq_true rfl) ⟨Nat.le_of_ble_eq_true rfl, Nat.le_of_ble_eq_true rfl⟩ hl.1 dX11_fewest_10 (fun H locs hw => ?_)
    have h := Option.some.inj h
    subst h
    exact z_ret_i S hr hlk hw dX11_fewest_13
def f_X10_bracketed_7 (t0 : Nat) (t1 : Nat) (v2 : Int32) (v3 : Int32) (K : ZM → Option ZM) : Nat → Int32 → ZM → Option ZM
  | 0, _, _ => none
  | n + 1, v4, M =>
    zlet (fun (v4 : Int32) (M : ZM) =>
      zlet (f_X10_at t1 v4 M) fun (q2 : Int32) =>
      zlet (f_X10_add t0 q2 M) fun (q3 : ZM) =>
      if v4 = v3 then (
        zlet (f_X10_add t0 41 q3) fun (q6 : ZM) =>
        zlet (v4 + 1) fun (x7 : Int32) =>
        f_X10_bracketed_7 t0 t1 v2 v3 K n x7 q6) else (
        zlet (v4 + 1) fun (x5 : Int32) =>
        f_X10_bracketed_7 t0 t1 v2 v3 K n x5 q3)) fun J28 =>
    if (M.1 t1 1) ≤ v4 then (
      K M) else (
      if v4 = v2 then (
        zlet (f_X10_add t0 40 M) fun (q10 : ZM) =>
        J28 v4 q10) else (
        J28 v4 M))

def f_X10_bracketed (t0 : Nat) (t1 : Nat) (v2 : Int32) (v3 : Int32) (M : ZM) : Option ZM :=
  zlet (f_X10_clear t0 M) fun (q1 : ZM) =>
  f_X10_bracketed_7 t0 t1 v2 v3 (fun (M : ZM) =>
    some M) zN 0 q1
set_option maxHeartbeats 4000000 in
set_option maxRecDepth 100000 in
theorem w_X10_bracketed_7 {G : ZG} (hG : zOk G) (S : zX p (zR 2) s m args c 0 0 cX10_bracketed 5 RX10) (hr : meth.sig.returnType = none) (hlk : meth.locks = false) (t0 : Nat) (t1 : Nat) (v2 : Int32) (v3 : Int32) (k0 : zk G t0 = 20) (k1 : zk G t1 = 20)  {K : ZM → Option ZM} {res : ZM} (hK : ∀  (M : ZM), K M = some res → ∀ (H : Heap) (locs : List Loc) (ls : Array Slot), zWd G A s H locs M → lv_has ls 5 [] → W p l e (zR 2) s m args below meth c H locs 0 0 (zQ below G A none res args s) (F0 m 56 ls [])) : ∀ (n : Nat) (v4 : Int32) (M : ZM), f_X10_bracketed_7 t0 t1 v2 v3 K n v4 M = some res → ∀ (H : Heap) (locs : List Loc) (ls : Array Slot), zWd G A s H locs M → lv_has ls 5 [(0, .ref (za G t0)), (1, .ref (za G t1)), (2, .int v2), (3, .int v3), (4, .int v4)] → W p l e (zR 2) s m args below meth c H locs 0 0 (zQ below G A none res args s) (F0 m 7 ls []) := by
  have hx := S.1.1
  have hb := S.1.2.1
  have hown := S.1.2.2.2.1
  have hts := S.1.2.2.2.2
  intro n
  induction n with
  | zero =>
    intro v4 M h
    rw [f_X10_bracketed_7] at h
    cases h
  | succ n ih =>
    intro v4 M h H locs ls hw hl
    rw [f_X10_bracketed_7] at h
    obtain ⟨J28, hJ28, h⟩ := zlet_ex h
    have wJ28 : ∀ (v4 : Int32) (M : ZM), J28 v4 M = some res → ∀ (H : Heap) (locs : List Loc) (ls : Array Slot), zWd G A s H locs M → lv_has ls 5 [(0, .ref (za G t0)), (1, .ref (za G t1)), (2, .int v2), (3, .int v3), (4, .int v4)] → W p l e (zR 2) s m args below meth c H locs 0 0 (zQ below G A none res args s) (F0 m 28 ls []) := by
      intro v4 M h H locs ls hw hl
      subst hJ28
      refine lv_aload_n hx hb dX10_bracketed_28 rfl (lv_at hl 0 rfl) ?_
      refine lv_aload_n hx hb dX10_bracketed_29 rfl (lv_at hl 1 rfl) ?_
      refine lv_iload hx hb dX10_bracketed_30 (lv_at hl 4 rfl) ?_
      obtain ⟨q2, eq2, h⟩ := zlet_ex h
      refine z_callV (ci := 10) (As := [.int v4]) (rest := [.ref (za G t0)]) (rv := (some (.int q2))) (M1 := M) S hw (c_X10_at l hG t1 v4 k1 M q2 eq2.symm) mv_X10_at lk_X10_30 k1 ⟨_, _, rfl⟩ (by decide) rfl rfl (Nat.le_of_ble_eq_true rfl) ⟨Nat.le_of_ble_eq_true rfl, Nat.le_of_ble_eq_true rfl⟩ hl.1 dX10_bracketed_32 (fun H locs hw => ?_)
      obtain ⟨q3, eq3, h⟩ := zlet_ex h
      refine z_callV (ci := 10) (As := [.int q2]) (rest := []) (rv := none) (M1 := q3) S hw (c_X10_add l hG t0 q2 k0 M q3 eq3.symm) mv_X10_add lk_X10_34 k0 ⟨_, _, rfl⟩ (by decide) rfl rfl (Nat.le_of_ble_eq_true rfl) ⟨Nat.le_of_ble_eq_true rfl, Nat.le_of_ble_eq_true rfl⟩ hl.1 dX10_bracketed_35 (fun H locs hw => ?_)
      refine lv_iload hx hb dX10_bracketed_38 (lv_at hl 4 rfl) ?_
      refine lv_iload_n hx hb dX10_bracketed_40 rfl (lv_at hl 3 rfl) ?_
      refine lv_icmp_ne (tgt := 50) hx hb dX10_bracketed_41 (by decide) (fun c4 => ?_) (fun c4 => ?_)
      · have h := zif_f h c4
        obtain ⟨x5, ex5, h⟩ := zlet_ex h
        refine lv_iinc (v := x5) (lv' := [(4, .int x5), (0, .ref (za G t0)), (1, .ref (za G t1)), (2, .int v2), (3, .int v3)]) hx hb dX10_bracketed_50 hl (k := 4) rfl (by rw [ex5]; rfl) (by decide) rfl (fun ls hl => ?_)
        refine lv_goto (tgt := 7) hx hb dX10_bracketed_53 (by decide) ?_
        exact ih x5 q3 h H locs ls hw (lv_sub hl [1, 2, 3, 4, 0] rfl)
      · have h := zif_t h c4
        refine lv_aload_n hx hb dX10_bracketed_44 rfl (lv_at hl 0 rfl) ?_
        refine lv_bipush (v := 41) hx hb dX10_bracketed_45 (by decide) ?_
        obtain ⟨q6, eq6, h⟩ := zlet_ex h
        refine z_callV (ci := 10) (As := [.int 41]) (rest := []) (rv := none) (M1 := q6) S hw (c_X10_add l hG t0 41 k0 q3 q6 eq6.symm) mv_X10_add lk_X10_34 k0 ⟨_, _, rfl⟩ (by decide) rfl rfl (Nat.le_of_ble_eq_true rfl) ⟨Nat.le_of_ble_eq_true rfl, Nat.le_of_ble_eq_true rfl⟩ hl.1 dX10_bracketed_47 (fun H locs hw => ?_)
        obtain ⟨x7, ex7, h⟩ := zlet_ex h
        refine lv_iinc (v := x7) (lv' := [(4, .int x7), (0, .ref (za G t0)), (1, .ref (za G t1)), (2, .int v2), (3, .int v3)]) hx hb dX10_bracketed_50 hl (k := 4) rfl (by rw [ex7]; rfl) (by decide) rfl (fun ls hl => ?_)
        refine lv_goto (tgt := 7) hx hb dX10_bracketed_53 (by decide) ?_
        exact ih x7 q6 h H locs ls hw (lv_sub hl [1, 2, 3, 4, 0] rfl)
    refine lv_iload hx hb dX10_bracketed_7 (lv_at hl 4 rfl) ?_
    refine lv_aload_n hx hb dX10_bracketed_9 rfl (lv_at hl 1 rfl) ?_
    refine z_getI S hw k1 fl_X10_15 rfl dX10_bracketed_10 ?_
    refine lv_icmp_ge (tgt := 56) hx hb dX10_bracketed_13 (by decide) (fun c8 => ?_) (fun c8 => ?_)
    · have h := zif_t h c8
      exact hK M h H locs ls hw (lv_sub hl [] rfl)
    · have h := zif_f h c8
      refine lv_iload hx hb dX10_bracketed_16 (lv_at hl 4 rfl) ?_
      refine lv_iload_n hx hb dX10_bracketed_18 rfl (lv_at hl 2 rfl) ?_
      refine lv_icmp_ne (tgt := 28) hx hb dX10_bracketed_19 (by decide) (fun c9 => ?_) (fun c9 => ?_)
      · have h := zif_f h c9
        exact wJ28 v4 M h H locs ls hw (lv_sub hl [0, 1, 2, 3, 4] rfl)
      · have h := zif_t h c9
        refine lv_aload_n hx hb dX10_bracketed_22 rfl (lv_at hl 0 rfl) ?_
        refine lv_bipush (v := 40) hx hb dX10_bracketed_23 (by decide) ?_
        obtain ⟨q10, eq10, h⟩ := zlet_ex h
        refine z_callV (ci := 10) (As := [.int 40]) (rest := []) (rv := none) (M1 := q10) S hw (c_X10_add l hG t0 40 k0 M q10 eq10.symm) mv_X10_add lk_X10_34 k0 ⟨_, _, rfl⟩ (by decide) rfl rfl (Nat.le_of_ble_eq_true rfl) ⟨Nat.le_of_ble_eq_true rfl, Nat.le_of_ble_eq_true rfl⟩ hl.1 dX10_bracketed_25 (fun H locs hw => ?_)
        exact wJ28 v4 q10 h H locs ls hw (lv_sub hl [0, 1, 2, 3, 4] rfl)
set_option maxHeartbeats 4000000 in
set_option maxRecDepth 100000 in
theorem c_X10_bracketed (l : Launch) {G : ZG} (hG : zOk G) (t0 : Nat) (t1 : Nat) (v2 : Int32) (v3 : Int32) (k0 : zk G t0 = 20) (k1 : zk G t1 = 20) (M : ZM) (res : ZM) (h : f_X10_bracketed t0 t1 v2 v3 M = some res) : zCt l yX10_bracketed cX10_bracketed 5 none 2 G [.ref (za G t0), .ref (za G t1), .int v2, .int v3] M none res := by
  refine zCt.mk (by decide +kernel) (Nat.le_of_ble_eq_true rfl) ?_
  intro p e s m args below meth c A H locs ls S hr hlk hw hl
  have S : zX p (zR 2) s m args c 0 0 cX10_bracketed 5 RX10 := S
  have hx := S.1.1
  have hb := S.1.2.1
  have hown := S.1.2.2.2.1
  have hts := S.1.2.2.2.2
  have hl : lv_has ls 5 [(0, .ref (za G t0)), (1, .ref (za G t1)), (2, .int v2), (3, .int v3)] := hl
  unfold f_X10_bracketed at h
  refine lv_aload_n hx hb dX10_bracketed_0 rfl (lv_at hl 0 rfl) ?_
  obtain ⟨q1, eq1, h⟩ := zlet_ex h
  refine z_callV (ci := 10) (As := []) (rest := []) (rv := none) (M1 := q1) S hw (c_X10_clear l hG t0 k0 M q1 eq1.symm) mv_X10_clear lk_X10_27 k0 ⟨_, _, rfl⟩ (by decide) rfl rfl (Nat.le_of_ble_eq_true rfl) ⟨Nat.le_of_ble_eq_true rfl, Nat.le_of_ble_eq_true rfl⟩ hl.1 dX10_bracketed_1 (fun H locs hw => ?_)
  refine lv_iconst (v := 0) hx hb dX10_bracketed_4 (by decide) ?_
  refine lv_istore (lv' := [(4, .int 0), (0, .ref (za G t0)), (1, .ref (za G t1)), (2, .int v2), (3, .int v3)]) hx hb dX10_bracketed_5 hl (by decide) rfl (fun ls hl => ?_)
  refine w_X10_bracketed_7 hG S hr hlk t0 t1 v2 v3 k0 k1 (fun M h H locs ls hw hl => ?_) zN 0 q1 h H locs ls hw (lv_sub hl [1, 2, 3, 4, 0] rfl)
  have h := Option.some.inj h
  subst h
  exact z_ret_v S hr hlk hw dX10_bracketed_56
def f_X10_mostOpen_6 (t0 : Nat) (M : ZM) (K : Int32 → Option Int32) : Nat → Int32 → Int32 → Int32 → Option Int32
  | 0, _, _, _ => none
  | n + 1, v1, v2, v3 =>
    zlet (fun (v1 : Int32) (v2 : Int32) (v3 : Int32) =>
      zlet (zmax v2 v1) fun (x2 : Int32) =>
      zlet (v3 + 1) fun (x3 : Int32) =>
      f_X10_mostOpen_6 t0 M K n v1 x2 x3) fun J43 =>
    if (M.1 t0 1) ≤ v3 then (
      K v2) else (
      zlet (f_X10_at t0 v3 M) fun (q5 : Int32) =>
      if q5 = 40 then (
        zlet (v1 + 1) fun (x10 : Int32) =>
        J43 x10 v2 v3) else (
        zlet (f_X10_at t0 v3 M) fun (q7 : Int32) =>
        if q7 = 41 then (
          zlet (v1 + (-1)) fun (x9 : Int32) =>
          J43 x9 v2 v3) else (
          J43 v1 v2 v3)))

def f_X10_mostOpen (t0 : Nat) (M : ZM) : Option Int32 :=
  f_X10_mostOpen_6 t0 M (fun (v2 : Int32) =>
    some v2) zN 0 0 0
set_option maxHeartbeats 4000000 in
set_option maxRecDepth 100000 in
theorem w_X10_mostOpen_6 {G : ZG} (hG : zOk G) (S : zX p (zR 2) s m args c 0 0 cX10_mostOpen 4 RX10) (hr : meth.sig.returnType = (Option.some FieldType.int)) (hlk : meth.locks = false) (t0 : Nat) (k0 : zk G t0 = 20) (M : ZM)  {K : Int32 → Option Int32} {res : Int32} (hK : ∀ (v2 : Int32), K v2 = some res → ∀ (H : Heap) (locs : List Loc) (ls : Array Slot), zWd G A s H locs M → lv_has ls 4 [(2, .int v2)] → W p l e (zR 2) s m args below meth c H locs 0 0 (zQ below G A (some (.int res)) M args s) (F0 m 55 ls [])) : ∀ (n : Nat) (v1 : Int32) (v2 : Int32) (v3 : Int32), f_X10_mostOpen_6 t0 M K n v1 v2 v3 = some res → ∀ (H : Heap) (locs : List Loc) (ls : Array Slot), zWd G A s H locs M → lv_has ls 4 [(0, .ref (za G t0)), (1, .int v1), (2, .int v2), (3, .int v3)] → W p l e (zR 2) s m args below meth c H locs 0 0 (zQ below G A (some (.int res)) M args s) (F0 m 6 ls []) := by
  have hx := S.1.1
  have hb := S.1.2.1
  have hown := S.1.2.2.2.1
  have hts := S.1.2.2.2.2
  intro n
  induction n with
  | zero =>
    intro v1 v2 v3 h
    rw [f_X10_mostOpen_6] at h
    cases h
  | succ n ih =>
    intro v1 v2 v3 h H locs ls hw hl
    rw [f_X10_mostOpen_6] at h
    obtain ⟨J43, hJ43, h⟩ := zlet_ex h
    have wJ43 : ∀ (v1 : Int32) (v2 : Int32) (v3 : Int32), J43 v1 v2 v3 = some res → ∀ (H : Heap) (locs : List Loc) (ls : Array Slot), zWd G A s H locs M → lv_has ls 4 [(0, .ref (za G t0)), (1, .int v1), (2, .int v2), (3, .int v3)] → W p l e (zR 2) s m args below meth c H locs 0 0 (zQ below G A (some (.int res)) M args s) (F0 m 43 ls []) := by
      intro v1 v2 v3 h H locs ls hw hl
      subst hJ43
      refine lv_iload_n hx hb dX10_mostOpen_43 rfl (lv_at hl 2 rfl) ?_
      refine lv_iload_n hx hb dX10_mostOpen_44 rfl (lv_at hl 1 rfl) ?_
      refine z_maxI S lkm_X10_41 hl.1 ⟨Nat.le_of_ble_eq_true rfl, Nat.le_of_ble_eq_true rfl⟩ dX10_mostOpen_45 ?_
      obtain ⟨x2, ex2, h⟩ := zlet_ex h
      refine lv_topiE ex2 ?_
      refine lv_istore_n (lv' := [(2, .int x2), (0, .ref (za G t0)), (1, .int v1), (3, .int v3)]) hx hb dX10_mostOpen_48 rfl hl (by decide) rfl (fun ls hl => ?_)
      obtain ⟨x3, ex3, h⟩ := zlet_ex h
      refine lv_iinc (v := x3) (lv' := [(3, .int x3), (2, .int x2), (0, .ref (za G t0)), (1, .int v1)]) hx hb dX10_mostOpen_49 hl (k := 3) rfl (by rw [ex3]; rfl) (by decide) rfl (fun ls hl => ?_)
      refine lv_goto (tgt := 6) hx hb dX10_mostOpen_52 (by decide) ?_
      exact ih v1 x2 x3 h H locs ls hw (lv_sub hl [2, 3, 1, 0] rfl)
    refine lv_iload_n hx hb dX10_mostOpen_6 rfl (lv_at hl 3 rfl) ?_
    refine lv_aload_n hx hb dX10_mostOpen_7 rfl (lv_at hl 0 rfl) ?_
    refine z_getI S hw k0 fl_X10_15 rfl dX10_mostOpen_8 ?_
    refine lv_icmp_ge (tgt := 55) hx hb dX10_mostOpen_11 (by decide) (fun c4 => ?_) (fun c4 => ?_)
    · have h := zif_t h c4
      exact hK v2 h H locs ls hw (lv_sub hl [2] rfl)
    · have h := zif_f h c4
      refine lv_aload_n hx hb dX10_mostOpen_14 rfl (lv_at hl 0 rfl) ?_
      refine lv_iload_n hx hb dX10_mostOpen_15 rfl (lv_at hl 3 rfl) ?_
      obtain ⟨q5, eq5, h⟩ := zlet_ex h
      refine z_callV (ci := 10) (As := [.int v3]) (rest := []) (rv := (some (.int q5))) (M1 := M) S hw (c_X10_at l hG t0 v3 k0 M q5 eq5.symm) mv_X10_at lk_X10_30 k0 ⟨_, _, rfl⟩ (by decide) rfl rfl (Nat.le_of_ble_eq_true rfl) ⟨Nat.le_of_ble_eq_true rfl, Nat.le_of_ble_eq_true rfl⟩ hl.1 dX10_mostOpen_16 (fun H locs hw => ?_)
      refine lv_bipush (v := 40) hx hb dX10_mostOpen_19 (by decide) ?_
      refine lv_icmp_ne (tgt := 30) hx hb dX10_mostOpen_21 (by decide) (fun c6 => ?_) (fun c6 => ?_)
      · have h := zif_f h c6
        refine lv_aload_n hx hb dX10_mostOpen_30 rfl (lv_at hl 0 rfl) ?_
        refine lv_iload_n hx hb dX10_mostOpen_31 rfl (lv_at hl 3 rfl) ?_
        obtain ⟨q7, eq7, h⟩ := zlet_ex h
        refine z_callV (ci := 10) (As := [.int v3]) (rest := []) (rv := (some (.int q7))) (M1 := M) S hw (c_X10_at l hG t0 v3 k0 M q7 eq7.symm) mv_X10_at lk_X10_30 k0 ⟨_, _, rfl⟩ (by decide) rfl rfl (Nat.le_of_ble_eq_true rfl) ⟨Nat.le_of_ble_eq_true rfl, Nat.le_of_ble_eq_true rfl⟩ hl.1 dX10_mostOpen_32 (fun H locs hw => ?_)
        refine lv_bipush (v := 41) hx hb dX10_mostOpen_35 (by decide) ?_
        refine lv_icmp_ne (tgt := 43) hx hb dX10_mostOpen_37 (by decide) (fun c8 => ?_) (fun c8 => ?_)
        · have h := zif_f h c8
          exact wJ43 v1 v2 v3 h H locs ls hw (lv_sub hl [0, 1, 2, 3] rfl)
        · have h := zif_t h c8
          obtain ⟨x9, ex9, h⟩ := zlet_ex h
          refine lv_iinc (v := x9) (lv' := [(1, .int x9), (0, .ref (za G t0)), (2, .int v2), (3, .int v3)]) hx hb dX10_mostOpen_40 hl (k := 1) rfl (by rw [ex9]; rfl) (by decide) rfl (fun ls hl => ?_)
          exact wJ43 x9 v2 v3 h H locs ls hw (lv_sub hl [1, 0, 2, 3] rfl)
      · have h := zif_t h c6
        obtain ⟨x10, ex10, h⟩ := zlet_ex h
        refine lv_iinc (v := x10) (lv' := [(1, .int x10), (0, .ref (za G t0)), (2, .int v2), (3, .int v3)]) hx hb dX10_mostOpen_24 hl (k := 1) rfl (by rw [ex10]; rfl) (by decide) rfl (fun ls hl => ?_)
        refine lv_goto (tgt := 43) hx hb dX10_mostOpen_27 (by decide) ?_
        exact wJ43 x10 v2 v3 h H locs ls hw (lv_sub hl [1, 0, 2, 3] rfl)
set_option maxHeartbeats 4000000 in
set_option maxRecDepth 100000 in
theorem c_X10_mostOpen (l : Launch) {G : ZG} (hG : zOk G) (t0 : Nat) (k0 : zk G t0 = 20) (M : ZM) (res : Int32) (h : f_X10_mostOpen t0 M = some res) : zCt l yX10_mostOpen cX10_mostOpen 4 (Option.some FieldType.int) 2 G [.ref (za G t0)] M (some (.int res)) M := by
  refine zCt.mk (by decide +kernel) (Nat.le_of_ble_eq_true rfl) ?_
  intro p e s m args below meth c A H locs ls S hr hlk hw hl
  have S : zX p (zR 2) s m args c 0 0 cX10_mostOpen 4 RX10 := S
  have hx := S.1.1
  have hb := S.1.2.1
  have hown := S.1.2.2.2.1
  have hts := S.1.2.2.2.2
  have hl : lv_has ls 4 [(0, .ref (za G t0))] := hl
  unfold f_X10_mostOpen at h
  refine lv_iconst (v := 0) hx hb dX10_mostOpen_0 (by decide) ?_
  refine lv_istore_n (lv' := [(1, .int 0), (0, .ref (za G t0))]) hx hb dX10_mostOpen_1 rfl hl (by decide) rfl (fun ls hl => ?_)
  refine lv_iconst (v := 0) hx hb dX10_mostOpen_2 (by decide) ?_
  refine lv_istore_n (lv' := [(2, .int 0), (1, .int 0), (0, .ref (za G t0))]) hx hb dX10_mostOpen_3 rfl hl (by decide) rfl (fun ls hl => ?_)
  refine lv_iconst (v := 0) hx hb dX10_mostOpen_4 (by decide) ?_
  refine lv_istore_n (lv' := [(3, .int 0), (2, .int 0), (1, .int 0), (0, .ref (za G t0))]) hx hb dX10_mostOpen_5 rfl hl (by decide) rfl (fun ls hl => ?_)
  refine w_X10_mostOpen_6 hG S hr hlk t0 k0 M (fun v2 h H locs ls hw hl => ?_) zN 0 0 0 h H locs ls hw (lv_sub hl [3, 2, 1, 0] rfl)
  refine lv_iload_n hx hb dX10_mostOpen_55 rfl (lv_at hl 0 rfl) ?_
  have h := Option.some.inj h
  subst h
  exact z_ret_i S hr hlk hw dX10_mostOpen_56
def f_X11_bracket (t0 : Nat) (v1 : Int32) (v2 : Int32) (M : ZM) : Option (Int32 × ZM) :=
  if v1 < 0 then (
    zlet (f_X11_refuse t0 (-1) M) fun (q2 : (Int32 × ZM)) =>
    some (q2.1, q2.2)) else (
    if v2 < v1 then (
      zlet (f_X11_refuse t0 (-1) M) fun (q4 : (Int32 × ZM)) =>
      some (q4.1, q4.2)) else (
      zlet (f_X10_size (zr t0 1) M) fun (q5 : Int32) =>
      if v2 < q5 then (
        zlet (f_X10_size (zr t0 1) M) fun (q7 : Int32) =>
        if (q7 + 2) ≤ 21 then (
          (f_X10_bracketed (zr t0 2) (zr t0 1) v1 v2 M).bind fun (q9 : ZM) =>
          (f_X10_mostOpen (zr t0 2) q9).bind fun (q10 : Int32) =>
          if q10 ≤ 4 then (
            (f_X10_fault (zr t0 2) q9).bind fun (q12 : Int32) =>
            if q12 = (-1) then (
              (f_X11_takeSentence t0 (zr t0 2) q9).bind fun (q14 : ZM) =>
              zlet (f_X10_size (zr t0 1) q14) fun (q15 : Int32) =>
              some (q15, q14)) else (
              zlet (f_X11_refuse t0 (-3) q9) fun (q16 : (Int32 × ZM)) =>
              some (q16.1, q16.2))) else (
            zlet (f_X11_refuse t0 (-6) q9) fun (q17 : (Int32 × ZM)) =>
            some (q17.1, q17.2))) else (
          zlet (f_X11_refuse t0 (-6) M) fun (q18 : (Int32 × ZM)) =>
          some (q18.1, q18.2))) else (
        zlet (f_X11_refuse t0 (-1) M) fun (q19 : (Int32 × ZM)) =>
        some (q19.1, q19.2))))
set_option maxHeartbeats 4000000 in
set_option maxRecDepth 100000 in
theorem c_X11_bracket (l : Launch) {G : ZG} (hG : zOk G) (t0 : Nat) (v1 : Int32) (v2 : Int32) (k0 : zk G t0 = 21) (M : ZM) (res : (Int32 × ZM)) (h : f_X11_bracket t0 v1 v2 M = some res) : zCt l yX11_bracket cX11_bracket 3 (Option.some FieldType.int) 5 G [.ref (za G t0), .int v1, .int v2] M (some (.int res.1)) res.2 := by
  refine zCt.mk (by decide +kernel) (Nat.le_of_ble_eq_true rfl) ?_
  intro p e s m args below meth c A H locs ls S hr hlk hw hl
  have S : zX p (zR 5) s m args c 0 0 cX11_bracket 3 RX11 := S
  have hx := S.1.1
  have hb := S.1.2.1
  have hown := S.1.2.2.2.1
  have hts := S.1.2.2.2.2
  have hl : lv_has ls 3 [(0, .ref (za G t0)), (1, .int v1), (2, .int v2)] := hl
  unfold f_X11_bracket at h
  refine lv_iload_n hx hb dX11_bracket_0 rfl (lv_at hl 1 rfl) ?_
  refine lv_if_lt (tgt := 20) hx hb dX11_bracket_1 (by decide) (fun c1 => ?_) (fun c1 => ?_)
  · have h := zif_t h c1
    refine lv_aload_n hx hb dX11_bracket_20 rfl (lv_at hl 0 rfl) ?_
    refine lv_iconst (v := (-1)) hx hb dX11_bracket_21 (by decide) ?_
    obtain ⟨q2, eq2, h⟩ := zlet_ex h
    refine z_callV (ci := 11) (As := [.int (-1)]) (rest := []) (rv := (some (.int q2.1))) (M1 := q2.2) S hw (c_X11_refuse l hG t0 (-1) k0 M q2 eq2.symm) mv_X11_refuse lk_X11_100 k0 ⟨_, _, rfl⟩ (by decide) rfl rfl (Nat.le_of_ble_eq_true rfl) ⟨Nat.le_of_ble_eq_true rfl, Nat.le_of_ble_eq_true rfl⟩ hl.1 dX11_bracket_22 (fun H locs hw => ?_)
    have h := Option.some.inj h
    subst h
    exact z_ret_i S hr hlk hw dX11_bracket_25
  · have h := zif_f h c1
    refine lv_iload_n hx hb dX11_bracket_4 rfl (lv_at hl 2 rfl) ?_
    refine lv_iload_n hx hb dX11_bracket_5 rfl (lv_at hl 1 rfl) ?_
    refine lv_icmp_lt (tgt := 20) hx hb dX11_bracket_6 (by decide) (fun c3 => ?_) (fun c3 => ?_)
    · have h := zif_t h c3
      refine lv_aload_n hx hb dX11_bracket_20 rfl (lv_at hl 0 rfl) ?_
      refine lv_iconst (v := (-1)) hx hb dX11_bracket_21 (by decide) ?_
      obtain ⟨q4, eq4, h⟩ := zlet_ex h
      refine z_callV (ci := 11) (As := [.int (-1)]) (rest := []) (rv := (some (.int q4.1))) (M1 := q4.2) S hw (c_X11_refuse l hG t0 (-1) k0 M q4 eq4.symm) mv_X11_refuse lk_X11_100 k0 ⟨_, _, rfl⟩ (by decide) rfl rfl (Nat.le_of_ble_eq_true rfl) ⟨Nat.le_of_ble_eq_true rfl, Nat.le_of_ble_eq_true rfl⟩ hl.1 dX11_bracket_22 (fun H locs hw => ?_)
      have h := Option.some.inj h
      subst h
      exact z_ret_i S hr hlk hw dX11_bracket_25
    · have h := zif_f h c3
      refine lv_iload_n hx hb dX11_bracket_9 rfl (lv_at hl 2 rfl) ?_
      refine lv_aload_n hx hb dX11_bracket_10 rfl (lv_at hl 0 rfl) ?_
      refine z_getR S hw k0 fl_X11_16 rfl dX11_bracket_11 ?_
      obtain ⟨q5, eq5, h⟩ := zlet_ex h
      refine z_callV (ci := 10) (As := []) (rest := [.int v2]) (rv := (some (.int q5))) (M1 := M) S hw (c_X10_size l hG (zr t0 1) (kr_11_1 hG k0) M q5 eq5.symm) mv_X10_size lk_X11_104 (kr_11_1 hG k0) ⟨_, _, rfl⟩ (by decide) rfl rfl (Nat.le_of_ble_eq_true rfl) ⟨Nat.le_of_ble_eq_true rfl, Nat.le_of_ble_eq_true rfl⟩ hl.1 dX11_bracket_14 (fun H locs hw => ?_)
      refine lv_icmp_lt (tgt := 26) hx hb dX11_bracket_17 (by decide) (fun c6 => ?_) (fun c6 => ?_)
      · have h := zif_t h c6
        refine lv_aload_n hx hb dX11_bracket_26 rfl (lv_at hl 0 rfl) ?_
        refine z_getR S hw k0 fl_X11_16 rfl dX11_bracket_27 ?_
        obtain ⟨q7, eq7, h⟩ := zlet_ex h
        refine z_callV (ci := 10) (As := []) (rest := []) (rv := (some (.int q7))) (M1 := M) S hw (c_X10_size l hG (zr t0 1) (kr_11_1 hG k0) M q7 eq7.symm) mv_X10_size lk_X11_104 (kr_11_1 hG k0) ⟨_, _, rfl⟩ (by decide) rfl rfl (Nat.le_of_ble_eq_true rfl) ⟨Nat.le_of_ble_eq_true rfl, Nat.le_of_ble_eq_true rfl⟩ hl.1 dX11_bracket_30 (fun H locs hw => ?_)
        refine lv_iconst (v := 2) hx hb dX11_bracket_33 (by decide) ?_
        refine lv_iadd hx hb dX11_bracket_34 ?_
        refine lv_bipush (v := 21) hx hb dX11_bracket_35 (by decide) ?_
        refine lv_icmp_le (tgt := 47) hx hb dX11_bracket_37 (by decide) (fun c8 => ?_) (fun c8 => ?_)
        · have h := zif_t h c8
          refine lv_aload_n hx hb dX11_bracket_47 rfl (lv_at hl 0 rfl) ?_
          refine z_getR S hw k0 fl_X11_19 rfl dX11_bracket_48 ?_
          refine lv_aload_n hx hb dX11_bracket_51 rfl (lv_at hl 0 rfl) ?_
          refine z_getR S hw k0 fl_X11_16 rfl dX11_bracket_52 ?_
          refine lv_iload_n hx hb dX11_bracket_55 rfl (lv_at hl 1 rfl) ?_
          refine lv_iload_n hx hb dX11_bracket_56 rfl (lv_at hl 2 rfl) ?_
          obtain ⟨q9, eq9, h⟩ := Option.bind_eq_some_iff.mp h
          refine z_callV (ci := 10) (As := [.ref (za G (zr t0 1)), .int v1, .int v2]) (rest := []) (rv := none) (M1 := q9) S hw (c_X10_bracketed l hG (zr t0 2) (zr t0 1) v1 v2 (kr_11_2 hG k0) (kr_11_1 hG k0) M q9 eq9) mv_X10_bracketed lk_X11_219 (kr_11_2 hG k0) ⟨_, _, rfl⟩ (by decide) rfl rfl (Nat.le_of_ble_eq_true rfl) ⟨Nat.le_of_ble_eq_true rfl, Nat.le_of_ble_eq_true rfl⟩ hl.1 dX11_bracket_57 (fun H locs hw => ?_)
          refine lv_aload_n hx hb dX11_bracket_60 rfl (lv_at hl 0 rfl) ?_
          refine z_getR S hw k0 fl_X11_19 rfl dX11_bracket_61 ?_
          obtain ⟨q10, eq10, h⟩ := Option.bind_eq_some_iff.mp h
          refine z_callV (ci := 10) (As := []) (rest := []) (rv := (some (.int q10))) (M1 := q9) S hw (c_X10_mostOpen l hG (zr t0 2) (kr_11_2 hG k0) q9 q10 eq10) mv_X10_mostOpen lk_X11_223 (kr_11_2 hG k0) ⟨_, _, rfl⟩ (by decide) rfl rfl (Nat.le_of_ble_eq_true rfl) ⟨Nat.le_of_ble_eq_true rfl, Nat.le_of_ble_eq_true rfl⟩ hl.1 dX11_bracket_64 (fun H locs hw => ?_)
          refine lv_iconst (v := 4) hx hb dX11_bracket_67 (by decide) ?_
          refine lv_icmp_le (tgt := 78) hx hb dX11_bracket_68 (by decide) (fun c11 => ?_) (fun c11 => ?_)
          · have h := zif_t h c11
            refine lv_aload_n hx hb dX11_bracket_78 rfl (lv_at hl 0 rfl) ?_
            refine z_getR S hw k0 fl_X11_19 rfl dX11_bracket_79 ?_
            obtain ⟨q12, eq12, h⟩ := Option.bind_eq_some_iff.mp h
            refine z_callV (ci := 10) (As := []) (rest := []) (rv := (some (.int q12))) (M1 := q9) S hw (c_X10_fault l hG (zr t0 2) (kr_11_2 hG k0) q9 q12 eq12) mv_X10_fault lk_X11_110 (kr_11_2 hG k0) ⟨_, _, rfl⟩ (by decide) rfl rfl (Nat.le_of_ble_eq_true rfl) ⟨Nat.le_of_ble_eq_true rfl, Nat.le_of_ble_eq_true rfl⟩ hl.1 dX11_bracket_82 (fun H locs hw => ?_)
            refine lv_iconst (v := (-1)) hx hb dX11_bracket_85 (by decide) ?_
            refine lv_icmp_eq (tgt := 96) hx hb dX11_bracket_86 (by decide) (fun c13 => ?_) (fun c13 => ?_)
            · have h := zif_t h c13
              refine lv_aload_n hx hb dX11_bracket_96 rfl (lv_at hl 0 rfl) ?_
              refine lv_aload_n hx hb dX11_bracket_97 rfl (lv_at hl 0 rfl) ?_
              refine z_getR S hw k0 fl_X11_19 rfl dX11_bracket_98 ?_
              obtain ⟨q14, eq14, h⟩ := Option.bind_eq_some_iff.mp h
              refine z_callV (ci := 11) (As := [.ref (za G (zr t0 2))]) (rest := []) (rv := none) (M1 := q14) S hw (c_X11_takeSentence l hG t0 (zr t0 2) k0 (kr_11_2 hG k0) q9 q14 eq14) mv_X11_takeSentence lk_X11_113 k0 ⟨_, _, rfl⟩ (by decide) rfl rfl (Nat.le_of_ble_eq_true rfl) ⟨Nat.le_of_ble_eq_true rfl, Nat.le_of_ble_eq_true rfl⟩ hl.1 dX11_bracket_101 (fun H locs hw => ?_)
              refine lv_aload_n hx hb dX11_bracket_104 rfl (lv_at hl 0 rfl) ?_
              refine z_getR S hw k0 fl_X11_16 rfl dX11_bracket_105 ?_
              obtain ⟨q15, eq15, h⟩ := zlet_ex h
              refine z_callV (ci := 10) (As := []) (rest := []) (rv := (some (.int q15))) (M1 := q14) S hw (c_X10_size l hG (zr t0 1) (kr_11_1 hG k0) q14 q15 eq15.symm) mv_X10_size lk_X11_104 (kr_11_1 hG k0) ⟨_, _, rfl⟩ (by decide) rfl rfl (Nat.le_of_ble_eq_true rfl) ⟨Nat.le_of_ble_eq_true rfl, Nat.le_of_ble_eq_true rfl⟩ hl.1 dX11_bracket_108 (fun H locs hw => ?_)
              have h := Option.some.inj h
              subst h
              exact z_ret_i S hr hlk hw dX11_bracket_111
            · have h := zif_f h c13
              refine lv_aload_n hx hb dX11_bracket_89 rfl (lv_at hl 0 rfl) ?_
              refine lv_bipush (v := (-3)) hx hb dX11_bracket_90 (by decide) ?_
              obtain ⟨q16, eq16, h⟩ := zlet_ex h
              refine z_callV (ci := 11) (As := [.int (-3)]) (rest := []) (rv := (some (.int q16.1))) (M1 := q16.2) S hw (c_X11_refuse l hG t0 (-3) k0 q9 q16 eq16.symm) mv_X11_refuse lk_X11_100 k0 ⟨_, _, rfl⟩ (by decide) rfl rfl (Nat.le_of_ble_eq_true rfl) ⟨Nat.le_of_ble_eq_true rfl, Nat.le_of_ble_eq_true rfl⟩ hl.1 dX11_bracket_92 (fun H locs hw => ?_)
              have h := Option.some.inj h
              subst h
              exact z_ret_i S hr hlk hw dX11_bracket_95
          · have h := zif_f h c11
            refine lv_aload_n hx hb dX11_bracket_71 rfl (lv_at hl 0 rfl) ?_
            refine lv_bipush (v := (-6)) hx hb dX11_bracket_72 (by decide) ?_
            obtain ⟨q17, eq17, h⟩ := zlet_ex h
            refine z_callV (ci := 11) (As := [.int (-6)]) (rest := []) (rv := (some (.int q17.1))) (M1 := q17.2) S hw (c_X11_refuse l hG t0 (-6) k0 q9 q17 eq17.symm) mv_X11_refuse lk_X11_100 k0 ⟨_, _, rfl⟩ (by decide) rfl rfl (Nat.le_of_ble_eq_true rfl) ⟨Nat.le_of_ble_eq_true rfl, Nat.le_of_ble_eq_true rfl⟩ hl.1 dX11_bracket_74 (fun H locs hw => ?_)
            have h := Option.some.inj h
            subst h
            exact z_ret_i S hr hlk hw dX11_bracket_77
        · have h := zif_f h c8
          refine lv_aload_n hx hb dX11_bracket_40 rfl (lv_at hl 0 rfl) ?_
          refine lv_bipush (v := (-6)) hx hb dX11_bracket_41 (by decide) ?_
          obtain ⟨q18, eq18, h⟩ := zlet_ex h
          refine z_callV (ci := 11) (As := [.int (-6)]) (rest := []) (rv := (some (.int q18.1))) (M1 := q18.2) S hw (c_X11_refuse l hG t0 (-6) k0 M q18 eq18.symm) mv_X11_refuse lk_X11_100 k0 ⟨_, _, rfl⟩ (by decide) rfl rfl (Nat.le_of_ble_eq_true rfl) ⟨Nat.le_of_ble_eq_true rfl, Nat.le_of_ble_eq_true rfl⟩ hl.1 dX11_bracket_43 (fun H locs hw => ?_)
          have h := Option.some.inj h
          subst h
          exact z_ret_i S hr hlk hw dX11_bracket_46
      · have h := zif_f h c6
        refine lv_aload_n hx hb dX11_bracket_20 rfl (lv_at hl 0 rfl) ?_
        refine lv_iconst (v := (-1)) hx hb dX11_bracket_21 (by decide) ?_
        obtain ⟨q19, eq19, h⟩ := zlet_ex h
        refine z_callV (ci := 11) (As := [.int (-1)]) (rest := []) (rv := (some (.int q19.1))) (M1 := q19.2) S hw (c_X11_refuse l hG t0 (-1) k0 M q19 eq19.symm) mv_X11_refuse lk_X11_100 k0 ⟨_, _, rfl⟩ (by decide) rfl rfl (Nat.le_of_ble_eq_true rfl) ⟨Nat.le_of_ble_eq_true rfl, Nat.le_of_ble_eq_true rfl⟩ hl.1 dX11_bracket_22 (fun H locs hw => ?_)
        have h := Option.some.inj h
        subst h
        exact z_ret_i S hr hlk hw dX11_bracket_25
def f_X11_noCase (v0 : Int32) (M : ZM) : Int32 :=
  if v0 < 0 then (
    (1 : Int32)) else (
    if v0 < 32 then (
      (0 : Int32)) else (
      (1 : Int32)))
set_option maxHeartbeats 4000000 in
set_option maxRecDepth 100000 in
theorem c_X11_noCase (l : Launch) {G : ZG} (hG : zOk G) (v0 : Int32) (M : ZM) (res : Int32) (h : f_X11_noCase v0 M = res) : zCt l yX11_noCase cX11_noCase 1 (Option.some FieldType.boolean) 0 G [.int v0] M (some (.int res)) M := by
  refine zCt.mk (by decide +kernel) (Nat.le_of_ble_eq_true rfl) ?_
  intro p e s m args below meth c A H locs ls S hr hlk hw hl
  have S : zX p (zR 0) s m args c 0 0 cX11_noCase 1 RX11 := S
  have hx := S.1.1
  have hb := S.1.2.1
  have hown := S.1.2.2.2.1
  have hts := S.1.2.2.2.2
  have hl : lv_has ls 1 [(0, .int v0)] := hl
  unfold f_X11_noCase at h
  refine lv_iload_n hx hb dX11_noCase_0 rfl (lv_at hl 0 rfl) ?_
  refine lv_if_lt (tgt := 10) hx hb dX11_noCase_1 (by decide) (fun c1 => ?_) (fun c1 => ?_)
  · have h := zif_t h c1
    refine lv_iconst (v := 1) hx hb dX11_noCase_10 (by decide) ?_
    refine lv_goto (tgt := 15) hx hb dX11_noCase_11 (by decide) ?_
    subst h
    exact z_ret_z S hr hlk (Or.inr rfl) hw dX11_noCase_15
  · have h := zif_f h c1
    refine lv_iload_n hx hb dX11_noCase_4 rfl (lv_at hl 0 rfl) ?_
    refine lv_bipush (v := 32) hx hb dX11_noCase_5 (by decide) ?_
    refine lv_icmp_lt (tgt := 14) hx hb dX11_noCase_7 (by decide) (fun c2 => ?_) (fun c2 => ?_)
    · have h := zif_t h c2
      refine lv_iconst (v := 0) hx hb dX11_noCase_14 (by decide) ?_
      subst h
      exact z_ret_z S hr hlk (Or.inl rfl) hw dX11_noCase_15
    · have h := zif_f h c2
      refine lv_iconst (v := 1) hx hb dX11_noCase_10 (by decide) ?_
      refine lv_goto (tgt := 15) hx hb dX11_noCase_11 (by decide) ?_
      subst h
      exact z_ret_z S hr hlk (Or.inr rfl) hw dX11_noCase_15
def f_X0_size (t0 : Nat) (M : ZM) : Int32 :=
  (M.1 t0 2)
set_option maxHeartbeats 4000000 in
set_option maxRecDepth 100000 in
theorem c_X0_size (l : Launch) {G : ZG} (hG : zOk G) (t0 : Nat) (k0 : zk G t0 = 10) (M : ZM) (res : Int32) (h : f_X0_size t0 M = res) : zCt l yX0_size cX0_size 1 (Option.some FieldType.int) 0 G [.ref (za G t0)] M (some (.int res)) M := by
  refine zCt.mk (by decide +kernel) (Nat.le_of_ble_eq_true rfl) ?_
  intro p e s m args below meth c A H locs ls S hr hlk hw hl
  have S : zX p (zR 0) s m args c 0 0 cX0_size 1 RX0 := S
  have hx := S.1.1
  have hb := S.1.2.1
  have hown := S.1.2.2.2.1
  have hts := S.1.2.2.2.2
  have hl : lv_has ls 1 [(0, .ref (za G t0))] := hl
  unfold f_X0_size at h
  refine lv_aload_n hx hb dX0_size_0 rfl (lv_at hl 0 rfl) ?_
  refine z_getI S hw k0 fl_X0_18 rfl dX0_size_1 ?_
  subst h
  exact z_ret_i S hr hlk hw dX0_size_4
def f_X0_add (t0 : Nat) (v1 : Int32) (v2 : Int32) (M : ZM) : ZM :=
  if 8 ≤ (M.1 t0 2) then (
    M) else (
    zlet (f_X11_put (zr t0 0) (M.1 t0 2) v1 M) fun (q2 : ZM) =>
    zlet (f_X11_put (zr t0 1) (q2.1 t0 2) v2 q2) fun (q3 : ZM) =>
    zlet (zi q3 t0 2 ((q3.1 t0 2) + 1)) fun (M4 : ZM) =>
    M4)
set_option maxHeartbeats 4000000 in
set_option maxRecDepth 100000 in
theorem c_X0_add (l : Launch) {G : ZG} (hG : zOk G) (t0 : Nat) (v1 : Int32) (v2 : Int32) (k0 : zk G t0 = 10) (M : ZM) (res : ZM) (h : f_X0_add t0 v1 v2 M = res) : zCt l yX0_add cX0_add 3 none 1 G [.ref (za G t0), .int v1, .int v2] M none res := by
  refine zCt.mk (by decide +kernel) (Nat.le_of_ble_eq_true rfl) ?_
  intro p e s m args below meth c A H locs ls S hr hlk hw hl
  have S : zX p (zR 1) s m args c 0 0 cX0_add 3 RX0 := S
  have hx := S.1.1
  have hb := S.1.2.1
  have hown := S.1.2.2.2.1
  have hts := S.1.2.2.2.2
  have hl : lv_has ls 3 [(0, .ref (za G t0)), (1, .int v1), (2, .int v2)] := hl
  unfold f_X0_add at h
  refine lv_aload_n hx hb dX0_add_0 rfl (lv_at hl 0 rfl) ?_
  refine z_getI S hw k0 fl_X0_18 rfl dX0_add_1 ?_
  refine lv_bipush (v := 8) hx hb dX0_add_4 (by decide) ?_
  refine lv_icmp_ge (tgt := 43) hx hb dX0_add_6 (by decide) (fun c1 => ?_) (fun c1 => ?_)
  · have h := zif_t h c1
    subst h
    exact z_ret_v S hr hlk hw dX0_add_43
  · have h := zif_f h c1
    refine lv_aload_n hx hb dX0_add_9 rfl (lv_at hl 0 rfl) ?_
    refine z_getR S hw k0 fl_X0_9 rfl dX0_add_10 ?_
    refine lv_aload_n hx hb dX0_add_13 rfl (lv_at hl 0 rfl) ?_
    refine z_getI S hw k0 fl_X0_18 rfl dX0_add_14 ?_
    refine lv_iload_n hx hb dX0_add_17 rfl (lv_at hl 1 rfl) ?_
    obtain ⟨q2, eq2, h⟩ := zlet_ex h
    refine z_callS (As := [.ref (za G (zr t0 0)), .int (M.1 t0 2), .int v1]) (rest := []) (rv := none) (M1 := q2) S hw (c_X11_put l hG (zr t0 0) (M.1 t0 2) v1 (kr_0_0 hG k0) M q2 eq2.symm) mv_X11_put lk_X0_22 rfl rfl (Nat.le_of_ble_eq_true rfl) ⟨Nat.le_of_ble_eq_true rfl, Nat.le_of_ble_eq_true rfl⟩ hl.1 dX0_add_18 (fun H locs hw => ?_)
    refine lv_aload_n hx hb dX0_add_21 rfl (lv_at hl 0 rfl) ?_
    refine z_getR S hw k0 fl_X0_15 rfl dX0_add_22 ?_
    refine lv_aload_n hx hb dX0_add_25 rfl (lv_at hl 0 rfl) ?_
    refine z_getI S hw k0 fl_X0_18 rfl dX0_add_26 ?_
    refine lv_iload_n hx hb dX0_add_29 rfl (lv_at hl 2 rfl) ?_
    obtain ⟨q3, eq3, h⟩ := zlet_ex h
    refine z_callS (As := [.ref (za G (zr t0 1)), .int (q2.1 t0 2), .int v2]) (rest := []) (rv := none) (M1 := q3) S hw (c_X11_put l hG (zr t0 1) (q2.1 t0 2) v2 (kr_0_1 hG k0) q2 q3 eq3.symm) mv_X11_put lk_X0_22 rfl rfl (Nat.le_of_ble_eq_true rfl) ⟨Nat.le_of_ble_eq_true rfl, Nat.le_of_ble_eq_true rfl⟩ hl.1 dX0_add_30 (fun H locs hw => ?_)
    refine lv_aload_n hx hb dX0_add_33 rfl (lv_at hl 0 rfl) ?_
    refine lv_dup hx hb dX0_add_34 rfl ?_
    refine z_getI S hw k0 fl_X0_18 rfl dX0_add_35 ?_
    refine lv_iconst (v := 1) hx hb dX0_add_38 (by decide) ?_
    refine lv_iadd hx hb dX0_add_39 ?_
    obtain ⟨M4, eM4, h⟩ := zlet_ex h
    refine z_putI S hw eM4 k0 fl_X0_18 rfl (fun h => absurd h (by decide)) dX0_add_40 (fun H locs hw => ?_)
    subst h
    exact z_ret_v S hr hlk hw dX0_add_43
end Z
