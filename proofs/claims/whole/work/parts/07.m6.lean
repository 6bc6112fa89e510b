section Z
variable {p : Program} {l : Launch} {e : Env} {s : State} {m : MethodId} {args : Array Value} {below : List Frame} {meth : Method} {c : Code} {A : Nat → Prop}
def f_X12_has_3 (t0 : Nat) (v1 : Int32) (v2 : Int32) (v3 : Int32) (M : ZM) (K : Option Int32) : Nat → Int32 → Option Int32
  | 0, _ => none
  | n + 1, v4 =>
    zck (zin v1 (zn (zr t0 22))) <|
    if (M.1 (zr t0 22) v1.toNatClampNeg) ≤ v4 then (
      K) else (
      zck (zin ((21 * v1) + v4) (zn (zr t0 20))) <|
      if (M.1 (zr t0 20) ((21 * v1) + v4).toNatClampNeg) = v2 then (
        zck (zin ((21 * v1) + v4) (zn (zr t0 21))) <|
        if (M.1 (zr t0 21) ((21 * v1) + v4).toNatClampNeg) = v3 then (
          some (1 : Int32)) else (
          zlet (v4 + 1) fun (x8 : Int32) =>
          f_X12_has_3 t0 v1 v2 v3 M K n x8)) else (
        zlet (v4 + 1) fun (x5 : Int32) =>
        f_X12_has_3 t0 v1 v2 v3 M K n x5))

def f_X12_has (t0 : Nat) (v1 : Int32) (v2 : Int32) (v3 : Int32) (M : ZM) : Option Int32 :=
  f_X12_has_3 t0 v1 v2 v3 M (
    some (0 : Int32)) zN 0
set_option maxHeartbeats 4000000 in
set_option maxRecDepth 100000 in
theorem w_X12_has_3 {G : ZG} (hG : zOk G) (S : zX p (zR 0) s m args c 0 0 cX12_has 5 RX12) (hr : meth.sig.returnType = (Option.some FieldType.boolean)) (hlk : meth.locks = false) (t0 : Nat) (v1 : Int32) (v2 : Int32) (v3 : Int32) (k0 : zk G t0 = 22) (M : ZM)  {K : Option Int32} {res : Int32} (hK : K = some res → ∀ (H : Heap) (locs : List Loc) (ls : Array Slot), zWd G A s H locs M → lv_has ls 5 [] → W p l e (zR 0) s m args below meth c H locs 0 0 (zQ below G A (some (.int res)) M args s) (F0 m 54 ls [])) : ∀ (n : Nat) (v4 : Int32), f_X12_has_3 t0 v1 v2 v3 M K n v4 = some res → ∀ (H : Heap) (locs : List Loc) (ls : Array Slot), zWd G A s H locs M → lv_has ls 5 [(0, .ref (za G t0)), (1, .int v1), (2, .int v2), (3, .int v3), (4, .int v4)] → W p l e (zR 0) s m args below meth c H locs 0 0 (zQ below G A (some (.int res)) M args s) (F0 m 3 ls []) := by
  have hx := S.1.1
  have hb := S.1.2.1
  have hown := S.1.2.2.2.1
  have hts := S.1.2.2.2.2
  intro n
  induction n with
  | zero =>
    intro v4 h
    rw [f_X12_has_3] at h
    cases h
  | succ n ih =>
    intro v4 h H locs ls hw hl
    rw [f_X12_has_3] at h
    refine lv_iload hx hb dX12_has_3 (lv_at hl 4 rfl) ?_
    refine lv_aload_n hx hb dX12_has_5 rfl (lv_at hl 0 rfl) ?_
    refine z_getR S hw k0 fl_X12_53 rfl dX12_has_6 ?_
    refine lv_iload_n hx hb dX12_has_9 rfl (lv_at hl 1 rfl) ?_
    obtain ⟨g1, h⟩ := zck_ex h
    refine z_iald S hw (kr_12_22 hG k0) g1 dX12_has_10 ?_
    refine lv_icmp_ge (tgt := 54) hx hb dX12_has_11 (by decide) (fun c2 => ?_) (fun c2 => ?_)
    · have h := zif_t h c2
      exact hK  h H locs ls hw (lv_sub hl [] rfl)
    · have h := zif_f h c2
      refine lv_aload_n hx hb dX12_has_14 rfl (lv_at hl 0 rfl) ?_
      refine z_getR S hw k0 fl_X12_47 rfl dX12_has_15 ?_
      refine lv_bipush (v := 21) hx hb dX12_has_18 (by decide) ?_
      refine lv_iload_n hx hb dX12_has_20 rfl (lv_at hl 1 rfl) ?_
      refine lv_imul hx hb dX12_has_21 ?_
      refine lv_iload hx hb dX12_has_22 (lv_at hl 4 rfl) ?_
      refine lv_iadd hx hb dX12_has_24 ?_
      obtain ⟨g3, h⟩ := zck_ex h
      refine z_iald S hw (kr_12_20 hG k0) g3 dX12_has_25 ?_
      refine lv_iload_n hx hb dX12_has_26 rfl (lv_at hl 2 rfl) ?_
      refine lv_icmp_ne (tgt := 48) hx hb dX12_has_27 (by decide) (fun c4 => ?_) (fun c4 => ?_)
      · have h := zif_f h c4
        obtain ⟨x5, ex5, h⟩ := zlet_ex h
        refine lv_iinc (v := x5) (lv' := [(4, .int x5), (0, .ref (za G t0)), (1, .int v1), (2, .int v2), (3, .int v3)]) hx hb dX12_has_48 hl (k := 4) rfl (by rw [ex5]; rfl) (by decide) rfl (fun ls hl => ?_)
        refine lv_goto (tgt := 3) hx hb dX12_has_51 (by decide) ?_
        exact ih x5 h H locs ls hw (lv_sub hl [1, 2, 3, 4, 0] rfl)
      · have h := zif_t h c4
        refine lv_aload_n hx hb dX12_has_30 rfl (lv_at hl 0 rfl) ?_
        refine z_getR S hw k0 fl_X12_50 rfl dX12_has_31 ?_
        refine lv_bipush (v := 21) hx hb dX12_has_34 (by decide) ?_
        refine lv_iload_n hx hb dX12_has_36 rfl (lv_at hl 1 rfl) ?_
        refine lv_imul hx hb dX12_has_37 ?_
        refine lv_iload hx hb dX12_has_38 (lv_at hl 4 rfl) ?_
        refine lv_iadd hx hb dX12_has_40 ?_
        obtain ⟨g6, h⟩ := zck_ex h
        refine z_iald S hw (kr_12_21 hG k0) g6 dX12_has_41 ?_
        refine lv_iload_n hx hb dX12_has_42 rfl (lv_at hl 3 rfl) ?_
        refine lv_icmp_ne (tgt := 48) hx hb dX12_has_43 (by decide) (fun c7 => ?_) (fun c7 => ?_)
        · have h := zif_f h c7
          obtain ⟨x8, ex8, h⟩ := zlet_ex h
          refine lv_iinc (v := x8) (lv' := [(4, .int x8), (0, .ref (za G t0)), (1, .int v1), (2, .int v2), (3, .int v3)]) hx hb dX12_has_48 hl (k := 4) rfl (by rw [ex8]; rfl) (by decide) rfl (fun ls hl => ?_)
          refine lv_goto (tgt := 3) hx hb dX12_has_51 (by decide) ?_
          exact ih x8 h H locs ls hw (lv_sub hl [1, 2, 3, 4, 0] rfl)
        · have h := zif_t h c7
          refine lv_iconst (v := 1) hx hb dX12_has_46 (by decide) ?_
          have h := Option.some.inj h
          subst h
          exact z_ret_z S hr hlk (Or.inr rfl) hw dX12_has_47
set_option maxHeartbeats 4000000 in
set_option maxRecDepth 100000 in
theorem c_X12_has (l : Launch) {G : ZG} (hG : zOk G) (t0 : Nat) (v1 : Int32) (v2 : Int32) (v3 : Int32) (k0 : zk G t0 = 22) (M : ZM) (res : Int32) (h : f_X12_has t0 v1 v2 v3 M = some res) : zCt l yX12_has cX12_has 5 (Option.some FieldType.boolean) 0 G [.ref (za G t0), .int v1, .int v2, .int v3] M (some (.int res)) M := by
  refine zCt.mk (by decide +kernel) (Nat.le_of_ble_eq_true rfl) ?_
  intro p e s m args below meth c A H locs ls S hr hlk hw hl
  have S : zX p (zR 0) s m args c 0 0 cX12_has 5 RX12 := S
  have hx := S.1.1
  have hb := S.1.2.1
  have hown := S.1.2.2.2.1
  have hts := S.1.2.2.2.2
  have hl : lv_has ls 5 [(0, .ref (za G t0)), (1, .int v1), (2, .int v2), (3, .int v3)] := hl
  unfold f_X12_has at h
  refine lv_iconst (v := 0) hx hb dX12_has_0 (by decide) ?_
  refine lv_istore (lv' := [(4, .int 0), (0, .ref (za G t0)), (1, .int v1), (2, .int v2), (3, .int v3)]) hx hb dX12_has_1 hl (by decide) rfl (fun ls hl => ?_)
  refine w_X12_has_3 hG S hr hlk t0 v1 v2 v3 k0 M (fun h H locs ls hw hl => ?_) zN 0 h H locs ls hw (lv_sub hl [1, 2, 3, 4, 0] rfl)
  refine lv_iconst (v := 0) hx hb dX12_has_54 (by decide) ?_
  have h := Option.some.inj h
  subst h
  exact z_ret_z S hr hlk (Or.inl rfl) hw dX12_has_55
def f_X12_isMark (t0 : Nat) (v1 : Int32) (v2 : Int32) (M : ZM) : Option Int32 :=
  zck (zin ((21 * v1) + v2) (zn (zr t0 19))) <|
  if (M.1 (zr t0 19) ((21 * v1) + v2).toNatClampNeg) = 0 then (
    some (0 : Int32)) else (
    zck (zin ((21 * v1) + v2) (zn (zr t0 19))) <|
    if (M.1 (zr t0 19) ((21 * v1) + v2).toNatClampNeg) = 2 then (
      some (0 : Int32)) else (
      zck (zin ((21 * v1) + v2) (zn (zr t0 21))) <|
      if (M.1 t0 10) ≤ (M.1 (zr t0 21) ((21 * v1) + v2).toNatClampNeg) then (
        some (0 : Int32)) else (
        some (1 : Int32))))
set_option maxHeartbeats 4000000 in
set_option maxRecDepth 100000 in
theorem c_X12_isMark (l : Launch) {G : ZG} (hG : zOk G) (t0 : Nat) (v1 : Int32) (v2 : Int32) (k0 : zk G t0 = 22) (M : ZM) (res : Int32) (h : f_X12_isMark t0 v1 v2 M = some res) : zCt l yX12_isMark cX12_isMark 3 (Option.some FieldType.boolean) 0 G [.ref (za G t0), .int v1, .int v2] M (some (.int res)) M := by
  refine zCt.mk (by decide +kernel) (Nat.le_of_ble_eq_true rfl) ?_
  intro p e s m args below meth c A H locs ls S hr hlk hw hl
  have S : zX p (zR 0) s m args c 0 0 cX12_isMark 3 RX12 := S
  have hx := S.1.1
  have hb := S.1.2.1
  have hown := S.1.2.2.2.1
  have hts := S.1.2.2.2.2
  have hl : lv_has ls 3 [(0, .ref (za G t0)), (1, .int v1), (2, .int v2)] := hl
  unfold f_X12_isMark at h
  refine lv_aload_n hx hb dX12_isMark_0 rfl (lv_at hl 0 rfl) ?_
  refine z_getR S hw k0 fl_X12_44 rfl dX12_isMark_1 ?_
  refine lv_bipush (v := 21) hx hb dX12_isMark_4 (by decide) ?_
  refine lv_iload_n hx hb dX12_isMark_6 rfl (lv_at hl 1 rfl) ?_
  refine lv_imul hx hb dX12_isMark_7 ?_
  refine lv_iload_n hx hb dX12_isMark_8 rfl (lv_at hl 2 rfl) ?_
  refine lv_iadd hx hb dX12_isMark_9 ?_
  obtain ⟨g1, h⟩ := zck_ex h
  refine z_iald S hw (kr_12_19 hG k0) g1 dX12_isMark_10 ?_
  refine lv_if_eq (tgt := 51) hx hb dX12_isMark_11 (by decide) (fun c2 => ?_) (fun c2 => ?_)
  · have h := zif_t h c2
    refine lv_iconst (v := 0) hx hb dX12_isMark_51 (by decide) ?_
    have h := Option.some.inj h
    subst h
    exact z_ret_z S hr hlk (Or.inl rfl) hw dX12_isMark_52
  · have h := zif_f h c2
    refine lv_aload_n hx hb dX12_isMark_14 rfl (lv_at hl 0 rfl) ?_
    refine z_getR S hw k0 fl_X12_44 rfl dX12_isMark_15 ?_
    refine lv_bipush (v := 21) hx hb dX12_isMark_18 (by decide) ?_
    refine lv_iload_n hx hb dX12_isMark_20 rfl (lv_at hl 1 rfl) ?_
    refine lv_imul hx hb dX12_isMark_21 ?_
    refine lv_iload_n hx hb dX12_isMark_22 rfl (lv_at hl 2 rfl) ?_
    refine lv_iadd hx hb dX12_isMark_23 ?_
    obtain ⟨g3, h⟩ := zck_ex h
    refine z_iald S hw (kr_12_19 hG k0) g3 dX12_isMark_24 ?_
    refine lv_iconst (v := 2) hx hb dX12_isMark_25 (by decide) ?_
    refine lv_icmp_eq (tgt := 51) hx hb dX12_isMark_26 (by decide) (fun c4 => ?_) (fun c4 => ?_)
    · have h := zif_t h c4
      refine lv_iconst (v := 0) hx hb dX12_isMark_51 (by decide) ?_
      have h := Option.some.inj h
      subst h
      exact z_ret_z S hr hlk (Or.inl rfl) hw dX12_isMark_52
    · have h := zif_f h c4
      refine lv_aload_n hx hb dX12_isMark_29 rfl (lv_at hl 0 rfl) ?_
      refine z_getR S hw k0 fl_X12_50 rfl dX12_isMark_30 ?_
      refine lv_bipush (v := 21) hx hb dX12_isMark_33 (by decide) ?_
      refine lv_iload_n hx hb dX12_isMark_35 rfl (lv_at hl 1 rfl) ?_
      refine lv_imul hx hb dX12_isMark_36 ?_
      refine lv_iload_n hx hb dX12_isMark_37 rfl (lv_at hl 2 rfl) ?_
      refine lv_iadd hx hb dX12_isMark_38 ?_
      obtain ⟨g5, h⟩ := zck_ex h
      refine z_iald S hw (kr_12_21 hG k0) g5 dX12_isMark_39 ?_
      refine lv_aload_n hx hb dX12_isMark_40 rfl (lv_at hl 0 rfl) ?_
      refine z_getI S hw k0 fl_X12_85 rfl dX12_isMark_41 ?_
      refine lv_icmp_ge (tgt := 51) hx hb dX12_isMark_44 (by decide) (fun c6 => ?_) (fun c6 => ?_)
      · have h := zif_t h c6
        refine lv_iconst (v := 0) hx hb dX12_isMark_51 (by decide) ?_
        have h := Option.some.inj h
        subst h
        exact z_ret_z S hr hlk (Or.inl rfl) hw dX12_isMark_52
      · have h := zif_f h c6
        refine lv_iconst (v := 1) hx hb dX12_isMark_47 (by decide) ?_
        refine lv_goto (tgt := 52) hx hb dX12_isMark_48 (by decide) ?_
        have h := Option.some.inj h
        subst h
        exact z_ret_z S hr hlk (Or.inr rfl) hw dX12_isMark_52
def f_X12_isMended_3 (t0 : Nat) (v1 : Int32) (v2 : Int32) (v3 : Int32) (M : ZM) (K : Option Int32) : Nat → Int32 → Option Int32
  | 0, _ => none
  | n + 1, v4 =>
    zlet (fun (v4 : Int32) (v5 : Int32) (s0 : Int32) =>
      if v5 = 0 then (
        zlet (v4 + 1) fun (x2 : Int32) =>
        f_X12_isMended_3 t0 v1 v2 v3 M K n x2) else (
        if s0 = 0 then (
          zlet (v4 + 1) fun (x4 : Int32) =>
          f_X12_isMended_3 t0 v1 v2 v3 M K n x4) else (
          some (0 : Int32)))) fun J114 =>
    zlet (fun (v4 : Int32) (v5 : Int32) =>
      J114 v4 v5 1) fun J109 =>
    zlet (fun (v4 : Int32) (s0 : Int32) =>
      if v3 < 0 then (
        J109 v4 s0) else (
        zck (zin ((21 * v1) + v3) (zn (zr t0 20))) <|
        zck (zin ((21 * v1) + v3) (zn (zr t0 21))) <|
        (f_X12_has t0 v4 (M.1 (zr t0 20) ((21 * v1) + v3).toNatClampNeg) (M.1 (zr t0 21) ((21 * v1) + v3).toNatClampNeg) M).bind fun (q8 : Int32) =>
        if q8 = 0 then (
          J114 v4 s0 0) else (
          J109 v4 s0))) fun J72 =>
    zlet (fun (v4 : Int32) =>
      J72 v4 1) fun J67 =>
    if (M.1 t0 26) ≤ v4 then (
      K) else (
      zck (zin v4 (zn (zr t0 25))) <|
      zck (zin v1 (zn (zr t0 25))) <|
      if (lg_cmp (M.2 (zr t0 25) v4.toNatClampNeg) (M.2 (zr t0 25) v1.toNatClampNeg)) = 0 then (
        zlet (v4 + 1) fun (x19 : Int32) =>
        f_X12_isMended_3 t0 v1 v2 v3 M K n x19) else (
        if v2 < 0 then (
          J67 v4) else (
          zck (zin ((21 * v1) + v2) (zn (zr t0 20))) <|
          zck (zin ((21 * v1) + v2) (zn (zr t0 21))) <|
          (f_X12_has t0 v4 (M.1 (zr t0 20) ((21 * v1) + v2).toNatClampNeg) (M.1 (zr t0 21) ((21 * v1) + v2).toNatClampNeg) M).bind fun (q17 : Int32) =>
          if q17 = 0 then (
            J72 v4 0) else (
            J67 v4))))

def f_X12_isMended (t0 : Nat) (v1 : Int32) (v2 : Int32) (v3 : Int32) (M : ZM) : Option Int32 :=
  f_X12_isMended_3 t0 v1 v2 v3 M (
    some (1 : Int32)) zN 0
set_option maxHeartbeats 4000000 in
set_option maxRecDepth 100000 in
theorem w_X12_isMended_3 {G : ZG} (hG : zOk G) (S : zX p (zR 1) s m args c 0 0 cX12_isMended 7 RX12) (hr : meth.sig.returnType = (Option.some FieldType.boolean)) (hlk : meth.locks = false) (t0 : Nat) (v1 : Int32) (v2 : Int32) (v3 : Int32) (k0 : zk G t0 = 22) (M : ZM)  {K : Option Int32} {res : Int32} (hK : K = some res → ∀ (H : Heap) (locs : List Loc) (ls : Array Slot), zWd G A s H locs M → lv_has ls 7 [] → W p l e (zR 1) s m args below meth c H locs 0 0 (zQ below G A (some (.int res)) M args s) (F0 m 134 ls [])) : ∀ (n : Nat) (v4 : Int32), f_X12_isMended_3 t0 v1 v2 v3 M K n v4 = some res → ∀ (H : Heap) (locs : List Loc) (ls : Array Slot), zWd G A s H locs M → lv_has ls 7 [(0, .ref (za G t0)), (1, .int v1), (2, .int v2), (3, .int v3), (4, .int v4)] → W p l e (zR 1) s m args below meth c H locs 0 0 (zQ below G A (some (.int res)) M args s) (F0 m 3 ls []) := by
  have hx := S.1.1
  have hb := S.1.2.1
  have hown := S.1.2.2.2.1
  have hts := S.1.2.2.2.2
  intro n
  induction n with
  | zero =>
    intro v4 h
    rw [f_X12_isMended_3] at h
    cases h
  | succ n ih =>
    intro v4 h H locs ls hw hl
    rw [f_X12_isMended_3] at h
    obtain ⟨J114, hJ114, h⟩ := zlet_ex h
    have wJ114 : ∀ (v4 : Int32) (v5 : Int32) (s0 : Int32), J114 v4 v5 s0 = some res → ∀ (H : Heap) (locs : List Loc) (ls : Array Slot), zWd G A s H locs M → lv_has ls 7 [(0, .ref (za G t0)), (1, .int v1), (2, .int v2), (3, .int v3), (4, .int v4), (5, .int v5)] → W p l e (zR 1) s m args below meth c H locs 0 0 (zQ below G A (some (.int res)) M args s) (F0 m 114 ls [.int s0]) := by
      intro v4 v5 s0 h H locs ls hw hl
      subst hJ114
      refine lv_istore (lv' := [(6, .int s0), (0, .ref (za G t0)), (1, .int v1), (2, .int v2), (3, .int v3), (4, .int v4), (5, .int v5)]) hx hb dX12_isMended_114 hl (by decide) rfl (fun ls hl => ?_)
      refine lv_iload hx hb dX12_isMended_116 (lv_at hl 6 rfl) ?_
      refine lv_if_eq (tgt := 128) hx hb dX12_isMended_118 (by decide) (fun c1 => ?_) (fun c1 => ?_)
      · have h := zif_t h c1
        obtain ⟨x2, ex2, h⟩ := zlet_ex h
        refine lv_iinc (v := x2) (lv' := [(4, .int x2), (6, .int s0), (0, .ref (za G t0)), (1, .int v1), (2, .int v2), (3, .int v3), (5, .int v5)]) hx hb dX12_isMended_128 hl (k := 5) rfl (by rw [ex2]; rfl) (by decide) rfl (fun ls hl => ?_)
        refine lv_goto (tgt := 3) hx hb dX12_isMended_131 (by decide) ?_
        exact ih x2 h H locs ls hw (lv_sub hl [2, 3, 4, 5, 0] rfl)
      · have h := zif_f h c1
        refine lv_iload hx hb dX12_isMended_121 (lv_at hl 0 rfl) ?_
        refine lv_if_eq (tgt := 128) hx hb dX12_isMended_123 (by decide) (fun c3 => ?_) (fun c3 => ?_)
        · have h := zif_t h c3
          obtain ⟨x4, ex4, h⟩ := zlet_ex h
          refine lv_iinc (v := x4) (lv' := [(4, .int x4), (6, .int s0), (0, .ref (za G t0)), (1, .int v1), (2, .int v2), (3, .int v3), (5, .int v5)]) hx hb dX12_isMended_128 hl (k := 5) rfl (by rw [ex4]; rfl) (by decide) rfl (fun ls hl => ?_)
          refine lv_goto (tgt := 3) hx hb dX12_isMended_131 (by decide) ?_
          exact ih x4 h H locs ls hw (lv_sub hl [2, 3, 4, 5, 0] rfl)
        · have h := zif_f h c3
          refine lv_iconst (v := 0) hx hb dX12_isMended_126 (by decide) ?_
          have h := Option.some.inj h
          subst h
          exact z_ret_z S hr hlk (Or.inl rfl) hw dX12_isMended_127
    obtain ⟨J109, hJ109, h⟩ := zlet_ex h
    have wJ109 : ∀ (v4 : Int32) (v5 : Int32), J109 v4 v5 = some res → ∀ (H : Heap) (locs : List Loc) (ls : Array Slot), zWd G A s H locs M → lv_has ls 7 [(0, .ref (za G t0)), (1, .int v1), (2, .int v2), (3, .int v3), (4, .int v4), (5, .int v5)] → W p l e (zR 1) s m args below meth c H locs 0 0 (zQ below G A (some (.int res)) M args s) (F0 m 109 ls []) := by
      intro v4 v5 h H locs ls hw hl
      subst hJ109
      refine lv_iconst (v := 1) hx hb dX12_isMended_109 (by decide) ?_
      refine lv_goto (tgt := 114) hx hb dX12_isMended_110 (by decide) ?_
      exact wJ114 v4 v5 1 h H locs ls hw (lv_sub hl [0, 1, 2, 3, 4, 5] rfl)
    obtain ⟨J72, hJ72, h⟩ := zlet_ex h
    have wJ72 : ∀ (v4 : Int32) (s0 : Int32), J72 v4 s0 = some res → ∀ (H : Heap) (locs : List Loc) (ls : Array Slot), zWd G A s H locs M → lv_has ls 7 [(0, .ref (za G t0)), (1, .int v1), (2, .int v2), (3, .int v3), (4, .int v4)] → W p l e (zR 1) s m args below meth c H locs 0 0 (zQ below G A (some (.int res)) M args s) (F0 m 72 ls [.int s0]) := by
      intro v4 s0 h H locs ls hw hl
      subst hJ72
      refine lv_istore (lv' := [(5, .int s0), (0, .ref (za G t0)), (1, .int v1), (2, .int v2), (3, .int v3), (4, .int v4)]) hx hb dX12_isMended_72 hl (by decide) rfl (fun ls hl => ?_)
      refine lv_iload_n hx hb dX12_isMended_74 rfl (lv_at hl 4 rfl) ?_
      refine lv_if_lt (tgt := 109) hx hb dX12_isMended_75 (by decide) (fun c5 => ?_) (fun c5 => ?_)
      · have h := zif_t h c5
        exact wJ109 v4 s0 h H locs ls hw (lv_sub hl [1, 2, 3, 4, 5, 0] rfl)
      · have h := zif_f h c5
        refine lv_aload_n hx hb dX12_isMended_78 rfl (lv_at hl 1 rfl) ?_
        refine lv_iload hx hb dX12_isMended_79 (lv_at hl 5 rfl) ?_
        refine lv_aload_n hx hb dX12_isMended_81 rfl (lv_at hl 1 rfl) ?_
        refine z_getR S hw k0 fl_X12_47 rfl dX12_isMended_82 ?_
        refine lv_bipush (v := 21) hx hb dX12_isMended_85 (by decide) ?_
        refine lv_iload_n hx hb dX12_isMended_87 rfl (lv_at hl 2 rfl) ?_
        refine lv_imul hx hb dX12_isMended_88 ?_
        refine lv_iload_n hx hb dX12_isMended_89 rfl (lv_at hl 4 rfl) ?_
        refine lv_iadd hx hb dX12_isMended_90 ?_
        obtain ⟨g6, h⟩ := zck_ex h
        refine z_iald S hw (kr_12_20 hG k0) g6 dX12_isMended_91 ?_
        refine lv_aload_n hx hb dX12_isMended_92 rfl (lv_at hl 1 rfl) ?_
        refine z_getR S hw k0 fl_X12_50 rfl dX12_isMended_93 ?_
        refine lv_bipush (v := 21) hx hb dX12_isMended_96 (by decide) ?_
        refine lv_iload_n hx hb dX12_isMended_98 rfl (lv_at hl 2 rfl) ?_
        refine lv_imul hx hb dX12_isMended_99 ?_
        refine lv_iload_n hx hb dX12_isMended_100 rfl (lv_at hl 4 rfl) ?_
        refine lv_iadd hx hb dX12_isMended_101 ?_
        obtain ⟨g7, h⟩ := zck_ex h
        refine z_iald S hw (kr_12_21 hG k0) g7 dX12_isMended_102 ?_
        obtain ⟨q8, eq8, h⟩ := Option.bind_eq_some_iff.mp h
        refine z_callV (ci := 12) (As := [.int v4, .int (M.1 (zr t0 20) ((21 * v1) + v3).toNatClampNeg), .int (M.1 (zr t0 21) ((21 * v1) + v3).toNatClampNeg)]) (rest := []) (rv := (some (.int q8))) (M1 := M) S hw (c_X12_has l hG t0 v4 (M.1 (zr t0 20) ((21 * v1) + v3).toNatClampNeg) (M.1 (zr t0 21) ((21 * v1) + v3).toNatClampNeg) k0 M q8 eq8) mv_X12_has lk_X12_209 k0 ⟨_, _, rfl⟩ (by decide) rfl rfl (Nat.le_of_ble_eq_true rfl) ⟨Nat.le_of_ble_eq_true rfl, Nat.le_of_ble_eq_true rfl⟩ hl.1 dX12_isMended_103 (fun H locs hw => ?_)
        refine lv_if_eq (tgt := 113) hx hb dX12_isMended_106 (by decide) (fun c9 => ?_) (fun c9 => ?_)
        · have h := zif_t h c9
          refine lv_iconst (v := 0) hx hb dX12_isMended_113 (by decide) ?_
          exact wJ114 v4 s0 0 h H locs ls hw (lv_sub hl [1, 2, 3, 4, 5, 0] rfl)
        · have h := zif_f h c9
          exact wJ109 v4 s0 h H locs ls hw (lv_sub hl [1, 2, 3, 4, 5, 0] rfl)
    obtain ⟨J67, hJ67, h⟩ := zlet_ex h
    have wJ67 : ∀ (v4 : Int32), J67 v4 = some res → ∀ (H : Heap) (locs : List Loc) (ls : Array Slot), zWd G A s H locs M → lv_has ls 7 [(0, .ref (za G t0)), (1, .int v1), (2, .int v2), (3, .int v3), (4, .int v4)] → W p l e (zR 1) s m args below meth c H locs 0 0 (zQ below G A (some (.int res)) M args s) (F0 m 67 ls []) := by
      intro v4 h H locs ls hw hl
      subst hJ67
      refine lv_iconst (v := 1) hx hb dX12_isMended_67 (by decide) ?_
      refine lv_goto (tgt := 72) hx hb dX12_isMended_68 (by decide) ?_
      exact wJ72 v4 1 h H locs ls hw (lv_sub hl [0, 1, 2, 3, 4] rfl)
    refine lv_iload hx hb dX12_isMended_3 (lv_at hl 4 rfl) ?_
    refine lv_aload_n hx hb dX12_isMended_5 rfl (lv_at hl 0 rfl) ?_
    refine z_getI S hw k0 fl_X12_129 rfl dX12_isMended_6 ?_
    refine lv_icmp_ge (tgt := 134) hx hb dX12_isMended_9 (by decide) (fun c10 => ?_) (fun c10 => ?_)
    · have h := zif_t h c10
      exact hK  h H locs ls hw (lv_sub hl [] rfl)
    · have h := zif_f h c10
      refine lv_aload_n hx hb dX12_isMended_12 rfl (lv_at hl 0 rfl) ?_
      refine z_getR S hw k0 fl_X12_62 rfl dX12_isMended_13 ?_
      refine lv_iload hx hb dX12_isMended_16 (lv_at hl 4 rfl) ?_
      obtain ⟨g11, h⟩ := zck_ex h
      refine z_lald S hw (kr_12_25 hG k0) g11 dX12_isMended_18 ?_
      refine lv_aload_n hx hb dX12_isMended_19 rfl (lv_at hl 0 rfl) ?_
      refine z_getR S hw k0 fl_X12_62 rfl dX12_isMended_20 ?_
      refine lv_iload_n hx hb dX12_isMended_23 rfl (lv_at hl 1 rfl) ?_
      obtain ⟨g12, h⟩ := zck_ex h
      refine z_lald S hw (kr_12_25 hG k0) g12 dX12_isMended_24 ?_
      refine W.lcmp hx hb dX12_isMended_25 ?_
      refine lv_if_ne (tgt := 32) hx hb dX12_isMended_26 (by decide) (fun c13 => ?_) (fun c13 => ?_)
      · have h := zif_f h c13
        refine lv_iload_n hx hb dX12_isMended_32 rfl (lv_at hl 2 rfl) ?_
        refine lv_if_lt (tgt := 67) hx hb dX12_isMended_33 (by decide) (fun c14 => ?_) (fun c14 => ?_)
        · have h := zif_t h c14
          exact wJ67 v4 h H locs ls hw (lv_sub hl [0, 1, 2, 3, 4] rfl)
        · have h := zif_f h c14
          refine lv_aload_n hx hb dX12_isMended_36 rfl (lv_at hl 0 rfl) ?_
          refine lv_iload hx hb dX12_isMended_37 (lv_at hl 4 rfl) ?_
          refine lv_aload_n hx hb dX12_isMended_39 rfl (lv_at hl 0 rfl) ?_
          refine z_getR S hw k0 fl_X12_47 rfl dX12_isMended_40 ?_
          refine lv_bipush (v := 21) hx hb dX12_isMended_43 (by decide) ?_
          refine lv_iload_n hx hb dX12_isMended_45 rfl (lv_at hl 1 rfl) ?_
          refine lv_imul hx hb dX12_isMended_46 ?_
          refine lv_iload_n hx hb dX12_isMended_47 rfl (lv_at hl 2 rfl) ?_
          refine lv_iadd hx hb dX12_isMended_48 ?_
          obtain ⟨g15, h⟩ := zck_ex h
          refine z_iald S hw (kr_12_20 hG k0) g15 dX12_isMended_49 ?_
          refine lv_aload_n hx hb dX12_isMended_50 rfl (lv_at hl 0 rfl) ?_
          refine z_getR S hw k0 fl_X12_50 rfl dX12_isMended_51 ?_
          refine lv_bipush (v := 21) hx hb dX12_isMended_54 (by decide) ?_
          refine lv_iload_n hx hb dX12_isMended_56 rfl (lv_at hl 1 rfl) ?_
          refine lv_imul hx hb dX12_isMended_57 ?_
          refine lv_iload_n hx hb dX12_isMended_58 rfl (lv_at hl 2 rfl) ?_
          refine lv_iadd hx hb dX12_isMended_59 ?_
          obtain ⟨g16, h⟩ := zck_ex h
          refine z_iald S hw (kr_12_21 hG k0) g16 dX12_isMended_60 ?_
          obtain ⟨q17, eq17, h⟩ := Option.bind_eq_some_iff.mp h
          refine z_callV (ci := 12) (As := [.int v4, .int (M.1 (zr t0 20) ((21 * v1) + v2).toNatClampNeg), .int (M.1 (zr t0 21) ((21 * v1) + v2).toNatClampNeg)]) (rest := []) (rv := (some (.int q17))) (M1 := M) S hw (c_X12_has l hG t0 v4 (M.1 (zr t0 20) ((21 * v1) + v2).toNatClampNeg) (M.1 (zr t0 21) ((21 * v1) + v2).toNatClampNeg) k0 M q17 eq17) mv_X12_has lk_X12_209 k0 ⟨_, _, rfl⟩ (by decide) rfl rfl (Nat.le_of_ble_eq_true rfl) ⟨Nat.le_of_ble_eq_true rfl, Nat.le_of_ble_eq_true rfl⟩ hl.1 dX12_isMended_61 (fun H locs hw => ?_)
          refine lv_if_eq (tgt := 71) hx hb dX12_isMended_64 (by decide) (fun c18 => ?_) (fun c18 => ?_)
          · have h := zif_t h c18
            refine lv_iconst (v := 0) hx hb dX12_isMended_71 (by decide) ?_
            exact wJ72 v4 0 h H locs ls hw (lv_sub hl [0, 1, 2, 3, 4] rfl)
          · have h := zif_f h c18
            exact wJ67 v4 h H locs ls hw (lv_sub hl [0, 1, 2, 3, 4] rfl)
      · have h := zif_t h c13
        refine lv_goto (tgt := 128) hx hb dX12_isMended_29 (by decide) ?_
        obtain ⟨x19, ex19, h⟩ := zlet_ex h
        refine lv_iinc (v := x19) (lv' := [(4, .int x19), (0, .ref (za G t0)), (1, .int v1), (2, .int v2), (3, .int v3)]) hx hb dX12_isMended_128 hl (k := 4) rfl (by rw [ex19]; rfl) (by decide) rfl (fun ls hl => ?_)
        refine lv_goto (tgt := 3) hx hb dX12_isMended_131 (by decide) ?_
        exact ih x19 h H locs ls hw (lv_sub hl [1, 2, 3, 4, 0] rfl)
set_option maxHeartbeats 4000000 in
set_option maxRecDepth 100000 in
theorem c_X12_isMended (l : Launch) {G : ZG} (hG : zOk G) (t0 : Nat) (v1 : Int32) (v2 : Int32) (v3 : Int32) (k0 : zk G t0 = 22) (M : ZM) (res : Int32) (h : f_X12_isMended t0 v1 v2 v3 M = some res) : zCt l yX12_isMended cX12_isMended 7 (Option.some FieldType.boolean) 1 G [.ref (za G t0), .int v1, .int v2, .int v3] M (some (.int res)) M := by
  refine zCt.mk (by decide +kernel) (Nat.le_of_ble_eq_true rfl) ?_
  intro p e s m args below meth c A H locs ls S hr hlk hw hl
  have S : zX p (zR 1) s m args c 0 0 cX12_isMended 7 RX12 := S
  have hx := S.1.1
  have hb := S.1.2.1
  have hown := S.1.2.2.2.1
  have hts := S.1.2.2.2.2
  have hl : lv_has ls 7 [(0, .ref (za G t0)), (1, .int v1), (2, .int v2), (3, .int v3)] := hl
  unfold f_X12_isMended at h
  refine lv_iconst (v := 0) hx hb dX12_isMended_0 (by decide) ?_
  refine lv_istore (lv' := [(4, .int 0), (0, .ref (za G t0)), (1, .int v1), (2, .int v2), (3, .int v3)]) hx hb dX12_isMended_1 hl (by decide) rfl (fun ls hl => ?_)
  refine w_X12_isMended_3 hG S hr hlk t0 v1 v2 v3 k0 M (fun h H locs ls hw hl => ?_) zN 0 h H locs ls hw (lv_sub hl [1, 2, 3, 4, 0] rfl)
  refine lv_iconst (v := 1) hx hb dX12_isMended_134 (by decide) ?_
  have h := Option.some.inj h
  subst h
  exact z_ret_z S hr hlk (Or.inr rfl) hw dX12_isMended_135
def f_X12_mend_32 (t0 : Nat) (v1 : Int32) (K : ZM → Option (Int32 × ZM)) : Nat → Int32 → ZM → Option (Int32 × ZM)
  | 0, _, _ => none
  | n + 1, v3, M =>
    zck (zin v1 (zn (zr t0 22))) <|
    if (M.1 (zr t0 22) v1.toNatClampNeg) ≤ v3 then (
      K M) else (
      (f_X12_isMark t0 v1 v3 M).bind fun (q7 : Int32) =>
      if q7 = 0 then (
        zlet (v3 + 1) fun (x9 : Int32) =>
        f_X12_mend_32 t0 v1 K n x9 M) else (
        (f_X12_isMended t0 v1 v3 (-9) M).bind fun (q10 : Int32) =>
        if q10 = 0 then (
          zlet (v3 + 1) fun (x12 : Int32) =>
          f_X12_mend_32 t0 v1 K n x12 M) else (
          some ((1 : Int32), M))))

def f_X12_mend_85 (t0 : Nat) (v1 : Int32) (v3 : Int32) (K : ZM → Option (Int32 × ZM)) : Nat → Int32 → ZM → Option (Int32 × ZM)
  | 0, _, _ => none
  | n + 1, v4, M =>
    if v3 ≤ v4 then (
      K M) else (
      (f_X12_isMark t0 v1 v3 M).bind fun (q16 : Int32) =>
      if q16 = 0 then (
        zlet (v4 + 1) fun (x18 : Int32) =>
        f_X12_mend_85 t0 v1 v3 K n x18 M) else (
        (f_X12_isMark t0 v1 v4 M).bind fun (q19 : Int32) =>
        if q19 = 0 then (
          zlet (v4 + 1) fun (x21 : Int32) =>
          f_X12_mend_85 t0 v1 v3 K n x21 M) else (
          (f_X12_isMended t0 v1 v3 v4 M).bind fun (q22 : Int32) =>
          if q22 = 0 then (
            zlet (v4 + 1) fun (x24 : Int32) =>
            f_X12_mend_85 t0 v1 v3 K n x24 M) else (
            some ((2 : Int32), M)))))

def f_X12_mend_72 (t0 : Nat) (v1 : Int32) (K : ZM → Option (Int32 × ZM)) : Nat → Int32 → ZM → Option (Int32 × ZM)
  | 0, _, _ => none
  | n + 1, v3, M =>
    zck (zin v1 (zn (zr t0 22))) <|
    if (M.1 (zr t0 22) v1.toNatClampNeg) ≤ v3 then (
      K M) else (
      f_X12_mend_85 t0 v1 v3 (fun (M : ZM) =>
        zlet (v3 + 1) fun (x25 : Int32) =>
        f_X12_mend_72 t0 v1 K n x25 M) zN 0 M)

def f_X12_mend (t0 : Nat) (v1 : Int32) (M : ZM) : Option (Int32 × ZM) :=
  zlet (f_X12_wrong t0 v1 M) fun (q1 : Int32) =>
  if q1 = 0 then (
    (f_X12_isMended t0 v1 (-9) (-9) M).bind fun (q3 : Int32) =>
    if q3 = 0 then (
      f_X12_mend_32 t0 v1 (fun (M : ZM) =>
        f_X12_mend_72 t0 v1 (fun (M : ZM) =>
          some (((-9) : Int32), M)) zN 0 M) zN 0 M) else (
      some ((0 : Int32), M))) else (
    (f_X12_refuse t0 q1 M).bind fun (q26 : (Int32 × ZM)) =>
    some (q26.1, q26.2))
set_option maxHeartbeats 4000000 in
set_option maxRecDepth 100000 in
theorem w_X12_mend_32 {G : ZG} (hG : zOk G) (S : zX p (zR 2) s m args c 0 0 cX12_mend 5 RX12) (hr : meth.sig.returnType = (Option.some FieldType.int)) (hlk : meth.locks = false) (t0 : Nat) (v1 : Int32) (k0 : zk G t0 = 22)  {K : ZM → Option (Int32 × ZM)} {res : (Int32 × ZM)} (hK : ∀  (M : ZM), K M = some res → ∀ (H : Heap) (locs : List Loc) (ls : Array Slot), zWd G A s H locs M → lv_has ls 5 [(0, .ref (za G t0)), (1, .int v1)] → W p l e (zR 2) s m args below meth c H locs 0 0 (zQ below G A (some (.int res.1)) res.2 args s) (F0 m 70 ls [])) : ∀ (n : Nat) (v3 : Int32) (M : ZM), f_X12_mend_32 t0 v1 K n v3 M = some res → ∀ (H : Heap) (locs : List Loc) (ls : Array Slot), zWd G A s H locs M → lv_has ls 5 [(0, .ref (za G t0)), (1, .int v1), (3, .int v3)] → W p l e (zR 2) s m args below meth c H locs 0 0 (zQ below G A (some (.int res.1)) res.2 args s) (F0 m 32 ls []) := by
  have hx := S.1.1
  have hb := S.1.2.1
  have hown := S.1.2.2.2.1
  have hts := S.1.2.2.2.2
  intro n
  induction n with
  | zero =>
    intro v3 M h
    rw [f_X12_mend_32] at h
    cases h
  | succ n ih =>
    intro v3 M h H locs ls hw hl
    rw [f_X12_mend_32] at h
    refine lv_iload_n hx hb dX12_mend_32 rfl (lv_at hl 2 rfl) ?_
    refine lv_aload_n hx hb dX12_mend_33 rfl (lv_at hl 0 rfl) ?_
    refine z_getR S hw k0 fl_X12_53 rfl dX12_mend_34 ?_
    refine lv_iload_n hx hb dX12_mend_37 rfl (lv_at hl 1 rfl) ?_
    obtain ⟨g5, h⟩ := zck_ex h
    refine z_iald S hw (kr_12_22 hG k0) g5 dX12_mend_38 ?_
    refine lv_icmp_ge (tgt := 70) hx hb dX12_mend_39 (by decide) (fun c6 => ?_) (fun c6 => ?_)
    · have h := zif_t h c6
      exact hK M h H locs ls hw (lv_sub hl [0, 1] rfl)
    · have h := zif_f h c6
      refine lv_aload_n hx hb dX12_mend_42 rfl (lv_at hl 0 rfl) ?_
      refine lv_iload_n hx hb dX12_mend_43 rfl (lv_at hl 1 rfl) ?_
      refine lv_iload_n hx hb dX12_mend_44 rfl (lv_at hl 2 rfl) ?_
      obtain ⟨q7, eq7, h⟩ := Option.bind_eq_some_iff.mp h
      refine z_callV (ci := 12) (As := [.int v1, .int v3]) (rest := []) (rv := (some (.int q7))) (M1 := M) S hw (c_X12_isMark l hG t0 v1 v3 k0 M q7 eq7) mv_X12_isMark lk_X12_216 k0 ⟨_, _, rfl⟩ (by decide) rfl rfl (Nat.le_of_ble_eq_true rfl) ⟨Nat.le_of_ble_eq_true rfl, Nat.le_of_ble_eq_true rfl⟩ hl.1 dX12_mend_45 (fun H locs hw => ?_)
      refine lv_if_eq (tgt := 64) hx hb dX12_mend_48 (by decide) (fun c8 => ?_) (fun c8 => ?_)
      · have h := zif_t h c8
        obtain ⟨x9, ex9, h⟩ := zlet_ex h
        refine lv_iinc (v := x9) (lv' := [(3, .int x9), (0, .ref (za G t0)), (1, .int v1)]) hx hb dX12_mend_64 hl (k := 2) rfl (by rw [ex9]; rfl) (by decide) rfl (fun ls hl => ?_)
        refine lv_goto (tgt := 32) hx hb dX12_mend_67 (by decide) ?_
        exact ih x9 M h H locs ls hw (lv_sub hl [1, 2, 0] rfl)
      · have h := zif_f h c8
        refine lv_aload_n hx hb dX12_mend_51 rfl (lv_at hl 0 rfl) ?_
        refine lv_iload_n hx hb dX12_mend_52 rfl (lv_at hl 1 rfl) ?_
        refine lv_iload_n hx hb dX12_mend_53 rfl (lv_at hl 2 rfl) ?_
        refine lv_bipush (v := (-9)) hx hb dX12_mend_54 (by decide) ?_
        obtain ⟨q10, eq10, h⟩ := Option.bind_eq_some_iff.mp h
        refine z_callV (ci := 12) (As := [.int v1, .int v3, .int (-9)]) (rest := []) (rv := (some (.int q10))) (M1 := M) S hw (c_X12_isMended l hG t0 v1 v3 (-9) k0 M q10 eq10) mv_X12_isMended lk_X12_213 k0 ⟨_, _, rfl⟩ (by decide) rfl rfl (Nat.le_of_ble_eq_true rfl) ⟨Nat.le_of_ble_eq_true rfl, Nat.le_of_ble_eq_true rfl⟩ hl.1 dX12_mend_56 (fun H locs hw => ?_)
        refine lv_if_eq (tgt := 64) hx hb dX12_mend_59 (by decide) (fun c11 => ?_) (fun c11 => ?_)
        · have h := zif_t h c11
          obtain ⟨x12, ex12, h⟩ := zlet_ex h
          refine lv_iinc (v := x12) (lv' := [(3, .int x12), (0, .ref (za G t0)), (1, .int v1)]) hx hb dX12_mend_64 hl (k := 2) rfl (by rw [ex12]; rfl) (by decide) rfl (fun ls hl => ?_)
          refine lv_goto (tgt := 32) hx hb dX12_mend_67 (by decide) ?_
          exact ih x12 M h H locs ls hw (lv_sub hl [1, 2, 0] rfl)
        · have h := zif_f h c11
          refine lv_iconst (v := 1) hx hb dX12_mend_62 (by decide) ?_
          have h := Option.some.inj h
          subst h
          exact z_ret_i S hr hlk hw dX12_mend_63
set_option maxHeartbeats 4000000 in
set_option maxRecDepth 100000 in
theorem w_X12_mend_85 {G : ZG} (hG : zOk G) (S : zX p (zR 2) s m args c 0 0 cX12_mend 5 RX12) (hr : meth.sig.returnType = (Option.some FieldType.int)) (hlk : meth.locks = false) (t0 : Nat) (v1 : Int32) (v3 : Int32) (k0 : zk G t0 = 22)  {K : ZM → Option (Int32 × ZM)} {res : (Int32 × ZM)} (hK : ∀  (M : ZM), K M = some res → ∀ (H : Heap) (locs : List Loc) (ls : Array Slot), zWd G A s H locs M → lv_has ls 5 [(0, .ref (za G t0)), (1, .int v1), (3, .int v3)] → W p l e (zR 2) s m args below meth c H locs 0 0 (zQ below G A (some (.int res.1)) res.2 args s) (F0 m 129 ls [])) : ∀ (n : Nat) (v4 : Int32) (M : ZM), f_X12_mend_85 t0 v1 v3 K n v4 M = some res → ∀ (H : Heap) (locs : List Loc) (ls : Array Slot), zWd G A s H locs M → lv_has ls 5 [(0, .ref (za G t0)), (1, .int v1), (3, .int v3), (4, .int v4)] → W p l e (zR 2) s m args below meth c H locs 0 0 (zQ below G A (some (.int res.1)) res.2 args s) (F0 m 85 ls []) := by
  have hx := S.1.1
  have hb := S.1.2.1
  have hown := S.1.2.2.2.1
  have hts := S.1.2.2.2.2
  intro n
  induction n with
  | zero =>
    intro v4 M h
    rw [f_X12_mend_85] at h
    cases h
  | succ n ih =>
    intro v4 M h H locs ls hw hl
    rw [f_X12_mend_85] at h
    refine lv_iload hx hb dX12_mend_85 (lv_at hl 3 rfl) ?_
    refine lv_iload_n hx hb dX12_mend_87 rfl (lv_at hl 2 rfl) ?_
    refine lv_icmp_ge (tgt := 129) hx hb dX12_mend_88 (by decide) (fun c15 => ?_) (fun c15 => ?_)
    · have h := zif_t h c15
      exact hK M h H locs ls hw (lv_sub hl [0, 1, 2] rfl)
    · have h := zif_f h c15
      refine lv_aload_n hx hb dX12_mend_91 rfl (lv_at hl 0 rfl) ?_
      refine lv_iload_n hx hb dX12_mend_92 rfl (lv_at hl 1 rfl) ?_
      refine lv_iload_n hx hb dX12_mend_93 rfl (lv_at hl 2 rfl) ?_
      obtain ⟨q16, eq16, h⟩ := Option.bind_eq_some_iff.mp h
      refine z_callV (ci := 12) (As := [.int v1, .int v3]) (rest := []) (rv := (some (.int q16))) (M1 := M) S hw (c_X12_isMark l hG t0 v1 v3 k0 M q16 eq16) mv_X12_isMark lk_X12_216 k0 ⟨_, _, rfl⟩ (by decide) rfl rfl (Nat.le_of_ble_eq_true rfl) ⟨Nat.le_of_ble_eq_true rfl, Nat.le_of_ble_eq_true rfl⟩ hl.1 dX12_mend_94 (fun H locs hw => ?_)
      refine lv_if_eq (tgt := 123) hx hb dX12_mend_97 (by decide) (fun c17 => ?_) (fun c17 => ?_)
      · have h := zif_t h c17
        obtain ⟨x18, ex18, h⟩ := zlet_ex h
        refine lv_iinc (v := x18) (lv' := [(4, .int x18), (0, .ref (za G t0)), (1, .int v1), (3, .int v3)]) hx hb dX12_mend_123 hl (k := 3) rfl (by rw [ex18]; rfl) (by decide) rfl (fun ls hl => ?_)
        refine lv_goto (tgt := 85) hx hb dX12_mend_126 (by decide) ?_
        exact ih x18 M h H locs ls hw (lv_sub hl [1, 2, 3, 0] rfl)
      · have h := zif_f h c17
        refine lv_aload_n hx hb dX12_mend_100 rfl (lv_at hl 0 rfl) ?_
        refine lv_iload_n hx hb dX12_mend_101 rfl (lv_at hl 1 rfl) ?_
        refine lv_iload hx hb dX12_mend_102 (lv_at hl 3 rfl) ?_
        obtain ⟨q19, eq19, h⟩ := Option.bind_eq_some_iff.mp h
        refine z_callV (ci := 12) (As := [.int v1, .int v4]) (rest := []) (rv := (some (.int q19))) (M1 := M) S hw (c_X12_isMark l hG t0 v1 v4 k0 M q19 eq19) mv_X12_isMark lk_X12_216 k0 ⟨_, _, rfl⟩ (by decide) rfl rfl (Nat.le_of_ble_eq_true rfl) ⟨Nat.le_of_ble_eq_true rfl, Nat.le_of_ble_eq_true rfl⟩ hl.1 dX12_mend_104 (fun H locs hw => ?_)
        refine lv_if_eq (tgt := 123) hx hb dX12_mend_107 (by decide) (fun c20 => ?_) (fun c20 => ?_)
        · have h := zif_t h c20
          obtain ⟨x21, ex21, h⟩ := zlet_ex h
          refine lv_iinc (v := x21) (lv' := [(4, .int x21), (0, .ref (za G t0)), (1, .int v1), (3, .int v3)]) hx hb dX12_mend_123 hl (k := 3) rfl (by rw [ex21]; rfl) (by decide) rfl (fun ls hl => ?_)
          refine lv_goto (tgt := 85) hx hb dX12_mend_126 (by decide) ?_
          exact ih x21 M h H locs ls hw (lv_sub hl [1, 2, 3, 0] rfl)
        · have h := zif_f h c20
          refine lv_aload_n hx hb dX12_mend_110 rfl (lv_at hl 0 rfl) ?_
          refine lv_iload_n hx hb dX12_mend_111 rfl (lv_at hl 1 rfl) ?_
          refine lv_iload_n hx hb dX12_mend_112 rfl (lv_at hl 2 rfl) ?_
          refine lv_iload hx hb dX12_mend_113 (lv_at hl 3 rfl) ?_
          obtain ⟨q22, eq22, h⟩ := Option.bind_eq_some_iff.mp h
          refine z_callV (ci := 12) (As := [.int v1, .int v3, .int v4]) (rest := []) (rv := (some (.int q22))) (M1 := M) S hw (c_X12_isMended l hG t0 v1 v3 v4 k0 M q22 eq22) mv_X12_isMended lk_X12_213 k0 ⟨_, _, rfl⟩ (by decide) rfl rfl (Nat.le_of_ble_eq_true rfl) ⟨Nat.le_of_ble_eq_true rfl, Nat.le_of_ble_eq_true rfl⟩ hl.1 dX12_mend_115 (fun H locs hw => ?_)
          refine lv_if_eq (tgt := 123) hx hb dX12_mend_118 (by decide) (fun c23 => ?_) (fun c23 => ?_)
          · have h := zif_t h c23
            obtain ⟨x24, ex24, h⟩ := zlet_ex h
            refine lv_iinc (v := x24) (lv' := [(4, .int x24), (0, .ref (za G t0)), (1, .int v1), (3, .int v3)]) hx hb dX12_mend_123 hl (k := 3) rfl (by rw [ex24]; rfl) (by decide) rfl (fun ls hl => ?_)
            refine lv_goto (tgt := 85) hx hb dX12_mend_126 (by decide) ?_
            exact ih x24 M h H locs ls hw (lv_sub hl [1, 2, 3, 0] rfl)
          · have h := zif_f h c23
            refine lv_iconst (v := 2) hx hb dX12_mend_121 (by decide) ?_
            have h := Option.some.inj h
            subst h
            exact z_ret_i S hr hlk hw dX12_mend_122
set_option maxHeartbeats 4000000 in
set_option maxRecDepth 100000 in
theorem w_X12_mend_72 {G : ZG} (hG : zOk G) (S : zX p (zR 2) s m args c 0 0 cX12_mend 5 RX12) (hr : meth.sig.returnType = (Option.some FieldType.int)) (hlk : meth.locks = false) (t0 : Nat) (v1 : Int32) (k0 : zk G t0 = 22)  {K : ZM → Option (Int32 × ZM)} {res : (Int32 × ZM)} (hK : ∀  (M : ZM), K M = some res → ∀ (H : Heap) (locs : List Loc) (ls : Array Slot), zWd G A s H locs M → lv_has ls 5 [] → W p l e (zR 2) s m args below meth c H locs 0 0 (zQ below G A (some (.int res.1)) res.2 args s) (F0 m 135 ls [])) : ∀ (n : Nat) (v3 : Int32) (M : ZM), f_X12_mend_72 t0 v1 K n v3 M = some res → ∀ (H : Heap) (locs : List Loc) (ls : Array Slot), zWd G A s H locs M → lv_has ls 5 [(0, .ref (za G t0)), (1, .int v1), (3, .int v3)] → W p l e (zR 2) s m args below meth c H locs 0 0 (zQ below G A (some (.int res.1)) res.2 args s) (F0 m 72 ls []) := by
  have hx := S.1.1
  have hb := S.1.2.1
  have hown := S.1.2.2.2.1
  have hts := S.1.2.2.2.2
  intro n
  induction n with
  | zero =>
    intro v3 M h
    rw [f_X12_mend_72] at h
    cases h
  | succ n ih =>
    intro v3 M h H locs ls hw hl
    rw [f_X12_mend_72] at h
    refine lv_iload_n hx hb dX12_mend_72 rfl (lv_at hl 2 rfl) ?_
    refine lv_aload_n hx hb dX12_mend_73 rfl (lv_at hl 0 rfl) ?_
    refine z_getR S hw k0 fl_X12_53 rfl dX12_mend_74 ?_
    refine lv_iload_n hx hb dX12_mend_77 rfl (lv_at hl 1 rfl) ?_
    obtain ⟨g13, h⟩ := zck_ex h
    refine z_iald S hw (kr_12_22 hG k0) g13 dX12_mend_78 ?_
    refine lv_icmp_ge (tgt := 135) hx hb dX12_mend_79 (by decide) (fun c14 => ?_) (fun c14 => ?_)
    · have h := zif_t h c14
      exact hK M h H locs ls hw (lv_sub hl [] rfl)
    · have h := zif_f h c14
      refine lv_iconst (v := 0) hx hb dX12_mend_82 (by decide) ?_
      refine lv_istore (lv' := [(4, .int 0), (0, .ref (za G t0)), (1, .int v1), (3, .int v3)]) hx hb dX12_mend_83 hl (by decide) rfl (fun ls hl => ?_)
      refine w_X12_mend_85 hG S hr hlk t0 v1 v3 k0 (fun M h H locs ls hw hl => ?_) zN 0 M h H locs ls hw (lv_sub hl [1, 2, 3, 0] rfl)
      obtain ⟨x25, ex25, h⟩ := zlet_ex h
      refine lv_iinc (v := x25) (lv' := [(3, .int x25), (0, .ref (za G t0)), (1, .int v1)]) hx hb dX12_mend_129 hl (k := 2) rfl (by rw [ex25]; rfl) (by decide) rfl (fun ls hl => ?_)
      refine lv_goto (tgt := 72) hx hb dX12_mend_132 (by decide) ?_
      exact ih x25 M h H locs ls hw (lv_sub hl [1, 2, 0] rfl)
set_option maxHeartbeats 4000000 in
set_option maxRecDepth 100000 in
theorem c_X12_mend (l : Launch) {G : ZG} (hG : zOk G) (t0 : Nat) (v1 : Int32) (k0 : zk G t0 = 22) (M : ZM) (res : (Int32 × ZM)) (h : f_X12_mend t0 v1 M = some res) : zCt l yX12_mend cX12_mend 5 (Option.some FieldType.int) 2 G [.ref (za G t0), .int v1] M (some (.int res.1)) res.2 := by
  refine zCt.mk (by decide +kernel) (Nat.le_of_ble_eq_true rfl) ?_
  intro p e s m args below meth c A H locs ls S hr hlk hw hl
  have S : zX p (zR 2) s m args c 0 0 cX12_mend 5 RX12 := S
  have hx := S.1.1
  have hb := S.1.2.1
  have hown := S.1.2.2.2.1
  have hts := S.1.2.2.2.2
  have hl : lv_has ls 5 [(0, .ref (za G t0)), (1, .int v1)] := hl
  unfold f_X12_mend at h
  refine lv_aload_n hx hb dX12_mend_0 rfl (lv_at hl 0 rfl) ?_
  refine lv_iload_n hx hb dX12_mend_1 rfl (lv_at hl 1 rfl) ?_
  obtain ⟨q1, eq1, h⟩ := zlet_ex h
  refine z_callV (ci := 12) (As := [.int v1]) (rest := []) (rv := (some (.int q1))) (M1 := M) S hw (c_X12_wrong l hG t0 v1 k0 M q1 eq1.symm) mv_X12_wrong lk_X12_176 k0 ⟨_, _, rfl⟩ (by decide) rfl rfl (Nat.le_of_ble_eq_true rfl) ⟨Nat.le_of_ble_eq_true rfl, Nat.le_of_ble_eq_true rfl⟩ hl.1 dX12_mend_2 (fun H locs hw => ?_)
  refine lv_istore_n (lv' := [(2, .int q1), (0, .ref (za G t0)), (1, .int v1)]) hx hb dX12_mend_5 rfl hl (by decide) rfl (fun ls hl => ?_)
  refine lv_iload_n hx hb dX12_mend_6 rfl (lv_at hl 0 rfl) ?_
  refine lv_if_eq (tgt := 16) hx hb dX12_mend_7 (by decide) (fun c2 => ?_) (fun c2 => ?_)
  · have h := zif_t h c2
    refine lv_aload_n hx hb dX12_mend_16 rfl (lv_at hl 1 rfl) ?_
    refine lv_iload_n hx hb dX12_mend_17 rfl (lv_at hl 2 rfl) ?_
    refine lv_bipush (v := (-9)) hx hb dX12_mend_18 (by decide) ?_
    refine lv_bipush (v := (-9)) hx hb dX12_mend_20 (by decide) ?_
    obtain ⟨q3, eq3, h⟩ := Option.bind_eq_some_iff.mp h
    refine z_callV (ci := 12) (As := [.int v1, .int (-9), .int (-9)]) (rest := []) (rv := (some (.int q3))) (M1 := M) S hw (c_X12_isMended l hG t0 v1 (-9) (-9) k0 M q3 eq3) mv_X12_isMended lk_X12_213 k0 ⟨_, _, rfl⟩ (by decide) rfl rfl (Nat.le_of_ble_eq_true rfl) ⟨Nat.le_of_ble_eq_true rfl, Nat.le_of_ble_eq_true rfl⟩ hl.1 dX12_mend_22 (fun H locs hw => ?_)
    refine lv_if_eq (tgt := 30) hx hb dX12_mend_25 (by decide) (fun c4 => ?_) (fun c4 => ?_)
    · have h := zif_t h c4
      refine lv_iconst (v := 0) hx hb dX12_mend_30 (by decide) ?_
      refine lv_istore_n (lv' := [(3, .int 0), (2, .int q1), (0, .ref (za G t0)), (1, .int v1)]) hx hb dX12_mend_31 rfl hl (by decide) rfl (fun ls hl => ?_)
      refine w_X12_mend_32 hG S hr hlk t0 v1 k0 (fun M h H locs ls hw hl => ?_) zN 0 M h H locs ls hw (lv_sub hl [2, 3, 0] rfl)
      refine lv_iconst (v := 0) hx hb dX12_mend_70 (by decide) ?_
      refine lv_istore_n (lv' := [(3, .int 0), (0, .ref (za G t0)), (1, .int v1)]) hx hb dX12_mend_71 rfl hl (by decide) rfl (fun ls hl => ?_)
      refine w_X12_mend_72 hG S hr hlk t0 v1 k0 (fun M h H locs ls hw hl => ?_) zN 0 M h H locs ls hw (lv_sub hl [1, 2, 0] rfl)
      refine lv_bipush (v := (-9)) hx hb dX12_mend_135 (by decide) ?_
      have h := Option.some.inj h
      subst h
      exact z_ret_i S hr hlk hw dX12_mend_137
    · have h := zif_f h c4
      refine lv_iconst (v := 0) hx hb dX12_mend_28 (by decide) ?_
      have h := Option.some.inj h
      subst h
      exact z_ret_i S hr hlk hw dX12_mend_29
  · have h := zif_f h c2
    refine lv_aload_n hx hb dX12_mend_10 rfl (lv_at hl 1 rfl) ?_
    refine lv_iload_n hx hb dX12_mend_11 rfl (lv_at hl 0 rfl) ?_
    obtain ⟨q26, eq26, h⟩ := Option.bind_eq_some_iff.mp h
    refine z_callV (ci := 12) (As := [.int q1]) (rest := []) (rv := (some (.int q26.1))) (M1 := q26.2) S hw (c_X12_refuse l hG t0 q1 k0 M q26 eq26) mv_X12_refuse lk_X12_91 k0 ⟨_, _, rfl⟩ (by decide) rfl rfl (Nat.le_of_ble_eq_true rfl) ⟨Nat.le_of_ble_eq_true rfl, Nat.le_of_ble_eq_true rfl⟩ hl.1 dX12_mend_12 (fun H locs hw => ?_)
    have h := Option.some.inj h
    subst h
    exact z_ret_i S hr hlk hw dX12_mend_15
def f_X12_aim (t0 : Nat) (v1 : Int32) (v2 : Int32) (M : ZM) : Option (Int32 × ZM) :=
  zlet (fun (v3 : Int32) (M : ZM) =>
    if v3 = 0 then (
      zck (zin (M.1 t0 13) (zn (zr t0 4))) <|
      zlet (zi M (zr t0 4) (M.1 t0 13).toNatClampNeg v1) fun (M3 : ZM) =>
      zck (zin (M3.1 t0 13) (zn (zr t0 5))) <|
      zlet (zi M3 (zr t0 5) (M3.1 t0 13).toNatClampNeg v2) fun (M5 : ZM) =>
      zlet (zi M5 t0 13 ((M5.1 t0 13) + 1)) fun (M6 : ZM) =>
      some ((M6.1 t0 13), M6)) else (
      (f_X12_refuse t0 v3 M).bind fun (q7 : (Int32 × ZM)) =>
      some (q7.1, q7.2))) fun J38 =>
  zlet (fun (s0 : Int32) (M : ZM) =>
    if s0 = 0 then (
      if (M.1 t0 13) = 8 then (
        J38 (-6) M) else (
        J38 s0 M)) else (
      J38 s0 M)) fun J21 =>
  zlet (f_X12_isIn v1 32 M) fun (q10 : Int32) =>
  if q10 = 0 then (
    J21 (-1) M) else (
    zlet (f_X12_within v2 (-99) 99 M) fun (q12 : Int32) =>
    J21 q12 M)
set_option maxHeartbeats 4000000 in
set_option maxRecDepth 100000 in
theorem c_X12_aim (l : Launch) {G : ZG} (hG : zOk G) (t0 : Nat) (v1 : Int32) (v2 : Int32) (k0 : zk G t0 = 22) (M : ZM) (res : (Int32 × ZM)) (h : f_X12_aim t0 v1 v2 M = some res) : zCt l yX12_aim cX12_aim 4 (Option.some FieldType.int) 1 G [.ref (za G t0), .int v1, .int v2] M (some (.int res.1)) res.2 := by
  refine zCt.mk (by decide +kernel) (Nat.le_of_ble_eq_true rfl) ?_
  intro p e s m args below meth c A H locs ls S hr hlk hw hl
  have S : zX p (zR 1) s m args c 0 0 cX12_aim 4 RX12 := S
  have hx := S.1.1
  have hb := S.1.2.1
  have hown := S.1.2.2.2.1
  have hts := S.1.2.2.2.2
  have hl : lv_has ls 4 [(0, .ref (za G t0)), (1, .int v1), (2, .int v2)] := hl
  unfold f_X12_aim at h
  obtain ⟨J38, hJ38, h⟩ := zlet_ex h
  have wJ38 : ∀ (v3 : Int32) (M : ZM), J38 v3 M = some res → ∀ (H : Heap) (locs : List Loc) (ls : Array Slot), zWd G A s H locs M → lv_has ls 4 [(0, .ref (za G t0)), (1, .int v1), (2, .int v2), (3, .int v3)] → W p l e (zR 1) s m args below meth c H locs 0 0 (zQ below G A (some (.int res.1)) res.2 args s) (F0 m 38 ls []) := by
    intro v3 M h H locs ls hw hl
    subst hJ38
    refine lv_iload_n hx hb dX12_aim_38 rfl (lv_at hl 3 rfl) ?_
    refine lv_if_eq (tgt := 48) hx hb dX12_aim_39 (by decide) (fun c1 => ?_) (fun c1 => ?_)
    · have h := zif_t h c1
      refine lv_aload_n hx hb dX12_aim_48 rfl (lv_at hl 0 rfl) ?_
      refine z_getR S hw k0 fl_X12_22 rfl dX12_aim_49 ?_
      refine lv_aload_n hx hb dX12_aim_52 rfl (lv_at hl 0 rfl) ?_
      refine z_getI S hw k0 fl_X12_223 rfl dX12_aim_53 ?_
      refine lv_iload_n hx hb dX12_aim_56 rfl (lv_at hl 1 rfl) ?_
      obtain ⟨g2, h⟩ := zck_ex h
      obtain ⟨M3, eM3, h⟩ := zlet_ex h
      refine z_iast S hw eM3 (kr_12_4 hG k0) g2 dX12_aim_57 (fun H locs hw => ?_)
      refine lv_aload_n hx hb dX12_aim_58 rfl (lv_at hl 0 rfl) ?_
      refine z_getR S hw k0 fl_X12_25 rfl dX12_aim_59 ?_
      refine lv_aload_n hx hb dX12_aim_62 rfl (lv_at hl 0 rfl) ?_
      refine z_getI S hw k0 fl_X12_223 rfl dX12_aim_63 ?_
      refine lv_iload_n hx hb dX12_aim_66 rfl (lv_at hl 2 rfl) ?_
      obtain ⟨g4, h⟩ := zck_ex h
      obtain ⟨M5, eM5, h⟩ := zlet_ex h
      refine z_iast S hw eM5 (kr_12_5 hG k0) g4 dX12_aim_67 (fun H locs hw => ?_)
      refine lv_aload_n hx hb dX12_aim_68 rfl (lv_at hl 0 rfl) ?_
      refine lv_dup hx hb dX12_aim_69 rfl ?_
      refine z_getI S hw k0 fl_X12_223 rfl dX12_aim_70 ?_
      refine lv_iconst (v := 1) hx hb dX12_aim_73 (by decide) ?_
      refine lv_iadd hx hb dX12_aim_74 ?_
      obtain ⟨M6, eM6, h⟩ := zlet_ex h
      refine z_putI S hw eM6 k0 fl_X12_223 rfl (fun h => absurd h (by decide)) dX12_aim_75 (fun H locs hw => ?_)
      refine lv_aload_n hx hb dX12_aim_78 rfl (lv_at hl 0 rfl) ?_
      refine z_getI S hw k0 fl_X12_223 rfl dX12_aim_79 ?_
      have h := Option.some.inj h
      subst h
      exact z_ret_i S hr hlk hw dX12_aim_82
    · have h := zif_f h c1
      refine lv_aload_n hx hb dX12_aim_42 rfl (lv_at hl 0 rfl) ?_
      refine lv_iload_n hx hb dX12_aim_43 rfl (lv_at hl 3 rfl) ?_
      obtain ⟨q7, eq7, h⟩ := Option.bind_eq_some_iff.mp h
      refine z_callV (ci := 12) (As := [.int v3]) (rest := []) (rv := (some (.int q7.1))) (M1 := q7.2) S hw (c_X12_refuse l hG t0 v3 k0 M q7 eq7) mv_X12_refuse lk_X12_91 k0 ⟨_, _, rfl⟩ (by decide) rfl rfl (Nat.le_of_ble_eq_true rfl) ⟨Nat.le_of_ble_eq_true rfl, Nat.le_of_ble_eq_true rfl⟩ hl.1 dX12_aim_44 (fun H locs hw => ?_)
      have h := Option.some.inj h
      subst h
      exact z_ret_i S hr hlk hw dX12_aim_47
  obtain ⟨J21, hJ21, h⟩ := zlet_ex h
  have wJ21 : ∀ (s0 : Int32) (M : ZM), J21 s0 M = some res → ∀ (H : Heap) (locs : List Loc) (ls : Array Slot), zWd G A s H locs M → lv_has ls 4 [(0, .ref (za G t0)), (1, .int v1), (2, .int v2)] → W p l e (zR 1) s m args below meth c H locs 0 0 (zQ below G A (some (.int res.1)) res.2 args s) (F0 m 21 ls [.int s0]) := by
    intro s0 M h H locs ls hw hl
    subst hJ21
    refine lv_istore_n (lv' := [(3, .int s0), (0, .ref (za G t0)), (1, .int v1), (2, .int v2)]) hx hb dX12_aim_21 rfl hl (by decide) rfl (fun ls hl => ?_)
    refine lv_iload_n hx hb dX12_aim_22 rfl (lv_at hl 0 rfl) ?_
    refine lv_if_ne (tgt := 38) hx hb dX12_aim_23 (by decide) (fun c8 => ?_) (fun c8 => ?_)
    · have h := zif_f h c8
      exact wJ38 s0 M h H locs ls hw (lv_sub hl [1, 2, 3, 0] rfl)
    · have h := zif_t h c8
      refine lv_aload_n hx hb dX12_aim_26 rfl (lv_at hl 1 rfl) ?_
      refine z_getI S hw k0 fl_X12_223 rfl dX12_aim_27 ?_
      refine lv_bipush (v := 8) hx hb dX12_aim_30 (by decide) ?_
      refine lv_icmp_ne (tgt := 38) hx hb dX12_aim_32 (by decide) (fun c9 => ?_) (fun c9 => ?_)
      · have h := zif_f h c9
        exact wJ38 s0 M h H locs ls hw (lv_sub hl [1, 2, 3, 0] rfl)
      · have h := zif_t h c9
        refine lv_bipush (v := (-6)) hx hb dX12_aim_35 (by decide) ?_
        refine lv_istore_n (lv' := [(3, .int (-6)), (0, .ref (za G t0)), (1, .int v1), (2, .int v2)]) hx hb dX12_aim_37 rfl hl (by decide) rfl (fun ls hl => ?_)
        exact wJ38 (-6) M h H locs ls hw (lv_sub hl [1, 2, 3, 0] rfl)
  refine lv_iload_n hx hb dX12_aim_0 rfl (lv_at hl 1 rfl) ?_
  refine lv_bipush (v := 32) hx hb dX12_aim_1 (by decide) ?_
  obtain ⟨q10, eq10, h⟩ := zlet_ex h
  refine z_callS (As := [.int v1, .int 32]) (rest := []) (rv := (some (.int q10))) (M1 := M) S hw (c_X12_isIn l hG v1 32 M q10 eq10.symm) mv_X12_isIn lk_X12_111 rfl rfl (Nat.le_of_ble_eq_true rfl) ⟨Nat.le_of_ble_eq_true rfl, Nat.le_of_ble_eq_true rfl⟩ hl.1 dX12_aim_3 (fun H locs hw => ?_)
  refine lv_if_eq (tgt := 20) hx hb dX12_aim_6 (by decide) (fun c11 => ?_) (fun c11 => ?_)
  · have h := zif_t h c11
    refine lv_iconst (v := (-1)) hx hb dX12_aim_20 (by decide) ?_
    exact wJ21 (-1) M h H locs ls hw (lv_sub hl [0, 1, 2] rfl)
  · have h := zif_f h c11
    refine lv_iload_n hx hb dX12_aim_9 rfl (lv_at hl 2 rfl) ?_
    refine lv_bipush (v := (-99)) hx hb dX12_aim_10 (by decide) ?_
    refine lv_bipush (v := 99) hx hb dX12_aim_12 (by decide) ?_
    obtain ⟨q12, eq12, h⟩ := zlet_ex h
    refine z_callS (As := [.int v2, .int (-99), .int 99]) (rest := []) (rv := (some (.int q12))) (M1 := M) S hw (c_X12_within l hG v2 (-99) 99 M q12 eq12.symm) mv_X12_within lk_X12_219 rfl rfl (Nat.le_of_ble_eq_true rfl) ⟨Nat.le_of_ble_eq_true rfl, Nat.le_of_ble_eq_true rfl⟩ hl.1 dX12_aim_14 (fun H locs hw => ?_)
    refine lv_goto (tgt := 21) hx hb dX12_aim_17 (by decide) ?_
    exact wJ21 q12 M h H locs ls hw (lv_sub hl [0, 1, 2] rfl)
def f_X12_servesBy_4 (t0 : Nat) (v1 : Int32) (M : ZM) (K : Int32 → Option Int32) : Nat → Int32 → Int32 → Option Int32
  | 0, _, _ => none
  | n + 1, v2, v3 =>
    if (M.1 t0 13) ≤ v3 then (
      K v2) else (
      zck (zin v3 (zn (zr t0 4))) <|
      (f_X12_does t0 v1 (M.1 (zr t0 4) v3.toNatClampNeg) M).bind fun (q3 : Int32) =>
      if q3 = 0 then (
        zlet (v2 + 0) fun (x5 : Int32) =>
        zlet (v3 + 1) fun (x6 : Int32) =>
        f_X12_servesBy_4 t0 v1 M K n x5 x6) else (
        zck (zin v3 (zn (zr t0 5))) <|
        zlet (v2 + (M.1 (zr t0 5) v3.toNatClampNeg)) fun (x8 : Int32) =>
        zlet (v3 + 1) fun (x9 : Int32) =>
        f_X12_servesBy_4 t0 v1 M K n x8 x9))

def f_X12_servesBy (t0 : Nat) (v1 : Int32) (M : ZM) : Option Int32 :=
  f_X12_servesBy_4 t0 v1 M (fun (v2 : Int32) =>
    some v2) zN 0 0
set_option maxHeartbeats 4000000 in
set_option maxRecDepth 100000 in
theorem w_X12_servesBy_4 {G : ZG} (hG : zOk G) (S : zX p (zR 1) s m args c 0 0 cX12_servesBy 4 RX12) (hr : meth.sig.returnType = (Option.some FieldType.int)) (hlk : meth.locks = false) (t0 : Nat) (v1 : Int32) (k0 : zk G t0 = 22) (M : ZM)  {K : Int32 → Option Int32} {res : Int32} (hK : ∀ (v2 : Int32), K v2 = some res → ∀ (H : Heap) (locs : List Loc) (ls : Array Slot), zWd G A s H locs M → lv_has ls 4 [(2, .int v2)] → W p l e (zR 1) s m args below meth c H locs 0 0 (zQ below G A (some (.int res)) M args s) (F0 m 45 ls [])) : ∀ (n : Nat) (v2 : Int32) (v3 : Int32), f_X12_servesBy_4 t0 v1 M K n v2 v3 = some res → ∀ (H : Heap) (locs : List Loc) (ls : Array Slot), zWd G A s H locs M → lv_has ls 4 [(0, .ref (za G t0)), (1, .int v1), (2, .int v2), (3, .int v3)] → W p l e (zR 1) s m args below meth c H locs 0 0 (zQ below G A (some (.int res)) M args s) (F0 m 4 ls []) := by
  have hx := S.1.1
  have hb := S.1.2.1
  have hown := S.1.2.2.2.1
  have hts := S.1.2.2.2.2
  intro n
  induction n with
  | zero =>
    intro v2 v3 h
    rw [f_X12_servesBy_4] at h
    cases h
  | succ n ih =>
    intro v2 v3 h H locs ls hw hl
    rw [f_X12_servesBy_4] at h
    refine lv_iload_n hx hb dX12_servesBy_4 rfl (lv_at hl 3 rfl) ?_
    refine lv_aload_n hx hb dX12_servesBy_5 rfl (lv_at hl 0 rfl) ?_
    refine z_getI S hw k0 fl_X12_223 rfl dX12_servesBy_6 ?_
    refine lv_icmp_ge (tgt := 45) hx hb dX12_servesBy_9 (by decide) (fun c1 => ?_) (fun c1 => ?_)
    · have h := zif_t h c1
      exact hK v2 h H locs ls hw (lv_sub hl [2] rfl)
    · have h := zif_f h c1
      refine lv_iload_n hx hb dX12_servesBy_12 rfl (lv_at hl 2 rfl) ?_
      refine lv_aload_n hx hb dX12_servesBy_13 rfl (lv_at hl 0 rfl) ?_
      refine lv_iload_n hx hb dX12_servesBy_14 rfl (lv_at hl 1 rfl) ?_
      refine lv_aload_n hx hb dX12_servesBy_15 rfl (lv_at hl 0 rfl) ?_
      refine z_getR S hw k0 fl_X12_22 rfl dX12_servesBy_16 ?_
      refine lv_iload_n hx hb dX12_servesBy_19 rfl (lv_at hl 3 rfl) ?_
      obtain ⟨g2, h⟩ := zck_ex h
      refine z_iald S hw (kr_12_4 hG k0) g2 dX12_servesBy_20 ?_
      obtain ⟨q3, eq3, h⟩ := Option.bind_eq_some_iff.mp h
      refine z_callV (ci := 12) (As := [.int v1, .int (M.1 (zr t0 4) v3.toNatClampNeg)]) (rest := [.int v2]) (rv := (some (.int q3))) (M1 := M) S hw (c_X12_does l hG t0 v1 (M.1 (zr t0 4) v3.toNatClampNeg) k0 M q3 eq3) mv_X12_does lk_X12_179 k0 ⟨_, _, rfl⟩ (by decide) rfl rfl (Nat.le_of_ble_eq_true rfl) ⟨Nat.le_of_ble_eq_true rfl, Nat.le_of_ble_eq_true rfl⟩ hl.1 dX12_servesBy_21 (fun H locs hw => ?_)
      refine lv_if_eq (tgt := 36) hx hb dX12_servesBy_24 (by decide) (fun c4 => ?_) (fun c4 => ?_)
      · have h := zif_t h c4
        refine lv_iconst (v := 0) hx hb dX12_servesBy_36 (by decide) ?_
        refine lv_iadd hx hb dX12_servesBy_37 ?_
        obtain ⟨x5, ex5, h⟩ := zlet_ex h
        refine lv_topiE ex5 ?_
        refine lv_istore_n (lv' := [(2, .int x5), (0, .ref (za G t0)), (1, .int v1), (3, .int v3)]) hx hb dX12_servesBy_38 rfl hl (by decide) rfl (fun ls hl => ?_)
        obtain ⟨x6, ex6, h⟩ := zlet_ex h
        refine lv_iinc (v := x6) (lv' := [(3, .int x6), (2, .int x5), (0, .ref (za G t0)), (1, .int v1)]) hx hb dX12_servesBy_39 hl (k := 3) rfl (by rw [ex6]; rfl) (by decide) rfl (fun ls hl => ?_)
        refine lv_goto (tgt := 4) hx hb dX12_servesBy_42 (by decide) ?_
        exact ih x5 x6 h H locs ls hw (lv_sub hl [2, 3, 1, 0] rfl)
      · have h := zif_f h c4
        refine lv_aload_n hx hb dX12_servesBy_27 rfl (lv_at hl 0 rfl) ?_
        refine z_getR S hw k0 fl_X12_25 rfl dX12_servesBy_28 ?_
        refine lv_iload_n hx hb dX12_servesBy_31 rfl (lv_at hl 3 rfl) ?_
        obtain ⟨g7, h⟩ := zck_ex h
        refine z_iald S hw (kr_12_5 hG k0) g7 dX12_servesBy_32 ?_
        refine lv_goto (tgt := 37) hx hb dX12_servesBy_33 (by decide) ?_
        refine lv_iadd hx hb dX12_servesBy_37 ?_
        obtain ⟨x8, ex8, h⟩ := zlet_ex h
        refine lv_topiE ex8 ?_
        refine lv_istore_n (lv' := [(2, .int x8), (0, .ref (za G t0)), (1, .int v1), (3, .int v3)]) hx hb dX12_servesBy_38 rfl hl (by decide) rfl (fun ls hl => ?_)
        obtain ⟨x9, ex9, h⟩ := zlet_ex h
        refine lv_iinc (v := x9) (lv' := [(3, .int x9), (2, .int x8), (0, .ref (za G t0)), (1, .int v1)]) hx hb dX12_servesBy_39 hl (k := 3) rfl (by rw [ex9]; rfl) (by decide) rfl (fun ls hl => ?_)
        refine lv_goto (tgt := 4) hx hb dX12_servesBy_42 (by decide) ?_
        exact ih x8 x9 h H locs ls hw (lv_sub hl [2, 3, 1, 0] rfl)
set_option maxHeartbeats 4000000 in
set_option maxRecDepth 100000 in
theorem c_X12_servesBy (l : Launch) {G : ZG} (hG : zOk G) (t0 : Nat) (v1 : Int32) (k0 : zk G t0 = 22) (M : ZM) (res : Int32) (h : f_X12_servesBy t0 v1 M = some res) : zCt l yX12_servesBy cX12_servesBy 4 (Option.some FieldType.int) 1 G [.ref (za G t0), .int v1] M (some (.int res)) M := by
  refine zCt.mk (by decide +kernel) (Nat.le_of_ble_eq_true rfl) ?_
  intro p e s m args below meth c A H locs ls S hr hlk hw hl
  have S : zX p (zR 1) s m args c 0 0 cX12_servesBy 4 RX12 := S
  have hx := S.1.1
  have hb := S.1.2.1
  have hown := S.1.2.2.2.1
  have hts := S.1.2.2.2.2
  have hl : lv_has ls 4 [(0, .ref (za G t0)), (1, .int v1)] := hl
  unfold f_X12_servesBy at h
  refine lv_iconst (v := 0) hx hb dX12_servesBy_0 (by decide) ?_
  refine lv_istore_n (lv' := [(2, .int 0), (0, .ref (za G t0)), (1, .int v1)]) hx hb dX12_servesBy_1 rfl hl (by decide) rfl (fun ls hl => ?_)
  refine lv_iconst (v := 0) hx hb dX12_servesBy_2 (by decide) ?_
  refine lv_istore_n (lv' := [(3, .int 0), (2, .int 0), (0, .ref (za G t0)), (1, .int v1)]) hx hb dX12_servesBy_3 rfl hl (by decide) rfl (fun ls hl => ?_)
  refine w_X12_servesBy_4 hG S hr hlk t0 v1 k0 M (fun v2 h H locs ls hw hl => ?_) zN 0 0 h H locs ls hw (lv_sub hl [2, 3, 1, 0] rfl)
  refine lv_iload_n hx hb dX12_servesBy_45 rfl (lv_at hl 0 rfl) ?_
  have h := Option.some.inj h
  subst h
  exact z_ret_i S hr hlk hw dX12_servesBy_46
end Z
