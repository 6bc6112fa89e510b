section Z
variable {p : Program} {l : Launch} {e : Env} {s : State} {m : MethodId} {args : Array Value} {below : List Frame} {meth : Method} {c : Code} {A : Nat → Prop}
def f_X12_readings (t0 : Nat) (M : ZM) : Option Int64 :=
  (f_X12_waysOf t0 0 (M.1 t0 10) M).bind fun (q1 : Int64) =>
  some q1
set_option maxHeartbeats 4000000 in
set_option maxRecDepth 100000 in
theorem c_X12_readings (l : Launch) {G : ZG} (hG : zOk G) (t0 : Nat) (k0 : zk G t0 = 22) (M : ZM) (res : Int64) (h : f_X12_readings t0 M = some res) : zCt l yX12_readings cX12_readings 1 (Option.some FieldType.long) 1 G [.ref (za G t0)] M (some (.long res)) M := by
  refine zCt.mk (by decide +kernel) (Nat.le_of_ble_eq_true rfl) ?_
  intro p e s m args below meth c A H locs ls S hr hlk hw hl
  have S : zX p (zR 1) s m args c 0 0 cX12_readings 1 RX12 := S
  have hx := S.1.1
  have hb := S.1.2.1
  have hown := S.1.2.2.2.1
  have hts := S.1.2.2.2.2
  have hl : lv_has ls 1 [(0, .ref (za G t0))] := hl
  unfold f_X12_readings at h
  refine lv_aload_n hx hb dX12_readings_0 rfl (lv_at hl 0 rfl) ?_
  refine lv_iconst (v := 0) hx hb dX12_readings_1 (by decide) ?_
  refine lv_aload_n hx hb dX12_readings_2 rfl (lv_at hl 0 rfl) ?_
  refine z_getI S hw k0 fl_X12_85 rfl dX12_readings_3 ?_
  obtain ⟨q1, eq1, h⟩ := Option.bind_eq_some_iff.mp h
  refine z_callV (ci := 12) (As := [.int 0, .int (M.1 t0 10)]) (rest := []) (rv := (some (.long q1))) (M1 := M) S hw (c_X12_waysOf l hG t0 0 (M.1 t0 10) k0 M q1 eq1) mv_X12_waysOf lk_X12_115 k0 ⟨_, _, rfl⟩ (by decide) rfl rfl (Nat.le_of_ble_eq_true rfl) ⟨Nat.le_of_ble_eq_true rfl, Nat.le_of_ble_eq_true rfl⟩ hl.1 dX12_readings_6 (fun H locs hw => ?_)
  have h := Option.some.inj h
  subst h
  exact z_ret_l S hr hlk hw dX12_readings_9
def f_X12_notes (t0 : Nat) (v1 : Int32) (v2 : Int32) (v3 : Int32) (M : ZM) : Option ZM :=
  if (M.1 t0 30) = 0 then (
    some M) else (
    zck (zin (M.1 t0 26) (zn (zr t0 22))) <|
    zlet ((21 * (M.1 t0 26)) + (M.1 (zr t0 22) (M.1 t0 26).toNatClampNeg)) fun (x3 : Int32) =>
    zck (zin x3 (zn (zr t0 19))) <|
    zlet (zi M (zr t0 19) x3.toNatClampNeg v1) fun (M5 : ZM) =>
    zck (zin x3 (zn (zr t0 20))) <|
    zlet (zi M5 (zr t0 20) x3.toNatClampNeg v2) fun (M7 : ZM) =>
    zck (zin x3 (zn (zr t0 21))) <|
    zlet (zi M7 (zr t0 21) x3.toNatClampNeg (v3 - v2)) fun (M9 : ZM) =>
    zck (zin (M9.1 t0 26) (zn (zr t0 22))) <|
    zck (zin (M9.1 t0 26) (zn (zr t0 22))) <|
    zlet (zi M9 (zr t0 22) (M9.1 t0 26).toNatClampNeg ((M9.1 (zr t0 22) (M9.1 t0 26).toNatClampNeg) + 1)) fun (M12 : ZM) =>
    some M12)
set_option maxHeartbeats 4000000 in
set_option maxRecDepth 100000 in
theorem c_X12_notes (l : Launch) {G : ZG} (hG : zOk G) (t0 : Nat) (v1 : Int32) (v2 : Int32) (v3 : Int32) (k0 : zk G t0 = 22) (M : ZM) (res : ZM) (h : f_X12_notes t0 v1 v2 v3 M = some res) : zCt l yX12_notes cX12_notes 5 none 0 G [.ref (za G t0), .int v1, .int v2, .int v3] M none res := by
  refine zCt.mk (by decide +kernel) (Nat.le_of_ble_eq_true rfl) ?_
  intro p e s m args below meth c A H locs ls S hr hlk hw hl
  have S : zX p (zR 0) s m args c 0 0 cX12_notes 5 RX12 := S
  have hx := S.1.1
  have hb := S.1.2.1
  have hown := S.1.2.2.2.1
  have hts := S.1.2.2.2.2
  have hl : lv_has ls 5 [(0, .ref (za G t0)), (1, .int v1), (2, .int v2), (3, .int v3)] := hl
  unfold f_X12_notes at h
  refine lv_aload_n hx hb dX12_notes_0 rfl (lv_at hl 0 rfl) ?_
  refine z_getI S hw k0 fl_X12_125 rfl dX12_notes_1 ?_
  refine lv_if_ne (tgt := 8) hx hb dX12_notes_4 (by decide) (fun c1 => ?_) (fun c1 => ?_)
  · have h := zif_f h c1
    refine lv_bipush (v := 21) hx hb dX12_notes_8 (by decide) ?_
    refine lv_aload_n hx hb dX12_notes_10 rfl (lv_at hl 0 rfl) ?_
    refine z_getI S hw k0 fl_X12_129 rfl dX12_notes_11 ?_
    refine lv_imul hx hb dX12_notes_14 ?_
    refine lv_aload_n hx hb dX12_notes_15 rfl (lv_at hl 0 rfl) ?_
    refine z_getR S hw k0 fl_X12_53 rfl dX12_notes_16 ?_
    refine lv_aload_n hx hb dX12_notes_19 rfl (lv_at hl 0 rfl) ?_
    refine z_getI S hw k0 fl_X12_129 rfl dX12_notes_20 ?_
    obtain ⟨g2, h⟩ := zck_ex h
    refine z_iald S hw (kr_12_22 hG k0) g2 dX12_notes_23 ?_
    refine lv_iadd hx hb dX12_notes_24 ?_
    obtain ⟨x3, ex3, h⟩ := zlet_ex h
    refine lv_topiE ex3 ?_
    refine lv_istore (lv' := [(4, .int x3), (0, .ref (za G t0)), (1, .int v1), (2, .int v2), (3, .int v3)]) hx hb dX12_notes_25 hl (by decide) rfl (fun ls hl => ?_)
    refine lv_aload_n hx hb dX12_notes_27 rfl (lv_at hl 1 rfl) ?_
    refine z_getR S hw k0 fl_X12_44 rfl dX12_notes_28 ?_
    refine lv_iload hx hb dX12_notes_31 (lv_at hl 0 rfl) ?_
    refine lv_iload_n hx hb dX12_notes_33 rfl (lv_at hl 2 rfl) ?_
    obtain ⟨g4, h⟩ := zck_ex h
    obtain ⟨M5, eM5, h⟩ := zlet_ex h
    refine z_iast S hw eM5 (kr_12_19 hG k0) g4 dX12_notes_34 (fun H locs hw => ?_)
    refine lv_aload_n hx hb dX12_notes_35 rfl (lv_at hl 1 rfl) ?_
    refine z_getR S hw k0 fl_X12_47 rfl dX12_notes_36 ?_
    refine lv_iload hx hb dX12_notes_39 (lv_at hl 0 rfl) ?_
    refine lv_iload_n hx hb dX12_notes_41 rfl (lv_at hl 3 rfl) ?_
    obtain ⟨g6, h⟩ := zck_ex h
    obtain ⟨M7, eM7, h⟩ := zlet_ex h
    refine z_iast S hw eM7 (kr_12_20 hG k0) g6 dX12_notes_42 (fun H locs hw => ?_)
    refine lv_aload_n hx hb dX12_notes_43 rfl (lv_at hl 1 rfl) ?_
    refine z_getR S hw k0 fl_X12_50 rfl dX12_notes_44 ?_
    refine lv_iload hx hb dX12_notes_47 (lv_at hl 0 rfl) ?_
    refine lv_iload_n hx hb dX12_notes_49 rfl (lv_at hl 4 rfl) ?_
    refine lv_iload_n hx hb dX12_notes_50 rfl (lv_at hl 3 rfl) ?_
    refine lv_isub hx hb dX12_notes_51 ?_
    obtain ⟨g8, h⟩ := zck_ex h
    obtain ⟨M9, eM9, h⟩ := zlet_ex h
    refine z_iast S hw eM9 (kr_12_21 hG k0) g8 dX12_notes_52 (fun H locs hw => ?_)
    refine lv_aload_n hx hb dX12_notes_53 rfl (lv_at hl 1 rfl) ?_
    refine z_getR S hw k0 fl_X12_53 rfl dX12_notes_54 ?_
    refine lv_aload_n hx hb dX12_notes_57 rfl (lv_at hl 1 rfl) ?_
    refine z_getI S hw k0 fl_X12_129 rfl dX12_notes_58 ?_
    refine lv_dup2_11 hx hb dX12_notes_61 rfl rfl ?_
    obtain ⟨g10, h⟩ := zck_ex h
    refine z_iald S hw (kr_12_22 hG k0) g10 dX12_notes_62 ?_
    refine lv_iconst (v := 1) hx hb dX12_notes_63 (by decide) ?_
    refine lv_iadd hx hb dX12_notes_64 ?_
    obtain ⟨g11, h⟩ := zck_ex h
    obtain ⟨M12, eM12, h⟩ := zlet_ex h
    refine z_iast S hw eM12 (kr_12_22 hG k0) g11 dX12_notes_65 (fun H locs hw => ?_)
    have h := Option.some.inj h
    subst h
    exact z_ret_v S hr hlk hw dX12_notes_66
  · have h := zif_t h c1
    have h := Option.some.inj h
    subst h
    exact z_ret_v S hr hlk hw dX12_notes_7
def f_X12_breaks (t0 : Nat) (v1 : Int32) (v2 : Int32) (M : ZM) : ZM :=
  if v1 = 0 then (
    zlet (zi M t0 27 ((M.1 t0 27) ||| 0)) fun (M2 : ZM) =>
    M2) else (
    zlet (zi M t0 27 ((M.1 t0 27) ||| (1 <<< (v2 &&& 31)))) fun (M3 : ZM) =>
    M3)
set_option maxHeartbeats 4000000 in
set_option maxRecDepth 100000 in
theorem c_X12_breaks (l : Launch) {G : ZG} (hG : zOk G) (t0 : Nat) (v1 : Int32) (v2 : Int32) (k0 : zk G t0 = 22) (M : ZM) (res : ZM) (h : f_X12_breaks t0 v1 v2 M = res) : zCt l yX12_breaks cX12_breaks 3 none 0 G [.ref (za G t0), .int v1, .int v2] M none res := by
  refine zCt.mk (by decide +kernel) (Nat.le_of_ble_eq_true rfl) ?_
  intro p e s m args below meth c A H locs ls S hr hlk hw hl
  have S : zX p (zR 0) s m args c 0 0 cX12_breaks 3 RX12 := S
  have hx := S.1.1
  have hb := S.1.2.1
  have hown := S.1.2.2.2.1
  have hts := S.1.2.2.2.2
  have hl : lv_has ls 3 [(0, .ref (za G t0)), (1, .int v1), (2, .int v2)] := hl
  unfold f_X12_breaks at h
  refine lv_aload_n hx hb dX12_breaks_0 rfl (lv_at hl 0 rfl) ?_
  refine lv_dup hx hb dX12_breaks_1 rfl ?_
  refine z_getI S hw k0 fl_X12_132 rfl dX12_breaks_2 ?_
  refine lv_iload_n hx hb dX12_breaks_5 rfl (lv_at hl 1 rfl) ?_
  refine lv_if_eq (tgt := 15) hx hb dX12_breaks_6 (by decide) (fun c1 => ?_) (fun c1 => ?_)
  · have h := zif_t h c1
    refine lv_iconst (v := 0) hx hb dX12_breaks_15 (by decide) ?_
    refine lv_ior hx hb dX12_breaks_16 ?_
    obtain ⟨M2, eM2, h⟩ := zlet_ex h
    refine z_putI S hw eM2 k0 fl_X12_132 rfl (fun h => absurd h (by decide)) dX12_breaks_17 (fun H locs hw => ?_)
    subst h
    exact z_ret_v S hr hlk hw dX12_breaks_20
  · have h := zif_f h c1
    refine lv_iconst (v := 1) hx hb dX12_breaks_9 (by decide) ?_
    refine lv_iload_n hx hb dX12_breaks_10 rfl (lv_at hl 2 rfl) ?_
    refine lv_ishl hx hb dX12_breaks_11 ?_
    refine lv_goto (tgt := 16) hx hb dX12_breaks_12 (by decide) ?_
    refine lv_ior hx hb dX12_breaks_16 ?_
    obtain ⟨M3, eM3, h⟩ := zlet_ex h
    refine z_putI S hw eM3 k0 fl_X12_132 rfl (fun h => absurd h (by decide)) dX12_breaks_17 (fun H locs hw => ?_)
    subst h
    exact z_ret_v S hr hlk hw dX12_breaks_20
def f_X12_meansRun_164 (t0 : Nat) (v1 : Int32) (v2 : Int32) (v5 : Int32) (v6 : Int32) (v7 : Int32) (v8 : Int32) (K : Int64 → Int32 → ZM → Option (Int64 × ZM)) : Nat → Int64 → Int32 → ZM → Option (Int64 × ZM)
  | 0, _, _, _ => none
  | n + 1, v11, v13, M =>
    zlet (fun (v11 : Int64) (v13 : Int32) (M : ZM) =>
      zck (zin v13 (zn (zr t0 1))) <|
      zlet (f_X12_kindOf (M.1 (zr t0 1) v13.toNatClampNeg) M) fun (q21 : Int32) =>
      if 0 ≤ q21 then (
        (f_X12_waysOf t0 v1 v13 M).bind fun (q23 : Int64) =>
        (f_X12_waysOf t0 (v13 + 1) v2 M).bind fun (q24 : Int64) =>
        zlet (v11 - (q23 * q24)) fun (x25 : Int64) =>
        zlet (v13 + 1) fun (x26 : Int32) =>
        f_X12_meansRun_164 t0 v1 v2 v5 v6 v7 v8 K n x25 x26 M) else (
        zlet (v11 - 0) fun (x27 : Int64) =>
        zlet (v13 + 1) fun (x28 : Int32) =>
        f_X12_meansRun_164 t0 v1 v2 v5 v6 v7 v8 K n x27 x28 M)) fun J200 =>
    zck (zin v13 (zn (zr t0 1))) <|
    zlet (f_X12_kindOf (M.1 (zr t0 1) v13.toNatClampNeg) M) fun (q30 : Int32) =>
    if q30 < 0 then (
      J200 v11 v13 M) else (
      (f_X12_waysOf t0 v1 v13 M).bind fun (q32 : Int64) =>
      (f_X12_waysOf t0 (v13 + 1) v2 M).bind fun (q33 : Int64) =>
      if (lg_cmp v11 (q32 * q33)) < 0 then (
        K v11 v13 M) else (
        J200 v11 v13 M))

def f_X12_meansRun : Nat → Nat → Int32 → Int32 → Int64 → Int32 → Int32 → Int32 → Int32 → ZM → Option (Int64 × ZM)
  | 0, _, _, _, _, _, _, _, _, _ => none
  | d + 1, t0, v1, v2, v3, v5, v6, v7, v8, M =>
  zlet (fun (v14 : Int32) (v17 : Int64) (s1 : Int32) (s2 : Int32) (s3 : Int64) (s4 : Int32) (s5 : Int32) (M : ZM) =>
    (f_X12_meansRun d t0 s1 s2 s3 s4 s5 0 v8 M).bind fun (q1 : (Int64 × ZM)) =>
    if v14 = 3 then (
      some ((v17 &&& q1.1), q1.2)) else (
      if v14 = 4 then (
        some ((v17 ||| q1.1), q1.2)) else (
        if v14 = 5 then (
          some ((((v17 ^^^ (-1)) &&& 4294967295) ||| q1.1), q1.2)) else (
          some (((v17 &&& (q1.1 ^^^ (-1))) &&& 4294967295), q1.2))))) fun J374 =>
  zlet (fun (v14 : Int32) (v17 : Int64) (s1 : Int32) (s2 : Int32) (s3 : Int64) (s4 : Int32) (M : ZM) =>
    J374 v14 v17 s1 s2 s3 s4 1 M) fun J369 =>
  zlet (fun (v11 : Int64) (v13 : Int32) (v14 : Int32) (v15 : Int64) (s1 : Int32) (s2 : Int32) (s3 : Int64) (s4 : Int32) (s5 : Int32) (M : ZM) =>
    (f_X12_meansRun d t0 s1 s2 s3 s4 s5 0 v8 M).bind fun (q5 : (Int64 × ZM)) =>
    zck (znz v15) <|
    if v6 = 0 then (
      if v14 = 3 then (
        J369 v14 q5.1 (v13 + 1) v2 (v11 - v11 / v15 * v15) 1 q5.2) else (
        J374 v14 q5.1 (v13 + 1) v2 (v11 - v11 / v15 * v15) 1 0 q5.2)) else (
      J369 v14 q5.1 (v13 + 1) v2 (v11 - v11 / v15 * v15) 1 q5.2)) fun J338 =>
  zlet (fun (v11 : Int64) (v13 : Int32) (v14 : Int32) (v15 : Int64) (s1 : Int32) (s2 : Int32) (s3 : Int64) (s4 : Int32) (M : ZM) =>
    J338 v11 v13 v14 v15 s1 s2 s3 s4 1 M) fun J333 =>
  zlet (fun (v11 : Int64) (v13 : Int32) (v14 : Int32) (s1 : Int32) (M : ZM) =>
    zlet (f_X12_breaks t0 s1 3 M) fun (q9 : ZM) =>
    (f_X12_waysOf t0 (v13 + 1) v2 q9).bind fun (q10 : Int64) =>
    zck (znz q10) <|
    if v6 = 0 then (
      if v14 = 3 then (
        J333 v11 v13 v14 q10 v1 v13 (v11 / q10) v5 q9) else (
        J338 v11 v13 v14 q10 v1 v13 (v11 / q10) v5 0 q9)) else (
      J333 v11 v13 v14 q10 v1 v13 (v11 / q10) v5 q9)) fun J296 =>
  zlet (fun (v11 : Int64) (v13 : Int32) (v14 : Int32) (M : ZM) =>
    J296 v11 v13 v14 0 M) fun J295 =>
  zlet (fun (s1 : Int32) (M : ZM) =>
    zlet (f_X12_breaks t0 s1 1 M) fun (q14 : ZM) =>
    (f_X12_meansRun d t0 (v1 + 1) v2 v3 v5 v6 1 v8 q14).bind fun (q15 : (Int64 × ZM)) =>
    some (((q15.1 ^^^ (-1)) &&& 4294967295), q15.2)) fun J99 =>
  (f_X12_firstWays t0 v1 v2 M).bind fun (q16 : Int64) =>
  if 0 ≤ (lg_cmp v3 q16) then (
    zlet (v3 - q16) fun (x18 : Int64) =>
    zlet (v1 + 1) fun (x19 : Int32) =>
    f_X12_meansRun_164 t0 v1 v2 v5 v6 v7 v8 (fun (v11 : Int64) (v13 : Int32) (M : ZM) =>
      zck (zin v13 (zn (zr t0 1))) <|
      zlet (f_X12_kindOf (M.1 (zr t0 1) v13.toNatClampNeg) M) fun (q36 : Int32) =>
      (f_X12_notes t0 q36 v1 v2 M).bind fun (q37 : ZM) =>
      zlet (f_X12_breaks t0 v7 0 q37) fun (q38 : ZM) =>
      zlet (f_X12_breaks t0 v5 2 q38) fun (q39 : ZM) =>
      if v6 = 0 then (
        J295 v11 v13 q36 q39) else (
        if q36 = 3 then (
          J295 v11 v13 q36 q39) else (
          J296 v11 v13 q36 1 q39))) zN x18 x19 M) else (
    if (v2 - v1) = 1 then (
      (f_X12_notes t0 0 v1 v2 M).bind fun (q49 : ZM) =>
      if v1 = (q49.1 t0 28) then (
        if (q49.1 t0 31) = 0 then (
          some ((0 : Int64), q49)) else (
          some ((4294967295 : Int64), q49))) else (
        zck (zin v1 (zn (zr t0 1))) <|
        zck (zin ((q49.1 (zr t0 1) v1.toNatClampNeg) - 97) (zn (zr t0 32))) <|
        some ((q49.2 (zr t0 32) ((q49.1 (zr t0 1) v1.toNatClampNeg) - 97).toNatClampNeg), q49))) else (
      zck (zin v1 (zn (zr t0 1))) <|
      if (M.1 (zr t0 1) v1.toNatClampNeg) = 33 then (
        (f_X12_notes t0 1 v1 v2 M).bind fun (q47 : ZM) =>
        if v2 = v8 then (
          J99 0 q47) else (
          J99 1 q47)) else (
        (f_X12_notes t0 2 v1 v2 M).bind fun (q45 : ZM) =>
        (f_X12_meansRun d t0 (v1 + 1) (v2 - 1) v3 0 0 0 (v2 - 1) q45).bind fun (q46 : (Int64 × ZM)) =>
        some (q46.1, q46.2))))
set_option maxHeartbeats 4000000 in
set_option maxRecDepth 100000 in
theorem w_X12_meansRun_164 {G : ZG} {d : Nat} (hG : zOk G) (S : zX p (zR (2 + (d + 1))) s m args c 0 0 cX12_meansRun 21 RX12) (hr : meth.sig.returnType = (Option.some FieldType.long)) (hlk : meth.locks = false) (t0 : Nat) (v1 : Int32) (v2 : Int32) (v5 : Int32) (v6 : Int32) (v7 : Int32) (v8 : Int32) (k0 : zk G t0 = 22)  {K : Int64 → Int32 → ZM → Option (Int64 × ZM)} {res : (Int64 × ZM)} (hK : ∀ (v11 : Int64) (v13 : Int32) (M : ZM), K v11 v13 M = some res → ∀ (H : Heap) (locs : List Loc) (ls : Array Slot), zWd G A s H locs M → lv_has ls 21 [(0, .ref (za G t0)), (1, .int v1), (2, .int v2), (5, .int v5), (6, .int v6), (7, .int v7), (8, .int v8), (11, .long v11), (13, .int v13)] → W p l e (zR (2 + (d + 1))) s m args below meth c H locs 0 0 (zQ below G A (some (.long res.1)) res.2 args s) (F0 m 245 ls [])) : ∀ (n : Nat) (v11 : Int64) (v13 : Int32) (M : ZM), f_X12_meansRun_164 t0 v1 v2 v5 v6 v7 v8 K n v11 v13 M = some res → ∀ (H : Heap) (locs : List Loc) (ls : Array Slot), zWd G A s H locs M → lv_has ls 21 [(0, .ref (za G t0)), (1, .int v1), (2, .int v2), (5, .int v5), (6, .int v6), (7, .int v7), (8, .int v8), (11, .long v11), (13, .int v13)] → W p l e (zR (2 + (d + 1))) s m args below meth c H locs 0 0 (zQ below G A (some (.long res.1)) res.2 args s) (F0 m 164 ls []) := by
  have hx := S.1.1
  have hb := S.1.2.1
  have hown := S.1.2.2.2.1
  have hts := S.1.2.2.2.2
  intro n
  induction n with
  | zero =>
    intro v11 v13 M h
    rw [f_X12_meansRun_164] at h
    cases h
  | succ n ih =>
    intro v11 v13 M h H locs ls hw hl
    rw [f_X12_meansRun_164] at h
    obtain ⟨J200, hJ200, h⟩ := zlet_ex h
    have wJ200 : ∀ (v11 : Int64) (v13 : Int32) (M : ZM), J200 v11 v13 M = some res → ∀ (H : Heap) (locs : List Loc) (ls : Array Slot), zWd G A s H locs M → lv_has ls 21 [(0, .ref (za G t0)), (1, .int v1), (2, .int v2), (5, .int v5), (6, .int v6), (7, .int v7), (8, .int v8), (11, .long v11), (13, .int v13)] → W p l e (zR (2 + (d + 1))) s m args below meth c H locs 0 0 (zQ below G A (some (.long res.1)) res.2 args s) (F0 m 200 ls []) := by
      intro v11 v13 M h H locs ls hw hl
      subst hJ200
      refine lv_lload hx hb dX12_meansRun_200 (lv_at hl 7 rfl) ?_
      refine lv_aload_n hx hb dX12_meansRun_202 rfl (lv_at hl 0 rfl) ?_
      refine z_getR S hw k0 fl_X12_13 rfl dX12_meansRun_203 ?_
      refine lv_iload hx hb dX12_meansRun_206 (lv_at hl 8 rfl) ?_
      obtain ⟨g20, h⟩ := zck_ex h
      refine z_iald S hw (kr_12_1 hG k0) g20 dX12_meansRun_208 ?_
      obtain ⟨q21, eq21, h⟩ := zlet_ex h
      refine z_callS (As := [.int (M.1 (zr t0 1) v13.toNatClampNeg)]) (rest := [.long v11]) (rv := (some (.int q21))) (M1 := M) S hw (c_X12_kindOf l hG (M.1 (zr t0 1) v13.toNatClampNeg) M q21 eq21.symm) mv_X12_kindOf lk_X12_100 rfl rfl (Nat.le_of_ble_eq_true rfl) ⟨by show _ ≤ 2 + (d + 1); omega, by show _ ≤ 60 * (2 + (d + 1)); omega⟩ hl.1 dX12_meansRun_209 (fun H locs hw => ?_)
      refine lv_if_ge (tgt := 219) hx hb dX12_meansRun_212 (by decide) (fun c22 => ?_) (fun c22 => ?_)
      · have h := zif_t h c22
        refine lv_aload_n hx hb dX12_meansRun_219 rfl (lv_at hl 0 rfl) ?_
        refine lv_iload_n hx hb dX12_meansRun_220 rfl (lv_at hl 1 rfl) ?_
        refine lv_iload hx hb dX12_meansRun_221 (lv_at hl 8 rfl) ?_
        obtain ⟨q23, eq23, h⟩ := Option.bind_eq_some_iff.mp h
        refine z_callV (ci := 12) (As := [.int v1, .int v13]) (rest := [.long v11]) (rv := (some (.long q23))) (M1 := M) S hw (c_X12_waysOf l hG t0 v1 v13 k0 M q23 eq23) mv_X12_waysOf lk_X12_115 k0 ⟨_, _, rfl⟩ (by decide) rfl rfl (Nat.le_of_ble_eq_true rfl) ⟨by show _ ≤ 2 + (d + 1); omega, by show _ ≤ 60 * (2 + (d + 1)); omega⟩ hl.1 dX12_meansRun_223 (fun H locs hw => ?_)
        refine lv_aload_n hx hb dX12_meansRun_226 rfl (lv_at hl 0 rfl) ?_
        refine lv_iload hx hb dX12_meansRun_227 (lv_at hl 8 rfl) ?_
        refine lv_iconst (v := 1) hx hb dX12_meansRun_229 (by decide) ?_
        refine lv_iadd hx hb dX12_meansRun_230 ?_
        refine lv_iload_n hx hb dX12_meansRun_231 rfl (lv_at hl 2 rfl) ?_
        obtain ⟨q24, eq24, h⟩ := Option.bind_eq_some_iff.mp h
        refine z_callV (ci := 12) (As := [.int (v13 + 1), .int v2]) (rest := [.long q23, .long v11]) (rv := (some (.long q24))) (M1 := M) S hw (c_X12_waysOf l hG t0 (v13 + 1) v2 k0 M q24 eq24) mv_X12_waysOf lk_X12_115 k0 ⟨_, _, rfl⟩ (by decide) rfl rfl (Nat.le_of_ble_eq_true rfl) ⟨by show _ ≤ 2 + (d + 1); omega, by show _ ≤ 60 * (2 + (d + 1)); omega⟩ hl.1 dX12_meansRun_232 (fun H locs hw => ?_)
        refine lv_lmul hx hb dX12_meansRun_235 ?_
        refine lv_lsub hx hb dX12_meansRun_236 ?_
        obtain ⟨x25, ex25, h⟩ := zlet_ex h
        refine lv_toplE ex25 ?_
        refine lv_lstore (lv' := [(11, .long x25), (0, .ref (za G t0)), (1, .int v1), (2, .int v2), (5, .int v5), (6, .int v6), (7, .int v7), (8, .int v8), (13, .int v13)]) hx hb dX12_meansRun_237 hl (by decide) rfl (fun ls hl => ?_)
        obtain ⟨x26, ex26, h⟩ := zlet_ex h
        refine lv_iinc (v := x26) (lv' := [(13, .int x26), (11, .long x25), (0, .ref (za G t0)), (1, .int v1), (2, .int v2), (5, .int v5), (6, .int v6), (7, .int v7), (8, .int v8)]) hx hb dX12_meansRun_239 hl (k := 8) rfl (by rw [ex26]; rfl) (by decide) rfl (fun ls hl => ?_)
        refine lv_goto (tgt := 164) hx hb dX12_meansRun_242 (by decide) ?_
        exact ih x25 x26 M h H locs ls hw (lv_sub hl [2, 3, 4, 5, 6, 7, 8, 1, 0] rfl)
      · have h := zif_f h c22
        refine lv_lconst (v := 0) hx hb dX12_meansRun_215 (by decide) ?_
        refine lv_goto (tgt := 236) hx hb dX12_meansRun_216 (by decide) ?_
        refine lv_lsub hx hb dX12_meansRun_236 ?_
        obtain ⟨x27, ex27, h⟩ := zlet_ex h
        refine lv_toplE ex27 ?_
        refine lv_lstore (lv' := [(11, .long x27), (0, .ref (za G t0)), (1, .int v1), (2, .int v2), (5, .int v5), (6, .int v6), (7, .int v7), (8, .int v8), (13, .int v13)]) hx hb dX12_meansRun_237 hl (by decide) rfl (fun ls hl => ?_)
        obtain ⟨x28, ex28, h⟩ := zlet_ex h
        refine lv_iinc (v := x28) (lv' := [(13, .int x28), (11, .long x27), (0, .ref (za G t0)), (1, .int v1), (2, .int v2), (5, .int v5), (6, .int v6), (7, .int v7), (8, .int v8)]) hx hb dX12_meansRun_239 hl (k := 8) rfl (by rw [ex28]; rfl) (by decide) rfl (fun ls hl => ?_)
        refine lv_goto (tgt := 164) hx hb dX12_meansRun_242 (by decide) ?_
        exact ih x27 x28 M h H locs ls hw (lv_sub hl [2, 3, 4, 5, 6, 7, 8, 1, 0] rfl)
    refine lv_aload_n hx hb dX12_meansRun_164 rfl (lv_at hl 0 rfl) ?_
    refine z_getR S hw k0 fl_X12_13 rfl dX12_meansRun_165 ?_
    refine lv_iload hx hb dX12_meansRun_168 (lv_at hl 8 rfl) ?_
    obtain ⟨g29, h⟩ := zck_ex h
    refine z_iald S hw (kr_12_1 hG k0) g29 dX12_meansRun_170 ?_
    obtain ⟨q30, eq30, h⟩ := zlet_ex h
    refine z_callS (As := [.int (M.1 (zr t0 1) v13.toNatClampNeg)]) (rest := []) (rv := (some (.int q30))) (M1 := M) S hw (c_X12_kindOf l hG (M.1 (zr t0 1) v13.toNatClampNeg) M q30 eq30.symm) mv_X12_kindOf lk_X12_100 rfl rfl (Nat.le_of_ble_eq_true rfl) ⟨by show _ ≤ 2 + (d + 1); omega, by show _ ≤ 60 * (2 + (d + 1)); omega⟩ hl.1 dX12_meansRun_171 (fun H locs hw => ?_)
    refine lv_if_lt (tgt := 200) hx hb dX12_meansRun_174 (by decide) (fun c31 => ?_) (fun c31 => ?_)
    · have h := zif_t h c31
      exact wJ200 v11 v13 M h H locs ls hw (lv_sub hl [0, 1, 2, 3, 4, 5, 6, 7, 8] rfl)
    · have h := zif_f h c31
      refine lv_lload hx hb dX12_meansRun_177 (lv_at hl 7 rfl) ?_
      refine lv_aload_n hx hb dX12_meansRun_179 rfl (lv_at hl 0 rfl) ?_
      refine lv_iload_n hx hb dX12_meansRun_180 rfl (lv_at hl 1 rfl) ?_
      refine lv_iload hx hb dX12_meansRun_181 (lv_at hl 8 rfl) ?_
      obtain ⟨q32, eq32, h⟩ := Option.bind_eq_some_iff.mp h
      refine z_callV (ci := 12) (As := [.int v1, .int v13]) (rest := [.long v11]) (rv := (some (.long q32))) (M1 := M) S hw (c_X12_waysOf l hG t0 v1 v13 k0 M q32 eq32) mv_X12_waysOf lk_X12_115 k0 ⟨_, _, rfl⟩ (by decide) rfl rfl (Nat.le_of_ble_eq_true rfl) ⟨by show _ ≤ 2 + (d + 1); omega, by show _ ≤ 60 * (2 + (d + 1)); omega⟩ hl.1 dX12_meansRun_183 (fun H locs hw => ?_)
      refine lv_aload_n hx hb dX12_meansRun_186 rfl (lv_at hl 0 rfl) ?_
      refine lv_iload hx hb dX12_meansRun_187 (lv_at hl 8 rfl) ?_
      refine lv_iconst (v := 1) hx hb dX12_meansRun_189 (by decide) ?_
      refine lv_iadd hx hb dX12_meansRun_190 ?_
      refine lv_iload_n hx hb dX12_meansRun_191 rfl (lv_at hl 2 rfl) ?_
      obtain ⟨q33, eq33, h⟩ := Option.bind_eq_some_iff.mp h
      refine z_callV (ci := 12) (As := [.int (v13 + 1), .int v2]) (rest := [.long q32, .long v11]) (rv := (some (.long q33))) (M1 := M) S hw (c_X12_waysOf l hG t0 (v13 + 1) v2 k0 M q33 eq33) mv_X12_waysOf lk_X12_115 k0 ⟨_, _, rfl⟩ (by decide) rfl rfl (Nat.le_of_ble_eq_true rfl) ⟨by show _ ≤ 2 + (d + 1); omega, by show _ ≤ 60 * (2 + (d + 1)); omega⟩ hl.1 dX12_meansRun_192 (fun H locs hw => ?_)
      refine lv_lmul hx hb dX12_meansRun_195 ?_
      refine W.lcmp hx hb dX12_meansRun_196 ?_
      refine lv_if_lt (tgt := 245) hx hb dX12_meansRun_197 (by decide) (fun c34 => ?_) (fun c34 => ?_)
      · have h := zif_t h c34
        exact hK v11 v13 M h H locs ls hw (lv_sub hl [0, 1, 2, 3, 4, 5, 6, 7, 8] rfl)
      · have h := zif_f h c34
        exact wJ200 v11 v13 M h H locs ls hw (lv_sub hl [0, 1, 2, 3, 4, 5, 6, 7, 8] rfl)
set_option maxHeartbeats 4000000 in
set_option maxRecDepth 100000 in
theorem c_X12_meansRun (l : Launch) : ∀ (d : Nat) {G : ZG} (hG : zOk G) (t0 : Nat) (v1 : Int32) (v2 : Int32) (v3 : Int64) (v5 : Int32) (v6 : Int32) (v7 : Int32) (v8 : Int32) (k0 : zk G t0 = 22) (M : ZM) (res : (Int64 × ZM)) (h : f_X12_meansRun d t0 v1 v2 v3 v5 v6 v7 v8 M = some res), zCt l yX12_meansRun cX12_meansRun 21 (Option.some FieldType.long) (2 + d) G [.ref (za G t0), .int v1, .int v2, .long v3, .int v5, .int v6, .int v7, .int v8] M (some (.long res.1)) res.2 := by
  intro d
  induction d with
  | zero =>
    intro G hG t0 v1 v2 v3 v5 v6 v7 v8 k0 M res h
    rw [f_X12_meansRun] at h
    cases h
  | succ d ihd =>
    intro G hG t0 v1 v2 v3 v5 v6 v7 v8 k0 M res h
    refine zCt.mk (by decide +kernel) (Nat.le_of_ble_eq_true rfl) ?_
    intro p e s m args below meth c A H locs ls S hr hlk hw hl
    have S : zX p (zR (2 + (d + 1))) s m args c 0 0 cX12_meansRun 21 RX12 := S
    have hx := S.1.1
    have hb := S.1.2.1
    have hown := S.1.2.2.2.1
    have hts := S.1.2.2.2.2
    have hl : lv_has ls 21 [(0, .ref (za G t0)), (1, .int v1), (2, .int v2), (3, .long v3), (5, .int v5), (6, .int v6), (7, .int v7), (8, .int v8)] := hl
    rw [f_X12_meansRun] at h
    obtain ⟨J374, hJ374, h⟩ := zlet_ex h
    have wJ374 : ∀ (v14 : Int32) (v17 : Int64) (s1 : Int32) (s2 : Int32) (s3 : Int64) (s4 : Int32) (s5 : Int32) (M : ZM), J374 v14 v17 s1 s2 s3 s4 s5 M = some res → ∀ (H : Heap) (locs : List Loc) (ls : Array Slot), zWd G A s H locs M → lv_has ls 21 [(8, .int v8), (14, .int v14), (17, .long v17)] → W p l e (zR (2 + (d + 1))) s m args below meth c H locs 0 0 (zQ below G A (some (.long res.1)) res.2 args s) (F0 m 374 ls [.int s5, .int s4, .long s3, .int s2, .int s1, .ref (za G t0)]) := by
      intro v14 v17 s1 s2 s3 s4 s5 M h H locs ls hw hl
      subst hJ374
      refine lv_iconst (v := 0) hx hb dX12_meansRun_374 (by decide) ?_
      refine lv_iload hx hb dX12_meansRun_375 (lv_at hl 0 rfl) ?_
      obtain ⟨q1, eq1, h⟩ := Option.bind_eq_some_iff.mp h
      refine z_callV (ci := 12) (As := [.int s1, .int s2, .long s3, .int s4, .int s5, .int 0, .int v8]) (rest := []) (rv := (some (.long q1.1))) (M1 := q1.2) S hw (ihd hG t0 s1 s2 s3 s4 s5 0 v8 k0 M q1 eq1) mv_X12_meansRun lk_X12_148 k0 ⟨_, _, rfl⟩ (by decide) rfl rfl (Nat.le_of_ble_eq_true rfl) ⟨by show _ ≤ 2 + (d + 1); omega, by show _ ≤ 60 * (2 + (d + 1)); omega⟩ hl.1 dX12_meansRun_377 (fun H locs hw => ?_)
      refine lv_lstore (lv' := [(19, .long q1.1), (8, .int v8), (14, .int v14), (17, .long v17)]) hx hb dX12_meansRun_380 hl (by decide) rfl (fun ls hl => ?_)
      refine lv_iload hx hb dX12_meansRun_382 (lv_at hl 2 rfl) ?_
      refine lv_iconst (v := 3) hx hb dX12_meansRun_384 (by decide) ?_
      refine lv_icmp_ne (tgt := 396) hx hb dX12_meansRun_385 (by decide) (fun c2 => ?_) (fun c2 => ?_)
      · have h := zif_f h c2
        refine lv_iload hx hb dX12_meansRun_396 (lv_at hl 2 rfl) ?_
        refine lv_iconst (v := 4) hx hb dX12_meansRun_398 (by decide) ?_
        refine lv_icmp_ne (tgt := 410) hx hb dX12_meansRun_399 (by decide) (fun c3 => ?_) (fun c3 => ?_)
        · have h := zif_f h c3
          refine lv_iload hx hb dX12_meansRun_410 (lv_at hl 2 rfl) ?_
          refine lv_iconst (v := 5) hx hb dX12_meansRun_412 (by decide) ?_
          refine lv_icmp_ne (tgt := 432) hx hb dX12_meansRun_413 (by decide) (fun c4 => ?_) (fun c4 => ?_)
          · have h := zif_f h c4
            refine lv_lload hx hb dX12_meansRun_432 (lv_at hl 3 rfl) ?_
            refine lv_lload hx hb dX12_meansRun_434 (lv_at hl 0 rfl) ?_
            refine lv_ldc2 (v := (-1)) hx hb hown (hts _ kc_X12_152) dX12_meansRun_436 ?_
            refine lv_lxor hx hb dX12_meansRun_439 ?_
            refine lv_land hx hb dX12_meansRun_440 ?_
            refine lv_ldc2 (v := 4294967295) hx hb hown (hts _ kc_X12_142) dX12_meansRun_441 ?_
            refine lv_land hx hb dX12_meansRun_444 ?_
            have h := Option.some.inj h
            subst h
            exact z_ret_l S hr hlk hw dX12_meansRun_445
          · have h := zif_t h c4
            refine lv_lload hx hb dX12_meansRun_416 (lv_at hl 3 rfl) ?_
            refine lv_ldc2 (v := (-1)) hx hb hown (hts _ kc_X12_152) dX12_meansRun_418 ?_
            refine lv_lxor hx hb dX12_meansRun_421 ?_
            refine lv_ldc2 (v := 4294967295) hx hb hown (hts _ kc_X12_142) dX12_meansRun_422 ?_
            refine lv_land hx hb dX12_meansRun_425 ?_
            refine lv_lload hx hb dX12_meansRun_426 (lv_at hl 0 rfl) ?_
            refine lv_lor hx hb dX12_meansRun_428 ?_
            refine lv_goto (tgt := 445) hx hb dX12_meansRun_429 (by decide) ?_
            have h := Option.some.inj h
            subst h
            exact z_ret_l S hr hlk hw dX12_meansRun_445
        · have h := zif_t h c3
          refine lv_lload hx hb dX12_meansRun_402 (lv_at hl 3 rfl) ?_
          refine lv_lload hx hb dX12_meansRun_404 (lv_at hl 0 rfl) ?_
          refine lv_lor hx hb dX12_meansRun_406 ?_
          refine lv_goto (tgt := 445) hx hb dX12_meansRun_407 (by decide) ?_
          have h := Option.some.inj h
          subst h
          exact z_ret_l S hr hlk hw dX12_meansRun_445
      · have h := zif_t h c2
        refine lv_lload hx hb dX12_meansRun_388 (lv_at hl 3 rfl) ?_
        refine lv_lload hx hb dX12_meansRun_390 (lv_at hl 0 rfl) ?_
        refine lv_land hx hb dX12_meansRun_392 ?_
        refine lv_goto (tgt := 445) hx hb dX12_meansRun_393 (by decide) ?_
        have h := Option.some.inj h
        subst h
        exact z_ret_l S hr hlk hw dX12_meansRun_445
    obtain ⟨J369, hJ369, h⟩ := zlet_ex h
    have wJ369 : ∀ (v14 : Int32) (v17 : Int64) (s1 : Int32) (s2 : Int32) (s3 : Int64) (s4 : Int32) (M : ZM), J369 v14 v17 s1 s2 s3 s4 M = some res → ∀ (H : Heap) (locs : List Loc) (ls : Array Slot), zWd G A s H locs M → lv_has ls 21 [(8, .int v8), (14, .int v14), (17, .long v17)] → W p l e (zR (2 + (d + 1))) s m args below meth c H locs 0 0 (zQ below G A (some (.long res.1)) res.2 args s) (F0 m 369 ls [.int s4, .long s3, .int s2, .int s1, .ref (za G t0)]) := by
      intro v14 v17 s1 s2 s3 s4 M h H locs ls hw hl
      subst hJ369
      refine lv_iconst (v := 1) hx hb dX12_meansRun_369 (by decide) ?_
      refine lv_goto (tgt := 374) hx hb dX12_meansRun_370 (by decide) ?_
      exact wJ374 v14 v17 s1 s2 s3 s4 1 M h H locs ls hw (lv_sub hl [0, 1, 2] rfl)
    obtain ⟨J338, hJ338, h⟩ := zlet_ex h
    have wJ338 : ∀ (v11 : Int64) (v13 : Int32) (v14 : Int32) (v15 : Int64) (s1 : Int32) (s2 : Int32) (s3 : Int64) (s4 : Int32) (s5 : Int32) (M : ZM), J338 v11 v13 v14 v15 s1 s2 s3 s4 s5 M = some res → ∀ (H : Heap) (locs : List Loc) (ls : Array Slot), zWd G A s H locs M → lv_has ls 21 [(0, .ref (za G t0)), (2, .int v2), (6, .int v6), (8, .int v8), (11, .long v11), (13, .int v13), (14, .int v14), (15, .long v15)] → W p l e (zR (2 + (d + 1))) s m args below meth c H locs 0 0 (zQ below G A (some (.long res.1)) res.2 args s) (F0 m 338 ls [.int s5, .int s4, .long s3, .int s2, .int s1, .ref (za G t0)]) := by
      intro v11 v13 v14 v15 s1 s2 s3 s4 s5 M h H locs ls hw hl
      subst hJ338
      refine lv_iconst (v := 0) hx hb dX12_meansRun_338 (by decide) ?_
      refine lv_iload hx hb dX12_meansRun_339 (lv_at hl 3 rfl) ?_
      obtain ⟨q5, eq5, h⟩ := Option.bind_eq_some_iff.mp h
      refine z_callV (ci := 12) (As := [.int s1, .int s2, .long s3, .int s4, .int s5, .int 0, .int v8]) (rest := []) (rv := (some (.long q5.1))) (M1 := q5.2) S hw (ihd hG t0 s1 s2 s3 s4 s5 0 v8 k0 M q5 eq5) mv_X12_meansRun lk_X12_148 k0 ⟨_, _, rfl⟩ (by decide) rfl rfl (Nat.le_of_ble_eq_true rfl) ⟨by show _ ≤ 2 + (d + 1); omega, by show _ ≤ 60 * (2 + (d + 1)); omega⟩ hl.1 dX12_meansRun_341 (fun H locs hw => ?_)
      refine lv_lstore (lv' := [(17, .long q5.1), (0, .ref (za G t0)), (2, .int v2), (6, .int v6), (8, .int v8), (11, .long v11), (13, .int v13), (14, .int v14), (15, .long v15)]) hx hb dX12_meansRun_344 hl (by decide) rfl (fun ls hl => ?_)
      refine lv_aload_n hx hb dX12_meansRun_346 rfl (lv_at hl 1 rfl) ?_
      refine lv_iload hx hb dX12_meansRun_347 (lv_at hl 6 rfl) ?_
      refine lv_iconst (v := 1) hx hb dX12_meansRun_349 (by decide) ?_
      refine lv_iadd hx hb dX12_meansRun_350 ?_
      refine lv_iload_n hx hb dX12_meansRun_351 rfl (lv_at hl 2 rfl) ?_
      refine lv_lload hx hb dX12_meansRun_352 (lv_at hl 5 rfl) ?_
      refine lv_lload hx hb dX12_meansRun_354 (lv_at hl 8 rfl) ?_
      obtain ⟨g6, h⟩ := zck_ex h
      refine lv_lrem hx hb dX12_meansRun_356 (znz_of g6) ?_
      refine lv_iconst (v := 1) hx hb dX12_meansRun_357 (by decide) ?_
      refine lv_iload hx hb dX12_meansRun_358 (lv_at hl 3 rfl) ?_
      refine lv_if_ne (tgt := 369) hx hb dX12_meansRun_360 (by decide) (fun c7 => ?_) (fun c7 => ?_)
      · have h := zif_f h c7
        exact wJ369 v14 q5.1 (v13 + 1) v2 (v11 - v11 / v15 * v15) 1 q5.2 h H locs ls hw (lv_sub hl [4, 7, 0] rfl)
      · have h := zif_t h c7
        refine lv_iload hx hb dX12_meansRun_363 (lv_at hl 7 rfl) ?_
        refine lv_iconst (v := 3) hx hb dX12_meansRun_365 (by decide) ?_
        refine lv_icmp_ne (tgt := 373) hx hb dX12_meansRun_366 (by decide) (fun c8 => ?_) (fun c8 => ?_)
        · have h := zif_f h c8
          refine lv_iconst (v := 0) hx hb dX12_meansRun_373 (by decide) ?_
          exact wJ374 v14 q5.1 (v13 + 1) v2 (v11 - v11 / v15 * v15) 1 0 q5.2 h H locs ls hw (lv_sub hl [4, 7, 0] rfl)
        · have h := zif_t h c8
          exact wJ369 v14 q5.1 (v13 + 1) v2 (v11 - v11 / v15 * v15) 1 q5.2 h H locs ls hw (lv_sub hl [4, 7, 0] rfl)
    obtain ⟨J333, hJ333, h⟩ := zlet_ex h
    have wJ333 : ∀ (v11 : Int64) (v13 : Int32) (v14 : Int32) (v15 : Int64) (s1 : Int32) (s2 : Int32) (s3 : Int64) (s4 : Int32) (M : ZM), J333 v11 v13 v14 v15 s1 s2 s3 s4 M = some res → ∀ (H : Heap) (locs : List Loc) (ls : Array Slot), zWd G A s H locs M → lv_has ls 21 [(0, .ref (za G t0)), (2, .int v2), (6, .int v6), (8, .int v8), (11, .long v11), (13, .int v13), (14, .int v14), (15, .long v15)] → W p l e (zR (2 + (d + 1))) s m args below meth c H locs 0 0 (zQ below G A (some (.long res.1)) res.2 args s) (F0 m 333 ls [.int s4, .long s3, .int s2, .int s1, .ref (za G t0)]) := by
      intro v11 v13 v14 v15 s1 s2 s3 s4 M h H locs ls hw hl
      subst hJ333
      refine lv_iconst (v := 1) hx hb dX12_meansRun_333 (by decide) ?_
      refine lv_goto (tgt := 338) hx hb dX12_meansRun_334 (by decide) ?_
      exact wJ338 v11 v13 v14 v15 s1 s2 s3 s4 1 M h H locs ls hw (lv_sub hl [0, 1, 2, 3, 4, 5, 6, 7] rfl)
    obtain ⟨J296, hJ296, h⟩ := zlet_ex h
    have wJ296 : ∀ (v11 : Int64) (v13 : Int32) (v14 : Int32) (s1 : Int32) (M : ZM), J296 v11 v13 v14 s1 M = some res → ∀ (H : Heap) (locs : List Loc) (ls : Array Slot), zWd G A s H locs M → lv_has ls 21 [(0, .ref (za G t0)), (1, .int v1), (2, .int v2), (5, .int v5), (6, .int v6), (8, .int v8), (11, .long v11), (13, .int v13), (14, .int v14)] → W p l e (zR (2 + (d + 1))) s m args below meth c H locs 0 0 (zQ below G A (some (.long res.1)) res.2 args s) (F0 m 296 ls [.int s1, .ref (za G t0)]) := by
      intro v11 v13 v14 s1 M h H locs ls hw hl
      subst hJ296
      refine lv_iconst (v := 3) hx hb dX12_meansRun_296 (by decide) ?_
      obtain ⟨q9, eq9, h⟩ := zlet_ex h
      refine z_callV (ci := 12) (As := [.int s1, .int 3]) (rest := []) (rv := none) (M1 := q9) S hw (c_X12_breaks l hG t0 s1 3 k0 M q9 eq9.symm) mv_X12_breaks lk_X12_144 k0 ⟨_, _, rfl⟩ (by decide) rfl rfl (Nat.le_of_ble_eq_true rfl) ⟨by show _ ≤ 2 + (d + 1); omega, by show _ ≤ 60 * (2 + (d + 1)); omega⟩ hl.1 dX12_meansRun_297 (fun H locs hw => ?_)
      refine lv_aload_n hx hb dX12_meansRun_300 rfl (lv_at hl 0 rfl) ?_
      refine lv_iload hx hb dX12_meansRun_301 (lv_at hl 7 rfl) ?_
      refine lv_iconst (v := 1) hx hb dX12_meansRun_303 (by decide) ?_
      refine lv_iadd hx hb dX12_meansRun_304 ?_
      refine lv_iload_n hx hb dX12_meansRun_305 rfl (lv_at hl 2 rfl) ?_
      obtain ⟨q10, eq10, h⟩ := Option.bind_eq_some_iff.mp h
      refine z_callV (ci := 12) (As := [.int (v13 + 1), .int v2]) (rest := []) (rv := (some (.long q10))) (M1 := q9) S hw (c_X12_waysOf l hG t0 (v13 + 1) v2 k0 q9 q10 eq10) mv_X12_waysOf lk_X12_115 k0 ⟨_, _, rfl⟩ (by decide) rfl rfl (Nat.le_of_ble_eq_true rfl) ⟨by show _ ≤ 2 + (d + 1); omega, by show _ ≤ 60 * (2 + (d + 1)); omega⟩ hl.1 dX12_meansRun_306 (fun H locs hw => ?_)
      refine lv_lstore (lv' := [(15, .long q10), (0, .ref (za G t0)), (1, .int v1), (2, .int v2), (5, .int v5), (6, .int v6), (8, .int v8), (11, .long v11), (13, .int v13), (14, .int v14)]) hx hb dX12_meansRun_309 hl (by decide) rfl (fun ls hl => ?_)
      refine lv_aload_n hx hb dX12_meansRun_311 rfl (lv_at hl 1 rfl) ?_
      refine lv_iload_n hx hb dX12_meansRun_312 rfl (lv_at hl 2 rfl) ?_
      refine lv_iload hx hb dX12_meansRun_313 (lv_at hl 8 rfl) ?_
      refine lv_lload hx hb dX12_meansRun_315 (lv_at hl 7 rfl) ?_
      refine lv_lload hx hb dX12_meansRun_317 (lv_at hl 0 rfl) ?_
      obtain ⟨g11, h⟩ := zck_ex h
      refine lv_ldiv hx hb dX12_meansRun_319 (znz_of g11) ?_
      refine lv_iload hx hb dX12_meansRun_320 (lv_at hl 4 rfl) ?_
      refine lv_iload hx hb dX12_meansRun_322 (lv_at hl 5 rfl) ?_
      refine lv_if_ne (tgt := 333) hx hb dX12_meansRun_324 (by decide) (fun c12 => ?_) (fun c12 => ?_)
      · have h := zif_f h c12
        exact wJ333 v11 v13 v14 q10 v1 v13 (v11 / q10) v5 q9 h H locs ls hw (lv_sub hl [1, 3, 5, 6, 7, 8, 9, 0] rfl)
      · have h := zif_t h c12
        refine lv_iload hx hb dX12_meansRun_327 (lv_at hl 9 rfl) ?_
        refine lv_iconst (v := 3) hx hb dX12_meansRun_329 (by decide) ?_
        refine lv_icmp_ne (tgt := 337) hx hb dX12_meansRun_330 (by decide) (fun c13 => ?_) (fun c13 => ?_)
        · have h := zif_f h c13
          refine lv_iconst (v := 0) hx hb dX12_meansRun_337 (by decide) ?_
          exact wJ338 v11 v13 v14 q10 v1 v13 (v11 / q10) v5 0 q9 h H locs ls hw (lv_sub hl [1, 3, 5, 6, 7, 8, 9, 0] rfl)
        · have h := zif_t h c13
          exact wJ333 v11 v13 v14 q10 v1 v13 (v11 / q10) v5 q9 h H locs ls hw (lv_sub hl [1, 3, 5, 6, 7, 8, 9, 0] rfl)
    obtain ⟨J295, hJ295, h⟩ := zlet_ex h
    have wJ295 : ∀ (v11 : Int64) (v13 : Int32) (v14 : Int32) (M : ZM), J295 v11 v13 v14 M = some res → ∀ (H : Heap) (locs : List Loc) (ls : Array Slot), zWd G A s H locs M → lv_has ls 21 [(0, .ref (za G t0)), (1, .int v1), (2, .int v2), (5, .int v5), (6, .int v6), (8, .int v8), (11, .long v11), (13, .int v13), (14, .int v14)] → W p l e (zR (2 + (d + 1))) s m args below meth c H locs 0 0 (zQ below G A (some (.long res.1)) res.2 args s) (F0 m 295 ls [.ref (za G t0)]) := by
      intro v11 v13 v14 M h H locs ls hw hl
      subst hJ295
      refine lv_iconst (v := 0) hx hb dX12_meansRun_295 (by decide) ?_
      exact wJ296 v11 v13 v14 0 M h H locs ls hw (lv_sub hl [0, 1, 2, 3, 4, 5, 6, 7, 8] rfl)
    obtain ⟨J99, hJ99, h⟩ := zlet_ex h
    have wJ99 : ∀ (s1 : Int32) (M : ZM), J99 s1 M = some res → ∀ (H : Heap) (locs : List Loc) (ls : Array Slot), zWd G A s H locs M → lv_has ls 21 [(0, .ref (za G t0)), (1, .int v1), (2, .int v2), (3, .long v3), (5, .int v5), (6, .int v6), (8, .int v8)] → W p l e (zR (2 + (d + 1))) s m args below meth c H locs 0 0 (zQ below G A (some (.long res.1)) res.2 args s) (F0 m 99 ls [.int s1, .ref (za G t0)]) := by
      intro s1 M h H locs ls hw hl
      subst hJ99
      refine lv_iconst (v := 1) hx hb dX12_meansRun_99 (by decide) ?_
      obtain ⟨q14, eq14, h⟩ := zlet_ex h
      refine z_callV (ci := 12) (As := [.int s1, .int 1]) (rest := []) (rv := none) (M1 := q14) S hw (c_X12_breaks l hG t0 s1 1 k0 M q14 eq14.symm) mv_X12_breaks lk_X12_144 k0 ⟨_, _, rfl⟩ (by decide) rfl rfl (Nat.le_of_ble_eq_true rfl) ⟨by show _ ≤ 2 + (d + 1); omega, by show _ ≤ 60 * (2 + (d + 1)); omega⟩ hl.1 dX12_meansRun_100 (fun H locs hw => ?_)
      refine lv_aload_n hx hb dX12_meansRun_103 rfl (lv_at hl 0 rfl) ?_
      refine lv_iload_n hx hb dX12_meansRun_104 rfl (lv_at hl 1 rfl) ?_
      refine lv_iconst (v := 1) hx hb dX12_meansRun_105 (by decide) ?_
      refine lv_iadd hx hb dX12_meansRun_106 ?_
      refine lv_iload_n hx hb dX12_meansRun_107 rfl (lv_at hl 2 rfl) ?_
      refine lv_lload_n hx hb dX12_meansRun_108 rfl (lv_at hl 3 rfl) ?_
      refine lv_iload hx hb dX12_meansRun_109 (lv_at hl 4 rfl) ?_
      refine lv_iload hx hb dX12_meansRun_111 (lv_at hl 5 rfl) ?_
      refine lv_iconst (v := 1) hx hb dX12_meansRun_113 (by decide) ?_
      refine lv_iload hx hb dX12_meansRun_114 (lv_at hl 6 rfl) ?_
      obtain ⟨q15, eq15, h⟩ := Option.bind_eq_some_iff.mp h
      refine z_callV (ci := 12) (As := [.int (v1 + 1), .int v2, .long v3, .int v5, .int v6, .int 1, .int v8]) (rest := []) (rv := (some (.long q15.1))) (M1 := q15.2) S hw (ihd hG t0 (v1 + 1) v2 v3 v5 v6 1 v8 k0 q14 q15 eq15) mv_X12_meansRun lk_X12_148 k0 ⟨_, _, rfl⟩ (by decide) rfl rfl (Nat.le_of_ble_eq_true rfl) ⟨by show _ ≤ 2 + (d + 1); omega, by show _ ≤ 60 * (2 + (d + 1)); omega⟩ hl.1 dX12_meansRun_116 (fun H locs hw => ?_)
      refine lv_ldc2 (v := (-1)) hx hb hown (hts _ kc_X12_152) dX12_meansRun_119 ?_
      refine lv_lxor hx hb dX12_meansRun_122 ?_
      refine lv_ldc2 (v := 4294967295) hx hb hown (hts _ kc_X12_142) dX12_meansRun_123 ?_
      refine lv_land hx hb dX12_meansRun_126 ?_
      have h := Option.some.inj h
      subst h
      exact z_ret_l S hr hlk hw dX12_meansRun_127
    refine lv_aload_n hx hb dX12_meansRun_0 rfl (lv_at hl 0 rfl) ?_
    refine lv_iload_n hx hb dX12_meansRun_1 rfl (lv_at hl 1 rfl) ?_
    refine lv_iload_n hx hb dX12_meansRun_2 rfl (lv_at hl 2 rfl) ?_
    obtain ⟨q16, eq16, h⟩ := Option.bind_eq_some_iff.mp h
    refine z_callV (ci := 12) (As := [.int v1, .int v2]) (rest := []) (rv := (some (.long q16))) (M1 := M) S hw (c_X12_firstWays l hG t0 v1 v2 k0 M q16 eq16) mv_X12_firstWays lk_X12_122 k0 ⟨_, _, rfl⟩ (by decide) rfl rfl (Nat.le_of_ble_eq_true rfl) ⟨by show _ ≤ 2 + (d + 1); omega, by show _ ≤ 60 * (2 + (d + 1)); omega⟩ hl.1 dX12_meansRun_3 (fun H locs hw => ?_)
    refine lv_lstore (lv' := [(9, .long q16), (0, .ref (za G t0)), (1, .int v1), (2, .int v2), (3, .long v3), (5, .int v5), (6, .int v6), (7, .int v7), (8, .int v8)]) hx hb dX12_meansRun_6 hl (by decide) rfl (fun ls hl => ?_)
    refine lv_lload_n hx hb dX12_meansRun_8 rfl (lv_at hl 4 rfl) ?_
    refine lv_lload hx hb dX12_meansRun_9 (lv_at hl 0 rfl) ?_
    refine W.lcmp hx hb dX12_meansRun_11 ?_
    refine lv_if_ge (tgt := 153) hx hb dX12_meansRun_12 (by decide) (fun c17 => ?_) (fun c17 => ?_)
    · have h := zif_t h c17
      refine lv_lload_n hx hb dX12_meansRun_153 rfl (lv_at hl 4 rfl) ?_
      refine lv_lload hx hb dX12_meansRun_154 (lv_at hl 0 rfl) ?_
      refine lv_lsub hx hb dX12_meansRun_156 ?_
      obtain ⟨x18, ex18, h⟩ := zlet_ex h
      refine lv_toplE ex18 ?_
      refine lv_lstore (lv' := [(11, .long x18), (9, .long q16), (0, .ref (za G t0)), (1, .int v1), (2, .int v2), (3, .long v3), (5, .int v5), (6, .int v6), (7, .int v7), (8, .int v8)]) hx hb dX12_meansRun_157 hl (by decide) rfl (fun ls hl => ?_)
      refine lv_iload_n hx hb dX12_meansRun_159 rfl (lv_at hl 3 rfl) ?_
      refine lv_iconst (v := 1) hx hb dX12_meansRun_160 (by decide) ?_
      refine lv_iadd hx hb dX12_meansRun_161 ?_
      obtain ⟨x19, ex19, h⟩ := zlet_ex h
      refine lv_topiE ex19 ?_
      refine lv_istore (lv' := [(13, .int x19), (11, .long x18), (9, .long q16), (0, .ref (za G t0)), (1, .int v1), (2, .int v2), (3, .long v3), (5, .int v5), (6, .int v6), (7, .int v7), (8, .int v8)]) hx hb dX12_meansRun_162 hl (by decide) rfl (fun ls hl => ?_)
      refine w_X12_meansRun_164 hG S hr hlk t0 v1 v2 v5 v6 v7 v8 k0 (fun v11 v13 M h H locs ls hw hl => ?_) zN x18 x19 M h H locs ls hw (lv_sub hl [3, 4, 5, 7, 8, 9, 10, 1, 0] rfl)
      refine lv_aload_n hx hb dX12_meansRun_245 rfl (lv_at hl 0 rfl) ?_
      refine z_getR S hw k0 fl_X12_13 rfl dX12_meansRun_246 ?_
      refine lv_iload hx hb dX12_meansRun_249 (lv_at hl 8 rfl) ?_
      obtain ⟨g35, h⟩ := zck_ex h
      refine z_iald S hw (kr_12_1 hG k0) g35 dX12_meansRun_251 ?_
      obtain ⟨q36, eq36, h⟩ := zlet_ex h
      refine z_callS (As := [.int (M.1 (zr t0 1) v13.toNatClampNeg)]) (rest := []) (rv := (some (.int q36))) (M1 := M) S hw (c_X12_kindOf l hG (M.1 (zr t0 1) v13.toNatClampNeg) M q36 eq36.symm) mv_X12_kindOf lk_X12_100 rfl rfl (Nat.le_of_ble_eq_true rfl) ⟨by show _ ≤ 2 + (d + 1); omega, by show _ ≤ 60 * (2 + (d + 1)); omega⟩ hl.1 dX12_meansRun_252 (fun H locs hw => ?_)
      refine lv_istore (lv' := [(14, .int q36), (0, .ref (za G t0)), (1, .int v1), (2, .int v2), (5, .int v5), (6, .int v6), (7, .int v7), (8, .int v8), (11, .long v11), (13, .int v13)]) hx hb dX12_meansRun_255 hl (by decide) rfl (fun ls hl => ?_)
      refine lv_aload_n hx hb dX12_meansRun_257 rfl (lv_at hl 1 rfl) ?_
      refine lv_iload hx hb dX12_meansRun_258 (lv_at hl 0 rfl) ?_
      refine lv_iload_n hx hb dX12_meansRun_260 rfl (lv_at hl 2 rfl) ?_
      refine lv_iload_n hx hb dX12_meansRun_261 rfl (lv_at hl 3 rfl) ?_
      obtain ⟨q37, eq37, h⟩ := Option.bind_eq_some_iff.mp h
      refine z_callV (ci := 12) (As := [.int q36, .int v1, .int v2]) (rest := []) (rv := none) (M1 := q37) S hw (c_X12_notes l hG t0 q36 v1 v2 k0 M q37 eq37) mv_X12_notes lk_X12_135 k0 ⟨_, _, rfl⟩ (by decide) rfl rfl (Nat.le_of_ble_eq_true rfl) ⟨by show _ ≤ 2 + (d + 1); omega, by show _ ≤ 60 * (2 + (d + 1)); omega⟩ hl.1 dX12_meansRun_262 (fun H locs hw => ?_)
      refine lv_aload_n hx hb dX12_meansRun_265 rfl (lv_at hl 1 rfl) ?_
      refine lv_iload hx hb dX12_meansRun_266 (lv_at hl 6 rfl) ?_
      refine lv_iconst (v := 0) hx hb dX12_meansRun_268 (by decide) ?_
      obtain ⟨q38, eq38, h⟩ := zlet_ex h
      refine z_callV (ci := 12) (As := [.int v7, .int 0]) (rest := []) (rv := none) (M1 := q38) S hw (c_X12_breaks l hG t0 v7 0 k0 q37 q38 eq38.symm) mv_X12_breaks lk_X12_144 k0 ⟨_, _, rfl⟩ (by decide) rfl rfl (Nat.le_of_ble_eq_true rfl) ⟨by show _ ≤ 2 + (d + 1); omega, by show _ ≤ 60 * (2 + (d + 1)); omega⟩ hl.1 dX12_meansRun_269 (fun H locs hw => ?_)
      refine lv_aload_n hx hb dX12_meansRun_272 rfl (lv_at hl 1 rfl) ?_
      refine lv_iload hx hb dX12_meansRun_273 (lv_at hl 4 rfl) ?_
      refine lv_iconst (v := 2) hx hb dX12_meansRun_275 (by decide) ?_
      obtain ⟨q39, eq39, h⟩ := zlet_ex h
      refine z_callV (ci := 12) (As := [.int v5, .int 2]) (rest := []) (rv := none) (M1 := q39) S hw (c_X12_breaks l hG t0 v5 2 k0 q38 q39 eq39.symm) mv_X12_breaks lk_X12_144 k0 ⟨_, _, rfl⟩ (by decide) rfl rfl (Nat.le_of_ble_eq_true rfl) ⟨by show _ ≤ 2 + (d + 1); omega, by show _ ≤ 60 * (2 + (d + 1)); omega⟩ hl.1 dX12_meansRun_276 (fun H locs hw => ?_)
      refine lv_aload_n hx hb dX12_meansRun_279 rfl (lv_at hl 1 rfl) ?_
      refine lv_iload hx hb dX12_meansRun_280 (lv_at hl 5 rfl) ?_
      refine lv_if_eq (tgt := 295) hx hb dX12_meansRun_282 (by decide) (fun c40 => ?_) (fun c40 => ?_)
      · have h := zif_t h c40
        exact wJ295 v11 v13 q36 q39 h H locs ls hw (lv_sub hl [1, 2, 3, 4, 5, 7, 8, 9, 0] rfl)
      · have h := zif_f h c40
        refine lv_iload hx hb dX12_meansRun_285 (lv_at hl 0 rfl) ?_
        refine lv_iconst (v := 3) hx hb dX12_meansRun_287 (by decide) ?_
        refine lv_icmp_eq (tgt := 295) hx hb dX12_meansRun_288 (by decide) (fun c41 => ?_) (fun c41 => ?_)
        · have h := zif_t h c41
          exact wJ295 v11 v13 q36 q39 h H locs ls hw (lv_sub hl [1, 2, 3, 4, 5, 7, 8, 9, 0] rfl)
        · have h := zif_f h c41
          refine lv_iconst (v := 1) hx hb dX12_meansRun_291 (by decide) ?_
          refine lv_goto (tgt := 296) hx hb dX12_meansRun_292 (by decide) ?_
          exact wJ296 v11 v13 q36 1 q39 h H locs ls hw (lv_sub hl [1, 2, 3, 4, 5, 7, 8, 9, 0] rfl)
    · have h := zif_f h c17
      refine lv_iload_n hx hb dX12_meansRun_15 rfl (lv_at hl 3 rfl) ?_
      refine lv_iload_n hx hb dX12_meansRun_16 rfl (lv_at hl 2 rfl) ?_
      refine lv_isub hx hb dX12_meansRun_17 ?_
      refine lv_iconst (v := 1) hx hb dX12_meansRun_18 (by decide) ?_
      refine lv_icmp_ne (tgt := 69) hx hb dX12_meansRun_19 (by decide) (fun c42 => ?_) (fun c42 => ?_)
      · have h := zif_f h c42
        refine lv_aload_n hx hb dX12_meansRun_69 rfl (lv_at hl 1 rfl) ?_
        refine z_getR S hw k0 fl_X12_13 rfl dX12_meansRun_70 ?_
        refine lv_iload_n hx hb dX12_meansRun_73 rfl (lv_at hl 2 rfl) ?_
        obtain ⟨g43, h⟩ := zck_ex h
        refine z_iald S hw (kr_12_1 hG k0) g43 dX12_meansRun_74 ?_
        refine lv_bipush (v := 33) hx hb dX12_meansRun_75 (by decide) ?_
        refine lv_icmp_ne (tgt := 128) hx hb dX12_meansRun_77 (by decide) (fun c44 => ?_) (fun c44 => ?_)
        · have h := zif_f h c44
          refine lv_aload_n hx hb dX12_meansRun_128 rfl (lv_at hl 1 rfl) ?_
          refine lv_iconst (v := 2) hx hb dX12_meansRun_129 (by decide) ?_
          refine lv_iload_n hx hb dX12_meansRun_130 rfl (lv_at hl 2 rfl) ?_
          refine lv_iload_n hx hb dX12_meansRun_131 rfl (lv_at hl 3 rfl) ?_
          obtain ⟨q45, eq45, h⟩ := Option.bind_eq_some_iff.mp h
          refine z_callV (ci := 12) (As := [.int 2, .int v1, .int v2]) (rest := []) (rv := none) (M1 := q45) S hw (c_X12_notes l hG t0 2 v1 v2 k0 M q45 eq45) mv_X12_notes lk_X12_135 k0 ⟨_, _, rfl⟩ (by decide) rfl rfl (Nat.le_of_ble_eq_true rfl) ⟨by show _ ≤ 2 + (d + 1); omega, by show _ ≤ 60 * (2 + (d + 1)); omega⟩ hl.1 dX12_meansRun_132 (fun H locs hw => ?_)
          refine lv_aload_n hx hb dX12_meansRun_135 rfl (lv_at hl 1 rfl) ?_
          refine lv_iload_n hx hb dX12_meansRun_136 rfl (lv_at hl 2 rfl) ?_
          refine lv_iconst (v := 1) hx hb dX12_meansRun_137 (by decide) ?_
          refine lv_iadd hx hb dX12_meansRun_138 ?_
          refine lv_iload_n hx hb dX12_meansRun_139 rfl (lv_at hl 3 rfl) ?_
          refine lv_iconst (v := 1) hx hb dX12_meansRun_140 (by decide) ?_
          refine lv_isub hx hb dX12_meansRun_141 ?_
          refine lv_lload_n hx hb dX12_meansRun_142 rfl (lv_at hl 4 rfl) ?_
          refine lv_iconst (v := 0) hx hb dX12_meansRun_143 (by decide) ?_
          refine lv_iconst (v := 0) hx hb dX12_meansRun_144 (by decide) ?_
          refine lv_iconst (v := 0) hx hb dX12_meansRun_145 (by decide) ?_
          refine lv_iload_n hx hb dX12_meansRun_146 rfl (lv_at hl 3 rfl) ?_
          refine lv_iconst (v := 1) hx hb dX12_meansRun_147 (by decide) ?_
          refine lv_isub hx hb dX12_meansRun_148 ?_
          obtain ⟨q46, eq46, h⟩ := Option.bind_eq_some_iff.mp h
          refine z_callV (ci := 12) (As := [.int (v1 + 1), .int (v2 - 1), .long v3, .int 0, .int 0, .int 0, .int (v2 - 1)]) (rest := []) (rv := (some (.long q46.1))) (M1 := q46.2) S hw (ihd hG t0 (v1 + 1) (v2 - 1) v3 0 0 0 (v2 - 1) k0 q45 q46 eq46) mv_X12_meansRun lk_X12_148 k0 ⟨_, _, rfl⟩ (by decide) rfl rfl (Nat.le_of_ble_eq_true rfl) ⟨by show _ ≤ 2 + (d + 1); omega, by show _ ≤ 60 * (2 + (d + 1)); omega⟩ hl.1 dX12_meansRun_149 (fun H locs hw => ?_)
          have h := Option.some.inj h
          subst h
          exact z_ret_l S hr hlk hw dX12_meansRun_152
        · have h := zif_t h c44
          refine lv_aload_n hx hb dX12_meansRun_80 rfl (lv_at hl 1 rfl) ?_
          refine lv_iconst (v := 1) hx hb dX12_meansRun_81 (by decide) ?_
          refine lv_iload_n hx hb dX12_meansRun_82 rfl (lv_at hl 2 rfl) ?_
          refine lv_iload_n hx hb dX12_meansRun_83 rfl (lv_at hl 3 rfl) ?_
          obtain ⟨q47, eq47, h⟩ := Option.bind_eq_some_iff.mp h
          refine z_callV (ci := 12) (As := [.int 1, .int v1, .int v2]) (rest := []) (rv := none) (M1 := q47) S hw (c_X12_notes l hG t0 1 v1 v2 k0 M q47 eq47) mv_X12_notes lk_X12_135 k0 ⟨_, _, rfl⟩ (by decide) rfl rfl (Nat.le_of_ble_eq_true rfl) ⟨by show _ ≤ 2 + (d + 1); omega, by show _ ≤ 60 * (2 + (d + 1)); omega⟩ hl.1 dX12_meansRun_84 (fun H locs hw => ?_)
          refine lv_aload_n hx hb dX12_meansRun_87 rfl (lv_at hl 1 rfl) ?_
          refine lv_iload_n hx hb dX12_meansRun_88 rfl (lv_at hl 3 rfl) ?_
          refine lv_iload hx hb dX12_meansRun_89 (lv_at hl 8 rfl) ?_
          refine lv_icmp_eq (tgt := 98) hx hb dX12_meansRun_91 (by decide) (fun c48 => ?_) (fun c48 => ?_)
          · have h := zif_t h c48
            refine lv_iconst (v := 0) hx hb dX12_meansRun_98 (by decide) ?_
            exact wJ99 0 q47 h H locs ls hw (lv_sub hl [1, 2, 3, 4, 5, 6, 8] rfl)
          · have h := zif_f h c48
            refine lv_iconst (v := 1) hx hb dX12_meansRun_94 (by decide) ?_
            refine lv_goto (tgt := 99) hx hb dX12_meansRun_95 (by decide) ?_
            exact wJ99 1 q47 h H locs ls hw (lv_sub hl [1, 2, 3, 4, 5, 6, 8] rfl)
      · have h := zif_t h c42
        refine lv_aload_n hx hb dX12_meansRun_22 rfl (lv_at hl 1 rfl) ?_
        refine lv_iconst (v := 0) hx hb dX12_meansRun_23 (by decide) ?_
        refine lv_iload_n hx hb dX12_meansRun_24 rfl (lv_at hl 2 rfl) ?_
        refine lv_iload_n hx hb dX12_meansRun_25 rfl (lv_at hl 3 rfl) ?_
        obtain ⟨q49, eq49, h⟩ := Option.bind_eq_some_iff.mp h
        refine z_callV (ci := 12) (As := [.int 0, .int v1, .int v2]) (rest := []) (rv := none) (M1 := q49) S hw (c_X12_notes l hG t0 0 v1 v2 k0 M q49 eq49) mv_X12_notes lk_X12_135 k0 ⟨_, _, rfl⟩ (by decide) rfl rfl (Nat.le_of_ble_eq_true rfl) ⟨by show _ ≤ 2 + (d + 1); omega, by show _ ≤ 60 * (2 + (d + 1)); omega⟩ hl.1 dX12_meansRun_26 (fun H locs hw => ?_)
        refine lv_iload_n hx hb dX12_meansRun_29 rfl (lv_at hl 2 rfl) ?_
        refine lv_aload_n hx hb dX12_meansRun_30 rfl (lv_at hl 1 rfl) ?_
        refine z_getI S hw k0 fl_X12_65 rfl dX12_meansRun_31 ?_
        refine lv_icmp_ne (tgt := 54) hx hb dX12_meansRun_34 (by decide) (fun c50 => ?_) (fun c50 => ?_)
        · have h := zif_f h c50
          refine lv_aload_n hx hb dX12_meansRun_54 rfl (lv_at hl 1 rfl) ?_
          refine z_getR S hw k0 fl_X12_69 rfl dX12_meansRun_55 ?_
          refine lv_aload_n hx hb dX12_meansRun_58 rfl (lv_at hl 1 rfl) ?_
          refine z_getR S hw k0 fl_X12_13 rfl dX12_meansRun_59 ?_
          refine lv_iload_n hx hb dX12_meansRun_62 rfl (lv_at hl 2 rfl) ?_
          obtain ⟨g51, h⟩ := zck_ex h
          refine z_iald S hw (kr_12_1 hG k0) g51 dX12_meansRun_63 ?_
          refine lv_bipush (v := 97) hx hb dX12_meansRun_64 (by decide) ?_
          refine lv_isub hx hb dX12_meansRun_66 ?_
          obtain ⟨g52, h⟩ := zck_ex h
          refine z_lald S hw (kr_12_32 hG k0) g52 dX12_meansRun_67 ?_
          have h := Option.some.inj h
          subst h
          exact z_ret_l S hr hlk hw dX12_meansRun_68
        · have h := zif_t h c50
          refine lv_aload_n hx hb dX12_meansRun_37 rfl (lv_at hl 1 rfl) ?_
          refine z_getI S hw k0 fl_X12_139 rfl dX12_meansRun_38 ?_
          refine lv_if_eq (tgt := 50) hx hb dX12_meansRun_41 (by decide) (fun c53 => ?_) (fun c53 => ?_)
          · have h := zif_t h c53
            refine lv_lconst (v := 0) hx hb dX12_meansRun_50 (by decide) ?_
            refine lv_goto (tgt := 68) hx hb dX12_meansRun_51 (by decide) ?_
            have h := Option.some.inj h
            subst h
            exact z_ret_l S hr hlk hw dX12_meansRun_68
          · have h := zif_f h c53
            refine lv_ldc2 (v := 4294967295) hx hb hown (hts _ kc_X12_142) dX12_meansRun_44 ?_
            refine lv_goto (tgt := 68) hx hb dX12_meansRun_47 (by decide) ?_
            have h := Option.some.inj h
            subst h
            exact z_ret_l S hr hlk hw dX12_meansRun_68
end Z
