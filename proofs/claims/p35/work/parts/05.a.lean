section Z
variable {p : Program} {l : Launch} {e : Env} {s : State} {m : MethodId} {args : Array Value} {below : List Frame} {meth : Method} {c : Code} {A : Nat → Prop}
def p_X11_look (t0 : Nat) (v1 : Int32) (M : ZM) : Option Int32 :=
  if v1 < 0 then (
    some (0 : Int32)) else (
    if (Int32.ofNat (zn t0)) ≤ v1 then (
      some (0 : Int32)) else (
      zck (zin v1 (zn t0)) <|
      some (M.1 t0 v1.toNatClampNeg)))
set_option maxHeartbeats 4000000 in
set_option maxRecDepth 100000 in
theorem cp_X11_look (l : Launch) {G : ZG} (hG : zOk G) (t0 : Nat) (v1 : Int32) (k0 : zk G t0 = 0) (M : ZM) (res : Int32) (h : p_X11_look t0 v1 M = some res) : zCt l yX11_look cX11_look 2 (Option.some FieldType.int) 0 G [.ref (za G t0), .int v1] M (some (.int res)) M := by
  refine zCt.mk (by decide +kernel) (Nat.le_of_ble_eq_true rfl) ?_
  intro p e s m args below meth c A H locs ls S hr hlk hw hl
  have S : zX p (zR 0) s m args c 0 0 cX11_look 2 RX11 := S
  have hx := S.1.1
  have hb := S.1.2.1
  have hown := S.1.2.2.2.1
  have hts := S.1.2.2.2.2
  have hl : lv_has ls 2 [(0, .ref (za G t0)), (1, .int v1)] := hl
  unfold p_X11_look at h
  refine lv_iload_n hx hb dX11_look_0 rfl (lv_at hl 1 rfl) ?_
  refine lv_if_lt (tgt := 16) hx hb dX11_look_1 (by decide) (fun c1 => ?_) (fun c1 => ?_)
  · have h := zif_t h c1
    refine lv_iconst (v := 0) hx hb dX11_look_16 (by decide) ?_
    have h := Option.some.inj h
    subst h
    exact z_ret_i S hr hlk hw dX11_look_17
  · have h := zif_f h c1
    refine lv_iload_n hx hb dX11_look_4 rfl (lv_at hl 1 rfl) ?_
    refine lv_aload_n hx hb dX11_look_5 rfl (lv_at hl 0 rfl) ?_
    refine z_alen S hw k0 (by decide) dX11_look_6 ?_
    refine lv_icmp_ge (tgt := 16) hx hb dX11_look_7 (by decide) (fun c2 => ?_) (fun c2 => ?_)
    · have h := zif_t h c2
      refine lv_iconst (v := 0) hx hb dX11_look_16 (by decide) ?_
      have h := Option.some.inj h
      subst h
      exact z_ret_i S hr hlk hw dX11_look_17
    · have h := zif_f h c2
      refine lv_aload_n hx hb dX11_look_10 rfl (lv_at hl 0 rfl) ?_
      refine lv_iload_n hx hb dX11_look_11 rfl (lv_at hl 1 rfl) ?_
      obtain ⟨g3, h⟩ := zck_ex h
      refine z_iald S hw k0 g3 dX11_look_12 ?_
      refine lv_goto (tgt := 17) hx hb dX11_look_13 (by decide) ?_
      have h := Option.some.inj h
      subst h
      exact z_ret_i S hr hlk hw dX11_look_17
def p_X11_look_ (t0 : Nat) (v1 : Int32) (M : ZM) : Option Int64 :=
  if v1 < 0 then (
    some (0 : Int64)) else (
    if (Int32.ofNat (zn t0)) ≤ v1 then (
      some (0 : Int64)) else (
      zck (zin v1 (zn t0)) <|
      some (M.2 t0 v1.toNatClampNeg)))
set_option maxHeartbeats 4000000 in
set_option maxRecDepth 100000 in
theorem cp_X11_look_ (l : Launch) {G : ZG} (hG : zOk G) (t0 : Nat) (v1 : Int32) (k0 : zk G t0 = 1) (M : ZM) (res : Int64) (h : p_X11_look_ t0 v1 M = some res) : zCt l yX11_look_ cX11_look_ 2 (Option.some FieldType.long) 0 G [.ref (za G t0), .int v1] M (some (.long res)) M := by
  refine zCt.mk (by decide +kernel) (Nat.le_of_ble_eq_true rfl) ?_
  intro p e s m args below meth c A H locs ls S hr hlk hw hl
  have S : zX p (zR 0) s m args c 0 0 cX11_look_ 2 RX11 := S
  have hx := S.1.1
  have hb := S.1.2.1
  have hown := S.1.2.2.2.1
  have hts := S.1.2.2.2.2
  have hl : lv_has ls 2 [(0, .ref (za G t0)), (1, .int v1)] := hl
  unfold p_X11_look_ at h
  refine lv_iload_n hx hb dX11_look__0 rfl (lv_at hl 1 rfl) ?_
  refine lv_if_lt (tgt := 16) hx hb dX11_look__1 (by decide) (fun c1 => ?_) (fun c1 => ?_)
  · have h := zif_t h c1
    refine lv_lconst (v := 0) hx hb dX11_look__16 (by decide) ?_
    have h := Option.some.inj h
    subst h
    exact z_ret_l S hr hlk hw dX11_look__17
  · have h := zif_f h c1
    refine lv_iload_n hx hb dX11_look__4 rfl (lv_at hl 1 rfl) ?_
    refine lv_aload_n hx hb dX11_look__5 rfl (lv_at hl 0 rfl) ?_
    refine z_alen S hw k0 (by decide) dX11_look__6 ?_
    refine lv_icmp_ge (tgt := 16) hx hb dX11_look__7 (by decide) (fun c2 => ?_) (fun c2 => ?_)
    · have h := zif_t h c2
      refine lv_lconst (v := 0) hx hb dX11_look__16 (by decide) ?_
      have h := Option.some.inj h
      subst h
      exact z_ret_l S hr hlk hw dX11_look__17
    · have h := zif_f h c2
      refine lv_aload_n hx hb dX11_look__10 rfl (lv_at hl 0 rfl) ?_
      refine lv_iload_n hx hb dX11_look__11 rfl (lv_at hl 1 rfl) ?_
      obtain ⟨g3, h⟩ := zck_ex h
      refine z_lald S hw k0 g3 dX11_look__12 ?_
      refine lv_goto (tgt := 17) hx hb dX11_look__13 (by decide) ?_
      have h := Option.some.inj h
      subst h
      exact z_ret_l S hr hlk hw dX11_look__17
def p_X11_put (t0 : Nat) (v1 : Int32) (v2 : Int32) (M : ZM) : Option ZM :=
  if v1 < 0 then (
    some M) else (
    if (Int32.ofNat (zn t0)) ≤ v1 then (
      some M) else (
      zck (zin v1 (zn t0)) <|
      zlet (zi M t0 v1.toNatClampNeg v2) fun (M4 : ZM) =>
      some M4))
set_option maxHeartbeats 4000000 in
set_option maxRecDepth 100000 in
theorem cp_X11_put (l : Launch) {G : ZG} (hG : zOk G) (t0 : Nat) (v1 : Int32) (v2 : Int32) (k0 : zk G t0 = 0) (M : ZM) (res : ZM) (h : p_X11_put t0 v1 v2 M = some res) : zCt l yX11_put cX11_put 3 none 0 G [.ref (za G t0), .int v1, .int v2] M none res := by
  refine zCt.mk (by decide +kernel) (Nat.le_of_ble_eq_true rfl) ?_
  intro p e s m args below meth c A H locs ls S hr hlk hw hl
  have S : zX p (zR 0) s m args c 0 0 cX11_put 3 RX11 := S
  have hx := S.1.1
  have hb := S.1.2.1
  have hown := S.1.2.2.2.1
  have hts := S.1.2.2.2.2
  have hl : lv_has ls 3 [(0, .ref (za G t0)), (1, .int v1), (2, .int v2)] := hl
  unfold p_X11_put at h
  refine lv_iload_n hx hb dX11_put_0 rfl (lv_at hl 1 rfl) ?_
  refine lv_if_lt (tgt := 14) hx hb dX11_put_1 (by decide) (fun c1 => ?_) (fun c1 => ?_)
  · have h := zif_t h c1
    have h := Option.some.inj h
    subst h
    exact z_ret_v S hr hlk hw dX11_put_14
  · have h := zif_f h c1
    refine lv_iload_n hx hb dX11_put_4 rfl (lv_at hl 1 rfl) ?_
    refine lv_aload_n hx hb dX11_put_5 rfl (lv_at hl 0 rfl) ?_
    refine z_alen S hw k0 (by decide) dX11_put_6 ?_
    refine lv_icmp_ge (tgt := 14) hx hb dX11_put_7 (by decide) (fun c2 => ?_) (fun c2 => ?_)
    · have h := zif_t h c2
      have h := Option.some.inj h
      subst h
      exact z_ret_v S hr hlk hw dX11_put_14
    · have h := zif_f h c2
      refine lv_aload_n hx hb dX11_put_10 rfl (lv_at hl 0 rfl) ?_
      refine lv_iload_n hx hb dX11_put_11 rfl (lv_at hl 1 rfl) ?_
      refine lv_iload_n hx hb dX11_put_12 rfl (lv_at hl 2 rfl) ?_
      obtain ⟨g3, h⟩ := zck_ex h
      obtain ⟨M4, eM4, h⟩ := zlet_ex h
      refine z_iast S hw eM4 k0 g3 dX11_put_13 (fun H locs hw => ?_)
      have h := Option.some.inj h
      subst h
      exact z_ret_v S hr hlk hw dX11_put_14
def p_X11_put_ (t0 : Nat) (v1 : Int32) (v2 : Int64) (M : ZM) : Option ZM :=
  if v1 < 0 then (
    some M) else (
    if (Int32.ofNat (zn t0)) ≤ v1 then (
      some M) else (
      zck (zin v1 (zn t0)) <|
      zlet (zl M t0 v1.toNatClampNeg v2) fun (M4 : ZM) =>
      some M4))
set_option maxHeartbeats 4000000 in
set_option maxRecDepth 100000 in
theorem cp_X11_put_ (l : Launch) {G : ZG} (hG : zOk G) (t0 : Nat) (v1 : Int32) (v2 : Int64) (k0 : zk G t0 = 1) (M : ZM) (res : ZM) (h : p_X11_put_ t0 v1 v2 M = some res) : zCt l yX11_put_ cX11_put_ 4 none 0 G [.ref (za G t0), .int v1, .long v2] M none res := by
  refine zCt.mk (by decide +kernel) (Nat.le_of_ble_eq_true rfl) ?_
  intro p e s m args below meth c A H locs ls S hr hlk hw hl
  have S : zX p (zR 0) s m args c 0 0 cX11_put_ 4 RX11 := S
  have hx := S.1.1
  have hb := S.1.2.1
  have hown := S.1.2.2.2.1
  have hts := S.1.2.2.2.2
  have hl : lv_has ls 4 [(0, .ref (za G t0)), (1, .int v1), (2, .long v2)] := hl
  unfold p_X11_put_ at h
  refine lv_iload_n hx hb dX11_put__0 rfl (lv_at hl 1 rfl) ?_
  refine lv_if_lt (tgt := 14) hx hb dX11_put__1 (by decide) (fun c1 => ?_) (fun c1 => ?_)
  · have h := zif_t h c1
    have h := Option.some.inj h
    subst h
    exact z_ret_v S hr hlk hw dX11_put__14
  · have h := zif_f h c1
    refine lv_iload_n hx hb dX11_put__4 rfl (lv_at hl 1 rfl) ?_
    refine lv_aload_n hx hb dX11_put__5 rfl (lv_at hl 0 rfl) ?_
    refine z_alen S hw k0 (by decide) dX11_put__6 ?_
    refine lv_icmp_ge (tgt := 14) hx hb dX11_put__7 (by decide) (fun c2 => ?_) (fun c2 => ?_)
    · have h := zif_t h c2
      have h := Option.some.inj h
      subst h
      exact z_ret_v S hr hlk hw dX11_put__14
    · have h := zif_f h c2
      refine lv_aload_n hx hb dX11_put__10 rfl (lv_at hl 0 rfl) ?_
      refine lv_iload_n hx hb dX11_put__11 rfl (lv_at hl 1 rfl) ?_
      refine lv_lload_n hx hb dX11_put__12 rfl (lv_at hl 2 rfl) ?_
      obtain ⟨g3, h⟩ := zck_ex h
      obtain ⟨M4, eM4, h⟩ := zlet_ex h
      refine z_last S hw eM4 k0 g3 dX11_put__13 (fun H locs hw => ?_)
      have h := Option.some.inj h
      subst h
      exact z_ret_v S hr hlk hw dX11_put__14
end Z
def zD : Nat := 40
theorem zn_small (a : Nat) : zn a ≤ 4200 := by
  by_cases h : a < 51
  · have : ∀ a, a < 51 → zn a ≤ 4200 := by decide +kernel
    exact this a h
  · have e : zn a = 0 := by
      have : zNs.length = 51 := by decide +kernel
      unfold zn
      rw [List.getD_eq_getElem?_getD, List.getElem?_eq_none (by omega)]
      rfl
    omega
theorem zin_iff {i : Int32} {n : Nat} (hn : n ≤ 4200) : zin i n = true ↔ ¬ i < 0 ∧ ¬ Int32.ofNat n ≤ i := by
  have e : (Int32.ofNat n).toInt = n := Int32.toInt_ofNat_of_lt (by omega)
  have z : (0 : Int32).toInt = 0 := rfl
  simp only [zin, decide_eq_true_eq, Int32.lt_iff_toInt_lt, Int32.le_iff_toInt_le, e, z, Int32.toNatClampNeg, Int32.toNatClampNeg]
  have e2 : i.toBitVec.toInt = i.toInt := rfl
  omega
def f_X11_look (t0 : Nat) (v1 : Int32) (M : ZM) : Int32 := if zin v1 (zn t0) = true then M.1 t0 v1.toNatClampNeg else 0
def f_X11_look_ (t0 : Nat) (v1 : Int32) (M : ZM) : Int64 := if zin v1 (zn t0) = true then M.2 t0 v1.toNatClampNeg else 0
def f_X11_lookK (v1 : Int32) (_ : ZM) : Int64 := if zin v1 5 = true then zmk v1.toNatClampNeg else 0
def f_X11_put (t0 : Nat) (v1 v2 : Int32) (M : ZM) : ZM := if zin v1 (zn t0) = true then zi M t0 v1.toNatClampNeg v2 else M
def f_X11_put_ (t0 : Nat) (v1 : Int32) (v2 : Int64) (M : ZM) : ZM := if zin v1 (zn t0) = true then zl M t0 v1.toNatClampNeg v2 else M
def f_X11_casesOf (v0 : Int32) (_ : ZM) : Int64 := if zin (v0 - 97) 5 = true then zmk (v0 - 97).toNatClampNeg else 0
theorem q_X11_look (t0 : Nat) (v1 : Int32) (M : ZM) : p_X11_look t0 v1 M = some (f_X11_look t0 v1 M) := by
  have h := zin_iff (i := v1) (zn_small t0)
  unfold p_X11_look f_X11_look zck
  by_cases h1 : v1 < 0
  · rw [if_pos h1, if_neg (fun hh => (h.mp hh).1 h1)]
  · by_cases h2 : Int32.ofNat (zn t0) ≤ v1
    · rw [if_neg h1, if_pos h2, if_neg (fun hh => (h.mp hh).2 h2)]
    · rw [if_neg h1, if_neg h2, if_pos (h.mpr ⟨h1, h2⟩), if_pos (h.mpr ⟨h1, h2⟩)]
theorem q_X11_look_ (t0 : Nat) (v1 : Int32) (M : ZM) : p_X11_look_ t0 v1 M = some (f_X11_look_ t0 v1 M) := by
  have h := zin_iff (i := v1) (zn_small t0)
  unfold p_X11_look_ f_X11_look_ zck
  by_cases h1 : v1 < 0
  · rw [if_pos h1, if_neg (fun hh => (h.mp hh).1 h1)]
  · by_cases h2 : Int32.ofNat (zn t0) ≤ v1
    · rw [if_neg h1, if_pos h2, if_neg (fun hh => (h.mp hh).2 h2)]
    · rw [if_neg h1, if_neg h2, if_pos (h.mpr ⟨h1, h2⟩), if_pos (h.mpr ⟨h1, h2⟩)]
theorem q_X11_put (t0 : Nat) (v1 v2 : Int32) (M : ZM) : p_X11_put t0 v1 v2 M = some (f_X11_put t0 v1 v2 M) := by
  have h := zin_iff (i := v1) (zn_small t0)
  unfold p_X11_put f_X11_put zck zlet
  by_cases h1 : v1 < 0
  · rw [if_pos h1, if_neg (fun hh => (h.mp hh).1 h1)]
  · by_cases h2 : Int32.ofNat (zn t0) ≤ v1
    · rw [if_neg h1, if_pos h2, if_neg (fun hh => (h.mp hh).2 h2)]
    · rw [if_neg h1, if_neg h2, if_pos (h.mpr ⟨h1, h2⟩), if_pos (h.mpr ⟨h1, h2⟩)]
theorem q_X11_put_ (t0 : Nat) (v1 : Int32) (v2 : Int64) (M : ZM) : p_X11_put_ t0 v1 v2 M = some (f_X11_put_ t0 v1 v2 M) := by
  have h := zin_iff (i := v1) (zn_small t0)
  unfold p_X11_put_ f_X11_put_ zck zlet
  by_cases h1 : v1 < 0
  · rw [if_pos h1, if_neg (fun hh => (h.mp hh).1 h1)]
  · by_cases h2 : Int32.ofNat (zn t0) ≤ v1
    · rw [if_neg h1, if_pos h2, if_neg (fun hh => (h.mp hh).2 h2)]
    · rw [if_neg h1, if_neg h2, if_pos (h.mpr ⟨h1, h2⟩), if_pos (h.mpr ⟨h1, h2⟩)]
theorem q_X11_lookK (v1 : Int32) (M : ZM) : (if v1 < 0 then (some 0 : Option Int64) else if 5 ≤ v1 then some 0 else if zin v1 5 = true then some (zmk v1.toNatClampNeg) else none) = some (f_X11_lookK v1 M) := by
  have h := zin_iff (i := v1) (n := 5) (by decide)
  have e : Int32.ofNat 5 = 5 := rfl
  rw [e] at h
  unfold f_X11_lookK
  by_cases h1 : v1 < 0
  · rw [if_pos h1, if_neg (fun hh => (h.mp hh).1 h1)]
  · by_cases h2 : 5 ≤ v1
    · rw [if_neg h1, if_pos h2, if_neg (fun hh => (h.mp hh).2 h2)]
    · rw [if_neg h1, if_neg h2, if_pos (h.mpr ⟨h1, h2⟩), if_pos (h.mpr ⟨h1, h2⟩)]
set_option maxHeartbeats 4000000 in
set_option maxRecDepth 100000 in
theorem c_X11_lookK (l : Launch) {G : ZG} (hG : zOk G) (v1 : Int32) (M : ZM) (res : Int64) (h : f_X11_lookK v1 M = res) : zCt l yX11_look_ cX11_look_ 2 (Option.some FieldType.long) 0 G [.ref G.2.2.2.1, .int v1] M (some (.long res)) M := by
  have h := (q_X11_lookK v1 M).trans (congrArg some h)
  refine zCt.mk (by decide +kernel) (Nat.le_of_ble_eq_true rfl) ?_
  intro p e s m args below meth c A H locs ls S hr hlk hw hl
  have S : zX p (zR 0) s m args c 0 0 cX11_look_ 2 RX11 := S
  have hx := S.1.1
  have hb := S.1.2.1
  have hown := S.1.2.2.2.1
  have hts := S.1.2.2.2.2
  have hl : lv_has ls 2 [(0, .ref G.2.2.2.1), (1, .int v1)] := hl
  refine lv_iload_n hx hb dX11_look__0 rfl (lv_at hl 1 rfl) ?_
  refine lv_if_lt (tgt := 16) hx hb dX11_look__1 (by decide) (fun c1 => ?_) (fun c1 => ?_)
  · have h := zif_t h c1
    refine lv_lconst (v := 0) hx hb dX11_look__16 (by decide) ?_
    have h := Option.some.inj h
    subst h
    exact z_ret_l S hr hlk hw dX11_look__17
  · have h := zif_f h c1
    refine lv_iload_n hx hb dX11_look__4 rfl (lv_at hl 1 rfl) ?_
    refine lv_aload_n hx hb dX11_look__5 rfl (lv_at hl 0 rfl) ?_
    refine z_markslen S hw dX11_look__6 ?_
    refine lv_icmp_ge (tgt := 16) hx hb dX11_look__7 (by decide) (fun c2 => ?_) (fun c2 => ?_)
    · have h := zif_t h c2
      refine lv_lconst (v := 0) hx hb dX11_look__16 (by decide) ?_
      have h := Option.some.inj h
      subst h
      exact z_ret_l S hr hlk hw dX11_look__17
    · have h := zif_f h c2
      refine lv_aload_n hx hb dX11_look__10 rfl (lv_at hl 0 rfl) ?_
      refine lv_iload_n hx hb dX11_look__11 rfl (lv_at hl 1 rfl) ?_
      by_cases g3 : zin v1 5 = true
      · have h := zif_t h g3
        refine z_marksld S hw g3 dX11_look__12 ?_
        refine lv_goto (tgt := 17) hx hb dX11_look__13 (by decide) ?_
        have h := Option.some.inj h
        subst h
        exact z_ret_l S hr hlk hw dX11_look__17
      · rw [if_neg g3] at h
        cases h
section Z
variable {p : Program} {l : Launch} {e : Env} {s : State} {m : MethodId} {args : Array Value} {below : List Frame} {meth : Method} {c : Code} {A : Nat → Prop}
def p_X11_casesOf (v0 : Int32) (M : ZM) : Int64 :=
  zlet (f_X11_lookK (v0 - 97) M) fun (q1 : Int64) =>
  q1
set_option maxHeartbeats 4000000 in
set_option maxRecDepth 100000 in
theorem cp_X11_casesOf (l : Launch) {G : ZG} (hG : zOk G) (v0 : Int32) (M : ZM) (res : Int64) (h : p_X11_casesOf v0 M = res) : zCt l yX11_casesOf cX11_casesOf 1 (Option.some FieldType.long) 1 G [.int v0] M (some (.long res)) M := by
  refine zCt.mk (by decide +kernel) (Nat.le_of_ble_eq_true rfl) ?_
  intro p e s m args below meth c A H locs ls S hr hlk hw hl
  have S : zX p (zR 1) s m args c 0 0 cX11_casesOf 1 RX11 := S
  have hx := S.1.1
  have hb := S.1.2.1
  have hown := S.1.2.2.2.1
  have hts := S.1.2.2.2.2
  have hl : lv_has ls 1 [(0, .int v0)] := hl
  unfold p_X11_casesOf at h
  refine z_marks S hw st_X11_297 dX11_casesOf_0 ?_
  refine lv_iload_n hx hb dX11_casesOf_3 rfl (lv_at hl 0 rfl) ?_
  refine lv_bipush (v := 97) hx hb dX11_casesOf_4 (by decide) ?_
  refine lv_isub hx hb dX11_casesOf_6 ?_
  obtain ⟨q1, eq1, h⟩ := zlet_ex h
  refine z_callS (As := [.ref G.2.2.2.1, .int (v0 - 97)]) (rest := []) (rv := (some (.long q1))) (M1 := M) S hw (c_X11_lookK l hG (v0 - 97) M q1 eq1.symm) mv_X11_look_ lk_X11_301 rfl rfl (Nat.le_of_ble_eq_true rfl) ⟨Nat.le_of_ble_eq_true rfl, Nat.le_of_ble_eq_true rfl⟩ hl.1 dX11_casesOf_7 (fun H locs hw => ?_)
  subst h
  exact z_ret_l S hr hlk hw dX11_casesOf_10
end Z
theorem q_X11_casesOf (v0 : Int32) (M : ZM) : p_X11_casesOf v0 M = f_X11_casesOf v0 M := rfl
theorem c_X11_look (l : Launch) {G : ZG} (hG : zOk G) (t0 : Nat) (v1 : Int32) (k0 : zk G t0 = 0) (M : ZM) (res : Int32) (h : f_X11_look t0 v1 M = res) : zCt l yX11_look cX11_look 2 (Option.some FieldType.int) 0 G [.ref (za G t0), .int v1] M (some (.int res)) M := cp_X11_look l hG t0 v1 k0 M res (by rw [q_X11_look, h])
theorem c_X11_look_ (l : Launch) {G : ZG} (hG : zOk G) (t0 : Nat) (v1 : Int32) (k0 : zk G t0 = 1) (M : ZM) (res : Int64) (h : f_X11_look_ t0 v1 M = res) : zCt l yX11_look_ cX11_look_ 2 (Option.some FieldType.long) 0 G [.ref (za G t0), .int v1] M (some (.long res)) M := cp_X11_look_ l hG t0 v1 k0 M res (by rw [q_X11_look_, h])
theorem c_X11_put (l : Launch) {G : ZG} (hG : zOk G) (t0 : Nat) (v1 : Int32) (v2 : Int32) (k0 : zk G t0 = 0) (M : ZM) (res : ZM) (h : f_X11_put t0 v1 v2 M = res) : zCt l yX11_put cX11_put 3 none 0 G [.ref (za G t0), .int v1, .int v2] M none res := cp_X11_put l hG t0 v1 v2 k0 M res (by rw [q_X11_put, h])
theorem c_X11_put_ (l : Launch) {G : ZG} (hG : zOk G) (t0 : Nat) (v1 : Int32) (v2 : Int64) (k0 : zk G t0 = 1) (M : ZM) (res : ZM) (h : f_X11_put_ t0 v1 v2 M = res) : zCt l yX11_put_ cX11_put_ 4 none 0 G [.ref (za G t0), .int v1, .long v2] M none res := cp_X11_put_ l hG t0 v1 v2 k0 M res (by rw [q_X11_put_, h])
theorem c_X11_casesOf (l : Launch) {G : ZG} (hG : zOk G) (v0 : Int32) (M : ZM) (res : Int64) (h : f_X11_casesOf v0 M = res) : zCt l yX11_casesOf cX11_casesOf 1 (Option.some FieldType.long) 1 G [.int v0] M (some (.long res)) M := cp_X11_casesOf l hG v0 M res (by rw [q_X11_casesOf, h])
