section Z
variable {p : Program} {l : Launch} {e : Env} {s : State} {m : MethodId} {args : Array Value} {below : List Frame} {meth : Method} {c : Code} {A : Nat → Prop} {cells slots b : Nat} {Q : State → Prop}
def f_L_law_267 (L : Nat) (xs : Nat → Int32) (t1 : Nat) (v4 : Int32) (v6 : Int64) (v8 : Int64) (v10 : Int32) (v11 : Int32) (v12 : Int32) (K : Int32 → Int32 → Int32 → ZM → Option Int32) : Nat → Int32 → Int32 → Int32 → Int32 → ZM → Option Int32
  | 0, _, _, _, _, _ => none
  | n + 1, v13, v14, v15, v16, M =>
    zlet (fun (v13 : Int32) (v15 : Int32) (v16 : Int32) (v17 : Int32) (s0 : Int32) (M : ZM) =>
      if v17 = 40 then (
        zlet (v13 + 1) fun (x20 : Int32) =>
        zlet (v16 + 1) fun (x21 : Int32) =>
        f_L_law_267 L xs t1 v4 v6 v8 v10 v11 v12 K n x20 s0 v15 x21 M) else (
        if v17 = 41 then (
          zlet (v13 + (-1)) fun (x18 : Int32) =>
          zlet (v16 + 1) fun (x19 : Int32) =>
          f_L_law_267 L xs t1 v4 v6 v8 v10 v11 v12 K n x18 s0 v15 x19 M) else (
          zlet (v13 + 0) fun (x16 : Int32) =>
          zlet (v16 + 1) fun (x17 : Int32) =>
          f_L_law_267 L xs t1 v4 v6 v8 v10 v11 v12 K n x16 s0 v15 x17 M))) fun J402 =>
    zlet (fun (v13 : Int32) (v15 : Int32) (v16 : Int32) (v17 : Int32) (M : ZM) =>
      J402 v13 v15 v16 v17 1 M) fun J397 =>
    zlet (fun (v13 : Int32) (v16 : Int32) (v17 : Int32) (v18 : Int32) (s0 : Int32) (s1 : Int32) (M : ZM) =>
      zlet (s0 &&& s1) fun (x22 : Int32) =>
      if v18 = 0 then (
        if v17 = 41 then (
          J397 v13 x22 v16 v17 M) else (
          J402 v13 x22 v16 v17 0 M)) else (
        J397 v13 x22 v16 v17 M)) fun J382 =>
    zlet (fun (v13 : Int32) (v16 : Int32) (v17 : Int32) (v18 : Int32) (s0 : Int32) (M : ZM) =>
      J382 v13 v16 v17 v18 s0 1 M) fun J377 =>
    zlet (fun (v13 : Int32) (v16 : Int32) (v17 : Int32) (v18 : Int32) (s0 : Int32) (M : ZM) =>
      J382 v13 v16 v17 v18 s0 1 M) fun J350 =>
    zlet (fun (v13 : Int32) (v16 : Int32) (v17 : Int32) (v18 : Int32) (s0 : Int32) (M : ZM) =>
      if v17 = 38 then (
        J350 v13 v16 v17 v18 s0 M) else (
        if v17 = 124 then (
          J350 v13 v16 v17 v18 s0 M) else (
          if v17 = 62 then (
            J350 v13 v16 v17 v18 s0 M) else (
            if v17 = 45 then (
              J350 v13 v16 v17 v18 s0 M) else (
              J382 v13 v16 v17 v18 s0 0 M))))) fun J322 =>
    zlet (fun (v13 : Int32) (v14 : Int32) (v15 : Int32) (v16 : Int32) (v17 : Int32) (s0 : Int32) (M : ZM) =>
      if v14 = 0 then (
        if s0 = 0 then (
          if v17 = 33 then (
            J377 v13 v16 v17 s0 v15 M) else (
            if v17 = 40 then (
              J377 v13 v16 v17 s0 v15 M) else (
              J382 v13 v16 v17 s0 v15 0 M))) else (
          J377 v13 v16 v17 s0 v15 M)) else (
        if v17 = 41 then (
          if 0 < v13 then (
            J350 v13 v16 v17 s0 v15 M) else (
            J322 v13 v16 v17 s0 v15 M)) else (
          J322 v13 v16 v17 s0 v15 M))) fun J301 =>
    zlet (fun (v13 : Int32) (v14 : Int32) (v15 : Int32) (v16 : Int32) (v17 : Int32) (M : ZM) =>
      J301 v13 v14 v15 v16 v17 0 M) fun J300 =>
    if v12 < v16 then (
      K v13 v14 v15 M) else (
      zlet (f_X11_wordAt t1 v16 M) fun (q36 : Int32) =>
      if q36 < 97 then (
        J300 v13 v14 v15 v16 q36 M) else (
        if 101 < q36 then (
          J300 v13 v14 v15 v16 q36 M) else (
          J301 v13 v14 v15 v16 q36 1 M)))

def f_L_law_832 (L : Nat) (xs : Nat → Int32) (t1 : Nat) (v4 : Int32) (v9 : Int32) (v10 : Int32) (K : ZM → Option Int32) : Nat → Int32 → ZM → Option Int32
  | 0, _, _ => none
  | n + 1, v13, M =>
    if v9 ≤ v13 then (
      K M) else (
      (f_X11_leftOver t1 v13 M).bind fun (q129 : (Int32 × ZM)) =>
      if q129.1 < 0 then (
        some 0) else (
        if v13 ≤ 0 then (
          zlet (v13 + 1) fun (x132 : Int32) =>
          f_L_law_832 L xs t1 v4 v9 v10 K n x132 q129.2) else (
          (f_X11_leftOver t1 v13 q129.2).bind fun (q133 : (Int32 × ZM)) =>
          (f_X11_leftOver t1 (v13 - 1) q133.2).bind fun (q134 : (Int32 × ZM)) =>
          if q134.1 < q133.1 then (
            zlet (v13 + 1) fun (x136 : Int32) =>
            f_L_law_832 L xs t1 v4 v9 v10 K n x136 q134.2) else (
            some 0))))

def f_L_law_31 (L : Nat) (xs : Nat → Int32) (t1 : Nat) (K : ZM → Option Int32) : Nat → Int32 → ZM → Option Int32
  | 0, _, _ => none
  | n + 1, v4, M =>
    zlet (fun (v4 : Int32) (M : ZM) =>
      zlet (f_X11_readings t1 M) fun (q1 : Int64) =>
      if 0 ≤ (lg_cmp q1 1) then (
        zlet (v4 + 1) fun (x3 : Int32) =>
        f_L_law_31 L xs t1 K n x3 M) else (
        some 0)) fun J497 =>
    zlet (fun (v4 : Int32) (v6 : Int64) (v8 : Int64) (v10 : Int32) (v11 : Int32) (v12 : Int32) (s0 : Int32) (s1 : Int32) (M : ZM) =>
      zlet (s0 &&& s1) fun (x4 : Int32) =>
      (f_X11_bracket t1 v11 v12 M).bind fun (q5 : (Int32 × ZM)) =>
      if q5.1 ≤ 0 then (
        (f_L_sight t1 q5.2).bind fun (q7 : Int64) =>
        if (lg_cmp q7 v6) = 0 then (
          zlet (v4 + 1) fun (x9 : Int32) =>
          f_L_law_31 L xs t1 K n x9 q5.2) else (
          some 0)) else (
        if q5.1 = (v10 + 2) then (
          if x4 = 0 then (
            J497 v4 q5.2) else (
            zlet (f_X11_readings t1 q5.2) fun (q12 : Int64) =>
            if 0 < (lg_cmp q12 v8) then (
              some 0) else (
              J497 v4 q5.2))) else (
          some 0))) fun J455 =>
    zlet (fun (v4 : Int32) (v6 : Int64) (v8 : Int64) (v10 : Int32) (v11 : Int32) (v12 : Int32) (s0 : Int32) (M : ZM) =>
      J455 v4 v6 v8 v10 v11 v12 s0 0 M) fun J454 =>
    zlet (fun (v4 : Int32) (v6 : Int64) (v8 : Int64) (v10 : Int32) (v11 : Int32) (v12 : Int32) (v13 : Int32) (v14 : Int32) (s0 : Int32) (M : ZM) =>
      f_L_law_267 L xs t1 v4 v6 v8 v10 v11 v12 (fun (v13 : Int32) (v14 : Int32) (v15 : Int32) (M : ZM) =>
        if v14 = 0 then (
          J454 v4 v6 v8 v10 v11 v12 v15 M) else (
          if v13 = 0 then (
            J455 v4 v6 v8 v10 v11 v12 v15 1 M) else (
            J454 v4 v6 v8 v10 v11 v12 v15 M))) zN v13 v14 s0 v11 M) fun J261 =>
    if (Int32.ofNat L) ≤ v4 then (
      K M) else (
      if 24 ≤ v4 then (
        K M) else (
        (f_L_cell L xs v4 M).bind fun (q43 : Int32) =>
        (f_L_sight t1 M).bind fun (q44 : Int64) =>
        zlet (q43 &&& 7) fun (x45 : Int32) =>
        if x45 = 0 then (
          (f_X11_count t1 1 M).bind fun (q47 : Int32) =>
          zck (znzI (6 : Int32)) <|
          (f_X11_choose t1 (((q43 >>> ((3 : Int32) &&& 31)) &&& 7) - ((q43 >>> ((3 : Int32) &&& 31)) &&& 7) / 6 * 6) M).bind fun (q49 : (Int32 × ZM)) =>
          if q49.1 = (q47 + 1) then (
            zlet (v4 + 1) fun (x51 : Int32) =>
            f_L_law_31 L xs t1 K n x51 q49.2) else (
            if q49.1 = (-3) then (
              (f_L_sight t1 q49.2).bind fun (q53 : Int64) =>
              if (lg_cmp q53 q44) = 0 then (
                zlet (v4 + 1) fun (x55 : Int32) =>
                f_L_law_31 L xs t1 K n x55 q49.2) else (
                some 0)) else (
              some 0))) else (
        if x45 = 1 then (
          (f_X11_count t1 2 M).bind fun (q57 : Int32) =>
          zlet (f_X11_aim t1 ((q43 >>> ((3 : Int32) &&& 31)) &&& 31) (((q43 >>> ((8 : Int32) &&& 31)) &&& 63) - 30) M) fun (q58 : (Int32 × ZM)) =>
          if 8 ≤ q57 then (
            if q58.1 = (-6) then (
              zlet (v4 + 1) fun (x61 : Int32) =>
              f_L_law_31 L xs t1 K n x61 q58.2) else (
              some 0)) else (
            if q58.1 = (q57 + 1) then (
              zlet (v4 + 1) fun (x63 : Int32) =>
              f_L_law_31 L xs t1 K n x63 q58.2) else (
              some 0))) else (
        if x45 = 2 then (
          zlet (f_X11_readings t1 M) fun (q65 : Int64) =>
          (f_X11_count t1 0 M).bind fun (q66 : Int32) =>
          zck (znzI q66) <|
          zlet (((q43 >>> ((3 : Int32) &&& 31)) &&& 31) - ((q43 >>> ((3 : Int32) &&& 31)) &&& 31) / q66 * q66) fun (x68 : Int32) =>
          zck (znzI q66) <|
          zlet (((q43 >>> ((8 : Int32) &&& 31)) &&& 31) - ((q43 >>> ((8 : Int32) &&& 31)) &&& 31) / q66 * q66) fun (x70 : Int32) =>
          if x70 < x68 then (
            J261 v4 q44 q65 q66 x68 x70 0 0 0 M) else (
            J261 v4 q44 q65 q66 x68 x70 0 0 1 M)) else (
        if x45 = 3 then (
          (f_X11_image t1 M).bind fun (q73 : (Int32 × ZM)) =>
          (f_L_say t1 98 q73.2).bind fun (q74 : (Int32 × ZM)) =>
          (f_X11_read t1 q74.2).bind fun (q75 : (Int32 × ZM)) =>
          (f_X11_choose t1 0 q75.2).bind fun (q76 : (Int32 × ZM)) =>
          (f_X11_choose t1 5 q76.2).bind fun (q77 : (Int32 × ZM)) =>
          zlet (f_X11_aim t1 1 1 q77.2) fun (q78 : (Int32 × ZM)) =>
          zlet (((q75.1 + q76.1) + q77.1) + q78.1) fun (x79 : Int32) =>
          (f_X11_on t1 q78.2).bind fun (q80 : (Int32 × ZM)) =>
          if q80.1 = q73.1 then (
            (f_L_sight t1 q80.2).bind fun (q82 : Int64) =>
            if (lg_cmp q82 q44) = 0 then (
              zlet (v4 + 1) fun (x84 : Int32) =>
              f_L_law_31 L xs t1 K n x84 q80.2) else (
              some 0)) else (
            some 0)) else (
        if x45 = 4 then (
          (f_X11_choose t1 6 M).bind fun (q86 : (Int32 × ZM)) =>
          zlet (f_X11_aim t1 32 0 q86.2) fun (q87 : (Int32 × ZM)) =>
          (f_X11_bracket t1 (-1) 0 q87.2).bind fun (q88 : (Int32 × ZM)) =>
          (f_X11_bracket t1 1 0 q88.2).bind fun (q89 : (Int32 × ZM)) =>
          (f_X11_feed t1 0 0 q89.2).bind fun (q90 : (Int32 × ZM)) =>
          zlet ((((q86.1 + q87.1) + q88.1) + q89.1) + q90.1) fun (x91 : Int32) =>
          (f_X11_test t1 q90.2).bind fun (q92 : (Int32 × ZM)) =>
          (f_X11_best t1 q92.2).bind fun (q93 : (Int32 × ZM)) =>
          (f_X11_hangs t1 q93.2).bind fun (q94 : (Int32 × ZM)) =>
          (f_X11_fewest t1 q94.2).bind fun (q95 : (Int32 × ZM)) =>
          (f_X11_needless t1 q95.2).bind fun (q96 : (Int32 × ZM)) =>
          zlet ((((q92.1 + q93.1) + q94.1) + q95.1) + q96.1) fun (x97 : Int32) =>
          if x91 = (-8) then (
            (f_L_sight t1 q96.2).bind fun (q99 : Int64) =>
            if (lg_cmp q99 q44) = 0 then (
              zlet (v4 + 1) fun (x101 : Int32) =>
              f_L_law_31 L xs t1 K n x101 q96.2) else (
              some 0)) else (
            some 0)) else (
        if x45 = 5 then (
          if ((q43 >>> ((3 : Int32) &&& 31)) &&& 1) = 1 then (
            zlet (f_X11_unchoose t1 M) fun (q105 : (Int32 × ZM)) =>
            zlet (v4 + 1) fun (x106 : Int32) =>
            f_L_law_31 L xs t1 K n x106 q105.2) else (
            zlet (v4 + 1) fun (x104 : Int32) =>
            f_L_law_31 L xs t1 K n x104 M)) else (
          zlet (f_X11_readings t1 M) fun (q107 : Int64) =>
          if (lg_cmp q107 200) ≤ 0 then (
            zlet (f_X11_readings t1 M) fun (q109 : Int64) =>
            zlet (q109.toInt32) fun (x110 : Int32) =>
            (f_X11_leftOver t1 (-1) M).bind fun (q111 : (Int32 × ZM)) =>
            zck (znzI x110) <|
            zlet (((q43 >>> ((3 : Int32) &&& 31)) &&& 255) - ((q43 >>> ((3 : Int32) &&& 31)) &&& 255) / x110 * x110) fun (x113 : Int32) =>
            (f_X11_means t1 x113 q111.2).bind fun (q114 : (Int64 × ZM)) =>
            if q111.1 < 1 then (
              some 0) else (
              if x110 < q111.1 then (
                some 0) else (
                (f_X11_unlike t1 q114.2).bind fun (q117 : (Int32 × ZM)) =>
                if q117.1 < 1 then (
                  some 0) else (
                  (f_X11_unlike t1 q117.2).bind fun (q119 : (Int32 × ZM)) =>
                  if x110 < q119.1 then (
                    some 0) else (
                    (f_X11_all t1 1 q119.2).bind fun (q121 : (Int64 × ZM)) =>
                    if (lg_cmp (q121.1 &&& (q114.1 ^^^ (-1))) 0) = 0 then (
                      (f_X11_all t1 0 q121.2).bind fun (q123 : (Int64 × ZM)) =>
                      if (lg_cmp (q123.1 &&& q114.1) 0) = 0 then (
                        (f_X11_passedOver t1 q123.2).bind fun (q125 : (Int32 × ZM)) =>
                        (f_X11_count t1 1 q125.2).bind fun (q126 : Int32) =>
                        if q125.1 ≤ q126 then (
                          f_L_law_832 L xs t1 v4 q111.1 x113 (fun (M : ZM) =>
                            (f_X11_best t1 M).bind fun (q137 : (Int32 × ZM)) =>
                            (f_X11_serves t1 q137.1 q137.2).bind fun (q138 : (Int32 × ZM)) =>
                            (f_X11_serves t1 x113 q138.2).bind fun (q139 : (Int32 × ZM)) =>
                            if q138.1 < q139.1 then (
                              some 0) else (
                              (f_X11_same t1 x113 x113 q139.2).bind fun (q141 : (Int32 × ZM)) =>
                              if q141.1 = 1 then (
                                (f_X11_part t1 x113 x113 q141.2).bind fun (q143 : (Int32 × ZM)) =>
                                if q143.1 = (-9) then (
                                  (f_X11_needless t1 q143.2).bind fun (q145 : (Int32 × ZM)) =>
                                  (f_X11_idle t1 x113 q145.2).bind fun (q146 : (Int32 × ZM)) =>
                                  if (q145.1 &&& (q146.1 ^^^ (-1))) = 0 then (
                                    zlet (v4 + 1) fun (x148 : Int32) =>
                                    f_L_law_31 L xs t1 K n x148 q146.2) else (
                                    some 0)) else (
                                  some 0)) else (
                                some 0))) zN 0 q125.2) else (
                          some 0)) else (
                        some 0)) else (
                      some 0)))))) else (
            (f_X11_unlike t1 M).bind fun (q149 : (Int32 × ZM)) =>
            if q149.1 = (-5) then (
              (f_X11_means t1 0 q149.2).bind fun (q151 : (Int64 × ZM)) =>
              if (lg_cmp q151.1 (-5)) = 0 then (
                zlet (v4 + 1) fun (x153 : Int32) =>
                f_L_law_31 L xs t1 K n x153 q151.2) else (
                some 0)) else (
              some 0))))))))))

set_option maxHeartbeats 4000000 in
set_option maxRecDepth 100000 in
theorem w_L_law_267 {G : ZG} (hG : zOk G) (S : zX p room_1 s m args c cells slots cL_law 19 RL) (L : Nat) (xs : Nat → Int32) (t1 : Nat) (v4 : Int32) (v6 : Int64) (v8 : Int64) (v10 : Int32) (v11 : Int32) (v12 : Int32) (k0 : zSc G L xs) (k1 : zk G t1 = 21)  {K : Int32 → Int32 → Int32 → ZM → Option Int32}  (hK : ∀ (v13 : Int32) (v14 : Int32) (v15 : Int32) (M : ZM), K v13 v14 v15 M = some 1 → ∀ (H : Heap) (locs : List Loc) (ls : Array Slot), zWd G A s H locs M → lv_has ls 19 [(0, .ref G.2.2.2.2.2.2.1), (1, .ref (za G t1)), (4, .int v4), (6, .long v6), (8, .long v8), (10, .int v10), (11, .int v11), (12, .int v12), (13, .int v13), (14, .int v14), (15, .int v15)] → W p l e room_1 s m args below meth c H locs cells slots Q (F0 m 438 ls [])) : ∀ (n : Nat) (v13 : Int32) (v14 : Int32) (v15 : Int32) (v16 : Int32) (M : ZM), f_L_law_267 L xs t1 v4 v6 v8 v10 v11 v12 K n v13 v14 v15 v16 M = some 1 → ∀ (H : Heap) (locs : List Loc) (ls : Array Slot), zWd G A s H locs M → lv_has ls 19 [(0, .ref G.2.2.2.2.2.2.1), (1, .ref (za G t1)), (4, .int v4), (6, .long v6), (8, .long v8), (10, .int v10), (11, .int v11), (12, .int v12), (13, .int v13), (14, .int v14), (15, .int v15), (16, .int v16)] → W p l e room_1 s m args below meth c H locs cells slots Q (F0 m 267 ls []) := by
  have hx := S.1.1
  have hb := S.1.2.1
  have hown := S.1.2.2.2.1
  have hts := S.1.2.2.2.2
  intro n
  induction n with
  | zero =>
    intro v13 v14 v15 v16 M h
    rw [f_L_law_267] at h
    cases h
  | succ n ih =>
    intro v13 v14 v15 v16 M h H locs ls hw hl
    rw [f_L_law_267] at h
    obtain ⟨J402, hJ402, h⟩ := zlet_ex h
    have wJ402 : ∀ (v13 : Int32) (v15 : Int32) (v16 : Int32) (v17 : Int32) (s0 : Int32) (M : ZM), J402 v13 v15 v16 v17 s0 M = some 1 → ∀ (H : Heap) (locs : List Loc) (ls : Array Slot), zWd G A s H locs M → lv_has ls 19 [(0, .ref G.2.2.2.2.2.2.1), (1, .ref (za G t1)), (4, .int v4), (6, .long v6), (8, .long v8), (10, .int v10), (11, .int v11), (12, .int v12), (13, .int v13), (15, .int v15), (16, .int v16), (17, .int v17)] → W p l e room_1 s m args below meth c H locs cells slots Q (F0 m 402 ls [.int s0]) := by
      intro v13 v15 v16 v17 s0 M h H locs ls hw hl
      subst hJ402
      refine lv_istore (lv' := [(14, .int s0), (0, .ref G.2.2.2.2.2.2.1), (1, .ref (za G t1)), (4, .int v4), (6, .long v6), (8, .long v8), (10, .int v10), (11, .int v11), (12, .int v12), (13, .int v13), (15, .int v15), (16, .int v16), (17, .int v17)]) hx hb dL_law_402 hl (by decide) rfl (fun ls hl => ?_)
      refine lv_iload hx hb dL_law_404 (lv_at hl 9 rfl) ?_
      refine lv_iload hx hb dL_law_406 (lv_at hl 12 rfl) ?_
      refine lv_bipush (v := 40) hx hb dL_law_408 (by decide) ?_
      refine lv_icmp_ne (tgt := 417) hx hb dL_law_410 (by decide) (fun c14 => ?_) (fun c14 => ?_)
      · have h := zif_f h c14
        refine lv_iload hx hb dL_law_417 (lv_at hl 12 rfl) ?_
        refine lv_bipush (v := 41) hx hb dL_law_419 (by decide) ?_
        refine lv_icmp_ne (tgt := 428) hx hb dL_law_421 (by decide) (fun c15 => ?_) (fun c15 => ?_)
        · have h := zif_f h c15
          refine lv_iconst (v := 0) hx hb dL_law_428 (by decide) ?_
          refine lv_iadd hx hb dL_law_429 ?_
          obtain ⟨x16, ex16, h⟩ := zlet_ex h
          refine lv_topiE ex16 ?_
          refine lv_istore (lv' := [(13, .int x16), (14, .int s0), (0, .ref G.2.2.2.2.2.2.1), (1, .ref (za G t1)), (4, .int v4), (6, .long v6), (8, .long v8), (10, .int v10), (11, .int v11), (12, .int v12), (15, .int v15), (16, .int v16), (17, .int v17)]) hx hb dL_law_430 hl (by decide) rfl (fun ls hl => ?_)
          obtain ⟨x17, ex17, h⟩ := zlet_ex h
          refine lv_iinc (v := x17) (lv' := [(16, .int x17), (13, .int x16), (14, .int s0), (0, .ref G.2.2.2.2.2.2.1), (1, .ref (za G t1)), (4, .int v4), (6, .long v6), (8, .long v8), (10, .int v10), (11, .int v11), (12, .int v12), (15, .int v15), (17, .int v17)]) hx hb dL_law_432 hl (k := 11) rfl (by rw [ex17]; rfl) (by decide) rfl (fun ls hl => ?_)
          refine lv_goto (tgt := 267) hx hb dL_law_435 (by decide) ?_
          exact ih x16 s0 v15 x17 M h H locs ls hw (lv_sub hl [3, 4, 5, 6, 7, 8, 9, 10, 1, 2, 11, 0] rfl)
        · have h := zif_t h c15
          refine lv_iconst (v := (-1)) hx hb dL_law_424 (by decide) ?_
          refine lv_goto (tgt := 429) hx hb dL_law_425 (by decide) ?_
          refine lv_iadd hx hb dL_law_429 ?_
          obtain ⟨x18, ex18, h⟩ := zlet_ex h
          refine lv_topiE ex18 ?_
          refine lv_istore (lv' := [(13, .int x18), (14, .int s0), (0, .ref G.2.2.2.2.2.2.1), (1, .ref (za G t1)), (4, .int v4), (6, .long v6), (8, .long v8), (10, .int v10), (11, .int v11), (12, .int v12), (15, .int v15), (16, .int v16), (17, .int v17)]) hx hb dL_law_430 hl (by decide) rfl (fun ls hl => ?_)
          obtain ⟨x19, ex19, h⟩ := zlet_ex h
          refine lv_iinc (v := x19) (lv' := [(16, .int x19), (13, .int x18), (14, .int s0), (0, .ref G.2.2.2.2.2.2.1), (1, .ref (za G t1)), (4, .int v4), (6, .long v6), (8, .long v8), (10, .int v10), (11, .int v11), (12, .int v12), (15, .int v15), (17, .int v17)]) hx hb dL_law_432 hl (k := 11) rfl (by rw [ex19]; rfl) (by decide) rfl (fun ls hl => ?_)
          refine lv_goto (tgt := 267) hx hb dL_law_435 (by decide) ?_
          exact ih x18 s0 v15 x19 M h H locs ls hw (lv_sub hl [3, 4, 5, 6, 7, 8, 9, 10, 1, 2, 11, 0] rfl)
      · have h := zif_t h c14
        refine lv_iconst (v := 1) hx hb dL_law_413 (by decide) ?_
        refine lv_goto (tgt := 429) hx hb dL_law_414 (by decide) ?_
        refine lv_iadd hx hb dL_law_429 ?_
        obtain ⟨x20, ex20, h⟩ := zlet_ex h
        refine lv_topiE ex20 ?_
        refine lv_istore (lv' := [(13, .int x20), (14, .int s0), (0, .ref G.2.2.2.2.2.2.1), (1, .ref (za G t1)), (4, .int v4), (6, .long v6), (8, .long v8), (10, .int v10), (11, .int v11), (12, .int v12), (15, .int v15), (16, .int v16), (17, .int v17)]) hx hb dL_law_430 hl (by decide) rfl (fun ls hl => ?_)
        obtain ⟨x21, ex21, h⟩ := zlet_ex h
        refine lv_iinc (v := x21) (lv' := [(16, .int x21), (13, .int x20), (14, .int s0), (0, .ref G.2.2.2.2.2.2.1), (1, .ref (za G t1)), (4, .int v4), (6, .long v6), (8, .long v8), (10, .int v10), (11, .int v11), (12, .int v12), (15, .int v15), (17, .int v17)]) hx hb dL_law_432 hl (k := 11) rfl (by rw [ex21]; rfl) (by decide) rfl (fun ls hl => ?_)
        refine lv_goto (tgt := 267) hx hb dL_law_435 (by decide) ?_
        exact ih x20 s0 v15 x21 M h H locs ls hw (lv_sub hl [3, 4, 5, 6, 7, 8, 9, 10, 1, 2, 11, 0] rfl)
    obtain ⟨J397, hJ397, h⟩ := zlet_ex h
    have wJ397 : ∀ (v13 : Int32) (v15 : Int32) (v16 : Int32) (v17 : Int32) (M : ZM), J397 v13 v15 v16 v17 M = some 1 → ∀ (H : Heap) (locs : List Loc) (ls : Array Slot), zWd G A s H locs M → lv_has ls 19 [(0, .ref G.2.2.2.2.2.2.1), (1, .ref (za G t1)), (4, .int v4), (6, .long v6), (8, .long v8), (10, .int v10), (11, .int v11), (12, .int v12), (13, .int v13), (15, .int v15), (16, .int v16), (17, .int v17)] → W p l e room_1 s m args below meth c H locs cells slots Q (F0 m 397 ls []) := by
      intro v13 v15 v16 v17 M h H locs ls hw hl
      subst hJ397
      refine lv_iconst (v := 1) hx hb dL_law_397 (by decide) ?_
      refine lv_goto (tgt := 402) hx hb dL_law_398 (by decide) ?_
      exact wJ402 v13 v15 v16 v17 1 M h H locs ls hw (lv_sub hl [0, 1, 2, 3, 4, 5, 6, 7, 8, 9, 10, 11] rfl)
    obtain ⟨J382, hJ382, h⟩ := zlet_ex h
    have wJ382 : ∀ (v13 : Int32) (v16 : Int32) (v17 : Int32) (v18 : Int32) (s0 : Int32) (s1 : Int32) (M : ZM), J382 v13 v16 v17 v18 s0 s1 M = some 1 → ∀ (H : Heap) (locs : List Loc) (ls : Array Slot), zWd G A s H locs M → lv_has ls 19 [(0, .ref G.2.2.2.2.2.2.1), (1, .ref (za G t1)), (4, .int v4), (6, .long v6), (8, .long v8), (10, .int v10), (11, .int v11), (12, .int v12), (13, .int v13), (16, .int v16), (17, .int v17), (18, .int v18)] → W p l e room_1 s m args below meth c H locs cells slots Q (F0 m 382 ls [.int s1, .int s0]) := by
      intro v13 v16 v17 v18 s0 s1 M h H locs ls hw hl
      subst hJ382
      refine lv_iand hx hb dL_law_382 ?_
      obtain ⟨x22, ex22, h⟩ := zlet_ex h
      refine lv_topiE ex22 ?_
      refine lv_istore (lv' := [(15, .int x22), (0, .ref G.2.2.2.2.2.2.1), (1, .ref (za G t1)), (4, .int v4), (6, .long v6), (8, .long v8), (10, .int v10), (11, .int v11), (12, .int v12), (13, .int v13), (16, .int v16), (17, .int v17), (18, .int v18)]) hx hb dL_law_383 hl (by decide) rfl (fun ls hl => ?_)
      refine lv_iload hx hb dL_law_385 (lv_at hl 12 rfl) ?_
      refine lv_if_ne (tgt := 397) hx hb dL_law_387 (by decide) (fun c23 => ?_) (fun c23 => ?_)
      · have h := zif_f h c23
        exact wJ397 v13 x22 v16 v17 M h H locs ls hw (lv_sub hl [1, 2, 3, 4, 5, 6, 7, 8, 9, 0, 10, 11] rfl)
      · have h := zif_t h c23
        refine lv_iload hx hb dL_law_390 (lv_at hl 11 rfl) ?_
        refine lv_bipush (v := 41) hx hb dL_law_392 (by decide) ?_
        refine lv_icmp_ne (tgt := 401) hx hb dL_law_394 (by decide) (fun c24 => ?_) (fun c24 => ?_)
        · have h := zif_f h c24
          refine lv_iconst (v := 0) hx hb dL_law_401 (by decide) ?_
          exact wJ402 v13 x22 v16 v17 0 M h H locs ls hw (lv_sub hl [1, 2, 3, 4, 5, 6, 7, 8, 9, 0, 10, 11] rfl)
        · have h := zif_t h c24
          exact wJ397 v13 x22 v16 v17 M h H locs ls hw (lv_sub hl [1, 2, 3, 4, 5, 6, 7, 8, 9, 0, 10, 11] rfl)
    obtain ⟨J377, hJ377, h⟩ := zlet_ex h
    have wJ377 : ∀ (v13 : Int32) (v16 : Int32) (v17 : Int32) (v18 : Int32) (s0 : Int32) (M : ZM), J377 v13 v16 v17 v18 s0 M = some 1 → ∀ (H : Heap) (locs : List Loc) (ls : Array Slot), zWd G A s H locs M → lv_has ls 19 [(0, .ref G.2.2.2.2.2.2.1), (1, .ref (za G t1)), (4, .int v4), (6, .long v6), (8, .long v8), (10, .int v10), (11, .int v11), (12, .int v12), (13, .int v13), (16, .int v16), (17, .int v17), (18, .int v18)] → W p l e room_1 s m args below meth c H locs cells slots Q (F0 m 377 ls [.int s0]) := by
      intro v13 v16 v17 v18 s0 M h H locs ls hw hl
      subst hJ377
      refine lv_iconst (v := 1) hx hb dL_law_377 (by decide) ?_
      refine lv_goto (tgt := 382) hx hb dL_law_378 (by decide) ?_
      exact wJ382 v13 v16 v17 v18 s0 1 M h H locs ls hw (lv_sub hl [0, 1, 2, 3, 4, 5, 6, 7, 8, 9, 10, 11] rfl)
    obtain ⟨J350, hJ350, h⟩ := zlet_ex h
    have wJ350 : ∀ (v13 : Int32) (v16 : Int32) (v17 : Int32) (v18 : Int32) (s0 : Int32) (M : ZM), J350 v13 v16 v17 v18 s0 M = some 1 → ∀ (H : Heap) (locs : List Loc) (ls : Array Slot), zWd G A s H locs M → lv_has ls 19 [(0, .ref G.2.2.2.2.2.2.1), (1, .ref (za G t1)), (4, .int v4), (6, .long v6), (8, .long v8), (10, .int v10), (11, .int v11), (12, .int v12), (13, .int v13), (16, .int v16), (17, .int v17), (18, .int v18)] → W p l e room_1 s m args below meth c H locs cells slots Q (F0 m 350 ls [.int s0]) := by
      intro v13 v16 v17 v18 s0 M h H locs ls hw hl
      subst hJ350
      refine lv_iconst (v := 1) hx hb dL_law_350 (by decide) ?_
      refine lv_goto (tgt := 382) hx hb dL_law_351 (by decide) ?_
      exact wJ382 v13 v16 v17 v18 s0 1 M h H locs ls hw (lv_sub hl [0, 1, 2, 3, 4, 5, 6, 7, 8, 9, 10, 11] rfl)
    obtain ⟨J322, hJ322, h⟩ := zlet_ex h
    have wJ322 : ∀ (v13 : Int32) (v16 : Int32) (v17 : Int32) (v18 : Int32) (s0 : Int32) (M : ZM), J322 v13 v16 v17 v18 s0 M = some 1 → ∀ (H : Heap) (locs : List Loc) (ls : Array Slot), zWd G A s H locs M → lv_has ls 19 [(0, .ref G.2.2.2.2.2.2.1), (1, .ref (za G t1)), (4, .int v4), (6, .long v6), (8, .long v8), (10, .int v10), (11, .int v11), (12, .int v12), (13, .int v13), (16, .int v16), (17, .int v17), (18, .int v18)] → W p l e room_1 s m args below meth c H locs cells slots Q (F0 m 322 ls [.int s0]) := by
      intro v13 v16 v17 v18 s0 M h H locs ls hw hl
      subst hJ322
      refine lv_iload hx hb dL_law_322 (lv_at hl 10 rfl) ?_
      refine lv_bipush (v := 38) hx hb dL_law_324 (by decide) ?_
      refine lv_icmp_eq (tgt := 350) hx hb dL_law_326 (by decide) (fun c25 => ?_) (fun c25 => ?_)
      · have h := zif_t h c25
        exact wJ350 v13 v16 v17 v18 s0 M h H locs ls hw (lv_sub hl [0, 1, 2, 3, 4, 5, 6, 7, 8, 9, 10, 11] rfl)
      · have h := zif_f h c25
        refine lv_iload hx hb dL_law_329 (lv_at hl 10 rfl) ?_
        refine lv_bipush (v := 124) hx hb dL_law_331 (by decide) ?_
        refine lv_icmp_eq (tgt := 350) hx hb dL_law_333 (by decide) (fun c26 => ?_) (fun c26 => ?_)
        · have h := zif_t h c26
          exact wJ350 v13 v16 v17 v18 s0 M h H locs ls hw (lv_sub hl [0, 1, 2, 3, 4, 5, 6, 7, 8, 9, 10, 11] rfl)
        · have h := zif_f h c26
          refine lv_iload hx hb dL_law_336 (lv_at hl 10 rfl) ?_
          refine lv_bipush (v := 62) hx hb dL_law_338 (by decide) ?_
          refine lv_icmp_eq (tgt := 350) hx hb dL_law_340 (by decide) (fun c27 => ?_) (fun c27 => ?_)
          · have h := zif_t h c27
            exact wJ350 v13 v16 v17 v18 s0 M h H locs ls hw (lv_sub hl [0, 1, 2, 3, 4, 5, 6, 7, 8, 9, 10, 11] rfl)
          · have h := zif_f h c27
            refine lv_iload hx hb dL_law_343 (lv_at hl 10 rfl) ?_
            refine lv_bipush (v := 45) hx hb dL_law_345 (by decide) ?_
            refine lv_icmp_ne (tgt := 354) hx hb dL_law_347 (by decide) (fun c28 => ?_) (fun c28 => ?_)
            · have h := zif_f h c28
              refine lv_iconst (v := 0) hx hb dL_law_354 (by decide) ?_
              refine lv_goto (tgt := 382) hx hb dL_law_355 (by decide) ?_
              exact wJ382 v13 v16 v17 v18 s0 0 M h H locs ls hw (lv_sub hl [0, 1, 2, 3, 4, 5, 6, 7, 8, 9, 10, 11] rfl)
            · have h := zif_t h c28
              exact wJ350 v13 v16 v17 v18 s0 M h H locs ls hw (lv_sub hl [0, 1, 2, 3, 4, 5, 6, 7, 8, 9, 10, 11] rfl)
    obtain ⟨J301, hJ301, h⟩ := zlet_ex h
    have wJ301 : ∀ (v13 : Int32) (v14 : Int32) (v15 : Int32) (v16 : Int32) (v17 : Int32) (s0 : Int32) (M : ZM), J301 v13 v14 v15 v16 v17 s0 M = some 1 → ∀ (H : Heap) (locs : List Loc) (ls : Array Slot), zWd G A s H locs M → lv_has ls 19 [(0, .ref G.2.2.2.2.2.2.1), (1, .ref (za G t1)), (4, .int v4), (6, .long v6), (8, .long v8), (10, .int v10), (11, .int v11), (12, .int v12), (13, .int v13), (14, .int v14), (15, .int v15), (16, .int v16), (17, .int v17)] → W p l e room_1 s m args below meth c H locs cells slots Q (F0 m 301 ls [.int s0]) := by
      intro v13 v14 v15 v16 v17 s0 M h H locs ls hw hl
      subst hJ301
      refine lv_istore (lv' := [(18, .int s0), (0, .ref G.2.2.2.2.2.2.1), (1, .ref (za G t1)), (4, .int v4), (6, .long v6), (8, .long v8), (10, .int v10), (11, .int v11), (12, .int v12), (13, .int v13), (14, .int v14), (15, .int v15), (16, .int v16), (17, .int v17)]) hx hb dL_law_301 hl (by decide) rfl (fun ls hl => ?_)
      refine lv_iload hx hb dL_law_303 (lv_at hl 11 rfl) ?_
      refine lv_iload hx hb dL_law_305 (lv_at hl 10 rfl) ?_
      refine lv_if_eq (tgt := 358) hx hb dL_law_307 (by decide) (fun c29 => ?_) (fun c29 => ?_)
      · have h := zif_t h c29
        refine lv_iload hx hb dL_law_358 (lv_at hl 0 rfl) ?_
        refine lv_if_ne (tgt := 377) hx hb dL_law_360 (by decide) (fun c30 => ?_) (fun c30 => ?_)
        · have h := zif_f h c30
          exact wJ377 v13 v16 v17 s0 v15 M h H locs ls hw (lv_sub hl [1, 2, 3, 4, 5, 6, 7, 8, 9, 12, 13, 0] rfl)
        · have h := zif_t h c30
          refine lv_iload hx hb dL_law_363 (lv_at hl 13 rfl) ?_
          refine lv_bipush (v := 33) hx hb dL_law_365 (by decide) ?_
          refine lv_icmp_eq (tgt := 377) hx hb dL_law_367 (by decide) (fun c31 => ?_) (fun c31 => ?_)
          · have h := zif_t h c31
            exact wJ377 v13 v16 v17 s0 v15 M h H locs ls hw (lv_sub hl [1, 2, 3, 4, 5, 6, 7, 8, 9, 12, 13, 0] rfl)
          · have h := zif_f h c31
            refine lv_iload hx hb dL_law_370 (lv_at hl 13 rfl) ?_
            refine lv_bipush (v := 40) hx hb dL_law_372 (by decide) ?_
            refine lv_icmp_ne (tgt := 381) hx hb dL_law_374 (by decide) (fun c32 => ?_) (fun c32 => ?_)
            · have h := zif_f h c32
              refine lv_iconst (v := 0) hx hb dL_law_381 (by decide) ?_
              exact wJ382 v13 v16 v17 s0 v15 0 M h H locs ls hw (lv_sub hl [1, 2, 3, 4, 5, 6, 7, 8, 9, 12, 13, 0] rfl)
            · have h := zif_t h c32
              exact wJ377 v13 v16 v17 s0 v15 M h H locs ls hw (lv_sub hl [1, 2, 3, 4, 5, 6, 7, 8, 9, 12, 13, 0] rfl)
      · have h := zif_f h c29
        refine lv_iload hx hb dL_law_310 (lv_at hl 13 rfl) ?_
        refine lv_bipush (v := 41) hx hb dL_law_312 (by decide) ?_
        refine lv_icmp_ne (tgt := 322) hx hb dL_law_314 (by decide) (fun c33 => ?_) (fun c33 => ?_)
        · have h := zif_f h c33
          exact wJ322 v13 v16 v17 s0 v15 M h H locs ls hw (lv_sub hl [1, 2, 3, 4, 5, 6, 7, 8, 9, 12, 13, 0] rfl)
        · have h := zif_t h c33
          refine lv_iload hx hb dL_law_317 (lv_at hl 9 rfl) ?_
          refine lv_if_gt (tgt := 350) hx hb dL_law_319 (by decide) (fun c34 => ?_) (fun c34 => ?_)
          · have h := zif_t h c34
            exact wJ350 v13 v16 v17 s0 v15 M h H locs ls hw (lv_sub hl [1, 2, 3, 4, 5, 6, 7, 8, 9, 12, 13, 0] rfl)
          · have h := zif_f h c34
            exact wJ322 v13 v16 v17 s0 v15 M h H locs ls hw (lv_sub hl [1, 2, 3, 4, 5, 6, 7, 8, 9, 12, 13, 0] rfl)
    obtain ⟨J300, hJ300, h⟩ := zlet_ex h
    have wJ300 : ∀ (v13 : Int32) (v14 : Int32) (v15 : Int32) (v16 : Int32) (v17 : Int32) (M : ZM), J300 v13 v14 v15 v16 v17 M = some 1 → ∀ (H : Heap) (locs : List Loc) (ls : Array Slot), zWd G A s H locs M → lv_has ls 19 [(0, .ref G.2.2.2.2.2.2.1), (1, .ref (za G t1)), (4, .int v4), (6, .long v6), (8, .long v8), (10, .int v10), (11, .int v11), (12, .int v12), (13, .int v13), (14, .int v14), (15, .int v15), (16, .int v16), (17, .int v17)] → W p l e room_1 s m args below meth c H locs cells slots Q (F0 m 300 ls []) := by
      intro v13 v14 v15 v16 v17 M h H locs ls hw hl
      subst hJ300
      refine lv_iconst (v := 0) hx hb dL_law_300 (by decide) ?_
      exact wJ301 v13 v14 v15 v16 v17 0 M h H locs ls hw (lv_sub hl [0, 1, 2, 3, 4, 5, 6, 7, 8, 9, 10, 11, 12] rfl)
    refine lv_iload hx hb dL_law_267 (lv_at hl 11 rfl) ?_
    refine lv_iload hx hb dL_law_269 (lv_at hl 7 rfl) ?_
    refine lv_icmp_gt (tgt := 438) hx hb dL_law_271 (by decide) (fun c35 => ?_) (fun c35 => ?_)
    · have h := zif_t h c35
      exact hK v13 v14 v15 M h H locs ls hw (lv_sub hl [0, 1, 2, 3, 4, 5, 6, 7, 8, 9, 10] rfl)
    · have h := zif_f h c35
      refine lv_aload_n hx hb dL_law_274 rfl (lv_at hl 1 rfl) ?_
      refine lv_iload hx hb dL_law_275 (lv_at hl 11 rfl) ?_
      obtain ⟨q36, eq36, h⟩ := zlet_ex h
      refine z_callV (ci := 11) (As := [.int v16]) (rest := []) (rv := (some (.int q36))) (M1 := M) S hw (c_X11_wordAt l hG t1 v16 k1 M q36 eq36.symm) mv_X11_wordAt lk_L_51 k1 ⟨_, _, rfl⟩ (by decide) rfl rfl (Nat.le_of_ble_eq_true rfl) ⟨Nat.le_of_ble_eq_true rfl, Nat.le_of_ble_eq_true rfl⟩ hl.1 dL_law_277 (fun H locs hw => ?_)
      refine lv_istore (lv' := [(17, .int q36), (0, .ref G.2.2.2.2.2.2.1), (1, .ref (za G t1)), (4, .int v4), (6, .long v6), (8, .long v8), (10, .int v10), (11, .int v11), (12, .int v12), (13, .int v13), (14, .int v14), (15, .int v15), (16, .int v16)]) hx hb dL_law_280 hl (by decide) rfl (fun ls hl => ?_)
      refine lv_iload hx hb dL_law_282 (lv_at hl 0 rfl) ?_
      refine lv_bipush (v := 97) hx hb dL_law_284 (by decide) ?_
      refine lv_icmp_lt (tgt := 300) hx hb dL_law_286 (by decide) (fun c37 => ?_) (fun c37 => ?_)
      · have h := zif_t h c37
        exact wJ300 v13 v14 v15 v16 q36 M h H locs ls hw (lv_sub hl [1, 2, 3, 4, 5, 6, 7, 8, 9, 10, 11, 12, 0] rfl)
      · have h := zif_f h c37
        refine lv_iload hx hb dL_law_289 (lv_at hl 0 rfl) ?_
        refine lv_bipush (v := 101) hx hb dL_law_291 (by decide) ?_
        refine lv_icmp_gt (tgt := 300) hx hb dL_law_293 (by decide) (fun c38 => ?_) (fun c38 => ?_)
        · have h := zif_t h c38
          exact wJ300 v13 v14 v15 v16 q36 M h H locs ls hw (lv_sub hl [1, 2, 3, 4, 5, 6, 7, 8, 9, 10, 11, 12, 0] rfl)
        · have h := zif_f h c38
          refine lv_iconst (v := 1) hx hb dL_law_296 (by decide) ?_
          refine lv_goto (tgt := 301) hx hb dL_law_297 (by decide) ?_
          exact wJ301 v13 v14 v15 v16 q36 1 M h H locs ls hw (lv_sub hl [1, 2, 3, 4, 5, 6, 7, 8, 9, 10, 11, 12, 0] rfl)
set_option maxHeartbeats 4000000 in
set_option maxRecDepth 100000 in
theorem w_L_law_832 {G : ZG} (hG : zOk G) (S : zX p room_1 s m args c cells slots cL_law 19 RL) (L : Nat) (xs : Nat → Int32) (t1 : Nat) (v4 : Int32) (v9 : Int32) (v10 : Int32) (k0 : zSc G L xs) (k1 : zk G t1 = 21)  {K : ZM → Option Int32}  (hK : ∀  (M : ZM), K M = some 1 → ∀ (H : Heap) (locs : List Loc) (ls : Array Slot), zWd G A s H locs M → lv_has ls 19 [(0, .ref G.2.2.2.2.2.2.1), (1, .ref (za G t1)), (4, .int v4), (10, .int v10)] → W p l e room_1 s m args below meth c H locs cells slots Q (F0 m 878 ls [])) : ∀ (n : Nat) (v13 : Int32) (M : ZM), f_L_law_832 L xs t1 v4 v9 v10 K n v13 M = some 1 → ∀ (H : Heap) (locs : List Loc) (ls : Array Slot), zWd G A s H locs M → lv_has ls 19 [(0, .ref G.2.2.2.2.2.2.1), (1, .ref (za G t1)), (4, .int v4), (9, .int v9), (10, .int v10), (13, .int v13)] → W p l e room_1 s m args below meth c H locs cells slots Q (F0 m 832 ls []) := by
  have hx := S.1.1
  have hb := S.1.2.1
  have hown := S.1.2.2.2.1
  have hts := S.1.2.2.2.2
  intro n
  induction n with
  | zero =>
    intro v13 M h
    rw [f_L_law_832] at h
    cases h
  | succ n ih =>
    intro v13 M h H locs ls hw hl
    rw [f_L_law_832] at h
    refine lv_iload hx hb dL_law_832 (lv_at hl 5 rfl) ?_
    refine lv_iload hx hb dL_law_834 (lv_at hl 3 rfl) ?_
    refine lv_icmp_ge (tgt := 878) hx hb dL_law_836 (by decide) (fun c128 => ?_) (fun c128 => ?_)
    · have h := zif_t h c128
      exact hK M h H locs ls hw (lv_sub hl [0, 1, 2, 4] rfl)
    · have h := zif_f h c128
      refine lv_aload_n hx hb dL_law_839 rfl (lv_at hl 1 rfl) ?_
      refine lv_iload hx hb dL_law_840 (lv_at hl 5 rfl) ?_
      obtain ⟨q129, eq129, h⟩ := Option.bind_eq_some_iff.mp h
      refine z_callV (ci := 11) (As := [.int v13]) (rest := []) (rv := (some (.int q129.1))) (M1 := q129.2) S hw (c_X11_leftOver l hG t1 v13 k1 M q129 eq129) mv_X11_leftOver lk_L_116 k1 ⟨_, _, rfl⟩ (by decide) rfl rfl (Nat.le_of_ble_eq_true rfl) ⟨Nat.le_of_ble_eq_true rfl, Nat.le_of_ble_eq_true rfl⟩ hl.1 dL_law_842 (fun H locs hw => ?_)
      refine lv_if_lt (tgt := 870) hx hb dL_law_845 (by decide) (fun c130 => ?_) (fun c130 => ?_)
      · have h := zif_t h c130
        refine lv_iconst (v := 0) hx hb dL_law_870 (by decide) ?_
        exact absurd (Option.some.inj h) (by decide)
      · have h := zif_f h c130
        refine lv_iload hx hb dL_law_848 (lv_at hl 5 rfl) ?_
        refine lv_if_le (tgt := 872) hx hb dL_law_850 (by decide) (fun c131 => ?_) (fun c131 => ?_)
        · have h := zif_t h c131
          obtain ⟨x132, ex132, h⟩ := zlet_ex h
          refine lv_iinc (v := x132) (lv' := [(13, .int x132), (0, .ref G.2.2.2.2.2.2.1), (1, .ref (za G t1)), (4, .int v4), (9, .int v9), (10, .int v10)]) hx hb dL_law_872 hl (k := 5) rfl (by rw [ex132]; rfl) (by decide) rfl (fun ls hl => ?_)
          refine lv_goto (tgt := 832) hx hb dL_law_875 (by decide) ?_
          exact ih x132 q129.2 h H locs ls hw (lv_sub hl [1, 2, 3, 4, 5, 0] rfl)
        · have h := zif_f h c131
          refine lv_aload_n hx hb dL_law_853 rfl (lv_at hl 1 rfl) ?_
          refine lv_iload hx hb dL_law_854 (lv_at hl 5 rfl) ?_
          obtain ⟨q133, eq133, h⟩ := Option.bind_eq_some_iff.mp h
          refine z_callV (ci := 11) (As := [.int v13]) (rest := []) (rv := (some (.int q133.1))) (M1 := q133.2) S hw (c_X11_leftOver l hG t1 v13 k1 q129.2 q133 eq133) mv_X11_leftOver lk_L_116 k1 ⟨_, _, rfl⟩ (by decide) rfl rfl (Nat.le_of_ble_eq_true rfl) ⟨Nat.le_of_ble_eq_true rfl, Nat.le_of_ble_eq_true rfl⟩ hl.1 dL_law_856 (fun H locs hw => ?_)
          refine lv_aload_n hx hb dL_law_859 rfl (lv_at hl 1 rfl) ?_
          refine lv_iload hx hb dL_law_860 (lv_at hl 5 rfl) ?_
          refine lv_iconst (v := 1) hx hb dL_law_862 (by decide) ?_
          refine lv_isub hx hb dL_law_863 ?_
          obtain ⟨q134, eq134, h⟩ := Option.bind_eq_some_iff.mp h
          refine z_callV (ci := 11) (As := [.int (v13 - 1)]) (rest := [.int q133.1]) (rv := (some (.int q134.1))) (M1 := q134.2) S hw (c_X11_leftOver l hG t1 (v13 - 1) k1 q133.2 q134 eq134) mv_X11_leftOver lk_L_116 k1 ⟨_, _, rfl⟩ (by decide) rfl rfl (Nat.le_of_ble_eq_true rfl) ⟨Nat.le_of_ble_eq_true rfl, Nat.le_of_ble_eq_true rfl⟩ hl.1 dL_law_864 (fun H locs hw => ?_)
          refine lv_icmp_gt (tgt := 872) hx hb dL_law_867 (by decide) (fun c135 => ?_) (fun c135 => ?_)
          · have h := zif_t h c135
            obtain ⟨x136, ex136, h⟩ := zlet_ex h
            refine lv_iinc (v := x136) (lv' := [(13, .int x136), (0, .ref G.2.2.2.2.2.2.1), (1, .ref (za G t1)), (4, .int v4), (9, .int v9), (10, .int v10)]) hx hb dL_law_872 hl (k := 5) rfl (by rw [ex136]; rfl) (by decide) rfl (fun ls hl => ?_)
            refine lv_goto (tgt := 832) hx hb dL_law_875 (by decide) ?_
            exact ih x136 q134.2 h H locs ls hw (lv_sub hl [1, 2, 3, 4, 5, 0] rfl)
          · have h := zif_f h c135
            refine lv_iconst (v := 0) hx hb dL_law_870 (by decide) ?_
            exact absurd (Option.some.inj h) (by decide)
set_option maxHeartbeats 4000000 in
set_option maxRecDepth 100000 in
theorem w_L_law_31 {G : ZG} (hG : zOk G) (S : zX p room_1 s m args c cells slots cL_law 19 RL) (L : Nat) (xs : Nat → Int32) (t1 : Nat) (k0 : zSc G L xs) (k1 : zk G t1 = 21)  {K : ZM → Option Int32}  (hK : ∀  (M : ZM), K M = some 1 → ∀ (H : Heap) (locs : List Loc) (ls : Array Slot), zWd G A s H locs M → lv_has ls 19 [] → W p l e room_1 s m args below meth c H locs cells slots Q (F0 m 948 ls [])) : ∀ (n : Nat) (v4 : Int32) (M : ZM), f_L_law_31 L xs t1 K n v4 M = some 1 → ∀ (H : Heap) (locs : List Loc) (ls : Array Slot), zWd G A s H locs M → lv_has ls 19 [(0, .ref G.2.2.2.2.2.2.1), (1, .ref (za G t1)), (4, .int v4)] → W p l e room_1 s m args below meth c H locs cells slots Q (F0 m 31 ls []) := by
  have hx := S.1.1
  have hb := S.1.2.1
  have hown := S.1.2.2.2.1
  have hts := S.1.2.2.2.2
  intro n
  induction n with
  | zero =>
    intro v4 M h
    rw [f_L_law_31] at h
    cases h
  | succ n ih =>
    intro v4 M h H locs ls hw hl
    rw [f_L_law_31] at h
    obtain ⟨J497, hJ497, h⟩ := zlet_ex h
    have wJ497 : ∀ (v4 : Int32) (M : ZM), J497 v4 M = some 1 → ∀ (H : Heap) (locs : List Loc) (ls : Array Slot), zWd G A s H locs M → lv_has ls 19 [(0, .ref G.2.2.2.2.2.2.1), (1, .ref (za G t1)), (4, .int v4)] → W p l e room_1 s m args below meth c H locs cells slots Q (F0 m 497 ls []) := by
      intro v4 M h H locs ls hw hl
      subst hJ497
      refine lv_aload_n hx hb dL_law_497 rfl (lv_at hl 1 rfl) ?_
      obtain ⟨q1, eq1, h⟩ := zlet_ex h
      refine z_callV (ci := 11) (As := []) (rest := []) (rv := (some (.long q1))) (M1 := M) S hw (c_X11_readings l hG t1 k1 M q1 eq1.symm) mv_X11_readings lk_L_58 k1 ⟨_, _, rfl⟩ (by decide) rfl rfl (Nat.le_of_ble_eq_true rfl) ⟨Nat.le_of_ble_eq_true rfl, Nat.le_of_ble_eq_true rfl⟩ hl.1 dL_law_498 (fun H locs hw => ?_)
      refine lv_lconst (v := 1) hx hb dL_law_501 (by decide) ?_
      refine W.lcmp hx hb dL_law_502 ?_
      refine lv_if_ge (tgt := 942) hx hb dL_law_503 (by decide) (fun c2 => ?_) (fun c2 => ?_)
      · have h := zif_t h c2
        obtain ⟨x3, ex3, h⟩ := zlet_ex h
        refine lv_iinc (v := x3) (lv' := [(4, .int x3), (0, .ref G.2.2.2.2.2.2.1), (1, .ref (za G t1))]) hx hb dL_law_942 hl (k := 2) rfl (by rw [ex3]; rfl) (by decide) rfl (fun ls hl => ?_)
        refine lv_goto (tgt := 31) hx hb dL_law_945 (by decide) ?_
        exact ih x3 M h H locs ls hw (lv_sub hl [1, 2, 0] rfl)
      · have h := zif_f h c2
        refine lv_goto (tgt := 519) hx hb dL_law_506 (by decide) ?_
        refine lv_iconst (v := 0) hx hb dL_law_519 (by decide) ?_
        exact absurd (Option.some.inj h) (by decide)
    obtain ⟨J455, hJ455, h⟩ := zlet_ex h
    have wJ455 : ∀ (v4 : Int32) (v6 : Int64) (v8 : Int64) (v10 : Int32) (v11 : Int32) (v12 : Int32) (s0 : Int32) (s1 : Int32) (M : ZM), J455 v4 v6 v8 v10 v11 v12 s0 s1 M = some 1 → ∀ (H : Heap) (locs : List Loc) (ls : Array Slot), zWd G A s H locs M → lv_has ls 19 [(0, .ref G.2.2.2.2.2.2.1), (1, .ref (za G t1)), (4, .int v4), (6, .long v6), (8, .long v8), (10, .int v10), (11, .int v11), (12, .int v12)] → W p l e room_1 s m args below meth c H locs cells slots Q (F0 m 455 ls [.int s1, .int s0]) := by
      intro v4 v6 v8 v10 v11 v12 s0 s1 M h H locs ls hw hl
      subst hJ455
      refine lv_iand hx hb dL_law_455 ?_
      obtain ⟨x4, ex4, h⟩ := zlet_ex h
      refine lv_topiE ex4 ?_
      refine lv_istore (lv' := [(15, .int x4), (0, .ref G.2.2.2.2.2.2.1), (1, .ref (za G t1)), (4, .int v4), (6, .long v6), (8, .long v8), (10, .int v10), (11, .int v11), (12, .int v12)]) hx hb dL_law_456 hl (by decide) rfl (fun ls hl => ?_)
      refine lv_aload_n hx hb dL_law_458 rfl (lv_at hl 2 rfl) ?_
      refine lv_iload hx hb dL_law_459 (lv_at hl 7 rfl) ?_
      refine lv_iload hx hb dL_law_461 (lv_at hl 8 rfl) ?_
      obtain ⟨q5, eq5, h⟩ := Option.bind_eq_some_iff.mp h
      refine z_callV (ci := 11) (As := [.int v11, .int v12]) (rest := []) (rv := (some (.int q5.1))) (M1 := q5.2) S hw (c_X11_bracket l hG t1 v11 v12 k1 M q5 eq5) mv_X11_bracket lk_L_78 k1 ⟨_, _, rfl⟩ (by decide) rfl rfl (Nat.le_of_ble_eq_true rfl) ⟨Nat.le_of_ble_eq_true rfl, Nat.le_of_ble_eq_true rfl⟩ hl.1 dL_law_463 (fun H locs hw => ?_)
      refine lv_istore (lv' := [(16, .int q5.1), (15, .int x4), (0, .ref G.2.2.2.2.2.2.1), (1, .ref (za G t1)), (4, .int v4), (6, .long v6), (8, .long v8), (10, .int v10), (11, .int v11), (12, .int v12)]) hx hb dL_law_466 hl (by decide) rfl (fun ls hl => ?_)
      refine lv_iload hx hb dL_law_468 (lv_at hl 0 rfl) ?_
      refine lv_if_le (tgt := 509) hx hb dL_law_470 (by decide) (fun c6 => ?_) (fun c6 => ?_)
      · have h := zif_t h c6
        refine lv_aload_n hx hb dL_law_509 rfl (lv_at hl 3 rfl) ?_
        obtain ⟨q7, eq7, h⟩ := Option.bind_eq_some_iff.mp h
        refine z_callS (As := [.ref (za G t1)]) (rest := []) (rv := (some (.long q7))) (M1 := q5.2) S hw (c_L_sight l hG t1 k1 q5.2 q7 eq7) mv_L_sight lk_L_67 rfl rfl (Nat.le_of_ble_eq_true rfl) ⟨Nat.le_of_ble_eq_true rfl, Nat.le_of_ble_eq_true rfl⟩ hl.1 dL_law_510 (fun H locs hw => ?_)
        refine lv_lload hx hb dL_law_513 (lv_at hl 5 rfl) ?_
        refine W.lcmp hx hb dL_law_515 ?_
        refine lv_if_eq (tgt := 942) hx hb dL_law_516 (by decide) (fun c8 => ?_) (fun c8 => ?_)
        · have h := zif_t h c8
          obtain ⟨x9, ex9, h⟩ := zlet_ex h
          refine lv_iinc (v := x9) (lv' := [(4, .int x9), (16, .int q5.1), (15, .int x4), (0, .ref G.2.2.2.2.2.2.1), (1, .ref (za G t1)), (6, .long v6), (8, .long v8), (10, .int v10), (11, .int v11), (12, .int v12)]) hx hb dL_law_942 hl (k := 4) rfl (by rw [ex9]; rfl) (by decide) rfl (fun ls hl => ?_)
          refine lv_goto (tgt := 31) hx hb dL_law_945 (by decide) ?_
          exact ih x9 q5.2 h H locs ls hw (lv_sub hl [3, 4, 0] rfl)
        · have h := zif_f h c8
          refine lv_iconst (v := 0) hx hb dL_law_519 (by decide) ?_
          exact absurd (Option.some.inj h) (by decide)
      · have h := zif_f h c6
        refine lv_iload hx hb dL_law_473 (lv_at hl 0 rfl) ?_
        refine lv_iload hx hb dL_law_475 (lv_at hl 7 rfl) ?_
        refine lv_iconst (v := 2) hx hb dL_law_477 (by decide) ?_
        refine lv_iadd hx hb dL_law_478 ?_
        refine lv_icmp_ne (tgt := 519) hx hb dL_law_479 (by decide) (fun c10 => ?_) (fun c10 => ?_)
        · have h := zif_f h c10
          refine lv_iconst (v := 0) hx hb dL_law_519 (by decide) ?_
          exact absurd (Option.some.inj h) (by decide)
        · have h := zif_t h c10
          refine lv_iload hx hb dL_law_482 (lv_at hl 1 rfl) ?_
          refine lv_if_eq (tgt := 497) hx hb dL_law_484 (by decide) (fun c11 => ?_) (fun c11 => ?_)
          · have h := zif_t h c11
            exact wJ497 v4 q5.2 h H locs ls hw (lv_sub hl [2, 3, 4] rfl)
          · have h := zif_f h c11
            refine lv_aload_n hx hb dL_law_487 rfl (lv_at hl 3 rfl) ?_
            obtain ⟨q12, eq12, h⟩ := zlet_ex h
            refine z_callV (ci := 11) (As := []) (rest := []) (rv := (some (.long q12))) (M1 := q5.2) S hw (c_X11_readings l hG t1 k1 q5.2 q12 eq12.symm) mv_X11_readings lk_L_58 k1 ⟨_, _, rfl⟩ (by decide) rfl rfl (Nat.le_of_ble_eq_true rfl) ⟨Nat.le_of_ble_eq_true rfl, Nat.le_of_ble_eq_true rfl⟩ hl.1 dL_law_488 (fun H locs hw => ?_)
            refine lv_lload hx hb dL_law_491 (lv_at hl 6 rfl) ?_
            refine W.lcmp hx hb dL_law_493 ?_
            refine lv_if_gt (tgt := 519) hx hb dL_law_494 (by decide) (fun c13 => ?_) (fun c13 => ?_)
            · have h := zif_t h c13
              refine lv_iconst (v := 0) hx hb dL_law_519 (by decide) ?_
              exact absurd (Option.some.inj h) (by decide)
            · have h := zif_f h c13
              exact wJ497 v4 q5.2 h H locs ls hw (lv_sub hl [2, 3, 4] rfl)
    obtain ⟨J454, hJ454, h⟩ := zlet_ex h
    have wJ454 : ∀ (v4 : Int32) (v6 : Int64) (v8 : Int64) (v10 : Int32) (v11 : Int32) (v12 : Int32) (s0 : Int32) (M : ZM), J454 v4 v6 v8 v10 v11 v12 s0 M = some 1 → ∀ (H : Heap) (locs : List Loc) (ls : Array Slot), zWd G A s H locs M → lv_has ls 19 [(0, .ref G.2.2.2.2.2.2.1), (1, .ref (za G t1)), (4, .int v4), (6, .long v6), (8, .long v8), (10, .int v10), (11, .int v11), (12, .int v12)] → W p l e room_1 s m args below meth c H locs cells slots Q (F0 m 454 ls [.int s0]) := by
      intro v4 v6 v8 v10 v11 v12 s0 M h H locs ls hw hl
      subst hJ454
      refine lv_iconst (v := 0) hx hb dL_law_454 (by decide) ?_
      exact wJ455 v4 v6 v8 v10 v11 v12 s0 0 M h H locs ls hw (lv_sub hl [0, 1, 2, 3, 4, 5, 6, 7] rfl)
    obtain ⟨J261, hJ261, h⟩ := zlet_ex h
    have wJ261 : ∀ (v4 : Int32) (v6 : Int64) (v8 : Int64) (v10 : Int32) (v11 : Int32) (v12 : Int32) (v13 : Int32) (v14 : Int32) (s0 : Int32) (M : ZM), J261 v4 v6 v8 v10 v11 v12 v13 v14 s0 M = some 1 → ∀ (H : Heap) (locs : List Loc) (ls : Array Slot), zWd G A s H locs M → lv_has ls 19 [(0, .ref G.2.2.2.2.2.2.1), (1, .ref (za G t1)), (4, .int v4), (6, .long v6), (8, .long v8), (10, .int v10), (11, .int v11), (12, .int v12), (13, .int v13), (14, .int v14)] → W p l e room_1 s m args below meth c H locs cells slots Q (F0 m 261 ls [.int s0]) := by
      intro v4 v6 v8 v10 v11 v12 v13 v14 s0 M h H locs ls hw hl
      subst hJ261
      refine lv_istore (lv' := [(15, .int s0), (0, .ref G.2.2.2.2.2.2.1), (1, .ref (za G t1)), (4, .int v4), (6, .long v6), (8, .long v8), (10, .int v10), (11, .int v11), (12, .int v12), (13, .int v13), (14, .int v14)]) hx hb dL_law_261 hl (by decide) rfl (fun ls hl => ?_)
      refine lv_iload hx hb dL_law_263 (lv_at hl 7 rfl) ?_
      refine lv_istore (lv' := [(16, .int v11), (15, .int s0), (0, .ref G.2.2.2.2.2.2.1), (1, .ref (za G t1)), (4, .int v4), (6, .long v6), (8, .long v8), (10, .int v10), (11, .int v11), (12, .int v12), (13, .int v13), (14, .int v14)]) hx hb dL_law_265 hl (by decide) rfl (fun ls hl => ?_)
      refine w_L_law_267 hG S L xs t1 v4 v6 v8 v10 v11 v12 k0 k1 (fun v13 v14 v15 M h H locs ls hw hl => ?_) zN v13 v14 s0 v11 M h H locs ls hw (lv_sub hl [2, 3, 4, 5, 6, 7, 8, 9, 10, 11, 1, 0] rfl)
      refine lv_iload hx hb dL_law_438 (lv_at hl 10 rfl) ?_
      refine lv_iload hx hb dL_law_440 (lv_at hl 9 rfl) ?_
      refine lv_if_eq (tgt := 454) hx hb dL_law_442 (by decide) (fun c39 => ?_) (fun c39 => ?_)
      · have h := zif_t h c39
        exact wJ454 v4 v6 v8 v10 v11 v12 v15 M h H locs ls hw (lv_sub hl [0, 1, 2, 3, 4, 5, 6, 7] rfl)
      · have h := zif_f h c39
        refine lv_iload hx hb dL_law_445 (lv_at hl 8 rfl) ?_
        refine lv_if_ne (tgt := 454) hx hb dL_law_447 (by decide) (fun c40 => ?_) (fun c40 => ?_)
        · have h := zif_f h c40
          exact wJ454 v4 v6 v8 v10 v11 v12 v15 M h H locs ls hw (lv_sub hl [0, 1, 2, 3, 4, 5, 6, 7] rfl)
        · have h := zif_t h c40
          refine lv_iconst (v := 1) hx hb dL_law_450 (by decide) ?_
          refine lv_goto (tgt := 455) hx hb dL_law_451 (by decide) ?_
          exact wJ455 v4 v6 v8 v10 v11 v12 v15 1 M h H locs ls hw (lv_sub hl [0, 1, 2, 3, 4, 5, 6, 7] rfl)
    refine lv_iload hx hb dL_law_31 (lv_at hl 2 rfl) ?_
    refine lv_aload_n hx hb dL_law_33 rfl (lv_at hl 0 rfl) ?_
    refine z_slen S hw k0 dL_law_34 ?_
    refine lv_icmp_ge (tgt := 948) hx hb dL_law_35 (by decide) (fun c41 => ?_) (fun c41 => ?_)
    · have h := zif_t h c41
      exact hK M h H locs ls hw (lv_sub hl [] rfl)
    · have h := zif_f h c41
      refine lv_iload hx hb dL_law_38 (lv_at hl 2 rfl) ?_
      refine lv_bipush (v := 24) hx hb dL_law_40 (by decide) ?_
      refine lv_icmp_ge (tgt := 948) hx hb dL_law_42 (by decide) (fun c42 => ?_) (fun c42 => ?_)
      · have h := zif_t h c42
        exact hK M h H locs ls hw (lv_sub hl [] rfl)
      · have h := zif_f h c42
        refine lv_aload_n hx hb dL_law_45 rfl (lv_at hl 0 rfl) ?_
        refine lv_iload hx hb dL_law_46 (lv_at hl 2 rfl) ?_
        obtain ⟨q43, eq43, h⟩ := Option.bind_eq_some_iff.mp h
        refine z_callS (As := [.ref G.2.2.2.2.2.2.1, .int v4]) (rest := []) (rv := (some (.int q43))) (M1 := M) S hw (c_L_cell l hG L xs v4 k0 M q43 eq43) mv_L_cell lk_L_15 rfl rfl (Nat.le_of_ble_eq_true rfl) ⟨Nat.le_of_ble_eq_true rfl, Nat.le_of_ble_eq_true rfl⟩ hl.1 dL_law_48 (fun H locs hw => ?_)
        refine lv_istore (lv' := [(5, .int q43), (0, .ref G.2.2.2.2.2.2.1), (1, .ref (za G t1)), (4, .int v4)]) hx hb dL_law_51 hl (by decide) rfl (fun ls hl => ?_)
        refine lv_aload_n hx hb dL_law_53 rfl (lv_at hl 2 rfl) ?_
        obtain ⟨q44, eq44, h⟩ := Option.bind_eq_some_iff.mp h
        refine z_callS (As := [.ref (za G t1)]) (rest := []) (rv := (some (.long q44))) (M1 := M) S hw (c_L_sight l hG t1 k1 M q44 eq44) mv_L_sight lk_L_67 rfl rfl (Nat.le_of_ble_eq_true rfl) ⟨Nat.le_of_ble_eq_true rfl, Nat.le_of_ble_eq_true rfl⟩ hl.1 dL_law_54 (fun H locs hw => ?_)
        refine lv_lstore (lv' := [(6, .long q44), (5, .int q43), (0, .ref G.2.2.2.2.2.2.1), (1, .ref (za G t1)), (4, .int v4)]) hx hb dL_law_57 hl (by decide) rfl (fun ls hl => ?_)
        refine lv_iload hx hb dL_law_59 (lv_at hl 1 rfl) ?_
        refine lv_bipush (v := 7) hx hb dL_law_61 (by decide) ?_
        refine lv_iand hx hb dL_law_63 ?_
        obtain ⟨x45, ex45, h⟩ := zlet_ex h
        refine lv_topiE ex45 ?_
        rcases Decidable.em (x45 = 0) with c46 | c46
        · have h := zif_t h c46
          refine z_tab S (off := 40) c46 (by decide) (by decide) dL_law_64 (by decide +kernel) (tgt := 104) (by decide) ?_
          refine lv_aload_n hx hb dL_law_104 rfl (lv_at hl 3 rfl) ?_
          refine lv_iconst (v := 1) hx hb dL_law_105 (by decide) ?_
          obtain ⟨q47, eq47, h⟩ := Option.bind_eq_some_iff.mp h
          refine z_callV (ci := 11) (As := [.int 1]) (rest := []) (rv := (some (.int q47))) (M1 := M) S hw (c_X11_count l hG t1 1 k1 M q47 eq47) mv_X11_count lk_L_55 k1 ⟨_, _, rfl⟩ (by decide) rfl rfl (Nat.le_of_ble_eq_true rfl) ⟨Nat.le_of_ble_eq_true rfl, Nat.le_of_ble_eq_true rfl⟩ hl.1 dL_law_106 (fun H locs hw => ?_)
          refine lv_istore (lv' := [(8, .int q47), (6, .long q44), (5, .int q43), (0, .ref G.2.2.2.2.2.2.1), (1, .ref (za G t1)), (4, .int v4)]) hx hb dL_law_109 hl (by decide) rfl (fun ls hl => ?_)
          refine lv_aload_n hx hb dL_law_111 rfl (lv_at hl 4 rfl) ?_
          refine lv_iload hx hb dL_law_112 (lv_at hl 2 rfl) ?_
          refine lv_iconst (v := 3) hx hb dL_law_114 (by decide) ?_
          refine lv_ishr hx hb dL_law_115 ?_
          refine lv_bipush (v := 7) hx hb dL_law_116 (by decide) ?_
          refine lv_iand hx hb dL_law_118 ?_
          refine lv_bipush (v := 6) hx hb dL_law_119 (by decide) ?_
          obtain ⟨g48, h⟩ := zck_ex h
          refine lv_irem hx hb dL_law_121 (znzI_of g48) ?_
          obtain ⟨q49, eq49, h⟩ := Option.bind_eq_some_iff.mp h
          refine z_callV (ci := 11) (As := [.int (((q43 >>> ((3 : Int32) &&& 31)) &&& 7) - ((q43 >>> ((3 : Int32) &&& 31)) &&& 7) / 6 * 6)]) (rest := []) (rv := (some (.int q49.1))) (M1 := q49.2) S hw (c_X11_choose l hG t1 (((q43 >>> ((3 : Int32) &&& 31)) &&& 7) - ((q43 >>> ((3 : Int32) &&& 31)) &&& 7) / 6 * 6) k1 M q49 eq49) mv_X11_choose lk_L_71 k1 ⟨_, _, rfl⟩ (by decide) rfl rfl (Nat.le_of_ble_eq_true rfl) ⟨Nat.le_of_ble_eq_true rfl, Nat.le_of_ble_eq_true rfl⟩ hl.1 dL_law_122 (fun H locs hw => ?_)
          refine lv_istore (lv' := [(9, .int q49.1), (8, .int q47), (6, .long q44), (5, .int q43), (0, .ref G.2.2.2.2.2.2.1), (1, .ref (za G t1)), (4, .int v4)]) hx hb dL_law_125 hl (by decide) rfl (fun ls hl => ?_)
          refine lv_iload hx hb dL_law_127 (lv_at hl 0 rfl) ?_
          refine lv_iload hx hb dL_law_129 (lv_at hl 1 rfl) ?_
          refine lv_iconst (v := 1) hx hb dL_law_131 (by decide) ?_
          refine lv_iadd hx hb dL_law_132 ?_
          refine lv_icmp_eq (tgt := 942) hx hb dL_law_133 (by decide) (fun c50 => ?_) (fun c50 => ?_)
          · have h := zif_t h c50
            obtain ⟨x51, ex51, h⟩ := zlet_ex h
            refine lv_iinc (v := x51) (lv' := [(4, .int x51), (9, .int q49.1), (8, .int q47), (6, .long q44), (5, .int q43), (0, .ref G.2.2.2.2.2.2.1), (1, .ref (za G t1))]) hx hb dL_law_942 hl (k := 6) rfl (by rw [ex51]; rfl) (by decide) rfl (fun ls hl => ?_)
            refine lv_goto (tgt := 31) hx hb dL_law_945 (by decide) ?_
            exact ih x51 q49.2 h H locs ls hw (lv_sub hl [5, 6, 0] rfl)
          · have h := zif_f h c50
            refine lv_iload hx hb dL_law_136 (lv_at hl 0 rfl) ?_
            refine lv_bipush (v := (-3)) hx hb dL_law_138 (by decide) ?_
            refine lv_icmp_ne (tgt := 153) hx hb dL_law_140 (by decide) (fun c52 => ?_) (fun c52 => ?_)
            · have h := zif_f h c52
              refine lv_iconst (v := 0) hx hb dL_law_153 (by decide) ?_
              exact absurd (Option.some.inj h) (by decide)
            · have h := zif_t h c52
              refine lv_aload_n hx hb dL_law_143 rfl (lv_at hl 5 rfl) ?_
              obtain ⟨q53, eq53, h⟩ := Option.bind_eq_some_iff.mp h
              refine z_callS (As := [.ref (za G t1)]) (rest := []) (rv := (some (.long q53))) (M1 := q49.2) S hw (c_L_sight l hG t1 k1 q49.2 q53 eq53) mv_L_sight lk_L_67 rfl rfl (Nat.le_of_ble_eq_true rfl) ⟨Nat.le_of_ble_eq_true rfl, Nat.le_of_ble_eq_true rfl⟩ hl.1 dL_law_144 (fun H locs hw => ?_)
              refine lv_lload hx hb dL_law_147 (lv_at hl 2 rfl) ?_
              refine W.lcmp hx hb dL_law_149 ?_
              refine lv_if_eq (tgt := 942) hx hb dL_law_150 (by decide) (fun c54 => ?_) (fun c54 => ?_)
              · have h := zif_t h c54
                obtain ⟨x55, ex55, h⟩ := zlet_ex h
                refine lv_iinc (v := x55) (lv' := [(4, .int x55), (9, .int q49.1), (8, .int q47), (6, .long q44), (5, .int q43), (0, .ref G.2.2.2.2.2.2.1), (1, .ref (za G t1))]) hx hb dL_law_942 hl (k := 6) rfl (by rw [ex55]; rfl) (by decide) rfl (fun ls hl => ?_)
                refine lv_goto (tgt := 31) hx hb dL_law_945 (by decide) ?_
                exact ih x55 q49.2 h H locs ls hw (lv_sub hl [5, 6, 0] rfl)
              · have h := zif_f h c54
                refine lv_iconst (v := 0) hx hb dL_law_153 (by decide) ?_
                exact absurd (Option.some.inj h) (by decide)
        have h := zif_f h c46
        rcases Decidable.em (x45 = 1) with c56 | c56
        · have h := zif_t h c56
          refine z_tab S (off := 91) c56 (by decide) (by decide) dL_law_64 (by decide +kernel) (tgt := 155) (by decide) ?_
          refine lv_aload_n hx hb dL_law_155 rfl (lv_at hl 3 rfl) ?_
          refine lv_iconst (v := 2) hx hb dL_law_156 (by decide) ?_
          obtain ⟨q57, eq57, h⟩ := Option.bind_eq_some_iff.mp h
          refine z_callV (ci := 11) (As := [.int 2]) (rest := []) (rv := (some (.int q57))) (M1 := M) S hw (c_X11_count l hG t1 2 k1 M q57 eq57) mv_X11_count lk_L_55 k1 ⟨_, _, rfl⟩ (by decide) rfl rfl (Nat.le_of_ble_eq_true rfl) ⟨Nat.le_of_ble_eq_true rfl, Nat.le_of_ble_eq_true rfl⟩ hl.1 dL_law_157 (fun H locs hw => ?_)
          refine lv_istore (lv' := [(8, .int q57), (6, .long q44), (5, .int q43), (0, .ref G.2.2.2.2.2.2.1), (1, .ref (za G t1)), (4, .int v4)]) hx hb dL_law_160 hl (by decide) rfl (fun ls hl => ?_)
          refine lv_aload_n hx hb dL_law_162 rfl (lv_at hl 4 rfl) ?_
          refine lv_iload hx hb dL_law_163 (lv_at hl 2 rfl) ?_
          refine lv_iconst (v := 3) hx hb dL_law_165 (by decide) ?_
          refine lv_ishr hx hb dL_law_166 ?_
          refine lv_bipush (v := 31) hx hb dL_law_167 (by decide) ?_
          refine lv_iand hx hb dL_law_169 ?_
          refine lv_iload hx hb dL_law_170 (lv_at hl 2 rfl) ?_
          refine lv_bipush (v := 8) hx hb dL_law_172 (by decide) ?_
          refine lv_ishr hx hb dL_law_174 ?_
          refine lv_bipush (v := 63) hx hb dL_law_175 (by decide) ?_
          refine lv_iand hx hb dL_law_177 ?_
          refine lv_bipush (v := 30) hx hb dL_law_178 (by decide) ?_
          refine lv_isub hx hb dL_law_180 ?_
          obtain ⟨q58, eq58, h⟩ := zlet_ex h
          refine z_callV (ci := 11) (As := [.int ((q43 >>> ((3 : Int32) &&& 31)) &&& 31), .int (((q43 >>> ((8 : Int32) &&& 31)) &&& 63) - 30)]) (rest := []) (rv := (some (.int q58.1))) (M1 := q58.2) S hw (c_X11_aim l hG t1 ((q43 >>> ((3 : Int32) &&& 31)) &&& 31) (((q43 >>> ((8 : Int32) &&& 31)) &&& 63) - 30) k1 M q58 eq58.symm) mv_X11_aim lk_L_74 k1 ⟨_, _, rfl⟩ (by decide) rfl rfl (Nat.le_of_ble_eq_true rfl) ⟨Nat.le_of_ble_eq_true rfl, Nat.le_of_ble_eq_true rfl⟩ hl.1 dL_law_181 (fun H locs hw => ?_)
          refine lv_iload hx hb dL_law_184 (lv_at hl 0 rfl) ?_
          refine lv_bipush (v := 8) hx hb dL_law_186 (by decide) ?_
          refine lv_icmp_ge (tgt := 198) hx hb dL_law_188 (by decide) (fun c59 => ?_) (fun c59 => ?_)
          · have h := zif_t h c59
            refine lv_bipush (v := (-6)) hx hb dL_law_198 (by decide) ?_
            refine lv_icmp_eq (tgt := 942) hx hb dL_law_200 (by decide) (fun c60 => ?_) (fun c60 => ?_)
            · have h := zif_t h c60
              obtain ⟨x61, ex61, h⟩ := zlet_ex h
              refine lv_iinc (v := x61) (lv' := [(4, .int x61), (8, .int q57), (6, .long q44), (5, .int q43), (0, .ref G.2.2.2.2.2.2.1), (1, .ref (za G t1))]) hx hb dL_law_942 hl (k := 5) rfl (by rw [ex61]; rfl) (by decide) rfl (fun ls hl => ?_)
              refine lv_goto (tgt := 31) hx hb dL_law_945 (by decide) ?_
              exact ih x61 q58.2 h H locs ls hw (lv_sub hl [4, 5, 0] rfl)
            · have h := zif_f h c60
              refine lv_iconst (v := 0) hx hb dL_law_203 (by decide) ?_
              exact absurd (Option.some.inj h) (by decide)
          · have h := zif_f h c59
            refine lv_iload hx hb dL_law_191 (lv_at hl 0 rfl) ?_
            refine lv_iconst (v := 1) hx hb dL_law_193 (by decide) ?_
            refine lv_iadd hx hb dL_law_194 ?_
            refine lv_goto (tgt := 200) hx hb dL_law_195 (by decide) ?_
            refine lv_icmp_eq (tgt := 942) hx hb dL_law_200 (by decide) (fun c62 => ?_) (fun c62 => ?_)
            · have h := zif_t h c62
              obtain ⟨x63, ex63, h⟩ := zlet_ex h
              refine lv_iinc (v := x63) (lv' := [(4, .int x63), (8, .int q57), (6, .long q44), (5, .int q43), (0, .ref G.2.2.2.2.2.2.1), (1, .ref (za G t1))]) hx hb dL_law_942 hl (k := 5) rfl (by rw [ex63]; rfl) (by decide) rfl (fun ls hl => ?_)
              refine lv_goto (tgt := 31) hx hb dL_law_945 (by decide) ?_
              exact ih x63 q58.2 h H locs ls hw (lv_sub hl [4, 5, 0] rfl)
            · have h := zif_f h c62
              refine lv_iconst (v := 0) hx hb dL_law_203 (by decide) ?_
              exact absurd (Option.some.inj h) (by decide)
        have h := zif_f h c56
        rcases Decidable.em (x45 = 2) with c64 | c64
        · have h := zif_t h c64
          refine z_tab S (off := 141) c64 (by decide) (by decide) dL_law_64 (by decide +kernel) (tgt := 205) (by decide) ?_
          refine lv_aload_n hx hb dL_law_205 rfl (lv_at hl 3 rfl) ?_
          obtain ⟨q65, eq65, h⟩ := zlet_ex h
          refine z_callV (ci := 11) (As := []) (rest := []) (rv := (some (.long q65))) (M1 := M) S hw (c_X11_readings l hG t1 k1 M q65 eq65.symm) mv_X11_readings lk_L_58 k1 ⟨_, _, rfl⟩ (by decide) rfl rfl (Nat.le_of_ble_eq_true rfl) ⟨Nat.le_of_ble_eq_true rfl, Nat.le_of_ble_eq_true rfl⟩ hl.1 dL_law_206 (fun H locs hw => ?_)
          refine lv_lstore (lv' := [(8, .long q65), (6, .long q44), (5, .int q43), (0, .ref G.2.2.2.2.2.2.1), (1, .ref (za G t1)), (4, .int v4)]) hx hb dL_law_209 hl (by decide) rfl (fun ls hl => ?_)
          refine lv_aload_n hx hb dL_law_211 rfl (lv_at hl 4 rfl) ?_
          refine lv_iconst (v := 0) hx hb dL_law_212 (by decide) ?_
          obtain ⟨q66, eq66, h⟩ := Option.bind_eq_some_iff.mp h
          refine z_callV (ci := 11) (As := [.int 0]) (rest := []) (rv := (some (.int q66))) (M1 := M) S hw (c_X11_count l hG t1 0 k1 M q66 eq66) mv_X11_count lk_L_55 k1 ⟨_, _, rfl⟩ (by decide) rfl rfl (Nat.le_of_ble_eq_true rfl) ⟨Nat.le_of_ble_eq_true rfl, Nat.le_of_ble_eq_true rfl⟩ hl.1 dL_law_213 (fun H locs hw => ?_)
          refine lv_istore (lv' := [(10, .int q66), (8, .long q65), (6, .long q44), (5, .int q43), (0, .ref G.2.2.2.2.2.2.1), (1, .ref (za G t1)), (4, .int v4)]) hx hb dL_law_216 hl (by decide) rfl (fun ls hl => ?_)
          refine lv_iload hx hb dL_law_218 (lv_at hl 3 rfl) ?_
          refine lv_iconst (v := 3) hx hb dL_law_220 (by decide) ?_
          refine lv_ishr hx hb dL_law_221 ?_
          refine lv_bipush (v := 31) hx hb dL_law_222 (by decide) ?_
          refine lv_iand hx hb dL_law_224 ?_
          refine lv_iload hx hb dL_law_225 (lv_at hl 0 rfl) ?_
          obtain ⟨g67, h⟩ := zck_ex h
          refine lv_irem hx hb dL_law_227 (znzI_of g67) ?_
          obtain ⟨x68, ex68, h⟩ := zlet_ex h
          refine lv_topiE ex68 ?_
          refine lv_istore (lv' := [(11, .int x68), (10, .int q66), (8, .long q65), (6, .long q44), (5, .int q43), (0, .ref G.2.2.2.2.2.2.1), (1, .ref (za G t1)), (4, .int v4)]) hx hb dL_law_228 hl (by decide) rfl (fun ls hl => ?_)
          refine lv_iload hx hb dL_law_230 (lv_at hl 4 rfl) ?_
          refine lv_bipush (v := 8) hx hb dL_law_232 (by decide) ?_
          refine lv_ishr hx hb dL_law_234 ?_
          refine lv_bipush (v := 31) hx hb dL_law_235 (by decide) ?_
          refine lv_iand hx hb dL_law_237 ?_
          refine lv_iload hx hb dL_law_238 (lv_at hl 1 rfl) ?_
          obtain ⟨g69, h⟩ := zck_ex h
          refine lv_irem hx hb dL_law_240 (znzI_of g69) ?_
          obtain ⟨x70, ex70, h⟩ := zlet_ex h
          refine lv_topiE ex70 ?_
          refine lv_istore (lv' := [(12, .int x70), (11, .int x68), (10, .int q66), (8, .long q65), (6, .long q44), (5, .int q43), (0, .ref G.2.2.2.2.2.2.1), (1, .ref (za G t1)), (4, .int v4)]) hx hb dL_law_241 hl (by decide) rfl (fun ls hl => ?_)
          refine lv_iconst (v := 0) hx hb dL_law_243 (by decide) ?_
          refine lv_istore (lv' := [(13, .int 0), (12, .int x70), (11, .int x68), (10, .int q66), (8, .long q65), (6, .long q44), (5, .int q43), (0, .ref G.2.2.2.2.2.2.1), (1, .ref (za G t1)), (4, .int v4)]) hx hb dL_law_244 hl (by decide) rfl (fun ls hl => ?_)
          refine lv_iconst (v := 0) hx hb dL_law_246 (by decide) ?_
          refine lv_istore (lv' := [(14, .int 0), (13, .int 0), (12, .int x70), (11, .int x68), (10, .int q66), (8, .long q65), (6, .long q44), (5, .int q43), (0, .ref G.2.2.2.2.2.2.1), (1, .ref (za G t1)), (4, .int v4)]) hx hb dL_law_247 hl (by decide) rfl (fun ls hl => ?_)
          refine lv_iload hx hb dL_law_249 (lv_at hl 3 rfl) ?_
          refine lv_iload hx hb dL_law_251 (lv_at hl 2 rfl) ?_
          refine lv_icmp_gt (tgt := 260) hx hb dL_law_253 (by decide) (fun c71 => ?_) (fun c71 => ?_)
          · have h := zif_t h c71
            refine lv_iconst (v := 0) hx hb dL_law_260 (by decide) ?_
            exact wJ261 v4 q44 q65 q66 x68 x70 0 0 0 M h H locs ls hw (lv_sub hl [8, 9, 10, 6, 5, 4, 3, 2, 1, 0] rfl)
          · have h := zif_f h c71
            refine lv_iconst (v := 1) hx hb dL_law_256 (by decide) ?_
            refine lv_goto (tgt := 261) hx hb dL_law_257 (by decide) ?_
            exact wJ261 v4 q44 q65 q66 x68 x70 0 0 1 M h H locs ls hw (lv_sub hl [8, 9, 10, 6, 5, 4, 3, 2, 1, 0] rfl)
        have h := zif_f h c64
        rcases Decidable.em (x45 = 3) with c72 | c72
        · have h := zif_t h c72
          refine z_tab S (off := 457) c72 (by decide) (by decide) dL_law_64 (by decide +kernel) (tgt := 521) (by decide) ?_
          refine lv_aload_n hx hb dL_law_521 rfl (lv_at hl 3 rfl) ?_
          obtain ⟨q73, eq73, h⟩ := Option.bind_eq_some_iff.mp h
          refine z_callV (ci := 11) (As := []) (rest := []) (rv := (some (.int q73.1))) (M1 := q73.2) S hw (c_X11_image l hG t1 k1 M q73 eq73) mv_X11_image lk_L_81 k1 ⟨_, _, rfl⟩ (by decide) rfl rfl (Nat.le_of_ble_eq_true rfl) ⟨Nat.le_of_ble_eq_true rfl, Nat.le_of_ble_eq_true rfl⟩ hl.1 dL_law_522 (fun H locs hw => ?_)
          refine lv_istore (lv' := [(8, .int q73.1), (6, .long q44), (5, .int q43), (0, .ref G.2.2.2.2.2.2.1), (1, .ref (za G t1)), (4, .int v4)]) hx hb dL_law_525 hl (by decide) rfl (fun ls hl => ?_)
          refine lv_aload_n hx hb dL_law_527 rfl (lv_at hl 4 rfl) ?_
          refine lv_bipush (v := 98) hx hb dL_law_528 (by decide) ?_
          obtain ⟨q74, eq74, h⟩ := Option.bind_eq_some_iff.mp h
          refine z_callS (As := [.ref (za G t1), .int 98]) (rest := []) (rv := (some (.int q74.1))) (M1 := q74.2) S hw (c_L_say l hG t1 98 k1 q73.2 q74 eq74) mv_L_say lk_L_25 rfl rfl (Nat.le_of_ble_eq_true rfl) ⟨Nat.le_of_ble_eq_true rfl, Nat.le_of_ble_eq_true rfl⟩ hl.1 dL_law_530 (fun H locs hw => ?_)
          refine lv_istore (lv' := [(9, .int q74.1), (8, .int q73.1), (6, .long q44), (5, .int q43), (0, .ref G.2.2.2.2.2.2.1), (1, .ref (za G t1)), (4, .int v4)]) hx hb dL_law_533 hl (by decide) rfl (fun ls hl => ?_)
          refine lv_aload_n hx hb dL_law_535 rfl (lv_at hl 5 rfl) ?_
          obtain ⟨q75, eq75, h⟩ := Option.bind_eq_some_iff.mp h
          refine z_callV (ci := 11) (As := []) (rest := []) (rv := (some (.int q75.1))) (M1 := q75.2) S hw (c_X11_read l hG t1 k1 q74.2 q75 eq75) mv_X11_read lk_L_29 k1 ⟨_, _, rfl⟩ (by decide) rfl rfl (Nat.le_of_ble_eq_true rfl) ⟨Nat.le_of_ble_eq_true rfl, Nat.le_of_ble_eq_true rfl⟩ hl.1 dL_law_536 (fun H locs hw => ?_)
          refine lv_aload_n hx hb dL_law_539 rfl (lv_at hl 5 rfl) ?_
          refine lv_iconst (v := 0) hx hb dL_law_540 (by decide) ?_
          obtain ⟨q76, eq76, h⟩ := Option.bind_eq_some_iff.mp h
          refine z_callV (ci := 11) (As := [.int 0]) (rest := [.int q75.1]) (rv := (some (.int q76.1))) (M1 := q76.2) S hw (c_X11_choose l hG t1 0 k1 q75.2 q76 eq76) mv_X11_choose lk_L_71 k1 ⟨_, _, rfl⟩ (by decide) rfl rfl (Nat.le_of_ble_eq_true rfl) ⟨Nat.le_of_ble_eq_true rfl, Nat.le_of_ble_eq_true rfl⟩ hl.1 dL_law_541 (fun H locs hw => ?_)
          refine lv_iadd hx hb dL_law_544 ?_
          refine lv_aload_n hx hb dL_law_545 rfl (lv_at hl 5 rfl) ?_
          refine lv_iconst (v := 5) hx hb dL_law_546 (by decide) ?_
          obtain ⟨q77, eq77, h⟩ := Option.bind_eq_some_iff.mp h
          refine z_callV (ci := 11) (As := [.int 5]) (rest := [.int (q75.1 + q76.1)]) (rv := (some (.int q77.1))) (M1 := q77.2) S hw (c_X11_choose l hG t1 5 k1 q76.2 q77 eq77) mv_X11_choose lk_L_71 k1 ⟨_, _, rfl⟩ (by decide) rfl rfl (Nat.le_of_ble_eq_true rfl) ⟨Nat.le_of_ble_eq_true rfl, Nat.le_of_ble_eq_true rfl⟩ hl.1 dL_law_547 (fun H locs hw => ?_)
          refine lv_iadd hx hb dL_law_550 ?_
          refine lv_aload_n hx hb dL_law_551 rfl (lv_at hl 5 rfl) ?_
          refine lv_iconst (v := 1) hx hb dL_law_552 (by decide) ?_
          refine lv_iconst (v := 1) hx hb dL_law_553 (by decide) ?_
          obtain ⟨q78, eq78, h⟩ := zlet_ex h
          refine z_callV (ci := 11) (As := [.int 1, .int 1]) (rest := [.int ((q75.1 + q76.1) + q77.1)]) (rv := (some (.int q78.1))) (M1 := q78.2) S hw (c_X11_aim l hG t1 1 1 k1 q77.2 q78 eq78.symm) mv_X11_aim lk_L_74 k1 ⟨_, _, rfl⟩ (by decide) rfl rfl (Nat.le_of_ble_eq_true rfl) ⟨Nat.le_of_ble_eq_true rfl, Nat.le_of_ble_eq_true rfl⟩ hl.1 dL_law_554 (fun H locs hw => ?_)
          refine lv_iadd hx hb dL_law_557 ?_
          obtain ⟨x79, ex79, h⟩ := zlet_ex h
          refine lv_topiE ex79 ?_
          refine lv_istore (lv' := [(9, .int x79), (8, .int q73.1), (6, .long q44), (5, .int q43), (0, .ref G.2.2.2.2.2.2.1), (1, .ref (za G t1)), (4, .int v4)]) hx hb dL_law_558 hl (by decide) rfl (fun ls hl => ?_)
          refine lv_aload_n hx hb dL_law_560 rfl (lv_at hl 5 rfl) ?_
          obtain ⟨q80, eq80, h⟩ := Option.bind_eq_some_iff.mp h
          refine z_callV (ci := 11) (As := []) (rest := []) (rv := (some (.int q80.1))) (M1 := q80.2) S hw (c_X11_on l hG t1 k1 q78.2 q80 eq80) mv_X11_on lk_L_84 k1 ⟨_, _, rfl⟩ (by decide) rfl rfl (Nat.le_of_ble_eq_true rfl) ⟨Nat.le_of_ble_eq_true rfl, Nat.le_of_ble_eq_true rfl⟩ hl.1 dL_law_561 (fun H locs hw => ?_)
          refine lv_iload hx hb dL_law_564 (lv_at hl 1 rfl) ?_
          refine lv_icmp_ne (tgt := 579) hx hb dL_law_566 (by decide) (fun c81 => ?_) (fun c81 => ?_)
          · have h := zif_f h c81
            refine lv_iconst (v := 0) hx hb dL_law_579 (by decide) ?_
            exact absurd (Option.some.inj h) (by decide)
          · have h := zif_t h c81
            refine lv_aload_n hx hb dL_law_569 rfl (lv_at hl 5 rfl) ?_
            obtain ⟨q82, eq82, h⟩ := Option.bind_eq_some_iff.mp h
            refine z_callS (As := [.ref (za G t1)]) (rest := []) (rv := (some (.long q82))) (M1 := q80.2) S hw (c_L_sight l hG t1 k1 q80.2 q82 eq82) mv_L_sight lk_L_67 rfl rfl (Nat.le_of_ble_eq_true rfl) ⟨Nat.le_of_ble_eq_true rfl, Nat.le_of_ble_eq_true rfl⟩ hl.1 dL_law_570 (fun H locs hw => ?_)
            refine lv_lload hx hb dL_law_573 (lv_at hl 2 rfl) ?_
            refine W.lcmp hx hb dL_law_575 ?_
            refine lv_if_eq (tgt := 942) hx hb dL_law_576 (by decide) (fun c83 => ?_) (fun c83 => ?_)
            · have h := zif_t h c83
              obtain ⟨x84, ex84, h⟩ := zlet_ex h
              refine lv_iinc (v := x84) (lv' := [(4, .int x84), (9, .int x79), (8, .int q73.1), (6, .long q44), (5, .int q43), (0, .ref G.2.2.2.2.2.2.1), (1, .ref (za G t1))]) hx hb dL_law_942 hl (k := 6) rfl (by rw [ex84]; rfl) (by decide) rfl (fun ls hl => ?_)
              refine lv_goto (tgt := 31) hx hb dL_law_945 (by decide) ?_
              exact ih x84 q80.2 h H locs ls hw (lv_sub hl [5, 6, 0] rfl)
            · have h := zif_f h c83
              refine lv_iconst (v := 0) hx hb dL_law_579 (by decide) ?_
              exact absurd (Option.some.inj h) (by decide)
        have h := zif_f h c72
        rcases Decidable.em (x45 = 4) with c85 | c85
        · have h := zif_t h c85
          refine z_tab S (off := 517) c85 (by decide) (by decide) dL_law_64 (by decide +kernel) (tgt := 581) (by decide) ?_
          refine lv_aload_n hx hb dL_law_581 rfl (lv_at hl 3 rfl) ?_
          refine lv_bipush (v := 6) hx hb dL_law_582 (by decide) ?_
          obtain ⟨q86, eq86, h⟩ := Option.bind_eq_some_iff.mp h
          refine z_callV (ci := 11) (As := [.int 6]) (rest := []) (rv := (some (.int q86.1))) (M1 := q86.2) S hw (c_X11_choose l hG t1 6 k1 M q86 eq86) mv_X11_choose lk_L_71 k1 ⟨_, _, rfl⟩ (by decide) rfl rfl (Nat.le_of_ble_eq_true rfl) ⟨Nat.le_of_ble_eq_true rfl, Nat.le_of_ble_eq_true rfl⟩ hl.1 dL_law_584 (fun H locs hw => ?_)
          refine lv_aload_n hx hb dL_law_587 rfl (lv_at hl 3 rfl) ?_
          refine lv_bipush (v := 32) hx hb dL_law_588 (by decide) ?_
          refine lv_iconst (v := 0) hx hb dL_law_590 (by decide) ?_
          obtain ⟨q87, eq87, h⟩ := zlet_ex h
          refine z_callV (ci := 11) (As := [.int 32, .int 0]) (rest := [.int q86.1]) (rv := (some (.int q87.1))) (M1 := q87.2) S hw (c_X11_aim l hG t1 32 0 k1 q86.2 q87 eq87.symm) mv_X11_aim lk_L_74 k1 ⟨_, _, rfl⟩ (by decide) rfl rfl (Nat.le_of_ble_eq_true rfl) ⟨Nat.le_of_ble_eq_true rfl, Nat.le_of_ble_eq_true rfl⟩ hl.1 dL_law_591 (fun H locs hw => ?_)
          refine lv_iadd hx hb dL_law_594 ?_
          refine lv_aload_n hx hb dL_law_595 rfl (lv_at hl 3 rfl) ?_
          refine lv_iconst (v := (-1)) hx hb dL_law_596 (by decide) ?_
          refine lv_iconst (v := 0) hx hb dL_law_597 (by decide) ?_
          obtain ⟨q88, eq88, h⟩ := Option.bind_eq_some_iff.mp h
          refine z_callV (ci := 11) (As := [.int (-1), .int 0]) (rest := [.int (q86.1 + q87.1)]) (rv := (some (.int q88.1))) (M1 := q88.2) S hw (c_X11_bracket l hG t1 (-1) 0 k1 q87.2 q88 eq88) mv_X11_bracket lk_L_78 k1 ⟨_, _, rfl⟩ (by decide) rfl rfl (Nat.le_of_ble_eq_true rfl) ⟨Nat.le_of_ble_eq_true rfl, Nat.le_of_ble_eq_true rfl⟩ hl.1 dL_law_598 (fun H locs hw => ?_)
          refine lv_iadd hx hb dL_law_601 ?_
          refine lv_aload_n hx hb dL_law_602 rfl (lv_at hl 3 rfl) ?_
          refine lv_iconst (v := 1) hx hb dL_law_603 (by decide) ?_
          refine lv_iconst (v := 0) hx hb dL_law_604 (by decide) ?_
          obtain ⟨q89, eq89, h⟩ := Option.bind_eq_some_iff.mp h
          refine z_callV (ci := 11) (As := [.int 1, .int 0]) (rest := [.int ((q86.1 + q87.1) + q88.1)]) (rv := (some (.int q89.1))) (M1 := q89.2) S hw (c_X11_bracket l hG t1 1 0 k1 q88.2 q89 eq89) mv_X11_bracket lk_L_78 k1 ⟨_, _, rfl⟩ (by decide) rfl rfl (Nat.le_of_ble_eq_true rfl) ⟨Nat.le_of_ble_eq_true rfl, Nat.le_of_ble_eq_true rfl⟩ hl.1 dL_law_605 (fun H locs hw => ?_)
          refine lv_iadd hx hb dL_law_608 ?_
          refine lv_aload_n hx hb dL_law_609 rfl (lv_at hl 3 rfl) ?_
          refine lv_iconst (v := 0) hx hb dL_law_610 (by decide) ?_
          refine lv_lconst (v := 0) hx hb dL_law_611 (by decide) ?_
          obtain ⟨q90, eq90, h⟩ := Option.bind_eq_some_iff.mp h
          refine z_callV (ci := 11) (As := [.int 0, .long 0]) (rest := [.int (((q86.1 + q87.1) + q88.1) + q89.1)]) (rv := (some (.int q90.1))) (M1 := q90.2) S hw (c_X11_feed l hG t1 0 0 k1 q89.2 q90 eq90) mv_X11_feed lk_L_9 k1 ⟨_, _, rfl⟩ (by decide) rfl rfl (Nat.le_of_ble_eq_true rfl) ⟨Nat.le_of_ble_eq_true rfl, Nat.le_of_ble_eq_true rfl⟩ hl.1 dL_law_612 (fun H locs hw => ?_)
          refine lv_iadd hx hb dL_law_615 ?_
          obtain ⟨x91, ex91, h⟩ := zlet_ex h
          refine lv_topiE ex91 ?_
          refine lv_istore (lv' := [(8, .int x91), (6, .long q44), (5, .int q43), (0, .ref G.2.2.2.2.2.2.1), (1, .ref (za G t1)), (4, .int v4)]) hx hb dL_law_616 hl (by decide) rfl (fun ls hl => ?_)
          refine lv_aload_n hx hb dL_law_618 rfl (lv_at hl 4 rfl) ?_
          obtain ⟨q92, eq92, h⟩ := Option.bind_eq_some_iff.mp h
          refine z_callV (ci := 11) (As := []) (rest := []) (rv := (some (.int q92.1))) (M1 := q92.2) S hw (c_X11_test l hG t1 k1 q90.2 q92 eq92) mv_X11_test lk_L_87 k1 ⟨_, _, rfl⟩ (by decide) rfl rfl (Nat.le_of_ble_eq_true rfl) ⟨Nat.le_of_ble_eq_true rfl, Nat.le_of_ble_eq_true rfl⟩ hl.1 dL_law_619 (fun H locs hw => ?_)
          refine lv_aload_n hx hb dL_law_622 rfl (lv_at hl 4 rfl) ?_
          obtain ⟨q93, eq93, h⟩ := Option.bind_eq_some_iff.mp h
          refine z_callV (ci := 11) (As := []) (rest := [.int q92.1]) (rv := (some (.int q93.1))) (M1 := q93.2) S hw (c_X11_best l hG t1 k1 q92.2 q93 eq93) mv_X11_best lk_L_90 k1 ⟨_, _, rfl⟩ (by decide) rfl rfl (Nat.le_of_ble_eq_true rfl) ⟨Nat.le_of_ble_eq_true rfl, Nat.le_of_ble_eq_true rfl⟩ hl.1 dL_law_623 (fun H locs hw => ?_)
          refine lv_iadd hx hb dL_law_626 ?_
          refine lv_aload_n hx hb dL_law_627 rfl (lv_at hl 4 rfl) ?_
          obtain ⟨q94, eq94, h⟩ := Option.bind_eq_some_iff.mp h
          refine z_callV (ci := 11) (As := []) (rest := [.int (q92.1 + q93.1)]) (rv := (some (.int q94.1))) (M1 := q94.2) S hw (c_X11_hangs l hG t1 k1 q93.2 q94 eq94) mv_X11_hangs lk_L_93 k1 ⟨_, _, rfl⟩ (by decide) rfl rfl (Nat.le_of_ble_eq_true rfl) ⟨Nat.le_of_ble_eq_true rfl, Nat.le_of_ble_eq_true rfl⟩ hl.1 dL_law_628 (fun H locs hw => ?_)
          refine lv_iadd hx hb dL_law_631 ?_
          refine lv_aload_n hx hb dL_law_632 rfl (lv_at hl 4 rfl) ?_
          obtain ⟨q95, eq95, h⟩ := Option.bind_eq_some_iff.mp h
          refine z_callV (ci := 11) (As := []) (rest := [.int ((q92.1 + q93.1) + q94.1)]) (rv := (some (.int q95.1))) (M1 := q95.2) S hw (c_X11_fewest l hG t1 k1 q94.2 q95 eq95) mv_X11_fewest lk_L_96 k1 ⟨_, _, rfl⟩ (by decide) rfl rfl (Nat.le_of_ble_eq_true rfl) ⟨Nat.le_of_ble_eq_true rfl, Nat.le_of_ble_eq_true rfl⟩ hl.1 dL_law_633 (fun H locs hw => ?_)
          refine lv_iadd hx hb dL_law_636 ?_
          refine lv_aload_n hx hb dL_law_637 rfl (lv_at hl 4 rfl) ?_
          obtain ⟨q96, eq96, h⟩ := Option.bind_eq_some_iff.mp h
          refine z_callV (ci := 11) (As := []) (rest := [.int (((q92.1 + q93.1) + q94.1) + q95.1)]) (rv := (some (.int q96.1))) (M1 := q96.2) S hw (c_X11_needless l hG t1 k1 q95.2 q96 eq96) mv_X11_needless lk_L_99 k1 ⟨_, _, rfl⟩ (by decide) rfl rfl (Nat.le_of_ble_eq_true rfl) ⟨Nat.le_of_ble_eq_true rfl, Nat.le_of_ble_eq_true rfl⟩ hl.1 dL_law_638 (fun H locs hw => ?_)
          refine lv_iadd hx hb dL_law_641 ?_
          obtain ⟨x97, ex97, h⟩ := zlet_ex h
          refine lv_topiE ex97 ?_
          refine lv_istore (lv' := [(9, .int x97), (8, .int x91), (6, .long q44), (5, .int q43), (0, .ref G.2.2.2.2.2.2.1), (1, .ref (za G t1)), (4, .int v4)]) hx hb dL_law_642 hl (by decide) rfl (fun ls hl => ?_)
          refine lv_iload hx hb dL_law_644 (lv_at hl 1 rfl) ?_
          refine lv_bipush (v := (-8)) hx hb dL_law_646 (by decide) ?_
          refine lv_icmp_ne (tgt := 661) hx hb dL_law_648 (by decide) (fun c98 => ?_) (fun c98 => ?_)
          · have h := zif_f h c98
            refine lv_iconst (v := 0) hx hb dL_law_661 (by decide) ?_
            exact absurd (Option.some.inj h) (by decide)
          · have h := zif_t h c98
            refine lv_aload_n hx hb dL_law_651 rfl (lv_at hl 5 rfl) ?_
            obtain ⟨q99, eq99, h⟩ := Option.bind_eq_some_iff.mp h
            refine z_callS (As := [.ref (za G t1)]) (rest := []) (rv := (some (.long q99))) (M1 := q96.2) S hw (c_L_sight l hG t1 k1 q96.2 q99 eq99) mv_L_sight lk_L_67 rfl rfl (Nat.le_of_ble_eq_true rfl) ⟨Nat.le_of_ble_eq_true rfl, Nat.le_of_ble_eq_true rfl⟩ hl.1 dL_law_652 (fun H locs hw => ?_)
            refine lv_lload hx hb dL_law_655 (lv_at hl 2 rfl) ?_
            refine W.lcmp hx hb dL_law_657 ?_
            refine lv_if_eq (tgt := 942) hx hb dL_law_658 (by decide) (fun c100 => ?_) (fun c100 => ?_)
            · have h := zif_t h c100
              obtain ⟨x101, ex101, h⟩ := zlet_ex h
              refine lv_iinc (v := x101) (lv' := [(4, .int x101), (9, .int x97), (8, .int x91), (6, .long q44), (5, .int q43), (0, .ref G.2.2.2.2.2.2.1), (1, .ref (za G t1))]) hx hb dL_law_942 hl (k := 6) rfl (by rw [ex101]; rfl) (by decide) rfl (fun ls hl => ?_)
              refine lv_goto (tgt := 31) hx hb dL_law_945 (by decide) ?_
              exact ih x101 q96.2 h H locs ls hw (lv_sub hl [5, 6, 0] rfl)
            · have h := zif_f h c100
              refine lv_iconst (v := 0) hx hb dL_law_661 (by decide) ?_
              exact absurd (Option.some.inj h) (by decide)
        have h := zif_f h c85
        rcases Decidable.em (x45 = 5) with c102 | c102
        · have h := zif_t h c102
          refine z_tab S (off := 599) c102 (by decide) (by decide) dL_law_64 (by decide +kernel) (tgt := 663) (by decide) ?_
          refine lv_iload hx hb dL_law_663 (lv_at hl 1 rfl) ?_
          refine lv_iconst (v := 3) hx hb dL_law_665 (by decide) ?_
          refine lv_ishr hx hb dL_law_666 ?_
          refine lv_iconst (v := 1) hx hb dL_law_667 (by decide) ?_
          refine lv_iand hx hb dL_law_668 ?_
          refine lv_iconst (v := 1) hx hb dL_law_669 (by decide) ?_
          refine lv_icmp_ne (tgt := 680) hx hb dL_law_670 (by decide) (fun c103 => ?_) (fun c103 => ?_)
          · have h := zif_f h c103
            refine lv_iconst (v := 0) hx hb dL_law_680 (by decide) ?_
            refine lv_istore (lv' := [(8, .int 0), (6, .long q44), (5, .int q43), (0, .ref G.2.2.2.2.2.2.1), (1, .ref (za G t1)), (4, .int v4)]) hx hb dL_law_681 hl (by decide) rfl (fun ls hl => ?_)
            refine lv_goto (tgt := 942) hx hb dL_law_683 (by decide) ?_
            obtain ⟨x104, ex104, h⟩ := zlet_ex h
            refine lv_iinc (v := x104) (lv' := [(4, .int x104), (8, .int 0), (6, .long q44), (5, .int q43), (0, .ref G.2.2.2.2.2.2.1), (1, .ref (za G t1))]) hx hb dL_law_942 hl (k := 5) rfl (by rw [ex104]; rfl) (by decide) rfl (fun ls hl => ?_)
            refine lv_goto (tgt := 31) hx hb dL_law_945 (by decide) ?_
            exact ih x104 M h H locs ls hw (lv_sub hl [4, 5, 0] rfl)
          · have h := zif_t h c103
            refine lv_aload_n hx hb dL_law_673 rfl (lv_at hl 3 rfl) ?_
            obtain ⟨q105, eq105, h⟩ := zlet_ex h
            refine z_callV (ci := 11) (As := []) (rest := []) (rv := (some (.int q105.1))) (M1 := q105.2) S hw (c_X11_unchoose l hG t1 k1 M q105 eq105.symm) mv_X11_unchoose lk_L_102 k1 ⟨_, _, rfl⟩ (by decide) rfl rfl (Nat.le_of_ble_eq_true rfl) ⟨Nat.le_of_ble_eq_true rfl, Nat.le_of_ble_eq_true rfl⟩ hl.1 dL_law_674 (fun H locs hw => ?_)
            refine lv_goto (tgt := 681) hx hb dL_law_677 (by decide) ?_
            refine lv_istore (lv' := [(8, .int q105.1), (6, .long q44), (5, .int q43), (0, .ref G.2.2.2.2.2.2.1), (1, .ref (za G t1)), (4, .int v4)]) hx hb dL_law_681 hl (by decide) rfl (fun ls hl => ?_)
            refine lv_goto (tgt := 942) hx hb dL_law_683 (by decide) ?_
            obtain ⟨x106, ex106, h⟩ := zlet_ex h
            refine lv_iinc (v := x106) (lv' := [(4, .int x106), (8, .int q105.1), (6, .long q44), (5, .int q43), (0, .ref G.2.2.2.2.2.2.1), (1, .ref (za G t1))]) hx hb dL_law_942 hl (k := 5) rfl (by rw [ex106]; rfl) (by decide) rfl (fun ls hl => ?_)
            refine lv_goto (tgt := 31) hx hb dL_law_945 (by decide) ?_
            exact ih x106 q105.2 h H locs ls hw (lv_sub hl [4, 5, 0] rfl)
        have h := zif_f h c102
        have nc46 := zne c46 (z := 0) (by decide)
        have nc56 := zne c56 (z := 1) (by decide)
        have nc64 := zne c64 (z := 2) (by decide)
        have nc72 := zne c72 (z := 3) (by decide)
        have nc85 := zne c85 (z := 4) (by decide)
        have nc102 := zne c102 (z := 5) (by decide)
        refine z_tabD S (by omega) dL_law_64 (tgt := 686) (by decide) ?_
        refine lv_aload_n hx hb dL_law_686 rfl (lv_at hl 3 rfl) ?_
        obtain ⟨q107, eq107, h⟩ := zlet_ex h
        refine z_callV (ci := 11) (As := []) (rest := []) (rv := (some (.long q107))) (M1 := M) S hw (c_X11_readings l hG t1 k1 M q107 eq107.symm) mv_X11_readings lk_L_58 k1 ⟨_, _, rfl⟩ (by decide) rfl rfl (Nat.le_of_ble_eq_true rfl) ⟨Nat.le_of_ble_eq_true rfl, Nat.le_of_ble_eq_true rfl⟩ hl.1 dL_law_687 (fun H locs hw => ?_)
        refine lv_ldc2 (v := 200) hx hb hown (hts _ kc_L_105) dL_law_690 ?_
        refine W.lcmp hx hb dL_law_693 ?_
        refine lv_if_le (tgt := 720) hx hb dL_law_694 (by decide) (fun c108 => ?_) (fun c108 => ?_)
        · have h := zif_t h c108
          refine lv_aload_n hx hb dL_law_720 rfl (lv_at hl 3 rfl) ?_
          obtain ⟨q109, eq109, h⟩ := zlet_ex h
          refine z_callV (ci := 11) (As := []) (rest := []) (rv := (some (.long q109))) (M1 := M) S hw (c_X11_readings l hG t1 k1 M q109 eq109.symm) mv_X11_readings lk_L_58 k1 ⟨_, _, rfl⟩ (by decide) rfl rfl (Nat.le_of_ble_eq_true rfl) ⟨Nat.le_of_ble_eq_true rfl, Nat.le_of_ble_eq_true rfl⟩ hl.1 dL_law_721 (fun H locs hw => ?_)
          refine lv_l2i (v := (q109.toInt32)) hx hb dL_law_724 rfl ?_
          obtain ⟨x110, ex110, h⟩ := zlet_ex h
          refine lv_topiE ex110 ?_
          refine lv_istore (lv' := [(8, .int x110), (6, .long q44), (5, .int q43), (0, .ref G.2.2.2.2.2.2.1), (1, .ref (za G t1)), (4, .int v4)]) hx hb dL_law_725 hl (by decide) rfl (fun ls hl => ?_)
          refine lv_aload_n hx hb dL_law_727 rfl (lv_at hl 4 rfl) ?_
          refine lv_iconst (v := (-1)) hx hb dL_law_728 (by decide) ?_
          obtain ⟨q111, eq111, h⟩ := Option.bind_eq_some_iff.mp h
          refine z_callV (ci := 11) (As := [.int (-1)]) (rest := []) (rv := (some (.int q111.1))) (M1 := q111.2) S hw (c_X11_leftOver l hG t1 (-1) k1 M q111 eq111) mv_X11_leftOver lk_L_116 k1 ⟨_, _, rfl⟩ (by decide) rfl rfl (Nat.le_of_ble_eq_true rfl) ⟨Nat.le_of_ble_eq_true rfl, Nat.le_of_ble_eq_true rfl⟩ hl.1 dL_law_729 (fun H locs hw => ?_)
          refine lv_istore (lv' := [(9, .int q111.1), (8, .int x110), (6, .long q44), (5, .int q43), (0, .ref G.2.2.2.2.2.2.1), (1, .ref (za G t1)), (4, .int v4)]) hx hb dL_law_732 hl (by decide) rfl (fun ls hl => ?_)
          refine lv_iload hx hb dL_law_734 (lv_at hl 3 rfl) ?_
          refine lv_iconst (v := 3) hx hb dL_law_736 (by decide) ?_
          refine lv_ishr hx hb dL_law_737 ?_
          refine lv_sipush (v := 255) hx hb dL_law_738 (by decide) ?_
          refine lv_iand hx hb dL_law_741 ?_
          refine lv_iload hx hb dL_law_742 (lv_at hl 1 rfl) ?_
          obtain ⟨g112, h⟩ := zck_ex h
          refine lv_irem hx hb dL_law_744 (znzI_of g112) ?_
          obtain ⟨x113, ex113, h⟩ := zlet_ex h
          refine lv_topiE ex113 ?_
          refine lv_istore (lv' := [(10, .int x113), (9, .int q111.1), (8, .int x110), (6, .long q44), (5, .int q43), (0, .ref G.2.2.2.2.2.2.1), (1, .ref (za G t1)), (4, .int v4)]) hx hb dL_law_745 hl (by decide) rfl (fun ls hl => ?_)
          refine lv_aload_n hx hb dL_law_747 rfl (lv_at hl 6 rfl) ?_
          refine lv_iload hx hb dL_law_748 (lv_at hl 0 rfl) ?_
          obtain ⟨q114, eq114, h⟩ := Option.bind_eq_some_iff.mp h
          refine z_callV (ci := 11) (As := [.int x113]) (rest := []) (rv := (some (.long q114.1))) (M1 := q114.2) S hw (c_X11_means l hG t1 x113 k1 q111.2 q114 eq114) mv_X11_means lk_L_110 k1 ⟨_, _, rfl⟩ (by decide) rfl rfl (Nat.le_of_ble_eq_true rfl) ⟨Nat.le_of_ble_eq_true rfl, Nat.le_of_ble_eq_true rfl⟩ hl.1 dL_law_750 (fun H locs hw => ?_)
          refine lv_lstore (lv' := [(11, .long q114.1), (10, .int x113), (9, .int q111.1), (8, .int x110), (6, .long q44), (5, .int q43), (0, .ref G.2.2.2.2.2.2.1), (1, .ref (za G t1)), (4, .int v4)]) hx hb dL_law_753 hl (by decide) rfl (fun ls hl => ?_)
          refine lv_iload hx hb dL_law_755 (lv_at hl 2 rfl) ?_
          refine lv_iconst (v := 1) hx hb dL_law_757 (by decide) ?_
          refine lv_icmp_lt (tgt := 827) hx hb dL_law_758 (by decide) (fun c115 => ?_) (fun c115 => ?_)
          · have h := zif_t h c115
            refine lv_iconst (v := 0) hx hb dL_law_827 (by decide) ?_
            exact absurd (Option.some.inj h) (by decide)
          · have h := zif_f h c115
            refine lv_iload hx hb dL_law_761 (lv_at hl 2 rfl) ?_
            refine lv_iload hx hb dL_law_763 (lv_at hl 3 rfl) ?_
            refine lv_icmp_gt (tgt := 827) hx hb dL_law_765 (by decide) (fun c116 => ?_) (fun c116 => ?_)
            · have h := zif_t h c116
              refine lv_iconst (v := 0) hx hb dL_law_827 (by decide) ?_
              exact absurd (Option.some.inj h) (by decide)
            · have h := zif_f h c116
              refine lv_aload_n hx hb dL_law_768 rfl (lv_at hl 7 rfl) ?_
              obtain ⟨q117, eq117, h⟩ := Option.bind_eq_some_iff.mp h
              refine z_callV (ci := 11) (As := []) (rest := []) (rv := (some (.int q117.1))) (M1 := q117.2) S hw (c_X11_unlike l hG t1 k1 q114.2 q117 eq117) mv_X11_unlike lk_L_107 k1 ⟨_, _, rfl⟩ (by decide) rfl rfl (Nat.le_of_ble_eq_true rfl) ⟨Nat.le_of_ble_eq_true rfl, Nat.le_of_ble_eq_true rfl⟩ hl.1 dL_law_769 (fun H locs hw => ?_)
              refine lv_iconst (v := 1) hx hb dL_law_772 (by decide) ?_
              refine lv_icmp_lt (tgt := 827) hx hb dL_law_773 (by decide) (fun c118 => ?_) (fun c118 => ?_)
              · have h := zif_t h c118
                refine lv_iconst (v := 0) hx hb dL_law_827 (by decide) ?_
                exact absurd (Option.some.inj h) (by decide)
              · have h := zif_f h c118
                refine lv_aload_n hx hb dL_law_776 rfl (lv_at hl 7 rfl) ?_
                obtain ⟨q119, eq119, h⟩ := Option.bind_eq_some_iff.mp h
                refine z_callV (ci := 11) (As := []) (rest := []) (rv := (some (.int q119.1))) (M1 := q119.2) S hw (c_X11_unlike l hG t1 k1 q117.2 q119 eq119) mv_X11_unlike lk_L_107 k1 ⟨_, _, rfl⟩ (by decide) rfl rfl (Nat.le_of_ble_eq_true rfl) ⟨Nat.le_of_ble_eq_true rfl, Nat.le_of_ble_eq_true rfl⟩ hl.1 dL_law_777 (fun H locs hw => ?_)
                refine lv_iload hx hb dL_law_780 (lv_at hl 3 rfl) ?_
                refine lv_icmp_gt (tgt := 827) hx hb dL_law_782 (by decide) (fun c120 => ?_) (fun c120 => ?_)
                · have h := zif_t h c120
                  refine lv_iconst (v := 0) hx hb dL_law_827 (by decide) ?_
                  exact absurd (Option.some.inj h) (by decide)
                · have h := zif_f h c120
                  refine lv_aload_n hx hb dL_law_785 rfl (lv_at hl 7 rfl) ?_
                  refine lv_iconst (v := 1) hx hb dL_law_786 (by decide) ?_
                  obtain ⟨q121, eq121, h⟩ := Option.bind_eq_some_iff.mp h
                  refine z_callV (ci := 11) (As := [.int 1]) (rest := []) (rv := (some (.long q121.1))) (M1 := q121.2) S hw (c_X11_all l hG t1 1 k1 q119.2 q121 eq121) mv_X11_all lk_L_119 k1 ⟨_, _, rfl⟩ (by decide) rfl rfl (Nat.le_of_ble_eq_true rfl) ⟨Nat.le_of_ble_eq_true rfl, Nat.le_of_ble_eq_true rfl⟩ hl.1 dL_law_787 (fun H locs hw => ?_)
                  refine lv_lload hx hb dL_law_790 (lv_at hl 0 rfl) ?_
                  refine lv_ldc2 (v := (-1)) hx hb hown (hts _ kc_L_43) dL_law_792 ?_
                  refine lv_lxor hx hb dL_law_795 ?_
                  refine lv_land hx hb dL_law_796 ?_
                  refine lv_lconst (v := 0) hx hb dL_law_797 (by decide) ?_
                  refine W.lcmp hx hb dL_law_798 ?_
                  refine lv_if_ne (tgt := 827) hx hb dL_law_799 (by decide) (fun c122 => ?_) (fun c122 => ?_)
                  · have h := zif_f h c122
                    refine lv_iconst (v := 0) hx hb dL_law_827 (by decide) ?_
                    exact absurd (Option.some.inj h) (by decide)
                  · have h := zif_t h c122
                    refine lv_aload_n hx hb dL_law_802 rfl (lv_at hl 7 rfl) ?_
                    refine lv_iconst (v := 0) hx hb dL_law_803 (by decide) ?_
                    obtain ⟨q123, eq123, h⟩ := Option.bind_eq_some_iff.mp h
                    refine z_callV (ci := 11) (As := [.int 0]) (rest := []) (rv := (some (.long q123.1))) (M1 := q123.2) S hw (c_X11_all l hG t1 0 k1 q121.2 q123 eq123) mv_X11_all lk_L_119 k1 ⟨_, _, rfl⟩ (by decide) rfl rfl (Nat.le_of_ble_eq_true rfl) ⟨Nat.le_of_ble_eq_true rfl, Nat.le_of_ble_eq_true rfl⟩ hl.1 dL_law_804 (fun H locs hw => ?_)
                    refine lv_lload hx hb dL_law_807 (lv_at hl 0 rfl) ?_
                    refine lv_land hx hb dL_law_809 ?_
                    refine lv_lconst (v := 0) hx hb dL_law_810 (by decide) ?_
                    refine W.lcmp hx hb dL_law_811 ?_
                    refine lv_if_ne (tgt := 827) hx hb dL_law_812 (by decide) (fun c124 => ?_) (fun c124 => ?_)
                    · have h := zif_f h c124
                      refine lv_iconst (v := 0) hx hb dL_law_827 (by decide) ?_
                      exact absurd (Option.some.inj h) (by decide)
                    · have h := zif_t h c124
                      refine lv_aload_n hx hb dL_law_815 rfl (lv_at hl 7 rfl) ?_
                      obtain ⟨q125, eq125, h⟩ := Option.bind_eq_some_iff.mp h
                      refine z_callV (ci := 11) (As := []) (rest := []) (rv := (some (.int q125.1))) (M1 := q125.2) S hw (c_X11_passedOver l hG t1 k1 q123.2 q125 eq125) mv_X11_passedOver lk_L_123 k1 ⟨_, _, rfl⟩ (by decide) rfl rfl (Nat.le_of_ble_eq_true rfl) ⟨Nat.le_of_ble_eq_true rfl, Nat.le_of_ble_eq_true rfl⟩ hl.1 dL_law_816 (fun H locs hw => ?_)
                      refine lv_aload_n hx hb dL_law_819 rfl (lv_at hl 7 rfl) ?_
                      refine lv_iconst (v := 1) hx hb dL_law_820 (by decide) ?_
                      obtain ⟨q126, eq126, h⟩ := Option.bind_eq_some_iff.mp h
                      refine z_callV (ci := 11) (As := [.int 1]) (rest := [.int q125.1]) (rv := (some (.int q126))) (M1 := q125.2) S hw (c_X11_count l hG t1 1 k1 q125.2 q126 eq126) mv_X11_count lk_L_55 k1 ⟨_, _, rfl⟩ (by decide) rfl rfl (Nat.le_of_ble_eq_true rfl) ⟨Nat.le_of_ble_eq_true rfl, Nat.le_of_ble_eq_true rfl⟩ hl.1 dL_law_821 (fun H locs hw => ?_)
                      refine lv_icmp_le (tgt := 829) hx hb dL_law_824 (by decide) (fun c127 => ?_) (fun c127 => ?_)
                      · have h := zif_t h c127
                        refine lv_iconst (v := 0) hx hb dL_law_829 (by decide) ?_
                        refine lv_istore (lv' := [(13, .int 0), (11, .long q114.1), (10, .int x113), (9, .int q111.1), (8, .int x110), (6, .long q44), (5, .int q43), (0, .ref G.2.2.2.2.2.2.1), (1, .ref (za G t1)), (4, .int v4)]) hx hb dL_law_830 hl (by decide) rfl (fun ls hl => ?_)
                        refine w_L_law_832 hG S L xs t1 v4 q111.1 x113 k0 k1 (fun M h H locs ls hw hl => ?_) zN 0 q125.2 h H locs ls hw (lv_sub hl [7, 8, 9, 3, 2, 0] rfl)
                        refine lv_aload_n hx hb dL_law_878 rfl (lv_at hl 1 rfl) ?_
                        obtain ⟨q137, eq137, h⟩ := Option.bind_eq_some_iff.mp h
                        refine z_callV (ci := 11) (As := []) (rest := []) (rv := (some (.int q137.1))) (M1 := q137.2) S hw (c_X11_best l hG t1 k1 M q137 eq137) mv_X11_best lk_L_90 k1 ⟨_, _, rfl⟩ (by decide) rfl rfl (Nat.le_of_ble_eq_true rfl) ⟨Nat.le_of_ble_eq_true rfl, Nat.le_of_ble_eq_true rfl⟩ hl.1 dL_law_879 (fun H locs hw => ?_)
                        refine lv_istore (lv' := [(13, .int q137.1), (0, .ref G.2.2.2.2.2.2.1), (1, .ref (za G t1)), (4, .int v4), (10, .int x113)]) hx hb dL_law_882 hl (by decide) rfl (fun ls hl => ?_)
                        refine lv_aload_n hx hb dL_law_884 rfl (lv_at hl 2 rfl) ?_
                        refine lv_iload hx hb dL_law_885 (lv_at hl 0 rfl) ?_
                        obtain ⟨q138, eq138, h⟩ := Option.bind_eq_some_iff.mp h
                        refine z_callV (ci := 11) (As := [.int q137.1]) (rest := []) (rv := (some (.int q138.1))) (M1 := q138.2) S hw (c_X11_serves l hG t1 q137.1 k1 q137.2 q138 eq138) mv_X11_serves lk_L_126 k1 ⟨_, _, rfl⟩ (by decide) rfl rfl (Nat.le_of_ble_eq_true rfl) ⟨Nat.le_of_ble_eq_true rfl, Nat.le_of_ble_eq_true rfl⟩ hl.1 dL_law_887 (fun H locs hw => ?_)
                        refine lv_aload_n hx hb dL_law_890 rfl (lv_at hl 2 rfl) ?_
                        refine lv_iload hx hb dL_law_891 (lv_at hl 4 rfl) ?_
                        obtain ⟨q139, eq139, h⟩ := Option.bind_eq_some_iff.mp h
                        refine z_callV (ci := 11) (As := [.int x113]) (rest := [.int q138.1]) (rv := (some (.int q139.1))) (M1 := q139.2) S hw (c_X11_serves l hG t1 x113 k1 q138.2 q139 eq139) mv_X11_serves lk_L_126 k1 ⟨_, _, rfl⟩ (by decide) rfl rfl (Nat.le_of_ble_eq_true rfl) ⟨Nat.le_of_ble_eq_true rfl, Nat.le_of_ble_eq_true rfl⟩ hl.1 dL_law_893 (fun H locs hw => ?_)
                        refine lv_icmp_lt (tgt := 940) hx hb dL_law_896 (by decide) (fun c140 => ?_) (fun c140 => ?_)
                        · have h := zif_t h c140
                          refine lv_iconst (v := 0) hx hb dL_law_940 (by decide) ?_
                          exact absurd (Option.some.inj h) (by decide)
                        · have h := zif_f h c140
                          refine lv_aload_n hx hb dL_law_899 rfl (lv_at hl 2 rfl) ?_
                          refine lv_iload hx hb dL_law_900 (lv_at hl 4 rfl) ?_
                          refine lv_iload hx hb dL_law_902 (lv_at hl 4 rfl) ?_
                          obtain ⟨q141, eq141, h⟩ := Option.bind_eq_some_iff.mp h
                          refine z_callV (ci := 11) (As := [.int x113, .int x113]) (rest := []) (rv := (some (.int q141.1))) (M1 := q141.2) S hw (c_X11_same l hG t1 x113 x113 k1 q139.2 q141 eq141) mv_X11_same lk_L_129 k1 ⟨_, _, rfl⟩ (by decide) rfl rfl (Nat.le_of_ble_eq_true rfl) ⟨Nat.le_of_ble_eq_true rfl, Nat.le_of_ble_eq_true rfl⟩ hl.1 dL_law_904 (fun H locs hw => ?_)
                          refine lv_iconst (v := 1) hx hb dL_law_907 (by decide) ?_
                          refine lv_icmp_ne (tgt := 940) hx hb dL_law_908 (by decide) (fun c142 => ?_) (fun c142 => ?_)
                          · have h := zif_f h c142
                            refine lv_iconst (v := 0) hx hb dL_law_940 (by decide) ?_
                            exact absurd (Option.some.inj h) (by decide)
                          · have h := zif_t h c142
                            refine lv_aload_n hx hb dL_law_911 rfl (lv_at hl 2 rfl) ?_
                            refine lv_iload hx hb dL_law_912 (lv_at hl 4 rfl) ?_
                            refine lv_iload hx hb dL_law_914 (lv_at hl 4 rfl) ?_
                            obtain ⟨q143, eq143, h⟩ := Option.bind_eq_some_iff.mp h
                            refine z_callV (ci := 11) (As := [.int x113, .int x113]) (rest := []) (rv := (some (.int q143.1))) (M1 := q143.2) S hw (c_X11_part l hG t1 x113 x113 k1 q141.2 q143 eq143) mv_X11_part lk_L_132 k1 ⟨_, _, rfl⟩ (by decide) rfl rfl (Nat.le_of_ble_eq_true rfl) ⟨Nat.le_of_ble_eq_true rfl, Nat.le_of_ble_eq_true rfl⟩ hl.1 dL_law_916 (fun H locs hw => ?_)
                            refine lv_bipush (v := (-9)) hx hb dL_law_919 (by decide) ?_
                            refine lv_icmp_ne (tgt := 940) hx hb dL_law_921 (by decide) (fun c144 => ?_) (fun c144 => ?_)
                            · have h := zif_f h c144
                              refine lv_iconst (v := 0) hx hb dL_law_940 (by decide) ?_
                              exact absurd (Option.some.inj h) (by decide)
                            · have h := zif_t h c144
                              refine lv_aload_n hx hb dL_law_924 rfl (lv_at hl 2 rfl) ?_
                              obtain ⟨q145, eq145, h⟩ := Option.bind_eq_some_iff.mp h
                              refine z_callV (ci := 11) (As := []) (rest := []) (rv := (some (.int q145.1))) (M1 := q145.2) S hw (c_X11_needless l hG t1 k1 q143.2 q145 eq145) mv_X11_needless lk_L_99 k1 ⟨_, _, rfl⟩ (by decide) rfl rfl (Nat.le_of_ble_eq_true rfl) ⟨Nat.le_of_ble_eq_true rfl, Nat.le_of_ble_eq_true rfl⟩ hl.1 dL_law_925 (fun H locs hw => ?_)
                              refine lv_aload_n hx hb dL_law_928 rfl (lv_at hl 2 rfl) ?_
                              refine lv_iload hx hb dL_law_929 (lv_at hl 4 rfl) ?_
                              obtain ⟨q146, eq146, h⟩ := Option.bind_eq_some_iff.mp h
                              refine z_callV (ci := 11) (As := [.int x113]) (rest := [.int q145.1]) (rv := (some (.int q146.1))) (M1 := q146.2) S hw (c_X11_idle l hG t1 x113 k1 q145.2 q146 eq146) mv_X11_idle lk_L_135 k1 ⟨_, _, rfl⟩ (by decide) rfl rfl (Nat.le_of_ble_eq_true rfl) ⟨Nat.le_of_ble_eq_true rfl, Nat.le_of_ble_eq_true rfl⟩ hl.1 dL_law_931 (fun H locs hw => ?_)
                              refine lv_iconst (v := (-1)) hx hb dL_law_934 (by decide) ?_
                              refine lv_ixor hx hb dL_law_935 ?_
                              refine lv_iand hx hb dL_law_936 ?_
                              refine lv_if_eq (tgt := 942) hx hb dL_law_937 (by decide) (fun c147 => ?_) (fun c147 => ?_)
                              · have h := zif_t h c147
                                obtain ⟨x148, ex148, h⟩ := zlet_ex h
                                refine lv_iinc (v := x148) (lv' := [(4, .int x148), (13, .int q137.1), (0, .ref G.2.2.2.2.2.2.1), (1, .ref (za G t1)), (10, .int x113)]) hx hb dL_law_942 hl (k := 3) rfl (by rw [ex148]; rfl) (by decide) rfl (fun ls hl => ?_)
                                refine lv_goto (tgt := 31) hx hb dL_law_945 (by decide) ?_
                                exact ih x148 q146.2 h H locs ls hw (lv_sub hl [2, 3, 0] rfl)
                              · have h := zif_f h c147
                                refine lv_iconst (v := 0) hx hb dL_law_940 (by decide) ?_
                                exact absurd (Option.some.inj h) (by decide)
                      · have h := zif_f h c127
                        refine lv_iconst (v := 0) hx hb dL_law_827 (by decide) ?_
                        exact absurd (Option.some.inj h) (by decide)
        · have h := zif_f h c108
          refine lv_aload_n hx hb dL_law_697 rfl (lv_at hl 3 rfl) ?_
          obtain ⟨q149, eq149, h⟩ := Option.bind_eq_some_iff.mp h
          refine z_callV (ci := 11) (As := []) (rest := []) (rv := (some (.int q149.1))) (M1 := q149.2) S hw (c_X11_unlike l hG t1 k1 M q149 eq149) mv_X11_unlike lk_L_107 k1 ⟨_, _, rfl⟩ (by decide) rfl rfl (Nat.le_of_ble_eq_true rfl) ⟨Nat.le_of_ble_eq_true rfl, Nat.le_of_ble_eq_true rfl⟩ hl.1 dL_law_698 (fun H locs hw => ?_)
          refine lv_bipush (v := (-5)) hx hb dL_law_701 (by decide) ?_
          refine lv_icmp_ne (tgt := 718) hx hb dL_law_703 (by decide) (fun c150 => ?_) (fun c150 => ?_)
          · have h := zif_f h c150
            refine lv_iconst (v := 0) hx hb dL_law_718 (by decide) ?_
            exact absurd (Option.some.inj h) (by decide)
          · have h := zif_t h c150
            refine lv_aload_n hx hb dL_law_706 rfl (lv_at hl 3 rfl) ?_
            refine lv_iconst (v := 0) hx hb dL_law_707 (by decide) ?_
            obtain ⟨q151, eq151, h⟩ := Option.bind_eq_some_iff.mp h
            refine z_callV (ci := 11) (As := [.int 0]) (rest := []) (rv := (some (.long q151.1))) (M1 := q151.2) S hw (c_X11_means l hG t1 0 k1 q149.2 q151 eq151) mv_X11_means lk_L_110 k1 ⟨_, _, rfl⟩ (by decide) rfl rfl (Nat.le_of_ble_eq_true rfl) ⟨Nat.le_of_ble_eq_true rfl, Nat.le_of_ble_eq_true rfl⟩ hl.1 dL_law_708 (fun H locs hw => ?_)
            refine lv_ldc2 (v := (-5)) hx hb hown (hts _ kc_L_114) dL_law_711 ?_
            refine W.lcmp hx hb dL_law_714 ?_
            refine lv_if_eq (tgt := 942) hx hb dL_law_715 (by decide) (fun c152 => ?_) (fun c152 => ?_)
            · have h := zif_t h c152
              obtain ⟨x153, ex153, h⟩ := zlet_ex h
              refine lv_iinc (v := x153) (lv' := [(4, .int x153), (6, .long q44), (5, .int q43), (0, .ref G.2.2.2.2.2.2.1), (1, .ref (za G t1))]) hx hb dL_law_942 hl (k := 4) rfl (by rw [ex153]; rfl) (by decide) rfl (fun ls hl => ?_)
              refine lv_goto (tgt := 31) hx hb dL_law_945 (by decide) ?_
              exact ih x153 q151.2 h H locs ls hw (lv_sub hl [3, 4, 0] rfl)
            · have h := zif_f h c152
              refine lv_iconst (v := 0) hx hb dL_law_718 (by decide) ?_
              exact absurd (Option.some.inj h) (by decide)
end Z
