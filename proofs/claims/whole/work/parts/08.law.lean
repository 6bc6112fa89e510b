section Z
variable {p : Program} {l : Launch} {e : Env} {s : State} {m : MethodId} {args : Array Value} {below : List Frame} {meth : Method} {c : Code} {A : Nat → Prop} {cells slots b : Nat} {Q : State → Prop}
def f_L_law_18 (L : Nat) (xs : Nat → Int32) (t1 : Nat) (t2 : Nat) (K : ZM → Option Int32) : Nat → Int32 → ZM → Option Int32
  | 0, _, _ => none
  | n + 1, v3, M =>
    zlet (fun (v3 : Int32) (s0 : Int64) (s2 : Int32) (M : ZM) =>
      (f_X12_all t2 s2 M).bind fun (q1 : (Int64 × ZM)) =>
      if (lg_cmp s0 q1.1) = 0 then (
        zlet (v3 + 4) fun (x3 : Int32) =>
        f_L_law_18 L xs t1 t2 K n x3 q1.2) else (
        some 0)) fun J466 =>
    zlet (fun (v3 : Int32) (s1 : Int32) (M : ZM) =>
      (f_X11_all t1 s1 M).bind fun (q4 : (Int64 × ZM)) =>
      zck (zin (v3 + 1) L) <|
      if (xs (v3 + 1).toNatClampNeg) = 0 then (
        J466 v3 q4.1 0 q4.2) else (
        J466 v3 q4.1 1 q4.2)) fun J449 =>
    if ((Int32.ofNat L) - 4) < v3 then (
      K M) else (
      zck (zin v3 L) <|
      zlet ((xs v3.toNatClampNeg) &&& 31) fun (x9 : Int32) =>
      if x9 = 0 then (
        zck (zin (v3 + 1) L) <|
        zck (zin (v3 + 2) L) <|
        zck (zin (v3 + 3) L) <|
        (f_X11_feed t1 (xs (v3 + 1).toNatClampNeg) ((((xs (v3 + 2).toNatClampNeg).toInt64) <<< ((32 : Int32).toInt64 &&& 63)) ||| (((xs (v3 + 3).toNatClampNeg).toInt64) &&& 4294967295)) M).bind fun (q14 : (Int32 × ZM)) =>
        zck (zin (v3 + 1) L) <|
        zck (zin (v3 + 2) L) <|
        zck (zin (v3 + 3) L) <|
        (f_X12_feed t2 (xs (v3 + 1).toNatClampNeg) ((((xs (v3 + 2).toNatClampNeg).toInt64) <<< ((32 : Int32).toInt64 &&& 63)) ||| (((xs (v3 + 3).toNatClampNeg).toInt64) &&& 4294967295)) q14.2).bind fun (q18 : (Int32 × ZM)) =>
        if q14.1 = q18.1 then (
          zlet (v3 + 4) fun (x20 : Int32) =>
          f_L_law_18 L xs t1 t2 K n x20 q18.2) else (
          some 0)) else (
      if x9 = 1 then (
        (f_X11_read t1 M).bind fun (q22 : (Int32 × ZM)) =>
        (f_X12_read t2 q22.2).bind fun (q23 : (Int32 × ZM)) =>
        if q22.1 = q23.1 then (
          zlet (v3 + 4) fun (x25 : Int32) =>
          f_L_law_18 L xs t1 t2 K n x25 q23.2) else (
          some 0)) else (
      if x9 = 2 then (
        zck (zin (v3 + 1) L) <|
        zlet (f_X11_wordAt t1 (xs (v3 + 1).toNatClampNeg) M) fun (q28 : Int32) =>
        zck (zin (v3 + 1) L) <|
        (f_X12_wordAt t2 (xs (v3 + 1).toNatClampNeg) M).bind fun (q30 : Int32) =>
        if q28 = q30 then (
          zlet (v3 + 4) fun (x32 : Int32) =>
          f_L_law_18 L xs t1 t2 K n x32 M) else (
          some 0)) else (
      if x9 = 3 then (
        zlet (f_X11_readings t1 M) fun (q34 : Int64) =>
        (f_X12_readings t2 M).bind fun (q35 : Int64) =>
        if (lg_cmp q34 q35) = 0 then (
          zlet (v3 + 4) fun (x37 : Int32) =>
          f_L_law_18 L xs t1 t2 K n x37 M) else (
          some 0)) else (
      if x9 = 4 then (
        zck (zin (v3 + 1) L) <|
        (f_X11_nodes t1 (xs (v3 + 1).toNatClampNeg) M).bind fun (q40 : (Int32 × ZM)) =>
        zck (zin (v3 + 1) L) <|
        (f_X12_nodes t2 (xs (v3 + 1).toNatClampNeg) q40.2).bind fun (q42 : (Int32 × ZM)) =>
        if q40.1 = q42.1 then (
          zlet (v3 + 4) fun (x44 : Int32) =>
          f_L_law_18 L xs t1 t2 K n x44 q42.2) else (
          some 0)) else (
      if x9 = 5 then (
        zck (zin (v3 + 1) L) <|
        zck (zin (v3 + 2) L) <|
        zck (zin (v3 + 3) L) <|
        (f_X11_node t1 (xs (v3 + 1).toNatClampNeg) (xs (v3 + 2).toNatClampNeg) (xs (v3 + 3).toNatClampNeg) M).bind fun (q49 : (Int32 × ZM)) =>
        zck (zin (v3 + 1) L) <|
        zck (zin (v3 + 2) L) <|
        zck (zin (v3 + 3) L) <|
        (f_X12_node t2 (xs (v3 + 1).toNatClampNeg) (xs (v3 + 2).toNatClampNeg) (xs (v3 + 3).toNatClampNeg) q49.2).bind fun (q53 : (Int32 × ZM)) =>
        if q49.1 = q53.1 then (
          zlet (v3 + 4) fun (x55 : Int32) =>
          f_L_law_18 L xs t1 t2 K n x55 q53.2) else (
          some 0)) else (
      if x9 = 6 then (
        zck (zin (v3 + 1) L) <|
        (f_X11_means t1 (xs (v3 + 1).toNatClampNeg) M).bind fun (q58 : (Int64 × ZM)) =>
        zck (zin (v3 + 1) L) <|
        (f_X12_means t2 (xs (v3 + 1).toNatClampNeg) q58.2).bind fun (q60 : (Int64 × ZM)) =>
        if (lg_cmp q58.1 q60.1) = 0 then (
          zlet (v3 + 4) fun (x62 : Int32) =>
          f_L_law_18 L xs t1 t2 K n x62 q60.2) else (
          some 0)) else (
      if x9 = 7 then (
        zck (zin (v3 + 1) L) <|
        zck (zin (v3 + 2) L) <|
        (f_X11_lets t1 (xs (v3 + 1).toNatClampNeg) (xs (v3 + 2).toNatClampNeg) M).bind fun (q66 : (Int32 × ZM)) =>
        zck (zin (v3 + 1) L) <|
        zck (zin (v3 + 2) L) <|
        (f_X12_lets t2 (xs (v3 + 1).toNatClampNeg) (xs (v3 + 2).toNatClampNeg) q66.2).bind fun (q69 : (Int32 × ZM)) =>
        if q66.1 = q69.1 then (
          zlet (v3 + 4) fun (x71 : Int32) =>
          f_L_law_18 L xs t1 t2 K n x71 q69.2) else (
          some 0)) else (
      if x9 = 8 then (
        zck (zin (v3 + 1) L) <|
        (f_X11_map t1 (xs (v3 + 1).toNatClampNeg) M).bind fun (q74 : (Int32 × ZM)) =>
        zck (zin (v3 + 1) L) <|
        (f_X12_map t2 (xs (v3 + 1).toNatClampNeg) q74.2).bind fun (q76 : (Int32 × ZM)) =>
        if q74.1 = q76.1 then (
          zlet (v3 + 4) fun (x78 : Int32) =>
          f_L_law_18 L xs t1 t2 K n x78 q76.2) else (
          some 0)) else (
      if x9 = 9 then (
        zck (zin (v3 + 1) L) <|
        if (xs (v3 + 1).toNatClampNeg) = 0 then (
          J449 v3 0 M) else (
          J449 v3 1 M)) else (
      if x9 = 10 then (
        zck (zin (v3 + 1) L) <|
        zck (zin (v3 + 2) L) <|
        (f_X11_same t1 (xs (v3 + 1).toNatClampNeg) (xs (v3 + 2).toNatClampNeg) M).bind fun (q85 : (Int32 × ZM)) =>
        zck (zin (v3 + 1) L) <|
        zck (zin (v3 + 2) L) <|
        (f_X12_same t2 (xs (v3 + 1).toNatClampNeg) (xs (v3 + 2).toNatClampNeg) q85.2).bind fun (q88 : (Int32 × ZM)) =>
        if q85.1 = q88.1 then (
          zlet (v3 + 4) fun (x90 : Int32) =>
          f_L_law_18 L xs t1 t2 K n x90 q88.2) else (
          some 0)) else (
      if x9 = 11 then (
        (f_X11_unlike t1 M).bind fun (q92 : (Int32 × ZM)) =>
        (f_X12_unlike t2 q92.2).bind fun (q93 : (Int32 × ZM)) =>
        if q92.1 = q93.1 then (
          zlet (v3 + 4) fun (x95 : Int32) =>
          f_L_law_18 L xs t1 t2 K n x95 q93.2) else (
          some 0)) else (
      if x9 = 12 then (
        zck (zin (v3 + 1) L) <|
        zck (zin (v3 + 2) L) <|
        (f_X11_part t1 (xs (v3 + 1).toNatClampNeg) (xs (v3 + 2).toNatClampNeg) M).bind fun (q99 : (Int32 × ZM)) =>
        zck (zin (v3 + 1) L) <|
        zck (zin (v3 + 2) L) <|
        (f_X12_part t2 (xs (v3 + 1).toNatClampNeg) (xs (v3 + 2).toNatClampNeg) q99.2).bind fun (q102 : (Int32 × ZM)) =>
        if q99.1 = q102.1 then (
          zlet (v3 + 4) fun (x104 : Int32) =>
          f_L_law_18 L xs t1 t2 K n x104 q102.2) else (
          some 0)) else (
      if x9 = 13 then (
        zck (zin (v3 + 1) L) <|
        (f_X11_idle t1 (xs (v3 + 1).toNatClampNeg) M).bind fun (q107 : (Int32 × ZM)) =>
        zck (zin (v3 + 1) L) <|
        (f_X12_idle t2 (xs (v3 + 1).toNatClampNeg) q107.2).bind fun (q109 : (Int32 × ZM)) =>
        if q107.1 = q109.1 then (
          zlet (v3 + 4) fun (x111 : Int32) =>
          f_L_law_18 L xs t1 t2 K n x111 q109.2) else (
          some 0)) else (
      if x9 = 14 then (
        (f_X11_needless t1 M).bind fun (q113 : (Int32 × ZM)) =>
        (f_X12_needless t2 q113.2).bind fun (q114 : (Int32 × ZM)) =>
        if q113.1 = q114.1 then (
          zlet (v3 + 4) fun (x116 : Int32) =>
          f_L_law_18 L xs t1 t2 K n x116 q114.2) else (
          some 0)) else (
      if x9 = 15 then (
        zck (zin (v3 + 1) L) <|
        zck (zin (v3 + 2) L) <|
        (f_X11_meets t1 (xs (v3 + 1).toNatClampNeg) (xs (v3 + 2).toNatClampNeg) M).bind fun (q120 : (Int32 × ZM)) =>
        zck (zin (v3 + 1) L) <|
        zck (zin (v3 + 2) L) <|
        (f_X12_meets t2 (xs (v3 + 1).toNatClampNeg) (xs (v3 + 2).toNatClampNeg) q120.2).bind fun (q123 : (Int32 × ZM)) =>
        if q120.1 = q123.1 then (
          zlet (v3 + 4) fun (x125 : Int32) =>
          f_L_law_18 L xs t1 t2 K n x125 q123.2) else (
          some 0)) else (
      if x9 = 16 then (
        zck (zin (v3 + 1) L) <|
        (f_X11_choose t1 (xs (v3 + 1).toNatClampNeg) M).bind fun (q128 : (Int32 × ZM)) =>
        zck (zin (v3 + 1) L) <|
        (f_X12_choose t2 (xs (v3 + 1).toNatClampNeg) q128.2).bind fun (q130 : (Int32 × ZM)) =>
        if q128.1 = q130.1 then (
          zlet (v3 + 4) fun (x132 : Int32) =>
          f_L_law_18 L xs t1 t2 K n x132 q130.2) else (
          some 0)) else (
      if x9 = 17 then (
        zlet (f_X11_unchoose t1 M) fun (q134 : (Int32 × ZM)) =>
        zlet (f_X12_unchoose t2 q134.2) fun (q135 : (Int32 × ZM)) =>
        if q134.1 = q135.1 then (
          zlet (v3 + 4) fun (x137 : Int32) =>
          f_L_law_18 L xs t1 t2 K n x137 q135.2) else (
          some 0)) else (
      if x9 = 18 then (
        zck (zin (v3 + 1) L) <|
        (f_X11_leftOver t1 (xs (v3 + 1).toNatClampNeg) M).bind fun (q140 : (Int32 × ZM)) =>
        zck (zin (v3 + 1) L) <|
        (f_X12_leftOver t2 (xs (v3 + 1).toNatClampNeg) q140.2).bind fun (q142 : (Int32 × ZM)) =>
        if q140.1 = q142.1 then (
          zlet (v3 + 4) fun (x144 : Int32) =>
          f_L_law_18 L xs t1 t2 K n x144 q142.2) else (
          some 0)) else (
      if x9 = 19 then (
        (f_X11_passedOver t1 M).bind fun (q146 : (Int32 × ZM)) =>
        (f_X12_passedOver t2 q146.2).bind fun (q147 : (Int32 × ZM)) =>
        if q146.1 = q147.1 then (
          zlet (v3 + 4) fun (x149 : Int32) =>
          f_L_law_18 L xs t1 t2 K n x149 q147.2) else (
          some 0)) else (
      if x9 = 20 then (
        zck (zin (v3 + 1) L) <|
        zck (zin (v3 + 2) L) <|
        (f_X11_quarrel t1 (xs (v3 + 1).toNatClampNeg) (xs (v3 + 2).toNatClampNeg) M).bind fun (q153 : (Int32 × ZM)) =>
        zck (zin (v3 + 1) L) <|
        zck (zin (v3 + 2) L) <|
        (f_X12_quarrel t2 (xs (v3 + 1).toNatClampNeg) (xs (v3 + 2).toNatClampNeg) q153.2).bind fun (q156 : (Int32 × ZM)) =>
        if q153.1 = q156.1 then (
          zlet (v3 + 4) fun (x158 : Int32) =>
          f_L_law_18 L xs t1 t2 K n x158 q156.2) else (
          some 0)) else (
      if x9 = 21 then (
        (f_X11_hangs t1 M).bind fun (q160 : (Int32 × ZM)) =>
        (f_X12_hangs t2 q160.2).bind fun (q161 : (Int32 × ZM)) =>
        if q160.1 = q161.1 then (
          zlet (v3 + 4) fun (x163 : Int32) =>
          f_L_law_18 L xs t1 t2 K n x163 q161.2) else (
          some 0)) else (
      if x9 = 22 then (
        (f_X11_test t1 M).bind fun (q165 : (Int32 × ZM)) =>
        (f_X12_test t2 q165.2).bind fun (q166 : (Int32 × ZM)) =>
        if q165.1 = q166.1 then (
          zlet (v3 + 4) fun (x168 : Int32) =>
          f_L_law_18 L xs t1 t2 K n x168 q166.2) else (
          some 0)) else (
      if x9 = 23 then (
        (f_X11_fewest t1 M).bind fun (q170 : (Int32 × ZM)) =>
        (f_X12_fewest t2 q170.2).bind fun (q171 : (Int32 × ZM)) =>
        if q170.1 = q171.1 then (
          zlet (v3 + 4) fun (x173 : Int32) =>
          f_L_law_18 L xs t1 t2 K n x173 q171.2) else (
          some 0)) else (
      if x9 = 24 then (
        zck (zin (v3 + 1) L) <|
        zck (zin (v3 + 2) L) <|
        (f_X11_bracket t1 (xs (v3 + 1).toNatClampNeg) (xs (v3 + 2).toNatClampNeg) M).bind fun (q177 : (Int32 × ZM)) =>
        zck (zin (v3 + 1) L) <|
        zck (zin (v3 + 2) L) <|
        (f_X12_bracket t2 (xs (v3 + 1).toNatClampNeg) (xs (v3 + 2).toNatClampNeg) q177.2).bind fun (q180 : (Int32 × ZM)) =>
        if q177.1 = q180.1 then (
          zlet (v3 + 4) fun (x182 : Int32) =>
          f_L_law_18 L xs t1 t2 K n x182 q180.2) else (
          some 0)) else (
      if x9 = 25 then (
        zck (zin (v3 + 1) L) <|
        (f_X11_mend t1 (xs (v3 + 1).toNatClampNeg) M).bind fun (q185 : (Int32 × ZM)) =>
        zck (zin (v3 + 1) L) <|
        (f_X12_mend t2 (xs (v3 + 1).toNatClampNeg) q185.2).bind fun (q187 : (Int32 × ZM)) =>
        if q185.1 = q187.1 then (
          zlet (v3 + 4) fun (x189 : Int32) =>
          f_L_law_18 L xs t1 t2 K n x189 q187.2) else (
          some 0)) else (
      if x9 = 26 then (
        zck (zin (v3 + 1) L) <|
        zck (zin (v3 + 2) L) <|
        zlet (f_X11_aim t1 (xs (v3 + 1).toNatClampNeg) (xs (v3 + 2).toNatClampNeg) M) fun (q193 : (Int32 × ZM)) =>
        zck (zin (v3 + 1) L) <|
        zck (zin (v3 + 2) L) <|
        (f_X12_aim t2 (xs (v3 + 1).toNatClampNeg) (xs (v3 + 2).toNatClampNeg) q193.2).bind fun (q196 : (Int32 × ZM)) =>
        if q193.1 = q196.1 then (
          zlet (v3 + 4) fun (x198 : Int32) =>
          f_L_law_18 L xs t1 t2 K n x198 q196.2) else (
          some 0)) else (
      if x9 = 27 then (
        zck (zin (v3 + 1) L) <|
        (f_X11_serves t1 (xs (v3 + 1).toNatClampNeg) M).bind fun (q201 : (Int32 × ZM)) =>
        zck (zin (v3 + 1) L) <|
        (f_X12_serves t2 (xs (v3 + 1).toNatClampNeg) q201.2).bind fun (q203 : (Int32 × ZM)) =>
        if q201.1 = q203.1 then (
          zlet (v3 + 4) fun (x205 : Int32) =>
          f_L_law_18 L xs t1 t2 K n x205 q203.2) else (
          some 0)) else (
      if x9 = 28 then (
        (f_X11_best t1 M).bind fun (q207 : (Int32 × ZM)) =>
        (f_X12_best t2 q207.2).bind fun (q208 : (Int32 × ZM)) =>
        if q207.1 = q208.1 then (
          zlet (v3 + 4) fun (x210 : Int32) =>
          f_L_law_18 L xs t1 t2 K n x210 q208.2) else (
          some 0)) else (
      if x9 = 29 then (
        (f_X11_image t1 M).bind fun (q212 : (Int32 × ZM)) =>
        (f_X12_image t2 q212.2).bind fun (q213 : (Int32 × ZM)) =>
        if q212.1 = q213.1 then (
          zlet (v3 + 4) fun (x215 : Int32) =>
          f_L_law_18 L xs t1 t2 K n x215 q213.2) else (
          some 0)) else (
      if x9 = 30 then (
        (f_X11_on t1 M).bind fun (q217 : (Int32 × ZM)) =>
        (f_X12_on t2 q217.2).bind fun (q218 : (Int32 × ZM)) =>
        if q217.1 = q218.1 then (
          zlet (v3 + 4) fun (x220 : Int32) =>
          f_L_law_18 L xs t1 t2 K n x220 q218.2) else (
          some 0)) else (
      if x9 = 31 then (
        zck (zin (v3 + 1) L) <|
        (f_X11_count t1 (xs (v3 + 1).toNatClampNeg) M).bind fun (q223 : Int32) =>
        zck (zin (v3 + 1) L) <|
        (f_X12_count t2 (xs (v3 + 1).toNatClampNeg) M).bind fun (q225 : Int32) =>
        if q223 = q225 then (
          zlet (v3 + 4) fun (x227 : Int32) =>
          f_L_law_18 L xs t1 t2 K n x227 M) else (
          some 0)) else (
        zlet (v3 + 4) fun (x228 : Int32) =>
        f_L_law_18 L xs t1 t2 K n x228 M)))))))))))))))))))))))))))))))))

set_option maxHeartbeats 4000000 in
set_option maxRecDepth 100000 in
theorem w_L_law_18 {G : ZG} (hG : zOk G) {L : Nat} {xs : Nat → Int32} (S : zX p room_1 s m args c cells slots cL_law 4 RL) (hX : va_X b L xs s s.heap) (hbl : b < s.heap.size) (hbA : ¬ A b) (t1 : Nat) (t2 : Nat) (k1 : zk G t1 = 21) (k2 : zk G t2 = 22)  {K : ZM → Option Int32}  (hK : ∀  (M : ZM), K M = some 1 → ∀ (H : Heap) (locs : List Loc) (ls : Array Slot), zWd G A s H locs M → lv_has ls 4 [] → W p l e room_1 s m args below meth c H locs cells slots Q (F0 m 947 ls [])) : ∀ (n : Nat) (v3 : Int32) (M : ZM), f_L_law_18 L xs t1 t2 K n v3 M = some 1 → ∀ (H : Heap) (locs : List Loc) (ls : Array Slot), zWd G A s H locs M → lv_has ls 4 [(0, .ref b), (1, .ref (za G t1)), (2, .ref (za G t2)), (3, .int v3)] → W p l e room_1 s m args below meth c H locs cells slots Q (F0 m 18 ls []) := by
  have hx := S.1.1
  have hb := S.1.2.1
  have hown := S.1.2.2.2.1
  have hts := S.1.2.2.2.2
  intro n
  induction n with
  | zero =>
    intro v3 M h
    rw [f_L_law_18] at h
    cases h
  | succ n ih =>
    intro v3 M h H locs ls hw hl
    rw [f_L_law_18] at h
    obtain ⟨J466, hJ466, h⟩ := zlet_ex h
    have wJ466 : ∀ (v3 : Int32) (s0 : Int64) (s2 : Int32) (M : ZM), J466 v3 s0 s2 M = some 1 → ∀ (H : Heap) (locs : List Loc) (ls : Array Slot), zWd G A s H locs M → lv_has ls 4 [(0, .ref b), (1, .ref (za G t1)), (2, .ref (za G t2)), (3, .int v3)] → W p l e room_1 s m args below meth c H locs cells slots Q (F0 m 466 ls [.int s2, .ref (za G t2), .long s0]) := by
      intro v3 s0 s2 M h H locs ls hw hl
      subst hJ466
      obtain ⟨q1, eq1, h⟩ := Option.bind_eq_some_iff.mp h
      refine z_callV (ci := 12) (As := [.int s2]) (rest := [.long s0]) (rv := (some (.long q1.1))) (M1 := q1.2) S hw (c_X12_all l hG t2 s2 k2 M q1 eq1) mv_X12_all lk_L_62 k2 ⟨_, _, rfl⟩ (by decide) rfl rfl (Nat.le_of_ble_eq_true rfl) ⟨Nat.le_of_ble_eq_true rfl, Nat.le_of_ble_eq_true rfl⟩ hl.1 dL_law_466 (fun H locs hw => ?_)
      refine W.lcmp hx hb dL_law_469 ?_
      refine lv_if_eq (tgt := 941) hx hb dL_law_470 (by decide) (fun c2 => ?_) (fun c2 => ?_)
      · have h := zif_t h c2
        obtain ⟨x3, ex3, h⟩ := zlet_ex h
        refine lv_iinc (v := x3) (lv' := [(3, .int x3), (0, .ref b), (1, .ref (za G t1)), (2, .ref (za G t2))]) hx hb dL_law_941 hl (k := 3) rfl (by rw [ex3]; rfl) (by decide) rfl (fun ls hl => ?_)
        refine lv_goto (tgt := 18) hx hb dL_law_944 (by decide) ?_
        exact ih x3 q1.2 h H locs ls hw (lv_sub hl [1, 2, 3, 0] rfl)
      · have h := zif_f h c2
        refine lv_iconst (v := 0) hx hb dL_law_473 (by decide) ?_
        exact absurd (Option.some.inj h) (by decide)
    obtain ⟨J449, hJ449, h⟩ := zlet_ex h
    have wJ449 : ∀ (v3 : Int32) (s1 : Int32) (M : ZM), J449 v3 s1 M = some 1 → ∀ (H : Heap) (locs : List Loc) (ls : Array Slot), zWd G A s H locs M → lv_has ls 4 [(0, .ref b), (1, .ref (za G t1)), (2, .ref (za G t2)), (3, .int v3)] → W p l e room_1 s m args below meth c H locs cells slots Q (F0 m 449 ls [.int s1, .ref (za G t1)]) := by
      intro v3 s1 M h H locs ls hw hl
      subst hJ449
      obtain ⟨q4, eq4, h⟩ := Option.bind_eq_some_iff.mp h
      refine z_callV (ci := 11) (As := [.int s1]) (rest := []) (rv := (some (.long q4.1))) (M1 := q4.2) S hw (c_X11_all l hG t1 s1 k1 M q4 eq4) mv_X11_all lk_L_58 k1 ⟨_, _, rfl⟩ (by decide) rfl rfl (Nat.le_of_ble_eq_true rfl) ⟨Nat.le_of_ble_eq_true rfl, Nat.le_of_ble_eq_true rfl⟩ hl.1 dL_law_449 (fun H locs hw => ?_)
      refine lv_aload_n hx hb dL_law_452 rfl (lv_at hl 2 rfl) ?_
      refine lv_aload_n hx hb dL_law_453 rfl (lv_at hl 0 rfl) ?_
      refine lv_iload_n hx hb dL_law_454 rfl (lv_at hl 3 rfl) ?_
      refine lv_iconst (v := 1) hx hb dL_law_455 (by decide) ?_
      refine lv_iadd hx hb dL_law_456 ?_
      obtain ⟨g5, h⟩ := zck_ex h
      refine va_sld hx hb hX hbl hbA hw.2.2.2.1 (zin_in g5) dL_law_457 ?_
      refine lv_if_eq (tgt := 465) hx hb dL_law_458 (by decide) (fun c6 => ?_) (fun c6 => ?_)
      · have h := zif_t h c6
        refine lv_iconst (v := 0) hx hb dL_law_465 (by decide) ?_
        exact wJ466 v3 q4.1 0 q4.2 h H locs ls hw (lv_sub hl [0, 1, 2, 3] rfl)
      · have h := zif_f h c6
        refine lv_iconst (v := 1) hx hb dL_law_461 (by decide) ?_
        refine lv_goto (tgt := 466) hx hb dL_law_462 (by decide) ?_
        exact wJ466 v3 q4.1 1 q4.2 h H locs ls hw (lv_sub hl [0, 1, 2, 3] rfl)
    refine lv_iload_n hx hb dL_law_18 rfl (lv_at hl 3 rfl) ?_
    refine lv_aload_n hx hb dL_law_19 rfl (lv_at hl 0 rfl) ?_
    refine va_slen hx hb hX hbl hbA hw.2.2.2.1 dL_law_20 ?_
    refine lv_iconst (v := 4) hx hb dL_law_21 (by decide) ?_
    refine lv_isub hx hb dL_law_22 ?_
    refine lv_icmp_gt (tgt := 947) hx hb dL_law_23 (by decide) (fun c7 => ?_) (fun c7 => ?_)
    · have h := zif_t h c7
      exact hK M h H locs ls hw (lv_sub hl [] rfl)
    · have h := zif_f h c7
      refine lv_aload_n hx hb dL_law_26 rfl (lv_at hl 0 rfl) ?_
      refine lv_iload_n hx hb dL_law_27 rfl (lv_at hl 3 rfl) ?_
      obtain ⟨g8, h⟩ := zck_ex h
      refine va_sld hx hb hX hbl hbA hw.2.2.2.1 (zin_in g8) dL_law_28 ?_
      refine lv_bipush (v := 31) hx hb dL_law_29 (by decide) ?_
      refine lv_iand hx hb dL_law_31 ?_
      obtain ⟨x9, ex9, h⟩ := zlet_ex h
      refine lv_topiE ex9 ?_
      rcases Decidable.em (x9 = 0) with c10 | c10
      · have h := zif_t h c10
        refine z_tab S (off := 144) c10 (by decide) (by decide) dL_law_32 (by decide +kernel) (tgt := 176) (by decide) ?_
        refine lv_aload_n hx hb dL_law_176 rfl (lv_at hl 1 rfl) ?_
        refine lv_aload_n hx hb dL_law_177 rfl (lv_at hl 0 rfl) ?_
        refine lv_iload_n hx hb dL_law_178 rfl (lv_at hl 3 rfl) ?_
        refine lv_iconst (v := 1) hx hb dL_law_179 (by decide) ?_
        refine lv_iadd hx hb dL_law_180 ?_
        obtain ⟨g11, h⟩ := zck_ex h
        refine va_sld hx hb hX hbl hbA hw.2.2.2.1 (zin_in g11) dL_law_181 ?_
        refine lv_aload_n hx hb dL_law_182 rfl (lv_at hl 0 rfl) ?_
        refine lv_iload_n hx hb dL_law_183 rfl (lv_at hl 3 rfl) ?_
        refine lv_iconst (v := 2) hx hb dL_law_184 (by decide) ?_
        refine lv_iadd hx hb dL_law_185 ?_
        obtain ⟨g12, h⟩ := zck_ex h
        refine va_sld hx hb hX hbl hbA hw.2.2.2.1 (zin_in g12) dL_law_186 ?_
        refine lv_i2l (v := ((xs (v3 + 2).toNatClampNeg).toInt64)) hx hb dL_law_187 rfl ?_
        refine lv_bipush (v := 32) hx hb dL_law_188 (by decide) ?_
        refine lv_lshl (v := (((xs (v3 + 2).toNatClampNeg).toInt64) <<< ((32 : Int32).toInt64 &&& 63))) hx hb dL_law_190 rfl ?_
        refine lv_aload_n hx hb dL_law_191 rfl (lv_at hl 0 rfl) ?_
        refine lv_iload_n hx hb dL_law_192 rfl (lv_at hl 3 rfl) ?_
        refine lv_iconst (v := 3) hx hb dL_law_193 (by decide) ?_
        refine lv_iadd hx hb dL_law_194 ?_
        obtain ⟨g13, h⟩ := zck_ex h
        refine va_sld hx hb hX hbl hbA hw.2.2.2.1 (zin_in g13) dL_law_195 ?_
        refine lv_i2l (v := ((xs (v3 + 3).toNatClampNeg).toInt64)) hx hb dL_law_196 rfl ?_
        refine lv_ldc2 (v := 4294967295) hx hb hown (hts _ kc_L_13) dL_law_197 ?_
        refine lv_land hx hb dL_law_200 ?_
        refine lv_lor hx hb dL_law_201 ?_
        obtain ⟨q14, eq14, h⟩ := Option.bind_eq_some_iff.mp h
        refine z_callV (ci := 11) (As := [.int (xs (v3 + 1).toNatClampNeg), .long ((((xs (v3 + 2).toNatClampNeg).toInt64) <<< ((32 : Int32).toInt64 &&& 63)) ||| (((xs (v3 + 3).toNatClampNeg).toInt64) &&& 4294967295))]) (rest := []) (rv := (some (.int q14.1))) (M1 := q14.2) S hw (c_X11_feed l hG t1 (xs (v3 + 1).toNatClampNeg) ((((xs (v3 + 2).toNatClampNeg).toInt64) <<< ((32 : Int32).toInt64 &&& 63)) ||| (((xs (v3 + 3).toNatClampNeg).toInt64) &&& 4294967295)) k1 M q14 eq14) mv_X11_feed lk_L_15 k1 ⟨_, _, rfl⟩ (by decide) rfl rfl (Nat.le_of_ble_eq_true rfl) ⟨Nat.le_of_ble_eq_true rfl, Nat.le_of_ble_eq_true rfl⟩ hl.1 dL_law_202 (fun H locs hw => ?_)
        refine lv_aload_n hx hb dL_law_205 rfl (lv_at hl 2 rfl) ?_
        refine lv_aload_n hx hb dL_law_206 rfl (lv_at hl 0 rfl) ?_
        refine lv_iload_n hx hb dL_law_207 rfl (lv_at hl 3 rfl) ?_
        refine lv_iconst (v := 1) hx hb dL_law_208 (by decide) ?_
        refine lv_iadd hx hb dL_law_209 ?_
        obtain ⟨g15, h⟩ := zck_ex h
        refine va_sld hx hb hX hbl hbA hw.2.2.2.1 (zin_in g15) dL_law_210 ?_
        refine lv_aload_n hx hb dL_law_211 rfl (lv_at hl 0 rfl) ?_
        refine lv_iload_n hx hb dL_law_212 rfl (lv_at hl 3 rfl) ?_
        refine lv_iconst (v := 2) hx hb dL_law_213 (by decide) ?_
        refine lv_iadd hx hb dL_law_214 ?_
        obtain ⟨g16, h⟩ := zck_ex h
        refine va_sld hx hb hX hbl hbA hw.2.2.2.1 (zin_in g16) dL_law_215 ?_
        refine lv_i2l (v := ((xs (v3 + 2).toNatClampNeg).toInt64)) hx hb dL_law_216 rfl ?_
        refine lv_bipush (v := 32) hx hb dL_law_217 (by decide) ?_
        refine lv_lshl (v := (((xs (v3 + 2).toNatClampNeg).toInt64) <<< ((32 : Int32).toInt64 &&& 63))) hx hb dL_law_219 rfl ?_
        refine lv_aload_n hx hb dL_law_220 rfl (lv_at hl 0 rfl) ?_
        refine lv_iload_n hx hb dL_law_221 rfl (lv_at hl 3 rfl) ?_
        refine lv_iconst (v := 3) hx hb dL_law_222 (by decide) ?_
        refine lv_iadd hx hb dL_law_223 ?_
        obtain ⟨g17, h⟩ := zck_ex h
        refine va_sld hx hb hX hbl hbA hw.2.2.2.1 (zin_in g17) dL_law_224 ?_
        refine lv_i2l (v := ((xs (v3 + 3).toNatClampNeg).toInt64)) hx hb dL_law_225 rfl ?_
        refine lv_ldc2 (v := 4294967295) hx hb hown (hts _ kc_L_13) dL_law_226 ?_
        refine lv_land hx hb dL_law_229 ?_
        refine lv_lor hx hb dL_law_230 ?_
        obtain ⟨q18, eq18, h⟩ := Option.bind_eq_some_iff.mp h
        refine z_callV (ci := 12) (As := [.int (xs (v3 + 1).toNatClampNeg), .long ((((xs (v3 + 2).toNatClampNeg).toInt64) <<< ((32 : Int32).toInt64 &&& 63)) ||| (((xs (v3 + 3).toNatClampNeg).toInt64) &&& 4294967295))]) (rest := [.int q14.1]) (rv := (some (.int q18.1))) (M1 := q18.2) S hw (c_X12_feed l hG t2 (xs (v3 + 1).toNatClampNeg) ((((xs (v3 + 2).toNatClampNeg).toInt64) <<< ((32 : Int32).toInt64 &&& 63)) ||| (((xs (v3 + 3).toNatClampNeg).toInt64) &&& 4294967295)) k2 q14.2 q18 eq18) mv_X12_feed lk_L_19 k2 ⟨_, _, rfl⟩ (by decide) rfl rfl (Nat.le_of_ble_eq_true rfl) ⟨Nat.le_of_ble_eq_true rfl, Nat.le_of_ble_eq_true rfl⟩ hl.1 dL_law_231 (fun H locs hw => ?_)
        refine lv_icmp_eq (tgt := 941) hx hb dL_law_234 (by decide) (fun c19 => ?_) (fun c19 => ?_)
        · have h := zif_t h c19
          obtain ⟨x20, ex20, h⟩ := zlet_ex h
          refine lv_iinc (v := x20) (lv' := [(3, .int x20), (0, .ref b), (1, .ref (za G t1)), (2, .ref (za G t2))]) hx hb dL_law_941 hl (k := 3) rfl (by rw [ex20]; rfl) (by decide) rfl (fun ls hl => ?_)
          refine lv_goto (tgt := 18) hx hb dL_law_944 (by decide) ?_
          exact ih x20 q18.2 h H locs ls hw (lv_sub hl [1, 2, 3, 0] rfl)
        · have h := zif_f h c19
          refine lv_iconst (v := 0) hx hb dL_law_237 (by decide) ?_
          exact absurd (Option.some.inj h) (by decide)
      have h := zif_f h c10
      rcases Decidable.em (x9 = 1) with c21 | c21
      · have h := zif_t h c21
        refine z_tab S (off := 207) c21 (by decide) (by decide) dL_law_32 (by decide +kernel) (tgt := 239) (by decide) ?_
        refine lv_aload_n hx hb dL_law_239 rfl (lv_at hl 1 rfl) ?_
        obtain ⟨q22, eq22, h⟩ := Option.bind_eq_some_iff.mp h
        refine z_callV (ci := 11) (As := []) (rest := []) (rv := (some (.int q22.1))) (M1 := q22.2) S hw (c_X11_read l hG t1 k1 M q22 eq22) mv_X11_read lk_L_20 k1 ⟨_, _, rfl⟩ (by decide) rfl rfl (Nat.le_of_ble_eq_true rfl) ⟨Nat.le_of_ble_eq_true rfl, Nat.le_of_ble_eq_true rfl⟩ hl.1 dL_law_240 (fun H locs hw => ?_)
        refine lv_aload_n hx hb dL_law_243 rfl (lv_at hl 2 rfl) ?_
        obtain ⟨q23, eq23, h⟩ := Option.bind_eq_some_iff.mp h
        refine z_callV (ci := 12) (As := []) (rest := [.int q22.1]) (rv := (some (.int q23.1))) (M1 := q23.2) S hw (c_X12_read l hG t2 k2 q22.2 q23 eq23) mv_X12_read lk_L_24 k2 ⟨_, _, rfl⟩ (by decide) rfl rfl (Nat.le_of_ble_eq_true rfl) ⟨Nat.le_of_ble_eq_true rfl, Nat.le_of_ble_eq_true rfl⟩ hl.1 dL_law_244 (fun H locs hw => ?_)
        refine lv_icmp_eq (tgt := 941) hx hb dL_law_247 (by decide) (fun c24 => ?_) (fun c24 => ?_)
        · have h := zif_t h c24
          obtain ⟨x25, ex25, h⟩ := zlet_ex h
          refine lv_iinc (v := x25) (lv' := [(3, .int x25), (0, .ref b), (1, .ref (za G t1)), (2, .ref (za G t2))]) hx hb dL_law_941 hl (k := 3) rfl (by rw [ex25]; rfl) (by decide) rfl (fun ls hl => ?_)
          refine lv_goto (tgt := 18) hx hb dL_law_944 (by decide) ?_
          exact ih x25 q23.2 h H locs ls hw (lv_sub hl [1, 2, 3, 0] rfl)
        · have h := zif_f h c24
          refine lv_iconst (v := 0) hx hb dL_law_250 (by decide) ?_
          exact absurd (Option.some.inj h) (by decide)
      have h := zif_f h c21
      rcases Decidable.em (x9 = 2) with c26 | c26
      · have h := zif_t h c26
        refine z_tab S (off := 220) c26 (by decide) (by decide) dL_law_32 (by decide +kernel) (tgt := 252) (by decide) ?_
        refine lv_aload_n hx hb dL_law_252 rfl (lv_at hl 1 rfl) ?_
        refine lv_aload_n hx hb dL_law_253 rfl (lv_at hl 0 rfl) ?_
        refine lv_iload_n hx hb dL_law_254 rfl (lv_at hl 3 rfl) ?_
        refine lv_iconst (v := 1) hx hb dL_law_255 (by decide) ?_
        refine lv_iadd hx hb dL_law_256 ?_
        obtain ⟨g27, h⟩ := zck_ex h
        refine va_sld hx hb hX hbl hbA hw.2.2.2.1 (zin_in g27) dL_law_257 ?_
        obtain ⟨q28, eq28, h⟩ := zlet_ex h
        refine z_callV (ci := 11) (As := [.int (xs (v3 + 1).toNatClampNeg)]) (rest := []) (rv := (some (.int q28))) (M1 := M) S hw (c_X11_wordAt l hG t1 (xs (v3 + 1).toNatClampNeg) k1 M q28 eq28.symm) mv_X11_wordAt lk_L_25 k1 ⟨_, _, rfl⟩ (by decide) rfl rfl (Nat.le_of_ble_eq_true rfl) ⟨Nat.le_of_ble_eq_true rfl, Nat.le_of_ble_eq_true rfl⟩ hl.1 dL_law_258 (fun H locs hw => ?_)
        refine lv_aload_n hx hb dL_law_261 rfl (lv_at hl 2 rfl) ?_
        refine lv_aload_n hx hb dL_law_262 rfl (lv_at hl 0 rfl) ?_
        refine lv_iload_n hx hb dL_law_263 rfl (lv_at hl 3 rfl) ?_
        refine lv_iconst (v := 1) hx hb dL_law_264 (by decide) ?_
        refine lv_iadd hx hb dL_law_265 ?_
        obtain ⟨g29, h⟩ := zck_ex h
        refine va_sld hx hb hX hbl hbA hw.2.2.2.1 (zin_in g29) dL_law_266 ?_
        obtain ⟨q30, eq30, h⟩ := Option.bind_eq_some_iff.mp h
        refine z_callV (ci := 12) (As := [.int (xs (v3 + 1).toNatClampNeg)]) (rest := [.int q28]) (rv := (some (.int q30))) (M1 := M) S hw (c_X12_wordAt l hG t2 (xs (v3 + 1).toNatClampNeg) k2 M q30 eq30) mv_X12_wordAt lk_L_29 k2 ⟨_, _, rfl⟩ (by decide) rfl rfl (Nat.le_of_ble_eq_true rfl) ⟨Nat.le_of_ble_eq_true rfl, Nat.le_of_ble_eq_true rfl⟩ hl.1 dL_law_267 (fun H locs hw => ?_)
        refine lv_icmp_eq (tgt := 941) hx hb dL_law_270 (by decide) (fun c31 => ?_) (fun c31 => ?_)
        · have h := zif_t h c31
          obtain ⟨x32, ex32, h⟩ := zlet_ex h
          refine lv_iinc (v := x32) (lv' := [(3, .int x32), (0, .ref b), (1, .ref (za G t1)), (2, .ref (za G t2))]) hx hb dL_law_941 hl (k := 3) rfl (by rw [ex32]; rfl) (by decide) rfl (fun ls hl => ?_)
          refine lv_goto (tgt := 18) hx hb dL_law_944 (by decide) ?_
          exact ih x32 M h H locs ls hw (lv_sub hl [1, 2, 3, 0] rfl)
        · have h := zif_f h c31
          refine lv_iconst (v := 0) hx hb dL_law_273 (by decide) ?_
          exact absurd (Option.some.inj h) (by decide)
      have h := zif_f h c26
      rcases Decidable.em (x9 = 3) with c33 | c33
      · have h := zif_t h c33
        refine z_tab S (off := 243) c33 (by decide) (by decide) dL_law_32 (by decide +kernel) (tgt := 275) (by decide) ?_
        refine lv_aload_n hx hb dL_law_275 rfl (lv_at hl 1 rfl) ?_
        obtain ⟨q34, eq34, h⟩ := zlet_ex h
        refine z_callV (ci := 11) (As := []) (rest := []) (rv := (some (.long q34))) (M1 := M) S hw (c_X11_readings l hG t1 k1 M q34 eq34.symm) mv_X11_readings lk_L_30 k1 ⟨_, _, rfl⟩ (by decide) rfl rfl (Nat.le_of_ble_eq_true rfl) ⟨Nat.le_of_ble_eq_true rfl, Nat.le_of_ble_eq_true rfl⟩ hl.1 dL_law_276 (fun H locs hw => ?_)
        refine lv_aload_n hx hb dL_law_279 rfl (lv_at hl 2 rfl) ?_
        obtain ⟨q35, eq35, h⟩ := Option.bind_eq_some_iff.mp h
        refine z_callV (ci := 12) (As := []) (rest := [.long q34]) (rv := (some (.long q35))) (M1 := M) S hw (c_X12_readings l hG t2 k2 M q35 eq35) mv_X12_readings lk_L_34 k2 ⟨_, _, rfl⟩ (by decide) rfl rfl (Nat.le_of_ble_eq_true rfl) ⟨Nat.le_of_ble_eq_true rfl, Nat.le_of_ble_eq_true rfl⟩ hl.1 dL_law_280 (fun H locs hw => ?_)
        refine W.lcmp hx hb dL_law_283 ?_
        refine lv_if_eq (tgt := 941) hx hb dL_law_284 (by decide) (fun c36 => ?_) (fun c36 => ?_)
        · have h := zif_t h c36
          obtain ⟨x37, ex37, h⟩ := zlet_ex h
          refine lv_iinc (v := x37) (lv' := [(3, .int x37), (0, .ref b), (1, .ref (za G t1)), (2, .ref (za G t2))]) hx hb dL_law_941 hl (k := 3) rfl (by rw [ex37]; rfl) (by decide) rfl (fun ls hl => ?_)
          refine lv_goto (tgt := 18) hx hb dL_law_944 (by decide) ?_
          exact ih x37 M h H locs ls hw (lv_sub hl [1, 2, 3, 0] rfl)
        · have h := zif_f h c36
          refine lv_iconst (v := 0) hx hb dL_law_287 (by decide) ?_
          exact absurd (Option.some.inj h) (by decide)
      have h := zif_f h c33
      rcases Decidable.em (x9 = 4) with c38 | c38
      · have h := zif_t h c38
        refine z_tab S (off := 257) c38 (by decide) (by decide) dL_law_32 (by decide +kernel) (tgt := 289) (by decide) ?_
        refine lv_aload_n hx hb dL_law_289 rfl (lv_at hl 1 rfl) ?_
        refine lv_aload_n hx hb dL_law_290 rfl (lv_at hl 0 rfl) ?_
        refine lv_iload_n hx hb dL_law_291 rfl (lv_at hl 3 rfl) ?_
        refine lv_iconst (v := 1) hx hb dL_law_292 (by decide) ?_
        refine lv_iadd hx hb dL_law_293 ?_
        obtain ⟨g39, h⟩ := zck_ex h
        refine va_sld hx hb hX hbl hbA hw.2.2.2.1 (zin_in g39) dL_law_294 ?_
        obtain ⟨q40, eq40, h⟩ := Option.bind_eq_some_iff.mp h
        refine z_callV (ci := 11) (As := [.int (xs (v3 + 1).toNatClampNeg)]) (rest := []) (rv := (some (.int q40.1))) (M1 := q40.2) S hw (c_X11_nodes l hG t1 (xs (v3 + 1).toNatClampNeg) k1 M q40 eq40) mv_X11_nodes lk_L_35 k1 ⟨_, _, rfl⟩ (by decide) rfl rfl (Nat.le_of_ble_eq_true rfl) ⟨Nat.le_of_ble_eq_true rfl, Nat.le_of_ble_eq_true rfl⟩ hl.1 dL_law_295 (fun H locs hw => ?_)
        refine lv_aload_n hx hb dL_law_298 rfl (lv_at hl 2 rfl) ?_
        refine lv_aload_n hx hb dL_law_299 rfl (lv_at hl 0 rfl) ?_
        refine lv_iload_n hx hb dL_law_300 rfl (lv_at hl 3 rfl) ?_
        refine lv_iconst (v := 1) hx hb dL_law_301 (by decide) ?_
        refine lv_iadd hx hb dL_law_302 ?_
        obtain ⟨g41, h⟩ := zck_ex h
        refine va_sld hx hb hX hbl hbA hw.2.2.2.1 (zin_in g41) dL_law_303 ?_
        obtain ⟨q42, eq42, h⟩ := Option.bind_eq_some_iff.mp h
        refine z_callV (ci := 12) (As := [.int (xs (v3 + 1).toNatClampNeg)]) (rest := [.int q40.1]) (rv := (some (.int q42.1))) (M1 := q42.2) S hw (c_X12_nodes l hG t2 (xs (v3 + 1).toNatClampNeg) k2 q40.2 q42 eq42) mv_X12_nodes lk_L_38 k2 ⟨_, _, rfl⟩ (by decide) rfl rfl (Nat.le_of_ble_eq_true rfl) ⟨Nat.le_of_ble_eq_true rfl, Nat.le_of_ble_eq_true rfl⟩ hl.1 dL_law_304 (fun H locs hw => ?_)
        refine lv_icmp_eq (tgt := 941) hx hb dL_law_307 (by decide) (fun c43 => ?_) (fun c43 => ?_)
        · have h := zif_t h c43
          obtain ⟨x44, ex44, h⟩ := zlet_ex h
          refine lv_iinc (v := x44) (lv' := [(3, .int x44), (0, .ref b), (1, .ref (za G t1)), (2, .ref (za G t2))]) hx hb dL_law_941 hl (k := 3) rfl (by rw [ex44]; rfl) (by decide) rfl (fun ls hl => ?_)
          refine lv_goto (tgt := 18) hx hb dL_law_944 (by decide) ?_
          exact ih x44 q42.2 h H locs ls hw (lv_sub hl [1, 2, 3, 0] rfl)
        · have h := zif_f h c43
          refine lv_iconst (v := 0) hx hb dL_law_310 (by decide) ?_
          exact absurd (Option.some.inj h) (by decide)
      have h := zif_f h c38
      rcases Decidable.em (x9 = 5) with c45 | c45
      · have h := zif_t h c45
        refine z_tab S (off := 280) c45 (by decide) (by decide) dL_law_32 (by decide +kernel) (tgt := 312) (by decide) ?_
        refine lv_aload_n hx hb dL_law_312 rfl (lv_at hl 1 rfl) ?_
        refine lv_aload_n hx hb dL_law_313 rfl (lv_at hl 0 rfl) ?_
        refine lv_iload_n hx hb dL_law_314 rfl (lv_at hl 3 rfl) ?_
        refine lv_iconst (v := 1) hx hb dL_law_315 (by decide) ?_
        refine lv_iadd hx hb dL_law_316 ?_
        obtain ⟨g46, h⟩ := zck_ex h
        refine va_sld hx hb hX hbl hbA hw.2.2.2.1 (zin_in g46) dL_law_317 ?_
        refine lv_aload_n hx hb dL_law_318 rfl (lv_at hl 0 rfl) ?_
        refine lv_iload_n hx hb dL_law_319 rfl (lv_at hl 3 rfl) ?_
        refine lv_iconst (v := 2) hx hb dL_law_320 (by decide) ?_
        refine lv_iadd hx hb dL_law_321 ?_
        obtain ⟨g47, h⟩ := zck_ex h
        refine va_sld hx hb hX hbl hbA hw.2.2.2.1 (zin_in g47) dL_law_322 ?_
        refine lv_aload_n hx hb dL_law_323 rfl (lv_at hl 0 rfl) ?_
        refine lv_iload_n hx hb dL_law_324 rfl (lv_at hl 3 rfl) ?_
        refine lv_iconst (v := 3) hx hb dL_law_325 (by decide) ?_
        refine lv_iadd hx hb dL_law_326 ?_
        obtain ⟨g48, h⟩ := zck_ex h
        refine va_sld hx hb hX hbl hbA hw.2.2.2.1 (zin_in g48) dL_law_327 ?_
        obtain ⟨q49, eq49, h⟩ := Option.bind_eq_some_iff.mp h
        refine z_callV (ci := 11) (As := [.int (xs (v3 + 1).toNatClampNeg), .int (xs (v3 + 2).toNatClampNeg), .int (xs (v3 + 3).toNatClampNeg)]) (rest := []) (rv := (some (.int q49.1))) (M1 := q49.2) S hw (c_X11_node l hG t1 (xs (v3 + 1).toNatClampNeg) (xs (v3 + 2).toNatClampNeg) (xs (v3 + 3).toNatClampNeg) k1 M q49 eq49) mv_X11_node lk_L_39 k1 ⟨_, _, rfl⟩ (by decide) rfl rfl (Nat.le_of_ble_eq_true rfl) ⟨Nat.le_of_ble_eq_true rfl, Nat.le_of_ble_eq_true rfl⟩ hl.1 dL_law_328 (fun H locs hw => ?_)
        refine lv_aload_n hx hb dL_law_331 rfl (lv_at hl 2 rfl) ?_
        refine lv_aload_n hx hb dL_law_332 rfl (lv_at hl 0 rfl) ?_
        refine lv_iload_n hx hb dL_law_333 rfl (lv_at hl 3 rfl) ?_
        refine lv_iconst (v := 1) hx hb dL_law_334 (by decide) ?_
        refine lv_iadd hx hb dL_law_335 ?_
        obtain ⟨g50, h⟩ := zck_ex h
        refine va_sld hx hb hX hbl hbA hw.2.2.2.1 (zin_in g50) dL_law_336 ?_
        refine lv_aload_n hx hb dL_law_337 rfl (lv_at hl 0 rfl) ?_
        refine lv_iload_n hx hb dL_law_338 rfl (lv_at hl 3 rfl) ?_
        refine lv_iconst (v := 2) hx hb dL_law_339 (by decide) ?_
        refine lv_iadd hx hb dL_law_340 ?_
        obtain ⟨g51, h⟩ := zck_ex h
        refine va_sld hx hb hX hbl hbA hw.2.2.2.1 (zin_in g51) dL_law_341 ?_
        refine lv_aload_n hx hb dL_law_342 rfl (lv_at hl 0 rfl) ?_
        refine lv_iload_n hx hb dL_law_343 rfl (lv_at hl 3 rfl) ?_
        refine lv_iconst (v := 3) hx hb dL_law_344 (by decide) ?_
        refine lv_iadd hx hb dL_law_345 ?_
        obtain ⟨g52, h⟩ := zck_ex h
        refine va_sld hx hb hX hbl hbA hw.2.2.2.1 (zin_in g52) dL_law_346 ?_
        obtain ⟨q53, eq53, h⟩ := Option.bind_eq_some_iff.mp h
        refine z_callV (ci := 12) (As := [.int (xs (v3 + 1).toNatClampNeg), .int (xs (v3 + 2).toNatClampNeg), .int (xs (v3 + 3).toNatClampNeg)]) (rest := [.int q49.1]) (rv := (some (.int q53.1))) (M1 := q53.2) S hw (c_X12_node l hG t2 (xs (v3 + 1).toNatClampNeg) (xs (v3 + 2).toNatClampNeg) (xs (v3 + 3).toNatClampNeg) k2 q49.2 q53 eq53) mv_X12_node lk_L_43 k2 ⟨_, _, rfl⟩ (by decide) rfl rfl (Nat.le_of_ble_eq_true rfl) ⟨Nat.le_of_ble_eq_true rfl, Nat.le_of_ble_eq_true rfl⟩ hl.1 dL_law_347 (fun H locs hw => ?_)
        refine lv_icmp_eq (tgt := 941) hx hb dL_law_350 (by decide) (fun c54 => ?_) (fun c54 => ?_)
        · have h := zif_t h c54
          obtain ⟨x55, ex55, h⟩ := zlet_ex h
          refine lv_iinc (v := x55) (lv' := [(3, .int x55), (0, .ref b), (1, .ref (za G t1)), (2, .ref (za G t2))]) hx hb dL_law_941 hl (k := 3) rfl (by rw [ex55]; rfl) (by decide) rfl (fun ls hl => ?_)
          refine lv_goto (tgt := 18) hx hb dL_law_944 (by decide) ?_
          exact ih x55 q53.2 h H locs ls hw (lv_sub hl [1, 2, 3, 0] rfl)
        · have h := zif_f h c54
          refine lv_iconst (v := 0) hx hb dL_law_353 (by decide) ?_
          exact absurd (Option.some.inj h) (by decide)
      have h := zif_f h c45
      rcases Decidable.em (x9 = 6) with c56 | c56
      · have h := zif_t h c56
        refine z_tab S (off := 323) c56 (by decide) (by decide) dL_law_32 (by decide +kernel) (tgt := 355) (by decide) ?_
        refine lv_aload_n hx hb dL_law_355 rfl (lv_at hl 1 rfl) ?_
        refine lv_aload_n hx hb dL_law_356 rfl (lv_at hl 0 rfl) ?_
        refine lv_iload_n hx hb dL_law_357 rfl (lv_at hl 3 rfl) ?_
        refine lv_iconst (v := 1) hx hb dL_law_358 (by decide) ?_
        refine lv_iadd hx hb dL_law_359 ?_
        obtain ⟨g57, h⟩ := zck_ex h
        refine va_sld hx hb hX hbl hbA hw.2.2.2.1 (zin_in g57) dL_law_360 ?_
        obtain ⟨q58, eq58, h⟩ := Option.bind_eq_some_iff.mp h
        refine z_callV (ci := 11) (As := [.int (xs (v3 + 1).toNatClampNeg)]) (rest := []) (rv := (some (.long q58.1))) (M1 := q58.2) S hw (c_X11_means l hG t1 (xs (v3 + 1).toNatClampNeg) k1 M q58 eq58) mv_X11_means lk_L_44 k1 ⟨_, _, rfl⟩ (by decide) rfl rfl (Nat.le_of_ble_eq_true rfl) ⟨Nat.le_of_ble_eq_true rfl, Nat.le_of_ble_eq_true rfl⟩ hl.1 dL_law_361 (fun H locs hw => ?_)
        refine lv_aload_n hx hb dL_law_364 rfl (lv_at hl 2 rfl) ?_
        refine lv_aload_n hx hb dL_law_365 rfl (lv_at hl 0 rfl) ?_
        refine lv_iload_n hx hb dL_law_366 rfl (lv_at hl 3 rfl) ?_
        refine lv_iconst (v := 1) hx hb dL_law_367 (by decide) ?_
        refine lv_iadd hx hb dL_law_368 ?_
        obtain ⟨g59, h⟩ := zck_ex h
        refine va_sld hx hb hX hbl hbA hw.2.2.2.1 (zin_in g59) dL_law_369 ?_
        obtain ⟨q60, eq60, h⟩ := Option.bind_eq_some_iff.mp h
        refine z_callV (ci := 12) (As := [.int (xs (v3 + 1).toNatClampNeg)]) (rest := [.long q58.1]) (rv := (some (.long q60.1))) (M1 := q60.2) S hw (c_X12_means l hG t2 (xs (v3 + 1).toNatClampNeg) k2 q58.2 q60 eq60) mv_X12_means lk_L_48 k2 ⟨_, _, rfl⟩ (by decide) rfl rfl (Nat.le_of_ble_eq_true rfl) ⟨Nat.le_of_ble_eq_true rfl, Nat.le_of_ble_eq_true rfl⟩ hl.1 dL_law_370 (fun H locs hw => ?_)
        refine W.lcmp hx hb dL_law_373 ?_
        refine lv_if_eq (tgt := 941) hx hb dL_law_374 (by decide) (fun c61 => ?_) (fun c61 => ?_)
        · have h := zif_t h c61
          obtain ⟨x62, ex62, h⟩ := zlet_ex h
          refine lv_iinc (v := x62) (lv' := [(3, .int x62), (0, .ref b), (1, .ref (za G t1)), (2, .ref (za G t2))]) hx hb dL_law_941 hl (k := 3) rfl (by rw [ex62]; rfl) (by decide) rfl (fun ls hl => ?_)
          refine lv_goto (tgt := 18) hx hb dL_law_944 (by decide) ?_
          exact ih x62 q60.2 h H locs ls hw (lv_sub hl [1, 2, 3, 0] rfl)
        · have h := zif_f h c61
          refine lv_iconst (v := 0) hx hb dL_law_377 (by decide) ?_
          exact absurd (Option.some.inj h) (by decide)
      have h := zif_f h c56
      rcases Decidable.em (x9 = 7) with c63 | c63
      · have h := zif_t h c63
        refine z_tab S (off := 347) c63 (by decide) (by decide) dL_law_32 (by decide +kernel) (tgt := 379) (by decide) ?_
        refine lv_aload_n hx hb dL_law_379 rfl (lv_at hl 1 rfl) ?_
        refine lv_aload_n hx hb dL_law_380 rfl (lv_at hl 0 rfl) ?_
        refine lv_iload_n hx hb dL_law_381 rfl (lv_at hl 3 rfl) ?_
        refine lv_iconst (v := 1) hx hb dL_law_382 (by decide) ?_
        refine lv_iadd hx hb dL_law_383 ?_
        obtain ⟨g64, h⟩ := zck_ex h
        refine va_sld hx hb hX hbl hbA hw.2.2.2.1 (zin_in g64) dL_law_384 ?_
        refine lv_aload_n hx hb dL_law_385 rfl (lv_at hl 0 rfl) ?_
        refine lv_iload_n hx hb dL_law_386 rfl (lv_at hl 3 rfl) ?_
        refine lv_iconst (v := 2) hx hb dL_law_387 (by decide) ?_
        refine lv_iadd hx hb dL_law_388 ?_
        obtain ⟨g65, h⟩ := zck_ex h
        refine va_sld hx hb hX hbl hbA hw.2.2.2.1 (zin_in g65) dL_law_389 ?_
        obtain ⟨q66, eq66, h⟩ := Option.bind_eq_some_iff.mp h
        refine z_callV (ci := 11) (As := [.int (xs (v3 + 1).toNatClampNeg), .int (xs (v3 + 2).toNatClampNeg)]) (rest := []) (rv := (some (.int q66.1))) (M1 := q66.2) S hw (c_X11_lets l hG t1 (xs (v3 + 1).toNatClampNeg) (xs (v3 + 2).toNatClampNeg) k1 M q66 eq66) mv_X11_lets lk_L_49 k1 ⟨_, _, rfl⟩ (by decide) rfl rfl (Nat.le_of_ble_eq_true rfl) ⟨Nat.le_of_ble_eq_true rfl, Nat.le_of_ble_eq_true rfl⟩ hl.1 dL_law_390 (fun H locs hw => ?_)
        refine lv_aload_n hx hb dL_law_393 rfl (lv_at hl 2 rfl) ?_
        refine lv_aload_n hx hb dL_law_394 rfl (lv_at hl 0 rfl) ?_
        refine lv_iload_n hx hb dL_law_395 rfl (lv_at hl 3 rfl) ?_
        refine lv_iconst (v := 1) hx hb dL_law_396 (by decide) ?_
        refine lv_iadd hx hb dL_law_397 ?_
        obtain ⟨g67, h⟩ := zck_ex h
        refine va_sld hx hb hX hbl hbA hw.2.2.2.1 (zin_in g67) dL_law_398 ?_
        refine lv_aload_n hx hb dL_law_399 rfl (lv_at hl 0 rfl) ?_
        refine lv_iload_n hx hb dL_law_400 rfl (lv_at hl 3 rfl) ?_
        refine lv_iconst (v := 2) hx hb dL_law_401 (by decide) ?_
        refine lv_iadd hx hb dL_law_402 ?_
        obtain ⟨g68, h⟩ := zck_ex h
        refine va_sld hx hb hX hbl hbA hw.2.2.2.1 (zin_in g68) dL_law_403 ?_
        obtain ⟨q69, eq69, h⟩ := Option.bind_eq_some_iff.mp h
        refine z_callV (ci := 12) (As := [.int (xs (v3 + 1).toNatClampNeg), .int (xs (v3 + 2).toNatClampNeg)]) (rest := [.int q66.1]) (rv := (some (.int q69.1))) (M1 := q69.2) S hw (c_X12_lets l hG t2 (xs (v3 + 1).toNatClampNeg) (xs (v3 + 2).toNatClampNeg) k2 q66.2 q69 eq69) mv_X12_lets lk_L_53 k2 ⟨_, _, rfl⟩ (by decide) rfl rfl (Nat.le_of_ble_eq_true rfl) ⟨Nat.le_of_ble_eq_true rfl, Nat.le_of_ble_eq_true rfl⟩ hl.1 dL_law_404 (fun H locs hw => ?_)
        refine lv_icmp_eq (tgt := 941) hx hb dL_law_407 (by decide) (fun c70 => ?_) (fun c70 => ?_)
        · have h := zif_t h c70
          obtain ⟨x71, ex71, h⟩ := zlet_ex h
          refine lv_iinc (v := x71) (lv' := [(3, .int x71), (0, .ref b), (1, .ref (za G t1)), (2, .ref (za G t2))]) hx hb dL_law_941 hl (k := 3) rfl (by rw [ex71]; rfl) (by decide) rfl (fun ls hl => ?_)
          refine lv_goto (tgt := 18) hx hb dL_law_944 (by decide) ?_
          exact ih x71 q69.2 h H locs ls hw (lv_sub hl [1, 2, 3, 0] rfl)
        · have h := zif_f h c70
          refine lv_iconst (v := 0) hx hb dL_law_410 (by decide) ?_
          exact absurd (Option.some.inj h) (by decide)
      have h := zif_f h c63
      rcases Decidable.em (x9 = 8) with c72 | c72
      · have h := zif_t h c72
        refine z_tab S (off := 380) c72 (by decide) (by decide) dL_law_32 (by decide +kernel) (tgt := 412) (by decide) ?_
        refine lv_aload_n hx hb dL_law_412 rfl (lv_at hl 1 rfl) ?_
        refine lv_aload_n hx hb dL_law_413 rfl (lv_at hl 0 rfl) ?_
        refine lv_iload_n hx hb dL_law_414 rfl (lv_at hl 3 rfl) ?_
        refine lv_iconst (v := 1) hx hb dL_law_415 (by decide) ?_
        refine lv_iadd hx hb dL_law_416 ?_
        obtain ⟨g73, h⟩ := zck_ex h
        refine va_sld hx hb hX hbl hbA hw.2.2.2.1 (zin_in g73) dL_law_417 ?_
        obtain ⟨q74, eq74, h⟩ := Option.bind_eq_some_iff.mp h
        refine z_callV (ci := 11) (As := [.int (xs (v3 + 1).toNatClampNeg)]) (rest := []) (rv := (some (.int q74.1))) (M1 := q74.2) S hw (c_X11_map l hG t1 (xs (v3 + 1).toNatClampNeg) k1 M q74 eq74) mv_X11_map lk_L_54 k1 ⟨_, _, rfl⟩ (by decide) rfl rfl (Nat.le_of_ble_eq_true rfl) ⟨Nat.le_of_ble_eq_true rfl, Nat.le_of_ble_eq_true rfl⟩ hl.1 dL_law_418 (fun H locs hw => ?_)
        refine lv_aload_n hx hb dL_law_421 rfl (lv_at hl 2 rfl) ?_
        refine lv_aload_n hx hb dL_law_422 rfl (lv_at hl 0 rfl) ?_
        refine lv_iload_n hx hb dL_law_423 rfl (lv_at hl 3 rfl) ?_
        refine lv_iconst (v := 1) hx hb dL_law_424 (by decide) ?_
        refine lv_iadd hx hb dL_law_425 ?_
        obtain ⟨g75, h⟩ := zck_ex h
        refine va_sld hx hb hX hbl hbA hw.2.2.2.1 (zin_in g75) dL_law_426 ?_
        obtain ⟨q76, eq76, h⟩ := Option.bind_eq_some_iff.mp h
        refine z_callV (ci := 12) (As := [.int (xs (v3 + 1).toNatClampNeg)]) (rest := [.int q74.1]) (rv := (some (.int q76.1))) (M1 := q76.2) S hw (c_X12_map l hG t2 (xs (v3 + 1).toNatClampNeg) k2 q74.2 q76 eq76) mv_X12_map lk_L_57 k2 ⟨_, _, rfl⟩ (by decide) rfl rfl (Nat.le_of_ble_eq_true rfl) ⟨Nat.le_of_ble_eq_true rfl, Nat.le_of_ble_eq_true rfl⟩ hl.1 dL_law_427 (fun H locs hw => ?_)
        refine lv_icmp_eq (tgt := 941) hx hb dL_law_430 (by decide) (fun c77 => ?_) (fun c77 => ?_)
        · have h := zif_t h c77
          obtain ⟨x78, ex78, h⟩ := zlet_ex h
          refine lv_iinc (v := x78) (lv' := [(3, .int x78), (0, .ref b), (1, .ref (za G t1)), (2, .ref (za G t2))]) hx hb dL_law_941 hl (k := 3) rfl (by rw [ex78]; rfl) (by decide) rfl (fun ls hl => ?_)
          refine lv_goto (tgt := 18) hx hb dL_law_944 (by decide) ?_
          exact ih x78 q76.2 h H locs ls hw (lv_sub hl [1, 2, 3, 0] rfl)
        · have h := zif_f h c77
          refine lv_iconst (v := 0) hx hb dL_law_433 (by decide) ?_
          exact absurd (Option.some.inj h) (by decide)
      have h := zif_f h c72
      rcases Decidable.em (x9 = 9) with c79 | c79
      · have h := zif_t h c79
        refine z_tab S (off := 403) c79 (by decide) (by decide) dL_law_32 (by decide +kernel) (tgt := 435) (by decide) ?_
        refine lv_aload_n hx hb dL_law_435 rfl (lv_at hl 1 rfl) ?_
        refine lv_aload_n hx hb dL_law_436 rfl (lv_at hl 0 rfl) ?_
        refine lv_iload_n hx hb dL_law_437 rfl (lv_at hl 3 rfl) ?_
        refine lv_iconst (v := 1) hx hb dL_law_438 (by decide) ?_
        refine lv_iadd hx hb dL_law_439 ?_
        obtain ⟨g80, h⟩ := zck_ex h
        refine va_sld hx hb hX hbl hbA hw.2.2.2.1 (zin_in g80) dL_law_440 ?_
        refine lv_if_eq (tgt := 448) hx hb dL_law_441 (by decide) (fun c81 => ?_) (fun c81 => ?_)
        · have h := zif_t h c81
          refine lv_iconst (v := 0) hx hb dL_law_448 (by decide) ?_
          exact wJ449 v3 0 M h H locs ls hw (lv_sub hl [0, 1, 2, 3] rfl)
        · have h := zif_f h c81
          refine lv_iconst (v := 1) hx hb dL_law_444 (by decide) ?_
          refine lv_goto (tgt := 449) hx hb dL_law_445 (by decide) ?_
          exact wJ449 v3 1 M h H locs ls hw (lv_sub hl [0, 1, 2, 3] rfl)
      have h := zif_f h c79
      rcases Decidable.em (x9 = 10) with c82 | c82
      · have h := zif_t h c82
        refine z_tab S (off := 443) c82 (by decide) (by decide) dL_law_32 (by decide +kernel) (tgt := 475) (by decide) ?_
        refine lv_aload_n hx hb dL_law_475 rfl (lv_at hl 1 rfl) ?_
        refine lv_aload_n hx hb dL_law_476 rfl (lv_at hl 0 rfl) ?_
        refine lv_iload_n hx hb dL_law_477 rfl (lv_at hl 3 rfl) ?_
        refine lv_iconst (v := 1) hx hb dL_law_478 (by decide) ?_
        refine lv_iadd hx hb dL_law_479 ?_
        obtain ⟨g83, h⟩ := zck_ex h
        refine va_sld hx hb hX hbl hbA hw.2.2.2.1 (zin_in g83) dL_law_480 ?_
        refine lv_aload_n hx hb dL_law_481 rfl (lv_at hl 0 rfl) ?_
        refine lv_iload_n hx hb dL_law_482 rfl (lv_at hl 3 rfl) ?_
        refine lv_iconst (v := 2) hx hb dL_law_483 (by decide) ?_
        refine lv_iadd hx hb dL_law_484 ?_
        obtain ⟨g84, h⟩ := zck_ex h
        refine va_sld hx hb hX hbl hbA hw.2.2.2.1 (zin_in g84) dL_law_485 ?_
        obtain ⟨q85, eq85, h⟩ := Option.bind_eq_some_iff.mp h
        refine z_callV (ci := 11) (As := [.int (xs (v3 + 1).toNatClampNeg), .int (xs (v3 + 2).toNatClampNeg)]) (rest := []) (rv := (some (.int q85.1))) (M1 := q85.2) S hw (c_X11_same l hG t1 (xs (v3 + 1).toNatClampNeg) (xs (v3 + 2).toNatClampNeg) k1 M q85 eq85) mv_X11_same lk_L_63 k1 ⟨_, _, rfl⟩ (by decide) rfl rfl (Nat.le_of_ble_eq_true rfl) ⟨Nat.le_of_ble_eq_true rfl, Nat.le_of_ble_eq_true rfl⟩ hl.1 dL_law_486 (fun H locs hw => ?_)
        refine lv_aload_n hx hb dL_law_489 rfl (lv_at hl 2 rfl) ?_
        refine lv_aload_n hx hb dL_law_490 rfl (lv_at hl 0 rfl) ?_
        refine lv_iload_n hx hb dL_law_491 rfl (lv_at hl 3 rfl) ?_
        refine lv_iconst (v := 1) hx hb dL_law_492 (by decide) ?_
        refine lv_iadd hx hb dL_law_493 ?_
        obtain ⟨g86, h⟩ := zck_ex h
        refine va_sld hx hb hX hbl hbA hw.2.2.2.1 (zin_in g86) dL_law_494 ?_
        refine lv_aload_n hx hb dL_law_495 rfl (lv_at hl 0 rfl) ?_
        refine lv_iload_n hx hb dL_law_496 rfl (lv_at hl 3 rfl) ?_
        refine lv_iconst (v := 2) hx hb dL_law_497 (by decide) ?_
        refine lv_iadd hx hb dL_law_498 ?_
        obtain ⟨g87, h⟩ := zck_ex h
        refine va_sld hx hb hX hbl hbA hw.2.2.2.1 (zin_in g87) dL_law_499 ?_
        obtain ⟨q88, eq88, h⟩ := Option.bind_eq_some_iff.mp h
        refine z_callV (ci := 12) (As := [.int (xs (v3 + 1).toNatClampNeg), .int (xs (v3 + 2).toNatClampNeg)]) (rest := [.int q85.1]) (rv := (some (.int q88.1))) (M1 := q88.2) S hw (c_X12_same l hG t2 (xs (v3 + 1).toNatClampNeg) (xs (v3 + 2).toNatClampNeg) k2 q85.2 q88 eq88) mv_X12_same lk_L_66 k2 ⟨_, _, rfl⟩ (by decide) rfl rfl (Nat.le_of_ble_eq_true rfl) ⟨Nat.le_of_ble_eq_true rfl, Nat.le_of_ble_eq_true rfl⟩ hl.1 dL_law_500 (fun H locs hw => ?_)
        refine lv_icmp_eq (tgt := 941) hx hb dL_law_503 (by decide) (fun c89 => ?_) (fun c89 => ?_)
        · have h := zif_t h c89
          obtain ⟨x90, ex90, h⟩ := zlet_ex h
          refine lv_iinc (v := x90) (lv' := [(3, .int x90), (0, .ref b), (1, .ref (za G t1)), (2, .ref (za G t2))]) hx hb dL_law_941 hl (k := 3) rfl (by rw [ex90]; rfl) (by decide) rfl (fun ls hl => ?_)
          refine lv_goto (tgt := 18) hx hb dL_law_944 (by decide) ?_
          exact ih x90 q88.2 h H locs ls hw (lv_sub hl [1, 2, 3, 0] rfl)
        · have h := zif_f h c89
          refine lv_iconst (v := 0) hx hb dL_law_506 (by decide) ?_
          exact absurd (Option.some.inj h) (by decide)
      have h := zif_f h c82
      rcases Decidable.em (x9 = 11) with c91 | c91
      · have h := zif_t h c91
        refine z_tab S (off := 476) c91 (by decide) (by decide) dL_law_32 (by decide +kernel) (tgt := 508) (by decide) ?_
        refine lv_aload_n hx hb dL_law_508 rfl (lv_at hl 1 rfl) ?_
        obtain ⟨q92, eq92, h⟩ := Option.bind_eq_some_iff.mp h
        refine z_callV (ci := 11) (As := []) (rest := []) (rv := (some (.int q92.1))) (M1 := q92.2) S hw (c_X11_unlike l hG t1 k1 M q92 eq92) mv_X11_unlike lk_L_67 k1 ⟨_, _, rfl⟩ (by decide) rfl rfl (Nat.le_of_ble_eq_true rfl) ⟨Nat.le_of_ble_eq_true rfl, Nat.le_of_ble_eq_true rfl⟩ hl.1 dL_law_509 (fun H locs hw => ?_)
        refine lv_aload_n hx hb dL_law_512 rfl (lv_at hl 2 rfl) ?_
        obtain ⟨q93, eq93, h⟩ := Option.bind_eq_some_iff.mp h
        refine z_callV (ci := 12) (As := []) (rest := [.int q92.1]) (rv := (some (.int q93.1))) (M1 := q93.2) S hw (c_X12_unlike l hG t2 k2 q92.2 q93 eq93) mv_X12_unlike lk_L_70 k2 ⟨_, _, rfl⟩ (by decide) rfl rfl (Nat.le_of_ble_eq_true rfl) ⟨Nat.le_of_ble_eq_true rfl, Nat.le_of_ble_eq_true rfl⟩ hl.1 dL_law_513 (fun H locs hw => ?_)
        refine lv_icmp_eq (tgt := 941) hx hb dL_law_516 (by decide) (fun c94 => ?_) (fun c94 => ?_)
        · have h := zif_t h c94
          obtain ⟨x95, ex95, h⟩ := zlet_ex h
          refine lv_iinc (v := x95) (lv' := [(3, .int x95), (0, .ref b), (1, .ref (za G t1)), (2, .ref (za G t2))]) hx hb dL_law_941 hl (k := 3) rfl (by rw [ex95]; rfl) (by decide) rfl (fun ls hl => ?_)
          refine lv_goto (tgt := 18) hx hb dL_law_944 (by decide) ?_
          exact ih x95 q93.2 h H locs ls hw (lv_sub hl [1, 2, 3, 0] rfl)
        · have h := zif_f h c94
          refine lv_iconst (v := 0) hx hb dL_law_519 (by decide) ?_
          exact absurd (Option.some.inj h) (by decide)
      have h := zif_f h c91
      rcases Decidable.em (x9 = 12) with c96 | c96
      · have h := zif_t h c96
        refine z_tab S (off := 489) c96 (by decide) (by decide) dL_law_32 (by decide +kernel) (tgt := 521) (by decide) ?_
        refine lv_aload_n hx hb dL_law_521 rfl (lv_at hl 1 rfl) ?_
        refine lv_aload_n hx hb dL_law_522 rfl (lv_at hl 0 rfl) ?_
        refine lv_iload_n hx hb dL_law_523 rfl (lv_at hl 3 rfl) ?_
        refine lv_iconst (v := 1) hx hb dL_law_524 (by decide) ?_
        refine lv_iadd hx hb dL_law_525 ?_
        obtain ⟨g97, h⟩ := zck_ex h
        refine va_sld hx hb hX hbl hbA hw.2.2.2.1 (zin_in g97) dL_law_526 ?_
        refine lv_aload_n hx hb dL_law_527 rfl (lv_at hl 0 rfl) ?_
        refine lv_iload_n hx hb dL_law_528 rfl (lv_at hl 3 rfl) ?_
        refine lv_iconst (v := 2) hx hb dL_law_529 (by decide) ?_
        refine lv_iadd hx hb dL_law_530 ?_
        obtain ⟨g98, h⟩ := zck_ex h
        refine va_sld hx hb hX hbl hbA hw.2.2.2.1 (zin_in g98) dL_law_531 ?_
        obtain ⟨q99, eq99, h⟩ := Option.bind_eq_some_iff.mp h
        refine z_callV (ci := 11) (As := [.int (xs (v3 + 1).toNatClampNeg), .int (xs (v3 + 2).toNatClampNeg)]) (rest := []) (rv := (some (.int q99.1))) (M1 := q99.2) S hw (c_X11_part l hG t1 (xs (v3 + 1).toNatClampNeg) (xs (v3 + 2).toNatClampNeg) k1 M q99 eq99) mv_X11_part lk_L_71 k1 ⟨_, _, rfl⟩ (by decide) rfl rfl (Nat.le_of_ble_eq_true rfl) ⟨Nat.le_of_ble_eq_true rfl, Nat.le_of_ble_eq_true rfl⟩ hl.1 dL_law_532 (fun H locs hw => ?_)
        refine lv_aload_n hx hb dL_law_535 rfl (lv_at hl 2 rfl) ?_
        refine lv_aload_n hx hb dL_law_536 rfl (lv_at hl 0 rfl) ?_
        refine lv_iload_n hx hb dL_law_537 rfl (lv_at hl 3 rfl) ?_
        refine lv_iconst (v := 1) hx hb dL_law_538 (by decide) ?_
        refine lv_iadd hx hb dL_law_539 ?_
        obtain ⟨g100, h⟩ := zck_ex h
        refine va_sld hx hb hX hbl hbA hw.2.2.2.1 (zin_in g100) dL_law_540 ?_
        refine lv_aload_n hx hb dL_law_541 rfl (lv_at hl 0 rfl) ?_
        refine lv_iload_n hx hb dL_law_542 rfl (lv_at hl 3 rfl) ?_
        refine lv_iconst (v := 2) hx hb dL_law_543 (by decide) ?_
        refine lv_iadd hx hb dL_law_544 ?_
        obtain ⟨g101, h⟩ := zck_ex h
        refine va_sld hx hb hX hbl hbA hw.2.2.2.1 (zin_in g101) dL_law_545 ?_
        obtain ⟨q102, eq102, h⟩ := Option.bind_eq_some_iff.mp h
        refine z_callV (ci := 12) (As := [.int (xs (v3 + 1).toNatClampNeg), .int (xs (v3 + 2).toNatClampNeg)]) (rest := [.int q99.1]) (rv := (some (.int q102.1))) (M1 := q102.2) S hw (c_X12_part l hG t2 (xs (v3 + 1).toNatClampNeg) (xs (v3 + 2).toNatClampNeg) k2 q99.2 q102 eq102) mv_X12_part lk_L_74 k2 ⟨_, _, rfl⟩ (by decide) rfl rfl (Nat.le_of_ble_eq_true rfl) ⟨Nat.le_of_ble_eq_true rfl, Nat.le_of_ble_eq_true rfl⟩ hl.1 dL_law_546 (fun H locs hw => ?_)
        refine lv_icmp_eq (tgt := 941) hx hb dL_law_549 (by decide) (fun c103 => ?_) (fun c103 => ?_)
        · have h := zif_t h c103
          obtain ⟨x104, ex104, h⟩ := zlet_ex h
          refine lv_iinc (v := x104) (lv' := [(3, .int x104), (0, .ref b), (1, .ref (za G t1)), (2, .ref (za G t2))]) hx hb dL_law_941 hl (k := 3) rfl (by rw [ex104]; rfl) (by decide) rfl (fun ls hl => ?_)
          refine lv_goto (tgt := 18) hx hb dL_law_944 (by decide) ?_
          exact ih x104 q102.2 h H locs ls hw (lv_sub hl [1, 2, 3, 0] rfl)
        · have h := zif_f h c103
          refine lv_iconst (v := 0) hx hb dL_law_552 (by decide) ?_
          exact absurd (Option.some.inj h) (by decide)
      have h := zif_f h c96
      rcases Decidable.em (x9 = 13) with c105 | c105
      · have h := zif_t h c105
        refine z_tab S (off := 522) c105 (by decide) (by decide) dL_law_32 (by decide +kernel) (tgt := 554) (by decide) ?_
        refine lv_aload_n hx hb dL_law_554 rfl (lv_at hl 1 rfl) ?_
        refine lv_aload_n hx hb dL_law_555 rfl (lv_at hl 0 rfl) ?_
        refine lv_iload_n hx hb dL_law_556 rfl (lv_at hl 3 rfl) ?_
        refine lv_iconst (v := 1) hx hb dL_law_557 (by decide) ?_
        refine lv_iadd hx hb dL_law_558 ?_
        obtain ⟨g106, h⟩ := zck_ex h
        refine va_sld hx hb hX hbl hbA hw.2.2.2.1 (zin_in g106) dL_law_559 ?_
        obtain ⟨q107, eq107, h⟩ := Option.bind_eq_some_iff.mp h
        refine z_callV (ci := 11) (As := [.int (xs (v3 + 1).toNatClampNeg)]) (rest := []) (rv := (some (.int q107.1))) (M1 := q107.2) S hw (c_X11_idle l hG t1 (xs (v3 + 1).toNatClampNeg) k1 M q107 eq107) mv_X11_idle lk_L_75 k1 ⟨_, _, rfl⟩ (by decide) rfl rfl (Nat.le_of_ble_eq_true rfl) ⟨Nat.le_of_ble_eq_true rfl, Nat.le_of_ble_eq_true rfl⟩ hl.1 dL_law_560 (fun H locs hw => ?_)
        refine lv_aload_n hx hb dL_law_563 rfl (lv_at hl 2 rfl) ?_
        refine lv_aload_n hx hb dL_law_564 rfl (lv_at hl 0 rfl) ?_
        refine lv_iload_n hx hb dL_law_565 rfl (lv_at hl 3 rfl) ?_
        refine lv_iconst (v := 1) hx hb dL_law_566 (by decide) ?_
        refine lv_iadd hx hb dL_law_567 ?_
        obtain ⟨g108, h⟩ := zck_ex h
        refine va_sld hx hb hX hbl hbA hw.2.2.2.1 (zin_in g108) dL_law_568 ?_
        obtain ⟨q109, eq109, h⟩ := Option.bind_eq_some_iff.mp h
        refine z_callV (ci := 12) (As := [.int (xs (v3 + 1).toNatClampNeg)]) (rest := [.int q107.1]) (rv := (some (.int q109.1))) (M1 := q109.2) S hw (c_X12_idle l hG t2 (xs (v3 + 1).toNatClampNeg) k2 q107.2 q109 eq109) mv_X12_idle lk_L_78 k2 ⟨_, _, rfl⟩ (by decide) rfl rfl (Nat.le_of_ble_eq_true rfl) ⟨Nat.le_of_ble_eq_true rfl, Nat.le_of_ble_eq_true rfl⟩ hl.1 dL_law_569 (fun H locs hw => ?_)
        refine lv_icmp_eq (tgt := 941) hx hb dL_law_572 (by decide) (fun c110 => ?_) (fun c110 => ?_)
        · have h := zif_t h c110
          obtain ⟨x111, ex111, h⟩ := zlet_ex h
          refine lv_iinc (v := x111) (lv' := [(3, .int x111), (0, .ref b), (1, .ref (za G t1)), (2, .ref (za G t2))]) hx hb dL_law_941 hl (k := 3) rfl (by rw [ex111]; rfl) (by decide) rfl (fun ls hl => ?_)
          refine lv_goto (tgt := 18) hx hb dL_law_944 (by decide) ?_
          exact ih x111 q109.2 h H locs ls hw (lv_sub hl [1, 2, 3, 0] rfl)
        · have h := zif_f h c110
          refine lv_iconst (v := 0) hx hb dL_law_575 (by decide) ?_
          exact absurd (Option.some.inj h) (by decide)
      have h := zif_f h c105
      rcases Decidable.em (x9 = 14) with c112 | c112
      · have h := zif_t h c112
        refine z_tab S (off := 545) c112 (by decide) (by decide) dL_law_32 (by decide +kernel) (tgt := 577) (by decide) ?_
        refine lv_aload_n hx hb dL_law_577 rfl (lv_at hl 1 rfl) ?_
        obtain ⟨q113, eq113, h⟩ := Option.bind_eq_some_iff.mp h
        refine z_callV (ci := 11) (As := []) (rest := []) (rv := (some (.int q113.1))) (M1 := q113.2) S hw (c_X11_needless l hG t1 k1 M q113 eq113) mv_X11_needless lk_L_79 k1 ⟨_, _, rfl⟩ (by decide) rfl rfl (Nat.le_of_ble_eq_true rfl) ⟨Nat.le_of_ble_eq_true rfl, Nat.le_of_ble_eq_true rfl⟩ hl.1 dL_law_578 (fun H locs hw => ?_)
        refine lv_aload_n hx hb dL_law_581 rfl (lv_at hl 2 rfl) ?_
        obtain ⟨q114, eq114, h⟩ := Option.bind_eq_some_iff.mp h
        refine z_callV (ci := 12) (As := []) (rest := [.int q113.1]) (rv := (some (.int q114.1))) (M1 := q114.2) S hw (c_X12_needless l hG t2 k2 q113.2 q114 eq114) mv_X12_needless lk_L_82 k2 ⟨_, _, rfl⟩ (by decide) rfl rfl (Nat.le_of_ble_eq_true rfl) ⟨Nat.le_of_ble_eq_true rfl, Nat.le_of_ble_eq_true rfl⟩ hl.1 dL_law_582 (fun H locs hw => ?_)
        refine lv_icmp_eq (tgt := 941) hx hb dL_law_585 (by decide) (fun c115 => ?_) (fun c115 => ?_)
        · have h := zif_t h c115
          obtain ⟨x116, ex116, h⟩ := zlet_ex h
          refine lv_iinc (v := x116) (lv' := [(3, .int x116), (0, .ref b), (1, .ref (za G t1)), (2, .ref (za G t2))]) hx hb dL_law_941 hl (k := 3) rfl (by rw [ex116]; rfl) (by decide) rfl (fun ls hl => ?_)
          refine lv_goto (tgt := 18) hx hb dL_law_944 (by decide) ?_
          exact ih x116 q114.2 h H locs ls hw (lv_sub hl [1, 2, 3, 0] rfl)
        · have h := zif_f h c115
          refine lv_iconst (v := 0) hx hb dL_law_588 (by decide) ?_
          exact absurd (Option.some.inj h) (by decide)
      have h := zif_f h c112
      rcases Decidable.em (x9 = 15) with c117 | c117
      · have h := zif_t h c117
        refine z_tab S (off := 558) c117 (by decide) (by decide) dL_law_32 (by decide +kernel) (tgt := 590) (by decide) ?_
        refine lv_aload_n hx hb dL_law_590 rfl (lv_at hl 1 rfl) ?_
        refine lv_aload_n hx hb dL_law_591 rfl (lv_at hl 0 rfl) ?_
        refine lv_iload_n hx hb dL_law_592 rfl (lv_at hl 3 rfl) ?_
        refine lv_iconst (v := 1) hx hb dL_law_593 (by decide) ?_
        refine lv_iadd hx hb dL_law_594 ?_
        obtain ⟨g118, h⟩ := zck_ex h
        refine va_sld hx hb hX hbl hbA hw.2.2.2.1 (zin_in g118) dL_law_595 ?_
        refine lv_aload_n hx hb dL_law_596 rfl (lv_at hl 0 rfl) ?_
        refine lv_iload_n hx hb dL_law_597 rfl (lv_at hl 3 rfl) ?_
        refine lv_iconst (v := 2) hx hb dL_law_598 (by decide) ?_
        refine lv_iadd hx hb dL_law_599 ?_
        obtain ⟨g119, h⟩ := zck_ex h
        refine va_sld hx hb hX hbl hbA hw.2.2.2.1 (zin_in g119) dL_law_600 ?_
        obtain ⟨q120, eq120, h⟩ := Option.bind_eq_some_iff.mp h
        refine z_callV (ci := 11) (As := [.int (xs (v3 + 1).toNatClampNeg), .int (xs (v3 + 2).toNatClampNeg)]) (rest := []) (rv := (some (.int q120.1))) (M1 := q120.2) S hw (c_X11_meets l hG t1 (xs (v3 + 1).toNatClampNeg) (xs (v3 + 2).toNatClampNeg) k1 M q120 eq120) mv_X11_meets lk_L_83 k1 ⟨_, _, rfl⟩ (by decide) rfl rfl (Nat.le_of_ble_eq_true rfl) ⟨Nat.le_of_ble_eq_true rfl, Nat.le_of_ble_eq_true rfl⟩ hl.1 dL_law_601 (fun H locs hw => ?_)
        refine lv_aload_n hx hb dL_law_604 rfl (lv_at hl 2 rfl) ?_
        refine lv_aload_n hx hb dL_law_605 rfl (lv_at hl 0 rfl) ?_
        refine lv_iload_n hx hb dL_law_606 rfl (lv_at hl 3 rfl) ?_
        refine lv_iconst (v := 1) hx hb dL_law_607 (by decide) ?_
        refine lv_iadd hx hb dL_law_608 ?_
        obtain ⟨g121, h⟩ := zck_ex h
        refine va_sld hx hb hX hbl hbA hw.2.2.2.1 (zin_in g121) dL_law_609 ?_
        refine lv_aload_n hx hb dL_law_610 rfl (lv_at hl 0 rfl) ?_
        refine lv_iload_n hx hb dL_law_611 rfl (lv_at hl 3 rfl) ?_
        refine lv_iconst (v := 2) hx hb dL_law_612 (by decide) ?_
        refine lv_iadd hx hb dL_law_613 ?_
        obtain ⟨g122, h⟩ := zck_ex h
        refine va_sld hx hb hX hbl hbA hw.2.2.2.1 (zin_in g122) dL_law_614 ?_
        obtain ⟨q123, eq123, h⟩ := Option.bind_eq_some_iff.mp h
        refine z_callV (ci := 12) (As := [.int (xs (v3 + 1).toNatClampNeg), .int (xs (v3 + 2).toNatClampNeg)]) (rest := [.int q120.1]) (rv := (some (.int q123.1))) (M1 := q123.2) S hw (c_X12_meets l hG t2 (xs (v3 + 1).toNatClampNeg) (xs (v3 + 2).toNatClampNeg) k2 q120.2 q123 eq123) mv_X12_meets lk_L_86 k2 ⟨_, _, rfl⟩ (by decide) rfl rfl (Nat.le_of_ble_eq_true rfl) ⟨Nat.le_of_ble_eq_true rfl, Nat.le_of_ble_eq_true rfl⟩ hl.1 dL_law_615 (fun H locs hw => ?_)
        refine lv_icmp_eq (tgt := 941) hx hb dL_law_618 (by decide) (fun c124 => ?_) (fun c124 => ?_)
        · have h := zif_t h c124
          obtain ⟨x125, ex125, h⟩ := zlet_ex h
          refine lv_iinc (v := x125) (lv' := [(3, .int x125), (0, .ref b), (1, .ref (za G t1)), (2, .ref (za G t2))]) hx hb dL_law_941 hl (k := 3) rfl (by rw [ex125]; rfl) (by decide) rfl (fun ls hl => ?_)
          refine lv_goto (tgt := 18) hx hb dL_law_944 (by decide) ?_
          exact ih x125 q123.2 h H locs ls hw (lv_sub hl [1, 2, 3, 0] rfl)
        · have h := zif_f h c124
          refine lv_iconst (v := 0) hx hb dL_law_621 (by decide) ?_
          exact absurd (Option.some.inj h) (by decide)
      have h := zif_f h c117
      rcases Decidable.em (x9 = 16) with c126 | c126
      · have h := zif_t h c126
        refine z_tab S (off := 591) c126 (by decide) (by decide) dL_law_32 (by decide +kernel) (tgt := 623) (by decide) ?_
        refine lv_aload_n hx hb dL_law_623 rfl (lv_at hl 1 rfl) ?_
        refine lv_aload_n hx hb dL_law_624 rfl (lv_at hl 0 rfl) ?_
        refine lv_iload_n hx hb dL_law_625 rfl (lv_at hl 3 rfl) ?_
        refine lv_iconst (v := 1) hx hb dL_law_626 (by decide) ?_
        refine lv_iadd hx hb dL_law_627 ?_
        obtain ⟨g127, h⟩ := zck_ex h
        refine va_sld hx hb hX hbl hbA hw.2.2.2.1 (zin_in g127) dL_law_628 ?_
        obtain ⟨q128, eq128, h⟩ := Option.bind_eq_some_iff.mp h
        refine z_callV (ci := 11) (As := [.int (xs (v3 + 1).toNatClampNeg)]) (rest := []) (rv := (some (.int q128.1))) (M1 := q128.2) S hw (c_X11_choose l hG t1 (xs (v3 + 1).toNatClampNeg) k1 M q128 eq128) mv_X11_choose lk_L_87 k1 ⟨_, _, rfl⟩ (by decide) rfl rfl (Nat.le_of_ble_eq_true rfl) ⟨Nat.le_of_ble_eq_true rfl, Nat.le_of_ble_eq_true rfl⟩ hl.1 dL_law_629 (fun H locs hw => ?_)
        refine lv_aload_n hx hb dL_law_632 rfl (lv_at hl 2 rfl) ?_
        refine lv_aload_n hx hb dL_law_633 rfl (lv_at hl 0 rfl) ?_
        refine lv_iload_n hx hb dL_law_634 rfl (lv_at hl 3 rfl) ?_
        refine lv_iconst (v := 1) hx hb dL_law_635 (by decide) ?_
        refine lv_iadd hx hb dL_law_636 ?_
        obtain ⟨g129, h⟩ := zck_ex h
        refine va_sld hx hb hX hbl hbA hw.2.2.2.1 (zin_in g129) dL_law_637 ?_
        obtain ⟨q130, eq130, h⟩ := Option.bind_eq_some_iff.mp h
        refine z_callV (ci := 12) (As := [.int (xs (v3 + 1).toNatClampNeg)]) (rest := [.int q128.1]) (rv := (some (.int q130.1))) (M1 := q130.2) S hw (c_X12_choose l hG t2 (xs (v3 + 1).toNatClampNeg) k2 q128.2 q130 eq130) mv_X12_choose lk_L_90 k2 ⟨_, _, rfl⟩ (by decide) rfl rfl (Nat.le_of_ble_eq_true rfl) ⟨Nat.le_of_ble_eq_true rfl, Nat.le_of_ble_eq_true rfl⟩ hl.1 dL_law_638 (fun H locs hw => ?_)
        refine lv_icmp_eq (tgt := 941) hx hb dL_law_641 (by decide) (fun c131 => ?_) (fun c131 => ?_)
        · have h := zif_t h c131
          obtain ⟨x132, ex132, h⟩ := zlet_ex h
          refine lv_iinc (v := x132) (lv' := [(3, .int x132), (0, .ref b), (1, .ref (za G t1)), (2, .ref (za G t2))]) hx hb dL_law_941 hl (k := 3) rfl (by rw [ex132]; rfl) (by decide) rfl (fun ls hl => ?_)
          refine lv_goto (tgt := 18) hx hb dL_law_944 (by decide) ?_
          exact ih x132 q130.2 h H locs ls hw (lv_sub hl [1, 2, 3, 0] rfl)
        · have h := zif_f h c131
          refine lv_iconst (v := 0) hx hb dL_law_644 (by decide) ?_
          exact absurd (Option.some.inj h) (by decide)
      have h := zif_f h c126
      rcases Decidable.em (x9 = 17) with c133 | c133
      · have h := zif_t h c133
        refine z_tab S (off := 614) c133 (by decide) (by decide) dL_law_32 (by decide +kernel) (tgt := 646) (by decide) ?_
        refine lv_aload_n hx hb dL_law_646 rfl (lv_at hl 1 rfl) ?_
        obtain ⟨q134, eq134, h⟩ := zlet_ex h
        refine z_callV (ci := 11) (As := []) (rest := []) (rv := (some (.int q134.1))) (M1 := q134.2) S hw (c_X11_unchoose l hG t1 k1 M q134 eq134.symm) mv_X11_unchoose lk_L_91 k1 ⟨_, _, rfl⟩ (by decide) rfl rfl (Nat.le_of_ble_eq_true rfl) ⟨Nat.le_of_ble_eq_true rfl, Nat.le_of_ble_eq_true rfl⟩ hl.1 dL_law_647 (fun H locs hw => ?_)
        refine lv_aload_n hx hb dL_law_650 rfl (lv_at hl 2 rfl) ?_
        obtain ⟨q135, eq135, h⟩ := zlet_ex h
        refine z_callV (ci := 12) (As := []) (rest := [.int q134.1]) (rv := (some (.int q135.1))) (M1 := q135.2) S hw (c_X12_unchoose l hG t2 k2 q134.2 q135 eq135.symm) mv_X12_unchoose lk_L_94 k2 ⟨_, _, rfl⟩ (by decide) rfl rfl (Nat.le_of_ble_eq_true rfl) ⟨Nat.le_of_ble_eq_true rfl, Nat.le_of_ble_eq_true rfl⟩ hl.1 dL_law_651 (fun H locs hw => ?_)
        refine lv_icmp_eq (tgt := 941) hx hb dL_law_654 (by decide) (fun c136 => ?_) (fun c136 => ?_)
        · have h := zif_t h c136
          obtain ⟨x137, ex137, h⟩ := zlet_ex h
          refine lv_iinc (v := x137) (lv' := [(3, .int x137), (0, .ref b), (1, .ref (za G t1)), (2, .ref (za G t2))]) hx hb dL_law_941 hl (k := 3) rfl (by rw [ex137]; rfl) (by decide) rfl (fun ls hl => ?_)
          refine lv_goto (tgt := 18) hx hb dL_law_944 (by decide) ?_
          exact ih x137 q135.2 h H locs ls hw (lv_sub hl [1, 2, 3, 0] rfl)
        · have h := zif_f h c136
          refine lv_iconst (v := 0) hx hb dL_law_657 (by decide) ?_
          exact absurd (Option.some.inj h) (by decide)
      have h := zif_f h c133
      rcases Decidable.em (x9 = 18) with c138 | c138
      · have h := zif_t h c138
        refine z_tab S (off := 627) c138 (by decide) (by decide) dL_law_32 (by decide +kernel) (tgt := 659) (by decide) ?_
        refine lv_aload_n hx hb dL_law_659 rfl (lv_at hl 1 rfl) ?_
        refine lv_aload_n hx hb dL_law_660 rfl (lv_at hl 0 rfl) ?_
        refine lv_iload_n hx hb dL_law_661 rfl (lv_at hl 3 rfl) ?_
        refine lv_iconst (v := 1) hx hb dL_law_662 (by decide) ?_
        refine lv_iadd hx hb dL_law_663 ?_
        obtain ⟨g139, h⟩ := zck_ex h
        refine va_sld hx hb hX hbl hbA hw.2.2.2.1 (zin_in g139) dL_law_664 ?_
        obtain ⟨q140, eq140, h⟩ := Option.bind_eq_some_iff.mp h
        refine z_callV (ci := 11) (As := [.int (xs (v3 + 1).toNatClampNeg)]) (rest := []) (rv := (some (.int q140.1))) (M1 := q140.2) S hw (c_X11_leftOver l hG t1 (xs (v3 + 1).toNatClampNeg) k1 M q140 eq140) mv_X11_leftOver lk_L_95 k1 ⟨_, _, rfl⟩ (by decide) rfl rfl (Nat.le_of_ble_eq_true rfl) ⟨Nat.le_of_ble_eq_true rfl, Nat.le_of_ble_eq_true rfl⟩ hl.1 dL_law_665 (fun H locs hw => ?_)
        refine lv_aload_n hx hb dL_law_668 rfl (lv_at hl 2 rfl) ?_
        refine lv_aload_n hx hb dL_law_669 rfl (lv_at hl 0 rfl) ?_
        refine lv_iload_n hx hb dL_law_670 rfl (lv_at hl 3 rfl) ?_
        refine lv_iconst (v := 1) hx hb dL_law_671 (by decide) ?_
        refine lv_iadd hx hb dL_law_672 ?_
        obtain ⟨g141, h⟩ := zck_ex h
        refine va_sld hx hb hX hbl hbA hw.2.2.2.1 (zin_in g141) dL_law_673 ?_
        obtain ⟨q142, eq142, h⟩ := Option.bind_eq_some_iff.mp h
        refine z_callV (ci := 12) (As := [.int (xs (v3 + 1).toNatClampNeg)]) (rest := [.int q140.1]) (rv := (some (.int q142.1))) (M1 := q142.2) S hw (c_X12_leftOver l hG t2 (xs (v3 + 1).toNatClampNeg) k2 q140.2 q142 eq142) mv_X12_leftOver lk_L_98 k2 ⟨_, _, rfl⟩ (by decide) rfl rfl (Nat.le_of_ble_eq_true rfl) ⟨Nat.le_of_ble_eq_true rfl, Nat.le_of_ble_eq_true rfl⟩ hl.1 dL_law_674 (fun H locs hw => ?_)
        refine lv_icmp_eq (tgt := 941) hx hb dL_law_677 (by decide) (fun c143 => ?_) (fun c143 => ?_)
        · have h := zif_t h c143
          obtain ⟨x144, ex144, h⟩ := zlet_ex h
          refine lv_iinc (v := x144) (lv' := [(3, .int x144), (0, .ref b), (1, .ref (za G t1)), (2, .ref (za G t2))]) hx hb dL_law_941 hl (k := 3) rfl (by rw [ex144]; rfl) (by decide) rfl (fun ls hl => ?_)
          refine lv_goto (tgt := 18) hx hb dL_law_944 (by decide) ?_
          exact ih x144 q142.2 h H locs ls hw (lv_sub hl [1, 2, 3, 0] rfl)
        · have h := zif_f h c143
          refine lv_iconst (v := 0) hx hb dL_law_680 (by decide) ?_
          exact absurd (Option.some.inj h) (by decide)
      have h := zif_f h c138
      rcases Decidable.em (x9 = 19) with c145 | c145
      · have h := zif_t h c145
        refine z_tab S (off := 650) c145 (by decide) (by decide) dL_law_32 (by decide +kernel) (tgt := 682) (by decide) ?_
        refine lv_aload_n hx hb dL_law_682 rfl (lv_at hl 1 rfl) ?_
        obtain ⟨q146, eq146, h⟩ := Option.bind_eq_some_iff.mp h
        refine z_callV (ci := 11) (As := []) (rest := []) (rv := (some (.int q146.1))) (M1 := q146.2) S hw (c_X11_passedOver l hG t1 k1 M q146 eq146) mv_X11_passedOver lk_L_99 k1 ⟨_, _, rfl⟩ (by decide) rfl rfl (Nat.le_of_ble_eq_true rfl) ⟨Nat.le_of_ble_eq_true rfl, Nat.le_of_ble_eq_true rfl⟩ hl.1 dL_law_683 (fun H locs hw => ?_)
        refine lv_aload_n hx hb dL_law_686 rfl (lv_at hl 2 rfl) ?_
        obtain ⟨q147, eq147, h⟩ := Option.bind_eq_some_iff.mp h
        refine z_callV (ci := 12) (As := []) (rest := [.int q146.1]) (rv := (some (.int q147.1))) (M1 := q147.2) S hw (c_X12_passedOver l hG t2 k2 q146.2 q147 eq147) mv_X12_passedOver lk_L_102 k2 ⟨_, _, rfl⟩ (by decide) rfl rfl (Nat.le_of_ble_eq_true rfl) ⟨Nat.le_of_ble_eq_true rfl, Nat.le_of_ble_eq_true rfl⟩ hl.1 dL_law_687 (fun H locs hw => ?_)
        refine lv_icmp_eq (tgt := 941) hx hb dL_law_690 (by decide) (fun c148 => ?_) (fun c148 => ?_)
        · have h := zif_t h c148
          obtain ⟨x149, ex149, h⟩ := zlet_ex h
          refine lv_iinc (v := x149) (lv' := [(3, .int x149), (0, .ref b), (1, .ref (za G t1)), (2, .ref (za G t2))]) hx hb dL_law_941 hl (k := 3) rfl (by rw [ex149]; rfl) (by decide) rfl (fun ls hl => ?_)
          refine lv_goto (tgt := 18) hx hb dL_law_944 (by decide) ?_
          exact ih x149 q147.2 h H locs ls hw (lv_sub hl [1, 2, 3, 0] rfl)
        · have h := zif_f h c148
          refine lv_iconst (v := 0) hx hb dL_law_693 (by decide) ?_
          exact absurd (Option.some.inj h) (by decide)
      have h := zif_f h c145
      rcases Decidable.em (x9 = 20) with c150 | c150
      · have h := zif_t h c150
        refine z_tab S (off := 663) c150 (by decide) (by decide) dL_law_32 (by decide +kernel) (tgt := 695) (by decide) ?_
        refine lv_aload_n hx hb dL_law_695 rfl (lv_at hl 1 rfl) ?_
        refine lv_aload_n hx hb dL_law_696 rfl (lv_at hl 0 rfl) ?_
        refine lv_iload_n hx hb dL_law_697 rfl (lv_at hl 3 rfl) ?_
        refine lv_iconst (v := 1) hx hb dL_law_698 (by decide) ?_
        refine lv_iadd hx hb dL_law_699 ?_
        obtain ⟨g151, h⟩ := zck_ex h
        refine va_sld hx hb hX hbl hbA hw.2.2.2.1 (zin_in g151) dL_law_700 ?_
        refine lv_aload_n hx hb dL_law_701 rfl (lv_at hl 0 rfl) ?_
        refine lv_iload_n hx hb dL_law_702 rfl (lv_at hl 3 rfl) ?_
        refine lv_iconst (v := 2) hx hb dL_law_703 (by decide) ?_
        refine lv_iadd hx hb dL_law_704 ?_
        obtain ⟨g152, h⟩ := zck_ex h
        refine va_sld hx hb hX hbl hbA hw.2.2.2.1 (zin_in g152) dL_law_705 ?_
        obtain ⟨q153, eq153, h⟩ := Option.bind_eq_some_iff.mp h
        refine z_callV (ci := 11) (As := [.int (xs (v3 + 1).toNatClampNeg), .int (xs (v3 + 2).toNatClampNeg)]) (rest := []) (rv := (some (.int q153.1))) (M1 := q153.2) S hw (c_X11_quarrel l hG t1 (xs (v3 + 1).toNatClampNeg) (xs (v3 + 2).toNatClampNeg) k1 M q153 eq153) mv_X11_quarrel lk_L_103 k1 ⟨_, _, rfl⟩ (by decide) rfl rfl (Nat.le_of_ble_eq_true rfl) ⟨Nat.le_of_ble_eq_true rfl, Nat.le_of_ble_eq_true rfl⟩ hl.1 dL_law_706 (fun H locs hw => ?_)
        refine lv_aload_n hx hb dL_law_709 rfl (lv_at hl 2 rfl) ?_
        refine lv_aload_n hx hb dL_law_710 rfl (lv_at hl 0 rfl) ?_
        refine lv_iload_n hx hb dL_law_711 rfl (lv_at hl 3 rfl) ?_
        refine lv_iconst (v := 1) hx hb dL_law_712 (by decide) ?_
        refine lv_iadd hx hb dL_law_713 ?_
        obtain ⟨g154, h⟩ := zck_ex h
        refine va_sld hx hb hX hbl hbA hw.2.2.2.1 (zin_in g154) dL_law_714 ?_
        refine lv_aload_n hx hb dL_law_715 rfl (lv_at hl 0 rfl) ?_
        refine lv_iload_n hx hb dL_law_716 rfl (lv_at hl 3 rfl) ?_
        refine lv_iconst (v := 2) hx hb dL_law_717 (by decide) ?_
        refine lv_iadd hx hb dL_law_718 ?_
        obtain ⟨g155, h⟩ := zck_ex h
        refine va_sld hx hb hX hbl hbA hw.2.2.2.1 (zin_in g155) dL_law_719 ?_
        obtain ⟨q156, eq156, h⟩ := Option.bind_eq_some_iff.mp h
        refine z_callV (ci := 12) (As := [.int (xs (v3 + 1).toNatClampNeg), .int (xs (v3 + 2).toNatClampNeg)]) (rest := [.int q153.1]) (rv := (some (.int q156.1))) (M1 := q156.2) S hw (c_X12_quarrel l hG t2 (xs (v3 + 1).toNatClampNeg) (xs (v3 + 2).toNatClampNeg) k2 q153.2 q156 eq156) mv_X12_quarrel lk_L_106 k2 ⟨_, _, rfl⟩ (by decide) rfl rfl (Nat.le_of_ble_eq_true rfl) ⟨Nat.le_of_ble_eq_true rfl, Nat.le_of_ble_eq_true rfl⟩ hl.1 dL_law_720 (fun H locs hw => ?_)
        refine lv_icmp_eq (tgt := 941) hx hb dL_law_723 (by decide) (fun c157 => ?_) (fun c157 => ?_)
        · have h := zif_t h c157
          obtain ⟨x158, ex158, h⟩ := zlet_ex h
          refine lv_iinc (v := x158) (lv' := [(3, .int x158), (0, .ref b), (1, .ref (za G t1)), (2, .ref (za G t2))]) hx hb dL_law_941 hl (k := 3) rfl (by rw [ex158]; rfl) (by decide) rfl (fun ls hl => ?_)
          refine lv_goto (tgt := 18) hx hb dL_law_944 (by decide) ?_
          exact ih x158 q156.2 h H locs ls hw (lv_sub hl [1, 2, 3, 0] rfl)
        · have h := zif_f h c157
          refine lv_iconst (v := 0) hx hb dL_law_726 (by decide) ?_
          exact absurd (Option.some.inj h) (by decide)
      have h := zif_f h c150
      rcases Decidable.em (x9 = 21) with c159 | c159
      · have h := zif_t h c159
        refine z_tab S (off := 696) c159 (by decide) (by decide) dL_law_32 (by decide +kernel) (tgt := 728) (by decide) ?_
        refine lv_aload_n hx hb dL_law_728 rfl (lv_at hl 1 rfl) ?_
        obtain ⟨q160, eq160, h⟩ := Option.bind_eq_some_iff.mp h
        refine z_callV (ci := 11) (As := []) (rest := []) (rv := (some (.int q160.1))) (M1 := q160.2) S hw (c_X11_hangs l hG t1 k1 M q160 eq160) mv_X11_hangs lk_L_107 k1 ⟨_, _, rfl⟩ (by decide) rfl rfl (Nat.le_of_ble_eq_true rfl) ⟨Nat.le_of_ble_eq_true rfl, Nat.le_of_ble_eq_true rfl⟩ hl.1 dL_law_729 (fun H locs hw => ?_)
        refine lv_aload_n hx hb dL_law_732 rfl (lv_at hl 2 rfl) ?_
        obtain ⟨q161, eq161, h⟩ := Option.bind_eq_some_iff.mp h
        refine z_callV (ci := 12) (As := []) (rest := [.int q160.1]) (rv := (some (.int q161.1))) (M1 := q161.2) S hw (c_X12_hangs l hG t2 k2 q160.2 q161 eq161) mv_X12_hangs lk_L_110 k2 ⟨_, _, rfl⟩ (by decide) rfl rfl (Nat.le_of_ble_eq_true rfl) ⟨Nat.le_of_ble_eq_true rfl, Nat.le_of_ble_eq_true rfl⟩ hl.1 dL_law_733 (fun H locs hw => ?_)
        refine lv_icmp_eq (tgt := 941) hx hb dL_law_736 (by decide) (fun c162 => ?_) (fun c162 => ?_)
        · have h := zif_t h c162
          obtain ⟨x163, ex163, h⟩ := zlet_ex h
          refine lv_iinc (v := x163) (lv' := [(3, .int x163), (0, .ref b), (1, .ref (za G t1)), (2, .ref (za G t2))]) hx hb dL_law_941 hl (k := 3) rfl (by rw [ex163]; rfl) (by decide) rfl (fun ls hl => ?_)
          refine lv_goto (tgt := 18) hx hb dL_law_944 (by decide) ?_
          exact ih x163 q161.2 h H locs ls hw (lv_sub hl [1, 2, 3, 0] rfl)
        · have h := zif_f h c162
          refine lv_iconst (v := 0) hx hb dL_law_739 (by decide) ?_
          exact absurd (Option.some.inj h) (by decide)
      have h := zif_f h c159
      rcases Decidable.em (x9 = 22) with c164 | c164
      · have h := zif_t h c164
        refine z_tab S (off := 709) c164 (by decide) (by decide) dL_law_32 (by decide +kernel) (tgt := 741) (by decide) ?_
        refine lv_aload_n hx hb dL_law_741 rfl (lv_at hl 1 rfl) ?_
        obtain ⟨q165, eq165, h⟩ := Option.bind_eq_some_iff.mp h
        refine z_callV (ci := 11) (As := []) (rest := []) (rv := (some (.int q165.1))) (M1 := q165.2) S hw (c_X11_test l hG t1 k1 M q165 eq165) mv_X11_test lk_L_111 k1 ⟨_, _, rfl⟩ (by decide) rfl rfl (Nat.le_of_ble_eq_true rfl) ⟨Nat.le_of_ble_eq_true rfl, Nat.le_of_ble_eq_true rfl⟩ hl.1 dL_law_742 (fun H locs hw => ?_)
        refine lv_aload_n hx hb dL_law_745 rfl (lv_at hl 2 rfl) ?_
        obtain ⟨q166, eq166, h⟩ := Option.bind_eq_some_iff.mp h
        refine z_callV (ci := 12) (As := []) (rest := [.int q165.1]) (rv := (some (.int q166.1))) (M1 := q166.2) S hw (c_X12_test l hG t2 k2 q165.2 q166 eq166) mv_X12_test lk_L_114 k2 ⟨_, _, rfl⟩ (by decide) rfl rfl (Nat.le_of_ble_eq_true rfl) ⟨Nat.le_of_ble_eq_true rfl, Nat.le_of_ble_eq_true rfl⟩ hl.1 dL_law_746 (fun H locs hw => ?_)
        refine lv_icmp_eq (tgt := 941) hx hb dL_law_749 (by decide) (fun c167 => ?_) (fun c167 => ?_)
        · have h := zif_t h c167
          obtain ⟨x168, ex168, h⟩ := zlet_ex h
          refine lv_iinc (v := x168) (lv' := [(3, .int x168), (0, .ref b), (1, .ref (za G t1)), (2, .ref (za G t2))]) hx hb dL_law_941 hl (k := 3) rfl (by rw [ex168]; rfl) (by decide) rfl (fun ls hl => ?_)
          refine lv_goto (tgt := 18) hx hb dL_law_944 (by decide) ?_
          exact ih x168 q166.2 h H locs ls hw (lv_sub hl [1, 2, 3, 0] rfl)
        · have h := zif_f h c167
          refine lv_iconst (v := 0) hx hb dL_law_752 (by decide) ?_
          exact absurd (Option.some.inj h) (by decide)
      have h := zif_f h c164
      rcases Decidable.em (x9 = 23) with c169 | c169
      · have h := zif_t h c169
        refine z_tab S (off := 722) c169 (by decide) (by decide) dL_law_32 (by decide +kernel) (tgt := 754) (by decide) ?_
        refine lv_aload_n hx hb dL_law_754 rfl (lv_at hl 1 rfl) ?_
        obtain ⟨q170, eq170, h⟩ := Option.bind_eq_some_iff.mp h
        refine z_callV (ci := 11) (As := []) (rest := []) (rv := (some (.int q170.1))) (M1 := q170.2) S hw (c_X11_fewest l hG t1 k1 M q170 eq170) mv_X11_fewest lk_L_115 k1 ⟨_, _, rfl⟩ (by decide) rfl rfl (Nat.le_of_ble_eq_true rfl) ⟨Nat.le_of_ble_eq_true rfl, Nat.le_of_ble_eq_true rfl⟩ hl.1 dL_law_755 (fun H locs hw => ?_)
        refine lv_aload_n hx hb dL_law_758 rfl (lv_at hl 2 rfl) ?_
        obtain ⟨q171, eq171, h⟩ := Option.bind_eq_some_iff.mp h
        refine z_callV (ci := 12) (As := []) (rest := [.int q170.1]) (rv := (some (.int q171.1))) (M1 := q171.2) S hw (c_X12_fewest l hG t2 k2 q170.2 q171 eq171) mv_X12_fewest lk_L_118 k2 ⟨_, _, rfl⟩ (by decide) rfl rfl (Nat.le_of_ble_eq_true rfl) ⟨Nat.le_of_ble_eq_true rfl, Nat.le_of_ble_eq_true rfl⟩ hl.1 dL_law_759 (fun H locs hw => ?_)
        refine lv_icmp_eq (tgt := 941) hx hb dL_law_762 (by decide) (fun c172 => ?_) (fun c172 => ?_)
        · have h := zif_t h c172
          obtain ⟨x173, ex173, h⟩ := zlet_ex h
          refine lv_iinc (v := x173) (lv' := [(3, .int x173), (0, .ref b), (1, .ref (za G t1)), (2, .ref (za G t2))]) hx hb dL_law_941 hl (k := 3) rfl (by rw [ex173]; rfl) (by decide) rfl (fun ls hl => ?_)
          refine lv_goto (tgt := 18) hx hb dL_law_944 (by decide) ?_
          exact ih x173 q171.2 h H locs ls hw (lv_sub hl [1, 2, 3, 0] rfl)
        · have h := zif_f h c172
          refine lv_iconst (v := 0) hx hb dL_law_765 (by decide) ?_
          exact absurd (Option.some.inj h) (by decide)
      have h := zif_f h c169
      rcases Decidable.em (x9 = 24) with c174 | c174
      · have h := zif_t h c174
        refine z_tab S (off := 735) c174 (by decide) (by decide) dL_law_32 (by decide +kernel) (tgt := 767) (by decide) ?_
        refine lv_aload_n hx hb dL_law_767 rfl (lv_at hl 1 rfl) ?_
        refine lv_aload_n hx hb dL_law_768 rfl (lv_at hl 0 rfl) ?_
        refine lv_iload_n hx hb dL_law_769 rfl (lv_at hl 3 rfl) ?_
        refine lv_iconst (v := 1) hx hb dL_law_770 (by decide) ?_
        refine lv_iadd hx hb dL_law_771 ?_
        obtain ⟨g175, h⟩ := zck_ex h
        refine va_sld hx hb hX hbl hbA hw.2.2.2.1 (zin_in g175) dL_law_772 ?_
        refine lv_aload_n hx hb dL_law_773 rfl (lv_at hl 0 rfl) ?_
        refine lv_iload_n hx hb dL_law_774 rfl (lv_at hl 3 rfl) ?_
        refine lv_iconst (v := 2) hx hb dL_law_775 (by decide) ?_
        refine lv_iadd hx hb dL_law_776 ?_
        obtain ⟨g176, h⟩ := zck_ex h
        refine va_sld hx hb hX hbl hbA hw.2.2.2.1 (zin_in g176) dL_law_777 ?_
        obtain ⟨q177, eq177, h⟩ := Option.bind_eq_some_iff.mp h
        refine z_callV (ci := 11) (As := [.int (xs (v3 + 1).toNatClampNeg), .int (xs (v3 + 2).toNatClampNeg)]) (rest := []) (rv := (some (.int q177.1))) (M1 := q177.2) S hw (c_X11_bracket l hG t1 (xs (v3 + 1).toNatClampNeg) (xs (v3 + 2).toNatClampNeg) k1 M q177 eq177) mv_X11_bracket lk_L_119 k1 ⟨_, _, rfl⟩ (by decide) rfl rfl (Nat.le_of_ble_eq_true rfl) ⟨Nat.le_of_ble_eq_true rfl, Nat.le_of_ble_eq_true rfl⟩ hl.1 dL_law_778 (fun H locs hw => ?_)
        refine lv_aload_n hx hb dL_law_781 rfl (lv_at hl 2 rfl) ?_
        refine lv_aload_n hx hb dL_law_782 rfl (lv_at hl 0 rfl) ?_
        refine lv_iload_n hx hb dL_law_783 rfl (lv_at hl 3 rfl) ?_
        refine lv_iconst (v := 1) hx hb dL_law_784 (by decide) ?_
        refine lv_iadd hx hb dL_law_785 ?_
        obtain ⟨g178, h⟩ := zck_ex h
        refine va_sld hx hb hX hbl hbA hw.2.2.2.1 (zin_in g178) dL_law_786 ?_
        refine lv_aload_n hx hb dL_law_787 rfl (lv_at hl 0 rfl) ?_
        refine lv_iload_n hx hb dL_law_788 rfl (lv_at hl 3 rfl) ?_
        refine lv_iconst (v := 2) hx hb dL_law_789 (by decide) ?_
        refine lv_iadd hx hb dL_law_790 ?_
        obtain ⟨g179, h⟩ := zck_ex h
        refine va_sld hx hb hX hbl hbA hw.2.2.2.1 (zin_in g179) dL_law_791 ?_
        obtain ⟨q180, eq180, h⟩ := Option.bind_eq_some_iff.mp h
        refine z_callV (ci := 12) (As := [.int (xs (v3 + 1).toNatClampNeg), .int (xs (v3 + 2).toNatClampNeg)]) (rest := [.int q177.1]) (rv := (some (.int q180.1))) (M1 := q180.2) S hw (c_X12_bracket l hG t2 (xs (v3 + 1).toNatClampNeg) (xs (v3 + 2).toNatClampNeg) k2 q177.2 q180 eq180) mv_X12_bracket lk_L_122 k2 ⟨_, _, rfl⟩ (by decide) rfl rfl (Nat.le_of_ble_eq_true rfl) ⟨Nat.le_of_ble_eq_true rfl, Nat.le_of_ble_eq_true rfl⟩ hl.1 dL_law_792 (fun H locs hw => ?_)
        refine lv_icmp_eq (tgt := 941) hx hb dL_law_795 (by decide) (fun c181 => ?_) (fun c181 => ?_)
        · have h := zif_t h c181
          obtain ⟨x182, ex182, h⟩ := zlet_ex h
          refine lv_iinc (v := x182) (lv' := [(3, .int x182), (0, .ref b), (1, .ref (za G t1)), (2, .ref (za G t2))]) hx hb dL_law_941 hl (k := 3) rfl (by rw [ex182]; rfl) (by decide) rfl (fun ls hl => ?_)
          refine lv_goto (tgt := 18) hx hb dL_law_944 (by decide) ?_
          exact ih x182 q180.2 h H locs ls hw (lv_sub hl [1, 2, 3, 0] rfl)
        · have h := zif_f h c181
          refine lv_iconst (v := 0) hx hb dL_law_798 (by decide) ?_
          exact absurd (Option.some.inj h) (by decide)
      have h := zif_f h c174
      rcases Decidable.em (x9 = 25) with c183 | c183
      · have h := zif_t h c183
        refine z_tab S (off := 768) c183 (by decide) (by decide) dL_law_32 (by decide +kernel) (tgt := 800) (by decide) ?_
        refine lv_aload_n hx hb dL_law_800 rfl (lv_at hl 1 rfl) ?_
        refine lv_aload_n hx hb dL_law_801 rfl (lv_at hl 0 rfl) ?_
        refine lv_iload_n hx hb dL_law_802 rfl (lv_at hl 3 rfl) ?_
        refine lv_iconst (v := 1) hx hb dL_law_803 (by decide) ?_
        refine lv_iadd hx hb dL_law_804 ?_
        obtain ⟨g184, h⟩ := zck_ex h
        refine va_sld hx hb hX hbl hbA hw.2.2.2.1 (zin_in g184) dL_law_805 ?_
        obtain ⟨q185, eq185, h⟩ := Option.bind_eq_some_iff.mp h
        refine z_callV (ci := 11) (As := [.int (xs (v3 + 1).toNatClampNeg)]) (rest := []) (rv := (some (.int q185.1))) (M1 := q185.2) S hw (c_X11_mend l hG t1 (xs (v3 + 1).toNatClampNeg) k1 M q185 eq185) mv_X11_mend lk_L_123 k1 ⟨_, _, rfl⟩ (by decide) rfl rfl (Nat.le_of_ble_eq_true rfl) ⟨Nat.le_of_ble_eq_true rfl, Nat.le_of_ble_eq_true rfl⟩ hl.1 dL_law_806 (fun H locs hw => ?_)
        refine lv_aload_n hx hb dL_law_809 rfl (lv_at hl 2 rfl) ?_
        refine lv_aload_n hx hb dL_law_810 rfl (lv_at hl 0 rfl) ?_
        refine lv_iload_n hx hb dL_law_811 rfl (lv_at hl 3 rfl) ?_
        refine lv_iconst (v := 1) hx hb dL_law_812 (by decide) ?_
        refine lv_iadd hx hb dL_law_813 ?_
        obtain ⟨g186, h⟩ := zck_ex h
        refine va_sld hx hb hX hbl hbA hw.2.2.2.1 (zin_in g186) dL_law_814 ?_
        obtain ⟨q187, eq187, h⟩ := Option.bind_eq_some_iff.mp h
        refine z_callV (ci := 12) (As := [.int (xs (v3 + 1).toNatClampNeg)]) (rest := [.int q185.1]) (rv := (some (.int q187.1))) (M1 := q187.2) S hw (c_X12_mend l hG t2 (xs (v3 + 1).toNatClampNeg) k2 q185.2 q187 eq187) mv_X12_mend lk_L_126 k2 ⟨_, _, rfl⟩ (by decide) rfl rfl (Nat.le_of_ble_eq_true rfl) ⟨Nat.le_of_ble_eq_true rfl, Nat.le_of_ble_eq_true rfl⟩ hl.1 dL_law_815 (fun H locs hw => ?_)
        refine lv_icmp_eq (tgt := 941) hx hb dL_law_818 (by decide) (fun c188 => ?_) (fun c188 => ?_)
        · have h := zif_t h c188
          obtain ⟨x189, ex189, h⟩ := zlet_ex h
          refine lv_iinc (v := x189) (lv' := [(3, .int x189), (0, .ref b), (1, .ref (za G t1)), (2, .ref (za G t2))]) hx hb dL_law_941 hl (k := 3) rfl (by rw [ex189]; rfl) (by decide) rfl (fun ls hl => ?_)
          refine lv_goto (tgt := 18) hx hb dL_law_944 (by decide) ?_
          exact ih x189 q187.2 h H locs ls hw (lv_sub hl [1, 2, 3, 0] rfl)
        · have h := zif_f h c188
          refine lv_iconst (v := 0) hx hb dL_law_821 (by decide) ?_
          exact absurd (Option.some.inj h) (by decide)
      have h := zif_f h c183
      rcases Decidable.em (x9 = 26) with c190 | c190
      · have h := zif_t h c190
        refine z_tab S (off := 791) c190 (by decide) (by decide) dL_law_32 (by decide +kernel) (tgt := 823) (by decide) ?_
        refine lv_aload_n hx hb dL_law_823 rfl (lv_at hl 1 rfl) ?_
        refine lv_aload_n hx hb dL_law_824 rfl (lv_at hl 0 rfl) ?_
        refine lv_iload_n hx hb dL_law_825 rfl (lv_at hl 3 rfl) ?_
        refine lv_iconst (v := 1) hx hb dL_law_826 (by decide) ?_
        refine lv_iadd hx hb dL_law_827 ?_
        obtain ⟨g191, h⟩ := zck_ex h
        refine va_sld hx hb hX hbl hbA hw.2.2.2.1 (zin_in g191) dL_law_828 ?_
        refine lv_aload_n hx hb dL_law_829 rfl (lv_at hl 0 rfl) ?_
        refine lv_iload_n hx hb dL_law_830 rfl (lv_at hl 3 rfl) ?_
        refine lv_iconst (v := 2) hx hb dL_law_831 (by decide) ?_
        refine lv_iadd hx hb dL_law_832 ?_
        obtain ⟨g192, h⟩ := zck_ex h
        refine va_sld hx hb hX hbl hbA hw.2.2.2.1 (zin_in g192) dL_law_833 ?_
        obtain ⟨q193, eq193, h⟩ := zlet_ex h
        refine z_callV (ci := 11) (As := [.int (xs (v3 + 1).toNatClampNeg), .int (xs (v3 + 2).toNatClampNeg)]) (rest := []) (rv := (some (.int q193.1))) (M1 := q193.2) S hw (c_X11_aim l hG t1 (xs (v3 + 1).toNatClampNeg) (xs (v3 + 2).toNatClampNeg) k1 M q193 eq193.symm) mv_X11_aim lk_L_127 k1 ⟨_, _, rfl⟩ (by decide) rfl rfl (Nat.le_of_ble_eq_true rfl) ⟨Nat.le_of_ble_eq_true rfl, Nat.le_of_ble_eq_true rfl⟩ hl.1 dL_law_834 (fun H locs hw => ?_)
        refine lv_aload_n hx hb dL_law_837 rfl (lv_at hl 2 rfl) ?_
        refine lv_aload_n hx hb dL_law_838 rfl (lv_at hl 0 rfl) ?_
        refine lv_iload_n hx hb dL_law_839 rfl (lv_at hl 3 rfl) ?_
        refine lv_iconst (v := 1) hx hb dL_law_840 (by decide) ?_
        refine lv_iadd hx hb dL_law_841 ?_
        obtain ⟨g194, h⟩ := zck_ex h
        refine va_sld hx hb hX hbl hbA hw.2.2.2.1 (zin_in g194) dL_law_842 ?_
        refine lv_aload_n hx hb dL_law_843 rfl (lv_at hl 0 rfl) ?_
        refine lv_iload_n hx hb dL_law_844 rfl (lv_at hl 3 rfl) ?_
        refine lv_iconst (v := 2) hx hb dL_law_845 (by decide) ?_
        refine lv_iadd hx hb dL_law_846 ?_
        obtain ⟨g195, h⟩ := zck_ex h
        refine va_sld hx hb hX hbl hbA hw.2.2.2.1 (zin_in g195) dL_law_847 ?_
        obtain ⟨q196, eq196, h⟩ := Option.bind_eq_some_iff.mp h
        refine z_callV (ci := 12) (As := [.int (xs (v3 + 1).toNatClampNeg), .int (xs (v3 + 2).toNatClampNeg)]) (rest := [.int q193.1]) (rv := (some (.int q196.1))) (M1 := q196.2) S hw (c_X12_aim l hG t2 (xs (v3 + 1).toNatClampNeg) (xs (v3 + 2).toNatClampNeg) k2 q193.2 q196 eq196) mv_X12_aim lk_L_130 k2 ⟨_, _, rfl⟩ (by decide) rfl rfl (Nat.le_of_ble_eq_true rfl) ⟨Nat.le_of_ble_eq_true rfl, Nat.le_of_ble_eq_true rfl⟩ hl.1 dL_law_848 (fun H locs hw => ?_)
        refine lv_icmp_eq (tgt := 941) hx hb dL_law_851 (by decide) (fun c197 => ?_) (fun c197 => ?_)
        · have h := zif_t h c197
          obtain ⟨x198, ex198, h⟩ := zlet_ex h
          refine lv_iinc (v := x198) (lv' := [(3, .int x198), (0, .ref b), (1, .ref (za G t1)), (2, .ref (za G t2))]) hx hb dL_law_941 hl (k := 3) rfl (by rw [ex198]; rfl) (by decide) rfl (fun ls hl => ?_)
          refine lv_goto (tgt := 18) hx hb dL_law_944 (by decide) ?_
          exact ih x198 q196.2 h H locs ls hw (lv_sub hl [1, 2, 3, 0] rfl)
        · have h := zif_f h c197
          refine lv_iconst (v := 0) hx hb dL_law_854 (by decide) ?_
          exact absurd (Option.some.inj h) (by decide)
      have h := zif_f h c190
      rcases Decidable.em (x9 = 27) with c199 | c199
      · have h := zif_t h c199
        refine z_tab S (off := 824) c199 (by decide) (by decide) dL_law_32 (by decide +kernel) (tgt := 856) (by decide) ?_
        refine lv_aload_n hx hb dL_law_856 rfl (lv_at hl 1 rfl) ?_
        refine lv_aload_n hx hb dL_law_857 rfl (lv_at hl 0 rfl) ?_
        refine lv_iload_n hx hb dL_law_858 rfl (lv_at hl 3 rfl) ?_
        refine lv_iconst (v := 1) hx hb dL_law_859 (by decide) ?_
        refine lv_iadd hx hb dL_law_860 ?_
        obtain ⟨g200, h⟩ := zck_ex h
        refine va_sld hx hb hX hbl hbA hw.2.2.2.1 (zin_in g200) dL_law_861 ?_
        obtain ⟨q201, eq201, h⟩ := Option.bind_eq_some_iff.mp h
        refine z_callV (ci := 11) (As := [.int (xs (v3 + 1).toNatClampNeg)]) (rest := []) (rv := (some (.int q201.1))) (M1 := q201.2) S hw (c_X11_serves l hG t1 (xs (v3 + 1).toNatClampNeg) k1 M q201 eq201) mv_X11_serves lk_L_131 k1 ⟨_, _, rfl⟩ (by decide) rfl rfl (Nat.le_of_ble_eq_true rfl) ⟨Nat.le_of_ble_eq_true rfl, Nat.le_of_ble_eq_true rfl⟩ hl.1 dL_law_862 (fun H locs hw => ?_)
        refine lv_aload_n hx hb dL_law_865 rfl (lv_at hl 2 rfl) ?_
        refine lv_aload_n hx hb dL_law_866 rfl (lv_at hl 0 rfl) ?_
        refine lv_iload_n hx hb dL_law_867 rfl (lv_at hl 3 rfl) ?_
        refine lv_iconst (v := 1) hx hb dL_law_868 (by decide) ?_
        refine lv_iadd hx hb dL_law_869 ?_
        obtain ⟨g202, h⟩ := zck_ex h
        refine va_sld hx hb hX hbl hbA hw.2.2.2.1 (zin_in g202) dL_law_870 ?_
        obtain ⟨q203, eq203, h⟩ := Option.bind_eq_some_iff.mp h
        refine z_callV (ci := 12) (As := [.int (xs (v3 + 1).toNatClampNeg)]) (rest := [.int q201.1]) (rv := (some (.int q203.1))) (M1 := q203.2) S hw (c_X12_serves l hG t2 (xs (v3 + 1).toNatClampNeg) k2 q201.2 q203 eq203) mv_X12_serves lk_L_134 k2 ⟨_, _, rfl⟩ (by decide) rfl rfl (Nat.le_of_ble_eq_true rfl) ⟨Nat.le_of_ble_eq_true rfl, Nat.le_of_ble_eq_true rfl⟩ hl.1 dL_law_871 (fun H locs hw => ?_)
        refine lv_icmp_eq (tgt := 941) hx hb dL_law_874 (by decide) (fun c204 => ?_) (fun c204 => ?_)
        · have h := zif_t h c204
          obtain ⟨x205, ex205, h⟩ := zlet_ex h
          refine lv_iinc (v := x205) (lv' := [(3, .int x205), (0, .ref b), (1, .ref (za G t1)), (2, .ref (za G t2))]) hx hb dL_law_941 hl (k := 3) rfl (by rw [ex205]; rfl) (by decide) rfl (fun ls hl => ?_)
          refine lv_goto (tgt := 18) hx hb dL_law_944 (by decide) ?_
          exact ih x205 q203.2 h H locs ls hw (lv_sub hl [1, 2, 3, 0] rfl)
        · have h := zif_f h c204
          refine lv_iconst (v := 0) hx hb dL_law_877 (by decide) ?_
          exact absurd (Option.some.inj h) (by decide)
      have h := zif_f h c199
      rcases Decidable.em (x9 = 28) with c206 | c206
      · have h := zif_t h c206
        refine z_tab S (off := 847) c206 (by decide) (by decide) dL_law_32 (by decide +kernel) (tgt := 879) (by decide) ?_
        refine lv_aload_n hx hb dL_law_879 rfl (lv_at hl 1 rfl) ?_
        obtain ⟨q207, eq207, h⟩ := Option.bind_eq_some_iff.mp h
        refine z_callV (ci := 11) (As := []) (rest := []) (rv := (some (.int q207.1))) (M1 := q207.2) S hw (c_X11_best l hG t1 k1 M q207 eq207) mv_X11_best lk_L_135 k1 ⟨_, _, rfl⟩ (by decide) rfl rfl (Nat.le_of_ble_eq_true rfl) ⟨Nat.le_of_ble_eq_true rfl, Nat.le_of_ble_eq_true rfl⟩ hl.1 dL_law_880 (fun H locs hw => ?_)
        refine lv_aload_n hx hb dL_law_883 rfl (lv_at hl 2 rfl) ?_
        obtain ⟨q208, eq208, h⟩ := Option.bind_eq_some_iff.mp h
        refine z_callV (ci := 12) (As := []) (rest := [.int q207.1]) (rv := (some (.int q208.1))) (M1 := q208.2) S hw (c_X12_best l hG t2 k2 q207.2 q208 eq208) mv_X12_best lk_L_138 k2 ⟨_, _, rfl⟩ (by decide) rfl rfl (Nat.le_of_ble_eq_true rfl) ⟨Nat.le_of_ble_eq_true rfl, Nat.le_of_ble_eq_true rfl⟩ hl.1 dL_law_884 (fun H locs hw => ?_)
        refine lv_icmp_eq (tgt := 941) hx hb dL_law_887 (by decide) (fun c209 => ?_) (fun c209 => ?_)
        · have h := zif_t h c209
          obtain ⟨x210, ex210, h⟩ := zlet_ex h
          refine lv_iinc (v := x210) (lv' := [(3, .int x210), (0, .ref b), (1, .ref (za G t1)), (2, .ref (za G t2))]) hx hb dL_law_941 hl (k := 3) rfl (by rw [ex210]; rfl) (by decide) rfl (fun ls hl => ?_)
          refine lv_goto (tgt := 18) hx hb dL_law_944 (by decide) ?_
          exact ih x210 q208.2 h H locs ls hw (lv_sub hl [1, 2, 3, 0] rfl)
        · have h := zif_f h c209
          refine lv_iconst (v := 0) hx hb dL_law_890 (by decide) ?_
          exact absurd (Option.some.inj h) (by decide)
      have h := zif_f h c206
      rcases Decidable.em (x9 = 29) with c211 | c211
      · have h := zif_t h c211
        refine z_tab S (off := 860) c211 (by decide) (by decide) dL_law_32 (by decide +kernel) (tgt := 892) (by decide) ?_
        refine lv_aload_n hx hb dL_law_892 rfl (lv_at hl 1 rfl) ?_
        obtain ⟨q212, eq212, h⟩ := Option.bind_eq_some_iff.mp h
        refine z_callV (ci := 11) (As := []) (rest := []) (rv := (some (.int q212.1))) (M1 := q212.2) S hw (c_X11_image l hG t1 k1 M q212 eq212) mv_X11_image lk_L_139 k1 ⟨_, _, rfl⟩ (by decide) rfl rfl (Nat.le_of_ble_eq_true rfl) ⟨Nat.le_of_ble_eq_true rfl, Nat.le_of_ble_eq_true rfl⟩ hl.1 dL_law_893 (fun H locs hw => ?_)
        refine lv_aload_n hx hb dL_law_896 rfl (lv_at hl 2 rfl) ?_
        obtain ⟨q213, eq213, h⟩ := Option.bind_eq_some_iff.mp h
        refine z_callV (ci := 12) (As := []) (rest := [.int q212.1]) (rv := (some (.int q213.1))) (M1 := q213.2) S hw (c_X12_image l hG t2 k2 q212.2 q213 eq213) mv_X12_image lk_L_142 k2 ⟨_, _, rfl⟩ (by decide) rfl rfl (Nat.le_of_ble_eq_true rfl) ⟨Nat.le_of_ble_eq_true rfl, Nat.le_of_ble_eq_true rfl⟩ hl.1 dL_law_897 (fun H locs hw => ?_)
        refine lv_icmp_eq (tgt := 941) hx hb dL_law_900 (by decide) (fun c214 => ?_) (fun c214 => ?_)
        · have h := zif_t h c214
          obtain ⟨x215, ex215, h⟩ := zlet_ex h
          refine lv_iinc (v := x215) (lv' := [(3, .int x215), (0, .ref b), (1, .ref (za G t1)), (2, .ref (za G t2))]) hx hb dL_law_941 hl (k := 3) rfl (by rw [ex215]; rfl) (by decide) rfl (fun ls hl => ?_)
          refine lv_goto (tgt := 18) hx hb dL_law_944 (by decide) ?_
          exact ih x215 q213.2 h H locs ls hw (lv_sub hl [1, 2, 3, 0] rfl)
        · have h := zif_f h c214
          refine lv_iconst (v := 0) hx hb dL_law_903 (by decide) ?_
          exact absurd (Option.some.inj h) (by decide)
      have h := zif_f h c211
      rcases Decidable.em (x9 = 30) with c216 | c216
      · have h := zif_t h c216
        refine z_tab S (off := 873) c216 (by decide) (by decide) dL_law_32 (by decide +kernel) (tgt := 905) (by decide) ?_
        refine lv_aload_n hx hb dL_law_905 rfl (lv_at hl 1 rfl) ?_
        obtain ⟨q217, eq217, h⟩ := Option.bind_eq_some_iff.mp h
        refine z_callV (ci := 11) (As := []) (rest := []) (rv := (some (.int q217.1))) (M1 := q217.2) S hw (c_X11_on l hG t1 k1 M q217 eq217) mv_X11_on lk_L_143 k1 ⟨_, _, rfl⟩ (by decide) rfl rfl (Nat.le_of_ble_eq_true rfl) ⟨Nat.le_of_ble_eq_true rfl, Nat.le_of_ble_eq_true rfl⟩ hl.1 dL_law_906 (fun H locs hw => ?_)
        refine lv_aload_n hx hb dL_law_909 rfl (lv_at hl 2 rfl) ?_
        obtain ⟨q218, eq218, h⟩ := Option.bind_eq_some_iff.mp h
        refine z_callV (ci := 12) (As := []) (rest := [.int q217.1]) (rv := (some (.int q218.1))) (M1 := q218.2) S hw (c_X12_on l hG t2 k2 q217.2 q218 eq218) mv_X12_on lk_L_146 k2 ⟨_, _, rfl⟩ (by decide) rfl rfl (Nat.le_of_ble_eq_true rfl) ⟨Nat.le_of_ble_eq_true rfl, Nat.le_of_ble_eq_true rfl⟩ hl.1 dL_law_910 (fun H locs hw => ?_)
        refine lv_icmp_eq (tgt := 941) hx hb dL_law_913 (by decide) (fun c219 => ?_) (fun c219 => ?_)
        · have h := zif_t h c219
          obtain ⟨x220, ex220, h⟩ := zlet_ex h
          refine lv_iinc (v := x220) (lv' := [(3, .int x220), (0, .ref b), (1, .ref (za G t1)), (2, .ref (za G t2))]) hx hb dL_law_941 hl (k := 3) rfl (by rw [ex220]; rfl) (by decide) rfl (fun ls hl => ?_)
          refine lv_goto (tgt := 18) hx hb dL_law_944 (by decide) ?_
          exact ih x220 q218.2 h H locs ls hw (lv_sub hl [1, 2, 3, 0] rfl)
        · have h := zif_f h c219
          refine lv_iconst (v := 0) hx hb dL_law_916 (by decide) ?_
          exact absurd (Option.some.inj h) (by decide)
      have h := zif_f h c216
      rcases Decidable.em (x9 = 31) with c221 | c221
      · have h := zif_t h c221
        refine z_tab S (off := 886) c221 (by decide) (by decide) dL_law_32 (by decide +kernel) (tgt := 918) (by decide) ?_
        refine lv_aload_n hx hb dL_law_918 rfl (lv_at hl 1 rfl) ?_
        refine lv_aload_n hx hb dL_law_919 rfl (lv_at hl 0 rfl) ?_
        refine lv_iload_n hx hb dL_law_920 rfl (lv_at hl 3 rfl) ?_
        refine lv_iconst (v := 1) hx hb dL_law_921 (by decide) ?_
        refine lv_iadd hx hb dL_law_922 ?_
        obtain ⟨g222, h⟩ := zck_ex h
        refine va_sld hx hb hX hbl hbA hw.2.2.2.1 (zin_in g222) dL_law_923 ?_
        obtain ⟨q223, eq223, h⟩ := Option.bind_eq_some_iff.mp h
        refine z_callV (ci := 11) (As := [.int (xs (v3 + 1).toNatClampNeg)]) (rest := []) (rv := (some (.int q223))) (M1 := M) S hw (c_X11_count l hG t1 (xs (v3 + 1).toNatClampNeg) k1 M q223 eq223) mv_X11_count lk_L_147 k1 ⟨_, _, rfl⟩ (by decide) rfl rfl (Nat.le_of_ble_eq_true rfl) ⟨Nat.le_of_ble_eq_true rfl, Nat.le_of_ble_eq_true rfl⟩ hl.1 dL_law_924 (fun H locs hw => ?_)
        refine lv_aload_n hx hb dL_law_927 rfl (lv_at hl 2 rfl) ?_
        refine lv_aload_n hx hb dL_law_928 rfl (lv_at hl 0 rfl) ?_
        refine lv_iload_n hx hb dL_law_929 rfl (lv_at hl 3 rfl) ?_
        refine lv_iconst (v := 1) hx hb dL_law_930 (by decide) ?_
        refine lv_iadd hx hb dL_law_931 ?_
        obtain ⟨g224, h⟩ := zck_ex h
        refine va_sld hx hb hX hbl hbA hw.2.2.2.1 (zin_in g224) dL_law_932 ?_
        obtain ⟨q225, eq225, h⟩ := Option.bind_eq_some_iff.mp h
        refine z_callV (ci := 12) (As := [.int (xs (v3 + 1).toNatClampNeg)]) (rest := [.int q223]) (rv := (some (.int q225))) (M1 := M) S hw (c_X12_count l hG t2 (xs (v3 + 1).toNatClampNeg) k2 M q225 eq225) mv_X12_count lk_L_150 k2 ⟨_, _, rfl⟩ (by decide) rfl rfl (Nat.le_of_ble_eq_true rfl) ⟨Nat.le_of_ble_eq_true rfl, Nat.le_of_ble_eq_true rfl⟩ hl.1 dL_law_933 (fun H locs hw => ?_)
        refine lv_icmp_eq (tgt := 941) hx hb dL_law_936 (by decide) (fun c226 => ?_) (fun c226 => ?_)
        · have h := zif_t h c226
          obtain ⟨x227, ex227, h⟩ := zlet_ex h
          refine lv_iinc (v := x227) (lv' := [(3, .int x227), (0, .ref b), (1, .ref (za G t1)), (2, .ref (za G t2))]) hx hb dL_law_941 hl (k := 3) rfl (by rw [ex227]; rfl) (by decide) rfl (fun ls hl => ?_)
          refine lv_goto (tgt := 18) hx hb dL_law_944 (by decide) ?_
          exact ih x227 M h H locs ls hw (lv_sub hl [1, 2, 3, 0] rfl)
        · have h := zif_f h c226
          refine lv_iconst (v := 0) hx hb dL_law_939 (by decide) ?_
          exact absurd (Option.some.inj h) (by decide)
      have h := zif_f h c221
      have nc10 := zne c10 (z := 0) (by decide)
      have nc21 := zne c21 (z := 1) (by decide)
      have nc26 := zne c26 (z := 2) (by decide)
      have nc33 := zne c33 (z := 3) (by decide)
      have nc38 := zne c38 (z := 4) (by decide)
      have nc45 := zne c45 (z := 5) (by decide)
      have nc56 := zne c56 (z := 6) (by decide)
      have nc63 := zne c63 (z := 7) (by decide)
      have nc72 := zne c72 (z := 8) (by decide)
      have nc79 := zne c79 (z := 9) (by decide)
      have nc82 := zne c82 (z := 10) (by decide)
      have nc91 := zne c91 (z := 11) (by decide)
      have nc96 := zne c96 (z := 12) (by decide)
      have nc105 := zne c105 (z := 13) (by decide)
      have nc112 := zne c112 (z := 14) (by decide)
      have nc117 := zne c117 (z := 15) (by decide)
      have nc126 := zne c126 (z := 16) (by decide)
      have nc133 := zne c133 (z := 17) (by decide)
      have nc138 := zne c138 (z := 18) (by decide)
      have nc145 := zne c145 (z := 19) (by decide)
      have nc150 := zne c150 (z := 20) (by decide)
      have nc159 := zne c159 (z := 21) (by decide)
      have nc164 := zne c164 (z := 22) (by decide)
      have nc169 := zne c169 (z := 23) (by decide)
      have nc174 := zne c174 (z := 24) (by decide)
      have nc183 := zne c183 (z := 25) (by decide)
      have nc190 := zne c190 (z := 26) (by decide)
      have nc199 := zne c199 (z := 27) (by decide)
      have nc206 := zne c206 (z := 28) (by decide)
      have nc211 := zne c211 (z := 29) (by decide)
      have nc216 := zne c216 (z := 30) (by decide)
      have nc221 := zne c221 (z := 31) (by decide)
      refine z_tabD S (by omega) dL_law_32 (tgt := 941) (by decide) ?_
      obtain ⟨x228, ex228, h⟩ := zlet_ex h
      refine lv_iinc (v := x228) (lv' := [(3, .int x228), (0, .ref b), (1, .ref (za G t1)), (2, .ref (za G t2))]) hx hb dL_law_941 hl (k := 3) rfl (by rw [ex228]; rfl) (by decide) rfl (fun ls hl => ?_)
      refine lv_goto (tgt := 18) hx hb dL_law_944 (by decide) ?_
      exact ih x228 M h H locs ls hw (lv_sub hl [1, 2, 3, 0] rfl)
end Z
