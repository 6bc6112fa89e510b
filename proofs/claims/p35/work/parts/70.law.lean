theorem lc_gt {a b : Nat} (ha : a < 2147483648) (hb : b < 2147483648) : (0 < lg_cmp (lN a) (lN b)) ↔ b < a := by
  rw [← Int32.not_le, lc_le ha hb]
  omega
theorem lg_self (x : Int64) : lg_cmp x x = 0 := by rw [lg_cmp_eq]
theorem okw_b : okw [nI 98] := ⟨by decide, by decide +kernel⟩
theorem wgt_ok {m : Nat} (h : m ≤ 63) : (-99 : Int32) ≤ nI m - 30 ∧ ¬ (99 : Int32) < nI m - 30 := by
  have : ∀ m, m < 64 → (-99 : Int32) ≤ nI m - 30 ∧ ¬ (99 : Int32) < nI m - 30 := by decide +kernel
  exact this m (by omega)
theorem nI_nz {n : Nat} (h : 0 < n) (hb : n < 2147483648) : znzI (nI n) = true := by
  unfold znzI
  rw [decide_eq_true_eq, ← nI0, nI_inj hb (by omega)]
  omega
section LW
variable {L : Nat} {xs : Nat → Int32}
/-- one round of the law -/
theorem law31 (hL : L ≤ 260) : ∀ c k fuel M (ws od a1 a2 : List Int32) (im : zI), k + c = 24 → c < fuel → SS ws [] od a1 a2 im M → f_L_law_31 L xs 0 (fun _ => some 1) fuel (nI k) M = some 1 := by
  intro c
  induction c with
  | zero =>
    intro k fuel M ws od a1 a2 im hc hf hS
    obtain ⟨fuel, rfl⟩ : ∃ m, fuel = m + 1 := ⟨fuel - 1, by omega⟩
    rw [f_L_law_31]
    simp only [zletE]
    refine if_in (P := fun x => x = some 1) (fun _ => rfl) (fun _ => ?_)
    rw [if_pos (by rw [show (24 : Int32) = nI 24 from rfl, nI_le' (by omega) (by omega)]; omega)]
  | succ c ih =>
    intro k fuel M ws od a1 a2 im hc hf hS
    obtain ⟨fuel, rfl⟩ : ∃ m, fuel = m + 1 := ⟨fuel - 1, by omega⟩
    have hl := hS.1.1.1
    have hlp := okw_len hS.1.1
    have hp0 := SS_pos hS
    have hNlt := Ny_lt (ws := ws) (i := 0) (j := ws.length) (by omega)
    have nxt : ∀ (M' : ZM) (ws' od' b1 b2 : List Int32) (im' : zI), SS ws' [] od' b1 b2 im' M' → f_L_law_31 L xs 0 (fun _ => some 1) fuel (nI k + 1) M' = some 1 := by
      intro M' ws' od' b1 b2 im' h
      rw [nI_s]
      exact ih (k + 1) fuel M' ws' od' b1 b2 im' (by omega) (by omega) h
    have nxtz : ∀ (M' : ZM) (ws' od' b1 b2 : List Int32) (im' : zI), SS ws' [] od' b1 b2 im' M' → (zlet (nI k + 1) fun (x : Int32) => f_L_law_31 L xs 0 (fun _ => some 1) fuel x M') = some 1 := by
      intro M' ws' od' b1 b2 im' h
      rw [zletE]
      exact nxt M' ws' od' b1 b2 im' h
    -- seen again as it was
    have seen : ∀ (M' : ZM) (ws' od' b1 b2 : List Int32) (im' : zI), SS ws' [] od' b1 b2 im' M' → ws' = ws → od'.length = od.length → b1.length = a1.length → ((f_L_sight 0 M').bind fun (q : Int64) => if (lg_cmp q (sgt ws 0 od.length a1.length)) = 0 then (zlet (nI k + 1) fun (x : Int32) => f_L_law_31 L xs 0 (fun _ => some 1) fuel x M') else some 0) = some 1 := by
      intro M' ws' od' b1 b2 im' h e1 e2 e3
      have s := s_sight h
      rw [e1, e2, e3, List.length_nil] at s
      rw [s, bindE, if_pos (lg_self _)]
      exact nxtz M' ws' od' b1 b2 im' h
    have hsight := s_sight hS
    rw [List.length_nil] at hsight
    have cnt : ∀ j, j < 5 → f_X11_count 0 (nI j) M = some (cv ws 0 od.length a1.length j) := fun j hj => by
      have := s_count hS hj
      rwa [List.length_nil] at this
    rw [f_L_law_31]
    refine zl_in (P := fun x => x = some 1) (fun J497 h497 => ?_)
    refine zl_in (P := fun x => x = some 1) (fun J455 h455 => ?_)
    refine zl_in (P := fun x => x = some 1) (fun J454 h454 => ?_)
    refine zl_in (P := fun x => x = some 1) (fun J261 h261 => ?_)
    refine if_in (P := fun x => x = some 1) (fun _ => rfl) (fun _ => ?_)
    refine if_in (P := fun x => x = some 1) (fun _ => rfl) (fun _ => ?_)
    obtain ⟨q, eq⟩ := cell_ok hL xs M (show k < 1000 by omega)
    rw [eq, bindE, hsight, bindE]
    refine zl_in (P := fun x => x = some 1) (fun x45 _ => ?_)
    -- a rule
    refine if_in (P := fun x => x = some 1) (fun _ => ?_) (fun _ => ?_)
    · have e := cnt 1 (by omega)
      rw [show nI 1 = 1 from rfl] at e
      obtain ⟨m, hm, em⟩ := and_nI (q >>> ((3 : Int32) &&& 31)) (k := 7) (by omega)
      have ea : ((q >>> ((3 : Int32) &&& 31)) &&& 7) - ((q >>> ((3 : Int32) &&& 31)) &&& 7) / 6 * 6 = nI (m % 6) := by
        show ((q >>> ((3 : Int32) &&& 31)) &&& nI 7) - ((q >>> ((3 : Int32) &&& 31)) &&& nI 7) / nI 6 * nI 6 = nI (m % 6)
        rw [em, pk_rem (by omega) (by omega) (by omega)]
      obtain ⟨a, N, od', e2, s2, h2⟩ := s_choose hS (c := m % 6) (by omega)
      rw [e, bindE, zckT (by decide), ea, e2, bindE]
      refine if_in (P := fun x => x = some 1) (fun _ => nxtz N _ _ _ _ _ s2) (fun hne => ?_)
      rcases h2 with ⟨ha, _⟩ | ⟨ha, ho⟩
      · refine absurd ?_ hne
        show a = cv ws 0 od.length a1.length 1 + 1
        rw [ha, show cv ws 0 od.length a1.length 1 = nI od.length from rfl, nI_s]
      · rw [if_pos ha]
        exact seen N _ _ _ _ _ s2 rfl (by rw [ho]) rfl
    -- an aim
    refine if_in (P := fun x => x = some 1) (fun _ => ?_) (fun _ => ?_)
    · have e := cnt 2 (by omega)
      rw [show nI 2 = 2 from rfl, show cv ws 0 od.length a1.length 2 = nI a1.length from rfl] at e
      obtain ⟨m, hm, em⟩ := and_nI (q >>> ((3 : Int32) &&& 31)) (k := 31) (by omega)
      obtain ⟨m', hm', em'⟩ := and_nI (q >>> ((8 : Int32) &&& 31)) (k := 63) (by omega)
      have ea : ((q >>> ((3 : Int32) &&& 31)) &&& 31) = nI m := em
      have eb : ((q >>> ((8 : Int32) &&& 31)) &&& 63) = nI m' := em'
      have hw := wgt_ok hm'
      obtain ⟨a, N, b1, b2, e2, s2, h2⟩ := s_aim hS (c := m) (by omega) hw.1 hw.2
      have h8 := hS.1.2.2.2.1.1
      rw [e, bindE, ea, eb, e2, zletE]
      rcases h2 with ⟨hlt, ha, _⟩ | ⟨hge, ha, _, _⟩
      · rw [if_neg (by rw [show (8 : Int32) = nI 8 from rfl, nI_le' (by omega) (by omega)]; omega), if_pos (by rw [ha, nI_s])]
        exact nxtz N _ _ _ _ _ s2
      · rw [if_pos (by rw [show (8 : Int32) = nI 8 from rfl, nI_le' (by omega) (by omega)]; omega), if_pos ha]
        exact nxtz N _ _ _ _ _ s2
    -- brackets
    refine if_in (P := fun x => x = some 1) (fun _ => ?_) (fun _ => ?_)
    · have e := cnt 0 (by omega)
      rw [nI0, show cv ws 0 od.length a1.length 0 = nI ws.length from rfl] at e
      obtain ⟨m, hm, em⟩ := and_nI (q >>> ((3 : Int32) &&& 31)) (k := 31) (by omega)
      obtain ⟨m', hm', em'⟩ := and_nI (q >>> ((8 : Int32) &&& 31)) (k := 31) (by omega)
      have ea : ((q >>> ((3 : Int32) &&& 31)) &&& 31) - ((q >>> ((3 : Int32) &&& 31)) &&& 31) / nI ws.length * nI ws.length = nI (m % ws.length) := by
        show ((q >>> ((3 : Int32) &&& 31)) &&& nI 31) - ((q >>> ((3 : Int32) &&& 31)) &&& nI 31) / nI ws.length * nI ws.length = _
        rw [em, pk_rem (by omega) hlp (by omega)]
      have eb : ((q >>> ((8 : Int32) &&& 31)) &&& 31) - ((q >>> ((8 : Int32) &&& 31)) &&& 31) / nI ws.length * nI ws.length = nI (m' % ws.length) := by
        show ((q >>> ((8 : Int32) &&& 31)) &&& nI 31) - ((q >>> ((8 : Int32) &&& 31)) &&& nI 31) / nI ws.length * nI ws.length = _
        rw [em', pk_rem (by omega) hlp (by omega)]
      obtain ⟨a, ha⟩ : ∃ a, a = m % ws.length := ⟨_, rfl⟩
      obtain ⟨b, hb⟩ : ∃ b, b = m' % ws.length := ⟨_, rfl⟩
      have ha' : a < ws.length := by rw [ha]; exact Nat.mod_lt _ hlp
      have hb' : b < ws.length := by rw [hb]; exact Nat.mod_lt _ hlp
      rw [← ha] at ea
      rw [← hb] at eb
      rw [s_readings hS, zletE, e, bindE, zckT (nI_nz hlp (by omega)), zletE, zckT (nI_nz hlp (by omega)), zletE, ea, eb]
      have t455 : ∀ s0 s1 : Int32, (s0 &&& s1 = 0 ∨ ∃ t, sp ws a t ∧ ln t = b + 1 - a) → J455 (nI k) (sgt ws 0 od.length a1.length) (lN (Ny ws 0 ws.length)) (nI ws.length) (nI a) (nI b) s0 s1 M = some 1 := by
        intro s0 s1 hph
        rw [h455]
        show (zlet (s0 &&& s1) fun (x4 : Int32) => (f_X11_bracket 0 (nI a) (nI b) M).bind fun (q5 : (Int32 × ZM)) => if q5.1 ≤ 0 then ((f_L_sight 0 q5.2).bind fun (q7 : Int64) => if (lg_cmp q7 (sgt ws 0 od.length a1.length)) = 0 then (zlet (nI k + 1) fun (x9 : Int32) => f_L_law_31 L xs 0 (fun _ => some 1) fuel x9 q5.2) else some 0) else (if q5.1 = (nI ws.length + 2) then (if x4 = 0 then J497 (nI k) q5.2 else (zlet (f_X11_readings 0 q5.2) fun (q12 : Int64) => if 0 < (lg_cmp q12 (lN (Ny ws 0 ws.length))) then some 0 else J497 (nI k) q5.2)) else some 0)) = some 1
        rw [zletE]
        obtain ⟨x, N, ws', e3, s3, h3⟩ := s_bracket hS ha' hb'
        rw [e3, bindE]
        have t497 : J497 (nI k) N = some 1 := by
          rw [h497]
          show (zlet (f_X11_readings 0 N) fun (q1 : Int64) => if 0 ≤ (lg_cmp q1 1) then (zlet (nI k + 1) fun (x3 : Int32) => f_L_law_31 L xs 0 (fun _ => some 1) fuel x3 N) else some 0) = some 1
          have hp' := SS_pos s3
          have hl' := s3.1.1.1
          have hN' := Ny_lt (ws := ws') (i := 0) (j := ws'.length) (by omega)
          rw [zletE, s_readings s3, if_pos (by rw [← lN1, lc_ge (by omega) (by omega)]; omega)]
          exact nxtz N _ _ _ _ _ s3
        rcases h3 with ⟨hx, hab, h21, hws⟩ | ⟨hx, hws⟩
        · rw [if_neg (by rw [hx, ← nI0, nI_le' (by omega) (by omega)]; omega), if_pos (by rw [hx, show (2 : Int32) = nI 2 from rfl, nJ_add])]
          refine if_in (P := fun x => x = some 1) (fun _ => t497) (fun hne => ?_)
          rw [zletE, s_readings s3, if_neg ?_]
          · exact t497
          · have hl' := s3.1.1.1
            have hN' := Ny_lt (ws := ws') (i := 0) (j := ws'.length) (by omega)
            rw [lc_gt (by omega) (by omega)]
            rcases hph with z | ⟨t, t1, t2⟩
            · exact absurd z hne
            · have := mono_ok h21 hab hb' t1 (by omega)
              rw [hws]
              omega
        · rw [if_pos hx]
          exact seen N ws' od a1 a2 im s3 hws rfl rfl
      have t454 : ∀ s0 : Int32, J454 (nI k) (sgt ws 0 od.length a1.length) (lN (Ny ws 0 ws.length)) (nI ws.length) (nI a) (nI b) s0 M = some 1 := by
        intro s0
        rw [h454]
        exact t455 s0 0 (Or.inl (by rw [Int32.and_zero]))
      have t261 : ∀ v15 : Int32, PI ws a b a 0 0 v15 → J261 (nI k) (sgt ws 0 od.length a1.length) (lN (Ny ws 0 ws.length)) (nI ws.length) (nI a) (nI b) 0 0 v15 M = some 1 := by
        intro v15 hPI
        rw [h261]
        obtain ⟨x13, x14, x15, e3, h3⟩ := ph267 (L := L) (xs := xs) (v4 := nI k) (v10 := nI ws.length) (v11 := nI a) (v6 := sgt ws 0 od.length a1.length) (v8 := lN (Ny ws 0 ws.length)) hS hb' (fun (v13 : Int32) (v14 : Int32) (v15 : Int32) (M : ZM) =>
          if v14 = 0 then (
            J454 (nI k) (sgt ws 0 od.length a1.length) (lN (Ny ws 0 ws.length)) (nI ws.length) (nI a) (nI b) v15 M) else (
            if v13 = 0 then (
              J455 (nI k) (sgt ws 0 od.length a1.length) (lN (Ny ws 0 ws.length)) (nI ws.length) (nI a) (nI b) v15 1 M) else (
              J454 (nI k) (sgt ws 0 od.length a1.length) (lN (Ny ws 0 ws.length)) (nI ws.length) (nI a) (nI b) v15 M))) (b + 1 - a) a zN 0 0 v15 rfl (by omega) (by unfold zN; omega) hPI
        refine e3.trans ?_
        refine if_in (P := fun x => x = some 1) (fun _ => t454 _) (fun h14 => ?_)
        refine if_in (P := fun x => x = some 1) (fun h13 => ?_) (fun _ => t454 _)
        refine t455 _ _ ?_
        by_cases z : x15 = 0
        · exact Or.inl (by rw [z, Int32.zero_and])
        · exact Or.inr (PI_end h3 h14 h13 z (by omega))
      refine if_in (P := fun x => x = some 1) (fun _ => t261 0 (Or.inl rfl)) (fun hge => t261 1 (Or.inr ⟨rfl, 0, true, nI0.symm, by rw [if_pos rfl], Nat.zero_le _, ?_, rfl⟩))
      rw [nJ_lt (by omega) (by omega)] at hge
      omega
    -- an image, other words, and on from it
    refine if_in (P := fun x => x = some 1) (fun _ => ?_) (fun _ => ?_)
    · obtain ⟨N1, e1, s1⟩ := s_image hS
      obtain ⟨r2, N2, e2, s2, _⟩ := s_say s1 (n := 98) (by omega) (by decide)
      rw [show nI 98 = 98 from rfl] at e2
      obtain ⟨N3, e3, s3⟩ := s_read s2 okw_b
      obtain ⟨r4, N4, od4, e4, s4, _⟩ := s_choose s3 (c := 0) (by omega)
      rw [nI0] at e4
      obtain ⟨r5, N5, od5, e5, s5, _⟩ := s_choose s4 (c := 5) (by omega)
      rw [show nI 5 = 5 from rfl] at e5
      obtain ⟨r6, N6, b1, b2, e6, s6, _⟩ := s_aim s5 (c := 1) (w := 1) (by omega) (by decide) (by decide)
      rw [show nI 1 = 1 from rfl] at e6
      obtain ⟨N7, e7, s7⟩ := s_on s6
      rw [e1, bindE, e2, bindE, e3, bindE, e4, bindE, e5, bindE, e6, zletE, zletE, e7, bindE, if_pos rfl]
      exact seen N7 _ _ _ _ _ s7 rfl rfl rfl
    -- what is refused, what is asked
    refine if_in (P := fun x => x = some 1) (fun _ => ?_) (fun _ => ?_)
    · obtain ⟨N1, e1, s1⟩ := s_choose6 hS
      obtain ⟨N2, e2, s2⟩ := s_aim32 s1
      obtain ⟨N3, e3, s3⟩ := s_br1 s2
      obtain ⟨N4, e4, s4⟩ := s_br2 s3
      obtain ⟨N5, e5, s5⟩ := s_feed0 s4
      obtain ⟨r6, N6, e6, s6⟩ := s_test s5
      obtain ⟨r7, N7, e7, s7, _⟩ := s_best s6
      obtain ⟨r8, N8, e8, s8⟩ := s_hangs s7
      obtain ⟨r9, N9, e9, s9⟩ := s_fewest s8
      obtain ⟨rA, NA, eA, sA, _⟩ := s_needless s9
      rw [e1, bindE, e2, zletE, e3, bindE, e4, bindE, e5, bindE, zletE, e6, bindE, e7, bindE, e8, bindE, e9, bindE, eA, bindE, zletE, if_pos (show (-1 : Int32) + (-1) + (-1) + (-1) + (-4) = -8 by decide)]
      exact seen NA _ _ _ _ _ sA rfl rfl rfl
    -- no rules any more
    refine if_in (P := fun x => x = some 1) (fun _ => ?_) (fun _ => ?_)
    · refine if_in (P := fun x => x = some 1) (fun _ => ?_) (fun _ => nxtz M _ _ _ _ _ hS)
      obtain ⟨r, N, e, s⟩ := s_unchoose hS
      rw [e, zletE]
      exact nxtz N _ _ _ _ _ s
    -- what the readings answer
    rw [s_readings hS, zletE]
    by_cases h200 : Ny ws 0 ws.length ≤ 200
    · rw [if_pos (by rw [show (200 : Int64) = lN 200 by decide +kernel, lc_le (by omega) (by omega)]; exact h200), zletE, zletE, lN_i]
      obtain ⟨N1, e1, s1⟩ := s_left hS h200
      obtain ⟨m, hm, em⟩ := and_nI (q >>> ((3 : Int32) &&& 31)) (k := 255) (by omega)
      have ea : ((q >>> ((3 : Int32) &&& 31)) &&& 255) - ((q >>> ((3 : Int32) &&& 31)) &&& 255) / nI (Ny ws 0 ws.length) * nI (Ny ws 0 ws.length) = nI (m % Ny ws 0 ws.length) := by
        show ((q >>> ((3 : Int32) &&& 31)) &&& nI 255) - ((q >>> ((3 : Int32) &&& 31)) &&& nI 255) / nI (Ny ws 0 ws.length) * nI (Ny ws 0 ws.length) = _
        rw [em, pk_rem (by omega) hp0 (by omega)]
      obtain ⟨r, hr⟩ : ∃ r, r = m % Ny ws 0 ws.length := ⟨_, rfl⟩
      have hr' : r < Ny ws 0 ws.length := by rw [hr]; exact Nat.mod_lt _ hp0
      rw [← hr] at ea
      have lp := lo_pos (od := od) hp0
      have ll := lo_le (ws := ws) (od := od)
      obtain ⟨v2, N2, e2, s2, _, h2⟩ := s_means s1 hr'
      have h2 := h2 h200
      subst h2
      obtain ⟨v3, N3, e3, s3, _, h3⟩ := s_unlike s2
      obtain ⟨u3, hu3, g1, g2⟩ := h3 h200
      obtain ⟨v4, N4, e4, s4, _, h4⟩ := s_unlike s3
      obtain ⟨u4, hu4, g3, g4⟩ := h4 h200
      obtain ⟨v5, N5, e5, s5, h5⟩ := s_allL s4 h200
      obtain ⟨v6, N6, e6, s6, h6⟩ := s_allB s5 h200
      obtain ⟨v7, N7, e7, s7, u7, hu7, g7⟩ := s_passed s6 h200
      have ec := s_count s7 (k := 1) (by omega)
      rw [show nI 1 = 1 from rfl, show cv ws ([] : List Int32).length od.length a1.length 1 = nI od.length from rfl] at ec
      have h6' := hS.1.2.2.1.1
      rw [e1, bindE, zckT (nI_nz hp0 (by omega)), zletE, ea, e2, bindE, if_neg (by rw [show (1 : Int32) = nI 1 from rfl, nJ_lt (by omega) (by omega)]; omega), if_neg (by rw [nJ_lt (by omega) (by omega)]; omega), e3, bindE, if_neg (by rw [hu3, show (1 : Int32) = nI 1 from rfl, nJ_lt (by omega) (by omega)]; omega), e4, bindE, if_neg (by rw [hu4, nJ_lt (by omega) (by omega)]; omega), e5, bindE, if_pos (by rw [h5 r hr']; exact lg_self 0), e6, bindE, if_pos (by rw [h6 r hr']; exact lg_self 0), e7, bindE, ec, bindE, if_pos (by rw [hu7, nI_le' (by omega) (by omega)]; exact g7)]
      obtain ⟨N8, e8, s8⟩ := left832 (L := L) (xs := xs) (v4 := nI k) (v10 := nI r) h200 (fun (M : ZM) =>
                            (f_X11_best 0 M).bind fun (q137 : (Int32 × ZM)) =>
                            (f_X11_serves 0 q137.1 q137.2).bind fun (q138 : (Int32 × ZM)) =>
                            (f_X11_serves 0 (nI r) q138.2).bind fun (q139 : (Int32 × ZM)) =>
                            if q138.1 < q139.1 then (
                              some 0) else (
                              (f_X11_same 0 (nI r) (nI r) q139.2).bind fun (q141 : (Int32 × ZM)) =>
                              if q141.1 = 1 then (
                                (f_X11_part 0 (nI r) (nI r) q141.2).bind fun (q143 : (Int32 × ZM)) =>
                                if q143.1 = (-9) then (
                                  (f_X11_needless 0 q143.2).bind fun (q145 : (Int32 × ZM)) =>
                                  (f_X11_idle 0 (nI r) q145.2).bind fun (q146 : (Int32 × ZM)) =>
                                  if (q145.1 &&& (q146.1 ^^^ (-1))) = 0 then (
                                    zlet (nI k + 1) fun (x148 : Int32) =>
                                    f_L_law_31 L xs 0 (fun _ => some 1) fuel x148 q146.2) else (
                                    some 0)) else (
                                  some 0)) else (
                                some 0))) (lo ws od).length 0 zN N7 (by omega) (by unfold zN; omega) s7
      rw [nI0] at e8
      refine e8.trans ?_
      obtain ⟨v9, N9, e9, s9, h9⟩ := s_best s8
      obtain ⟨b, hb, hb2, hbest⟩ := h9 h200
      subst hb2
      obtain ⟨NA, eA, sA⟩ := s_serves s9 h200 hb
      obtain ⟨NB, eB, sB⟩ := s_serves sA h200 hr'
      obtain ⟨NC, eC, sC⟩ := s_same sB h200 hr'
      obtain ⟨ND, eD, sD⟩ := s_part sC h200 hr'
      obtain ⟨vE, NE, eE, sE, hE⟩ := s_needless sD
      obtain ⟨NF, eF, sF⟩ := s_idle sE h200 hr'
      rw [e9, bindE, eA, bindE, eB, bindE, if_neg (Int32.not_lt.mpr (hbest r hr')), eC, bindE, if_pos rfl, eD, bindE, if_pos rfl, eE, bindE, eF, bindE, if_pos (hE h200 r hr')]
      exact nxtz NF _ _ _ _ _ sF
    · rw [if_neg (by rw [show (200 : Int64) = lN 200 by decide +kernel, lc_le (by omega) (by omega)]; exact h200)]
      obtain ⟨v1, N1, e1, s1, h1, _⟩ := s_unlike hS
      obtain ⟨v2, N2, e2, s2, h2, _⟩ := s_means s1 hp0
      rw [nI0] at e2
      rw [e1, bindE, if_pos (h1 h200), e2, bindE, if_pos (by rw [h2 h200]; exact lg_self _)]
      exact nxtz N2 _ _ _ _ _ s2
end LW
theorem law_pure : LawPure := by
  obtain ⟨M1, e1, s1⟩ := start_ok
  refine ⟨M1, e1, fun L xs hL => ?_⟩
  obtain ⟨U, N, e2, s2, hU⟩ := sentence_ok hL xs s1
  have e3 := law31 (xs := xs) hL 18 6 zN N U [] [] [] none (by omega) (by unfold zN; omega) s2
  rw [show nI 6 = 6 from rfl] at e3
  exact ⟨nI U.length, N, e2, nI_pos' (by omega), e3⟩
