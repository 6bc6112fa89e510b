section SR
variable {ws tp od a1 a2 : List Int32} {im : zI} {M N : ZM}
theorem fewL {M : ZM} {L : List Int64} (hA : UA M L) (hl : L.length ≤ 200) : ∃ z, f_X8_fewestCases 27 M = some z := by
  unfold f_X8_fewestCases
  split
  · split
    · have t := few27 hA hl 32 0 zN (-9) (by omega) (by unfold zN; omega) (Or.inr (Or.inr ⟨rfl, fun ⟨a', _, h, _⟩ => by omega, fun ⟨a', _, _, h, _⟩ => by omega⟩))
      rw [nI0] at t
      by_cases q1 : ∃ d, 0 ≤ d ∧ d < 32 ∧ pt L [d]
      · exact ⟨1, t.1 q1⟩
      · obtain ⟨w, ew, _⟩ := t.2 q1
        exact ⟨w, ew⟩
    · exact ⟨_, rfl⟩
  · exact ⟨_, rfl⟩
theorem s_fewest (h : SS ws tp od a1 a2 im M) : ∃ a N, f_X11_fewest 0 M = some (a, N) ∧ SS ws tp od a1 a2 im N := by
  have q : ∃ a N, f_X11_fewest 0 M = some (a, N) ∧ SS ws tp od a1 a2 im N ∧ True := by
    unfold f_X11_fewest
    refine qS (fun x => x) h (P := fun _ => True) (fun N => by simp only [zletE]; rw [if_neg (by decide)]) (fun _ => trivial) (fun N hS hL hm => ?_)
    rw [if_pos rfl]
    obtain ⟨N1, e1, u1, F1⟩ := gath_ok hm hL
    have hlen := ul_len ws (Ny ws 0 ws.length)
    obtain ⟨z, ez⟩ := fewL u1 (by omega)
    rw [show zr 0 6 = 27 by decide +kernel, show zr 0 5 = 19 by decide +kernel, e1, bindE, ez, bindE]
    exact ⟨z, N1, rfl, SS_Fr hS (Fr_sub F1 sc_u), trivial⟩
  obtain ⟨a, N, e, s, _⟩ := q
  exact ⟨a, N, e, s⟩
theorem s_choose (h : SS ws tp od a1 a2 im M) {c : Nat} (hc6 : c < 6) : ∃ a N od', f_X11_choose 0 (nI c) M = some (a, N) ∧ SS ws tp od' a1 a2 im N ∧ ((a = nI (od.length + 1) ∧ od'.length = od.length + 1) ∨ (a = -3 ∧ od' = od)) := by
  obtain ⟨hp, rf, hc⟩ := id h
  have ho := hp.2.2.1
  unfold f_X11_choose
  simp only [zletE]
  rw [noU_t hc6, if_pos rfl, show zr 0 7 = 29 by decide +kernel]
  by_cases q : nI c ∈ od
  · rw [has_t hc.2.2.1 ho.1 q, bindE, if_neg (by decide)]
    obtain ⟨N, e, s⟩ := refS h (v := -3) (k := 3) (by decide +kernel) (by omega)
    rw [e]
    exact ⟨_, N, od, rfl, s, Or.inr ⟨rfl, rfl⟩⟩
  · rw [has_f hc.2.2.1 ho.1 q, bindE, if_pos rfl]
    obtain ⟨ho', hlt⟩ := oko_add ho hc6 q
    have ha := add4_ok (show zr 29 0 = 30 by decide +kernel) (show zn 30 = 6 by decide +kernel) (by decide) hc.2.2.1 hlt (nI c)
    have c' := CI_od hc ha.2 ha.1
    refine ⟨_, _, od ++ [nI c], rfl, ⟨⟨hp.1, hp.2.1, ho', hp.2.2.2⟩, rf, c'⟩, Or.inl ⟨?_, by rw [List.length_append]; rfl⟩⟩
    show f_X4_size 29 (f_X4_add 29 (nI c) M) = _
    rw [show f_X4_size 29 (f_X4_add 29 (nI c) M) = nI (od ++ [nI c]).length from ha.1.1, List.length_append]
    rfl
theorem s_choose6 (h : SS ws tp od a1 a2 im M) : ∃ N, f_X11_choose 0 6 M = some (-1, N) ∧ SS ws tp od a1 a2 im N := by
  unfold f_X11_choose
  simp only [zletE]
  rw [noU_f (v := 6) (Or.inr (Int32.le_refl _)), if_neg (by decide)]
  obtain ⟨N, e, s⟩ := refS h (v := -1) (k := 1) (by decide +kernel) (by omega)
  rw [e]
  exact ⟨N, rfl, s⟩
theorem s_unchoose (h : SS ws tp od a1 a2 im M) : ∃ a N, f_X11_unchoose 0 M = (a, N) ∧ SS ws tp [] a1 a2 im N := by
  obtain ⟨hp, rf, hc⟩ := id h
  have hF : Fr [29, 30] M (zi M 29 1 0) := Fr_zi (by decide)
  refine ⟨f_X4_size 29 M, zi M 29 1 0, ?_, ⟨hp.1, hp.2.1, ⟨Nat.zero_le _, List.nodup_nil, fun x hx => absurd hx List.not_mem_nil⟩, hp.2.2.2⟩, rf, CI_od hc hF ⟨by rw [zi_eq]; rfl, fun k hk => absurd hk (Nat.not_lt_zero _)⟩⟩
  unfold f_X11_unchoose f_X4_clear
  simp only [zletE]
  rw [show zr 0 7 = 29 by decide +kernel]
theorem s_aim (h : SS ws tp od a1 a2 im M) {c : Nat} (hc32 : c < 32) {w : Int32} (w1 : (-99 : Int32) ≤ w) (w2 : ¬ (99 : Int32) < w) : ∃ a N b1 b2, f_X11_aim 0 (nI c) w M = (a, N) ∧ SS ws tp od b1 b2 im N ∧ ((a1.length < 8 ∧ a = nI (a1.length + 1) ∧ b1.length = a1.length + 1) ∨ (¬ a1.length < 8 ∧ a = -6 ∧ b1 = a1 ∧ b2 = a2)) := by
  obtain ⟨hp, rf, hc⟩ := id h
  have ha := hp.2.2.2.1
  have h8 := ha.1
  unfold f_X11_aim
  simp only [zletE]
  rw [noC_t hc32, if_pos rfl, show zr 0 11 = 38 by decide +kernel, if_pos w1, if_neg w2, show f_X0_size 38 M = nI a1.length from hc.2.2.2.1.1]
  by_cases q3 : a1.length < 8
  · rw [if_pos (by rw [show (8 : Int32) = nI 8 from rfl, nJ_lt (by omega) (by omega)]; exact q3)]
    have hA := add0_ok (show zr 38 0 = 39 by decide +kernel) (show zr 38 1 = 40 by decide +kernel) (show zn 39 = 8 by decide +kernel) (show zn 40 = 8 by decide +kernel) (by decide) (by decide) (by decide) hc.2.2.2.1 hc.2.2.2.2.1 ha.2.1 q3 (nI c) w
    have c' := CI_am hc hA.2.2 hA.1 hA.2.1
    refine ⟨_, _, a1 ++ [nI c], a2 ++ [w], rfl, ⟨⟨hp.1, hp.2.1, hp.2.2.1, oka_add ha q3 hc32 w, hp.2.2.2.2⟩, rf, c'⟩, Or.inl ⟨q3, ?_, by rw [List.length_append]; rfl⟩⟩
    rw [show f_X0_size 38 (f_X0_add 38 (nI c) w M) = nI (a1 ++ [nI c]).length from hA.1.1, List.length_append]
    rfl
  · rw [if_neg (by rw [show (8 : Int32) = nI 8 from rfl, nJ_lt (by omega) (by omega)]; exact q3)]
    obtain ⟨N, e, s⟩ := refS h (v := -6) (k := 6) (by decide +kernel) (by omega)
    rw [e]
    exact ⟨_, N, a1, a2, rfl, s, Or.inr ⟨q3, rfl, rfl, rfl⟩⟩
theorem s_aim32 (h : SS ws tp od a1 a2 im M) : ∃ N, f_X11_aim 0 32 0 M = (-1, N) ∧ SS ws tp od a1 a2 im N := by
  unfold f_X11_aim
  simp only [zletE]
  rw [noC_f (v := 32) (Or.inr (Int32.le_refl _)), if_neg (by decide)]
  obtain ⟨N, e, s⟩ := refS h (v := -1) (k := 1) (by decide +kernel) (by omega)
  rw [e]
  exact ⟨N, rfl, s⟩
theorem s_bracket (h : SS ws tp od a1 a2 im M) {a b : Nat} (ha : a < ws.length) (hb : b < ws.length) : ∃ x N ws', f_X11_bracket 0 (nI a) (nI b) M = some (x, N) ∧ SS ws' tp od a1 a2 im N ∧ ((x = nI (ws.length + 2) ∧ a ≤ b ∧ ws.length + 2 ≤ 21 ∧ ws' = bl ws a b ws.length) ∨ (x ≤ 0 ∧ ws' = ws)) := by
  obtain ⟨hp, rf, hc⟩ := id h
  have hl := hp.1.1
  have bad : ∀ (v : Int32) (k : Nat), -v = nI k → k < 7 → v ≤ 0 → ∀ N0, SS ws tp od a1 a2 im N0 → ∃ x N ws', some ((f_X11_refuse 0 v N0).1, (f_X11_refuse 0 v N0).2) = some (x, N) ∧ SS ws' tp od a1 a2 im N ∧ ((x = nI (ws.length + 2) ∧ a ≤ b ∧ ws.length + 2 ≤ 21 ∧ ws' = bl ws a b ws.length) ∨ (x ≤ 0 ∧ ws' = ws)) := by
    intro v k hv hk h0 N0 hS
    obtain ⟨N, e, s⟩ := refS hS hv hk
    rw [e]
    exact ⟨_, N, ws, rfl, s, Or.inr ⟨h0, rfl⟩⟩
  unfold f_X11_bracket
  simp only [zletE]
  rw [if_neg (nI_nn (by omega)), show zr 0 1 = 3 by decide +kernel, show zr 0 2 = 5 by decide +kernel, show f_X10_size 3 M = nI ws.length from hc.2.1.1]
  by_cases hba : b < a
  · rw [if_pos (by rw [nJ_lt (by omega) (by omega)]; exact hba)]
    exact bad (-1) 1 (by decide +kernel) (by omega) (by decide) M h
  · rw [if_neg (by rw [nJ_lt (by omega) (by omega)]; exact hba), if_pos (by rw [nJ_lt (by omega) (by omega)]; exact hb), show (2 : Int32) = nI 2 from rfl, nJ_add]
    have hlen := bl_len ws a b ws.length
    rw [if_pos ha, if_pos hb] at hlen
    by_cases h21 : ws.length + 2 ≤ 21
    · rw [if_pos (by rw [show (21 : Int32) = nI 21 from rfl, nI_le' (by omega) (by omega)]; exact h21)]
      unfold f_X10_bracketed
      simp only [zletE]
      have cl := clear_ok (t := 5) M
      have F0 : Fr [5, 6] M (f_X10_clear 5 M) := Fr_sub cl.2 (by decide +kernel)
      obtain ⟨N, e, hN, hF⟩ := brd7 (a := a) (b := b) h21 (fun (M : ZM) => some M) (by omega) (by omega) ws.length 0 zN (f_X10_clear 5 M) (by omega) (by unfold zN; omega) (WH_Fr hc.2.1 F0 (by decide) (by decide +kernel)) cl.1
      rw [nI0] at e
      have hF2 := Fr_tr F0 hF
      have c1 := CI_Fr hc (Fr_sub hF2 (by decide))
      have hl2 : (bl ws a b ws.length).length ≤ 21 := by omega
      rw [e, bindE, most_ok hl2 hN, bindE]
      by_cases h4 : sh (ml (bl ws a b ws.length)).2 ≤ 4
      · rw [if_pos h4, fault_ok WG5 hl2 hN]
        cases hfl : fl (wa (bl ws a b ws.length)) (bl ws a b ws.length).length true 0 0 with
        | none =>
          have hw : okw (bl ws a b ws.length) := ⟨hl2, hfl⟩
          rw [show ff none = some (-1) from rfl, bindE, if_pos rfl]
          obtain ⟨N1, e1, n1, n2, n3, n4, nF⟩ := take_ok hl2 WG5 (by decide +kernel) (by decide +kernel) hN c1.2.2.2.2.2.2.2.2.1
          have c2 := CI_we c1 nF n1 n2 n3 n4
          rw [e1, bindE]
          refine ⟨_, N1, bl ws a b ws.length, rfl, ⟨⟨hw, hp.2⟩, rf, c2⟩, Or.inl ⟨?_, by omega, h21, rfl⟩⟩
          rw [show f_X10_size 3 N1 = nI (bl ws a b ws.length).length from n1.1, show (bl ws a b ws.length).length = ws.length + 2 by omega]
        | some p =>
          have hp' := fl_lt _ _ _ _ _ hfl
          rw [show ff (some p) = some (nI p) from rfl, bindE, if_neg (nI_ne1 (by omega))]
          exact bad (-3) 3 (by decide +kernel) (by omega) (by decide) N ⟨hp, rf, c1⟩
      · rw [if_neg h4]
        exact bad (-6) 6 (by decide +kernel) (by omega) (by decide) N ⟨hp, rf, c1⟩
    · rw [if_neg (by rw [show (21 : Int32) = nI 21 from rfl, nI_le' (by omega) (by omega)]; exact h21)]
      exact bad (-6) 6 (by decide +kernel) (by omega) (by decide) M h
theorem s_br1 (h : SS ws tp od a1 a2 im M) : ∃ N, f_X11_bracket 0 (-1) 0 M = some (-1, N) ∧ SS ws tp od a1 a2 im N := by
  unfold f_X11_bracket
  simp only [zletE]
  rw [if_pos (by decide)]
  obtain ⟨N, e, s⟩ := refS h (v := -1) (k := 1) (by decide +kernel) (by omega)
  rw [e]
  exact ⟨N, rfl, s⟩
theorem s_br2 (h : SS ws tp od a1 a2 im M) : ∃ N, f_X11_bracket 0 1 0 M = some (-1, N) ∧ SS ws tp od a1 a2 im N := by
  unfold f_X11_bracket
  simp only [zletE]
  rw [if_neg (by decide), if_pos (by decide)]
  obtain ⟨N, e, s⟩ := refS h (v := -1) (k := 1) (by decide +kernel) (by omega)
  rw [e]
  exact ⟨N, rfl, s⟩
theorem s_feed0 (h : SS ws tp od a1 a2 im M) : ∃ N, f_X11_feed 0 0 0 M = some (-4, N) ∧ SS ws tp od a1 a2 im N := by
  unfold f_X11_feed
  simp only [zletE]
  rw [if_neg (by decide)]
  obtain ⟨N, e, s⟩ := refS h (v := -4) (k := 4) (by decide +kernel) (by omega)
  rw [e]
  exact ⟨N, rfl, s⟩
theorem byt0 : ∀ n, n < 128 → byt (nI n).toInt64 0 = nI n := by decide +kernel
theorem s_say (h : SS ws tp od a1 a2 im M) {n : Nat} (hn : n < 128) (ht : tp.length < 21) : ∃ a N, f_L_say 0 (nI n) M = some (a, N) ∧ SS ws (tp ++ [nI n]) od a1 a2 im N ∧ Fr [1, 2] M N := by
  obtain ⟨hp, rf, hc⟩ := id h
  unfold f_L_say f_X11_feed
  simp only [zletE]
  rw [if_pos (by decide), if_neg (by decide), show zr 0 0 = 1 by decide +kernel, show f_X10_size 1 M = nI tp.length from hc.1.1, nI_s, if_pos (by rw [show (21 : Int32) = nI 21 from rfl, nI_le' (by omega) (by omega)]; omega)]
  obtain ⟨N, e, hN, hF⟩ := feedA (n := 1) (by omega) (nI n).toInt64 (tp := tp) (by omega) (fun (M : ZM) => some (f_X10_size 1 M, M)) 1 0 zN M (by omega) (by unfold zN; omega) hc.1
  rw [nI0, show nI 1 = 1 from rfl] at e
  rw [e, bindE]
  have hf : fdl (nI n).toInt64 tp 1 = tp ++ [nI n] := by
    show tp ++ [byt (nI n).toInt64 0] = _
    rw [byt0 n hn]
  rw [hf] at hN
  refine ⟨_, N, rfl, ⟨⟨hp.1, by rw [List.length_append, List.length_singleton]; omega, hp.2.2⟩, rf, CI_tp hc hF hN⟩, hF⟩
theorem s_read (h : SS ws tp od a1 a2 im M) (hw : okw tp) : ∃ N, f_X11_read 0 M = some (nI tp.length, N) ∧ SS tp [] od a1 a2 im N := by
  obtain ⟨hp, rf, hc⟩ := id h
  have hl := hp.2.1
  unfold f_X11_read
  simp only [zletE]
  rw [show zr 0 0 = 1 by decide +kernel, show zr 0 1 = 3 by decide +kernel, fault_ok WG1 hl hc.1, hw.2, show ff none = some (-1) from rfl, bindE, if_pos rfl]
  obtain ⟨N, e, n1, n2, n3, n4, nF⟩ := take_ok hl WG1 (by decide +kernel) (by decide +kernel) hc.1 hc.2.2.2.2.2.2.2.2.1
  have c1 := CI_we hc nF n1 n2 n3 n4
  have cl := clear_ok (t := 1) N
  have c2 := CI_tp c1 (Fr_sub cl.2 (by decide +kernel)) cl.1
  have n1' : WH (f_X10_clear 1 N) 3 tp := WH_Fr n1 cl.2 (by decide +kernel) (by decide +kernel)
  rw [e, bindE, if_pos rfl, show f_X10_size 3 (f_X10_clear 1 N) = nI tp.length from n1'.1]
  exact ⟨_, rfl, ⟨hw, Nat.zero_le _, hp.2.2⟩, rf, c2⟩
theorem s_image (h : SS ws tp od a1 a2 im M) : ∃ N, f_X11_image 0 M = some (nI ws.length, N) ∧ SS ws tp od a1 a2 (some (ws, od, a1, a2)) N := by
  obtain ⟨hp, rf, hc⟩ := id h
  have hl := hp.1.1
  have ho := hp.2.2.1.1
  have ha := hp.2.2.2.1
  obtain ⟨N1, e1, n1, F1⟩ := become_ok WG42 WG3 (by decide +kernel) (by decide +kernel) hl hc.2.1
  obtain ⟨N2, e2, n2, F2⟩ := bec4_ok (c := 44) (u := 29) (r := 45) (s := 30) (by decide +kernel) (by decide +kernel) (by decide +kernel) (by decide +kernel) (by decide) (by decide) (by decide) ho (LH_Fr hc.2.2.1 F1 (by decide +kernel) (by decide +kernel))
  have g4 : LH N2 38 2 39 a1 := LH_Fr (LH_Fr hc.2.2.2.1 F1 (by decide +kernel) (by decide +kernel)) F2 (by decide) (by decide)
  have g5 : LH N2 38 2 40 a2 := LH_Fr (LH_Fr hc.2.2.2.2.1 F1 (by decide +kernel) (by decide +kernel)) F2 (by decide) (by decide)
  obtain ⟨N3, e3, n3, n3', F3⟩ := bec0_ok (c := 46) (u := 38) (r := 47) (s := 39) (r' := 48) (s' := 40) (by decide +kernel) (by decide +kernel) (by decide +kernel) (by decide +kernel) (by decide +kernel) (by decide +kernel) (by decide +kernel) (by decide +kernel) (by decide) (by decide) (by decide) (by decide) (by decide) (by decide) ha.1 ha.2.1 g4 g5
  have hF : Fr [41, 42, 43, 44, 45, 46, 47, 48] M (zi N3 41 3 1) := Fr_tr (Fr_sub F1 (by decide +kernel)) (Fr_tr (Fr_sub F2 (by decide)) (Fr_tr (Fr_sub F3 (by decide)) (Fr_zi (by decide))))
  have F23 : Fr [41, 44, 45, 46, 47, 48] N1 (zi N3 41 3 1) := Fr_tr (Fr_sub F2 (by decide)) (Fr_tr (Fr_sub F3 (by decide)) (Fr_zi (by decide)))
  have F33 : Fr [41, 46, 47, 48] N2 (zi N3 41 3 1) := Fr_tr (Fr_sub F3 (by decide)) (Fr_zi (by decide))
  have F43 : Fr [41] N3 (zi N3 41 3 1) := Fr_zi (by decide)
  have c' : CI ws tp od a1 a2 (some (ws, od, a1, a2)) rf (zi N3 41 3 1) := CI_im hc hF (by rw [zi_eq]; rfl) (fun q hq => by
    injection hq with hq
    subst hq
    exact ⟨WH_Fr n1 F23 (by decide) (by decide +kernel), LH_Fr n2 F33 (by decide) (by decide), LH_Fr n3 F43 (by decide) (by decide), LH_Fr n3' F43 (by decide) (by decide)⟩)
  refine ⟨zi N3 41 3 1, ?_, ⟨hp.1, hp.2.1, hp.2.2.1, ha, fun q hq => ?_⟩, rf, c'⟩
  · unfold f_X11_image f_X1_take
    simp only [zletE]
    rw [show zr 0 12 = 41 by decide +kernel, show zr 0 1 = 3 by decide +kernel, show zr 0 7 = 29 by decide +kernel, show zr 0 11 = 38 by decide +kernel, show zr 41 0 = 42 by decide +kernel, show zr 41 1 = 44 by decide +kernel, show zr 41 2 = 46 by decide +kernel, e1, bindE, e2, bindE, e3, bindE, bindE, show f_X10_size 3 (zi N3 41 3 1) = nI ws.length from c'.2.1.1]
  · injection hq with hq
    subst hq
    exact ⟨hp.1, hp.2.2.1, ha⟩
theorem s_on {iw io i1 i2 : List Int32} (h : SS ws tp od a1 a2 (some (iw, io, i1, i2)) M) : ∃ N, f_X11_on 0 M = some (nI iw.length, N) ∧ SS iw tp io i1 i2 (some (iw, io, i1, i2)) N := by
  obtain ⟨hp, rf, hc⟩ := id h
  unfold f_X11_on f_X1_isThere
  rw [show zr 0 12 = 41 by decide +kernel, hc.2.2.2.2.2.2.1, show (if (some (iw, io, i1, i2)).isSome = true then (1 : Int32) else 0) = 1 from rfl, zckT (by decide), bindE, if_neg (by decide), show zr 41 0 = 42 by decide +kernel, show zr 41 1 = 44 by decide +kernel, show zr 41 2 = 46 by decide +kernel, show zr 0 7 = 29 by decide +kernel, show zr 0 11 = 38 by decide +kernel, show zr 0 1 = 3 by decide +kernel]
  obtain ⟨hiw, hio, hia⟩ := hp.2.2.2.2 _ rfl
  obtain ⟨k1, k2, k3, k4⟩ := hc.2.2.2.2.2.2.2.1 _ rfl
  simp only [] at hiw hio hia k1 k2 k3 k4
  obtain ⟨N1, e1, n1, n2, n3, n4, nF⟩ := take_ok hiw.1 WG42 (by decide +kernel) (by decide +kernel) k1 hc.2.2.2.2.2.2.2.2.1
  have c1 := CI_we hc nF n1 n2 n3 n4
  obtain ⟨N2, e2, o1, F2⟩ := bec4_ok (c := 29) (u := 44) (r := 30) (s := 45) (by decide +kernel) (by decide +kernel) (by decide +kernel) (by decide +kernel) (by decide) (by decide) (by decide) hio.1 (LH_Fr k2 nF (by decide) (by decide))
  have c2 := CI_od c1 F2 o1
  have g4 : LH N2 46 2 47 i1 := LH_Fr (LH_Fr k3 nF (by decide) (by decide)) F2 (by decide) (by decide)
  have g5 : LH N2 46 2 48 i2 := LH_Fr (LH_Fr k4 nF (by decide) (by decide)) F2 (by decide) (by decide)
  obtain ⟨N3, e3, m1, m2, F3⟩ := bec0_ok (c := 38) (u := 46) (r := 39) (s := 47) (r' := 40) (s' := 48) (by decide +kernel) (by decide +kernel) (by decide +kernel) (by decide +kernel) (by decide +kernel) (by decide +kernel) (by decide +kernel) (by decide +kernel) (by decide) (by decide) (by decide) (by decide) (by decide) (by decide) hia.1 hia.2.1 g4 g5
  have c3 := CI_am c2 F3 m1 m2
  simp only [zletE]
  rw [e1, bindE, e2, bindE, e3, bindE, show f_X10_size 3 N3 = nI iw.length from c3.2.1.1]
  exact ⟨N3, rfl, ⟨hiw, hp.2.1, hio, hia, hp.2.2.2.2⟩, rf, c3⟩
/-! counts, and what the law calls sight -/
def ltr (ws : List Int32) : Nat → Nat
  | 0 => 0
  | i + 1 => ltr ws i + (if kd (wa ws i) = 0 then 1 else 0)
theorem ltrL (hl : ws.length ≤ 21) (hs : WH M 3 ws) : ∀ k i fuel, i + k = ws.length → k < fuel → f_X10_letters_4 3 M (fun (v1 : Int32) => some v1) fuel (nI (ltr ws i)) (nI i) = some (nI (ltr ws ws.length)) := by
  intro k
  induction k with
  | zero =>
    intro i fuel hi hf
    obtain ⟨fuel, rfl⟩ : ∃ m, fuel = m + 1 := ⟨fuel - 1, by omega⟩
    rw [f_X10_letters_4, hs.1, if_pos (by rw [nI_le' (by omega) (by omega)]; omega), show i = ws.length by omega]
  | succ k ih =>
    intro i fuel hi hf
    obtain ⟨fuel, rfl⟩ : ∃ m, fuel = m + 1 := ⟨fuel - 1, by omega⟩
    rw [f_X10_letters_4, hs.1, if_neg (by rw [nI_le' (by omega) (by omega)]; omega)]
    simp only [zletE, kdM]
    rw [at_ok WG3 hs hl (by omega), nI_s, nI_s]
    have e := ih (i + 1) fuel (by omega) (by omega)
    rw [ltr] at e
    by_cases q : kd (wa ws i) = 0
    · rw [if_pos q] at e
      rw [if_pos q]; exact e
    · rw [if_neg q, Nat.add_zero] at e
      rw [if_neg q]; exact e
def cv (ws : List Int32) (t p q : Nat) (k : Nat) : Int32 := if k = 0 then nI ws.length else if k = 1 then nI p else if k = 2 then nI q else if k = 3 then nI t else nI (ltr ws ws.length)
theorem s_count (h : SS ws tp od a1 a2 im M) {k : Nat} (hk : k < 5) : f_X11_count 0 (nI k) M = some (cv ws tp.length od.length a1.length k) := by
  obtain ⟨hp, rf, hc⟩ := id h
  unfold f_X11_count cv
  simp only [zletE]
  rcases (show k = 0 ∨ k = 1 ∨ k = 2 ∨ k = 3 ∨ k = 4 by omega) with rfl | rfl | rfl | rfl | rfl
  · rw [if_pos (by decide +kernel), if_pos rfl, show zr 0 1 = 3 by decide +kernel, show f_X10_size 3 M = nI ws.length from hc.2.1.1]
  · rw [if_neg (by decide +kernel), if_pos (by decide +kernel), if_neg (by decide), if_pos rfl, show zr 0 7 = 29 by decide +kernel, show f_X4_size 29 M = nI od.length from hc.2.2.1.1]
  · rw [if_neg (by decide +kernel), if_neg (by decide +kernel), if_pos (by decide +kernel), if_neg (by decide), if_neg (by decide), if_pos rfl, show zr 0 11 = 38 by decide +kernel, show f_X0_size 38 M = nI a1.length from hc.2.2.2.1.1]
  · rw [if_neg (by decide +kernel), if_neg (by decide +kernel), if_neg (by decide +kernel), if_pos (by decide +kernel), if_neg (by decide), if_neg (by decide), if_neg (by decide), if_pos rfl, show zr 0 0 = 1 by decide +kernel, show f_X10_size 1 M = nI tp.length from hc.1.1]
  · have e := ltrL hp.1.1 hc.2.1 ws.length 0 zN (by omega) (by have := hp.1.1; unfold zN; omega)
    rw [show ltr ws 0 = 0 from rfl, nI0] at e
    rw [if_neg (by decide +kernel), if_neg (by decide +kernel), if_neg (by decide +kernel), if_neg (by decide +kernel), if_pos (by decide +kernel), if_neg (by decide), if_neg (by decide), if_neg (by decide), if_neg (by decide), show zr 0 1 = 3 by decide +kernel]
    unfold f_X10_letters
    rw [e, bindE]
def hsh (w : Nat → Int32) : Nat → Nat → Int64 → Int64
  | 0, _, x => x
  | c + 1, i, x => hsh w c (i + 1) (31 * x + (w i).toInt64)
theorem sg6 {w : Nat → Int32} (hw : ∀ i, i < 21 → f_X11_wordAt 0 (nI i) M = w i) (K : Int64 → Option Int64) : ∀ c i fuel x, i + c = 21 → c < fuel → f_L_sight_6 0 M K fuel x (nI i) = K (hsh w c i x) := by
  intro c
  induction c with
  | zero =>
    intro i fuel x hi hf
    obtain ⟨fuel, rfl⟩ : ∃ m, fuel = m + 1 := ⟨fuel - 1, by omega⟩
    rw [f_L_sight_6, if_pos (by rw [show (21 : Int32) = nI 21 from rfl, nI_le' (by omega) (by omega)]; omega), hsh]
  | succ c ih =>
    intro i fuel x hi hf
    obtain ⟨fuel, rfl⟩ : ∃ m, fuel = m + 1 := ⟨fuel - 1, by omega⟩
    rw [f_L_sight_6, if_neg (by rw [show (21 : Int32) = nI 21 from rfl, nI_le' (by omega) (by omega)]; omega)]
    simp only [zletE]
    rw [hw i (by omega), nI_s, ih (i + 1) fuel _ (by omega) (by omega), hsh]
theorem sg33 {w : Nat → Int32} (hw : ∀ i, i < 5 → f_X11_count 0 (nI i) M = some (w i)) (K : Int64 → Option Int64) : ∀ c i fuel x, i + c = 5 → c < fuel → f_L_sight_33 0 M K fuel x (nI i) = K (hsh w c i x) := by
  intro c
  induction c with
  | zero =>
    intro i fuel x hi hf
    obtain ⟨fuel, rfl⟩ : ∃ m, fuel = m + 1 := ⟨fuel - 1, by omega⟩
    rw [f_L_sight_33, if_pos (by rw [show (5 : Int32) = nI 5 from rfl, nI_le' (by omega) (by omega)]; omega), hsh]
  | succ c ih =>
    intro i fuel x hi hf
    obtain ⟨fuel, rfl⟩ : ∃ m, fuel = m + 1 := ⟨fuel - 1, by omega⟩
    rw [f_L_sight_33, if_neg (by rw [show (5 : Int32) = nI 5 from rfl, nI_le' (by omega) (by omega)]; omega), hw i (by omega), bindE]
    simp only [zletE]
    rw [nI_s, ih (i + 1) fuel _ (by omega) (by omega), hsh]
/-- the law's sight: by the words, how many bytes, rules and aims there are -/
def sgt (ws : List Int32) (t p q : Nat) : Int64 := 31 * hsh (cv ws t p q) 5 0 (hsh (fun i => if i < ws.length then wa ws i else -9) 21 0 7) + lN (Ny ws 0 ws.length)
theorem s_sight (h : SS ws tp od a1 a2 im M) : f_L_sight 0 M = some (sgt ws tp.length od.length a1.length) := by
  unfold f_L_sight
  have e1 := sg6 (w := fun i => if i < ws.length then wa ws i else -9) (M := M) (fun i hi => s_word h i (by omega)) (fun (v1 : Int64) =>
    f_L_sight_33 0 M (fun (v1 : Int64) =>
      zlet (f_X11_readings 0 M) fun (q9 : Int64) =>
      some ((31 * v1) + q9)) zN v1 0) 21 0 zN 7 (by omega) (by unfold zN; omega)
  rw [nI0] at e1
  rw [e1]
  have e2 := sg33 (w := cv ws tp.length od.length a1.length) (M := M) (fun i hi => s_count h hi) (fun (v1 : Int64) =>
      zlet (f_X11_readings 0 M) fun (q9 : Int64) =>
      some ((31 * v1) + q9)) 5 0 zN (hsh (fun i => if i < ws.length then wa ws i else -9) 21 0 7) (by omega) (by unfold zN; omega)
  rw [nI0] at e2
  rw [e2, zletE, s_readings h]
  rfl
end SR
