def rff (q : Option Nat) : Option Int32 := match q with | none => some (-9) | some p => some (nI p)
theorem rf7_ok {ws : List Int32} {r : Nat} {M : ZM} (hl : ws.length ≤ 23) (hz : ws.length ≤ zn r) (h : ∀ k, k < ws.length → M.1 r k = wa ws k) : ∀ c i fuel o d, i + c = ws.length → c < fuel → o ≤ 4 → f_X12_fault_7 r (nI ws.length) M (fun (v2 : Int32) (v3 : Int32) =>
    if v3 = 0 then (
      some (nI ws.length)) else (
      if v2 = 0 then (
        some ((-9) : Int32)) else (
        some (nI ws.length)))) fuel (nI o) (if d = true then 0 else 1) (nI i) = rff (fl (wa ws) c d o i) := by
  intro c
  induction c with
  | zero =>
    intro i fuel o d hi hf ho
    obtain ⟨fuel, rfl⟩ : ∃ m, fuel = m + 1 := ⟨fuel - 1, by omega⟩
    rw [f_X12_fault_7]
    simp only [zletE]
    rw [if_pos (by rw [nI_le' (by omega) (by omega)]; omega), fl]
    have hi' : i = ws.length := by omega
    cases d with
    | true =>
      rw [show (if true = true then (0 : Int32) else 1) = 0 from rfl, if_pos rfl, if_neg (fun q => Bool.noConfusion q.1), hi']
      rfl
    | false =>
      rw [show (if false = true then (0 : Int32) else 1) = 1 from rfl, if_neg (by decide)]
      by_cases q : o = 0
      · rw [q, if_pos (by decide +kernel), if_pos ⟨rfl, rfl⟩]; rfl
      · rw [if_neg (by rw [show (0 : Int32) = nI 0 from rfl, nI_inj (by omega) (by omega)]; exact q), if_neg (fun z => q z.2), hi']; rfl
  | succ c ih =>
    intro i fuel o d hi hf ho
    obtain ⟨fuel, rfl⟩ : ∃ m, fuel = m + 1 := ⟨fuel - 1, by omega⟩
    have it := fun o' ho' => ih (i + 1) fuel o' true (by omega) (by omega) ho'
    have iF := fun o' ho' => ih (i + 1) fuel o' false (by omega) (by omega) ho'
    rw [show (if true = true then (0 : Int32) else 1) = 0 from rfl] at it
    rw [show (if false = true then (0 : Int32) else 1) = 1 from rfl] at iF
    rw [f_X12_fault_7]
    simp only [zletE]
    rw [if_neg (by rw [nI_le' (by omega) (by omega)]; omega), zckT (zin_t (by omega) (by omega)), nI_tn (by omega), h i (by omega), isLet, rk]
    cases d with
    | true =>
      rw [show (if true = true then (0 : Int32) else 1) = 0 from rfl, if_pos rfl, fl, nI_s, nI_s]
      by_cases h40 : wa ws i = 40
      · rw [if_neg (show ¬ kd (wa ws i) = 0 by rw [h40]; decide), if_pos rfl, if_pos h40, if_pos h40]
        by_cases q : o < 4
        · rw [if_neg (by rw [show (4 : Int32) = nI 4 from rfl, nI_inj (by omega) (by omega)]; omega), if_pos q]; exact it _ (by omega)
        · rw [if_pos (by rw [show o = 4 by omega]; rfl), if_neg q]; rfl
      · rw [if_neg h40, if_neg h40]
        by_cases h0 : kd (wa ws i) = 0
        · rw [if_pos h0, if_neg (by decide), if_pos h0]; exact iF _ ho
        · rw [if_neg h0, if_pos rfl, if_neg h0]
          by_cases h33 : wa ws i = 33
          · rw [if_pos h33, if_pos h33]; exact it _ ho
          · rw [if_neg h33, if_neg h33]; rfl
    | false =>
      rw [show (if false = true then (0 : Int32) else 1) = 1 from rfl, if_neg (by decide), fl, nI_s]
      by_cases h41 : wa ws i = 41
      · rw [if_pos h41, if_pos h41]
        by_cases q : 0 < o
        · rw [if_neg (by rw [show (0 : Int32) = nI 0 from rfl, nI_le' (by omega) (by omega)]; omega), if_pos q, nI_m1 q]; exact iF _ (by omega)
        · rw [if_pos (by rw [show (0 : Int32) = nI 0 from rfl, nI_le' (by omega) (by omega)]; omega), if_neg q, h41, if_neg (show ¬ jn 41 = true by decide), if_pos (by decide)]; rfl
      · rw [if_neg h41, if_neg h41]
        by_cases hj : jn (wa ws i) = true
        · rw [if_pos hj, if_neg (jn_pos hj).1, if_pos hj]; exact it _ ho
        · rw [if_neg hj, if_pos (by decide), if_neg hj]; rfl
theorem rfault_ok {ws : List Int32} {r : Nat} {M : ZM} (hl : ws.length ≤ 23) (hz : ws.length ≤ zn r) (h : ∀ k, k < ws.length → M.1 r k = wa ws k) : f_X12_fault r (nI ws.length) M = rff (fl (wa ws) ws.length true 0 0) := by
  unfold f_X12_fault
  have := rf7_ok hl hz h ws.length 0 zN 0 true (by omega) (by unfold zN; omega) (by omega)
  rw [nI0] at this
  exact this
/-- a sentence is taken by the reference -/
theorem fin_ok {ws tp od a1 a2 : List Int32} {im : zI} {rf : Nat → Int32} {M N : ZM} (hr : RI ws tp od a1 a2 im rf M) {ws' : List Int32} (hw : okw ws') (h1 : ∀ b, b ≠ 50 → b ≠ 52 → b ≠ 73 → N.1 b = M.1 b) (h2 : N.2 = M.2) (h3 : ∀ k, k ≠ 10 → N.1 50 k = M.1 50 k) (h4 : RW N ws') : ∃ P, f_X12_finds 50 N = some P ∧ P.1 50 10 = nI ws'.length ∧ RI ws' tp od a1 a2 im rf P ∧ Fr r50 M P := by
  obtain ⟨P, e, hRF, hF⟩ := finds_ok hw.1 (okw_len hw) h4 (by rw [h3 28 (by decide)]; exact hr.2.2.2.2.2.2.2.2.2.1)
  have e10 : P.1 50 10 = nI ws'.length := by rw [hF.2 10 (by decide)]; exact h4.1
  have tz : ∀ b, b ∈ [51, 53, 54, 55, 56, 57, 58, 59, 60] → b ∉ fcs ∧ b ≠ 50 ∧ b ≠ 52 ∧ b ≠ 73 := by decide
  have tk : ∀ k, k ∈ [11, 12, 13, 14, 15, 16, 17] → k ∉ [26, 27, 28, 29, 30, 31] ∧ k ≠ 10 := by decide
  refine ⟨P, e, e10, RI_ws hr (fun b hb => by rw [(hF.1 b (tz b hb).1).1, h1 b (tz b hb).2.1 (tz b hb).2.2.1 (tz b hb).2.2.2]) (fun k hk => by rw [hF.2 k (tk k hk).1, h3 k (tk k hk).2]) ⟨e10, fun k hk => by rw [Fr_1 hF.1 (by decide)]; exact h4.2 k hk⟩ hRF, ?_⟩
  intro b hb
  have t : ∀ b, b ∈ fcs → b ∈ r50 := by decide
  have hb' := hF.1 b (fun q => hb (t b q))
  exact ⟨by rw [hb'.1, h1 b (fun z => hb (by rw [z]; decide)) (fun z => hb (by rw [z]; decide)) (fun z => hb (by rw [z]; decide))], by rw [hb'.2, h2]⟩
theorem nI_ne1 {p : Nat} (h : p < 1000) : ¬ nI p = -1 := by
  intro e
  have := nI_nn (a := p) (by omega)
  rw [e] at this
  exact this (by decide)
theorem fl_lt {w : Nat → Int32} : ∀ c d o i p, fl w c d o i = some p → p ≤ i + c := by
  intro c
  induction c with
  | zero =>
    intro d o i p h
    rw [fl] at h
    split at h
    · cases h
    · injection h with h; omega
  | succ c ih =>
    intro d o i p h
    cases d <;> rw [fl] at h
    · split at h
      · split at h
        · have := ih _ _ _ _ h; omega
        · injection h with h; omega
      · split at h
        · have := ih _ _ _ _ h; omega
        · injection h with h; omega
    · split at h
      · split at h
        · have := ih _ _ _ _ h; omega
        · injection h with h; omega
      · split at h
        · have := ih _ _ _ _ h; omega
        · split at h
          · have := ih _ _ _ _ h; omega
          · injection h with h; omega
theorem m_read {M : ZM} (hJ : JJ M) : Ag (f_X11_read 0 M) (f_X12_read 50) := by
  obtain ⟨ws, tp, od, a1, a2, im, rf, hp, hc, hr⟩ := hJ
  have hl := hp.2.1
  have tz : ∀ b, b ∈ [51, 52, 54, 55, 56, 57, 58, 59, 60, 62, 63, 64, 65, 66, 67] → b ≠ 50 := by decide
  have tk : ∀ k, k ∈ [10, 12, 13, 14, 15, 16, 17, 26, 28, 29] → k ≠ 11 := by decide
  have clr : ∀ N ws, RI ws tp od a1 a2 im rf N → RI ws [] od a1 a2 im rf (zi N 50 11 0) := by
    intro N ws r
    have g : LH (zi N 50 11 0) 50 11 53 [] := ⟨by rw [zi_eq]; rfl, fun k hk => absurd hk (Nat.not_lt_zero _)⟩
    exact RI_tp r (fun b hb => funext fun k => zi_ne (tz b hb)) (by intro b _; rfl) (fun k hk => zi_k (tk k hk)) g
  unfold f_X11_read
  simp only [zletE]
  rw [show zr 0 0 = 1 by decide +kernel, show zr 0 1 = 3 by decide +kernel, fault_ok WG1 hl hc.1]
  have hrf : ∀ N, LH N 50 11 53 tp → f_X12_fault (zr 50 2) (N.1 50 11) N = rff (fl (wa tp) tp.length true 0 0) := by
    intro N h
    rw [h.1, show zr 50 2 = 53 by decide +kernel]
    exact rfault_ok (by omega) (by rw [show zn 53 = 21 by decide +kernel]; exact hl) h.2
  cases hfl : fl (wa tp) tp.length true 0 0 with
  | none =>
    rw [hfl] at hrf
    have hw : okw tp := ⟨hl, hfl⟩
    show Ag ((some (-1)).bind _) _
    rw [bindE, if_pos rfl]
    obtain ⟨N, e, n1, n2, n3, n4, nF⟩ := take_ok hl WG1 (by decide +kernel) (by decide +kernel) hc.1 hc.2.2.2.2.2.2.2.2.1
    have c1 := CI_we hc nF n1 n2 n3 n4
    have cl := clear_ok (t := 1) N
    have r1 := RI_c hr (Fr_sub (Fr_tr (Fr_sub nF (ds := [1, 2, 3, 4, 8, 9, 19]) (by decide)) (Fr_sub cl.2 (by decide +kernel))) (by decide))
    have c2 := CI_tp c1 (Fr_sub cl.2 (by decide +kernel)) cl.1
    have n1' : WH (f_X10_clear 1 N) 3 tp := WH_Fr n1 cl.2 (by decide +kernel) (by decide +kernel)
    obtain ⟨N1, e1, a1', a2', a3'⟩ := rd33 hl (fun (M : ZM) => (f_X12_finds 50 (zi M 50 10 (nI tp.length))).bind fun (q11 : ZM) => some ((q11.1 50 10), q11)) (wa tp) tp.length 0 zN (zi (f_X10_clear 1 N) 50 11 0) (by omega) (by unfold zN; omega) (fun k hk => by rw [zi_ne (by decide)]; exact r1.2.1.2 k hk) (fun k hk => by omega)
    rw [nI0] at e1
    obtain ⟨P, e2, p10, pR, pF⟩ := fin_ok (N := zi N1 50 10 (nI tp.length)) (clr _ _ r1) hw (fun b h1 h2 _ => by
      funext k
      rw [zi_ne h1, a3' b h2]) a2' (fun k hk => by rw [zi_k hk, a3' 50 (by decide)]) ⟨zi_eq, fun k hk => by rw [zi_ne (by decide)]; exact a1' k hk⟩
    refine ⟨nI tp.length, f_X10_clear 1 N, P, ?_, ?_, tp, [], od, a1, a2, im, rf, ⟨hw, Nat.zero_le _, hp.2.2⟩, CI_r c2 (Fr_tr (Fr_zi (a := 50) (k := 11) (v := 0) (by decide)) pF), pR⟩
    · rw [e, bindE, if_pos rfl, show f_X10_size 3 (f_X10_clear 1 N) = nI tp.length from n1'.1]
    · unfold f_X12_read
      rw [hrf _ r1.2.1]
      show (some (-9)).bind _ = _
      rw [bindE]
      simp only [zletE]
      rw [r1.2.1.1, if_pos (by decide), e1, e2, bindE, p10]
  | some p =>
    rw [hfl] at hrf
    have hp' := fl_lt _ _ _ _ _ hfl
    show Ag ((some (nI p)).bind _) _
    rw [bindE, if_neg (nI_ne1 (by omega)), if_neg (nI_ne1 (by omega))]
    have cl := clear_ok (t := 1) M
    have r1 := RI_c hr (Fr_sub cl.2 (by decide +kernel))
    have c2 := CI_tp hc (Fr_sub cl.2 (by decide +kernel)) cl.1
    refine ⟨-20 - nI p, f_X10_clear 1 M, zi (f_X10_clear 1 M) 50 11 0, rfl, ?_, ws, [], od, a1, a2, im, rf, ⟨hp.1, Nat.zero_le _, hp.2.2⟩, CI_r c2 (Fr_zi (by decide)), clr _ _ r1⟩
    unfold f_X12_read
    rw [hrf _ r1.2.1]
    show (some (nI p)).bind _ = _
    rw [bindE]
    simp only [zletE]
    rw [if_neg (nI_nn (by omega))]
theorem bec4 {c u r s : Nat} (hz : zr c 0 = r) (hz2 : zr u 0 = s) (hn : zn r = 6) (hn2 : zn s = 6) (hne : r ≠ c) (h1 : u ∉ [c, r]) (h2 : s ∉ [c, r]) {od : List Int32} (hl : od.length ≤ 6) (K : ZM → Option ZM) : ∀ k i fuel M, i + k = od.length → k < fuel → LH M u 1 s od → LH M c 1 r (od.take i) → ∃ N, f_X4_become_6 c u K fuel (nI i) M = K N ∧ LH N c 1 r od ∧ Fr [c, r] M N := by
  intro k
  induction k with
  | zero =>
    intro i fuel M hi hf hu ht
    obtain ⟨fuel, rfl⟩ : ∃ m, fuel = m + 1 := ⟨fuel - 1, by omega⟩
    rw [f_X4_become_6, hu.1, if_pos (by rw [nI_le' (by omega) (by omega)]; omega)]
    refine ⟨M, rfl, ?_, Fr_rf _ _⟩
    rwa [List.take_of_length_le (by omega)] at ht
  | succ k ih =>
    intro i fuel M hi hf hu ht
    obtain ⟨fuel, rfl⟩ : ∃ m, fuel = m + 1 := ⟨fuel - 1, by omega⟩
    rw [f_X4_become_6, hu.1, if_neg (by rw [nI_le' (by omega) (by omega)]; omega)]
    unfold f_X4_at
    simp only [zletE]
    rw [hz2, look_nI (by rw [hn2]; omega) (by omega), hu.2 i (by omega), nI_s]
    have hlt : (od.take i).length = i := by rw [List.length_take]; omega
    have ha := add4_ok hz hn hne ht (by omega) (wa od i)
    rw [wa_take (by omega)] at ha
    obtain ⟨N, e, hN, hF⟩ := ih (i + 1) fuel _ (by omega) (by omega) (LH_Fr hu ha.2 h1 h2) ha.1
    exact ⟨N, e, hN, Fr_tr ha.2 hF⟩
theorem bec4_ok {c u r s : Nat} (hz : zr c 0 = r) (hz2 : zr u 0 = s) (hn : zn r = 6) (hn2 : zn s = 6) (hne : r ≠ c) (h1 : u ∉ [c, r]) (h2 : s ∉ [c, r]) {od : List Int32} (hl : od.length ≤ 6) {M : ZM} (hu : LH M u 1 s od) : ∃ N, f_X4_become c u M = some N ∧ LH N c 1 r od ∧ Fr [c, r] M N := by
  unfold f_X4_become f_X4_clear
  simp only [zletE]
  have hF : Fr [c, r] M (zi M c 1 0) := Fr_zi (List.mem_cons_self ..)
  rw [← nI0]
  rw [← nI0] at hF
  obtain ⟨N, e, hN, hF2⟩ := bec4 hz hz2 hn hn2 hne h1 h2 hl (fun M => some M) od.length 0 zN (zi M c 1 (nI 0)) (by omega) (by unfold zN; omega) (LH_Fr hu hF h1 h2) ⟨zi_eq, fun k hk => absurd hk (Nat.not_lt_zero _)⟩
  exact ⟨N, e, hN, Fr_tr hF hF2⟩
theorem bec0 {c u r s r' s' : Nat} (hz : zr c 0 = r) (hzb : zr c 1 = r') (hz2 : zr u 0 = s) (hz2b : zr u 1 = s') (hn : zn r = 8) (hnb : zn r' = 8) (hn2 : zn s = 8) (hn2b : zn s' = 8) (g1 : r ≠ c) (g2 : r' ≠ c) (g3 : r ≠ r') (h1 : u ∉ [c, r, r']) (h2 : s ∉ [c, r, r']) (h3 : s' ∉ [c, r, r']) {a1 a2 : List Int32} (hl : a1.length ≤ 8) (he : a2.length = a1.length) (K : ZM → Option ZM) : ∀ k i fuel M, i + k = a1.length → k < fuel → LH M u 2 s a1 → LH M u 2 s' a2 → LH M c 2 r (a1.take i) → LH M c 2 r' (a2.take i) → ∃ N, f_X0_become_7 c u K fuel (nI i) M = K N ∧ LH N c 2 r a1 ∧ LH N c 2 r' a2 ∧ Fr [c, r, r'] M N := by
  intro k
  induction k with
  | zero =>
    intro i fuel M hi hf hu hu' ht ht'
    obtain ⟨fuel, rfl⟩ : ∃ m, fuel = m + 1 := ⟨fuel - 1, by omega⟩
    rw [f_X0_become_7, hu.1, if_pos (by rw [nI_le' (by omega) (by omega)]; omega)]
    refine ⟨M, rfl, ?_, ?_, Fr_rf _ _⟩
    · rwa [List.take_of_length_le (by omega)] at ht
    · rwa [List.take_of_length_le (by omega)] at ht'
  | succ k ih =>
    intro i fuel M hi hf hu hu' ht ht'
    obtain ⟨fuel, rfl⟩ : ∃ m, fuel = m + 1 := ⟨fuel - 1, by omega⟩
    rw [f_X0_become_7, hu.1, if_neg (by rw [nI_le' (by omega) (by omega)]; omega)]
    simp only [zletE]
    rw [hz2, hz2b, look_nI (t := s) (by rw [hn2]; omega) (by omega), look_nI (t := s') (by rw [hn2b]; omega) (by omega), hu.2 i (by omega), hu'.2 i (by omega), nI_s]
    have hlt : (a1.take i).length = i := by rw [List.length_take]; omega
    have hlt' : (a2.take i).length = i := by rw [List.length_take]; omega
    have ha := add0_ok hz hzb hn hnb g1 g2 g3 ht ht' (by omega) (by omega) (wa a1 i) (wa a2 i)
    rw [wa_take (by omega), wa_take (by omega)] at ha
    obtain ⟨N, e, hN, hN', hF⟩ := ih (i + 1) fuel _ (by omega) (by omega) (LH_Fr hu ha.2.2 h1 h2) (LH_Fr hu' ha.2.2 h1 h3) ha.1 ha.2.1
    exact ⟨N, e, hN, hN', Fr_tr ha.2.2 hF⟩
theorem bec0_ok {c u r s r' s' : Nat} (hz : zr c 0 = r) (hzb : zr c 1 = r') (hz2 : zr u 0 = s) (hz2b : zr u 1 = s') (hn : zn r = 8) (hnb : zn r' = 8) (hn2 : zn s = 8) (hn2b : zn s' = 8) (g1 : r ≠ c) (g2 : r' ≠ c) (g3 : r ≠ r') (h1 : u ∉ [c, r, r']) (h2 : s ∉ [c, r, r']) (h3 : s' ∉ [c, r, r']) {a1 a2 : List Int32} (hl : a1.length ≤ 8) (he : a2.length = a1.length) {M : ZM} (hu : LH M u 2 s a1) (hu' : LH M u 2 s' a2) : ∃ N, f_X0_become c u M = some N ∧ LH N c 2 r a1 ∧ LH N c 2 r' a2 ∧ Fr [c, r, r'] M N := by
  unfold f_X0_become
  simp only [zletE]
  have hF : Fr [c, r, r'] M (zi M c 2 0) := Fr_zi (List.mem_cons_self ..)
  rw [← nI0]
  rw [← nI0] at hF
  obtain ⟨N, e, hN, hN', hF2⟩ := bec0 hz hzb hz2 hz2b hn hnb hn2 hn2b g1 g2 g3 h1 h2 h3 hl he (fun M => some M) a1.length 0 zN (zi M c 2 (nI 0)) (by omega) (by unfold zN; omega) (LH_Fr hu hF h1 h2) (LH_Fr hu' hF h1 h3) ⟨zi_eq, fun k hk => absurd hk (Nat.not_lt_zero _)⟩ ⟨zi_eq, fun k hk => absurd hk (Nat.not_lt_zero _)⟩
  exact ⟨N, e, hN, hN', Fr_tr hF hF2⟩
theorem m_image {M : ZM} (hJ : JJ M) : Ag (f_X11_image 0 M) (f_X12_image 50) := by
  obtain ⟨ws, tp, od, a1, a2, im, rf, hp, hc, hr⟩ := hJ
  have hl := hp.1.1
  have ho := hp.2.2.1.1
  have ha := hp.2.2.2.1
  obtain ⟨N1, e1, n1, F1⟩ := become_ok WG42 WG3 (by decide +kernel) (by decide +kernel) hl hc.2.1
  obtain ⟨N2, e2, n2, F2⟩ := bec4_ok (c := 44) (u := 29) (r := 45) (s := 30) (by decide +kernel) (by decide +kernel) (by decide +kernel) (by decide +kernel) (by decide) (by decide) (by decide) ho (LH_Fr hc.2.2.1 F1 (by decide +kernel) (by decide +kernel))
  have g4 : LH N2 38 2 39 a1 := LH_Fr (LH_Fr hc.2.2.2.1 F1 (by decide +kernel) (by decide +kernel)) F2 (by decide) (by decide)
  have g5 : LH N2 38 2 40 a2 := LH_Fr (LH_Fr hc.2.2.2.2.1 F1 (by decide +kernel) (by decide +kernel)) F2 (by decide) (by decide)
  obtain ⟨N3, e3, n3, n3', F3⟩ := bec0_ok (c := 46) (u := 38) (r := 47) (s := 39) (r' := 48) (s' := 40) (by decide +kernel) (by decide +kernel) (by decide +kernel) (by decide +kernel) (by decide +kernel) (by decide +kernel) (by decide +kernel) (by decide +kernel) (by decide) (by decide) (by decide) (by decide) (by decide) (by decide) ha.1 ha.2.1 g4 g5
  have hF : Fr [41, 42, 43, 44, 45, 46, 47, 48] M (zi N3 41 3 1) := Fr_tr (Fr_sub F1 (by decide +kernel)) (Fr_tr (Fr_sub F2 (by decide)) (Fr_tr (Fr_sub F3 (by decide)) (Fr_zi (by decide))))
  have F23 : Fr [41, 44, 45, 46, 47, 48] N1 (zi N3 41 3 1) := Fr_tr (Fr_sub F2 (by decide)) (Fr_tr (Fr_sub F3 (by decide)) (Fr_zi (by decide)))
  have F33 : Fr [41, 46, 47, 48] N2 (zi N3 41 3 1) := Fr_tr (Fr_sub F3 (by decide)) (Fr_zi (by decide))
  have F43 : Fr [41] N3 (zi N3 41 3 1) := Fr_zi (by decide)
  have c' : CI ws tp od a1 a2 (some (ws, od, a1, a2)) rf (zi N3 41 3 1) := CI_im hc hF (by rw [zi_eq]; rfl) (fun q hq => by
    injection hq with hq
    subst hq
    exact ⟨WH_Fr n1 F23 (by decide) (by decide +kernel), LH_Fr n2 F33 (by decide) (by decide), LH_Fr n3 F43 (by decide) (by decide), LH_Fr n3' F43 (by decide) (by decide)⟩)
  have r' := RI_c hr (Fr_sub hF (by decide))
  obtain ⟨P1, q1, w1, u1, v1⟩ := im2 (n := 21) rfl (fun (M : ZM) =>
    f_X12_image_28 50 (fun (M : ZM) =>
      f_X12_image_54 50 (fun (M : ZM) =>
        some ((zi (zi (zi (zi M 50 14 (M.1 50 10)) 50 15 ((zi M 50 14 (M.1 50 10)).1 50 12)) 50 16 ((zi (zi M 50 14 (M.1 50 10)) 50 15 ((zi M 50 14 (M.1 50 10)).1 50 12)).1 50 13)) 50 17 1).1 50 10, zi (zi (zi (zi M 50 14 (M.1 50 10)) 50 15 ((zi M 50 14 (M.1 50 10)).1 50 12)) 50 16 ((zi (zi M 50 14 (M.1 50 10)) 50 15 ((zi M 50 14 (M.1 50 10)).1 50 12)).1 50 13)) 50 17 1)) zN 0 M) zN 0 M) ((zi N3 41 3 1).1 52) 21 0 zN (zi N3 41 3 1) (by omega) (by unfold zN; omega) (fun _ _ => rfl) (fun k hk => by omega)
  obtain ⟨P2, q2, w2, u2, v2⟩ := im28 (n := 6) rfl (fun (M : ZM) =>
      f_X12_image_54 50 (fun (M : ZM) =>
        some ((zi (zi (zi (zi M 50 14 (M.1 50 10)) 50 15 ((zi M 50 14 (M.1 50 10)).1 50 12)) 50 16 ((zi (zi M 50 14 (M.1 50 10)) 50 15 ((zi M 50 14 (M.1 50 10)).1 50 12)).1 50 13)) 50 17 1).1 50 10, zi (zi (zi (zi M 50 14 (M.1 50 10)) 50 15 ((zi M 50 14 (M.1 50 10)).1 50 12)) 50 16 ((zi (zi M 50 14 (M.1 50 10)) 50 15 ((zi M 50 14 (M.1 50 10)).1 50 12)).1 50 13)) 50 17 1)) zN 0 M) ((zi N3 41 3 1).1 54) 6 0 zN P1 (by omega) (by unfold zN; omega) (fun k _ => by rw [v1 54 (by decide)]) (fun k hk => by omega)
  obtain ⟨P3, q3, w3, u3, v3⟩ := im54 (fun (M : ZM) =>
        some ((zi (zi (zi (zi M 50 14 (M.1 50 10)) 50 15 ((zi M 50 14 (M.1 50 10)).1 50 12)) 50 16 ((zi (zi M 50 14 (M.1 50 10)) 50 15 ((zi M 50 14 (M.1 50 10)).1 50 12)).1 50 13)) 50 17 1).1 50 10, zi (zi (zi (zi M 50 14 (M.1 50 10)) 50 15 ((zi M 50 14 (M.1 50 10)).1 50 12)) 50 16 ((zi (zi M 50 14 (M.1 50 10)) 50 15 ((zi M 50 14 (M.1 50 10)).1 50 12)).1 50 13)) 50 17 1)) ((zi N3 41 3 1).1 55) ((zi N3 41 3 1).1 56) 8 0 zN P2 (by omega) (by unfold zN; omega) (fun k _ => ⟨by rw [v2 55 (by decide), v1 55 (by decide)], by rw [v2 56 (by decide), v1 56 (by decide)]⟩) (fun k hk => by omega)
  rw [nI0] at q1 q2 q3
  have p50 : P3.1 50 = (zi N3 41 3 1).1 50 := by rw [v3 50 (by decide) (by decide), v2 50 (by decide), v1 50 (by decide)]
  obtain ⟨P, hP⟩ : ∃ P, P = zi (zi (zi (zi P3 50 14 (P3.1 50 10)) 50 15 ((zi P3 50 14 (P3.1 50 10)).1 50 12)) 50 16 ((zi (zi P3 50 14 (P3.1 50 10)) 50 15 ((zi P3 50 14 (P3.1 50 10)).1 50 12)).1 50 13)) 50 17 1 := ⟨_, rfl⟩
  rw [← hP] at q3
  have pk : ∀ k, k < 14 → P.1 50 k = (zi N3 41 3 1).1 50 k := fun k hk => by rw [hP, zi_k (by omega), zi_k (by omega), zi_k (by omega), zi_k (by omega), p50]
  have pk2 : ∀ k, 17 < k → P.1 50 k = (zi N3 41 3 1).1 50 k := fun k hk => by rw [hP, zi_k (by omega), zi_k (by omega), zi_k (by omega), zi_k (by omega), p50]
  have p14 : P.1 50 14 = nI ws.length := by rw [hP, zi_k (by decide), zi_k (by decide), zi_k (by decide), zi_eq, p50]; exact r'.1.1
  have p15 : P.1 50 15 = nI od.length := by rw [hP, zi_k (by decide), zi_k (by decide), zi_eq, zi_k (by decide), p50]; exact r'.2.2.1.1
  have p16 : P.1 50 16 = nI a1.length := by rw [hP, zi_k (by decide), zi_eq, zi_k (by decide), zi_k (by decide), p50]; exact r'.2.2.2.1.1
  have p17 : P.1 50 17 = 1 := by rw [hP, zi_eq]
  have pb : ∀ b, b ≠ 50 → P.1 b = P3.1 b := fun b hb => by rw [hP]; funext k; rw [zi_ne hb, zi_ne hb, zi_ne hb, zi_ne hb]
  have p2 : P.2 = (zi N3 41 3 1).2 := by rw [hP]; exact u3.trans (u2.trans u1)
  have pall : ∀ b, b ∉ [50, 57, 58, 59, 60] → P.1 b = (zi N3 41 3 1).1 b := by
    intro b hb
    have t := fun c (hc : c ∈ [50, 57, 58, 59, 60]) (e : b = c) => hb (e ▸ hc)
    rw [pb b (t 50 (by decide)), v3 b (t 59 (by decide)) (t 60 (by decide)), v2 b (t 58 (by decide)), v1 b (t 57 (by decide))]
  have tz : ∀ b, b ∈ [51, 52, 53, 54, 55, 56, 62, 63, 64, 65, 66, 67] → b ∉ [50, 57, 58, 59, 60] := by decide
  have tk : ∀ k, k ∈ [10, 11, 12, 13, 26, 28, 29] → k < 14 ∨ 17 < k := by decide
  have hR : RI ws tp od a1 a2 (some (ws, od, a1, a2)) rf P := by
    refine RI_im r' (fun b hb => pall b (tz b hb)) (fun b _ => by rw [p2]) (fun k hk => (tk k hk).elim (pk k) (pk2 k)) (by rw [p17]; rfl) (fun q hq => ?_)
    injection hq with hq
    subst hq
    refine ⟨⟨p14, fun k hk => ?_⟩, ⟨p15, fun k hk => ?_⟩, ⟨p16, fun k hk => ?_⟩, ⟨by rw [p16]; exact congrArg nI ha.2.1.symm, fun k hk => ?_⟩⟩
    · have hk : k < ws.length := hk
      rw [pb 57 (by decide), v3 57 (by decide) (by decide), v2 57 (by decide), w1 k (by omega)]; exact r'.1.2 k hk
    · have hk : k < od.length := hk
      rw [pb 58 (by decide), v3 58 (by decide) (by decide), w2 k (by omega)]; exact r'.2.2.1.2 k hk
    · have hk : k < a1.length := hk
      have h8 := ha.1
      rw [pb 59 (by decide), (w3 k (by omega)).1]; exact r'.2.2.2.1.2 k hk
    · have hk : k < a2.length := hk
      have h8 := ha.1
      have h9 := ha.2.1
      rw [pb 60 (by decide), (w3 k (by omega)).2]; exact r'.2.2.2.2.1.2 k hk
  have hFP : Fr r50 (zi N3 41 3 1) P := fun b hb => ⟨pall b (fun q => hb (by
    have t : ∀ b, b ∈ [50, 57, 58, 59, 60] → b ∈ r50 := by decide
    exact t b q)), by rw [p2]⟩
  refine ⟨nI ws.length, zi N3 41 3 1, P, ?_, ?_, ws, tp, od, a1, a2, some (ws, od, a1, a2), rf, ⟨hp.1, hp.2.1, hp.2.2.1, ha, fun q hq => ?_⟩, CI_r c' hFP, hR⟩
  · unfold f_X11_image f_X1_take
    simp only [zletE]
    rw [show zr 0 12 = 41 by decide +kernel, show zr 0 1 = 3 by decide +kernel, show zr 0 7 = 29 by decide +kernel, show zr 0 11 = 38 by decide +kernel, show zr 41 0 = 42 by decide +kernel, show zr 41 1 = 44 by decide +kernel, show zr 41 2 = 46 by decide +kernel, e1, bindE, e2, bindE, e3, bindE, bindE, show f_X10_size 3 (zi N3 41 3 1) = nI ws.length from c'.2.1.1]
  · unfold f_X12_image
    simp only [zletE]
    rw [q1, q2, q3, pk 10 (by omega), r'.1.1]
  · injection hq with hq
    subst hq
    exact ⟨hp.1, hp.2.2.1, ha⟩
theorem m_on {M : ZM} (hJ : JJ M) : Ag (f_X11_on 0 M) (f_X12_on 50) := by
  obtain ⟨ws, tp, od, a1, a2, im, rf, hp, hc, hr⟩ := hJ
  unfold f_X11_on f_X1_isThere
  rw [show zr 0 12 = 41 by decide +kernel, hc.2.2.2.2.2.2.1]
  cases him : im with
  | none =>
    subst him
    show Ag ((zck (zbo 0) (some 0)).bind _) _
    rw [zckT (by decide), bindE, if_pos rfl]
    simp only [zletE]
    refine refAg (fun x => x) hp hc hr (k := 3) (by decide +kernel) (by omega) (fun N' r' => ?_)
    unfold f_X12_on
    rw [r'.2.2.2.2.2.2.1, if_pos (by rfl)]
  | some q =>
    obtain ⟨iw, io, i1, i2⟩ := q
    subst him
    show Ag ((zck (zbo 1) (some 1)).bind _) _
    rw [zckT (by decide), bindE, if_neg (by decide), show zr 41 0 = 42 by decide +kernel, show zr 41 1 = 44 by decide +kernel, show zr 41 2 = 46 by decide +kernel, show zr 0 7 = 29 by decide +kernel, show zr 0 11 = 38 by decide +kernel, show zr 0 1 = 3 by decide +kernel]
    obtain ⟨hiw, hio, hia⟩ := hp.2.2.2.2 _ rfl
    obtain ⟨k1, k2, k3, k4⟩ := hc.2.2.2.2.2.2.2.1 _ rfl
    simp only [] at hiw hio hia k1 k2 k3 k4
    obtain ⟨N1, e1, n1, n2, n3, n4, nF⟩ := take_ok hiw.1 WG42 (by decide +kernel) (by decide +kernel) k1 hc.2.2.2.2.2.2.2.2.1
    have c1 := CI_we hc nF n1 n2 n3 n4
    obtain ⟨N2, e2, o1, F2⟩ := bec4_ok (c := 29) (u := 44) (r := 30) (s := 45) (by decide +kernel) (by decide +kernel) (by decide +kernel) (by decide +kernel) (by decide) (by decide) (by decide) hio.1 (LH_Fr k2 nF (by decide) (by decide))
    have c2 := CI_od c1 F2 o1
    have g4 : LH N2 46 2 47 i1 := LH_Fr (LH_Fr k3 nF (by decide) (by decide)) F2 (by decide) (by decide)
    have g5 : LH N2 46 2 48 i2 := LH_Fr (LH_Fr k4 nF (by decide) (by decide)) F2 (by decide) (by decide)
    obtain ⟨N3, e3, m1, m2, F3⟩ := bec0_ok (c := 38) (u := 46) (r := 39) (s := 47) (r' := 40) (s' := 48) (by decide +kernel) (by decide +kernel) (by decide +kernel) (by decide +kernel) (by decide +kernel) (by decide +kernel) (by decide +kernel) (by decide +kernel) (by decide) (by decide) (by decide) (by decide) (by decide) (by decide) hia.1 hia.2.1 g4 g5
    have c3 := CI_am c2 F3 m1 m2
    have hF : Fr c50 M N3 := Fr_tr (Fr_sub nF (by decide)) (Fr_tr (Fr_sub F2 (by decide)) (Fr_sub F3 (by decide)))
    have r' := RI_c hr hF
    obtain ⟨j1, j2, j3, j4⟩ := r'.2.2.2.2.2.2.2.1 _ rfl
    simp only [] at j1 j2 j3 j4
    obtain ⟨P1, q1, w1, u1, v1⟩ := on16 (n := 21) rfl (fun (M : ZM) =>
      f_X12_on_42 50 (fun (M : ZM) =>
        f_X12_on_68 50 (fun (M : ZM) =>
          (f_X12_finds 50 (zi (zi (zi M 50 10 (M.1 50 14)) 50 12 ((zi M 50 10 (M.1 50 14)).1 50 15)) 50 13 ((zi (zi M 50 10 (M.1 50 14)) 50 12 ((zi M 50 10 (M.1 50 14)).1 50 15)).1 50 16))).bind fun (q23 : ZM) =>
          some ((q23.1 50 10), q23)) zN 0 M) zN 0 M) (N3.1 57) 21 0 zN N3 (by omega) (by unfold zN; omega) (fun _ _ => rfl) (fun k hk => by omega)
    obtain ⟨P2, q2, w2, u2, v2⟩ := on42 (n := 6) rfl (fun (M : ZM) =>
        f_X12_on_68 50 (fun (M : ZM) =>
          (f_X12_finds 50 (zi (zi (zi M 50 10 (M.1 50 14)) 50 12 ((zi M 50 10 (M.1 50 14)).1 50 15)) 50 13 ((zi (zi M 50 10 (M.1 50 14)) 50 12 ((zi M 50 10 (M.1 50 14)).1 50 15)).1 50 16))).bind fun (q23 : ZM) =>
          some ((q23.1 50 10), q23)) zN 0 M) (N3.1 58) 6 0 zN P1 (by omega) (by unfold zN; omega) (fun k _ => by rw [v1 58 (by decide)]) (fun k hk => by omega)
    obtain ⟨P3, q3, w3, u3, v3⟩ := on68 (fun (M : ZM) =>
          (f_X12_finds 50 (zi (zi (zi M 50 10 (M.1 50 14)) 50 12 ((zi M 50 10 (M.1 50 14)).1 50 15)) 50 13 ((zi (zi M 50 10 (M.1 50 14)) 50 12 ((zi M 50 10 (M.1 50 14)).1 50 15)).1 50 16))).bind fun (q23 : ZM) =>
          some ((q23.1 50 10), q23)) (N3.1 59) (N3.1 60) 8 0 zN P2 (by omega) (by unfold zN; omega) (fun k _ => ⟨by rw [v2 59 (by decide), v1 59 (by decide)], by rw [v2 60 (by decide), v1 60 (by decide)]⟩) (fun k hk => by omega)
    rw [nI0] at q1 q2 q3
    have p50 : P3.1 50 = N3.1 50 := by rw [v3 50 (by decide) (by decide), v2 50 (by decide), v1 50 (by decide)]
    obtain ⟨P, hP⟩ : ∃ P, P = zi (zi (zi P3 50 10 (P3.1 50 14)) 50 12 ((zi P3 50 10 (P3.1 50 14)).1 50 15)) 50 13 ((zi (zi P3 50 10 (P3.1 50 14)) 50 12 ((zi P3 50 10 (P3.1 50 14)).1 50 15)).1 50 16) := ⟨_, rfl⟩
    rw [← hP] at q3
    have pk : ∀ k, k ≠ 10 → k ≠ 12 → k ≠ 13 → P.1 50 k = N3.1 50 k := fun k h1 h2 h3 => by rw [hP, zi_k h3, zi_k h2, zi_k h1, p50]
    have p10 : P.1 50 10 = nI iw.length := by rw [hP, zi_k (by decide), zi_k (by decide), zi_eq, p50]; exact j1.1
    have p12 : P.1 50 12 = nI io.length := by rw [hP, zi_k (by decide), zi_eq, zi_k (by decide), p50]; exact j2.1
    have p13 : P.1 50 13 = nI i1.length := by rw [hP, zi_eq, zi_k (by decide), zi_k (by decide), p50]; exact j3.1
    have pb : ∀ b, b ≠ 50 → P.1 b = P3.1 b := fun b hb => by rw [hP]; funext k; rw [zi_ne hb, zi_ne hb, zi_ne hb]
    have p2 : P.2 = N3.2 := by rw [hP]; exact u3.trans (u2.trans u1)
    have pall : ∀ b, b ∉ [50, 52, 54, 55, 56] → P.1 b = N3.1 b := by
      intro b hb
      have t := fun c (hc : c ∈ [50, 52, 54, 55, 56]) (e : b = c) => hb (e ▸ hc)
      rw [pb b (t 50 (by decide)), v3 b (t 55 (by decide)) (t 56 (by decide)), v2 b (t 54 (by decide)), v1 b (t 52 (by decide))]
    have hRW : RW P iw := ⟨p10, fun k hk => by have := hiw.1; rw [pb 52 (by decide), v3 52 (by decide) (by decide), v2 52 (by decide), w1 k (by omega)]; exact j1.2 k hk⟩
    have hod : LH P 50 12 54 io := ⟨p12, fun k hk => by have := hio.1; rw [pb 54 (by decide), v3 54 (by decide) (by decide), w2 k (by omega)]; exact j2.2 k hk⟩
    have ha1 : LH P 50 13 55 i1 := ⟨p13, fun k hk => by have := hia.1; rw [pb 55 (by decide), (w3 k (by omega)).1]; exact j3.2 k hk⟩
    have ha2 : LH P 50 13 56 i2 := ⟨by rw [p13]; exact congrArg nI hia.2.1.symm, fun k hk => by have := hia.1; have := hia.2.1; rw [pb 56 (by decide), (w3 k (by omega)).2]; exact j4.2 k hk⟩
    obtain ⟨Q, eQ, hRF, hFf⟩ := finds_ok hiw.1 (okw_len hiw) hRW (by rw [pk 28 (by decide) (by decide) (by decide)]; exact r'.2.2.2.2.2.2.2.2.2.1)
    have Q10 : Q.1 50 10 = nI iw.length := by rw [hFf.2 10 (by decide)]; exact p10
    have qb : ∀ b, b ∉ fcs → Q.1 b = P.1 b := fun b hb => (hFf.1 b hb).1
    have qk : ∀ k, k ∉ [26, 27, 28, 29, 30, 31] → Q.1 50 k = P.1 50 k := hFf.2
    have hR : RI iw tp io i1 i2 (some (iw, io, i1, i2)) rf Q := by
      refine ⟨LH_q hRW (qk 10 (by decide)) (qb 52 (by decide)), LH_q r'.2.1 ((qk 11 (by decide)).trans (pk 11 (by decide) (by decide) (by decide))) ((qb 53 (by decide)).trans (pall 53 (by decide))), LH_q hod (qk 12 (by decide)) (qb 54 (by decide)), LH_q ha1 (qk 13 (by decide)) (qb 55 (by decide)), LH_q ha2 (qk 13 (by decide)) (qb 56 (by decide)), fun k hk => by rw [qb 51 (by decide), pall 51 (by decide)]; exact r'.2.2.2.2.2.1 k hk, by rw [qk 17 (by decide), pk 17 (by decide) (by decide) (by decide)]; exact r'.2.2.2.2.2.2.1, fun q hq => ?_, hRF⟩
      have := r'.2.2.2.2.2.2.2.1 q hq
      exact ⟨LH_q this.1 ((qk 14 (by decide)).trans (pk 14 (by decide) (by decide) (by decide))) ((qb 57 (by decide)).trans (pall 57 (by decide))), LH_q this.2.1 ((qk 15 (by decide)).trans (pk 15 (by decide) (by decide) (by decide))) ((qb 58 (by decide)).trans (pall 58 (by decide))), LH_q this.2.2.1 ((qk 16 (by decide)).trans (pk 16 (by decide) (by decide) (by decide))) ((qb 59 (by decide)).trans (pall 59 (by decide))), LH_q this.2.2.2 ((qk 16 (by decide)).trans (pk 16 (by decide) (by decide) (by decide))) ((qb 60 (by decide)).trans (pall 60 (by decide)))⟩
    have hFQ : Fr r50 N3 Q := by
      intro b hb
      have t : ∀ b, b ∈ fcs → b ∈ r50 := by decide
      have t2 : ∀ b, b ∈ [50, 52, 54, 55, 56] → b ∈ r50 := by decide
      have hb' := hFf.1 b (fun q => hb (t b q))
      exact ⟨by rw [hb'.1, pall b (fun q => hb (t2 b q))], by rw [hb'.2, p2]⟩
    refine ⟨nI iw.length, N3, Q, ?_, ?_, iw, tp, io, i1, i2, some (iw, io, i1, i2), rf, ⟨hiw, hp.2.1, hio, hia, hp.2.2.2.2⟩, CI_r c3 hFQ, hR⟩
    · simp only [zletE]
      rw [e1, bindE, e2, bindE, e3, bindE, show f_X10_size 3 N3 = nI iw.length from c3.2.1.1]
    · unfold f_X12_on
      simp only [zletE]
      rw [show N3.1 50 17 = 1 from r'.2.2.2.2.2.2.1, if_neg (by decide), q1, q2, q3, eQ, bindE, Q10]
