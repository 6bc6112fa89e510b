theorem agI {x : Option (Int32 × ZM)} {y : ZM → Option (Int32 × ZM)} {C : ZM → Option Int32} (h : Ag x y) (hC : ∀ P, JJ P → C P = some 1) : (x.bind fun q => (y q.2).bind fun q' => if q.1 = q'.1 then C q'.2 else some 0) = some 1 := by
  obtain ⟨a, N, P, e1, e2, hJ⟩ := h
  rw [e1, bindE, e2, bindE, if_pos rfl]
  exact hC P hJ
theorem agL {x : Option (Int64 × ZM)} {y : ZM → Option (Int64 × ZM)} {C : ZM → Option Int32} (h : Ag x y) (hC : ∀ P, JJ P → C P = some 1) : (x.bind fun q => (y q.2).bind fun q' => if lg_cmp q.1 q'.1 = 0 then C q'.2 else some 0) = some 1 := by
  obtain ⟨a, N, P, e1, e2, hJ⟩ := h
  rw [e1, bindE, e2, bindE, if_pos (by rw [lg_cmp_eq])]
  exact hC P hJ
theorem agZ {p : Int32 × ZM} {y : ZM → Option (Int32 × ZM)} {C : ZM → Option Int32} (h : Ag (some p) y) (hC : ∀ P, JJ P → C P = some 1) : ((y p.2).bind fun q' => if p.1 = q'.1 then C q'.2 else some 0) = some 1 := by
  obtain ⟨a, N, P, e1, e2, hJ⟩ := h
  injection e1 with e1
  rw [e1]
  simp only []
  rw [e2, bindE, if_pos rfl]
  exact hC P hJ
theorem agU {p : Int32 × ZM} {y : ZM → Int32 × ZM} {C : ZM → Option Int32} (h : Ag (some p) (fun N => some (y N))) (hC : ∀ P, JJ P → C P = some 1) : (if p.1 = (y p.2).1 then C (y p.2).2 else some 0) = some 1 := by
  obtain ⟨a, N, P, e1, e2, hJ⟩ := h
  injection e1 with e1
  injection e2 with e2
  rw [e1]
  simp only []
  rw [e2, if_pos rfl]
  exact hC P hJ
theorem l4 : ∀ L, L < 4 → (Int32.ofNat L - 4).toInt < 0 := by decide +kernel
theorem lcond {L i : Nat} (hL : L ≤ 2048) (hi : i ≤ 3000) : (Int32.ofNat L - 4 < nI i) ↔ L < i + 4 := by
  by_cases q : L < 4
  · have h1 := l4 L q
    rw [Int32.lt_iff_toInt_lt, nJ_toInt (by omega)]
    omega
  · rw [show Int32.ofNat L = nI L from rfl, show (4 : Int32) = nI 4 from rfl, nI_sub (by omega), nJ_lt (by omega) (by omega)]
    omega
set_option maxRecDepth 20000 in
theorem law_lo {L : Nat} (hL : L ≤ 2048) (xs : Nat → Int32) : ∀ k i fuel M, L ≤ i + 4 * k → i ≤ 2052 → k < fuel → JJ M → f_L_law_18 L xs 0 50 (fun _ => some 1) fuel (nI i) M = some 1 := by
  intro k
  induction k with
  | zero =>
    intro i fuel M hi hi2 hf hJ
    obtain ⟨fuel, rfl⟩ : ∃ m, fuel = m + 1 := ⟨fuel - 1, by omega⟩
    rw [f_L_law_18, zletE, zletE, if_pos ((lcond hL (by omega)).mpr (by omega))]
  | succ k ih =>
    intro i fuel M hi hi2 hf hJ
    obtain ⟨fuel, rfl⟩ : ∃ m, fuel = m + 1 := ⟨fuel - 1, by omega⟩
    by_cases q : L < i + 4
    · rw [f_L_law_18, zletE, zletE, if_pos ((lcond hL (by omega)).mpr q)]
    have hC : ∀ P, JJ P → f_L_law_18 L xs 0 50 (fun _ => some 1) fuel (nI i + 4) P = some 1 := fun P hP => by
      rw [show nI i + 4 = nI (i + 4) from nJ_add i 4]
      exact ih (i + 4) fuel P (by omega) (by omega) (by omega) hP
    have t0 : zin (nI i) L = true := zin_t (by omega) (by omega)
    have t1 : zin (nI i + 1) L = true := by rw [show nI i + 1 = nI (i + 1) from nJ_add i 1]; exact zin_t (by omega) (by omega)
    have t2 : zin (nI i + 2) L = true := by rw [show nI i + 2 = nI (i + 2) from nJ_add i 2]; exact zin_t (by omega) (by omega)
    have t3 : zin (nI i + 3) L = true := by rw [show nI i + 3 = nI (i + 3) from nJ_add i 3]; exact zin_t (by omega) (by omega)
    have z0 : ∀ x : Option Int32, zck (zin (nI i) L) x = x := fun x => zckT t0
    have z1 : ∀ x : Option Int32, zck (zin (nI i + 1) L) x = x := fun x => zckT t1
    have z2 : ∀ x : Option Int32, zck (zin (nI i + 2) L) x = x := fun x => zckT t2
    have z3 : ∀ x : Option Int32, zck (zin (nI i + 3) L) x = x := fun x => zckT t3
    rw [f_L_law_18]
    simp only [zletE, z0, z1, z2, z3]
    rw [if_neg (fun z => q ((lcond hL (by omega)).mp z))]
    generalize xs (nI i).toNatClampNeg &&& 31 = w
    by_cases c0 : w = 0
    · rw [if_pos c0]; exact agI (m_feed _ _ hJ) hC
    rw [if_neg c0]
    by_cases c1 : w = 1
    · rw [if_pos c1]; exact agI (m_read hJ) hC
    rw [if_neg c1]
    by_cases c2 : w = 2
    · rw [if_pos c2, JJ_word hJ, bindE, if_pos rfl]
      exact hC M hJ
    rw [if_neg c2]
    by_cases c3 : w = 3
    · rw [if_pos c3, JJ_readings hJ, bindE, if_pos (by rw [lg_cmp_eq])]
      exact hC M hJ
    rw [if_neg c3]
    by_cases c4 : w = 4
    · rw [if_pos c4]; exact agI (m_nodes _ hJ) hC
    rw [if_neg c4]
    by_cases c5 : w = 5
    · rw [if_pos c5]; exact agI (m_node _ _ _ hJ) hC
    rw [if_neg c5]
    by_cases c6 : w = 6
    · rw [if_pos c6]; exact agL (m_means _ hJ) hC
    rw [if_neg c6]
    by_cases c7 : w = 7
    · rw [if_pos c7]; exact agI (m_lets _ _ hJ) hC
    rw [if_neg c7]
    by_cases c8 : w = 8
    · rw [if_pos c8]; exact agI (m_map _ hJ) hC
    rw [if_neg c8]
    by_cases c9 : w = 9
    · rw [if_pos c9]
      by_cases hx : xs (nI i + 1).toNatClampNeg = 0
      · simp only [if_pos hx]
        exact agL (m_all 0 hJ) hC
      · simp only [if_neg hx]
        exact agL (m_all 1 hJ) hC
    rw [if_neg c9]
    by_cases c10 : w = 10
    · rw [if_pos c10]; exact agI (m_same _ _ hJ) hC
    rw [if_neg c10]
    by_cases c11 : w = 11
    · rw [if_pos c11]; exact agI (m_unlike hJ) hC
    rw [if_neg c11]
    by_cases c12 : w = 12
    · rw [if_pos c12]; exact agI (m_part _ _ hJ) hC
    rw [if_neg c12]
    by_cases c13 : w = 13
    · rw [if_pos c13]; exact agI (m_idle _ hJ) hC
    rw [if_neg c13]
    by_cases c14 : w = 14
    · rw [if_pos c14]; exact agI (m_needless hJ) hC
    rw [if_neg c14]
    by_cases c15 : w = 15
    · rw [if_pos c15]; exact agI (m_meets _ _ hJ) hC
    rw [if_neg c15]
    by_cases c16 : w = 16
    · rw [if_pos c16]; exact agI (m_choose _ hJ) hC
    rw [if_neg c16]
    by_cases c17 : w = 17
    · rw [if_pos c17]; exact agU (m_unchoose hJ) hC
    rw [if_neg c17]
    by_cases c18 : w = 18
    · rw [if_pos c18]; exact agI (m_leftOver _ hJ) hC
    rw [if_neg c18]
    by_cases c19 : w = 19
    · rw [if_pos c19]; exact agI (m_passedOver hJ) hC
    rw [if_neg c19]
    by_cases c20 : w = 20
    · rw [if_pos c20]; exact agI (m_quarrel _ _ hJ) hC
    rw [if_neg c20]
    by_cases c21 : w = 21
    · rw [if_pos c21]; exact agI (m_hangs hJ) hC
    rw [if_neg c21]
    by_cases c22 : w = 22
    · rw [if_pos c22]; exact agI (m_test hJ) hC
    rw [if_neg c22]
    by_cases c23 : w = 23
    · rw [if_pos c23]; exact agI (m_fewest hJ) hC
    rw [if_neg c23]
    by_cases c24 : w = 24
    · rw [if_pos c24]; exact agI (m_bracket _ _ hJ) hC
    rw [if_neg c24]
    by_cases c25 : w = 25
    · rw [if_pos c25]; exact agI (m_mend _ hJ) hC
    rw [if_neg c25]
    by_cases c26 : w = 26
    · rw [if_pos c26]; exact agZ (m_aim _ _ hJ) hC
    rw [if_neg c26]
    by_cases c27 : w = 27
    · rw [if_pos c27]; exact agI (m_serves _ hJ) hC
    rw [if_neg c27]
    by_cases c28 : w = 28
    · rw [if_pos c28]; exact agI (m_best hJ) hC
    rw [if_neg c28]
    by_cases c29 : w = 29
    · rw [if_pos c29]; exact agI (m_image hJ) hC
    rw [if_neg c29]
    by_cases c30 : w = 30
    · rw [if_pos c30]; exact agI (m_on hJ) hC
    rw [if_neg c30]
    by_cases c31 : w = 31
    · rw [if_pos c31]
      obtain ⟨z, e1, e2⟩ := JJ_count hJ (xs (nI i + 1).toNatClampNeg)
      rw [e1, bindE, e2, bindE, if_pos rfl]
      exact hC M hJ
    rw [if_neg c31]
    exact hC M hJ
theorem okw_a : okw [97] := ⟨by decide, by decide +kernel⟩
theorem law_pure : LawPure := by
  unfold LawPure
  rw [show zr 0 3 = 7 by decide +kernel, show zr 0 1 = 3 by decide +kernel]
  have h0 : WH zZ 3 [] := ⟨nI0.symm, fun k hk => absurd hk (Nat.not_lt_zero _)⟩
  have hA := add_ok WG3 (v := 97) h0 (by decide)
  have FA : Fr [3, 4] zZ (f_X10_add 3 97 zZ) := Fr_sub hA.2 (by decide +kernel)
  have hA1 : WH (f_X10_add 3 97 zZ) 3 [97] := hA.1
  obtain ⟨M1, e1, d1, w1, F1⟩ := reckon_ok (ws := [97]) (by decide) hA1 (fun i _ => by rw [Fr_2 FA (by decide)]; rfl)
  obtain ⟨N0, hN0⟩ : ∃ N, N = zi (zi (zmix M1 zZm) (zr 50 1) (0 : Int32).toNatClampNeg 97) 50 10 1 := ⟨_, rfl⟩
  have nlo : ∀ b, b < 50 → N0.1 b = M1.1 b ∧ N0.2 b = M1.2 b := by
    intro b hb
    refine ⟨?_, ?_⟩
    · rw [hN0, z52]
      funext j
      rw [zi_ne (by omega), zi_ne (by omega)]
      show (if b < 50 then M1.1 b j else zZm.1 b j) = _
      rw [if_pos hb]
    · rw [hN0]
      funext j
      show (if b < 50 then M1.2 b j else zZm.2 b j) = _
      rw [if_pos hb]
  have nhi : ∀ b j, 50 ≤ b → ¬ (b = 50 ∧ j = 10) → b ≠ 52 → N0.1 b j = if b = 50 ∧ j = 28 then -9 else 0 := by
    intro b j hb h1 h2
    rw [hN0, z52, zi_1, if_neg h1, zi_ne h2]
    show (if b < 50 then M1.1 b j else zZm.1 b j) = _
    rw [if_neg (by omega)]
    rfl
  have n10 : N0.1 50 10 = nI 1 := by rw [hN0, zi_eq]; rfl
  have n52 : N0.1 52 0 = 97 := by
    rw [hN0, z52, zi_ne (by decide), show (0 : Int32).toNatClampNeg = 0 by decide, zi_eq]
  have hRW : RW N0 [97] := ⟨n10, fun k hk => by
    have : k = 0 := by
      have : k < 1 := hk
      omega
    subst this
    rw [n52]; rfl⟩
  obtain ⟨M2, e2, hRF, hFf⟩ := finds_ok okw_a.1 (by decide) hRW (by rw [nhi 50 28 (by decide) (by decide) (by decide), if_pos ⟨rfl, rfl⟩])
  refine ⟨M1, M2, e1, ?_, fun L xs hL => ?_⟩
  · rw [← hN0]; exact e2
  have lo : ∀ b, b < 50 → M2.1 b = M1.1 b ∧ M2.2 b = M1.2 b := by
    intro b hb
    have t : b ∉ fcs := fun h => by
      have t2 : ∀ b, b ∈ fcs → 50 ≤ b := by decide
      have := t2 b h
      omega
    exact ⟨(hFf.1 b t).1.trans (nlo b hb).1, (hFf.1 b t).2.trans (nlo b hb).2⟩
  have z : ∀ b j, b < 50 → b ∉ [3, 4, 8, 9] → M2.1 b j = 0 := by
    intro b j hb hn
    have t1 : ∀ c, c ∈ [8, 9] → c ∈ [3, 4, 8, 9] := by decide
    have t2 : ∀ c, c ∈ [3, 4] → c ∈ [3, 4, 8, 9] := by decide
    rw [(lo b hb).1, Fr_1 F1 (fun h => hn (t1 b h)), Fr_1 FA (fun h => hn (t2 b h))]
    rfl
  have k2 : ∀ k, k ∉ [26, 27, 28, 29, 30, 31] → k ≠ 10 → M2.1 50 k = 0 := by
    intro k hk h10
    rw [hFf.2 k hk, nhi 50 k (by decide) (by omega) (by decide), if_neg]
    rintro ⟨_, h⟩
    exact hk (by rw [h]; decide)
  have r2 : ∀ b j, b ∉ fcs → 50 < b → b ≠ 52 → M2.1 b j = 0 := by
    intro b j hb h5 h52
    rw [(hFf.1 b hb).1, nhi b j (by omega) (by omega) h52, if_neg (by omega)]
  have nil : ∀ c f r : Nat, M2.1 c f = 0 → LH M2 c f r [] := fun c f r h => ⟨h.trans nI0.symm, fun k hk => absurd hk (Nat.not_lt_zero _)⟩
  have hw3 : WH M2 3 [97] := by
    have : WH M1 3 [97] := WH_Fr hA1 F1 (by decide) (by decide +kernel)
    refine ⟨by rw [(lo 3 (by decide)).1]; exact this.1, fun k hk => ?_⟩
    rw [show zr 3 0 = 4 by decide +kernel, (lo 4 (by decide)).1]
    exact this.2 k hk
  have hJ : JJ M2 := by
    refine ⟨[97], [], [], [], [], none, fun _ => 0, ⟨okw_a, Nat.zero_le _, ⟨Nat.zero_le _, List.nodup_nil, fun x hx => absurd hx List.not_mem_nil⟩, ⟨Nat.zero_le _, rfl, fun x hx => absurd hx List.not_mem_nil⟩, fun q hq => by cases hq⟩, ?_, ?_⟩
    · refine ⟨nil 1 1 (zr 1 0) (z 1 1 (by decide) (by decide)), hw3, nil 29 1 30 (z 29 1 (by decide) (by decide)), nil 38 2 39 (z 38 2 (by decide) (by decide)), nil 38 2 40 (z 38 2 (by decide) (by decide)), fun k _ => z 49 k (by decide) (by decide), by rw [z 41 3 (by decide) (by decide)]; rfl, fun q hq => (by cases hq), fun i hi => by rw [(lo 8 (by decide)).2]; exact d1 i hi, fun i j hi hj' => ⟨by rw [(lo 8 (by decide)).2]; exact (w1 i j hi hj').1, by rw [(lo 9 (by decide)).2]; exact (w1 i j hi hj').2⟩, Or.inl (z 19 5 (by decide) (by decide))⟩
    · refine ⟨⟨by rw [hFf.2 10 (by decide)]; exact n10, fun k hk => by rw [Fr_1 hFf.1 (by decide)]; exact hRW.2 k hk⟩, nil 50 11 53 (k2 11 (by decide) (by decide)), nil 50 12 54 (k2 12 (by decide) (by decide)), nil 50 13 55 (k2 13 (by decide) (by decide)), nil 50 13 56 (k2 13 (by decide) (by decide)), fun k _ => r2 51 k (by decide) (by decide) (by decide), by rw [k2 17 (by decide) (by decide)]; rfl, fun q hq => (by cases hq), hRF⟩
  rw [← nI0]
  exact law_lo hL xs 600 0 zN M2 (by omega) (by omega) (by unfold zN; omega) hJ
