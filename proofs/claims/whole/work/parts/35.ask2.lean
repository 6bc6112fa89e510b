theorem m_lets (v w : Int32) {M : ZM} (hJ : JJ M) : Ag (f_X11_lets 0 v w M) (f_X12_lets 50 v w) := by
  unfold f_X11_lets
  refine qAg (fun x => x) hJ (fun N => by simp only [zletE]; rw [if_neg (by decide)]) (fun N h => ?_) (fun ws tp od a1 a2 im rf N hp hc hr hL hm => ?_)
  · unfold f_X12_lets f_X12_wrong
    simp only [zletE]
    rw [if_pos h, if_neg (by decide), if_neg (by decide)]
  · show Ag (if ((0 : Int32), N).1 = 0 then _ else _) _
    rw [if_pos rfl]
    simp only [zletE]
    rcases in_or (Ny ws 0 ws.length) (by omega) v with ⟨r, hr0, rfl⟩ | hv
    · rw [noR_t hL hm hr0, if_pos rfl]
      rcases in_or 32 (by omega) w with ⟨c, hc0, rfl⟩ | hw
      · rw [noC_t hc0, if_pos rfl, show zr 0 5 = 19 by decide +kernel, mea_ok hL hm hr0, bitL hc0]
        refine okAg hp hc hr rfl (Fr_rf _ _) (P := N) ?_ (Fs_rf _)
        unfold f_X12_lets
        simp only [zletE]
        rw [wrong_t hr hm hr0, if_pos rfl, show (32 : Int32) = nI 32 from rfl, isIn_t hc0 (by omega), if_neg (by decide), if_pos rfl, doesL (by omega) hc0, bindE, (LRr hr hm hr0).2.2.1]
        cases lb (Me ws r) c <;> rfl
      · rw [noC_f hw, if_neg (by decide)]
        refine refAg (fun x => x) hp hc hr (k := 1) (by decide +kernel) (by omega) (fun N' r' => ?_)
        unfold f_X12_lets
        simp only [zletE]
        rw [wrong_t r' hm hr0, if_pos rfl, show (32 : Int32) = nI 32 from rfl, isIn_f hw, if_pos rfl, if_neg (by decide)]
    · rw [noR_f hL hv, if_neg (by decide)]
      refine refAg (fun x => x) hp hc hr (k := 1) (by decide +kernel) (by omega) (fun N' r' => ?_)
      unfold f_X12_lets
      simp only [zletE]
      rw [wrong_f r' hm hv, if_neg (by decide), if_neg (by decide)]
/-- how many of the first readings let a case -/
noncomputable def cn (ws : List Int32) (c : Nat) : Nat → Nat
  | 0 => 0
  | i + 1 => cn ws c i + (if lb (Me ws i) c = true then 1 else 0)
theorem cn_le (ws : List Int32) (c : Nat) : ∀ i, cn ws c i ≤ i := by
  intro i
  induction i with
  | zero => exact Nat.le_refl _
  | succ i ih => rw [cn]; split <;> omega
theorem letA4 {ws : List Int32} {N : ZM} (hL : LM ws N) (hm : Ny ws 0 ws.length ≤ 200) {c : Nat} (hc : c < 32) : ∀ k i fuel, i + k = Ny ws 0 ws.length → k < fuel → f_X2_lettingAt_4 19 (nI c) N (fun (v2 : Int32) => some v2) fuel (nI (cn ws c i)) (nI i) = some (nI (cn ws c (Ny ws 0 ws.length))) := by
  intro k
  induction k with
  | zero =>
    intro i fuel hi hf
    obtain ⟨fuel, rfl⟩ : ∃ m, fuel = m + 1 := ⟨fuel - 1, by omega⟩
    rw [f_X2_lettingAt_4, hL.1, if_pos (by rw [nI_le' (by omega) (by omega)]; omega), show i = Ny ws 0 ws.length by omega]
  | succ k ih =>
    intro i fuel hi hf
    obtain ⟨fuel, rfl⟩ : ∃ m, fuel = m + 1 := ⟨fuel - 1, by omega⟩
    rw [f_X2_lettingAt_4, hL.1, if_neg (by rw [nI_le' (by omega) (by omega)]; omega)]
    simp only [zletE]
    rw [mea_ok hL hm (by omega), bitL hc, nI_s]
    have e := ih (i + 1) fuel (by omega) (by omega)
    rw [cn] at e
    cases h : lb (Me ws i) c with
    | true => rw [h, if_pos rfl] at e; rw [if_pos rfl, nI_s]; exact e
    | false => rw [h, if_neg (by decide)] at e; rw [if_neg (by decide), Int32.add_zero]; exact e
theorem letA_ok {ws : List Int32} {N : ZM} (hL : LM ws N) (hm : Ny ws 0 ws.length ≤ 200) {c : Nat} (hc : c < 32) : f_X2_lettingAt 19 (nI c) N = some (nI (cn ws c (Ny ws 0 ws.length))) := by
  have := letA4 hL hm hc (Ny ws 0 ws.length) 0 zN (by omega) (by unfold zN; omega)
  rw [cn, nI0] at this
  exact this
theorem letO4 {ws tp od a1 a2 : List Int32} {im : zI} {rf : Nat → Int32} {N : ZM} (hr : RI ws tp od a1 a2 im rf N) (hm : Ny ws 0 ws.length ≤ 200) {c : Nat} (hc : c < 32) : ∀ k i fuel, i + k = Ny ws 0 ws.length → k < fuel → f_X12_lettingOf_4 50 (nI c) N (fun (v2 : Int32) => some v2) fuel (nI (cn ws c i)) (nI i) = some (nI (cn ws c (Ny ws 0 ws.length))) := by
  intro k
  induction k with
  | zero =>
    intro i fuel hi hf
    obtain ⟨fuel, rfl⟩ : ∃ m, fuel = m + 1 := ⟨fuel - 1, by omega⟩
    rw [f_X12_lettingOf_4, L26 hr hm, if_pos (by rw [nI_le' (by omega) (by omega)]; omega), show i = Ny ws 0 ws.length by omega]
  | succ k ih =>
    intro i fuel hi hf
    obtain ⟨fuel, rfl⟩ : ∃ m, fuel = m + 1 := ⟨fuel - 1, by omega⟩
    rw [f_X12_lettingOf_4, L26 hr hm, if_neg (by rw [nI_le' (by omega) (by omega)]; omega)]
    simp only [zletE]
    rw [doesL (by omega) hc, bindE, (LRr hr hm (show i < Ny ws 0 ws.length by omega)).2.2.1, nI_s]
    have e := ih (i + 1) fuel (by omega) (by omega)
    rw [cn] at e
    cases h : lb (Me ws i) c with
    | true => rw [h, if_pos rfl] at e; rw [if_pos rfl, if_neg (by decide), nI_s]; exact e
    | false => rw [h, if_neg (by decide)] at e; rw [if_pos (by decide), Int32.add_zero]; exact e
theorem letO_ok {ws tp od a1 a2 : List Int32} {im : zI} {rf : Nat → Int32} {N : ZM} (hr : RI ws tp od a1 a2 im rf N) (hm : Ny ws 0 ws.length ≤ 200) {c : Nat} (hc : c < 32) : f_X12_lettingOf 50 (nI c) N = some (nI (cn ws c (Ny ws 0 ws.length))) := by
  have := letO4 hr hm hc (Ny ws 0 ws.length) 0 zN (by omega) (by unfold zN; omega)
  rw [cn, nI0] at this
  exact this
theorem m_map (w : Int32) {M : ZM} (hJ : JJ M) : Ag (f_X11_map 0 w M) (f_X12_map 50 w) := by
  unfold f_X11_map
  refine qAg (fun x => x) hJ (fun N => by simp only [zletE]; rw [if_neg (by decide)]) (fun N h => ?_) (fun ws tp od a1 a2 im rf N hp hc hr hL hm => ?_)
  · unfold f_X12_map
    simp only [zletE]
    rw [if_pos h, if_neg (by decide)]
  · show Ag (if ((0 : Int32), N).1 = 0 then _ else _) _
    rw [if_pos rfl]
    simp only [zletE]
    rcases in_or 32 (by omega) w with ⟨c, hc0, rfl⟩ | hw
    · rw [noC_t hc0, if_pos rfl, show zr 0 5 = 19 by decide +kernel, letA_ok hL hm hc0, bindE]
      refine okAg hp hc hr rfl (Fr_rf _ _) (P := N) ?_ (Fs_rf _)
      unfold f_X12_map
      simp only [zletE]
      rw [if_neg (L29_t hr hm), show (32 : Int32) = nI 32 from rfl, isIn_t hc0 (by omega), if_neg (by decide), if_pos trivial, letO_ok hr hm hc0, bindE]
    · rw [noC_f hw, if_neg (by decide)]
      refine refAg (fun x => x) hp hc hr (k := 1) (by decide +kernel) (by omega) (fun N' r' => ?_)
      unfold f_X12_map
      simp only [zletE]
      rw [if_neg (L29_t r' hm), show (32 : Int32) = nI 32 from rfl, isIn_f hw, if_pos rfl, if_neg (by decide)]
theorem all_lo {ws tp od a1 a2 : List Int32} {im : zI} {rf : Nat → Int32} {N : ZM} (hL : LM ws N) (hr : RI ws tp od a1 a2 im rf N) (hm : Ny ws 0 ws.length ≤ 200) (v : Int32) : ∀ k i f1 f2 x, i + k = Ny ws 0 ws.length → k < f1 → k < f2 → ∃ z, (if v = 0 then f_X2_barredByAll_6 19 N (fun (v1 : Int64) => some v1) f1 x (nI i) else f_X2_letByAll_6 19 N (fun (v1 : Int64) => some v1) f1 x (nI i)) = some z ∧ f_X12_all_22 50 v (fun (v2 : Int64) (M : ZM) => some (v2, M)) f2 x (nI i) N = some (z, N) := by
  intro k
  induction k with
  | zero =>
    intro i f1 f2 x hi hf hf2
    obtain ⟨f1, rfl⟩ : ∃ m, f1 = m + 1 := ⟨f1 - 1, by omega⟩
    obtain ⟨f2, rfl⟩ : ∃ m, f2 = m + 1 := ⟨f2 - 1, by omega⟩
    rw [f_X2_barredByAll_6, f_X2_letByAll_6, f_X12_all_22, hL.1, L26 hr hm, if_pos (show nI (Ny ws 0 ws.length) ≤ nI i by rw [nI_le' (by omega) (by omega)]; omega), if_pos (show nI (Ny ws 0 ws.length) ≤ nI i by rw [nI_le' (by omega) (by omega)]; omega), if_pos (show nI (Ny ws 0 ws.length) ≤ nI i by rw [nI_le' (by omega) (by omega)]; omega)]
    exact ⟨x, by split <;> rfl, rfl⟩
  | succ k ih =>
    intro i f1 f2 x hi hf hf2
    obtain ⟨f1, rfl⟩ : ∃ m, f1 = m + 1 := ⟨f1 - 1, by omega⟩
    obtain ⟨f2, rfl⟩ : ∃ m, f2 = m + 1 := ⟨f2 - 1, by omega⟩
    rw [f_X2_barredByAll_6, f_X2_letByAll_6, f_X12_all_22, hL.1, L26 hr hm, if_neg (show ¬ nI (Ny ws 0 ws.length) ≤ nI i by rw [nI_le' (by omega) (by omega)]; omega), if_neg (show ¬ nI (Ny ws 0 ws.length) ≤ nI i by rw [nI_le' (by omega) (by omega)]; omega), if_neg (show ¬ nI (Ny ws 0 ws.length) ≤ nI i by rw [nI_le' (by omega) (by omega)]; omega)]
    simp only [zletE]
    rw [mea_ok hL hm (by omega), z68, zckT (i68 (by omega)), zckT (i68 (by omega)), nI_tn (by omega), (LRr hr hm (show i < Ny ws 0 ws.length by omega)).2.2.1, nI_s]
    by_cases q : v = 0
    · have := ih (i + 1) f1 f2 (x &&& (Me ws i ^^^ (-1))) (by omega) (by omega) (by omega)
      rw [if_pos q] at this
      rw [if_pos q, if_pos q]; exact this
    · have := ih (i + 1) f1 f2 (x &&& Me ws i) (by omega) (by omega) (by omega)
      rw [if_neg q] at this
      rw [if_neg q, if_neg q]; exact this
theorem m_all (v : Int32) {M : ZM} (hJ : JJ M) : Ag (f_X11_all 0 v M) (f_X12_all 50 v) := by
  unfold f_X11_all
  refine qAg (fun x => x.toInt64) hJ (fun N => by simp only [zletE]; rw [if_neg (by decide)]) (fun N h => ?_) (fun ws tp od a1 a2 im rf N hp hc hr hL hm => ?_)
  · unfold f_X12_all
    rw [if_pos h]
  · show Ag (if ((0 : Int32), N).1 = 0 then _ else _) _
    rw [if_pos rfl]
    obtain ⟨z, e1, e2⟩ := all_lo hL hr hm v (Ny ws 0 ws.length) 0 zN zN 4294967295 (by omega) (by unfold zN; omega) (by unfold zN; omega)
    rw [nI0] at e1 e2
    refine okAg hp hc hr (N1 := N) (a := z) ?_ (Fr_rf _ _) (P := N) ?_ (Fs_rf _)
    · unfold f_X2_barredByAll f_X2_letByAll
      rw [show zr 0 5 = 19 by decide +kernel]
      by_cases q : v = 0
      · rw [if_pos q] at e1; rw [if_pos q, e1, bindE]
      · rw [if_neg q] at e1; rw [if_neg q, e1, bindE]
    · unfold f_X12_all
      rw [if_neg (L29_t hr hm), e2]
theorem m_same (v w : Int32) {M : ZM} (hJ : JJ M) : Ag (f_X11_same 0 v w M) (f_X12_same 50 v w) := by
  unfold f_X11_same
  refine qAg (fun x => x) hJ (fun N => by simp only [zletE]; rw [if_neg (by decide)]) (fun N h => ?_) (fun ws tp od a1 a2 im rf N hp hc hr hL hm => ?_)
  · unfold f_X12_same f_X12_wrong
    simp only [zletE]
    rw [if_pos h, if_neg (by decide), if_neg (by decide)]
  · show Ag (if ((0 : Int32), N).1 = 0 then _ else _) _
    rw [if_pos rfl]
    simp only [zletE]
    rcases in_or (Ny ws 0 ws.length) (by omega) v with ⟨r, hr0, rfl⟩ | hv
    · rw [noR_t hL hm hr0, if_pos rfl]
      rcases in_or (Ny ws 0 ws.length) (by omega) w with ⟨s, hs0, rfl⟩ | hw
      · rw [noR_t hL hm hs0, if_pos rfl, show zr 0 5 = 19 by decide +kernel, mea_ok hL hm hr0, mea_ok hL hm hs0]
        refine okAg hp hc hr (N1 := N) (a := if lg_cmp (Me ws r) (Me ws s) = 0 then 1 else 0) ?_ (Fr_rf _ _) (P := N) ?_ (Fs_rf _)
        · split <;> rfl
        · unfold f_X12_same
          simp only [zletE]
          rw [wrong_t hr hm hr0, if_pos rfl, wrong_t hr hm hs0, if_pos rfl, z68, zckT (i68 (by omega)), zckT (i68 (by omega)), nI_tn (by omega), nI_tn (by omega), (LRr hr hm hr0).2.2.1, (LRr hr hm hs0).2.2.1]
          split <;> rfl
      · rw [noR_f hL hw, if_neg (by decide)]
        refine refAg (fun x => x) hp hc hr (k := 1) (by decide +kernel) (by omega) (fun N' r' => ?_)
        unfold f_X12_same
        simp only [zletE]
        rw [wrong_t r' hm hr0, if_pos rfl, wrong_f r' hm hw, if_neg (by decide)]
    · rw [noR_f hL hv, if_neg (by decide)]
      refine refAg (fun x => x) hp hc hr (k := 1) (by decide +kernel) (by omega) (fun N' r' => ?_)
      unfold f_X12_same
      simp only [zletE]
      rw [wrong_f r' hm hv, if_neg (by decide), if_neg (by decide)]
theorem part_lo {x y : Int64} {N : ZM} {r s : Nat} (hr : r < 200) (hs : s < 200) (hx : N.2 68 r = x) (hy : N.2 68 s = y) : ∀ k c f1 f2, c + k = 32 → k < f1 → k < f2 → ∃ z, f_X11_leastCase_2 (x ^^^ y) N (some ((-9) : Int32)) f1 (nI c) = some z ∧ f_X12_part_35 50 (nI r) (nI s) (fun (M : ZM) => some (((-9) : Int32), M)) f2 (nI c) N = some (z, N) := by
  intro k
  induction k with
  | zero =>
    intro c f1 f2 hi hf hf2
    obtain ⟨f1, rfl⟩ : ∃ m, f1 = m + 1 := ⟨f1 - 1, by omega⟩
    obtain ⟨f2, rfl⟩ : ∃ m, f2 = m + 1 := ⟨f2 - 1, by omega⟩
    rw [f_X11_leastCase_2, f_X12_part_35, show (32 : Int32) = nI 32 from rfl, if_pos (by rw [nI_le' (by omega) (by omega)]; omega), if_pos (by rw [nI_le' (by omega) (by omega)]; omega)]
    exact ⟨-9, rfl, rfl⟩
  | succ k ih =>
    intro c f1 f2 hi hf hf2
    obtain ⟨f1, rfl⟩ : ∃ m, f1 = m + 1 := ⟨f1 - 1, by omega⟩
    obtain ⟨f2, rfl⟩ : ∃ m, f2 = m + 1 := ⟨f2 - 1, by omega⟩
    rw [f_X11_leastCase_2, f_X12_part_35, show (32 : Int32) = nI 32 from rfl, if_neg (show ¬ nI 32 ≤ nI c by rw [nI_le' (by omega) (by omega)]; omega), if_neg (show ¬ nI 32 ≤ nI c by rw [nI_le' (by omega) (by omega)]; omega)]
    simp only [zletE]
    rw [bitL (by omega), doesL hr (by omega), bindE, doesL hs (by omega), bindE, hx, hy, lb_xor, nI_s]
    have := ih (c + 1) f1 f2 (by omega) (by omega) (by omega)
    cases lb x c <;> cases lb y c
    · rw [if_neg (by decide), if_pos rfl]; exact this
    · rw [if_pos (by decide), if_neg (by decide)]; exact ⟨_, rfl, rfl⟩
    · rw [if_pos (by decide), if_neg (by decide)]; exact ⟨_, rfl, rfl⟩
    · rw [if_neg (by decide), if_pos rfl]; exact this
theorem m_part (v w : Int32) {M : ZM} (hJ : JJ M) : Ag (f_X11_part 0 v w M) (f_X12_part 50 v w) := by
  unfold f_X11_part
  refine qAg (fun x => x) hJ (fun N => by simp only [zletE]; rw [if_neg (by decide)]) (fun N h => ?_) (fun ws tp od a1 a2 im rf N hp hc hr hL hm => ?_)
  · unfold f_X12_part f_X12_wrong
    simp only [zletE]
    rw [if_pos h, if_neg (by decide), if_neg (by decide)]
  · show Ag (if ((0 : Int32), N).1 = 0 then _ else _) _
    rw [if_pos rfl]
    simp only [zletE]
    rcases in_or (Ny ws 0 ws.length) (by omega) v with ⟨r, hr0, rfl⟩ | hv
    · rw [noR_t hL hm hr0, if_pos rfl]
      rcases in_or (Ny ws 0 ws.length) (by omega) w with ⟨s, hs0, rfl⟩ | hw
      · obtain ⟨z, e1, e2⟩ := part_lo (N := N) (show r < 200 by omega) (show s < 200 by omega) (LRr hr hm hr0).2.2.1 (LRr hr hm hs0).2.2.1 32 0 zN zN (by omega) (by unfold zN; omega) (by unfold zN; omega)
        rw [nI0] at e1 e2
        rw [noR_t hL hm hs0, if_pos rfl, show zr 0 5 = 19 by decide +kernel, mea_ok hL hm hr0, mea_ok hL hm hs0]
        refine okAg hp hc hr (N1 := N) (a := z) ?_ (Fr_rf _ _) (P := N) ?_ (Fs_rf _)
        · unfold f_X11_leastCase
          rw [e1, bindE]
        · unfold f_X12_part
          simp only [zletE]
          rw [wrong_t hr hm hr0, if_pos rfl, wrong_t hr hm hs0, if_pos rfl, e2]
      · rw [noR_f hL hw, if_neg (by decide)]
        refine refAg (fun x => x) hp hc hr (k := 1) (by decide +kernel) (by omega) (fun N' r' => ?_)
        unfold f_X12_part
        simp only [zletE]
        rw [wrong_t r' hm hr0, if_pos rfl, wrong_f r' hm hw, if_neg (by decide)]
    · rw [noR_f hL hv, if_neg (by decide)]
      refine refAg (fun x => x) hp hc hr (k := 1) (by decide +kernel) (by omega) (fun N' r' => ?_)
      unfold f_X12_part
      simp only [zletE]
      rw [wrong_f r' hm hv, if_neg (by decide), if_neg (by decide)]
theorem need_lo {ws tp od a1 a2 : List Int32} {im : zI} {rf : Nat → Int32} {N : ZM} (hL : LM ws N) (hr : RI ws tp od a1 a2 im rf N) (hm : Ny ws 0 ws.length ≤ 200) : ∀ k i f1 f2 x, i + k = Ny ws 0 ws.length → k < f1 → k < f2 → ∃ z, f_X2_idleInAll_8 19 N (fun (v1 : Int32) => some v1) f1 x (nI i) = some z ∧ f_X12_needless_23 50 (fun (v1 : Int32) (M : ZM) => some (v1, M)) f2 x (nI i) N = some (z, N) := by
  intro k
  induction k with
  | zero =>
    intro i f1 f2 x hi hf hf2
    obtain ⟨f1, rfl⟩ : ∃ m, f1 = m + 1 := ⟨f1 - 1, by omega⟩
    obtain ⟨f2, rfl⟩ : ∃ m, f2 = m + 1 := ⟨f2 - 1, by omega⟩
    rw [f_X2_idleInAll_8, f_X12_needless_23, hL.1, L26 hr hm, if_pos (by rw [nI_le' (by omega) (by omega)]; omega), if_pos (by rw [nI_le' (by omega) (by omega)]; omega)]
    exact ⟨x, rfl, rfl⟩
  | succ k ih =>
    intro i f1 f2 x hi hf hf2
    obtain ⟨f1, rfl⟩ : ∃ m, f1 = m + 1 := ⟨f1 - 1, by omega⟩
    obtain ⟨f2, rfl⟩ : ∃ m, f2 = m + 1 := ⟨f2 - 1, by omega⟩
    rw [f_X2_idleInAll_8, f_X12_needless_23, hL.1, L26 hr hm, if_neg (show ¬ nI (Ny ws 0 ws.length) ≤ nI i by rw [nI_le' (by omega) (by omega)]; omega), if_neg (show ¬ nI (Ny ws 0 ws.length) ≤ nI i by rw [nI_le' (by omega) (by omega)]; omega)]
    simp only [zletE]
    rw [idl_ok hL hm (by omega), z67, zckT (i67 (by omega)), nI_tn (by omega), (LRr hr hm (show i < Ny ws 0 ws.length by omega)).2.2.2.2, nI_s]
    exact ih (i + 1) f1 f2 (x &&& Ix ws i) (by omega) (by omega) (by omega)
theorem m_needless {M : ZM} (hJ : JJ M) : Ag (f_X11_needless 0 M) (f_X12_needless 50) := by
  unfold f_X11_needless
  refine qAg (fun x => x) hJ (fun N => by simp only [zletE]; rw [if_neg (by decide)]) (fun N h => ?_) (fun ws tp od a1 a2 im rf N hp hc hr hL hm => ?_)
  · unfold f_X12_needless
    rw [if_pos h]
  · show Ag (if ((0 : Int32), N).1 = 0 then _ else _) _
    rw [if_pos rfl]
    have h0 := okw_pos hp.1
    obtain ⟨z, e1, e2⟩ := need_lo hL hr hm (Ny ws 0 ws.length - 1) 1 zN zN (Ix ws 0) (by omega) (by unfold zN; omega) (by unfold zN; omega)
    refine okAg hp hc hr (N1 := N) (a := z) ?_ (Fr_rf _ _) (P := N) ?_ (Fs_rf _)
    · unfold f_X2_idleInAll
      simp only [zletE]
      rw [show zr 0 5 = 19 by decide +kernel, ← nI0, idl_ok hL hm h0, show (1 : Int32) = nI 1 from rfl, e1, bindE]
    · unfold f_X12_needless
      simp only [zletE]
      rw [if_neg (L29_t hr hm), z67, ← nI0, zckT (i67 (by omega)), nI_tn (by omega), (LRr hr hm h0).2.2.2.2, show (1 : Int32) = nI 1 from rfl, e2]
theorem m_meets (v w : Int32) {M : ZM} (hJ : JJ M) : Ag (f_X11_meets 0 v w M) (f_X12_meets 50 v w) := by
  unfold f_X11_meets
  refine qAg (fun x => x) hJ (fun N => by simp only [zletE]; rw [if_neg (by decide)]) (fun N h => ?_) (fun ws tp od a1 a2 im rf N hp hc hr hL hm => ?_)
  · unfold f_X12_meets f_X12_wrong
    simp only [zletE]
    rw [if_pos h, if_neg (by decide), if_neg (by decide)]
  · show Ag (if ((0 : Int32), N).1 = 0 then _ else _) _
    rw [if_pos rfl]
    simp only [zletE]
    rcases in_or (Ny ws 0 ws.length) (by omega) v with ⟨r, hr0, rfl⟩ | hv
    · rw [noR_t hL hm hr0, if_pos rfl]
      rcases in_or 6 (by omega) w with ⟨c, hc0, rfl⟩ | hw
      · rw [noU_t hc0, if_pos rfl, show zr 0 5 = 19 by decide +kernel, isMet_ok hL hm hr0 hc0]
        refine okAg hp hc hr (N1 := N) (a := if mt ws r c = true then 1 else 0) ?_ (Fr_rf _ _) (P := N) ?_ (Fs_rf _)
        · cases mt ws r c <;> rfl
        · unfold f_X12_meets
          simp only [zletE]
          rw [wrong_t hr hm hr0, if_pos rfl, show (6 : Int32) = nI 6 from rfl, isIn_t hc0 (by omega), if_neg (by decide), if_pos rfl, z66, zckT (i66 (by omega)), nI_tn (by omega), (LRr hr hm hr0).2.2.2.1, bitC (by omega)]
          rfl
      · rw [noU_f hw, if_neg (by decide)]
        refine refAg (fun x => x) hp hc hr (k := 1) (by decide +kernel) (by omega) (fun N' r' => ?_)
        unfold f_X12_meets
        simp only [zletE]
        rw [wrong_t r' hm hr0, if_pos rfl, show (6 : Int32) = nI 6 from rfl, isIn_f hw, if_pos rfl, if_neg (by decide)]
    · rw [noR_f hL hv, if_neg (by decide)]
      refine refAg (fun x => x) hp hc hr (k := 1) (by decide +kernel) (by omega) (fun N' r' => ?_)
      unfold f_X12_meets
      simp only [zletE]
      rw [wrong_f r' hm hv, if_neg (by decide), if_neg (by decide)]
