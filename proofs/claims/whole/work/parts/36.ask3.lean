theorem neg_k : ∀ k, k < 201 → 0 < k → ¬ (0 : Int32) ≤ -(nI k) := by decide +kernel
theorem dif_ok {l m : Nat} (hl : l ≤ m) (hm : m ≤ 200) : ∃ d, d ≤ m ∧ zabs (2 * nI l - nI m) = nI d ∧ (if (0 : Int32) ≤ 2 * nI l - nI m then 2 * nI l - nI m else -(2 * nI l - nI m)) = nI d := by
  rw [show (2 : Int32) = nI 2 from rfl, nI_mul]
  by_cases q : m ≤ 2 * l
  · refine ⟨2 * l - m, by omega, ?_, ?_⟩
    · unfold zabs
      rw [nI_sub q, if_pos (nI_pos' (by omega))]
    · rw [nI_sub q, if_pos (nI_pos' (by omega))]
  · have e : nI (2 * l) - nI m = -(nI (m - 2 * l)) := by rw [← nI_sub (by omega), Int32.neg_sub]
    refine ⟨m - 2 * l, by omega, ?_, ?_⟩
    · unfold zabs
      rw [e, if_neg (neg_k _ (by omega) (by omega)), Int32.zero_sub, Int32.neg_neg]
    · rw [e, if_neg (neg_k _ (by omega) (by omega)), Int32.neg_neg]
theorem test_lo {ws tp od a1 a2 : List Int32} {im : zI} {rf : Nat → Int32} {N : ZM} (hL : LM ws N) (hr : RI ws tp od a1 a2 im rf N) (hm : Ny ws 0 ws.length ≤ 200) : ∀ k c f1 f2 b d, c + k = 32 → k < f1 → k < f2 → b < 1000 → d < 1000 → ∃ z, f_X2_evenestCase_11 19 N (fun (v1 : Int32) => some v1) f1 (nI b) (nI d) (nI c) = some z ∧ f_X12_test_21 50 (fun (v1 : Int32) (M : ZM) => some (v1, M)) f2 (nI b) (nI d) (nI c) N = some (z, N) := by
  intro k
  induction k with
  | zero =>
    intro c f1 f2 b d hi hf hf2 hb hd
    obtain ⟨f1, rfl⟩ : ∃ m, f1 = m + 1 := ⟨f1 - 1, by omega⟩
    obtain ⟨f2, rfl⟩ : ∃ m, f2 = m + 1 := ⟨f2 - 1, by omega⟩
    rw [f_X2_evenestCase_11, f_X12_test_21]
    simp only [zletE]
    rw [if_pos (show (32 : Int32) ≤ nI c by rw [show (32 : Int32) = nI 32 from rfl, nI_le' (by omega) (by omega)]; omega), if_pos (show (32 : Int32) ≤ nI c by rw [show (32 : Int32) = nI 32 from rfl, nI_le' (by omega) (by omega)]; omega)]
    exact ⟨nI b, rfl, rfl⟩
  | succ k ih =>
    intro c f1 f2 b d hi hf hf2 hb hd
    obtain ⟨f1, rfl⟩ : ∃ m, f1 = m + 1 := ⟨f1 - 1, by omega⟩
    obtain ⟨f2, rfl⟩ : ∃ m, f2 = m + 1 := ⟨f2 - 1, by omega⟩
    have h32 : ¬ (32 : Int32) ≤ nI c := by rw [show (32 : Int32) = nI 32 from rfl, nI_le' (by omega) (by omega)]; omega
    obtain ⟨x, hx, ex1, ex2⟩ := dif_ok (cn_le ws c (Ny ws 0 ws.length)) hm
    rw [f_X2_evenestCase_11, f_X12_test_21]
    simp only [zletE]
    rw [if_neg h32, if_neg h32, letA_ok hL hm (by omega), bindE, letO_ok hr hm (by omega), bindE, hL.1, L26 hr hm, ex1, nI_s, if_neg (nI_nn (by omega)), if_neg (nI_nn (by omega))]
    have e2 : (if (0 : Int32) ≤ 2 * nI (cn ws c (Ny ws 0 ws.length)) - nI (Ny ws 0 ws.length) then
        (if 2 * nI (cn ws c (Ny ws 0 ws.length)) - nI (Ny ws 0 ws.length) < nI d then f_X12_test_21 50 (fun (v1 : Int32) (M : ZM) => some (v1, M)) f2 (nI c) (2 * nI (cn ws c (Ny ws 0 ws.length)) - nI (Ny ws 0 ws.length)) (nI (c + 1)) N else f_X12_test_21 50 (fun (v1 : Int32) (M : ZM) => some (v1, M)) f2 (nI b) (nI d) (nI (c + 1)) N)
        else (if -(2 * nI (cn ws c (Ny ws 0 ws.length)) - nI (Ny ws 0 ws.length)) < nI d then f_X12_test_21 50 (fun (v1 : Int32) (M : ZM) => some (v1, M)) f2 (nI c) (-(2 * nI (cn ws c (Ny ws 0 ws.length)) - nI (Ny ws 0 ws.length))) (nI (c + 1)) N else f_X12_test_21 50 (fun (v1 : Int32) (M : ZM) => some (v1, M)) f2 (nI b) (nI d) (nI (c + 1)) N)) = (if nI x < nI d then f_X12_test_21 50 (fun (v1 : Int32) (M : ZM) => some (v1, M)) f2 (nI c) (nI x) (nI (c + 1)) N else f_X12_test_21 50 (fun (v1 : Int32) (M : ZM) => some (v1, M)) f2 (nI b) (nI d) (nI (c + 1)) N) := by
      by_cases q : (0 : Int32) ≤ 2 * nI (cn ws c (Ny ws 0 ws.length)) - nI (Ny ws 0 ws.length)
      · rw [if_pos q] at ex2; rw [if_pos q, ex2]
      · rw [if_neg q] at ex2; rw [if_neg q, ex2]
    rw [e2]
    by_cases q : d ≤ x
    · rw [if_pos (by rw [nI_le' (by omega) (by omega)]; exact q), if_neg (by rw [nJ_lt (by omega) (by omega)]; omega)]
      exact ih (c + 1) f1 f2 b d (by omega) (by omega) (by omega) hb hd
    · rw [if_neg (by rw [nI_le' (by omega) (by omega)]; exact q), if_pos (by rw [nJ_lt (by omega) (by omega)]; omega)]
      exact ih (c + 1) f1 f2 c x (by omega) (by omega) (by omega) (by omega) (by omega)
theorem m_test {M : ZM} (hJ : JJ M) : Ag (f_X11_test 0 M) (f_X12_test 50) := by
  unfold f_X11_test
  refine qAg (fun x => x) hJ (fun N => by simp only [zletE]; rw [if_neg (by decide)]) (fun N h => ?_) (fun ws tp od a1 a2 im rf N hp hc hr hL hm => ?_)
  · unfold f_X12_test
    rw [if_pos h]
  · show Ag (if ((0 : Int32), N).1 = 0 then _ else _) _
    rw [if_pos rfl]
    obtain ⟨x, hx, ex1, ex2⟩ := dif_ok (cn_le ws 0 (Ny ws 0 ws.length)) hm
    obtain ⟨f, hf⟩ : ∃ f, zN = f + 1 := ⟨zN - 1, by unfold zN; omega⟩
    have hf' : f = 99999 := by unfold zN at hf; omega
    obtain ⟨z, e1, e2⟩ := test_lo hL hr hm 31 1 f f 0 x (by omega) (by omega) (by omega) (by omega) (by omega)
    have h32 : ¬ (32 : Int32) ≤ nI 0 := by decide +kernel
    refine okAg hp hc hr (N1 := N) (a := z) ?_ (Fr_rf _ _) (P := N) ?_ (Fs_rf _)
    · unfold f_X2_evenestCase
      simp only [zletE]
      rw [show zr 0 5 = 19 by decide +kernel, hL.1, nI_s, hf, ← nI0, f_X2_evenestCase_11, if_neg h32, letA_ok hL hm (by omega), bindE, hL.1]
      simp only [zletE]
      rw [ex1, if_neg (by rw [nI_le' (by omega) (by omega)]; omega), nI_s, e1, bindE]
    · unfold f_X12_test
      rw [if_neg (L29_t hr hm), hf, ← nI0, f_X12_test_21]
      simp only [zletE]
      rw [if_neg h32, letO_ok hr hm (by omega), bindE, L26 hr hm, if_pos (show (-9 : Int32) < 0 by decide), if_pos (show (-9 : Int32) < 0 by decide), nI_s]
      by_cases q : (0 : Int32) ≤ 2 * nI (cn ws 0 (Ny ws 0 ws.length)) - nI (Ny ws 0 ws.length)
      · rw [if_pos q] at ex2; rw [if_pos q, ex2]; exact e2
      · rw [if_neg q] at ex2; rw [if_neg q, ex2]; exact e2
/-- what a reading serves -/
def sw (a1 a2 : List Int32) (x : Int64) : Nat → Int32
  | 0 => 0
  | i + 1 => sw a1 a2 x i + (if lb x (wa a1 i).toNatClampNeg = true then wa a2 i else 0)
theorem wa_mem {l : List Int32} {i : Nat} (h : i < l.length) : wa l i ∈ l := by
  unfold wa
  rw [List.getD_eq_getElem?_getD, List.getElem?_eq_getElem h]
  exact List.getElem_mem h
theorem servA {ws tp od a1 a2 : List Int32} {im : zI} {rf : Nat → Int32} {N : ZM} (hp : PS ws tp od a1 a2 im) (hc : CI ws tp od a1 a2 im rf N) (x : Int64) : ∀ k i fuel, i + k = a1.length → k < fuel → f_X0_servedBy_5 38 x N (fun (v3 : Int32) => some v3) fuel (sw a1 a2 x i) (nI i) = some (sw a1 a2 x a1.length) := by
  have ha := hp.2.2.2.1
  have h4 := hc.2.2.2.1
  have h5 := hc.2.2.2.2.1
  intro k
  induction k with
  | zero =>
    intro i fuel hi hf
    obtain ⟨fuel, rfl⟩ : ∃ m, fuel = m + 1 := ⟨fuel - 1, by omega⟩
    rw [f_X0_servedBy_5, h4.1, if_pos (by have := ha.1; rw [nI_le' (by omega) (by omega)]; omega), show i = a1.length by omega]
  | succ k ih =>
    intro i fuel hi hf
    have h8 := ha.1
    have hl := ha.2.1
    obtain ⟨fuel, rfl⟩ : ∃ m, fuel = m + 1 := ⟨fuel - 1, by omega⟩
    obtain ⟨c, hc32, ec⟩ := ha.2.2 _ (wa_mem (show i < a1.length by omega))
    rw [f_X0_servedBy_5, h4.1, if_neg (by rw [nI_le' (by omega) (by omega)]; omega)]
    simp only [zletE]
    rw [show zr 38 0 = 39 by decide +kernel, show zr 38 1 = 40 by decide +kernel, look_nI (t := 39) (by rw [show zn 39 = 8 by decide +kernel]; omega) (by omega), look_nI (t := 40) (by rw [show zn 40 = 8 by decide +kernel]; omega) (by omega), h4.2 i (by omega), h5.2 i (by omega), ec, bitL hc32, nI_s]
    have e := ih (i + 1) fuel (by omega) (by omega)
    rw [sw, ec, nI_tn (by omega)] at e
    cases h : lb x c with
    | true => rw [h, if_pos rfl] at e; rw [if_pos rfl, Int32.mul_one]; exact e
    | false => rw [h, if_neg (by decide)] at e; rw [if_neg (by decide), Int32.mul_zero]; exact e
theorem servA_ok {ws tp od a1 a2 : List Int32} {im : zI} {rf : Nat → Int32} {N : ZM} (hp : PS ws tp od a1 a2 im) (hc : CI ws tp od a1 a2 im rf N) (x : Int64) : f_X0_servedBy 38 x N = some (sw a1 a2 x a1.length) := by
  have := servA hp hc x a1.length 0 zN (by omega) (by have := hp.2.2.2.1.1; unfold zN; omega)
  rw [nI0, sw] at this
  exact this
theorem servO {ws tp od a1 a2 : List Int32} {im : zI} {rf : Nat → Int32} {N : ZM} (hp : PS ws tp od a1 a2 im) (hr : RI ws tp od a1 a2 im rf N) (hm : Ny ws 0 ws.length ≤ 200) {r : Nat} (hr0 : r < Ny ws 0 ws.length) : ∀ k i fuel, i + k = a1.length → k < fuel → f_X12_servesBy_4 50 (nI r) N (fun (v2 : Int32) => some v2) fuel (sw a1 a2 (Me ws r) i) (nI i) = some (sw a1 a2 (Me ws r) a1.length) := by
  have ha := hp.2.2.2.1
  have h4 := hr.2.2.2.1
  have h5 := hr.2.2.2.2.1
  intro k
  induction k with
  | zero =>
    intro i fuel hi hf
    obtain ⟨fuel, rfl⟩ : ∃ m, fuel = m + 1 := ⟨fuel - 1, by omega⟩
    rw [f_X12_servesBy_4, h4.1, if_pos (by have := ha.1; rw [nI_le' (by omega) (by omega)]; omega), show i = a1.length by omega]
  | succ k ih =>
    intro i fuel hi hf
    have h8 := ha.1
    have hl := ha.2.1
    obtain ⟨fuel, rfl⟩ : ∃ m, fuel = m + 1 := ⟨fuel - 1, by omega⟩
    obtain ⟨c, hc32, ec⟩ := ha.2.2 _ (wa_mem (show i < a1.length by omega))
    have z55 : zin (nI i) (zn 55) = true := by rw [show zn 55 = 8 by decide +kernel]; exact zin_t (by omega) (by omega)
    have z56 : zin (nI i) (zn 56) = true := by rw [show zn 56 = 8 by decide +kernel]; exact zin_t (by omega) (by omega)
    rw [f_X12_servesBy_4, h4.1, if_neg (by rw [nI_le' (by omega) (by omega)]; omega)]
    simp only [zletE]
    rw [show zr 50 4 = 55 by decide +kernel, show zr 50 5 = 56 by decide +kernel, zckT z55, zckT z56, nI_tn (by omega), h4.2 i (by omega), h5.2 i (by omega), ec, doesL (by omega) hc32, bindE, (LRr hr hm hr0).2.2.1, nI_s]
    have e := ih (i + 1) fuel (by omega) (by omega)
    rw [sw, ec, nI_tn (by omega)] at e
    cases h : lb (Me ws r) c with
    | true => rw [h, if_pos rfl] at e; rw [if_neg (by decide)]; exact e
    | false => rw [h, if_neg (by decide)] at e; rw [if_pos (by decide)]; exact e
theorem servO_ok {ws tp od a1 a2 : List Int32} {im : zI} {rf : Nat → Int32} {N : ZM} (hp : PS ws tp od a1 a2 im) (hr : RI ws tp od a1 a2 im rf N) (hm : Ny ws 0 ws.length ≤ 200) {r : Nat} (hr0 : r < Ny ws 0 ws.length) : f_X12_servesBy 50 (nI r) N = some (sw a1 a2 (Me ws r) a1.length) := by
  have := servO hp hr hm hr0 a1.length 0 zN (by omega) (by have := hp.2.2.2.1.1; unfold zN; omega)
  rw [nI0, sw] at this
  exact this
theorem m_serves (v : Int32) {M : ZM} (hJ : JJ M) : Ag (f_X11_serves 0 v M) (f_X12_serves 50 v) := by
  unfold f_X11_serves
  refine qAg (fun x => 1000000000 - x) hJ (fun N => by simp only [zletE]; rw [if_neg (by decide)]) (fun N h => ?_) (fun ws tp od a1 a2 im rf N hp hc hr hL hm => ?_)
  · unfold f_X12_serves f_X12_wrong
    rw [if_pos h, zletE, if_neg (by decide)]
  · show Ag (if ((0 : Int32), N).1 = 0 then _ else _) _
    rw [if_pos rfl]
    simp only [zletE]
    rcases in_or (Ny ws 0 ws.length) (by omega) v with ⟨r, hr0, rfl⟩ | hv
    · rw [noR_t hL hm hr0, if_pos rfl, show zr 0 5 = 19 by decide +kernel, show zr 0 11 = 38 by decide +kernel, mea_ok hL hm hr0, servA_ok hp hc, bindE]
      refine okAg hp hc hr rfl (Fr_rf _ _) (P := N) ?_ (Fs_rf _)
      unfold f_X12_serves
      rw [wrong_t hr hm hr0, zletE, if_pos rfl, servO_ok hp hr hm hr0, bindE]
    · rw [noR_f hL hv, if_neg (by decide)]
      refine refAg (fun x => 1000000000 - x) hp hc hr (k := 1) (by decide +kernel) (by omega) (fun N' r' => ?_)
      unfold f_X12_serves
      rw [wrong_f r' hm hv, zletE, if_neg (by decide)]
theorem best_lo {ws tp od a1 a2 : List Int32} {im : zI} {rf : Nat → Int32} {N : ZM} (hp : PS ws tp od a1 a2 im) (hc : CI ws tp od a1 a2 im rf N) (hL : LM ws N) (hr : RI ws tp od a1 a2 im rf N) (hm : Ny ws 0 ws.length ≤ 200) : ∀ k i f1 f2 b, i + k = Ny ws 0 ws.length → k < f1 → k < f2 → b < Ny ws 0 ws.length → ∃ z, f_X11_best_18 0 (fun (v1 : Int32) (M : ZM) => some (v1, M)) f1 (nI b) (nI i) N = some (z, N) ∧ f_X12_best_18 50 (fun (v1 : Int32) (M : ZM) => some (v1, M)) f2 (nI b) (nI i) N = some (z, N) := by
  intro k
  induction k with
  | zero =>
    intro i f1 f2 b hi hf hf2 hb
    obtain ⟨f1, rfl⟩ : ∃ m, f1 = m + 1 := ⟨f1 - 1, by omega⟩
    obtain ⟨f2, rfl⟩ : ∃ m, f2 = m + 1 := ⟨f2 - 1, by omega⟩
    rw [f_X11_best_18, f_X12_best_18, zletE, show zr 0 5 = 19 by decide +kernel, show f_X2_size 19 N = nI (Ny ws 0 ws.length) from hL.1, L26 hr hm, if_pos (show nI (Ny ws 0 ws.length) ≤ nI i by rw [nI_le' (by omega) (by omega)]; omega), if_pos (show nI (Ny ws 0 ws.length) ≤ nI i by rw [nI_le' (by omega) (by omega)]; omega)]
    exact ⟨nI b, rfl, rfl⟩
  | succ k ih =>
    intro i f1 f2 b hi hf hf2 hb
    obtain ⟨f1, rfl⟩ : ∃ m, f1 = m + 1 := ⟨f1 - 1, by omega⟩
    obtain ⟨f2, rfl⟩ : ∃ m, f2 = m + 1 := ⟨f2 - 1, by omega⟩
    rw [f_X11_best_18, f_X12_best_18, zletE, show zr 0 5 = 19 by decide +kernel, show zr 0 11 = 38 by decide +kernel, show f_X2_size 19 N = nI (Ny ws 0 ws.length) from hL.1, L26 hr hm, if_neg (show ¬ nI (Ny ws 0 ws.length) ≤ nI i by rw [nI_le' (by omega) (by omega)]; omega), if_neg (show ¬ nI (Ny ws 0 ws.length) ≤ nI i by rw [nI_le' (by omega) (by omega)]; omega)]
    simp only [zletE]
    rw [mea_ok hL hm (show i < Ny ws 0 ws.length by omega), mea_ok hL hm hb, servA_ok hp hc, bindE, servA_ok hp hc, bindE, servO_ok hp hr hm (show i < Ny ws 0 ws.length by omega), bindE, servO_ok hp hr hm hb, bindE, nI_s]
    by_cases q : sw a1 a2 (Me ws i) a1.length ≤ sw a1 a2 (Me ws b) a1.length
    · rw [if_pos q, if_pos q]
      exact ih (i + 1) f1 f2 b (by omega) (by omega) (by omega) hb
    · rw [if_neg q, if_neg q]
      exact ih (i + 1) f1 f2 i (by omega) (by omega) (by omega) (by omega)
theorem m_best {M : ZM} (hJ : JJ M) : Ag (f_X11_best 0 M) (f_X12_best 50) := by
  unfold f_X11_best
  refine qAg (fun x => x) hJ (fun N => by simp only [zletE]; rw [if_neg (by decide)]) (fun N h => ?_) (fun ws tp od a1 a2 im rf N hp hc hr hL hm => ?_)
  · unfold f_X12_best
    rw [if_pos h]
  · show Ag (if ((0 : Int32), N).1 = 0 then _ else _) _
    rw [if_pos rfl]
    have h0 := okw_pos hp.1
    obtain ⟨z, e1, e2⟩ := best_lo hp hc hL hr hm (Ny ws 0 ws.length - 1) 1 zN zN 0 (by omega) (by unfold zN; omega) (by unfold zN; omega) h0
    rw [nI0, show nI 1 = 1 from rfl] at e1 e2
    refine okAg hp hc hr (N1 := N) (a := z) e1 (Fr_rf _ _) (P := N) ?_ (Fs_rf _)
    unfold f_X12_best
    rw [if_neg (L29_t hr hm), e2]
theorem quar_lo {ws tp od a1 a2 : List Int32} {im : zI} {rf : Nat → Int32} {N : ZM} (hL : LM ws N) (hr : RI ws tp od a1 a2 im rf N) (hm : Ny ws 0 ws.length ≤ 200) {a b : Nat} (ha : a < 6) (hb : b < 6) : ∀ k i f1 f2 x y, i + k = Ny ws 0 ws.length → k < f1 → k < f2 → ∃ z, f_X2_areAtOdds_8 19 (nI a) (nI b) N (fun (v3 : Int32) (v4 : Int32) =>
    if v3 = 0 then (
      some (0 : Int32)) else (
      if v4 = 0 then (
        some (0 : Int32)) else (
        some (1 : Int32)))) f1 (bi x) (bi y) (nI i) = some (bi z) ∧ f_X12_quarrel_60 50 (nI a) (nI b) (fun (v4 : Int32) (v5 : Int32) (M : ZM) =>
        if v4 = 0 then (
          some ((0 : Int32), M)) else (
          if v5 = 0 then (
            some ((0 : Int32), M)) else (
            some ((1 : Int32), M)))) f2 (bi x) (bi y) (nI i) N = some (bi z, N) := by
  intro k
  induction k with
  | zero =>
    intro i f1 f2 x y hi hf hf2
    obtain ⟨f1, rfl⟩ : ∃ m, f1 = m + 1 := ⟨f1 - 1, by omega⟩
    obtain ⟨f2, rfl⟩ : ∃ m, f2 = m + 1 := ⟨f2 - 1, by omega⟩
    rw [f_X2_areAtOdds_8, f_X12_quarrel_60]
    simp only [zletE]
    rw [hL.1, L26 hr hm, if_pos (show nI (Ny ws 0 ws.length) ≤ nI i by rw [nI_le' (by omega) (by omega)]; omega), if_pos (show nI (Ny ws 0 ws.length) ≤ nI i by rw [nI_le' (by omega) (by omega)]; omega)]
    refine ⟨x && y, ?_, ?_⟩ <;> cases x <;> cases y <;> rfl
  | succ k ih =>
    intro i f1 f2 x y hi hf hf2
    obtain ⟨f1, rfl⟩ : ∃ m, f1 = m + 1 := ⟨f1 - 1, by omega⟩
    obtain ⟨f2, rfl⟩ : ∃ m, f2 = m + 1 := ⟨f2 - 1, by omega⟩
    have hi0 : i < Ny ws 0 ws.length := by omega
    rw [f_X2_areAtOdds_8, f_X12_quarrel_60]
    simp only [zletE]
    rw [hL.1, L26 hr hm, if_neg (show ¬ nI (Ny ws 0 ws.length) ≤ nI i by rw [nI_le' (by omega) (by omega)]; omega), if_neg (show ¬ nI (Ny ws 0 ws.length) ≤ nI i by rw [nI_le' (by omega) (by omega)]; omega), isMet_ok hL hm hi0 ha, isMet_ok hL hm hi0 hb, z66, zckT (i66 (by omega)), zckT (i66 (by omega)), zckT (i66 (by omega)), nI_tn (by omega), (LRr hr hm hi0).2.2.2.1, bitC (by omega), bitC (by omega), nI_s]
    rw [show lc (Mt ws i) a = mt ws i a from rfl, show lc (Mt ws i) b = mt ws i b from rfl]
    have t := fun x y => ih (i + 1) f1 f2 x y (by omega) (by omega) (by omega)
    cases ea : mt ws i a <;> cases eb : mt ws i b
    · have := t x y
      cases x <;> cases y <;> exact this
    · have := t x true
      cases x <;> cases y <;> exact this
    · have := t true y
      cases x <;> cases y <;> exact this
    · exact ⟨false, rfl, rfl⟩
theorem m_quarrel (v w : Int32) {M : ZM} (hJ : JJ M) : Ag (f_X11_quarrel 0 v w M) (f_X12_quarrel 50 v w) := by
  unfold f_X11_quarrel
  refine qAg (fun x => x) hJ (fun N => by simp only [zletE]; rw [if_neg (by decide)]) (fun N h => ?_) (fun ws tp od a1 a2 im rf N hp hc hr hL hm => ?_)
  · unfold f_X12_quarrel
    simp only [zletE]
    rw [if_pos h, if_neg (by decide)]
  · show Ag (if ((0 : Int32), N).1 = 0 then _ else _) _
    rw [if_pos rfl]
    simp only [zletE]
    rcases in_or 6 (by omega) v with ⟨a, ha, rfl⟩ | hv
    · rw [noU_t ha, if_pos rfl]
      rcases in_or 6 (by omega) w with ⟨b, hb, rfl⟩ | hw
      · rw [noU_t hb, if_pos rfl]
        by_cases q : nI a = nI b
        · rw [if_pos q]
          refine refAg (fun x => x) hp hc hr (k := 1) (by decide +kernel) (by omega) (fun N' r' => ?_)
          unfold f_X12_quarrel
          simp only [zletE]
          rw [if_neg (L29_t r' hm), show (6 : Int32) = nI 6 from rfl, isIn_t ha (by omega), if_neg (by decide), isIn_t hb (by omega), if_neg (by decide), if_pos q, if_neg (by decide)]
        · rw [if_neg q]
          obtain ⟨z, e1, e2⟩ := quar_lo hL hr hm ha hb (Ny ws 0 ws.length) 0 zN zN false false (by omega) (by unfold zN; omega) (by unfold zN; omega)
          rw [nI0, show bi false = 0 from rfl] at e1 e2
          refine okAg hp hc hr (N1 := N) (a := bi z) ?_ (Fr_rf _ _) (P := N) ?_ (Fs_rf _)
          · unfold f_X2_areAtOdds
            rw [show zr 0 5 = 19 by decide +kernel, e1, bindE]
            cases z <;> rfl
          · unfold f_X12_quarrel
            simp only [zletE]
            rw [if_neg (L29_t hr hm), show (6 : Int32) = nI 6 from rfl, isIn_t ha (by omega), if_neg (by decide), isIn_t hb (by omega), if_neg (by decide), if_neg q, if_pos trivial, e2]
      · rw [noU_f hw, if_neg (by decide)]
        refine refAg (fun x => x) hp hc hr (k := 1) (by decide +kernel) (by omega) (fun N' r' => ?_)
        unfold f_X12_quarrel
        simp only [zletE]
        rw [if_neg (L29_t r' hm), show (6 : Int32) = nI 6 from rfl, isIn_t ha (by omega), if_neg (by decide), isIn_f hw, if_pos rfl, if_neg (by decide)]
    · rw [noU_f hv, if_neg (by decide)]
      refine refAg (fun x => x) hp hc hr (k := 1) (by decide +kernel) (by omega) (fun N' r' => ?_)
      unfold f_X12_quarrel
      simp only [zletE]
      rw [if_neg (L29_t r' hm), show (6 : Int32) = nI 6 from rfl, isIn_f hv, if_pos rfl, if_neg (by decide)]
