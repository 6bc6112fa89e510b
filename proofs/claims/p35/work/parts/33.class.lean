theorem LH_q {M N : ZM} {c f r : Nat} {l : List Int32} (h : LH M c f r l) (h1 : N.1 c f = M.1 c f) (h2 : N.1 r = M.1 r) : LH N c f r l := ⟨h1.trans h.1, fun k hk => by rw [h2]; exact h.2 k hk⟩
theorem CI_r {ws tp od a1 a2 : List Int32} {im : zI} {rf : Nat → Int32} {M N : ZM} (h : CI ws tp od a1 a2 im rf M) (hF : Fr r50 M N) : CI ws tp od a1 a2 im rf N := by
  obtain ⟨h1, h2, h3, h4, h5, h6, h7, h8, h9, hA, hB⟩ := h
  refine ⟨WH_Fr h1 hF (by decide) (by decide +kernel), WH_Fr h2 hF (by decide) (by decide +kernel), LH_Fr h3 hF (by decide) (by decide), LH_Fr h4 hF (by decide) (by decide), LH_Fr h5 hF (by decide) (by decide), fun k hk => by rw [Fr_1 hF (by decide)]; exact h6 k hk, by rw [Fr_1 hF (by decide)]; exact h7, fun q hq => ?_, fun i hi => by rw [Fr_2 hF (by decide)]; exact h9 i hi, fun i j hi hj' => ⟨by rw [Fr_2 hF (by decide)]; exact (hA i j hi hj').1, by rw [Fr_2 hF (by decide)]; exact (hA i j hi hj').2⟩, ?_⟩
  · have := h8 q hq
    exact ⟨WH_Fr this.1 hF (by decide) (by decide +kernel), LH_Fr this.2.1 hF (by decide) (by decide), LH_Fr this.2.2.1 hF (by decide) (by decide), LH_Fr this.2.2.2 hF (by decide) (by decide)⟩
  · rcases hB with hB | hB
    · left; rw [Fr_1 hF (by decide)]; exact hB
    · right
      exact ⟨by rw [Fr_1 hF (by decide)]; exact hB.1, hB.2.1, LM_Fr hB.2.2 hF (by decide) (by decide) (by decide) (by decide)⟩
/-- a number in a row, or not -/
theorem in_or (m : Nat) (hm : m < 2147483648) (v : Int32) : (∃ r, r < m ∧ v = nI r) ∨ (v < 0 ∨ nI m ≤ v) := by
  by_cases h : v < 0
  · exact Or.inr (Or.inl h)
  · obtain ⟨e, hb⟩ := v_nI h
    by_cases q : v.toNatClampNeg < m
    · exact Or.inl ⟨_, q, e⟩
    · refine Or.inr (Or.inr ?_)
      rw [e, nI_le' hm hb]
      omega
theorem noR_t {ws : List Int32} {N : ZM} (hL : LM ws N) (hm : Ny ws 0 ws.length ≤ 200) {r : Nat} (h : r < Ny ws 0 ws.length) : f_X11_noReading 0 (nI r) N = 0 := by
  unfold f_X11_noReading
  rw [if_neg (nI_nn (by omega)), zletE, show zr 0 5 = 19 by decide +kernel, show f_X2_size 19 N = nI (Ny ws 0 ws.length) from hL.1, if_pos (by rw [nJ_lt (by omega) (by omega)]; omega)]
theorem noR_f {ws : List Int32} {N : ZM} (hL : LM ws N) {v : Int32} (h : v < 0 ∨ nI (Ny ws 0 ws.length) ≤ v) : f_X11_noReading 0 v N = 1 := by
  unfold f_X11_noReading
  by_cases q : v < 0
  · rw [if_pos q]
  · rw [if_neg q, zletE, show zr 0 5 = 19 by decide +kernel, show f_X2_size 19 N = nI (Ny ws 0 ws.length) from hL.1, if_neg (Int32.not_lt.mpr (h.resolve_left q))]
theorem noC_t {c : Nat} (h : c < 32) (N : ZM) : f_X11_noCase (nI c) N = 0 := by
  unfold f_X11_noCase
  rw [if_neg (nI_nn (by omega)), if_pos (by rw [show (32 : Int32) = nI 32 from rfl, nJ_lt (by omega) (by omega)]; omega)]
theorem noC_f {v : Int32} (h : v < 0 ∨ nI 32 ≤ v) (N : ZM) : f_X11_noCase v N = 1 := by
  unfold f_X11_noCase
  by_cases q : v < 0
  · rw [if_pos q]
  · rw [if_neg q, show (32 : Int32) = nI 32 from rfl, if_neg (Int32.not_lt.mpr (h.resolve_left q))]
theorem noU_t {c : Nat} (h : c < 6) (N : ZM) : f_X11_noRule (nI c) N = 0 := by
  unfold f_X11_noRule
  rw [if_neg (nI_nn (by omega)), if_pos (by rw [show (6 : Int32) = nI 6 from rfl, nJ_lt (by omega) (by omega)]; omega)]
theorem noU_f {v : Int32} (h : v < 0 ∨ nI 6 ≤ v) (N : ZM) : f_X11_noRule v N = 1 := by
  unfold f_X11_noRule
  by_cases q : v < 0
  · rw [if_pos q]
  · rw [if_neg q, show (6 : Int32) = nI 6 from rfl, if_neg (Int32.not_lt.mpr (h.resolve_left q))]
/-! bits -/
theorem lb1 : ∀ k, k < 64 → lb 1 k = decide (k = 0) := by decide +kernel
theorem and1 (y : Int64) : y &&& 1 = if lb y 0 = true then 1 else 0 := by
  apply lb_ext
  intro k hk
  rw [lb_and, lb1 k hk]
  by_cases q : k = 0
  · subst q
    cases h : lb y 0 with
    | true => rw [if_pos rfl, lb1 0 (by omega)]; rfl
    | false => rw [if_neg (by decide), lb_0]; rfl
  · rw [decide_eq_false q, Bool.and_false]
    cases h : lb y 0 with
    | true => rw [if_pos rfl, lb1 k hk, decide_eq_false q]
    | false => rw [if_neg (by decide), lb_0]
theorem shU : ∀ c, c < 32 → ((((nI c).toInt64.toUInt64 &&& Int64.toUInt64 63).toBitVec % 64).toNat = c) := by decide +kernel
theorem bitL {x : Int64} {c : Nat} (h : c < 32) (M : ZM) : f_X11_bit x (nI c) M = if lb x c = true then 1 else 0 := by
  unfold f_X11_bit
  rw [and1]
  have e : lb ((x.toUInt64 >>> ((nI c).toInt64.toUInt64 &&& Int64.toUInt64 63)).toInt64) 0 = lb x c := by
    show (x.toUInt64 >>> ((nI c).toInt64.toUInt64 &&& Int64.toUInt64 63)).toBitVec.getLsbD 0 = x.toBitVec.getLsbD c
    rw [UInt64.toBitVec_shiftRight, BitVec.ushiftRight_eq', BitVec.getLsbD_ushiftRight, shU c h, Nat.add_zero]
    rfl
  rw [e]
  split <;> decide
/-- a bit of an int -/
def lc (x : Int32) (k : Nat) : Bool := x.toBitVec.getLsbD k
theorem lc_ext {x y : Int32} (h : ∀ k, k < 32 → lc x k = lc y k) : x = y := Int32.toBitVec_inj.mp (BitVec.eq_of_getLsbD_eq h)
theorem lc_and (x y : Int32) (k : Nat) : lc (x &&& y) k = (lc x k && lc y k) := by unfold lc; rw [Int32.toBitVec_and, BitVec.getLsbD_and]
theorem lc_or (x y : Int32) (k : Nat) : lc (x ||| y) k = (lc x k || lc y k) := by unfold lc; rw [Int32.toBitVec_or, BitVec.getLsbD_or]
theorem lc_0 (k : Nat) : lc 0 k = false := by
  show (BitVec.ofNat 32 0).getLsbD k = false
  rw [BitVec.getLsbD_ofNat, Nat.zero_testBit, Bool.and_false]
theorem lc1 : ∀ k, k < 32 → lc 1 k = decide (k = 0) := by decide +kernel
theorem lb_lc {x : Int32} {c : Nat} (h : c < 32) : lb x.toInt64 c = lc x c := by
  show x.toInt64.toBitVec.getLsbD c = x.toBitVec.getLsbD c
  rw [show x.toInt64.toBitVec = x.toBitVec.signExtend 64 from rfl, BitVec.getLsbD_signExtend, if_pos h, decide_eq_true (by omega), Bool.true_and]
/-- which rules are met -/
noncomputable def mt (ws : List Int32) (r k : Nat) : Bool := lc (Mt ws r) k
theorem isMet_ok {ws : List Int32} {N : ZM} (hL : LM ws N) (hm : Ny ws 0 ws.length ≤ 200) {r k : Nat} (hr : r < Ny ws 0 ws.length) (hk : k < 6) : f_X2_isMet 19 (nI r) (nI k) N = if mt ws r k = true then 1 else 0 := by
  unfold f_X2_isMet
  simp only [zletE]
  rw [show zr 19 3 = 26 by decide +kernel, look_nI (by rw [show zn 26 = 200 by decide +kernel]; omega) (by omega), (hL.2 r hr).2.2, bitL (by omega), lb_lc (by omega)]
  unfold mt
  split
  · rw [if_pos rfl]
  · rw [if_neg (by decide)]
theorem mea_ok {ws : List Int32} {N : ZM} (hL : LM ws N) (hm : Ny ws 0 ws.length ≤ 200) {r : Nat} (hr : r < Ny ws 0 ws.length) : f_X2_meaning 19 (nI r) N = Me ws r := by
  unfold f_X2_meaning
  rw [zletE, show zr 19 1 = 24 by decide +kernel, lookl_nI (by rw [show zn 24 = 200 by decide +kernel]; omega) (by omega), (hL.2 r hr).1]
theorem idl_ok {ws : List Int32} {N : ZM} (hL : LM ws N) (hm : Ny ws 0 ws.length ≤ 200) {r : Nat} (hr : r < Ny ws 0 ws.length) : f_X2_idlePlaces 19 (nI r) N = Ix ws r := by
  unfold f_X2_idlePlaces
  rw [zletE, show zr 19 2 = 25 by decide +kernel, look_nI (by rw [show zn 25 = 200 by decide +kernel]; omega) (by omega), (hL.2 r hr).2.1]
theorem sc_t : ∀ b, b ∈ tcs → b ∈ sc1 := by decide
/-- how many of the first readings let a case -/
noncomputable def cn (ws : List Int32) (c : Nat) : Nat → Nat
  | 0 => 0
  | i + 1 => cn ws c i + (if lb (Me ws i) c = true then 1 else 0)
theorem cn_le (ws : List Int32) (c : Nat) : ∀ i, cn ws c i ≤ i := by
  intro i
  induction i with
  | zero => exact Nat.le_refl _
  | succ i ih => rw [cn]; split <;> omega
theorem letA4 {ws : List Int32} {N : ZM} (hL : LM ws N) (hm : Ny ws 0 ws.length ≤ 200) {c : Nat} (hc : c < 32) : ∀ k i fuel, i + k = Ny ws 0 ws.length → k < fuel → f_X2_lettingAt_4 19 (nI c) N (fun (v2 : Int32) => some v2) fuel (nI (cn ws c i)) (nI i) = some (nI (cn ws c (Ny ws 0 ws.length))) := by
  intro k
  induction k with
  | zero =>
    intro i fuel hi hf
    obtain ⟨fuel, rfl⟩ : ∃ m, fuel = m + 1 := ⟨fuel - 1, by omega⟩
    rw [f_X2_lettingAt_4, hL.1, if_pos (by rw [nI_le' (by omega) (by omega)]; omega), show i = Ny ws 0 ws.length by omega]
  | succ k ih =>
    intro i fuel hi hf
    obtain ⟨fuel, rfl⟩ : ∃ m, fuel = m + 1 := ⟨fuel - 1, by omega⟩
    rw [f_X2_lettingAt_4, hL.1, if_neg (by rw [nI_le' (by omega) (by omega)]; omega)]
    simp only [zletE]
    rw [mea_ok hL hm (by omega), bitL hc, nI_s]
    have e := ih (i + 1) fuel (by omega) (by omega)
    rw [cn] at e
    cases h : lb (Me ws i) c with
    | true => rw [h, if_pos rfl] at e; rw [if_pos rfl, nI_s]; exact e
    | false => rw [h, if_neg (by decide)] at e; rw [if_neg (by decide), Int32.add_zero]; exact e
theorem letA_ok {ws : List Int32} {N : ZM} (hL : LM ws N) (hm : Ny ws 0 ws.length ≤ 200) {c : Nat} (hc : c < 32) : f_X2_lettingAt 19 (nI c) N = some (nI (cn ws c (Ny ws 0 ws.length))) := by
  have := letA4 hL hm hc (Ny ws 0 ws.length) 0 zN (by omega) (by unfold zN; omega)
  rw [cn, nI0] at this
  exact this
theorem neg_k : ∀ k, k < 201 → 0 < k → ¬ (0 : Int32) ≤ -(nI k) := by decide +kernel
theorem dif_ok {l m : Nat} (hl : l ≤ m) (hm : m ≤ 200) : ∃ d, d ≤ m ∧ zabs (2 * nI l - nI m) = nI d ∧ (if (0 : Int32) ≤ 2 * nI l - nI m then 2 * nI l - nI m else -(2 * nI l - nI m)) = nI d := by
  rw [show (2 : Int32) = nI 2 from rfl, nI_mul]
  by_cases q : m ≤ 2 * l
  · refine ⟨2 * l - m, by omega, ?_, ?_⟩
    · unfold zabs
      rw [nI_sub q, if_pos (nI_pos' (by omega))]
    · rw [nI_sub q, if_pos (nI_pos' (by omega))]
  · have e : nI (2 * l) - nI m = -(nI (m - 2 * l)) := by rw [← nI_sub (by omega), Int32.neg_sub]
    refine ⟨m - 2 * l, by omega, ?_, ?_⟩
    · unfold zabs
      rw [e, if_neg (neg_k _ (by omega) (by omega)), Int32.zero_sub, Int32.neg_neg]
    · rw [e, if_neg (neg_k _ (by omega) (by omega)), Int32.neg_neg]
/-- what a reading serves -/
def sw (a1 a2 : List Int32) (x : Int64) : Nat → Int32
  | 0 => 0
  | i + 1 => sw a1 a2 x i + (if lb x (wa a1 i).toNatClampNeg = true then wa a2 i else 0)
theorem wa_mem {l : List Int32} {i : Nat} (h : i < l.length) : wa l i ∈ l := by
  unfold wa
  rw [List.getD_eq_getElem?_getD, List.getElem?_eq_getElem h]
  exact List.getElem_mem h
theorem servA {ws tp od a1 a2 : List Int32} {im : zI} {rf : Nat → Int32} {N : ZM} (hp : PS ws tp od a1 a2 im) (hc : CI ws tp od a1 a2 im rf N) (x : Int64) : ∀ k i fuel, i + k = a1.length → k < fuel → f_X0_servedBy_5 38 x N (fun (v3 : Int32) => some v3) fuel (sw a1 a2 x i) (nI i) = some (sw a1 a2 x a1.length) := by
  have ha := hp.2.2.2.1
  have h4 := hc.2.2.2.1
  have h5 := hc.2.2.2.2.1
  intro k
  induction k with
  | zero =>
    intro i fuel hi hf
    obtain ⟨fuel, rfl⟩ : ∃ m, fuel = m + 1 := ⟨fuel - 1, by omega⟩
    rw [f_X0_servedBy_5, h4.1, if_pos (by have := ha.1; rw [nI_le' (by omega) (by omega)]; omega), show i = a1.length by omega]
  | succ k ih =>
    intro i fuel hi hf
    have h8 := ha.1
    have hl := ha.2.1
    obtain ⟨fuel, rfl⟩ : ∃ m, fuel = m + 1 := ⟨fuel - 1, by omega⟩
    obtain ⟨c, hc32, ec⟩ := ha.2.2 _ (wa_mem (show i < a1.length by omega))
    rw [f_X0_servedBy_5, h4.1, if_neg (by rw [nI_le' (by omega) (by omega)]; omega)]
    simp only [zletE]
    rw [show zr 38 0 = 39 by decide +kernel, show zr 38 1 = 40 by decide +kernel, look_nI (t := 39) (by rw [show zn 39 = 8 by decide +kernel]; omega) (by omega), look_nI (t := 40) (by rw [show zn 40 = 8 by decide +kernel]; omega) (by omega), h4.2 i (by omega), h5.2 i (by omega), ec, bitL hc32, nI_s]
    have e := ih (i + 1) fuel (by omega) (by omega)
    rw [sw, ec, nI_tn (by omega)] at e
    cases h : lb x c with
    | true => rw [h, if_pos rfl] at e; rw [if_pos rfl, Int32.mul_one]; exact e
    | false => rw [h, if_neg (by decide)] at e; rw [if_neg (by decide), Int32.mul_zero]; exact e
theorem servA_ok {ws tp od a1 a2 : List Int32} {im : zI} {rf : Nat → Int32} {N : ZM} (hp : PS ws tp od a1 a2 im) (hc : CI ws tp od a1 a2 im rf N) (x : Int64) : f_X0_servedBy 38 x N = some (sw a1 a2 x a1.length) := by
  have := servA hp hc x a1.length 0 zN (by omega) (by have := hp.2.2.2.1.1; unfold zN; omega)
  rw [nI0, sw] at this
  exact this
theorem CI_tp {ws tp od a1 a2 : List Int32} {im : zI} {rf : Nat → Int32} {M N : ZM} (h : CI ws tp od a1 a2 im rf M) (hF : Fr [1, 2] M N) {tp' : List Int32} (g : WH N 1 tp') : CI ws tp' od a1 a2 im rf N := by
  obtain ⟨h1, h2, h3, h4, h5, h6, h7, h8, h9, hA, hB⟩ := h
  exact ⟨g, WH_Fr h2 hF (by decide) (by decide +kernel), LH_Fr h3 hF (by decide) (by decide), LH_Fr h4 hF (by decide) (by decide), LH_Fr h5 hF (by decide) (by decide), fun k hk => by rw [Fr_1 hF (by decide)]; exact h6 k hk, by rw [Fr_1 hF (by decide)]; exact h7, fun q hq => ⟨WH_Fr (h8 q hq).1 hF (by decide) (by decide +kernel), LH_Fr (h8 q hq).2.1 hF (by decide) (by decide), LH_Fr (h8 q hq).2.2.1 hF (by decide) (by decide), LH_Fr (h8 q hq).2.2.2 hF (by decide) (by decide)⟩, fun i hi => by rw [Fr_2 hF (by decide)]; exact h9 i hi, fun i j hi hj' => ⟨by rw [Fr_2 hF (by decide)]; exact (hA i j hi hj').1, by rw [Fr_2 hF (by decide)]; exact (hA i j hi hj').2⟩, hB.imp (fun hB => by rw [Fr_1 hF (by decide)]; exact hB) (fun hB => ⟨by rw [Fr_1 hF (by decide)]; exact hB.1, hB.2.1, LM_Fr hB.2.2 hF (by decide) (by decide) (by decide) (by decide)⟩)⟩
theorem CI_od {ws tp od a1 a2 : List Int32} {im : zI} {rf : Nat → Int32} {M N : ZM} (h : CI ws tp od a1 a2 im rf M) (hF : Fr [29, 30] M N) {od' : List Int32} (g : LH N 29 1 30 od') : CI ws tp od' a1 a2 im rf N := by
  obtain ⟨h1, h2, h3, h4, h5, h6, h7, h8, h9, hA, hB⟩ := h
  exact ⟨WH_Fr h1 hF (by decide) (by decide +kernel), WH_Fr h2 hF (by decide) (by decide +kernel), g, LH_Fr h4 hF (by decide) (by decide), LH_Fr h5 hF (by decide) (by decide), fun k hk => by rw [Fr_1 hF (by decide)]; exact h6 k hk, by rw [Fr_1 hF (by decide)]; exact h7, fun q hq => ⟨WH_Fr (h8 q hq).1 hF (by decide) (by decide +kernel), LH_Fr (h8 q hq).2.1 hF (by decide) (by decide), LH_Fr (h8 q hq).2.2.1 hF (by decide) (by decide), LH_Fr (h8 q hq).2.2.2 hF (by decide) (by decide)⟩, fun i hi => by rw [Fr_2 hF (by decide)]; exact h9 i hi, fun i j hi hj' => ⟨by rw [Fr_2 hF (by decide)]; exact (hA i j hi hj').1, by rw [Fr_2 hF (by decide)]; exact (hA i j hi hj').2⟩, hB.imp (fun hB => by rw [Fr_1 hF (by decide)]; exact hB) (fun hB => ⟨by rw [Fr_1 hF (by decide)]; exact hB.1, hB.2.1, LM_Fr hB.2.2 hF (by decide) (by decide) (by decide) (by decide)⟩)⟩
theorem CI_am {ws tp od a1 a2 : List Int32} {im : zI} {rf : Nat → Int32} {M N : ZM} (h : CI ws tp od a1 a2 im rf M) (hF : Fr [38, 39, 40] M N) {b1 b2 : List Int32} (g : LH N 38 2 39 b1) (g' : LH N 38 2 40 b2) : CI ws tp od b1 b2 im rf N := by
  obtain ⟨h1, h2, h3, h4, h5, h6, h7, h8, h9, hA, hB⟩ := h
  exact ⟨WH_Fr h1 hF (by decide) (by decide +kernel), WH_Fr h2 hF (by decide) (by decide +kernel), LH_Fr h3 hF (by decide) (by decide), g, g', fun k hk => by rw [Fr_1 hF (by decide)]; exact h6 k hk, by rw [Fr_1 hF (by decide)]; exact h7, fun q hq => ⟨WH_Fr (h8 q hq).1 hF (by decide) (by decide +kernel), LH_Fr (h8 q hq).2.1 hF (by decide) (by decide), LH_Fr (h8 q hq).2.2.1 hF (by decide) (by decide), LH_Fr (h8 q hq).2.2.2 hF (by decide) (by decide)⟩, fun i hi => by rw [Fr_2 hF (by decide)]; exact h9 i hi, fun i j hi hj' => ⟨by rw [Fr_2 hF (by decide)]; exact (hA i j hi hj').1, by rw [Fr_2 hF (by decide)]; exact (hA i j hi hj').2⟩, hB.imp (fun hB => by rw [Fr_1 hF (by decide)]; exact hB) (fun hB => ⟨by rw [Fr_1 hF (by decide)]; exact hB.1, hB.2.1, LM_Fr hB.2.2 hF (by decide) (by decide) (by decide) (by decide)⟩)⟩
theorem CI_im {ws tp od a1 a2 : List Int32} {im : zI} {rf : Nat → Int32} {M N : ZM} (h : CI ws tp od a1 a2 im rf M) (hF : Fr [41, 42, 43, 44, 45, 46, 47, 48] M N) {im' : zI} (g : N.1 41 3 = (if im'.isSome = true then 1 else 0)) (g' : ∀ q, im' = some q → WH N 42 q.1 ∧ LH N 44 1 45 q.2.1 ∧ LH N 46 2 47 q.2.2.1 ∧ LH N 46 2 48 q.2.2.2) : CI ws tp od a1 a2 im' rf N := by
  obtain ⟨h1, h2, h3, h4, h5, h6, h7, h8, h9, hA, hB⟩ := h
  exact ⟨WH_Fr h1 hF (by decide) (by decide +kernel), WH_Fr h2 hF (by decide) (by decide +kernel), LH_Fr h3 hF (by decide) (by decide), LH_Fr h4 hF (by decide) (by decide), LH_Fr h5 hF (by decide) (by decide), fun k hk => by rw [Fr_1 hF (by decide)]; exact h6 k hk, g, g', fun i hi => by rw [Fr_2 hF (by decide)]; exact h9 i hi, fun i j hi hj' => ⟨by rw [Fr_2 hF (by decide)]; exact (hA i j hi hj').1, by rw [Fr_2 hF (by decide)]; exact (hA i j hi hj').2⟩, hB.imp (fun hB => by rw [Fr_1 hF (by decide)]; exact hB) (fun hB => ⟨by rw [Fr_1 hF (by decide)]; exact hB.1, hB.2.1, LM_Fr hB.2.2 hF (by decide) (by decide) (by decide) (by decide)⟩)⟩
theorem CI_we {ws tp od a1 a2 : List Int32} {im : zI} {rf : Nat → Int32} {M N : ZM} (h : CI ws tp od a1 a2 im rf M) (hF : Fr [3, 4, 8, 9, 19] M N) {ws' : List Int32} (g1 : WH N 3 ws') (g2 : Wd N) (g3 : Wy ws' N) (g4 : N.1 19 5 = 0) : CI ws' tp od a1 a2 im rf N := by
  obtain ⟨h1, h2, h3, h4, h5, h6, h7, h8, h9, hA, hB⟩ := h
  exact ⟨WH_Fr h1 hF (by decide) (by decide +kernel), g1, LH_Fr h3 hF (by decide) (by decide), LH_Fr h4 hF (by decide) (by decide), LH_Fr h5 hF (by decide) (by decide), fun k hk => by rw [Fr_1 hF (by decide)]; exact h6 k hk, by rw [Fr_1 hF (by decide)]; exact h7, fun q hq => ⟨WH_Fr (h8 q hq).1 hF (by decide) (by decide +kernel), LH_Fr (h8 q hq).2.1 hF (by decide) (by decide), LH_Fr (h8 q hq).2.2.1 hF (by decide) (by decide), LH_Fr (h8 q hq).2.2.2 hF (by decide) (by decide)⟩, g2, g3, Or.inl g4⟩
theorem wa_get {l : List Int32} {i : Nat} (h : i < l.length) : wa l i = l[i] := by
  unfold wa
  rw [List.getD_eq_getElem?_getD, List.getElem?_eq_getElem h]
  rfl
theorem mem_wa {l : List Int32} {v : Int32} : v ∈ l ↔ ∃ j, 0 ≤ j ∧ j < l.length ∧ wa l j = v := by
  rw [List.mem_iff_getElem]
  constructor
  · rintro ⟨i, h, e⟩
    exact ⟨i, Nat.zero_le _, h, by rw [wa_get h]; exact e⟩
  · rintro ⟨i, _, h, e⟩
    exact ⟨i, h, by rw [← wa_get h]; exact e⟩
theorem has2 {M : ZM} {od : List Int32} (h : LH M 29 1 30 od) (hl : od.length ≤ 6) (v : Int32) : ∀ k i fuel, i + k = od.length → k < fuel → ((∃ j, i ≤ j ∧ j < od.length ∧ wa od j = v) → f_X4_has_2 29 v M (some (0 : Int32)) fuel (nI i) = some 1) ∧ ((¬ ∃ j, i ≤ j ∧ j < od.length ∧ wa od j = v) → f_X4_has_2 29 v M (some (0 : Int32)) fuel (nI i) = some 0) := by
  intro k
  induction k with
  | zero =>
    intro i fuel hi hf
    obtain ⟨fuel, rfl⟩ : ∃ m, fuel = m + 1 := ⟨fuel - 1, by omega⟩
    rw [f_X4_has_2, h.1, if_pos (by rw [nI_le' (by omega) (by omega)]; omega)]
    exact ⟨fun ⟨j, h1, h2, _⟩ => by omega, fun _ => rfl⟩
  | succ k ih =>
    intro i fuel hi hf
    obtain ⟨fuel, rfl⟩ : ∃ m, fuel = m + 1 := ⟨fuel - 1, by omega⟩
    rw [f_X4_has_2, h.1, if_neg (by rw [nI_le' (by omega) (by omega)]; omega)]
    unfold f_X4_at
    simp only [zletE]
    rw [show zr 29 0 = 30 by decide +kernel, look_nI (by rw [show zn 30 = 6 by decide +kernel]; omega) (by omega), h.2 i (by omega), nI_s]
    have t := ih (i + 1) fuel (by omega) (by omega)
    by_cases q : wa od i = v
    · rw [if_pos q]
      exact ⟨fun _ => rfl, fun z => absurd ⟨i, Nat.le_refl _, by omega, q⟩ z⟩
    · rw [if_neg q]
      refine ⟨fun ⟨j, h1, h2, h3⟩ => t.1 ⟨j, ?_, h2, h3⟩, fun z => t.2 (fun ⟨j, h1, h2, h3⟩ => z ⟨j, by omega, h2, h3⟩)⟩
      apply Classical.byContradiction
      intro y
      exact q (by rw [← h3, show j = i by omega])
theorem has_t {M : ZM} {od : List Int32} (h : LH M 29 1 30 od) (hl : od.length ≤ 6) {v : Int32} (hv : v ∈ od) : f_X4_has 29 v M = some 1 := by
  unfold f_X4_has
  rw [← nI0]
  exact (has2 h hl v od.length 0 zN (by omega) (by unfold zN; omega)).1 (mem_wa.mp hv)
theorem has_f {M : ZM} {od : List Int32} (h : LH M 29 1 30 od) (hl : od.length ≤ 6) {v : Int32} (hv : ¬ v ∈ od) : f_X4_has 29 v M = some 0 := by
  unfold f_X4_has
  rw [← nI0]
  exact (has2 h hl v od.length 0 zN (by omega) (by unfold zN; omega)).2 (fun z => hv (mem_wa.mpr z))
theorem pigeon : ∀ n (l : List Int32), n ≤ 6 → l.Nodup → (∀ x, x ∈ l → ∃ k, k < n ∧ x = nI k) → l.length ≤ n := by
  intro n
  induction n with
  | zero =>
    intro l _ _ h
    cases l with
    | nil => exact Nat.le_refl _
    | cons x l =>
      obtain ⟨k, hk, _⟩ := h x (List.mem_cons_self ..)
      omega
  | succ n ih =>
    intro l hn hd h
    by_cases q : nI n ∈ l
    · have h1 := ih (l.erase (nI n)) (by omega) (hd.erase _) (fun x hx => by
        obtain ⟨k, hk, e⟩ := h x (List.mem_of_mem_erase hx)
        have : x ≠ nI n := (hd.mem_erase_iff.mp hx).1
        exact ⟨k, by
          apply Classical.byContradiction
          intro y
          exact this (by rw [e, show k = n by omega]), e⟩)
      rw [List.length_erase_of_mem q] at h1
      omega
    · have h1 := ih l (by omega) hd (fun x hx => by
        obtain ⟨k, hk, e⟩ := h x hx
        exact ⟨k, by
          apply Classical.byContradiction
          intro y
          exact q (by rw [show n = k by omega, ← e]; exact hx), e⟩)
      omega
theorem oko_add {od : List Int32} (h : oko od) {c : Nat} (hc : c < 6) (hn : ¬ nI c ∈ od) : oko (od ++ [nI c]) ∧ od.length < 6 := by
  have hd : (od ++ [nI c]).Nodup := by
    rw [List.nodup_append]
    refine ⟨h.2.1, List.nodup_cons.mpr ⟨List.not_mem_nil, List.nodup_nil⟩, ?_⟩
    intro a ha b hb
    rw [List.mem_singleton] at hb
    intro e
    exact hn (by rw [← hb, ← e]; exact ha)
  have hm : ∀ x, x ∈ od ++ [nI c] → ∃ k, k < 6 ∧ x = nI k := by
    intro x hx
    rcases List.mem_append.mp hx with q | q
    · exact h.2.2 x q
    · rw [List.mem_singleton] at q
      exact ⟨c, hc, q⟩
  have hl := pigeon 6 _ (Nat.le_refl _) hd hm
  refine ⟨⟨hl, hd, hm⟩, ?_⟩
  rw [List.length_append, List.length_singleton] at hl
  omega
theorem LH_add {M N : ZM} {c f r : Nat} {l : List Int32} {v : Int32} (h : LH M c f r l) (h1 : N.1 c f = nI (l.length + 1)) (h2 : N.1 r l.length = v) (h3 : ∀ k, k < l.length → N.1 r k = M.1 r k) : LH N c f r (l ++ [v]) := by
  refine ⟨by rw [h1, List.length_append]; rfl, fun k hk => ?_⟩
  rw [List.length_append, List.length_singleton] at hk
  by_cases q : k = l.length
  · rw [q, h2, wa_end]
  · rw [h3 k (by omega), wa_app (by omega)]; exact h.2 k (by omega)
theorem add4_ok {M : ZM} {od : List Int32} {c r : Nat} (hz : zr c 0 = r) (hn : zn r = 6) (hne : r ≠ c) (h : LH M c 1 r od) (hl : od.length < 6) (v : Int32) : LH (f_X4_add c v M) c 1 r (od ++ [v]) ∧ Fr [c, r] M (f_X4_add c v M) := by
  have e : f_X4_add c v M = zi (zi M r od.length v) c 1 (nI (od.length + 1)) := by
    unfold f_X4_add
    simp only [zletE]
    rw [h.1, if_neg (by rw [show (6 : Int32) = nI 6 from rfl, nI_le' (by omega) (by omega)]; omega), hz, put_nI (by rw [hn]; exact hl) (by omega), zi_ne (Ne.symm hne), h.1, nI_s]
  rw [e]
  exact ⟨LH_add h zi_eq (by rw [zi_ne hne, zi_eq]) (fun k hk => by rw [zi_ne hne, zi_k (by omega)]), Fr_tr (Fr_zi (List.mem_cons_of_mem _ (List.mem_cons_self ..))) (Fr_zi (List.mem_cons_self ..))⟩
theorem add0_ok {M : ZM} {a1 a2 : List Int32} {c r s : Nat} (hz : zr c 0 = r) (hz2 : zr c 1 = s) (hn : zn r = 8) (hn2 : zn s = 8) (h1 : r ≠ c) (h2 : s ≠ c) (h3 : r ≠ s) (h : LH M c 2 r a1) (h' : LH M c 2 s a2) (e : a2.length = a1.length) (hl : a1.length < 8) (v w : Int32) : LH (f_X0_add c v w M) c 2 r (a1 ++ [v]) ∧ LH (f_X0_add c v w M) c 2 s (a2 ++ [w]) ∧ Fr [c, r, s] M (f_X0_add c v w M) := by
  have e1 : f_X0_add c v w M = zi (zi (zi M r a1.length v) s a1.length w) c 2 (nI (a1.length + 1)) := by
    unfold f_X0_add
    simp only [zletE]
    rw [h.1, if_neg (by rw [show (8 : Int32) = nI 8 from rfl, nI_le' (by omega) (by omega)]; omega), hz, hz2, put_nI (t := r) (by rw [hn]; exact hl) (by omega), zi_ne (Ne.symm h1), h.1, put_nI (by rw [hn2]; exact hl) (by omega), zi_ne (Ne.symm h2), zi_ne (Ne.symm h1), h.1, nI_s]
  rw [e1]
  refine ⟨LH_add h zi_eq (by rw [zi_ne h1, zi_ne h3, zi_eq]) (fun k hk => by rw [zi_ne h1, zi_ne h3, zi_k (by omega)]), LH_add h' (by rw [zi_eq, e]) (by rw [zi_ne h2, e, zi_eq]) (fun k hk => by rw [zi_ne h2, zi_k (by omega), zi_ne (Ne.symm h3)]), ?_⟩
  refine Fr_tr (Fr_zi ?_) (Fr_tr (Fr_zi ?_) (Fr_zi ?_))
  · exact List.mem_cons_of_mem _ (List.mem_cons_self ..)
  · exact List.mem_cons_of_mem _ (List.mem_cons_of_mem _ (List.mem_cons_self ..))
  · exact List.mem_cons_self ..
theorem oka_add {a1 a2 : List Int32} (h : oka a1 a2) (hl : a1.length < 8) {c : Nat} (hc : c < 32) (w : Int32) : oka (a1 ++ [nI c]) (a2 ++ [w]) := by
  refine ⟨by rw [List.length_append, List.length_singleton]; omega, by rw [List.length_append, List.length_append, h.2.1]; rfl, fun x hx => ?_⟩
  rcases List.mem_append.mp hx with q | q
  · exact h.2.2 x q
  · rw [List.mem_singleton] at q
    exact ⟨c, hc, q⟩
/-! bytes -/
theorem shU8 : ∀ i, i < 8 → ((((nI (8 * i)).toInt64.toUInt64 &&& Int64.toUInt64 63).toBitVec % 64).toNat = 8 * i) := by decide +kernel
theorem lb255 : ∀ k, k < 64 → lb 255 k = decide (k < 8) := by decide +kernel
def byt (x : Int64) (i : Nat) : Int32 := ((((x).toUInt64 >>> ((((8 * nI i) : Int32)).toInt64.toUInt64 &&& Int64.toUInt64 63)).toInt64 &&& 255).toInt32)
def fdl (x : Int64) (tp : List Int32) : Nat → List Int32
  | 0 => tp
  | i + 1 => fdl x tp i ++ [byt x i]
theorem fdl_len (x : Int64) (tp : List Int32) : ∀ i, (fdl x tp i).length = tp.length + i := by
  intro i
  induction i with
  | zero => rfl
  | succ i ih => rw [fdl, List.length_append, ih, List.length_singleton]; omega
theorem feedA {n : Nat} (hn : n ≤ 8) (x : Int64) {tp : List Int32} (hl : tp.length + n ≤ 21) (K : ZM → Option (Int32 × ZM)) : ∀ c i fuel M, i + c = n → c < fuel → WH M 1 (fdl x tp i) → ∃ N, f_X11_feed_42 0 (nI n) x K fuel (nI i) M = K N ∧ WH N 1 (fdl x tp n) ∧ Fr [1, 2] M N := by
  intro c
  induction c with
  | zero =>
    intro i fuel M hi hf h
    obtain ⟨fuel, rfl⟩ : ∃ m, fuel = m + 1 := ⟨fuel - 1, by omega⟩
    rw [f_X11_feed_42, if_pos (by rw [nI_le' (by omega) (by omega)]; omega)]
    exact ⟨M, rfl, by rw [show n = i by omega]; exact h, Fr_rf _ _⟩
  | succ c ih =>
    intro i fuel M hi hf h
    obtain ⟨fuel, rfl⟩ : ∃ m, fuel = m + 1 := ⟨fuel - 1, by omega⟩
    rw [f_X11_feed_42, if_neg (by rw [nI_le' (by omega) (by omega)]; omega)]
    simp only [zletE]
    rw [show zr 0 0 = 1 by decide +kernel, nI_s]
    have ha := add_ok WG1 (v := byt x i) h (by rw [fdl_len]; omega)
    obtain ⟨N, e, hN, hF⟩ := ih (i + 1) fuel _ (by omega) (by omega) ha.1
    exact ⟨N, e, hN, Fr_tr (Fr_sub ha.2 (by decide +kernel)) hF⟩
theorem nI_ne1 {p : Nat} (h : p < 1000) : ¬ nI p = -1 := by
  intro e
  have := nI_nn (a := p) (by omega)
  rw [e] at this
  exact this (by decide)
theorem fl_lt {w : Nat → Int32} : ∀ c d o i p, fl w c d o i = some p → p ≤ i + c := by
  intro c
  induction c with
  | zero =>
    intro d o i p h
    rw [fl] at h
    split at h
    · cases h
    · injection h with h; omega
  | succ c ih =>
    intro d o i p h
    cases d <;> rw [fl] at h
    · split at h
      · split at h
        · have := ih _ _ _ _ h; omega
        · injection h with h; omega
      · split at h
        · have := ih _ _ _ _ h; omega
        · injection h with h; omega
    · split at h
      · split at h
        · have := ih _ _ _ _ h; omega
        · injection h with h; omega
      · split at h
        · have := ih _ _ _ _ h; omega
        · split at h
          · have := ih _ _ _ _ h; omega
          · injection h with h; omega
theorem bec4 {c u r s : Nat} (hz : zr c 0 = r) (hz2 : zr u 0 = s) (hn : zn r = 6) (hn2 : zn s = 6) (hne : r ≠ c) (h1 : u ∉ [c, r]) (h2 : s ∉ [c, r]) {od : List Int32} (hl : od.length ≤ 6) (K : ZM → Option ZM) : ∀ k i fuel M, i + k = od.length → k < fuel → LH M u 1 s od → LH M c 1 r (od.take i) → ∃ N, f_X4_become_6 c u K fuel (nI i) M = K N ∧ LH N c 1 r od ∧ Fr [c, r] M N := by
  intro k
  induction k with
  | zero =>
    intro i fuel M hi hf hu ht
    obtain ⟨fuel, rfl⟩ : ∃ m, fuel = m + 1 := ⟨fuel - 1, by omega⟩
    rw [f_X4_become_6, hu.1, if_pos (by rw [nI_le' (by omega) (by omega)]; omega)]
    refine ⟨M, rfl, ?_, Fr_rf _ _⟩
    rwa [List.take_of_length_le (by omega)] at ht
  | succ k ih =>
    intro i fuel M hi hf hu ht
    obtain ⟨fuel, rfl⟩ : ∃ m, fuel = m + 1 := ⟨fuel - 1, by omega⟩
    rw [f_X4_become_6, hu.1, if_neg (by rw [nI_le' (by omega) (by omega)]; omega)]
    unfold f_X4_at
    simp only [zletE]
    rw [hz2, look_nI (by rw [hn2]; omega) (by omega), hu.2 i (by omega), nI_s]
    have hlt : (od.take i).length = i := by rw [List.length_take]; omega
    have ha := add4_ok hz hn hne ht (by omega) (wa od i)
    rw [wa_take (by omega)] at ha
    obtain ⟨N, e, hN, hF⟩ := ih (i + 1) fuel _ (by omega) (by omega) (LH_Fr hu ha.2 h1 h2) ha.1
    exact ⟨N, e, hN, Fr_tr ha.2 hF⟩
theorem bec4_ok {c u r s : Nat} (hz : zr c 0 = r) (hz2 : zr u 0 = s) (hn : zn r = 6) (hn2 : zn s = 6) (hne : r ≠ c) (h1 : u ∉ [c, r]) (h2 : s ∉ [c, r]) {od : List Int32} (hl : od.length ≤ 6) {M : ZM} (hu : LH M u 1 s od) : ∃ N, f_X4_become c u M = some N ∧ LH N c 1 r od ∧ Fr [c, r] M N := by
  unfold f_X4_become f_X4_clear
  simp only [zletE]
  have hF : Fr [c, r] M (zi M c 1 0) := Fr_zi (List.mem_cons_self ..)
  rw [← nI0]
  rw [← nI0] at hF
  obtain ⟨N, e, hN, hF2⟩ := bec4 hz hz2 hn hn2 hne h1 h2 hl (fun M => some M) od.length 0 zN (zi M c 1 (nI 0)) (by omega) (by unfold zN; omega) (LH_Fr hu hF h1 h2) ⟨zi_eq, fun k hk => absurd hk (Nat.not_lt_zero _)⟩
  exact ⟨N, e, hN, Fr_tr hF hF2⟩
theorem bec0 {c u r s r' s' : Nat} (hz : zr c 0 = r) (hzb : zr c 1 = r') (hz2 : zr u 0 = s) (hz2b : zr u 1 = s') (hn : zn r = 8) (hnb : zn r' = 8) (hn2 : zn s = 8) (hn2b : zn s' = 8) (g1 : r ≠ c) (g2 : r' ≠ c) (g3 : r ≠ r') (h1 : u ∉ [c, r, r']) (h2 : s ∉ [c, r, r']) (h3 : s' ∉ [c, r, r']) {a1 a2 : List Int32} (hl : a1.length ≤ 8) (he : a2.length = a1.length) (K : ZM → Option ZM) : ∀ k i fuel M, i + k = a1.length → k < fuel → LH M u 2 s a1 → LH M u 2 s' a2 → LH M c 2 r (a1.take i) → LH M c 2 r' (a2.take i) → ∃ N, f_X0_become_7 c u K fuel (nI i) M = K N ∧ LH N c 2 r a1 ∧ LH N c 2 r' a2 ∧ Fr [c, r, r'] M N := by
  intro k
  induction k with
  | zero =>
    intro i fuel M hi hf hu hu' ht ht'
    obtain ⟨fuel, rfl⟩ : ∃ m, fuel = m + 1 := ⟨fuel - 1, by omega⟩
    rw [f_X0_become_7, hu.1, if_pos (by rw [nI_le' (by omega) (by omega)]; omega)]
    refine ⟨M, rfl, ?_, ?_, Fr_rf _ _⟩
    · rwa [List.take_of_length_le (by omega)] at ht
    · rwa [List.take_of_length_le (by omega)] at ht'
  | succ k ih =>
    intro i fuel M hi hf hu hu' ht ht'
    obtain ⟨fuel, rfl⟩ : ∃ m, fuel = m + 1 := ⟨fuel - 1, by omega⟩
    rw [f_X0_become_7, hu.1, if_neg (by rw [nI_le' (by omega) (by omega)]; omega)]
    simp only [zletE]
    rw [hz2, hz2b, look_nI (t := s) (by rw [hn2]; omega) (by omega), look_nI (t := s') (by rw [hn2b]; omega) (by omega), hu.2 i (by omega), hu'.2 i (by omega), nI_s]
    have hlt : (a1.take i).length = i := by rw [List.length_take]; omega
    have hlt' : (a2.take i).length = i := by rw [List.length_take]; omega
    have ha := add0_ok hz hzb hn hnb g1 g2 g3 ht ht' (by omega) (by omega) (wa a1 i) (wa a2 i)
    rw [wa_take (by omega), wa_take (by omega)] at ha
    obtain ⟨N, e, hN, hN', hF⟩ := ih (i + 1) fuel _ (by omega) (by omega) (LH_Fr hu ha.2.2 h1 h2) (LH_Fr hu' ha.2.2 h1 h3) ha.1 ha.2.1
    exact ⟨N, e, hN, hN', Fr_tr ha.2.2 hF⟩
theorem bec0_ok {c u r s r' s' : Nat} (hz : zr c 0 = r) (hzb : zr c 1 = r') (hz2 : zr u 0 = s) (hz2b : zr u 1 = s') (hn : zn r = 8) (hnb : zn r' = 8) (hn2 : zn s = 8) (hn2b : zn s' = 8) (g1 : r ≠ c) (g2 : r' ≠ c) (g3 : r ≠ r') (h1 : u ∉ [c, r, r']) (h2 : s ∉ [c, r, r']) (h3 : s' ∉ [c, r, r']) {a1 a2 : List Int32} (hl : a1.length ≤ 8) (he : a2.length = a1.length) {M : ZM} (hu : LH M u 2 s a1) (hu' : LH M u 2 s' a2) : ∃ N, f_X0_become c u M = some N ∧ LH N c 2 r a1 ∧ LH N c 2 r' a2 ∧ Fr [c, r, r'] M N := by
  unfold f_X0_become
  simp only [zletE]
  have hF : Fr [c, r, r'] M (zi M c 2 0) := Fr_zi (List.mem_cons_self ..)
  rw [← nI0]
  rw [← nI0] at hF
  obtain ⟨N, e, hN, hN', hF2⟩ := bec0 hz hzb hz2 hz2b hn hnb hn2 hn2b g1 g2 g3 h1 h2 h3 hl he (fun M => some M) a1.length 0 zN (zi M c 2 (nI 0)) (by omega) (by unfold zN; omega) (LH_Fr hu hF h1 h2) (LH_Fr hu' hF h1 h3) ⟨zi_eq, fun k hk => absurd hk (Nat.not_lt_zero _)⟩ ⟨zi_eq, fun k hk => absurd hk (Nat.not_lt_zero _)⟩
  exact ⟨N, e, hN, hN', Fr_tr hF hF2⟩
/-- the text with brackets put in, up to a place -/
def bl (ws : List Int32) (a b : Nat) : Nat → List Int32
  | 0 => []
  | i + 1 => ((bl ws a b i ++ (if i = a then [40] else [])) ++ [wa ws i]) ++ (if i = b then [41] else [])
theorem bl_len (ws : List Int32) (a b : Nat) : ∀ i, (bl ws a b i).length = i + (if a < i then 1 else 0) + (if b < i then 1 else 0) := by
  intro i
  induction i with
  | zero => simp [bl]
  | succ i ih =>
    rw [bl, List.length_append, List.length_append, List.length_append, ih]
    by_cases h1 : i = a
    · rw [if_pos h1]
      by_cases h2 : i = b
      · rw [if_pos h2, if_neg (by omega), if_neg (by omega), if_pos (by omega), if_pos (by omega)]; simp only [List.length_singleton]
      · rw [if_neg h2, if_neg (by omega : ¬ a < i), if_pos (by omega : a < i + 1)]
        by_cases h3 : b < i
        · rw [if_pos h3, if_pos (by omega : b < i + 1)]; simp only [List.length_singleton, List.length_nil]
        · rw [if_neg h3, if_neg (by omega : ¬ b < i + 1)]; simp only [List.length_singleton, List.length_nil]
    · rw [if_neg h1]
      have e1 : (if a < i + 1 then 1 else 0) = (if a < i then 1 else 0) := by
        by_cases h : a < i
        · rw [if_pos h, if_pos (by omega)]
        · rw [if_neg h, if_neg (by omega)]
      rw [e1]
      by_cases h2 : i = b
      · rw [if_pos h2, if_neg (by omega : ¬ b < i), if_pos (by omega : b < i + 1)]; simp only [List.length_singleton, List.length_nil]; omega
      · have e2 : (if b < i + 1 then 1 else 0) = (if b < i then 1 else 0) := by
          by_cases h : b < i
          · rw [if_pos h, if_pos (by omega)]
          · rw [if_neg h, if_neg (by omega)]
        rw [if_neg h2, e2]; simp only [List.length_singleton, List.length_nil]; omega
/-- how many brackets stand, from 32 on; the most of it -/
def so (o : Nat) (x : Int32) : Nat := if x = 40 then o + 1 else if x = 41 then o - 1 else o
def st (p : Nat × Nat) (x : Int32) : Nat × Nat := (so p.1 x, if p.2 < so p.1 x then so p.1 x else p.2)
def ml (l : List Int32) : Nat × Nat := l.foldl st (32, 32)
theorem ml_s (l : List Int32) (x : Int32) : ml (l ++ [x]) = st (ml l) x := by
  unfold ml
  rw [List.foldl_append]
  rfl
theorem so40 (o : Nat) : so o 40 = o + 1 := by unfold so; rw [if_pos rfl]
theorem so41 (o : Nat) : so o 41 = o - 1 := by unfold so; rw [if_neg (by decide), if_pos rfl]
theorem soN {o : Nat} {x : Int32} (h : ¬ x = 40) (h' : ¬ x = 41) : so o x = o := by unfold so; rw [if_neg h, if_neg h']
theorem so_b (o : Nat) (x : Int32) (h : 1 ≤ o) : o ≤ so o x + 1 ∧ so o x ≤ o + 1 := by
  unfold so
  split
  · omega
  · split <;> omega
theorem fold_b : ∀ (l : List Int32) (p : Nat × Nat), l.length < p.1 → p.1 ≤ p.2 → p.1 ≤ (l.foldl st p).1 + l.length ∧ (l.foldl st p).1 ≤ p.1 + l.length ∧ (l.foldl st p).1 ≤ (l.foldl st p).2 ∧ (l.foldl st p).2 ≤ p.2 + l.length := by
  intro l
  induction l with
  | nil => intro p h1 h2; simp only [List.foldl_nil, List.length_nil]; omega
  | cons x l ih =>
    intro p h1 h2
    rw [List.foldl_cons, List.length_cons]
    rw [List.length_cons] at h1
    have hb := so_b p.1 x (by omega)
    have e1 : (st p x).1 = so p.1 x := rfl
    have e2 : (st p x).2 = if p.2 < so p.1 x then so p.1 x else p.2 := rfl
    have h3 : (st p x).1 ≤ (st p x).2 ∧ (st p x).2 ≤ p.2 + 1 ∧ p.2 ≤ (st p x).2 := by
      rw [e1, e2]; split <;> omega
    have := ih (st p x) (by omega) h3.1
    omega
theorem ml_b {l : List Int32} (h : l.length ≤ 23) : 9 ≤ (ml l).1 ∧ (ml l).1 ≤ 55 ∧ (ml l).1 ≤ (ml l).2 ∧ (ml l).2 ≤ 55 := by
  have := fold_b l (32, 32) (by simp only []; omega) (Nat.le_refl _)
  unfold ml
  simp only [] at this
  omega
def sh (o : Nat) : Int32 := nI o - 32
theorem sh_p : ∀ o, o < 64 → sh o + 1 = sh (o + 1) := by decide +kernel
theorem sh_m : ∀ o, o < 64 → 1 ≤ o → sh o + (-1) = sh (o - 1) := by decide +kernel
theorem sh_lt : ∀ a, a < 64 → ∀ b, b < 64 → (sh a < sh b ↔ a < b) := by decide +kernel
theorem sh_le : ∀ a, a < 64 → ∀ b, b < 64 → (sh a ≤ sh b ↔ a ≤ b) := by decide +kernel
theorem sh32 : sh 32 = 0 := by decide +kernel
theorem most6 {L : List Int32} (hl : L.length ≤ 21) {M : ZM} (h : WH M 5 L) : ∀ k i fuel, i + k = L.length → k < fuel → f_X10_mostOpen_6 5 M (fun (v2 : Int32) => some v2) fuel (sh (ml (L.take i)).1) (sh (ml (L.take i)).2) (nI i) = some (sh (ml L).2) := by
  intro k
  induction k with
  | zero =>
    intro i fuel hi hf
    obtain ⟨fuel, rfl⟩ : ∃ m, fuel = m + 1 := ⟨fuel - 1, by omega⟩
    rw [f_X10_mostOpen_6]
    simp only [zletE]
    rw [h.1, if_pos (by rw [nI_le' (by omega) (by omega)]; omega), List.take_of_length_le (by omega)]
  | succ k ih =>
    intro i fuel hi hf
    obtain ⟨fuel, rfl⟩ : ∃ m, fuel = m + 1 := ⟨fuel - 1, by omega⟩
    have hb := ml_b (l := L.take i) (by rw [List.length_take]; omega)
    have hb2 := ml_b (l := L.take (i + 1)) (by rw [List.length_take]; omega)
    have e := ih (i + 1) fuel (by omega) (by omega)
    have es : ml (L.take (i + 1)) = st (ml (L.take i)) (wa L i) := by rw [← wa_take (by omega), ml_s]
    rw [es] at e hb2
    rw [f_X10_mostOpen_6]
    simp only [zletE]
    rw [h.1, if_neg (by rw [nI_le' (by omega) (by omega)]; omega), at_ok WG5 h hl (by omega), nI_s]
    generalize ml (L.take i) = p at *
    obtain ⟨o, m⟩ := p
    simp only [st] at e hb hb2
    have mx : ∀ x : Nat, x < 64 → zmax (sh m) (sh x) = sh (if m < x then x else m) := by
      intro x hx
      unfold zmax
      by_cases q : m < x
      · rw [if_pos ((sh_lt m (by omega) x hx).mpr q), if_pos q]
      · rw [if_neg (fun z => q ((sh_lt m (by omega) x hx).mp z)), if_neg q]
    by_cases h40 : wa L i = 40
    · have e0 : so o (wa L i) = o + 1 := by unfold so; rw [if_pos h40]
      rw [e0] at e
      rw [if_pos h40]
      simp only []
      rw [sh_p o (by omega), mx _ (by omega)]; exact e
    · rw [if_neg h40]
      by_cases h41 : wa L i = 41
      · have e0 : so o (wa L i) = o - 1 := by unfold so; rw [if_neg h40, if_pos h41]
        rw [e0] at e
        rw [if_pos h41]
        simp only []
        rw [sh_m o (by omega) (by omega), mx _ (by omega)]; exact e
      · have e0 : so o (wa L i) = o := by unfold so; rw [if_neg h40, if_neg h41]
        rw [e0] at e
        rw [if_neg h41]
        simp only []
        rw [mx _ (by omega)]; exact e
theorem most_ok {L : List Int32} (hl : L.length ≤ 21) {M : ZM} (h : WH M 5 L) : f_X10_mostOpen 5 M = some (sh (ml L).2) := by
  unfold f_X10_mostOpen
  have := most6 hl h L.length 0 zN (by omega) (by unfold zN; omega)
  rw [List.take_zero, show ml [] = (32, 32) from rfl, sh32, nI0] at this
  exact this
theorem brd7 {ws : List Int32} {a b : Nat} (hl : ws.length + 2 ≤ 21) (K : ZM → Option ZM) (ha : a < 100) (hb : b < 100) : ∀ k i fuel M, i + k = ws.length → k < fuel → WH M 3 ws → WH M 5 (bl ws a b i) → ∃ N, f_X10_bracketed_7 5 3 (nI a) (nI b) K fuel (nI i) M = K N ∧ WH N 5 (bl ws a b ws.length) ∧ Fr [5, 6] M N := by
  intro k
  induction k with
  | zero =>
    intro i fuel M hi hf hu ht
    obtain ⟨fuel, rfl⟩ : ∃ m, fuel = m + 1 := ⟨fuel - 1, by omega⟩
    rw [f_X10_bracketed_7]
    simp only [zletE]
    rw [hu.1, if_pos (by rw [nI_le' (by omega) (by omega)]; omega)]
    exact ⟨M, rfl, by rw [show ws.length = i by omega]; exact ht, Fr_rf _ _⟩
  | succ k ih =>
    intro i fuel M hi hf hu ht
    obtain ⟨fuel, rfl⟩ : ∃ m, fuel = m + 1 := ⟨fuel - 1, by omega⟩
    have hlen := bl_len ws a b i
    have hlen2 : (bl ws a b i).length ≤ i + 2 := by rw [hlen]; split <;> split <;> omega
    have hlb : (bl ws a b (i + 1)).length ≤ i + 3 := by rw [bl_len]; split <;> split <;> omega
    have rest : ∀ M1 L1, Fr [5, 6] M M1 → WH M1 5 L1 → L1.length ≤ 20 → (L1 ++ [wa ws i]) ++ (if i = b then [41] else []) = bl ws a b (i + 1) → ∃ N, (if nI i = nI b then f_X10_bracketed_7 5 3 (nI a) (nI b) K fuel (nI i + 1) (f_X10_add 5 41 (f_X10_add 5 (f_X10_at 3 (nI i) M1) M1)) else f_X10_bracketed_7 5 3 (nI a) (nI b) K fuel (nI i + 1) (f_X10_add 5 (f_X10_at 3 (nI i) M1) M1)) = K N ∧ WH N 5 (bl ws a b ws.length) ∧ Fr [5, 6] M N := by
      intro M1 L1 hF1 hw1 hl1 hL
      have hu1 : WH M1 3 ws := WH_Fr hu hF1 (by decide) (by decide +kernel)
      rw [at_ok WG3 hu1 (by omega) (by omega), nI_s]
      have A := add_ok WG5 (v := wa ws i) hw1 (by omega)
      have FA : Fr [5, 6] M1 (f_X10_add 5 (wa ws i) M1) := Fr_sub A.2 (by decide +kernel)
      by_cases q : i = b
      · rw [if_pos q] at hL
        rw [if_pos (by rw [q])]
        rw [← hL, List.length_append, List.length_append] at hlb
        simp only [List.length_singleton] at hlb
        have B := add_ok WG5 (v := 41) A.1 (by rw [List.length_append, List.length_singleton]; omega)
        rw [hL] at B
        have FB : Fr [5, 6] (f_X10_add 5 (wa ws i) M1) (f_X10_add 5 41 (f_X10_add 5 (wa ws i) M1)) := Fr_sub B.2 (by decide +kernel)
        have FT := Fr_tr hF1 (Fr_tr FA FB)
        obtain ⟨N, e, hN, hF⟩ := ih (i + 1) fuel _ (by omega) (by omega) (WH_Fr hu FT (by decide) (by decide +kernel)) B.1
        exact ⟨N, e, hN, Fr_tr FT hF⟩
      · rw [if_neg q, List.append_nil] at hL
        rw [if_neg (by rw [nI_inj (by omega) (by omega)]; exact q)]
        rw [hL] at A
        have FT := Fr_tr hF1 FA
        obtain ⟨N, e, hN, hF⟩ := ih (i + 1) fuel _ (by omega) (by omega) (WH_Fr hu FT (by decide) (by decide +kernel)) A.1
        exact ⟨N, e, hN, Fr_tr FT hF⟩
    rw [f_X10_bracketed_7]
    simp only [zletE]
    rw [hu.1, if_neg (by rw [nI_le' (by omega) (by omega)]; omega)]
    by_cases q : i = a
    · rw [if_pos (by rw [q])]
      have A := add_ok WG5 (v := 40) ht (by omega)
      have hla : (bl ws a b i ++ [40]).length ≤ 20 := by
        rw [List.length_append, List.length_singleton, hlen, if_neg (by omega)]; split <;> omega
      exact rest _ _ (Fr_sub A.2 (by decide +kernel)) A.1 hla (by rw [bl, if_pos q])
    · rw [if_neg (by rw [nI_inj (by omega) (by omega)]; exact q)]
      exact rest M _ (Fr_rf _ _) ht (by omega) (by rw [bl, if_neg q, List.append_nil])
def wq (l : List Int64) (i : Nat) : Int64 := l.getD i 0
theorem wq_app {ws : List Int64} {v : Int64} {k : Nat} (h : k < ws.length) : wq (ws ++ [v]) k = wq ws k := by
  unfold wq
  rw [List.getD_eq_getElem?_getD, List.getD_eq_getElem?_getD, List.getElem?_append_left h]
theorem wq_end {ws : List Int64} {v : Int64} : wq (ws ++ [v]) ws.length = v := by
  unfold wq
  rw [List.getD_eq_getElem?_getD, List.getElem?_append_right (Nat.le_refl _), Nat.sub_self]
  rfl
theorem mem_wq {l : List Int64} {v : Int64} : v ∈ l ↔ ∃ j, 0 ≤ j ∧ j < l.length ∧ wq l j = v := by
  rw [List.mem_iff_getElem]
  constructor
  · rintro ⟨i, h, e⟩
    refine ⟨i, Nat.zero_le _, h, ?_⟩
    unfold wq
    rw [List.getD_eq_getElem?_getD, List.getElem?_eq_getElem h]
    exact e
  · rintro ⟨i, _, h, e⟩
    refine ⟨i, h, ?_⟩
    unfold wq at e
    rw [List.getD_eq_getElem?_getD, List.getElem?_eq_getElem h] at e
    exact e
/-- the meanings of the first readings, each once -/
noncomputable def ul (ws : List Int32) : Nat → List Int64
  | 0 => []
  | i + 1 => if Me ws i ∈ ul ws i then ul ws i else ul ws i ++ [Me ws i]
theorem ul_len (ws : List Int32) : ∀ i, (ul ws i).length ≤ i := by
  intro i
  induction i with
  | zero => exact Nat.le_refl _
  | succ i ih =>
    rw [ul]
    split
    · omega
    · rw [List.length_append, List.length_singleton]; omega
def UA (M : ZM) (L : List Int64) : Prop := M.1 27 1 = nI L.length ∧ ∀ k, k < L.length → M.2 28 k = wq L k
theorem z28l {M : ZM} {k : Nat} (h : k < 200) : f_X11_look_ (zr 27 0) (nI k) M = M.2 28 k := by
  rw [show zr 27 0 = 28 by decide +kernel, lookl_nI (by rw [show zn 28 = 200 by decide +kernel]; exact h) (by omega)]
theorem uhas2 {M : ZM} {L : List Int64} (h : UA M L) (hl : L.length ≤ 200) (v : Int64) : ∀ k i fuel, i + k = L.length → k < fuel → ((∃ j, i ≤ j ∧ j < L.length ∧ wq L j = v) → f_X8_has_2 27 v M (some (0 : Int32)) fuel (nI i) = some 1) ∧ ((¬ ∃ j, i ≤ j ∧ j < L.length ∧ wq L j = v) → f_X8_has_2 27 v M (some (0 : Int32)) fuel (nI i) = some 0) := by
  intro k
  induction k with
  | zero =>
    intro i fuel hi hf
    obtain ⟨fuel, rfl⟩ : ∃ m, fuel = m + 1 := ⟨fuel - 1, by omega⟩
    rw [f_X8_has_2, h.1, if_pos (by rw [nI_le' (by omega) (by omega)]; omega)]
    exact ⟨fun ⟨j, h1, h2, _⟩ => by omega, fun _ => rfl⟩
  | succ k ih =>
    intro i fuel hi hf
    obtain ⟨fuel, rfl⟩ : ∃ m, fuel = m + 1 := ⟨fuel - 1, by omega⟩
    rw [f_X8_has_2, h.1, if_neg (by rw [nI_le' (by omega) (by omega)]; omega)]
    simp only [zletE]
    rw [z28l (by omega), h.2 i (by omega), nI_s]
    have t := ih (i + 1) fuel (by omega) (by omega)
    by_cases q : wq L i = v
    · rw [if_pos (by rw [lg_cmp_eq]; exact q)]
      exact ⟨fun _ => rfl, fun z => absurd ⟨i, Nat.le_refl _, by omega, q⟩ z⟩
    · rw [if_neg (by rw [lg_cmp_eq]; exact q)]
      refine ⟨fun ⟨j, h1, h2, h3⟩ => t.1 ⟨j, ?_, h2, h3⟩, fun z => t.2 (fun ⟨j, h1, h2, h3⟩ => z ⟨j, by omega, h2, h3⟩)⟩
      apply Classical.byContradiction
      intro y
      exact q (by rw [← h3, show j = i by omega])
theorem gath {ws : List Int32} (hm : Ny ws 0 ws.length ≤ 200) (K : ZM → Option ZM) : ∀ k i fuel M, i + k = Ny ws 0 ws.length → k < fuel → LM ws M → UA M (ul ws i) → ∃ N, f_X8_gather_7 27 19 K fuel (nI i) M = K N ∧ UA N (ul ws (Ny ws 0 ws.length)) ∧ Fr [27, 28] M N := by
  intro k
  induction k with
  | zero =>
    intro i fuel M hi hf hL hU
    obtain ⟨fuel, rfl⟩ : ∃ m, fuel = m + 1 := ⟨fuel - 1, by omega⟩
    rw [f_X8_gather_7, zletE, show f_X2_size 19 M = nI (Ny ws 0 ws.length) from hL.1, if_pos (by rw [nI_le' (by omega) (by omega)]; omega)]
    exact ⟨M, rfl, by rw [show Ny ws 0 ws.length = i by omega]; exact hU, Fr_rf _ _⟩
  | succ k ih =>
    intro i fuel M hi hf hL hU
    obtain ⟨fuel, rfl⟩ : ∃ m, fuel = m + 1 := ⟨fuel - 1, by omega⟩
    have hlen := ul_len ws i
    rw [f_X8_gather_7, zletE, show f_X2_size 19 M = nI (Ny ws 0 ws.length) from hL.1, if_neg (by rw [nI_le' (by omega) (by omega)]; omega)]
    simp only [zletE]
    rw [mea_ok hL hm (by omega), nI_s]
    have t := uhas2 hU (by omega) (Me ws i) (ul ws i).length 0 zN (by omega) (by unfold zN; omega)
    rw [nI0] at t
    unfold f_X8_has
    by_cases q : Me ws i ∈ ul ws i
    · rw [t.1 (mem_wq.mp q), bindE, if_neg (by decide)]
      exact ih (i + 1) fuel M (by omega) (by omega) hL (by rw [ul, if_pos q]; exact hU)
    · rw [t.2 (fun z => q (mem_wq.mpr z)), bindE, if_pos rfl, hU.1, show zr 27 0 = 28 by decide +kernel, putl_nI (by rw [show zn 28 = 200 by decide +kernel]; omega) (by omega), zl_1, hU.1, nI_s]
      have F1 : Fr [27, 28] M (zi (zl M 28 (ul ws i).length (Me ws i)) 27 1 (nI ((ul ws i).length + 1))) := Fr_tr (Fr_zl (by decide)) (Fr_zi (by decide))
      have g : UA (zi (zl M 28 (ul ws i).length (Me ws i)) 27 1 (nI ((ul ws i).length + 1))) (ul ws (i + 1)) := by
        rw [ul, if_neg q]
        refine ⟨by rw [zi_eq, List.length_append]; rfl, fun j hj => ?_⟩
        rw [List.length_append, List.length_singleton] at hj
        rw [zi_2]
        by_cases z : j = (ul ws i).length
        · rw [z, zl_eq, wq_end]
        · rw [zl_k z, wq_app (by omega)]; exact hU.2 j (by omega)
      obtain ⟨N, e, hN, hF⟩ := ih (i + 1) fuel _ (by omega) (by omega) (LM_Fr hL F1 (by decide) (by decide) (by decide) (by decide)) g
      exact ⟨N, e, hN, Fr_tr F1 hF⟩
theorem gath_ok {ws : List Int32} (hm : Ny ws 0 ws.length ≤ 200) {M : ZM} (hL : LM ws M) : ∃ N, f_X8_gather 27 19 M = some N ∧ UA N (ul ws (Ny ws 0 ws.length)) ∧ Fr [27, 28] M N := by
  unfold f_X8_gather
  simp only [zletE]
  have F0 : Fr [27, 28] M (zi M 27 1 0) := Fr_zi (by decide)
  obtain ⟨N, e, hN, hF⟩ := gath hm (fun M => some M) (Ny ws 0 ws.length) 0 zN (zi M 27 1 0) (by omega) (by unfold zN; omega) (LM_Fr hL F0 (by decide) (by decide) (by decide) (by decide)) ⟨by rw [zi_eq]; rfl, fun k hk => absurd hk (Nat.not_lt_zero _)⟩
  rw [nI0] at e
  exact ⟨N, e, hN, Fr_tr F0 hF⟩
theorem sc_u : ∀ b, b ∈ [27, 28] → b ∈ sc1 := by decide
/-- some of these cases parts any two -/
def pt (L : List Int64) (cs : List Nat) : Prop := ∀ i j, j < i → i < L.length → ∃ c, c ∈ cs ∧ lb (wq L i) c ≠ lb (wq L j) c
theorem pt_c {L : List Int64} {cs ds : List Nat} (h : pt L cs) (hs : ∀ c, c ∈ cs → c ∈ ds) : pt L ds := fun i j h1 h2 => by
  obtain ⟨c, hc, e⟩ := h i j h1 h2
  exact ⟨c, hs c hc, e⟩
def b8 (x : Int64) (a b c : Nat) : Nat := ((if lb x a = true then 1 else 0) + 2 * (if lb x b = true then 1 else 0)) + 4 * (if lb x c = true then 1 else 0)
theorem b8_lt (x : Int64) (a b c : Nat) : b8 x a b c < 8 := by
  unfold b8
  split <;> split <;> split <;> omega
theorem b8_eq {x y : Int64} {a b c : Nat} : b8 x a b c = b8 y a b c ↔ (lb x a = lb y a ∧ lb x b = lb y b ∧ lb x c = lb y c) := by
  unfold b8
  cases lb x a <;> cases lb x b <;> cases lb x c <;> cases lb y a <;> cases lb y b <;> cases lb y c <;> simp
theorem pt3 {L : List Int64} {a b c : Nat} : pt L [a, b, c] ↔ ∀ i j, j < i → i < L.length → b8 (wq L i) a b c ≠ b8 (wq L j) a b c := by
  constructor
  · intro h i j h1 h2 e
    obtain ⟨d, hd, e2⟩ := h i j h1 h2
    have e := b8_eq.mp e
    simp only [List.mem_cons, List.not_mem_nil, or_false] at hd
    rcases hd with rfl | rfl | rfl
    · exact e2 e.1
    · exact e2 e.2.1
    · exact e2 e.2.2
  · intro h i j h1 h2
    have := h i j h1 h2
    apply Classical.byContradiction
    intro z
    apply this
    rw [b8_eq]
    refine ⟨?_, ?_, ?_⟩
    · apply Classical.byContradiction; intro y; exact z ⟨a, by simp, y⟩
    · apply Classical.byContradiction; intro y; exact z ⟨b, by simp, y⟩
    · apply Classical.byContradiction; intro y; exact z ⟨c, by simp, y⟩
theorem sh1 : ∀ n, n < 8 → ∀ k, k < 32 → lc ((1 : Int32) <<< (nI n &&& 31)) k = decide (k = n) := by decide +kernel
theorem and_b {x : Int32} {n : Nat} (h : n < 8) : (x &&& ((1 : Int32) <<< (nI n &&& 31)) = 0) ↔ lc x n = false := by
  constructor
  · intro e
    have := congrArg (fun z => lc z n) e
    simp only [lc_and, lc_0] at this
    rw [sh1 n h n (by omega), decide_eq_true rfl, Bool.and_true] at this
    exact this
  · intro e
    apply lc_ext
    intro k hk
    rw [lc_and, lc_0, sh1 n h k hk]
    by_cases q : k = n
    · rw [q, e]; rfl
    · rw [decide_eq_false q, Bool.and_false]
theorem apb6 {M : ZM} {L : List Int64} (h : UA M L) (hl : L.length ≤ 200) {a b c : Nat} (ha : a < 32) (hb : b < 32) (hc : c < 32) : ∀ k i fuel s, i + k = L.length → k < fuel → (∀ n, n < 8 → (lc s n = true ↔ ∃ j, j < i ∧ b8 (wq L j) a b c = n)) → ((∀ i', i ≤ i' → i' < L.length → ∀ j, j < i' → b8 (wq L i') a b c ≠ b8 (wq L j) a b c) → f_X8_arePartedBy_6 27 (nI a) (nI b) (nI c) M (some (1 : Int32)) fuel s (nI i) = some 1) ∧ ((¬ ∀ i', i ≤ i' → i' < L.length → ∀ j, j < i' → b8 (wq L i') a b c ≠ b8 (wq L j) a b c) → f_X8_arePartedBy_6 27 (nI a) (nI b) (nI c) M (some (1 : Int32)) fuel s (nI i) = some 0) := by
  intro k
  induction k with
  | zero =>
    intro i fuel s hi hf hs
    obtain ⟨fuel, rfl⟩ : ∃ m, fuel = m + 1 := ⟨fuel - 1, by omega⟩
    rw [f_X8_arePartedBy_6, h.1, if_pos (by rw [nI_le' (by omega) (by omega)]; omega)]
    exact ⟨fun _ => rfl, fun z => absurd (fun i' h1 h2 => by omega) z⟩
  | succ k ih =>
    intro i fuel s hi hf hs
    obtain ⟨fuel, rfl⟩ : ∃ m, fuel = m + 1 := ⟨fuel - 1, by omega⟩
    rw [f_X8_arePartedBy_6, h.1, if_neg (by rw [nI_le' (by omega) (by omega)]; omega)]
    simp only [zletE]
    rw [z28l (by omega), h.2 i (by omega), bitL ha, bitL hb, bitL hc, nI_s]
    have en : ((if lb (wq L i) a = true then (1 : Int32) else 0) + 2 * (if lb (wq L i) b = true then (1 : Int32) else 0)) + 4 * (if lb (wq L i) c = true then (1 : Int32) else 0) = nI (b8 (wq L i) a b c) := by
      unfold b8
      cases lb (wq L i) a <;> cases lb (wq L i) b <;> cases lb (wq L i) c <;> decide +kernel
    rw [en]
    have hb8 := b8_lt (wq L i) a b c
    have hsi := hs _ hb8
    by_cases q : lc s (b8 (wq L i) a b c) = false
    · rw [if_pos ((and_b hb8).mpr q)]
      have hn : ¬ ∃ j, j < i ∧ b8 (wq L j) a b c = b8 (wq L i) a b c := fun z => by rw [hsi.mpr z] at q; exact absurd q (by decide)
      have t := ih (i + 1) fuel (s ||| (1 <<< (nI (b8 (wq L i) a b c) &&& 31))) (by omega) (by omega) (fun n hn8 => by
        rw [lc_or, sh1 _ hb8 n (by omega), Bool.or_eq_true, decide_eq_true_iff, hs n hn8]
        constructor
        · rintro (⟨j, hj, e⟩ | e)
          · exact ⟨j, by omega, e⟩
          · exact ⟨i, by omega, e.symm⟩
        · rintro ⟨j, hj, e⟩
          by_cases z : j = i
          · right; rw [← e, z]
          · left; exact ⟨j, by omega, e⟩)
      refine ⟨fun z => t.1 (fun i' h1 h2 => z i' (by omega) h2), fun z => t.2 (fun y => z (fun i' h1 h2 j hj => ?_))⟩
      by_cases w : i' = i
      · subst w
        intro e
        exact hn ⟨j, hj, e.symm⟩
      · exact y i' (by omega) h2 j hj
    · have q' : lc s (b8 (wq L i) a b c) = true := by
        cases z : lc s (b8 (wq L i) a b c) with
        | true => rfl
        | false => exact absurd z q
      rw [if_neg (fun z => q ((and_b hb8).mp z))]
      obtain ⟨j, hj, e⟩ := hsi.mp q'
      exact ⟨fun z => absurd e.symm (z i (Nat.le_refl _) (by omega) j hj), fun _ => rfl⟩
theorem apb_ok {M : ZM} {L : List Int64} (h : UA M L) (hl : L.length ≤ 200) {a b c : Nat} (ha : a < 32) (hb : b < 32) (hc : c < 32) : (pt L [a, b, c] → f_X8_arePartedBy 27 (nI a) (nI b) (nI c) M = some 1) ∧ (¬ pt L [a, b, c] → f_X8_arePartedBy 27 (nI a) (nI b) (nI c) M = some 0) := by
  have t := apb6 h hl ha hb hc L.length 0 zN 0 (by omega) (by unfold zN; omega) (fun n _ => ⟨fun z => by rw [lc_0] at z; exact absurd z (by decide), fun ⟨j, hj, _⟩ => by omega⟩)
  rw [nI0] at t
  unfold f_X8_arePartedBy
  refine ⟨fun z => t.1 (fun i' _ h2 j hj => pt3.mp z i' j hj h2), fun z => t.2 (fun y => z (pt3.mpr (fun i j h1 h2 => y i (Nat.zero_le _) h2 j h1)))⟩
theorem third4 {M : ZM} {L : List Int64} (h : UA M L) (hl : L.length ≤ 200) {a b : Nat} (ha : a < 32) (hb : b < 32) : ∀ k c fuel, c + k = 32 → k < fuel → ((∃ d, c ≤ d ∧ d < 32 ∧ pt L [a, b, d]) → f_X8_isThirdFor_4 27 (nI a) (nI b) M (some (0 : Int32)) fuel (nI c) = some 1) ∧ ((¬ ∃ d, c ≤ d ∧ d < 32 ∧ pt L [a, b, d]) → f_X8_isThirdFor_4 27 (nI a) (nI b) M (some (0 : Int32)) fuel (nI c) = some 0) := by
  intro k
  induction k with
  | zero =>
    intro c fuel hi hf
    obtain ⟨fuel, rfl⟩ : ∃ m, fuel = m + 1 := ⟨fuel - 1, by omega⟩
    rw [f_X8_isThirdFor_4, if_pos (by rw [show (32 : Int32) = nI 32 from rfl, nI_le' (by omega) (by omega)]; omega)]
    exact ⟨fun ⟨d, h1, h2, _⟩ => by omega, fun _ => rfl⟩
  | succ k ih =>
    intro c fuel hi hf
    obtain ⟨fuel, rfl⟩ : ∃ m, fuel = m + 1 := ⟨fuel - 1, by omega⟩
    rw [f_X8_isThirdFor_4, if_neg (by rw [show (32 : Int32) = nI 32 from rfl, nI_le' (by omega) (by omega)]; omega)]
    have t := ih (c + 1) fuel (by omega) (by omega)
    have p := apb_ok h hl ha hb (show c < 32 by omega)
    by_cases q : pt L [a, b, c]
    · rw [p.1 q, bindE, if_neg (by decide)]
      exact ⟨fun _ => rfl, fun z => absurd ⟨c, Nat.le_refl _, by omega, q⟩ z⟩
    · rw [p.2 q, bindE, if_pos rfl, zletE, nI_s]
      refine ⟨fun ⟨d, h1, h2, h3⟩ => t.1 ⟨d, ?_, h2, h3⟩, fun z => t.2 (fun ⟨d, h1, h2, h3⟩ => z ⟨d, by omega, h2, h3⟩)⟩
      apply Classical.byContradiction
      intro y
      exact q (by rw [show c = d by omega]; exact h3)
def Q2 (L : List Int64) (a : Nat) : Prop := ∃ a' b, a' < a ∧ a' < b ∧ b < 32 ∧ pt L [a', b]
def Q3 (L : List Int64) (a : Nat) : Prop := ∃ a' b c, a' < a ∧ a' < b ∧ b < c ∧ c < 32 ∧ pt L [a', b, c]
def Q2' (L : List Int64) (a b : Nat) : Prop := Q2 L a ∨ ∃ b', a < b' ∧ b' < b ∧ pt L [a, b']
def Q3' (L : List Int64) (a b : Nat) : Prop := Q3 L a ∨ ∃ b' c, a < b' ∧ b' < b ∧ b' < c ∧ c < 32 ∧ pt L [a, b', c]
def I3 (v : Int32) (A B : Prop) : Prop := (v = 2 ∧ A) ∨ (v = 3 ∧ ¬ A ∧ B) ∨ (v = -9 ∧ ¬ A ∧ ¬ B)
theorem Q2_s {L : List Int64} {a : Nat} (h : a < 32) : Q2' L a 32 ↔ Q2 L (a + 1) := by
  constructor
  · rintro (⟨a', b, h1, h2, h3, h4⟩ | ⟨b, h1, h2, h3⟩)
    · exact ⟨a', b, by omega, h2, h3, h4⟩
    · exact ⟨a, b, by omega, h1, h2, h3⟩
  · rintro ⟨a', b, h1, h2, h3, h4⟩
    by_cases q : a' = a
    · subst q; exact Or.inr ⟨b, h2, h3, h4⟩
    · exact Or.inl ⟨a', b, by omega, h2, h3, h4⟩
theorem Q3_s {L : List Int64} {a : Nat} (h : a < 32) : Q3' L a 32 ↔ Q3 L (a + 1) := by
  constructor
  · rintro (⟨a', b, c, h1, h2, h3, h4, h5⟩ | ⟨b, c, h1, h2, h3, h4, h5⟩)
    · exact ⟨a', b, c, by omega, h2, h3, h4, h5⟩
    · exact ⟨a, b, c, by omega, h1, h3, h4, h5⟩
  · rintro ⟨a', b, c, h1, h2, h3, h4, h5⟩
    by_cases q : a' = a
    · subst q; exact Or.inr ⟨b, c, h2, by omega, h3, h4, h5⟩
    · exact Or.inl ⟨a', b, c, by omega, h2, h3, h4, h5⟩
theorem pt_ab {L : List Int64} {a b : Nat} : pt L [a, b, b] ↔ pt L [a, b] := ⟨fun h => pt_c h (by intro c; simp), fun h => pt_c h (by intro c; simp)⟩
theorem pt_a {L : List Int64} {a : Nat} : pt L [a, a, a] ↔ pt L [a] := ⟨fun h => pt_c h (by intro c; simp), fun h => pt_c h (by intro c; simp)⟩
theorem few49 {M : ZM} {L : List Int64} (h : UA M L) (hl : L.length ≤ 200) {a : Nat} (ha : a < 32) (K : Int32 → Option Int32) : ∀ k b fuel v, b + k = 32 → k < fuel → a < b → I3 v (Q2' L a b) (Q3' L a b) → ∃ w, f_X8_fewestCases_49 27 (nI a) M K fuel v (nI b) = K w ∧ I3 w (Q2 L (a + 1)) (Q3 L (a + 1)) := by
  intro k
  induction k with
  | zero =>
    intro b fuel v hi hf hab hI
    obtain ⟨fuel, rfl⟩ : ∃ m, fuel = m + 1 := ⟨fuel - 1, by omega⟩
    rw [f_X8_fewestCases_49, if_pos (by rw [show (32 : Int32) = nI 32 from rfl, nI_le' (by omega) (by omega)]; omega)]
    have hb : b = 32 := by omega
    subst hb
    refine ⟨v, rfl, ?_⟩
    unfold I3 at hI ⊢
    rw [← Q2_s ha, ← Q3_s ha]
    exact hI
  | succ k ih =>
    intro b fuel v hi hf hab hI
    obtain ⟨fuel, rfl⟩ : ∃ m, fuel = m + 1 := ⟨fuel - 1, by omega⟩
    rw [f_X8_fewestCases_49, if_neg (by rw [show (32 : Int32) = nI 32 from rfl, nI_le' (by omega) (by omega)]; omega)]
    have p := apb_ok h hl ha (show b < 32 by omega) (show b < 32 by omega)
    rw [pt_ab] at p
    have e2 : Q2' L a (b + 1) ↔ (Q2' L a b ∨ pt L [a, b]) := by
      constructor
      · rintro (z | ⟨b', h1, h2, h3⟩)
        · exact Or.inl (Or.inl z)
        · by_cases q : b' = b
          · subst q; exact Or.inr h3
          · exact Or.inl (Or.inr ⟨b', h1, by omega, h3⟩)
      · rintro ((z | ⟨b', h1, h2, h3⟩) | z)
        · exact Or.inl z
        · exact Or.inr ⟨b', h1, by omega, h3⟩
        · exact Or.inr ⟨b, hab, by omega, z⟩
    have e3 : Q3' L a (b + 1) ↔ (Q3' L a b ∨ ∃ c, b + 1 ≤ c ∧ c < 32 ∧ pt L [a, b, c]) := by
      constructor
      · rintro (z | ⟨b', c, h1, h2, h3, h4, h5⟩)
        · exact Or.inl (Or.inl z)
        · by_cases q : b' = b
          · subst q; exact Or.inr ⟨c, by omega, h4, h5⟩
          · exact Or.inl (Or.inr ⟨b', c, h1, by omega, h3, h4, h5⟩)
      · rintro ((z | ⟨b', c, h1, h2, h3, h4, h5⟩) | ⟨c, h1, h2, h3⟩)
        · exact Or.inl z
        · exact Or.inr ⟨b', c, h1, by omega, h3, h4, h5⟩
        · exact Or.inr ⟨b, c, hab, by omega, by omega, h2, h3⟩
    rcases hI with ⟨rfl, hA⟩ | ⟨rfl, hA, hB⟩ | ⟨rfl, hA, hB⟩
    · rw [if_pos rfl]
      refine ⟨2, rfl, Or.inl ⟨rfl, ?_⟩⟩
      rcases hA with ⟨a', b', h1, h2, h3, h4⟩ | ⟨b', h1, h2, h3⟩
      · exact ⟨a', b', by omega, h2, h3, h4⟩
      · exact ⟨a, b', by omega, h1, by omega, h3⟩
    · rw [if_neg (by decide)]
      by_cases q : pt L [a, b]
      · rw [p.1 q, bindE, if_neg (by decide), zletE, nI_s]
        exact ih (b + 1) fuel 2 (by omega) (by omega) (by omega) (Or.inl ⟨rfl, e2.mpr (Or.inr q)⟩)
      · rw [p.2 q, bindE, if_pos rfl, if_neg (by decide), zletE, nI_s]
        exact ih (b + 1) fuel 3 (by omega) (by omega) (by omega) (Or.inr (Or.inl ⟨rfl, fun z => (e2.mp z).elim hA q, e3.mpr (Or.inl hB)⟩))
    · rw [if_neg (by decide)]
      by_cases q : pt L [a, b]
      · rw [p.1 q, bindE, if_neg (by decide), zletE, nI_s]
        exact ih (b + 1) fuel 2 (by omega) (by omega) (by omega) (Or.inl ⟨rfl, e2.mpr (Or.inr q)⟩)
      · have t := third4 h hl ha (show b < 32 by omega) (32 - (b + 1)) (b + 1) zN (by omega) (by unfold zN; omega)
        unfold f_X8_isThirdFor
        rw [p.2 q, bindE, if_pos rfl, if_pos rfl]
        simp only [zletE]
        rw [nI_s]
        by_cases z : ∃ d, b + 1 ≤ d ∧ d < 32 ∧ pt L [a, b, d]
        · rw [t.1 z, bindE, if_neg (by decide)]
          exact ih (b + 1) fuel 3 (by omega) (by omega) (by omega) (Or.inr (Or.inl ⟨rfl, fun z => (e2.mp z).elim hA q, e3.mpr (Or.inr z)⟩))
        · rw [t.2 z, bindE, if_pos rfl]
          exact ih (b + 1) fuel (-9) (by omega) (by omega) (by omega) (Or.inr (Or.inr ⟨rfl, fun z => (e2.mp z).elim hA q, fun y => (e3.mp y).elim hB z⟩))
theorem few27 {M : ZM} {L : List Int64} (h : UA M L) (hl : L.length ≤ 200) : ∀ k a fuel v, a + k = 32 → k < fuel → I3 v (Q2 L a) (Q3 L a) → ((∃ d, a ≤ d ∧ d < 32 ∧ pt L [d]) → f_X8_fewestCases_27 27 M (fun (v1 : Int32) => some v1) fuel v (nI a) = some 1) ∧ ((¬ ∃ d, a ≤ d ∧ d < 32 ∧ pt L [d]) → ∃ w, f_X8_fewestCases_27 27 M (fun (v1 : Int32) => some v1) fuel v (nI a) = some w ∧ I3 w (Q2 L 32) (Q3 L 32)) := by
  intro k
  induction k with
  | zero =>
    intro a fuel v hi hf hI
    obtain ⟨fuel, rfl⟩ : ∃ m, fuel = m + 1 := ⟨fuel - 1, by omega⟩
    rw [f_X8_fewestCases_27, if_pos (by rw [show (32 : Int32) = nI 32 from rfl, nI_le' (by omega) (by omega)]; omega)]
    have hb : a = 32 := by omega
    subst hb
    exact ⟨fun ⟨d, h1, h2, _⟩ => by omega, fun _ => ⟨v, rfl, hI⟩⟩
  | succ k ih =>
    intro a fuel v hi hf hI
    obtain ⟨fuel, rfl⟩ : ∃ m, fuel = m + 1 := ⟨fuel - 1, by omega⟩
    rw [f_X8_fewestCases_27, if_neg (by rw [show (32 : Int32) = nI 32 from rfl, nI_le' (by omega) (by omega)]; omega)]
    have p := apb_ok h hl (show a < 32 by omega) (show a < 32 by omega) (show a < 32 by omega)
    rw [pt_a] at p
    by_cases q : pt L [a]
    · rw [p.1 q, bindE, if_neg (by decide)]
      exact ⟨fun _ => rfl, fun z => absurd ⟨a, Nat.le_refl _, by omega, q⟩ z⟩
    · rw [p.2 q, bindE, if_pos rfl, zletE, nI_s]
      have hI' : I3 v (Q2' L a (a + 1)) (Q3' L a (a + 1)) := by
        have e2 : Q2' L a (a + 1) ↔ Q2 L a := ⟨fun z => z.elim id (fun ⟨b', h1, h2, _⟩ => by omega), Or.inl⟩
        have e3 : Q3' L a (a + 1) ↔ Q3 L a := ⟨fun z => z.elim id (fun ⟨b', c, h1, h2, _⟩ => by omega), Or.inl⟩
        unfold I3 at hI ⊢
        rw [e2, e3]; exact hI
      obtain ⟨w, e, hw⟩ := few49 h hl (show a < 32 by omega) (fun (v1 : Int32) =>
          zlet (nI (a + 1)) fun (x18 : Int32) =>
          f_X8_fewestCases_27 27 M (fun (v1 : Int32) => some v1) fuel v1 x18) (32 - (a + 1)) (a + 1) zN v (by omega) (by unfold zN; omega) (by omega) hI'
      rw [e, zletE]
      have t := ih (a + 1) fuel w (by omega) (by omega) hw
      refine ⟨fun ⟨d, h1, h2, h3⟩ => t.1 ⟨d, ?_, h2, h3⟩, fun z => t.2 (fun ⟨d, h1, h2, h3⟩ => z ⟨d, by omega, h2, h3⟩)⟩
      apply Classical.byContradiction
      intro y
      exact q (by rw [show a = d by omega]; exact h3)
def wn (l : List Nat) (i : Nat) : Nat := l.getD i 0
theorem wn_app {l : List Nat} {v k : Nat} (h : k < l.length) : wn (l ++ [v]) k = wn l k := by
  unfold wn
  rw [List.getD_eq_getElem?_getD, List.getD_eq_getElem?_getD, List.getElem?_append_left h]
theorem wn_end {l : List Nat} {v : Nat} : wn (l ++ [v]) l.length = v := by
  unfold wn
  rw [List.getD_eq_getElem?_getD, List.getElem?_append_right (Nat.le_refl _), Nat.sub_self]
  rfl
theorem wn_get {l : List Nat} {i : Nat} (h : i < l.length) : wn l i = l[i] := by
  unfold wn
  rw [List.getD_eq_getElem?_getD, List.getElem?_eq_getElem h]
  rfl
theorem wn_mem {l : List Nat} {i : Nat} (h : i < l.length) : wn l i ∈ l := by
  rw [wn_get h]
  exact List.getElem_mem h
theorem wn_take {l : List Nat} {i : Nat} (h : i < l.length) : l.take i ++ [wn l i] = l.take (i + 1) := by
  rw [List.take_succ, List.getElem?_eq_getElem h, wn_get h]
  rfl
def sL (m : Nat) (p : Nat → Bool) : List Nat := (List.range m).filter p
theorem sL_len (m : Nat) (p : Nat → Bool) : (sL m p).length ≤ m := by
  have := List.length_filter_le p (List.range m)
  rw [List.length_range] at this
  exact this
theorem sL_mem {m : Nat} {p : Nat → Bool} {r : Nat} : r ∈ sL m p ↔ r < m ∧ p r = true := by
  unfold sL
  rw [List.mem_filter, List.mem_range]
theorem sL_true (m : Nat) : sL m (fun _ => true) = List.range m := by
  unfold sL
  exact List.filter_eq_self.mpr (fun _ _ => rfl)
theorem sL_ff {m : Nat} {p q : Nat → Bool} : (sL m p).filter q = sL m (fun a => q a && p a) := by
  unfold sL
  rw [List.filter_filter]
theorem sL_eq {m : Nat} {p q : Nat → Bool} : sL m p = sL m q ↔ ∀ r, r < m → p r = q r := by
  constructor
  · intro h r hr
    have h1 : r ∈ sL m p ↔ r ∈ sL m q := by rw [h]
    rw [sL_mem, sL_mem] at h1
    cases hp : p r <;> cases hq : q r
    · rfl
    · exact absurd (h1.mpr ⟨hr, hq⟩).2 (by rw [hp]; decide)
    · exact absurd (h1.mp ⟨hr, hp⟩).2 (by rw [hq]; decide)
    · rfl
  · intro h
    unfold sL
    exact List.filter_congr (fun r hr => h r (List.mem_range.mp hr))
/-- what a rule leaves over, and how many were passed over -/
noncomputable def sfp (ws : List Int32) (m k : Nat) (s : (Nat → Bool) × Nat) : (Nat → Bool) × Nat := if (List.range m).any (fun r => s.1 r && mt ws r k) = true then ((fun a => mt ws a k && s.1 a), s.2) else (s.1, s.2 + 1)
noncomputable def svp (ws : List Int32) (m : Nat) (od : List Int32) (sk : Nat → Bool) : Nat → (Nat → Bool) × Nat
  | 0 => ((fun _ => true), 0)
  | i + 1 => if sk i = true then svp ws m od sk i else sfp ws m (wa od i).toNatClampNeg (svp ws m od sk i)
theorem svp_c {ws : List Int32} {m : Nat} {od : List Int32} {sk sk' : Nat → Bool} : ∀ i, (∀ j, j < i → sk j = sk' j) → svp ws m od sk i = svp ws m od sk' i := by
  intro i
  induction i with
  | zero => intro _; rfl
  | succ i ih =>
    intro h
    rw [svp, svp, ih (fun j hj => h j (by omega)), h i (by omega)]
theorem svp_2 {ws : List Int32} {m : Nat} {od : List Int32} {sk : Nat → Bool} : ∀ i, (svp ws m od sk i).2 ≤ i := by
  intro i
  induction i with
  | zero => exact Nat.le_refl _
  | succ i ih =>
    rw [svp]
    split
    · omega
    · unfold sfp
      split
      · simp only []; omega
      · simp only []; omega
theorem any_ff {ws : List Int32} {m k : Nat} {p : Nat → Bool} : (List.range m).any (fun r => p r && mt ws r k) = true ↔ ¬ (sL m p).filter (fun a => mt ws a k) = [] := by
  rw [List.any_eq_true]
  constructor
  · rintro ⟨r, hr, e⟩ h
    rw [Bool.and_eq_true] at e
    have : r ∈ (sL m p).filter (fun a => mt ws a k) := List.mem_filter.mpr ⟨sL_mem.mpr ⟨List.mem_range.mp hr, e.1⟩, e.2⟩
    rw [h] at this
    exact absurd this List.not_mem_nil
  · intro h
    cases e : (sL m p).filter (fun a => mt ws a k) with
    | nil => exact absurd e h
    | cons r l =>
      have : r ∈ (sL m p).filter (fun a => mt ws a k) := by rw [e]; exact List.mem_cons_self ..
      rw [List.mem_filter, sL_mem] at this
      exact ⟨r, List.mem_range.mpr this.1.1, by rw [Bool.and_eq_true]; exact ⟨this.1.2, this.2⟩⟩
/-! the first: a row of those kept -/
def SA (M : ZM) (t r m : Nat) (s : (Nat → Bool) × Nat) : Prop := M.1 t 1 = nI (sL m s.1).length ∧ (∀ k, k < (sL m s.1).length → M.1 r k = nI (wn (sL m s.1) k)) ∧ M.1 t 2 = nI s.2
def SG (t r : Nat) : Prop := zr t 0 = r ∧ zn r = 200 ∧ r ≠ t ∧ (∀ b, b ∈ [19, 24, 25, 26, 29, 30] → b ∉ [t, r]) ∧ t ∈ sc1 ∧ r ∈ sc1
theorem SG31 : SG 31 32 := ⟨by decide +kernel, by decide +kernel, by decide, by decide, by decide, by decide⟩
theorem SG33 : SG 33 34 := ⟨by decide +kernel, by decide +kernel, by decide, by decide, by decide, by decide⟩
theorem km5 {ws : List Int32} {t r : Nat} (g : SG t r) (hm : Ny ws 0 ws.length ≤ 200) {k : Nat} (hk : k < 6) (K : Int32 → ZM → Option ZM) {L : List Nat} (hL : L.length ≤ 200) (hLm : ∀ x, x ∈ L → x < Ny ws 0 ws.length) : ∀ c i fuel M, i + c = L.length → c < fuel → M.1 t 1 = nI L.length → (∀ j, i ≤ j → j < L.length → M.1 r j = nI (wn L j)) → (∀ j, j < ((L.take i).filter (fun a => mt ws a k)).length → M.1 r j = nI (wn ((L.take i).filter (fun a => mt ws a k)) j)) → ((L.take i).filter (fun a => mt ws a k) = [] → ∀ j, j < L.length → M.1 r j = nI (wn L j)) → LM ws M → ∃ N, f_X6_keepMet_5 t 19 (nI k) K fuel (nI ((L.take i).filter (fun a => mt ws a k)).length) (nI i) M = K (nI (L.filter (fun a => mt ws a k)).length) N ∧ (∀ j, j < (L.filter (fun a => mt ws a k)).length → N.1 r j = nI (wn (L.filter (fun a => mt ws a k)) j)) ∧ (L.filter (fun a => mt ws a k) = [] → ∀ j, j < L.length → N.1 r j = nI (wn L j)) ∧ (∀ b, b ≠ r → N.1 b = M.1 b) ∧ N.2 = M.2 := by
  intro c
  induction c with
  | zero =>
    intro i fuel M hi hf h1 h2 h3 h4 hLM
    obtain ⟨fuel, rfl⟩ : ∃ m, fuel = m + 1 := ⟨fuel - 1, by omega⟩
    rw [f_X6_keepMet_5, h1, if_pos (by rw [nI_le' (by omega) (by omega)]; omega)]
    rw [List.take_of_length_le (by omega)] at h3 h4 ⊢
    exact ⟨M, rfl, h3, h4, fun _ _ => rfl, rfl⟩
  | succ c ih =>
    intro i fuel M hi hf h1 h2 h3 h4 hLM
    obtain ⟨fuel, rfl⟩ : ∃ m, fuel = m + 1 := ⟨fuel - 1, by omega⟩
    have hx := hLm _ (wn_mem (show i < L.length by omega))
    have hat : f_X6_at t (nI i) M = nI (wn L i) := by
      unfold f_X6_at
      rw [zletE, g.1, look_nI (by rw [g.2.1]; omega) (by omega), h2 i (Nat.le_refl _) (by omega)]
    have hfl : ((L.take i).filter (fun a => mt ws a k)).length ≤ i := Nat.le_trans (List.length_filter_le _ _) (by rw [List.length_take]; omega)
    rw [f_X6_keepMet_5, h1, if_neg (by rw [nI_le' (by omega) (by omega)]; omega)]
    simp only [zletE]
    rw [hat, isMet_ok hLM hm hx hk, nI_s, nI_s]
    have hts : (L.take (i + 1)).filter (fun a => mt ws a k) = (L.take i).filter (fun a => mt ws a k) ++ (if mt ws (wn L i) k = true then [wn L i] else []) := by
      rw [← wn_take (by omega), List.filter_append]
      congr 1
      cases h : mt ws (wn L i) k <;> simp [List.filter_cons, h]
    have t' := ih (i + 1) fuel
    rw [hts] at t'
    cases h : mt ws (wn L i) k with
    | false =>
      rw [h, if_neg (by decide), List.append_nil] at t'
      rw [if_pos (by decide)]
      exact t' M (by omega) (by omega) h1 (fun j hj hj' => h2 j (by omega) hj') h3 h4 hLM
    | true =>
      rw [h, if_pos rfl, List.length_append, List.length_singleton] at t'
      rw [if_pos rfl, if_neg (by decide), g.1, put_nI (by rw [g.2.1]; omega) (by omega)]
      have gb := fun b hb => (g.2.2.2.1 b hb)
      have F1 : Fr [t, r] M (zi M r ((L.take i).filter (fun a => mt ws a k)).length (nI (wn L i))) := Fr_zi (List.mem_cons_of_mem _ (List.mem_cons_self ..))
      obtain ⟨N, e, n1, n2, n3, n4⟩ := t' (zi M r ((L.take i).filter (fun a => mt ws a k)).length (nI (wn L i))) (by omega) (by omega) (by rw [zi_ne (Ne.symm g.2.2.1)]; exact h1) (fun j hj hj' => by rw [zi_k (by omega)]; exact h2 j (by omega) hj') (fun j hj => by
        by_cases z : j = ((L.take i).filter (fun a => mt ws a k)).length
        · rw [z, zi_eq, wn_end]
        · rw [zi_k z, wn_app (by omega)]; exact h3 j (by omega)) (fun z => absurd (List.append_eq_nil_iff.mp z).2 (by simp)) (LM_Fr hLM F1 (gb 19 (by decide)) (gb 24 (by decide)) (gb 25 (by decide)) (gb 26 (by decide)))
      exact ⟨N, e, n1, n2, fun b hb => by rw [n3 b hb]; funext j; exact zi_ne hb, n4⟩
theorem km_ok {ws : List Int32} {t r : Nat} (g : SG t r) (hm : Ny ws 0 ws.length ≤ 200) {k : Nat} (hk : k < 6) {M : ZM} {s : (Nat → Bool) × Nat} (hS : SA M t r (Ny ws 0 ws.length) s) (hLM : LM ws M) : ∃ N, f_X6_keepMet t 19 (nI k) M = some N ∧ SA N t r (Ny ws 0 ws.length) (sfp ws (Ny ws 0 ws.length) k s) ∧ Fr [t, r] M N := by
  have hlen := sL_len (Ny ws 0 ws.length) s.1
  have gb := fun b hb => (g.2.2.2.1 b hb)
  unfold f_X6_keepMet
  simp only [zletE]
  obtain ⟨N, e, n1, n2, n3, n4⟩ := km5 g hm hk (fun (v3 : Int32) (M : ZM) =>
    if v3 = 0 then (
      some (zi M t 2 ((M.1 t 2) + 1))) else (
      some (zi M t 1 v3))) (L := sL (Ny ws 0 ws.length) s.1) (by omega) (fun x hx => (sL_mem.mp hx).1) (sL (Ny ws 0 ws.length) s.1).length 0 zN M (by omega) (by unfold zN; omega) hS.1 (fun j _ hj => hS.2.1 j hj) (fun j hj => absurd hj (Nat.not_lt_zero _)) (fun _ => hS.2.1) hLM
  rw [List.take_zero, show (([] : List Nat).filter (fun a => mt ws a k)).length = 0 from rfl, nI0] at e
  rw [e]
  have hfl : ((sL (Ny ws 0 ws.length) s.1).filter (fun a => mt ws a k)).length ≤ (sL (Ny ws 0 ws.length) s.1).length := List.length_filter_le _ _
  have FN : Fr [t, r] M N := fun b hb => ⟨n3 b (fun z => hb (z ▸ List.mem_cons_of_mem _ (List.mem_cons_self ..))), by rw [n4]⟩
  unfold sfp
  by_cases q : (sL (Ny ws 0 ws.length) s.1).filter (fun a => mt ws a k) = []
  · rw [if_neg (fun z => any_ff.mp z q), if_pos (by rw [q]; exact nI0)]
    refine ⟨_, rfl, ⟨?_, fun j hj => ?_, ?_⟩, Fr_tr FN (Fr_zi (List.mem_cons_self ..))⟩
    · rw [zi_k (by decide), n3 t (Ne.symm g.2.2.1)]; exact hS.1
    · rw [zi_ne g.2.2.1]; exact n2 q j hj
    · rw [zi_eq, n3 t (Ne.symm g.2.2.1), hS.2.2, nI_s]
  · have hpos : 0 < ((sL (Ny ws 0 ws.length) s.1).filter (fun a => mt ws a k)).length := List.length_pos_iff.mpr q
    rw [if_pos (any_ff.mpr q), if_neg (by rw [← nI0, nI_inj (by omega) (by omega)]; omega)]
    rw [sL_ff] at n1 ⊢
    refine ⟨_, rfl, ⟨zi_eq, fun j hj => ?_, ?_⟩, Fr_tr FN (Fr_zi (List.mem_cons_self ..))⟩
    · rw [zi_ne g.2.2.1]; exact n1 j hj
    · rw [zi_k (by decide), n3 t (Ne.symm g.2.2.1)]; exact hS.2.2
theorem si16 {t r : Nat} (g : SG t r) (v : Int32) (K : ZM → Option ZM) {m : Nat} (hm : m ≤ 200) : ∀ c i fuel M, i + c = m → c < fuel → M.1 t 1 = nI m → (∀ j, j < i → M.1 r j = nI j) → ∃ N, f_X6_sift_16 t 19 29 v K fuel (nI i) M = K N ∧ (∀ j, j < m → N.1 r j = nI j) ∧ (∀ b, b ≠ r → N.1 b = M.1 b) ∧ N.2 = M.2 := by
  intro c
  induction c with
  | zero =>
    intro i fuel M hi hf h1 h2
    obtain ⟨fuel, rfl⟩ : ∃ m, fuel = m + 1 := ⟨fuel - 1, by omega⟩
    rw [f_X6_sift_16, h1, if_pos (by rw [nI_le' (by omega) (by omega)]; omega)]
    exact ⟨M, rfl, fun j hj => h2 j (by omega), fun _ _ => rfl, rfl⟩
  | succ c ih =>
    intro i fuel M hi hf h1 h2
    obtain ⟨fuel, rfl⟩ : ∃ m, fuel = m + 1 := ⟨fuel - 1, by omega⟩
    rw [f_X6_sift_16, h1, if_neg (by rw [nI_le' (by omega) (by omega)]; omega), g.1, put_nI (by rw [g.2.1]; omega) (by omega)]
    simp only [zletE]
    rw [nI_s]
    obtain ⟨N, e, n1, n2, n3⟩ := ih (i + 1) fuel (zi M r i (nI i)) (by omega) (by omega) (by rw [zi_ne (Ne.symm g.2.2.1)]; exact h1) (fun j hj => by
      by_cases z : j = i
      · rw [z, zi_eq]
      · rw [zi_k z]; exact h2 j (by omega))
    exact ⟨N, e, n1, fun b hb => by rw [n2 b hb]; funext j; exact zi_ne hb, n3⟩
theorem si45 {ws od : List Int32} {t r : Nat} (g : SG t r) (hm : Ny ws 0 ws.length ≤ 200) (ho : oko od) (v : Int32) (K : ZM → Option ZM) : ∀ c i fuel M, i + c = od.length → c < fuel → LH M 29 1 30 od → LM ws M → SA M t r (Ny ws 0 ws.length) (svp ws (Ny ws 0 ws.length) od (fun j => decide (wa od j = v)) i) → ∃ N, f_X6_sift_45 t 19 29 v K fuel (nI i) M = K N ∧ SA N t r (Ny ws 0 ws.length) (svp ws (Ny ws 0 ws.length) od (fun j => decide (wa od j = v)) od.length) ∧ Fr [t, r] M N := by
  have gb := fun b hb => (g.2.2.2.1 b hb)
  intro c
  induction c with
  | zero =>
    intro i fuel M hi hf hO hLM hS
    obtain ⟨fuel, rfl⟩ : ∃ m, fuel = m + 1 := ⟨fuel - 1, by omega⟩
    have := ho.1
    rw [f_X6_sift_45, zletE, show f_X4_size 29 M = nI od.length from hO.1, if_pos (by rw [nI_le' (by omega) (by omega)]; omega)]
    exact ⟨M, rfl, by rw [show od.length = i by omega]; exact hS, Fr_rf _ _⟩
  | succ c ih =>
    intro i fuel M hi hf hO hLM hS
    obtain ⟨fuel, rfl⟩ : ∃ m, fuel = m + 1 := ⟨fuel - 1, by omega⟩
    have := ho.1
    obtain ⟨k, hk, ek⟩ := ho.2.2 _ (wa_mem (show i < od.length by omega))
    have hat : f_X4_at 29 (nI i) M = wa od i := by
      unfold f_X4_at
      rw [zletE, show zr 29 0 = 30 by decide +kernel, look_nI (by rw [show zn 30 = 6 by decide +kernel]; omega) (by omega), hO.2 i (by omega)]
    rw [f_X6_sift_45, zletE, show f_X4_size 29 M = nI od.length from hO.1, if_neg (by rw [nI_le' (by omega) (by omega)]; omega)]
    simp only [zletE]
    rw [hat, nI_s]
    have t' := ih (i + 1) fuel
    rw [svp] at t'
    by_cases q : wa od i = v
    · rw [if_pos q]
      rw [if_pos (decide_eq_true q)] at t'
      exact t' M (by omega) (by omega) hO hLM hS
    · rw [if_neg q, ek]
      rw [if_neg (by rw [decide_eq_false q]; decide), ek, nI_tn (by omega)] at t'
      obtain ⟨N, e, n1, F1⟩ := km_ok g hm hk hS hLM
      rw [e, bindE]
      obtain ⟨P, e2, p1, F2⟩ := t' N (by omega) (by omega) (LH_Fr hO F1 (gb 29 (by decide)) (gb 30 (by decide))) (LM_Fr hLM F1 (gb 19 (by decide)) (gb 24 (by decide)) (gb 25 (by decide)) (gb 26 (by decide))) n1
      exact ⟨P, e2, p1, Fr_tr F1 F2⟩
theorem sift_ok {ws od : List Int32} {t r : Nat} (g : SG t r) (hm : Ny ws 0 ws.length ≤ 200) (ho : oko od) (v : Int32) {M : ZM} (hO : LH M 29 1 30 od) (hLM : LM ws M) : ∃ N, f_X6_sift t 19 29 v M = some N ∧ SA N t r (Ny ws 0 ws.length) (svp ws (Ny ws 0 ws.length) od (fun j => decide (wa od j = v)) od.length) ∧ Fr [t, r] M N := by
  have gb := fun b hb => (g.2.2.2.1 b hb)
  unfold f_X6_sift
  simp only [zletE]
  have F0 : Fr [t, r] M (zi (zi M t 2 0) t 1 (nI (Ny ws 0 ws.length))) := Fr_tr (Fr_zi (List.mem_cons_self ..)) (Fr_zi (List.mem_cons_self ..))
  have hsz : f_X2_size 19 (zi M t 2 0) = nI (Ny ws 0 ws.length) := by
    have : f_X2_size 19 (zi M t 2 0) = M.1 19 4 := zi_ne (fun e => gb 19 (by decide) (e ▸ List.mem_cons_self ..))
    rw [this]; exact hLM.1
  rw [hsz]
  obtain ⟨N1, e1, n1, n2, n3⟩ := si16 g v (fun (M : ZM) => f_X6_sift_45 t 19 29 v (fun (M : ZM) => some M) zN 0 M) hm (Ny ws 0 ws.length) 0 zN (zi (zi M t 2 0) t 1 (nI (Ny ws 0 ws.length))) (by omega) (by unfold zN; omega) zi_eq (fun j hj => by omega)
  rw [nI0] at e1
  rw [e1]
  have F1 : Fr [t, r] M N1 := Fr_tr F0 (fun b hb => ⟨n2 b (fun z => hb (z ▸ List.mem_cons_of_mem _ (List.mem_cons_self ..))), by rw [n3]⟩)
  have hS : SA N1 t r (Ny ws 0 ws.length) (svp ws (Ny ws 0 ws.length) od (fun j => decide (wa od j = v)) 0) := by
    rw [svp]
    unfold SA
    simp only []
    rw [sL_true, List.length_range]
    refine ⟨by rw [n2 t (Ne.symm g.2.2.1), zi_eq], fun k hk => ?_, by rw [n2 t (Ne.symm g.2.2.1), zi_k (by decide), zi_eq, nI0]⟩
    rw [n1 k hk]
    unfold wn
    rw [List.getD_eq_getElem?_getD, List.getElem?_range hk]
    rfl
  obtain ⟨N2, e2, s2, F2⟩ := si45 g hm ho v (fun M => some M) od.length 0 zN N1 (by omega) (by have := ho.1; unfold zN; omega) (LH_Fr hO F1 (gb 29 (by decide)) (gb 30 (by decide))) (LM_Fr hLM F1 (gb 19 (by decide)) (gb 24 (by decide)) (gb 25 (by decide)) (gb 26 (by decide))) hS
  rw [nI0] at e2
  exact ⟨N2, e2, s2, Fr_tr F1 F2⟩
/-- no rule is left out -/
noncomputable def svn (ws : List Int32) (m : Nat) (od : List Int32) : (Nat → Bool) × Nat := svp ws m od (fun _ => false) od.length
theorem svn_A {ws od : List Int32} {m : Nat} (ho : oko od) : svp ws m od (fun j => decide (wa od j = -1)) od.length = svn ws m od := by
  apply svp_c
  intro j hj
  obtain ⟨k, hk, e⟩ := ho.2.2 _ (wa_mem hj)
  rw [decide_eq_false]
  rw [e]
  exact nI_ne1 (by omega)
theorem sc_s {t r : Nat} (g : SG t r) : ∀ b, b ∈ [t, r] → b ∈ sc1 := by
  intro b hb
  simp only [List.mem_cons, List.not_mem_nil, or_false] at hb
  rcases hb with e | e
  · rw [e]; exact g.2.2.2.2.1
  · rw [e]; exact g.2.2.2.2.2
theorem wn_ext {L L' : List Nat} (h : L.length = L'.length) (h2 : ∀ j, j < L.length → wn L j = wn L' j) : L = L' := by
  apply List.ext_getElem h
  intro i hi hi'
  have := h2 i hi
  rw [wn_get hi, wn_get hi'] at this
  exact this
theorem ka2 {M : ZM} {m : Nat} (hm : m ≤ 200) {s s' : (Nat → Bool) × Nat} (h : SA M 31 32 m s) (h' : SA M 33 34 m s') : ∀ c i fuel, i + c = (sL m s.1).length → c < fuel → ((sL m s.1).length = (sL m s'.1).length → ∀ j, j < i → wn (sL m s.1) j = wn (sL m s'.1) j) → (sL m s.1 = sL m s'.1 → f_X6_keepsAs_2 31 33 M (
    if (M.1 31 1) = (M.1 33 1) then (
      some (1 : Int32)) else (
      some (0 : Int32))) fuel (nI i) = some 1) ∧ (¬ sL m s.1 = sL m s'.1 → f_X6_keepsAs_2 31 33 M (
    if (M.1 31 1) = (M.1 33 1) then (
      some (1 : Int32)) else (
      some (0 : Int32))) fuel (nI i) = some 0) := by
  have l1 := sL_len m s.1
  have l2 := sL_len m s'.1
  intro c
  induction c with
  | zero =>
    intro i fuel hi hf hp
    obtain ⟨fuel, rfl⟩ : ∃ m, fuel = m + 1 := ⟨fuel - 1, by omega⟩
    rw [f_X6_keepsAs_2, h.1, h'.1, if_pos (by rw [nI_le' (by omega) (by omega)]; omega)]
    refine ⟨fun e => by rw [e, if_pos rfl], fun e => ?_⟩
    rw [if_neg]
    intro z
    have hz := (nI_inj (by omega) (by omega)).mp z
    exact e (wn_ext hz (fun j hj => hp hz j (by omega)))
  | succ c ih =>
    intro i fuel hi hf hp
    obtain ⟨fuel, rfl⟩ : ∃ m, fuel = m + 1 := ⟨fuel - 1, by omega⟩
    have a1 : f_X6_at 31 (nI i) M = nI (wn (sL m s.1) i) := by
      unfold f_X6_at
      rw [zletE, show zr 31 0 = 32 by decide +kernel, look_nI (by rw [show zn 32 = 200 by decide +kernel]; omega) (by omega), h.2.1 i (by omega)]
    have a2 : f_X6_at 33 (nI i) M = M.1 34 i := by
      unfold f_X6_at
      rw [zletE, show zr 33 0 = 34 by decide +kernel, look_nI (by rw [show zn 34 = 200 by decide +kernel]; omega) (by omega)]
    have v1 : wn (sL m s.1) i < m := (sL_mem.mp (wn_mem (show i < (sL m s.1).length by omega))).1
    have t := ih (i + 1) fuel (by omega) (by omega)
    have hval : (sL m s.1).length = (sL m s'.1).length → M.1 34 i = nI (wn (sL m s'.1) i) ∧ wn (sL m s'.1) i < m := fun e => ⟨h'.2.1 i (by omega), (sL_mem.mp (wn_mem (show i < (sL m s'.1).length by omega))).1⟩
    rw [f_X6_keepsAs_2]
    simp only [zletE]
    rw [a1, a2, nI_s]
    rw [h.1] at t ⊢
    rw [if_neg (by rw [nI_le' (by omega) (by omega)]; omega)]
    by_cases q : nI (wn (sL m s.1) i) = M.1 34 i
    · rw [if_pos q]
      refine t (fun e j hj => ?_)
      by_cases z : j = i
      · rw [z]
        have hv := hval e
        rw [hv.1] at q
        exact (nI_inj (by omega) (by omega)).mp q
      · exact hp e j (by omega)
    · rw [if_neg q]
      refine ⟨fun e => ?_, fun _ => rfl⟩
      exfalso
      apply q
      rw [(hval (by rw [e])).1, e]
theorem ka_ok {M : ZM} {m : Nat} (hm : m ≤ 200) {s s' : (Nat → Bool) × Nat} (h : SA M 31 32 m s) (h' : SA M 33 34 m s') : (sL m s.1 = sL m s'.1 → f_X6_keepsAs 31 33 M = some 1) ∧ (¬ sL m s.1 = sL m s'.1 → f_X6_keepsAs 31 33 M = some 0) := by
  have l1 := sL_len m s.1
  have := ka2 hm h h' (sL m s.1).length 0 zN (by omega) (by unfold zN; omega) (fun _ j hj => by omega)
  rw [nI0] at this
  exact this
/-- without a rule others are left over -/
def DA (ws : List Int32) (m : Nat) (od : List Int32) (x : Nat) : Prop := ¬ sL m (svn ws m od).1 = sL m (svp ws m od (fun j => decide (wa od j = nI x)) od.length).1
theorem wa_inj {od : List Int32} (h : od.Nodup) {i j : Nat} (hi : i < od.length) (hj : j < od.length) (e : wa od i = wa od j) : i = j := by
  rw [wa_get hi, wa_get hj] at e
  have hp := List.pairwise_iff_getElem.mp h
  rcases Nat.lt_trichotomy i j with q | q | q
  · exact absurd e (hp i j hi hj q)
  · exact q
  · exact absurd e.symm (hp j i hj hi q)
theorem hA34 {ws od : List Int32} (ho : oko od) (hm : Ny ws 0 ws.length ≤ 200) : ∀ c x fuel v M, x + c = 6 → c < fuel → LH M 29 1 30 od → LM ws M → SA M 31 32 (Ny ws 0 ws.length) (svn ws (Ny ws 0 ws.length) od) → (∀ y, y < 32 → (lc v y = true ↔ y < x ∧ nI y ∈ od ∧ DA ws (Ny ws 0 ws.length) od y)) → ∃ w N, f_X11_hangs_34 0 (fun (v1 : Int32) (M : ZM) => some (v1, M)) fuel v (nI x) M = some (w, N) ∧ (∀ y, y < 32 → (lc w y = true ↔ y < 6 ∧ nI y ∈ od ∧ DA ws (Ny ws 0 ws.length) od y)) ∧ Fr [33, 34] M N := by
  intro c
  induction c with
  | zero =>
    intro x fuel v M hi hf hO hL hS hv
    obtain ⟨fuel, rfl⟩ : ∃ m, fuel = m + 1 := ⟨fuel - 1, by omega⟩
    rw [f_X11_hangs_34, if_pos (by rw [show (6 : Int32) = nI 6 from rfl, nI_le' (by omega) (by omega)]; omega)]
    exact ⟨v, M, rfl, by rw [show 6 = x by omega]; exact hv, Fr_rf _ _⟩
  | succ c ih =>
    intro x fuel v M hi hf hO hL hS hv
    obtain ⟨fuel, rfl⟩ : ∃ m, fuel = m + 1 := ⟨fuel - 1, by omega⟩
    rw [f_X11_hangs_34, if_neg (by rw [show (6 : Int32) = nI 6 from rfl, nI_le' (by omega) (by omega)]; omega), show zr 0 7 = 29 by decide +kernel, show zr 0 9 = 33 by decide +kernel, show zr 0 5 = 19 by decide +kernel, show zr 0 8 = 31 by decide +kernel]
    simp only [zletE]
    rw [nI_s]
    have same : (¬ (nI x ∈ od ∧ DA ws (Ny ws 0 ws.length) od x)) → ∀ y, y < 32 → (lc v y = true ↔ y < x + 1 ∧ nI y ∈ od ∧ DA ws (Ny ws 0 ws.length) od y) := by
      intro hn y hy
      rw [hv y hy]
      constructor
      · rintro ⟨h1, h2⟩; exact ⟨by omega, h2⟩
      · rintro ⟨h1, h2⟩
        by_cases z : y = x
        · rw [z] at h2; exact absurd h2 hn
        · exact ⟨by omega, h2⟩
    by_cases q : nI x ∈ od
    · rw [has_t hO ho.1 q, bindE, if_neg (by decide)]
      obtain ⟨N, e, s2, F⟩ := sift_ok SG33 hm ho (nI x) hO hL
      have hO2 := LH_Fr hO F (by decide) (by decide)
      have hL2 := LM_Fr hL F (by decide) (by decide) (by decide) (by decide)
      have hS2 : SA N 31 32 (Ny ws 0 ws.length) (svn ws (Ny ws 0 ws.length) od) := ⟨by rw [Fr_1 F (by decide)]; exact hS.1, fun k hk => by rw [Fr_1 F (by decide)]; exact hS.2.1 k hk, by rw [Fr_1 F (by decide)]; exact hS.2.2⟩
      have t := ka_ok hm hS2 s2
      rw [e, bindE]
      by_cases d : sL (Ny ws 0 ws.length) (svn ws (Ny ws 0 ws.length) od).1 = sL (Ny ws 0 ws.length) (svp ws (Ny ws 0 ws.length) od (fun j => decide (wa od j = nI x)) od.length).1
      · rw [t.1 d, bindE, if_neg (by decide)]
        obtain ⟨w, P, e2, hw, F2⟩ := ih (x + 1) fuel v N (by omega) (by omega) hO2 hL2 hS2 (same (fun z => z.2 d))
        exact ⟨w, P, e2, hw, Fr_tr F F2⟩
      · rw [t.2 d, bindE, if_pos rfl]
        obtain ⟨w, P, e2, hw, F2⟩ := ih (x + 1) fuel (v ||| (1 <<< (nI x &&& 31))) N (by omega) (by omega) hO2 hL2 hS2 (fun y hy => by
          rw [lc_or, sh1 x (by omega) y hy, Bool.or_eq_true, decide_eq_true_iff, hv y hy]
          constructor
          · rintro (⟨h1, h2⟩ | h)
            · exact ⟨by omega, h2⟩
            · rw [h]; exact ⟨by omega, q, d⟩
          · rintro ⟨h1, h2⟩
            by_cases z : y = x
            · exact Or.inr z
            · exact Or.inl ⟨by omega, h2⟩)
        exact ⟨w, P, e2, hw, Fr_tr F F2⟩
    · rw [has_f hO ho.1 q, bindE, if_pos rfl]
      exact ih (x + 1) fuel v M (by omega) (by omega) hO hL hS (same (fun z => q z.1))
