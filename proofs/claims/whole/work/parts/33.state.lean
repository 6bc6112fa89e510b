def RI (ws tp od a1 a2 : List Int32) (im : zI) (rf : Nat → Int32) (M : ZM) : Prop := RW M ws ∧ LH M 50 11 53 tp ∧ LH M 50 12 54 od ∧ LH M 50 13 55 a1 ∧ LH M 50 13 56 a2 ∧ (∀ k, k < 7 → M.1 51 k = rf k) ∧ M.1 50 17 = (if im.isSome = true then 1 else 0) ∧ (∀ q, im = some q → LH M 50 14 57 q.1 ∧ LH M 50 15 58 q.2.1 ∧ LH M 50 16 59 q.2.2.1 ∧ LH M 50 16 60 q.2.2.2) ∧ RF ws M
def Fs (M N : ZM) : Prop := Fr [50, 70, 71, 72, 73] M N ∧ ∀ k, k ∉ [34, 37] → N.1 50 k = M.1 50 k
theorem Fs_rf (M : ZM) : Fs M M := ⟨Fr_rf _ _, fun _ _ => rfl⟩
theorem Fs_tr {M N P : ZM} (h : Fs M N) (h' : Fs N P) : Fs M P := ⟨Fr_tr h.1 h'.1, fun k hk => (h'.2 k hk).trans (h.2 k hk)⟩
theorem Fs_zi {M : ZM} {k : Nat} {v : Int32} (hk : k ∈ [34, 37]) : Fs M (zi M 50 k v) := ⟨Fr_zi (by decide), fun j hj => zi_k (fun e => hj (e ▸ hk))⟩
theorem Fs_za {M : ZM} {a k : Nat} {v : Int32} (ha : a ∈ [71, 72, 73]) : Fs M (zi M a k v) := by
  have t : ∀ c, c ∈ [71, 72, 73] → c ∈ [50, 70, 71, 72, 73] ∧ 50 ≠ c := by decide
  exact ⟨Fr_zi (t a ha).1, fun j _ => zi_ne (t a ha).2⟩
theorem Fs_zl {M : ZM} {k : Nat} {v : Int64} : Fs M (zl M 70 k v) := ⟨Fr_zl (by decide), fun _ _ => rfl⟩
theorem Fs_r50 {M N : ZM} (h : Fs M N) : Fr r50 M N := Fr_sub h.1 (by decide)
theorem LH_q {M N : ZM} {c f r : Nat} {l : List Int32} (h : LH M c f r l) (h1 : N.1 c f = M.1 c f) (h2 : N.1 r = M.1 r) : LH N c f r l := ⟨h1.trans h.1, fun k hk => by rw [h2]; exact h.2 k hk⟩
theorem Rr_q {ws : List Int32} {M N : ZM} {s : Nat} (h : Rr ws M s) (h1 : ∀ b, b ∈ [62, 63, 64, 65, 66, 67] → N.1 b = M.1 b) (h2 : N.2 68 = M.2 68) : Rr ws N s := by
  obtain ⟨a1, a2, a3, a4, a5⟩ := h
  refine ⟨by rw [h1 65 (by decide)]; exact a1, ?_, by rw [h2]; exact a3, by rw [h1 66 (by decide)]; exact a4, by rw [h1 67 (by decide)]; exact a5⟩
  unfold AtB
  rw [h1 62 (by decide), h1 63 (by decide), h1 64 (by decide)]
  exact a2
theorem RF_q {ws : List Int32} {M N : ZM} (h : RF ws M) (h1 : ∀ b, b ∈ [62, 63, 64, 65, 66, 67] → N.1 b = M.1 b) (h2 : ∀ b, b ∈ [61, 68] → N.2 b = M.2 b) (h3 : ∀ k, k ∈ [26, 28, 29] → N.1 50 k = M.1 50 k) : RF ws N := by
  refine ⟨fun a b hab hb => ?_, by rw [h3 28 (by decide)]; exact h.2.1, by rw [h3 29 (by decide)]; exact h.2.2.1, fun q => ⟨by rw [h3 26 (by decide)]; exact (h.2.2.2 q).1, fun s hs => Rr_q ((h.2.2.2 q).2 s hs) h1 (h2 68 (by decide))⟩⟩
  unfold Wm
  rw [h2 61 (by decide)]
  exact h.1 a b hab hb
def rsc : List Nat := [51, 52, 53, 54, 55, 56, 57, 58, 59, 60, 62, 63, 64, 65, 66, 67]
theorem RI_q {ws tp od a1 a2 : List Int32} {im : zI} {rf : Nat → Int32} {M N : ZM} (h : RI ws tp od a1 a2 im rf M) (h1 : ∀ b, b ∈ rsc → N.1 b = M.1 b) (h2 : ∀ b, b ∈ [61, 68] → N.2 b = M.2 b) (h3 : ∀ k, k ∈ [10, 11, 12, 13, 14, 15, 16, 17, 26, 28, 29] → N.1 50 k = M.1 50 k) : RI ws tp od a1 a2 im rf N := by
  obtain ⟨b1, b2, b3, b4, b5, b6, b7, b8, b9⟩ := h
  refine ⟨LH_q b1 (h3 _ (by decide)) (h1 _ (by decide)), LH_q b2 (h3 _ (by decide)) (h1 _ (by decide)), LH_q b3 (h3 _ (by decide)) (h1 _ (by decide)), LH_q b4 (h3 _ (by decide)) (h1 _ (by decide)), LH_q b5 (h3 _ (by decide)) (h1 _ (by decide)), fun k hk => by rw [h1 51 (by decide)]; exact b6 k hk, by rw [h3 17 (by decide)]; exact b7, fun q hq => ?_, RF_q b9 (fun b hb => h1 b ?_) h2 (fun k hk => h3 k ?_)⟩
  · have := b8 q hq
    exact ⟨LH_q this.1 (h3 _ (by decide)) (h1 _ (by decide)), LH_q this.2.1 (h3 _ (by decide)) (h1 _ (by decide)), LH_q this.2.2.1 (h3 _ (by decide)) (h1 _ (by decide)), LH_q this.2.2.2 (h3 _ (by decide)) (h1 _ (by decide))⟩
  · have t : ∀ b, b ∈ [62, 63, 64, 65, 66, 67] → b ∈ rsc := by decide
    exact t b hb
  · have t : ∀ b, b ∈ [26, 28, 29] → b ∈ [10, 11, 12, 13, 14, 15, 16, 17, 26, 28, 29] := by decide
    exact t k hk
theorem RI_Fs {ws tp od a1 a2 : List Int32} {im : zI} {rf : Nat → Int32} {M N : ZM} (h : RI ws tp od a1 a2 im rf M) (hf : Fs M N) : RI ws tp od a1 a2 im rf N := by
  have t1 : ∀ b, b ∈ rsc → b ∉ [50, 70, 71, 72, 73] := by decide
  have t2 : ∀ b, b ∈ [61, 68] → b ∉ [50, 70, 71, 72, 73] := by decide
  have t3 : ∀ b, b ∈ [10, 11, 12, 13, 14, 15, 16, 17, 26, 28, 29] → b ∉ [34, 37] := by decide
  exact RI_q h (fun b hb => (hf.1 b (t1 b hb)).1) (fun b hb => (hf.1 b (t2 b hb)).2) (fun k hk => hf.2 k (t3 k hk))
theorem RI_c {ws tp od a1 a2 : List Int32} {im : zI} {rf : Nat → Int32} {M N : ZM} (h : RI ws tp od a1 a2 im rf M) (hf : Fr c50 M N) : RI ws tp od a1 a2 im rf N := by
  have t1 : ∀ b, b ∈ rsc → b ∉ c50 := by decide
  have t2 : ∀ b, b ∈ [61, 68] → b ∉ c50 := by decide
  exact RI_q h (fun b hb => (hf b (t1 b hb)).1) (fun b hb => (hf b (t2 b hb)).2) (fun k _ => Fr_1 hf (by decide) k)
theorem CI_r {ws tp od a1 a2 : List Int32} {im : zI} {rf : Nat → Int32} {M N : ZM} (h : CI ws tp od a1 a2 im rf M) (hF : Fr r50 M N) : CI ws tp od a1 a2 im rf N := by
  obtain ⟨h1, h2, h3, h4, h5, h6, h7, h8, h9, hA, hB⟩ := h
  refine ⟨WH_Fr h1 hF (by decide) (by decide +kernel), WH_Fr h2 hF (by decide) (by decide +kernel), LH_Fr h3 hF (by decide) (by decide), LH_Fr h4 hF (by decide) (by decide), LH_Fr h5 hF (by decide) (by decide), fun k hk => by rw [Fr_1 hF (by decide)]; exact h6 k hk, by rw [Fr_1 hF (by decide)]; exact h7, fun q hq => ?_, fun i hi => by rw [Fr_2 hF (by decide)]; exact h9 i hi, fun i j hi hj' => ⟨by rw [Fr_2 hF (by decide)]; exact (hA i j hi hj').1, by rw [Fr_2 hF (by decide)]; exact (hA i j hi hj').2⟩, ?_⟩
  · have := h8 q hq
    exact ⟨WH_Fr this.1 hF (by decide) (by decide +kernel), LH_Fr this.2.1 hF (by decide) (by decide), LH_Fr this.2.2.1 hF (by decide) (by decide), LH_Fr this.2.2.2 hF (by decide) (by decide)⟩
  · rcases hB with hB | hB
    · left; rw [Fr_1 hF (by decide)]; exact hB
    · right
      exact ⟨by rw [Fr_1 hF (by decide)]; exact hB.1, hB.2.1, LM_Fr hB.2.2 hF (by decide) (by decide) (by decide) (by decide)⟩
theorem rref_ok {ws tp od a1 a2 : List Int32} {im : zI} {rf : Nat → Int32} {M : ZM} (h : RI ws tp od a1 a2 im rf M) {v : Int32} {k : Nat} (hv : -v = nI k) (hk : k < 7) : ∃ N, f_X12_refuse 50 v M = some (v, N) ∧ RI ws tp od a1 a2 im (rfb rf k) N ∧ Fr r50 M N := by
  unfold f_X12_refuse
  simp only [zletE]
  have z : zin (nI k) (zn 51) = true := by rw [show zn 51 = 7 by decide +kernel]; exact zin_t hk (by omega)
  rw [hv, show zr 50 0 = 51 by decide +kernel, zckT z, zckT z, nI_tn (by omega)]
  refine ⟨_, rfl, ?_, Fr_sub (Fr_zi (cs := [51]) (by decide)) (by decide)⟩
  obtain ⟨b1, b2, b3, b4, b5, b6, b7, b8, b9⟩ := h
  have g : ∀ b, b ≠ 51 → (zi M 51 k (M.1 51 k + 1)).1 b = M.1 b := fun b hb => funext fun j => zi_ne hb
  refine ⟨LH_q b1 (zi_ne (by decide)) (g _ (by decide)), LH_q b2 (zi_ne (by decide)) (g _ (by decide)), LH_q b3 (zi_ne (by decide)) (g _ (by decide)), LH_q b4 (zi_ne (by decide)) (g _ (by decide)), LH_q b5 (zi_ne (by decide)) (g _ (by decide)), ?_, by rw [zi_ne (by decide)]; exact b7, fun q hq => ?_, RF_q b9 (fun b hb => g b ?_) (fun b _ => rfl) (fun j _ => zi_ne (by decide))⟩
  · intro j hj'
    unfold rfb
    by_cases q : j = k
    · subst q; rw [zi_eq, if_pos rfl, b6 j hj']
    · rw [zi_k q, if_neg q, b6 j hj']
  · have := b8 q hq
    exact ⟨LH_q this.1 (zi_ne (by decide)) (g _ (by decide)), LH_q this.2.1 (zi_ne (by decide)) (g _ (by decide)), LH_q this.2.2.1 (zi_ne (by decide)) (g _ (by decide)), LH_q this.2.2.2 (zi_ne (by decide)) (g _ (by decide))⟩
  · have t : ∀ b, b ∈ [62, 63, 64, 65, 66, 67] → b ≠ 51 := by decide
    exact t b hb
/-- both of them together -/
def JJ (M : ZM) : Prop := ∃ (ws tp od a1 a2 : List Int32) (im : zI) (rf : Nat → Int32), PS ws tp od a1 a2 im ∧ CI ws tp od a1 a2 im rf M ∧ RI ws tp od a1 a2 im rf M
/-! a call of both answers alike -/
def Al (x : Option (Int32 × ZM)) (y : ZM → Option (Int32 × ZM)) : Prop := ∃ a N P, x = some (a, N) ∧ y N = some (a, P) ∧ JJ P
def Al2 (x : Option (Int64 × ZM)) (y : ZM → Option (Int64 × ZM)) : Prop := ∃ a N P, x = some (a, N) ∧ y N = some (a, P) ∧ JJ P
/-- a number in a row, or not -/
theorem in_or (m : Nat) (hm : m < 2147483648) (v : Int32) : (∃ r, r < m ∧ v = nI r) ∨ (v < 0 ∨ nI m ≤ v) := by
  by_cases h : v < 0
  · exact Or.inr (Or.inl h)
  · obtain ⟨e, hb⟩ := v_nI h
    by_cases q : v.toNatClampNeg < m
    · exact Or.inl ⟨_, q, e⟩
    · refine Or.inr (Or.inr ?_)
      rw [e, nI_le' hm hb]
      omega
theorem isIn_t {m r : Nat} (h : r < m) (hm : m < 2147483648) (M : ZM) : f_X12_isIn (nI r) (nI m) M = 1 := by
  unfold f_X12_isIn
  rw [if_neg (nI_nn (by omega)), if_neg (by rw [nI_le' (by omega) (by omega)]; omega)]
theorem isIn_f {m : Nat} {v : Int32} (h : v < 0 ∨ nI m ≤ v) (M : ZM) : f_X12_isIn v (nI m) M = 0 := by
  unfold f_X12_isIn
  by_cases q : v < 0
  · rw [if_pos q]
  · rw [if_neg q, if_pos (h.resolve_left q)]
theorem noR_t {ws : List Int32} {N : ZM} (hL : LM ws N) (hm : Ny ws 0 ws.length ≤ 200) {r : Nat} (h : r < Ny ws 0 ws.length) : f_X11_noReading 0 (nI r) N = 0 := by
  unfold f_X11_noReading
  rw [if_neg (nI_nn (by omega)), zletE, show zr 0 5 = 19 by decide +kernel, show f_X2_size 19 N = nI (Ny ws 0 ws.length) from hL.1, if_pos (by rw [nJ_lt (by omega) (by omega)]; omega)]
theorem noR_f {ws : List Int32} {N : ZM} (hL : LM ws N) {v : Int32} (h : v < 0 ∨ nI (Ny ws 0 ws.length) ≤ v) : f_X11_noReading 0 v N = 1 := by
  unfold f_X11_noReading
  by_cases q : v < 0
  · rw [if_pos q]
  · rw [if_neg q, zletE, show zr 0 5 = 19 by decide +kernel, show f_X2_size 19 N = nI (Ny ws 0 ws.length) from hL.1, if_neg (Int32.not_lt.mpr (h.resolve_left q))]
theorem noC_t {c : Nat} (h : c < 32) (N : ZM) : f_X11_noCase (nI c) N = 0 := by
  unfold f_X11_noCase
  rw [if_neg (nI_nn (by omega)), if_pos (by rw [show (32 : Int32) = nI 32 from rfl, nJ_lt (by omega) (by omega)]; omega)]
theorem noC_f {v : Int32} (h : v < 0 ∨ nI 32 ≤ v) (N : ZM) : f_X11_noCase v N = 1 := by
  unfold f_X11_noCase
  by_cases q : v < 0
  · rw [if_pos q]
  · rw [if_neg q, show (32 : Int32) = nI 32 from rfl, if_neg (Int32.not_lt.mpr (h.resolve_left q))]
theorem noU_t {c : Nat} (h : c < 6) (N : ZM) : f_X11_noRule (nI c) N = 0 := by
  unfold f_X11_noRule
  rw [if_neg (nI_nn (by omega)), if_pos (by rw [show (6 : Int32) = nI 6 from rfl, nJ_lt (by omega) (by omega)]; omega)]
theorem noU_f {v : Int32} (h : v < 0 ∨ nI 6 ≤ v) (N : ZM) : f_X11_noRule v N = 1 := by
  unfold f_X11_noRule
  by_cases q : v < 0
  · rw [if_pos q]
  · rw [if_neg q, show (6 : Int32) = nI 6 from rfl, if_neg (Int32.not_lt.mpr (h.resolve_left q))]
theorem wrong_t {ws tp od a1 a2 : List Int32} {im : zI} {rf : Nat → Int32} {M : ZM} (h : RI ws tp od a1 a2 im rf M) (hm : Ny ws 0 ws.length ≤ 200) {r : Nat} (hr : r < Ny ws 0 ws.length) : f_X12_wrong 50 (nI r) M = 0 := by
  have hF := h.2.2.2.2.2.2.2.2
  unfold f_X12_wrong
  rw [hF.2.2.1, if_pos hm, if_neg (by decide), zletE, (hF.2.2.2 hm).1, isIn_t hr (by omega), if_neg (by decide)]
theorem wrong_f {ws tp od a1 a2 : List Int32} {im : zI} {rf : Nat → Int32} {M : ZM} (h : RI ws tp od a1 a2 im rf M) (hm : Ny ws 0 ws.length ≤ 200) {v : Int32} (hv : v < 0 ∨ nI (Ny ws 0 ws.length) ≤ v) : f_X12_wrong 50 v M = -1 := by
  have hF := h.2.2.2.2.2.2.2.2
  unfold f_X12_wrong
  rw [hF.2.2.1, if_pos hm, if_neg (by decide), zletE, (hF.2.2.2 hm).1, isIn_f hv, if_pos rfl]
theorem wrong_s {ws tp od a1 a2 : List Int32} {im : zI} {rf : Nat → Int32} {M : ZM} (h : RI ws tp od a1 a2 im rf M) (hm : ¬ Ny ws 0 ws.length ≤ 200) (v : Int32) : f_X12_wrong 50 v M = -5 := by
  have hF := h.2.2.2.2.2.2.2.2
  unfold f_X12_wrong
  rw [hF.2.2.1, if_neg hm, if_pos rfl]
theorem L29_t {ws tp od a1 a2 : List Int32} {im : zI} {rf : Nat → Int32} {M : ZM} (h : RI ws tp od a1 a2 im rf M) (hm : Ny ws 0 ws.length ≤ 200) : ¬ M.1 50 29 = 0 := by
  rw [h.2.2.2.2.2.2.2.2.2.2.1, if_pos hm]; decide
theorem L29_f {ws tp od a1 a2 : List Int32} {im : zI} {rf : Nat → Int32} {M : ZM} (h : RI ws tp od a1 a2 im rf M) (hm : ¬ Ny ws 0 ws.length ≤ 200) : M.1 50 29 = 0 := by
  rw [h.2.2.2.2.2.2.2.2.2.2.1, if_neg hm]
theorem L26 {ws tp od a1 a2 : List Int32} {im : zI} {rf : Nat → Int32} {M : ZM} (h : RI ws tp od a1 a2 im rf M) (hm : Ny ws 0 ws.length ≤ 200) : M.1 50 26 = nI (Ny ws 0 ws.length) := (h.2.2.2.2.2.2.2.2.2.2.2 hm).1
theorem LRr {ws tp od a1 a2 : List Int32} {im : zI} {rf : Nat → Int32} {M : ZM} (h : RI ws tp od a1 a2 im rf M) (hm : Ny ws 0 ws.length ≤ 200) {s : Nat} (hs : s < Ny ws 0 ws.length) : Rr ws M s := (h.2.2.2.2.2.2.2.2.2.2.2 hm).2 s hs
/-! bits -/
theorem lb1 : ∀ k, k < 64 → lb 1 k = decide (k = 0) := by decide +kernel
theorem and1 (y : Int64) : y &&& 1 = if lb y 0 = true then 1 else 0 := by
  apply lb_ext
  intro k hk
  rw [lb_and, lb1 k hk]
  by_cases q : k = 0
  · subst q
    cases h : lb y 0 with
    | true => rw [if_pos rfl, lb1 0 (by omega)]; rfl
    | false => rw [if_neg (by decide), lb_0]; rfl
  · rw [decide_eq_false q, Bool.and_false]
    cases h : lb y 0 with
    | true => rw [if_pos rfl, lb1 k hk, decide_eq_false q]
    | false => rw [if_neg (by decide), lb_0]
theorem shU : ∀ c, c < 32 → ((((nI c).toInt64.toUInt64 &&& Int64.toUInt64 63).toBitVec % 64).toNat = c) := by decide +kernel
theorem shI : ∀ c, c < 32 → ((((nI c).toInt64 &&& 63).toBitVec.smod 64).toNat = c) := by decide +kernel
theorem bitL {x : Int64} {c : Nat} (h : c < 32) (M : ZM) : f_X11_bit x (nI c) M = if lb x c = true then 1 else 0 := by
  unfold f_X11_bit
  rw [and1]
  have e : lb ((x.toUInt64 >>> ((nI c).toInt64.toUInt64 &&& Int64.toUInt64 63)).toInt64) 0 = lb x c := by
    show (x.toUInt64 >>> ((nI c).toInt64.toUInt64 &&& Int64.toUInt64 63)).toBitVec.getLsbD 0 = x.toBitVec.getLsbD c
    rw [UInt64.toBitVec_shiftRight, BitVec.ushiftRight_eq', BitVec.getLsbD_ushiftRight, shU c h, Nat.add_zero]
    rfl
  rw [e]
  split <;> decide
theorem doesL {M : ZM} {r c : Nat} (hr : r < 200) (h : c < 32) : f_X12_does 50 (nI r) (nI c) M = some (if lb (M.2 68 r) c = true then 1 else 0) := by
  unfold f_X12_does
  rw [z68, zckT (i68 hr), nI_tn (by omega), and1]
  have e : lb (M.2 68 r >>> ((nI c).toInt64 &&& 63)) 0 = lb (M.2 68 r) c := by
    show (M.2 68 r >>> ((nI c).toInt64 &&& 63)).toBitVec.getLsbD 0 = (M.2 68 r).toBitVec.getLsbD c
    rw [Int64.toBitVec_shiftRight, BitVec.sshiftRight_eq', BitVec.getLsbD_sshiftRight, shI c h]
    have e2 : c + 0 < 64 := by omega
    simp [e2]
    intro hh
    exact absurd hh (by omega)
  rw [e]
  cases lb (M.2 68 r) c with
  | true => rw [if_pos rfl, if_pos rfl, if_pos (by rw [lg_cmp_eq])]
  | false => rw [if_neg (by decide), if_neg (by decide)]
/-- a bit of an int -/
def lc (x : Int32) (k : Nat) : Bool := x.toBitVec.getLsbD k
theorem lc_ext {x y : Int32} (h : ∀ k, k < 32 → lc x k = lc y k) : x = y := Int32.toBitVec_inj.mp (BitVec.eq_of_getLsbD_eq h)
theorem lc_and (x y : Int32) (k : Nat) : lc (x &&& y) k = (lc x k && lc y k) := by unfold lc; rw [Int32.toBitVec_and, BitVec.getLsbD_and]
theorem lc_or (x y : Int32) (k : Nat) : lc (x ||| y) k = (lc x k || lc y k) := by unfold lc; rw [Int32.toBitVec_or, BitVec.getLsbD_or]
theorem lc_0 (k : Nat) : lc 0 k = false := by
  show (BitVec.ofNat 32 0).getLsbD k = false
  rw [BitVec.getLsbD_ofNat, Nat.zero_testBit, Bool.and_false]
theorem lc1 : ∀ k, k < 32 → lc 1 k = decide (k = 0) := by decide +kernel
theorem cand1 (y : Int32) : y &&& 1 = if lc y 0 = true then 1 else 0 := by
  apply lc_ext
  intro k hk
  rw [lc_and, lc1 k hk]
  by_cases q : k = 0
  · subst q
    cases h : lc y 0 with
    | true => rw [if_pos rfl, lc1 0 (by omega)]; rfl
    | false => rw [if_neg (by decide), lc_0]; rfl
  · rw [decide_eq_false q, Bool.and_false]
    cases h : lc y 0 with
    | true => rw [if_pos rfl, lc1 k hk, decide_eq_false q]
    | false => rw [if_neg (by decide), lc_0]
theorem shC : ∀ c, c < 32 → (((nI c &&& 31).toBitVec.smod 32).toNat = c) := by decide +kernel
theorem bitC {x : Int32} {c : Nat} (h : c < 32) : (x >>> (nI c &&& 31)) &&& 1 = if lc x c = true then 1 else 0 := by
  rw [cand1]
  have e : lc (x >>> (nI c &&& 31)) 0 = lc x c := by
    show (x >>> (nI c &&& 31)).toBitVec.getLsbD 0 = x.toBitVec.getLsbD c
    rw [Int32.toBitVec_shiftRight, BitVec.sshiftRight_eq', BitVec.getLsbD_sshiftRight, shC c h]
    have e2 : c + 0 < 32 := by omega
    simp [e2]
    intro hh
    exact absurd hh (by omega)
  rw [e]
theorem lb_lc {x : Int32} {c : Nat} (h : c < 32) : lb x.toInt64 c = lc x c := by
  show x.toInt64.toBitVec.getLsbD c = x.toBitVec.getLsbD c
  rw [show x.toInt64.toBitVec = x.toBitVec.signExtend 64 from rfl, BitVec.getLsbD_signExtend, if_pos h, decide_eq_true (by omega), Bool.true_and]
/-- which rules are met -/
noncomputable def mt (ws : List Int32) (r k : Nat) : Bool := lc (Mt ws r) k
theorem isMet_ok {ws : List Int32} {N : ZM} (hL : LM ws N) (hm : Ny ws 0 ws.length ≤ 200) {r k : Nat} (hr : r < Ny ws 0 ws.length) (hk : k < 6) : f_X2_isMet 19 (nI r) (nI k) N = if mt ws r k = true then 1 else 0 := by
  unfold f_X2_isMet
  simp only [zletE]
  rw [show zr 19 3 = 26 by decide +kernel, look_nI (by rw [show zn 26 = 200 by decide +kernel]; omega) (by omega), (hL.2 r hr).2.2, bitL (by omega), lb_lc (by omega)]
  unfold mt
  split
  · rw [if_pos rfl]
  · rw [if_neg (by decide)]
theorem mea_ok {ws : List Int32} {N : ZM} (hL : LM ws N) (hm : Ny ws 0 ws.length ≤ 200) {r : Nat} (hr : r < Ny ws 0 ws.length) : f_X2_meaning 19 (nI r) N = Me ws r := by
  unfold f_X2_meaning
  rw [zletE, show zr 19 1 = 24 by decide +kernel, lookl_nI (by rw [show zn 24 = 200 by decide +kernel]; omega) (by omega), (hL.2 r hr).1]
theorem idl_ok {ws : List Int32} {N : ZM} (hL : LM ws N) (hm : Ny ws 0 ws.length ≤ 200) {r : Nat} (hr : r < Ny ws 0 ws.length) : f_X2_idlePlaces 19 (nI r) N = Ix ws r := by
  unfold f_X2_idlePlaces
  rw [zletE, show zr 19 2 = 25 by decide +kernel, look_nI (by rw [show zn 25 = 200 by decide +kernel]; omega) (by omega), (hL.2 r hr).2.1]
