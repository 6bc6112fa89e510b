theorem CI_tp {ws tp od a1 a2 : List Int32} {im : zI} {rf : Nat → Int32} {M N : ZM} (h : CI ws tp od a1 a2 im rf M) (hF : Fr [1, 2] M N) {tp' : List Int32} (g : WH N 1 tp') : CI ws tp' od a1 a2 im rf N := by
  obtain ⟨h1, h2, h3, h4, h5, h6, h7, h8, h9, hA, hB⟩ := h
  exact ⟨g, WH_Fr h2 hF (by decide) (by decide +kernel), LH_Fr h3 hF (by decide) (by decide), LH_Fr h4 hF (by decide) (by decide), LH_Fr h5 hF (by decide) (by decide), fun k hk => by rw [Fr_1 hF (by decide)]; exact h6 k hk, by rw [Fr_1 hF (by decide)]; exact h7, fun q hq => ⟨WH_Fr (h8 q hq).1 hF (by decide) (by decide +kernel), LH_Fr (h8 q hq).2.1 hF (by decide) (by decide), LH_Fr (h8 q hq).2.2.1 hF (by decide) (by decide), LH_Fr (h8 q hq).2.2.2 hF (by decide) (by decide)⟩, fun i hi => by rw [Fr_2 hF (by decide)]; exact h9 i hi, fun i j hi hj' => ⟨by rw [Fr_2 hF (by decide)]; exact (hA i j hi hj').1, by rw [Fr_2 hF (by decide)]; exact (hA i j hi hj').2⟩, hB.imp (fun hB => by rw [Fr_1 hF (by decide)]; exact hB) (fun hB => ⟨by rw [Fr_1 hF (by decide)]; exact hB.1, hB.2.1, LM_Fr hB.2.2 hF (by decide) (by decide) (by decide) (by decide)⟩)⟩
theorem CI_od {ws tp od a1 a2 : List Int32} {im : zI} {rf : Nat → Int32} {M N : ZM} (h : CI ws tp od a1 a2 im rf M) (hF : Fr [29, 30] M N) {od' : List Int32} (g : LH N 29 1 30 od') : CI ws tp od' a1 a2 im rf N := by
  obtain ⟨h1, h2, h3, h4, h5, h6, h7, h8, h9, hA, hB⟩ := h
  exact ⟨WH_Fr h1 hF (by decide) (by decide +kernel), WH_Fr h2 hF (by decide) (by decide +kernel), g, LH_Fr h4 hF (by decide) (by decide), LH_Fr h5 hF (by decide) (by decide), fun k hk => by rw [Fr_1 hF (by decide)]; exact h6 k hk, by rw [Fr_1 hF (by decide)]; exact h7, fun q hq => ⟨WH_Fr (h8 q hq).1 hF (by decide) (by decide +kernel), LH_Fr (h8 q hq).2.1 hF (by decide) (by decide), LH_Fr (h8 q hq).2.2.1 hF (by decide) (by decide), LH_Fr (h8 q hq).2.2.2 hF (by decide) (by decide)⟩, fun i hi => by rw [Fr_2 hF (by decide)]; exact h9 i hi, fun i j hi hj' => ⟨by rw [Fr_2 hF (by decide)]; exact (hA i j hi hj').1, by rw [Fr_2 hF (by decide)]; exact (hA i j hi hj').2⟩, hB.imp (fun hB => by rw [Fr_1 hF (by decide)]; exact hB) (fun hB => ⟨by rw [Fr_1 hF (by decide)]; exact hB.1, hB.2.1, LM_Fr hB.2.2 hF (by decide) (by decide) (by decide) (by decide)⟩)⟩
theorem CI_am {ws tp od a1 a2 : List Int32} {im : zI} {rf : Nat → Int32} {M N : ZM} (h : CI ws tp od a1 a2 im rf M) (hF : Fr [38, 39, 40] M N) {b1 b2 : List Int32} (g : LH N 38 2 39 b1) (g' : LH N 38 2 40 b2) : CI ws tp od b1 b2 im rf N := by
  obtain ⟨h1, h2, h3, h4, h5, h6, h7, h8, h9, hA, hB⟩ := h
  exact ⟨WH_Fr h1 hF (by decide) (by decide +kernel), WH_Fr h2 hF (by decide) (by decide +kernel), LH_Fr h3 hF (by decide) (by decide), g, g', fun k hk => by rw [Fr_1 hF (by decide)]; exact h6 k hk, by rw [Fr_1 hF (by decide)]; exact h7, fun q hq => ⟨WH_Fr (h8 q hq).1 hF (by decide) (by decide +kernel), LH_Fr (h8 q hq).2.1 hF (by decide) (by decide), LH_Fr (h8 q hq).2.2.1 hF (by decide) (by decide), LH_Fr (h8 q hq).2.2.2 hF (by decide) (by decide)⟩, fun i hi => by rw [Fr_2 hF (by decide)]; exact h9 i hi, fun i j hi hj' => ⟨by rw [Fr_2 hF (by decide)]; exact (hA i j hi hj').1, by rw [Fr_2 hF (by decide)]; exact (hA i j hi hj').2⟩, hB.imp (fun hB => by rw [Fr_1 hF (by decide)]; exact hB) (fun hB => ⟨by rw [Fr_1 hF (by decide)]; exact hB.1, hB.2.1, LM_Fr hB.2.2 hF (by decide) (by decide) (by decide) (by decide)⟩)⟩
theorem CI_im {ws tp od a1 a2 : List Int32} {im : zI} {rf : Nat → Int32} {M N : ZM} (h : CI ws tp od a1 a2 im rf M) (hF : Fr [41, 42, 43, 44, 45, 46, 47, 48] M N) {im' : zI} (g : N.1 41 3 = (if im'.isSome = true then 1 else 0)) (g' : ∀ q, im' = some q → WH N 42 q.1 ∧ LH N 44 1 45 q.2.1 ∧ LH N 46 2 47 q.2.2.1 ∧ LH N 46 2 48 q.2.2.2) : CI ws tp od a1 a2 im' rf N := by
  obtain ⟨h1, h2, h3, h4, h5, h6, h7, h8, h9, hA, hB⟩ := h
  exact ⟨WH_Fr h1 hF (by decide) (by decide +kernel), WH_Fr h2 hF (by decide) (by decide +kernel), LH_Fr h3 hF (by decide) (by decide), LH_Fr h4 hF (by decide) (by decide), LH_Fr h5 hF (by decide) (by decide), fun k hk => by rw [Fr_1 hF (by decide)]; exact h6 k hk, g, g', fun i hi => by rw [Fr_2 hF (by decide)]; exact h9 i hi, fun i j hi hj' => ⟨by rw [Fr_2 hF (by decide)]; exact (hA i j hi hj').1, by rw [Fr_2 hF (by decide)]; exact (hA i j hi hj').2⟩, hB.imp (fun hB => by rw [Fr_1 hF (by decide)]; exact hB) (fun hB => ⟨by rw [Fr_1 hF (by decide)]; exact hB.1, hB.2.1, LM_Fr hB.2.2 hF (by decide) (by decide) (by decide) (by decide)⟩)⟩
theorem CI_we {ws tp od a1 a2 : List Int32} {im : zI} {rf : Nat → Int32} {M N : ZM} (h : CI ws tp od a1 a2 im rf M) (hF : Fr [3, 4, 8, 9, 19] M N) {ws' : List Int32} (g1 : WH N 3 ws') (g2 : Wd N) (g3 : Wy ws' N) (g4 : N.1 19 5 = 0) : CI ws' tp od a1 a2 im rf N := by
  obtain ⟨h1, h2, h3, h4, h5, h6, h7, h8, h9, hA, hB⟩ := h
  exact ⟨WH_Fr h1 hF (by decide) (by decide +kernel), g1, LH_Fr h3 hF (by decide) (by decide), LH_Fr h4 hF (by decide) (by decide), LH_Fr h5 hF (by decide) (by decide), fun k hk => by rw [Fr_1 hF (by decide)]; exact h6 k hk, by rw [Fr_1 hF (by decide)]; exact h7, fun q hq => ⟨WH_Fr (h8 q hq).1 hF (by decide) (by decide +kernel), LH_Fr (h8 q hq).2.1 hF (by decide) (by decide), LH_Fr (h8 q hq).2.2.1 hF (by decide) (by decide), LH_Fr (h8 q hq).2.2.2 hF (by decide) (by decide)⟩, g2, g3, Or.inl g4⟩
theorem RI_tp {ws tp od a1 a2 : List Int32} {im : zI} {rf : Nat → Int32} {M N : ZM} (h : RI ws tp od a1 a2 im rf M) (h1 : ∀ b, b ∈ [51, 52, 54, 55, 56, 57, 58, 59, 60, 62, 63, 64, 65, 66, 67] → N.1 b = M.1 b) (h2 : ∀ b, b ∈ [61, 68] → N.2 b = M.2 b) (h3 : ∀ k, k ∈ [10, 12, 13, 14, 15, 16, 17, 26, 28, 29] → N.1 50 k = M.1 50 k) {tp' : List Int32} (g : LH N 50 11 53 tp') : RI ws tp' od a1 a2 im rf N := by
  obtain ⟨b1, b2, b3, b4, b5, b6, b7, b8, b9⟩ := h
  have t1 : ∀ b, b ∈ [62, 63, 64, 65, 66, 67] → b ∈ [51, 52, 54, 55, 56, 57, 58, 59, 60, 62, 63, 64, 65, 66, 67] := by decide
  have t2 : ∀ b, b ∈ [26, 28, 29] → b ∈ [10, 12, 13, 14, 15, 16, 17, 26, 28, 29] := by decide
  exact ⟨LH_q b1 (h3 _ (by decide)) (h1 _ (by decide)), g, LH_q b3 (h3 _ (by decide)) (h1 _ (by decide)), LH_q b4 (h3 _ (by decide)) (h1 _ (by decide)), LH_q b5 (h3 _ (by decide)) (h1 _ (by decide)), fun k hk => by rw [h1 51 (by decide)]; exact b6 k hk, by rw [h3 17 (by decide)]; exact b7, fun q hq => ⟨LH_q (b8 q hq).1 (h3 _ (by decide)) (h1 _ (by decide)), LH_q (b8 q hq).2.1 (h3 _ (by decide)) (h1 _ (by decide)), LH_q (b8 q hq).2.2.1 (h3 _ (by decide)) (h1 _ (by decide)), LH_q (b8 q hq).2.2.2 (h3 _ (by decide)) (h1 _ (by decide))⟩, RF_q b9 (fun b hb => h1 b (t1 b hb)) h2 (fun k hk => h3 k (t2 k hk))⟩
theorem RI_od {ws tp od a1 a2 : List Int32} {im : zI} {rf : Nat → Int32} {M N : ZM} (h : RI ws tp od a1 a2 im rf M) (h1 : ∀ b, b ∈ [51, 52, 53, 55, 56, 57, 58, 59, 60, 62, 63, 64, 65, 66, 67] → N.1 b = M.1 b) (h2 : ∀ b, b ∈ [61, 68] → N.2 b = M.2 b) (h3 : ∀ k, k ∈ [10, 11, 13, 14, 15, 16, 17, 26, 28, 29] → N.1 50 k = M.1 50 k) {od' : List Int32} (g : LH N 50 12 54 od') : RI ws tp od' a1 a2 im rf N := by
  obtain ⟨b1, b2, b3, b4, b5, b6, b7, b8, b9⟩ := h
  have t1 : ∀ b, b ∈ [62, 63, 64, 65, 66, 67] → b ∈ [51, 52, 53, 55, 56, 57, 58, 59, 60, 62, 63, 64, 65, 66, 67] := by decide
  have t2 : ∀ b, b ∈ [26, 28, 29] → b ∈ [10, 11, 13, 14, 15, 16, 17, 26, 28, 29] := by decide
  exact ⟨LH_q b1 (h3 _ (by decide)) (h1 _ (by decide)), LH_q b2 (h3 _ (by decide)) (h1 _ (by decide)), g, LH_q b4 (h3 _ (by decide)) (h1 _ (by decide)), LH_q b5 (h3 _ (by decide)) (h1 _ (by decide)), fun k hk => by rw [h1 51 (by decide)]; exact b6 k hk, by rw [h3 17 (by decide)]; exact b7, fun q hq => ⟨LH_q (b8 q hq).1 (h3 _ (by decide)) (h1 _ (by decide)), LH_q (b8 q hq).2.1 (h3 _ (by decide)) (h1 _ (by decide)), LH_q (b8 q hq).2.2.1 (h3 _ (by decide)) (h1 _ (by decide)), LH_q (b8 q hq).2.2.2 (h3 _ (by decide)) (h1 _ (by decide))⟩, RF_q b9 (fun b hb => h1 b (t1 b hb)) h2 (fun k hk => h3 k (t2 k hk))⟩
theorem RI_am {ws tp od a1 a2 : List Int32} {im : zI} {rf : Nat → Int32} {M N : ZM} (h : RI ws tp od a1 a2 im rf M) (h1 : ∀ b, b ∈ [51, 52, 53, 54, 57, 58, 59, 60, 62, 63, 64, 65, 66, 67] → N.1 b = M.1 b) (h2 : ∀ b, b ∈ [61, 68] → N.2 b = M.2 b) (h3 : ∀ k, k ∈ [10, 11, 12, 14, 15, 16, 17, 26, 28, 29] → N.1 50 k = M.1 50 k) {d1 d2 : List Int32} (g : LH N 50 13 55 d1) (g' : LH N 50 13 56 d2) : RI ws tp od d1 d2 im rf N := by
  obtain ⟨b1, b2, b3, b4, b5, b6, b7, b8, b9⟩ := h
  have t1 : ∀ b, b ∈ [62, 63, 64, 65, 66, 67] → b ∈ [51, 52, 53, 54, 57, 58, 59, 60, 62, 63, 64, 65, 66, 67] := by decide
  have t2 : ∀ b, b ∈ [26, 28, 29] → b ∈ [10, 11, 12, 14, 15, 16, 17, 26, 28, 29] := by decide
  exact ⟨LH_q b1 (h3 _ (by decide)) (h1 _ (by decide)), LH_q b2 (h3 _ (by decide)) (h1 _ (by decide)), LH_q b3 (h3 _ (by decide)) (h1 _ (by decide)), g, g', fun k hk => by rw [h1 51 (by decide)]; exact b6 k hk, by rw [h3 17 (by decide)]; exact b7, fun q hq => ⟨LH_q (b8 q hq).1 (h3 _ (by decide)) (h1 _ (by decide)), LH_q (b8 q hq).2.1 (h3 _ (by decide)) (h1 _ (by decide)), LH_q (b8 q hq).2.2.1 (h3 _ (by decide)) (h1 _ (by decide)), LH_q (b8 q hq).2.2.2 (h3 _ (by decide)) (h1 _ (by decide))⟩, RF_q b9 (fun b hb => h1 b (t1 b hb)) h2 (fun k hk => h3 k (t2 k hk))⟩
theorem RI_im {ws tp od a1 a2 : List Int32} {im : zI} {rf : Nat → Int32} {M N : ZM} (h : RI ws tp od a1 a2 im rf M) (h1 : ∀ b, b ∈ [51, 52, 53, 54, 55, 56, 62, 63, 64, 65, 66, 67] → N.1 b = M.1 b) (h2 : ∀ b, b ∈ [61, 68] → N.2 b = M.2 b) (h3 : ∀ k, k ∈ [10, 11, 12, 13, 26, 28, 29] → N.1 50 k = M.1 50 k) {im' : zI} (g : N.1 50 17 = (if im'.isSome = true then 1 else 0)) (g' : ∀ q, im' = some q → LH N 50 14 57 q.1 ∧ LH N 50 15 58 q.2.1 ∧ LH N 50 16 59 q.2.2.1 ∧ LH N 50 16 60 q.2.2.2) : RI ws tp od a1 a2 im' rf N := by
  obtain ⟨b1, b2, b3, b4, b5, b6, b7, b8, b9⟩ := h
  have t1 : ∀ b, b ∈ [62, 63, 64, 65, 66, 67] → b ∈ [51, 52, 53, 54, 55, 56, 62, 63, 64, 65, 66, 67] := by decide
  have t2 : ∀ b, b ∈ [26, 28, 29] → b ∈ [10, 11, 12, 13, 26, 28, 29] := by decide
  exact ⟨LH_q b1 (h3 _ (by decide)) (h1 _ (by decide)), LH_q b2 (h3 _ (by decide)) (h1 _ (by decide)), LH_q b3 (h3 _ (by decide)) (h1 _ (by decide)), LH_q b4 (h3 _ (by decide)) (h1 _ (by decide)), LH_q b5 (h3 _ (by decide)) (h1 _ (by decide)), fun k hk => by rw [h1 51 (by decide)]; exact b6 k hk, g, g', RF_q b9 (fun b hb => h1 b (t1 b hb)) h2 (fun k hk => h3 k (t2 k hk))⟩
theorem RI_ws {ws tp od a1 a2 : List Int32} {im : zI} {rf : Nat → Int32} {M N : ZM} (h : RI ws tp od a1 a2 im rf M) (h1 : ∀ b, b ∈ [51, 53, 54, 55, 56, 57, 58, 59, 60] → N.1 b = M.1 b) (h3 : ∀ k, k ∈ [11, 12, 13, 14, 15, 16, 17] → N.1 50 k = M.1 50 k) {ws' : List Int32} (g : RW N ws') (g' : RF ws' N) : RI ws' tp od a1 a2 im rf N := by
  obtain ⟨b1, b2, b3, b4, b5, b6, b7, b8, b9⟩ := h
  exact ⟨g, LH_q b2 (h3 _ (by decide)) (h1 _ (by decide)), LH_q b3 (h3 _ (by decide)) (h1 _ (by decide)), LH_q b4 (h3 _ (by decide)) (h1 _ (by decide)), LH_q b5 (h3 _ (by decide)) (h1 _ (by decide)), fun k hk => by rw [h1 51 (by decide)]; exact b6 k hk, by rw [h3 17 (by decide)]; exact b7, fun q hq => ⟨LH_q (b8 q hq).1 (h3 _ (by decide)) (h1 _ (by decide)), LH_q (b8 q hq).2.1 (h3 _ (by decide)) (h1 _ (by decide)), LH_q (b8 q hq).2.2.1 (h3 _ (by decide)) (h1 _ (by decide)), LH_q (b8 q hq).2.2.2 (h3 _ (by decide)) (h1 _ (by decide))⟩, g'⟩
theorem wa_get {l : List Int32} {i : Nat} (h : i < l.length) : wa l i = l[i] := by
  unfold wa
  rw [List.getD_eq_getElem?_getD, List.getElem?_eq_getElem h]
  rfl
theorem mem_wa {l : List Int32} {v : Int32} : v ∈ l ↔ ∃ j, 0 ≤ j ∧ j < l.length ∧ wa l j = v := by
  rw [List.mem_iff_getElem]
  constructor
  · rintro ⟨i, h, e⟩
    exact ⟨i, Nat.zero_le _, h, by rw [wa_get h]; exact e⟩
  · rintro ⟨i, _, h, e⟩
    exact ⟨i, h, by rw [← wa_get h]; exact e⟩
theorem has2 {M : ZM} {od : List Int32} (h : LH M 29 1 30 od) (hl : od.length ≤ 6) (v : Int32) : ∀ k i fuel, i + k = od.length → k < fuel → ((∃ j, i ≤ j ∧ j < od.length ∧ wa od j = v) → f_X4_has_2 29 v M (some (0 : Int32)) fuel (nI i) = some 1) ∧ ((¬ ∃ j, i ≤ j ∧ j < od.length ∧ wa od j = v) → f_X4_has_2 29 v M (some (0 : Int32)) fuel (nI i) = some 0) := by
  intro k
  induction k with
  | zero =>
    intro i fuel hi hf
    obtain ⟨fuel, rfl⟩ : ∃ m, fuel = m + 1 := ⟨fuel - 1, by omega⟩
    rw [f_X4_has_2, h.1, if_pos (by rw [nI_le' (by omega) (by omega)]; omega)]
    exact ⟨fun ⟨j, h1, h2, _⟩ => by omega, fun _ => rfl⟩
  | succ k ih =>
    intro i fuel hi hf
    obtain ⟨fuel, rfl⟩ : ∃ m, fuel = m + 1 := ⟨fuel - 1, by omega⟩
    rw [f_X4_has_2, h.1, if_neg (by rw [nI_le' (by omega) (by omega)]; omega)]
    unfold f_X4_at
    simp only [zletE]
    rw [show zr 29 0 = 30 by decide +kernel, look_nI (by rw [show zn 30 = 6 by decide +kernel]; omega) (by omega), h.2 i (by omega), nI_s]
    have t := ih (i + 1) fuel (by omega) (by omega)
    by_cases q : wa od i = v
    · rw [if_pos q]
      exact ⟨fun _ => rfl, fun z => absurd ⟨i, Nat.le_refl _, by omega, q⟩ z⟩
    · rw [if_neg q]
      refine ⟨fun ⟨j, h1, h2, h3⟩ => t.1 ⟨j, ?_, h2, h3⟩, fun z => t.2 (fun ⟨j, h1, h2, h3⟩ => z ⟨j, by omega, h2, h3⟩)⟩
      apply Classical.byContradiction
      intro y
      exact q (by rw [← h3, show j = i by omega])
theorem has_t {M : ZM} {od : List Int32} (h : LH M 29 1 30 od) (hl : od.length ≤ 6) {v : Int32} (hv : v ∈ od) : f_X4_has 29 v M = some 1 := by
  unfold f_X4_has
  rw [← nI0]
  exact (has2 h hl v od.length 0 zN (by omega) (by unfold zN; omega)).1 (mem_wa.mp hv)
theorem has_f {M : ZM} {od : List Int32} (h : LH M 29 1 30 od) (hl : od.length ≤ 6) {v : Int32} (hv : ¬ v ∈ od) : f_X4_has 29 v M = some 0 := by
  unfold f_X4_has
  rw [← nI0]
  exact (has2 h hl v od.length 0 zN (by omega) (by unfold zN; omega)).2 (fun z => hv (mem_wa.mpr z))
theorem ch17 {M : ZM} {od : List Int32} (h : LH M 50 12 54 od) (hl : od.length ≤ 6) (v : Int32) (K : ZM → Option (Int32 × ZM)) : ∀ k i fuel, i + k = od.length → k < fuel → ((∃ j, i ≤ j ∧ j < od.length ∧ wa od j = v) → f_X12_choose_17 50 v K fuel (nI i) M = (f_X12_refuse 50 (-3) M).bind fun q => some (q.1, q.2)) ∧ ((¬ ∃ j, i ≤ j ∧ j < od.length ∧ wa od j = v) → f_X12_choose_17 50 v K fuel (nI i) M = K M) := by
  intro k
  induction k with
  | zero =>
    intro i fuel hi hf
    obtain ⟨fuel, rfl⟩ : ∃ m, fuel = m + 1 := ⟨fuel - 1, by omega⟩
    rw [f_X12_choose_17, h.1, if_pos (by rw [nI_le' (by omega) (by omega)]; omega)]
    exact ⟨fun ⟨j, h1, h2, _⟩ => by omega, fun _ => rfl⟩
  | succ k ih =>
    intro i fuel hi hf
    obtain ⟨fuel, rfl⟩ : ∃ m, fuel = m + 1 := ⟨fuel - 1, by omega⟩
    rw [f_X12_choose_17, h.1, if_neg (by rw [nI_le' (by omega) (by omega)]; omega), show zr 50 3 = 54 by decide +kernel, zckT (by rw [show zn 54 = 6 by decide +kernel]; exact zin_t (by omega) (by omega)), nI_tn (by omega), h.2 i (by omega), zletE, nI_s]
    have t := ih (i + 1) fuel (by omega) (by omega)
    by_cases q : wa od i = v
    · rw [if_pos q]
      exact ⟨fun _ => rfl, fun z => absurd ⟨i, Nat.le_refl _, by omega, q⟩ z⟩
    · rw [if_neg q]
      refine ⟨fun ⟨j, h1, h2, h3⟩ => t.1 ⟨j, ?_, h2, h3⟩, fun z => t.2 (fun ⟨j, h1, h2, h3⟩ => z ⟨j, by omega, h2, h3⟩)⟩
      apply Classical.byContradiction
      intro y
      exact q (by rw [← h3, show j = i by omega])
theorem pigeon : ∀ n (l : List Int32), n ≤ 6 → l.Nodup → (∀ x, x ∈ l → ∃ k, k < n ∧ x = nI k) → l.length ≤ n := by
  intro n
  induction n with
  | zero =>
    intro l _ _ h
    cases l with
    | nil => exact Nat.le_refl _
    | cons x l =>
      obtain ⟨k, hk, _⟩ := h x (List.mem_cons_self ..)
      omega
  | succ n ih =>
    intro l hn hd h
    by_cases q : nI n ∈ l
    · have h1 := ih (l.erase (nI n)) (by omega) (hd.erase _) (fun x hx => by
        obtain ⟨k, hk, e⟩ := h x (List.mem_of_mem_erase hx)
        have : x ≠ nI n := (hd.mem_erase_iff.mp hx).1
        exact ⟨k, by
          apply Classical.byContradiction
          intro y
          exact this (by rw [e, show k = n by omega]), e⟩)
      rw [List.length_erase_of_mem q] at h1
      omega
    · have h1 := ih l (by omega) hd (fun x hx => by
        obtain ⟨k, hk, e⟩ := h x hx
        exact ⟨k, by
          apply Classical.byContradiction
          intro y
          exact q (by rw [show n = k by omega, ← e]; exact hx), e⟩)
      omega
theorem oko_add {od : List Int32} (h : oko od) {c : Nat} (hc : c < 6) (hn : ¬ nI c ∈ od) : oko (od ++ [nI c]) ∧ od.length < 6 := by
  have hd : (od ++ [nI c]).Nodup := by
    rw [List.nodup_append]
    refine ⟨h.2.1, List.nodup_cons.mpr ⟨List.not_mem_nil, List.nodup_nil⟩, ?_⟩
    intro a ha b hb
    rw [List.mem_singleton] at hb
    intro e
    exact hn (by rw [← hb, ← e]; exact ha)
  have hm : ∀ x, x ∈ od ++ [nI c] → ∃ k, k < 6 ∧ x = nI k := by
    intro x hx
    rcases List.mem_append.mp hx with q | q
    · exact h.2.2 x q
    · rw [List.mem_singleton] at q
      exact ⟨c, hc, q⟩
  have hl := pigeon 6 _ (Nat.le_refl _) hd hm
  refine ⟨⟨hl, hd, hm⟩, ?_⟩
  rw [List.length_append, List.length_singleton] at hl
  omega
theorem LH_add {M N : ZM} {c f r : Nat} {l : List Int32} {v : Int32} (h : LH M c f r l) (h1 : N.1 c f = nI (l.length + 1)) (h2 : N.1 r l.length = v) (h3 : ∀ k, k < l.length → N.1 r k = M.1 r k) : LH N c f r (l ++ [v]) := by
  refine ⟨by rw [h1, List.length_append]; rfl, fun k hk => ?_⟩
  rw [List.length_append, List.length_singleton] at hk
  by_cases q : k = l.length
  · rw [q, h2, wa_end]
  · rw [h3 k (by omega), wa_app (by omega)]; exact h.2 k (by omega)
theorem add4_ok {M : ZM} {od : List Int32} {c r : Nat} (hz : zr c 0 = r) (hn : zn r = 6) (hne : r ≠ c) (h : LH M c 1 r od) (hl : od.length < 6) (v : Int32) : LH (f_X4_add c v M) c 1 r (od ++ [v]) ∧ Fr [c, r] M (f_X4_add c v M) := by
  have e : f_X4_add c v M = zi (zi M r od.length v) c 1 (nI (od.length + 1)) := by
    unfold f_X4_add
    simp only [zletE]
    rw [h.1, if_neg (by rw [show (6 : Int32) = nI 6 from rfl, nI_le' (by omega) (by omega)]; omega), hz, put_nI (by rw [hn]; exact hl) (by omega), zi_ne (Ne.symm hne), h.1, nI_s]
  rw [e]
  exact ⟨LH_add h zi_eq (by rw [zi_ne hne, zi_eq]) (fun k hk => by rw [zi_ne hne, zi_k (by omega)]), Fr_tr (Fr_zi (List.mem_cons_of_mem _ (List.mem_cons_self ..))) (Fr_zi (List.mem_cons_self ..))⟩
theorem m_choose (v : Int32) {M : ZM} (hJ : JJ M) : Ag (f_X11_choose 0 v M) (f_X12_choose 50 v) := by
  obtain ⟨ws, tp, od, a1, a2, im, rf, hp, hc, hr⟩ := hJ
  have ho := hp.2.2.1
  unfold f_X11_choose
  simp only [zletE]
  rcases in_or 6 (by omega) v with ⟨c, hc0, rfl⟩ | hv
  · rw [noU_t hc0, if_pos rfl, show zr 0 7 = 29 by decide +kernel]
    by_cases q : nI c ∈ od
    · rw [has_t hc.2.2.1 ho.1 q, bindE, if_neg (by decide)]
      refine refAg (fun x => x) hp hc hr (k := 3) (by decide +kernel) (by omega) (fun N' r' => ?_)
      unfold f_X12_choose
      simp only [zletE]
      rw [show (6 : Int32) = nI 6 from rfl, isIn_t hc0 (by omega), if_neg (by decide), ← nI0]
      exact (ch17 r'.2.2.1 ho.1 (nI c) _ od.length 0 zN (by omega) (by have := ho.1; unfold zN; omega)).1 (mem_wa.mp q)
    · rw [has_f hc.2.2.1 ho.1 q, bindE, if_pos rfl]
      obtain ⟨ho', hlt⟩ := oko_add ho hc0 q
      have ha := add4_ok (show zr 29 0 = 30 by decide +kernel) (show zn 30 = 6 by decide +kernel) (by decide) hc.2.2.1 hlt (nI c)
      have hr' := RI_c hr (Fr_sub ha.2 (by decide))
      have c' := CI_od hc ha.2 ha.1
      have hb := hr'.2.2.1
      have e : f_X12_choose 50 (nI c) (f_X4_add 29 (nI c) M) = some (nI (od.length + 1), zi (zi (f_X4_add 29 (nI c) M) 54 od.length (nI c)) 50 12 (nI (od.length + 1))) := by
        unfold f_X12_choose
        simp only [zletE]
        rw [show (6 : Int32) = nI 6 from rfl, isIn_t hc0 (by omega), if_neg (by decide), ← nI0, (ch17 hb ho.1 (nI c) _ od.length 0 zN (by omega) (by unfold zN; omega)).2 (fun z => q (mem_wa.mpr z)), show zr 50 3 = 54 by decide +kernel, hb.1, zckT (by rw [show zn 54 = 6 by decide +kernel]; exact zin_t (by omega) (by omega)), nI_tn (by omega), zi_eq (a := 50), zi_ne (by decide), hb.1, nI_s]
      have hR : RI ws tp (od ++ [nI c]) a1 a2 im rf (zi (zi (f_X4_add 29 (nI c) M) 54 od.length (nI c)) 50 12 (nI (od.length + 1))) := by
        have g : LH (zi (zi (f_X4_add 29 (nI c) M) 54 od.length (nI c)) 50 12 (nI (od.length + 1))) 50 12 54 (od ++ [nI c]) := LH_add hb zi_eq (by rw [zi_ne (by decide), zi_eq]) (fun k hk => by rw [zi_ne (by decide), zi_k (by omega)])
        refine RI_od hr' (fun b hb => ?_) (by intro b _; rfl) (fun k hk => ?_) g
        · have t : ∀ b, b ∈ [51, 52, 53, 55, 56, 57, 58, 59, 60, 62, 63, 64, 65, 66, 67] → b ≠ 50 ∧ b ≠ 54 := by decide
          funext k
          rw [zi_ne (t b hb).1, zi_ne (t b hb).2]
        · have t : ∀ k, k ∈ [10, 11, 13, 14, 15, 16, 17, 26, 28, 29] → k ≠ 12 := by decide
          rw [zi_k (t k hk), zi_ne (by decide)]
      refine ⟨nI (od.length + 1), _, _, ?_, e, ws, tp, od ++ [nI c], a1, a2, im, rf, ⟨hp.1, hp.2.1, ho', hp.2.2.2⟩, CI_r c' (Fr_tr (Fr_zi (by decide)) (Fr_zi (by decide))), hR⟩
      show some (f_X4_size 29 (f_X4_add 29 (nI c) M), f_X4_add 29 (nI c) M) = _
      rw [show f_X4_size 29 (f_X4_add 29 (nI c) M) = nI (od ++ [nI c]).length from ha.1.1, List.length_append]
      rfl
  · rw [noU_f hv, if_neg (by decide)]
    refine refAg (fun x => x) hp hc hr (k := 1) (by decide +kernel) (by omega) (fun N' r' => ?_)
    unfold f_X12_choose
    simp only [zletE]
    rw [show (6 : Int32) = nI 6 from rfl, isIn_f hv, if_pos rfl]
theorem m_unchoose {M : ZM} (hJ : JJ M) : Ag (some (f_X11_unchoose 0 M)) (fun N => some (f_X12_unchoose 50 N)) := by
  obtain ⟨ws, tp, od, a1, a2, im, rf, hp, hc, hr⟩ := hJ
  have hF : Fr [29, 30] M (zi M 29 1 0) := Fr_zi (by decide)
  have hr' := RI_c hr (Fr_sub hF (by decide))
  refine ⟨nI od.length, zi M 29 1 0, zi (zi M 29 1 0) 50 12 0, ?_, ?_, ws, tp, [], a1, a2, im, rf, ⟨hp.1, hp.2.1, ⟨Nat.zero_le _, List.nodup_nil, fun x hx => absurd hx List.not_mem_nil⟩, hp.2.2.2⟩, CI_r (CI_od hc hF ⟨by rw [zi_eq]; rfl, fun k hk => absurd hk (Nat.not_lt_zero _)⟩) (Fr_zi (by decide)), ?_⟩
  · unfold f_X11_unchoose f_X4_clear
    simp only [zletE]
    rw [show zr 0 7 = 29 by decide +kernel, show f_X4_size 29 M = nI od.length from hc.2.2.1.1]
  · unfold f_X12_unchoose
    simp only [zletE]
    rw [zi_ne (by decide), hr.2.2.1.1]
  · have g : LH (zi (zi M 29 1 0) 50 12 0) 50 12 54 [] := ⟨by rw [zi_eq]; rfl, fun k hk => absurd hk (Nat.not_lt_zero _)⟩
    refine RI_od hr' (fun b hb => ?_) (by intro b _; rfl) (fun k hk => ?_) g
    · have t : ∀ b, b ∈ [51, 52, 53, 55, 56, 57, 58, 59, 60, 62, 63, 64, 65, 66, 67] → b ≠ 50 ∧ b ≠ 54 := by decide
      funext k
      rw [zi_ne (t b hb).1]
    · have t : ∀ k, k ∈ [10, 11, 13, 14, 15, 16, 17, 26, 28, 29] → k ≠ 12 := by decide
      rw [zi_k (t k hk)]
theorem le_99 : ∀ v : Int32, (-99 : Int32) ≤ v ∨ ¬ (-99 : Int32) ≤ v := fun v => Classical.em _
theorem add0_ok {M : ZM} {a1 a2 : List Int32} {c r s : Nat} (hz : zr c 0 = r) (hz2 : zr c 1 = s) (hn : zn r = 8) (hn2 : zn s = 8) (h1 : r ≠ c) (h2 : s ≠ c) (h3 : r ≠ s) (h : LH M c 2 r a1) (h' : LH M c 2 s a2) (e : a2.length = a1.length) (hl : a1.length < 8) (v w : Int32) : LH (f_X0_add c v w M) c 2 r (a1 ++ [v]) ∧ LH (f_X0_add c v w M) c 2 s (a2 ++ [w]) ∧ Fr [c, r, s] M (f_X0_add c v w M) := by
  have e1 : f_X0_add c v w M = zi (zi (zi M r a1.length v) s a1.length w) c 2 (nI (a1.length + 1)) := by
    unfold f_X0_add
    simp only [zletE]
    rw [h.1, if_neg (by rw [show (8 : Int32) = nI 8 from rfl, nI_le' (by omega) (by omega)]; omega), hz, hz2, put_nI (t := r) (by rw [hn]; exact hl) (by omega), zi_ne (Ne.symm h1), h.1, put_nI (by rw [hn2]; exact hl) (by omega), zi_ne (Ne.symm h2), zi_ne (Ne.symm h1), h.1, nI_s]
  rw [e1]
  refine ⟨LH_add h zi_eq (by rw [zi_ne h1, zi_ne h3, zi_eq]) (fun k hk => by rw [zi_ne h1, zi_ne h3, zi_k (by omega)]), LH_add h' (by rw [zi_eq, e]) (by rw [zi_ne h2, e, zi_eq]) (fun k hk => by rw [zi_ne h2, zi_k (by omega), zi_ne (Ne.symm h3)]), ?_⟩
  refine Fr_tr (Fr_zi ?_) (Fr_tr (Fr_zi ?_) (Fr_zi ?_))
  · exact List.mem_cons_of_mem _ (List.mem_cons_self ..)
  · exact List.mem_cons_of_mem _ (List.mem_cons_of_mem _ (List.mem_cons_self ..))
  · exact List.mem_cons_self ..
theorem oka_add {a1 a2 : List Int32} (h : oka a1 a2) (hl : a1.length < 8) {c : Nat} (hc : c < 32) (w : Int32) : oka (a1 ++ [nI c]) (a2 ++ [w]) := by
  refine ⟨by rw [List.length_append, List.length_singleton]; omega, by rw [List.length_append, List.length_append, h.2.1]; rfl, fun x hx => ?_⟩
  rcases List.mem_append.mp hx with q | q
  · exact h.2.2 x q
  · rw [List.mem_singleton] at q
    exact ⟨c, hc, q⟩
theorem m_aim (v w : Int32) {M : ZM} (hJ : JJ M) : Ag (some (f_X11_aim 0 v w M)) (f_X12_aim 50 v w) := by
  obtain ⟨ws, tp, od, a1, a2, im, rf, hp, hc, hr⟩ := hJ
  have ha := hp.2.2.2.1
  have h8 := ha.1
  unfold f_X11_aim
  simp only [zletE]
  rcases in_or 32 (by omega) v with ⟨c, hc0, rfl⟩ | hv
  · rw [noC_t hc0, if_pos rfl, show zr 0 11 = 38 by decide +kernel]
    by_cases q1 : (-99 : Int32) ≤ w
    · rw [if_pos q1]
      by_cases q2 : (99 : Int32) < w
      · rw [if_pos q2]
        refine refAg (fun x => x) hp hc hr (k := 6) (by decide +kernel) (by omega) (fun N' r' => ?_)
        unfold f_X12_aim f_X12_within
        simp only [zletE]
        rw [show (32 : Int32) = nI 32 from rfl, isIn_t hc0 (by omega), if_neg (by decide), if_pos q1, if_neg (Int32.not_le.mpr q2), if_neg (by decide), if_neg (by decide)]
      · rw [if_neg q2, show f_X0_size 38 M = nI a1.length from hc.2.2.2.1.1]
        by_cases q3 : a1.length < 8
        · rw [if_pos (by rw [show (8 : Int32) = nI 8 from rfl, nJ_lt (by omega) (by omega)]; exact q3)]
          have hA := add0_ok (show zr 38 0 = 39 by decide +kernel) (show zr 38 1 = 40 by decide +kernel) (show zn 39 = 8 by decide +kernel) (show zn 40 = 8 by decide +kernel) (by decide) (by decide) (by decide) hc.2.2.2.1 hc.2.2.2.2.1 ha.2.1 q3 (nI c) w
          have hr' := RI_c hr (Fr_sub hA.2.2 (by decide))
          have c' := CI_am hc hA.2.2 hA.1 hA.2.1
          have hb := hr'.2.2.2.1
          have hb' := hr'.2.2.2.2.1
          have e : f_X12_aim 50 (nI c) w (f_X0_add 38 (nI c) w M) = some (nI (a1.length + 1), zi (zi (zi (f_X0_add 38 (nI c) w M) 55 a1.length (nI c)) 56 a1.length w) 50 13 (nI (a1.length + 1))) := by
            unfold f_X12_aim f_X12_within
            simp only [zletE]
            rw [show (32 : Int32) = nI 32 from rfl, isIn_t hc0 (by omega), if_neg (by decide), if_pos q1, if_pos (Int32.not_lt.mp q2), if_pos rfl, hb.1, if_neg (by rw [show (8 : Int32) = nI 8 from rfl, nI_inj (by omega) (by omega)]; omega), if_pos rfl, show zr 50 4 = 55 by decide +kernel, show zr 50 5 = 56 by decide +kernel, zckT (by rw [show zn 55 = 8 by decide +kernel]; exact zin_t (by omega) (by omega)), nI_tn (by omega), zi_ne (by decide), hb.1, zckT (by rw [show zn 56 = 8 by decide +kernel]; exact zin_t (by omega) (by omega)), nI_tn (by omega), zi_eq (a := 50), zi_ne (by decide), zi_ne (by decide), hb.1, nI_s]
          have hR : RI ws tp od (a1 ++ [nI c]) (a2 ++ [w]) im rf (zi (zi (zi (f_X0_add 38 (nI c) w M) 55 a1.length (nI c)) 56 a1.length w) 50 13 (nI (a1.length + 1))) := by
            have g : LH (zi (zi (zi (f_X0_add 38 (nI c) w M) 55 a1.length (nI c)) 56 a1.length w) 50 13 (nI (a1.length + 1))) 50 13 55 (a1 ++ [nI c]) := LH_add hb zi_eq (by rw [zi_ne (by decide), zi_ne (by decide), zi_eq]) (fun k hk => by rw [zi_ne (by decide), zi_ne (by decide), zi_k (by omega)])
            have g' : LH (zi (zi (zi (f_X0_add 38 (nI c) w M) 55 a1.length (nI c)) 56 a1.length w) 50 13 (nI (a1.length + 1))) 50 13 56 (a2 ++ [w]) := LH_add hb' (by rw [zi_eq, ha.2.1]) (by rw [zi_ne (by decide), ha.2.1, zi_eq]) (fun k hk => by have h2 := ha.2.1; rw [zi_ne (by decide), zi_k (by omega), zi_ne (by decide)])
            refine RI_am hr' (fun b hb => ?_) (by intro b _; rfl) (fun k hk => ?_) g g'
            · have t : ∀ b, b ∈ [51, 52, 53, 54, 57, 58, 59, 60, 62, 63, 64, 65, 66, 67] → b ≠ 50 ∧ b ≠ 55 ∧ b ≠ 56 := by decide
              funext k
              rw [zi_ne (t b hb).1, zi_ne (t b hb).2.2, zi_ne (t b hb).2.1]
            · have t : ∀ k, k ∈ [10, 11, 12, 14, 15, 16, 17, 26, 28, 29] → k ≠ 13 := by decide
              rw [zi_k (t k hk), zi_ne (by decide), zi_ne (by decide)]
          refine ⟨nI (a1.length + 1), _, _, ?_, e, ws, tp, od, a1 ++ [nI c], a2 ++ [w], im, rf, ⟨hp.1, hp.2.1, hp.2.2.1, oka_add ha q3 hc0 w, hp.2.2.2.2⟩, CI_r c' (Fr_tr (Fr_zi (by decide)) (Fr_tr (Fr_zi (by decide)) (Fr_zi (by decide)))), hR⟩
          show some (f_X0_size 38 (f_X0_add 38 (nI c) w M), f_X0_add 38 (nI c) w M) = _
          rw [show f_X0_size 38 (f_X0_add 38 (nI c) w M) = nI (a1 ++ [nI c]).length from hA.1.1, List.length_append]
          rfl
        · rw [if_neg (by rw [show (8 : Int32) = nI 8 from rfl, nJ_lt (by omega) (by omega)]; exact q3)]
          refine refAg (fun x => x) hp hc hr (k := 6) (by decide +kernel) (by omega) (fun N' r' => ?_)
          unfold f_X12_aim f_X12_within
          simp only [zletE]
          rw [show (32 : Int32) = nI 32 from rfl, isIn_t hc0 (by omega), if_neg (by decide), if_pos q1, if_pos (Int32.not_lt.mp q2), if_pos rfl, r'.2.2.2.1.1, if_pos (by rw [show a1.length = 8 by omega]; rfl), if_neg (by decide)]
    · rw [if_neg q1]
      refine refAg (fun x => x) hp hc hr (k := 4) (by decide +kernel) (by omega) (fun N' r' => ?_)
      unfold f_X12_aim f_X12_within
      simp only [zletE]
      rw [show (32 : Int32) = nI 32 from rfl, isIn_t hc0 (by omega), if_neg (by decide), if_neg q1, if_neg (by decide), if_neg (by decide)]
  · rw [noC_f hv, if_neg (by decide)]
    refine refAg (fun x => x) hp hc hr (k := 1) (by decide +kernel) (by omega) (fun N' r' => ?_)
    unfold f_X12_aim
    simp only [zletE]
    rw [show (32 : Int32) = nI 32 from rfl, isIn_f hv, if_pos rfl, if_neg (by decide), if_neg (by decide)]
