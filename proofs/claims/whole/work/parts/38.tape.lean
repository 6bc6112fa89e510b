theorem im2 {n : Nat} (hn : n = 21) (K : ZM → Option (Int32 × ZM)) (g : Nat → Int32) : ∀ c i fuel M, i + c = n → c < fuel → (∀ k, k < n → M.1 52 k = g k) → (∀ k, k < i → M.1 57 k = g k) → ∃ N, f_X12_image_2 50  K fuel (nI i) M = K N ∧ (∀ k, k < n → N.1 57 k = g k) ∧ N.2 = M.2 ∧ (∀ b, b ≠ 57 → N.1 b = M.1 b) := by
  intro c
  induction c with
  | zero =>
    intro i fuel M hi hf hs hd
    obtain ⟨fuel, rfl⟩ : ∃ m, fuel = m + 1 := ⟨fuel - 1, by omega⟩
    rw [f_X12_image_2, if_pos (by rw [show (21 : Int32) = nI 21 from rfl]; rw [nI_le' (by omega) (by omega)]; omega)]
    exact ⟨M, rfl, fun k hk => hd k (by omega), rfl, fun _ _ => rfl⟩
  | succ c ih =>
    intro i fuel M hi hf hs hd
    obtain ⟨fuel, rfl⟩ : ∃ m, fuel = m + 1 := ⟨fuel - 1, by omega⟩
    have z1 : zin (nI i) (zn 57) = true := by rw [show zn 57 = 21 by decide +kernel]; exact zin_t (by omega) (by omega)
    have z2 : zin (nI i) (zn 52) = true := by rw [show zn 52 = 21 by decide +kernel]; exact zin_t (by omega) (by omega)
    rw [f_X12_image_2, if_neg (by rw [show (21 : Int32) = nI 21 from rfl]; rw [nI_le' (by omega) (by omega)]; omega), show zr 50 6 = 57 by decide +kernel, show zr 50 1 = 52 by decide +kernel, zckT z2, zckT z1, nI_tn (by omega), hs i (by omega)]
    simp only [zletE]
    rw [nI_s]
    obtain ⟨N, e, h1, h2, h3⟩ := ih (i + 1) fuel (zi M 57 i (g i)) (by omega) (by omega) (fun k hk => by rw [zi_ne (by decide)]; exact hs k hk) (fun k hk => by
      by_cases q : k = i
      · rw [q, zi_eq]
      · rw [zi_k q]; exact hd k (by omega))
    exact ⟨N, e, h1, h2, fun b hb => by rw [h3 b hb]; funext k; exact zi_ne hb⟩
theorem im28 {n : Nat} (hn : n = 6) (K : ZM → Option (Int32 × ZM)) (g : Nat → Int32) : ∀ c i fuel M, i + c = n → c < fuel → (∀ k, k < n → M.1 54 k = g k) → (∀ k, k < i → M.1 58 k = g k) → ∃ N, f_X12_image_28 50  K fuel (nI i) M = K N ∧ (∀ k, k < n → N.1 58 k = g k) ∧ N.2 = M.2 ∧ (∀ b, b ≠ 58 → N.1 b = M.1 b) := by
  intro c
  induction c with
  | zero =>
    intro i fuel M hi hf hs hd
    obtain ⟨fuel, rfl⟩ : ∃ m, fuel = m + 1 := ⟨fuel - 1, by omega⟩
    rw [f_X12_image_28, if_pos (by rw [show (6 : Int32) = nI 6 from rfl]; rw [nI_le' (by omega) (by omega)]; omega)]
    exact ⟨M, rfl, fun k hk => hd k (by omega), rfl, fun _ _ => rfl⟩
  | succ c ih =>
    intro i fuel M hi hf hs hd
    obtain ⟨fuel, rfl⟩ : ∃ m, fuel = m + 1 := ⟨fuel - 1, by omega⟩
    have z1 : zin (nI i) (zn 58) = true := by rw [show zn 58 = 6 by decide +kernel]; exact zin_t (by omega) (by omega)
    have z2 : zin (nI i) (zn 54) = true := by rw [show zn 54 = 6 by decide +kernel]; exact zin_t (by omega) (by omega)
    rw [f_X12_image_28, if_neg (by rw [show (6 : Int32) = nI 6 from rfl]; rw [nI_le' (by omega) (by omega)]; omega), show zr 50 7 = 58 by decide +kernel, show zr 50 3 = 54 by decide +kernel, zckT z2, zckT z1, nI_tn (by omega), hs i (by omega)]
    simp only [zletE]
    rw [nI_s]
    obtain ⟨N, e, h1, h2, h3⟩ := ih (i + 1) fuel (zi M 58 i (g i)) (by omega) (by omega) (fun k hk => by rw [zi_ne (by decide)]; exact hs k hk) (fun k hk => by
      by_cases q : k = i
      · rw [q, zi_eq]
      · rw [zi_k q]; exact hd k (by omega))
    exact ⟨N, e, h1, h2, fun b hb => by rw [h3 b hb]; funext k; exact zi_ne hb⟩
theorem on16 {n : Nat} (hn : n = 21) (K : ZM → Option (Int32 × ZM)) (g : Nat → Int32) : ∀ c i fuel M, i + c = n → c < fuel → (∀ k, k < n → M.1 57 k = g k) → (∀ k, k < i → M.1 52 k = g k) → ∃ N, f_X12_on_16 50  K fuel (nI i) M = K N ∧ (∀ k, k < n → N.1 52 k = g k) ∧ N.2 = M.2 ∧ (∀ b, b ≠ 52 → N.1 b = M.1 b) := by
  intro c
  induction c with
  | zero =>
    intro i fuel M hi hf hs hd
    obtain ⟨fuel, rfl⟩ : ∃ m, fuel = m + 1 := ⟨fuel - 1, by omega⟩
    rw [f_X12_on_16, if_pos (by rw [show (21 : Int32) = nI 21 from rfl]; rw [nI_le' (by omega) (by omega)]; omega)]
    exact ⟨M, rfl, fun k hk => hd k (by omega), rfl, fun _ _ => rfl⟩
  | succ c ih =>
    intro i fuel M hi hf hs hd
    obtain ⟨fuel, rfl⟩ : ∃ m, fuel = m + 1 := ⟨fuel - 1, by omega⟩
    have z1 : zin (nI i) (zn 52) = true := by rw [show zn 52 = 21 by decide +kernel]; exact zin_t (by omega) (by omega)
    have z2 : zin (nI i) (zn 57) = true := by rw [show zn 57 = 21 by decide +kernel]; exact zin_t (by omega) (by omega)
    rw [f_X12_on_16, if_neg (by rw [show (21 : Int32) = nI 21 from rfl]; rw [nI_le' (by omega) (by omega)]; omega), show zr 50 1 = 52 by decide +kernel, show zr 50 6 = 57 by decide +kernel, zckT z2, zckT z1, nI_tn (by omega), hs i (by omega)]
    simp only [zletE]
    rw [nI_s]
    obtain ⟨N, e, h1, h2, h3⟩ := ih (i + 1) fuel (zi M 52 i (g i)) (by omega) (by omega) (fun k hk => by rw [zi_ne (by decide)]; exact hs k hk) (fun k hk => by
      by_cases q : k = i
      · rw [q, zi_eq]
      · rw [zi_k q]; exact hd k (by omega))
    exact ⟨N, e, h1, h2, fun b hb => by rw [h3 b hb]; funext k; exact zi_ne hb⟩
theorem on42 {n : Nat} (hn : n = 6) (K : ZM → Option (Int32 × ZM)) (g : Nat → Int32) : ∀ c i fuel M, i + c = n → c < fuel → (∀ k, k < n → M.1 58 k = g k) → (∀ k, k < i → M.1 54 k = g k) → ∃ N, f_X12_on_42 50  K fuel (nI i) M = K N ∧ (∀ k, k < n → N.1 54 k = g k) ∧ N.2 = M.2 ∧ (∀ b, b ≠ 54 → N.1 b = M.1 b) := by
  intro c
  induction c with
  | zero =>
    intro i fuel M hi hf hs hd
    obtain ⟨fuel, rfl⟩ : ∃ m, fuel = m + 1 := ⟨fuel - 1, by omega⟩
    rw [f_X12_on_42, if_pos (by rw [show (6 : Int32) = nI 6 from rfl]; rw [nI_le' (by omega) (by omega)]; omega)]
    exact ⟨M, rfl, fun k hk => hd k (by omega), rfl, fun _ _ => rfl⟩
  | succ c ih =>
    intro i fuel M hi hf hs hd
    obtain ⟨fuel, rfl⟩ : ∃ m, fuel = m + 1 := ⟨fuel - 1, by omega⟩
    have z1 : zin (nI i) (zn 54) = true := by rw [show zn 54 = 6 by decide +kernel]; exact zin_t (by omega) (by omega)
    have z2 : zin (nI i) (zn 58) = true := by rw [show zn 58 = 6 by decide +kernel]; exact zin_t (by omega) (by omega)
    rw [f_X12_on_42, if_neg (by rw [show (6 : Int32) = nI 6 from rfl]; rw [nI_le' (by omega) (by omega)]; omega), show zr 50 3 = 54 by decide +kernel, show zr 50 7 = 58 by decide +kernel, zckT z2, zckT z1, nI_tn (by omega), hs i (by omega)]
    simp only [zletE]
    rw [nI_s]
    obtain ⟨N, e, h1, h2, h3⟩ := ih (i + 1) fuel (zi M 54 i (g i)) (by omega) (by omega) (fun k hk => by rw [zi_ne (by decide)]; exact hs k hk) (fun k hk => by
      by_cases q : k = i
      · rw [q, zi_eq]
      · rw [zi_k q]; exact hd k (by omega))
    exact ⟨N, e, h1, h2, fun b hb => by rw [h3 b hb]; funext k; exact zi_ne hb⟩
theorem rd33 {n : Nat} (hn : n ≤ 21) (K : ZM → Option (Int32 × ZM)) (g : Nat → Int32) : ∀ c i fuel M, i + c = n → c < fuel → (∀ k, k < n → M.1 53 k = g k) → (∀ k, k < i → M.1 52 k = g k) → ∃ N, f_X12_read_33 50 (nI n) K fuel (nI i) M = K N ∧ (∀ k, k < n → N.1 52 k = g k) ∧ N.2 = M.2 ∧ (∀ b, b ≠ 52 → N.1 b = M.1 b) := by
  intro c
  induction c with
  | zero =>
    intro i fuel M hi hf hs hd
    obtain ⟨fuel, rfl⟩ : ∃ m, fuel = m + 1 := ⟨fuel - 1, by omega⟩
    rw [f_X12_read_33, if_pos (by rw [nI_le' (by omega) (by omega)]; omega)]
    exact ⟨M, rfl, fun k hk => hd k (by omega), rfl, fun _ _ => rfl⟩
  | succ c ih =>
    intro i fuel M hi hf hs hd
    obtain ⟨fuel, rfl⟩ : ∃ m, fuel = m + 1 := ⟨fuel - 1, by omega⟩
    have z1 : zin (nI i) (zn 52) = true := by rw [show zn 52 = 21 by decide +kernel]; exact zin_t (by omega) (by omega)
    have z2 : zin (nI i) (zn 53) = true := by rw [show zn 53 = 21 by decide +kernel]; exact zin_t (by omega) (by omega)
    rw [f_X12_read_33, if_neg (by rw [nI_le' (by omega) (by omega)]; omega), show zr 50 1 = 52 by decide +kernel, show zr 50 2 = 53 by decide +kernel, zckT z2, zckT z1, nI_tn (by omega), hs i (by omega)]
    simp only [zletE]
    rw [nI_s]
    obtain ⟨N, e, h1, h2, h3⟩ := ih (i + 1) fuel (zi M 52 i (g i)) (by omega) (by omega) (fun k hk => by rw [zi_ne (by decide)]; exact hs k hk) (fun k hk => by
      by_cases q : k = i
      · rw [q, zi_eq]
      · rw [zi_k q]; exact hd k (by omega))
    exact ⟨N, e, h1, h2, fun b hb => by rw [h3 b hb]; funext k; exact zi_ne hb⟩
theorem br225 {n : Nat} (hn : n ≤ 21) (K : ZM → Option (Int32 × ZM)) (g : Nat → Int32) : ∀ c i fuel M, i + c = n → c < fuel → (∀ k, k < n → M.1 73 k = g k) → (∀ k, k < i → M.1 52 k = g k) → ∃ N, f_X12_bracket_225 50 (nI n) K fuel (nI i) M = K N ∧ (∀ k, k < n → N.1 52 k = g k) ∧ N.2 = M.2 ∧ (∀ b, b ≠ 52 → N.1 b = M.1 b) := by
  intro c
  induction c with
  | zero =>
    intro i fuel M hi hf hs hd
    obtain ⟨fuel, rfl⟩ : ∃ m, fuel = m + 1 := ⟨fuel - 1, by omega⟩
    rw [f_X12_bracket_225, if_pos (by rw [nI_le' (by omega) (by omega)]; omega)]
    exact ⟨M, rfl, fun k hk => hd k (by omega), rfl, fun _ _ => rfl⟩
  | succ c ih =>
    intro i fuel M hi hf hs hd
    obtain ⟨fuel, rfl⟩ : ∃ m, fuel = m + 1 := ⟨fuel - 1, by omega⟩
    have z1 : zin (nI i) (zn 52) = true := by rw [show zn 52 = 21 by decide +kernel]; exact zin_t (by omega) (by omega)
    have z2 : zin (nI i) (zn 73) = true := by rw [show zn 73 = 23 by decide +kernel]; exact zin_t (by omega) (by omega)
    rw [f_X12_bracket_225, if_neg (by rw [nI_le' (by omega) (by omega)]; omega), show zr 50 1 = 52 by decide +kernel, show zr 50 38 = 73 by decide +kernel, zckT z2, zckT z1, nI_tn (by omega), hs i (by omega)]
    simp only [zletE]
    rw [nI_s]
    obtain ⟨N, e, h1, h2, h3⟩ := ih (i + 1) fuel (zi M 52 i (g i)) (by omega) (by omega) (fun k hk => by rw [zi_ne (by decide)]; exact hs k hk) (fun k hk => by
      by_cases q : k = i
      · rw [q, zi_eq]
      · rw [zi_k q]; exact hd k (by omega))
    exact ⟨N, e, h1, h2, fun b hb => by rw [h3 b hb]; funext k; exact zi_ne hb⟩
theorem im54 (K : ZM → Option (Int32 × ZM)) (g g' : Nat → Int32) : ∀ c i fuel M, i + c = 8 → c < fuel → (∀ k, k < 8 → M.1 55 k = g k ∧ M.1 56 k = g' k) → (∀ k, k < i → M.1 59 k = g k ∧ M.1 60 k = g' k) → ∃ N, f_X12_image_54 50 K fuel (nI i) M = K N ∧ (∀ k, k < 8 → N.1 59 k = g k ∧ N.1 60 k = g' k) ∧ N.2 = M.2 ∧ (∀ b, b ≠ 59 → b ≠ 60 → N.1 b = M.1 b) := by
  intro c
  induction c with
  | zero =>
    intro i fuel M hi hf hs hd
    obtain ⟨fuel, rfl⟩ : ∃ m, fuel = m + 1 := ⟨fuel - 1, by omega⟩
    rw [f_X12_image_54, if_pos (by rw [show (8 : Int32) = nI 8 from rfl]; rw [nI_le' (by omega) (by omega)]; omega)]
    exact ⟨M, rfl, fun k hk => hd k (by omega), rfl, fun _ _ _ => rfl⟩
  | succ c ih =>
    intro i fuel M hi hf hs hd
    obtain ⟨fuel, rfl⟩ : ∃ m, fuel = m + 1 := ⟨fuel - 1, by omega⟩
    have z1 : zin (nI i) (zn 59) = true := by rw [show zn 59 = 8 by decide +kernel]; exact zin_t (by omega) (by omega)
    have z2 : zin (nI i) (zn 55) = true := by rw [show zn 55 = 8 by decide +kernel]; exact zin_t (by omega) (by omega)
    have z3 : zin (nI i) (zn 60) = true := by rw [show zn 60 = 8 by decide +kernel]; exact zin_t (by omega) (by omega)
    have z4 : zin (nI i) (zn 56) = true := by rw [show zn 56 = 8 by decide +kernel]; exact zin_t (by omega) (by omega)
    rw [f_X12_image_54, if_neg (by rw [show (8 : Int32) = nI 8 from rfl]; rw [nI_le' (by omega) (by omega)]; omega), show zr 50 8 = 59 by decide +kernel, show zr 50 4 = 55 by decide +kernel, show zr 50 9 = 60 by decide +kernel, show zr 50 5 = 56 by decide +kernel, zckT z2, zckT z1, nI_tn (by omega), (hs i (by omega)).1]
    simp only [zletE]
    rw [zckT z4, zckT z3, zi_ne (by decide), (hs i (by omega)).2, nI_s]
    obtain ⟨N, e, h1, h2, h3⟩ := ih (i + 1) fuel (zi (zi M 59 i (g i)) 60 i (g' i)) (by omega) (by omega) (fun k hk => by rw [zi_ne (by decide), zi_ne (by decide), zi_ne (by decide), zi_ne (by decide)]; exact hs k hk) (fun k hk => by
      by_cases q : k = i
      · rw [q, zi_ne (by decide), zi_eq, zi_eq]; exact ⟨rfl, rfl⟩
      · rw [zi_ne (by decide), zi_k q, zi_k q, zi_ne (by decide)]; exact hd k (by omega))
    exact ⟨N, e, h1, h2, fun b hb hb' => by rw [h3 b hb hb']; funext k; rw [zi_ne hb', zi_ne hb]⟩
theorem on68 (K : ZM → Option (Int32 × ZM)) (g g' : Nat → Int32) : ∀ c i fuel M, i + c = 8 → c < fuel → (∀ k, k < 8 → M.1 59 k = g k ∧ M.1 60 k = g' k) → (∀ k, k < i → M.1 55 k = g k ∧ M.1 56 k = g' k) → ∃ N, f_X12_on_68 50 K fuel (nI i) M = K N ∧ (∀ k, k < 8 → N.1 55 k = g k ∧ N.1 56 k = g' k) ∧ N.2 = M.2 ∧ (∀ b, b ≠ 55 → b ≠ 56 → N.1 b = M.1 b) := by
  intro c
  induction c with
  | zero =>
    intro i fuel M hi hf hs hd
    obtain ⟨fuel, rfl⟩ : ∃ m, fuel = m + 1 := ⟨fuel - 1, by omega⟩
    rw [f_X12_on_68, if_pos (by rw [show (8 : Int32) = nI 8 from rfl]; rw [nI_le' (by omega) (by omega)]; omega)]
    exact ⟨M, rfl, fun k hk => hd k (by omega), rfl, fun _ _ _ => rfl⟩
  | succ c ih =>
    intro i fuel M hi hf hs hd
    obtain ⟨fuel, rfl⟩ : ∃ m, fuel = m + 1 := ⟨fuel - 1, by omega⟩
    have z1 : zin (nI i) (zn 55) = true := by rw [show zn 55 = 8 by decide +kernel]; exact zin_t (by omega) (by omega)
    have z2 : zin (nI i) (zn 59) = true := by rw [show zn 59 = 8 by decide +kernel]; exact zin_t (by omega) (by omega)
    have z3 : zin (nI i) (zn 56) = true := by rw [show zn 56 = 8 by decide +kernel]; exact zin_t (by omega) (by omega)
    have z4 : zin (nI i) (zn 60) = true := by rw [show zn 60 = 8 by decide +kernel]; exact zin_t (by omega) (by omega)
    rw [f_X12_on_68, if_neg (by rw [show (8 : Int32) = nI 8 from rfl]; rw [nI_le' (by omega) (by omega)]; omega), show zr 50 4 = 55 by decide +kernel, show zr 50 8 = 59 by decide +kernel, show zr 50 5 = 56 by decide +kernel, show zr 50 9 = 60 by decide +kernel, zckT z2, zckT z1, nI_tn (by omega), (hs i (by omega)).1]
    simp only [zletE]
    rw [zckT z4, zckT z3, zi_ne (by decide), (hs i (by omega)).2, nI_s]
    obtain ⟨N, e, h1, h2, h3⟩ := ih (i + 1) fuel (zi (zi M 55 i (g i)) 56 i (g' i)) (by omega) (by omega) (fun k hk => by rw [zi_ne (by decide), zi_ne (by decide), zi_ne (by decide), zi_ne (by decide)]; exact hs k hk) (fun k hk => by
      by_cases q : k = i
      · rw [q, zi_ne (by decide), zi_eq, zi_eq]; exact ⟨rfl, rfl⟩
      · rw [zi_ne (by decide), zi_k q, zi_k q, zi_ne (by decide)]; exact hd k (by omega))
    exact ⟨N, e, h1, h2, fun b hb hb' => by rw [h3 b hb hb']; funext k; rw [zi_ne hb', zi_ne hb]⟩
theorem JJ_word {M : ZM} (hJ : JJ M) (v : Int32) : f_X12_wordAt 50 v M = some (f_X11_wordAt 0 v M) := by
  obtain ⟨ws, tp, od, a1, a2, im, rf, hp, hc, hr⟩ := hJ
  have hl := hp.1.1
  unfold f_X12_wordAt f_X11_wordAt
  simp only [zletE]
  rw [hr.1.1, show zr 0 1 = 3 by decide +kernel, show f_X10_size 3 M = nI ws.length from hc.2.1.1]
  rcases in_or ws.length (by omega) v with ⟨r, hr0, rfl⟩ | hv
  · rw [isIn_t hr0 (by omega), if_neg (by decide), if_neg (nI_nn (by omega)), if_neg (by rw [nI_le' (by omega) (by omega)]; omega), zckT (zwd_in (by omega)), zwd_at hl hr.1 hr0, at_ok WG3 hc.2.1 hl hr0]
  · rw [isIn_f hv, if_pos rfl]
    by_cases q : v < 0
    · rw [if_pos q]
    · rw [if_neg q, if_pos (hv.resolve_left q)]
theorem JJ_readings {M : ZM} (hJ : JJ M) : f_X12_readings 50 M = some (f_X11_readings 0 M) := by
  obtain ⟨ws, tp, od, a1, a2, im, rf, hp, hc, hr⟩ := hJ
  have hl := hp.1.1
  have h0 := okw_len hp.1
  rw [readings_ok hp hc]
  unfold f_X12_readings
  rw [hr.1.1, ← nI0, ways_ok (by omega), bindE, hr.2.2.2.2.2.2.2.2.1 0 ws.length h0 (Nat.le_refl _)]
theorem let_lo {ws : List Int32} (hl : ws.length ≤ 21) {M : ZM} (hs : WH M 3 ws) (hr : RW M ws) : ∀ k i f1 f2 x, i + k = ws.length → k < f1 → k < f2 → ∃ z, f_X10_letters_4 3 M (fun (v1 : Int32) => some v1) f1 x (nI i) = some z ∧ f_X12_count_82 50 M (fun (v2 : Int32) => some v2) f2 x (nI i) = some z := by
  intro k
  induction k with
  | zero =>
    intro i f1 f2 x hi hf hf2
    obtain ⟨f1, rfl⟩ : ∃ m, f1 = m + 1 := ⟨f1 - 1, by omega⟩
    obtain ⟨f2, rfl⟩ : ∃ m, f2 = m + 1 := ⟨f2 - 1, by omega⟩
    rw [f_X10_letters_4, f_X12_count_82, hs.1, hr.1, if_pos (show nI ws.length ≤ nI i by rw [nI_le' (by omega) (by omega)]; omega), if_pos (show nI ws.length ≤ nI i by rw [nI_le' (by omega) (by omega)]; omega)]
    exact ⟨x, rfl, rfl⟩
  | succ k ih =>
    intro i f1 f2 x hi hf hf2
    obtain ⟨f1, rfl⟩ : ∃ m, f1 = m + 1 := ⟨f1 - 1, by omega⟩
    obtain ⟨f2, rfl⟩ : ∃ m, f2 = m + 1 := ⟨f2 - 1, by omega⟩
    rw [f_X10_letters_4, f_X12_count_82, hs.1, hr.1, if_neg (show ¬ nI ws.length ≤ nI i by rw [nI_le' (by omega) (by omega)]; omega), if_neg (show ¬ nI ws.length ≤ nI i by rw [nI_le' (by omega) (by omega)]; omega)]
    simp only [zletE, kdM]
    rw [at_ok WG3 hs hl (by omega), zckT (zwd_in (by omega)), zwd_at hl hr (by omega), isLet, nI_s]
    by_cases q : kd (wa ws i) = 0
    · rw [if_pos q, if_pos q, if_neg (by decide)]
      exact ih (i + 1) f1 f2 (x + 1) (by omega) (by omega) (by omega)
    · rw [if_neg q, if_neg q, if_pos rfl, Int32.add_zero]
      exact ih (i + 1) f1 f2 x (by omega) (by omega) (by omega)
theorem JJ_count {M : ZM} (hJ : JJ M) (v : Int32) : ∃ z, f_X11_count 0 v M = some z ∧ f_X12_count 50 v M = some z := by
  obtain ⟨ws, tp, od, a1, a2, im, rf, hp, hc, hr⟩ := hJ
  have hl := hp.1.1
  unfold f_X11_count f_X12_count
  simp only [zletE]
  by_cases h0 : v = 0
  · subst h0
    rw [if_pos rfl, if_pos (by decide), if_pos rfl, show zr 0 1 = 3 by decide +kernel, show f_X10_size 3 M = nI ws.length from hc.2.1.1, hr.1.1]
    exact ⟨_, rfl, rfl⟩
  rw [if_neg h0]
  by_cases h1 : v = 1
  · subst h1
    rw [if_pos rfl, if_pos (by decide), if_neg (by decide), if_pos rfl, show zr 0 7 = 29 by decide +kernel, show f_X4_size 29 M = nI od.length from hc.2.2.1.1, hr.2.2.1.1]
    exact ⟨_, rfl, rfl⟩
  rw [if_neg h1]
  by_cases h2 : v = 2
  · subst h2
    rw [if_pos rfl, if_pos (by decide), if_neg (by decide), if_neg (by decide), if_pos rfl, show zr 0 11 = 38 by decide +kernel, show f_X0_size 38 M = nI a1.length from hc.2.2.2.1.1, hr.2.2.2.1.1]
    exact ⟨_, rfl, rfl⟩
  rw [if_neg h2]
  by_cases h3 : v = 3
  · subst h3
    rw [if_pos rfl, if_pos (by decide), if_neg (by decide), if_neg (by decide), if_neg (by decide), if_pos rfl, show zr 0 0 = 1 by decide +kernel, show f_X10_size 1 M = nI tp.length from hc.1.1, hr.2.1.1]
    exact ⟨_, rfl, rfl⟩
  rw [if_neg h3]
  by_cases h4 : v = 4
  · subst h4
    obtain ⟨z, e1, e2⟩ := let_lo hl hc.2.1 hr.1 ws.length 0 zN zN 0 (by omega) (by unfold zN; omega) (by unfold zN; omega)
    rw [nI0] at e1 e2
    refine ⟨z, ?_, ?_⟩
    · rw [if_pos rfl, show zr 0 1 = 3 by decide +kernel]
      unfold f_X10_letters
      rw [e1, bindE]
    · rw [if_pos (by decide), if_neg (by decide), if_neg (by decide), if_neg (by decide), if_neg (by decide), if_pos rfl, e2]
  rw [if_neg h4, if_neg h0, if_neg h1, if_neg h2, if_neg h3, if_neg h4]
  have e11 : (11 : Int32).toInt = 11 := rfl
  have e10 : (10 : Int32).toInt = 10 := rfl
  have e16 : (16 : Int32).toInt = 16 := rfl
  have e17 : (17 : Int32).toInt = 17 := rfl
  have e0 : (0 : Int32).toInt = 0 := rfl
  by_cases q : v < 11
  · rw [if_pos q, if_pos (by rw [Int32.le_iff_toInt_le, e10]; rw [Int32.lt_iff_toInt_lt, e11] at q; omega)]
    exact ⟨_, rfl, rfl⟩
  · have n10 : ¬ v ≤ 10 := by rw [Int32.le_iff_toInt_le, e10]; rw [Int32.lt_iff_toInt_lt, e11] at q; omega
    rw [if_neg q]
    by_cases q2 : 16 < v
    · rw [if_pos q2, if_neg n10, if_pos (by rw [Int32.le_iff_toInt_le, e17]; rw [Int32.lt_iff_toInt_lt, e16] at q2; omega)]
      exact ⟨_, rfl, rfl⟩
    · rw [if_neg q2, if_neg n10, if_neg (by rw [Int32.le_iff_toInt_le, e17]; rw [Int32.lt_iff_toInt_lt, e16] at q2; omega)]
      have hn : ¬ v < 0 := by rw [Int32.lt_iff_toInt_lt, e0]; rw [Int32.lt_iff_toInt_lt, e11] at q; omega
      obtain ⟨ev, hb⟩ := v_nI hn
      generalize v.toNatClampNeg = k at ev hb
      subst ev
      rw [show (11 : Int32) = nI 11 from rfl, nJ_lt hb (by omega)] at q
      rw [show (16 : Int32) = nI 16 from rfl, nJ_lt (by omega) hb] at q2
      rw [show (10 : Int32) = nI 10 from rfl, nI_sub (by omega), show zr 0 13 = 49 by decide +kernel, show zr 50 0 = 51 by decide +kernel, look_nI (by rw [show zn 49 = 7 by decide +kernel]; omega) (by omega), zckT (by rw [show zn 51 = 7 by decide +kernel]; exact zin_t (by omega) (by omega)), nI_tn (by omega), hc.2.2.2.2.2.1 _ (by omega), hr.2.2.2.2.2.1 _ (by omega)]
      exact ⟨_, rfl, rfl⟩
/-! bytes -/
theorem shU8 : ∀ i, i < 8 → ((((nI (8 * i)).toInt64.toUInt64 &&& Int64.toUInt64 63).toBitVec % 64).toNat = 8 * i) := by decide +kernel
theorem shI8 : ∀ i, i < 8 → ((((nI (8 * i)).toInt64 &&& 63).toBitVec.smod 64).toNat = 8 * i) := by decide +kernel
theorem lb255 : ∀ k, k < 64 → lb 255 k = decide (k < 8) := by decide +kernel
def byt (x : Int64) (i : Nat) : Int32 := ((((x).toUInt64 >>> ((((8 * nI i) : Int32)).toInt64.toUInt64 &&& Int64.toUInt64 63)).toInt64 &&& 255).toInt32)
theorem byt_eq {x : Int64} {i : Nat} (h : i < 8) : (((x >>> (((8 * nI i) : Int32).toInt64 &&& 63)) &&& 255).toInt32) = byt x i := by
  unfold byt
  rw [show (8 : Int32) = nI 8 from rfl, nI_mul]
  congr 1
  apply lb_ext
  intro k hk
  rw [lb_and, lb_and, lb255 k hk]
  by_cases q : k < 8
  · rw [decide_eq_true q, Bool.and_true, Bool.and_true]
    show (x >>> ((nI (8 * i)).toInt64 &&& 63)).toBitVec.getLsbD k = (x.toUInt64 >>> ((nI (8 * i)).toInt64.toUInt64 &&& Int64.toUInt64 63)).toBitVec.getLsbD k
    rw [UInt64.toBitVec_shiftRight, BitVec.ushiftRight_eq', BitVec.getLsbD_ushiftRight, shU8 i h, Int64.toBitVec_shiftRight, BitVec.sshiftRight_eq', BitVec.getLsbD_sshiftRight, shI8 i h, if_pos (by omega), decide_eq_false (by omega)]
    rfl
  · rw [decide_eq_false q, Bool.and_false, Bool.and_false]
def fdl (x : Int64) (tp : List Int32) : Nat → List Int32
  | 0 => tp
  | i + 1 => fdl x tp i ++ [byt x i]
theorem fdl_len (x : Int64) (tp : List Int32) : ∀ i, (fdl x tp i).length = tp.length + i := by
  intro i
  induction i with
  | zero => rfl
  | succ i ih => rw [fdl, List.length_append, ih, List.length_singleton]; omega
theorem feedA {n : Nat} (hn : n ≤ 8) (x : Int64) {tp : List Int32} (hl : tp.length + n ≤ 21) (K : ZM → Option (Int32 × ZM)) : ∀ c i fuel M, i + c = n → c < fuel → WH M 1 (fdl x tp i) → ∃ N, f_X11_feed_42 0 (nI n) x K fuel (nI i) M = K N ∧ WH N 1 (fdl x tp n) ∧ Fr [1, 2] M N := by
  intro c
  induction c with
  | zero =>
    intro i fuel M hi hf h
    obtain ⟨fuel, rfl⟩ : ∃ m, fuel = m + 1 := ⟨fuel - 1, by omega⟩
    rw [f_X11_feed_42, if_pos (by rw [nI_le' (by omega) (by omega)]; omega)]
    exact ⟨M, rfl, by rw [show n = i by omega]; exact h, Fr_rf _ _⟩
  | succ c ih =>
    intro i fuel M hi hf h
    obtain ⟨fuel, rfl⟩ : ∃ m, fuel = m + 1 := ⟨fuel - 1, by omega⟩
    rw [f_X11_feed_42, if_neg (by rw [nI_le' (by omega) (by omega)]; omega)]
    simp only [zletE]
    rw [show zr 0 0 = 1 by decide +kernel, nI_s]
    have ha := add_ok WG1 (v := byt x i) h (by rw [fdl_len]; omega)
    obtain ⟨N, e, hN, hF⟩ := ih (i + 1) fuel _ (by omega) (by omega) ha.1
    exact ⟨N, e, hN, Fr_tr (Fr_sub ha.2 (by decide +kernel)) hF⟩
theorem feedO {n : Nat} (hn : n ≤ 8) (x : Int64) {tp : List Int32} (hl : tp.length + n ≤ 21) (K : ZM → Option (Int32 × ZM)) : ∀ c i fuel M, i + c = n → c < fuel → LH M 50 11 53 (fdl x tp i) → ∃ N, f_X12_feed_39 50 (nI n) x K fuel (nI i) M = K N ∧ LH N 50 11 53 (fdl x tp n) ∧ N.2 = M.2 ∧ (∀ b, b ≠ 50 → b ≠ 53 → N.1 b = M.1 b) ∧ ∀ k, k ≠ 11 → N.1 50 k = M.1 50 k := by
  intro c
  induction c with
  | zero =>
    intro i fuel M hi hf h
    obtain ⟨fuel, rfl⟩ : ∃ m, fuel = m + 1 := ⟨fuel - 1, by omega⟩
    rw [f_X12_feed_39, if_pos (by rw [nI_le' (by omega) (by omega)]; omega)]
    exact ⟨M, rfl, by rw [show n = i by omega]; exact h, rfl, fun _ _ _ => rfl, fun _ _ => rfl⟩
  | succ c ih =>
    intro i fuel M hi hf h
    obtain ⟨fuel, rfl⟩ : ∃ m, fuel = m + 1 := ⟨fuel - 1, by omega⟩
    have hlen := fdl_len x tp i
    rw [f_X12_feed_39, if_neg (by rw [nI_le' (by omega) (by omega)]; omega)]
    simp only [zletE]
    rw [byt_eq (by omega), show zr 50 2 = 53 by decide +kernel, h.1, zckT (by rw [show zn 53 = 21 by decide +kernel]; exact zin_t (by omega) (by omega)), nI_tn (by omega), zi_ne (by decide), h.1, nI_s, nI_s]
    have g : LH (zi (zi M 53 (fdl x tp i).length (byt x i)) 50 11 (nI ((fdl x tp i).length + 1))) 50 11 53 (fdl x tp (i + 1)) := LH_add h zi_eq (by rw [zi_ne (by decide), zi_eq]) (fun k hk => by rw [zi_ne (by decide), zi_k (by omega)])
    obtain ⟨N, e, hN, a1, a2, a3⟩ := ih (i + 1) fuel _ (by omega) (by omega) g
    exact ⟨N, e, hN, a1, fun b h1 h2 => by rw [a2 b h1 h2]; funext k; rw [zi_ne h1, zi_ne h2], fun k hk => by rw [a3 k hk, zi_k hk, zi_ne (by decide)]⟩
theorem m_feed (v : Int32) (x : Int64) {M : ZM} (hJ : JJ M) : Ag (f_X11_feed 0 v x M) (f_X12_feed 50 v x) := by
  obtain ⟨ws, tp, od, a1, a2, im, rf, hp, hc, hr⟩ := hJ
  have hl := hp.2.1
  unfold f_X11_feed
  simp only [zletE]
  by_cases q1 : (1 : Int32) ≤ v
  · rw [if_pos q1]
    by_cases q2 : (8 : Int32) < v
    · rw [if_pos q2]
      refine refAg (fun x => x) hp hc hr (k := 6) (by decide +kernel) (by omega) (fun N' r' => ?_)
      unfold f_X12_feed
      rw [if_pos q1, if_pos q2]
    · rw [if_neg q2, show zr 0 0 = 1 by decide +kernel, show f_X10_size 1 M = nI tp.length from hc.1.1]
      have hn : ¬ v < 0 := by
        intro z
        rw [Int32.lt_iff_toInt_lt] at z
        rw [Int32.le_iff_toInt_le] at q1
        have e0 : (0 : Int32).toInt = 0 := rfl
        have e1 : (1 : Int32).toInt = 1 := rfl
        omega
      obtain ⟨ev, hb⟩ := v_nI hn
      generalize v.toNatClampNeg = n at ev hb
      subst ev
      have q2' : n ≤ 8 := by
        rw [show (8 : Int32) = nI 8 from rfl, nJ_lt (by omega) hb] at q2
        omega
      rw [nJ_add]
      by_cases q3 : tp.length + n ≤ 21
      · rw [if_pos (by rw [show (21 : Int32) = nI 21 from rfl, nI_le' (by omega) (by omega)]; exact q3)]
        obtain ⟨N, e, hN, hF⟩ := feedA q2' x q3 (fun (M : ZM) => some (f_X10_size 1 M, M)) n 0 zN M (by omega) (by unfold zN; omega) hc.1
        rw [nI0] at e
        have hr' := RI_c hr (Fr_sub hF (by decide))
        obtain ⟨P, e2, hP, b1, b2, b3⟩ := feedO q2' x q3 (fun (M : ZM) => some ((M.1 50 11), M)) n 0 zN N (by omega) (by unfold zN; omega) hr'.2.1
        rw [nI0] at e2
        have tz : ∀ b, b ∈ [51, 52, 54, 55, 56, 57, 58, 59, 60, 62, 63, 64, 65, 66, 67] → b ≠ 50 ∧ b ≠ 53 := by decide
        have tk : ∀ k, k ∈ [10, 12, 13, 14, 15, 16, 17, 26, 28, 29] → k ≠ 11 := by decide
        have hR := RI_tp hr' (fun b hb => b2 b (tz b hb).1 (tz b hb).2) (fun b _ => by rw [b1]) (fun k hk => b3 k (tk k hk)) hP
        have hFP : Fr r50 N P := fun b hb => ⟨b2 b (fun z => hb (by rw [z]; decide)) (fun z => hb (by rw [z]; decide)), by rw [b1]⟩
        refine ⟨nI (fdl x tp n).length, N, P, by rw [e, show f_X10_size 1 N = nI (fdl x tp n).length from hN.1], ?_, ws, fdl x tp n, od, a1, a2, im, rf, ⟨hp.1, by rw [fdl_len]; exact q3, hp.2.2⟩, CI_r (CI_tp hc hF hN) hFP, hR⟩
        unfold f_X12_feed
        rw [if_pos q1, if_neg (by rw [show (8 : Int32) = nI 8 from rfl, nJ_lt (by omega) hb]; omega), hr'.2.1.1, nJ_add, if_pos (by rw [show (21 : Int32) = nI 21 from rfl, nI_le' (by omega) (by omega)]; exact q3), e2, hP.1]
      · rw [if_neg (by rw [show (21 : Int32) = nI 21 from rfl, nI_le' (by omega) (by omega)]; exact q3)]
        refine refAg (fun x => x) hp hc hr (k := 6) (by decide +kernel) (by omega) (fun N' r' => ?_)
        unfold f_X12_feed
        rw [if_pos q1, if_neg (by rw [show (8 : Int32) = nI 8 from rfl, nJ_lt (by omega) hb]; omega), r'.2.1.1, nJ_add, if_neg (by rw [show (21 : Int32) = nI 21 from rfl, nI_le' (by omega) (by omega)]; exact q3)]
  · rw [if_neg q1]
    refine refAg (fun x => x) hp hc hr (k := 4) (by decide +kernel) (by omega) (fun N' r' => ?_)
    unfold f_X12_feed
    rw [if_neg q1]
