/-! brackets around a phrase never make more readings -/
theorem sp_shift {ws ws' : List Int32} : ∀ t i, sp ws i t → ∀ i', (∀ m, m < ln t → wa ws' (i' + m) = wa ws (i + m)) → sp ws' i' t := by
  apply sp_ind
  · intro i c h i' e
    have := e 0 (by simp only [ln]; omega)
    rw [Nat.add_zero, Nat.add_zero] at this
    show kd (wa ws' i') = 0
    rw [this]; exact h
  · intro i a h hs ih i' e
    have e0 := e 0 (by simp only [ln]; omega)
    rw [Nat.add_zero, Nat.add_zero] at e0
    refine ⟨by rw [e0]; exact h, ih (i' + 1) (fun m hm => ?_)⟩
    have := e (1 + m) (by simp only [ln]; omega)
    rwa [← Nat.add_assoc, ← Nat.add_assoc] at this
  · intro i a k h h' hs ih i' e
    have e0 := e 0 (by simp only [ln]; omega)
    rw [Nat.add_zero, Nat.add_zero] at e0
    have e1 := e (1 + ln a) (by simp only [ln]; omega)
    rw [← Nat.add_assoc, ← Nat.add_assoc] at e1
    refine ⟨by rw [e0]; exact h, by rw [e1]; exact h', ih (i' + 1) (fun m hm => ?_)⟩
    have := e (1 + m) (by simp only [ln]; omega)
    rwa [← Nat.add_assoc, ← Nat.add_assoc] at this
  · intro i a b h hsa hsb iha ihb i' e
    have e0 := e (ln a) (by simp only [ln]; omega)
    refine ⟨by rw [e0]; exact h, iha i' (fun m hm => e m (by simp only [ln]; omega)), ihb (i' + ln a + 1) (fun m hm => ?_)⟩
    have := e (ln a + 1 + m) (by simp only [ln]; omega)
    rw [show i' + ln a + 1 + m = i' + (ln a + 1 + m) by omega, show i + ln a + 1 + m = i + (ln a + 1 + m) by omega]
    exact this
/-- an opening bracket in a tree has its closing one in it -/
theorem op_in {ws : List Int32} : ∀ t i, sp ws i t → ∀ k, i ≤ k → k < i + ln t → wa ws k = 40 → ∃ s, sp ws (k + 1) s ∧ k + 1 + ln s < i + ln t ∧ wa ws (k + 1 + ln s) = 41 := by
  apply sp_ind
  · intro i c h k h1 h2 hk
    simp only [ln] at h2
    have : k = i := by omega
    rw [this] at hk
    exact absurd hk (kd0_ne h).1
  · intro i a h hs ih k h1 h2 hk
    simp only [ln] at h2
    by_cases q : k = i
    · rw [q, h] at hk; exact absurd hk (by decide)
    · obtain ⟨s, s1, s2, s3⟩ := ih k (by omega) (by omega) hk
      exact ⟨s, s1, by simp only [ln]; omega, s3⟩
  · intro i a j h h' hs ih k h1 h2 hk
    simp only [ln] at h2
    by_cases q : k = i
    · rw [q]
      exact ⟨a, hs, by simp only [ln]; omega, h'⟩
    · by_cases q2 : k = i + 1 + ln a
      · rw [q2, h'] at hk; exact absurd hk (by decide)
      · obtain ⟨s, s1, s2, s3⟩ := ih k (by omega) (by omega) hk
        exact ⟨s, s1, by simp only [ln]; omega, s3⟩
  · intro i a b h hsa hsb iha ihb k h1 h2 hk
    simp only [ln] at h2
    by_cases q : k < i + ln a
    · obtain ⟨s, s1, s2, s3⟩ := iha k h1 q hk
      exact ⟨s, s1, by simp only [ln]; omega, s3⟩
    · by_cases q2 : k = i + ln a
      · rw [q2] at hk; exact absurd hk (jn_ne h).1
      · obtain ⟨s, s1, s2, s3⟩ := ihb k (by omega) (by omega) hk
        exact ⟨s, s1, by simp only [ln]; omega, s3⟩
/-- a closing bracket in a tree has its opening one in it -/
theorem cl_in {ws : List Int32} : ∀ t i, sp ws i t → ∀ k, i ≤ k → k < i + ln t → wa ws k = 41 → ∃ m s, i ≤ m ∧ wa ws m = 40 ∧ sp ws (m + 1) s ∧ m + 1 + ln s = k := by
  apply sp_ind
  · intro i c h k h1 h2 hk
    simp only [ln] at h2
    have : k = i := by omega
    rw [this] at hk
    exact absurd hk (kd0_ne h).2.1
  · intro i a h hs ih k h1 h2 hk
    simp only [ln] at h2
    by_cases q : k = i
    · rw [q, h] at hk; exact absurd hk (by decide)
    · obtain ⟨m, s, s1, s2⟩ := ih k (by omega) (by omega) hk
      exact ⟨m, s, by omega, s2⟩
  · intro i a j h h' hs ih k h1 h2 hk
    simp only [ln] at h2
    by_cases q : k = i
    · rw [q, h] at hk; exact absurd hk (by decide)
    · by_cases q2 : k = i + 1 + ln a
      · exact ⟨i, a, Nat.le_refl _, h, hs, q2.symm⟩
      · obtain ⟨m, s, s1, s2⟩ := ih k (by omega) (by omega) hk
        exact ⟨m, s, by omega, s2⟩
  · intro i a b h hsa hsb iha ihb k h1 h2 hk
    simp only [ln] at h2
    by_cases q : k < i + ln a
    · obtain ⟨m, s, s1, s2⟩ := iha k h1 q hk
      exact ⟨m, s, by omega, s2⟩
    · by_cases q2 : k = i + ln a
      · rw [q2] at hk; exact absurd hk (jn_ne h).2.1
      · obtain ⟨m, s, s1, s2⟩ := ihb k (by omega) (by omega) hk
        exact ⟨m, s, by omega, s2⟩
theorem Ny_sp {ws : List Int32} {i j : Nat} (hl : ws.length ≤ 21) (hj : j ≤ ws.length) (h : 0 < Ny ws i j) : ∃ t, sp ws i t ∧ i + ln t = j := by
  have hij : i < j := by
    apply Classical.byContradiction
    intro q
    rw [Ny_0 q] at h; omega
  obtain ⟨t, ht⟩ := Rd_ex (ws := ws) (j - i) i j 0 (Nat.le_refl _) (by omega) h
  exact ⟨t, Rd_sp t i j 0 hij hj ht⟩
theorem Ny_le0 {ws : List Int32} {i j x : Nat} (h : 0 < Ny ws i j → Ny ws i j ≤ x) : Ny ws i j ≤ x := by
  by_cases q : 0 < Ny ws i j
  · exact h q
  · omega
theorem sm_app {f : Nat → Nat} : ∀ c lo c', sm f lo (c + c') = sm f lo c + sm f (lo + c) c' := by
  intro c
  induction c with
  | zero => intro lo c'; rw [Nat.zero_add, sm, Nat.zero_add, Nat.add_zero]
  | succ c ih =>
    intro lo c'
    rw [show c + 1 + c' = (c + c') + 1 by omega, sm, ih, sm, show lo + 1 + c = lo + (c + 1) by omega, Nat.add_assoc]
theorem sm_0 {f : Nat → Nat} : ∀ c lo, (∀ k, lo ≤ k → k < lo + c → f k = 0) → sm f lo c = 0 := by
  intro c
  induction c with
  | zero => intro lo _; rfl
  | succ c ih =>
    intro lo h
    rw [sm, h lo (Nat.le_refl _) (by omega), ih (lo + 1) (fun k a b => h k (by omega) (by omega))]
/-- the same words elsewhere: no more readings -/
theorem Ny_sub {ws ws' : List Int32} (hl : ws.length ≤ 21) (hl' : ws'.length ≤ 21) : ∀ L i i', (∀ m, m < L → wa ws' (i' + m) = wa ws (i + m)) → i + L ≤ ws.length → i' + L ≤ ws'.length → Ny ws' i' (i' + L) ≤ Ny ws i (i + L) := by
  intro L
  induction L using Nat.strongRecOn with
  | ind L ih =>
    intro i i' e h h'
    by_cases hL : L = 0
    · rw [hL, Ny_0 (by omega)]; omega
    have e0 := e 0 (by omega)
    rw [Nat.add_zero, Nat.add_zero] at e0
    rw [Ny_eq (i := i') (by omega) (by omega), Ny_eq (i := i) (by omega) (by omega)]
    have up : ∀ d c, d + c ≤ L → c < L → Ny ws' (i' + d) (i' + d + c) ≤ Ny ws (i + d) (i + d + c) := by
      intro d c hd hc
      refine ih c hc (i + d) (i' + d) (fun m hm => ?_) (by omega) (by omega)
      have := e (d + m) (by omega)
      rwa [← Nat.add_assoc, ← Nat.add_assoc] at this
    have a1 : Fy ws' i' (i' + L) ≤ Fy ws i (i + L) := by
      by_cases k0 : kd (wa ws i) = 0
      · rw [Fy_0 k0, Fy_0 (by rw [e0]; exact k0)]
        split
        · rw [if_pos (by omega)]; omega
        · omega
      by_cases k1 : kd (wa ws i) = 1
      · rw [Fy_1 k1, Fy_1 (by rw [e0]; exact k1)]
        have := up 1 (L - 1) (by omega) (by omega)
        rwa [show i' + 1 + (L - 1) = i' + L by omega, show i + 1 + (L - 1) = i + L by omega] at this
      by_cases k2 : kd (wa ws i) = 2
      · rw [Fy_2 (ws := ws') (by rw [e0]; exact k2)]
        by_cases hc : clo ws' (i' + 1) + 1 = i' + L
        · rw [if_pos hc]
          refine Ny_le0 (fun hp => ?_)
          have hL2 : 2 ≤ L := by
            apply Classical.byContradiction
            intro q
            rw [Ny_0 (by omega)] at hp; omega
          have u := up 1 (L - 2) (by omega) (by omega)
          rw [show i' + 1 + (L - 2) = i' + L - 1 by omega, show i + 1 + (L - 2) = i + L - 1 by omega] at u
          obtain ⟨t, t1, t2⟩ := Ny_sp hl (show i + L - 1 ≤ ws.length by omega) (Nat.lt_of_lt_of_le hp u)
          have h41 := clo_41 (ws := ws') (p := i' + 1) (by omega) (by omega)
          have eL := e (L - 1) (by omega)
          rw [show i' + (L - 1) = clo ws' (i' + 1) by omega, h41] at eL
          have hcl := clo_sp41 t1 (by omega) (by rw [t2, show i + L - 1 = i + (L - 1) by omega]; exact eL.symm)
          rw [Fy_2 k2, if_pos (by omega)]
          exact u
        · rw [if_neg hc]; omega
      · have : Fy ws' i' (i' + L) = 0 := by
          unfold Fy fyg
          rw [e0, if_neg k0, if_neg k1, if_neg k2]
        rw [this]; omega
    have a2 : sm (hj ws' i' (i' + L)) (i' + 1) (i' + L - i' - 2) ≤ sm (hj ws i (i + L)) (i + 1) (i + L - i - 2) := by
      rw [show i' + L - i' - 2 = L - 2 by omega, show i + L - i - 2 = L - 2 by omega]
      apply sm_le
      intro m hm
      have em := e (1 + m) (by omega)
      rw [← Nat.add_assoc, ← Nat.add_assoc] at em
      unfold hj hjg
      rw [em]
      split
      · have u1 := up 0 (1 + m) (by omega) (by omega)
        have u2 := up (2 + m) (L - 2 - m) (by omega) (by omega)
        rw [Nat.add_zero, Nat.add_zero, ← Nat.add_assoc, ← Nat.add_assoc] at u1
        rw [show i' + (2 + m) + (L - 2 - m) = i' + L by omega, show i + (2 + m) + (L - 2 - m) = i + L by omega] at u2
        rw [show i' + 1 + m + 1 = i' + (2 + m) by omega, show i + 1 + m + 1 = i + (2 + m) by omega]
        exact Nat.mul_le_mul u1 u2
      · omega
    omega
/-- where the words are once the brackets are in -/
theorem bl_wa {ws : List Int32} {a b : Nat} (hab : a ≤ b) : ∀ i k, k < (bl ws a b i).length → wa (bl ws a b i) k = if k < a then wa ws k else if k = a then 40 else if k ≤ b + 1 then wa ws (k - 1) else if k = b + 2 then 41 else wa ws (k - 2) := by
  intro i
  induction i with
  | zero => intro k hk; exact absurd hk (Nat.not_lt_zero _)
  | succ i ih =>
    intro k hk
    have hlen := bl_len ws a b i
    have hlen2 := bl_len ws a b (i + 1)
    have wend : ∀ (l : List Int32) (v : Int32) (j : Nat), j = l.length → wa (l ++ [v]) j = v := fun l v j e => by rw [e]; exact wa_end
    by_cases h1 : i < a
    · rw [if_neg (by omega), if_neg (by omega)] at hlen
      rw [if_neg (by omega), if_neg (by omega)] at hlen2
      rw [bl, if_neg (by omega), if_neg (by omega), List.append_nil, List.append_nil]
      by_cases q : k < i
      · rw [wa_app (by omega)]; exact ih k (by omega)
      · rw [wend _ _ k (by omega), if_pos (by omega), show k = i by omega]
    · by_cases h2 : i = a
      · rw [if_neg (by omega), if_neg (by omega)] at hlen
        rw [if_pos (by omega)] at hlen2
        have l1 : (bl ws a b i ++ [40]).length = i + 1 := by rw [List.length_append, List.length_singleton]; omega
        by_cases h3 : i = b
        · rw [if_pos (by omega)] at hlen2
          have l2 : ((bl ws a b i ++ [40]) ++ [wa ws i]).length = i + 2 := by rw [List.length_append, List.length_singleton, l1]
          rw [bl, if_pos h2, if_pos h3]
          by_cases q : k = i + 2
          · rw [wend _ _ k (by omega), if_neg (by omega), if_neg (by omega), if_neg (by omega), if_pos (by omega)]
          · rw [wa_app (by omega)]
            by_cases q2 : k = i + 1
            · rw [wend _ _ k (by omega), if_neg (by omega), if_neg (by omega), if_pos (by omega), show k - 1 = i by omega]
            · rw [wa_app (by omega)]
              by_cases q3 : k = i
              · rw [wend _ _ k (by omega), if_neg (by omega), if_pos (by omega)]
              · rw [wa_app (by omega)]; exact ih k (by omega)
        · rw [if_neg (by omega)] at hlen2
          rw [bl, if_pos h2, if_neg h3, List.append_nil]
          by_cases q2 : k = i + 1
          · rw [wend _ _ k (by omega), if_neg (by omega), if_neg (by omega), if_pos (by omega), show k - 1 = i by omega]
          · rw [wa_app (by omega)]
            by_cases q3 : k = i
            · rw [wend _ _ k (by omega), if_neg (by omega), if_pos (by omega)]
            · rw [wa_app (by omega)]; exact ih k (by omega)
      · rw [if_pos (by omega)] at hlen hlen2
        by_cases h3 : i < b
        · rw [if_neg (by omega)] at hlen hlen2
          rw [bl, if_neg h2, if_neg (by omega), List.append_nil, List.append_nil]
          by_cases q : k = i + 1
          · rw [wend _ _ k (by omega), if_neg (by omega), if_neg (by omega), if_pos (by omega), show k - 1 = i by omega]
          · rw [wa_app (by omega)]; exact ih k (by omega)
        · by_cases h4 : i = b
          · rw [if_neg (by omega)] at hlen
            rw [if_pos (by omega)] at hlen2
            have l1 : (bl ws a b i ++ [wa ws i]).length = i + 2 := by rw [List.length_append, List.length_singleton]; omega
            rw [bl, if_neg h2, if_pos h4, List.append_nil]
            by_cases q : k = i + 2
            · rw [wend _ _ k (by omega), if_neg (by omega), if_neg (by omega), if_neg (by omega), if_pos (by omega)]
            · rw [wa_app (by omega)]
              by_cases q2 : k = i + 1
              · rw [wend _ _ k (by omega), if_neg (by omega), if_neg (by omega), if_pos (by omega), show k - 1 = i by omega]
              · rw [wa_app (by omega)]; exact ih k (by omega)
          · rw [if_pos (by omega)] at hlen hlen2
            rw [bl, if_neg h2, if_neg h4, List.append_nil, List.append_nil]
            by_cases q : k = i + 2
            · rw [wend _ _ k (by omega), if_neg (by omega), if_neg (by omega), if_neg (by omega), if_neg (by omega), show k - 2 = i by omega]
            · rw [wa_app (by omega)]; exact ih k (by omega)
/-- a sum with a gap -/
theorem sm_gap {f g : Nat → Nat} {a b : Nat} (hab : a ≤ b) {lo e : Nat} (h0 : lo ≤ a + 1) (he : b + 1 ≤ e) (h1 : ∀ k, lo ≤ k → k < a → f k ≤ g k) (h2 : ∀ k, lo ≤ k → a ≤ k → k ≤ b + 2 → k ≤ e → f k = 0) (h3 : ∀ k, b + 2 < k → k ≤ e → f k ≤ g (k - 2)) : sm f lo (e + 1 - lo) ≤ sm g lo (e - 1 - lo) := by
  obtain ⟨p, hp⟩ : ∃ p, p = a - lo := ⟨_, rfl⟩
  have s1 : sm f lo p ≤ sm g lo p := sm_le p lo lo (fun m hm => h1 (lo + m) (by omega) (by omega))
  by_cases q : e ≤ b + 2
  · rw [show e + 1 - lo = p + (e + 1 - lo - p) by omega, sm_app, sm_0 (e + 1 - lo - p) (lo + p) (fun k x y => h2 k (by omega) (by omega) (by omega) (by omega)), show e - 1 - lo = p + (e - 1 - lo - p) by omega, sm_app]
    omega
  · rw [show e + 1 - lo = p + ((b + 3 - lo - p) + (e - b - 2)) by omega, sm_app, sm_app, sm_0 (b + 3 - lo - p) (lo + p) (fun k x y => h2 k (by omega) (by omega) (by omega) (by omega)), show e - 1 - lo = p + ((b + 1 - lo - p) + (e - b - 2)) by omega, sm_app, sm_app]
    have s3 : sm f (lo + p + (b + 3 - lo - p)) (e - b - 2) ≤ sm g (lo + p + (b + 1 - lo - p)) (e - b - 2) := sm_le _ _ _ (fun m hm => by
      have := h3 (b + 3 + m) (by omega) (by omega)
      rw [show lo + p + (b + 3 - lo - p) + m = b + 3 + m by omega, show lo + p + (b + 1 - lo - p) + m = b + 3 + m - 2 by omega]
      exact this)
    omega
section MN
variable {ws : List Int32} {a b : Nat}
theorem mono_D (hl : ws.length + 2 ≤ 21) (hab : a ≤ b) (hb : b < ws.length) {t : zT} (ht : sp ws a t) (hlt : a + ln t = b + 1) : ∀ L i j, j - i = L → i ≤ a → b + 1 ≤ j → j ≤ ws.length → Ny (bl ws a b ws.length) i (j + 2) ≤ Ny ws i j := by
  have hlen : (bl ws a b ws.length).length = ws.length + 2 := by rw [bl_len, if_pos (by omega), if_pos hb]
  obtain ⟨V, hV⟩ : ∃ V, V = bl ws a b ws.length := ⟨_, rfl⟩
  rw [← hV] at hlen ⊢
  have W : ∀ k, k < ws.length + 2 → wa V k = if k < a then wa ws k else if k = a then 40 else if k ≤ b + 1 then wa ws (k - 1) else if k = b + 2 then 41 else wa ws (k - 2) := by
    intro k hk
    rw [hV]
    exact bl_wa hab ws.length k (by rw [← hV, hlen]; exact hk)
  have W1 : ∀ k, k < a → wa V k = wa ws k := fun k hk => by rw [W k (by omega), if_pos hk]
  have W2 : wa V a = 40 := by rw [W a (by omega), if_neg (by omega), if_pos rfl]
  have W3 : ∀ k, a < k → k ≤ b + 1 → wa V k = wa ws (k - 1) := fun k h1 h2 => by rw [W k (by omega), if_neg (by omega), if_neg (by omega), if_pos h2]
  have W4 : wa V (b + 2) = 41 := by rw [W (b + 2) (by omega), if_neg (by omega), if_neg (by omega), if_neg (by omega), if_pos rfl]
  have W5 : ∀ k, b + 2 < k → k < ws.length + 2 → wa V k = wa ws (k - 2) := fun k h1 h2 => by rw [W k h2, if_neg (by omega), if_neg (by omega), if_neg (by omega), if_neg (by omega)]
  have hP : sp V (a + 1) t := sp_shift t a ht (a + 1) (fun m hm => by rw [W3 _ (by omega) (by omega), show a + 1 + m - 1 = a + m by omega])
  have hcP : clo V (a + 1) = b + 2 := by
    have := clo_sp41 hP (by omega) (by rw [show a + 1 + ln t = b + 2 by omega]; exact W4)
    omega
  -- runs that have the one bracket alone
  have X1 : ∀ i j, i ≤ a → a < j → j ≤ b + 2 → Ny V i j = 0 := by
    intro i j h1 h2 h3
    apply Classical.byContradiction
    intro q
    obtain ⟨s, s1, s2⟩ := Ny_sp (by omega) (show j ≤ V.length by omega) (Nat.pos_of_ne_zero q)
    obtain ⟨u, u1, u2, u3⟩ := op_in s i s1 a h1 (by omega) W2
    have := clo_sp41 u1 (by omega) u3
    omega
  have X2 : ∀ i j, a < i → i ≤ b + 2 → b + 2 < j → j ≤ ws.length + 2 → Ny V i j = 0 := by
    intro i j h1 h2 h3 h4
    apply Classical.byContradiction
    intro q
    obtain ⟨s, s1, s2⟩ := Ny_sp (by omega) (show j ≤ V.length by omega) (Nat.pos_of_ne_zero q)
    obtain ⟨m, u, u1, u2, u3, u4⟩ := cl_in s i s1 (b + 2) h2 (by omega) W4
    have c1 := clo_sp41 u3 (by omega) (by rw [u4]; exact W4)
    have lu := ln_pos u
    obtain ⟨v, v1, v2, v3⟩ := op_in t (a + 1) hP m (by omega) (by omega) u2
    have c2 := clo_sp41 v1 (by omega) v3
    omega
  have S1 : ∀ i j, i ≤ j → j ≤ a → Ny V i j ≤ Ny ws i j := by
    intro i j h0 h
    have := Ny_sub (ws := ws) (ws' := V) (by omega) (by omega) (j - i) i i (fun m hm => W1 _ (by omega)) (by omega) (by omega)
    rwa [show i + (j - i) = j by omega] at this
  have S3 : ∀ i j, i ≤ j → b + 1 ≤ i → j ≤ ws.length → Ny V (i + 2) (j + 2) ≤ Ny ws i j := by
    intro i j h0 h1 h2
    have := Ny_sub (ws := ws) (ws' := V) (by omega) (by omega) (j - i) i (i + 2) (fun m hm => by rw [W5 _ (by omega) (by omega), show i + 2 + m - 2 = i + m by omega]) (by omega) (by omega)
    rwa [show i + 2 + (j - i) = j + 2 by omega, show i + (j - i) = j by omega] at this
  intro L
  induction L using Nat.strongRecOn with
  | ind L ih =>
    intro i j hL hi hj' hn
    -- the sum, of all but what begins at the bracket
    have hsum : ∀ lo, i + 1 = lo → sm (hj V i (j + 2)) lo (j + 1 - lo) ≤ sm (hj ws i j) lo (j - 1 - lo) := by
      intro lo hlo
      refine sm_gap hab (by omega) (by omega) (fun k h1 h2 => ?_) (fun k h0 h1 h2 h3 => ?_) (fun k h1 h2 => ?_)
      · unfold hj hjg
        rw [W1 k h2]
        split
        · exact Nat.mul_le_mul (S1 i k (by omega) (by omega)) (ih (j - (k + 1)) (by omega) (k + 1) j rfl (by omega) hj' hn)
        · omega
      · unfold hj hjg
        by_cases e1 : k = a
        · rw [e1, W2, if_neg (by decide)]
        · by_cases e2 : k = b + 2
          · rw [e2, W4, if_neg (by decide)]
          · split
            · rw [X1 i k hi (by omega) (by omega), Nat.zero_mul]
            · rfl
      · have ew : wa V k = wa ws (k - 2) := W5 k h1 (by omega)
        unfold hj hjg
        rw [ew]
        split
        · have u1 := ih (k - 2 - i) (by omega) i (k - 2) rfl hi (by omega) (by omega)
          rw [show k - 2 + 2 = k by omega] at u1
          have u2 := S3 (k - 2 + 1) j (by omega) (by omega) hn
          rw [show k - 2 + 1 + 2 = k + 1 by omega] at u2
          exact Nat.mul_le_mul u1 u2
        · omega
    have hs := hsum (i + 1) rfl
    rw [show j + 1 - (i + 1) = j + 2 - i - 2 by omega, show j - 1 - (i + 1) = j - i - 2 by omega] at hs
    rw [Ny_eq (ws := V) (by omega) (by omega)]
    by_cases hia : i = a
    · subst hia
      rw [Fy_2 (ws := V) (by rw [W2]; rfl), hcP]
      by_cases q : j = b + 1
      · rw [if_pos (by omega)]
        have z : sm (hj V i (j + 2)) (i + 1) (j + 2 - i - 2) = 0 := sm_0 _ _ (fun k h1 h2 => by
          unfold hj hjg
          split
          · rw [X1 i k (Nat.le_refl _) (by omega) (by omega), Nat.zero_mul]
          · rfl)
        rw [z, Nat.add_zero]
        have := Ny_sub (ws := ws) (ws' := V) (by omega) (by omega) (j - i) i (i + 1) (fun m hm => by rw [W3 _ (by omega) (by omega), show i + 1 + m - 1 = i + m by omega]) (by omega) (by omega)
        rwa [show i + 1 + (j - i) = j + 2 - 1 by omega, show i + (j - i) = j by omega] at this
      · rw [if_neg (by omega), Nat.zero_add]
        rw [Ny_eq (ws := ws) (by omega) (by omega)]
        omega
    · have hf : Fy V i (j + 2) ≤ Fy ws i j := by
        have ew := W1 i (by omega)
        by_cases k0 : kd (wa ws i) = 0
        · rw [Fy_0 (ws := V) (by rw [ew]; exact k0), if_neg (by omega)]; omega
        by_cases k1 : kd (wa ws i) = 1
        · rw [Fy_1 k1, Fy_1 (ws := V) (by rw [ew]; exact k1)]
          exact ih (j - (i + 1)) (by omega) (i + 1) j rfl (by omega) hj' hn
        by_cases k2 : kd (wa ws i) = 2
        · rw [Fy_2 (ws := V) (by rw [ew]; exact k2)]
          by_cases hc : clo V (i + 1) + 1 = j + 2
          · rw [if_pos hc, show j + 2 - 1 = j + 1 by omega]
            refine Ny_le0 (fun hp => ?_)
            by_cases q : j = b + 1
            · rw [q, X1 (i + 1) (b + 1 + 1) (by omega) (by omega) (by omega)] at hp; omega
            · have u := ih (j - 1 - (i + 1)) (by omega) (i + 1) (j - 1) rfl (by omega) (by omega) (by omega)
              rw [show j - 1 + 2 = j + 1 by omega] at u
              obtain ⟨s, s1, s2⟩ := Ny_sp (ws := ws) (by omega) (show j - 1 ≤ ws.length by omega) (Nat.lt_of_lt_of_le hp u)
              have h41 := clo_41 (ws := V) (p := i + 1) (by omega) (by omega)
              rw [show clo V (i + 1) = j + 1 by omega, W5 _ (by omega) (by omega), show j + 1 - 2 = j - 1 by omega] at h41
              have hcl := clo_sp41 s1 (by omega) (by rw [s2]; exact h41)
              rw [Fy_2 k2, if_pos (by omega)]
              exact u
          · rw [if_neg hc]; omega
        · have : Fy V i (j + 2) = 0 := by
            unfold Fy fyg
            rw [ew, if_neg k0, if_neg k1, if_neg k2]
          rw [this]; omega
      rw [Ny_eq (ws := ws) (by omega) (by omega)]
      omega
theorem mono_ok (hl : ws.length + 2 ≤ 21) (hab : a ≤ b) (hb : b < ws.length) {t : zT} (ht : sp ws a t) (hlt : a + ln t = b + 1) : Ny (bl ws a b ws.length) 0 (bl ws a b ws.length).length ≤ Ny ws 0 ws.length := by
  have hlen : (bl ws a b ws.length).length = ws.length + 2 := by rw [bl_len, if_pos (by omega), if_pos hb]
  rw [hlen]
  exact mono_D hl hab hb ht hlt ws.length 0 ws.length (by omega) (Nat.zero_le _) (by omega) (Nat.le_refl _)
end MN
