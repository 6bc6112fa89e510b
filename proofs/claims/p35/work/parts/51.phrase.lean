/-- a run of words read as a phrase: how many are left, whether a phrase is due, how many brackets stand, the place -/
def fp (w : Nat → Int32) : Nat → Bool → Nat → Nat → Bool
  | 0, d, o, _ => !d && o == 0
  | c + 1, true, o, i => if w i = 40 then fp w c true (o + 1) (i + 1) else if kd (w i) = 0 then fp w c false o (i + 1) else if w i = 33 then fp w c true o (i + 1) else false
  | c + 1, false, o, i => if w i = 41 then (if 0 < o then fp w c false (o - 1) (i + 1) else false) else if jn (w i) = true then fp w c true o (i + 1) else false
theorem fp_sp {ws : List Int32} : ∀ c o i, fp (wa ws) c true o i = true → ∃ t, sp ws i t ∧ ln t ≤ c ∧ fp (wa ws) (c - ln t) false o (i + ln t) = true ∧ (ln t = c ∨ (ln t < c ∧ wa ws (i + ln t) = 41)) := by
  intro c
  induction c using Nat.strongRecOn with
  | ind c ih =>
    intro o i h
    have cont : ∀ a, sp ws i a → ln a ≤ c → fp (wa ws) (c - ln a) false o (i + ln a) = true → ∃ t, sp ws i t ∧ ln t ≤ c ∧ fp (wa ws) (c - ln t) false o (i + ln t) = true ∧ (ln t = c ∨ (ln t < c ∧ wa ws (i + ln t) = 41)) := by
      intro a ha hl hf
      by_cases he : ln a = c
      · exact ⟨a, ha, hl, hf, Or.inl he⟩
      · obtain ⟨c', hc'⟩ : ∃ c', c - ln a = c' + 1 := ⟨c - ln a - 1, by omega⟩
        by_cases h41 : wa ws (i + ln a) = 41
        · exact ⟨a, ha, hl, hf, Or.inr ⟨by omega, h41⟩⟩
        · rw [hc', fp, if_neg h41] at hf
          by_cases hj : jn (wa ws (i + ln a)) = true
          · rw [if_pos hj] at hf
            have lp := ln_pos a
            obtain ⟨b, hb, hbl, hbf, hbe⟩ := ih c' (by omega) o (i + ln a + 1) hf
            refine ⟨.add a b, ⟨hj, ha, hb⟩, by simp only [ln]; omega, ?_, ?_⟩
            · rw [show c - ln (.add a b) = c' - ln b by simp only [ln]; omega, show i + ln (.add a b) = i + ln a + 1 + ln b by simp only [ln]; omega]
              exact hbf
            · rw [show i + ln (.add a b) = i + ln a + 1 + ln b by simp only [ln]; omega]
              simp only [ln]
              rcases hbe with hbe | hbe
              · left; omega
              · right; exact ⟨by omega, hbe.2⟩
          · rw [if_neg hj] at hf; cases hf
    rcases Nat.eq_zero_or_pos c with e | e
    · subst e
      rw [fp] at h
      cases h
    · obtain ⟨c1, rfl⟩ : ∃ c1, c = c1 + 1 := ⟨c - 1, by omega⟩
      rw [fp] at h
      by_cases h40 : wa ws i = 40
      · rw [if_pos h40] at h
        obtain ⟨a, ha, hal, haf, hae⟩ := ih c1 (by omega) (o + 1) (i + 1) h
        rcases hae with hae | hae
        · rw [show c1 - ln a = 0 by omega, fp] at haf
          simp at haf
        · obtain ⟨c2, hc2⟩ : ∃ c2, c1 - ln a = c2 + 1 := ⟨c1 - ln a - 1, by omega⟩
          rw [hc2, fp, if_pos hae.2, if_pos (by omega)] at haf
          apply cont (.pow a 0) ⟨h40, hae.2, ha⟩ (by simp only [ln]; omega)
          rw [show c1 + 1 - ln (.pow a 0) = c2 by simp only [ln]; omega, show i + ln (.pow a 0) = i + 1 + ln a + 1 by simp only [ln]; omega]
          exact haf
      · rw [if_neg h40] at h
        by_cases h0 : kd (wa ws i) = 0
        · rw [if_pos h0] at h
          exact cont (.var 0) h0 (by simp only [ln]; omega) (by simp only [ln]; exact h)
        · rw [if_neg h0] at h
          by_cases h33 : wa ws i = 33
          · rw [if_pos h33] at h
            obtain ⟨a, ha, hal, haf, hae⟩ := ih c1 (by omega) o (i + 1) h
            refine ⟨.neg a, ⟨h33, ha⟩, by simp only [ln]; omega, ?_, ?_⟩
            · rw [show c1 + 1 - ln (.neg a) = c1 - ln a by simp only [ln]; omega, show i + ln (.neg a) = i + 1 + ln a by simp only [ln]; omega]
              exact haf
            · rw [show i + ln (.neg a) = i + 1 + ln a by simp only [ln]; omega]
              simp only [ln]
              rcases hae with hae | hae
              · left; omega
              · right; exact ⟨by omega, hae.2⟩
          · rw [if_neg h33] at h; cases h
theorem fp_ok {ws : List Int32} {c i : Nat} (h : fp (wa ws) c true 0 i = true) : ∃ t, sp ws i t ∧ ln t = c := by
  obtain ⟨t, t1, t2, t3, t4⟩ := fp_sp c 0 i h
  rcases t4 with t4 | t4
  · exact ⟨t, t1, t4⟩
  · obtain ⟨c2, hc2⟩ : ∃ c2, c - ln t = c2 + 1 := ⟨c - ln t - 1, by omega⟩
    rw [hc2, fp, if_pos t4.2, if_neg (by omega)] at t3
    cases t3
