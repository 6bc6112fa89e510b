theorem isLet (c : Int32) (M : ZM) : f_X12_isLetter c M = if kd c = 0 then 1 else 0 := by
  unfold f_X12_isLetter
  by_cases h : kd c = 0
  · rw [if_pos h]
    rcases kd0.mp h with e | e | e | e | e <;> subst e <;> decide
  · rw [if_neg h]
    by_cases h1 : c < 97
    · rw [if_pos h1]
    · rw [if_neg h1]
      by_cases h2 : 101 < c
      · rw [if_pos h2]
      · exfalso
        apply h
        have h0 : ¬ c < 0 := by
          intro q
          apply h1
          rw [Int32.lt_iff_toInt_lt] at q ⊢
          have e0 : (0 : Int32).toInt = 0 := rfl
          have e1 : (97 : Int32).toInt = 97 := rfl
          omega
        obtain ⟨e, hb⟩ := v_nI h0
        rw [e] at h1 h2 ⊢
        rw [show (97 : Int32) = nI 97 from rfl, nJ_lt hb (by omega)] at h1
        rw [show (101 : Int32) = nI 101 from rfl, nJ_lt (by omega) hb] at h2
        generalize c.toNatClampNeg = k at *
        have : k = 97 ∨ k = 98 ∨ k = 99 ∨ k = 100 ∨ k = 101 := by omega
        rcases this with z | z | z | z | z <;> subst z <;> decide +kernel
theorem rk (c : Int32) (M : ZM) : f_X12_kindOf c M = if jn c = true then kd c else -9 := by
  unfold f_X12_kindOf jn
  rcases kd_or c with q | q | q | q | q | q | q | q <;> rw [q.1]
  · rw [q.2]; decide
  · rw [q.2]; decide
  · rw [q.2]; decide
  · rw [q.2]; decide
  · rw [q.2]; decide
  · rcases q.2 with e | e | e | e | e <;> rw [e] <;> decide
  · rw [q.2]; decide
  · rw [if_neg q.2.2.1, if_neg q.2.2.2.2.2.2.2.2.2.2.2, if_neg q.2.2.2.2.2.1, if_neg q.2.2.2.2.1, if_neg (by decide)]
theorem jn_pos {c : Int32} (h : jn c = true) : ¬ kd c ≤ 0 ∧ 0 ≤ kd c ∧ ¬ kd c < 0 := by
  rcases jn_or h with e | e | e | e <;> rw [e.1] <;> decide
theorem nI_22' (a b : Nat) : 22 * nI a + nI b = nI (a * 22 + b) := by rw [Int32.mul_comm, nI_22]
def Wm (ws : List Int32) (M : ZM) (i j : Nat) : Prop := M.2 61 (i * 22 + j) = lN (Ny ws i j)
theorem ways_ok {i j : Nat} {M : ZM} (h : i * 22 + j < 484) : f_X12_waysOf 50 (nI i) (nI j) M = some (M.2 61 (i * 22 + j)) := by
  unfold f_X12_waysOf
  rw [nI_22', show zr 50 18 = 61 by decide +kernel, zckT (by rw [show zn 61 = 484 by decide +kernel]; exact zin_t h (by omega)), nI_tn (by omega)]
abbrev RW (M : ZM) (ws : List Int32) : Prop := LH M 50 10 52 ws
theorem z52 : zr 50 1 = 52 := by decide +kernel
theorem z61 : zr 50 18 = 61 := by decide +kernel
theorem n52 : zn 52 = 21 := by decide +kernel
theorem zwd_in {i : Nat} (h : i < 21) : zin (nI i) (zn (zr 50 1)) = true := by rw [z52, n52]; exact zin_t h (by omega)
theorem zwd_at {M : ZM} {ws : List Int32} (hl : ws.length ≤ 21) (h : RW M ws) {i : Nat} (hi : i < ws.length) : M.1 (zr 50 1) (nI i).toNatClampNeg = wa ws i := by
  rw [z52, nI_tn (by omega)]; exact h.2 i hi
theorem first_ok {ws : List Int32} {M : ZM} {i j : Nat} (hl : ws.length ≤ 21) (hij : i < j) (hq : j ≤ ws.length) (hs : RW M ws) (h1 : ∀ a b, a < b → b - a < j - i → b ≤ ws.length → Wm ws M a b) : f_X12_firstWays 50 (nI i) (nI j) M = some (lN (Fy ws i j)) := by
  have hc := clo_le (ws := ws) (p := i + 1) (by omega)
  unfold f_X12_firstWays
  simp only [zletE]
  rw [nI_sub (by omega), zckT (zwd_in (by omega)), zwd_at hl hs (by omega)]
  by_cases hj1 : j = i + 1
  · subst hj1
    rw [if_pos (by rw [show (1 : Int32) = nI 1 from rfl, nI_inj (by omega) (by omega)]; omega), isLet]
    unfold Fy fyg
    by_cases h0 : kd (wa ws i) = 0
    · rw [if_pos h0, if_pos h0, if_neg (by decide), if_pos rfl, lN1]
    · rw [if_neg h0, if_neg h0, if_pos rfl, Ny_0 (by omega), Ny_0 (by omega), ← lN0]
      split <;> (try split) <;> (try split) <;> rfl
  · rw [if_neg (by rw [show (1 : Int32) = nI 1 from rfl, nI_inj (by omega) (by omega)]; omega), zckT (zwd_in (by omega))]
    by_cases h33 : wa ws i = 33
    · have k1 := kd1.mpr h33
      rw [if_pos h33, nI_s, ways_ok (by omega), bindE, h1 (i + 1) j (by omega) (by omega) hq, Fy_1 k1]
    · have k1 : ¬ kd (wa ws i) = 1 := fun q => h33 (kd1.mp q)
      rw [if_neg h33]
      unfold f_X12_isBracketed
      rw [zckT (zwd_in (by omega)), zwd_at hl hs (by omega)]
      by_cases h40 : wa ws i = 40
      · have k2 := kd2.mpr h40
        rw [if_pos h40, nI_p (by omega), zckT (zwd_in (by omega)), zwd_at hl hs (by omega), nI_sub (by omega), Fy_2 k2]
        by_cases h41 : wa ws (j - 1) = 41
        · rw [if_pos h41]
          by_cases h2 : j - i ≤ 2
          · rw [if_pos (by rw [show (2 : Int32) = nI 2 from rfl, nI_le' (by omega) (by omega)]; exact h2), bindE, if_pos rfl, Ny_0 (by omega), ← lN0]
            split <;> rfl
          · rw [if_neg (by rw [show (2 : Int32) = nI 2 from rfl, nI_le' (by omega) (by omega)]; exact h2), bindE, if_neg (by decide), nI_s, ways_ok (by omega), bindE, h1 (i + 1) (j - 1) (by omega) (by omega) (by omega)]
            by_cases hcl : clo ws (i + 1) + 1 = j
            · rw [if_pos hcl]
            · rw [if_neg hcl]
              have : Ny ws (i + 1) (j - 1) = 0 := by
                apply Classical.byContradiction
                intro z
                obtain ⟨t, ht⟩ := Rd_ex (ws := ws) 63 (i + 1) (j - 1) 0 (by omega) (by omega) (by omega)
                have hsp := Rd_sp t (i + 1) (j - 1) 0 (by omega) (by omega) ht
                have := clo_sp41 hsp.1 (by omega) (by rw [hsp.2]; exact h41)
                omega
              rw [this]
        · rw [if_neg h41, bindE, if_pos rfl, if_neg, ← lN0]
          intro z
          apply h41
          have := clo_41 (ws := ws) (p := i + 1) (by omega) (by omega)
          rwa [show clo ws (i + 1) = j - 1 by omega] at this
      · have k2 : ¬ kd (wa ws i) = 2 := fun q => h40 (kd2.mp q)
        rw [if_neg h40, bindE, if_pos rfl, ← lN0]
        unfold Fy fyg
        rw [if_neg k1, if_neg k2, if_neg hj1]
        split <;> rfl
theorem fw39_ok {ws : List Int32} {i j : Nat} (hl : ws.length ≤ 21) (hij : i < j) (hq : j ≤ ws.length) (n : Int32) (K : Int64 → ZM → Option ZM) {M : ZM} (hs : RW M ws) (h1 : ∀ a b, a < b → b - a < j - i → b ≤ ws.length → Wm ws M a b) : ∀ c k fuel s, i < k → k ≤ 100 → j - 1 - k = c → c < fuel → f_X12_findWays_39 50 n (nI i) (nI j) K fuel (lN s) (nI k) M = K (lN (s + sm (hj ws i j) k c)) M := by
  intro c
  induction c with
  | zero =>
    intro k fuel s hk hk2 hc hf
    obtain ⟨fuel, rfl⟩ : ∃ m, fuel = m + 1 := ⟨fuel - 1, by omega⟩
    rw [f_X12_findWays_39, nI_p (by omega), if_pos (by rw [nI_le' (by omega) (by omega)]; omega), sm, Nat.add_zero]
  | succ c ih =>
    intro k fuel s hk hk2 hc hf
    obtain ⟨fuel, rfl⟩ : ∃ m, fuel = m + 1 := ⟨fuel - 1, by omega⟩
    rw [f_X12_findWays_39, nI_p (by omega), if_neg (by rw [nI_le' (by omega) (by omega)]; omega)]
    simp only [zletE]
    rw [zckT (zwd_in (by omega)), zwd_at hl hs (by omega), rk, nI_s, sm]
    by_cases q : jn (wa ws k) = true
    · rw [if_pos q, if_neg (jn_pos q).1, ways_ok (by omega), bindE, ways_ok (by omega), bindE, h1 i k hk (by omega) (by omega), h1 (k + 1) j (by omega) (by omega) hq, lN_mul, lN_add, ih (k + 1) fuel _ (by omega) (by omega) (by omega) (by omega)]
      unfold hj hjg
      rw [if_pos q, Nat.add_assoc]
    · rw [if_neg q, if_pos (by decide), ih (k + 1) fuel _ (by omega) (by omega) (by omega) (by omega)]
      have e : hj ws i j k = 0 := by unfold hj hjg; rw [if_neg q]
      rw [e, Nat.zero_add]
theorem fw12_ok {ws : List Int32} {L : Nat} (hl : ws.length ≤ 21) (hL : 1 ≤ L) (K : ZM → Option ZM) : ∀ c i fuel M, i + c = ws.length + 1 - L → c < fuel → L ≤ ws.length → RW M ws → (∀ a b, a < b → b - a < L → b ≤ ws.length → Wm ws M a b) → (∀ a, a < i → Wm ws M a (a + L)) → ∃ N, f_X12_findWays_12 50 (nI L) K fuel (nI i) M = K N ∧ (∀ a b, a < b → b - a < L + 1 → b ≤ ws.length → Wm ws N a b) ∧ Fr [61] M N := by
  intro c
  induction c with
  | zero =>
    intro i fuel M hi hf hLn hs h1 h2
    obtain ⟨fuel, rfl⟩ : ∃ m, fuel = m + 1 := ⟨fuel - 1, by omega⟩
    rw [f_X12_findWays_12, hs.1, nJ_add, if_pos (by rw [nJ_lt (by omega) (by omega)]; omega)]
    refine ⟨M, rfl, ?_, Fr_rf _ _⟩
    intro a b hab hb hbn
    by_cases q : b - a < L
    · exact h1 a b hab q hbn
    · have := h2 a (by omega)
      rwa [show a + L = b by omega] at this
  | succ c ih =>
    intro i fuel M hi hf hLn hs h1 h2
    obtain ⟨fuel, rfl⟩ : ∃ m, fuel = m + 1 := ⟨fuel - 1, by omega⟩
    rw [f_X12_findWays_12, hs.1, nJ_add, if_neg (by rw [nJ_lt (by omega) (by omega)]; omega)]
    simp only [zletE]
    rw [first_ok hl (by omega) (by omega) hs (fun a b hab hb hbn => h1 a b hab (by omega) hbn), bindE, nI_s, fw39_ok hl (by omega) (by omega) (nI L) _ hs (fun a b hab hb hbn => h1 a b hab (by omega) hbn) (i + L - i - 2) (i + 1) zN (Fy ws i (i + L)) (by omega) (by omega) (by omega) (by unfold zN; omega), ← Ny_eq (by omega) (by omega), nI_22', zckT (by rw [z61, show zn 61 = 484 by decide +kernel]; exact zin_t (by omega) (by omega)), z61, nI_tn (by omega)]
    have F1 : Fr [61] M (zl M 61 (i * 22 + (i + L)) (lN (Ny ws i (i + L)))) := Fr_zl (by decide)
    have hk : ∀ a b, b ≤ 21 → ¬ (a = i ∧ b = i + L) → Wm ws M a b → Wm ws (zl M 61 (i * 22 + (i + L)) (lN (Ny ws i (i + L)))) a b := by
      intro a b hb hn hw
      unfold Wm
      rw [zl_k (by omega)]; exact hw
    obtain ⟨N, e, hN, hF⟩ := ih (i + 1) fuel (zl M 61 (i * 22 + (i + L)) (lN (Ny ws i (i + L)))) (by omega) (by omega) hLn (LH_Fr hs F1 (by decide) (by decide)) (fun a b hab hb hbn => hk a b (by omega) (by omega) (h1 a b hab hb hbn))
      (fun a ha => by
        by_cases q : a = i
        · subst q; exact zl_eq
        · exact hk a (a + L) (by omega) (by omega) (h2 a (by omega)))
    exact ⟨N, e, hN, Fr_tr F1 hF⟩
theorem fw2_ok {ws : List Int32} (hl : ws.length ≤ 21) (K : ZM → Option ZM) : ∀ c L fuel M, L + c = ws.length + 1 → c < fuel → 1 ≤ L → RW M ws → (∀ a b, a < b → b - a < L → b ≤ ws.length → Wm ws M a b) → ∃ N, f_X12_findWays_2 50 K fuel (nI L) M = K N ∧ (∀ a b, a < b → b ≤ ws.length → Wm ws N a b) ∧ Fr [61] M N := by
  intro c
  induction c with
  | zero =>
    intro L fuel M hi hf hL hs h1
    obtain ⟨fuel, rfl⟩ : ∃ m, fuel = m + 1 := ⟨fuel - 1, by omega⟩
    rw [f_X12_findWays_2, hs.1, if_pos (by rw [nJ_lt (by omega) (by omega)]; omega)]
    exact ⟨M, rfl, fun a b hab hb => h1 a b hab (by omega) hb, Fr_rf _ _⟩
  | succ c ih =>
    intro L fuel M hi hf hL hs h1
    obtain ⟨fuel, rfl⟩ : ∃ m, fuel = m + 1 := ⟨fuel - 1, by omega⟩
    rw [f_X12_findWays_2, hs.1, if_neg (by rw [nJ_lt (by omega) (by omega)]; omega)]
    simp only [zletE]
    obtain ⟨N, e, hN, hF⟩ := fw12_ok hl hL (fun (M : ZM) => f_X12_findWays_2 50 K fuel (nI L + 1) M) (ws.length + 1 - L) 0 zN M (by omega) (by unfold zN; omega) (by omega) hs h1 (fun a ha => by omega)
    rw [nI0] at e
    rw [e, nI_s]
    obtain ⟨P, e2, hP, hF2⟩ := ih (L + 1) fuel N (by omega) (by omega) (by omega) (LH_Fr hs hF (by decide) (by decide)) hN
    exact ⟨P, e2, hP, Fr_tr hF hF2⟩
def Wz (ws : List Int32) (M : ZM) : Prop := ∀ a b, a < b → b ≤ ws.length → Wm ws M a b
theorem findWays_ok {ws : List Int32} (hl : ws.length ≤ 21) {M : ZM} (hs : RW M ws) : ∃ N, f_X12_findWays 50 M = some N ∧ Wz ws N ∧ Fr [61] M N := by
  unfold f_X12_findWays
  have := fw2_ok hl (fun M => some M) ws.length 1 zN M (by omega) (by unfold zN; omega) (Nat.le_refl _) hs (fun a b h1 h2 _ => by omega)
  exact this
theorem mask4_M (v0 : Int32) (K : Int64 → Option Int64) (M : ZM) : ∀ fuel v1 v3, f_X12_mask_4 v0 M K fuel v1 v3 = f_X12_mask_4 v0 zZ K fuel v1 v3 := by
  intro fuel
  induction fuel with
  | zero => intro v1 v3; rfl
  | succ n ih =>
    intro v1 v3
    rw [f_X12_mask_4, f_X12_mask_4]
    simp only [zletE, ih]
theorem mask_all : ∀ m, m < 5 → f_X12_mask (nI m) zZ = some (zmk m) := by decide +kernel
theorem mask_ok {m : Nat} (h : m < 5) (M : ZM) : f_X12_mask (nI m) M = some (zmk m) := by
  rw [← mask_all m h]
  unfold f_X12_mask
  exact mask4_M _ _ M _ _ _
