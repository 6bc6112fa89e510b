/-- the list of the readings -/
def LM (ws : List Int32) (M : ZM) : Prop := M.1 19 4 = nI (Ny ws 0 ws.length) ∧ ∀ r, r < Ny ws 0 ws.length → M.2 24 r = Me ws r ∧ M.1 25 r = Ix ws r ∧ M.1 26 r = Mt ws r
def mcs : List Nat := [10, 11, 12, 13, 14, 15, 16, 17, 18, 19, 20, 21, 22, 23, 24, 25, 26]
theorem make9_ok {ws : List Int32} (hl : ws.length ≤ 21) (hm : Ny ws 0 ws.length ≤ 200) (K : ZM → Option ZM) : ∀ c r fuel M, r + c = Ny ws 0 ws.length → c < fuel → WH M 3 ws → Wy ws M → M.1 19 4 = nI (Ny ws 0 ws.length) → (∀ s, s < r → M.2 24 s = Me ws s ∧ M.1 25 s = Ix ws s ∧ M.1 26 s = Mt ws s) → ∃ N, f_X2_make_9 19 3 7 10 K fuel (nI r) M = K N ∧ LM ws N ∧ Fr mcs M N := by
  intro c
  induction c with
  | zero =>
    intro r fuel M hr hf hs hy h4 h
    obtain ⟨fuel, rfl⟩ : ∃ m, fuel = m + 1 := ⟨fuel - 1, by omega⟩
    rw [f_X2_make_9, h4, if_pos (by rw [nI_le' (by omega) (by omega)]; omega)]
    exact ⟨M, rfl, ⟨h4, fun s hs' => h s (by omega)⟩, Fr_rf _ _⟩
  | succ c ih =>
    intro r fuel M hr hf hs hy h4 h
    obtain ⟨fuel, rfl⟩ : ∃ m, fuel = m + 1 := ⟨fuel - 1, by omega⟩
    rw [f_X2_make_9, h4, if_neg (by rw [nI_le' (by omega) (by omega)]; omega), nI_l (by omega)]
    obtain ⟨N1, e1, T1, F1⟩ := grow_ok hl hs hy (show r < Ny ws 0 ws.length by omega)
    rw [e1, bindE, show zr 19 0 = 20 by decide +kernel, show zr 19 1 = 24 by decide +kernel, show zr 19 2 = 25 by decide +kernel, show zr 19 3 = 26 by decide +kernel]
    obtain ⟨N2, e2, a1, a2, a3, F2⟩ := weigh_ok hl (WH_Fr hs F1 (by decide) (by decide +kernel)) (show r < Ny ws 0 ws.length by omega) T1
    rw [e2, bindE]
    simp only [zletE]
    have hm2 : f_X5_meaning 20 N2 = Me ws r := by
      unfold f_X5_meaning
      rw [zletE, show zr 20 0 = 21 by decide +kernel, ← nI0, l21 (by omega)]; exact a1
    unfold f_X5_idlePlaces f_X5_metRules
    rw [hm2, putl_nI (by rw [show zn 24 = 200 by decide +kernel]; omega) (by omega), zl_1, a2, put_nI (t := 25) (by rw [show zn 25 = 200 by decide +kernel]; omega) (by omega), zi_ne (by decide), zl_1, a3, put_nI (t := 26) (by rw [show zn 26 = 200 by decide +kernel]; omega) (by omega), nI_s]
    have F3 : Fr mcs M (zi (zi (zl N2 24 r (Me ws r)) 25 r (Ix ws r)) 26 r (Mt ws r)) := Fr_tr (Fr_sub F1 (by decide)) (Fr_tr (Fr_sub F2 (by decide)) (Fr_tr (Fr_zl (by decide)) (Fr_tr (Fr_zi (by decide)) (Fr_zi (by decide)))))
    have c24 : N2.2 24 = M.2 24 := (F2 24 (by decide)).2.trans (F1 24 (by decide)).2
    have c25 : N2.1 25 = M.1 25 := (F2 25 (by decide)).1.trans (F1 25 (by decide)).1
    have c26 : N2.1 26 = M.1 26 := (F2 26 (by decide)).1.trans (F1 26 (by decide)).1
    have c19 : N2.1 19 = M.1 19 := (F2 19 (by decide)).1.trans (F1 19 (by decide)).1
    obtain ⟨N, e, hN, hF⟩ := ih (r + 1) fuel (zi (zi (zl N2 24 r (Me ws r)) 25 r (Ix ws r)) 26 r (Mt ws r)) (by omega) (by omega) (WH_Fr hs F3 (by decide) (by decide +kernel)) (fun i j hi hj' => ⟨by rw [Fr_2 F3 (by decide)]; exact (hy i j hi hj').1, by rw [Fr_2 F3 (by decide)]; exact (hy i j hi hj').2⟩) (by rw [zi_ne (by decide), zi_ne (by decide), zl_1, c19]; exact h4)
      (fun s hs' => by
        rw [zi_2, zi_2, zi_ne (a := 26) (b := 25) (by decide)]
        by_cases q : s = r
        · subst q
          exact ⟨zl_eq, zi_eq, zi_eq⟩
        · rw [zl_k q, zi_k q, zi_k q, zl_1, zi_ne (by decide), zl_1, c24, c25, c26]
          exact h s (by omega))
    exact ⟨N, e, hN, Fr_tr F3 hF⟩
theorem make_ok {ws : List Int32} (hl : ws.length ≤ 21) (hm : Ny ws 0 ws.length ≤ 200) {M : ZM} (hs : WH M 3 ws) (hy : Wy ws M) : ∃ N, f_X2_make 19 3 7 10 (nI (Ny ws 0 ws.length)) M = some N ∧ LM ws N ∧ N.1 19 5 = 1 ∧ Fr mcs M N := by
  unfold f_X2_make
  simp only [zletE]
  rw [← nI0]
  have F0 : Fr mcs M (zi M 19 4 (nI (Ny ws 0 ws.length))) := Fr_zi (by decide)
  obtain ⟨N, e, hN, hF⟩ := make9_ok hl hm (fun (M : ZM) => some (zi M 19 5 1)) (Ny ws 0 ws.length) 0 zN (zi M 19 4 (nI (Ny ws 0 ws.length))) (by omega) (by unfold zN; omega) (WH_Fr hs F0 (by decide) (by decide +kernel)) hy zi_eq (fun s hs' => by omega)
  exact ⟨_, e, ⟨by rw [zi_k (by decide)]; exact hN.1, fun r hr => by rw [zi_2, zi_ne (by decide), zi_ne (by decide)]; exact hN.2 r hr⟩, zi_eq, Fr_tr F0 (Fr_tr hF (Fr_zi (by decide)))⟩
/-- a row of ints that holds a list, how long it is in a field -/
def LH (M : ZM) (c f r : Nat) (l : List Int32) : Prop := M.1 c f = nI l.length ∧ ∀ k, k < l.length → M.1 r k = wa l k
theorem LH_Fr {M N : ZM} {c f r : Nat} {l : List Int32} {cs : List Nat} (h : LH M c f r l) (hf : Fr cs M N) (h1 : c ∉ cs) (h2 : r ∉ cs) : LH N c f r l :=
  ⟨by rw [Fr_1 hf h1]; exact h.1, fun k hk => by rw [Fr_1 hf h2]; exact h.2 k hk⟩
def oko (od : List Int32) : Prop := od.length ≤ 6 ∧ od.Nodup ∧ ∀ x, x ∈ od → ∃ k, k < 6 ∧ x = nI k
abbrev zI : Type := Option (List Int32 × List Int32 × List Int32 × List Int32)
def oka (a1 a2 : List Int32) : Prop := a1.length ≤ 8 ∧ a2.length = a1.length ∧ ∀ x, x ∈ a1 → ∃ c, c < 32 ∧ x = nI c
def PS (ws tp od a1 a2 : List Int32) (im : zI) : Prop := okw ws ∧ tp.length ≤ 21 ∧ oko od ∧ oka a1 a2 ∧ ∀ q, im = some q → okw q.1 ∧ oko q.2.1 ∧ oka q.2.2.1 q.2.2.2
def CI (ws tp od a1 a2 : List Int32) (im : zI) (rf : Nat → Int32) (M : ZM) : Prop := WH M 1 tp ∧ WH M 3 ws ∧ LH M 29 1 30 od ∧ LH M 38 2 39 a1 ∧ LH M 38 2 40 a2 ∧ (∀ k, k < 7 → M.1 49 k = rf k) ∧ M.1 41 3 = (if im.isSome = true then 1 else 0) ∧ (∀ q, im = some q → WH M 42 q.1 ∧ LH M 44 1 45 q.2.1 ∧ LH M 46 2 47 q.2.2.1 ∧ LH M 46 2 48 q.2.2.2) ∧ Wd M ∧ Wy ws M ∧ (M.1 19 5 = 0 ∨ (M.1 19 5 = 1 ∧ Ny ws 0 ws.length ≤ 200 ∧ LM ws M))
def sc1 : List Nat := [5, 6, 10, 11, 12, 13, 14, 15, 16, 17, 18, 20, 21, 22, 23, 27, 28, 31, 32, 33, 34, 35, 36, 37]
def c50 : List Nat := List.range 50
def r50 : List Nat := [50, 51, 52, 53, 54, 55, 56, 57, 58, 59, 60, 61, 62, 63, 64, 65, 66, 67, 68, 69, 70, 71, 72, 73]
theorem LM_Fr {ws : List Int32} {M N : ZM} {cs : List Nat} (h : LM ws M) (hf : Fr cs M N) (h1 : 19 ∉ cs) (h2 : 24 ∉ cs) (h3 : 25 ∉ cs) (h4 : 26 ∉ cs) : LM ws N :=
  ⟨by rw [Fr_1 hf h1]; exact h.1, fun r hr => by rw [Fr_2 hf h2, Fr_1 hf h3, Fr_1 hf h4]; exact h.2 r hr⟩
theorem CI_Fr {ws tp od a1 a2 : List Int32} {im : zI} {rf : Nat → Int32} {M N : ZM} (h : CI ws tp od a1 a2 im rf M) (hf : Fr sc1 M N) : CI ws tp od a1 a2 im rf N := by
  obtain ⟨h1, h2, h3, h4, h5, h6, h7, h8, h9, hA, hB⟩ := h
  refine ⟨WH_Fr h1 hf (by decide) (by decide +kernel), WH_Fr h2 hf (by decide) (by decide +kernel), LH_Fr h3 hf (by decide) (by decide), LH_Fr h4 hf (by decide) (by decide), LH_Fr h5 hf (by decide) (by decide), fun k hk => by rw [Fr_1 hf (by decide)]; exact h6 k hk, by rw [Fr_1 hf (by decide)]; exact h7, fun q hq => ?_, fun i hi => by rw [Fr_2 hf (by decide)]; exact h9 i hi, fun i j hi hj' => ⟨by rw [Fr_2 hf (by decide)]; exact (hA i j hi hj').1, by rw [Fr_2 hf (by decide)]; exact (hA i j hi hj').2⟩, ?_⟩
  · have := h8 q hq
    exact ⟨WH_Fr this.1 hf (by decide) (by decide +kernel), LH_Fr this.2.1 hf (by decide) (by decide), LH_Fr this.2.2.1 hf (by decide) (by decide), LH_Fr this.2.2.2 hf (by decide) (by decide)⟩
  · rcases hB with hB | hB
    · left; rw [Fr_1 hf (by decide)]; exact hB
    · right
      exact ⟨by rw [Fr_1 hf (by decide)]; exact hB.1, hB.2.1, LM_Fr hB.2.2 hf (by decide) (by decide) (by decide) (by decide)⟩
theorem CI_ws {ws tp od a1 a2 : List Int32} {im : zI} {rf : Nat → Int32} {M : ZM} (h : CI ws tp od a1 a2 im rf M) : WH M 3 ws := h.2.1
theorem readings_ok {ws tp od a1 a2 : List Int32} {im : zI} {rf : Nat → Int32} {M : ZM} (hp : PS ws tp od a1 a2 im) (h : CI ws tp od a1 a2 im rf M) : f_X11_readings 0 M = lN (Ny ws 0 ws.length) := by
  have hl := hp.1.1
  have h0 := okw_len hp.1
  unfold f_X11_readings
  simp only [zletE]
  rw [show zr 0 1 = 3 by decide +kernel, show zr 0 3 = 7 by decide +kernel, show f_X10_size 3 M = nI ws.length from h.2.1.1, ← nI0, num_ok (by omega)]
  exact (h.2.2.2.2.2.2.2.2.2.1 0 ws.length h0 (Nat.le_refl _)).1
/-- listed, or spent -/
theorem spent_ok {ws tp od a1 a2 : List Int32} {im : zI} {rf : Nat → Int32} {M : ZM} (hp : PS ws tp od a1 a2 im) (h : CI ws tp od a1 a2 im rf M) : (¬ Ny ws 0 ws.length ≤ 200 ∧ f_X11_spent 0 M = some (1, M)) ∨ (Ny ws 0 ws.length ≤ 200 ∧ ∃ N, f_X11_spent 0 M = some (0, N) ∧ CI ws tp od a1 a2 im rf N ∧ LM ws N ∧ Fr c50 M N) := by
  have hl := hp.1.1
  have hN := Ny_lt (ws := ws) (i := 0) (j := ws.length) (by omega)
  unfold f_X11_spent
  simp only [zletE]
  rw [readings_ok hp h]
  by_cases q : Ny ws 0 ws.length ≤ 200
  · right
    refine ⟨q, ?_⟩
    rw [if_pos (by rw [show (200 : Int64) = lN 200 by decide +kernel, lc_le (by omega) (by omega)]; exact q), show zr 0 5 = 19 by decide +kernel, show zr 0 1 = 3 by decide +kernel, show zr 0 3 = 7 by decide +kernel, show zr 0 4 = 10 by decide +kernel, lN_i]
    obtain ⟨h1, h2, h3, h4, h5, h6, h7, h8, h9, hA, hB⟩ := id h
    unfold f_X2_isMade
    rcases hB with hB | hB
    · rw [hB, zckT (by decide), bindE, if_pos rfl]
      obtain ⟨N, e, hL, h19, hF⟩ := make_ok hl q h2 hA
      rw [e, bindE]
      refine ⟨N, rfl, ?_, hL, Fr_sub hF (by decide)⟩
      refine ⟨WH_Fr h1 hF (by decide) (by decide +kernel), WH_Fr h2 hF (by decide) (by decide +kernel), LH_Fr h3 hF (by decide) (by decide), LH_Fr h4 hF (by decide) (by decide), LH_Fr h5 hF (by decide) (by decide), fun k hk => by rw [Fr_1 hF (by decide)]; exact h6 k hk, by rw [Fr_1 hF (by decide)]; exact h7, fun q hq => ?_, fun i hi => by rw [Fr_2 hF (by decide)]; exact h9 i hi, fun i j hi hj' => ⟨by rw [Fr_2 hF (by decide)]; exact (hA i j hi hj').1, by rw [Fr_2 hF (by decide)]; exact (hA i j hi hj').2⟩, Or.inr ⟨h19, q, hL⟩⟩
      have := h8 q hq
      exact ⟨WH_Fr this.1 hF (by decide) (by decide +kernel), LH_Fr this.2.1 hF (by decide) (by decide), LH_Fr this.2.2.1 hF (by decide) (by decide), LH_Fr this.2.2.2 hF (by decide) (by decide)⟩
    · rw [hB.1, zckT (by decide), bindE, if_neg (by decide)]
      exact ⟨M, rfl, h, hB.2.2, Fr_rf _ _⟩
  · left
    refine ⟨q, ?_⟩
    rw [if_neg (by rw [show (200 : Int64) = lN 200 by decide +kernel, lc_le (by omega) (by omega)]; exact q)]
/-- how many refusals -/
def rfb (rf : Nat → Int32) (k : Nat) : Nat → Int32 := fun j => if j = k then rf j + 1 else rf j
theorem refuse_ok {ws tp od a1 a2 : List Int32} {im : zI} {rf : Nat → Int32} {M : ZM} (h : CI ws tp od a1 a2 im rf M) {v : Int32} {k : Nat} (hv : -v = nI k) (hk : k < 7) : ∃ N, f_X11_refuse 0 v M = (v, N) ∧ CI ws tp od a1 a2 im (rfb rf k) N ∧ Fr c50 M N := by
  unfold f_X11_refuse
  simp only [zletE]
  rw [hv, show zr 0 13 = 49 by decide +kernel, look_nI (by rw [show zn 49 = 7 by decide +kernel]; exact hk) (by omega), put_nI (by rw [show zn 49 = 7 by decide +kernel]; exact hk) (by omega)]
  have hF : Fr [49] M (zi M 49 k (M.1 49 k + 1)) := Fr_zi (by decide)
  refine ⟨_, rfl, ?_, Fr_sub hF (by decide)⟩
  obtain ⟨h1, h2, h3, h4, h5, h6, h7, h8, h9, hA, hB⟩ := h
  refine ⟨WH_Fr h1 hF (by decide) (by decide +kernel), WH_Fr h2 hF (by decide) (by decide +kernel), LH_Fr h3 hF (by decide) (by decide), LH_Fr h4 hF (by decide) (by decide), LH_Fr h5 hF (by decide) (by decide), ?_, by rw [Fr_1 hF (by decide)]; exact h7, fun q hq => ?_, h9, hA, ?_⟩
  · intro j hj'
    unfold rfb
    by_cases q : j = k
    · subst q; rw [zi_eq, if_pos rfl, h6 j hj']
    · rw [zi_k q, if_neg q, h6 j hj']
  · have := h8 q hq
    exact ⟨WH_Fr this.1 hF (by decide) (by decide +kernel), LH_Fr this.2.1 hF (by decide) (by decide), LH_Fr this.2.2.1 hF (by decide) (by decide), LH_Fr this.2.2.2 hF (by decide) (by decide)⟩
  · rcases hB with hB | hB
    · left; rw [Fr_1 hF (by decide)]; exact hB
    · right
      exact ⟨by rw [Fr_1 hF (by decide)]; exact hB.1, hB.2.1, LM_Fr hB.2.2 hF (by decide) (by decide) (by decide) (by decide)⟩
