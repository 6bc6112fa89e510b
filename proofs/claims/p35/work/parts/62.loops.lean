section SL
variable {ws tp od a1 a2 : List Int32} {im : zI} {M N : ZM}
theorem SS_50 (h : SS ws tp od a1 a2 im M) (hF : Fr [50] M N) : SS ws tp od a1 a2 im N := by
  obtain ⟨hp, rf, hc⟩ := h
  exact ⟨hp, rf, CI_r hc (Fr_sub hF (by decide))⟩
theorem sen299 {U : List Int32} (hl : U.length ≤ 13) (hby : ∀ k, k < U.length → ∃ m, m < 128 ∧ wa U k = nI m) (K : ZM → Option (Int32 × ZM)) : ∀ c i fuel M, i + c = U.length → c < fuel → SS ws (U.take i) od a1 a2 im M → (∀ k, k < U.length → M.1 50 k = wa U k) → ∃ N, f_L_sentence_299 0 50 (nI U.length) K fuel (nI i) M = K N ∧ SS ws U od a1 a2 im N := by
  intro c
  induction c with
  | zero =>
    intro i fuel M hi hf hS hr
    obtain ⟨fuel, rfl⟩ : ∃ m, fuel = m + 1 := ⟨fuel - 1, by omega⟩
    rw [f_L_sentence_299, if_pos (by rw [nI_le' (by omega) (by omega)]; omega)]
    rw [List.take_of_length_le (by omega)] at hS
    exact ⟨M, rfl, hS⟩
  | succ c ih =>
    intro i fuel M hi hf hS hr
    obtain ⟨fuel, rfl⟩ : ∃ m, fuel = m + 1 := ⟨fuel - 1, by omega⟩
    obtain ⟨m, hm, em⟩ := hby i (by omega)
    rw [f_L_sentence_299, if_neg (by rw [nI_le' (by omega) (by omega)]; omega), zckT (zin_t (by rw [show zn 50 = 64 by decide +kernel]; omega) (by omega)), nI_tn (by omega), hr i (by omega), em]
    obtain ⟨a, N, e, s, F⟩ := s_say hS hm (by rw [List.length_take]; omega)
    rw [← em, wa_take (by omega)] at s
    rw [e, bindE]
    simp only [zletE]
    rw [nI_s]
    exact ih (i + 1) fuel N (by omega) (by omega) s (fun k hk => by rw [Fr_1 F (by decide)]; exact hr k hk)
theorem sentence_ok {L : Nat} (hL : L ≤ 260) (xs : Nat → Int32) (h : SS ws [] od a1 a2 im M) : ∃ (U : List Int32) (N : ZM), f_L_sentence 0 50 L xs 0 M = some (nI U.length, N) ∧ SS U [] od a1 a2 im N ∧ U.length ≤ 13 := by
  unfold f_L_sentence
  obtain ⟨q1, e1⟩ := cell_ok hL xs M (show 0 < 1000 by omega)
  rw [nI0] at e1
  obtain ⟨x, hx, ex⟩ := and_nI q1 (k := 7) (by omega)
  obtain ⟨y, hy, ey⟩ := and_nI (q1 >>> ((3 : Int32) &&& 31)) (k := 3) (by omega)
  have em : (1 : Int32) + (q1 &&& 7) + ((q1 >>> ((3 : Int32) &&& 31)) &&& 3) = nI (1 + x + y) := by
    show (1 : Int32) + (q1 &&& nI 7) + ((q1 >>> ((3 : Int32) &&& 31)) &&& nI 3) = _
    rw [ex, ey, show (1 : Int32) = nI 1 from rfl, nJ_add, nJ_add]
  rw [e1, bindE, bindE, zletE, em]
  have g := s31 hL xs (most := 1 + x + y) (by omega) (by omega) (fun (v5 : Int32) (M : ZM) =>
    f_L_sentence_299 0 50 v5 (fun (M : ZM) =>
      (f_X11_read 0 M).bind fun (q37 : (Int32 × ZM)) =>
      if q37.1 = v5 then (
        some (v5, q37.2)) else (
        some (((-1) : Int32), q37.2))) zN 0 M) 14 zN [] false 0 M rfl (by unfold zN; omega) (by rw [if_neg (by decide)]; show 0 + 0 + 1 ≤ _; omega) (by omega) pf_0 (fun k hk => absurd hk (Nat.not_lt_zero _)) (fun k hk => absurd hk (Nat.not_lt_zero _))
  rw [show ([] : List Int32).length = 0 from rfl, nI0, bF] at g
  obtain ⟨U, N1, e2, hw, hl, hby, hr, F1⟩ := g
  rw [e2]
  obtain ⟨N2, e3, s3⟩ := sen299 hl hby (fun (M : ZM) =>
      (f_X11_read 0 M).bind fun (q37 : (Int32 × ZM)) =>
      if q37.1 = nI U.length then (
        some (nI U.length, q37.2)) else (
        some (((-1) : Int32), q37.2))) U.length 0 zN N1 (by omega) (by unfold zN; omega) (SS_50 h F1) hr
  rw [nI0] at e3
  obtain ⟨N3, e4, s4⟩ := s_read s3 hw
  refine ⟨U, N3, e3.trans ?_, s4, hl⟩
  rw [e4, bindE, if_pos rfl]
/-! the law's look at a phrase -/
theorem kd_in {c : Int32} (h1 : ¬ c < 97) (h2 : ¬ 101 < c) : kd c = 0 := by
  rw [kd0]
  rw [Int32.lt_iff_toInt_lt] at h1 h2
  have e1 : (97 : Int32).toInt = 97 := rfl
  have e2 : (101 : Int32).toInt = 101 := rfl
  have t : ∀ k : Int32, c.toInt = k.toInt → c = k := fun k h => Int32.toInt_inj.mp h
  rcases (show c.toInt = 97 ∨ c.toInt = 98 ∨ c.toInt = 99 ∨ c.toInt = 100 ∨ c.toInt = 101 by omega) with h | h | h | h | h
  · exact Or.inl (t 97 h)
  · exact Or.inr (Or.inl (t 98 h))
  · exact Or.inr (Or.inr (Or.inl (t 99 h)))
  · exact Or.inr (Or.inr (Or.inr (Or.inl (t 100 h))))
  · exact Or.inr (Or.inr (Or.inr (Or.inr (t 101 h))))
theorem kd_out {c : Int32} (h : c < 97 ∨ 101 < c) : ¬ kd c = 0 := by
  intro z
  rcases kd0.mp z with q | q | q | q | q <;> subst q <;> rcases h with h | h <;> exact absurd h (by decide)
/-- what the law holds of the words so far: not a phrase, or read as one -/
def PI (ws : List Int32) (a b i : Nat) (v13 v14 v15 : Int32) : Prop := v15 = 0 ∨ (v15 = 1 ∧ ∃ (o : Nat) (d : Bool), v13 = nI o ∧ v14 = (if d = true then 0 else 1) ∧ o ≤ i ∧ i ≤ b + 1 ∧ fp (wa ws) (b + 1 - a) true 0 a = fp (wa ws) (b + 1 - i) d o i)
def GP (ws : List Int32) (a b : Nat) (K : Int32 → Int32 → Int32 → ZM → Option Int32) (M : ZM) (x : Option Int32) : Prop := ∃ v13 v14 v15, x = K v13 v14 v15 M ∧ PI ws a b (b + 1) v13 v14 v15
theorem ph267 {L : Nat} {xs : Nat → Int32} {v4 v10 v11 : Int32} {v6 v8 : Int64} (h : SS ws tp od a1 a2 im M) {a b : Nat} (hb : b < ws.length) (K : Int32 → Int32 → Int32 → ZM → Option Int32) : ∀ c i fuel v13 v14 v15, c = b + 1 - i → i ≤ 21 → c < fuel → PI ws a b i v13 v14 v15 → GP ws a b K M (f_L_law_267 L xs 0 v4 v6 v8 v10 v11 (nI b) K fuel v13 v14 v15 (nI i) M) := by
  have hl := h.1.1.1
  intro c
  induction c with
  | zero =>
    intro i fuel v13 v14 v15 hc hi hf hP
    obtain ⟨fuel, rfl⟩ : ∃ m, fuel = m + 1 := ⟨fuel - 1, by omega⟩
    rw [f_L_law_267]
    simp only [zletE]
    rw [if_pos (by rw [nJ_lt (by omega) (by omega)]; omega)]
    refine ⟨v13, v14, v15, rfl, ?_⟩
    rcases hP with h0 | ⟨h1, o, d, h2, h3, h4, h5, h6⟩
    · exact Or.inl h0
    · have : i = b + 1 := by omega
      rw [← this]
      exact Or.inr ⟨h1, o, d, h2, h3, h4, by omega, h6⟩
  | succ c ih =>
    intro i fuel v13 v14 v15 hc hi hf hP
    obtain ⟨fuel, rfl⟩ : ∃ m, fuel = m + 1 := ⟨fuel - 1, by omega⟩
    have hib : i ≤ b := by omega
    rw [f_L_law_267]
    refine zl_in (P := GP ws a b K M) (fun J402 h402 => ?_)
    refine zl_in (P := GP ws a b K M) (fun J397 h397 => ?_)
    refine zl_in (P := GP ws a b K M) (fun J382 h382 => ?_)
    refine zl_in (P := GP ws a b K M) (fun J377 h377 => ?_)
    refine zl_in (P := GP ws a b K M) (fun J350 h350 => ?_)
    refine zl_in (P := GP ws a b K M) (fun J322 h322 => ?_)
    refine zl_in (P := GP ws a b K M) (fun J301 h301 => ?_)
    refine zl_in (P := GP ws a b K M) (fun J300 h300 => ?_)
    have hwd := s_word h i (by omega)
    rw [if_pos (by omega)] at hwd
    rw [if_neg (by rw [nJ_lt (by omega) (by omega)]; omega)]
    refine zl_in (P := GP ws a b K M) (fun ch hch => ?_)
    rw [hwd] at hch
    have t402 : ∀ v s0 f, (PI ws a b (i + 1) (v + (if ch = 40 then 1 else if ch = 41 then -1 else 0)) s0 f) → GP ws a b K M (J402 v f (nI i) ch s0 M) := by
      intro v s0 f hp
      rw [h402]
      show GP ws a b K M (if ch = 40 then (zlet (v + 1) fun (x20 : Int32) => zlet (nI i + 1) fun (x21 : Int32) => f_L_law_267 L xs 0 v4 v6 v8 v10 v11 (nI b) K fuel x20 s0 f x21 M) else (if ch = 41 then (zlet (v + (-1)) fun (x18 : Int32) => zlet (nI i + 1) fun (x19 : Int32) => f_L_law_267 L xs 0 v4 v6 v8 v10 v11 (nI b) K fuel x18 s0 f x19 M) else (zlet (v + 0) fun (x16 : Int32) => zlet (nI i + 1) fun (x17 : Int32) => f_L_law_267 L xs 0 v4 v6 v8 v10 v11 (nI b) K fuel x16 s0 f x17 M)))
      simp only [zletE]
      rw [nI_s]
      by_cases q : ch = 40
      · rw [if_pos q] at hp
        rw [if_pos q]; exact ih (i + 1) fuel _ _ _ (by omega) (by omega) (by omega) hp
      · rw [if_neg q] at hp
        rw [if_neg q]
        by_cases q2 : ch = 41
        · rw [if_pos q2] at hp
          rw [if_pos q2]; exact ih (i + 1) fuel _ _ _ (by omega) (by omega) (by omega) hp
        · rw [if_neg q2] at hp
          rw [if_neg q2]; exact ih (i + 1) fuel _ _ _ (by omega) (by omega) (by omega) hp
    have e397 : ∀ v f, J397 v f (nI i) ch M = J402 v f (nI i) ch 1 M := fun v f => by rw [h397]
    -- whole from now on, or not
    have t382 : ∀ v (lt : Int32) f s1, (PI ws a b (i + 1) (v + (if ch = 40 then 1 else if ch = 41 then -1 else 0)) (if lt = 0 then (if ch = 41 then 1 else 0) else 1) (f &&& s1)) → GP ws a b K M (J382 v (nI i) ch lt f s1 M) := by
      intro v lt f s1 hp
      rw [h382]
      show GP ws a b K M (zlet (f &&& s1) fun (x22 : Int32) => if lt = 0 then (if ch = 41 then J397 v x22 (nI i) ch M else J402 v x22 (nI i) ch 0 M) else J397 v x22 (nI i) ch M)
      rw [zletE]
      by_cases q : lt = 0
      · rw [if_pos q] at hp
        rw [if_pos q]
        by_cases q2 : ch = 41
        · rw [show (if ch = 41 then (1 : Int32) else 0) = 1 from if_pos q2] at hp
          rw [if_pos q2, e397]; exact t402 _ _ _ hp
        · rw [show (if ch = 41 then (1 : Int32) else 0) = 0 from if_neg q2] at hp
          rw [if_neg q2]; exact t402 _ _ _ hp
      · rw [if_neg q] at hp
        rw [if_neg q, e397]; exact t402 _ _ _ hp
    have e377 : ∀ v lt f, J377 v (nI i) ch lt f M = J382 v (nI i) ch lt f 1 M := fun v lt f => by rw [h377]
    have e350 : ∀ v lt f, J350 v (nI i) ch lt f M = J382 v (nI i) ch lt f 1 M := fun v lt f => by rw [h350]
    have e322 : ∀ v lt f, J322 v (nI i) ch lt f M = (if ch = 38 then J350 v (nI i) ch lt f M else if ch = 124 then J350 v (nI i) ch lt f M else if ch = 62 then J350 v (nI i) ch lt f M else if ch = 45 then J350 v (nI i) ch lt f M else J382 v (nI i) ch lt f 0 M) := fun v lt f => by rw [h322]
    have e301 : ∀ v w f lt, J301 v w f (nI i) ch lt M = (if w = 0 then (if lt = 0 then (if ch = 33 then J377 v (nI i) ch lt f M else if ch = 40 then J377 v (nI i) ch lt f M else J382 v (nI i) ch lt f 0 M) else J377 v (nI i) ch lt f M) else (if ch = 41 then (if 0 < v then J350 v (nI i) ch lt f M else J322 v (nI i) ch lt f M) else J322 v (nI i) ch lt f M)) := fun v w f lt => by rw [h301]
    have e300 : ∀ v w f, J300 v w f (nI i) ch M = J301 v w f (nI i) ch 0 M := fun v w f => by rw [h300]
    have z0 : ∀ v w f, PI ws a b (i + 1) v w (f &&& 0) := fun v w f => Or.inl (by rw [Int32.and_zero])
    have z1 : ∀ v w s, PI ws a b (i + 1) v w (0 &&& s) := fun v w s => Or.inl (by rw [Int32.zero_and])
    have t301 : ∀ lt : Int32, ((lt = 0 ∧ ¬ kd ch = 0) ∨ (lt = 1 ∧ kd ch = 0)) → GP ws a b K M (J301 v13 v14 v15 (nI i) ch lt M) := by
      intro lt hlt
      rw [e301]
      rcases hP with h0 | ⟨h1, o, d, h2, h3, h4, h5, h6⟩
      · -- no phrase any more
        have n1 : ∀ s, GP ws a b K M (J382 v13 (nI i) ch lt v15 s M) := fun s => t382 _ _ _ _ (by rw [h0]; exact z1 _ _ _)
        have n2 : GP ws a b K M (J322 v13 (nI i) ch lt v15 M) := by
          rw [e322]
          refine if_in (P := GP ws a b K M) (fun _ => by rw [e350]; exact n1 1) (fun _ => ?_)
          refine if_in (P := GP ws a b K M) (fun _ => by rw [e350]; exact n1 1) (fun _ => ?_)
          refine if_in (P := GP ws a b K M) (fun _ => by rw [e350]; exact n1 1) (fun _ => ?_)
          exact if_in (P := GP ws a b K M) (fun _ => by rw [e350]; exact n1 1) (fun _ => n1 0)
        refine if_in (P := GP ws a b K M) (fun _ => ?_) (fun _ => ?_)
        · refine if_in (P := GP ws a b K M) (fun _ => ?_) (fun _ => by rw [e377]; exact n1 1)
          refine if_in (P := GP ws a b K M) (fun _ => by rw [e377]; exact n1 1) (fun _ => ?_)
          exact if_in (P := GP ws a b K M) (fun _ => by rw [e377]; exact n1 1) (fun _ => n1 0)
        · refine if_in (P := GP ws a b K M) (fun _ => ?_) (fun _ => n2)
          exact if_in (P := GP ws a b K M) (fun _ => by rw [e350]; exact n1 1) (fun _ => n2)
      · -- a phrase so far
        have one : v15 &&& 1 = 1 := by rw [h1]; decide
        have hfp : b + 1 - i = (b + 1 - (i + 1)) + 1 := by omega
        have no : GP ws a b K M (J382 v13 (nI i) ch lt v15 0 M) := t382 _ _ _ _ (z0 _ _ _)
        cases d with
        | true =>
          rw [if_pos rfl] at h3
          rw [h3, if_pos rfl]
          rw [hfp, fp, ← hch] at h6
          rcases hlt with ⟨l0, l1⟩ | ⟨l0, l1⟩
          · rw [if_pos l0]
            refine if_in (P := GP ws a b K M) (fun q => ?_) (fun q => ?_)
            · rw [e377]
              refine t382 _ _ _ _ (Or.inr ⟨one, o, true, ?_, ?_, by omega, by omega, ?_⟩)
              · rw [h2, q, if_neg (by decide), if_neg (by decide), Int32.add_zero]
              · rw [if_pos l0, if_neg (by rw [q]; decide), if_pos rfl]
              · rw [h6, if_neg (by rw [q]; decide), if_neg l1, if_pos q]
            · refine if_in (P := GP ws a b K M) (fun q2 => ?_) (fun _ => no)
              rw [e377]
              refine t382 _ _ _ _ (Or.inr ⟨one, o + 1, true, ?_, ?_, by omega, by omega, ?_⟩)
              · rw [h2, if_pos q2, nI_s]
              · rw [if_pos l0, if_neg (by rw [q2]; decide), if_pos rfl]
              · rw [h6, if_pos q2]
          · rw [if_neg (by rw [l0]; decide), e377]
            have ne := kd0_ne l1
            refine t382 _ _ _ _ (Or.inr ⟨one, o, false, ?_, ?_, by omega, by omega, ?_⟩)
            · rw [h2, if_neg ne.1, if_neg ne.2.1, Int32.add_zero]
            · rw [if_neg (by rw [l0]; decide), if_neg (by decide)]
            · rw [h6, if_neg ne.1, if_pos l1]
        | false =>
          rw [if_neg (by decide)] at h3
          rw [h3, if_neg (by decide)]
          rw [hfp, fp, ← hch] at h6
          have jnn : jn ch = true → GP ws a b K M (J382 v13 (nI i) ch lt v15 1 M) := by
            intro hj
            have ne := jn_ne hj
            have l0 : lt = 0 := by
              rcases hlt with l | l
              · exact l.1
              · exact absurd l.2 ne.2.2.2.1
            refine t382 _ _ _ _ (Or.inr ⟨one, o, true, ?_, ?_, by omega, by omega, ?_⟩)
            · rw [h2, if_neg ne.1, if_neg ne.2.1, Int32.add_zero]
            · rw [if_pos l0, if_neg ne.2.1, if_pos rfl]
            · rw [h6, if_neg ne.2.1, if_pos hj]
          have n2 : GP ws a b K M (J322 v13 (nI i) ch lt v15 M) := by
            rw [e322]
            refine if_in (P := GP ws a b K M) (fun q => by rw [e350]; exact jnn (by rw [q]; decide)) (fun _ => ?_)
            refine if_in (P := GP ws a b K M) (fun q => by rw [e350]; exact jnn (by rw [q]; decide)) (fun _ => ?_)
            refine if_in (P := GP ws a b K M) (fun q => by rw [e350]; exact jnn (by rw [q]; decide)) (fun _ => ?_)
            exact if_in (P := GP ws a b K M) (fun q => by rw [e350]; exact jnn (by rw [q]; decide)) (fun _ => no)
          refine if_in (P := GP ws a b K M) (fun q => ?_) (fun _ => n2)
          refine if_in (P := GP ws a b K M) (fun q2 => ?_) (fun _ => n2)
          rw [h2, ← nI0, nJ_lt (by omega) (by omega)] at q2
          rw [e350]
          have l0 : lt = 0 := by
            rcases hlt with l | l
            · exact l.1
            · exact absurd q (kd0_ne l.2).2.1
          refine t382 _ _ _ _ (Or.inr ⟨one, o - 1, false, ?_, ?_, by omega, by omega, ?_⟩)
          · rw [h2, if_neg (by rw [q]; decide), if_pos q, nI_m1 q2]
          · rw [if_pos l0, if_pos q, if_neg (by decide)]
          · rw [h6, if_pos q, if_pos q2]
    refine if_in (P := GP ws a b K M) (fun q => by rw [e300]; exact t301 0 (Or.inl ⟨rfl, kd_out (Or.inl q)⟩)) (fun q => ?_)
    exact if_in (P := GP ws a b K M) (fun q2 => by rw [e300]; exact t301 0 (Or.inl ⟨rfl, kd_out (Or.inr q2)⟩)) (fun q2 => t301 1 (Or.inr ⟨rfl, kd_in q q2⟩))
/-- at the end of it a phrase is one -/
theorem PI_end {a b : Nat} {v13 v14 v15 : Int32} (h : PI ws a b (b + 1) v13 v14 v15) (h1 : ¬ v14 = 0) (h2 : v13 = 0) (h3 : ¬ v15 = 0) (hb : b ≤ 21) : ∃ t, sp ws a t ∧ ln t = b + 1 - a := by
  rcases h with h | ⟨_, o, d, e1, e2, e3, e4, e5⟩
  · exact absurd h h3
  · cases d with
    | true => exact absurd (by rw [e2]; rfl) h1
    | false =>
      have o0 : o = 0 := by
        rw [e1, ← nI0, nI_inj (by omega) (by omega)] at h2
        exact h2
      rw [Nat.sub_self, o0] at e5
      exact fp_ok e5
/-- what is left over comes in order -/
theorem left832 {L : Nat} {xs : Nat → Int32} {v4 v10 : Int32} (hm : Ny ws 0 ws.length ≤ 200) (K : ZM → Option Int32) : ∀ c i fuel M, i + c = (lo ws od).length → c < fuel → SS ws tp od a1 a2 im M → ∃ N, f_L_law_832 L xs 0 v4 (nI (lo ws od).length) v10 K fuel (nI i) M = K N ∧ SS ws tp od a1 a2 im N := by
  have hle := lo_le (ws := ws) (od := od)
  have wl : ∀ j, j < (lo ws od).length → wn (lo ws od) j < 200 := fun j hj => by
    have : wn (lo ws od) j < Ny ws 0 ws.length := (sL_mem.mp (wn_mem hj)).1
    omega
  intro c
  induction c with
  | zero =>
    intro i fuel M hi hf hS
    obtain ⟨fuel, rfl⟩ : ∃ m, fuel = m + 1 := ⟨fuel - 1, by omega⟩
    rw [f_L_law_832, if_pos (by rw [nI_le' (by omega) (by omega)]; omega)]
    exact ⟨M, rfl, hS⟩
  | succ c ih =>
    intro i fuel M hi hf hS
    obtain ⟨fuel, rfl⟩ : ∃ m, fuel = m + 1 := ⟨fuel - 1, by omega⟩
    rw [f_L_law_832, if_neg (by rw [nI_le' (by omega) (by omega)]; omega)]
    obtain ⟨N1, e1, s1⟩ := s_leftAt hS hm (show i < (lo ws od).length by omega)
    have w1 := wl i (by omega)
    rw [e1, bindE, if_neg (nI_nn (by omega))]
    simp only [zletE]
    rw [nI_s]
    by_cases q : i = 0
    · rw [if_pos (by rw [q]; exact Int32.le_of_eq nI0)]
      exact ih (i + 1) fuel N1 (by omega) (by omega) s1
    · rw [if_neg (by rw [← nI0, nI_le' (by omega) (by omega)]; omega)]
      obtain ⟨N2, e2, s2⟩ := s_leftAt s1 hm (show i < (lo ws od).length by omega)
      obtain ⟨N3, e3, s3⟩ := s_leftAt s2 hm (show i - 1 < (lo ws od).length by omega)
      have w2 := wl (i - 1) (by omega)
      have inc : wn (lo ws od) (i - 1) < wn (lo ws od) i := sL_inc (by omega) (by show i < (lo ws od).length; omega)
      rw [e2, bindE, nI_p (by omega), e3, bindE, if_pos (by rw [nJ_lt (by omega) (by omega)]; exact inc)]
      exact ih (i + 1) fuel N3 (by omega) (by omega) s3
end SL
