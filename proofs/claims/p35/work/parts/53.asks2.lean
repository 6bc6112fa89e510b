section SQ
variable {ws tp od a1 a2 : List Int32} {im : zI} {M N : ZM}
/-! rules chosen: what is left over is some reading, in order -/
theorem svp_ne {m : Nat} (h0 : 0 < m) {sk : Nat → Bool} : ∀ i, sL m (svp ws m od sk i).1 ≠ [] := by
  intro i
  induction i with
  | zero =>
    rw [svp, sL_true]
    intro z
    have := congrArg List.length z
    rw [List.length_range, List.length_nil] at this
    omega
  | succ i ih =>
    rw [svp]
    split
    · exact ih
    · unfold sfp
      split
      · rename_i q
        rw [any_ff, sL_ff] at q
        exact q
      · exact ih
theorem sL_inc {m : Nat} {p : Nat → Bool} {i j : Nat} (hij : i < j) (hj : j < (sL m p).length) : wn (sL m p) i < wn (sL m p) j := by
  have hp : List.Pairwise (· < ·) (sL m p) := by
    unfold sL
    exact List.Pairwise.filter _ List.pairwise_lt_range
  rw [wn_get (by omega), wn_get hj]
  exact List.pairwise_iff_getElem.mp hp i j (by omega) hj hij
theorem s_passed (h : SS ws tp od a1 a2 im M) (hm : Ny ws 0 ws.length ≤ 200) : ∃ a N, f_X11_passedOver 0 M = some (a, N) ∧ SS ws tp od a1 a2 im N ∧ ∃ u, a = nI u ∧ u ≤ od.length := by
  unfold f_X11_passedOver
  refine qS (fun x => x) h (P := fun a => ∃ u, a = nI u ∧ u ≤ od.length) (fun N => by simp only [zletE]; rw [if_neg (by decide)]) (fun q => absurd hm q) (fun N hS hL _ => ?_)
  rw [if_pos rfl]
  have ho := hS.1.2.2.1
  obtain ⟨hp, rf, hc⟩ := id hS
  obtain ⟨N1, e1, s1, F1⟩ := sift_ok SG31 hm ho (-1) hc.2.2.1 hL
  rw [show zr 0 8 = 31 by decide +kernel, show zr 0 5 = 19 by decide +kernel, show zr 0 7 = 29 by decide +kernel, e1, bindE]
  simp only [zletE]
  exact ⟨_, N1, rfl, SS_Fr hS (Fr_sub F1 (sc_s SG31)), _, s1.2.2, svp_2 _⟩
/-- what is left over -/
noncomputable def lo (ws od : List Int32) : List Nat := sL (Ny ws 0 ws.length) (svp ws (Ny ws 0 ws.length) od (fun j => decide (wa od j = -1)) od.length).1
theorem lo_pos (h : 0 < Ny ws 0 ws.length) : 0 < (lo ws od).length := List.length_pos_iff.mpr (svp_ne h _)
theorem lo_le : (lo ws od).length ≤ Ny ws 0 ws.length := sL_len _ _
theorem s_left (h : SS ws tp od a1 a2 im M) (hm : Ny ws 0 ws.length ≤ 200) : ∃ N, f_X11_leftOver 0 (-1) M = some (nI (lo ws od).length, N) ∧ SS ws tp od a1 a2 im N := by
  unfold f_X11_leftOver
  refine exS (qS (fun x => x) h (P := fun a => a = nI (lo ws od).length) (fun N => by simp only [zletE]; rw [if_neg (by decide)]) (fun q => absurd hm q) (fun N hS hL _ => ?_))
  rw [if_pos rfl]
  have ho := hS.1.2.2.1
  obtain ⟨hp, rf, hc⟩ := id hS
  obtain ⟨N1, e1, s1, F1⟩ := sift_ok SG31 hm ho (-1) hc.2.2.1 hL
  simp only [zletE]
  rw [if_pos (by decide), show zr 0 8 = 31 by decide +kernel, show zr 0 5 = 19 by decide +kernel, show zr 0 7 = 29 by decide +kernel, e1, bindE, if_pos trivial]
  exact ⟨_, N1, rfl, SS_Fr hS (Fr_sub F1 (sc_s SG31)), s1.1⟩
theorem s_leftAt (h : SS ws tp od a1 a2 im M) (hm : Ny ws 0 ws.length ≤ 200) {i : Nat} (hi : i < (lo ws od).length) : ∃ N, f_X11_leftOver 0 (nI i) M = some (nI (wn (lo ws od) i), N) ∧ SS ws tp od a1 a2 im N := by
  have hle := lo_le (ws := ws) (od := od)
  unfold f_X11_leftOver
  refine exS (qS (fun x => x) h (P := fun a => a = nI (wn (lo ws od) i)) (fun N => by simp only [zletE]; rw [if_neg (by decide)]) (fun q => absurd hm q) (fun N hS hL _ => ?_))
  rw [if_pos rfl]
  have ho := hS.1.2.2.1
  obtain ⟨hp, rf, hc⟩ := id hS
  obtain ⟨N1, e1, s1, F1⟩ := sift_ok SG31 hm ho (-1) hc.2.2.1 hL
  have m1 : (-1 : Int32) ≤ nI i := by
    rw [Int32.le_iff_toInt_le, nJ_toInt (by omega), show (-1 : Int32).toInt = -1 from rfl]; omega
  simp only [zletE]
  rw [if_pos m1, show zr 0 8 = 31 by decide +kernel, show zr 0 5 = 19 by decide +kernel, show zr 0 7 = 29 by decide +kernel, e1, bindE, if_neg (nI_ne1 (by omega)), show f_X6_size 31 N1 = nI (lo ws od).length from s1.1, if_neg (by rw [nI_le' (by omega) (by omega)]; omega)]
  refine ⟨_, N1, rfl, SS_Fr hS (Fr_sub F1 (sc_s SG31)), ?_⟩
  unfold f_X6_at
  rw [zletE, show zr 31 0 = 32 by decide +kernel, look_nI (by rw [show zn 32 = 200 by decide +kernel]; omega) (by omega), s1.2.1 i hi]
  rfl
/-! the best -/
theorem bestL (hp : PS ws tp od a1 a2 im) {rf : Nat → Int32} (hc : CI ws tp od a1 a2 im rf N) (hL : LM ws N) (hm : Ny ws 0 ws.length ≤ 200) : ∀ k i fuel b, i + k = Ny ws 0 ws.length → k < fuel → b < Ny ws 0 ws.length → (∀ r, r < i → sw a1 a2 (Me ws r) a1.length ≤ sw a1 a2 (Me ws b) a1.length) → ∃ c, c < Ny ws 0 ws.length ∧ f_X11_best_18 0 (fun (v1 : Int32) (M : ZM) => some (v1, M)) fuel (nI b) (nI i) N = some (nI c, N) ∧ ∀ r, r < Ny ws 0 ws.length → sw a1 a2 (Me ws r) a1.length ≤ sw a1 a2 (Me ws c) a1.length := by
  intro k
  induction k with
  | zero =>
    intro i fuel b hi hf hb hx
    obtain ⟨fuel, rfl⟩ : ∃ m, fuel = m + 1 := ⟨fuel - 1, by omega⟩
    rw [f_X11_best_18, zletE, show zr 0 5 = 19 by decide +kernel, show f_X2_size 19 N = nI (Ny ws 0 ws.length) from hL.1, if_pos (by rw [nI_le' (by omega) (by omega)]; omega)]
    exact ⟨b, hb, rfl, fun r hr => hx r (by omega)⟩
  | succ k ih =>
    intro i fuel b hi hf hb hx
    obtain ⟨fuel, rfl⟩ : ∃ m, fuel = m + 1 := ⟨fuel - 1, by omega⟩
    rw [f_X11_best_18, zletE, show zr 0 5 = 19 by decide +kernel, show zr 0 11 = 38 by decide +kernel, show f_X2_size 19 N = nI (Ny ws 0 ws.length) from hL.1, if_neg (by rw [nI_le' (by omega) (by omega)]; omega)]
    simp only [zletE]
    rw [mea_ok hL hm (show i < Ny ws 0 ws.length by omega), mea_ok hL hm hb, servA_ok hp hc, bindE, servA_ok hp hc, bindE, nI_s]
    by_cases q : sw a1 a2 (Me ws i) a1.length ≤ sw a1 a2 (Me ws b) a1.length
    · rw [if_pos q]
      refine ih (i + 1) fuel b (by omega) (by omega) hb (fun r hr => ?_)
      by_cases z : r = i
      · rw [z]; exact q
      · exact hx r (by omega)
    · rw [if_neg q]
      refine ih (i + 1) fuel i (by omega) (by omega) (by omega) (fun r hr => ?_)
      by_cases z : r = i
      · rw [z]; exact Int32.le_refl _
      · have := hx r (by omega)
        rw [Int32.le_iff_toInt_le] at this q ⊢
        omega
theorem s_best (h : SS ws tp od a1 a2 im M) : ∃ a N, f_X11_best 0 M = some (a, N) ∧ SS ws tp od a1 a2 im N ∧ (Ny ws 0 ws.length ≤ 200 → ∃ c, c < Ny ws 0 ws.length ∧ a = nI c ∧ ∀ r, r < Ny ws 0 ws.length → sw a1 a2 (Me ws r) a1.length ≤ sw a1 a2 (Me ws c) a1.length) := by
  unfold f_X11_best
  refine qS (fun x => x) h (P := fun a => Ny ws 0 ws.length ≤ 200 → ∃ c, c < Ny ws 0 ws.length ∧ a = nI c ∧ ∀ r, r < Ny ws 0 ws.length → sw a1 a2 (Me ws r) a1.length ≤ sw a1 a2 (Me ws c) a1.length) (fun N => by simp only [zletE]; rw [if_neg (by decide)]) (fun q z => absurd z q) (fun N hS hL hm => ?_)
  rw [if_pos rfl]
  have h0 := SS_pos hS
  obtain ⟨hp, rf, hc⟩ := id hS
  obtain ⟨c, c1, c2, c3⟩ := bestL hp hc hL hm (Ny ws 0 ws.length - 1) 1 zN 0 (by omega) (by unfold zN; omega) h0 (fun r hr => by rw [show r = 0 by omega]; exact Int32.le_refl _)
  rw [nI0, show nI 1 = 1 from rfl] at c2
  exact ⟨nI c, N, c2, hS, fun _ => ⟨c, c1, rfl, c3⟩⟩
theorem s_serves (h : SS ws tp od a1 a2 im M) (hm : Ny ws 0 ws.length ≤ 200) {r : Nat} (hr : r < Ny ws 0 ws.length) : ∃ N, f_X11_serves 0 (nI r) M = some (sw a1 a2 (Me ws r) a1.length, N) ∧ SS ws tp od a1 a2 im N := by
  unfold f_X11_serves
  refine exS (qS (fun x => 1000000000 - x) h (P := fun a => a = sw a1 a2 (Me ws r) a1.length) (fun N => by simp only [zletE]; rw [if_neg (by decide)]) (fun q => absurd hm q) (fun N hS hL _ => ?_))
  rw [if_pos rfl]
  simp only [zletE]
  obtain ⟨hp, rf, hc⟩ := id hS
  rw [noR_t hL hm hr, if_pos rfl, show zr 0 5 = 19 by decide +kernel, show zr 0 11 = 38 by decide +kernel, mea_ok hL hm hr, servA_ok hp hc, bindE]
  exact ⟨_, N, rfl, hS, rfl⟩
/-! asked, whatever it answers -/
theorem testL (hL : LM ws N) (hm : Ny ws 0 ws.length ≤ 200) : ∀ k c fuel b d, c + k = 32 → k < fuel → ∃ z, f_X2_evenestCase_11 19 N (fun (v1 : Int32) => some v1) fuel b d (nI c) = some z := by
  intro k
  induction k with
  | zero =>
    intro c fuel b d hi hf
    obtain ⟨fuel, rfl⟩ : ∃ m, fuel = m + 1 := ⟨fuel - 1, by omega⟩
    rw [f_X2_evenestCase_11]
    simp only [zletE]
    rw [if_pos (by rw [show (32 : Int32) = nI 32 from rfl, nI_le' (by omega) (by omega)]; omega)]
    exact ⟨_, rfl⟩
  | succ k ih =>
    intro c fuel b d hi hf
    obtain ⟨fuel, rfl⟩ : ∃ m, fuel = m + 1 := ⟨fuel - 1, by omega⟩
    rw [f_X2_evenestCase_11]
    simp only [zletE]
    rw [if_neg (by rw [show (32 : Int32) = nI 32 from rfl, nI_le' (by omega) (by omega)]; omega), letA_ok hL hm (by omega), bindE, nI_s]
    split
    · exact ih (c + 1) fuel _ _ (by omega) (by omega)
    · exact ih (c + 1) fuel _ _ (by omega) (by omega)
theorem s_test (h : SS ws tp od a1 a2 im M) : ∃ a N, f_X11_test 0 M = some (a, N) ∧ SS ws tp od a1 a2 im N := by
  have q : ∃ a N, f_X11_test 0 M = some (a, N) ∧ SS ws tp od a1 a2 im N ∧ True := by
    unfold f_X11_test
    refine qS (fun x => x) h (P := fun _ => True) (fun N => by simp only [zletE]; rw [if_neg (by decide)]) (fun _ => trivial) (fun N hS hL hm => ?_)
    rw [if_pos rfl]
    unfold f_X2_evenestCase
    simp only [zletE]
    rw [show zr 0 5 = 19 by decide +kernel]
    obtain ⟨z, e⟩ := testL hL hm 32 0 zN 0 (N.1 19 4 + 1) (by omega) (by unfold zN; omega)
    rw [nI0] at e
    rw [e, bindE]
    exact ⟨_, N, rfl, hS, trivial⟩
  obtain ⟨a, N, e, s, _⟩ := q
  exact ⟨a, N, e, s⟩
theorem s_hangs (h : SS ws tp od a1 a2 im M) : ∃ a N, f_X11_hangs 0 M = some (a, N) ∧ SS ws tp od a1 a2 im N := by
  have q : ∃ a N, f_X11_hangs 0 M = some (a, N) ∧ SS ws tp od a1 a2 im N ∧ True := by
    unfold f_X11_hangs
    refine qS (fun x => x) h (P := fun _ => True) (fun N => by simp only [zletE]; rw [if_neg (by decide)]) (fun _ => trivial) (fun N hS hL hm => ?_)
    rw [if_pos rfl]
    have ho := hS.1.2.2.1
    obtain ⟨hp, rf, hc⟩ := id hS
    obtain ⟨N1, e1, s1, F1⟩ := sift_ok SG31 hm ho (-1) hc.2.2.1 hL
    rw [svn_A ho] at s1
    have F1' : Fr sc1 N N1 := Fr_sub F1 (sc_s SG31)
    have c1 := CI_Fr hc F1'
    obtain ⟨w, N2, e2, hw, F2⟩ := hA34 ho hm 6 0 zN 0 N1 (by omega) (by unfold zN; omega) c1.2.2.1 (LM_Fr hL F1 (by decide) (by decide) (by decide) (by decide)) s1 (fun y _ => ⟨fun z => by rw [lc_0] at z; exact absurd z (by decide), fun z => by omega⟩)
    rw [nI0] at e2
    rw [show zr 0 8 = 31 by decide +kernel, show zr 0 5 = 19 by decide +kernel, show zr 0 7 = 29 by decide +kernel, e1, bindE, e2]
    exact ⟨w, N2, rfl, SS_Fr (SS_Fr hS F1') (Fr_sub F2 (sc_s SG33)), trivial⟩
  obtain ⟨a, N, e, s, _⟩ := q
  exact ⟨a, N, e, s⟩
end SQ
