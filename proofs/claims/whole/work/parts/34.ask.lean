def Ag {α : Type} (x : Option (α × ZM)) (y : ZM → Option (α × ZM)) : Prop := ∃ a N P, x = some (a, N) ∧ y N = some (a, P) ∧ JJ P
theorem refAg {α : Type} (c : Int32 → α) {ws tp od a1 a2 : List Int32} {im : zI} {rf : Nat → Int32} {N : ZM} (hp : PS ws tp od a1 a2 im) (hc : CI ws tp od a1 a2 im rf N) (hr : RI ws tp od a1 a2 im rf N) {v : Int32} {k : Nat} (hv : -v = nI k) (hk : k < 7) {y : ZM → Option (α × ZM)} (hy : ∀ N', RI ws tp od a1 a2 im rf N' → y N' = (f_X12_refuse 50 v N').bind fun q => some (c q.1, q.2)) : Ag (some (c (f_X11_refuse 0 v N).1, (f_X11_refuse 0 v N).2)) y := by
  obtain ⟨N1, e1, c1, F1⟩ := refuse_ok hc hv hk
  have r1 := RI_c hr F1
  obtain ⟨P, e2, r2, F2⟩ := rref_ok r1 hv hk
  refine ⟨c v, N1, P, by rw [e1], by rw [hy N1 r1, e2, bindE], ws, tp, od, a1, a2, im, rfb rf k, hp, CI_r c1 F2, r2⟩
theorem okAg {α : Type} {ws tp od a1 a2 : List Int32} {im : zI} {rf : Nat → Int32} {N : ZM} (hp : PS ws tp od a1 a2 im) (hc : CI ws tp od a1 a2 im rf N) (hr : RI ws tp od a1 a2 im rf N) {x : Option (α × ZM)} {y : ZM → Option (α × ZM)} {a : α} {N1 P : ZM} (hx : x = some (a, N1)) (h1 : Fr sc1 N N1) (hy : y N1 = some (a, P)) (h2 : Fs N1 P) : Ag x y :=
  ⟨a, N1, P, hx, hy, ws, tp, od, a1, a2, im, rf, hp, CI_r (CI_Fr hc h1) (Fs_r50 h2), RI_Fs (RI_c hr (Fr_sub h1 (by decide))) h2⟩
theorem qAg {α : Type} (c : Int32 → α) {M : ZM} (hJ : JJ M) {Kc : Int32 × ZM → Option (α × ZM)} {y : ZM → Option (α × ZM)} (hK1 : ∀ N, Kc (1, N) = some (c (f_X11_refuse 0 (-5) N).1, (f_X11_refuse 0 (-5) N).2)) (hs : ∀ N, N.1 50 29 = 0 → y N = (f_X12_refuse 50 (-5) N).bind fun q => some (c q.1, q.2)) (hl : ∀ (ws tp od a1 a2 : List Int32) (im : zI) (rf : Nat → Int32) (N : ZM), PS ws tp od a1 a2 im → CI ws tp od a1 a2 im rf N → RI ws tp od a1 a2 im rf N → LM ws N → Ny ws 0 ws.length ≤ 200 → Ag (Kc (0, N)) y) : Ag ((f_X11_spent 0 M).bind Kc) y := by
  obtain ⟨ws, tp, od, a1, a2, im, rf, hp, hc, hr⟩ := hJ
  rcases spent_ok hp hc with ⟨q, e⟩ | ⟨q, N, e, cN, lN', F⟩
  · rw [e, bindE, hK1]
    exact refAg c hp hc hr (k := 5) (by decide +kernel) (by omega) (fun N' r' => hs N' (L29_f r' q))
  · rw [e, bindE]
    exact hl ws tp od a1 a2 im rf N hp cN (RI_c hr F) lN' q
theorem sc_t : ∀ b, b ∈ tcs → b ∈ sc1 := by decide
theorem m_nodes (v : Int32) {M : ZM} (hJ : JJ M) : Ag (f_X11_nodes 0 v M) (f_X12_nodes 50 v) := by
  unfold f_X11_nodes
  refine qAg (fun x => x) hJ (fun N => by simp only [zletE]; rw [if_neg (by decide)]) (fun N h => ?_) (fun ws tp od a1 a2 im rf N hp hc hr hL hm => ?_)
  · unfold f_X12_nodes f_X12_wrong
    rw [if_pos h, zletE, if_neg (by decide)]
  · show Ag (if ((0 : Int32), N).1 = 0 then _ else _) _
    rw [if_pos rfl]
    simp only [zletE]
    rcases in_or (Ny ws 0 ws.length) (by omega) v with ⟨r, hr0, rfl⟩ | hv
    · rw [noR_t hL hm hr0, if_pos rfl, nI_l (by omega), show zr 0 4 = 10 by decide +kernel, show zr 0 1 = 3 by decide +kernel, show zr 0 3 = 7 by decide +kernel]
      obtain ⟨N1, e1, t1, F1⟩ := grow_ok hp.1.1 (CI_ws hc) hc.2.2.2.2.2.2.2.2.2.1 hr0
      rw [e1, bindE, show f_X7_size 10 N1 = nI (sz (Tr ws r)) from t1.1]
      have r1 := RI_c hr (Fr_sub F1 (by decide))
      refine okAg hp hc hr rfl (Fr_sub F1 sc_t) (P := N1) ?_ (Fs_rf _)
      unfold f_X12_nodes
      rw [wrong_t r1 hm hr0, zletE, if_pos rfl, z65, zckT (i65 (by omega)), nI_tn (by omega), (LRr r1 hm hr0).1]
    · rw [noR_f hL hv, if_neg (by decide)]
      refine refAg (fun x => x) hp hc hr (k := 1) (by decide +kernel) (by omega) (fun N' r' => ?_)
      unfold f_X12_nodes
      rw [wrong_f r' hm hv, zletE, if_neg (by decide)]
theorem m_means (v : Int32) {M : ZM} (hJ : JJ M) : Ag (f_X11_means 0 v M) (f_X12_means 50 v) := by
  unfold f_X11_means
  refine qAg (fun x => x.toInt64) hJ (fun N => by simp only [zletE]; rw [if_neg (by decide)]) (fun N h => ?_) (fun ws tp od a1 a2 im rf N hp hc hr hL hm => ?_)
  · unfold f_X12_means f_X12_wrong
    rw [if_pos h, zletE, if_neg (by decide)]
  · show Ag (if ((0 : Int32), N).1 = 0 then _ else _) _
    rw [if_pos rfl]
    simp only [zletE]
    rcases in_or (Ny ws 0 ws.length) (by omega) v with ⟨r, hr0, rfl⟩ | hv
    · rw [noR_t hL hm hr0, if_pos rfl, show zr 0 5 = 19 by decide +kernel, mea_ok hL hm hr0]
      refine okAg hp hc hr rfl (Fr_rf _ _) (P := N) ?_ (Fs_rf _)
      unfold f_X12_means
      rw [wrong_t hr hm hr0, zletE, if_pos rfl, z68, zckT (i68 (by omega)), nI_tn (by omega), (LRr hr hm hr0).2.2.1]
    · rw [noR_f hL hv, if_neg (by decide)]
      refine refAg (fun x => x.toInt64) hp hc hr (k := 1) (by decide +kernel) (by omega) (fun N' r' => ?_)
      unfold f_X12_means
      rw [wrong_f r' hm hv, zletE, if_neg (by decide)]
theorem m_idle (v : Int32) {M : ZM} (hJ : JJ M) : Ag (f_X11_idle 0 v M) (f_X12_idle 50 v) := by
  unfold f_X11_idle
  refine qAg (fun x => x) hJ (fun N => by simp only [zletE]; rw [if_neg (by decide)]) (fun N h => ?_) (fun ws tp od a1 a2 im rf N hp hc hr hL hm => ?_)
  · unfold f_X12_idle f_X12_wrong
    rw [if_pos h, zletE, if_neg (by decide)]
  · show Ag (if ((0 : Int32), N).1 = 0 then _ else _) _
    rw [if_pos rfl]
    simp only [zletE]
    rcases in_or (Ny ws 0 ws.length) (by omega) v with ⟨r, hr0, rfl⟩ | hv
    · rw [noR_t hL hm hr0, if_pos rfl, show zr 0 5 = 19 by decide +kernel, idl_ok hL hm hr0]
      refine okAg hp hc hr rfl (Fr_rf _ _) (P := N) ?_ (Fs_rf _)
      unfold f_X12_idle
      rw [wrong_t hr hm hr0, zletE, if_pos rfl, z67, zckT (i67 (by omega)), nI_tn (by omega), (LRr hr hm hr0).2.2.2.2]
    · rw [noR_f hL hv, if_neg (by decide)]
      refine refAg (fun x => x) hp hc hr (k := 1) (by decide +kernel) (by omega) (fun N' r' => ?_)
      unfold f_X12_idle
      rw [wrong_f r' hm hv, zletE, if_neg (by decide)]
theorem m_node (v w u : Int32) {M : ZM} (hJ : JJ M) : Ag (f_X11_node 0 v w u M) (f_X12_node 50 v w u) := by
  unfold f_X11_node
  refine qAg (fun x => x) hJ (fun N => by simp only [zletE]; rw [if_neg (by decide)]) (fun N h => ?_) (fun ws tp od a1 a2 im rf N hp hc hr hL hm => ?_)
  · unfold f_X12_node f_X12_wrong
    simp only [zletE]
    rw [if_pos h, if_neg (by decide), if_neg (by decide), if_neg (by decide)]
  · show Ag (if ((0 : Int32), N).1 = 0 then _ else _) _
    rw [if_pos rfl]
    simp only [zletE]
    rcases in_or (Ny ws 0 ws.length) (by omega) v with ⟨r, hr0, rfl⟩ | hv
    · rw [noR_t hL hm hr0, if_pos rfl, nI_l (by omega), show zr 0 4 = 10 by decide +kernel, show zr 0 1 = 3 by decide +kernel, show zr 0 3 = 7 by decide +kernel]
      obtain ⟨N1, e1, t1, F1⟩ := grow_ok hp.1.1 (CI_ws hc) hc.2.2.2.2.2.2.2.2.2.1 hr0
      have hsp := Tr_sp hr0 hp.1.1
      have hsz := sz_ln (Tr ws r)
      have hl := hp.1.1
      have c1 := CI_Fr hc (Fr_sub F1 sc_t)
      have r1 := RI_c hr (Fr_sub F1 (by decide))
      rw [e1, bindE, show f_X7_size 10 N1 = nI (sz (Tr ws r)) from t1.1]
      rcases in_or (sz (Tr ws r)) (by omega) w with ⟨m, hm0, rfl⟩ | hw
      · rw [if_neg (nI_nn (by omega)), if_pos (by rw [nJ_lt (by omega) (by omega)]; exact hm0), kind_ok (by omega), from_ok (by omega), end_ok (by omega)]
        have A := AtC_n _ 0 0 t1.2 m hm0
        rw [Nat.zero_add] at A
        have hR : ∀ N', RI ws tp od a1 a2 im rf N' → N'.1 62 (21 * r + m) = nk ws 0 (Tr ws r) m ∧ N'.1 63 (21 * r + m) = nI (nf 0 (Tr ws r) m).1 ∧ N'.1 64 (21 * r + m) = nI (nf 0 (Tr ws r) m).2 := by
          intro N' r'
          have B := AtM_n _ 0 0 (LRr r' hm hr0).2.1 m hm0
          rw [Nat.zero_add] at B
          exact B
        have ei : 21 * nI r + nI m = nI (21 * r + m) := by rw [show (21 : Int32) = nI 21 from rfl, nI_mul, nJ_add]
        have start : ∀ N', RI ws tp od a1 a2 im rf N' → ∀ x : Int32, (u = nI 0 → x = nk ws 0 (Tr ws r) m) → (u = nI 1 → x = nI (nf 0 (Tr ws r) m).1) → (u = nI 2 → x = nI (nf 0 (Tr ws r) m).2) → (∃ k, k < 3 ∧ u = nI k) → f_X12_node 50 (nI r) (nI m) u N' = some (x, N') := by
          intro N' r' x h0 h1 h2 hk
          have B := hR N' r'
          have b62 : zin (nI (21 * r + m)) (zn 62) = true := by rw [show zn 62 = 4200 by decide +kernel]; exact zin_t (by omega) (by omega)
          have b63 : zin (nI (21 * r + m)) (zn 63) = true := by rw [show zn 63 = 4200 by decide +kernel]; exact zin_t (by omega) (by omega)
          have b64 : zin (nI (21 * r + m)) (zn 64) = true := by rw [show zn 64 = 4200 by decide +kernel]; exact zin_t (by omega) (by omega)
          unfold f_X12_node
          simp only [zletE]
          rw [wrong_t r' hm hr0, if_pos rfl, z65, zckT (i65 (by omega)), nI_tn (by omega), (LRr r' hm hr0).1, isIn_t hm0 (by omega), if_neg (by decide), if_pos rfl, show zr 50 19 = 62 by decide +kernel, show zr 50 20 = 63 by decide +kernel, show zr 50 21 = 64 by decide +kernel, ei]
          obtain ⟨k, hk3, rfl⟩ := hk
          rw [show (3 : Int32) = nI 3 from rfl, isIn_t hk3 (by omega), if_neg (by decide), if_pos rfl]
          have : k = 0 ∨ k = 1 ∨ k = 2 := by omega
          rcases this with rfl | rfl | rfl
          · rw [if_pos (by decide +kernel), zckT b62, nI_tn (by omega), B.1, h0 rfl]
          · rw [if_neg (by decide +kernel), if_pos (by decide +kernel), zckT b63, nI_tn (by omega), B.2.1, h1 rfl]
          · rw [if_neg (by decide +kernel), if_neg (by decide +kernel), zckT b64, nI_tn (by omega), B.2.2, h2 rfl]
        rcases in_or 3 (by omega) u with ⟨k, hk3, rfl⟩ | hu
        · have : k = 0 ∨ k = 1 ∨ k = 2 := by omega
          rcases this with rfl | rfl | rfl
          · rw [if_pos (by decide +kernel)]
            refine okAg hp hc hr rfl (Fr_sub F1 sc_t) (P := N1) (start N1 r1 _ (fun _ => A.1) (fun z => absurd z (by decide +kernel)) (fun z => absurd z (by decide +kernel)) ⟨_, hk3, rfl⟩) (Fs_rf _)
          · rw [if_neg (by decide +kernel), if_pos (by decide +kernel)]
            refine okAg hp hc hr rfl (Fr_sub F1 sc_t) (P := N1) (start N1 r1 _ (fun z => absurd z (by decide +kernel)) (fun _ => A.2.1) (fun z => absurd z (by decide +kernel)) ⟨_, hk3, rfl⟩) (Fs_rf _)
          · rw [if_neg (by decide +kernel), if_neg (by decide +kernel), if_pos (by decide +kernel)]
            refine okAg hp hc hr rfl (Fr_sub F1 sc_t) (P := N1) (start N1 r1 _ (fun z => absurd z (by decide +kernel)) (fun z => absurd z (by decide +kernel)) (fun _ => by rw [A.2.1, A.2.2, nI_sub (by omega), Nat.add_sub_cancel_left]) ⟨_, hk3, rfl⟩) (Fs_rf _)
        · have n0 : ¬ u = 0 := by
            rintro rfl
            rcases hu with z | z
            · exact absurd z (by decide)
            · exact absurd z (by decide +kernel)
          have n1 : ¬ u = 1 := by
            rintro rfl
            rcases hu with z | z
            · exact absurd z (by decide)
            · exact absurd z (by decide +kernel)
          have n2 : ¬ u = 2 := by
            rintro rfl
            rcases hu with z | z
            · exact absurd z (by decide)
            · exact absurd z (by decide +kernel)
          rw [if_neg n0, if_neg n1, if_neg n2]
          refine refAg (fun x => x) hp c1 r1 (k := 2) (by decide +kernel) (by omega) (fun N' r' => ?_)
          unfold f_X12_node
          simp only [zletE]
          rw [wrong_t r' hm hr0, if_pos rfl, z65, zckT (i65 (by omega)), nI_tn (by omega), (LRr r' hm hr0).1, isIn_t hm0 (by omega), if_neg (by decide), if_pos rfl, show (3 : Int32) = nI 3 from rfl, isIn_f hu, if_pos rfl, if_neg (by decide)]
      · have e : (if w < 0 then some ((f_X11_refuse 0 (-1) N1).1, (f_X11_refuse 0 (-1) N1).2) else if w < nI (sz (Tr ws r)) then (if u = 0 then some (f_X7_kind 10 w N1, N1) else if u = 1 then some (f_X7_from 10 w N1, N1) else if u = 2 then some (f_X7_end 10 w N1 - f_X7_from 10 w N1, N1) else some ((f_X11_refuse 0 (-2) N1).1, (f_X11_refuse 0 (-2) N1).2)) else some ((f_X11_refuse 0 (-1) N1).1, (f_X11_refuse 0 (-1) N1).2)) = some ((f_X11_refuse 0 (-1) N1).1, (f_X11_refuse 0 (-1) N1).2) := by
          by_cases z : w < 0
          · rw [if_pos z]
          · rw [if_neg z, if_neg (Int32.not_lt.mpr (hw.resolve_left z))]
        rw [e]
        refine refAg (fun x => x) hp c1 r1 (k := 1) (by decide +kernel) (by omega) (fun N' r' => ?_)
        unfold f_X12_node
        simp only [zletE]
        rw [wrong_t r' hm hr0, if_pos rfl, z65, zckT (i65 (by omega)), nI_tn (by omega), (LRr r' hm hr0).1, isIn_f hw, if_pos rfl, if_neg (by decide), if_neg (by decide)]
    · rw [noR_f hL hv, if_neg (by decide)]
      refine refAg (fun x => x) hp hc hr (k := 1) (by decide +kernel) (by omega) (fun N' r' => ?_)
      unfold f_X12_node
      simp only [zletE]
      rw [wrong_f r' hm hv, if_neg (by decide), if_neg (by decide), if_neg (by decide)]
