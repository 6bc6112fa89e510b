def wq (l : List Int64) (i : Nat) : Int64 := l.getD i 0
theorem wq_app {ws : List Int64} {v : Int64} {k : Nat} (h : k < ws.length) : wq (ws ++ [v]) k = wq ws k := by
  unfold wq
  rw [List.getD_eq_getElem?_getD, List.getD_eq_getElem?_getD, List.getElem?_append_left h]
theorem wq_end {ws : List Int64} {v : Int64} : wq (ws ++ [v]) ws.length = v := by
  unfold wq
  rw [List.getD_eq_getElem?_getD, List.getElem?_append_right (Nat.le_refl _), Nat.sub_self]
  rfl
theorem mem_wq {l : List Int64} {v : Int64} : v ∈ l ↔ ∃ j, 0 ≤ j ∧ j < l.length ∧ wq l j = v := by
  rw [List.mem_iff_getElem]
  constructor
  · rintro ⟨i, h, e⟩
    refine ⟨i, Nat.zero_le _, h, ?_⟩
    unfold wq
    rw [List.getD_eq_getElem?_getD, List.getElem?_eq_getElem h]
    exact e
  · rintro ⟨i, _, h, e⟩
    refine ⟨i, h, ?_⟩
    unfold wq at e
    rw [List.getD_eq_getElem?_getD, List.getElem?_eq_getElem h] at e
    exact e
/-- the meanings of the first readings, each once -/
noncomputable def ul (ws : List Int32) : Nat → List Int64
  | 0 => []
  | i + 1 => if Me ws i ∈ ul ws i then ul ws i else ul ws i ++ [Me ws i]
theorem ul_len (ws : List Int32) : ∀ i, (ul ws i).length ≤ i := by
  intro i
  induction i with
  | zero => exact Nat.le_refl _
  | succ i ih =>
    rw [ul]
    split
    · omega
    · rw [List.length_append, List.length_singleton]; omega
def UA (M : ZM) (L : List Int64) : Prop := M.1 27 1 = nI L.length ∧ ∀ k, k < L.length → M.2 28 k = wq L k
def UO (M : ZM) (L : List Int64) : Prop := M.1 50 34 = nI L.length ∧ ∀ k, k < L.length → M.2 70 k = wq L k
theorem z28l {M : ZM} {k : Nat} (h : k < 200) : f_X11_look_ (zr 27 0) (nI k) M = M.2 28 k := by
  rw [show zr 27 0 = 28 by decide +kernel, lookl_nI (by rw [show zn 28 = 200 by decide +kernel]; exact h) (by omega)]
theorem uhas2 {M : ZM} {L : List Int64} (h : UA M L) (hl : L.length ≤ 200) (v : Int64) : ∀ k i fuel, i + k = L.length → k < fuel → ((∃ j, i ≤ j ∧ j < L.length ∧ wq L j = v) → f_X8_has_2 27 v M (some (0 : Int32)) fuel (nI i) = some 1) ∧ ((¬ ∃ j, i ≤ j ∧ j < L.length ∧ wq L j = v) → f_X8_has_2 27 v M (some (0 : Int32)) fuel (nI i) = some 0) := by
  intro k
  induction k with
  | zero =>
    intro i fuel hi hf
    obtain ⟨fuel, rfl⟩ : ∃ m, fuel = m + 1 := ⟨fuel - 1, by omega⟩
    rw [f_X8_has_2, h.1, if_pos (by rw [nI_le' (by omega) (by omega)]; omega)]
    exact ⟨fun ⟨j, h1, h2, _⟩ => by omega, fun _ => rfl⟩
  | succ k ih =>
    intro i fuel hi hf
    obtain ⟨fuel, rfl⟩ : ∃ m, fuel = m + 1 := ⟨fuel - 1, by omega⟩
    rw [f_X8_has_2, h.1, if_neg (by rw [nI_le' (by omega) (by omega)]; omega)]
    simp only [zletE]
    rw [z28l (by omega), h.2 i (by omega), nI_s]
    have t := ih (i + 1) fuel (by omega) (by omega)
    by_cases q : wq L i = v
    · rw [if_pos (by rw [lg_cmp_eq]; exact q)]
      exact ⟨fun _ => rfl, fun z => absurd ⟨i, Nat.le_refl _, by omega, q⟩ z⟩
    · rw [if_neg (by rw [lg_cmp_eq]; exact q)]
      refine ⟨fun ⟨j, h1, h2, h3⟩ => t.1 ⟨j, ?_, h2, h3⟩, fun z => t.2 (fun ⟨j, h1, h2, h3⟩ => z ⟨j, by omega, h2, h3⟩)⟩
      apply Classical.byContradiction
      intro y
      exact q (by rw [← h3, show j = i by omega])
theorem gath {ws : List Int32} (hm : Ny ws 0 ws.length ≤ 200) (K : ZM → Option ZM) : ∀ k i fuel M, i + k = Ny ws 0 ws.length → k < fuel → LM ws M → UA M (ul ws i) → ∃ N, f_X8_gather_7 27 19 K fuel (nI i) M = K N ∧ UA N (ul ws (Ny ws 0 ws.length)) ∧ Fr [27, 28] M N := by
  intro k
  induction k with
  | zero =>
    intro i fuel M hi hf hL hU
    obtain ⟨fuel, rfl⟩ : ∃ m, fuel = m + 1 := ⟨fuel - 1, by omega⟩
    rw [f_X8_gather_7, zletE, show f_X2_size 19 M = nI (Ny ws 0 ws.length) from hL.1, if_pos (by rw [nI_le' (by omega) (by omega)]; omega)]
    exact ⟨M, rfl, by rw [show Ny ws 0 ws.length = i by omega]; exact hU, Fr_rf _ _⟩
  | succ k ih =>
    intro i fuel M hi hf hL hU
    obtain ⟨fuel, rfl⟩ : ∃ m, fuel = m + 1 := ⟨fuel - 1, by omega⟩
    have hlen := ul_len ws i
    rw [f_X8_gather_7, zletE, show f_X2_size 19 M = nI (Ny ws 0 ws.length) from hL.1, if_neg (by rw [nI_le' (by omega) (by omega)]; omega)]
    simp only [zletE]
    rw [mea_ok hL hm (by omega), nI_s]
    have t := uhas2 hU (by omega) (Me ws i) (ul ws i).length 0 zN (by omega) (by unfold zN; omega)
    rw [nI0] at t
    unfold f_X8_has
    by_cases q : Me ws i ∈ ul ws i
    · rw [t.1 (mem_wq.mp q), bindE, if_neg (by decide)]
      exact ih (i + 1) fuel M (by omega) (by omega) hL (by rw [ul, if_pos q]; exact hU)
    · rw [t.2 (fun z => q (mem_wq.mpr z)), bindE, if_pos rfl, hU.1, show zr 27 0 = 28 by decide +kernel, putl_nI (by rw [show zn 28 = 200 by decide +kernel]; omega) (by omega), zl_1, hU.1, nI_s]
      have F1 : Fr [27, 28] M (zi (zl M 28 (ul ws i).length (Me ws i)) 27 1 (nI ((ul ws i).length + 1))) := Fr_tr (Fr_zl (by decide)) (Fr_zi (by decide))
      have g : UA (zi (zl M 28 (ul ws i).length (Me ws i)) 27 1 (nI ((ul ws i).length + 1))) (ul ws (i + 1)) := by
        rw [ul, if_neg q]
        refine ⟨by rw [zi_eq, List.length_append]; rfl, fun j hj => ?_⟩
        rw [List.length_append, List.length_singleton] at hj
        rw [zi_2]
        by_cases z : j = (ul ws i).length
        · rw [z, zl_eq, wq_end]
        · rw [zl_k z, wq_app (by omega)]; exact hU.2 j (by omega)
      obtain ⟨N, e, hN, hF⟩ := ih (i + 1) fuel _ (by omega) (by omega) (LM_Fr hL F1 (by decide) (by decide) (by decide) (by decide)) g
      exact ⟨N, e, hN, Fr_tr F1 hF⟩
theorem gath_ok {ws : List Int32} (hm : Ny ws 0 ws.length ≤ 200) {M : ZM} (hL : LM ws M) : ∃ N, f_X8_gather 27 19 M = some N ∧ UA N (ul ws (Ny ws 0 ws.length)) ∧ Fr [27, 28] M N := by
  unfold f_X8_gather
  simp only [zletE]
  have F0 : Fr [27, 28] M (zi M 27 1 0) := Fr_zi (by decide)
  obtain ⟨N, e, hN, hF⟩ := gath hm (fun M => some M) (Ny ws 0 ws.length) 0 zN (zi M 27 1 0) (by omega) (by unfold zN; omega) (LM_Fr hL F0 (by decide) (by decide) (by decide) (by decide)) ⟨by rw [zi_eq]; rfl, fun k hk => absurd hk (Nat.not_lt_zero _)⟩
  rw [nI0] at e
  exact ⟨N, e, hN, Fr_tr F0 hF⟩
theorem z70 : zr 50 33 = 70 := by decide +kernel
theorem i70 {r : Nat} (h : r < 200) : zin (nI r) (zn 70) = true := by rw [show zn 70 = 200 by decide +kernel]; exact zin_t h (by omega)
theorem fu19 {M : ZM} {L : List Int64} (h : UO M L) (hl : L.length ≤ 200) {r : Nat} (hr : r < 200) {v : Int64} (hv : M.2 68 r = v) (K : Int32 → ZM → Option ZM) : ∀ k i fuel (x : Bool), i + k = L.length → k < fuel → ((x = true ∨ ∃ j, i ≤ j ∧ j < L.length ∧ wq L j = v) → f_X12_findUnlike_19 50 (nI r) K fuel (bi x) (nI i) M = K 1 M) ∧ ((¬ (x = true ∨ ∃ j, i ≤ j ∧ j < L.length ∧ wq L j = v)) → f_X12_findUnlike_19 50 (nI r) K fuel (bi x) (nI i) M = K 0 M) := by
  intro k
  induction k with
  | zero =>
    intro i fuel x hi hf
    obtain ⟨fuel, rfl⟩ : ∃ m, fuel = m + 1 := ⟨fuel - 1, by omega⟩
    rw [f_X12_findUnlike_19, h.1, if_pos (by rw [nI_le' (by omega) (by omega)]; omega)]
    cases x with
    | true => exact ⟨fun _ => rfl, fun z => absurd (Or.inl rfl) z⟩
    | false => exact ⟨fun z => z.elim (fun y => Bool.noConfusion y) (fun ⟨j, h1, h2, _⟩ => by omega), fun _ => rfl⟩
  | succ k ih =>
    intro i fuel x hi hf
    obtain ⟨fuel, rfl⟩ : ∃ m, fuel = m + 1 := ⟨fuel - 1, by omega⟩
    rw [f_X12_findUnlike_19, h.1, if_neg (by rw [nI_le' (by omega) (by omega)]; omega)]
    simp only [zletE]
    rw [z70, z68, zckT (i70 (by omega)), zckT (i68 hr), nI_tn (by omega), nI_tn (by omega), hv, h.2 i (by omega), nI_s]
    cases x with
    | true =>
      have t := ih (i + 1) fuel true (by omega) (by omega)
      rw [show bi true = 1 from rfl, if_neg (by decide)]
      exact ⟨fun _ => t.1 (Or.inl rfl), fun z => absurd (Or.inl rfl) z⟩
    | false =>
      rw [show bi false = 0 from rfl, if_pos rfl]
      by_cases q : wq L i = v
      · have t := ih (i + 1) fuel true (by omega) (by omega)
        rw [if_pos (by rw [lg_cmp_eq]; exact q)]
        exact ⟨fun _ => t.1 (Or.inl rfl), fun z => absurd (Or.inr ⟨i, Nat.le_refl _, by omega, q⟩) z⟩
      · have t := ih (i + 1) fuel false (by omega) (by omega)
        rw [if_neg (by rw [lg_cmp_eq]; exact q)]
        refine ⟨fun z => t.1 (z.imp id (fun ⟨j, h1, h2, h3⟩ => ⟨j, ?_, h2, h3⟩)), fun z => t.2 (fun y => z (y.imp id (fun ⟨j, h1, h2, h3⟩ => ⟨j, by omega, h2, h3⟩)))⟩
        apply Classical.byContradiction
        intro y
        exact q (by rw [← h3, show j = i by omega])
theorem fu7 {ws : List Int32} (hm : Ny ws 0 ws.length ≤ 200) (K : ZM → Option ZM) : ∀ k i fuel M, i + k = Ny ws 0 ws.length → k < fuel → M.1 50 26 = nI (Ny ws 0 ws.length) → (∀ s, s < Ny ws 0 ws.length → M.2 68 s = Me ws s) → UO M (ul ws i) → ∃ N, f_X12_findUnlike_7 50 K fuel (nI i) M = K N ∧ UO N (ul ws (Ny ws 0 ws.length)) ∧ Fs M N := by
  intro k
  induction k with
  | zero =>
    intro i fuel M hi hf h26 hM hU
    obtain ⟨fuel, rfl⟩ : ∃ m, fuel = m + 1 := ⟨fuel - 1, by omega⟩
    rw [f_X12_findUnlike_7, h26, if_pos (by rw [nI_le' (by omega) (by omega)]; omega)]
    exact ⟨M, rfl, by rw [show Ny ws 0 ws.length = i by omega]; exact hU, Fs_rf _⟩
  | succ k ih =>
    intro i fuel M hi hf h26 hM hU
    obtain ⟨fuel, rfl⟩ : ∃ m, fuel = m + 1 := ⟨fuel - 1, by omega⟩
    have hlen := ul_len ws i
    rw [f_X12_findUnlike_7, h26, if_neg (by rw [nI_le' (by omega) (by omega)]; omega)]
    have t := fu19 hU (by omega) (show i < 200 by omega) (hM i (by omega)) (fun (v2 : Int32) (M : ZM) =>
        if v2 = 0 then (
          zck (zin (nI i) (zn (zr 50 25))) <|
          zck (zin (M.1 50 34) (zn (zr 50 33))) <|
          zlet (zl M (zr 50 33) (M.1 50 34).toNatClampNeg (M.2 (zr 50 25) (nI i).toNatClampNeg)) fun (M14 : ZM) =>
          zlet (zi M14 50 34 ((M14.1 50 34) + 1)) fun (M15 : ZM) =>
          zlet (nI i + 1) fun (x16 : Int32) =>
          f_X12_findUnlike_7 50 K fuel x16 M15) else (
          zlet (nI i + 1) fun (x17 : Int32) =>
          f_X12_findUnlike_7 50 K fuel x17 M)) (ul ws i).length 0 zN false (by omega) (by unfold zN; omega)
    rw [nI0, show bi false = 0 from rfl] at t
    by_cases q : Me ws i ∈ ul ws i
    · rw [t.1 (Or.inr (mem_wq.mp q)), if_neg (by decide), zletE, nI_s]
      exact ih (i + 1) fuel M (by omega) (by omega) h26 hM (by rw [ul, if_pos q]; exact hU)
    · rw [t.2 (fun z => z.elim (fun y => Bool.noConfusion y) (fun y => q (mem_wq.mpr y))), if_pos rfl]
      simp only [zletE]
      rw [z68, z70, zckT (i68 (by omega)), hU.1, zckT (i70 (by omega)), nI_tn (by omega), nI_tn (by omega), hM i (by omega), zl_1, hU.1, nI_s, nI_s]
      have F1 : Fs M (zi (zl M 70 (ul ws i).length (Me ws i)) 50 34 (nI ((ul ws i).length + 1))) := Fs_tr Fs_zl (Fs_zi (by decide))
      have g : UO (zi (zl M 70 (ul ws i).length (Me ws i)) 50 34 (nI ((ul ws i).length + 1))) (ul ws (i + 1)) := by
        rw [ul, if_neg q]
        refine ⟨by rw [zi_eq, List.length_append]; rfl, fun j hj => ?_⟩
        rw [List.length_append, List.length_singleton] at hj
        rw [zi_2]
        by_cases z : j = (ul ws i).length
        · rw [z, zl_eq, wq_end]
        · rw [zl_k z, wq_app (by omega)]; exact hU.2 j (by omega)
      obtain ⟨N, e, hN, hF⟩ := ih (i + 1) fuel _ (by omega) (by omega) (by rw [zi_k (by decide), zl_1]; exact h26) (fun s hs => by rw [zi_2, zl_ne (by decide)]; exact hM s hs) g
      exact ⟨N, e, hN, Fs_tr F1 hF⟩
theorem fu_ok {ws tp od a1 a2 : List Int32} {im : zI} {rf : Nat → Int32} {M : ZM} (hr : RI ws tp od a1 a2 im rf M) (hm : Ny ws 0 ws.length ≤ 200) : ∃ N, f_X12_findUnlike 50 M = some N ∧ UO N (ul ws (Ny ws 0 ws.length)) ∧ Fs M N := by
  unfold f_X12_findUnlike
  simp only [zletE]
  have F0 : Fs M (zi M 50 34 0) := Fs_zi (by decide)
  obtain ⟨N, e, hN, hF⟩ := fu7 hm (fun M => some M) (Ny ws 0 ws.length) 0 zN (zi M 50 34 0) (by omega) (by unfold zN; omega) (by rw [zi_k (by decide)]; exact L26 hr hm) (fun s hs => (LRr hr hm hs).2.2.1) ⟨by rw [zi_eq]; rfl, fun k hk => absurd hk (Nat.not_lt_zero _)⟩
  rw [nI0] at e
  exact ⟨N, e, hN, Fs_tr F0 hF⟩
theorem sc_u : ∀ b, b ∈ [27, 28] → b ∈ sc1 := by decide
theorem m_unlike {M : ZM} (hJ : JJ M) : Ag (f_X11_unlike 0 M) (f_X12_unlike 50) := by
  unfold f_X11_unlike
  refine qAg (fun x => x) hJ (fun N => by simp only [zletE]; rw [if_neg (by decide)]) (fun N h => ?_) (fun ws tp od a1 a2 im rf N hp hc hr hL hm => ?_)
  · unfold f_X12_unlike
    rw [if_pos h]
  · show Ag (if ((0 : Int32), N).1 = 0 then _ else _) _
    rw [if_pos rfl]
    obtain ⟨N1, e1, u1, F1⟩ := gath_ok hm hL
    have r1 := RI_c hr (Fr_sub F1 (by decide))
    obtain ⟨P, e2, u2, F2⟩ := fu_ok r1 hm
    refine okAg hp hc hr (N1 := N1) (a := nI (ul ws (Ny ws 0 ws.length)).length) ?_ (Fr_sub F1 sc_u) (P := P) ?_ F2
    · rw [show zr 0 6 = 27 by decide +kernel, show zr 0 5 = 19 by decide +kernel, e1, bindE]
      simp only [zletE]
      rw [show f_X8_size 27 N1 = nI (ul ws (Ny ws 0 ws.length)).length from u1.1]
    · unfold f_X12_unlike
      rw [if_neg (L29_t r1 hm), e2, bindE, u2.1]
