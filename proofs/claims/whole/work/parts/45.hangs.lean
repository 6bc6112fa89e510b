theorem wn_ext {L L' : List Nat} (h : L.length = L'.length) (h2 : ∀ j, j < L.length → wn L j = wn L' j) : L = L' := by
  apply List.ext_getElem h
  intro i hi hi'
  have := h2 i hi
  rw [wn_get hi, wn_get hi'] at this
  exact this
theorem ka2 {M : ZM} {m : Nat} (hm : m ≤ 200) {s s' : (Nat → Bool) × Nat} (h : SA M 31 32 m s) (h' : SA M 33 34 m s') : ∀ c i fuel, i + c = (sL m s.1).length → c < fuel → ((sL m s.1).length = (sL m s'.1).length → ∀ j, j < i → wn (sL m s.1) j = wn (sL m s'.1) j) → (sL m s.1 = sL m s'.1 → f_X6_keepsAs_2 31 33 M (
    if (M.1 31 1) = (M.1 33 1) then (
      some (1 : Int32)) else (
      some (0 : Int32))) fuel (nI i) = some 1) ∧ (¬ sL m s.1 = sL m s'.1 → f_X6_keepsAs_2 31 33 M (
    if (M.1 31 1) = (M.1 33 1) then (
      some (1 : Int32)) else (
      some (0 : Int32))) fuel (nI i) = some 0) := by
  have l1 := sL_len m s.1
  have l2 := sL_len m s'.1
  intro c
  induction c with
  | zero =>
    intro i fuel hi hf hp
    obtain ⟨fuel, rfl⟩ : ∃ m, fuel = m + 1 := ⟨fuel - 1, by omega⟩
    rw [f_X6_keepsAs_2, h.1, h'.1, if_pos (by rw [nI_le' (by omega) (by omega)]; omega)]
    refine ⟨fun e => by rw [e, if_pos rfl], fun e => ?_⟩
    rw [if_neg]
    intro z
    have hz := (nI_inj (by omega) (by omega)).mp z
    exact e (wn_ext hz (fun j hj => hp hz j (by omega)))
  | succ c ih =>
    intro i fuel hi hf hp
    obtain ⟨fuel, rfl⟩ : ∃ m, fuel = m + 1 := ⟨fuel - 1, by omega⟩
    have a1 : f_X6_at 31 (nI i) M = nI (wn (sL m s.1) i) := by
      unfold f_X6_at
      rw [zletE, show zr 31 0 = 32 by decide +kernel, look_nI (by rw [show zn 32 = 200 by decide +kernel]; omega) (by omega), h.2.1 i (by omega)]
    have a2 : f_X6_at 33 (nI i) M = M.1 34 i := by
      unfold f_X6_at
      rw [zletE, show zr 33 0 = 34 by decide +kernel, look_nI (by rw [show zn 34 = 200 by decide +kernel]; omega) (by omega)]
    have v1 : wn (sL m s.1) i < m := (sL_mem.mp (wn_mem (show i < (sL m s.1).length by omega))).1
    have t := ih (i + 1) fuel (by omega) (by omega)
    have hval : (sL m s.1).length = (sL m s'.1).length → M.1 34 i = nI (wn (sL m s'.1) i) ∧ wn (sL m s'.1) i < m := fun e => ⟨h'.2.1 i (by omega), (sL_mem.mp (wn_mem (show i < (sL m s'.1).length by omega))).1⟩
    rw [f_X6_keepsAs_2]
    simp only [zletE]
    rw [a1, a2, nI_s]
    rw [h.1] at t ⊢
    rw [if_neg (by rw [nI_le' (by omega) (by omega)]; omega)]
    by_cases q : nI (wn (sL m s.1) i) = M.1 34 i
    · rw [if_pos q]
      refine t (fun e j hj => ?_)
      by_cases z : j = i
      · rw [z]
        have hv := hval e
        rw [hv.1] at q
        exact (nI_inj (by omega) (by omega)).mp q
      · exact hp e j (by omega)
    · rw [if_neg q]
      refine ⟨fun e => ?_, fun _ => rfl⟩
      exfalso
      apply q
      rw [(hval (by rw [e])).1, e]
theorem ka_ok {M : ZM} {m : Nat} (hm : m ≤ 200) {s s' : (Nat → Bool) × Nat} (h : SA M 31 32 m s) (h' : SA M 33 34 m s') : (sL m s.1 = sL m s'.1 → f_X6_keepsAs 31 33 M = some 1) ∧ (¬ sL m s.1 = sL m s'.1 → f_X6_keepsAs 31 33 M = some 0) := by
  have l1 := sL_len m s.1
  have := ka2 hm h h' (sL m s.1).length 0 zN (by omega) (by unfold zN; omega) (fun _ j hj => by omega)
  rw [nI0] at this
  exact this
/-- without a rule others are left over -/
def DA (ws : List Int32) (m : Nat) (od : List Int32) (x : Nat) : Prop := ¬ sL m (svn ws m od).1 = sL m (svp ws m od (fun j => decide (wa od j = nI x)) od.length).1
def DO (ws : List Int32) (m : Nat) (od : List Int32) (k : Nat) : Prop := ¬ ∀ r, r < m → (svn ws m od).1 r = (svp ws m od (fun j => decide (nI j = nI k)) od.length).1 r
theorem wa_inj {od : List Int32} (h : od.Nodup) {i j : Nat} (hi : i < od.length) (hj : j < od.length) (e : wa od i = wa od j) : i = j := by
  rw [wa_get hi, wa_get hj] at e
  have hp := List.pairwise_iff_getElem.mp h
  rcases Nat.lt_trichotomy i j with q | q | q
  · exact absurd e (hp i j hi hj q)
  · exact q
  · exact absurd e.symm (hp j i hj hi q)
theorem DA_DO {ws od : List Int32} {m x k : Nat} (ho : oko od) (hk : k < od.length) (e : wa od k = nI x) : DA ws m od x ↔ DO ws m od k := by
  have h6 := ho.1
  unfold DA DO
  have es : svp ws m od (fun j => decide (wa od j = nI x)) od.length = svp ws m od (fun j => decide (nI j = nI k)) od.length := by
    apply svp_c
    intro j hj
    by_cases q : j = k
    · subst q; rw [decide_eq_true e, decide_eq_true rfl]
    · rw [decide_eq_false (fun z => q (wa_inj ho.2.1 hj hk (by rw [z, e]))), decide_eq_false (fun z => q ((nI_inj (by omega) (by omega)).mp z))]
  rw [es, sL_eq]
theorem hA34 {ws od : List Int32} (ho : oko od) (hm : Ny ws 0 ws.length ≤ 200) : ∀ c x fuel v M, x + c = 6 → c < fuel → LH M 29 1 30 od → LM ws M → SA M 31 32 (Ny ws 0 ws.length) (svn ws (Ny ws 0 ws.length) od) → (∀ y, y < 32 → (lc v y = true ↔ y < x ∧ nI y ∈ od ∧ DA ws (Ny ws 0 ws.length) od y)) → ∃ w N, f_X11_hangs_34 0 (fun (v1 : Int32) (M : ZM) => some (v1, M)) fuel v (nI x) M = some (w, N) ∧ (∀ y, y < 32 → (lc w y = true ↔ y < 6 ∧ nI y ∈ od ∧ DA ws (Ny ws 0 ws.length) od y)) ∧ Fr [33, 34] M N := by
  intro c
  induction c with
  | zero =>
    intro x fuel v M hi hf hO hL hS hv
    obtain ⟨fuel, rfl⟩ : ∃ m, fuel = m + 1 := ⟨fuel - 1, by omega⟩
    rw [f_X11_hangs_34, if_pos (by rw [show (6 : Int32) = nI 6 from rfl, nI_le' (by omega) (by omega)]; omega)]
    exact ⟨v, M, rfl, by rw [show 6 = x by omega]; exact hv, Fr_rf _ _⟩
  | succ c ih =>
    intro x fuel v M hi hf hO hL hS hv
    obtain ⟨fuel, rfl⟩ : ∃ m, fuel = m + 1 := ⟨fuel - 1, by omega⟩
    rw [f_X11_hangs_34, if_neg (by rw [show (6 : Int32) = nI 6 from rfl, nI_le' (by omega) (by omega)]; omega), show zr 0 7 = 29 by decide +kernel, show zr 0 9 = 33 by decide +kernel, show zr 0 5 = 19 by decide +kernel, show zr 0 8 = 31 by decide +kernel]
    simp only [zletE]
    rw [nI_s]
    have same : (¬ (nI x ∈ od ∧ DA ws (Ny ws 0 ws.length) od x)) → ∀ y, y < 32 → (lc v y = true ↔ y < x + 1 ∧ nI y ∈ od ∧ DA ws (Ny ws 0 ws.length) od y) := by
      intro hn y hy
      rw [hv y hy]
      constructor
      · rintro ⟨h1, h2⟩; exact ⟨by omega, h2⟩
      · rintro ⟨h1, h2⟩
        by_cases z : y = x
        · rw [z] at h2; exact absurd h2 hn
        · exact ⟨by omega, h2⟩
    by_cases q : nI x ∈ od
    · rw [has_t hO ho.1 q, bindE, if_neg (by decide)]
      obtain ⟨N, e, s2, F⟩ := sift_ok SG33 hm ho (nI x) hO hL
      have hO2 := LH_Fr hO F (by decide) (by decide)
      have hL2 := LM_Fr hL F (by decide) (by decide) (by decide) (by decide)
      have hS2 : SA N 31 32 (Ny ws 0 ws.length) (svn ws (Ny ws 0 ws.length) od) := ⟨by rw [Fr_1 F (by decide)]; exact hS.1, fun k hk => by rw [Fr_1 F (by decide)]; exact hS.2.1 k hk, by rw [Fr_1 F (by decide)]; exact hS.2.2⟩
      have t := ka_ok hm hS2 s2
      rw [e, bindE]
      by_cases d : sL (Ny ws 0 ws.length) (svn ws (Ny ws 0 ws.length) od).1 = sL (Ny ws 0 ws.length) (svp ws (Ny ws 0 ws.length) od (fun j => decide (wa od j = nI x)) od.length).1
      · rw [t.1 d, bindE, if_neg (by decide)]
        obtain ⟨w, P, e2, hw, F2⟩ := ih (x + 1) fuel v N (by omega) (by omega) hO2 hL2 hS2 (same (fun z => z.2 d))
        exact ⟨w, P, e2, hw, Fr_tr F F2⟩
      · rw [t.2 d, bindE, if_pos rfl]
        obtain ⟨w, P, e2, hw, F2⟩ := ih (x + 1) fuel (v ||| (1 <<< (nI x &&& 31))) N (by omega) (by omega) hO2 hL2 hS2 (fun y hy => by
          rw [lc_or, sh1 x (by omega) y hy, Bool.or_eq_true, decide_eq_true_iff, hv y hy]
          constructor
          · rintro (⟨h1, h2⟩ | h)
            · exact ⟨by omega, h2⟩
            · rw [h]; exact ⟨by omega, q, d⟩
          · rintro ⟨h1, h2⟩
            by_cases z : y = x
            · exact Or.inr z
            · exact Or.inl ⟨by omega, h2⟩)
        exact ⟨w, P, e2, hw, Fr_tr F F2⟩
    · rw [has_f hO ho.1 q, bindE, if_pos rfl]
      exact ih (x + 1) fuel v M (by omega) (by omega) hO hL hS (same (fun z => q z.1))
theorem hO50 {M : ZM} {m : Nat} (hm : m ≤ 200) (h26 : M.1 50 26 = nI m) {p p' : Nat → Bool} (hB : RB M 71 m p) (hB' : RB M 72 m p') (a b : Int32) (K : Int32 → ZM → Option (Int32 × ZM)) : ∀ n i fuel (x : Bool), i + n = m → n < fuel → ((x = true ∧ ∀ r, i ≤ r → r < m → p r = p' r) → f_X12_hangs_50 50 a b K fuel (bi x) (nI i) M = K 1 M) ∧ ((¬ (x = true ∧ ∀ r, i ≤ r → r < m → p r = p' r)) → f_X12_hangs_50 50 a b K fuel (bi x) (nI i) M = K 0 M) := by
  intro n
  induction n with
  | zero =>
    intro i fuel x hi hf
    obtain ⟨fuel, rfl⟩ : ∃ m, fuel = m + 1 := ⟨fuel - 1, by omega⟩
    rw [f_X12_hangs_50, h26, if_pos (by rw [nI_le' (by omega) (by omega)]; omega)]
    cases x with
    | true => exact ⟨fun _ => rfl, fun z => absurd ⟨rfl, fun r h1 h2 => by omega⟩ z⟩
    | false => exact ⟨fun z => Bool.noConfusion z.1, fun _ => rfl⟩
  | succ n ih =>
    intro i fuel x hi hf
    obtain ⟨fuel, rfl⟩ : ∃ m, fuel = m + 1 := ⟨fuel - 1, by omega⟩
    rw [f_X12_hangs_50, h26, if_neg (by rw [nI_le' (by omega) (by omega)]; omega)]
    simp only [zletE]
    rw [show zr 50 35 = 71 by decide +kernel, show zr 50 36 = 72 by decide +kernel, zckT (qz QG71 (by omega)), zckT (qz QG72 (by omega)), nI_tn (by omega), hB i (by omega), hB' i (by omega), nI_s]
    have tF := ih (i + 1) fuel false (by omega) (by omega)
    have tT := ih (i + 1) fuel true (by omega) (by omega)
    cases x with
    | false =>
      rw [show bi false = 0 from rfl, if_pos rfl]
      exact ⟨fun z => Bool.noConfusion z.1, fun _ => tF.2 (fun z => Bool.noConfusion z.1)⟩
    | true =>
      rw [show bi true = 1 from rfl, if_neg (by decide)]
      by_cases q : p i = p' i
      · rw [if_pos (by rw [q])]
        refine ⟨fun z => tT.1 ⟨rfl, fun r h1 h2 => z.2 r (by omega) h2⟩, fun z => tT.2 (fun y => z ⟨rfl, fun r h1 h2 => ?_⟩)⟩
        by_cases w : r = i
        · rw [w]; exact q
        · exact y.2 r (by omega) h2
      · rw [if_neg (by cases hp : p i <;> cases hp' : p' i <;> first | exact absurd (hp.trans hp'.symm) q | decide)]
        exact ⟨fun z => absurd (z.2 i (Nat.le_refl _) (by omega)) q, fun _ => tF.2 (fun z => Bool.noConfusion z.1)⟩
theorem hO28 {ws tp od a1 a2 : List Int32} {im : zI} {rf : Nat → Int32} (ho : oko od) (hm : Ny ws 0 ws.length ≤ 200) : ∀ n k fuel v M, k + n = od.length → n < fuel → RI ws tp od a1 a2 im rf M → RB M 71 (Ny ws 0 ws.length) (svn ws (Ny ws 0 ws.length) od).1 → (∀ y, y < 32 → (lc v y = true ↔ ∃ j, j < k ∧ wa od j = nI y ∧ DO ws (Ny ws 0 ws.length) od j)) → ∃ w N, f_X12_hangs_28 50 (fun (v1 : Int32) (M : ZM) => some (v1, M)) fuel v (nI k) M = some (w, N) ∧ (∀ y, y < 32 → (lc w y = true ↔ ∃ j, j < od.length ∧ wa od j = nI y ∧ DO ws (Ny ws 0 ws.length) od j)) ∧ Fs M N := by
  intro n
  induction n with
  | zero =>
    intro k fuel v M hi hf hr hB hv
    obtain ⟨fuel, rfl⟩ : ∃ m, fuel = m + 1 := ⟨fuel - 1, by omega⟩
    have := ho.1
    rw [f_X12_hangs_28, hr.2.2.1.1, if_pos (by rw [nI_le' (by omega) (by omega)]; omega)]
    exact ⟨v, M, rfl, by rw [show od.length = k by omega]; exact hv, Fs_rf _⟩
  | succ n ih =>
    intro k fuel v M hi hf hr hB hv
    obtain ⟨fuel, rfl⟩ : ∃ m, fuel = m + 1 := ⟨fuel - 1, by omega⟩
    have h6 := ho.1
    obtain ⟨c, hc, ec⟩ := ho.2.2 _ (wa_mem (show k < od.length by omega))
    rw [f_X12_hangs_28, hr.2.2.1.1, if_neg (by rw [nI_le' (by omega) (by omega)]; omega), show zr 50 36 = 72 by decide +kernel]
    obtain ⟨P, e, p1, _, pF, pb⟩ := fo_ok ho hm QG72 (nI k) hr
    rw [e, bindE]
    have rP := RI_Fs hr pF
    have hB2 : RB P 71 (Ny ws 0 ws.length) (svn ws (Ny ws 0 ws.length) od).1 := fun r hr' => by rw [pb 71 (by decide) (by decide)]; exact hB r hr'
    have t := hO50 hm (L26 rP hm) hB2 p1 v (nI k) (fun (v3 : Int32) (M : ZM) =>
        if v3 = 0 then (
          zck (zin (nI k) (zn (zr 50 3))) <|
          zlet (v ||| (1 <<< ((M.1 (zr 50 3) (nI k).toNatClampNeg) &&& 31))) fun (x15 : Int32) =>
          zlet (nI k + 1) fun (x16 : Int32) =>
          f_X12_hangs_28 50 (fun (v1 : Int32) (M : ZM) => some (v1, M)) fuel x15 x16 M) else (
          zlet (v ||| 0) fun (x17 : Int32) =>
          zlet (nI k + 1) fun (x18 : Int32) =>
          f_X12_hangs_28 50 (fun (v1 : Int32) (M : ZM) => some (v1, M)) fuel x17 x18 M)) (Ny ws 0 ws.length) 0 zN true (by omega) (by unfold zN; omega)
    rw [nI0, show bi true = 1 from rfl] at t
    by_cases d : DO ws (Ny ws 0 ws.length) od k
    · rw [t.2 (fun z => d (fun r hr' => z.2 r (Nat.zero_le _) hr')), if_pos rfl]
      simp only [zletE]
      rw [show zr 50 3 = 54 by decide +kernel, zckT (by rw [show zn 54 = 6 by decide +kernel]; exact zin_t (by omega) (by omega)), nI_tn (by omega), rP.2.2.1.2 k (by omega), ec, nI_s]
      obtain ⟨w, N, e2, hw, F2⟩ := ih (k + 1) fuel (v ||| (1 <<< (nI c &&& 31))) P (by omega) (by omega) rP hB2 (fun y hy => by
        rw [lc_or, sh1 c (by omega) y hy, Bool.or_eq_true, decide_eq_true_iff, hv y hy]
        constructor
        · rintro (⟨j, h1, h2⟩ | h)
          · exact ⟨j, by omega, h2⟩
          · exact ⟨k, by omega, by rw [ec, h], d⟩
        · rintro ⟨j, h1, h2, h3⟩
          by_cases z : j = k
          · right
            rw [z, ec] at h2
            exact ((nI_inj (by omega) (by omega)).mp h2).symm
          · exact Or.inl ⟨j, by omega, h2, h3⟩)
      exact ⟨w, N, e2, hw, Fs_tr pF F2⟩
    · rw [t.1 ⟨rfl, fun r _ hr' => Classical.byContradiction (fun z => d (fun y => z (y r hr')))⟩, if_neg (by decide)]
      simp only [zletE]
      rw [Int32.or_zero, nI_s]
      obtain ⟨w, N, e2, hw, F2⟩ := ih (k + 1) fuel v P (by omega) (by omega) rP hB2 (fun y hy => by
        rw [hv y hy]
        constructor
        · rintro ⟨j, h1, h2⟩; exact ⟨j, by omega, h2⟩
        · rintro ⟨j, h1, h2, h3⟩
          by_cases z : j = k
          · rw [z] at h3; exact absurd h3 d
          · exact ⟨j, by omega, h2, h3⟩)
      exact ⟨w, N, e2, hw, Fs_tr pF F2⟩
theorem m_hangs {M : ZM} (hJ : JJ M) : Ag (f_X11_hangs 0 M) (f_X12_hangs 50) := by
  unfold f_X11_hangs
  refine qAg (fun x => x) hJ (fun N => by simp only [zletE]; rw [if_neg (by decide)]) (fun N h => ?_) (fun ws tp od a1 a2 im rf N hp hc hr hL hm => ?_)
  · unfold f_X12_hangs
    rw [if_pos h]
  · show Ag (if ((0 : Int32), N).1 = 0 then _ else _) _
    rw [if_pos rfl]
    have ho := hp.2.2.1
    have h6 := ho.1
    obtain ⟨N1, e1, s1, F1⟩ := sift_ok SG31 hm ho (-1) hc.2.2.1 hL
    rw [svn_A ho] at s1
    have F1' : Fr sc1 N N1 := Fr_sub F1 (sc_s SG31)
    have c1 := CI_Fr hc F1'
    obtain ⟨w, N2, e2, hw, F2⟩ := hA34 ho hm 6 0 zN 0 N1 (by omega) (by unfold zN; omega) c1.2.2.1 (LM_Fr hL F1 (by decide) (by decide) (by decide) (by decide)) s1 (fun y _ => ⟨fun z => by rw [lc_0] at z; exact absurd z (by decide), fun z => by omega⟩)
    rw [nI0] at e2
    have F2' : Fr sc1 N N2 := Fr_tr F1' (Fr_sub F2 (by decide))
    have r2 := RI_c hr (Fr_sub F2' (by decide))
    obtain ⟨P, e3, p1, _, p3, _⟩ := fo_ok ho hm QG71 (-9) r2
    rw [svn_O ho] at p1
    have rP := RI_Fs r2 p3
    obtain ⟨u, Q, e4, hu, qF⟩ := hO28 ho hm od.length 0 zN 0 P (by omega) (by unfold zN; omega) rP p1 (fun y _ => ⟨fun z => by rw [lc_0] at z; exact absurd z (by decide), fun ⟨j, hj, _⟩ => by omega⟩)
    rw [nI0] at e4
    have huw : u = w := by
      apply lc_ext
      intro y hy
      have : lc u y = true ↔ lc w y = true := by
        rw [hu y hy, hw y hy]
        constructor
        · rintro ⟨j, h1, h2, h3⟩
          obtain ⟨c, hc6, ec⟩ := ho.2.2 _ (wa_mem h1)
          rw [h2] at ec
          have hyc := (nI_inj (by omega) (by omega)).mp ec
          exact ⟨by omega, by rw [← h2]; exact wa_mem h1, (DA_DO ho h1 h2).mpr h3⟩
        · rintro ⟨h1, h2, h3⟩
          obtain ⟨j, _, hj, ej⟩ := mem_wa.mp h2
          exact ⟨j, hj, ej, (DA_DO ho hj ej).mp h3⟩
      cases h1 : lc u y <;> cases h2 : lc w y
      · rfl
      · exact absurd (this.mpr h2) (by rw [h1]; decide)
      · exact absurd (this.mp h1) (by rw [h2]; decide)
      · rfl
    refine okAg hp hc hr (N1 := N2) (a := w) ?_ F2' (P := Q) ?_ (Fs_tr p3 qF)
    · rw [show zr 0 8 = 31 by decide +kernel, show zr 0 5 = 19 by decide +kernel, show zr 0 7 = 29 by decide +kernel, e1, bindE, e2]
    · unfold f_X12_hangs
      rw [if_neg (L29_t r2 hm), show zr 50 35 = 71 by decide +kernel, e3, bindE, e4, huw]
