theorem nf_b : ∀ t i m, m < sz t → i ≤ (nf i t m).1 ∧ (nf i t m).1 + (nf i t m).2 ≤ i + ln t ∧ 1 ≤ (nf i t m).2 := by
  intro t
  induction t with
  | neg a ih =>
    intro i m h
    simp only [sz] at h
    have la := ln_pos a
    rw [nf]
    simp only [ln]
    by_cases q : m = 0
    · rw [if_pos q]; simp only []; omega
    · rw [if_neg q]; have := ih (i + 1) (m - 1) (by omega); omega
  | pow a k ih =>
    intro i m h
    simp only [sz] at h
    have la := ln_pos a
    rw [nf]
    simp only [ln]
    by_cases q : m = 0
    · rw [if_pos q]; simp only []; omega
    · rw [if_neg q]; have := ih (i + 1) (m - 1) (by omega); omega
  | add a b iha ihb =>
    intro i m h
    simp only [sz] at h
    have la := ln_pos a
    have lb' := ln_pos b
    rw [nf]
    simp only [ln]
    by_cases q : m = 0
    · rw [if_pos q]; simp only []; omega
    · rw [if_neg q]
      by_cases q2 : m - 1 < sz a
      · rw [if_pos q2]; have := iha i (m - 1) q2; omega
      · rw [if_neg q2]; have := ihb (i + ln a + 1) (m - 1 - sz a) (by omega); omega
  | _ =>
    intro i m h
    simp only [nf, ln]
    omega
theorem nf_0 : ∀ t i, nf i t 0 = (i, ln t) := by
  intro t i
  cases t <;> first | (rw [nf, if_pos rfl]; rfl) | rfl
theorem nf_lt : ∀ t i m, m < sz t → 1 ≤ m → (nf i t m).2 < ln t := by
  intro t
  cases t with
  | neg a =>
    intro i m h h1
    simp only [sz] at h
    rw [nf, if_neg (by omega)]
    have := nf_b a (i + 1) (m - 1) (by omega)
    simp only [ln]; omega
  | pow a k =>
    intro i m h h1
    simp only [sz] at h
    rw [nf, if_neg (by omega)]
    have := nf_b a (i + 1) (m - 1) (by omega)
    simp only [ln]; omega
  | add a b =>
    intro i m h h1
    simp only [sz] at h
    rw [nf, if_neg (by omega)]
    simp only [ln]
    by_cases q2 : m - 1 < sz a
    · rw [if_pos q2]; have := nf_b a i (m - 1) q2; omega
    · rw [if_neg q2]; have := nf_b b (i + ln a + 1) (m - 1 - sz a) (by omega); omega
  | _ =>
    intro i m h h1
    simp only [sz] at h
    omega
theorem nf_inj : ∀ t i m m', m < sz t → m' < sz t → nf i t m = nf i t m' → m = m' := by
  intro t
  have key : ∀ t i m m', m < sz t → m' < sz t → m ≤ m' → nf i t m = nf i t m' → m = m' := by
    intro t
    induction t with
    | neg a ih =>
      intro i m m' h h' hle e
      by_cases q : m = 0
      · apply Classical.byContradiction
        intro z
        have h2 := nf_lt (.neg a) i m' h' (by omega)
        rw [← e, q, nf_0] at h2
        simp only [] at h2
        omega
      · rw [nf, nf, if_neg q, if_neg (by omega)] at e
        simp only [sz] at h h'
        have := ih (i + 1) (m - 1) (m' - 1) (by omega) (by omega) (by omega) e
        omega
    | pow a k ih =>
      intro i m m' h h' hle e
      by_cases q : m = 0
      · apply Classical.byContradiction
        intro z
        have h2 := nf_lt (.pow a k) i m' h' (by omega)
        rw [← e, q, nf_0] at h2
        simp only [] at h2
        omega
      · rw [nf, nf, if_neg q, if_neg (by omega)] at e
        simp only [sz] at h h'
        have := ih (i + 1) (m - 1) (m' - 1) (by omega) (by omega) (by omega) e
        omega
    | add a b iha ihb =>
      intro i m m' h h' hle e
      by_cases q : m = 0
      · apply Classical.byContradiction
        intro z
        have h2 := nf_lt (.add a b) i m' h' (by omega)
        rw [← e, q, nf_0] at h2
        simp only [] at h2
        omega
      · rw [nf, nf, if_neg q, if_neg (show ¬ m' = 0 by omega)] at e
        simp only [sz] at h h'
        by_cases q1 : m - 1 < sz a
        · rw [if_pos q1] at e
          have b1 := nf_b a i (m - 1) q1
          by_cases q2 : m' - 1 < sz a
          · rw [if_pos q2] at e
            have := iha i (m - 1) (m' - 1) q1 q2 (by omega) e
            omega
          · rw [if_neg q2] at e
            have b2 := nf_b b (i + ln a + 1) (m' - 1 - sz a) (by omega)
            rw [← e] at b2
            omega
        · rw [if_neg q1, if_neg (show ¬ m' - 1 < sz a by omega)] at e
          have := ihb (i + ln a + 1) (m - 1 - sz a) (m' - 1 - sz a) (by omega) (by omega) (by omega) e
          omega
    | _ =>
      intro i m m' h h' _ _
      simp only [sz] at h h'
      omega
  intro i m m' h h' e
  rcases Nat.le_total m m' with q | q
  · exact key t i m m' h h' q e
  · exact (key t i m' m h' h q e.symm).symm
/-- a node of a reading that may be put in brackets -/
def mk (ws : List Int32) (r i : Nat) : Prop := 1 ≤ i ∧ i < sz (Tr ws r) ∧ nk ws 0 (Tr ws r) i ≠ 0 ∧ nk ws 0 (Tr ws r) i ≠ 2
/-- another reading has a node of the same words -/
def hz (ws : List Int32) (r o i : Nat) : Prop := ∃ k, k < sz (Tr ws o) ∧ nf 0 (Tr ws o) k = nf 0 (Tr ws r) i
def ix (p : Nat × Nat) : Nat := p.1 * 22 + (p.1 + p.2)
theorem ix_inj {p q : Nat × Nat} (hp : p.1 + p.2 ≤ 21) (hq : q.1 + q.2 ≤ 21) (h : ix p = ix q) : p = q := by
  unfold ix at h
  have : p.1 = q.1 := by omega
  have : p.2 = q.2 := by omega
  exact Prod.ext (by omega) (by omega)
theorem sh1c : ∀ n, n < 32 → ∀ k, k < 32 → lc ((1 : Int32) <<< (nI n &&& 31)) k = decide (k = n) := by decide +kernel
/-- which node has a run of words, as a bit -/
def NB (ws : List Int32) (r i : Nat) (M : ZM) : Prop := (∀ y, y < i → mk ws r y → M.1 36 (ix (nf 0 (Tr ws r) y)) = 1 <<< (nI y &&& 31)) ∧ (∀ x, x < 484 → (∀ y, y < i → mk ws r y → ix (nf 0 (Tr ws r) y) ≠ x) → M.1 36 x = 0)
theorem bg12 (K : ZM → Option ZM) : ∀ c i fuel M, i + c = 484 → c < fuel → (∀ x, x < i → M.1 36 x = 0) → ∃ N, f_X3_begin_12 35 10 K fuel (nI i) M = K N ∧ (∀ x, x < 484 → N.1 36 x = 0) ∧ (∀ b, b ≠ 36 → N.1 b = M.1 b) ∧ N.2 = M.2 := by
  have e36 : zr 35 0 = 36 := by decide +kernel
  have n36 : zn 36 = 484 := by decide +kernel
  intro c
  induction c with
  | zero =>
    intro i fuel M hi hf h
    obtain ⟨fuel, rfl⟩ : ∃ m, fuel = m + 1 := ⟨fuel - 1, by omega⟩
    rw [f_X3_begin_12, e36, n36, if_pos (by rw [show Int32.ofNat 484 = nI 484 from rfl, nI_le' (by omega) (by omega)]; omega)]
    exact ⟨M, rfl, fun x hx => h x (by omega), fun _ _ => rfl, rfl⟩
  | succ c ih =>
    intro i fuel M hi hf h
    obtain ⟨fuel, rfl⟩ : ∃ m, fuel = m + 1 := ⟨fuel - 1, by omega⟩
    rw [f_X3_begin_12, e36, n36, if_neg (by rw [show Int32.ofNat 484 = nI 484 from rfl, nI_le' (by omega) (by omega)]; omega), put_nI (by rw [n36]; omega) (by omega)]
    simp only [zletE]
    rw [nI_s]
    obtain ⟨N, e, n1, n2, n3⟩ := ih (i + 1) fuel (zi M 36 i 0) (by omega) (by omega) (fun x hx => by
      by_cases z : x = i
      · rw [z, zi_eq]
      · rw [zi_k z]; exact h x (by omega))
    exact ⟨N, e, n1, fun b hb => by rw [n2 b hb]; funext j; exact zi_ne hb, n3⟩
theorem bg36 {ws : List Int32} (hl : ws.length ≤ 21) {r : Nat} (hr : r < Ny ws 0 ws.length) (K : ZM → Option ZM) : ∀ c i fuel M, i + c = sz (Tr ws r) → c < fuel → 1 ≤ i → TC ws M (Tr ws r) → NB ws r i M → (∀ y, y < 32 → (lc (M.1 35 3) y = true ↔ y < i ∧ mk ws r y)) → M.1 35 2 = 0 → ∃ N, f_X3_begin_38 35 10 K fuel (nI i) M = K N ∧ NB ws r (sz (Tr ws r)) N ∧ (∀ y, y < 32 → (lc (N.1 35 3) y = true ↔ mk ws r y)) ∧ N.1 35 2 = 0 ∧ Fr [35, 36] M N := by
  have hsp := Tr_sp hr hl
  have hsz := sz_ln (Tr ws r)
  have e36 : zr 35 0 = 36 := by decide +kernel
  have n36 : zn 36 = 484 := by decide +kernel
  intro c
  induction c with
  | zero =>
    intro i fuel M hi hf h1 hT hN hE h2
    obtain ⟨fuel, rfl⟩ : ∃ m, fuel = m + 1 := ⟨fuel - 1, by omega⟩
    rw [f_X3_begin_38, zletE, show f_X7_size 10 M = nI (sz (Tr ws r)) from hT.1, if_pos (by rw [nI_le' (by omega) (by omega)]; omega)]
    refine ⟨M, rfl, by rw [show sz (Tr ws r) = i by omega]; exact hN, fun y hy => ?_, h2, Fr_rf _ _⟩
    rw [hE y hy]
    exact ⟨fun z => z.2, fun z => ⟨by have := z.2.1; omega, z⟩⟩
  | succ c ih =>
    intro i fuel M hi hf h1 hT hN hE h2
    obtain ⟨fuel, rfl⟩ : ∃ m, fuel = m + 1 := ⟨fuel - 1, by omega⟩
    have A := AtC_n _ 0 0 hT.2 i (by omega)
    rw [Nat.zero_add] at A
    have bd := nf_b (Tr ws r) 0 i (by omega)
    rw [f_X3_begin_38, zletE, show f_X7_size 10 M = nI (sz (Tr ws r)) from hT.1, if_neg (by rw [nI_le' (by omega) (by omega)]; omega)]
    simp only [zletE]
    rw [kind_ok (by omega), A.1, nI_s]
    have skip : ¬ mk ws r i → ∃ N, f_X3_begin_38 35 10 K fuel (nI (i + 1)) M = K N ∧ NB ws r (sz (Tr ws r)) N ∧ (∀ y, y < 32 → (lc (N.1 35 3) y = true ↔ mk ws r y)) ∧ N.1 35 2 = 0 ∧ Fr [35, 36] M N := by
      intro hn
      refine ih (i + 1) fuel M (by omega) (by omega) (by omega) hT ⟨fun y hy hm => ?_, fun x hx hm => ?_⟩ (fun y hy => ?_) h2
      · by_cases z : y = i
        · rw [z] at hm; exact absurd hm hn
        · exact hN.1 y (by omega) hm
      · exact hN.2 x hx (fun y hy hm' => hm y (by omega) hm')
      · rw [hE y hy]
        constructor
        · rintro ⟨a, b⟩; exact ⟨by omega, b⟩
        · rintro ⟨a, b⟩
          by_cases z : y = i
          · rw [z] at b; exact absurd b hn
          · exact ⟨by omega, b⟩
    by_cases q0 : nk ws 0 (Tr ws r) i = 0
    · rw [if_pos q0]; exact skip (fun z => z.2.2.1 q0)
    · rw [if_neg q0]
      by_cases q2 : nk ws 0 (Tr ws r) i = 2
      · rw [if_pos q2]; exact skip (fun z => z.2.2.2 q2)
      · have hmk : mk ws r i := ⟨h1, by omega, q0, q2⟩
        have hix : ix (nf 0 (Tr ws r) i) < 484 := by unfold ix; omega
        rw [if_neg q2, from_ok (by omega), end_ok (by omega), A.2.1, A.2.2, nI_22, e36, put_nI (by rw [n36]; exact hix) (by unfold ix at hix; omega), zi_ne (by decide)]
        obtain ⟨P, hP⟩ : ∃ P, P = zi (zi M 36 ((nf 0 (Tr ws r) i).1 * 22 + ((nf 0 (Tr ws r) i).1 + (nf 0 (Tr ws r) i).2)) (1 <<< (nI i &&& 31))) 35 3 (M.1 35 3 ||| 1 <<< (nI i &&& 31)) := ⟨_, rfl⟩
        rw [← hP]
        have FP : Fr [35, 36] M P := by rw [hP]; exact Fr_tr (Fr_zi (by decide)) (Fr_zi (by decide))
        have p36 : ∀ x, P.1 36 x = if x = ix (nf 0 (Tr ws r) i) then 1 <<< (nI i &&& 31) else M.1 36 x := by
          intro x
          rw [hP, zi_ne (by decide)]
          by_cases z : x = ix (nf 0 (Tr ws r) i)
          · rw [if_pos z, z]; exact zi_eq
          · rw [if_neg z]; exact zi_k z
        have hT' : TC ws P (Tr ws r) := by
          refine ⟨by rw [Fr_1 FP (by decide)]; exact hT.1, ?_⟩
          rw [(FP 11 (by decide)).1, (FP 12 (by decide)).1, (FP 13 (by decide)).1, (FP 14 (by decide)).1]
          exact hT.2
        have hne : ∀ y, y < i → mk ws r y → ix (nf 0 (Tr ws r) y) ≠ ix (nf 0 (Tr ws r) i) := by
          intro y hy hm e
          have by_ := nf_b (Tr ws r) 0 y hm.2.1
          have := nf_inj (Tr ws r) 0 y i hm.2.1 (by omega) (ix_inj (by omega) (by omega) e)
          omega
        obtain ⟨N, e, n1, n2, n3, F⟩ := ih (i + 1) fuel P (by omega) (by omega) (by omega) hT' ⟨fun y hy hm => by
            rw [p36]
            by_cases z : y = i
            · rw [z, if_pos rfl]
            · rw [if_neg (hne y (by omega) hm)]; exact hN.1 y (by omega) hm, fun x hx hm => by
            rw [p36, if_neg (fun z => hm i (by omega) hmk z.symm)]
            exact hN.2 x hx (fun y hy hm' => hm y (by omega) hm')⟩ (fun y hy => by
            have e3 : P.1 35 3 = M.1 35 3 ||| 1 <<< (nI i &&& 31) := by rw [hP, zi_eq]
            rw [e3, lc_or, sh1c i (by omega) y hy, Bool.or_eq_true, decide_eq_true_iff, hE y hy]
            constructor
            · rintro (⟨a, b⟩ | a)
              · exact ⟨by omega, b⟩
              · rw [a]; exact ⟨by omega, hmk⟩
            · rintro ⟨a, b⟩
              by_cases z : y = i
              · exact Or.inr z
              · exact Or.inl ⟨by omega, b⟩) (by rw [hP, zi_k (by decide), zi_ne (by decide)]; exact h2)
        exact ⟨N, e, n1, n2, n3, Fr_tr FP F⟩
/-- the state of the mender: its bits, every node that may be -/
def MD (ws : List Int32) (r : Nat) (M : ZM) : Prop := NB ws r (sz (Tr ws r)) M ∧ ∀ y, y < 32 → (lc (M.1 35 3) y = true ↔ mk ws r y)
theorem bg_ok {ws : List Int32} (hl : ws.length ≤ 21) {r : Nat} (hr : r < Ny ws 0 ws.length) {M : ZM} (hT : TC ws M (Tr ws r)) : ∃ N, f_X3_begin 35 10 M = some N ∧ MD ws r N ∧ N.1 35 2 = 0 ∧ Fr [35, 36] M N := by
  have hsp := Tr_sp hr hl
  have hsz := sz_ln (Tr ws r)
  have hs0 := sz_pos (Tr ws r)
  unfold f_X3_begin
  simp only [zletE]
  obtain ⟨N1, e1, z1, n1, n2⟩ := bg12 (fun (M : ZM) => f_X3_begin_38 35 10 (fun (M : ZM) => some M) zN 1 M) 484 0 zN (zi (zi M 35 2 0) 35 3 0) (by omega) (by unfold zN; omega) (fun x hx => by omega)
  rw [nI0] at e1
  rw [e1]
  have F1 : Fr [35, 36] M N1 := Fr_tr (Fr_tr (Fr_zi (k := 2) (v := 0) (by decide)) (Fr_zi (k := 3) (v := 0) (by decide))) (fun b hb => ⟨n1 b (fun z => hb (by rw [z]; decide)), by rw [n2]⟩)
  have hT' : TC ws N1 (Tr ws r) := by
    refine ⟨by rw [Fr_1 F1 (by decide)]; exact hT.1, ?_⟩
    rw [(F1 11 (by decide)).1, (F1 12 (by decide)).1, (F1 13 (by decide)).1, (F1 14 (by decide)).1]
    exact hT.2
  obtain ⟨N, e, m1, m2, m3, F⟩ := bg36 hl hr (fun M => some M) (sz (Tr ws r) - 1) 1 zN N1 (by omega) (by unfold zN; omega) (Nat.le_refl _) hT' ⟨fun y hy hm => by have := hm.1; omega, fun x hx _ => z1 x hx⟩ (fun y hy => by
    rw [n1 35 (by decide), zi_eq, lc_0]
    exact ⟨fun z => absurd z (by decide), fun z => by have := z.2.1; omega⟩) (by rw [n1 35 (by decide), zi_k (by decide), zi_eq])
  exact ⟨N, e, ⟨m1, m2⟩, m3, Fr_tr F1 F⟩
theorem nb_look {ws : List Int32} (hl : ws.length ≤ 21) {r : Nat} (hr : r < Ny ws 0 ws.length) {M : ZM} (h : NB ws r (sz (Tr ws r)) M) {p : Nat × Nat} (hp : p.1 + p.2 ≤ 21) {y : Nat} (hy : y < 32) : lc (M.1 36 (ix p)) y = true ↔ mk ws r y ∧ p = nf 0 (Tr ws r) y := by
  have hsp := Tr_sp hr hl
  by_cases q : ∃ z, mk ws r z ∧ p = nf 0 (Tr ws r) z
  · obtain ⟨z, hz, e⟩ := q
    have hsz := sz_ln (Tr ws r)
    have hz2 := hz.2.1
    rw [e, h.1 z hz.2.1 hz, sh1c z (by omega) y hy, decide_eq_true_iff]
    constructor
    · rintro rfl; exact ⟨hz, rfl⟩
    · rintro ⟨h1, h2⟩
      exact (nf_inj _ 0 _ _ hz.2.1 h1.2.1 h2).symm
  · rw [h.2 (ix p) (by unfold ix; omega) (fun z _ hm e => q ⟨z, hm, (ix_inj (by have := nf_b (Tr ws r) 0 z hm.2.1; omega) hp e).symm⟩), lc_0]
    exact ⟨fun z => absurd z (by decide), fun z => absurd ⟨y, z⟩ q⟩
theorem hold4 {ws : List Int32} (hl : ws.length ≤ 21) {r o : Nat} (hr : r < Ny ws 0 ws.length) (ho : o < Ny ws 0 ws.length) {M : ZM} (hM : MD ws r M) (hT : TC ws M (Tr ws o)) (K : Int32 → ZM → Option ZM) : ∀ c k fuel v, k + c = sz (Tr ws o) → c < fuel → (∀ y, y < 32 → (lc v y = true ↔ mk ws r y ∧ ∃ j, j < k ∧ nf 0 (Tr ws o) j = nf 0 (Tr ws r) y)) → ∃ w, f_X3_hold_4 35 10 K fuel v (nI k) M = K w M ∧ ∀ y, y < 32 → (lc w y = true ↔ mk ws r y ∧ hz ws r o y) := by
  have hsp := Tr_sp ho hl
  have hsz := sz_ln (Tr ws o)
  intro c
  induction c with
  | zero =>
    intro k fuel v hi hf hv
    obtain ⟨fuel, rfl⟩ : ∃ m, fuel = m + 1 := ⟨fuel - 1, by omega⟩
    rw [f_X3_hold_4, zletE, show f_X7_size 10 M = nI (sz (Tr ws o)) from hT.1, if_pos (by rw [nI_le' (by omega) (by omega)]; omega)]
    refine ⟨v, rfl, fun y hy => ?_⟩
    rw [hv y hy, show k = sz (Tr ws o) by omega]
    rfl
  | succ c ih =>
    intro k fuel v hi hf hv
    obtain ⟨fuel, rfl⟩ : ∃ m, fuel = m + 1 := ⟨fuel - 1, by omega⟩
    have A := AtC_n _ 0 0 hT.2 k (by omega)
    rw [Nat.zero_add] at A
    have bd := nf_b (Tr ws o) 0 k (by omega)
    rw [f_X3_hold_4, zletE, show f_X7_size 10 M = nI (sz (Tr ws o)) from hT.1, if_neg (by rw [nI_le' (by omega) (by omega)]; omega)]
    simp only [zletE]
    rw [from_ok (by omega), end_ok (by omega), A.2.1, A.2.2, nI_22, show zr 35 0 = 36 by decide +kernel, look_nI (by rw [show zn 36 = 484 by decide +kernel]; omega) (by omega), nI_s]
    refine ih (k + 1) fuel _ (by omega) (by omega) (fun y hy => ?_)
    have nb := nb_look hl hr hM.1 (p := nf 0 (Tr ws o) k) (by omega) hy
    rw [lc_or, Bool.or_eq_true, hv y hy]
    unfold ix at nb
    rw [nb]
    constructor
    · rintro (⟨h1, j, h2, h3⟩ | ⟨h1, h2⟩)
      · exact ⟨h1, j, by omega, h3⟩
      · exact ⟨h1, k, by omega, h2⟩
    · rintro ⟨h1, j, h2, h3⟩
      by_cases z : j = k
      · rw [z] at h3; exact Or.inr ⟨h1, h3⟩
      · exact Or.inl ⟨h1, j, by omega, h3⟩
/-- the readings of other meanings -/
noncomputable def obs (ws : List Int32) (r : Nat) : Nat → List Nat
  | 0 => []
  | i + 1 => if Me ws i = Me ws r then obs ws r i else obs ws r i ++ [i]
theorem obs_mem {ws : List Int32} {r : Nat} : ∀ i o, o ∈ obs ws r i ↔ o < i ∧ Me ws o ≠ Me ws r := by
  intro i
  induction i with
  | zero => intro o; exact ⟨fun h => absurd h List.not_mem_nil, fun h => by omega⟩
  | succ i ih =>
    intro o
    rw [obs]
    by_cases q : Me ws i = Me ws r
    · rw [if_pos q, ih]
      constructor
      · rintro ⟨a, b⟩; exact ⟨by omega, b⟩
      · rintro ⟨a, b⟩
        have : o ≠ i := fun e => b (by rw [e]; exact q)
        exact ⟨by omega, b⟩
    · rw [if_neg q, List.mem_append, List.mem_singleton, ih]
      constructor
      · rintro (⟨a, b⟩ | a)
        · exact ⟨by omega, b⟩
        · rw [a]; exact ⟨by omega, q⟩
      · rintro ⟨a, b⟩
        by_cases z : o = i
        · exact Or.inr z
        · exact Or.inl ⟨by omega, b⟩
theorem obs_len {ws : List Int32} {r : Nat} : ∀ i, (obs ws r i).length ≤ i := by
  intro i
  induction i with
  | zero => exact Nat.le_refl _
  | succ i ih =>
    rw [obs]
    split
    · omega
    · rw [List.length_append, List.length_singleton]; omega
/-- what each of them has, too -/
def SR (ws : List Int32) (r : Nat) (L : List Nat) (M : ZM) : Prop := M.1 35 2 = nI L.length ∧ ∀ k, k < L.length → ∀ y, y < 32 → (lc (M.1 37 k) y = true ↔ mk ws r y ∧ hz ws r (wn L k) y)
theorem MD_Fr {ws : List Int32} {r : Nat} {M N : ZM} (h : MD ws r M) (h1 : N.1 36 = M.1 36) (h2 : N.1 35 3 = M.1 35 3) : MD ws r N := by
  unfold MD NB at *
  rw [h1, h2]
  exact h
theorem SR_Fr {ws : List Int32} {r : Nat} {L : List Nat} {M N : ZM} (h : SR ws r L M) (h1 : N.1 37 = M.1 37) (h2 : N.1 35 2 = M.1 35 2) : SR ws r L N := by
  unfold SR at *
  rw [h1, h2]
  exact h
def dcs : List Nat := [10, 11, 12, 13, 14, 15, 16, 17, 18, 35, 37]
theorem md58 {ws : List Int32} (hl : ws.length ≤ 21) (hm : Ny ws 0 ws.length ≤ 200) {r : Nat} (hr : r < Ny ws 0 ws.length) (K : ZM → Option (Int32 × ZM)) : ∀ c o fuel M, o + c = Ny ws 0 ws.length → c < fuel → WH M 3 ws → Wy ws M → LM ws M → MD ws r M → SR ws r (obs ws r o) M → ∃ N, f_X11_mend_58 0 (nI r) K fuel (nI o) M = K N ∧ MD ws r N ∧ SR ws r (obs ws r (Ny ws 0 ws.length)) N ∧ Fr dcs M N := by
  intro c
  induction c with
  | zero =>
    intro o fuel M hi hf hs hy hL hM hS
    obtain ⟨fuel, rfl⟩ : ∃ m, fuel = m + 1 := ⟨fuel - 1, by omega⟩
    rw [f_X11_mend_58, zletE, show zr 0 5 = 19 by decide +kernel, show f_X2_size 19 M = nI (Ny ws 0 ws.length) from hL.1, if_pos (by rw [nI_le' (by omega) (by omega)]; omega)]
    exact ⟨M, rfl, hM, by rw [show Ny ws 0 ws.length = o by omega]; exact hS, Fr_rf _ _⟩
  | succ c ih =>
    intro o fuel M hi hf hs hy hL hM hS
    obtain ⟨fuel, rfl⟩ : ∃ m, fuel = m + 1 := ⟨fuel - 1, by omega⟩
    have hlen := obs_len (ws := ws) (r := r) o
    rw [f_X11_mend_58, zletE, show zr 0 5 = 19 by decide +kernel, show f_X2_size 19 M = nI (Ny ws 0 ws.length) from hL.1, if_neg (by rw [nI_le' (by omega) (by omega)]; omega)]
    simp only [zletE]
    rw [mea_ok hL hm (by omega), mea_ok hL hm hr, nI_s]
    by_cases q : Me ws o = Me ws r
    · rw [if_pos (by rw [lg_cmp_eq]; exact q)]
      exact ih (o + 1) fuel M (by omega) (by omega) hs hy hL hM (by rw [obs, if_pos q]; exact hS)
    · rw [if_neg (by rw [lg_cmp_eq]; exact q), nI_l (by omega), show zr 0 4 = 10 by decide +kernel, show zr 0 1 = 3 by decide +kernel, show zr 0 3 = 7 by decide +kernel, show zr 0 10 = 35 by decide +kernel]
      obtain ⟨N1, e1, t1, F1⟩ := grow_ok hl hs hy (show o < Ny ws 0 ws.length by omega)
      have hM1 : MD ws r N1 := MD_Fr hM (F1 36 (by decide)).1 (Fr_1 F1 (by decide) 3)
      have hS1 : SR ws r (obs ws r o) N1 := SR_Fr hS (F1 37 (by decide)).1 (Fr_1 F1 (by decide) 2)
      rw [e1, bindE]
      unfold f_X3_hold
      obtain ⟨w, e2, hw⟩ := hold4 hl hr (show o < Ny ws 0 ws.length by omega) hM1 t1 (fun (v2 : Int32) (M : ZM) =>
    zlet (f_X11_put (zr 35 1) (M.1 35 2) v2 M) fun (q8 : ZM) =>
    zlet (zi q8 35 2 ((q8.1 35 2) + 1)) fun (M9 : ZM) =>
    some M9) (sz (Tr ws o)) 0 zN 0 (by omega) (by have := sz_ln (Tr ws o); have := (Tr_sp (show o < Ny ws 0 ws.length by omega) hl).2; unfold zN; omega) (fun y _ => ⟨fun z => by rw [lc_0] at z; exact absurd z (by decide), fun ⟨_, j, hj, _⟩ => by omega⟩)
      rw [nI0] at e2
      rw [e2]
      simp only [zletE]
      rw [show zr 35 1 = 37 by decide +kernel, hS1.1, put_nI (by rw [show zn 37 = 200 by decide +kernel]; omega) (by omega), zi_ne (by decide), hS1.1, nI_s, bindE]
      obtain ⟨P, hP⟩ : ∃ P, P = zi (zi N1 37 (obs ws r o).length w) 35 2 (nI ((obs ws r o).length + 1)) := ⟨_, rfl⟩
      rw [← hP]
      have FP : Fr dcs M P := by rw [hP]; exact Fr_tr (Fr_sub F1 (by decide)) (Fr_tr (Fr_zi (by decide)) (Fr_zi (by decide)))
      have hS2 : SR ws r (obs ws r (o + 1)) P := by
        rw [obs, if_neg q]
        refine ⟨by rw [hP, zi_eq, List.length_append, List.length_singleton], fun k hk y hy' => ?_⟩
        rw [List.length_append, List.length_singleton] at hk
        rw [hP, zi_ne (by decide)]
        by_cases z : k = (obs ws r o).length
        · rw [z, zi_eq, wn_end]; exact hw y hy'
        · rw [zi_k z, wn_app (by omega)]; exact hS1.2 k (by omega) y hy'
      obtain ⟨N, e, n1, n2, F⟩ := ih (o + 1) fuel P (by omega) (by omega) (WH_Fr hs FP (by decide) (by decide +kernel)) (fun i j hi' hj' => ⟨by rw [Fr_2 FP (by decide)]; exact (hy i j hi' hj').1, by rw [Fr_2 FP (by decide)]; exact (hy i j hi' hj').2⟩) (LM_Fr hL FP (by decide) (by decide) (by decide) (by decide)) (MD_Fr hM1 (by rw [hP]; funext x; rw [zi_ne (by decide), zi_ne (by decide)]) (by rw [hP, zi_k (by decide), zi_ne (by decide)])) hS2
      exact ⟨N, e, n1, n2, Fr_tr FP F⟩
theorem shw4 {ws : List Int32} {r : Nat} {L : List Nat} {M : ZM} (hL : L.length ≤ 200) (h : SR ws r L M) (v : Int32) (C : Nat → Prop) (hC : ∀ k, k < L.length → ((M.1 37 k &&& v = v) ↔ C (wn L k))) : ∀ c k fuel x, k + c = L.length → c < fuel → (∀ y, y < 32 → (lc x y = true ↔ ∃ j, j < k ∧ C (wn L j) ∧ mk ws r y ∧ hz ws r (wn L j) y)) → ∃ w, f_X3_sharedWith_4 35 v M (fun (v2 : Int32) => some v2) fuel x (nI k) = some w ∧ ∀ y, y < 32 → (lc w y = true ↔ ∃ j, j < L.length ∧ C (wn L j) ∧ mk ws r y ∧ hz ws r (wn L j) y) := by
  intro c
  induction c with
  | zero =>
    intro k fuel x hi hf hx
    obtain ⟨fuel, rfl⟩ : ∃ m, fuel = m + 1 := ⟨fuel - 1, by omega⟩
    rw [f_X3_sharedWith_4, h.1, if_pos (by rw [nI_le' (by omega) (by omega)]; omega)]
    exact ⟨x, rfl, by rw [show L.length = k by omega]; exact hx⟩
  | succ c ih =>
    intro k fuel x hi hf hx
    obtain ⟨fuel, rfl⟩ : ∃ m, fuel = m + 1 := ⟨fuel - 1, by omega⟩
    rw [f_X3_sharedWith_4, h.1, if_neg (by rw [nI_le' (by omega) (by omega)]; omega)]
    simp only [zletE]
    rw [show zr 35 1 = 37 by decide +kernel, look_nI (by rw [show zn 37 = 200 by decide +kernel]; omega) (by omega), nI_s]
    by_cases q : C (wn L k)
    · rw [if_pos ((hC k (by omega)).mpr q)]
      refine ih (k + 1) fuel _ (by omega) (by omega) (fun y hy => ?_)
      rw [lc_or, Bool.or_eq_true, hx y hy, h.2 k (by omega) y hy]
      constructor
      · rintro (⟨j, a, b⟩ | b)
        · exact ⟨j, by omega, b⟩
        · exact ⟨k, by omega, q, b⟩
      · rintro ⟨j, a, b, b2⟩
        by_cases z : j = k
        · rw [z] at b2; exact Or.inr b2
        · exact Or.inl ⟨j, by omega, b, b2⟩
    · rw [if_neg (fun z => q ((hC k (by omega)).mp z))]
      refine ih (k + 1) fuel _ (by omega) (by omega) (fun y hy => ?_)
      rw [hx y hy]
      constructor
      · rintro ⟨j, a, b⟩; exact ⟨j, by omega, b⟩
      · rintro ⟨j, a, b, b2⟩
        have : j ≠ k := fun e => q (by rw [← e]; exact b)
        exact ⟨j, by omega, b, b2⟩
theorem sub_0 {x y : Int32} : (x &&& (y ^^^ (-1)) = 0) ↔ ∀ k, k < 32 → lc x k = true → lc y k = true := by
  have hm1 : ∀ k, k < 32 → lc (-1) k = true := by decide +kernel
  have hxr : ∀ k, lc (y ^^^ (-1)) k = (lc y k ^^ lc (-1) k) := by intro k; unfold lc; rw [Int32.toBitVec_xor, BitVec.getLsbD_xor]
  constructor
  · intro h k hk hx
    have := congrArg (fun z => lc z k) h
    simp only [lc_and, lc_0, hxr, hm1 k hk, hx] at this
    cases hy : lc y k with
    | true => rfl
    | false => rw [hy] at this; exact absurd this (by decide)
  · intro h
    apply lc_ext
    intro k hk
    rw [lc_and, lc_0, hxr, hm1 k hk]
    cases hx : lc x k with
    | false => rfl
    | true => rw [h k hk hx]; rfl
/-- readings of other meanings, all of them -/
def Oth (ws : List Int32) (r o : Nat) : Prop := o < Ny ws 0 ws.length ∧ Me ws o ≠ Me ws r
theorem oth_wn {ws : List Int32} {r o : Nat} : Oth ws r o ↔ ∃ j, j < (obs ws r (Ny ws 0 ws.length)).length ∧ wn (obs ws r (Ny ws 0 ws.length)) j = o := by
  unfold Oth
  rw [← obs_mem]
  constructor
  · intro h
    obtain ⟨i, hi, e⟩ := List.mem_iff_getElem.mp h
    exact ⟨i, hi, by rw [wn_get hi]; exact e⟩
  · rintro ⟨j, hj, rfl⟩
    exact wn_mem hj
theorem sh_and {x : Int32} {n : Nat} (h : n < 32) : (x &&& ((1 : Int32) <<< (nI n &&& 31)) = (1 : Int32) <<< (nI n &&& 31)) ↔ lc x n = true := by
  constructor
  · intro e
    have := congrArg (fun z => lc z n) e
    simp only [lc_and] at this
    rw [sh1c n h n h, decide_eq_true rfl, Bool.and_true] at this
    exact this
  · intro e
    apply lc_ext
    intro k hk
    rw [lc_and, sh1c n h k hk]
    by_cases q : k = n
    · rw [q, e]; rfl
    · rw [decide_eq_false q, Bool.and_false]
theorem sh_nz {x : Int32} {n : Nat} (h : n < 32) : (x &&& ((1 : Int32) <<< (nI n &&& 31)) = 0 ↔ lc x n = false) ∧ (lc x n = true → x &&& ((1 : Int32) <<< (nI n &&& 31)) = (1 : Int32) <<< (nI n &&& 31)) := by
  refine ⟨⟨fun e => ?_, fun e => ?_⟩, (sh_and h).mpr⟩
  · have := congrArg (fun z => lc z n) e
    simp only [lc_and, lc_0] at this
    rw [sh1c n h n h, decide_eq_true rfl, Bool.and_true] at this
    exact this
  · apply lc_ext
    intro k hk
    rw [lc_and, lc_0, sh1c n h k hk]
    by_cases q : k = n
    · rw [q, e]; rfl
    · rw [decide_eq_false q, Bool.and_false]
def W1 (ws : List Int32) (r : Nat) : Prop := ∃ y, mk ws r y ∧ ∀ o, Oth ws r o → ¬ hz ws r o y
def W2 (ws : List Int32) (r i : Nat) : Prop := mk ws r i ∧ ∃ y, mk ws r y ∧ ∀ o, Oth ws r o → ¬ (hz ws r o i ∧ hz ws r o y)
theorem shw_ok {ws : List Int32} (hl : ws.length ≤ 21) (hm : Ny ws 0 ws.length ≤ 200) {r : Nat} (hr : r < Ny ws 0 ws.length) {M : ZM} (hM : MD ws r M) (h : SR ws r (obs ws r (Ny ws 0 ws.length)) M) (v : Int32) (C : Nat → Prop) (hC : ∀ k, k < (obs ws r (Ny ws 0 ws.length)).length → ((M.1 37 k &&& v = v) ↔ C (wn (obs ws r (Ny ws 0 ws.length)) k))) : ∃ w, f_X3_sharedWith 35 v M = some w ∧ ((M.1 35 3 &&& (w ^^^ (-1)) = 0) ↔ ¬ ∃ y, mk ws r y ∧ ∀ o, Oth ws r o → ¬ (C o ∧ hz ws r o y)) := by
  have hlen := obs_len (ws := ws) (r := r) (Ny ws 0 ws.length)
  obtain ⟨w, e, hw⟩ := shw4 (by omega) h v C hC (obs ws r (Ny ws 0 ws.length)).length 0 zN 0 (by omega) (by unfold zN; omega) (fun y _ => ⟨fun z => by rw [lc_0] at z; exact absurd z (by decide), fun ⟨j, hj, _⟩ => by omega⟩)
  rw [nI0] at e
  have hsp := Tr_sp hr hl
  have hsz := sz_ln (Tr ws r)
  refine ⟨w, e, ?_⟩
  rw [sub_0]
  constructor
  · rintro h1 ⟨y, hy, h2⟩
    have hy2 := hy.2.1
    have := (hw y (by omega)).mp (h1 y (by omega) ((hM.2 y (by omega)).mpr hy))
    obtain ⟨j, hj, a, _, b⟩ := this
    exact h2 _ (oth_wn.mpr ⟨j, hj, rfl⟩) ⟨a, b⟩
  · intro h1 k hk hx
    have hmk := (hM.2 k hk).mp hx
    rw [hw k hk]
    apply Classical.byContradiction
    intro z
    apply h1
    refine ⟨k, hmk, fun o ho y => z ?_⟩
    obtain ⟨j, hj, e2⟩ := oth_wn.mp ho
    exact ⟨j, hj, by rw [e2]; exact y.1, hmk, by rw [e2]; exact y.2⟩
theorem fn28 {ws : List Int32} (hl : ws.length ≤ 21) (hm : Ny ws 0 ws.length ≤ 200) {r : Nat} (hr : r < Ny ws 0 ws.length) {M : ZM} (hM : MD ws r M) (h : SR ws r (obs ws r (Ny ws 0 ws.length)) M) : ∀ c i fuel, i + c = 21 → c < fuel → ((∃ j, i ≤ j ∧ j < 21 ∧ W2 ws r j) → f_X3_fewestNodes_28 35 M (some ((-9) : Int32)) fuel (nI i) = some 2) ∧ ((¬ ∃ j, i ≤ j ∧ j < 21 ∧ W2 ws r j) → f_X3_fewestNodes_28 35 M (some ((-9) : Int32)) fuel (nI i) = some (-9)) := by
  intro c
  induction c with
  | zero =>
    intro i fuel hi hf
    obtain ⟨fuel, rfl⟩ : ∃ m, fuel = m + 1 := ⟨fuel - 1, by omega⟩
    rw [f_X3_fewestNodes_28, if_pos (by rw [show (21 : Int32) = nI 21 from rfl, nI_le' (by omega) (by omega)]; omega)]
    exact ⟨fun ⟨j, h1, h2, _⟩ => by omega, fun _ => rfl⟩
  | succ c ih =>
    intro i fuel hi hf
    obtain ⟨fuel, rfl⟩ : ∃ m, fuel = m + 1 := ⟨fuel - 1, by omega⟩
    have t := ih (i + 1) fuel (by omega) (by omega)
    rw [f_X3_fewestNodes_28, if_neg (by rw [show (21 : Int32) = nI 21 from rfl, nI_le' (by omega) (by omega)]; omega)]
    simp only [zletE]
    rw [nI_s]
    have skip : ¬ W2 ws r i → ((∃ j, i ≤ j ∧ j < 21 ∧ W2 ws r j) ↔ (∃ j, i + 1 ≤ j ∧ j < 21 ∧ W2 ws r j)) := by
      intro hn
      constructor
      · rintro ⟨j, a, b⟩
        have : j ≠ i := fun e => hn (by rw [← e]; exact b.2)
        exact ⟨j, by omega, b⟩
      · rintro ⟨j, a, b⟩; exact ⟨j, by omega, b⟩
    have sn := sh_nz (x := M.1 35 3) (show i < 32 by omega)
    by_cases q : mk ws r i
    · have hb := (hM.2 i (by omega)).mpr q
      rw [sn.2 hb, if_neg (by rw [← sn.2 hb, sn.1, hb]; decide)]
      obtain ⟨w, e, hw⟩ := shw_ok hl hm hr hM h (1 <<< (nI i &&& 31)) (fun o => hz ws r o i) (fun k hk => by
        rw [sh_and (by omega), h.2 k hk i (by omega)]
        exact ⟨fun z => z.2, fun z => ⟨q, z⟩⟩)
      rw [e, bindE]
      by_cases z : W2 ws r i
      · rw [if_neg (by rw [hw]; exact fun y => y z.2)]
        exact ⟨fun _ => rfl, fun y => absurd ⟨i, Nat.le_refl _, by omega, z⟩ y⟩
      · rw [if_pos (hw.mpr (fun y => z ⟨q, y⟩)), skip z]
        exact t
    · have hb : lc (M.1 35 3) i = false := by
        cases z : lc (M.1 35 3) i with
        | false => rfl
        | true => exact absurd ((hM.2 i (by omega)).mp z) q
      rw [if_pos (sn.1.mpr hb), skip (fun z => q z.1)]
      exact t
theorem fn_ok {ws : List Int32} (hl : ws.length ≤ 21) (hm : Ny ws 0 ws.length ≤ 200) {r : Nat} (hr : r < Ny ws 0 ws.length) {M : ZM} (hM : MD ws r M) (h : SR ws r (obs ws r (Ny ws 0 ws.length)) M) : ((¬ ∃ o, Oth ws r o) → f_X3_fewestNodes 35 M = some 0) ∧ ((∃ o, Oth ws r o) → W1 ws r → f_X3_fewestNodes 35 M = some 1) ∧ ((∃ o, Oth ws r o) → ¬ W1 ws r → (∃ i, W2 ws r i) → f_X3_fewestNodes 35 M = some 2) ∧ ((∃ o, Oth ws r o) → ¬ W1 ws r → (¬ ∃ i, W2 ws r i) → f_X3_fewestNodes 35 M = some (-9)) := by
  have hlen := obs_len (ws := ws) (r := r) (Ny ws 0 ws.length)
  have hsp := Tr_sp hr hl
  have hsz := sz_ln (Tr ws r)
  unfold f_X3_fewestNodes
  rw [h.1]
  obtain ⟨w, e, hw⟩ := shw_ok hl hm hr hM h 0 (fun _ => True) (fun k hk => ⟨fun _ => trivial, fun _ => by rw [Int32.and_zero]⟩)
  have hW1 : (M.1 35 3 &&& (w ^^^ (-1)) = 0) ↔ ¬ W1 ws r := by
    rw [hw]
    constructor
    · rintro z ⟨y, a, b⟩; exact z ⟨y, a, fun o ho c => b o ho c.2⟩
    · rintro z ⟨y, a, b⟩; exact z ⟨y, a, fun o ho c => b o ho ⟨trivial, c⟩⟩
  have t := fn28 hl hm hr hM h 21 0 zN (by omega) (by unfold zN; omega)
  rw [nI0] at t
  have hE : (∃ o, Oth ws r o) ↔ ¬ (obs ws r (Ny ws 0 ws.length)).length = 0 := by
    constructor
    · rintro ⟨o, ho⟩ z
      obtain ⟨j, hj, _⟩ := oth_wn.mp ho
      omega
    · intro z
      exact ⟨_, oth_wn.mpr ⟨0, by omega, rfl⟩⟩
  have w2b : (∃ i, W2 ws r i) ↔ ∃ j, 0 ≤ j ∧ j < 21 ∧ W2 ws r j := by
    constructor
    · rintro ⟨i, hi⟩; exact ⟨i, Nat.zero_le _, by have := hi.1.2.1; omega, hi⟩
    · rintro ⟨i, _, _, hi⟩; exact ⟨i, hi⟩
  refine ⟨fun z => ?_, fun z a => ?_, fun z a b => ?_, fun z a b => ?_⟩
  · rw [hE] at z
    rw [if_pos (by rw [Classical.not_not.mp z, nI0])]
  · rw [hE] at z
    rw [if_neg (by rw [← nI0, nI_inj (by omega) (by omega)]; exact z), e, bindE, if_neg (by rw [hW1]; exact fun y => y a)]
  · rw [hE] at z
    rw [if_neg (by rw [← nI0, nI_inj (by omega) (by omega)]; exact z), e, bindE, if_pos (hW1.mpr a)]
    exact t.1 (w2b.mp b)
  · rw [hE] at z
    rw [if_neg (by rw [← nI0, nI_inj (by omega) (by omega)]; exact z), e, bindE, if_pos (hW1.mpr a)]
    exact t.2 (fun y => b (w2b.mpr y))
