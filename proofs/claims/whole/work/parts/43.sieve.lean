def wn (l : List Nat) (i : Nat) : Nat := l.getD i 0
theorem wn_app {l : List Nat} {v k : Nat} (h : k < l.length) : wn (l ++ [v]) k = wn l k := by
  unfold wn
  rw [List.getD_eq_getElem?_getD, List.getD_eq_getElem?_getD, List.getElem?_append_left h]
theorem wn_end {l : List Nat} {v : Nat} : wn (l ++ [v]) l.length = v := by
  unfold wn
  rw [List.getD_eq_getElem?_getD, List.getElem?_append_right (Nat.le_refl _), Nat.sub_self]
  rfl
theorem wn_get {l : List Nat} {i : Nat} (h : i < l.length) : wn l i = l[i] := by
  unfold wn
  rw [List.getD_eq_getElem?_getD, List.getElem?_eq_getElem h]
  rfl
theorem wn_mem {l : List Nat} {i : Nat} (h : i < l.length) : wn l i ∈ l := by
  rw [wn_get h]
  exact List.getElem_mem h
theorem wn_take {l : List Nat} {i : Nat} (h : i < l.length) : l.take i ++ [wn l i] = l.take (i + 1) := by
  rw [List.take_succ, List.getElem?_eq_getElem h, wn_get h]
  rfl
def sL (m : Nat) (p : Nat → Bool) : List Nat := (List.range m).filter p
theorem sL_len (m : Nat) (p : Nat → Bool) : (sL m p).length ≤ m := by
  have := List.length_filter_le p (List.range m)
  rw [List.length_range] at this
  exact this
theorem sL_mem {m : Nat} {p : Nat → Bool} {r : Nat} : r ∈ sL m p ↔ r < m ∧ p r = true := by
  unfold sL
  rw [List.mem_filter, List.mem_range]
theorem sL_true (m : Nat) : sL m (fun _ => true) = List.range m := by
  unfold sL
  exact List.filter_eq_self.mpr (fun _ _ => rfl)
theorem sL_ff {m : Nat} {p q : Nat → Bool} : (sL m p).filter q = sL m (fun a => q a && p a) := by
  unfold sL
  rw [List.filter_filter]
theorem sL_eq {m : Nat} {p q : Nat → Bool} : sL m p = sL m q ↔ ∀ r, r < m → p r = q r := by
  constructor
  · intro h r hr
    have h1 : r ∈ sL m p ↔ r ∈ sL m q := by rw [h]
    rw [sL_mem, sL_mem] at h1
    cases hp : p r <;> cases hq : q r
    · rfl
    · exact absurd (h1.mpr ⟨hr, hq⟩).2 (by rw [hp]; decide)
    · exact absurd (h1.mp ⟨hr, hp⟩).2 (by rw [hq]; decide)
    · rfl
  · intro h
    unfold sL
    exact List.filter_congr (fun r hr => h r (List.mem_range.mp hr))
/-- what a rule leaves over, and how many were passed over -/
noncomputable def sfp (ws : List Int32) (m k : Nat) (s : (Nat → Bool) × Nat) : (Nat → Bool) × Nat := if (List.range m).any (fun r => s.1 r && mt ws r k) = true then ((fun a => mt ws a k && s.1 a), s.2) else (s.1, s.2 + 1)
noncomputable def svp (ws : List Int32) (m : Nat) (od : List Int32) (sk : Nat → Bool) : Nat → (Nat → Bool) × Nat
  | 0 => ((fun _ => true), 0)
  | i + 1 => if sk i = true then svp ws m od sk i else sfp ws m (wa od i).toNatClampNeg (svp ws m od sk i)
theorem svp_c {ws : List Int32} {m : Nat} {od : List Int32} {sk sk' : Nat → Bool} : ∀ i, (∀ j, j < i → sk j = sk' j) → svp ws m od sk i = svp ws m od sk' i := by
  intro i
  induction i with
  | zero => intro _; rfl
  | succ i ih =>
    intro h
    rw [svp, svp, ih (fun j hj => h j (by omega)), h i (by omega)]
theorem svp_2 {ws : List Int32} {m : Nat} {od : List Int32} {sk : Nat → Bool} : ∀ i, (svp ws m od sk i).2 ≤ i := by
  intro i
  induction i with
  | zero => exact Nat.le_refl _
  | succ i ih =>
    rw [svp]
    split
    · omega
    · unfold sfp
      split
      · simp only []; omega
      · simp only []; omega
theorem any_ff {ws : List Int32} {m k : Nat} {p : Nat → Bool} : (List.range m).any (fun r => p r && mt ws r k) = true ↔ ¬ (sL m p).filter (fun a => mt ws a k) = [] := by
  rw [List.any_eq_true]
  constructor
  · rintro ⟨r, hr, e⟩ h
    rw [Bool.and_eq_true] at e
    have : r ∈ (sL m p).filter (fun a => mt ws a k) := List.mem_filter.mpr ⟨sL_mem.mpr ⟨List.mem_range.mp hr, e.1⟩, e.2⟩
    rw [h] at this
    exact absurd this List.not_mem_nil
  · intro h
    cases e : (sL m p).filter (fun a => mt ws a k) with
    | nil => exact absurd e h
    | cons r l =>
      have : r ∈ (sL m p).filter (fun a => mt ws a k) := by rw [e]; exact List.mem_cons_self ..
      rw [List.mem_filter, sL_mem] at this
      exact ⟨r, List.mem_range.mpr this.1.1, by rw [Bool.and_eq_true]; exact ⟨this.1.2, this.2⟩⟩
/-! the first: a row of those kept -/
def SA (M : ZM) (t r m : Nat) (s : (Nat → Bool) × Nat) : Prop := M.1 t 1 = nI (sL m s.1).length ∧ (∀ k, k < (sL m s.1).length → M.1 r k = nI (wn (sL m s.1) k)) ∧ M.1 t 2 = nI s.2
def SG (t r : Nat) : Prop := zr t 0 = r ∧ zn r = 200 ∧ r ≠ t ∧ (∀ b, b ∈ [19, 24, 25, 26, 29, 30] → b ∉ [t, r]) ∧ t ∈ sc1 ∧ r ∈ sc1
theorem SG31 : SG 31 32 := ⟨by decide +kernel, by decide +kernel, by decide, by decide, by decide, by decide⟩
theorem SG33 : SG 33 34 := ⟨by decide +kernel, by decide +kernel, by decide, by decide, by decide, by decide⟩
theorem km5 {ws : List Int32} {t r : Nat} (g : SG t r) (hm : Ny ws 0 ws.length ≤ 200) {k : Nat} (hk : k < 6) (K : Int32 → ZM → Option ZM) {L : List Nat} (hL : L.length ≤ 200) (hLm : ∀ x, x ∈ L → x < Ny ws 0 ws.length) : ∀ c i fuel M, i + c = L.length → c < fuel → M.1 t 1 = nI L.length → (∀ j, i ≤ j → j < L.length → M.1 r j = nI (wn L j)) → (∀ j, j < ((L.take i).filter (fun a => mt ws a k)).length → M.1 r j = nI (wn ((L.take i).filter (fun a => mt ws a k)) j)) → ((L.take i).filter (fun a => mt ws a k) = [] → ∀ j, j < L.length → M.1 r j = nI (wn L j)) → LM ws M → ∃ N, f_X6_keepMet_5 t 19 (nI k) K fuel (nI ((L.take i).filter (fun a => mt ws a k)).length) (nI i) M = K (nI (L.filter (fun a => mt ws a k)).length) N ∧ (∀ j, j < (L.filter (fun a => mt ws a k)).length → N.1 r j = nI (wn (L.filter (fun a => mt ws a k)) j)) ∧ (L.filter (fun a => mt ws a k) = [] → ∀ j, j < L.length → N.1 r j = nI (wn L j)) ∧ (∀ b, b ≠ r → N.1 b = M.1 b) ∧ N.2 = M.2 := by
  intro c
  induction c with
  | zero =>
    intro i fuel M hi hf h1 h2 h3 h4 hLM
    obtain ⟨fuel, rfl⟩ : ∃ m, fuel = m + 1 := ⟨fuel - 1, by omega⟩
    rw [f_X6_keepMet_5, h1, if_pos (by rw [nI_le' (by omega) (by omega)]; omega)]
    rw [List.take_of_length_le (by omega)] at h3 h4 ⊢
    exact ⟨M, rfl, h3, h4, fun _ _ => rfl, rfl⟩
  | succ c ih =>
    intro i fuel M hi hf h1 h2 h3 h4 hLM
    obtain ⟨fuel, rfl⟩ : ∃ m, fuel = m + 1 := ⟨fuel - 1, by omega⟩
    have hx := hLm _ (wn_mem (show i < L.length by omega))
    have hat : f_X6_at t (nI i) M = nI (wn L i) := by
      unfold f_X6_at
      rw [zletE, g.1, look_nI (by rw [g.2.1]; omega) (by omega), h2 i (Nat.le_refl _) (by omega)]
    have hfl : ((L.take i).filter (fun a => mt ws a k)).length ≤ i := Nat.le_trans (List.length_filter_le _ _) (by rw [List.length_take]; omega)
    rw [f_X6_keepMet_5, h1, if_neg (by rw [nI_le' (by omega) (by omega)]; omega)]
    simp only [zletE]
    rw [hat, isMet_ok hLM hm hx hk, nI_s, nI_s]
    have hts : (L.take (i + 1)).filter (fun a => mt ws a k) = (L.take i).filter (fun a => mt ws a k) ++ (if mt ws (wn L i) k = true then [wn L i] else []) := by
      rw [← wn_take (by omega), List.filter_append]
      congr 1
      cases h : mt ws (wn L i) k <;> simp [List.filter_cons, h]
    have t' := ih (i + 1) fuel
    rw [hts] at t'
    cases h : mt ws (wn L i) k with
    | false =>
      rw [h, if_neg (by decide), List.append_nil] at t'
      rw [if_pos (by decide)]
      exact t' M (by omega) (by omega) h1 (fun j hj hj' => h2 j (by omega) hj') h3 h4 hLM
    | true =>
      rw [h, if_pos rfl, List.length_append, List.length_singleton] at t'
      rw [if_pos rfl, if_neg (by decide), g.1, put_nI (by rw [g.2.1]; omega) (by omega)]
      have gb := fun b hb => (g.2.2.2.1 b hb)
      have F1 : Fr [t, r] M (zi M r ((L.take i).filter (fun a => mt ws a k)).length (nI (wn L i))) := Fr_zi (List.mem_cons_of_mem _ (List.mem_cons_self ..))
      obtain ⟨N, e, n1, n2, n3, n4⟩ := t' (zi M r ((L.take i).filter (fun a => mt ws a k)).length (nI (wn L i))) (by omega) (by omega) (by rw [zi_ne (Ne.symm g.2.2.1)]; exact h1) (fun j hj hj' => by rw [zi_k (by omega)]; exact h2 j (by omega) hj') (fun j hj => by
        by_cases z : j = ((L.take i).filter (fun a => mt ws a k)).length
        · rw [z, zi_eq, wn_end]
        · rw [zi_k z, wn_app (by omega)]; exact h3 j (by omega)) (fun z => absurd (List.append_eq_nil_iff.mp z).2 (by simp)) (LM_Fr hLM F1 (gb 19 (by decide)) (gb 24 (by decide)) (gb 25 (by decide)) (gb 26 (by decide)))
      exact ⟨N, e, n1, n2, fun b hb => by rw [n3 b hb]; funext j; exact zi_ne hb, n4⟩
theorem km_ok {ws : List Int32} {t r : Nat} (g : SG t r) (hm : Ny ws 0 ws.length ≤ 200) {k : Nat} (hk : k < 6) {M : ZM} {s : (Nat → Bool) × Nat} (hS : SA M t r (Ny ws 0 ws.length) s) (hLM : LM ws M) : ∃ N, f_X6_keepMet t 19 (nI k) M = some N ∧ SA N t r (Ny ws 0 ws.length) (sfp ws (Ny ws 0 ws.length) k s) ∧ Fr [t, r] M N := by
  have hlen := sL_len (Ny ws 0 ws.length) s.1
  have gb := fun b hb => (g.2.2.2.1 b hb)
  unfold f_X6_keepMet
  simp only [zletE]
  obtain ⟨N, e, n1, n2, n3, n4⟩ := km5 g hm hk (fun (v3 : Int32) (M : ZM) =>
    if v3 = 0 then (
      some (zi M t 2 ((M.1 t 2) + 1))) else (
      some (zi M t 1 v3))) (L := sL (Ny ws 0 ws.length) s.1) (by omega) (fun x hx => (sL_mem.mp hx).1) (sL (Ny ws 0 ws.length) s.1).length 0 zN M (by omega) (by unfold zN; omega) hS.1 (fun j _ hj => hS.2.1 j hj) (fun j hj => absurd hj (Nat.not_lt_zero _)) (fun _ => hS.2.1) hLM
  rw [List.take_zero, show (([] : List Nat).filter (fun a => mt ws a k)).length = 0 from rfl, nI0] at e
  rw [e]
  have hfl : ((sL (Ny ws 0 ws.length) s.1).filter (fun a => mt ws a k)).length ≤ (sL (Ny ws 0 ws.length) s.1).length := List.length_filter_le _ _
  have FN : Fr [t, r] M N := fun b hb => ⟨n3 b (fun z => hb (z ▸ List.mem_cons_of_mem _ (List.mem_cons_self ..))), by rw [n4]⟩
  unfold sfp
  by_cases q : (sL (Ny ws 0 ws.length) s.1).filter (fun a => mt ws a k) = []
  · rw [if_neg (fun z => any_ff.mp z q), if_pos (by rw [q]; exact nI0)]
    refine ⟨_, rfl, ⟨?_, fun j hj => ?_, ?_⟩, Fr_tr FN (Fr_zi (List.mem_cons_self ..))⟩
    · rw [zi_k (by decide), n3 t (Ne.symm g.2.2.1)]; exact hS.1
    · rw [zi_ne g.2.2.1]; exact n2 q j hj
    · rw [zi_eq, n3 t (Ne.symm g.2.2.1), hS.2.2, nI_s]
  · have hpos : 0 < ((sL (Ny ws 0 ws.length) s.1).filter (fun a => mt ws a k)).length := List.length_pos_iff.mpr q
    rw [if_pos (any_ff.mpr q), if_neg (by rw [← nI0, nI_inj (by omega) (by omega)]; omega)]
    rw [sL_ff] at n1 ⊢
    refine ⟨_, rfl, ⟨zi_eq, fun j hj => ?_, ?_⟩, Fr_tr FN (Fr_zi (List.mem_cons_self ..))⟩
    · rw [zi_ne g.2.2.1]; exact n1 j hj
    · rw [zi_k (by decide), n3 t (Ne.symm g.2.2.1)]; exact hS.2.2
theorem si16 {t r : Nat} (g : SG t r) (v : Int32) (K : ZM → Option ZM) {m : Nat} (hm : m ≤ 200) : ∀ c i fuel M, i + c = m → c < fuel → M.1 t 1 = nI m → (∀ j, j < i → M.1 r j = nI j) → ∃ N, f_X6_sift_16 t 19 29 v K fuel (nI i) M = K N ∧ (∀ j, j < m → N.1 r j = nI j) ∧ (∀ b, b ≠ r → N.1 b = M.1 b) ∧ N.2 = M.2 := by
  intro c
  induction c with
  | zero =>
    intro i fuel M hi hf h1 h2
    obtain ⟨fuel, rfl⟩ : ∃ m, fuel = m + 1 := ⟨fuel - 1, by omega⟩
    rw [f_X6_sift_16, h1, if_pos (by rw [nI_le' (by omega) (by omega)]; omega)]
    exact ⟨M, rfl, fun j hj => h2 j (by omega), fun _ _ => rfl, rfl⟩
  | succ c ih =>
    intro i fuel M hi hf h1 h2
    obtain ⟨fuel, rfl⟩ : ∃ m, fuel = m + 1 := ⟨fuel - 1, by omega⟩
    rw [f_X6_sift_16, h1, if_neg (by rw [nI_le' (by omega) (by omega)]; omega), g.1, put_nI (by rw [g.2.1]; omega) (by omega)]
    simp only [zletE]
    rw [nI_s]
    obtain ⟨N, e, n1, n2, n3⟩ := ih (i + 1) fuel (zi M r i (nI i)) (by omega) (by omega) (by rw [zi_ne (Ne.symm g.2.2.1)]; exact h1) (fun j hj => by
      by_cases z : j = i
      · rw [z, zi_eq]
      · rw [zi_k z]; exact h2 j (by omega))
    exact ⟨N, e, n1, fun b hb => by rw [n2 b hb]; funext j; exact zi_ne hb, n3⟩
theorem si45 {ws od : List Int32} {t r : Nat} (g : SG t r) (hm : Ny ws 0 ws.length ≤ 200) (ho : oko od) (v : Int32) (K : ZM → Option ZM) : ∀ c i fuel M, i + c = od.length → c < fuel → LH M 29 1 30 od → LM ws M → SA M t r (Ny ws 0 ws.length) (svp ws (Ny ws 0 ws.length) od (fun j => decide (wa od j = v)) i) → ∃ N, f_X6_sift_45 t 19 29 v K fuel (nI i) M = K N ∧ SA N t r (Ny ws 0 ws.length) (svp ws (Ny ws 0 ws.length) od (fun j => decide (wa od j = v)) od.length) ∧ Fr [t, r] M N := by
  have gb := fun b hb => (g.2.2.2.1 b hb)
  intro c
  induction c with
  | zero =>
    intro i fuel M hi hf hO hLM hS
    obtain ⟨fuel, rfl⟩ : ∃ m, fuel = m + 1 := ⟨fuel - 1, by omega⟩
    have := ho.1
    rw [f_X6_sift_45, zletE, show f_X4_size 29 M = nI od.length from hO.1, if_pos (by rw [nI_le' (by omega) (by omega)]; omega)]
    exact ⟨M, rfl, by rw [show od.length = i by omega]; exact hS, Fr_rf _ _⟩
  | succ c ih =>
    intro i fuel M hi hf hO hLM hS
    obtain ⟨fuel, rfl⟩ : ∃ m, fuel = m + 1 := ⟨fuel - 1, by omega⟩
    have := ho.1
    obtain ⟨k, hk, ek⟩ := ho.2.2 _ (wa_mem (show i < od.length by omega))
    have hat : f_X4_at 29 (nI i) M = wa od i := by
      unfold f_X4_at
      rw [zletE, show zr 29 0 = 30 by decide +kernel, look_nI (by rw [show zn 30 = 6 by decide +kernel]; omega) (by omega), hO.2 i (by omega)]
    rw [f_X6_sift_45, zletE, show f_X4_size 29 M = nI od.length from hO.1, if_neg (by rw [nI_le' (by omega) (by omega)]; omega)]
    simp only [zletE]
    rw [hat, nI_s]
    have t' := ih (i + 1) fuel
    rw [svp] at t'
    by_cases q : wa od i = v
    · rw [if_pos q]
      rw [if_pos (decide_eq_true q)] at t'
      exact t' M (by omega) (by omega) hO hLM hS
    · rw [if_neg q, ek]
      rw [if_neg (by rw [decide_eq_false q]; decide), ek, nI_tn (by omega)] at t'
      obtain ⟨N, e, n1, F1⟩ := km_ok g hm hk hS hLM
      rw [e, bindE]
      obtain ⟨P, e2, p1, F2⟩ := t' N (by omega) (by omega) (LH_Fr hO F1 (gb 29 (by decide)) (gb 30 (by decide))) (LM_Fr hLM F1 (gb 19 (by decide)) (gb 24 (by decide)) (gb 25 (by decide)) (gb 26 (by decide))) n1
      exact ⟨P, e2, p1, Fr_tr F1 F2⟩
theorem sift_ok {ws od : List Int32} {t r : Nat} (g : SG t r) (hm : Ny ws 0 ws.length ≤ 200) (ho : oko od) (v : Int32) {M : ZM} (hO : LH M 29 1 30 od) (hLM : LM ws M) : ∃ N, f_X6_sift t 19 29 v M = some N ∧ SA N t r (Ny ws 0 ws.length) (svp ws (Ny ws 0 ws.length) od (fun j => decide (wa od j = v)) od.length) ∧ Fr [t, r] M N := by
  have gb := fun b hb => (g.2.2.2.1 b hb)
  unfold f_X6_sift
  simp only [zletE]
  have F0 : Fr [t, r] M (zi (zi M t 2 0) t 1 (nI (Ny ws 0 ws.length))) := Fr_tr (Fr_zi (List.mem_cons_self ..)) (Fr_zi (List.mem_cons_self ..))
  have hsz : f_X2_size 19 (zi M t 2 0) = nI (Ny ws 0 ws.length) := by
    have : f_X2_size 19 (zi M t 2 0) = M.1 19 4 := zi_ne (fun e => gb 19 (by decide) (e ▸ List.mem_cons_self ..))
    rw [this]; exact hLM.1
  rw [hsz]
  obtain ⟨N1, e1, n1, n2, n3⟩ := si16 g v (fun (M : ZM) => f_X6_sift_45 t 19 29 v (fun (M : ZM) => some M) zN 0 M) hm (Ny ws 0 ws.length) 0 zN (zi (zi M t 2 0) t 1 (nI (Ny ws 0 ws.length))) (by omega) (by unfold zN; omega) zi_eq (fun j hj => by omega)
  rw [nI0] at e1
  rw [e1]
  have F1 : Fr [t, r] M N1 := Fr_tr F0 (fun b hb => ⟨n2 b (fun z => hb (z ▸ List.mem_cons_of_mem _ (List.mem_cons_self ..))), by rw [n3]⟩)
  have hS : SA N1 t r (Ny ws 0 ws.length) (svp ws (Ny ws 0 ws.length) od (fun j => decide (wa od j = v)) 0) := by
    rw [svp]
    unfold SA
    simp only []
    rw [sL_true, List.length_range]
    refine ⟨by rw [n2 t (Ne.symm g.2.2.1), zi_eq], fun k hk => ?_, by rw [n2 t (Ne.symm g.2.2.1), zi_k (by decide), zi_eq, nI0]⟩
    rw [n1 k hk]
    unfold wn
    rw [List.getD_eq_getElem?_getD, List.getElem?_range hk]
    rfl
  obtain ⟨N2, e2, s2, F2⟩ := si45 g hm ho v (fun M => some M) od.length 0 zN N1 (by omega) (by have := ho.1; unfold zN; omega) (LH_Fr hO F1 (gb 29 (by decide)) (gb 30 (by decide))) (LM_Fr hLM F1 (gb 19 (by decide)) (gb 24 (by decide)) (gb 25 (by decide)) (gb 26 (by decide))) hS
  rw [nI0] at e2
  exact ⟨N2, e2, s2, Fr_tr F1 F2⟩
