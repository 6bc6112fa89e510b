theorem zletE {α β : Type} (a : α) (f : α → β) : zlet a f = f a := by rw [zlet]
theorem bindE {α β : Type} (a : α) (f : α → Option β) : (some a).bind f = f a := by rw [Option.bind_some]
theorem nI0 : nI 0 = 0 := by decide +kernel
theorem nI0m : ¬ (0 : Int32) ≤ nI 0 + (-1) := by decide +kernel
theorem close4_ok {t : Nat} (g : WG t) {ws : List Int32} (hl : ws.length ≤ 21) {M : ZM} (h : WH M t ws) : ∀ c i fuel o, i + c = ws.length → c < fuel → o + c ≤ 100 → f_X10_closeAfter_4 t M (some (M.1 t 1)) fuel (nI o) (nI i) = some (nI (clf ws c o i)) := by
  intro c
  induction c with
  | zero =>
    intro i fuel o hi hf ho
    obtain ⟨fuel, rfl⟩ : ∃ m, fuel = m + 1 := ⟨fuel - 1, by omega⟩
    rw [f_X10_closeAfter_4, h.1]
    simp only [zletE]
    rw [if_pos (by rw [nI_le' (by omega) (by omega)]; omega), clf, show i = ws.length by omega]
  | succ c ih =>
    intro i fuel o hi hf ho
    obtain ⟨fuel, rfl⟩ : ∃ m, fuel = m + 1 := ⟨fuel - 1, by omega⟩
    rw [f_X10_closeAfter_4]
    simp only [zletE]
    have hw : f_X11_look (zr t 0) (nI i) M = wa ws i := by
      rw [look_nI (by rw [g.1]; omega) (by omega)]; exact h.2 i (by omega)
    rw [hw, if_neg (by rw [h.1, nI_le' (by omega) (by omega)]; omega), clf, nI_s, nI_s]
    by_cases h40 : wa ws i = 40
    · rw [if_pos h40, if_pos h40, if_pos (nI_pos' (by omega))]
      exact ih (i + 1) fuel (o + 1) (by omega) (by omega) (by omega)
    · rw [if_neg h40, if_neg h40]
      by_cases h41 : wa ws i = 41
      · rw [if_pos h41, if_pos h41]
        by_cases q : o = 0
        · subst q
          rw [if_neg nI0m, if_pos rfl]
        · rw [nI_m1 (by omega), if_pos (nI_pos' (by omega)), if_neg q]
          exact ih (i + 1) fuel (o - 1) (by omega) (by omega) (by omega)
      · rw [if_neg h41, if_neg h41, if_pos (nI_pos' (by omega))]
        exact ih (i + 1) fuel o (by omega) (by omega) (by omega)
theorem close_ok {t : Nat} (g : WG t) {ws : List Int32} (hl : ws.length ≤ 21) {M : ZM} (h : WH M t ws) {p : Nat} (hp : p ≤ ws.length) : f_X10_closeAfter t (nI p) M = some (nI (clo ws p)) := by
  unfold f_X10_closeAfter clo
  rw [← nI0]
  exact close4_ok g hl h (ws.length - p) p zN 0 (by omega) (by unfold zN; omega) (by omega)
/-- the ways of all runs, in the rows 8 and 9 -/
def Wk (ws : List Int32) (M : ZM) (i j : Nat) : Prop := M.2 8 (i * 22 + j) = lN (Ny ws i j) ∧ M.2 9 (i * 22 + j) = lN (Fy ws i j)
def Wd (M : ZM) : Prop := ∀ i, i ≤ 21 → M.2 8 (i * 22 + i) = 0
def Wy (ws : List Int32) (M : ZM) : Prop := ∀ i j, i < j → j ≤ ws.length → Wk ws M i j
theorem num_ok {i j : Nat} {M : ZM} (h : i * 22 + j < 484) : f_X9_number 7 (nI i) (nI j) M = M.2 8 (i * 22 + j) := by
  unfold f_X9_number
  simp only [zletE]
  rw [nI_22, show zr 7 0 = 8 by decide +kernel, lookl_nI (by rw [show zn 8 = 484 by decide +kernel]; exact h) (by omega)]
theorem front_ok {i j : Nat} {M : ZM} (h : i * 22 + j < 484) : f_X9_frontNumber 7 (nI i) (nI j) M = M.2 9 (i * 22 + j) := by
  unfold f_X9_frontNumber
  simp only [zletE]
  rw [nI_22, show zr 7 1 = 9 by decide +kernel, lookl_nI (by rw [show zn 9 = 484 by decide +kernel]; exact h) (by omega)]
theorem lN0 : lN 0 = 0 := by decide +kernel
theorem lN1 : lN 1 = 1 := by decide +kernel
theorem fronted_ok {ws : List Int32} {M : ZM} {i j : Nat} (hl : ws.length ≤ 21) (hij : i < j) (hq : j ≤ ws.length) (hd : Wd M) (h1 : ∀ b, i + 1 < b → b ≤ ws.length → Wk ws M (i + 1) b) : f_X9_fronted 7 (kd (wa ws i)) (nI i) (nI j) (nI (clo ws (i + 1))) M = lN (Fy ws i j) := by
  have hN : ∀ b, i + 1 ≤ b → b ≤ ws.length → f_X9_number 7 (nI (i + 1)) (nI b) M = lN (Ny ws (i + 1) b) := by
    intro b hb hb'
    rw [num_ok (by omega)]
    by_cases q : i + 1 = b
    · subst q
      rw [hd _ (by omega), Ny_0 (by omega), lN0]
    · exact (h1 b (by omega) hb').1
  have hc := clo_le (ws := ws) (p := i + 1) (by omega)
  unfold f_X9_fronted Fy fyg
  simp only [zletE]
  rw [nI_s]
  by_cases h0 : kd (wa ws i) = 0
  · rw [if_pos h0, if_pos h0]
    by_cases q : j = i + 1
    · rw [if_pos (by rw [q]), if_pos q, lN1]
    · rw [if_neg (by rw [nI_inj (by omega) (by omega)]; exact q), if_neg q, lN0]
  · rw [if_neg h0, if_neg h0]
    by_cases h1 : kd (wa ws i) = 1
    · rw [if_pos h1, if_pos h1]; exact hN j (by omega) hq
    · rw [if_neg h1, if_neg h1]
      by_cases h2 : kd (wa ws i) = 2
      · rw [if_pos h2, if_pos h2, nI_p (by omega)]
        by_cases q : clo ws (i + 1) + 1 = j
        · rw [if_pos (by rw [show j - 1 = clo ws (i + 1) by omega]), if_pos q, show j - 1 = clo ws (i + 1) by omega]
          exact hN _ hc.1 hc.2
        · rw [if_neg (by rw [nI_inj (by omega) (by omega)]; omega), if_neg q, lN0]
      · rw [if_neg h2, if_neg h2, lN0]
theorem parted8_ok {ws : List Int32} {M : ZM} {i j : Nat} (hl : ws.length ≤ 21) (hij : i < j) (hq : j ≤ ws.length) (hs : WH M 3 ws) (h1 : ∀ b, i < b → b < j → Wk ws M i b) (h2 : ∀ a b, i < a → a < b → b ≤ ws.length → Wk ws M a b) : ∀ c k fuel s, i < k → k ≤ 100 → j - 1 - k = c → c < fuel → f_X9_parted_8 7 3 (nI i) (nI j) M (fun (v4 : Int64) => some v4) fuel (lN s) (nI k) = some (lN (s + sm (hj ws i j) k c)) := by
  intro c
  induction c with
  | zero =>
    intro k fuel s hk hk2 hc hf
    obtain ⟨fuel, rfl⟩ : ∃ m, fuel = m + 1 := ⟨fuel - 1, by omega⟩
    rw [f_X9_parted_8, nI_p (by omega)]
    rw [if_pos (by rw [nI_le' (by omega) (by omega)]; omega), sm, Nat.add_zero]
  | succ c ih =>
    intro k fuel s hk hk2 hc hf
    obtain ⟨fuel, rfl⟩ : ∃ m, fuel = m + 1 := ⟨fuel - 1, by omega⟩
    rw [f_X9_parted_8, nI_p (by omega), if_neg (by rw [nI_le' (by omega) (by omega)]; omega)]
    simp only [zletE, kdM, isj]
    rw [at_ok WG3 hs hl (by omega), nI_s, sm]
    by_cases q : jn (wa ws k) = true
    · rw [if_neg (by rw [if_pos q]; decide), num_ok (by omega), num_ok (by omega), (h1 k hk (by omega)).1, (h2 (k + 1) j (by omega) (by omega) hq).1, lN_mul, lN_add, ih (k + 1) fuel _ (by omega) (by omega) (by omega) (by omega)]
      unfold hj hjg
      rw [if_pos q, Nat.add_assoc]
    · rw [if_pos (by rw [if_neg q]), ih (k + 1) fuel _ (by omega) (by omega) (by omega) (by omega)]
      have e : hj ws i j k = 0 := by unfold hj hjg; rw [if_neg q]
      rw [e, Nat.zero_add]
theorem parted_ok {ws : List Int32} {M : ZM} {i j : Nat} (hl : ws.length ≤ 21) (hij : i < j) (hq : j ≤ ws.length) (hs : WH M 3 ws) (h1 : ∀ b, i < b → b < j → Wk ws M i b) (h2 : ∀ a b, i < a → a < b → b ≤ ws.length → Wk ws M a b) : f_X9_parted 7 3 (nI i) (nI j) M = some (lN (sm (hj ws i j) (i + 1) (j - i - 2))) := by
  unfold f_X9_parted
  simp only [zletE]
  rw [nI_s, ← lN0]
  have := parted8_ok hl hij hq hs h1 h2 (j - i - 2) (i + 1) zN 0 (by omega) (by omega) (by omega) (by unfold zN; omega)
  rw [Nat.zero_add] at this
  exact this
theorem reckon24_ok {ws : List Int32} {i : Nat} (hl : ws.length ≤ 21) (hi : i < ws.length) (K : ZM → Option ZM) : ∀ c j fuel M, j + c = ws.length + 1 → c < fuel → i < j → WH M 3 ws → Wd M → (∀ b, i < b → b < j → Wk ws M i b) → (∀ a b, i < a → a < b → b ≤ ws.length → Wk ws M a b) → ∃ N, f_X9_reckon_24 7 3 (nI i) (nI (clo ws (i + 1))) K fuel (nI j) M = K N ∧ Wd N ∧ (∀ a b, i ≤ a → a < b → b ≤ ws.length → Wk ws N a b) ∧ Fr [8, 9] M N := by
  intro c
  induction c with
  | zero =>
    intro j fuel M hj hf hij hs hd h1 h2
    obtain ⟨fuel, rfl⟩ : ∃ m, fuel = m + 1 := ⟨fuel - 1, by omega⟩
    rw [f_X9_reckon_24]
    simp only [zletE]
    unfold f_X10_size
    rw [hs.1, if_pos (by rw [nJ_lt (by omega) (by omega)]; omega)]
    refine ⟨M, rfl, hd, ?_, Fr_rf _ _⟩
    intro a b ha hab hb
    by_cases q : i = a
    · subst q; exact h1 b hab (by omega)
    · exact h2 a b (by omega) hab hb
  | succ c ih =>
    intro j fuel M hj hf hij hs hd h1 h2
    obtain ⟨fuel, rfl⟩ : ∃ m, fuel = m + 1 := ⟨fuel - 1, by omega⟩
    rw [f_X9_reckon_24]
    simp only [zletE, kdM]
    rw [show f_X10_size 3 M = nI ws.length from hs.1, if_neg (by rw [nJ_lt (by omega) (by omega)]; omega), at_ok WG3 hs hl hi, fronted_ok hl hij (by omega) hd (fun b hb hb' => h2 (i + 1) b (by omega) hb hb'), nI_22, show zr 7 0 = 8 by decide +kernel, show zr 7 1 = 9 by decide +kernel, putl_nI (by rw [show zn 9 = 484 by decide +kernel]; omega) (by omega)]
    have hs1 : WH (zl M 9 (i * 22 + j) (lN (Fy ws i j))) 3 ws := hs
    have hk : ∀ a b, b ≤ 21 → ¬ (a = i ∧ b = j) → Wk ws M a b → Wk ws (zl M 9 (i * 22 + j) (lN (Fy ws i j))) a b := by
      intro a b hb hn hw
      refine ⟨?_, ?_⟩
      · rw [zl_ne (by decide)]; exact hw.1
      · rw [zl_k (by omega)]; exact hw.2
    rw [parted_ok hl hij (by omega) hs1 (fun b hb hb' => hk i b (by omega) (by omega) (h1 b hb hb')) (fun a b ha hab hb => hk a b (by omega) (by omega) (h2 a b ha hab hb))]
    simp only [bindE]
    rw [lN_add, ← Ny_eq hij (by omega), putl_nI (by rw [show zn 8 = 484 by decide +kernel]; omega) (by omega), nI_s]
    have hk2 : ∀ a b, b ≤ 21 → ¬ (a = i ∧ b = j) → Wk ws M a b → Wk ws (zl (zl M 9 (i * 22 + j) (lN (Fy ws i j))) 8 (i * 22 + j) (lN (Ny ws i j))) a b := by
      intro a b hb hn hw
      refine ⟨?_, ?_⟩
      · rw [zl_k (by omega)]; exact (hk a b hb hn hw).1
      · rw [zl_ne (by decide)]; exact (hk a b hb hn hw).2
    have hk3 : Wk ws (zl (zl M 9 (i * 22 + j) (lN (Fy ws i j))) 8 (i * 22 + j) (lN (Ny ws i j))) i j :=
      ⟨zl_eq, by rw [zl_ne (by decide), zl_eq]⟩
    obtain ⟨N, e, hd', hw', hF⟩ := ih (j + 1) fuel (zl (zl M 9 (i * 22 + j) (lN (Fy ws i j))) 8 (i * 22 + j) (lN (Ny ws i j))) (by omega) (by omega) (by omega) hs
      (fun a ha => by rw [zl_k (by omega), zl_ne (by decide)]; exact hd a ha)
      (fun b hb hb' => by
        by_cases q : b = j
        · subst q; exact hk3
        · exact hk2 i b (by omega) (by omega) (h1 b hb (by omega)))
      (fun a b ha hab hb => hk2 a b (by omega) (by omega) (h2 a b ha hab hb))
    exact ⟨N, e, hd', hw', Fr_tr (Fr_tr (Fr_zl (by decide)) (Fr_zl (by decide))) hF⟩
theorem reckon7_ok {ws : List Int32} (hl : ws.length ≤ 21) (K : ZM → Option ZM) : ∀ m fuel M, m ≤ ws.length → m < fuel → WH M 3 ws → Wd M → (∀ a b, m ≤ a → a < b → b ≤ ws.length → Wk ws M a b) → ∃ N, f_X9_reckon_7 7 3 K fuel (nI m - 1) M = K N ∧ Wd N ∧ Wy ws N ∧ Fr [8, 9] M N := by
  intro m
  induction m with
  | zero =>
    intro fuel M hm hf hs hd h
    obtain ⟨fuel, rfl⟩ : ∃ m, fuel = m + 1 := ⟨fuel - 1, by omega⟩
    rw [f_X9_reckon_7, if_pos (by decide +kernel)]
    exact ⟨M, rfl, hd, fun i j hij hj => h i j (Nat.zero_le _) hij hj, Fr_rf _ _⟩
  | succ m ih =>
    intro fuel M hm hf hs hd h
    obtain ⟨fuel, rfl⟩ : ∃ m, fuel = m + 1 := ⟨fuel - 1, by omega⟩
    rw [f_X9_reckon_7, nI_p (by omega), Nat.add_sub_cancel, if_neg (nI_nn (by omega)), nI_s, close_ok WG3 hl hs (by omega)]
    simp only [bindE, zletE]
    obtain ⟨N, e, hd', hw', hF⟩ := reckon24_ok hl (show m < ws.length by omega) (fun (M : ZM) => f_X9_reckon_7 7 3 K fuel (nI m + (-1)) M) (ws.length - m) (m + 1) zN M (by omega) (by unfold zN; omega) (by omega) hs hd (fun b hb hb' => by omega) (fun a b ha hab hb => h a b (by omega) hab hb)
    rw [e, ← Int32.sub_eq_add_neg]
    obtain ⟨P, e2, hd2, hw2, hF2⟩ := ih fuel N (by omega) (by omega) (WH_Fr hs hF (by decide) (by decide +kernel)) hd' hw'
    exact ⟨P, e2, hd2, hw2, Fr_tr hF hF2⟩
theorem reckon_ok {ws : List Int32} (hl : ws.length ≤ 21) {M : ZM} (hs : WH M 3 ws) (hd : Wd M) : ∃ N, f_X9_reckon 7 3 M = some N ∧ Wd N ∧ Wy ws N ∧ Fr [8, 9] M N := by
  unfold f_X9_reckon
  simp only [zletE]
  rw [show f_X10_size 3 M = nI ws.length from hs.1]
  exact reckon7_ok hl (fun M => some M) ws.length zN M (Nat.le_refl _) (by unfold zN; omega) hs hd (fun a b ha hab hb => by omega)
theorem take_ok {ws : List Int32} (hl : ws.length ≤ 21) {M : ZM} {u : Nat} (gu : WG u) (h1 : u ∉ [3, zr 3 0]) (h2 : zr u 0 ∉ [3, zr 3 0]) (hu : WH M u ws) (hd : Wd M) : ∃ N, f_X11_takeSentence 0 u M = some N ∧ WH N 3 ws ∧ Wd N ∧ Wy ws N ∧ N.1 19 5 = 0 ∧ Fr [3, 4, 8, 9, 19] M N := by
  unfold f_X11_takeSentence
  rw [show zr 0 1 = 3 by decide +kernel, show zr 0 3 = 7 by decide +kernel, show zr 0 5 = 19 by decide +kernel]
  obtain ⟨N1, e1, hN1, hF1⟩ := become_ok WG3 gu h1 h2 hl hu
  rw [e1]
  simp only [bindE]
  have hd1 : Wd N1 := fun i hi => by rw [Fr_2 hF1 (by decide +kernel)]; exact hd i hi
  obtain ⟨N2, e2, hd2, hw2, hF2⟩ := reckon_ok hl hN1 hd1
  rw [e2]
  simp only [bindE, zletE]
  refine ⟨_, rfl, ?_, ?_, ?_, ?_, ?_⟩
  · exact WH_Fr (WH_Fr hN1 hF2 (by decide) (by decide +kernel)) (Fr_zi (cs := [19]) (by decide)) (by decide) (by decide +kernel)
  · exact hd2
  · exact hw2
  · exact zi_eq
  · refine Fr_tr (Fr_sub hF1 (by decide +kernel)) (Fr_tr (Fr_sub hF2 (by decide)) (Fr_zi (by decide)))
