/-- some of these cases parts any two -/
def pt (L : List Int64) (cs : List Nat) : Prop := ∀ i j, j < i → i < L.length → ∃ c, c ∈ cs ∧ lb (wq L i) c ≠ lb (wq L j) c
theorem pt_c {L : List Int64} {cs ds : List Nat} (h : pt L cs) (hs : ∀ c, c ∈ cs → c ∈ ds) : pt L ds := fun i j h1 h2 => by
  obtain ⟨c, hc, e⟩ := h i j h1 h2
  exact ⟨c, hs c hc, e⟩
def b8 (x : Int64) (a b c : Nat) : Nat := ((if lb x a = true then 1 else 0) + 2 * (if lb x b = true then 1 else 0)) + 4 * (if lb x c = true then 1 else 0)
theorem b8_lt (x : Int64) (a b c : Nat) : b8 x a b c < 8 := by
  unfold b8
  split <;> split <;> split <;> omega
theorem b8_eq {x y : Int64} {a b c : Nat} : b8 x a b c = b8 y a b c ↔ (lb x a = lb y a ∧ lb x b = lb y b ∧ lb x c = lb y c) := by
  unfold b8
  cases lb x a <;> cases lb x b <;> cases lb x c <;> cases lb y a <;> cases lb y b <;> cases lb y c <;> simp
theorem pt3 {L : List Int64} {a b c : Nat} : pt L [a, b, c] ↔ ∀ i j, j < i → i < L.length → b8 (wq L i) a b c ≠ b8 (wq L j) a b c := by
  constructor
  · intro h i j h1 h2 e
    obtain ⟨d, hd, e2⟩ := h i j h1 h2
    have e := b8_eq.mp e
    simp only [List.mem_cons, List.not_mem_nil, or_false] at hd
    rcases hd with rfl | rfl | rfl
    · exact e2 e.1
    · exact e2 e.2.1
    · exact e2 e.2.2
  · intro h i j h1 h2
    have := h i j h1 h2
    apply Classical.byContradiction
    intro z
    apply this
    rw [b8_eq]
    refine ⟨?_, ?_, ?_⟩
    · apply Classical.byContradiction; intro y; exact z ⟨a, by simp, y⟩
    · apply Classical.byContradiction; intro y; exact z ⟨b, by simp, y⟩
    · apply Classical.byContradiction; intro y; exact z ⟨c, by simp, y⟩
theorem sh1 : ∀ n, n < 8 → ∀ k, k < 32 → lc ((1 : Int32) <<< (nI n &&& 31)) k = decide (k = n) := by decide +kernel
theorem and_b {x : Int32} {n : Nat} (h : n < 8) : (x &&& ((1 : Int32) <<< (nI n &&& 31)) = 0) ↔ lc x n = false := by
  constructor
  · intro e
    have := congrArg (fun z => lc z n) e
    simp only [lc_and, lc_0] at this
    rw [sh1 n h n (by omega), decide_eq_true rfl, Bool.and_true] at this
    exact this
  · intro e
    apply lc_ext
    intro k hk
    rw [lc_and, lc_0, sh1 n h k hk]
    by_cases q : k = n
    · rw [q, e]; rfl
    · rw [decide_eq_false q, Bool.and_false]
theorem apb6 {M : ZM} {L : List Int64} (h : UA M L) (hl : L.length ≤ 200) {a b c : Nat} (ha : a < 32) (hb : b < 32) (hc : c < 32) : ∀ k i fuel s, i + k = L.length → k < fuel → (∀ n, n < 8 → (lc s n = true ↔ ∃ j, j < i ∧ b8 (wq L j) a b c = n)) → ((∀ i', i ≤ i' → i' < L.length → ∀ j, j < i' → b8 (wq L i') a b c ≠ b8 (wq L j) a b c) → f_X8_arePartedBy_6 27 (nI a) (nI b) (nI c) M (some (1 : Int32)) fuel s (nI i) = some 1) ∧ ((¬ ∀ i', i ≤ i' → i' < L.length → ∀ j, j < i' → b8 (wq L i') a b c ≠ b8 (wq L j) a b c) → f_X8_arePartedBy_6 27 (nI a) (nI b) (nI c) M (some (1 : Int32)) fuel s (nI i) = some 0) := by
  intro k
  induction k with
  | zero =>
    intro i fuel s hi hf hs
    obtain ⟨fuel, rfl⟩ : ∃ m, fuel = m + 1 := ⟨fuel - 1, by omega⟩
    rw [f_X8_arePartedBy_6, h.1, if_pos (by rw [nI_le' (by omega) (by omega)]; omega)]
    exact ⟨fun _ => rfl, fun z => absurd (fun i' h1 h2 => by omega) z⟩
  | succ k ih =>
    intro i fuel s hi hf hs
    obtain ⟨fuel, rfl⟩ : ∃ m, fuel = m + 1 := ⟨fuel - 1, by omega⟩
    rw [f_X8_arePartedBy_6, h.1, if_neg (by rw [nI_le' (by omega) (by omega)]; omega)]
    simp only [zletE]
    rw [z28l (by omega), h.2 i (by omega), bitL ha, bitL hb, bitL hc, nI_s]
    have en : ((if lb (wq L i) a = true then (1 : Int32) else 0) + 2 * (if lb (wq L i) b = true then (1 : Int32) else 0)) + 4 * (if lb (wq L i) c = true then (1 : Int32) else 0) = nI (b8 (wq L i) a b c) := by
      unfold b8
      cases lb (wq L i) a <;> cases lb (wq L i) b <;> cases lb (wq L i) c <;> decide +kernel
    rw [en]
    have hb8 := b8_lt (wq L i) a b c
    have hsi := hs _ hb8
    by_cases q : lc s (b8 (wq L i) a b c) = false
    · rw [if_pos ((and_b hb8).mpr q)]
      have hn : ¬ ∃ j, j < i ∧ b8 (wq L j) a b c = b8 (wq L i) a b c := fun z => by rw [hsi.mpr z] at q; exact absurd q (by decide)
      have t := ih (i + 1) fuel (s ||| (1 <<< (nI (b8 (wq L i) a b c) &&& 31))) (by omega) (by omega) (fun n hn8 => by
        rw [lc_or, sh1 _ hb8 n (by omega), Bool.or_eq_true, decide_eq_true_iff, hs n hn8]
        constructor
        · rintro (⟨j, hj, e⟩ | e)
          · exact ⟨j, by omega, e⟩
          · exact ⟨i, by omega, e.symm⟩
        · rintro ⟨j, hj, e⟩
          by_cases z : j = i
          · right; rw [← e, z]
          · left; exact ⟨j, by omega, e⟩)
      refine ⟨fun z => t.1 (fun i' h1 h2 => z i' (by omega) h2), fun z => t.2 (fun y => z (fun i' h1 h2 j hj => ?_))⟩
      by_cases w : i' = i
      · subst w
        intro e
        exact hn ⟨j, hj, e.symm⟩
      · exact y i' (by omega) h2 j hj
    · have q' : lc s (b8 (wq L i) a b c) = true := by
        cases z : lc s (b8 (wq L i) a b c) with
        | true => rfl
        | false => exact absurd z q
      rw [if_neg (fun z => q ((and_b hb8).mp z))]
      obtain ⟨j, hj, e⟩ := hsi.mp q'
      exact ⟨fun z => absurd e.symm (z i (Nat.le_refl _) (by omega) j hj), fun _ => rfl⟩
theorem apb_ok {M : ZM} {L : List Int64} (h : UA M L) (hl : L.length ≤ 200) {a b c : Nat} (ha : a < 32) (hb : b < 32) (hc : c < 32) : (pt L [a, b, c] → f_X8_arePartedBy 27 (nI a) (nI b) (nI c) M = some 1) ∧ (¬ pt L [a, b, c] → f_X8_arePartedBy 27 (nI a) (nI b) (nI c) M = some 0) := by
  have t := apb6 h hl ha hb hc L.length 0 zN 0 (by omega) (by unfold zN; omega) (fun n _ => ⟨fun z => by rw [lc_0] at z; exact absurd z (by decide), fun ⟨j, hj, _⟩ => by omega⟩)
  rw [nI0] at t
  unfold f_X8_arePartedBy
  refine ⟨fun z => t.1 (fun i' _ h2 j hj => pt3.mp z i' j hj h2), fun z => t.2 (fun y => z (pt3.mpr (fun i j h1 h2 => y i (Nat.zero_le _) h2 j h1)))⟩
theorem third4 {M : ZM} {L : List Int64} (h : UA M L) (hl : L.length ≤ 200) {a b : Nat} (ha : a < 32) (hb : b < 32) : ∀ k c fuel, c + k = 32 → k < fuel → ((∃ d, c ≤ d ∧ d < 32 ∧ pt L [a, b, d]) → f_X8_isThirdFor_4 27 (nI a) (nI b) M (some (0 : Int32)) fuel (nI c) = some 1) ∧ ((¬ ∃ d, c ≤ d ∧ d < 32 ∧ pt L [a, b, d]) → f_X8_isThirdFor_4 27 (nI a) (nI b) M (some (0 : Int32)) fuel (nI c) = some 0) := by
  intro k
  induction k with
  | zero =>
    intro c fuel hi hf
    obtain ⟨fuel, rfl⟩ : ∃ m, fuel = m + 1 := ⟨fuel - 1, by omega⟩
    rw [f_X8_isThirdFor_4, if_pos (by rw [show (32 : Int32) = nI 32 from rfl, nI_le' (by omega) (by omega)]; omega)]
    exact ⟨fun ⟨d, h1, h2, _⟩ => by omega, fun _ => rfl⟩
  | succ k ih =>
    intro c fuel hi hf
    obtain ⟨fuel, rfl⟩ : ∃ m, fuel = m + 1 := ⟨fuel - 1, by omega⟩
    rw [f_X8_isThirdFor_4, if_neg (by rw [show (32 : Int32) = nI 32 from rfl, nI_le' (by omega) (by omega)]; omega)]
    have t := ih (c + 1) fuel (by omega) (by omega)
    have p := apb_ok h hl ha hb (show c < 32 by omega)
    by_cases q : pt L [a, b, c]
    · rw [p.1 q, bindE, if_neg (by decide)]
      exact ⟨fun _ => rfl, fun z => absurd ⟨c, Nat.le_refl _, by omega, q⟩ z⟩
    · rw [p.2 q, bindE, if_pos rfl, zletE, nI_s]
      refine ⟨fun ⟨d, h1, h2, h3⟩ => t.1 ⟨d, ?_, h2, h3⟩, fun z => t.2 (fun ⟨d, h1, h2, h3⟩ => z ⟨d, by omega, h2, h3⟩)⟩
      apply Classical.byContradiction
      intro y
      exact q (by rw [show c = d by omega]; exact h3)
def Q2 (L : List Int64) (a : Nat) : Prop := ∃ a' b, a' < a ∧ a' < b ∧ b < 32 ∧ pt L [a', b]
def Q3 (L : List Int64) (a : Nat) : Prop := ∃ a' b c, a' < a ∧ a' < b ∧ b < c ∧ c < 32 ∧ pt L [a', b, c]
def Q2' (L : List Int64) (a b : Nat) : Prop := Q2 L a ∨ ∃ b', a < b' ∧ b' < b ∧ pt L [a, b']
def Q3' (L : List Int64) (a b : Nat) : Prop := Q3 L a ∨ ∃ b' c, a < b' ∧ b' < b ∧ b' < c ∧ c < 32 ∧ pt L [a, b', c]
def I3 (v : Int32) (A B : Prop) : Prop := (v = 2 ∧ A) ∨ (v = 3 ∧ ¬ A ∧ B) ∨ (v = -9 ∧ ¬ A ∧ ¬ B)
theorem Q2_s {L : List Int64} {a : Nat} (h : a < 32) : Q2' L a 32 ↔ Q2 L (a + 1) := by
  constructor
  · rintro (⟨a', b, h1, h2, h3, h4⟩ | ⟨b, h1, h2, h3⟩)
    · exact ⟨a', b, by omega, h2, h3, h4⟩
    · exact ⟨a, b, by omega, h1, h2, h3⟩
  · rintro ⟨a', b, h1, h2, h3, h4⟩
    by_cases q : a' = a
    · subst q; exact Or.inr ⟨b, h2, h3, h4⟩
    · exact Or.inl ⟨a', b, by omega, h2, h3, h4⟩
theorem Q3_s {L : List Int64} {a : Nat} (h : a < 32) : Q3' L a 32 ↔ Q3 L (a + 1) := by
  constructor
  · rintro (⟨a', b, c, h1, h2, h3, h4, h5⟩ | ⟨b, c, h1, h2, h3, h4, h5⟩)
    · exact ⟨a', b, c, by omega, h2, h3, h4, h5⟩
    · exact ⟨a, b, c, by omega, h1, h3, h4, h5⟩
  · rintro ⟨a', b, c, h1, h2, h3, h4, h5⟩
    by_cases q : a' = a
    · subst q; exact Or.inr ⟨b, c, h2, by omega, h3, h4, h5⟩
    · exact Or.inl ⟨a', b, c, by omega, h2, h3, h4, h5⟩
theorem pt_ab {L : List Int64} {a b : Nat} : pt L [a, b, b] ↔ pt L [a, b] := ⟨fun h => pt_c h (by intro c; simp), fun h => pt_c h (by intro c; simp)⟩
theorem pt_a {L : List Int64} {a : Nat} : pt L [a, a, a] ↔ pt L [a] := ⟨fun h => pt_c h (by intro c; simp), fun h => pt_c h (by intro c; simp)⟩
theorem few49 {M : ZM} {L : List Int64} (h : UA M L) (hl : L.length ≤ 200) {a : Nat} (ha : a < 32) (K : Int32 → Option Int32) : ∀ k b fuel v, b + k = 32 → k < fuel → a < b → I3 v (Q2' L a b) (Q3' L a b) → ∃ w, f_X8_fewestCases_49 27 (nI a) M K fuel v (nI b) = K w ∧ I3 w (Q2 L (a + 1)) (Q3 L (a + 1)) := by
  intro k
  induction k with
  | zero =>
    intro b fuel v hi hf hab hI
    obtain ⟨fuel, rfl⟩ : ∃ m, fuel = m + 1 := ⟨fuel - 1, by omega⟩
    rw [f_X8_fewestCases_49, if_pos (by rw [show (32 : Int32) = nI 32 from rfl, nI_le' (by omega) (by omega)]; omega)]
    have hb : b = 32 := by omega
    subst hb
    refine ⟨v, rfl, ?_⟩
    unfold I3 at hI ⊢
    rw [← Q2_s ha, ← Q3_s ha]
    exact hI
  | succ k ih =>
    intro b fuel v hi hf hab hI
    obtain ⟨fuel, rfl⟩ : ∃ m, fuel = m + 1 := ⟨fuel - 1, by omega⟩
    rw [f_X8_fewestCases_49, if_neg (by rw [show (32 : Int32) = nI 32 from rfl, nI_le' (by omega) (by omega)]; omega)]
    have p := apb_ok h hl ha (show b < 32 by omega) (show b < 32 by omega)
    rw [pt_ab] at p
    have e2 : Q2' L a (b + 1) ↔ (Q2' L a b ∨ pt L [a, b]) := by
      constructor
      · rintro (z | ⟨b', h1, h2, h3⟩)
        · exact Or.inl (Or.inl z)
        · by_cases q : b' = b
          · subst q; exact Or.inr h3
          · exact Or.inl (Or.inr ⟨b', h1, by omega, h3⟩)
      · rintro ((z | ⟨b', h1, h2, h3⟩) | z)
        · exact Or.inl z
        · exact Or.inr ⟨b', h1, by omega, h3⟩
        · exact Or.inr ⟨b, hab, by omega, z⟩
    have e3 : Q3' L a (b + 1) ↔ (Q3' L a b ∨ ∃ c, b + 1 ≤ c ∧ c < 32 ∧ pt L [a, b, c]) := by
      constructor
      · rintro (z | ⟨b', c, h1, h2, h3, h4, h5⟩)
        · exact Or.inl (Or.inl z)
        · by_cases q : b' = b
          · subst q; exact Or.inr ⟨c, by omega, h4, h5⟩
          · exact Or.inl (Or.inr ⟨b', c, h1, by omega, h3, h4, h5⟩)
      · rintro ((z | ⟨b', c, h1, h2, h3, h4, h5⟩) | ⟨c, h1, h2, h3⟩)
        · exact Or.inl z
        · exact Or.inr ⟨b', c, h1, by omega, h3, h4, h5⟩
        · exact Or.inr ⟨b, c, hab, by omega, by omega, h2, h3⟩
    rcases hI with ⟨rfl, hA⟩ | ⟨rfl, hA, hB⟩ | ⟨rfl, hA, hB⟩
    · rw [if_pos rfl]
      refine ⟨2, rfl, Or.inl ⟨rfl, ?_⟩⟩
      rcases hA with ⟨a', b', h1, h2, h3, h4⟩ | ⟨b', h1, h2, h3⟩
      · exact ⟨a', b', by omega, h2, h3, h4⟩
      · exact ⟨a, b', by omega, h1, by omega, h3⟩
    · rw [if_neg (by decide)]
      by_cases q : pt L [a, b]
      · rw [p.1 q, bindE, if_neg (by decide), zletE, nI_s]
        exact ih (b + 1) fuel 2 (by omega) (by omega) (by omega) (Or.inl ⟨rfl, e2.mpr (Or.inr q)⟩)
      · rw [p.2 q, bindE, if_pos rfl, if_neg (by decide), zletE, nI_s]
        exact ih (b + 1) fuel 3 (by omega) (by omega) (by omega) (Or.inr (Or.inl ⟨rfl, fun z => (e2.mp z).elim hA q, e3.mpr (Or.inl hB)⟩))
    · rw [if_neg (by decide)]
      by_cases q : pt L [a, b]
      · rw [p.1 q, bindE, if_neg (by decide), zletE, nI_s]
        exact ih (b + 1) fuel 2 (by omega) (by omega) (by omega) (Or.inl ⟨rfl, e2.mpr (Or.inr q)⟩)
      · have t := third4 h hl ha (show b < 32 by omega) (32 - (b + 1)) (b + 1) zN (by omega) (by unfold zN; omega)
        unfold f_X8_isThirdFor
        rw [p.2 q, bindE, if_pos rfl, if_pos rfl]
        simp only [zletE]
        rw [nI_s]
        by_cases z : ∃ d, b + 1 ≤ d ∧ d < 32 ∧ pt L [a, b, d]
        · rw [t.1 z, bindE, if_neg (by decide)]
          exact ih (b + 1) fuel 3 (by omega) (by omega) (by omega) (Or.inr (Or.inl ⟨rfl, fun z => (e2.mp z).elim hA q, e3.mpr (Or.inr z)⟩))
        · rw [t.2 z, bindE, if_pos rfl]
          exact ih (b + 1) fuel (-9) (by omega) (by omega) (by omega) (Or.inr (Or.inr ⟨rfl, fun z => (e2.mp z).elim hA q, fun y => (e3.mp y).elim hB z⟩))
theorem few27 {M : ZM} {L : List Int64} (h : UA M L) (hl : L.length ≤ 200) : ∀ k a fuel v, a + k = 32 → k < fuel → I3 v (Q2 L a) (Q3 L a) → ((∃ d, a ≤ d ∧ d < 32 ∧ pt L [d]) → f_X8_fewestCases_27 27 M (fun (v1 : Int32) => some v1) fuel v (nI a) = some 1) ∧ ((¬ ∃ d, a ≤ d ∧ d < 32 ∧ pt L [d]) → ∃ w, f_X8_fewestCases_27 27 M (fun (v1 : Int32) => some v1) fuel v (nI a) = some w ∧ I3 w (Q2 L 32) (Q3 L 32)) := by
  intro k
  induction k with
  | zero =>
    intro a fuel v hi hf hI
    obtain ⟨fuel, rfl⟩ : ∃ m, fuel = m + 1 := ⟨fuel - 1, by omega⟩
    rw [f_X8_fewestCases_27, if_pos (by rw [show (32 : Int32) = nI 32 from rfl, nI_le' (by omega) (by omega)]; omega)]
    have hb : a = 32 := by omega
    subst hb
    exact ⟨fun ⟨d, h1, h2, _⟩ => by omega, fun _ => ⟨v, rfl, hI⟩⟩
  | succ k ih =>
    intro a fuel v hi hf hI
    obtain ⟨fuel, rfl⟩ : ∃ m, fuel = m + 1 := ⟨fuel - 1, by omega⟩
    rw [f_X8_fewestCases_27, if_neg (by rw [show (32 : Int32) = nI 32 from rfl, nI_le' (by omega) (by omega)]; omega)]
    have p := apb_ok h hl (show a < 32 by omega) (show a < 32 by omega) (show a < 32 by omega)
    rw [pt_a] at p
    by_cases q : pt L [a]
    · rw [p.1 q, bindE, if_neg (by decide)]
      exact ⟨fun _ => rfl, fun z => absurd ⟨a, Nat.le_refl _, by omega, q⟩ z⟩
    · rw [p.2 q, bindE, if_pos rfl, zletE, nI_s]
      have hI' : I3 v (Q2' L a (a + 1)) (Q3' L a (a + 1)) := by
        have e2 : Q2' L a (a + 1) ↔ Q2 L a := ⟨fun z => z.elim id (fun ⟨b', h1, h2, _⟩ => by omega), Or.inl⟩
        have e3 : Q3' L a (a + 1) ↔ Q3 L a := ⟨fun z => z.elim id (fun ⟨b', c, h1, h2, _⟩ => by omega), Or.inl⟩
        unfold I3 at hI ⊢
        rw [e2, e3]; exact hI
      obtain ⟨w, e, hw⟩ := few49 h hl (show a < 32 by omega) (fun (v1 : Int32) =>
          zlet (nI (a + 1)) fun (x18 : Int32) =>
          f_X8_fewestCases_27 27 M (fun (v1 : Int32) => some v1) fuel v1 x18) (32 - (a + 1)) (a + 1) zN v (by omega) (by unfold zN; omega) (by omega) hI'
      rw [e, zletE]
      have t := ih (a + 1) fuel w (by omega) (by omega) hw
      refine ⟨fun ⟨d, h1, h2, h3⟩ => t.1 ⟨d, ?_, h2, h3⟩, fun z => t.2 (fun ⟨d, h1, h2, h3⟩ => z ⟨d, by omega, h2, h3⟩)⟩
      apply Classical.byContradiction
      intro y
      exact q (by rw [show a = d by omega]; exact h3)
/-! the reference -/
def rep (by_ : Int64) (cs : List Nat) : Prop := (∀ k, k < 64 → (lb by_ k = true ↔ k ∈ cs)) ∧ ∀ c, c ∈ cs → c < 32
theorem rep_0 {x y b : Int64} {cs : List Nat} (h : rep b cs) : ((x ^^^ y) &&& b = 0) ↔ ¬ ∃ c, c ∈ cs ∧ lb x c ≠ lb y c := by
  constructor
  · rintro e ⟨c, hc, z⟩
    have hc32 := h.2 c hc
    have := congrArg (fun z => lb z c) e
    simp only [lb_and, lb_xor, lb_0] at this
    rw [(h.1 c (by omega)).mpr hc, Bool.and_true] at this
    apply z
    cases hx : lb x c <;> cases hy : lb y c <;> rw [hx, hy] at this <;> first | rfl | exact absurd this (by decide)
  · intro z
    apply lb_ext
    intro k hk
    rw [lb_and, lb_xor, lb_0]
    by_cases q : k ∈ cs
    · have : lb x k = lb y k := by
        apply Classical.byContradiction
        intro w
        exact z ⟨k, q, w⟩
      rw [this]
      cases lb y k <;> rfl
    · have : lb b k = false := by
        cases w : lb b k with
        | false => rfl
        | true => exact absurd ((h.1 k hk).mp w) q
      rw [this, Bool.and_false]
theorem ip13 {M : ZM} {L : List Int64} (h : UO M L) (hl : L.length ≤ 200) {b : Int64} {cs : List Nat} (hb : rep b cs) {i : Nat} (hi : i < L.length) (K : Option Int32) : ∀ k j fuel, j + k = i → k < fuel → ((∀ j', j ≤ j' → j' < i → ∃ c, c ∈ cs ∧ lb (wq L i) c ≠ lb (wq L j') c) → f_X12_isParted_13 50 b (nI i) M K fuel (nI j) = K) ∧ ((¬ ∀ j', j ≤ j' → j' < i → ∃ c, c ∈ cs ∧ lb (wq L i) c ≠ lb (wq L j') c) → f_X12_isParted_13 50 b (nI i) M K fuel (nI j) = some 0) := by
  intro k
  induction k with
  | zero =>
    intro j fuel hj hf
    obtain ⟨fuel, rfl⟩ : ∃ m, fuel = m + 1 := ⟨fuel - 1, by omega⟩
    rw [f_X12_isParted_13, if_pos (by rw [nI_le' (by omega) (by omega)]; omega)]
    exact ⟨fun _ => rfl, fun z => absurd (fun j' h1 h2 => by omega) z⟩
  | succ k ih =>
    intro j fuel hj hf
    obtain ⟨fuel, rfl⟩ : ∃ m, fuel = m + 1 := ⟨fuel - 1, by omega⟩
    rw [f_X12_isParted_13, if_neg (by rw [nI_le' (by omega) (by omega)]; omega), z70, zckT (i70 (by omega)), zckT (i70 (by omega)), nI_tn (by omega), nI_tn (by omega), h.2 i (by omega), h.2 j (by omega)]
    have t := ih (j + 1) fuel (by omega) (by omega)
    by_cases q : ∃ c, c ∈ cs ∧ lb (wq L i) c ≠ lb (wq L j) c
    · rw [if_neg (by rw [lg_cmp_eq, rep_0 hb]; exact fun z => z q), zletE, nI_s]
      refine ⟨fun z => t.1 (fun j' h1 h2 => z j' (by omega) h2), fun z => t.2 (fun y => z (fun j' h1 h2 => ?_))⟩
      by_cases w : j' = j
      · rw [w]; exact q
      · exact y j' (by omega) h2
    · rw [if_pos (by rw [lg_cmp_eq, rep_0 hb]; exact q)]
      exact ⟨fun z => absurd (z j (Nat.le_refl _) (by omega)) q, fun _ => rfl⟩
theorem ip2 {M : ZM} {L : List Int64} (h : UO M L) (hl : L.length ≤ 200) {b : Int64} {cs : List Nat} (hb : rep b cs) : ∀ k i fuel, i + k = L.length → k < fuel → ((∀ i', i ≤ i' → i' < L.length → ∀ j, j < i' → ∃ c, c ∈ cs ∧ lb (wq L i') c ≠ lb (wq L j) c) → f_X12_isParted_2 50 b M (some (1 : Int32)) fuel (nI i) = some 1) ∧ ((¬ ∀ i', i ≤ i' → i' < L.length → ∀ j, j < i' → ∃ c, c ∈ cs ∧ lb (wq L i') c ≠ lb (wq L j) c) → f_X12_isParted_2 50 b M (some (1 : Int32)) fuel (nI i) = some 0) := by
  intro k
  induction k with
  | zero =>
    intro i fuel hi hf
    obtain ⟨fuel, rfl⟩ : ∃ m, fuel = m + 1 := ⟨fuel - 1, by omega⟩
    rw [f_X12_isParted_2, h.1, if_pos (by rw [nI_le' (by omega) (by omega)]; omega)]
    exact ⟨fun _ => rfl, fun z => absurd (fun i' h1 h2 => by omega) z⟩
  | succ k ih =>
    intro i fuel hi hf
    obtain ⟨fuel, rfl⟩ : ∃ m, fuel = m + 1 := ⟨fuel - 1, by omega⟩
    rw [f_X12_isParted_2, h.1, if_neg (by rw [nI_le' (by omega) (by omega)]; omega)]
    have t := ih (i + 1) fuel (by omega) (by omega)
    have u := ip13 h hl hb (show i < L.length by omega) (zlet (nI i + 1) fun (x7 : Int32) => f_X12_isParted_2 50 b M (some (1 : Int32)) fuel x7) i 0 zN (by omega) (by unfold zN; omega)
    rw [nI0] at u
    by_cases q : ∀ j', 0 ≤ j' → j' < i → ∃ c, c ∈ cs ∧ lb (wq L i) c ≠ lb (wq L j') c
    · rw [u.1 q, zletE, nI_s]
      refine ⟨fun z => t.1 (fun i' h1 h2 => z i' (by omega) h2), fun z => t.2 (fun y => z (fun i' h1 h2 j hj => ?_))⟩
      by_cases w : i' = i
      · subst w; exact q j (Nat.zero_le _) hj
      · exact y i' (by omega) h2 j hj
    · rw [u.2 q]
      exact ⟨fun z => absurd (fun j' _ h2 => z i (Nat.le_refl _) (by omega) j' h2) q, fun _ => rfl⟩
theorem ip_ok {M : ZM} {L : List Int64} (h : UO M L) (hl : L.length ≤ 200) {b : Int64} {cs : List Nat} (hb : rep b cs) : (pt L cs → f_X12_isParted 50 b M = some 1) ∧ (¬ pt L cs → f_X12_isParted 50 b M = some 0) := by
  have t := ip2 h hl hb L.length 0 zN (by omega) (by unfold zN; omega)
  rw [nI0] at t
  unfold f_X12_isParted
  exact ⟨fun z => t.1 (fun i' _ h2 j hj => z i' j hj h2), fun z => t.2 (fun y => z (fun i j h1 h2 => y i (Nat.zero_le _) h2 j h1))⟩
def exs (L : List Int64) : Nat → Nat → List Nat → Prop
  | 0, _, cs => pt L cs
  | n + 1, f, cs => ∃ c, f ≤ c ∧ c < 32 ∧ exs L n (c + 1) (c :: cs)
theorem sh1L : ∀ n, n < 32 → ∀ k, k < 64 → lb ((1 : Int64) <<< ((nI n).toInt64 &&& 63)) k = decide (k = n) := by decide +kernel
theorem rep_s {b : Int64} {cs : List Nat} (h : rep b cs) {c : Nat} (hc : c < 32) : rep (b ||| ((1 : Int64) <<< ((nI c).toInt64 &&& 63))) (c :: cs) := by
  refine ⟨fun k hk => ?_, fun d hd => ?_⟩
  · rw [lb_or, sh1L c hc k hk, Bool.or_eq_true, decide_eq_true_iff, h.1 k hk, List.mem_cons]
    exact Or.comm
  · rcases List.mem_cons.mp hd with q | q
    · rw [q]; exact hc
    · exact h.2 d q
theorem ipb {M : ZM} {L : List Int64} (h : UO M L) (hl : L.length ≤ 200) : ∀ n d f b cs, n < d → n ≤ 3 → f ≤ 32 → rep b cs → (exs L n f cs → f_X12_isPartedBy d 50 (nI n) (nI f) b M = some 1) ∧ (¬ exs L n f cs → f_X12_isPartedBy d 50 (nI n) (nI f) b M = some 0) := by
  intro n
  induction n with
  | zero =>
    intro d f b cs hd _ hf hb
    obtain ⟨d, rfl⟩ : ∃ m, d = m + 1 := ⟨d - 1, by omega⟩
    have t := ip_ok h hl hb
    rw [f_X12_isPartedBy, if_pos (by decide +kernel)]
    refine ⟨fun z => ?_, fun z => ?_⟩
    · rw [t.1 z, bindE, zckT (by decide)]
    · rw [t.2 z, bindE, zckT (by decide)]
  | succ n ih =>
    intro d f b cs hd hn hf hb
    obtain ⟨d, rfl⟩ : ∃ m, d = m + 1 := ⟨d - 1, by omega⟩
    rw [f_X12_isPartedBy, if_neg (by rw [← nI0, nI_inj (by omega) (by omega)]; omega)]
    have lo : ∀ k f fuel, f + k = 32 → k < fuel → (exs L (n + 1) f cs → f_X12_isPartedBy_13 50 (nI (n + 1)) b (f_X12_isPartedBy d) M (some (0 : Int32)) fuel (nI f) = some 1) ∧ (¬ exs L (n + 1) f cs → f_X12_isPartedBy_13 50 (nI (n + 1)) b (f_X12_isPartedBy d) M (some (0 : Int32)) fuel (nI f) = some 0) := by
      intro k
      induction k with
      | zero =>
        intro f fuel hi hf
        obtain ⟨fuel, rfl⟩ : ∃ m, fuel = m + 1 := ⟨fuel - 1, by omega⟩
        rw [f_X12_isPartedBy_13, if_pos (by rw [show (32 : Int32) = nI 32 from rfl, nI_le' (by omega) (by omega)]; omega)]
        exact ⟨fun ⟨c, h1, h2, _⟩ => by omega, fun _ => rfl⟩
      | succ k ihk =>
        intro f fuel hi hf
        obtain ⟨fuel, rfl⟩ : ∃ m, fuel = m + 1 := ⟨fuel - 1, by omega⟩
        rw [f_X12_isPartedBy_13, if_neg (by rw [show (32 : Int32) = nI 32 from rfl, nI_le' (by omega) (by omega)]; omega), nI_p (by omega), Nat.add_sub_cancel, nI_s]
        have t := ihk (f + 1) fuel (by omega) (by omega)
        have u := ih d (f + 1) (b ||| ((1 : Int64) <<< ((nI f).toInt64 &&& 63))) (f :: cs) (by omega) (by omega) (by omega) (rep_s hb (by omega))
        by_cases q : exs L n (f + 1) (f :: cs)
        · rw [u.1 q, bindE, if_neg (by decide)]
          exact ⟨fun _ => rfl, fun z => absurd ⟨f, Nat.le_refl _, by omega, q⟩ z⟩
        · rw [u.2 q, bindE, if_pos rfl, zletE]
          refine ⟨fun ⟨c, h1, h2, h3⟩ => t.1 ⟨c, ?_, h2, h3⟩, fun z => t.2 (fun ⟨c, h1, h2, h3⟩ => z ⟨c, by omega, h2, h3⟩)⟩
          apply Classical.byContradiction
          intro y
          have : c = f := by omega
          subst this
          exact q h3
    exact lo (32 - f) f zN (by omega) (by unfold zN; omega)
theorem rep_z : rep 0 [] := ⟨fun k _ => ⟨fun h => by rw [lb_0] at h; exact absurd h (by decide), fun h => absurd h List.not_mem_nil⟩, fun c hc => absurd hc List.not_mem_nil⟩
theorem ex1 {L : List Int64} : exs L 1 0 [] ↔ ∃ d, 0 ≤ d ∧ d < 32 ∧ pt L [d] := Iff.rfl
theorem ex2 {L : List Int64} : exs L 2 0 [] ↔ Q2 L 32 := by
  constructor
  · rintro ⟨a, _, h1, b, h2, h3, h4⟩
    exact ⟨a, b, h1, by omega, h3, pt_c h4 (by intro c; simp; omega)⟩
  · rintro ⟨a, b, h1, h2, h3, h4⟩
    exact ⟨a, Nat.zero_le _, h1, b, by omega, h3, pt_c h4 (by intro c; simp; omega)⟩
theorem ex3 {L : List Int64} : exs L 3 0 [] ↔ Q3 L 32 := by
  constructor
  · rintro ⟨a, _, h1, b, h2, h3, c, h4, h5, h6⟩
    exact ⟨a, b, c, h1, by omega, by omega, h5, pt_c h6 (by intro c; simp; omega)⟩
  · rintro ⟨a, b, c, h1, h2, h3, h4, h5⟩
    exact ⟨a, Nat.zero_le _, h1, b, by omega, by omega, c, by omega, h4, pt_c h5 (by intro c; simp; omega)⟩
theorem few_lo {M N : ZM} {L : List Int64} (hA : UA M L) (hO : UO N L) (hl : L.length ≤ 200) : ∃ z, f_X8_fewestCases 27 M = some z ∧ (if nI L.length ≤ 8 then f_X12_fewest_32 50 (fun (M : ZM) => some (((-9) : Int32), M)) zN 0 N else some (((-9) : Int32), N)) = some (z, N) := by
  unfold f_X8_fewestCases
  rw [hA.1]
  obtain ⟨f, hf⟩ : ∃ f, zN = f + 1 + 1 + 1 + 1 + 1 := ⟨zN - 5, by unfold zN; omega⟩
  have i0 := ipb hO hl 0 zD 0 0 [] (by unfold zD; omega) (by omega) (by omega) rep_z
  have i1 := ipb hO hl 1 zD 0 0 [] (by unfold zD; omega) (by omega) (by omega) rep_z
  have i2 := ipb hO hl 2 zD 0 0 [] (by unfold zD; omega) (by omega) (by omega) rep_z
  have i3 := ipb hO hl 3 zD 0 0 [] (by unfold zD; omega) (by omega) (by omega) rep_z
  rw [ex2] at i2
  rw [ex3] at i3
  have e0 : exs L 0 0 [] ↔ L.length ≤ 1 := by
    constructor
    · intro h
      apply Classical.byContradiction
      intro q
      obtain ⟨c, hc, _⟩ := h 1 0 (by omega) (by omega)
      exact absurd hc List.not_mem_nil
    · intro h i j h1 h2; omega
  rw [e0] at i0
  rw [nI0] at i0 i1 i2 i3
  have c4 : ∀ n, n < 4 → ¬ (4 : Int32) ≤ nI n := fun n hn => by rw [show (4 : Int32) = nI 4 from rfl, nI_le' (by omega) (by omega)]; omega
  have r0 : ∀ fuel n, n < 4 → (f_X12_isPartedBy zD 50 (nI n) 0 0 N = some 1 → f_X12_fewest_32 50 (fun (M : ZM) => some (((-9) : Int32), M)) (fuel + 1) (nI n) N = some (nI n, N)) ∧ (f_X12_isPartedBy zD 50 (nI n) 0 0 N = some 0 → f_X12_fewest_32 50 (fun (M : ZM) => some (((-9) : Int32), M)) (fuel + 1) (nI n) N = f_X12_fewest_32 50 (fun (M : ZM) => some (((-9) : Int32), M)) fuel (nI (n + 1)) N) := by
    intro fuel n hn
    rw [f_X12_fewest_32, if_neg (c4 n hn)]
    refine ⟨fun h => ?_, fun h => ?_⟩
    · rw [h, bindE, if_neg (by decide)]
    · rw [h, bindE, if_pos rfl, zletE, nI_s]
  have rE : ∀ fuel, f_X12_fewest_32 50 (fun (M : ZM) => some (((-9) : Int32), M)) (fuel + 1) (nI 4) N = some (-9, N) := by
    intro fuel
    rw [f_X12_fewest_32, if_pos (by decide +kernel)]
  by_cases h8 : L.length ≤ 8
  · rw [if_pos (show nI L.length ≤ (8 : Int32) by rw [show (8 : Int32) = nI 8 from rfl, nI_le' (by omega) (by omega)]; exact h8), if_pos (show nI L.length ≤ (8 : Int32) by rw [show (8 : Int32) = nI 8 from rfl, nI_le' (by omega) (by omega)]; exact h8), hf, ← nI0]
    rw [← nI0] at i0 i1 i2 i3
    rw [← nI0] at r0
    by_cases h1 : L.length ≤ 1
    · rw [if_neg (by rw [show (1 : Int32) = nI 1 from rfl, nJ_lt (by omega) (by omega)]; omega)]
      exact ⟨nI 0, rfl, (r0 _ 0 (by omega)).1 (i0.1 h1)⟩
    · rw [if_pos (by rw [show (1 : Int32) = nI 1 from rfl, nJ_lt (by omega) (by omega)]; omega), (r0 _ 0 (by omega)).2 (i0.2 h1), ← hf]
      have t := few27 hA hl 32 0 zN (-9) (by omega) (by unfold zN; omega) (Or.inr (Or.inr ⟨rfl, fun ⟨a', _, h, _⟩ => by omega, fun ⟨a', _, _, h, _⟩ => by omega⟩))
      by_cases q1 : ∃ d, 0 ≤ d ∧ d < 32 ∧ pt L [d]
      · exact ⟨1, t.1 q1, (r0 _ 1 (by omega)).1 (i1.1 (ex1.mpr q1))⟩
      · obtain ⟨w, ew, hw⟩ := t.2 q1
        refine ⟨w, ew, ?_⟩
        rw [(r0 _ 1 (by omega)).2 (i1.2 (fun z => q1 (ex1.mp z)))]
        rcases hw with ⟨rfl, hA'⟩ | ⟨rfl, hA', hB⟩ | ⟨rfl, hA', hB⟩
        · exact (r0 _ 2 (by omega)).1 (i2.1 hA')
        · rw [(r0 _ 2 (by omega)).2 (i2.2 hA')]
          exact (r0 _ 3 (by omega)).1 (i3.1 hB)
        · rw [(r0 _ 2 (by omega)).2 (i2.2 hA'), (r0 _ 3 (by omega)).2 (i3.2 hB)]
          exact rE _
  · rw [if_pos (by rw [show (1 : Int32) = nI 1 from rfl, nJ_lt (by omega) (by omega)]; omega), if_neg (show ¬ nI L.length ≤ (8 : Int32) by rw [show (8 : Int32) = nI 8 from rfl, nI_le' (by omega) (by omega)]; exact h8), if_neg (show ¬ nI L.length ≤ (8 : Int32) by rw [show (8 : Int32) = nI 8 from rfl, nI_le' (by omega) (by omega)]; exact h8)]
    exact ⟨-9, rfl, rfl⟩
theorem m_fewest {M : ZM} (hJ : JJ M) : Ag (f_X11_fewest 0 M) (f_X12_fewest 50) := by
  unfold f_X11_fewest
  refine qAg (fun x => x) hJ (fun N => by simp only [zletE]; rw [if_neg (by decide)]) (fun N h => ?_) (fun ws tp od a1 a2 im rf N hp hc hr hL hm => ?_)
  · unfold f_X12_fewest
    rw [if_pos h]
  · show Ag (if ((0 : Int32), N).1 = 0 then _ else _) _
    rw [if_pos rfl]
    obtain ⟨N1, e1, u1, F1⟩ := gath_ok hm hL
    have r1 := RI_c hr (Fr_sub F1 (by decide))
    obtain ⟨P, e2, u2, F2⟩ := fu_ok r1 hm
    have hlen := ul_len ws (Ny ws 0 ws.length)
    obtain ⟨z, ez1, ez2⟩ := few_lo u1 u2 (by omega)
    refine okAg hp hc hr (N1 := N1) (a := z) ?_ (Fr_sub F1 sc_u) (P := P) ?_ F2
    · rw [show zr 0 6 = 27 by decide +kernel, show zr 0 5 = 19 by decide +kernel, e1, bindE, ez1, bindE]
    · unfold f_X12_fewest
      rw [if_neg (L29_t r1 hm), e2, bindE, u2.1]
      exact ez2
