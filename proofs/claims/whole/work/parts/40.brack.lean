/-- the text with brackets put in, up to a place -/
def bl (ws : List Int32) (a b : Nat) : Nat → List Int32
  | 0 => []
  | i + 1 => ((bl ws a b i ++ (if i = a then [40] else [])) ++ [wa ws i]) ++ (if i = b then [41] else [])
theorem bl_len (ws : List Int32) (a b : Nat) : ∀ i, (bl ws a b i).length = i + (if a < i then 1 else 0) + (if b < i then 1 else 0) := by
  intro i
  induction i with
  | zero => simp [bl]
  | succ i ih =>
    rw [bl, List.length_append, List.length_append, List.length_append, ih]
    by_cases h1 : i = a
    · rw [if_pos h1]
      by_cases h2 : i = b
      · rw [if_pos h2, if_neg (by omega), if_neg (by omega), if_pos (by omega), if_pos (by omega)]; simp only [List.length_singleton]
      · rw [if_neg h2, if_neg (by omega : ¬ a < i), if_pos (by omega : a < i + 1)]
        by_cases h3 : b < i
        · rw [if_pos h3, if_pos (by omega : b < i + 1)]; simp only [List.length_singleton, List.length_nil]
        · rw [if_neg h3, if_neg (by omega : ¬ b < i + 1)]; simp only [List.length_singleton, List.length_nil]
    · rw [if_neg h1]
      have e1 : (if a < i + 1 then 1 else 0) = (if a < i then 1 else 0) := by
        by_cases h : a < i
        · rw [if_pos h, if_pos (by omega)]
        · rw [if_neg h, if_neg (by omega)]
      rw [e1]
      by_cases h2 : i = b
      · rw [if_pos h2, if_neg (by omega : ¬ b < i), if_pos (by omega : b < i + 1)]; simp only [List.length_singleton, List.length_nil]; omega
      · have e2 : (if b < i + 1 then 1 else 0) = (if b < i then 1 else 0) := by
          by_cases h : b < i
          · rw [if_pos h, if_pos (by omega)]
          · rw [if_neg h, if_neg (by omega)]
        rw [if_neg h2, e2]; simp only [List.length_singleton, List.length_nil]; omega
/-- how many brackets stand, from 32 on; the most of it -/
def so (o : Nat) (x : Int32) : Nat := if x = 40 then o + 1 else if x = 41 then o - 1 else o
def st (p : Nat × Nat) (x : Int32) : Nat × Nat := (so p.1 x, if p.2 < so p.1 x then so p.1 x else p.2)
def ml (l : List Int32) : Nat × Nat := l.foldl st (32, 32)
theorem ml_s (l : List Int32) (x : Int32) : ml (l ++ [x]) = st (ml l) x := by
  unfold ml
  rw [List.foldl_append]
  rfl
theorem so40 (o : Nat) : so o 40 = o + 1 := by unfold so; rw [if_pos rfl]
theorem so41 (o : Nat) : so o 41 = o - 1 := by unfold so; rw [if_neg (by decide), if_pos rfl]
theorem soN {o : Nat} {x : Int32} (h : ¬ x = 40) (h' : ¬ x = 41) : so o x = o := by unfold so; rw [if_neg h, if_neg h']
theorem so_b (o : Nat) (x : Int32) (h : 1 ≤ o) : o ≤ so o x + 1 ∧ so o x ≤ o + 1 := by
  unfold so
  split
  · omega
  · split <;> omega
theorem fold_b : ∀ (l : List Int32) (p : Nat × Nat), l.length < p.1 → p.1 ≤ p.2 → p.1 ≤ (l.foldl st p).1 + l.length ∧ (l.foldl st p).1 ≤ p.1 + l.length ∧ (l.foldl st p).1 ≤ (l.foldl st p).2 ∧ (l.foldl st p).2 ≤ p.2 + l.length := by
  intro l
  induction l with
  | nil => intro p h1 h2; simp only [List.foldl_nil, List.length_nil]; omega
  | cons x l ih =>
    intro p h1 h2
    rw [List.foldl_cons, List.length_cons]
    rw [List.length_cons] at h1
    have hb := so_b p.1 x (by omega)
    have e1 : (st p x).1 = so p.1 x := rfl
    have e2 : (st p x).2 = if p.2 < so p.1 x then so p.1 x else p.2 := rfl
    have h3 : (st p x).1 ≤ (st p x).2 ∧ (st p x).2 ≤ p.2 + 1 ∧ p.2 ≤ (st p x).2 := by
      rw [e1, e2]; split <;> omega
    have := ih (st p x) (by omega) h3.1
    omega
theorem ml_b {l : List Int32} (h : l.length ≤ 23) : 9 ≤ (ml l).1 ∧ (ml l).1 ≤ 55 ∧ (ml l).1 ≤ (ml l).2 ∧ (ml l).2 ≤ 55 := by
  have := fold_b l (32, 32) (by simp only []; omega) (Nat.le_refl _)
  unfold ml
  simp only [] at this
  omega
def sh (o : Nat) : Int32 := nI o - 32
theorem sh_p : ∀ o, o < 64 → sh o + 1 = sh (o + 1) := by decide +kernel
theorem sh_m : ∀ o, o < 64 → 1 ≤ o → sh o + (-1) = sh (o - 1) := by decide +kernel
theorem sh_lt : ∀ a, a < 64 → ∀ b, b < 64 → (sh a < sh b ↔ a < b) := by decide +kernel
theorem sh_le : ∀ a, a < 64 → ∀ b, b < 64 → (sh a ≤ sh b ↔ a ≤ b) := by decide +kernel
theorem sh32 : sh 32 = 0 := by decide +kernel
theorem most6 {L : List Int32} (hl : L.length ≤ 21) {M : ZM} (h : WH M 5 L) : ∀ k i fuel, i + k = L.length → k < fuel → f_X10_mostOpen_6 5 M (fun (v2 : Int32) => some v2) fuel (sh (ml (L.take i)).1) (sh (ml (L.take i)).2) (nI i) = some (sh (ml L).2) := by
  intro k
  induction k with
  | zero =>
    intro i fuel hi hf
    obtain ⟨fuel, rfl⟩ : ∃ m, fuel = m + 1 := ⟨fuel - 1, by omega⟩
    rw [f_X10_mostOpen_6]
    simp only [zletE]
    rw [h.1, if_pos (by rw [nI_le' (by omega) (by omega)]; omega), List.take_of_length_le (by omega)]
  | succ k ih =>
    intro i fuel hi hf
    obtain ⟨fuel, rfl⟩ : ∃ m, fuel = m + 1 := ⟨fuel - 1, by omega⟩
    have hb := ml_b (l := L.take i) (by rw [List.length_take]; omega)
    have hb2 := ml_b (l := L.take (i + 1)) (by rw [List.length_take]; omega)
    have e := ih (i + 1) fuel (by omega) (by omega)
    have es : ml (L.take (i + 1)) = st (ml (L.take i)) (wa L i) := by rw [← wa_take (by omega), ml_s]
    rw [es] at e hb2
    rw [f_X10_mostOpen_6]
    simp only [zletE]
    rw [h.1, if_neg (by rw [nI_le' (by omega) (by omega)]; omega), at_ok WG5 h hl (by omega), nI_s]
    generalize ml (L.take i) = p at *
    obtain ⟨o, m⟩ := p
    simp only [st] at e hb hb2
    have mx : ∀ x : Nat, x < 64 → zmax (sh m) (sh x) = sh (if m < x then x else m) := by
      intro x hx
      unfold zmax
      by_cases q : m < x
      · rw [if_pos ((sh_lt m (by omega) x hx).mpr q), if_pos q]
      · rw [if_neg (fun z => q ((sh_lt m (by omega) x hx).mp z)), if_neg q]
    by_cases h40 : wa L i = 40
    · have e0 : so o (wa L i) = o + 1 := by unfold so; rw [if_pos h40]
      rw [e0] at e
      rw [if_pos h40]
      simp only []
      rw [sh_p o (by omega), mx _ (by omega)]; exact e
    · rw [if_neg h40]
      by_cases h41 : wa L i = 41
      · have e0 : so o (wa L i) = o - 1 := by unfold so; rw [if_neg h40, if_pos h41]
        rw [e0] at e
        rw [if_pos h41]
        simp only []
        rw [sh_m o (by omega) (by omega), mx _ (by omega)]; exact e
      · have e0 : so o (wa L i) = o := by unfold so; rw [if_neg h40, if_neg h41]
        rw [e0] at e
        rw [if_neg h41]
        simp only []
        rw [mx _ (by omega)]; exact e
theorem most_ok {L : List Int32} (hl : L.length ≤ 21) {M : ZM} (h : WH M 5 L) : f_X10_mostOpen 5 M = some (sh (ml L).2) := by
  unfold f_X10_mostOpen
  have := most6 hl h L.length 0 zN (by omega) (by unfold zN; omega)
  rw [List.take_zero, show ml [] = (32, 32) from rfl, sh32, nI0] at this
  exact this
theorem brd7 {ws : List Int32} {a b : Nat} (hl : ws.length + 2 ≤ 21) (K : ZM → Option ZM) (ha : a < 100) (hb : b < 100) : ∀ k i fuel M, i + k = ws.length → k < fuel → WH M 3 ws → WH M 5 (bl ws a b i) → ∃ N, f_X10_bracketed_7 5 3 (nI a) (nI b) K fuel (nI i) M = K N ∧ WH N 5 (bl ws a b ws.length) ∧ Fr [5, 6] M N := by
  intro k
  induction k with
  | zero =>
    intro i fuel M hi hf hu ht
    obtain ⟨fuel, rfl⟩ : ∃ m, fuel = m + 1 := ⟨fuel - 1, by omega⟩
    rw [f_X10_bracketed_7]
    simp only [zletE]
    rw [hu.1, if_pos (by rw [nI_le' (by omega) (by omega)]; omega)]
    exact ⟨M, rfl, by rw [show ws.length = i by omega]; exact ht, Fr_rf _ _⟩
  | succ k ih =>
    intro i fuel M hi hf hu ht
    obtain ⟨fuel, rfl⟩ : ∃ m, fuel = m + 1 := ⟨fuel - 1, by omega⟩
    have hlen := bl_len ws a b i
    have hlen2 : (bl ws a b i).length ≤ i + 2 := by rw [hlen]; split <;> split <;> omega
    have hlb : (bl ws a b (i + 1)).length ≤ i + 3 := by rw [bl_len]; split <;> split <;> omega
    have rest : ∀ M1 L1, Fr [5, 6] M M1 → WH M1 5 L1 → L1.length ≤ 20 → (L1 ++ [wa ws i]) ++ (if i = b then [41] else []) = bl ws a b (i + 1) → ∃ N, (if nI i = nI b then f_X10_bracketed_7 5 3 (nI a) (nI b) K fuel (nI i + 1) (f_X10_add 5 41 (f_X10_add 5 (f_X10_at 3 (nI i) M1) M1)) else f_X10_bracketed_7 5 3 (nI a) (nI b) K fuel (nI i + 1) (f_X10_add 5 (f_X10_at 3 (nI i) M1) M1)) = K N ∧ WH N 5 (bl ws a b ws.length) ∧ Fr [5, 6] M N := by
      intro M1 L1 hF1 hw1 hl1 hL
      have hu1 : WH M1 3 ws := WH_Fr hu hF1 (by decide) (by decide +kernel)
      rw [at_ok WG3 hu1 (by omega) (by omega), nI_s]
      have A := add_ok WG5 (v := wa ws i) hw1 (by omega)
      have FA : Fr [5, 6] M1 (f_X10_add 5 (wa ws i) M1) := Fr_sub A.2 (by decide +kernel)
      by_cases q : i = b
      · rw [if_pos q] at hL
        rw [if_pos (by rw [q])]
        rw [← hL, List.length_append, List.length_append] at hlb
        simp only [List.length_singleton] at hlb
        have B := add_ok WG5 (v := 41) A.1 (by rw [List.length_append, List.length_singleton]; omega)
        rw [hL] at B
        have FB : Fr [5, 6] (f_X10_add 5 (wa ws i) M1) (f_X10_add 5 41 (f_X10_add 5 (wa ws i) M1)) := Fr_sub B.2 (by decide +kernel)
        have FT := Fr_tr hF1 (Fr_tr FA FB)
        obtain ⟨N, e, hN, hF⟩ := ih (i + 1) fuel _ (by omega) (by omega) (WH_Fr hu FT (by decide) (by decide +kernel)) B.1
        exact ⟨N, e, hN, Fr_tr FT hF⟩
      · rw [if_neg q, List.append_nil] at hL
        rw [if_neg (by rw [nI_inj (by omega) (by omega)]; exact q)]
        rw [hL] at A
        have FT := Fr_tr hF1 FA
        obtain ⟨N, e, hN, hF⟩ := ih (i + 1) fuel _ (by omega) (by omega) (WH_Fr hu FT (by decide) (by decide +kernel)) A.1
        exact ⟨N, e, hN, Fr_tr FT hF⟩
    rw [f_X10_bracketed_7]
    simp only [zletE]
    rw [hu.1, if_neg (by rw [nI_le' (by omega) (by omega)]; omega)]
    by_cases q : i = a
    · rw [if_pos (by rw [q])]
      have A := add_ok WG5 (v := 40) ht (by omega)
      have hla : (bl ws a b i ++ [40]).length ≤ 20 := by
        rw [List.length_append, List.length_singleton, hlen, if_neg (by omega)]; split <;> omega
      exact rest _ _ (Fr_sub A.2 (by decide +kernel)) A.1 hla (by rw [bl, if_pos q])
    · rw [if_neg (by rw [nI_inj (by omega) (by omega)]; exact q)]
      exact rest M _ (Fr_rf _ _) ht (by omega) (by rw [bl, if_neg q, List.append_nil])
/-- the reference's row of what is made -/
def MB (M : ZM) (L : List Int32) : Prop := ∀ k, k < L.length → M.1 73 k = wa L k
theorem MB_s {M : ZM} {L : List Int32} (h : MB M L) (x : Int32) : MB (zi M 73 L.length x) (L ++ [x]) := by
  intro k hk
  rw [List.length_append, List.length_singleton] at hk
  by_cases q : k = L.length
  · rw [q, zi_eq, wa_end]
  · rw [zi_k q, wa_app (by omega)]; exact h k (by omega)
theorem brk44 {ws : List Int32} {a b : Nat} (hl : ws.length ≤ 21) (K : Int32 → Int32 → ZM → Option (Int32 × ZM)) (ha : a < 100) (hb : b < 100) : ∀ k i fuel M, i + k = ws.length → k < fuel → RW M ws → MB M (bl ws a b i) → ∃ N, f_X12_bracket_44 50 (nI a) (nI b) K fuel (nI (bl ws a b i).length) (sh (ml (bl ws a b i)).1) (sh (ml (bl ws a b i)).2) (nI i) M = K (nI (bl ws a b ws.length).length) (sh (ml (bl ws a b ws.length)).2) N ∧ MB N (bl ws a b ws.length) ∧ N.2 = M.2 ∧ (∀ c, c ≠ 73 → N.1 c = M.1 c) := by
  intro k
  induction k with
  | zero =>
    intro i fuel M hi hf hu ht
    obtain ⟨fuel, rfl⟩ : ∃ m, fuel = m + 1 := ⟨fuel - 1, by omega⟩
    rw [f_X12_bracket_44]
    simp only [zletE]
    rw [hu.1, if_pos (by rw [nI_le' (by omega) (by omega)]; omega)]
    exact ⟨M, by rw [show ws.length = i by omega], by rw [show ws.length = i by omega]; exact ht, rfl, fun _ _ => rfl⟩
  | succ k ih =>
    intro i fuel M hi hf hu ht
    obtain ⟨fuel, rfl⟩ : ∃ m, fuel = m + 1 := ⟨fuel - 1, by omega⟩
    have hlen := bl_len ws a b i
    have hlen2 : (bl ws a b i).length ≤ i + 2 := by rw [hlen]; split <;> split <;> omega
    have z73 : ∀ n, n < 23 → zin (nI n) (zn (zr 50 38)) = true := fun n hn => by rw [show zr 50 38 = 73 by decide +kernel, show zn 73 = 23 by decide +kernel]; exact zin_t hn (by omega)
    have e73 : zr 50 38 = 73 := by decide +kernel
    have up : ∀ (P : ZM), (∀ c, c ≠ 73 → P.1 c = M.1 c) → RW P ws := fun P hP => ⟨by rw [hP 50 (by decide)]; exact hu.1, fun j hj => by rw [hP 52 (by decide)]; exact hu.2 j hj⟩
    -- the end of a step: the closing bracket
    have last : ∀ (P : ZM) (L : List Int32), MB P L → L.length ≤ 23 ∧ (i = b → L.length ≤ 22) → P.2 = M.2 → (∀ c, c ≠ 73 → P.1 c = M.1 c) → L ++ (if i = b then [41] else []) = bl ws a b (i + 1) → ∃ N, (if nI i = nI b then zck (zin (nI L.length) (zn (zr 50 38))) (f_X12_bracket_44 50 (nI a) (nI b) K fuel (nI L.length + 1) (sh (ml L).1 + (-1)) (sh (ml L).2) (nI i + 1) (zi P (zr 50 38) (nI L.length).toNatClampNeg 41)) else f_X12_bracket_44 50 (nI a) (nI b) K fuel (nI L.length) (sh (ml L).1) (sh (ml L).2) (nI i + 1) P) = K (nI (bl ws a b ws.length).length) (sh (ml (bl ws a b ws.length)).2) N ∧ MB N (bl ws a b ws.length) ∧ N.2 = M.2 ∧ (∀ c, c ≠ 73 → N.1 c = M.1 c) := by
      intro P L hM hL h2 h1 hE
      have hbd := ml_b (l := L) (by omega)
      rw [nI_s, nI_s]
      by_cases q : i = b
      · have hL2 := hL.2 q
        rw [if_pos q] at hE
        rw [if_pos (by rw [q]), zckT (z73 _ (by omega)), e73, nI_tn (by omega), sh_m _ (by omega) (by omega)]
        have es : ml (bl ws a b (i + 1)) = ((ml L).1 - 1, (ml L).2) := by
          rw [← hE, ml_s]
          have e0 : so (ml L).1 41 = (ml L).1 - 1 := by unfold so; rw [if_neg (by decide), if_pos rfl]
          unfold st
          rw [e0, if_neg (by omega)]
        have hP := MB_s hM 41
        rw [hE] at hP
        have hk : ∀ c, c ≠ 73 → (zi P 73 L.length 41).1 c = M.1 c := fun c hc => by rw [← h1 c hc]; funext j; exact zi_ne hc
        obtain ⟨N, e, n1, n2, n3⟩ := ih (i + 1) fuel (zi P 73 L.length 41) (by omega) (by omega) (up _ hk) hP
        rw [es, ← hE, List.length_append, List.length_singleton] at e
        exact ⟨N, e, n1, n2.trans h2, fun c hc => (n3 c hc).trans (hk c hc)⟩
      · rw [if_neg q, List.append_nil] at hE
        rw [if_neg (by rw [nI_inj (by omega) (by omega)]; exact q)]
        obtain ⟨N, e, n1, n2, n3⟩ := ih (i + 1) fuel P (by omega) (by omega) (up _ h1) (hE ▸ hM)
        rw [← hE] at e
        exact ⟨N, e, n1, n2.trans h2, fun c hc => (n3 c hc).trans (h1 c hc)⟩
    -- the word itself
    have mid : ∀ (P : ZM) (L : List Int32), MB P L → L.length ≤ 22 ∧ (i = b → L.length ≤ 21) → P.2 = M.2 → (∀ c, c ≠ 73 → P.1 c = M.1 c) → (L ++ [wa ws i]) ++ (if i = b then [41] else []) = bl ws a b (i + 1) → ∀ (s1 : Int32) (d : Nat), d = so (ml L).1 (wa ws i) → sh (ml L).1 + s1 = sh d → ∃ N, (if sh (ml L).1 + s1 ≤ sh (ml L).2 then (if nI i = nI b then zck (zin (nI L.length + 1) (zn (zr 50 38))) (f_X12_bracket_44 50 (nI a) (nI b) K fuel (nI L.length + 1 + 1) (sh (ml L).1 + s1 + (-1)) (sh (ml L).2) (nI i + 1) (zi (zi P (zr 50 38) (nI L.length).toNatClampNeg (wa ws i)) (zr 50 38) (nI L.length + 1).toNatClampNeg 41)) else f_X12_bracket_44 50 (nI a) (nI b) K fuel (nI L.length + 1) (sh (ml L).1 + s1) (sh (ml L).2) (nI i + 1) (zi P (zr 50 38) (nI L.length).toNatClampNeg (wa ws i))) else (if nI i = nI b then zck (zin (nI L.length + 1) (zn (zr 50 38))) (f_X12_bracket_44 50 (nI a) (nI b) K fuel (nI L.length + 1 + 1) (sh (ml L).1 + s1 + (-1)) (sh (ml L).1 + s1) (nI i + 1) (zi (zi P (zr 50 38) (nI L.length).toNatClampNeg (wa ws i)) (zr 50 38) (nI L.length + 1).toNatClampNeg 41)) else f_X12_bracket_44 50 (nI a) (nI b) K fuel (nI L.length + 1) (sh (ml L).1 + s1) (sh (ml L).1 + s1) (nI i + 1) (zi P (zr 50 38) (nI L.length).toNatClampNeg (wa ws i)))) = K (nI (bl ws a b ws.length).length) (sh (ml (bl ws a b ws.length)).2) N ∧ MB N (bl ws a b ws.length) ∧ N.2 = M.2 ∧ (∀ c, c ≠ 73 → N.1 c = M.1 c) := by
      intro P L hM hL h2 h1 hE s1 d hd hs1
      have hbd := ml_b (l := L) (by omega)
      have hbd2 := ml_b (l := L ++ [wa ws i]) (by rw [List.length_append, List.length_singleton]; omega)
      have hk : ∀ c, c ≠ 73 → (zi P 73 L.length (wa ws i)).1 c = M.1 c := fun c hc => by rw [← h1 c hc]; funext j; exact zi_ne hc
      obtain ⟨N, e, r⟩ := last (zi P 73 L.length (wa ws i)) (L ++ [wa ws i]) (MB_s hM _) (by rw [List.length_append, List.length_singleton]; exact ⟨by omega, fun z => by have := hL.2 z; omega⟩) h2 hk hE
      have hm : ml (L ++ [wa ws i]) = (d, if (ml L).2 < d then d else (ml L).2) := by rw [ml_s, hd]; rfl
      rw [hm] at e hbd2
      rw [List.length_append, List.length_singleton, ← nI_s] at e
      refine ⟨N, ?_, r⟩
      rw [hs1, e73, nI_tn (a := L.length) (by omega)]
      rw [e73] at e
      by_cases q : (ml L).2 < d
      · rw [if_pos q] at e
        rw [if_neg (by rw [sh_le d (by simp only [] at hbd2; omega) _ (by omega)]; omega)]
        exact e
      · rw [if_neg q] at e
        rw [if_pos (by rw [sh_le d (by simp only [] at hbd2; omega) _ (by omega)]; omega)]
        exact e
    rw [f_X12_bracket_44]
    simp only [zletE]
    rw [hu.1, if_neg (by rw [nI_le' (by omega) (by omega)]; omega)]
    have wrd : ∀ (P : ZM) (j : Nat) (v : Int32), P.1 52 = M.1 52 → (zi P (zr 50 38) j v).1 (zr 50 1) (nI i).toNatClampNeg = wa ws i := by
      intro P j v h
      rw [z52, e73, nI_tn (by omega), zi_ne (by decide), h]
      exact hu.2 i (by omega)
    have hbd := ml_b (l := bl ws a b i) (by omega)
    by_cases q : i = a
    · have hla : (bl ws a b i).length ≤ 21 ∧ (i = b → (bl ws a b i).length ≤ 20) := by
        rw [hlen, if_neg (by omega : ¬ a < i)]
        refine ⟨by split <;> omega, fun z => ?_⟩
        rw [if_neg (by omega)]; omega
      have g0 := MB_s ht 40
      have gk : ∀ c, c ≠ 73 → (zi M 73 (bl ws a b i).length 40).1 c = M.1 c := fun c hc => by funext j; exact zi_ne hc
      have m := mid (zi M 73 (bl ws a b i).length 40) (bl ws a b i ++ [40]) g0 (by rw [List.length_append, List.length_singleton]; exact ⟨by omega, fun z => by have := hla.2 z; omega⟩) rfl gk (by rw [bl, if_pos q])
      have hbd' := ml_b (l := bl ws a b i ++ [40]) (by rw [List.length_append, List.length_singleton]; omega)
      have hm1 : (ml (bl ws a b i ++ [40])).1 = (ml (bl ws a b i)).1 + 1 := by rw [ml_s]; exact so40 _
      have hm2 : (ml (bl ws a b i ++ [40])).2 = if (ml (bl ws a b i)).2 < (ml (bl ws a b i)).1 + 1 then (ml (bl ws a b i)).1 + 1 else (ml (bl ws a b i)).2 := by
        rw [ml_s]
        unfold st
        rw [so40]
      have hl1 : (bl ws a b i ++ [40]).length = (bl ws a b i).length + 1 := by rw [List.length_append, List.length_singleton]
      have m40 := fun h : wa ws i = 40 => m 1 _ rfl (by rw [h, so40]; exact sh_p _ (by omega))
      have m41 := fun h : wa ws i = 41 => m (-1) _ rfl (by rw [h, so41]; exact sh_m _ (by omega) (by omega))
      have m42 := fun (h : ¬ wa ws i = 40) (h' : ¬ wa ws i = 41) => m 0 _ rfl (by rw [soN h h', Int32.add_zero])
      rw [hl1, hm1, hm2, e73] at m40 m41 m42
      rw [if_pos (by rw [q]), zckT (z73 _ (by omega)), sh_p _ (by omega)]
      have wrd2 : ∀ (j : Nat) (v : Int32), (zi (zi M 73 (bl ws a b i).length 40) 73 j v).1 (zr 50 1) (nI i).toNatClampNeg = wa ws i := by
        intro j v
        rw [z52, nI_tn (by omega), zi_ne (by decide), zi_ne (by decide)]
        exact hu.2 i (by omega)
      have wrd1 : (zi M 73 (bl ws a b i).length 40).1 (zr 50 1) (nI i).toNatClampNeg = wa ws i := by
        rw [z52, nI_tn (by omega), zi_ne (by decide)]
        exact hu.2 i (by omega)
      by_cases c : (ml (bl ws a b i)).2 < (ml (bl ws a b i)).1 + 1
      · rw [if_pos c] at m40 m41 m42
        rw [if_neg (by rw [sh_le _ (by omega) _ (by omega)]; omega), zckT (zwd_in (by omega)), show nI (bl ws a b i).length + 1 = nI ((bl ws a b i).length + 1) from nI_s _, zckT (z73 _ (by omega)), zckT (zwd_in (by omega)), e73, nI_tn (a := (bl ws a b i).length) (by omega), wrd1, wrd2, zckT (zwd_in (by omega))]
        by_cases h40 : wa ws i = 40
        · rw [if_pos h40]; exact m40 h40
        · rw [if_neg h40]
          by_cases h41 : wa ws i = 41
          · rw [if_pos h41]; exact m41 h41
          · rw [if_neg h41]; exact m42 h40 h41
      · rw [if_neg c] at m40 m41 m42
        rw [if_pos (by rw [sh_le _ (by omega) _ (by omega)]; omega), zckT (zwd_in (by omega)), show nI (bl ws a b i).length + 1 = nI ((bl ws a b i).length + 1) from nI_s _, zckT (z73 _ (by omega)), zckT (zwd_in (by omega)), e73, nI_tn (a := (bl ws a b i).length) (by omega), wrd1, wrd2, zckT (zwd_in (by omega))]
        by_cases h40 : wa ws i = 40
        · rw [if_pos h40]; exact m40 h40
        · rw [if_neg h40]
          by_cases h41 : wa ws i = 41
          · rw [if_pos h41]; exact m41 h41
          · rw [if_neg h41]; exact m42 h40 h41
    · have hla : (bl ws a b i).length ≤ 22 ∧ (i = b → (bl ws a b i).length ≤ 21) := by
        refine ⟨by omega, fun z => ?_⟩
        rw [hlen, if_neg (by omega : ¬ b < i)]
        split <;> omega
      have m := mid M (bl ws a b i) ht hla rfl (fun _ _ => rfl) (by rw [bl, if_neg q, List.append_nil])
      have m40 := fun h : wa ws i = 40 => m 1 _ rfl (by rw [h]; unfold so; rw [if_pos rfl]; exact sh_p _ (by omega))
      have m41 := fun h : wa ws i = 41 => m (-1) _ rfl (by rw [h]; unfold so; rw [if_neg (by decide), if_pos rfl]; exact sh_m _ (by omega) (by omega))
      have m42 := fun (h : ¬ wa ws i = 40) (h' : ¬ wa ws i = 41) => m 0 _ rfl (by unfold so; rw [if_neg h, if_neg h', Int32.add_zero])
      rw [if_neg (by rw [nI_inj (by omega) (by omega)]; exact q), zckT (zwd_in (by omega)), zckT (z73 _ (by omega)), zckT (zwd_in (by omega)), wrd M _ _ rfl, zckT (zwd_in (by omega)), zwd_at hl hu (by omega)]
      by_cases h40 : wa ws i = 40
      · rw [if_pos h40]; exact m40 h40
      · rw [if_neg h40]
        by_cases h41 : wa ws i = 41
        · rw [if_pos h41]; exact m41 h41
        · rw [if_neg h41]; exact m42 h40 h41
