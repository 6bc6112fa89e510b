/-- the text with brackets put in, up to a place -/
def bl (ws : List Int32) (a b : Nat) : Nat → List Int32
  | 0 => []
  | i + 1 => ((bl ws a b i ++ (if i = a then [40] else [])) ++ [wa ws i]) ++ (if i = b then [41] else [])
theorem bl_len (ws : List Int32) (a b : Nat) : ∀ i, (bl ws a b i).length = i + (if a < i then 1 else 0) + (if b < i then 1 else 0) := by
  intro i
  induction i with
  | zero => simp [bl]
  | succ i ih =>
    rw [bl, List.length_append, List.length_append, List.length_append, ih]
    by_cases h1 : i = a
    · rw [if_pos h1]
      by_cases h2 : i = b
      · rw [if_pos h2, if_neg (by omega), if_neg (by omega), if_pos (by omega), if_pos (by omega)]; simp only [List.length_singleton]
      · rw [if_neg h2, if_neg (by omega : ¬ a < i), if_pos (by omega : a < i + 1)]
        by_cases h3 : b < i
        · rw [if_pos h3, if_pos (by omega : b < i + 1)]; simp only [List.length_singleton, List.length_nil]
        · rw [if_neg h3, if_neg (by omega : ¬ b < i + 1)]; simp only [List.length_singleton, List.length_nil]
    · rw [if_neg h1]
      have e1 : (if a < i + 1 then 1 else 0) = (if a < i then 1 else 0) := by
        by_cases h : a < i
        · rw [if_pos h, if_pos (by omega)]
        · rw [if_neg h, if_neg (by omega)]
      rw [e1]
      by_cases h2 : i = b
      · rw [if_pos h2, if_neg (by omega : ¬ b < i), if_pos (by omega : b < i + 1)]; simp only [List.length_singleton, List.length_nil]; omega
      · have e2 : (if b < i + 1 then 1 else 0) = (if b < i then 1 else 0) := by
          by_cases h : b < i
          · rw [if_pos h, if_pos (by omega)]
          · rw [if_neg h, if_neg (by omega)]
        rw [if_neg h2, e2]; simp only [List.length_singleton, List.length_nil]; omega
/-- how many brackets stand, from 32 on; the most of it -/
def so (o : Nat) (x : Int32) : Nat := if x = 40 then o + 1 else if x = 41 then o - 1 else o
def st (p : Nat × Nat) (x : Int32) : Nat × Nat := (so p.1 x, if p.2 < so p.1 x then so p.1 x else p.2)
def ml (l : List Int32) : Nat × Nat := l.foldl st (32, 32)
theorem ml_s (l : List Int32) (x : Int32) : ml (l ++ [x]) = st (ml l) x := by
  unfold ml
  rw [List.foldl_append]
  rfl
theorem so40 (o : Nat) : so o 40 = o + 1 := by unfold so; rw [if_pos rfl]
theorem so41 (o : Nat) : so o 41 = o - 1 := by unfold so; rw [if_neg (by decide), if_pos rfl]
theorem soN {o : Nat} {x : Int32} (h : ¬ x = 40) (h' : ¬ x = 41) : so o x = o := by unfold so; rw [if_neg h, if_neg h']
theorem so_b (o : Nat) (x : Int32) (h : 1 ≤ o) : o ≤ so o x + 1 ∧ so o x ≤ o + 1 := by
  unfold so
  split
  · omega
  · split <;> omega
theorem fold_b : ∀ (l : List Int32) (p : Nat × Nat), l.length < p.1 → p.1 ≤ p.2 → p.1 ≤ (l.foldl st p).1 + l.length ∧ (l.foldl st p).1 ≤ p.1 + l.length ∧ (l.foldl st p).1 ≤ (l.foldl st p).2 ∧ (l.foldl st p).2 ≤ p.2 + l.length := by
  intro l
  induction l with
  | nil => intro p h1 h2; simp only [List.foldl_nil, List.length_nil]; omega
  | cons x l ih =>
    intro p h1 h2
    rw [List.foldl_cons, List.length_cons]
    rw [List.length_cons] at h1
    have hb := so_b p.1 x (by omega)
    have e1 : (st p x).1 = so p.1 x := rfl
    have e2 : (st p x).2 = if p.2 < so p.1 x then so p.1 x else p.2 := rfl
    have h3 : (st p x).1 ≤ (st p x).2 ∧ (st p x).2 ≤ p.2 + 1 ∧ p.2 ≤ (st p x).2 := by
      rw [e1, e2]; split <;> omega
    have := ih (st p x) (by omega) h3.1
    omega
theorem ml_b {l : List Int32} (h : l.length ≤ 23) : 9 ≤ (ml l).1 ∧ (ml l).1 ≤ 55 ∧ (ml l).1 ≤ (ml l).2 ∧ (ml l).2 ≤ 55 := by
  have := fold_b l (32, 32) (by simp only []; omega) (Nat.le_refl _)
  unfold ml
  simp only [] at this
  omega
def sh (o : Nat) : Int32 := nI o - 32
theorem sh_p : ∀ o, o < 64 → sh o + 1 = sh (o + 1) := by decide +kernel
theorem sh_m : ∀ o, o < 64 → 1 ≤ o → sh o + (-1) = sh (o - 1) := by decide +kernel
theorem sh_lt : ∀ a, a < 64 → ∀ b, b < 64 → (sh a < sh b ↔ a < b) := by decide +kernel
theorem sh_le : ∀ a, a < 64 → ∀ b, b < 64 → (sh a ≤ sh b ↔ a ≤ b) := by decide +kernel
theorem sh32 : sh 32 = 0 := by decide +kernel
theorem most6 {L : List Int32} (hl : L.length ≤ 21) {M : ZM} (h : WH M 5 L) : ∀ k i fuel, i + k = L.length → k < fuel → f_X10_mostOpen_6 5 M (fun (v2 : Int32) => some v2) fuel (sh (ml (L.take i)).1) (sh (ml (L.take i)).2) (nI i) = some (sh (ml L).2) := by
  intro k
  induction k with
  | zero =>
    intro i fuel hi hf
    obtain ⟨fuel, rfl⟩ : ∃ m, fuel = m + 1 := ⟨fuel - 1, by omega⟩
    rw [f_X10_mostOpen_6]
    simp only [zletE]
    rw [h.1, if_pos (by rw [nI_le' (by omega) (by omega)]; omega), List.take_of_length_le (by omega)]
  | succ k ih =>
    intro i fuel hi hf
    obtain ⟨fuel, rfl⟩ : ∃ m, fuel = m + 1 := ⟨fuel - 1, by omega⟩
    have hb := ml_b (l := L.take i) (by rw [List.length_take]; omega)
    have hb2 := ml_b (l := L.take (i + 1)) (by rw [List.length_take]; omega)
    have e := ih (i + 1) fuel (by omega) (by omega)
    have es : ml (L.take (i + 1)) = st (ml (L.take i)) (wa L i) := by rw [← wa_take (by omega), ml_s]
    rw [es] at e hb2
    rw [f_X10_mostOpen_6]
    simp only [zletE]
    rw [h.1, if_neg (by rw [nI_le' (by omega) (by omega)]; omega), at_ok WG5 h hl (by omega), nI_s]
    generalize ml (L.take i) = p at *
    obtain ⟨o, m⟩ := p
    simp only [st] at e hb hb2
    have mx : ∀ x : Nat, x < 64 → zmax (sh m) (sh x) = sh (if m < x then x else m) := by
      intro x hx
      unfold zmax
      by_cases q : m < x
      · rw [if_pos ((sh_lt m (by omega) x hx).mpr q), if_pos q]
      · rw [if_neg (fun z => q ((sh_lt m (by omega) x hx).mp z)), if_neg q]
    by_cases h40 : wa L i = 40
    · have e0 : so o (wa L i) = o + 1 := by unfold so; rw [if_pos h40]
      rw [e0] at e
      rw [if_pos h40]
      simp only []
      rw [sh_p o (by omega), mx _ (by omega)]; exact e
    · rw [if_neg h40]
      by_cases h41 : wa L i = 41
      · have e0 : so o (wa L i) = o - 1 := by unfold so; rw [if_neg h40, if_pos h41]
        rw [e0] at e
        rw [if_pos h41]
        simp only []
        rw [sh_m o (by omega) (by omega), mx _ (by omega)]; exact e
      · have e0 : so o (wa L i) = o := by unfold so; rw [if_neg h40, if_neg h41]
        rw [e0] at e
        rw [if_neg h41]
        simp only []
        rw [mx _ (by omega)]; exact e
theorem most_ok {L : List Int32} (hl : L.length ≤ 21) {M : ZM} (h : WH M 5 L) : f_X10_mostOpen 5 M = some (sh (ml L).2) := by
  unfold f_X10_mostOpen
  have := most6 hl h L.length 0 zN (by omega) (by unfold zN; omega)
  rw [List.take_zero, show ml [] = (32, 32) from rfl, sh32, nI0] at this
  exact this
theorem brd7 {ws : List Int32} {a b : Nat} (hl : ws.length + 2 ≤ 21) (K : ZM → Option ZM) (ha : a < 100) (hb : b < 100) : ∀ k i fuel M, i + k = ws.length → k < fuel → WH M 3 ws → WH M 5 (bl ws a b i) → ∃ N, f_X10_bracketed_7 5 3 (nI a) (nI b) K fuel (nI i) M = K N ∧ WH N 5 (bl ws a b ws.length) ∧ Fr [5, 6] M N := by
  intro k
  induction k with
  | zero =>
    intro i fuel M hi hf hu ht
    obtain ⟨fuel, rfl⟩ : ∃ m, fuel = m + 1 := ⟨fuel - 1, by omega⟩
    rw [f_X10_bracketed_7]
    simp only [zletE]
    rw [hu.1, if_pos (by rw [nI_le' (by omega) (by omega)]; omega)]
    exact ⟨M, rfl, by rw [show ws.length = i by omega]; exact ht, Fr_rf _ _⟩
  | succ k ih =>
    intro i fuel M hi hf hu ht
    obtain ⟨fuel, rfl⟩ : ∃ m, fuel = m + 1 := ⟨fuel - 1, by omega⟩
    have hlen := bl_len ws a b i
    have hlen2 : (bl ws a b i).length ≤ i + 2 := by rw [hlen]; split <;> split <;> omega
    have hlb : (bl ws a b (i + 1)).length ≤ i + 3 := by rw [bl_len]; split <;> split <;> omega
    have rest : ∀ M1 L1, Fr [5, 6] M M1 → WH M1 5 L1 → L1.length ≤ 20 → (L1 ++ [wa ws i]) ++ (if i = b then [41] else []) = bl ws a b (i + 1) → ∃ N, (if nI i = nI b then f_X10_bracketed_7 5 3 (nI a) (nI b) K fuel (nI i + 1) (f_X10_add 5 41 (f_X10_add 5 (f_X10_at 3 (nI i) M1) M1)) else f_X10_bracketed_7 5 3 (nI a) (nI b) K fuel (nI i + 1) (f_X10_add 5 (f_X10_at 3 (nI i) M1) M1)) = K N ∧ WH N 5 (bl ws a b ws.length) ∧ Fr [5, 6] M N := by
      intro M1 L1 hF1 hw1 hl1 hL
      have hu1 : WH M1 3 ws := WH_Fr hu hF1 (by decide) (by decide +kernel)
      rw [at_ok WG3 hu1 (by omega) (by omega), nI_s]
      have A := add_ok WG5 (v := wa ws i) hw1 (by omega)
      have FA : Fr [5, 6] M1 (f_X10_add 5 (wa ws i) M1) := Fr_sub A.2 (by decide +kernel)
      by_cases q : i = b
      · rw [if_pos q] at hL
        rw [if_pos (by rw [q])]
        rw [← hL, List.length_append, List.length_append] at hlb
        simp only [List.length_singleton] at hlb
        have B := add_ok WG5 (v := 41) A.1 (by rw [List.length_append, List.length_singleton]; omega)
        rw [hL] at B
        have FB : Fr [5, 6] (f_X10_add 5 (wa ws i) M1) (f_X10_add 5 41 (f_X10_add 5 (wa ws i) M1)) := Fr_sub B.2 (by decide +kernel)
        have FT := Fr_tr hF1 (Fr_tr FA FB)
        obtain ⟨N, e, hN, hF⟩ := ih (i + 1) fuel _ (by omega) (by omega) (WH_Fr hu FT (by decide) (by decide +kernel)) B.1
        exact ⟨N, e, hN, Fr_tr FT hF⟩
      · rw [if_neg q, List.append_nil] at hL
        rw [if_neg (by rw [nI_inj (by omega) (by omega)]; exact q)]
        rw [hL] at A
        have FT := Fr_tr hF1 FA
        obtain ⟨N, e, hN, hF⟩ := ih (i + 1) fuel _ (by omega) (by omega) (WH_Fr hu FT (by decide) (by decide +kernel)) A.1
        exact ⟨N, e, hN, Fr_tr FT hF⟩
    rw [f_X10_bracketed_7]
    simp only [zletE]
    rw [hu.1, if_neg (by rw [nI_le' (by omega) (by omega)]; omega)]
    by_cases q : i = a
    · rw [if_pos (by rw [q])]
      have A := add_ok WG5 (v := 40) ht (by omega)
      have hla : (bl ws a b i ++ [40]).length ≤ 20 := by
        rw [List.length_append, List.length_singleton, hlen, if_neg (by omega)]; split <;> omega
      exact rest _ _ (Fr_sub A.2 (by decide +kernel)) A.1 hla (by rw [bl, if_pos q])
    · rw [if_neg (by rw [nI_inj (by omega) (by omega)]; exact q)]
      exact rest M _ (Fr_rf _ _) ht (by omega) (by rw [bl, if_neg q, List.append_nil])
/-- the reference's row of what is made -/
def MB (M : ZM) (L : List Int32) : Prop := ∀ k, k < L.length → M.1 73 k = wa L k
theorem MB_s {M : ZM} {L : List Int32} (h : MB M L) (x : Int32) : MB (zi M 73 L.length x) (L ++ [x]) := by
  intro k hk
  rw [List.length_append, List.length_singleton] at hk
  by_cases q : k = L.length
  · rw [q, zi_eq, wa_end]
  · rw [zi_k q, wa_app (by omega)]; exact h k (by omega)
theorem brk44 {ws : List Int32} {a b : Nat} (hl : ws.length ≤ 21) (K : Int32 → Int32 → ZM → Option (Int32 × ZM)) (ha : a < 100) (hb : b < 100) : ∀ k i fuel M, i + k = ws.length → k < fuel → RW M ws → MB M (bl ws a b i) → ∃ N, f_X12_bracket_44 50 (nI a) (nI b) K fuel (nI (bl ws a b i).length) (sh (ml (bl ws a b i)).1) (sh (ml (bl ws a b i)).2) (nI i) M = K (nI (bl ws a b ws.length).length) (sh (ml (bl ws a b ws.length)).2) N ∧ MB N (bl ws a b ws.length) ∧ N.2 = M.2 ∧ (∀ c, c ≠ 73 → N.1 c = M.1 c) := by
  intro k
  induction k with
  | zero =>
    intro i fuel M hi hf hu ht
    obtain ⟨fuel, rfl⟩ : ∃ m, fuel = m + 1 := ⟨fuel - 1, by omega⟩
    rw [f_X12_bracket_44]
    simp only [zletE]
    rw [hu.1, if_pos (by rw [nI_le' (by omega) (by omega)]; omega)]
    exact ⟨M, by rw [show ws.length = i by omega], by rw [show ws.length = i by omega]; exact ht, rfl, fun _ _ => rfl⟩
  | succ k ih =>
    intro i fuel M hi hf hu ht
    obtain ⟨fuel, rfl⟩ : ∃ m, fuel = m + 1 := ⟨fuel - 1, by omega⟩
    have hlen := bl_len ws a b i
    have hlen2 : (bl ws a b i).length ≤ i + 2 := by rw [hlen]; split <;> split <;> omega
    have z73 : ∀ n, n < 23 → zin (nI n) (zn (zr 50 38)) = true := fun n hn => by rw [show zr 50 38 = 73 by decide +kernel, show zn 73 = 23 by decide +kernel]; exact zin_t hn (by omega)
    have e73 : zr 50 38 = 73 := by decide +kernel
    have up : ∀ (P : ZM), (∀ c, c ≠ 73 → P.1 c = M.1 c) → RW P ws := fun P hP => ⟨by rw [hP 50 (by decide)]; exact hu.1, fun j hj => by rw [hP 52 (by decide)]; exact hu.2 j hj⟩
    -- the end of a step: the closing bracket
    have last : ∀ (P : ZM) (L : List Int32), MB P L → L.length ≤ 23 ∧ (i = b → L.length ≤ 22) → P.2 = M.2 → (∀ c, c ≠ 73 → P.1 c = M.1 c) → L ++ (if i = b then [41] else []) = bl ws a b (i + 1) → ∃ N, (if nI i = nI b then zck (zin (nI L.length) (zn (zr 50 38))) (f_X12_bracket_44 50 (nI a) (nI b) K fuel (nI L.length + 1) (sh (ml L).1 + (-1)) (sh (ml L).2) (nI i + 1) (zi P (zr 50 38) (nI L.length).toNatClampNeg 41)) else f_X12_bracket_44 50 (nI a) (nI b) K fuel (nI L.length) (sh (ml L).1) (sh (ml L).2) (nI i + 1) P) = K (nI (bl ws a b ws.length).length) (sh (ml (bl ws a b ws.length)).2) N ∧ MB N (bl ws a b ws.length) ∧ N.2 = M.2 ∧ (∀ c, c ≠ 73 → N.1 c = M.1 c) := by
      intro P L hM hL h2 h1 hE
      have hbd := ml_b (l := L) (by omega)
      rw [nI_s, nI_s]
      by_cases q : i = b
      · have hL2 := hL.2 q
        rw [if_pos q] at hE
        rw [if_pos (by rw [q]), zckT (z73 _ (by omega)), e73, nI_tn (by omega), sh_m _ (by omega) (by omega)]
        have es : ml (bl ws a b (i + 1)) = ((ml L).1 - 1, (ml L).2) := by
          rw [← hE, ml_s]
          have e0 : so (ml L).1 41 = (ml L).1 - 1 := by unfold so; rw [if_neg (by decide), if_pos rfl]
          unfold st
          rw [e0, if_neg (by omega)]
        have hP := MB_s hM 41
        rw [hE] at hP
        have hk : ∀ c, c ≠ 73 → (zi P 73 L.length 41).1 c = M.1 c := fun c hc => by rw [← h1 c hc]; funext j; exact zi_ne hc
        obtain ⟨N, e, n1, n2, n3⟩ := ih (i + 1) fuel (zi P 73 L.length 41) (by omega) (by omega) (up _ hk) hP
        rw [es, ← hE, List.length_append, List.length_singleton] at e
        exact ⟨N, e, n1, n2.trans h2, fun c hc => (n3 c hc).trans (hk c hc)⟩
      · rw [if_neg q, List.append_nil] at hE
        rw [if_neg (by rw [nI_inj (by omega) (by omega)]; exact q)]
        obtain ⟨N, e, n1, n2, n3⟩ := ih (i + 1) fuel P (by omega) (by omega) (up _ h1) (hE ▸ hM)
        rw [← hE] at e
        exact ⟨N, e, n1, n2.trans h2, fun c hc => (n3 c hc).trans (h1 c hc)⟩
    -- the word itself
    have mid : ∀ (P : ZM) (L : List Int32), MB P L → L.length ≤ 22 ∧ (i = b → L.length ≤ 21) → P.2 = M.2 → (∀ c, c ≠ 73 → P.1 c = M.1 c) → (L ++ [wa ws i]) ++ (if i = b then [41] else []) = bl ws a b (i + 1) → ∀ (s1 : Int32) (d : Nat), d = so (ml L).1 (wa ws i) → sh (ml L).1 + s1 = sh d → ∃ N, (if sh (ml L).1 + s1 ≤ sh (ml L).2 then (if nI i = nI b then zck (zin (nI L.length + 1) (zn (zr 50 38))) (f_X12_bracket_44 50 (nI a) (nI b) K fuel (nI L.length + 1 + 1) (sh (ml L).1 + s1 + (-1)) (sh (ml L).2) (nI i + 1) (zi (zi P (zr 50 38) (nI L.length).toNatClampNeg (wa ws i)) (zr 50 38) (nI L.length + 1).toNatClampNeg 41)) else f_X12_bracket_44 50 (nI a) (nI b) K fuel (nI L.length + 1) (sh (ml L).1 + s1) (sh (ml L).2) (nI i + 1) (zi P (zr 50 38) (nI L.length).toNatClampNeg (wa ws i))) else (if nI i = nI b then zck (zin (nI L.length + 1) (zn (zr 50 38))) (f_X12_bracket_44 50 (nI a) (nI b) K fuel (nI L.length + 1 + 1) (sh (ml L).1 + s1 + (-1)) (sh (ml L).1 + s1) (nI i + 1) (zi (zi P (zr 50 38) (nI L.length).toNatClampNeg (wa ws i)) (zr 50 38) (nI L.length + 1).toNatClampNeg 41)) else f_X12_bracket_44 50 (nI a) (nI b) K fuel (nI L.length + 1) (sh (ml L).1 + s1) (sh (ml L).1 + s1) (nI i + 1) (zi P (zr 50 38) (nI L.length).toNatClampNeg (wa ws i)))) = K (nI (bl ws a b ws.length).length) (sh (ml (bl ws a b ws.length)).2) N ∧ MB N (bl ws a b ws.length) ∧ N.2 = M.2 ∧ (∀ c, c ≠ 73 → N.1 c = M.1 c) := by
      intro P L hM hL h2 h1 hE s1 d hd hs1
      have hbd := ml_b (l := L) (by omega)
      have hbd2 := ml_b (l := L ++ [wa ws i]) (by rw [List.length_append, List.length_singleton]; omega)
      have hk : ∀ c, c ≠ 73 → (zi P 73 L.length (wa ws i)).1 c = M.1 c := fun c hc => by rw [← h1 c hc]; funext j; exact zi_ne hc
      obtain ⟨N, e, r⟩ := last (zi P 73 L.length (wa ws i)) (L ++ [wa ws i]) (MB_s hM _) (by rw [List.length_append, List.length_singleton]; exact ⟨by omega, fun z => by have := hL.2 z; omega⟩) h2 hk hE
      have hm : ml (L ++ [wa ws i]) = (d, if (ml L).2 < d then d else (ml L).2) := by rw [ml_s, hd]; rfl
      rw [hm] at e hbd2
      rw [List.length_append, List.length_singleton, ← nI_s] at e
      refine ⟨N, ?_, r⟩
      rw [hs1, e73, nI_tn (a := L.length) (by omega)]
      rw [e73] at e
      by_cases q : (ml L).2 < d
      · rw [if_pos q] at e
        rw [if_neg (by rw [sh_le d (by simp only [] at hbd2; omega) _ (by omega)]; omega)]
        exact e
      · rw [if_neg q] at e
        rw [if_pos (by rw [sh_le d (by simp only [] at hbd2; omega) _ (by omega)]; omega)]
        exact e
    rw [f_X12_bracket_44]
    simp only [zletE]
    rw [hu.1, if_neg (by rw [nI_le' (by omega) (by omega)]; omega)]
    have wrd : ∀ (P : ZM) (j : Nat) (v : Int32), P.1 52 = M.1 52 → (zi P (zr 50 38) j v).1 (zr 50 1) (nI i).toNatClampNeg = wa ws i := by
      intro P j v h
      rw [z52, e73, nI_tn (by omega), zi_ne (by decide), h]
      exact hu.2 i (by omega)
    have hbd := ml_b (l := bl ws a b i) (by omega)
    by_cases q : i = a
    · have hla : (bl ws a b i).length ≤ 21 ∧ (i = b → (bl ws a b i).length ≤ 20) := by
        rw [hlen, if_neg (by omega : ¬ a < i)]
        refine ⟨by split <;> omega, fun z => ?_⟩
        rw [if_neg (by omega)]; omega
      have g0 := MB_s ht 40
      have gk : ∀ c, c ≠ 73 → (zi M 73 (bl ws a b i).length 40).1 c = M.1 c := fun c hc => by funext j; exact zi_ne hc
      have m := mid (zi M 73 (bl ws a b i).length 40) (bl ws a b i ++ [40]) g0 (by rw [List.length_append, List.length_singleton]; exact ⟨by omega, fun z => by have := hla.2 z; omega⟩) rfl gk (by rw [bl, if_pos q])
      have hbd' := ml_b (l := bl ws a b i ++ [40]) (by rw [List.length_append, List.length_singleton]; omega)
      have hm1 : (ml (bl ws a b i ++ [40])).1 = (ml (bl ws a b i)).1 + 1 := by rw [ml_s]; exact so40 _
      have hm2 : (ml (bl ws a b i ++ [40])).2 = if (ml (bl ws a b i)).2 < (ml (bl ws a b i)).1 + 1 then (ml (bl ws a b i)).1 + 1 else (ml (bl ws a b i)).2 := by
        rw [ml_s]
        unfold st
        rw [so40]
      have hl1 : (bl ws a b i ++ [40]).length = (bl ws a b i).length + 1 := by rw [List.length_append, List.length_singleton]
      have m40 := fun h : wa ws i = 40 => m 1 _ rfl (by rw [h, so40]; exact sh_p _ (by omega))
      have m41 := fun h : wa ws i = 41 => m (-1) _ rfl (by rw [h, so41]; exact sh_m _ (by omega) (by omega))
      have m42 := fun (h : ¬ wa ws i = 40) (h' : ¬ wa ws i = 41) => m 0 _ rfl (by rw [soN h h', Int32.add_zero])
      rw [hl1, hm1, hm2, e73] at m40 m41 m42
      rw [if_pos (by rw [q]), zckT (z73 _ (by omega)), sh_p _ (by omega)]
      have wrd2 : ∀ (j : Nat) (v : Int32), (zi (zi M 73 (bl ws a b i).length 40) 73 j v).1 (zr 50 1) (nI i).toNatClampNeg = wa ws i := by
        intro j v
        rw [z52, nI_tn (by omega), zi_ne (by decide), zi_ne (by decide)]
        exact hu.2 i (by omega)
      have wrd1 : (zi M 73 (bl ws a b i).length 40).1 (zr 50 1) (nI i).toNatClampNeg = wa ws i := by
        rw [z52, nI_tn (by omega), zi_ne (by decide)]
        exact hu.2 i (by omega)
      by_cases c : (ml (bl ws a b i)).2 < (ml (bl ws a b i)).1 + 1
      · rw [if_pos c] at m40 m41 m42
        rw [if_neg (by rw [sh_le _ (by omega) _ (by omega)]; omega), zckT (zwd_in (by omega)), show nI (bl ws a b i).length + 1 = nI ((bl ws a b i).length + 1) from nI_s _, zckT (z73 _ (by omega)), zckT (zwd_in (by omega)), e73, nI_tn (a := (bl ws a b i).length) (by omega), wrd1, wrd2, zckT (zwd_in (by omega))]
        by_cases h40 : wa ws i = 40
        · rw [if_pos h40]; exact m40 h40
        · rw [if_neg h40]
          by_cases h41 : wa ws i = 41
          · rw [if_pos h41]; exact m41 h41
          · rw [if_neg h41]; exact m42 h40 h41
      · rw [if_neg c] at m40 m41 m42
        rw [if_pos (by rw [sh_le _ (by omega) _ (by omega)]; omega), zckT (zwd_in (by omega)), show nI (bl ws a b i).length + 1 = nI ((bl ws a b i).length + 1) from nI_s _, zckT (z73 _ (by omega)), zckT (zwd_in (by omega)), e73, nI_tn (a := (bl ws a b i).length) (by omega), wrd1, wrd2, zckT (zwd_in (by omega))]
        by_cases h40 : wa ws i = 40
        · rw [if_pos h40]; exact m40 h40
        · rw [if_neg h40]
          by_cases h41 : wa ws i = 41
          · rw [if_pos h41]; exact m41 h41
          · rw [if_neg h41]; exact m42 h40 h41
    · have hla : (bl ws a b i).length ≤ 22 ∧ (i = b → (bl ws a b i).length ≤ 21) := by
        refine ⟨by omega, fun z => ?_⟩
        rw [hlen, if_neg (by omega : ¬ b < i)]
        split <;> omega
      have m := mid M (bl ws a b i) ht hla rfl (fun _ _ => rfl) (by rw [bl, if_neg q, List.append_nil])
      have m40 := fun h : wa ws i = 40 => m 1 _ rfl (by rw [h]; unfold so; rw [if_pos rfl]; exact sh_p _ (by omega))
      have m41 := fun h : wa ws i = 41 => m (-1) _ rfl (by rw [h]; unfold so; rw [if_neg (by decide), if_pos rfl]; exact sh_m _ (by omega) (by omega))
      have m42 := fun (h : ¬ wa ws i = 40) (h' : ¬ wa ws i = 41) => m 0 _ rfl (by unfold so; rw [if_neg h, if_neg h', Int32.add_zero])
      rw [if_neg (by rw [nI_inj (by omega) (by omega)]; exact q), zckT (zwd_in (by omega)), zckT (z73 _ (by omega)), zckT (zwd_in (by omega)), wrd M _ _ rfl, zckT (zwd_in (by omega)), zwd_at hl hu (by omega)]
      by_cases h40 : wa ws i = 40
      · rw [if_pos h40]; exact m40 h40
      · rw [if_neg h40]
        by_cases h41 : wa ws i = 41
        · rw [if_pos h41]; exact m41 h41
        · rw [if_neg h41]; exact m42 h40 h41
theorem refAg' {α : Type} (c : Int32 → α) {ws tp od a1 a2 : List Int32} {im : zI} {rf : Nat → Int32} {N : ZM} (hp : PS ws tp od a1 a2 im) (hc : CI ws tp od a1 a2 im rf N) (hr : RI ws tp od a1 a2 im rf N) {v : Int32} {k : Nat} (hv : -v = nI k) (hk : k < 7) {y : ZM → Option (α × ZM)} (hy : ∀ N', RI ws tp od a1 a2 im rf N' → ∃ P', Fs N' P' ∧ y N' = (f_X12_refuse 50 v P').bind fun q => some (c q.1, q.2)) : Ag (some (c (f_X11_refuse 0 v N).1, (f_X11_refuse 0 v N).2)) y := by
  obtain ⟨N1, e1, c1, F1⟩ := refuse_ok hc hv hk
  have r1 := RI_c hr F1
  obtain ⟨P', fs, ey⟩ := hy N1 r1
  obtain ⟨P, e2, r2, F2⟩ := rref_ok (RI_Fs r1 fs) hv hk
  refine ⟨c v, N1, P, by rw [e1], by rw [ey, e2, bindE], ws, tp, od, a1, a2, im, rfb rf k, hp, CI_r c1 (Fr_tr (Fs_r50 fs) F2), r2⟩
theorem Fs_73 {M N : ZM} (h2 : N.2 = M.2) (h1 : ∀ c, c ≠ 73 → N.1 c = M.1 c) : Fs M N := ⟨fun b hb => ⟨h1 b (fun e => hb (by rw [e]; decide)), by rw [h2]⟩, fun k _ => by rw [h1 50 (by decide)]⟩
theorem m_bracket (v w : Int32) {M : ZM} (hJ : JJ M) : Ag (f_X11_bracket 0 v w M) (f_X12_bracket 50 v w) := by
  obtain ⟨ws, tp, od, a1, a2, im, rf, hp, hc, hr⟩ := hJ
  have hl := hp.1.1
  have e0 : (0 : Int32).toInt = 0 := rfl
  have eN : (nI ws.length).toInt = ws.length := nJ_toInt (by omega)
  unfold f_X11_bracket
  simp only [zletE]
  rw [show zr 0 1 = 3 by decide +kernel, show zr 0 2 = 5 by decide +kernel, show f_X10_size 3 M = nI ws.length from hc.2.1.1]
  have bad : (∀ N', RI ws tp od a1 a2 im rf N' → f_X12_bracket 50 v w N' = (f_X12_refuse 50 (-1) N').bind fun q => some (q.1, q.2)) → Ag (some ((f_X11_refuse 0 (-1) M).1, (f_X11_refuse 0 (-1) M).2)) (f_X12_bracket 50 v w) := fun h => refAg (fun x => x) hp hc hr (k := 1) (by decide +kernel) (by omega) h
  rcases in_or ws.length (by omega) v with ⟨a, ha, rfl⟩ | hv
  · have ea : (nI a).toInt = a := nJ_toInt (by omega)
    rw [if_neg (nI_nn (by omega))]
    rcases in_or ws.length (by omega) w with ⟨b, hb, rfl⟩ | hw
    · by_cases hba : b < a
      · rw [if_pos (by rw [nJ_lt (by omega) (by omega)]; exact hba)]
        refine bad (fun N' r' => ?_)
        unfold f_X12_bracket
        simp only [zletE]
        rw [r'.1.1, isIn_t ha (by omega), if_neg (by decide), isIn_t hb (by omega), if_neg (by decide), if_neg (by rw [nI_le' (by omega) (by omega)]; omega)]
      · rw [if_neg (by rw [nJ_lt (by omega) (by omega)]; exact hba), if_pos (by rw [nJ_lt (by omega) (by omega)]; exact hb), show (2 : Int32) = nI 2 from rfl, nJ_add]
        have hlen := bl_len ws a b ws.length
        rw [if_pos ha, if_pos hb] at hlen
        have start : ∀ N', RI ws tp od a1 a2 im rf N' → ∃ P', MB P' (bl ws a b ws.length) ∧ P'.2 = N'.2 ∧ (∀ c, c ≠ 73 → P'.1 c = N'.1 c) ∧ f_X12_bracket 50 (nI a) (nI b) N' = (if 21 < nI (bl ws a b ws.length).length then (
            (f_X12_refuse 50 (-6) P').bind fun (q33 : (Int32 × ZM)) =>
            some (q33.1, q33.2)) else (
            if sh (ml (bl ws a b ws.length)).2 ≤ 4 then (
              (f_X12_fault (zr 50 38) (nI (bl ws a b ws.length).length) P').bind fun (q35 : Int32) =>
              if q35 < 0 then (
                f_X12_bracket_225 50 (nI (bl ws a b ws.length).length) (fun (M : ZM) =>
                  (f_X12_finds 50 (zi M 50 10 (nI (bl ws a b ws.length).length))).bind fun (q43 : ZM) =>
                  some ((q43.1 50 10), q43)) zN 0 P') else (
                (f_X12_refuse 50 (-3) P').bind fun (q44 : (Int32 × ZM)) =>
                some (q44.1, q44.2))) else (
              (f_X12_refuse 50 (-6) P').bind fun (q45 : (Int32 × ZM)) =>
              some (q45.1, q45.2)))) := by
          intro N' r'
          obtain ⟨P', e, m1, m2, m3⟩ := brk44 (a := a) (b := b) hl (fun (v3 : Int32) (v5 : Int32) (M : ZM) =>
          if 21 < v3 then (
            (f_X12_refuse 50 (-6) M).bind fun (q33 : (Int32 × ZM)) =>
            some (q33.1, q33.2)) else (
            if v5 ≤ 4 then (
              (f_X12_fault (zr 50 38) v3 M).bind fun (q35 : Int32) =>
              if q35 < 0 then (
                f_X12_bracket_225 50 v3 (fun (M : ZM) =>
                  (f_X12_finds 50 (zi M 50 10 v3)).bind fun (q43 : ZM) =>
                  some ((q43.1 50 10), q43)) zN 0 M) else (
                (f_X12_refuse 50 (-3) M).bind fun (q44 : (Int32 × ZM)) =>
                some (q44.1, q44.2))) else (
              (f_X12_refuse 50 (-6) M).bind fun (q45 : (Int32 × ZM)) =>
              some (q45.1, q45.2)))) (by omega) (by omega) ws.length 0 zN N' (by omega) (by unfold zN; omega) r'.1 (fun k hk => absurd hk (Nat.not_lt_zero _))
          refine ⟨P', m1, m2, m3, ?_⟩
          rw [show bl ws a b 0 = [] from rfl, show ml [] = (32, 32) from rfl, show ([] : List Int32).length = 0 from rfl, sh32, nI0] at e
          unfold f_X12_bracket
          simp only [zletE]
          rw [r'.1.1, isIn_t ha (by omega), if_neg (by decide), isIn_t hb (by omega), if_neg (by decide), if_pos (by rw [nI_le' (by omega) (by omega)]; omega), e]
        by_cases h21 : ws.length + 2 ≤ 21
        · rw [if_pos (by rw [show (21 : Int32) = nI 21 from rfl, nI_le' (by omega) (by omega)]; exact h21)]
          unfold f_X10_bracketed
          simp only [zletE]
          have cl := clear_ok (t := 5) M
          have F0 : Fr [5, 6] M (f_X10_clear 5 M) := Fr_sub cl.2 (by decide +kernel)
          obtain ⟨N, e, hN, hF⟩ := brd7 (a := a) (b := b) h21 (fun (M : ZM) => some M) (by omega) (by omega) ws.length 0 zN (f_X10_clear 5 M) (by omega) (by unfold zN; omega) (WH_Fr hc.2.1 F0 (by decide) (by decide +kernel)) cl.1
          rw [nI0] at e
          have hF2 := Fr_tr F0 hF
          have c1 := CI_Fr hc (Fr_sub hF2 (by decide))
          have r1 := RI_c hr (Fr_sub hF2 (by decide))
          have hl2 : (bl ws a b ws.length).length ≤ 21 := by omega
          rw [e, bindE, most_ok hl2 hN, bindE]
          have n21 : ¬ 21 < nI (bl ws a b ws.length).length := by rw [show (21 : Int32) = nI 21 from rfl, nJ_lt (by omega) (by omega)]; omega
          by_cases h4 : sh (ml (bl ws a b ws.length)).2 ≤ 4
          · rw [if_pos h4, fault_ok WG5 hl2 hN]
            have hrf : ∀ P', MB P' (bl ws a b ws.length) → f_X12_fault (zr 50 38) (nI (bl ws a b ws.length).length) P' = rff (fl (wa (bl ws a b ws.length)) (bl ws a b ws.length).length true 0 0) := by
              intro P' h
              rw [show zr 50 38 = 73 by decide +kernel]
              exact rfault_ok (by omega) (by rw [show zn 73 = 23 by decide +kernel]; omega) h
            cases hfl : fl (wa (bl ws a b ws.length)) (bl ws a b ws.length).length true 0 0 with
            | none =>
              rw [hfl] at hrf
              have hw : okw (bl ws a b ws.length) := ⟨hl2, hfl⟩
              show Ag ((some (-1)).bind _) _
              rw [bindE, if_pos rfl]
              obtain ⟨N1, e1, n1, n2, n3, n4, nF⟩ := take_ok hl2 WG5 (by decide +kernel) (by decide +kernel) hN c1.2.2.2.2.2.2.2.2.1
              have c2 := CI_we c1 nF n1 n2 n3 n4
              have r2 := RI_c r1 (Fr_sub nF (by decide))
              obtain ⟨P', m1, m2, m3, eS⟩ := start N1 r2
              obtain ⟨N2, e2, b1, b2, b3⟩ := br225 hl2 (fun (M : ZM) =>
                  (f_X12_finds 50 (zi M 50 10 (nI (bl ws a b ws.length).length))).bind fun (q43 : ZM) =>
                  some ((q43.1 50 10), q43)) (wa (bl ws a b ws.length)) (bl ws a b ws.length).length 0 zN P' (by omega) (by unfold zN; omega) m1 (fun k hk => by omega)
              rw [nI0] at e2
              obtain ⟨P, e3, p10, pR, pF⟩ := fin_ok (N := zi N2 50 10 (nI (bl ws a b ws.length).length)) r2 hw (fun b h1 h2 h3 => by
                funext k
                rw [zi_ne h1, b3 b h2, m3 b h3]) (by rw [zi_2, b2, m2]) (fun k hk => by rw [zi_k hk, b3 50 (by decide), m3 50 (by decide)]) ⟨zi_eq, fun k hk => by rw [zi_ne (by decide)]; exact b1 k hk⟩
              refine ⟨nI (bl ws a b ws.length).length, N1, P, ?_, ?_, bl ws a b ws.length, tp, od, a1, a2, im, rf, ⟨hw, hp.2⟩, CI_r c2 pF, pR⟩
              · rw [e1, bindE, show f_X10_size 3 N1 = nI (bl ws a b ws.length).length from n1.1]
              · rw [eS, if_neg n21, if_pos h4, hrf P' m1]
                show (some (-9)).bind _ = _
                rw [bindE, if_pos (by decide), e2, e3, bindE, p10]
            | some p =>
              rw [hfl] at hrf
              have hp' := fl_lt _ _ _ _ _ hfl
              show Ag ((some (nI p)).bind _) _
              rw [bindE, if_neg (nI_ne1 (by omega))]
              refine refAg' (fun x => x) hp c1 r1 (k := 3) (by decide +kernel) (by omega) (fun N' r' => ?_)
              obtain ⟨P', m1, m2, m3, eS⟩ := start N' r'
              refine ⟨P', Fs_73 m2 m3, ?_⟩
              rw [eS, if_neg n21, if_pos h4, hrf P' m1]
              show (some (nI p)).bind _ = _
              rw [bindE, if_neg (nI_nn (by omega))]
          · rw [if_neg h4]
            refine refAg' (fun x => x) hp c1 r1 (k := 6) (by decide +kernel) (by omega) (fun N' r' => ?_)
            obtain ⟨P', m1, m2, m3, eS⟩ := start N' r'
            exact ⟨P', Fs_73 m2 m3, by rw [eS, if_neg n21, if_neg h4]⟩
        · rw [if_neg (by rw [show (21 : Int32) = nI 21 from rfl, nI_le' (by omega) (by omega)]; exact h21)]
          refine refAg' (fun x => x) hp hc hr (k := 6) (by decide +kernel) (by omega) (fun N' r' => ?_)
          obtain ⟨P', m1, m2, m3, eS⟩ := start N' r'
          exact ⟨P', Fs_73 m2 m3, by rw [eS, if_pos (by rw [show (21 : Int32) = nI 21 from rfl, nJ_lt (by omega) (by omega)]; omega)]⟩
    · have e : ∀ x y : Option (Int32 × ZM), (if w < nI a then x else if w < nI ws.length then y else x) = x := by
        intro x y
        by_cases z : w < nI a
        · rw [if_pos z]
        · rw [if_neg z, if_neg]
          intro u
          rw [Int32.lt_iff_toInt_lt] at z u
          rcases hw with h | h
          · rw [Int32.lt_iff_toInt_lt] at h; omega
          · rw [Int32.le_iff_toInt_le] at h; omega
      rw [e]
      refine bad (fun N' r' => ?_)
      unfold f_X12_bracket
      simp only [zletE]
      rw [r'.1.1, isIn_t ha (by omega), if_neg (by decide), isIn_f hw, if_pos rfl]
  · have e : ∀ x y : Option (Int32 × ZM), (if v < 0 then x else if w < v then x else if w < nI ws.length then y else x) = x := by
      intro x y
      by_cases z : v < 0
      · rw [if_pos z]
      · rw [if_neg z]
        by_cases z2 : w < v
        · rw [if_pos z2]
        · rw [if_neg z2, if_neg]
          intro u
          have h := hv.resolve_left z
          rw [Int32.lt_iff_toInt_lt] at z2 u
          rw [Int32.le_iff_toInt_le] at h
          omega
    rw [e]
    refine bad (fun N' r' => ?_)
    unfold f_X12_bracket
    simp only [zletE]
    rw [r'.1.1, isIn_f hv, if_pos rfl]
