theorem put_1 {t : Nat} (hz : zn t < 2147483648) (v x : Int32) (M : ZM) (b k : Nat) : (f_X11_put t v x M).1 b k = if b = t ∧ k < zn t ∧ nI k = v then x else M.1 b k := by
  unfold f_X11_put
  by_cases h : zin v (zn t) = true
  · rw [if_pos h, zi_1]
    have hv : ¬ (v < 0 ∨ zn t ≤ v.toNatClampNeg) := of_decide_eq_true (p := ¬ (v < 0 ∨ zn t ≤ v.toNatClampNeg)) h
    obtain ⟨e, hb⟩ := v_nI (v := v) (fun q => hv (Or.inl q))
    by_cases q : b = t ∧ k = v.toNatClampNeg
    · rw [if_pos q, if_pos ⟨q.1, by rw [q.2]; omega, by rw [q.2]; exact e.symm⟩]
    · rw [if_neg q, if_neg]
      rintro ⟨z1, z2, z3⟩
      apply q
      refine ⟨z1, ?_⟩
      rw [e] at z3
      exact (nI_inj (by omega) hb).mp z3
  · rw [if_neg h, if_neg]
    rintro ⟨z1, z2, z3⟩
    apply h
    rw [← z3, zin_nI (by omega)]
    exact decide_eq_true z2
theorem put_2 {t : Nat} (v x : Int32) (M : ZM) : (f_X11_put t v x M).2 = M.2 := by
  unfold f_X11_put
  split <;> rfl
def tcs : List Nat := [10, 11, 12, 13, 14, 15, 16, 17, 18]
theorem await_ok {M : ZM} {w : Nat} (h : M.1 10 9 = nI w) (hw : w < 21) (v1 v2 v5 : Int32) (v3 : Int64) : f_X7_await 10 v1 v2 v3 v5 M = zi (zi (zl (zi (zi M 15 w v1) 16 w v2) 17 w v3) 18 w v5) 10 9 (nI (w + 1)) := by
  unfold f_X7_await
  rw [show zr 10 5 = 15 by decide +kernel, show zr 10 6 = 16 by decide +kernel, show zr 10 7 = 17 by decide +kernel, show zr 10 8 = 18 by decide +kernel]
  simp only [zletE]
  rw [h, put_nI (by rw [show zn 15 = 21 by decide +kernel]; exact hw) (by omega), zi_ne (by decide), h, put_nI (by rw [show zn 16 = 21 by decide +kernel]; exact hw) (by omega), zi_ne (by decide), zi_ne (by decide), h, putl_nI (by rw [show zn 17 = 21 by decide +kernel]; exact hw) (by omega), zl_1, zi_ne (by decide), zi_ne (by decide), h, put_nI (by rw [show zn 18 = 21 by decide +kernel]; exact hw) (by omega), zi_ne (by decide), zl_1, zi_ne (by decide), zi_ne (by decide), h, nI_s]
theorem addN_ok {M : ZM} {p : Nat} (h : M.1 10 4 = nI p) (hp : p < 21) (v1 v2 v3 : Int32) : f_X7_addNode 10 v1 v2 v3 M = zi (zi (zi (zi M 11 p v1) 12 p v2) 13 p v3) 10 4 (nI (p + 1)) := by
  unfold f_X7_addNode
  rw [show zr 10 0 = 11 by decide +kernel, show zr 10 1 = 12 by decide +kernel, show zr 10 2 = 13 by decide +kernel]
  simp only [zletE]
  rw [h, put_nI (by rw [show zn 11 = 21 by decide +kernel]; exact hp) (by omega), zi_ne (by decide), h, put_nI (by rw [show zn 12 = 21 by decide +kernel]; exact hp) (by omega), zi_ne (by decide), zi_ne (by decide), h, put_nI (by rw [show zn 13 = 21 by decide +kernel]; exact hp) (by omega), zi_ne (by decide), zi_ne (by decide), zi_ne (by decide), h, nI_s]
theorem join9_ok {ws : List Int32} (hl : ws.length ≤ 21) {i j p : Nat} (hij : i < j) (hq : j ≤ ws.length) (hp : p < 21) (K : ZM → Option ZM) {M : ZM} (hs : WH M 3 ws) (hw : Wy ws M) (h4 : M.1 10 4 = nI p) {w : Nat} (h9 : M.1 10 9 = nI w) (hw9 : w < 21) : ∀ c place fuel l, j - 1 - place = c → i < place → place ≤ 100 → c < fuel → l < 1073741824 → l < sm (hj ws i j) place c → f_X7_growJoin_9 10 3 7 (nI i) (nI j) K fuel (lN l) (nI place) M = some (f_X7_addNode 10 (kd (wa ws (pk (hj ws i j) place c l).1)) (nI i) (nI j) (f_X7_await 10 (nI i) (nI (pk (hj ws i j) place c l).1) (lN ((pk (hj ws i j) place c l).2 / Ny ws ((pk (hj ws i j) place c l).1 + 1) j)) (-9) (f_X7_await 10 (nI ((pk (hj ws i j) place c l).1 + 1)) (nI j) (lN ((pk (hj ws i j) place c l).2 % Ny ws ((pk (hj ws i j) place c l).1 + 1) j)) (nI p) M))) := by
  intro c
  induction c with
  | zero =>
    intro place fuel l hc hip hpl hf hl' hs'
    rw [sm] at hs'
    omega
  | succ c ih =>
    intro place fuel l hc hip hpl hf hl' hs'
    obtain ⟨fuel, rfl⟩ : ∃ m, fuel = m + 1 := ⟨fuel - 1, by omega⟩
    rw [f_X7_growJoin_9]
    simp only [zletE, kdM, isj]
    rw [nI_p (by omega), if_neg (by rw [nI_le' (by omega) (by omega)]; omega), at_ok WG3 hs hl (by omega), nI_s, pk]
    rw [sm] at hs'
    by_cases q : jn (wa ws place) = true
    · have e : hj ws i j place = Ny ws i place * Ny ws (place + 1) j := by unfold hj hjg; rw [if_pos q]
      have hb := hj_le (ws := ws) (i := i) (j := j) (k := place) hip (by omega) (by omega)
      have hN := Ny_lt (ws := ws) (i := i) (j := j) (by omega)
      have hN2 := Ny_lt (ws := ws) (i := place + 1) (j := j) (by omega)
      rw [if_neg (by rw [if_pos q]; decide), num_ok (by omega), num_ok (by omega), (hw i place hip (by omega)).1, (hw (place + 1) j (by omega) hq).1, lN_mul, ← e]
      by_cases r : l < hj ws i j place
      · have hpos : 0 < Ny ws (place + 1) j := by
          apply Nat.pos_of_ne_zero
          intro z
          rw [e, z, Nat.mul_zero] at r; omega
        rw [if_pos r, if_neg (by rw [lc_ge (by omega) (by omega)]; omega), if_neg (by rw [← lN0, lc_le (by omega) (by omega)]; omega), zckT (znz_lN (by omega) hpos), zckT (znz_lN (by omega) hpos), lN_mod (by omega) (by omega), lN_div (by omega) (by omega), h4]
      · rw [if_neg r, if_pos (by rw [lc_ge (by omega) (by omega)]; omega), lN_sub (by omega), ih (place + 1) fuel _ (by omega) (by omega) (by omega) (by omega) (by omega) (by omega)]
    · have e : hj ws i j place = 0 := by unfold hj hjg; rw [if_neg q]
      rw [if_pos (by rw [if_neg q]), e, if_neg (by omega), Nat.sub_zero]
      exact ih (place + 1) fuel l (by omega) (by omega) (by omega) (by omega) (by omega) (by omega)
def TE (M : ZM) (k i j r : Nat) (q : Int32) : Prop := M.1 15 k = nI i ∧ M.1 16 k = nI j ∧ M.2 17 k = lN r ∧ M.1 18 k = q
/-- what a run that is read leaves as it was -/
def TP (M N : ZM) (p w : Nat) (q : Int32) : Prop := (∀ k, k < w → N.1 15 k = M.1 15 k ∧ N.1 16 k = M.1 16 k ∧ N.2 17 k = M.2 17 k ∧ N.1 18 k = M.1 18 k) ∧ (∀ k, k < p → N.1 11 k = M.1 11 k ∧ N.1 12 k = M.1 12 k ∧ N.1 13 k = M.1 13 k) ∧ (∀ k, k < p → N.1 14 k = if nI k = q then nI p else M.1 14 k) ∧ Fr tcs M N
theorem nI_m9 {k : Nat} (h : k < 1000) : ¬ nI k = -9 := by
  intro e
  have := nI_nn (a := k) (by omega)
  rw [e] at this
  exact this (by decide)
/-- one node is put down: the stack is lower by one, what waits for it is told its place -/
theorem pop_ok {M : ZM} {p w i j r : Nat} {q : Int32} (hw : w < 21) (h9 : M.1 10 9 = nI (w + 1)) (h4 : M.1 10 4 = nI p) (hE : TE M w i j r q) {ws : List Int32} (hij : i < j) (hq : j ≤ ws.length) (hl : ws.length ≤ 21) (hy : Wy ws M) (hp : p < 21) (K : ZM → Option ZM) (fuel : Nat) : ∃ N, f_X7_grow_25 10 3 7 K (fuel + 1) (nI p) M = (if 0 ≤ lg_cmp (lN r) (lN (Fy ws i j)) then (f_X7_growJoin 10 3 7 (nI i) (nI j) (lN r - lN (Fy ws i j)) N).bind (fun q15 => f_X7_grow_25 10 3 7 K fuel (nI (p + 1)) q15) else f_X7_grow_25 10 3 7 K fuel (nI (p + 1)) (f_X7_growFront 10 3 (nI i) (nI j) (lN r) N)) ∧ N.1 10 9 = nI w ∧ N.1 10 4 = nI p ∧ (∀ b, b ≠ 10 → b ≠ 14 → N.1 b = M.1 b) ∧ N.2 = M.2 ∧ (∀ k, k < p → N.1 14 k = if nI k = q then nI p else M.1 14 k) := by
  refine ⟨f_X11_put 14 q (nI p) (zi M 10 9 (nI w)), ?_, ?_, ?_, ?_, ?_, ?_⟩
  · rw [f_X7_grow_25, if_neg (by rw [show (21 : Int32) = nI 21 from rfl, nI_le' (by omega) (by omega)]; omega), h9, if_neg (by rw [← nI0, nI_le' (by omega) (by omega)]; omega), nI_p (by omega), Nat.add_sub_cancel, show zr 10 5 = 15 by decide +kernel, show zr 10 6 = 16 by decide +kernel, show zr 10 7 = 17 by decide +kernel, show zr 10 8 = 18 by decide +kernel, show zr 10 3 = 14 by decide +kernel]
    simp only [zletE]
    rw [zi_eq, look_nI (by rw [show zn 15 = 21 by decide +kernel]; exact hw) (by omega), look_nI (by rw [show zn 16 = 21 by decide +kernel]; exact hw) (by omega), lookl_nI (by rw [show zn 17 = 21 by decide +kernel]; exact hw) (by omega), look_nI (by rw [show zn 18 = 21 by decide +kernel]; exact hw) (by omega), zi_ne (by decide), zi_ne (by decide), zi_ne (by decide), zi_2, hE.1, hE.2.1, hE.2.2.1, hE.2.2.2, front_ok (by omega), zi_2, (hy i j hij hq).2, zi_k (by decide), h4, nI_s]
  · rw [put_1 (by rw [show zn 14 = 21 by decide +kernel]; decide), if_neg (by omega), zi_eq]
  · rw [put_1 (by rw [show zn 14 = 21 by decide +kernel]; decide), if_neg (by omega), zi_k (by decide), h4]
  · intro b h1 h2
    funext k
    rw [put_1 (by rw [show zn 14 = 21 by decide +kernel]; decide), if_neg (by omega), zi_ne h1]
  · rw [put_2]; rfl
  · intro k hk
    rw [put_1 (by rw [show zn 14 = 21 by decide +kernel]; decide), show zn 14 = 21 by decide +kernel, zi_ne (by decide)]
    by_cases z : nI k = q
    · rw [if_pos z, if_pos ⟨rfl, by omega, z⟩]
    · rw [if_neg z, if_neg (fun y => z y.2.2)]
theorem tcs_ne {b c : Nat} (hb : b ∉ tcs) (hc : c ∈ tcs) : b ≠ c := fun e => hb (e ▸ hc)
theorem addF {N : ZM} {p : Nat} (h : N.1 10 4 = nI p) (hp : p < 21) (a b c : Int32) : ∃ A, f_X7_addNode 10 a b c N = A ∧ A.1 10 4 = nI (p + 1) ∧ A.1 10 9 = N.1 10 9 ∧ A.1 11 p = a ∧ A.1 12 p = b ∧ A.1 13 p = c ∧ (∀ k, k ≠ p → A.1 11 k = N.1 11 k ∧ A.1 12 k = N.1 12 k ∧ A.1 13 k = N.1 13 k) ∧ (∀ d, d ≠ 10 → d ≠ 11 → d ≠ 12 → d ≠ 13 → A.1 d = N.1 d) ∧ A.2 = N.2 := by
  rw [addN_ok h hp]
  refine ⟨_, rfl, zi_eq, ?_, ?_, ?_, ?_, ?_, ?_, rfl⟩
  · rw [zi_k (by decide), zi_ne (by decide), zi_ne (by decide), zi_ne (by decide)]
  · rw [zi_ne (by decide), zi_ne (by decide), zi_ne (by decide), zi_eq]
  · rw [zi_ne (by decide), zi_ne (by decide), zi_eq]
  · rw [zi_ne (by decide), zi_eq]
  · intro k hk
    refine ⟨?_, ?_, ?_⟩
    · rw [zi_ne (by decide), zi_ne (by decide), zi_ne (by decide), zi_k hk]
    · rw [zi_ne (by decide), zi_ne (by decide), zi_k hk, zi_ne (by decide)]
    · rw [zi_ne (by decide), zi_k hk, zi_ne (by decide), zi_ne (by decide)]
  · intro d h1 h2 h3 h4
    funext k
    rw [zi_ne h1, zi_ne h4, zi_ne h3, zi_ne h2]
theorem awF {M : ZM} {w : Nat} (h : M.1 10 9 = nI w) (hw : w < 21) (v1 v2 v5 : Int32) (v3 : Int64) : ∃ B, f_X7_await 10 v1 v2 v3 v5 M = B ∧ B.1 10 9 = nI (w + 1) ∧ B.1 10 4 = M.1 10 4 ∧ B.1 15 w = v1 ∧ B.1 16 w = v2 ∧ B.2 17 w = v3 ∧ B.1 18 w = v5 ∧ (∀ k, k ≠ w → B.1 15 k = M.1 15 k ∧ B.1 16 k = M.1 16 k ∧ B.2 17 k = M.2 17 k ∧ B.1 18 k = M.1 18 k) ∧ (∀ d, d ≠ 10 → d ≠ 15 → d ≠ 16 → d ≠ 18 → B.1 d = M.1 d) ∧ (∀ d, d ≠ 17 → B.2 d = M.2 d) := by
  rw [await_ok h hw]
  refine ⟨_, rfl, zi_eq, ?_, ?_, ?_, ?_, ?_, ?_, ?_, ?_⟩
  · rw [zi_k (by decide), zi_ne (by decide), zl_1, zi_ne (by decide), zi_ne (by decide)]
  · rw [zi_ne (by decide), zi_ne (by decide), zl_1, zi_ne (by decide), zi_eq]
  · rw [zi_ne (by decide), zi_ne (by decide), zl_1, zi_eq]
  · rw [zi_2, zi_2, zl_eq]
  · rw [zi_ne (by decide), zi_eq]
  · intro k hk
    refine ⟨?_, ?_, ?_, ?_⟩
    · rw [zi_ne (by decide), zi_ne (by decide), zl_1, zi_ne (by decide), zi_k hk]
    · rw [zi_ne (by decide), zi_ne (by decide), zl_1, zi_k hk, zi_ne (by decide)]
    · rw [zi_2, zi_2, zl_k hk, zi_2, zi_2]
    · rw [zi_ne (by decide), zi_k hk, zl_1, zi_ne (by decide), zi_ne (by decide)]
  · intro d h1 h2 h3 h4
    funext k
    rw [zi_ne h1, zi_ne h4, zl_1, zi_ne h3, zi_ne h2]
  · intro d h1
    funext k
    rw [zi_2, zi_2, zl_ne h1, zi_2, zi_2]
theorem TE_of {M N : ZM} {k i j r : Nat} {q : Int32} (h : TE M k i j r q) (e : N.1 15 k = M.1 15 k ∧ N.1 16 k = M.1 16 k ∧ N.2 17 k = M.2 17 k ∧ N.1 18 k = M.1 18 k) : TE N k i j r q :=
  ⟨e.1.trans h.1, e.2.1.trans h.2.1, e.2.2.1.trans h.2.2.1, e.2.2.2.trans h.2.2.2⟩
/-- a front way: its node is put down, what is in it waits -/
theorem TP_front {M N A B P : ZM} {p w : Nat} {q : Int32} (n1 : ∀ b, b ≠ 10 → b ≠ 14 → N.1 b = M.1 b) (n2 : N.2 = M.2) (n3 : ∀ k, k < p → N.1 14 k = if nI k = q then nI p else M.1 14 k)
    (a1 : ∀ k, k ≠ p → A.1 11 k = N.1 11 k ∧ A.1 12 k = N.1 12 k ∧ A.1 13 k = N.1 13 k) (a2 : ∀ d, d ≠ 10 → d ≠ 11 → d ≠ 12 → d ≠ 13 → A.1 d = N.1 d) (a3 : A.2 = N.2)
    (b1 : ∀ k, k ≠ w → B.1 15 k = A.1 15 k ∧ B.1 16 k = A.1 16 k ∧ B.2 17 k = A.2 17 k ∧ B.1 18 k = A.1 18 k) (b2 : ∀ d, d ≠ 10 → d ≠ 15 → d ≠ 16 → d ≠ 18 → B.1 d = A.1 d) (b3 : ∀ d, d ≠ 17 → B.2 d = A.2 d) (hp : p < 100)
    (hP : TP B P (p + 1) w (-9)) : TP M P p w q := by
  obtain ⟨p1, p2, p3, p4⟩ := hP
  refine ⟨?_, ?_, ?_, ?_⟩
  · intro k hk
    have e1 := p1 k hk
    have e2 := b1 k (by omega)
    refine ⟨?_, ?_, ?_, ?_⟩
    · rw [e1.1, e2.1, a2 15 (by decide) (by decide) (by decide) (by decide), n1 15 (by decide) (by decide)]
    · rw [e1.2.1, e2.2.1, a2 16 (by decide) (by decide) (by decide) (by decide), n1 16 (by decide) (by decide)]
    · rw [e1.2.2.1, e2.2.2.1, a3, n2]
    · rw [e1.2.2.2, e2.2.2.2, a2 18 (by decide) (by decide) (by decide) (by decide), n1 18 (by decide) (by decide)]
  · intro k hk
    have e1 := p2 k (by omega)
    have e2 := a1 k (by omega)
    refine ⟨?_, ?_, ?_⟩
    · rw [e1.1, b2 11 (by decide) (by decide) (by decide) (by decide), e2.1, n1 11 (by decide) (by decide)]
    · rw [e1.2.1, b2 12 (by decide) (by decide) (by decide) (by decide), e2.2.1, n1 12 (by decide) (by decide)]
    · rw [e1.2.2, b2 13 (by decide) (by decide) (by decide) (by decide), e2.2.2, n1 13 (by decide) (by decide)]
  · intro k hk
    rw [p3 k (by omega), if_neg (nI_m9 (by omega)), b2 14 (by decide) (by decide) (by decide) (by decide), a2 14 (by decide) (by decide) (by decide) (by decide), n3 k hk]
  · intro b hb
    have t := fun c hc => tcs_ne (c := c) hb hc
    refine ⟨?_, ?_⟩
    · rw [(p4 b hb).1, b2 b (t 10 (by decide)) (t 15 (by decide)) (t 16 (by decide)) (t 18 (by decide)), a2 b (t 10 (by decide)) (t 11 (by decide)) (t 12 (by decide)) (t 13 (by decide)), n1 b (t 10 (by decide)) (t 14 (by decide))]
    · rw [(p4 b hb).2, b3 b (t 17 (by decide)), a3, n2]
theorem grow_run {ws : List Int32} (hl : ws.length ≤ 21) (K : ZM → Option ZM) : ∀ t i j r p w fuel M q, Rd ws i j r t → r < Ny ws i j → i < j → j ≤ ws.length → WH M 3 ws → Wy ws M → M.1 10 4 = nI p → M.1 10 9 = nI (w + 1) → TE M w i j r q → p + sz t + w ≤ 21 → sz t < fuel → ∃ N, f_X7_grow_25 10 3 7 K fuel (nI p) M = f_X7_grow_25 10 3 7 K (fuel - sz t) (nI (p + sz t)) N ∧ N.1 10 4 = nI (p + sz t) ∧ N.1 10 9 = nI w ∧ AtC ws (N.1 11) (N.1 12) (N.1 13) (N.1 14) p i t ∧ TP M N p w q := by
  intro t
  induction t with
  | var c =>
    intro i j r p w fuel M q hR hr hij hq hs hy h4 h9 hE hb hf
    simp only [sz] at hb hf ⊢
    have hN := Ny_lt (ws := ws) (i := i) (j := j) (by omega)
    have hFl := Fy_le (ws := ws) hij (by omega)
    obtain ⟨fuel, rfl⟩ : ∃ m, fuel = m + 1 := ⟨fuel - 1, by omega⟩
    obtain ⟨N, e, m9, m4, n1, n2, n3⟩ := pop_ok (by omega) h9 h4 hE hij hq hl hy (by omega) K fuel
    have hsN : WH N 3 ws := ⟨by rw [n1 3 (by decide) (by decide)]; exact hs.1, fun k hk => by rw [show zr 3 0 = 4 by decide +kernel, n1 4 (by decide) (by decide)]; exact hs.2 k hk⟩
    obtain ⟨A, eA, a4, a9, k1, k2, k3, a1, a2, a3⟩ := addF m4 (by omega) (kd (wa ws i)) (nI i) (nI j)
    have hF := hR.1
    rw [e, if_neg (by rw [lc_ge (by omega) (by omega)]; omega)]
    unfold f_X7_growFront
    simp only [zletE, kdM]
    rw [at_ok WG3 hsN hl (by omega), eA, if_neg (by rw [hR.2]; decide), if_neg (by rw [hR.2]; decide), Nat.add_sub_cancel]
    have hj1 : j = i + 1 := by
      rw [Fy_0 hR.2] at hF
      by_cases z : j = i + 1
      · exact z
      · rw [if_neg z] at hF; omega
    refine ⟨A, rfl, a4, by rw [a9, m9], ⟨by rw [k1, hR.2], k2, by rw [k3, hj1]⟩, ?_, ?_, ?_, ?_⟩
    · intro k hk
      refine ⟨?_, ?_, ?_, ?_⟩
      · rw [a2 15 (by decide) (by decide) (by decide) (by decide), n1 15 (by decide) (by decide)]
      · rw [a2 16 (by decide) (by decide) (by decide) (by decide), n1 16 (by decide) (by decide)]
      · rw [a3, n2]
      · rw [a2 18 (by decide) (by decide) (by decide) (by decide), n1 18 (by decide) (by decide)]
    · intro k hk
      have e2 := a1 k (by omega)
      exact ⟨by rw [e2.1, n1 11 (by decide) (by decide)], by rw [e2.2.1, n1 12 (by decide) (by decide)], by rw [e2.2.2, n1 13 (by decide) (by decide)]⟩
    · intro k hk
      rw [a2 14 (by decide) (by decide) (by decide) (by decide), n3 k hk]
    · intro b hb
      have t := fun c hc => tcs_ne (c := c) hb hc
      exact ⟨by rw [a2 b (t 10 (by decide)) (t 11 (by decide)) (t 12 (by decide)) (t 13 (by decide)), n1 b (t 10 (by decide)) (t 14 (by decide))], by rw [a3, n2]⟩
  | neg a ih =>
    intro i j r p w fuel M q hR hr hij hq hs hy h4 h9 hE hb hf
    simp only [sz] at hb hf ⊢
    have hN := Ny_lt (ws := ws) (i := i) (j := j) (by omega)
    have hFl := Fy_le (ws := ws) hij (by omega)
    have hsp := Rd_sp _ i j r hij hq hR
    have hla := ln_pos a
    simp only [ln] at hsp
    obtain ⟨fuel, rfl⟩ : ∃ m, fuel = m + 1 := ⟨fuel - 1, by omega⟩
    obtain ⟨N, e, m9, m4, n1, n2, n3⟩ := pop_ok (by omega) h9 h4 hE hij hq hl hy (by omega) K fuel
    have hsN : WH N 3 ws := ⟨by rw [n1 3 (by decide) (by decide)]; exact hs.1, fun k hk => by rw [show zr 3 0 = 4 by decide +kernel, n1 4 (by decide) (by decide)]; exact hs.2 k hk⟩
    obtain ⟨A, eA, a4, a9, k1, k2, k3, a1, a2, a3⟩ := addF m4 (by omega) (kd (wa ws i)) (nI i) (nI j)
    obtain ⟨B, eB, b9, b4, t1, t2, t3, t4, b1, b2, b3⟩ := awF (a9.trans m9) (by omega) (nI (i + 1)) (nI j) (-9) (lN r)
    have hF := hR.1
    rw [e, if_neg (by rw [lc_ge (by omega) (by omega)]; omega)]
    unfold f_X7_growFront
    simp only [zletE, kdM]
    rw [at_ok WG3 hsN hl (by omega), eA, if_pos hR.2.1, nI_s, eB]
    have hFB : Fr tcs M B := by
      intro b hb
      have t := fun c hc => tcs_ne (c := c) hb hc
      exact ⟨by rw [b2 b (t 10 (by decide)) (t 15 (by decide)) (t 16 (by decide)) (t 18 (by decide)), a2 b (t 10 (by decide)) (t 11 (by decide)) (t 12 (by decide)) (t 13 (by decide)), n1 b (t 10 (by decide)) (t 14 (by decide))], by rw [b3 b (t 17 (by decide)), a3, n2]⟩
    obtain ⟨P, eP, p4, p9, pA, pT⟩ := ih (i + 1) j r (p + 1) w fuel B (-9) hR.2.2 (by rw [← Fy_1 hR.2.1]; exact hF) (by omega) hq (WH_Fr hs hFB (by decide) (by decide +kernel)) (fun x y hx hy' => ⟨by rw [Fr_2 hFB (by decide)]; exact (hy x y hx hy').1, by rw [Fr_2 hFB (by decide)]; exact (hy x y hx hy').2⟩) (b4.trans a4) b9 ⟨t1, t2, t3, t4⟩ (by omega) (by omega)
    have pp := pT.2.1 p (by omega)
    refine ⟨P, ?_, ?_, p9, ⟨?_, ?_, ?_, pA⟩, TP_front n1 n2 n3 a1 a2 a3 b1 b2 b3 (by omega) pT⟩
    · rw [eP, show fuel + 1 - (sz a + 1) = fuel - sz a by omega, show p + (sz a + 1) = p + 1 + sz a by omega]
    · rw [p4, show p + (sz a + 1) = p + 1 + sz a by omega]
    · rw [pp.1, b2 11 (by decide) (by decide) (by decide) (by decide), k1]; exact hR.2.1
    · rw [pp.2.1, b2 12 (by decide) (by decide) (by decide) (by decide), k2]
    · rw [pp.2.2, b2 13 (by decide) (by decide) (by decide) (by decide), k3]; congr 1; omega
  | pow a kk ih =>
    intro i j r p w fuel M q hR hr hij hq hs hy h4 h9 hE hb hf
    simp only [sz] at hb hf ⊢
    have hN := Ny_lt (ws := ws) (i := i) (j := j) (by omega)
    have hFl := Fy_le (ws := ws) hij (by omega)
    have hsp := Rd_sp _ i j r hij hq hR
    have hla := ln_pos a
    simp only [ln] at hsp
    obtain ⟨fuel, rfl⟩ : ∃ m, fuel = m + 1 := ⟨fuel - 1, by omega⟩
    obtain ⟨N, e, m9, m4, n1, n2, n3⟩ := pop_ok (by omega) h9 h4 hE hij hq hl hy (by omega) K fuel
    have hsN : WH N 3 ws := ⟨by rw [n1 3 (by decide) (by decide)]; exact hs.1, fun k hk => by rw [show zr 3 0 = 4 by decide +kernel, n1 4 (by decide) (by decide)]; exact hs.2 k hk⟩
    obtain ⟨A, eA, a4, a9, k1, k2, k3, a1, a2, a3⟩ := addF m4 (by omega) (kd (wa ws i)) (nI i) (nI j)
    obtain ⟨B, eB, b9, b4, t1, t2, t3, t4, b1, b2, b3⟩ := awF (a9.trans m9) (by omega) (nI (i + 1)) (nI (j - 1)) (-9) (lN r)
    have hF := hR.1
    rw [e, if_neg (by rw [lc_ge (by omega) (by omega)]; omega)]
    unfold f_X7_growFront
    simp only [zletE, kdM]
    rw [at_ok WG3 hsN hl (by omega), eA, if_neg (by rw [hR.2.1]; decide), if_pos hR.2.1, nI_s, nI_p (by omega), eB]
    have hFB : Fr tcs M B := by
      intro b hb
      have t := fun c hc => tcs_ne (c := c) hb hc
      exact ⟨by rw [b2 b (t 10 (by decide)) (t 15 (by decide)) (t 16 (by decide)) (t 18 (by decide)), a2 b (t 10 (by decide)) (t 11 (by decide)) (t 12 (by decide)) (t 13 (by decide)), n1 b (t 10 (by decide)) (t 14 (by decide))], by rw [b3 b (t 17 (by decide)), a3, n2]⟩
    have hF2 : r < Ny ws (i + 1) (j - 1) := by
      rw [Fy_2 hR.2.1] at hF
      split at hF
      · exact hF
      · omega
    obtain ⟨P, eP, p4, p9, pA, pT⟩ := ih (i + 1) (j - 1) r (p + 1) w fuel B (-9) hR.2.2 hF2 (by omega) (by omega) (WH_Fr hs hFB (by decide) (by decide +kernel)) (fun x y hx hy' => ⟨by rw [Fr_2 hFB (by decide)]; exact (hy x y hx hy').1, by rw [Fr_2 hFB (by decide)]; exact (hy x y hx hy').2⟩) (b4.trans a4) b9 ⟨t1, t2, t3, t4⟩ (by omega) (by omega)
    have pp := pT.2.1 p (by omega)
    refine ⟨P, ?_, ?_, p9, ⟨?_, ?_, ?_, pA⟩, TP_front n1 n2 n3 a1 a2 a3 b1 b2 b3 (by omega) pT⟩
    · rw [eP, show fuel + 1 - (sz a + 1) = fuel - sz a by omega, show p + (sz a + 1) = p + 1 + sz a by omega]
    · rw [p4, show p + (sz a + 1) = p + 1 + sz a by omega]
    · rw [pp.1, b2 11 (by decide) (by decide) (by decide) (by decide), k1]; exact hR.2.1
    · rw [pp.2.1, b2 12 (by decide) (by decide) (by decide) (by decide), k2]
    · rw [pp.2.2, b2 13 (by decide) (by decide) (by decide) (by decide), k3]; congr 1; omega
  | add a b iha ihb =>
    intro i j r p w fuel M q hR hr hij hq hs hy h4 h9 hE hb hf
    simp only [sz] at hb hf ⊢
    have sa := sz_pos a
    have sb := sz_pos b
    have hN := Ny_lt (ws := ws) (i := i) (j := j) (by omega)
    have hFl := Fy_le (ws := ws) hij (by omega)
    obtain ⟨hF, k, l, hpk, hk1, hk2, hlt, ha, hbb⟩ := hR
    have hspa := Rd_sp _ i k _ hk1 (by omega) ha
    have hspb := Rd_sp _ (k + 1) j _ hk2 hq hbb
    obtain ⟨fuel, rfl⟩ : ∃ m, fuel = m + 1 := ⟨fuel - 1, by omega⟩
    obtain ⟨N, e, m9, m4, n1, n2, n3⟩ := pop_ok (by omega) h9 h4 hE hij hq hl hy (by omega) K fuel
    have hsN : WH N 3 ws := ⟨by rw [n1 3 (by decide) (by decide)]; exact hs.1, fun k hk => by rw [show zr 3 0 = 4 by decide +kernel, n1 4 (by decide) (by decide)]; exact hs.2 k hk⟩
    have hyN : Wy ws N := fun x y hx hy' => ⟨by rw [n2]; exact (hy x y hx hy').1, by rw [n2]; exact (hy x y hx hy').2⟩
    obtain ⟨B1, eB1, c9, c4, s1, s2, s3, s4, c1, c2, c3⟩ := awF m9 (by omega) (nI (k + 1)) (nI j) (nI p) (lN (l % Ny ws (k + 1) j))
    obtain ⟨B, eB, b9, b4, t1, t2, t3, t4, b1, b2, b3⟩ := awF c9 (by omega) (nI i) (nI k) (-9) (lN (l / Ny ws (k + 1) j))
    obtain ⟨A, eA, a4, a9, k1, k2, k3, a1, a2, a3⟩ := addF (b4.trans (c4.trans m4)) (by omega) (kd (wa ws k)) (nI i) (nI j)
    have hNe := Ny_eq (ws := ws) hij (by omega)
    rw [e, if_pos (by rw [lc_ge (by omega) (by omega)]; omega), lN_sub hF]
    unfold f_X7_growJoin
    simp only [zletE]
    rw [nI_s, join9_ok hl hij hq (by omega) _ hsN hyN m4 m9 (by omega) (j - i - 2) (i + 1) zN (r - Fy ws i j) (by omega) (by omega) (by omega) (by unfold zN; omega) (by omega) (by omega), hpk]
    simp only []
    rw [bindE, eB1, eB, eA]
    have hFA : Fr tcs M A := by
      intro b hb
      have t := fun c hc => tcs_ne (c := c) hb hc
      exact ⟨by rw [a2 b (t 10 (by decide)) (t 11 (by decide)) (t 12 (by decide)) (t 13 (by decide)), b2 b (t 10 (by decide)) (t 15 (by decide)) (t 16 (by decide)) (t 18 (by decide)), c2 b (t 10 (by decide)) (t 15 (by decide)) (t 16 (by decide)) (t 18 (by decide)), n1 b (t 10 (by decide)) (t 14 (by decide))], by rw [a3, b3 b (t 17 (by decide)), c3 b (t 17 (by decide)), n2]⟩
    have hp2 := hj_pos (Nat.lt_of_le_of_lt (Nat.zero_le _) hlt)
    have hlt2 := hlt
    rw [hp2.2] at hlt2
    have hpos : 0 < Ny ws (k + 1) j := by
      apply Nat.pos_of_ne_zero
      intro z
      rw [z, Nat.mul_zero] at hlt2; omega
    have A15 : A.1 15 = B.1 15 := a2 15 (by decide) (by decide) (by decide) (by decide)
    have A16 : A.1 16 = B.1 16 := a2 16 (by decide) (by decide) (by decide) (by decide)
    have A18 : A.1 18 = B.1 18 := a2 18 (by decide) (by decide) (by decide) (by decide)
    obtain ⟨P, eP, p4, p9, pA, pT⟩ := iha i k (l / Ny ws (k + 1) j) (p + 1) (w + 1) fuel A (-9) ha (Nat.div_lt_of_lt_mul (by rw [Nat.mul_comm]; exact hlt2)) hk1 (by omega) (WH_Fr hs hFA (by decide) (by decide +kernel)) (fun x y hx hy' => ⟨by rw [Fr_2 hFA (by decide)]; exact (hy x y hx hy').1, by rw [Fr_2 hFA (by decide)]; exact (hy x y hx hy').2⟩) a4 (a9.trans b9) ⟨by rw [A15, t1], by rw [A16, t2], by rw [a3, t3], by rw [A18, t4]⟩ (by omega) (by omega)
    have hFP : Fr tcs M P := Fr_tr hFA pT.2.2.2
    have sw := pT.1 w (by omega)
    have bw := b1 w (by omega)
    obtain ⟨Q, eQ, q4, q9, qA, qT⟩ := ihb (k + 1) j (l % Ny ws (k + 1) j) (p + 1 + sz a) w (fuel - sz a) P (nI p) hbb (Nat.mod_lt _ hpos) hk2 hq (WH_Fr hs hFP (by decide) (by decide +kernel)) (fun x y hx hy' => ⟨by rw [Fr_2 hFP (by decide)]; exact (hy x y hx hy').1, by rw [Fr_2 hFP (by decide)]; exact (hy x y hx hy').2⟩) p4 p9 ⟨by rw [sw.1, A15, bw.1, s1], by rw [sw.2.1, A16, bw.2.1, s2], by rw [sw.2.2.1, a3, bw.2.2.1, s3], by rw [sw.2.2.2, A18, bw.2.2.2, s4]⟩ (by omega) (by omega)
    have pp := pT.2.1 p (by omega)
    have qq := qT.2.1 p (by omega)
    refine ⟨Q, ?_, ?_, q9, ⟨?_, ?_, ?_, ?_, ?_, ?_⟩, ?_, ?_, ?_, Fr_tr hFP qT.2.2.2⟩
    · rw [eP, eQ, show fuel + 1 - (sz a + sz b + 1) = fuel - sz a - sz b by omega, show p + (sz a + sz b + 1) = p + 1 + sz a + sz b by omega]
    · rw [q4, show p + (sz a + sz b + 1) = p + 1 + sz a + sz b by omega]
    · rw [qq.1, pp.1, k1, show k = i + ln a by omega]
    · rw [qq.2.1, pp.2.1, k2]
    · rw [qq.2.2, pp.2.2, k3]; congr 1; omega
    · rw [qT.2.2.1 p (by omega), if_pos rfl]
    · refine AtC_congr a (p + 1) i pA (fun m hm hm' => ?_)
      have e1 := qT.2.1 m (by omega)
      refine ⟨e1.1, e1.2.1, e1.2.2, ?_⟩
      rw [qT.2.2.1 m (by omega), if_neg (by rw [nI_inj (by omega) (by omega)]; omega)]
    · rw [show i + ln a + 1 = k + 1 by omega]; exact qA
    · intro x hx
      have e1 := qT.1 x hx
      have e2 := pT.1 x (by omega)
      have e3 := b1 x (by omega)
      have e4 := c1 x (by omega)
      refine ⟨?_, ?_, ?_, ?_⟩
      · rw [e1.1, e2.1, A15, e3.1, e4.1, n1 15 (by decide) (by decide)]
      · rw [e1.2.1, e2.2.1, A16, e3.2.1, e4.2.1, n1 16 (by decide) (by decide)]
      · rw [e1.2.2.1, e2.2.2.1, a3, e3.2.2.1, e4.2.2.1, n2]
      · rw [e1.2.2.2, e2.2.2.2, A18, e3.2.2.2, e4.2.2.2, n1 18 (by decide) (by decide)]
    · intro x hx
      have e1 := qT.2.1 x (by omega)
      have e2 := pT.2.1 x (by omega)
      have e3 := a1 x (by omega)
      refine ⟨?_, ?_, ?_⟩
      · rw [e1.1, e2.1, e3.1, b2 11 (by decide) (by decide) (by decide) (by decide), c2 11 (by decide) (by decide) (by decide) (by decide), n1 11 (by decide) (by decide)]
      · rw [e1.2.1, e2.2.1, e3.2.1, b2 12 (by decide) (by decide) (by decide) (by decide), c2 12 (by decide) (by decide) (by decide) (by decide), n1 12 (by decide) (by decide)]
      · rw [e1.2.2, e2.2.2, e3.2.2, b2 13 (by decide) (by decide) (by decide) (by decide), c2 13 (by decide) (by decide) (by decide) (by decide), n1 13 (by decide) (by decide)]
    · intro x hx
      rw [qT.2.2.1 x (by omega), if_neg (by rw [nI_inj (by omega) (by omega)]; omega), pT.2.2.1 x (by omega), if_neg (nI_m9 (by omega)), a2 14 (by decide) (by decide) (by decide) (by decide), b2 14 (by decide) (by decide) (by decide) (by decide), c2 14 (by decide) (by decide) (by decide) (by decide), n3 x hx]
  | _ =>
    intro i j r p w fuel M q hR
    exact False.elim hR
/-- a reading stands in the rows of the tree -/
def TC (ws : List Int32) (M : ZM) (t : zT) : Prop := M.1 10 4 = nI (sz t) ∧ AtC ws (M.1 11) (M.1 12) (M.1 13) (M.1 14) 0 0 t
theorem grow_ok {ws : List Int32} (hl : ws.length ≤ 21) {M : ZM} (hs : WH M 3 ws) (hy : Wy ws M) {r : Nat} (hr : r < Ny ws 0 ws.length) : ∃ N, f_X7_grow 10 3 7 (lN r) M = some N ∧ TC ws N (Tr ws r) ∧ Fr tcs M N := by
  have h0 : 0 < ws.length := by
    apply Classical.byContradiction
    intro q
    rw [Ny_0 q] at hr; omega
  have hsz := sz_ln (Tr ws r)
  have hsp := Tr_sp hr hl
  unfold f_X7_grow
  simp only [zletE]
  rw [show f_X10_size 3 (zi (zi M 10 4 0) 10 9 0) = nI ws.length from hs.1]
  have h9 : (zi (zi M 10 4 0) 10 9 0).1 10 9 = nI 0 := by rw [zi_eq, nI0]
  obtain ⟨B, eB, b9, b4, t1, t2, t3, t4, b1, b2, b3⟩ := awF h9 (by omega) (nI 0) (nI ws.length) (-9) (lN r)
  rw [nI0] at eB
  rw [eB]
  have hFB : Fr tcs M B := by
    intro b hb
    have t := fun c hc => tcs_ne (c := c) hb hc
    refine ⟨?_, ?_⟩
    · rw [b2 b (t 10 (by decide)) (t 15 (by decide)) (t 16 (by decide)) (t 18 (by decide))]
      funext k
      rw [zi_ne (t 10 (by decide)), zi_ne (t 10 (by decide))]
    · rw [b3 b (t 17 (by decide)), zi_2, zi_2]
  obtain ⟨P, eP, p4, p9, pA, pT⟩ := grow_run hl (fun M => some M) (Tr ws r) 0 ws.length r 0 0 zN B (-9) (Tr_ok hr hl) hr h0 (Nat.le_refl _) (WH_Fr hs hFB (by decide) (by decide +kernel)) (fun x y hx hy' => ⟨by rw [Fr_2 hFB (by decide)]; exact (hy x y hx hy').1, by rw [Fr_2 hFB (by decide)]; exact (hy x y hx hy').2⟩) (by rw [b4, zi_k (by decide), zi_eq, nI0]) b9 ⟨t1, t2, t3, t4⟩ (by omega) (by unfold zN; omega)
  rw [nI0] at eP
  rw [eP]
  obtain ⟨f, hf⟩ : ∃ f, zN - sz (Tr ws r) = f + 1 := ⟨zN - sz (Tr ws r) - 1, by unfold zN; omega⟩
  rw [hf, f_X7_grow_25, p9]
  rw [Nat.zero_add] at p4
  refine ⟨P, ?_, ⟨p4, pA⟩, Fr_tr hFB pT.2.2.2⟩
  split
  · rfl
  · rw [if_pos (by decide +kernel)]
