/-- what a letter lets -/
def lv (ws : List Int32) (i : Nat) : Int64 := f_X11_casesOf (wa ws i) zZ
theorem cas_M (c : Int32) (M : ZM) : f_X11_casesOf c M = f_X11_casesOf c zZ := rfl
theorem msk_nat {n : Nat} (h : n < 4294967296) : msk (Int64.ofNat n) := by
  intro k hk
  show (BitVec.ofNat 64 n).getLsbD k = false
  rw [BitVec.getLsbD_ofNat, Nat.testBit_lt_two_pow (Nat.lt_of_lt_of_le (show n < 2 ^ 32 by omega) (Nat.pow_le_pow_right (by omega) hk)), Bool.and_false]
theorem msk_zmk (j : Nat) : msk (zmk j) := by
  unfold zmk
  match j with
  | 0 => exact msk_nat (n := 2863311530) (by omega)
  | 1 => exact msk_nat (n := 3435973836) (by omega)
  | 2 => exact msk_nat (n := 4042322160) (by omega)
  | 3 => exact msk_nat (n := 4278255360) (by omega)
  | 4 => exact msk_nat (n := 4294901760) (by omega)
  | j + 5 => exact msk_0
theorem lv_msk (ws : List Int32) (p : Nat) : msk (lv ws p) := by
  unfold lv f_X11_casesOf
  split
  · exact msk_zmk _
  · exact msk_0
/-- meanings and bare bits of all nodes stand in two rows -/
def MS (ev : Nat → Int64) (ws : List Int32) (L : Nat → Int64) (B : Nat → Int32) : Nat → Nat → zT → Prop
  | p, i, .neg a => L p = mn ev ws i (.neg a) ∧ B p = bb ws i (.neg a) ∧ MS ev ws L B (p + 1) (i + 1) a
  | p, i, .pow a k => L p = mn ev ws i (.pow a k) ∧ B p = bb ws i (.pow a k) ∧ MS ev ws L B (p + 1) (i + 1) a
  | p, i, .add a b => L p = mn ev ws i (.add a b) ∧ B p = bb ws i (.add a b) ∧ MS ev ws L B (p + 1) i a ∧ MS ev ws L B (p + 1 + sz a) (i + ln a + 1) b
  | p, i, t => L p = mn ev ws i t ∧ B p = bb ws i t
theorem MS_0 {ev : Nat → Int64} {ws : List Int32} {L : Nat → Int64} {B : Nat → Int32} {p i : Nat} {t : zT} (h : MS ev ws L B p i t) : L p = mn ev ws i t ∧ B p = bb ws i t := by
  cases t <;> first | exact ⟨h.1, h.2.1⟩ | exact h
theorem MS_congr {ev : Nat → Int64} {ws : List Int32} {L L' : Nat → Int64} {B B' : Nat → Int32} : ∀ t p i, MS ev ws L B p i t → (∀ m, p ≤ m → m < p + sz t → L' m = L m ∧ B' m = B m) → MS ev ws L' B' p i t := by
  intro t
  induction t with
  | neg a ih =>
    intro p i h q
    have q0 := q p (Nat.le_refl _) (by simp only [sz]; omega)
    exact ⟨q0.1.trans h.1, q0.2.trans h.2.1, ih _ _ h.2.2 (fun m a b => q m (by omega) (by simp only [sz]; omega))⟩
  | pow a k ih =>
    intro p i h q
    have q0 := q p (Nat.le_refl _) (by simp only [sz]; omega)
    exact ⟨q0.1.trans h.1, q0.2.trans h.2.1, ih _ _ h.2.2 (fun m a b => q m (by omega) (by simp only [sz]; omega))⟩
  | add a b iha ihb =>
    intro p i h q
    have q0 := q p (Nat.le_refl _) (by simp only [sz]; omega)
    exact ⟨q0.1.trans h.1, q0.2.trans h.2.1, iha _ _ h.2.2.1 (fun m a b => q m (by omega) (by simp only [sz]; omega)), ihb _ _ h.2.2.2 (fun m a b => q m (by omega) (by simp only [sz]; omega))⟩
  | _ =>
    intro p i h q
    have q0 := q p (Nat.le_refl _) (by simp only [sz]; omega)
    exact ⟨q0.1.trans h.1, q0.2.trans h.2⟩
theorem kind_ok {M : ZM} {p : Nat} (hp : p < 21) : f_X7_kind 10 (nI p) M = M.1 11 p := by
  unfold f_X7_kind
  rw [zletE, show zr 10 0 = 11 by decide +kernel, look_nI (by rw [show zn 11 = 21 by decide +kernel]; exact hp) (by omega)]
theorem from_ok {M : ZM} {p : Nat} (hp : p < 21) : f_X7_from 10 (nI p) M = M.1 12 p := by
  unfold f_X7_from
  rw [zletE, show zr 10 1 = 12 by decide +kernel, look_nI (by rw [show zn 12 = 21 by decide +kernel]; exact hp) (by omega)]
theorem end_ok {M : ZM} {p : Nat} (hp : p < 21) : f_X7_end 10 (nI p) M = M.1 13 p := by
  unfold f_X7_end
  rw [zletE, show zr 10 2 = 13 by decide +kernel, look_nI (by rw [show zn 13 = 21 by decide +kernel]; exact hp) (by omega)]
theorem beh_ok {M : ZM} {p : Nat} (hp : p < 21) : f_X7_behind 10 (nI p) M = M.1 14 p := by
  unfold f_X7_behind
  rw [zletE, show zr 10 3 = 14 by decide +kernel, look_nI (by rw [show zn 14 = 21 by decide +kernel]; exact hp) (by omega)]
theorem inn_ok {M : ZM} {p : Nat} : f_X7_inner 10 (nI p) M = nI (p + 1) := by
  unfold f_X7_inner
  rw [nI_s]
theorem l21 {M : ZM} {p : Nat} (hp : p < 21) : f_X11_look_ 21 (nI p) M = M.2 21 p := lookl_nI (by rw [show zn 21 = 21 by decide +kernel]; exact hp) (by omega)
theorem l22 {M : ZM} {p : Nat} (hp : p < 21) : f_X11_look_ 22 (nI p) M = M.2 22 p := lookl_nI (by rw [show zn 22 = 21 by decide +kernel]; exact hp) (by omega)
theorem l23 {M : ZM} {p : Nat} (hp : p < 21) : f_X11_look 23 (nI p) M = M.1 23 p := look_nI (by rw [show zn 23 = 21 by decide +kernel]; exact hp) (by omega)
/-- one node is weighed -/
theorem wnode {M : ZM} {p : Nat} (hp : p < 21) {mv : Int64} {bv nb v3 : Int32} (K : Int32 → ZM → Option ZM) (fuel : Nat) (h1 : f_X5_meaningOf 20 10 3 (nI p) M = mv) (h2 : f_X5_bareOf 20 10 (nI p) (zl M 21 p mv) = bv) (h3 : f_X5_brokenAt 20 10 3 (nI p) (zi (zl M 21 p mv) 23 p bv) = some nb) : f_X5_weigh_10 20 10 3 K (fuel + 1) v3 (nI p) M = f_X5_weigh_10 20 10 3 K fuel (v3 ||| nb) (nI p - 1) (zi (zl M 21 p mv) 23 p bv) := by
  rw [f_X5_weigh_10, if_neg (nI_nn (by omega)), show zr 20 0 = 21 by decide +kernel, show zr 20 2 = 23 by decide +kernel]
  simp only [zletE]
  rw [h1, putl_nI (by rw [show zn 21 = 21 by decide +kernel]; exact hp) (by omega), h2, put_nI (by rw [show zn 23 = 21 by decide +kernel]; exact hp) (by omega), h3, bindE, Int32.sub_eq_add_neg]
theorem isj0 (N : ZM) : f_X11_isJoin 0 N = 0 := by unfold f_X11_isJoin; rw [if_pos (by decide)]
theorem isj1 (N : ZM) : f_X11_isJoin 1 N = 0 := by unfold f_X11_isJoin; rw [if_pos (by decide)]
theorem isj2 (N : ZM) : f_X11_isJoin 2 N = 0 := by unfold f_X11_isJoin; rw [if_pos (by decide)]
theorem br_0 {N : ZM} {p : Nat} (hp : p < 21) (h : N.1 11 p = 0 ∨ N.1 11 p = 2) : f_X5_brokenAt 20 10 3 (nI p) N = some 0 := by
  unfold f_X5_brokenAt
  simp only [zletE]
  rw [kind_ok hp]
  rcases h with h | h
  · rw [h, if_neg (by decide), if_neg (by decide), if_pos (isj0 N), if_neg (by decide)]
  · rw [h, if_neg (by decide), if_neg (by decide), if_pos (isj2 N), if_neg (by decide)]
theorem br_1 {ws : List Int32} (hl : ws.length ≤ 21) {N : ZM} {p i e : Nat} {a : zT} (hp : p + 1 < 21) (h : N.1 11 p = 1) (hf : N.1 12 p = nI i) (he : N.1 13 p = nI e) (hs : WH N 3 ws) (hi : i ≤ ws.length) (hel : e ≤ 21) (hb : N.1 23 (p + 1) = bb ws (i + 1) a) (ha : sp ws (i + 1) a) : f_X5_brokenAt 20 10 3 (nI p) N = some (bw (b1 a) (decide (e ≠ clo ws i)) false false) := by
  have hc := clo_le (ws := ws) (p := i) hi
  unfold f_X5_brokenAt
  simp only [zletE]
  rw [kind_ok (by omega), h, if_pos rfl, if_pos rfl, if_pos rfl, inn_ok, show zr 20 2 = 23 by decide +kernel, l23 (by omega), hb, end_ok (by omega), from_ok (by omega), he, hf, close_ok WG3 hl hs hi]
  simp only [bindE]
  have h0 := (bb_0 a (i + 1) ha).1
  by_cases q : b1 a = false
  · rw [if_pos (h0.mpr q), q]
    by_cases z : e = clo ws i
    · rw [if_pos (by rw [z]), if_pos (isj1 N), if_neg (by decide), decide_eq_false (fun y => y z)]; rfl
    · rw [if_neg (by rw [nI_inj (by omega) (by omega)]; exact z), if_pos (isj1 N), if_neg (by decide), decide_eq_true z]; rfl
  · rw [if_neg (fun y => q (h0.mp y)), Bool.not_eq_false _ |>.mp q]
    by_cases z : e = clo ws i
    · rw [if_pos (by rw [z]), if_pos (isj1 N), if_neg (by decide), decide_eq_false (fun y => y z)]; rfl
    · rw [if_neg (by rw [nI_inj (by omega) (by omega)]; exact z), if_pos (isj1 N), if_neg (by decide), decide_eq_true z]; rfl
theorem br_3 {ws : List Int32} {N : ZM} {p i k : Nat} {a b : zT} (hp : p + 1 < 21) {c : Int32} (hc : jn c = true) (h : N.1 11 p = kd c) (hq : N.1 14 p = nI k) (hk : k < 21) (ha : N.1 23 (p + 1) = bb ws i a) (hb : N.1 23 k = bb ws (i + ln a + 1) b) (sa : sp ws i a) (sb : sp ws (i + ln a + 1) b) : f_X5_brokenAt 20 10 3 (nI p) N = some (bw false false (b1 b) (decide (kd c = 3) && (b2 ws i a || b2 ws (i + ln a + 1) b))) := by
  have hj := jn_ne hc
  unfold f_X5_brokenAt
  simp only [zletE]
  rw [kind_ok (by omega), h, if_neg hj.2.2.2.2.1, if_neg hj.2.2.2.2.1, isj, if_neg (by rw [if_pos hc]; decide), inn_ok, show zr 20 2 = 23 by decide +kernel, l23 (by omega), beh_ok (by omega), hq, l23 hk, ha, hb]
  have e1 := bb_0 a i sa
  have e2 := bb_0 b (i + ln a + 1) sb
  have e3 : ((bb ws i a ||| bb ws (i + ln a + 1) b) &&& 112 = 0) ↔ (b2 ws i a || b2 ws (i + ln a + 1) b) = false := by
    rw [i32_or_and, i32_or_0, e1.2, e2.2, Bool.or_eq_false_iff]
  by_cases q : b1 b = false
  · rw [if_pos (e2.1.mpr q), q]
    by_cases z : kd c = 3
    · rw [if_pos z, decide_eq_true z, Bool.true_and]
      by_cases y : (b2 ws i a || b2 ws (i + ln a + 1) b) = false
      · rw [if_pos (e3.mpr y), y]; rfl
      · rw [if_neg (fun w => y (e3.mp w)), Bool.not_eq_false _ |>.mp y]; rfl
    · rw [if_neg z, decide_eq_false z, Bool.false_and]; rfl
  · rw [if_neg (fun y => q (e2.1.mp y)), Bool.not_eq_false _ |>.mp q]
    by_cases z : kd c = 3
    · rw [if_pos z, decide_eq_true z, Bool.true_and]
      by_cases y : (b2 ws i a || b2 ws (i + ln a + 1) b) = false
      · rw [if_pos (e3.mpr y), y]; rfl
      · rw [if_neg (fun w => y (e3.mp w)), Bool.not_eq_false _ |>.mp y]; rfl
    · rw [if_neg z, decide_eq_false z, Bool.false_and]; rfl
theorem cb_neg {ws : List Int32} {i : Nat} {a : zT} : cb ws (i + 1) a ||| bw (b1 a) (decide (i + ln a + 1 ≠ clo ws i)) false false = cb ws i (.neg a) := by
  unfold cb
  rw [bw_or, c0, c1, c2, c3, Bool.or_comm (c0 a), Bool.or_comm (c1 ws (i + 1) a), Bool.or_false, Bool.or_false]
theorem cb_pow {ws : List Int32} {i : Nat} {a : zT} {k : Nat} : cb ws (i + 1) a ||| 0 = cb ws i (.pow a k) := by
  unfold cb
  rw [Int32.or_zero, c0, c1, c2, c3]
theorem bo3 : ∀ x y z : Bool, ((x || y) || z) = (z || y || x) := by decide
theorem bo2 : ∀ x y : Bool, ((x || y) || false) = (y || x) := by decide
theorem cb_add {ws : List Int32} {i : Nat} {a b : zT} : (cb ws (i + ln a + 1) b ||| cb ws i a) ||| bw false false (b1 b) (decide (kd (wa ws (i + ln a)) = 3) && (b2 ws i a || b2 ws (i + ln a + 1) b)) = cb ws i (.add a b) := by
  unfold cb
  rw [bw_or, bw_or, c0, c1, c2, c3, bo2, bo2, bo3 (c2 b), bo3 (c3 ws (i + ln a + 1) b)]
theorem weigh_run {ws : List Int32} (hl : ws.length ≤ 21) (K : Int32 → ZM → Option ZM) : ∀ t p i, sp ws i t → i + ln t ≤ ws.length → p + sz t ≤ 21 → ∀ fuel v3 M, WH M 3 ws → AtC ws (M.1 11) (M.1 12) (M.1 13) (M.1 14) p i t → sz t < fuel → ∃ N, f_X5_weigh_10 20 10 3 K fuel v3 (nI (p + sz t) - 1) M = f_X5_weigh_10 20 10 3 K (fuel - sz t) (v3 ||| cb ws i t) (nI p - 1) N ∧ MS (lv ws) ws (N.2 21) (N.1 23) p i t ∧ (∀ k, k < p ∨ p + sz t ≤ k → N.2 21 k = M.2 21 k ∧ N.1 23 k = M.1 23 k) ∧ Fr [21, 23] M N := by
  intro t
  induction t with
  | var c =>
    intro p i hs hil hp fuel v3 M hw hA hf
    simp only [sz, ln] at hp hf hil ⊢
    obtain ⟨fuel, rfl⟩ : ∃ m, fuel = m + 1 := ⟨fuel - 1, by omega⟩
    have h1 : f_X5_meaningOf 20 10 3 (nI p) M = lv ws i := by
      unfold f_X5_meaningOf
      simp only [zletE]
      rw [kind_ok (by omega), hA.1, if_pos rfl, from_ok (by omega), hA.2.1, at_ok WG3 hw hl (by omega)]
      rfl
    have h2 : f_X5_bareOf 20 10 (nI p) (zl M 21 p (lv ws i)) = 0 := by
      unfold f_X5_bareOf
      simp only [zletE]
      rw [kind_ok (by omega), zl_1, hA.1, if_pos rfl]
    have h3 : f_X5_brokenAt 20 10 3 (nI p) (zi (zl M 21 p (lv ws i)) 23 p 0) = some 0 := br_0 (by omega) (Or.inl (by rw [zi_ne (by decide), zl_1]; exact hA.1))
    rw [nI_p (by omega), Nat.add_sub_cancel, wnode (by omega) K fuel h1 h2 h3, show cb ws i (.var c) = 0 from (by show bw false false false false = 0; decide)]
    refine ⟨zi (zl M 21 p (lv ws i)) 23 p 0, rfl, ⟨zl_eq, zi_eq⟩, ?_, Fr_tr (Fr_zl (by decide)) (Fr_zi (by decide))⟩
    intro k hk
    exact ⟨zl_k (by omega), by rw [zi_k (by omega)]; rfl⟩
  | neg a ih =>
    intro p i hs hil hp fuel v3 M hw hA hf
    simp only [sz, ln] at hp hf hil ⊢
    have hsa := sz_pos a
    obtain ⟨N, e, hM, hk, hF⟩ := ih (p + 1) (i + 1) hs.2 (by omega) (by omega) fuel v3 M hw hA.2.2.2 (by omega)
    obtain ⟨f2, hf2⟩ : ∃ f2, fuel - sz a = f2 + 1 := ⟨fuel - sz a - 1, by omega⟩
    have h11 : N.1 11 = M.1 11 := (hF 11 (by decide)).1
    have h12 : N.1 12 = M.1 12 := (hF 12 (by decide)).1
    have h13 : N.1 13 = M.1 13 := (hF 13 (by decide)).1
    have hwN : WH N 3 ws := WH_Fr hw hF (by decide) (by decide +kernel)
    have m0 := MS_0 hM
    have h1 : f_X5_meaningOf 20 10 3 (nI p) N = mn (lv ws) ws i (.neg a) := by
      unfold f_X5_meaningOf
      simp only [zletE]
      rw [kind_ok (by omega), h11, hA.1, if_neg (by decide), if_pos rfl, inn_ok, show zr 20 0 = 21 by decide +kernel, l21 (by omega), m0.1]
      rfl
    have h2 : f_X5_bareOf 20 10 (nI p) (zl N 21 p (mn (lv ws) ws i (.neg a))) = bb ws i (.neg a) := by
      unfold f_X5_bareOf
      simp only [zletE]
      rw [kind_ok (by omega), zl_1, h11, hA.1, if_neg (by decide), if_neg (by decide), if_pos rfl, inn_ok, show zr 20 2 = 23 by decide +kernel, l23 (by omega), zl_1, m0.2]
      rfl
    have h3 := br_1 hl (N := zi (zl N 21 p (mn (lv ws) ws i (.neg a))) 23 p (bb ws i (.neg a))) (p := p) (i := i) (e := i + ln a + 1) (a := a) (by omega) (by rw [zi_ne (by decide), zl_1, h11]; exact hA.1) (by rw [zi_ne (by decide), zl_1, h12]; exact hA.2.1) (by rw [zi_ne (by decide), zl_1, h13]; exact hA.2.2.1) hwN (by omega) (by omega) (by rw [zi_k (by omega), zl_1]; exact m0.2) hs.2
    rw [show p + (sz a + 1) = p + 1 + sz a by omega, e, nI_p (by omega), Nat.add_sub_cancel, hf2, wnode (by omega) K f2 h1 h2 h3, Int32.or_assoc, cb_neg, show fuel - (sz a + 1) = f2 by omega]
    refine ⟨_, rfl, ⟨zl_eq, zi_eq, ?_⟩, ?_, Fr_tr hF (Fr_tr (Fr_zl (by decide)) (Fr_zi (by decide)))⟩
    · exact MS_congr a _ _ hM (fun m hm _ => ⟨zl_k (by omega), by rw [zi_k (by omega)]; rfl⟩)
    · intro k hkk
      have := hk k (by omega)
      exact ⟨by rw [zi_2, zl_k (by omega)]; exact this.1, by rw [zi_k (by omega), zl_1]; exact this.2⟩
  | pow a kk ih =>
    intro p i hs hil hp fuel v3 M hw hA hf
    simp only [sz, ln] at hp hf hil ⊢
    have hsa := sz_pos a
    obtain ⟨N, e, hM, hk, hF⟩ := ih (p + 1) (i + 1) hs.2.2 (by omega) (by omega) fuel v3 M hw hA.2.2.2 (by omega)
    obtain ⟨f2, hf2⟩ : ∃ f2, fuel - sz a = f2 + 1 := ⟨fuel - sz a - 1, by omega⟩
    have h11 : N.1 11 = M.1 11 := (hF 11 (by decide)).1
    have m0 := MS_0 hM
    have h1 : f_X5_meaningOf 20 10 3 (nI p) N = mn (lv ws) ws i (.pow a kk) := by
      unfold f_X5_meaningOf
      simp only [zletE]
      rw [kind_ok (by omega), h11, hA.1, if_neg (by decide), if_neg (by decide), if_pos rfl, inn_ok, show zr 20 0 = 21 by decide +kernel, l21 (by omega), m0.1]
      rfl
    have h2 : f_X5_bareOf 20 10 (nI p) (zl N 21 p (mn (lv ws) ws i (.pow a kk))) = bb ws i (.pow a kk) := by
      unfold f_X5_bareOf
      simp only [zletE]
      rw [kind_ok (by omega), zl_1, h11, hA.1, if_neg (by decide), if_pos rfl]
      rfl
    have h3 : f_X5_brokenAt 20 10 3 (nI p) (zi (zl N 21 p (mn (lv ws) ws i (.pow a kk))) 23 p (bb ws i (.pow a kk))) = some 0 := br_0 (by omega) (Or.inr (by rw [zi_ne (by decide), zl_1, h11]; exact hA.1))
    rw [show p + (sz a + 1) = p + 1 + sz a by omega, e, nI_p (by omega), Nat.add_sub_cancel, hf2, wnode (by omega) K f2 h1 h2 h3, Int32.or_assoc, cb_pow (k := kk), show fuel - (sz a + 1) = f2 by omega]
    refine ⟨_, rfl, ⟨zl_eq, zi_eq, ?_⟩, ?_, Fr_tr hF (Fr_tr (Fr_zl (by decide)) (Fr_zi (by decide)))⟩
    · exact MS_congr a _ _ hM (fun m hm _ => ⟨zl_k (by omega), by rw [zi_k (by omega)]; rfl⟩)
    · intro k hkk
      have := hk k (by omega)
      exact ⟨by rw [zi_2, zl_k (by omega)]; exact this.1, by rw [zi_k (by omega), zl_1]; exact this.2⟩
  | add a b iha ihb =>
    intro p i hs hil hp fuel v3 M hw hA hf
    simp only [sz, ln] at hp hf hil ⊢
    have hsa := sz_pos a
    have hsb := sz_pos b
    have hj := hs.1
    have hne := jn_ne hj
    obtain ⟨N1, e1, hM1, hk1, hF1⟩ := ihb (p + 1 + sz a) (i + ln a + 1) hs.2.2 (by omega) (by omega) fuel v3 M hw hA.2.2.2.2.2 (by omega)
    have hA1 : AtC ws (N1.1 11) (N1.1 12) (N1.1 13) (N1.1 14) (p + 1) i a := by
      rw [(hF1 11 (by decide)).1, (hF1 12 (by decide)).1, (hF1 13 (by decide)).1, (hF1 14 (by decide)).1]; exact hA.2.2.2.2.1
    obtain ⟨N, e2, hM2, hk2, hF2⟩ := iha (p + 1) i hs.2.1 (by omega) (by omega) (fuel - sz b) (v3 ||| cb ws (i + ln a + 1) b) N1 (WH_Fr hw hF1 (by decide) (by decide +kernel)) hA1 (by omega)
    obtain ⟨f2, hf2⟩ : ∃ f2, fuel - sz b - sz a = f2 + 1 := ⟨fuel - sz b - sz a - 1, by omega⟩
    have hF := Fr_tr hF1 hF2
    have h11 : N.1 11 = M.1 11 := (hF 11 (by decide)).1
    have h14 : N.1 14 = M.1 14 := (hF 14 (by decide)).1
    have ma := MS_0 hM2
    have hM1' : MS (lv ws) ws (N.2 21) (N.1 23) (p + 1 + sz a) (i + ln a + 1) b := MS_congr b _ _ hM1 (fun m hm _ => hk2 m (by omega))
    have mb := MS_0 hM1'
    have h1 : f_X5_meaningOf 20 10 3 (nI p) N = mn (lv ws) ws i (.add a b) := by
      unfold f_X5_meaningOf
      simp only [zletE]
      rw [kind_ok (by omega), h11, hA.1, if_neg hne.2.2.2.1, if_neg hne.2.2.2.2.1, if_neg hne.2.2.2.2.2, inn_ok, show zr 20 0 = 21 by decide +kernel, l21 (by omega), beh_ok (by omega), h14, hA.2.2.2.1, l21 (by omega), ma.1, mb.1, mn]
      rcases jn_or hj with z | z | z | z <;> rw [z.1] <;> rfl
    have h2 : f_X5_bareOf 20 10 (nI p) (zl N 21 p (mn (lv ws) ws i (.add a b))) = bb ws i (.add a b) := by
      unfold f_X5_bareOf
      simp only [zletE]
      rw [kind_ok (by omega), zl_1, h11, hA.1, if_neg hne.2.2.2.1, if_neg hne.2.2.2.2.2, if_neg hne.2.2.2.2.1, inn_ok, show zr 20 2 = 23 by decide +kernel, l23 (by omega), beh_ok (by omega), zl_1, h14, hA.2.2.2.1, l23 (by omega), zl_1, ma.2, mb.2]
      rfl
    have h3 := br_3 (ws := ws) (N := zi (zl N 21 p (mn (lv ws) ws i (.add a b))) 23 p (bb ws i (.add a b))) (p := p) (i := i) (k := p + 1 + sz a) (a := a) (b := b) (by omega) hj (by rw [zi_ne (by decide), zl_1, h11]; exact hA.1) (by rw [zi_ne (by decide), zl_1, h14]; exact hA.2.2.2.1) (by omega) (by rw [zi_k (by omega), zl_1]; exact ma.2) (by rw [zi_k (by omega), zl_1]; exact mb.2) hs.2.1 hs.2.2
    rw [show p + (sz a + sz b + 1) = p + 1 + sz a + sz b by omega, e1, e2, nI_p (by omega), Nat.add_sub_cancel, hf2, wnode (by omega) K f2 h1 h2 h3, Int32.or_assoc v3, Int32.or_assoc v3, cb_add, show fuel - (sz a + sz b + 1) = f2 by omega]
    refine ⟨_, rfl, ⟨zl_eq, zi_eq, ?_, ?_⟩, ?_, Fr_tr hF (Fr_tr (Fr_zl (by decide)) (Fr_zi (by decide)))⟩
    · exact MS_congr a _ _ hM2 (fun m hm _ => ⟨zl_k (by omega), by rw [zi_k (by omega)]; rfl⟩)
    · exact MS_congr b _ _ hM1' (fun m hm _ => ⟨zl_k (by omega), by rw [zi_k (by omega)]; rfl⟩)
    · intro k hkk
      have t1 := hk1 k (by omega)
      have t2 := hk2 k (by omega)
      exact ⟨by rw [zi_2, zl_k (by omega), t2.1, t1.1], by rw [zi_k (by omega), zl_1, t2.2, t1.2]⟩
  | _ =>
    intro p i hs
    exact False.elim hs
/-- the letters that are idle -/
theorem idle_run {ws : List Int32} (hl : ws.length ≤ 21) (K : ZM → Option ZM) {S : Nat} (hS : S ≤ 21) : ∀ t p i w, sp ws i t → i + ln t ≤ ws.length → p + sz t ≤ S → ∀ fuel M, M.1 10 4 = nI S → AtC ws (M.1 11) (M.1 12) (M.1 13) (M.1 14) p i t → MS (lv ws) ws (M.2 21) (M.1 23) p i t → M.2 22 p = w → sz t < fuel → ∃ N, f_X5_findIdle_18 20 10 K fuel (nI p) M = f_X5_findIdle_18 20 10 K (fuel - sz t) (nI (p + sz t)) N ∧ N.1 20 3 = M.1 20 3 ||| iw (lv ws) ws i t w ∧ (∀ k, k ≤ p ∨ p + sz t ≤ k → N.2 22 k = M.2 22 k) ∧ Fr [20, 22] M N := by
  intro t
  induction t with
  | var c =>
    intro p i w hs hil hp fuel M h4 hA hM hw hf
    simp only [sz, ln] at hp hf hil ⊢
    obtain ⟨fuel, rfl⟩ : ∃ m, fuel = m + 1 := ⟨fuel - 1, by omega⟩
    rw [f_X5_findIdle_18]
    simp only [zletE]
    rw [show f_X7_size 10 M = nI S from h4, if_neg (by rw [nI_le' (by omega) (by omega)]; omega), kind_ok (by omega), hA.1, if_pos (isj0 M), if_pos rfl, show zr 20 1 = 22 by decide +kernel, l22 (by omega), hw, from_ok (by omega), hA.2.1, nI_s, Nat.add_sub_cancel]
    have e : iw (lv ws) ws i (.var c) w = if w = 0 then 1 <<< (nI i &&& 31) else 0 := rfl
    rw [e]
    by_cases q : w = 0
    · rw [if_pos (by rw [lg_cmp_eq]; exact q), if_pos q]
      refine ⟨zi M 20 3 (M.1 20 3 ||| 1 <<< (nI i &&& 31)), rfl, zi_eq, fun k _ => rfl, Fr_zi (by decide)⟩
    · rw [if_neg (by rw [lg_cmp_eq]; exact q), if_neg q]
      exact ⟨M, rfl, (Int32.or_zero).symm, fun k _ => rfl, Fr_rf _ _⟩
  | neg a ih =>
    intro p i w hs hil hp fuel M h4 hA hM hw hf
    simp only [sz, ln] at hp hf hil ⊢
    have hsa := sz_pos a
    obtain ⟨fuel, rfl⟩ : ∃ m, fuel = m + 1 := ⟨fuel - 1, by omega⟩
    rw [f_X5_findIdle_18]
    simp only [zletE]
    rw [show f_X7_size 10 M = nI S from h4, if_neg (by rw [nI_le' (by omega) (by omega)]; omega), kind_ok (by omega), hA.1, if_pos (isj1 M), if_neg (by decide), show zr 20 1 = 22 by decide +kernel, l22 (by omega), hw, inn_ok, putl_nI (by rw [show zn 22 = 21 by decide +kernel]; omega) (by omega), nI_s]
    obtain ⟨N, e, e3, ek, eF⟩ := ih (p + 1) (i + 1) w hs.2 (by omega) (by omega) fuel (zl M 22 (p + 1) w) h4 hA.2.2.2 (MS_congr a _ _ hM.2.2 (fun m _ _ => ⟨zl_ne (by decide), rfl⟩)) zl_eq (by omega)
    rw [e, show fuel + 1 - (sz a + 1) = fuel - sz a by omega, show p + (sz a + 1) = p + 1 + sz a by omega]
    exact ⟨N, rfl, e3, fun k hk => by rw [ek k (by omega), zl_k (by omega)], Fr_tr (Fr_zl (by decide)) eF⟩
  | pow a kk ih =>
    intro p i w hs hil hp fuel M h4 hA hM hw hf
    simp only [sz, ln] at hp hf hil ⊢
    have hsa := sz_pos a
    obtain ⟨fuel, rfl⟩ : ∃ m, fuel = m + 1 := ⟨fuel - 1, by omega⟩
    rw [f_X5_findIdle_18]
    simp only [zletE]
    rw [show f_X7_size 10 M = nI S from h4, if_neg (by rw [nI_le' (by omega) (by omega)]; omega), kind_ok (by omega), hA.1, if_pos (isj2 M), if_neg (by decide), show zr 20 1 = 22 by decide +kernel, l22 (by omega), hw, inn_ok, putl_nI (by rw [show zn 22 = 21 by decide +kernel]; omega) (by omega), nI_s]
    obtain ⟨N, e, e3, ek, eF⟩ := ih (p + 1) (i + 1) w hs.2.2 (by omega) (by omega) fuel (zl M 22 (p + 1) w) h4 hA.2.2.2 (MS_congr a _ _ hM.2.2 (fun m _ _ => ⟨zl_ne (by decide), rfl⟩)) zl_eq (by omega)
    rw [e, show fuel + 1 - (sz a + 1) = fuel - sz a by omega, show p + (sz a + 1) = p + 1 + sz a by omega]
    exact ⟨N, rfl, e3, fun k hk => by rw [ek k (by omega), zl_k (by omega)], Fr_tr (Fr_zl (by decide)) eF⟩
  | add a b iha ihb =>
    intro p i w hs hil hp fuel M h4 hA hM hw hf
    simp only [sz, ln] at hp hf hil ⊢
    have hsa := sz_pos a
    have hsb := sz_pos b
    have hj := hs.1
    have ma := MS_0 hM.2.2.1
    have mb := MS_0 hM.2.2.2
    obtain ⟨fuel, rfl⟩ : ∃ m, fuel = m + 1 := ⟨fuel - 1, by omega⟩
    have step : f_X5_findIdle_18 20 10 K (fuel + 1) (nI p) M = f_X5_findIdle_18 20 10 K fuel (nI (p + 1)) (zl (zl M 22 (p + 1) (wl (kd (wa ws (i + ln a))) w (mn (lv ws) ws (i + ln a + 1) b))) 22 (p + 1 + sz a) (wr (kd (wa ws (i + ln a))) w (mn (lv ws) ws i a))) := by
      rw [f_X5_findIdle_18]
      simp only [zletE]
      rw [show f_X7_size 10 M = nI S from h4, if_neg (by rw [nI_le' (by omega) (by omega)]; omega), kind_ok (by omega), hA.1, isj, if_neg (by rw [if_pos hj]; decide), show zr 20 1 = 22 by decide +kernel, show zr 20 0 = 21 by decide +kernel, l22 (by omega), hw, inn_ok, l21 (by omega), beh_ok (M := M) (by omega), hA.2.2.2.1, l21 (by omega), ma.1, mb.1, nI_s]
      unfold wl wr
      by_cases q : kd (wa ws (i + ln a)) = 3
      · rw [if_pos q, if_pos q, putl_nI (by rw [show zn 22 = 21 by decide +kernel]; omega) (by omega), beh_ok (by omega), zl_1, hA.2.2.2.1, if_neg (by rw [q]; decide), if_neg (by rw [q]; decide), putl_nI (by rw [show zn 22 = 21 by decide +kernel]; omega) (by omega)]
      · rw [if_neg q, if_neg q, putl_nI (by rw [show zn 22 = 21 by decide +kernel]; omega) (by omega), beh_ok (by omega), zl_1, hA.2.2.2.1]
        by_cases z : kd (wa ws (i + ln a)) = 4
        · rw [if_pos z, if_pos z, putl_nI (by rw [show zn 22 = 21 by decide +kernel]; omega) (by omega)]
        · rw [if_neg z, if_neg z, putl_nI (by rw [show zn 22 = 21 by decide +kernel]; omega) (by omega)]
    rw [step]
    obtain ⟨N1, e1, d1, k1, F1⟩ := iha (p + 1) i (wl (kd (wa ws (i + ln a))) w (mn (lv ws) ws (i + ln a + 1) b)) hs.2.1 (by omega) (by omega) fuel (zl (zl M 22 (p + 1) (wl (kd (wa ws (i + ln a))) w (mn (lv ws) ws (i + ln a + 1) b))) 22 (p + 1 + sz a) (wr (kd (wa ws (i + ln a))) w (mn (lv ws) ws i a))) h4 hA.2.2.2.2.1 (MS_congr a _ _ hM.2.2.1 (fun m _ _ => ⟨by rw [zl_ne (by decide), zl_ne (by decide)], rfl⟩)) (by rw [zl_k (by omega), zl_eq]) (by omega)
    have h21 : N1.2 21 = M.2 21 := by
      rw [(F1 21 (by decide)).2]
      funext m
      rw [zl_ne (by decide), zl_ne (by decide)]
    obtain ⟨N2, e2, d2, k2, F2⟩ := ihb (p + 1 + sz a) (i + ln a + 1) (wr (kd (wa ws (i + ln a))) w (mn (lv ws) ws i a)) hs.2.2 (by omega) (by omega) (fuel - sz a) N1 (by rw [(F1 10 (by decide)).1]; exact h4) (by rw [(F1 11 (by decide)).1, (F1 12 (by decide)).1, (F1 13 (by decide)).1, (F1 14 (by decide)).1]; exact hA.2.2.2.2.2) (by rw [h21, (F1 23 (by decide)).1]; exact hM.2.2.2) (by rw [k1 _ (by omega), zl_eq]) (by omega)
    rw [e1, e2, show fuel + 1 - (sz a + sz b + 1) = fuel - sz a - sz b by omega, show p + (sz a + sz b + 1) = p + 1 + sz a + sz b by omega]
    refine ⟨N2, rfl, ?_, fun k hk => by rw [k2 k (by omega), k1 k (by omega), zl_k (by omega), zl_k (by omega)], Fr_tr (Fr_tr (Fr_zl (by decide)) (Fr_zl (by decide))) (Fr_tr F1 F2)⟩
    rw [d2, d1, iw, zl_1, zl_1, Int32.or_assoc]
  | _ =>
    intro p i w hs
    exact False.elim hs
noncomputable def Me (ws : List Int32) (r : Nat) : Int64 := mn (lv ws) ws 0 (Tr ws r)
noncomputable def Ix (ws : List Int32) (r : Nat) : Int32 := iw (lv ws) ws 0 (Tr ws r) 4294967295
noncomputable def Mt (ws : List Int32) (r : Nat) : Int32 := (((cb ws 0 (Tr ws r) ^^^ (-1)) &&& 15) ||| (if Ix ws r = 0 then 16 else 0)) ||| (if Me ws r = 0 ∨ Me ws r = 4294967295 then 0 else 32)
theorem weigh_ok {ws : List Int32} (hl : ws.length ≤ 21) {M : ZM} (hw : WH M 3 ws) {r : Nat} (hr : r < Ny ws 0 ws.length) (hT : TC ws M (Tr ws r)) : ∃ N, f_X5_weigh 20 10 3 M = some N ∧ N.2 21 0 = Me ws r ∧ N.1 20 3 = Ix ws r ∧ N.1 20 4 = Mt ws r ∧ Fr [20, 21, 22, 23] M N := by
  have hsp := Tr_sp hr hl
  have hsz := sz_ln (Tr ws r)
  have hsp0 := sz_pos (Tr ws r)
  unfold f_X5_weigh
  simp only [zletE]
  rw [show f_X7_size 10 M = nI (sz (Tr ws r)) from hT.1]
  obtain ⟨N1, e1, m1, _, F1⟩ := weigh_run hl (fun (v3 : Int32) (M : ZM) => (f_X5_findIdle 20 10 M).bind fun (q11 : ZM) => some (zi q11 20 4 (63 &&& ((v3 ||| f_X5_brokenByWhole 20 q11) ^^^ (-1))))) (Tr ws r) 0 0 hsp.1 (by omega) (by omega) zN 0 M hw hT.2 (by unfold zN; omega)
  rw [Nat.zero_add] at e1
  rw [e1]
  obtain ⟨f, hf⟩ : ∃ f, zN - sz (Tr ws r) = f + 1 := ⟨zN - sz (Tr ws r) - 1, by unfold zN; omega⟩
  rw [hf, f_X5_weigh_10, if_pos (by decide +kernel), Int32.zero_or]
  unfold f_X5_findIdle
  simp only [zletE]
  rw [show zr 20 1 = 22 by decide +kernel, ← nI0, putl_nI (by rw [show zn 22 = 21 by decide +kernel]; omega) (by omega)]
  obtain ⟨N2, e2, d2, _, F2⟩ := idle_run hl (fun M => some M) (S := sz (Tr ws r)) (by omega) (Tr ws r) 0 0 4294967295 hsp.1 (by omega) (by omega) zN (zl (zi N1 20 3 (nI 0)) 22 0 4294967295) (by rw [zl_1, zi_ne (by decide), (F1 10 (by decide)).1]; exact hT.1) (by rw [show (zl (zi N1 20 3 (nI 0)) 22 0 4294967295).1 11 = N1.1 11 from funext fun k => (by rw [zl_1, zi_ne (by decide)]), show (zl (zi N1 20 3 (nI 0)) 22 0 4294967295).1 12 = N1.1 12 from funext fun k => (by rw [zl_1, zi_ne (by decide)]), show (zl (zi N1 20 3 (nI 0)) 22 0 4294967295).1 13 = N1.1 13 from funext fun k => (by rw [zl_1, zi_ne (by decide)]), show (zl (zi N1 20 3 (nI 0)) 22 0 4294967295).1 14 = N1.1 14 from funext fun k => (by rw [zl_1, zi_ne (by decide)]), (F1 11 (by decide)).1, (F1 12 (by decide)).1, (F1 13 (by decide)).1, (F1 14 (by decide)).1]; exact hT.2) (MS_congr _ _ _ m1 (fun m _ _ => ⟨by rw [zl_ne (by decide), zi_2], by rw [zl_1, zi_ne (by decide)]⟩)) zl_eq (by unfold zN; omega)
  obtain ⟨f2, hf2⟩ : ∃ f, zN - sz (Tr ws r) = f + 1 := ⟨zN - sz (Tr ws r) - 1, by unfold zN; omega⟩
  rw [e2, hf2, f_X5_findIdle_18]
  have h4 : N2.1 10 4 = nI (sz (Tr ws r)) := by rw [(F2 10 (by decide)).1, zl_1, zi_ne (by decide), (F1 10 (by decide)).1]; exact hT.1
  simp only [zletE]
  rw [show f_X7_size 10 N2 = nI (sz (Tr ws r)) from h4, Nat.zero_add, if_pos (by rw [nI_le' (by omega) (by omega)]; omega), bindE]
  have hI : N2.1 20 3 = Ix ws r := by
    rw [d2, zl_1, zi_eq, nI0, Int32.zero_or]; rfl
  have hM : N2.2 21 0 = Me ws r := by
    rw [(F2 21 (by decide)).2, zl_ne (by decide), zi_2]
    exact (MS_0 m1).1
  refine ⟨_, rfl, hM, by rw [zi_k (by decide)]; exact hI, ?_, ?_⟩
  · rw [zi_eq]
    unfold f_X5_brokenByWhole
    simp only [zletE]
    have hm : f_X5_meaning 20 N2 = Me ws r := by
      unfold f_X5_meaning
      rw [zletE, show zr 20 0 = 21 by decide +kernel, ← nI0, l21 (by omega)]; exact hM
    rw [hm, hI]
    have key := fun i s => met_eq (c0 (Tr ws r)) (c1 ws 0 (Tr ws r)) (c2 (Tr ws r)) (c3 ws 0 (Tr ws r)) i s
    unfold Mt
    have ecb : cb ws 0 (Tr ws r) = bw (c0 (Tr ws r)) (c1 ws 0 (Tr ws r)) (c2 (Tr ws r)) (c3 ws 0 (Tr ws r)) := rfl
    rw [ecb]
    by_cases q : Ix ws r = 0
    · rw [if_pos q, if_pos q]
      by_cases z : Me ws r = 0
      · rw [if_pos (by rw [lg_cmp_eq]; exact z), if_pos (Or.inl z)]; exact key false true
      · rw [if_neg (by rw [lg_cmp_eq]; exact z)]
        by_cases y : Me ws r = 4294967295
        · rw [if_pos (by rw [lg_cmp_eq]; exact y), if_pos (Or.inr y)]; exact key false true
        · rw [if_neg (by rw [lg_cmp_eq]; exact y), if_neg (fun h => h.elim z y)]; exact key false false
    · rw [if_neg q, if_neg q]
      by_cases z : Me ws r = 0
      · rw [if_pos (by rw [lg_cmp_eq]; exact z), if_pos (Or.inl z)]; exact key true true
      · rw [if_neg (by rw [lg_cmp_eq]; exact z)]
        by_cases y : Me ws r = 4294967295
        · rw [if_pos (by rw [lg_cmp_eq]; exact y), if_pos (Or.inr y)]; exact key true true
        · rw [if_neg (by rw [lg_cmp_eq]; exact y), if_neg (fun h => h.elim z y)]; exact key true false
  · refine Fr_tr (Fr_sub F1 (by decide)) (Fr_tr (Fr_tr (Fr_zi (by decide)) (Fr_zl (by decide))) (Fr_tr (Fr_sub F2 (by decide)) (Fr_zi (by decide))))
