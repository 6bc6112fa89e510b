theorem zloop {σ R : Type} (F : Nat → σ → Nat → R) (P : Nat → σ → Prop) (Q : R → Prop) (N : Nat)
    (h0 : ∀ n s, P N s → Q (F (n + 1) s N))
    (hs : ∀ n s i, i < N → P i s → Q (F (n + 1) s i) ∨ ∃ s', P (i + 1) s' ∧ F (n + 1) s i = F n s' (i + 1)) :
    ∀ k i n s, i + k = N → k < n → P i s → Q (F n s i) := by
  intro k
  induction k with
  | zero =>
    intro i n s h hn hp
    obtain ⟨n, rfl⟩ : ∃ m, n = m + 1 := ⟨n - 1, by omega⟩
    have e : i = N := by omega
    subst e
    exact h0 n s hp
  | succ k ih =>
    intro i n s h hn hp
    obtain ⟨n, rfl⟩ : ∃ m, n = m + 1 := ⟨n - 1, by omega⟩
    rcases hs n s i (by omega) hp with q | ⟨s', hp', e⟩
    · exact q
    · rw [e]; exact ih (i + 1) n s' (by omega) (by omega) hp'
theorem lN_inj {a b : Nat} (ha : a < 2147483648) (hb : b < 2147483648) : lN a = lN b ↔ a = b := lN_eq ha hb
theorem lN_div {a b : Nat} (ha : a < 2147483648) (hb : b < 2147483648) : lN a / lN b = lN (a / b) := by
  have h1 : (lN b) ≠ -1 := by
    intro h
    have := congrArg Int64.toInt h
    rw [lN_toInt hb] at this
    have e : (-1 : Int64).toInt = -1 := rfl
    omega
  apply Int64.toInt_inj.mp
  rw [Int64.toInt_div_of_ne_right _ _ h1, lN_toInt ha, lN_toInt hb, lN_toInt (Nat.lt_of_le_of_lt (Nat.div_le_self a b) ha)]
  exact (Int.ofNat_tdiv a b).symm
theorem lN_mod {a b : Nat} (ha : a < 2147483648) (hb : b < 2147483648) : lN a - lN a / lN b * lN b = lN (a % b) := by
  rw [lN_div ha hb, lN_mul, lN_sub (Nat.div_mul_le_self a b)]
  congr 1
  have := Nat.div_add_mod a b
  rw [Nat.mul_comm] at this
  omega
theorem lc_ge {a b : Nat} (ha : a < 2147483648) (hb : b < 2147483648) : (0 ≤ lg_cmp (lN a) (lN b)) ↔ b ≤ a := by
  rw [lg_cmp_ge, lN_le hb ha]
theorem lc_lt {a b : Nat} (ha : a < 2147483648) (hb : b < 2147483648) : (lg_cmp (lN a) (lN b) < 0) ↔ a < b := by
  rw [lg_cmp_lt, lN_lt ha hb]
theorem lc_le {a b : Nat} (ha : a < 2147483648) (hb : b < 2147483648) : (lg_cmp (lN a) (lN b) ≤ 0) ↔ a ≤ b := by
  rw [lg_cmp_le, lN_le ha hb]
theorem znz_lN {b : Nat} (hb : b < 2147483648) (h : 0 < b) : znz (lN b) = true := by
  unfold znz
  apply decide_eq_true
  intro e
  have := (lN_inj (b := 0) hb (by decide)).mp e
  omega
theorem sN {k : Nat} {f : Prop} [Decidable f] {α : Type} {x : Option α} (h : f) : zck (decide f) x = x := by
  unfold zck; rw [if_pos (decide_eq_true h)]
theorem zckT {α : Type} {b : Bool} {x : Option α} (h : b = true) : zck b x = x := by
  unfold zck; rw [if_pos h]
theorem zin_t {a n : Nat} (h : a < n) (hb : a < 2147483648) : zin (nI a) n = true := by
  rw [zin_nI hb]; exact decide_eq_true h
def AtC (ws : List Int32) (K F E B : Nat → Int32) : Nat → Nat → zT → Prop
  | p, i, .neg a => K p = 1 ∧ F p = nI i ∧ E p = nI (i + ln a + 1) ∧ AtC ws K F E B (p + 1) (i + 1) a
  | p, i, .pow a _ => K p = 2 ∧ F p = nI i ∧ E p = nI (i + ln a + 2) ∧ AtC ws K F E B (p + 1) (i + 1) a
  | p, i, .add a b => K p = kd (wa ws (i + ln a)) ∧ F p = nI i ∧ E p = nI (i + ln a + ln b + 1) ∧ B p = nI (p + 1 + sz a) ∧ AtC ws K F E B (p + 1) i a ∧ AtC ws K F E B (p + 1 + sz a) (i + ln a + 1) b
  | p, i, _ => K p = 0 ∧ F p = nI i ∧ E p = nI (i + 1)
def AtM (ws : List Int32) (K F L : Nat → Int32) : Nat → Nat → zT → Prop
  | p, i, .neg a => K p = 1 ∧ F p = nI i ∧ L p = nI (ln a + 1) ∧ AtM ws K F L (p + 1) (i + 1) a
  | p, i, .pow a _ => K p = 2 ∧ F p = nI i ∧ L p = nI (ln a + 2) ∧ AtM ws K F L (p + 1) (i + 1) a
  | p, i, .add a b => K p = kd (wa ws (i + ln a)) ∧ F p = nI i ∧ L p = nI (ln a + ln b + 1) ∧ AtM ws K F L (p + 1) i a ∧ AtM ws K F L (p + 1 + sz a) (i + ln a + 1) b
  | p, i, _ => K p = 0 ∧ F p = nI i ∧ L p = nI 1
theorem AtC_congr {ws : List Int32} {K F E B K' F' E' B' : Nat → Int32} : ∀ t p i, AtC ws K F E B p i t → (∀ m, p ≤ m → m < p + sz t → K' m = K m ∧ F' m = F m ∧ E' m = E m ∧ B' m = B m) → AtC ws K' F' E' B' p i t := by
  intro t
  induction t with
  | neg a ih =>
    intro p i h q
    have q0 := q p (Nat.le_refl _) (by simp only [sz]; omega)
    refine ⟨by rw [q0.1]; exact h.1, by rw [q0.2.1]; exact h.2.1, by rw [q0.2.2.1]; exact h.2.2.1, ih _ _ h.2.2.2 (fun m a b => q m (by omega) (by simp only [sz]; omega))⟩
  | pow a k ih =>
    intro p i h q
    have q0 := q p (Nat.le_refl _) (by simp only [sz]; omega)
    refine ⟨by rw [q0.1]; exact h.1, by rw [q0.2.1]; exact h.2.1, by rw [q0.2.2.1]; exact h.2.2.1, ih _ _ h.2.2.2 (fun m a b => q m (by omega) (by simp only [sz]; omega))⟩
  | add a b iha ihb =>
    intro p i h q
    have q0 := q p (Nat.le_refl _) (by simp only [sz]; omega)
    refine ⟨by rw [q0.1]; exact h.1, by rw [q0.2.1]; exact h.2.1, by rw [q0.2.2.1]; exact h.2.2.1, by rw [q0.2.2.2]; exact h.2.2.2.1, iha _ _ h.2.2.2.2.1 (fun m a b => q m (by omega) (by simp only [sz]; omega)), ihb _ _ h.2.2.2.2.2 (fun m a b => q m (by omega) (by simp only [sz]; omega))⟩
  | _ =>
    intro p i h q
    have q0 := q p (Nat.le_refl _) (by simp only [sz]; omega)
    exact ⟨by rw [q0.1]; exact h.1, by rw [q0.2.1]; exact h.2.1, by rw [q0.2.2.1]; exact h.2.2⟩
theorem AtM_congr {ws : List Int32} {K F L K' F' L' : Nat → Int32} : ∀ t p i, AtM ws K F L p i t → (∀ m, p ≤ m → m < p + sz t → K' m = K m ∧ F' m = F m ∧ L' m = L m) → AtM ws K' F' L' p i t := by
  intro t
  induction t with
  | neg a ih =>
    intro p i h q
    have q0 := q p (Nat.le_refl _) (by simp only [sz]; omega)
    refine ⟨by rw [q0.1]; exact h.1, by rw [q0.2.1]; exact h.2.1, by rw [q0.2.2]; exact h.2.2.1, ih _ _ h.2.2.2 (fun m a b => q m (by omega) (by simp only [sz]; omega))⟩
  | pow a k ih =>
    intro p i h q
    have q0 := q p (Nat.le_refl _) (by simp only [sz]; omega)
    refine ⟨by rw [q0.1]; exact h.1, by rw [q0.2.1]; exact h.2.1, by rw [q0.2.2]; exact h.2.2.1, ih _ _ h.2.2.2 (fun m a b => q m (by omega) (by simp only [sz]; omega))⟩
  | add a b iha ihb =>
    intro p i h q
    have q0 := q p (Nat.le_refl _) (by simp only [sz]; omega)
    refine ⟨by rw [q0.1]; exact h.1, by rw [q0.2.1]; exact h.2.1, by rw [q0.2.2]; exact h.2.2.1, iha _ _ h.2.2.2.1 (fun m a b => q m (by omega) (by simp only [sz]; omega)), ihb _ _ h.2.2.2.2 (fun m a b => q m (by omega) (by simp only [sz]; omega))⟩
  | _ =>
    intro p i h q
    have q0 := q p (Nat.le_refl _) (by simp only [sz]; omega)
    exact ⟨by rw [q0.1]; exact h.1, by rw [q0.2.1]; exact h.2.1, by rw [q0.2.2]; exact h.2.2⟩
def nf : Nat → zT → Nat → Nat × Nat
  | i, .neg a, m => if m = 0 then (i, ln a + 1) else nf (i + 1) a (m - 1)
  | i, .pow a _, m => if m = 0 then (i, ln a + 2) else nf (i + 1) a (m - 1)
  | i, .add a b, m => if m = 0 then (i, ln a + ln b + 1) else if m - 1 < sz a then nf i a (m - 1) else nf (i + ln a + 1) b (m - 1 - sz a)
  | i, _, _ => (i, 1)
def nk (ws : List Int32) : Nat → zT → Nat → Int32
  | i, .neg a, m => if m = 0 then 1 else nk ws (i + 1) a (m - 1)
  | i, .pow a _, m => if m = 0 then 2 else nk ws (i + 1) a (m - 1)
  | i, .add a b, m => if m = 0 then kd (wa ws (i + ln a)) else if m - 1 < sz a then nk ws i a (m - 1) else nk ws (i + ln a + 1) b (m - 1 - sz a)
  | _, _, _ => 0
theorem AtC_n {ws : List Int32} {K F E B : Nat → Int32} : ∀ t p i, AtC ws K F E B p i t → ∀ m, m < sz t → K (p + m) = nk ws i t m ∧ F (p + m) = nI (nf i t m).1 ∧ E (p + m) = nI ((nf i t m).1 + (nf i t m).2) := by
  intro t
  induction t with
  | neg a ih =>
    intro p i h m hm
    rw [nk, nf]
    by_cases q : m = 0
    · subst q; rw [if_pos rfl, if_pos rfl]; exact ⟨h.1, h.2.1, by rw [Nat.add_zero, h.2.2.1]; congr 1⟩
    · rw [if_neg q, if_neg q]
      have := ih _ _ h.2.2.2 (m - 1) (by simp only [sz] at hm; omega)
      rwa [show p + 1 + (m - 1) = p + m by omega] at this
  | pow a k ih =>
    intro p i h m hm
    rw [nk, nf]
    by_cases q : m = 0
    · subst q; rw [if_pos rfl, if_pos rfl]; exact ⟨h.1, h.2.1, by rw [Nat.add_zero, h.2.2.1]; congr 1⟩
    · rw [if_neg q, if_neg q]
      have := ih _ _ h.2.2.2 (m - 1) (by simp only [sz] at hm; omega)
      rwa [show p + 1 + (m - 1) = p + m by omega] at this
  | add a b iha ihb =>
    intro p i h m hm
    rw [nk, nf]
    by_cases q : m = 0
    · subst q; rw [if_pos rfl, if_pos rfl]; exact ⟨h.1, h.2.1, by rw [Nat.add_zero, h.2.2.1]; congr 1; simp only []; omega⟩
    · rw [if_neg q, if_neg q]
      by_cases q' : m - 1 < sz a
      · rw [if_pos q', if_pos q']
        have := iha _ _ h.2.2.2.2.1 (m - 1) q'
        rwa [show p + 1 + (m - 1) = p + m by omega] at this
      · rw [if_neg q', if_neg q']
        have := ihb _ _ h.2.2.2.2.2 (m - 1 - sz a) (by simp only [sz] at hm; omega)
        rwa [show p + 1 + sz a + (m - 1 - sz a) = p + m by omega] at this
  | _ =>
    intro p i h m hm
    have e : m = 0 := by simp only [sz] at hm; omega
    subst e
    exact ⟨h.1, h.2.1, h.2.2⟩
theorem AtM_n {ws : List Int32} {K F L : Nat → Int32} : ∀ t p i, AtM ws K F L p i t → ∀ m, m < sz t → K (p + m) = nk ws i t m ∧ F (p + m) = nI (nf i t m).1 ∧ L (p + m) = nI (nf i t m).2 := by
  intro t
  induction t with
  | neg a ih =>
    intro p i h m hm
    rw [nk, nf]
    by_cases q : m = 0
    · subst q; rw [if_pos rfl, if_pos rfl]; exact ⟨h.1, h.2.1, h.2.2.1⟩
    · rw [if_neg q, if_neg q]
      have := ih _ _ h.2.2.2 (m - 1) (by simp only [sz] at hm; omega)
      rwa [show p + 1 + (m - 1) = p + m by omega] at this
  | pow a k ih =>
    intro p i h m hm
    rw [nk, nf]
    by_cases q : m = 0
    · subst q; rw [if_pos rfl, if_pos rfl]; exact ⟨h.1, h.2.1, h.2.2.1⟩
    · rw [if_neg q, if_neg q]
      have := ih _ _ h.2.2.2 (m - 1) (by simp only [sz] at hm; omega)
      rwa [show p + 1 + (m - 1) = p + m by omega] at this
  | add a b iha ihb =>
    intro p i h m hm
    rw [nk, nf]
    by_cases q : m = 0
    · subst q; rw [if_pos rfl, if_pos rfl]; exact ⟨h.1, h.2.1, h.2.2.1⟩
    · rw [if_neg q, if_neg q]
      by_cases q' : m - 1 < sz a
      · rw [if_pos q', if_pos q']
        have := iha _ _ h.2.2.2.1 (m - 1) q'
        rwa [show p + 1 + (m - 1) = p + m by omega] at this
      · rw [if_neg q', if_neg q']
        have := ihb _ _ h.2.2.2.2 (m - 1 - sz a) (by simp only [sz] at hm; omega)
        rwa [show p + 1 + sz a + (m - 1 - sz a) = p + m by omega] at this
  | _ =>
    intro p i h m hm
    have e : m = 0 := by simp only [sz] at hm; omega
    subst e
    exact ⟨h.1, h.2.1, h.2.2⟩
