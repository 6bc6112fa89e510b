abbrev zT : Type := Lean.Grind.CommRing.Expr
def kd (c : Int32) : Int32 := f_X11_kindOf c zZ
def jn (c : Int32) : Bool := decide (3 ≤ kd c)
def wa (ws : List Int32) (i : Nat) : Int32 := ws.getD i 0
def ln : zT → Nat
  | .neg a => ln a + 1
  | .pow a _ => ln a + 2
  | .add a b => ln a + ln b + 1
  | _ => 1
def sz : zT → Nat
  | .neg a => sz a + 1
  | .pow a _ => sz a + 1
  | .add a b => sz a + sz b + 1
  | _ => 1
theorem ln_pos (t : zT) : 1 ≤ ln t := by cases t <;> simp only [ln] <;> omega
theorem sz_pos (t : zT) : 1 ≤ sz t := by cases t <;> simp only [sz] <;> omega
theorem sz_ln (t : zT) : sz t ≤ ln t := by induction t <;> simp only [sz, ln] <;> omega
def sp (ws : List Int32) : Nat → zT → Prop
  | i, .var _ => kd (wa ws i) = 0
  | i, .neg a => wa ws i = 33 ∧ sp ws (i + 1) a
  | i, .pow a _ => wa ws i = 40 ∧ wa ws (i + 1 + ln a) = 41 ∧ sp ws (i + 1) a
  | i, .add a b => jn (wa ws (i + ln a)) = true ∧ sp ws i a ∧ sp ws (i + ln a + 1) b
  | _, _ => False
theorem sp_ind {ws : List Int32} {P : Nat → zT → Prop}
    (h0 : ∀ i c, kd (wa ws i) = 0 → P i (.var c))
    (h1 : ∀ i a, wa ws i = 33 → sp ws (i + 1) a → P (i + 1) a → P i (.neg a))
    (h2 : ∀ i a k, wa ws i = 40 → wa ws (i + 1 + ln a) = 41 → sp ws (i + 1) a → P (i + 1) a → P i (.pow a k))
    (h3 : ∀ i a b, jn (wa ws (i + ln a)) = true → sp ws i a → sp ws (i + ln a + 1) b → P i a → P (i + ln a + 1) b → P i (.add a b)) :
    ∀ t i, sp ws i t → P i t := by
  intro t
  induction t with
  | var c => intro i h; exact h0 i c h
  | neg a ih => intro i h; exact h1 i a h.1 h.2 (ih _ h.2)
  | pow a k ih => intro i h; exact h2 i a k h.1 h.2.1 h.2.2 (ih _ h.2.2)
  | add a b iha ihb => intro i h; exact h3 i a b h.1 h.2.1 h.2.2 (iha _ h.2.1) (ihb _ h.2.2)
  | _ => intro i h; exact False.elim h
theorem kd_or (c : Int32) : (kd c = 1 ∧ c = 33) ∨ (kd c = 3 ∧ c = 38) ∨ (kd c = 2 ∧ c = 40) ∨ (kd c = 6 ∧ c = 45) ∨ (kd c = 5 ∧ c = 62) ∨ (kd c = 0 ∧ (c = 97 ∨ c = 98 ∨ c = 99 ∨ c = 100 ∨ c = 101)) ∨ (kd c = 4 ∧ c = 124) ∨ (kd c = -1 ∧ c ≠ 33 ∧ c ≠ 38 ∧ c ≠ 40 ∧ c ≠ 45 ∧ c ≠ 62 ∧ c ≠ 97 ∧ c ≠ 98 ∧ c ≠ 99 ∧ c ≠ 100 ∧ c ≠ 101 ∧ c ≠ 124) := by
  unfold kd f_X11_kindOf
  by_cases h1 : c = 33
  · rw [if_pos h1]; exact Or.inl ⟨rfl, h1⟩
  rw [if_neg h1]
  by_cases h2 : c = 38
  · rw [if_pos h2]; exact Or.inr (Or.inl ⟨rfl, h2⟩)
  rw [if_neg h2]
  by_cases h3 : c = 40
  · rw [if_pos h3]; exact Or.inr (Or.inr (Or.inl ⟨rfl, h3⟩))
  rw [if_neg h3]
  by_cases h4 : c = 45
  · rw [if_pos h4]; exact Or.inr (Or.inr (Or.inr (Or.inl ⟨rfl, h4⟩)))
  rw [if_neg h4]
  by_cases h5 : c = 62
  · rw [if_pos h5]; exact Or.inr (Or.inr (Or.inr (Or.inr (Or.inl ⟨rfl, h5⟩))))
  rw [if_neg h5]
  by_cases h6 : c = 97
  · rw [if_pos h6]; exact Or.inr (Or.inr (Or.inr (Or.inr (Or.inr (Or.inl ⟨rfl, Or.inl h6⟩)))))
  rw [if_neg h6]
  by_cases h7 : c = 98
  · rw [if_pos h7]; exact Or.inr (Or.inr (Or.inr (Or.inr (Or.inr (Or.inl ⟨rfl, Or.inr (Or.inl h7)⟩)))))
  rw [if_neg h7]
  by_cases h8 : c = 99
  · rw [if_pos h8]; exact Or.inr (Or.inr (Or.inr (Or.inr (Or.inr (Or.inl ⟨rfl, Or.inr (Or.inr (Or.inl h8))⟩)))))
  rw [if_neg h8]
  by_cases h9 : c = 100
  · rw [if_pos h9]; exact Or.inr (Or.inr (Or.inr (Or.inr (Or.inr (Or.inl ⟨rfl, Or.inr (Or.inr (Or.inr (Or.inl h9)))⟩)))))
  rw [if_neg h9]
  by_cases hA : c = 101
  · rw [if_pos hA]; exact Or.inr (Or.inr (Or.inr (Or.inr (Or.inr (Or.inl ⟨rfl, Or.inr (Or.inr (Or.inr (Or.inr hA)))⟩)))))
  rw [if_neg hA]
  by_cases hB : c = 124
  · rw [if_pos hB]; exact Or.inr (Or.inr (Or.inr (Or.inr (Or.inr (Or.inr (Or.inl ⟨rfl, hB⟩))))))
  rw [if_neg hB]
  exact Or.inr (Or.inr (Or.inr (Or.inr (Or.inr (Or.inr (Or.inr ⟨rfl, h1, h2, h3, h4, h5, h6, h7, h8, h9, hA, hB⟩))))))
theorem kd0 {c : Int32} : kd c = 0 ↔ (c = 97 ∨ c = 98 ∨ c = 99 ∨ c = 100 ∨ c = 101) := by
  constructor
  · intro h
    rcases kd_or c with q | q | q | q | q | q | q | q <;> first | exact absurd (h.symm.trans q.1) (by decide) | exact q.2
  · rintro (h | h | h | h | h) <;> subst h <;> rfl
theorem kd1 {c : Int32} : kd c = 1 ↔ c = 33 := by
  constructor
  · intro h
    rcases kd_or c with q | q | q | q | q | q | q | q <;> first | exact absurd (h.symm.trans q.1) (by decide) | exact q.2
  · intro h; subst h; rfl
theorem kd2 {c : Int32} : kd c = 2 ↔ c = 40 := by
  constructor
  · intro h
    rcases kd_or c with q | q | q | q | q | q | q | q <;> first | exact absurd (h.symm.trans q.1) (by decide) | exact q.2
  · intro h; subst h; rfl
theorem jn_or {c : Int32} (h : jn c = true) : (kd c = 3 ∧ c = 38) ∨ (kd c = 4 ∧ c = 124) ∨ (kd c = 5 ∧ c = 62) ∨ (kd c = 6 ∧ c = 45) := by
  have h := of_decide_eq_true h
  rcases kd_or c with q | q | q | q | q | q | q | q <;> first
    | (rw [q.1] at h; exact absurd h (by decide))
    | exact Or.inl q
    | exact Or.inr (Or.inl q)
    | exact Or.inr (Or.inr (Or.inl q))
    | exact Or.inr (Or.inr (Or.inr q))
theorem kd0_ne {c : Int32} (h : kd c = 0) : c ≠ 40 ∧ c ≠ 41 ∧ c ≠ 33 ∧ jn c = false := by
  refine ⟨?_, ?_, ?_, ?_⟩
  · intro e; subst e; exact absurd h (by decide)
  · intro e; subst e; exact absurd h (by decide)
  · intro e; subst e; exact absurd h (by decide)
  · unfold jn; rw [h]; rfl
theorem jn_ne {c : Int32} (h : jn c = true) : c ≠ 40 ∧ c ≠ 41 ∧ c ≠ 33 ∧ kd c ≠ 0 ∧ kd c ≠ 1 ∧ kd c ≠ 2 := by
  refine ⟨?_, ?_, ?_, ?_, ?_, ?_⟩
  · intro e; subst e; exact absurd h (by decide)
  · intro e; subst e; exact absurd h (by decide)
  · intro e; subst e; exact absurd h (by decide)
  · intro e; unfold jn at h; rw [e] at h; exact absurd h (by decide)
  · intro e; unfold jn at h; rw [e] at h; exact absurd h (by decide)
  · intro e; unfold jn at h; rw [e] at h; exact absurd h (by decide)
def clf (ws : List Int32) : Nat → Nat → Nat → Nat
  | 0, _, i => i
  | c + 1, o, i => if wa ws i = 40 then clf ws c (o + 1) (i + 1) else if wa ws i = 41 then (if o = 0 then i else clf ws c (o - 1) (i + 1)) else clf ws c o (i + 1)
def clo (ws : List Int32) (p : Nat) : Nat := clf ws (ws.length - p) 0 p
theorem clf_other {ws : List Int32} {c o i : Nat} (h : wa ws i ≠ 40) (h' : wa ws i ≠ 41) : clf ws (c + 1) o i = clf ws c o (i + 1) := by
  rw [clf, if_neg h, if_neg h']
theorem clf_40 {ws : List Int32} {c o i : Nat} (h : wa ws i = 40) : clf ws (c + 1) o i = clf ws c (o + 1) (i + 1) := by
  rw [clf, if_pos h]
theorem clf_41 {ws : List Int32} {c o i : Nat} (h : wa ws i = 41) : clf ws (c + 1) (o + 1) i = clf ws c o (i + 1) := by
  rw [clf, if_neg (by rw [h]; decide), if_pos h, if_neg (by omega)]; rfl
theorem clf_410 {ws : List Int32} {c i : Nat} (h : wa ws i = 41) : clf ws (c + 1) 0 i = i := by
  rw [clf, if_neg (by rw [h]; decide), if_pos h, if_pos rfl]
theorem clf_sp {ws : List Int32} : ∀ t i, sp ws i t → ∀ c o, clf ws (c + ln t) o i = clf ws c o (i + ln t) := by
  apply sp_ind
  · intro i _ h c o
    exact clf_other (kd0_ne h).1 (kd0_ne h).2.1
  · intro i a h _ ih c o
    have e : wa ws i ≠ 40 ∧ wa ws i ≠ 41 := by rw [h]; decide
    rw [show c + ln (.neg a) = (c + ln a) + 1 from rfl, clf_other e.1 e.2, ih, show i + ln (.neg a) = i + 1 + ln a by simp only [ln]; omega]
  · intro i a k h h' _ ih c o
    rw [show c + ln (.pow a k) = (c + 1 + ln a) + 1 by simp only [ln]; omega, clf_40 h, ih, clf_41 h', show i + ln (.pow a k) = i + 1 + ln a + 1 by simp only [ln]; omega]
  · intro i a b h _ _ iha ihb c o
    rw [show c + ln (.add a b) = (c + ln b + 1) + ln a by simp only [ln]; omega, iha, clf_other (jn_ne h).1 (jn_ne h).2.1, ihb, show i + ln (.add a b) = i + ln a + 1 + ln b by simp only [ln]; omega]
theorem clf_ge {ws : List Int32} : ∀ c o i, i ≤ clf ws c o i ∧ clf ws c o i ≤ i + c ∧ (clf ws c o i < i + c → wa ws (clf ws c o i) = 41) := by
  intro c
  induction c with
  | zero => intro o i; simp only [clf]; omega
  | succ c ih =>
    intro o i
    rw [clf]
    split
    · have := ih (o + 1) (i + 1); refine ⟨by omega, by omega, fun h => this.2.2 (by omega)⟩
    · split
      · split
        · refine ⟨by omega, by omega, fun _ => by assumption⟩
        · have := ih (o - 1) (i + 1); refine ⟨by omega, by omega, fun h => this.2.2 (by omega)⟩
      · have := ih o (i + 1); refine ⟨by omega, by omega, fun h => this.2.2 (by omega)⟩
theorem clo_le {ws : List Int32} {p : Nat} (h : p ≤ ws.length) : p ≤ clo ws p ∧ clo ws p ≤ ws.length := by
  have := clf_ge (ws := ws) (ws.length - p) 0 p
  unfold clo; omega
theorem clo_41 {ws : List Int32} {p : Nat} (h : clo ws p < ws.length) (hp : p ≤ ws.length) : wa ws (clo ws p) = 41 :=
  (clf_ge (ws := ws) (ws.length - p) 0 p).2.2 (by unfold clo at h; omega)
theorem clo_sp {ws : List Int32} {t : zT} {i : Nat} (h : sp ws i t) (hl : i + ln t ≤ ws.length) : clo ws i = clo ws (i + ln t) := by
  unfold clo
  rw [show ws.length - i = (ws.length - (i + ln t)) + ln t by omega, clf_sp t i h]
theorem clo_sp41 {ws : List Int32} {t : zT} {i : Nat} (h : sp ws i t) (hl : i + ln t < ws.length) (h' : wa ws (i + ln t) = 41) : clo ws i = i + ln t := by
  rw [clo_sp h (by omega)]
  unfold clo
  rw [show ws.length - (i + ln t) = (ws.length - (i + ln t) - 1) + 1 by omega, clf_410 h']
def sm (f : Nat → Nat) : Nat → Nat → Nat
  | _, 0 => 0
  | lo, c + 1 => f lo + sm f (lo + 1) c
theorem sm_congr {f g : Nat → Nat} : ∀ c lo, (∀ k, lo ≤ k → k < lo + c → f k = g k) → sm f lo c = sm g lo c := by
  intro c
  induction c with
  | zero => intro lo _; rfl
  | succ c ih =>
    intro lo h
    rw [sm, sm, h lo (by omega) (by omega), ih (lo + 1) (fun k a b => h k (by omega) (by omega))]
theorem sm_le {f g : Nat → Nat} : ∀ c lo lo', (∀ m, m < c → f (lo + m) ≤ g (lo' + m)) → sm f lo c ≤ sm g lo' c := by
  intro c
  induction c with
  | zero => intro lo _ _; exact Nat.le_refl _
  | succ c ih =>
    intro lo lo' h
    rw [sm, sm]
    have h1 := h 0 (by omega)
    have h2 := ih (lo + 1) (lo' + 1) (fun m hm => by have := h (m + 1) (by omega); rwa [show lo + 1 + m = lo + (m + 1) by omega, show lo' + 1 + m = lo' + (m + 1) by omega])
    rw [Nat.add_zero, Nat.add_zero] at h1
    omega
theorem sm_ge {f : Nat → Nat} : ∀ c lo k, lo ≤ k → k < lo + c → f k ≤ sm f lo c := by
  intro c
  induction c with
  | zero => intro lo k h h'; omega
  | succ c ih =>
    intro lo k h h'
    rw [sm]
    by_cases e : k = lo
    · rw [e]; omega
    · have := ih (lo + 1) k (by omega) (by omega); omega
theorem sm_last {f : Nat → Nat} : ∀ c lo, sm f lo (c + 1) = sm f lo c + f (lo + c) := by
  intro c
  induction c with
  | zero => intro lo; simp only [sm, Nat.add_zero, Nat.zero_add]
  | succ c ih =>
    intro lo
    rw [sm, ih, sm, show lo + 1 + c = lo + (c + 1) by omega]
    omega
def fyg (ws : List Int32) (N : Nat → Nat → Nat) (i j : Nat) : Nat := if kd (wa ws i) = 0 then (if j = i + 1 then 1 else 0) else if kd (wa ws i) = 1 then N (i + 1) j else if kd (wa ws i) = 2 then (if clo ws (i + 1) + 1 = j then N (i + 1) (j - 1) else 0) else 0
def hjg (ws : List Int32) (N : Nat → Nat → Nat) (i j k : Nat) : Nat := if jn (wa ws k) = true then N i k * N (k + 1) j else 0
def nyd (ws : List Int32) : Nat → Nat → Nat → Nat
  | 0, _, _ => 0
  | d + 1, i, j => if i < j then fyg ws (nyd ws d) i j + sm (hjg ws (nyd ws d) i j) (i + 1) (j - i - 2) else 0
theorem ny_step {ws : List Int32} {N N' : Nat → Nat → Nat} {i j : Nat} (hij : i < j) (h : ∀ i' j', j' - i' < j - i → N i' j' = N' i' j') : fyg ws N i j + sm (hjg ws N i j) (i + 1) (j - i - 2) = fyg ws N' i j + sm (hjg ws N' i j) (i + 1) (j - i - 2) := by
  have e1 : fyg ws N i j = fyg ws N' i j := by
    unfold fyg
    rw [h (i + 1) j (by omega), h (i + 1) (j - 1) (by omega)]
  rw [e1, sm_congr]
  intro k a b
  unfold hjg
  rw [h i k (by omega), h (k + 1) j (by omega)]
theorem nyd_irr {ws : List Int32} : ∀ d d' i j, j - i ≤ d → j - i ≤ d' → nyd ws d i j = nyd ws d' i j := by
  intro d
  induction d with
  | zero =>
    intro d' i j h _
    cases d' with
    | zero => rfl
    | succ d' => rw [nyd, nyd, if_neg (by omega)]
  | succ d ih =>
    intro d' i j h h'
    cases d' with
    | zero => rw [nyd, nyd, if_neg (by omega)]
    | succ d' =>
      rw [nyd, nyd]
      by_cases hij : i < j
      · rw [if_pos hij, if_pos hij]
        exact ny_step hij (fun i' j' q => ih d' i' j' (by omega) (by omega))
      · rw [if_neg hij, if_neg hij]
def Ny (ws : List Int32) (i j : Nat) : Nat := nyd ws 64 i j
def Fy (ws : List Int32) (i j : Nat) : Nat := fyg ws (Ny ws) i j
def hj (ws : List Int32) (i j k : Nat) : Nat := hjg ws (Ny ws) i j k
theorem Ny_eq {ws : List Int32} {i j : Nat} (hij : i < j) (h : j - i ≤ 63) : Ny ws i j = Fy ws i j + sm (hj ws i j) (i + 1) (j - i - 2) := by
  unfold Ny
  rw [show (64 : Nat) = 63 + 1 from rfl, nyd, if_pos hij]
  exact ny_step hij (fun i' j' q => nyd_irr 63 64 i' j' (by omega) (by omega))
theorem Ny_0 {ws : List Int32} {i j : Nat} (h : ¬ i < j) : Ny ws i j = 0 := by
  unfold Ny
  rw [show (64 : Nat) = 63 + 1 from rfl, nyd, if_neg h]
def um (L : Nat) : Nat := [0, 1, 1, 2, 4, 9, 21, 51, 127, 323, 835, 2188, 5798, 15511, 41835, 113634, 310572, 853467, 2356779, 6536382, 18199284, 50852019].getD L 0
theorem um_step : ∀ L, L < 22 → 2 ≤ L → um (L - 1) + sm (fun k => um k * um (L - 1 - k)) 1 (L - 2) ≤ um L := by decide +kernel
theorem um_mono : ∀ L, L < 22 → um (L - 1) ≤ um L := by decide +kernel
theorem um_big : ∀ L, L < 22 → um L < 1073741824 := by decide +kernel
theorem Ny_le {ws : List Int32} : ∀ L i j, j - i = L → L < 22 → Ny ws i j ≤ um L := by
  intro L
  induction L using Nat.strongRecOn with
  | ind L ih =>
    intro i j hL hL'
    by_cases hij : i < j
    · rw [Ny_eq hij (by omega)]
      by_cases h1 : L = 1
      · have hj1 : j = i + 1 := by omega
        subst h1
        have e : sm (hj ws i j) (i + 1) (j - i - 2) = 0 := by rw [show j - i - 2 = 0 by omega]; rfl
        rw [e]
        unfold Fy fyg
        rw [Ny_0 (i := i + 1) (j := j) (by omega), Ny_0 (i := i + 1) (j := j - 1) (by omega)]
        have : um 1 = 1 := by decide
        rw [this]
        split <;> (try split) <;> (try split) <;> (try split) <;> omega
      · have a1 : Ny ws (i + 1) j ≤ um (L - 1) := ih (L - 1) (by omega) _ _ (by omega) (by omega)
        have a2 : Ny ws (i + 1) (j - 1) ≤ um (L - 1 - 1) := ih (L - 1 - 1) (by omega) _ _ (by omega) (by omega)
        have a3 := um_mono (L - 1) (by omega)
        have a4 : Fy ws i j ≤ um (L - 1) := by
          have hne : j ≠ i + 1 := by omega
          unfold Fy fyg
          rw [if_neg hne]
          split
          · omega
          · split
            · exact a1
            · split
              · split <;> omega
              · omega
        have a5 : sm (hj ws i j) (i + 1) (j - i - 2) ≤ sm (fun k => um k * um (L - 1 - k)) 1 (L - 2) := by
          rw [show j - i - 2 = L - 2 by omega]
          apply sm_le
          intro m hm
          show hjg ws (Ny ws) i j (i + 1 + m) ≤ um (1 + m) * um (L - 1 - (1 + m))
          unfold hjg
          split
          · exact Nat.mul_le_mul (ih (1 + m) (by omega) _ _ (by omega) (by omega)) (ih (L - 1 - (1 + m)) (by omega) _ _ (by omega) (by omega))
          · exact Nat.zero_le _
        have a6 := um_step L hL' (by omega)
        omega
    · rw [Ny_0 hij]; exact Nat.zero_le _
theorem Ny_lt {ws : List Int32} {i j : Nat} (h : j - i < 22) : Ny ws i j < 1073741824 := Nat.lt_of_le_of_lt (Ny_le (j - i) i j rfl h) (um_big _ h)
theorem hj_le {ws : List Int32} {i j k : Nat} (h1 : i < k) (h2 : k + 1 < j) (h : j - i < 22) : hj ws i j k ≤ Ny ws i j := by
  rw [Ny_eq (by omega) (by omega)]
  have := sm_ge (f := hj ws i j) (j - i - 2) (i + 1) k (by omega) (by omega)
  omega
theorem Fy_le {ws : List Int32} {i j : Nat} (h1 : i < j) (h : j - i < 22) : Fy ws i j ≤ Ny ws i j := by
  rw [Ny_eq (by omega) (by omega)]
  omega
def pk (h : Nat → Nat) : Nat → Nat → Nat → Nat × Nat
  | lo, 0, l => (lo, l)
  | lo, c + 1, l => if l < h lo then (lo, l) else pk h (lo + 1) c (l - h lo)
theorem pk_ok {h : Nat → Nat} : ∀ c lo l, l < sm h lo c → lo ≤ (pk h lo c l).1 ∧ (pk h lo c l).1 < lo + c ∧ (pk h lo c l).2 < h (pk h lo c l).1 := by
  intro c
  induction c with
  | zero => intro lo l q; simp only [sm] at q; omega
  | succ c ih =>
    intro lo l q
    rw [sm] at q
    rw [pk]
    split
    · refine ⟨by simp only []; omega, by simp only []; omega, by assumption⟩
    · have := ih (lo + 1) (l - h lo) (by omega)
      refine ⟨by omega, by omega, this.2.2⟩
def Rd (ws : List Int32) : Nat → Nat → Nat → zT → Prop
  | i, j, r, .var _ => r < Fy ws i j ∧ kd (wa ws i) = 0
  | i, j, r, .neg a => r < Fy ws i j ∧ kd (wa ws i) = 1 ∧ Rd ws (i + 1) j r a
  | i, j, r, .pow a _ => r < Fy ws i j ∧ kd (wa ws i) = 2 ∧ Rd ws (i + 1) (j - 1) r a
  | i, j, r, .add a b => Fy ws i j ≤ r ∧ ∃ k l, pk (hj ws i j) (i + 1) (j - i - 2) (r - Fy ws i j) = (k, l) ∧ i < k ∧ k + 1 < j ∧ l < hj ws i j k ∧ Rd ws i k (l / Ny ws (k + 1) j) a ∧ Rd ws (k + 1) j (l % Ny ws (k + 1) j) b
  | _, _, _, _ => False
theorem Fy_0 {ws : List Int32} {i j : Nat} (h : kd (wa ws i) = 0) : Fy ws i j = if j = i + 1 then 1 else 0 := by
  unfold Fy fyg; rw [if_pos h]
theorem Fy_1 {ws : List Int32} {i j : Nat} (h : kd (wa ws i) = 1) : Fy ws i j = Ny ws (i + 1) j := by
  unfold Fy fyg; rw [if_neg (by rw [h]; decide), if_pos h]
theorem Fy_2 {ws : List Int32} {i j : Nat} (h : kd (wa ws i) = 2) : Fy ws i j = if clo ws (i + 1) + 1 = j then Ny ws (i + 1) (j - 1) else 0 := by
  unfold Fy fyg; rw [if_neg (by rw [h]; decide), if_neg (by rw [h]; decide), if_pos h]
theorem Fy_9 {ws : List Int32} {i j : Nat} (h : 0 < Fy ws i j) : kd (wa ws i) = 0 ∨ kd (wa ws i) = 1 ∨ kd (wa ws i) = 2 := by
  by_cases h0 : kd (wa ws i) = 0
  · exact Or.inl h0
  by_cases h1 : kd (wa ws i) = 1
  · exact Or.inr (Or.inl h1)
  by_cases h2 : kd (wa ws i) = 2
  · exact Or.inr (Or.inr h2)
  unfold Fy fyg at h
  rw [if_neg h0, if_neg h1, if_neg h2] at h
  omega
theorem hj_pos {ws : List Int32} {i j k : Nat} (h : 0 < hj ws i j k) : jn (wa ws k) = true ∧ hj ws i j k = Ny ws i k * Ny ws (k + 1) j := by
  unfold hj hjg at h ⊢
  by_cases q : jn (wa ws k) = true
  · rw [if_pos q]; exact ⟨q, rfl⟩
  · rw [if_neg q] at h; omega
theorem Rd_sp {ws : List Int32} : ∀ t i j r, i < j → j ≤ ws.length → Rd ws i j r t → sp ws i t ∧ i + ln t = j := by
  intro t
  induction t with
  | var c =>
    intro i j r hij _ h
    refine ⟨h.2, ?_⟩
    have h1 := h.1
    rw [Fy_0 h.2] at h1
    simp only [ln]
    split at h1 <;> omega
  | neg a ih =>
    intro i j r hij hn h
    have h1 := h.1
    rw [Fy_1 h.2.1] at h1
    have hlt : i + 1 < j := by
      apply Classical.byContradiction
      intro q
      rw [Ny_0 q] at h1; omega
    have := ih (i + 1) j r hlt hn h.2.2
    exact ⟨⟨kd1.mp h.2.1, this.1⟩, by simp only [ln]; omega⟩
  | pow a k ih =>
    intro i j r hij hn h
    have h1 := h.1
    rw [Fy_2 h.2.1] at h1
    by_cases hc : clo ws (i + 1) + 1 = j
    · rw [if_pos hc] at h1
      have hlt : i + 1 < j - 1 := by
        apply Classical.byContradiction
        intro q
        rw [Ny_0 q] at h1; omega
      have := ih (i + 1) (j - 1) r hlt (by omega) h.2.2
      have h41 := clo_41 (ws := ws) (p := i + 1) (by omega) (by omega)
      refine ⟨⟨kd2.mp h.2.1, ?_, this.1⟩, by simp only [ln]; omega⟩
      rw [this.2, show j - 1 = clo ws (i + 1) by omega]
      exact h41
    · rw [if_neg hc] at h1; omega
  | add a b iha ihb =>
    intro i j r hij hn h
    obtain ⟨_, k, l, _, hk1, hk2, hl, ha, hb⟩ := h
    have h1 := iha i k _ hk1 (by omega) ha
    have h2 := ihb (k + 1) j _ hk2 hn hb
    have hp := hj_pos (Nat.lt_of_le_of_lt (Nat.zero_le _) hl)
    refine ⟨⟨?_, h1.1, ?_⟩, by simp only [ln]; omega⟩
    · rw [h1.2]; exact hp.1
    · rw [h1.2]; exact h2.1
  | _ => intro i j r _ _ h; exact False.elim h
theorem Rd_ex {ws : List Int32} : ∀ L i j r, j - i ≤ L → L ≤ 63 → r < Ny ws i j → ∃ t, Rd ws i j r t := by
  intro L
  induction L with
  | zero =>
    intro i j r h _ hr
    rw [Ny_0 (by omega)] at hr; omega
  | succ L ih =>
    intro i j r h hL hr
    have hij : i < j := by
      apply Classical.byContradiction
      intro q
      rw [Ny_0 q] at hr; omega
    rw [Ny_eq hij (by omega)] at hr
    by_cases hf : r < Fy ws i j
    · rcases Fy_9 (Nat.lt_of_le_of_lt (Nat.zero_le _) hf) with q | q | q
      · exact ⟨.var 0, hf, q⟩
      · have := hf
        rw [Fy_1 q] at this
        obtain ⟨t, ht⟩ := ih (i + 1) j r (by omega) (by omega) this
        exact ⟨.neg t, hf, q, ht⟩
      · have h1 := hf
        rw [Fy_2 q] at h1
        by_cases hc : clo ws (i + 1) + 1 = j
        · rw [if_pos hc] at h1
          obtain ⟨t, ht⟩ := ih (i + 1) (j - 1) r (by omega) (by omega) h1
          exact ⟨.pow t 0, hf, q, ht⟩
        · rw [if_neg hc] at h1; omega
    · have hp := pk_ok (h := hj ws i j) (j - i - 2) (i + 1) (r - Fy ws i j) (by omega)
      generalize he : pk (hj ws i j) (i + 1) (j - i - 2) (r - Fy ws i j) = kl at hp
      obtain ⟨k, l⟩ := kl
      simp only [] at hp
      have hq := hj_pos (Nat.lt_of_le_of_lt (Nat.zero_le _) hp.2.2)
      have hl := hp.2.2
      rw [hq.2] at hl
      have hpos : 0 < Ny ws (k + 1) j := by
        apply Nat.pos_of_ne_zero
        intro q
        rw [q, Nat.mul_zero] at hl; omega
      obtain ⟨a, ha⟩ := ih i k (l / Ny ws (k + 1) j) (by omega) (by omega) (Nat.div_lt_of_lt_mul (by rw [Nat.mul_comm]; exact hl))
      obtain ⟨b, hb⟩ := ih (k + 1) j (l % Ny ws (k + 1) j) (by omega) (by omega) (Nat.mod_lt _ hpos)
      exact ⟨.add a b, by omega, k, l, he, by omega, by omega, hp.2.2, ha, hb⟩
noncomputable def Tr (ws : List Int32) (r : Nat) : zT := @dite _ (∃ t, Rd ws 0 ws.length r t) (Classical.propDecidable _) (fun h => Classical.choose h) (fun _ => .num 0)
theorem Tr_ok {ws : List Int32} {r : Nat} (h : r < Ny ws 0 ws.length) (hn : ws.length ≤ 21) : Rd ws 0 ws.length r (Tr ws r) := by
  have hex : ∃ t, Rd ws 0 ws.length r t := Rd_ex ws.length 0 ws.length r (by omega) (by omega) h
  unfold Tr
  rw [dif_pos hex]
  exact Classical.choose_spec hex
theorem Tr_sp {ws : List Int32} {r : Nat} (h : r < Ny ws 0 ws.length) (hn : ws.length ≤ 21) : sp ws 0 (Tr ws r) ∧ ln (Tr ws r) = ws.length := by
  have h0 : 0 < ws.length := by
    apply Classical.byContradiction
    intro q
    rw [Ny_0 q] at h; omega
  have := Rd_sp (Tr ws r) 0 ws.length r h0 (Nat.le_refl _) (Tr_ok h hn)
  exact ⟨this.1, by omega⟩
