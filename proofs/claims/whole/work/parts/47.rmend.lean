theorem n62 {x : Nat} (h : x < 4200) : zin (nI x) (zn 62) = true := by rw [show zn 62 = 4200 by decide +kernel]; exact zin_t h (by omega)
theorem n63 {x : Nat} (h : x < 4200) : zin (nI x) (zn 63) = true := by rw [show zn 63 = 4200 by decide +kernel]; exact zin_t h (by omega)
theorem n64 {x : Nat} (h : x < 4200) : zin (nI x) (zn 64) = true := by rw [show zn 64 = 4200 by decide +kernel]; exact zin_t h (by omega)
theorem i21 (a b : Nat) : 21 * nI a + nI b = nI (21 * a + b) := by rw [show (21 : Int32) = nI 21 from rfl, nI_mul, nJ_add]
theorem z62 : zr 50 19 = 62 := by decide +kernel
theorem z63 : zr 50 20 = 63 := by decide +kernel
theorem z64 : zr 50 21 = 64 := by decide +kernel
section RM
variable {ws tp od a1 a2 : List Int32} {im : zI} {rf : Nat → Int32} {M : ZM}
theorem atO (hr : RI ws tp od a1 a2 im rf M) (hm : Ny ws 0 ws.length ≤ 200) {o k : Nat} (ho : o < Ny ws 0 ws.length) (hk : k < sz (Tr ws o)) : M.1 62 (21 * o + k) = nk ws 0 (Tr ws o) k ∧ M.1 63 (21 * o + k) = nI (nf 0 (Tr ws o) k).1 ∧ M.1 64 (21 * o + k) = nI (nf 0 (Tr ws o) k).2 := by
  have B := AtM_n _ 0 0 (LRr hr hm ho).2.1 k hk
  rw [Nat.zero_add] at B
  exact B
theorem has3 (hr : RI ws tp od a1 a2 im rf M) (hl : ws.length ≤ 21) (hm : Ny ws 0 ws.length ≤ 200) {o : Nat} (ho : o < Ny ws 0 ws.length) {p : Nat × Nat} (hp : p.1 ≤ 21) (hp2 : p.2 ≤ 21) : ∀ c k fuel, k + c = sz (Tr ws o) → c < fuel → ((∃ j, k ≤ j ∧ j < sz (Tr ws o) ∧ nf 0 (Tr ws o) j = p) → f_X12_has_3 50 (nI o) (nI p.1) (nI p.2) M (some (0 : Int32)) fuel (nI k) = some 1) ∧ ((¬ ∃ j, k ≤ j ∧ j < sz (Tr ws o) ∧ nf 0 (Tr ws o) j = p) → f_X12_has_3 50 (nI o) (nI p.1) (nI p.2) M (some (0 : Int32)) fuel (nI k) = some 0) := by
  have hsp := Tr_sp ho hl
  have hsz := sz_ln (Tr ws o)
  intro c
  induction c with
  | zero =>
    intro k fuel hi hf
    obtain ⟨fuel, rfl⟩ : ∃ m, fuel = m + 1 := ⟨fuel - 1, by omega⟩
    rw [f_X12_has_3, z65, zckT (i65 (by omega)), nI_tn (by omega), (LRr hr hm ho).1, if_pos (by rw [nI_le' (by omega) (by omega)]; omega)]
    exact ⟨fun ⟨j, h1, h2, _⟩ => by omega, fun _ => rfl⟩
  | succ c ih =>
    intro k fuel hi hf
    obtain ⟨fuel, rfl⟩ : ∃ m, fuel = m + 1 := ⟨fuel - 1, by omega⟩
    have A := atO hr hm ho (show k < sz (Tr ws o) by omega)
    have bd := nf_b (Tr ws o) 0 k (by omega)
    have t := ih (k + 1) fuel (by omega) (by omega)
    rw [f_X12_has_3, z65, zckT (i65 (by omega)), nI_tn (by omega), (LRr hr hm ho).1, if_neg (by rw [nI_le' (by omega) (by omega)]; omega)]
    simp only [zletE]
    rw [i21, z63, z64, zckT (n63 (by omega)), zckT (n64 (by omega)), nI_tn (by omega), A.2.1, A.2.2, nI_s]
    have skip : ¬ nf 0 (Tr ws o) k = p → ((∃ j, k ≤ j ∧ j < sz (Tr ws o) ∧ nf 0 (Tr ws o) j = p) ↔ (∃ j, k + 1 ≤ j ∧ j < sz (Tr ws o) ∧ nf 0 (Tr ws o) j = p)) := by
      intro hn
      constructor
      · rintro ⟨j, a, b, d⟩
        have : j ≠ k := fun e => hn (by rw [← e]; exact d)
        exact ⟨j, by omega, b, d⟩
      · rintro ⟨j, a, b⟩; exact ⟨j, by omega, b⟩
    by_cases q1 : (nf 0 (Tr ws o) k).1 = p.1
    · rw [if_pos (by rw [q1])]
      by_cases q2 : (nf 0 (Tr ws o) k).2 = p.2
      · rw [if_pos (by rw [q2])]
        exact ⟨fun _ => rfl, fun z => absurd ⟨k, Nat.le_refl _, by omega, Prod.ext q1 q2⟩ z⟩
      · rw [if_neg (by rw [nI_inj (by omega) (by omega)]; exact q2), skip (fun e => q2 (by rw [e]))]
        exact t
    · rw [if_neg (by rw [nI_inj (by omega) (by omega)]; exact q1), skip (fun e => q1 (by rw [e]))]
      exact t
theorem has_ok (hr : RI ws tp od a1 a2 im rf M) (hl : ws.length ≤ 21) (hm : Ny ws 0 ws.length ≤ 200) {r o a : Nat} (hr0 : r < Ny ws 0 ws.length) (ho : o < Ny ws 0 ws.length) (ha : a < sz (Tr ws r)) : (hz ws r o a → f_X12_has 50 (nI o) (M.1 63 (21 * r + a)) (M.1 64 (21 * r + a)) M = some 1) ∧ (¬ hz ws r o a → f_X12_has 50 (nI o) (M.1 63 (21 * r + a)) (M.1 64 (21 * r + a)) M = some 0) := by
  have hsp := Tr_sp hr0 hl
  have hsp2 := Tr_sp ho hl
  have hsz := sz_ln (Tr ws o)
  have A := atO hr hm hr0 ha
  have bd := nf_b (Tr ws r) 0 a ha
  have t := has3 hr hl hm ho (p := nf 0 (Tr ws r) a) (by omega) (by omega) (sz (Tr ws o)) 0 zN (by omega) (by unfold zN; omega)
  rw [nI0] at t
  unfold f_X12_has
  rw [A.2.1, A.2.2]
  exact ⟨fun ⟨j, h1, h2⟩ => t.1 ⟨j, Nat.zero_le _, h1, h2⟩, fun z => t.2 (fun ⟨j, _, h1, h2⟩ => z ⟨j, h1, h2⟩)⟩
theorem isMark_ok (hr : RI ws tp od a1 a2 im rf M) (hl : ws.length ≤ 21) (hm : Ny ws 0 ws.length ≤ 200) {r k : Nat} (hr0 : r < Ny ws 0 ws.length) (hk : k < sz (Tr ws r)) : (mk ws r k → f_X12_isMark 50 (nI r) (nI k) M = some 1) ∧ (¬ mk ws r k → f_X12_isMark 50 (nI r) (nI k) M = some 0) := by
  have hsp := Tr_sp hr0 hl
  have hsz := sz_ln (Tr ws r)
  have A := atO hr hm hr0 hk
  have bd := nf_b (Tr ws r) 0 k hk
  unfold f_X12_isMark
  rw [i21, z62, z64, zckT (n62 (by omega)), zckT (n62 (by omega)), zckT (n64 (by omega)), nI_tn (by omega), A.1, A.2.2, hr.1.1]
  by_cases q0 : nk ws 0 (Tr ws r) k = 0
  · rw [if_pos q0]; exact ⟨fun z => absurd q0 z.2.2.1, fun _ => rfl⟩
  · rw [if_neg q0]
    by_cases q2 : nk ws 0 (Tr ws r) k = 2
    · rw [if_pos q2]; exact ⟨fun z => absurd q2 z.2.2.2, fun _ => rfl⟩
    · rw [if_neg q2]
      by_cases q1 : 1 ≤ k
      · have := nf_lt (Tr ws r) 0 k hk q1
        rw [if_neg (by rw [nI_le' (by omega) (by omega)]; omega)]
        exact ⟨fun _ => rfl, fun z => absurd ⟨q1, hk, q0, q2⟩ z⟩
      · have e0 : k = 0 := by omega
        rw [e0, nf_0, if_pos (by rw [nI_le' (by omega) (by simp only []; omega)]; simp only []; omega)]
        exact ⟨fun z => by have := z.1; omega, fun _ => rfl⟩
/-- a node that must be there, or none -/
def Arg (ws : List Int32) (r : Nat) (v : Int32) (A : Nat → Prop) : Prop := (v < 0 ∧ ∀ o, A o) ∨ ∃ a, a < sz (Tr ws r) ∧ v = nI a ∧ ∀ o, A o ↔ hz ws r o a
theorem im3 (hr : RI ws tp od a1 a2 im rf M) (hl : ws.length ≤ 21) (hm : Ny ws 0 ws.length ≤ 200) {r : Nat} (hr0 : r < Ny ws 0 ws.length) {v2 v3 : Int32} {A B : Nat → Prop} (hA : Arg ws r v2 A) (hB : Arg ws r v3 B) : ∀ c o fuel, o + c = Ny ws 0 ws.length → c < fuel → ((∃ j, o ≤ j ∧ Oth ws r j ∧ A j ∧ B j) → f_X12_isMended_3 50 (nI r) v2 v3 M (some (1 : Int32)) fuel (nI o) = some 0) ∧ ((¬ ∃ j, o ≤ j ∧ Oth ws r j ∧ A j ∧ B j) → f_X12_isMended_3 50 (nI r) v2 v3 M (some (1 : Int32)) fuel (nI o) = some 1) := by
  have hsp := Tr_sp hr0 hl
  have hsz := sz_ln (Tr ws r)
  intro c
  induction c with
  | zero =>
    intro o fuel hi hf
    obtain ⟨fuel, rfl⟩ : ∃ m, fuel = m + 1 := ⟨fuel - 1, by omega⟩
    rw [f_X12_isMended_3]
    simp only [zletE]
    rw [L26 hr hm, if_pos (by rw [nI_le' (by omega) (by omega)]; omega)]
    exact ⟨fun ⟨j, h1, h2, _⟩ => by have := h2.1; omega, fun _ => rfl⟩
  | succ c ih =>
    intro o fuel hi hf
    obtain ⟨fuel, rfl⟩ : ∃ m, fuel = m + 1 := ⟨fuel - 1, by omega⟩
    have t := ih (o + 1) fuel (by omega) (by omega)
    have skip : ¬ (Oth ws r o ∧ A o ∧ B o) → ((∃ j, o ≤ j ∧ Oth ws r j ∧ A j ∧ B j) ↔ (∃ j, o + 1 ≤ j ∧ Oth ws r j ∧ A j ∧ B j)) := by
      intro hn
      constructor
      · rintro ⟨j, a, b⟩
        have : j ≠ o := fun e => hn (by rw [← e]; exact b)
        exact ⟨j, by omega, b⟩
      · rintro ⟨j, a, b⟩; exact ⟨j, by omega, b⟩
    have no : ¬ (Oth ws r o ∧ A o ∧ B o) → ((∃ j, o ≤ j ∧ Oth ws r j ∧ A j ∧ B j) → f_X12_isMended_3 50 (nI r) v2 v3 M (some (1 : Int32)) fuel (nI (o + 1)) = some 0) ∧ ((¬ ∃ j, o ≤ j ∧ Oth ws r j ∧ A j ∧ B j) → f_X12_isMended_3 50 (nI r) v2 v3 M (some (1 : Int32)) fuel (nI (o + 1)) = some 1) := fun z => by rw [skip z]; exact t
    rw [f_X12_isMended_3]
    simp only [zletE]
    rw [L26 hr hm, if_neg (by rw [nI_le' (by omega) (by omega)]; omega), z68, zckT (i68 (by omega)), zckT (i68 (by omega)), nI_tn (a := o) (by omega), nI_tn (a := r) (by omega), (LRr hr hm (show o < Ny ws 0 ws.length by omega)).2.2.1, (LRr hr hm hr0).2.2.1, nI_s, z63, z64]
    by_cases q : Me ws o = Me ws r
    · rw [if_pos (by rw [lg_cmp_eq]; exact q)]
      exact no (fun z => z.1.2 q)
    · have hO : Oth ws r o := ⟨by omega, q⟩
      rw [if_neg (by rw [lg_cmp_eq]; exact q)]
      -- the second node, the first being there
      have sec : A o → ((∃ j, o ≤ j ∧ Oth ws r j ∧ A j ∧ B j) → (if v3 < 0 then (if (1 : Int32) = 0 then f_X12_isMended_3 50 (nI r) v2 v3 M (some (1 : Int32)) fuel (nI (o + 1)) else if (1 : Int32) = 0 then f_X12_isMended_3 50 (nI r) v2 v3 M (some (1 : Int32)) fuel (nI (o + 1)) else some (0 : Int32)) else zck (zin (21 * nI r + v3) (zn 63)) (zck (zin (21 * nI r + v3) (zn 64)) ((f_X12_has 50 (nI o) (M.1 63 (21 * nI r + v3).toNatClampNeg) (M.1 64 (21 * nI r + v3).toNatClampNeg) M).bind fun q8 => if q8 = 0 then (if (1 : Int32) = 0 then f_X12_isMended_3 50 (nI r) v2 v3 M (some (1 : Int32)) fuel (nI (o + 1)) else if (0 : Int32) = 0 then f_X12_isMended_3 50 (nI r) v2 v3 M (some (1 : Int32)) fuel (nI (o + 1)) else some (0 : Int32)) else (if (1 : Int32) = 0 then f_X12_isMended_3 50 (nI r) v2 v3 M (some (1 : Int32)) fuel (nI (o + 1)) else if (1 : Int32) = 0 then f_X12_isMended_3 50 (nI r) v2 v3 M (some (1 : Int32)) fuel (nI (o + 1)) else some (0 : Int32))))) = some 0) ∧ ((¬ ∃ j, o ≤ j ∧ Oth ws r j ∧ A j ∧ B j) → (if v3 < 0 then (if (1 : Int32) = 0 then f_X12_isMended_3 50 (nI r) v2 v3 M (some (1 : Int32)) fuel (nI (o + 1)) else if (1 : Int32) = 0 then f_X12_isMended_3 50 (nI r) v2 v3 M (some (1 : Int32)) fuel (nI (o + 1)) else some (0 : Int32)) else zck (zin (21 * nI r + v3) (zn 63)) (zck (zin (21 * nI r + v3) (zn 64)) ((f_X12_has 50 (nI o) (M.1 63 (21 * nI r + v3).toNatClampNeg) (M.1 64 (21 * nI r + v3).toNatClampNeg) M).bind fun q8 => if q8 = 0 then (if (1 : Int32) = 0 then f_X12_isMended_3 50 (nI r) v2 v3 M (some (1 : Int32)) fuel (nI (o + 1)) else if (0 : Int32) = 0 then f_X12_isMended_3 50 (nI r) v2 v3 M (some (1 : Int32)) fuel (nI (o + 1)) else some (0 : Int32)) else (if (1 : Int32) = 0 then f_X12_isMended_3 50 (nI r) v2 v3 M (some (1 : Int32)) fuel (nI (o + 1)) else if (1 : Int32) = 0 then f_X12_isMended_3 50 (nI r) v2 v3 M (some (1 : Int32)) fuel (nI (o + 1)) else some (0 : Int32))))) = some 1) := by
        intro hAo
        rcases hB with ⟨hv, hBo⟩ | ⟨b, hb, rfl, hBo⟩
        · rw [if_pos hv, if_neg (by decide), if_neg (by decide)]
          exact ⟨fun _ => rfl, fun z => absurd ⟨o, Nat.le_refl _, hO, hAo, hBo o⟩ z⟩
        · have u := has_ok hr hl hm hr0 (show o < Ny ws 0 ws.length by omega) hb
          rw [if_neg (nI_nn (by omega)), i21, zckT (n63 (by omega)), zckT (n64 (by omega)), nI_tn (by omega)]
          by_cases w : hz ws r o b
          · rw [u.1 w, bindE, if_neg (by decide), if_neg (by decide), if_neg (by decide)]
            exact ⟨fun _ => rfl, fun z => absurd ⟨o, Nat.le_refl _, hO, hAo, (hBo o).mpr w⟩ z⟩
          · rw [u.2 w, bindE, if_pos rfl, if_neg (by decide), if_pos rfl]
            exact no (fun z => w ((hBo o).mp z.2.2))
      rcases hA with ⟨hv, hAo⟩ | ⟨a, ha, rfl, hAo⟩
      · rw [if_pos hv]
        exact sec (hAo o)
      · have u := has_ok hr hl hm hr0 (show o < Ny ws 0 ws.length by omega) ha
        rw [if_neg (nI_nn (by omega)), i21, zckT (n63 (by omega)), zckT (n64 (by omega)), nI_tn (by omega)]
        by_cases w : hz ws r o a
        · rw [u.1 w, bindE, if_neg (by decide)]
          exact sec ((hAo o).mpr w)
        · rw [u.2 w, bindE, if_pos rfl]
          have hno := no (fun z => w ((hAo o).mp z.2.1))
          rcases hB with ⟨hv, hBo⟩ | ⟨b, hb, rfl, hBo⟩
          · rw [if_pos hv, if_pos trivial]; exact hno
          · have u2 := has_ok hr hl hm hr0 (show o < Ny ws 0 ws.length by omega) hb
            rw [if_neg (nI_nn (by omega)), i21, zckT (n63 (by omega)), zckT (n64 (by omega)), nI_tn (by omega)]
            by_cases w2 : hz ws r o b
            · rw [u2.1 w2, bindE, if_neg (by decide), if_pos trivial]; exact hno
            · rw [u2.2 w2, bindE, if_pos rfl, if_pos trivial]; exact hno
theorem im_ok (hr : RI ws tp od a1 a2 im rf M) (hl : ws.length ≤ 21) (hm : Ny ws 0 ws.length ≤ 200) {r : Nat} (hr0 : r < Ny ws 0 ws.length) {v2 v3 : Int32} {A B : Nat → Prop} (hA : Arg ws r v2 A) (hB : Arg ws r v3 B) : ((∃ j, Oth ws r j ∧ A j ∧ B j) → f_X12_isMended 50 (nI r) v2 v3 M = some 0) ∧ ((¬ ∃ j, Oth ws r j ∧ A j ∧ B j) → f_X12_isMended 50 (nI r) v2 v3 M = some 1) := by
  have t := im3 hr hl hm hr0 hA hB (Ny ws 0 ws.length) 0 zN (by omega) (by unfold zN; omega)
  rw [nI0] at t
  unfold f_X12_isMended
  exact ⟨fun ⟨j, h⟩ => t.1 ⟨j, Nat.zero_le _, h⟩, fun z => t.2 (fun ⟨j, _, h⟩ => z ⟨j, h⟩)⟩
theorem arg_n (r : Nat) : Arg ws r (-9) (fun _ => True) := Or.inl ⟨by decide, fun _ => trivial⟩
theorem arg_a {r a : Nat} (ha : a < sz (Tr ws r)) : Arg ws r (nI a) (fun o => hz ws r o a) := Or.inr ⟨a, ha, rfl, fun _ => Iff.rfl⟩
theorem md32 (hr : RI ws tp od a1 a2 im rf M) (hl : ws.length ≤ 21) (hm : Ny ws 0 ws.length ≤ 200) {r : Nat} (hr0 : r < Ny ws 0 ws.length) (K : ZM → Option (Int32 × ZM)) : ∀ c i fuel, i + c = sz (Tr ws r) → c < fuel → ((∃ y, i ≤ y ∧ mk ws r y ∧ ∀ o, Oth ws r o → ¬ hz ws r o y) → f_X12_mend_32 50 (nI r) K fuel (nI i) M = some (1, M)) ∧ ((¬ ∃ y, i ≤ y ∧ mk ws r y ∧ ∀ o, Oth ws r o → ¬ hz ws r o y) → f_X12_mend_32 50 (nI r) K fuel (nI i) M = K M) := by
  have hsp := Tr_sp hr0 hl
  have hsz := sz_ln (Tr ws r)
  intro c
  induction c with
  | zero =>
    intro i fuel hi hf
    obtain ⟨fuel, rfl⟩ : ∃ m, fuel = m + 1 := ⟨fuel - 1, by omega⟩
    rw [f_X12_mend_32, z65, zckT (i65 (by omega)), nI_tn (by omega), (LRr hr hm hr0).1, if_pos (by rw [nI_le' (by omega) (by omega)]; omega)]
    exact ⟨fun ⟨y, h1, h2, _⟩ => by have := h2.2.1; omega, fun _ => rfl⟩
  | succ c ih =>
    intro i fuel hi hf
    obtain ⟨fuel, rfl⟩ : ∃ m, fuel = m + 1 := ⟨fuel - 1, by omega⟩
    have t := ih (i + 1) fuel (by omega) (by omega)
    have k := isMark_ok hr hl hm hr0 (show i < sz (Tr ws r) by omega)
    have u := im_ok hr hl hm hr0 (arg_a (show i < sz (Tr ws r) by omega)) (arg_n r)
    have skip : ¬ (mk ws r i ∧ ∀ o, Oth ws r o → ¬ hz ws r o i) → ((∃ y, i ≤ y ∧ mk ws r y ∧ ∀ o, Oth ws r o → ¬ hz ws r o y) ↔ (∃ y, i + 1 ≤ y ∧ mk ws r y ∧ ∀ o, Oth ws r o → ¬ hz ws r o y)) := by
      intro hn
      constructor
      · rintro ⟨j, a, b⟩
        have : j ≠ i := fun e => hn (by rw [← e]; exact b)
        exact ⟨j, by omega, b⟩
      · rintro ⟨j, a, b⟩; exact ⟨j, by omega, b⟩
    rw [f_X12_mend_32, z65, zckT (i65 (by omega)), nI_tn (by omega), (LRr hr hm hr0).1, if_neg (by rw [nI_le' (by omega) (by omega)]; omega)]
    simp only [zletE]
    rw [nI_s]
    by_cases q : mk ws r i
    · rw [k.1 q, bindE, if_neg (by decide)]
      by_cases w : ∃ j, Oth ws r j ∧ hz ws r j i ∧ True
      · rw [u.1 w, bindE, if_pos rfl, skip (fun z => by
          obtain ⟨j, h1, h2, _⟩ := w
          exact z.2 j h1 h2)]
        exact t
      · rw [u.2 w, bindE, if_neg (by decide)]
        exact ⟨fun _ => rfl, fun z => absurd ⟨i, Nat.le_refl _, q, fun o ho h => w ⟨o, ho, h, trivial⟩⟩ z⟩
    · rw [k.2 q, bindE, if_pos rfl, skip (fun z => q z.1)]
      exact t
theorem md85 (hr : RI ws tp od a1 a2 im rf M) (hl : ws.length ≤ 21) (hm : Ny ws 0 ws.length ≤ 200) {r a : Nat} (hr0 : r < Ny ws 0 ws.length) (ha : a < sz (Tr ws r)) (K : ZM → Option (Int32 × ZM)) : ∀ c i fuel, i + c = a → c < fuel → ((∃ y, i ≤ y ∧ y < a ∧ mk ws r a ∧ mk ws r y ∧ ∀ o, Oth ws r o → ¬ (hz ws r o a ∧ hz ws r o y)) → f_X12_mend_85 50 (nI r) (nI a) K fuel (nI i) M = some (2, M)) ∧ ((¬ ∃ y, i ≤ y ∧ y < a ∧ mk ws r a ∧ mk ws r y ∧ ∀ o, Oth ws r o → ¬ (hz ws r o a ∧ hz ws r o y)) → f_X12_mend_85 50 (nI r) (nI a) K fuel (nI i) M = K M) := by
  have hsp := Tr_sp hr0 hl
  have hsz := sz_ln (Tr ws r)
  intro c
  induction c with
  | zero =>
    intro i fuel hi hf
    obtain ⟨fuel, rfl⟩ : ∃ m, fuel = m + 1 := ⟨fuel - 1, by omega⟩
    rw [f_X12_mend_85, if_pos (by rw [nI_le' (by omega) (by omega)]; omega)]
    exact ⟨fun ⟨y, h1, h2, _⟩ => by omega, fun _ => rfl⟩
  | succ c ih =>
    intro i fuel hi hf
    obtain ⟨fuel, rfl⟩ : ∃ m, fuel = m + 1 := ⟨fuel - 1, by omega⟩
    have t := ih (i + 1) fuel (by omega) (by omega)
    have ka := isMark_ok hr hl hm hr0 ha
    have k := isMark_ok hr hl hm hr0 (show i < sz (Tr ws r) by omega)
    have u := im_ok hr hl hm hr0 (arg_a ha) (arg_a (show i < sz (Tr ws r) by omega))
    have skip : ¬ (mk ws r a ∧ mk ws r i ∧ ∀ o, Oth ws r o → ¬ (hz ws r o a ∧ hz ws r o i)) → ((∃ y, i ≤ y ∧ y < a ∧ mk ws r a ∧ mk ws r y ∧ ∀ o, Oth ws r o → ¬ (hz ws r o a ∧ hz ws r o y)) ↔ (∃ y, i + 1 ≤ y ∧ y < a ∧ mk ws r a ∧ mk ws r y ∧ ∀ o, Oth ws r o → ¬ (hz ws r o a ∧ hz ws r o y))) := by
      intro hn
      constructor
      · rintro ⟨j, h1, h2, b⟩
        have : j ≠ i := fun e => hn (by rw [← e]; exact b)
        exact ⟨j, by omega, h2, b⟩
      · rintro ⟨j, h1, h2, b⟩; exact ⟨j, by omega, h2, b⟩
    rw [f_X12_mend_85, if_neg (by rw [nI_le' (by omega) (by omega)]; omega)]
    simp only [zletE]
    rw [nI_s]
    by_cases qa : mk ws r a
    · rw [ka.1 qa, bindE, if_neg (by decide)]
      by_cases q : mk ws r i
      · rw [k.1 q, bindE, if_neg (by decide)]
        by_cases w : ∃ j, Oth ws r j ∧ hz ws r j a ∧ hz ws r j i
        · rw [u.1 w, bindE, if_pos rfl, skip (fun z => by
            obtain ⟨j, h1, h2⟩ := w
            exact z.2.2 j h1 h2)]
          exact t
        · rw [u.2 w, bindE, if_neg (by decide)]
          exact ⟨fun _ => rfl, fun z => absurd ⟨i, Nat.le_refl _, by omega, qa, q, fun o ho h => w ⟨o, ho, h⟩⟩ z⟩
      · rw [k.2 q, bindE, if_pos rfl, skip (fun z => q z.2.1)]
        exact t
    · rw [ka.2 qa, bindE, if_pos rfl, skip (fun z => qa z.1)]
      exact t
theorem md72 (hr : RI ws tp od a1 a2 im rf M) (hl : ws.length ≤ 21) (hm : Ny ws 0 ws.length ≤ 200) {r : Nat} (hr0 : r < Ny ws 0 ws.length) : ∀ c i fuel, i + c = sz (Tr ws r) → c < fuel → ((∃ a y, i ≤ a ∧ y < a ∧ mk ws r a ∧ mk ws r y ∧ ∀ o, Oth ws r o → ¬ (hz ws r o a ∧ hz ws r o y)) → f_X12_mend_72 50 (nI r) (fun (M : ZM) => some (((-9) : Int32), M)) fuel (nI i) M = some (2, M)) ∧ ((¬ ∃ a y, i ≤ a ∧ y < a ∧ mk ws r a ∧ mk ws r y ∧ ∀ o, Oth ws r o → ¬ (hz ws r o a ∧ hz ws r o y)) → f_X12_mend_72 50 (nI r) (fun (M : ZM) => some (((-9) : Int32), M)) fuel (nI i) M = some (-9, M)) := by
  have hsp := Tr_sp hr0 hl
  have hsz := sz_ln (Tr ws r)
  intro c
  induction c with
  | zero =>
    intro i fuel hi hf
    obtain ⟨fuel, rfl⟩ : ∃ m, fuel = m + 1 := ⟨fuel - 1, by omega⟩
    rw [f_X12_mend_72, z65, zckT (i65 (by omega)), nI_tn (by omega), (LRr hr hm hr0).1, if_pos (by rw [nI_le' (by omega) (by omega)]; omega)]
    exact ⟨fun ⟨a, y, h1, _, h2, _⟩ => by have := h2.2.1; omega, fun _ => rfl⟩
  | succ c ih =>
    intro i fuel hi hf
    obtain ⟨fuel, rfl⟩ : ∃ m, fuel = m + 1 := ⟨fuel - 1, by omega⟩
    have t := ih (i + 1) fuel (by omega) (by omega)
    rw [f_X12_mend_72, z65, zckT (i65 (by omega)), nI_tn (by omega), (LRr hr hm hr0).1, if_neg (by rw [nI_le' (by omega) (by omega)]; omega)]
    simp only [zletE]
    rw [nI_s]
    have u := md85 hr hl hm hr0 (show i < sz (Tr ws r) by omega) (fun (M : ZM) => f_X12_mend_72 50 (nI r) (fun (M : ZM) => some (((-9) : Int32), M)) fuel (nI (i + 1)) M) i 0 zN (by omega) (by unfold zN; omega)
    rw [nI0] at u
    by_cases w : ∃ y, 0 ≤ y ∧ y < i ∧ mk ws r i ∧ mk ws r y ∧ ∀ o, Oth ws r o → ¬ (hz ws r o i ∧ hz ws r o y)
    · rw [u.1 w]
      obtain ⟨y, _, h1, h2⟩ := w
      exact ⟨fun _ => rfl, fun z => absurd ⟨i, y, Nat.le_refl _, h1, h2⟩ z⟩
    · rw [u.2 w]
      refine ⟨fun ⟨a, y, h1, h2, h3⟩ => t.1 ⟨a, y, ?_, h2, h3⟩, fun z => t.2 (fun ⟨a, y, h1, h2, h3⟩ => z ⟨a, y, by omega, h2, h3⟩)⟩
      have : a ≠ i := fun e => w ⟨y, Nat.zero_le _, by omega, by rw [← e]; exact h3⟩
      omega
end RM
theorem m_mend (v : Int32) {M : ZM} (hJ : JJ M) : Ag (f_X11_mend 0 v M) (f_X12_mend 50 v) := by
  unfold f_X11_mend
  refine qAg (fun x => x) hJ (fun N => by simp only [zletE]; rw [if_neg (by decide)]) (fun N h => ?_) (fun ws tp od a1 a2 im rf N hp hc hr hL hm => ?_)
  · unfold f_X12_mend f_X12_wrong
    rw [if_pos h, zletE, if_neg (by decide)]
  · show Ag (if ((0 : Int32), N).1 = 0 then _ else _) _
    rw [if_pos rfl]
    simp only [zletE]
    have hl := hp.1.1
    rcases in_or (Ny ws 0 ws.length) (by omega) v with ⟨r, hr0, rfl⟩ | hv
    · rw [noR_t hL hm hr0, if_pos rfl, nI_l (by omega), show zr 0 4 = 10 by decide +kernel, show zr 0 1 = 3 by decide +kernel, show zr 0 3 = 7 by decide +kernel, show zr 0 10 = 35 by decide +kernel]
      obtain ⟨N1, e1, t1, F1⟩ := grow_ok hl (CI_ws hc) hc.2.2.2.2.2.2.2.2.2.1 hr0
      obtain ⟨N2, e2, m2, s2, F2⟩ := bg_ok hl hr0 t1
      have F12 : Fr sc1 N N2 := Fr_tr (Fr_sub F1 sc_t) (Fr_sub F2 (by decide))
      have c2 := CI_Fr hc F12
      have L2 := LM_Fr hL F12 (by decide) (by decide) (by decide) (by decide)
      obtain ⟨N3, e3, m3, s3, F3⟩ := md58 hl hm hr0 (fun (M : ZM) =>
        (f_X3_fewestNodes 35 M).bind fun (q16 : Int32) =>
        some (q16, M)) (Ny ws 0 ws.length) 0 zN N2 (by omega) (by unfold zN; omega) (CI_ws c2) c2.2.2.2.2.2.2.2.2.2.1 L2 m2 ⟨by rw [s2, obs]; exact nI0.symm, fun k hk => absurd hk (Nat.not_lt_zero _)⟩
      rw [nI0] at e3
      have F13 : Fr sc1 N N3 := Fr_tr F12 (Fr_sub F3 (by decide))
      have r3 := RI_c hr (Fr_sub F13 (by decide))
      have fn := fn_ok hl hm hr0 m3 s3
      have i0 := im_ok r3 hl hm hr0 (arg_n r) (arg_n r)
      have i1 := md32 r3 hl hm hr0 (fun (M : ZM) =>
        f_X12_mend_72 50 (nI r) (fun (M : ZM) =>
          some (((-9) : Int32), M)) zN 0 M) (sz (Tr ws r)) 0 zN (by omega) (by have := sz_ln (Tr ws r); have := (Tr_sp hr0 hl).2; unfold zN; omega)
      have i2 := md72 r3 hl hm hr0 (sz (Tr ws r)) 0 zN (by omega) (by have := sz_ln (Tr ws r); have := (Tr_sp hr0 hl).2; unfold zN; omega)
      rw [nI0] at i1 i2
      have key : ∃ z, f_X3_fewestNodes 35 N3 = some z ∧ f_X12_mend 50 (nI r) N3 = some (z, N3) := by
        unfold f_X12_mend
        rw [wrong_t r3 hm hr0, zletE, if_pos rfl]
        by_cases hE : ∃ o, Oth ws r o
        · obtain ⟨o, ho⟩ := id hE
          rw [i0.1 ⟨o, ho, trivial, trivial⟩, bindE, if_pos rfl]
          by_cases h1 : W1 ws r
          · refine ⟨1, fn.2.1 hE h1, i1.1 ?_⟩
            obtain ⟨y, a, b⟩ := h1
            exact ⟨y, Nat.zero_le _, a, b⟩
          · rw [i1.2 (fun ⟨y, _, a, b⟩ => h1 ⟨y, a, b⟩)]
            by_cases h2 : ∃ i, W2 ws r i
            · refine ⟨2, fn.2.2.1 hE h1 h2, i2.1 ?_⟩
              obtain ⟨i, hi, y, hy, h⟩ := h2
              rcases Nat.lt_trichotomy i y with q | q | q
              · exact ⟨y, i, Nat.zero_le _, q, hy, hi, fun o ho z => h o ho ⟨z.2, z.1⟩⟩
              · exact absurd ⟨i, hi, fun o ho z => h o ho ⟨z, by rw [← q]; exact z⟩⟩ h1
              · exact ⟨i, y, Nat.zero_le _, q, hi, hy, h⟩
            · refine ⟨-9, fn.2.2.2 hE h1 h2, i2.2 ?_⟩
              rintro ⟨a, y, _, _, b, c, d⟩
              exact h2 ⟨a, b, y, c, d⟩
        · refine ⟨0, fn.1 hE, ?_⟩
          rw [i0.2 (fun ⟨o, ho, _⟩ => hE ⟨o, ho⟩), bindE, if_neg (by decide)]
      obtain ⟨z, ez1, ez2⟩ := key
      refine okAg hp hc hr (N1 := N3) (a := z) ?_ F13 (P := N3) ez2 (Fs_rf _)
      rw [e1, bindE, e2, bindE, e3, ez1, bindE]
    · rw [noR_f hL hv, if_neg (by decide)]
      refine refAg (fun x => x) hp hc hr (k := 1) (by decide +kernel) (by omega) (fun N' r' => ?_)
      unfold f_X12_mend
      rw [wrong_f r' hm hv, zletE, if_neg (by decide)]
