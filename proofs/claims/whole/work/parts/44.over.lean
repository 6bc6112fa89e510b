def RB (M : ZM) (q m : Nat) (p : Nat → Bool) : Prop := ∀ r, r < m → M.1 q r = bi (p r)
def QG (q : Nat) : Prop := zn q = 200 ∧ q ∈ [71, 72, 73] ∧ q ≠ 50 ∧ q ≠ 66 ∧ q ≠ 54
theorem QG71 : QG 71 := ⟨by decide +kernel, by decide, by decide, by decide, by decide⟩
theorem QG72 : QG 72 := ⟨by decide +kernel, by decide, by decide, by decide, by decide⟩
theorem qz {q r : Nat} (g : QG q) (h : r < 200) : zin (nI r) (zn q) = true := by rw [g.1]; exact zin_t h (by omega)
theorem fo2 {q : Nat} (g : QG q) (v : Int32) (K : ZM → Option ZM) {m : Nat} (hm : m ≤ 200) : ∀ c i fuel M, i + c = m → c < fuel → M.1 50 26 = nI m → (∀ j, j < i → M.1 q j = 1) → ∃ N, f_X12_findOver_2 50 q v K fuel (nI i) M = K N ∧ (∀ j, j < m → N.1 q j = 1) ∧ (∀ b, b ≠ q → N.1 b = M.1 b) ∧ N.2 = M.2 := by
  intro c
  induction c with
  | zero =>
    intro i fuel M hi hf h1 h2
    obtain ⟨fuel, rfl⟩ : ∃ m, fuel = m + 1 := ⟨fuel - 1, by omega⟩
    rw [f_X12_findOver_2, h1, if_pos (by rw [nI_le' (by omega) (by omega)]; omega)]
    exact ⟨M, rfl, fun j hj => h2 j (by omega), fun _ _ => rfl, rfl⟩
  | succ c ih =>
    intro i fuel M hi hf h1 h2
    obtain ⟨fuel, rfl⟩ : ∃ m, fuel = m + 1 := ⟨fuel - 1, by omega⟩
    rw [f_X12_findOver_2, h1, if_neg (by rw [nI_le' (by omega) (by omega)]; omega), zckT (qz g (by omega)), nI_tn (by omega)]
    simp only [zletE]
    rw [nI_s]
    obtain ⟨N, e, n1, n2, n3⟩ := ih (i + 1) fuel (zi M q i 1) (by omega) (by omega) (by rw [zi_ne (Ne.symm g.2.2.1)]; exact h1) (fun j hj => by
      by_cases z : j = i
      · rw [z, zi_eq]
      · rw [zi_k z]; exact h2 j (by omega))
    exact ⟨N, e, n1, fun b hb => by rw [n2 b hb]; funext j; exact zi_ne hb, n3⟩
theorem metO {ws tp od a1 a2 : List Int32} {im : zI} {rf : Nat → Int32} {M : ZM} (hr : RI ws tp od a1 a2 im rf M) (hm : Ny ws 0 ws.length ≤ 200) {r k c : Nat} (hr0 : r < Ny ws 0 ws.length) (hk : k < od.length) (hc : c < 6) (ec : wa od k = nI c) : (((M.1 66 r) >>> ((M.1 54 k) &&& 31)) &&& 1 = 1) ↔ mt ws r c = true := by
  rw [(LRr hr hm hr0).2.2.2.1, hr.2.2.1.2 k hk, ec, bitC (by omega)]
  show (if mt ws r c = true then (1 : Int32) else 0) = 1 ↔ _
  cases mt ws r c <;> decide
theorem fo49 {ws tp od a1 a2 : List Int32} {im : zI} {rf : Nat → Int32} {M : ZM} (hr : RI ws tp od a1 a2 im rf M) (hm : Ny ws 0 ws.length ≤ 200) {q : Nat} (g : QG q) (v : Int32) {k c : Nat} (ho : od.length ≤ 6) (hk : k < od.length) (hc : c < 6) (ec : wa od k = nI c) {p : Nat → Bool} (hB : RB M q (Ny ws 0 ws.length) p) (K : Int32 → ZM → Option ZM) : ∀ n i fuel (x : Bool), i + n = Ny ws 0 ws.length → n < fuel → ((x = true ∨ ∃ r, i ≤ r ∧ r < Ny ws 0 ws.length ∧ p r = true ∧ mt ws r c = true) → f_X12_findOver_49 50 q v (nI k) K fuel (bi x) (nI i) M = K 1 M) ∧ ((¬ (x = true ∨ ∃ r, i ≤ r ∧ r < Ny ws 0 ws.length ∧ p r = true ∧ mt ws r c = true)) → f_X12_findOver_49 50 q v (nI k) K fuel (bi x) (nI i) M = K 0 M) := by
  intro n
  induction n with
  | zero =>
    intro i fuel x hi hf
    obtain ⟨fuel, rfl⟩ : ∃ m, fuel = m + 1 := ⟨fuel - 1, by omega⟩
    rw [f_X12_findOver_49, L26 hr hm, if_pos (by rw [nI_le' (by omega) (by omega)]; omega)]
    cases x with
    | true => exact ⟨fun _ => rfl, fun z => absurd (Or.inl rfl) z⟩
    | false => exact ⟨fun z => z.elim (fun y => Bool.noConfusion y) (fun ⟨j, h1, h2, _⟩ => by omega), fun _ => rfl⟩
  | succ n ih =>
    intro i fuel x hi hf
    obtain ⟨fuel, rfl⟩ : ∃ m, fuel = m + 1 := ⟨fuel - 1, by omega⟩
    have z54 : zin (nI k) (zn (zr 50 3)) = true := by rw [show zr 50 3 = 54 by decide +kernel, show zn 54 = 6 by decide +kernel]; exact zin_t (by omega) (by omega)
    rw [f_X12_findOver_49, L26 hr hm, if_neg (by rw [nI_le' (by omega) (by omega)]; omega)]
    simp only [zletE]
    rw [zckT (qz g (by omega)), z66, zckT (i66 (by omega)), zckT z54, nI_tn (a := i) (by omega), nI_tn (a := k) (by omega), show zr 50 3 = 54 by decide +kernel, hB i (by omega), nI_s]
    have hmet := metO hr hm (show i < Ny ws 0 ws.length by omega) hk hc ec
    cases x with
    | true =>
      have t := ih (i + 1) fuel true (by omega) (by omega)
      rw [show bi true = 1 from rfl, if_neg (by decide)]
      exact ⟨fun _ => t.1 (Or.inl rfl), fun z => absurd (Or.inl rfl) z⟩
    | false =>
      rw [show bi false = 0 from rfl, if_pos rfl]
      have tT := ih (i + 1) fuel true (by omega) (by omega)
      have tF := ih (i + 1) fuel false (by omega) (by omega)
      have keep : (¬ (p i = true ∧ mt ws i c = true)) → ((false = true ∨ ∃ r, i + 1 ≤ r ∧ r < Ny ws 0 ws.length ∧ p r = true ∧ mt ws r c = true) ↔ (false = true ∨ ∃ r, i ≤ r ∧ r < Ny ws 0 ws.length ∧ p r = true ∧ mt ws r c = true)) := by
        intro hn
        constructor
        · rintro (h | ⟨r, h1, h2, h3⟩)
          · exact Or.inl h
          · exact Or.inr ⟨r, by omega, h2, h3⟩
        · rintro (h | ⟨r, h1, h2, h3⟩)
          · exact Or.inl h
          · by_cases z : r = i
            · rw [z] at h3; exact absurd h3 hn
            · exact Or.inr ⟨r, by omega, h2, h3⟩
      by_cases q1 : p i = true
      · rw [q1, show bi true = 1 from rfl, if_neg (by decide)]
        by_cases q2 : mt ws i c = true
        · rw [if_pos (hmet.mpr q2)]
          exact ⟨fun _ => tT.1 (Or.inl rfl), fun z => absurd (Or.inr ⟨i, Nat.le_refl _, by omega, q1, q2⟩) z⟩
        · rw [if_neg (fun z => q2 (hmet.mp z)), ← keep (fun z => q2 z.2)]
          exact tF
      · rw [Bool.not_eq_true _ |>.mp q1, show bi false = 0 from rfl, if_pos rfl, ← keep (fun z => q1 z.1)]
        exact tF
theorem fo125 {ws tp od a1 a2 : List Int32} {im : zI} {rf : Nat → Int32} (hm : Ny ws 0 ws.length ≤ 200) {q : Nat} (g : QG q) (v : Int32) {k c : Nat} (ho : od.length ≤ 6) (hk : k < od.length) (hc : c < 6) (ec : wa od k = nI c) {p : Nat → Bool} (K : ZM → Option ZM) : ∀ n i fuel M, i + n = Ny ws 0 ws.length → n < fuel → RI ws tp od a1 a2 im rf M → (∀ r, i ≤ r → r < Ny ws 0 ws.length → M.1 q r = bi (p r)) → (∀ r, r < i → M.1 q r = bi (mt ws r c && p r)) → ∃ N, f_X12_findOver_125 50 q v (nI k) 1 K fuel (nI i) M = K N ∧ RB N q (Ny ws 0 ws.length) (fun a => mt ws a c && p a) ∧ (∀ b, b ≠ q → N.1 b = M.1 b) ∧ N.2 = M.2 := by
  intro n
  induction n with
  | zero =>
    intro i fuel M hi hf hr h1 h2
    obtain ⟨fuel, rfl⟩ : ∃ m, fuel = m + 1 := ⟨fuel - 1, by omega⟩
    rw [f_X12_findOver_125, L26 hr hm, if_pos (by rw [nI_le' (by omega) (by omega)]; omega)]
    exact ⟨M, rfl, fun r hr => h2 r (by omega), fun _ _ => rfl, rfl⟩
  | succ n ih =>
    intro i fuel M hi hf hr h1 h2
    obtain ⟨fuel, rfl⟩ : ∃ m, fuel = m + 1 := ⟨fuel - 1, by omega⟩
    have z54 : zin (nI k) (zn (zr 50 3)) = true := by rw [show zr 50 3 = 54 by decide +kernel, show zn 54 = 6 by decide +kernel]; exact zin_t (by omega) (by omega)
    rw [f_X12_findOver_125, L26 hr hm, if_neg (by rw [nI_le' (by omega) (by omega)]; omega), if_neg (by decide)]
    simp only [zletE]
    rw [zckT (qz g (by omega)), zckT (qz g (by omega)), z66, zckT (i66 (by omega)), zckT z54, zckT (qz g (by omega)), nI_tn (a := i) (by omega), nI_tn (a := k) (by omega), show zr 50 3 = 54 by decide +kernel, h1 i (Nat.le_refl _) (by omega), nI_s]
    have hmet := metO hr hm (show i < Ny ws 0 ws.length by omega) hk hc ec
    have go : ∀ x : Int32, x = bi (mt ws i c && p i) → ∃ N, f_X12_findOver_125 50 q v (nI k) 1 K fuel (nI (i + 1)) (zi M q i x) = K N ∧ RB N q (Ny ws 0 ws.length) (fun a => mt ws a c && p a) ∧ (∀ b, b ≠ q → N.1 b = M.1 b) ∧ N.2 = M.2 := by
      intro x hx
      obtain ⟨N, e, n1, n2, n3⟩ := ih (i + 1) fuel (zi M q i x) (by omega) (by omega) (RI_Fs hr (Fs_za g.2.1)) (fun r h h' => by rw [zi_k (by omega)]; exact h1 r (by omega) h') (fun r hr' => by
        by_cases z : r = i
        · rw [z, zi_eq, hx]
        · rw [zi_k z]; exact h2 r (by omega))
      exact ⟨N, e, n1, fun b hb => by rw [n2 b hb]; funext j; exact zi_ne hb, n3⟩
    cases q1 : p i with
    | false =>
      rw [show bi false = 0 from rfl, if_pos rfl]
      exact go 0 (by rw [q1, Bool.and_false]; rfl)
    | true =>
      rw [show bi true = 1 from rfl, if_neg (by decide)]
      cases q2 : mt ws i c with
      | true =>
        rw [if_pos (hmet.mpr q2)]
        exact go 1 (by rw [q1, q2]; rfl)
      | false =>
        rw [if_neg (fun z => by rw [hmet.mp z] at q2; exact absurd q2 (by decide))]
        exact go 0 (by rw [q1, q2]; rfl)
theorem fo27 {ws tp od a1 a2 : List Int32} {im : zI} {rf : Nat → Int32} (ho : oko od) (hm : Ny ws 0 ws.length ≤ 200) {q : Nat} (g : QG q) (v : Int32) (K : ZM → Option ZM) : ∀ n i fuel M, i + n = od.length → n < fuel → RI ws tp od a1 a2 im rf M → RB M q (Ny ws 0 ws.length) (svp ws (Ny ws 0 ws.length) od (fun j => decide (nI j = v)) i).1 → M.1 50 37 = nI (svp ws (Ny ws 0 ws.length) od (fun j => decide (nI j = v)) i).2 → ∃ N, f_X12_findOver_27 50 q v K fuel (nI i) M = K N ∧ RB N q (Ny ws 0 ws.length) (svp ws (Ny ws 0 ws.length) od (fun j => decide (nI j = v)) od.length).1 ∧ N.1 50 37 = nI (svp ws (Ny ws 0 ws.length) od (fun j => decide (nI j = v)) od.length).2 ∧ Fs M N ∧ (∀ b, b ≠ 50 → b ≠ q → N.1 b = M.1 b) := by
  intro n
  induction n with
  | zero =>
    intro i fuel M hi hf hr hB h37
    obtain ⟨fuel, rfl⟩ : ∃ m, fuel = m + 1 := ⟨fuel - 1, by omega⟩
    have := ho.1
    rw [f_X12_findOver_27]
    simp only [zletE]
    rw [hr.2.2.1.1, if_pos (by rw [nI_le' (by omega) (by omega)]; omega)]
    exact ⟨M, rfl, by rw [show od.length = i by omega]; exact hB, by rw [show od.length = i by omega]; exact h37, Fs_rf _, fun _ _ _ => rfl⟩
  | succ n ih =>
    intro i fuel M hi hf hr hB h37
    obtain ⟨fuel, rfl⟩ : ∃ m, fuel = m + 1 := ⟨fuel - 1, by omega⟩
    have ho6 := ho.1
    obtain ⟨c, hc, ec⟩ := ho.2.2 _ (wa_mem (show i < od.length by omega))
    rw [f_X12_findOver_27]
    simp only [zletE]
    rw [hr.2.2.1.1, if_neg (by rw [nI_le' (by omega) (by omega)]; omega), nI_s]
    have t' := ih (i + 1) fuel
    rw [svp] at t'
    by_cases sk : nI i = v
    · rw [if_pos sk]
      rw [if_pos (decide_eq_true sk)] at t'
      exact t' M (by omega) (by omega) hr hB h37
    · rw [if_neg sk]
      rw [if_neg (by rw [decide_eq_false sk]; decide), ec, nI_tn (by omega)] at t'
      generalize hsv : svp ws (Ny ws 0 ws.length) od (fun j => decide (nI j = v)) i = s at *
      have u := fo49 hr hm g v ho6 (show i < od.length by omega) hc ec hB (fun (v4 : Int32) (M : ZM) =>
          if v4 = 0 then (
            f_X12_findOver_125 50 q v (nI i) v4 (fun (M : ZM) =>
              f_X12_findOver_27 50 q v K fuel (nI (i + 1)) M) zN 0 (zi M 50 37 ((M.1 50 37) + 1))) else (
            f_X12_findOver_125 50 q v (nI i) v4 (fun (M : ZM) =>
              f_X12_findOver_27 50 q v K fuel (nI (i + 1)) M) zN 0 (zi M 50 37 ((M.1 50 37) + 0)))) (Ny ws 0 ws.length) 0 zN false (by omega) (by unfold zN; omega)
      rw [nI0, show bi false = 0 from rfl] at u
      have hany : ((List.range (Ny ws 0 ws.length)).any (fun r => s.1 r && mt ws r c) = true) ↔ (false = true ∨ ∃ r, 0 ≤ r ∧ r < Ny ws 0 ws.length ∧ s.1 r = true ∧ mt ws r c = true) := by
        rw [List.any_eq_true]
        constructor
        · rintro ⟨r, h1, h2⟩
          rw [Bool.and_eq_true] at h2
          exact Or.inr ⟨r, Nat.zero_le _, List.mem_range.mp h1, h2⟩
        · rintro (h | ⟨r, _, h1, h2⟩)
          · exact absurd h (by decide)
          · exact ⟨r, List.mem_range.mpr h1, by rw [Bool.and_eq_true]; exact h2⟩
      unfold sfp at t'
      by_cases w : (List.range (Ny ws 0 ws.length)).any (fun r => s.1 r && mt ws r c) = true
      · rw [if_pos w] at t'
        rw [u.1 (hany.mp w), if_neg (by decide), h37, Int32.add_zero]
        have f1 : Fs M (zi M 50 37 (nI s.2)) := Fs_zi (by decide)
        obtain ⟨N, e, n1, n2, n3⟩ := fo125 hm g v ho6 (show i < od.length by omega) hc ec (p := s.1) (fun (M : ZM) =>
              f_X12_findOver_27 50 q v K fuel (nI (i + 1)) M) (Ny ws 0 ws.length) 0 zN (zi M 50 37 (nI s.2)) (by omega) (by unfold zN; omega) (RI_Fs hr f1) (fun r _ hr' => by rw [zi_ne g.2.2.1]; exact hB r hr') (fun r hr' => by omega)
        rw [nI0] at e
        rw [e]
        have f2 : Fs (zi M 50 37 (nI s.2)) N := ⟨fun b hb => ⟨n2 b (fun z => hb (by
          have t : ∀ x, x ∈ [71, 72, 73] → x ∈ [50, 70, 71, 72, 73] := by decide
          rw [z]; exact t q g.2.1)), by rw [n3]⟩, fun k _ => by rw [n2 50 (Ne.symm g.2.2.1)]⟩
        have f3 := Fs_tr f1 f2
        obtain ⟨P, e2, p1, p2, p3, p4⟩ := t' N (by omega) (by omega) (RI_Fs hr f3) n1 (by rw [n2 50 (Ne.symm g.2.2.1), zi_eq])
        exact ⟨P, e2, p1, p2, Fs_tr f3 p3, fun b h1 h2 => by rw [p4 b h1 h2, n2 b h2]; funext j; exact zi_ne h1⟩
      · rw [if_neg w] at t'
        rw [u.2 (fun z => w (hany.mpr z)), if_pos rfl, h37, nI_s]
        have f1 : Fs M (zi M 50 37 (nI (s.2 + 1))) := Fs_zi (by decide)
        have hstop : f_X12_findOver_125 50 q v (nI i) 0 (fun (M : ZM) => f_X12_findOver_27 50 q v K fuel (nI (i + 1)) M) zN 0 (zi M 50 37 (nI (s.2 + 1))) = f_X12_findOver_27 50 q v K fuel (nI (i + 1)) (zi M 50 37 (nI (s.2 + 1))) := by
          obtain ⟨f, hf'⟩ : ∃ f, zN = f + 1 := ⟨zN - 1, by unfold zN; omega⟩
          rw [hf', f_X12_findOver_125]
          split
          · rfl
          · rw [if_pos rfl]
        rw [hstop]
        obtain ⟨P, e2, p1, p2, p3, p4⟩ := t' (zi M 50 37 (nI (s.2 + 1))) (by omega) (by omega) (RI_Fs hr f1) (fun r hr' => by rw [zi_ne g.2.2.1]; exact hB r hr') zi_eq
        exact ⟨P, e2, p1, p2, Fs_tr f1 p3, fun b h1 h2 => by rw [p4 b h1 h2]; funext j; exact zi_ne h1⟩
theorem fo_ok {ws tp od a1 a2 : List Int32} {im : zI} {rf : Nat → Int32} (ho : oko od) (hm : Ny ws 0 ws.length ≤ 200) {q : Nat} (g : QG q) (v : Int32) {M : ZM} (hr : RI ws tp od a1 a2 im rf M) : ∃ N, f_X12_findOver 50 q v M = some N ∧ RB N q (Ny ws 0 ws.length) (svp ws (Ny ws 0 ws.length) od (fun j => decide (nI j = v)) od.length).1 ∧ N.1 50 37 = nI (svp ws (Ny ws 0 ws.length) od (fun j => decide (nI j = v)) od.length).2 ∧ Fs M N ∧ (∀ b, b ≠ 50 → b ≠ q → N.1 b = M.1 b) := by
  unfold f_X12_findOver
  obtain ⟨N, e, n1, n2, n3⟩ := fo2 g v (fun (M : ZM) =>
    zlet (zi M 50 37 0) fun (M5 : ZM) =>
    f_X12_findOver_27 50 q v (fun (M : ZM) => some M) zN 0 M5) hm (Ny ws 0 ws.length) 0 zN M (by omega) (by unfold zN; omega) (L26 hr hm) (fun j hj => by omega)
  rw [nI0] at e
  rw [e, zletE]
  have f0 : Fs M N := ⟨fun b hb => ⟨n2 b (fun z => hb (by
    have t : ∀ x, x ∈ [71, 72, 73] → x ∈ [50, 70, 71, 72, 73] := by decide
    rw [z]; exact t q g.2.1)), by rw [n3]⟩, fun k _ => by rw [n2 50 (Ne.symm g.2.2.1)]⟩
  have f1 : Fs M (zi N 50 37 0) := Fs_tr f0 (Fs_zi (by decide))
  obtain ⟨P, e2, p1, p2, p3, p4⟩ := fo27 ho hm g v (fun M => some M) od.length 0 zN (zi N 50 37 0) (by omega) (by have := ho.1; unfold zN; omega) (RI_Fs hr f1) (fun r hr' => by rw [zi_ne g.2.2.1, n1 r hr']; rfl) (by rw [zi_eq]; exact nI0.symm)
  rw [nI0] at e2
  exact ⟨P, e2, p1, p2, Fs_tr f1 p3, fun b h1 h2 => by rw [p4 b h1 h2]; funext j; rw [zi_ne h1, n2 b h2]⟩
/-- no rule is left out -/
noncomputable def svn (ws : List Int32) (m : Nat) (od : List Int32) : (Nat → Bool) × Nat := svp ws m od (fun _ => false) od.length
theorem svn_A {ws od : List Int32} {m : Nat} (ho : oko od) : svp ws m od (fun j => decide (wa od j = -1)) od.length = svn ws m od := by
  apply svp_c
  intro j hj
  obtain ⟨k, hk, e⟩ := ho.2.2 _ (wa_mem hj)
  rw [decide_eq_false]
  rw [e]
  exact nI_ne1 (by omega)
theorem svn_O {ws od : List Int32} {m : Nat} (ho : oko od) : svp ws m od (fun j => decide (nI j = -9)) od.length = svn ws m od := by
  apply svp_c
  intro j hj
  have := ho.1
  rw [decide_eq_false]
  exact nI_m9 (by omega)
theorem sc_s {t r : Nat} (g : SG t r) : ∀ b, b ∈ [t, r] → b ∈ sc1 := by
  intro b hb
  simp only [List.mem_cons, List.not_mem_nil, or_false] at hb
  rcases hb with e | e
  · rw [e]; exact g.2.2.2.2.1
  · rw [e]; exact g.2.2.2.2.2
theorem m_passedOver {M : ZM} (hJ : JJ M) : Ag (f_X11_passedOver 0 M) (f_X12_passedOver 50) := by
  unfold f_X11_passedOver
  refine qAg (fun x => x) hJ (fun N => by simp only [zletE]; rw [if_neg (by decide)]) (fun N h => ?_) (fun ws tp od a1 a2 im rf N hp hc hr hL hm => ?_)
  · unfold f_X12_passedOver
    rw [if_pos h]
  · show Ag (if ((0 : Int32), N).1 = 0 then _ else _) _
    rw [if_pos rfl]
    have ho := hp.2.2.1
    obtain ⟨N1, e1, s1, F1⟩ := sift_ok SG31 hm ho (-1) hc.2.2.1 hL
    have F1' : Fr sc1 N N1 := Fr_sub F1 (sc_s SG31)
    have r1 := RI_c hr (Fr_sub F1' (by decide))
    obtain ⟨P, e2, p1, p2, p3, _⟩ := fo_ok ho hm QG71 (-9) r1
    rw [svn_A ho] at s1
    rw [svn_O ho] at p2
    refine okAg hp hc hr (N1 := N1) (a := nI (svn ws (Ny ws 0 ws.length) od).2) ?_ F1' (P := P) ?_ p3
    · rw [show zr 0 8 = 31 by decide +kernel, show zr 0 5 = 19 by decide +kernel, show zr 0 7 = 29 by decide +kernel, e1, bindE]
      simp only [zletE]
      rw [show f_X6_passed 31 N1 = nI (svn ws (Ny ws 0 ws.length) od).2 from s1.2.2]
    · unfold f_X12_passedOver
      rw [if_neg (L29_t r1 hm), show zr 50 35 = 71 by decide +kernel, e2, bindE, p2]
theorem lo48 {M : ZM} {m : Nat} (hm : m ≤ 200) (h26 : M.1 50 26 = nI m) {p : Nat → Bool} (hB : RB M 71 m p) (v : Int32) (K : Int32 → ZM → Option (Int32 × ZM)) : ∀ n r fuel A B, r + n = m → n < fuel → sL m p = A ++ B → (∀ x, x ∈ A → x < r) → (∀ x, x ∈ B → r ≤ x) → B.Pairwise (· < ·) → (∀ i, v = nI i → A.length ≤ i → i < (sL m p).length → f_X12_leftOver_48 50 v K fuel (nI A.length) (nI r) M = some (nI (wn (sL m p) i), M)) ∧ ((∀ i, A.length ≤ i → i < (sL m p).length → v ≠ nI i) → f_X12_leftOver_48 50 v K fuel (nI A.length) (nI r) M = K (nI (sL m p).length) M) := by
  intro n
  induction n with
  | zero =>
    intro r fuel A B hi hf hE hA hB' hP
    obtain ⟨fuel, rfl⟩ : ∃ m, fuel = m + 1 := ⟨fuel - 1, by omega⟩
    have hBn : B = [] := by
      cases B with
      | nil => rfl
      | cons x B =>
        have h1 := hB' x (List.mem_cons_self ..)
        have h2 : x ∈ sL m p := by rw [hE]; exact List.mem_append_right _ (List.mem_cons_self ..)
        rw [sL_mem] at h2
        omega
    rw [hBn, List.append_nil] at hE
    rw [f_X12_leftOver_48, h26, if_pos (by rw [nI_le' (by omega) (by omega)]; omega)]
    exact ⟨fun i _ h1 h2 => by rw [hE] at h2; omega, fun _ => by rw [hE]⟩
  | succ n ih =>
    intro r fuel A B hi hf hE hA hB' hP
    obtain ⟨fuel, rfl⟩ : ∃ m, fuel = m + 1 := ⟨fuel - 1, by omega⟩
    have hlen := sL_len m p
    have hAl : A.length ≤ m := by rw [hE, List.length_append] at hlen; omega
    rw [f_X12_leftOver_48, h26, if_neg (by rw [nI_le' (by omega) (by omega)]; omega), show zr 50 35 = 71 by decide +kernel, zckT (qz QG71 (by omega)), nI_tn (by omega), hB r (by omega)]
    simp only [zletE]
    rw [nI_s, nI_s]
    cases hp : p r with
    | false =>
      rw [show bi false = 0 from rfl, if_pos rfl]
      refine ih (r + 1) fuel A B (by omega) (by omega) hE (fun x hx => by have := hA x hx; omega) (fun x hx => ?_) hP
      have h1 := hB' x hx
      have h2 : x ∈ sL m p := by rw [hE]; exact List.mem_append_right _ hx
      rw [sL_mem] at h2
      have : x ≠ r := fun e => by rw [e, hp] at h2; exact absurd h2.2 (by decide)
      omega
    | true =>
      rw [show bi true = 1 from rfl, if_neg (by decide)]
      have hr : r ∈ sL m p := sL_mem.mpr ⟨by omega, hp⟩
      rw [hE, List.mem_append] at hr
      have hrB : r ∈ B := hr.resolve_left (fun h => by have := hA r h; omega)
      obtain ⟨B', hB2⟩ : ∃ B', B = r :: B' := by
        cases B with
        | nil => exact absurd hrB List.not_mem_nil
        | cons b B' =>
          rcases List.mem_cons.mp hrB with e | e
          · exact ⟨B', by rw [e]⟩
          · have h1 := (List.pairwise_cons.mp hP).1 r e
            have h2 := hB' b (List.mem_cons_self ..)
            omega
      subst hB2
      have hwn : wn (sL m p) A.length = r := by
        unfold wn
        rw [hE, List.getD_eq_getElem?_getD, List.getElem?_append_right (Nat.le_refl _), Nat.sub_self]
        rfl
      have hlt : A.length < (sL m p).length := by rw [hE, List.length_append, List.length_cons]; omega
      have hE2 : sL m p = (A ++ [r]) ++ B' := by rw [hE, List.append_assoc]; rfl
      have t := ih (r + 1) fuel (A ++ [r]) B' (by omega) (by omega) hE2 (fun x hx => by
        rcases List.mem_append.mp hx with q | q
        · have := hA x q; omega
        · rw [List.mem_singleton] at q; omega) (fun x hx => (List.pairwise_cons.mp hP).1 x hx) (List.pairwise_cons.mp hP).2
      rw [List.length_append, List.length_singleton] at t
      by_cases q : nI A.length = v
      · rw [if_pos q]
        refine ⟨fun i hi h1 h2 => ?_, fun z => absurd q.symm (z A.length (Nat.le_refl _) hlt)⟩
        have : i = A.length := by
          rw [← q] at hi
          exact ((nI_inj (by omega) (by omega)).mp hi).symm
        rw [this, hwn]
      · rw [if_neg q]
        refine ⟨fun i hi h1 h2 => t.1 i hi ?_ h2, fun z => t.2 (fun i h1 h2 => z i (by omega) h2)⟩
        have : i ≠ A.length := fun e => q (by rw [hi, e])
        omega
theorem m_leftOver (v : Int32) {M : ZM} (hJ : JJ M) : Ag (f_X11_leftOver 0 v M) (f_X12_leftOver 50 v) := by
  unfold f_X11_leftOver
  refine qAg (fun x => x) hJ (fun N => by simp only [zletE]; rw [if_neg (by decide)]) (fun N h => ?_) (fun ws tp od a1 a2 im rf N hp hc hr hL hm => ?_)
  · unfold f_X12_leftOver
    simp only [zletE]
    rw [if_pos h, if_neg (by decide)]
  · show Ag (if ((0 : Int32), N).1 = 0 then _ else _) _
    rw [if_pos rfl]
    have ho := hp.2.2.1
    by_cases q : (-1 : Int32) ≤ v
    · rw [if_pos q]
      obtain ⟨N1, e1, s1, F1⟩ := sift_ok SG31 hm ho (-1) hc.2.2.1 hL
      have F1' : Fr sc1 N N1 := Fr_sub F1 (sc_s SG31)
      have r1 := RI_c hr (Fr_sub F1' (by decide))
      obtain ⟨P, e2, p1, p2, p3, _⟩ := fo_ok ho hm QG71 (-9) r1
      rw [svn_A ho] at s1
      rw [svn_O ho] at p1 p2
      have rP := RI_Fs r1 p3
      have hlen := sL_len (Ny ws 0 ws.length) (svn ws (Ny ws 0 ws.length) od).1
      have hsrt : (sL (Ny ws 0 ws.length) (svn ws (Ny ws 0 ws.length) od).1).Pairwise (· < ·) := List.Pairwise.filter _ List.pairwise_lt_range
      have t := lo48 hm (L26 rP hm) p1 v (fun (v3 : Int32) (M : ZM) =>
        if 0 ≤ v then (
          some (((-9) : Int32), M)) else (
          some (v3, M))) (Ny ws 0 ws.length) 0 zN [] _ (by omega) (by unfold zN; omega) rfl (fun x hx => absurd hx List.not_mem_nil) (fun x _ => Nat.zero_le _) hsrt
      rw [show ([] : List Nat).length = 0 from rfl, nI0] at t
      have eO : ∀ z, f_X12_leftOver_48 50 v (fun (v3 : Int32) (M : ZM) =>
        if 0 ≤ v then (
          some (((-9) : Int32), M)) else (
          some (v3, M))) zN 0 0 P = some (z, P) → f_X12_leftOver 50 v N1 = some (z, P) := by
        intro z hz
        unfold f_X12_leftOver
        simp only [zletE]
        rw [if_neg (L29_t r1 hm), if_pos q, if_pos trivial, show zr 50 35 = 71 by decide +kernel, e2, bindE, hz]
      have e3 : f_X6_sift (zr 0 8) (zr 0 5) (zr 0 7) (-1) N = some N1 := by rw [show zr 0 8 = 31 by decide +kernel, show zr 0 5 = 19 by decide +kernel, show zr 0 7 = 29 by decide +kernel]; exact e1
      by_cases qm : v = -1
      · refine okAg hp hc hr (N1 := N1) (a := nI (sL (Ny ws 0 ws.length) (svn ws (Ny ws 0 ws.length) od).1).length) ?_ F1' (P := P) (eO _ ?_) p3
        · rw [e3, bindE, if_pos qm]
          simp only [zletE]
          rw [show zr 0 8 = 31 by decide +kernel, show f_X6_size 31 N1 = nI (sL (Ny ws 0 ws.length) (svn ws (Ny ws 0 ws.length) od).1).length from s1.1]
        · rw [t.2 (fun i _ h2 e => nI_ne1 (p := i) (by omega) (by rw [← e, qm])), if_neg (by rw [qm]; decide)]
      · have hn : ¬ v < 0 := by
          intro z
          apply qm
          rw [Int32.lt_iff_toInt_lt] at z
          rw [Int32.le_iff_toInt_le] at q
          have e0 : (0 : Int32).toInt = 0 := rfl
          have e1 : (-1 : Int32).toInt = -1 := rfl
          apply Int32.toInt_inj.mp
          omega
        obtain ⟨ev, hb⟩ := v_nI hn
        generalize v.toNatClampNeg = i at ev hb
        subst ev
        have hsz : f_X6_size (zr 0 8) N1 = nI (sL (Ny ws 0 ws.length) (svn ws (Ny ws 0 ws.length) od).1).length := by rw [show zr 0 8 = 31 by decide +kernel]; exact s1.1
        by_cases qi : i < (sL (Ny ws 0 ws.length) (svn ws (Ny ws 0 ws.length) od).1).length
        · refine okAg hp hc hr (N1 := N1) (a := nI (wn (sL (Ny ws 0 ws.length) (svn ws (Ny ws 0 ws.length) od).1) i)) ?_ F1' (P := P) (eO _ (t.1 i rfl (Nat.zero_le _) qi)) p3
          rw [e3, bindE, if_neg qm]
          simp only [zletE]
          rw [hsz, if_neg (by rw [nI_le' (by omega) (by omega)]; omega)]
          unfold f_X6_at
          rw [zletE, show zr 0 8 = 31 by decide +kernel, show zr 31 0 = 32 by decide +kernel, look_nI (by rw [show zn 32 = 200 by decide +kernel]; omega) (by omega), s1.2.1 i qi]
        · refine okAg hp hc hr (N1 := N1) (a := -9) ?_ F1' (P := P) (eO _ ?_) p3
          · rw [e3, bindE, if_neg qm]
            simp only [zletE]
            rw [hsz, if_pos (by rw [nI_le' (by omega) (by omega)]; omega)]
          · rw [t.2 (fun j _ h2 e => by have := (nI_inj hb (by omega)).mp e; omega), if_pos (nI_pos' (by omega))]
    · rw [if_neg q]
      simp only [zletE]
      refine refAg (fun x => x) hp hc hr (k := 1) (by decide +kernel) (by omega) (fun N' r' => ?_)
      unfold f_X12_leftOver
      simp only [zletE]
      rw [if_neg (L29_t r' hm), if_neg q, if_neg (by decide)]
