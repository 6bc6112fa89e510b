def bi (b : Bool) : Int32 := if b = true then 1 else 0
theorem bi_0 (b : Bool) : bi b = 0 ↔ b = false := by cases b <;> decide
theorem br_2 (v k : Int32) (M : ZM) : (f_X12_breaks 50 v k M).2 = M.2 := by
  unfold f_X12_breaks
  simp only [zletE]
  split <;> rfl
theorem breaks_ok (b : Bool) (k : Int32) (M : ZM) : f_X12_breaks 50 (bi b) k M = zi M 50 27 (M.1 50 27 ||| (if b = true then 1 <<< (k &&& 31) else 0)) := by
  unfold f_X12_breaks
  simp only [zletE]
  cases b with
  | true => rw [if_neg (by decide), if_pos rfl]
  | false => rw [if_pos (by decide), if_neg (by decide)]
theorem bk0 : ∀ b : Bool, (if b = true then (1 : Int32) <<< ((0 : Int32) &&& 31) else 0) = bw b false false false := by decide +kernel
theorem bk1 : ∀ b : Bool, (if b = true then (1 : Int32) <<< ((1 : Int32) &&& 31) else 0) = bw false b false false := by decide +kernel
theorem bk2 : ∀ b : Bool, (if b = true then (1 : Int32) <<< ((2 : Int32) &&& 31) else 0) = bw false false b false := by decide +kernel
theorem bk3 : ∀ b : Bool, (if b = true then (1 : Int32) <<< ((3 : Int32) &&& 31) else 0) = bw false false false b := by decide +kernel
/-- what a letter lets, or the letter that is put -/
def evM (ws : List Int32) (M : ZM) (p : Nat) : Int64 := if nI p = M.1 50 28 then (if M.1 50 31 = 0 then 0 else 4294967295) else lv ws p
theorem evM_msk (ws : List Int32) (M : ZM) (p : Nat) : msk (evM ws M p) := by
  unfold evM
  split
  · split
    · exact msk_0
    · exact msk_all
  · exact lv_msk ws p
def Fm (M N : ZM) : Prop := N.2 = M.2 ∧ (∀ b, b ∉ [50, 62, 63, 64, 65] → N.1 b = M.1 b) ∧ ∀ k, k ≠ 27 → N.1 50 k = M.1 50 k
theorem Fm_rf (M : ZM) : Fm M M := ⟨rfl, fun _ _ => rfl, fun _ _ => rfl⟩
theorem Fm_tr {M N P : ZM} (h : Fm M N) (h' : Fm N P) : Fm M P := ⟨h'.1.trans h.1, fun b hb => (h'.2.1 b hb).trans (h.2.1 b hb), fun k hk => (h'.2.2 k hk).trans (h.2.2 k hk)⟩
theorem Fm_27 (M : ZM) (v : Int32) : Fm M (zi M 50 27 v) := ⟨rfl, fun b hb => funext fun k => zi_ne (fun e => hb (by rw [e]; decide)), fun k hk => zi_k hk⟩
theorem evM_Fm {ws : List Int32} {M N : ZM} (h : Fm M N) : evM ws N = evM ws M := by
  funext p
  unfold evM
  rw [h.2.2 28 (by decide), h.2.2 31 (by decide)]
def EV (ws : List Int32) (M : ZM) : Prop := RW M ws ∧ Wz ws M ∧ ∀ m, m < 5 → M.2 69 m = zmk m
theorem EV_Fm {ws : List Int32} {M N : ZM} (h : Fm M N) (e : EV ws M) : EV ws N := by
  refine ⟨⟨?_, fun k hk => ?_⟩, fun a b hab hb => ?_, fun m hm => ?_⟩
  · rw [h.2.2 10 (by decide)]; exact e.1.1
  · rw [h.2.1 52 (by decide)]; exact e.1.2 k hk
  · unfold Wm; rw [h.1]; exact e.2.1 a b hab hb
  · rw [h.1]; exact e.2.2 m hm
/-- whether nodes are noted, from which place -/
def Nt (M : ZM) (L p s : Nat) : Prop := M.1 50 30 = 0 ∨ (M.1 50 30 = 1 ∧ M.1 65 L = nI p ∧ p + s ≤ 21)
def Ns (M N : ZM) : Prop := N.1 62 = M.1 62 ∧ N.1 63 = M.1 63 ∧ N.1 64 = M.1 64 ∧ N.1 65 = M.1 65
def AtB (ws : List Int32) (N : ZM) (L p i : Nat) (t : zT) : Prop := AtM ws (fun k => N.1 62 (21 * L + k)) (fun k => N.1 63 (21 * L + k)) (fun k => N.1 64 (21 * L + k)) p i t
def Np (ws : List Int32) (M N : ZM) (L p i : Nat) (t : zT) : Prop := (M.1 50 30 = 0 ∧ Ns M N) ∨ (M.1 50 30 = 1 ∧ N.1 65 L = nI (p + sz t) ∧ AtB ws N L p i t ∧ (∀ k, k < 21 * L + p → N.1 62 k = M.1 62 k ∧ N.1 63 k = M.1 63 k ∧ N.1 64 k = M.1 64 k) ∧ ∀ k, k ≠ L → N.1 65 k = M.1 65 k)
def Nn (M N : ZM) (L p : Nat) (a b c : Int32) : Prop := (M.1 50 30 = 0 ∧ Ns M N) ∨ (M.1 50 30 = 1 ∧ N.1 65 L = nI (p + 1) ∧ N.1 62 (21 * L + p) = a ∧ N.1 63 (21 * L + p) = b ∧ N.1 64 (21 * L + p) = c ∧ (∀ k, k ≠ 21 * L + p → N.1 62 k = M.1 62 k ∧ N.1 63 k = M.1 63 k ∧ N.1 64 k = M.1 64 k) ∧ ∀ k, k ≠ L → N.1 65 k = M.1 65 k)
theorem notes_ok {M : ZM} {L p s : Nat} (hL : L < 200) (h26 : M.1 50 26 = nI L) (hN : Nt M L p s) (hs : 1 ≤ s) (v1 v2 v3 : Int32) : ∃ N, f_X12_notes 50 v1 v2 v3 M = some N ∧ Fm M N ∧ N.1 50 27 = M.1 50 27 ∧ Nn M N L p v1 v2 (v3 - v2) := by
  unfold f_X12_notes
  simp only [zletE]
  rcases hN with h | ⟨h, h65, hp⟩
  · rw [if_pos h]
    exact ⟨M, rfl, Fm_rf M, rfl, Or.inl ⟨h, rfl, rfl, rfl, rfl⟩⟩
  · have e22 : zr 50 22 = 65 := by decide +kernel
    have e19 : zr 50 19 = 62 := by decide +kernel
    have e20 : zr 50 20 = 63 := by decide +kernel
    have e21 : zr 50 21 = 64 := by decide +kernel
    have zL : zin (nI L) (zn 65) = true := by rw [show zn 65 = 200 by decide +kernel]; exact zin_t hL (by omega)
    have ei : 21 * nI L + nI p = nI (21 * L + p) := by rw [show (21 : Int32) = nI 21 from rfl, nI_mul, nJ_add]
    have z2 : zin (nI (21 * L + p)) (zn 62) = true := by rw [show zn 62 = 4200 by decide +kernel]; exact zin_t (by omega) (by omega)
    have z3 : zin (nI (21 * L + p)) (zn 63) = true := by rw [show zn 63 = 4200 by decide +kernel]; exact zin_t (by omega) (by omega)
    have z4 : zin (nI (21 * L + p)) (zn 64) = true := by rw [show zn 64 = 4200 by decide +kernel]; exact zin_t (by omega) (by omega)
    rw [if_neg (by rw [h]; decide), e22, e19, e20, e21, h26, nI_tn (by omega), h65, ei, zckT zL, zckT z2, zckT z3, zckT z4, nI_tn (by omega), zi_ne (a := 64) (b := 50) (by decide), zi_ne (a := 63) (b := 50) (by decide), zi_ne (a := 62) (b := 50) (by decide), h26, zckT zL, zckT zL, nI_tn (by omega), zi_ne (a := 64) (b := 65) (by decide), zi_ne (a := 63) (b := 65) (by decide), zi_ne (a := 62) (b := 65) (by decide), h65, nI_s]
    refine ⟨_, rfl, ⟨rfl, fun b hb => ?_, fun k hk => ?_⟩, ?_, Or.inr ⟨h, zi_eq, ?_, ?_, ?_, fun k hk => ⟨?_, ?_, ?_⟩, fun k hk => ?_⟩⟩
    · have t : ∀ c, c ∈ [50, 62, 63, 64, 65] → b ≠ c := fun c hc e => hb (e ▸ hc)
      funext k
      rw [zi_ne (t 65 (by decide)), zi_ne (t 64 (by decide)), zi_ne (t 63 (by decide)), zi_ne (t 62 (by decide))]
    · rw [zi_ne (by decide), zi_ne (by decide), zi_ne (by decide), zi_ne (by decide)]
    · rw [zi_ne (by decide), zi_ne (by decide), zi_ne (by decide), zi_ne (by decide)]
    · rw [zi_ne (by decide), zi_ne (by decide), zi_ne (by decide), zi_eq]
    · rw [zi_ne (by decide), zi_ne (by decide), zi_eq]
    · rw [zi_ne (by decide), zi_eq]
    · rw [zi_ne (by decide), zi_ne (by decide), zi_ne (by decide), zi_k hk]
    · rw [zi_ne (by decide), zi_ne (by decide), zi_k hk, zi_ne (by decide)]
    · rw [zi_ne (by decide), zi_k hk, zi_ne (by decide), zi_ne (by decide)]
    · rw [zi_k hk, zi_ne (by decide), zi_ne (by decide), zi_ne (by decide)]
theorem run_front {ws : List Int32} (hl : ws.length ≤ 21) {M : ZM} (hE : EV ws M) {i j r : Nat} (hij : i < j) (hq : j ≤ ws.length) (hr : r < Fy ws i j) (d : Nat) (v5 v6 v7 v8 : Int32) : f_X12_meansRun (d + 1) 50 (nI i) (nI j) (lN r) v5 v6 v7 v8 M =
    (if (nI j - nI i) = 1 then (
      (f_X12_notes 50 0 (nI i) (nI j) M).bind fun (q49 : ZM) =>
      if (nI i) = (q49.1 50 28) then (
        if (q49.1 50 31) = 0 then (
          some ((0 : Int64), q49)) else (
          some ((4294967295 : Int64), q49))) else (
        zck (zin (nI i) (zn (zr 50 1))) <|
        zck (zin ((q49.1 (zr 50 1) (nI i).toNatClampNeg) - 97) (zn (zr 50 32))) <|
        some ((q49.2 (zr 50 32) ((q49.1 (zr 50 1) (nI i).toNatClampNeg) - 97).toNatClampNeg), q49))) else (
      zck (zin (nI i) (zn (zr 50 1))) <|
      if (M.1 (zr 50 1) (nI i).toNatClampNeg) = 33 then (
        (f_X12_notes 50 1 (nI i) (nI j) M).bind fun (q47 : ZM) =>
        if (nI j) = v8 then (
          (f_X12_meansRun d 50 (nI i + 1) (nI j) (lN r) v5 v6 1 v8 (f_X12_breaks 50 0 1 q47)).bind fun (q15 : (Int64 × ZM)) =>
    some (((q15.1 ^^^ (-1)) &&& 4294967295), q15.2)) else (
          (f_X12_meansRun d 50 (nI i + 1) (nI j) (lN r) v5 v6 1 v8 (f_X12_breaks 50 1 1 q47)).bind fun (q15 : (Int64 × ZM)) =>
    some (((q15.1 ^^^ (-1)) &&& 4294967295), q15.2))) else (
        (f_X12_notes 50 2 (nI i) (nI j) M).bind fun (q45 : ZM) =>
        (f_X12_meansRun d 50 (nI i + 1) (nI j - 1) (lN r) 0 0 0 (nI j - 1) q45).bind fun (q46 : (Int64 × ZM)) =>
        some (q46.1, q46.2)))) := by
  have hF := Fy_le (ws := ws) hij (by omega)
  have hN := Ny_lt (ws := ws) (i := i) (j := j) (by omega)
  rw [f_X12_meansRun]
  simp only [zletE]
  rw [first_ok hl hij hq hE.1 (fun a b hab _ hb => hE.2.1 a b hab hb), bindE, if_neg (by rw [lc_ge (by omega) (by omega)]; omega)]
theorem mr164 {ws : List Int32} (hl : ws.length ≤ 21) {M : ZM} (hE : EV ws M) {i j : Nat} (hij : i < j) (hq : j ≤ ws.length) (v5 v6 v7 v8 : Int32) (K : Int64 → Int32 → ZM → Option (Int64 × ZM)) : ∀ c place fuel l, place + c = j - 1 → i < place → c < fuel → l < 1073741824 → l < sm (hj ws i j) place c → f_X12_meansRun_164 50 (nI i) (nI j) v5 v6 v7 v8 K fuel (lN l) (nI place) M = K (lN (pk (hj ws i j) place c l).2) (nI (pk (hj ws i j) place c l).1) M := by
  intro c
  induction c with
  | zero =>
    intro place fuel l hc hip hf hl' hs'
    rw [sm] at hs'
    omega
  | succ c ih =>
    intro place fuel l hc hip hf hl' hs'
    obtain ⟨fuel, rfl⟩ : ∃ m, fuel = m + 1 := ⟨fuel - 1, by omega⟩
    rw [f_X12_meansRun_164]
    simp only [zletE]
    rw [zckT (zwd_in (by omega)), zwd_at hl hE.1 (by omega), rk, pk]
    rw [sm] at hs'
    by_cases q : jn (wa ws place) = true
    · have e : hj ws i j place = Ny ws i place * Ny ws (place + 1) j := by unfold hj hjg; rw [if_pos q]
      have hb := hj_le (ws := ws) (i := i) (j := j) (k := place) hip (by omega) (by omega)
      have hN := Ny_lt (ws := ws) (i := i) (j := j) (by omega)
      rw [if_pos q, if_neg (jn_pos q).2.2, nI_s, ways_ok (by omega), bindE, ways_ok (by omega), bindE, hE.2.1 i place hip (by omega), hE.2.1 (place + 1) j (by omega) hq, lN_mul, ← e]
      by_cases r : l < hj ws i j place
      · rw [if_pos r, if_pos (by rw [lc_lt (by omega) (by omega)]; exact r)]
      · rw [if_neg r, if_neg (by rw [lc_lt (by omega) (by omega)]; exact r), zckT (zwd_in (by omega)), if_pos (jn_pos q).2.1, bindE, bindE, lN_mul, ← e, lN_sub (by omega), ih (place + 1) fuel _ (by omega) (by omega) (by omega) (by omega) (by omega)]
    · have e : hj ws i j place = 0 := by unfold hj hjg; rw [if_neg q]
      rw [if_neg q, if_pos (by decide), zckT (zwd_in (by omega)), if_neg (by decide), e, if_neg (by omega), Nat.sub_zero, Int64.sub_zero, nI_s]
      exact ih (place + 1) fuel l (by omega) (by omega) (by omega) (by omega) (by omega)
theorem run_join {ws : List Int32} (hl : ws.length ≤ 21) {M M1 : ZM} (hE : EV ws M) {i j r k l : Nat} (hij : i < j) (hq : j ≤ ws.length) (hr : Fy ws i j ≤ r) (hrN : r < Ny ws i j) (hpk : pk (hj ws i j) (i + 1) (j - i - 2) (r - Fy ws i j) = (k, l)) (hk1 : i < k) (hk2 : k + 1 < j) (hlt : l < hj ws i j k) (hn : f_X12_notes 50 (kd (wa ws k)) (nI i) (nI j) M = some M1) (h2 : M1.2 = M.2) (d : Nat) (v5 v7 v8 : Int32) (A : Bool) : f_X12_meansRun (d + 1) 50 (nI i) (nI j) (lN r) v5 (bi A) v7 v8 M =
    (f_X12_meansRun d 50 (nI i) (nI k) (lN (l / Ny ws (k + 1) j)) v5 (bi (A || decide (kd (wa ws k) = 3))) 0 v8 (f_X12_breaks 50 (bi (A && decide (kd (wa ws k) ≠ 3))) 3 (f_X12_breaks 50 v5 2 (f_X12_breaks 50 v7 0 M1)))).bind fun (q5 : (Int64 × ZM)) =>
    (f_X12_meansRun d 50 (nI (k + 1)) (nI j) (lN (l % Ny ws (k + 1) j)) 1 (bi (A || decide (kd (wa ws k) = 3))) 0 v8 q5.2).bind fun (q1 : (Int64 × ZM)) =>
    if kd (wa ws k) = 3 then (
      some ((q5.1 &&& q1.1), q1.2)) else (
      if kd (wa ws k) = 4 then (
        some ((q5.1 ||| q1.1), q1.2)) else (
        if kd (wa ws k) = 5 then (
          some ((((q5.1 ^^^ (-1)) &&& 4294967295) ||| q1.1), q1.2)) else (
          some (((q5.1 &&& (q1.1 ^^^ (-1))) &&& 4294967295), q1.2)))) := by
  have hN := Ny_lt (ws := ws) (i := i) (j := j) (by omega)
  have hN2 := Ny_lt (ws := ws) (i := k + 1) (j := j) (by omega)
  have hNe := Ny_eq (ws := ws) hij (by omega)
  have hp2 := hj_pos (Nat.lt_of_le_of_lt (Nat.zero_le _) hlt)
  have hjl := hj_le (ws := ws) hk1 hk2 (by omega)
  have hlt2 := hlt
  rw [hp2.2] at hlt2
  have hpos : 0 < Ny ws (k + 1) j := by
    apply Nat.pos_of_ne_zero
    intro z
    rw [z, Nat.mul_zero] at hlt2; omega
  have hw : ∀ v, f_X12_waysOf 50 (nI (k + 1)) (nI j) (f_X12_breaks 50 v 3 (f_X12_breaks 50 v5 2 (f_X12_breaks 50 v7 0 M1))) = some (lN (Ny ws (k + 1) j)) := by
    intro v
    rw [ways_ok (by omega), br_2, br_2, br_2, h2, hE.2.1 (k + 1) j hk2 hq]
  have loop := fun K => mr164 hl hE hij hq v5 (bi A) v7 v8 K (j - i - 2) (i + 1) zN (r - Fy ws i j) (by omega) (by omega) (by unfold zN; omega) (by omega) (by omega)
  rw [hpk] at loop
  rw [f_X12_meansRun]
  simp only [zletE]
  rw [first_ok hl hij hq hE.1 (fun a b hab _ hb => hE.2.1 a b hab hb), bindE, if_pos (by rw [lc_ge (by omega) (by omega)]; omega), lN_sub hr, nI_s, loop]
  simp only []
  rw [zckT (zwd_in (by omega)), zwd_at hl hE.1 (by omega), rk, if_pos hp2.1, hn, bindE, nI_s]
  cases A with
  | false =>
    rw [show bi false = 0 from rfl, if_pos rfl]
    simp only [hw, bindE, Bool.false_and, Bool.false_or]
    rw [show bi false = 0 from rfl, zckT (znz_lN (by omega) hpos), if_pos trivial, lN_div (by omega) (by omega)]
    by_cases h3 : kd (wa ws k) = 3
    · rw [if_pos h3, decide_eq_true h3, show bi true = 1 from rfl]
      congr 1
      funext q5
      rw [zckT (znz_lN (by omega) hpos), if_pos trivial, if_pos h3, ← lN_div (by omega) (by omega), lN_mod (by omega) (by omega)]
    · rw [if_neg h3, decide_eq_false h3, show bi false = 0 from rfl]
      congr 1
      funext q5
      rw [zckT (znz_lN (by omega) hpos), if_pos trivial, if_neg h3, ← lN_div (by omega) (by omega), lN_mod (by omega) (by omega)]
  | true =>
    rw [show bi true = 1 from rfl, if_neg (by decide)]
    simp only [hw, bindE, Bool.true_and, Bool.true_or]
    by_cases h3 : kd (wa ws k) = 3
    · rw [if_pos h3, decide_eq_false (fun z => z h3), show bi false = 0 from rfl, show bi true = 1 from rfl, zckT (znz_lN (by omega) hpos), if_neg (by decide), lN_div (by omega) (by omega)]
      congr 1
      funext q5
      rw [zckT (znz_lN (by omega) hpos), if_neg (by decide), ← lN_div (by omega) (by omega), lN_mod (by omega) (by omega)]
    · rw [if_neg h3, decide_eq_true h3, show bi true = 1 from rfl, zckT (znz_lN (by omega) hpos), if_neg (by decide), lN_div (by omega) (by omega)]
      congr 1
      funext q5
      rw [zckT (znz_lN (by omega) hpos), if_neg (by decide), ← lN_div (by omega) (by omega), lN_mod (by omega) (by omega)]
theorem or4 (x a b c p q : Int32) : ((((x ||| a) ||| b) ||| c) ||| p) ||| q = x ||| (((((a ||| b) ||| c) ||| p)) ||| q) := by
  rw [Int32.or_assoc x a, Int32.or_assoc x (a ||| b), Int32.or_assoc x (a ||| b ||| c), Int32.or_assoc x (a ||| b ||| c ||| p)]
theorem run_ok {ws : List Int32} (hl : ws.length ≤ 21) {L : Nat} (hL : L < 200) : ∀ t d i j r p q R A N M, ln t ≤ d → Rd ws i j r t → r < Ny ws i j → i < j → j ≤ ws.length → EV ws M → M.1 50 26 = nI L → Nt M L p (sz t) → q ≤ 21 → ∃ P, f_X12_meansRun d 50 (nI i) (nI j) (lN r) (bi R) (bi A) (bi N) (nI q) M = some (mn (evM ws M) ws i t, P) ∧ P.1 50 27 = M.1 50 27 ||| mb ws q i R A N t ∧ Fm M P ∧ Np ws M P L p i t := by
  intro t
  induction t with
  | var c =>
    intro d i j r p q R A N M hd hR hr hij hq hE h26 hNt hqq
    simp only [ln] at hd
    obtain ⟨d, rfl⟩ : ∃ m, d = m + 1 := ⟨d - 1, by omega⟩
    have hF := hR.1
    have hj1 : j = i + 1 := by
      rw [Fy_0 hR.2] at hF
      by_cases z : j = i + 1
      · exact z
      · rw [if_neg z] at hF; omega
    obtain ⟨P, eP, hFm, h27, hNn⟩ := notes_ok hL h26 hNt (sz_pos _) 0 (nI i) (nI j)
    rw [run_front hl hE hij hq hF, nI_sub (by omega), if_pos (by rw [show (1 : Int32) = nI 1 from rfl, nI_inj (by omega) (by omega)]; omega), eP, bindE]
    have hEP := EV_Fm hFm hE
    have hmb : mb ws q i R A N (.var c) = 0 := by show bw false false false false = 0; decide
    have hNp : Np ws M P L p i (.var c) := by
      rcases hNn with h | ⟨h1, h2, h3, h4, h5, h6, h7⟩
      · exact Or.inl h
      · refine Or.inr ⟨h1, h2, ⟨h3, h4, ?_⟩, fun k hk => h6 k (by omega), h7⟩
        show P.1 64 (21 * L + p) = nI 1
        rw [h5, nI_sub (by omega), show j - i = 1 by omega]
    have hmn : mn (evM ws M) ws i (.var c) = evM ws P i := by rw [evM_Fm hFm]; rfl
    rw [hmn]
    refine ⟨P, ?_, by rw [h27, hmb, Int32.or_zero], hFm, hNp⟩
    unfold evM
    by_cases z : nI i = P.1 50 28
    · rw [if_pos z, if_pos z]
      split <;> rfl
    · rw [if_neg z, if_neg z, zckT (zwd_in (by omega)), zwd_at hl hEP.1 (by omega), show zr 50 32 = 69 by decide +kernel, show zn 69 = 5 by decide +kernel]
      unfold lv f_X11_casesOf
      have h0 : ∃ m, m < 5 ∧ wa ws i - 97 = nI m := by
        rcases kd0.mp hR.2 with e | e | e | e | e <;> rw [e]
        · exact ⟨0, by omega, by decide +kernel⟩
        · exact ⟨1, by omega, by decide +kernel⟩
        · exact ⟨2, by omega, by decide +kernel⟩
        · exact ⟨3, by omega, by decide +kernel⟩
        · exact ⟨4, by omega, by decide +kernel⟩
      obtain ⟨m, hm, em⟩ := h0
      rw [em, zckT (zin_t hm (by omega)), if_pos (zin_t hm (by omega)), nI_tn (by omega), hEP.2.2 m hm]
  | neg a ih =>
    intro d i j r p q R A N M hd hR hr hij hq hE h26 hNt hqq
    simp only [ln] at hd
    obtain ⟨d, rfl⟩ : ∃ m, d = m + 1 := ⟨d - 1, by omega⟩
    have hsp := Rd_sp _ i j r hij hq hR
    have hla := ln_pos a
    simp only [ln] at hsp
    have h33 := kd1.mp hR.2.1
    obtain ⟨P, eP, hFm, h27, hNn⟩ := notes_ok hL h26 hNt (sz_pos _) 1 (nI i) (nI j)
    have hF := hR.1
    have hF2 : r < Ny ws (i + 1) j := by rw [← Fy_1 hR.2.1]; exact hF
    have hb : (if (nI j) = nI q then (
          (f_X12_meansRun d 50 (nI i + 1) (nI j) (lN r) (bi R) (bi A) 1 (nI q) (f_X12_breaks 50 0 1 P)).bind fun (q15 : (Int64 × ZM)) =>
    some (((q15.1 ^^^ (-1)) &&& 4294967295), q15.2)) else (
          (f_X12_meansRun d 50 (nI i + 1) (nI j) (lN r) (bi R) (bi A) 1 (nI q) (f_X12_breaks 50 1 1 P)).bind fun (q15 : (Int64 × ZM)) =>
    some (((q15.1 ^^^ (-1)) &&& 4294967295), q15.2))) = (f_X12_meansRun d 50 (nI (i + 1)) (nI j) (lN r) (bi R) (bi A) (bi true) (nI q) (f_X12_breaks 50 (bi (decide (j ≠ q))) 1 P)).bind fun (q15 : (Int64 × ZM)) =>
    some (((q15.1 ^^^ (-1)) &&& 4294967295), q15.2) := by
      rw [nI_s]
      by_cases z : j = q
      · rw [if_pos (by rw [z]), decide_eq_false (fun y => y z)]; rfl
      · rw [if_neg (by rw [nI_inj (by omega) (by omega)]; exact z), decide_eq_true z]; rfl
    rw [run_front hl hE hij hq hF, nI_sub (by omega), if_neg (by rw [show (1 : Int32) = nI 1 from rfl, nI_inj (by omega) (by omega)]; omega), zckT (zwd_in (by omega)), zwd_at hl hE.1 (by omega), if_pos h33, eP, bindE, hb, breaks_ok, bk1]
    have hFm2 : Fm M (zi P 50 27 (P.1 50 27 ||| bw false (decide (j ≠ q)) false false)) := Fm_tr hFm (Fm_27 P _)
    have hsa := sz_pos a
    have hNt2 : Nt (zi P 50 27 (P.1 50 27 ||| bw false (decide (j ≠ q)) false false)) L (p + 1) (sz a) := by
      unfold Nt
      rw [zi_k (by decide), zi_ne (by decide), hFm.2.2 30 (by decide)]
      rcases hNn with h | ⟨h1, h2, _⟩
      · exact Or.inl h.1
      · rcases hNt with y | y
        · exact Or.inl y
        · refine Or.inr ⟨h1, h2, ?_⟩
          have := y.2.2
          simp only [sz] at this
          omega
    obtain ⟨Q, eQ, q27, qFm, qNp⟩ := ih d (i + 1) j r (p + 1) q R A true _ (by omega) hR.2.2 hF2 (by omega) hq (EV_Fm hFm2 hE) (by rw [hFm2.2.2 26 (by decide)]; exact h26) hNt2 hqq
    rw [eQ, bindE, evM_Fm hFm2]
    refine ⟨Q, ?_, ?_, Fm_tr hFm2 qFm, ?_⟩
    · rw [mn, Int64.and_comm]
    · rw [q27, zi_eq, h27, Int32.or_assoc]
      congr 1
      unfold mb
      rw [bw_or, m0, m1, m2, m3, Bool.false_or, Bool.false_or, Bool.false_or, show i + ln a + 1 = j by omega]
    · have e30 : (zi P 50 27 (P.1 50 27 ||| bw false (decide (j ≠ q)) false false)).1 50 30 = M.1 50 30 := hFm2.2.2 30 (by decide)
      rcases hNn with h | ⟨h1, h2, h3, h4, h5, h6, h7⟩
      · rcases qNp with y | y
        · refine Or.inl ⟨h.1, ?_⟩
          have y2 := y.2
          exact ⟨y2.1.trans h.2.1, y2.2.1.trans h.2.2.1, y2.2.2.1.trans h.2.2.2.1, y2.2.2.2.trans h.2.2.2.2⟩
        · rw [e30, h.1] at y; exact absurd y.1 (by decide)
      · rcases qNp with y | ⟨y1, y2, y3, y4, y5⟩
        · rw [e30, h1] at y; exact absurd y.1 (by decide)
        · have y4p := y4 (21 * L + p) (by omega)
          refine Or.inr ⟨h1, ?_, ⟨?_, ?_, ?_, y3⟩, fun k hk => ?_, fun k hk => ?_⟩
          · rw [y2, show p + sz (.neg a) = p + 1 + sz a by simp only [sz]; omega]
          · exact y4p.1.trans h3
          · exact y4p.2.1.trans h4
          · refine (y4p.2.2.trans h5).trans ?_
            rw [nI_sub (by omega), show j - i = ln a + 1 by omega]
          · have t1 := y4 k (by omega)
            have t2 := h6 k (by omega)
            exact ⟨t1.1.trans t2.1, t1.2.1.trans t2.2.1, t1.2.2.trans t2.2.2⟩
          · exact (y5 k hk).trans (h7 k hk)
  | pow a kk ih =>
    intro d i j r p q R A N M hd hR hr hij hq hE h26 hNt hqq
    simp only [ln] at hd
    obtain ⟨d, rfl⟩ : ∃ m, d = m + 1 := ⟨d - 1, by omega⟩
    have hsp := Rd_sp _ i j r hij hq hR
    have hla := ln_pos a
    simp only [ln] at hsp
    have h40 := kd2.mp hR.2.1
    obtain ⟨P, eP, hFm, h27, hNn⟩ := notes_ok hL h26 hNt (sz_pos _) 2 (nI i) (nI j)
    have hF := hR.1
    have hF2 : r < Ny ws (i + 1) (j - 1) := by
      rw [Fy_2 hR.2.1] at hF
      split at hF
      · exact hF
      · omega
    rw [run_front hl hE hij hq hF, nI_sub (by omega), if_neg (by rw [show (1 : Int32) = nI 1 from rfl, nI_inj (by omega) (by omega)]; omega), zckT (zwd_in (by omega)), zwd_at hl hE.1 (by omega), if_neg (by rw [h40]; decide), eP, bindE, nI_s, nI_p (by omega)]
    have hsa := sz_pos a
    have hNt2 : Nt P L (p + 1) (sz a) := by
      unfold Nt
      rw [hFm.2.2 30 (by decide)]
      rcases hNn with h | ⟨h1, h2, _⟩
      · exact Or.inl h.1
      · rcases hNt with y | y
        · exact Or.inl y
        · refine Or.inr ⟨h1, h2, ?_⟩
          have := y.2.2
          simp only [sz] at this
          omega
    obtain ⟨Q, eQ, q27, qFm, qNp⟩ := ih d (i + 1) (j - 1) r (p + 1) (j - 1) false false false P (by omega) hR.2.2 hF2 (by omega) (by omega) (EV_Fm hFm hE) (by rw [hFm.2.2 26 (by decide)]; exact h26) hNt2 (by omega)
    rw [show bi false = 0 from rfl] at eQ
    rw [eQ, bindE, evM_Fm hFm]
    refine ⟨Q, rfl, ?_, Fm_tr hFm qFm, ?_⟩
    · rw [q27, h27]
      congr 1
      unfold mb
      rw [m0, m1, m2, m3, show i + 1 + ln a = j - 1 by omega]
    · have e30 : P.1 50 30 = M.1 50 30 := hFm.2.2 30 (by decide)
      rcases hNn with h | ⟨h1, h2, h3, h4, h5, h6, h7⟩
      · rcases qNp with y | y
        · refine Or.inl ⟨h.1, ?_⟩
          have y2 := y.2
          exact ⟨y2.1.trans h.2.1, y2.2.1.trans h.2.2.1, y2.2.2.1.trans h.2.2.2.1, y2.2.2.2.trans h.2.2.2.2⟩
        · rw [e30, h.1] at y; exact absurd y.1 (by decide)
      · rcases qNp with y | ⟨y1, y2, y3, y4, y5⟩
        · rw [e30, h1] at y; exact absurd y.1 (by decide)
        · have y4p := y4 (21 * L + p) (by omega)
          refine Or.inr ⟨h1, ?_, ⟨?_, ?_, ?_, y3⟩, fun k hk => ?_, fun k hk => ?_⟩
          · rw [y2, show p + sz (.pow a kk) = p + 1 + sz a by simp only [sz]; omega]
          · exact y4p.1.trans h3
          · exact y4p.2.1.trans h4
          · refine (y4p.2.2.trans h5).trans ?_
            rw [nI_sub (by omega), show j - i = ln a + 2 by omega]
          · have t1 := y4 k (by omega)
            have t2 := h6 k (by omega)
            exact ⟨t1.1.trans t2.1, t1.2.1.trans t2.2.1, t1.2.2.trans t2.2.2⟩
          · exact (y5 k hk).trans (h7 k hk)
  | add a b iha ihb =>
    intro d i j r p q R A N M hd hR hr hij hq hE h26 hNt hqq
    simp only [ln] at hd
    obtain ⟨d, rfl⟩ : ∃ m, d = m + 1 := ⟨d - 1, by omega⟩
    have la := ln_pos a
    have lb' := ln_pos b
    have sa := sz_pos a
    have sb := sz_pos b
    obtain ⟨hF, k, l, hpk, hk1, hk2, hlt, ha, hbb⟩ := hR
    have hspa := Rd_sp _ i k _ hk1 (by omega) ha
    have hspb := Rd_sp _ (k + 1) j _ hk2 hq hbb
    have hp2 := hj_pos (Nat.lt_of_le_of_lt (Nat.zero_le _) hlt)
    have hlt2 := hlt
    rw [hp2.2] at hlt2
    have hpos : 0 < Ny ws (k + 1) j := by
      apply Nat.pos_of_ne_zero
      intro z
      rw [z, Nat.mul_zero] at hlt2; omega
    obtain ⟨P, eP, hFm, h27, hNn⟩ := notes_ok hL h26 hNt (sz_pos _) (kd (wa ws k)) (nI i) (nI j)
    rw [run_join hl hE hij hq hF hr hpk hk1 hk2 hlt eP hFm.1, breaks_ok, breaks_ok, breaks_ok, bk0, bk2, bk3]
    obtain ⟨P2, hP2⟩ : ∃ P2, P2 = zi (zi (zi P 50 27 (P.1 50 27 ||| bw N false false false)) 50 27 ((zi P 50 27 (P.1 50 27 ||| bw N false false false)).1 50 27 ||| bw false false R false)) 50 27 ((zi (zi P 50 27 (P.1 50 27 ||| bw N false false false)) 50 27 ((zi P 50 27 (P.1 50 27 ||| bw N false false false)).1 50 27 ||| bw false false R false)).1 50 27 ||| bw false false false (A && decide (kd (wa ws k) ≠ 3))) := ⟨_, rfl⟩
    rw [← hP2]
    have hPP : Fm P P2 := by rw [hP2]; exact Fm_tr (Fm_tr (Fm_27 _ _) (Fm_27 _ _)) (Fm_27 _ _)
    have hFm2 : Fm M P2 := Fm_tr hFm hPP
    have hNs : Ns P P2 := by
      rw [hP2]
      exact ⟨by funext x; rw [zi_ne (by decide), zi_ne (by decide), zi_ne (by decide)], by funext x; rw [zi_ne (by decide), zi_ne (by decide), zi_ne (by decide)], by funext x; rw [zi_ne (by decide), zi_ne (by decide), zi_ne (by decide)], by funext x; rw [zi_ne (by decide), zi_ne (by decide), zi_ne (by decide)]⟩
    have h227 : P2.1 50 27 = ((M.1 50 27 ||| bw N false false false) ||| bw false false R false) ||| bw false false false (A && decide (kd (wa ws k) ≠ 3)) := by
      rw [hP2, zi_eq, zi_eq, zi_eq, h27]
    have e30 : P2.1 50 30 = M.1 50 30 := hFm2.2.2 30 (by decide)
    have hNt2 : Nt P2 L (p + 1) (sz a) := by
      unfold Nt
      rw [e30, hNs.2.2.2]
      rcases hNn with h | ⟨h1, h2, _⟩
      · exact Or.inl h.1
      · rcases hNt with y | y
        · exact Or.inl y
        · refine Or.inr ⟨h1, h2, ?_⟩
          have := y.2.2
          simp only [sz] at this
          omega
    obtain ⟨Q, eQ, q27, qFm, qNp⟩ := iha d i k (l / Ny ws (k + 1) j) (p + 1) q R (A || decide (kd (wa ws k) = 3)) false P2 (by omega) ha (Nat.div_lt_of_lt_mul (by rw [Nat.mul_comm]; exact hlt2)) hk1 (by omega) (EV_Fm hFm2 hE) (by rw [hFm2.2.2 26 (by decide)]; exact h26) hNt2 hqq
    rw [show bi false = 0 from rfl] at eQ
    rw [eQ, bindE]
    have hFm3 := Fm_tr hFm2 qFm
    have e30q : Q.1 50 30 = M.1 50 30 := hFm3.2.2 30 (by decide)
    have hNt3 : Nt Q L (p + 1 + sz a) (sz b) := by
      unfold Nt
      rw [e30q]
      rcases hNt with y | y
      · exact Or.inl y
      · refine Or.inr ⟨y.1, ?_, ?_⟩
        · rcases qNp with z | z
          · rw [e30, y.1] at z; exact absurd z.1 (by decide)
          · exact z.2.1
        · have := y.2.2
          simp only [sz] at this
          omega
    obtain ⟨S, eS, s27, sFm, sNp⟩ := ihb d (k + 1) j (l % Ny ws (k + 1) j) (p + 1 + sz a) q true (A || decide (kd (wa ws k) = 3)) false Q (by omega) hbb (Nat.mod_lt _ hpos) hk2 hq (EV_Fm hFm3 hE) (by rw [hFm3.2.2 26 (by decide)]; exact h26) hNt3 hqq
    rw [show bi false = 0 from rfl, show bi true = 1 from rfl] at eS
    simp only []
    rw [eS, bindE, evM_Fm hFm3, evM_Fm hFm2]
    simp only []
    have hm := jm_m (c := kd (wa ws k)) (mn_msk (ws := ws) (evM_msk ws M) a i) (mn_msk (ws := ws) (evM_msk ws M) b (k + 1))
    refine ⟨S, ?_, ?_, Fm_tr hFm3 sFm, ?_⟩
    · rw [mn, show i + ln a = k by omega, ← hm]
      split
      · rfl
      · split
        · rfl
        · split <;> rfl
    · rw [s27, q27, h227, or4]
      congr 1
      unfold mb
      rw [bw_or, bw_or, bw_or, bw_or, m0, m1, m2, m3, show i + ln a = k by omega]
      simp only [Bool.false_or, Bool.or_false]
    · rcases hNn with h | ⟨h1, h2, h3, h4, h5, h6, h7⟩
      · rcases qNp with y | y
        · rcases sNp with z | z
          · refine Or.inl ⟨h.1, ?_⟩
            have y2 := y.2
            have z2 := z.2
            exact ⟨z2.1.trans (y2.1.trans (hNs.1.trans h.2.1)), z2.2.1.trans (y2.2.1.trans (hNs.2.1.trans h.2.2.1)), z2.2.2.1.trans (y2.2.2.1.trans (hNs.2.2.1.trans h.2.2.2.1)), z2.2.2.2.trans (y2.2.2.2.trans (hNs.2.2.2.trans h.2.2.2.2))⟩
          · rw [e30q, h.1] at z; exact absurd z.1 (by decide)
        · rw [e30, h.1] at y; exact absurd y.1 (by decide)
      · rcases qNp with y | ⟨y1, y2, y3, y4, y5⟩
        · rw [e30, h1] at y; exact absurd y.1 (by decide)
        · rcases sNp with z | ⟨z1, z2, z3, z4, z5⟩
          · rw [e30q, h1] at z; exact absurd z.1 (by decide)
          · have y4p := y4 (21 * L + p) (by omega)
            have z4p := z4 (21 * L + p) (by omega)
            rw [hNs.1, hNs.2.1, hNs.2.2.1] at y4p
            refine Or.inr ⟨h1, ?_, ⟨?_, ?_, ?_, ?_, ?_⟩, fun x hx => ?_, fun x hx => ?_⟩
            · rw [z2, show p + sz (.add a b) = p + 1 + sz a + sz b by simp only [sz]; omega]
            · refine (z4p.1.trans (y4p.1.trans h3)).trans ?_
              rw [show i + ln a = k by omega]
            · exact z4p.2.1.trans (y4p.2.1.trans h4)
            · refine (z4p.2.2.trans (y4p.2.2.trans h5)).trans ?_
              rw [nI_sub (by omega), show j - i = ln a + ln b + 1 by omega]
            · exact AtM_congr a (p + 1) i y3 (fun m hm1 hm2 => z4 (21 * L + m) (by omega))
            · rw [show i + ln a + 1 = k + 1 by omega]; exact z3
            · have t1 := z4 x (by omega)
              have t2 := y4 x (by omega)
              have t3 := h6 x (by omega)
              rw [hNs.1, hNs.2.1, hNs.2.2.1] at t2
              exact ⟨t1.1.trans (t2.1.trans t3.1), t1.2.1.trans (t2.2.1.trans t3.2.1), t1.2.2.trans (t2.2.2.trans t3.2.2)⟩
            · have t2 := y5 x hx
              rw [hNs.2.2.2] at t2
              exact (z5 x hx).trans (t2.trans (h7 x hx))
  | _ =>
    intro d i j r p q R A N M hd hR
    exact False.elim hR
