theorem now_ok {ws : List Int32} (hl : ws.length ≤ 21) {L r : Nat} (hL : L < 200) (hr : r < Ny ws 0 ws.length) {M : ZM} (hE : EV ws M) (h26 : M.1 50 26 = nI L) (hNt : Nt M L 0 (sz (Tr ws r))) : ∃ P, f_X12_meansNow 50 (nI r) M = some (mn (evM ws M) ws 0 (Tr ws r), P) ∧ P.1 50 27 = M.1 50 27 ||| cb ws 0 (Tr ws r) ∧ Fm M P ∧ Np ws M P L 0 0 (Tr ws r) := by
  have h0 : 0 < ws.length := by
    apply Classical.byContradiction
    intro q
    rw [Ny_0 q] at hr; omega
  have hN := Ny_lt (ws := ws) (i := 0) (j := ws.length) (by omega)
  have hsp := Tr_sp hr hl
  obtain ⟨P, e, e27, hF, hP⟩ := run_ok hl hL (Tr ws r) zD 0 ws.length r 0 ws.length false false false M (by rw [hsp.2]; unfold zD; omega) (Tr_ok hr hl) hr h0 (Nat.le_refl _) hE h26 hNt hl
  unfold f_X12_meansNow
  rw [hE.1.1, nI_l (by omega)]
  rw [show bi false = 0 from rfl, nI0] at e
  rw [e, bindE]
  exact ⟨P, rfl, by rw [e27, mb_cb hsp.1 hsp.2], hF, hP⟩
theorem ob_s {f : Nat → Int32} {i : Nat} : ob f 0 (i + 1) = ob f 0 i ||| f i := by
  rw [ob_app, Nat.zero_add, ob, ob, Int32.or_zero]
theorem and_all_0 {x y : Int64} (hx : msk x) (hy : msk y) : (4294967295 &&& (x ^^^ y) = 0) ↔ x = y := by
  constructor
  · intro h
    apply lb_ext
    intro k hk
    have e := congrArg (fun z => lb z k) h
    simp only [lb_and, lb_xor, lb_all, lb_0] at e
    by_cases q : k < 32
    · rw [decide_eq_true q, Bool.true_and] at e
      cases hx' : lb x k <;> cases hy' : lb y k <;> rw [hx', hy'] at e <;> first | rfl | exact absurd e (by decide)
    · rw [hx k (by omega), hy k (by omega)]
  · rintro rfl
    apply lb_ext
    intro k hk
    simp only [lb_and, lb_xor, lb_0, Bool.xor_self, Bool.and_false]
/-- what the search for idle letters may change -/
def Fi (M N : ZM) : Prop := N.2 = M.2 ∧ (∀ b, b ≠ 50 → N.1 b = M.1 b) ∧ ∀ k, k ≠ 27 → k ≠ 28 → k ≠ 31 → N.1 50 k = M.1 50 k
theorem Fi_rf (M : ZM) : Fi M M := ⟨rfl, fun _ _ => rfl, fun _ _ _ _ => rfl⟩
theorem Fi_tr {M N P : ZM} (h : Fi M N) (h' : Fi N P) : Fi M P := ⟨h'.1.trans h.1, fun b hb => (h'.2.1 b hb).trans (h.2.1 b hb), fun k h1 h2 h3 => (h'.2.2 k h1 h2 h3).trans (h.2.2 k h1 h2 h3)⟩
theorem Fi_zi {M : ZM} {k : Nat} {v : Int32} (hk : k = 27 ∨ k = 28 ∨ k = 31) : Fi M (zi M 50 k v) := ⟨rfl, fun b hb => funext fun j => zi_ne hb, fun j h1 h2 h3 => zi_k (by omega)⟩
theorem Fi_of {M N : ZM} (h : Fm M N) (h2 : Ns M N) : Fi M N := by
  refine ⟨h.1, fun b hb => ?_, fun k h1 _ _ => h.2.2 k h1⟩
  by_cases q : b ∈ [50, 62, 63, 64, 65]
  · simp only [List.mem_cons, List.not_mem_nil, or_false] at q
    rcases q with q | q | q | q | q
    · exact absurd q hb
    · rw [q]; exact h2.1
    · rw [q]; exact h2.2.1
    · rw [q]; exact h2.2.2.1
    · rw [q]; exact h2.2.2.2
  · exact h.2.1 b q
theorem EV_Fi {ws : List Int32} {M N : ZM} (h : Fi M N) (e : EV ws M) : EV ws N := by
  refine ⟨⟨?_, fun k hk => ?_⟩, fun a b hab hb => ?_, fun m hm => ?_⟩
  · rw [h.2.2 10 (by decide) (by decide) (by decide)]; exact e.1.1
  · rw [h.2.1 52 (by decide)]; exact e.1.2 k hk
  · unfold Wm; rw [h.1]; exact e.2.1 a b hab hb
  · rw [h.1]; exact e.2.2 m hm
theorem evM_put {ws : List Int32} {M : ZM} {i : Nat} (hi : i ≤ 21) {v : Int32} : ∀ p, p ≤ 21 → evM ws (zi (zi M 50 28 (nI i)) 50 31 v) p = sv (lv ws) i (if v = 0 then 0 else 4294967295) p := by
  intro p hp
  unfold evM sv
  rw [zi_k (by decide), zi_eq, zi_eq]
  by_cases q : p = i
  · rw [if_pos (by rw [q]), if_pos q]
  · rw [if_neg (by rw [nI_inj (by omega) (by omega)]; exact q), if_neg q]
theorem evM_put0 {ws : List Int32} {Q : ZM} {i : Nat} (hi : i ≤ 21) (h28 : Q.1 50 28 = nI i) : ∀ p, p ≤ 21 → evM ws (zi Q 50 31 0) p = sv (lv ws) i 0 p := by
  intro p hp
  unfold evM sv
  rw [zi_k (by decide), zi_eq, h28]
  by_cases q : p = i
  · rw [if_pos (by rw [q]), if_pos q, if_pos rfl]
  · rw [if_neg (by rw [nI_inj (by omega) (by omega)]; exact q), if_neg q]
theorem idleIn4_ok {ws : List Int32} (hl : ws.length ≤ 21) {L r : Nat} (hL : L < 200) (hr : r < Ny ws 0 ws.length) (K : Int32 → ZM → Option (Int32 × ZM)) : ∀ c i fuel M, i + c = ws.length → c < fuel → EV ws M → M.1 50 26 = nI L → M.1 50 30 = 0 → ∃ N, f_X12_idleIn_4 50 (nI r) K fuel (ob (ib (lv ws) ws 0 (Tr ws r) 4294967295) 0 i) (nI i) M = K (Ix ws r) N ∧ Fi M N := by
  have hsp := Tr_sp hr hl
  intro c
  induction c with
  | zero =>
    intro i fuel M hi hf hE h26 h30
    obtain ⟨fuel, rfl⟩ : ∃ m, fuel = m + 1 := ⟨fuel - 1, by omega⟩
    rw [f_X12_idleIn_4, hE.1.1, if_pos (by rw [nI_le' (by omega) (by omega)]; omega)]
    refine ⟨M, ?_, Fi_rf M⟩
    unfold Ix
    rw [iw_ob (lv_msk ws) (Tr ws r) 0 hsp.1 _ msk_all, hsp.2, show i = ws.length by omega]
  | succ c ih =>
    intro i fuel M hi hf hE h26 h30
    obtain ⟨fuel, rfl⟩ : ∃ m, fuel = m + 1 := ⟨fuel - 1, by omega⟩
    rw [f_X12_idleIn_4, hE.1.1, if_neg (by rw [nI_le' (by omega) (by omega)]; omega)]
    simp only [zletE]
    rw [zckT (zwd_in (by omega)), zwd_at hl hE.1 (by omega), isLet, nI_s]
    by_cases h0 : kd (wa ws i) = 0
    · rw [if_pos h0, if_neg (by decide)]
      have g1 : Fi M (zi (zi M 50 28 (nI i)) 50 31 1) := Fi_tr (Fi_zi (by omega)) (Fi_zi (by omega))
      obtain ⟨P, eP, _, pF, pN⟩ := now_ok hl hL hr (EV_Fi g1 hE) (by rw [g1.2.2 26 (by decide) (by decide) (by decide)]; exact h26) (Or.inl (by rw [g1.2.2 30 (by decide) (by decide) (by decide)]; exact h30))
      have pS : Ns (zi (zi M 50 28 (nI i)) 50 31 1) P := by
        rcases pN with y | y
        · exact y.2
        · rw [g1.2.2 30 (by decide) (by decide) (by decide), h30] at y; exact absurd y.1 (by decide)
      have g2 := Fi_tr g1 (Fi_of pF pS)
      have g3 : Fi M (zi P 50 31 0) := Fi_tr g2 (Fi_zi (by omega))
      have P28 : P.1 50 28 = nI i := by
        rw [pF.2.2 28 (by decide), zi_k (by decide), zi_eq]
      rw [eP, bindE]
      simp only []
      obtain ⟨Q, eQ, _, qF, qN⟩ := now_ok hl hL hr (EV_Fi g3 hE) (by rw [g3.2.2 26 (by decide) (by decide) (by decide)]; exact h26) (Or.inl (by rw [g3.2.2 30 (by decide) (by decide) (by decide)]; exact h30))
      have qS : Ns (zi P 50 31 0) Q := by
        rcases qN with y | y
        · exact y.2
        · rw [g3.2.2 30 (by decide) (by decide) (by decide), h30] at y; exact absurd y.1 (by decide)
      have g4 := Fi_tr g3 (Fi_of qF qS)
      rw [eQ, bindE]
      simp only []
      have m1 : mn (evM ws (zi (zi M 50 28 (nI i)) 50 31 1)) ws 0 (Tr ws r) = mn (sv (lv ws) i 4294967295) ws 0 (Tr ws r) := mn_ev _ _ (fun p _ hp => by rw [evM_put (by omega) p (by omega), if_neg (by decide)])
      have m2 : mn (evM ws (zi P 50 31 0)) ws 0 (Tr ws r) = mn (sv (lv ws) i 0) ws 0 (Tr ws r) := mn_ev _ _ (fun p _ hp => evM_put0 (by omega) P28 p (by omega))
      rw [m1, m2]
      have hx := mn_msk (ws := ws) (sv_msk (q := i) (lv_msk ws) msk_all) (Tr ws r) 0
      have hy := mn_msk (ws := ws) (sv_msk (q := i) (lv_msk ws) msk_0) (Tr ws r) 0
      have hib : ib (lv ws) ws 0 (Tr ws r) 4294967295 i = if mn (sv (lv ws) i 4294967295) ws 0 (Tr ws r) = mn (sv (lv ws) i 0) ws 0 (Tr ws r) then 1 <<< (nI i &&& 31) else 0 := by
        unfold ib sn
        by_cases q : mn (sv (lv ws) i 4294967295) ws 0 (Tr ws r) = mn (sv (lv ws) i 0) ws 0 (Tr ws r)
        · rw [if_pos ⟨h0, (and_all_0 hx hy).mpr q⟩, if_pos q]
        · rw [if_neg (fun z => q ((and_all_0 hx hy).mp z.2)), if_neg q]
      obtain ⟨N, e, hF⟩ := ih (i + 1) fuel Q (by omega) (by omega) (EV_Fi g4 hE) (by rw [g4.2.2 26 (by decide) (by decide) (by decide)]; exact h26) (by rw [g4.2.2 30 (by decide) (by decide) (by decide)]; exact h30)
      rw [ob_s, hib] at e
      refine ⟨N, ?_, Fi_tr g4 hF⟩
      by_cases q : mn (sv (lv ws) i 4294967295) ws 0 (Tr ws r) = mn (sv (lv ws) i 0) ws 0 (Tr ws r)
      · rw [if_pos q] at e
        rw [if_pos (by rw [lg_cmp_eq]; exact q), e]
      · rw [if_neg q] at e
        rw [if_neg (by rw [lg_cmp_eq]; exact q), e]
    · rw [if_neg h0, if_pos rfl]
      obtain ⟨N, e, hF⟩ := ih (i + 1) fuel M (by omega) (by omega) hE h26 h30
      have hib : ib (lv ws) ws 0 (Tr ws r) 4294967295 i = 0 := by
        unfold ib
        rw [if_neg (fun z => h0 z.1)]
      rw [ob_s, hib, Int32.or_zero] at e
      exact ⟨N, e, hF⟩
theorem idleIn_ok {ws : List Int32} (hl : ws.length ≤ 21) {L r : Nat} (hL : L < 200) (hr : r < Ny ws 0 ws.length) {M : ZM} (hE : EV ws M) (h26 : M.1 50 26 = nI L) (h30 : M.1 50 30 = 0) : ∃ N, f_X12_idleIn 50 (nI r) M = some (Ix ws r, N) ∧ Fi M N ∧ N.1 50 28 = -9 := by
  unfold f_X12_idleIn
  simp only [zletE]
  obtain ⟨N, e, hF⟩ := idleIn4_ok hl hL hr (fun (v2 : Int32) (M : ZM) => some (v2, zi M 50 28 (-9))) ws.length 0 zN M (by omega) (by unfold zN; omega) hE h26 h30
  rw [nI0] at e
  exact ⟨_, e, Fi_tr hF (Fi_zi (by omega)), zi_eq⟩
/-- a reading in the list of the reference -/
def Rr (ws : List Int32) (M : ZM) (s : Nat) : Prop := M.1 65 s = nI (sz (Tr ws s)) ∧ AtB ws M s 0 0 (Tr ws s) ∧ M.2 68 s = Me ws s ∧ M.1 66 s = Mt ws s ∧ M.1 67 s = Ix ws s
def Fl (M N : ZM) : Prop := (∀ b, b ≠ 68 → N.2 b = M.2 b) ∧ (∀ b, b ∉ [50, 62, 63, 64, 65, 66, 67] → N.1 b = M.1 b) ∧ ∀ k, k ∉ [26, 27, 28, 30, 31] → N.1 50 k = M.1 50 k
theorem Fl_rf (M : ZM) : Fl M M := ⟨fun _ _ => rfl, fun _ _ => rfl, fun _ _ => rfl⟩
theorem Fl_tr {M N P : ZM} (h : Fl M N) (h' : Fl N P) : Fl M P := ⟨fun b hb => (h'.1 b hb).trans (h.1 b hb), fun b hb => (h'.2.1 b hb).trans (h.2.1 b hb), fun k hk => (h'.2.2 k hk).trans (h.2.2 k hk)⟩
theorem Fl_zi {M : ZM} {k : Nat} {v : Int32} (hk : k ∈ [26, 27, 28, 30, 31]) : Fl M (zi M 50 k v) := ⟨fun _ _ => rfl, fun b hb => funext fun j => zi_ne (fun e => hb (by rw [e]; decide)), fun j hj => zi_k (fun e => hj (e ▸ hk))⟩
theorem Fl_za {M : ZM} {a k : Nat} {v : Int32} (ha : a ∈ [62, 63, 64, 65, 66, 67]) : Fl M (zi M a k v) := ⟨fun _ _ => rfl, fun b hb => funext fun j => zi_ne (fun e => hb (List.mem_cons_of_mem _ (e ▸ ha))), fun j _ => zi_ne (fun e => absurd (e ▸ ha) (by decide))⟩
theorem Fl_zl {M : ZM} {k : Nat} {v : Int64} : Fl M (zl M 68 k v) := ⟨fun b hb => funext fun j => zl_ne hb, fun _ _ => rfl, fun _ _ => rfl⟩
theorem Fl_Fm {M N : ZM} (h : Fm M N) : Fl M N := ⟨fun b _ => by rw [h.1], fun b hb => h.2.1 b (fun q => hb (by simp only [List.mem_cons, List.not_mem_nil, or_false] at q ⊢; omega)), fun k hk => h.2.2 k (fun q => hk (by rw [q]; decide))⟩
theorem Fl_Fi {M N : ZM} (h : Fi M N) : Fl M N := ⟨fun b _ => by rw [h.1], fun b hb => h.2.1 b (fun q => hb (by rw [q]; decide)), fun k hk => h.2.2 k (fun q => hk (by rw [q]; decide)) (fun q => hk (by rw [q]; decide)) (fun q => hk (by rw [q]; decide))⟩
theorem EV_Fl {ws : List Int32} {M N : ZM} (h : Fl M N) (e : EV ws M) : EV ws N := by
  refine ⟨⟨?_, fun k hk => ?_⟩, fun a b hab hb => ?_, fun m hm => ?_⟩
  · rw [h.2.2 10 (by decide)]; exact e.1.1
  · rw [h.2.1 52 (by decide)]; exact e.1.2 k hk
  · unfold Wm; rw [h.1 61 (by decide)]; exact e.2.1 a b hab hb
  · rw [h.1 69 (by decide)]; exact e.2.2 m hm
theorem z65 : zr 50 22 = 65 := by decide +kernel
theorem z66 : zr 50 23 = 66 := by decide +kernel
theorem z67 : zr 50 24 = 67 := by decide +kernel
theorem z68 : zr 50 25 = 68 := by decide +kernel
theorem i65 {r : Nat} (h : r < 200) : zin (nI r) (zn 65) = true := by rw [show zn 65 = 200 by decide +kernel]; exact zin_t h (by omega)
theorem i66 {r : Nat} (h : r < 200) : zin (nI r) (zn 66) = true := by rw [show zn 66 = 200 by decide +kernel]; exact zin_t h (by omega)
theorem i67 {r : Nat} (h : r < 200) : zin (nI r) (zn 67) = true := by rw [show zn 67 = 200 by decide +kernel]; exact zin_t h (by omega)
theorem i68 {r : Nat} (h : r < 200) : zin (nI r) (zn 68) = true := by rw [show zn 68 = 200 by decide +kernel]; exact zin_t h (by omega)
theorem finds66_ok {ws : List Int32} (hl : ws.length ≤ 21) (hm : Ny ws 0 ws.length ≤ 200) (K : ZM → Option ZM) : ∀ c r fuel M, r + c = Ny ws 0 ws.length → c < fuel → EV ws M → M.1 50 26 = nI r → M.1 50 28 = -9 → (∀ s, s < r → Rr ws M s) → ∃ N, f_X12_finds_66 50 (nI (Ny ws 0 ws.length)) K fuel M = K N ∧ N.1 50 26 = nI (Ny ws 0 ws.length) ∧ N.1 50 28 = -9 ∧ (∀ s, s < Ny ws 0 ws.length → Rr ws N s) ∧ Fl M N := by
  intro c
  induction c with
  | zero =>
    intro r fuel M hr hf hE h26 h28 h
    obtain ⟨fuel, rfl⟩ : ∃ m, fuel = m + 1 := ⟨fuel - 1, by omega⟩
    rw [f_X12_finds_66]
    simp only [zletE]
    rw [h26, if_pos (by rw [nI_le' (by omega) (by omega)]; omega)]
    exact ⟨M, rfl, by rw [h26]; congr 1, h28, fun s hs => h s (by omega), Fl_rf M⟩
  | succ c ih =>
    intro r fuel M hr hf hE h26 h28 h
    obtain ⟨fuel, rfl⟩ : ∃ m, fuel = m + 1 := ⟨fuel - 1, by omega⟩
    have hr0 : r < Ny ws 0 ws.length := by omega
    have hsp := Tr_sp hr0 hl
    have hsz := sz_ln (Tr ws r)
    rw [f_X12_finds_66]
    simp only [zletE]
    rw [z65, z66, z67, z68, h26, if_neg (by rw [nI_le' (by omega) (by omega)]; omega), zckT (i65 (by omega)), nI_tn (by omega)]
    obtain ⟨A, hA⟩ : ∃ A, A = zi (zi (zi M 65 r 0) 50 27 0) 50 30 1 := ⟨_, rfl⟩
    rw [← hA]
    have fA : Fl M A := by rw [hA]; exact Fl_tr (Fl_za (by decide)) (Fl_tr (Fl_zi (by decide)) (Fl_zi (by decide)))
    have A26 : A.1 50 26 = nI r := by rw [hA, zi_k (by decide), zi_k (by decide), zi_ne (by decide), h26]
    have A28 : A.1 50 28 = -9 := by rw [hA, zi_k (by decide), zi_k (by decide), zi_ne (by decide), h28]
    have A27 : A.1 50 27 = 0 := by rw [hA, zi_k (by decide), zi_eq]
    have A30 : A.1 50 30 = 1 := by rw [hA, zi_eq]
    have A65 : A.1 65 r = nI 0 := by rw [hA, zi_ne (by decide), zi_ne (by decide), zi_eq, nI0]
    have Ao : ∀ b, b ≠ 50 → b ≠ 65 → A.1 b = M.1 b := fun b h1 h2 => by rw [hA]; funext k; rw [zi_ne h1, zi_ne h1, zi_ne h2]
    have A65' : ∀ k, k ≠ r → A.1 65 k = M.1 65 k := fun k hk => by rw [hA, zi_ne (by decide), zi_ne (by decide), zi_k hk]
    have A2 : A.2 = M.2 := by rw [hA]; rfl
    obtain ⟨P, eP, p27, pF, pN⟩ := now_ok hl (show r < 200 by omega) hr0 (EV_Fl fA hE) A26 (Or.inr ⟨A30, A65, by omega⟩)
    have hev : mn (evM ws A) ws 0 (Tr ws r) = Me ws r := by
      refine mn_ev _ _ (fun p _ hp => ?_)
      unfold evM
      rw [A28, if_neg (nI_m9 (by omega))]
    rw [A26, eP, bindE]
    simp only []
    rw [zckT (i68 (by omega)), nI_tn (by omega), hev]
    have P26 : P.1 50 26 = nI r := by rw [pF.2.2 26 (by decide)]; exact A26
    have X26 : (zi (zl P 68 r (Me ws r)) 50 30 0).1 50 26 = nI r := by rw [zi_k (by decide), zl_1, P26]
    have X27 : (zi (zl P 68 r (Me ws r)) 50 30 0).1 50 27 = cb ws 0 (Tr ws r) := by rw [zi_k (by decide), zl_1, p27, A27, Int32.zero_or]
    rw [X26, zckT (i66 (by omega)), nI_tn (by omega), X27]
    obtain ⟨B, hB⟩ : ∃ B, B = zi (zi (zl P 68 r (Me ws r)) 50 30 0) 66 r ((cb ws 0 (Tr ws r) ^^^ (-1)) &&& 15) := ⟨_, rfl⟩
    rw [← hB]
    have fB : Fl M B := by rw [hB]; exact Fl_tr fA (Fl_tr (Fl_Fm pF) (Fl_tr Fl_zl (Fl_tr (Fl_zi (by decide)) (Fl_za (by decide)))))
    have B26 : B.1 50 26 = nI r := by rw [hB, zi_ne (by decide), zi_k (by decide), zl_1, P26]
    have B30 : B.1 50 30 = 0 := by rw [hB, zi_ne (by decide), zi_eq]
    rw [B26]
    obtain ⟨Q, eQ, qF, q28⟩ := idleIn_ok hl (show r < 200 by omega) hr0 (EV_Fl fB hE) B26 B30
    rw [eQ, bindE]
    simp only []
    have Q26 : Q.1 50 26 = nI r := by rw [qF.2.2 26 (by decide) (by decide) (by decide)]; exact B26
    have Q66 : Q.1 66 r = (cb ws 0 (Tr ws r) ^^^ (-1)) &&& 15 := by rw [qF.2.1 66 (by decide), hB, zi_eq]
    have Q68 : Q.2 68 r = Me ws r := by rw [qF.1, hB, zi_2, zi_2, zl_eq]
    have fin : ∀ a : Int32, ∃ N, f_X12_finds_66 50 (nI (Ny ws 0 ws.length)) K fuel (zi (zi (zi (zi Q 67 r (Ix ws r)) 66 r a) 66 r (Mt ws r)) 50 26 (nI (r + 1))) = K N ∧ N.1 50 26 = nI (Ny ws 0 ws.length) ∧ N.1 50 28 = -9 ∧ (∀ s, s < Ny ws 0 ws.length → Rr ws N s) ∧ Fl M N := by
      intro a
      obtain ⟨C, hC⟩ : ∃ C, C = zi (zi (zi (zi Q 67 r (Ix ws r)) 66 r a) 66 r (Mt ws r)) 50 26 (nI (r + 1)) := ⟨_, rfl⟩
      rw [← hC]
      have fC : Fl M C := by rw [hC]; exact Fl_tr fB (Fl_tr (Fl_Fi qF) (Fl_tr (Fl_za (by decide)) (Fl_tr (Fl_za (by decide)) (Fl_tr (Fl_za (by decide)) (Fl_zi (by decide))))))
      have Cb : ∀ b, b ≠ 50 → b ≠ 66 → b ≠ 67 → C.1 b = P.1 b := by
        intro b h1 h2 h3
        rw [hC]
        funext k
        rw [zi_ne h1, zi_ne h2, zi_ne h2, zi_ne h3, qF.2.1 b h1, hB, zi_ne h2, zi_ne h1, zl_1]
      have C66 : ∀ k, k ≠ r → C.1 66 k = M.1 66 k := by
        intro k hk
        rw [hC, zi_ne (by decide), zi_k hk, zi_k hk, zi_ne (by decide), qF.2.1 66 (by decide), hB, zi_k hk, zi_ne (by decide), zl_1, pF.2.1 66 (by decide), Ao 66 (by decide) (by decide)]
      have C67 : ∀ k, k ≠ r → C.1 67 k = M.1 67 k := by
        intro k hk
        rw [hC, zi_ne (by decide), zi_ne (by decide), zi_ne (by decide), zi_k hk, qF.2.1 67 (by decide), hB, zi_ne (by decide), zi_ne (by decide), zl_1, pF.2.1 67 (by decide), Ao 67 (by decide) (by decide)]
      have C68 : ∀ k, k ≠ r → C.2 68 k = M.2 68 k := by
        intro k hk
        rw [hC, zi_2, zi_2, zi_2, zi_2, qF.1, hB, zi_2, zi_2, zl_k hk, pF.1, A2]
      have pN' : P.1 65 r = nI (0 + sz (Tr ws r)) ∧ AtB ws P r 0 0 (Tr ws r) ∧ (∀ k, k < 21 * r + 0 → P.1 62 k = A.1 62 k ∧ P.1 63 k = A.1 63 k ∧ P.1 64 k = A.1 64 k) ∧ ∀ k, k ≠ r → P.1 65 k = A.1 65 k := by
        rcases pN with y | y
        · rw [A30] at y; exact absurd y.1 (by decide)
        · exact y.2
      refine (ih (r + 1) fuel C (by omega) (by omega) (EV_Fl fC hE) (by rw [hC, zi_eq]) (by rw [hC, zi_k (by decide), zi_ne (by decide), zi_ne (by decide), zi_ne (by decide), q28]) ?_).imp (fun N hN => ⟨hN.1, hN.2.1, hN.2.2.1, hN.2.2.2.1, Fl_tr fC hN.2.2.2.2⟩)
      intro s hs
      by_cases q : s = r
      · subst q
        refine ⟨?_, ?_, ?_, ?_, ?_⟩
        · rw [Cb 65 (by decide) (by decide) (by decide), pN'.1, Nat.zero_add]
        · unfold AtB
          rw [Cb 62 (by decide) (by decide) (by decide), Cb 63 (by decide) (by decide) (by decide), Cb 64 (by decide) (by decide) (by decide)]
          exact pN'.2.1
        · rw [hC, zi_2, zi_2, zi_2, zi_2, Q68]
        · rw [hC, zi_ne (by decide), zi_eq]
        · rw [hC, zi_ne (by decide), zi_ne (by decide), zi_ne (by decide), zi_eq]
      · have hR := h s (by omega)
        have hss := Tr_sp (show s < Ny ws 0 ws.length by omega) hl
        have hsl := sz_ln (Tr ws s)
        refine ⟨?_, ?_, ?_, ?_, ?_⟩
        · rw [Cb 65 (by decide) (by decide) (by decide), pN'.2.2.2 s q, A65' s q]; exact hR.1
        · unfold AtB
          rw [Cb 62 (by decide) (by decide) (by decide), Cb 63 (by decide) (by decide) (by decide), Cb 64 (by decide) (by decide) (by decide)]
          refine AtM_congr _ _ _ hR.2.1 (fun m _ hm' => ?_)
          have := pN'.2.2.1 (21 * s + m) (by omega)
          rw [Ao 62 (by decide) (by decide), Ao 63 (by decide) (by decide), Ao 64 (by decide) (by decide)] at this
          exact this
        · rw [C68 s q]; exact hR.2.2.1
        · rw [C66 s q]; exact hR.2.2.2.1
        · rw [C67 s q]; exact hR.2.2.2.2
    have R26 : (zi Q 67 r (Ix ws r)).1 50 26 = nI r := by rw [zi_ne (by decide), Q26]
    rw [zckT (i67 (by omega)), nI_tn (by omega), R26, zckT (i66 (by omega)), zckT (i67 (by omega)), nI_tn (by omega), zi_eq, zi_ne (a := 67) (b := 66) (by decide), Q66]
    have S26 : ∀ a, (zi (zi Q 67 r (Ix ws r)) 66 r a).1 50 26 = nI r := fun a => by rw [zi_ne (by decide), R26]
    have S68 : ∀ a, (zi (zi Q 67 r (Ix ws r)) 66 r a).2 68 r = Me ws r := fun a => by rw [zi_2, zi_2, Q68]
    have U26 : ∀ a b, (zi (zi (zi Q 67 r (Ix ws r)) 66 r a) 66 r b).1 50 26 = nI r := fun a b => by rw [zi_ne (by decide), S26]
    by_cases q : Ix ws r = 0
    · rw [if_pos q, zckT (i66 (by omega)), S26, zckT (i66 (by omega)), zckT (i68 (by omega)), nI_tn (by omega), S68, zi_eq]
      by_cases z : Me ws r = 0
      · have hMt : Mt ws r = (((cb ws 0 (Tr ws r) ^^^ (-1)) &&& 15) ||| 16) ||| 0 := by unfold Mt; rw [if_pos q, if_pos (Or.inl z)]
        rw [if_pos (by rw [lg_cmp_eq]; exact z), zckT (i66 (by omega)), U26, nI_s, ← hMt]
        exact fin _
      · rw [if_neg (by rw [lg_cmp_eq]; exact z), zckT (i68 (by omega))]
        by_cases y : Me ws r = 4294967295
        · have hMt : Mt ws r = (((cb ws 0 (Tr ws r) ^^^ (-1)) &&& 15) ||| 16) ||| 0 := by unfold Mt; rw [if_pos q, if_pos (Or.inr y)]
          rw [if_pos (by rw [lg_cmp_eq]; exact y), zckT (i66 (by omega)), U26, nI_s, ← hMt]
          exact fin _
        · have hMt : Mt ws r = (((cb ws 0 (Tr ws r) ^^^ (-1)) &&& 15) ||| 16) ||| 32 := by unfold Mt; rw [if_pos q, if_neg (fun h => h.elim z y)]
          rw [if_neg (by rw [lg_cmp_eq]; exact y), zckT (i66 (by omega)), U26, nI_s, ← hMt]
          exact fin _
    · rw [if_neg q, zckT (i66 (by omega)), S26, zckT (i66 (by omega)), zckT (i68 (by omega)), nI_tn (by omega), S68, zi_eq]
      by_cases z : Me ws r = 0
      · have hMt : Mt ws r = (((cb ws 0 (Tr ws r) ^^^ (-1)) &&& 15) ||| 0) ||| 0 := by unfold Mt; rw [if_neg q, if_pos (Or.inl z)]
        rw [if_pos (by rw [lg_cmp_eq]; exact z), zckT (i66 (by omega)), U26, nI_s, ← hMt]
        exact fin _
      · rw [if_neg (by rw [lg_cmp_eq]; exact z), zckT (i68 (by omega))]
        by_cases y : Me ws r = 4294967295
        · have hMt : Mt ws r = (((cb ws 0 (Tr ws r) ^^^ (-1)) &&& 15) ||| 0) ||| 0 := by unfold Mt; rw [if_neg q, if_pos (Or.inr y)]
          rw [if_pos (by rw [lg_cmp_eq]; exact y), zckT (i66 (by omega)), U26, nI_s, ← hMt]
          exact fin _
        · have hMt : Mt ws r = (((cb ws 0 (Tr ws r) ^^^ (-1)) &&& 15) ||| 0) ||| 32 := by unfold Mt; rw [if_neg q, if_neg (fun h => h.elim z y)]
          rw [if_neg (by rw [lg_cmp_eq]; exact y), zckT (i66 (by omega)), U26, nI_s, ← hMt]
          exact fin _
theorem finds2_ok (K : ZM → Option ZM) : ∀ c m fuel M, m + c = 5 → c < fuel → (∀ j, j < m → M.2 69 j = zmk j) → ∃ N, f_X12_finds_2 50 K fuel (nI m) M = K N ∧ (∀ j, j < 5 → N.2 69 j = zmk j) ∧ Fr [69] M N := by
  intro c
  induction c with
  | zero =>
    intro m fuel M hm hf h
    obtain ⟨fuel, rfl⟩ : ∃ m, fuel = m + 1 := ⟨fuel - 1, by omega⟩
    rw [f_X12_finds_2, if_pos (by rw [show (5 : Int32) = nI 5 from rfl, nI_le' (by omega) (by omega)]; omega)]
    exact ⟨M, rfl, fun j hj => h j (by omega), Fr_rf _ _⟩
  | succ c ih =>
    intro m fuel M hm hf h
    obtain ⟨fuel, rfl⟩ : ∃ m, fuel = m + 1 := ⟨fuel - 1, by omega⟩
    rw [f_X12_finds_2, if_neg (by rw [show (5 : Int32) = nI 5 from rfl, nI_le' (by omega) (by omega)]; omega), mask_ok (by omega), bindE]
    simp only [zletE]
    rw [show zr 50 32 = 69 by decide +kernel, zckT (by rw [show zn 69 = 5 by decide +kernel]; exact zin_t (by omega) (by omega)), nI_tn (by omega), nI_s]
    obtain ⟨N, e, hN, hF⟩ := ih (m + 1) fuel (zl M 69 m (zmk m)) (by omega) (by omega) (fun j hj => by
      by_cases q : j = m
      · subst q; exact zl_eq
      · rw [zl_k q]; exact h j (by omega))
    exact ⟨N, e, hN, Fr_tr (Fr_zl (by decide)) hF⟩
/-- what stands behind the finding of a sentence's readings -/
def RF (ws : List Int32) (M : ZM) : Prop := Wz ws M ∧ M.1 50 28 = -9 ∧ M.1 50 29 = (if Ny ws 0 ws.length ≤ 200 then 1 else 0) ∧ (Ny ws 0 ws.length ≤ 200 → M.1 50 26 = nI (Ny ws 0 ws.length) ∧ ∀ s, s < Ny ws 0 ws.length → Rr ws M s)
def fcs : List Nat := [50, 61, 62, 63, 64, 65, 66, 67, 68, 69]
def Ff (M N : ZM) : Prop := Fr fcs M N ∧ ∀ k, k ∉ [26, 27, 28, 29, 30, 31] → N.1 50 k = M.1 50 k
theorem Ff_tr {M N P : ZM} (h : Ff M N) (h' : Ff N P) : Ff M P := ⟨Fr_tr h.1 h'.1, fun k hk => (h'.2 k hk).trans (h.2 k hk)⟩
theorem Ff_Fr {M N : ZM} {cs : List Nat} (h : Fr cs M N) (h1 : 50 ∉ cs) (h2 : ∀ b, b ∈ cs → b ∈ fcs) : Ff M N := ⟨Fr_sub h h2, fun k _ => Fr_1 h h1 k⟩
theorem Ff_zi {M : ZM} {k : Nat} {v : Int32} (hk : k ∈ [26, 27, 28, 29, 30, 31]) : Ff M (zi M 50 k v) := ⟨Fr_zi (by decide), fun j hj => zi_k (fun e => hj (e ▸ hk))⟩
theorem Ff_Fl {M N : ZM} (h : Fl M N) : Ff M N := by
  refine ⟨fun b hb => ⟨h.2.1 b (fun q => hb ?_), h.1 b (fun q => hb (by rw [q]; decide))⟩, fun k hk => h.2.2 k (fun q => hk ?_)⟩
  · have t : ∀ c, c ∈ [50, 62, 63, 64, 65, 66, 67] → c ∈ fcs := by decide
    exact t b q
  · have t : ∀ c, c ∈ [26, 27, 28, 30, 31] → c ∈ [26, 27, 28, 29, 30, 31] := by decide
    exact t k q
theorem finds_ok {ws : List Int32} (hl : ws.length ≤ 21) (h0 : 0 < ws.length) {M : ZM} (hs : RW M ws) (h28 : M.1 50 28 = -9) : ∃ N, f_X12_finds 50 M = some N ∧ RF ws N ∧ Ff M N := by
  have hN := Ny_lt (ws := ws) (i := 0) (j := ws.length) (by omega)
  unfold f_X12_finds
  simp only [zletE]
  obtain ⟨N1, e1, k1, F1⟩ := finds2_ok (fun (M : ZM) =>
    (f_X12_findWays 50 M).bind fun (q39 : ZM) =>
    (f_X12_readings 50 q39).bind fun (q40 : Int64) =>
    if 0 < (lg_cmp q40 200) then (
      zck (zbo 0) <|
      if ((zi q39 50 29 0).1 50 29) = 0 then (
        some (zi q39 50 29 0)) else (
        (f_X12_readings 50 (zi q39 50 29 0)).bind fun (q4 : Int64) =>
        f_X12_finds_66 50 (q4.toInt32) (fun (M : ZM) =>
          some M) zN (zi (zi q39 50 29 0) 50 26 0))) else (
      zck (zbo 1) <|
      if ((zi q39 50 29 1).1 50 29) = 0 then (
        some (zi q39 50 29 1)) else (
        (f_X12_readings 50 (zi q39 50 29 1)).bind fun (q4 : Int64) =>
        f_X12_finds_66 50 (q4.toInt32) (fun (M : ZM) =>
          some M) zN (zi (zi q39 50 29 1) 50 26 0)))) 5 0 zN M (by omega) (by unfold zN; omega) (fun j hj => by omega)
  rw [nI0] at e1
  rw [e1]
  have hs1 : RW N1 ws := LH_Fr hs F1 (by decide) (by decide)
  obtain ⟨N2, e2, w2, F2⟩ := findWays_ok hl hs1
  have hs2 : RW N2 ws := LH_Fr hs1 F2 (by decide) (by decide)
  rw [e2, bindE]
  have hrd : ∀ P : ZM, P.1 50 10 = nI ws.length → P.2 = N2.2 → f_X12_readings 50 P = some (lN (Ny ws 0 ws.length)) := by
    intro P h10 h2
    unfold f_X12_readings
    rw [h10, ← nI0, ways_ok (by omega), bindE, h2, w2 0 ws.length h0 (Nat.le_refl _)]
  rw [hrd N2 hs2.1 rfl, bindE]
  have hF0 : Ff M N2 := Ff_tr (Ff_Fr F1 (by decide) (by decide)) (Ff_Fr F2 (by decide) (by decide))
  have h28' : N2.1 50 28 = -9 := by rw [Fr_1 F2 (by decide), Fr_1 F1 (by decide)]; exact h28
  have c200 : (0 < lg_cmp (lN (Ny ws 0 ws.length)) 200) ↔ ¬ Ny ws 0 ws.length ≤ 200 := by
    rw [lg_cmp_gt, show (200 : Int64) = lN 200 by decide +kernel, lN_lt (by omega) (by omega)]
    omega
  by_cases q : Ny ws 0 ws.length ≤ 200
  · rw [if_neg (by rw [c200]; exact fun z => z q), zckT (by decide), zi_eq, if_neg (by decide), hrd (zi N2 50 29 1) (by rw [zi_k (by decide)]; exact hs2.1) rfl, bindE, lN_i]
    have g : Ff M (zi (zi N2 50 29 1) 50 26 0) := Ff_tr hF0 (Ff_tr (Ff_zi (by decide)) (Ff_zi (by decide)))
    have hE : EV ws (zi (zi N2 50 29 1) 50 26 0) := by
      refine ⟨⟨?_, fun k hk => ?_⟩, w2, fun m hm => ?_⟩
      · rw [zi_k (by decide), zi_k (by decide)]; exact hs2.1
      · rw [zi_ne (by decide), zi_ne (by decide)]; exact hs2.2 k hk
      · rw [zi_2, zi_2, Fr_2 F2 (by decide)]; exact k1 m hm
    obtain ⟨N3, e3, a26, a28, hR, F3⟩ := finds66_ok hl q (fun M => some M) (Ny ws 0 ws.length) 0 zN _ (by omega) (by unfold zN; omega) hE (by rw [zi_eq, nI0]) (by rw [zi_k (by decide), zi_k (by decide)]; exact h28') (fun s hs => by omega)
    rw [e3]
    refine ⟨N3, rfl, ⟨fun a b hab hb => ?_, a28, ?_, fun _ => ⟨a26, hR⟩⟩, Ff_tr g (Ff_Fl F3)⟩
    · unfold Wm; rw [F3.1 61 (by decide)]; exact w2 a b hab hb
    · rw [if_pos q, F3.2.2 29 (by decide), zi_k (by decide), zi_eq]
  · rw [if_pos (by rw [c200]; exact q), zckT (by decide), zi_eq, if_pos rfl]
    refine ⟨_, rfl, ⟨fun a b hab hb => w2 a b hab hb, by rw [zi_k (by decide)]; exact h28', by rw [if_neg q, zi_eq], fun z => absurd z q⟩, Ff_tr hF0 (Ff_zi (by decide))⟩
