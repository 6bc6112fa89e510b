/-! the class alone: what stands (SS), and what each call that the law makes answers -/
def SS (ws tp od a1 a2 : List Int32) (im : zI) (M : ZM) : Prop := PS ws tp od a1 a2 im ∧ ∃ rf, CI ws tp od a1 a2 im rf M
section SP
variable {ws tp od a1 a2 : List Int32} {im : zI} {M N : ZM}
theorem SS_Fr (h : SS ws tp od a1 a2 im M) (hF : Fr sc1 M N) : SS ws tp od a1 a2 im N := by
  obtain ⟨hp, rf, hc⟩ := h
  exact ⟨hp, rf, CI_Fr hc hF⟩
theorem SS_pos (h : SS ws tp od a1 a2 im M) : 0 < Ny ws 0 ws.length := okw_pos h.1.1
theorem refS (h : SS ws tp od a1 a2 im M) {v : Int32} {k : Nat} (hv : -v = nI k) (hk : k < 7) : ∃ N, f_X11_refuse 0 v M = (v, N) ∧ SS ws tp od a1 a2 im N := by
  obtain ⟨hp, rf, hc⟩ := h
  obtain ⟨N, e, c, _⟩ := refuse_ok hc hv hk
  exact ⟨N, e, hp, _, c⟩
theorem spS (h : SS ws tp od a1 a2 im M) : (¬ Ny ws 0 ws.length ≤ 200 ∧ f_X11_spent 0 M = some (1, M)) ∨ (Ny ws 0 ws.length ≤ 200 ∧ ∃ N, f_X11_spent 0 M = some (0, N) ∧ SS ws tp od a1 a2 im N ∧ LM ws N) := by
  obtain ⟨hp, rf, hc⟩ := h
  rcases spent_ok hp hc with q | ⟨q, N, e, c, l, _⟩
  · exact Or.inl q
  · exact Or.inr ⟨q, N, e, ⟨hp, rf, c⟩, l⟩
/-- a call that asks for the list -/
theorem qS {α : Type} (c : Int32 → α) (h : SS ws tp od a1 a2 im M) {Kc : Int32 × ZM → Option (α × ZM)} {P : α → Prop} (hK1 : ∀ N, Kc (1, N) = some (c (f_X11_refuse 0 (-5) N).1, (f_X11_refuse 0 (-5) N).2)) (h5 : ¬ Ny ws 0 ws.length ≤ 200 → P (c (-5))) (hl : ∀ N, SS ws tp od a1 a2 im N → LM ws N → Ny ws 0 ws.length ≤ 200 → ∃ a N', Kc (0, N) = some (a, N') ∧ SS ws tp od a1 a2 im N' ∧ P a) : ∃ a N, (f_X11_spent 0 M).bind Kc = some (a, N) ∧ SS ws tp od a1 a2 im N ∧ P a := by
  rcases spS h with ⟨q, e⟩ | ⟨q, N, e, s, l⟩
  · obtain ⟨N, e1, s1⟩ := refS h (v := -5) (k := 5) (by decide +kernel) (by omega)
    rw [e, bindE, hK1, e1]
    exact ⟨_, _, rfl, s1, h5 q⟩
  · rw [e, bindE]
    exact hl N s l q
theorem exS {α : Type} {x : Option (α × ZM)} {S : ZM → Prop} {v : α} (h : ∃ a N, x = some (a, N) ∧ S N ∧ a = v) : ∃ N, x = some (v, N) ∧ S N := by
  obtain ⟨a, N, e, s, p⟩ := h
  exact ⟨N, by rw [e, p], s⟩
theorem s_readings (h : SS ws tp od a1 a2 im M) : f_X11_readings 0 M = lN (Ny ws 0 ws.length) := by
  obtain ⟨hp, rf, hc⟩ := h
  exact readings_ok hp hc
theorem s_word (h : SS ws tp od a1 a2 im M) (i : Nat) (hi : i < 100) : f_X11_wordAt 0 (nI i) M = if i < ws.length then wa ws i else -9 := by
  obtain ⟨hp, rf, hc⟩ := h
  have hl := hp.1.1
  unfold f_X11_wordAt
  simp only [zletE]
  rw [if_neg (nI_nn (by omega)), show zr 0 1 = 3 by decide +kernel, show f_X10_size 3 M = nI ws.length from hc.2.1.1]
  by_cases q : i < ws.length
  · rw [if_neg (by rw [nI_le' (by omega) (by omega)]; omega), if_pos q, at_ok WG3 hc.2.1 hl q]
  · rw [if_pos (by rw [nI_le' (by omega) (by omega)]; omega), if_neg q]
theorem s_unlike (h : SS ws tp od a1 a2 im M) : ∃ a N, f_X11_unlike 0 M = some (a, N) ∧ SS ws tp od a1 a2 im N ∧ (¬ Ny ws 0 ws.length ≤ 200 → a = -5) ∧ (Ny ws 0 ws.length ≤ 200 → ∃ u, a = nI u ∧ 1 ≤ u ∧ u ≤ Ny ws 0 ws.length) := by
  unfold f_X11_unlike
  refine qS (fun x => x) h (P := fun a => (¬ Ny ws 0 ws.length ≤ 200 → a = -5) ∧ (Ny ws 0 ws.length ≤ 200 → ∃ u, a = nI u ∧ 1 ≤ u ∧ u ≤ Ny ws 0 ws.length)) (fun N => by simp only [zletE]; rw [if_neg (by decide)]) (fun q => ⟨fun _ => rfl, fun z => absurd z q⟩) (fun N hS hL hm => ?_)
  rw [if_pos rfl]
  obtain ⟨N1, e1, u1, F1⟩ := gath_ok hm hL
  rw [show zr 0 6 = 27 by decide +kernel, show zr 0 5 = 19 by decide +kernel, e1, bindE]
  simp only [zletE]
  have h0 := SS_pos hS
  have hlen := ul_len ws (Ny ws 0 ws.length)
  have hpos : ∀ i, 0 < i → 1 ≤ (ul ws i).length := by
    intro i
    induction i with
    | zero => intro z; omega
    | succ i ih =>
      intro _
      rw [ul]
      split
      · rename_i q
        cases e : ul ws i with
        | nil => rw [e] at q; exact absurd q List.not_mem_nil
        | cons x l => rw [List.length_cons]; omega
      · rw [List.length_append, List.length_singleton]; omega
  exact ⟨_, N1, rfl, SS_Fr hS (Fr_sub F1 sc_u), fun z => absurd hm z, fun _ => ⟨_, u1.1, hpos _ h0, hlen⟩⟩
theorem s_means (h : SS ws tp od a1 a2 im M) {r : Nat} (hr : r < Ny ws 0 ws.length) : ∃ a N, f_X11_means 0 (nI r) M = some (a, N) ∧ SS ws tp od a1 a2 im N ∧ (¬ Ny ws 0 ws.length ≤ 200 → a = -5) ∧ (Ny ws 0 ws.length ≤ 200 → a = Me ws r) := by
  unfold f_X11_means
  refine qS (fun x => x.toInt64) h (P := fun a => (¬ Ny ws 0 ws.length ≤ 200 → a = -5) ∧ (Ny ws 0 ws.length ≤ 200 → a = Me ws r)) (fun N => by simp only [zletE]; rw [if_neg (by decide)]) (fun q => ⟨fun _ => by decide +kernel, fun z => absurd z q⟩) (fun N hS hL hm => ?_)
  rw [if_pos rfl]
  simp only [zletE]
  rw [noR_t hL hm hr, if_pos rfl, show zr 0 5 = 19 by decide +kernel, mea_ok hL hm hr]
  exact ⟨_, N, rfl, hS, fun z => absurd hm z, fun _ => rfl⟩
theorem lba (x y : Int64) (k : Nat) : lb (x &&& y) k = true ↔ lb x k = true ∧ lb y k = true := by rw [lb_and, Bool.and_eq_true]
theorem lb_xm {x : Int64} {k : Nat} (h : k < 64) : lb (x ^^^ (-1)) k = !lb x k := by
  rw [lb_xor, lb_m1 h]; cases lb x k <;> rfl
theorem allL {N : ZM} (hL : LM ws N) (hm : Ny ws 0 ws.length ≤ 200) : ∀ k i fuel x, i + k = Ny ws 0 ws.length → k < fuel → ∃ z, f_X2_letByAll_6 19 N (fun (v1 : Int64) => some v1) fuel x (nI i) = some z ∧ ∀ c, c < 64 → lb z c = true → lb x c = true ∧ ∀ r, i ≤ r → r < Ny ws 0 ws.length → lb (Me ws r) c = true := by
  intro k
  induction k with
  | zero =>
    intro i fuel x hi hf
    obtain ⟨fuel, rfl⟩ : ∃ m, fuel = m + 1 := ⟨fuel - 1, by omega⟩
    rw [f_X2_letByAll_6, hL.1, if_pos (by rw [nI_le' (by omega) (by omega)]; omega)]
    exact ⟨x, rfl, fun c _ hc => ⟨hc, fun r h1 h2 => by omega⟩⟩
  | succ k ih =>
    intro i fuel x hi hf
    obtain ⟨fuel, rfl⟩ : ∃ m, fuel = m + 1 := ⟨fuel - 1, by omega⟩
    rw [f_X2_letByAll_6, hL.1, if_neg (by rw [nI_le' (by omega) (by omega)]; omega)]
    simp only [zletE]
    rw [mea_ok hL hm (by omega), nI_s]
    obtain ⟨z, e, hz⟩ := ih (i + 1) fuel (x &&& Me ws i) (by omega) (by omega)
    refine ⟨z, e, fun c h64 hc => ?_⟩
    obtain ⟨h1, h2⟩ := hz c h64 hc
    rw [lba] at h1
    refine ⟨h1.1, fun r g1 g2 => ?_⟩
    by_cases q : r = i
    · rw [q]; exact h1.2
    · exact h2 r (by omega) g2
theorem allB {N : ZM} (hL : LM ws N) (hm : Ny ws 0 ws.length ≤ 200) : ∀ k i fuel x, i + k = Ny ws 0 ws.length → k < fuel → ∃ z, f_X2_barredByAll_6 19 N (fun (v1 : Int64) => some v1) fuel x (nI i) = some z ∧ ∀ c, c < 64 → lb z c = true → lb x c = true ∧ ∀ r, i ≤ r → r < Ny ws 0 ws.length → lb (Me ws r) c = false := by
  intro k
  induction k with
  | zero =>
    intro i fuel x hi hf
    obtain ⟨fuel, rfl⟩ : ∃ m, fuel = m + 1 := ⟨fuel - 1, by omega⟩
    rw [f_X2_barredByAll_6, hL.1, if_pos (by rw [nI_le' (by omega) (by omega)]; omega)]
    exact ⟨x, rfl, fun c _ hc => ⟨hc, fun r h1 h2 => by omega⟩⟩
  | succ k ih =>
    intro i fuel x hi hf
    obtain ⟨fuel, rfl⟩ : ∃ m, fuel = m + 1 := ⟨fuel - 1, by omega⟩
    rw [f_X2_barredByAll_6, hL.1, if_neg (by rw [nI_le' (by omega) (by omega)]; omega)]
    simp only [zletE]
    rw [mea_ok hL hm (by omega), nI_s]
    obtain ⟨z, e, hz⟩ := ih (i + 1) fuel (x &&& (Me ws i ^^^ (-1))) (by omega) (by omega)
    refine ⟨z, e, fun c h64 hc => ?_⟩
    obtain ⟨h1, h2⟩ := hz c h64 hc
    rw [lba, lb_xm h64] at h1
    refine ⟨h1.1, fun r g1 g2 => ?_⟩
    by_cases q : r = i
    · rw [q]
      have := h1.2
      cases h : lb (Me ws i) c with
      | false => rfl
      | true => rw [h] at this; cases this
    · exact h2 r (by omega) g2
theorem s_allL (h : SS ws tp od a1 a2 im M) (hm : Ny ws 0 ws.length ≤ 200) : ∃ a N, f_X11_all 0 1 M = some (a, N) ∧ SS ws tp od a1 a2 im N ∧ ∀ r, r < Ny ws 0 ws.length → a &&& (Me ws r ^^^ (-1)) = 0 := by
  unfold f_X11_all
  refine qS (fun x => x.toInt64) h (P := fun a => ∀ r, r < Ny ws 0 ws.length → a &&& (Me ws r ^^^ (-1)) = 0) (fun N => by simp only [zletE]; rw [if_neg (by decide)]) (fun q => absurd hm q) (fun N hS hL _ => ?_)
  rw [if_pos rfl, if_neg (by decide)]
  obtain ⟨z, e, hz⟩ := allL hL hm (Ny ws 0 ws.length) 0 zN 4294967295 (by omega) (by unfold zN; omega)
  rw [nI0] at e
  unfold f_X2_letByAll
  rw [show zr 0 5 = 19 by decide +kernel, e, bindE]
  refine ⟨z, N, rfl, hS, fun r hr => lb_ext (fun k hk => ?_)⟩
  rw [lb_0, lb_and, lb_xm hk]
  cases hb : lb z k with
  | false => rfl
  | true => rw [(hz k hk hb).2 r (Nat.zero_le _) hr]; rfl
theorem s_allB (h : SS ws tp od a1 a2 im M) (hm : Ny ws 0 ws.length ≤ 200) : ∃ a N, f_X11_all 0 0 M = some (a, N) ∧ SS ws tp od a1 a2 im N ∧ ∀ r, r < Ny ws 0 ws.length → a &&& Me ws r = 0 := by
  unfold f_X11_all
  refine qS (fun x => x.toInt64) h (P := fun a => ∀ r, r < Ny ws 0 ws.length → a &&& Me ws r = 0) (fun N => by simp only [zletE]; rw [if_neg (by decide)]) (fun q => absurd hm q) (fun N hS hL _ => ?_)
  rw [if_pos rfl, if_pos rfl]
  obtain ⟨z, e, hz⟩ := allB hL hm (Ny ws 0 ws.length) 0 zN 4294967295 (by omega) (by unfold zN; omega)
  rw [nI0] at e
  unfold f_X2_barredByAll
  rw [show zr 0 5 = 19 by decide +kernel, e, bindE]
  refine ⟨z, N, rfl, hS, fun r hr => lb_ext (fun k hk => ?_)⟩
  rw [lb_0, lb_and]
  cases hb : lb z k with
  | false => rfl
  | true => rw [(hz k hk hb).2 r (Nat.zero_le _) hr]; rfl
theorem s_same (h : SS ws tp od a1 a2 im M) (hm : Ny ws 0 ws.length ≤ 200) {r : Nat} (hr : r < Ny ws 0 ws.length) : ∃ N, f_X11_same 0 (nI r) (nI r) M = some (1, N) ∧ SS ws tp od a1 a2 im N := by
  unfold f_X11_same
  refine exS (qS (fun x => x) h (P := fun a => a = 1) (fun N => by simp only [zletE]; rw [if_neg (by decide)]) (fun q => absurd hm q) (fun N hS hL _ => ?_))
  rw [if_pos rfl]
  simp only [zletE]
  rw [noR_t hL hm hr, if_pos rfl, if_pos rfl, show zr 0 5 = 19 by decide +kernel, if_pos (by rw [lg_cmp_eq])]
  exact ⟨_, N, rfl, hS, rfl⟩
theorem least0 {N : ZM} : ∀ k c fuel, c + k = 32 → k < fuel → f_X11_leastCase_2 0 N (some ((-9) : Int32)) fuel (nI c) = some (-9) := by
  intro k
  induction k with
  | zero =>
    intro c fuel hi hf
    obtain ⟨fuel, rfl⟩ : ∃ m, fuel = m + 1 := ⟨fuel - 1, by omega⟩
    rw [f_X11_leastCase_2, show (32 : Int32) = nI 32 from rfl, if_pos (by rw [nI_le' (by omega) (by omega)]; omega)]
  | succ k ih =>
    intro c fuel hi hf
    obtain ⟨fuel, rfl⟩ : ∃ m, fuel = m + 1 := ⟨fuel - 1, by omega⟩
    rw [f_X11_leastCase_2, show (32 : Int32) = nI 32 from rfl, if_neg (by rw [nI_le' (by omega) (by omega)]; omega)]
    simp only [zletE]
    rw [bitL (by omega), lb_0, if_neg (by decide), nI_s]
    exact ih (c + 1) fuel (by omega) (by omega)
theorem s_part (h : SS ws tp od a1 a2 im M) (hm : Ny ws 0 ws.length ≤ 200) {r : Nat} (hr : r < Ny ws 0 ws.length) : ∃ N, f_X11_part 0 (nI r) (nI r) M = some (-9, N) ∧ SS ws tp od a1 a2 im N := by
  unfold f_X11_part
  refine exS (qS (fun x => x) h (P := fun a => a = -9) (fun N => by simp only [zletE]; rw [if_neg (by decide)]) (fun q => absurd hm q) (fun N hS hL _ => ?_))
  rw [if_pos rfl]
  simp only [zletE]
  have l0 := least0 (N := N) 32 0 zN (by omega) (by unfold zN; omega)
  rw [nI0] at l0
  unfold f_X11_leastCase
  rw [noR_t hL hm hr, if_pos rfl, if_pos rfl, show zr 0 5 = 19 by decide +kernel, Int64.xor_self, l0, bindE]
  exact ⟨_, N, rfl, hS, rfl⟩
theorem s_idle (h : SS ws tp od a1 a2 im M) (hm : Ny ws 0 ws.length ≤ 200) {r : Nat} (hr : r < Ny ws 0 ws.length) : ∃ N, f_X11_idle 0 (nI r) M = some (Ix ws r, N) ∧ SS ws tp od a1 a2 im N := by
  unfold f_X11_idle
  refine exS (qS (fun x => x) h (P := fun a => a = Ix ws r) (fun N => by simp only [zletE]; rw [if_neg (by decide)]) (fun q => absurd hm q) (fun N hS hL _ => ?_))
  rw [if_pos rfl]
  simp only [zletE]
  rw [noR_t hL hm hr, if_pos rfl, show zr 0 5 = 19 by decide +kernel, idl_ok hL hm hr]
  exact ⟨_, N, rfl, hS, rfl⟩
theorem lca (x y : Int32) (k : Nat) : lc (x &&& y) k = true ↔ lc x k = true ∧ lc y k = true := by rw [lc_and, Bool.and_eq_true]
theorem lc_xm : ∀ {x : Int32} {k : Nat}, k < 32 → lc (x ^^^ (-1)) k = !lc x k := by
  intro x k h
  unfold lc
  rw [Int32.toBitVec_xor, BitVec.getLsbD_xor]
  have : (-1 : Int32).toBitVec.getLsbD k = true := by
    have : ∀ k, k < 32 → (-1 : Int32).toBitVec.getLsbD k = true := by decide +kernel
    exact this k h
  rw [this]
  cases x.toBitVec.getLsbD k <;> rfl
theorem needL {N : ZM} (hL : LM ws N) (hm : Ny ws 0 ws.length ≤ 200) : ∀ k i fuel x, i + k = Ny ws 0 ws.length → k < fuel → ∃ z, f_X2_idleInAll_8 19 N (fun (v1 : Int32) => some v1) fuel x (nI i) = some z ∧ ∀ c, lc z c = true → lc x c = true ∧ ∀ r, i ≤ r → r < Ny ws 0 ws.length → lc (Ix ws r) c = true := by
  intro k
  induction k with
  | zero =>
    intro i fuel x hi hf
    obtain ⟨fuel, rfl⟩ : ∃ m, fuel = m + 1 := ⟨fuel - 1, by omega⟩
    rw [f_X2_idleInAll_8, hL.1, if_pos (by rw [nI_le' (by omega) (by omega)]; omega)]
    exact ⟨x, rfl, fun c hc => ⟨hc, fun r h1 h2 => by omega⟩⟩
  | succ k ih =>
    intro i fuel x hi hf
    obtain ⟨fuel, rfl⟩ : ∃ m, fuel = m + 1 := ⟨fuel - 1, by omega⟩
    rw [f_X2_idleInAll_8, hL.1, if_neg (by rw [nI_le' (by omega) (by omega)]; omega)]
    simp only [zletE]
    rw [idl_ok hL hm (by omega), nI_s]
    obtain ⟨z, e, hz⟩ := ih (i + 1) fuel (x &&& Ix ws i) (by omega) (by omega)
    refine ⟨z, e, fun c hc => ?_⟩
    obtain ⟨h1, h2⟩ := hz c hc
    rw [lca] at h1
    refine ⟨h1.1, fun r g1 g2 => ?_⟩
    by_cases q : r = i
    · rw [q]; exact h1.2
    · exact h2 r (by omega) g2
theorem s_needless (h : SS ws tp od a1 a2 im M) : ∃ a N, f_X11_needless 0 M = some (a, N) ∧ SS ws tp od a1 a2 im N ∧ (Ny ws 0 ws.length ≤ 200 → ∀ r, r < Ny ws 0 ws.length → a &&& (Ix ws r ^^^ (-1)) = 0) := by
  unfold f_X11_needless
  refine qS (fun x => x) h (P := fun a => Ny ws 0 ws.length ≤ 200 → ∀ r, r < Ny ws 0 ws.length → a &&& (Ix ws r ^^^ (-1)) = 0) (fun N => by simp only [zletE]; rw [if_neg (by decide)]) (fun q z => absurd z q) (fun N hS hL hm => ?_)
  rw [if_pos rfl]
  have h0 := SS_pos hS
  obtain ⟨z, e, hz⟩ := needL hL hm (Ny ws 0 ws.length - 1) 1 zN (Ix ws 0) (by omega) (by unfold zN; omega)
  unfold f_X2_idleInAll
  simp only [zletE]
  have i0 := idl_ok hL hm h0
  rw [nI0] at i0
  rw [show nI 1 = 1 from rfl] at e
  rw [show zr 0 5 = 19 by decide +kernel, i0, e, bindE]
  refine ⟨z, N, rfl, hS, fun _ r hr => lc_ext (fun k hk => ?_)⟩
  rw [lc_0, lc_and, lc_xm hk]
  cases hb : lc z k with
  | false => rfl
  | true =>
    have q := hz k hb
    by_cases r0 : r = 0
    · rw [r0, q.1]; rfl
    · rw [q.2 r (by omega) hr]; rfl
end SP
