/-! a new object; cells of the script; how the law makes its sentence -/
theorem okw_a : okw [97] := ⟨by decide, by decide +kernel⟩
theorem start_ok : ∃ M1 : ZM, f_X9_reckon (zr 0 3) (zr 0 1) (f_X10_add (zr 0 1) 97 zZ) = some M1 ∧ SS [97] [] [] [] [] none (zmix M1) := by
  rw [show zr 0 3 = 7 by decide +kernel, show zr 0 1 = 3 by decide +kernel]
  have h0 : WH zZ 3 [] := ⟨nI0.symm, fun k hk => absurd hk (Nat.not_lt_zero _)⟩
  have hA := add_ok WG3 (v := 97) h0 (by decide)
  have FA : Fr [3, 4] zZ (f_X10_add 3 97 zZ) := Fr_sub hA.2 (by decide +kernel)
  have hA1 : WH (f_X10_add 3 97 zZ) 3 [97] := hA.1
  obtain ⟨M1, e1, d1, w1, F1⟩ := reckon_ok (ws := [97]) (by decide) hA1 (fun i _ => by rw [Fr_2 FA (by decide)]; rfl)
  refine ⟨M1, e1, ⟨okw_a, Nat.zero_le _, ⟨Nat.zero_le _, List.nodup_nil, fun x hx => absurd hx List.not_mem_nil⟩, ⟨Nat.zero_le _, rfl, fun x hx => absurd hx List.not_mem_nil⟩, fun q hq => by cases hq⟩, fun _ => 0, ?_⟩
  have lo : ∀ b, b < 50 → (zmix M1).1 b = M1.1 b ∧ (zmix M1).2 b = M1.2 b := by
    intro b hb
    refine ⟨?_, ?_⟩
    · funext j
      show (if b < 50 then M1.1 b j else 0) = _
      rw [if_pos hb]
    · funext j
      show (if b < 50 then M1.2 b j else 0) = _
      rw [if_pos hb]
  have z : ∀ b j, b < 50 → b ∉ [3, 4, 8, 9] → (zmix M1).1 b j = 0 := by
    intro b j hb hn
    have t1 : ∀ c, c ∈ [8, 9] → c ∈ [3, 4, 8, 9] := by decide
    have t2 : ∀ c, c ∈ [3, 4] → c ∈ [3, 4, 8, 9] := by decide
    rw [(lo b hb).1, Fr_1 F1 (fun h => hn (t1 b h)), Fr_1 FA (fun h => hn (t2 b h))]
    rfl
  have nil : ∀ c f r : Nat, (zmix M1).1 c f = 0 → LH (zmix M1) c f r [] := fun c f r h => ⟨h.trans nI0.symm, fun k hk => absurd hk (Nat.not_lt_zero _)⟩
  have hw3 : WH (zmix M1) 3 [97] := by
    have : WH M1 3 [97] := WH_Fr hA1 F1 (by decide) (by decide +kernel)
    refine ⟨by rw [(lo 3 (by decide)).1]; exact this.1, fun k hk => ?_⟩
    rw [show zr 3 0 = 4 by decide +kernel, (lo 4 (by decide)).1]
    exact this.2 k hk
  exact ⟨nil 1 1 (zr 1 0) (z 1 1 (by decide) (by decide)), hw3, nil 29 1 30 (z 29 1 (by decide) (by decide)), nil 38 2 39 (z 38 2 (by decide) (by decide)), nil 38 2 40 (z 38 2 (by decide) (by decide)), fun k _ => z 49 k (by decide) (by decide), by rw [z 41 3 (by decide) (by decide)]; rfl, fun q hq => (by cases hq), fun i hi => by rw [(lo 8 (by decide)).2]; exact d1 i hi, fun i j hi hj' => ⟨by rw [(lo 8 (by decide)).2]; exact (w1 i j hi hj').1, by rw [(lo 9 (by decide)).2]; exact (w1 i j hi hj').2⟩, Or.inl (z 19 5 (by decide) (by decide))⟩
theorem nI_self (x : Int32) : nI x.toBitVec.toNat = x := by
  apply Int32.toBitVec_inj.mp
  show BitVec.ofNat 32 x.toBitVec.toNat = x.toBitVec
  rw [BitVec.ofNat_toNat, BitVec.setWidth_eq]
/-- the low bits of an int -/
theorem and_nI (y : Int32) {k : Nat} (hk : k < 2147483648) : ∃ m, m ≤ k ∧ y &&& nI k = nI m := by
  refine ⟨(y &&& nI k).toBitVec.toNat, ?_, (nI_self _).symm⟩
  rw [Int32.toBitVec_and, BitVec.toNat_and]
  have : (nI k).toBitVec.toNat = k := by
    show (BitVec.ofNat 32 k).toNat = k
    rw [BitVec.toNat_ofNat, Nat.mod_eq_of_lt (by omega)]
  rw [this]
  exact Nat.and_le_right
theorem cell_ok {L : Nat} (hL : L ≤ 260) (xs : Nat → Int32) (M : ZM) {j : Nat} (hj : j < 1000) : ∃ v, f_L_cell L xs (nI j) M = some v := by
  unfold f_L_cell
  simp only [zletE]
  by_cases q : L ≤ j
  · rw [show Int32.ofNat L = nI L from rfl, if_pos (show nI L ≤ nI j by rw [nI_le' (by omega) (by omega)]; exact q)]
    exact ⟨_, rfl⟩
  · rw [show Int32.ofNat L = nI L from rfl, if_neg (show ¬ nI L ≤ nI j by rw [nI_le' (by omega) (by omega)]; exact q), zckT (zin_t (by omega) (by omega))]
    exact ⟨_, rfl⟩
theorem stir_ok {L : Nat} (hL : L ≤ 260) (xs : Nat → Int32) (M : ZM) {n : Nat} (hn : n < 100) : ∃ v, f_L_stir L xs 0 (nI n) M = some v := by
  unfold f_L_stir
  have h1 : (0 : Int32) + 1 + nI n / 3 = nI (1 + n / 3) := by rw [show (3 : Int32) = nI 3 from rfl, pk_div (by omega) (by omega) (by omega), show (0 : Int32) + 1 = nI 1 from rfl, nJ_add]
  have h2 : (0 : Int32) + 2 + (nI n - nI n / 3 * 3) = nI (2 + n % 3) := by rw [show (3 : Int32) = nI 3 from rfl, pk_rem (by omega) (by omega) (by omega), show (0 : Int32) + 2 = nI 2 from rfl, nJ_add]
  rw [zckT (by decide), h1]
  obtain ⟨a, ea⟩ := cell_ok hL xs M (show 1 + n / 3 < 1000 by omega)
  obtain ⟨b, eb⟩ := cell_ok hL xs M (show 2 + n % 3 < 1000 by omega)
  rw [ea, bindE, zckT (by decide), h2, eb, bindE]
  simp only [zletE]
  exact ⟨_, rfl⟩
theorem zl_in {α β : Type} {P : β → Prop} {a : α} {f : α → β} (h : ∀ J, J = a → P (f J)) : P (zlet a f) := by
  rw [zletE]
  exact h a rfl
theorem if_in {β : Type} {P : β → Prop} {c : Prop} [Decidable c] {a b : β} (h1 : c → P a) (h2 : ¬ c → P b) : P (if c then a else b) := by
  by_cases q : c
  · rw [if_pos q]; exact h1 q
  · rw [if_neg q]; exact h2 q
/-- the words so far, read: whether they are whole, how many brackets stand -/
def pf (U : List Int32) (w : Bool) (o : Nat) : Prop := ∀ (f : Nat → Int32) (c : Nat), (∀ j, j < U.length → f j = wa U j) → fl f (U.length + c) true 0 0 = fl f c (!w) o U.length
theorem pf_0 : pf [] false 0 := fun f c _ => by rw [show ([] : List Int32).length + c = c from Nat.zero_add c]; rfl
theorem pf_s {U : List Int32} {w : Bool} {o : Nat} (h : pf U w o) {v : Int32} {w' : Bool} {o' : Nat} (hs : ∀ f : Nat → Int32, f U.length = v → ∀ c, fl f (c + 1) (!w) o U.length = fl f c (!w') o' (U.length + 1)) : pf (U ++ [v]) w' o' := by
  intro f c hf
  rw [List.length_append, List.length_singleton] at hf ⊢
  have h1 := h f (c + 1) (fun j hj => by rw [hf j (by omega), wa_app hj])
  rw [show U.length + 1 + c = U.length + (c + 1) by omega, h1]
  exact hs f (by rw [hf _ (by omega), wa_end]) c
theorem pf_open {U : List Int32} {o : Nat} (h : pf U false o) (ho : o < 4) : pf (U ++ [40]) false (o + 1) := pf_s h (fun f hf c => by
  rw [show (!false) = true from rfl, fl, hf, if_pos rfl, if_pos ho])
theorem pf_let {U : List Int32} {o : Nat} (h : pf U false o) {v : Int32} (hv : kd v = 0) : pf (U ++ [v]) true o := pf_s h (fun f hf c => by
  rw [show (!false) = true from rfl, fl, hf, if_neg (kd0_ne hv).1, if_pos hv]; rfl)
theorem pf_not {U : List Int32} {o : Nat} (h : pf U false o) : pf (U ++ [33]) false o := pf_s h (fun f hf c => by
  rw [show (!false) = true from rfl, fl, hf, if_neg (by decide), if_neg (by decide), if_pos rfl])
theorem pf_close {U : List Int32} {o : Nat} (h : pf U true o) (ho : 0 < o) : pf (U ++ [41]) true (o - 1) := pf_s h (fun f hf c => by
  rw [show (!true) = false from rfl, fl, hf, if_pos rfl, if_pos ho])
theorem pf_join {U : List Int32} {o : Nat} (h : pf U true o) {v : Int32} (hv : jn v = true) : pf (U ++ [v]) false o := pf_s h (fun f hf c => by
  rw [show (!true) = false from rfl, fl, hf, if_neg (jn_ne hv).2.1, if_pos hv]; rfl)
theorem pf_end {U : List Int32} (h : pf U true 0) (hl : U.length ≤ 21) : okw U := by
  refine ⟨hl, ?_⟩
  have := h (wa U) 0 (fun _ _ => rfl)
  rw [Nat.add_zero] at this
  rw [this]
  rfl
