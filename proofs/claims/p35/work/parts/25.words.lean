theorem Ny_pos {ws : List Int32} : ∀ t i, sp ws i t → i + ln t ≤ ws.length → ws.length ≤ 21 → 0 < Ny ws i (i + ln t) := by
  apply sp_ind
  · intro i c h hl hn
    rw [Ny_eq (by simp only [ln]; omega) (by simp only [ln]; omega), Fy_0 h, if_pos (by simp only [ln])]
    omega
  · intro i a h hs ih hl hn
    have h1 := ih (by simp only [ln] at hl; omega) hn
    rw [Ny_eq (by simp only [ln]; omega) (by simp only [ln] at hl ⊢; omega), Fy_1 (kd1.mpr h), show i + ln (.neg a) = i + 1 + ln a by simp only [ln]; omega]
    omega
  · intro i a k h h' hs ih hl hn
    simp only [ln] at hl
    have h1 := ih (by omega) hn
    rw [Ny_eq (by simp only [ln]; omega) (by simp only [ln]; omega), Fy_2 (kd2.mpr h), if_pos (by rw [clo_sp41 hs (by omega) h']; simp only [ln]; omega), show i + ln (.pow a k) - 1 = i + 1 + ln a by simp only [ln]; omega]
    omega
  · intro i a b h hsa hsb iha ihb hl hn
    simp only [ln] at hl
    have h1 := iha (by omega) hn
    have h2 := ihb (by omega) hn
    have l1 := ln_pos a
    have l2 := ln_pos b
    have h3 := hj_le (ws := ws) (i := i) (j := i + ln (.add a b)) (k := i + ln a) (by omega) (by simp only [ln]; omega) (by simp only [ln]; omega)
    have h4 : hj ws i (i + ln (.add a b)) (i + ln a) = Ny ws i (i + ln a) * Ny ws (i + ln a + 1) (i + ln (.add a b)) := by
      unfold hj hjg
      rw [if_pos h]
    rw [h4, show i + ln (.add a b) = i + ln a + 1 + ln b by simp only [ln]; omega] at h3
    rw [show i + ln (.add a b) = i + ln a + 1 + ln b by simp only [ln]; omega]
    exact Nat.lt_of_lt_of_le (Nat.mul_pos h1 h2) h3
/-- the place of the fault: how many words are left, whether a phrase is due, how many brackets stand, the place -/
def fl (w : Nat → Int32) : Nat → Bool → Nat → Nat → Option Nat
  | 0, d, o, i => if d = false ∧ o = 0 then none else some i
  | c + 1, true, o, i => if w i = 40 then (if o < 4 then fl w c true (o + 1) (i + 1) else some i) else if kd (w i) = 0 then fl w c false o (i + 1) else if w i = 33 then fl w c true o (i + 1) else some i
  | c + 1, false, o, i => if w i = 41 then (if 0 < o then fl w c false (o - 1) (i + 1) else some i) else if jn (w i) = true then fl w c true o (i + 1) else some i
theorem fl_sp {ws : List Int32} : ∀ c o i, i + c = ws.length → fl (wa ws) c true o i = none → ∃ t, sp ws i t ∧ ln t ≤ c ∧ fl (wa ws) (c - ln t) false o (i + ln t) = none ∧ (ln t = c ∨ (ln t < c ∧ wa ws (i + ln t) = 41)) := by
  intro c
  induction c using Nat.strongRecOn with
  | ind c ih =>
    intro o i hc h
    have cont : ∀ a, sp ws i a → ln a ≤ c → fl (wa ws) (c - ln a) false o (i + ln a) = none → ∃ t, sp ws i t ∧ ln t ≤ c ∧ fl (wa ws) (c - ln t) false o (i + ln t) = none ∧ (ln t = c ∨ (ln t < c ∧ wa ws (i + ln t) = 41)) := by
      intro a ha hl hf
      by_cases he : ln a = c
      · exact ⟨a, ha, hl, hf, Or.inl he⟩
      · obtain ⟨c', hc'⟩ : ∃ c', c - ln a = c' + 1 := ⟨c - ln a - 1, by omega⟩
        by_cases h41 : wa ws (i + ln a) = 41
        · exact ⟨a, ha, hl, hf, Or.inr ⟨by omega, h41⟩⟩
        · rw [hc', fl, if_neg h41] at hf
          by_cases hj : jn (wa ws (i + ln a)) = true
          · rw [if_pos hj] at hf
            have lp := ln_pos a
            obtain ⟨b, hb, hbl, hbf, hbe⟩ := ih c' (by omega) o (i + ln a + 1) (by omega) hf
            refine ⟨.add a b, ⟨hj, ha, hb⟩, by simp only [ln]; omega, ?_, ?_⟩
            · rw [show c - ln (.add a b) = c' - ln b by simp only [ln]; omega, show i + ln (.add a b) = i + ln a + 1 + ln b by simp only [ln]; omega]
              exact hbf
            · rw [show i + ln (.add a b) = i + ln a + 1 + ln b by simp only [ln]; omega]
              simp only [ln]
              rcases hbe with hbe | hbe
              · left; omega
              · right; exact ⟨by omega, hbe.2⟩
          · rw [if_neg hj] at hf; cases hf
    rcases Nat.eq_zero_or_pos c with e | e
    · subst e
      rw [fl, if_neg (fun q => Bool.noConfusion q.1)] at h
      cases h
    · obtain ⟨c1, rfl⟩ : ∃ c1, c = c1 + 1 := ⟨c - 1, by omega⟩
      rw [fl] at h
      by_cases h40 : wa ws i = 40
      · rw [if_pos h40] at h
        by_cases ho : o < 4
        · rw [if_pos ho] at h
          obtain ⟨a, ha, hal, haf, hae⟩ := ih c1 (by omega) (o + 1) (i + 1) (by omega) h
          rcases hae with hae | hae
          · rw [show c1 - ln a = 0 by omega, fl, if_neg (fun q => Nat.noConfusion q.2)] at haf
            cases haf
          · obtain ⟨c2, hc2⟩ : ∃ c2, c1 - ln a = c2 + 1 := ⟨c1 - ln a - 1, by omega⟩
            rw [hc2, fl, if_pos hae.2, if_pos (by omega)] at haf
            apply cont (.pow a 0) ⟨h40, hae.2, ha⟩ (by simp only [ln]; omega)
            rw [show c1 + 1 - ln (.pow a 0) = c2 by simp only [ln]; omega, show i + ln (.pow a 0) = i + 1 + ln a + 1 by simp only [ln]; omega]
            exact haf
        · rw [if_neg ho] at h; cases h
      · rw [if_neg h40] at h
        by_cases h0 : kd (wa ws i) = 0
        · rw [if_pos h0] at h
          exact cont (.var 0) h0 (by simp only [ln]; omega) (by simp only [ln]; exact h)
        · rw [if_neg h0] at h
          by_cases h33 : wa ws i = 33
          · rw [if_pos h33] at h
            obtain ⟨a, ha, hal, haf, hae⟩ := ih c1 (by omega) o (i + 1) (by omega) h
            refine ⟨.neg a, ⟨h33, ha⟩, by simp only [ln]; omega, ?_, ?_⟩
            · rw [show c1 + 1 - ln (.neg a) = c1 - ln a by simp only [ln]; omega, show i + ln (.neg a) = i + 1 + ln a by simp only [ln]; omega]
              exact haf
            · rw [show i + ln (.neg a) = i + 1 + ln a by simp only [ln]; omega]
              simp only [ln]
              rcases hae with hae | hae
              · left; omega
              · right; exact ⟨by omega, hae.2⟩
          · rw [if_neg h33] at h; cases h
def okw (ws : List Int32) : Prop := ws.length ≤ 21 ∧ fl (wa ws) ws.length true 0 0 = none
theorem okw_pos {ws : List Int32} (h : okw ws) : 0 < Ny ws 0 ws.length := by
  obtain ⟨t, ht, htl, htf, hte⟩ := fl_sp ws.length 0 0 (by omega) h.2
  rcases hte with hte | hte
  · have := Ny_pos t 0 ht (by omega) h.1
    rwa [show 0 + ln t = ws.length by omega] at this
  · obtain ⟨c2, hc2⟩ : ∃ c2, ws.length - ln t = c2 + 1 := ⟨ws.length - ln t - 1, by omega⟩
    rw [hc2, fl, if_pos hte.2, if_neg (by omega)] at htf
    cases htf
theorem okw_len {ws : List Int32} (h : okw ws) : 0 < ws.length := by
  apply Classical.byContradiction
  intro q
  have := okw_pos h
  rw [Ny_0 q] at this
  omega
/-! which cells a step may change -/
def Fr (cs : List Nat) (M N : ZM) : Prop := ∀ b, b ∉ cs → N.1 b = M.1 b ∧ N.2 b = M.2 b
theorem Fr_rf (cs : List Nat) (M : ZM) : Fr cs M M := fun _ _ => ⟨rfl, rfl⟩
theorem Fr_tr {cs : List Nat} {M N P : ZM} (h : Fr cs M N) (h' : Fr cs N P) : Fr cs M P := fun b hb => ⟨(h' b hb).1.trans (h b hb).1, (h' b hb).2.trans (h b hb).2⟩
theorem Fr_sub {cs ds : List Nat} {M N : ZM} (h : Fr cs M N) (hs : ∀ b, b ∈ cs → b ∈ ds) : Fr ds M N := fun b hb => h b (fun q => hb (hs b q))
theorem Fr_zi {cs : List Nat} {M : ZM} {a k : Nat} {v : Int32} (h : a ∈ cs) : Fr cs M (zi M a k v) := fun b hb => ⟨by funext j; exact zi_ne (fun e => hb (e ▸ h)), rfl⟩
theorem Fr_zl {cs : List Nat} {M : ZM} {a k : Nat} {v : Int64} (h : a ∈ cs) : Fr cs M (zl M a k v) := fun b hb => ⟨rfl, by funext j; exact zl_ne (fun e => hb (e ▸ h))⟩
theorem Fr_1 {cs : List Nat} {M N : ZM} (h : Fr cs M N) {b : Nat} (hb : b ∉ cs) (k : Nat) : N.1 b k = M.1 b k := by rw [(h b hb).1]
theorem Fr_2 {cs : List Nat} {M N : ZM} (h : Fr cs M N) {b : Nat} (hb : b ∉ cs) (k : Nat) : N.2 b k = M.2 b k := by rw [(h b hb).2]
theorem zi_k {M : ZM} {a k : Nat} {v : Int32} {b j : Nat} (h : j ≠ k) : (zi M a k v).1 b j = M.1 b j := by rw [zi_1, if_neg (fun q => h q.2)]
theorem zl_k {M : ZM} {a k : Nat} {v : Int64} {b j : Nat} (h : j ≠ k) : (zl M a k v).2 b j = M.2 b j := by rw [zl_2, if_neg (fun q => h q.2)]
/-! texts in the memory of the first of the two -/
def WG (t : Nat) : Prop := zn (zr t 0) = 21 ∧ zr t 0 ≠ t
def WH (M : ZM) (t : Nat) (ws : List Int32) : Prop := M.1 t 1 = nI ws.length ∧ ∀ k, k < ws.length → M.1 (zr t 0) k = wa ws k
theorem WG1 : WG 1 := by unfold WG; decide +kernel
theorem WG3 : WG 3 := by unfold WG; decide +kernel
theorem WG5 : WG 5 := by unfold WG; decide +kernel
theorem WG42 : WG 42 := by unfold WG; decide +kernel
theorem WH_Fr {M N : ZM} {t : Nat} {ws : List Int32} {cs : List Nat} (h : WH M t ws) (hf : Fr cs M N) (h1 : t ∉ cs) (h2 : zr t 0 ∉ cs) : WH N t ws :=
  ⟨by rw [Fr_1 hf h1]; exact h.1, fun k hk => by rw [Fr_1 hf h2]; exact h.2 k hk⟩
theorem wa_app {ws : List Int32} {v : Int32} {k : Nat} (h : k < ws.length) : wa (ws ++ [v]) k = wa ws k := by
  unfold wa
  rw [List.getD_eq_getElem?_getD, List.getD_eq_getElem?_getD, List.getElem?_append_left h]
theorem wa_end {ws : List Int32} {v : Int32} : wa (ws ++ [v]) ws.length = v := by
  unfold wa
  rw [List.getD_eq_getElem?_getD, List.getElem?_append_right (Nat.le_refl _), Nat.sub_self]
  rfl
theorem wa_take {ws : List Int32} {i : Nat} (h : i < ws.length) : ws.take i ++ [wa ws i] = ws.take (i + 1) := by
  unfold wa
  rw [List.take_succ, List.getD_eq_getElem?_getD, List.getElem?_eq_getElem h]
  rfl
theorem at_ok {t : Nat} (g : WG t) {M : ZM} {ws : List Int32} (h : WH M t ws) (hl : ws.length ≤ 21) {i : Nat} (hi : i < ws.length) : f_X10_at t (nI i) M = wa ws i := by
  unfold f_X10_at
  simp only [zlet]
  rw [look_nI (by rw [g.1]; omega) (by omega)]
  exact h.2 i hi
theorem add_ok {t : Nat} (g : WG t) {M : ZM} {ws : List Int32} {v : Int32} (h : WH M t ws) (hl : ws.length < 21) : WH (f_X10_add t v M) t (ws ++ [v]) ∧ Fr [t, zr t 0] M (f_X10_add t v M) := by
  have e : f_X10_add t v M = zi (zi M (zr t 0) ws.length v) t 1 (nI (ws.length + 1)) := by
    unfold f_X10_add
    simp only [zlet]
    rw [h.1, if_neg (by rw [show (21 : Int32) = nI 21 from rfl, nI_le' (by omega) (by omega)]; omega), put_nI (by rw [g.1]; exact hl) (by omega), zi_ne (Ne.symm g.2), h.1, nI_s]
  rw [e]
  refine ⟨⟨?_, ?_⟩, Fr_tr (Fr_zi (List.mem_cons_of_mem _ (List.mem_cons_self ..))) (Fr_zi (List.mem_cons_self ..))⟩
  · rw [zi_eq, List.length_append]; rfl
  · intro k hk
    rw [List.length_append] at hk
    have hk : k < ws.length + 1 := hk
    rw [zi_ne g.2]
    by_cases q : k = ws.length
    · subst q; rw [zi_eq, wa_end]
    · rw [zi_k q, wa_app (by omega)]; exact h.2 k (by omega)
theorem clear_ok {t : Nat} (M : ZM) : WH (f_X10_clear t M) t [] ∧ Fr [t, zr t 0] M (f_X10_clear t M) := by
  unfold f_X10_clear
  simp only [zlet]
  exact ⟨⟨zi_eq, fun k hk => absurd hk (Nat.not_lt_zero _)⟩, Fr_zi (List.mem_cons_self ..)⟩
theorem become6_ok {t u : Nat} (g : WG t) (gu : WG u) (h1 : u ∉ [t, zr t 0]) (h2 : zr u 0 ∉ [t, zr t 0]) {ws : List Int32} (hl : ws.length ≤ 21) (K : ZM → Option ZM) : ∀ c i fuel M, i + c = ws.length → c < fuel → WH M u ws → WH M t (ws.take i) → ∃ N, f_X10_become_6 t u K fuel (nI i) M = K N ∧ WH N t ws ∧ Fr [t, zr t 0] M N := by
  intro c
  induction c with
  | zero =>
    intro i fuel M hi hf hu ht
    obtain ⟨fuel, rfl⟩ : ∃ m, fuel = m + 1 := ⟨fuel - 1, by omega⟩
    rw [f_X10_become_6, hu.1, if_pos (by rw [nI_le' (by omega) (by omega)]; omega)]
    refine ⟨M, rfl, ?_, Fr_rf _ _⟩
    rwa [List.take_of_length_le (by omega)] at ht
  | succ c ih =>
    intro i fuel M hi hf hu ht
    obtain ⟨fuel, rfl⟩ : ∃ m, fuel = m + 1 := ⟨fuel - 1, by omega⟩
    rw [f_X10_become_6, hu.1, if_neg (by rw [nI_le' (by omega) (by omega)]; omega)]
    simp only [zlet]
    rw [at_ok gu hu hl (by omega), nI_s]
    have hlt : (ws.take i).length = i := by rw [List.length_take]; omega
    have ha := add_ok g (v := wa ws i) ht (by omega)
    rw [wa_take (by omega)] at ha
    obtain ⟨N, e, hN, hF⟩ := ih (i + 1) fuel _ (by omega) (by omega) (WH_Fr hu ha.2 h1 h2) ha.1
    exact ⟨N, e, hN, Fr_tr ha.2 hF⟩
theorem become_ok {t u : Nat} (g : WG t) (gu : WG u) (h1 : u ∉ [t, zr t 0]) (h2 : zr u 0 ∉ [t, zr t 0]) {ws : List Int32} (hl : ws.length ≤ 21) {M : ZM} (hu : WH M u ws) : ∃ N, f_X10_become t u M = some N ∧ WH N t ws ∧ Fr [t, zr t 0] M N := by
  unfold f_X10_become
  simp only [zlet]
  have hc := clear_ok (t := t) M
  obtain ⟨N, e, hN, hF⟩ := become6_ok g gu h1 h2 hl (fun M => some M) ws.length 0 zN _ (by omega) (by unfold zN; omega) (WH_Fr hu hc.2 h1 h2) hc.1
  exact ⟨N, e, hN, Fr_tr hc.2 hF⟩
theorem kdM (c : Int32) (M : ZM) : f_X11_kindOf c M = kd c := rfl
theorem isj (c : Int32) (M : ZM) : f_X11_isJoin (kd c) M = if jn c = true then 1 else 0 := by
  unfold f_X11_isJoin jn
  by_cases h : 3 ≤ kd c
  · rw [if_neg (Int32.not_lt.mpr h), if_pos (decide_eq_true h)]
  · rw [if_pos (Int32.not_le.mp h), if_neg (by rw [decide_eq_false h]; decide)]
theorem nI_p1 {a : Nat} : nI (a + 1) + (-1) = nI a := nI_m1 (by omega)
def ff (q : Option Nat) : Option Int32 := match q with | none => some (-1) | some p => some (nI p)
theorem fault6_ok {t : Nat} (g : WG t) {ws : List Int32} (hl : ws.length ≤ 21) {M : ZM} (h : WH M t ws) : ∀ c i fuel o d, i + c = ws.length → c < fuel → o ≤ 4 → f_X10_fault_6 t M (fun (v1 : Int32) (v2 : Int32) =>
    if v1 = 0 then (
      if v2 ≤ 0 then (
        some ((-1) : Int32)) else (
        some (M.1 t 1))) else (
      some (M.1 t 1))) fuel (if d = true then 1 else 0) (nI o) (nI i) = ff (fl (wa ws) c d o i) := by
  intro c
  induction c with
  | zero =>
    intro i fuel o d hi hf ho
    obtain ⟨fuel, rfl⟩ : ∃ m, fuel = m + 1 := ⟨fuel - 1, by omega⟩
    rw [f_X10_fault_6, h.1]
    simp only [zlet]
    rw [if_pos (by rw [nI_le' (by omega) (by omega)]; omega), fl]
    have hi' : i = ws.length := by omega
    cases d with
    | true =>
      rw [if_pos rfl, if_neg (by decide), if_neg (fun q => Bool.noConfusion q.1), hi']
      rfl
    | false =>
      rw [show (if false = true then (1 : Int32) else 0) = 0 from rfl, if_pos rfl]
      by_cases q : o = 0
      · rw [q, if_pos (by decide +kernel), if_pos ⟨rfl, rfl⟩]; rfl
      · rw [if_neg (by rw [show (0 : Int32) = nI 0 from rfl, nI_le' (by omega) (by omega)]; omega), if_neg (fun z => q z.2), hi']; rfl
  | succ c ih =>
    intro i fuel o d hi hf ho
    obtain ⟨fuel, rfl⟩ : ∃ m, fuel = m + 1 := ⟨fuel - 1, by omega⟩
    rw [f_X10_fault_6, h.1]
    simp only [zlet, kdM, isj]
    rw [if_neg (by rw [nI_le' (by omega) (by omega)]; omega), at_ok g h hl (by omega)]
    have o4 : (4 : Int32) ≤ nI o ↔ 4 ≤ o := by rw [show (4 : Int32) = nI 4 from rfl, nI_le' (by omega) (by omega)]
    have o0 : nI o ≤ (0 : Int32) ↔ o ≤ 0 := by rw [show (0 : Int32) = nI 0 from rfl, nI_le' (by omega) (by omega)]
    have it := fun o' ho' => ih (i + 1) fuel o' true (by omega) (by omega) ho'
    have iF := fun o' ho' => ih (i + 1) fuel o' false (by omega) (by omega) ho'
    rw [if_pos rfl] at it
    rw [show (if false = true then (1 : Int32) else 0) = 0 from rfl] at iF
    rw [h.1] at it iF
    cases d with
    | true =>
      rw [show (if true = true then (1 : Int32) else 0) = 1 from rfl, if_neg (by decide), fl, nI_s, nI_s]
      by_cases h40 : wa ws i = 40
      · rw [if_pos h40, if_pos h40]
        by_cases q : o < 4
        · rw [if_neg (by rw [o4]; omega), if_pos q]; exact it _ (by omega)
        · rw [if_pos (by rw [o4]; omega), if_neg q, if_neg (by decide), if_neg (by rw [h40]; decide), if_neg (by decide), if_neg (by decide), if_neg (by decide), if_neg (by rw [h40]; decide)]; rfl
      · rw [if_neg h40, if_neg h40, if_neg (by decide)]
        by_cases h0 : kd (wa ws i) = 0
        · rw [if_pos h0, if_pos h0]; exact iF _ ho
        · rw [if_neg h0, if_neg h0, if_neg (by decide), if_neg (by decide), if_neg (by decide)]
          by_cases h33 : wa ws i = 33
          · rw [if_pos h33, if_pos h33]; exact it _ ho
          · rw [if_neg h33, if_neg h33]; rfl
    | false =>
      rw [show (if false = true then (1 : Int32) else 0) = 0 from rfl, if_pos rfl, if_pos rfl, if_pos rfl, if_pos rfl, fl, nI_s]
      by_cases h41 : wa ws i = 41
      · rw [if_pos h41, if_pos h41]
        by_cases q : 0 < o
        · rw [if_neg (by rw [o0]; omega), if_pos q, nI_m1 q]; exact iF _ (by omega)
        · rw [if_pos (by rw [o0]; omega), if_neg q, h41, if_pos (by decide), if_pos rfl]; rfl
      · rw [if_neg h41, if_neg h41]
        by_cases hj : jn (wa ws i) = true
        · rw [if_neg (by rw [if_pos hj]; decide), if_pos hj]; exact it _ ho
        · rw [if_pos (by rw [if_neg hj]), if_neg hj, if_pos rfl]; rfl
theorem fault_ok {t : Nat} (g : WG t) {ws : List Int32} (hl : ws.length ≤ 21) {M : ZM} (h : WH M t ws) : f_X10_fault t M = ff (fl (wa ws) ws.length true 0 0) := by
  unfold f_X10_fault
  exact fault6_ok g hl h ws.length 0 zN 0 true (by omega) (by unfold zN; omega) (by omega)
