def lb (x : Int64) (k : Nat) : Bool := x.toBitVec.getLsbD k
theorem lb_ext {x y : Int64} (h : ∀ k, k < 64 → lb x k = lb y k) : x = y := Int64.toBitVec_inj.mp (BitVec.eq_of_getLsbD_eq h)
theorem lb_and (x y : Int64) (k : Nat) : lb (x &&& y) k = (lb x k && lb y k) := by unfold lb; rw [Int64.toBitVec_and, BitVec.getLsbD_and]
theorem lb_or (x y : Int64) (k : Nat) : lb (x ||| y) k = (lb x k || lb y k) := by unfold lb; rw [Int64.toBitVec_or, BitVec.getLsbD_or]
theorem lb_xor (x y : Int64) (k : Nat) : lb (x ^^^ y) k = (lb x k ^^ lb y k) := by unfold lb; rw [Int64.toBitVec_xor, BitVec.getLsbD_xor]
theorem lb_0 (k : Nat) : lb 0 k = false := by
  show (BitVec.ofNat 64 0).getLsbD k = false
  rw [BitVec.getLsbD_ofNat, Nat.zero_testBit, Bool.and_false]
theorem lb_m1 {k : Nat} (h : k < 64) : lb (-1) k = true := by
  show (BitVec.ofNat 64 (2 ^ 64 - 1)).getLsbD k = true
  rw [BitVec.getLsbD_ofNat, Nat.testBit_two_pow_sub_one]
  simp [h]
theorem lb_all (k : Nat) : lb 4294967295 k = decide (k < 32) := by
  show (BitVec.ofNat 64 (2 ^ 32 - 1)).getLsbD k = _
  rw [BitVec.getLsbD_ofNat, Nat.testBit_two_pow_sub_one]
  by_cases h : k < 32
  · simp [h]; omega
  · simp [h]
def msk (x : Int64) : Prop := ∀ k, 32 ≤ k → lb x k = false
theorem msk_0 : msk 0 := fun k _ => lb_0 k
theorem msk_all : msk 4294967295 := fun k h => by rw [lb_all, decide_eq_false (by omega)]
theorem msk_and {x y : Int64} (h : msk y) : msk (x &&& y) := fun k q => by rw [lb_and, h k q, Bool.and_false]
theorem msk_and' {x y : Int64} (h : msk x) : msk (x &&& y) := fun k q => by rw [lb_and, h k q, Bool.false_and]
theorem msk_or {x y : Int64} (h : msk x) (h' : msk y) : msk (x ||| y) := fun k q => by rw [lb_or, h k q, h' k q]; rfl
def jm (c : Int32) (x y : Int64) : Int64 := if c = 3 then x &&& y else if c = 4 then x ||| y else if c = 5 then 4294967295 &&& ((x ^^^ (-1)) ||| y) else x &&& (y ^^^ (-1))
theorem jm_msk {c : Int32} {x y : Int64} (hx : msk x) (hy : msk y) : msk (jm c x y) := by
  unfold jm
  split
  · exact msk_and hy
  · split
    · exact msk_or hx hy
    · split
      · exact msk_and' msk_all
      · exact msk_and' hx
theorem jm_m {c : Int32} {x y : Int64} (hx : msk x) (hy : msk y) : (if c = 3 then x &&& y else if c = 4 then x ||| y else if c = 5 then ((x ^^^ (-1)) &&& 4294967295) ||| y else (x &&& (y ^^^ (-1))) &&& 4294967295) = jm c x y := by
  unfold jm
  split
  · rfl
  · split
    · rfl
    · split
      · apply lb_ext
        intro k hk
        simp only [lb_and, lb_or, lb_xor, lb_m1 hk, lb_all]
        have hx := hx k
        have hy := hy k
        by_cases h : k < 32
        · simp [h]
        · rw [hx (by omega), hy (by omega)]; simp [h]
      · apply lb_ext
        intro k hk
        simp only [lb_and, lb_or, lb_xor, lb_m1 hk, lb_all]
        have hx := hx k
        by_cases h : k < 32
        · simp [h]
        · rw [hx (by omega)]; simp [h]
def mn (ev : Nat → Int64) (ws : List Int32) : Nat → zT → Int64
  | i, .neg a => 4294967295 &&& (mn ev ws (i + 1) a ^^^ (-1))
  | i, .pow a _ => mn ev ws (i + 1) a
  | i, .add a b => jm (kd (wa ws (i + ln a))) (mn ev ws i a) (mn ev ws (i + ln a + 1) b)
  | i, _ => ev i
theorem mn_msk {ev : Nat → Int64} {ws : List Int32} (h : ∀ p, msk (ev p)) : ∀ t i, msk (mn ev ws i t) := by
  intro t
  induction t with
  | neg a ih => intro i; exact msk_and' msk_all
  | pow a k ih => intro i; exact ih (i + 1)
  | add a b iha ihb => intro i; exact jm_msk (iha i) (ihb _)
  | _ => intro i; exact h i
theorem mn_ev {ev ev' : Nat → Int64} {ws : List Int32} : ∀ t i, (∀ p, i ≤ p → p < i + ln t → ev p = ev' p) → mn ev ws i t = mn ev' ws i t := by
  intro t
  induction t with
  | neg a ih =>
    intro i h
    rw [mn, mn, ih (i + 1) (fun p a b => h p (by omega) (by simp only [ln]; omega))]
  | pow a k ih =>
    intro i h
    rw [mn, mn, ih (i + 1) (fun p a b => h p (by omega) (by simp only [ln]; omega))]
  | add a b iha ihb =>
    intro i h
    rw [mn, mn, iha i (fun p a b => h p (by omega) (by simp only [ln]; omega)), ihb (i + ln a + 1) (fun p a b => h p (by omega) (by simp only [ln]; omega))]
  | _ => intro i h; exact h i (Nat.le_refl _) (by simp only [ln]; omega)
def sv (ev : Nat → Int64) (q : Nat) (v : Int64) : Nat → Int64 := fun p => if p = q then v else ev p
theorem sv_msk {ev : Nat → Int64} {q : Nat} {v : Int64} (h : ∀ p, msk (ev p)) (hv : msk v) (p : Nat) : msk (sv ev q v p) := by
  unfold sv; split
  · exact hv
  · exact h p
theorem mn_sv {ev : Nat → Int64} {ws : List Int32} {q : Nat} {v : Int64} {t : zT} {i : Nat} (h : q < i ∨ i + ln t ≤ q) : mn (sv ev q v) ws i t = mn ev ws i t :=
  mn_ev t i (fun p a b => by unfold sv; rw [if_neg (by omega)])
def sn (ev : Nat → Int64) (ws : List Int32) (q i : Nat) (t : zT) : Int64 := mn (sv ev q 4294967295) ws i t ^^^ mn (sv ev q 0) ws i t
def wl (c : Int32) (w y : Int64) : Int64 := w &&& (if c = 3 then y else y ^^^ (-1))
def wr (c : Int32) (w x : Int64) : Int64 := w &&& (if c = 4 then x ^^^ (-1) else x)
def iw (ev : Nat → Int64) (ws : List Int32) : Nat → zT → Int64 → Int32
  | i, .neg a, w => iw ev ws (i + 1) a w
  | i, .pow a _, w => iw ev ws (i + 1) a w
  | i, .add a b, w => iw ev ws i a (wl (kd (wa ws (i + ln a))) w (mn ev ws (i + ln a + 1) b)) ||| iw ev ws (i + ln a + 1) b (wr (kd (wa ws (i + ln a))) w (mn ev ws i a))
  | i, _, w => if w = 0 then 1 <<< (nI i &&& 31) else 0
def ob (f : Nat → Int32) : Nat → Nat → Int32
  | _, 0 => 0
  | lo, c + 1 => f lo ||| ob f (lo + 1) c
theorem ob_app {f : Nat → Int32} : ∀ c lo c', ob f lo (c + c') = ob f lo c ||| ob f (lo + c) c' := by
  intro c
  induction c with
  | zero => intro lo c'; rw [Nat.zero_add, ob, Nat.add_zero, Int32.zero_or]
  | succ c ih =>
    intro lo c'
    rw [show c + 1 + c' = (c + c') + 1 by omega, ob, ih, ob, show lo + 1 + c = lo + (c + 1) by omega, Int32.or_assoc]
theorem ob_congr {f g : Nat → Int32} : ∀ c lo, (∀ k, lo ≤ k → k < lo + c → f k = g k) → ob f lo c = ob g lo c := by
  intro c
  induction c with
  | zero => intro lo _; rfl
  | succ c ih =>
    intro lo h
    rw [ob, ob, h lo (by omega) (by omega), ih (lo + 1) (fun k a b => h k (by omega) (by omega))]
def ib (ev : Nat → Int64) (ws : List Int32) (i : Nat) (t : zT) (w : Int64) (q : Nat) : Int32 := if kd (wa ws q) = 0 ∧ w &&& sn ev ws q i t = 0 then 1 <<< (nI q &&& 31) else 0
theorem sn_l {ev : Nat → Int64} {ws : List Int32} {q i : Nat} {a b : zT} {w : Int64} (hv : ∀ p, msk (ev p)) (hj : jn (wa ws (i + ln a)) = true) (h1 : i ≤ q) (h2 : q < i + ln a) :
    w &&& sn ev ws q i (.add a b) = wl (kd (wa ws (i + ln a))) w (mn ev ws (i + ln a + 1) b) &&& sn ev ws q i a := by
  unfold sn
  rw [mn, mn, mn_sv (t := b) (by omega), mn_sv (t := b) (by omega)]
  have hb := mn_msk (ws := ws) hv b (i + ln a + 1)
  have h1 := mn_msk (ws := ws) (sv_msk (q := q) hv msk_all) a i
  have h0 := mn_msk (ws := ws) (sv_msk (q := q) hv msk_0) a i
  generalize mn ev ws (i + ln a + 1) b = B at hb ⊢
  generalize mn (sv ev q 4294967295) ws i a = A1 at h1 ⊢
  generalize mn (sv ev q 0) ws i a = A0 at h0 ⊢
  apply lb_ext
  intro k hk
  have hb := hb k
  have h1 := h1 k
  have h0 := h0 k
  rcases jn_or hj with e | e | e | e <;> (rw [e.1]; unfold jm wl)
  · rw [if_pos rfl, if_pos rfl, if_pos rfl]
    simp only [lb_and, lb_or, lb_xor, lb_m1 hk, lb_all]
    cases lb w k <;> cases lb B k <;> cases lb A1 k <;> cases lb A0 k <;> rfl
  · rw [if_neg (by decide), if_pos rfl, if_neg (by decide), if_pos rfl, if_neg (by decide)]
    simp only [lb_and, lb_or, lb_xor, lb_m1 hk, lb_all]
    cases lb w k <;> cases lb B k <;> cases lb A1 k <;> cases lb A0 k <;> rfl
  · rw [if_neg (by decide), if_neg (by decide), if_pos rfl, if_neg (by decide), if_neg (by decide), if_pos rfl, if_neg (by decide)]
    simp only [lb_and, lb_or, lb_xor, lb_m1 hk, lb_all]
    by_cases h : k < 32
    · rw [decide_eq_true h]
      cases lb w k <;> cases lb B k <;> cases lb A1 k <;> cases lb A0 k <;> rfl
    · rw [decide_eq_false h, h1 (by omega), h0 (by omega)]
      cases lb w k <;> cases lb B k <;> rfl
  · rw [if_neg (by decide), if_neg (by decide), if_neg (by decide), if_neg (by decide), if_neg (by decide), if_neg (by decide), if_neg (by decide)]
    simp only [lb_and, lb_or, lb_xor, lb_m1 hk, lb_all]
    cases lb w k <;> cases lb B k <;> cases lb A1 k <;> cases lb A0 k <;> rfl
theorem sn_r {ev : Nat → Int64} {ws : List Int32} {q i : Nat} {a b : zT} {w : Int64} (hv : ∀ p, msk (ev p)) (hj : jn (wa ws (i + ln a)) = true) (h1 : i + ln a + 1 ≤ q) (h2 : q < i + ln a + 1 + ln b) :
    w &&& sn ev ws q i (.add a b) = wr (kd (wa ws (i + ln a))) w (mn ev ws i a) &&& sn ev ws q (i + ln a + 1) b := by
  unfold sn
  rw [mn, mn, mn_sv (t := a) (by omega), mn_sv (t := a) (by omega)]
  have ha := mn_msk (ws := ws) hv a i
  have h1 := mn_msk (ws := ws) (sv_msk (q := q) hv msk_all) b (i + ln a + 1)
  have h0 := mn_msk (ws := ws) (sv_msk (q := q) hv msk_0) b (i + ln a + 1)
  generalize mn ev ws i a = A at ha ⊢
  generalize mn (sv ev q 4294967295) ws (i + ln a + 1) b = B1 at h1 ⊢
  generalize mn (sv ev q 0) ws (i + ln a + 1) b = B0 at h0 ⊢
  apply lb_ext
  intro k hk
  have ha := ha k
  have h1 := h1 k
  have h0 := h0 k
  rcases jn_or hj with e | e | e | e <;> (rw [e.1]; unfold jm wr)
  · rw [if_pos rfl, if_pos rfl, if_neg (by decide)]
    simp only [lb_and, lb_or, lb_xor, lb_m1 hk, lb_all]
    cases lb w k <;> cases lb A k <;> cases lb B1 k <;> cases lb B0 k <;> rfl
  · rw [if_neg (by decide), if_pos rfl, if_neg (by decide), if_pos rfl, if_pos rfl]
    simp only [lb_and, lb_or, lb_xor, lb_m1 hk, lb_all]
    cases lb w k <;> cases lb A k <;> cases lb B1 k <;> cases lb B0 k <;> rfl
  · rw [if_neg (by decide), if_neg (by decide), if_pos rfl, if_neg (by decide), if_neg (by decide), if_pos rfl, if_neg (by decide)]
    simp only [lb_and, lb_or, lb_xor, lb_m1 hk, lb_all]
    by_cases h : k < 32
    · rw [decide_eq_true h]
      cases lb w k <;> cases lb A k <;> cases lb B1 k <;> cases lb B0 k <;> rfl
    · rw [decide_eq_false h, h1 (by omega), h0 (by omega)]
      cases lb w k <;> cases lb A k <;> rfl
  · rw [if_neg (by decide), if_neg (by decide), if_neg (by decide), if_neg (by decide), if_neg (by decide), if_neg (by decide), if_neg (by decide)]
    simp only [lb_and, lb_or, lb_xor, lb_m1 hk, lb_all]
    cases lb w k <;> cases lb A k <;> cases lb B1 k <;> cases lb B0 k <;> rfl
theorem iw_ob {ev : Nat → Int64} {ws : List Int32} (hv : ∀ p, msk (ev p)) : ∀ t i, sp ws i t → ∀ w, msk w → iw ev ws i t w = ob (ib ev ws i t w) i (ln t) := by
  apply sp_ind
  · intro i c h w hw
    show (if w = 0 then (1 : Int32) <<< (nI i &&& 31) else 0) = ib ev ws i (.var c) w i ||| 0
    rw [Int32.or_zero]
    unfold ib sn
    have e : w &&& (mn (sv ev i 4294967295) ws i (.var c) ^^^ mn (sv ev i 0) ws i (.var c)) = w := by
      show w &&& (sv ev i 4294967295 i ^^^ sv ev i 0 i) = w
      unfold sv
      rw [if_pos rfl, if_pos rfl]
      apply lb_ext
      intro k hk
      simp only [lb_and, lb_xor, lb_all, lb_0]
      by_cases q : k < 32
      · simp [q]
      · rw [hw k (by omega)]; rfl
    rw [e]
    by_cases q : w = 0
    · rw [if_pos q, if_pos ⟨h, q⟩]
    · rw [if_neg q, if_neg (fun z => q z.2)]
  · intro i a h hs ih w hw
    show iw ev ws (i + 1) a w = ob (ib ev ws i (.neg a) w) i (ln a + 1)
    rw [ih w hw, ob]
    have e0 : ib ev ws i (.neg a) w i = 0 := by
      unfold ib
      rw [if_neg]
      intro z
      exact (kd0_ne z.1).2.2.1 h
    rw [e0, Int32.zero_or]
    apply ob_congr
    intro q _ _
    unfold ib
    have e : sn ev ws q i (.neg a) = sn ev ws q (i + 1) a := by
      unfold sn
      rw [mn, mn]
      have h1 := mn_msk (ws := ws) (sv_msk (q := q) hv msk_all) a (i + 1)
      have h0 := mn_msk (ws := ws) (sv_msk (q := q) hv msk_0) a (i + 1)
      generalize mn (sv ev q 4294967295) ws (i + 1) a = A1 at h1 ⊢
      generalize mn (sv ev q 0) ws (i + 1) a = A0 at h0 ⊢
      apply lb_ext
      intro k hk
      simp only [lb_and, lb_or, lb_xor, lb_m1 hk, lb_all]
      by_cases z : k < 32
      · rw [decide_eq_true z]; cases lb A1 k <;> cases lb A0 k <;> rfl
      · rw [decide_eq_false z, h1 k (by omega), h0 k (by omega)]; rfl
    rw [e]
  · intro i a kk h h' hs ih w hw
    show iw ev ws (i + 1) a w = ob (ib ev ws i (.pow a kk) w) i (ln a + 2)
    rw [ih w hw, ob]
    have e0 : ib ev ws i (.pow a kk) w i = 0 := by
      unfold ib
      rw [if_neg]
      intro z
      exact (kd0_ne z.1).1 h
    have e1 : ib ev ws i (.pow a kk) w (i + 1 + ln a) = 0 := by
      unfold ib
      rw [if_neg]
      intro z
      exact (kd0_ne z.1).2.1 h'
    rw [e0, Int32.zero_or, ob_app, ob, ob, e1, Int32.or_zero, Int32.or_zero]
    apply ob_congr
    intro q _ _
    rfl
  · intro i a b h hsa hsb iha ihb w hw
    show iw ev ws i a (wl (kd (wa ws (i + ln a))) w (mn ev ws (i + ln a + 1) b)) ||| iw ev ws (i + ln a + 1) b (wr (kd (wa ws (i + ln a))) w (mn ev ws i a)) = ob (ib ev ws i (.add a b) w) i (ln a + ln b + 1)
    rw [show ln a + ln b + 1 = ln a + (ln b + 1) by omega, ob_app, ob]
    have e0 : ib ev ws i (.add a b) w (i + ln a) = 0 := by
      unfold ib
      rw [if_neg]
      intro z
      have := (kd0_ne z.1).2.2.2
      rw [h] at this
      exact absurd this (by decide)
    rw [e0, Int32.zero_or, iha (wl (kd (wa ws (i + ln a))) w (mn ev ws (i + ln a + 1) b)) (msk_and' hw), ihb (wr (kd (wa ws (i + ln a))) w (mn ev ws i a)) (msk_and' hw)]
    congr 1
    · apply ob_congr
      intro q h1 h2
      unfold ib
      rw [sn_l hv h h1 h2]
    · apply ob_congr
      intro q h1 h2
      unfold ib
      rw [sn_r hv h h1 h2]
