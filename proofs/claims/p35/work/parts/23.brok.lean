def b1 : zT → Bool
  | .neg a => b1 a
  | .add _ _ => true
  | _ => false
def b2 (ws : List Int32) : Nat → zT → Bool
  | i, .neg a => b2 ws (i + 1) a
  | i, .add a b => decide (kd (wa ws (i + ln a)) ≠ 3) || b2 ws i a || b2 ws (i + ln a + 1) b
  | _, _ => false
def bb (ws : List Int32) : Nat → zT → Int32
  | i, .neg a => bb ws (i + 1) a
  | i, .add a b => (bb ws i a ||| bb ws (i + ln a + 1) b) ||| (1 <<< (kd (wa ws (i + ln a)) &&& 31))
  | _, _ => 0
theorem i32_or_0 {x y : Int32} : x ||| y = 0 ↔ x = 0 ∧ y = 0 := by
  constructor
  · intro h
    have h' : x.toBitVec ||| y.toBitVec = 0#32 := by
      rw [← Int32.toBitVec_or, h]; rfl
    have := BitVec.or_eq_zero_iff.mp h'
    exact ⟨Int32.toBitVec_inj.mp this.1, Int32.toBitVec_inj.mp this.2⟩
  · rintro ⟨rfl, rfl⟩; rfl
theorem i32_or_and (x y z : Int32) : (x ||| y) &&& z = (x &&& z) ||| (y &&& z) := by
  apply Int32.toBitVec_inj.mp
  rw [Int32.toBitVec_and, Int32.toBitVec_or, Int32.toBitVec_or, Int32.toBitVec_and, Int32.toBitVec_and]
  apply BitVec.eq_of_getLsbD_eq
  intro i _
  simp only [BitVec.getLsbD_and, BitVec.getLsbD_or]
  cases x.toBitVec.getLsbD i <;> cases y.toBitVec.getLsbD i <;> cases z.toBitVec.getLsbD i <;> rfl
theorem bb_0 {ws : List Int32} : ∀ t i, sp ws i t → (bb ws i t = 0 ↔ b1 t = false) ∧ (bb ws i t &&& 112 = 0 ↔ b2 ws i t = false) := by
  apply sp_ind
  · intro i c _; exact ⟨⟨fun _ => rfl, fun _ => rfl⟩, ⟨fun _ => rfl, fun _ => (by decide : (0 : Int32) &&& 112 = 0)⟩⟩
  · intro i a _ _ ih; exact ih
  · intro i a k _ _ _ _; exact ⟨⟨fun _ => rfl, fun _ => rfl⟩, ⟨fun _ => rfl, fun _ => (by decide : (0 : Int32) &&& 112 = 0)⟩⟩
  · intro i a b h _ _ iha ihb
    constructor
    · constructor
      · intro q
        rw [bb, i32_or_0] at q
        rcases jn_or h with e | e | e | e <;> (rw [e.1] at q; exact absurd q.2 (by decide))
      · intro q; exact Bool.noConfusion (show true = false from q)
    · rw [bb, b2, i32_or_and, i32_or_0, i32_or_and, i32_or_0, iha.2, ihb.2, Bool.or_eq_false_iff, Bool.or_eq_false_iff]
      rcases jn_or h with e | e | e | e <;> rw [e.1]
      · constructor
        · intro q; exact ⟨⟨by decide, q.1.1⟩, q.1.2⟩
        · intro q; exact ⟨⟨q.1.2, q.2⟩, by decide⟩
      · constructor
        · intro q; exact absurd q.2 (by decide)
        · intro q; exact absurd q.1.1 (by decide)
      · constructor
        · intro q; exact absurd q.2 (by decide)
        · intro q; exact absurd q.1.1 (by decide)
      · constructor
        · intro q; exact absurd q.2 (by decide)
        · intro q; exact absurd q.1.1 (by decide)
def c0 : zT → Bool
  | .neg a => b1 a || c0 a
  | .pow a _ => c0 a
  | .add a b => c0 a || c0 b
  | _ => false
def c1 (ws : List Int32) : Nat → zT → Bool
  | i, .neg a => decide (i + ln a + 1 ≠ clo ws i) || c1 ws (i + 1) a
  | i, .pow a _ => c1 ws (i + 1) a
  | i, .add a b => c1 ws i a || c1 ws (i + ln a + 1) b
  | _, _ => false
def c2 : zT → Bool
  | .neg a => c2 a
  | .pow a _ => c2 a
  | .add a b => b1 b || c2 a || c2 b
  | _ => false
def c3 (ws : List Int32) : Nat → zT → Bool
  | i, .neg a => c3 ws (i + 1) a
  | i, .pow a _ => c3 ws (i + 1) a
  | i, .add a b => (decide (kd (wa ws (i + ln a)) = 3) && (b2 ws i a || b2 ws (i + ln a + 1) b)) || c3 ws i a || c3 ws (i + ln a + 1) b
  | _, _ => false
def m0 : Bool → zT → Bool
  | _, .neg a => m0 true a
  | _, .pow a _ => m0 false a
  | N, .add a b => N || m0 false a || m0 false b
  | _, _ => false
def m1 (ws : List Int32) : Nat → Nat → zT → Bool
  | q, i, .neg a => decide (i + ln a + 1 ≠ q) || m1 ws q (i + 1) a
  | _, i, .pow a _ => m1 ws (i + 1 + ln a) (i + 1) a
  | q, i, .add a b => m1 ws q i a || m1 ws q (i + ln a + 1) b
  | _, _, _ => false
def m2 : Bool → zT → Bool
  | R, .neg a => m2 R a
  | _, .pow a _ => m2 false a
  | R, .add a b => R || m2 R a || m2 true b
  | _, _ => false
def m3 (ws : List Int32) : Bool → Nat → zT → Bool
  | A, i, .neg a => m3 ws A (i + 1) a
  | _, i, .pow a _ => m3 ws false (i + 1) a
  | A, i, .add a b => (A && decide (kd (wa ws (i + ln a)) ≠ 3)) || m3 ws (A || decide (kd (wa ws (i + ln a)) = 3)) i a || m3 ws (A || decide (kd (wa ws (i + ln a)) = 3)) (i + ln a + 1) b
  | _, _, _ => false
theorem m0_c : ∀ t N, m0 N t = (c0 t || (N && b1 t)) := by
  intro t
  induction t with
  | neg a ih => intro N; rw [m0, c0, b1, ih]; cases N <;> cases c0 a <;> cases b1 a <;> rfl
  | pow a k ih => intro N; rw [m0, c0, show b1 (.pow a k) = false from rfl, ih]; cases N <;> cases c0 a <;> cases b1 a <;> rfl
  | add a b iha ihb => intro N; rw [m0, c0, b1, iha, ihb]; cases N <;> cases c0 a <;> cases c0 b <;> rfl
  | _ => intro N; cases N <;> rfl
theorem m2_c : ∀ t R, m2 R t = (c2 t || (R && b1 t)) := by
  intro t
  induction t with
  | neg a ih => intro R; rw [m2, c2, b1, ih]
  | pow a k ih => intro R; rw [m2, c2, show b1 (.pow a k) = false from rfl, ih]; cases R <;> cases c2 a <;> cases b1 a <;> rfl
  | add a b iha ihb => intro R; rw [m2, c2, b1, iha, ihb]; cases R <;> cases c2 a <;> cases c2 b <;> cases b1 a <;> cases b1 b <;> rfl
  | _ => intro R; cases R <;> rfl
theorem m3_c {ws : List Int32} : ∀ t A i, m3 ws A i t = (c3 ws i t || (A && b2 ws i t)) := by
  intro t
  induction t with
  | neg a ih => intro A i; rw [m3, c3, b2, ih]
  | pow a k ih => intro A i; rw [m3, c3, show b2 ws i (.pow a k) = false from rfl, ih]; cases A <;> cases c3 ws (i + 1) a <;> cases b2 ws (i + 1) a <;> rfl
  | add a b iha ihb =>
    intro A i
    rw [m3, c3, b2, iha, ihb]
    by_cases e : kd (wa ws (i + ln a)) = 3
    · rw [decide_eq_true e, decide_eq_false (fun z => z e)]
      cases A <;> cases c3 ws i a <;> cases c3 ws (i + ln a + 1) b <;> cases b2 ws i a <;> cases b2 ws (i + ln a + 1) b <;> rfl
    · rw [decide_eq_false e, decide_eq_true e]
      cases A <;> cases c3 ws i a <;> cases c3 ws (i + ln a + 1) b <;> cases b2 ws i a <;> cases b2 ws (i + ln a + 1) b <;> rfl
  | _ => intro A i; cases A <;> rfl
theorem m1_c {ws : List Int32} : ∀ t i, sp ws i t → i + ln t ≤ ws.length → m1 ws (clo ws i) i t = c1 ws i t := by
  apply sp_ind
  · intro i c _ _; rfl
  · intro i a h hs ih hl
    have hl' : i + 1 + ln a ≤ ws.length := by simp only [ln] at hl; omega
    rw [m1, c1]
    have e : clo ws (i + 1) = clo ws i := by
      unfold clo
      rw [show ws.length - i = (ws.length - (i + 1)) + 1 by omega, clf_other (by rw [h]; decide) (by rw [h]; decide)]
    rw [← ih hl', e]
  · intro i a k h h' hs ih hl
    have hl' : i + 1 + ln a < ws.length := by simp only [ln] at hl; omega
    rw [m1, c1, ← ih (by omega), clo_sp41 hs hl' h']
  · intro i a b h hsa hsb iha ihb hl
    have hl' : i + ln a + 1 + ln b ≤ ws.length := by simp only [ln] at hl; omega
    rw [m1, c1, ← iha (by omega), ← ihb hl']
    have e : clo ws (i + ln a + 1) = clo ws i := by
      rw [clo_sp hsa (by omega)]
      unfold clo
      rw [show ws.length - (i + ln a) = (ws.length - (i + ln a + 1)) + 1 by omega, clf_other (jn_ne h).1 (jn_ne h).2.1]
    rw [e]
def bw (a b c d : Bool) : Int32 := (if a then 1 else 0) ||| (if b then 2 else 0) ||| (if c then 4 else 0) ||| (if d then 8 else 0)
theorem bw_or : ∀ a b c d a' b' c' d' : Bool, bw a b c d ||| bw a' b' c' d' = bw (a || a') (b || b') (c || c') (d || d') := by decide +kernel
def cb (ws : List Int32) (i : Nat) (t : zT) : Int32 := bw (c0 t) (c1 ws i t) (c2 t) (c3 ws i t)
def mb (ws : List Int32) (q i : Nat) (R A N : Bool) (t : zT) : Int32 := bw (m0 N t) (m1 ws q i t) (m2 R t) (m3 ws A i t)
theorem mb_cb {ws : List Int32} {t : zT} (h : sp ws 0 t) (hl : ln t = ws.length) : mb ws ws.length 0 false false false t = cb ws 0 t := by
  unfold mb cb
  have e : clo ws 0 = ws.length := by
    rw [clo_sp h (by omega)]
    unfold clo
    rw [show 0 + ln t = ws.length by omega, Nat.sub_self]; rfl
  have := m1_c t 0 h (by omega)
  rw [e] at this
  rw [m0_c, this, m2_c, m3_c, Bool.false_and, Bool.false_and, Bool.or_false, Bool.or_false, Bool.or_false]
theorem met_eq : ∀ a b c d i s : Bool, 63 &&& ((bw a b c d ||| ((if i then 16 else 0) ||| (if s then 32 else 0))) ^^^ (-1)) = (((bw a b c d ^^^ (-1)) &&& 15) ||| (if i then 0 else 16)) ||| (if s then 0 else (32 : Int32)) := by decide +kernel
