theorem nJ_toInt {a : Nat} (h : a < 2147483648) : (nI a).toInt = a := Int32.toInt_ofNat_of_lt h
theorem nJ_lt {a b : Nat} (ha : a < 2147483648) (hb : b < 2147483648) : nI a < nI b ↔ a < b := by
  rw [Int32.lt_iff_toInt_lt, nJ_toInt ha, nJ_toInt hb]
  omega
theorem nI_le' {a b : Nat} (ha : a < 2147483648) (hb : b < 2147483648) : nI a ≤ nI b ↔ a ≤ b := by
  rw [Int32.le_iff_toInt_le, nJ_toInt ha, nJ_toInt hb]
  omega
theorem nI_inj {a b : Nat} (ha : a < 2147483648) (hb : b < 2147483648) : nI a = nI b ↔ a = b := by
  rw [← Int32.toInt_inj, nJ_toInt ha, nJ_toInt hb]
  omega
theorem nJ_add (a b : Nat) : nI a + nI b = nI (a + b) := (Int32.ofNat_add a b).symm
theorem nI_s (a : Nat) : nI a + 1 = nI (a + 1) := nJ_add a 1
theorem nI_mul (a b : Nat) : nI a * nI b = nI (a * b) := (Int32.ofNat_mul a b).symm
theorem nI_sub {a b : Nat} (h : b ≤ a) : nI a - nI b = nI (a - b) := by
  have e : nI a = nI (a - b) + nI b := by rw [nJ_add, Nat.sub_add_cancel h]
  rw [e, Int32.add_sub_cancel]
theorem nI_p {a : Nat} (h : 1 ≤ a) : nI a - 1 = nI (a - 1) := nI_sub (b := 1) h
theorem nI_m1 {a : Nat} (h : 1 ≤ a) : nI a + (-1) = nI (a - 1) := by
  rw [← nI_p h, Int32.sub_eq_add_neg]
theorem nI_tn {a : Nat} (h : a < 2147483648) : (nI a).toNatClampNeg = a := Int32.toNatClampNeg_ofNat_of_lt h
theorem nI_22 (a b : Nat) : nI a * 22 + nI b = nI (a * 22 + b) := by
  rw [show (22 : Int32) = nI 22 from rfl, nI_mul, nJ_add]
theorem zin_nI {a n : Nat} (h : a < 2147483648) : zin (nI a) n = decide (a < n) := by
  unfold zin
  congr 1
  rw [nI_tn h, show (0 : Int32) = nI 0 from rfl, nJ_lt h (by omega)]
  apply propext
  omega
theorem v_nI {v : Int32} (h : ¬ v < 0) : v = nI v.toNatClampNeg ∧ v.toNatClampNeg < 2147483648 := by
  have h0 : 0 ≤ v.toInt := by
    rw [Int32.lt_iff_toInt_lt] at h
    have : (0 : Int32).toInt = 0 := rfl
    omega
  have h1 : v.toNatClampNeg = v.toInt.toNat := rfl
  have h2 : v.toInt < 2147483648 := Int32.toInt_lt v
  have h3 : v.toNatClampNeg < 2147483648 := by rw [h1]; omega
  refine ⟨?_, h3⟩
  apply Int32.toInt_inj.mp
  rw [nJ_toInt h3, h1]
  omega
theorem nI_nn {a : Nat} (h : a < 2147483648) : ¬ nI a < 0 := by
  rw [show (0 : Int32) = nI 0 from rfl, nJ_lt h (by omega)]
  omega
theorem look_nI {t a : Nat} {M : ZM} (h : a < zn t) (hb : a < 2147483648) : f_X11_look t (nI a) M = M.1 t a := by
  unfold f_X11_look
  rw [zin_nI hb, if_pos (by simpa using h), nI_tn hb]
theorem lookl_nI {t a : Nat} {M : ZM} (h : a < zn t) (hb : a < 2147483648) : f_X11_look_ t (nI a) M = M.2 t a := by
  unfold f_X11_look_
  rw [zin_nI hb, if_pos (by simpa using h), nI_tn hb]
theorem put_nI {t a : Nat} {v : Int32} {M : ZM} (h : a < zn t) (hb : a < 2147483648) : f_X11_put t (nI a) v M = zi M t a v := by
  unfold f_X11_put
  rw [zin_nI hb, if_pos (by simpa using h), nI_tn hb]
theorem putl_nI {t a : Nat} {v : Int64} {M : ZM} (h : a < zn t) (hb : a < 2147483648) : f_X11_put_ t (nI a) v M = zl M t a v := by
  unfold f_X11_put_
  rw [zin_nI hb, if_pos (by simpa using h), nI_tn hb]
theorem look_out {t : Nat} {v : Int32} {M : ZM} (h : v < 0) : f_X11_look t v M = 0 := by
  unfold f_X11_look
  rw [if_neg]
  intro hh
  exact (zin_in hh) (Or.inl h)
theorem zi_1 (M : ZM) (a k : Nat) (v : Int32) (b j : Nat) : (zi M a k v).1 b j = if b = a ∧ j = k then v else M.1 b j := rfl
theorem zi_2 (M : ZM) (a k : Nat) (v : Int32) : (zi M a k v).2 = M.2 := rfl
theorem zl_1 (M : ZM) (a k : Nat) (v : Int64) : (zl M a k v).1 = M.1 := rfl
theorem zl_2 (M : ZM) (a k : Nat) (v : Int64) (b j : Nat) : (zl M a k v).2 b j = if b = a ∧ j = k then v else M.2 b j := rfl
theorem zi_ne {M : ZM} {a k : Nat} {v : Int32} {b j : Nat} (h : b ≠ a) : (zi M a k v).1 b j = M.1 b j := by rw [zi_1, if_neg (fun q => h q.1)]
theorem zi_eq {M : ZM} {a k : Nat} {v : Int32} : (zi M a k v).1 a k = v := by rw [zi_1, if_pos ⟨rfl, rfl⟩]
theorem zl_ne {M : ZM} {a k : Nat} {v : Int64} {b j : Nat} (h : b ≠ a) : (zl M a k v).2 b j = M.2 b j := by rw [zl_2, if_neg (fun q => h q.1)]
theorem zl_eq {M : ZM} {a k : Nat} {v : Int64} : (zl M a k v).2 a k = v := by rw [zl_2, if_pos ⟨rfl, rfl⟩]
