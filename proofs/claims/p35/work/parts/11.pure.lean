/-- what is left when the machine is gone: the law over the class's functions answers 1, on every script -/
def LawPure : Prop := ∃ M1 : ZM, f_X9_reckon (zr 0 3) (zr 0 1) (f_X10_add (zr 0 1) 97 zZ) = some M1 ∧ ∀ (L : Nat) (xs : Nat → Int32), L ≤ 260 → ∃ (n : Int32) (M2 : ZM), f_L_sentence 0 50 L xs 0 (zmix M1) = some (n, M2) ∧ 0 ≤ n ∧ f_L_law_31 L xs 0 (fun _ => some 1) zN 6 M2 = some 1
