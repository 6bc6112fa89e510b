/-- what the law's loop makes: words that are a sentence, in the row 50 -/
def GS (K : Int32 → ZM → Option (Int32 × ZM)) (M : ZM) (x : Option (Int32 × ZM)) : Prop := ∃ U N, x = K (nI U.length) N ∧ okw U ∧ U.length ≤ 13 ∧ (∀ k, k < U.length → ∃ m, m < 128 ∧ wa U k = nI m) ∧ (∀ k, k < U.length → N.1 50 k = wa U k) ∧ Fr [50] M N
theorem GS_Fr {K : Int32 → ZM → Option (Int32 × ZM)} {M M' : ZM} {x : Option (Int32 × ZM)} (h : Fr [50] M M') (g : GS K M' x) : GS K M x := by
  obtain ⟨U, N, e, h1, h2, h3, h4, h5⟩ := g
  exact ⟨U, N, e, h1, h2, h3, h4, Fr_tr h h5⟩
theorem bF : (if false = true then (1 : Int32) else 0) = 0 := by decide
theorem bT : (if true = true then (1 : Int32) else 0) = 1 := by decide
theorem s31 {L : Nat} (hL : L ≤ 260) (xs : Nat → Int32) {most : Nat} (m1 : 1 ≤ most) (m2 : most ≤ 11) (K : Int32 → ZM → Option (Int32 × ZM)) : ∀ c fuel (U : List Int32) (w : Bool) (o : Nat) M, U.length + c = 14 → c < fuel → U.length + o + (if w = true then 0 else 1) ≤ most + 1 → o ≤ 2 → pf U w o → (∀ k, k < U.length → ∃ m, m < 128 ∧ wa U k = nI m) → (∀ k, k < U.length → M.1 50 k = wa U k) → GS K M (f_L_sentence_31 0 50 L xs 0 (nI most) K fuel (nI U.length) (nI o) (if w = true then 1 else 0) M) := by
  intro c
  induction c with
  | zero => intro fuel U w o M hc hf hb; omega
  | succ c ih =>
    intro fuel U w o M hc hf hb ho hpf hby hrow
    obtain ⟨fuel, rfl⟩ : ∃ m, fuel = m + 1 := ⟨fuel - 1, by omega⟩
    obtain ⟨n, hn⟩ : ∃ n, n = U.length := ⟨_, rfl⟩
    have hw2 : (if w = true then 0 else 1) ≤ 1 := by split <;> omega
    rw [f_L_sentence_31, ← hn]
    refine zl_in (P := GS K M) (fun J282 h282 => ?_)
    refine zl_in (P := GS K M) (fun J281 h281 => ?_)
    refine zl_in (P := GS K M) (fun J277 h277 => ?_)
    refine zl_in (P := GS K M) (fun J253 h253 => ?_)
    refine zl_in (P := GS K M) (fun J228 h228 => ?_)
    refine zl_in (P := GS K M) (fun J226 h226 => ?_)
    refine zl_in (P := GS K M) (fun J186 h186 => ?_)
    refine zl_in (P := GS K M) (fun J158 h158 => ?_)
    refine zl_in (P := GS K M) (fun J112 h112 => ?_)
    refine zl_in (P := GS K M) (fun J107 h107 => ?_)
    refine zl_in (P := GS K M) (fun J83 h83 => ?_)
    refine zl_in (P := GS K M) (fun J72 h72 => ?_)
    refine zl_in (P := GS K M) (fun J48 h48 => ?_)
    -- a word more
    have t282 : ∀ (v : Int32) (w' : Bool) (o' : Nat), pf (U ++ [v]) w' o' → n + 1 + o' + (if w' = true then 0 else 1) ≤ most + 1 → o' ≤ 2 → (∃ m, m < 128 ∧ v = nI m) → GS K M (J282 (nI n) (nI o') v (if w' = true then 1 else 0) M) := by
      intro v w' o' p1 p2 p3 p4
      rw [h282]
      show GS K M (zck (zin (nI n) (zn 50)) (zlet (zi M 50 (nI n).toNatClampNeg v) _))
      rw [zckT (zin_t (by rw [show zn 50 = 64 by decide +kernel]; omega) (by omega)), nI_tn (by omega)]
      simp only [zletE]
      rw [nI_s]
      have hlen : (U ++ [v]).length = n + 1 := by rw [List.length_append, List.length_singleton, hn]
      have g := ih fuel (U ++ [v]) w' o' (zi M 50 n v) (by omega) (by omega) (by omega) p3 p1 (fun k hk => by
        by_cases q : k = n
        · rw [q, hn, wa_end]; exact p4
        · rw [wa_app (by omega)]; exact hby k (by omega)) (fun k hk => by
        by_cases q : k = n
        · rw [q, zi_eq, hn, wa_end]
        · rw [zi_k q, wa_app (by omega)]; exact hrow k (by omega))
      rw [hlen] at g
      exact GS_Fr (Fr_zi (by decide)) g
    have e281 : ∀ a b v P, J281 a b v P = J282 a b v 0 P := fun a b v P => by rw [h281]
    have e277 : ∀ a b v P, J277 a b v P = J282 a b v 1 P := fun a b v P => by rw [h277]
    have e253 : ∀ a v x y P, J253 a v x y P = (if v = 41 then J277 a (x + y) v P else if v < 97 then J281 a (x + y) v P else if 101 < v then J281 a (x + y) v P else J277 a (x + y) v P) := by
      intro a v x y P
      rw [h253]
      exact zletE _ _
    have e228 : ∀ a b v P, J228 a b v P = (if v = 40 then J253 a v b 1 P else if v = 41 then J253 a v b (-1) P else J253 a v b 0 P) := fun a b v P => by rw [h228]
    have e226 : ∀ a b v P, J226 a b v P = J228 a b v P := fun a b v P => by rw [h226]
    have e158 : ∀ a b x v P, J158 a b x v P = (if x = 0 then J228 a b v P else if b = 0 then K a P else J228 a b v P) := fun a b x v P => by rw [h158]
    have e107 : ∀ a b x P, J107 a b x P = J158 a b x 41 P := fun a b x P => by rw [h107]
    -- the kinds of words
    have w40 : w = false → o < 2 → n + o + 3 ≤ most + 1 → GS K M (J228 (nI n) (nI o) 40 M) := by
      intro h1 h2 h3
      rw [e228, if_pos rfl, e253, if_neg (by decide), if_pos (by decide), e281, nI_s]
      rw [h1] at hpf
      have := t282 40 false (o + 1) (pf_open hpf (by omega)) (by rw [if_neg (by decide)]; omega) (by omega) ⟨40, by omega, rfl⟩
      rwa [bF] at this
    have w41 : w = true → 0 < o → n + o ≤ most + 1 → GS K M (J228 (nI n) (nI o) 41 M) := by
      intro h1 h2 h3
      rw [e228, if_neg (by decide), if_pos rfl, e253, if_pos rfl, e277, nI_m1 h2]
      rw [h1] at hpf
      have := t282 41 true (o - 1) (pf_close hpf h2) (by rw [if_pos rfl]; omega) (by omega) ⟨41, by omega, rfl⟩
      rwa [bT] at this
    have w33 : w = false → n + o + 2 ≤ most + 1 → GS K M (J228 (nI n) (nI o) 33 M) := by
      intro h1 h3
      rw [e228, if_neg (by decide), if_neg (by decide), e253, if_neg (by decide), if_pos (by decide), e281, Int32.add_zero]
      rw [h1] at hpf
      have := t282 33 false o (pf_not hpf) (by rw [if_neg (by decide)]; omega) (by omega) ⟨33, by omega, rfl⟩
      rwa [bF] at this
    have wlet : ∀ r, r < 5 → w = false → n + o + 1 ≤ most + 1 → GS K M (J228 (nI n) (nI o) (nI (97 + r)) M) := by
      intro r hr h1 h3
      have q1 : ¬ nI (97 + r) = 40 := by rw [show (40 : Int32) = nI 40 from rfl, nI_inj (by omega) (by omega)]; omega
      have q2 : ¬ nI (97 + r) = 41 := by rw [show (41 : Int32) = nI 41 from rfl, nI_inj (by omega) (by omega)]; omega
      have q3 : ¬ nI (97 + r) < 97 := by rw [show (97 : Int32) = nI 97 from rfl, nJ_lt (by omega) (by omega)]; omega
      have q4 : ¬ 101 < nI (97 + r) := by rw [show (101 : Int32) = nI 101 from rfl, nJ_lt (by omega) (by omega)]; omega
      rw [e228, if_neg q1, if_neg q2, e253, if_neg q2, if_neg q3, if_neg q4, e277, Int32.add_zero]
      rw [h1] at hpf
      have hk : kd (nI (97 + r)) = 0 := by
        have : ∀ r, r < 5 → kd (nI (97 + r)) = 0 := by decide +kernel
        exact this r hr
      have := t282 (nI (97 + r)) true o (pf_let hpf hk) (by rw [if_pos rfl]; omega) (by omega) ⟨97 + r, by omega, rfl⟩
      rwa [bT] at this
    have wjn : ∀ m, m < 128 → jn (nI m) = true → m ≠ 40 → m ≠ 41 → (m < 97 ∨ 101 < m) → w = true → n + o + 2 ≤ most + 1 → GS K M (J228 (nI n) (nI o) (nI m) M) := by
      intro m hm hj h40 h41 hx h1 h3
      have q1 : ¬ nI m = 40 := by rw [show (40 : Int32) = nI 40 from rfl, nI_inj (by omega) (by omega)]; omega
      have q2 : ¬ nI m = 41 := by rw [show (41 : Int32) = nI 41 from rfl, nI_inj (by omega) (by omega)]; omega
      rw [h1] at hpf
      have g := t282 (nI m) false o (pf_join hpf hj) (by rw [if_neg (by decide)]; omega) (by omega) ⟨m, hm, rfl⟩
      rw [bF] at g
      rw [e228, if_neg q1, if_neg q2, e253, if_neg q2, Int32.add_zero]
      by_cases z : m < 97
      · rw [if_pos (by rw [show (97 : Int32) = nI 97 from rfl, nJ_lt (by omega) (by omega)]; exact z), e281]; exact g
      · rw [if_neg (by rw [show (97 : Int32) = nI 97 from rfl, nJ_lt (by omega) (by omega)]; exact z), if_pos (by rw [show (101 : Int32) = nI 101 from rfl, nJ_lt (by omega) (by omega)]; omega), e281]; exact g
    -- the end
    have fin : w = true → o = 0 → GS K M (K (nI n) M) := by
      intro h1 h2
      rw [h1, h2] at hpf
      exact ⟨U, M, by rw [hn], pf_end hpf (by omega), by omega, hby, hrow, Fr_rf _ _⟩
    have t158 : ∀ m, m < 128 → jn (nI m) = true → m ≠ 40 → m ≠ 41 → (m < 97 ∨ 101 < m) → w = true → ∀ x : Int32, ((x = 0 ∧ n + o + 2 ≤ most + 1) ∨ (¬ x = 0 ∧ o = 0)) → GS K M (J158 (nI n) (nI o) x (nI m) M) := by
      intro m a1 a2 a3 a4 a5 a6 x hx
      rw [e158]
      rcases hx with ⟨z, z2⟩ | ⟨z, z2⟩
      · rw [if_pos z]; exact wjn m a1 a2 a3 a4 a5 a6 z2
      · rw [if_neg z, if_pos (by rw [z2]; exact nI0)]; exact fin a6 z2
    have t112 : ∀ q : Int32, w = true → ∀ x : Int32, ((x = 0 ∧ n + o + 2 ≤ most + 1) ∨ (¬ x = 0 ∧ o = 0)) → GS K M (J112 (nI n) (nI o) q x M) := by
      intro q a6 x hx
      have e112 : J112 (nI n) (nI o) q x M = (if ((q >>> ((2 : Int32) &&& 31)) &&& 3) = 0 then J158 (nI n) (nI o) x 38 M else if ((q >>> ((2 : Int32) &&& 31)) &&& 3) = 1 then J158 (nI n) (nI o) x 124 M else if ((q >>> ((2 : Int32) &&& 31)) &&& 3) = 2 then J158 (nI n) (nI o) x 62 M else J158 (nI n) (nI o) x 45 M) := by rw [h112]
      rw [e112]
      refine if_in (P := GS K M) (fun _ => t158 38 (by omega) (by decide) (by omega) (by omega) (by omega) a6 x hx) (fun _ => ?_)
      refine if_in (P := GS K M) (fun _ => t158 124 (by omega) (by decide) (by omega) (by omega) (by omega) a6 x hx) (fun _ => ?_)
      exact if_in (P := GS K M) (fun _ => t158 62 (by omega) (by decide) (by omega) (by omega) (by omega) a6 x hx) (fun _ => t158 45 (by omega) (by decide) (by omega) (by omega) (by omega) a6 x hx)
    have t107 : w = true → 0 < o → n + o ≤ most + 1 → ∀ x : Int32, GS K M (J107 (nI n) (nI o) x M) := by
      intro a1 a2 a3 x
      rw [e107, e158]
      refine if_in (P := GS K M) (fun _ => w41 a1 a2 a3) (fun _ => ?_)
      rw [if_neg (by rw [← nI0, nI_inj (by omega) (by omega)]; omega)]
      exact w41 a1 a2 a3
    have t186 : ∀ q : Int32, w = false → n + o + 1 ≤ most + 1 → GS K M (J186 (nI n) (nI o) q M) := by
      intro q a1 a2
      have e186 : J186 (nI n) (nI o) q M = zck (znzI (5 : Int32)) (J226 (nI n) (nI o) (97 + (((q >>> ((2 : Int32) &&& 31)) &&& 7) - ((q >>> ((2 : Int32) &&& 31)) &&& 7) / 5 * 5)) M) := by rw [h186]
      rw [e186, zckT (by decide), e226]
      obtain ⟨m, hm, em⟩ := and_nI (q >>> ((2 : Int32) &&& 31)) (k := 7) (by omega)
      rw [show (7 : Int32) = nI 7 from rfl, em, show (5 : Int32) = nI 5 from rfl, pk_rem (by omega) (by omega) (by omega), show (97 : Int32) = nI 97 from rfl, nJ_add]
      exact wlet (m % 5) (by omega) a1 a2
    have t83 : ∀ (q x : Int32), ((x = 0 ∧ n + o + (if w = true then 0 else 1) < most) ∨ ¬ x = 0) → (w = true → 0 < o ∨ ¬ most ≤ n ∨ ¬ x = 0) → GS K M (J83 (nI n) (nI o) (if w = true then 1 else 0) q x M) := by
      intro q x hx _
      rw [h83]
      cases hw : w with
      | false =>
        rw [hw, if_neg (by decide)] at hx hb
        show GS K M (if (if false = true then (1 : Int32) else 0) = 0 then (if x = 0 then (if (q &&& 3) ≤ 1 then (if (q &&& 3) = 0 then J226 (nI n) (nI o) 33 M else (if 2 ≤ nI o then J226 (nI n) (nI o) 99 M else J226 (nI n) (nI o) 40 M)) else J186 (nI n) (nI o) q M) else J186 (nI n) (nI o) q M) else _)
        rw [bF, if_pos rfl]
        refine if_in (P := GS K M) (fun hx0 => ?_) (fun _ => t186 q hw (by omega))
        have hlt : n + o + 1 < most := by
          rcases hx with z | z
          · exact z.2
          · exact absurd hx0 z
        refine if_in (P := GS K M) (fun _ => ?_) (fun _ => t186 q hw (by omega))
        refine if_in (P := GS K M) (fun _ => by rw [e226]; exact w33 hw (by omega)) (fun _ => ?_)
        by_cases z : 2 ≤ o
        · rw [if_pos (by rw [show (2 : Int32) = nI 2 from rfl, nI_le' (by omega) (by omega)]; exact z), e226]
          exact wlet 2 (by omega) hw (by omega)
        · rw [if_neg (by rw [show (2 : Int32) = nI 2 from rfl, nI_le' (by omega) (by omega)]; exact z), e226]
          exact w40 hw (by omega) (by omega)
      | true =>
        rw [hw, if_pos rfl] at hx hb
        show GS K M (if (if true = true then (1 : Int32) else 0) = 0 then _ else (if nI o ≤ 0 then J112 (nI n) (nI o) q x M else (if x = 0 then (if (q &&& 3) = 0 then J107 (nI n) (nI o) x M else J112 (nI n) (nI o) q x M) else J107 (nI n) (nI o) x M)))
        rw [bT, if_neg (by decide)]
        by_cases z : o = 0
        · rw [if_pos (by rw [z]; exact Int32.le_of_eq nI0)]
          exact t112 q hw x (by
            rcases hx with y | y
            · exact Or.inl ⟨y.1, by omega⟩
            · exact Or.inr ⟨y, z⟩)
        · rw [if_neg (by rw [← nI0, nI_le' (by omega) (by omega)]; omega)]
          refine if_in (P := GS K M) (fun hx0 => ?_) (fun _ => t107 hw (by omega) (by omega) x)
          refine if_in (P := GS K M) (fun _ => t107 hw (by omega) (by omega) x) (fun _ => ?_)
          exact t112 q hw x (by
            rcases hx with y | y
            · exact Or.inl ⟨y.1, by omega⟩
            · exact absurd hx0 y)
    have t48 : GS K M (J48 (nI n) (nI o) (if w = true then 1 else 0) M) := by
      obtain ⟨q, eq⟩ := stir_ok hL xs M (n := n) (by omega)
      rw [h48]
      show GS K M ((f_L_stir L xs 0 (nI n) M).bind fun (q28 : Int32) =>
        if (if w = true then (1 : Int32) else 0) = 0 then J72 (nI n) (nI o) (if w = true then 1 else 0) q28 (nI n + nI o) 1 M else J72 (nI n) (nI o) (if w = true then 1 else 0) q28 (nI n + nI o) 0 M)
      rw [eq, bindE, nJ_add]
      have e72 : ∀ s : Int32, J72 (nI n) (nI o) (if w = true then 1 else 0) q (nI (n + o)) s M = (if nI (n + o) + s < nI most then J83 (nI n) (nI o) (if w = true then 1 else 0) q 0 M else J83 (nI n) (nI o) (if w = true then 1 else 0) q 1 M) := fun s => by rw [h72]
      have both : ∀ s : Nat, s = (if w = true then 0 else 1) → GS K M (J72 (nI n) (nI o) (if w = true then 1 else 0) q (nI (n + o)) (nI s) M) := by
        intro s hs
        rw [e72, nJ_add]
        refine if_in (P := GS K M) (fun y => ?_) (fun y => ?_)
        · rw [nJ_lt (by omega) (by omega)] at y
          exact t83 q 0 (Or.inl ⟨rfl, by omega⟩) (fun _ => Or.inr (Or.inl (by omega)))
        · exact t83 q 1 (Or.inr (by decide)) (fun _ => Or.inr (Or.inr (by decide)))
      cases hw : w with
      | false =>
        have := both 1 (by rw [hw]; rfl)
        rw [hw] at this
        rw [bF, if_pos rfl]; rw [bF] at this; exact this
      | true =>
        have := both 0 (by rw [hw]; rfl)
        rw [hw] at this
        rw [bT, if_neg (by decide)]; rw [bT] at this; exact this
    refine if_in (P := GS K M) (fun _ => t48) (fun hw0 => ?_)
    have hw : w = true := by
      cases hh : w with
      | true => rfl
      | false => rw [hh] at hw0; exact absurd bF hw0
    refine if_in (P := GS K M) (fun _ => t48) (fun ho0 => ?_)
    have ho' : o = 0 := by
      rw [← nI0, nJ_lt (by omega) (by omega)] at ho0; omega
    exact if_in (P := GS K M) (fun _ => fin hw ho') (fun _ => t48)
