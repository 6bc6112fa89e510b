def zOk (G : ZG) : Prop := (G.2.2.2.2.1, G.2.2.2.2.2.1) = (0, 50) ∨ (G.2.2.2.2.1, G.2.2.2.2.2.1) = (0, 51)
def zkk (lo hi a : Nat) : Nat := if lo ≤ a ∧ a < hi then zKs.getD a 99 else 99
theorem zkr_of {G : ZG} {K k K' : Nat} (hd : ∀ q ∈ [(0, 50), (0, 51)], ∀ a, a < 51 → zkk q.1 q.2 a = K → zkk q.1 q.2 (zr a k) = K') (hG : zOk G) {a : Nat} (hK : K ≠ 99) (h : zk G a = K) : zk G (zr a k) = K' := by
  obtain ⟨h1, h2, h3⟩ := zk_in h hK
  have ha : a < 51 := by
    by_cases ha : a < 51
    · exact ha
    · exact absurd ((zKs_out ha).symm.trans h3).symm hK
  have key : ∀ q : Nat × Nat, q ∈ [(0, 50), (0, 51)] → (G.2.2.2.2.1, G.2.2.2.2.2.1) = q → zk G (zr a k) = K' := by
    intro q hq hg
    have h' : zkk q.1 q.2 a = K := by rw [← hg]; exact h
    have h4 := hd q hq a ha h'
    rw [← hg] at h4
    exact h4
  rcases hG with hg | hg
  · exact key _ (by decide) hg
  · exact key _ (by decide) hg
def zN : Nat := 100000
def zmax (x y : Int32) : Int32 := if x < y then y else x
def zabs (x : Int32) : Int32 := if 0 ≤ x then x else 0 - x
def zbo (v : Int32) : Bool := decide (v = 0 ∨ v = 1)
theorem zbo_of {v : Int32} (h : zbo v = true) : v = 0 ∨ v = 1 := of_decide_eq_true h
def znzI (v : Int32) : Bool := decide (¬ v = 0)
theorem znzI_of {v : Int32} (h : znzI v = true) : ¬ v = 0 := of_decide_eq_true h
def znz (v : Int64) : Bool := decide (¬ v = 0)
theorem znz_of {v : Int64} (h : znz v = true) : ¬ v = 0 := of_decide_eq_true h
theorem zif_t {α : Type} {c : Prop} [Decidable c] {a b r : α} (h : (if c then a else b) = r) (hc : c) : a = r := by rw [if_pos hc] at h; exact h
theorem zif_f {α : Type} {c : Prop} [Decidable c] {a b r : α} (h : (if c then a else b) = r) (hc : ¬ c) : b = r := by rw [if_neg hc] at h; exact h
theorem zne {x k : Int32} {z : Int} (h : ¬ x = k) (hk : k.toInt = z) : x.toInt ≠ z := fun e => h (Int32.toInt_inj.mp (e.trans hk.symm))
section ZE
variable {p : Program} {l : Launch} {e : Env} {R : Room} {s : State} {m : MethodId} {args : Array Value} {below : List Frame} {meth : Method} {c : Code} {H : Heap} {locs : List Loc} {cells slots : Nat} {Q : State → Prop}
variable {cc : ByteArray} {pc nL : Nat} {ls : Array Slot} {rest st0 : List Value} {own : String}
theorem z_tab (S : zX p R s m args c cells slots cc nL own) {dflt lo hi : Int} {offs : Array Int} {len : Nat} {x k : Int32} {off : Int} {tgt : Nat} (hk : x = k) (h1 : ¬ k.toInt < lo) (h2 : ¬ hi < k.toInt) (hdg : decode cc pc = .ok (.tableswitch dflt lo hi offs, len)) (ho : offs[(k.toInt - lo).toNat]? = some off) (ht : (pc : Int) + off = (tgt : Int)) (kk : W p l e R s m args below meth c H locs cells slots Q (F0 m tgt ls rest)) : W p l e R s m args below meth c H locs cells slots Q (F0 m pc ls (.int x :: rest)) := by
  subst hk
  exact lv_tableIn S.1.1 S.1.2.1 hdg h1 h2 ho ht kk
theorem z_tabD (S : zX p R s m args c cells slots cc nL own) {dflt lo hi : Int} {offs : Array Int} {len : Nat} {x : Int32} {tgt : Nat} (h : x.toInt < lo ∨ hi < x.toInt) (hdg : decode cc pc = .ok (.tableswitch dflt lo hi offs, len)) (ht : (pc : Int) + dflt = (tgt : Int)) (kk : W p l e R s m args below meth c H locs cells slots Q (F0 m tgt ls rest)) : W p l e R s m args below meth c H locs cells slots Q (F0 m pc ls (.int x :: rest)) := lv_tableOut S.1.1 S.1.2.1 hdg h ht kk
theorem z_look (S : zX p R s m args c cells slots cc nL own) {dflt : Int} {ps : Array (Int × Int)} {len : Nat} {x : Int32} {off : Int} {tgt : Nat} (ho : Op.lookupswitch.offset ps.toList dflt x.toInt = off) (hdg : decode cc pc = .ok (.lookupswitch dflt ps, len)) (hp : (ps.toList.zip (ps.toList.drop 1)).all (fun (a, next) => a.1 < next.1) = true) (ht : (pc : Int) + off = (tgt : Int)) (kk : W p l e R s m args below meth c H locs cells slots Q (F0 m tgt ls rest)) : W p l e R s m args below meth c H locs cells slots Q (F0 m pc ls (.int x :: rest)) := lv_lookup S.1.1 S.1.2.1 hdg hp ho ht kk
theorem z_maxI (S : zX p R s m args c cells slots cc nL own) {index : Nat} {x y : Int32} (hl : Cond.methodLink own index Lib.Math.max.name ∈ WS) (hsz : ls.size = nL) (hR : 1 ≤ R.frames ∧ (rest.map fun v => v.category).sum + 13 ≤ R.locals) (hdg : decode cc pc = .ok (.invokestatic index, 3)) (kk : W p l e R s m args below meth c H locs cells slots Q (F0 m (pc + 3) ls (.int (zmax x y) :: rest))) : W p l e R s m args below meth c H locs cells slots Q (F0 m pc ls (.int y :: .int x :: rest)) := by
  obtain ⟨⟨hx, hb, hml, hown, hts⟩, S2, S3⟩ := S
  exact va_mmax hx hb (hml.trans hsz.symm) hown (hts _ hl) (hts _ (zIn 712 (by decide +kernel) (by decide +kernel))) (hts _ (zIn 13 (by decide +kernel) (by decide +kernel))) (hts _ (zIn 713 (by decide +kernel) (by decide +kernel))) hR.1 hR.2 S2 S3 hdg kk
theorem z_absI (S : zX p R s m args c cells slots cc nL own) {index : Nat} {x : Int32} (hl : Cond.methodLink own index Lib.Math.abs.name ∈ WS) (hsz : ls.size = nL) (hR : 1 ≤ R.frames ∧ (rest.map fun v => v.category).sum + 13 ≤ R.locals) (hdg : decode cc pc = .ok (.invokestatic index, 3)) (kk : W p l e R s m args below meth c H locs cells slots Q (F0 m (pc + 3) ls (.int (zabs x) :: rest))) : W p l e R s m args below meth c H locs cells slots Q (F0 m pc ls (.int x :: rest)) := by
  obtain ⟨⟨hx, hb, hml, hown, hts⟩, S2, S3⟩ := S
  exact va_mabs hx hb (hml.trans hsz.symm) hown (hts _ hl) (hts _ (zIn 680 (by decide +kernel) (by decide +kernel))) (hts _ (zIn 13 (by decide +kernel) (by decide +kernel))) (hts _ (zIn 681 (by decide +kernel) (by decide +kernel))) hR.1 hR.2 S2 S3 hdg kk
end ZE
theorem kr_0_0 {G : ZG} (hG : zOk G) {a : Nat} (h : zk G a = 10) : zk G (zr a 0) = 0 := zkr_of (by decide +kernel) hG (by decide) h
theorem kr_0_1 {G : ZG} (hG : zOk G) {a : Nat} (h : zk G a = 10) : zk G (zr a 1) = 0 := zkr_of (by decide +kernel) hG (by decide) h
theorem kr_1_0 {G : ZG} (hG : zOk G) {a : Nat} (h : zk G a = 11) : zk G (zr a 0) = 20 := zkr_of (by decide +kernel) hG (by decide) h
theorem kr_1_1 {G : ZG} (hG : zOk G) {a : Nat} (h : zk G a = 11) : zk G (zr a 1) = 14 := zkr_of (by decide +kernel) hG (by decide) h
theorem kr_1_2 {G : ZG} (hG : zOk G) {a : Nat} (h : zk G a = 11) : zk G (zr a 2) = 10 := zkr_of (by decide +kernel) hG (by decide) h
theorem kr_2_0 {G : ZG} (hG : zOk G) {a : Nat} (h : zk G a = 12) : zk G (zr a 0) = 15 := zkr_of (by decide +kernel) hG (by decide) h
theorem kr_2_1 {G : ZG} (hG : zOk G) {a : Nat} (h : zk G a = 12) : zk G (zr a 1) = 1 := zkr_of (by decide +kernel) hG (by decide) h
theorem kr_2_2 {G : ZG} (hG : zOk G) {a : Nat} (h : zk G a = 12) : zk G (zr a 2) = 0 := zkr_of (by decide +kernel) hG (by decide) h
theorem kr_2_3 {G : ZG} (hG : zOk G) {a : Nat} (h : zk G a = 12) : zk G (zr a 3) = 0 := zkr_of (by decide +kernel) hG (by decide) h
theorem kr_3_0 {G : ZG} (hG : zOk G) {a : Nat} (h : zk G a = 13) : zk G (zr a 0) = 0 := zkr_of (by decide +kernel) hG (by decide) h
theorem kr_3_1 {G : ZG} (hG : zOk G) {a : Nat} (h : zk G a = 13) : zk G (zr a 1) = 0 := zkr_of (by decide +kernel) hG (by decide) h
theorem kr_4_0 {G : ZG} (hG : zOk G) {a : Nat} (h : zk G a = 14) : zk G (zr a 0) = 0 := zkr_of (by decide +kernel) hG (by decide) h
theorem kr_5_0 {G : ZG} (hG : zOk G) {a : Nat} (h : zk G a = 15) : zk G (zr a 0) = 1 := zkr_of (by decide +kernel) hG (by decide) h
theorem kr_5_1 {G : ZG} (hG : zOk G) {a : Nat} (h : zk G a = 15) : zk G (zr a 1) = 1 := zkr_of (by decide +kernel) hG (by decide) h
theorem kr_5_2 {G : ZG} (hG : zOk G) {a : Nat} (h : zk G a = 15) : zk G (zr a 2) = 0 := zkr_of (by decide +kernel) hG (by decide) h
theorem kr_6_0 {G : ZG} (hG : zOk G) {a : Nat} (h : zk G a = 16) : zk G (zr a 0) = 0 := zkr_of (by decide +kernel) hG (by decide) h
theorem kr_7_0 {G : ZG} (hG : zOk G) {a : Nat} (h : zk G a = 17) : zk G (zr a 0) = 0 := zkr_of (by decide +kernel) hG (by decide) h
theorem kr_7_1 {G : ZG} (hG : zOk G) {a : Nat} (h : zk G a = 17) : zk G (zr a 1) = 0 := zkr_of (by decide +kernel) hG (by decide) h
theorem kr_7_2 {G : ZG} (hG : zOk G) {a : Nat} (h : zk G a = 17) : zk G (zr a 2) = 0 := zkr_of (by decide +kernel) hG (by decide) h
theorem kr_7_3 {G : ZG} (hG : zOk G) {a : Nat} (h : zk G a = 17) : zk G (zr a 3) = 0 := zkr_of (by decide +kernel) hG (by decide) h
theorem kr_7_5 {G : ZG} (hG : zOk G) {a : Nat} (h : zk G a = 17) : zk G (zr a 5) = 0 := zkr_of (by decide +kernel) hG (by decide) h
theorem kr_7_6 {G : ZG} (hG : zOk G) {a : Nat} (h : zk G a = 17) : zk G (zr a 6) = 0 := zkr_of (by decide +kernel) hG (by decide) h
theorem kr_7_7 {G : ZG} (hG : zOk G) {a : Nat} (h : zk G a = 17) : zk G (zr a 7) = 1 := zkr_of (by decide +kernel) hG (by decide) h
theorem kr_7_8 {G : ZG} (hG : zOk G) {a : Nat} (h : zk G a = 17) : zk G (zr a 8) = 0 := zkr_of (by decide +kernel) hG (by decide) h
theorem kr_8_0 {G : ZG} (hG : zOk G) {a : Nat} (h : zk G a = 18) : zk G (zr a 0) = 1 := zkr_of (by decide +kernel) hG (by decide) h
theorem kr_9_0 {G : ZG} (hG : zOk G) {a : Nat} (h : zk G a = 19) : zk G (zr a 0) = 1 := zkr_of (by decide +kernel) hG (by decide) h
theorem kr_9_1 {G : ZG} (hG : zOk G) {a : Nat} (h : zk G a = 19) : zk G (zr a 1) = 1 := zkr_of (by decide +kernel) hG (by decide) h
theorem kr_10_0 {G : ZG} (hG : zOk G) {a : Nat} (h : zk G a = 20) : zk G (zr a 0) = 0 := zkr_of (by decide +kernel) hG (by decide) h
theorem kr_11_0 {G : ZG} (hG : zOk G) {a : Nat} (h : zk G a = 21) : zk G (zr a 0) = 20 := zkr_of (by decide +kernel) hG (by decide) h
theorem kr_11_1 {G : ZG} (hG : zOk G) {a : Nat} (h : zk G a = 21) : zk G (zr a 1) = 20 := zkr_of (by decide +kernel) hG (by decide) h
theorem kr_11_2 {G : ZG} (hG : zOk G) {a : Nat} (h : zk G a = 21) : zk G (zr a 2) = 20 := zkr_of (by decide +kernel) hG (by decide) h
theorem kr_11_3 {G : ZG} (hG : zOk G) {a : Nat} (h : zk G a = 21) : zk G (zr a 3) = 19 := zkr_of (by decide +kernel) hG (by decide) h
theorem kr_11_4 {G : ZG} (hG : zOk G) {a : Nat} (h : zk G a = 21) : zk G (zr a 4) = 17 := zkr_of (by decide +kernel) hG (by decide) h
theorem kr_11_5 {G : ZG} (hG : zOk G) {a : Nat} (h : zk G a = 21) : zk G (zr a 5) = 12 := zkr_of (by decide +kernel) hG (by decide) h
theorem kr_11_6 {G : ZG} (hG : zOk G) {a : Nat} (h : zk G a = 21) : zk G (zr a 6) = 18 := zkr_of (by decide +kernel) hG (by decide) h
theorem kr_11_7 {G : ZG} (hG : zOk G) {a : Nat} (h : zk G a = 21) : zk G (zr a 7) = 14 := zkr_of (by decide +kernel) hG (by decide) h
theorem kr_11_8 {G : ZG} (hG : zOk G) {a : Nat} (h : zk G a = 21) : zk G (zr a 8) = 16 := zkr_of (by decide +kernel) hG (by decide) h
theorem kr_11_9 {G : ZG} (hG : zOk G) {a : Nat} (h : zk G a = 21) : zk G (zr a 9) = 16 := zkr_of (by decide +kernel) hG (by decide) h
theorem kr_11_10 {G : ZG} (hG : zOk G) {a : Nat} (h : zk G a = 21) : zk G (zr a 10) = 13 := zkr_of (by decide +kernel) hG (by decide) h
theorem kr_11_11 {G : ZG} (hG : zOk G) {a : Nat} (h : zk G a = 21) : zk G (zr a 11) = 10 := zkr_of (by decide +kernel) hG (by decide) h
theorem kr_11_12 {G : ZG} (hG : zOk G) {a : Nat} (h : zk G a = 21) : zk G (zr a 12) = 11 := zkr_of (by decide +kernel) hG (by decide) h
theorem kr_11_13 {G : ZG} (hG : zOk G) {a : Nat} (h : zk G a = 21) : zk G (zr a 13) = 0 := zkr_of (by decide +kernel) hG (by decide) h
theorem inW0 : ∀ w ∈ u_ws RX0 TX0 3, w ∈ WS := show ∀ w ∈ [u_lay RX0 TX0 0, u_lay RX0 TX0 1, u_lay RX0 TX0 2], w ∈ WS from List.forall_mem_cons.mpr ⟨zIn 202 (by decide +kernel) (by decide +kernel), List.forall_mem_cons.mpr ⟨zIn 204 (by decide +kernel) (by decide +kernel), List.forall_mem_cons.mpr ⟨zIn 206 (by decide +kernel) (by decide +kernel), fun _ h => absurd h List.not_mem_nil⟩⟩⟩
theorem inW1 : ∀ w ∈ u_ws RX1 TX1 4, w ∈ WS := show ∀ w ∈ [u_lay RX1 TX1 0, u_lay RX1 TX1 1, u_lay RX1 TX1 2, u_lay RX1 TX1 3], w ∈ WS from List.forall_mem_cons.mpr ⟨zIn 225 (by decide +kernel) (by decide +kernel), List.forall_mem_cons.mpr ⟨zIn 227 (by decide +kernel) (by decide +kernel), List.forall_mem_cons.mpr ⟨zIn 229 (by decide +kernel) (by decide +kernel), List.forall_mem_cons.mpr ⟨zIn 231 (by decide +kernel) (by decide +kernel), fun _ h => absurd h List.not_mem_nil⟩⟩⟩⟩
theorem inW2 : ∀ w ∈ u_ws RX2 TX2 6, w ∈ WS := show ∀ w ∈ [u_lay RX2 TX2 0, u_lay RX2 TX2 1, u_lay RX2 TX2 2, u_lay RX2 TX2 3, u_lay RX2 TX2 4, u_lay RX2 TX2 5], w ∈ WS from List.forall_mem_cons.mpr ⟨zIn 121 (by decide +kernel) (by decide +kernel), List.forall_mem_cons.mpr ⟨zIn 123 (by decide +kernel) (by decide +kernel), List.forall_mem_cons.mpr ⟨zIn 125 (by decide +kernel) (by decide +kernel), List.forall_mem_cons.mpr ⟨zIn 127 (by decide +kernel) (by decide +kernel), List.forall_mem_cons.mpr ⟨zIn 129 (by decide +kernel) (by decide +kernel), List.forall_mem_cons.mpr ⟨zIn 131 (by decide +kernel) (by decide +kernel), fun _ h => absurd h List.not_mem_nil⟩⟩⟩⟩⟩⟩
theorem inW3 : ∀ w ∈ u_ws RX3 TX3 4, w ∈ WS := show ∀ w ∈ [u_lay RX3 TX3 0, u_lay RX3 TX3 1, u_lay RX3 TX3 2, u_lay RX3 TX3 3], w ∈ WS from List.forall_mem_cons.mpr ⟨zIn 184 (by decide +kernel) (by decide +kernel), List.forall_mem_cons.mpr ⟨zIn 186 (by decide +kernel) (by decide +kernel), List.forall_mem_cons.mpr ⟨zIn 188 (by decide +kernel) (by decide +kernel), List.forall_mem_cons.mpr ⟨zIn 190 (by decide +kernel) (by decide +kernel), fun _ h => absurd h List.not_mem_nil⟩⟩⟩⟩
theorem inW4 : ∀ w ∈ u_ws RX4 TX4 2, w ∈ WS := show ∀ w ∈ [u_lay RX4 TX4 0, u_lay RX4 TX4 1], w ∈ WS from List.forall_mem_cons.mpr ⟨zIn 155 (by decide +kernel) (by decide +kernel), List.forall_mem_cons.mpr ⟨zIn 157 (by decide +kernel) (by decide +kernel), fun _ h => absurd h List.not_mem_nil⟩⟩
theorem inW5 : ∀ w ∈ u_ws RX5 TX5 5, w ∈ WS := show ∀ w ∈ [u_lay RX5 TX5 0, u_lay RX5 TX5 1, u_lay RX5 TX5 2, u_lay RX5 TX5 3, u_lay RX5 TX5 4], w ∈ WS from List.forall_mem_cons.mpr ⟨zIn 104 (by decide +kernel) (by decide +kernel), List.forall_mem_cons.mpr ⟨zIn 106 (by decide +kernel) (by decide +kernel), List.forall_mem_cons.mpr ⟨zIn 108 (by decide +kernel) (by decide +kernel), List.forall_mem_cons.mpr ⟨zIn 110 (by decide +kernel) (by decide +kernel), List.forall_mem_cons.mpr ⟨zIn 112 (by decide +kernel) (by decide +kernel), fun _ h => absurd h List.not_mem_nil⟩⟩⟩⟩⟩
theorem inW6 : ∀ w ∈ u_ws RX6 TX6 3, w ∈ WS := show ∀ w ∈ [u_lay RX6 TX6 0, u_lay RX6 TX6 1, u_lay RX6 TX6 2], w ∈ WS from List.forall_mem_cons.mpr ⟨zIn 169 (by decide +kernel) (by decide +kernel), List.forall_mem_cons.mpr ⟨zIn 171 (by decide +kernel) (by decide +kernel), List.forall_mem_cons.mpr ⟨zIn 173 (by decide +kernel) (by decide +kernel), fun _ h => absurd h List.not_mem_nil⟩⟩⟩
theorem inW7 : ∀ w ∈ u_ws RX7 TX7 10, w ∈ WS := show ∀ w ∈ [u_lay RX7 TX7 0, u_lay RX7 TX7 1, u_lay RX7 TX7 2, u_lay RX7 TX7 3, u_lay RX7 TX7 4, u_lay RX7 TX7 5, u_lay RX7 TX7 6, u_lay RX7 TX7 7, u_lay RX7 TX7 8, u_lay RX7 TX7 9], w ∈ WS from List.forall_mem_cons.mpr ⟨zIn 66 (by decide +kernel) (by decide +kernel), List.forall_mem_cons.mpr ⟨zIn 68 (by decide +kernel) (by decide +kernel), List.forall_mem_cons.mpr ⟨zIn 70 (by decide +kernel) (by decide +kernel), List.forall_mem_cons.mpr ⟨zIn 72 (by decide +kernel) (by decide +kernel), List.forall_mem_cons.mpr ⟨zIn 74 (by decide +kernel) (by decide +kernel), List.forall_mem_cons.mpr ⟨zIn 76 (by decide +kernel) (by decide +kernel), List.forall_mem_cons.mpr ⟨zIn 78 (by decide +kernel) (by decide +kernel), List.forall_mem_cons.mpr ⟨zIn 80 (by decide +kernel) (by decide +kernel), List.forall_mem_cons.mpr ⟨zIn 82 (by decide +kernel) (by decide +kernel), List.forall_mem_cons.mpr ⟨zIn 84 (by decide +kernel) (by decide +kernel), fun _ h => absurd h List.not_mem_nil⟩⟩⟩⟩⟩⟩⟩⟩⟩⟩
theorem inW8 : ∀ w ∈ u_ws RX8 TX8 2, w ∈ WS := show ∀ w ∈ [u_lay RX8 TX8 0, u_lay RX8 TX8 1], w ∈ WS from List.forall_mem_cons.mpr ⟨zIn 142 (by decide +kernel) (by decide +kernel), List.forall_mem_cons.mpr ⟨zIn 144 (by decide +kernel) (by decide +kernel), fun _ h => absurd h List.not_mem_nil⟩⟩
theorem inW9 : ∀ w ∈ u_ws RX9 TX9 2, w ∈ WS := show ∀ w ∈ [u_lay RX9 TX9 0, u_lay RX9 TX9 1], w ∈ WS from List.forall_mem_cons.mpr ⟨zIn 44 (by decide +kernel) (by decide +kernel), List.forall_mem_cons.mpr ⟨zIn 46 (by decide +kernel) (by decide +kernel), fun _ h => absurd h List.not_mem_nil⟩⟩
theorem inW10 : ∀ w ∈ u_ws RX10 TX10 2, w ∈ WS := show ∀ w ∈ [u_lay RX10 TX10 0, u_lay RX10 TX10 1], w ∈ WS from List.forall_mem_cons.mpr ⟨zIn 30 (by decide +kernel) (by decide +kernel), List.forall_mem_cons.mpr ⟨zIn 32 (by decide +kernel) (by decide +kernel), fun _ h => absurd h List.not_mem_nil⟩⟩
theorem inW11 : ∀ w ∈ u_ws RX11 TX11 14, w ∈ WS := show ∀ w ∈ [u_lay RX11 TX11 0, u_lay RX11 TX11 1, u_lay RX11 TX11 2, u_lay RX11 TX11 3, u_lay RX11 TX11 4, u_lay RX11 TX11 5, u_lay RX11 TX11 6, u_lay RX11 TX11 7, u_lay RX11 TX11 8, u_lay RX11 TX11 9, u_lay RX11 TX11 10, u_lay RX11 TX11 11, u_lay RX11 TX11 12, u_lay RX11 TX11 13], w ∈ WS from List.forall_mem_cons.mpr ⟨zIn 298 (by decide +kernel) (by decide +kernel), List.forall_mem_cons.mpr ⟨zIn 300 (by decide +kernel) (by decide +kernel), List.forall_mem_cons.mpr ⟨zIn 302 (by decide +kernel) (by decide +kernel), List.forall_mem_cons.mpr ⟨zIn 304 (by decide +kernel) (by decide +kernel), List.forall_mem_cons.mpr ⟨zIn 306 (by decide +kernel) (by decide +kernel), List.forall_mem_cons.mpr ⟨zIn 308 (by decide +kernel) (by decide +kernel), List.forall_mem_cons.mpr ⟨zIn 310 (by decide +kernel) (by decide +kernel), List.forall_mem_cons.mpr ⟨zIn 312 (by decide +kernel) (by decide +kernel), List.forall_mem_cons.mpr ⟨zIn 314 (by decide +kernel) (by decide +kernel), List.forall_mem_cons.mpr ⟨zIn 316 (by decide +kernel) (by decide +kernel), List.forall_mem_cons.mpr ⟨zIn 318 (by decide +kernel) (by decide +kernel), List.forall_mem_cons.mpr ⟨zIn 320 (by decide +kernel) (by decide +kernel), List.forall_mem_cons.mpr ⟨zIn 322 (by decide +kernel) (by decide +kernel), List.forall_mem_cons.mpr ⟨zIn 324 (by decide +kernel) (by decide +kernel), fun _ h => absurd h List.not_mem_nil⟩⟩⟩⟩⟩⟩⟩⟩⟩⟩⟩⟩⟩⟩
theorem st_X11_297 : Cond.fieldLink RX11 297 "MayBeRead" "MARK_CASES" "[J" ∈ WS := zIn 462 (by decide +kernel) (by decide +kernel)
theorem fl_X11_10 : zFl RX11 10 11 0 := ⟨RX11, TX11, 14, tyX11, rfl, by decide, rfl, inW11, by decide, zIn 284 (by decide +kernel) (by decide +kernel), tyX11_ok, nmX11, by decide +kernel⟩
theorem fl_X11_16 : zFl RX11 16 11 1 := ⟨RX11, TX11, 14, tyX11, rfl, by decide, rfl, inW11, by decide, zIn 285 (by decide +kernel) (by decide +kernel), tyX11_ok, nmX11, by decide +kernel⟩
theorem fl_X11_19 : zFl RX11 19 11 2 := ⟨RX11, TX11, 14, tyX11, rfl, by decide, rfl, inW11, by decide, zIn 286 (by decide +kernel) (by decide +kernel), tyX11_ok, nmX11, by decide +kernel⟩
theorem fl_X11_25 : zFl RX11 25 11 3 := ⟨RX11, TX11, 14, tyX11, rfl, by decide, rfl, inW11, by decide, zIn 287 (by decide +kernel) (by decide +kernel), tyX11_ok, nmX11, by decide +kernel⟩
theorem fl_X11_32 : zFl RX11 32 11 4 := ⟨RX11, TX11, 14, tyX11, rfl, by decide, rfl, inW11, by decide, zIn 288 (by decide +kernel) (by decide +kernel), tyX11_ok, nmX11, by decide +kernel⟩
theorem fl_X11_39 : zFl RX11 39 11 5 := ⟨RX11, TX11, 14, tyX11, rfl, by decide, rfl, inW11, by decide, zIn 289 (by decide +kernel) (by decide +kernel), tyX11_ok, nmX11, by decide +kernel⟩
theorem fl_X11_46 : zFl RX11 46 11 6 := ⟨RX11, TX11, 14, tyX11, rfl, by decide, rfl, inW11, by decide, zIn 290 (by decide +kernel) (by decide +kernel), tyX11_ok, nmX11, by decide +kernel⟩
theorem fl_X11_53 : zFl RX11 53 11 7 := ⟨RX11, TX11, 14, tyX11, rfl, by decide, rfl, inW11, by decide, zIn 291 (by decide +kernel) (by decide +kernel), tyX11_ok, nmX11, by decide +kernel⟩
theorem fl_X11_60 : zFl RX11 60 11 8 := ⟨RX11, TX11, 14, tyX11, rfl, by decide, rfl, inW11, by decide, zIn 292 (by decide +kernel) (by decide +kernel), tyX11_ok, nmX11, by decide +kernel⟩
theorem fl_X11_64 : zFl RX11 64 11 9 := ⟨RX11, TX11, 14, tyX11, rfl, by decide, rfl, inW11, by decide, zIn 293 (by decide +kernel) (by decide +kernel), tyX11_ok, nmX11, by decide +kernel⟩
theorem fl_X11_70 : zFl RX11 70 11 10 := ⟨RX11, TX11, 14, tyX11, rfl, by decide, rfl, inW11, by decide, zIn 294 (by decide +kernel) (by decide +kernel), tyX11_ok, nmX11, by decide +kernel⟩
theorem fl_X11_77 : zFl RX11 77 11 11 := ⟨RX11, TX11, 14, tyX11, rfl, by decide, rfl, inW11, by decide, zIn 295 (by decide +kernel) (by decide +kernel), tyX11_ok, nmX11, by decide +kernel⟩
theorem fl_X11_84 : zFl RX11 84 11 12 := ⟨RX11, TX11, 14, tyX11, rfl, by decide, rfl, inW11, by decide, zIn 296 (by decide +kernel) (by decide +kernel), tyX11_ok, nmX11, by decide +kernel⟩
theorem fl_X11_88 : zFl RX11 88 11 13 := ⟨RX11, TX11, 14, tyX11, rfl, by decide, rfl, inW11, by decide, zIn 297 (by decide +kernel) (by decide +kernel), tyX11_ok, nmX11, by decide +kernel⟩
theorem fl_X0_9 : zFl RX0 9 0 0 := ⟨RX0, TX0, 3, tyX0, rfl, by decide, rfl, inW0, by decide, zIn 199 (by decide +kernel) (by decide +kernel), tyX0_ok, nmX0, by decide +kernel⟩
theorem fl_X0_15 : zFl RX0 15 0 1 := ⟨RX0, TX0, 3, tyX0, rfl, by decide, rfl, inW0, by decide, zIn 200 (by decide +kernel) (by decide +kernel), tyX0_ok, nmX0, by decide +kernel⟩
theorem fl_X0_18 : zFl RX0 18 0 2 := ⟨RX0, TX0, 3, tyX0, rfl, by decide, rfl, inW0, by decide, zIn 201 (by decide +kernel) (by decide +kernel), tyX0_ok, nmX0, by decide +kernel⟩
theorem fl_X1_10 : zFl RX1 10 1 0 := ⟨RX1, TX1, 4, tyX1, rfl, by decide, rfl, inW1, by decide, zIn 221 (by decide +kernel) (by decide +kernel), tyX1_ok, nmX1, by decide +kernel⟩
theorem fl_X1_19 : zFl RX1 19 1 1 := ⟨RX1, TX1, 4, tyX1, rfl, by decide, rfl, inW1, by decide, zIn 222 (by decide +kernel) (by decide +kernel), tyX1_ok, nmX1, by decide +kernel⟩
theorem fl_X1_26 : zFl RX1 26 1 2 := ⟨RX1, TX1, 4, tyX1, rfl, by decide, rfl, inW1, by decide, zIn 223 (by decide +kernel) (by decide +kernel), tyX1_ok, nmX1, by decide +kernel⟩
theorem fl_X1_30 : zFl RX1 30 1 3 := ⟨RX1, TX1, 4, tyX1, rfl, by decide, rfl, inW1, by decide, zIn 224 (by decide +kernel) (by decide +kernel), tyX1_ok, nmX1, by decide +kernel⟩
theorem fl_X2_12 : zFl RX2 12 2 0 := ⟨RX2, TX2, 6, tyX2, rfl, by decide, rfl, inW2, by decide, zIn 115 (by decide +kernel) (by decide +kernel), tyX2_ok, nmX2, by decide +kernel⟩
theorem fl_X2_18 : zFl RX2 18 2 1 := ⟨RX2, TX2, 6, tyX2, rfl, by decide, rfl, inW2, by decide, zIn 116 (by decide +kernel) (by decide +kernel), tyX2_ok, nmX2, by decide +kernel⟩
theorem fl_X2_22 : zFl RX2 22 2 2 := ⟨RX2, TX2, 6, tyX2, rfl, by decide, rfl, inW2, by decide, zIn 117 (by decide +kernel) (by decide +kernel), tyX2_ok, nmX2, by decide +kernel⟩
theorem fl_X2_26 : zFl RX2 26 2 3 := ⟨RX2, TX2, 6, tyX2, rfl, by decide, rfl, inW2, by decide, zIn 118 (by decide +kernel) (by decide +kernel), tyX2_ok, nmX2, by decide +kernel⟩
theorem fl_X2_29 : zFl RX2 29 2 5 := ⟨RX2, TX2, 6, tyX2, rfl, by decide, rfl, inW2, by decide, zIn 120 (by decide +kernel) (by decide +kernel), tyX2_ok, nmX2, by decide +kernel⟩
theorem fl_X2_33 : zFl RX2 33 2 4 := ⟨RX2, TX2, 6, tyX2, rfl, by decide, rfl, inW2, by decide, zIn 119 (by decide +kernel) (by decide +kernel), tyX2_ok, nmX2, by decide +kernel⟩
theorem fl_X3_11 : zFl RX3 11 3 0 := ⟨RX3, TX3, 4, tyX3, rfl, by decide, rfl, inW3, by decide, zIn 182 (by decide +kernel) (by decide +kernel), tyX3_ok, nmX3, by decide +kernel⟩
theorem fl_X3_15 : zFl RX3 15 3 1 := ⟨RX3, TX3, 4, tyX3, rfl, by decide, rfl, inW3, by decide, zIn 183 (by decide +kernel) (by decide +kernel), tyX3_ok, nmX3, by decide +kernel⟩
theorem fl_X4_9 : zFl RX4 9 4 0 := ⟨RX4, TX4, 2, tyX4, rfl, by decide, rfl, inW4, by decide, zIn 153 (by decide +kernel) (by decide +kernel), tyX4_ok, nmX4, by decide +kernel⟩
theorem fl_X4_15 : zFl RX4 15 4 1 := ⟨RX4, TX4, 2, tyX4, rfl, by decide, rfl, inW4, by decide, zIn 154 (by decide +kernel) (by decide +kernel), tyX4_ok, nmX4, by decide +kernel⟩
theorem fl_X5_9 : zFl RX5 9 5 0 := ⟨RX5, TX5, 5, tyX5, rfl, by decide, rfl, inW5, by decide, zIn 99 (by decide +kernel) (by decide +kernel), tyX5_ok, nmX5, by decide +kernel⟩
theorem fl_X5_15 : zFl RX5 15 5 1 := ⟨RX5, TX5, 5, tyX5, rfl, by decide, rfl, inW5, by decide, zIn 100 (by decide +kernel) (by decide +kernel), tyX5_ok, nmX5, by decide +kernel⟩
theorem fl_X5_18 : zFl RX5 18 5 2 := ⟨RX5, TX5, 5, tyX5, rfl, by decide, rfl, inW5, by decide, zIn 101 (by decide +kernel) (by decide +kernel), tyX5_ok, nmX5, by decide +kernel⟩
theorem fl_X5_26 : zFl RX5 26 5 3 := ⟨RX5, TX5, 5, tyX5, rfl, by decide, rfl, inW5, by decide, zIn 102 (by decide +kernel) (by decide +kernel), tyX5_ok, nmX5, by decide +kernel⟩
theorem fl_X5_30 : zFl RX5 30 5 4 := ⟨RX5, TX5, 5, tyX5, rfl, by decide, rfl, inW5, by decide, zIn 103 (by decide +kernel) (by decide +kernel), tyX5_ok, nmX5, by decide +kernel⟩
theorem fl_X6_9 : zFl RX6 9 6 0 := ⟨RX6, TX6, 3, tyX6, rfl, by decide, rfl, inW6, by decide, zIn 166 (by decide +kernel) (by decide +kernel), tyX6_ok, nmX6, by decide +kernel⟩
theorem fl_X6_15 : zFl RX6 15 6 1 := ⟨RX6, TX6, 3, tyX6, rfl, by decide, rfl, inW6, by decide, zIn 167 (by decide +kernel) (by decide +kernel), tyX6_ok, nmX6, by decide +kernel⟩
theorem fl_X6_23 : zFl RX6 23 6 2 := ⟨RX6, TX6, 3, tyX6, rfl, by decide, rfl, inW6, by decide, zIn 168 (by decide +kernel) (by decide +kernel), tyX6_ok, nmX6, by decide +kernel⟩
theorem fl_X7_9 : zFl RX7 9 7 0 := ⟨RX7, TX7, 10, tyX7, rfl, by decide, rfl, inW7, by decide, zIn 56 (by decide +kernel) (by decide +kernel), tyX7_ok, nmX7, by decide +kernel⟩
theorem fl_X7_15 : zFl RX7 15 7 1 := ⟨RX7, TX7, 10, tyX7, rfl, by decide, rfl, inW7, by decide, zIn 57 (by decide +kernel) (by decide +kernel), tyX7_ok, nmX7, by decide +kernel⟩
theorem fl_X7_18 : zFl RX7 18 7 2 := ⟨RX7, TX7, 10, tyX7, rfl, by decide, rfl, inW7, by decide, zIn 58 (by decide +kernel) (by decide +kernel), tyX7_ok, nmX7, by decide +kernel⟩
theorem fl_X7_21 : zFl RX7 21 7 3 := ⟨RX7, TX7, 10, tyX7, rfl, by decide, rfl, inW7, by decide, zIn 59 (by decide +kernel) (by decide +kernel), tyX7_ok, nmX7, by decide +kernel⟩
theorem fl_X7_24 : zFl RX7 24 7 5 := ⟨RX7, TX7, 10, tyX7, rfl, by decide, rfl, inW7, by decide, zIn 61 (by decide +kernel) (by decide +kernel), tyX7_ok, nmX7, by decide +kernel⟩
theorem fl_X7_27 : zFl RX7 27 7 6 := ⟨RX7, TX7, 10, tyX7, rfl, by decide, rfl, inW7, by decide, zIn 62 (by decide +kernel) (by decide +kernel), tyX7_ok, nmX7, by decide +kernel⟩
theorem fl_X7_30 : zFl RX7 30 7 7 := ⟨RX7, TX7, 10, tyX7, rfl, by decide, rfl, inW7, by decide, zIn 63 (by decide +kernel) (by decide +kernel), tyX7_ok, nmX7, by decide +kernel⟩
theorem fl_X7_34 : zFl RX7 34 7 8 := ⟨RX7, TX7, 10, tyX7, rfl, by decide, rfl, inW7, by decide, zIn 64 (by decide +kernel) (by decide +kernel), tyX7_ok, nmX7, by decide +kernel⟩
theorem fl_X7_37 : zFl RX7 37 7 4 := ⟨RX7, TX7, 10, tyX7, rfl, by decide, rfl, inW7, by decide, zIn 60 (by decide +kernel) (by decide +kernel), tyX7_ok, nmX7, by decide +kernel⟩
theorem fl_X7_45 : zFl RX7 45 7 9 := ⟨RX7, TX7, 10, tyX7, rfl, by decide, rfl, inW7, by decide, zIn 65 (by decide +kernel) (by decide +kernel), tyX7_ok, nmX7, by decide +kernel⟩
theorem fl_X8_9 : zFl RX8 9 8 0 := ⟨RX8, TX8, 2, tyX8, rfl, by decide, rfl, inW8, by decide, zIn 140 (by decide +kernel) (by decide +kernel), tyX8_ok, nmX8, by decide +kernel⟩
theorem fl_X8_15 : zFl RX8 15 8 1 := ⟨RX8, TX8, 2, tyX8, rfl, by decide, rfl, inW8, by decide, zIn 141 (by decide +kernel) (by decide +kernel), tyX8_ok, nmX8, by decide +kernel⟩
theorem fl_X9_11 : zFl RX9 11 9 0 := ⟨RX9, TX9, 2, tyX9, rfl, by decide, rfl, inW9, by decide, zIn 42 (by decide +kernel) (by decide +kernel), tyX9_ok, nmX9, by decide +kernel⟩
theorem fl_X9_15 : zFl RX9 15 9 1 := ⟨RX9, TX9, 2, tyX9, rfl, by decide, rfl, inW9, by decide, zIn 43 (by decide +kernel) (by decide +kernel), tyX9_ok, nmX9, by decide +kernel⟩
theorem fl_X10_9 : zFl RX10 9 10 0 := ⟨RX10, TX10, 2, tyX10, rfl, by decide, rfl, inW10, by decide, zIn 28 (by decide +kernel) (by decide +kernel), tyX10_ok, nmX10, by decide +kernel⟩
theorem fl_X10_15 : zFl RX10 15 10 1 := ⟨RX10, TX10, 2, tyX10, rfl, by decide, rfl, inW10, by decide, zIn 29 (by decide +kernel) (by decide +kernel), tyX10_ok, nmX10, by decide +kernel⟩
theorem mv_X11_feed : zMv yX11_feed cX11_feed 5 (Option.some FieldType.int) 2 := ⟨zIn 330 (by decide +kernel) (by decide +kernel), zIn 1 (by decide +kernel) (by decide +kernel), zIn 328 (by decide +kernel) (by decide +kernel), zIn 329 (by decide +kernel) (by decide +kernel), by decide +kernel, by decide +kernel, by decide +kernel⟩
theorem mv_X11_read : zMv yX11_read cX11_read 2 (Option.some FieldType.int) 0 := ⟨zIn 342 (by decide +kernel) (by decide +kernel), zIn 1 (by decide +kernel) (by decide +kernel), zIn 340 (by decide +kernel) (by decide +kernel), zIn 341 (by decide +kernel) (by decide +kernel), by decide +kernel, by decide +kernel, by decide +kernel⟩
theorem mv_X11_wordAt : zMv yX11_wordAt cX11_wordAt 2 (Option.some FieldType.int) 1 := ⟨zIn 371 (by decide +kernel) (by decide +kernel), zIn 1 (by decide +kernel) (by decide +kernel), zIn 369 (by decide +kernel) (by decide +kernel), zIn 370 (by decide +kernel) (by decide +kernel), by decide +kernel, by decide +kernel, by decide +kernel⟩
theorem mv_X11_readings : zMv yX11_readings cX11_readings 1 (Option.some FieldType.long) 0 := ⟨zIn 376 (by decide +kernel) (by decide +kernel), zIn 1 (by decide +kernel) (by decide +kernel), zIn 374 (by decide +kernel) (by decide +kernel), zIn 375 (by decide +kernel) (by decide +kernel), by decide +kernel, by decide +kernel, by decide +kernel⟩
theorem mv_X11_means : zMv yX11_means cX11_means 2 (Option.some FieldType.long) 1 := ⟨zIn 381 (by decide +kernel) (by decide +kernel), zIn 1 (by decide +kernel) (by decide +kernel), zIn 379 (by decide +kernel) (by decide +kernel), zIn 380 (by decide +kernel) (by decide +kernel), by decide +kernel, by decide +kernel, by decide +kernel⟩
theorem mv_X11_all : zMv yX11_all cX11_all 2 (Option.some FieldType.long) 1 := ⟨zIn 523 (by decide +kernel) (by decide +kernel), zIn 1 (by decide +kernel) (by decide +kernel), zIn 521 (by decide +kernel) (by decide +kernel), zIn 522 (by decide +kernel) (by decide +kernel), by decide +kernel, by decide +kernel, by decide +kernel⟩
theorem mv_X11_same : zMv yX11_same cX11_same 3 (Option.some FieldType.int) 2 := ⟨zIn 538 (by decide +kernel) (by decide +kernel), zIn 1 (by decide +kernel) (by decide +kernel), zIn 536 (by decide +kernel) (by decide +kernel), zIn 537 (by decide +kernel) (by decide +kernel), by decide +kernel, by decide +kernel, by decide +kernel⟩
theorem mv_X11_unlike : zMv yX11_unlike cX11_unlike 1 (Option.some FieldType.int) 0 := ⟨zIn 542 (by decide +kernel) (by decide +kernel), zIn 1 (by decide +kernel) (by decide +kernel), zIn 540 (by decide +kernel) (by decide +kernel), zIn 541 (by decide +kernel) (by decide +kernel), by decide +kernel, by decide +kernel, by decide +kernel⟩
theorem mv_X11_part : zMv yX11_part cX11_part 3 (Option.some FieldType.int) 2 := ⟨zIn 562 (by decide +kernel) (by decide +kernel), zIn 1 (by decide +kernel) (by decide +kernel), zIn 560 (by decide +kernel) (by decide +kernel), zIn 561 (by decide +kernel) (by decide +kernel), by decide +kernel, by decide +kernel, by decide +kernel⟩
theorem mv_X11_idle : zMv yX11_idle cX11_idle 2 (Option.some FieldType.int) 1 := ⟨zIn 572 (by decide +kernel) (by decide +kernel), zIn 1 (by decide +kernel) (by decide +kernel), zIn 570 (by decide +kernel) (by decide +kernel), zIn 571 (by decide +kernel) (by decide +kernel), by decide +kernel, by decide +kernel, by decide +kernel⟩
theorem mv_X11_needless : zMv yX11_needless cX11_needless 1 (Option.some FieldType.int) 0 := ⟨zIn 581 (by decide +kernel) (by decide +kernel), zIn 1 (by decide +kernel) (by decide +kernel), zIn 579 (by decide +kernel) (by decide +kernel), zIn 580 (by decide +kernel) (by decide +kernel), by decide +kernel, by decide +kernel, by decide +kernel⟩
theorem mv_X11_choose : zMv yX11_choose cX11_choose 2 (Option.some FieldType.int) 1 := ⟨zIn 590 (by decide +kernel) (by decide +kernel), zIn 1 (by decide +kernel) (by decide +kernel), zIn 588 (by decide +kernel) (by decide +kernel), zIn 589 (by decide +kernel) (by decide +kernel), by decide +kernel, by decide +kernel, by decide +kernel⟩
theorem mv_X11_unchoose : zMv yX11_unchoose cX11_unchoose 2 (Option.some FieldType.int) 0 := ⟨zIn 615 (by decide +kernel) (by decide +kernel), zIn 1 (by decide +kernel) (by decide +kernel), zIn 613 (by decide +kernel) (by decide +kernel), zIn 614 (by decide +kernel) (by decide +kernel), by decide +kernel, by decide +kernel, by decide +kernel⟩
theorem mv_X11_leftOver : zMv yX11_leftOver cX11_leftOver 2 (Option.some FieldType.int) 1 := ⟨zIn 623 (by decide +kernel) (by decide +kernel), zIn 1 (by decide +kernel) (by decide +kernel), zIn 621 (by decide +kernel) (by decide +kernel), zIn 622 (by decide +kernel) (by decide +kernel), by decide +kernel, by decide +kernel, by decide +kernel⟩
theorem mv_X11_passedOver : zMv yX11_passedOver cX11_passedOver 1 (Option.some FieldType.int) 0 := ⟨zIn 654 (by decide +kernel) (by decide +kernel), zIn 1 (by decide +kernel) (by decide +kernel), zIn 652 (by decide +kernel) (by decide +kernel), zIn 653 (by decide +kernel) (by decide +kernel), by decide +kernel, by decide +kernel, by decide +kernel⟩
theorem mv_X11_hangs : zMv yX11_hangs cX11_hangs 3 (Option.some FieldType.int) 0 := ⟨zIn 662 (by decide +kernel) (by decide +kernel), zIn 1 (by decide +kernel) (by decide +kernel), zIn 660 (by decide +kernel) (by decide +kernel), zIn 661 (by decide +kernel) (by decide +kernel), by decide +kernel, by decide +kernel, by decide +kernel⟩
theorem mv_X11_test : zMv yX11_test cX11_test 1 (Option.some FieldType.int) 0 := ⟨zIn 670 (by decide +kernel) (by decide +kernel), zIn 1 (by decide +kernel) (by decide +kernel), zIn 668 (by decide +kernel) (by decide +kernel), zIn 669 (by decide +kernel) (by decide +kernel), by decide +kernel, by decide +kernel, by decide +kernel⟩
theorem mv_X11_fewest : zMv yX11_fewest cX11_fewest 1 (Option.some FieldType.int) 0 := ⟨zIn 685 (by decide +kernel) (by decide +kernel), zIn 1 (by decide +kernel) (by decide +kernel), zIn 683 (by decide +kernel) (by decide +kernel), zIn 684 (by decide +kernel) (by decide +kernel), by decide +kernel, by decide +kernel, by decide +kernel⟩
theorem mv_X11_bracket : zMv yX11_bracket cX11_bracket 3 (Option.some FieldType.int) 2 := ⟨zIn 702 (by decide +kernel) (by decide +kernel), zIn 1 (by decide +kernel) (by decide +kernel), zIn 700 (by decide +kernel) (by decide +kernel), zIn 701 (by decide +kernel) (by decide +kernel), by decide +kernel, by decide +kernel, by decide +kernel⟩
theorem mv_X11_aim : zMv yX11_aim cX11_aim 3 (Option.some FieldType.int) 2 := ⟨zIn 717 (by decide +kernel) (by decide +kernel), zIn 1 (by decide +kernel) (by decide +kernel), zIn 715 (by decide +kernel) (by decide +kernel), zIn 716 (by decide +kernel) (by decide +kernel), by decide +kernel, by decide +kernel, by decide +kernel⟩
theorem mv_X11_serves : zMv yX11_serves cX11_serves 2 (Option.some FieldType.int) 1 := ⟨zIn 733 (by decide +kernel) (by decide +kernel), zIn 1 (by decide +kernel) (by decide +kernel), zIn 731 (by decide +kernel) (by decide +kernel), zIn 732 (by decide +kernel) (by decide +kernel), by decide +kernel, by decide +kernel, by decide +kernel⟩
theorem mv_X11_best : zMv yX11_best cX11_best 3 (Option.some FieldType.int) 0 := ⟨zIn 744 (by decide +kernel) (by decide +kernel), zIn 1 (by decide +kernel) (by decide +kernel), zIn 742 (by decide +kernel) (by decide +kernel), zIn 743 (by decide +kernel) (by decide +kernel), by decide +kernel, by decide +kernel, by decide +kernel⟩
theorem mv_X11_image : zMv yX11_image cX11_image 1 (Option.some FieldType.int) 0 := ⟨zIn 748 (by decide +kernel) (by decide +kernel), zIn 1 (by decide +kernel) (by decide +kernel), zIn 746 (by decide +kernel) (by decide +kernel), zIn 747 (by decide +kernel) (by decide +kernel), by decide +kernel, by decide +kernel, by decide +kernel⟩
theorem mv_X11_on : zMv yX11_on cX11_on 1 (Option.some FieldType.int) 0 := ⟨zIn 768 (by decide +kernel) (by decide +kernel), zIn 1 (by decide +kernel) (by decide +kernel), zIn 766 (by decide +kernel) (by decide +kernel), zIn 767 (by decide +kernel) (by decide +kernel), by decide +kernel, by decide +kernel, by decide +kernel⟩
theorem mv_X11_count : zMv yX11_count cX11_count 2 (Option.some FieldType.int) 1 := ⟨zIn 790 (by decide +kernel) (by decide +kernel), zIn 1 (by decide +kernel) (by decide +kernel), zIn 788 (by decide +kernel) (by decide +kernel), zIn 789 (by decide +kernel) (by decide +kernel), by decide +kernel, by decide +kernel, by decide +kernel⟩
theorem mv_X11_refuse : zMv yX11_refuse cX11_refuse 2 (Option.some FieldType.int) 1 := ⟨zIn 334 (by decide +kernel) (by decide +kernel), zIn 1 (by decide +kernel) (by decide +kernel), zIn 333 (by decide +kernel) (by decide +kernel), zInP 2 (by decide +kernel) (by decide +kernel), by decide +kernel, by decide +kernel, by decide +kernel⟩
theorem mv_X11_takeSentence : zMv yX11_takeSentence cX11_takeSentence 2 (Option.none : Option FieldType) 1 := ⟨zIn 353 (by decide +kernel) (by decide +kernel), zIn 1 (by decide +kernel) (by decide +kernel), zIn 352 (by decide +kernel) (by decide +kernel), zInP 3 (by decide +kernel) (by decide +kernel), by decide +kernel, by decide +kernel, by decide +kernel⟩
theorem mv_X11_spent : zMv yX11_spent cX11_spent 3 (Option.some FieldType.boolean) 0 := ⟨zIn 385 (by decide +kernel) (by decide +kernel), zIn 1 (by decide +kernel) (by decide +kernel), zIn 384 (by decide +kernel) (by decide +kernel), zInP 4 (by decide +kernel) (by decide +kernel), by decide +kernel, by decide +kernel, by decide +kernel⟩
theorem mv_X11_noReading : zMv yX11_noReading cX11_noReading 2 (Option.some FieldType.boolean) 1 := ⟨zIn 510 (by decide +kernel) (by decide +kernel), zIn 1 (by decide +kernel) (by decide +kernel), zIn 509 (by decide +kernel) (by decide +kernel), zInP 14 (by decide +kernel) (by decide +kernel), by decide +kernel, by decide +kernel, by decide +kernel⟩
theorem mv_X11_noCase : zMs yX11_noCase cX11_noCase 1 (Option.some FieldType.boolean) 1 := ⟨zIn 720 (by decide +kernel) (by decide +kernel), zIn 1 (by decide +kernel) (by decide +kernel), zIn 719 (by decide +kernel) (by decide +kernel), by decide +kernel, by decide +kernel, by decide +kernel⟩
theorem mv_X11_noRule : zMs yX11_noRule cX11_noRule 1 (Option.some FieldType.boolean) 1 := ⟨zIn 593 (by decide +kernel) (by decide +kernel), zIn 1 (by decide +kernel) (by decide +kernel), zIn 592 (by decide +kernel) (by decide +kernel), by decide +kernel, by decide +kernel, by decide +kernel⟩
theorem mv_X11_kindOf : zMs yX11_kindOf cX11_kindOf 1 (Option.some FieldType.int) 1 := ⟨zIn 262 (by decide +kernel) (by decide +kernel), zIn 1 (by decide +kernel) (by decide +kernel), zIn 261 (by decide +kernel) (by decide +kernel), by decide +kernel, by decide +kernel, by decide +kernel⟩
theorem mv_X11_casesOf : zMs yX11_casesOf cX11_casesOf 1 (Option.some FieldType.long) 1 := ⟨zIn 461 (by decide +kernel) (by decide +kernel), zIn 1 (by decide +kernel) (by decide +kernel), zIn 460 (by decide +kernel) (by decide +kernel), by decide +kernel, by decide +kernel, by decide +kernel⟩
theorem mv_X11_isJoin : zMs yX11_isJoin cX11_isJoin 1 (Option.some FieldType.boolean) 1 := ⟨zIn 283 (by decide +kernel) (by decide +kernel), zIn 1 (by decide +kernel) (by decide +kernel), zIn 282 (by decide +kernel) (by decide +kernel), by decide +kernel, by decide +kernel, by decide +kernel⟩
theorem mv_X11_bit : zMs yX11_bit cX11_bit 3 (Option.some FieldType.int) 2 := ⟨zIn 568 (by decide +kernel) (by decide +kernel), zIn 1 (by decide +kernel) (by decide +kernel), zIn 567 (by decide +kernel) (by decide +kernel), by decide +kernel, by decide +kernel, by decide +kernel⟩
theorem mv_X11_leastCase : zMs yX11_leastCase cX11_leastCase 3 (Option.some FieldType.int) 1 := ⟨zIn 565 (by decide +kernel) (by decide +kernel), zIn 1 (by decide +kernel) (by decide +kernel), zIn 564 (by decide +kernel) (by decide +kernel), by decide +kernel, by decide +kernel, by decide +kernel⟩
theorem mv_X11_look : zMs yX11_look cX11_look 2 (Option.some FieldType.int) 2 := ⟨zIn 255 (by decide +kernel) (by decide +kernel), zIn 1 (by decide +kernel) (by decide +kernel), zIn 254 (by decide +kernel) (by decide +kernel), by decide +kernel, by decide +kernel, by decide +kernel⟩
theorem mv_X11_look_ : zMs yX11_look_ cX11_look_ 2 (Option.some FieldType.long) 2 := ⟨zIn 273 (by decide +kernel) (by decide +kernel), zIn 1 (by decide +kernel) (by decide +kernel), zIn 272 (by decide +kernel) (by decide +kernel), by decide +kernel, by decide +kernel, by decide +kernel⟩
theorem mv_X11_put : zMs yX11_put cX11_put 3 (Option.none : Option FieldType) 3 := ⟨zIn 240 (by decide +kernel) (by decide +kernel), zIn 1 (by decide +kernel) (by decide +kernel), zIn 239 (by decide +kernel) (by decide +kernel), by decide +kernel, by decide +kernel, by decide +kernel⟩
theorem mv_X11_put_ : zMs yX11_put_ cX11_put_ 4 (Option.none : Option FieldType) 3 := ⟨zIn 276 (by decide +kernel) (by decide +kernel), zIn 1 (by decide +kernel) (by decide +kernel), zIn 275 (by decide +kernel) (by decide +kernel), by decide +kernel, by decide +kernel, by decide +kernel⟩
theorem mv_X0_size : zMv yX0_size cX0_size 1 (Option.some FieldType.int) 0 := ⟨zIn 724 (by decide +kernel) (by decide +kernel), zIn 11 (by decide +kernel) (by decide +kernel), zIn 722 (by decide +kernel) (by decide +kernel), zIn 723 (by decide +kernel) (by decide +kernel), by decide +kernel, by decide +kernel, by decide +kernel⟩
theorem mv_X0_add : zMv yX0_add cX0_add 3 (Option.none : Option FieldType) 2 := ⟨zIn 728 (by decide +kernel) (by decide +kernel), zIn 11 (by decide +kernel) (by decide +kernel), zIn 726 (by decide +kernel) (by decide +kernel), zIn 727 (by decide +kernel) (by decide +kernel), by decide +kernel, by decide +kernel, by decide +kernel⟩
theorem mv_X0_become : zMv yX0_become cX0_become 3 (Option.none : Option FieldType) 1 := ⟨zIn 763 (by decide +kernel) (by decide +kernel), zIn 11 (by decide +kernel) (by decide +kernel), zIn 761 (by decide +kernel) (by decide +kernel), zIn 762 (by decide +kernel) (by decide +kernel), by decide +kernel, by decide +kernel, by decide +kernel⟩
theorem mv_X0_servedBy : zMv yX0_servedBy cX0_servedBy 5 (Option.some FieldType.int) 1 := ⟨zIn 738 (by decide +kernel) (by decide +kernel), zIn 11 (by decide +kernel) (by decide +kernel), zIn 736 (by decide +kernel) (by decide +kernel), zIn 737 (by decide +kernel) (by decide +kernel), by decide +kernel, by decide +kernel, by decide +kernel⟩
theorem mv_X1_isThere : zMv yX1_isThere cX1_isThere 1 (Option.some FieldType.boolean) 0 := ⟨zIn 772 (by decide +kernel) (by decide +kernel), zIn 12 (by decide +kernel) (by decide +kernel), zIn 770 (by decide +kernel) (by decide +kernel), zIn 771 (by decide +kernel) (by decide +kernel), by decide +kernel, by decide +kernel, by decide +kernel⟩
theorem mv_X1_words : zMv yX1_words cX1_words 1 (Option.some (FieldType.object "MayBeRead$Words")) 0 := ⟨zIn 776 (by decide +kernel) (by decide +kernel), zIn 12 (by decide +kernel) (by decide +kernel), zIn 774 (by decide +kernel) (by decide +kernel), zIn 775 (by decide +kernel) (by decide +kernel), by decide +kernel, by decide +kernel, by decide +kernel⟩
theorem mv_X1_order : zMv yX1_order cX1_order 1 (Option.some (FieldType.object "MayBeRead$Order")) 0 := ⟨zIn 780 (by decide +kernel) (by decide +kernel), zIn 12 (by decide +kernel) (by decide +kernel), zIn 778 (by decide +kernel) (by decide +kernel), zIn 779 (by decide +kernel) (by decide +kernel), by decide +kernel, by decide +kernel, by decide +kernel⟩
theorem mv_X1_aims : zMv yX1_aims cX1_aims 1 (Option.some (FieldType.object "MayBeRead$Aims")) 0 := ⟨zIn 785 (by decide +kernel) (by decide +kernel), zIn 12 (by decide +kernel) (by decide +kernel), zIn 783 (by decide +kernel) (by decide +kernel), zIn 784 (by decide +kernel) (by decide +kernel), by decide +kernel, by decide +kernel, by decide +kernel⟩
theorem mv_X1_take : zMv yX1_take cX1_take 4 (Option.none : Option FieldType) 3 := ⟨zIn 752 (by decide +kernel) (by decide +kernel), zIn 12 (by decide +kernel) (by decide +kernel), zIn 750 (by decide +kernel) (by decide +kernel), zIn 751 (by decide +kernel) (by decide +kernel), by decide +kernel, by decide +kernel, by decide +kernel⟩
theorem mv_X2_isMade : zMv yX2_isMade cX2_isMade 1 (Option.some FieldType.boolean) 0 := ⟨zIn 391 (by decide +kernel) (by decide +kernel), zIn 5 (by decide +kernel) (by decide +kernel), zIn 389 (by decide +kernel) (by decide +kernel), zIn 390 (by decide +kernel) (by decide +kernel), by decide +kernel, by decide +kernel, by decide +kernel⟩
theorem mv_X2_forget : zMv yX2_forget cX2_forget 1 (Option.none : Option FieldType) 0 := ⟨zIn 366 (by decide +kernel) (by decide +kernel), zIn 5 (by decide +kernel) (by decide +kernel), zIn 364 (by decide +kernel) (by decide +kernel), zIn 365 (by decide +kernel) (by decide +kernel), by decide +kernel, by decide +kernel, by decide +kernel⟩
theorem mv_X2_make : zMv yX2_make cX2_make 6 (Option.none : Option FieldType) 4 := ⟨zIn 395 (by decide +kernel) (by decide +kernel), zIn 5 (by decide +kernel) (by decide +kernel), zIn 393 (by decide +kernel) (by decide +kernel), zIn 394 (by decide +kernel) (by decide +kernel), by decide +kernel, by decide +kernel, by decide +kernel⟩
theorem mv_X2_size : zMv yX2_size cX2_size 1 (Option.some FieldType.int) 0 := ⟨zIn 514 (by decide +kernel) (by decide +kernel), zIn 5 (by decide +kernel) (by decide +kernel), zIn 512 (by decide +kernel) (by decide +kernel), zIn 513 (by decide +kernel) (by decide +kernel), by decide +kernel, by decide +kernel, by decide +kernel⟩
theorem mv_X2_meaning : zMv yX2_meaning cX2_meaning 2 (Option.some FieldType.long) 1 := ⟨zIn 518 (by decide +kernel) (by decide +kernel), zIn 5 (by decide +kernel) (by decide +kernel), zIn 516 (by decide +kernel) (by decide +kernel), zIn 517 (by decide +kernel) (by decide +kernel), by decide +kernel, by decide +kernel, by decide +kernel⟩
theorem mv_X2_idlePlaces : zMv yX2_idlePlaces cX2_idlePlaces 2 (Option.some FieldType.int) 1 := ⟨zIn 576 (by decide +kernel) (by decide +kernel), zIn 5 (by decide +kernel) (by decide +kernel), zIn 574 (by decide +kernel) (by decide +kernel), zIn 575 (by decide +kernel) (by decide +kernel), by decide +kernel, by decide +kernel, by decide +kernel⟩
theorem mv_X2_isMet : zMv yX2_isMet cX2_isMet 3 (Option.some FieldType.boolean) 2 := ⟨zIn 644 (by decide +kernel) (by decide +kernel), zIn 5 (by decide +kernel) (by decide +kernel), zIn 642 (by decide +kernel) (by decide +kernel), zIn 643 (by decide +kernel) (by decide +kernel), by decide +kernel, by decide +kernel, by decide +kernel⟩
theorem mv_X2_lettingAt : zMv yX2_lettingAt cX2_lettingAt 4 (Option.some FieldType.int) 1 := ⟨zIn 678 (by decide +kernel) (by decide +kernel), zIn 5 (by decide +kernel) (by decide +kernel), zIn 676 (by decide +kernel) (by decide +kernel), zIn 677 (by decide +kernel) (by decide +kernel), by decide +kernel, by decide +kernel, by decide +kernel⟩
theorem mv_X2_letByAll : zMv yX2_letByAll cX2_letByAll 4 (Option.some FieldType.long) 0 := ⟨zIn 527 (by decide +kernel) (by decide +kernel), zIn 5 (by decide +kernel) (by decide +kernel), zIn 525 (by decide +kernel) (by decide +kernel), zIn 526 (by decide +kernel) (by decide +kernel), by decide +kernel, by decide +kernel, by decide +kernel⟩
theorem mv_X2_barredByAll : zMv yX2_barredByAll cX2_barredByAll 4 (Option.some FieldType.long) 0 := ⟨zIn 533 (by decide +kernel) (by decide +kernel), zIn 5 (by decide +kernel) (by decide +kernel), zIn 531 (by decide +kernel) (by decide +kernel), zIn 532 (by decide +kernel) (by decide +kernel), by decide +kernel, by decide +kernel, by decide +kernel⟩
theorem mv_X2_idleInAll : zMv yX2_idleInAll cX2_idleInAll 3 (Option.some FieldType.int) 0 := ⟨zIn 585 (by decide +kernel) (by decide +kernel), zIn 5 (by decide +kernel) (by decide +kernel), zIn 583 (by decide +kernel) (by decide +kernel), zIn 584 (by decide +kernel) (by decide +kernel), by decide +kernel, by decide +kernel, by decide +kernel⟩
theorem mv_X2_evenestCase : zMv yX2_evenestCase cX2_evenestCase 5 (Option.some FieldType.int) 0 := ⟨zIn 674 (by decide +kernel) (by decide +kernel), zIn 5 (by decide +kernel) (by decide +kernel), zIn 672 (by decide +kernel) (by decide +kernel), zIn 673 (by decide +kernel) (by decide +kernel), by decide +kernel, by decide +kernel, by decide +kernel⟩
theorem mv_X4_size : zMv yX4_size cX4_size 1 (Option.some FieldType.int) 0 := ⟨zIn 611 (by decide +kernel) (by decide +kernel), zIn 8 (by decide +kernel) (by decide +kernel), zIn 609 (by decide +kernel) (by decide +kernel), zIn 610 (by decide +kernel) (by decide +kernel), by decide +kernel, by decide +kernel, by decide +kernel⟩
theorem mv_X4_at : zMv yX4_at cX4_at 2 (Option.some FieldType.int) 1 := ⟨zIn 601 (by decide +kernel) (by decide +kernel), zIn 8 (by decide +kernel) (by decide +kernel), zIn 599 (by decide +kernel) (by decide +kernel), zIn 600 (by decide +kernel) (by decide +kernel), by decide +kernel, by decide +kernel, by decide +kernel⟩
theorem mv_X4_clear : zMv yX4_clear cX4_clear 1 (Option.none : Option FieldType) 0 := ⟨zIn 619 (by decide +kernel) (by decide +kernel), zIn 8 (by decide +kernel) (by decide +kernel), zIn 617 (by decide +kernel) (by decide +kernel), zIn 618 (by decide +kernel) (by decide +kernel), by decide +kernel, by decide +kernel, by decide +kernel⟩
theorem mv_X4_has : zMv yX4_has cX4_has 3 (Option.some FieldType.boolean) 1 := ⟨zIn 597 (by decide +kernel) (by decide +kernel), zIn 8 (by decide +kernel) (by decide +kernel), zIn 595 (by decide +kernel) (by decide +kernel), zIn 596 (by decide +kernel) (by decide +kernel), by decide +kernel, by decide +kernel, by decide +kernel⟩
theorem mv_X4_add : zMv yX4_add cX4_add 2 (Option.none : Option FieldType) 1 := ⟨zIn 606 (by decide +kernel) (by decide +kernel), zIn 8 (by decide +kernel) (by decide +kernel), zIn 604 (by decide +kernel) (by decide +kernel), zIn 605 (by decide +kernel) (by decide +kernel), by decide +kernel, by decide +kernel, by decide +kernel⟩
theorem mv_X4_become : zMv yX4_become cX4_become 3 (Option.none : Option FieldType) 1 := ⟨zIn 757 (by decide +kernel) (by decide +kernel), zIn 8 (by decide +kernel) (by decide +kernel), zIn 755 (by decide +kernel) (by decide +kernel), zIn 756 (by decide +kernel) (by decide +kernel), by decide +kernel, by decide +kernel, by decide +kernel⟩
theorem mv_X5_meaning : zMv yX5_meaning cX5_meaning 1 (Option.some FieldType.long) 0 := ⟨zIn 495 (by decide +kernel) (by decide +kernel), zIn 6 (by decide +kernel) (by decide +kernel), zIn 493 (by decide +kernel) (by decide +kernel), zIn 494 (by decide +kernel) (by decide +kernel), by decide +kernel, by decide +kernel, by decide +kernel⟩
theorem mv_X5_idlePlaces : zMv yX5_idlePlaces cX5_idlePlaces 1 (Option.some FieldType.int) 0 := ⟨zIn 501 (by decide +kernel) (by decide +kernel), zIn 6 (by decide +kernel) (by decide +kernel), zIn 499 (by decide +kernel) (by decide +kernel), zIn 500 (by decide +kernel) (by decide +kernel), by decide +kernel, by decide +kernel, by decide +kernel⟩
theorem mv_X5_metRules : zMv yX5_metRules cX5_metRules 1 (Option.some FieldType.int) 0 := ⟨zIn 506 (by decide +kernel) (by decide +kernel), zIn 6 (by decide +kernel) (by decide +kernel), zIn 504 (by decide +kernel) (by decide +kernel), zIn 505 (by decide +kernel) (by decide +kernel), by decide +kernel, by decide +kernel, by decide +kernel⟩
theorem mv_X5_weigh : zMv yX5_weigh cX5_weigh 5 (Option.none : Option FieldType) 2 := ⟨zIn 432 (by decide +kernel) (by decide +kernel), zIn 6 (by decide +kernel) (by decide +kernel), zIn 430 (by decide +kernel) (by decide +kernel), zIn 431 (by decide +kernel) (by decide +kernel), by decide +kernel, by decide +kernel, by decide +kernel⟩
theorem mv_X5_meaningOf : zMv yX5_meaningOf cX5_meaningOf 8 (Option.some FieldType.long) 3 := ⟨zIn 440 (by decide +kernel) (by decide +kernel), zIn 6 (by decide +kernel) (by decide +kernel), zIn 439 (by decide +kernel) (by decide +kernel), zInP 9 (by decide +kernel) (by decide +kernel), by decide +kernel, by decide +kernel, by decide +kernel⟩
theorem mv_X5_bareOf : zMv yX5_bareOf cX5_bareOf 5 (Option.some FieldType.int) 2 := ⟨zIn 471 (by decide +kernel) (by decide +kernel), zIn 6 (by decide +kernel) (by decide +kernel), zIn 470 (by decide +kernel) (by decide +kernel), zInP 10 (by decide +kernel) (by decide +kernel), by decide +kernel, by decide +kernel, by decide +kernel⟩
theorem mv_X5_findIdle : zMv yX5_findIdle cX5_findIdle 10 (Option.none : Option FieldType) 1 := ⟨zIn 487 (by decide +kernel) (by decide +kernel), zIn 6 (by decide +kernel) (by decide +kernel), zIn 486 (by decide +kernel) (by decide +kernel), zInP 12 (by decide +kernel) (by decide +kernel), by decide +kernel, by decide +kernel, by decide +kernel⟩
theorem mv_X5_brokenByWhole : zMv yX5_brokenByWhole cX5_brokenByWhole 2 (Option.some FieldType.int) 0 := ⟨zIn 491 (by decide +kernel) (by decide +kernel), zIn 6 (by decide +kernel) (by decide +kernel), zIn 490 (by decide +kernel) (by decide +kernel), zInP 13 (by decide +kernel) (by decide +kernel), by decide +kernel, by decide +kernel, by decide +kernel⟩
theorem mv_X5_brokenAt : zMv yX5_brokenAt cX5_brokenAt 8 (Option.some FieldType.int) 3 := ⟨zIn 477 (by decide +kernel) (by decide +kernel), zIn 6 (by decide +kernel) (by decide +kernel), zIn 476 (by decide +kernel) (by decide +kernel), zInP 11 (by decide +kernel) (by decide +kernel), by decide +kernel, by decide +kernel, by decide +kernel⟩
theorem mv_X6_size : zMv yX6_size cX6_size 1 (Option.some FieldType.int) 0 := ⟨zIn 649 (by decide +kernel) (by decide +kernel), zIn 9 (by decide +kernel) (by decide +kernel), zIn 647 (by decide +kernel) (by decide +kernel), zIn 648 (by decide +kernel) (by decide +kernel), by decide +kernel, by decide +kernel, by decide +kernel⟩
theorem mv_X6_at : zMv yX6_at cX6_at 2 (Option.some FieldType.int) 1 := ⟨zIn 639 (by decide +kernel) (by decide +kernel), zIn 9 (by decide +kernel) (by decide +kernel), zIn 637 (by decide +kernel) (by decide +kernel), zIn 638 (by decide +kernel) (by decide +kernel), by decide +kernel, by decide +kernel, by decide +kernel⟩
theorem mv_X6_passed : zMv yX6_passed cX6_passed 1 (Option.some FieldType.int) 0 := ⟨zIn 658 (by decide +kernel) (by decide +kernel), zIn 9 (by decide +kernel) (by decide +kernel), zIn 656 (by decide +kernel) (by decide +kernel), zIn 657 (by decide +kernel) (by decide +kernel), by decide +kernel, by decide +kernel, by decide +kernel⟩
theorem mv_X6_sift : zMv yX6_sift cX6_sift 5 (Option.none : Option FieldType) 3 := ⟨zIn 627 (by decide +kernel) (by decide +kernel), zIn 9 (by decide +kernel) (by decide +kernel), zIn 625 (by decide +kernel) (by decide +kernel), zIn 626 (by decide +kernel) (by decide +kernel), by decide +kernel, by decide +kernel, by decide +kernel⟩
theorem mv_X6_keepMet : zMv yX6_keepMet cX6_keepMet 5 (Option.none : Option FieldType) 2 := ⟨zIn 635 (by decide +kernel) (by decide +kernel), zIn 9 (by decide +kernel) (by decide +kernel), zIn 634 (by decide +kernel) (by decide +kernel), zInP 16 (by decide +kernel) (by decide +kernel), by decide +kernel, by decide +kernel, by decide +kernel⟩
theorem mv_X6_keepsAs : zMv yX6_keepsAs cX6_keepsAs 3 (Option.some FieldType.boolean) 1 := ⟨zIn 666 (by decide +kernel) (by decide +kernel), zIn 9 (by decide +kernel) (by decide +kernel), zIn 664 (by decide +kernel) (by decide +kernel), zIn 665 (by decide +kernel) (by decide +kernel), by decide +kernel, by decide +kernel, by decide +kernel⟩
theorem mv_X7_size : zMv yX7_size cX7_size 1 (Option.some FieldType.int) 0 := ⟨zIn 436 (by decide +kernel) (by decide +kernel), zIn 4 (by decide +kernel) (by decide +kernel), zIn 434 (by decide +kernel) (by decide +kernel), zIn 435 (by decide +kernel) (by decide +kernel), by decide +kernel, by decide +kernel, by decide +kernel⟩
theorem mv_X7_kind : zMv yX7_kind cX7_kind 2 (Option.some FieldType.int) 1 := ⟨zIn 453 (by decide +kernel) (by decide +kernel), zIn 4 (by decide +kernel) (by decide +kernel), zIn 451 (by decide +kernel) (by decide +kernel), zIn 452 (by decide +kernel) (by decide +kernel), by decide +kernel, by decide +kernel, by decide +kernel⟩
theorem mv_X7_from : zMv yX7_from cX7_from 2 (Option.some FieldType.int) 1 := ⟨zIn 457 (by decide +kernel) (by decide +kernel), zIn 4 (by decide +kernel) (by decide +kernel), zIn 455 (by decide +kernel) (by decide +kernel), zIn 456 (by decide +kernel) (by decide +kernel), by decide +kernel, by decide +kernel, by decide +kernel⟩
theorem mv_X7_end : zMv yX7_end cX7_end 2 (Option.some FieldType.int) 1 := ⟨zIn 481 (by decide +kernel) (by decide +kernel), zIn 4 (by decide +kernel) (by decide +kernel), zIn 479 (by decide +kernel) (by decide +kernel), zIn 480 (by decide +kernel) (by decide +kernel), by decide +kernel, by decide +kernel, by decide +kernel⟩
theorem mv_X7_inner : zMv yX7_inner cX7_inner 2 (Option.some FieldType.int) 1 := ⟨zIn 444 (by decide +kernel) (by decide +kernel), zIn 4 (by decide +kernel) (by decide +kernel), zIn 442 (by decide +kernel) (by decide +kernel), zIn 443 (by decide +kernel) (by decide +kernel), by decide +kernel, by decide +kernel, by decide +kernel⟩
theorem mv_X7_behind : zMv yX7_behind cX7_behind 2 (Option.some FieldType.int) 1 := ⟨zIn 449 (by decide +kernel) (by decide +kernel), zIn 4 (by decide +kernel) (by decide +kernel), zIn 447 (by decide +kernel) (by decide +kernel), zIn 448 (by decide +kernel) (by decide +kernel), by decide +kernel, by decide +kernel, by decide +kernel⟩
theorem mv_X7_grow : zMv yX7_grow cX7_grow 12 (Option.none : Option FieldType) 3 := ⟨zIn 399 (by decide +kernel) (by decide +kernel), zIn 4 (by decide +kernel) (by decide +kernel), zIn 397 (by decide +kernel) (by decide +kernel), zIn 398 (by decide +kernel) (by decide +kernel), by decide +kernel, by decide +kernel, by decide +kernel⟩
theorem mv_X7_await : zMv yX7_await cX7_await 6 (Option.none : Option FieldType) 4 := ⟨zIn 404 (by decide +kernel) (by decide +kernel), zIn 4 (by decide +kernel) (by decide +kernel), zIn 403 (by decide +kernel) (by decide +kernel), zInP 5 (by decide +kernel) (by decide +kernel), by decide +kernel, by decide +kernel, by decide +kernel⟩
theorem mv_X7_growFront : zMv yX7_growFront cX7_growFront 7 (Option.none : Option FieldType) 4 := ⟨zIn 416 (by decide +kernel) (by decide +kernel), zIn 4 (by decide +kernel) (by decide +kernel), zIn 415 (by decide +kernel) (by decide +kernel), zInP 6 (by decide +kernel) (by decide +kernel), by decide +kernel, by decide +kernel, by decide +kernel⟩
theorem mv_X7_growJoin : zMv yX7_growJoin cX7_growJoin 15 (Option.none : Option FieldType) 5 := ⟨zIn 426 (by decide +kernel) (by decide +kernel), zIn 4 (by decide +kernel) (by decide +kernel), zIn 425 (by decide +kernel) (by decide +kernel), zInP 8 (by decide +kernel) (by decide +kernel), by decide +kernel, by decide +kernel, by decide +kernel⟩
theorem mv_X7_addNode : zMv yX7_addNode cX7_addNode 4 (Option.none : Option FieldType) 3 := ⟨zIn 422 (by decide +kernel) (by decide +kernel), zIn 4 (by decide +kernel) (by decide +kernel), zIn 421 (by decide +kernel) (by decide +kernel), zInP 7 (by decide +kernel) (by decide +kernel), by decide +kernel, by decide +kernel, by decide +kernel⟩
theorem mv_X8_size : zMv yX8_size cX8_size 1 (Option.some FieldType.int) 0 := ⟨zIn 558 (by decide +kernel) (by decide +kernel), zIn 7 (by decide +kernel) (by decide +kernel), zIn 556 (by decide +kernel) (by decide +kernel), zIn 557 (by decide +kernel) (by decide +kernel), by decide +kernel, by decide +kernel, by decide +kernel⟩
theorem mv_X8_gather : zMv yX8_gather cX8_gather 3 (Option.none : Option FieldType) 1 := ⟨zIn 546 (by decide +kernel) (by decide +kernel), zIn 7 (by decide +kernel) (by decide +kernel), zIn 544 (by decide +kernel) (by decide +kernel), zIn 545 (by decide +kernel) (by decide +kernel), by decide +kernel, by decide +kernel, by decide +kernel⟩
theorem mv_X8_has : zMv yX8_has cX8_has 4 (Option.some FieldType.boolean) 1 := ⟨zIn 552 (by decide +kernel) (by decide +kernel), zIn 7 (by decide +kernel) (by decide +kernel), zIn 551 (by decide +kernel) (by decide +kernel), zInP 15 (by decide +kernel) (by decide +kernel), by decide +kernel, by decide +kernel, by decide +kernel⟩
theorem mv_X8_fewestCases : zMv yX8_fewestCases cX8_fewestCases 4 (Option.some FieldType.int) 0 := ⟨zIn 689 (by decide +kernel) (by decide +kernel), zIn 7 (by decide +kernel) (by decide +kernel), zIn 687 (by decide +kernel) (by decide +kernel), zIn 688 (by decide +kernel) (by decide +kernel), by decide +kernel, by decide +kernel, by decide +kernel⟩
theorem mv_X8_isThirdFor : zMv yX8_isThirdFor cX8_isThirdFor 4 (Option.some FieldType.boolean) 2 := ⟨zIn 698 (by decide +kernel) (by decide +kernel), zIn 7 (by decide +kernel) (by decide +kernel), zIn 697 (by decide +kernel) (by decide +kernel), zInP 18 (by decide +kernel) (by decide +kernel), by decide +kernel, by decide +kernel, by decide +kernel⟩
theorem mv_X8_arePartedBy : zMv yX8_arePartedBy cX8_arePartedBy 9 (Option.some FieldType.boolean) 3 := ⟨zIn 693 (by decide +kernel) (by decide +kernel), zIn 7 (by decide +kernel) (by decide +kernel), zIn 692 (by decide +kernel) (by decide +kernel), zInP 17 (by decide +kernel) (by decide +kernel), by decide +kernel, by decide +kernel, by decide +kernel⟩
theorem mv_X9_number : zMv yX9_number cX9_number 3 (Option.some FieldType.long) 2 := ⟨zIn 270 (by decide +kernel) (by decide +kernel), zIn 3 (by decide +kernel) (by decide +kernel), zIn 268 (by decide +kernel) (by decide +kernel), zIn 269 (by decide +kernel) (by decide +kernel), by decide +kernel, by decide +kernel, by decide +kernel⟩
theorem mv_X9_frontNumber : zMv yX9_frontNumber cX9_frontNumber 3 (Option.some FieldType.long) 2 := ⟨zIn 412 (by decide +kernel) (by decide +kernel), zIn 3 (by decide +kernel) (by decide +kernel), zIn 410 (by decide +kernel) (by decide +kernel), zIn 411 (by decide +kernel) (by decide +kernel), by decide +kernel, by decide +kernel, by decide +kernel⟩
theorem mv_X9_reckon : zMv yX9_reckon cX9_reckon 7 (Option.none : Option FieldType) 1 := ⟨zIn 244 (by decide +kernel) (by decide +kernel), zIn 3 (by decide +kernel) (by decide +kernel), zIn 242 (by decide +kernel) (by decide +kernel), zIn 243 (by decide +kernel) (by decide +kernel), by decide +kernel, by decide +kernel, by decide +kernel⟩
theorem mv_X9_fronted : zMv yX9_fronted cX9_fronted 5 (Option.some FieldType.long) 4 := ⟨zIn 266 (by decide +kernel) (by decide +kernel), zIn 3 (by decide +kernel) (by decide +kernel), zIn 265 (by decide +kernel) (by decide +kernel), zInP 0 (by decide +kernel) (by decide +kernel), by decide +kernel, by decide +kernel, by decide +kernel⟩
theorem mv_X9_parted : zMv yX9_parted cX9_parted 7 (Option.some FieldType.long) 3 := ⟨zIn 280 (by decide +kernel) (by decide +kernel), zIn 3 (by decide +kernel) (by decide +kernel), zIn 279 (by decide +kernel) (by decide +kernel), zInP 1 (by decide +kernel) (by decide +kernel), by decide +kernel, by decide +kernel, by decide +kernel⟩
theorem mv_X10_size : zMv yX10_size cX10_size 1 (Option.some FieldType.int) 0 := ⟨zIn 248 (by decide +kernel) (by decide +kernel), zIn 2 (by decide +kernel) (by decide +kernel), zIn 246 (by decide +kernel) (by decide +kernel), zIn 247 (by decide +kernel) (by decide +kernel), by decide +kernel, by decide +kernel, by decide +kernel⟩
theorem mv_X10_at : zMv yX10_at cX10_at 2 (Option.some FieldType.int) 1 := ⟨zIn 259 (by decide +kernel) (by decide +kernel), zIn 2 (by decide +kernel) (by decide +kernel), zIn 257 (by decide +kernel) (by decide +kernel), zIn 258 (by decide +kernel) (by decide +kernel), by decide +kernel, by decide +kernel, by decide +kernel⟩
theorem mv_X10_clear : zMv yX10_clear cX10_clear 1 (Option.none : Option FieldType) 0 := ⟨zIn 361 (by decide +kernel) (by decide +kernel), zIn 2 (by decide +kernel) (by decide +kernel), zIn 359 (by decide +kernel) (by decide +kernel), zIn 360 (by decide +kernel) (by decide +kernel), by decide +kernel, by decide +kernel, by decide +kernel⟩
theorem mv_X10_add : zMv yX10_add cX10_add 2 (Option.none : Option FieldType) 1 := ⟨zIn 237 (by decide +kernel) (by decide +kernel), zIn 2 (by decide +kernel) (by decide +kernel), zIn 235 (by decide +kernel) (by decide +kernel), zIn 236 (by decide +kernel) (by decide +kernel), by decide +kernel, by decide +kernel, by decide +kernel⟩
theorem mv_X10_become : zMv yX10_become cX10_become 3 (Option.none : Option FieldType) 1 := ⟨zIn 357 (by decide +kernel) (by decide +kernel), zIn 2 (by decide +kernel) (by decide +kernel), zIn 355 (by decide +kernel) (by decide +kernel), zIn 356 (by decide +kernel) (by decide +kernel), by decide +kernel, by decide +kernel, by decide +kernel⟩
theorem mv_X10_bracketed : zMv yX10_bracketed cX10_bracketed 5 (Option.none : Option FieldType) 3 := ⟨zIn 706 (by decide +kernel) (by decide +kernel), zIn 2 (by decide +kernel) (by decide +kernel), zIn 704 (by decide +kernel) (by decide +kernel), zIn 705 (by decide +kernel) (by decide +kernel), by decide +kernel, by decide +kernel, by decide +kernel⟩
theorem mv_X10_letters : zMv yX10_letters cX10_letters 3 (Option.some FieldType.int) 0 := ⟨zIn 794 (by decide +kernel) (by decide +kernel), zIn 2 (by decide +kernel) (by decide +kernel), zIn 792 (by decide +kernel) (by decide +kernel), zIn 793 (by decide +kernel) (by decide +kernel), by decide +kernel, by decide +kernel, by decide +kernel⟩
theorem mv_X10_mostOpen : zMv yX10_mostOpen cX10_mostOpen 4 (Option.some FieldType.int) 0 := ⟨zIn 710 (by decide +kernel) (by decide +kernel), zIn 2 (by decide +kernel) (by decide +kernel), zIn 708 (by decide +kernel) (by decide +kernel), zIn 709 (by decide +kernel) (by decide +kernel), by decide +kernel, by decide +kernel, by decide +kernel⟩
theorem mv_X10_closeAfter : zMv yX10_closeAfter cX10_closeAfter 5 (Option.some FieldType.int) 1 := ⟨zIn 252 (by decide +kernel) (by decide +kernel), zIn 2 (by decide +kernel) (by decide +kernel), zIn 250 (by decide +kernel) (by decide +kernel), zIn 251 (by decide +kernel) (by decide +kernel), by decide +kernel, by decide +kernel, by decide +kernel⟩
theorem mv_X10_fault : zMv yX10_fault cX10_fault 5 (Option.some FieldType.int) 0 := ⟨zIn 346 (by decide +kernel) (by decide +kernel), zIn 2 (by decide +kernel) (by decide +kernel), zIn 344 (by decide +kernel) (by decide +kernel), zIn 345 (by decide +kernel) (by decide +kernel), by decide +kernel, by decide +kernel, by decide +kernel⟩
theorem mv_L_cell : zMs yL_cell cL_cell 3 (Option.some FieldType.int) 2 := ⟨zIn 797 (by decide +kernel) (by decide +kernel), zIn 0 (by decide +kernel) (by decide +kernel), zIn 796 (by decide +kernel) (by decide +kernel), by decide +kernel, by decide +kernel, by decide +kernel⟩
theorem mv_L_say : zMs yL_say cL_say 2 (Option.some FieldType.int) 2 := ⟨zIn 802 (by decide +kernel) (by decide +kernel), zIn 0 (by decide +kernel) (by decide +kernel), zIn 801 (by decide +kernel) (by decide +kernel), by decide +kernel, by decide +kernel, by decide +kernel⟩
theorem mv_L_stir : zMs yL_stir cL_stir 4 (Option.some FieldType.int) 3 := ⟨zIn 808 (by decide +kernel) (by decide +kernel), zIn 0 (by decide +kernel) (by decide +kernel), zIn 807 (by decide +kernel) (by decide +kernel), by decide +kernel, by decide +kernel, by decide +kernel⟩
theorem mv_L_sentence : zMs yL_sentence cL_sentence 11 (Option.some FieldType.int) 4 := ⟨zIn 805 (by decide +kernel) (by decide +kernel), zIn 0 (by decide +kernel) (by decide +kernel), zIn 804 (by decide +kernel) (by decide +kernel), by decide +kernel, by decide +kernel, by decide +kernel⟩
theorem mv_L_sight : zMs yL_sight cL_sight 4 (Option.some FieldType.long) 1 := ⟨zIn 811 (by decide +kernel) (by decide +kernel), zIn 0 (by decide +kernel) (by decide +kernel), zIn 810 (by decide +kernel) (by decide +kernel), by decide +kernel, by decide +kernel, by decide +kernel⟩
theorem lk_X11_92 : zLk RX11 92 yX10_add := Or.inl (zIn 234 (by decide +kernel) (by decide +kernel))
theorem lk_X11_96 : zLk RX11 96 yX9_reckon := Or.inl (zIn 241 (by decide +kernel) (by decide +kernel))
theorem lk_X11_100 : zLk RX11 100 yX11_refuse := Or.inl (zIn 331 (by decide +kernel) (by decide +kernel))
theorem lk_X11_104 : zLk RX11 104 yX10_size := Or.inl (zIn 337 (by decide +kernel) (by decide +kernel))
theorem lk_X11_110 : zLk RX11 110 yX10_fault := Or.inl (zIn 343 (by decide +kernel) (by decide +kernel))
theorem lk_X11_113 : zLk RX11 113 yX11_takeSentence := Or.inl (zIn 350 (by decide +kernel) (by decide +kernel))
theorem lk_X11_116 : zLk RX11 116 yX10_clear := Or.inl (zIn 367 (by decide +kernel) (by decide +kernel))
theorem lk_X11_119 : zLk RX11 119 yX10_at := Or.inl (zIn 372 (by decide +kernel) (by decide +kernel))
theorem lk_X11_122 : zLk RX11 122 yX9_number := Or.inl (zIn 377 (by decide +kernel) (by decide +kernel))
theorem lk_X11_126 : zLk RX11 126 yX11_spent := Or.inl (zIn 382 (by decide +kernel) (by decide +kernel))
theorem lk_X11_130 : zLk RX11 130 yX11_noReading := Or.inl (zIn 507 (by decide +kernel) (by decide +kernel))
theorem lk_X11_148 : zLk RX11 148 yX2_meaning := Or.inl (zIn 515 (by decide +kernel) (by decide +kernel))
theorem lk_X11_152 : zLk RX11 152 yX11_noCase := Or.inl (zIn 718 (by decide +kernel) (by decide +kernel))
theorem lk_X11_155 : zLk RX11 155 yX11_bit := Or.inl (zIn 566 (by decide +kernel) (by decide +kernel))
theorem lk_X11_162 : zLk RX11 162 yX2_letByAll := Or.inl (zIn 524 (by decide +kernel) (by decide +kernel))
theorem lk_X11_166 : zLk RX11 166 yX2_barredByAll := Or.inl (zIn 530 (by decide +kernel) (by decide +kernel))
theorem lk_X11_169 : zLk RX11 169 yX8_gather := Or.inl (zIn 543 (by decide +kernel) (by decide +kernel))
theorem lk_X11_173 : zLk RX11 173 yX8_size := Or.inl (zIn 555 (by decide +kernel) (by decide +kernel))
theorem lk_X11_174 : zLk RX11 174 yX11_leastCase := Or.inl (zIn 563 (by decide +kernel) (by decide +kernel))
theorem lk_X11_178 : zLk RX11 178 yX2_idlePlaces := Or.inl (zIn 573 (by decide +kernel) (by decide +kernel))
theorem lk_X11_181 : zLk RX11 181 yX2_idleInAll := Or.inl (zIn 582 (by decide +kernel) (by decide +kernel))
theorem lk_X11_184 : zLk RX11 184 yX11_noRule := Or.inl (zIn 591 (by decide +kernel) (by decide +kernel))
theorem lk_X11_191 : zLk RX11 191 yX4_has := Or.inl (zIn 594 (by decide +kernel) (by decide +kernel))
theorem lk_X11_194 : zLk RX11 194 yX4_add := Or.inl (zIn 603 (by decide +kernel) (by decide +kernel))
theorem lk_X11_195 : zLk RX11 195 yX4_size := Or.inl (zIn 608 (by decide +kernel) (by decide +kernel))
theorem lk_X11_196 : zLk RX11 196 yX4_clear := Or.inl (zIn 616 (by decide +kernel) (by decide +kernel))
theorem lk_X11_197 : zLk RX11 197 yX6_sift := Or.inl (zIn 624 (by decide +kernel) (by decide +kernel))
theorem lk_X11_201 : zLk RX11 201 yX6_size := Or.inl (zIn 646 (by decide +kernel) (by decide +kernel))
theorem lk_X11_202 : zLk RX11 202 yX6_at := Or.inl (zIn 650 (by decide +kernel) (by decide +kernel))
theorem lk_X11_203 : zLk RX11 203 yX6_passed := Or.inl (zIn 655 (by decide +kernel) (by decide +kernel))
theorem lk_X11_209 : zLk RX11 209 yX6_keepsAs := Or.inl (zIn 663 (by decide +kernel) (by decide +kernel))
theorem lk_X11_213 : zLk RX11 213 yX2_evenestCase := Or.inl (zIn 671 (by decide +kernel) (by decide +kernel))
theorem lk_X11_216 : zLk RX11 216 yX8_fewestCases := Or.inl (zIn 686 (by decide +kernel) (by decide +kernel))
theorem lk_X11_219 : zLk RX11 219 yX10_bracketed := Or.inl (zIn 703 (by decide +kernel) (by decide +kernel))
theorem lk_X11_223 : zLk RX11 223 yX10_mostOpen := Or.inl (zIn 707 (by decide +kernel) (by decide +kernel))
theorem lk_X11_230 : zLk RX11 230 yX2_size := Or.inl (zIn 511 (by decide +kernel) (by decide +kernel))
theorem lk_X11_237 : zLk RX11 237 yX0_size := Or.inl (zIn 721 (by decide +kernel) (by decide +kernel))
theorem lk_X11_238 : zLk RX11 238 yX0_add := Or.inl (zIn 725 (by decide +kernel) (by decide +kernel))
theorem lk_X11_242 : zLk RX11 242 yX0_servedBy := Or.inl (zIn 735 (by decide +kernel) (by decide +kernel))
theorem lk_X11_245 : zLk RX11 245 yX1_take := Or.inl (zIn 749 (by decide +kernel) (by decide +kernel))
theorem lk_X11_249 : zLk RX11 249 yX1_isThere := Or.inl (zIn 769 (by decide +kernel) (by decide +kernel))
theorem lk_X11_252 : zLk RX11 252 yX1_words := Or.inl (zIn 773 (by decide +kernel) (by decide +kernel))
theorem lk_X11_256 : zLk RX11 256 yX1_order := Or.inl (zIn 777 (by decide +kernel) (by decide +kernel))
theorem lk_X11_259 : zLk RX11 259 yX4_become := Or.inl (zIn 781 (by decide +kernel) (by decide +kernel))
theorem lk_X11_263 : zLk RX11 263 yX1_aims := Or.inl (zIn 782 (by decide +kernel) (by decide +kernel))
theorem lk_X11_266 : zLk RX11 266 yX0_become := Or.inl (zIn 786 (by decide +kernel) (by decide +kernel))
theorem lk_X11_269 : zLk RX11 269 yX10_letters := Or.inl (zIn 791 (by decide +kernel) (by decide +kernel))
theorem lk_X11_272 : zLk RX11 272 yX11_look := Or.inl (zIn 335 (by decide +kernel) (by decide +kernel))
theorem lk_X11_276 : zLk RX11 276 yX11_put := Or.inl (zIn 336 (by decide +kernel) (by decide +kernel))
theorem lk_X11_280 : zLk RX11 280 yX10_become := Or.inl (zIn 354 (by decide +kernel) (by decide +kernel))
theorem lk_X11_282 : zLk RX11 282 yX2_forget := Or.inl (zIn 363 (by decide +kernel) (by decide +kernel))
theorem lk_X11_285 : zLk RX11 285 yX11_readings := Or.inl (zIn 386 (by decide +kernel) (by decide +kernel))
theorem lk_X11_290 : zLk RX11 290 yX2_isMade := Or.inl (zIn 388 (by decide +kernel) (by decide +kernel))
theorem lk_X11_293 : zLk RX11 293 yX2_make := Or.inl (zIn 392 (by decide +kernel) (by decide +kernel))
theorem lk_X11_301 : zLk RX11 301 yX11_look_ := Or.inl (zIn 464 (by decide +kernel) (by decide +kernel))
theorem lk_X0_22 : zLk RX0 22 yX11_put := Or.inr ⟨"MayBeRead", List.mem_append_right _ (List.mem_of_getElem? (i := 729) (by decide +kernel))⟩
theorem lk_X0_26 : zLk RX0 26 yX11_look := Or.inr ⟨"MayBeRead", List.mem_append_right _ (List.mem_of_getElem? (i := 739) (by decide +kernel))⟩
theorem lk_X0_30 : zLk RX0 30 yX0_add := Or.inl (zIn 764 (by decide +kernel) (by decide +kernel))
theorem lk_X0_34 : zLk RX0 34 yX11_bit := Or.inr ⟨"MayBeRead", List.mem_append_right _ (List.mem_of_getElem? (i := 740) (by decide +kernel))⟩
theorem lk_X1_34 : zLk RX1 34 yX10_become := Or.inl (zIn 753 (by decide +kernel) (by decide +kernel))
theorem lk_X1_38 : zLk RX1 38 yX4_become := Or.inl (zIn 754 (by decide +kernel) (by decide +kernel))
theorem lk_X1_41 : zLk RX1 41 yX0_become := Or.inl (zIn 760 (by decide +kernel) (by decide +kernel))
theorem lk_X2_37 : zLk RX2 37 yX7_grow := Or.inl (zIn 396 (by decide +kernel) (by decide +kernel))
theorem lk_X2_43 : zLk RX2 43 yX5_weigh := Or.inl (zIn 429 (by decide +kernel) (by decide +kernel))
theorem lk_X2_47 : zLk RX2 47 yX5_meaning := Or.inl (zIn 496 (by decide +kernel) (by decide +kernel))
theorem lk_X2_51 : zLk RX2 51 yX11_put_ := Or.inr ⟨"MayBeRead", List.mem_append_right _ (List.mem_of_getElem? (i := 497) (by decide +kernel))⟩
theorem lk_X2_55 : zLk RX2 55 yX5_idlePlaces := Or.inl (zIn 498 (by decide +kernel) (by decide +kernel))
theorem lk_X2_59 : zLk RX2 59 yX11_put := Or.inr ⟨"MayBeRead", List.mem_append_right _ (List.mem_of_getElem? (i := 502) (by decide +kernel))⟩
theorem lk_X2_62 : zLk RX2 62 yX5_metRules := Or.inl (zIn 503 (by decide +kernel) (by decide +kernel))
theorem lk_X2_65 : zLk RX2 65 yX11_look_ := Or.inr ⟨"MayBeRead", List.mem_append_right _ (List.mem_of_getElem? (i := 519) (by decide +kernel))⟩
theorem lk_X2_69 : zLk RX2 69 yX11_look := Or.inr ⟨"MayBeRead", List.mem_append_right _ (List.mem_of_getElem? (i := 577) (by decide +kernel))⟩
theorem lk_X2_72 : zLk RX2 72 yX11_bit := Or.inr ⟨"MayBeRead", List.mem_append_right _ (List.mem_of_getElem? (i := 645) (by decide +kernel))⟩
theorem lk_X2_76 : zLk RX2 76 yX2_meaning := Or.inl (zIn 529 (by decide +kernel) (by decide +kernel))
theorem lk_X2_83 : zLk RX2 83 yX2_idlePlaces := Or.inl (zIn 586 (by decide +kernel) (by decide +kernel))
theorem lk_X2_90 : zLk RX2 90 yX2_lettingAt := Or.inl (zIn 675 (by decide +kernel) (by decide +kernel))
theorem lkm_X2_93 : Cond.methodLink RX2 93 Lib.Math.abs.name ∈ WS := zIn 679 (by decide +kernel) (by decide +kernel)
theorem lk_X4_19 : zLk RX4 19 yX11_look := Or.inr ⟨"MayBeRead", List.mem_append_right _ (List.mem_of_getElem? (i := 602) (by decide +kernel))⟩
theorem lk_X4_23 : zLk RX4 23 yX4_at := Or.inl (zIn 598 (by decide +kernel) (by decide +kernel))
theorem lk_X4_27 : zLk RX4 27 yX11_put := Or.inr ⟨"MayBeRead", List.mem_append_right _ (List.mem_of_getElem? (i := 607) (by decide +kernel))⟩
theorem lk_X4_31 : zLk RX4 31 yX4_clear := Or.inl (zIn 758 (by decide +kernel) (by decide +kernel))
theorem lk_X4_34 : zLk RX4 34 yX4_add := Or.inl (zIn 759 (by decide +kernel) (by decide +kernel))
theorem lk_X5_22 : zLk RX5 22 yX11_look_ := Or.inr ⟨"MayBeRead", List.mem_append_right _ (List.mem_of_getElem? (i := 445) (by decide +kernel))⟩
theorem lk_X5_33 : zLk RX5 33 yX7_size := Or.inl (zIn 433 (by decide +kernel) (by decide +kernel))
theorem lk_X5_39 : zLk RX5 39 yX5_meaningOf := Or.inl (zIn 437 (by decide +kernel) (by decide +kernel))
theorem lk_X5_43 : zLk RX5 43 yX11_put_ := Or.inr ⟨"MayBeRead", List.mem_append_right _ (List.mem_of_getElem? (i := 467) (by decide +kernel))⟩
theorem lk_X5_47 : zLk RX5 47 yX5_bareOf := Or.inl (zIn 468 (by decide +kernel) (by decide +kernel))
theorem lk_X5_51 : zLk RX5 51 yX11_put := Or.inr ⟨"MayBeRead", List.mem_append_right _ (List.mem_of_getElem? (i := 473) (by decide +kernel))⟩
theorem lk_X5_54 : zLk RX5 54 yX5_brokenAt := Or.inl (zIn 474 (by decide +kernel) (by decide +kernel))
theorem lk_X5_58 : zLk RX5 58 yX5_findIdle := Or.inl (zIn 484 (by decide +kernel) (by decide +kernel))
theorem lk_X5_62 : zLk RX5 62 yX5_brokenByWhole := Or.inl (zIn 488 (by decide +kernel) (by decide +kernel))
theorem lk_X5_65 : zLk RX5 65 yX7_inner := Or.inl (zIn 441 (by decide +kernel) (by decide +kernel))
theorem lk_X5_69 : zLk RX5 69 yX7_behind := Or.inl (zIn 446 (by decide +kernel) (by decide +kernel))
theorem lk_X5_72 : zLk RX5 72 yX7_kind := Or.inl (zIn 450 (by decide +kernel) (by decide +kernel))
theorem lk_X5_75 : zLk RX5 75 yX7_from := Or.inl (zIn 454 (by decide +kernel) (by decide +kernel))
theorem lk_X5_78 : zLk RX5 78 yX10_at := Or.inl (zIn 458 (by decide +kernel) (by decide +kernel))
theorem lk_X5_83 : zLk RX5 83 yX11_casesOf := Or.inr ⟨"MayBeRead", List.mem_append_right _ (List.mem_of_getElem? (i := 459) (by decide +kernel))⟩
theorem lk_X5_91 : zLk RX5 91 yX11_look := Or.inr ⟨"MayBeRead", List.mem_append_right _ (List.mem_of_getElem? (i := 472) (by decide +kernel))⟩
theorem lk_X5_94 : zLk RX5 94 yX11_isJoin := Or.inr ⟨"MayBeRead", List.mem_append_right _ (List.mem_of_getElem? (i := 483) (by decide +kernel))⟩
theorem lk_X5_98 : zLk RX5 98 yX5_meaning := Or.inl (zIn 492 (by decide +kernel) (by decide +kernel))
theorem lk_X5_102 : zLk RX5 102 yX7_end := Or.inl (zIn 478 (by decide +kernel) (by decide +kernel))
theorem lk_X5_105 : zLk RX5 105 yX10_closeAfter := Or.inl (zIn 482 (by decide +kernel) (by decide +kernel))
theorem lk_X6_19 : zLk RX6 19 yX11_look := Or.inr ⟨"MayBeRead", List.mem_append_right _ (List.mem_of_getElem? (i := 640) (by decide +kernel))⟩
theorem lk_X6_26 : zLk RX6 26 yX2_size := Or.inl (zIn 628 (by decide +kernel) (by decide +kernel))
theorem lk_X6_31 : zLk RX6 31 yX11_put := Or.inr ⟨"MayBeRead", List.mem_append_right _ (List.mem_of_getElem? (i := 629) (by decide +kernel))⟩
theorem lk_X6_35 : zLk RX6 35 yX4_size := Or.inl (zIn 630 (by decide +kernel) (by decide +kernel))
theorem lk_X6_38 : zLk RX6 38 yX4_at := Or.inl (zIn 631 (by decide +kernel) (by decide +kernel))
theorem lk_X6_42 : zLk RX6 42 yX6_keepMet := Or.inl (zIn 632 (by decide +kernel) (by decide +kernel))
theorem lk_X6_46 : zLk RX6 46 yX6_at := Or.inl (zIn 636 (by decide +kernel) (by decide +kernel))
theorem lk_X6_47 : zLk RX6 47 yX2_isMet := Or.inl (zIn 641 (by decide +kernel) (by decide +kernel))
theorem lk_X7_41 : zLk RX7 41 yX11_look := Or.inr ⟨"MayBeRead", List.mem_append_right _ (List.mem_of_getElem? (i := 407) (by decide +kernel))⟩
theorem lk_X7_48 : zLk RX7 48 yX10_size := Or.inl (zIn 400 (by decide +kernel) (by decide +kernel))
theorem lk_X7_53 : zLk RX7 53 yX7_await := Or.inl (zIn 401 (by decide +kernel) (by decide +kernel))
theorem lk_X7_57 : zLk RX7 57 yX11_look_ := Or.inr ⟨"MayBeRead", List.mem_append_right _ (List.mem_of_getElem? (i := 408) (by decide +kernel))⟩
theorem lk_X7_60 : zLk RX7 60 yX9_frontNumber := Or.inl (zIn 409 (by decide +kernel) (by decide +kernel))
theorem lk_X7_66 : zLk RX7 66 yX11_put := Or.inr ⟨"MayBeRead", List.mem_append_right _ (List.mem_of_getElem? (i := 405) (by decide +kernel))⟩
theorem lk_X7_70 : zLk RX7 70 yX7_growFront := Or.inl (zIn 413 (by decide +kernel) (by decide +kernel))
theorem lk_X7_74 : zLk RX7 74 yX7_growJoin := Or.inl (zIn 423 (by decide +kernel) (by decide +kernel))
theorem lk_X7_78 : zLk RX7 78 yX11_put_ := Or.inr ⟨"MayBeRead", List.mem_append_right _ (List.mem_of_getElem? (i := 406) (by decide +kernel))⟩
theorem lk_X7_81 : zLk RX7 81 yX10_at := Or.inl (zIn 417 (by decide +kernel) (by decide +kernel))
theorem lk_X7_85 : zLk RX7 85 yX11_kindOf := Or.inr ⟨"MayBeRead", List.mem_append_right _ (List.mem_of_getElem? (i := 418) (by decide +kernel))⟩
theorem lk_X7_88 : zLk RX7 88 yX7_addNode := Or.inl (zIn 419 (by decide +kernel) (by decide +kernel))
theorem lk_X7_92 : zLk RX7 92 yX11_isJoin := Or.inr ⟨"MayBeRead", List.mem_append_right _ (List.mem_of_getElem? (i := 427) (by decide +kernel))⟩
theorem lk_X7_96 : zLk RX7 96 yX9_number := Or.inl (zIn 428 (by decide +kernel) (by decide +kernel))
theorem lk_X8_19 : zLk RX8 19 yX2_size := Or.inl (zIn 547 (by decide +kernel) (by decide +kernel))
theorem lk_X8_24 : zLk RX8 24 yX2_meaning := Or.inl (zIn 548 (by decide +kernel) (by decide +kernel))
theorem lk_X8_28 : zLk RX8 28 yX8_has := Or.inl (zIn 549 (by decide +kernel) (by decide +kernel))
theorem lk_X8_32 : zLk RX8 32 yX11_put_ := Or.inr ⟨"MayBeRead", List.mem_append_right _ (List.mem_of_getElem? (i := 554) (by decide +kernel))⟩
theorem lk_X8_36 : zLk RX8 36 yX11_look_ := Or.inr ⟨"MayBeRead", List.mem_append_right _ (List.mem_of_getElem? (i := 553) (by decide +kernel))⟩
theorem lk_X8_40 : zLk RX8 40 yX8_arePartedBy := Or.inl (zIn 690 (by decide +kernel) (by decide +kernel))
theorem lk_X8_44 : zLk RX8 44 yX8_isThirdFor := Or.inl (zIn 695 (by decide +kernel) (by decide +kernel))
theorem lk_X8_48 : zLk RX8 48 yX11_bit := Or.inr ⟨"MayBeRead", List.mem_append_right _ (List.mem_of_getElem? (i := 694) (by decide +kernel))⟩
theorem lk_X9_18 : zLk RX9 18 yX11_look_ := Or.inr ⟨"MayBeRead", List.mem_append_right _ (List.mem_of_getElem? (i := 271) (by decide +kernel))⟩
theorem lk_X9_22 : zLk RX9 22 yX10_size := Or.inl (zIn 245 (by decide +kernel) (by decide +kernel))
theorem lk_X9_28 : zLk RX9 28 yX10_closeAfter := Or.inl (zIn 249 (by decide +kernel) (by decide +kernel))
theorem lk_X9_32 : zLk RX9 32 yX10_at := Or.inl (zIn 256 (by decide +kernel) (by decide +kernel))
theorem lk_X9_35 : zLk RX9 35 yX11_kindOf := Or.inr ⟨"MayBeRead", List.mem_append_right _ (List.mem_of_getElem? (i := 260) (by decide +kernel))⟩
theorem lk_X9_38 : zLk RX9 38 yX9_fronted := Or.inl (zIn 263 (by decide +kernel) (by decide +kernel))
theorem lk_X9_42 : zLk RX9 42 yX11_put_ := Or.inr ⟨"MayBeRead", List.mem_append_right _ (List.mem_of_getElem? (i := 274) (by decide +kernel))⟩
theorem lk_X9_46 : zLk RX9 46 yX9_parted := Or.inl (zIn 277 (by decide +kernel) (by decide +kernel))
theorem lk_X9_50 : zLk RX9 50 yX9_number := Or.inl (zIn 267 (by decide +kernel) (by decide +kernel))
theorem lk_X9_54 : zLk RX9 54 yX11_isJoin := Or.inr ⟨"MayBeRead", List.mem_append_right _ (List.mem_of_getElem? (i := 281) (by decide +kernel))⟩
theorem lk_X10_19 : zLk RX10 19 yX11_look := Or.inr ⟨"MayBeRead", List.mem_append_right _ (List.mem_of_getElem? (i := 253) (by decide +kernel))⟩
theorem lk_X10_23 : zLk RX10 23 yX11_put := Or.inr ⟨"MayBeRead", List.mem_append_right _ (List.mem_of_getElem? (i := 238) (by decide +kernel))⟩
theorem lk_X10_27 : zLk RX10 27 yX10_clear := Or.inl (zIn 358 (by decide +kernel) (by decide +kernel))
theorem lk_X10_30 : zLk RX10 30 yX10_at := Or.inl (zIn 347 (by decide +kernel) (by decide +kernel))
theorem lk_X10_34 : zLk RX10 34 yX10_add := Or.inl (zIn 362 (by decide +kernel) (by decide +kernel))
theorem lk_X10_38 : zLk RX10 38 yX11_kindOf := Or.inr ⟨"MayBeRead", List.mem_append_right _ (List.mem_of_getElem? (i := 348) (by decide +kernel))⟩
theorem lkm_X10_41 : Cond.methodLink RX10 41 Lib.Math.max.name ∈ WS := zIn 711 (by decide +kernel) (by decide +kernel)
theorem lk_X10_47 : zLk RX10 47 yX11_isJoin := Or.inr ⟨"MayBeRead", List.mem_append_right _ (List.mem_of_getElem? (i := 349) (by decide +kernel))⟩
theorem lk_L_9 : zLk RL 9 yX11_feed := Or.inl (zIn 327 (by decide +kernel) (by decide +kernel))
theorem lk_L_15 : zLk RL 15 yL_cell := Or.inl (zIn 795 (by decide +kernel) (by decide +kernel))
theorem lk_L_21 : zLk RL 21 yL_stir := Or.inl (zIn 806 (by decide +kernel) (by decide +kernel))
theorem lk_L_25 : zLk RL 25 yL_say := Or.inl (zIn 800 (by decide +kernel) (by decide +kernel))
theorem lk_L_29 : zLk RL 29 yX11_read := Or.inl (zIn 339 (by decide +kernel) (by decide +kernel))
theorem lk_L_51 : zLk RL 51 yX11_wordAt := Or.inl (zIn 368 (by decide +kernel) (by decide +kernel))
theorem lk_L_55 : zLk RL 55 yX11_count := Or.inl (zIn 787 (by decide +kernel) (by decide +kernel))
theorem lk_L_58 : zLk RL 58 yX11_readings := Or.inl (zIn 373 (by decide +kernel) (by decide +kernel))
theorem lk_L_63 : zLk RL 63 yL_sentence := Or.inl (zIn 803 (by decide +kernel) (by decide +kernel))
theorem lk_L_67 : zLk RL 67 yL_sight := Or.inl (zIn 809 (by decide +kernel) (by decide +kernel))
theorem lk_L_71 : zLk RL 71 yX11_choose := Or.inl (zIn 587 (by decide +kernel) (by decide +kernel))
theorem lk_L_74 : zLk RL 74 yX11_aim := Or.inl (zIn 714 (by decide +kernel) (by decide +kernel))
theorem lk_L_78 : zLk RL 78 yX11_bracket := Or.inl (zIn 699 (by decide +kernel) (by decide +kernel))
theorem lk_L_81 : zLk RL 81 yX11_image := Or.inl (zIn 745 (by decide +kernel) (by decide +kernel))
theorem lk_L_84 : zLk RL 84 yX11_on := Or.inl (zIn 765 (by decide +kernel) (by decide +kernel))
theorem lk_L_87 : zLk RL 87 yX11_test := Or.inl (zIn 667 (by decide +kernel) (by decide +kernel))
theorem lk_L_90 : zLk RL 90 yX11_best := Or.inl (zIn 741 (by decide +kernel) (by decide +kernel))
theorem lk_L_93 : zLk RL 93 yX11_hangs := Or.inl (zIn 659 (by decide +kernel) (by decide +kernel))
theorem lk_L_96 : zLk RL 96 yX11_fewest := Or.inl (zIn 682 (by decide +kernel) (by decide +kernel))
theorem lk_L_99 : zLk RL 99 yX11_needless := Or.inl (zIn 578 (by decide +kernel) (by decide +kernel))
theorem lk_L_102 : zLk RL 102 yX11_unchoose := Or.inl (zIn 612 (by decide +kernel) (by decide +kernel))
theorem lk_L_107 : zLk RL 107 yX11_unlike := Or.inl (zIn 539 (by decide +kernel) (by decide +kernel))
theorem lk_L_110 : zLk RL 110 yX11_means := Or.inl (zIn 378 (by decide +kernel) (by decide +kernel))
theorem lk_L_116 : zLk RL 116 yX11_leftOver := Or.inl (zIn 620 (by decide +kernel) (by decide +kernel))
theorem lk_L_119 : zLk RL 119 yX11_all := Or.inl (zIn 520 (by decide +kernel) (by decide +kernel))
theorem lk_L_123 : zLk RL 123 yX11_passedOver := Or.inl (zIn 651 (by decide +kernel) (by decide +kernel))
theorem lk_L_126 : zLk RL 126 yX11_serves := Or.inl (zIn 730 (by decide +kernel) (by decide +kernel))
theorem lk_L_129 : zLk RL 129 yX11_same := Or.inl (zIn 535 (by decide +kernel) (by decide +kernel))
theorem lk_L_132 : zLk RL 132 yX11_part := Or.inl (zIn 559 (by decide +kernel) (by decide +kernel))
theorem lk_L_135 : zLk RL 135 yX11_idle := Or.inl (zIn 569 (by decide +kernel) (by decide +kernel))
theorem kc_X11_108 : Cond.constantLong RX11 108 255 ∈ WS := zIn 338 (by decide +kernel) (by decide +kernel)
theorem kc_X11_288 : Cond.constantLong RX11 288 200 ∈ WS := zIn 387 (by decide +kernel) (by decide +kernel)
theorem kc_X5_87 : Cond.constantLong RX5 87 4294967295 ∈ WS := zIn 465 (by decide +kernel) (by decide +kernel)
theorem kc_X5_89 : Cond.constantLong RX5 89 (-1) ∈ WS := zIn 466 (by decide +kernel) (by decide +kernel)
theorem kc_X2_79 : Cond.constantLong RX2 79 4294967295 ∈ WS := zIn 528 (by decide +kernel) (by decide +kernel)
theorem kc_X2_81 : Cond.constantLong RX2 81 (-1) ∈ WS := zIn 534 (by decide +kernel) (by decide +kernel)
theorem kc_X11_241 : Cond.constant RX11 241 1000000000 ∈ WS := zIn 734 (by decide +kernel) (by decide +kernel)
theorem kc_L_7 : Cond.constant RL 7 69069 ∈ WS := zIn 798 (by decide +kernel) (by decide +kernel)
theorem kc_L_8 : Cond.constant RL 8 1103515245 ∈ WS := zIn 799 (by decide +kernel) (by decide +kernel)
theorem kc_L_47 : Cond.constantLong RL 47 7 ∈ WS := zIn 812 (by decide +kernel) (by decide +kernel)
theorem kc_L_49 : Cond.constantLong RL 49 31 ∈ WS := zIn 813 (by decide +kernel) (by decide +kernel)
theorem kc_L_105 : Cond.constantLong RL 105 200 ∈ WS := zIn 814 (by decide +kernel) (by decide +kernel)
theorem kc_L_114 : Cond.constantLong RL 114 (-5) ∈ WS := zIn 815 (by decide +kernel) (by decide +kernel)
theorem kc_L_43 : Cond.constantLong RL 43 (-1) ∈ WS := zIn 816 (by decide +kernel) (by decide +kernel)
