def zOk (G : ZG) : Prop := G.2.2.2.2 = (0, 50) ∨ G.2.2.2.2 = (50, 74) ∨ G.2.2.2.2 = (0, 74)
def zkk (lo hi a : Nat) : Nat := if lo ≤ a ∧ a < hi then zKs.getD a 99 else 99
theorem zkr_of {G : ZG} {K k K' : Nat} (hd : ∀ q ∈ [(0, 50), (50, 74), (0, 74)], ∀ a, a < 74 → zkk q.1 q.2 a = K → zkk q.1 q.2 (zr a k) = K') (hG : zOk G) {a : Nat} (hK : K ≠ 99) (h : zk G a = K) : zk G (zr a k) = K' := by
  obtain ⟨h1, h2, h3⟩ := zk_in h hK
  have ha : a < 74 := by
    by_cases ha : a < 74
    · exact ha
    · exact absurd ((zKs_out ha).symm.trans h3).symm hK
  have key : ∀ q : Nat × Nat, q ∈ [(0, 50), (50, 74), (0, 74)] → G.2.2.2.2 = q → zk G (zr a k) = K' := by
    intro q hq hg
    have h' : zkk q.1 q.2 a = K := by rw [← hg]; exact h
    have h4 := hd q hq a ha h'
    rw [← hg] at h4
    exact h4
  rcases hG with hg | hg | hg
  · exact key _ (by decide) hg
  · exact key _ (by decide) hg
  · exact key _ (by decide) hg
def zN : Nat := 100000
def zmax (x y : Int32) : Int32 := if x < y then y else x
def zabs (x : Int32) : Int32 := if 0 ≤ x then x else 0 - x
def zbo (v : Int32) : Bool := decide (v = 0 ∨ v = 1)
theorem zbo_of {v : Int32} (h : zbo v = true) : v = 0 ∨ v = 1 := of_decide_eq_true h
def znz (v : Int64) : Bool := decide (¬ v = 0)
theorem znz_of {v : Int64} (h : znz v = true) : ¬ v = 0 := of_decide_eq_true h
theorem zif_t {α : Type} {c : Prop} [Decidable c] {a b r : α} (h : (if c then a else b) = r) (hc : c) : a = r := by rw [if_pos hc] at h; exact h
theorem zif_f {α : Type} {c : Prop} [Decidable c] {a b r : α} (h : (if c then a else b) = r) (hc : ¬ c) : b = r := by rw [if_neg hc] at h; exact h
theorem zne {x k : Int32} {z : Int} (h : ¬ x = k) (hk : k.toInt = z) : x.toInt ≠ z := fun e => h (Int32.toInt_inj.mp (e.trans hk.symm))
section ZE
variable {p : Program} {l : Launch} {e : Env} {R : Room} {s : State} {m : MethodId} {args : Array Value} {below : List Frame} {meth : Method} {c : Code} {H : Heap} {locs : List Loc} {cells slots : Nat} {Q : State → Prop}
variable {cc : ByteArray} {pc nL : Nat} {ls : Array Slot} {rest st0 : List Value} {own : String}
theorem z_tab (S : zX p R s m args c cells slots cc nL own) {dflt lo hi : Int} {offs : Array Int} {len : Nat} {x k : Int32} {off : Int} {tgt : Nat} (hk : x = k) (h1 : ¬ k.toInt < lo) (h2 : ¬ hi < k.toInt) (hdg : decode cc pc = .ok (.tableswitch dflt lo hi offs, len)) (ho : offs[(k.toInt - lo).toNat]? = some off) (ht : (pc : Int) + off = (tgt : Int)) (kk : W p l e R s m args below meth c H locs cells slots Q (F0 m tgt ls rest)) : W p l e R s m args below meth c H locs cells slots Q (F0 m pc ls (.int x :: rest)) := by
  subst hk
  exact lv_tableIn S.1.1 S.1.2.1 hdg h1 h2 ho ht kk
theorem z_tabD (S : zX p R s m args c cells slots cc nL own) {dflt lo hi : Int} {offs : Array Int} {len : Nat} {x : Int32} {tgt : Nat} (h : x.toInt < lo ∨ hi < x.toInt) (hdg : decode cc pc = .ok (.tableswitch dflt lo hi offs, len)) (ht : (pc : Int) + dflt = (tgt : Int)) (kk : W p l e R s m args below meth c H locs cells slots Q (F0 m tgt ls rest)) : W p l e R s m args below meth c H locs cells slots Q (F0 m pc ls (.int x :: rest)) := lv_tableOut S.1.1 S.1.2.1 hdg h ht kk
theorem z_look (S : zX p R s m args c cells slots cc nL own) {dflt : Int} {ps : Array (Int × Int)} {len : Nat} {x : Int32} {off : Int} {tgt : Nat} (ho : Op.lookupswitch.offset ps.toList dflt x.toInt = off) (hdg : decode cc pc = .ok (.lookupswitch dflt ps, len)) (hp : (ps.toList.zip (ps.toList.drop 1)).all (fun (a, next) => a.1 < next.1) = true) (ht : (pc : Int) + off = (tgt : Int)) (kk : W p l e R s m args below meth c H locs cells slots Q (F0 m tgt ls rest)) : W p l e R s m args below meth c H locs cells slots Q (F0 m pc ls (.int x :: rest)) := lv_lookup S.1.1 S.1.2.1 hdg hp ho ht kk
theorem z_maxI (S : zX p R s m args c cells slots cc nL own) {index : Nat} {x y : Int32} (hl : Cond.methodLink own index Lib.Math.max.name ∈ WS) (hsz : ls.size = nL) (hR : 1 ≤ R.frames ∧ (rest.map fun v => v.category).sum + 13 ≤ R.locals) (hdg : decode cc pc = .ok (.invokestatic index, 3)) (kk : W p l e R s m args below meth c H locs cells slots Q (F0 m (pc + 3) ls (.int (zmax x y) :: rest))) : W p l e R s m args below meth c H locs cells slots Q (F0 m pc ls (.int y :: .int x :: rest)) := by
  obtain ⟨⟨hx, hb, hml, hown, hts⟩, S2, S3⟩ := S
  exact va_mmax hx hb (hml.trans hsz.symm) hown (hts _ hl) (hts _ (zIn 754 (by decide +kernel) (by decide +kernel))) (hts _ (zIn 14 (by decide +kernel) (by decide +kernel))) (hts _ (zIn 755 (by decide +kernel) (by decide +kernel))) hR.1 hR.2 S2 S3 hdg kk
theorem z_absI (S : zX p R s m args c cells slots cc nL own) {index : Nat} {x : Int32} (hl : Cond.methodLink own index Lib.Math.abs.name ∈ WS) (hsz : ls.size = nL) (hR : 1 ≤ R.frames ∧ (rest.map fun v => v.category).sum + 13 ≤ R.locals) (hdg : decode cc pc = .ok (.invokestatic index, 3)) (kk : W p l e R s m args below meth c H locs cells slots Q (F0 m (pc + 3) ls (.int (zabs x) :: rest))) : W p l e R s m args below meth c H locs cells slots Q (F0 m pc ls (.int x :: rest)) := by
  obtain ⟨⟨hx, hb, hml, hown, hts⟩, S2, S3⟩ := S
  exact va_mabs hx hb (hml.trans hsz.symm) hown (hts _ hl) (hts _ (zIn 722 (by decide +kernel) (by decide +kernel))) (hts _ (zIn 14 (by decide +kernel) (by decide +kernel))) (hts _ (zIn 723 (by decide +kernel) (by decide +kernel))) hR.1 hR.2 S2 S3 hdg kk
end ZE
theorem kr_0_0 {G : ZG} (hG : zOk G) {a : Nat} (h : zk G a = 10) : zk G (zr a 0) = 0 := zkr_of (by decide +kernel) hG (by decide) h
theorem kr_0_1 {G : ZG} (hG : zOk G) {a : Nat} (h : zk G a = 10) : zk G (zr a 1) = 0 := zkr_of (by decide +kernel) hG (by decide) h
theorem kr_1_0 {G : ZG} (hG : zOk G) {a : Nat} (h : zk G a = 11) : zk G (zr a 0) = 20 := zkr_of (by decide +kernel) hG (by decide) h
theorem kr_1_1 {G : ZG} (hG : zOk G) {a : Nat} (h : zk G a = 11) : zk G (zr a 1) = 14 := zkr_of (by decide +kernel) hG (by decide) h
theorem kr_1_2 {G : ZG} (hG : zOk G) {a : Nat} (h : zk G a = 11) : zk G (zr a 2) = 10 := zkr_of (by decide +kernel) hG (by decide) h
theorem kr_2_0 {G : ZG} (hG : zOk G) {a : Nat} (h : zk G a = 12) : zk G (zr a 0) = 15 := zkr_of (by decide +kernel) hG (by decide) h
theorem kr_2_1 {G : ZG} (hG : zOk G) {a : Nat} (h : zk G a = 12) : zk G (zr a 1) = 1 := zkr_of (by decide +kernel) hG (by decide) h
theorem kr_2_2 {G : ZG} (hG : zOk G) {a : Nat} (h : zk G a = 12) : zk G (zr a 2) = 0 := zkr_of (by decide +kernel) hG (by decide) h
theorem kr_2_3 {G : ZG} (hG : zOk G) {a : Nat} (h : zk G a = 12) : zk G (zr a 3) = 0 := zkr_of (by decide +kernel) hG (by decide) h
theorem kr_3_0 {G : ZG} (hG : zOk G) {a : Nat} (h : zk G a = 13) : zk G (zr a 0) = 0 := zkr_of (by decide +kernel) hG (by decide) h
theorem kr_3_1 {G : ZG} (hG : zOk G) {a : Nat} (h : zk G a = 13) : zk G (zr a 1) = 0 := zkr_of (by decide +kernel) hG (by decide) h
theorem kr_4_0 {G : ZG} (hG : zOk G) {a : Nat} (h : zk G a = 14) : zk G (zr a 0) = 0 := zkr_of (by decide +kernel) hG (by decide) h
theorem kr_5_0 {G : ZG} (hG : zOk G) {a : Nat} (h : zk G a = 15) : zk G (zr a 0) = 1 := zkr_of (by decide +kernel) hG (by decide) h
theorem kr_5_1 {G : ZG} (hG : zOk G) {a : Nat} (h : zk G a = 15) : zk G (zr a 1) = 1 := zkr_of (by decide +kernel) hG (by decide) h
theorem kr_5_2 {G : ZG} (hG : zOk G) {a : Nat} (h : zk G a = 15) : zk G (zr a 2) = 0 := zkr_of (by decide +kernel) hG (by decide) h
theorem kr_6_0 {G : ZG} (hG : zOk G) {a : Nat} (h : zk G a = 16) : zk G (zr a 0) = 0 := zkr_of (by decide +kernel) hG (by decide) h
theorem kr_7_0 {G : ZG} (hG : zOk G) {a : Nat} (h : zk G a = 17) : zk G (zr a 0) = 0 := zkr_of (by decide +kernel) hG (by decide) h
theorem kr_7_1 {G : ZG} (hG : zOk G) {a : Nat} (h : zk G a = 17) : zk G (zr a 1) = 0 := zkr_of (by decide +kernel) hG (by decide) h
theorem kr_7_2 {G : ZG} (hG : zOk G) {a : Nat} (h : zk G a = 17) : zk G (zr a 2) = 0 := zkr_of (by decide +kernel) hG (by decide) h
theorem kr_7_3 {G : ZG} (hG : zOk G) {a : Nat} (h : zk G a = 17) : zk G (zr a 3) = 0 := zkr_of (by decide +kernel) hG (by decide) h
theorem kr_7_5 {G : ZG} (hG : zOk G) {a : Nat} (h : zk G a = 17) : zk G (zr a 5) = 0 := zkr_of (by decide +kernel) hG (by decide) h
theorem kr_7_6 {G : ZG} (hG : zOk G) {a : Nat} (h : zk G a = 17) : zk G (zr a 6) = 0 := zkr_of (by decide +kernel) hG (by decide) h
theorem kr_7_7 {G : ZG} (hG : zOk G) {a : Nat} (h : zk G a = 17) : zk G (zr a 7) = 1 := zkr_of (by decide +kernel) hG (by decide) h
theorem kr_7_8 {G : ZG} (hG : zOk G) {a : Nat} (h : zk G a = 17) : zk G (zr a 8) = 0 := zkr_of (by decide +kernel) hG (by decide) h
theorem kr_8_0 {G : ZG} (hG : zOk G) {a : Nat} (h : zk G a = 18) : zk G (zr a 0) = 1 := zkr_of (by decide +kernel) hG (by decide) h
theorem kr_9_0 {G : ZG} (hG : zOk G) {a : Nat} (h : zk G a = 19) : zk G (zr a 0) = 1 := zkr_of (by decide +kernel) hG (by decide) h
theorem kr_9_1 {G : ZG} (hG : zOk G) {a : Nat} (h : zk G a = 19) : zk G (zr a 1) = 1 := zkr_of (by decide +kernel) hG (by decide) h
theorem kr_10_0 {G : ZG} (hG : zOk G) {a : Nat} (h : zk G a = 20) : zk G (zr a 0) = 0 := zkr_of (by decide +kernel) hG (by decide) h
theorem kr_11_0 {G : ZG} (hG : zOk G) {a : Nat} (h : zk G a = 21) : zk G (zr a 0) = 20 := zkr_of (by decide +kernel) hG (by decide) h
theorem kr_11_1 {G : ZG} (hG : zOk G) {a : Nat} (h : zk G a = 21) : zk G (zr a 1) = 20 := zkr_of (by decide +kernel) hG (by decide) h
theorem kr_11_2 {G : ZG} (hG : zOk G) {a : Nat} (h : zk G a = 21) : zk G (zr a 2) = 20 := zkr_of (by decide +kernel) hG (by decide) h
theorem kr_11_3 {G : ZG} (hG : zOk G) {a : Nat} (h : zk G a = 21) : zk G (zr a 3) = 19 := zkr_of (by decide +kernel) hG (by decide) h
theorem kr_11_4 {G : ZG} (hG : zOk G) {a : Nat} (h : zk G a = 21) : zk G (zr a 4) = 17 := zkr_of (by decide +kernel) hG (by decide) h
theorem kr_11_5 {G : ZG} (hG : zOk G) {a : Nat} (h : zk G a = 21) : zk G (zr a 5) = 12 := zkr_of (by decide +kernel) hG (by decide) h
theorem kr_11_6 {G : ZG} (hG : zOk G) {a : Nat} (h : zk G a = 21) : zk G (zr a 6) = 18 := zkr_of (by decide +kernel) hG (by decide) h
theorem kr_11_7 {G : ZG} (hG : zOk G) {a : Nat} (h : zk G a = 21) : zk G (zr a 7) = 14 := zkr_of (by decide +kernel) hG (by decide) h
theorem kr_11_8 {G : ZG} (hG : zOk G) {a : Nat} (h : zk G a = 21) : zk G (zr a 8) = 16 := zkr_of (by decide +kernel) hG (by decide) h
theorem kr_11_9 {G : ZG} (hG : zOk G) {a : Nat} (h : zk G a = 21) : zk G (zr a 9) = 16 := zkr_of (by decide +kernel) hG (by decide) h
theorem kr_11_10 {G : ZG} (hG : zOk G) {a : Nat} (h : zk G a = 21) : zk G (zr a 10) = 13 := zkr_of (by decide +kernel) hG (by decide) h
theorem kr_11_11 {G : ZG} (hG : zOk G) {a : Nat} (h : zk G a = 21) : zk G (zr a 11) = 10 := zkr_of (by decide +kernel) hG (by decide) h
theorem kr_11_12 {G : ZG} (hG : zOk G) {a : Nat} (h : zk G a = 21) : zk G (zr a 12) = 11 := zkr_of (by decide +kernel) hG (by decide) h
theorem kr_11_13 {G : ZG} (hG : zOk G) {a : Nat} (h : zk G a = 21) : zk G (zr a 13) = 0 := zkr_of (by decide +kernel) hG (by decide) h
theorem kr_12_0 {G : ZG} (hG : zOk G) {a : Nat} (h : zk G a = 22) : zk G (zr a 0) = 0 := zkr_of (by decide +kernel) hG (by decide) h
theorem kr_12_1 {G : ZG} (hG : zOk G) {a : Nat} (h : zk G a = 22) : zk G (zr a 1) = 0 := zkr_of (by decide +kernel) hG (by decide) h
theorem kr_12_2 {G : ZG} (hG : zOk G) {a : Nat} (h : zk G a = 22) : zk G (zr a 2) = 0 := zkr_of (by decide +kernel) hG (by decide) h
theorem kr_12_3 {G : ZG} (hG : zOk G) {a : Nat} (h : zk G a = 22) : zk G (zr a 3) = 0 := zkr_of (by decide +kernel) hG (by decide) h
theorem kr_12_4 {G : ZG} (hG : zOk G) {a : Nat} (h : zk G a = 22) : zk G (zr a 4) = 0 := zkr_of (by decide +kernel) hG (by decide) h
theorem kr_12_5 {G : ZG} (hG : zOk G) {a : Nat} (h : zk G a = 22) : zk G (zr a 5) = 0 := zkr_of (by decide +kernel) hG (by decide) h
theorem kr_12_6 {G : ZG} (hG : zOk G) {a : Nat} (h : zk G a = 22) : zk G (zr a 6) = 0 := zkr_of (by decide +kernel) hG (by decide) h
theorem kr_12_7 {G : ZG} (hG : zOk G) {a : Nat} (h : zk G a = 22) : zk G (zr a 7) = 0 := zkr_of (by decide +kernel) hG (by decide) h
theorem kr_12_8 {G : ZG} (hG : zOk G) {a : Nat} (h : zk G a = 22) : zk G (zr a 8) = 0 := zkr_of (by decide +kernel) hG (by decide) h
theorem kr_12_9 {G : ZG} (hG : zOk G) {a : Nat} (h : zk G a = 22) : zk G (zr a 9) = 0 := zkr_of (by decide +kernel) hG (by decide) h
theorem kr_12_18 {G : ZG} (hG : zOk G) {a : Nat} (h : zk G a = 22) : zk G (zr a 18) = 1 := zkr_of (by decide +kernel) hG (by decide) h
theorem kr_12_19 {G : ZG} (hG : zOk G) {a : Nat} (h : zk G a = 22) : zk G (zr a 19) = 0 := zkr_of (by decide +kernel) hG (by decide) h
theorem kr_12_20 {G : ZG} (hG : zOk G) {a : Nat} (h : zk G a = 22) : zk G (zr a 20) = 0 := zkr_of (by decide +kernel) hG (by decide) h
theorem kr_12_21 {G : ZG} (hG : zOk G) {a : Nat} (h : zk G a = 22) : zk G (zr a 21) = 0 := zkr_of (by decide +kernel) hG (by decide) h
theorem kr_12_22 {G : ZG} (hG : zOk G) {a : Nat} (h : zk G a = 22) : zk G (zr a 22) = 0 := zkr_of (by decide +kernel) hG (by decide) h
theorem kr_12_23 {G : ZG} (hG : zOk G) {a : Nat} (h : zk G a = 22) : zk G (zr a 23) = 0 := zkr_of (by decide +kernel) hG (by decide) h
theorem kr_12_24 {G : ZG} (hG : zOk G) {a : Nat} (h : zk G a = 22) : zk G (zr a 24) = 0 := zkr_of (by decide +kernel) hG (by decide) h
theorem kr_12_25 {G : ZG} (hG : zOk G) {a : Nat} (h : zk G a = 22) : zk G (zr a 25) = 1 := zkr_of (by decide +kernel) hG (by decide) h
theorem kr_12_32 {G : ZG} (hG : zOk G) {a : Nat} (h : zk G a = 22) : zk G (zr a 32) = 1 := zkr_of (by decide +kernel) hG (by decide) h
theorem kr_12_33 {G : ZG} (hG : zOk G) {a : Nat} (h : zk G a = 22) : zk G (zr a 33) = 1 := zkr_of (by decide +kernel) hG (by decide) h
theorem kr_12_35 {G : ZG} (hG : zOk G) {a : Nat} (h : zk G a = 22) : zk G (zr a 35) = 2 := zkr_of (by decide +kernel) hG (by decide) h
theorem kr_12_36 {G : ZG} (hG : zOk G) {a : Nat} (h : zk G a = 22) : zk G (zr a 36) = 2 := zkr_of (by decide +kernel) hG (by decide) h
theorem kr_12_38 {G : ZG} (hG : zOk G) {a : Nat} (h : zk G a = 22) : zk G (zr a 38) = 0 := zkr_of (by decide +kernel) hG (by decide) h
theorem inW0 : ∀ w ∈ u_ws RX0 TX0 3, w ∈ WS := show ∀ w ∈ [u_lay RX0 TX0 0, u_lay RX0 TX0 1, u_lay RX0 TX0 2], w ∈ WS from List.forall_mem_cons.mpr ⟨zIn 205 (by decide +kernel) (by decide +kernel), List.forall_mem_cons.mpr ⟨zIn 207 (by decide +kernel) (by decide +kernel), List.forall_mem_cons.mpr ⟨zIn 209 (by decide +kernel) (by decide +kernel), fun _ h => absurd h List.not_mem_nil⟩⟩⟩
theorem inW1 : ∀ w ∈ u_ws RX1 TX1 4, w ∈ WS := show ∀ w ∈ [u_lay RX1 TX1 0, u_lay RX1 TX1 1, u_lay RX1 TX1 2, u_lay RX1 TX1 3], w ∈ WS from List.forall_mem_cons.mpr ⟨zIn 228 (by decide +kernel) (by decide +kernel), List.forall_mem_cons.mpr ⟨zIn 230 (by decide +kernel) (by decide +kernel), List.forall_mem_cons.mpr ⟨zIn 232 (by decide +kernel) (by decide +kernel), List.forall_mem_cons.mpr ⟨zIn 234 (by decide +kernel) (by decide +kernel), fun _ h => absurd h List.not_mem_nil⟩⟩⟩⟩
theorem inW2 : ∀ w ∈ u_ws RX2 TX2 6, w ∈ WS := show ∀ w ∈ [u_lay RX2 TX2 0, u_lay RX2 TX2 1, u_lay RX2 TX2 2, u_lay RX2 TX2 3, u_lay RX2 TX2 4, u_lay RX2 TX2 5], w ∈ WS from List.forall_mem_cons.mpr ⟨zIn 122 (by decide +kernel) (by decide +kernel), List.forall_mem_cons.mpr ⟨zIn 124 (by decide +kernel) (by decide +kernel), List.forall_mem_cons.mpr ⟨zIn 126 (by decide +kernel) (by decide +kernel), List.forall_mem_cons.mpr ⟨zIn 128 (by decide +kernel) (by decide +kernel), List.forall_mem_cons.mpr ⟨zIn 130 (by decide +kernel) (by decide +kernel), List.forall_mem_cons.mpr ⟨zIn 132 (by decide +kernel) (by decide +kernel), fun _ h => absurd h List.not_mem_nil⟩⟩⟩⟩⟩⟩
theorem inW3 : ∀ w ∈ u_ws RX3 TX3 4, w ∈ WS := show ∀ w ∈ [u_lay RX3 TX3 0, u_lay RX3 TX3 1, u_lay RX3 TX3 2, u_lay RX3 TX3 3], w ∈ WS from List.forall_mem_cons.mpr ⟨zIn 187 (by decide +kernel) (by decide +kernel), List.forall_mem_cons.mpr ⟨zIn 189 (by decide +kernel) (by decide +kernel), List.forall_mem_cons.mpr ⟨zIn 191 (by decide +kernel) (by decide +kernel), List.forall_mem_cons.mpr ⟨zIn 193 (by decide +kernel) (by decide +kernel), fun _ h => absurd h List.not_mem_nil⟩⟩⟩⟩
theorem inW4 : ∀ w ∈ u_ws RX4 TX4 2, w ∈ WS := show ∀ w ∈ [u_lay RX4 TX4 0, u_lay RX4 TX4 1], w ∈ WS from List.forall_mem_cons.mpr ⟨zIn 156 (by decide +kernel) (by decide +kernel), List.forall_mem_cons.mpr ⟨zIn 158 (by decide +kernel) (by decide +kernel), fun _ h => absurd h List.not_mem_nil⟩⟩
theorem inW5 : ∀ w ∈ u_ws RX5 TX5 5, w ∈ WS := show ∀ w ∈ [u_lay RX5 TX5 0, u_lay RX5 TX5 1, u_lay RX5 TX5 2, u_lay RX5 TX5 3, u_lay RX5 TX5 4], w ∈ WS from List.forall_mem_cons.mpr ⟨zIn 105 (by decide +kernel) (by decide +kernel), List.forall_mem_cons.mpr ⟨zIn 107 (by decide +kernel) (by decide +kernel), List.forall_mem_cons.mpr ⟨zIn 109 (by decide +kernel) (by decide +kernel), List.forall_mem_cons.mpr ⟨zIn 111 (by decide +kernel) (by decide +kernel), List.forall_mem_cons.mpr ⟨zIn 113 (by decide +kernel) (by decide +kernel), fun _ h => absurd h List.not_mem_nil⟩⟩⟩⟩⟩
theorem inW6 : ∀ w ∈ u_ws RX6 TX6 3, w ∈ WS := show ∀ w ∈ [u_lay RX6 TX6 0, u_lay RX6 TX6 1, u_lay RX6 TX6 2], w ∈ WS from List.forall_mem_cons.mpr ⟨zIn 170 (by decide +kernel) (by decide +kernel), List.forall_mem_cons.mpr ⟨zIn 172 (by decide +kernel) (by decide +kernel), List.forall_mem_cons.mpr ⟨zIn 174 (by decide +kernel) (by decide +kernel), fun _ h => absurd h List.not_mem_nil⟩⟩⟩
theorem inW7 : ∀ w ∈ u_ws RX7 TX7 10, w ∈ WS := show ∀ w ∈ [u_lay RX7 TX7 0, u_lay RX7 TX7 1, u_lay RX7 TX7 2, u_lay RX7 TX7 3, u_lay RX7 TX7 4, u_lay RX7 TX7 5, u_lay RX7 TX7 6, u_lay RX7 TX7 7, u_lay RX7 TX7 8, u_lay RX7 TX7 9], w ∈ WS from List.forall_mem_cons.mpr ⟨zIn 67 (by decide +kernel) (by decide +kernel), List.forall_mem_cons.mpr ⟨zIn 69 (by decide +kernel) (by decide +kernel), List.forall_mem_cons.mpr ⟨zIn 71 (by decide +kernel) (by decide +kernel), List.forall_mem_cons.mpr ⟨zIn 73 (by decide +kernel) (by decide +kernel), List.forall_mem_cons.mpr ⟨zIn 75 (by decide +kernel) (by decide +kernel), List.forall_mem_cons.mpr ⟨zIn 77 (by decide +kernel) (by decide +kernel), List.forall_mem_cons.mpr ⟨zIn 79 (by decide +kernel) (by decide +kernel), List.forall_mem_cons.mpr ⟨zIn 81 (by decide +kernel) (by decide +kernel), List.forall_mem_cons.mpr ⟨zIn 83 (by decide +kernel) (by decide +kernel), List.forall_mem_cons.mpr ⟨zIn 85 (by decide +kernel) (by decide +kernel), fun _ h => absurd h List.not_mem_nil⟩⟩⟩⟩⟩⟩⟩⟩⟩⟩
theorem inW8 : ∀ w ∈ u_ws RX8 TX8 2, w ∈ WS := show ∀ w ∈ [u_lay RX8 TX8 0, u_lay RX8 TX8 1], w ∈ WS from List.forall_mem_cons.mpr ⟨zIn 143 (by decide +kernel) (by decide +kernel), List.forall_mem_cons.mpr ⟨zIn 145 (by decide +kernel) (by decide +kernel), fun _ h => absurd h List.not_mem_nil⟩⟩
theorem inW9 : ∀ w ∈ u_ws RX9 TX9 2, w ∈ WS := show ∀ w ∈ [u_lay RX9 TX9 0, u_lay RX9 TX9 1], w ∈ WS from List.forall_mem_cons.mpr ⟨zIn 45 (by decide +kernel) (by decide +kernel), List.forall_mem_cons.mpr ⟨zIn 47 (by decide +kernel) (by decide +kernel), fun _ h => absurd h List.not_mem_nil⟩⟩
theorem inW10 : ∀ w ∈ u_ws RX10 TX10 2, w ∈ WS := show ∀ w ∈ [u_lay RX10 TX10 0, u_lay RX10 TX10 1], w ∈ WS from List.forall_mem_cons.mpr ⟨zIn 31 (by decide +kernel) (by decide +kernel), List.forall_mem_cons.mpr ⟨zIn 33 (by decide +kernel) (by decide +kernel), fun _ h => absurd h List.not_mem_nil⟩⟩
theorem inW11 : ∀ w ∈ u_ws RX11 TX11 14, w ∈ WS := show ∀ w ∈ [u_lay RX11 TX11 0, u_lay RX11 TX11 1, u_lay RX11 TX11 2, u_lay RX11 TX11 3, u_lay RX11 TX11 4, u_lay RX11 TX11 5, u_lay RX11 TX11 6, u_lay RX11 TX11 7, u_lay RX11 TX11 8, u_lay RX11 TX11 9, u_lay RX11 TX11 10, u_lay RX11 TX11 11, u_lay RX11 TX11 12, u_lay RX11 TX11 13], w ∈ WS from List.forall_mem_cons.mpr ⟨zIn 301 (by decide +kernel) (by decide +kernel), List.forall_mem_cons.mpr ⟨zIn 303 (by decide +kernel) (by decide +kernel), List.forall_mem_cons.mpr ⟨zIn 305 (by decide +kernel) (by decide +kernel), List.forall_mem_cons.mpr ⟨zIn 307 (by decide +kernel) (by decide +kernel), List.forall_mem_cons.mpr ⟨zIn 309 (by decide +kernel) (by decide +kernel), List.forall_mem_cons.mpr ⟨zIn 311 (by decide +kernel) (by decide +kernel), List.forall_mem_cons.mpr ⟨zIn 313 (by decide +kernel) (by decide +kernel), List.forall_mem_cons.mpr ⟨zIn 315 (by decide +kernel) (by decide +kernel), List.forall_mem_cons.mpr ⟨zIn 317 (by decide +kernel) (by decide +kernel), List.forall_mem_cons.mpr ⟨zIn 319 (by decide +kernel) (by decide +kernel), List.forall_mem_cons.mpr ⟨zIn 321 (by decide +kernel) (by decide +kernel), List.forall_mem_cons.mpr ⟨zIn 323 (by decide +kernel) (by decide +kernel), List.forall_mem_cons.mpr ⟨zIn 325 (by decide +kernel) (by decide +kernel), List.forall_mem_cons.mpr ⟨zIn 327 (by decide +kernel) (by decide +kernel), fun _ h => absurd h List.not_mem_nil⟩⟩⟩⟩⟩⟩⟩⟩⟩⟩⟩⟩⟩⟩
theorem inW12 : ∀ w ∈ u_ws RX12 TX12 39, w ∈ WS := show ∀ w ∈ [u_lay RX12 TX12 0, u_lay RX12 TX12 1, u_lay RX12 TX12 2, u_lay RX12 TX12 3, u_lay RX12 TX12 4, u_lay RX12 TX12 5, u_lay RX12 TX12 6, u_lay RX12 TX12 7, u_lay RX12 TX12 8, u_lay RX12 TX12 9, u_lay RX12 TX12 10, u_lay RX12 TX12 11, u_lay RX12 TX12 12, u_lay RX12 TX12 13, u_lay RX12 TX12 14, u_lay RX12 TX12 15, u_lay RX12 TX12 16, u_lay RX12 TX12 17, u_lay RX12 TX12 18, u_lay RX12 TX12 19, u_lay RX12 TX12 20, u_lay RX12 TX12 21, u_lay RX12 TX12 22, u_lay RX12 TX12 23, u_lay RX12 TX12 24, u_lay RX12 TX12 25, u_lay RX12 TX12 26, u_lay RX12 TX12 27, u_lay RX12 TX12 28, u_lay RX12 TX12 29, u_lay RX12 TX12 30, u_lay RX12 TX12 31, u_lay RX12 TX12 32, u_lay RX12 TX12 33, u_lay RX12 TX12 34, u_lay RX12 TX12 35, u_lay RX12 TX12 36, u_lay RX12 TX12 37, u_lay RX12 TX12 38], w ∈ WS from List.forall_mem_cons.mpr ⟨zIn 961 (by decide +kernel) (by decide +kernel), List.forall_mem_cons.mpr ⟨zIn 963 (by decide +kernel) (by decide +kernel), List.forall_mem_cons.mpr ⟨zIn 965 (by decide +kernel) (by decide +kernel), List.forall_mem_cons.mpr ⟨zIn 967 (by decide +kernel) (by decide +kernel), List.forall_mem_cons.mpr ⟨zIn 969 (by decide +kernel) (by decide +kernel), List.forall_mem_cons.mpr ⟨zIn 971 (by decide +kernel) (by decide +kernel), List.forall_mem_cons.mpr ⟨zIn 973 (by decide +kernel) (by decide +kernel), List.forall_mem_cons.mpr ⟨zIn 975 (by decide +kernel) (by decide +kernel), List.forall_mem_cons.mpr ⟨zIn 977 (by decide +kernel) (by decide +kernel), List.forall_mem_cons.mpr ⟨zIn 979 (by decide +kernel) (by decide +kernel), List.forall_mem_cons.mpr ⟨zIn 981 (by decide +kernel) (by decide +kernel), List.forall_mem_cons.mpr ⟨zIn 983 (by decide +kernel) (by decide +kernel), List.forall_mem_cons.mpr ⟨zIn 985 (by decide +kernel) (by decide +kernel), List.forall_mem_cons.mpr ⟨zIn 987 (by decide +kernel) (by decide +kernel), List.forall_mem_cons.mpr ⟨zIn 989 (by decide +kernel) (by decide +kernel), List.forall_mem_cons.mpr ⟨zIn 991 (by decide +kernel) (by decide +kernel), List.forall_mem_cons.mpr ⟨zIn 993 (by decide +kernel) (by decide +kernel), List.forall_mem_cons.mpr ⟨zIn 995 (by decide +kernel) (by decide +kernel), List.forall_mem_cons.mpr ⟨zIn 997 (by decide +kernel) (by decide +kernel), List.forall_mem_cons.mpr ⟨zIn 999 (by decide +kernel) (by decide +kernel), List.forall_mem_cons.mpr ⟨zIn 1001 (by decide +kernel) (by decide +kernel), List.forall_mem_cons.mpr ⟨zIn 1003 (by decide +kernel) (by decide +kernel), List.forall_mem_cons.mpr ⟨zIn 1005 (by decide +kernel) (by decide +kernel), List.forall_mem_cons.mpr ⟨zIn 1007 (by decide +kernel) (by decide +kernel), List.forall_mem_cons.mpr ⟨zIn 1009 (by decide +kernel) (by decide +kernel), List.forall_mem_cons.mpr ⟨zIn 1011 (by decide +kernel) (by decide +kernel), List.forall_mem_cons.mpr ⟨zIn 1013 (by decide +kernel) (by decide +kernel), List.forall_mem_cons.mpr ⟨zIn 1015 (by decide +kernel) (by decide +kernel), List.forall_mem_cons.mpr ⟨zIn 1017 (by decide +kernel) (by decide +kernel), List.forall_mem_cons.mpr ⟨zIn 1019 (by decide +kernel) (by decide +kernel), List.forall_mem_cons.mpr ⟨zIn 1021 (by decide +kernel) (by decide +kernel), List.forall_mem_cons.mpr ⟨zIn 1023 (by decide +kernel) (by decide +kernel), List.forall_mem_cons.mpr ⟨zIn 1025 (by decide +kernel) (by decide +kernel), List.forall_mem_cons.mpr ⟨zIn 1027 (by decide +kernel) (by decide +kernel), List.forall_mem_cons.mpr ⟨zIn 1029 (by decide +kernel) (by decide +kernel), List.forall_mem_cons.mpr ⟨zIn 1031 (by decide +kernel) (by decide +kernel), List.forall_mem_cons.mpr ⟨zIn 1033 (by decide +kernel) (by decide +kernel), List.forall_mem_cons.mpr ⟨zIn 1035 (by decide +kernel) (by decide +kernel), List.forall_mem_cons.mpr ⟨zIn 1037 (by decide +kernel) (by decide +kernel), fun _ h => absurd h List.not_mem_nil⟩⟩⟩⟩⟩⟩⟩⟩⟩⟩⟩⟩⟩⟩⟩⟩⟩⟩⟩⟩⟩⟩⟩⟩⟩⟩⟩⟩⟩⟩⟩⟩⟩⟩⟩⟩⟩⟩⟩
theorem st_X11_297 : Cond.fieldLink RX11 297 "MayBeRead" "MARK_CASES" "[J" ∈ WS := zIn 465 (by decide +kernel) (by decide +kernel)
theorem fl_X11_10 : zFl RX11 10 11 0 := ⟨RX11, TX11, 14, tyX11, rfl, by decide, rfl, inW11, by decide, zIn 287 (by decide +kernel) (by decide +kernel), tyX11_ok, nmX11, by decide +kernel⟩
theorem fl_X11_16 : zFl RX11 16 11 1 := ⟨RX11, TX11, 14, tyX11, rfl, by decide, rfl, inW11, by decide, zIn 288 (by decide +kernel) (by decide +kernel), tyX11_ok, nmX11, by decide +kernel⟩
theorem fl_X11_19 : zFl RX11 19 11 2 := ⟨RX11, TX11, 14, tyX11, rfl, by decide, rfl, inW11, by decide, zIn 289 (by decide +kernel) (by decide +kernel), tyX11_ok, nmX11, by decide +kernel⟩
theorem fl_X11_25 : zFl RX11 25 11 3 := ⟨RX11, TX11, 14, tyX11, rfl, by decide, rfl, inW11, by decide, zIn 290 (by decide +kernel) (by decide +kernel), tyX11_ok, nmX11, by decide +kernel⟩
theorem fl_X11_32 : zFl RX11 32 11 4 := ⟨RX11, TX11, 14, tyX11, rfl, by decide, rfl, inW11, by decide, zIn 291 (by decide +kernel) (by decide +kernel), tyX11_ok, nmX11, by decide +kernel⟩
theorem fl_X11_39 : zFl RX11 39 11 5 := ⟨RX11, TX11, 14, tyX11, rfl, by decide, rfl, inW11, by decide, zIn 292 (by decide +kernel) (by decide +kernel), tyX11_ok, nmX11, by decide +kernel⟩
theorem fl_X11_46 : zFl RX11 46 11 6 := ⟨RX11, TX11, 14, tyX11, rfl, by decide, rfl, inW11, by decide, zIn 293 (by decide +kernel) (by decide +kernel), tyX11_ok, nmX11, by decide +kernel⟩
theorem fl_X11_53 : zFl RX11 53 11 7 := ⟨RX11, TX11, 14, tyX11, rfl, by decide, rfl, inW11, by decide, zIn 294 (by decide +kernel) (by decide +kernel), tyX11_ok, nmX11, by decide +kernel⟩
theorem fl_X11_60 : zFl RX11 60 11 8 := ⟨RX11, TX11, 14, tyX11, rfl, by decide, rfl, inW11, by decide, zIn 295 (by decide +kernel) (by decide +kernel), tyX11_ok, nmX11, by decide +kernel⟩
theorem fl_X11_64 : zFl RX11 64 11 9 := ⟨RX11, TX11, 14, tyX11, rfl, by decide, rfl, inW11, by decide, zIn 296 (by decide +kernel) (by decide +kernel), tyX11_ok, nmX11, by decide +kernel⟩
theorem fl_X11_70 : zFl RX11 70 11 10 := ⟨RX11, TX11, 14, tyX11, rfl, by decide, rfl, inW11, by decide, zIn 297 (by decide +kernel) (by decide +kernel), tyX11_ok, nmX11, by decide +kernel⟩
theorem fl_X11_77 : zFl RX11 77 11 11 := ⟨RX11, TX11, 14, tyX11, rfl, by decide, rfl, inW11, by decide, zIn 298 (by decide +kernel) (by decide +kernel), tyX11_ok, nmX11, by decide +kernel⟩
theorem fl_X11_84 : zFl RX11 84 11 12 := ⟨RX11, TX11, 14, tyX11, rfl, by decide, rfl, inW11, by decide, zIn 299 (by decide +kernel) (by decide +kernel), tyX11_ok, nmX11, by decide +kernel⟩
theorem fl_X11_88 : zFl RX11 88 11 13 := ⟨RX11, TX11, 14, tyX11, rfl, by decide, rfl, inW11, by decide, zIn 300 (by decide +kernel) (by decide +kernel), tyX11_ok, nmX11, by decide +kernel⟩
theorem fl_X0_9 : zFl RX0 9 0 0 := ⟨RX0, TX0, 3, tyX0, rfl, by decide, rfl, inW0, by decide, zIn 202 (by decide +kernel) (by decide +kernel), tyX0_ok, nmX0, by decide +kernel⟩
theorem fl_X0_15 : zFl RX0 15 0 1 := ⟨RX0, TX0, 3, tyX0, rfl, by decide, rfl, inW0, by decide, zIn 203 (by decide +kernel) (by decide +kernel), tyX0_ok, nmX0, by decide +kernel⟩
theorem fl_X0_18 : zFl RX0 18 0 2 := ⟨RX0, TX0, 3, tyX0, rfl, by decide, rfl, inW0, by decide, zIn 204 (by decide +kernel) (by decide +kernel), tyX0_ok, nmX0, by decide +kernel⟩
theorem fl_X1_10 : zFl RX1 10 1 0 := ⟨RX1, TX1, 4, tyX1, rfl, by decide, rfl, inW1, by decide, zIn 224 (by decide +kernel) (by decide +kernel), tyX1_ok, nmX1, by decide +kernel⟩
theorem fl_X1_19 : zFl RX1 19 1 1 := ⟨RX1, TX1, 4, tyX1, rfl, by decide, rfl, inW1, by decide, zIn 225 (by decide +kernel) (by decide +kernel), tyX1_ok, nmX1, by decide +kernel⟩
theorem fl_X1_26 : zFl RX1 26 1 2 := ⟨RX1, TX1, 4, tyX1, rfl, by decide, rfl, inW1, by decide, zIn 226 (by decide +kernel) (by decide +kernel), tyX1_ok, nmX1, by decide +kernel⟩
theorem fl_X1_30 : zFl RX1 30 1 3 := ⟨RX1, TX1, 4, tyX1, rfl, by decide, rfl, inW1, by decide, zIn 227 (by decide +kernel) (by decide +kernel), tyX1_ok, nmX1, by decide +kernel⟩
theorem fl_X2_12 : zFl RX2 12 2 0 := ⟨RX2, TX2, 6, tyX2, rfl, by decide, rfl, inW2, by decide, zIn 116 (by decide +kernel) (by decide +kernel), tyX2_ok, nmX2, by decide +kernel⟩
theorem fl_X2_18 : zFl RX2 18 2 1 := ⟨RX2, TX2, 6, tyX2, rfl, by decide, rfl, inW2, by decide, zIn 117 (by decide +kernel) (by decide +kernel), tyX2_ok, nmX2, by decide +kernel⟩
theorem fl_X2_22 : zFl RX2 22 2 2 := ⟨RX2, TX2, 6, tyX2, rfl, by decide, rfl, inW2, by decide, zIn 118 (by decide +kernel) (by decide +kernel), tyX2_ok, nmX2, by decide +kernel⟩
theorem fl_X2_26 : zFl RX2 26 2 3 := ⟨RX2, TX2, 6, tyX2, rfl, by decide, rfl, inW2, by decide, zIn 119 (by decide +kernel) (by decide +kernel), tyX2_ok, nmX2, by decide +kernel⟩
theorem fl_X2_29 : zFl RX2 29 2 5 := ⟨RX2, TX2, 6, tyX2, rfl, by decide, rfl, inW2, by decide, zIn 121 (by decide +kernel) (by decide +kernel), tyX2_ok, nmX2, by decide +kernel⟩
theorem fl_X2_33 : zFl RX2 33 2 4 := ⟨RX2, TX2, 6, tyX2, rfl, by decide, rfl, inW2, by decide, zIn 120 (by decide +kernel) (by decide +kernel), tyX2_ok, nmX2, by decide +kernel⟩
theorem fl_X3_11 : zFl RX3 11 3 0 := ⟨RX3, TX3, 4, tyX3, rfl, by decide, rfl, inW3, by decide, zIn 183 (by decide +kernel) (by decide +kernel), tyX3_ok, nmX3, by decide +kernel⟩
theorem fl_X3_15 : zFl RX3 15 3 1 := ⟨RX3, TX3, 4, tyX3, rfl, by decide, rfl, inW3, by decide, zIn 184 (by decide +kernel) (by decide +kernel), tyX3_ok, nmX3, by decide +kernel⟩
theorem fl_X3_18 : zFl RX3 18 3 2 := ⟨RX3, TX3, 4, tyX3, rfl, by decide, rfl, inW3, by decide, zIn 185 (by decide +kernel) (by decide +kernel), tyX3_ok, nmX3, by decide +kernel⟩
theorem fl_X3_22 : zFl RX3 22 3 3 := ⟨RX3, TX3, 4, tyX3, rfl, by decide, rfl, inW3, by decide, zIn 186 (by decide +kernel) (by decide +kernel), tyX3_ok, nmX3, by decide +kernel⟩
theorem fl_X4_9 : zFl RX4 9 4 0 := ⟨RX4, TX4, 2, tyX4, rfl, by decide, rfl, inW4, by decide, zIn 154 (by decide +kernel) (by decide +kernel), tyX4_ok, nmX4, by decide +kernel⟩
theorem fl_X4_15 : zFl RX4 15 4 1 := ⟨RX4, TX4, 2, tyX4, rfl, by decide, rfl, inW4, by decide, zIn 155 (by decide +kernel) (by decide +kernel), tyX4_ok, nmX4, by decide +kernel⟩
theorem fl_X5_9 : zFl RX5 9 5 0 := ⟨RX5, TX5, 5, tyX5, rfl, by decide, rfl, inW5, by decide, zIn 100 (by decide +kernel) (by decide +kernel), tyX5_ok, nmX5, by decide +kernel⟩
theorem fl_X5_15 : zFl RX5 15 5 1 := ⟨RX5, TX5, 5, tyX5, rfl, by decide, rfl, inW5, by decide, zIn 101 (by decide +kernel) (by decide +kernel), tyX5_ok, nmX5, by decide +kernel⟩
theorem fl_X5_18 : zFl RX5 18 5 2 := ⟨RX5, TX5, 5, tyX5, rfl, by decide, rfl, inW5, by decide, zIn 102 (by decide +kernel) (by decide +kernel), tyX5_ok, nmX5, by decide +kernel⟩
theorem fl_X5_26 : zFl RX5 26 5 3 := ⟨RX5, TX5, 5, tyX5, rfl, by decide, rfl, inW5, by decide, zIn 103 (by decide +kernel) (by decide +kernel), tyX5_ok, nmX5, by decide +kernel⟩
theorem fl_X5_30 : zFl RX5 30 5 4 := ⟨RX5, TX5, 5, tyX5, rfl, by decide, rfl, inW5, by decide, zIn 104 (by decide +kernel) (by decide +kernel), tyX5_ok, nmX5, by decide +kernel⟩
theorem fl_X6_9 : zFl RX6 9 6 0 := ⟨RX6, TX6, 3, tyX6, rfl, by decide, rfl, inW6, by decide, zIn 167 (by decide +kernel) (by decide +kernel), tyX6_ok, nmX6, by decide +kernel⟩
theorem fl_X6_15 : zFl RX6 15 6 1 := ⟨RX6, TX6, 3, tyX6, rfl, by decide, rfl, inW6, by decide, zIn 168 (by decide +kernel) (by decide +kernel), tyX6_ok, nmX6, by decide +kernel⟩
theorem fl_X6_23 : zFl RX6 23 6 2 := ⟨RX6, TX6, 3, tyX6, rfl, by decide, rfl, inW6, by decide, zIn 169 (by decide +kernel) (by decide +kernel), tyX6_ok, nmX6, by decide +kernel⟩
theorem fl_X7_9 : zFl RX7 9 7 0 := ⟨RX7, TX7, 10, tyX7, rfl, by decide, rfl, inW7, by decide, zIn 57 (by decide +kernel) (by decide +kernel), tyX7_ok, nmX7, by decide +kernel⟩
theorem fl_X7_15 : zFl RX7 15 7 1 := ⟨RX7, TX7, 10, tyX7, rfl, by decide, rfl, inW7, by decide, zIn 58 (by decide +kernel) (by decide +kernel), tyX7_ok, nmX7, by decide +kernel⟩
theorem fl_X7_18 : zFl RX7 18 7 2 := ⟨RX7, TX7, 10, tyX7, rfl, by decide, rfl, inW7, by decide, zIn 59 (by decide +kernel) (by decide +kernel), tyX7_ok, nmX7, by decide +kernel⟩
theorem fl_X7_21 : zFl RX7 21 7 3 := ⟨RX7, TX7, 10, tyX7, rfl, by decide, rfl, inW7, by decide, zIn 60 (by decide +kernel) (by decide +kernel), tyX7_ok, nmX7, by decide +kernel⟩
theorem fl_X7_24 : zFl RX7 24 7 5 := ⟨RX7, TX7, 10, tyX7, rfl, by decide, rfl, inW7, by decide, zIn 62 (by decide +kernel) (by decide +kernel), tyX7_ok, nmX7, by decide +kernel⟩
theorem fl_X7_27 : zFl RX7 27 7 6 := ⟨RX7, TX7, 10, tyX7, rfl, by decide, rfl, inW7, by decide, zIn 63 (by decide +kernel) (by decide +kernel), tyX7_ok, nmX7, by decide +kernel⟩
theorem fl_X7_30 : zFl RX7 30 7 7 := ⟨RX7, TX7, 10, tyX7, rfl, by decide, rfl, inW7, by decide, zIn 64 (by decide +kernel) (by decide +kernel), tyX7_ok, nmX7, by decide +kernel⟩
theorem fl_X7_34 : zFl RX7 34 7 8 := ⟨RX7, TX7, 10, tyX7, rfl, by decide, rfl, inW7, by decide, zIn 65 (by decide +kernel) (by decide +kernel), tyX7_ok, nmX7, by decide +kernel⟩
theorem fl_X7_37 : zFl RX7 37 7 4 := ⟨RX7, TX7, 10, tyX7, rfl, by decide, rfl, inW7, by decide, zIn 61 (by decide +kernel) (by decide +kernel), tyX7_ok, nmX7, by decide +kernel⟩
theorem fl_X7_45 : zFl RX7 45 7 9 := ⟨RX7, TX7, 10, tyX7, rfl, by decide, rfl, inW7, by decide, zIn 66 (by decide +kernel) (by decide +kernel), tyX7_ok, nmX7, by decide +kernel⟩
theorem fl_X8_9 : zFl RX8 9 8 0 := ⟨RX8, TX8, 2, tyX8, rfl, by decide, rfl, inW8, by decide, zIn 141 (by decide +kernel) (by decide +kernel), tyX8_ok, nmX8, by decide +kernel⟩
theorem fl_X8_15 : zFl RX8 15 8 1 := ⟨RX8, TX8, 2, tyX8, rfl, by decide, rfl, inW8, by decide, zIn 142 (by decide +kernel) (by decide +kernel), tyX8_ok, nmX8, by decide +kernel⟩
theorem fl_X9_11 : zFl RX9 11 9 0 := ⟨RX9, TX9, 2, tyX9, rfl, by decide, rfl, inW9, by decide, zIn 43 (by decide +kernel) (by decide +kernel), tyX9_ok, nmX9, by decide +kernel⟩
theorem fl_X9_15 : zFl RX9 15 9 1 := ⟨RX9, TX9, 2, tyX9, rfl, by decide, rfl, inW9, by decide, zIn 44 (by decide +kernel) (by decide +kernel), tyX9_ok, nmX9, by decide +kernel⟩
theorem fl_X10_9 : zFl RX10 9 10 0 := ⟨RX10, TX10, 2, tyX10, rfl, by decide, rfl, inW10, by decide, zIn 29 (by decide +kernel) (by decide +kernel), tyX10_ok, nmX10, by decide +kernel⟩
theorem fl_X10_15 : zFl RX10 15 10 1 := ⟨RX10, TX10, 2, tyX10, rfl, by decide, rfl, inW10, by decide, zIn 30 (by decide +kernel) (by decide +kernel), tyX10_ok, nmX10, by decide +kernel⟩
theorem fl_X12_7 : zFl RX12 7 12 0 := ⟨RX12, TX12, 39, tyX12, rfl, by decide, rfl, inW12, by decide, zIn 922 (by decide +kernel) (by decide +kernel), tyX12_ok, nmX12, by decide +kernel⟩
theorem fl_X12_13 : zFl RX12 13 12 1 := ⟨RX12, TX12, 39, tyX12, rfl, by decide, rfl, inW12, by decide, zIn 923 (by decide +kernel) (by decide +kernel), tyX12_ok, nmX12, by decide +kernel⟩
theorem fl_X12_16 : zFl RX12 16 12 2 := ⟨RX12, TX12, 39, tyX12, rfl, by decide, rfl, inW12, by decide, zIn 924 (by decide +kernel) (by decide +kernel), tyX12_ok, nmX12, by decide +kernel⟩
theorem fl_X12_19 : zFl RX12 19 12 3 := ⟨RX12, TX12, 39, tyX12, rfl, by decide, rfl, inW12, by decide, zIn 925 (by decide +kernel) (by decide +kernel), tyX12_ok, nmX12, by decide +kernel⟩
theorem fl_X12_22 : zFl RX12 22 12 4 := ⟨RX12, TX12, 39, tyX12, rfl, by decide, rfl, inW12, by decide, zIn 926 (by decide +kernel) (by decide +kernel), tyX12_ok, nmX12, by decide +kernel⟩
theorem fl_X12_25 : zFl RX12 25 12 5 := ⟨RX12, TX12, 39, tyX12, rfl, by decide, rfl, inW12, by decide, zIn 927 (by decide +kernel) (by decide +kernel), tyX12_ok, nmX12, by decide +kernel⟩
theorem fl_X12_28 : zFl RX12 28 12 6 := ⟨RX12, TX12, 39, tyX12, rfl, by decide, rfl, inW12, by decide, zIn 928 (by decide +kernel) (by decide +kernel), tyX12_ok, nmX12, by decide +kernel⟩
theorem fl_X12_31 : zFl RX12 31 12 7 := ⟨RX12, TX12, 39, tyX12, rfl, by decide, rfl, inW12, by decide, zIn 929 (by decide +kernel) (by decide +kernel), tyX12_ok, nmX12, by decide +kernel⟩
theorem fl_X12_34 : zFl RX12 34 12 8 := ⟨RX12, TX12, 39, tyX12, rfl, by decide, rfl, inW12, by decide, zIn 930 (by decide +kernel) (by decide +kernel), tyX12_ok, nmX12, by decide +kernel⟩
theorem fl_X12_37 : zFl RX12 37 12 9 := ⟨RX12, TX12, 39, tyX12, rfl, by decide, rfl, inW12, by decide, zIn 931 (by decide +kernel) (by decide +kernel), tyX12_ok, nmX12, by decide +kernel⟩
theorem fl_X12_40 : zFl RX12 40 12 18 := ⟨RX12, TX12, 39, tyX12, rfl, by decide, rfl, inW12, by decide, zIn 940 (by decide +kernel) (by decide +kernel), tyX12_ok, nmX12, by decide +kernel⟩
theorem fl_X12_44 : zFl RX12 44 12 19 := ⟨RX12, TX12, 39, tyX12, rfl, by decide, rfl, inW12, by decide, zIn 941 (by decide +kernel) (by decide +kernel), tyX12_ok, nmX12, by decide +kernel⟩
theorem fl_X12_47 : zFl RX12 47 12 20 := ⟨RX12, TX12, 39, tyX12, rfl, by decide, rfl, inW12, by decide, zIn 942 (by decide +kernel) (by decide +kernel), tyX12_ok, nmX12, by decide +kernel⟩
theorem fl_X12_50 : zFl RX12 50 12 21 := ⟨RX12, TX12, 39, tyX12, rfl, by decide, rfl, inW12, by decide, zIn 943 (by decide +kernel) (by decide +kernel), tyX12_ok, nmX12, by decide +kernel⟩
theorem fl_X12_53 : zFl RX12 53 12 22 := ⟨RX12, TX12, 39, tyX12, rfl, by decide, rfl, inW12, by decide, zIn 944 (by decide +kernel) (by decide +kernel), tyX12_ok, nmX12, by decide +kernel⟩
theorem fl_X12_56 : zFl RX12 56 12 23 := ⟨RX12, TX12, 39, tyX12, rfl, by decide, rfl, inW12, by decide, zIn 945 (by decide +kernel) (by decide +kernel), tyX12_ok, nmX12, by decide +kernel⟩
theorem fl_X12_59 : zFl RX12 59 12 24 := ⟨RX12, TX12, 39, tyX12, rfl, by decide, rfl, inW12, by decide, zIn 946 (by decide +kernel) (by decide +kernel), tyX12_ok, nmX12, by decide +kernel⟩
theorem fl_X12_62 : zFl RX12 62 12 25 := ⟨RX12, TX12, 39, tyX12, rfl, by decide, rfl, inW12, by decide, zIn 947 (by decide +kernel) (by decide +kernel), tyX12_ok, nmX12, by decide +kernel⟩
theorem fl_X12_65 : zFl RX12 65 12 28 := ⟨RX12, TX12, 39, tyX12, rfl, by decide, rfl, inW12, by decide, zIn 950 (by decide +kernel) (by decide +kernel), tyX12_ok, nmX12, by decide +kernel⟩
theorem fl_X12_69 : zFl RX12 69 12 32 := ⟨RX12, TX12, 39, tyX12, rfl, by decide, rfl, inW12, by decide, zIn 954 (by decide +kernel) (by decide +kernel), tyX12_ok, nmX12, by decide +kernel⟩
theorem fl_X12_72 : zFl RX12 72 12 33 := ⟨RX12, TX12, 39, tyX12, rfl, by decide, rfl, inW12, by decide, zIn 955 (by decide +kernel) (by decide +kernel), tyX12_ok, nmX12, by decide +kernel⟩
theorem fl_X12_75 : zFl RX12 75 12 35 := ⟨RX12, TX12, 39, tyX12, rfl, by decide, rfl, inW12, by decide, zIn 957 (by decide +kernel) (by decide +kernel), tyX12_ok, nmX12, by decide +kernel⟩
theorem fl_X12_79 : zFl RX12 79 12 36 := ⟨RX12, TX12, 39, tyX12, rfl, by decide, rfl, inW12, by decide, zIn 958 (by decide +kernel) (by decide +kernel), tyX12_ok, nmX12, by decide +kernel⟩
theorem fl_X12_82 : zFl RX12 82 12 38 := ⟨RX12, TX12, 39, tyX12, rfl, by decide, rfl, inW12, by decide, zIn 960 (by decide +kernel) (by decide +kernel), tyX12_ok, nmX12, by decide +kernel⟩
theorem fl_X12_85 : zFl RX12 85 12 10 := ⟨RX12, TX12, 39, tyX12, rfl, by decide, rfl, inW12, by decide, zIn 932 (by decide +kernel) (by decide +kernel), tyX12_ok, nmX12, by decide +kernel⟩
theorem fl_X12_95 : zFl RX12 95 12 11 := ⟨RX12, TX12, 39, tyX12, rfl, by decide, rfl, inW12, by decide, zIn 933 (by decide +kernel) (by decide +kernel), tyX12_ok, nmX12, by decide +kernel⟩
theorem fl_X12_125 : zFl RX12 125 12 30 := ⟨RX12, TX12, 39, tyX12, rfl, by decide, rfl, inW12, by decide, zIn 952 (by decide +kernel) (by decide +kernel), tyX12_ok, nmX12, by decide +kernel⟩
theorem fl_X12_129 : zFl RX12 129 12 26 := ⟨RX12, TX12, 39, tyX12, rfl, by decide, rfl, inW12, by decide, zIn 948 (by decide +kernel) (by decide +kernel), tyX12_ok, nmX12, by decide +kernel⟩
theorem fl_X12_132 : zFl RX12 132 12 27 := ⟨RX12, TX12, 39, tyX12, rfl, by decide, rfl, inW12, by decide, zIn 949 (by decide +kernel) (by decide +kernel), tyX12_ok, nmX12, by decide +kernel⟩
theorem fl_X12_139 : zFl RX12 139 12 31 := ⟨RX12, TX12, 39, tyX12, rfl, by decide, rfl, inW12, by decide, zIn 953 (by decide +kernel) (by decide +kernel), tyX12_ok, nmX12, by decide +kernel⟩
theorem fl_X12_170 : zFl RX12 170 12 29 := ⟨RX12, TX12, 39, tyX12, rfl, by decide, rfl, inW12, by decide, zIn 951 (by decide +kernel) (by decide +kernel), tyX12_ok, nmX12, by decide +kernel⟩
theorem fl_X12_185 : zFl RX12 185 12 34 := ⟨RX12, TX12, 39, tyX12, rfl, by decide, rfl, inW12, by decide, zIn 956 (by decide +kernel) (by decide +kernel), tyX12_ok, nmX12, by decide +kernel⟩
theorem fl_X12_191 : zFl RX12 191 12 12 := ⟨RX12, TX12, 39, tyX12, rfl, by decide, rfl, inW12, by decide, zIn 934 (by decide +kernel) (by decide +kernel), tyX12_ok, nmX12, by decide +kernel⟩
theorem fl_X12_194 : zFl RX12 194 12 37 := ⟨RX12, TX12, 39, tyX12, rfl, by decide, rfl, inW12, by decide, zIn 959 (by decide +kernel) (by decide +kernel), tyX12_ok, nmX12, by decide +kernel⟩
theorem fl_X12_223 : zFl RX12 223 12 13 := ⟨RX12, TX12, 39, tyX12, rfl, by decide, rfl, inW12, by decide, zIn 935 (by decide +kernel) (by decide +kernel), tyX12_ok, nmX12, by decide +kernel⟩
theorem fl_X12_230 : zFl RX12 230 12 14 := ⟨RX12, TX12, 39, tyX12, rfl, by decide, rfl, inW12, by decide, zIn 936 (by decide +kernel) (by decide +kernel), tyX12_ok, nmX12, by decide +kernel⟩
theorem fl_X12_233 : zFl RX12 233 12 15 := ⟨RX12, TX12, 39, tyX12, rfl, by decide, rfl, inW12, by decide, zIn 937 (by decide +kernel) (by decide +kernel), tyX12_ok, nmX12, by decide +kernel⟩
theorem fl_X12_236 : zFl RX12 236 12 16 := ⟨RX12, TX12, 39, tyX12, rfl, by decide, rfl, inW12, by decide, zIn 938 (by decide +kernel) (by decide +kernel), tyX12_ok, nmX12, by decide +kernel⟩
theorem fl_X12_239 : zFl RX12 239 12 17 := ⟨RX12, TX12, 39, tyX12, rfl, by decide, rfl, inW12, by decide, zIn 939 (by decide +kernel) (by decide +kernel), tyX12_ok, nmX12, by decide +kernel⟩
theorem mv_X11_feed : zMv yX11_feed cX11_feed 5 (Option.some FieldType.int) 2 := ⟨zIn 333 (by decide +kernel) (by decide +kernel), zIn 1 (by decide +kernel) (by decide +kernel), zIn 331 (by decide +kernel) (by decide +kernel), zIn 332 (by decide +kernel) (by decide +kernel), by decide +kernel, by decide +kernel, by decide +kernel⟩
theorem mv_X11_read : zMv yX11_read cX11_read 2 (Option.some FieldType.int) 0 := ⟨zIn 345 (by decide +kernel) (by decide +kernel), zIn 1 (by decide +kernel) (by decide +kernel), zIn 343 (by decide +kernel) (by decide +kernel), zIn 344 (by decide +kernel) (by decide +kernel), by decide +kernel, by decide +kernel, by decide +kernel⟩
theorem mv_X11_wordAt : zMv yX11_wordAt cX11_wordAt 2 (Option.some FieldType.int) 1 := ⟨zIn 374 (by decide +kernel) (by decide +kernel), zIn 1 (by decide +kernel) (by decide +kernel), zIn 372 (by decide +kernel) (by decide +kernel), zIn 373 (by decide +kernel) (by decide +kernel), by decide +kernel, by decide +kernel, by decide +kernel⟩
theorem mv_X11_readings : zMv yX11_readings cX11_readings 1 (Option.some FieldType.long) 0 := ⟨zIn 379 (by decide +kernel) (by decide +kernel), zIn 1 (by decide +kernel) (by decide +kernel), zIn 377 (by decide +kernel) (by decide +kernel), zIn 378 (by decide +kernel) (by decide +kernel), by decide +kernel, by decide +kernel, by decide +kernel⟩
theorem mv_X11_nodes : zMv yX11_nodes cX11_nodes 2 (Option.some FieldType.int) 1 := ⟨zIn 384 (by decide +kernel) (by decide +kernel), zIn 1 (by decide +kernel) (by decide +kernel), zIn 382 (by decide +kernel) (by decide +kernel), zIn 383 (by decide +kernel) (by decide +kernel), by decide +kernel, by decide +kernel, by decide +kernel⟩
theorem mv_X11_node : zMv yX11_node cX11_node 4 (Option.some FieldType.int) 3 := ⟨zIn 523 (by decide +kernel) (by decide +kernel), zIn 1 (by decide +kernel) (by decide +kernel), zIn 521 (by decide +kernel) (by decide +kernel), zIn 522 (by decide +kernel) (by decide +kernel), by decide +kernel, by decide +kernel, by decide +kernel⟩
theorem mv_X11_means : zMv yX11_means cX11_means 2 (Option.some FieldType.long) 1 := ⟨zIn 530 (by decide +kernel) (by decide +kernel), zIn 1 (by decide +kernel) (by decide +kernel), zIn 528 (by decide +kernel) (by decide +kernel), zIn 529 (by decide +kernel) (by decide +kernel), by decide +kernel, by decide +kernel, by decide +kernel⟩
theorem mv_X11_lets : zMv yX11_lets cX11_lets 3 (Option.some FieldType.int) 2 := ⟨zIn 539 (by decide +kernel) (by decide +kernel), zIn 1 (by decide +kernel) (by decide +kernel), zIn 537 (by decide +kernel) (by decide +kernel), zIn 538 (by decide +kernel) (by decide +kernel), by decide +kernel, by decide +kernel, by decide +kernel⟩
theorem mv_X11_map : zMv yX11_map cX11_map 2 (Option.some FieldType.int) 1 := ⟨zIn 549 (by decide +kernel) (by decide +kernel), zIn 1 (by decide +kernel) (by decide +kernel), zIn 547 (by decide +kernel) (by decide +kernel), zIn 548 (by decide +kernel) (by decide +kernel), by decide +kernel, by decide +kernel, by decide +kernel⟩
theorem mv_X11_all : zMv yX11_all cX11_all 2 (Option.some FieldType.long) 1 := ⟨zIn 559 (by decide +kernel) (by decide +kernel), zIn 1 (by decide +kernel) (by decide +kernel), zIn 557 (by decide +kernel) (by decide +kernel), zIn 558 (by decide +kernel) (by decide +kernel), by decide +kernel, by decide +kernel, by decide +kernel⟩
theorem mv_X11_same : zMv yX11_same cX11_same 3 (Option.some FieldType.int) 2 := ⟨zIn 573 (by decide +kernel) (by decide +kernel), zIn 1 (by decide +kernel) (by decide +kernel), zIn 571 (by decide +kernel) (by decide +kernel), zIn 572 (by decide +kernel) (by decide +kernel), by decide +kernel, by decide +kernel, by decide +kernel⟩
theorem mv_X11_unlike : zMv yX11_unlike cX11_unlike 1 (Option.some FieldType.int) 0 := ⟨zIn 577 (by decide +kernel) (by decide +kernel), zIn 1 (by decide +kernel) (by decide +kernel), zIn 575 (by decide +kernel) (by decide +kernel), zIn 576 (by decide +kernel) (by decide +kernel), by decide +kernel, by decide +kernel, by decide +kernel⟩
theorem mv_X11_part : zMv yX11_part cX11_part 3 (Option.some FieldType.int) 2 := ⟨zIn 597 (by decide +kernel) (by decide +kernel), zIn 1 (by decide +kernel) (by decide +kernel), zIn 595 (by decide +kernel) (by decide +kernel), zIn 596 (by decide +kernel) (by decide +kernel), by decide +kernel, by decide +kernel, by decide +kernel⟩
theorem mv_X11_idle : zMv yX11_idle cX11_idle 2 (Option.some FieldType.int) 1 := ⟨zIn 604 (by decide +kernel) (by decide +kernel), zIn 1 (by decide +kernel) (by decide +kernel), zIn 602 (by decide +kernel) (by decide +kernel), zIn 603 (by decide +kernel) (by decide +kernel), by decide +kernel, by decide +kernel, by decide +kernel⟩
theorem mv_X11_needless : zMv yX11_needless cX11_needless 1 (Option.some FieldType.int) 0 := ⟨zIn 613 (by decide +kernel) (by decide +kernel), zIn 1 (by decide +kernel) (by decide +kernel), zIn 611 (by decide +kernel) (by decide +kernel), zIn 612 (by decide +kernel) (by decide +kernel), by decide +kernel, by decide +kernel, by decide +kernel⟩
theorem mv_X11_meets : zMv yX11_meets cX11_meets 3 (Option.some FieldType.int) 2 := ⟨zIn 622 (by decide +kernel) (by decide +kernel), zIn 1 (by decide +kernel) (by decide +kernel), zIn 620 (by decide +kernel) (by decide +kernel), zIn 621 (by decide +kernel) (by decide +kernel), by decide +kernel, by decide +kernel, by decide +kernel⟩
theorem mv_X11_choose : zMv yX11_choose cX11_choose 2 (Option.some FieldType.int) 1 := ⟨zIn 633 (by decide +kernel) (by decide +kernel), zIn 1 (by decide +kernel) (by decide +kernel), zIn 631 (by decide +kernel) (by decide +kernel), zIn 632 (by decide +kernel) (by decide +kernel), by decide +kernel, by decide +kernel, by decide +kernel⟩
theorem mv_X11_unchoose : zMv yX11_unchoose cX11_unchoose 2 (Option.some FieldType.int) 0 := ⟨zIn 655 (by decide +kernel) (by decide +kernel), zIn 1 (by decide +kernel) (by decide +kernel), zIn 653 (by decide +kernel) (by decide +kernel), zIn 654 (by decide +kernel) (by decide +kernel), by decide +kernel, by decide +kernel, by decide +kernel⟩
theorem mv_X11_leftOver : zMv yX11_leftOver cX11_leftOver 2 (Option.some FieldType.int) 1 := ⟨zIn 663 (by decide +kernel) (by decide +kernel), zIn 1 (by decide +kernel) (by decide +kernel), zIn 661 (by decide +kernel) (by decide +kernel), zIn 662 (by decide +kernel) (by decide +kernel), by decide +kernel, by decide +kernel, by decide +kernel⟩
theorem mv_X11_passedOver : zMv yX11_passedOver cX11_passedOver 1 (Option.some FieldType.int) 0 := ⟨zIn 690 (by decide +kernel) (by decide +kernel), zIn 1 (by decide +kernel) (by decide +kernel), zIn 688 (by decide +kernel) (by decide +kernel), zIn 689 (by decide +kernel) (by decide +kernel), by decide +kernel, by decide +kernel, by decide +kernel⟩
theorem mv_X11_quarrel : zMv yX11_quarrel cX11_quarrel 3 (Option.some FieldType.int) 2 := ⟨zIn 698 (by decide +kernel) (by decide +kernel), zIn 1 (by decide +kernel) (by decide +kernel), zIn 696 (by decide +kernel) (by decide +kernel), zIn 697 (by decide +kernel) (by decide +kernel), by decide +kernel, by decide +kernel, by decide +kernel⟩
theorem mv_X11_hangs : zMv yX11_hangs cX11_hangs 3 (Option.some FieldType.int) 0 := ⟨zIn 707 (by decide +kernel) (by decide +kernel), zIn 1 (by decide +kernel) (by decide +kernel), zIn 705 (by decide +kernel) (by decide +kernel), zIn 706 (by decide +kernel) (by decide +kernel), by decide +kernel, by decide +kernel, by decide +kernel⟩
theorem mv_X11_test : zMv yX11_test cX11_test 1 (Option.some FieldType.int) 0 := ⟨zIn 715 (by decide +kernel) (by decide +kernel), zIn 1 (by decide +kernel) (by decide +kernel), zIn 713 (by decide +kernel) (by decide +kernel), zIn 714 (by decide +kernel) (by decide +kernel), by decide +kernel, by decide +kernel, by decide +kernel⟩
theorem mv_X11_fewest : zMv yX11_fewest cX11_fewest 1 (Option.some FieldType.int) 0 := ⟨zIn 727 (by decide +kernel) (by decide +kernel), zIn 1 (by decide +kernel) (by decide +kernel), zIn 725 (by decide +kernel) (by decide +kernel), zIn 726 (by decide +kernel) (by decide +kernel), by decide +kernel, by decide +kernel, by decide +kernel⟩
theorem mv_X11_bracket : zMv yX11_bracket cX11_bracket 3 (Option.some FieldType.int) 2 := ⟨zIn 744 (by decide +kernel) (by decide +kernel), zIn 1 (by decide +kernel) (by decide +kernel), zIn 742 (by decide +kernel) (by decide +kernel), zIn 743 (by decide +kernel) (by decide +kernel), by decide +kernel, by decide +kernel, by decide +kernel⟩
theorem mv_X11_mend : zMv yX11_mend cX11_mend 3 (Option.some FieldType.int) 1 := ⟨zIn 759 (by decide +kernel) (by decide +kernel), zIn 1 (by decide +kernel) (by decide +kernel), zIn 757 (by decide +kernel) (by decide +kernel), zIn 758 (by decide +kernel) (by decide +kernel), by decide +kernel, by decide +kernel, by decide +kernel⟩
theorem mv_X11_aim : zMv yX11_aim cX11_aim 3 (Option.some FieldType.int) 2 := ⟨zIn 785 (by decide +kernel) (by decide +kernel), zIn 1 (by decide +kernel) (by decide +kernel), zIn 783 (by decide +kernel) (by decide +kernel), zIn 784 (by decide +kernel) (by decide +kernel), by decide +kernel, by decide +kernel, by decide +kernel⟩
theorem mv_X11_serves : zMv yX11_serves cX11_serves 2 (Option.some FieldType.int) 1 := ⟨zIn 798 (by decide +kernel) (by decide +kernel), zIn 1 (by decide +kernel) (by decide +kernel), zIn 796 (by decide +kernel) (by decide +kernel), zIn 797 (by decide +kernel) (by decide +kernel), by decide +kernel, by decide +kernel, by decide +kernel⟩
theorem mv_X11_best : zMv yX11_best cX11_best 3 (Option.some FieldType.int) 0 := ⟨zIn 809 (by decide +kernel) (by decide +kernel), zIn 1 (by decide +kernel) (by decide +kernel), zIn 807 (by decide +kernel) (by decide +kernel), zIn 808 (by decide +kernel) (by decide +kernel), by decide +kernel, by decide +kernel, by decide +kernel⟩
theorem mv_X11_image : zMv yX11_image cX11_image 1 (Option.some FieldType.int) 0 := ⟨zIn 813 (by decide +kernel) (by decide +kernel), zIn 1 (by decide +kernel) (by decide +kernel), zIn 811 (by decide +kernel) (by decide +kernel), zIn 812 (by decide +kernel) (by decide +kernel), by decide +kernel, by decide +kernel, by decide +kernel⟩
theorem mv_X11_on : zMv yX11_on cX11_on 1 (Option.some FieldType.int) 0 := ⟨zIn 833 (by decide +kernel) (by decide +kernel), zIn 1 (by decide +kernel) (by decide +kernel), zIn 831 (by decide +kernel) (by decide +kernel), zIn 832 (by decide +kernel) (by decide +kernel), by decide +kernel, by decide +kernel, by decide +kernel⟩
theorem mv_X11_count : zMv yX11_count cX11_count 2 (Option.some FieldType.int) 1 := ⟨zIn 855 (by decide +kernel) (by decide +kernel), zIn 1 (by decide +kernel) (by decide +kernel), zIn 853 (by decide +kernel) (by decide +kernel), zIn 854 (by decide +kernel) (by decide +kernel), by decide +kernel, by decide +kernel, by decide +kernel⟩
theorem mv_X11_refuse : zMv yX11_refuse cX11_refuse 2 (Option.some FieldType.int) 1 := ⟨zIn 337 (by decide +kernel) (by decide +kernel), zIn 1 (by decide +kernel) (by decide +kernel), zIn 336 (by decide +kernel) (by decide +kernel), zInP 2 (by decide +kernel) (by decide +kernel), by decide +kernel, by decide +kernel, by decide +kernel⟩
theorem mv_X11_takeSentence : zMv yX11_takeSentence cX11_takeSentence 2 (Option.none : Option FieldType) 1 := ⟨zIn 356 (by decide +kernel) (by decide +kernel), zIn 1 (by decide +kernel) (by decide +kernel), zIn 355 (by decide +kernel) (by decide +kernel), zInP 3 (by decide +kernel) (by decide +kernel), by decide +kernel, by decide +kernel, by decide +kernel⟩
theorem mv_X11_spent : zMv yX11_spent cX11_spent 3 (Option.some FieldType.boolean) 0 := ⟨zIn 388 (by decide +kernel) (by decide +kernel), zIn 1 (by decide +kernel) (by decide +kernel), zIn 387 (by decide +kernel) (by decide +kernel), zInP 4 (by decide +kernel) (by decide +kernel), by decide +kernel, by decide +kernel, by decide +kernel⟩
theorem mv_X11_noReading : zMv yX11_noReading cX11_noReading 2 (Option.some FieldType.boolean) 1 := ⟨zIn 513 (by decide +kernel) (by decide +kernel), zIn 1 (by decide +kernel) (by decide +kernel), zIn 512 (by decide +kernel) (by decide +kernel), zInP 14 (by decide +kernel) (by decide +kernel), by decide +kernel, by decide +kernel, by decide +kernel⟩
theorem mv_X11_noCase : zMs yX11_noCase cX11_noCase 1 (Option.some FieldType.boolean) 1 := ⟨zIn 542 (by decide +kernel) (by decide +kernel), zIn 1 (by decide +kernel) (by decide +kernel), zIn 541 (by decide +kernel) (by decide +kernel), by decide +kernel, by decide +kernel, by decide +kernel⟩
theorem mv_X11_noRule : zMs yX11_noRule cX11_noRule 1 (Option.some FieldType.boolean) 1 := ⟨zIn 625 (by decide +kernel) (by decide +kernel), zIn 1 (by decide +kernel) (by decide +kernel), zIn 624 (by decide +kernel) (by decide +kernel), by decide +kernel, by decide +kernel, by decide +kernel⟩
theorem mv_X11_kindOf : zMs yX11_kindOf cX11_kindOf 1 (Option.some FieldType.int) 1 := ⟨zIn 265 (by decide +kernel) (by decide +kernel), zIn 1 (by decide +kernel) (by decide +kernel), zIn 264 (by decide +kernel) (by decide +kernel), by decide +kernel, by decide +kernel, by decide +kernel⟩
theorem mv_X11_casesOf : zMs yX11_casesOf cX11_casesOf 1 (Option.some FieldType.long) 1 := ⟨zIn 464 (by decide +kernel) (by decide +kernel), zIn 1 (by decide +kernel) (by decide +kernel), zIn 463 (by decide +kernel) (by decide +kernel), by decide +kernel, by decide +kernel, by decide +kernel⟩
theorem mv_X11_isJoin : zMs yX11_isJoin cX11_isJoin 1 (Option.some FieldType.boolean) 1 := ⟨zIn 286 (by decide +kernel) (by decide +kernel), zIn 1 (by decide +kernel) (by decide +kernel), zIn 285 (by decide +kernel) (by decide +kernel), by decide +kernel, by decide +kernel, by decide +kernel⟩
theorem mv_X11_bit : zMs yX11_bit cX11_bit 3 (Option.some FieldType.int) 2 := ⟨zIn 545 (by decide +kernel) (by decide +kernel), zIn 1 (by decide +kernel) (by decide +kernel), zIn 544 (by decide +kernel) (by decide +kernel), by decide +kernel, by decide +kernel, by decide +kernel⟩
theorem mv_X11_leastCase : zMs yX11_leastCase cX11_leastCase 3 (Option.some FieldType.int) 1 := ⟨zIn 600 (by decide +kernel) (by decide +kernel), zIn 1 (by decide +kernel) (by decide +kernel), zIn 599 (by decide +kernel) (by decide +kernel), by decide +kernel, by decide +kernel, by decide +kernel⟩
theorem mv_X11_look : zMs yX11_look cX11_look 2 (Option.some FieldType.int) 2 := ⟨zIn 258 (by decide +kernel) (by decide +kernel), zIn 1 (by decide +kernel) (by decide +kernel), zIn 257 (by decide +kernel) (by decide +kernel), by decide +kernel, by decide +kernel, by decide +kernel⟩
theorem mv_X11_look_ : zMs yX11_look_ cX11_look_ 2 (Option.some FieldType.long) 2 := ⟨zIn 276 (by decide +kernel) (by decide +kernel), zIn 1 (by decide +kernel) (by decide +kernel), zIn 275 (by decide +kernel) (by decide +kernel), by decide +kernel, by decide +kernel, by decide +kernel⟩
theorem mv_X11_put : zMs yX11_put cX11_put 3 (Option.none : Option FieldType) 3 := ⟨zIn 243 (by decide +kernel) (by decide +kernel), zIn 1 (by decide +kernel) (by decide +kernel), zIn 242 (by decide +kernel) (by decide +kernel), by decide +kernel, by decide +kernel, by decide +kernel⟩
theorem mv_X11_put_ : zMs yX11_put_ cX11_put_ 4 (Option.none : Option FieldType) 3 := ⟨zIn 279 (by decide +kernel) (by decide +kernel), zIn 1 (by decide +kernel) (by decide +kernel), zIn 278 (by decide +kernel) (by decide +kernel), by decide +kernel, by decide +kernel, by decide +kernel⟩
theorem mv_X12_refuse : zMv yX12_refuse cX12_refuse 2 (Option.some FieldType.int) 1 := ⟨zIn 1048 (by decide +kernel) (by decide +kernel), zIn 13 (by decide +kernel) (by decide +kernel), zIn 1047 (by decide +kernel) (by decide +kernel), zInP 30 (by decide +kernel) (by decide +kernel), by decide +kernel, by decide +kernel, by decide +kernel⟩
theorem mv_X12_isIn : zMs yX12_isIn cX12_isIn 2 (Option.some FieldType.boolean) 2 := ⟨zIn 1063 (by decide +kernel) (by decide +kernel), zIn 13 (by decide +kernel) (by decide +kernel), zIn 1062 (by decide +kernel) (by decide +kernel), by decide +kernel, by decide +kernel, by decide +kernel⟩
theorem mv_X12_within : zMs yX12_within cX12_within 3 (Option.some FieldType.int) 3 := ⟨zIn 1199 (by decide +kernel) (by decide +kernel), zIn 13 (by decide +kernel) (by decide +kernel), zIn 1198 (by decide +kernel) (by decide +kernel), by decide +kernel, by decide +kernel, by decide +kernel⟩
theorem mv_X12_feed : zMv yX12_feed cX12_feed 5 (Option.some FieldType.int) 2 := ⟨zIn 1044 (by decide +kernel) (by decide +kernel), zIn 13 (by decide +kernel) (by decide +kernel), zIn 1042 (by decide +kernel) (by decide +kernel), zIn 1043 (by decide +kernel) (by decide +kernel), by decide +kernel, by decide +kernel, by decide +kernel⟩
theorem mv_X12_isLetter : zMs yX12_isLetter cX12_isLetter 1 (Option.some FieldType.boolean) 1 := ⟨zIn 883 (by decide +kernel) (by decide +kernel), zIn 13 (by decide +kernel) (by decide +kernel), zIn 882 (by decide +kernel) (by decide +kernel), by decide +kernel, by decide +kernel, by decide +kernel⟩
theorem mv_X12_kindOf : zMs yX12_kindOf cX12_kindOf 1 (Option.some FieldType.int) 1 := ⟨zIn 894 (by decide +kernel) (by decide +kernel), zIn 13 (by decide +kernel) (by decide +kernel), zIn 893 (by decide +kernel) (by decide +kernel), by decide +kernel, by decide +kernel, by decide +kernel⟩
theorem mv_X12_fault : zMs yX12_fault cX12_fault 6 (Option.some FieldType.int) 2 := ⟨zIn 1056 (by decide +kernel) (by decide +kernel), zIn 13 (by decide +kernel) (by decide +kernel), zIn 1055 (by decide +kernel) (by decide +kernel), by decide +kernel, by decide +kernel, by decide +kernel⟩
theorem mv_X12_read : zMv yX12_read cX12_read 4 (Option.some FieldType.int) 0 := ⟨zIn 1053 (by decide +kernel) (by decide +kernel), zIn 13 (by decide +kernel) (by decide +kernel), zIn 1051 (by decide +kernel) (by decide +kernel), zIn 1052 (by decide +kernel) (by decide +kernel), by decide +kernel, by decide +kernel, by decide +kernel⟩
theorem mv_X12_wordAt : zMv yX12_wordAt cX12_wordAt 2 (Option.some FieldType.int) 1 := ⟨zIn 1060 (by decide +kernel) (by decide +kernel), zIn 13 (by decide +kernel) (by decide +kernel), zIn 1058 (by decide +kernel) (by decide +kernel), zIn 1059 (by decide +kernel) (by decide +kernel), by decide +kernel, by decide +kernel, by decide +kernel⟩
theorem mv_X12_waysOf : zMv yX12_waysOf cX12_waysOf 3 (Option.some FieldType.long) 2 := ⟨zIn 887 (by decide +kernel) (by decide +kernel), zIn 13 (by decide +kernel) (by decide +kernel), zIn 886 (by decide +kernel) (by decide +kernel), zInP 23 (by decide +kernel) (by decide +kernel), by decide +kernel, by decide +kernel, by decide +kernel⟩
theorem mv_X12_isBracketed : zMv yX12_isBracketed cX12_isBracketed 3 (Option.some FieldType.boolean) 2 := ⟨zIn 891 (by decide +kernel) (by decide +kernel), zIn 13 (by decide +kernel) (by decide +kernel), zIn 890 (by decide +kernel) (by decide +kernel), zInP 24 (by decide +kernel) (by decide +kernel), by decide +kernel, by decide +kernel, by decide +kernel⟩
theorem mv_X12_firstWays : zMv yX12_firstWays cX12_firstWays 3 (Option.some FieldType.long) 2 := ⟨zIn 880 (by decide +kernel) (by decide +kernel), zIn 13 (by decide +kernel) (by decide +kernel), zIn 879 (by decide +kernel) (by decide +kernel), zInP 22 (by decide +kernel) (by decide +kernel), by decide +kernel, by decide +kernel, by decide +kernel⟩
theorem mv_X12_findWays : zMv yX12_findWays cX12_findWays 7 (Option.none : Option FieldType) 0 := ⟨zIn 876 (by decide +kernel) (by decide +kernel), zIn 13 (by decide +kernel) (by decide +kernel), zIn 875 (by decide +kernel) (by decide +kernel), zInP 21 (by decide +kernel) (by decide +kernel), by decide +kernel, by decide +kernel, by decide +kernel⟩
theorem mv_X12_readings : zMv yX12_readings cX12_readings 1 (Option.some FieldType.long) 0 := ⟨zIn 898 (by decide +kernel) (by decide +kernel), zIn 13 (by decide +kernel) (by decide +kernel), zIn 896 (by decide +kernel) (by decide +kernel), zIn 897 (by decide +kernel) (by decide +kernel), by decide +kernel, by decide +kernel, by decide +kernel⟩
theorem mv_X12_mask : zMs yX12_mask cX12_mask 4 (Option.some FieldType.long) 1 := ⟨zIn 872 (by decide +kernel) (by decide +kernel), zIn 13 (by decide +kernel) (by decide +kernel), zIn 871 (by decide +kernel) (by decide +kernel), by decide +kernel, by decide +kernel, by decide +kernel⟩
theorem mv_X12_notes : zMv yX12_notes cX12_notes 5 (Option.none : Option FieldType) 3 := ⟨zIn 911 (by decide +kernel) (by decide +kernel), zIn 13 (by decide +kernel) (by decide +kernel), zIn 910 (by decide +kernel) (by decide +kernel), zInP 27 (by decide +kernel) (by decide +kernel), by decide +kernel, by decide +kernel, by decide +kernel⟩
theorem mv_X12_breaks : zMv yX12_breaks cX12_breaks 3 (Option.none : Option FieldType) 2 := ⟨zIn 916 (by decide +kernel) (by decide +kernel), zIn 13 (by decide +kernel) (by decide +kernel), zIn 915 (by decide +kernel) (by decide +kernel), zInP 28 (by decide +kernel) (by decide +kernel), by decide +kernel, by decide +kernel, by decide +kernel⟩
theorem mv_X12_meansRun : zMv yX12_meansRun cX12_meansRun 21 (Option.some FieldType.long) 7 := ⟨zIn 907 (by decide +kernel) (by decide +kernel), zIn 13 (by decide +kernel) (by decide +kernel), zIn 906 (by decide +kernel) (by decide +kernel), zInP 26 (by decide +kernel) (by decide +kernel), by decide +kernel, by decide +kernel, by decide +kernel⟩
theorem mv_X12_meansNow : zMv yX12_meansNow cX12_meansNow 2 (Option.some FieldType.long) 1 := ⟨zIn 903 (by decide +kernel) (by decide +kernel), zIn 13 (by decide +kernel) (by decide +kernel), zIn 902 (by decide +kernel) (by decide +kernel), zInP 25 (by decide +kernel) (by decide +kernel), by decide +kernel, by decide +kernel, by decide +kernel⟩
theorem mv_X12_idleIn : zMv yX12_idleIn cX12_idleIn 6 (Option.some FieldType.int) 1 := ⟨zIn 921 (by decide +kernel) (by decide +kernel), zIn 13 (by decide +kernel) (by decide +kernel), zIn 920 (by decide +kernel) (by decide +kernel), zInP 29 (by decide +kernel) (by decide +kernel), by decide +kernel, by decide +kernel, by decide +kernel⟩
theorem mv_X12_finds : zMv yX12_finds cX12_finds 2 (Option.none : Option FieldType) 0 := ⟨zIn 869 (by decide +kernel) (by decide +kernel), zIn 13 (by decide +kernel) (by decide +kernel), zIn 868 (by decide +kernel) (by decide +kernel), zInP 20 (by decide +kernel) (by decide +kernel), by decide +kernel, by decide +kernel, by decide +kernel⟩
theorem mv_X12_wrong : zMv yX12_wrong cX12_wrong 2 (Option.some FieldType.int) 1 := ⟨zIn 1072 (by decide +kernel) (by decide +kernel), zIn 13 (by decide +kernel) (by decide +kernel), zIn 1071 (by decide +kernel) (by decide +kernel), zInP 31 (by decide +kernel) (by decide +kernel), by decide +kernel, by decide +kernel, by decide +kernel⟩
theorem mv_X12_nodes : zMv yX12_nodes cX12_nodes 3 (Option.some FieldType.int) 1 := ⟨zIn 1068 (by decide +kernel) (by decide +kernel), zIn 13 (by decide +kernel) (by decide +kernel), zIn 1066 (by decide +kernel) (by decide +kernel), zIn 1067 (by decide +kernel) (by decide +kernel), by decide +kernel, by decide +kernel, by decide +kernel⟩
theorem mv_X12_node : zMv yX12_node cX12_node 6 (Option.some FieldType.int) 3 := ⟨zIn 1076 (by decide +kernel) (by decide +kernel), zIn 13 (by decide +kernel) (by decide +kernel), zIn 1074 (by decide +kernel) (by decide +kernel), zIn 1075 (by decide +kernel) (by decide +kernel), by decide +kernel, by decide +kernel, by decide +kernel⟩
theorem mv_X12_means : zMv yX12_means cX12_means 3 (Option.some FieldType.long) 1 := ⟨zIn 1080 (by decide +kernel) (by decide +kernel), zIn 13 (by decide +kernel) (by decide +kernel), zIn 1078 (by decide +kernel) (by decide +kernel), zIn 1079 (by decide +kernel) (by decide +kernel), by decide +kernel, by decide +kernel, by decide +kernel⟩
theorem mv_X12_does : zMv yX12_does cX12_does 3 (Option.some FieldType.boolean) 2 := ⟨zIn 1088 (by decide +kernel) (by decide +kernel), zIn 13 (by decide +kernel) (by decide +kernel), zIn 1087 (by decide +kernel) (by decide +kernel), zInP 32 (by decide +kernel) (by decide +kernel), by decide +kernel, by decide +kernel, by decide +kernel⟩
theorem mv_X12_lets : zMv yX12_lets cX12_lets 4 (Option.some FieldType.int) 2 := ⟨zIn 1084 (by decide +kernel) (by decide +kernel), zIn 13 (by decide +kernel) (by decide +kernel), zIn 1082 (by decide +kernel) (by decide +kernel), zIn 1083 (by decide +kernel) (by decide +kernel), by decide +kernel, by decide +kernel, by decide +kernel⟩
theorem mv_X12_lettingOf : zMv yX12_lettingOf cX12_lettingOf 4 (Option.some FieldType.int) 1 := ⟨zIn 1096 (by decide +kernel) (by decide +kernel), zIn 13 (by decide +kernel) (by decide +kernel), zIn 1095 (by decide +kernel) (by decide +kernel), zInP 33 (by decide +kernel) (by decide +kernel), by decide +kernel, by decide +kernel, by decide +kernel⟩
theorem mv_X12_map : zMv yX12_map cX12_map 3 (Option.some FieldType.int) 1 := ⟨zIn 1092 (by decide +kernel) (by decide +kernel), zIn 13 (by decide +kernel) (by decide +kernel), zIn 1090 (by decide +kernel) (by decide +kernel), zIn 1091 (by decide +kernel) (by decide +kernel), by decide +kernel, by decide +kernel, by decide +kernel⟩
theorem mv_X12_all : zMv yX12_all cX12_all 5 (Option.some FieldType.long) 1 := ⟨zIn 1100 (by decide +kernel) (by decide +kernel), zIn 13 (by decide +kernel) (by decide +kernel), zIn 1098 (by decide +kernel) (by decide +kernel), zIn 1099 (by decide +kernel) (by decide +kernel), by decide +kernel, by decide +kernel, by decide +kernel⟩
theorem mv_X12_same : zMv yX12_same cX12_same 4 (Option.some FieldType.int) 2 := ⟨zIn 1104 (by decide +kernel) (by decide +kernel), zIn 13 (by decide +kernel) (by decide +kernel), zIn 1102 (by decide +kernel) (by decide +kernel), zIn 1103 (by decide +kernel) (by decide +kernel), by decide +kernel, by decide +kernel, by decide +kernel⟩
theorem mv_X12_findUnlike : zMv yX12_findUnlike cX12_findUnlike 4 (Option.none : Option FieldType) 0 := ⟨zIn 1112 (by decide +kernel) (by decide +kernel), zIn 13 (by decide +kernel) (by decide +kernel), zIn 1111 (by decide +kernel) (by decide +kernel), zInP 34 (by decide +kernel) (by decide +kernel), by decide +kernel, by decide +kernel, by decide +kernel⟩
theorem mv_X12_unlike : zMv yX12_unlike cX12_unlike 1 (Option.some FieldType.int) 0 := ⟨zIn 1108 (by decide +kernel) (by decide +kernel), zIn 13 (by decide +kernel) (by decide +kernel), zIn 1106 (by decide +kernel) (by decide +kernel), zIn 1107 (by decide +kernel) (by decide +kernel), by decide +kernel, by decide +kernel, by decide +kernel⟩
theorem mv_X12_part : zMv yX12_part cX12_part 5 (Option.some FieldType.int) 2 := ⟨zIn 1116 (by decide +kernel) (by decide +kernel), zIn 13 (by decide +kernel) (by decide +kernel), zIn 1114 (by decide +kernel) (by decide +kernel), zIn 1115 (by decide +kernel) (by decide +kernel), by decide +kernel, by decide +kernel, by decide +kernel⟩
theorem mv_X12_idle : zMv yX12_idle cX12_idle 3 (Option.some FieldType.int) 1 := ⟨zIn 1120 (by decide +kernel) (by decide +kernel), zIn 13 (by decide +kernel) (by decide +kernel), zIn 1118 (by decide +kernel) (by decide +kernel), zIn 1119 (by decide +kernel) (by decide +kernel), by decide +kernel, by decide +kernel, by decide +kernel⟩
theorem mv_X12_needless : zMv yX12_needless cX12_needless 3 (Option.some FieldType.int) 0 := ⟨zIn 1124 (by decide +kernel) (by decide +kernel), zIn 13 (by decide +kernel) (by decide +kernel), zIn 1122 (by decide +kernel) (by decide +kernel), zIn 1123 (by decide +kernel) (by decide +kernel), by decide +kernel, by decide +kernel, by decide +kernel⟩
theorem mv_X12_meets : zMv yX12_meets cX12_meets 4 (Option.some FieldType.int) 2 := ⟨zIn 1128 (by decide +kernel) (by decide +kernel), zIn 13 (by decide +kernel) (by decide +kernel), zIn 1126 (by decide +kernel) (by decide +kernel), zIn 1127 (by decide +kernel) (by decide +kernel), by decide +kernel, by decide +kernel, by decide +kernel⟩
theorem mv_X12_choose : zMv yX12_choose cX12_choose 3 (Option.some FieldType.int) 1 := ⟨zIn 1132 (by decide +kernel) (by decide +kernel), zIn 13 (by decide +kernel) (by decide +kernel), zIn 1130 (by decide +kernel) (by decide +kernel), zIn 1131 (by decide +kernel) (by decide +kernel), by decide +kernel, by decide +kernel, by decide +kernel⟩
theorem mv_X12_unchoose : zMv yX12_unchoose cX12_unchoose 2 (Option.some FieldType.int) 0 := ⟨zIn 1136 (by decide +kernel) (by decide +kernel), zIn 13 (by decide +kernel) (by decide +kernel), zIn 1134 (by decide +kernel) (by decide +kernel), zIn 1135 (by decide +kernel) (by decide +kernel), by decide +kernel, by decide +kernel, by decide +kernel⟩
theorem mv_X12_findOver : zMv yX12_findOver cX12_findOver 6 (Option.none : Option FieldType) 2 := ⟨zIn 1144 (by decide +kernel) (by decide +kernel), zIn 13 (by decide +kernel) (by decide +kernel), zIn 1143 (by decide +kernel) (by decide +kernel), zInP 35 (by decide +kernel) (by decide +kernel), by decide +kernel, by decide +kernel, by decide +kernel⟩
theorem mv_X12_leftOver : zMv yX12_leftOver cX12_leftOver 5 (Option.some FieldType.int) 1 := ⟨zIn 1140 (by decide +kernel) (by decide +kernel), zIn 13 (by decide +kernel) (by decide +kernel), zIn 1138 (by decide +kernel) (by decide +kernel), zIn 1139 (by decide +kernel) (by decide +kernel), by decide +kernel, by decide +kernel, by decide +kernel⟩
theorem mv_X12_passedOver : zMv yX12_passedOver cX12_passedOver 1 (Option.some FieldType.int) 0 := ⟨zIn 1148 (by decide +kernel) (by decide +kernel), zIn 13 (by decide +kernel) (by decide +kernel), zIn 1146 (by decide +kernel) (by decide +kernel), zIn 1147 (by decide +kernel) (by decide +kernel), by decide +kernel, by decide +kernel, by decide +kernel⟩
theorem mv_X12_quarrel : zMv yX12_quarrel cX12_quarrel 9 (Option.some FieldType.int) 2 := ⟨zIn 1152 (by decide +kernel) (by decide +kernel), zIn 13 (by decide +kernel) (by decide +kernel), zIn 1150 (by decide +kernel) (by decide +kernel), zIn 1151 (by decide +kernel) (by decide +kernel), by decide +kernel, by decide +kernel, by decide +kernel⟩
theorem mv_X12_hangs : zMv yX12_hangs cX12_hangs 5 (Option.some FieldType.int) 0 := ⟨zIn 1156 (by decide +kernel) (by decide +kernel), zIn 13 (by decide +kernel) (by decide +kernel), zIn 1154 (by decide +kernel) (by decide +kernel), zIn 1155 (by decide +kernel) (by decide +kernel), by decide +kernel, by decide +kernel, by decide +kernel⟩
theorem mv_X12_test : zMv yX12_test cX12_test 5 (Option.some FieldType.int) 0 := ⟨zIn 1160 (by decide +kernel) (by decide +kernel), zIn 13 (by decide +kernel) (by decide +kernel), zIn 1158 (by decide +kernel) (by decide +kernel), zIn 1159 (by decide +kernel) (by decide +kernel), by decide +kernel, by decide +kernel, by decide +kernel⟩
theorem mv_X12_isParted : zMv yX12_isParted cX12_isParted 5 (Option.some FieldType.boolean) 1 := ⟨zIn 1172 (by decide +kernel) (by decide +kernel), zIn 13 (by decide +kernel) (by decide +kernel), zIn 1171 (by decide +kernel) (by decide +kernel), zInP 37 (by decide +kernel) (by decide +kernel), by decide +kernel, by decide +kernel, by decide +kernel⟩
theorem mv_X12_isPartedBy : zMv yX12_isPartedBy cX12_isPartedBy 6 (Option.some FieldType.boolean) 3 := ⟨zIn 1168 (by decide +kernel) (by decide +kernel), zIn 13 (by decide +kernel) (by decide +kernel), zIn 1167 (by decide +kernel) (by decide +kernel), zInP 36 (by decide +kernel) (by decide +kernel), by decide +kernel, by decide +kernel, by decide +kernel⟩
theorem mv_X12_fewest : zMv yX12_fewest cX12_fewest 2 (Option.some FieldType.int) 0 := ⟨zIn 1164 (by decide +kernel) (by decide +kernel), zIn 13 (by decide +kernel) (by decide +kernel), zIn 1162 (by decide +kernel) (by decide +kernel), zIn 1163 (by decide +kernel) (by decide +kernel), by decide +kernel, by decide +kernel, by decide +kernel⟩
theorem mv_X12_bracket : zMv yX12_bracket cX12_bracket 7 (Option.some FieldType.int) 2 := ⟨zIn 1176 (by decide +kernel) (by decide +kernel), zIn 13 (by decide +kernel) (by decide +kernel), zIn 1174 (by decide +kernel) (by decide +kernel), zIn 1175 (by decide +kernel) (by decide +kernel), by decide +kernel, by decide +kernel, by decide +kernel⟩
theorem mv_X12_has : zMv yX12_has cX12_has 5 (Option.some FieldType.boolean) 3 := ⟨zIn 1188 (by decide +kernel) (by decide +kernel), zIn 13 (by decide +kernel) (by decide +kernel), zIn 1187 (by decide +kernel) (by decide +kernel), zInP 39 (by decide +kernel) (by decide +kernel), by decide +kernel, by decide +kernel, by decide +kernel⟩
theorem mv_X12_isMark : zMv yX12_isMark cX12_isMark 3 (Option.some FieldType.boolean) 2 := ⟨zIn 1192 (by decide +kernel) (by decide +kernel), zIn 13 (by decide +kernel) (by decide +kernel), zIn 1191 (by decide +kernel) (by decide +kernel), zInP 40 (by decide +kernel) (by decide +kernel), by decide +kernel, by decide +kernel, by decide +kernel⟩
theorem mv_X12_isMended : zMv yX12_isMended cX12_isMended 7 (Option.some FieldType.boolean) 3 := ⟨zIn 1184 (by decide +kernel) (by decide +kernel), zIn 13 (by decide +kernel) (by decide +kernel), zIn 1183 (by decide +kernel) (by decide +kernel), zInP 38 (by decide +kernel) (by decide +kernel), by decide +kernel, by decide +kernel, by decide +kernel⟩
theorem mv_X12_mend : zMv yX12_mend cX12_mend 5 (Option.some FieldType.int) 1 := ⟨zIn 1180 (by decide +kernel) (by decide +kernel), zIn 13 (by decide +kernel) (by decide +kernel), zIn 1178 (by decide +kernel) (by decide +kernel), zIn 1179 (by decide +kernel) (by decide +kernel), by decide +kernel, by decide +kernel, by decide +kernel⟩
theorem mv_X12_aim : zMv yX12_aim cX12_aim 4 (Option.some FieldType.int) 2 := ⟨zIn 1196 (by decide +kernel) (by decide +kernel), zIn 13 (by decide +kernel) (by decide +kernel), zIn 1194 (by decide +kernel) (by decide +kernel), zIn 1195 (by decide +kernel) (by decide +kernel), by decide +kernel, by decide +kernel, by decide +kernel⟩
theorem mv_X12_servesBy : zMv yX12_servesBy cX12_servesBy 4 (Option.some FieldType.int) 1 := ⟨zIn 1208 (by decide +kernel) (by decide +kernel), zIn 13 (by decide +kernel) (by decide +kernel), zIn 1207 (by decide +kernel) (by decide +kernel), zInP 41 (by decide +kernel) (by decide +kernel), by decide +kernel, by decide +kernel, by decide +kernel⟩
theorem mv_X12_serves : zMv yX12_serves cX12_serves 3 (Option.some FieldType.int) 1 := ⟨zIn 1203 (by decide +kernel) (by decide +kernel), zIn 13 (by decide +kernel) (by decide +kernel), zIn 1201 (by decide +kernel) (by decide +kernel), zIn 1202 (by decide +kernel) (by decide +kernel), by decide +kernel, by decide +kernel, by decide +kernel⟩
theorem mv_X12_best : zMv yX12_best cX12_best 3 (Option.some FieldType.int) 0 := ⟨zIn 1212 (by decide +kernel) (by decide +kernel), zIn 13 (by decide +kernel) (by decide +kernel), zIn 1210 (by decide +kernel) (by decide +kernel), zIn 1211 (by decide +kernel) (by decide +kernel), by decide +kernel, by decide +kernel, by decide +kernel⟩
theorem mv_X12_image : zMv yX12_image cX12_image 2 (Option.some FieldType.int) 0 := ⟨zIn 1216 (by decide +kernel) (by decide +kernel), zIn 13 (by decide +kernel) (by decide +kernel), zIn 1214 (by decide +kernel) (by decide +kernel), zIn 1215 (by decide +kernel) (by decide +kernel), by decide +kernel, by decide +kernel, by decide +kernel⟩
theorem mv_X12_on : zMv yX12_on cX12_on 2 (Option.some FieldType.int) 0 := ⟨zIn 1220 (by decide +kernel) (by decide +kernel), zIn 13 (by decide +kernel) (by decide +kernel), zIn 1218 (by decide +kernel) (by decide +kernel), zIn 1219 (by decide +kernel) (by decide +kernel), by decide +kernel, by decide +kernel, by decide +kernel⟩
theorem mv_X12_count : zMv yX12_count cX12_count 4 (Option.some FieldType.int) 1 := ⟨zIn 1224 (by decide +kernel) (by decide +kernel), zIn 13 (by decide +kernel) (by decide +kernel), zIn 1222 (by decide +kernel) (by decide +kernel), zIn 1223 (by decide +kernel) (by decide +kernel), by decide +kernel, by decide +kernel, by decide +kernel⟩
theorem mv_X0_size : zMv yX0_size cX0_size 1 (Option.some FieldType.int) 0 := ⟨zIn 789 (by decide +kernel) (by decide +kernel), zIn 11 (by decide +kernel) (by decide +kernel), zIn 787 (by decide +kernel) (by decide +kernel), zIn 788 (by decide +kernel) (by decide +kernel), by decide +kernel, by decide +kernel, by decide +kernel⟩
theorem mv_X0_add : zMv yX0_add cX0_add 3 (Option.none : Option FieldType) 2 := ⟨zIn 793 (by decide +kernel) (by decide +kernel), zIn 11 (by decide +kernel) (by decide +kernel), zIn 791 (by decide +kernel) (by decide +kernel), zIn 792 (by decide +kernel) (by decide +kernel), by decide +kernel, by decide +kernel, by decide +kernel⟩
theorem mv_X0_become : zMv yX0_become cX0_become 3 (Option.none : Option FieldType) 1 := ⟨zIn 828 (by decide +kernel) (by decide +kernel), zIn 11 (by decide +kernel) (by decide +kernel), zIn 826 (by decide +kernel) (by decide +kernel), zIn 827 (by decide +kernel) (by decide +kernel), by decide +kernel, by decide +kernel, by decide +kernel⟩
theorem mv_X0_servedBy : zMv yX0_servedBy cX0_servedBy 5 (Option.some FieldType.int) 1 := ⟨zIn 803 (by decide +kernel) (by decide +kernel), zIn 11 (by decide +kernel) (by decide +kernel), zIn 801 (by decide +kernel) (by decide +kernel), zIn 802 (by decide +kernel) (by decide +kernel), by decide +kernel, by decide +kernel, by decide +kernel⟩
theorem mv_X1_isThere : zMv yX1_isThere cX1_isThere 1 (Option.some FieldType.boolean) 0 := ⟨zIn 837 (by decide +kernel) (by decide +kernel), zIn 12 (by decide +kernel) (by decide +kernel), zIn 835 (by decide +kernel) (by decide +kernel), zIn 836 (by decide +kernel) (by decide +kernel), by decide +kernel, by decide +kernel, by decide +kernel⟩
theorem mv_X1_words : zMv yX1_words cX1_words 1 (Option.some (FieldType.object "MayBeRead$Words")) 0 := ⟨zIn 841 (by decide +kernel) (by decide +kernel), zIn 12 (by decide +kernel) (by decide +kernel), zIn 839 (by decide +kernel) (by decide +kernel), zIn 840 (by decide +kernel) (by decide +kernel), by decide +kernel, by decide +kernel, by decide +kernel⟩
theorem mv_X1_order : zMv yX1_order cX1_order 1 (Option.some (FieldType.object "MayBeRead$Order")) 0 := ⟨zIn 845 (by decide +kernel) (by decide +kernel), zIn 12 (by decide +kernel) (by decide +kernel), zIn 843 (by decide +kernel) (by decide +kernel), zIn 844 (by decide +kernel) (by decide +kernel), by decide +kernel, by decide +kernel, by decide +kernel⟩
theorem mv_X1_aims : zMv yX1_aims cX1_aims 1 (Option.some (FieldType.object "MayBeRead$Aims")) 0 := ⟨zIn 850 (by decide +kernel) (by decide +kernel), zIn 12 (by decide +kernel) (by decide +kernel), zIn 848 (by decide +kernel) (by decide +kernel), zIn 849 (by decide +kernel) (by decide +kernel), by decide +kernel, by decide +kernel, by decide +kernel⟩
theorem mv_X1_take : zMv yX1_take cX1_take 4 (Option.none : Option FieldType) 3 := ⟨zIn 817 (by decide +kernel) (by decide +kernel), zIn 12 (by decide +kernel) (by decide +kernel), zIn 815 (by decide +kernel) (by decide +kernel), zIn 816 (by decide +kernel) (by decide +kernel), by decide +kernel, by decide +kernel, by decide +kernel⟩
theorem mv_X2_isMade : zMv yX2_isMade cX2_isMade 1 (Option.some FieldType.boolean) 0 := ⟨zIn 394 (by decide +kernel) (by decide +kernel), zIn 5 (by decide +kernel) (by decide +kernel), zIn 392 (by decide +kernel) (by decide +kernel), zIn 393 (by decide +kernel) (by decide +kernel), by decide +kernel, by decide +kernel, by decide +kernel⟩
theorem mv_X2_forget : zMv yX2_forget cX2_forget 1 (Option.none : Option FieldType) 0 := ⟨zIn 369 (by decide +kernel) (by decide +kernel), zIn 5 (by decide +kernel) (by decide +kernel), zIn 367 (by decide +kernel) (by decide +kernel), zIn 368 (by decide +kernel) (by decide +kernel), by decide +kernel, by decide +kernel, by decide +kernel⟩
theorem mv_X2_make : zMv yX2_make cX2_make 6 (Option.none : Option FieldType) 4 := ⟨zIn 398 (by decide +kernel) (by decide +kernel), zIn 5 (by decide +kernel) (by decide +kernel), zIn 396 (by decide +kernel) (by decide +kernel), zIn 397 (by decide +kernel) (by decide +kernel), by decide +kernel, by decide +kernel, by decide +kernel⟩
theorem mv_X2_size : zMv yX2_size cX2_size 1 (Option.some FieldType.int) 0 := ⟨zIn 517 (by decide +kernel) (by decide +kernel), zIn 5 (by decide +kernel) (by decide +kernel), zIn 515 (by decide +kernel) (by decide +kernel), zIn 516 (by decide +kernel) (by decide +kernel), by decide +kernel, by decide +kernel, by decide +kernel⟩
theorem mv_X2_meaning : zMv yX2_meaning cX2_meaning 2 (Option.some FieldType.long) 1 := ⟨zIn 534 (by decide +kernel) (by decide +kernel), zIn 5 (by decide +kernel) (by decide +kernel), zIn 532 (by decide +kernel) (by decide +kernel), zIn 533 (by decide +kernel) (by decide +kernel), by decide +kernel, by decide +kernel, by decide +kernel⟩
theorem mv_X2_idlePlaces : zMv yX2_idlePlaces cX2_idlePlaces 2 (Option.some FieldType.int) 1 := ⟨zIn 608 (by decide +kernel) (by decide +kernel), zIn 5 (by decide +kernel) (by decide +kernel), zIn 606 (by decide +kernel) (by decide +kernel), zIn 607 (by decide +kernel) (by decide +kernel), by decide +kernel, by decide +kernel, by decide +kernel⟩
theorem mv_X2_isMet : zMv yX2_isMet cX2_isMet 3 (Option.some FieldType.boolean) 2 := ⟨zIn 629 (by decide +kernel) (by decide +kernel), zIn 5 (by decide +kernel) (by decide +kernel), zIn 627 (by decide +kernel) (by decide +kernel), zIn 628 (by decide +kernel) (by decide +kernel), by decide +kernel, by decide +kernel, by decide +kernel⟩
theorem mv_X2_lettingAt : zMv yX2_lettingAt cX2_lettingAt 4 (Option.some FieldType.int) 1 := ⟨zIn 553 (by decide +kernel) (by decide +kernel), zIn 5 (by decide +kernel) (by decide +kernel), zIn 551 (by decide +kernel) (by decide +kernel), zIn 552 (by decide +kernel) (by decide +kernel), by decide +kernel, by decide +kernel, by decide +kernel⟩
theorem mv_X2_letByAll : zMv yX2_letByAll cX2_letByAll 4 (Option.some FieldType.long) 0 := ⟨zIn 563 (by decide +kernel) (by decide +kernel), zIn 5 (by decide +kernel) (by decide +kernel), zIn 561 (by decide +kernel) (by decide +kernel), zIn 562 (by decide +kernel) (by decide +kernel), by decide +kernel, by decide +kernel, by decide +kernel⟩
theorem mv_X2_barredByAll : zMv yX2_barredByAll cX2_barredByAll 4 (Option.some FieldType.long) 0 := ⟨zIn 568 (by decide +kernel) (by decide +kernel), zIn 5 (by decide +kernel) (by decide +kernel), zIn 566 (by decide +kernel) (by decide +kernel), zIn 567 (by decide +kernel) (by decide +kernel), by decide +kernel, by decide +kernel, by decide +kernel⟩
theorem mv_X2_idleInAll : zMv yX2_idleInAll cX2_idleInAll 3 (Option.some FieldType.int) 0 := ⟨zIn 617 (by decide +kernel) (by decide +kernel), zIn 5 (by decide +kernel) (by decide +kernel), zIn 615 (by decide +kernel) (by decide +kernel), zIn 616 (by decide +kernel) (by decide +kernel), by decide +kernel, by decide +kernel, by decide +kernel⟩
theorem mv_X2_areAtOdds : zMv yX2_areAtOdds cX2_areAtOdds 6 (Option.some FieldType.boolean) 2 := ⟨zIn 702 (by decide +kernel) (by decide +kernel), zIn 5 (by decide +kernel) (by decide +kernel), zIn 700 (by decide +kernel) (by decide +kernel), zIn 701 (by decide +kernel) (by decide +kernel), by decide +kernel, by decide +kernel, by decide +kernel⟩
theorem mv_X2_evenestCase : zMv yX2_evenestCase cX2_evenestCase 5 (Option.some FieldType.int) 0 := ⟨zIn 719 (by decide +kernel) (by decide +kernel), zIn 5 (by decide +kernel) (by decide +kernel), zIn 717 (by decide +kernel) (by decide +kernel), zIn 718 (by decide +kernel) (by decide +kernel), by decide +kernel, by decide +kernel, by decide +kernel⟩
theorem mv_X3_begin : zMv yX3_begin cX3_begin 3 (Option.none : Option FieldType) 1 := ⟨zIn 763 (by decide +kernel) (by decide +kernel), zIn 10 (by decide +kernel) (by decide +kernel), zIn 761 (by decide +kernel) (by decide +kernel), zIn 762 (by decide +kernel) (by decide +kernel), by decide +kernel, by decide +kernel, by decide +kernel⟩
theorem mv_X3_hold : zMv yX3_hold cX3_hold 4 (Option.none : Option FieldType) 1 := ⟨zIn 772 (by decide +kernel) (by decide +kernel), zIn 10 (by decide +kernel) (by decide +kernel), zIn 770 (by decide +kernel) (by decide +kernel), zIn 771 (by decide +kernel) (by decide +kernel), by decide +kernel, by decide +kernel, by decide +kernel⟩
theorem mv_X3_fewestNodes : zMv yX3_fewestNodes cX3_fewestNodes 3 (Option.some FieldType.int) 0 := ⟨zIn 777 (by decide +kernel) (by decide +kernel), zIn 10 (by decide +kernel) (by decide +kernel), zIn 775 (by decide +kernel) (by decide +kernel), zIn 776 (by decide +kernel) (by decide +kernel), by decide +kernel, by decide +kernel, by decide +kernel⟩
theorem mv_X3_sharedWith : zMv yX3_sharedWith cX3_sharedWith 4 (Option.some FieldType.int) 1 := ⟨zIn 781 (by decide +kernel) (by decide +kernel), zIn 10 (by decide +kernel) (by decide +kernel), zIn 780 (by decide +kernel) (by decide +kernel), zInP 19 (by decide +kernel) (by decide +kernel), by decide +kernel, by decide +kernel, by decide +kernel⟩
theorem mv_X4_size : zMv yX4_size cX4_size 1 (Option.some FieldType.int) 0 := ⟨zIn 651 (by decide +kernel) (by decide +kernel), zIn 8 (by decide +kernel) (by decide +kernel), zIn 649 (by decide +kernel) (by decide +kernel), zIn 650 (by decide +kernel) (by decide +kernel), by decide +kernel, by decide +kernel, by decide +kernel⟩
theorem mv_X4_at : zMv yX4_at cX4_at 2 (Option.some FieldType.int) 1 := ⟨zIn 641 (by decide +kernel) (by decide +kernel), zIn 8 (by decide +kernel) (by decide +kernel), zIn 639 (by decide +kernel) (by decide +kernel), zIn 640 (by decide +kernel) (by decide +kernel), by decide +kernel, by decide +kernel, by decide +kernel⟩
theorem mv_X4_clear : zMv yX4_clear cX4_clear 1 (Option.none : Option FieldType) 0 := ⟨zIn 659 (by decide +kernel) (by decide +kernel), zIn 8 (by decide +kernel) (by decide +kernel), zIn 657 (by decide +kernel) (by decide +kernel), zIn 658 (by decide +kernel) (by decide +kernel), by decide +kernel, by decide +kernel, by decide +kernel⟩
theorem mv_X4_has : zMv yX4_has cX4_has 3 (Option.some FieldType.boolean) 1 := ⟨zIn 637 (by decide +kernel) (by decide +kernel), zIn 8 (by decide +kernel) (by decide +kernel), zIn 635 (by decide +kernel) (by decide +kernel), zIn 636 (by decide +kernel) (by decide +kernel), by decide +kernel, by decide +kernel, by decide +kernel⟩
theorem mv_X4_add : zMv yX4_add cX4_add 2 (Option.none : Option FieldType) 1 := ⟨zIn 646 (by decide +kernel) (by decide +kernel), zIn 8 (by decide +kernel) (by decide +kernel), zIn 644 (by decide +kernel) (by decide +kernel), zIn 645 (by decide +kernel) (by decide +kernel), by decide +kernel, by decide +kernel, by decide +kernel⟩
theorem mv_X4_become : zMv yX4_become cX4_become 3 (Option.none : Option FieldType) 1 := ⟨zIn 822 (by decide +kernel) (by decide +kernel), zIn 8 (by decide +kernel) (by decide +kernel), zIn 820 (by decide +kernel) (by decide +kernel), zIn 821 (by decide +kernel) (by decide +kernel), by decide +kernel, by decide +kernel, by decide +kernel⟩
theorem mv_X5_meaning : zMv yX5_meaning cX5_meaning 1 (Option.some FieldType.long) 0 := ⟨zIn 498 (by decide +kernel) (by decide +kernel), zIn 6 (by decide +kernel) (by decide +kernel), zIn 496 (by decide +kernel) (by decide +kernel), zIn 497 (by decide +kernel) (by decide +kernel), by decide +kernel, by decide +kernel, by decide +kernel⟩
theorem mv_X5_idlePlaces : zMv yX5_idlePlaces cX5_idlePlaces 1 (Option.some FieldType.int) 0 := ⟨zIn 504 (by decide +kernel) (by decide +kernel), zIn 6 (by decide +kernel) (by decide +kernel), zIn 502 (by decide +kernel) (by decide +kernel), zIn 503 (by decide +kernel) (by decide +kernel), by decide +kernel, by decide +kernel, by decide +kernel⟩
theorem mv_X5_metRules : zMv yX5_metRules cX5_metRules 1 (Option.some FieldType.int) 0 := ⟨zIn 509 (by decide +kernel) (by decide +kernel), zIn 6 (by decide +kernel) (by decide +kernel), zIn 507 (by decide +kernel) (by decide +kernel), zIn 508 (by decide +kernel) (by decide +kernel), by decide +kernel, by decide +kernel, by decide +kernel⟩
theorem mv_X5_weigh : zMv yX5_weigh cX5_weigh 5 (Option.none : Option FieldType) 2 := ⟨zIn 435 (by decide +kernel) (by decide +kernel), zIn 6 (by decide +kernel) (by decide +kernel), zIn 433 (by decide +kernel) (by decide +kernel), zIn 434 (by decide +kernel) (by decide +kernel), by decide +kernel, by decide +kernel, by decide +kernel⟩
theorem mv_X5_meaningOf : zMv yX5_meaningOf cX5_meaningOf 8 (Option.some FieldType.long) 3 := ⟨zIn 443 (by decide +kernel) (by decide +kernel), zIn 6 (by decide +kernel) (by decide +kernel), zIn 442 (by decide +kernel) (by decide +kernel), zInP 9 (by decide +kernel) (by decide +kernel), by decide +kernel, by decide +kernel, by decide +kernel⟩
theorem mv_X5_bareOf : zMv yX5_bareOf cX5_bareOf 5 (Option.some FieldType.int) 2 := ⟨zIn 474 (by decide +kernel) (by decide +kernel), zIn 6 (by decide +kernel) (by decide +kernel), zIn 473 (by decide +kernel) (by decide +kernel), zInP 10 (by decide +kernel) (by decide +kernel), by decide +kernel, by decide +kernel, by decide +kernel⟩
theorem mv_X5_findIdle : zMv yX5_findIdle cX5_findIdle 10 (Option.none : Option FieldType) 1 := ⟨zIn 490 (by decide +kernel) (by decide +kernel), zIn 6 (by decide +kernel) (by decide +kernel), zIn 489 (by decide +kernel) (by decide +kernel), zInP 12 (by decide +kernel) (by decide +kernel), by decide +kernel, by decide +kernel, by decide +kernel⟩
theorem mv_X5_brokenByWhole : zMv yX5_brokenByWhole cX5_brokenByWhole 2 (Option.some FieldType.int) 0 := ⟨zIn 494 (by decide +kernel) (by decide +kernel), zIn 6 (by decide +kernel) (by decide +kernel), zIn 493 (by decide +kernel) (by decide +kernel), zInP 13 (by decide +kernel) (by decide +kernel), by decide +kernel, by decide +kernel, by decide +kernel⟩
theorem mv_X5_brokenAt : zMv yX5_brokenAt cX5_brokenAt 8 (Option.some FieldType.int) 3 := ⟨zIn 480 (by decide +kernel) (by decide +kernel), zIn 6 (by decide +kernel) (by decide +kernel), zIn 479 (by decide +kernel) (by decide +kernel), zInP 11 (by decide +kernel) (by decide +kernel), by decide +kernel, by decide +kernel, by decide +kernel⟩
theorem mv_X6_size : zMv yX6_size cX6_size 1 (Option.some FieldType.int) 0 := ⟨zIn 685 (by decide +kernel) (by decide +kernel), zIn 9 (by decide +kernel) (by decide +kernel), zIn 683 (by decide +kernel) (by decide +kernel), zIn 684 (by decide +kernel) (by decide +kernel), by decide +kernel, by decide +kernel, by decide +kernel⟩
theorem mv_X6_at : zMv yX6_at cX6_at 2 (Option.some FieldType.int) 1 := ⟨zIn 679 (by decide +kernel) (by decide +kernel), zIn 9 (by decide +kernel) (by decide +kernel), zIn 677 (by decide +kernel) (by decide +kernel), zIn 678 (by decide +kernel) (by decide +kernel), by decide +kernel, by decide +kernel, by decide +kernel⟩
theorem mv_X6_passed : zMv yX6_passed cX6_passed 1 (Option.some FieldType.int) 0 := ⟨zIn 694 (by decide +kernel) (by decide +kernel), zIn 9 (by decide +kernel) (by decide +kernel), zIn 692 (by decide +kernel) (by decide +kernel), zIn 693 (by decide +kernel) (by decide +kernel), by decide +kernel, by decide +kernel, by decide +kernel⟩
theorem mv_X6_sift : zMv yX6_sift cX6_sift 5 (Option.none : Option FieldType) 3 := ⟨zIn 667 (by decide +kernel) (by decide +kernel), zIn 9 (by decide +kernel) (by decide +kernel), zIn 665 (by decide +kernel) (by decide +kernel), zIn 666 (by decide +kernel) (by decide +kernel), by decide +kernel, by decide +kernel, by decide +kernel⟩
theorem mv_X6_keepMet : zMv yX6_keepMet cX6_keepMet 5 (Option.none : Option FieldType) 2 := ⟨zIn 675 (by decide +kernel) (by decide +kernel), zIn 9 (by decide +kernel) (by decide +kernel), zIn 674 (by decide +kernel) (by decide +kernel), zInP 16 (by decide +kernel) (by decide +kernel), by decide +kernel, by decide +kernel, by decide +kernel⟩
theorem mv_X6_keepsAs : zMv yX6_keepsAs cX6_keepsAs 3 (Option.some FieldType.boolean) 1 := ⟨zIn 711 (by decide +kernel) (by decide +kernel), zIn 9 (by decide +kernel) (by decide +kernel), zIn 709 (by decide +kernel) (by decide +kernel), zIn 710 (by decide +kernel) (by decide +kernel), by decide +kernel, by decide +kernel, by decide +kernel⟩
theorem mv_X7_size : zMv yX7_size cX7_size 1 (Option.some FieldType.int) 0 := ⟨zIn 439 (by decide +kernel) (by decide +kernel), zIn 4 (by decide +kernel) (by decide +kernel), zIn 437 (by decide +kernel) (by decide +kernel), zIn 438 (by decide +kernel) (by decide +kernel), by decide +kernel, by decide +kernel, by decide +kernel⟩
theorem mv_X7_kind : zMv yX7_kind cX7_kind 2 (Option.some FieldType.int) 1 := ⟨zIn 456 (by decide +kernel) (by decide +kernel), zIn 4 (by decide +kernel) (by decide +kernel), zIn 454 (by decide +kernel) (by decide +kernel), zIn 455 (by decide +kernel) (by decide +kernel), by decide +kernel, by decide +kernel, by decide +kernel⟩
theorem mv_X7_from : zMv yX7_from cX7_from 2 (Option.some FieldType.int) 1 := ⟨zIn 460 (by decide +kernel) (by decide +kernel), zIn 4 (by decide +kernel) (by decide +kernel), zIn 458 (by decide +kernel) (by decide +kernel), zIn 459 (by decide +kernel) (by decide +kernel), by decide +kernel, by decide +kernel, by decide +kernel⟩
theorem mv_X7_end : zMv yX7_end cX7_end 2 (Option.some FieldType.int) 1 := ⟨zIn 484 (by decide +kernel) (by decide +kernel), zIn 4 (by decide +kernel) (by decide +kernel), zIn 482 (by decide +kernel) (by decide +kernel), zIn 483 (by decide +kernel) (by decide +kernel), by decide +kernel, by decide +kernel, by decide +kernel⟩
theorem mv_X7_inner : zMv yX7_inner cX7_inner 2 (Option.some FieldType.int) 1 := ⟨zIn 447 (by decide +kernel) (by decide +kernel), zIn 4 (by decide +kernel) (by decide +kernel), zIn 445 (by decide +kernel) (by decide +kernel), zIn 446 (by decide +kernel) (by decide +kernel), by decide +kernel, by decide +kernel, by decide +kernel⟩
theorem mv_X7_behind : zMv yX7_behind cX7_behind 2 (Option.some FieldType.int) 1 := ⟨zIn 452 (by decide +kernel) (by decide +kernel), zIn 4 (by decide +kernel) (by decide +kernel), zIn 450 (by decide +kernel) (by decide +kernel), zIn 451 (by decide +kernel) (by decide +kernel), by decide +kernel, by decide +kernel, by decide +kernel⟩
theorem mv_X7_grow : zMv yX7_grow cX7_grow 12 (Option.none : Option FieldType) 3 := ⟨zIn 402 (by decide +kernel) (by decide +kernel), zIn 4 (by decide +kernel) (by decide +kernel), zIn 400 (by decide +kernel) (by decide +kernel), zIn 401 (by decide +kernel) (by decide +kernel), by decide +kernel, by decide +kernel, by decide +kernel⟩
theorem mv_X7_await : zMv yX7_await cX7_await 6 (Option.none : Option FieldType) 4 := ⟨zIn 407 (by decide +kernel) (by decide +kernel), zIn 4 (by decide +kernel) (by decide +kernel), zIn 406 (by decide +kernel) (by decide +kernel), zInP 5 (by decide +kernel) (by decide +kernel), by decide +kernel, by decide +kernel, by decide +kernel⟩
theorem mv_X7_growFront : zMv yX7_growFront cX7_growFront 7 (Option.none : Option FieldType) 4 := ⟨zIn 419 (by decide +kernel) (by decide +kernel), zIn 4 (by decide +kernel) (by decide +kernel), zIn 418 (by decide +kernel) (by decide +kernel), zInP 6 (by decide +kernel) (by decide +kernel), by decide +kernel, by decide +kernel, by decide +kernel⟩
theorem mv_X7_growJoin : zMv yX7_growJoin cX7_growJoin 15 (Option.none : Option FieldType) 5 := ⟨zIn 429 (by decide +kernel) (by decide +kernel), zIn 4 (by decide +kernel) (by decide +kernel), zIn 428 (by decide +kernel) (by decide +kernel), zInP 8 (by decide +kernel) (by decide +kernel), by decide +kernel, by decide +kernel, by decide +kernel⟩
theorem mv_X7_addNode : zMv yX7_addNode cX7_addNode 4 (Option.none : Option FieldType) 3 := ⟨zIn 425 (by decide +kernel) (by decide +kernel), zIn 4 (by decide +kernel) (by decide +kernel), zIn 424 (by decide +kernel) (by decide +kernel), zInP 7 (by decide +kernel) (by decide +kernel), by decide +kernel, by decide +kernel, by decide +kernel⟩
theorem mv_X8_size : zMv yX8_size cX8_size 1 (Option.some FieldType.int) 0 := ⟨zIn 593 (by decide +kernel) (by decide +kernel), zIn 7 (by decide +kernel) (by decide +kernel), zIn 591 (by decide +kernel) (by decide +kernel), zIn 592 (by decide +kernel) (by decide +kernel), by decide +kernel, by decide +kernel, by decide +kernel⟩
theorem mv_X8_gather : zMv yX8_gather cX8_gather 3 (Option.none : Option FieldType) 1 := ⟨zIn 581 (by decide +kernel) (by decide +kernel), zIn 7 (by decide +kernel) (by decide +kernel), zIn 579 (by decide +kernel) (by decide +kernel), zIn 580 (by decide +kernel) (by decide +kernel), by decide +kernel, by decide +kernel, by decide +kernel⟩
theorem mv_X8_has : zMv yX8_has cX8_has 4 (Option.some FieldType.boolean) 1 := ⟨zIn 587 (by decide +kernel) (by decide +kernel), zIn 7 (by decide +kernel) (by decide +kernel), zIn 586 (by decide +kernel) (by decide +kernel), zInP 15 (by decide +kernel) (by decide +kernel), by decide +kernel, by decide +kernel, by decide +kernel⟩
theorem mv_X8_fewestCases : zMv yX8_fewestCases cX8_fewestCases 4 (Option.some FieldType.int) 0 := ⟨zIn 731 (by decide +kernel) (by decide +kernel), zIn 7 (by decide +kernel) (by decide +kernel), zIn 729 (by decide +kernel) (by decide +kernel), zIn 730 (by decide +kernel) (by decide +kernel), by decide +kernel, by decide +kernel, by decide +kernel⟩
theorem mv_X8_isThirdFor : zMv yX8_isThirdFor cX8_isThirdFor 4 (Option.some FieldType.boolean) 2 := ⟨zIn 740 (by decide +kernel) (by decide +kernel), zIn 7 (by decide +kernel) (by decide +kernel), zIn 739 (by decide +kernel) (by decide +kernel), zInP 18 (by decide +kernel) (by decide +kernel), by decide +kernel, by decide +kernel, by decide +kernel⟩
theorem mv_X8_arePartedBy : zMv yX8_arePartedBy cX8_arePartedBy 9 (Option.some FieldType.boolean) 3 := ⟨zIn 735 (by decide +kernel) (by decide +kernel), zIn 7 (by decide +kernel) (by decide +kernel), zIn 734 (by decide +kernel) (by decide +kernel), zInP 17 (by decide +kernel) (by decide +kernel), by decide +kernel, by decide +kernel, by decide +kernel⟩
theorem mv_X9_number : zMv yX9_number cX9_number 3 (Option.some FieldType.long) 2 := ⟨zIn 273 (by decide +kernel) (by decide +kernel), zIn 3 (by decide +kernel) (by decide +kernel), zIn 271 (by decide +kernel) (by decide +kernel), zIn 272 (by decide +kernel) (by decide +kernel), by decide +kernel, by decide +kernel, by decide +kernel⟩
theorem mv_X9_frontNumber : zMv yX9_frontNumber cX9_frontNumber 3 (Option.some FieldType.long) 2 := ⟨zIn 415 (by decide +kernel) (by decide +kernel), zIn 3 (by decide +kernel) (by decide +kernel), zIn 413 (by decide +kernel) (by decide +kernel), zIn 414 (by decide +kernel) (by decide +kernel), by decide +kernel, by decide +kernel, by decide +kernel⟩
theorem mv_X9_reckon : zMv yX9_reckon cX9_reckon 7 (Option.none : Option FieldType) 1 := ⟨zIn 247 (by decide +kernel) (by decide +kernel), zIn 3 (by decide +kernel) (by decide +kernel), zIn 245 (by decide +kernel) (by decide +kernel), zIn 246 (by decide +kernel) (by decide +kernel), by decide +kernel, by decide +kernel, by decide +kernel⟩
theorem mv_X9_fronted : zMv yX9_fronted cX9_fronted 5 (Option.some FieldType.long) 4 := ⟨zIn 269 (by decide +kernel) (by decide +kernel), zIn 3 (by decide +kernel) (by decide +kernel), zIn 268 (by decide +kernel) (by decide +kernel), zInP 0 (by decide +kernel) (by decide +kernel), by decide +kernel, by decide +kernel, by decide +kernel⟩
theorem mv_X9_parted : zMv yX9_parted cX9_parted 7 (Option.some FieldType.long) 3 := ⟨zIn 283 (by decide +kernel) (by decide +kernel), zIn 3 (by decide +kernel) (by decide +kernel), zIn 282 (by decide +kernel) (by decide +kernel), zInP 1 (by decide +kernel) (by decide +kernel), by decide +kernel, by decide +kernel, by decide +kernel⟩
theorem mv_X10_size : zMv yX10_size cX10_size 1 (Option.some FieldType.int) 0 := ⟨zIn 251 (by decide +kernel) (by decide +kernel), zIn 2 (by decide +kernel) (by decide +kernel), zIn 249 (by decide +kernel) (by decide +kernel), zIn 250 (by decide +kernel) (by decide +kernel), by decide +kernel, by decide +kernel, by decide +kernel⟩
theorem mv_X10_at : zMv yX10_at cX10_at 2 (Option.some FieldType.int) 1 := ⟨zIn 262 (by decide +kernel) (by decide +kernel), zIn 2 (by decide +kernel) (by decide +kernel), zIn 260 (by decide +kernel) (by decide +kernel), zIn 261 (by decide +kernel) (by decide +kernel), by decide +kernel, by decide +kernel, by decide +kernel⟩
theorem mv_X10_clear : zMv yX10_clear cX10_clear 1 (Option.none : Option FieldType) 0 := ⟨zIn 364 (by decide +kernel) (by decide +kernel), zIn 2 (by decide +kernel) (by decide +kernel), zIn 362 (by decide +kernel) (by decide +kernel), zIn 363 (by decide +kernel) (by decide +kernel), by decide +kernel, by decide +kernel, by decide +kernel⟩
theorem mv_X10_add : zMv yX10_add cX10_add 2 (Option.none : Option FieldType) 1 := ⟨zIn 240 (by decide +kernel) (by decide +kernel), zIn 2 (by decide +kernel) (by decide +kernel), zIn 238 (by decide +kernel) (by decide +kernel), zIn 239 (by decide +kernel) (by decide +kernel), by decide +kernel, by decide +kernel, by decide +kernel⟩
theorem mv_X10_become : zMv yX10_become cX10_become 3 (Option.none : Option FieldType) 1 := ⟨zIn 360 (by decide +kernel) (by decide +kernel), zIn 2 (by decide +kernel) (by decide +kernel), zIn 358 (by decide +kernel) (by decide +kernel), zIn 359 (by decide +kernel) (by decide +kernel), by decide +kernel, by decide +kernel, by decide +kernel⟩
theorem mv_X10_bracketed : zMv yX10_bracketed cX10_bracketed 5 (Option.none : Option FieldType) 3 := ⟨zIn 748 (by decide +kernel) (by decide +kernel), zIn 2 (by decide +kernel) (by decide +kernel), zIn 746 (by decide +kernel) (by decide +kernel), zIn 747 (by decide +kernel) (by decide +kernel), by decide +kernel, by decide +kernel, by decide +kernel⟩
theorem mv_X10_letters : zMv yX10_letters cX10_letters 3 (Option.some FieldType.int) 0 := ⟨zIn 859 (by decide +kernel) (by decide +kernel), zIn 2 (by decide +kernel) (by decide +kernel), zIn 857 (by decide +kernel) (by decide +kernel), zIn 858 (by decide +kernel) (by decide +kernel), by decide +kernel, by decide +kernel, by decide +kernel⟩
theorem mv_X10_mostOpen : zMv yX10_mostOpen cX10_mostOpen 4 (Option.some FieldType.int) 0 := ⟨zIn 752 (by decide +kernel) (by decide +kernel), zIn 2 (by decide +kernel) (by decide +kernel), zIn 750 (by decide +kernel) (by decide +kernel), zIn 751 (by decide +kernel) (by decide +kernel), by decide +kernel, by decide +kernel, by decide +kernel⟩
theorem mv_X10_closeAfter : zMv yX10_closeAfter cX10_closeAfter 5 (Option.some FieldType.int) 1 := ⟨zIn 255 (by decide +kernel) (by decide +kernel), zIn 2 (by decide +kernel) (by decide +kernel), zIn 253 (by decide +kernel) (by decide +kernel), zIn 254 (by decide +kernel) (by decide +kernel), by decide +kernel, by decide +kernel, by decide +kernel⟩
theorem mv_X10_fault : zMv yX10_fault cX10_fault 5 (Option.some FieldType.int) 0 := ⟨zIn 349 (by decide +kernel) (by decide +kernel), zIn 2 (by decide +kernel) (by decide +kernel), zIn 347 (by decide +kernel) (by decide +kernel), zIn 348 (by decide +kernel) (by decide +kernel), by decide +kernel, by decide +kernel, by decide +kernel⟩
theorem lk_X11_92 : zLk RX11 92 yX10_add := Or.inl (zIn 237 (by decide +kernel) (by decide +kernel))
theorem lk_X11_96 : zLk RX11 96 yX9_reckon := Or.inl (zIn 244 (by decide +kernel) (by decide +kernel))
theorem lk_X11_100 : zLk RX11 100 yX11_refuse := Or.inl (zIn 334 (by decide +kernel) (by decide +kernel))
theorem lk_X11_104 : zLk RX11 104 yX10_size := Or.inl (zIn 340 (by decide +kernel) (by decide +kernel))
theorem lk_X11_110 : zLk RX11 110 yX10_fault := Or.inl (zIn 346 (by decide +kernel) (by decide +kernel))
theorem lk_X11_113 : zLk RX11 113 yX11_takeSentence := Or.inl (zIn 353 (by decide +kernel) (by decide +kernel))
theorem lk_X11_116 : zLk RX11 116 yX10_clear := Or.inl (zIn 370 (by decide +kernel) (by decide +kernel))
theorem lk_X11_119 : zLk RX11 119 yX10_at := Or.inl (zIn 375 (by decide +kernel) (by decide +kernel))
theorem lk_X11_122 : zLk RX11 122 yX9_number := Or.inl (zIn 380 (by decide +kernel) (by decide +kernel))
theorem lk_X11_126 : zLk RX11 126 yX11_spent := Or.inl (zIn 385 (by decide +kernel) (by decide +kernel))
theorem lk_X11_130 : zLk RX11 130 yX11_noReading := Or.inl (zIn 510 (by decide +kernel) (by decide +kernel))
theorem lk_X11_134 : zLk RX11 134 yX7_grow := Or.inl (zIn 518 (by decide +kernel) (by decide +kernel))
theorem lk_X11_138 : zLk RX11 138 yX7_size := Or.inl (zIn 519 (by decide +kernel) (by decide +kernel))
theorem lk_X11_139 : zLk RX11 139 yX7_kind := Or.inl (zIn 524 (by decide +kernel) (by decide +kernel))
theorem lk_X11_142 : zLk RX11 142 yX7_from := Or.inl (zIn 525 (by decide +kernel) (by decide +kernel))
theorem lk_X11_145 : zLk RX11 145 yX7_end := Or.inl (zIn 526 (by decide +kernel) (by decide +kernel))
theorem lk_X11_148 : zLk RX11 148 yX2_meaning := Or.inl (zIn 531 (by decide +kernel) (by decide +kernel))
theorem lk_X11_152 : zLk RX11 152 yX11_noCase := Or.inl (zIn 540 (by decide +kernel) (by decide +kernel))
theorem lk_X11_155 : zLk RX11 155 yX11_bit := Or.inl (zIn 543 (by decide +kernel) (by decide +kernel))
theorem lk_X11_159 : zLk RX11 159 yX2_lettingAt := Or.inl (zIn 550 (by decide +kernel) (by decide +kernel))
theorem lk_X11_162 : zLk RX11 162 yX2_letByAll := Or.inl (zIn 560 (by decide +kernel) (by decide +kernel))
theorem lk_X11_166 : zLk RX11 166 yX2_barredByAll := Or.inl (zIn 565 (by decide +kernel) (by decide +kernel))
theorem lk_X11_169 : zLk RX11 169 yX8_gather := Or.inl (zIn 578 (by decide +kernel) (by decide +kernel))
theorem lk_X11_173 : zLk RX11 173 yX8_size := Or.inl (zIn 590 (by decide +kernel) (by decide +kernel))
theorem lk_X11_174 : zLk RX11 174 yX11_leastCase := Or.inl (zIn 598 (by decide +kernel) (by decide +kernel))
theorem lk_X11_178 : zLk RX11 178 yX2_idlePlaces := Or.inl (zIn 605 (by decide +kernel) (by decide +kernel))
theorem lk_X11_181 : zLk RX11 181 yX2_idleInAll := Or.inl (zIn 614 (by decide +kernel) (by decide +kernel))
theorem lk_X11_184 : zLk RX11 184 yX11_noRule := Or.inl (zIn 623 (by decide +kernel) (by decide +kernel))
theorem lk_X11_187 : zLk RX11 187 yX2_isMet := Or.inl (zIn 626 (by decide +kernel) (by decide +kernel))
theorem lk_X11_191 : zLk RX11 191 yX4_has := Or.inl (zIn 634 (by decide +kernel) (by decide +kernel))
theorem lk_X11_194 : zLk RX11 194 yX4_add := Or.inl (zIn 643 (by decide +kernel) (by decide +kernel))
theorem lk_X11_195 : zLk RX11 195 yX4_size := Or.inl (zIn 648 (by decide +kernel) (by decide +kernel))
theorem lk_X11_196 : zLk RX11 196 yX4_clear := Or.inl (zIn 656 (by decide +kernel) (by decide +kernel))
theorem lk_X11_197 : zLk RX11 197 yX6_sift := Or.inl (zIn 664 (by decide +kernel) (by decide +kernel))
theorem lk_X11_201 : zLk RX11 201 yX6_size := Or.inl (zIn 682 (by decide +kernel) (by decide +kernel))
theorem lk_X11_202 : zLk RX11 202 yX6_at := Or.inl (zIn 686 (by decide +kernel) (by decide +kernel))
theorem lk_X11_203 : zLk RX11 203 yX6_passed := Or.inl (zIn 691 (by decide +kernel) (by decide +kernel))
theorem lk_X11_206 : zLk RX11 206 yX2_areAtOdds := Or.inl (zIn 699 (by decide +kernel) (by decide +kernel))
theorem lk_X11_209 : zLk RX11 209 yX6_keepsAs := Or.inl (zIn 708 (by decide +kernel) (by decide +kernel))
theorem lk_X11_213 : zLk RX11 213 yX2_evenestCase := Or.inl (zIn 716 (by decide +kernel) (by decide +kernel))
theorem lk_X11_216 : zLk RX11 216 yX8_fewestCases := Or.inl (zIn 728 (by decide +kernel) (by decide +kernel))
theorem lk_X11_219 : zLk RX11 219 yX10_bracketed := Or.inl (zIn 745 (by decide +kernel) (by decide +kernel))
theorem lk_X11_223 : zLk RX11 223 yX10_mostOpen := Or.inl (zIn 749 (by decide +kernel) (by decide +kernel))
theorem lk_X11_226 : zLk RX11 226 yX3_begin := Or.inl (zIn 760 (by decide +kernel) (by decide +kernel))
theorem lk_X11_230 : zLk RX11 230 yX2_size := Or.inl (zIn 514 (by decide +kernel) (by decide +kernel))
theorem lk_X11_231 : zLk RX11 231 yX3_hold := Or.inl (zIn 769 (by decide +kernel) (by decide +kernel))
theorem lk_X11_234 : zLk RX11 234 yX3_fewestNodes := Or.inl (zIn 774 (by decide +kernel) (by decide +kernel))
theorem lk_X11_237 : zLk RX11 237 yX0_size := Or.inl (zIn 786 (by decide +kernel) (by decide +kernel))
theorem lk_X11_238 : zLk RX11 238 yX0_add := Or.inl (zIn 790 (by decide +kernel) (by decide +kernel))
theorem lk_X11_242 : zLk RX11 242 yX0_servedBy := Or.inl (zIn 800 (by decide +kernel) (by decide +kernel))
theorem lk_X11_245 : zLk RX11 245 yX1_take := Or.inl (zIn 814 (by decide +kernel) (by decide +kernel))
theorem lk_X11_249 : zLk RX11 249 yX1_isThere := Or.inl (zIn 834 (by decide +kernel) (by decide +kernel))
theorem lk_X11_252 : zLk RX11 252 yX1_words := Or.inl (zIn 838 (by decide +kernel) (by decide +kernel))
theorem lk_X11_256 : zLk RX11 256 yX1_order := Or.inl (zIn 842 (by decide +kernel) (by decide +kernel))
theorem lk_X11_259 : zLk RX11 259 yX4_become := Or.inl (zIn 846 (by decide +kernel) (by decide +kernel))
theorem lk_X11_263 : zLk RX11 263 yX1_aims := Or.inl (zIn 847 (by decide +kernel) (by decide +kernel))
theorem lk_X11_266 : zLk RX11 266 yX0_become := Or.inl (zIn 851 (by decide +kernel) (by decide +kernel))
theorem lk_X11_269 : zLk RX11 269 yX10_letters := Or.inl (zIn 856 (by decide +kernel) (by decide +kernel))
theorem lk_X11_272 : zLk RX11 272 yX11_look := Or.inl (zIn 338 (by decide +kernel) (by decide +kernel))
theorem lk_X11_276 : zLk RX11 276 yX11_put := Or.inl (zIn 339 (by decide +kernel) (by decide +kernel))
theorem lk_X11_280 : zLk RX11 280 yX10_become := Or.inl (zIn 357 (by decide +kernel) (by decide +kernel))
theorem lk_X11_282 : zLk RX11 282 yX2_forget := Or.inl (zIn 366 (by decide +kernel) (by decide +kernel))
theorem lk_X11_285 : zLk RX11 285 yX11_readings := Or.inl (zIn 389 (by decide +kernel) (by decide +kernel))
theorem lk_X11_290 : zLk RX11 290 yX2_isMade := Or.inl (zIn 391 (by decide +kernel) (by decide +kernel))
theorem lk_X11_293 : zLk RX11 293 yX2_make := Or.inl (zIn 395 (by decide +kernel) (by decide +kernel))
theorem lk_X11_301 : zLk RX11 301 yX11_look_ := Or.inl (zIn 467 (by decide +kernel) (by decide +kernel))
theorem lk_X0_22 : zLk RX0 22 yX11_put := Or.inr ⟨"MayBeRead", List.mem_append_right _ (List.mem_of_getElem? (i := 794) (by decide +kernel))⟩
theorem lk_X0_26 : zLk RX0 26 yX11_look := Or.inr ⟨"MayBeRead", List.mem_append_right _ (List.mem_of_getElem? (i := 804) (by decide +kernel))⟩
theorem lk_X0_30 : zLk RX0 30 yX0_add := Or.inl (zIn 829 (by decide +kernel) (by decide +kernel))
theorem lk_X0_34 : zLk RX0 34 yX11_bit := Or.inr ⟨"MayBeRead", List.mem_append_right _ (List.mem_of_getElem? (i := 805) (by decide +kernel))⟩
theorem lk_X1_34 : zLk RX1 34 yX10_become := Or.inl (zIn 818 (by decide +kernel) (by decide +kernel))
theorem lk_X1_38 : zLk RX1 38 yX4_become := Or.inl (zIn 819 (by decide +kernel) (by decide +kernel))
theorem lk_X1_41 : zLk RX1 41 yX0_become := Or.inl (zIn 825 (by decide +kernel) (by decide +kernel))
theorem lk_X2_37 : zLk RX2 37 yX7_grow := Or.inl (zIn 399 (by decide +kernel) (by decide +kernel))
theorem lk_X2_43 : zLk RX2 43 yX5_weigh := Or.inl (zIn 432 (by decide +kernel) (by decide +kernel))
theorem lk_X2_47 : zLk RX2 47 yX5_meaning := Or.inl (zIn 499 (by decide +kernel) (by decide +kernel))
theorem lk_X2_51 : zLk RX2 51 yX11_put_ := Or.inr ⟨"MayBeRead", List.mem_append_right _ (List.mem_of_getElem? (i := 500) (by decide +kernel))⟩
theorem lk_X2_55 : zLk RX2 55 yX5_idlePlaces := Or.inl (zIn 501 (by decide +kernel) (by decide +kernel))
theorem lk_X2_59 : zLk RX2 59 yX11_put := Or.inr ⟨"MayBeRead", List.mem_append_right _ (List.mem_of_getElem? (i := 505) (by decide +kernel))⟩
theorem lk_X2_62 : zLk RX2 62 yX5_metRules := Or.inl (zIn 506 (by decide +kernel) (by decide +kernel))
theorem lk_X2_65 : zLk RX2 65 yX11_look_ := Or.inr ⟨"MayBeRead", List.mem_append_right _ (List.mem_of_getElem? (i := 535) (by decide +kernel))⟩
theorem lk_X2_69 : zLk RX2 69 yX11_look := Or.inr ⟨"MayBeRead", List.mem_append_right _ (List.mem_of_getElem? (i := 609) (by decide +kernel))⟩
theorem lk_X2_72 : zLk RX2 72 yX11_bit := Or.inr ⟨"MayBeRead", List.mem_append_right _ (List.mem_of_getElem? (i := 555) (by decide +kernel))⟩
theorem lk_X2_76 : zLk RX2 76 yX2_meaning := Or.inl (zIn 554 (by decide +kernel) (by decide +kernel))
theorem lk_X2_83 : zLk RX2 83 yX2_idlePlaces := Or.inl (zIn 618 (by decide +kernel) (by decide +kernel))
theorem lk_X2_86 : zLk RX2 86 yX2_isMet := Or.inl (zIn 703 (by decide +kernel) (by decide +kernel))
theorem lk_X2_90 : zLk RX2 90 yX2_lettingAt := Or.inl (zIn 720 (by decide +kernel) (by decide +kernel))
theorem lkm_X2_93 : Cond.methodLink RX2 93 Lib.Math.abs.name ∈ WS := zIn 721 (by decide +kernel) (by decide +kernel)
theorem lk_X3_25 : zLk RX3 25 yX11_put := Or.inr ⟨"MayBeRead", List.mem_append_right _ (List.mem_of_getElem? (i := 764) (by decide +kernel))⟩
theorem lk_X3_29 : zLk RX3 29 yX7_size := Or.inl (zIn 765 (by decide +kernel) (by decide +kernel))
theorem lk_X3_34 : zLk RX3 34 yX7_kind := Or.inl (zIn 766 (by decide +kernel) (by decide +kernel))
theorem lk_X3_38 : zLk RX3 38 yX7_from := Or.inl (zIn 767 (by decide +kernel) (by decide +kernel))
theorem lk_X3_41 : zLk RX3 41 yX7_end := Or.inl (zIn 768 (by decide +kernel) (by decide +kernel))
theorem lk_X3_44 : zLk RX3 44 yX11_look := Or.inr ⟨"MayBeRead", List.mem_append_right _ (List.mem_of_getElem? (i := 773) (by decide +kernel))⟩
theorem lk_X3_48 : zLk RX3 48 yX3_sharedWith := Or.inl (zIn 778 (by decide +kernel) (by decide +kernel))
theorem lk_X4_19 : zLk RX4 19 yX11_look := Or.inr ⟨"MayBeRead", List.mem_append_right _ (List.mem_of_getElem? (i := 642) (by decide +kernel))⟩
theorem lk_X4_23 : zLk RX4 23 yX4_at := Or.inl (zIn 638 (by decide +kernel) (by decide +kernel))
theorem lk_X4_27 : zLk RX4 27 yX11_put := Or.inr ⟨"MayBeRead", List.mem_append_right _ (List.mem_of_getElem? (i := 647) (by decide +kernel))⟩
theorem lk_X4_31 : zLk RX4 31 yX4_clear := Or.inl (zIn 823 (by decide +kernel) (by decide +kernel))
theorem lk_X4_34 : zLk RX4 34 yX4_add := Or.inl (zIn 824 (by decide +kernel) (by decide +kernel))
theorem lk_X5_22 : zLk RX5 22 yX11_look_ := Or.inr ⟨"MayBeRead", List.mem_append_right _ (List.mem_of_getElem? (i := 448) (by decide +kernel))⟩
theorem lk_X5_33 : zLk RX5 33 yX7_size := Or.inl (zIn 436 (by decide +kernel) (by decide +kernel))
theorem lk_X5_39 : zLk RX5 39 yX5_meaningOf := Or.inl (zIn 440 (by decide +kernel) (by decide +kernel))
theorem lk_X5_43 : zLk RX5 43 yX11_put_ := Or.inr ⟨"MayBeRead", List.mem_append_right _ (List.mem_of_getElem? (i := 470) (by decide +kernel))⟩
theorem lk_X5_47 : zLk RX5 47 yX5_bareOf := Or.inl (zIn 471 (by decide +kernel) (by decide +kernel))
theorem lk_X5_51 : zLk RX5 51 yX11_put := Or.inr ⟨"MayBeRead", List.mem_append_right _ (List.mem_of_getElem? (i := 476) (by decide +kernel))⟩
theorem lk_X5_54 : zLk RX5 54 yX5_brokenAt := Or.inl (zIn 477 (by decide +kernel) (by decide +kernel))
theorem lk_X5_58 : zLk RX5 58 yX5_findIdle := Or.inl (zIn 487 (by decide +kernel) (by decide +kernel))
theorem lk_X5_62 : zLk RX5 62 yX5_brokenByWhole := Or.inl (zIn 491 (by decide +kernel) (by decide +kernel))
theorem lk_X5_65 : zLk RX5 65 yX7_inner := Or.inl (zIn 444 (by decide +kernel) (by decide +kernel))
theorem lk_X5_69 : zLk RX5 69 yX7_behind := Or.inl (zIn 449 (by decide +kernel) (by decide +kernel))
theorem lk_X5_72 : zLk RX5 72 yX7_kind := Or.inl (zIn 453 (by decide +kernel) (by decide +kernel))
theorem lk_X5_75 : zLk RX5 75 yX7_from := Or.inl (zIn 457 (by decide +kernel) (by decide +kernel))
theorem lk_X5_78 : zLk RX5 78 yX10_at := Or.inl (zIn 461 (by decide +kernel) (by decide +kernel))
theorem lk_X5_83 : zLk RX5 83 yX11_casesOf := Or.inr ⟨"MayBeRead", List.mem_append_right _ (List.mem_of_getElem? (i := 462) (by decide +kernel))⟩
theorem lk_X5_91 : zLk RX5 91 yX11_look := Or.inr ⟨"MayBeRead", List.mem_append_right _ (List.mem_of_getElem? (i := 475) (by decide +kernel))⟩
theorem lk_X5_94 : zLk RX5 94 yX11_isJoin := Or.inr ⟨"MayBeRead", List.mem_append_right _ (List.mem_of_getElem? (i := 486) (by decide +kernel))⟩
theorem lk_X5_98 : zLk RX5 98 yX5_meaning := Or.inl (zIn 495 (by decide +kernel) (by decide +kernel))
theorem lk_X5_102 : zLk RX5 102 yX7_end := Or.inl (zIn 481 (by decide +kernel) (by decide +kernel))
theorem lk_X5_105 : zLk RX5 105 yX10_closeAfter := Or.inl (zIn 485 (by decide +kernel) (by decide +kernel))
theorem lk_X6_19 : zLk RX6 19 yX11_look := Or.inr ⟨"MayBeRead", List.mem_append_right _ (List.mem_of_getElem? (i := 680) (by decide +kernel))⟩
theorem lk_X6_26 : zLk RX6 26 yX2_size := Or.inl (zIn 668 (by decide +kernel) (by decide +kernel))
theorem lk_X6_31 : zLk RX6 31 yX11_put := Or.inr ⟨"MayBeRead", List.mem_append_right _ (List.mem_of_getElem? (i := 669) (by decide +kernel))⟩
theorem lk_X6_35 : zLk RX6 35 yX4_size := Or.inl (zIn 670 (by decide +kernel) (by decide +kernel))
theorem lk_X6_38 : zLk RX6 38 yX4_at := Or.inl (zIn 671 (by decide +kernel) (by decide +kernel))
theorem lk_X6_42 : zLk RX6 42 yX6_keepMet := Or.inl (zIn 672 (by decide +kernel) (by decide +kernel))
theorem lk_X6_46 : zLk RX6 46 yX6_at := Or.inl (zIn 676 (by decide +kernel) (by decide +kernel))
theorem lk_X6_47 : zLk RX6 47 yX2_isMet := Or.inl (zIn 681 (by decide +kernel) (by decide +kernel))
theorem lk_X7_41 : zLk RX7 41 yX11_look := Or.inr ⟨"MayBeRead", List.mem_append_right _ (List.mem_of_getElem? (i := 410) (by decide +kernel))⟩
theorem lk_X7_48 : zLk RX7 48 yX10_size := Or.inl (zIn 403 (by decide +kernel) (by decide +kernel))
theorem lk_X7_53 : zLk RX7 53 yX7_await := Or.inl (zIn 404 (by decide +kernel) (by decide +kernel))
theorem lk_X7_57 : zLk RX7 57 yX11_look_ := Or.inr ⟨"MayBeRead", List.mem_append_right _ (List.mem_of_getElem? (i := 411) (by decide +kernel))⟩
theorem lk_X7_60 : zLk RX7 60 yX9_frontNumber := Or.inl (zIn 412 (by decide +kernel) (by decide +kernel))
theorem lk_X7_66 : zLk RX7 66 yX11_put := Or.inr ⟨"MayBeRead", List.mem_append_right _ (List.mem_of_getElem? (i := 408) (by decide +kernel))⟩
theorem lk_X7_70 : zLk RX7 70 yX7_growFront := Or.inl (zIn 416 (by decide +kernel) (by decide +kernel))
theorem lk_X7_74 : zLk RX7 74 yX7_growJoin := Or.inl (zIn 426 (by decide +kernel) (by decide +kernel))
theorem lk_X7_78 : zLk RX7 78 yX11_put_ := Or.inr ⟨"MayBeRead", List.mem_append_right _ (List.mem_of_getElem? (i := 409) (by decide +kernel))⟩
theorem lk_X7_81 : zLk RX7 81 yX10_at := Or.inl (zIn 420 (by decide +kernel) (by decide +kernel))
theorem lk_X7_85 : zLk RX7 85 yX11_kindOf := Or.inr ⟨"MayBeRead", List.mem_append_right _ (List.mem_of_getElem? (i := 421) (by decide +kernel))⟩
theorem lk_X7_88 : zLk RX7 88 yX7_addNode := Or.inl (zIn 422 (by decide +kernel) (by decide +kernel))
theorem lk_X7_92 : zLk RX7 92 yX11_isJoin := Or.inr ⟨"MayBeRead", List.mem_append_right _ (List.mem_of_getElem? (i := 430) (by decide +kernel))⟩
theorem lk_X7_96 : zLk RX7 96 yX9_number := Or.inl (zIn 431 (by decide +kernel) (by decide +kernel))
theorem lk_X8_19 : zLk RX8 19 yX2_size := Or.inl (zIn 582 (by decide +kernel) (by decide +kernel))
theorem lk_X8_24 : zLk RX8 24 yX2_meaning := Or.inl (zIn 583 (by decide +kernel) (by decide +kernel))
theorem lk_X8_28 : zLk RX8 28 yX8_has := Or.inl (zIn 584 (by decide +kernel) (by decide +kernel))
theorem lk_X8_32 : zLk RX8 32 yX11_put_ := Or.inr ⟨"MayBeRead", List.mem_append_right _ (List.mem_of_getElem? (i := 589) (by decide +kernel))⟩
theorem lk_X8_36 : zLk RX8 36 yX11_look_ := Or.inr ⟨"MayBeRead", List.mem_append_right _ (List.mem_of_getElem? (i := 588) (by decide +kernel))⟩
theorem lk_X8_40 : zLk RX8 40 yX8_arePartedBy := Or.inl (zIn 732 (by decide +kernel) (by decide +kernel))
theorem lk_X8_44 : zLk RX8 44 yX8_isThirdFor := Or.inl (zIn 737 (by decide +kernel) (by decide +kernel))
theorem lk_X8_48 : zLk RX8 48 yX11_bit := Or.inr ⟨"MayBeRead", List.mem_append_right _ (List.mem_of_getElem? (i := 736) (by decide +kernel))⟩
theorem lk_X9_18 : zLk RX9 18 yX11_look_ := Or.inr ⟨"MayBeRead", List.mem_append_right _ (List.mem_of_getElem? (i := 274) (by decide +kernel))⟩
theorem lk_X9_22 : zLk RX9 22 yX10_size := Or.inl (zIn 248 (by decide +kernel) (by decide +kernel))
theorem lk_X9_28 : zLk RX9 28 yX10_closeAfter := Or.inl (zIn 252 (by decide +kernel) (by decide +kernel))
theorem lk_X9_32 : zLk RX9 32 yX10_at := Or.inl (zIn 259 (by decide +kernel) (by decide +kernel))
theorem lk_X9_35 : zLk RX9 35 yX11_kindOf := Or.inr ⟨"MayBeRead", List.mem_append_right _ (List.mem_of_getElem? (i := 263) (by decide +kernel))⟩
theorem lk_X9_38 : zLk RX9 38 yX9_fronted := Or.inl (zIn 266 (by decide +kernel) (by decide +kernel))
theorem lk_X9_42 : zLk RX9 42 yX11_put_ := Or.inr ⟨"MayBeRead", List.mem_append_right _ (List.mem_of_getElem? (i := 277) (by decide +kernel))⟩
theorem lk_X9_46 : zLk RX9 46 yX9_parted := Or.inl (zIn 280 (by decide +kernel) (by decide +kernel))
theorem lk_X9_50 : zLk RX9 50 yX9_number := Or.inl (zIn 270 (by decide +kernel) (by decide +kernel))
theorem lk_X9_54 : zLk RX9 54 yX11_isJoin := Or.inr ⟨"MayBeRead", List.mem_append_right _ (List.mem_of_getElem? (i := 284) (by decide +kernel))⟩
theorem lk_X10_19 : zLk RX10 19 yX11_look := Or.inr ⟨"MayBeRead", List.mem_append_right _ (List.mem_of_getElem? (i := 256) (by decide +kernel))⟩
theorem lk_X10_23 : zLk RX10 23 yX11_put := Or.inr ⟨"MayBeRead", List.mem_append_right _ (List.mem_of_getElem? (i := 241) (by decide +kernel))⟩
theorem lk_X10_27 : zLk RX10 27 yX10_clear := Or.inl (zIn 361 (by decide +kernel) (by decide +kernel))
theorem lk_X10_30 : zLk RX10 30 yX10_at := Or.inl (zIn 350 (by decide +kernel) (by decide +kernel))
theorem lk_X10_34 : zLk RX10 34 yX10_add := Or.inl (zIn 365 (by decide +kernel) (by decide +kernel))
theorem lk_X10_38 : zLk RX10 38 yX11_kindOf := Or.inr ⟨"MayBeRead", List.mem_append_right _ (List.mem_of_getElem? (i := 351) (by decide +kernel))⟩
theorem lkm_X10_41 : Cond.methodLink RX10 41 Lib.Math.max.name ∈ WS := zIn 753 (by decide +kernel) (by decide +kernel)
theorem lk_X10_47 : zLk RX10 47 yX11_isJoin := Or.inr ⟨"MayBeRead", List.mem_append_right _ (List.mem_of_getElem? (i := 352) (by decide +kernel))⟩
theorem lk_L_15 : zLk RL 15 yX11_feed := Or.inl (zIn 330 (by decide +kernel) (by decide +kernel))
theorem lk_L_19 : zLk RL 19 yX12_feed := Or.inl (zIn 1041 (by decide +kernel) (by decide +kernel))
theorem lk_L_20 : zLk RL 20 yX11_read := Or.inl (zIn 342 (by decide +kernel) (by decide +kernel))
theorem lk_L_24 : zLk RL 24 yX12_read := Or.inl (zIn 1050 (by decide +kernel) (by decide +kernel))
theorem lk_L_25 : zLk RL 25 yX11_wordAt := Or.inl (zIn 371 (by decide +kernel) (by decide +kernel))
theorem lk_L_29 : zLk RL 29 yX12_wordAt := Or.inl (zIn 1057 (by decide +kernel) (by decide +kernel))
theorem lk_L_30 : zLk RL 30 yX11_readings := Or.inl (zIn 376 (by decide +kernel) (by decide +kernel))
theorem lk_L_34 : zLk RL 34 yX12_readings := Or.inl (zIn 1064 (by decide +kernel) (by decide +kernel))
theorem lk_L_35 : zLk RL 35 yX11_nodes := Or.inl (zIn 381 (by decide +kernel) (by decide +kernel))
theorem lk_L_38 : zLk RL 38 yX12_nodes := Or.inl (zIn 1065 (by decide +kernel) (by decide +kernel))
theorem lk_L_39 : zLk RL 39 yX11_node := Or.inl (zIn 520 (by decide +kernel) (by decide +kernel))
theorem lk_L_43 : zLk RL 43 yX12_node := Or.inl (zIn 1073 (by decide +kernel) (by decide +kernel))
theorem lk_L_44 : zLk RL 44 yX11_means := Or.inl (zIn 527 (by decide +kernel) (by decide +kernel))
theorem lk_L_48 : zLk RL 48 yX12_means := Or.inl (zIn 1077 (by decide +kernel) (by decide +kernel))
theorem lk_L_49 : zLk RL 49 yX11_lets := Or.inl (zIn 536 (by decide +kernel) (by decide +kernel))
theorem lk_L_53 : zLk RL 53 yX12_lets := Or.inl (zIn 1081 (by decide +kernel) (by decide +kernel))
theorem lk_L_54 : zLk RL 54 yX11_map := Or.inl (zIn 546 (by decide +kernel) (by decide +kernel))
theorem lk_L_57 : zLk RL 57 yX12_map := Or.inl (zIn 1089 (by decide +kernel) (by decide +kernel))
theorem lk_L_58 : zLk RL 58 yX11_all := Or.inl (zIn 556 (by decide +kernel) (by decide +kernel))
theorem lk_L_62 : zLk RL 62 yX12_all := Or.inl (zIn 1097 (by decide +kernel) (by decide +kernel))
theorem lk_L_63 : zLk RL 63 yX11_same := Or.inl (zIn 570 (by decide +kernel) (by decide +kernel))
theorem lk_L_66 : zLk RL 66 yX12_same := Or.inl (zIn 1101 (by decide +kernel) (by decide +kernel))
theorem lk_L_67 : zLk RL 67 yX11_unlike := Or.inl (zIn 574 (by decide +kernel) (by decide +kernel))
theorem lk_L_70 : zLk RL 70 yX12_unlike := Or.inl (zIn 1105 (by decide +kernel) (by decide +kernel))
theorem lk_L_71 : zLk RL 71 yX11_part := Or.inl (zIn 594 (by decide +kernel) (by decide +kernel))
theorem lk_L_74 : zLk RL 74 yX12_part := Or.inl (zIn 1113 (by decide +kernel) (by decide +kernel))
theorem lk_L_75 : zLk RL 75 yX11_idle := Or.inl (zIn 601 (by decide +kernel) (by decide +kernel))
theorem lk_L_78 : zLk RL 78 yX12_idle := Or.inl (zIn 1117 (by decide +kernel) (by decide +kernel))
theorem lk_L_79 : zLk RL 79 yX11_needless := Or.inl (zIn 610 (by decide +kernel) (by decide +kernel))
theorem lk_L_82 : zLk RL 82 yX12_needless := Or.inl (zIn 1121 (by decide +kernel) (by decide +kernel))
theorem lk_L_83 : zLk RL 83 yX11_meets := Or.inl (zIn 619 (by decide +kernel) (by decide +kernel))
theorem lk_L_86 : zLk RL 86 yX12_meets := Or.inl (zIn 1125 (by decide +kernel) (by decide +kernel))
theorem lk_L_87 : zLk RL 87 yX11_choose := Or.inl (zIn 630 (by decide +kernel) (by decide +kernel))
theorem lk_L_90 : zLk RL 90 yX12_choose := Or.inl (zIn 1129 (by decide +kernel) (by decide +kernel))
theorem lk_L_91 : zLk RL 91 yX11_unchoose := Or.inl (zIn 652 (by decide +kernel) (by decide +kernel))
theorem lk_L_94 : zLk RL 94 yX12_unchoose := Or.inl (zIn 1133 (by decide +kernel) (by decide +kernel))
theorem lk_L_95 : zLk RL 95 yX11_leftOver := Or.inl (zIn 660 (by decide +kernel) (by decide +kernel))
theorem lk_L_98 : zLk RL 98 yX12_leftOver := Or.inl (zIn 1137 (by decide +kernel) (by decide +kernel))
theorem lk_L_99 : zLk RL 99 yX11_passedOver := Or.inl (zIn 687 (by decide +kernel) (by decide +kernel))
theorem lk_L_102 : zLk RL 102 yX12_passedOver := Or.inl (zIn 1145 (by decide +kernel) (by decide +kernel))
theorem lk_L_103 : zLk RL 103 yX11_quarrel := Or.inl (zIn 695 (by decide +kernel) (by decide +kernel))
theorem lk_L_106 : zLk RL 106 yX12_quarrel := Or.inl (zIn 1149 (by decide +kernel) (by decide +kernel))
theorem lk_L_107 : zLk RL 107 yX11_hangs := Or.inl (zIn 704 (by decide +kernel) (by decide +kernel))
theorem lk_L_110 : zLk RL 110 yX12_hangs := Or.inl (zIn 1153 (by decide +kernel) (by decide +kernel))
theorem lk_L_111 : zLk RL 111 yX11_test := Or.inl (zIn 712 (by decide +kernel) (by decide +kernel))
theorem lk_L_114 : zLk RL 114 yX12_test := Or.inl (zIn 1157 (by decide +kernel) (by decide +kernel))
theorem lk_L_115 : zLk RL 115 yX11_fewest := Or.inl (zIn 724 (by decide +kernel) (by decide +kernel))
theorem lk_L_118 : zLk RL 118 yX12_fewest := Or.inl (zIn 1161 (by decide +kernel) (by decide +kernel))
theorem lk_L_119 : zLk RL 119 yX11_bracket := Or.inl (zIn 741 (by decide +kernel) (by decide +kernel))
theorem lk_L_122 : zLk RL 122 yX12_bracket := Or.inl (zIn 1173 (by decide +kernel) (by decide +kernel))
theorem lk_L_123 : zLk RL 123 yX11_mend := Or.inl (zIn 756 (by decide +kernel) (by decide +kernel))
theorem lk_L_126 : zLk RL 126 yX12_mend := Or.inl (zIn 1177 (by decide +kernel) (by decide +kernel))
theorem lk_L_127 : zLk RL 127 yX11_aim := Or.inl (zIn 782 (by decide +kernel) (by decide +kernel))
theorem lk_L_130 : zLk RL 130 yX12_aim := Or.inl (zIn 1193 (by decide +kernel) (by decide +kernel))
theorem lk_L_131 : zLk RL 131 yX11_serves := Or.inl (zIn 795 (by decide +kernel) (by decide +kernel))
theorem lk_L_134 : zLk RL 134 yX12_serves := Or.inl (zIn 1200 (by decide +kernel) (by decide +kernel))
theorem lk_L_135 : zLk RL 135 yX11_best := Or.inl (zIn 806 (by decide +kernel) (by decide +kernel))
theorem lk_L_138 : zLk RL 138 yX12_best := Or.inl (zIn 1209 (by decide +kernel) (by decide +kernel))
theorem lk_L_139 : zLk RL 139 yX11_image := Or.inl (zIn 810 (by decide +kernel) (by decide +kernel))
theorem lk_L_142 : zLk RL 142 yX12_image := Or.inl (zIn 1213 (by decide +kernel) (by decide +kernel))
theorem lk_L_143 : zLk RL 143 yX11_on := Or.inl (zIn 830 (by decide +kernel) (by decide +kernel))
theorem lk_L_146 : zLk RL 146 yX12_on := Or.inl (zIn 1217 (by decide +kernel) (by decide +kernel))
theorem lk_L_147 : zLk RL 147 yX11_count := Or.inl (zIn 852 (by decide +kernel) (by decide +kernel))
theorem lk_L_150 : zLk RL 150 yX12_count := Or.inl (zIn 1221 (by decide +kernel) (by decide +kernel))
theorem lk_X12_88 : zLk RX12 88 yX12_finds := Or.inl (zIn 866 (by decide +kernel) (by decide +kernel))
theorem lk_X12_91 : zLk RX12 91 yX12_refuse := Or.inl (zIn 1045 (by decide +kernel) (by decide +kernel))
theorem lk_X12_100 : zLk RX12 100 yX12_kindOf := Or.inl (zIn 892 (by decide +kernel) (by decide +kernel))
theorem lk_X12_103 : zLk RX12 103 yX12_isLetter := Or.inl (zIn 881 (by decide +kernel) (by decide +kernel))
theorem lk_X12_107 : zLk RX12 107 yX12_fault := Or.inl (zIn 1054 (by decide +kernel) (by decide +kernel))
theorem lk_X12_111 : zLk RX12 111 yX12_isIn := Or.inl (zIn 1061 (by decide +kernel) (by decide +kernel))
theorem lk_X12_115 : zLk RX12 115 yX12_waysOf := Or.inl (zIn 884 (by decide +kernel) (by decide +kernel))
theorem lk_X12_119 : zLk RX12 119 yX12_isBracketed := Or.inl (zIn 888 (by decide +kernel) (by decide +kernel))
theorem lk_X12_122 : zLk RX12 122 yX12_firstWays := Or.inl (zIn 877 (by decide +kernel) (by decide +kernel))
theorem lk_X12_135 : zLk RX12 135 yX12_notes := Or.inl (zIn 908 (by decide +kernel) (by decide +kernel))
theorem lk_X12_144 : zLk RX12 144 yX12_breaks := Or.inl (zIn 913 (by decide +kernel) (by decide +kernel))
theorem lk_X12_148 : zLk RX12 148 yX12_meansRun := Or.inl (zIn 904 (by decide +kernel) (by decide +kernel))
theorem lk_X12_154 : zLk RX12 154 yX12_meansNow := Or.inl (zIn 900 (by decide +kernel) (by decide +kernel))
theorem lk_X12_158 : zLk RX12 158 yX12_mask := Or.inl (zIn 870 (by decide +kernel) (by decide +kernel))
theorem lk_X12_161 : zLk RX12 161 yX12_findWays := Or.inl (zIn 873 (by decide +kernel) (by decide +kernel))
theorem lk_X12_164 : zLk RX12 164 yX12_readings := Or.inl (zIn 895 (by decide +kernel) (by decide +kernel))
theorem lk_X12_173 : zLk RX12 173 yX12_idleIn := Or.inl (zIn 918 (by decide +kernel) (by decide +kernel))
theorem lk_X12_176 : zLk RX12 176 yX12_wrong := Or.inl (zIn 1069 (by decide +kernel) (by decide +kernel))
theorem lk_X12_179 : zLk RX12 179 yX12_does := Or.inl (zIn 1085 (by decide +kernel) (by decide +kernel))
theorem lk_X12_182 : zLk RX12 182 yX12_lettingOf := Or.inl (zIn 1093 (by decide +kernel) (by decide +kernel))
theorem lk_X12_188 : zLk RX12 188 yX12_findUnlike := Or.inl (zIn 1109 (by decide +kernel) (by decide +kernel))
theorem lk_X12_197 : zLk RX12 197 yX12_findOver := Or.inl (zIn 1141 (by decide +kernel) (by decide +kernel))
theorem lk_X12_201 : zLk RX12 201 yX12_isParted := Or.inl (zIn 1169 (by decide +kernel) (by decide +kernel))
theorem lk_X12_205 : zLk RX12 205 yX12_isPartedBy := Or.inl (zIn 1165 (by decide +kernel) (by decide +kernel))
theorem lk_X12_209 : zLk RX12 209 yX12_has := Or.inl (zIn 1185 (by decide +kernel) (by decide +kernel))
theorem lk_X12_213 : zLk RX12 213 yX12_isMended := Or.inl (zIn 1181 (by decide +kernel) (by decide +kernel))
theorem lk_X12_216 : zLk RX12 216 yX12_isMark := Or.inl (zIn 1189 (by decide +kernel) (by decide +kernel))
theorem lk_X12_219 : zLk RX12 219 yX12_within := Or.inl (zIn 1197 (by decide +kernel) (by decide +kernel))
theorem lk_X12_227 : zLk RX12 227 yX12_servesBy := Or.inl (zIn 1205 (by decide +kernel) (by decide +kernel))
theorem kc_X11_108 : Cond.constantLong RX11 108 255 ∈ WS := zIn 341 (by decide +kernel) (by decide +kernel)
theorem kc_X11_288 : Cond.constantLong RX11 288 200 ∈ WS := zIn 390 (by decide +kernel) (by decide +kernel)
theorem kc_X5_87 : Cond.constantLong RX5 87 4294967295 ∈ WS := zIn 468 (by decide +kernel) (by decide +kernel)
theorem kc_X5_89 : Cond.constantLong RX5 89 (-1) ∈ WS := zIn 469 (by decide +kernel) (by decide +kernel)
theorem kc_X2_79 : Cond.constantLong RX2 79 4294967295 ∈ WS := zIn 564 (by decide +kernel) (by decide +kernel)
theorem kc_X2_81 : Cond.constantLong RX2 81 (-1) ∈ WS := zIn 569 (by decide +kernel) (by decide +kernel)
theorem kc_X11_241 : Cond.constant RX11 241 1000000000 ∈ WS := zIn 799 (by decide +kernel) (by decide +kernel)
theorem kc_X12_168 : Cond.constantLong RX12 168 200 ∈ WS := zIn 899 (by decide +kernel) (by decide +kernel)
theorem kc_X12_142 : Cond.constantLong RX12 142 4294967295 ∈ WS := zIn 912 (by decide +kernel) (by decide +kernel)
theorem kc_X12_152 : Cond.constantLong RX12 152 (-1) ∈ WS := zIn 917 (by decide +kernel) (by decide +kernel)
theorem kc_X12_98 : Cond.constantLong RX12 98 255 ∈ WS := zIn 1049 (by decide +kernel) (by decide +kernel)
theorem kc_X12_226 : Cond.constant RX12 226 1000000000 ∈ WS := zIn 1204 (by decide +kernel) (by decide +kernel)
theorem kc_L_13 : Cond.constantLong RL 13 4294967295 ∈ WS := zIn 1225 (by decide +kernel) (by decide +kernel)
