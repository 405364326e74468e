/-! ===== the law's state, and its calls ===== -/
def R_law : String := "TreeSchoolLaw"
def lw_P (b : Addr) (xs : List Int32) (args : Array Value) (s : State) : Prop := args = #[.ref b] ∧ s.IntsAt b xs ∧ xs.length ≤ 3072 ∧ (Jvm.Cond.and given_1 narrow_1).before args s = true
def lw_Q (_ : Array Value) (s : State) (o : Outcome) (t : State) : Prop := o = .returned (some (.int 1)) ∧ Framed s o t [] 601024 7293033
def lw_Z (below : List Frame) (a : Array Value) (s : State) : State → Prop := fun t => ∃ o, t.status = .running ∧ Ended t below o ∧ lw_Q a s o t
/-- the law's own end, with 1 on the stack, nothing written that was there before, its room as the claim has it -/
theorem lw_ret {p : Program} {l : Launch} {e : Env} {s : State} {m : MethodId} {below : List Frame} {meth : Method} {c : Code} {b : Nat} (hx : p.tables.exec = Jvm.exec) (hb : c.code = code) (hr : meth.sig.returnType = ret) (hlocks : meth.locks = false) {pc : Nat} {H : Heap} {ls : Array Slot} (hdg : decode code pc = .ok (.ireturn, 1)) : W p l e room_1 s m #[Value.ref b] below meth c H [] 601024 7293033 (lw_Z below #[Value.ref b] s) (F0 m pc ls [.int 1]) := by
  intro T hT X
  obtain ⟨fs, hret, hrun, hended, hW, hframe⟩ := X.leave (v := some (.int 1)) (hlocks := hlocks) (fun h => by rw [hr] at h; cases h)
  have hmeth' : T.vm.method? m = some meth := X.method'
  refine ⟨T.setFrames fs, ?_, .returned (some (.int 1)), hrun, hended, rfl, ⟨_, rfl⟩, hW, hframe⟩
  jvm_step X.here [X.here.top, hx, hb, hdg, hmeth', hr, ret, narrow_b1]
  (try refine ⟨rfl, ?_⟩); (try refine ⟨rfl, ?_⟩)
  first | (intro acts; rw [hret _ acts rfl rfl rfl]) | rw [hret _ _ rfl rfl rfl]
  exact Steps.refl _
/-- what holds at the law's entry: the machine, the code, the tables' words (any of lw_tbl by 'hts w (by decide +kernel)'), the script of L ints xs at the cell b, what the Statement gives of the start (any of its parts by flat_of_before) -/
def lw_At (p : Program) (s : State) (m : MethodId) (meth : Method) (c : Code) (b L : Nat) (xs : Nat → Int32) : Prop :=
  p.tables.exec = Jvm.exec ∧ c.code = code ∧ meth.sig.returnType = ret ∧ c.maxLocals = 8 ∧ s.vm.findClass R_law = some m.cls ∧ (∀ w ∈ lw_tbl, w.before #[Value.ref b] s = true) ∧ va_X b L xs s s.heap ∧ b < s.heap.size ∧ meth.locks = false ∧ (Jvm.Cond.and given_1 narrow_1).before #[Value.ref b] s = true
def swP (p : Nat) : Nat := if 37 ≤ p ∧ p < 48 then p + 11 else if 48 ≤ p ∧ p < 59 then p - 11 else p
def swV : Value → Value
  | .ref p => .ref (swP p)
  | v => v
theorem swP_2 (p : Nat) : swP (swP p) = p := by
  unfold swP
  by_cases h1 : 37 ≤ p ∧ p < 48
  · rw [if_pos h1, if_neg (by omega), if_pos (by omega)]; omega
  · by_cases h2 : 48 ≤ p ∧ p < 59
    · rw [if_neg h1, if_pos h2, if_pos (by omega)]; omega
    · rw [if_neg h1, if_neg h2, if_neg h1, if_neg h2]
theorem rV_sw (ad : Nat → Nat) (sa : Nat) (v : Value) : rV (fun j => ad (swP j)) sa (swV v) = rV ad sa v := by
  cases v with
  | ref p => simp only [swV, rV, swP_2]
  | _ => rfl
theorem sw_one {ad ad' : Nat → Nat} {sa : Nat} {cid : Nat → ClassId} {w1 w2 : XW} {k k' : Nat} {e1 e2 : va_E} {q : Nat × va_E} (h2 : xat w2 k = some e2) (h1 : xat w1 k' = some e1) (ha : ad' k = ad k') (he : xr ad' sa cid e2 = xr ad sa cid e1) (h : (cw ad' sa cid w2)[k]? = some q) : (cw ad sa cid w1)[k']? = some q := by
  rw [cw_get h2] at h
  rw [cw_get h1, ← he, ← ha]
  exact h
theorem all59 {P : Nat → Prop} (h0 : P 0) (h1 : P 1) (h2 : P 2) (h3 : P 3) (h4 : P 4) (h5 : P 5) (h6 : P 6) (h7 : P 7) (h8 : P 8) (h9 : P 9) (h10 : P 10) (h11 : P 11) (h12 : P 12) (h13 : P 13) (h14 : P 14) (h15 : P 15) (h16 : P 16) (h17 : P 17) (h18 : P 18) (h19 : P 19) (h20 : P 20) (h21 : P 21) (h22 : P 22) (h23 : P 23) (h24 : P 24) (h25 : P 25) (h26 : P 26) (h27 : P 27) (h28 : P 28) (h29 : P 29) (h30 : P 30) (h31 : P 31) (h32 : P 32) (h33 : P 33) (h34 : P 34) (h35 : P 35) (h36 : P 36) (h37 : P 37) (h38 : P 38) (h39 : P 39) (h40 : P 40) (h41 : P 41) (h42 : P 42) (h43 : P 43) (h44 : P 44) (h45 : P 45) (h46 : P 46) (h47 : P 47) (h48 : P 48) (h49 : P 49) (h50 : P 50) (h51 : P 51) (h52 : P 52) (h53 : P 53) (h54 : P 54) (h55 : P 55) (h56 : P 56) (h57 : P 57) (h58 : P 58) : ∀ k : Nat, k < 59 → P k
  | 0, _ => h0
  | 1, _ => h1
  | 2, _ => h2
  | 3, _ => h3
  | 4, _ => h4
  | 5, _ => h5
  | 6, _ => h6
  | 7, _ => h7
  | 8, _ => h8
  | 9, _ => h9
  | 10, _ => h10
  | 11, _ => h11
  | 12, _ => h12
  | 13, _ => h13
  | 14, _ => h14
  | 15, _ => h15
  | 16, _ => h16
  | 17, _ => h17
  | 18, _ => h18
  | 19, _ => h19
  | 20, _ => h20
  | 21, _ => h21
  | 22, _ => h22
  | 23, _ => h23
  | 24, _ => h24
  | 25, _ => h25
  | 26, _ => h26
  | 27, _ => h27
  | 28, _ => h28
  | 29, _ => h29
  | 30, _ => h30
  | 31, _ => h31
  | 32, _ => h32
  | 33, _ => h33
  | 34, _ => h34
  | 35, _ => h35
  | 36, _ => h36
  | 37, _ => h37
  | 38, _ => h38
  | 39, _ => h39
  | 40, _ => h40
  | 41, _ => h41
  | 42, _ => h42
  | 43, _ => h43
  | 44, _ => h44
  | 45, _ => h45
  | 46, _ => h46
  | 47, _ => h47
  | 48, _ => h48
  | 49, _ => h49
  | 50, _ => h50
  | 51, _ => h51
  | 52, _ => h52
  | 53, _ => h53
  | 54, _ => h54
  | 55, _ => h55
  | 56, _ => h56
  | 57, _ => h57
  | 58, _ => h58
  | n + 59, h => absurd h (by omega)
section SW
variable {ad : Nat → Nat} {sa : Nat} {cid : Nat → ClassId} {cg fg : Value} {I : Nat → Int32} {J : Nat → Int64} {A : Nat → Nat → Int32} {B : Nat → Nat → Int64}
abbrev wS1 (cg fg : Value) (I : Nat → Int32) (J : Nat → Int64) (A : Nat → Nat → Int32) (B : Nat → Nat → Int64) : XW := wX (.ref 48) (.ref 37) (.ref 48) cg fg I J A B
abbrev wS2 (cg fg : Value) (I : Nat → Int32) (J : Nat → Int64) (A : Nat → Nat → Int32) (B : Nat → Nat → Int64) : XW := wX (.ref 37) (.ref 48) (.ref 37) (swV cg) (swV fg) (swI I) J (swA A) (swA B)
theorem sw_19 : xr (fun j => ad (swP j)) sa cid (.inr (0, [.ref 14, .ref 17, .ref 20, .ref 21, .ref 22, .ref 23, .ref 24, swV cg, .int (swI I 1908)])) = xr ad sa cid (.inr (0, [.ref 14, .ref 17, .ref 20, .ref 21, .ref 22, .ref 23, .ref 24, cg, .int (I 1908)])) := by
  show (Sum.inr (0, [.ref (ad 14), .ref (ad 17), .ref (ad 20), .ref (ad 21), .ref (ad 22), .ref (ad 23), .ref (ad 24), rV (fun j => ad (swP j)) sa (swV cg), .int (I 1908)]) : va_E) = _
  rw [rV_sw]; rfl
theorem sw_31 : xr (fun j => ad (swP j)) sa cid (.inr (2, [.ref 19, .ref 14, .ref 25, .ref 32, .ref 33, .ref 34, .ref 35, .int (swI I 3107), swV fg, .int (swI I 3109), .long (J 3110), .int (swI I 3111), .long (J 3112)])) = xr ad sa cid (.inr (2, [.ref 19, .ref 14, .ref 25, .ref 32, .ref 33, .ref 34, .ref 35, .int (I 3107), fg, .int (I 3109), .long (J 3110), .int (I 3111), .long (J 3112)])) := by
  show (Sum.inr (2, [.ref (ad 19), .ref (ad 14), .ref (ad 25), .ref (ad 32), .ref (ad 33), .ref (ad 34), .ref (ad 35), .int (I 3107), rV (fun j => ad (swP j)) sa (swV fg), .int (I 3109), .long (J 3110), .int (I 3111), .long (J 3112)]) : va_E) = _
  rw [rV_sw]; rfl
theorem sw_at_0 {q : Nat × va_E} (h : (cw (fun j => ad (swP j)) sa cid (wS2 cg fg I J A B))[0]? = some q) : (cw ad sa cid (wS1 cg fg I J A B))[0]? = some q := sw_one (ad := ad) (ad' := fun j => ad (swP j)) (sa := sa) (cid := cid) (w1 := wS1 cg fg I J A B) (w2 := wS2 cg fg I J A B) (k := 0) (k' := 0) (e1 := .inr (10, [.ref 1, .ref 3, .ref 14, .ref 17, .ref 19, .ref 25, .ref 31, .ref 36, .ref 48, .ref 37, .int (I 10), .int (I 11)])) (e2 := .inr (10, [.ref 1, .ref 3, .ref 14, .ref 17, .ref 19, .ref 25, .ref 31, .ref 36, .ref 37, .ref 48, .int (swI I 10), .int (swI I 11)])) rfl rfl rfl rfl h
theorem sw_at_1 {q : Nat × va_E} (h : (cw (fun j => ad (swP j)) sa cid (wS2 cg fg I J A B))[1]? = some q) : (cw ad sa cid (wS1 cg fg I J A B))[1]? = some q := sw_one (ad := ad) (ad' := fun j => ad (swP j)) (sa := sa) (cid := cid) (w1 := wS1 cg fg I J A B) (w2 := wS2 cg fg I J A B) (k := 1) (k' := 1) (e1 := .inr (7, [.ref 2, .int (I 101)])) (e2 := .inr (7, [.ref 2, .int (swI I 101)])) rfl rfl rfl rfl h
theorem sw_at_2 {q : Nat × va_E} (h : (cw (fun j => ad (swP j)) sa cid (wS2 cg fg I J A B))[2]? = some q) : (cw ad sa cid (wS1 cg fg I J A B))[2]? = some q := sw_one (ad := ad) (ad' := fun j => ad (swP j)) (sa := sa) (cid := cid) (w1 := wS1 cg fg I J A B) (w2 := wS2 cg fg I J A B) (k := 2) (k' := 2) (e1 := .inl (2, 1540, .inl (A 2))) (e2 := .inl (2, 1540, .inl (swA A 2))) rfl rfl rfl rfl h
theorem sw_at_3 {q : Nat × va_E} (h : (cw (fun j => ad (swP j)) sa cid (wS2 cg fg I J A B))[3]? = some q) : (cw ad sa cid (wS1 cg fg I J A B))[3]? = some q := sw_one (ad := ad) (ad' := fun j => ad (swP j)) (sa := sa) (cid := cid) (w1 := wS1 cg fg I J A B) (w2 := wS2 cg fg I J A B) (k := 3) (k' := 3) (e1 := .inr (4, [.ref 4, .ref 8, .int (I 302), .ref 48, .int (I 304), .int (I 305)])) (e2 := .inr (4, [.ref 4, .ref 8, .int (swI I 302), .ref 37, .int (swI I 304), .int (swI I 305)])) rfl rfl rfl rfl h
theorem sw_at_4 {q : Nat × va_E} (h : (cw (fun j => ad (swP j)) sa cid (wS2 cg fg I J A B))[4]? = some q) : (cw ad sa cid (wS1 cg fg I J A B))[4]? = some q := sw_one (ad := ad) (ad' := fun j => ad (swP j)) (sa := sa) (cid := cid) (w1 := wS1 cg fg I J A B) (w2 := wS2 cg fg I J A B) (k := 4) (k' := 4) (e1 := .inr (8, [.ref 1, .ref 5, .ref 6, .ref 7, .int (I 404)])) (e2 := .inr (8, [.ref 1, .ref 5, .ref 6, .ref 7, .int (swI I 404)])) rfl rfl rfl rfl h
theorem sw_at_5 {q : Nat × va_E} (h : (cw (fun j => ad (swP j)) sa cid (wS2 cg fg I J A B))[5]? = some q) : (cw ad sa cid (wS1 cg fg I J A B))[5]? = some q := sw_one (ad := ad) (ad' := fun j => ad (swP j)) (sa := sa) (cid := cid) (w1 := wS1 cg fg I J A B) (w2 := wS2 cg fg I J A B) (k := 5) (k' := 5) (e1 := .inl (0, 1501, .inl (A 5))) (e2 := .inl (0, 1501, .inl (swA A 5))) rfl rfl rfl rfl h
theorem sw_at_6 {q : Nat × va_E} (h : (cw (fun j => ad (swP j)) sa cid (wS2 cg fg I J A B))[6]? = some q) : (cw ad sa cid (wS1 cg fg I J A B))[6]? = some q := sw_one (ad := ad) (ad' := fun j => ad (swP j)) (sa := sa) (cid := cid) (w1 := wS1 cg fg I J A B) (w2 := wS2 cg fg I J A B) (k := 6) (k' := 6) (e1 := .inl (0, 1501, .inl (A 6))) (e2 := .inl (0, 1501, .inl (swA A 6))) rfl rfl rfl rfl h
theorem sw_at_7 {q : Nat × va_E} (h : (cw (fun j => ad (swP j)) sa cid (wS2 cg fg I J A B))[7]? = some q) : (cw ad sa cid (wS1 cg fg I J A B))[7]? = some q := sw_one (ad := ad) (ad' := fun j => ad (swP j)) (sa := sa) (cid := cid) (w1 := wS1 cg fg I J A B) (w2 := wS2 cg fg I J A B) (k := 7) (k' := 7) (e1 := .inl (1, 1501, .inr (.inl (B 7)))) (e2 := .inl (1, 1501, .inr (.inl (swA B 7)))) rfl rfl rfl rfl h
theorem sw_at_8 {q : Nat × va_E} (h : (cw (fun j => ad (swP j)) sa cid (wS2 cg fg I J A B))[8]? = some q) : (cw ad sa cid (wS1 cg fg I J A B))[8]? = some q := sw_one (ad := ad) (ad' := fun j => ad (swP j)) (sa := sa) (cid := cid) (w1 := wS1 cg fg I J A B) (w2 := wS2 cg fg I J A B) (k := 8) (k' := 8) (e1 := .inr (5, [.ref 9, .ref 10, .ref 11, .ref 12, .ref 13, .int (I 805)])) (e2 := .inr (5, [.ref 9, .ref 10, .ref 11, .ref 12, .ref 13, .int (swI I 805)])) rfl rfl rfl rfl h
theorem sw_at_9 {q : Nat × va_E} (h : (cw (fun j => ad (swP j)) sa cid (wS2 cg fg I J A B))[9]? = some q) : (cw ad sa cid (wS1 cg fg I J A B))[9]? = some q := sw_one (ad := ad) (ad' := fun j => ad (swP j)) (sa := sa) (cid := cid) (w1 := wS1 cg fg I J A B) (w2 := wS2 cg fg I J A B) (k := 9) (k' := 9) (e1 := .inl (3, 8, .inl (A 9))) (e2 := .inl (3, 8, .inl (swA A 9))) rfl rfl rfl rfl h
theorem sw_at_10 {q : Nat × va_E} (h : (cw (fun j => ad (swP j)) sa cid (wS2 cg fg I J A B))[10]? = some q) : (cw ad sa cid (wS1 cg fg I J A B))[10]? = some q := sw_one (ad := ad) (ad' := fun j => ad (swP j)) (sa := sa) (cid := cid) (w1 := wS1 cg fg I J A B) (w2 := wS2 cg fg I J A B) (k := 10) (k' := 10) (e1 := .inl (0, 8, .inl (A 10))) (e2 := .inl (0, 8, .inl (swA A 10))) rfl rfl rfl rfl h
theorem sw_at_11 {q : Nat × va_E} (h : (cw (fun j => ad (swP j)) sa cid (wS2 cg fg I J A B))[11]? = some q) : (cw ad sa cid (wS1 cg fg I J A B))[11]? = some q := sw_one (ad := ad) (ad' := fun j => ad (swP j)) (sa := sa) (cid := cid) (w1 := wS1 cg fg I J A B) (w2 := wS2 cg fg I J A B) (k := 11) (k' := 11) (e1 := .inl (0, 8, .inl (A 11))) (e2 := .inl (0, 8, .inl (swA A 11))) rfl rfl rfl rfl h
theorem sw_at_12 {q : Nat × va_E} (h : (cw (fun j => ad (swP j)) sa cid (wS2 cg fg I J A B))[12]? = some q) : (cw ad sa cid (wS1 cg fg I J A B))[12]? = some q := sw_one (ad := ad) (ad' := fun j => ad (swP j)) (sa := sa) (cid := cid) (w1 := wS1 cg fg I J A B) (w2 := wS2 cg fg I J A B) (k := 12) (k' := 12) (e1 := .inl (0, 8, .inl (A 12))) (e2 := .inl (0, 8, .inl (swA A 12))) rfl rfl rfl rfl h
theorem sw_at_13 {q : Nat × va_E} (h : (cw (fun j => ad (swP j)) sa cid (wS2 cg fg I J A B))[13]? = some q) : (cw ad sa cid (wS1 cg fg I J A B))[13]? = some q := sw_one (ad := ad) (ad' := fun j => ad (swP j)) (sa := sa) (cid := cid) (w1 := wS1 cg fg I J A B) (w2 := wS2 cg fg I J A B) (k := 13) (k' := 13) (e1 := .inl (0, 3, .inl (A 13))) (e2 := .inl (0, 3, .inl (swA A 13))) rfl rfl rfl rfl h
theorem sw_at_14 {q : Nat × va_E} (h : (cw (fun j => ad (swP j)) sa cid (wS2 cg fg I J A B))[14]? = some q) : (cw ad sa cid (wS1 cg fg I J A B))[14]? = some q := sw_one (ad := ad) (ad' := fun j => ad (swP j)) (sa := sa) (cid := cid) (w1 := wS1 cg fg I J A B) (w2 := wS2 cg fg I J A B) (k := 14) (k' := 14) (e1 := .inr (6, [.ref 15, .ref 16, .int (I 1402), .int (I 1403)])) (e2 := .inr (6, [.ref 15, .ref 16, .int (swI I 1402), .int (swI I 1403)])) rfl rfl rfl rfl h
theorem sw_at_15 {q : Nat × va_E} (h : (cw (fun j => ad (swP j)) sa cid (wS2 cg fg I J A B))[15]? = some q) : (cw ad sa cid (wS1 cg fg I J A B))[15]? = some q := sw_one (ad := ad) (ad' := fun j => ad (swP j)) (sa := sa) (cid := cid) (w1 := wS1 cg fg I J A B) (w2 := wS2 cg fg I J A B) (k := 15) (k' := 15) (e1 := .inl (1, 14, .inr (.inl (B 15)))) (e2 := .inl (1, 14, .inr (.inl (swA B 15)))) rfl rfl rfl rfl h
theorem sw_at_16 {q : Nat × va_E} (h : (cw (fun j => ad (swP j)) sa cid (wS2 cg fg I J A B))[16]? = some q) : (cw ad sa cid (wS1 cg fg I J A B))[16]? = some q := sw_one (ad := ad) (ad' := fun j => ad (swP j)) (sa := sa) (cid := cid) (w1 := wS1 cg fg I J A B) (w2 := wS2 cg fg I J A B) (k := 16) (k' := 16) (e1 := .inl (1, 14, .inr (.inl (B 16)))) (e2 := .inl (1, 14, .inr (.inl (swA B 16)))) rfl rfl rfl rfl h
theorem sw_at_17 {q : Nat × va_E} (h : (cw (fun j => ad (swP j)) sa cid (wS2 cg fg I J A B))[17]? = some q) : (cw ad sa cid (wS1 cg fg I J A B))[17]? = some q := sw_one (ad := ad) (ad' := fun j => ad (swP j)) (sa := sa) (cid := cid) (w1 := wS1 cg fg I J A B) (w2 := wS2 cg fg I J A B) (k := 17) (k' := 17) (e1 := .inr (1, [.ref 18, .int (I 1701), .int (I 1702)])) (e2 := .inr (1, [.ref 18, .int (swI I 1701), .int (swI I 1702)])) rfl rfl rfl rfl h
theorem sw_at_18 {q : Nat × va_E} (h : (cw (fun j => ad (swP j)) sa cid (wS2 cg fg I J A B))[18]? = some q) : (cw ad sa cid (wS1 cg fg I J A B))[18]? = some q := sw_one (ad := ad) (ad' := fun j => ad (swP j)) (sa := sa) (cid := cid) (w1 := wS1 cg fg I J A B) (w2 := wS2 cg fg I J A B) (k := 18) (k' := 18) (e1 := .inl (0, 105, .inl (A 18))) (e2 := .inl (0, 105, .inl (swA A 18))) rfl rfl rfl rfl h
theorem sw_at_19 {q : Nat × va_E} (h : (cw (fun j => ad (swP j)) sa cid (wS2 cg fg I J A B))[19]? = some q) : (cw ad sa cid (wS1 cg fg I J A B))[19]? = some q := sw_one (ad := ad) (ad' := fun j => ad (swP j)) (sa := sa) (cid := cid) (w1 := wS1 cg fg I J A B) (w2 := wS2 cg fg I J A B) (k := 19) (k' := 19) (e1 := .inr (0, [.ref 14, .ref 17, .ref 20, .ref 21, .ref 22, .ref 23, .ref 24, cg, .int (I 1908)])) (e2 := .inr (0, [.ref 14, .ref 17, .ref 20, .ref 21, .ref 22, .ref 23, .ref 24, swV cg, .int (swI I 1908)])) rfl rfl rfl sw_19 h
theorem sw_at_20 {q : Nat × va_E} (h : (cw (fun j => ad (swP j)) sa cid (wS2 cg fg I J A B))[20]? = some q) : (cw ad sa cid (wS1 cg fg I J A B))[20]? = some q := sw_one (ad := ad) (ad' := fun j => ad (swP j)) (sa := sa) (cid := cid) (w1 := wS1 cg fg I J A B) (w2 := wS2 cg fg I J A B) (k := 20) (k' := 20) (e1 := .inl (0, 105, .inl (A 20))) (e2 := .inl (0, 105, .inl (swA A 20))) rfl rfl rfl rfl h
theorem sw_at_21 {q : Nat × va_E} (h : (cw (fun j => ad (swP j)) sa cid (wS2 cg fg I J A B))[21]? = some q) : (cw ad sa cid (wS1 cg fg I J A B))[21]? = some q := sw_one (ad := ad) (ad' := fun j => ad (swP j)) (sa := sa) (cid := cid) (w1 := wS1 cg fg I J A B) (w2 := wS2 cg fg I J A B) (k := 21) (k' := 21) (e1 := .inl (0, 6300, .inl (A 21))) (e2 := .inl (0, 6300, .inl (swA A 21))) rfl rfl rfl rfl h
theorem sw_at_22 {q : Nat × va_E} (h : (cw (fun j => ad (swP j)) sa cid (wS2 cg fg I J A B))[22]? = some q) : (cw ad sa cid (wS1 cg fg I J A B))[22]? = some q := sw_one (ad := ad) (ad' := fun j => ad (swP j)) (sa := sa) (cid := cid) (w1 := wS1 cg fg I J A B) (w2 := wS2 cg fg I J A B) (k := 22) (k' := 22) (e1 := .inl (1, 6300, .inr (.inl (B 22)))) (e2 := .inl (1, 6300, .inr (.inl (swA B 22)))) rfl rfl rfl rfl h
theorem sw_at_23 {q : Nat × va_E} (h : (cw (fun j => ad (swP j)) sa cid (wS2 cg fg I J A B))[23]? = some q) : (cw ad sa cid (wS1 cg fg I J A B))[23]? = some q := sw_one (ad := ad) (ad' := fun j => ad (swP j)) (sa := sa) (cid := cid) (w1 := wS1 cg fg I J A B) (w2 := wS2 cg fg I J A B) (k := 23) (k' := 23) (e1 := .inl (0, 6300, .inl (A 23))) (e2 := .inl (0, 6300, .inl (swA A 23))) rfl rfl rfl rfl h
theorem sw_at_24 {q : Nat × va_E} (h : (cw (fun j => ad (swP j)) sa cid (wS2 cg fg I J A B))[24]? = some q) : (cw ad sa cid (wS1 cg fg I J A B))[24]? = some q := sw_one (ad := ad) (ad' := fun j => ad (swP j)) (sa := sa) (cid := cid) (w1 := wS1 cg fg I J A B) (w2 := wS2 cg fg I J A B) (k := 24) (k' := 24) (e1 := .inl (0, 1785, .inl (A 24))) (e2 := .inl (0, 1785, .inl (swA A 24))) rfl rfl rfl rfl h
theorem sw_at_25 {q : Nat × va_E} (h : (cw (fun j => ad (swP j)) sa cid (wS2 cg fg I J A B))[25]? = some q) : (cw ad sa cid (wS1 cg fg I J A B))[25]? = some q := sw_one (ad := ad) (ad' := fun j => ad (swP j)) (sa := sa) (cid := cid) (w1 := wS1 cg fg I J A B) (w2 := wS2 cg fg I J A B) (k := 25) (k' := 25) (e1 := .inr (9, [.ref 26, .ref 27, .ref 28, .ref 29, .ref 30, .int (I 2505)])) (e2 := .inr (9, [.ref 26, .ref 27, .ref 28, .ref 29, .ref 30, .int (swI I 2505)])) rfl rfl rfl rfl h
theorem sw_at_26 {q : Nat × va_E} (h : (cw (fun j => ad (swP j)) sa cid (wS2 cg fg I J A B))[26]? = some q) : (cw ad sa cid (wS1 cg fg I J A B))[26]? = some q := sw_one (ad := ad) (ad' := fun j => ad (swP j)) (sa := sa) (cid := cid) (w1 := wS1 cg fg I J A B) (w2 := wS2 cg fg I J A B) (k := 26) (k' := 26) (e1 := .inl (0, 432, .inl (A 26))) (e2 := .inl (0, 432, .inl (swA A 26))) rfl rfl rfl rfl h
theorem sw_at_27 {q : Nat × va_E} (h : (cw (fun j => ad (swP j)) sa cid (wS2 cg fg I J A B))[27]? = some q) : (cw ad sa cid (wS1 cg fg I J A B))[27]? = some q := sw_one (ad := ad) (ad' := fun j => ad (swP j)) (sa := sa) (cid := cid) (w1 := wS1 cg fg I J A B) (w2 := wS2 cg fg I J A B) (k := 27) (k' := 27) (e1 := .inl (0, 432, .inl (A 27))) (e2 := .inl (0, 432, .inl (swA A 27))) rfl rfl rfl rfl h
theorem sw_at_28 {q : Nat × va_E} (h : (cw (fun j => ad (swP j)) sa cid (wS2 cg fg I J A B))[28]? = some q) : (cw ad sa cid (wS1 cg fg I J A B))[28]? = some q := sw_one (ad := ad) (ad' := fun j => ad (swP j)) (sa := sa) (cid := cid) (w1 := wS1 cg fg I J A B) (w2 := wS2 cg fg I J A B) (k := 28) (k' := 28) (e1 := .inl (0, 432, .inl (A 28))) (e2 := .inl (0, 432, .inl (swA A 28))) rfl rfl rfl rfl h
theorem sw_at_29 {q : Nat × va_E} (h : (cw (fun j => ad (swP j)) sa cid (wS2 cg fg I J A B))[29]? = some q) : (cw ad sa cid (wS1 cg fg I J A B))[29]? = some q := sw_one (ad := ad) (ad' := fun j => ad (swP j)) (sa := sa) (cid := cid) (w1 := wS1 cg fg I J A B) (w2 := wS2 cg fg I J A B) (k := 29) (k' := 29) (e1 := .inl (0, 432, .inl (A 29))) (e2 := .inl (0, 432, .inl (swA A 29))) rfl rfl rfl rfl h
theorem sw_at_30 {q : Nat × va_E} (h : (cw (fun j => ad (swP j)) sa cid (wS2 cg fg I J A B))[30]? = some q) : (cw ad sa cid (wS1 cg fg I J A B))[30]? = some q := sw_one (ad := ad) (ad' := fun j => ad (swP j)) (sa := sa) (cid := cid) (w1 := wS1 cg fg I J A B) (w2 := wS2 cg fg I J A B) (k := 30) (k' := 30) (e1 := .inl (0, 432, .inl (A 30))) (e2 := .inl (0, 432, .inl (swA A 30))) rfl rfl rfl rfl h
theorem sw_at_31 {q : Nat × va_E} (h : (cw (fun j => ad (swP j)) sa cid (wS2 cg fg I J A B))[31]? = some q) : (cw ad sa cid (wS1 cg fg I J A B))[31]? = some q := sw_one (ad := ad) (ad' := fun j => ad (swP j)) (sa := sa) (cid := cid) (w1 := wS1 cg fg I J A B) (w2 := wS2 cg fg I J A B) (k := 31) (k' := 31) (e1 := .inr (2, [.ref 19, .ref 14, .ref 25, .ref 32, .ref 33, .ref 34, .ref 35, .int (I 3107), fg, .int (I 3109), .long (J 3110), .int (I 3111), .long (J 3112)])) (e2 := .inr (2, [.ref 19, .ref 14, .ref 25, .ref 32, .ref 33, .ref 34, .ref 35, .int (swI I 3107), swV fg, .int (swI I 3109), .long (J 3110), .int (swI I 3111), .long (J 3112)])) rfl rfl rfl sw_31 h
theorem sw_at_32 {q : Nat × va_E} (h : (cw (fun j => ad (swP j)) sa cid (wS2 cg fg I J A B))[32]? = some q) : (cw ad sa cid (wS1 cg fg I J A B))[32]? = some q := sw_one (ad := ad) (ad' := fun j => ad (swP j)) (sa := sa) (cid := cid) (w1 := wS1 cg fg I J A B) (w2 := wS2 cg fg I J A B) (k := 32) (k' := 32) (e1 := .inl (0, 224, .inl (A 32))) (e2 := .inl (0, 224, .inl (swA A 32))) rfl rfl rfl rfl h
theorem sw_at_33 {q : Nat × va_E} (h : (cw (fun j => ad (swP j)) sa cid (wS2 cg fg I J A B))[33]? = some q) : (cw ad sa cid (wS1 cg fg I J A B))[33]? = some q := sw_one (ad := ad) (ad' := fun j => ad (swP j)) (sa := sa) (cid := cid) (w1 := wS1 cg fg I J A B) (w2 := wS2 cg fg I J A B) (k := 33) (k' := 33) (e1 := .inl (0, 224, .inl (A 33))) (e2 := .inl (0, 224, .inl (swA A 33))) rfl rfl rfl rfl h
theorem sw_at_34 {q : Nat × va_E} (h : (cw (fun j => ad (swP j)) sa cid (wS2 cg fg I J A B))[34]? = some q) : (cw ad sa cid (wS1 cg fg I J A B))[34]? = some q := sw_one (ad := ad) (ad' := fun j => ad (swP j)) (sa := sa) (cid := cid) (w1 := wS1 cg fg I J A B) (w2 := wS2 cg fg I J A B) (k := 34) (k' := 34) (e1 := .inl (0, 224, .inl (A 34))) (e2 := .inl (0, 224, .inl (swA A 34))) rfl rfl rfl rfl h
theorem sw_at_35 {q : Nat × va_E} (h : (cw (fun j => ad (swP j)) sa cid (wS2 cg fg I J A B))[35]? = some q) : (cw ad sa cid (wS1 cg fg I J A B))[35]? = some q := sw_one (ad := ad) (ad' := fun j => ad (swP j)) (sa := sa) (cid := cid) (w1 := wS1 cg fg I J A B) (w2 := wS2 cg fg I J A B) (k := 35) (k' := 35) (e1 := .inl (1, 13440, .inr (.inl (B 35)))) (e2 := .inl (1, 13440, .inr (.inl (swA B 35)))) rfl rfl rfl rfl h
theorem sw_at_36 {q : Nat × va_E} (h : (cw (fun j => ad (swP j)) sa cid (wS2 cg fg I J A B))[36]? = some q) : (cw ad sa cid (wS1 cg fg I J A B))[36]? = some q := sw_one (ad := ad) (ad' := fun j => ad (swP j)) (sa := sa) (cid := cid) (w1 := wS1 cg fg I J A B) (w2 := wS2 cg fg I J A B) (k := 36) (k' := 36) (e1 := .inl (2, 10, .inl (A 36))) (e2 := .inl (2, 10, .inl (swA A 36))) rfl rfl rfl rfl h
theorem sw_at_37 {q : Nat × va_E} (h : (cw (fun j => ad (swP j)) sa cid (wS2 cg fg I J A B))[37]? = some q) : (cw ad sa cid (wS1 cg fg I J A B))[48]? = some q := sw_one (ad := ad) (ad' := fun j => ad (swP j)) (sa := sa) (cid := cid) (w1 := wS1 cg fg I J A B) (w2 := wS2 cg fg I J A B) (k := 37) (k' := 48) (e1 := .inr (3, [.ref 49, .ref 50, .ref 51, .ref 52, .ref 53, .ref 54, .ref 55, .ref 56, .ref 57, .ref 58, .int (I 4810), .int (I 4811), .int (I 4812), .int (I 4813)])) (e2 := .inr (3, [.ref 38, .ref 39, .ref 40, .ref 41, .ref 42, .ref 43, .ref 44, .ref 45, .ref 46, .ref 47, .int (swI I 3710), .int (swI I 3711), .int (swI I 3712), .int (swI I 3713)])) rfl rfl rfl rfl h
theorem sw_at_38 {q : Nat × va_E} (h : (cw (fun j => ad (swP j)) sa cid (wS2 cg fg I J A B))[38]? = some q) : (cw ad sa cid (wS1 cg fg I J A B))[49]? = some q := sw_one (ad := ad) (ad' := fun j => ad (swP j)) (sa := sa) (cid := cid) (w1 := wS1 cg fg I J A B) (w2 := wS2 cg fg I J A B) (k := 38) (k' := 49) (e1 := .inl (1, 40, .inr (.inl (B 49)))) (e2 := .inl (1, 40, .inr (.inl (swA B 38)))) rfl rfl rfl rfl h
theorem sw_at_39 {q : Nat × va_E} (h : (cw (fun j => ad (swP j)) sa cid (wS2 cg fg I J A B))[39]? = some q) : (cw ad sa cid (wS1 cg fg I J A B))[50]? = some q := sw_one (ad := ad) (ad' := fun j => ad (swP j)) (sa := sa) (cid := cid) (w1 := wS1 cg fg I J A B) (w2 := wS2 cg fg I J A B) (k := 39) (k' := 50) (e1 := .inl (0, 40, .inl (A 50))) (e2 := .inl (0, 40, .inl (swA A 39))) rfl rfl rfl rfl h
theorem sw_at_40 {q : Nat × va_E} (h : (cw (fun j => ad (swP j)) sa cid (wS2 cg fg I J A B))[40]? = some q) : (cw ad sa cid (wS1 cg fg I J A B))[51]? = some q := sw_one (ad := ad) (ad' := fun j => ad (swP j)) (sa := sa) (cid := cid) (w1 := wS1 cg fg I J A B) (w2 := wS2 cg fg I J A B) (k := 40) (k' := 51) (e1 := .inl (0, 30, .inl (A 51))) (e2 := .inl (0, 30, .inl (swA A 40))) rfl rfl rfl rfl h
theorem sw_at_41 {q : Nat × va_E} (h : (cw (fun j => ad (swP j)) sa cid (wS2 cg fg I J A B))[41]? = some q) : (cw ad sa cid (wS1 cg fg I J A B))[52]? = some q := sw_one (ad := ad) (ad' := fun j => ad (swP j)) (sa := sa) (cid := cid) (w1 := wS1 cg fg I J A B) (w2 := wS2 cg fg I J A B) (k := 41) (k' := 52) (e1 := .inl (0, 30, .inl (A 52))) (e2 := .inl (0, 30, .inl (swA A 41))) rfl rfl rfl rfl h
theorem sw_at_42 {q : Nat × va_E} (h : (cw (fun j => ad (swP j)) sa cid (wS2 cg fg I J A B))[42]? = some q) : (cw ad sa cid (wS1 cg fg I J A B))[53]? = some q := sw_one (ad := ad) (ad' := fun j => ad (swP j)) (sa := sa) (cid := cid) (w1 := wS1 cg fg I J A B) (w2 := wS2 cg fg I J A B) (k := 42) (k' := 53) (e1 := .inl (0, 30, .inl (A 53))) (e2 := .inl (0, 30, .inl (swA A 42))) rfl rfl rfl rfl h
theorem sw_at_43 {q : Nat × va_E} (h : (cw (fun j => ad (swP j)) sa cid (wS2 cg fg I J A B))[43]? = some q) : (cw ad sa cid (wS1 cg fg I J A B))[54]? = some q := sw_one (ad := ad) (ad' := fun j => ad (swP j)) (sa := sa) (cid := cid) (w1 := wS1 cg fg I J A B) (w2 := wS2 cg fg I J A B) (k := 43) (k' := 54) (e1 := .inl (0, 30, .inl (A 54))) (e2 := .inl (0, 30, .inl (swA A 43))) rfl rfl rfl rfl h
theorem sw_at_44 {q : Nat × va_E} (h : (cw (fun j => ad (swP j)) sa cid (wS2 cg fg I J A B))[44]? = some q) : (cw ad sa cid (wS1 cg fg I J A B))[55]? = some q := sw_one (ad := ad) (ad' := fun j => ad (swP j)) (sa := sa) (cid := cid) (w1 := wS1 cg fg I J A B) (w2 := wS2 cg fg I J A B) (k := 44) (k' := 55) (e1 := .inl (0, 3000, .inl (A 55))) (e2 := .inl (0, 3000, .inl (swA A 44))) rfl rfl rfl rfl h
theorem sw_at_45 {q : Nat × va_E} (h : (cw (fun j => ad (swP j)) sa cid (wS2 cg fg I J A B))[45]? = some q) : (cw ad sa cid (wS1 cg fg I J A B))[56]? = some q := sw_one (ad := ad) (ad' := fun j => ad (swP j)) (sa := sa) (cid := cid) (w1 := wS1 cg fg I J A B) (w2 := wS2 cg fg I J A B) (k := 45) (k' := 56) (e1 := .inl (1, 16, .inr (.inl (B 56)))) (e2 := .inl (1, 16, .inr (.inl (swA B 45)))) rfl rfl rfl rfl h
theorem sw_at_46 {q : Nat × va_E} (h : (cw (fun j => ad (swP j)) sa cid (wS2 cg fg I J A B))[46]? = some q) : (cw ad sa cid (wS1 cg fg I J A B))[57]? = some q := sw_one (ad := ad) (ad' := fun j => ad (swP j)) (sa := sa) (cid := cid) (w1 := wS1 cg fg I J A B) (w2 := wS2 cg fg I J A B) (k := 46) (k' := 57) (e1 := .inl (0, 16, .inl (A 57))) (e2 := .inl (0, 16, .inl (swA A 46))) rfl rfl rfl rfl h
theorem sw_at_47 {q : Nat × va_E} (h : (cw (fun j => ad (swP j)) sa cid (wS2 cg fg I J A B))[47]? = some q) : (cw ad sa cid (wS1 cg fg I J A B))[58]? = some q := sw_one (ad := ad) (ad' := fun j => ad (swP j)) (sa := sa) (cid := cid) (w1 := wS1 cg fg I J A B) (w2 := wS2 cg fg I J A B) (k := 47) (k' := 58) (e1 := .inl (0, 30, .inl (A 58))) (e2 := .inl (0, 30, .inl (swA A 47))) rfl rfl rfl rfl h
theorem sw_at_48 {q : Nat × va_E} (h : (cw (fun j => ad (swP j)) sa cid (wS2 cg fg I J A B))[48]? = some q) : (cw ad sa cid (wS1 cg fg I J A B))[37]? = some q := sw_one (ad := ad) (ad' := fun j => ad (swP j)) (sa := sa) (cid := cid) (w1 := wS1 cg fg I J A B) (w2 := wS2 cg fg I J A B) (k := 48) (k' := 37) (e1 := .inr (3, [.ref 38, .ref 39, .ref 40, .ref 41, .ref 42, .ref 43, .ref 44, .ref 45, .ref 46, .ref 47, .int (I 3710), .int (I 3711), .int (I 3712), .int (I 3713)])) (e2 := .inr (3, [.ref 49, .ref 50, .ref 51, .ref 52, .ref 53, .ref 54, .ref 55, .ref 56, .ref 57, .ref 58, .int (swI I 4810), .int (swI I 4811), .int (swI I 4812), .int (swI I 4813)])) rfl rfl rfl rfl h
theorem sw_at_49 {q : Nat × va_E} (h : (cw (fun j => ad (swP j)) sa cid (wS2 cg fg I J A B))[49]? = some q) : (cw ad sa cid (wS1 cg fg I J A B))[38]? = some q := sw_one (ad := ad) (ad' := fun j => ad (swP j)) (sa := sa) (cid := cid) (w1 := wS1 cg fg I J A B) (w2 := wS2 cg fg I J A B) (k := 49) (k' := 38) (e1 := .inl (1, 40, .inr (.inl (B 38)))) (e2 := .inl (1, 40, .inr (.inl (swA B 49)))) rfl rfl rfl rfl h
theorem sw_at_50 {q : Nat × va_E} (h : (cw (fun j => ad (swP j)) sa cid (wS2 cg fg I J A B))[50]? = some q) : (cw ad sa cid (wS1 cg fg I J A B))[39]? = some q := sw_one (ad := ad) (ad' := fun j => ad (swP j)) (sa := sa) (cid := cid) (w1 := wS1 cg fg I J A B) (w2 := wS2 cg fg I J A B) (k := 50) (k' := 39) (e1 := .inl (0, 40, .inl (A 39))) (e2 := .inl (0, 40, .inl (swA A 50))) rfl rfl rfl rfl h
theorem sw_at_51 {q : Nat × va_E} (h : (cw (fun j => ad (swP j)) sa cid (wS2 cg fg I J A B))[51]? = some q) : (cw ad sa cid (wS1 cg fg I J A B))[40]? = some q := sw_one (ad := ad) (ad' := fun j => ad (swP j)) (sa := sa) (cid := cid) (w1 := wS1 cg fg I J A B) (w2 := wS2 cg fg I J A B) (k := 51) (k' := 40) (e1 := .inl (0, 30, .inl (A 40))) (e2 := .inl (0, 30, .inl (swA A 51))) rfl rfl rfl rfl h
theorem sw_at_52 {q : Nat × va_E} (h : (cw (fun j => ad (swP j)) sa cid (wS2 cg fg I J A B))[52]? = some q) : (cw ad sa cid (wS1 cg fg I J A B))[41]? = some q := sw_one (ad := ad) (ad' := fun j => ad (swP j)) (sa := sa) (cid := cid) (w1 := wS1 cg fg I J A B) (w2 := wS2 cg fg I J A B) (k := 52) (k' := 41) (e1 := .inl (0, 30, .inl (A 41))) (e2 := .inl (0, 30, .inl (swA A 52))) rfl rfl rfl rfl h
theorem sw_at_53 {q : Nat × va_E} (h : (cw (fun j => ad (swP j)) sa cid (wS2 cg fg I J A B))[53]? = some q) : (cw ad sa cid (wS1 cg fg I J A B))[42]? = some q := sw_one (ad := ad) (ad' := fun j => ad (swP j)) (sa := sa) (cid := cid) (w1 := wS1 cg fg I J A B) (w2 := wS2 cg fg I J A B) (k := 53) (k' := 42) (e1 := .inl (0, 30, .inl (A 42))) (e2 := .inl (0, 30, .inl (swA A 53))) rfl rfl rfl rfl h
theorem sw_at_54 {q : Nat × va_E} (h : (cw (fun j => ad (swP j)) sa cid (wS2 cg fg I J A B))[54]? = some q) : (cw ad sa cid (wS1 cg fg I J A B))[43]? = some q := sw_one (ad := ad) (ad' := fun j => ad (swP j)) (sa := sa) (cid := cid) (w1 := wS1 cg fg I J A B) (w2 := wS2 cg fg I J A B) (k := 54) (k' := 43) (e1 := .inl (0, 30, .inl (A 43))) (e2 := .inl (0, 30, .inl (swA A 54))) rfl rfl rfl rfl h
theorem sw_at_55 {q : Nat × va_E} (h : (cw (fun j => ad (swP j)) sa cid (wS2 cg fg I J A B))[55]? = some q) : (cw ad sa cid (wS1 cg fg I J A B))[44]? = some q := sw_one (ad := ad) (ad' := fun j => ad (swP j)) (sa := sa) (cid := cid) (w1 := wS1 cg fg I J A B) (w2 := wS2 cg fg I J A B) (k := 55) (k' := 44) (e1 := .inl (0, 3000, .inl (A 44))) (e2 := .inl (0, 3000, .inl (swA A 55))) rfl rfl rfl rfl h
theorem sw_at_56 {q : Nat × va_E} (h : (cw (fun j => ad (swP j)) sa cid (wS2 cg fg I J A B))[56]? = some q) : (cw ad sa cid (wS1 cg fg I J A B))[45]? = some q := sw_one (ad := ad) (ad' := fun j => ad (swP j)) (sa := sa) (cid := cid) (w1 := wS1 cg fg I J A B) (w2 := wS2 cg fg I J A B) (k := 56) (k' := 45) (e1 := .inl (1, 16, .inr (.inl (B 45)))) (e2 := .inl (1, 16, .inr (.inl (swA B 56)))) rfl rfl rfl rfl h
theorem sw_at_57 {q : Nat × va_E} (h : (cw (fun j => ad (swP j)) sa cid (wS2 cg fg I J A B))[57]? = some q) : (cw ad sa cid (wS1 cg fg I J A B))[46]? = some q := sw_one (ad := ad) (ad' := fun j => ad (swP j)) (sa := sa) (cid := cid) (w1 := wS1 cg fg I J A B) (w2 := wS2 cg fg I J A B) (k := 57) (k' := 46) (e1 := .inl (0, 16, .inl (A 46))) (e2 := .inl (0, 16, .inl (swA A 57))) rfl rfl rfl rfl h
theorem sw_at_58 {q : Nat × va_E} (h : (cw (fun j => ad (swP j)) sa cid (wS2 cg fg I J A B))[58]? = some q) : (cw ad sa cid (wS1 cg fg I J A B))[47]? = some q := sw_one (ad := ad) (ad' := fun j => ad (swP j)) (sa := sa) (cid := cid) (w1 := wS1 cg fg I J A B) (w2 := wS2 cg fg I J A B) (k := 58) (k' := 47) (e1 := .inl (0, 30, .inl (A 47))) (e2 := .inl (0, 30, .inl (swA A 58))) rfl rfl rfl rfl h
theorem sw_at {q : Nat × va_E} (k : Nat) (h : (cw (fun j => ad (swP j)) sa cid (wS2 cg fg I J A B))[k]? = some q) : (cw ad sa cid (wS1 cg fg I J A B))[swP k]? = some q := by
  have h1 := (List.getElem?_eq_some_iff.mp h).1
  have h2 : (cw (fun j => ad (swP j)) sa cid (wS2 cg fg I J A B)).length = 59 := by unfold cw; rw [List.length_mapIdx]; rfl
  exact all59 (P := fun k => (cw (fun j => ad (swP j)) sa cid (wS2 cg fg I J A B))[k]? = some q → (cw ad sa cid (wS1 cg fg I J A B))[swP k]? = some q) sw_at_0 sw_at_1 sw_at_2 sw_at_3 sw_at_4 sw_at_5 sw_at_6 sw_at_7 sw_at_8 sw_at_9 sw_at_10 sw_at_11 sw_at_12 sw_at_13 sw_at_14 sw_at_15 sw_at_16 sw_at_17 sw_at_18 sw_at_19 sw_at_20 sw_at_21 sw_at_22 sw_at_23 sw_at_24 sw_at_25 sw_at_26 sw_at_27 sw_at_28 sw_at_29 sw_at_30 sw_at_31 sw_at_32 sw_at_33 sw_at_34 sw_at_35 sw_at_36 sw_at_37 sw_at_38 sw_at_39 sw_at_40 sw_at_41 sw_at_42 sw_at_43 sw_at_44 sw_at_45 sw_at_46 sw_at_47 sw_at_48 sw_at_49 sw_at_50 sw_at_51 sw_at_52 sw_at_53 sw_at_54 sw_at_55 sw_at_56 sw_at_57 sw_at_58 k (by omega) h
/-- the two grammars change their places: the world told the other way round -/
theorem yswap {AA : Nat → Prop} {D : va_G} {x r : va_W} {H : Heap} (hP : va_P D vwCl (x ++ (cw ad sa cid (wS1 cg fg I J A B) ++ r)) H) (hD : va_D AA (x ++ (cw ad sa cid (wS1 cg fg I J A B) ++ r))) (hA : ∀ q, va_A (cw ad sa cid (wS1 cg fg I J A B)) H.size q → AA q) :
    va_P D vwCl (x ++ (cw (fun j => ad (swP j)) sa cid (wS2 cg fg I J A B) ++ r)) H ∧ va_D AA (x ++ (cw (fun j => ad (swP j)) sa cid (wS2 cg fg I J A B) ++ r)) := by
  have hP1 := yP_mid hP
  have hD1 := yD_mid hD
  refine yjoin hP hD hA (fun _ _ _ => rfl) (fun k q hk => hP1 _ q (sw_at k hk)) ⟨fun i j p q hi hj e => ?_, fun k q hk => va_A.in (sw_at k hk)⟩
  have := hD1.1 _ _ _ _ (sw_at i hi) (sw_at j hj) e
  rw [← swP_2 i, this, swP_2]
end SW
/-- what holds all along the law -/
def lwC (l : Launch) (p : Program) (s : State) (m : MethodId) (meth : Method) (c : Code) (b L : Nat) (xs : Nat → Int32) (D : va_G) (cid : Nat → ClassId) (sa : Nat) : Prop :=
  lw_At p s m meth c b L xs ∧ l.stackTraces = false ∧ va_K D vwCl (xTys cid) s ∧ xStat sa (fun q : Nat => s.heap.size ≤ q) s s.heap ∧ (∀ z ∈ xNW, va_Nw z s) ∧ TF (fun q : Nat => s.heap.size ≤ q) s s.heap
abbrev lwW (ad1 ad2 : Nat → Nat) (sa : Nat) (cid : Nat → ClassId) (w1 w2 : XW) (qo : Nat) (O : Nat → Int64) : va_W := cw ad2 sa cid w2 ++ (cw ad1 sa cid w1 ++ [(qo, outC cid O)])
/-- the class at Sx, the reference at Sm; what is known of the reference's thrown, and of out -/
def lwV (s : State) (D : va_G) (cid : Nat → ClassId) (sa : Nat) (Sx Sm : St) (T0 : Int32 → Prop) (Z : Int64 → Prop) (ax am qo : Nat) (H : Heap) (locs : List Loc) : Prop :=
  ∃ (ad1 ad2 : Nat → Nat) (tgt cg fg : Value) (I : Nat → Int32) (J : Nat → Int64) (A : Nat → Nat → Int32) (B : Nat → Nat → Int64) (I' : Nat → Int32) (J' : Nat → Int64) (A' : Nat → Nat → Int32) (B' : Nat → Nat → Int64) (O : Nat → Int64),
    ad1 0 = ax ∧ ad2 0 = am ∧ xInv Sx I A B ∧ mInv Sm I' A' B' ∧ T0 (I' 0) ∧ Z (O 0) ∧ va_P D vwCl (lwW ad1 ad2 sa cid (wC tgt cg fg I J A B) (wM I' J' A' B') qo O) H ∧ va_D (fun q : Nat => s.heap.size ≤ q) (lwW ad1 ad2 sa cid (wC tgt cg fg I J A B) (wM I' J' A' B') qo O) ∧ va_S (fun q : Nat => s.heap.size ≤ q) s.heap H locs
def QX (S : St) (v : Value) (v' : Option Value) (w' : XW) : Prop := v' = some v ∧ ((∃ (tgt cg fg : Value) (I : Nat → Int32) (J : Nat → Int64) (A : Nat → Nat → Int32) (B : Nat → Nat → Int64), xInv S I A B ∧ w' = wC tgt cg fg I J A B) ∨
  ∃ (cg fg : Value) (I : Nat → Int32) (J : Nat → Int64) (A : Nat → Nat → Int32) (B : Nat → Nat → Int64), xInv S (swI I) (swA A) (swA B) ∧ w' = wS1 cg fg I J A B)
def QM (S : St) (T1 : Int32 → Prop) (v : Value) (v' : Option Value) (w' : XW) : Prop := v' = some v ∧ ∃ (I : Nat → Int32) (J : Nat → Int64) (A : Nat → Nat → Int32) (B : Nat → Nat → Int64), mInv S I A B ∧ T1 (I 0) ∧ w' = wM I J A B
theorem QX_1 {S : St} {v : Value} {tgt cg fg : Value} {I : Nat → Int32} {J : Nat → Int64} {A : Nat → Nat → Int32} {B : Nat → Nat → Int64} (h : xInv S I A B) : QX S v (some v) (wC tgt cg fg I J A B) := ⟨rfl, Or.inl ⟨_, _, _, _, _, _, _, h, rfl⟩⟩
theorem QX_2 {S : St} {v : Value} {cg fg : Value} {I : Nat → Int32} {J : Nat → Int64} {A : Nat → Nat → Int32} {B : Nat → Nat → Int64} (h : xInv S (swI I) (swA A) (swA B)) : QX S v (some v) (wS1 cg fg I J A B) := ⟨rfl, Or.inr ⟨_, _, _, _, _, _, h, rfl⟩⟩
theorem QM_1 {S : St} {T1 : Int32 → Prop} {v : Value} {I : Nat → Int32} {J : Nat → Int64} {A : Nat → Nat → Int32} {B : Nat → Nat → Int64} (h : mInv S I A B) (ht : T1 (I 0)) : QM S T1 v (some v) (wM I J A B) := ⟨rfl, _, _, _, _, h, ht, rfl⟩
section LC
variable {p : Program} {l : Launch} {e : Env} {s : State} {m : MethodId} {below : List Frame} {meth : Method} {c : Code} {b L : Nat} {xs : Nat → Int32} {D : va_G} {cid : Nat → ClassId} {sa : Nat} {H : Heap} {locs : List Loc} {nc ns : Nat}
theorem lw_fix (C : lwC l p s m meth c b L xs D cid sa) : yFix l p s m #[Value.ref b] c code 8 lw_tbl RL (fun q : Nat => s.heap.size ≤ q) D cid sa := by
  obtain ⟨⟨hx, hb, hr, hml, hown, hts, hX, hbl, hlocks, hgv⟩, hst, hK, hS, hN, hTF⟩ := C
  exact ⟨⟨hx, hb, hml, hown, hts⟩, fun w h => (List.mem_filter.mp h).1, hK, fun _ h => h, hN, hS⟩
theorem lw_free {ws : va_W} {x r : va_W} (hD : va_D (fun q : Nat => s.heap.size ≤ q) (x ++ (ws ++ r))) (hS : va_S (fun q : Nat => s.heap.size ≤ q) s.heap H locs) : ∀ q, va_A ws H.size q → s.heap.size ≤ q := fun q z => by
  rcases yA_mem.mp z with z | z
  · obtain ⟨u, hu, rfl⟩ := List.mem_map.mp z
    exact yD_in (yD_mid hD) u hu
  · exact Nat.le_trans hS.1 z
/-- an int of the script -/
theorem lw_arg (C : lwC l p s m meth c b L xs D cid sa) {Sx Sm : St} {T0 : Int32 → Prop} {Z : Int64 → Prop} {ax am qo : Nat} (hV : lwV s D cid sa Sx Sm T0 Z ax am qo H locs) {ls : Array Slot} {lv : List (Nat × Value)} (hl : lv_has ls 8 lv) {i : Nat} (h0 : (0, Value.ref b) ∈ lv) (h4 : (4, Value.int (nI i)) ∈ lv) (hi : i + 6 ≤ L) (hL : L ≤ 3072) {j : Nat} (hj : j ≤ 5) {jj : Int} {pc : Nat} {rest : List Value} {QQ : State → Prop}
    (d0 : decode code pc = .ok (.aload_n 0, 1)) (d1 : decode code (pc + 1) = .ok (.iload 4, 2)) (d3 : decode code (pc + 3) = .ok (.iconst jj, 1)) (hv : Int32.ofInt jj = nI j) (d4 : decode code (pc + 4) = .ok (.iadd, 1)) (d5 : decode code (pc + 5) = .ok (.iaload, 1))
    (kk : W p l e room_1 s m #[Value.ref b] below meth c H locs nc ns QQ (F0 m (pc + 6) ls (.int (xs (i + j)) :: rest))) : W p l e room_1 s m #[Value.ref b] below meth c H locs nc ns QQ (F0 m pc ls rest) := by
  obtain ⟨⟨hx, hb, hr, hml, hown, hts, hX, hbl, hlocks, hgv⟩, hst, hK, hSt, hN, hTF⟩ := C
  obtain ⟨ad1, ad2, tgt, cg, fg, I, J, A, B, I', J', A', B', O, -, -, -, -, -, -, -, -, hS⟩ := hV
  refine lv_aload_n hx hb d0 rfl (hl.2.2 _ h0) ?_
  refine lv_iload hx hb d1 (hl.2.2 _ h4) ?_
  refine lv_iconst (v := nI j) hx hb d3 hv ?_
  refine lv_iadd hx hb d4 ?_
  rw [nI_add]
  refine va_sld hx hb hX hbl (Nat.not_le.mpr hbl) hS (i := nI (i + j)) ?_ d5 ?_
  · rintro (h | h)
    · exact nI_pos (by omega) h
    · rw [nI_clamp (by omega)] at h; omega
  · rw [nI_clamp (by omega)]
    exact kk
/-- a call of the class -/
theorem lw_cx (C : lwC l p s m meth c b L xs D cid sa) {Sx Sm S' : St} {T0 : Int32 → Prop} {Z : Int64 → Prop} {ax am qo : Nat} (hV : lwV s D cid sa Sx Sm T0 Z ax am qo H locs) {ls : Array Slot} (hl : ls.size = 8) {k n index pc : Nat} {av : List Value} {v : Value} {rest : List Value} {QQ : State → Prop}
    (hM : ∀ (tgt cg fg : Value) (I : Nat → Int32) (J : Nat → Int64) (A : Nat → Nat → Int32) (B : Nat → Nat → Int64), xInv Sx I A B → xK l 600 k (.ref 0 :: av) (wC tgt cg fg I J A B) (QX S' v)) (hav : ∀ (ad : Nat → Nat) (sa : Nat), av.map (rV ad sa) = av) (hvv : ∀ (ad : Nat → Nat) (sa : Nat), rV ad sa v = v)
    (hz : xMC (mR k) = 0 ∧ xMS (mR k) = 0) (hci : (vwCl[10]?.map fun q => q.1) = some (xY (mR k)).cls)
    (hwd : Cond.methodLink RL index (xY (mR k)) ∈ xTB ∧ Cond.instanceMethod (xY (mR k)) ∈ xTB ∧ Cond.selects (xY (mR k)).cls (xY (mR k)) (xY (mR k)) ∈ xTB) (hn : av.length = n) (hpm : (parseMethodDescriptor (xY (mR k)).desc).map (fun d => d.parameters.length) = some n)
    (hdg : decode code pc = .ok (.invokevirtual index, 3)) (hrest : (rest.map fun v => v.category).sum ≤ 8) (hnc : nc ≤ 601024) (hns : ns ≤ 7293033)
    (kk : ∀ (H1 : Heap) (locs1 : List Loc), lwV s D cid sa S' Sm T0 Z ax am qo H1 locs1 → W p l e room_1 s m #[Value.ref b] below meth c H1 locs1 nc ns QQ (F0 m (pc + 3) ls (v :: rest))) :
    W p l e room_1 s m #[Value.ref b] below meth c H locs nc ns QQ (F0 m pc ls (av.reverse ++ .ref ax :: rest)) := by
  obtain ⟨ad1, ad2, tgt, cg, fg, I, J, A, B, I', J', A', B', O, rfl, rfl, hx, hm, ht, hz0, hP, hD, hS⟩ := hV
  have h9 := ycallV (e := e) (R := room_1) (below := below) (meth := meth) (cells := nc) (slots := ns) (QQ := QQ) (x := cw ad2 sa cid (wM I' J' A' B')) (r := [(qo, outC cid O)]) (ad := ad1) (w := wC tgt cg fg I J A B) (d := 600) (k := k) (n := n) (av := av) (rest := rest) (ls := ls) (pc := pc) (lw_fix C) (hM tgt cg fg I J A B hx) hz hP hD hS rfl hci hwd hn hpm hdg hl hrest ⟨by decide, by decide⟩ ⟨hnc, hns⟩ (fun v' w' H1 locs1 hq hP hD hS => by
    obtain ⟨rfl, ⟨tgt', cg', fg', I2, J2, A2, B2, hx2, rfl⟩ | ⟨cg', fg', I2, J2, A2, B2, hx2, rfl⟩⟩ := hq
    · have h8 := kk H1 locs1 ⟨ad1, ad2, tgt', cg', fg', I2, J2, A2, B2, I', J', A', B', O, rfl, rfl, hx2, hm, ht, hz0, hP, hD, hS⟩
      rw [Option.map_some, hvv]
      exact h8
    · obtain ⟨hP2, hD2⟩ := yswap hP hD (lw_free hD hS)
      have h8 := kk H1 locs1 ⟨fun j => ad1 (swP j), ad2, .ref 37, swV cg', swV fg', swI I2, J2, swA A2, swA B2, I', J', A', B', O, rfl, rfl, hx2, hm, ht, hz0, hP2, hD2, hS⟩
      rw [Option.map_some, hvv]
      exact h8)
  rw [hav] at h9
  exact h9
/-- a call of the reference -/
theorem lw_cm (C : lwC l p s m meth c b L xs D cid sa) {Sx Sm S' : St} {T0 T1 : Int32 → Prop} {Z : Int64 → Prop} {ax am qo : Nat} (hV : lwV s D cid sa Sx Sm T0 Z ax am qo H locs) {ls : Array Slot} (hl : ls.size = 8) {k n index pc : Nat} {av : List Value} {v : Value} {rest : List Value} {QQ : State → Prop}
    (hM : ∀ (I : Nat → Int32) (J : Nat → Int64) (A : Nat → Nat → Int32) (B : Nat → Nat → Int64), mInv Sm I A B → T0 (I 0) → xK l 600 k (.ref 0 :: av) (wM I J A B) (QM S' T1 v)) (hav : ∀ (ad : Nat → Nat) (sa : Nat), av.map (rV ad sa) = av) (hvv : ∀ (ad : Nat → Nat) (sa : Nat), rV ad sa v = v)
    (hz : xMC (mR k) = 0 ∧ xMS (mR k) = 0) (hci : (vwCl[11]?.map fun q => q.1) = some (xY (mR k)).cls)
    (hwd : Cond.methodLink RL index (xY (mR k)) ∈ xTB ∧ Cond.instanceMethod (xY (mR k)) ∈ xTB ∧ Cond.selects (xY (mR k)).cls (xY (mR k)) (xY (mR k)) ∈ xTB) (hn : av.length = n) (hpm : (parseMethodDescriptor (xY (mR k)).desc).map (fun d => d.parameters.length) = some n)
    (hdg : decode code pc = .ok (.invokevirtual index, 3)) (hrest : (rest.map fun v => v.category).sum ≤ 8) (hnc : nc ≤ 601024) (hns : ns ≤ 7293033)
    (kk : ∀ (H1 : Heap) (locs1 : List Loc), lwV s D cid sa Sx S' T1 Z ax am qo H1 locs1 → W p l e room_1 s m #[Value.ref b] below meth c H1 locs1 nc ns QQ (F0 m (pc + 3) ls (v :: rest))) :
    W p l e room_1 s m #[Value.ref b] below meth c H locs nc ns QQ (F0 m pc ls (av.reverse ++ .ref am :: rest)) := by
  obtain ⟨ad1, ad2, tgt, cg, fg, I, J, A, B, I', J', A', B', O, rfl, rfl, hx, hm, ht, hz0, hP, hD, hS⟩ := hV
  have hP0 : va_P D vwCl ([] ++ (cw ad2 sa cid (wM I' J' A' B') ++ (cw ad1 sa cid (wC tgt cg fg I J A B) ++ [(qo, outC cid O)]))) H := by rw [List.nil_append]; exact hP
  have hD0 : va_D (fun q : Nat => s.heap.size ≤ q) ([] ++ (cw ad2 sa cid (wM I' J' A' B') ++ (cw ad1 sa cid (wC tgt cg fg I J A B) ++ [(qo, outC cid O)]))) := by rw [List.nil_append]; exact hD
  have h9 := ycallV (e := e) (R := room_1) (below := below) (meth := meth) (cells := nc) (slots := ns) (QQ := QQ) (x := []) (r := cw ad1 sa cid (wC tgt cg fg I J A B) ++ [(qo, outC cid O)]) (ad := ad2) (w := wM I' J' A' B') (d := 600) (k := k) (n := n) (av := av) (rest := rest) (ls := ls) (pc := pc) (lw_fix C) (hM I' J' A' B' hm ht) hz hP0 hD0 hS rfl hci hwd hn hpm hdg hl hrest ⟨by decide, by decide⟩ ⟨hnc, hns⟩ (fun v' w' H1 locs1 hq hP hD hS => by
    obtain ⟨rfl, I2, J2, A2, B2, hm2, ht2, rfl⟩ := hq
    rw [List.nil_append] at hP hD
    have h8 := kk H1 locs1 ⟨ad1, ad2, tgt, cg, fg, I, J, A, B, I2, J2, A2, B2, O, rfl, rfl, hx, hm2, ht2, hz0, hP, hD, hS⟩
    rw [Option.map_some, hvv]
    exact h8)
  rw [hav] at h9
  exact h9
/-- a call of one of the helpers -/
theorem lw_ch (C : lwC l p s m meth c b L xs D cid sa) {S Sm : St} {T0 : Int32 → Prop} {Z : Int64 → Prop} {ax am qo : Nat} (hV : lwV s D cid sa S Sm T0 Z ax am qo H locs) {ls : Array Slot} (hl : ls.size = 8) {y : MethodName} {bytes : ByteArray} {ml n index pc : Nat} {hh : List (Nat × Nat × Nat × Nat)} {av : List Value} {ok : Bool} {z : Int64} {rest : List Value} {QQ : State → Prop}
    (hM : ∀ (tgt cg fg : Value) (I : Nat → Int32) (J : Nat → Int64) (A : Nat → Nat → Int32) (B : Nat → Nat → Int64), xInv S I A B → ∀ (dC : Nat → ClassId) (dI : Nat → Nat → Nat) (cid : Nat → ClassId) (ad : Nat → Nat) (sa sz qo : Nat) (O : Nat → Int64),
      Met l y (.codeWith y bytes ml (some .int) hh :: xTB) hRoom (hPc (.ref (ad 0) :: (av ++ [.ref qo])) (dC, dI) cid ad sa sz (wC tgt cg fg I J A B) qo O) (hQc (dC, dI) cid ad sa (wC tgt cg fg I J A B) qo (va_A (hWs ad sa cid (wC tgt cg fg I J A B) qo O) sz) ok z) 1 6 (va_A (hWs ad sa cid (wC tgt cg fg I J A B) qo O) sz))
    (hml : ml ≤ 40) (hgw : goodWord (.codeWith y bytes ml (some .int) hh) = true) (hcw : Cond.codeWith y bytes ml (some .int) hh ∈ lw_tbl)
    (hwd : Cond.methodLink RL index y ∈ xTB ∧ Cond.static y ∈ xTB ∧ Cond.initialized y.cls ∈ xTB) (hcls : y.cls = RL) (hn : av.length + 2 = n) (hpm : (parseMethodDescriptor y.desc).map (fun d => d.parameters.length) = some n)
    (hdg : decode code pc = .ok (.invokestatic index, 3)) (hrest : (rest.map fun v => v.category).sum ≤ 8) (hnc : nc + 1 ≤ 601024) (hns : ns + 6 ≤ 7293033)
    (kk : ∀ (H1 : Heap) (locs1 : List Loc), lwV s D cid sa S Sm T0 (fun u => ok = true → u = z) ax am qo H1 locs1 → W p l e room_1 s m #[Value.ref b] below meth c H1 locs1 (nc + 1) (ns + 6) QQ (F0 m (pc + 3) ls (.int (hvI ok) :: rest))) :
    W p l e room_1 s m #[Value.ref b] below meth c H locs nc ns QQ (F0 m pc ls (.ref qo :: (av.reverse ++ .ref ax :: rest))) := by
  have F := lw_fix C
  obtain ⟨⟨hx, hb, hr, hmlL, hown, hts, hX, hbl, hlocks, hgv⟩, hst, hK, hSt, hN, hTF⟩ := C
  obtain ⟨ad1, ad2, tgt, cg, fg, I, J, A, B, I', J', A', B', O, rfl, rfl, hxi, hm, ht, hz0, hP, hD, hS⟩ := hV
  have hM := hM tgt cg fg I J A B hxi D.1 D.2 cid ad1 sa H.size qo O
  rw [show lwW ad1 ad2 sa cid (wC tgt cg fg I J A B) (wM I' J' A' B') qo O = cw ad2 sa cid (wM I' J' A' B') ++ (hWs ad1 sa cid (wC tgt cg fg I J A B) qo O ++ []) by rw [List.append_nil]] at hP hD
  have hfree := lw_free hD hS
  have hcc : GoodIn lw_tbl (.codeWith y bytes ml (some .int) hh :: xTB) := fun w hw => by
    rcases List.mem_cons.mp hw with rfl | hw
    · exact ⟨hcw, good_of_word hgw⟩
    · exact ⟨(List.mem_filter.mp hw).1, good_of_word (List.mem_filter.mp hw).2⟩
  have hgood : GoodIn lw_tbl (va_wsS RL index y (.codeWith y bytes ml (some .int) hh :: xTB)) := fun w hw => by
    unfold va_wsS at hw
    rcases List.mem_append.mp hw with hw | hw
    · have hin : w ∈ xTB := by
        simp only [List.mem_cons, List.not_mem_nil, or_false] at hw
        rcases hw with rfl | rfl | rfl
        · exact hwd.1
        · exact hwd.2.1
        · exact hwd.2.2
      exact ⟨(List.mem_filter.mp hin).1, good_of_word (List.mem_filter.mp hin).2⟩
    · exact hcc w hw
  have hnest := xok.2.2.2.1
  have hrun := vx_runSW (e := e) (R := room_1) (below := below) (meth := meth) (cells := nc) (slots := ns) (locs := locs) (H := H) (g := F0 m pc ls (.ref qo :: (av.reverse ++ .ref (ad1 0) :: rest))) (As := .ref (ad1 0) :: (av ++ [.ref qo])) (rest := rest) (n := n) (own := RL) (index := index) F.1 hM
    (vx_cwSW (R := room_1) (maxL := ml) (bytes := bytes) (ret := some .int) (hh := hh) n hts hgood rfl rfl rfl ⟨by rw [hcls]; decide, by rw [hcls]; decide, hpm⟩ ⟨by decide, by show 8 + (ml + 11) + 700 ≤ 84000; omega⟩)
    ⟨fun a U g mk q => by
      obtain ⟨q0, q1, q2, q3, q4, q5, q6, q7⟩ := q
      exact ⟨q0, q1, q2, va_K.moved (u := U) (U := U.calling g mk a) (Vm.Alike.refl U.vm) q3, q4, fun z hz => by
        have h9 := q5 z hz
        rcases hnest z hz with ⟨a', i, b, n, d, h, rfl⟩ | ⟨a', i, x, h, rfl⟩
        · exact va_Nw.same rfl rfl h9
        · exact va_Nw.same rfl rfl h9, xStat.moved (u := U) (U := U.calling g mk a) (Vm.Alike.refl U.vm) q6, TF.same (u := U) (U := U.calling g mk a) rfl q7⟩,
     fun U hU hW => ⟨rfl, by rw [hU], by rw [hU]; exact yP_mid hP, va_K.moved hW.alike hK, (yD_mid hD).weaken (fun _ _ _ _ => trivial), fun z hz => by
        have h9 := hN z hz
        rcases hnest z hz with ⟨a, i, b, n, d, h, rfl⟩ | ⟨a, i, x, h, rfl⟩
        · exact va_Nw.warmF hW h9
        · exact va_Nw.warmM hW h9, by
        rw [hU]
        exact ((hSt.kept (fun a z1 z2 => hS.2.1 a z1 z2)).narrow hfree).moved hW.alike, by
        rw [hU]
        exact ((hTF.kept (fun a z1 z2 => hS.2.1 a z1 z2)).narrow hfree).moved hW⟩⟩ rfl (by simp; omega) hl (by simp [F0]) (lv_room hrest) hdg ⟨hnc, hns⟩
  intro T hT X
  obtain ⟨v, st₀, t, T', L9, h0, X', hL9, e1, e2, ⟨⟨O', ho, hO', hp, hd⟩, hz9, hk⟩, st⟩ := hrun T hT X
  cases ho
  rw [h0] at hz9 hk
  obtain ⟨j1, j2⟩ := yjoin hP hD hfree hk hp hd
  rw [List.append_nil] at j1 j2
  obtain ⟨t2, b1, b2⟩ := kk T'.heap (locs ++ L9) ⟨ad1, ad2, tgt, cg, fg, I, J, A, B, I', J', A', B', O', rfl, rfl, hxi, hm, ht, hO', by rw [e1]; exact j1, j2, ⟨Nat.le_trans hS.1 (by rw [e1]; exact hz9), fun q h1 h2 => by rw [e1, hk q (Nat.lt_of_lt_of_le h1 hS.1) (fun z => h2 (hfree q z))]; exact hS.2.1 q h1 h2, fun q hq => by
      rcases List.mem_append.mp hq with h | h
      · exact hS.2.2 q h
      · exact hfree _ (hL9 q h)⟩⟩ T' rfl X'
  exact ⟨t2, st t2 b1, b2⟩
/-- out's one element -/
theorem lw_out (C : lwC l p s m meth c b L xs D cid sa) {Sx Sm : St} {T0 : Int32 → Prop} {Z : Int64 → Prop} {ax am qo : Nat} (hV : lwV s D cid sa Sx Sm T0 Z ax am qo H locs) {ls : Array Slot} {pc : Nat} {rest : List Value} {QQ : State → Prop} (hdg : decode code pc = .ok (.laload, 1))
    (kk : ∀ u : Int64, Z u → W p l e room_1 s m #[Value.ref b] below meth c H locs nc ns QQ (F0 m (pc + 1) ls (.long u :: rest))) : W p l e room_1 s m #[Value.ref b] below meth c H locs nc ns QQ (F0 m pc ls (.int 0 :: .ref qo :: rest)) := by
  obtain ⟨⟨hx, hb, hr, hml, hown, hts, hX, hbl, hlocks, hgv⟩, hst, hK, hSt, hN, hTF⟩ := C
  obtain ⟨ad1, ad2, tgt, cg, fg, I, J, A, B, I', J', A', B', O, rfl, rfl, hxi, hm, ht, hz0, hP, hD, hS⟩ := hV
  rw [show lwW ad1 ad2 sa cid (wC tgt cg fg I J A B) (wM I' J' A' B') qo O = (cw ad2 sa cid (wM I' J' A' B') ++ cw ad1 sa cid (wC tgt cg fg I J A B)) ++ [(qo, outC cid O)] by rw [List.append_assoc]] at hP
  exact va_lald hx hb hK hP (cw ad2 sa cid (wM I' J' A' B') ++ cw ad1 sa cid (wC tgt cg fg I J A B)).length 1 (last_at _ _) rfl (by unfold vp_in; decide) hdg (kk _ hz0)
end LC
