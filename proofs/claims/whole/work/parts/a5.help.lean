/-! ===== the law's four helpers: a call of the class, its answer laid into out, its refusal caught ===== -/
theorem TF.moved {A : Nat → Prop} {u U : State} {H : Heap} (hW : u.WarmedH U.vm) (h : TF A u H) : TF A U H := by
  refine ⟨h.1.moved hW.alike, h.2.1.moved hW.alike, h.2.2.1.imp fun _ q => q.warm hW, h.2.2.2.1.imp fun _ q => q.warm hW, h.2.2.2.2.1.imp fun _ q => q.warm hW, fun w hw => ?_⟩
  have h9 := h.2.2.2.2.2 w hw
  simp only [thW, List.mem_cons, List.not_mem_nil, or_false] at hw
  rcases hw with rfl | rfl | rfl | rfl
  · exact va_Nw.warmD hW h9
  · exact va_Nw.warmD hW h9
  · exact va_Nw.warmD hW h9
  · exact va_Nw.warmC hW h9
theorem TF.same {A : Nat → Prop} {u U : State} {H : Heap} (hv : U.vm = u.vm) (h : TF A u H) : TF A U H := ⟨h.1.moved (by rw [hv]; exact Vm.Alike.refl _), h.2.1.moved (by rw [hv]; exact Vm.Alike.refl _), h.2.2.1.imp fun _ q => q.same hv, h.2.2.2.1.imp fun _ q => q.same hv, h.2.2.2.2.1.imp fun _ q => q.same hv, fun w hw => va_Nw.same (th_on w hw) hv.symm (h.2.2.2.2.2 w hw)⟩
theorem TF.kept {A : Nat → Prop} {U : State} {H H1 : Heap} (h : TF A U H) (hq : ∀ a : Nat, a < H.size → ¬ A a → H1[a]? = H[a]?) : TF A U H1 := ⟨h.1.kept hq, h.2.1.kept hq, h.2.2⟩
theorem TF.narrow {A B : Nat → Prop} {U : State} {H : Heap} (h : TF A U H) (hAB : ∀ q, B q → A q) : TF B U H := ⟨h.1.narrow hAB, h.2.1.narrow hAB, h.2.2⟩
theorem yofWH {l : Launch} {y : MethodName} {ws ws' : List Cond} {rm : Room} {Pc : Array Value → State → Prop} {Qc : Array Value → State → Outcome → State → Prop} {mc ms : Nat} {free : Addr → Prop} {cc : ByteArray} {maxL : Nat} {ret : Option FieldType} {hh : List (Nat × Nat × Nat × Nat)}
    (hy : plainName y.cls = true) (hw : ws = Cond.codeWith y cc maxL ret hh :: ws')
    (body : ∀ p e s m args below meth c s₁, BodyLoose p l y (headSpec ws rm) cc maxL ret e s m args below meth c s₁ → c.maxLocals = maxL → Pc args s →
      W p l e (headSpec ws rm).room s m args below meth c s.heap [] 0 0 (MQ below Qc args s mc ms free) (entryFrame m args maxL)) : Met l y ws rm Pc Qc mc ms free := by
  refine MetFree.of_bodyS (code := cc) (maxLocals := maxL) (ret := ret) hy ?_ ?_
  · intro args s m h hn
    obtain ⟨m9, meth, c, hn9, h1, h2, h3, h4, -, h5, h6, -⟩ := Cond.codeWith_spec (atoms_spec (ws := ws) h _ (by rw [hw]; exact List.mem_cons_self))
    cases hn.symm.trans hn9
    exact ⟨meth, c, h1, h2, h3, h4, h5, h6⟩
  · intro p e s m args below meth c s₁ B hml hP _
    have hh0 : s₁.heap = s.heap := by rw [B.state]; rfl
    obtain ⟨t, a1, o, b1, b2, b3⟩ := body p e s m args below meth c s₁ B hml hP s₁ hh0 (Stand.of_body B)
    exact ⟨t, o, a1, b1, b2, ⟨b3.1, b3.2⟩⟩
section YX
variable {p : Program} {l : Launch} {e : Env} {R : Room} {s : State} {m : MethodId} {args : Array Value} {below : List Frame} {meth : Method} {c : Code} {H : Heap} {locs : List Loc} {cells slots : Nat} {QQ : State → Prop} {cc : ByteArray} {nL : Nat} {Ts : List Cond} {own : String}
theorem yafterX {pc : Nat} {ls : Array Slot} {rest st0 : List Value} {a : Array Value} {A : Nat → Prop} {mc ms n1 sa : Nat} {ad : Nat → Nat} {cid : Nat → ClassId} {D : va_G} {x r : va_W} {w : XW}
    (hr : vx_Run p l e R s m args below meth c H locs cells slots mc ms (F0 m pc ls st0) rest (xQc ad n1 1 sa cid D vwCl (va_A (cw ad sa cid w) H.size) (fun _ _ => False) a) (XCw w (va_A (cw ad sa cid w) H.size) D cid ad sa) (va_A (cw ad sa cid w) H.size)) (hS : va_S A s.heap H locs) (hA : ∀ q, va_A (cw ad sa cid w) H.size q → A q)
    (hP : va_P D vwCl (x ++ (cw ad sa cid w ++ r)) H) (hD : va_D A (x ++ (cw ad sa cid w ++ r)))
    (kx : ∀ (ce : Cell) (q9 : Addr) (H1 : Heap) (locs1 : List Loc), va_P D vwCl (x ++ (cw ad sa cid w ++ r)) H1 → va_S A s.heap H1 locs1 → H1[q9]? = some ce → ce.vm = .none → s.vm.findClass thE = some ce.cls →
      vx_W p l e R s m args below meth c H1 locs1 (cells + mc) (slots + ms) QQ (F0 m pc ls rest) q9) : W p l e R s m args below meth c H locs cells slots QQ (F0 m pc ls st0) := by
  intro T hT X
  rcases hr T hT X with ⟨v, st₀, t, T', L, h0, X', hL, e1, e2, ⟨⟨v', w', ad', a1, a2, a3, hv, hq, hp, hd⟩, hz, hk⟩, st⟩ | ⟨q, st₀, t, T', L, E, ce, h0, X', hL, e1, e2, ⟨hE, hp, hd, hz, hk⟩, hce, hcv, hcl, st⟩
  · exact hq.elim
  · rw [hE] at hcl
    rw [h0] at hz hk
    obtain ⟨j1, j2⟩ := yjoin hP hD hA hk hp hd
    obtain ⟨t2, b1, b2⟩ := kx ce q T'.heap (locs ++ L) (by rw [e1]; exact j1)
      ⟨Nat.le_trans hS.1 (by rw [e1]; exact hz), fun q h1 h2 => by rw [e1, hk q (Nat.lt_of_lt_of_le h1 hS.1) (fun z => h2 (hA q z))]; exact hS.2.1 q h1 h2, fun q hq => by
        rcases List.mem_append.mp hq with h | h
        · exact hS.2.2 q h
        · exact hA _ (hL q h)⟩ (by rw [e1]; exact hce) hcv hcl T' rfl X'
    exact ⟨t2, st.trans b1, b2⟩
/-- a refused call of the class -/
theorem ycallX {A : Nat → Prop} {D : va_G} {cid : Nat → ClassId} {sa : Nat} {ad : Nat → Nat} {x r : va_W} {w : XW} {d k n index ci pc : Nat} {fs : List Value} {av : List Value} {ls : Array Slot} {rest : List Value}
    (F : yFix l p s m args c cc nL Ts own A D cid sa) (hTF : TF A s s.heap) (hM : xTh l d k (.ref 0 :: av) w)
    (hP : va_P D vwCl (x ++ (cw ad sa cid w ++ r)) H) (hD : va_D A (x ++ (cw ad sa cid w ++ r))) (hS : va_S A s.heap H locs)
    (hw : xat w 0 = some (.inr (ci, fs))) (hci : (vwCl[ci]?.map fun q => q.1) = some (xY (mR k)).cls)
    (hwd : Cond.methodLink own index (xY (mR k)) ∈ xTB ∧ Cond.instanceMethod (xY (mR k)) ∈ xTB ∧ Cond.selects (xY (mR k)).cls (xY (mR k)) (xY (mR k)) ∈ xTB) (hn : av.length = n) (hpm : (parseMethodDescriptor (xY (mR k)).desc).map (fun d => d.parameters.length) = some n)
    (hdg : decode cc pc = .ok (.invokevirtual index, 3)) (hl : ls.size = nL) (hrest : (rest.map fun v => v.category).sum ≤ 8) (hR : d + 2 ≤ R.frames ∧ 59 + 60 * (d + 1) ≤ R.locals) (hf : cells + 1 ≤ R.cells ∧ slots + 6 ≤ R.slots)
    (kx : ∀ (ce : Cell) (q9 : Addr) (H1 : Heap) (locs1 : List Loc), va_P D vwCl (x ++ (cw ad sa cid w ++ r)) H1 → va_S A s.heap H1 locs1 → H1[q9]? = some ce → ce.vm = .none → s.vm.findClass thE = some ce.cls →
      vx_W p l e R s m args below meth c H1 locs1 (cells + 1) (slots + 6) QQ (F0 m pc ls rest) q9) :
    W p l e R s m args below meth c H locs cells slots QQ (F0 m pc ls ((av.map (rV ad sa)).reverse ++ .ref (ad 0) :: rest)) := by
  have hM := hM D.1 D.2 cid ad sa H.size
  obtain ⟨hfree, hpre⟩ := yPre F hP hD hS
  obtain ⟨CF, hTs, hK, hA, hnw, hst⟩ := F
  have hmeth := xok.2.2.2.2.1 k
  have hrc : ∃ cell : Cell, H[ad 0]? = some cell ∧ cell.vm.isStatics = false ∧ s.vm.findClass (xY (mR k)).cls = some cell.cls := by
    cases hc : vwCl[ci]? with
    | none => rw [hc] at hci; cases hci
    | some q =>
      rw [hc] at hci
      have hci : q.1 = (xY (mR k)).cls := Option.some.inj hci
      rw [← hci]
      exact va_recv hK (yP_mid hP) hc (cw_get hw)
  refine yafterX (vx_runV (C := (xY (mR k)).cls) (b := ad 0) (As := av.map (rV ad sa)) (rest := rest) CF hM (cwV n CF.2.2.2.2 (yGood (ws := [_, _, _, _]) hTs (fun z hz => by
      simp only [List.mem_cons, List.not_mem_nil, or_false] at hz
      rcases hz with rfl | rfl | rfl | rfl
      · exact hwd.1
      · exact hwd.2.1
      · exact hwd.2.2
      · exact hmeth.2.1)) rfl rfl rfl ⟨rfl, hmeth.2.2.1.1, hmeth.2.2.1.2, hpm⟩ ⟨hR.1, by show 8 + (xML (mR k) + 11) + 60 * (d + 1) ≤ _; have := hmeth.2.2.2.2.1; omega⟩) ⟨fun a U g mk q => ?_, hrc, fun U hU hW => ⟨rfl, ?_⟩⟩ rfl (by rw [List.length_map]; exact hn) hl rfl (lv_room hrest) hdg hf) hS hfree hP hD kx
  · obtain ⟨q0, q1, q2, q3, q4, q5, q6, q7⟩ := q
    obtain ⟨r0, r1, r2, r3, r4, r5, r6⟩ := yBlind a U g mk ⟨q0, q1, q2, q3, q4, q5, q6⟩
    exact ⟨r0, r1, r2, r3, r4, r5, r6, TF.same (u := U) (U := U.calling g mk a) rfl q7⟩
  · obtain ⟨r1, r2, r3, r4, r5, r6⟩ := hpre U hU hW
    exact ⟨r1, r2, r3, r4, r5, r6, by rw [hU]; exact ((hTF.kept (fun a z1 z2 => hS.2.1 a z1 z2)).narrow hfree).moved hW⟩
end YX
abbrev outC (cid : Nat → ClassId) (O : Nat → Int64) : va_E := .inl (cid 1, 1, .inr (.inl O))
abbrev hWs (ad : Nat → Nat) (sa : Nat) (cid : Nat → ClassId) (w : XW) (qo : Nat) (O : Nat → Int64) : va_W := cw ad sa cid w ++ [(qo, outC cid O)]
def hPc (av : List Value) (D : va_G) (cid : Nat → ClassId) (ad : Nat → Nat) (sa sz : Nat) (w : XW) (qo : Nat) (O : Nat → Int64) : Array Value → State → Prop :=
  va_Pc av (fun U => U.heap.size = sz ∧ va_P D vwCl (hWs ad sa cid w qo O) U.heap ∧ va_K D vwCl (xTys cid) U ∧ va_D (fun _ => True) (hWs ad sa cid w qo O) ∧ (∀ z ∈ xNW, va_Nw z U) ∧ xStat sa (va_A (hWs ad sa cid w qo O) sz) U U.heap ∧ TF (va_A (hWs ad sa cid w qo O) sz) U U.heap)
def hvI (ok : Bool) : Int32 := if ok = true then 0 else 1
def hQc (D : va_G) (cid : Nat → ClassId) (ad : Nat → Nat) (sa : Nat) (w : XW) (qo : Nat) (A : Nat → Prop) (ok : Bool) (z : Int64) : Array Value → State → Outcome → State → Prop := fun _ st oc t =>
  (∃ O' : Nat → Int64, oc = .returned (some (.int (hvI ok))) ∧ (ok = true → O' 0 = z) ∧ va_P D vwCl (hWs ad sa cid w qo O') t.heap ∧ va_D A (hWs ad sa cid w qo O')) ∧ va_F A st t
def hRoom : Room := { frames := 10, cells := 1, slots := 6, locals := 700 }
theorem last_at {α : Type} (a : List α) (z : α) : (a ++ [z])[a.length]? = some z := by simp
theorem last_set {α : Type} (a : List α) (z z' : α) : (a ++ [z]).set a.length z' = a ++ [z'] := by simp
theorem th_cast : Cond.castable thE thE ∈ thW := by decide +kernel
theorem th_link : Cond.classLink RL 13 thE ∈ xTB := (xmT (tm4 (List.mem_of_getElem? (i := 165) rfl)) rfl)
section HP
variable {l : Launch} {S : St} {tgt cg fg : Value} {I : Nat → Int32} {J : Nat → Int64} {A : Nat → Nat → Int32} {B : Nat → Nat → Int64}
theorem dL_sign_0 : decode cL_sign 0 = .ok (.aload 5, 2) := by decide +kernel
theorem dL_sign_2 : decode cL_sign 2 = .ok (.iconst 0, 1) := by decide +kernel
theorem dL_sign_3 : decode cL_sign 3 = .ok (.aload_n 0, 1) := by decide +kernel
theorem dL_sign_4 : decode cL_sign 4 = .ok (.iload_n 1, 1) := by decide +kernel
theorem dL_sign_5 : decode cL_sign 5 = .ok (.iload_n 2, 1) := by decide +kernel
theorem dL_sign_6 : decode cL_sign 6 = .ok (.iload_n 3, 1) := by decide +kernel
theorem dL_sign_7 : decode cL_sign 7 = .ok (.iload 4, 2) := by decide +kernel
theorem dL_sign_9 : decode cL_sign 9 = .ok (.invokevirtual 7, 3) := by decide +kernel
theorem dL_sign_12 : decode cL_sign 12 = .ok (.i2l, 1) := by decide +kernel
theorem dL_sign_13 : decode cL_sign 13 = .ok (.lastore, 1) := by decide +kernel
theorem dL_sign_14 : decode cL_sign 14 = .ok (.goto 7, 3) := by decide +kernel
theorem dL_sign_17 : decode cL_sign 17 = .ok (.astore 6, 2) := by decide +kernel
theorem dL_sign_19 : decode cL_sign 19 = .ok (.iconst 1, 1) := by decide +kernel
theorem dL_sign_20 : decode cL_sign 20 = .ok (.ireturn, 1) := by decide +kernel
theorem dL_sign_21 : decode cL_sign 21 = .ok (.iconst 0, 1) := by decide +kernel
theorem dL_sign_22 : decode cL_sign 22 = .ok (.ireturn, 1) := by decide +kernel
theorem dL_times_0 : decode cL_times 0 = .ok (.aload 4, 2) := by decide +kernel
theorem dL_times_2 : decode cL_times 2 = .ok (.iconst 0, 1) := by decide +kernel
theorem dL_times_3 : decode cL_times 3 = .ok (.aload_n 0, 1) := by decide +kernel
theorem dL_times_4 : decode cL_times 4 = .ok (.iload_n 1, 1) := by decide +kernel
theorem dL_times_5 : decode cL_times 5 = .ok (.iload_n 2, 1) := by decide +kernel
theorem dL_times_6 : decode cL_times 6 = .ok (.iload_n 3, 1) := by decide +kernel
theorem dL_times_7 : decode cL_times 7 = .ok (.invokevirtual 15, 3) := by decide +kernel
theorem dL_times_10 : decode cL_times 10 = .ok (.lastore, 1) := by decide +kernel
theorem dL_times_11 : decode cL_times 11 = .ok (.goto 7, 3) := by decide +kernel
theorem dL_times_14 : decode cL_times 14 = .ok (.astore 5, 2) := by decide +kernel
theorem dL_times_16 : decode cL_times 16 = .ok (.iconst 1, 1) := by decide +kernel
theorem dL_times_17 : decode cL_times 17 = .ok (.ireturn, 1) := by decide +kernel
theorem dL_times_18 : decode cL_times 18 = .ok (.iconst 0, 1) := by decide +kernel
theorem dL_times_19 : decode cL_times 19 = .ok (.ireturn, 1) := by decide +kernel
theorem dL_node_0 : decode cL_node 0 = .ok (.aload_n 3, 1) := by decide +kernel
theorem dL_node_1 : decode cL_node 1 = .ok (.iconst 0, 1) := by decide +kernel
theorem dL_node_2 : decode cL_node 2 = .ok (.aload_n 0, 1) := by decide +kernel
theorem dL_node_3 : decode cL_node 3 = .ok (.iload_n 1, 1) := by decide +kernel
theorem dL_node_4 : decode cL_node 4 = .ok (.iload_n 2, 1) := by decide +kernel
theorem dL_node_5 : decode cL_node 5 = .ok (.invokevirtual 19, 3) := by decide +kernel
theorem dL_node_8 : decode cL_node 8 = .ok (.i2l, 1) := by decide +kernel
theorem dL_node_9 : decode cL_node 9 = .ok (.lastore, 1) := by decide +kernel
theorem dL_node_10 : decode cL_node 10 = .ok (.goto 7, 3) := by decide +kernel
theorem dL_node_13 : decode cL_node 13 = .ok (.astore 4, 2) := by decide +kernel
theorem dL_node_15 : decode cL_node 15 = .ok (.iconst 1, 1) := by decide +kernel
theorem dL_node_16 : decode cL_node 16 = .ok (.ireturn, 1) := by decide +kernel
theorem dL_node_17 : decode cL_node 17 = .ok (.iconst 0, 1) := by decide +kernel
theorem dL_node_18 : decode cL_node 18 = .ok (.ireturn, 1) := by decide +kernel
theorem dL_octet_0 : decode cL_octet 0 = .ok (.aload_n 2, 1) := by decide +kernel
theorem dL_octet_1 : decode cL_octet 1 = .ok (.iconst 0, 1) := by decide +kernel
theorem dL_octet_2 : decode cL_octet 2 = .ok (.aload_n 0, 1) := by decide +kernel
theorem dL_octet_3 : decode cL_octet 3 = .ok (.iload_n 1, 1) := by decide +kernel
theorem dL_octet_4 : decode cL_octet 4 = .ok (.invokevirtual 23, 3) := by decide +kernel
theorem dL_octet_7 : decode cL_octet 7 = .ok (.i2l, 1) := by decide +kernel
theorem dL_octet_8 : decode cL_octet 8 = .ok (.lastore, 1) := by decide +kernel
theorem dL_octet_9 : decode cL_octet 9 = .ok (.goto 6, 3) := by decide +kernel
theorem dL_octet_12 : decode cL_octet 12 = .ok (.astore_n 3, 1) := by decide +kernel
theorem dL_octet_13 : decode cL_octet 13 = .ok (.iconst 1, 1) := by decide +kernel
theorem dL_octet_14 : decode cL_octet 14 = .ok (.ireturn, 1) := by decide +kernel
theorem dL_octet_15 : decode cL_octet 15 = .ok (.iconst 0, 1) := by decide +kernel
theorem dL_octet_16 : decode cL_octet 16 = .ok (.ireturn, 1) := by decide +kernel
set_option maxHeartbeats 4000000 in
set_option maxRecDepth 100000 in
theorem h_sign (hl : l.stackTraces = false) {x y k w : Int32} (h : xInv S I A B) (dC : Nat → ClassId) (dI : Nat → Nat → Nat) (cid : Nat → ClassId) (ad : Nat → Nat) (sa sz qo : Nat) (O : Nat → Int64) :
    Met l yL_sign (.codeWith yL_sign cL_sign 7 (some .int) [(0, 14, 17, 13)] :: xTB) hRoom (hPc [.ref (ad 0), .int x, .int y, .int k, .int w, .ref qo] (dC, dI) cid ad sa sz (wC tgt cg fg I J A B) qo O) (hQc (dC, dI) cid ad sa (wC tgt cg fg I J A B) qo (va_A (hWs ad sa cid (wC tgt cg fg I J A B) qo O) sz) (kB60 S x y k && wB4 w) (anSign S x y k w).toInt64) 1 6 (va_A (hWs ad sa cid (wC tgt cg fg I J A B) qo O) sz) := by
  refine yofWH (cc := cL_sign) (maxL := 7) (ret := some .int) (hh := [(0, 14, 17, 13)]) (by decide +kernel) rfl ?_
  intro p e s m args below meth c s₁ Bd hml hv
  obtain ⟨rfl, hsz, hP, hK, hD0, hN, hSt, hTF⟩ := hv
  have hx := Bd.exec
  have hb := Bd.bytes
  have hr := Bd.returns
  have hts := atoms_spec (ws := (.codeWith yL_sign cL_sign 7 (some .int) [(0, 14, 17, 13)] :: xTB)) Bd.pre
  have hown : s.vm.findClass RL = some m.cls := findClass_of_methodNamed Bd.named
  have htab := vx_table (x := yL_law) Bd (hts _ List.mem_cons_self)
  subst hsz
  have hD := hD0.self (sz := s.heap.size)
  generalize hAe : va_A (hWs ad sa cid (wC tgt cg fg I J A B) qo O) s.heap.size = AA at hD hSt hTF ⊢
  have hA : ∀ q : Nat, s.heap.size ≤ q → AA q := fun q z => by rw [← hAe]; exact Or.inr z
  have hS : va_S AA s.heap s.heap [] := va_S.rf
  have hlo := lv_entry ([.ref (ad 0), .int x, .int y, .int k, .int w, .ref qo]) (n := 7) (Nat.le_of_ble_eq_true rfl)
  rw [lg_entry_eq]
  generalize (lg_sl ([.ref (ad 0), .int x, .int y, .int k, .int w, .ref qo]) ++ List.replicate (7 - (lg_sl ([.ref (ad 0), .int x, .int y, .int k, .int w, .ref qo])).length) Slot.unset).toArray = ls at hlo ⊢
  have hlo : lv_has ls 7 [(0, .ref (ad 0)), (1, .int x), (2, .int y), (3, .int k), (4, .int w), (5, .ref qo)] := hlo
  have F : yFix l p s m ([.ref (ad 0), .int x, .int y, .int k, .int w, .ref qo]).toArray c cL_sign 7 (.codeWith yL_sign cL_sign 7 (some .int) [(0, 14, 17, 13)] :: xTB) RL AA (dC, dI) cid sa := ⟨⟨hx, hb, hml, hown, hts⟩, fun w z => List.mem_cons_of_mem _ z, hK, hA, hN, hSt⟩
  refine lv_aload hx hb dL_sign_0 (lv_at hlo 5 rfl) ?_
  refine lv_iconst (v := 0) hx hb dL_sign_2 (by decide) ?_
  refine lv_aload_n hx hb dL_sign_3 rfl (lv_at hlo 0 rfl) ?_
  refine lv_iload_n hx hb dL_sign_4 rfl (lv_at hlo 1 rfl) ?_
  refine lv_iload_n hx hb dL_sign_5 rfl (lv_at hlo 2 rfl) ?_
  refine lv_iload_n hx hb dL_sign_6 rfl (lv_at hlo 3 rfl) ?_
  refine lv_iload hx hb dL_sign_7 (lv_at hlo 4 rfl) ?_
  have hwd : Cond.methodLink RL 7 (xY (mR 99)) ∈ xTB ∧ Cond.instanceMethod (xY (mR 99)) ∈ xTB ∧ Cond.selects (xY (mR 99)).cls (xY (mR 99)) (xY (mR 99)) ∈ xTB := ⟨(xmT (tm4 (List.mem_of_getElem? (i := 166) rfl)) rfl), (xmT (tm4 (List.mem_of_getElem? (i := 167) rfl)) rfl), (xmT (tm4 (List.mem_of_getElem? (i := 168) rfl)) rfl)⟩
  have t1 : xMC (mR 99) = 0 ∧ xMS (mR 99) = 0 := ⟨rfl, rfl⟩
  have t2 : (vwCl[10]?.map fun q => q.1) = some (xY (mR 99)).cls := rfl
  have t3 : (parseMethodDescriptor (xY (mR 99)).desc).map (fun d => d.parameters.length) = some 4 := by decide +kernel
  have t5 : xat (wC tgt cg fg I J A B) 0 = some (.inr (10, _)) := rfl
  cases hok : (kB60 S x y k && wB4 w) with
  | true =>
    have t4 := x_sign (l := l) (d := 8) (J := J) (tgt := tgt) (cg := cg) (fg := fg) (by omega) h (Bool.and_eq_true_iff.mp hok).1 (Bool.and_eq_true_iff.mp hok).2 (Q := fun v w' => v = some (.int (anSign S x y k w)) ∧ w' = (wC tgt cg fg I J A B)) ⟨rfl, rfl⟩
    generalize (wC tgt cg fg I J A B) = w9 at *
    refine ycallV (x := []) (r := [(qo, outC cid O)]) (ad := ad) (w := w9) (d := 8) (k := 99) (n := 4) (av := [.int x, .int y, .int k, .int w]) (rest := [.int 0, .ref qo]) F t4 t1 hP hD hS t5 t2 hwd rfl t3 dL_sign_9 hlo.1 (Nat.le_of_ble_eq_true rfl) ⟨by decide, by decide⟩ ⟨by decide, by decide⟩ (fun v w' H1 locs1 hq hP hD hS => ?_)
    obtain ⟨rfl, e9⟩ := hq
    rw [e9] at hP hD
    refine lv_i2l hx hb dL_sign_12 rfl ?_
    refine va_last hx hb hK hP hD hS (cw ad sa cid w9).length 1 (last_at _ _) rfl (by unfold vp_in; decide) dL_sign_13 (fun H2 locs2 hP hD hS => ?_)
    rw [show ([] ++ (cw ad sa cid w9 ++ [(qo, outC cid O)]) : va_W) = cw ad sa cid w9 ++ [(qo, outC cid O)] from rfl, last_set] at hP hD
    refine lv_goto (tgt := 21) hx hb dL_sign_14 (by decide) ?_
    refine lv_iconst (v := 0) hx hb dL_sign_21 (by decide) ?_
    refine W.widen (k := 1) (n := 6) (by omega) (by omega) ?_
    exact W.iret (v := 0) hx hb hr (fun t ht hW => ⟨⟨_, rfl, (fun _ => by first | rfl | simp [vp_updL]), (by rw [ht]; exact hP), hD⟩, hS.F ht⟩) hS.2.2 dL_sign_22
  | false =>
    have t4 := t_sign (J := J) (tgt := tgt) (cg := cg) (fg := fg) (d := 7) hl (by omega) h hok
    generalize (wC tgt cg fg I J A B) = w9 at *
    refine ycallX (x := []) (r := [(qo, outC cid O)]) (ad := ad) (w := w9) (d := 7) (k := 99) (n := 4) (av := [.int x, .int y, .int k, .int w]) (rest := [.int 0, .ref qo]) F hTF t4 hP hD hS t5 t2 hwd rfl t3 dL_sign_9 hlo.1 (Nat.le_of_ble_eq_true rfl) ⟨by decide, by decide⟩ ⟨by decide, by decide⟩ (fun ce q9 H1 locs1 hP hS hce hcv hcl => ?_)
    refine vx_catch (own := RL) (name := thE) hown [] ⟨0, 14, 17, 13⟩ [] (by rw [htab]; rfl) (fun z hz => by cases hz) (by decide) (by decide) (hts _ (List.mem_cons_of_mem _ th_link)) (va_Nw.use (th_on _ th_cast) (hTF.2.2.2.2.2 _ th_cast)) hce hcv hcl ?_
    refine lv_astore hx hb dL_sign_17 hlo (by decide) rfl (fun ls1 hlo1 => ?_)
    refine lv_iconst (v := 1) hx hb dL_sign_19 (by decide) ?_
    exact W.iret (v := 1) hx hb hr (fun t ht hW => ⟨⟨O, rfl, (fun z => by cases z), (by rw [ht]; exact hP), hD⟩, hS.F ht⟩) hS.2.2 dL_sign_20
set_option maxHeartbeats 4000000 in
set_option maxRecDepth 100000 in
theorem h_times (hl : l.stackTraces = false) {x y k : Int32} (h : xInv S I A B) (dC : Nat → ClassId) (dI : Nat → Nat → Nat) (cid : Nat → ClassId) (ad : Nat → Nat) (sa sz qo : Nat) (O : Nat → Int64) :
    Met l yL_times (.codeWith yL_times cL_times 6 (some .int) [(0, 11, 14, 13)] :: xTB) hRoom (hPc [.ref (ad 0), .int x, .int y, .int k, .ref qo] (dC, dI) cid ad sa sz (wC tgt cg fg I J A B) qo O) (hQc (dC, dI) cid ad sa (wC tgt cg fg I J A B) qo (va_A (hWs ad sa cid (wC tgt cg fg I J A B) qo O) sz) (kB60 S x y k) (anTimes S x y k)) 1 6 (va_A (hWs ad sa cid (wC tgt cg fg I J A B) qo O) sz) := by
  refine yofWH (cc := cL_times) (maxL := 6) (ret := some .int) (hh := [(0, 11, 14, 13)]) (by decide +kernel) rfl ?_
  intro p e s m args below meth c s₁ Bd hml hv
  obtain ⟨rfl, hsz, hP, hK, hD0, hN, hSt, hTF⟩ := hv
  have hx := Bd.exec
  have hb := Bd.bytes
  have hr := Bd.returns
  have hts := atoms_spec (ws := (.codeWith yL_times cL_times 6 (some .int) [(0, 11, 14, 13)] :: xTB)) Bd.pre
  have hown : s.vm.findClass RL = some m.cls := findClass_of_methodNamed Bd.named
  have htab := vx_table (x := yL_law) Bd (hts _ List.mem_cons_self)
  subst hsz
  have hD := hD0.self (sz := s.heap.size)
  generalize hAe : va_A (hWs ad sa cid (wC tgt cg fg I J A B) qo O) s.heap.size = AA at hD hSt hTF ⊢
  have hA : ∀ q : Nat, s.heap.size ≤ q → AA q := fun q z => by rw [← hAe]; exact Or.inr z
  have hS : va_S AA s.heap s.heap [] := va_S.rf
  have hlo := lv_entry ([.ref (ad 0), .int x, .int y, .int k, .ref qo]) (n := 6) (Nat.le_of_ble_eq_true rfl)
  rw [lg_entry_eq]
  generalize (lg_sl ([.ref (ad 0), .int x, .int y, .int k, .ref qo]) ++ List.replicate (6 - (lg_sl ([.ref (ad 0), .int x, .int y, .int k, .ref qo])).length) Slot.unset).toArray = ls at hlo ⊢
  have hlo : lv_has ls 6 [(0, .ref (ad 0)), (1, .int x), (2, .int y), (3, .int k), (4, .ref qo)] := hlo
  have F : yFix l p s m ([.ref (ad 0), .int x, .int y, .int k, .ref qo]).toArray c cL_times 6 (.codeWith yL_times cL_times 6 (some .int) [(0, 11, 14, 13)] :: xTB) RL AA (dC, dI) cid sa := ⟨⟨hx, hb, hml, hown, hts⟩, fun w z => List.mem_cons_of_mem _ z, hK, hA, hN, hSt⟩
  refine lv_aload hx hb dL_times_0 (lv_at hlo 4 rfl) ?_
  refine lv_iconst (v := 0) hx hb dL_times_2 (by decide) ?_
  refine lv_aload_n hx hb dL_times_3 rfl (lv_at hlo 0 rfl) ?_
  refine lv_iload_n hx hb dL_times_4 rfl (lv_at hlo 1 rfl) ?_
  refine lv_iload_n hx hb dL_times_5 rfl (lv_at hlo 2 rfl) ?_
  refine lv_iload_n hx hb dL_times_6 rfl (lv_at hlo 3 rfl) ?_
  have hwd : Cond.methodLink RL 15 (xY (mR 100)) ∈ xTB ∧ Cond.instanceMethod (xY (mR 100)) ∈ xTB ∧ Cond.selects (xY (mR 100)).cls (xY (mR 100)) (xY (mR 100)) ∈ xTB := ⟨(xmT (tm5 (List.mem_of_getElem? (i := 6) rfl)) rfl), (xmT (tm5 (List.mem_of_getElem? (i := 7) rfl)) rfl), (xmT (tm5 (List.mem_of_getElem? (i := 8) rfl)) rfl)⟩
  have t1 : xMC (mR 100) = 0 ∧ xMS (mR 100) = 0 := ⟨rfl, rfl⟩
  have t2 : (vwCl[10]?.map fun q => q.1) = some (xY (mR 100)).cls := rfl
  have t3 : (parseMethodDescriptor (xY (mR 100)).desc).map (fun d => d.parameters.length) = some 3 := by decide +kernel
  have t5 : xat (wC tgt cg fg I J A B) 0 = some (.inr (10, _)) := rfl
  cases hok : (kB60 S x y k) with
  | true =>
    have t4 := x_times (l := l) (d := 8) (J := J) (tgt := tgt) (cg := cg) (fg := fg) (by omega) h hok (Q := fun v w' => v = some (.long (anTimes S x y k)) ∧ w' = (wC tgt cg fg I J A B)) ⟨rfl, rfl⟩
    generalize (wC tgt cg fg I J A B) = w9 at *
    refine ycallV (x := []) (r := [(qo, outC cid O)]) (ad := ad) (w := w9) (d := 8) (k := 100) (n := 3) (av := [.int x, .int y, .int k]) (rest := [.int 0, .ref qo]) F t4 t1 hP hD hS t5 t2 hwd rfl t3 dL_times_7 hlo.1 (Nat.le_of_ble_eq_true rfl) ⟨by decide, by decide⟩ ⟨by decide, by decide⟩ (fun v w' H1 locs1 hq hP hD hS => ?_)
    obtain ⟨rfl, e9⟩ := hq
    rw [e9] at hP hD
    refine va_last hx hb hK hP hD hS (cw ad sa cid w9).length 1 (last_at _ _) rfl (by unfold vp_in; decide) dL_times_10 (fun H2 locs2 hP hD hS => ?_)
    rw [show ([] ++ (cw ad sa cid w9 ++ [(qo, outC cid O)]) : va_W) = cw ad sa cid w9 ++ [(qo, outC cid O)] from rfl, last_set] at hP hD
    refine lv_goto (tgt := 18) hx hb dL_times_11 (by decide) ?_
    refine lv_iconst (v := 0) hx hb dL_times_18 (by decide) ?_
    refine W.widen (k := 1) (n := 6) (by omega) (by omega) ?_
    exact W.iret (v := 0) hx hb hr (fun t ht hW => ⟨⟨_, rfl, (fun _ => by first | rfl | simp [vp_updL]), (by rw [ht]; exact hP), hD⟩, hS.F ht⟩) hS.2.2 dL_times_19
  | false =>
    have t4 := t_times (J := J) (tgt := tgt) (cg := cg) (fg := fg) (d := 7) hl (by omega) h hok
    generalize (wC tgt cg fg I J A B) = w9 at *
    refine ycallX (x := []) (r := [(qo, outC cid O)]) (ad := ad) (w := w9) (d := 7) (k := 100) (n := 3) (av := [.int x, .int y, .int k]) (rest := [.int 0, .ref qo]) F hTF t4 hP hD hS t5 t2 hwd rfl t3 dL_times_7 hlo.1 (Nat.le_of_ble_eq_true rfl) ⟨by decide, by decide⟩ ⟨by decide, by decide⟩ (fun ce q9 H1 locs1 hP hS hce hcv hcl => ?_)
    refine vx_catch (own := RL) (name := thE) hown [] ⟨0, 11, 14, 13⟩ [] (by rw [htab]; rfl) (fun z hz => by cases hz) (by decide) (by decide) (hts _ (List.mem_cons_of_mem _ th_link)) (va_Nw.use (th_on _ th_cast) (hTF.2.2.2.2.2 _ th_cast)) hce hcv hcl ?_
    refine lv_astore hx hb dL_times_14 hlo (by decide) rfl (fun ls1 hlo1 => ?_)
    refine lv_iconst (v := 1) hx hb dL_times_16 (by decide) ?_
    exact W.iret (v := 1) hx hb hr (fun t ht hW => ⟨⟨O, rfl, (fun z => by cases z), (by rw [ht]; exact hP), hD⟩, hS.F ht⟩) hS.2.2 dL_times_17
set_option maxHeartbeats 4000000 in
set_option maxRecDepth 100000 in
theorem h_node (hl : l.stackTraces = false) {x w : Int32} (h : xInv S I A B) (dC : Nat → ClassId) (dI : Nat → Nat → Nat) (cid : Nat → ClassId) (ad : Nat → Nat) (sa sz qo : Nat) (O : Nat → Int64) :
    Met l yL_node (.codeWith yL_node cL_node 5 (some .int) [(0, 10, 13, 13)] :: xTB) hRoom (hPc [.ref (ad 0), .int x, .int w, .ref qo] (dC, dI) cid ad sa sz (wC tgt cg fg I J A B) qo O) (hQc (dC, dI) cid ad sa (wC tgt cg fg I J A B) qo (va_A (hWs ad sa cid (wC tgt cg fg I J A B) qo O) sz) (ndB S x && wB8 w) (anNode S x w).toInt64) 1 6 (va_A (hWs ad sa cid (wC tgt cg fg I J A B) qo O) sz) := by
  refine yofWH (cc := cL_node) (maxL := 5) (ret := some .int) (hh := [(0, 10, 13, 13)]) (by decide +kernel) rfl ?_
  intro p e s m args below meth c s₁ Bd hml hv
  obtain ⟨rfl, hsz, hP, hK, hD0, hN, hSt, hTF⟩ := hv
  have hx := Bd.exec
  have hb := Bd.bytes
  have hr := Bd.returns
  have hts := atoms_spec (ws := (.codeWith yL_node cL_node 5 (some .int) [(0, 10, 13, 13)] :: xTB)) Bd.pre
  have hown : s.vm.findClass RL = some m.cls := findClass_of_methodNamed Bd.named
  have htab := vx_table (x := yL_law) Bd (hts _ List.mem_cons_self)
  subst hsz
  have hD := hD0.self (sz := s.heap.size)
  generalize hAe : va_A (hWs ad sa cid (wC tgt cg fg I J A B) qo O) s.heap.size = AA at hD hSt hTF ⊢
  have hA : ∀ q : Nat, s.heap.size ≤ q → AA q := fun q z => by rw [← hAe]; exact Or.inr z
  have hS : va_S AA s.heap s.heap [] := va_S.rf
  have hlo := lv_entry ([.ref (ad 0), .int x, .int w, .ref qo]) (n := 5) (Nat.le_of_ble_eq_true rfl)
  rw [lg_entry_eq]
  generalize (lg_sl ([.ref (ad 0), .int x, .int w, .ref qo]) ++ List.replicate (5 - (lg_sl ([.ref (ad 0), .int x, .int w, .ref qo])).length) Slot.unset).toArray = ls at hlo ⊢
  have hlo : lv_has ls 5 [(0, .ref (ad 0)), (1, .int x), (2, .int w), (3, .ref qo)] := hlo
  have F : yFix l p s m ([.ref (ad 0), .int x, .int w, .ref qo]).toArray c cL_node 5 (.codeWith yL_node cL_node 5 (some .int) [(0, 10, 13, 13)] :: xTB) RL AA (dC, dI) cid sa := ⟨⟨hx, hb, hml, hown, hts⟩, fun w z => List.mem_cons_of_mem _ z, hK, hA, hN, hSt⟩
  refine lv_aload_n hx hb dL_node_0 rfl (lv_at hlo 3 rfl) ?_
  refine lv_iconst (v := 0) hx hb dL_node_1 (by decide) ?_
  refine lv_aload_n hx hb dL_node_2 rfl (lv_at hlo 0 rfl) ?_
  refine lv_iload_n hx hb dL_node_3 rfl (lv_at hlo 1 rfl) ?_
  refine lv_iload_n hx hb dL_node_4 rfl (lv_at hlo 2 rfl) ?_
  have hwd : Cond.methodLink RL 19 (xY (mR 102)) ∈ xTB ∧ Cond.instanceMethod (xY (mR 102)) ∈ xTB ∧ Cond.selects (xY (mR 102)).cls (xY (mR 102)) (xY (mR 102)) ∈ xTB := ⟨(xmT (tm5 (List.mem_of_getElem? (i := 13) rfl)) rfl), (xmT (tm5 (List.mem_of_getElem? (i := 14) rfl)) rfl), (xmT (tm5 (List.mem_of_getElem? (i := 15) rfl)) rfl)⟩
  have t1 : xMC (mR 102) = 0 ∧ xMS (mR 102) = 0 := ⟨rfl, rfl⟩
  have t2 : (vwCl[10]?.map fun q => q.1) = some (xY (mR 102)).cls := rfl
  have t3 : (parseMethodDescriptor (xY (mR 102)).desc).map (fun d => d.parameters.length) = some 2 := by decide +kernel
  have t5 : xat (wC tgt cg fg I J A B) 0 = some (.inr (10, _)) := rfl
  cases hok : (ndB S x && wB8 w) with
  | true =>
    have t4 := x_node (l := l) (d := 8) (J := J) (tgt := tgt) (cg := cg) (fg := fg) (by omega) h (Bool.and_eq_true_iff.mp hok).1 (Bool.and_eq_true_iff.mp hok).2 (Q := fun v w' => v = some (.int (anNode S x w)) ∧ w' = (wC tgt cg fg I J A B)) ⟨rfl, rfl⟩
    generalize (wC tgt cg fg I J A B) = w9 at *
    refine ycallV (x := []) (r := [(qo, outC cid O)]) (ad := ad) (w := w9) (d := 8) (k := 102) (n := 2) (av := [.int x, .int w]) (rest := [.int 0, .ref qo]) F t4 t1 hP hD hS t5 t2 hwd rfl t3 dL_node_5 hlo.1 (Nat.le_of_ble_eq_true rfl) ⟨by decide, by decide⟩ ⟨by decide, by decide⟩ (fun v w' H1 locs1 hq hP hD hS => ?_)
    obtain ⟨rfl, e9⟩ := hq
    rw [e9] at hP hD
    refine lv_i2l hx hb dL_node_8 rfl ?_
    refine va_last hx hb hK hP hD hS (cw ad sa cid w9).length 1 (last_at _ _) rfl (by unfold vp_in; decide) dL_node_9 (fun H2 locs2 hP hD hS => ?_)
    rw [show ([] ++ (cw ad sa cid w9 ++ [(qo, outC cid O)]) : va_W) = cw ad sa cid w9 ++ [(qo, outC cid O)] from rfl, last_set] at hP hD
    refine lv_goto (tgt := 17) hx hb dL_node_10 (by decide) ?_
    refine lv_iconst (v := 0) hx hb dL_node_17 (by decide) ?_
    refine W.widen (k := 1) (n := 6) (by omega) (by omega) ?_
    exact W.iret (v := 0) hx hb hr (fun t ht hW => ⟨⟨_, rfl, (fun _ => by first | rfl | simp [vp_updL]), (by rw [ht]; exact hP), hD⟩, hS.F ht⟩) hS.2.2 dL_node_18
  | false =>
    have t4 := t_node (J := J) (tgt := tgt) (cg := cg) (fg := fg) (d := 7) hl (by omega) h hok
    generalize (wC tgt cg fg I J A B) = w9 at *
    refine ycallX (x := []) (r := [(qo, outC cid O)]) (ad := ad) (w := w9) (d := 7) (k := 102) (n := 2) (av := [.int x, .int w]) (rest := [.int 0, .ref qo]) F hTF t4 hP hD hS t5 t2 hwd rfl t3 dL_node_5 hlo.1 (Nat.le_of_ble_eq_true rfl) ⟨by decide, by decide⟩ ⟨by decide, by decide⟩ (fun ce q9 H1 locs1 hP hS hce hcv hcl => ?_)
    refine vx_catch (own := RL) (name := thE) hown [] ⟨0, 10, 13, 13⟩ [] (by rw [htab]; rfl) (fun z hz => by cases hz) (by decide) (by decide) (hts _ (List.mem_cons_of_mem _ th_link)) (va_Nw.use (th_on _ th_cast) (hTF.2.2.2.2.2 _ th_cast)) hce hcv hcl ?_
    refine lv_astore hx hb dL_node_13 hlo (by decide) rfl (fun ls1 hlo1 => ?_)
    refine lv_iconst (v := 1) hx hb dL_node_15 (by decide) ?_
    exact W.iret (v := 1) hx hb hr (fun t ht hW => ⟨⟨O, rfl, (fun z => by cases z), (by rw [ht]; exact hP), hD⟩, hS.F ht⟩) hS.2.2 dL_node_16
set_option maxHeartbeats 4000000 in
set_option maxRecDepth 100000 in
theorem h_octet (hl : l.stackTraces = false) {x : Int32} (h : xInv S I A B) (dC : Nat → ClassId) (dI : Nat → Nat → Nat) (cid : Nat → ClassId) (ad : Nat → Nat) (sa sz qo : Nat) (O : Nat → Int64) :
    Met l yL_octet (.codeWith yL_octet cL_octet 4 (some .int) [(0, 9, 12, 13)] :: xTB) hRoom (hPc [.ref (ad 0), .int x, .ref qo] (dC, dI) cid ad sa sz (wC tgt cg fg I J A B) qo O) (hQc (dC, dI) cid ad sa (wC tgt cg fg I J A B) qo (va_A (hWs ad sa cid (wC tgt cg fg I J A B) qo O) sz) (ocB S x) (nI (S.out.getD x.toNatClampNeg 0)).toInt64) 1 6 (va_A (hWs ad sa cid (wC tgt cg fg I J A B) qo O) sz) := by
  refine yofWH (cc := cL_octet) (maxL := 4) (ret := some .int) (hh := [(0, 9, 12, 13)]) (by decide +kernel) rfl ?_
  intro p e s m args below meth c s₁ Bd hml hv
  obtain ⟨rfl, hsz, hP, hK, hD0, hN, hSt, hTF⟩ := hv
  have hx := Bd.exec
  have hb := Bd.bytes
  have hr := Bd.returns
  have hts := atoms_spec (ws := (.codeWith yL_octet cL_octet 4 (some .int) [(0, 9, 12, 13)] :: xTB)) Bd.pre
  have hown : s.vm.findClass RL = some m.cls := findClass_of_methodNamed Bd.named
  have htab := vx_table (x := yL_law) Bd (hts _ List.mem_cons_self)
  subst hsz
  have hD := hD0.self (sz := s.heap.size)
  generalize hAe : va_A (hWs ad sa cid (wC tgt cg fg I J A B) qo O) s.heap.size = AA at hD hSt hTF ⊢
  have hA : ∀ q : Nat, s.heap.size ≤ q → AA q := fun q z => by rw [← hAe]; exact Or.inr z
  have hS : va_S AA s.heap s.heap [] := va_S.rf
  have hlo := lv_entry ([.ref (ad 0), .int x, .ref qo]) (n := 4) (Nat.le_of_ble_eq_true rfl)
  rw [lg_entry_eq]
  generalize (lg_sl ([.ref (ad 0), .int x, .ref qo]) ++ List.replicate (4 - (lg_sl ([.ref (ad 0), .int x, .ref qo])).length) Slot.unset).toArray = ls at hlo ⊢
  have hlo : lv_has ls 4 [(0, .ref (ad 0)), (1, .int x), (2, .ref qo)] := hlo
  have F : yFix l p s m ([.ref (ad 0), .int x, .ref qo]).toArray c cL_octet 4 (.codeWith yL_octet cL_octet 4 (some .int) [(0, 9, 12, 13)] :: xTB) RL AA (dC, dI) cid sa := ⟨⟨hx, hb, hml, hown, hts⟩, fun w z => List.mem_cons_of_mem _ z, hK, hA, hN, hSt⟩
  refine lv_aload_n hx hb dL_octet_0 rfl (lv_at hlo 2 rfl) ?_
  refine lv_iconst (v := 0) hx hb dL_octet_1 (by decide) ?_
  refine lv_aload_n hx hb dL_octet_2 rfl (lv_at hlo 0 rfl) ?_
  refine lv_iload_n hx hb dL_octet_3 rfl (lv_at hlo 1 rfl) ?_
  have hwd : Cond.methodLink RL 23 (xY (mR 110)) ∈ xTB ∧ Cond.instanceMethod (xY (mR 110)) ∈ xTB ∧ Cond.selects (xY (mR 110)).cls (xY (mR 110)) (xY (mR 110)) ∈ xTB := ⟨(xmT (tm5 (List.mem_of_getElem? (i := 21) rfl)) rfl), (xmT (tm5 (List.mem_of_getElem? (i := 22) rfl)) rfl), (xmT (tm5 (List.mem_of_getElem? (i := 23) rfl)) rfl)⟩
  have t1 : xMC (mR 110) = 0 ∧ xMS (mR 110) = 0 := ⟨rfl, rfl⟩
  have t2 : (vwCl[10]?.map fun q => q.1) = some (xY (mR 110)).cls := rfl
  have t3 : (parseMethodDescriptor (xY (mR 110)).desc).map (fun d => d.parameters.length) = some 1 := by decide +kernel
  have t5 : xat (wC tgt cg fg I J A B) 0 = some (.inr (10, _)) := rfl
  cases hok : (ocB S x) with
  | true =>
    have t4 := x_octet (l := l) (d := 8) (J := J) (tgt := tgt) (cg := cg) (fg := fg) (by omega) h hok (Q := fun v w' => v = some (.int (nI (S.out.getD x.toNatClampNeg 0))) ∧ w' = (wC tgt cg fg I J A B)) ⟨rfl, rfl⟩
    generalize (wC tgt cg fg I J A B) = w9 at *
    refine ycallV (x := []) (r := [(qo, outC cid O)]) (ad := ad) (w := w9) (d := 8) (k := 110) (n := 1) (av := [.int x]) (rest := [.int 0, .ref qo]) F t4 t1 hP hD hS t5 t2 hwd rfl t3 dL_octet_4 hlo.1 (Nat.le_of_ble_eq_true rfl) ⟨by decide, by decide⟩ ⟨by decide, by decide⟩ (fun v w' H1 locs1 hq hP hD hS => ?_)
    obtain ⟨rfl, e9⟩ := hq
    rw [e9] at hP hD
    refine lv_i2l hx hb dL_octet_7 rfl ?_
    refine va_last hx hb hK hP hD hS (cw ad sa cid w9).length 1 (last_at _ _) rfl (by unfold vp_in; decide) dL_octet_8 (fun H2 locs2 hP hD hS => ?_)
    rw [show ([] ++ (cw ad sa cid w9 ++ [(qo, outC cid O)]) : va_W) = cw ad sa cid w9 ++ [(qo, outC cid O)] from rfl, last_set] at hP hD
    refine lv_goto (tgt := 15) hx hb dL_octet_9 (by decide) ?_
    refine lv_iconst (v := 0) hx hb dL_octet_15 (by decide) ?_
    refine W.widen (k := 1) (n := 6) (by omega) (by omega) ?_
    exact W.iret (v := 0) hx hb hr (fun t ht hW => ⟨⟨_, rfl, (fun _ => by first | rfl | simp [vp_updL]), (by rw [ht]; exact hP), hD⟩, hS.F ht⟩) hS.2.2 dL_octet_16
  | false =>
    have t4 := t_octet (J := J) (tgt := tgt) (cg := cg) (fg := fg) (d := 7) hl (by omega) h hok
    generalize (wC tgt cg fg I J A B) = w9 at *
    refine ycallX (x := []) (r := [(qo, outC cid O)]) (ad := ad) (w := w9) (d := 7) (k := 110) (n := 1) (av := [.int x]) (rest := [.int 0, .ref qo]) F hTF t4 hP hD hS t5 t2 hwd rfl t3 dL_octet_4 hlo.1 (Nat.le_of_ble_eq_true rfl) ⟨by decide, by decide⟩ ⟨by decide, by decide⟩ (fun ce q9 H1 locs1 hP hS hce hcv hcl => ?_)
    refine vx_catch (own := RL) (name := thE) hown [] ⟨0, 9, 12, 13⟩ [] (by rw [htab]; rfl) (fun z hz => by cases hz) (by decide) (by decide) (hts _ (List.mem_cons_of_mem _ th_link)) (va_Nw.use (th_on _ th_cast) (hTF.2.2.2.2.2 _ th_cast)) hce hcv hcl ?_
    refine lv_astore_n hx hb dL_octet_12 rfl hlo (by decide) rfl (fun ls1 hlo1 => ?_)
    refine lv_iconst (v := 1) hx hb dL_octet_13 (by decide) ?_
    exact W.iret (v := 1) hx hb hr (fun t ht hW => ⟨⟨O, rfl, (fun z => by cases z), (by rw [ht]; exact hP), hD⟩, hS.F ht⟩) hS.2.2 dL_octet_14
end HP
