/-! ===== a method's world among others ===== -/
theorem yP_mem {D : va_G} {cl : List vw_C} {ws : va_W} {H : Heap} (h : ∀ q ∈ ws, va_at D cl q H) : va_P D cl ws H := fun _ q hk => h q (List.mem_of_getElem? hk)
theorem yP_in {D : va_G} {cl : List vw_C} {ws : va_W} {H : Heap} (h : va_P D cl ws H) : ∀ q ∈ ws, va_at D cl q H := fun q hq => by
  obtain ⟨i, hi⟩ := List.getElem?_of_mem hq
  exact h i q hi
theorem yD_of {A : Nat → Prop} {ws : va_W} (h1 : (ws.map (fun q => q.1)).Nodup) (h2 : ∀ q ∈ ws, A q.1) : va_D A ws := by
  refine ⟨fun i j p q hi hj e => ?_, fun k q hk => h2 q (List.mem_of_getElem? hk)⟩
  have hi' : (ws.map (fun q => q.1))[i]? = some p.1 := by rw [List.getElem?_map, hi]; rfl
  have hj' : (ws.map (fun q => q.1))[j]? = some p.1 := by rw [List.getElem?_map, hj, e]; rfl
  have li : i < (ws.map (fun q => q.1)).length := (List.getElem?_eq_some_iff.mp hi').1
  exact (List.getElem?_inj li h1).mp (hi'.trans hj'.symm)
theorem yD_nd {A : Nat → Prop} {ws : va_W} (h : va_D A ws) : (ws.map (fun q => q.1)).Nodup := by
  refine List.pairwise_iff_getElem.mpr (fun i j hi hj hij e => ?_)
  rw [List.length_map] at hi hj
  rw [List.getElem_map, List.getElem_map] at e
  have := h.1 i j _ _ (List.getElem?_eq_getElem hi) (List.getElem?_eq_getElem hj) e
  omega
theorem yD_in {A : Nat → Prop} {ws : va_W} (h : va_D A ws) : ∀ q ∈ ws, A q.1 := fun q hq => by
  obtain ⟨i, hi⟩ := List.getElem?_of_mem hq
  exact h.2 i q hi
theorem yP_mid {D : va_G} {cl : List vw_C} {x a r : va_W} {H : Heap} (h : va_P D cl (x ++ (a ++ r)) H) : va_P D cl a H := yP_mem fun q hq => yP_in h q (List.mem_append_right _ (List.mem_append_left _ hq))
theorem yD_mid {A : Nat → Prop} {x a r : va_W} (h : va_D A (x ++ (a ++ r))) : va_D A a := by
  have h1 := yD_nd h
  rw [List.map_append, List.map_append] at h1
  exact yD_of (List.nodup_append.mp (List.nodup_append.mp h1).2.1).1 (fun q hq => yD_in h q (List.mem_append_right _ (List.mem_append_left _ hq)))
theorem yA_mem {a : va_W} {sz q : Nat} : va_A a sz q ↔ q ∈ a.map (fun z => z.1) ∨ sz ≤ q := by
  constructor
  · rintro (⟨k, e, h⟩ | h)
    · exact Or.inl (List.mem_map.mpr ⟨_, List.mem_of_getElem? h, rfl⟩)
    · exact Or.inr h
  · rintro (h | h)
    · obtain ⟨z, hz, rfl⟩ := List.mem_map.mp h
      obtain ⟨i, hi⟩ := List.getElem?_of_mem hz
      exact Or.inl ⟨i, z.2, hi⟩
    · exact Or.inr h
theorem yjoin {A : Nat → Prop} {D : va_G} {cl : List vw_C} {x a r a' : va_W} {H H1 : Heap} (hP : va_P D cl (x ++ (a ++ r)) H) (hD : va_D A (x ++ (a ++ r))) (hA : ∀ q, va_A a H.size q → A q)
    (hk : ∀ q : Nat, q < H.size → ¬ va_A a H.size q → H1[q]? = H[q]?) (hP1 : va_P D cl a' H1) (hD1 : va_D (va_A a H.size) a') : va_P D cl (x ++ (a' ++ r)) H1 ∧ va_D A (x ++ (a' ++ r)) := by
  have hn := yD_nd hD
  rw [List.map_append, List.map_append] at hn
  obtain ⟨nx, nar, dx⟩ := List.nodup_append.mp hn
  obtain ⟨na, nr, da⟩ := List.nodup_append.mp nar
  have ox : ∀ q ∈ x, q.1 < H.size ∧ ¬ va_A a H.size q.1 := fun q hq => by
    have h1 := (yP_in hP q (List.mem_append_left _ hq)).lt
    refine ⟨h1, fun z => ?_⟩
    rcases yA_mem.mp z with z | z
    · exact dx q.1 (List.mem_map.mpr ⟨q, hq, rfl⟩) q.1 (List.mem_append_left _ z) rfl
    · omega
  have orr : ∀ q ∈ r, q.1 < H.size ∧ ¬ va_A a H.size q.1 := fun q hq => by
    have h1 := (yP_in hP q (List.mem_append_right _ (List.mem_append_right _ hq))).lt
    refine ⟨h1, fun z => ?_⟩
    rcases yA_mem.mp z with z | z
    · exact da q.1 z q.1 (List.mem_map.mpr ⟨q, hq, rfl⟩) rfl
    · omega
  refine ⟨yP_mem fun q hq => ?_, yD_of ?_ fun q hq => ?_⟩
  · rcases List.mem_append.mp hq with h | h
    · exact (yP_in hP q (List.mem_append_left _ h)).kept (hk _ (ox q h).1 (ox q h).2)
    · rcases List.mem_append.mp h with h | h
      · exact yP_in hP1 q h
      · exact (yP_in hP q (List.mem_append_right _ (List.mem_append_right _ h))).kept (hk _ (orr q h).1 (orr q h).2)
  · rw [List.map_append, List.map_append]
    have na' := yD_nd hD1
    have ia' : ∀ z ∈ a'.map (fun q => q.1), va_A a H.size z := fun z hz => by
      obtain ⟨q, hq, rfl⟩ := List.mem_map.mp hz
      exact yD_in hD1 q hq
    refine List.nodup_append.mpr ⟨nx, List.nodup_append.mpr ⟨na', nr, fun u hu v hv e => ?_⟩, fun u hu v hv e => ?_⟩
    · obtain ⟨q, hq, rfl⟩ := List.mem_map.mp hv
      exact (orr q hq).2 (e ▸ ia' u hu)
    · obtain ⟨q, hq, rfl⟩ := List.mem_map.mp hu
      rcases List.mem_append.mp hv with hv | hv
      · exact (ox q hq).2 (e ▸ ia' v hv)
      · exact dx q.1 (List.mem_map.mpr ⟨q, hq, rfl⟩) v (List.mem_append_right _ hv) e
  · rcases List.mem_append.mp hq with h | h
    · exact yD_in hD q (List.mem_append_left _ h)
    · rcases List.mem_append.mp h with h | h
      · exact hA _ (yD_in hD1 q h)
      · exact yD_in hD q (List.mem_append_right _ (List.mem_append_right _ h))
section YA
variable {p : Program} {l : Launch} {e : Env} {R : Room} {s : State} {m : MethodId} {args : Array Value} {below : List Frame} {meth : Method} {c : Code} {H : Heap} {locs : List Loc} {cells slots : Nat} {QQ : State → Prop}
/-- behind a call, with the rest of the world beside it -/
theorem yafter {pc : Nat} {ls : Array Slot} {rest st0 : List Value} {a : Array Value} {A : Nat → Prop} {mc ms n1 mc' sa : Nat} {ad : Nat → Nat} {cid : Nat → ClassId} {D : va_G} {cl : List vw_C} {Q : Option Value → XW → Prop} {x r : va_W} {w : XW}
    (hr : va_Run p l e R s m args below meth c H locs cells slots mc ms (F0 m pc ls st0) rest (xQc ad n1 mc' sa cid D cl (va_A (cw ad sa cid w) H.size) Q a) (va_A (cw ad sa cid w) H.size)) (hS : va_S A s.heap H locs) (hA : ∀ q, va_A (cw ad sa cid w) H.size q → A q)
    (hP : va_P D cl (x ++ (cw ad sa cid w ++ r)) H) (hD : va_D A (x ++ (cw ad sa cid w ++ r)))
    (kk : ∀ (v : Option Value) (w' : XW) (ad' : Nat → Nat) (H1 : Heap) (locs1 : List Loc), Q v w' → (∀ j : Nat, j < n1 → ad' j = ad j) → (mc' = 0 → ad' = ad) → n1 ≤ w'.length → va_P D cl (x ++ (cw ad' sa cid w' ++ r)) H1 → va_D A (x ++ (cw ad' sa cid w' ++ r)) → va_S A s.heap H1 locs1 →
      W p l e R s m args below meth c H1 locs1 (cells + mc) (slots + ms) QQ (F0 m (pc + 3) ls ((v.map (rV ad' sa)).toList ++ rest))) : W p l e R s m args below meth c H locs cells slots QQ (F0 m pc ls st0) := by
  intro T hT X
  obtain ⟨v, st₀, t, T', L, h0, X', hL, e1, e2, ⟨⟨v', w', ad', a1, a2, a3, hv, hq, hp, hd⟩, hz, hk⟩, st⟩ := hr T hT X
  cases hv
  rw [h0] at hz hk
  obtain ⟨j1, j2⟩ := yjoin hP hD hA hk hp hd
  obtain ⟨t2, b1, b2⟩ := kk v' w' ad' T'.heap (locs ++ L) hq a1 a2 a3 (by rw [e1]; exact j1) j2
    ⟨Nat.le_trans hS.1 (by rw [e1]; exact hz), fun q h1 h2 => by rw [e1, hk q (Nat.lt_of_lt_of_le h1 hS.1) (fun z => h2 (hA q z))]; exact hS.2.1 q h1 h2, fun q hq => by
      rcases List.mem_append.mp hq with h | h
      · exact hS.2.2 q h
      · exact hA _ (hL q h)⟩ T' rfl X'
  exact ⟨t2, st t2 b1, b2⟩
end YA
section YC
variable {p : Program} {l : Launch} {e : Env} {R : Room} {s : State} {m : MethodId} {args0 : Array Value} {below : List Frame} {meth : Method} {c : Code} {H : Heap} {locs : List Loc} {cells slots : Nat} {QQ : State → Prop} {cc : ByteArray} {nL : Nat} {Ts : List Cond} {own : String}
/-- what a caller must have of the start, to call any method of the table -/
def yFix (l : Launch) (p : Program) (s : State) (m : MethodId) (args0 : Array Value) (c : Code) (cc : ByteArray) (nL : Nat) (Ts : List Cond) (own : String) (A : Nat → Prop) (D : va_G) (cid : Nat → ClassId) (sa : Nat) : Prop :=
  CallFix p m c cc nL s args0 Ts own ∧ (∀ w ∈ xTB, w ∈ Ts) ∧ va_K D vwCl (xTys cid) s ∧ (∀ q : Nat, s.heap.size ≤ q → A q) ∧ (∀ z ∈ xNW, va_Nw z s) ∧ xStat sa A s s.heap
theorem yPre {A : Nat → Prop} {D : va_G} {cid : Nat → ClassId} {sa : Nat} {ad : Nat → Nat} {x r : va_W} {w : XW} (F : yFix l p s m args0 c cc nL Ts own A D cid sa) (hP : va_P D vwCl (x ++ (cw ad sa cid w ++ r)) H) (hD : va_D A (x ++ (cw ad sa cid w ++ r))) (hS : va_S A s.heap H locs) :
    (∀ q, va_A (cw ad sa cid w) H.size q → A q) ∧ (∀ U : State, U.heap = H → s.WarmedH U.vm → (U.heap.size = H.size ∧ va_P (D.1, D.2) vwCl (cw ad sa cid w) U.heap ∧ va_K (D.1, D.2) vwCl (xTys cid) U ∧ va_D (fun _ => True) (cw ad sa cid w) ∧ (∀ z ∈ xNW, va_Nw z U) ∧ xStat sa (va_A (cw ad sa cid w) H.size) U U.heap)) := by
  obtain ⟨-, -, hK, hA, hnw, hst⟩ := F
  have hfree : ∀ q, va_A (cw ad sa cid w) H.size q → A q := fun q z => by
    rcases yA_mem.mp z with z | z
    · obtain ⟨u, hu, rfl⟩ := List.mem_map.mp z
      exact yD_in (yD_mid hD) u hu
    · exact hA q (Nat.le_trans hS.1 z)
  have hnest := xok.2.2.2.1
  refine ⟨hfree, fun U hU hW => ⟨by rw [hU], by rw [hU]; exact yP_mid hP, va_K.moved hW.alike hK, (yD_mid hD).weaken (fun _ _ _ _ => trivial), fun z hz => ?_, ?_⟩⟩
  · have h9 := hnw z hz
    rcases hnest z hz with ⟨a, i, b, n, d, h, rfl⟩ | ⟨a, i, x, h, rfl⟩
    · exact va_Nw.warmF hW h9
    · exact va_Nw.warmM hW h9
  · rw [hU]
    exact ((hst.kept (fun a z1 z2 => hS.2.1 a z1 z2)).narrow hfree).moved hW.alike
theorem yBlind {av : List Value} {D : va_G} {cid : Nat → ClassId} {sa sz : Nat} {ad : Nat → Nat} {w : XW} : FrameBlind (va_Pc av (fun U => U.heap.size = sz ∧ va_P (D.1, D.2) vwCl (cw ad sa cid w) U.heap ∧ va_K (D.1, D.2) vwCl (xTys cid) U ∧ va_D (fun _ => True) (cw ad sa cid w) ∧ (∀ z ∈ xNW, va_Nw z U) ∧ xStat sa (va_A (cw ad sa cid w) sz) U U.heap)) := by
  have hnest := xok.2.2.2.1
  intro a U g mk q
  obtain ⟨q0, q1, qP, qK, qD, qN, qS⟩ := q
  refine ⟨q0, q1, qP, va_K.moved (u := U) (U := U.calling g mk a) (Vm.Alike.refl U.vm) qK, qD, fun z hz => ?_, xStat.moved (u := U) (U := U.calling g mk a) (Vm.Alike.refl U.vm) qS⟩
  have h9 := qN z hz
  rcases hnest z hz with ⟨a', i, b, n, d, h, rfl⟩ | ⟨a', i, x, h, rfl⟩
  · exact va_Nw.same rfl rfl h9
  · exact va_Nw.same rfl rfl h9
/-- the words that a call of the table's method wants -/
theorem yGood {k : Nat} {ws : List Cond} (hTs : ∀ w ∈ xTB, w ∈ Ts) (h : ∀ z ∈ ws, z ∈ xTB) : GoodIn Ts (ws ++ xWs xTB (mR k)) := fun z hz => by
  have h1 : z ∈ xTB := by
    rcases List.mem_append.mp hz with hz | hz
    · exact h z hz
    · rcases List.mem_cons.mp hz with rfl | hz
      · exact (xok.2.2.2.2.1 k).1
      · exact hz
  exact ⟨hTs z h1, good_of_word (xok.2.2.1 z h1)⟩
/-- a call of an instance method of the table that makes nothing -/
theorem ycallV {A : Nat → Prop} {D : va_G} {cid : Nat → ClassId} {sa : Nat} {ad : Nat → Nat} {x r : va_W} {w : XW} {d k n index ci pc : Nat} {fs : List Value} {av : List Value} {Q : Option Value → XW → Prop} {ls : Array Slot} {rest : List Value}
    (F : yFix l p s m args0 c cc nL Ts own A D cid sa) (hM : xK l d k (.ref 0 :: av) w Q) (hz : xMC (mR k) = 0 ∧ xMS (mR k) = 0)
    (hP : va_P D vwCl (x ++ (cw ad sa cid w ++ r)) H) (hD : va_D A (x ++ (cw ad sa cid w ++ r))) (hS : va_S A s.heap H locs)
    (hw : xat w 0 = some (.inr (ci, fs))) (hci : (vwCl[ci]?.map fun q => q.1) = some (xY (mR k)).cls)
    (hwd : Cond.methodLink own index (xY (mR k)) ∈ xTB ∧ Cond.instanceMethod (xY (mR k)) ∈ xTB ∧ Cond.selects (xY (mR k)).cls (xY (mR k)) (xY (mR k)) ∈ xTB) (hn : av.length = n) (hpm : (parseMethodDescriptor (xY (mR k)).desc).map (fun d => d.parameters.length) = some n)
    (hdg : decode cc pc = .ok (.invokevirtual index, 3)) (hl : ls.size = nL) (hrest : (rest.map fun v => v.category).sum ≤ 8) (hR : d + 1 ≤ R.frames ∧ 59 + 60 * d ≤ R.locals) (hf : cells ≤ R.cells ∧ slots ≤ R.slots)
    (kk : ∀ (v : Option Value) (w' : XW) (H1 : Heap) (locs1 : List Loc), Q v w' → va_P D vwCl (x ++ (cw ad sa cid w' ++ r)) H1 → va_D A (x ++ (cw ad sa cid w' ++ r)) → va_S A s.heap H1 locs1 →
      W p l e R s m args0 below meth c H1 locs1 cells slots QQ (F0 m (pc + 3) ls ((v.map (rV ad sa)).toList ++ rest))) :
    W p l e R s m args0 below meth c H locs cells slots QQ (F0 m pc ls ((av.map (rV ad sa)).reverse ++ .ref (ad 0) :: rest)) := by
  obtain ⟨d, rfl⟩ : ∃ d', d = d' + 1 := by
    cases d with
    | zero => exact hM.elim
    | succ d => exact ⟨d, rfl⟩
  have hM := hM D.1 D.2 cid ad sa H.size
  obtain ⟨hfree, hpre⟩ := yPre F hP hD hS
  obtain ⟨CF, hTs, hK, hA, hnw, hst⟩ := F
  have hmeth := xok.2.2.2.2.1 k
  have hrc : ∃ cell : Cell, H[ad 0]? = some cell ∧ cell.vm.isStatics = false ∧ s.vm.findClass (xY (mR k)).cls = some cell.cls := by
    cases hc : vwCl[ci]? with
    | none => rw [hc] at hci; cases hci
    | some q =>
      rw [hc] at hci
      have hci : q.1 = (xY (mR k)).cls := Option.some.inj hci
      rw [← hci]
      exact va_recv hK (yP_mid hP) hc (cw_get hw)
  refine yafter (va_runV (C := (xY (mR k)).cls) (b := ad 0) (As := av.map (rV ad sa)) (rest := rest) CF hM (cwV n CF.2.2.2.2 (yGood (ws := [_, _, _, _]) hTs (fun z hz => by
      simp only [List.mem_cons, List.not_mem_nil, or_false] at hz
      rcases hz with rfl | rfl | rfl | rfl
      · exact hwd.1
      · exact hwd.2.1
      · exact hwd.2.2
      · exact hmeth.2.1)) rfl rfl rfl ⟨rfl, hmeth.2.2.1.1, hmeth.2.2.1.2, hpm⟩ ⟨hR.1, by show 8 + (xML (mR k) + 11) + 60 * (d + 1) ≤ _; have := hmeth.2.2.2.2.1; omega⟩) ⟨yBlind, hrc, fun U hU hW => ⟨rfl, hpre U hU hW⟩⟩ rfl (by rw [List.length_map]; exact hn) hl rfl (lv_room hrest) hdg ⟨by rw [hz.1]; exact hf.1, by rw [hz.2]; exact hf.2⟩) hS hfree hP hD ?_
  intro v w' ad' H1 locs1 z1 z2 z3 z4 z5 z6 z7
  have e0 := z3 hz.1
  subst e0
  rw [hz.1, hz.2]
  exact kk v w' H1 locs1 z1 z5 z6 z7
/-- a call of a constructor of the table -/
theorem ycallI {A : Nat → Prop} {D : va_G} {cid : Nat → ClassId} {sa : Nat} {ad : Nat → Nat} {x r : va_W} {w : XW} {d k index pc : Nat} {Q : Option Value → XW → Prop} {ls : Array Slot} {rest : List Value}
    (F : yFix l p s m args0 c cc nL Ts own A D cid sa) (hM : xK l d k [.ref 0] w Q)
    (hP : va_P D vwCl (x ++ (cw ad sa cid w ++ r)) H) (hD : va_D A (x ++ (cw ad sa cid w ++ r))) (hS : va_S A s.heap H locs)
    (hnm : (xY (mR k)).name = "<init>") (hrt : xRT (mR k) = none)
    (hwd : Cond.methodLink own index (xY (mR k)) ∈ xTB ∧ Cond.instanceMethod (xY (mR k)) ∈ xTB) (hpm : (parseMethodDescriptor (xY (mR k)).desc).map (fun d => d.parameters.length) = some 0)
    (hdg : decode cc pc = .ok (.invokespecial index, 3)) (hl : ls.size = nL) (hrest : (rest.map fun v => v.category).sum ≤ 8) (hR : d + 1 ≤ R.frames ∧ 59 + 60 * d ≤ R.locals) (hf : cells + xMC (mR k) ≤ R.cells ∧ slots + xMS (mR k) ≤ R.slots)
    (kk : ∀ (v : Option Value) (w' : XW) (ad' : Nat → Nat) (H1 : Heap) (locs1 : List Loc), Q v w' → (∀ j : Nat, j < w.length → ad' j = ad j) → va_P D vwCl (x ++ (cw ad' sa cid w' ++ r)) H1 → va_D A (x ++ (cw ad' sa cid w' ++ r)) → va_S A s.heap H1 locs1 →
      W p l e R s m args0 below meth c H1 locs1 (cells + xMC (mR k)) (slots + xMS (mR k)) QQ (F0 m (pc + 3) ls ((v.map (rV ad' sa)).toList ++ rest))) :
    W p l e R s m args0 below meth c H locs cells slots QQ (F0 m pc ls (.ref (ad 0) :: rest)) := by
  obtain ⟨d, rfl⟩ : ∃ d', d = d' + 1 := by
    cases d with
    | zero => exact hM.elim
    | succ d => exact ⟨d, rfl⟩
  have hM := hM D.1 D.2 cid ad sa H.size
  obtain ⟨hfree, hpre⟩ := yPre F hP hD hS
  obtain ⟨CF, hTs, hK, hA, hnw, hst⟩ := F
  have hmeth := xok.2.2.2.2.1 k
  have hok : ∀ z ∈ xTB, z.before args0 s = true := fun z hz => CF.2.2.2.2 z (hTs z hz)
  refine yafter (va_runI (b := ad 0) (As := []) (rest := rest) CF hM (cwI 0 CF.2.2.2.2 (yGood (ws := []) hTs (fun z hz => by cases hz)) (by show xWs xTB (mR k) = _; unfold xWs; rw [hrt]) rfl rfl (hok _ hmeth.2.1) (hok _ hwd.1) (hok _ hwd.2) hnm ⟨hmeth.2.2.1.1, hmeth.2.2.1.2, hpm⟩ ⟨hR.1, by show 8 + (xML (mR k) + 11) + 60 * (d + 1) ≤ _; have := hmeth.2.2.2.2.1; omega⟩) ⟨yBlind, fun U hU hW => ⟨rfl, hpre U hU hW⟩⟩ rfl rfl hl rfl (lv_room hrest) hdg hf) hS hfree hP hD ?_
  intro v w' ad' H1 locs1 z1 z2 z3 z4 z5 z6 z7
  exact kk v w' ad' H1 locs1 z1 z2 z5 z6 z7
end YC
