/-! ===== one step is sound, in a method that may throw ===== -/
def xRoomX (d : Nat) : Room := { frames := d + 1, cells := 1, slots := 6, locals := 60 * (d + 1) }
/-- what a throw needs of the start -/
def thW : List Cond := [.declares (Bundle.initS "java/lang/RuntimeException"), .declares (Bundle.initS "java/lang/Exception"), .declares (Bundle.initS Bundle.tN), .castable "java/util/NoSuchElementException" "java/util/NoSuchElementException"]
def TF (A : Nat → Prop) (s : State) (H : Heap) : Prop := vx_Zq Bundle.tN "UNASSIGNED_STACK" Bundle.steD A s H ∧ vx_Zq Bundle.tN "SUPPRESSED_SENTINEL" Bundle.listD A s H ∧ (∃ a, vk_R "TreeSchool" 146 "no such sign" a s) ∧ (∃ a, vk_R "TreeSchool" 166 "no such node" a s) ∧ (∃ a, vk_R "TreeSchool" 214 "no such byte" a s) ∧ ∀ w ∈ thW, va_Nw w s
abbrev XCt : Type := (Nat → Prop) → va_G → (Nat → ClassId) → (Nat → Nat) → Nat → String → State → State → Prop
def xWGX (l : Launch) (TB NW : List Cond) (cl : List vw_C) (mR : Nat → XMeth) (XC : XCt) (d k : Nat) (Ret : Option Value → XW → Prop) (pc : Nat) (L : XLs) (st : List Value) (w : XW) (nc ns : Nat) : Prop :=
  ∀ (p : Program) (e : Env) (s : State) (m : MethodId) (args : Array Value) (below : List Frame) (meth : Method) (c : Code) (A : Nat → Prop) (D : va_G) (cid : Nat → ClassId) (ad0 : Nat → Nat) (n0 sa : Nat) (ad : Nat → Nat) (H : Heap) (locs : List Loc) (ls : Array Slot),
    xFix TB NW cl mR d k p s m args meth c A D cid sa ∧ TF A s s.heap ∧ (∀ x ∈ c.exceptionTable.toList, False) → (∀ j : Nat, j < n0 → ad j = ad0 j) → (nc = 0 → ad = ad0) → n0 ≤ w.length →
    va_P D cl (cw ad sa cid w) H → va_D A (cw ad sa cid w) → va_S A s.heap H locs → xLv ad sa ls (xML (mR k)) L →
    W p l e (xRoomX d) s m args below meth c H locs nc ns (vx_MQ below (xQc ad0 n0 1 sa cid D cl A Ret) (XC A D cid ad0 sa) args s 1 6 A) (F0 m pc ls (st.map (rV ad sa)))
set_option maxHeartbeats 4000000 in
set_option maxRecDepth 100000 in
theorem xstepX {l : Launch} {XC : XCt} {TB NW : List Cond} {cl : List vw_C} {df : Nat → List Value} {al : Nat → Nat × Nat} {mR : Nat → XMeth} (OK : xOK TB NW cl df al mR) {d k : Nat} {Ret : Option Value → XW → Prop} {X : Nat → XLs → List Value → XW → Nat → Nat → Prop}
    (hX : ∀ pc L st w nc ns, X pc L st w nc ns → xWGX l TB NW cl mR XC d k Ret pc L st w nc ns) {pc : Nat} {L : XLs} {st : List Value} {w : XW} {nc ns : Nat}
    (h : xF (xML (mR k)) (xPO (mR k)) (xRT (mR k)) (xIN (mR k)) 1 6 df al (xcl l TB NW cl mR d) Ret (xFE (mR k)) X pc L st w nc ns) : xWGX l TB NW cl mR XC d k Ret pc L st w nc ns := by
  intro p e s m args below meth c A D cid ad0 n0 sa ad H locs ls fx had hnc hn0 hP hD hS hl
  have fx0 := fx
  obtain ⟨⟨hx, hb, hr, hml, hown, hts, hlocks, hname, hnw, hK, hA, hst⟩, hTF⟩ := fx
  obtain ⟨hrow, hpool, hgood, hnest, hmeth, hcl, hob⟩ := OK
  obtain ⟨hcode, hinit, hmh, hplain, hml40, hin, hal⟩ := hmeth k
  have hT : ∀ w ∈ TB, w.before args s = true := fun w q => hts w (List.mem_cons_of_mem _ q)
  have go : ∀ {pc' : Nat} {L' : XLs} {st' : List Value} {w' : XW} {nc' ns' : Nat} {ad' : Nat → Nat} {H' : Heap} {locs' : List Loc} {ls' : Array Slot}, X pc' L' st' w' nc' ns' → (∀ j : Nat, j < n0 → ad' j = ad0 j) → (nc' = 0 → ad' = ad0) → n0 ≤ w'.length → va_P D cl (cw ad' sa cid w') H' → va_D A (cw ad' sa cid w') → va_S A s.heap H' locs' → xLv ad' sa ls' (xML (mR k)) L' →
      W p l e (xRoomX d) s m args below meth c H' locs' nc' ns' (vx_MQ below (xQc ad0 n0 1 sa cid D cl A Ret) (XC A D cid ad0 sa) args s 1 6 A) (F0 m pc' ls' (st'.map (rV ad' sa))) :=
    fun h9 a1 a2 a3 a4 a5 a6 a7 => hX _ _ _ _ _ _ h9 p e s m args below meth c A D cid ad0 n0 sa _ _ _ _ fx0 a1 a2 a3 a4 a5 a6 a7
  have go1 : ∀ {pc' : Nat} {L' : XLs} {st' : List Value} {ls' : Array Slot}, X pc' L' st' w nc ns → xLv ad sa ls' (xML (mR k)) L' →
      W p l e (xRoomX d) s m args below meth c H locs nc ns (vx_MQ below (xQc ad0 n0 1 sa cid D cl A Ret) (XC A D cid ad0 sa) args s 1 6 A) (F0 m pc' ls' (st'.map (rV ad sa))) :=
    fun h9 a7 => go h9 had hnc hn0 hP hD hS a7
  unfold xF at h
  cases hfe : xFE (mR k) pc with
  | none => rw [hfe] at h; exact False.elim h
  | some row =>
    rw [hfe] at h
    obtain ⟨i, len, nx, tg, mq, cv⟩ := row
    have hro := hrow k pc _ hfe
    simp only [xRowOk, Bool.and_eq_true, Bool.or_eq_true, decide_eq_true_eq] at hro
    obtain ⟨⟨⟨⟨hd, hnx⟩, hln⟩, htk⟩, hvk⟩ := hro
    have hnx := Nat.eq_of_beq_eq_true hnx
    subst hnx
    have hln : xln i = 0 ∨ len = xln i := hln.imp Nat.eq_of_beq_eq_true Nat.eq_of_beq_eq_true
    have hl := hl.mask mq
    replace h : xF1 (xML (mR k)) (xPO (mR k)) (xRT (mR k)) (xIN (mR k)) 1 6 df al (xcl l TB NW cl mR d) Ret X i (pc + len) tg cv (xmask mq L) st w nc ns := h
    generalize xmask mq L = L at h hl
    have hfree : ∀ q, va_A (cw ad sa cid w) H.size q → A q := fun q z => by
      rcases z with ⟨j, e', z⟩ | z
      · exact hD.2 j _ z
      · exact hA q (Nat.le_trans hS.1 z)
    have hwk : ∀ k', ∀ z ∈ xWs TB (mR k'), z ∈ TB := fun k' z hz => by
      rcases List.mem_cons.mp hz with rfl | hz
      · exact (hmeth k').1
      · exact hz
    have hgi : ∀ {ws : List Cond}, (∀ z ∈ ws, z ∈ TB) → GoodIn (xWs TB (mR k)) ws := fun hz z h9 => ⟨List.mem_cons_of_mem _ (hz z h9), good_of_word (hgood z (hz z h9))⟩
    have hsum : ∀ r : List Value, ((r.map (rV ad sa)).map fun v => v.category).sum = xcat r := fun r => by
      induction r with
      | nil => rfl
      | cons v r ih => simp only [List.map_cons, List.sum_cons, xcat, rV_cat, ih]
    have hmon : ∀ {r : List Value} {pc' : Nat} {ls' : Array Slot} {st' : List Value}, Nat.ble (xcat r) 8 = true → 2 * (F0 m pc' ls' st').monitorRoom + ((r.map (rV ad sa)).map fun v => v.category).sum ≤ 8 := fun {r pc' ls' st'} z => lv_room (by rw [hsum]; exact Nat.le_of_ble_eq_true z)
    have hwarm : ∀ U : State, s.WarmedH U.vm → ∀ z ∈ NW, va_Nw z U := fun U hW z hz => by
      have h9 := hnw z hz
      rcases hnest z hz with ⟨a, i, b, n, d, h, rfl⟩ | ⟨a, i, x, h, rfl⟩
      · exact va_Nw.warmF hW h9
      · exact va_Nw.warmM hW h9
    have hpre : ∀ U : State, U.heap = H → s.WarmedH U.vm → (U.heap.size = H.size ∧ va_P (D.1, D.2) cl (cw ad sa cid w) U.heap ∧ va_K (D.1, D.2) cl (xTys cid) U ∧ va_D (fun _ => True) (cw ad sa cid w) ∧ (∀ z ∈ NW, va_Nw z U) ∧ xStat sa (va_A (cw ad sa cid w) H.size) U U.heap) := fun U hU hW =>
      ⟨by rw [hU], by rw [hU]; exact hP, va_K.moved hW.alike hK, hD.weaken (fun _ _ _ _ => trivial), hwarm U hW, by
        rw [hU]
        exact ((hst.kept (fun a z1 z2 => hS.2.1 a z1 z2)).narrow hfree).moved hW.alike⟩
    have hblind : ∀ av : List Value, FrameBlind (va_Pc av (fun U => U.heap.size = H.size ∧ va_P (D.1, D.2) cl (cw ad sa cid w) U.heap ∧ va_K (D.1, D.2) cl (xTys cid) U ∧ va_D (fun _ => True) (cw ad sa cid w) ∧ (∀ z ∈ NW, va_Nw z U) ∧ xStat sa (va_A (cw ad sa cid w) H.size) U U.heap)) := fun av a U g mk q => by
      obtain ⟨q0, q1, qP, qK, qD, qN, qS⟩ := q
      refine ⟨q0, q1, qP, va_K.moved (u := U) (U := U.calling g mk a) (Vm.Alike.refl U.vm) qK, qD, fun z hz => ?_, xStat.moved (u := U) (U := U.calling g mk a) (Vm.Alike.refl U.vm) qS⟩
      have h9 := qN z hz
      rcases hnest z hz with ⟨a', i, b, n, d, h, rfl⟩ | ⟨a', i, x, h, rfl⟩
      · exact va_Nw.same rfl rfl h9
      · exact va_Nw.same rfl rfl h9
    have hrecv : ∀ {c' pp : Nat} {fs : List Value} {C : String}, xat w pp = some (.inr (c', fs)) → (cl[c']?.map fun q => q.1) = some C → ∃ cell : Cell, H[ad pp]? = some cell ∧ cell.vm.isStatics = false ∧ s.vm.findClass C = some cell.cls := fun {c' pp fs C} hw hq => by
      cases hc : cl[c']? with
      | none => rw [hc] at hq; cases hq
      | some q =>
        rw [hc] at hq
        cases hq
        exact va_recv hK hP hc (cw_get hw)
    have fin : ∀ {pc' : Nat} {ls' : Array Slot} {L' : XLs}, xLv ad sa ls' (xML (mR k)) L' → ∀ (r : List Value) (k' : Nat), (Nat.beq (al k').1 0 || (xwL w.length L' && xws w.length r)) = true → ∀ (v : Option Value) (w' : XW) (ad' : Nat → Nat) (H1 : Heap) (locs1 : List Loc), X pc' L' (v.toList ++ r) w' (nc + (al k').1) (ns + (al k').2) → (∀ j : Nat, j < w.length → ad' j = ad j) → (xMC (mR k') = 0 → ad' = ad) → w.length ≤ w'.length → va_P (D.1, D.2) cl (cw ad' sa cid w') H1 → va_D A (cw ad' sa cid w') → va_S A s.heap H1 locs1 →
        W p l e (xRoomX d) s m args below meth c H1 locs1 (nc + xMC (mR k')) (ns + xMS (mR k')) (vx_MQ below (xQc ad0 n0 1 sa cid D cl A Ret) (XC A D cid ad0 sa) args s 1 6 A) (F0 m pc' ls' ((v.map (rV ad' sa)).toList ++ r.map (rV ad sa))) := by
      intro pc' ls' L' hl' r k' hwf v w' ad' H1 locs1 z1 z2 z3 z4 z5 z6 z7
      have hal' := (hmeth k').2.2.2.2.2.2
      rw [hal'] at hwf z1
      have hadn : ∀ j : Nat, j < n0 → ad' j = ad0 j := fun j hj => by rw [z2 j (by omega)]; exact had j hj
      have hncn : nc + xMC (mR k') = 0 → ad' = ad0 := fun z => by rw [z3 (by omega)]; exact hnc (by omega)
      have est : ∀ q : r.map (rV ad' sa) = r.map (rV ad sa), (v.toList ++ r).map (rV ad' sa) = (v.map (rV ad' sa)).toList ++ r.map (rV ad sa) := fun q => by
        rw [List.map_append, q]; cases v <;> rfl
      rcases Bool.or_eq_true_iff.mp hwf with z | z
      · have e0 := z3 (Nat.eq_of_beq_eq_true z)
        have h9 := go z1 hadn hncn (by omega) z5 z6 z7 (by rw [e0]; exact hl')
        rw [est (by rw [e0])] at h9
        exact h9
      · simp only [Bool.and_eq_true] at z
        have h9 := go z1 hadn hncn (by omega) z5 z6 z7 (xLv.ext z2 z.1 hl')
        rw [est (xws_ok z2 z.2)] at h9
        exact h9
    have hend : Nat.ble nc 1 = true → ∀ (v : Option Value), Ret v w → ∀ t : State, t.heap = H → xQc ad0 n0 1 sa cid D cl A Ret args s (.returned (v.map (rV ad sa))) t := fun hb9 v hv t ht =>
      ⟨⟨v, w, ad, had, fun z => hnc (by have := Nat.le_of_ble_eq_true hb9; omega), hn0, rfl, hv, by rw [ht]; exact hP, hD⟩, hS.F ht⟩
    cases i with
    | iconst n =>
      obtain rfl := xl_of 1 (by decide) hln rfl
      have h1 : X (pc + 1) L (.int cv :: st) w nc ns := h
      have hv : Int32.ofInt n = cv := of_decide_eq_true hvk
      exact lv_iconst hx hb hd hv (go1 h1 hl)
    | bipush n =>
      obtain rfl := xl_of 2 (by decide) hln rfl
      have h1 : X (pc + 2) L (.int cv :: st) w nc ns := h
      have hv : (Int8.ofInt n).toInt32 = cv := of_decide_eq_true hvk
      exact lv_bipush hx hb hd hv (go1 h1 hl)
    | sipush n =>
      obtain rfl := xl_of 3 (by decide) hln rfl
      have h1 : X (pc + 3) L (.int cv :: st) w nc ns := h
      have hv : (Int16.ofInt n).toInt32 = cv := of_decide_eq_true hvk
      exact lv_sipush hx hb hd hv (go1 h1 hl)
    | ldc ix =>
      obtain rfl := xl_of 2 (by decide) hln rfl
      obtain ⟨a, b, c', z, hpo, h1⟩ := xpo_el h
      have hq := hpool k ix _ hpo
      have hv : z = cv.toInt64 := by simp only [xvk, hpo] at hvk; exact of_decide_eq_true hvk
      have hc : Cond.constant (xY (mR k)).cls ix cv ∈ TB := by
        have hq : Cond.constant (xY (mR k)).cls ix z.toInt32 ∈ TB := hq
        rw [hv] at hq; simpa using hq
      exact lv_ldc hx hb hown (hT _ hc) hd (go1 h1 hl)
    | ldc_w ix =>
      obtain rfl := xl_of 3 (by decide) hln rfl
      obtain ⟨a, b, c', z, hpo, h1⟩ := xpo_el h
      have hq := hpool k ix _ hpo
      have hv : z = cv.toInt64 := by simp only [xvk, hpo] at hvk; exact of_decide_eq_true hvk
      have hc : Cond.constant (xY (mR k)).cls ix cv ∈ TB := by
        have hq : Cond.constant (xY (mR k)).cls ix z.toInt32 ∈ TB := hq
        rw [hv] at hq; simpa using hq
      intro T hT0 X0
      obtain ⟨t, a1, b1⟩ := go1 h1 hl T hT0 X0
      exact ⟨t, va_ldcwI X0 hx hown (hT _ hc) rfl (by rw [hb]; exact hd) t a1, b1⟩
    | ldc2_w ix =>
      obtain rfl := xl_of 3 (by decide) hln rfl
      obtain ⟨a, b, c', z, hpo, h1⟩ := xpo_el h
      have hq : Cond.constantLong (xY (mR k)).cls ix z ∈ TB := hpool k ix _ hpo
      exact lv_ldc2 hx hb hown (hT _ hq) hd (go1 h1 hl)
    | lconst n =>
      obtain rfl := xl_of 1 (by decide) hln rfl
      have h1 : X (pc + 1) L (.long (bif Nat.beq n.val 0 then 0 else 1) :: st) w nc ns := h
      exact lv_lconst hx hb hd (by match n with | 0 => rfl | 1 => rfl) (go1 h1 hl)
    | iload j =>
      obtain rfl := xl_of 2 (by decide) hln rfl
      obtain ⟨x, q, h1⟩ := xlI_el h
      exact lv_iload hx hb hd (hl.2.2 _ _ q) (go1 h1 hl)
    | iload_n j =>
      obtain rfl := xl_of 1 (by decide) hln rfl
      obtain ⟨x, q, h1⟩ := xlI_el h
      exact lv_iload_n hx hb hd rfl (hl.2.2 _ _ q) (go1 h1 hl)
    | lload j =>
      obtain rfl := xl_of 2 (by decide) hln rfl
      obtain ⟨x, q, h1⟩ := xlJ_el h
      exact lv_lload hx hb hd (hl.2.2 _ _ q) (go1 h1 hl)
    | lload_n j =>
      obtain rfl := xl_of 1 (by decide) hln rfl
      obtain ⟨x, q, h1⟩ := xlJ_el h
      exact lv_lload_n hx hb hd rfl (hl.2.2 _ _ q) (go1 h1 hl)
    | aload j =>
      obtain rfl := xl_of 2 (by decide) hln rfl
      obtain ⟨x, q, h1⟩ := xlP_el h
      exact lv_aload hx hb hd (hl.2.2 _ _ q) (go1 h1 hl)
    | aload_n j =>
      obtain rfl := xl_of 1 (by decide) hln rfl
      obtain ⟨x, q, h1⟩ := xlP_el h
      exact lv_aload_n hx hb hd rfl (hl.2.2 _ _ q) (go1 h1 hl)
    | istore j =>
      obtain rfl := xl_of 2 (by decide) hln rfl
      obtain ⟨hj, h0⟩ := xif h
      obtain ⟨x, r, rfl, h1⟩ := xI1_el h0
      exact lv_istore hx hb hd hl.has (Nat.le_of_ble_eq_true hj) rfl (fun ls' hl' => go1 h1 (xLv.st1 (v := .int x) hl'))
    | istore_n j =>
      obtain rfl := xl_of 1 (by decide) hln rfl
      obtain ⟨hj, h0⟩ := xif h
      obtain ⟨x, r, rfl, h1⟩ := xI1_el h0
      exact lv_istore_n hx hb hd rfl hl.has (Nat.le_of_ble_eq_true hj) rfl (fun ls' hl' => go1 h1 (xLv.st1 (v := .int x) hl'))
    | lstore j =>
      obtain rfl := xl_of 2 (by decide) hln rfl
      obtain ⟨hj, h0⟩ := xif h
      obtain ⟨x, r, rfl, h1⟩ := xJ1_el h0
      exact lv_lstore hx hb hd hl.has (Nat.le_of_ble_eq_true hj) rfl (fun ls' hl' => go1 h1 (xLv.st2 (v := .long x) hl'))
    | lstore_n j =>
      obtain rfl := xl_of 1 (by decide) hln rfl
      obtain ⟨hj, h0⟩ := xif h
      obtain ⟨x, r, rfl, h1⟩ := xJ1_el h0
      exact lv_lstore_n hx hb hd rfl hl.has (Nat.le_of_ble_eq_true hj) rfl (fun ls' hl' => go1 h1 (xLv.st2 (v := .long x) hl'))
    | astore j =>
      obtain rfl := xl_of 2 (by decide) hln rfl
      obtain ⟨hj, h0⟩ := xif h
      obtain ⟨x, r, rfl, h1⟩ := xP1_el h0
      exact lv_astore hx hb hd hl.has (Nat.le_of_ble_eq_true hj) rfl (fun ls' hl' => go1 h1 (xLv.st1 (v := .ref x) hl'))
    | astore_n j =>
      obtain rfl := xl_of 1 (by decide) hln rfl
      obtain ⟨hj, h0⟩ := xif h
      obtain ⟨x, r, rfl, h1⟩ := xP1_el h0
      exact lv_astore_n hx hb hd rfl hl.has (Nat.le_of_ble_eq_true hj) rfl (fun ls' hl' => go1 h1 (xLv.st1 (v := .ref x) hl'))
    | iinc j n =>
      obtain rfl := xl_of 3 (by decide) hln rfl
      obtain ⟨hj, h0⟩ := xif h
      obtain ⟨x, q, h1⟩ := xlI_el h0
      obtain ⟨kk, hkk⟩ := List.getElem?_of_mem (xlist_mem (ad := ad) (sa := sa) q)
      have hv : Int32.ofInt n = cv := of_decide_eq_true hvk
      exact lv_iinc hx hb hd hl.has hkk (by rw [hv]) (Nat.le_of_ble_eq_true hj) rfl (fun ls' hl' => go1 h1 (xLv.st1 (v := .int (x + cv)) hl'))
    | iadd =>
      obtain rfl := xl_of 1 (by decide) hln rfl
      obtain ⟨x, y, r, rfl, h1⟩ := xI2_el h
      exact lv_iadd hx hb hd (go1 h1 hl)
    | isub =>
      obtain rfl := xl_of 1 (by decide) hln rfl
      obtain ⟨x, y, r, rfl, h1⟩ := xI2_el h
      exact lv_isub hx hb hd (go1 h1 hl)
    | imul =>
      obtain rfl := xl_of 1 (by decide) hln rfl
      obtain ⟨x, y, r, rfl, h1⟩ := xI2_el h
      exact lv_imul hx hb hd (go1 h1 hl)
    | iand =>
      obtain rfl := xl_of 1 (by decide) hln rfl
      obtain ⟨x, y, r, rfl, h1⟩ := xI2_el h
      exact lv_iand hx hb hd (go1 h1 hl)
    | ior =>
      obtain rfl := xl_of 1 (by decide) hln rfl
      obtain ⟨x, y, r, rfl, h1⟩ := xI2_el h
      exact lv_ior hx hb hd (go1 h1 hl)
    | ixor =>
      obtain rfl := xl_of 1 (by decide) hln rfl
      obtain ⟨x, y, r, rfl, h1⟩ := xI2_el h
      exact lv_ixor hx hb hd (go1 h1 hl)
    | ishl =>
      obtain rfl := xl_of 1 (by decide) hln rfl
      obtain ⟨x, y, r, rfl, h1⟩ := xI2_el h
      exact lv_ishl hx hb hd (go1 h1 hl)
    | ishr =>
      obtain rfl := xl_of 1 (by decide) hln rfl
      obtain ⟨x, y, r, rfl, h1⟩ := xI2_el h
      exact lv_ishr hx hb hd (go1 h1 hl)
    | iushr =>
      obtain rfl := xl_of 1 (by decide) hln rfl
      obtain ⟨x, y, r, rfl, h1⟩ := xI2_el h
      exact lv_iushr hx hb hd rfl (go1 h1 hl)
    | idiv =>
      obtain rfl := xl_of 1 (by decide) hln rfl
      obtain ⟨x, y, r, rfl, hne, h1⟩ := xI2_el h
      exact lv_idiv hx hb hd hne (go1 h1 hl)
    | irem =>
      obtain rfl := xl_of 1 (by decide) hln rfl
      obtain ⟨x, y, r, rfl, hne, h1⟩ := xI2_el h
      exact lv_irem hx hb hd hne (go1 h1 hl)
    | ladd =>
      obtain rfl := xl_of 1 (by decide) hln rfl
      obtain ⟨x, y, r, rfl, h1⟩ := xJ2_el h
      exact lv_ladd hx hb hd (go1 h1 hl)
    | lsub =>
      obtain rfl := xl_of 1 (by decide) hln rfl
      obtain ⟨x, y, r, rfl, h1⟩ := xJ2_el h
      exact lv_lsub hx hb hd (go1 h1 hl)
    | lmul =>
      obtain rfl := xl_of 1 (by decide) hln rfl
      obtain ⟨x, y, r, rfl, h1⟩ := xJ2_el h
      exact lv_lmul hx hb hd (go1 h1 hl)
    | land =>
      obtain rfl := xl_of 1 (by decide) hln rfl
      obtain ⟨x, y, r, rfl, h1⟩ := xJ2_el h
      exact lv_land hx hb hd (go1 h1 hl)
    | ldiv =>
      obtain rfl := xl_of 1 (by decide) hln rfl
      obtain ⟨x, y, r, rfl, hne, h1⟩ := xJ2_el h
      exact lv_ldiv hx hb hd hne (go1 h1 hl)
    | lrem =>
      obtain rfl := xl_of 1 (by decide) hln rfl
      obtain ⟨x, y, r, rfl, hne, h1⟩ := xJ2_el h
      exact lv_lrem hx hb hd hne (go1 h1 hl)
    | lshl =>
      obtain rfl := xl_of 1 (by decide) hln rfl
      obtain ⟨x, y, r, rfl, h1⟩ := xJI_el h
      exact lv_lshl hx hb hd rfl (go1 h1 hl)
    | lshr =>
      obtain rfl := xl_of 1 (by decide) hln rfl
      obtain ⟨x, y, r, rfl, h1⟩ := xJI_el h
      exact lv_lshr hx hb hd rfl (go1 h1 hl)
    | lcmp =>
      obtain rfl := xl_of 1 (by decide) hln rfl
      obtain ⟨x, y, r, rfl, h1⟩ := xJ2_el h
      exact W.lcmp hx hb hd (go1 h1 hl)
    | i2l =>
      obtain rfl := xl_of 1 (by decide) hln rfl
      obtain ⟨x, r, rfl, h1⟩ := xI1_el h
      exact lv_i2l hx hb hd rfl (go1 h1 hl)
    | l2i =>
      obtain rfl := xl_of 1 (by decide) hln rfl
      obtain ⟨x, r, rfl, h1⟩ := xJ1_el h
      exact lv_l2i hx hb hd rfl (go1 h1 hl)
    | i2b =>
      obtain rfl := xl_of 1 (by decide) hln rfl
      obtain ⟨x, r, rfl, h1⟩ := xI1_el h
      exact lv_i2b hx hb hd rfl (go1 h1 hl)
    | dup =>
      obtain rfl := xl_of 1 (by decide) hln rfl
      have h : xV1 st (fun v r => X (pc + 1) L (v :: v :: r) w nc ns) := h
      obtain ⟨v, r, rfl, hc, h1⟩ := xV1_el h
      exact lv_dup hx hb hd (by rw [rV_cat]; exact hc) (go1 h1 hl)
    | dup2 =>
      obtain rfl := xl_of 1 (by decide) hln rfl
      have h : xV2 st (fun u v r => X (pc + 1) L (u :: v :: u :: v :: r) w nc ns) := h
      obtain ⟨u, v, r, rfl, hc, hc2, h1⟩ := xV2_el h
      exact lv_dup2_11 hx hb hd (by rw [rV_cat]; exact hc) (by rw [rV_cat]; exact hc2) (go1 h1 hl)
    | pop =>
      obtain rfl := xl_of 1 (by decide) hln rfl
      have h : xV1 st (fun _ r => X (pc + 1) L r w nc ns) := h
      obtain ⟨v, r, rfl, hc, h1⟩ := xV1_el h
      exact lv_pop hx hb hd (by rw [rV_cat]; exact hc) (go1 h1 hl)
    | goto o =>
      obtain rfl := xl_of 3 (by decide) hln rfl
      obtain ⟨t, rfl, h1⟩ := xt1_el h
      exact lv_goto hx hb hd (of_decide_eq_true htk) (go1 h1 hl)
    | ifCond cnd o =>
      obtain rfl := xl_of 3 (by decide) hln rfl
      cases cnd with
      | eq =>
        obtain ⟨t, rfl, h1⟩ := xt1_el h
        obtain ⟨x, r, rfl, h2⟩ := xI1_el h1
        exact lv_if_eq hx hb hd (of_decide_eq_true htk) (fun q => go1 (xite_t h2 q) hl) (fun q => go1 (xite_f h2 q) hl)
      | ne =>
        obtain ⟨t, rfl, h1⟩ := xt1_el h
        obtain ⟨x, r, rfl, h2⟩ := xI1_el h1
        exact lv_if_ne hx hb hd (of_decide_eq_true htk) (fun q => go1 (xite_f h2 q) hl) (fun q => go1 (xite_t h2 q) hl)
      | lt =>
        obtain ⟨t, rfl, h1⟩ := xt1_el h
        obtain ⟨x, r, rfl, h2⟩ := xI1_el h1
        exact lv_if_lt hx hb hd (of_decide_eq_true htk) (fun q => go1 (xite_t h2 q) hl) (fun q => go1 (xite_f h2 q) hl)
      | ge =>
        obtain ⟨t, rfl, h1⟩ := xt1_el h
        obtain ⟨x, r, rfl, h2⟩ := xI1_el h1
        exact lv_if_ge hx hb hd (of_decide_eq_true htk) (fun q => go1 (xite_t h2 q) hl) (fun q => go1 (xite_f h2 q) hl)
      | gt =>
        obtain ⟨t, rfl, h1⟩ := xt1_el h
        obtain ⟨x, r, rfl, h2⟩ := xI1_el h1
        exact lv_if_gt hx hb hd (of_decide_eq_true htk) (fun q => go1 (xite_t h2 q) hl) (fun q => go1 (xite_f h2 q) hl)
      | le =>
        obtain ⟨t, rfl, h1⟩ := xt1_el h
        obtain ⟨x, r, rfl, h2⟩ := xI1_el h1
        exact lv_if_le hx hb hd (of_decide_eq_true htk) (fun q => go1 (xite_t h2 q) hl) (fun q => go1 (xite_f h2 q) hl)
    | if_icmp cnd o =>
      obtain rfl := xl_of 3 (by decide) hln rfl
      cases cnd with
      | eq =>
        obtain ⟨t, rfl, h1⟩ := xt1_el h
        obtain ⟨x, y, r, rfl, h2⟩ := xI2_el h1
        exact lv_icmp_eq hx hb hd (of_decide_eq_true htk) (fun q => go1 (xite_t h2 q) hl) (fun q => go1 (xite_f h2 q) hl)
      | ne =>
        obtain ⟨t, rfl, h1⟩ := xt1_el h
        obtain ⟨x, y, r, rfl, h2⟩ := xI2_el h1
        exact lv_icmp_ne hx hb hd (of_decide_eq_true htk) (fun q => go1 (xite_f h2 q) hl) (fun q => go1 (xite_t h2 q) hl)
      | lt =>
        obtain ⟨t, rfl, h1⟩ := xt1_el h
        obtain ⟨x, y, r, rfl, h2⟩ := xI2_el h1
        exact lv_icmp_lt hx hb hd (of_decide_eq_true htk) (fun q => go1 (xite_t h2 q) hl) (fun q => go1 (xite_f h2 q) hl)
      | ge =>
        obtain ⟨t, rfl, h1⟩ := xt1_el h
        obtain ⟨x, y, r, rfl, h2⟩ := xI2_el h1
        exact lv_icmp_ge hx hb hd (of_decide_eq_true htk) (fun q => go1 (xite_t h2 q) hl) (fun q => go1 (xite_f h2 q) hl)
      | gt =>
        obtain ⟨t, rfl, h1⟩ := xt1_el h
        obtain ⟨x, y, r, rfl, h2⟩ := xI2_el h1
        exact lv_icmp_gt hx hb hd (of_decide_eq_true htk) (fun q => go1 (xite_t h2 q) hl) (fun q => go1 (xite_f h2 q) hl)
      | le =>
        obtain ⟨t, rfl, h1⟩ := xt1_el h
        obtain ⟨x, y, r, rfl, h2⟩ := xI2_el h1
        exact lv_icmp_le hx hb hd (of_decide_eq_true htk) (fun q => go1 (xite_t h2 q) hl) (fun q => go1 (xite_f h2 q) hl)
    | getfield ix =>
      obtain rfl := xl_of 3 (by decide) hln rfl
      obtain ⟨kd, ci, kf, tag, z, hpo, hkd, h1⟩ := xpo2_el h
      obtain ⟨pp, r, rfl, h2⟩ := xP1_el h1
      obtain ⟨c', fs, hw, h3⟩ := xOb_el h2
      obtain ⟨hc, h4⟩ := xif h3
      have hc := Nat.eq_of_beq_eq_true hc
      subst hc
      cases hv : xat fs kf with
      | none => rw [hv] at h4; exact False.elim h4
      | some v =>
        rw [hv] at h4
        have hv' : (fs.map (rV ad sa))[kf]? = some (rV ad sa v) := by rw [xat_eq] at hv; simp [hv]
        have hq := hpool k ix _ hpo
        rcases hkd with rfl | rfl
        · obtain ⟨q, hq1, hq2, hq3, hq4, hq5⟩ := hq
          exact va_get (C := q.1) (T := q.2.1) (N := q.2.2) hx hb hT (hcl _ _ hq1).1 hown hK hP pp (cw_get hw) hq1 kf hq2 (hT _ hq3) (fun _ z => by rw [hq4] at z; exact z) hv' hd (go1 h4 hl)
        · obtain ⟨q, hq1, hq2, ⟨host, hq3⟩, hq4, hq5, hq6⟩ := hq
          exact va_getN (C := q.1) (T := q.2.1) (N := q.2.2) hx hb hT (hcl _ _ hq1).1 hown hK hP pp (cw_get hw) hq1 kf hq2 (va_Nw.use rfl (hnw _ hq3)) (fun _ z => by rw [hq4] at z; exact z) hv' hd (go1 h4 hl)
    | putfield ix =>
      obtain rfl := xl_of 3 (by decide) hln rfl
      obtain ⟨kd, ci, kf, tag, z, hpo, hkd, h1⟩ := xpo2_el h
      obtain ⟨v, pp, r, rfl, h2⟩ := xVP_el h1
      obtain ⟨c', fs, hw, h3⟩ := xOb_el h2
      obtain ⟨hc, h4⟩ := xif h3
      have hc := Nat.eq_of_beq_eq_true hc
      subst hc
      cases hv : xat fs kf with
      | none => rw [hv] at h4; exact False.elim h4
      | some v0 =>
        rw [hv] at h4
        have hl9 : kf < (fs.map (rV ad sa)).length := by
          rw [xat_eq] at hv
          rw [List.length_map]
          exact (List.getElem?_eq_some_iff.mp hv).1
        have ew : cw ad sa cid (w.set pp (.inr (c', fs.set kf v))) = (cw ad sa cid w).set pp (ad pp, .inr (c', (fs.map (rV ad sa)).set kf (rV ad sa v))) := by
          rw [cw_set]; simp [xr, List.map_set]
        have hq := hpool k ix _ hpo
        rcases hkd with rfl | rfl
        · obtain ⟨q, hq1, hq2, hq3, hq4, hq5⟩ := hq
          obtain ⟨h5, hfn, ty, hty, hnr, hft⟩ := xfit_ok (ad := ad) (sa := sa) h4 hq5
          obtain ⟨hc1, hc2, ty0, hc3, hc4⟩ := hcl _ _ hq1
          rcases hfn with hfn | ⟨hfn, hi, hdc, -⟩
          · exact va_put (C := q.1) (T := q.2.1) (N := q.2.2) hx hb hT hc1 ty0 hc3 hc2 hown hK hP hD hS pp (cw_get hw) hq1 kf hq2 (hT _ hq3) (fun _ z => by rw [hq4] at z; exact z) hfn hty hnr hft hl9 hd (fun H1 locs1 hP1 hD1 hS1 => go h5 had hnc (by rw [List.length_set]; exact hn0) (by rw [ew]; exact hP1) (by rw [ew]; exact hD1) hS1 hl)
          · exact va_putF (C := q.1) (T := q.2.1) (N := q.2.2) hx hb hT hc1 ty0 hc3 hc2 hown hK hP hD hS pp (cw_get hw) hq1 kf hq2 (hT _ hq3) (fun _ z => by rw [hq4] at z; exact z) hfn (by rw [hname]; exact hin hi) hdc hty hnr hft hl9 hd (fun H1 locs1 hP1 hD1 hS1 => go h5 had hnc (by rw [List.length_set]; exact hn0) (by rw [ew]; exact hP1) (by rw [ew]; exact hD1) hS1 hl)
        · obtain ⟨q, hq1, hq2, ⟨host, hq3⟩, hq4, hq5, hq6⟩ := hq
          obtain ⟨h5, hfn, ty, hty, hnr, hft⟩ := xfit_ok (ad := ad) (sa := sa) h4 hq5
          obtain ⟨hc1, hc2, ty0, hc3, hc4⟩ := hcl _ _ hq1
          rcases hfn with hfn | ⟨hfn, hi, hdc, h7⟩
          · exact va_putN (C := q.1) (T := q.2.1) (N := q.2.2) hx hb hT hc1 ty0 hc3 hc2 hown hK hP hD hS pp (cw_get hw) hq1 kf hq2 (va_Nw.use rfl (hnw _ hq3)) (fun _ z => by rw [hq4] at z; exact z) hfn hty hnr hft hl9 hd (fun H1 locs1 hP1 hD1 hS1 => go h5 had hnc (by rw [List.length_set]; exact hn0) (by rw [ew]; exact hP1) (by rw [ew]; exact hD1) hS1 hl)
          · exact absurd h7 hq6
    | getstatic ix =>
      obtain rfl := xl_of 3 (by decide) hln rfl
      simp only [xF1] at h
      split at h
      · rename_i hpo
        obtain ⟨n, hn1, hn2⟩ := hpool k ix _ hpo
        exact va_gets hx hb (hst.1 _ hn1) hS hown (hT _ hn2) (fun _ z => z) hd (go1 h hl)
      · rename_i hpo
        have hn2 := hpool k ix _ hpo
        exact va_gets hx hb hst.2.1 hS hown (hT _ hn2) (fun _ z => z) hd (go1 h hl)
      · exact h.elim
    | iaload =>
      obtain rfl := xl_of 1 (by decide) hln rfl
      rcases xIP_el h with ⟨i, pp, r, rfl, h1⟩ | ⟨i, z, r, rfl, hi, h1⟩
      · obtain ⟨t, n, g, hw, h2⟩ := xAr_el h1
        obtain ⟨ht, hi, h3⟩ := xif h2
        have ht := Nat.eq_of_beq_eq_true ht
        subst ht
        exact va_iald hx hb hK hP pp 0 (cw_get hw) rfl (xin_in hi) hd (go1 h3 hl)
      · exact va_ti hx hb hst.2.2 hS (xin_in hi) rfl hd (go1 h1 hl)
    | baload =>
      obtain rfl := xl_of 1 (by decide) hln rfl
      rcases xIP_el h with ⟨i, pp, r, rfl, h1⟩ | ⟨i, z, r, rfl, h1⟩
      · obtain ⟨t, n, g, hw, h2⟩ := xAr_el h1
        cases ht : Nat.beq t 2
        · rw [ht] at h2
          obtain ⟨ht, hi, h3⟩ := xif h2
          have ht := Nat.eq_of_beq_eq_true ht
          subst ht
          exact va_zald hx hb hK hP pp 3 (cw_get hw) rfl (xin_in hi) hd (go1 h3 hl)
        · rw [ht] at h2
          obtain ⟨hi, h3⟩ := h2
          have ht := Nat.eq_of_beq_eq_true ht
          subst ht
          exact va_bald hx hb hK hP pp 2 (cw_get hw) rfl (xin_in hi) hd (go1 h3 hl)
      · exact False.elim h1
    | laload =>
      obtain rfl := xl_of 1 (by decide) hln rfl
      rcases xIP_el h with ⟨i, pp, r, rfl, h1⟩ | ⟨i, z, r, rfl, h1⟩
      · obtain ⟨t, n, g, hw, h2⟩ := xAl_el h1
        obtain ⟨ht, hi, h3⟩ := xif h2
        have ht := Nat.eq_of_beq_eq_true ht
        subst ht
        exact va_lald hx hb hK hP pp 1 (cw_get hw) rfl (xin_in hi) hd (go1 h3 hl)
      · exact False.elim h1
    | iastore =>
      obtain rfl := xl_of 1 (by decide) hln rfl
      obtain ⟨v, i, pp, r, rfl, h1⟩ := xIIP_el h
      obtain ⟨t, n, g, hw, h2⟩ := xAr_el h1
      obtain ⟨ht, hi, h3⟩ := xif h2
      have ht := Nat.eq_of_beq_eq_true ht
      subst ht
      exact va_iast hx hb hK hP hD hS pp 0 (cw_get hw) rfl (xin_in hi) hd (fun H1 locs1 hP1 hD1 hS1 => go h3 had hnc (by rw [List.length_set]; exact hn0) (by rw [cw_set]; exact hP1) (by rw [cw_set]; exact hD1) hS1 hl)
    | bastore =>
      obtain rfl := xl_of 1 (by decide) hln rfl
      obtain ⟨v, i, pp, r, rfl, h1⟩ := xIIP_el h
      obtain ⟨t, n, g, hw, h2⟩ := xAr_el h1
      cases ht : Nat.beq t 2
      · rw [ht] at h2
        obtain ⟨ht, hi, h3⟩ := xif h2
        have ht := Nat.eq_of_beq_eq_true ht
        subst ht
        exact va_zast hx hb hK hP hD hS pp 3 (cw_get hw) rfl (xin_in hi) hd (fun H1 locs1 hP1 hD1 hS1 => go h3 had hnc (by rw [List.length_set]; exact hn0) (by rw [cw_set]; exact hP1) (by rw [cw_set]; exact hD1) hS1 hl)
      · rw [ht] at h2
        obtain ⟨hi, h3⟩ := h2
        have ht := Nat.eq_of_beq_eq_true ht
        subst ht
        exact va_bast hx hb hK hP hD hS pp 2 (cw_get hw) rfl (xin_in hi) hd (fun H1 locs1 hP1 hD1 hS1 => go h3 had hnc (by rw [List.length_set]; exact hn0) (by rw [cw_set]; exact hP1) (by rw [cw_set]; exact hD1) hS1 hl)
    | lastore =>
      obtain rfl := xl_of 1 (by decide) hln rfl
      obtain ⟨v, i, pp, r, rfl, h1⟩ := xJIP_el h
      obtain ⟨t, n, g, hw, h2⟩ := xAl_el h1
      obtain ⟨ht, hi, h3⟩ := xif h2
      have ht := Nat.eq_of_beq_eq_true ht
      subst ht
      exact va_last hx hb hK hP hD hS pp 1 (cw_get hw) rfl (xin_in hi) hd (fun H1 locs1 hP1 hD1 hS1 => go h3 had hnc (by rw [List.length_set]; exact hn0) (by rw [cw_set]; exact hP1) (by rw [cw_set]; exact hD1) hS1 hl)
    | arraylength =>
      obtain rfl := xl_of 1 (by decide) hln rfl
      obtain ⟨pp, r, rfl, h1⟩ := xP1_el h
      obtain ⟨t, n, g, hw, h2⟩ := xLn_el h1
      obtain ⟨ht, h3⟩ := xif h2
      have ht : t ≤ 3 := Nat.le_of_ble_eq_true ht
      have hty : ∃ ty, (xTys cid)[t]? = some (cid t, ty) := by
        match t, ht with
        | 0, _ => exact ⟨_, rfl⟩
        | 1, _ => exact ⟨_, rfl⟩
        | 2, _ => exact ⟨_, rfl⟩
        | 3, _ => exact ⟨_, rfl⟩
      obtain ⟨ty, hty⟩ := hty
      exact va_alen hx hb hK hP pp t (cw_get hw) hty rfl hd (go1 h3 hl)
    | newarray a =>
      obtain rfl := xl_of 2 (by decide) hln rfl
      obtain ⟨n, rfl, h1⟩ := xt1_el h
      obtain ⟨x, r, rfl, h2⟩ := xI1_el h1
      obtain ⟨hb1, rfl, h3⟩ := xif h2
      simp only [Bool.and_eq_true] at hb1
      obtain ⟨⟨⟨⟨⟨⟨ha, hn⟩, hmc⟩, hms⟩, hwL⟩, hws⟩, hww⟩ := hb1
      have hn : n ≤ 60000000 := Nat.le_of_ble_eq_true hn
      have hmc : nc + 1 ≤ 1 := Nat.le_of_ble_eq_true hmc
      have hms : ns + n ≤ 6 := Nat.le_of_ble_eq_true hms
      have hpos : ¬ Int32.ofNat n < 0 := nI_pos (n := n) (by omega)
      have hcl9 : (Int32.ofNat n).toNatClampNeg = n := nI_clamp (n := n) (by omega)
      have key : ∀ (ty : FieldType) (t : Nat), xty a = t → newarray.typeOf a = ty → (xTys cid)[t]? = some (cid t, ty) → (Cond.arrayClass ty).before args s = true → (∀ cA : ClassId, vp_cell cA (n, xz t) = arrV cA n (fun _ => defaultValue ty)) → n * componentBytes ty ≤ 536870912 → (va_RA s (cid t) ty → ∀ cA, va_RA s cA ty → cA = cid t) → W p l e (xRoomX d) s m args below meth c H locs nc ns (vx_MQ below (xQc ad0 n0 1 sa cid D cl A Ret) (XC A D cid ad0 sa) args s 1 6 A) (F0 m pc ls ((Value.int (Int32.ofNat n) :: r).map (rV ad sa))) := by
        intro ty t h4 h5 h6 h7 h8 h9 h10
        refine va_newa (a0 := (n, xz t)) hx hb (by rw [h5]; exact h7) h5 hK hP hD hS hA h8 hpos hcl9 h9 hmc hms hd (fun q cA H1 hK1 hP1 hD1 hS1 => ?_)
        have ec : cA = cid t := h10 (hK.2 t _ h6).2 cA (hK1.2 4 _ rfl).2
        subst ec
        have e1 : ∀ j : Nat, j < w.length → (fun j => if j = w.length then q else ad j) j = ad j := fun j hj => by simp [Nat.ne_of_lt hj]
        have ew : cw (fun j => if j = w.length then q else ad j) sa cid (w ++ [.inl (xty a, n, xz (xty a))]) = cw ad sa cid w ++ [(q, .inl (cid t, n, xz t))] := by
          rw [cw_push, cw_ext e1 hww, h4]; simp [xr]
        have h3 := go (ad' := fun j => if j = w.length then q else ad j) (H' := H1) (locs' := locs) (ls' := ls) h3 (fun j hj => (e1 j (by omega)).trans (had j hj)) (fun z => by omega) (by simp; omega) (by rw [ew]; exact hP1) (by rw [ew]; exact hD1) hS1 (xLv.ext e1 hwL hl)
        have es : (Value.ref w.length :: r).map (rV (fun j => if j = w.length then q else ad j) sa) = .ref q :: r.map (rV ad sa) := by
          simp [rV, xws_ok e1 hws]
        rw [es] at h3
        exact h3
      have und : ∀ ty : FieldType, (∀ U cA, va_RA U cA ty = (U.vm.findClass ("[" ++ ty.toString) = some cA)) → ∀ c1, va_RA s c1 ty → ∀ cA, va_RA s cA ty → cA = c1 := fun ty e c1 z1 cA z2 => by
        rw [e] at z1 z2
        exact Option.some.inj (z2.symm.trans z1)
      cases a with
      | int => exact key .int 0 rfl rfl rfl (hT _ hob.2.2.2.1) (fun cA => rfl) (by show n * 4 ≤ _; omega) (und .int (fun _ _ => rfl) _)
      | long => exact key .long 1 rfl rfl rfl (hT _ hob.2.2.2.2.1) (fun cA => rfl) (by show n * 8 ≤ _; omega) (und .long (fun _ _ => rfl) _)
      | byte => exact key .byte 2 rfl rfl rfl (hT _ hob.2.2.2.2.2.1) (fun cA => rfl) (by show n * 1 ≤ _; omega) (und .byte (fun _ _ => rfl) _)
      | boolean => exact key .boolean 3 rfl rfl rfl (hT _ hob.2.2.2.2.2.2) (fun cA => rfl) (by show n * 1 ≤ _; omega) (und .boolean (fun _ _ => rfl) _)
      | _ => cases ha
    | new ix =>
      obtain rfl := xl_of 3 (by decide) hln rfl
      obtain ⟨ci, n, b, z, hpo, h1⟩ := xpo_el h
      obtain ⟨hb1, h3⟩ := xif h1
      simp only [Bool.and_eq_true] at hb1
      obtain ⟨⟨⟨⟨hmc, hms⟩, hwL⟩, hws⟩, hww⟩ := hb1
      obtain ⟨q0, hq1, hq2, hq3, hq4, hq5⟩ := hpool k ix _ hpo
      subst hq2
      obtain ⟨hc1, hc2, ty0, hc3, hc4, hc5⟩ := hcl _ _ hq1
      have hmc : nc + 1 ≤ 1 := Nat.le_of_ble_eq_true hmc
      have hms : ns + q0.2.2 ≤ 6 := Nat.le_of_ble_eq_true hms
      refine va_new (C := q0.1) (T := q0.2.1) (N := q0.2.2) (fs := df ci) hx hb hT hc1 ty0 hc3 hown (hT _ hq3) (hT _ hq4) (hT _ hq5) hK hP hD hS hA hq1 hc4 hmc hms hd (fun q H1 hP1 hD1 hS1 => ?_)
      have e1 : ∀ j : Nat, j < w.length → (fun j => if j = w.length then q else ad j) j = ad j := fun j hj => by simp [Nat.ne_of_lt hj]
      have ed : (df ci).map (rV (fun j => if j = w.length then q else ad j) sa) = df ci := by
        have : ∀ v ∈ df ci, rV (fun j => if j = w.length then q else ad j) sa v = id v := fun v hv => hc5 v hv _ _
        rw [List.map_congr_left this, List.map_id]
      have ew : cw (fun j => if j = w.length then q else ad j) sa cid (w ++ [.inr (ci, df ci)]) = cw ad sa cid w ++ [(q, .inr (ci, df ci))] := by
        rw [cw_push, cw_ext e1 hww]; simp [xr, ed]
      have h3 := go (ad' := fun j => if j = w.length then q else ad j) (H' := H1) (locs' := locs) (ls' := ls) h3 (fun j hj => (e1 j (by omega)).trans (had j hj)) (fun z => by omega) (by simp; omega) (by rw [ew]; exact hP1) (by rw [ew]; exact hD1) hS1 (xLv.ext e1 hwL hl)
      have es : (Value.ref w.length :: st).map (rV (fun j => if j = w.length then q else ad j) sa) = .ref q :: st.map (rV ad sa) := by
        simp [rV, xws_ok e1 hws]
      rw [es] at h3
      exact h3
    | invokevirtual ix =>
      obtain rfl := xl_of 3 (by decide) hln rfl
      obtain ⟨kd, k', n, ci, z, hpo, hkd, h1⟩ := xpo2_el h
      split at h1
      · rename_i pp r hdrop
        obtain ⟨c', fs, hw, h2⟩ := xOb_el h1
        obtain ⟨hb1, h3⟩ := xif h2
        simp only [Bool.and_eq_true] at hb1
        obtain ⟨⟨⟨⟨hc, hcat⟩, hmc⟩, hms⟩, hwf⟩ := hb1
        have hc := Nat.eq_of_beq_eq_true hc
        subst hc
        have hlen : (st.take n).length = n := by
          have : st.length - n = r.length + 1 := by rw [← List.length_drop, hdrop]; rfl
          rw [List.length_take]; omega
        have hstk : st.map (rV ad sa) = ((st.take n).reverse.map (rV ad sa)).reverse ++ .ref (ad pp) :: r.map (rV ad sa) := by
          have e0 : st = st.take n ++ (.ref pp :: r) := by rw [← hdrop, List.take_append_drop]
          conv => lhs; rw [e0]
          simp [rV]
        have hq := hpool k ix _ hpo
        cases d with
        | zero => exact False.elim h3
        | succ d' =>
          have hM := h3 D.1 D.2 cid ad sa H.size
          rcases hkd with rfl | rfl
          · obtain ⟨hq1, hq2, hq3, hq4, hq5⟩ := hq
            exact xafter (va_runV (C := (xY (mR k')).cls) (b := ad pp) (As := (st.take n).reverse.map (rV ad sa)) (rest := r.map (rV ad sa)) ⟨hx, hb, hml, hown, hts⟩ hM (cwV n hts (hgi (fun z hz => by
                rcases List.mem_append.mp hz with hz | hz
                · simp only [List.mem_cons, List.not_mem_nil, or_false] at hz
                  rcases hz with rfl | rfl | rfl | rfl
                  · exact hq2
                  · exact hq3
                  · exact hq4
                  · exact (hmeth k').2.1
                · exact hwk k' z hz)) rfl rfl rfl ⟨rfl, (hmeth k').2.2.1.1, (hmeth k').2.2.1.2, hq5⟩ ⟨Nat.le_refl _, by show 8 + (xML (mR k') + 11) + 60 * (d' + 1) ≤ 60 * (d' + 1 + 1); have := (hmeth k').2.2.2.2.1; omega⟩) ⟨hblind _, hrecv hw hq1, fun U hU hW => ⟨rfl, hpre U hU hW⟩⟩ rfl (by rw [List.length_map, List.length_reverse]; exact hlen) hl.1 hstk (hmon hcat) hd ⟨by rw [(hmeth k').2.2.2.2.2.2] at hmc; exact Nat.le_of_ble_eq_true hmc, by rw [(hmeth k').2.2.2.2.2.2] at hms; exact Nat.le_of_ble_eq_true hms⟩) hS hfree (fun v w' ad' H1 locs1 z1 z2 z3 z4 z5 z6 z7 => fin hl r k' hwf v w' ad' H1 locs1 z1 z2 z3 z4 z5 z6 z7)
          · obtain ⟨hq1, ⟨host, hq2⟩, hq3, hq4, hq5⟩ := hq
            exact xafter (va_runVN (C := (xY (mR k')).cls) (b := ad pp) (As := (st.take n).reverse.map (rV ad sa)) (rest := r.map (rV ad sa)) ⟨hx, hb, hml, hown, hts⟩ hM ⟨va_cnB n hts (hgi (hwk k')) rfl rfl rfl (hnw _ hq2) (hT _ (hmeth k').2.1) ⟨(hmeth k').2.2.1.1, (hmeth k').2.2.1.2, hq5⟩ ⟨Nat.le_refl _, by show 8 + (xML (mR k') + 11) + 60 * (d' + 1) ≤ 60 * (d' + 1 + 1); have := (hmeth k').2.2.2.2.1; omega⟩, hT _ hq3, hT _ hq4⟩ ⟨hblind _, hrecv hw hq1, fun U hU hW => ⟨rfl, hpre U hU hW⟩⟩ rfl (by rw [List.length_map, List.length_reverse]; exact hlen) hl.1 hstk (hmon hcat) hd ⟨by rw [(hmeth k').2.2.2.2.2.2] at hmc; exact Nat.le_of_ble_eq_true hmc, by rw [(hmeth k').2.2.2.2.2.2] at hms; exact Nat.le_of_ble_eq_true hms⟩) hS hfree (fun v w' ad' H1 locs1 z1 z2 z3 z4 z5 z6 z7 => fin hl r k' hwf v w' ad' H1 locs1 z1 z2 z3 z4 z5 z6 z7)
      · exact False.elim h1
    | invokestatic ix =>
      obtain rfl := xl_of 3 (by decide) hln rfl
      simp only [xF1] at h
      split at h
      · rename_i k' n u1 u2 hpo
        obtain ⟨hb1, h3⟩ := xif h
        simp only [Bool.and_eq_true] at hb1
        obtain ⟨⟨⟨⟨hc, hcat⟩, hmc⟩, hms⟩, hwf⟩ := hb1
        have hlen : (st.take n).length = n := by
          rw [List.length_take]; have := Nat.le_of_ble_eq_true hc; omega
        have hstk : st.map (rV ad sa) = ((st.take n).reverse.map (rV ad sa)).reverse ++ (st.drop n).map (rV ad sa) := by
          conv => lhs; rw [← List.take_append_drop n st]
          simp
        cases d with
        | zero => exact False.elim h3
        | succ d' =>
          have hM := h3 D.1 D.2 cid ad sa H.size
          obtain ⟨hq1, hq2, hq5⟩ := hpool k ix _ hpo
          exact xafter (va_runS (As := (st.take n).reverse.map (rV ad sa)) (rest := (st.drop n).map (rV ad sa)) ⟨hx, hb, hml, hown, hts⟩ hM (va_cwS n hts (hgi (fun z hz => by
                rcases List.mem_append.mp hz with hz | hz
                · simp only [List.mem_cons, List.not_mem_nil, or_false] at hz
                  rcases hz with rfl | rfl | rfl
                  · exact hq1
                  · exact hq2
                  · exact (hmeth k').2.1
                · exact hwk k' z hz)) rfl rfl rfl ⟨(hmeth k').2.2.1.1, (hmeth k').2.2.1.2, hq5⟩ ⟨Nat.le_refl _, by show 8 + (xML (mR k') + 11) + 60 * (d' + 1) ≤ 60 * (d' + 1 + 1); have := (hmeth k').2.2.2.2.1; omega⟩) ⟨hblind _, fun U hU hW => ⟨rfl, hpre U hU hW⟩⟩ rfl (by rw [List.length_map, List.length_reverse]; exact hlen) hl.1 hstk (hmon hcat) hd ⟨by rw [(hmeth k').2.2.2.2.2.2] at hmc; exact Nat.le_of_ble_eq_true hmc, by rw [(hmeth k').2.2.2.2.2.2] at hms; exact Nat.le_of_ble_eq_true hms⟩) hS hfree (fun v w' ad' H1 locs1 z1 z2 z3 z4 z5 z6 z7 => fin hl (st.drop n) k' hwf v w' ad' H1 locs1 z1 z2 z3 z4 z5 z6 z7)
      · rename_i k' n u1 u2 hpo
        obtain ⟨hb1, h3⟩ := xif h
        simp only [Bool.and_eq_true] at hb1
        obtain ⟨⟨⟨⟨hc, hcat⟩, hmc⟩, hms⟩, hwf⟩ := hb1
        have hlen : (st.take n).length = n := by
          rw [List.length_take]; have := Nat.le_of_ble_eq_true hc; omega
        have hstk : st.map (rV ad sa) = ((st.take n).reverse.map (rV ad sa)).reverse ++ (st.drop n).map (rV ad sa) := by
          conv => lhs; rw [← List.take_append_drop n st]
          simp
        cases d with
        | zero => exact False.elim h3
        | succ d' =>
          have hM := h3 D.1 D.2 cid ad sa H.size
          obtain ⟨⟨host, hq1⟩, hq2, hq5⟩ := hpool k ix _ hpo
          exact xafter (va_runSN (As := (st.take n).reverse.map (rV ad sa)) (rest := (st.drop n).map (rV ad sa)) ⟨hx, hb, hml, hown, hts⟩ hM ⟨va_cnB n hts (hgi (hwk k')) rfl rfl rfl (hnw _ hq1) (hT _ (hmeth k').2.1) ⟨(hmeth k').2.2.1.1, (hmeth k').2.2.1.2, hq5⟩ ⟨Nat.le_refl _, by show 8 + (xML (mR k') + 11) + 60 * (d' + 1) ≤ 60 * (d' + 1 + 1); have := (hmeth k').2.2.2.2.1; omega⟩, hT _ hq2, trivial⟩ ⟨hblind _, fun U hU hW => ⟨rfl, hpre U hU hW⟩⟩ rfl (by rw [List.length_map, List.length_reverse]; exact hlen) hl.1 hstk (hmon hcat) hd ⟨by rw [(hmeth k').2.2.2.2.2.2] at hmc; exact Nat.le_of_ble_eq_true hmc, by rw [(hmeth k').2.2.2.2.2.2] at hms; exact Nat.le_of_ble_eq_true hms⟩) hS hfree (fun v w' ad' H1 locs1 z1 z2 z3 z4 z5 z6 z7 => fin hl (st.drop n) k' hwf v w' ad' H1 locs1 z1 z2 z3 z4 z5 z6 z7)
      · rename_i hpo
        obtain ⟨x, y, r, rfl, h1⟩ := xI2_el h
        obtain ⟨hb1, h2⟩ := xif h1
        simp only [Bool.and_eq_true] at hb1
        obtain ⟨⟨hcat, hcc⟩, hss⟩ := hb1
        have hcc : nc ≤ 1 := Nat.le_of_ble_eq_true hcc
        have hss : ns ≤ 6 := Nat.le_of_ble_eq_true hss
        obtain ⟨hq1, hq2, hq3⟩ := hpool k ix _ hpo
        exact va_mmax hx hb (by rw [hml, hl.1]) hown (hT _ hq1) (hT _ hq2) (hT _ hob.2.2.1) (hT _ hq3) (Nat.succ_le_succ (Nat.zero_le _)) (by have := hsum r; have := Nat.le_of_ble_eq_true hcat; show _ ≤ 60 * (d + 1); omega) hcc hss hd (go1 h2 hl)
      · rename_i hpo
        obtain ⟨x, y, r, rfl, h1⟩ := xI2_el h
        obtain ⟨hb1, h2⟩ := xif h1
        simp only [Bool.and_eq_true] at hb1
        obtain ⟨⟨hcat, hcc⟩, hss⟩ := hb1
        have hcc : nc ≤ 1 := Nat.le_of_ble_eq_true hcc
        have hss : ns ≤ 6 := Nat.le_of_ble_eq_true hss
        obtain ⟨hq1, hq2, hq3⟩ := hpool k ix _ hpo
        exact va_mmin hx hb (by rw [hml, hl.1]) hown (hT _ hq1) (hT _ hq2) (hT _ hob.2.2.1) (hT _ hq3) (Nat.succ_le_succ (Nat.zero_le _)) (by have := hsum r; have := Nat.le_of_ble_eq_true hcat; show _ ≤ 60 * (d + 1); omega) hcc hss hd (go1 h2 hl)
      · rename_i hpo
        obtain ⟨x, y, r, rfl, h1⟩ := xJ2_el h
        obtain ⟨hb1, h2⟩ := xif h1
        simp only [Bool.and_eq_true] at hb1
        obtain ⟨⟨hcat, hcc⟩, hss⟩ := hb1
        have hcc : nc ≤ 1 := Nat.le_of_ble_eq_true hcc
        have hss : ns ≤ 6 := Nat.le_of_ble_eq_true hss
        obtain ⟨hq1, hq2, hq3⟩ := hpool k ix _ hpo
        exact va_mmin_long hx hb (by rw [hml, hl.1]) hown (hT _ hq1) (hT _ hq2) (hT _ hob.2.2.1) (hT _ hq3) (Nat.succ_le_succ (Nat.zero_le _)) (by have := hsum r; have := Nat.le_of_ble_eq_true hcat; show _ ≤ 60 * (d + 1); omega) hcc hss hd (go1 h2 hl)
      · rename_i hpo
        split at h
        · rename_i n dp q sp pp r
          obtain ⟨hcat, h1⟩ := xif h
          obtain ⟨t, m0, f, hw0, h2⟩ := xAl_el h1
          obtain ⟨t1, m1, g, hw1, h3⟩ := xAl_el h2
          obtain ⟨ht, ⟨g1, g2, g3, g4, g5⟩, h4⟩ := xif h3
          simp only [Bool.and_eq_true] at ht
          have ht0 := Nat.eq_of_beq_eq_true ht.1
          have ht1 := Nat.eq_of_beq_eq_true ht.2
          subst ht0; subst ht1
          obtain ⟨hq1, hq2, hq3, hq4⟩ := hpool k ix _ hpo
          have e9 : nativeFrameWords "java/lang/System" "arraycopy" 5 ≤ 30 := by decide +kernel
          have nn : ∀ z : Int32, 0 ≤ z.toInt → ¬ z < 0 ∧ z.toInt = (z.toNatClampNeg : Int) := fun z hz => by
            refine ⟨fun q => ?_, ?_⟩
            · rw [Int32.lt_iff_toInt_lt] at q
              simp at q; omega
            · obtain ⟨j, hj, e⟩ := nI_of (x := z) (fun q => by rw [Int32.lt_iff_toInt_lt] at q; simp at q; omega)
              rw [e, nI_toInt hj, nI_clamp hj]
          exact va_copyl hx hb (by rw [hml, hl.1]) hown (hT _ hq1) (hT _ hq2) (hT _ hq3) (hT _ hq4) hK hP hD hS pp q 1 1 (ty := .long) (cw_get hw0) (cw_get hw1) rfl rfl rfl (nn _ g1).1 (nn _ g2).1 (nn _ g3).1 (by have a1 := (nn _ g1).2; have a3 := (nn _ g3).2; omega) (by have a2 := (nn _ g2).2; have a3 := (nn _ g3).2; omega) (fun _ _ => rfl) (Nat.succ_le_succ (Nat.zero_le _)) (by have := hsum r; have := Nat.le_of_ble_eq_true hcat; have := e9; show _ ≤ 60 * (d + 1); omega) hd (fun H1 locs1 hP1 hD1 hS1 => go h4 had hnc (by rw [List.length_set]; exact hn0) (by rw [cw_set]; exact hP1) (by rw [cw_set]; exact hD1) hS1 hl)
        · exact False.elim h
      · exact False.elim h
    | invokespecial ix =>
      obtain rfl := xl_of 3 (by decide) hln rfl
      simp only [xF1] at h
      split at h
      · rename_i k' n u1 u2 hpo
        split at h
        · rename_i pp r hdrop
          obtain ⟨hb1, h3⟩ := xif h
          simp only [Bool.and_eq_true] at hb1
          obtain ⟨⟨⟨hcat, hmc⟩, hms⟩, hwf⟩ := hb1
          have hlen : (st.take n).length = n := by
            have : st.length - n = r.length + 1 := by rw [← List.length_drop, hdrop]; rfl
            rw [List.length_take]; omega
          have hstk : st.map (rV ad sa) = ((st.take n).reverse.map (rV ad sa)).reverse ++ .ref (ad pp) :: r.map (rV ad sa) := by
            have e0 : st = st.take n ++ (.ref pp :: r) := by rw [← hdrop, List.take_append_drop]
            conv => lhs; rw [e0]
            simp [rV]
          cases d with
          | zero => exact False.elim h3
          | succ d' =>
            have hM := h3 D.1 D.2 cid ad sa H.size
            obtain ⟨hq0, hq1, hq2, hq3, hq5⟩ := hpool k ix _ hpo
            exact xafter (va_runI (b := ad pp) (As := (st.take n).reverse.map (rV ad sa)) (rest := r.map (rV ad sa)) ⟨hx, hb, hml, hown, hts⟩ hM (cwI n hts (hgi (hwk k')) (by show xWs TB (mR k') = _; unfold xWs; rw [hq1]) rfl rfl (hT _ (hmeth k').2.1) (hT _ hq2) (hT _ hq3) hq0 ⟨(hmeth k').2.2.1.1, (hmeth k').2.2.1.2, hq5⟩ ⟨Nat.le_refl _, by show 8 + (xML (mR k') + 11) + 60 * (d' + 1) ≤ 60 * (d' + 1 + 1); have := (hmeth k').2.2.2.2.1; omega⟩) ⟨hblind _, fun U hU hW => ⟨rfl, hpre U hU hW⟩⟩ rfl (by rw [List.length_map, List.length_reverse]; exact hlen) hl.1 hstk (hmon hcat) hd ⟨by rw [(hmeth k').2.2.2.2.2.2] at hmc; exact Nat.le_of_ble_eq_true hmc, by rw [(hmeth k').2.2.2.2.2.2] at hms; exact Nat.le_of_ble_eq_true hms⟩) hS hfree (fun v w' ad' H1 locs1 z1 z2 z3 z4 z5 z6 z7 => fin hl r k' hwf v w' ad' H1 locs1 z1 z2 z3 z4 z5 z6 z7)
        · exact False.elim h
      · rename_i k' n u1 u2 hpo
        split at h
        · rename_i pp r hdrop
          obtain ⟨hb1, h3⟩ := xif h
          simp only [Bool.and_eq_true] at hb1
          obtain ⟨⟨⟨hcat, hmc⟩, hms⟩, hwf⟩ := hb1
          have hlen : (st.take n).length = n := by
            have : st.length - n = r.length + 1 := by rw [← List.length_drop, hdrop]; rfl
            rw [List.length_take]; omega
          have hstk : st.map (rV ad sa) = ((st.take n).reverse.map (rV ad sa)).reverse ++ .ref (ad pp) :: r.map (rV ad sa) := by
            have e0 : st = st.take n ++ (.ref pp :: r) := by rw [← hdrop, List.take_append_drop]
            conv => lhs; rw [e0]
            simp [rV]
          cases d with
          | zero => exact False.elim h3
          | succ d' =>
            have hM := h3 D.1 D.2 cid ad sa H.size
            obtain ⟨hq0, hq1, ⟨host, hq2⟩, hq3, hq5⟩ := hpool k ix _ hpo
            exact xafter (va_runIN (b := ad pp) (As := (st.take n).reverse.map (rV ad sa)) (rest := r.map (rV ad sa)) ⟨hx, hb, hml, hown, hts⟩ hM ⟨va_cnB n hts (hgi (hwk k')) (by show xWs TB (mR k') = _; unfold xWs; rw [hq1]) rfl rfl (hnw _ hq2) (hT _ (hmeth k').2.1) ⟨(hmeth k').2.2.1.1, (hmeth k').2.2.1.2, hq5⟩ ⟨Nat.le_refl _, by show 8 + (xML (mR k') + 11) + 60 * (d' + 1) ≤ 60 * (d' + 1 + 1); have := (hmeth k').2.2.2.2.1; omega⟩, hq0, hT _ hq3⟩ ⟨hblind _, fun U hU hW => ⟨rfl, hpre U hU hW⟩⟩ rfl (by rw [List.length_map, List.length_reverse]; exact hlen) hl.1 hstk (hmon hcat) hd ⟨by rw [(hmeth k').2.2.2.2.2.2] at hmc; exact Nat.le_of_ble_eq_true hmc, by rw [(hmeth k').2.2.2.2.2.2] at hms; exact Nat.le_of_ble_eq_true hms⟩) hS hfree (fun v w' ad' H1 locs1 z1 z2 z3 z4 z5 z6 z7 => fin hl r k' hwf v w' ad' H1 locs1 z1 z2 z3 z4 z5 z6 z7)
        · exact False.elim h
      · rename_i hpo
        obtain ⟨pp, r, rfl, h1⟩ := xP1_el h
        obtain ⟨hcat, h2⟩ := xif h1
        have hq1 := hpool k ix _ hpo
        refine W.objInit hx hb hown (hT _ hq1) (hT _ hob.1) (hT _ hob.2.1) rfl (by show ls.size = _; rw [hml, hl.1]) rfl hd (Nat.succ_le_succ (Nat.zero_le _)) (by have := hsum r; have := Nat.le_of_ble_eq_true hcat; show 2 * 0 + _ + 12 ≤ 60 * (d + 1); omega) (go1 h2 hl)
      · exact False.elim h
    | tableswitch df0 lo hi os =>
      obtain ⟨x, r, rfl, h1⟩ := xI1_el h
      cases tg with
      | nil => exact False.elim h1
      | cons t0 ts =>
        simp only [xtk, Bool.and_eq_true, decide_eq_true_eq] at htk
        obtain ⟨⟨⟨⟨⟨k1, k2⟩, k3⟩, k4⟩, k5⟩, k6⟩ := htk
        have k6 : 1 ≤ ts.length := Nat.le_of_ble_eq_true k6
        rcases xsw_el h1 with ⟨j, t, h2, h3, h4⟩ | ⟨h2, h4⟩
        · have hj : j < ts.length := (List.getElem?_eq_some_iff.mp h2).1
          have hxI : x.toInt = lo + j := by rw [h3]; exact xof_int k4 (by omega)
          have ho : (os.toList.map (fun o => (pc : Int) + o))[j]? = some (t : Int) := by rw [k2, List.getElem?_map, h2]; rfl
          rw [List.getElem?_map] at ho
          cases hos : os.toList[j]? with
          | none => rw [hos] at ho; cases ho
          | some off =>
            rw [hos] at ho
            have ho : (pc : Int) + off = (t : Int) := Option.some.inj ho
            exact lv_tableIn hx hb hd (by omega) (by omega) (by rw [show (x.toInt - lo).toNat = j by omega, ← Array.getElem?_toList]; exact hos) ho (go1 h4 hl)
        · refine lv_tableOut hx hb hd ?_ k1 (go1 h4 hl)
          rcases Int.lt_or_le x.toInt lo with z | z
          · exact Or.inl z
          · rcases Int.lt_or_le hi x.toInt with z2 | z2
            · exact Or.inr z2
            · exfalso
              obtain ⟨j, hj⟩ := Int.eq_ofNat_of_zero_le (show 0 ≤ x.toInt - lo by omega)
              refine h2 j (by omega) (Int32.toInt_inj.mp ?_)
              rw [xof_int k4 (by omega)]
              omega
    | ireturn =>
      obtain rfl := xl_of 1 (by decide) hln rfl
      simp only [xF1] at h
      split at h
      · rename_i v
        obtain ⟨hb1, h1⟩ := xif h
        simp only [Bool.and_eq_true] at hb1
        unfold xret at h1
        split at h1
        · rename_i hret
          refine W.widen (Nat.le_of_ble_eq_true hb1.1) (Nat.le_of_ble_eq_true hb1.2) ?_
          exact vx_ret (W.iret (v := v) hx hb (by rw [hr]; exact hret) (fun t ht hW => hend hb1.1 (some (.int v)) h1 t ht) hS.2.2 hd hlocks)
        · rename_i hret
          refine W.widen (Nat.le_of_ble_eq_true hb1.1) (Nat.le_of_ble_eq_true hb1.2) ?_
          exact vx_ret (W.zret (v := v) hx hb (by rw [hr]; exact hret) (xnar_b h1.1) (fun t ht hW => hend hb1.1 (some (.int v)) h1.2 t ht) hS.2.2 hd hlocks)
        · exact False.elim h1
      · exact False.elim h
    | lreturn =>
      obtain rfl := xl_of 1 (by decide) hln rfl
      simp only [xF1] at h
      split at h
      · rename_i v hret
        obtain ⟨hb1, h1⟩ := xif h
        simp only [Bool.and_eq_true] at hb1
        refine W.widen (Nat.le_of_ble_eq_true hb1.1) (Nat.le_of_ble_eq_true hb1.2) ?_
        exact vx_ret (W.lret (v := v) hx hb (by rw [hr]; exact hret) (fun t ht hW => hend hb1.1 (some (.long v)) h1 t ht) hS.2.2 hd hlocks)
      · exact False.elim h
    | return_ =>
      obtain rfl := xl_of 1 (by decide) hln rfl
      simp only [xF1] at h
      split at h
      · rename_i hret
        obtain ⟨hb1, h1⟩ := xif h
        simp only [Bool.and_eq_true] at hb1
        refine W.widen (Nat.le_of_ble_eq_true hb1.1) (Nat.le_of_ble_eq_true hb1.2) ?_
        exact vx_ret (W.vret hx hb (by rw [hr]; exact hret) (fun t ht hW => hend hb1.1 none h1 t ht) hS.2.2 hd hlocks)
      · exact False.elim h
    | _ => exact False.elim h

section XRX
variable {l : Launch} {TB NW : List Cond} {cl : List vw_C} {df : Nat → List Value} {al : Nat → Nat × Nat} {mR : Nat → XMeth} {XC : XCt}
theorem xrun_soundX (OK : xOK TB NW cl df al mR) {d k : Nat} {Ret : Option Value → XW → Prop} {X : Nat → XLs → List Value → XW → Nat → Nat → Prop}
    (hX : ∀ pc L st w nc ns, X pc L st w nc ns → xWGX l TB NW cl mR XC d k Ret pc L st w nc ns) (stops : List Nat) : ∀ (n pc : Nat) (L : XLs) (st : List Value) (w : XW) (nc ns : Nat),
    xrun (xML (mR k)) (xPO (mR k)) (xRT (mR k)) (xIN (mR k)) 1 6 df al (xcl l TB NW cl mR d) Ret (xFE (mR k)) stops X n pc L st w nc ns → xWGX l TB NW cl mR XC d k Ret pc L st w nc ns := by
  intro n
  induction n with
  | zero => intro pc L st w nc ns h; exact False.elim h
  | succ n ih =>
    intro pc L st w nc ns h
    unfold xrun at h
    cases hm : xmem pc stops with
    | true =>
      rw [hm] at h
      exact fun p e s m' args below meth c A D cid ad0 n0 sa ad H locs ls fx had hnc hn0 hP hD hS hl => hX _ _ _ _ _ _ h p e s m' args below meth c A D cid ad0 n0 sa ad H locs ls fx had hnc hn0 hP hD hS (hl.mask _)
    | false =>
      rw [hm] at h
      exact xstepX OK ih h
theorem xgoX (OK : xOK TB NW cl df al mR) {d k : Nat} {Ret : Option Value → XW → Prop} (stops : List Nat) (n : Nat) {pc : Nat} {L : XLs} {st : List Value} {w : XW} {nc ns : Nat}
    (h : xF (xML (mR k)) (xPO (mR k)) (xRT (mR k)) (xIN (mR k)) 1 6 df al (xcl l TB NW cl mR d) Ret (xFE (mR k)) (xrun (xML (mR k)) (xPO (mR k)) (xRT (mR k)) (xIN (mR k)) 1 6 df al (xcl l TB NW cl mR d) Ret (xFE (mR k)) stops (xWGX l TB NW cl mR XC d k Ret) n) pc L st w nc ns) : xWGX l TB NW cl mR XC d k Ret pc L st w nc ns :=
  xstepX OK (xrun_soundX OK (fun _ _ _ _ _ _ h => h) stops n) h
/-- a body that may throw gives the contract -/
theorem xentryX (OK : xOK TB NW cl df al mR) {d k : Nat} {args : List Value} {w : XW} {Q : Option Value → XW → Prop} {L : XLs} (hL : xent (xML (mR k)) args = L) (hc : Nat.ble (xcat args) (xML (mR k)) = true) (h : xWGX l TB NW cl mR XC d k Q 0 L [] w 0 0) (dC : Nat → ClassId) (dI : Nat → Nat → Nat) (cid : Nat → ClassId) (ad : Nat → Nat) (sa sz : Nat) :
    vx_Met l (xY (mR k)) (xWs TB (mR k)) (xRoomX d)
    (va_Pc (args.map (rV ad sa)) (fun U => U.heap.size = sz ∧ va_P (dC, dI) cl (cw ad sa cid w) U.heap ∧ va_K (dC, dI) cl (xTys cid) U ∧ va_D (fun _ => True) (cw ad sa cid w) ∧ (∀ z ∈ NW, va_Nw z U) ∧ xStat sa (va_A (cw ad sa cid w) sz) U U.heap ∧ TF (va_A (cw ad sa cid w) sz) U U.heap))
    (xQc ad w.length 1 sa cid (dC, dI) cl (va_A (cw ad sa cid w) sz) Q) (XC (va_A (cw ad sa cid w) sz) (dC, dI) cid ad sa) 1 6 (va_A (cw ad sa cid w) sz) := by
  obtain ⟨hrow, hpool, hgood, hnest, hmeth, hcl, hob⟩ := OK
  obtain ⟨hcode, hinit, hmh, hplain, hml40, hin, hal⟩ := hmeth k
  refine vx_ofW (cc := xC (mR k)) (maxL := xML (mR k)) (ret := xRT (mR k)) hplain rfl ?_
  intro p e s m args' below meth c s₁ B hml htab hv
  obtain ⟨rfl, hsz, hP, hK, hD0, hN, hSt, hTF⟩ := hv
  have hts := atoms_spec (ws := xWs TB (mR k)) B.pre
  have hown : s.vm.findClass (xY (mR k)).cls = some m.cls := findClass_of_methodNamed B.named
  subst hsz
  have hD := hD0.self (sz := s.heap.size)
  rw [lg_entry_eq]
  have hl := lv_entry (args.map (rV ad sa)) (n := xML (mR k)) (by rw [xlg_len, xcat_map]; exact Nat.le_of_ble_eq_true hc)
  refine h p e s m _ below meth c (va_A (cw ad sa cid w) s.heap.size) (dC, dI) cid ad w.length sa ad s.heap [] _ ⟨⟨B.exec, B.bytes, B.returns, hml, hown, hts, B.notSynchronized, (name_of_methodNamed B.named B.method).1, hN, hK, fun q z => Or.inr z, hSt⟩, hTF, htab⟩ (fun _ _ => rfl) (fun _ => rfl) (Nat.le_refl _) hP hD va_S.rf ?_
  refine ⟨hl.1, hl.2.1, fun i v hi => ?_⟩
  subst hL
  unfold xent at hi
  by_cases hlt : i < (xargs args).length
  · rw [List.getElem?_append_left hlt] at hi
    have := hl.2.2 _ (xargs_mem (ad := ad) (sa := sa) args 0 i v hi)
    simpa using this
  · rw [List.getElem?_append_right (by omega)] at hi
    rw [List.getElem?_replicate] at hi
    split at hi <;> cases hi
end XRX
