/-! ===== the law's start, and the claim ===== -/
theorem vw_inst : ∀ q ∈ vwCl, Cond.instantiable q.1 q.2.2 ∈ lw_tbl := by decide +kernel
section WS
variable {p : Program} {l : Launch} {e : Env} {s : State} {m : MethodId} {below : List Frame} {meth : Method} {c : Code} {b L : Nat} {xs : Nat → Int32}
theorem st_arr {args : Array Value} {ty : FieldType} (he : ∀ (U : State) (cA : ClassId), va_RA U cA ty = (U.vm.findClass ("[" ++ ty.toString) = some cA)) (h : (Cond.arrayClass ty).before args s = true) : ∃ cA : ClassId, ArrOfT s cA ty ∧ va_RA s cA ty := by
  obtain ⟨cA, kA, comp, h1, h2, h3⟩ := Cond.arrayClass_spec h
  exact ⟨cA, fun n z => ⟨fun k h => (by cases h), kA, h2, comp, h3⟩, by rw [he]; exact h1⟩
theorem st_str {args : Array Value} {own tx : String} {k : Nat} (h1 : (Cond.stringRef own k tx).before args s = true) (h2 : (Cond.exactly (.string own k) "java/lang/String").before args s = true) : ∃ a, vk_R own k tx a s := by
  obtain ⟨a, -, -, -, ha, -⟩ := Cond.exactly_spec h2
  exact ⟨a, vk_R.of h1 ha⟩
set_option maxHeartbeats 4000000 in
set_option maxRecDepth 100000 in
theorem lw_begin (hst : l.stackTraces = false) (C0 : lw_At p s m meth c b L xs) : ∃ (D : va_G) (cid : Nat → ClassId) (sa : Nat), lwC l p s m meth c b L xs D cid sa := by
  have C1 := C0
  obtain ⟨hx, hb, hr, hml, hown, hts, hX, hbl, hlocks, hgv⟩ := C0
  have hfl := flat_of_before _ hgv
  have hA : ∀ a : Nat, a < s.heap.size → ¬ (fun q : Nat => s.heap.size ≤ q) a := fun a h => Nat.not_le.mpr h
  have hcl := xok.2.2.2.2.2.1
  have hKn : ∀ ci : Nat, ∃ cC : ClassId, ∃ iS : Nat → Nat, ∀ q, vwCl[ci]? = some q → u_Kn s q.1 q.2.1 q.2.2 cC iS := fun ci => by
    cases hq : vwCl[ci]? with
    | none => exact ⟨m.cls, fun _ => 0, fun q h => by cases h⟩
    | some q =>
      obtain ⟨cC, iS, h9⟩ := u_known (n := q.2.2) hts (fun w z => (List.mem_filter.mp ((hcl ci q hq).1 w z)).1) (hts _ (vw_inst q (List.mem_of_getElem? hq)))
      exact ⟨cC, iS, fun q' h => by cases h; exact h9⟩
  obtain ⟨dC, hdC⟩ := Classical.axiomOfChoice hKn
  obtain ⟨dI, hdI⟩ := Classical.axiomOfChoice hdC
  obtain ⟨c0, a0, r0⟩ := st_arr (s := s) (ty := .int) (fun _ _ => rfl) (hts (.arrayClass .int) (by decide +kernel))
  obtain ⟨c1, a1, r1⟩ := st_arr (s := s) (ty := .long) (fun _ _ => rfl) (hts (.arrayClass .long) (by decide +kernel))
  obtain ⟨c2, a2, r2⟩ := st_arr (s := s) (ty := .byte) (fun _ _ => rfl) (hts (.arrayClass .byte) (by decide +kernel))
  obtain ⟨c3, a3, r3⟩ := st_arr (s := s) (ty := .boolean) (fun _ _ => rfl) (hts (.arrayClass .boolean) (by decide +kernel))
  have hfv : ∀ j : Nat, j < 4 → (Cond.eq (.elem (.static "TreeSchoolModel" "FIVES" "[I") (.int (Int32.ofNat j))) (.int (xfv j))) ∈ flatC (Jvm.Cond.and given_1 narrow_1) := by decide +kernel
  obtain ⟨sa, hsa, hT⟩ := va_Tof (args := #[Value.ref b]) (s := s) (tm := .static "TreeSchoolModel" "FIVES" "[I") (ty := .int) (N := 4) (f := fun j => .int (xfv j)) (A := fun q : Nat => s.heap.size ≤ q) (by decide) (hfl _ (by decide +kernel)) (va_eqt (hfl _ (by decide +kernel))) (fun j hj => va_eqt (hfl _ (hfv j hj))) hA
  have hini : (Cond.initialized "TreeSchoolModel").before #[Value.ref b] s = true := hts _ (by decide +kernel)
  have hzl : ∀ q ∈ xSL, Cond.laysStatic "TreeSchoolModel" q.1 "J" ∈ lw_tbl ∧ Cond.eq (.static "TreeSchoolModel" q.1 "J") (.long q.2) ∈ flatC (Jvm.Cond.and given_1 narrow_1) := by decide +kernel
  have hTi : (Cond.initialized "java/lang/Throwable").before #[Value.ref b] s = true := hts _ (by decide +kernel)
  have hthW : ∀ w ∈ thW, w ∈ lw_tbl := by decide +kernel
  refine ⟨(dC, dI), fun t => match t with | 0 => c0 | 1 => c1 | 2 => c2 | _ => c3, sa, C1, hst, ⟨fun ci q hq => hdI ci q hq, fun k q hk => ?_⟩, ⟨fun q hq => va_Zof (hts _ (hzl q hq).1) hini (va_eql (hfl _ (hzl q hq).2)) hA, va_Zof (hts _ (by decide +kernel)) hini hsa hA, hT⟩, fun z hz => ?_, ?_⟩
  · match k, hk with
    | 0, hk => cases hk; exact ⟨a0, r0⟩
    | 1, hk => cases hk; exact ⟨a1, r1⟩
    | 2, hk => cases hk; exact ⟨a2, r2⟩
    | 3, hk => cases hk; exact ⟨a3, r3⟩
  · have h9 := hts z (List.mem_filter.mp hz).1
    rcases xok.2.2.2.1 z hz with ⟨a, i, b, n, d, h, rfl⟩ | ⟨a, i, x, h, rfl⟩
    · exact va_Nw.of rfl h9
    · exact va_Nw.of rfl h9
  · exact ⟨vx_Zqof (hts _ (by decide +kernel)) hTi (hfl _ (by decide +kernel)) hA, vx_Zqof (hts _ (by decide +kernel)) hTi (hfl _ (by decide +kernel)) hA,
      st_str (hts _ (by decide +kernel)) (hfl _ (by decide +kernel)), st_str (hts _ (by decide +kernel)) (hfl _ (by decide +kernel)), st_str (hts _ (by decide +kernel)) (hfl _ (by decide +kernel)), fun w hw => va_Nw.of (th_on w hw) (hts w (hthW w hw))⟩
end WS
theorem yP_comm {D : va_G} {cl : List vw_C} {a b r : va_W} {H : Heap} (h : va_P D cl (a ++ b ++ r) H) : va_P D cl (b ++ (a ++ r)) H := yP_mem fun q hq => yP_in h q (by
  simp only [List.mem_append] at hq ⊢
  rcases hq with h | h | h
  · exact Or.inl (Or.inr h)
  · exact Or.inl (Or.inl h)
  · exact Or.inr h)
theorem yD_comm {A : Nat → Prop} {a b r : va_W} (h : va_D A (a ++ b ++ r)) : va_D A (b ++ (a ++ r)) := by
  have pm : List.Perm (b ++ (a ++ r)) (a ++ b ++ r) := by
    rw [← List.append_assoc]
    exact List.Perm.append_right r List.perm_append_comm
  refine yD_of ((List.Perm.nodup_iff (pm.map _)).mpr (yD_nd h)) (fun q hq => yD_in h q (pm.mem_iff.mp hq))
section WT
variable {p : Program} {l : Launch} {e : Env} {s : State} {m : MethodId} {below : List Frame} {meth : Method} {c : Code} {b L : Nat} {xs : Nat → Int32} {D : va_G} {cid : Nat → ClassId} {sa : Nat} {H : Heap} {locs : List Loc} {nc ns : Nat} {QQ : State → Prop}
/-- the law makes an object -/
theorem lw_new (C : lwC l p s m meth c b L xs D cid sa) {ci index pc : Nat} {q0 : vw_C} (hq : vwCl[ci]? = some q0) {ws : va_W} (hlink : Cond.classLink RL index q0.1 ∈ lw_tbl) (hini : Cond.initialized q0.1 ∈ lw_tbl) (hP : va_P D vwCl ws H) (hD : va_D (fun q : Nat => s.heap.size ≤ q) ws) (hS : va_S (fun q : Nat => s.heap.size ≤ q) s.heap H locs) (hnc : nc + 1 ≤ 601024) (hns : ns + q0.2.2 ≤ 7293033) (hdg : decode code pc = .ok (.new index, 3)) {ls : Array Slot} {rest : List Value}
    (kk : ∀ (q : Nat) (H1 : Heap), va_P D vwCl (ws ++ [(q, .inr (ci, xdf ci))]) H1 → va_D (fun q : Nat => s.heap.size ≤ q) (ws ++ [(q, .inr (ci, xdf ci))]) → va_S (fun q : Nat => s.heap.size ≤ q) s.heap H1 locs →
      W p l e room_1 s m #[Value.ref b] below meth c H1 locs (nc + 1) (ns + q0.2.2) QQ (F0 m (pc + 3) ls (.ref q :: rest))) : W p l e room_1 s m #[Value.ref b] below meth c H locs nc ns QQ (F0 m pc ls rest) := by
  obtain ⟨⟨hx, hb, hr, hml, hown, hts, hX, hbl, hlocks, hgv⟩, hst, hK, hSt, hN, hTF⟩ := C
  obtain ⟨hc1, hc2, ty0, hc3, hc4, hc5⟩ := xok.2.2.2.2.2.1 ci q0 hq
  exact va_new (C := q0.1) (T := q0.2.1) (N := q0.2.2) (fs := xdf ci) hx hb hts (fun w z => (List.mem_filter.mp (hc1 w z)).1) ty0 hc3 hown (hts _ hlink) (hts _ (vw_inst q0 (List.mem_of_getElem? hq))) (hts _ hini) hK hP hD hS (fun _ h => h) hq hc4 hnc hns hdg kk
set_option maxHeartbeats 4000000 in
set_option maxRecDepth 100000 in
theorem whole_start' (C : lwC l p s m meth c b L xs D cid sa) (hL : L ≤ 3072) : W p l e room_1 s m #[Value.ref b] below meth c s.heap [] 0 0 (lw_Z below #[Value.ref b] s) (entryFrame m ([Value.ref b] : List Value).toArray 8) := by
  have F := lw_fix C
  have C0 := C
  obtain ⟨⟨hx, hb, hr, hml, hown, hts, hX, hbl, hlocks, hgv⟩, hst, hK, hSt, hN, hTF⟩ := C0
  have hlo := lv_entry ([Value.ref b]) (n := 8) (Nat.le_of_ble_eq_true rfl)
  rw [lg_entry_eq]
  generalize (lg_sl ([Value.ref b]) ++ List.replicate (8 - (lg_sl ([Value.ref b])).length) Slot.unset).toArray = ls at hlo ⊢
  have hlo : lv_has ls 8 [(0, .ref b)] := hlo
  have hP : va_P D vwCl [] s.heap := fun k q h => by simp at h
  have hD : va_D (fun q : Nat => s.heap.size ≤ q) [] := ⟨fun i j p q h => by simp at h, fun k q h => by simp at h⟩
  have hS : va_S (fun q : Nat => s.heap.size ≤ q) s.heap s.heap [] := va_S.rf
  refine lw_new C (ci := 10) (index := 8) rfl (tm1 (List.mem_of_getElem? (i := 21) rfl)) (tm1 (List.mem_of_getElem? (i := 1) rfl)) hP hD hS (Nat.le_of_ble_eq_true rfl) (Nat.le_of_ble_eq_true rfl) dL_law_0 (fun q1 Ha hPa hDa hSa => ?_)
  refine lv_dup hx hb dL_law_3 rfl ?_
  have hPb : va_P D vwCl ([] ++ (cw (fun _ => q1) sa cid [.inr (10, xdf 10)] ++ [])) Ha := hPa
  have hDb : va_D (fun q : Nat => s.heap.size ≤ q) ([] ++ (cw (fun _ => q1) sa cid [.inr (10, xdf 10)] ++ [])) := hDa
  refine ycallI (R := room_1) (x := []) (r := []) (ad := fun _ => q1) (w := [.inr (10, xdf 10)]) (d := 603) (k := 91) (index := 27) (rest := [.ref q1]) F (i_School (Ret := fun v w' => v = none ∧ w' = wC .null .null .null (fun _ => 0) (fun _ => 0) (fun _ _ => 0) (fun _ _ => 0)) ⟨rfl, rfl⟩) hPb hDb hSa rfl rfl ⟨(xmT (tm1 (List.mem_of_getElem? (i := 23) rfl)) rfl), (xmT (tm1 (List.mem_of_getElem? (i := 24) rfl)) rfl)⟩ (by decide +kernel) dL_law_4 hlo.1 (Nat.le_of_ble_eq_true rfl) ⟨Nat.le_of_ble_eq_true rfl, Nat.le_of_ble_eq_true rfl⟩ ⟨Nat.le_of_ble_eq_true rfl, Nat.le_of_ble_eq_true rfl⟩ (fun v w' ad1 Hc locs1 hq had1 hPc hDc hSc => ?_)
  obtain ⟨rfl, rfl⟩ := hq
  have e1 : ad1 0 = q1 := had1 0 (by decide)
  subst e1
  rw [List.append_nil, List.nil_append] at hPc hDc
  generalize hcx : cw ad1 sa cid (wC .null .null .null (fun _ => 0) (fun _ => 0) (fun _ _ => 0) (fun _ _ => 0)) = cx at hPc hDc
  refine lv_astore_n hx hb dL_law_7 rfl hlo (by decide) rfl (fun ls hlo => ?_)
  have hlo : lv_has ls 8 [(1, .ref (ad1 0)), (0, .ref b)] := hlo
  refine lw_new C (ci := 11) (index := 28) rfl (tm5 (List.mem_of_getElem? (i := 26) rfl)) (tm1 (List.mem_of_getElem? (i := 12) rfl)) hPc hDc hSc (Nat.le_of_ble_eq_true rfl) (Nat.le_of_ble_eq_true rfl) dL_law_8 (fun q2 Hd hPd hDd hSd => ?_)
  refine lv_dup hx hb dL_law_11 rfl ?_
  have hPe : va_P D vwCl (cx ++ (cw (fun _ => q2) sa cid [.inr (11, xdf 11)] ++ [])) Hd := hPd
  have hDe : va_D (fun q : Nat => s.heap.size ≤ q) (cx ++ (cw (fun _ => q2) sa cid [.inr (11, xdf 11)] ++ [])) := hDd
  refine ycallI (R := room_1) (x := cx) (r := []) (ad := fun _ => q2) (w := [.inr (11, xdf 11)]) (d := 601) (k := 123) (index := 30) (rest := [.ref q2]) F (i_Model (Ret := fun v w' => v = none ∧ w' = wM (fun _ => 0) (fun _ => 0) (fun _ _ => 0) (fun _ _ => 0)) ⟨rfl, rfl⟩) hPe hDe hSd rfl rfl ⟨(xmT (tm5 (List.mem_of_getElem? (i := 28) rfl)) rfl), (xmT (tm5 (List.mem_of_getElem? (i := 29) rfl)) rfl)⟩ (by decide +kernel) dL_law_12 hlo.1 (Nat.le_of_ble_eq_true rfl) ⟨Nat.le_of_ble_eq_true rfl, Nat.le_of_ble_eq_true rfl⟩ ⟨Nat.le_of_ble_eq_true rfl, Nat.le_of_ble_eq_true rfl⟩ (fun v w' ad2 Hf locs2 hq had2 hPf hDf hSf => ?_)
  obtain ⟨rfl, rfl⟩ := hq
  have e2 : ad2 0 = q2 := had2 0 (by decide)
  subst e2
  rw [List.append_nil] at hPf hDf
  generalize hcm : cw ad2 sa cid (wM (fun _ => 0) (fun _ => 0) (fun _ _ => 0) (fun _ _ => 0)) = cm at hPf hDf
  refine lv_astore_n hx hb dL_law_15 rfl hlo (by decide) rfl (fun ls hlo => ?_)
  have hlo : lv_has ls 8 [(2, .ref (ad2 0)), (1, .ref (ad1 0)), (0, .ref b)] := hlo
  refine lv_iconst (v := 1) hx hb dL_law_16 (by decide) ?_
  refine va_newa (atype := .long) (ty := .long) (n := 1) (N' := 1) (a0 := (1, .inr (.inl (fun _ => 0)))) hx hb (hts (.arrayClass .long) (by decide +kernel)) rfl hK hPf hDf hSf (fun _ h => h) (fun cA => rfl) (by decide) (by decide) (by decide) (Nat.le_of_ble_eq_true rfl) (Nat.le_of_ble_eq_true rfl) dL_law_17 (fun qo cA Hg hK1 hPg hDg hSg => ?_)
  have ec : cA = cid 1 := by
    have h1 : s.vm.findClass ("[" ++ FieldType.long.toString) = some cA := (hK1.2 4 _ rfl).2
    have h2 : s.vm.findClass ("[" ++ FieldType.long.toString) = some (cid 1) := (hK.2 1 _ rfl).2
    exact Option.some.inj (h1.symm.trans h2)
  subst ec
  refine lv_astore_n hx hb dL_law_19 rfl hlo (by decide) rfl (fun ls hlo => ?_)
  refine lv_iconst (v := 0) hx hb dL_law_20 (by decide) ?_
  refine lv_istore hx hb dL_law_21 hlo (by decide) rfl (fun ls hlo => ?_)
  have hlo : lv_has ls 8 (lw0 b (ad1 0) (ad2 0) qo 0) := hlo
  refine W.widen (k := 1000 + 0) (n := 130000 + 0) (Nat.le_of_ble_eq_true rfl) (Nat.le_of_ble_eq_true rfl) ?_
  have hPh := yP_comm hPg
  have hDh := yD_comm hDg
  rw [← hcx, ← hcm] at hPh hDh
  exact lw_loop C hL (L + 1) 0 (Nat.zero_le _) (by omega) S00 (fun _ => True) (fun _ => True) (ad1 0) (ad2 0) qo _ _ ⟨ad1, ad2, .null, .null, .null, _, _, _, _, _, _, _, _, _, rfl, rfl, xInv_00, mInv_00, trivial, trivial, hPh, hDh, hSg⟩ ls hlo
end WT
theorem whole_start {p : Program} {e : Env} {s : State} {m : MethodId} {below : List Frame} {meth : Method} {c : Code} (l : Launch) (hst : l.stackTraces = false) {b L : Nat} {xs : Nat → Int32} (hL : L ≤ 3072) (C0 : lw_At p s m meth c b L xs) : W p l e room_1 s m #[Value.ref b] below meth c s.heap [] 0 0 (lw_Z below #[Value.ref b] s) (entryFrame m ([Value.ref b] : List Value).toArray 8) := by
  obtain ⟨D, cid, sa, C⟩ := lw_begin hst C0
  exact whole_start' C hL
