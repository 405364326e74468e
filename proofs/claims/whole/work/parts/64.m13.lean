/-! ===== the reference: what a rule makes ===== -/
def runK : List Law → (Nat → Nat) → Option (Nat → Nat)
  | [], K => some K
  | q :: ls, K => match obD q (fun i => dg (K i) q.2.1) with
    | none => none
    | some D => runK ls (fun i => setd (K i) q.2.1 (D i))
theorem dg_set : ∀ key, key < 625 → ∀ f, f < 4 → ∀ v, v < 5 → ∀ e, e < 4 → dg (setd key f v) e = if e = f then v else dg key e := by decide +kernel
theorem dg_sum : ∀ key, key < 625 → dg key 0 * 125 + dg key 1 * 25 + dg key 2 * 5 + dg key 3 = key := by decide +kernel
theorem setd_dg : ∀ key, key < 625 → ∀ f, f < 4 → setd key f (dg key f) = key := by decide +kernel
theorem dg_0 (f : Nat) : dg 0 f = 0 := by unfold dg; simp
theorem runK_ok {parts : Nat} (hp : parts ≤ 2) : ∀ (laws : List Law) (K : Nat → Nat), (∀ q ∈ laws, okLaw parts q) → (∀ i, K i < 625) → match runK laws K with
    | none => ∃ f, f < 4 ∧ runF f laws (fun i => dg (K i) f) = none
    | some K' => (∀ i, K' i < 625) ∧ ∀ f, f < 4 → runF f laws (fun i => dg (K i) f) = some (fun i => dg (K' i) f)
  | [], K, _, h => ⟨h, fun f _ => rfl⟩
  | q :: ls, K, hq, h => by
    have h0 := hq q (List.mem_cons_self ..)
    have hf : q.2.1 < 4 := by have := h0.1; omega
    unfold runK
    cases z : obD q (fun i => dg (K i) q.2.1) with
    | none =>
      refine ⟨q.2.1, hf, ?_⟩
      show (if q.2.1 = q.2.1 then _ else _) = none
      rw [if_pos rfl, z]
    | some D =>
      have hD : okD D := okD_ob hp h0 (fun i => dg_le _ _) z
      have h1 : ∀ i, setd (K i) q.2.1 (D i) < 625 := fun i => setd_lt _ (h i) _ hf _ (by have := hD i; omega)
      have key : ∀ f, f < 4 → runF f (q :: ls) (fun i => dg (K i) f) = runF f ls (fun i => dg (setd (K i) q.2.1 (D i)) f) := by
        intro f h4
        have e : ∀ i, dg (setd (K i) q.2.1 (D i)) f = if f = q.2.1 then D i else dg (K i) f := fun i => dg_set _ (h i) _ hf _ (by have := hD i; omega) _ h4
        simp only [e]
        show (if q.2.1 = f then _ else _) = _
        by_cases c : q.2.1 = f
        · subst c; rw [if_pos rfl, z]; simp
        · rw [if_neg c]; simp only [if_neg (Ne.symm c)]
      have ih := runK_ok hp ls (fun i => setd (K i) q.2.1 (D i)) (fun r hr => hq r (List.mem_cons_of_mem _ hr)) h1
      show match runK ls (fun i => setd (K i) q.2.1 (D i)) with
        | none => ∃ f, f < 4 ∧ runF f (q :: ls) (fun i => dg (K i) f) = none
        | some K' => (∀ i, K' i < 625) ∧ ∀ f, f < 4 → runF f (q :: ls) (fun i => dg (K i) f) = some (fun i => dg (K' i) f)
      cases y : runK ls (fun i => setd (K i) q.2.1 (D i)) with
      | none =>
        rw [y] at ih
        obtain ⟨f, h4, e⟩ := ih
        exact ⟨f, h4, by rw [key f h4]; exact e⟩
      | some K' =>
        rw [y] at ih
        exact ⟨ih.1, fun f h4 => by rw [key f h4]; exact ih.2 f h4⟩
theorem runK_mk {laws : List Law} {a b parts : Nat} (hp : parts ≤ 2) (hq : ∀ q ∈ laws, okLaw parts q) (ha : a < 625) (hb : b < 625) : (runK laws (dig3 a b)).map (fun K => K 0) = mkK laws a b := by
  have h := runK_ok hp laws (dig3 a b) hq (fun i => by unfold dig3; split; exact ha; split; exact hb; omega)
  have e : ∀ f, (fun i => dg (dig3 a b i) f) = dig3 (dg a f) (dg b f) := fun f => by
    funext i; unfold dig3; split
    · rfl
    · split
      · rfl
      · exact dg_0 f
  cases z : runK laws (dig3 a b) with
  | none =>
    rw [z] at h
    obtain ⟨f, h4, hf⟩ := h
    rw [e f] at hf
    have w : wDig f laws (dg a f) (dg b f) = none := by unfold wDig; rw [hf]; rfl
    unfold mkK
    have : f = 0 ∨ f = 1 ∨ f = 2 ∨ f = 3 := by omega
    rcases this with rfl | rfl | rfl | rfl <;> (rw [w]; show none = _; split <;> simp_all)
  | some K =>
    rw [z] at h
    have w : ∀ f, f < 4 → wDig f laws (dg a f) (dg b f) = some (dg (K 0) f) := fun f h4 => by
      have := h.2 f h4
      rw [e f] at this
      unfold wDig; rw [this]; rfl
    unfold mkK
    rw [w 0 (by omega), w 1 (by omega), w 2 (by omega), w 3 (by omega)]
    show some (K 0) = some _
    rw [dg_sum _ (h.1 0)]
theorem law_dec : ∀ (b : Bool) (f : Nat), f < 4 → ∀ s, s < 3 → ∀ v, v < 4 → (((nI (lawC (b, f, s, v))) >>> ((6 : Int32) &&& 31)) &&& 3 = nI f ∧ ((nI (lawC (b, f, s, v))) >>> ((4 : Int32) &&& 31)) &&& 3 = nI s ∧ (nI (lawC (b, f, s, v))) &&& 3 = nI v ∧ (nI (lawC (b, f, s, v)) < (1024 : Int32) ↔ b = true)) := by decide +kernel
theorem vm1 {a : Nat} (h : a ≤ 4) : (nI a - 1 = (-1 : Int32)) ↔ a = 0 := by
  have : ∀ a, a < 5 → ((nI a - 1 = (-1 : Int32)) ↔ a = 0) := by decide +kernel
  exact this a (by omega)
theorem vmm {a b : Nat} (ha : a ≤ 4) (hb : b ≤ 4) : (nI a - 1 = nI b - 1) ↔ a = b := by
  have : ∀ a, a < 5 → ∀ b, b < 5 → ((nI a - 1 = nI b - 1) ↔ a = b) := by decide +kernel
  exact this a (by omega) b (by omega)
theorem vmv {a b : Nat} (ha : a ≤ 4) (hb : b < 4) : (nI a - 1 = nI b) ↔ a = b + 1 := by
  have : ∀ a, a < 5 → ∀ b, b < 4 → ((nI a - 1 = nI b) ↔ a = b + 1) := by decide +kernel
  exact this a (by omega) b (by omega)
theorem vms {a : Nat} (ha : 1 ≤ a) : nI a - 1 = nI (a - 1) := sub_n ha
section M13
variable {l : Launch} {J : Nat → Int64} {A : Nat → Nat → Int32} {B : Nat → Nat → Int64} {Q : Option Value → XW → Prop} {d : Nat} {I : Nat → Int32}
theorem s_made (hd : 3 ≤ d) {x1 x2 x3 : Int32} {r a b : Nat} {R : Rule} (hx1 : x1 = nI r) (hr : r < 30) (hx2 : x2 = nI a) (ha : a < 625) (hx3 : x3 = nI b) (hb : b < 625) (hR : okR R) (hA : rulAt A r R)
    (hQ : ∀ A' : Nat → Nat → Int32, (∀ p, p ≠ 14 → A' p = A p) → Q (some (.int (o2i (mkK R.2.2.2.1 a b)))) (wM I J A' B)) : xK l d 150 [.ref 0, .int x1, .int x2, .int x3] (wM I J A B) Q := by
  obtain ⟨d, rfl⟩ : ∃ e, d = e + 1 := ⟨d - 1, by omega⟩
  have hp : (if R.2.2.1 = none then 1 else 2) ≤ 2 := by split <;> omega
  have hql := hR.2.2.2.2.1
  have h8 := hR.2.2.2.1
  generalize hparts : (if R.2.2.1 = none then 1 else 2) = parts at hp hql
  have hmk := runK_mk hp hql ha hb
  have loop : ∀ m k K (A1 : Nat → Nat → Int32), R.2.2.2.1.length - k < m → k ≤ R.2.2.2.1.length → (∀ i, K i < 625) → (∀ i, i < 3 → A1 14 i = nI (K i)) → (runK (R.2.2.2.1.drop k) K).map (fun K => K 0) = mkK R.2.2.2.1 a b → (∀ p, p ≠ 14 → A1 p = A p) → xG l d 150 Q 24 [some (.ref 0), some (.int x1), none, none, some (.int (nI k)), none, none, none, none, none, none] [] (wM I J A1 B) 0 0 := by
    intro m
    induction m with
    | zero => intro k K A1 hm; omega
    | succ m ih =>
      intro k K A1 hm hk hK hs hrun hA1
      subst hx1
      have e9 : A1 9 (nI r).toNatClampNeg = nI R.2.2.2.1.length := by rw [hA1 9 (by decide), cl_n (by omega)]; exact hA.2.2.2.1
      refine b_X11_made_24 ⟨xin_n (by omega) (by omega), if_le e9 rfl (by omega) (by omega) (fun z => ⟨by decide, ?_⟩) (fun z => ?_)⟩
      · have hkl : k = R.2.2.2.1.length := by omega
        rw [hkl, List.drop_length] at hrun
        have e0 : A1 14 ((0 : Int32)).toNatClampNeg = nI (K 0) := hs 0 (by omega)
        rw [e0]
        have := hQ A1 hA1
        rw [← hrun] at this
        exact this
      · have hd2 : R.2.2.2.1.drop k = R.2.2.2.1.getD k (true, 0, 0, 0) :: R.2.2.2.1.drop (k + 1) := by
          rw [gD_lt z]; exact List.drop_eq_getElem_cons z
        have hqm : R.2.2.2.1.getD k (true, 0, 0, 0) ∈ R.2.2.2.1 := by rw [gD_lt z]; exact List.getElem_mem z
        have hcode : A1 11 (8 * nI r + nI k).toNatClampNeg = nI (lawC (R.2.2.2.1.getD k (true, 0, 0, 0))) := by
          rw [show (8 : Int32) * nI r + nI k = nI (8 * r + k) from add_of (mul_of (a := 8) rfl rfl) rfl, cl_n (by omega), hA1 11 (by decide)]; exact hA.2.2.2.2 k z
        rw [hd2] at hrun
        generalize R.2.2.2.1.getD k (true, 0, 0, 0) = q at hd2 hqm hcode hrun
        obtain ⟨bb, f, s, v⟩ := q
        have hok := hql _ hqm
        have hf4 : f < 4 := by have := hok.1; simp only at this; omega
        have hs3 : s < 3 := by have := hok.2.1; simp only at this; omega
        have hv : v ≤ (if bb = true then parts else 3) := hok.2.2.1
        have hv4 : v < 4 := by revert hv; split <;> omega
        have hne : bb = true → v ≠ s := hok.2.2.2
        obtain ⟨d1, d2, d3, d4⟩ := law_dec bb f hf4 s hs3 v hv4
        have nxt : ∀ {K' : Nat → Nat} {A2 : Nat → Nat → Int32}, (∀ i, K' i < 625) → (∀ i, i < 3 → A2 14 i = nI (K' i)) → (runK (R.2.2.2.1.drop (k + 1)) K').map (fun K => K 0) = mkK R.2.2.2.1 a b → (∀ p, p ≠ 14 → A2 p = A p) → xG l d 150 Q 24 [some (.ref 0), some (.int (nI r)), none, none, some (.int (nI k + 1)), none, none, none, none, none, none] [] (wM I J A2 B) 0 0 := by
          intro K' A2 u1 u2 u3 u4
          rw [nI_1]
          exact ih (k + 1) K' A2 (by omega) (by omega) u1 u2 u3 u4
        refine ⟨xin_of (add_of (mul_of (a := 8) rfl rfl) rfl) (by omega) (by omega), ?_⟩
        rw [hcode, d1, d2]
        refine ⟨xin_n hs3 (by omega), s_valueIn (by omega) (by rw [cl_n (by omega)]; exact hs s hs3) (hK s) rfl hf4 (b_X11_made_78 ?_)⟩
        rw [d3]
        have du : runK ((bb, f, s, v) :: R.2.2.2.1.drop (k + 1)) K = match obD (bb, f, s, v) (fun i => dg (K i) f) with
          | none => none
          | some D => runK (R.2.2.2.1.drop (k + 1)) (fun i => setd (K i) f (D i)) := rfl
        rw [du] at hrun
        unfold obD at hrun
        simp only at hrun
        have la := dg_le (K s) f
        have lb := dg_le (K v) f
        have put : ∀ {i w : Nat} {A2 : Nat → Nat → Int32} {K1 : Nat → Nat}, i < 3 → (∀ i, i < 3 → A2 14 i = nI (K1 i)) → ∀ i', i' < 3 → (va_up A2 14 (upd (A2 14) (nI i).toNatClampNeg (nI w))) 14 i' = nI (if i' = i then w else K1 i') := by
          intro i w A2 K1 hi h2 i' hi'
          rw [ue_v, cl_n (by omega)]
          by_cases c : i' = i
          · rw [if_pos c, c, ue_i]
          · rw [if_neg c, un_i c]; exact h2 i' hi'
        cases bb with
        | true =>
          simp only [if_true] at hv hrun
          have hv3 : v < 3 := by omega
          have hvs : v ≠ s := hne rfl
          rw [if_pos (d4.mpr rfl)]
          refine ⟨xin_n hv3 (by omega), s_valueIn (by omega) (by rw [cl_n (by omega)]; exact hs v hv3) (hK v) rfl hf4 (b_X11_made_151 ?_)⟩
          by_cases za : dg (K s) f = 0
          · have xa : nI (dg (K s) f) - 1 = (-1 : Int32) := (vm1 la).mpr za
            by_cases zb : dg (K v) f = 0
            · have xb : nI (dg (K v) f) - 1 = (-1 : Int32) := (vm1 lb).mpr zb
              simp only [if_pos xa, if_pos xb]
              rw [if_neg (fun h => h.1 za)] at hrun
              refine nxt hK hs ?_ hA1
              rw [← hrun]
              congr 2
              funext i
              show K i = setd (K i) f (if i = s ∨ (True ∧ i = v) then (if dg (K s) f ≠ 0 then dg (K s) f else dg (K v) f) else dg (K i) f)
              rw [if_neg (show ¬ dg (K s) f ≠ 0 by simpa using za)]
              by_cases c : i = s ∨ (True ∧ i = v)
              · rw [if_pos c, zb]
                rcases c with c | c
                · have := setd_dg _ (hK i) f hf4; rw [c] at this ⊢; rw [za] at this; exact this.symm
                · have := setd_dg _ (hK i) f hf4; rw [c.2] at this ⊢; rw [zb] at this; exact this.symm
              · rw [if_neg c, setd_dg _ (hK i) f hf4]
            · have xb : ¬ nI (dg (K v) f) - 1 = (-1 : Int32) := fun h => zb ((vm1 lb).mp h)
              simp only [if_pos xa, if_neg xb]
              rw [if_neg (fun h => h.1 za)] at hrun
              refine ⟨xin_n hs3 (by omega), s_with (by omega) (by rw [cl_n (by omega)]; exact hs s hs3) (hK s) rfl hf4 (vms (by omega)) (by omega) (b_X11_made_206 ⟨xin_n hs3 (by omega), ?_⟩)⟩
              simp only [if_pos xa, if_neg xb]
              rw [show dg (K v) f - 1 + 1 = dg (K v) f by omega]
              refine nxt (K' := fun i => if i = s then setd (K s) f (dg (K v) f) else K i) (fun i => ?_) (put hs3 hs) ?_ (fun p hp => by rw [un_v hp]; exact hA1 p hp)
              · show (if i = s then _ else _) < 625
                split
                · exact setd_lt _ (hK s) _ hf4 _ (by omega)
                · exact hK i
              · rw [← hrun]
                congr 2
                funext i
                show (if i = s then setd (K s) f (dg (K v) f) else K i) = setd (K i) f (if i = s ∨ (True ∧ i = v) then (if dg (K s) f ≠ 0 then dg (K s) f else dg (K v) f) else dg (K i) f)
                rw [if_neg (show ¬ dg (K s) f ≠ 0 by simpa using za)]
                by_cases c : i = s
                · rw [if_pos c, if_pos (Or.inl c), c]
                · rw [if_neg c]
                  by_cases c2 : i = v
                  · rw [if_pos (Or.inr ⟨trivial, c2⟩), ← c2, setd_dg _ (hK i) f hf4]
                  · rw [if_neg (by simp [c, c2]), setd_dg _ (hK i) f hf4]
          · have xa : ¬ nI (dg (K s) f) - 1 = (-1 : Int32) := fun h => za ((vm1 la).mp h)
            by_cases zb : dg (K v) f = 0
            · have xb : nI (dg (K v) f) - 1 = (-1 : Int32) := (vm1 lb).mpr zb
              simp only [if_neg xa, if_pos xb]
              rw [if_neg (fun h => h.2.1 zb)] at hrun
              refine ⟨xin_n hv3 (by omega), s_with (by omega) (by rw [cl_n (by omega)]; exact hs v hv3) (hK v) rfl hf4 (vms (by omega)) (by omega) (b_X11_made_239 ⟨xin_n hv3 (by omega), ?_⟩)⟩
              rw [show dg (K s) f - 1 + 1 = dg (K s) f by omega]
              refine nxt (K' := fun i => if i = v then setd (K v) f (dg (K s) f) else K i) (fun i => ?_) (put hv3 hs) ?_ (fun p hp => by rw [un_v hp]; exact hA1 p hp)
              · show (if i = v then _ else _) < 625
                split
                · exact setd_lt _ (hK v) _ hf4 _ (by omega)
                · exact hK i
              · rw [← hrun]
                congr 2
                funext i
                show (if i = v then setd (K v) f (dg (K s) f) else K i) = setd (K i) f (if i = s ∨ (True ∧ i = v) then (if dg (K s) f ≠ 0 then dg (K s) f else dg (K v) f) else dg (K i) f)
                rw [if_pos (show dg (K s) f ≠ 0 from za)]
                by_cases c : i = v
                · rw [if_pos c, if_pos (Or.inr ⟨trivial, c⟩), c]
                · rw [if_neg c]
                  by_cases c2 : i = s
                  · rw [if_pos (Or.inl c2), ← c2, setd_dg _ (hK i) f hf4]
                  · rw [if_neg (by simp [c, c2]), setd_dg _ (hK i) f hf4]
            · have xb : ¬ nI (dg (K v) f) - 1 = (-1 : Int32) := fun h => zb ((vm1 lb).mp h)
              by_cases zc : dg (K s) f = dg (K v) f
              · have xc : nI (dg (K s) f) - 1 = nI (dg (K v) f) - 1 := (vmm la lb).mpr zc
                simp only [if_neg xa, if_neg xb, if_pos xc]
                rw [if_neg (fun h => h.2.2 zc)] at hrun
                refine nxt hK hs ?_ hA1
                rw [← hrun]
                congr 2
                funext i
                show K i = setd (K i) f (if i = s ∨ (True ∧ i = v) then (if dg (K s) f ≠ 0 then dg (K s) f else dg (K v) f) else dg (K i) f)
                rw [if_pos (show dg (K s) f ≠ 0 from za)]
                by_cases c : i = s ∨ (True ∧ i = v)
                · rw [if_pos c]
                  rcases c with c | c
                  · rw [← c, setd_dg _ (hK i) f hf4]
                  · rw [zc, ← c.2, setd_dg _ (hK i) f hf4]
                · rw [if_neg c, setd_dg _ (hK i) f hf4]
              · have xc : ¬ nI (dg (K s) f) - 1 = nI (dg (K v) f) - 1 := fun h => zc ((vmm la lb).mp h)
                simp only [if_neg xa, if_neg xb, if_neg xc]
                rw [if_pos ⟨za, zb, zc⟩] at hrun
                have := hQ A1 hA1
                rw [← hrun] at this
                exact this
        | false =>
          simp only [Bool.false_eq_true, if_false] at hv hrun
          rw [if_neg (fun h => by have := d4.mp h; cases this)]
          have fin : ¬ (dg (K s) f ≠ 0 ∧ v + 1 ≠ 0 ∧ dg (K s) f ≠ v + 1) → (xin (nI s) 3 ∧ xK l d 141 [.int (A1 14 (nI s).toNatClampNeg), .int (nI f), .int (nI v)] (wM I J A1 B) (fun v9 w9 => xG l d 150 Q 129 [some (.ref 0), some (.int (nI r)), none, none, some (.int (nI k)), none, none, none, none, none, none] (v9.toList ++ [.int (nI s), .ref 14]) w9 0 0)) := by
            intro hc
            rw [if_neg hc] at hrun
            refine ⟨xin_n hs3 (by omega), s_with (by omega) (by rw [cl_n (by omega)]; exact hs s hs3) (hK s) rfl hf4 rfl hv4 (b_X11_made_129 ⟨xin_n hs3 (by omega), ?_⟩)⟩
            refine nxt (K' := fun i => if i = s then setd (K s) f (v + 1) else K i) (fun i => ?_) (put hs3 hs) ?_ (fun p hp => by rw [un_v hp]; exact hA1 p hp)
            · show (if i = s then _ else _) < 625
              split
              · exact setd_lt _ (hK s) _ hf4 _ (by omega)
              · exact hK i
            · rw [← hrun]
              congr 2
              funext i
              show (if i = s then setd (K s) f (v + 1) else K i) = setd (K i) f (if i = s ∨ (False ∧ i = v) then (if dg (K s) f ≠ 0 then dg (K s) f else v + 1) else dg (K i) f)
              by_cases c : i = s
              · rw [if_pos c, if_pos (Or.inl c), c]
                by_cases c0 : dg (K s) f = 0
                · rw [if_neg (by simpa using c0)]
                · rw [if_pos c0]
                  have : dg (K s) f = v + 1 := by
                    apply Classical.byContradiction; intro q; exact hc ⟨c0, by omega, q⟩
                  rw [this]
              · rw [if_neg c, if_neg (by simp [c]), setd_dg _ (hK i) f hf4]
          by_cases za : dg (K s) f = 0
          · rw [if_pos ((vm1 la).mpr za)]
            exact fin (fun h => h.1 za)
          · rw [if_neg (fun h => za ((vm1 la).mp h))]
            by_cases zc : dg (K s) f = v + 1
            · rw [if_pos ((vmv la hv4).mpr zc)]
              exact fin (fun h => h.2.2 zc)
            · rw [if_neg (fun h => zc ((vmv la hv4).mp h))]
              rw [if_pos ⟨za, by omega, zc⟩] at hrun
              have := hQ A1 hA1
              rw [← hrun] at this
              exact this
  refine e_X11_made ⟨by decide, by decide, by decide, loop _ 0 (dig3 a b) _ (Nat.lt_succ_self _) (by omega) (fun i => ?_) (fun i hi => ?_) (by rw [List.drop_zero]; exact hmk) (fun p hp => un_v hp)⟩
  · unfold dig3; split; exact ha; split; exact hb; omega
  · rw [ue_v]
    have : i = 0 ∨ i = 1 ∨ i = 2 := by omega
    rcases this with rfl | rfl | rfl
    · rfl
    · exact hx2
    · exact hx3
end M13
