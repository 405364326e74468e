/-! ===== the class: rules of two parts ===== -/
theorem rulZ_fr {A A1 : Nat → Nat → Int32} {r : Nat} {R : Rule} (h : rulZ A r R) (f : ∀ p, 40 ≤ p → p ≤ 44 → A1 p = A p) : rulZ A1 r R := by
  unfold rulZ tabC at h ⊢
  rw [f 40 (by omega) (by omega), f 41 (by omega) (by omega), f 42 (by omega) (by omega), f 44 (by omega) (by omega)]; exact h
section C24
variable {l : Launch} {J : Nat → Int64} {Q : Option Value → XW → Prop} {d : Nat} {tgt cg fg : Value} {I : Nat → Int32} {A : Nat → Nat → Int32} {B : Nat → Nat → Int64}
set_option maxHeartbeats 1000000 in
theorem s_addByRule (hd : 3 ≤ d) {x1 x2 x3 : Int32} {r i j ca cb c2 : Nat} {R : Rule} {D : List (Nat × Nat × Nat)} {Va Vb V : Nat → Vl} (hx1 : x1 = nI r) (hr : r < 30) (hx2 : x2 = nI ca) (hx3 : x3 = nI cb) (ha : ca < 105) (hb : cb < 105) (hij : i < j) (hj : j ≤ 14) (hI : I 1908 = nI (cx i j)) (hac : ca ≠ cx i j) (hbc : cb ≠ cx i j) (hD : drX A D) (hR : okR R) (hRA : rulZ A r R) (h2 : R.2.2.1 = some c2)
    (hVa : cX A B ca Va) (hVb : cX A B cb Vb) (hra : rX A ca Va) (hrb : rX A cb Vb) (hbV : bV V) (hbb : ∀ p ∈ jOps (oD D) R i j Va Vb, -100000 ≤ p.2.2 ∧ p.2.2 ≤ 100000) (hV : cX A B (cx i j) V)
    (hE : ∀ (A' : Nat → Nat → Int32) (B' : Nat → Nat → Int64), 61 ≤ (sL (apv V (jOps (oD D) R i j Va Vb))).length → fcX (cx i j) A B A' B' → Q (some (.int 0)) (wC tgt (.ref 37) fg I J A' B'))
    (hO : ∀ (A' : Nat → Nat → Int32) (B' : Nat → Nat → Int64), cX A' B' (cx i j) (apv V (jOps (oD D) R i j Va Vb)) → fcX (cx i j) A B A' B' → Q (some (.int 1)) (wC tgt (.ref 37) fg I J A' B')) : xK l d 5 [.ref 19, .int x1, .int x2, .int x3] (wC tgt (.ref 37) fg I J A B) Q := by
  obtain ⟨d, rfl⟩ : ∃ e, d = e + 1 := ⟨d - 1, by omega⟩
  subst hx1; subst hx2; subst hx3
  have hc2 := hR.2.2.1 c2 h2
  have hf16 := hR.2.1
  have hw16 := hR.1
  have la := hVa.1
  have lb := hVb.1
  have hc := cx_lt hij hj
  have hown := oD_1 D R.1 i j
  generalize hcx : cx i j = c at hI hac hbc hV hE hO hc
  generalize hG : (fun (x y : Nat) => if some (y / 625) = R.2.2.1 then pOp (oD D R.1 i j) R x y (Va x) (Vb y) else []) = G
  generalize hF : (fun (x : Nat) => if x / 625 = R.2.1 then (sL Vb).flatMap (G x) else []) = F
  have hJ : jOps (oD D) R i j Va Vb = (sL Va).flatMap F := by rw [← hF, ← hG]; rfl
  rw [hJ] at hE hO hbb
  have hA1l := sL_le' (V := Va) (s := 625 * R.2.1) (by omega)
  have hA2l := sL_le' (V := Va) (s := 625 * (R.2.1 + 1)) (by omega)
  have hB1l := sL_le' (V := Vb) (s := 625 * c2) (by omega)
  have hB2l := sL_le' (V := Vb) (s := 625 * (c2 + 1)) (by omega)
  have hAm := ix_mono (V := Va) (show 625 * R.2.1 ≤ 625 * (R.2.1 + 1) by omega) (by omega)
  have hBm := ix_mono (V := Vb) (show 625 * c2 ≤ 625 * (c2 + 1) by omega) (by omega)
  have catA : ∀ p, p < (sL Va).length → ((sL Va).getD p 0 / 625 = R.2.1 ↔ ix Va (625 * R.2.1) ≤ p ∧ p < ix Va (625 * (R.2.1 + 1))) := fun p hp => cat_eq hf16 hp
  have catB : ∀ q, q < (sL Vb).length → ((sL Vb).getD q 0 / 625 = c2 ↔ ix Vb (625 * c2) ≤ q ∧ q < ix Vb (625 * (c2 + 1))) := fun q hq => cat_eq hc2 hq
  generalize e0 : ix Va (625 * R.2.1) = p0 at hA1l hAm catA
  generalize e1 : ix Va (625 * (R.2.1 + 1)) = p1 at hA2l hAm catA
  generalize e2 : ix Vb (625 * c2) = q0 at hB1l hBm catB
  generalize e3 : ix Vb (625 * (c2 + 1)) = q1 at hB2l hBm catB
  have hGn : ∀ x q, q < (sL Vb).length → ¬ (q0 ≤ q ∧ q < q1) → G x ((sL Vb).getD q 0) = [] := fun x q hq hn => by
    rw [← hG]; show (if _ then _ else _) = _
    rw [if_neg]; rw [h2]; intro w; injection w with w; exact hn ((catB q hq).mp w)
  have hFn : ∀ p, p < (sL Va).length → ¬ (p0 ≤ p ∧ p < p1) → F ((sL Va).getD p 0) = [] := fun p hp hn => by
    rw [← hF]; show (if _ then _ else _) = _
    rw [if_neg (fun w => hn ((catA p hp).mp w))]
  have inner : ∀ p, p < (sL Va).length → p0 ≤ p → p < p1 → (∀ (A1 : Nat → Nat → Int32) (B1 : Nat → Nat → Int64), cX A1 B1 c (apv V (((sL Va).take (p + 1)).flatMap F)) → fcX c A B A1 B1 → xG l d 5 Q 86 [some (.ref 19), some (.int (nI r)), none, none, some (.int (nI (60 * ca + p1))), some (.int (nI (60 * cb + q0))), some (.int (nI (60 * cb + q1))), some (.int (iC (oD D R.1 i j))), some (.int (nI (60 * ca + p) + 1)), none, none] [] (wC tgt (.ref 37) fg I J A1 B1) 0 0) → ∀ m q (A1 : Nat → Nat → Int32) (B1 : Nat → Nat → Int64), q1 - q < m → q0 ≤ q → q ≤ q1 → cX A1 B1 c (apv V (((sL Va).take p).flatMap F ++ ((sL Vb).take q).flatMap (G ((sL Va).getD p 0)))) → fcX c A B A1 B1 → xG l d 5 Q 97 [some (.ref 19), some (.int (nI r)), none, none, some (.int (nI (60 * ca + p1))), some (.int (nI (60 * cb + q0))), some (.int (nI (60 * cb + q1))), some (.int (iC (oD D R.1 i j))), some (.int (nI (60 * ca + p))), some (.int (nI (60 * cb + q))), none] [] (wC tgt (.ref 37) fg I J A1 B1) 0 0 := by
    intro p hp hp0 hp1 hnext m
    have hcat := (catA p hp).mpr ⟨hp0, hp1⟩
    have hFx : F ((sL Va).getD p 0) = (sL Vb).flatMap (G ((sL Va).getD p 0)) := by rw [← hF]; show (if _ then _ else _) = _; rw [if_pos hcat]
    have hin := sL_in hp
    induction m with
    | zero => intro q A1 B1 hm; omega
    | succ m ih =>
      intro q A1 B1 hm hq0 hq1 hcm hfr
      have hVa1 := cX_fr hVa hfr hac
      have hVb1 := cX_fr hVb hfr hbc
      have hRA1 : rulZ A1 r R := rulZ_fr hRA (fun p h1 h2 => hfr.1 p (by omega) (by omega) (by omega) (by omega))
      refine b_X0_addByRule_97 (if_le rfl rfl (by omega) (by omega) (fun z => ?_) (fun z => ?_))
      · refine hnext A1 B1 ?_ hfr
        rw [fm_snoc 0 hp, hFx, fm_tall (l := sL Vb) (F := G ((sL Va).getD p 0)) 0 (p := q) (fun k hk hkl => hGn _ k hkl (by omega))]; exact hcm
      · have hql : q < (sL Vb).length := by omega
        have hy := sL_in hql
        have hcq := (catB q hql).mpr ⟨hq0, by omega⟩
        rw [cl_n (by omega), cl_n (by omega), (hVa1.2.2 p hp).1, (hVb1.2.2 q hql).1]
        have next : ∀ (A2 : Nat → Nat → Int32) (B2 : Nat → Nat → Int64), cX A2 B2 c (apv V (((sL Va).take p).flatMap F ++ ((sL Vb).take (q + 1)).flatMap (G ((sL Va).getD p 0)))) → fcX c A B A2 B2 → xG l d 5 Q 97 [some (.ref 19), some (.int (nI r)), none, none, some (.int (nI (60 * ca + p1))), some (.int (nI (60 * cb + q0))), some (.int (nI (60 * cb + q1))), some (.int (iC (oD D R.1 i j))), some (.int (nI (60 * ca + p))), some (.int (nI (60 * cb + q) + 1)), none] [] (wC tgt (.ref 37) fg I J A2 B2) 0 0 := by
          intro A2 B2 k1 k2
          rw [nI_1]
          exact ih (q + 1) A2 B2 (by omega) (by omega) (by omega) k1 k2
        refine ⟨xin_n (by omega) (by omega), xin_n (by omega) (by omega), s_join (R := R) (by omega) rfl hr rfl hin.1 rfl hy.1 hR hRA1 (fun e => by rw [h2] at e; cases e) (b_X0_addByRule_126 ?_)⟩
        have hGxy : G ((sL Va).getD p 0) ((sL Vb).getD q 0) = pOp (oD D R.1 i j) R ((sL Va).getD p 0) ((sL Vb).getD q 0) (Va ((sL Va).getD p 0)) (Vb ((sL Vb).getD q 0)) := by
          rw [← hG]; show (if _ then _ else _) = _; rw [if_pos (by rw [hcq, h2])]
        cases hk : mkS R ((sL Va).getD p 0) ((sL Vb).getD q 0) with
        | none =>
          rw [if_pos (show o2c none < 0 by decide)]
          refine next A1 B1 ?_ hfr
          rw [fm_snoc 0 hql, hGxy, show pOp (oD D R.1 i j) R ((sL Va).getD p 0) ((sL Vb).getD q 0) (Va ((sL Va).getD p 0)) (Vb ((sL Vb).getD q 0)) = [] by unfold pOp; rw [hk], List.append_nil]; exact hcm
        | some s =>
          have hs := mkS_in hR hk
          have hcl := cs_lt hs.1
          obtain ⟨va, hva⟩ := Option.isSome_iff_exists.mp hin.2
          obtain ⟨vb, hvb⟩ := Option.isSome_iff_exists.mp hy.2
          have hop : G ((sL Va).getD p 0) ((sL Vb).getD q 0) = [(s, (va.1 * vb.1, oD D R.1 i j + va.2 + vb.2))] := by
            rw [hGxy]; unfold pOp; rw [hk, hva, hvb]
          have hmem : (s, (va.1 * vb.1, oD D R.1 i j + va.2 + vb.2)) ∈ (sL Va).flatMap F := fm_at 0 hp (by rw [hFx]; exact fm_at 0 hql (by rw [hop]; exact List.mem_singleton.mpr rfl))
          have hdn : ∀ o ∈ ((sL Va).take p).flatMap F ++ ((sL Vb).take q).flatMap (G ((sL Va).getD p 0)), o ∈ (sL Va).flatMap F := fun o ho => by
            rcases List.mem_append.mp ho with w | w
            · exact fm_take w
            · exact fm_at 0 hp (by rw [hFx]; exact fm_take w)
          have hcb := hbb _ hmem
          have b1 := (hVa1.2.2 p hp).2
          have b2 := (hVb1.2.2 q hql).2
          rw [hva] at b1; rw [hvb] at b2
          rw [show o2c (some s) = nI (cs s) from rfl, if_neg (show ¬ nI (cs s) < 0 from nn_n (by omega)), cl_n (by omega), cl_n (by omega)]
          refine ⟨xin_n (by omega) (by omega), xin_n (by omega) (by omega), s_productOf (by omega) b1.1 b2.1 (b_X0_addByRule_153 ?_)⟩
          rw [cl_n (by omega), cl_n (by omega), b1.2, b2.2, iC_add, iC_add]
          refine ⟨xin_n (by omega) (by omega), xin_n (by omega) (by omega), ?_⟩
          refine s_addTrees (s := s) (n := va.1 * vb.1) (cst := oD D R.1 i j + va.2 + vb.2) (by omega) hI hc rfl hs.1 rfl rfl hcb.1 hcb.2 (bV_apv hbV (fun p hp => hbb p (hdn p hp))) hcm (fun hn h60 => b_X0_addByRule_174 ?_) (fun A3 B3 k1 k2 => b_X0_addByRule_174 ?_)
          · rw [if_pos rfl]
            exact ⟨Or.inl rfl, hE A1 B1 (apv_61 (op := (s, (va.1 * vb.1, oD D R.1 i j + va.2 + vb.2))) h60 hn hs.1 hdn hmem) hfr⟩
          · rw [if_neg (by decide)]
            refine next A3 B3 ?_ (fcX_trans hfr k2)
            rw [fm_snoc 0 hql, hop, ← List.append_assoc, ← apv_app]; exact k1
  have outer : ∀ m p (A1 : Nat → Nat → Int32) (B1 : Nat → Nat → Int64), p1 - p < m → p0 ≤ p → p ≤ p1 → cX A1 B1 c (apv V (((sL Va).take p).flatMap F)) → fcX c A B A1 B1 → xG l d 5 Q 86 [some (.ref 19), some (.int (nI r)), none, none, some (.int (nI (60 * ca + p1))), some (.int (nI (60 * cb + q0))), some (.int (nI (60 * cb + q1))), some (.int (iC (oD D R.1 i j))), some (.int (nI (60 * ca + p))), none, none] [] (wC tgt (.ref 37) fg I J A1 B1) 0 0 := by
    intro m
    induction m with
    | zero => intro p A1 B1 hm; omega
    | succ m ih =>
      intro p A1 B1 hm hp0 hp1 hcm hfr
      refine b_X0_addByRule_86 (if_le rfl rfl (by omega) (by omega) (fun z => ⟨Or.inr rfl, hO A1 B1 ?_ hfr⟩) (fun z => ?_))
      · rw [fm_tall (l := sL Va) (F := F) 0 (p := p) (fun k hk hkl => hFn k hkl (by omega))]; exact hcm
      · refine inner p (by omega) hp0 (by omega) (fun A2 B2 k1 k2 => ?_) _ q0 A1 B1 (Nat.lt_succ_self _) (Nat.le_refl _) hBm ?_ hfr
        · rw [nI_1]
          exact ih (p + 1) A2 B2 (by omega) (by omega) (by omega) k1 k2
        · rw [fm_tnil (l := sL Vb) (F := G ((sL Va).getD p 0)) 0 (p := q0) (fun k hk hkl => hGn _ k hkl (by omega)), List.append_nil]; exact hcm
  have a40 : A 40 (nI r).toNatClampNeg = nI R.1 := by rw [cl_n (by omega)]; exact hRA.1
  have a41 : A 41 (nI r).toNatClampNeg = nI R.2.1 := by rw [cl_n (by omega)]; exact hRA.2.1
  have a42 : A 42 (nI r).toNatClampNeg = nI c2 := by rw [cl_n (by omega), hRA.2.2.1, h2]; rfl
  refine e_X0_addByRule ⟨xin_n hr (by omega), s_behindLast (by omega) rfl ha a41 hf16 hra (b_X0_addByRule_14 ⟨xin_n hr (by omega), s_firstOf (by omega) rfl hb a42 hc2 hrb (b_X0_addByRule_30 ⟨xin_n hr (by omega), s_behindLast (by omega) rfl hb a42 hc2 hrb (b_X0_addByRule_46 ⟨xin_n hr (by omega), s_costOfNode (by omega) hD a40 hw16 (by rw [hI, ← hcx]) hij hj (b_X0_addByRule_68 ⟨xin_n hr (by omega), s_firstOf (by omega) rfl ha a41 hf16 hra (b_X0_addByRule_84 ?_)⟩)⟩)⟩)⟩)⟩
  rw [e0, e1, e2, e3]
  exact outer _ p0 A B (Nat.lt_succ_self _) (Nat.le_refl _) hAm (by rw [fm_tnil (l := sL Va) (F := F) 0 (p := p0) (fun k hk hkl => hFn k hkl (by omega)), apv_nil]; exact hV) (fcX_refl c A B)
theorem jOps_e1 {o : Own} {R : Rule} {i j : Nat} {Va Vb : Nat → Vl} (h : (sL Va).length = 0 ∨ (sL Vb).length = 0) : jOps o R i j Va Vb = [] := by
  unfold jOps
  rcases h with h | h
  · rw [List.length_eq_zero_iff.mp h]; rfl
  · rw [List.length_eq_zero_iff.mp h]
    refine fm_nil fun x _ => ?_
    split <;> rfl
theorem s_addPairs (hd : 4 ≤ d) {x1 x2 : Int32} {i j m : Nat} {rs : List Rule} {D : List (Nat × Nat × Nat)} {T : Nat → Nat → Nat → Vl} {V : Nat → Vl} (hx1 : x1 = nI (cx i m)) (hx2 : x2 = nI (cx m j)) (him : i < m) (hmj : m < j) (hj : j ≤ 14) (hI : I 1908 = nI (cx i j)) (hD : drX A D) (hrs : rulC I A rs)
    (hVa : cX A B (cx i m) (T i m)) (hVb : cX A B (cx m j) (T m j)) (hra : rX A (cx i m) (T i m)) (hrb : rX A (cx m j) (T m j)) (hbV : bV V) (hbb : ∀ p ∈ pairs rs (oD D) T i j m, -100000 ≤ p.2.2 ∧ p.2.2 ≤ 100000) (hV : cX A B (cx i j) V)
    (hE : ∀ (A' : Nat → Nat → Int32) (B' : Nat → Nat → Int64), 61 ≤ (sL (apv V (pairs rs (oD D) T i j m))).length → fcX (cx i j) A B A' B' → Q (some (.int 0)) (wC tgt (.ref 37) fg I J A' B'))
    (hO : ∀ (A' : Nat → Nat → Int32) (B' : Nat → Nat → Int64), cX A' B' (cx i j) (apv V (pairs rs (oD D) T i j m)) → fcX (cx i j) A B A' B' → Q (some (.int 1)) (wC tgt (.ref 37) fg I J A' B')) : xK l d 4 [.ref 19, .int x1, .int x2] (wC tgt (.ref 37) fg I J A B) Q := by
  obtain ⟨d, rfl⟩ : ∃ e, d = e + 1 := ⟨d - 1, by omega⟩
  subst hx1; subst hx2
  have h30 := hrs.2.1
  have ha := cx_lt him (show m ≤ 14 by omega)
  have hb := cx_lt hmj hj
  have hc := cx_lt (show i < j by omega) hj
  have hac : cx i m ≠ cx i j := fun e => by have := cx_inj him (show i < j by omega) e; omega
  have hbc : cx m j ≠ cx i j := fun e => by have := cx_inj hmj (show i < j by omega) e; omega
  generalize hF : (fun R : Rule => if R.2.2.1 = none then ([] : List Op) else jOps (oD D) R i j (T i m) (T m j)) = F
  have hL : pairs rs (oD D) T i j m = rs.flatMap F := by rw [← hF]; rfl
  rw [hL] at hE hO hbb
  have la := hVa.1
  have lb := hVb.1
  have triv : ((sL (T i m)).length = 0 ∨ (sL (T m j)).length = 0) → Q (some (.int 1)) (wC tgt (.ref 37) fg I J A B) := fun h => by
    refine hO A B ?_ (fcX_refl _ A B)
    rw [fm_nil (l := rs) (F := F) (fun R _ => by rw [← hF]; show (if _ then _ else _) = _; split; rfl; exact jOps_e1 h), apv_nil]; exact hV
  have loop : ∀ k r (A1 : Nat → Nat → Int32) (B1 : Nat → Nat → Int64), rs.length - r < k → r ≤ rs.length → cX A1 B1 (cx i j) (apv V ((rs.take r).flatMap F)) → fcX (cx i j) A B A1 B1 → xG l d 4 Q 22 [some (.ref 19), some (.int (nI (cx i m))), some (.int (nI (cx m j))), some (.int (nI r))] [] (wC tgt (.ref 37) fg I J A1 B1) 0 0 := by
    intro k
    induction k with
    | zero => intro r A1 B1 hm; omega
    | succ k ih =>
      intro r A1 B1 hm hr hcm hfr
      refine b_X0_addPairs_22 (if_le hrs.1 rfl (by omega) (by omega) (fun z => ⟨Or.inr rfl, hO A1 B1 ?_ hfr⟩) (fun z => ?_))
      · rw [List.take_of_length_le z] at hcm; exact hcm
      · have hR := (hrs.2.2 r z).1
        have hRA : rulZ A1 r (rs.getD r dR) := rulZ_fr (hrs.2.2 r z).2 (fun p h1 h2 => hfr.1 p (by omega) (by omega) (by omega) (by omega))
        have hsn := fm_snoc (F := F) dR z
        have hat : ∀ p ∈ F (rs.getD r dR), p ∈ rs.flatMap F := fun p hp => fm_at dR z hp
        generalize rs.getD r dR = R at hR hRA hsn hat
        have next : ∀ (A2 : Nat → Nat → Int32) (B2 : Nat → Nat → Int64), cX A2 B2 (cx i j) (apv V ((rs.take (r + 1)).flatMap F)) → fcX (cx i j) A B A2 B2 → xG l d 4 Q 22 [some (.ref 19), some (.int (nI (cx i m))), some (.int (nI (cx m j))), some (.int (nI r + 1))] [] (wC tgt (.ref 37) fg I J A2 B2) 0 0 := by
          intro A2 B2 k1 k2
          rw [nI_1]
          exact ih (r + 1) A2 B2 (by omega) (by omega) k1 k2
        refine s_isSingle1 (by omega) rfl (by omega) hRA.2.2.1 hR.2.2.1 (b_X0_addPairs_41 (if_bI rfl (fun e => ?_) (fun e => next A1 B1 ?_ hfr)))
        · obtain ⟨c2, hc2⟩ : ∃ c2, R.2.2.1 = some c2 := by
            cases q : R.2.2.1 with
            | none => rw [q] at e; cases e
            | some c2 => exact ⟨c2, rfl⟩
          have hFR : F R = jOps (oD D) R i j (T i m) (T m j) := by rw [← hF]; show (if _ then _ else _) = _; rw [if_neg (by rw [hc2]; intro w; cases w)]
          have hD1 : drX A1 D := fun a b p q => by rw [hfr.1 18 (by decide) (by decide) (by decide) (by decide)]; exact hD a b p q
          refine s_addByRule (R := R) (V := apv V ((rs.take r).flatMap F)) (by omega) rfl (by omega) rfl rfl ha hb (by omega) hj hI hac hbc hD1 hR hRA hc2 (cX_fr hVa hfr hac) (cX_fr hVb hfr hbc) (rX_fr hra hfr hac) (rX_fr hrb hfr hbc) (bV_apv hbV (fun p hp => hbb p (fm_take hp))) (fun p hp => hbb p (hat p (by rw [hFR]; exact hp))) hcm (fun A2 B2 h61 k2 => b_X0_addPairs_51 ?_) (fun A2 B2 k1 k2 => b_X0_addPairs_51 ?_)
          · rw [if_pos rfl]
            refine ⟨Or.inl rfl, hE A2 B2 (Nat.le_trans h61 (sL_mono fun x hx => ?_)) (fcX_trans hfr k2)⟩
            rw [apv_app] at hx
            refine apv_sub (fun p hp => ?_) hx
            rcases List.mem_append.mp hp with q | q
            · exact fm_take q
            · exact hat p (by rw [hFR]; exact q)
          · rw [if_neg (by decide)]
            refine next A2 B2 ?_ (fcX_trans hfr k2)
            rw [hsn, hFR, ← apv_app]; exact k1
        · rw [hsn, show F R = [] by rw [← hF]; show (if _ then _ else _) = _; rw [if_pos (by cases q : R.2.2.1 with | none => rfl | some c => rw [q] at e; cases e)], List.append_nil]; exact hcm
  refine e_X0_addPairs ⟨xin_n ha (by omega), ?_⟩
  rw [cl_n (by omega), hVa.2.1, cl_n (by omega), hVb.2.1]
  have hl := loop _ 0 A B (Nat.lt_succ_self _) (by omega) (by simpa [apv_nil] using hV) (fcX_refl _ A B)
  generalize (sL (T i m)).length = n1 at la triv
  generalize (sL (T m j)).length = n2 at lb triv
  exact if_eq (a := n1) rfl (b := 0) rfl (by omega) (by omega) (fun e => ⟨Or.inr rfl, triv (Or.inl e)⟩) (fun _ => ⟨xin_n hb (by omega), if_eq (a := n2) rfl (b := 0) rfl (by omega) (by omega) (fun e => ⟨Or.inr rfl, triv (Or.inr e)⟩) (fun _ => hl)⟩)
end C24
