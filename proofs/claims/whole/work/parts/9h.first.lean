/-! ===== the reference by cost: first ===== -/
theorem fd_cons {g : Gram} {o : Own} {ws : List (List Nat)} {i j c : Nat} {wt : Nat → Int} {L : Int} (p : Opt) (M : List Opt) {ab : Bool} (hab : decide (vO true g (ch g o ws) wt i j p = L - o c i j) = ab) : fdC g o ws i j c wt L (p :: M) = if ab = true then some p else fdC g o ws i j c wt L M := by
  unfold fdC
  rw [List.find?_cons, hab]
  cases ab <;> rfl
section M30
variable {l : Launch} {g : Gram} {D : List (Nat × Nat × Nat)} {ws : List (List Nat)}
set_option maxHeartbeats 2000000 in
theorem s_first : ∀ f d, 2 * f + 10 ≤ d → FSc l g D ws d f := by
  intro f
  induction f with
  | zero =>
    intro d hd Q I J A B x1 x2 x3 x4 i j c wt L row z s nds h1 h2 h3 h4 hj hpre
    have := hpre.2.2.2.1
    omega
  | succ f ih =>
    intro d hd Q I J A B x1 x2 x3 x4 i j c wt L row z s nds h1 h2 h3 h4 hj hpre hpk hrow hz hsC hrw h39 hQ
    obtain ⟨d, rfl⟩ : ∃ e, d = e + 2 := ⟨d - 2, by omega⟩
    have ihp := ih d (by omega)
    subst h1; subst h2; subst h3; subst h4
    have hsC0 := hsC
    obtain ⟨⟨hg, h22, h23, hes, hrs, h14, hsd, hch⟩, hkn, hdr, hd40, hdb⟩ := hsC
    have ho := oD_B D
    have h40 := hes.1
    have h30 := hrs.1
    have hpre0 := hpre
    obtain ⟨hij, hj14, hc16, hf1, ⟨K, hK0, hw, hKf⟩, hL⟩ := hpre
    have hK5 : K ≤ 500000 := by omega
    have hob := ho c i j
    have hcV := hch i j hij hj
    have hkV := hkn i j hij hj
    have hbV := cB_ch hg ho ws hij hj14
    have lV := hcV.1
    obtain ⟨op, s', nds', _, hfd, hpk', hres, hcase⟩ := pkC_st hg h40 h30 ho (pkC_ok hg h40 h30 ho ws f) hpre0 0 row
    rw [hpk] at hpk'
    obtain ⟨q1, _, q3⟩ := tri_inj hpk'
    subst q1; subst q3
    -- what is left to choose from leads to the same choice
    have rules : ∀ m r (A1 : Nat → Nat → Int32) (B1 : Nat → Nat → Int64), g.2.1.length - r < m → r ≤ g.2.1.length → fP row z I J A B I J A1 B1 → fdC g (oD D) ws i j c wt L (oR g i j c r) = some op → xG l (d + 1) 182 Q 134 [some (.ref 0), some (.int (nI i)), some (.int (nI j)), some (.int (nI c)), some (.int (nI row)), none, none, some (.int (nI r)), none] [] (wM I J A1 B1) 0 0 := by
      intro m
      induction m with
      | zero => intro r A1 B1 hm; omega
      | succ m ihm =>
        intro r A1 B1 hm hr hf hG
        refine b_X11_first_134 (if_le h23 rfl (by omega) (by omega) (fun z1 => ?_) (fun z1 => ?_))
        · rw [oR_end z1] at hG; cases hG
        · have hRA : rulAt A r (g.2.1.getD r dR) := by have := (hrs.2 r z1).2; rwa [Nat.zero_add] at this
          have hRk := (hrs.2 r z1).1
          have hra : ∀ {A2 : Nat → Nat → Int32}, (∀ p, p ≠ 14 → (p < 21 ∨ 25 < p) → A2 p = A p) → rulAt A2 r (g.2.1.getD r dR) := fun hA' => rulAt_fr hRA (fun p a b => hA' p (by omega) (by omega))
          rw [oR_step z1] at hG
          unfold oR1 at hG
          have hvN : ∀ mm, vO true g (ch g (oD D) ws) wt i j ((r : Int), mm) = vlG true (g.2.1.getD r dR) (ch g (oD D) ws i mm) (ch g (oD D) ws mm j) wt (sL (ch g (oD D) ws i mm)) := fun mm => vO_r true (ch g (oD D) ws) r mm
          generalize hRe : g.2.1.getD r dR = R at hRA hRk hra hG hvN
          have hRA1 := hra hf.1
          have hRA10 := hRA1.1
          have hRA12 := hRA1.2.2.1
          have hRc := hRk.1
          rw [cl_n (by omega), hRA10, hRA12]
          have next : ∀ (A2 : Nat → Nat → Int32) (B2 : Nat → Nat → Int64), fP row z I J A B I J A2 B2 → fdC g (oD D) ws i j c wt L (oR g i j c (r + 1)) = some op → xG l (d + 1) 182 Q 134 [some (.ref 0), some (.int (nI i)), some (.int (nI j)), some (.int (nI c)), some (.int (nI row)), none, none, some (.int (nI r + 1)), none] [] (wM I J A2 B2) 0 0 := fun A2 B2 hf2 hG2 => by
            rw [nI_1]; exact ihm (r + 1) A2 B2 (by omega) (by omega) hf2 hG2
          have one : ∀ mm (A2 : Nat → Nat → Int32) (B2 : Nat → Nat → Int64) (M : List Opt), R.1 = c → ((R.2.2.1 = none ∧ mm = j) ∨ (R.2.2.1 ≠ none ∧ i < mm ∧ mm < j)) → fP row z I J A B I J A2 B2 → fdC g (oD D) ws i j c wt L (((r : Int), mm) :: M) = some op → (∀ (A3 : Nat → Nat → Int32) (B3 : Nat → Nat → Int64), fP row z I J A B I J A3 B3 → fdC g (oD D) ws i j c wt L M = some op → xG l (d + 1) 182 Q 177 [some (.ref 0), some (.int (nI i)), some (.int (nI j)), some (.int (nI c)), some (.int (nI row)), none, none, some (.int (nI r)), some (.int (nI mm + 1))] [] (wM I J A3 B3) 0 0) → xK l (d + 1) 183 [.ref 0, .int (nI i), .int (nI j), .int (nI mm), .int (nI r), .int (nI row)] (wM I J A2 B2) (fun v9 w9 => xG l (d + 1) 182 Q 212 [some (.ref 0), some (.int (nI i)), some (.int (nI j)), some (.int (nI c)), some (.int (nI row)), none, none, some (.int (nI r)), some (.int (nI mm))] (v9.toList ++ []) w9 0 0) := by
            intro mm A2 B2 M hcc hmm hf2 hG2 cont
            have hsC2 := sC_fr hsC0 hf2.2.2.2.2.1 hf2.1 hf2.2.2.1
            obtain ⟨ab, hab⟩ : ∃ ab, decide (vlG true R (ch g (oD D) ws i mm) (ch g (oD D) ws mm j) wt (sL (ch g (oD D) ws i mm)) = L - oD D R.1 i j) = ab := ⟨_, rfl⟩
            have hG3 := fd_cons (g := g) (o := oD D) (ws := ws) (i := i) (j := j) (c := c) (wt := wt) (L := L) ((r : Int), mm) M (ab := ab) (by rw [hvN mm, ← hcc]; exact hab)
            rw [hG2] at hG3
            rw [← hcc] at hrow hrw hL
            refine s_fof (f := f) (wt := wt) (L := L) (R := R) (u := s) (nA := nds) (by omega) rfl rfl rfl rfl rfl ihp hsC2 z1 hRe hij hj hmm hK5 hw hL hrow (fun q hq hcq => by rw [hf2.2.2.2.1 _ (by omega)]; exact hrw q hq hcq) h39 hz hab.symm (fun hlt => ?_) (fun hge A3 B3 hf3 => b_X11_first_212 ?_) (fun hlt I3 A3 B3 e39 e47 hnd hf3 => b_X11_first_212 ?_)
            · rw [if_pos hlt] at hG3
              have hopr : ((r : Int), mm) = op := (Option.some.inj hG3).symm
              rcases hcase with ⟨e, _, he, _⟩ | ⟨r', hr', he, hc', h4⟩
              · rw [← hopr] at he
                have he1 : (r : Int) = (-1 - (e : Int)) := congrArg Prod.fst he
                omega
              · rw [← hopr] at he h4
                have he1 : (r : Int) = (r' : Int) := he
                have he2 : r' = r := by omega
                subst he2
                rw [hRe, ← hcc] at h4
                rcases h4 with ⟨s1, nds1, k1, k2, k3, k4, k5, k6, k7⟩ | ⟨c2, s1, nds1, t, nds2, k1, k2, k3, k4, k5, k6, k7, k8, k9, k10, k11⟩
                · exact Or.inl ⟨s1, nds1, k1, k3, k4, k5.2.2.1, k6, k7⟩
                · exact Or.inr ⟨c2, s1, nds1, t, nds2, k1, k4, k5, k6.2.2.1, k6.1, k6.2.1, k6.2.2.2.2.1, k7, k8, k9.2.2.1, k10, k11⟩
            · rw [if_pos rfl]
              rw [if_neg (by rw [hge]; decide)] at hG3
              exact cont A3 B3 (fP_trans hf2 hf3 (Nat.le_refl _) (Nat.le_refl _)) hG3.symm
            · rw [if_neg (by decide)]
              exact hQ I3 A3 B3 e39 e47 hnd (fP_trans hf2 hf3 (Nat.le_refl _) (Nat.le_refl _))
          refine ⟨xin_n (by omega) (by omega), if_eq rfl rfl (by omega) (by omega) (fun e => ⟨xin_n (by omega) (by omega), if_if (o2i_iff hRk.2.2.1) (fun e2 => ?_) (fun e2 => ?_)⟩) (fun e => ?_)⟩
          · -- of one part
            rw [if_pos e, if_pos e2] at hG
            refine b_X11_first_177 ⟨xin_n (by omega) (by omega), ?_⟩
            rw [cl_n (by omega), hRA12, e2, if_pos (show o2i none = -1 from rfl), nI_1]
            refine if_le rfl rfl (by omega) (by omega) (fun q => absurd q (by omega)) (fun _ => one j A1 B1 _ e (Or.inl ⟨e2, rfl⟩) hf hG (fun A3 B3 hf3 hG3 => b_X11_first_177 ⟨xin_n (by omega) (by omega), ?_⟩))
            rw [cl_n (by omega), (hra hf3.1).2.2.1, e2, if_pos (show o2i none = -1 from rfl), nI_1]
            exact if_le rfl rfl (by omega) (by omega) (fun _ => next A3 B3 hf3 hG3) (fun q => absurd q (by omega))
          · -- of two parts
            rw [if_pos e, if_neg e2, oM_0] at hG
            obtain ⟨c2, hc2⟩ : ∃ c2, R.2.2.1 = some c2 := by
              cases q : R.2.2.1 with
              | none => exact absurd q e2
              | some c2 => exact ⟨c2, rfl⟩
            have hc216 := hRk.2.2.1 c2 hc2
            have splits : ∀ p mm (A2 : Nat → Nat → Int32) (B2 : Nat → Nat → Int64), j - mm < p → i < mm → mm ≤ j → fP row z I J A B I J A2 B2 → fdC g (oD D) ws i j c wt L (oM r mm j ++ oR g i j c (r + 1)) = some op → xG l (d + 1) 182 Q 177 [some (.ref 0), some (.int (nI i)), some (.int (nI j)), some (.int (nI c)), some (.int (nI row)), none, none, some (.int (nI r)), some (.int (nI mm))] [] (wM I J A2 B2) 0 0 := by
              intro p
              induction p with
              | zero => intro mm A2 B2 hp; omega
              | succ p ihp2 =>
                intro mm A2 B2 hp hmm0 hmm hf2 hG2
                refine b_X11_first_177 ⟨xin_n (by omega) (by omega), ?_⟩
                rw [cl_n (by omega), (hra hf2.1).2.2.1, hc2, show o2i (some c2) = nI c2 from rfl, if_neg (ne_m1 (by omega))]
                refine if_le rfl rfl (by omega) (by omega) (fun q => ?_) (fun q => ?_)
                · rw [oM_end q, List.nil_append] at hG2
                  exact next A2 B2 hf2 hG2
                · rw [oM_step q, List.cons_append] at hG2
                  refine one mm A2 B2 _ e (Or.inr ⟨e2, hmm0, q⟩) hf2 hG2 (fun A3 B3 hf3 hG3 => ?_)
                  rw [nI_1]
                  exact ihp2 (mm + 1) A3 B3 (by omega) (by omega) (by omega) hf3 hG3
            rw [nI_1]
            exact splits _ (i + 1) A1 B1 (Nat.lt_succ_self _) (by omega) (by omega) hf hG
          · rw [if_neg e, List.nil_append] at hG
            exact next A1 B1 hf hG
    have f0 : fP row z I J A B I J A B := ⟨fun _ _ _ => rfl, fun _ _ _ _ => rfl, fun _ _ => rfl, fun _ _ => rfl, fun _ _ _ => rfl, fun _ _ => rfl⟩
    have ents : ∀ m e, g.1.length - e < m → e ≤ g.1.length → (j ≠ i + 1 → e = 0) → fdC g (oD D) ws i j c wt L ((if j = i + 1 then oE g (ws.getD i []) c e else []) ++ oR g i j c 0) = some op → xG l (d + 1) 182 Q 19 [some (.ref 0), some (.int (nI i)), some (.int (nI j)), some (.int (nI c)), some (.int (nI row)), some (.int (nI (15 * i + j))), some (.int (iC (oD D c i j))), some (.int (nI e)), none] [] (wM I J A B) 0 0 := by
      intro m
      induction m with
      | zero => intro e hm; omega
      | succ m ihm =>
        intro e hm he hne hG
        refine b_X11_first_19 (if_le h22 rfl (by omega) (by omega) (fun z1 => ?_) (fun z1 => if_eq (b := i + 1) rfl (nI_1 i) (by omega) (by omega) (fun q => ?_) (fun q => ?_)))
        · refine rules _ 0 A B (Nat.lt_succ_self _) (by omega) f0 ?_
          rw [oE_end z1] at hG
          rw [show (if j = i + 1 then ([] : List Opt) else []) = [] by split <;> rfl] at hG
          exact hG
        · rw [if_pos q] at hG
          have hE1 := (hes.2 e z1).1
          have hEA : entAt A B e (g.1.getD e dE) := by have := (hes.2 e z1).2; rwa [Nat.zero_add] at this
          have hin := fun (hcat : (g.1.getD e dE).2.1 = c) (hwd : (g.1.getD e dE).1 = ws.getD i []) => lowE (o := oD D) hg z1 q hcat hwd
          have hvE : vO true g (ch g (oD D) ws) wt i j ((-1 - (e : Int)), 0) = wt (eSg (g.1.getD e dE)) := vO_e true (ch g (oD D) ws) e 0
          rw [oE_step z1] at hG
          have hcE : Imp (op = ((-1 - (e : Int)), 0)) (s = eSg (g.1.getD e dE) ∧ nds = [(eSg (g.1.getD e dE), i, j, (-1 - (e : Int)), row)]) := fun ho2 => by
            rcases hcase with ⟨e', _, he, _, _, r1, r2⟩ | ⟨r', hr', he, _⟩
            · rw [ho2] at he
              have he1 : (-1 - (e : Int)) = (-1 - (e' : Int)) := congrArg Prod.fst he
              have he2 : e' = e := by omega
              subst he2
              exact ⟨r1, r2⟩
            · rw [ho2] at he
              have he1 : (-1 - (e : Int)) = (r' : Int) := he
              omega
          generalize g.1.getD e dE = E at hE1 hEA hin hvE hG hcE
          have hin : Imp (E.2.1 = c ∧ E.1 = ws.getD i []) ((ch g (oD D) ws i j (eSg E)).isSome = true ∧ cy (ch g (oD D) ws i j (eSg E)) ≤ oD D c i j) := fun q => hin q.1 q.2
          have next : fdC g (oD D) ws i j c wt L (oE g (ws.getD i []) c (e + 1) ++ oR g i j c 0) = some op → xG l (d + 1) 182 Q 19 [some (.ref 0), some (.int (nI i)), some (.int (nI j)), some (.int (nI c)), some (.int (nI row)), some (.int (nI (15 * i + j))), some (.int (iC (oD D c i j))), some (.int (nI e + 1)), none] [] (wM I J A B) 0 0 := fun hG2 => by
            rw [nI_1]; exact ihm (e + 1) (by omega) (by omega) (fun hh => absurd q hh) (by rw [if_pos q]; exact hG2)
          have next : Imp _ _ := next
          have l1 := hE1.2.1
          have l2 := hE1.2.2
          have hwi := (hsd i (by omega)).1
          have hsaid := (hsd i (by omega)).2
          generalize hwd : ws.getD i [] = wd at hwi hsaid hin hG next
          rw [cl_n (by omega), cl_n (by omega), hEA.2.1, hEA.2.2]
          refine ⟨xin_n (by omega) (by omega), if_eq rfl rfl (by omega) (by omega) (fun e1 => ⟨xin_n (by omega) (by omega), xin_n (by omega) (by omega), if_if (show lg_cmp (B 2 e) (B 15 i) = 0 ↔ E.1 = wd from lg0.trans (by rw [hEA.1, hsaid]; exact nm_eq hE1.1 hwi)) (fun e2 => ⟨xin_n (by omega) (by omega), ?_⟩) (fun e2 => ?_)⟩) (fun e1 => ?_)⟩
          · rw [if_pos e1, if_pos e2] at hG
            have hsg : eSg E < 10000 := by unfold eSg; omega
            have hsc : eSg E / 625 = c := by unfold eSg; omega
            obtain ⟨hi1, hi2⟩ := hin ⟨e1, e2⟩
            have hl2 := hL.1 (eSg E) hi1 hsc
            rw [show (625 : Int32) * nI c + nI E.2.2 = nI (eSg E) by rw [← e1]; exact add_of (mul_of (a := 625) rfl rfl) rfl]
            refine s_isWanted (V := ch g (oD D) ws i j) (cc := c) (wt := wt) (L := L) (by omega) rfl (by omega) rfl (by omega) rfl hsg rfl (by omega) (by omega) hcV hkV hbV hi1 hsc hrw (b_X11_first_93 (if_bI rfl (fun ef => ?_) (fun ef => ?_)))
            · have ef := of_decide_eq_false ef
              have hG3 := fd_cons (g := g) (o := oD D) (ws := ws) (i := i) (j := j) (c := c) (wt := wt) (L := L) ((-1 - (e : Int)), 0) ([] ++ oE g wd c (e + 1) ++ oR g i j c 0) (ab := false) (by rw [hvE]; exact decide_eq_false (by omega))
              rw [if_neg (by decide)] at hG3
              exact next (hG3.symm.trans hG)
            · have ef := of_decide_eq_true ef
              have hG3 := fd_cons (g := g) (o := oD D) (ws := ws) (i := i) (j := j) (c := c) (wt := wt) (L := L) ((-1 - (e : Int)), 0) ([] ++ oE g wd c (e + 1) ++ oR g i j c 0) (ab := true) (by rw [hvE]; exact decide_eq_true (by omega))
              rw [if_pos rfl] at hG3
              obtain ⟨r1, r3⟩ := hcE (Option.some.inj (hG3.symm.trans hG)).symm
              have hl1 : nds.length = 1 := by rw [r3]; rfl
              refine s_nodeM (by omega) h39 (by omega) (b_X11_first_115 ⟨xin_n (by omega) (by omega), ?_⟩)
              rw [cl_n (by omega)]
              refine hQ _ _ B ?_ ?_ ?_ ⟨fun p a b => ?_, fun p x a b => ?_, fun _ _ => rfl, fun _ _ => rfl, fun x a b => ?_, fun _ _ => rfl⟩
              · rw [un_i (by decide), ue_i, hl1]
              · rw [ue_i, r1]
              · rw [r3]
                intro x hx
                have hx0 : x = 0 := by rw [List.length_singleton] at hx; omega
                subst hx0
                refine ⟨?_, ?_, ?_, ?_, ?_⟩
                · rw [ue_v]; exact ue_i _ _ _
                · rw [un_v (by decide), un_v (by decide), un_v (by decide), un_v (by decide), ue_v]; exact ue_i _ _ _
                · rw [un_v (by decide), un_v (by decide), un_v (by decide), ue_v]; exact ue_i _ _ _
                · rw [un_v (by decide), un_v (by decide), ue_v]
                  show upd _ z _ z = _
                  rw [ue_i]; exact (iC_e e).symm
                · rw [un_v (by decide), ue_v]; exact ue_i _ _ _
              · rw [un_v (by omega), un_v (by omega), un_v (by omega), un_v (by omega), un_v (by omega)]
              · by_cases c1 : p = 21
                · subst c1; rw [ue_v, un_i (by omega), un_v (by decide), un_v (by decide), un_v (by decide), un_v (by decide)]
                · rw [un_v c1]
                  by_cases c2 : p = 25
                  · subst c2; rw [ue_v, un_i (by omega)]
                  · rw [un_v c2]
                    by_cases c3 : p = 24
                    · subst c3; rw [ue_v, un_i (by omega)]
                    · rw [un_v c3]
                      by_cases c4 : p = 23
                      · subst c4; rw [ue_v, un_i (by omega)]
                      · rw [un_v c4]
                        by_cases c5 : p = 22
                        · subst c5; rw [ue_v, un_i (by omega)]
                        · rw [un_v c5]
              · rw [un_i b, un_i a]
          · rw [if_pos e1, if_neg e2, List.nil_append] at hG
            exact next hG
          · rw [if_neg e1, List.nil_append] at hG
            exact next hG
        · refine rules _ 0 A B (Nat.lt_succ_self _) (by omega) f0 ?_
          rw [if_neg q] at hG; exact hG
    refine e_X11_first (s_cell (by omega) rfl rfl (b_X11_first_5 (s_ownCost (by omega) hdr hd40 hdb rfl rfl rfl (by omega) (by omega) (by omega) (b_X11_first_14 ?_))))
    refine ents _ 0 (Nat.lt_succ_self _) (by omega) (fun _ => rfl) ?_
    unfold optL at hfd
    rw [oE_0, oR_0] at hfd
    exact hfd
end M30
