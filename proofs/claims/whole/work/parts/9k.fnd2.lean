/-! ===== the class's finder: values ===== -/
def fSt (b : Bool) (g : Gram) (o : Own) (ws : List (List Nat)) (I : Nat → Int32) (A : Nat → Nat → Int32) (B : Nat → Nat → Int64) : Prop := gOk g ∧ ws.length ≤ 14 ∧ entC I A B g.1 ∧ rulC I A g.2.1 ∧ chX A B g o ws ∧ I 3109 = bI b ∧ (∀ k, k < ws.length → vNm (ws.getD k []) ∧ B 15 k = lN (c32 (ws.getD k []))) ∧ (b = true → oB o)
theorem fSt_o {b : Bool} {g : Gram} {o : Own} {ws : List (List Nat)} {I : Nat → Int32} {A : Nat → Nat → Int32} {B : Nat → Nat → Int64} (h : fSt b g o ws I A B) {i j : Nat} (hij : i < j) (hj : j ≤ ws.length) : oR2 b (ch g o ws i j) := by
  cases b with
  | true => exact cB_ch h.1 (h.2.2.2.2.2.2.2 rfl) ws hij (Nat.le_trans hj h.2.1)
  | false => trivial
section C32
variable {l : Launch} {J : Nat → Int64} {Q : Option Value → XW → Prop} {d : Nat} {tgt cg : Value} {I : Nat → Int32} {A : Nat → Nat → Int32} {B : Nat → Nat → Int64} {b : Bool} {g : Gram} {o : Own} {ws : List (List Nat)}
theorem s_weightOfFirst (hd : 4 ≤ d) (hS : fSt b g o ws I A B) {x1 x2 x3 x4 : Int32} {r k q z i m j : Nat} {R : Rule} {wt : Nat → Int} (hx1 : x1 = nI r) (hr : r < g.2.1.length) (hRe : g.2.1.getD r dR = R) (hx2 : x2 = nI (60 * cx i m + k)) (hk : k < (sL (ch g o ws i m)).length) (hcat : (sL (ch g o ws i m)).getD k 0 / 625 = R.2.1) (hx3 : x3 = nI m) (hx4 : x4 = nI j) (hm : (R.2.2.1 = none ∧ m = j) ∨ (R.2.2.1 ≠ none ∧ i < m ∧ m < j)) (hcur : curN q z i j I A) (hij : i < j) (hj : j ≤ ws.length) (hwR : wR b wt) (hw : rowF B q (ch g o ws i j) R.1 wt)
    (hQ : Q (some (.long (lI (wFst b R (ch g o ws m j) wt ((sL (ch g o ws i m)).getD k 0))))) (wC tgt cg (.ref 37) I J A B)) : xK l d 28 [.ref 31, .int x1, .int x2, .int x3, .int x4] (wC tgt cg (.ref 37) I J A B) Q := by
  obtain ⟨d, rfl⟩ : ∃ e, d = e + 1 := ⟨d - 1, by omega⟩
  subst hx1; subst hx2; subst hx3; subst hx4
  have hS0 := hS
  obtain ⟨hg, h14, hes, hrs, hch, hb, hws, _⟩ := hS
  have h30 := hrs.2.1
  have hRm : R ∈ g.2.1 := by rw [← hRe]; exact getD_mem hr dR
  have hRk := hg.2.1 R hRm
  have hRZ : rulZ A r R := by have := (hrs.2.2 r hr).2; rw [hRe] at this; exact this
  have him : i < m ∧ m ≤ j := by rcases hm with ⟨_, q⟩ | ⟨_, q1, q2⟩ <;> omega
  have hcA := (hch i m him.1 (by omega)).1
  have hcV := (hch i j hij hj).1
  have lA := hcA.1
  have hcxA := cx_lt him.1 (show m ≤ 14 by omega)
  have hin := sL_in hk
  have hxk := (hcA.2.2 k hk).1
  generalize hx : (sL (ch g o ws i m)).getD k 0 = x at hin hxk hcat hQ
  refine e_X2_weightOfFirst (s_isSingle1 (by omega) rfl (by omega) hRZ.2.2.1 hRk.2.2.1 (b_X2_weightOfFirst_8 (if_bI rfl (fun e => ?_) (fun e => ⟨xin_n (by omega) (by omega), ?_⟩))))
  · -- two parts
    have hne : R.2.2.1 ≠ none := fun q => by rw [q] at e; cases e
    have hmm : i < m ∧ m < j := by rcases hm with ⟨q, _⟩ | ⟨_, q⟩; exact absurd q hne; exact q
    obtain ⟨c2, hc2⟩ : ∃ c2, R.2.2.1 = some c2 := by
      cases q : R.2.2.1 with
      | none => exact absurd q hne
      | some c2 => exact ⟨c2, rfl⟩
    have hc216 := hRk.2.2.1 c2 hc2
    have hcB := hch m j hmm.2 hj
    have hoB := fSt_o hS0 hmm.2 hj
    have lB := hcB.1.1
    have hcxB := cx_lt hmm.2 (show j ≤ 14 by omega)
    have hl1 := sL_le' (V := ch g o ws m j) (s := 625 * (c2 + 1)) (by omega)
    have hmo := ix_mono (V := ch g o ws m j) (show 625 * c2 ≤ 625 * (c2 + 1) by omega) (by omega)
    have hpar := fun {y u : Nat} => ch_par (y := y) (s := u) hg o ws hmm.1 hmm.2 hRm hc2 (by rw [← hx]; exact (sL_in hk).2) hcat
    have hwF : wFst b R (ch g o ws m j) wt x = fC c2 (fun t y => eitG b t (bthG b (worG b (ch g o ws m j y)) (mkW b wt (mkS R x y)))) (nthG b) ((sL (ch g o ws m j)).take (ix (ch g o ws m j) (625 * (c2 + 1)))) := by
      unfold wFst; rw [if_neg hne, wFi_fC b hc2, fC_hi hc216]
    rw [hwF] at hQ
    have hR := fC_R (b := b) (c := c2) (a := fun y => bthG b (worG b (ch g o ws m j y)) (mkW b wt (mkS R x y))) (fun y => vR_b2 hoB hwR y _)
    refine s_cellOf (by omega) rfl rfl hmm.2 (by omega) (b_X2_weightOfFirst_40 (s_nothing (by omega) hb (b_X2_weightOfFirst_46 ⟨xin_n (by omega) (by omega), ?_⟩)))
    rw [cl_n (by omega), hRZ.2.2.1, hc2, show o2i (some c2) = nI c2 from rfl]
    refine s_behindLast (by omega) rfl hcxB rfl hc216 hcB.2 (b_X2_weightOfFirst_66 ⟨xin_n (by omega) (by omega), ?_⟩)
    rw [cl_n (by omega), hRZ.2.2.1, hc2, show o2i (some c2) = nI c2 from rfl]
    refine s_firstOf (by omega) rfl hcxB rfl hc216 hcB.2 (b_X2_weightOfFirst_86 ?_)
    have loop : ∀ mm p, ix (ch g o ws m j) (625 * (c2 + 1)) - p < mm → ix (ch g o ws m j) (625 * c2) ≤ p → p ≤ ix (ch g o ws m j) (625 * (c2 + 1)) → xG l d 28 Q 88 [some (.ref 31), some (.int (nI r)), some (.int (nI (60 * cx i m + k))), none, none, none, some (.long (lI (fC c2 (fun t y => eitG b t (bthG b (worG b (ch g o ws m j y)) (mkW b wt (mkS R x y)))) (nthG b) ((sL (ch g o ws m j)).take p)))), none, some (.int (nI (60 * cx m j + ix (ch g o ws m j) (625 * (c2 + 1))))), some (.int (nI (60 * cx m j + p))), none, none] [] (wC tgt cg (.ref 37) I J A B) 0 0 := by
      intro mm
      induction mm with
      | zero => intro p hmm'; omega
      | succ mm ih =>
        intro p hm1 hp0 hp1
        refine b_X2_weightOfFirst_88 (if_le rfl rfl (by omega) (by omega) (fun z => ?_) (fun z => ⟨xin_n (by omega) (by omega), xin_n (by omega) (by omega), ?_⟩))
        · rw [show p = ix (ch g o ws m j) (625 * (c2 + 1)) by omega]; exact hQ
        · have hpl : p < (sL (ch g o ws m j)).length := by omega
          have hst := fC_st (f := fun t y => eitG b t (bthG b (worG b (ch g o ws m j y)) (mkW b wt (mkS R x y)))) (t := nthG b) hc216 hpl hp0 (by omega)
          have hyn := sL_in hpl
          have hyc := (cat_eq hc216 hpl).mpr ⟨hp0, by omega⟩
          have hRp := hR ((sL (ch g o ws m j)).take p) (nthG b) (vR_n b)
          rw [cl_n (a := 60 * cx i m + k) (by omega), cl_n (a := 60 * cx m j + p) (by omega), hxk, (hcB.1.2.2 p hpl).1]
          refine s_join (R := R) (by omega) rfl (by omega) rfl hin.1 rfl hyn.1 hRk hRZ (fun q => absurd q hne) (b_X2_weightOfFirst_123 (s_weightOf (V := ch g o ws i j) (c := R.1) (wt := wt) (by omega) hb rfl hcur hij (by omega) hcV (fun s hs => ?_) hw (b_X2_weightOfFirst_126 (s_worthOf (by omega) hb rfl hcxB hcB.1 hpl hoB (b_X2_weightOfFirst_138 (s_bothOf (by omega) hb rfl rfl ?_ (wR_m hwR _) (b_X2_weightOfFirst_143 (s_eitherOf (by omega) hb rfl rfl hRp (vR_b2 hoB hwR _ _) (b_X2_weightOfFirst_146 ?_)))))))))
          · have := hpar hyn.2 hyc hs
            have hh := mkS_in hRk hs
            exact ⟨hh.1, this.1, hh.2⟩
          · cases b with
            | true =>
              have hoB : cB (ch g o ws m j) := hoB
              have := hoB ((sL (ch g o ws m j)).getD p 0)
              show -1000000 ≤ cy _ ∧ cy _ ≤ 1000000
              omega
            | false => exact ⟨_, rfl⟩
          · rw [nI_1, Nat.add_assoc]
            have hst2 : fC c2 (fun t y => eitG b t (bthG b (worG b (ch g o ws m j y)) (mkW b wt (mkS R x y)))) (nthG b) ((sL (ch g o ws m j)).take (p + 1)) = eitG b (fC c2 (fun t y => eitG b t (bthG b (worG b (ch g o ws m j y)) (mkW b wt (mkS R x y)))) (nthG b) ((sL (ch g o ws m j)).take p)) (bthG b (worG b (ch g o ws m j ((sL (ch g o ws m j)).getD p 0))) (mkW b wt (mkS R x ((sL (ch g o ws m j)).getD p 0)))) := hst
            rw [← hst2]
            exact ih (p + 1) (by omega) (by omega) (by omega)
    have h0 := loop _ (ix (ch g o ws m j) (625 * c2)) (Nat.lt_succ_self _) (Nat.le_refl _) hmo
    rw [fC_lo hc216 _ (Nat.le_refl _)] at h0
    exact h0
  · -- one part
    have h1 : R.2.2.1 = none := by
      cases q : R.2.2.1 with
      | none => rfl
      | some c2 => rw [q] at e; cases e
    have hmj : m = j := by rcases hm with ⟨_, q⟩ | ⟨q, _⟩; exact q; exact absurd h1 q
    subst hmj
    rw [cl_n (by omega), hxk]
    refine s_join (R := R) (b := 0) (by omega) rfl (by omega) rfl hin.1 rfl (by omega) hRk hRZ (fun _ => rfl) (b_X2_weightOfFirst_30 (s_weightOf (V := ch g o ws i m) (c := R.1) (wt := wt) (by omega) hb rfl hcur hij (by omega) hcV (fun s hs => ?_) hw (b_X2_weightOfFirst_33 ?_)))
    · have := ch_sng hg o ws hij hRm h1 hin.2 hcat hs
      have hh := mkS_in hRk hs
      exact ⟨hh.1, this.1, hh.2⟩
    · unfold wFst at hQ
      rw [if_pos h1] at hQ; exact hQ
theorem s_valueOf (hd : 5 ≤ d) (hS : fSt b g o ws I A B) {x1 x2 x3 x4 : Int32} {r q z i m j : Nat} {R : Rule} {wt : Nat → Int} (hx1 : x1 = nI r) (hr : r < g.2.1.length) (hRe : g.2.1.getD r dR = R) (hx2 : x2 = nI i) (hx3 : x3 = nI m) (hx4 : x4 = nI j) (hm : (R.2.2.1 = none ∧ m = j) ∨ (R.2.2.1 ≠ none ∧ i < m ∧ m < j)) (hcur : curN q z i j I A) (hij : i < j) (hj : j ≤ ws.length) (hwR : wR b wt) (hwF : wR b (wFst b R (ch g o ws m j) wt)) (hw : rowF B q (ch g o ws i j) R.1 wt)
    (hQ : Q (some (.long (lI (vlG b R (ch g o ws i m) (ch g o ws m j) wt (sL (ch g o ws i m)))))) (wC tgt cg (.ref 37) I J A B)) : xK l d 27 [.ref 31, .int x1, .int x2, .int x3, .int x4] (wC tgt cg (.ref 37) I J A B) Q := by
  obtain ⟨d, rfl⟩ : ∃ e, d = e + 1 := ⟨d - 1, by omega⟩
  subst hx1; subst hx2; subst hx3; subst hx4
  have hS0 := hS
  obtain ⟨hg, h14, hes, hrs, hch, hb, hws, _⟩ := hS
  have h30 := hrs.2.1
  have hRm : R ∈ g.2.1 := by rw [← hRe]; exact getD_mem hr dR
  have hRk := hg.2.1 R hRm
  have hRZ : rulZ A r R := by have := (hrs.2.2 r hr).2; rw [hRe] at this; exact this
  have him : i < m ∧ m ≤ j := by rcases hm with ⟨_, q⟩ | ⟨_, q1, q2⟩ <;> omega
  have hcA := hch i m him.1 (by omega)
  have hoA := fSt_o hS0 him.1 (show m ≤ ws.length by omega)
  have lA := hcA.1.1
  have hcxA := cx_lt him.1 (show m ≤ 14 by omega)
  have hf16 := hRk.2.1
  have hl1 := sL_le' (V := ch g o ws i m) (s := 625 * (R.2.1 + 1)) (by omega)
  have hmo := ix_mono (V := ch g o ws i m) (show 625 * R.2.1 ≤ 625 * (R.2.1 + 1) by omega) (by omega)
  rw [vlG_fC, fC_hi hf16] at hQ
  have hwf : ∀ (k : Nat) (Q' : Option Value → XW → Prop), k < (sL (ch g o ws i m)).length → (sL (ch g o ws i m)).getD k 0 / 625 = R.2.1 → Q' (some (.long (lI (wFst b R (ch g o ws m j) wt ((sL (ch g o ws i m)).getD k 0))))) (wC tgt cg (.ref 37) I J A B) → xK l d 28 [.ref 31, .int (nI r), .int (nI (60 * cx i m + k)), .int (nI m), .int (nI j)] (wC tgt cg (.ref 37) I J A B) Q' := fun k Q' h1 h2 h3 => s_weightOfFirst (by omega) hS0 rfl hr hRe rfl h1 h2 rfl rfl hm hcur hij hj hwR hw h3
  generalize hG : wFst b R (ch g o ws m j) wt = wf at hwF hQ hwf
  have hR := fC_R (b := b) (c := R.2.1) (a := fun x => bthG b (worG b (ch g o ws i m x)) (wf x)) (fun x => vR_b3 hoA hwF x x)
  refine e_X2_valueOf (s_cellOf (by omega) rfl rfl him.1 (by omega) (b_X2_valueOf_5 (s_nothing (by omega) hb (b_X2_valueOf_11 ⟨xin_n (by omega) (by omega), ?_⟩))))
  rw [cl_n (by omega), hRZ.2.1]
  refine s_behindLast (by omega) rfl hcxA rfl hf16 hcA.2 (b_X2_valueOf_31 ⟨xin_n (by omega) (by omega), ?_⟩)
  rw [cl_n (by omega), hRZ.2.1]
  refine s_firstOf (by omega) rfl hcxA rfl hf16 hcA.2 (b_X2_valueOf_51 ?_)
  have loop : ∀ mm p, ix (ch g o ws i m) (625 * (R.2.1 + 1)) - p < mm → ix (ch g o ws i m) (625 * R.2.1) ≤ p → p ≤ ix (ch g o ws i m) (625 * (R.2.1 + 1)) → xG l d 27 Q 53 [some (.ref 31), some (.int (nI r)), none, some (.int (nI m)), some (.int (nI j)), none, some (.long (lI (fC R.2.1 (fun t x => eitG b t (bthG b (worG b (ch g o ws i m x)) (wf x))) (nthG b) ((sL (ch g o ws i m)).take p)))), none, some (.int (nI (60 * cx i m + ix (ch g o ws i m) (625 * (R.2.1 + 1))))), some (.int (nI (60 * cx i m + p)))] [] (wC tgt cg (.ref 37) I J A B) 0 0 := by
    intro mm
    induction mm with
    | zero => intro p hmm'; omega
    | succ mm ih =>
      intro p hm1 hp0 hp1
      refine b_X2_valueOf_53 (if_le rfl rfl (by omega) (by omega) (fun z => ?_) (fun z => ?_))
      · rw [show p = ix (ch g o ws i m) (625 * (R.2.1 + 1)) by omega]; exact hQ
      · have hpl : p < (sL (ch g o ws i m)).length := by omega
        have hst := fC_st (f := fun t x => eitG b t (bthG b (worG b (ch g o ws i m x)) (wf x))) (t := nthG b) hf16 hpl hp0 (by omega)
        have hxc := (cat_eq hf16 hpl).mpr ⟨hp0, by omega⟩
        have hRp := hR ((sL (ch g o ws i m)).take p) (nthG b) (vR_n b)
        refine s_worthOf (by omega) hb rfl hcxA hcA.1 hpl hoA (b_X2_valueOf_70 (hwf p _ hpl hxc (b_X2_valueOf_80 (s_bothOf (by omega) hb rfl rfl ?_ (wR_v hwF _) (b_X2_valueOf_83 (s_eitherOf (by omega) hb rfl rfl hRp (vR_b3 hoA hwF _ _) (b_X2_valueOf_86 ?_)))))))
        · cases b with
          | true =>
            have hoA : cB (ch g o ws i m) := hoA
            have := hoA ((sL (ch g o ws i m)).getD p 0)
            show -1000000 ≤ cy _ ∧ cy _ ≤ 1000000
            omega
          | false => exact ⟨_, rfl⟩
        · rw [nI_1, Nat.add_assoc]
          have hst2 : fC R.2.1 (fun t x => eitG b t (bthG b (worG b (ch g o ws i m x)) (wf x))) (nthG b) ((sL (ch g o ws i m)).take (p + 1)) = eitG b (fC R.2.1 (fun t x => eitG b t (bthG b (worG b (ch g o ws i m x)) (wf x))) (nthG b) ((sL (ch g o ws i m)).take p)) (bthG b (worG b (ch g o ws i m ((sL (ch g o ws i m)).getD p 0))) (wf ((sL (ch g o ws i m)).getD p 0))) := hst
          rw [← hst2]
          exact ih (p + 1) (by omega) (by omega) (by omega)
  have h0 := loop _ (ix (ch g o ws i m) (625 * R.2.1)) (Nat.lt_succ_self _) (Nat.le_refl _) hmo
  rw [fC_lo hf16 _ (Nat.le_refl _)] at h0
  exact h0
end C32
