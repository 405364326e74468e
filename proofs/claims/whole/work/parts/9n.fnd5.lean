/-! ===== the class's finder: opening nodes ===== -/
/-- node T of category c over i, j lies open at place P -/
def pshd (P T c i j : Nat) (I : Nat → Int32) (A : Nat → Nat → Int32) (I' : Nat → Int32) (A' : Nat → Nat → Int32) : Prop := I' 2505 = nI (T + 1) ∧ I' 3107 = nI (P + 1) ∧ A' 26 T = nI (4096 * c) ∧ A' 27 T = nI i ∧ A' 28 T = nI j ∧ A' 30 T = nI P ∧ A' 32 P = nI T ∧ A' 34 P = -1 ∧ (∀ i, i ≠ 2505 → i ≠ 3107 → I' i = I i) ∧ (∀ p, (p < 26 ∨ p = 31 ∨ 34 < p) → A' p = A p) ∧ (∀ p x, 26 ≤ p → p ≤ 30 → x ≠ T → A' p x = A p x) ∧ (∀ p x, 32 ≤ p → p ≤ 34 → x ≠ P → A' p x = A p x)
theorem shf {a b c : Nat} : nI (c + a) + (nI b - nI c) = nI (b + a) := by
  refine Int32.toInt_inj.mp ?_
  have e : nI (c + a) = nI c + nI a := (nI_add c a).symm
  have e2 : nI (b + a) = nI b + nI a := (nI_add b a).symm
  rw [e, e2]
  generalize nI a = x
  generalize nI b = y
  generalize nI c = z
  congr 1
  grind
section C35
variable {l : Launch} {J : Nat → Int64} {Q : Option Value → XW → Prop} {d : Nat} {tgt cg fg : Value} {I : Nat → Int32} {A : Nat → Nat → Int32} {B : Nat → Nat → Int64} {b : Bool} {g : Gram} {o : Own} {ws : List (List Nat)}
theorem s_pushNode (hd : 2 ≤ d) {x1 x2 x3 : Int32} {P T c i j : Nat} (hx1 : x1 = nI c) (hc : c < 16) (hx2 : x2 = nI i) (hx3 : x3 = nI j) (hP : I 3107 = nI P) (hP2 : P < 224) (hT : I 2505 = nI T) (hT2 : T < 432)
    (hQ : ∀ (I' : Nat → Int32) (A' : Nat → Nat → Int32), pshd P T c i j I A I' A' → Q (some (.int 1)) (wC tgt cg fg I' J A' B)) : xK l d 22 [.ref 31, .int x1, .int x2, .int x3] (wC tgt cg fg I J A B) Q := by
  obtain ⟨d, rfl⟩ : ∃ e, d = e + 2 := ⟨d - 2, by omega⟩
  subst hx1; subst hx2; subst hx3
  refine e_X2_pushNode ?_
  rw [hP]
  refine if_le (a := 224) rfl rfl (by omega) (by omega) (fun z => absurd z (by omega)) (fun z => e_X9_addNode ?_)
  rw [hT, cl_n (by omega), shl12 c (by omega), nI_1]
  refine if_lt (b := 432) rfl rfl (by omega) (by omega) (fun z2 => ⟨xin_n (by omega) (by omega), xin_n (by omega) (by omega), xin_n (by omega) (by omega), xin_n (by omega) (by omega), xin_n (by omega) (by omega), Or.inr rfl, b_X2_pushNode_24 ?_⟩) (fun z2 => absurd z2 (by omega))
  have eP : (upd I 2505 (nI (T + 1))) 3107 = nI P := (un_i (by decide)).trans hP
  rw [if_neg (by decide), eP, ue_i, cl_n (by omega), nI_1, show nI (T + 1) - 1 = nI T by rw [show (1 : Int32) = nI 1 from rfl, sub_n (by omega), Nat.add_sub_cancel]]
  refine ⟨xin_n (by omega) (by omega), xin_n (by omega) (by omega), xin_n (by omega) (by omega), Or.inr rfl, hQ _ _ ?_⟩
  refine ⟨?_, ue_i _ _ _, ?_, ?_, ?_, ?_, ?_, ?_, fun i a b => ?_, fun p a => ?_, fun p x a b c => ?_, fun p x a b c => ?_⟩
  · rw [un_i (by decide), ue_i]
  · rw [un_v (by decide), un_v (by decide), un_v (by decide), un_v (by decide), un_v (by decide), un_v (by decide), un_v (by decide), ue_v, ue_i]
  · rw [un_v (by decide), un_v (by decide), un_v (by decide), un_v (by decide), un_v (by decide), un_v (by decide), ue_v, ue_i]
  · rw [un_v (by decide), un_v (by decide), un_v (by decide), un_v (by decide), un_v (by decide), ue_v, ue_i]
  · rw [un_v (by decide), un_v (by decide), un_v (by decide), ue_v, ue_i]
  · rw [un_v (by decide), un_v (by decide), ue_v, ue_i]
  · rw [ue_v, ue_i]
  · rw [un_i b, un_i a]
  · rw [un_v (by omega), un_v (by omega), un_v (by omega), un_v (by omega), un_v (by omega), un_v (by omega), un_v (by omega), un_v (by omega)]
  · rw [un_v (by omega), un_v (by omega), un_v (by omega)]
    by_cases e1 : p = 30
    · subst e1; rw [ue_v, un_i c]
    · rw [un_v e1]
      by_cases e2 : p = 29
      · subst e2; rw [ue_v, un_i c]
      · rw [un_v e2]
        by_cases e3 : p = 28
        · subst e3; rw [ue_v, un_i c]
        · rw [un_v e3]
          by_cases e4 : p = 27
          · subst e4; rw [ue_v, un_i c]
          · rw [un_v e4]
            have e5 : p = 26 := by omega
            subst e5; rw [ue_v, un_i c]
  · by_cases e1 : p = 34
    · subst e1; rw [ue_v, un_i c, un_v (by decide), un_v (by decide), un_v (by decide), un_v (by decide), un_v (by decide)]
    · rw [un_v e1]
      by_cases e2 : p = 33
      · subst e2; rw [ue_v, un_i c, un_v (by decide), un_v (by decide), un_v (by decide), un_v (by decide), un_v (by decide)]
      · rw [un_v e2]
        have e3 : p = 32 := by omega
        subst e3
        rw [ue_v, un_i c, un_v (by decide), un_v (by decide), un_v (by decide), un_v (by decide), un_v (by decide)]
theorem s_openFirst (hd : 5 ≤ d) (hS : fSt b g o ws I A B) {r q z T i m j : Nat} {R : Rule} {wt : Nat → Int} (hcur : curN q z i j I A) (h29 : A 29 z = nI r) (hr : r < g.2.1.length) (hRe : g.2.1.getD r dR = R) (h33 : A 33 q = nI m) (hm : (R.2.2.1 = none ∧ m = j) ∨ (R.2.2.1 ≠ none ∧ i < m ∧ m < j)) (hij : i < j) (hj : j ≤ ws.length) (hwR : wR b wt) (hw : rowF B q (ch g o ws i j) R.1 wt) (hq1 : q + 1 < 224) (hT : I 2505 = nI T) (hT2 : T < 432)
    (hQ : ∀ (I' : Nat → Int32) (A' : Nat → Nat → Int32) (B' : Nat → Nat → Int64), pshd (q + 1) T R.2.1 i m I A I' A' → rowF B' (q + 1) (ch g o ws i m) R.2.1 (wFst b R (ch g o ws m j) wt) → (∀ p, p ≠ 35 → B' p = B p) → (∀ i, i < 60 * (q + 1) → B' 35 i = B 35 i) → Q none (wC tgt cg (.ref 37) I' J A' B')) : xK l d 30 [.ref 31] (wC tgt cg (.ref 37) I J A B) Q := by
  obtain ⟨d, rfl⟩ : ∃ e, d = e + 1 := ⟨d - 1, by omega⟩
  have hS0 := hS
  obtain ⟨hg, h14, hes, hrs, hch, hb, hws, _⟩ := hS
  have h30 := hrs.2.1
  have hRm : R ∈ g.2.1 := by rw [← hRe]; exact getD_mem hr dR
  have hRk := hg.2.1 R hRm
  have hRZ : rulZ A r R := by have := (hrs.2.2 r hr).2; rw [hRe] at this; exact this
  have him : i < m ∧ m ≤ j := by rcases hm with ⟨_, q⟩ | ⟨_, q1, q2⟩ <;> omega
  have hcA := hch i m him.1 (by omega)
  have lA := hcA.1.1
  have hcxA := cx_lt him.1 (show m ≤ 14 by omega)
  have hf16 := hRk.2.1
  have hl1 := sL_le' (V := ch g o ws i m) (s := 625 * (R.2.1 + 1)) (by omega)
  have hmo := ix_mono (V := ch g o ws i m) (show 625 * R.2.1 ≤ 625 * (R.2.1 + 1) by omega) (by omega)
  have hcV := hch i j hij hj
  have lV := hcV.1.1
  have hwf : ∀ (B1 : Nat → Nat → Int64) (k : Nat) (Q' : Option Value → XW → Prop), (∀ p, p ≠ 35 → B1 p = B p) → (∀ i, i < 60 * (q + 1) → B1 35 i = B 35 i) → k < (sL (ch g o ws i m)).length → (sL (ch g o ws i m)).getD k 0 / 625 = R.2.1 → Q' (some (.long (lI (wFst b R (ch g o ws m j) wt ((sL (ch g o ws i m)).getD k 0))))) (wC tgt cg (.ref 37) I J A B1) → xK l d 28 [.ref 31, .int (nI r), .int (nI (60 * cx i m + k)), .int (nI m), .int (nI j)] (wC tgt cg (.ref 37) I J A B1) Q' := fun B1 k Q' b1 b2 h1 h2 h3 => s_weightOfFirst (by omega) (fSt_fr hS0 (fun _ _ _ _ => rfl) (fun _ _ => rfl) b1) rfl hr hRe rfl h1 h2 rfl rfl hm hcur hij hj hwR (fun k hk hc => by rw [b2 _ (by omega)]; exact hw k hk hc) h3
  generalize hG : wFst b R (ch g o ws m j) wt = wf at hwf hQ
  have hq := curN_q hcur
  obtain ⟨c1, c2, c3, c4, c5, c6⟩ := hcur
  refine e_X2_openFirstPart ?_
  rw [hq, cl_n (by omega), c3, cl_n (by omega), c5, c6, h29, h33, cl_n (by omega), hRZ.2.1]
  refine ⟨xin_n (by omega) (by omega), xin_n (by omega) (by omega), xin_n (by omega) (by omega), xin_n (by omega) (by omega), xin_n (by omega) (by omega), xin_n (by omega) (by omega), s_cellOf (by omega) rfl rfl him.1 (by omega) (b_X2_openFirstPart_73 ?_)⟩
  rw [c1]
  refine if_le (a := 224) rfl rfl (by omega) (by omega) (fun z1 => absurd z1 (by omega)) (fun _ => s_behindLast (by omega) rfl hcxA rfl hf16 hcA.2 (b_X2_openFirstPart_111 (s_firstOf (by omega) rfl hcxA rfl hf16 hcA.2 (b_X2_openFirstPart_128 ?_))))
  rw [show nI (q + 1) * (60 : Int32) = nI ((q + 1) * 60) from mul_of (b := 60) rfl rfl, show nI (cx i m) * (60 : Int32) = nI (cx i m * 60) from mul_of (b := 60) rfl rfl, Nat.mul_comm (cx i m) 60]
  have loop : ∀ mm p (B1 : Nat → Nat → Int64), ix (ch g o ws i m) (625 * (R.2.1 + 1)) - p < mm → ix (ch g o ws i m) (625 * R.2.1) ≤ p → p ≤ ix (ch g o ws i m) (625 * (R.2.1 + 1)) → (∀ p, p ≠ 35 → B1 p = B p) → (∀ i, i < 60 * (q + 1) → B1 35 i = B 35 i) → (∀ k, ix (ch g o ws i m) (625 * R.2.1) ≤ k → k < p → B1 35 (60 * (q + 1) + k) = lI (wf ((sL (ch g o ws i m)).getD k 0))) → xG l d 30 Q 130 [some (.ref 31), none, some (.int (nI r)), some (.int (nI i)), some (.int (nI j)), some (.int (nI m)), some (.int (nI R.2.1)), none, some (.int (nI ((q + 1) * 60) - nI (60 * cx i m))), some (.int (nI (60 * cx i m + ix (ch g o ws i m) (625 * (R.2.1 + 1))))), some (.int (nI (60 * cx i m + p)))] [] (wC tgt cg (.ref 37) I J A B1) 0 0 := by
    intro mm
    induction mm with
    | zero => intro p B1 hmm'; omega
    | succ mm ih =>
      intro p B1 hm1 hp0 hp1 hB hB35 hset
      refine b_X2_openFirstPart_130 (if_le rfl rfl (by omega) (by omega) (fun z => ?_) (fun z => ?_))
      · refine s_pushNode (by omega) rfl hf16 rfl rfl c1 hq1 hT hT2 (fun I2 A2 hps => b_X2_openFirstPart_173 (hQ I2 A2 B1 hps (fun k hk hc => ?_) hB hB35))
        have := (cat_eq hf16 hk).mp hc
        exact hset k this.1 (by omega)
      · have hpl : p < (sL (ch g o ws i m)).length := by omega
        have hxc := (cat_eq hf16 hpl).mpr ⟨hp0, by omega⟩
        refine hwf B1 p _ hB hB35 hpl hxc (b_X2_openFirstPart_157 ?_)
        rw [shf, cl_n (by omega), nI_1, Nat.add_assoc]
        refine ⟨xin_n (by omega) (by omega), ih (p + 1) _ (by omega) (by omega) (by omega) (fun p hp => by rw [un_v hp]; exact hB p hp) (fun x hx => by rw [ue_v, un_l (by omega)]; exact hB35 x hx) (fun k hk0 hk1 => ?_)⟩
        rw [ue_v]
        by_cases e : k = p
        · subst e; rw [show (q + 1) * 60 + k = 60 * (q + 1) + k by omega, ue_l]
        · rw [un_l (by omega)]; exact hset k hk0 (by omega)
  exact loop _ _ B (Nat.lt_succ_self _) (Nat.le_refl _) hmo (fun _ _ => rfl) (fun _ _ => rfl) (fun k h1 h2 => absurd h2 (by omega))
theorem s_openSecond (hd : 4 ≤ d) (hS : fSt b g o ws I A B) {x1 : Int32} {r s q z T i m j c2 : Nat} {R : Rule} {wt : Nat → Int} (hx1 : x1 = nI (cs s)) (hs : s < 10000) (hsin : (ch g o ws i m s).isSome = true) (hscat : s / 625 = R.2.1) (hcur : curN q z i j I A) (h29 : A 29 z = nI r) (hr : r < g.2.1.length) (hRe : g.2.1.getD r dR = R) (h33 : A 33 q = nI m) (hc2 : R.2.2.1 = some c2) (him : i < m) (hmj : m < j) (hj : j ≤ ws.length) (hw : rowF B q (ch g o ws i j) R.1 wt) (hq1 : q + 1 < 224) (hT : I 2505 = nI T) (hT2 : T < 432)
    (hQ : ∀ (I' : Nat → Int32) (A' : Nat → Nat → Int32) (B' : Nat → Nat → Int64), pshd (q + 1) T c2 m j I (va_up A 34 (upd (A 34) q (nI (cs s)))) I' A' → rowF B' (q + 1) (ch g o ws m j) c2 (fun y => mkW b wt (mkS R s y)) → (∀ p, p ≠ 35 → B' p = B p) → (∀ i, i < 60 * (q + 1) → B' 35 i = B 35 i) → Q none (wC tgt cg (.ref 37) I' J A' B')) : xK l d 31 [.ref 31, .int x1] (wC tgt cg (.ref 37) I J A B) Q := by
  obtain ⟨d, rfl⟩ : ∃ e, d = e + 1 := ⟨d - 1, by omega⟩
  subst hx1
  generalize hA1 : va_up A 34 (upd (A 34) q (nI (cs s))) = A1 at hQ
  have eA : ∀ p, p ≠ 34 → A1 p = A p := fun p hp => by rw [← hA1, un_v hp]
  have hS0 : fSt b g o ws I A1 B := fSt_fr hS (fun _ _ _ _ => rfl) (fun p a => eA p (by omega)) (fun _ _ => rfl)
  have hS1 := hS0
  obtain ⟨hg, h14, hes, hrs, hch, hb, hws, _⟩ := hS0
  have h30 := hrs.2.1
  have hRm : R ∈ g.2.1 := by rw [← hRe]; exact getD_mem hr dR
  have hRk := hg.2.1 R hRm
  have hRZ : rulZ A1 r R := by have := (hrs.2.2 r hr).2; rw [hRe] at this; exact this
  have hcB := hch m j hmj hj
  have lB := hcB.1.1
  have hcxB := cx_lt hmj (show j ≤ 14 by omega)
  have hc216 := hRk.2.2.1 c2 hc2
  have hl1 := sL_le' (V := ch g o ws m j) (s := 625 * (c2 + 1)) (by omega)
  have hmo := ix_mono (V := ch g o ws m j) (show 625 * c2 ≤ 625 * (c2 + 1) by omega) (by omega)
  have hcV := hch i j (by omega) hj
  have lV := hcV.1.1
  have hne : R.2.2.1 ≠ none := by rw [hc2]; intro q; cases q
  have hcur1 : curN q z i j I A1 := by
    unfold curN at hcur ⊢
    rw [eA 32 (by decide), eA 27 (by decide), eA 28 (by decide)]; exact hcur
  have hpar := fun {y u : Nat} => ch_par (y := y) (s := u) hg o ws him hmj hRm hc2 hsin hscat
  have hq := curN_q hcur
  obtain ⟨c1, c2', c3, c4, c5, c6⟩ := hcur
  refine e_X2_openSecondPart ?_
  have h42 : A 42 r = nI c2 := by rw [← eA 42 (by decide), hRZ.2.2.1, hc2]; rfl
  rw [hq, cl_n (by omega), c3, cl_n (by omega), c6, h29, h33, cl_n (by omega), h42, hA1]
  refine ⟨xin_n (by omega) (by omega), xin_n (by omega) (by omega), xin_n (by omega) (by omega), xin_n (by omega) (by omega), xin_n (by omega) (by omega), xin_n (by omega) (by omega), s_cellOf (by omega) rfl rfl hmj (by omega) (b_X2_openSecondPart_76 ?_)⟩
  rw [c1]
  refine if_le (a := 224) rfl rfl (by omega) (by omega) (fun z1 => absurd z1 (by omega)) (fun _ => s_behindLast (by omega) rfl hcxB rfl hc216 hcB.2 (b_X2_openSecondPart_114 (s_firstOf (by omega) rfl hcxB rfl hc216 hcB.2 (b_X2_openSecondPart_131 ?_))))
  rw [show nI (q + 1) * (60 : Int32) = nI ((q + 1) * 60) from mul_of (b := 60) rfl rfl, show nI (cx m j) * (60 : Int32) = nI (cx m j * 60) from mul_of (b := 60) rfl rfl, Nat.mul_comm (cx m j) 60]
  have loop : ∀ mm p (B1 : Nat → Nat → Int64), ix (ch g o ws m j) (625 * (c2 + 1)) - p < mm → ix (ch g o ws m j) (625 * c2) ≤ p → p ≤ ix (ch g o ws m j) (625 * (c2 + 1)) → (∀ p, p ≠ 35 → B1 p = B p) → (∀ i, i < 60 * (q + 1) → B1 35 i = B 35 i) → (∀ k, ix (ch g o ws m j) (625 * c2) ≤ k → k < p → B1 35 (60 * (q + 1) + k) = lI (mkW b wt (mkS R s ((sL (ch g o ws m j)).getD k 0)))) → xG l d 31 Q 133 [some (.ref 31), some (.int (nI (cs s))), none, some (.int (nI r)), some (.int (nI j)), some (.int (nI m)), some (.int (nI c2)), none, some (.int (nI ((q + 1) * 60) - nI (60 * cx m j))), some (.int (nI (60 * cx m j + ix (ch g o ws m j) (625 * (c2 + 1))))), some (.int (nI (60 * cx m j + p)))] [] (wC tgt cg (.ref 37) I J A1 B1) 0 0 := by
    intro mm
    induction mm with
    | zero => intro p B1 hmm'; omega
    | succ mm ih =>
      intro p B1 hm1 hp0 hp1 hB hB35 hset
      refine b_X2_openSecondPart_133 (if_le rfl rfl (by omega) (by omega) (fun z => ?_) (fun z => ⟨xin_n (by omega) (by omega), ?_⟩))
      · refine s_pushNode (by omega) rfl hc216 rfl rfl c1 hq1 hT hT2 (fun I2 A2 hps => b_X2_openSecondPart_189 (hQ I2 A2 B1 hps (fun k hk hc => ?_) hB hB35))
        have := (cat_eq hc216 hk).mp hc
        exact hset k this.1 (by omega)
      · have hpl : p < (sL (ch g o ws m j)).length := by omega
        have hyc := (cat_eq hc216 hpl).mpr ⟨hp0, by omega⟩
        have hyn := sL_in hpl
        have hcV1 : cX A1 B1 (cx i j) (ch g o ws i j) := by
          have := hcV.1
          unfold cX at this ⊢
          rw [hB 22 (by decide)]; exact this
        rw [cl_n (by omega), (hcB.1.2.2 p hpl).1]
        refine s_join (R := R) (by omega) rfl (by omega) rfl hs rfl hyn.1 hRk hRZ (fun q => absurd q hne) (b_X2_openSecondPart_169 (s_weightOf (V := ch g o ws i j) (c := R.1) (wt := wt) (by omega) hb rfl hcur1 (by omega) (by omega) hcV1 (fun u hu => ?_) (fun k hk hc => by rw [hB35 _ (by omega)]; exact hw k hk hc) (b_X2_openSecondPart_172 ?_)))
        · have := hpar hyn.2 hyc hu
          have hh := mkS_in hRk hu
          exact ⟨hh.1, this.1, hh.2⟩
        · rw [shf, cl_n (by omega), nI_1, Nat.add_assoc]
          refine ⟨xin_n (by omega) (by omega), ih (p + 1) _ (by omega) (by omega) (by omega) (fun p hp => by rw [un_v hp]; exact hB p hp) (fun x hx => by rw [ue_v, un_l (by omega)]; exact hB35 x hx) (fun k hk0 hk1 => ?_)⟩
          rw [ue_v]
          by_cases e : k = p
          · subst e; rw [show (q + 1) * 60 + k = 60 * (q + 1) + k by omega, ue_l]
          · rw [un_l (by omega)]; exact hset k hk0 (by omega)
  exact loop _ _ B (Nat.lt_succ_self _) (Nat.le_refl _) hmo (fun _ _ => rfl) (fun _ _ => rfl) (fun k h1 h2 => absurd h2 (by omega))
end C35
