/-! ===== the reference by cost: firstOf, whole ===== -/
section M29
variable {l : Launch} {J : Nat → Int64} {A : Nat → Nat → Int32} {B : Nat → Nat → Int64} {Q : Option Value → XW → Prop} {d : Nat} {I : Nat → Int32}
set_option maxHeartbeats 2000000 in
theorem s_fof (hd : 5 ≤ d) {g : Gram} {D : List (Nat × Nat × Nat)} {ws : List (List Nat)} {f i j m r row z : Nat} {wt : Nat → Int} {L K : Int} {R : Rule} {x1 x2 x3 x4 x5 : Int32} (hx1 : x1 = nI i) (hx2 : x2 = nI j) (hx3 : x3 = nI m) (hx4 : x4 = nI r) (hx5 : x5 = nI row) (ihp : FSc l g D ws d f) (hsC : sC g D ws I A B) (hr : r < g.2.1.length) (hRe : g.2.1.getD r dR = R) (hij : i < j) (hj : j ≤ ws.length) (hm : (R.2.2.1 = none ∧ m = j) ∨ (R.2.2.1 ≠ none ∧ i < m ∧ m < j)) (hK : K ≤ 500000) (hw : wB K wt) (hL : isLC (ch g (oD D) ws i j) R.1 wt L) (hrow : row + 16 * (j - i - 1) + rk g R.1 ≤ 240) (hrw : rowB B row (ch g (oD D) ws i j) R.1 wt L) (h39 : I 39 = nI z)
    {u : Nat} {nA : List Nd} (hz : z + nA.length ≤ 500) {ab : Bool} (hab : ab = decide (vlG true R (ch g (oD D) ws i m) (ch g (oD D) ws m j) wt (sL (ch g (oD D) ws i m)) = L - oD D R.1 i j))
    (hsub : ab = true → (∃ s1 nds1, R.2.2.1 = none ∧ preC g (oD D) ws f i j R.2.1 (wFst true R (ch g (oD D) ws j j) wt) (L - oD D R.1 i j) ∧ pkC g (oD D) ws f i j R.2.1 (wFst true R (ch g (oD D) ws j j) wt) 0 (row + 1) = some (s1, 0, nds1) ∧ s1 < 10000 ∧ mkS R s1 0 = some u ∧ nA = (u, i, j, (r : Int), row) :: nds1) ∨ (∃ c2 s1 nds1 t nds2, R.2.2.1 = some c2 ∧ preC g (oD D) ws f i m R.2.1 (wFst true R (ch g (oD D) ws m j) wt) (L - oD D R.1 i j) ∧ pkC g (oD D) ws f i m R.2.1 (wFst true R (ch g (oD D) ws m j) wt) 0 (row + 1) = some (s1, 0, nds1) ∧ s1 < 10000 ∧ (ch g (oD D) ws i m s1).isSome = true ∧ s1 / 625 = R.2.1 ∧ cy (ch g (oD D) ws i m s1) + wFst true R (ch g (oD D) ws m j) wt s1 = L - oD D R.1 i j ∧ preC g (oD D) ws f m j c2 (fun y => mkW true wt (mkS R s1 y)) (wFst true R (ch g (oD D) ws m j) wt s1) ∧ pkC g (oD D) ws f m j c2 (fun y => mkW true wt (mkS R s1 y)) 0 (row + 1) = some (t, 0, nds2) ∧ t < 10000 ∧ mkS R s1 t = some u ∧ nA = (u, i, j, (r : Int), row) :: (nds1 ++ nds2)))
    (hN : ab = false → ∀ (A' : Nat → Nat → Int32) (B' : Nat → Nat → Int64), fP row z I J A B I J A' B' → Q (some (.int 0)) (wM I J A' B'))
    (hY : ab = true → ∀ (I' : Nat → Int32) (A' : Nat → Nat → Int32) (B' : Nat → Nat → Int64), I' 39 = nI (z + nA.length) → I' 47 = nI u → ndA A' z nA → fP row z I J A B I' J A' B' → Q (some (.int 1)) (wM I' J A' B')) : xK l (d + 1) 183 [.ref 0, .int x1, .int x2, .int x3, .int x4, .int x5] (wM I J A B) Q := by
  subst hx1; subst hx2; subst hx3; subst hx4; subst hx5
  have hsC0 := hsC
  obtain ⟨⟨hg, h22, h23, hes, hrs, h14, hsd, hch⟩, hkn, hdr, hd40, hdb⟩ := hsC
  have ho := oD_B D
  have hRm : R ∈ g.2.1 := by rw [← hRe]; exact getD_mem hr dR
  have hRk := hg.2.1 R hRm
  have h30 := hrs.1
  have hRA : rulAt A r R := by have := (hrs.2 r hr).2; rw [hRe, Nat.zero_add] at this; exact this
  have him : i < m ∧ m ≤ j := by rcases hm with ⟨_, q⟩ | ⟨_, q1, q2⟩ <;> omega
  have hf16 := hRk.2.1
  have hw16 := hRk.1
  have hob := ho R.1 i j
  have h15f : rk g R.2.1 ≤ 15 := cnt_15 hg hf16
  refine e_X11_firstOf (s_cell (by omega) rfl rfl (b_X11_firstOf_5 (s_cell (by omega) rfl rfl (b_X11_firstOf_12 (s_cell (by omega) rfl rfl (b_X11_firstOf_19 ⟨xin_n (by omega) (by omega), ?_⟩))))))
  rw [cl_n (by omega), hRA.1]
  refine s_ownCost (by omega) hdr hd40 hdb rfl rfl rfl (by omega) (by omega) (by omega) (b_X11_firstOf_34 ?_)
  rw [nI_1]
  refine s_foW hd hsC0 hr hRe hij hj hm hK hw hL (by omega) hrw hab (fun A1 B1 hA1 hB1 hB1r hrow1 => ?_)
  have f1 : fP row z I J A B I J A1 B1 := ⟨fun p a _ => hA1 p a, fun p i _ a => by rw [hA1 p a], hB1, hB1r, fun _ _ _ => rfl, fun _ _ => rfl⟩
  refine if_bI rfl (fun c => ⟨Or.inl rfl, hN c A1 B1 f1⟩) (fun c => ?_)
  have hsub2 := hsub c
  have hY2 := hY c
  clear hsub hY hN hab
  have hlen : 1 ≤ nA.length := by
    rcases hsub2 with ⟨s, nds, _, _, _, _, _, e⟩ | ⟨_, s, nds, t, nds2, _, _, _, _, _, _, _, _, _, _, _, e⟩ <;> (rw [e]; simp)
  refine s_nodeM (by omega) h39 (by omega) (b_X11_firstOf_324 ?_)
  generalize hA2e : va_up (va_up (va_up (va_up A1 22 (upd (A1 22) z (nI i))) 23 (upd (A1 23) z (nI j))) 24 (upd (A1 24) z (nI r))) 25 (upd (A1 25) z (nI row)) = A2
  have hA2o : ∀ p, p < 22 ∨ 25 < p → A2 p = A1 p := fun p hp => by rw [← hA2e, un_v (by omega), un_v (by omega), un_v (by omega), un_v (by omega)]
  have hA2z : A2 22 z = nI i ∧ A2 23 z = nI j ∧ A2 24 z = nI r ∧ A2 25 z = nI row := by
    rw [← hA2e]
    refine ⟨?_, ?_, ?_, ?_⟩
    · rw [un_v (by decide), un_v (by decide), un_v (by decide), ue_v, ue_i]
    · rw [un_v (by decide), un_v (by decide), ue_v, ue_i]
    · rw [un_v (by decide), ue_v, ue_i]
    · rw [ue_v, ue_i]
  have hA2i : ∀ p i, i < z → A2 p i = A1 p i := fun p i hi => by
    rw [← hA2e]
    by_cases e1 : p = 25
    · subst e1; rw [ue_v, un_i (by omega)]
    · rw [un_v e1]
      by_cases e2 : p = 24
      · subst e2; rw [ue_v, un_i (by omega)]
      · rw [un_v e2]
        by_cases e3 : p = 23
        · subst e3; rw [ue_v, un_i (by omega)]
        · rw [un_v e3]
          by_cases e4 : p = 22
          · subst e4; rw [ue_v, un_i (by omega)]
          · rw [un_v e4]
  have f2 : fP row z I J A B (upd I 39 (nI (z + 1))) J A2 B1 := ⟨fun p a b => (hA2o p (by omega)).trans (hA1 p a), fun p i a b => (hA2i p i a).trans (by rw [hA1 p b]), hB1, hB1r, fun i a _ => un_i a, fun _ _ => rfl⟩
  have hsC2 := sC_fr hsC0 f2.2.2.2.2.1 f2.1 f2.2.2.1
  have ra : ∀ {A' : Nat → Nat → Int32}, (∀ p, p ≠ 14 → (p < 21 ∨ 25 < p) → A' p = A p) → rulAt A' r R := fun hA' => rulAt_fr hRA (fun p a b => hA' p (by omega) (by omega))
  have hRA2 := ra f2.1
  -- the node's sign
  have fin : ∀ (I' : Nat → Int32) (A' : Nat → Nat → Int32) (B' : Nat → Nat → Int64) (M : List Nd) (kk : Nat), nA = (u, i, j, (r : Int), row) :: M → u = 625 * R.1 + kk → kk < 625 → I' 39 = nI (z + 1 + M.length) → ndA A' (z + 1) M → fP row z I J A B I' J A' B' → (∀ p, p ≠ 14 → A' p z = A2 p z) → xG l d 183 Q 501 [some (.ref 0), none, none, none, none, none, none, none, none, none, none, none, some (.int (nI z)), none, none, none, none] [.int (nI kk), .int ((625 : Int32) * nI R.1), .int (nI z), .ref 21] (wM I' J A' B') 0 0 := by
    intro I' A' B' M kk hM hu hkk e39 hnd hf hzz
    refine b_X11_firstOf_501 ?_
    rw [cl_n (by omega), ue_i, show (625 : Int32) * nI R.1 + nI kk = nI u by rw [hu]; exact add_of (mul_of (a := 625) rfl rfl) rfl]
    refine ⟨xin_n (by omega) (by omega), xin_n (by omega) (by omega), Or.inr rfl, hY2 _ _ B' ?_ (ue_i _ _ _) ?_ ⟨fun p a b => ?_, fun p q a b => ?_, hf.2.2.1, hf.2.2.2.1, fun q a b => ?_, hf.2.2.2.2.2⟩⟩
    · rw [un_i (by decide), e39, hM, List.length_cons, show z + 1 + M.length = z + (M.length + 1) by omega]
    · rw [hM]
      refine ndA_cons ⟨?_, ?_, ?_, ?_, ?_⟩ (fun k hk => ?_)
      · rw [ue_v, ue_i]
      · rw [un_v (by decide), hzz 22 (by decide)]; exact hA2z.1
      · rw [un_v (by decide), hzz 23 (by decide)]; exact hA2z.2.1
      · rw [un_v (by decide), hzz 24 (by decide), hA2z.2.2.1]; exact (iC_n r).symm
      · rw [un_v (by decide), hzz 25 (by decide)]; exact hA2z.2.2.2
      · have := hnd k hk
        rw [ue_v, un_i (by omega), un_v (by decide), un_v (by decide), un_v (by decide), un_v (by decide)]; exact this
    · rw [un_v (by omega)]; exact hf.1 p a b
    · by_cases e : p = 21
      · subst e; rw [ue_v, un_i (by omega)]; exact hf.2.1 21 q a b
      · rw [un_v e]; exact hf.2.1 p q a b
    · rw [un_i b]; exact hf.2.2.2.2.1 q a b
  rw [cl_n (by omega), hRA2.2.1]
  refine ⟨xin_n (by omega) (by omega), ?_⟩
  rcases hsub2 with ⟨s, nds, h1, hpre, hpk, hs, hmk, hnA⟩ | ⟨c2, s, nds, t, nds2, h1, hpre, hpk, hs, hsin, hscat, hscost, hpre2, hpk2, ht, hmk, hnA⟩
  · -- one part
    have hmj : m = j := by rcases hm with ⟨_, q⟩ | ⟨q, _⟩; exact q; exact absurd h1 q
    subst hmj
    have hrk : rk g R.2.1 < rk g R.1 := gOk_rk hg hRm h1
    have hlen2 : nA.length = nds.length + 1 := by rw [hnA, List.length_cons]
    have hb1 : row + 1 + 16 * (m - i - 1) + rk g R.2.1 ≤ 240 := by omega
    refine ihp _ (upd I 39 (nI (z + 1))) J A2 B1 (nI i) (nI m) (nI R.2.1) (nI (row + 1)) i m R.2.1 (wFst true R (ch g (oD D) ws m m) wt) (L - oD D R.1 i m) (row + 1) (z + 1) s nds rfl rfl rfl rfl hj hpre hpk hb1 (by omega) hsC2 hrow1 (ue_i _ _ _) (fun I3 A3 B3 e39 e47 hnd hf3 => b_X11_firstOf_341 ?_)
    have hf := fP_trans f2 hf3 (by omega) (by omega)
    have hRA3 := ra hf.1
    rw [cl_n (by omega), hRA3.2.2.1, h1, if_pos (show o2i none = -1 from rfl), e47, mod625 hs, show (0 : Int32) - 0 / 625 * 625 = nI 0 by decide +kernel, hRA3.1]
    refine ⟨xin_n (by omega) (by omega), xin_n (by omega) (by omega), by decide, by decide, s_made (b := 0) (by omega) rfl (by omega) rfl (mod_lt625 _) rfl (by omega) hRk hRA3 (fun A4 h14' => ?_)⟩
    unfold mkS at hmk
    rw [show (0 : Nat) % 625 = 0 from rfl] at hmk
    cases hk' : mkK R.2.2.2.1 (s % 625) 0 with
    | none => rw [hk'] at hmk; cases hmk
    | some kk =>
      rw [hk'] at hmk
      have hmk' : some (625 * R.1 + kk) = some u := hmk
      have hu : u = 625 * R.1 + kk := (Option.some.inj hmk').symm
      have hk625 := mkK_lt (by split <;> omega) hRk.2.2.2.2.1 hk'
      refine fin I3 A4 B3 nds kk hnA hu hk625 e39 (ndA_fr hnd (Nat.le_refl _) (fun p q _ b => by rw [h14' p b])) ⟨fun p a b => (h14' p a).trans (hf.1 p a b), fun p q a b => by rw [h14' p b]; exact hf.2.1 p q a b, hf.2.2⟩ (fun p hp => by rw [h14' p hp]; exact hf3.2.1 p z (by omega) hp)
  · -- two parts
    have hmm : i < m ∧ m < j := by rcases hm with ⟨q, _⟩ | ⟨_, q⟩; rw [h1] at q; cases q; exact q
    have hc216 := hRk.2.2.1 c2 h1
    have h15s : rk g c2 ≤ 15 := cnt_15 hg hc216
    have hlen2 : nA.length = nds.length + nds2.length + 1 := by rw [hnA, List.length_cons, List.length_append]
    obtain ⟨hb1, hb2⟩ := pk_nums hrow hmm.1 hmm.2 h15f h15s
    have hmw : m ≤ ws.length := Nat.le_trans (Nat.le_of_lt hmm.2) hj
    have hzz1 : z + 1 + nds.length ≤ 500 := by omega
    have hzz2 : z + 1 + nds.length + nds2.length ≤ 500 := by omega
    refine ihp _ (upd I 39 (nI (z + 1))) J A2 B1 (nI i) (nI m) (nI R.2.1) (nI (row + 1)) i m R.2.1 (wFst true R (ch g (oD D) ws m j) wt) (L - oD D R.1 i j) (row + 1) (z + 1) s nds rfl rfl rfl rfl hmw hpre hpk hb1 hzz1 hsC2 hrow1 (ue_i _ _ _) (fun I3 A3 B3 e39 e47 hnd hf3 => b_X11_firstOf_341 ?_)
    have hf := fP_trans f2 hf3 (by omega) (by omega)
    have hRA3 := ra hf.1
    have hsC3 := sC_fr hsC0 hf.2.2.2.2.1 hf.1 hf.2.2.1
    have hcA := hsC3.1.2.2.2.2.2.2.2 i m hmm.1 hmw
    have hkA := hsC3.2.1 i m hmm.1 hmw
    have hcB := hsC3.1.2.2.2.2.2.2.2 m j hmm.2 hj
    have hkB := hsC3.2.1 m j hmm.2 hj
    have hcV := hsC3.1.2.2.2.2.2.2.2 i j hij hj
    have hkV := hsC3.2.1 i j hij hj
    have hj14 : j ≤ 14 := by omega
    have hbA := cB_ch hg ho ws hmm.1 (show m ≤ 14 by omega) s
    have hbB := cB_ch hg ho ws hmm.2 hj14
    have hbV := cB_ch hg ho ws hij hj14
    have lA := hcA.1
    have lB := hcB.1
    have lV := hcV.1
    have hat := sL_at hs hsin
    have hks := hkA _ hat.1
    rw [hat.2, dc_cy hsin] at hks
    rw [cl_n (by omega), hRA3.2.2.1, h1, show o2i (some c2) = nI c2 from rfl, if_neg (ne_m1 (by omega)), e47]
    refine ⟨xin_n (by omega) (by omega), s_find (V := ch g (oD D) ws i m) (by omega) rfl (by omega) rfl hs lA hcA.2.1 (fun k hk => (hcA.2.2 k hk).1) (fun hn => by rw [hn] at hsin; cases hsin) (fun _ _ => b_X11_firstOf_380 ?_)⟩
    rw [show (64 : Int32) * nI (15 * i + m) + nI (ix (ch g (oD D) ws i m) s) = nI (64 * (15 * i + m) + ix (ch g (oD D) ws i m) s) from add_of (mul_of (a := 64) rfl rfl) rfl, cl_n (by omega), hks, iC_add]
    refine ⟨xin_n (by omega) (by omega), ?_⟩
    have hgs := fun {y : Nat} => gs_eq (y := y) hg ho hK hw hRm hmm.1 hmm.2 hj14 hL h1 hsin hscat
    have hpar := fun {y u : Nat} => ch_par (y := y) (s := u) hg (oD D) ws hmm.1 hmm.2 hRm h1 hsin hscat
    have hrw3 : rowB B3 row (ch g (oD D) ws i j) R.1 wt L := fun p hp hc => by rw [hf.2.2.2.1 _ (by omega)]; exact hrw p hp hc
    generalize hoth : oD D R.1 i j + cy (ch g (oD D) ws i m s) = oth at hgs
    have hob2 : -1000000 ≤ oth ∧ oth ≤ 1000000 := by omega
    have hLL : wFst true R (ch g (oD D) ws m j) wt s = L - oth := by omega
    rw [hLL] at hpre2
    generalize hVb : ch g (oD D) ws m j = Vb at hcB hkB hbB lB hgs hpar
    generalize hV : ch g (oD D) ws i j = V at hcV hkV hbV lV hgs hpar hrw3
    have loop : ∀ k q (A4 : Nat → Nat → Int32) (B4 : Nat → Nat → Int64), (sL Vb).length - q < k → q ≤ (sL Vb).length → (∀ p, p ≠ 14 → A4 p = A3 p) → (∀ p, p ≠ 26 → B4 p = B3 p) → (∀ p, p < 64 * (row + 1) → B4 26 p = B3 26 p) → (∀ p, p < q → (sL Vb).getD p 0 / 625 = c2 → B4 26 (64 * (row + 1) + p) = (if cy (Vb ((sL Vb).getD p 0)) + mkW true wt (mkS R s ((sL Vb).getD p 0)) = L - oth then 1 else 0)) → xG l d 183 Q 388 [some (.ref 0), none, some (.int (nI j)), some (.int (nI m)), some (.int (nI r)), some (.int (nI row)), some (.int (nI (15 * i + j))), none, some (.int (nI (15 * m + j))), none, some (.int (nI (row + 1))), none, some (.int (nI z)), some (.int (nI s)), none, some (.int (iC oth)), some (.int (nI q))] [] (wM I3 J A4 B4) 0 0 := by
      intro k
      induction k with
      | zero => intro q A4 B4 hk; omega
      | succ k ih =>
        intro q A4 B4 hk hq hA4 hB4 hB4r hset
        have hf4 : fP row z I J A B I3 J A4 B4 := ⟨fun p a b => (hA4 p a).trans (hf.1 p a b), fun p x a b => by rw [hA4 p b]; exact hf.2.1 p x a b, fun p a => (hB4 p a).trans (hf.2.2.1 p a), fun x a => (hB4r x a).trans (hf.2.2.2.1 x a), hf.2.2.2.2.1, hf.2.2.2.2.2⟩
        have hRA4 := ra hf4.1
        refine b_X11_firstOf_388 ⟨xin_n (by omega) (by omega), if_le (a := (sL Vb).length) (by rw [cl_n (by omega), hA4 17 (by decide)]; exact hcB.2.1) rfl (by omega) (by omega) (fun z2 => ?_) (fun z2 => ?_)⟩
        · rw [cl_n (by omega), hRA4.2.2.1, h1, show o2i (some c2) = nI c2 from rfl]
          have hsC4 := sC_fr hsC0 hf4.2.2.2.2.1 hf4.1 hf4.2.2.1
          have hrb : rowB B4 (row + 1) (ch g (oD D) ws m j) c2 (fun y => mkW true wt (mkS R s y)) (L - oth) := by rw [hVb]; exact fun p hp hc => hset p (by omega) hc
          refine ⟨xin_n (by omega) (by omega), ihp _ I3 J A4 B4 (nI m) (nI j) (nI c2) (nI (row + 1)) m j c2 (fun y => mkW true wt (mkS R s y)) (L - oth) (row + 1) (z + 1 + nds.length) t nds2 rfl rfl rfl rfl hj hpre2 hpk2 hb2 hzz2 hsC4 hrb e39 (fun I5 A5 B5 g39 g47 hnd5 hf5 => b_X11_firstOf_460 ?_)⟩
          have hf6 := fP_trans hf4 hf5 (by omega) (by omega)
          have hRA5 := ra hf6.1
          rw [cl_n (by omega), g47, mod625 hs, mod625 ht, hRA5.1]
          refine ⟨xin_n (by omega) (by omega), by decide, by decide, s_made (by omega) rfl (by omega) rfl (mod_lt625 _) rfl (mod_lt625 _) hRk hRA5 (fun A6 h14' => ?_)⟩
          unfold mkS at hmk
          cases hk' : mkK R.2.2.2.1 (s % 625) (t % 625) with
          | none => rw [hk'] at hmk; cases hmk
          | some kk =>
            rw [hk'] at hmk
            have hmk' : some (625 * R.1 + kk) = some u := hmk
            have hu : u = 625 * R.1 + kk := (Option.some.inj hmk').symm
            have hk625 := mkK_lt (by split <;> omega) hRk.2.2.2.2.1 hk'
            refine fin I5 A6 B5 (nds ++ nds2) kk hnA hu hk625 (by rw [g39, List.length_append, Nat.add_assoc]) (ndA_app (ndA_fr hnd (Nat.le_refl _) (fun p x a b => ?_)) (ndA_fr hnd5 (Nat.le_refl _) (fun p x _ b => by rw [h14' p b]))) ⟨fun p a b => (h14' p a).trans (hf6.1 p a b), fun p x a b => by rw [h14' p b]; exact hf6.2.1 p x a b, hf6.2.2⟩ (fun p hp => ?_)
            · rw [h14' p b, hf5.2.1 p x (by omega) b, hA4 p b]
            · rw [h14' p hp, hf5.2.1 p z (by omega) hp, hA4 p hp]; exact hf3.2.1 p z (by omega) hp
        · have hyn := sL_in z2
          have hV4 : cM A4 B4 (15 * i + j) V := by unfold cM at hcV ⊢; rw [hA4 17 (by decide), hA4 18 (by decide), hB4 20 (by decide)]; exact hcV
          have hB4' : cM A4 B4 (15 * m + j) Vb := by unfold cM at hcB ⊢; rw [hA4 17 (by decide), hA4 18 (by decide), hB4 20 (by decide)]; exact hcB
          refine s_goes (V := V) (Vb := Vb) (wt := wt) (L := L) (R := R) (c2 := c2) (by omega) rfl (by omega) rfl (by omega) rfl (by omega) rfl hs rfl (by omega) rfl rfl hob2.1 hob2.2 hRk hRA4 h1 hV4 (kM_14 hkV hA4) hbV hB4' (kM_14 hkB hA4) hbB z2 (fun u hcu hmu => (hpar hyn.2 hcu hmu).1) (fun p hp hc => by rw [hB4r _ (by omega)]; exact hrw3 p hp hc) (fun A5 h14' => b_X11_firstOf_430 ?_)
          have hA5 : ∀ p, p ≠ 14 → A5 p = A3 p := fun p hp => (h14' p hp).trans (hA4 p hp)
          have hgq := fun h => hgs (y := (sL Vb).getD q 0) hyn.2 h
          generalize hy : (sL Vb).getD q 0 = y at hyn hgq
          rw [show (64 : Int32) * nI (row + 1) + nI q = nI (64 * (row + 1) + q) from add_of (mul_of (a := 64) rfl rfl) rfl, cl_n (by omega), nI_1]
          have put : ∀ v : Int64, (∀ _ : y / 625 = c2, v = (if cy (Vb y) + mkW true wt (mkS R s y) = L - oth then 1 else 0)) → xG l d 183 Q 388 [some (.ref 0), none, some (.int (nI j)), some (.int (nI m)), some (.int (nI r)), some (.int (nI row)), some (.int (nI (15 * i + j))), none, some (.int (nI (15 * m + j))), none, some (.int (nI (row + 1))), none, some (.int (nI z)), some (.int (nI s)), none, some (.int (iC oth)), some (.int (nI (q + 1)))] [] (wM I3 J A5 (va_up B4 26 (vp_updL (B4 26) (64 * (row + 1) + q) v))) 0 0 := fun v hv => by
            refine ih (q + 1) A5 _ (by omega) (by omega) hA5 (fun p hp => by rw [un_v hp]; exact hB4 p hp) (fun p hp => by rw [ue_v, un_l (by omega)]; exact hB4r p hp) (fun p hp hc => ?_)
            rw [ue_v]
            by_cases e : p = q
            · subst e; rw [ue_l, hy]; rw [hy] at hc; exact hv hc
            · rw [un_l (by omega)]; exact hset p (by omega) hc
          refine if_bI rfl (fun ef => ⟨xin_n (by omega) (by omega), put 0 (fun hc => ?_)⟩) (fun ef => ⟨xin_n (by omega) (by omega), put 1 (fun hc => ?_)⟩)
          · rw [hgq hc] at ef
            have ef := of_decide_eq_false ef
            rw [if_neg (by omega)]
          · rw [hgq hc] at ef
            have ef := of_decide_eq_true ef
            rw [if_pos (by omega)]
    exact loop _ 0 A3 B3 (Nat.lt_succ_self _) (by omega) (fun _ _ => rfl) (fun _ _ => rfl) (fun _ _ => rfl) (fun p hp => by omega)
end M29
