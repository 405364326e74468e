/-! ===== the class: tree, mark ===== -/
/-- by number, costs don't matter -/
def eqT (T T' : Nat → Nat → Nat → Vl) : Prop := ∀ i j, sL (T i j) = sL (T' i j) ∧ ∀ s, wy (T i j s) = wy (T' i j s)
theorem worN (v : Vl) : worG false v = ((sat (wy v) : Nat) : Int) := rfl
theorem wFst_w {R : Rule} {V V' : Nat → Vl} (hs : sL V = sL V') (hw : ∀ s, wy (V s) = wy (V' s)) (wt : Nat → Int) : wFst false R V wt = wFst false R V' wt := by
  funext x
  unfold wFst wFi
  have : (fun (t : Int) (y : Nat) => if some (y / 625) = R.2.2.1 then eitG false t (bthG false (worG false (V y)) (mkW false wt (mkS R x y))) else t) = (fun t y => if some (y / 625) = R.2.2.1 then eitG false t (bthG false (worG false (V' y)) (mkW false wt (mkS R x y))) else t) := by
    funext t y
    rw [worN, worN, hw y]
  rw [hs, this]
theorem vO_w {g : Gram} {T T' : Nat → Nat → Nat → Vl} (h : eqT T T') (wt : Nat → Int) (i j : Nat) : vO false g T wt i j = vO false g T' wt i j := by
  funext op
  unfold vO vlG
  rw [(h i op.2).1, wFst_w (h op.2 j).1 (h op.2 j).2]
  have : (fun (t : Int) (x : Nat) => if x / 625 = (g.2.1.getD op.1.toNat dR).2.1 then eitG false t (bthG false (worG false (T i op.2 x)) (wFst false (g.2.1.getD op.1.toNat dR) (T' op.2 j) wt x)) else t) = (fun t x => if x / 625 = (g.2.1.getD op.1.toNat dR).2.1 then eitG false t (bthG false (worG false (T' i op.2 x)) (wFst false (g.2.1.getD op.1.toNat dR) (T' op.2 j) wt x)) else t) := by
    funext t x
    rw [worN, worN, (h i op.2).2 x]
  rw [this]
theorem pk_w {g : Gram} {T T' : Nat → Nat → Nat → Vl} (h : eqT T T') (ws : List (List Nat)) : ∀ (f i j c : Nat) (wt : Nat → Int) (n : Int) (dep : Nat), pk false g T ws f i j c wt n dep = pk false g T' ws f i j c wt n dep
  | 0, i, j, c, wt, n, dep => rfl
  | f + 1, i, j, c, wt, n, dep => by
    have hv := vO_w (g := g) h wt i j
    cases hch : chG false (vO false g T wt i j) (optL g ws i j c) n with
    | none =>
      have hch' : chG false (vO false g T' wt i j) (optL g ws i j c) n = none := by rw [← hv]; exact hch
      unfold pk
      rw [hch, hch']
    | some p =>
      obtain ⟨op, n1⟩ := p
      have hch' : chG false (vO false g T' wt i j) (optL g ws i j c) n = some (op, n1) := by rw [← hv]; exact hch
      rw [pk_s hch, pk_s hch', wFst_w (h op.2 j).1 (h op.2 j).2, pk_w h ws f]
      generalize g.2.1.getD op.1.toNat dR = R
      by_cases c1 : op.1 < 0
      · rw [if_pos c1, if_pos c1]
      · rw [if_neg c1, if_neg c1]
        cases pk false g T' ws f i op.2 R.2.1 (wFst false R (T' op.2 j) wt) n1 (dep + 1) with
        | none => rfl
        | some p1 =>
          obtain ⟨s1, n2, nds1⟩ := p1
          show (if R.2.2.1 = none then _ else (match pk false g T ws f op.2 j (R.2.2.1.getD 0) (fun y => mkW false wt (mkS R s1 y)) n2 (dep + 1) with | none => none | some (t, n3, nds2) => some ((mkS R s1 t).getD 0, n3, ((mkS R s1 t).getD 0, i, j, op.1, dep) :: (nds1 ++ nds2)))) = (if R.2.2.1 = none then _ else (match pk false g T' ws f op.2 j (R.2.2.1.getD 0) (fun y => mkW false wt (mkS R s1 y)) n2 (dep + 1) with | none => none | some (t, n3, nds2) => some ((mkS R s1 t).getD 0, n3, ((mkS R s1 t).getD 0, i, j, op.1, dep) :: (nds1 ++ nds2))))
          rw [pk_w h ws f op.2 j (R.2.2.1.getD 0) (fun y => mkW false wt (mkS R s1 y)) n2 (dep + 1)]
theorem eqT_ch (g : Gram) (o o' : Own) (ws : List (List Nat)) : eqT (ch g o ws) (ch g o' ws) := fun i j => ⟨sL_ch g o o' ws i j, fun s => wy_ch g o o' ws i j s⟩
theorem chX_fr2 {A A' : Nat → Nat → Int32} {B B' : Nat → Nat → Int64} {g : Gram} {o : Own} {ws : List (List Nat)} (h : chX A B g o ws) (hA : ∀ p, (p < 26 ∨ p = 31 ∨ 34 < p) → A' p = A p) (hB : ∀ p, p ≠ 35 → B' p = B p) : chX A' B' g o ws := by
  intro i j a c
  have := h i j a c
  unfold cX rX at this ⊢
  rw [hA 20 (by omega), hA 21 (by omega), hA 23 (by omega), hA 24 (by omega), hB 22 (by decide)]; exact this
theorem xInv_nd {S : St} {I I' : Nat → Int32} {A A' : Nat → Nat → Int32} {B B' : Nat → Nat → Int64} (h : xInv S I A B) {nd : List Nd} (h1 : nd.length ≤ 432) (h2 : ∀ p ∈ nd, okN S.ws p) (h2505 : I' 2505 = nI nd.length) (hnd : ndZ A' 0 nd) (hI : ∀ x, x ≠ 2505 → x ≠ 3107 → x ≠ 3109 → x ≠ 3111 → I' x = I x) (hA : ∀ p, (p < 26 ∨ p = 31 ∨ 34 < p) → A' p = A p) (hB : ∀ p, p ≠ 35 → B' p = B p) : xInv (S.setNd nd) I' A' B' := by
  obtain ⟨hok, ht, h101, hg, h1402, hws, h1701, hD, hpr, hch, hn, hout, hft⟩ := h
  have f : ∀ x, x < 2505 ∨ 3200 ≤ x → I' x = I x := fun x a => hI x (by omega) (by omega) (by omega) (by omega)
  refine ⟨stOk_nd hok h1 h2, ?_, (f 101 (by omega)).trans h101, gC_fr hg (fun i a b => f i (by omega)) (fun p a b => hA p (by omega)) (fun p a b => hB p (by omega)), (f 1402 (by omega)).trans h1402, fun k hk => by rw [hB 15 (by decide)]; exact hws k hk, (f 1701 (by omega)).trans h1701, drX_fr hD (hA 18 (by omega)), by rw [f 1702 (by omega)]; exact hpr, fun e => ⟨?_, fun q => ?_⟩, ⟨h2505, fun k hk => ?_⟩, ⟨(f 10 (by omega)).trans hout.1, fun k hk => by rw [hA 36 (by omega)]; exact hout.2 k hk⟩, (f 11 (by omega)).trans hft⟩
  · unfold tpX at ht ⊢
    rw [hA 2 (by omega)]; exact ht
  · obtain ⟨D', hc⟩ := (hch e).1
    exact ⟨D', chX_fr2 hc hA hB⟩
  · rw [f 1702 (by omega)] at q
    exact chX_fr2 ((hch e).2 q) hA hB
  · have := hnd k hk
    rw [Nat.zero_add] at this; exact this
section C38
variable {l : Launch} {J : Nat → Int64} {Q : Option Value → XW → Prop} {d : Nat} {tgt cg fg : Value} {I : Nat → Int32} {A : Nat → Nat → Int32} {B : Nat → Nat → Int64} {S : St}
theorem s_fill35 (hd : 2 ≤ d) {v : Int64} (hQ : ∀ (B' : Nat → Nat → Int64), (∀ p, p ≠ 35 → B' p = B p) → (∀ i, i < 60 → B' 35 i = v) → Q none (wC tgt cg fg I J A B')) : xK l d 193 [.ref 35, .int 0, .int 60, .long v] (wC tgt cg fg I J A B) Q := by
  obtain ⟨d, rfl⟩ : ∃ e, d = e + 2 := ⟨d - 2, by omega⟩
  have loop : ∀ m k (B1 : Nat → Nat → Int64), 60 - k < m → k ≤ 60 → (∀ p, p ≠ 35 → B1 p = B p) → (∀ i, i < k → B1 35 i = v) → xG l (d + 1) 193 Q 10 [some (.ref 35), none, some (.int 60), some (.long v), none, some (.int (nI k))] [] (wC tgt cg fg I J A B1) 0 0 := by
    intro m
    induction m with
    | zero => intro k B1 hm; exact absurd hm (by omega)
    | succ m ih =>
      intro k B1 hm hk h1 h3
      refine b_J7_fill_bad5a_p35_10 (if_le (a := 60) rfl rfl (by omega) (by omega) (fun z => hQ B1 h1 (fun i hi => h3 i (by omega))) (fun z => ⟨xin_n (by omega) (by omega), ?_⟩))
      rw [cl_n (by omega), nI_1]
      refine ih (k + 1) _ (by omega) (by omega) (fun p hp => by rw [un_v hp]; exact h1 p hp) (fun i hi => ?_)
      rw [ue_v]
      by_cases z : i = k
      · subst z; rw [ue_l]
      · rw [un_l z]; exact h3 i (by omega)
  refine e_J7_fill_bad5a_p35 (e_J7_rangeCheck_23922 ?_)
  rw [if_pos (by decide), if_pos (by decide), if_pos (by decide)]
  exact b_J7_fill_bad5a_p35_7 (loop 61 0 B (by omega) (by omega) (fun _ _ => rfl) (fun i hi => absurd hi (by omega)))
theorem s_find2 (hd : 9 ≤ d) {b : Bool} {g : Gram} {o : Own} {ws : List (List Nat)} {x2 : Int32} {x3 : Int64} {n n' : Int} {f s : Nat} {nds : List Nd} (hg : gOk g) (hl : 0 < ws.length) (h14 : ws.length ≤ 14) (hes : entC I A B g.1) (hrs : rulC I A g.2.1) (hch : chX A B g o ws) (hws : ∀ k, k < ws.length → vNm (ws.getD k []) ∧ B 15 k = lN (c32 (ws.getD k []))) (ho : b = true → oB o) (h1402 : I 1402 = nI ws.length) (hrt : rtC g < 16) (ha0 : A 40 0 = nI (rtC g)) (hx2 : x2 = bI b) (hx3 : x3 = lI n) (hpre : preG b g o ws f 0 ws.length (rtC g) (fun _ => if b = true then 0 else 1) n) (hpk : pk b g (ch g o ws) ws f 0 ws.length (rtC g) (fun _ => if b = true then 0 else 1) n 0 = some (s, n', nds)) (hlen : nds.length ≤ 432)
    (hQ : ∀ (I' : Nat → Int32) (J' : Nat → Int64) (A' : Nat → Nat → Int32) (B' : Nat → Nat → Int64), I' 2505 = nI nds.length → ndZ A' 0 nds → (∀ x, x ≠ 2505 → x ≠ 3107 → x ≠ 3109 → x ≠ 3111 → I' x = I x) → (∀ p, (p < 26 ∨ p = 31 ∨ 34 < p) → A' p = A p) → (∀ p, p ≠ 35 → B' p = B p) → Q none (wC tgt cg (.ref 37) I' J' A' B')) : xK l d 21 [.ref 31, .ref 37, .int x2, .long x3] (wC tgt cg fg I J A B) Q := by
  obtain ⟨d, rfl⟩ : ∃ e, d = e + 2 := ⟨d - 2, by omega⟩
  subst hx2; subst hx3
  have h15 : rk g (rtC g) ≤ 15 := cnt_15 hg hrt
  have hb01 : bI b = 0 ∨ bI b = 1 := by cases b; exact Or.inl rfl; exact Or.inr rfl
  refine e_X2_find ⟨hb01, ?_⟩
  have hI0 : ∀ x, x ≠ 2505 → x ≠ 3107 → x ≠ 3109 → (upd (upd (upd I 2505 0) 3107 0) 3109 (bI b)) x = I x := fun x a b' c => by rw [un_i c, un_i b', un_i a]
  have i2505 : (upd (upd (upd I 2505 0) 3107 0) 3109 (bI b)) 2505 = nI 0 := by rw [un_i (by decide), un_i (by decide), ue_i]; rfl
  have i3107 : (upd (upd (upd I 2505 0) 3107 0) 3109 (bI b)) 3107 = nI 0 := by rw [un_i (by decide), ue_i]; rfl
  have i3109 : (upd (upd (upd I 2505 0) 3107 0) 3109 (bI b)) 3109 = bI b := ue_i _ _ _
  generalize hII : upd (upd (upd I 2505 0) 3107 0) 3109 (bI b) = I0 at hI0 i2505 i3107 i3109 ⊢
  refine s_root (by omega) ha0 (b_X2_find_36 (s_pushNode (P := 0) (T := 0) (c := rtC g) (i := 0) (j := ws.length) (by omega) rfl hrt rfl ((hI0 1402 (by decide) (by decide) (by decide)).trans h1402) i3107 (by omega) i2505 (by omega) (fun I1 A1 hps => b_X2_find_47 ?_)))
  obtain ⟨p1, p2, p3, p4, p5, p6, p7, p8, p9, p10, p11, p12⟩ := hps
  have q3109 : I1 3109 = bI b := (p9 3109 (by decide) (by decide)).trans i3109
  rw [if_neg (by decide)]
  have go : ∀ (B1 : Nat → Nat → Int64), (∀ p, p ≠ 35 → B1 p = B p) → (∀ i, i < 60 → B1 35 i = lI (if b = true then 0 else 1)) → xG l (d + 1) 21 Q 72 [some (.ref 31), none, none, none, none, none, none] [] (wC tgt cg (.ref 37) I1 (va_up J 3110 (lI n)) A1 B1) 0 0 := fun B1 hB1 hw1 => by
    refine b_X2_find_72 ?_
    have hS1 : fSt b g o ws I1 A1 B1 := by
      have e0 : fSt b g o ws (upd I 3109 (bI b)) A B := by
        refine ⟨hg, h14, ?_, ?_, hch, ue_i _ _ _, hws, ho⟩
        · unfold entC at hes ⊢; rw [un_i (by decide)]; exact hes
        · unfold rulC at hrs ⊢; rw [un_i (by decide)]; exact hrs
      refine fSt_fr e0 (fun x a b' _ => ?_) p10 hB1
      rw [p9 x a b']
      by_cases e : x = 3109
      · subst e; rw [ue_i]; exact i3109
      · rw [un_i e]; exact hI0 x a b' e
    have l60 := (hch 0 ws.length hl (Nat.le_refl _)).1.1
    refine s_findT (b := b) (g := g) (o := o) (ws := ws) (by omega) f 0 ws.length (rtC g) _ n 0 0 s n' nds I1 _ A1 B1 hpre hpk (Nat.le_refl _) (by omega) (by omega) hS1 ⟨p2, by omega, p7, by omega, p4, p5⟩ p1 p3 p6 p8 (fun k hk _ => ?_) (ue_v _ _ _) (fun I2 J2 A2 B2 k cl g1 g2 g3 g4 g5 g6 g7 => ?_)
    · rw [Nat.mul_zero, Nat.zero_add]; exact hw1 k (by omega)
    · unfold CLh
      have e1 : nI (0 + 1) - 1 = nI 0 := by decide +kernel
      have e32 : A2 32 0 = nI 0 := (g5.2.2.1 0 (Nat.le_refl _)).trans p7
      refine b_X2_closeNodes_4 ?_
      rw [g2, e1, cl_n (a := 0) (by omega), e32, cl_n (a := 0) (by omega)]
      refine if_le (a := 224) rfl rfl (by omega) (by omega) (fun z1 => absurd z1 (by omega)) (fun _ => if_le (a := 0 + 1) (b := 0) rfl rfl (by omega) (by omega) (fun z1 => absurd z1 (by omega)) (fun _ => ⟨xin_n (by omega) (by omega), xin_n (by omega) (by omega), ?_⟩))
      rw [if_pos (show nI 0 = 0 from rfl)]
      refine b_X2_find_144 (b_X2_find_151 (b_X2_find_75 ?_))
      rw [nI_1, ue_i]
      have hfin : Q none (wC tgt cg (.ref 37) (upd I2 3107 (nI 0)) J2 (va_up A2 26 (upd (A2 26) 0 (nI (cs s)))) B2) := by
        refine hQ _ J2 _ B2 ?_ ?_ (fun x a b' c e => ?_) (fun p a => ?_) (fun p a => (g5.2.2.2.2.1 p a).trans (hB1 p a))
        · rw [un_i (by decide), g1, Nat.zero_add]
        · obtain ⟨y, tl, ehd⟩ := pk_head hpk
          rw [ehd] at g4 ⊢
          exact ndZ_of g4 (ue_v _ _ _) (fun p a b => un_v (by omega))
        · rw [un_i b', g5.2.2.2.2.2.2.1 x a b' e, p9 x a b', hI0 x a b' c]
        · rw [un_v (by omega), g5.1 p a, p10 p a]
      exact if_le (a := 432) rfl rfl (by omega) (by omega) (fun _ => hfin) (fun _ => by rw [if_pos (show nI 0 ≤ 0 by decide)]; exact hfin)
  refine if_bI q3109 (fun e => s_fill35 (by omega) (fun B1 h1 h2 => go B1 h1 (fun i hi => ?_))) (fun e => s_fill35 (by omega) (fun B1 h1 h2 => go B1 h1 (fun i hi => ?_)))
  · rw [h2 i hi, e]; rfl
  · rw [h2 i hi, e]; rfl
theorem x_tree (hd : 12 ≤ d) {x : Int32} (h : xInv S I A B) (hQ : ∀ (fg' : Value) (I' : Nat → Int32) (J' : Nat → Int64) (A' : Nat → Nat → Int32) (B' : Nat → Nat → Int64), (fg' = fg ∨ fg' = .ref 37) → xInv (stTr S x) I' A' B' → Q (some (.int (anTr S x))) (wC tgt cg fg' I' J' A' B')) : xK l d 101 [.ref 0, .int x] (wC tgt cg fg I J A B) Q := by
  obtain ⟨d, rfl⟩ : ∃ e, d = e + 1 := ⟨d - 1, by omega⟩
  have no : ∀ (_ : Nat), trB S x = false → Q (some (.int (-1))) (wC tgt cg fg I J A B) := fun _ e => by
    have := hQ fg I J A B (Or.inl rfl)
    unfold stTr anTr at this
    rw [if_neg (by rw [e]; decide), if_neg (by rw [e]; decide)] at this
    exact this h
  refine e_X10_tree ?_
  by_cases c1 : x < 0
  · rw [if_pos c1]
    exact no 0 (by unfold trB; rw [decide_eq_false (not_not_intro c1)]; rfl)
  rw [if_neg c1]
  have hle : (1000000 : Int32) ≤ x ↔ 999999 < x := by
    rw [Int32.le_iff_toInt_le, Int32.lt_iff_toInt_lt, show (1000000 : Int32).toInt = 1000000 by decide +kernel, show (999999 : Int32).toInt = 999999 by decide +kernel]; omega
  by_cases c2 : 999999 < x
  · rw [if_pos (hle.mpr c2)]
    exact no 0 (by unfold trB; rw [decide_eq_false (p := ¬ 999999 < x) (not_not_intro c2), Bool.false_and, Bool.and_false])
  rw [if_neg (fun q => c2 (hle.mp q))]
  obtain ⟨hxk, hk31⟩ := i32_nat c1
  have hst : Imp (trB S x = true) (stTr S x = S.setNd (trN S x.toNatClampNeg) ∧ anTr S x = nI (trN S x.toNatClampNeg).length) := fun e => by
    unfold stTr anTr; rw [if_pos e, if_pos e]; exact ⟨rfl, rfl⟩
  have hbb : trB S x = decide (x.toNatClampNeg < sat (trT S)) := by
    unfold trB; rw [decide_eq_true c1, decide_eq_true c2, Bool.true_and, Bool.true_and]
  generalize hkk : x.toNatClampNeg = k at hxk hk31 hst hbb
  have hsl := sat_le (trT S)
  refine s_treeTotal (by omega) h (b_X10_tree_16 ?_)
  rw [hxk, nI_long (by omega)]
  refine if_if (lg_lt.trans (ln_lt (by omega) (by omega))) (fun c3 => ?_) (fun c3 => no 0 (by rw [hbb]; exact decide_eq_false c3))
  have hb1 : trB S x = true := by rw [hbb]; exact decide_eq_true c3
  clear no
  obtain ⟨hs1, hs2⟩ := hst hb1
  rw [hs1, hs2] at hQ
  have e : S.ws ≠ [] := fun q => by
    have : trT S = 0 := if_pos q
    rw [this] at c3
    exact absurd c3 (by show ¬ k < sat 0; have : sat 0 = 0 := rfl; omega)
  have h1' := h
  obtain ⟨hok, ht, h101, hg, h1402, hws, h1701, hD, hpr, hch, hn, hout, hft⟩ := h
  have hl : 0 < S.ws.length := List.length_pos_iff.mpr e
  have h14 := hok.2.1
  have hrn : 0 < S.g.2.1.length := List.length_pos_iff.mpr (hok.2.2.2.1 e).1
  have hrt : rtC S.g < 16 := (hok.1.2.1 _ (getD_mem hrn dR)).1
  have ha0 : A 40 0 = nI (rtC S.g) := (hg.2.1.2.2 0 hrn).2.1
  obtain ⟨D', hcx⟩ := (hch e).1
  have hpre := tr_pre hok e c3
  obtain ⟨s, n', hp1, hp2, hp3⟩ := tr_res hok hg.1.2.1 hg.2.1.2.1 e c3
  have hpk : pk false S.g (ch S.g (oD D') S.ws) S.ws 240 0 S.ws.length (rtC S.g) (fun _ => if false = true then 0 else 1) (k : Int) 0 = some (s, ((n' : Nat) : Int), trN S k) := by
    rw [pk_w (eqT_ch S.g (oD D') (oD []) S.ws) S.ws]; exact hp1
  have hpreD : preN S.g (oD D') S.ws 240 0 S.ws.length (rtC S.g) (fun _ => 1) k := by
    refine ⟨hpre.1, hpre.2.1, hpre.2.2.1, hpre.2.2.2.1, ?_⟩
    have := hpre.2.2.2.2
    rw [cS_one] at this ⊢
    rw [rtT_w (ch_w S.g (oD D') (oD []) S.ws 0 S.ws.length)]; exact this
  refine s_find2 (b := false) (by omega) hok.1 hl h14 hg.1 hg.2.1 hcx (fun q hq => ⟨ws_v hok hq, hws q hq⟩) (fun q => by cases q) h1402 hrt ha0 rfl (lI_n k).symm ⟨fun _ => 1, k, rfl, rfl, hpreD⟩ hpk hp2 (fun I1 J1 A1 B1 g1 g2 g3 g4 g5 => b_X10_tree_36 ?_)
  rw [g1]
  exact hQ (.ref 37) I1 J1 A1 B1 (Or.inr rfl) (xInv_nd h1' hp2 hp3 g1 g2 g3 g4 g5)
theorem x_mark (hd : 12 ≤ d) (h : xInv S I A B) (hQ : ∀ (cg' fg' : Value) (I' : Nat → Int32) (J' : Nat → Int64) (A' : Nat → Nat → Int32) (B' : Nat → Nat → Int64), (cg' = cg ∨ cg' = .ref 37) → (fg' = fg ∨ fg' = .ref 37) → xInv (stMk S) I' A' B' → Q (some (.int (anMk S))) (wC tgt cg' fg' I' J' A' B')) : xK l d 106 [.ref 0] (wC tgt cg fg I J A B) Q := by
  obtain ⟨d, rfl⟩ : ∃ e, d = e + 1 := ⟨d - 1, by omega⟩
  have hok := h.1
  have hsat := sat_le (trT S)
  have hlc := tr_lc hok
  have hz : sat (trT S) = 0 ↔ lcS S = 1000000 := sat_0.trans hlc
  refine e_X10_mark (s_treeTotal (by omega) h (b_X10_mark_4 ?_))
  generalize hX : sat (trT S) = X at hsat hz ⊢
  refine if_if (lg0.trans (ln_eq (b := 0) (by omega) (by omega))) (fun z => ?_) (fun z => ?_)
  · have hb : mkB S = false := decide_eq_false (not_not_intro (hz.mp z))
    have := hQ cg fg I J A B (Or.inl rfl) (Or.inl rfl)
    unfold stMk anMk at this
    rw [if_neg (by rw [hb]; decide), if_neg (by rw [hb]; decide)] at this
    exact this h
  · have hnl : ¬ lcS S = 1000000 := fun q => z (hz.mpr q)
    have hb : mkB S = true := decide_eq_true hnl
    have hst : stMk S = S.setNd (mkN S) := by unfold stMk; rw [if_pos hb]
    have han : anMk S = nI (mkN S).length := by unfold anMk; rw [if_pos hb]
    rw [hst, han] at hQ
    obtain ⟨hne, _, _⟩ := mk_ne hb
    refine s_priceChart (by omega) h hne (fun cg' I1 A1 B1 hcg hi hcx => b_X10_mark_15 ?_)
    have h1' := hi
    obtain ⟨_, ht, h101, hg, h1402, hws, h1701, hD, hpr, hch, hn, hout, hft⟩ := hi
    have hl : 0 < S.ws.length := List.length_pos_iff.mpr hne
    have h14 := hok.2.1
    have hrn : 0 < S.g.2.1.length := List.length_pos_iff.mpr (hok.2.2.2.1 hne).1
    have hrt : rtC S.g < 16 := (hok.1.2.1 _ (getD_mem hrn dR)).1
    have ha0 : A1 40 0 = nI (rtC S.g) := (hg.2.1.2.2 0 hrn).2.1
    have hpre := mk_pre hok hb
    obtain ⟨s, hp1, hp2, hp3⟩ := mk_res hok hg.1.2.1 hg.2.1.2.1 hb
    refine s_find2 (b := true) (n := 0) (n' := 0) (by omega) hok.1 hl h14 hg.1 hg.2.1 hcx (fun q hq => ⟨ws_v hok hq, hws q hq⟩) (fun _ => oD_B S.D) h1402 hrt ha0 rfl rfl ⟨by omega, by omega, lcS S, hpre⟩ hp1 hp2 (fun I2 J2 A2 B2 g1 g2 g3 g4 g5 => b_X10_mark_28 ?_)
    rw [g1]
    exact hQ cg' (.ref 37) I2 J2 A2 B2 hcg (Or.inr rfl) (xInv_nd h1' hp2 hp3 g1 g2 g3 g4 g5)
end C38
