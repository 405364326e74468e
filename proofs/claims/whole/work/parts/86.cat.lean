/-! ===== a category's name on the tape, both sides ===== -/
def pOnly (t : Nat → Nat) (n : Nat) : List Nat := if skB t n (skL t n (skB t n 0)) = n ∧ skB t n 0 < skL t n (skB t n 0) ∧ skL t n (skB t n 0) ≤ skB t n 0 + 10 then ltr t (skB t n 0) (skL t n (skB t n 0)) else []
theorem skL_allLe (t : Nat → Nat) (n q : Nat) : allLe t q (skL t n q) = true := allLe_iff.mpr (fun i a b => skN_in (fun i => isLe (t i)) a b)
theorem pOnly_v (t : Nat → Nat) (n : Nat) : vNm (pOnly t n) := by
  unfold pOnly; split
  · rename_i h; exact ltr_v (skL_allLe t n _) h.2.2
  · exact ⟨fun x hx => (nomatch hx), Nat.zero_le _⟩
theorem pOnly_nmB (t : Nat → Nat) (n : Nat) : (if skB t n (skL t n (skB t n 0)) = n then nmB t n (skB t n 0) (skL t n (skB t n 0)) else 0) = c32 (pOnly t n) := by
  have hle : skL t n (skB t n 0) ≤ n := skN_le _ (skN_le _ (Nat.zero_le _))
  unfold pOnly nmB
  by_cases h : skB t n (skL t n (skB t n 0)) = n
  · rw [if_pos h]
    by_cases h2 : skB t n 0 < skL t n (skB t n 0) ∧ skL t n (skB t n 0) ≤ skB t n 0 + 10
    · rw [if_pos ⟨h2.1, h2.2, hle, skL_allLe t n _⟩, if_pos ⟨h, h2⟩]
    · rw [if_neg (fun z => h2 ⟨z.1, z.2.1⟩), if_neg (fun z => h2 z.2)]; rfl
  · rw [if_neg h, if_neg (fun z => h z.1)]; rfl
def anCat (S : St) : Int32 := if S.g.2.2.idxOf (pOnly S.t S.n) < S.g.2.2.length then nI (S.g.2.2.idxOf (pOnly S.t S.n)) else -1
theorem cat_no {S : St} (h : okCt S.g.2.2) (e : pOnly S.t S.n = [] ∨ isKw (pOnly S.t S.n) = true) : anCat S = -1 := by
  unfold anCat
  rw [if_neg]
  intro z
  have hm := List.idxOf_lt_length_iff.mp z
  have := h _ hm
  rcases e with e | e
  · exact this.1 e
  · rw [this.2] at e; cases e
section E3
variable {l : Launch} {J : Nat → Int64} {A : Nat → Nat → Int32} {B : Nat → Nat → Int64} {Q : Option Value → XW → Prop} {d : Nat} {I : Nat → Int32} {S : St} {tgt cg fg : Value}
theorem s_categoryOf1 (hd : 1 ≤ d) {cats : List (List Nat)} (hc : catC I B cats) {x : Int64} {nm : List Nat} (hx : x = lN (c32 nm)) (hv : vNm nm)
    (hQ : Q (some (.int (if cats.idxOf nm < cats.length then nI (cats.idxOf nm) else -1))) (wC tgt cg fg I J A B)) : xK l d 41 [.ref 37, .long x] (wC tgt cg fg I J A B) Q := by
  obtain ⟨d, rfl⟩ : ∃ e, d = e + 1 := ⟨d - 1, by omega⟩
  obtain ⟨hc1, hc2, hc3⟩ := hc
  have loop : ∀ m c, cats.length - c < m → c ≤ cats.length → (∀ i, i < c → cats.getD i [] ≠ nm) → xG l d 41 Q 2 [some (.ref 37), some (.long x), none, some (.int (nI c))] [] (wC tgt cg fg I J A B) 0 0 := by
    intro m
    induction m with
    | zero => intro c hm; exact absurd hm (by omega)
    | succ m ih =>
      intro c hm hcl hno
      refine b_X3_categoryOf_g1_2 (if_le hc1 rfl (by omega) (by omega) (fun h => ?_) (fun h => ⟨xin_of rfl (by omega) (by omega), ?_⟩))
      · rw [if_neg (idx_no (d := []) (fun i hi => hno i (by omega)))] at hQ; exact hQ
      · rw [cl_of rfl (by omega)]
        have hcc := hc3 c h
        refine if_if (show lg_cmp (B 45 c) x = 0 ↔ cats.getD c [] = nm from lg0.trans (by rw [hcc.2, hx]; exact nm_eq32 hcc.1 hv)) (fun e => ?_) (fun e => ?_)
        · have hi : cats.idxOf nm = c := idx_of (d := []) h e hno
          rw [hi, if_pos h] at hQ; exact hQ
        · rw [nI_1]
          exact ih (c + 1) (by omega) (by omega) (fun i hi => by
            by_cases z : i = c
            · rw [z]; exact e
            · exact hno i (by omega))
  exact e_X3_categoryOf_g1 (loop (cats.length + 1) 0 (by omega) (Nat.zero_le _) (fun i hi => absurd hi (by omega)))
theorem x_takeCategory (hd : 4 ≤ d) (h : xInv S I A B) (hQ : ∀ (I' : Nat → Int32), xInv (S.setN 0) I' A B → Q (some (.int (anCat S))) (wC tgt cg fg I' J A B)) : xK l d 112 [.ref 0] (wC tgt cg fg I J A B) Q := by
  obtain ⟨d, rfl⟩ : ∃ e, d = e + 1 := ⟨d - 1, by omega⟩
  obtain ⟨d, rfl⟩ : ∃ e, d = e + 1 := ⟨d - 1, by omega⟩
  have hinv : xInv (S.setN 0) (upd I 101 0) A B := by
    rw [← setT_id]
    exact xInv_t h (tpX_0 _) (ue_i _ _ _) (fun i hi => by unfold kI at hi; rw [un_i (by omega)]) (fun _ _ => rfl) (fun _ _ => rfl)
  have ht := h.2.1
  have h101 := h.2.2.1
  have hn := ht.1
  have h1 : skB S.t S.n 0 ≤ S.n := skN_le _ (Nat.zero_le _)
  have h2 : skL S.t S.n (skB S.t S.n 0) ≤ S.n := skN_le _ h1
  have h3 : skB S.t S.n (skL S.t S.n (skB S.t S.n 0)) ≤ S.n := skN_le _ h2
  have fin : ∀ x : Int64, x = lN (c32 (pOnly S.t S.n)) → xK l (d + 1) 41 [.ref 37, .long x] (wC tgt cg fg (upd I 101 0) J A B) (fun v9 w9 => xG l (d + 1) 112 Q 24 [none, none, none] (v9.toList ++ []) w9 0 0) := fun x hx => s_categoryOf1 (by omega) hinv.2.2.2.1.2.2.1 hx (pOnly_v _ _) (b_X10_takeCategory_24 (hQ _ hinv))
  have key := pOnly_nmB S.t S.n
  refine e_X10_takeCategory (e_X7_onlyName (s_behindBlanks (k := 0) ht (by omega) h101 rfl (by omega) (b_X7_onlyName_5 (s_behindLetters (k := skB S.t S.n 0) ht (by omega) h101 rfl (by omega) (b_X7_onlyName_11 (s_behindBlanks (k := skL S.t S.n (skB S.t S.n 0)) ht (by omega) h101 rfl (by omega) (b_X7_onlyName_17 ?_)))))))
  refine if_eq (a := skB S.t S.n (skL S.t S.n (skB S.t S.n 0))) rfl h101 (by omega) (by omega) (fun e => ?_) (fun e => ?_)
  · rw [if_pos e] at key
    refine s_nameBetween (k := skB S.t S.n 0) (e := skL S.t S.n (skB S.t S.n 0)) ht (by omega) h101 rfl (by omega) rfl (by omega) (b_X7_onlyName_30 (b_X10_takeCategory_7 (fin _ ?_)))
    rw [key]
  · rw [if_neg e] at key
    exact b_X10_takeCategory_7 (fin _ (by rw [← key]; rfl))
theorem x_category (hd : 5 ≤ d) (h : xInv S I A B) (hQ : ∀ (I' : Nat → Int32), xInv (S.setN 0) I' A B → Q (some (.int (anCat S))) (wC tgt cg fg I' J A B)) : xK l d 109 [.ref 0] (wC tgt cg fg I J A B) Q := by
  obtain ⟨d, rfl⟩ : ∃ e, d = e + 1 := ⟨d - 1, by omega⟩
  exact e_X10_category (x_takeCategory (by omega) h (fun I' hi => b_X10_category_4 (hQ I' hi)))
theorem s_isFree2 (hd : 1 ≤ d) {kk : Nat} {w : List Nat} (h6 : I 6 = nI kk) (hk : kk ≤ 4) (hj : kk = 2 → J 9 = lN (c27 w) ∧ vNm w)
    (hQ : Q (some (.int (bI (decide (kk = 2) && !isKw w)))) (wM I J A B)) : xK l d 137 [.ref 0] (wM I J A B) Q := by
  obtain ⟨d, rfl⟩ : ∃ e, d = e + 1 := ⟨d - 1, by omega⟩
  refine e_X11_isFree (if_eq h6 (b := 2) rfl (by omega) (by omega) (fun h => ?_) (fun h => ⟨Or.inl rfl, ?_⟩))
  · obtain ⟨hj9, hv⟩ := hj h
    have key : ∀ {v : List Nat} {x : Int64}, vNm v → x = lN (c27 v) → (lg_cmp (J 9) x = 0 ↔ w = v) := fun hw hx => lg0.trans (by rw [hj9, hx]; exact nm_eq hv hw)
    rw [decide_eq_true h, Bool.true_and] at hQ
    refine if_if (key kw_v.1 (by rw [kw_c.1]; rfl)) (fun e => ⟨Or.inl rfl, ?_⟩) (fun e1 => if_if (key kw_v.2.1 (by rw [kw_c.2.1]; rfl)) (fun e => ⟨Or.inl rfl, ?_⟩) (fun e2 => if_if (key kw_v.2.2.1 (by rw [kw_c.2.2.1]; rfl)) (fun e => ⟨Or.inl rfl, ?_⟩) (fun e3 => if_if (key kw_v.2.2.2 (by rw [kw_c.2.2.2]; rfl)) (fun e => ⟨Or.inl rfl, ?_⟩) (fun e4 => ⟨Or.inr rfl, ?_⟩))))
    · rw [show isKw w = true by simp [isKw, e]] at hQ; exact hQ
    · rw [show isKw w = true by simp [isKw, e]] at hQ; exact hQ
    · rw [show isKw w = true by simp [isKw, e]] at hQ; exact hQ
    · rw [show isKw w = true by simp [isKw, e]] at hQ; exact hQ
    · rw [show isKw w = false by simp [isKw, e1, e2, e3, e4]] at hQ; exact hQ
  · rw [decide_eq_false h] at hQ; exact hQ
theorem m_takeCategory (hd : 3 ≤ d) (h : mInv S I A B) (hQ : ∀ (I' : Nat → Int32) (J' : Nat → Int64), mInv (S.setN 0) I' A B → Q (some (.int (anCat S))) (wM I' J' A B)) : xK l d 172 [.ref 0] (wM I J A B) Q := by
  obtain ⟨d, rfl⟩ : ∃ e, d = e + 1 := ⟨d - 1, by omega⟩
  have hI := h
  obtain ⟨hok, ht, h2, hg, h28, h32, hws, hdr, hch, hnd, hout, hft⟩ := h
  have hn := ht.1
  have hct : okCt S.g.2.2 := hok.2.2.2.2.2.2.2.2.2.2.2
  have hinv : ∀ (I' : Nat → Int32), I' 2 = 0 → (∀ i, i ≠ 2 → i ≠ 3 → i ≠ 4 → i ≠ 5 → i ≠ 6 → i ≠ 8 → I' i = I i) → mInv (S.setN 0) I' A B := fun I' k2 k => by
    rw [← setT_id]
    exact mInv_t hI (tpM_0 _) k2 (fun i hi => by unfold nI_m at hi; exact k i (by omega) (by omega) (by omega) (by omega) (by omega) (by omega)) (fun _ _ => rfl) (fun _ _ => rfl)
  have h1 : skB S.t S.n 0 ≤ S.n := skN_le _ (Nat.zero_le _)
  have hL := skL_le S.t h1
  have hLa := skL_all (t := S.t) (n := S.n) h1
  have no : ∀ (I' : Nat → Int32) (J' : Nat → Int64), (pOnly S.t S.n = [] ∨ isKw (pOnly S.t S.n) = true) → I' 2 = 0 → (∀ i, i ≠ 2 → i ≠ 3 → i ≠ 4 → i ≠ 5 → i ≠ 6 → i ≠ 8 → I' i = I i) → Q (some (.int (-1))) (wM I' J' A B) := fun I' J' e k2 k => by
    have := hQ I' J' (hinv I' k2 k)
    rw [cat_no hct e] at this; exact this
  refine e_X11_takeCategory (s_blanks (k := 0) (n := S.n) (t := S.t) ht (by omega) (by rw [un_i (by decide), ue_i]; exact h2) (by rw [ue_i]; rfl) (by omega) (b_X11_takeCategory_22 ?_))
  rw [show skN (fun i => isBl (S.t i)) S.n 0 = skB S.t S.n 0 from rfl]
  have g3 : upd (upd (upd (upd I 2 0) 3 (I 2)) 4 0) 4 (nI (skB S.t S.n 0)) 3 = nI S.n := by rw [un_i (by decide), un_i (by decide), ue_i]; exact h2
  have g2 : upd (upd (upd (upd I 2 0) 3 (I 2)) 4 0) 4 (nI (skB S.t S.n 0)) 2 = 0 := by rw [un_i (by decide), un_i (by decide), un_i (by decide), ue_i]
  have g4 : upd (upd (upd (upd I 2 0) 3 (I 2)) 4 0) 4 (nI (skB S.t S.n 0)) 4 = nI (skB S.t S.n 0) := ue_i _ _ _
  have gf : ∀ i, i ≠ 2 → i ≠ 3 → i ≠ 4 → i ≠ 5 → i ≠ 6 → i ≠ 8 → upd (upd (upd (upd I 2 0) 3 (I 2)) 4 0) 4 (nI (skB S.t S.n 0)) i = I i := fun i a b c _ _ _ => by rw [un_i c, un_i c, un_i b, un_i a]
  generalize upd (upd (upd (upd I 2 0) 3 (I 2)) 4 0) 4 (nI (skB S.t S.n 0)) = I1 at g2 g3 g4 gf ⊢
  have hpo : pOnly S.t S.n = if skB S.t S.n (skL S.t S.n (skB S.t S.n 0)) = S.n ∧ skB S.t S.n 0 < skL S.t S.n (skB S.t S.n 0) ∧ skL S.t S.n (skB S.t S.n 0) ≤ skB S.t S.n 0 + 10 then ltr S.t (skB S.t S.n 0) (skL S.t S.n (skB S.t S.n 0)) else [] := rfl
  have hnb : skB S.t S.n 0 < S.n → isBl (S.t (skB S.t S.n 0)) = false := fun z => skN_stop (fun i => isBl (S.t i)) (Nat.zero_le _) z
  generalize hq : skB S.t S.n 0 = q at *
  rw [g4]
  refine if_le g3 rfl (by omega) (by omega) (fun z => ?_) (fun z => ?_)
  · refine no _ J (Or.inl ?_) (by rw [un_i (by decide)]; exact g2) (fun i a b c e f g => by rw [un_i e]; exact gf i a b c e f g)
    rw [hpo, if_neg]
    have : skL S.t S.n q = q := skN_end _ z
    omega
  · rw [cl_n (by omega)]
    have hb := ht.2 q z
    have hLe : skL S.t S.n q ≤ S.n := skN_le _ h1
    refine ⟨xin_n (by omega) (by omega), s_isLetter (by omega) hb.2 hb.1 (b_X11_takeCategory_53 (if_b rfl (fun c => ?_) (fun c => ?_)))⟩
    · refine no _ J (Or.inl ?_) (by rw [un_i (by decide)]; exact g2) (fun i a b c e f g => by rw [un_i e]; exact gf i a b c e f g)
      rw [hpo, if_neg]
      have : skL S.t S.n q = q := skN_no _ c
      omega
    · refine s_readName (k := q) ht (by omega) (by rw [un_i (by decide)]; exact g3) (by rw [un_i (by decide)]; exact g4) (ue_i _ _ _) z (LD_of c) (fun v hv => b_X11_takeCategory_62 ?_)
      have hge : skN (fun i => isLD (S.t i)) S.n q ≤ S.n := skN_le _ h1
      have hpos : q < skL S.t S.n q := by
        have := skN_yes (fun i => isLe (S.t i)) z c
        have h2 := skN_ge (fun i => isLe (S.t i)) S.n (q + 1)
        unfold skL; omega
      have hLD : skL S.t S.n q < skN (fun i => isLD (S.t i)) S.n q → isLD (S.t (skL S.t S.n q)) = true := fun w => skN_in (fun i => isLD (S.t i)) (n := S.n) (skN_ge _ S.n q) w
      have hnm : nmK S.t S.n q = 2 ↔ allLe S.t q (skN (fun i => isLD (S.t i)) S.n q) = true ∧ skN (fun i => isLD (S.t i)) S.n q ≤ q + 10 := by
        unfold nmK
        constructor
        · intro w
          split at w
          · rename_i w2; exact w2
          · split at w <;> omega
        · intro w; rw [if_pos w]
      generalize skN (fun i => isLD (S.t i)) S.n q = e at *
      have hk4 : nmK S.t S.n q ≤ 4 := by have := nmK_ne0 S.t S.n q; omega
      have k6 : upd (upd (upd (upd I1 5 (nI q)) 8 (nI (S.t q) - 48)) 4 (nI e)) 6 (nI (nmK S.t S.n q)) 6 = nI (nmK S.t S.n q) := ue_i _ _ _
      have k4 : upd (upd (upd (upd I1 5 (nI q)) 8 (nI (S.t q) - 48)) 4 (nI e)) 6 (nI (nmK S.t S.n q)) 4 = nI e := by rw [un_i (by decide), ue_i]
      have k3 : upd (upd (upd (upd I1 5 (nI q)) 8 (nI (S.t q) - 48)) 4 (nI e)) 6 (nI (nmK S.t S.n q)) 3 = nI S.n := by rw [un_i (by decide), un_i (by decide), un_i (by decide), un_i (by decide)]; exact g3
      have k2 : upd (upd (upd (upd I1 5 (nI q)) 8 (nI (S.t q) - 48)) 4 (nI e)) 6 (nI (nmK S.t S.n q)) 2 = 0 := by rw [un_i (by decide), un_i (by decide), un_i (by decide), un_i (by decide)]; exact g2
      have kf : ∀ i, i ≠ 2 → i ≠ 3 → i ≠ 4 → i ≠ 5 → i ≠ 6 → i ≠ 8 → upd (upd (upd (upd I1 5 (nI q)) 8 (nI (S.t q) - 48)) 4 (nI e)) 6 (nI (nmK S.t S.n q)) i = I i := fun i a b c e f g => by rw [un_i f, un_i c, un_i g, un_i e]; exact gf i a b c e f g
      generalize upd (upd (upd (upd I1 5 (nI q)) 8 (nI (S.t q) - 48)) 4 (nI e)) 6 (nI (nmK S.t S.n q)) = I2 at k2 k3 k4 k6 kf ⊢
      refine s_isFree2 (w := ltr S.t q e) (by omega) k6 hk4 (fun e2 => ⟨by rw [ue_v]; exact hv e2, ltr_v (hnm.mp e2).1 (hnm.mp e2).2⟩) (b_X11_takeCategory_66 (if_bI rfl (fun f => ?_) (fun f => ?_)))
      · refine no I2 _ ?_ k2 kf
        rw [hpo]
        by_cases w : skB S.t S.n (skL S.t S.n q) = S.n ∧ q < skL S.t S.n q ∧ skL S.t S.n q ≤ q + 10
        · rw [if_pos w]
          right
          have heq : skL S.t S.n q = e := by
            apply Nat.le_antisymm hL
            apply Nat.le_of_not_lt; intro w2
            have h6 := hLD w2
            have h7 : skB S.t S.n (skL S.t S.n q) = skL S.t S.n q := skN_no _ (LD_bl h6)
            omega
          have h8 : nmK S.t S.n q = 2 := hnm.mpr ⟨hLa.mpr heq, by omega⟩
          rw [decide_eq_true h8, Bool.true_and] at f
          rw [heq]; simpa using f
        · rw [if_neg w]; exact Or.inl rfl
      · rw [Bool.and_eq_true] at f
        have h8 : nmK S.t S.n q = 2 := of_decide_eq_true f.1
        have h9 := hnm.mp h8
        have heq : skL S.t S.n q = e := hLa.mp h9.1
        refine s_blanks (k := e) ht (by omega) k3 k4 hge (b_X11_takeCategory_75 ?_)
        rw [show skN (fun i => isBl (S.t i)) S.n e = skB S.t S.n e from rfl, ue_i, un_i (show (3 : Nat) ≠ 4 by decide)]
        have hse : skB S.t S.n e ≤ S.n := skN_le _ hge
        rw [heq] at hpo
        refine if_le k3 rfl (by omega) (by omega) (fun w => ?_) (fun w => ?_)
        · rw [if_pos ⟨by omega, by omega, h9.2⟩] at hpo
          have hj9 : va_up J 9 v 9 = lN (c27 (pOnly S.t S.n)) := by rw [ue_v, hpo]; exact hv h8
          have hcO := hg.2.2.2.2.2.1
          have h24 := hg.2.2.1
          have hfin := hQ (upd I2 4 (nI (skB S.t S.n e))) (va_up J 9 v) (hinv _ (by rw [un_i (by decide)]; exact k2) (fun i a b c e f g => by rw [un_i c]; exact kf i a b c e f g))
          unfold anCat at hfin
          have hpv := pOnly_v S.t S.n
          generalize pOnly S.t S.n = nm at hj9 hfin hpv
          have h24' : upd I2 4 (nI (skB S.t S.n e)) 24 = nI S.g.2.2.length := by rw [un_i (by decide), kf 24 (by decide) (by decide) (by decide) (by decide) (by decide) (by decide)]; exact h24
          generalize upd I2 4 (nI (skB S.t S.n e)) = I3 at h24' hfin
          have h16 := hcO.1
          have loop : ∀ m c, S.g.2.2.length - c < m → c ≤ S.g.2.2.length → (∀ i, i < c → S.g.2.2.getD i [] ≠ nm) → xG l d 172 Q 90 [some (.ref 0), some (.int (nI c))] [] (wM I3 (va_up J 9 v) A B) 0 0 := by
            intro m
            induction m with
            | zero => intro c hm; exact absurd hm (by omega)
            | succ m ih =>
              intro c hm hcl hno
              refine b_X11_takeCategory_90 (if_le h24' rfl (by omega) (by omega) (fun h => ?_) (fun h => ⟨xin_of rfl (by omega) (by omega), ?_⟩))
              · rw [if_neg (idx_no (d := []) (fun i hi => hno i (by omega)))] at hfin; exact hfin
              · rw [cl_of rfl (by omega)]
                have hcc := hcO.2 c h
                refine if_if (show lg_cmp (B 3 c) (va_up J 9 v 9) = 0 ↔ S.g.2.2.getD c [] = nm from lg0.trans (by rw [hcc.2, hj9]; exact nm_eq hcc.1 hpv)) (fun e => ?_) (fun e => ?_)
                · have hi : S.g.2.2.idxOf nm = c := idx_of (d := []) h e hno
                  rw [hi, if_pos h] at hfin; exact hfin
                · rw [nI_1]
                  exact ih (c + 1) (by omega) (by omega) (fun i hi => by
                    by_cases z : i = c
                    · rw [z]; exact e
                    · exact hno i (by omega))
          exact loop (S.g.2.2.length + 1) 0 (by omega) (Nat.zero_le _) (fun i hi => absurd hi (by omega))
        · refine no _ _ (Or.inl ?_) (by rw [un_i (by decide)]; exact k2) (fun i a b c e f g => by rw [un_i c]; exact kf i a b c e f g)
          rw [hpo, if_neg]; omega
theorem m_category (hd : 4 ≤ d) (h : mInv S I A B) (hQ : ∀ (I' : Nat → Int32) (J' : Nat → Int64), mInv (S.setN 0) I' A B → Q (some (.int (anCat S))) (wM I' J' A B)) : xK l d 188 [.ref 0] (wM I J A B) Q := by
  obtain ⟨d, rfl⟩ : ∃ e, d = e + 1 := ⟨d - 1, by omega⟩
  exact e_X11_category (m_takeCategory (S := S) (by omega) (mInv_0 h (fun i hi => un_i hi)) (fun I' J' hi => b_X11_category_9 (hQ I' J' hi)))
end E3
