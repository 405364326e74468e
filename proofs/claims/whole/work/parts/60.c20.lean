/-! ===== the class: a whole text ===== -/
def nxT (t : Nat → Nat) (n m j : Nat) (es : List Entry) (rs : List Rule) (cats : List (List Nat)) : (Nat × Nat) ⊕ Gram := if 0 < es.length + rs.length ∧ tK t n j = 0 then .inr (es, rs, cats) else pText t n m j es rs cats
theorem pText_W {t : Nat → Nat} {n m j : Nat} {es : List Entry} {rs : List Rule} {cats : List (List Nat)} (hw : tKey t n j kwW = true) : pText t n (m + 1) j es rs cats = sbd (sbd (pEnt t n j es.length cats) (pSemi t n)) fun q => nxT t n m (q.2.2 + 1) (es ++ [q.1]) rs q.2.1 := by
  rw [pText, if_pos hw]
  cases pEnt t n j es.length cats with
  | inl e => rfl
  | inr q =>
    rw [sbd_r, sbd_r]
    unfold pSemi
    by_cases h : tK t n q.2.2 = 4 ∧ tC t n q.2.2 = 59
    · rw [if_neg (not_not_intro h), if_neg (not_not_intro h), sbd_r]
      unfold nxT
      by_cases e : tK t n (q.2.2 + 1) = 0
      · rw [if_pos e, if_pos ⟨by simp; omega, e⟩]
      · rw [if_neg e, if_neg (fun z => e z.2)]
    · rw [if_pos h, if_pos h]; rfl
theorem pText_R {t : Nat → Nat} {n m j : Nat} {es : List Entry} {rs : List Rule} {cats : List (List Nat)} (hw : tKey t n j kwW = false) (hr : tKey t n j kwR = true) : pText t n (m + 1) j es rs cats = sbd (sbd (pRule t n j rs.length cats) (pSemi t n)) fun q => nxT t n m (q.2.2 + 1) es (rs ++ [q.1]) q.2.1 := by
  rw [pText, if_neg (by rw [hw]; decide), if_pos hr]
  cases pRule t n j rs.length cats with
  | inl e => rfl
  | inr q =>
    rw [sbd_r, sbd_r]
    unfold pSemi
    by_cases h : tK t n q.2.2 = 4 ∧ tC t n q.2.2 = 59
    · rw [if_neg (not_not_intro h), if_neg (not_not_intro h), sbd_r]
      unfold nxT
      by_cases e : tK t n (q.2.2 + 1) = 0
      · rw [if_pos e, if_pos ⟨by simp; omega, e⟩]
      · rw [if_neg e, if_neg (fun z => e z.2)]
    · rw [if_pos h, if_pos h]; rfl
theorem pText_N {t : Nat → Nat} {n m j : Nat} {es : List Entry} {rs : List Rule} {cats : List (List Nat)} (hw : tKey t n j kwW = false) (hr : tKey t n j kwR = false) : pText t n (m + 1) j es rs cats = .inl (pFl t n j 1) := by
  rw [pText, if_neg (by rw [hw]; decide), if_neg (by rw [hr]; decide)]
theorem key_k0 {t : Nat → Nat} {n j : Nat} {w : List Nat} (h : tKey t n j w = true) : tK t n j = 2 := by simp [tKey] at h; exact h.1
/-- a grammar in the class, at 48 -/
def gX (I : Nat → Int32) (A : Nat → Nat → Int32) (B : Nat → Nat → Int64) (g : Gram) : Prop := entX I A B g.1 ∧ rulX I A g.2.1 ∧ catX I B g.2.2 ∧ lstX I A (sgL (clos g.2.1) g.2.1)
/-- what a told grammar is -/
def okG (g : Gram) : Prop := supE g.1 g.2.2.length ∧ supR g.2.1 g.2.2.length ∧ g.2.1.find? (lpR (clos g.2.1)) = none
section C20
variable {l : Launch} {J : Nat → Int64} {Q : Option Value → XW → Prop} {d : Nat} {t : Nat → Nat} {n : Nat} {tgt cg fg : Value} {I : Nat → Int32} {A : Nat → Nat → Int32} {B : Nat → Nat → Int64}
theorem s_clear3 (hd : 1 ≤ d) (hQ : Q none (wC tgt cg fg (upd (upd (upd (upd I 4810 0) 4811 0) 4812 0) 4813 0) J A B)) : xK l d 38 [.ref 48] (wC tgt cg fg I J A B) Q := by
  obtain ⟨d, rfl⟩ : ∃ e, d = e + 1 := ⟨d - 1, by omega⟩
  exact e_X3_clear hQ
theorem s_readInto (ht : tpX A t n) (hd : 7 ≤ d) (h101 : I 101 = nI n)
    (hE : ∀ k pl (I' : Nat → Int32) (A' : Nat → Nat → Int32) (B' : Nat → Nat → Int64), pGram t n = .inl (k, pl) → I' 304 = nI k → I' 305 = nI pl → (∀ i, i ≠ 302 → i ≠ 304 → i ≠ 305 → i ≠ 404 → i ≠ 805 → i < 4800 → I' i = I i) → (∀ p, p ≠ 5 → p ≠ 6 → (p < 9 ∨ 13 < p) → p < 49 → A' p = A p) → (∀ p, p ≠ 7 → p < 49 → B' p = B p) → Q (some (.int 0)) (wC (.ref 48) cg fg I' J A' B'))
    (hO : ∀ (g : Gram) (I' : Nat → Int32) (A' : Nat → Nat → Int32) (B' : Nat → Nat → Int64), pGram t n = .inr g → gX I' A' B' g → okG g → I' 304 = 0 → (∀ i, i ≠ 302 → i ≠ 304 → i ≠ 305 → i ≠ 404 → i ≠ 805 → i < 4800 → I' i = I i) → (∀ p, p ≠ 5 → p ≠ 6 → (p < 9 ∨ 13 < p) → p < 49 → A' p = A p) → (∀ p, p ≠ 7 → p < 49 → B' p = B p) → Q (some (.int 1)) (wC (.ref 48) cg fg I' J A' B')) :
    xK l d 53 [.ref 3, .ref 48] (wC tgt cg fg I J A B) Q := by
  obtain ⟨d, rfl⟩ : ∃ e, d = e + 1 := ⟨d - 1, by omega⟩
  have hn := ht.1
  have loop : ∀ m j es rs cats (I1 : Nat → Int32) (A1 : Nat → Nat → Int32) (B1 : Nat → Nat → Int64), es.length + rs.length + m = 71 → nxT t n m j es rs cats = pText t n 71 0 [] [] [] → supE es cats.length → supR rs cats.length → rdX I1 A1 B1 t n j → entX I1 A1 B1 es → rulX I1 A1 rs → catX I1 B1 cats → I1 304 = 0 → (∀ i, i ≠ 302 → i ≠ 304 → i ≠ 305 → i ≠ 404 → i ≠ 805 → i < 4800 → I1 i = I i) → (∀ p, p ≠ 5 → p ≠ 6 → (p < 9 ∨ 13 < p) → p < 49 → A1 p = A p) → (∀ p, p ≠ 7 → p < 49 → B1 p = B p) → xG l d 53 Q 36 [some (.ref 3), none, some (.int (nI (es.length + rs.length))), none, none] [] (wC (.ref 48) cg fg I1 J A1 B1) 0 0 := by
    intro m
    induction m with
    | zero =>
      intro j es rs cats I1 A1 B1 hm hp sE sR h1 he hr hc h304 hI hA hB
      have := he.2.1; have := hr.2.1; omega
    | succ m ih =>
      intro j es rs cats I1 A1 B1 hm hp sE sR h1 he hr hc h304 hI hA hB
      have h40 := he.2.1
      have h30 := hr.2.1
      have hb := clK_b t n (tP t n j)
      have fin : ∀ k pl (I' : Nat → Int32) (A' : Nat → Nat → Int32) (B' : Nat → Nat → Int64), pText t n 71 0 [] [] [] = .inl (k, pl) → I' 304 = nI k → I' 305 = nI pl → (∀ i, i ≠ 302 → i ≠ 304 → i ≠ 305 → i ≠ 404 → i ≠ 805 → i < 4800 → I' i = I1 i) → (∀ p, p ≠ 5 → p ≠ 6 → (p < 9 ∨ 13 < p) → p < 49 → A' p = A1 p) → (∀ p, p ≠ 7 → p < 49 → B' p = B1 p) → xG l d 53 Q 99 [some (.ref 3), none, some (.int (nI (es.length + rs.length))), none, none] [.int 0] (wC (.ref 48) cg fg I' J A' B') 0 0 := by
        intro k pl I' A' B' hx h4 h5 hI' hA' hB'
        refine b_X4_readInto_99 ?_
        rw [if_pos rfl]
        refine ⟨Or.inl rfl, hE k pl I' A' B' ?_ h4 h5 (fun i a b c e f g => ?_) (fun p a b c e => ?_) (fun p a b => ?_)⟩
        · unfold pGram; rw [hx]; rfl
        · rw [hI' i a b c e f g]; exact hI i a b c e f g
        · rw [hA' p a b c e]; exact hA p a b c e
        · rw [hB' p a b]; exact hB p a b
      have wordC : tKey t n j kwW = true → pText t n (m + 1) j es rs cats = pText t n 71 0 [] [] [] → xK l d 55 [.ref 3] (wC (.ref 48) cg fg I1 J A1 B1) (fun v9 w9 => xG l d 53 Q 79 [some (.ref 3), none, some (.int (nI (es.length + rs.length))), none, none] (v9.toList ++ []) w9 0 0) := by
        intro hw hpt
        rw [pText_W hw] at hpt
        refine s_takeEntry h1 (by omega) hw he hc (fun k pl I' B' hx h4 h5 hI' hB' => b_X4_readInto_79 (fin k pl I' A1 B' ?_ h4 h5 (fun i a b c e f g => hI' i a b c (by omega)) (fun _ _ _ _ _ => rfl) (fun p a b => hB' p (by omega)))) (fun E cats' j' I' A' B' hx h1' hc' he' hI' hA' hB' => b_X4_readInto_79 ?_)
        · rw [← hpt, hx]; rfl
        · rw [hx, sbd_r] at hpt
          obtain ⟨q, hq1, hq2⟩ := sbd_inr hx
          have hs := pEnt_sup hq1
          have hq3 : q = (E, cats', j') := by
            unfold pSemi at hq2; split at hq2
            · cases hq2
            · injection hq2
          subst hq3
          refine b_X4_readInto_99 ?_
          rw [if_neg (by decide), nI_1, show es.length + rs.length + 1 = (es ++ [E]).length + rs.length by simp; omega]
          have hr' : rulX I' A' rs := by
            refine ⟨by rw [hI' 4811 (by decide) (by decide) (by decide)]; exact hr.1, h30, fun r hrr => ?_⟩
            have := hr.2.2 r hrr
            unfold rulY tabR at this ⊢
            rw [hA' 51 (by decide), hA' 52 (by decide), hA' 53 (by decide), hA' 54 (by decide), hA' 55 (by decide)]; exact this
          exact ih (j' + 1) (es ++ [E]) rs cats' I' A' B' (by simp; omega) hpt (supE_app sE hs.2 hs.1) (supR_mono sR hs.2) h1' he' hr' hc' (by rw [hI' 304 (by decide) (by decide) (by decide)]; exact h304) (fun i a b c e f g => by rw [hI' i a (by omega) (by omega)]; exact hI i a b c e f g) (fun p a b c e => by rw [hA' p (by omega)]; exact hA p a b c e) (fun p a b => by rw [hB' p (by omega) (by omega)]; exact hB p a b)
      have ruleC : tKey t n j kwW = false → tKey t n j kwR = true → pText t n (m + 1) j es rs cats = pText t n 71 0 [] [] [] → xK l d 57 [.ref 3] (wC (.ref 48) cg fg I1 J A1 B1) (fun v9 w9 => xG l d 53 Q 91 [some (.ref 3), none, some (.int (nI (es.length + rs.length))), none, none] (v9.toList ++ []) w9 0 0) := by
        intro hw hw2 hpt
        rw [pText_R hw hw2] at hpt
        refine s_takeRule h1 (by omega) hn hw2 hr hc (fun k pl I' A' B' hx h4 h5 hI' hA' hB' => b_X4_readInto_91 (fin k pl I' A' B' ?_ h4 h5 (fun i a b c e f g => hI' i a b c f (by omega)) (fun p a b c e => hA' p (by omega)) (fun p a b => hB' p (by omega)))) (fun R cats' j' I' A' B' hx h1' hc' hr' hI' hA' hB' => b_X4_readInto_91 ?_)
        · rw [← hpt, hx]; rfl
        · rw [hx, sbd_r] at hpt
          obtain ⟨q, hq1, hq2⟩ := sbd_inr hx
          have hs := pRule_sup hq1
          have hq3 : q = (R, cats', j') := by
            unfold pSemi at hq2; split at hq2
            · cases hq2
            · injection hq2
          subst hq3
          refine b_X4_readInto_99 ?_
          rw [if_neg (by decide), nI_1, show es.length + rs.length + 1 = es.length + (rs ++ [R]).length by simp; omega]
          have he' : entX I' A' B' es := by
            refine ⟨by rw [hI' 4810 (by decide) (by decide) (by decide) (by decide)]; exact he.1, h40, fun r hrr => ?_⟩
            rw [hB' 49 (by decide), hA' 50 (by decide) (by decide)]; exact he.2.2 r hrr
          exact ih (j' + 1) es (rs ++ [R]) cats' I' A' B' (by simp; omega) hpt (supE_mono sE hs.2) (supR_app sR hs.2 hs.1) h1' he' hr' hc' (by rw [hI' 304 (by decide) (by decide) (by decide) (by decide)]; exact h304) (fun i a b c e f g => by rw [hI' i a f (by omega) (by omega)]; exact hI i a b c e f g) (fun p a b c e => by rw [hA' p c (by omega)]; exact hA p a b c e) (fun p a b => by rw [hB' p (by omega)]; exact hB p a b)
      have failC : tKey t n j kwW = false → tKey t n j kwR = false → pText t n (m + 1) j es rs cats = pText t n 71 0 [] [] [] → xK l d 64 [.ref 3, .int 1] (wC (.ref 48) cg fg I1 J A1 B1) (fun v9 w9 => xG l d 53 Q 99 [some (.ref 3), none, some (.int (nI (es.length + rs.length))), none, none] (v9.toList ++ []) w9 0 0) := by
        intro hw hw2 hpt
        rw [pText_N hw hw2, pFl_1] at hpt
        refine s_fail h1 (by omega) (fin 1 (tF t n j) _ A1 B1 hpt.symm ?_ ?_ (fun i a b c e f g => ?_) (fun _ _ _ _ _ => rfl) (fun _ _ _ => rfl))
        · rw [un_i (by decide), ue_i]; rfl
        · rw [ue_i]
        · rw [un_i c, un_i b]
      have items : pText t n (m + 1) j es rs cats = pText t n 71 0 [] [] [] → (if nI (clK t n (tP t n j)) = (4 : Int32) then xK l d 55 [.ref 3] (wC (.ref 48) cg fg I1 J A1 B1) (fun v9 w9 => xG l d 53 Q 79 [some (.ref 3), none, some (.int (nI (es.length + rs.length))), none, none] (v9.toList ++ []) w9 0 0) else (if nI (clK t n (tP t n j)) = (5 : Int32) then xK l d 57 [.ref 3] (wC (.ref 48) cg fg I1 J A1 B1) (fun v9 w9 => xG l d 53 Q 91 [some (.ref 3), none, some (.int (nI (es.length + rs.length))), none, none] (v9.toList ++ []) w9 0 0) else xK l d 64 [.ref 3, .int 1] (wC (.ref 48) cg fg I1 J A1 B1) (fun v9 w9 => xG l d 53 Q 99 [some (.ref 3), none, some (.int (nI (es.length + rs.length))), none, none] (v9.toList ++ []) w9 0 0))) := by
        intro hpt
        refine if_eq rfl (b := 4) rfl (by omega) (by omega) (fun e => wordC ((ck_key (by omega) (fun _ => clN_4)).mp e) hpt) (fun e4 => if_eq rfl (b := 5) rfl (by omega) (by omega) (fun e => ruleC ?_ ((ck_key (by omega) (fun _ => clN_5)).mp e) hpt) (fun e5 => failC ?_ ?_ hpt))
        · cases z : tKey t n j kwW with
          | false => rfl
          | true => exact absurd ((ck_key (by omega) (fun _ => clN_4)).mpr z) e4
        · cases z : tKey t n j kwW with
          | false => rfl
          | true => exact absurd ((ck_key (by omega) (fun _ => clN_4)).mpr z) e4
        · cases z : tKey t n j kwR with
          | false => rfl
          | true => exact absurd ((ck_key (by omega) (fun _ => clN_5)).mpr z) e5
      refine b_X4_readInto_36 (if_lt (a := 70) rfl (b := es.length + rs.length) rfl (by omega) (by omega) (fun z => absurd z (by omega)) (fun _ => ⟨rd_in h1, ?_⟩))
      rw [rd_k h1]
      refine if_le rfl (b := 0) rfl (by omega) (by omega) (fun z => ?_) (fun z => ?_)
      · refine items ?_
        rw [← hp]; unfold nxT; rw [if_neg (by omega)]
      · refine if_eq rfl (b := 8) rfl (by omega) (by omega) (fun e => ?_) (fun e => items ?_)
        · have e0 : tK t n j = 0 := ck_end.mp e
          have hpt : pText t n 71 0 [] [] [] = .inr (es, rs, cats) := by rw [← hp]; unfold nxT; rw [if_pos ⟨z, e0⟩]
          have hc16 := hc.2.1
          refine s_isLoopless (by omega) hr hc.1 hc16 (fun R hR => ⟨(sR R hR).1, (sR R hR).2.1⟩) (fun R I' A' hf h4 h5 hI' hA' => ?_) (fun I' A' hf hrow hl hI' hA' => ?_)
          · refine b_X4_readInto_69 ⟨Or.inl rfl, hE 4 R.2.2.2.2 I' A' B1 ?_ h4 h5 (fun i a b c e f g => ?_) (fun p a b c e => ?_) hB⟩
            · unfold pGram; rw [hpt, sbd_r]; show (match rs.find? (lpR (clos rs)) with | some R => _ | none => _) = _; rw [hf]
            · rw [hI' i b c]; exact hI i a b c e f g
            · rw [hA' p (by omega)]; exact hA p a b c e
          · refine b_X4_readInto_69 ⟨Or.inr rfl, hO (es, rs, cats) I' A' B1 ?_ ⟨?_, ?_, ?_, hl⟩ ⟨sE, sR, hf⟩ ?_ (fun i a b c e f g => ?_) (fun p a b c e => ?_) hB⟩
            · unfold pGram; rw [hpt, sbd_r]; show (match rs.find? (lpR (clos rs)) with | some R => _ | none => _) = _; rw [hf]
            · refine ⟨by rw [hI' 4810 (by decide)]; exact he.1, h40, fun r hrr => ?_⟩
              rw [hA' 50 (by decide) (by decide)]; exact he.2.2 r hrr
            · refine ⟨by rw [hI' 4811 (by decide)]; exact hr.1, h30, fun r hrr => ?_⟩
              have := hr.2.2 r hrr
              unfold rulY tabR at this ⊢
              rw [hA' 51 (by decide) (by decide), hA' 52 (by decide) (by decide), hA' 53 (by decide) (by decide), hA' 54 (by decide) (by decide), hA' 55 (by decide) (by decide)]; exact this
            · exact ⟨by rw [hI' 4812 (by decide)]; exact hc.1, hc.2⟩
            · rw [hI' 304 (by decide)]; exact h304
            · rw [hI' i (by omega)]; exact hI i a b c e f g
            · rw [hA' p (by omega) (by omega)]; exact hA p a b c e
        · rw [← hp]; unfold nxT; rw [if_neg (fun q => e (ck_end.mpr q.2))]
  refine e_X4_readInto (s_clear3 (by omega) (b_X4_readInto_12 (s_scan ht (by omega) (by simp only [un_i (show (101 : Nat) ≠ 4810 by decide), un_i (show (101 : Nat) ≠ 4811 by decide), un_i (show (101 : Nat) ≠ 4812 by decide), un_i (show (101 : Nat) ≠ 4813 by decide), un_i (show (101 : Nat) ≠ 304 by decide), un_i (show (101 : Nat) ≠ 305 by decide)]; exact h101) (fun A' B' htok hA' hB' => b_X4_readInto_29 ?_))))
  refine loop 71 0 [] [] [] _ A' B' (by simp) ?_ (fun _ h => by cases h) (fun _ h => by cases h) ⟨htok, ?_, ue_i _ _ _, by omega⟩ ⟨?_, by simp, fun e he => by simp at he⟩ ⟨?_, by simp, fun e he => by simp at he⟩ ⟨?_, by simp, fun e he => by simp at he⟩ ?_ (fun i a b c e f g => ?_) (fun p a b c e => ?_) (fun p a b => ?_)
  · unfold nxT; rw [if_neg (by simp)]
  · simp [upd]
  · simp [upd]; rfl
  · simp [upd]; rfl
  · simp [upd]; rfl
  · simp [upd]
  · simp [upd, a, b, c, e, show i ≠ 4810 by omega, show i ≠ 4811 by omega, show i ≠ 4812 by omega, show i ≠ 4813 by omega]
  · exact congrArg (fun f => f) (hA' p a b)
  · exact hB' p a
end C20
