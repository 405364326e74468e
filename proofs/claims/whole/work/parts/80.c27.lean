/-! ===== the class: clearing the drawing (also with the grammars exchanged); sentences ===== -/
theorem b_X1_clear_0_w {l : Launch} {d : Nat} {Ret : Option Value → XW → Prop} {I : Nat → Int32} {J : Nat → Int64} {A : Nat → Nat → Int32} {B : Nat → Nat → Int64} {cur spr tgt cg fg : Value} (h : if ((I 1701) : Int32) ≤ 0 then (Ret none (wX cur spr (tgt) (cg) (fg) I J A B)) else (xK l d 194 [.ref 18, .int 0] (wX cur spr (tgt) (cg) (fg) I J A B) (fun v9 w9 => xG l d 16 Ret 15 [some (.ref 17)] (v9.toList ++ []) w9 0 0))) : xG l d 16 Ret 0 [some (.ref 17)] [] (wX cur spr (tgt) (cg) (fg) I J A B) 0 0 := xgoR mr_16 [15] 10 h
theorem e_X1_clear_w {l : Launch} {d : Nat} {Ret : Option Value → XW → Prop} {I : Nat → Int32} {J : Nat → Int64} {A : Nat → Nat → Int32} {B : Nat → Nat → Int64} {cur spr tgt cg fg : Value} (h : if ((I 1701) : Int32) ≤ 0 then (Ret none (wX cur spr (tgt) (cg) (fg) I J A B)) else (xK l d 194 [.ref 18, .int 0] (wX cur spr (tgt) (cg) (fg) I J A B) (fun v9 w9 => xG l d 16 Ret 15 [some (.ref 17)] (v9.toList ++ []) w9 0 0))) : xK l (d + 1) 16 [.ref 17] (wX cur spr (tgt) (cg) (fg) I J A B) Ret := xentry xok rfl rfl (b_X1_clear_0_w h)
theorem b_X1_clear_15_w {l : Launch} {d : Nat} {Ret : Option Value → XW → Prop} {I : Nat → Int32} {J : Nat → Int64} {A : Nat → Nat → Int32} {B : Nat → Nat → Int64} {cur spr tgt cg fg : Value} (h : ((0 : Int32) = 0 ∨ (0 : Int32) = 1) ∧ (Ret none (wX cur spr (tgt) (cg) (fg) (upd (upd I 1701 0) 1702 0) J A B))) : xG l d 16 Ret 15 [some (.ref 17)] [] (wX cur spr (tgt) (cg) (fg) I J A B) 0 0 := xgoR mr_16 [15] 9 h
theorem b_J7_fill_53178_p18_0_w {l : Launch} {d : Nat} {Ret : Option Value → XW → Prop} {I : Nat → Int32} {J : Nat → Int64} {A : Nat → Nat → Int32} {B : Nat → Nat → Int64} {x1 : Int32} {cur spr tgt cg fg : Value} (h : xG l d 194 Ret 5 [some (.ref 18), some (.int x1), some (.int 0), some (.int (Int32.ofNat 105))] [] (wX cur spr (tgt) (cg) (fg) I J A B) 0 0) : xG l d 194 Ret 0 [some (.ref 18), some (.int x1), none, none] [] (wX cur spr (tgt) (cg) (fg) I J A B) 0 0 := xgoR mr_194 [5] 8 h
theorem e_J7_fill_53178_p18_w {l : Launch} {d : Nat} {Ret : Option Value → XW → Prop} {I : Nat → Int32} {J : Nat → Int64} {A : Nat → Nat → Int32} {B : Nat → Nat → Int64} {x1 : Int32} {cur spr tgt cg fg : Value} (h : xG l d 194 Ret 5 [some (.ref 18), some (.int x1), some (.int 0), some (.int (Int32.ofNat 105))] [] (wX cur spr (tgt) (cg) (fg) I J A B) 0 0) : xK l (d + 1) 194 [.ref 18, .int x1] (wX cur spr (tgt) (cg) (fg) I J A B) Ret := xentry xok rfl rfl (b_J7_fill_53178_p18_0_w h)
theorem b_J7_fill_53178_p18_5_w {l : Launch} {d : Nat} {Ret : Option Value → XW → Prop} {I : Nat → Int32} {J : Nat → Int64} {A : Nat → Nat → Int32} {B : Nat → Nat → Int64} {x1 x2 x3 : Int32} {cur spr tgt cg fg : Value} (h : if (x3 : Int32) ≤ x2 then (Ret none (wX cur spr (tgt) (cg) (fg) I J A B)) else (xin x2 105 ∧ (xG l d 194 Ret 5 [some (.ref 18), some (.int x1), some (.int (x2 + 1)), some (.int x3)] [] (wX cur spr (tgt) (cg) (fg) I J (va_up A 18 (upd (A 18) (x2 : Int32).toNatClampNeg x1)) B) 0 0))) : xG l d 194 Ret 5 [some (.ref 18), some (.int x1), some (.int x2), some (.int x3)] [] (wX cur spr (tgt) (cg) (fg) I J A B) 0 0 := xgoR mr_194 [5] 12 h
section C27
variable {l : Launch} {J : Nat → Int64} {Q : Option Value → XW → Prop} {d : Nat} {cur spr tgt cg fg : Value} {I : Nat → Int32} {A : Nat → Nat → Int32} {B : Nat → Nat → Int64} {t : Nat → Nat} {n : Nat}
theorem s_fill18 (hd : 1 ≤ d) {v : Int32} (hQ : ∀ (A' : Nat → Nat → Int32), (∀ i, i < 105 → A' 18 i = v) → (∀ p, p ≠ 18 → A' p = A p) → Q none (wX cur spr tgt cg fg I J A' B)) : xK l d 194 [.ref 18, .int v] (wX cur spr tgt cg fg I J A B) Q := by
  obtain ⟨d, rfl⟩ : ∃ e, d = e + 1 := ⟨d - 1, by omega⟩
  have loop : ∀ m k (A1 : Nat → Nat → Int32), 105 - k < m → k ≤ 105 → (∀ i, i < k → A1 18 i = v) → (∀ p, p ≠ 18 → A1 p = A p) → xG l d 194 Q 5 [some (.ref 18), some (.int v), some (.int (nI k)), some (.int (Int32.ofNat 105))] [] (wX cur spr tgt cg fg I J A1 B) 0 0 := by
    intro m
    induction m with
    | zero => intro k A1 hm; exact absurd hm (by omega)
    | succ m ih =>
      intro k A1 hm hk h1 h3
      refine b_J7_fill_53178_p18_5_w (if_le (a := 105) rfl rfl (by omega) (by omega) (fun g => ?_) (fun g => ⟨xin_of rfl (by omega) (by omega), ?_⟩))
      · exact hQ A1 (fun i hi => h1 i (by omega)) h3
      · rw [cl_n (by omega), nI_1]
        refine ih (k + 1) _ (by omega) (by omega) (fun i hi => ?_) (fun p hp => by rw [un_v hp]; exact h3 p hp)
        rw [ue_v]
        by_cases z : i = k
        · subst z; rw [ue_i]
        · rw [un_i z]; exact h1 i (by omega)
  exact e_J7_fill_53178_p18_w (loop 106 0 A (by omega) (by omega) (fun i hi => absurd hi (by omega)) (fun _ _ => rfl))
theorem msk_0 : ∀ k, msk (fun _ => false) k = 0
  | 0 => rfl
  | k + 1 => by unfold msk; rw [msk_0 k]; rfl
theorem drX_nil {A : Nat → Nat → Int32} (h : ∀ i, i < 105 → A 18 i = 0) : drX A [] := fun i j hij hj => by
  rw [h _ (cx_lt hij hj), show (fun c => hasB [] c i j) = fun _ => false from by funext c; simp [hasB], msk_0]; rfl
/-- the drawing is wiped -/
theorem s_clear1 (hd : 2 ≤ d) {D : List (Nat × Nat × Nat)} (hs : I 1701 = nI D.length) (h40 : D.length ≤ 40) (hD : drX A D)
    (hQ : ∀ (I' : Nat → Int32) (A' : Nat → Nat → Int32), I' 1701 = 0 → (I' 1702 = I 1702 ∧ D = [] ∨ I' 1702 = 0) → drX A' [] → (∀ i, i ≠ 1701 → i ≠ 1702 → I' i = I i) → (∀ p, p ≠ 18 → A' p = A p) → Q none (wX cur spr tgt cg fg I' J A' B)) : xK l d 16 [.ref 17] (wX cur spr tgt cg fg I J A B) Q := by
  obtain ⟨d, rfl⟩ : ∃ e, d = e + 1 := ⟨d - 1, by omega⟩
  refine e_X1_clear_w (if_le hs (b := 0) rfl (by omega) (by omega) (fun z => ?_) (fun z => ?_))
  · have h0 : D = [] := List.length_eq_zero_iff.mp (by omega)
    subst h0
    exact hQ I A hs (Or.inl ⟨rfl, rfl⟩) hD (fun _ _ _ => rfl) (fun _ _ => rfl)
  · refine s_fill18 (by omega) (fun A' h1 h2 => b_X1_clear_15_w ⟨Or.inl rfl, ?_⟩)
    exact hQ _ A' (by rw [un_i (by decide), ue_i]) (Or.inr (ue_i _ _ _)) (drX_nil h1) (fun i a b => by rw [un_i b, un_i a]) h2
theorem s_scan6 (ht : tpX A t n) (hd : 4 ≤ d) (h101 : I 101 = nI n)
    (hN : ∀ (I' : Nat → Int32) (B' : Nat → Nat → Int64), pWords t n = [] → (∀ i, i ≠ 1403 → I' i = I i) → (∀ p, p ≠ 16 → B' p = B p) → Q (some (.int 0)) (wC tgt cg fg I' J A B'))
    (hO : ∀ (I' : Nat → Int32) (B' : Nat → Nat → Int64), pWords t n ≠ [] → I' 1403 = nI (pWords t n).length → (∀ k, k < (pWords t n).length → B' 16 k = lN (c32 ((pWords t n).getD k []))) → (∀ i, i ≠ 1403 → I' i = I i) → (∀ p, p ≠ 16 → B' p = B p) → Q (some (.int 1)) (wC tgt cg fg I' J A B')) : xK l d 71 [.ref 14, .ref 1] (wC tgt cg fg I J A B) Q := by
  obtain ⟨d, rfl⟩ : ∃ e, d = e + 1 := ⟨d - 1, by omega⟩
  have hn := ht.1
  have loop : ∀ m q acc (I1 : Nat → Int32) (B1 : Nat → Nat → Int64), 14 - acc.length < m → acc.length ≤ 14 → q ≤ n → wdC t n (16 - acc.length) q acc = pWords t n → I1 1403 = nI acc.length → (∀ k, k < acc.length → B1 16 k = lN (c32 (acc.getD k []))) → (∀ i, i ≠ 1403 → I1 i = I i) → (∀ p, p ≠ 16 → B1 p = B p) → xG l d 71 Q 23 [some (.ref 14), some (.ref 1), some (.int (nI q)), none, none, none] [] (wC tgt cg fg I1 J A B1) 0 0 := by
    intro m
    induction m with
    | zero => intro q acc I1 B1 hm; omega
    | succ m ih =>
      intro q acc I1 B1 hm h14 hq hw h3 hB hI hBf
      obtain ⟨f, hf⟩ : ∃ f, 16 - acc.length = f + 1 := ⟨15 - acc.length, by omega⟩
      rw [hf] at hw
      unfold wdC at hw
      have g101 : I1 101 = nI n := by rw [hI 101 (by decide)]; exact h101
      refine b_X6_scan_23 (if_le g101 rfl (by omega) (by omega) (fun z => ?_) (fun z => ?_))
      · rw [if_pos z] at hw
        refine if_le h3 (b := 0) rfl (by omega) (by omega) (fun e => ⟨Or.inl rfl, hN I1 B1 ?_ hI hBf⟩) (fun e => ⟨Or.inr rfl, hO I1 B1 ?_ (by rw [← hw]; exact h3) (by rw [← hw]; exact hB) hI hBf⟩)
        · rw [← hw]; exact List.length_eq_zero_iff.mp (by omega)
        · rw [← hw]; intro q; rw [q] at e; simp at e
      · rw [if_neg (by omega)] at hw
        have hle : skL t n q ≤ n := skN_le _ hq
        have hge : q ≤ skL t n q := skN_ge _ n q
        have hle' : skN (fun i => isLe (t i)) n q ≤ n := hle
        refine s_behindLetters ht (by omega) g101 rfl (by omega) (b_X6_scan_36 (s_nameBetween ht (by omega) g101 rfl (by omega) rfl (by omega) (b_X6_scan_43 ?_)))
        rw [show skN (fun i => isLe (t i)) n q = skL t n q from rfl]
        have hall : allLe t q (skL t n q) = true := allLe_iff.mpr (fun i a b => skN_in (fun i => isLe (t i)) a b)
        by_cases c : q < skL t n q ∧ skL t n q ≤ q + 10
        · have hnm : nmB t n q (skL t n q) = c32 (ltr t q (skL t n q)) := by unfold nmB; rw [if_pos ⟨c.1, c.2, hle, hall⟩]
          have hv := ltr_v hall c.2
          have hpos : 1 ≤ c32 (ltr t q (skL t n q)) := by
            obtain ⟨e, he⟩ : ∃ e, skL t n q = e + 1 := ⟨skL t n q - 1, by omega⟩
            have hx := hv.1 (t e - 96) (by rw [he, ltr_succ (by omega)]; simp)
            rw [he, ltr_succ (by omega), c32_snoc]; omega
          have hcb := c32_b hv
          rw [hnm]
          refine if_if (lg0.trans (ln_eq (b := 0) hcb (by omega))) (fun e => absurd e (by omega)) (fun _ => ?_)
          refine if_lt h3 (b := 14) rfl (by omega) (by omega) (fun e => ⟨xin_of h3 (by omega) (by omega), ?_⟩) (fun e => ⟨Or.inl rfl, hN I1 B1 ?_ hI hBf⟩)
          · rw [if_neg (by omega)] at hw
            rw [h3, nI_1, cl_n (by omega)]
            refine s_behindBlanks ht (by omega) (by rw [un_i (by decide)]; exact g101) rfl (by omega) (b_X6_scan_89 ?_)
            rw [show skN (fun i => isBl (t i)) n (skL t n q) = skB t n (skL t n q) from rfl]
            refine ih (skB t n (skL t n q)) (acc ++ [ltr t q (skL t n q)]) _ _ (by simp; omega) (by simp; omega) (skN_le _ hle) ?_ (by rw [ue_i]; simp) (fun k hk => ?_) (fun i hi => by rw [un_i hi]; exact hI i hi) (fun p hp => by rw [un_v hp]; exact hBf p hp)
            · rw [show 16 - (acc ++ [ltr t q (skL t n q)]).length = f by simp; omega]; exact hw
            · rw [ue_v]
              by_cases ek : k = acc.length
              · subst ek; rw [ue_l, gD_r]
              · have hk' : k < acc.length := by simp at hk; omega
                rw [un_l ek, gD_l hk']; exact hB k hk'
          · rw [if_pos (Or.inr (Or.inr (by omega)))] at hw; exact hw.symm
        · have hnm : nmB t n q (skL t n q) = 0 := by unfold nmB; rw [if_neg (fun w => c ⟨w.1, w.2.1⟩)]
          rw [hnm, if_pos (show lg_cmp (lN 0) 0 = 0 from lg0.mpr rfl)]
          refine ⟨Or.inl rfl, hN I1 B1 ?_ hI hBf⟩
          rw [if_pos (by omega)] at hw; exact hw.symm
  refine e_X6_scan (if_le h101 (b := 1500) rfl (by omega) (by omega) (fun z => ?_) (fun z => ⟨Or.inl rfl, hN _ B ?_ (fun i hi => un_i hi) (fun _ _ => rfl)⟩))
  · refine s_behindBlanks (k := 0) ht (by omega) (by rw [un_i (by decide)]; exact h101) rfl (by omega) (b_X6_scan_22 ?_)
    rw [show skN (fun i => isBl (t i)) n 0 = skB t n 0 from rfl]
    refine loop _ (skB t n 0) [] _ B (Nat.lt_succ_self _) (by simp) (skN_le _ (by omega)) ?_ (ue_i _ _ _) (fun k hk => by cases hk) (fun i hi => un_i hi) (fun _ _ => rfl)
    unfold pWords; rw [if_neg (by omega)]; rfl
  · unfold pWords; rw [if_pos z]
theorem s_keepScanned (hd : 1 ≤ d) {m : Nat} (h : I 1403 = nI m) (hm : m ≤ 14) (hQ : ∀ (B' : Nat → Nat → Int64), (∀ k, k < m → B' 15 k = B 16 k) → (∀ p, p ≠ 15 → B' p = B p) → Q none (wC tgt cg fg (upd I 1402 (nI m)) J A B')) : xK l d 72 [.ref 14] (wC tgt cg fg I J A B) Q := by
  obtain ⟨d, rfl⟩ : ∃ e, d = e + 1 := ⟨d - 1, by omega⟩
  refine e_X6_keepScanned ⟨?_, ?_⟩
  · rw [h, nI_toInt (by omega)]
    refine ⟨by decide, by decide, by omega, ?_, ?_⟩ <;> (show (0 : Int32).toInt + _ ≤ _; rw [show (0 : Int32).toInt = 0 by decide]; omega)
  · rw [h, cl_n (by omega)]
    refine hQ _ (fun k hk => ?_) (fun p hp => un_v hp)
    rw [ue_v]
    show (if 0 ≤ k ∧ k < 0 + m then B 16 (0 + (k - 0)) else _) = _
    rw [if_pos ⟨by omega, by omega⟩, Nat.zero_add, Nat.sub_zero]
end C27
