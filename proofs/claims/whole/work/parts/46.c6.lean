/-! ===== the class: an entry ===== -/
/-- a category with a key: as the class keeps it -/
def sgC (c key : Nat) : Nat := 4096 * c + bk key
theorem sgC_ok {c key : Nat} (hc : c < 16) (hk : key < 625) : ((nI c) <<< ((12 : Int32) &&& 31)) ||| nI (bk key) = nI (sgC c key) := by
  have h1 : ∀ c : Fin 16, (nI c.val) <<< ((12 : Int32) &&& 31) = nI (4096 * c.val) := by decide +kernel
  rw [h1 ⟨c, hc⟩]
  exact fa_or_sum (k := 12) c (bk_lt key hk)
theorem sgC_lt {c key : Nat} (hc : c < 16) (hk : key < 625) : sgC c key < 65536 := by have := bk_lt key hk; unfold sgC; omega
def entX (I : Nat → Int32) (A : Nat → Nat → Int32) (B : Nat → Nat → Int64) (es : List Entry) : Prop := I 4810 = nI es.length ∧ es.length ≤ 40 ∧ ∀ e, e < es.length → okE (es.getD e dE) ∧ B 49 e = lN (c32 (es.getD e dE).1) ∧ A 50 e = nI (sgC (es.getD e dE).2.1 (es.getD e dE).2.2)
/-- behind an item stands a semicolon -/
def pSemi {α : Type} (t : Nat → Nat) (n : Nat) (q : α × List (List Nat) × Nat) : (Nat × Nat) ⊕ (α × List (List Nat) × Nat) := if ¬ (tK t n q.2.2 = 4 ∧ tC t n q.2.2 = 59) then .inl (pFl t n q.2.2 1) else .inr q
section C6
variable {l : Launch} {J : Nat → Int64} {Q : Option Value → XW → Prop} {d : Nat} {t : Nat → Nat} {n j : Nat} {tgt cg fg : Value} {I : Nat → Int32} {A : Nat → Nat → Int32} {B : Nat → Nat → Int64}
theorem s_addEntry (hd : 1 ≤ d) {es : List Entry} {c : Nat} (he : I 4810 = nI c) (hc : c < 40) {x : Int64} {y : Int32} (hQ : Q none (wC tgt cg fg (upd I 4810 (nI (c + 1))) J (va_up A 50 (upd (A 50) c y)) (va_up B 49 (vp_updL (B 49) c x)))) : xK l d 43 [.ref 48, .long x, .int y] (wC tgt cg fg I J A B) Q := by
  obtain ⟨d, rfl⟩ : ∃ e, d = e + 1 := ⟨d - 1, by omega⟩
  refine e_X3_addEntry (if_le (a := 40) rfl he (by omega) (by omega) (fun z => absurd z (by omega)) (fun _ => ⟨xin_of he (by omega) (by omega), xin_of he (by omega) (by omega), ?_⟩))
  rw [cl_of he (by omega), he, nI_1]; exact hQ
theorem s_takeEntry (h : rdX I A B t n j) (hd : 5 ≤ d) (hw : tKey t n j kwW = true) {es : List Entry} {cats : List (List Nat)} (he : entX I A B es) (hc : catX I B cats)
    (hE : ∀ k pl (I' : Nat → Int32) (B' : Nat → Nat → Int64), sbd (pEnt t n j es.length cats) (pSemi t n) = .inl (k, pl) → I' 304 = nI k → I' 305 = nI pl → (∀ i, i ≠ 302 → i ≠ 304 → i ≠ 305 → i ≠ 4812 → I' i = I i) → (∀ p, p ≠ 56 → B' p = B p) → Q (some (.int 0)) (wC (.ref 48) cg fg I' J A B'))
    (hO : ∀ E cats' j' (I' : Nat → Int32) (A' : Nat → Nat → Int32) (B' : Nat → Nat → Int64), sbd (pEnt t n j es.length cats) (pSemi t n) = .inr (E, cats', j') → rdX I' A' B' t n (j' + 1) → catX I' B' cats' → entX I' A' B' (es ++ [E]) → (∀ i, i ≠ 302 → i ≠ 4810 → i ≠ 4812 → I' i = I i) → (∀ p, p ≠ 50 → A' p = A p) → (∀ p, p ≠ 49 → p ≠ 56 → B' p = B p) → Q (some (.int 1)) (wC (.ref 48) cg fg I' J A' B')) :
    xK l d 55 [.ref 3] (wC (.ref 48) cg fg I J A B) Q := by
  obtain ⟨d, rfl⟩ : ∃ e, d = e + 1 := ⟨d - 1, by omega⟩
  have k2 : tkK t n (tP t n j) = 2 := by simp [tKey] at hw; exact hw.1
  have hl := he.2.1
  have nn : ∀ {v : Nat} {P R : Prop}, v < 4096 → R → (if nI v < (0 : Int32) then P else R) := fun hv hp => if_lt (b := 0) rfl rfl (by omega) (by omega) (fun z => absurd z (by omega)) (fun _ => hp)
  refine e_X4_takeEntry (if_lt he.1 (b := 40) rfl (by omega) (by omega) (fun hlt => ?_) (fun hge => ?_))
  · have hpE : pEnt t n j es.length cats = if tFree t n (j + 1) = false then .inl (pFl t n (j + 1) 1) else sbd (pCat t n (j + 2) cats) fun q => sbd (pFeat t n 1541 (j + 3) 0) fun r => .inr ((tN t n (j + 1), q.1, r.1), q.2, r.2) := by unfold pEnt; rw [if_neg (by omega)]
    refine s_advance h (by omega) (by omega) ?_
    have h1 := rd_next h (by omega)
    refine b_X4_takeEntry_22 ⟨rd_in h1, ?_⟩
    rw [rd_v h1]
    refine s_takeKind h1 (by omega) (c := 0) rfl (by omega) (fun e => ?_) (fun e => ?_)
    · have hf := ck_name.mp e
      have kk2 : tkK t n (tP t n (j + 1)) = 2 := by simp [tFree] at hf; exact hf.1
      have hv := tkN_v kk2
      rw [if_neg (by rw [hf]; decide)] at hpE
      have h2 := rd_next h1 (by omega)
      have ex : clV t n (tP t n (j + 1)) = c32 (tN t n (j + 1)) := by unfold clV; rw [if_pos kk2]
      rw [ex]
      refine b_X4_takeEntry_40 ?_
      rw [if_neg (by decide)]
      refine s_takeCategoryName h2 (by omega) (cats := cats) ⟨by rw [un_i (by decide), un_i (by decide)]; exact hc.1, hc.2⟩ (fun k pl hp => ?_) (fun c cats' I3 B3 hp hc16 h3 hc3 hI3 hB3 => ?_)
      · refine b_X4_takeEntry_49 ?_
        rw [if_neg (by decide)]
        refine ⟨Or.inl rfl, hE k pl _ B ?_ ?_ ?_ (fun i a b c _ => ?_) (fun _ _ => rfl)⟩
        · rw [hpE, hp]; rfl
        · rw [un_i (by decide), ue_i]
        · rw [ue_i]
        · rw [un_i c, un_i b, un_i a, un_i a]
      · have hcats : ∀ {P R : Prop}, P → (if (0 : Int32) ≤ nI c then P else R) := fun hp => if_le (a := 0) rfl rfl (by omega) (by omega) (fun _ => hp) (fun z => absurd z (by omega))
        refine b_X4_takeEntry_49 (hcats ?_)
        refine s_takeFeatures h3 (by omega) (fun k pl I4 hp4 h304 h305 hI4 => ?_) (fun key j4 I4 hp4 hk4 h4 hI4 => ?_)
        · refine b_X4_takeEntry_60 ?_
          rw [if_pos (by decide)]
          refine ⟨Or.inl rfl, hE k pl I4 B3 ?_ h304 h305 (fun i a b c e => ?_) hB3⟩
          · rw [hpE, hp, sbd_r, show pFeat t n 1541 (j + 3) 0 = .inl (k, pl) from hp4]; rfl
          · rw [hI4 i a b c, hI3 i a e, un_i a, un_i a]
        · have hpE2 : pEnt t n j es.length cats = .inr ((tN t n (j + 1), c, key), cats', j4) := by
            rw [hpE, hp, sbd_r, show pFeat t n 1541 (j + 3) 0 = .inr (key, j4) from hp4]; rfl
          have hcat4 : catX I4 B3 cats' := ⟨by rw [hI4 4812 (by decide)]; exact hc3.1, hc3.2⟩
          refine b_X4_takeEntry_60 (nn (bk_lt key hk4) ?_)
          refine s_takeKind h4 (by omega) (c := 3) rfl (by omega) (fun e3 => ?_) (fun e3 => ?_)
          · have hs := ck_semi.mp e3
            have h5 := rd_next h4 (by omega)
            refine b_X4_takeEntry_72 ?_
            rw [if_neg (by decide), sgC_ok hc16 hk4]
            have e10 : upd I4 302 (nI (j4 + 1)) 4810 = nI es.length := by
              rw [un_i (by decide), hI4 4810 (by decide), hI3 4810 (by decide) (by decide), un_i (by decide), un_i (by decide)]; exact he.1
            refine s_addEntry (es := es) (by omega) e10 hlt (b_X4_takeEntry_92 ⟨Or.inr rfl, hO (tN t n (j + 1), c, key) cats' j4 _ _ _ ?_ ?_ ?_ ?_ (fun i a b c => ?_) (fun p hp => un_v hp) (fun p hp hp2 => ?_)⟩)
            · rw [hpE2]; show pSemi t n _ = _; unfold pSemi; rw [if_neg (fun z => z hs)]
            · refine ⟨fun q hq => ?_, by rw [un_i (by decide)]; exact h5.2.1, by rw [un_i (by decide)]; exact h5.2.2.1, h5.2.2.2⟩
              rw [un_v (by decide), un_v (by decide), un_v (by decide)]; exact h5.1 q hq
            · refine ⟨by rw [un_i (by decide), un_i (by decide)]; exact hcat4.1, hcat4.2.1, fun q hq => ?_⟩
              rw [un_v (by decide)]; exact hcat4.2.2 q hq
            · refine ⟨by rw [ue_i, List.length_append]; rfl, by rw [List.length_append]; simp; omega, fun q hq => ?_⟩
              rw [List.length_append] at hq; simp at hq
              rw [ue_v, ue_v]
              by_cases eq : q = es.length
              · subst eq
                rw [ue_l, ue_i, gD_r]
                exact ⟨⟨hv, hc16, hk4⟩, rfl, rfl⟩
              · rw [un_l eq, un_i eq, gD_l (by omega), hB3 49 (by decide)]
                exact he.2.2 q (by omega)
            · rw [un_i b, un_i a, hI4 i a, hI3 i a c, un_i a, un_i a]
            · rw [un_v hp]; exact hB3 p hp2
          · refine b_X4_takeEntry_72 ?_
            rw [if_pos rfl]
            refine ⟨Or.inl rfl, hE 1 (tF t n j4) _ B3 ?_ ?_ ?_ (fun i a b c e => ?_) hB3⟩
            · rw [hpE2]; show pSemi t n _ = _; unfold pSemi; rw [if_pos (fun z => e3 (ck_semi.mpr z)), pFl_1]
            · rw [un_i (by decide), ue_i]
            · rw [ue_i]
            · rw [un_i c, un_i b, hI4 i a, hI3 i a e, un_i a, un_i a]
    · have hf : tFree t n (j + 1) = false := by
        cases z : tFree t n (j + 1) with
        | false => rfl
        | true => exact absurd (ck_name.mpr z) e
      rw [if_pos hf, pFl_1] at hpE
      refine b_X4_takeEntry_40 ?_
      rw [if_pos rfl]
      refine ⟨Or.inl rfl, hE 1 (tF t n (j + 1)) _ B ?_ ?_ ?_ (fun i a b c _ => ?_) (fun _ _ => rfl)⟩
      · rw [hpE]; rfl
      · rw [un_i (by decide), ue_i]
      · rw [ue_i]
      · rw [un_i c, un_i b, un_i a]
  · have hpE : pEnt t n j es.length cats = .inl (3, tF t n j) := by unfold pEnt; rw [if_pos (by omega), pFl_k (by show tkK t n (tP t n j) ≠ 1; omega)]
    refine s_fail h (by omega) (b_X4_takeEntry_17 ⟨Or.inl rfl, hE 3 (tF t n j) _ B (by rw [hpE]; rfl) ?_ ?_ (fun i _ b c _ => ?_) (fun _ _ => rfl)⟩)
    · rw [un_i (by decide), ue_i]; rfl
    · rw [ue_i]
    · rw [un_i c, un_i b]
end C6
