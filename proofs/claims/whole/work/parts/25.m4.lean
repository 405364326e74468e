/-! ===== the reference: keys, free names, faults, categories, numbers ===== -/
/-- the reference's new categories -/
def catM (I : Nat → Int32) (B : Nat → Nat → Int64) (cats : List (List Nat)) : Prop := I 27 = nI cats.length ∧ cats.length ≤ 16 ∧ ∀ c, c < cats.length → vNm (cats.getD c []) ∧ B 3 (16 + c) = lN (c27 (cats.getD c []))
section M4
variable {l : Launch} {J : Nat → Int64} {A : Nat → Nat → Int32} {B : Nat → Nat → Int64} {Q : Option Value → XW → Prop} {d : Nat} {t : Nat → Nat} {n : Nat}
theorem s_isKey (hd : 1 ≤ d) {I : Nat → Int32} {j : Nat} (htk : tkM I J t n (tP t n j)) {w : List Nat} {x : Int64} (hw : vNm w) (hx : x = lN (c27 w)) (hQ : Q (some (.int (if tKey t n j w = true then 1 else 0))) (wM I J A B)) : xK l d 136 [.ref 0, .long x] (wM I J A B) Q := by
  obtain ⟨d, rfl⟩ : ∃ e, d = e + 1 := ⟨d - 1, by omega⟩
  have hk5 := tkK_5 t n (tP t n j)
  refine e_X11_isKey (if_eq htk.1 (b := 2) rfl (by omega) (by omega) (fun h => ?_) (fun h => ⟨Or.inl rfl, ?_⟩))
  · have hv := tkN_v h
    refine if_if (show lg_cmp (J 9) x = 0 ↔ tN t n j = w from lg0.trans (by rw [htk.2.2.2.1 h, hx]; exact nm_eq hv hw)) (fun e => ⟨Or.inr rfl, ?_⟩) (fun e => ⟨Or.inl rfl, ?_⟩)
    · rw [if_pos (by simp [tKey, h, e])] at hQ; exact hQ
    · rw [if_neg (by simp [tKey, h, e])] at hQ; exact hQ
  · rw [if_neg (by simp [tKey, h])] at hQ; exact hQ
theorem s_isFree (hd : 1 ≤ d) {I : Nat → Int32} {j : Nat} (htk : tkM I J t n (tP t n j)) (hQ : Q (some (.int (if tFree t n j = true then 1 else 0))) (wM I J A B)) : xK l d 137 [.ref 0] (wM I J A B) Q := by
  obtain ⟨d, rfl⟩ : ∃ e, d = e + 1 := ⟨d - 1, by omega⟩
  have hk5 := tkK_5 t n (tP t n j)
  refine e_X11_isFree (if_eq htk.1 (b := 2) rfl (by omega) (by omega) (fun h => ?_) (fun h => ⟨Or.inl rfl, ?_⟩))
  · have hv := tkN_v h
    have key : ∀ {w : List Nat} {x : Int64}, vNm w → x = lN (c27 w) → (lg_cmp (J 9) x = 0 ↔ tN t n j = w) := fun hw hx => lg0.trans (by rw [htk.2.2.2.1 h, hx]; exact nm_eq hv hw)
    refine if_if (key kw_v.1 (by rw [kw_c.1]; rfl)) (fun e => ⟨Or.inl rfl, ?_⟩) (fun e1 => if_if (key kw_v.2.1 (by rw [kw_c.2.1]; rfl)) (fun e => ⟨Or.inl rfl, ?_⟩) (fun e2 => if_if (key kw_v.2.2.1 (by rw [kw_c.2.2.1]; rfl)) (fun e => ⟨Or.inl rfl, ?_⟩) (fun e3 => if_if (key kw_v.2.2.2 (by rw [kw_c.2.2.2]; rfl)) (fun e => ⟨Or.inl rfl, ?_⟩) (fun e4 => ⟨Or.inr rfl, ?_⟩))))
    · rw [if_neg (by simp [tFree, isKw, e])] at hQ; exact hQ
    · rw [if_neg (by simp [tFree, isKw, e])] at hQ; exact hQ
    · rw [if_neg (by simp [tFree, isKw, e])] at hQ; exact hQ
    · rw [if_neg (by simp [tFree, isKw, e])] at hQ; exact hQ
    · rw [if_pos (by simp [tFree, isKw, h, e1, e2, e3, e4])] at hQ; exact hQ
  · rw [if_neg (by simp [tFree, h])] at hQ; exact hQ
theorem s_bad (hd : 1 ≤ d) {I : Nat → Int32} {j : Nat} (htk : tkM I J t n (tP t n j)) {x : Int32} {k : Nat} (hx : x = nI k) (hQ : Q (some (.int 0)) (wM (upd (upd I 10 (nI (pFl t n j k).1)) 11 (nI (pFl t n j k).2)) J A B)) : xK l d 135 [.ref 0, .int x] (wM I J A B) Q := by
  obtain ⟨d, rfl⟩ : ∃ e, d = e + 1 := ⟨d - 1, by omega⟩
  have hk5 := tkK_5 t n (tP t n j)
  refine e_X11_bad (if_eq htk.1 (b := 1) rfl (by omega) (by omega) (fun h => ⟨Or.inl rfl, ?_⟩) (fun h => ⟨Or.inl rfl, ?_⟩))
  · simp only [pFl, if_pos h] at hQ
    rw [htk.2.1]; exact hQ
  · simp only [pFl, if_neg h] at hQ
    rw [htk.2.1, hx]; exact hQ
set_option maxHeartbeats 1000000 in
theorem s_readCategory (ht : tpM A t n) (hd : 4 ≤ d) {I : Nat → Int32} {j : Nat} {cats : List (List Nat)} (h3 : I 3 = nI n) (htk : tkM I J t n (tP t n j)) (hc : catM I B cats)
    (hE : ∀ k pl, pCat t n j cats = .inl (k, pl) → Q (some (.int (-1))) (wM (upd (upd I 10 (nI k)) 11 (nI pl)) J A B))
    (hO : ∀ c cats' (I' : Nat → Int32) (J' : Nat → Int64) (B' : Nat → Nat → Int64), pCat t n j cats = .inr (c, cats') → c < 16 → tkM I' J' t n (tP t n (j + 1)) → catM I' B' cats' → (∀ i, i ≠ 4 → i ≠ 5 → i ≠ 6 → i ≠ 7 → i ≠ 8 → i ≠ 27 → I' i = I i) → (∀ i, i ≠ 9 → J' i = J i) → (∀ p, p ≠ 3 → B' p = B p) → (∀ i, i < 16 → B' 3 i = B 3 i) → Q (some (.int (nI c))) (wM I' J' A B')) :
    xK l d 138 [.ref 0] (wM I J A B) Q := by
  obtain ⟨d, rfl⟩ : ∃ e, d = e + 1 := ⟨d - 1, by omega⟩
  have hn := ht.1
  have htp := tP_le t n (j + 1)
  refine e_X11_readCategory (s_isFree (by omega) htk ?_)
  refine b_X11_readCategory_4 (if_b (b := tFree t n j) rfl (fun hf => ?_) (fun hf => ?_))
  · refine s_bad (by omega) htk (k := 1) rfl ?_
    exact b_X11_readCategory_12 (hE _ _ (by unfold pCat; rw [if_pos hf]))
  · have hk2 : tK t n j = 2 := by simp [tFree] at hf; exact hf.1
    have hv := tkN_v hk2
    obtain ⟨hc1, hc2, hc3⟩ := hc
    have loop : ∀ m c, cats.length - c = m → c ≤ cats.length → (∀ i, i < c → cats.getD i [] ≠ tN t n j) → xG l d 138 Q 17 [some (.ref 0), some (.int (nI c))] [] (wM I J A B) 0 0 := by
      intro m
      induction m with
      | zero =>
        intro c hm hcl hno
        have ec : c = cats.length := by omega
        have hidx : ¬ cats.idxOf (tN t n j) < cats.length := idx_no (d := []) (fun i hi => hno i (by omega))
        refine b_X11_readCategory_17 (if_le hc1 rfl (by omega) (by omega) (fun _ => ?_) (fun h => absurd h (by omega)))
        refine if_eq (x := nI c) rfl (b := 16) rfl (by omega) (by omega) (fun h => ?_) (fun h => ?_)
        · refine s_bad (by omega) htk (k := 3) rfl ?_
          exact b_X11_readCategory_59 (hE _ _ (by unfold pCat; rw [if_neg (by rw [hf]; decide), if_neg hidx, if_pos (by omega)]))
        · have e16 : (16 : Int32) + nI c = nI (16 + c) := add_of rfl rfl
          refine if_eq (x := nI c) rfl hc1 (by omega) (by omega) (fun _ => ⟨xin_of e16 (by omega) (by omega), ?_⟩) (fun h => absurd ec h)
          rw [e16, cl_n (by omega)]
          refine s_go ht (by omega) (p := tP t n (j + 1)) (by rw [un_i (by decide)]; exact h3) (by rw [un_i (by decide)]; exact htk.2.2.1) htp (fun I' J' h1 h2 h4 => ?_)
          refine b_X11_readCategory_97 (hO c (cats ++ [tN t n j]) I' J' _ (by unfold pCat; rw [if_neg (by rw [hf]; decide), if_neg hidx, if_neg (by omega), ec]) (by omega) h1 ⟨?_, ?_, ?_⟩ ?_ h4 (fun p hp => un_v hp) ?_)
          · rw [h2 27 (by decide) (by decide) (by decide) (by decide) (by decide), ue_i, hc1, List.length_append]; exact nI_1 _
          · rw [List.length_append]; simp; omega
          · intro i hi
            rw [List.length_append] at hi; simp at hi
            rw [ue_v]
            by_cases e : i = c
            · subst e
              rw [ue_l, ec, gD_r]
              exact ⟨hv, htk.2.2.2.1 hk2⟩
            · rw [un_l (by omega), gD_l (by omega)]
              exact hc3 i (by omega)
          · intro i a b cc dd ee ff
            rw [h2 i a b cc dd ee, un_i ff]
          · intro i hi
            rw [ue_v, un_l (by omega)]
      | succ m ih =>
        intro c hm hcl hno
        have e16 : (16 : Int32) + nI c = nI (16 + c) := add_of rfl rfl
        have hcc := hc3 c (by omega)
        have hb3 : B 3 ((16 : Int32) + nI c).toNatClampNeg = lN (c27 (cats.getD c [])) := by rw [e16, cl_n (by omega)]; exact hcc.2
        refine b_X11_readCategory_17 (if_le hc1 rfl (by omega) (by omega) (fun h => absurd h (by omega)) (fun _ => ⟨xin_of e16 (by omega) (by omega), ?_⟩))
        refine if_if (show lg_cmp (B 3 ((16 : Int32) + nI c).toNatClampNeg) (J 9) = 0 ↔ cats.getD c [] = tN t n j from lg0.trans (by rw [hb3, htk.2.2.2.1 hk2]; exact nm_eq hcc.1 hv)) (fun e => ?_) (fun e => ?_)
        · have hidx : cats.idxOf (tN t n j) = c := idx_of (d := []) (by omega) e hno
          refine if_eq (x := nI c) rfl (b := 16) rfl (by omega) (by omega) (fun h => absurd h (by omega)) (fun _ => ?_)
          refine if_eq (x := nI c) rfl hc1 (by omega) (by omega) (fun h => absurd h (by omega)) (fun _ => ?_)
          refine s_go ht (by omega) (p := tP t n (j + 1)) h3 htk.2.2.1 htp (fun I' J' h1 h2 h4 => ?_)
          refine b_X11_readCategory_97 (hO c cats I' J' B (by unfold pCat; rw [if_neg (by rw [hf]; decide), if_pos (by omega), hidx]) (by omega) h1 ⟨by rw [h2 27 (by decide) (by decide) (by decide) (by decide) (by decide)]; exact hc1, hc2, hc3⟩ (fun i a b cc dd ee ff => h2 i a b cc dd ee) h4 (fun _ _ => rfl) (fun _ _ => rfl))
        · have e1 : nI c + 1 = nI (c + 1) := nI_1 c
          rw [e1]
          exact ih (c + 1) (by omega) (by omega) (fun i hi => by
            by_cases z : i = c
            · rw [z]; exact e
            · exact hno i (by omega))
    exact loop cats.length 0 rfl (Nat.zero_le _) (fun i hi => absurd hi (by omega))
theorem s_readNumber (ht : tpM A t n) (hd : 4 ≤ d) {I : Nat → Int32} {j : Nat} (h3 : I 3 = nI n) (htk : tkM I J t n (tP t n j)) {x y : Int32} {most : Nat} {but : Option Nat} (hx : x = nI most) (hm : most ≤ 9) (hy : ∀ v, v ≤ 9 → (nI v = y ↔ but = some v))
    (hE : ∀ k pl, pNum t n j most but = .inl (k, pl) → Q (some (.int (-1))) (wM (upd (upd I 10 (nI k)) 11 (nI pl)) J A B))
    (hO : ∀ v (I' : Nat → Int32) (J' : Nat → Int64), pNum t n j most but = .inr v → v ≤ most → tkM I' J' t n (tP t n (j + 1)) → (∀ i, i ≠ 4 → i ≠ 5 → i ≠ 6 → i ≠ 7 → i ≠ 8 → I' i = I i) → (∀ i, i ≠ 9 → J' i = J i) → Q (some (.int (nI v))) (wM I' J' A B)) :
    xK l d 139 [.ref 0, .int x, .int y] (wM I J A B) Q := by
  obtain ⟨d, rfl⟩ : ∃ e, d = e + 1 := ⟨d - 1, by omega⟩
  have hk5 := tkK_5 t n (tP t n j)
  refine e_X11_readNumber (if_eq htk.1 (b := 3) rfl (by omega) (by omega) (fun h => ?_) (fun h => ?_))
  · have h9 := tkD_9 h
    have h8 := htk.2.2.2.2.1 h
    refine if_lt hx h8 (by omega) (by omega) (fun h1 => ?_) (fun h1 => ?_)
    · refine s_bad (by omega) htk (k := 2) rfl ?_
      exact b_X11_readNumber_37 (hE _ _ (by unfold pNum; rw [if_neg (by simp [h]), if_pos (Or.inl h1)]))
    · refine if_if (show I 8 = y ↔ but = some (tD t n j) from by rw [h8]; exact hy _ h9) (fun h2 => ?_) (fun h2 => ?_)
      · refine s_bad (by omega) htk (k := 2) rfl ?_
        exact b_X11_readNumber_37 (hE _ _ (by unfold pNum; rw [if_neg (by simp [h]), if_pos (Or.inr h2)]))
      · refine s_go ht (by omega) (p := tP t n (j + 1)) h3 htk.2.2.1 (tP_le t n (j + 1)) (fun I' J' a1 a2 a3 => ?_)
        rw [h8]
        exact b_X11_readNumber_49 (hO _ I' J' (by unfold pNum; rw [if_neg (by simp [h]), if_neg (fun z => z.elim (fun z => absurd z (Nat.not_lt.mpr h1)) h2)]) h1 a1 a2 a3)
  · refine s_bad (by omega) htk (k := 1) rfl ?_
    exact b_X11_readNumber_13 (hE _ _ (by unfold pNum; rw [if_pos h]))
end M4
