/-! ===== the class: categories ===== -/
section C4
variable {l : Launch} {J : Nat → Int64} {Q : Option Value → XW → Prop} {d : Nat} {t : Nat → Nat} {n j : Nat} {tgt cg fg : Value} {I : Nat → Int32} {A : Nat → Nat → Int32} {B : Nat → Nat → Int64}
theorem s_categoryOf2 (hd : 1 ≤ d) {cats : List (List Nat)} (hc : catX I B cats) {x : Int64} {nm : List Nat} (hx : x = lN (c32 nm)) (hv : vNm nm)
    (hY : cats.idxOf nm < cats.length → Q (some (.int (nI (cats.idxOf nm)))) (wC tgt cg fg I J A B)) (hN : ¬ cats.idxOf nm < cats.length → Q (some (.int (-1))) (wC tgt cg fg I J A B)) : xK l d 41 [.ref 48, .long x] (wC tgt cg fg I J A B) Q := by
  obtain ⟨d, rfl⟩ : ∃ e, d = e + 1 := ⟨d - 1, by omega⟩
  obtain ⟨hc1, hc2, hc3⟩ := hc
  have loop : ∀ m c, cats.length - c < m → c ≤ cats.length → (∀ i, i < c → cats.getD i [] ≠ nm) → xG l d 41 Q 2 [some (.ref 48), some (.long x), none, some (.int (nI c))] [] (wC tgt cg fg I J A B) 0 0 := by
    intro m
    induction m with
    | zero => intro c hm; exact absurd hm (by omega)
    | succ m ih =>
      intro c hm hcl hno
      refine b_X3_categoryOf_g2_2 (if_le hc1 rfl (by omega) (by omega) (fun h => ?_) (fun h => ⟨xin_of rfl (by omega) (by omega), ?_⟩))
      · exact hN (idx_no (d := []) (fun i hi => hno i (by omega)))
      · rw [cl_of rfl (by omega)]
        have hcc := hc3 c h
        refine if_if (show lg_cmp (B 56 c) x = 0 ↔ cats.getD c [] = nm from lg0.trans (by rw [hcc.2, hx]; exact nm_eq32 hcc.1 hv)) (fun e => ?_) (fun e => ?_)
        · have hi : cats.idxOf nm = c := idx_of (d := []) h e hno
          have := hY (by omega)
          rw [hi] at this; exact this
        · rw [nI_1]
          exact ih (c + 1) (by omega) (by omega) (fun i hi => by
            by_cases z : i = c
            · rw [z]; exact e
            · exact hno i (by omega))
  exact e_X3_categoryOf_g2 (loop (cats.length + 1) 0 (by omega) (Nat.zero_le _) (fun i hi => absurd hi (by omega)))
theorem s_addCategory (hd : 1 ≤ d) {cats : List (List Nat)} (hc : catX I B cats) {x : Int64} {nm : List Nat} (hx : x = lN (c32 nm)) (hv : vNm nm)
    (hY : cats.length < 16 → ∀ B', catX (upd I 4812 (nI (cats.length + 1))) B' (cats ++ [nm]) → (∀ p, p ≠ 56 → B' p = B p) → Q (some (.int (nI cats.length))) (wC tgt cg fg (upd I 4812 (nI (cats.length + 1))) J A B')) (hN : cats.length = 16 → Q (some (.int (-1))) (wC tgt cg fg I J A B)) : xK l d 42 [.ref 48, .long x] (wC tgt cg fg I J A B) Q := by
  obtain ⟨d, rfl⟩ : ∃ e, d = e + 1 := ⟨d - 1, by omega⟩
  obtain ⟨hc1, hc2, hc3⟩ := hc
  refine e_X3_addCategory (if_lt hc1 (b := 16) rfl (by omega) (by omega) (fun h => ⟨xin_of hc1 (by omega) (by omega), ?_⟩) (fun h => hN (by omega)))
  rw [cl_of hc1 (by omega), hc1, nI_1, show (1 : Int32) = nI 1 from rfl, sub_n (by omega), Nat.add_sub_cancel]
  refine hY h _ ⟨ue_i _ _ _ |>.trans (by rw [List.length_append]; rfl), by rw [List.length_append]; simp; omega, fun c hcl => ?_⟩ (fun p hp => un_v hp)
  rw [List.length_append] at hcl; simp at hcl
  rw [ue_v]
  by_cases e : c = cats.length
  · subst e; rw [ue_l, gD_r]; exact ⟨hv, hx⟩
  · rw [un_l e, gD_l (by omega)]; exact hc3 c (by omega)
theorem s_takeCategoryName (h : rdX I A B t n j) (hd : 3 ≤ d) {cats : List (List Nat)} (hc : catX I B cats)
    (hE : ∀ k pl, pCat t n j cats = .inl (k, pl) → Q (some (.int (-1))) (wC (.ref 48) cg fg (upd (upd I 304 (nI k)) 305 (nI pl)) J A B))
    (hO : ∀ c cats' (I' : Nat → Int32) (B' : Nat → Nat → Int64), pCat t n j cats = .inr (c, cats') → c < 16 → rdX I' A B' t n (j + 1) → catX I' B' cats' → (∀ i, i ≠ 302 → i ≠ 4812 → I' i = I i) → (∀ p, p ≠ 56 → B' p = B p) → Q (some (.int (nI c))) (wC (.ref 48) cg fg I' J A B')) :
    xK l d 60 [.ref 3] (wC (.ref 48) cg fg I J A B) Q := by
  obtain ⟨d, rfl⟩ : ∃ e, d = e + 1 := ⟨d - 1, by omega⟩
  have hb := clK_b t n (tP t n j)
  refine e_X4_takeCategoryName ⟨rd_in h, if_eq (rd_k h) (b := 0) rfl (by omega) (by omega) (fun e => ⟨rd_in h, ?_⟩) (fun e => ?_)⟩
  · have hf := ck_name.mp e
    have k2 : tkK t n (tP t n j) = 2 := by simp [tFree] at hf; exact hf.1
    have hv := tkN_v k2
    have ex : B 7 (I 302).toNatClampNeg = lN (c32 (tN t n j)) := by rw [rd_v h]; unfold clV; rw [if_pos k2]
    refine s_categoryOf2 (by omega) hc ex hv (fun hi => ?_) (fun hi => ?_)
    · have hl := hc.2.1
      have p1 : ∀ {P R : Prop}, P → (if (0 : Int32) ≤ nI (cats.idxOf (tN t n j)) then P else R) := fun hp => if_le (a := 0) rfl rfl (by omega) (by omega) (fun _ => hp) (fun z => absurd z (by omega))
      refine b_X4_takeCategoryName_42 (p1 (p1 (s_advance h (by omega) (by omega) (b_X4_takeCategoryName_83 (hO _ cats _ B ?_ (by omega) (rd_next h (by omega)) ?_ (fun i a _ => un_i a) (fun _ _ => rfl))))))
      · unfold pCat; rw [if_neg (by rw [hf]; decide), if_pos hi]
      · exact ⟨by rw [un_i (by decide)]; exact hc.1, hc.2⟩
    · refine b_X4_takeCategoryName_42 ?_
      rw [if_neg (by decide)]
      refine ⟨rd_in h, s_addCategory (by omega) hc ex hv (fun hl B' hB hBf => ?_) (fun hl => ?_)⟩
      · have h2 : rdX (upd I 4812 (nI (cats.length + 1))) A B' t n j := by
          have h3 := rd_up (i := 4812) (v := nI (cats.length + 1)) h (by decide) (by decide)
          refine ⟨fun q hq => ?_, h3.2⟩
          rw [hBf 7 (by decide)]; exact h3.1 q hq
        refine b_X4_takeCategoryName_66 (if_le (a := 0) rfl rfl (by omega) (by omega) (fun _ => ?_) (fun z => absurd z (by omega)))
        refine s_advance h2 (by omega) (by omega) (b_X4_takeCategoryName_83 (hO _ (cats ++ [tN t n j]) _ B' ?_ (by omega) (rd_next h2 (by omega)) ?_ (fun i a b => by rw [un_i a, un_i b]) hBf))
        · unfold pCat; rw [if_neg (by rw [hf]; decide), if_neg hi, if_neg (by omega)]
        · exact ⟨by rw [un_i (by decide)]; exact hB.1, hB.2⟩
      · refine b_X4_takeCategoryName_66 ?_
        rw [if_neg (by decide)]
        refine s_fail h (by omega) (b_X4_takeCategoryName_76 (hE 3 (tF t n j) ?_))
        unfold pCat; rw [if_neg (by rw [hf]; decide), if_neg hi, if_pos hl, pFl_k (by show tkK t n (tP t n j) ≠ 1; omega)]
  · refine s_fail h (by omega) (b_X4_takeCategoryName_20 (hE 1 (tF t n j) ?_))
    unfold pCat
    rw [if_pos (by cases z : tFree t n j with
      | false => rfl
      | true => exact absurd (ck_name.mpr z) e), pFl_1]
end C4
