/-! ===== the class: the laws of a rule ===== -/
section C8
variable {l : Launch} {J : Nat → Int64} {Q : Option Value → XW → Prop} {d : Nat} {t : Nat → Nat} {n j : Nat} {tgt cg fg : Value} {I : Nat → Int32} {A : Nat → Nat → Int32} {B : Nat → Nat → Int64}
theorem s_takeLaws (h : rdX I A B t n j) (hd : 4 ≤ d) {y : Int32} {parts : Nat} (hy : y = nI parts) (hp : 1 ≤ parts ∧ parts ≤ 2)
    (hE : ∀ k pl (I' : Nat → Int32) (A' : Nat → Nat → Int32), pLaws t n parts 9 j [] = .inl (k, pl) → I' 304 = nI k → I' 305 = nI pl → (∀ i, i ≠ 302 → i ≠ 304 → i ≠ 305 → i ≠ 805 → I' i = I i) → (∀ p, p < 9 ∨ 12 < p → A' p = A p) → Q (some (.int 0)) (wC (.ref 48) cg fg I' J A' B))
    (hO : ∀ laws j' (I' : Nat → Int32) (A' : Nat → Nat → Int32), pLaws t n parts 9 j [] = .inr (laws, j') → (∀ q ∈ laws, okLaw parts q) → rdX I' A' B t n j' → lawX I' A' laws → (∀ i, i ≠ 302 → i ≠ 805 → I' i = I i) → (∀ p, p < 9 ∨ 12 < p → A' p = A p) → Q (some (.int 1)) (wC (.ref 48) cg fg I' J A' B)) :
    xK l d 58 [.ref 3, .int y] (wC (.ref 48) cg fg I J A B) Q := by
  obtain ⟨d, rfl⟩ : ∃ e, d = e + 1 := ⟨d - 1, by omega⟩
  have loop : ∀ m j1 acc (I1 : Nat → Int32) (A1 : Nat → Nat → Int32), acc.length + m = 9 → pLaws t n parts m j1 acc = pLaws t n parts 9 j [] → (∀ q ∈ acc, okLaw parts q) → rdX I1 A1 B t n j1 → lawX I1 A1 acc → (∀ i, i ≠ 302 → i ≠ 805 → I1 i = I i) → (∀ p, p < 9 ∨ 12 < p → A1 p = A p) → xG l d 58 Q 10 [some (.ref 3), some (.int y), some (.int (nI acc.length)), none] [] (wC (.ref 48) cg fg I1 J A1 B) 0 0 := by
    intro m
    induction m with
    | zero =>
      intro j1 acc I1 A1 hm hpl hok h1 hl hI hA
      have := hl.2.1; omega
    | succ m ih =>
      intro j1 acc I1 A1 hm hpl hok h1 hl hI hA
      have hb := clK_b t n (tP t n j1)
      have h8 := hl.2.1
      -- behind the keyword
      have go : ∀ (b : Bool), tKey t n j1 kwA = b → (tKey t n j1 kwA = true ∨ tKey t n j1 kwI = true) → (if nI acc.length = (8 : Int32) then xK l d 64 [.ref 3, .int 3] (wC (.ref 48) cg fg I1 J A1 B) (fun v9 w9 => xG l d 58 Q 73 [none, none, none, none] (v9.toList ++ []) w9 0 0) else xK l d 63 [.ref 3] (wC (.ref 48) cg fg I1 J A1 B) (fun v9 w9 => xG l d 58 Q 78 [some (.ref 3), some (.int y), some (.int (nI acc.length)), some (.int (bI b))] (v9.toList ++ []) w9 0 0)) := by
        intro b hb1 hor
        have k2 : tkK t n (tP t n j1) = 2 := by
          rcases hor with z | z <;> (simp [tKey] at z; exact z.1)
        have hno : ¬ (tKey t n j1 kwA = false ∧ tKey t n j1 kwI = false) := by
          rintro ⟨a, c⟩; rcases hor with z | z
          · rw [a] at z; cases z
          · rw [c] at z; cases z
        refine if_eq (a := acc.length) rfl (b := 8) rfl (by omega) (by omega) (fun e => ?_) (fun e => ?_)
        · refine s_fail h1 (by omega) (b_X4_takeLaws_73 ⟨Or.inl rfl, hE 3 (tF t n j1) _ A1 ?_ ?_ ?_ (fun i a b c e => ?_) hA⟩)
          · rw [← hpl, pLaws_8 hno e, pFl_k (by show tkK t n (tP t n j1) ≠ 1; omega)]
          · rw [un_i (by decide), ue_i]; rfl
          · rw [ue_i]
          · rw [un_i c, un_i b]; exact hI i a e
        · rw [pLaws_go hno e, hb1] at hpl
          refine s_advance h1 (by omega) (by omega) (b_X4_takeLaws_78 ?_)
          have h2 := rd_next h1 (by omega)
          have hstep : ∀ r, pLaw t n (j1 + 1) parts b = r → sbd r (fun q => pLaws t n parts m (j1 + 4) (acc ++ [q])) = pLaws t n parts 9 j [] := by
            intro r hr
            rw [← hpl, ← hr]
            unfold pLaw
            show sbd (sbd (pNum t n (j1 + 1) 3 none) _) _ = sbd (pNum t n (j1 + 1) 3 none) _
            cases pNum t n (j1 + 1) 3 none with
            | inl e => rfl
            | inr f =>
              rw [sbd_r, sbd_r]
              show sbd (sbd (pNum t n (j1 + 2) parts none) _) _ = _
              cases pNum t n (j1 + 2) parts none with
              | inl e => rfl
              | inr s =>
                rw [sbd_r, sbd_r]
                show sbd (sbd (pNum t n (j1 + 3) _ _) _) _ = _
                cases pNum t n (j1 + 3) (if b = true then parts else 3) (if b = true then some s else none) with
                | inl e => rfl
                | inr v => rfl
          refine s_takeLaw h2 (by omega) (laws := acc) ⟨by rw [un_i (by decide)]; exact hl.1, hl.2⟩ (by omega) rfl hy hp (fun k pl I2 hr h304 h305 hI2 => ?_) (fun q I2 A2 hr hq h3 hl2 hI2 hA2 => ?_)
          · refine b_X4_takeLaws_84 ?_
            rw [if_pos rfl]
            refine ⟨Or.inl rfl, hE k pl I2 A1 ?_ h304 h305 (fun i a b c e => ?_) hA⟩
            · rw [← hstep _ hr]; rfl
            · rw [hI2 i a b c, un_i a]; exact hI i a e
          · refine b_X4_takeLaws_84 ?_
            rw [if_neg (by decide), nI_1]
            have := ih (j1 + 4) (acc ++ [q]) I2 A2 (by rw [List.length_append]; simp; omega) (by rw [← hstep _ hr]; rfl) (by
              intro z hz
              rcases List.mem_append.mp hz with g | g
              · exact hok z g
              · rw [List.mem_singleton.mp g]; exact hq) h3 hl2 (fun i a e => by rw [hI2 i a e, un_i a]; exact hI i a e) (fun p hp => by rw [hA2 p hp]; exact hA p hp)
            rw [List.length_append] at this
            exact this
      refine b_X4_takeLaws_10 (if_lt (a := 8) rfl rfl (by omega) (by omega) (fun z => absurd z (by omega)) (fun _ => ⟨rd_in h1, ?_⟩))
      refine if_eq (rd_k h1) (b := 6) rfl (by omega) (by omega) (fun e => ?_) (fun e => ?_)
      · have hA1 := (ck_key (by omega) (fun v => clN_6)).mp e
        rw [if_neg (by decide)]
        exact go true hA1 (Or.inl hA1)
      · have hA1 : tKey t n j1 kwA = false := by
          cases z : tKey t n j1 kwA with
          | false => rfl
          | true => exact absurd ((ck_key (by omega) (fun v => clN_6)).mpr z) e
        rw [if_pos rfl]
        refine ⟨rd_in h1, if_eq (rd_k h1) (b := 7) rfl (by omega) (by omega) (fun e2 => ?_) (fun e2 => ?_)⟩
        · have hI1 := (ck_key (by omega) (fun v => clN_7)).mp e2
          exact go false hA1 (Or.inr hI1)
        · have hI1 : tKey t n j1 kwI = false := by
            cases z : tKey t n j1 kwI with
            | false => rfl
            | true => exact absurd ((ck_key (by omega) (fun v => clN_7)).mpr z) e2
          rw [pLaws_no hA1 hI1] at hpl
          exact ⟨Or.inr rfl, hO acc j1 I1 A1 hpl.symm hok h1 hl hI hA⟩
  refine e_X4_takeLaws (loop 9 j [] _ A rfl rfl (fun q hq => by cases hq) (rd_up h (by decide) (by decide)) ⟨ue_i _ _ _, by simp, fun k hk => by simp at hk⟩ (fun i _ c => un_i c) (fun _ _ => rfl))
end C8
