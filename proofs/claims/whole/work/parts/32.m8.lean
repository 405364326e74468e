/-! ===== the reference: a text ===== -/
section M8
variable {l : Launch} {J : Nat → Int64} {A : Nat → Nat → Int32} {B : Nat → Nat → Int64} {Q : Option Value → XW → Prop} {d : Nat} {t : Nat → Nat} {n : Nat}
theorem tC_lt (ht : ∀ i, i < n → t i < 256) {p : Nat} (h : tkK t n p = 4) : tkC t n p < 256 := by
  unfold tkC
  refine ht _ ?_
  unfold tkK at h
  split at h
  · omega
  · split at h
    · omega
    · omega
set_option maxHeartbeats 2000000 in
theorem s_readText (ht : tpM A t n) (hd : 6 ≤ d) {I : Nat → Int32} (h3 : I 3 = nI n) (h4 : I 4 = 0)
    (hE : ∀ k pl (I' : Nat → Int32) (J' : Nat → Int64) (A' : Nat → Nat → Int32) (B' : Nat → Nat → Int64), pText t n 71 0 [] [] [] = .inl (k, pl) → I' 10 = nI k → I' 11 = nI pl → ftM I J A B I' J' A' B' → Q (some (.int 0)) (wM I' J' A' B'))
    (hO : ∀ es rs cats (I' : Nat → Int32) (J' : Nat → Int64) (A' : Nat → Nat → Int32) (B' : Nat → Nat → Int64), pText t n 71 0 [] [] [] = .inr (es, rs, cats) → I' 25 = nI es.length → I' 26 = nI rs.length → entsM A' B' 40 es → rulsM A' 30 rs → plcM A' rs → catM I' B' cats → I' 10 = I 10 → ftM I J A B I' J' A' B' → Q (some (.int 1)) (wM I' J' A' B')) :
    xK l d 144 [.ref 0] (wM I J A B) Q := by
  obtain ⟨d, rfl⟩ : ∃ e, d = e + 1 := ⟨d - 1, by omega⟩
  have hn := ht.1
  have cW : (464134 : Int64) = lN (c27 kwW) := by rw [kw_c.1]; rfl
  have cR : (369932 : Int64) = lN (c27 kwR) := by rw [kw_c.2.1]; rfl
  have loop : ∀ m j es rs cats (I1 : Nat → Int32) (J1 : Nat → Int64) (A1 : Nat → Nat → Int32) (B1 : Nat → Nat → Int64), es.length + rs.length + m = 71 → tkM I1 J1 t n (tP t n j) → I1 25 = nI es.length → I1 26 = nI rs.length → entsM A1 B1 40 es → rulsM A1 30 rs → plcM A1 rs → catM I1 B1 cats → I1 10 = I 10 → ftM I J A B I1 J1 A1 B1 → pText t n m j es rs cats = pText t n 71 0 [] [] [] →
      xG l d 144 Q 19 [some (.ref 0), none] [] (wM I1 J1 A1 B1) 0 0 := by
    intro m
    induction m with
    | zero => intro j es rs cats I1 J1 A1 B1 hm _ _ _ he hr; have := he.1; have := hr.1; omega
    | succ m ih =>
      intro j es rs cats I1 J1 A1 B1 hm htk h25 h26 he hr hpl hc h10 hft hpt
      have ht1 := tpM_ft hft ht
      have i3 : I1 3 = nI n := by rw [hft.1 3 (by decide) (by decide) (by decide) (by decide) (by decide) (by decide) (by decide) (by decide) (by decide) (by decide)]; exact h3
      have hun : pText t n (m + 1) j es rs cats = if tKey t n j kwW = true then sbd (pEnt t n j es.length cats) fun q => if ¬ (tK t n q.2.2 = 4 ∧ tC t n q.2.2 = 59) then .inl (pFl t n q.2.2 1) else if tK t n (q.2.2 + 1) = 0 then .inr (es ++ [q.1], rs, q.2.1) else pText t n m (q.2.2 + 1) (es ++ [q.1]) rs q.2.1
        else if tKey t n j kwR = true then sbd (pRule t n j rs.length cats) fun q => if ¬ (tK t n q.2.2 = 4 ∧ tC t n q.2.2 = 59) then .inl (pFl t n q.2.2 1) else if tK t n (q.2.2 + 1) = 0 then .inr (es, rs ++ [q.1], q.2.1) else pText t n m (q.2.2 + 1) es (rs ++ [q.1]) q.2.1
        else .inl (pFl t n j 1) := rfl
      rw [hun] at hpt
      -- behind an item
      have tail : ∀ es2 rs2 cats2 j2 (I2 : Nat → Int32) (J2 : Nat → Int64) (A2 : Nat → Nat → Int32) (B2 : Nat → Nat → Int64), es2.length + rs2.length + m = 71 → tkM I2 J2 t n (tP t n j2) → I2 25 = nI es2.length → I2 26 = nI rs2.length → entsM A2 B2 40 es2 → rulsM A2 30 rs2 → plcM A2 rs2 → catM I2 B2 cats2 → I2 10 = I 10 → ftM I J A B I2 J2 A2 B2 → (if ¬ (tK t n j2 = 4 ∧ tC t n j2 = 59) then .inl (pFl t n j2 1) else if tK t n (j2 + 1) = 0 then .inr (es2, rs2, cats2) else pText t n m (j2 + 1) es2 rs2 cats2) = pText t n 71 0 [] [] [] →
          (if I2 6 = 4 then (if I2 7 = 59 then (xK l d 133 [.ref 0] (wM I2 J2 A2 B2) (fun v9 w9 => xG l d 144 Q 97 [some (.ref 0), none] (v9.toList ++ []) w9 0 0)) else (xK l d 135 [.ref 0, .int 1] (wM I2 J2 A2 B2) (fun v9 w9 => xG l d 144 Q 92 [none, none] (v9.toList ++ []) w9 0 0))) else (xK l d 135 [.ref 0, .int 1] (wM I2 J2 A2 B2) (fun v9 w9 => xG l d 144 Q 92 [none, none] (v9.toList ++ []) w9 0 0))) := by
        intro es2 rs2 cats2 j2 I2 J2 A2 B2 hm2 htk2 g25 g26 ge gr gpl gc g10 gft gpt
        have hk5 := tkK_5 t n (tP t n j2)
        have bad : ¬ (tK t n j2 = 4 ∧ tC t n j2 = 59) → xK l d 135 [.ref 0, .int 1] (wM I2 J2 A2 B2) (fun v9 w9 => xG l d 144 Q 92 [none, none] (v9.toList ++ []) w9 0 0) := fun hno => by
          rw [if_pos hno] at gpt
          refine s_bad (by omega) htk2 (k := 1) rfl ?_
          exact b_X11_readText_92 ⟨Or.inl rfl, hE (pFl t n j2 1).1 (pFl t n j2 1).2 _ _ _ _ gpt.symm (by rw [un_i (by decide), ue_i]) (ue_i _ _ _) ⟨fun i a b c d e f g h k q => by rw [un_i g, un_i f, gft.1 i a b c d e f g h k q], gft.2⟩⟩
        refine if_eq htk2.1 (b := 4) rfl (by omega) (by omega) (fun e4 => if_eq (htk2.2.2.2.2.2 e4) (b := 59) rfl (by have := tC_lt (fun i hi => (ht.2 i hi).1) e4; omega) (by omega) (fun e59 => ?_) (fun e59 => bad (fun z => e59 z.2))) (fun e4 => bad (fun z => e4 z.1))
        rw [if_neg (fun z => z ⟨e4, e59⟩)] at gpt
        refine s_go (tpM_ft gft ht) (by omega) (p := tP t n (j2 + 1)) (by rw [gft.1 3 (by decide) (by decide) (by decide) (by decide) (by decide) (by decide) (by decide) (by decide) (by decide) (by decide)]; exact h3) htk2.2.2.1 (tP_le t n (j2 + 1)) (fun I3 J3 k3 f3 g3 => ?_)
        have hk6 := tkK_5 t n (tP t n (j2 + 1))
        have gft3 : ftM I J A B I3 J3 A2 B2 := ftM_trans gft ⟨fun i a b c d e f g h k q => f3 i a b c d e, g3, fun _ _ _ _ _ => rfl, fun _ _ _ _ => rfl⟩
        have gc3 : catM I3 B2 cats2 := ⟨by rw [f3 27 (by decide) (by decide) (by decide) (by decide) (by decide)]; exact gc.1, gc.2⟩
        have q25 : I3 25 = nI es2.length := by rw [f3 25 (by decide) (by decide) (by decide) (by decide) (by decide)]; exact g25
        have q26 : I3 26 = nI rs2.length := by rw [f3 26 (by decide) (by decide) (by decide) (by decide) (by decide)]; exact g26
        have q10 : I3 10 = I 10 := by rw [f3 10 (by decide) (by decide) (by decide) (by decide) (by decide)]; exact g10
        refine b_X11_readText_97 (if_eq k3.1 (b := 0) rfl (by omega) (by omega) (fun e0 => ⟨Or.inr rfl, ?_⟩) (fun e0 => ?_))
        · rw [if_pos e0] at gpt
          exact hO es2 rs2 cats2 I3 J3 A2 B2 gpt.symm q25 q26 ge gr gpl gc3 q10 gft3
        · rw [if_neg e0] at gpt
          exact ih (j2 + 1) es2 rs2 cats2 I3 J3 A2 B2 hm2 k3 q25 q26 ge gr gpl gc3 q10 gft3 gpt
      refine b_X11_readText_19 (s_isKey (by omega) htk kw_v.1 cW ?_)
      refine b_X11_readText_26 (if_b (b := tKey t n j kwW) rfl (fun h1 => ?_) (fun h1 => ?_))
      · rw [if_neg (by rw [h1]; decide)] at hpt
        refine s_isKey (by omega) htk kw_v.2.1 cR ?_
        refine b_X11_readText_38 (if_b (b := tKey t n j kwR) rfl (fun h2 => ?_) (fun h2 => ?_))
        · rw [if_neg (by rw [h2]; decide)] at hpt
          refine s_bad (by omega) htk (k := 1) rfl ?_
          exact b_X11_readText_46 ⟨Or.inl rfl, hE (pFl t n j 1).1 (pFl t n j 1).2 _ _ _ _ hpt.symm (by rw [un_i (by decide), ue_i]) (ue_i _ _ _) ⟨fun i a b c d e f g h k q => by rw [un_i g, un_i f, hft.1 i a b c d e f g h k q], hft.2⟩⟩
        · rw [if_pos h2] at hpt
          refine if_b (b := tKey t n j kwW) rfl (fun _ => ?_) (fun h => by rw [h1] at h; cases h)
          refine s_readRule ht1 (by omega) i3 htk hc h26 hr.1 (fun k pl I2 J2 A2 B2 hp x10 x11 hf2 => ?_) (fun c1 c2 o laws cats2 j2 I2 J2 A2 B2 hp hrc hc1 hc2 ho hl8 hok k2 cc2 x26 x6 x7 x8 x9 x10 x11 y10 hf2 => ?_)
          · rw [hp, sbd_l] at hpt
            refine b_X11_readText_65 ?_
            rw [if_pos rfl]
            exact ⟨Or.inl rfl, hE k pl I2 J2 A2 B2 hpt.symm x10 x11 (ftM_trans hft (frM_ft hf2))⟩
          · rw [hp, sbd_r] at hpt
            refine b_X11_readText_65 ?_
            rw [if_neg (by decide)]
            have oA : ∀ p i, okA rs.length p i → A2 p i = A1 p i := hf2.2.2.1
            refine tail es (rs ++ [(c1, c2, o, laws, tF t n j)]) cats2 j2 I2 J2 A2 B2 (by rw [List.length_append]; simp; omega) k2 (by rw [hf2.1 25 (by decide) (by decide) (by decide) (by decide) (by decide) (by decide) (by decide) (by decide) (by decide)]; exact h25) (by rw [x26, List.length_append]; rfl) ⟨he.1, fun e hel => ?_⟩ ⟨by rw [List.length_append]; simp; omega, fun r hrl => ?_⟩ (fun r hrl => ?_) cc2 (by rw [y10]; exact h10) (ftM_trans hft (frM_ft hf2)) hpt
            · obtain ⟨z1, z2, z3, z4⟩ := he.2 e hel
              exact ⟨z1, by rw [hf2.2.2.2 2 _ (Or.inl (by decide))]; exact z2, by rw [oA 4 _ ⟨fun z => by omega, fun z => by omega⟩]; exact z3, by rw [oA 5 _ ⟨fun z => by omega, fun z => by omega⟩]; exact z4⟩
            · rw [List.length_append] at hrl; simp at hrl
              by_cases e : r = rs.length
              · subst e
                rw [gD_r]
                exact ⟨⟨hc1, hc2, ho, hl8, hok, tkF_b (tP_le t n j) hn⟩, x6, x7, x8, x9, x11⟩
              · rw [gD_l (by omega)]
                obtain ⟨z0, z1, z2, z3, z4, z5⟩ := hr.2 r (by omega)
                refine ⟨z0, by rw [oA 6 _ ⟨fun z => by omega, fun z => by omega⟩]; exact z1, by rw [oA 7 _ ⟨fun z => by omega, fun z => by omega⟩]; exact z2, by rw [oA 8 _ ⟨fun z => by omega, fun z => by omega⟩]; exact z3, by rw [oA 9 _ ⟨fun z => by omega, fun z => by omega⟩]; exact z4, fun k hk => ?_⟩
                have := z0.2.2.2.1
                rw [oA 11 _ ⟨fun z => by omega, fun z => by omega⟩]; exact z5 k hk
            · rw [List.length_append] at hrl; simp at hrl
              by_cases e : r = rs.length
              · subst e; rw [gD_r]; exact x10
              · rw [gD_l (by omega), oA 10 _ ⟨fun z => by omega, fun z => by omega⟩]; exact hpl r (by omega)
      · rw [if_pos h1] at hpt
        refine if_b (b := tKey t n j kwW) rfl (fun h => by rw [h1] at h; cases h) (fun _ => ?_)
        refine s_readEntry ht1 (by omega) i3 htk hc h25 he.1 (fun k pl I2 J2 A2 B2 hp x10 x11 hf2 => ?_) (fun w c key cats2 j2 I2 J2 A2 B2 hp hec hw hc16 hkey k2 cc2 x25 x2 x4 x5 y10 hf2 => ?_)
        · rw [hp, sbd_l] at hpt
          refine b_X11_readText_55 ?_
          rw [if_pos rfl]
          exact ⟨Or.inl rfl, hE k pl I2 J2 A2 B2 hpt.symm x10 x11 (ftM_trans hft (feM_ft hf2))⟩
        · rw [hp, sbd_r] at hpt
          refine b_X11_readText_55 ?_
          rw [if_neg (by decide)]
          have oA : ∀ p i, (p ≠ 4 ∧ p ≠ 5) ∨ i ≠ 40 + es.length → A2 p i = A1 p i := hf2.2.2.1
          refine tail (es ++ [(w, c, key)]) rs cats2 j2 I2 J2 A2 B2 (by rw [List.length_append]; simp; omega) k2 (by rw [x25, List.length_append]; rfl) (by rw [hf2.1 26 (by decide) (by decide) (by decide) (by decide) (by decide) (by decide) (by decide) (by decide) (by decide)]; exact h26) ⟨by rw [List.length_append]; simp; omega, fun e hel => ?_⟩ ⟨hr.1, fun r hrl => ?_⟩ (fun r hrl => ?_) cc2 (by rw [y10]; exact h10) (ftM_trans hft (feM_ft hf2)) hpt
          · rw [List.length_append] at hel; simp at hel
            by_cases z : e = es.length
            · subst z; rw [gD_r]; exact ⟨⟨hw, hc16, hkey⟩, x2, x4, x5⟩
            · rw [gD_l (by omega)]
              obtain ⟨z1, z2, z3, z4⟩ := he.2 e (by omega)
              exact ⟨z1, by rw [hf2.2.2.2 2 _ (Or.inr (by omega)) (Or.inl (by decide))]; exact z2, by rw [oA 4 _ (Or.inr (by omega))]; exact z3, by rw [oA 5 _ (Or.inr (by omega))]; exact z4⟩
          · obtain ⟨z0, z1, z2, z3, z4, z5⟩ := hr.2 r hrl
            exact ⟨z0, by rw [oA 6 _ (Or.inl ⟨by decide, by decide⟩)]; exact z1, by rw [oA 7 _ (Or.inl ⟨by decide, by decide⟩)]; exact z2, by rw [oA 8 _ (Or.inl ⟨by decide, by decide⟩)]; exact z3, by rw [oA 9 _ (Or.inl ⟨by decide, by decide⟩)]; exact z4, fun k hk => by rw [oA 11 _ (Or.inl ⟨by decide, by decide⟩)]; exact z5 k hk⟩
          · rw [oA 10 _ (Or.inl ⟨by decide, by decide⟩)]; exact hpl r hrl
  refine e_X11_readText (s_go ht (by omega) (p := 0) (by rw [un_i (by decide), un_i (by decide), un_i (by decide)]; exact h3) (by rw [un_i (by decide), un_i (by decide), un_i (by decide), h4]; rfl) (Nat.zero_le _) (fun I1 J1 k1 f1 g1 => ?_))
  refine loop 71 0 [] [] [] I1 J1 A B rfl k1 (by rw [f1 25 (by decide) (by decide) (by decide) (by decide) (by decide), un_i (by decide), un_i (by decide), ue_i]; rfl) (by rw [f1 26 (by decide) (by decide) (by decide) (by decide) (by decide), un_i (by decide), ue_i]; rfl) ⟨by simp, fun e h => by simp at h⟩ ⟨by simp, fun e h => by simp at h⟩ (fun e h => by simp at h) ⟨by rw [f1 27 (by decide) (by decide) (by decide) (by decide) (by decide), ue_i]; rfl, by simp, fun c h => by simp at h⟩ (by rw [f1 10 (by decide) (by decide) (by decide) (by decide) (by decide), un_i (by decide), un_i (by decide), un_i (by decide)]) ⟨fun i a b c d e f g h k q => by rw [f1 i a b c d e, un_i q, un_i k, un_i h], g1, fun _ _ _ _ _ => rfl, fun _ _ _ _ => rfl⟩ rfl
end M8
