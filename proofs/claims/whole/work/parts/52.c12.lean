/-! ===== the class: a rule ===== -/
def rulY (A : Nat → Nat → Int32) (r : Nat) (R : Rule) : Prop := A 51 r = nI R.1 ∧ A 52 r = nI R.2.1 ∧ A 53 r = o2i R.2.2.1 ∧ A 54 r = nI R.2.2.2.2 ∧ tabR A r R.2.2.2.1 (if R.2.2.1 = none then 1 else 5)
def rulX (I : Nat → Int32) (A : Nat → Nat → Int32) (rs : List Rule) : Prop := I 4811 = nI rs.length ∧ rs.length ≤ 30 ∧ ∀ r, r < rs.length → okR (rs.getD r dR) ∧ rulY A r (rs.getD r dR)
section C12
variable {l : Launch} {J : Nat → Int64} {Q : Option Value → XW → Prop} {d : Nat} {t : Nat → Nat} {n j : Nat} {tgt cg fg : Value} {I : Nat → Int32} {A : Nat → Nat → Int32} {B : Nat → Nat → Int64}
theorem s_addRule (hd : 5 ≤ d) {rs : List Rule} (hr : rulX I A rs) (h30 : rs.length < 30) {R : Rule} (hR : okR R) (hl : lawX I A R.2.2.2.1) {x y z w : Int32} (hx : x = nI R.1) (hy : y = nI R.2.1) (hz : z = o2i R.2.2.1) (hw : w = nI R.2.2.2.2)
    (hQ : ∀ (A' : Nat → Nat → Int32), rulX (upd I 4811 (nI (rs.length + 1))) A' (rs ++ [R]) → (∀ p, p ≠ 13 → (p < 51 ∨ 55 < p) → A' p = A p) → Q none (wC tgt cg fg (upd I 4811 (nI (rs.length + 1))) J A' B)) : xK l d 44 [.ref 48, .int x, .int y, .int z, .int w, .ref 8] (wC tgt cg fg I J A B) Q := by
  obtain ⟨d, rfl⟩ : ∃ e, d = e + 1 := ⟨d - 1, by omega⟩
  obtain ⟨h1, h2, h3⟩ := hr
  have hin : xin (I 4811) 30 := xin_of h1 (by omega) (by omega)
  refine e_X3_addRule (if_lt h1 (b := 30) rfl (by omega) (by omega) (fun _ => ⟨hin, hin, hin, hin, ?_⟩) (fun g => absurd g (by omega)))
  rw [cl_of h1 (by omega)]
  have fr : ∀ p, (p < 51 ∨ 54 < p) → (va_up (va_up (va_up (va_up A 51 (upd (A 51) rs.length x)) 52 (upd (A 52) rs.length y)) 53 (upd (A 53) rs.length z)) 54 (upd (A 54) rs.length w)) p = A p := fun p hp => by rw [un_v (by omega), un_v (by omega), un_v (by omega), un_v (by omega)]
  have f51 : (va_up (va_up (va_up (va_up A 51 (upd (A 51) rs.length x)) 52 (upd (A 52) rs.length y)) 53 (upd (A 53) rs.length z)) 54 (upd (A 54) rs.length w)) 51 = upd (A 51) rs.length x := by rw [un_v (by decide), un_v (by decide), un_v (by decide), ue_v]
  have f52 : (va_up (va_up (va_up (va_up A 51 (upd (A 51) rs.length x)) 52 (upd (A 52) rs.length y)) 53 (upd (A 53) rs.length z)) 54 (upd (A 54) rs.length w)) 52 = upd (A 52) rs.length y := by rw [un_v (by decide), un_v (by decide), ue_v]
  have f53 : (va_up (va_up (va_up (va_up A 51 (upd (A 51) rs.length x)) 52 (upd (A 52) rs.length y)) 53 (upd (A 53) rs.length z)) 54 (upd (A 54) rs.length w)) 53 = upd (A 53) rs.length z := by rw [un_v (by decide), ue_v]
  have f54 : (va_up (va_up (va_up (va_up A 51 (upd (A 51) rs.length x)) 52 (upd (A 52) rs.length y)) 53 (upd (A 53) rs.length z)) 54 (upd (A 54) rs.length w)) 54 = upd (A 54) rs.length w := by rw [ue_v]
  generalize (va_up (va_up (va_up (va_up A 51 (upd (A 51) rs.length x)) 52 (upd (A 52) rs.length y)) 53 (upd (A 53) rs.length z)) 54 (upd (A 54) rs.length w)) = A1 at fr f51 f52 f53 f54
  have hl1 : lawX I A1 R.2.2.2.1 := ⟨hl.1, hl.2.1, fun k hk => by
    have := hl.2.2 k hk
    unfold lawAt at this ⊢
    rw [fr 9 (by omega), fr 10 (by omega), fr 11 (by omega), fr 12 (by omega)]; exact this⟩
  refine s_tabulate (by omega) hl1 (parts := if R.2.2.1 = none then 1 else 2) (by split <;> omega) hR.2.2.2.2.1 h1 h30 (o := R.2.2.1) (by rw [f53, ue_i]; exact hz) hR.2.2.1 (fun A2 hT hf hp => ?_)
  refine b_X3_addRule_61 ?_
  rw [h1, nI_1]
  refine hQ A2 ⟨by rw [ue_i, List.length_append]; rfl, by rw [List.length_append]; simp; omega, fun r hr => ?_⟩ (fun p a b => by rw [hp p a (by omega), fr p (by omega)])
  rw [List.length_append] at hr; simp at hr
  unfold rulY
  rw [hp 51 (by decide) (by decide), hp 52 (by decide) (by decide), hp 53 (by decide) (by decide), hp 54 (by decide) (by decide), f51, f52, f53, f54]
  by_cases e : r = rs.length
  · subst e
    rw [ue_i, ue_i, ue_i, ue_i, gD_r]
    exact ⟨hR, hx, hy, hz, hw, hT⟩
  · rw [un_i e, un_i e, un_i e, un_i e, gD_l (by omega)]
    obtain ⟨g1, g2, g3, g4, g5, g6⟩ := h3 r (by omega)
    refine ⟨g1, g2, g3, g4, g5, fun f a b hf' ha hb => ?_⟩
    have : b < 5 := by split at hb <;> omega
    rw [hf _ (by omega), fr 55 (by omega)]; exact g6 f a b hf' ha hb
set_option maxHeartbeats 4000000 in
theorem s_takeRule (h : rdX I A B t n j) (hd : 6 ≤ d) (hn : n ≤ 1540) (hw : tKey t n j kwR = true) {rs : List Rule} {cats : List (List Nat)} (hr : rulX I A rs) (hc : catX I B cats)
    (hE : ∀ k pl (I' : Nat → Int32) (A' : Nat → Nat → Int32) (B' : Nat → Nat → Int64), sbd (pRule t n j rs.length cats) (pSemi t n) = .inl (k, pl) → I' 304 = nI k → I' 305 = nI pl → (∀ i, i ≠ 302 → i ≠ 304 → i ≠ 305 → i ≠ 805 → i ≠ 4812 → I' i = I i) → (∀ p, p < 9 ∨ 12 < p → A' p = A p) → (∀ p, p ≠ 56 → B' p = B p) → Q (some (.int 0)) (wC (.ref 48) cg fg I' J A' B'))
    (hO : ∀ R cats' j' (I' : Nat → Int32) (A' : Nat → Nat → Int32) (B' : Nat → Nat → Int64), sbd (pRule t n j rs.length cats) (pSemi t n) = .inr (R, cats', j') → rdX I' A' B' t n (j' + 1) → catX I' B' cats' → rulX I' A' (rs ++ [R]) → (∀ i, i ≠ 302 → i ≠ 805 → i ≠ 4811 → i ≠ 4812 → I' i = I i) → (∀ p, (p < 9 ∨ 13 < p) → (p < 51 ∨ 55 < p) → A' p = A p) → (∀ p, p ≠ 56 → B' p = B p) → Q (some (.int 1)) (wC (.ref 48) cg fg I' J A' B')) :
    xK l d 57 [.ref 3] (wC (.ref 48) cg fg I J A B) Q := by
  obtain ⟨d, rfl⟩ : ∃ e, d = e + 1 := ⟨d - 1, by omega⟩
  have k2 : tkK t n (tP t n j) = 2 := by simp [tKey] at hw; exact hw.1
  have hl := hr.2.1
  have hpl : tF t n j ≤ 1540 := tkF_b (tP_le t n j) hn
  have p1 : ∀ {v : Nat} {P R : Prop}, v < 16 → P → (if (0 : Int32) ≤ nI v then P else R) := fun hv hp => if_le (a := 0) rfl rfl (by omega) (by omega) (fun _ => hp) (fun z => absurd z (by omega))
  have n1 : ∀ {v : Nat} {P R : Prop}, v < 16 → R → (if nI v < (0 : Int32) then P else R) := fun hv hp => if_lt (b := 0) rfl rfl (by omega) (by omega) (fun z => absurd z (by omega)) (fun _ => hp)
  refine e_X4_takeRule (if_lt hr.1 (b := 30) rfl (by omega) (by omega) (fun hlt => ⟨rd_in h, ?_⟩) (fun hge => ?_))
  · rw [rd_p h]
    have hpR : pRule t n j rs.length cats = sbd (pCat t n (j + 1) cats) fun q1 => if ¬ (tK t n (j + 2) = 4 ∧ tC t n (j + 2) = 61) then .inl (pFl t n (j + 2) 1) else sbd (pCat t n (j + 3) q1.2) fun q2 =>
    if tFree t n (j + 4) = true then sbd (pCat t n (j + 4) q2.2) fun q3 => sbd (pLaws t n 2 9 (j + 5) []) fun r => .inr ((q1.1, q2.1, some q3.1, r.1, tF t n j), q3.2, r.2)
    else sbd (pLaws t n 1 9 (j + 4) []) fun r => .inr ((q1.1, q2.1, none, r.1, tF t n j), q2.2, r.2) := by unfold pRule; rw [if_neg (by omega)]
    refine s_advance h (by omega) (by omega) (b_X4_takeRule_35 ?_)
    have h1 := rd_next h (by omega)
    refine s_takeCategoryName h1 (by omega) (cats := cats) ⟨by rw [un_i (by decide)]; exact hc.1, hc.2⟩ (fun k pl hp => ?_) (fun c1 cats1 I1 B1 hp1 hc1 h2 hx1 hI1 hB1 => ?_)
    · refine b_X4_takeRule_39 ?_
      rw [if_pos (by decide)]
      refine ⟨Or.inl rfl, hE k pl _ A B ?_ ?_ ?_ (fun i a b c _ _ => ?_) (fun _ _ => rfl) (fun _ _ => rfl)⟩
      · rw [hpR, hp]; rfl
      · rw [un_i (by decide), ue_i]
      · rw [ue_i]
      · rw [un_i c, un_i b, un_i a]
    · rw [hp1, sbd_r] at hpR
      refine b_X4_takeRule_39 (n1 hc1 ?_)
      have hI1' : ∀ i, i ≠ 302 → i ≠ 4812 → I1 i = I i := fun i a b => by rw [hI1 i a b, un_i a]
      refine s_takeKind h2 (by omega) (c := 2) rfl (by omega) (fun e => ?_) (fun e => ?_)
      · have he := ck_eq.mp e
        rw [if_neg (fun z => z he)] at hpR
        have h3 := rd_next h2 (by omega)
        refine b_X4_takeRule_49 ?_
        rw [if_neg (by decide)]
        refine s_takeCategoryName h3 (by omega) (cats := cats1) ⟨by rw [un_i (by decide)]; exact hx1.1, hx1.2⟩ (fun k pl hp => ?_) (fun c2 cats2 I2 B2 hp2 hc2 h4 hx2 hI2 hB2 => ?_)
        · refine b_X4_takeRule_58 ?_
          rw [if_neg (by decide)]
          refine ⟨Or.inl rfl, hE k pl _ A B1 ?_ ?_ ?_ (fun i a b c _ f => ?_) (fun _ _ => rfl) hB1⟩
          · rw [hpR, show pCat t n (j + 3) cats1 = .inl (k, pl) from hp]; rfl
          · rw [un_i (by decide), ue_i]
          · rw [ue_i]
          · rw [un_i c, un_i b, un_i a]; exact hI1' i a f
        · rw [show pCat t n (j + 3) (c1, cats1).2 = .inr (c2, cats2) from hp2, sbd_r] at hpR
          have hI2' : ∀ i, i ≠ 302 → i ≠ 4812 → I2 i = I i := fun i a b => by rw [hI2 i a b, un_i a]; exact hI1' i a b
          have hB2' : ∀ p, p ≠ 56 → B2 p = B p := fun p hp => by rw [hB2 p hp]; exact hB1 p hp
          have hbb := clK_b t n (tP t n (j + 1 + 1 + 1 + 1))
          -- behind the parts
          have rest : ∀ (o : Option Nat) (cats3 : List (List Nat)) (j3 parts : Nat) (I3 : Nat → Int32) (B3 : Nat → Nat → Int64) (y : Int32), y = nI parts → parts = (if o = none then 1 else 2) → (∀ c, o = some c → c < 16) → rdX I3 A B3 t n j3 → catX I3 B3 cats3 → (∀ i, i ≠ 302 → i ≠ 4812 → I3 i = I i) → (∀ p, p ≠ 56 → B3 p = B p) → (pRule t n j rs.length cats = sbd (pLaws t n parts 9 j3 []) fun r => .inr ((c1, c2, o, r.1, tF t n j), cats3, r.2)) →
              xK l d 58 [.ref 3, .int y] (wC (.ref 48) cg fg I3 J A B3) (fun v9 w9 => xG l d 57 Q 110 [some (.ref 3), some (.int (nI (tF t n j))), some (.int (nI c1)), some (.int (nI c2)), some (.int (o2i o))] (v9.toList ++ []) w9 0 0) := by
            intro o cats3 j3 parts I3 B3 y hy hpt ho h5 hx3 hI3 hB3 hpR3
            refine s_takeLaws h5 (by omega) hy (by rw [hpt]; split <;> omega) (fun k pl I4 A4 hp4 h304 h305 hI4 hA4 => ?_) (fun laws j4 I4 A4 hp4 hok4 h6 hl4 hI4 hA4 => ?_)
            · refine b_X4_takeRule_110 ?_
              rw [if_pos rfl]
              refine ⟨Or.inl rfl, hE k pl I4 A4 B3 ?_ h304 h305 (fun i a b c d e => ?_) hA4 hB3⟩
              · rw [hpR3, hp4]; rfl
              · rw [hI4 i a b c d]; exact hI3 i a e
            · rw [hp4, sbd_r] at hpR3
              refine b_X4_takeRule_110 ?_
              rw [if_neg (by decide)]
              refine s_takeKind h6 (by omega) (c := 3) rfl (by omega) (fun e3 => ?_) (fun e3 => ?_)
              · have hs := ck_semi.mp e3
                have h7 := rd_next h6 (by omega)
                refine b_X4_takeRule_118 ?_
                rw [if_neg (by decide)]
                have hr4 : rulX (upd I4 302 (nI (j4 + 1))) A4 rs := by
                  refine ⟨by rw [un_i (by decide), hI4 4811 (by decide) (by decide), hI3 4811 (by decide) (by decide)]; exact hr.1, hl, fun r hr' => ?_⟩
                  have := hr.2.2 r hr'
                  unfold rulY tabR at this ⊢
                  rw [hA4 51 (by omega), hA4 52 (by omega), hA4 53 (by omega), hA4 54 (by omega), hA4 55 (by omega)]; exact this
                have hl4' : lawX (upd I4 302 (nI (j4 + 1))) A4 laws := ⟨by rw [un_i (by decide)]; exact hl4.1, hl4.2⟩
                have okR' : okR (c1, c2, o, laws, tF t n j) := ⟨hc1, hc2, ho, hl4.2.1, by rw [hpt] at hok4; exact hok4, hpl⟩
                refine s_addRule (R := (c1, c2, o, laws, tF t n j)) (by omega) hr4 hlt okR' hl4' rfl rfl rfl rfl (fun A5 hr5 hA5 => ?_)
                refine b_X4_takeRule_139 ⟨Or.inr rfl, hO (c1, c2, o, laws, tF t n j) cats3 j4 _ A5 B3 ?_ ?_ ?_ hr5 (fun i a b c e => ?_) (fun p a b => ?_) hB3⟩
                · rw [hpR3]; show pSemi t n _ = _; unfold pSemi; rw [if_neg (fun z => z hs)]
                · refine ⟨fun q hq => ?_, by rw [un_i (by decide)]; exact h7.2.1, by rw [un_i (by decide)]; exact h7.2.2.1, h7.2.2.2⟩
                  rw [hA5 5 (by decide) (by omega), hA5 6 (by decide) (by omega)]; exact h7.1 q hq
                · exact ⟨by rw [un_i (by decide), un_i (by decide), hI4 4812 (by decide) (by decide)]; exact hx3.1, hx3.2⟩
                · rw [un_i c, un_i a, hI4 i a b]; exact hI3 i a e
                · rw [hA5 p (by omega) b]; exact hA4 p (by omega)
              · refine b_X4_takeRule_118 ?_
                rw [if_pos rfl]
                refine ⟨Or.inl rfl, hE 1 (tF t n j4) _ A4 B3 ?_ ?_ ?_ (fun i a b c e f => ?_) hA4 hB3⟩
                · rw [hpR3]; show pSemi t n _ = _; unfold pSemi; rw [if_pos (fun z => e3 (ck_semi.mpr z)), pFl_1]
                · rw [un_i (by decide), ue_i]
                · rw [ue_i]
                · rw [un_i c, un_i b, hI4 i a e]; exact hI3 i a f
          refine b_X4_takeRule_58 (p1 hc2 ⟨rd_in h4, if_eq (rd_k h4) (b := 0) rfl (by omega) (by omega) (fun e4 => ?_) (fun e4 => ?_)⟩)
          · have hf : tFree t n (j + 4) = true := ck_name.mp e4
            rw [if_pos hf] at hpR
            refine s_takeCategoryName h4 (by omega) (cats := cats2) hx2 (fun k pl hp => ?_) (fun c3 cats3 I3 B3 hp3 hc3 h5 hx3 hI3 hB3 => ?_)
            · refine b_X4_takeRule_87 ?_
              rw [if_neg (by decide)]
              refine ⟨Or.inl rfl, hE k pl _ A B2 ?_ ?_ ?_ (fun i a b c _ f => ?_) (fun _ _ => rfl) hB2'⟩
              · rw [hpR, show pCat t n (j + 4) (c2, cats2).2 = .inl (k, pl) from hp]; rfl
              · rw [un_i (by decide), ue_i]
              · rw [ue_i]
              · rw [un_i c, un_i b]; exact hI2' i a f
            · rw [show pCat t n (j + 4) (c2, cats2).2 = .inr (c3, cats3) from hp3, sbd_r] at hpR
              refine b_X4_takeRule_87 (p1 hc3 (p1 hc3 ?_))
              exact rest (some c3) cats3 (j + 5) 2 I3 B3 2 rfl rfl (fun c hc => by cases hc; exact hc3) h5 hx3 (fun i a b => by rw [hI3 i a b]; exact hI2' i a b) (fun p hp => by rw [hB3 p hp]; exact hB2' p hp) hpR
          · have hf : ¬ tFree t n (j + 4) = true := fun z => e4 (ck_name.mpr z)
            rw [if_neg hf] at hpR
            rw [if_neg (by decide)]
            exact rest none cats2 (j + 4) 1 I2 B2 1 rfl rfl (fun c hc => by cases hc) h4 hx2 hI2' hB2' hpR
      · rw [if_pos (fun z => e (ck_eq.mpr z)), pFl_1] at hpR
        refine b_X4_takeRule_49 ?_
        rw [if_pos rfl]
        refine ⟨Or.inl rfl, hE 1 (tF t n (j + 2)) _ A B1 ?_ ?_ ?_ (fun i a b c _ f => ?_) (fun _ _ => rfl) hB1⟩
        · rw [hpR]; rfl
        · rw [un_i (by decide), ue_i]
        · rw [ue_i]
        · rw [un_i c, un_i b]; exact hI1' i a f
  · have hpR : pRule t n j rs.length cats = .inl (3, tF t n j) := by unfold pRule; rw [if_pos (by omega), pFl_k (by show tkK t n (tP t n j) ≠ 1; omega)]
    refine s_fail h (by omega) (b_X4_takeRule_17 ⟨Or.inl rfl, hE 3 (tF t n j) _ A B (by rw [hpR]; rfl) ?_ ?_ (fun i _ b c _ _ => ?_) (fun _ _ => rfl) (fun _ _ => rfl)⟩)
    · rw [un_i (by decide), ue_i]; rfl
    · rw [ue_i]
    · rw [un_i c, un_i b]
end C12
