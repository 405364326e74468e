/-! ===== a grammar: the plain function; the reference's grammar() ===== -/
/-- a rule of one part that leads back to its own category -/
def lpR (ld : Nat → Nat → Bool) (R : Rule) : Bool := R.2.2.1 == none && (R.2.1 == R.1 || ld R.2.1 R.1)
def pGram (t : Nat → Nat) (n : Nat) : (Nat × Nat) ⊕ Gram := sbd (pText t n 71 0 [] [] []) fun g => match g.2.1.find? (lpR (clos g.2.1)) with
  | some R => .inl (4, R.2.2.2.2)
  | none => .inr g
def catO (B : Nat → Nat → Int64) (cats : List (List Nat)) : Prop := cats.length ≤ 16 ∧ ∀ c, c < cats.length → vNm (cats.getD c []) ∧ B 3 c = lN (c27 (cats.getD c []))
/-- the reference's grammar at rest -/
def gM (I : Nat → Int32) (A : Nat → Nat → Int32) (B : Nat → Nat → Int64) (g : Gram) : Prop :=
  I 22 = nI g.1.length ∧ I 23 = nI g.2.1.length ∧ I 24 = nI g.2.2.length ∧ entsM A B 0 g.1 ∧ rulsM A 0 g.2.1 ∧ catO B g.2.2 ∧ ∀ i, i < (ordL (clos g.2.1) g.2.2.length).length → A 13 i = nI ((ordL (clos g.2.1) g.2.2.length).getD i 0)
section M12
variable {l : Launch} {J : Nat → Int64} {A : Nat → Nat → Int32} {B : Nat → Nat → Int64} {Q : Option Value → XW → Prop} {d : Nat} {t : Nat → Nat} {n : Nat}
set_option maxHeartbeats 2000000 in
theorem s_grammar (ht : tpM A t n) (hd : 7 ≤ d) {I : Nat → Int32} (h2 : I 2 = nI n)
    (hE : ∀ k pl (I' : Nat → Int32) (J' : Nat → Int64) (A' : Nat → Nat → Int32) (B' : Nat → Nat → Int64), pGram t n = .inl (k, pl) → I' 0 = 0 → I' 2 = 0 → I' 10 = nI k → (∀ i, i ≠ 0 → i ≠ 2 → i ≠ 3 → i ≠ 4 → i ≠ 5 → i ≠ 6 → i ≠ 7 → i ≠ 8 → i ≠ 10 → i ≠ 11 → i ≠ 25 → i ≠ 26 → i ≠ 27 → I' i = I i) → (∀ i, i ≠ 9 → J' i = J i) → (∀ p i, p ≠ 12 → ¬ ((p = 4 ∨ p = 5) ∧ 40 ≤ i) → ¬ (6 ≤ p ∧ p ≤ 10 ∧ 30 ≤ i) → ¬ (p = 11 ∧ 240 ≤ i) → A' p i = A p i) → (∀ p i, ¬ (p = 2 ∧ 40 ≤ i) → ¬ (p = 3 ∧ 16 ≤ i) → B' p i = B p i) → Q (some (.int (-1 - nI pl))) (wM I' J' A' B'))
    (hO : ∀ (g : Gram) (I' : Nat → Int32) (J' : Nat → Int64) (A' : Nat → Nat → Int32) (B' : Nat → Nat → Int64), pGram t n = .inr g → gM I' A' B' g → I' 0 = 0 → I' 2 = 0 → I' 10 = 0 → I' 28 = 1 → I' 32 = 0 → I' 39 = 0 → I' 48 = 0 → I' 53 = I 53 → (∀ i, i ≠ 9 → J' i = J i) → (∀ p, 14 ≤ p ∨ p = 1 → A' p = A p) → (∀ p, p ≠ 2 → p ≠ 3 → B' p = B p) → Q (some (.int (nI (g.1.length + g.2.1.length)))) (wM I' J' A' B')) :
    xK l d 147 [.ref 0] (wM I J A B) Q := by
  obtain ⟨d, rfl⟩ : ∃ e, d = e + 1 := ⟨d - 1, by omega⟩
  have hn := ht.1
  refine e_X11_grammar (s_readText ht (by omega) (by rw [un_i (by decide), un_i (by decide), ue_i]; exact h2) (by rw [un_i (by decide), ue_i]) (fun k pl I1 J1 A1 B1 hp x10 x11 hf => ?_) (fun es rs cats I1 J1 A1 B1 hp x25 x26 he hr hpl hc x10 hf => ?_))
  · refine b_X11_grammar_32 ?_
    rw [if_pos rfl, x11]
    refine hE k pl I1 J1 A1 B1 (by unfold pGram; rw [hp, sbd_l]) ?_ ?_ x10 (fun i a0 a2 a3 a4 a5 a6 a7 a8 a10 a11 a25 a26 a27 => ?_) hf.2.1 (fun p i _ a b c => hf.2.2.1 p i a b c) hf.2.2.2
    · rw [hf.1 0 (by decide) (by decide) (by decide) (by decide) (by decide) (by decide) (by decide) (by decide) (by decide) (by decide), un_i (by decide), un_i (by decide), un_i (by decide), un_i (by decide), ue_i]
    · rw [hf.1 2 (by decide) (by decide) (by decide) (by decide) (by decide) (by decide) (by decide) (by decide) (by decide) (by decide), un_i (by decide), un_i (by decide), un_i (by decide), ue_i]
    · rw [hf.1 i a4 a5 a6 a7 a8 a10 a11 a25 a26 a27, un_i a10, un_i a4, un_i a3, un_i a2, un_i a0]
  · have y10 : I1 10 = 0 := by rw [x10, ue_i]
    have y0 : I1 0 = 0 := by rw [hf.1 0 (by decide) (by decide) (by decide) (by decide) (by decide) (by decide) (by decide) (by decide) (by decide) (by decide), un_i (by decide), un_i (by decide), un_i (by decide), un_i (by decide), ue_i]
    have y2 : I1 2 = 0 := by rw [hf.1 2 (by decide) (by decide) (by decide) (by decide) (by decide) (by decide) (by decide) (by decide) (by decide) (by decide), un_i (by decide), un_i (by decide), un_i (by decide), ue_i]
    have yf : ∀ i, i ≠ 0 → i ≠ 2 → i ≠ 3 → i ≠ 4 → i ≠ 5 → i ≠ 6 → i ≠ 7 → i ≠ 8 → i ≠ 10 → i ≠ 11 → i ≠ 25 → i ≠ 26 → i ≠ 27 → I1 i = I i := fun i a0 a2 a3 a4 a5 a6 a7 a8 a10 a11 a25 a26 a27 => by rw [hf.1 i a4 a5 a6 a7 a8 a10 a11 a25 a26 a27, un_i a10, un_i a4, un_i a3, un_i a2, un_i a0]
    refine b_X11_grammar_32 ?_
    rw [if_neg (by decide)]
    refine s_close (by omega) hr x26 (fun L hL => b_X11_grammar_46 ?_)
    have hr30 := hr.1
    have hes := he.1
    -- a rule that leads back
    have back : ∀ r, r < rs.length → (∀ i, i < r → lpR (clos rs) (rs.getD i dR) = false) → lpR (clos rs) (rs.getD r dR) = true → (xin (nI (30 + r)) 60 ∧ (xK l d 148 [.ref 0, .int 0] (wM (upd I1 10 4) J1 (va_up A1 12 L) B1) (fun v9 w9 => xG l d 147 Q 129 [none, none, some (.int ((va_up A1 12 L) 10 (nI (30 + r)).toNatClampNeg))] (v9.toList ++ []) w9 0 0))) := by
      intro r hrl hno hyes
      refine ⟨xin_of rfl (by omega) (by omega), s_hold0 (by omega) rfl ?_⟩
      have v10 : (va_up A1 12 L) 10 (nI (30 + r)).toNatClampNeg = nI (rs.getD r dR).2.2.2.2 := by rw [cl_n (by omega), un_v (by decide)]; exact hpl r hrl
      rw [v10]
      refine b_X11_grammar_129 (hE 4 _ _ _ _ _ ?_ (by rw [un_i (by decide)]; exact y0) (by rw [un_i (by decide)]; exact y2) (by rw [ue_i]; rfl) (fun i a0 a2 a3 a4 a5 a6 a7 a8 a10 a11 a25 a26 a27 => by rw [un_i a10]; exact yf i a0 a2 a3 a4 a5 a6 a7 a8 a10 a11 a25 a26 a27) hf.2.1 (fun p i a b c e => by rw [un_v a]; exact hf.2.2.1 p i b c e) hf.2.2.2)
      unfold pGram
      rw [hp, sbd_r]
      have hfind : rs.find? (lpR (clos rs)) = some (rs.getD r dR) := by
        rw [List.find?_eq_some_iff_getElem]
        refine ⟨hyes, r, hrl, (gD_lt hrl dR).symm, fun i hi => ?_⟩
        rw [← gD_lt (by omega) dR, hno i hi]; rfl
      show (match rs.find? (lpR (clos rs)) with | some R => Sum.inl (4, R.2.2.2.2) | none => Sum.inr (es, rs, cats)) = _
      rw [hfind]
    have loop : ∀ m r, rs.length - r = m → r ≤ rs.length → (∀ i, i < r → lpR (clos rs) (rs.getD i dR) = false) → xG l d 147 Q 49 [some (.ref 0), some (.int (nI (30 + r))), none] [] (wM I1 J1 (va_up A1 12 L) B1) 0 0 := by
      intro m
      induction m with
      | zero =>
        intro r hm hrl hno
        have er : r = rs.length := by omega
        refine b_X11_grammar_49 (if_le (add_of (a := 30) rfl x26) rfl (by omega) (by omega) (fun _ => ?_) (fun h => absurd h (by omega)))
        refine s_hold (by omega) (f := clos rs) (nc := cats.length) (fun a b ha hb => by rw [ue_v]; exact hL a b ha hb) hc.1 hc.2.1 rfl (fun A2 B2 c1 c2 c3 c4 c5 c6 c7 => ?_)
        refine b_X11_grammar_144 ⟨Or.inr rfl, ?_⟩
        have e22 : upd (upd (upd I1 22 (I1 25)) 23 (I1 26)) 24 (I1 27) 22 = nI es.length := by rw [un_i (by decide), un_i (by decide), ue_i]; exact x25
        have e23 : upd (upd (upd I1 22 (I1 25)) 23 (I1 26)) 24 (I1 27) 23 = nI rs.length := by rw [un_i (by decide), ue_i]; exact x26
        have e24 : upd (upd (upd I1 22 (I1 25)) 23 (I1 26)) 24 (I1 27) 24 = nI cats.length := by rw [ue_i]; exact hc.1
        rw [e22, e23, nI_add]
        have hno' : rs.find? (lpR (clos rs)) = none := by
          rw [List.find?_eq_none]
          intro R hR
          obtain ⟨i, hi, e⟩ := List.mem_iff_getElem.mp hR
          have := hno i (by omega)
          rw [gD_lt hi, e] at this
          rw [this]; decide
        refine hO (es, rs, cats) _ _ _ _ ?_ ⟨?_, ?_, ?_, ⟨hes, fun e hel => ?_⟩, ⟨hr30, fun r hrl => ?_⟩, ⟨hc.2.1, fun c hcl => ?_⟩, c5⟩ ?_ ?_ ?_ ?_ ?_ ?_ ?_ ?_ hf.2.1 (fun p hp1 => ?_) (fun p a b => ?_)
        · unfold pGram
          rw [hp, sbd_r]
          show (match rs.find? (lpR (clos rs)) with | some R => Sum.inl (4, R.2.2.2.2) | none => Sum.inr (es, rs, cats)) = _
          rw [hno']
        · rw [un_i (by decide), un_i (by decide), un_i (by decide), un_i (by decide)]; exact e22
        · rw [un_i (by decide), un_i (by decide), un_i (by decide), un_i (by decide)]; exact e23
        · rw [un_i (by decide), un_i (by decide), un_i (by decide), un_i (by decide)]; exact e24
        · have hel : e < es.length := hel
          obtain ⟨z1, z2, z3, z4⟩ := he.2 e hel
          have hc1 := c1 e (by omega)
          rw [un_v (by decide), un_v (by decide)] at hc1
          refine ⟨z1, ?_, ?_, ?_⟩
          · rw [Nat.zero_add, hc1.2.2]; exact z2
          · rw [Nat.zero_add, hc1.1]; exact z3
          · rw [Nat.zero_add, hc1.2.1]; exact z4
        · have hrl : r < rs.length := hrl
          obtain ⟨z0, z1, z2, z3, z4, z5⟩ := hr.2 r hrl
          have h8 := z0.2.2.2.1
          rw [Nat.zero_add]
          refine ⟨z0, ?_, ?_, ?_, ?_, fun k hk => ?_⟩
          · rw [c2 6 r (by omega) (by omega) (by omega), un_v (by decide)]; exact z1
          · rw [c2 7 r (by omega) (by omega) (by omega), un_v (by decide)]; exact z2
          · rw [c2 8 r (by omega) (by omega) (by omega), un_v (by decide)]; exact z3
          · rw [c2 9 r (by omega) (by omega) (by omega), un_v (by decide)]; exact z4
          · have hk : k < (rs.getD r dR).2.2.2.1.length := hk
            rw [c3 _ (by omega), un_v (by decide), show 240 + (8 * r + k) = 8 * (30 + r) + k by omega]; exact z5 k hk
        · have hcl : c < cats.length := hcl
          obtain ⟨z1, z2⟩ := hc.2.2 c hcl
          exact ⟨z1, by rw [c4 c (by have := hc.2.1; omega)]; exact z2⟩
        · rw [un_i (by decide), un_i (by decide), un_i (by decide), un_i (by decide), un_i (by decide), un_i (by decide), un_i (by decide)]; exact y0
        · rw [un_i (by decide), un_i (by decide), un_i (by decide), un_i (by decide), un_i (by decide), un_i (by decide), un_i (by decide)]; exact y2
        · rw [un_i (by decide), un_i (by decide), un_i (by decide), un_i (by decide), un_i (by decide), un_i (by decide), un_i (by decide)]; exact y10
        · rw [un_i (by decide), un_i (by decide), un_i (by decide), ue_i]
        · rw [un_i (by decide), un_i (by decide), ue_i]
        · rw [un_i (by decide), ue_i]
        · rw [ue_i]
        · rw [un_i (by decide), un_i (by decide), un_i (by decide), un_i (by decide), un_i (by decide), un_i (by decide), un_i (by decide)]
          exact yf 53 (by decide) (by decide) (by decide) (by decide) (by decide) (by decide) (by decide) (by decide) (by decide) (by decide) (by decide) (by decide) (by decide)
        · rw [c6 p (by omega) (by omega) (by omega) (by omega) (by omega) (by omega) (by omega) (by omega), un_v (by omega)]
          funext i; exact hf.2.2.1 p i (by omega) (by omega) (by omega)
        · rw [c7 p a b]; funext i; exact hf.2.2.2 p i (by omega) (by omega)
      | succ m ih =>
        intro r hm hrl hno
        obtain ⟨ok, z6, z7, z8, -, -⟩ := hr.2 r (by omega)
        obtain ⟨o1, o2, o3, -⟩ := ok
        have nr : nI (30 + r) + 1 = nI (30 + (r + 1)) := nI_1 _
        have bk := back r (by omega) hno
        have nx : lpR (clos rs) (rs.getD r dR) = false → xG l d 147 Q 49 [some (.ref 0), some (.int (nI (30 + r) + 1)), none] [] (wM I1 J1 (va_up A1 12 L) B1) 0 0 := fun hz => by
          rw [nr]
          exact ih (r + 1) (by omega) (by omega) (fun i hi => by
            by_cases e : i = r
            · rw [e]; exact hz
            · exact hno i (by omega))
        generalize rs.getD r dR = R at z6 z7 z8 o1 o2 o3 bk nx
        have a8 : (va_up A1 12 L) 8 (nI (30 + r)).toNatClampNeg = o2i R.2.2.1 := by rw [cl_n (by omega), un_v (by decide)]; exact z8
        have a6 : (va_up A1 12 L) 6 (nI (30 + r)).toNatClampNeg = nI R.1 := by rw [cl_n (by omega), un_v (by decide)]; exact z6
        have a7 : (va_up A1 12 L) 7 (nI (30 + r)).toNatClampNeg = nI R.2.1 := by rw [cl_n (by omega), un_v (by decide)]; exact z7
        refine b_X11_grammar_49 (if_le (add_of (a := 30) rfl x26) rfl (by omega) (by omega) (fun h => absurd h (by omega)) (fun _ => ⟨xin_of rfl (by omega) (by omega), ?_⟩))
        refine if_if (show (va_up A1 12 L) 8 (nI (30 + r)).toNatClampNeg = -1 ↔ R.2.2.1 = none from by rw [a8]; exact o2i_iff o3) (fun ho => ⟨xin_of rfl (by omega) (by omega), xin_of rfl (by omega) (by omega), ?_⟩) (fun ho => ?_)
        · refine if_eq a7 a6 (by omega) (by omega) (fun e => bk (by simp [lpR, ho, e])) (fun e => ⟨xin_of rfl (by omega) (by omega), xin_of rfl (by omega) (by omega), ?_⟩)
          have e1 : (16 : Int32) * (va_up A1 12 L) 7 (nI (30 + r)).toNatClampNeg + (va_up A1 12 L) 6 (nI (30 + r)).toNatClampNeg = nI (16 * R.2.1 + R.1) := add_of (mul_of rfl a7) a6
          have v12 : (va_up A1 12 L) 12 ((16 : Int32) * (va_up A1 12 L) 7 (nI (30 + r)).toNatClampNeg + (va_up A1 12 L) 6 (nI (30 + r)).toNatClampNeg).toNatClampNeg = bI (clos rs R.2.1 R.1) := by rw [e1, cl_n (by omega), ue_v]; exact hL _ _ o2 o1
          refine ⟨xin_of e1 (by omega) (by omega), if_bI v12 (fun hz => nx (by simp [lpR, hz, e])) (fun hz => bk (by simp [lpR, ho, hz]))⟩
        · exact nx (by
            cases q : R.2.2.1 with
            | none => exact absurd q ho
            | some c => simp [lpR, q])
    exact loop rs.length 0 rfl (Nat.zero_le _) (fun i hi => absurd hi (by omega))
end M12
