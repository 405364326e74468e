/-! ===== the class: its rules of one part in their order ===== -/
def gP (key : Nat → Nat) (n m : Nat) : List Nat := (List.range m).flatMap fun k => (List.range n).filter fun c => key c == k
theorem gP_succ (key : Nat → Nat) (n m : Nat) : gP key n (m + 1) = gP key n m ++ (List.range n).filter fun c => key c == m := by
  unfold gP; rw [List.range_succ, List.flatMap_append]; simp
theorem gP_len (key : Nat → Nat) (n m : Nat) : (gP key n m).length = (List.range n).countP fun c => decide (key c < m) := by
  induction m with
  | zero => simp [gP]
  | succ m ih =>
    rw [gP_succ, List.length_append, ih, ← List.countP_eq_length_filter, countP_dj (fun x hx => by simp at hx; omega)]
    congr 1
    funext x
    rw [Bool.eq_iff_iff]; simp; omega
theorem gP_room (key : Nat → Nat) {n m c : Nat} (hc : c < n) (hm : key c = m) : (gP key n m ++ (List.range c).filter fun x => key x == m).length < n := by
  rw [List.length_append, gP_len, ← List.countP_eq_length_filter]
  have h1 : (List.range c).countP (fun x => key x == m) ≤ (List.range n).countP (fun x => decide (x < c) && (key x == m)) := by
    have e : List.range n = List.range c ++ (List.range (n - c)).map (c + ·) := by
      rw [← List.range_add]; congr 1; omega
    rw [e, List.countP_append]
    have e2 : (List.range c).countP (fun x => decide (x < c) && (key x == m)) = (List.range c).countP (fun x => key x == m) := by
      apply List.countP_congr
      intro x hx
      have := List.mem_range.mp hx
      simp [this]
    omega
  have h2 := countP_dj (l := List.range n) (p := fun c => decide (key c < m)) (q := fun x => decide (x < c) && (key x == m)) (fun x hx => by simp at hx; omega)
  have h3 : (List.range n).countP (fun x => decide (key x < m) || (decide (x < c) && (key x == m))) < (List.range n).length := by
    refine Nat.lt_of_le_of_ne List.countP_le_length (fun z => ?_)
    have := List.countP_eq_length.mp z c (List.mem_range.mpr hc)
    simp at this; omega
  rw [List.length_range] at h3
  omega
/-- a rule's place among those of one part -/
def sgK (f : Nat → Nat → Bool) (rs : List Rule) (r : Nat) : Nat := if (rs.getD r dR).2.2.1 = none ∧ 1 ≤ cntC f (rs.getD r dR).1 then cntC f (rs.getD r dR).1 - 1 else 1000
def sgL (f : Nat → Nat → Bool) (rs : List Rule) : List Nat := gP (sgK f rs) rs.length 15
def lstX (I : Nat → Int32) (A : Nat → Nat → Int32) (L : List Nat) : Prop := I 4813 = nI L.length ∧ ∀ i, i < L.length → A 58 i = nI (L.getD i 0)
section C18
variable {l : Launch} {J : Nat → Int64} {Q : Option Value → XW → Prop} {d : Nat} {tgt cg fg : Value} {I : Nat → Int32} {A : Nat → Nat → Int32} {B : Nat → Nat → Int64}
theorem s_orderSingles (hd : 2 ≤ d) {rs : List Rule} {f : Nat → Nat → Bool} (hr : rulX I A rs) (hrow : rowX A f)
    (hQ : ∀ (I' : Nat → Int32) (A' : Nat → Nat → Int32), lstX I' A' (sgL f rs) → (∀ i, i ≠ 4813 → I' i = I i) → (∀ p, p ≠ 58 → A' p = A p) → Q none (wC tgt cg fg I' J A' B)) : xK l d 51 [.ref 48] (wC tgt cg fg I J A B) Q := by
  obtain ⟨d, rfl⟩ : ∃ e, d = e + 1 := ⟨d - 1, by omega⟩
  obtain ⟨h11, h30, h3⟩ := hr
  have inner : ∀ m k r (I1 : Nat → Int32) (A1 : Nat → Nat → Int32), rs.length - r < m → k < 15 → r ≤ rs.length → lstX I1 A1 (gP (sgK f rs) rs.length k ++ (List.range r).filter fun x => sgK f rs x == k) → (∀ i, i ≠ 4813 → I1 i = I i) → (∀ p, p ≠ 58 → A1 p = A p) → (∀ (I2 : Nat → Int32) (A2 : Nat → Nat → Int32), lstX I2 A2 (gP (sgK f rs) rs.length (k + 1)) → (∀ i, i ≠ 4813 → I2 i = I i) → (∀ p, p ≠ 58 → A2 p = A p) → xG l d 51 Q 7 [some (.ref 48), some (.int (nI (k + 2))), none] [] (wC tgt cg fg I2 J A2 B) 0 0) → xG l d 51 Q 15 [some (.ref 48), some (.int (nI (k + 1))), some (.int (nI r))] [] (wC tgt cg fg I1 J A1 B) 0 0 := by
    intro m
    induction m with
    | zero => intro k r I1 A1 hm; exact absurd hm (by omega)
    | succ m ih =>
      intro k r I1 A1 hm hk hrl hL hI hA hnext
      refine b_X3_orderSingles_15 (if_le (show I1 4811 = nI rs.length by rw [hI 4811 (by decide)]; exact h11) rfl (by omega) (by omega) (fun g => ?_) (fun g => ?_))
      · rw [nI_1]
        have e : r = rs.length := by omega
        subst e
        exact hnext I1 A1 (by rw [gP_succ]; exact hL) hI hA
      · obtain ⟨g1, g2, g3, g4, g5, g6⟩ := h3 r g
        have skip : sgK f rs r ≠ k → xG l d 51 Q 15 [some (.ref 48), some (.int (nI (k + 1))), some (.int (nI (r + 1)))] [] (wC tgt cg fg I1 J A1 B) 0 0 := fun hne => ih k (r + 1) I1 A1 (by omega) hk (by omega) (by
          rw [List.range_succ, List.filter_append]
          have : (sgK f rs r == k) = false := by simp [hne]
          simp only [List.filter_cons, this, List.filter_nil]
          simpa using hL) hI hA hnext
        have hroom := gP_room (sgK f rs) (n := rs.length) (m := k) (c := r) g
        have hkey : sgK f rs r = if (rs.getD r dR).2.2.1 = none ∧ 1 ≤ cntC f (rs.getD r dR).1 then cntC f (rs.getD r dR).1 - 1 else 1000 := rfl
        generalize rs.getD r dR = R at *
        refine s_isSingle2 (by omega) rfl (by omega) (o := R.2.2.1) (by rw [hA 53 (by decide)]; exact g4) g1.2.2.1 (b_X3_orderSingles_28 (if_bI rfl (fun e => ?_) (fun e => ?_)))
        · rw [nI_1]
          refine skip ?_
          rw [hkey, if_neg (fun z => by rw [z.1] at e; cases e)]; omega
        · have ho : R.2.2.1 = none := by
            cases ho : R.2.2.1 with
            | none => rfl
            | some c => rw [ho] at e; cases e
          have hc := g1.1
          have e51 : A1 51 (nI r).toNatClampNeg = nI R.1 := by rw [cl_n (by omega), hA 51 (by decide)]; exact g2
          refine ⟨xin_of rfl (by omega) (by omega), xin_of e51 (by omega) (by omega), ?_⟩
          have hcl := cntC_le f R.1
          refine s_bitCount (by omega) (f := f) (c := R.1) (by rw [e51, cl_n (by omega), hA 57 (by decide)]; exact hrow R.1 hc) (b_X3_orderSingles_45 (if_eq rfl rfl (by omega) (by omega) (fun e2 => ?_) (fun e2 => ?_)))
          · have hkk : sgK f rs r = k := by rw [hkey, if_pos ⟨ho, by omega⟩]; omega
            have hroom := hroom hkk
            obtain ⟨l1, l2⟩ := hL
            generalize hLL : (gP (sgK f rs) rs.length k ++ (List.range r).filter fun x => sgK f rs x == k) = L at *
            refine ⟨xin_of l1 (by omega) (by omega), ?_⟩
            rw [cl_of l1 (by omega), l1, nI_1, nI_1]
            refine ih k (r + 1) _ _ (by omega) hk (by omega) ?_ (fun i hi => by rw [un_i hi]; exact hI i hi) (fun p hp => by rw [un_v hp]; exact hA p hp) hnext
            have hfil : (gP (sgK f rs) rs.length k ++ (List.range (r + 1)).filter fun x => sgK f rs x == k) = L ++ [r] := by
              rw [List.range_succ, List.filter_append, ← List.append_assoc, hLL]
              have : (sgK f rs r == k) = true := by simp [hkk]
              simp [List.filter_cons, this]
            rw [hfil]
            refine ⟨by rw [ue_i, List.length_append]; rfl, fun i hi => ?_⟩
            rw [List.length_append] at hi; simp at hi
            rw [ue_v]
            by_cases z : i = L.length
            · subst z; rw [ue_i, gD_r]
            · rw [un_i z, gD_l (by omega)]; exact l2 i (by omega)
          · rw [nI_1]
            refine skip ?_
            rw [hkey]
            split <;> omega
  have outer : ∀ m k (I1 : Nat → Int32) (A1 : Nat → Nat → Int32), 15 - k < m → k ≤ 15 → lstX I1 A1 (gP (sgK f rs) rs.length k) → (∀ i, i ≠ 4813 → I1 i = I i) → (∀ p, p ≠ 58 → A1 p = A p) → xG l d 51 Q 7 [some (.ref 48), some (.int (nI (k + 1))), none] [] (wC tgt cg fg I1 J A1 B) 0 0 := by
    intro m
    induction m with
    | zero => intro k I1 A1 hm; exact absurd hm (by omega)
    | succ m ih =>
      intro k I1 A1 hm hk hL hI hA
      refine b_X3_orderSingles_7 (if_le (a := 16) rfl rfl (by omega) (by omega) (fun g => ?_) (fun g => ?_))
      · have e : k = 15 := by omega
        subst e
        exact hQ I1 A1 hL hI hA
      · exact inner (rs.length + 1) k 0 I1 A1 (by omega) (by omega) (by omega) (by simpa using hL) hI hA (fun I2 A2 h2 hI2 hA2 => ih (k + 1) I2 A2 (by omega) (by omega) h2 hI2 hA2)
  exact e_X3_orderSingles (outer 16 0 _ A (by omega) (by omega) ⟨by rw [ue_i]; rfl, fun i hi => by simp [gP] at hi⟩ (fun i hi => un_i hi) (fun _ _ => rfl))
end C18
