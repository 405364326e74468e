/-! ===== the class: the drawing, cells, adding to a cell ===== -/
def iC (v : Int) : Int32 := Int32.ofInt v
theorem iC_add (a b : Int) : iC a + iC b = iC (a + b) := (Int32.ofInt_add a b).symm
theorem iC_i {a : Int} (h1 : -2000000000 ≤ a) (h2 : a ≤ 2000000000) : (iC a).toInt = a := Int32.toInt_ofInt_of_le (by omega) (by omega)
theorem iC_lt {a b : Int} (h1 : -2000000000 ≤ a) (h2 : a ≤ 2000000000) (h3 : -2000000000 ≤ b) (h4 : b ≤ 2000000000) : iC a < iC b ↔ a < b := by rw [Int32.lt_iff_toInt_lt, iC_i h1 h2, iC_i h3 h4]
theorem iC_min {a b : Int} (h1 : -2000000000 ≤ a) (h2 : a ≤ 2000000000) (h3 : -2000000000 ≤ b) (h4 : b ≤ 2000000000) : (if iC a < iC b then iC a else iC b) = iC (min b a) := by
  by_cases c : a < b
  · rw [if_pos ((iC_lt h1 h2 h3 h4).mpr c), show min b a = a by omega]
  · rw [if_neg (fun z => c ((iC_lt h1 h2 h3 h4).mp z)), show min b a = b by omega]
theorem iC_n (n : Nat) : iC (n : Int) = nI n := by
  unfold iC; exact Int32.ofInt_eq_ofNat
def hasB (D : List (Nat × Nat × Nat)) (c i j : Nat) : Bool := decide ((c, i, j) ∈ D)
def oD (D : List (Nat × Nat × Nat)) : Own := fun c i j => if hasB D c i j = true then -1 else 1
def drX (A : Nat → Nat → Int32) (D : List (Nat × Nat × Nat)) : Prop := ∀ i j, i < j → j ≤ 14 → A 18 (cx i j) = nI (msk (fun c => hasB D c i j) 16)
theorem oD_1 (D : List (Nat × Nat × Nat)) (c i j : Nat) : -1 ≤ oD D c i j ∧ oD D c i j ≤ 1 := by unfold oD; split <;> omega
def cy : Vl → Int
  | none => 0
  | some a => a.2
def bV (V : Nat → Vl) : Prop := ∀ s v, V s = some v → -100000 ≤ v.2 ∧ v.2 ≤ 100000
theorem tot_b {K : Int} : ∀ {L : List Op} {s : Nat} {v : Nat × Int}, (∀ p ∈ L, p.1 = s → -K ≤ p.2.2 ∧ p.2.2 ≤ K) → tot L s = some v → -K ≤ v.2 ∧ v.2 ≤ K
  | [], s, v, _, h => by cases h
  | o :: L, s, v, hb, h => by
    have ih : ∀ {w : Nat × Int}, tot L s = some w → -K ≤ w.2 ∧ w.2 ≤ K := fun {w} => tot_b (L := L) (s := s) (fun p hp => hb p (List.mem_cons_of_mem _ hp))
    unfold tot at h
    by_cases e : o.1 = s
    · rw [if_pos e] at h
      have h0 := hb o (List.mem_cons_self ..) e
      cases z : tot L s with
      | none => rw [z] at h; injection h with h; subst h; exact h0
      | some w =>
        rw [z] at h; injection h with h; subst h
        have := ih z
        show -K ≤ min o.2.2 w.2 ∧ min o.2.2 w.2 ≤ K
        omega
    · rw [if_neg e] at h; exact ih h
theorem vA_b {K : Int} {a b : Vl} {v : Nat × Int} (ha : ∀ v, a = some v → -K ≤ v.2 ∧ v.2 ≤ K) (hb : ∀ v, b = some v → -K ≤ v.2 ∧ v.2 ≤ K) (h : vA a b = some v) : -K ≤ v.2 ∧ v.2 ≤ K := by
  cases a with
  | none => exact hb v (by rw [← h, vA_z])
  | some x => cases b with
    | none => exact ha v h
    | some y =>
      injection h with h; subst h
      have h1 := ha x rfl; have h2 := hb y rfl
      show -K ≤ min x.2 y.2 ∧ min x.2 y.2 ≤ K
      omega
theorem bV_apv {V : Nat → Vl} {L : List Op} (h : bV V) (hL : ∀ p ∈ L, -100000 ≤ p.2.2 ∧ p.2.2 ≤ 100000) : bV (apv V L) := fun s v hv => vA_b (K := 100000) (h s) (fun w hw => tot_b (fun p hp _ => hL p hp) hw) hv
def cX (A : Nat → Nat → Int32) (B : Nat → Nat → Int64) (c : Nat) (V : Nat → Vl) : Prop := (sL V).length ≤ 60 ∧ A 20 c = nI (sL V).length ∧ ∀ k, k < (sL V).length → A 21 (60 * c + k) = nI (cs ((sL V).getD k 0)) ∧ B 22 (60 * c + k) = lN (sat (wy (V ((sL V).getD k 0)))) ∧ A 23 (60 * c + k) = iC (cy (V ((sL V).getD k 0)))
def rX (A : Nat → Nat → Int32) (c : Nat) (V : Nat → Vl) : Prop := ∀ k, k ≤ 16 → A 24 (17 * c + k) = nI (60 * c + ix V (625 * k))
def fcX (c : Nat) (A : Nat → Nat → Int32) (B : Nat → Nat → Int64) (A' : Nat → Nat → Int32) (B' : Nat → Nat → Int64) : Prop := (∀ p, p ≠ 20 → p ≠ 21 → p ≠ 23 → p ≠ 24 → A' p = A p) ∧ (∀ i, i ≠ c → A' 20 i = A 20 i) ∧ (∀ i, i < 60 * c ∨ 60 * c + 60 ≤ i → A' 21 i = A 21 i ∧ A' 23 i = A 23 i ∧ B' 22 i = B 22 i) ∧ (∀ i, i < 17 * c ∨ 17 * c + 17 ≤ i → A' 24 i = A 24 i) ∧ (∀ p, p ≠ 22 → B' p = B p)
theorem fcX_refl (c : Nat) (A : Nat → Nat → Int32) (B : Nat → Nat → Int64) : fcX c A B A B := ⟨fun _ _ _ _ _ => rfl, fun _ _ => rfl, fun _ _ => ⟨rfl, rfl, rfl⟩, fun _ _ => rfl, fun _ _ => rfl⟩
theorem fcX_trans {c : Nat} {A A1 A2 : Nat → Nat → Int32} {B B1 B2 : Nat → Nat → Int64} (h : fcX c A B A1 B1) (k : fcX c A1 B1 A2 B2) : fcX c A B A2 B2 :=
  ⟨fun p a b e f => (k.1 p a b e f).trans (h.1 p a b e f), fun i a => (k.2.1 i a).trans (h.2.1 i a), fun i a => ⟨(k.2.2.1 i a).1.trans (h.2.2.1 i a).1, (k.2.2.1 i a).2.1.trans (h.2.2.1 i a).2.1, (k.2.2.1 i a).2.2.trans (h.2.2.1 i a).2.2⟩, fun i a => (k.2.2.2.1 i a).trans (h.2.2.2.1 i a), fun p a => (k.2.2.2.2 p a).trans (h.2.2.2.2 p a)⟩
theorem cX_fr {c c' : Nat} {A A1 : Nat → Nat → Int32} {B B1 : Nat → Nat → Int64} {V : Nat → Vl} (h : cX A B c' V) (f : fcX c A B A1 B1) (hc : c' ≠ c) : cX A1 B1 c' V := by
  refine ⟨h.1, by rw [f.2.1 c' hc]; exact h.2.1, fun k hk => ?_⟩
  have := h.1
  have e := f.2.2.1 (60 * c' + k) (by omega)
  rw [e.1, e.2.1, e.2.2]; exact h.2.2 k hk
theorem rX_fr {c c' : Nat} {A A1 : Nat → Nat → Int32} {B B1 : Nat → Nat → Int64} {V : Nat → Vl} (h : rX A c' V) (f : fcX c A B A1 B1) (hc : c' ≠ c) : rX A1 c' V := by
  intro k hk
  rw [f.2.2.2.1 (17 * c' + k) (by omega)]; exact h k hk
theorem sL_lt' {V : Nat → Vl} {s k : Nat} (h : s ≤ 10000) (hk : k < ix V s) : k < (sL V).length ∧ (sL V).getD k 0 < s := by
  by_cases e : s = 10000
  · subst e
    have hk' : k < (sL V).length := hk
    exact ⟨hk', (sL_in hk').1⟩
  · exact sL_lt (by omega) hk
theorem sL_ge' {V : Nat → Vl} {s k : Nat} (h : s ≤ 10000) (hk : ix V s ≤ k) (hl : k < (sL V).length) : s ≤ (sL V).getD k 0 := by
  by_cases e : s = 10000
  · subst e
    have hk' : (sL V).length ≤ k := hk
    omega
  · exact sL_ge (by omega) hk hl
theorem sL_le' {V : Nat → Vl} {s : Nat} (h : s ≤ 10000) : ix V s ≤ (sL V).length := by
  by_cases e : s = 10000
  · subst e; exact Nat.le_refl (sL V).length
  · exact sL_le (by omega)
section C22
variable {l : Launch} {J : Nat → Int64} {Q : Option Value → XW → Prop} {d : Nat} {tgt cg fg : Value} {I : Nat → Int32} {A : Nat → Nat → Int32} {B : Nat → Nat → Int64}
theorem s_has (hd : 1 ≤ d) {x y : Int32} {c i j : Nat} {D : List (Nat × Nat × Nat)} (hD : drX A D) (hx : x = nI c) (hc : c < 16) (hy : y = nI (cx i j)) (hij : i < j) (hj : j ≤ 14) (hQ : Q (some (.int (bI (hasB D c i j)))) (wC tgt cg fg I J A B)) : xK l d 17 [.ref 17, .int x, .int y] (wC tgt cg fg I J A B) Q := by
  obtain ⟨d, rfl⟩ : ∃ e, d = e + 1 := ⟨d - 1, by omega⟩
  have hcx := cx_lt hij hj
  refine e_X1_has ⟨xin_of hy hcx (by omega), ?_⟩
  rw [cl_of hy (by omega), hD i j hij hj, hx]
  have hm := msk_16 (fun c => hasB D c i j)
  refine if_if ((bit_n (m := msk (fun c => hasB D c i j) 16) (y := c) (by omega) (by omega)).trans (by rw [msk_bit]; simp [hc] : _ ↔ hasB D c i j = false)) (fun e => ?_) (fun e => ?_)
  · rw [e] at hQ; exact ⟨Or.inl rfl, hQ⟩
  · have e : hasB D c i j = true := by simpa using e
    rw [e] at hQ; exact ⟨Or.inr rfl, hQ⟩
theorem s_costOfNode (hd : 2 ≤ d) {x y : Int32} {c i j : Nat} {D : List (Nat × Nat × Nat)} (hD : drX A D) (hx : x = nI c) (hc : c < 16) (hy : y = nI (cx i j)) (hij : i < j) (hj : j ≤ 14) (hQ : Q (some (.int (iC (oD D c i j)))) (wC tgt cg fg I J A B)) : xK l d 19 [.ref 17, .int x, .int y] (wC tgt cg fg I J A B) Q := by
  obtain ⟨d, rfl⟩ : ∃ e, d = e + 1 := ⟨d - 1, by omega⟩
  refine e_X1_costOfNode (s_has (by omega) hD hx hc hy hij hj (b_X1_costOfNode_6 (if_bI rfl (fun e => ?_) (fun e => ?_))))
  · unfold oD at hQ; rw [e, if_neg (by decide)] at hQ; exact hQ
  · unfold oD at hQ; rw [e, if_pos rfl] at hQ; exact hQ
theorem s_placeOf (hd : 1 ≤ d) {x y : Int32} {c w s : Nat} {V : Nat → Vl} (hx : x = nI c) (hc : c < 105) (hy : y = nI w) (hw : w < 100000) (hs : s ≤ 10000) (hws : ∀ z, z < 10000 → (cs z < w ↔ z < s)) (h60 : (sL V).length ≤ 60) (h20 : A 20 c = nI (sL V).length) (h21 : ∀ k, k < (sL V).length → A 21 (60 * c + k) = nI (cs ((sL V).getD k 0)))
    (hQ : Q (some (.int (nI (60 * c + ix V s)))) (wC tgt cg fg I J A B)) : xK l d 9 [.ref 19, .int x, .int y] (wC tgt cg fg I J A B) Q := by
  obtain ⟨d, rfl⟩ : ∃ e, d = e + 1 := ⟨d - 1, by omega⟩
  subst hx; subst hy
  have hle := sL_le' (V := V) hs
  have loop : ∀ m a b, b - a < m → a ≤ ix V s → ix V s ≤ b → b ≤ (sL V).length → xG l d 9 Q 15 [some (.ref 19), none, some (.int (nI w)), some (.int (nI (60 * c + a))), some (.int (nI (60 * c + b))), none] [] (wC tgt cg fg I J A B) 0 0 := by
    intro m
    induction m with
    | zero => intro a b hm; omega
    | succ m ih =>
      intro a b hm ha hb hbl
      refine b_X0_placeOf_15 (if_le rfl rfl (by omega) (by omega) (fun z => ?_) (fun z => ?_))
      · rw [show 60 * c + a = 60 * c + ix V s by omega]; exact hQ
      · have e : (nI (60 * c + a) + nI (60 * c + b)) >>> ((1 : Int32) &&& 31) = nI (60 * c + (a + b) / 2) := by
          rw [nI_add, show (1 : Int32) = nI 1 from rfl, shr_n (by omega) (by omega)]; congr 1; omega
        rw [e, cl_n (by omega), h21 _ (by omega)]
        have hin := sL_in (V := V) (show (a + b) / 2 < (sL V).length by omega)
        have hcl := cs_lt hin.1
        have hk := hws _ hin.1
        refine ⟨xin_n (by omega) (by omega), if_le rfl rfl (by omega) (by omega) (fun q => ?_) (fun q => ?_)⟩
        · refine ih a ((a + b) / 2) (by omega) ha ?_ (by omega)
          apply Nat.le_of_not_lt; intro h
          have := (sL_lt' hs h).2
          omega
        · rw [nI_1]
          refine ih ((a + b) / 2 + 1) b (by omega) ?_ hb hbl
          apply Nat.lt_of_not_le; intro h
          have := sL_ge' (V := V) hs h (by omega)
          omega
  refine e_X0_placeOf ⟨xin_n hc (by omega), ?_⟩
  rw [cl_n (by omega), h20, show nI c * (60 : Int32) = nI (60 * c) by rw [show nI c * (60 : Int32) = nI (c * 60) from mul_of (b := 60) rfl rfl, Nat.mul_comm], nI_add]
  exact loop _ 0 (sL V).length (Nat.lt_succ_self _) (by omega) hle (Nat.le_refl _)
theorem s_addTrees (hd : 2 ≤ d) {x y : Int32} {z : Int64} {c s n : Nat} {cst : Int} {V : Nat → Vl} (hI : I 1908 = nI c) (hc : c < 105) (hx : x = nI (cs s)) (hs : s < 10000) (hz : z = lN (sat n)) (hy : y = iC cst) (hb1 : -100000 ≤ cst) (hb2 : cst ≤ 100000) (hbV : bV V) (h : cX A B c V)
    (hE : V s = none → (sL V).length = 60 → Q (some (.int 0)) (wC tgt cg fg I J A B))
    (hO : ∀ (A' : Nat → Nat → Int32) (B' : Nat → Nat → Int64), cX A' B' c (apv V [(s, n, cst)]) → fcX c A B A' B' → Q (some (.int 1)) (wC tgt cg fg I J A' B')) : xK l d 8 [.ref 19, .int x, .long z, .int y] (wC tgt cg fg I J A B) Q := by
  obtain ⟨d, rfl⟩ : ∃ e, d = e + 1 := ⟨d - 1, by omega⟩
  subst hx; subst hy
  have h60 := h.1
  have h20 := h.2.1
  have hcl := cs_lt hs
  have hixl := sL_le (V := V) hs
  have hone : apv V [(s, n, cst)] = va_up V s (vA (V s) (some (n, cst))) := apv_one V (s, n, cst)
  rw [hone] at hO
  have e60 : (I 1908) * (60 : Int32) = nI (60 * c) := by rw [hI, show nI c * (60 : Int32) = nI (c * 60) from mul_of (b := 60) rfl rfl, Nat.mul_comm]
  refine e_X0_addTrees (s_placeOf (V := V) (s := s) (by omega) hI hc rfl (by omega) (by omega) (fun z _ => cs_lt_iff) h60 h20 (fun k hk => (h.2.2 k hk).1) (b_X0_addTrees_9 ?_))
  have new : V s = none → (xin (I 1908) 105 ∧ (if (A 20 (I 1908).toNatClampNeg) < (60 : Int32) then (xG l d 8 Q 107 [some (.ref 19), some (.int (nI (cs s))), some (.long z), none, some (.int (iC cst)), some (.int (nI (60 * c + ix V s))), none, some (.int (((I 1908) * 60) + (A 20 (I 1908).toNatClampNeg)))] [] (wC tgt cg fg I J A B) 0 0) else (((0 : Int32) = 0 ∨ (0 : Int32) = 1) ∧ Q (some (.int 0)) (wC tgt cg fg I J A B)))) := by
    intro hv
    rw [e60, cl_of hI (by omega), h20, nI_add]
    refine ⟨xin_of hI hc (by omega), ?_⟩
    have i1 := (sL_insG (V := V) (v := (n, cst)) hs hv).1
    have i2 := (sL_insG (V := V) (v := (n, cst)) hs hv).2
    rw [hv] at hO
    have hO' := hO
    rw [show vA none (some (n, cst)) = some (n, cst) from rfl] at hO'
    have hlen60 : (sL V).length < 60 → xG l d 8 Q 107 [some (.ref 19), some (.int (nI (cs s))), some (.long z), none, some (.int (iC cst)), some (.int (nI (60 * c + ix V s))), none, some (.int (nI (60 * c + (sL V).length)))] [] (wC tgt cg fg I J A B) 0 0 := by
      intro hl
      have loop : ∀ m k (A1 : Nat → Nat → Int32) (B1 : Nat → Nat → Int64), k - ix V s < m → ix V s ≤ k → k ≤ (sL V).length → (∀ j, j < k → A1 21 (60 * c + j) = A 21 (60 * c + j) ∧ A1 23 (60 * c + j) = A 23 (60 * c + j) ∧ B1 22 (60 * c + j) = B 22 (60 * c + j)) → (∀ j, k < j → j ≤ (sL V).length → A1 21 (60 * c + j) = A 21 (60 * c + (j - 1)) ∧ A1 23 (60 * c + j) = A 23 (60 * c + (j - 1)) ∧ B1 22 (60 * c + j) = B 22 (60 * c + (j - 1))) → (∀ i, i < 60 * c ∨ 60 * c + (sL V).length < i → A1 21 i = A 21 i ∧ A1 23 i = A 23 i ∧ B1 22 i = B 22 i) → (∀ p, p ≠ 21 → p ≠ 23 → A1 p = A p) → (∀ p, p ≠ 22 → B1 p = B p) → xG l d 8 Q 107 [some (.ref 19), some (.int (nI (cs s))), some (.long z), none, some (.int (iC cst)), some (.int (nI (60 * c + ix V s))), none, some (.int (nI (60 * c + k)))] [] (wC tgt cg fg I J A1 B1) 0 0 := by
        intro m
        induction m with
        | zero => intro k A1 B1 hm; omega
        | succ m ih =>
          intro k A1 B1 hm hk1 hk2 f1 f2 f3 f4 f5
          refine b_X0_addTrees_107 (if_le rfl rfl (by omega) (by omega) (fun w => ?_) (fun w => ?_))
          · have hk : k = ix V s := by omega
            rw [cl_n (a := 60 * c + ix V s) (by omega), cl_of hI (by omega), ← hk]
            refine ⟨xin_n (by omega) (by omega), xin_n (by omega) (by omega), xin_n (by omega) (by omega), xin_of hI hc (by omega), xin_of hI hc (by omega), Or.inr rfl, ?_⟩
            refine hO' _ _ ⟨by omega, ?_, fun j hj => ?_⟩ ⟨fun p a b e f => ?_, fun i hi => ?_, fun i hi => ⟨?_, ?_, ?_⟩, fun i hi => ?_, fun p hp => ?_⟩
            · rw [un_v (by decide), un_v (by decide), ue_v, ue_i, f4 20 (by decide) (by decide), h20, nI_1, i1]
            · have hj' : j < (sL V).length + 1 := by rw [← i1]; exact hj
              rw [i2 j, un_v (show (21 : Nat) ≠ 23 by decide), ue_v, ue_v, ue_v]
              by_cases c1 : j < ix V s
              · have g := sL_lt hs c1
                have f := f1 j (by omega)
                rw [if_pos c1, un_i (by omega), un_i (by omega), un_l (by omega), f.1, f.2.1, f.2.2, un_v (by omega)]
                exact h.2.2 j g.1
              · rw [if_neg c1]
                by_cases c2 : j = ix V s
                · rw [if_pos c2, ue_v, c2, ← hk, ue_i, ue_i, ue_l]; exact ⟨rfl, hz, rfl⟩
                · have g := sL_ge hs (show ix V s ≤ j - 1 by omega) (show j - 1 < (sL V).length by omega)
                  have g2 := sL_in (V := V) (show j - 1 < (sL V).length by omega)
                  have g3 : (sL V).getD (j - 1) 0 ≠ s := fun q => by rw [q, hv] at g2; exact absurd g2.2 (by decide)
                  have f := f2 j (by omega) (by omega)
                  rw [if_neg c2, un_v g3, un_i (by omega), un_i (by omega), un_l (by omega), f.1, f.2.1, f.2.2]
                  exact h.2.2 (j - 1) (by omega)
            · rw [un_v e, un_v b, un_v a]; exact f4 p b e
            · rw [un_v (by decide), un_v (by decide), ue_v, un_i hi, f4 20 (by decide) (by decide)]
            · rw [un_v (by decide), ue_v, un_i (by omega)]; exact (f3 i (by omega)).1
            · rw [ue_v, un_i (by omega)]; exact (f3 i (by omega)).2.1
            · rw [ue_v, un_l (by omega)]; exact (f3 i (by omega)).2.2
            · rw [un_v (by decide), un_v (by decide), un_v (by decide), f4 24 (by decide) (by decide)]
            · rw [un_v hp]; exact f5 p hp
          · have e1 : nI (60 * c + k) - (1 : Int32) = nI (60 * c + (k - 1)) := by
              rw [show (1 : Int32) = nI 1 from rfl, sub_n (by omega), show 60 * c + k - 1 = 60 * c + (k - 1) by omega]
            rw [e1, cl_n (a := 60 * c + (k - 1)) (by omega), cl_n (a := 60 * c + k) (by omega), m1_n (by omega), show 60 * c + k - 1 = 60 * c + (k - 1) by omega]
            refine ⟨xin_n (by omega) (by omega), xin_n (by omega) (by omega), xin_n (by omega) (by omega), xin_n (by omega) (by omega), xin_n (by omega) (by omega), xin_n (by omega) (by omega), ?_⟩
            refine ih (k - 1) _ _ (by omega) (by omega) (by omega) (fun j hj => ?_) (fun j hj hj2 => ?_) (fun i hi => ?_) (fun p hp hq => by rw [un_v hq, un_v hp]; exact f4 p hp hq) (fun p hp => by rw [un_v hp]; exact f5 p hp)
            · rw [un_v (show (21 : Nat) ≠ 23 by decide), ue_v, ue_v, ue_v, un_i (by omega), un_i (by omega), un_l (by omega)]; exact f1 j (by omega)
            · rw [un_v (show (21 : Nat) ≠ 23 by decide), ue_v, ue_v, ue_v]
              by_cases q : j = k
              · subst q; rw [ue_i, ue_i, ue_l]; exact f1 (j - 1) (by omega)
              · rw [un_i (by omega), un_i (by omega), un_l (by omega)]; exact f2 j (by omega) hj2
            · rw [un_v (show (21 : Nat) ≠ 23 by decide), ue_v, ue_v, ue_v, un_i (by omega), un_i (by omega), un_l (by omega)]; exact f3 i hi
      exact loop _ (sL V).length A B (Nat.lt_succ_self _) hixl (Nat.le_refl _) (fun _ _ => ⟨rfl, rfl, rfl⟩) (fun j a b => by omega) (fun _ _ => ⟨rfl, rfl, rfl⟩) (fun _ _ _ => rfl) (fun _ _ => rfl)
    have hE2 := hE hv
    generalize (sL V).length = len at hlen60 h60 hE2
    exact if_lt (a := len) rfl (b := 60) rfl (by omega) (by omega) (fun q => hlen60 q) (fun q => ⟨Or.inl rfl, hE2 (by omega)⟩)
  refine ⟨xin_of hI hc (by omega), ?_⟩
  have e20 : (I 1908) * (60 : Int32) + A 20 (I 1908).toNatClampNeg = nI (60 * c + (sL V).length) := by rw [e60, cl_of hI (by omega), h20, nI_add]
  refine if_le e20 rfl (by omega) (by omega) (fun q => new ?_) (fun q => ⟨xin_n (by omega) (by omega), ?_⟩)
  · cases hv : V s with
    | none => rfl
    | some v =>
      have := sL_at (V := V) hs (by rw [hv]; rfl)
      omega
  · rw [cl_n (a := 60 * c + ix V s) (by omega), (h.2.2 _ (by omega)).1]
    have hin := sL_in (V := V) (show ix V s < (sL V).length by omega)
    have hcl2 := cs_lt hin.1
    refine if_eq rfl rfl (by omega) (by omega) (fun e => ⟨xin_n (by omega) (by omega), ?_⟩) (fun e => new ?_)
    · rw [cs_eq] at e
      obtain ⟨v, hv⟩ : ∃ v, V s = some v := Option.isSome_iff_exists.mp (by rw [← e]; exact hin.2)
      have hbc := h.2.2 (ix V s) (by omega)
      rw [e, hv] at hbc
      have hbv := hbV s v hv
      refine s_sumOf (by omega) hbc.2.1 hz (b_X0_addTrees_65 ⟨xin_n (by omega) (by omega), xin_n (by omega) (by omega), xin_n (by omega) (by omega), Or.inr rfl, ?_⟩)
      rw [cl_n (by omega), hbc.2.2, show cy (some v) = v.2 from rfl, iC_min (by omega) (by omega) (by omega) (by omega)]
      have e2 : va_up V s (vA (V s) (some (n, cst))) = va_up V s (some (v.1 + n, min v.2 cst)) := by rw [hv]; rfl
      rw [e2] at hO
      have sm := sL_same (v := (v.1 + n, min v.2 cst)) hs (show (V s).isSome = true by rw [hv]; rfl)
      refine hO _ _ ⟨by rw [sm]; exact h60, by rw [sm, un_v (by decide)]; exact h20, fun k hk => ?_⟩ ⟨fun p a b e f => un_v e, fun i _ => by rw [un_v (by decide)], fun i hi => ⟨by rw [un_v (by decide)], ?_, ?_⟩, fun i _ => by rw [un_v (by decide)], fun p hp => un_v hp⟩
      · rw [sm] at hk ⊢
        rw [un_v (show (21 : Nat) ≠ 23 by decide), ue_v, ue_v]
        refine ⟨(h.2.2 k hk).1, ?_⟩
        by_cases ek : k = ix V s
        · subst ek; rw [e, ue_v, ue_l, ue_i]; exact ⟨rfl, rfl⟩
        · have : (sL V).getD k 0 ≠ s := fun q => ek (by have := ix_at hk; rw [q] at this; exact this.symm)
          rw [un_v this, un_l (by omega), un_i (by omega)]; exact (h.2.2 k hk).2
      · rw [ue_v, un_i (by omega)]
      · rw [ue_v, un_l (by omega)]
    · cases hv : V s with
      | none => rfl
      | some v =>
        have := sL_at (V := V) hs (by rw [hv]; rfl)
        exact absurd this.2 (fun q => e (by rw [q]))
end C22
