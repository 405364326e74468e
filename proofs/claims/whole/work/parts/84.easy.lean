/-! ===== the easy calls, both sides ===== -/
def anCount (S : St) (x : Int32) : Int32 := if x = Int32.ofInt 0 then nI S.g.1.length else if x = Int32.ofInt 0 + 1 then nI S.g.2.1.length else if x = Int32.ofInt 0 + 1 + 1 then nI S.g.2.2.length else if x = Int32.ofInt 0 + 1 + 1 + 1 then nI S.ws.length else if x = Int32.ofInt 0 + 1 + 1 + 1 + 1 then nI S.D.length else if x = Int32.ofInt 0 + 1 + 1 + 1 + 1 + 1 then nI S.nd.length else if x = Int32.ofInt 0 + 1 + 1 + 1 + 1 + 1 + 1 then nI S.n else if x = Int32.ofInt 0 + 1 + 1 + 1 + 1 + 1 + 1 + 1 then nI S.out.length else -1
/-- is there such a sign; what it is -/
def kB60 (S : St) (x y k : Int32) : Bool := spB S.ws.length x y && (decide (¬ k < 0) && decide (k < nI (sL (ch S.g (oD []) S.ws x.toNatClampNeg y.toNatClampNeg)).length))
def wB4 (w : Int32) : Bool := decide (¬ w < 0) && decide (w ≤ 4)
def sgAt (S : St) (x y k : Int32) : Nat := (sL (ch S.g (oD []) S.ws x.toNatClampNeg y.toNatClampNeg)).getD k.toNatClampNeg 0
def fvO (s f : Nat) : Int32 := nI (dg (s % 625) f) - 1
def anSign (S : St) (x y k w : Int32) : Int32 := if w = 0 then nI (sgAt S x y k / 625) else fvO (sgAt S x y k) (w.toNatClampNeg - 1)
def anTimes (S : St) (x y k : Int32) : Int64 := lN (sat (wy (ch S.g (oD []) S.ws x.toNatClampNeg y.toNatClampNeg (sgAt S x y k))))
theorem k60_n {S : St} (h : stOk S) {x y k : Int32} (e : kB60 S x y k = true) : ∃ i j m, x = nI i ∧ y = nI j ∧ k = nI m ∧ i < j ∧ j ≤ S.ws.length ∧ m < (sL (ch S.g (oD []) S.ws i j)).length ∧ S.ws ≠ [] := by
  unfold kB60 at e
  rw [Bool.and_eq_true, Bool.and_eq_true] at e
  obtain ⟨i, j, rfl, rfl, hij, hj⟩ := spB_n h.2.1 e.1
  have h14 := h.2.1
  have hne : S.ws ≠ [] := fun q => by rw [q] at hj; simp at hj; omega
  have h60 := (h.2.2.2.1 hne).2 i j hij hj
  have e1 := of_decide_eq_true e.2.1
  have e2 := of_decide_eq_true e.2.2
  rw [cl_n (by omega), cl_n (by omega)] at e2
  have hk := nn_eq e1
  refine ⟨i, j, k.toNatClampNeg, rfl, rfl, hk, hij, hj, ?_, hne⟩
  rw [hk] at e2
  have hb := Int32.toInt_lt k
  have : k.toNatClampNeg = k.toInt.toNat := rfl
  exact (lt_n (by omega) (by omega)).mp e2
theorem fv_ok {s f : Nat} (hs : s < 10000) (hf : f < 4) : ((nI (cs s) >>> ((9 - (3 * nI f)) &&& 31)) &&& 7) - 1 = fvO s f := by
  obtain ⟨a0, a1, a2, a3⟩ := cs_bits hs
  have hl := cs_lt hs
  unfold fvO
  have : f = 0 ∨ f = 1 ∨ f = 2 ∨ f = 3 := by omega
  rcases this with rfl | rfl | rfl | rfl
  · rw [show (9 : Int32) - 3 * nI 0 = 9 by decide +kernel, a0]
  · rw [show (9 : Int32) - 3 * nI 1 = 6 by decide +kernel, a1]
  · rw [show (9 : Int32) - 3 * nI 2 = 3 by decide +kernel, a2]
  · rw [show (9 : Int32) - 3 * nI 3 = nI 0 by decide +kernel, shr_n (by omega) (by omega), Nat.pow_zero, Nat.div_one, a3]
theorem w4_n {w : Int32} (h : wB4 w = true) : ∃ v, w = nI v ∧ v ≤ 4 := by
  unfold wB4 at h
  rw [Bool.and_eq_true] at h
  have e1 := of_decide_eq_true h.1
  have e2 := of_decide_eq_true h.2
  have hk := nn_eq e1
  refine ⟨w.toNatClampNeg, hk, ?_⟩
  rw [hk] at e2
  have hb := Int32.toInt_lt w
  have : w.toNatClampNeg = w.toInt.toNat := rfl
  exact (le_n (b := 4) (by omega) (by omega)).mp e2
def ndB (S : St) (m : Int32) : Bool := decide (¬ m < 0) && decide (¬ nI S.nd.length ≤ m)
def wB8 (w : Int32) : Bool := decide (¬ w < 0) && decide (w ≤ 8)
def anNode (S : St) (m w : Int32) : Int32 := if w = Int32.ofInt 0 then nI ((S.nd.getD m.toNatClampNeg dN).1 / 625) else if w = Int32.ofInt 0 + 1 then nI (S.nd.getD m.toNatClampNeg dN).2.1 else if w = Int32.ofInt 0 + 1 + 1 then nI (S.nd.getD m.toNatClampNeg dN).2.2.1 else if w = Int32.ofInt 0 + 1 + 1 + 1 then iC (S.nd.getD m.toNatClampNeg dN).2.2.2.1 else if w = Int32.ofInt 0 + 1 + 1 + 1 + 1 then nI (S.nd.getD m.toNatClampNeg dN).2.2.2.2 else fvO (S.nd.getD m.toNatClampNeg dN).1 (w.toNatClampNeg - 5)
def ocB (S : St) (k : Int32) : Bool := decide (¬ k < 0) && decide (k < nI S.out.length)
theorem nd_n {S : St} (h : stOk S) {m : Int32} (e : ndB S m = true) : ∃ k, m = nI k ∧ k < S.nd.length := by
  unfold ndB at e
  rw [Bool.and_eq_true] at e
  have e1 := of_decide_eq_true e.1
  have e2 := of_decide_eq_true e.2
  have hk := nn_eq e1
  have h432 := h.2.2.2.2.2.2.1
  refine ⟨m.toNatClampNeg, hk, ?_⟩
  rw [hk] at e2
  have hb := Int32.toInt_lt m
  have : m.toNatClampNeg = m.toInt.toNat := rfl
  exact Nat.lt_of_not_le (fun z => e2 ((le_n (by omega) (by omega)).mpr z))
theorem oc_n {S : St} (h : stOk S) {m : Int32} (e : ocB S m = true) : ∃ k, m = nI k ∧ k < S.out.length := by
  unfold ocB at e
  rw [Bool.and_eq_true] at e
  have e1 := of_decide_eq_true e.1
  have e2 := of_decide_eq_true e.2
  have hk := nn_eq e1
  have h10 := h.2.2.2.2.2.2.2.2.1
  refine ⟨m.toNatClampNeg, hk, ?_⟩
  rw [hk] at e2
  have hb := Int32.toInt_lt m
  have : m.toNatClampNeg = m.toInt.toNat := rfl
  exact (lt_n (by omega) (by omega)).mp e2
theorem w8_n {w : Int32} (h : wB8 w = true) : ∃ v, w = nI v ∧ v ≤ 8 := by
  unfold wB8 at h
  rw [Bool.and_eq_true] at h
  have e1 := of_decide_eq_true h.1
  have e2 := of_decide_eq_true h.2
  have hk := nn_eq e1
  refine ⟨w.toNatClampNeg, hk, ?_⟩
  rw [hk] at e2
  have hb := Int32.toInt_lt w
  have : w.toNatClampNeg = w.toInt.toNat := rfl
  exact (le_n (b := 8) (by omega) (by omega)).mp e2
theorem w8_5 : ∀ v, v ≤ 8 → nI v ≠ Int32.ofInt 0 → nI v ≠ Int32.ofInt 0 + 1 → nI v ≠ Int32.ofInt 0 + 1 + 1 → nI v ≠ Int32.ofInt 0 + 1 + 1 + 1 → nI v ≠ Int32.ofInt 0 + 1 + 1 + 1 + 1 → 5 ≤ v := by
  intro v hv h0 h1 h2 h3 h4
  apply Classical.byContradiction; intro h
  have : v = 0 ∨ v = 1 ∨ v = 2 ∨ v = 3 ∨ v = 4 := by omega
  rcases this with rfl | rfl | rfl | rfl | rfl
  · exact h0 (by decide)
  · exact h1 (by decide)
  · exact h2 (by decide)
  · exact h3 (by decide)
  · exact h4 (by decide)
section E1
variable {l : Launch} {J : Nat → Int64} {A : Nat → Nat → Int32} {B : Nat → Nat → Int64} {Q : Option Value → XW → Prop} {d : Nat} {I : Nat → Int32} {S : St} {tgt cg fg : Value}
theorem x_trees (hd : 4 ≤ d) (h : xInv S I A B) (hQ : Q (some (.long (lN (sat (trT S))))) (wC tgt cg fg I J A B)) : xK l d 97 [.ref 0] (wC tgt cg fg I J A B) Q := by
  obtain ⟨d, rfl⟩ : ∃ e, d = e + 1 := ⟨d - 1, by omega⟩
  exact e_X10_trees (s_treeTotal (by omega) h (b_X10_trees_4 hQ))
theorem x_fault (hd : 1 ≤ d) (h : xInv S I A B) (hQ : Q (some (.int (nI S.ft))) (wC tgt cg fg I J A B)) : xK l d 95 [.ref 0] (wC tgt cg fg I J A B) Q := by
  obtain ⟨d, rfl⟩ : ∃ e, d = e + 1 := ⟨d - 1, by omega⟩
  refine e_X10_fault ?_
  rw [h.2.2.2.2.2.2.2.2.2.2.2.2]; exact hQ
theorem x_end (hd : 1 ≤ d) {x : Int32} (h : xInv S I A B) (hQ : ∀ (I' : Nat → Int32), xInv (stEnd S x) I' A B → Q (some (.int (anEnd S x))) (wC tgt cg fg I' J A B)) : xK l d 93 [.ref 0, .int x] (wC tgt cg fg I J A B) Q := by
  obtain ⟨d, rfl⟩ : ∃ e, d = e + 1 := ⟨d - 1, by omega⟩
  have h1540 := h.2.1.1
  unfold stEnd anEnd at hQ
  refine e_X10_end ?_
  rw [h.2.2.1]
  by_cases c : x < 0
  · rw [if_pos c]
    rw [if_pos c, if_pos c] at hQ
    exact ⟨Or.inl rfl, hQ _ h⟩
  · rw [if_neg c]
    rw [if_neg c, if_neg c] at hQ
    by_cases e : x ≤ nI S.n
    · rw [if_pos e]
      rw [if_pos e, if_pos e] at hQ
      have hx := nn_eq c
      have hle : x.toNatClampNeg ≤ S.n := by
        rw [hx] at e
        have hb := Int32.toInt_lt x
        have : x.toNatClampNeg = x.toInt.toNat := rfl
        exact (le_n (by omega) (by omega)).mp e
      refine ⟨Or.inr rfl, hQ _ ?_⟩
      rw [← setT_id]
      exact xInv_t h ⟨by omega, fun i hi => h.2.1.2 i (by omega)⟩ (by rw [ue_i]; exact hx) (fun i hi => by unfold kI at hi; rw [un_i (by omega)]) (fun _ _ => rfl) (fun _ _ => rfl)
    · rw [if_neg e]
      rw [if_neg e, if_neg e] at hQ
      exact ⟨Or.inl rfl, hQ _ h⟩
theorem x_wipe (hd : 3 ≤ d) (h : xInv S I A B) (hQ : ∀ (I' : Nat → Int32) (A' : Nat → Nat → Int32), xInv (mkSt S.t S.n S.g S.ws [] S.nd S.out S.ft) I' A' B → Q (some (.int (nI S.D.length))) (wC tgt cg fg I' J A' B)) : xK l d 104 [.ref 0] (wC tgt cg fg I J A B) Q := by
  obtain ⟨d, rfl⟩ : ∃ e, d = e + 1 := ⟨d - 1, by omega⟩
  obtain ⟨hok, ht, h101, hg, h1402, hws, h1701, hD, hpr, hch, hnd, hout, hft⟩ := h
  refine e_X10_wipe ?_
  rw [h1701]
  refine s_clear1 (D := S.D) (by omega) h1701 hok.2.2.2.2.1 hD (fun I' A' c1 c2 c3 c4 c5 => b_X10_wipe_15 ?_)
  refine hQ I' A' ⟨⟨hok.1, hok.2.1, hok.2.2.1, hok.2.2.2.1, Nat.zero_le _, fun p hp => (nomatch hp), hok.2.2.2.2.2.2⟩, ?_, (c4 101 (by decide) (by decide)).trans h101, gC_fr hg (fun i a b => c4 i (by omega) (by omega)) (fun p a b => c5 p (by omega)) (fun _ _ _ => rfl), (c4 1402 (by decide) (by decide)).trans h1402, hws, c1, c3, ?_, fun e => ?_, xNd_fr hnd (c4 2505 (by decide) (by decide)) (fun p a b => c5 p (by omega)), ⟨(c4 10 (by decide) (by decide)).trans hout.1, fun k hk => by rw [c5 36 (by decide)]; exact hout.2 k hk⟩, (c4 11 (by decide) (by decide)).trans hft⟩
  · unfold tpX at ht ⊢; rw [c5 2 (by decide)]; exact ht
  · rcases c2 with q | q
    · rw [q.1]; exact hpr
    · exact Or.inl q
  · obtain ⟨⟨D', k1⟩, k2⟩ := hch e
    refine ⟨⟨D', chX_fr k1 (fun p a b => c5 p (by omega)) rfl⟩, fun q => ?_⟩
    rcases c2 with z | z
    · have := k2 (by rw [← z.1]; exact q)
      rw [z.2] at this
      exact chX_fr this (fun p a b => c5 p (by omega)) rfl
    · rw [z] at q; exact absurd q (by decide)
theorem s_isSpan (hd : 1 ≤ d) {x y : Int32} {n : Nat} (h : I 1402 = nI n) (hQ : Q (some (.int (bI (spB n x y)))) (wC tgt cg fg I J A B)) : xK l d 113 [.ref 0, .int x, .int y] (wC tgt cg fg I J A B) Q := by
  obtain ⟨d, rfl⟩ : ∃ e, d = e + 1 := ⟨d - 1, by omega⟩
  unfold spB at hQ
  refine e_X10_isSpan ?_
  rw [h]
  by_cases c : x < 0
  · rw [if_pos c]; rw [decide_eq_false (not_not_intro c)] at hQ; exact ⟨Or.inl rfl, hQ⟩
  · rw [if_neg c]
    rw [decide_eq_true c] at hQ
    by_cases e : y ≤ x
    · rw [if_pos e]; rw [decide_eq_false (not_not_intro e)] at hQ; exact ⟨Or.inl rfl, hQ⟩
    · rw [if_neg e]
      rw [decide_eq_true e] at hQ
      by_cases f : nI n < y
      · rw [if_pos f]; rw [decide_eq_false (not_not_intro f)] at hQ; exact ⟨Or.inl rfl, hQ⟩
      · rw [if_neg f]; rw [decide_eq_true f] at hQ; exact ⟨Or.inr rfl, hQ⟩
theorem x_cell (h : xInv S I A B) (hne : S.ws ≠ []) {i j : Nat} (hij : i < j) (hj : j ≤ S.ws.length) : A 20 (cx i j) = nI (sL (ch S.g (oD []) S.ws i j)).length ∧ ∀ k, k < (sL (ch S.g (oD []) S.ws i j)).length → A 21 (60 * cx i j + k) = nI (cs ((sL (ch S.g (oD []) S.ws i j)).getD k 0)) ∧ B 22 (60 * cx i j + k) = lN (sat (wy (ch S.g (oD []) S.ws i j ((sL (ch S.g (oD []) S.ws i j)).getD k 0)))) := by
  obtain ⟨⟨D', hc⟩, _⟩ := h.2.2.2.2.2.2.2.2.2.1 hne
  have := (hc i j hij hj).1
  rw [sL_ch S.g (oD []) (oD D')]
  refine ⟨this.2.1, fun k hk => ⟨(this.2.2 k hk).1, ?_⟩⟩
  rw [wy_ch S.g (oD []) (oD D')]; exact (this.2.2 k hk).2.1
theorem x_signs (hd : 2 ≤ d) {x y : Int32} (h : xInv S I A B) (hQ : Q (some (.int (anSigns S x y))) (wC tgt cg fg I J A B)) : xK l d 98 [.ref 0, .int x, .int y] (wC tgt cg fg I J A B) Q := by
  obtain ⟨d, rfl⟩ : ∃ e, d = e + 1 := ⟨d - 1, by omega⟩
  unfold anSigns at hQ
  refine e_X10_signs (s_isSpan (by omega) h.2.2.2.2.1 (b_X10_signs_6 (if_bI rfl (fun e => ?_) (fun e => ?_))))
  · rw [e, if_neg (by decide)] at hQ; exact hQ
  · rw [if_pos e] at hQ
    have h14 := h.1.2.1
    obtain ⟨i, j, rfl, rfl, hij, hj⟩ := spB_n h14 e
    rw [cl_n (by omega), cl_n (by omega)] at hQ
    have hne : S.ws ≠ [] := fun q => by rw [q] at hj; simp at hj; omega
    have hcx := cx_lt hij (show j ≤ 14 by omega)
    refine s_cellOf (by omega) rfl rfl hij (by omega) (b_X10_signs_21 ⟨xin_n hcx (by omega), ?_⟩)
    rw [cl_n (by omega), (x_cell h hne hij hj).1]; exact hQ
theorem x_count (hd : 1 ≤ d) {x : Int32} (h : xInv S I A B) (hQ : Q (some (.int (anCount S x))) (wC tgt cg fg I J A B)) : xK l d 111 [.ref 0, .int x] (wC tgt cg fg I J A B) Q := by
  obtain ⟨d, rfl⟩ : ∃ e, d = e + 1 := ⟨d - 1, by omega⟩
  obtain ⟨hok, ht, h101, hg, h1402, hws, h1701, hD, hpr, hch, hnd, hout, hft⟩ := h
  refine e_X10_count ?_
  rw [hg.1.1, hg.2.1.1, hg.2.2.1.1, h1402, h1701, hnd.1, h101, hout.1]
  unfold anCount at hQ
  repeat' split
  all_goals simp_all
theorem m_count (hd : 1 ≤ d) {x : Int32} (h : mInv S I A B) (hQ : ∀ (I' : Nat → Int32), mInv S I' A B → Q (some (.int (anCount S x))) (wM I' J A B)) : xK l d 190 [.ref 0, .int x] (wM I J A B) Q := by
  obtain ⟨d, rfl⟩ : ∃ e, d = e + 1 := ⟨d - 1, by omega⟩
  have hq := hQ (upd I 0 0) (mInv_0 h (fun i hi => un_i hi))
  obtain ⟨hok, ht, h2, hg, h28, h32, hws, hdr, hch, hnd, hout, hft⟩ := h
  refine e_X11_count ?_
  rw [hg.1, hg.2.1, hg.2.2.1, h32, hdr.1, hnd.1, h2, hout.1]
  unfold anCount at hq
  clear hQ
  repeat' split
  all_goals simp_all
end E1
