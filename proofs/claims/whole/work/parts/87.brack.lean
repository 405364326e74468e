/-! ===== brackets and what is held, both sides ===== -/
theorem hasB_iff {D : List (Nat × Nat × Nat)} {c i j : Nat} : hasB D c i j = true ↔ (c, i, j) ∈ D := by unfold hasB; rw [decide_eq_true_iff]
theorem hasB_snoc {D : List (Nat × Nat × Nat)} {c i j c' a b : Nat} : hasB (D ++ [(c, i, j)]) c' a b = (hasB D c' a b || decide (c' = c ∧ a = i ∧ b = j)) := by
  rw [Bool.eq_iff_iff, Bool.or_eq_true, hasB_iff, hasB_iff, List.mem_append, List.mem_singleton, decide_eq_true_iff]
  constructor
  · rintro (h | h)
    · exact Or.inl h
    · injection h with h1 h2; injection h2 with h2 h3; exact Or.inr ⟨h1, h2, h3⟩
  · rintro (h | ⟨rfl, rfl, rfl⟩)
    · exact Or.inl h
    · exact Or.inr rfl
def ctI (S : St) : Nat := S.g.2.2.idxOf (pOnly S.t S.n)
def brB (S : St) (x y : Int32) : Bool := decide (ctI S < S.g.2.2.length) && (spB S.ws.length x y && (decide (S.D.length ≠ 40) && !hasB S.D (ctI S) x.toNatClampNeg y.toNatClampNeg))
def stBr (S : St) (x y : Int32) : St := if brB S x y = true then mkSt S.t 0 S.g S.ws (S.D ++ [(ctI S, x.toNatClampNeg, y.toNatClampNeg)]) S.nd S.out S.ft else S.setN 0
theorem anCat_c (S : St) : anCat S = if ctI S < S.g.2.2.length then nI (ctI S) else -1 := rfl
theorem stBr_ok {S : St} (h : stOk S) {x y : Int32} (e : brB S x y = true) : stOk (mkSt S.t 0 S.g S.ws (S.D ++ [(ctI S, x.toNatClampNeg, y.toNatClampNeg)]) S.nd S.out S.ft) := by
  unfold brB at e
  rw [Bool.and_eq_true, Bool.and_eq_true, Bool.and_eq_true] at e
  have e1 := of_decide_eq_true e.1
  have e3 := of_decide_eq_true e.2.2.1
  obtain ⟨i, j, rfl, rfl, hij, hj⟩ := spB_n h.2.1 e.2.1
  have h14 := h.2.1
  have h40 := h.2.2.2.2.1
  have h16 := h.1.2.2.1
  refine ⟨h.1, h.2.1, h.2.2.1, h.2.2.2.1, ?_, fun p hp => ?_, h.2.2.2.2.2.2⟩
  · show (S.D ++ [_]).length ≤ 40
    rw [List.length_append]; simp; omega
  · rcases List.mem_append.mp hp with z | z
    · exact h.2.2.2.2.2.1 p z
    · rw [List.mem_singleton] at z; subst z
      refine ⟨?_, ?_, ?_⟩
      · show ctI S < 16; omega
      · show (nI i).toNatClampNeg < (nI j).toNatClampNeg
        rw [cl_n (by omega), cl_n (by omega)]; exact hij
      · show (nI j).toNatClampNeg ≤ S.ws.length
        rw [cl_n (by omega)]; exact hj
def hdS (S : St) : Int := (S.nd.map fun p => oD S.D (p.1 / 625) p.2.1 p.2.2.1).sum
def anHeld (S : St) : Int32 := if S.nd.length = 0 then -1 else iC (S.D.length + hdS S)
section E4
variable {l : Launch} {J : Nat → Int64} {A : Nat → Nat → Int32} {B : Nat → Nat → Int64} {Q : Option Value → XW → Prop} {d : Nat} {I : Nat → Int32} {S : St} {tgt cg fg : Value}
theorem s_hasBracket (hd : 1 ≤ d) {x y z : Int32} {c i j : Nat} {D : List (Nat × Nat × Nat)} (hD : mDr I A D) (h40 : D.length ≤ 40) (hb : ∀ p ∈ D, p.1 < 100000 ∧ p.2.1 < 100000 ∧ p.2.2 < 100000) (hx : x = nI c) (hy : y = nI i) (hz : z = nI j) (hc : c < 100000) (hi : i < 100000) (hj : j < 100000)
    (hQ : Q (some (.int (bI (hasB D c i j)))) (wM I J A B)) : xK l d 173 [.ref 0, .int x, .int y, .int z] (wM I J A B) Q := by
  obtain ⟨d, rfl⟩ : ∃ e, d = e + 1 := ⟨d - 1, by omega⟩
  subst hx; subst hy; subst hz
  have loop : ∀ m k, D.length - k < m → k ≤ D.length → (∀ q, q < k → D.getD q (0, 0, 0) ≠ (c, i, j)) → xG l d 173 Q 3 [some (.ref 0), some (.int (nI c)), some (.int (nI i)), some (.int (nI j)), some (.int (nI k))] [] (wM I J A B) 0 0 := by
    intro m
    induction m with
    | zero => intro k hm; omega
    | succ m ih =>
      intro k hm hk hno
      refine b_X11_hasBracket_3 (if_le hD.1 rfl (by omega) (by omega) (fun w => ⟨Or.inl rfl, ?_⟩) (fun w => ?_))
      · have : hasB D c i j = false := by
          cases e : hasB D c i j with
          | false => rfl
          | true =>
            obtain ⟨q, hq, e2⟩ := mem_getD (hasB_iff.mp e) (0, 0, 0)
            exact absurd e2 (hno q (by omega))
        rw [this] at hQ; exact hQ
      · have hk' := hD.2 k w
        have hbk := hb _ (getD_mem w (0, 0, 0))
        have hmem := getD_mem w (0, 0, 0)
        have next : D.getD k (0, 0, 0) ≠ (c, i, j) → xG l d 173 Q 3 [some (.ref 0), some (.int (nI c)), some (.int (nI i)), some (.int (nI j)), some (.int (nI k + 1))] [] (wM I J A B) 0 0 := fun hn => by
          rw [nI_1]
          exact ih (k + 1) (by omega) (by omega) (fun q hq => by
            by_cases e : q = k
            · rw [e]; exact hn
            · exact hno q (by omega))
        rw [cl_n (by omega), hk'.1, hk'.2.1, hk'.2.2]
        generalize D.getD k (0, 0, 0) = p at hbk hmem next
        obtain ⟨p1, p2, p3⟩ := p
        have hb1 : p1 < 100000 := hbk.1
        have hb2 : p2 < 100000 := hbk.2.1
        have hb3 : p3 < 100000 := hbk.2.2
        refine ⟨xin_n (by omega) (by omega), if_eq (a := p1) rfl rfl (by omega) (by omega) (fun e1 => ⟨xin_n (by omega) (by omega), if_eq (a := p2) rfl rfl (by omega) (by omega) (fun e2 => ⟨xin_n (by omega) (by omega), if_eq (a := p3) rfl rfl (by omega) (by omega) (fun e3 => ⟨Or.inr rfl, ?_⟩) (fun e3 => next ?_)⟩) (fun e2 => next ?_)⟩) (fun e1 => next ?_)⟩
        · subst e1; subst e2; subst e3
          rw [hasB_iff.mpr hmem] at hQ; exact hQ
        · intro q; injection q with q1 q2; injection q2 with q2 q3; exact e3 q3
        · intro q; injection q with q1 q2; injection q2 with q2 q3; exact e2 q2
        · intro q; injection q with q1 q2; exact e1 q1
  exact e_X11_hasBracket (loop _ 0 (Nat.lt_succ_self _) (by omega) (fun q hq => by omega))
theorem s_ownCost (hd : 2 ≤ d) {x y z : Int32} {c i j : Nat} {D : List (Nat × Nat × Nat)} (hD : mDr I A D) (h40 : D.length ≤ 40) (hb : ∀ p ∈ D, p.1 < 100000 ∧ p.2.1 < 100000 ∧ p.2.2 < 100000) (hx : x = nI c) (hy : y = nI i) (hz : z = nI j) (hc : c < 100000) (hi : i < 100000) (hj : j < 100000)
    (hQ : Q (some (.int (iC (oD D c i j)))) (wM I J A B)) : xK l d 176 [.ref 0, .int x, .int y, .int z] (wM I J A B) Q := by
  obtain ⟨d, rfl⟩ : ∃ e, d = e + 1 := ⟨d - 1, by omega⟩
  refine e_X11_ownCost (s_hasBracket (by omega) hD h40 hb hx hy hz hc hi hj (b_X11_ownCost_7 (if_bI rfl (fun e => ?_) (fun e => ?_))))
  · unfold oD at hQ; rw [e, if_neg (by decide)] at hQ; exact hQ
  · unfold oD at hQ; rw [e, if_pos rfl] at hQ; exact hQ
theorem stD_b (h : stOk S) : ∀ p ∈ S.D, p.1 < 100000 ∧ p.2.1 < 100000 ∧ p.2.2 < 100000 := fun p hp => by
  have := h.2.2.2.2.2.1 p hp
  have h14 := h.2.1
  unfold okD3 at this
  omega
theorem m_bracket (hd : 5 ≤ d) {x y : Int32} (h : mInv S I A B) (hQ : ∀ (I' : Nat → Int32) (J' : Nat → Int64) (A' : Nat → Nat → Int32), mInv (stBr S x y) I' A' B → Q (some (.int (bI (brB S x y)))) (wM I' J' A' B)) : xK l d 174 [.ref 0, .int x, .int y] (wM I J A B) Q := by
  obtain ⟨d, rfl⟩ : ∃ e, d = e + 1 := ⟨d - 1, by omega⟩
  have h14 := h.1.2.1
  have h16 := h.1.1.2.2.1
  have h40 := h.1.2.2.2.2.1
  have hbD := stD_b h.1
  refine e_X11_bracket (m_takeCategory (S := S) (by omega) (mInv_0 h (fun i hi => un_i hi)) (fun I1 J1 hi => b_X11_bracket_9 ?_))
  have hdr := hi.2.2.2.2.2.2.2.1
  have h32 := hi.2.2.2.2.2.1
  unfold stBr at hQ
  have no : brB S x y = false → Q (some (.int 0)) (wM I1 J1 A B) := fun e => by
    have := hQ I1 J1 A
    rw [e, if_neg (by decide)] at this
    exact this hi
  rw [anCat_c]
  by_cases c : ctI S < S.g.2.2.length
  · rw [if_pos c, if_neg (ne_m1 (by omega))]
    refine s_isCell (n := S.ws.length) (by omega) h32 (b_X11_bracket_21 (if_bI rfl (fun e => ⟨Or.inl rfl, no ?_⟩) (fun e => ?_)))
    · unfold brB; rw [e]; simp
    · obtain ⟨i, j, rfl, rfl, hij, hj⟩ := spB_n h14 e
      refine if_eq hdr.1 (b := 40) rfl (by show S.D.length < _; omega) (by omega) (fun z => ⟨Or.inl rfl, no ?_⟩) (fun z => ?_)
      · have z' : S.D.length = 40 := z
        unfold brB; rw [decide_eq_false (show ¬ S.D.length ≠ 40 from fun q => q z')]; simp
      · have z' : S.D.length ≠ 40 := z
        refine s_hasBracket (D := S.D) (by omega) hdr h40 hbD rfl rfl rfl (by omega) (by omega) (by omega) (b_X11_bracket_40 (if_bI rfl (fun f => ?_) (fun f => ⟨Or.inl rfl, no ?_⟩)))
        · have hb : brB S (nI i) (nI j) = true := by
            unfold brB; rw [decide_eq_true c, e, decide_eq_true z', cl_n (by omega), cl_n (by omega), f]; rfl
          have hso := stBr_ok h.1 hb
          have hq := hQ (upd I1 48 (I1 48 + 1)) J1 (va_up (va_up (va_up A 27 (upd (A 27) (I1 48).toNatClampNeg (nI (ctI S)))) 28 (upd (A 28) (I1 48).toNatClampNeg (nI i))) 29 (upd (A 29) (I1 48).toNatClampNeg (nI j)))
          rw [hb, if_pos rfl] at hq
          have hlen : I1 48 = nI S.D.length := hdr.1
          refine ⟨xin_of hlen (by omega) (by omega), xin_of hlen (by omega) (by omega), xin_of hlen (by omega) (by omega), Or.inr rfl, hq ?_⟩
          obtain ⟨hok, ht, h2, hg, h28, _, hws, _, hch, hnd, hout, hft⟩ := hi
          rw [cl_n (a := i) (by omega), cl_n (a := j) (by omega)] at hso ⊢
          rw [cl_of hlen (by omega)]
          have fA : ∀ p, p ≠ 27 → p ≠ 28 → p ≠ 29 → (va_up (va_up (va_up A 27 (upd (A 27) S.D.length (nI (ctI S)))) 28 (upd (A 28) S.D.length (nI i))) 29 (upd (A 29) S.D.length (nI j))) p = A p := fun p a b c => by rw [un_v c, un_v b, un_v a]
          refine ⟨hso, tpM_0 _, by rw [un_i (by decide)]; exact h2, gM_fr hg (fun i a b => un_i (by omega)) (fun p a b c => fA p (by omega) (by omega) (by omega)) (fun _ _ _ => rfl), by rw [un_i (by decide)]; exact h28, by rw [un_i (by decide)]; exact h32, hws, ⟨?_, fun k hk => ?_⟩, fun q => chM_fr (hch q) (fA 17 (by decide) (by decide) (by decide)) (fA 18 (by decide) (by decide) (by decide)) rfl, mNd_fr hnd (un_i (by decide)) (fun p a b => fA p (by omega) (by omega) (by omega)), ⟨by rw [un_i (by decide)]; exact hout.1, fun k hk => by rw [fA 30 (by decide) (by decide) (by decide)]; exact hout.2 k hk⟩, by rw [un_i (by decide)]; exact hft⟩
          · rw [ue_i, hlen, nI_1]
            show nI (S.D.length + 1) = nI (S.D ++ [_]).length
            rw [List.length_append]; rfl
          · have hk' : k < S.D.length + 1 := by
              have : k < (S.D ++ [(ctI S, i, j)]).length := hk
              rw [List.length_append] at this; exact this
            show _ = nI ((S.D ++ [(ctI S, i, j)]).getD k (0, 0, 0)).1 ∧ _ = nI ((S.D ++ [(ctI S, i, j)]).getD k (0, 0, 0)).2.1 ∧ _ = nI ((S.D ++ [(ctI S, i, j)]).getD k (0, 0, 0)).2.2
            rw [un_v (show (27 : Nat) ≠ 29 by decide), un_v (show (27 : Nat) ≠ 28 by decide), ue_v, un_v (show (28 : Nat) ≠ 29 by decide), ue_v, ue_v]
            by_cases ek : k = S.D.length
            · subst ek; rw [ue_i, ue_i, ue_i, gD_r]; exact ⟨rfl, rfl, rfl⟩
            · rw [un_i ek, un_i ek, un_i ek, gD_l (by omega)]
              exact hdr.2 k (by show k < S.D.length; omega)
        · unfold brB; rw [cl_n (by omega), cl_n (by omega), f]; simp
  · rw [if_neg c, if_pos rfl]
    refine ⟨Or.inl rfl, no ?_⟩
    unfold brB; rw [decide_eq_false c]; rfl
theorem x_bracket (hd : 5 ≤ d) {x y : Int32} (h : xInv S I A B) (hQ : ∀ (I' : Nat → Int32) (A' : Nat → Nat → Int32), xInv (stBr S x y) I' A' B → Q (some (.int (bI (brB S x y)))) (wC tgt cg fg I' J A' B)) : xK l d 103 [.ref 0, .int x, .int y] (wC tgt cg fg I J A B) Q := by
  obtain ⟨d, rfl⟩ : ∃ e, d = e + 1 := ⟨d - 1, by omega⟩
  have h14 := h.1.2.1
  have h16 := h.1.1.2.2.1
  have h40 := h.1.2.2.2.2.1
  refine e_X10_bracket (x_takeCategory (S := S) (by omega) h (fun I1 hi => b_X10_bracket_4 ?_))
  unfold stBr at hQ
  have no : brB S x y = false → Q (some (.int 0)) (wC tgt cg fg I1 J A B) := fun e => by
    have := hQ I1 A
    rw [e, if_neg (by decide)] at this
    exact this hi
  rw [anCat_c]
  by_cases c : ctI S < S.g.2.2.length
  · rw [if_pos c, if_neg (nn_n (by omega))]
    refine s_isSpan (n := S.ws.length) (by omega) hi.2.2.2.2.1 (b_X10_bracket_15 (if_bI rfl (fun e => ⟨Or.inl rfl, no ?_⟩) (fun e => ?_)))
    · unfold brB; rw [e]; simp
    · obtain ⟨i, j, rfl, rfl, hij, hj⟩ := spB_n h14 e
      have hcx := cx_lt hij (show j ≤ 14 by omega)
      have h1701 : I1 1701 = nI S.D.length := hi.2.2.2.2.2.2.1
      have hD : drX A S.D := hi.2.2.2.2.2.2.2.1
      refine s_cellOf (by omega) rfl rfl hij (by omega) (b_X10_bracket_28 ?_)
      obtain ⟨d, rfl⟩ : ∃ e, d = e + 1 := ⟨d - 1, by omega⟩
      refine e_X1_addBracket (if_le (a := 40) rfl h1701 (by omega) (by omega) (fun z => ⟨Or.inl rfl, b_X10_bracket_31 ?_⟩) (fun z => ?_))
      · rw [if_pos rfl]
        refine ⟨Or.inl rfl, no ?_⟩
        unfold brB; rw [decide_eq_false (show ¬ S.D.length ≠ 40 by omega)]; simp
      · refine s_has (by omega) hD rfl (by omega) rfl hij (by omega) (b_X1_addBracket_15 (if_bI rfl (fun f => ?_) (fun f => ⟨Or.inl rfl, b_X10_bracket_31 ?_⟩)))
        · have hb : brB S (nI i) (nI j) = true := by
            unfold brB; rw [decide_eq_true c, e, decide_eq_true (show S.D.length ≠ 40 by omega), cl_n (by omega), cl_n (by omega), f]; rfl
          have hso := stBr_ok h.1 hb
          rw [cl_n (a := cx i j) (by omega), h1701, nI_1, hD i j hij (by omega), shl1 _ (by omega), fa_or]
          refine ⟨xin_n hcx (by omega), xin_n hcx (by omega), Or.inl rfl, Or.inr rfl, b_X10_bracket_31 ?_⟩
          rw [if_neg (by decide)]
          have hq := hQ (upd (upd I1 1701 (nI (S.D.length + 1))) 1702 0) (va_up A 18 (upd (A 18) (cx i j) (nI (msk (fun c => hasB S.D c i j) 16 ||| 2 ^ ctI S))))
          rw [hb, if_pos rfl, cl_n (a := i) (by omega), cl_n (a := j) (by omega)] at hq
          rw [cl_n (a := i) (by omega), cl_n (a := j) (by omega)] at hso
          refine ⟨Or.inr rfl, hq ?_⟩
          obtain ⟨hok, ht, h101, hg, h1402, hws, _, _, hpr, hch, hnd, hout, hft⟩ := hi
          refine ⟨hso, tpX_0 _, by rw [un_i (by decide), un_i (by decide)]; exact h101, gC_fr hg (fun i a b => by rw [un_i (by omega), un_i (by omega)]) (fun p a b => un_v (by omega)) (fun _ _ _ => rfl), by rw [un_i (by decide), un_i (by decide)]; exact h1402, hws, ?_, fun a b hab hb14 => ?_, Or.inl (ue_i _ _ _), fun q => ?_, xNd_fr hnd (by rw [un_i (by decide), un_i (by decide)]) (fun p a b => un_v (by omega)), ⟨by rw [un_i (by decide), un_i (by decide)]; exact hout.1, fun k hk => by rw [un_v (by decide)]; exact hout.2 k hk⟩, by rw [un_i (by decide), un_i (by decide)]; exact hft⟩
          · rw [un_i (by decide), ue_i]
            show nI (S.D.length + 1) = nI (S.D ++ [_]).length
            rw [List.length_append]; rfl
          · rw [ue_v]
            show _ = nI (msk (fun c' => hasB (S.D ++ [(ctI S, i, j)]) c' a b) 16)
            by_cases e2 : cx a b = cx i j
            · obtain ⟨e3, e4⟩ := cx_inj hab hij e2
              subst e3; subst e4
              rw [ue_i, ← msk_one (k := 16) (c := ctI S) (by omega), msk_or]
              congr 1
              refine msk_cong fun c' _ => ?_
              rw [hasB_snoc]
              congr 1
              rw [Bool.eq_iff_iff]; simp
            · rw [un_i e2, hD a b hab hb14]
              congr 1
              refine msk_cong fun c' _ => ?_
              rw [hasB_snoc, decide_eq_false (fun w => e2 (by rw [w.2.1, w.2.2])), Bool.or_false]
          · obtain ⟨⟨D', k1⟩, _⟩ := hch q
            exact ⟨⟨D', chX_fr k1 (fun p a b => un_v (by omega)) rfl⟩, fun w => by rw [ue_i] at w; exact absurd w (by decide)⟩
        · rw [if_pos rfl]
          refine ⟨Or.inl rfl, no ?_⟩
          unfold brB; rw [cl_n (by omega), cl_n (by omega), f]; simp
  · rw [if_neg c, if_pos (by decide)]
    refine ⟨Or.inl rfl, no ?_⟩
    unfold brB; rw [decide_eq_false c]; rfl
theorem hdS_snoc {D : List (Nat × Nat × Nat)} {nd : List Nd} {k : Nat} (h : k < nd.length) : ((nd.take (k + 1)).map fun p => oD D (p.1 / 625) p.2.1 p.2.2.1).sum = ((nd.take k).map fun p => oD D (p.1 / 625) p.2.1 p.2.2.1).sum + oD D ((nd.getD k dN).1 / 625) (nd.getD k dN).2.1 (nd.getD k dN).2.2.1 := by
  rw [take_snoc nd dN h, List.map_append, List.sum_append]; simp
theorem m_held (hd : 3 ≤ d) (h : mInv S I A B) (hQ : ∀ (I' : Nat → Int32), mInv S I' A B → Q (some (.int (anHeld S))) (wM I' J A B)) : xK l d 186 [.ref 0] (wM I J A B) Q := by
  obtain ⟨d, rfl⟩ : ∃ e, d = e + 1 := ⟨d - 1, by omega⟩
  have h0 := mInv_0 (I' := upd I 0 0) h (fun i hi => un_i hi)
  have hq := hQ _ h0
  obtain ⟨hok, ht, h2, hg, h28, h32, hws, hdr, hch, hnd, hout, hft⟩ := h0
  have h432 := hok.2.2.2.2.2.2.1
  have h40 := hok.2.2.2.2.1
  have h14 := hok.2.1
  unfold anHeld at hq
  have hd39 : I 39 = nI S.nd.length := by have := hnd.1; rwa [un_i (by decide)] at this
  have hd48 : I 48 = nI S.D.length := by have := hdr.1; rwa [un_i (by decide)] at this
  generalize hI0 : upd I 0 0 = I0 at hq hnd hdr
  have loop : ∀ m k, S.nd.length - k < m → k ≤ S.nd.length → S.nd.length ≠ 0 → xG l d 186 Q 21 [some (.ref 0), some (.int (iC (S.D.length + ((S.nd.take k).map fun p => oD S.D (p.1 / 625) p.2.1 p.2.2.1).sum))), some (.int (nI k))] [] (wM I0 J A B) 0 0 := by
    intro m
    induction m with
    | zero => intro k hm; omega
    | succ m ih =>
      intro k hm hk hne
      refine b_X11_held_21 (if_le hnd.1 rfl (by omega) (by omega) (fun z => ?_) (fun z => ?_))
      · rw [List.take_of_length_le z]
        rw [if_neg hne] at hq; exact hq
      · have hn := hnd.2 k z
        have hokn := hok.2.2.2.2.2.2.2.1 _ (getD_mem z dN)
        unfold okN at hokn
        have hs := hdS_snoc (D := S.D) z
        rw [cl_n (by omega), hn.1]
        refine ⟨xin_n (by omega) (by omega), s_categoryOfM (by omega) rfl hokn.1 (b_X11_held_40 ⟨xin_n (by omega) (by omega), xin_n (by omega) (by omega), ?_⟩)⟩
        rw [cl_n (by omega), hn.2.1, hn.2.2.1]
        refine s_ownCost (D := S.D) (by omega) hdr h40 (stD_b hok) rfl rfl rfl (by omega) (by omega) (by omega) (b_X11_held_55 ?_)
        rw [iC_add, Int.add_assoc, ← hs, nI_1]
        exact ih (k + 1) (by omega) (by omega) hne
  refine e_X11_held (if_eq hd39 (b := 0) rfl (by omega) (by omega) (fun z => ?_) (fun z => ?_))
  · rw [if_pos z] at hq; rw [hI0]; exact hq
  · have := loop _ 0 (Nat.lt_succ_self _) (by omega) z
    rw [hI0, hd48, ← iC_n]
    rw [show ((S.D.length : Nat) : Int) + ((S.nd.take 0).map fun p => oD S.D (p.1 / 625) p.2.1 p.2.2.1).sum = (S.D.length : Int) by simp] at this
    exact this
theorem x_held (hd : 4 ≤ d) (h : xInv S I A B) (hQ : Q (some (.int (anHeld S))) (wC tgt cg fg I J A B)) : xK l d 107 [.ref 0] (wC tgt cg fg I J A B) Q := by
  obtain ⟨d, rfl⟩ : ∃ e, d = e + 1 := ⟨d - 1, by omega⟩
  obtain ⟨d, rfl⟩ : ∃ e, d = e + 1 := ⟨d - 1, by omega⟩
  obtain ⟨hok, ht, h101, hg, h1402, hws, h1701, hD, hpr, hch, hnd, hout, hft⟩ := h
  have h432 := hok.2.2.2.2.2.2.1
  have h40 := hok.2.2.2.2.1
  have h14 := hok.2.1
  unfold anHeld at hQ
  have loop : ∀ m k, S.nd.length - k < m → k ≤ S.nd.length → S.nd.length ≠ 0 → xG l d 90 (fun v9 w9 => xG l (d + 1) 107 Q 32 [none] (v9.toList ++ [.int (nI S.D.length)]) w9 0 0) 4 [some (.ref 25), some (.ref 17), some (.int (iC ((S.nd.take k).map fun p => oD S.D (p.1 / 625) p.2.1 p.2.2.1).sum)), some (.int (nI k))] [] (wC tgt cg fg I J A B) 0 0 := by
    intro m
    induction m with
    | zero => intro k hm; omega
    | succ m ih =>
      intro k hm hk hne
      refine b_X9_costUnder_4 (if_le hnd.1 rfl (by omega) (by omega) (fun z => b_X10_held_32 ?_) (fun z => ?_))
      · rw [List.take_of_length_le z, ← iC_n, iC_add]
        rw [if_neg hne] at hQ; exact hQ
      · have hn := hnd.2 k z
        have hokn := hok.2.2.2.2.2.2.2.1 _ (getD_mem z dN)
        unfold okN at hokn
        have hs := hdS_snoc (D := S.D) z
        have hcl := cs_lt hokn.1
        rw [cl_n (by omega), hn.1, hn.2.1, hn.2.2.1, shr12 (by omega), cs_cat]
        refine ⟨xin_n (by omega) (by omega), xin_n (by omega) (by omega), xin_n (by omega) (by omega), s_cellOf (by omega) rfl rfl hokn.2.1 (by omega) (b_X9_costUnder_38 (s_costOfNode (by omega) hD rfl (by omega) rfl hokn.2.1 (by omega) (b_X9_costUnder_41 ?_)))⟩
        rw [iC_add, ← hs, nI_1]
        exact ih (k + 1) (by omega) (by omega) hne
  refine e_X10_held (if_eq hnd.1 (b := 0) rfl (by omega) (by omega) (fun z => ?_) (fun z => ?_))
  · rw [if_pos z] at hQ; exact hQ
  · rw [h1701]
    have := loop _ 0 (Nat.lt_succ_self _) (by omega) z
    exact e_X9_costUnder this
end E4
