/-! ===== the state, as both sides hold it ===== -/
/-- sign, from, to, by, depth -/
abbrev Nd : Type := Nat × Nat × Nat × Int × Nat
def St : Type := (Nat → Nat) × Nat × Gram × List (List Nat) × List (Nat × Nat × Nat) × List Nd × List Nat × Nat
def mkSt (t : Nat → Nat) (n : Nat) (g : Gram) (ws : List (List Nat)) (D : List (Nat × Nat × Nat)) (nd : List Nd) (out : List Nat) (ft : Nat) : St := (t, n, g, ws, D, nd, out, ft)
def St.t (S : St) : Nat → Nat := Prod.fst S
def St.n (S : St) : Nat := Prod.fst (Prod.snd S)
def St.g (S : St) : Gram := Prod.fst (Prod.snd (Prod.snd S))
def St.ws (S : St) : List (List Nat) := Prod.fst (Prod.snd (Prod.snd (Prod.snd S)))
def St.D (S : St) : List (Nat × Nat × Nat) := Prod.fst (Prod.snd (Prod.snd (Prod.snd (Prod.snd S))))
def St.nd (S : St) : List Nd := Prod.fst (Prod.snd (Prod.snd (Prod.snd (Prod.snd (Prod.snd S)))))
def St.out (S : St) : List Nat := Prod.fst (Prod.snd (Prod.snd (Prod.snd (Prod.snd (Prod.snd (Prod.snd S))))))
def St.ft (S : St) : Nat := Prod.snd (Prod.snd (Prod.snd (Prod.snd (Prod.snd (Prod.snd (Prod.snd S))))))
def dN : Nd := (0, 0, 0, 0, 0)
/-- a bracket, a node in their bounds -/
def okD3 (ws : List (List Nat)) (p : Nat × Nat × Nat) : Prop := p.1 < 16 ∧ p.2.1 < p.2.2 ∧ p.2.2 ≤ ws.length
def okN (ws : List (List Nat)) (p : Nd) : Prop := p.1 < 10000 ∧ p.2.1 < p.2.2.1 ∧ p.2.2.1 ≤ ws.length ∧ -100 ≤ p.2.2.2.1 ∧ p.2.2.2.1 ≤ 100 ∧ p.2.2.2.2 < 1000
def xNd (I : Nat → Int32) (A : Nat → Nat → Int32) (nd : List Nd) : Prop := I 2505 = nI nd.length ∧ ∀ k, k < nd.length → A 26 k = nI (cs (nd.getD k dN).1) ∧ A 27 k = nI (nd.getD k dN).2.1 ∧ A 28 k = nI (nd.getD k dN).2.2.1 ∧ A 29 k = iC (nd.getD k dN).2.2.2.1 ∧ A 30 k = nI (nd.getD k dN).2.2.2.2
def mNd (I : Nat → Int32) (A : Nat → Nat → Int32) (nd : List Nd) : Prop := I 39 = nI nd.length ∧ ∀ k, k < nd.length → A 21 k = nI (nd.getD k dN).1 ∧ A 22 k = nI (nd.getD k dN).2.1 ∧ A 23 k = nI (nd.getD k dN).2.2.1 ∧ A 24 k = iC (nd.getD k dN).2.2.2.1 ∧ A 25 k = nI (nd.getD k dN).2.2.2.2
def mDr (I : Nat → Int32) (A : Nat → Nat → Int32) (D : List (Nat × Nat × Nat)) : Prop := I 48 = nI D.length ∧ ∀ k, k < D.length → A 27 k = nI (D.getD k (0, 0, 0)).1 ∧ A 28 k = nI (D.getD k (0, 0, 0)).2.1 ∧ A 29 k = nI (D.getD k (0, 0, 0)).2.2
/-- what holds of a state by itself -/
def stOk (S : St) : Prop := gOk S.g ∧ S.ws.length ≤ 14 ∧ (∀ w ∈ S.ws, vNm w) ∧ (S.ws ≠ [] → S.g.2.1 ≠ [] ∧ okCh S.g (oD []) S.ws) ∧ S.D.length ≤ 40 ∧ (∀ p ∈ S.D, okD3 S.ws p) ∧ S.nd.length ≤ 432 ∧ (∀ p ∈ S.nd, okN S.ws p) ∧ S.out.length ≤ 10 ∧ (∀ b ∈ S.out, b < 128) ∧ S.ft = S.ft ∧ okCt S.g.2.2
/-- the class's world -/
def xInv (S : St) (I : Nat → Int32) (A : Nat → Nat → Int32) (B : Nat → Nat → Int64) : Prop :=
  stOk S ∧ tpX A S.t S.n ∧ I 101 = nI S.n ∧ gC I A B S.g ∧ I 1402 = nI S.ws.length ∧ (∀ k, k < S.ws.length → B 15 k = lN (c32 (S.ws.getD k []))) ∧ I 1701 = nI S.D.length ∧ drX A S.D ∧ (I 1702 = 0 ∨ I 1702 = 1) ∧ (S.ws ≠ [] → (∃ D', chX A B S.g (oD D') S.ws) ∧ (I 1702 = 1 → chX A B S.g (oD S.D) S.ws)) ∧ xNd I A S.nd ∧ (I 10 = nI S.out.length ∧ ∀ k, k < S.out.length → A 36 k = nI (S.out.getD k 0)) ∧ I 11 = nI S.ft
/-- the reference's world -/
def mInv (S : St) (I : Nat → Int32) (A : Nat → Nat → Int32) (B : Nat → Nat → Int64) : Prop :=
  stOk S ∧ tpM A S.t S.n ∧ I 2 = nI S.n ∧ gM I A B S.g ∧ (I 28 = 0 → S.g.2.1 = []) ∧ I 32 = nI S.ws.length ∧ (∀ k, k < S.ws.length → B 15 k = lN (c27 (S.ws.getD k []))) ∧ mDr I A S.D ∧ (S.ws ≠ [] → chM A B S.g (oD []) S.ws) ∧ mNd I A S.nd ∧ (I 53 = nI S.out.length ∧ ∀ k, k < S.out.length → A 30 k = nI (S.out.getD k 0)) ∧ I 10 = nI S.ft
theorem ws_v {S : St} (h : stOk S) {k : Nat} (hk : k < S.ws.length) : vNm (S.ws.getD k []) := h.2.2.1 _ (getD_mem hk [])
/-- how many trees there are -/
def trT (S : St) : Nat := if S.ws = [] then 0 else rtT (rtC S.g) (ch S.g (oD []) S.ws 0 S.ws.length)
/-- the sum of ways over a category, by places -/
theorem smW_cat {c : Nat} {V : Nat → Vl} {p : Nat} (hc : c < 16) : ∀ {q : Nat}, p ≤ q → q ≤ ix V (625 * (c + 1)) → p = ix V (625 * c) → smW c V ((sL V).take q) = (((List.range' p (q - p)).map fun k => wy (V ((sL V).getD k 0)))).sum := by
  intro q hpq hq hp
  have hl := sL_le' (V := V) (s := 625 * (c + 1)) (by omega)
  induction q with
  | zero =>
    rw [Nat.zero_sub]; rfl
  | succ q ih =>
    by_cases e : p = q + 1
    · rw [show q + 1 - p = 0 by omega]
      show smW c V _ = 0
      have hz : ∀ r, r ≤ p → smW c V ((sL V).take r) = 0 := by
        intro r
        induction r with
        | zero => intro _; rfl
        | succ r ih2 =>
          intro hr
          rw [smW_snoc (by omega), ih2 (by omega), if_neg]
          rw [cat_eq hc (by omega)]; omega
      exact hz _ (by omega)
    · rw [smW_snoc (by omega), ih (by omega) (by omega), if_pos ((cat_eq hc (by omega)).mpr ⟨by omega, by omega⟩), show q + 1 - p = (q - p) + 1 by omega, List.range'_concat, List.map_append, List.sum_append]
      simp [show p + (q - p) = q by omega]
theorem smW_all {c : Nat} {V : Nat → Vl} (hc : c < 16) : rtT c V = smW c V ((sL V).take (ix V (625 * (c + 1)))) := by
  have hl := sL_le' (V := V) (s := 625 * (c + 1)) (by omega)
  have hm : ∀ m, ix V (625 * (c + 1)) + m ≤ (sL V).length → smW c V ((sL V).take (ix V (625 * (c + 1)) + m)) = smW c V ((sL V).take (ix V (625 * (c + 1)))) := by
    intro m
    induction m with
    | zero => intro _; rw [Nat.add_zero]
    | succ m ih =>
      intro h
      rw [← Nat.add_assoc, smW_snoc (by omega), ih (by omega), if_neg (by rw [cat_eq hc (by omega)]; omega), Nat.add_zero]
  have := hm ((sL V).length - ix V (625 * (c + 1))) (by omega)
  rw [List.take_of_length_le (by omega)] at this
  exact this
section C28
variable {l : Launch} {J : Nat → Int64} {Q : Option Value → XW → Prop} {d : Nat} {tgt cg fg : Value} {I : Nat → Int32} {A : Nat → Nat → Int32} {B : Nat → Nat → Int64}
theorem s_totalWays (hd : 2 ≤ d) {x y : Int32} {c k : Nat} {V : Nat → Vl} (hx : x = nI c) (hc : c < 105) (hy : y = nI k) (hk : k < 16) (h : cX A B c V) (hr : rX A c V)
    (hQ : Q (some (.long (lN (sat (rtT k V))))) (wC tgt cg fg I J A B)) : xK l d 13 [.ref 19, .int x, .int y] (wC tgt cg fg I J A B) Q := by
  obtain ⟨d, rfl⟩ : ∃ e, d = e + 1 := ⟨d - 1, by omega⟩
  have h60 := h.1
  have hl1 := sL_le' (V := V) (s := 625 * (k + 1)) (by omega)
  have hm := ix_mono (V := V) (show 625 * k ≤ 625 * (k + 1) by omega) (by omega)
  rw [smW_all hk] at hQ
  have loop : ∀ m p, ix V (625 * (k + 1)) - p < m → ix V (625 * k) ≤ p → p ≤ ix V (625 * (k + 1)) → xG l d 13 Q 18 [some (.ref 19), none, none, some (.long (lN (sat (smW k V ((sL V).take p))))), none, some (.int (nI (60 * c + ix V (625 * (k + 1))))), some (.int (nI (60 * c + p)))] [] (wC tgt cg fg I J A B) 0 0 := by
    intro m
    induction m with
    | zero => intro p hm; omega
    | succ m ih =>
      intro p hm1 hp0 hp1
      refine b_X0_totalWays_18 (if_le rfl rfl (by omega) (by omega) (fun z => ?_) (fun z => ⟨xin_n (by omega) (by omega), ?_⟩))
      · rw [show p = ix V (625 * (k + 1)) by omega]; exact hQ
      · rw [cl_n (by omega)]
        have hs := smW_snoc (c := k) (V := V) (show p < (sL V).length by omega)
        rw [if_pos ((cat_eq hk (by omega)).mpr ⟨hp0, by omega⟩)] at hs
        refine s_sumOf (by omega) rfl (h.2.2 p (by omega)).2.1 (b_X0_totalWays_36 ?_)
        rw [← hs, nI_1]
        exact ih (p + 1) (by omega) (by omega) (by omega)
  refine e_X0_totalWays (s_behindLast (by omega) hx hc hy hk hr (b_X0_totalWays_8 (s_firstOf (by omega) hx hc hy hk hr (b_X0_totalWays_16 ?_))))
  have h0 : smW k V ((sL V).take (ix V (625 * k))) = 0 := by
    rw [smW_cat hk (Nat.le_refl _) hm rfl, Nat.sub_self]; rfl
  have := loop _ (ix V (625 * k)) (Nat.lt_succ_self _) (Nat.le_refl _) hm
  rw [h0] at this; exact this
theorem s_treeTotal (hd : 3 ≤ d) {S : St} (h : xInv S I A B) (hQ : Q (some (.long (lN (sat (trT S))))) (wC tgt cg fg I J A B)) : xK l d 115 [.ref 0] (wC tgt cg fg I J A B) Q := by
  obtain ⟨d, rfl⟩ : ∃ e, d = e + 1 := ⟨d - 1, by omega⟩
  obtain ⟨hok, _, _, hg, h1402, _, _, _, _, hch, _⟩ := h
  have h14 := hok.2.1
  refine e_X10_treeTotal (if_eq h1402 (b := 0) rfl (by omega) (by omega) (fun z => ?_) (fun z => ?_))
  · refine b_X10_treeTotal_39 ?_
    have e : S.ws = [] := List.length_eq_zero_iff.mp z
    unfold trT at hQ; rw [if_pos e] at hQ; exact hQ
  · have e : S.ws ≠ [] := fun q => z (by rw [q]; rfl)
    obtain ⟨⟨D', hc⟩, _⟩ := hch e
    have hrn : 0 < S.g.2.1.length := List.length_pos_iff.mpr (hok.2.2.2.1 e).1
    have hrt : rtC S.g < 16 := (hok.1.2.1 _ (getD_mem hrn dR)).1
    have ha0 : A 40 0 = nI (rtC S.g) := (hg.2.1.2.2 0 hrn).2.1
    have hc0 := hc 0 S.ws.length (by omega) (Nat.le_refl _)
    refine s_cellOf (i := 0) (by omega) rfl h1402 (by omega) h14 (b_X10_treeTotal_29 (s_root (by omega) ha0 (b_X10_treeTotal_36 (s_totalWays (by omega) rfl (cx_lt (by omega) h14) rfl hrt hc0.1 hc0.2 (b_X10_treeTotal_39 ?_)))))
    unfold trT at hQ; rw [if_neg e] at hQ
    rw [rtT_w (ch_w S.g (oD D') (oD []) S.ws 0 S.ws.length)]; exact hQ
end C28
