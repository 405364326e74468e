/-! ===== the class: read ===== -/
theorem gC_fr {I I' : Nat → Int32} {A A' : Nat → Nat → Int32} {B B' : Nat → Nat → Int64} {g : Gram} (h : gC I A B g) (hI : ∀ i, 3710 ≤ i → i ≤ 3713 → I' i = I i) (hA : ∀ p, 37 ≤ p → p ≤ 47 → A' p = A p) (hB : ∀ p, 37 ≤ p → p ≤ 47 → B' p = B p) : gC I' A' B' g := by
  obtain ⟨h1, h2, h3, h4⟩ := h
  refine ⟨⟨by rw [hI 3710 (by omega) (by omega)]; exact h1.1, h1.2.1, fun e he => ?_⟩, ⟨by rw [hI 3711 (by omega) (by omega)]; exact h2.1, h2.2.1, fun r hr => ⟨(h2.2.2 r hr).1, rulZ_fr (h2.2.2 r hr).2 (fun p a b => hA p (by omega) (by omega))⟩⟩, ⟨by rw [hI 3712 (by omega) (by omega)]; exact h3.1, h3.2.1, fun c hc => ?_⟩, ⟨by rw [hI 3713 (by omega) (by omega)]; exact h4.1, fun k hk => ?_⟩⟩
  · rw [hB 38 (by omega) (by omega), hA 39 (by omega) (by omega)]; exact h1.2.2 e he
  · rw [hB 45 (by omega) (by omega)]; exact h3.2.2 c hc
  · rw [hA 47 (by omega) (by omega)]; exact h4.2 k hk
theorem drX_fr {A A' : Nat → Nat → Int32} {D : List (Nat × Nat × Nat)} (h : drX A D) (hA : A' 18 = A 18) : drX A' D := fun i j a b => by rw [hA]; exact h i j a b
theorem chX_fr {A A' : Nat → Nat → Int32} {B B' : Nat → Nat → Int64} {g : Gram} {o : Own} {ws : List (List Nat)} (h : chX A B g o ws) (hA : ∀ p, 20 ≤ p → p ≤ 24 → A' p = A p) (hB : B' 22 = B 22) : chX A' B' g o ws := fun i j a b => by
  have := h i j a b
  refine ⟨?_, fun k hk => ?_⟩
  · have := this.1
    unfold cX at this ⊢
    rw [hA 20 (by omega) (by omega), hA 21 (by omega) (by omega), hA 23 (by omega) (by omega), hB]; exact this
  · rw [hA 24 (by omega) (by omega)]; exact this.2 k hk
theorem xNd_fr {I I' : Nat → Int32} {A A' : Nat → Nat → Int32} {nd : List Nd} (h : xNd I A nd) (hI : I' 2505 = I 2505) (hA : ∀ p, 26 ≤ p → p ≤ 30 → A' p = A p) : xNd I' A' nd := by
  refine ⟨by rw [hI]; exact h.1, fun k hk => ?_⟩
  rw [hA 26 (by omega) (by omega), hA 27 (by omega) (by omega), hA 28 (by omega) (by omega), hA 29 (by omega) (by omega), hA 30 (by omega) (by omega)]; exact h.2 k hk
def kI (i : Nat) : Prop := i = 10 ∨ i = 11 ∨ i = 1402 ∨ i = 1701 ∨ i = 1702 ∨ i = 2505 ∨ (3710 ≤ i ∧ i ≤ 3713)
def kA (p : Nat) : Prop := p = 18 ∨ (20 ≤ p ∧ p ≤ 30) ∨ (36 ≤ p ∧ p ≤ 47)
def kB (p : Nat) : Prop := p = 15 ∨ p = 22 ∨ (37 ≤ p ∧ p ≤ 47)
def St.setN (S : St) (n : Nat) : St := mkSt S.t n S.g S.ws S.D S.nd S.out S.ft
def St.setT (S : St) (t : Nat → Nat) (n : Nat) : St := mkSt t n S.g S.ws S.D S.nd S.out S.ft
theorem xInv_t {S : St} {I I' : Nat → Int32} {A A' : Nat → Nat → Int32} {B B' : Nat → Nat → Int64} (h : xInv S I A B) {t : Nat → Nat} {n : Nat} (ht : tpX A' t n) (hn : I' 101 = nI n) (hI : ∀ i, kI i → I' i = I i) (hA : ∀ p, kA p → A' p = A p) (hB : ∀ p, kB p → B' p = B p) : xInv (S.setT t n) I' A' B' := by
  obtain ⟨h0, _, _, h3, h4, h5, h6, h7, h8, h9, h10, h11, h12⟩ := h
  have i2 : I' 1702 = I 1702 := hI _ (by unfold kI; omega)
  refine ⟨h0, ht, hn, gC_fr h3 (fun i a b => hI i (by unfold kI; omega)) (fun p a b => hA p (by unfold kA; omega)) (fun p a b => hB p (by unfold kB; omega)), (hI _ (by unfold kI; omega)).trans h4, fun k hk => ?_, (hI _ (by unfold kI; omega)).trans h6, drX_fr h7 (hA _ (by unfold kA; omega)), by rw [i2]; exact h8, fun e => ?_, xNd_fr h10 (hI _ (by unfold kI; omega)) (fun p a b => hA p (by unfold kA; omega)), ⟨(hI _ (by unfold kI; omega)).trans h11.1, fun k hk => by rw [hA 36 (by unfold kA; omega)]; exact h11.2 k hk⟩, (hI _ (by unfold kI; omega)).trans h12⟩
  · rw [hB 15 (by unfold kB; omega)]; exact h5 k hk
  · obtain ⟨⟨D', k1⟩, k2⟩ := h9 e
    exact ⟨⟨D', chX_fr k1 (fun p a b => hA p (by unfold kA; omega)) (hB _ (by unfold kB; omega))⟩, fun q => chX_fr (k2 (by rw [← i2]; exact q)) (fun p a b => hA p (by unfold kA; omega)) (hB _ (by unfold kB; omega))⟩
theorem setT_id (S : St) (n : Nat) : S.setT S.t n = S.setN n := rfl
theorem tpX_0 {A : Nat → Nat → Int32} (t : Nat → Nat) : tpX A t 0 := ⟨by omega, fun i hi => by omega⟩
theorem tpM_0 {A : Nat → Nat → Int32} (t : Nat → Nat) : tpM A t 0 := ⟨by omega, fun i hi => by omega⟩
/-- every cell has room: as a test -/
def okChB (g : Gram) (ws : List (List Nat)) : Bool := (List.range 15).all fun i => (List.range 15).all fun j => !(decide (i < j ∧ j ≤ ws.length)) || decide ((sL (ch g (oD []) ws i j)).length ≤ 60)
theorem okChB_iff {g : Gram} {ws : List (List Nat)} (h : ws.length ≤ 14) {o : Own} : okChB g ws = true ↔ okCh g o ws := by
  unfold okChB
  rw [List.all_eq_true]
  constructor
  · intro q i j a b
    rw [sL_ch g o (oD [])]
    have h1 := q i (List.mem_range.mpr (by omega))
    rw [List.all_eq_true] at h1
    have h2 := h1 j (List.mem_range.mpr (by omega))
    rw [Bool.or_eq_true] at h2
    rcases h2 with z | z
    · rw [decide_eq_true (show i < j ∧ j ≤ ws.length from ⟨a, b⟩)] at z; cases z
    · exact of_decide_eq_true z
  · intro q i _
    rw [List.all_eq_true]
    intro j _
    rw [Bool.or_eq_true]
    by_cases c : i < j ∧ j ≤ ws.length
    · right
      rw [sL_ch g (oD []) o]
      exact decide_eq_true (q i j c.1 c.2)
    · left; rw [decide_eq_false c]; rfl
def stRead (S : St) : St := if (pWords S.t S.n).length = 0 ∨ S.g.2.1.length = 0 then S.setN 0 else if okChB S.g (pWords S.t S.n) = true then mkSt S.t 0 S.g (pWords S.t S.n) [] [] S.out S.ft else mkSt S.t 0 S.g [] [] [] S.out S.ft
def anRead (S : St) : Int32 := if (pWords S.t S.n).length = 0 ∨ S.g.2.1.length = 0 then -1 else if okChB S.g (pWords S.t S.n) = true then (if 0 < trT (stRead S) then 1 else 0) else -2
section C29
variable {l : Launch} {J : Nat → Int64} {Q : Option Value → XW → Prop} {d : Nat} {tgt cg fg : Value} {I : Nat → Int32} {A : Nat → Nat → Int32} {B : Nat → Nat → Int64}
theorem x_read (hd : 9 ≤ d) {S : St} (h : xInv S I A B)
    (hQ : ∀ (cg' : Value) (I' : Nat → Int32) (A' : Nat → Nat → Int32) (B' : Nat → Nat → Int64), (cg' = cg ∨ cg' = .ref 37) → xInv (stRead S) I' A' B' → Q (some (.int (anRead S))) (wC tgt cg' fg I' J A' B')) : xK l d 96 [.ref 0] (wC tgt cg fg I J A B) Q := by
  obtain ⟨d, rfl⟩ : ∃ e, d = e + 1 := ⟨d - 1, by omega⟩
  have hI := h
  obtain ⟨hok, ht, h101, hg, h1402, hws, h1701, hD, hpr, hch, hnd, hout, hft⟩ := h
  have h30 := hg.2.1.2.1
  obtain ⟨hv, hl14⟩ := pWords_v S.t S.n
  have none : ∀ (I' : Nat → Int32) (B' : Nat → Nat → Int64), ((pWords S.t S.n).length = 0 ∨ S.g.2.1.length = 0) → (∀ i, i ≠ 1403 → I' i = I i) → (∀ p, p ≠ 16 → B' p = B p) → Q (some (.int (-1))) (wC tgt cg fg (upd I' 101 0) J A B') := fun I' B' hc k1 k2 => by
    have := hQ cg (upd I' 101 0) A B' (Or.inl rfl)
    unfold stRead anRead at this
    rw [if_pos hc, if_pos hc] at this
    refine this ?_
    rw [← setT_id]
    exact xInv_t hI (tpX_0 _) (ue_i _ _ _) (fun i hi => by unfold kI at hi; rw [un_i (by omega)]; exact k1 i (by omega)) (fun _ _ => rfl) (fun p hp => k2 p (by unfold kB at hp; omega))
  refine e_X10_read (s_scan6 (t := S.t) (n := S.n) ht (by omega) h101 (fun I1 B1 h0 k1 k2 => b_X10_read_11 ?_) (fun I1 B1 h0 k3 k4 k1 k2 => b_X10_read_11 ?_))
  · rw [if_pos rfl]; exact none I1 B1 (Or.inl (by rw [h0]; rfl)) k1 k2
  · rw [if_neg (by decide)]
    have h3711 : I1 3711 = nI S.g.2.1.length := by rw [k1 3711 (by decide)]; exact hg.2.1.1
    refine if_eq h3711 (b := 0) rfl (by omega) (by omega) (fun e => none I1 B1 (Or.inr e) k1 k2) (fun e => ?_)
    have hnn : ¬ ((pWords S.t S.n).length = 0 ∨ S.g.2.1.length = 0) := fun q => by
      rcases q with q | q
      · exact h0 (List.length_eq_zero_iff.mp q)
      · exact e q
    unfold stRead anRead stRead at hQ
    rw [if_neg hnn, if_neg hnn] at hQ
    generalize pWords S.t S.n = ws at *
    have hwl : 1 ≤ ws.length := by omega
    refine s_keepScanned (m := ws.length) (by omega) (by rw [un_i (by decide)]; exact k3) hl14 (fun B2 k5 k6 => b_X10_read_43 ?_)
    refine s_clear1 (D := S.D) (by omega) (by rw [un_i (by decide), un_i (by decide), k1 1701 (by decide)]; exact h1701) hok.2.2.2.2.1 hD (fun I3 A3 c1 c2 c3 c4 c5 => b_X10_read_50 ?_)
    have f3 : ∀ i, i ≠ 101 → i ≠ 1402 → i ≠ 1403 → i ≠ 1701 → i ≠ 1702 → I3 i = I i := fun i a b c e f => by rw [c4 i e f, un_i b, un_i a]; exact k1 i c
    have hg4 : gC (upd I3 2505 0) A3 B2 S.g := gC_fr hg (fun i a b => by rw [un_i (by omega)]; exact f3 i (by omega) (by omega) (by omega) (by omega) (by omega)) (fun p a b => c5 p (by omega)) (fun p a b => by rw [k6 p (by omega)]; exact k2 p (by omega))
    have h1402' : upd I3 2505 0 1402 = nI ws.length := by rw [un_i (by decide), c4 1402 (by decide) (by decide), ue_i]
    have hw4 : ∀ k, k < ws.length → vNm (ws.getD k []) ∧ B2 15 k = lN (c32 (ws.getD k [])) := fun k hk => ⟨hv _ (getD_mem hk []), by rw [k5 k hk]; exact k4 k hk⟩
    refine s_fillC (g := S.g) (ws := ws) (D := []) (by omega) hok.1 hl14 h1402' c3 hg4 hw4 (fun I5 A5 B5 hno e1 e2 e3 => b_X10_read_69 ?_) (fun I5 A5 B5 hyes hcx e1 e2 e3 => b_X10_read_69 ?_)
    · have hob : ¬ okChB S.g ws = true := fun q => hno ((okChB_iff hl14).mp q)
      rw [if_neg hob, if_neg hob] at hQ
      rw [if_pos rfl]
      refine hQ (.ref 37) _ A5 B5 (Or.inr rfl) ?_
      have fI : ∀ i, i ≠ 101 → i ≠ 1402 → i ≠ 1403 → i ≠ 1701 → i ≠ 1702 → i ≠ 1908 → i ≠ 2505 → upd I5 1402 0 i = I i := fun i a b c e f x y => by rw [un_i b, e1 i x, un_i y]; exact f3 i a b c e f
      refine ⟨⟨hok.1, Nat.zero_le _, fun w hw => (nomatch hw), fun q => absurd rfl q, Nat.zero_le _, fun p hp => (nomatch hp), Nat.zero_le _, fun p hp => (nomatch hp), hok.2.2.2.2.2.2.2.2⟩, tpX_0 _, ?_, ?_, ue_i _ _ _, fun k hk => (by cases hk), ?_, ?_, ?_, fun q => absurd rfl q, ⟨?_, fun k hk => (by cases hk)⟩, ?_, ?_⟩
      · rw [un_i (by decide), e1 101 (by decide), un_i (by decide), c4 101 (by decide) (by decide), un_i (by decide), ue_i]; rfl
      · exact gC_fr hg (fun i a b => fI i (by omega) (by omega) (by omega) (by omega) (by omega) (by omega) (by omega)) (fun p a b => by rw [e2 p (by omega) (by omega) (by omega) (by omega)]; exact c5 p (by omega)) (fun p a b => by rw [e3 p (by omega), k6 p (by omega)]; exact k2 p (by omega))
      · rw [un_i (by decide), e1 1701 (by decide), un_i (by decide), c1]; rfl
      · exact drX_fr c3 (e2 18 (by decide) (by decide) (by decide) (by decide))
      · have e17 : I5 1702 = I3 1702 := by rw [e1 1702 (by decide), un_i (by decide)]
        have hI3 : I3 1702 = I 1702 ∨ I3 1702 = 0 := by
          rcases c2 with q | q
          · left; rw [q.1, un_i (by decide), un_i (by decide)]; exact k1 1702 (by decide)
          · exact Or.inr q
        rw [un_i (by decide), e17]
        rcases hI3 with q | q
        · rw [q]; exact hpr
        · exact Or.inl q
      · rw [un_i (by decide), e1 2505 (by decide), ue_i]; rfl
      · exact ⟨by rw [fI 10 (by decide) (by decide) (by decide) (by decide) (by decide) (by decide) (by decide)]; exact hout.1, fun k hk => by rw [e2 36 (by decide) (by decide) (by decide) (by decide), c5 36 (by decide)]; exact hout.2 k hk⟩
      · rw [fI 11 (by decide) (by decide) (by decide) (by decide) (by decide) (by decide) (by decide)]; exact hft
    · have hob : okChB S.g ws = true := (okChB_iff hl14).mpr hyes
      rw [if_pos hob, if_pos hob] at hQ
      rw [if_neg (by decide)]
      have fI : ∀ i, i ≠ 101 → i ≠ 1402 → i ≠ 1403 → i ≠ 1701 → i ≠ 1702 → i ≠ 1908 → i ≠ 2505 → upd I5 1702 1 i = I i := fun i a b c e f x y => by rw [un_i f, e1 i x, un_i y]; exact f3 i a b c e f
      have hinv : xInv (mkSt S.t 0 S.g ws [] [] S.out S.ft) (upd I5 1702 1) A5 B5 := by
        refine ⟨⟨hok.1, hl14, hv, fun _ => ⟨fun q => e (List.length_eq_zero_iff.mpr q), hyes⟩, Nat.zero_le _, fun p hp => (nomatch hp), Nat.zero_le _, fun p hp => (nomatch hp), hok.2.2.2.2.2.2.2.2⟩, tpX_0 _, ?_, ?_, ?_, fun k hk => ?_, ?_, ?_, Or.inr (ue_i _ _ _), fun _ => ⟨⟨[], hcx⟩, fun _ => hcx⟩, ⟨?_, fun k hk => (by cases hk)⟩, ?_, ?_⟩
        · rw [un_i (by decide), e1 101 (by decide), un_i (by decide), c4 101 (by decide) (by decide), un_i (by decide), ue_i]; rfl
        · exact gC_fr hg (fun i a b => fI i (by omega) (by omega) (by omega) (by omega) (by omega) (by omega) (by omega)) (fun p a b => by rw [e2 p (by omega) (by omega) (by omega) (by omega)]; exact c5 p (by omega)) (fun p a b => by rw [e3 p (by omega), k6 p (by omega)]; exact k2 p (by omega))
        · rw [un_i (by decide), e1 1402 (by decide)]; exact h1402'
        · rw [e3 15 (by decide)]; exact (hw4 k hk).2
        · rw [un_i (by decide), e1 1701 (by decide), un_i (by decide), c1]; rfl
        · exact drX_fr c3 (e2 18 (by decide) (by decide) (by decide) (by decide))
        · rw [un_i (by decide), e1 2505 (by decide), ue_i]; rfl
        · exact ⟨by rw [fI 10 (by decide) (by decide) (by decide) (by decide) (by decide) (by decide) (by decide)]; exact hout.1, fun k hk => by rw [e2 36 (by decide) (by decide) (by decide) (by decide), c5 36 (by decide)]; exact hout.2 k hk⟩
        · rw [fI 11 (by decide) (by decide) (by decide) (by decide) (by decide) (by decide) (by decide)]; exact hft
      refine ⟨Or.inr rfl, s_treeTotal (by omega) hinv (b_X10_read_95 ?_)⟩
      have hq := hQ (.ref 37) _ A5 B5 (Or.inr rfl) hinv
      have hsat := sat_le (trT (mkSt S.t 0 S.g ws [] [] S.out S.ft))
      generalize trT (mkSt S.t 0 S.g ws [] [] S.out S.ft) = X at hq hsat ⊢
      refine if_if (lg_le.trans (ln_le (b := 0) (by omega) (by omega))) (fun q => ?_) (fun q => ?_)
      · rw [if_neg (by unfold sat at q; omega)] at hq; exact hq
      · rw [if_pos (by unfold sat at q; omega)] at hq; exact hq
end C29
