/-! ===== a new grammar, both sides ===== -/
theorem gM_pt {I I' : Nat → Int32} {A A' : Nat → Nat → Int32} {B B' : Nat → Nat → Int64} {g : Gram} (h : gM I A B g) (hI : ∀ i, 22 ≤ i → i ≤ 24 → I' i = I i) (hA1 : ∀ p i, 4 ≤ p → p ≤ 5 → i < 40 → A' p i = A p i) (hA2 : ∀ p i, 6 ≤ p → p ≤ 9 → i < 30 → A' p i = A p i) (hA3 : ∀ i, i < 240 → A' 11 i = A 11 i) (hA4 : A' 13 = A 13) (hB1 : ∀ i, i < 40 → B' 2 i = B 2 i) (hB2 : ∀ i, i < 16 → B' 3 i = B 3 i) : gM I' A' B' g := by
  obtain ⟨h1, h2, h3, h4, h5, h6, h7⟩ := h
  refine ⟨by rw [hI 22 (by omega) (by omega)]; exact h1, by rw [hI 23 (by omega) (by omega)]; exact h2, by rw [hI 24 (by omega) (by omega)]; exact h3, ⟨h4.1, fun e he => ⟨(h4.2 e he).1, ?_⟩⟩, ⟨h5.1, fun r hr => ⟨(h5.2 r hr).1, ?_⟩⟩, ⟨h6.1, fun c hc => ?_⟩, fun k hk => by rw [hA4]; exact h7 k hk⟩
  · have := h4.1
    have q := (h4.2 e he).2
    unfold entAt at q ⊢
    rw [hB1 _ (by omega), hA1 4 _ (by omega) (by omega) (by omega), hA1 5 _ (by omega) (by omega) (by omega)]; exact q
  · have := h5.1
    have q := (h5.2 r hr).2
    have h8 := (h5.2 r hr).1.2.2.2.1
    unfold rulAt at q ⊢
    rw [hA2 6 _ (by omega) (by omega) (by omega), hA2 7 _ (by omega) (by omega) (by omega), hA2 8 _ (by omega) (by omega) (by omega), hA2 9 _ (by omega) (by omega) (by omega)]
    refine ⟨q.1, q.2.1, q.2.2.1, q.2.2.2.1, fun k hk => ?_⟩
    rw [hA3 _ (by omega)]; exact q.2.2.2.2 k hk
  · have := h6.1
    rw [hB2 c (by omega)]; exact h6.2 c hc
theorem pGram_G {t : Nat → Nat} {n : Nat} {g : Gram} (h : pGram t n = .inr g) : okG g := by
  unfold pGram at h
  obtain ⟨a, h1, h2⟩ := sbd_inr h
  cases hf : a.2.1.find? (lpR (clos a.2.1)) with
  | some R => rw [hf] at h2; cases h2
  | none =>
    rw [hf] at h2; injection h2 with h2; subst h2
    have := pText_sup (fun _ hx => absurd hx (by simp)) (fun _ hx => absurd hx (by simp)) h1
    exact ⟨this.1, this.2, hf⟩
def stGr (S : St) : St := match pGram S.t S.n with
  | .inl e => mkSt S.t 0 S.g S.ws S.D S.nd S.out e.1
  | .inr g => mkSt S.t 0 g [] [] [] S.out 0
def anGr (S : St) : Int32 := match pGram S.t S.n with
  | .inl e => -1 - nI e.2
  | .inr g => nI (g.1.length + g.2.1.length)
theorem all_getD {α : Type} {l : List α} {P : α → Prop} (d : α) (h : ∀ i, i < l.length → P (l.getD i d)) : ∀ a ∈ l, P a := fun a ha => by
  obtain ⟨i, hi, e⟩ := mem_getD ha d
  rw [← e]; exact h i hi
section E5
variable {l : Launch} {J : Nat → Int64} {A : Nat → Nat → Int32} {B : Nat → Nat → Int64} {Q : Option Value → XW → Prop} {d : Nat} {I : Nat → Int32} {S : St} {tgt cg fg : Value}
theorem m_grammar (hd : 7 ≤ d) (h : mInv S I A B) (hQ : ∀ (I' : Nat → Int32) (J' : Nat → Int64) (A' : Nat → Nat → Int32) (B' : Nat → Nat → Int64), mInv (stGr S) I' A' B' → Q (some (.int (anGr S))) (wM I' J' A' B')) : xK l d 147 [.ref 0] (wM I J A B) Q := by
  obtain ⟨hok, ht, h2, hg, h28, h32, hws, hdr, hch, hnd, hout, hft⟩ := h
  unfold stGr anGr at hQ
  refine s_grammar (t := S.t) (n := S.n) ht hd h2 (fun k pl I' J' A' B' hp k0 k2 k10 kI kJ kA kB => ?_) (fun g I' J' A' B' hp hg' k0 k2 k10 k28 k32 k39 k48 k53 kJ kA kB => ?_)
  · rw [hp] at hQ
    have fI : ∀ i, 22 ≤ i → i ≠ 25 → i ≠ 26 → i ≠ 27 → I' i = I i := fun i a b c e => kI i (by omega) (by omega) (by omega) (by omega) (by omega) (by omega) (by omega) (by omega) (by omega) (by omega) b c e
    have fA : ∀ p, 13 ≤ p → A' p = A p := fun p a => by funext i; exact kA p i (by omega) (by omega) (by omega) (by omega)
    have fB : ∀ p, 15 ≤ p → B' p = B p := fun p a => by funext i; exact kB p i (by omega) (by omega)
    refine hQ I' J' A' B' ⟨⟨hok.1, hok.2.1, hok.2.2.1, hok.2.2.2.1, hok.2.2.2.2.1, hok.2.2.2.2.2.1, hok.2.2.2.2.2.2.1, hok.2.2.2.2.2.2.2.1, hok.2.2.2.2.2.2.2.2.1, hok.2.2.2.2.2.2.2.2.2.1, rfl, hok.2.2.2.2.2.2.2.2.2.2.2⟩, tpM_0 _, k2, gM_pt hg (fun i a b => fI i (by omega) (by omega) (by omega) (by omega)) (fun p i a b c => kA p i (by omega) (by omega) (by omega) (by omega)) (fun p i a b c => kA p i (by omega) (by omega) (by omega) (by omega)) (fun i a => kA 11 i (by omega) (by omega) (by omega) (by omega)) (fA 13 (by omega)) (fun i a => kB 2 i (by omega) (by omega)) (fun i a => kB 3 i (by omega) (by omega)), fun q => h28 (by rw [← fI 28 (by omega) (by omega) (by omega) (by omega)]; exact q), (fI 32 (by omega) (by omega) (by omega) (by omega)).trans h32, fun k hk => by rw [fB 15 (by omega)]; exact hws k hk, mDr_fr hdr (fI 48 (by omega) (by omega) (by omega) (by omega)) (fun p a b => fA p (by omega)), fun e => chM_fr (hch e) (fA 17 (by omega)) (fA 18 (by omega)) (fB 20 (by omega)), mNd_fr hnd (fI 39 (by omega) (by omega) (by omega) (by omega)) (fun p a b => fA p (by omega)), ⟨(fI 53 (by omega) (by omega) (by omega) (by omega)).trans hout.1, fun k hk => by rw [fA 30 (by omega)]; exact hout.2 k hk⟩, k10⟩
  · rw [hp] at hQ
    have hgk : gOk g := ⟨all_getD dE (fun e he => (hg'.2.2.2.1.2 e he).1), all_getD dR (fun r hr => (hg'.2.2.2.2.1.2 r hr).1), hg'.2.2.2.2.2.1.1, pGram_G hp⟩
    refine hQ I' J' A' B' ⟨⟨hgk, Nat.zero_le _, fun w hw => absurd hw (List.not_mem_nil), fun q => absurd rfl q, Nat.zero_le _, fun w hw => absurd hw (List.not_mem_nil), Nat.zero_le _, fun w hw => absurd hw (List.not_mem_nil), hok.2.2.2.2.2.2.2.2.1, hok.2.2.2.2.2.2.2.2.2.1, rfl, pGram_ct hp⟩, tpM_0 _, k2, hg', fun q => by rw [k28] at q; exact absurd q (by decide), k32, fun k hk => absurd hk (Nat.not_lt_zero k), ⟨k48, fun k hk => absurd hk (Nat.not_lt_zero k)⟩, fun q => absurd rfl q, ⟨k39, fun k hk => absurd hk (Nat.not_lt_zero k)⟩, ⟨k53.trans hout.1, fun k hk => by rw [kA 30 (by omega)]; exact hout.2 k hk⟩, k10⟩
theorem x_grammar (hd : 8 ≤ d) (h : xInv S I A B)
    (hE : ∀ (I' : Nat → Int32) (A' : Nat → Nat → Int32) (B' : Nat → Nat → Int64), xInv (stGr S) I' A' B' → Q (some (.int (anGr S))) (wC (.ref 48) cg fg I' J A' B'))
    (hO : ∀ (I' : Nat → Int32) (A' : Nat → Nat → Int32) (B' : Nat → Nat → Int64), xInv (stGr S) (swI I') (swA A') (swA B') → Q (some (.int (anGr S))) (wX (.ref 48) (.ref 37) (.ref 48) cg fg I' J A' B')) : xK l d 94 [.ref 0] (wC tgt cg fg I J A B) Q := by
  obtain ⟨d, rfl⟩ : ∃ e, d = e + 1 := ⟨d - 1, by omega⟩
  obtain ⟨hok, ht, h101, hg, h1402, hws, h1701, hD, hpr, hch, hnd, hout, hft⟩ := h
  unfold stGr anGr at hE hO
  refine e_X10_grammar (s_readInto (t := S.t) (n := S.n) ht (by omega) h101 (fun k pl I' A' B' hp k4 k5 kI kA kB => b_X10_grammar_11 ?_) (fun g I' A' B' hp hg' hgG k4 kI kA kB => b_X10_grammar_11 ?_))
  · rw [if_pos rfl]
    rw [hp] at hE
    rw [k4, k5]
    have fI : ∀ i, i ≠ 11 → i ≠ 101 → i ≠ 302 → i ≠ 304 → i ≠ 305 → i ≠ 404 → i ≠ 805 → i < 4800 → upd (upd I' 11 (nI k)) 101 0 i = I i := fun i a b c e f g x y => by rw [un_i b, un_i a]; exact kI i c e f g x y
    refine hE _ A' B' ⟨⟨hok.1, hok.2.1, hok.2.2.1, hok.2.2.2.1, hok.2.2.2.2.1, hok.2.2.2.2.2.1, hok.2.2.2.2.2.2.1, hok.2.2.2.2.2.2.2.1, hok.2.2.2.2.2.2.2.2.1, hok.2.2.2.2.2.2.2.2.2.1, rfl, hok.2.2.2.2.2.2.2.2.2.2.2⟩, tpX_0 _, ue_i _ _ _, gC_fr hg (fun i a b => fI i (by omega) (by omega) (by omega) (by omega) (by omega) (by omega) (by omega) (by omega)) (fun p a b => kA p (by omega) (by omega) (by omega) (by omega)) (fun p a b => kB p (by omega) (by omega)), (fI 1402 (by omega) (by omega) (by omega) (by omega) (by omega) (by omega) (by omega) (by omega)).trans h1402, fun k hk => by rw [kB 15 (by omega) (by omega)]; exact hws k hk, (fI 1701 (by omega) (by omega) (by omega) (by omega) (by omega) (by omega) (by omega) (by omega)).trans h1701, drX_fr hD (kA 18 (by omega) (by omega) (by omega) (by omega)), by rw [fI 1702 (by omega) (by omega) (by omega) (by omega) (by omega) (by omega) (by omega) (by omega)]; exact hpr, fun e => ?_, xNd_fr hnd (fI 2505 (by omega) (by omega) (by omega) (by omega) (by omega) (by omega) (by omega) (by omega)) (fun p a b => kA p (by omega) (by omega) (by omega) (by omega)), ⟨(fI 10 (by omega) (by omega) (by omega) (by omega) (by omega) (by omega) (by omega) (by omega)).trans hout.1, fun k hk => by rw [kA 36 (by omega) (by omega) (by omega) (by omega)]; exact hout.2 k hk⟩, by rw [un_i (by decide), ue_i]; rfl⟩
    obtain ⟨⟨D', q1⟩, q2⟩ := hch e
    refine ⟨⟨D', chX_fr q1 (fun p a b => kA p (by omega) (by omega) (by omega) (by omega)) (kB 22 (by omega) (by omega))⟩, fun q => chX_fr (q2 ?_) (fun p a b => kA p (by omega) (by omega) (by omega) (by omega)) (kB 22 (by omega) (by omega))⟩
    rw [fI 1702 (by omega) (by omega) (by omega) (by omega) (by omega) (by omega) (by omega) (by omega)] at q; exact q
  · rw [if_neg (by decide)]
    rw [hp] at hO
    rw [k4]
    have fI : ∀ i, i ≠ 11 → i ≠ 101 → i ≠ 302 → i ≠ 304 → i ≠ 305 → i ≠ 404 → i ≠ 805 → i ≠ 1402 → i < 4800 → upd (upd (upd I' 11 0) 101 0) 1402 0 i = I i := fun i a b c e f g x z y => by rw [un_i z, un_i b, un_i a]; exact kI i c e f g x y
    have j1402 : upd (upd (upd I' 11 0) 101 0) 1402 0 1402 = 0 := ue_i _ _ _
    have j101 : upd (upd (upd I' 11 0) 101 0) 1402 0 101 = 0 := by rw [un_i (by decide), ue_i]
    have j11 : upd (upd (upd I' 11 0) 101 0) 1402 0 11 = 0 := by rw [un_i (by decide), un_i (by decide), ue_i]
    have hgx : gX (upd (upd (upd I' 11 0) 101 0) 1402 0) A' B' g := by
      obtain ⟨q1, q2, q3, q4⟩ := hg'
      exact ⟨⟨by rw [un_i (by decide), un_i (by decide), un_i (by decide)]; exact q1.1, q1.2⟩, ⟨by rw [un_i (by decide), un_i (by decide), un_i (by decide)]; exact q2.1, q2.2⟩, ⟨by rw [un_i (by decide), un_i (by decide), un_i (by decide)]; exact q3.1, q3.2⟩, ⟨by rw [un_i (by decide), un_i (by decide), un_i (by decide)]; exact q4.1, q4.2⟩⟩
    generalize upd (upd (upd I' 11 0) 101 0) 1402 0 = I1 at fI j1402 j101 j11 hgx ⊢
    refine s_clear1 (D := S.D) (by omega) (by rw [fI 1701 (by omega) (by omega) (by omega) (by omega) (by omega) (by omega) (by omega) (by omega) (by omega)]; exact h1701) hok.2.2.2.2.1 (drX_fr hD (kA 18 (by omega) (by omega) (by omega) (by omega))) (fun I2 A2 c1 c2 c3 c4 c5 => b_X10_grammar_78 ?_)
    have hgx2 : gX (upd I2 2505 0) A2 B' g := by
      obtain ⟨q1, q2, q3, q4⟩ := hgx
      refine ⟨⟨by rw [un_i (by decide), c4 4810 (by decide) (by decide)]; exact q1.1, q1.2.1, fun e he => by rw [c5 50 (by decide)]; exact q1.2.2 e he⟩, ⟨by rw [un_i (by decide), c4 4811 (by decide) (by decide)]; exact q2.1, q2.2.1, fun r hr => ?_⟩, ⟨by rw [un_i (by decide), c4 4812 (by decide) (by decide)]; exact q3.1, q3.2⟩, ⟨by rw [un_i (by decide), c4 4813 (by decide) (by decide)]; exact q4.1, fun k hk => by rw [c5 58 (by decide)]; exact q4.2 k hk⟩⟩
      have := q2.2.2 r hr
      unfold rulY tabR at this ⊢
      rw [c5 51 (by decide), c5 52 (by decide), c5 53 (by decide), c5 54 (by decide), c5 55 (by decide)]; exact this
    have hgc := gX_gC hgx2
    have hgk : gOk g := ⟨all_getD dE (fun e he => (hg'.1.2.2 e he).1), all_getD dR (fun r hr => (hg'.2.1.2.2 r hr).1), hg'.2.2.1.2.1, hgG⟩
    have hsw : ∀ (I' : Nat → Int32) i, i < 3700 → swI I' i = I' i := fun I' i hi => by unfold swI; rw [if_neg (by omega), if_neg (by omega)]
    have hswA : ∀ (A' : Nat → Nat → Int32) i, i < 37 → swA A' i = A' i := fun A' i hi => by unfold swA; rw [if_neg (by omega), if_neg (by omega)]
    have e10 : I2 4810 = nI g.1.length := by rw [c4 4810 (by decide) (by decide)]; exact hgx.1.1
    have e11 : I2 4811 = nI g.2.1.length := by rw [c4 4811 (by decide) (by decide)]; exact hgx.2.1.1
    rw [e10, e11, nI_add]
    refine hO _ A2 B' ⟨⟨hgk, Nat.zero_le _, fun w hw => absurd hw (List.not_mem_nil), fun q => absurd rfl q, Nat.zero_le _, fun w hw => absurd hw (List.not_mem_nil), Nat.zero_le _, fun w hw => absurd hw (List.not_mem_nil), hok.2.2.2.2.2.2.2.2.1, hok.2.2.2.2.2.2.2.2.2.1, rfl, pGram_ct hp⟩, tpX_0 _, ?_, hgc, ?_, fun k hk => absurd hk (Nat.not_lt_zero k), ?_, ?_, ?_, fun q => absurd rfl q, ⟨?_, fun k hk => absurd hk (Nat.not_lt_zero k)⟩, ⟨?_, fun k hk => ?_⟩, ?_⟩
    · rw [hsw _ _ (by omega), un_i (by decide), c4 101 (by decide) (by decide), j101]; rfl
    · rw [hsw _ _ (by omega), un_i (by decide), c4 1402 (by decide) (by decide), j1402]; rfl
    · rw [hsw _ _ (by omega), un_i (by decide), c1]; rfl
    · exact drX_fr c3 (hswA _ _ (by omega))
    · rw [hsw _ _ (by omega), un_i (by decide)]
      rcases c2 with q | q
      · rw [q.1, fI 1702 (by omega) (by omega) (by omega) (by omega) (by omega) (by omega) (by omega) (by omega) (by omega)]; exact hpr
      · exact Or.inl q
    · rw [hsw _ _ (by omega), ue_i]; rfl
    · rw [hsw _ _ (by omega), un_i (by decide), c4 10 (by decide) (by decide), fI 10 (by omega) (by omega) (by omega) (by omega) (by omega) (by omega) (by omega) (by omega) (by omega)]; exact hout.1
    · rw [hswA _ _ (by omega), c5 36 (by decide), kA 36 (by omega) (by omega) (by omega) (by omega)]; exact hout.2 k hk
    · rw [hsw _ _ (by omega), un_i (by decide), c4 11 (by decide) (by decide), j11]; rfl
end E5
