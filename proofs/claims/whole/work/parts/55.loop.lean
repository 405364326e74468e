/-! ===== the class: the first rule that leads back ===== -/
section C15
variable {l : Launch} {J : Nat → Int64} {Q : Option Value → XW → Prop} {d : Nat} {tgt cg fg : Value} {I : Nat → Int32} {A : Nat → Nat → Int32} {B : Nat → Nat → Int64}
theorem s_firstLoop (hd : 3 ≤ d) {rs : List Rule} {nc : Nat} (hr : rulX I A rs) (h12 : I 4812 = nI nc) (hnc : nc ≤ 16) (hs : ∀ R ∈ rs, R.1 < nc ∧ R.2.1 < nc)
    (hN : ∀ (A' : Nat → Nat → Int32), (∀ i, i < rs.length → lpR (clos rs) (rs.getD i dR) = false) → rowX A' (clos rs) → (∀ p, p ≠ 57 → A' p = A p) → Q (some (.int (-1))) (wC tgt cg fg I J A' B))
    (hY : ∀ r (A' : Nat → Nat → Int32), r < rs.length → (∀ i, i < r → lpR (clos rs) (rs.getD i dR) = false) → lpR (clos rs) (rs.getD r dR) = true → (∀ p, p ≠ 57 → A' p = A p) → Q (some (.int (nI r))) (wC tgt cg fg I J A' B)) : xK l d 48 [.ref 48] (wC tgt cg fg I J A B) Q := by
  obtain ⟨d, rfl⟩ : ∃ e, d = e + 1 := ⟨d - 1, by omega⟩
  refine e_X3_firstLoop (s_closeReach (by omega) hr h12 hnc hs (fun A1 hrow hA => b_X3_firstLoop_4 ?_))
  obtain ⟨h11, h30, h3⟩ := hr
  have loop : ∀ m r, rs.length - r < m → r ≤ rs.length → (∀ i, i < r → lpR (clos rs) (rs.getD i dR) = false) → xG l d 48 Q 6 [some (.ref 48), some (.int (nI r)), none] [] (wC tgt cg fg I J A1 B) 0 0 := by
    intro m
    induction m with
    | zero => intro r hm; exact absurd hm (by omega)
    | succ m ih =>
      intro r hm hrl hno
      refine b_X3_firstLoop_6 (if_le h11 rfl (by omega) (by omega) (fun g => hN A1 (fun i hi => hno i (by omega)) hrow hA) (fun g => ?_))
      obtain ⟨g1, g2, g3, g4, g5, g6⟩ := h3 r g
      have hmem : rs.getD r dR ∈ rs := by rw [gD_lt g]; exact List.getElem_mem g
      have hsr := hs _ hmem
      have next : lpR (clos rs) (rs.getD r dR) = false → xG l d 48 Q 6 [some (.ref 48), some (.int (nI (r + 1))), none] [] (wC tgt cg fg I J A1 B) 0 0 := fun hf => ih (r + 1) (by omega) (by omega) (fun i hi => by
        by_cases z : i = r
        · rw [z]; exact hf
        · exact hno i (by omega))
      have hyes := hY r A1 g hno
      unfold lpR at next hyes
      generalize rs.getD r dR = R at *
      refine s_isSingle2 (by omega) rfl (by omega) (o := R.2.2.1) (by rw [hA 53 (by decide)]; exact g4) g1.2.2.1 (b_X3_firstLoop_19 (if_bI rfl (fun e => ?_) (fun e => ?_)))
      · rw [nI_1]
        refine next ?_
        cases ho : R.2.2.1 with
        | none => rw [ho] at e; cases e
        | some c => simp
      · have ho : R.2.2.1 = none := by
          cases ho : R.2.2.1 with
          | none => rfl
          | some c => rw [ho] at e; cases e
        have e51 : A1 51 (nI r).toNatClampNeg = nI R.1 := by rw [cl_n (by omega), hA 51 (by decide)]; exact g2
        have e52 : A1 52 (nI r).toNatClampNeg = nI R.2.1 := by rw [cl_n (by omega), hA 52 (by decide)]; exact g3
        refine ⟨xin_of rfl (by omega) (by omega), xin_of rfl (by omega) (by omega), ?_⟩
        rw [e51, e52]
        refine if_eq rfl rfl (by omega) (by omega) (fun z => ?_) (fun z => ⟨xin_of rfl (by omega) (by omega), ?_⟩)
        · exact hyes (by rw [ho]; simp [z]) hA
        · refine s_reaches (by omega) hrow rfl rfl (by omega) (by omega) (b_X3_firstLoop_50 (if_bI rfl (fun f => ?_) (fun f => ?_)))
          · rw [nI_1]; exact next (by rw [f]; simp [z])
          · exact hyes (by rw [ho, f]; simp) hA
  exact loop (rs.length + 1) 0 (by omega) (by omega) (fun i hi => absurd hi (by omega))
end C15
/-! ===== categories of a text are among its categories ===== -/
def supR (rs : List Rule) (nc : Nat) : Prop := ∀ R ∈ rs, R.1 < nc ∧ R.2.1 < nc ∧ ∀ c, R.2.2.1 = some c → c < nc
def supE (es : List Entry) (nc : Nat) : Prop := ∀ E ∈ es, E.2.1 < nc
theorem pCat_sup {t : Nat → Nat} {n j c : Nat} {cats cats' : List (List Nat)} (h : pCat t n j cats = .inr (c, cats')) : c < cats'.length ∧ cats.length ≤ cats'.length := by
  unfold pCat at h
  split at h
  · cases h
  · split at h
    · rename_i z
      injection h with h; injection h with h1 h2
      subst h1; subst h2; exact ⟨z, Nat.le_refl _⟩
    · split at h
      · cases h
      · injection h with h; injection h with h1 h2
        subst h1; subst h2; rw [List.length_append]; simp
theorem sbd_inr {α β : Type} {x : (Nat × Nat) ⊕ α} {f : α → (Nat × Nat) ⊕ β} {b : β} (h : sbd x f = .inr b) : ∃ a, x = .inr a ∧ f a = .inr b := by
  cases x with
  | inl e => cases h
  | inr a => exact ⟨a, rfl, h⟩
theorem pEnt_sup {t : Nat → Nat} {n j ec : Nat} {cats : List (List Nat)} {q : Entry × List (List Nat) × Nat} (h : pEnt t n j ec cats = .inr q) : q.1.2.1 < q.2.1.length ∧ cats.length ≤ q.2.1.length := by
  unfold pEnt at h
  split at h
  · cases h
  · split at h
    · cases h
    · obtain ⟨a, h1, h2⟩ := sbd_inr h
      obtain ⟨b, h3, h4⟩ := sbd_inr h2
      injection h4 with h4; subst h4
      exact pCat_sup (c := a.1) (cats' := a.2) h1
theorem pRule_sup {t : Nat → Nat} {n j rc : Nat} {cats : List (List Nat)} {q : Rule × List (List Nat) × Nat} (h : pRule t n j rc cats = .inr q) : (q.1.1 < q.2.1.length ∧ q.1.2.1 < q.2.1.length ∧ ∀ c, q.1.2.2.1 = some c → c < q.2.1.length) ∧ cats.length ≤ q.2.1.length := by
  unfold pRule at h
  split at h
  · cases h
  · obtain ⟨a, h1, h2⟩ := sbd_inr h
    have s1 := pCat_sup (c := a.1) (cats' := a.2) h1
    split at h2
    · cases h2
    · obtain ⟨b, h3, h4⟩ := sbd_inr h2
      have s2 := pCat_sup (c := b.1) (cats' := b.2) h3
      split at h4
      · obtain ⟨c, h5, h6⟩ := sbd_inr h4
        have s3 := pCat_sup (c := c.1) (cats' := c.2) h5
        obtain ⟨e, h7, h8⟩ := sbd_inr h6
        injection h8 with h8; subst h8
        refine ⟨⟨by show a.1 < c.2.length; omega, by show b.1 < c.2.length; omega, fun x hx => ?_⟩, by show cats.length ≤ c.2.length; omega⟩
        have hx : some c.1 = some x := hx
        injection hx with hx; subst hx; exact s3.1
      · obtain ⟨e, h7, h8⟩ := sbd_inr h4
        injection h8 with h8; subst h8
        exact ⟨⟨by show a.1 < b.2.length; omega, s2.1, fun x hx => by cases hx⟩, by show cats.length ≤ b.2.length; omega⟩
theorem supR_app {rs : List Rule} {R : Rule} {a b : Nat} (h : supR rs a) (hab : a ≤ b) (hR : R.1 < b ∧ R.2.1 < b ∧ ∀ c, R.2.2.1 = some c → c < b) : supR (rs ++ [R]) b := by
  intro x hx
  rcases List.mem_append.mp hx with z | z
  · have := h x z
    exact ⟨by omega, by omega, fun c hc => by have := this.2.2 c hc; omega⟩
  · rw [List.mem_singleton.mp z]; exact hR
theorem supR_mono {rs : List Rule} {a b : Nat} (h : supR rs a) (hab : a ≤ b) : supR rs b := fun x hx => ⟨by have := h x hx; omega, by have := h x hx; omega, fun c hc => by have := (h x hx).2.2 c hc; omega⟩
theorem supE_app {es : List Entry} {E : Entry} {a b : Nat} (h : supE es a) (hab : a ≤ b) (hE : E.2.1 < b) : supE (es ++ [E]) b := by
  intro x hx
  rcases List.mem_append.mp hx with z | z
  · have := h x z; omega
  · rw [List.mem_singleton.mp z]; exact hE
theorem supE_mono {es : List Entry} {a b : Nat} (h : supE es a) (hab : a ≤ b) : supE es b := fun x hx => by have := h x hx; omega
