/-! ===== the class: no loops ===== -/
theorem find_at {rs : List Rule} {p : Rule → Bool} {r : Nat} (hr : r < rs.length) (hno : ∀ i, i < r → p (rs.getD i dR) = false) (hy : p (rs.getD r dR) = true) : rs.find? p = some (rs.getD r dR) := by
  rw [List.find?_eq_some_iff_getElem]
  refine ⟨hy, r, hr, (gD_lt hr dR).symm, fun i hi => ?_⟩
  have := hno i hi
  rw [gD_lt (by omega)] at this
  simp [this]
theorem find_not {rs : List Rule} {p : Rule → Bool} (hno : ∀ i, i < rs.length → p (rs.getD i dR) = false) : rs.find? p = none := by
  rw [List.find?_eq_none]
  intro R hR
  obtain ⟨i, hi, rfl⟩ := List.getElem_of_mem hR
  have := hno i hi
  rw [gD_lt hi] at this
  simp [this]
section C19
variable {l : Launch} {J : Nat → Int64} {Q : Option Value → XW → Prop} {d : Nat} {cg fg : Value} {I : Nat → Int32} {A : Nat → Nat → Int32} {B : Nat → Nat → Int64}
theorem s_isLoopless (hd : 4 ≤ d) {rs : List Rule} {nc : Nat} (hr : rulX I A rs) (h12 : I 4812 = nI nc) (hnc : nc ≤ 16) (hs : ∀ R ∈ rs, R.1 < nc ∧ R.2.1 < nc)
    (hE : ∀ R (I' : Nat → Int32) (A' : Nat → Nat → Int32), rs.find? (lpR (clos rs)) = some R → I' 304 = nI 4 → I' 305 = nI R.2.2.2.2 → (∀ i, i ≠ 304 → i ≠ 305 → I' i = I i) → (∀ p, p ≠ 57 → A' p = A p) → Q (some (.int 0)) (wC (.ref 48) cg fg I' J A' B))
    (hO : ∀ (I' : Nat → Int32) (A' : Nat → Nat → Int32), rs.find? (lpR (clos rs)) = none → rowX A' (clos rs) → lstX I' A' (sgL (clos rs) rs) → (∀ i, i ≠ 4813 → I' i = I i) → (∀ p, p ≠ 57 → p ≠ 58 → A' p = A p) → Q (some (.int 1)) (wC (.ref 48) cg fg I' J A' B)) : xK l d 54 [.ref 3] (wC (.ref 48) cg fg I J A B) Q := by
  obtain ⟨d, rfl⟩ : ∃ e, d = e + 1 := ⟨d - 1, by omega⟩
  have h30 := hr.2.1
  refine e_X4_isLoopless (s_firstLoop (by omega) hr h12 hnc hs (fun A1 hno hrow hA => ?_) (fun r A1 hrl hno hy hA => ?_))
  · refine b_X4_isLoopless_7 ?_
    rw [if_pos (by decide)]
    have hr1 : rulX I A1 rs := by
      refine ⟨hr.1, h30, fun r hr' => ?_⟩
      have := hr.2.2 r hr'
      unfold rulY tabR at this ⊢
      rw [hA 51 (by decide), hA 52 (by decide), hA 53 (by decide), hA 54 (by decide), hA 55 (by decide)]; exact this
    refine s_orderSingles (by omega) hr1 hrow (fun I2 A2 hL hI2 hA2 => b_X4_isLoopless_39 ⟨Or.inr rfl, hO I2 A2 (find_not hno) (fun a ha => ?_) hL hI2 (fun p a b => ?_)⟩)
    · rw [hA2 57 (by decide)]; exact hrow a ha
    · rw [hA2 p b]; exact hA p a
  · refine b_X4_isLoopless_7 (if_lt (b := 0) rfl rfl (by omega) (by omega) (fun z => absurd z (by omega)) (fun _ => ⟨xin_of rfl (by omega) (by omega), ⟨Or.inl rfl, hE _ _ A1 (find_at hrl hno hy) ?_ ?_ (fun i a b => ?_) hA⟩⟩))
    · rw [un_i (by decide), ue_i]; rfl
    · rw [ue_i, cl_n (by omega), hA 54 (by decide)]; exact (hr.2.2 r hrl).2.2.2.2.1
    · rw [un_i b, un_i a]
end C19
/-- the categories of a text -/
theorem pText_sup {t : Nat → Nat} {n : Nat} : ∀ {m j : Nat} {es : List Entry} {rs : List Rule} {cats : List (List Nat)} {g : Gram}, supE es cats.length → supR rs cats.length → pText t n m j es rs cats = .inr g → supE g.1 g.2.2.length ∧ supR g.2.1 g.2.2.length
  | 0, _, _, _, _, _, _, _, h => by cases h
  | m + 1, j, es, rs, cats, g, hE, hR, h => by
    unfold pText at h
    split at h
    · obtain ⟨q, h1, h2⟩ := sbd_inr h
      have s := pEnt_sup h1
      split at h2
      · cases h2
      · split at h2
        · injection h2 with h2; subst h2
          exact ⟨supE_app hE s.2 s.1, supR_mono hR s.2⟩
        · exact pText_sup (supE_app hE s.2 s.1) (supR_mono hR s.2) h2
    · split at h
      · obtain ⟨q, h1, h2⟩ := sbd_inr h
        have s := pRule_sup h1
        split at h2
        · cases h2
        · split at h2
          · injection h2 with h2; subst h2
            exact ⟨supE_mono hE s.2, supR_app hR s.2 s.1⟩
          · exact pText_sup (supE_mono hE s.2) (supR_app hR s.2 s.1) h2
      · cases h
