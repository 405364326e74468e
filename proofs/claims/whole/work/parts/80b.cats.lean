/-! ===== names of categories: never empty, never a keyword ===== -/
def okCt (cats : List (List Nat)) : Prop := ∀ w ∈ cats, w ≠ [] ∧ isKw w = false
theorem tkN_ne {t : Nat → Nat} {n p : Nat} (h : tkK t n p = 2) : tkN t n p ≠ [] := by
  have h3 : ¬ n ≤ tqS t n p ∧ isLD (t (tqS t n p)) = true := by
    unfold tkK at h
    split at h
    · omega
    · split at h
      · omega
      · rename_i h1
        split at h
        · rename_i h2; exact ⟨h1, h2⟩
        · split at h <;> omega
  have h4 := skN_yes (fun i => isLD (t i)) (n := n) (k := tqS t n p) (by omega) h3.2
  have h5 := skN_ge (fun i => isLD (t i)) n (tqS t n p + 1)
  intro z
  have := congrArg List.length z
  unfold tkN ltr at this
  rw [List.length_map, List.length_range] at this
  simp at this
  omega
theorem pCat_ct {t : Nat → Nat} {n j c : Nat} {cats cats' : List (List Nat)} (h : pCat t n j cats = .inr (c, cats')) (hc : okCt cats) : okCt cats' := by
  unfold pCat at h
  split at h
  · cases h
  · rename_i hf
    split at h
    · injection h with h; injection h with h1 h2; subst h2; exact hc
    · split at h
      · cases h
      · injection h with h; injection h with h1 h2
        subst h2
        intro w hw
        rcases List.mem_append.mp hw with z | z
        · exact hc w z
        · rw [List.mem_singleton] at z; subst z
          have hf' : tFree t n j = true := by simpa using hf
          unfold tFree at hf'
          rw [Bool.and_eq_true] at hf'
          have hk : tkK t n (tP t n j) = 2 := by simpa using hf'.1
          exact ⟨tkN_ne hk, by simpa using hf'.2⟩
theorem pEnt_ct {t : Nat → Nat} {n j ec : Nat} {cats : List (List Nat)} {q : Entry × List (List Nat) × Nat} (h : pEnt t n j ec cats = .inr q) (hc : okCt cats) : okCt q.2.1 := by
  unfold pEnt at h
  split at h
  · cases h
  · split at h
    · cases h
    · obtain ⟨a, h1, h2⟩ := sbd_inr h
      obtain ⟨b, h3, h4⟩ := sbd_inr h2
      injection h4 with h4; subst h4
      exact pCat_ct (c := a.1) (cats' := a.2) h1 hc
theorem pRule_ct {t : Nat → Nat} {n j rc : Nat} {cats : List (List Nat)} {q : Rule × List (List Nat) × Nat} (h : pRule t n j rc cats = .inr q) (hc : okCt cats) : okCt q.2.1 := by
  unfold pRule at h
  split at h
  · cases h
  · obtain ⟨a, h1, h2⟩ := sbd_inr h
    have s1 := pCat_ct (c := a.1) (cats' := a.2) h1 hc
    split at h2
    · cases h2
    · obtain ⟨b, h3, h4⟩ := sbd_inr h2
      have s2 := pCat_ct (c := b.1) (cats' := b.2) h3 s1
      split at h4
      · obtain ⟨c, h5, h6⟩ := sbd_inr h4
        have s3 := pCat_ct (c := c.1) (cats' := c.2) h5 s2
        obtain ⟨e, h7, h8⟩ := sbd_inr h6
        injection h8 with h8; subst h8
        exact s3
      · obtain ⟨e, h7, h8⟩ := sbd_inr h4
        injection h8 with h8; subst h8
        exact s2
theorem pText_ct {t : Nat → Nat} {n : Nat} : ∀ {m j : Nat} {es : List Entry} {rs : List Rule} {cats : List (List Nat)} {g : Gram}, okCt cats → pText t n m j es rs cats = .inr g → okCt g.2.2
  | 0, _, _, _, _, _, _, h => by cases h
  | m + 1, j, es, rs, cats, g, hc, h => by
    unfold pText at h
    split at h
    · obtain ⟨q, h1, h2⟩ := sbd_inr h
      have s := pEnt_ct h1 hc
      split at h2
      · cases h2
      · split at h2
        · injection h2 with h2; subst h2; exact s
        · exact pText_ct s h2
    · split at h
      · obtain ⟨q, h1, h2⟩ := sbd_inr h
        have s := pRule_ct h1 hc
        split at h2
        · cases h2
        · split at h2
          · injection h2 with h2; subst h2; exact s
          · exact pText_ct s h2
      · cases h
theorem pGram_ct {t : Nat → Nat} {n : Nat} {g : Gram} (h : pGram t n = .inr g) : okCt g.2.2 := by
  unfold pGram at h
  obtain ⟨a, h1, h2⟩ := sbd_inr h
  split at h2
  · cases h2
  · injection h2 with h2; subst h2
    exact pText_ct (cats := []) (fun w hw => absurd hw (by simp)) h1
