/-! ===== tokens as the class keeps them: the plain functions ===== -/
theorem c32_pos {l : List Nat} (h : ∀ x ∈ l, 1 ≤ x ∧ x ≤ 26) (hn : l ≠ []) : 0 < c32 l := by
  obtain ⟨r, rfl⟩ : ∃ r : List Nat, l = r.reverse := ⟨l.reverse, by simp⟩
  cases r with
  | nil => exact absurd rfl hn
  | cons x r =>
    have h2 := h x (by simp)
    simp only [List.reverse_cons, c32_snoc]
    omega
theorem c32_inj : ∀ {a b : List Nat}, (∀ x ∈ a, 1 ≤ x ∧ x ≤ 26) → (∀ x ∈ b, 1 ≤ x ∧ x ≤ 26) → c32 a = c32 b → a = b := by
  intro a b
  obtain ⟨r, rfl⟩ : ∃ r : List Nat, a = r.reverse := ⟨a.reverse, by simp⟩
  obtain ⟨q, rfl⟩ : ∃ r : List Nat, b = r.reverse := ⟨b.reverse, by simp⟩
  induction r generalizing q with
  | nil =>
    intro _ hb h
    cases q with
    | nil => rfl
    | cons y q =>
      have := c32_pos hb (by simp)
      rw [← h] at this
      simp [c32] at this
  | cons x r ih =>
    intro ha hb h
    cases q with
    | nil =>
      have := c32_pos ha (by simp)
      rw [h] at this
      simp [c32] at this
    | cons y q =>
      have hx := ha x (by simp)
      have hy := hb y (by simp)
      simp only [List.reverse_cons, c32_snoc] at h ⊢
      have e1 : x = y := by omega
      have e2 := ih q (fun z hz => ha z (by simp at hz ⊢; exact Or.inl hz)) (fun z hz => hb z (by simp at hz ⊢; exact Or.inl hz)) (by omega)
      rw [e1, e2]
theorem c32_b {l : List Nat} (h : vNm l) : c32 l < 9223372036854775808 := by
  have h1 := vNm32 h.1
  have h2 : (32 : Nat) ^ l.length ≤ 32 ^ 10 := Nat.pow_le_pow_right (by omega) h.2
  have h3 : (32 : Nat) ^ 10 = 1125899906842624 := by decide +kernel
  omega
theorem nm_eq32 {a b : List Nat} (ha : vNm a) (hb : vNm b) : lN (c32 a) = lN (c32 b) ↔ a = b := by
  rw [pk_lEQ (c32_b ha) (c32_b hb)]
  exact ⟨c32_inj ha.1 hb.1, fun h => by rw [h]⟩
theorem kw_c32 : c32 kwW = 769604 ∧ c32 kwR = 611717 ∧ c32 kwA = 1296549 ∧ c32 kwI = 307 := by decide +kernel
/-- the class's kind of a name, of a token; its value -/
def clN (l : List Nat) : Nat := if l = kwW then 4 else if l = kwR then 5 else if l = kwA then 6 else if l = kwI then 7 else 0
def clK (t : Nat → Nat) (n p : Nat) : Nat := if tkK t n p = 0 then 8 else if tkK t n p = 1 then 9 else if tkK t n p = 2 then clN (tkN t n p) else if tkK t n p = 3 then 1 else if tkC t n p = 61 then 2 else 3
def clV (t : Nat → Nat) (n p : Nat) : Nat := if tkK t n p = 2 then c32 (tkN t n p) else if tkK t n p = 3 then tkD t n p else 0
theorem clN_b (l : List Nat) : clN l ≤ 7 := by
  unfold clN; split; · omega
  split; · omega
  split; · omega
  split <;> omega
theorem clK_b (t : Nat → Nat) (n p : Nat) : clK t n p ≤ 9 := by
  unfold clK; split; · omega
  split; · omega
  split; · have := clN_b (tkN t n p); omega
  split; · omega
  split <;> omega
theorem clK_9 {t : Nat → Nat} {n p : Nat} : clK t n p = 9 ↔ tkK t n p = 1 := by
  unfold clK
  by_cases h0 : tkK t n p = 0
  · rw [if_pos h0]; omega
  rw [if_neg h0]
  by_cases h1 : tkK t n p = 1
  · rw [if_pos h1]; omega
  rw [if_neg h1]
  by_cases h2 : tkK t n p = 2
  · rw [if_pos h2]; have := clN_b (tkN t n p); omega
  rw [if_neg h2]
  split
  · omega
  · split <;> omega
/-- the last token: the end, or what is none -/
def tZ (t : Nat → Nat) (n : Nat) : Nat := skA (fun j => Nat.ble 2 (tK t n j)) 1501 0
theorem tZ_in {t : Nat → Nat} {n j : Nat} (h : j < tZ t n) : 2 ≤ tK t n j := Nat.le_of_ble_eq_true (skA_in (fun j => Nat.ble 2 (tK t n j)) 1501 0 j (Nat.zero_le _) h)
theorem tP_ge {t : Nat → Nat} {n : Nat} : ∀ {j : Nat}, j ≤ tZ t n → j ≤ tP t n j
  | 0, _ => Nat.zero_le _
  | j + 1, h => by
    have h1 := tP_ge (t := t) (n := n) (j := j) (by omega)
    have h2 := tP_lt (tZ_in (t := t) (n := n) (j := j) (by omega))
    omega
theorem tK_far {t : Nat → Nat} {n p : Nat} (hp : p ≤ n) (h : 1500 ≤ p) : tkK t n p ≤ 1 := by
  have h1 : p ≤ tqS t n p := skN_ge _ _ _
  have h2 : tqS t n p ≤ n := skN_le _ hp
  unfold tkK
  by_cases e : 1500 < n ∧ 1500 ≤ tqS t n p
  · rw [if_pos e]; omega
  · rw [if_neg e, if_pos (by omega)]; omega
theorem tZ_le (t : Nat → Nat) (n : Nat) : tZ t n ≤ 1500 := by
  have h0 := skA_le (fun j => Nat.ble 2 (tK t n j)) 1501 0
  rcases Nat.lt_or_ge (tZ t n) 1501 with h | h
  · omega
  · have h1 := tZ_in (t := t) (n := n) (j := 1500) (by omega)
    have h2 := tP_ge (t := t) (n := n) (j := 1500) (by omega)
    have h3 := tK_far (t := t) (tP_le t n 1500) h2
    have h1 : 2 ≤ tkK t n (tP t n 1500) := h1
    omega
theorem tZ_stop (t : Nat → Nat) (n : Nat) : tK t n (tZ t n) ≤ 1 := by
  have h := skA_stop (fun j => Nat.ble 2 (tK t n j)) 1501 0 (by have := tZ_le t n; unfold tZ at this; omega)
  have h : Nat.ble 2 (tK t n (tZ t n)) = false := h
  rcases Nat.lt_or_ge 1 (tK t n (tZ t n)) with z | z
  · rw [show Nat.ble 2 (tK t n (tZ t n)) = true from Nat.ble_eq_true_of_le z] at h; cases h
  · exact z
theorem tZ_eq {t : Nat → Nat} {n j : Nat} (h : j ≤ tZ t n) (hk : tK t n j ≤ 1) : j = tZ t n := by
  rcases Nat.lt_or_ge j (tZ t n) with z | z
  · have := tZ_in z; omega
  · omega
/-- the class's tokens, s of them -/
def tokX (A : Nat → Nat → Int32) (B : Nat → Nat → Int64) (t : Nat → Nat) (n s : Nat) : Prop := ∀ j, j < s → A 5 j = nI (clK t n (tP t n j)) ∧ A 6 j = nI (tF t n j) ∧ B 7 j = lN (clV t n (tP t n j))
