/-! ===== names, keywords, the stream of tokens, reading a category and a number: the plain functions ===== -/
def vNm (l : List Nat) : Prop := (∀ x ∈ l, 1 ≤ x ∧ x ≤ 26) ∧ l.length ≤ 10
theorem c27_lt {l : List Nat} (h : ∀ x ∈ l, 1 ≤ x ∧ x ≤ 26) : c27 l < 27 ^ l.length := by
  obtain ⟨r, rfl⟩ : ∃ r : List Nat, l = r.reverse := ⟨l.reverse, by simp⟩
  induction r with
  | nil => simp [c27]
  | cons x r ih =>
    have h1 := ih (fun y hy => h y (by simp at hy ⊢; exact Or.inl hy))
    have h2 := h x (by simp)
    simp only [List.reverse_cons, c27_snoc, List.length_append, List.length_reverse, List.length_cons, List.length_nil, Nat.pow_succ] at h1 ⊢
    omega
theorem c27_pos {l : List Nat} (h : ∀ x ∈ l, 1 ≤ x ∧ x ≤ 26) (hn : l ≠ []) : 0 < c27 l := by
  obtain ⟨r, rfl⟩ : ∃ r : List Nat, l = r.reverse := ⟨l.reverse, by simp⟩
  cases r with
  | nil => exact absurd rfl hn
  | cons x r =>
    have h2 := h x (by simp)
    simp only [List.reverse_cons, c27_snoc]
    omega
theorem c27_inj : ∀ {a b : List Nat}, (∀ x ∈ a, 1 ≤ x ∧ x ≤ 26) → (∀ x ∈ b, 1 ≤ x ∧ x ≤ 26) → c27 a = c27 b → a = b := by
  intro a b
  obtain ⟨r, rfl⟩ : ∃ r : List Nat, a = r.reverse := ⟨a.reverse, by simp⟩
  obtain ⟨q, rfl⟩ : ∃ r : List Nat, b = r.reverse := ⟨b.reverse, by simp⟩
  induction r generalizing q with
  | nil =>
    intro _ hb h
    cases q with
    | nil => rfl
    | cons y q =>
      have := c27_pos hb (by simp)
      rw [← h] at this
      simp [c27] at this
  | cons x r ih =>
    intro ha hb h
    cases q with
    | nil =>
      have := c27_pos ha (by simp)
      rw [h] at this
      simp [c27] at this
    | cons y q =>
      have hx := ha x (by simp)
      have hy := hb y (by simp)
      simp only [List.reverse_cons, c27_snoc] at h ⊢
      have e1 : x = y := by omega
      have e2 := ih q (fun z hz => ha z (by simp at hz ⊢; exact Or.inl hz)) (fun z hz => hb z (by simp at hz ⊢; exact Or.inl hz)) (by omega)
      rw [e1, e2]
theorem c27_b {l : List Nat} (h : vNm l) : c27 l < 9223372036854775808 := by
  have h1 := c27_lt h.1
  have h2 : (27 : Nat) ^ l.length ≤ 27 ^ 10 := Nat.pow_le_pow_right (by omega) h.2
  have h3 : (27 : Nat) ^ 10 = 205891132094649 := by decide +kernel
  omega
theorem nm_eq {a b : List Nat} (ha : vNm a) (hb : vNm b) : lN (c27 a) = lN (c27 b) ↔ a = b := by
  rw [pk_lEQ (c27_b ha) (c27_b hb)]
  exact ⟨c27_inj ha.1 hb.1, fun h => by rw [h]⟩
theorem lg0 {x y : Int64} : lg_cmp x y = 0 ↔ x = y := by
  unfold lg_cmp
  by_cases h : x > y
  · rw [if_pos h]
    constructor
    · intro z; exact absurd z (by decide)
    · intro z; subst z; exact absurd h (by simp)
  · rw [if_neg h]
    by_cases e : x = y
    · rw [if_pos e]; exact ⟨fun _ => e, fun _ => rfl⟩
    · rw [if_neg e]; exact ⟨fun z => absurd z (by decide), fun z => absurd z e⟩
def kwW : List Nat := [23, 15, 18, 4]
def kwR : List Nat := [18, 21, 12, 5]
def kwA : List Nat := [1, 7, 18, 5, 5]
def kwI : List Nat := [9, 19]
theorem kw_v : vNm kwW ∧ vNm kwR ∧ vNm kwA ∧ vNm kwI := by unfold vNm; decide +kernel
theorem kw_c : c27 kwW = 464134 ∧ c27 kwR = 369932 ∧ c27 kwA = 682484 ∧ c27 kwI = 262 := by decide +kernel
def tP (t : Nat → Nat) (n : Nat) : Nat → Nat
  | 0 => 0
  | j + 1 => tkE t n (tP t n j)
abbrev tK (t : Nat → Nat) (n j : Nat) : Nat := tkK t n (tP t n j)
abbrev tF (t : Nat → Nat) (n j : Nat) : Nat := tkF t n (tP t n j)
abbrev tN (t : Nat → Nat) (n j : Nat) : List Nat := tkN t n (tP t n j)
abbrev tD (t : Nat → Nat) (n j : Nat) : Nat := tkD t n (tP t n j)
abbrev tC (t : Nat → Nat) (n j : Nat) : Nat := tkC t n (tP t n j)
theorem tP_le (t : Nat → Nat) (n : Nat) : ∀ j, tP t n j ≤ n
  | 0 => Nat.zero_le _
  | j + 1 => tkE_le (tP_le t n j)
theorem tkK_5 (t : Nat → Nat) (n p : Nat) : tkK t n p ≤ 4 := by
  unfold tkK
  split
  · omega
  · split
    · omega
    · split
      · rcases nmK_ne0 t n (tqS t n p) with h | h | h <;> omega
      · split <;> omega
theorem tkN_v {t : Nat → Nat} {n p : Nat} (h : tkK t n p = 2) : vNm (tkN t n p) := by
  have h2 : nmK t n (tqS t n p) = 2 := by
    unfold tkK at h
    split at h
    · omega
    · split at h
      · omega
      · split at h
        · exact h
        · split at h <;> omega
  unfold nmK at h2
  split at h2
  · rename_i h3
    refine ⟨fun x hx => ?_, ?_⟩
    · unfold tkN ltr at hx
      obtain ⟨i, hi, rfl⟩ := List.mem_map.mp hx
      have := List.mem_range.mp hi
      have := isLe_iff.mp (allLe_iff.mp h3.1 (tqS t n p + i) (by omega) (by omega))
      omega
    · unfold tkN ltr
      rw [List.length_map, List.length_range]
      have := h3.2
      omega
  · split at h2 <;> omega
theorem tkD_9 {t : Nat → Nat} {n p : Nat} (h : tkK t n p = 3) : tkD t n p ≤ 9 := by
  have h2 : nmK t n (tqS t n p) = 3 := by
    unfold tkK at h
    split at h
    · omega
    · split at h
      · omega
      · split at h
        · exact h
        · split at h <;> omega
  have := isDi_iff.mp (nmK_3 h2)
  unfold tkD
  omega
theorem tkF_b {t : Nat → Nat} {n p : Nat} (hp : p ≤ n) (hn : n ≤ 1540) : tkF t n p ≤ 1540 := by
  have : tqS t n p ≤ n := skN_le _ hp
  unfold tkF; split <;> omega
def isKw (l : List Nat) : Bool := l == kwW || l == kwR || l == kwA || l == kwI
def tFree (t : Nat → Nat) (n j : Nat) : Bool := tK t n j == 2 && !isKw (tN t n j)
def tKey (t : Nat → Nat) (n j : Nat) (w : List Nat) : Bool := tK t n j == 2 && tN t n j == w
/-- a fault at a token -/
def pFl (t : Nat → Nat) (n j k : Nat) : Nat × Nat := (if tK t n j = 1 then 1 else k, tF t n j)
def pCat (t : Nat → Nat) (n j : Nat) (cats : List (List Nat)) : (Nat × Nat) ⊕ (Nat × List (List Nat)) :=
  if tFree t n j = false then .inl (pFl t n j 1) else if cats.idxOf (tN t n j) < cats.length then .inr (cats.idxOf (tN t n j), cats) else if cats.length = 16 then .inl (pFl t n j 3) else .inr (cats.length, cats ++ [tN t n j])
def pNum (t : Nat → Nat) (n j most : Nat) (but : Option Nat) : (Nat × Nat) ⊕ Nat :=
  if tK t n j ≠ 3 then .inl (pFl t n j 1) else if most < tD t n j ∨ but = some (tD t n j) then .inl (pFl t n j 2) else .inr (tD t n j)
theorem gD_lt {α : Type} {l : List α} {i : Nat} (h : i < l.length) (d : α) : l.getD i d = l[i] := by simp [List.getD, h]
theorem gD_l {α : Type} {l r : List α} {i : Nat} (h : i < l.length) (d : α) : (l ++ r).getD i d = l.getD i d := by simp [List.getD, List.getElem?_append_left h]
theorem gD_r {α : Type} {l : List α} {x : α} (d : α) : (l ++ [x]).getD l.length d = x := by simp [List.getD]
theorem idx_of {α : Type} [BEq α] [LawfulBEq α] {l : List α} {x d : α} {c : Nat} (hc : c < l.length) (e : l.getD c d = x) (hno : ∀ i, i < c → l.getD i d ≠ x) : l.idxOf x = c := by
  have hg : l[c] = x := by rw [← e, gD_lt hc]
  have hlt : l.idxOf x < l.length := List.idxOf_lt_length_iff.mpr (by rw [← hg]; exact List.getElem_mem hc)
  rcases Nat.lt_or_ge (l.idxOf x) c with z | z
  · exact absurd (by rw [gD_lt hlt]; exact List.getElem_idxOf hlt) (hno _ z)
  · rcases Nat.lt_or_ge c (l.idxOf x) with z2 | z2
    · exact absurd hg (by have := List.not_of_lt_findIdx (xs := l) (p := fun y => y == x) z2; simpa using this)
    · omega
theorem idx_no {α : Type} [BEq α] [LawfulBEq α] {l : List α} {x d : α} (hno : ∀ i, i < l.length → l.getD i d ≠ x) : ¬ l.idxOf x < l.length := by
  intro z
  exact hno _ z (by rw [gD_lt z]; exact List.getElem_idxOf z)
