/-! ===== the order of categories by how many they lead to ===== -/
def cntC (f : Nat → Nat → Bool) (c : Nat) : Nat := (List.range 16).countP fun b => f c b
def ordP (f : Nat → Nat → Bool) (nc m : Nat) : List Nat := (List.range m).flatMap fun k => (List.range nc).filter fun c => cntC f c == k
def ordL (f : Nat → Nat → Bool) (nc : Nat) : List Nat := ordP f nc 17
theorem cntC_le (f : Nat → Nat → Bool) (c : Nat) : cntC f c ≤ 16 := by
  have := List.countP_le_length (p := fun b => f c b) (l := List.range 16)
  simpa [cntC] using this
theorem ordP_succ (f : Nat → Nat → Bool) (nc m : Nat) : ordP f nc (m + 1) = ordP f nc m ++ (List.range nc).filter fun c => cntC f c == m := by
  unfold ordP; rw [List.range_succ, List.flatMap_append]; simp
theorem countP_dj {l : List Nat} {p q : Nat → Bool} (h : ∀ x, ¬ (p x = true ∧ q x = true)) : l.countP p + l.countP q = l.countP fun x => p x || q x := by
  induction l with
  | nil => rfl
  | cons a l ih =>
    simp only [List.countP_cons]
    have := h a
    cases hp : p a <;> cases hq : q a <;> simp_all <;> omega
theorem ordP_len (f : Nat → Nat → Bool) (nc m : Nat) : (ordP f nc m).length = (List.range nc).countP fun c => decide (cntC f c < m) := by
  induction m with
  | zero => simp [ordP]
  | succ m ih =>
    rw [ordP_succ, List.length_append, ih, ← List.countP_eq_length_filter, countP_dj (fun x hx => by simp at hx; omega)]
    congr 1
    funext x
    rw [Bool.eq_iff_iff]; simp; omega
theorem ord_room (f : Nat → Nat → Bool) {nc m c : Nat} (hc : c < nc) (hm : cntC f c = m) : (ordP f nc m ++ (List.range c).filter fun x => cntC f x == m).length < nc := by
  rw [List.length_append, ordP_len, ← List.countP_eq_length_filter]
  have h1 : (List.range c).countP (fun x => cntC f x == m) ≤ (List.range nc).countP (fun x => decide (x < c) && (cntC f x == m)) := by
    have e : List.range nc = List.range c ++ (List.range (nc - c)).map (c + ·) := by
      rw [← List.range_add]; congr 1; omega
    rw [e, List.countP_append]
    have e2 : (List.range c).countP (fun x => decide (x < c) && (cntC f x == m)) = (List.range c).countP (fun x => cntC f x == m) := by
      apply List.countP_congr
      intro x hx
      have := List.mem_range.mp hx
      simp [this]
    omega
  have h2 := countP_dj (l := List.range nc) (p := fun c => decide (cntC f c < m)) (q := fun x => decide (x < c) && (cntC f x == m)) (fun x hx => by simp at hx; omega)
  have h3 : (List.range nc).countP (fun x => decide (cntC f x < m) || (decide (x < c) && (cntC f x == m))) < (List.range nc).length := by
    refine Nat.lt_of_le_of_ne List.countP_le_length (fun z => ?_)
    have := List.countP_eq_length.mp z c (List.mem_range.mpr hc)
    simp at this; omega
  rw [List.length_range] at h3
  omega
