/-! ===== features as digits of a key; reading an entry: the plain functions ===== -/
def wt : Nat → Nat
  | 0 => 125
  | 1 => 25
  | 2 => 5
  | _ => 1
/-- the digit of feature f in a key: 0 none, else the value + 1 -/
def dg (key f : Nat) : Nat := key / wt f % 5
def setd (key f v : Nat) : Nat := key + v * wt f - dg key f * wt f
theorem valueIn_ok : ∀ key, key < 625 → ∀ f, f < 4 → (nI key / xfv f - nI key / xfv f / 5 * 5) - 1 = nI (dg key f) - 1 := by decide +kernel
theorem with_ok : ∀ key, key < 625 → ∀ f, f < 4 → ∀ v, v < 4 → nI key + ((nI v - (nI (dg key f) - 1)) * xfv f) = nI (setd key f (v + 1)) := by decide +kernel
theorem setd_lt : ∀ key, key < 625 → ∀ f, f < 4 → ∀ v, v < 5 → setd key f v < 625 := by decide +kernel
theorem xfv_ne : ∀ f, f < 4 → ¬ xfv f = 0 := by decide +kernel
/-- on with what was read, or the fault -/
def sbd {α β : Type} (x : (Nat × Nat) ⊕ α) (f : α → (Nat × Nat) ⊕ β) : (Nat × Nat) ⊕ β := match x with
  | .inl e => .inl e
  | .inr a => f a
theorem sbd_l {α β : Type} (e : Nat × Nat) (f : α → (Nat × Nat) ⊕ β) : sbd (.inl e) f = .inl e := rfl
theorem sbd_r {α β : Type} (a : α) (f : α → (Nat × Nat) ⊕ β) : sbd (.inr a) f = f a := rfl
def pFeat (t : Nat → Nat) (n : Nat) : Nat → Nat → Nat → (Nat × Nat) ⊕ (Nat × Nat)
  | 0, j, key => .inr (key, j)
  | m + 1, j, key => if tK t n j ≠ 3 then .inr (key, j) else sbd (pNum t n j 3 none) fun f => sbd (pNum t n (j + 1) 3 none) fun v => pFeat t n m (j + 2) (setd key f (v + 1))
theorem pFeat_no {t : Nat → Nat} {n m j key : Nat} (h : tK t n j ≠ 3) : pFeat t n (m + 1) j key = .inr (key, j) := by
  unfold pFeat; rw [if_pos h]
theorem pFeat_yes {t : Nat → Nat} {n m j key : Nat} (h : tK t n j = 3) : pFeat t n (m + 1) j key = sbd (pNum t n j 3 none) fun f => sbd (pNum t n (j + 1) 3 none) fun v => pFeat t n m (j + 2) (setd key f (v + 1)) := by
  conv => lhs; unfold pFeat
  rw [if_neg (fun z => z h)]
/-- at 'word', the token j, with ec entries ahead: the word, its category, its key; the categories; the token behind -/
def pEnt (t : Nat → Nat) (n j ec : Nat) (cats : List (List Nat)) : (Nat × Nat) ⊕ ((List Nat × Nat × Nat) × List (List Nat) × Nat) :=
  if ec = 40 then .inl (pFl t n j 3) else if tFree t n (j + 1) = false then .inl (pFl t n (j + 1) 1) else sbd (pCat t n (j + 2) cats) fun q => sbd (pFeat t n 1541 (j + 3) 0) fun r => .inr ((tN t n (j + 1), q.1, r.1), q.2, r.2)
theorem pNum_3 {t : Nat → Nat} {n j m : Nat} {b : Option Nat} {v : Nat} (h : pNum t n j m b = .inr v) : tK t n j = 3 ∧ v = tD t n j ∧ v ≤ m := by
  unfold pNum at h
  split at h
  · cases h
  · split at h
    · cases h
    · rename_i h1 h2
      cases h
      exact ⟨Decidable.not_not.mp h1, rfl, Nat.not_lt.mp (fun z => h2 (Or.inl z))⟩
/-- a token that is there is not empty -/
theorem tP_lt {t : Nat → Nat} {n j : Nat} (h : 2 ≤ tK t n j) : tP t n j < tP t n (j + 1) := by
  have hp := tP_le t n j
  show tP t n j < tkE t n (tP t n j)
  have h1 : tP t n j ≤ tqS t n (tP t n j) := skN_ge _ _ _
  have h : 2 ≤ tkK t n (tP t n j) := h
  unfold tkK at h
  unfold tkE
  split at h
  · omega
  · rename_i g1
    rw [if_neg g1]
    split at h
    · omega
    · rename_i g2
      rw [if_neg g2]
      split at h
      · rename_i g3
        rw [if_pos g3, skN_yes (fun i => isLD (t i)) (by omega) g3]
        have := skN_ge (fun i => isLD (t i)) n (tqS t n (tP t n j) + 1)
        omega
      · rename_i g3
        rw [if_neg g3]; omega
