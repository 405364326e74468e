/-! ===== reading a rule, a text: the plain functions ===== -/
abbrev Law : Type := Bool × Nat × Nat × Nat
abbrev Rule : Type := Nat × Nat × Option Nat × List Law × Nat
abbrev Entry : Type := List Nat × Nat × Nat
/-- a law as the reference writes it -/
def lawC (q : Law) : Nat := 64 * q.2.1 + 16 * q.2.2.1 + q.2.2.2 + (if q.1 = true then 0 else 1024)
def pLaws (t : Nat → Nat) (n parts : Nat) : Nat → Nat → List Law → (Nat × Nat) ⊕ (List Law × Nat)
  | 0, j, acc => .inr (acc, j)
  | m + 1, j, acc => if tKey t n j kwA = false ∧ tKey t n j kwI = false then .inr (acc, j) else if acc.length = 8 then .inl (pFl t n j 3) else
    sbd (pNum t n (j + 1) 3 none) fun f => sbd (pNum t n (j + 2) parts none) fun s => sbd (pNum t n (j + 3) (if tKey t n j kwA = true then parts else 3) (if tKey t n j kwA = true then some s else none)) fun v => pLaws t n parts m (j + 4) (acc ++ [(tKey t n j kwA, f, s, v)])
theorem pLaws_no {t : Nat → Nat} {n parts m j : Nat} {acc : List Law} (h1 : tKey t n j kwA = false) (h2 : tKey t n j kwI = false) : pLaws t n parts (m + 1) j acc = .inr (acc, j) := by
  unfold pLaws; rw [if_pos ⟨h1, h2⟩]
theorem pLaws_8 {t : Nat → Nat} {n parts m j : Nat} {acc : List Law} (h : ¬ (tKey t n j kwA = false ∧ tKey t n j kwI = false)) (h8 : acc.length = 8) : pLaws t n parts (m + 1) j acc = .inl (pFl t n j 3) := by
  unfold pLaws; rw [if_neg h, if_pos h8]
theorem pLaws_go {t : Nat → Nat} {n parts m j : Nat} {acc : List Law} (h : ¬ (tKey t n j kwA = false ∧ tKey t n j kwI = false)) (h8 : ¬ acc.length = 8) : pLaws t n parts (m + 1) j acc = sbd (pNum t n (j + 1) 3 none) fun f => sbd (pNum t n (j + 2) parts none) fun s => sbd (pNum t n (j + 3) (if tKey t n j kwA = true then parts else 3) (if tKey t n j kwA = true then some s else none)) fun v => pLaws t n parts m (j + 4) (acc ++ [(tKey t n j kwA, f, s, v)]) := by
  conv => lhs; unfold pLaws
  rw [if_neg h, if_neg h8]
def pRule (t : Nat → Nat) (n j rc : Nat) (cats : List (List Nat)) : (Nat × Nat) ⊕ (Rule × List (List Nat) × Nat) :=
  if rc = 30 then .inl (pFl t n j 3) else sbd (pCat t n (j + 1) cats) fun q1 => if ¬ (tK t n (j + 2) = 4 ∧ tC t n (j + 2) = 61) then .inl (pFl t n (j + 2) 1) else sbd (pCat t n (j + 3) q1.2) fun q2 =>
    if tFree t n (j + 4) = true then sbd (pCat t n (j + 4) q2.2) fun q3 => sbd (pLaws t n 2 9 (j + 5) []) fun r => .inr ((q1.1, q2.1, some q3.1, r.1, tF t n j), q3.2, r.2)
    else sbd (pLaws t n 1 9 (j + 4) []) fun r => .inr ((q1.1, q2.1, none, r.1, tF t n j), q2.2, r.2)
/-- a law is well-formed for so many parts -/
def okLaw (parts : Nat) (q : Law) : Prop := q.2.1 ≤ 3 ∧ q.2.2.1 ≤ parts ∧ q.2.2.2 ≤ (if q.1 = true then parts else 3) ∧ (q.1 = true → q.2.2.2 ≠ q.2.2.1)
def o2i (o : Option Nat) : Int32 := match o with
  | none => -1
  | some c => nI c
/-- the places of a rule rc that is being read -/
def okA (rc p i : Nat) : Prop := ¬ (6 ≤ p ∧ p ≤ 10 ∧ i = 30 + rc) ∧ ¬ (p = 11 ∧ 8 * (30 + rc) ≤ i ∧ i < 8 * (30 + rc) + 8)
theorem okA_up {rc p : Nat} {A A1 : Nat → Nat → Int32} {v : Int32} (hp : 6 ≤ p ∧ p ≤ 10) (h : ∀ q i, okA rc q i → A1 q i = A q i) : ∀ q i, okA rc q i → (va_up A1 p (upd (A1 p) (30 + rc) v)) q i = A q i := by
  intro q i hq
  by_cases e : q = p
  · subst e
    have hi : i ≠ 30 + rc := fun z => hq.1 ⟨hp.1, hp.2, z⟩
    rw [ue_v, un_i hi]; exact h q i hq
  · rw [un_v e]; exact h q i hq
/-- what reading a rule leaves as it was -/
def frM (rc : Nat) (I : Nat → Int32) (J : Nat → Int64) (A : Nat → Nat → Int32) (B : Nat → Nat → Int64) (I' : Nat → Int32) (J' : Nat → Int64) (A' : Nat → Nat → Int32) (B' : Nat → Nat → Int64) : Prop :=
  (∀ i, i ≠ 4 → i ≠ 5 → i ≠ 6 → i ≠ 7 → i ≠ 8 → i ≠ 10 → i ≠ 11 → i ≠ 26 → i ≠ 27 → I' i = I i) ∧ (∀ i, i ≠ 9 → J' i = J i) ∧ (∀ p i, okA rc p i → A' p i = A p i) ∧ (∀ p i, p ≠ 3 ∨ i < 16 → B' p i = B p i)
