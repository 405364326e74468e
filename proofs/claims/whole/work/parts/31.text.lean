/-! ===== reading a text: the plain function; where entries and rules lie ===== -/
abbrev Gram : Type := List Entry × List Rule × List (List Nat)
def pText (t : Nat → Nat) (n : Nat) : Nat → Nat → List Entry → List Rule → List (List Nat) → (Nat × Nat) ⊕ Gram
  | 0, _, _, _, _ => .inl (0, 0)
  | m + 1, j, es, rs, cats =>
    if tKey t n j kwW = true then sbd (pEnt t n j es.length cats) fun q => if ¬ (tK t n q.2.2 = 4 ∧ tC t n q.2.2 = 59) then .inl (pFl t n q.2.2 1) else if tK t n (q.2.2 + 1) = 0 then .inr (es ++ [q.1], rs, q.2.1) else pText t n m (q.2.2 + 1) (es ++ [q.1]) rs q.2.1
    else if tKey t n j kwR = true then sbd (pRule t n j rs.length cats) fun q => if ¬ (tK t n q.2.2 = 4 ∧ tC t n q.2.2 = 59) then .inl (pFl t n q.2.2 1) else if tK t n (q.2.2 + 1) = 0 then .inr (es, rs ++ [q.1], q.2.1) else pText t n m (q.2.2 + 1) es (rs ++ [q.1]) q.2.1
    else .inl (pFl t n j 1)
def okE (E : Entry) : Prop := vNm E.1 ∧ E.2.1 < 16 ∧ E.2.2 < 625
def okR (R : Rule) : Prop := R.1 < 16 ∧ R.2.1 < 16 ∧ (∀ c, R.2.2.1 = some c → c < 16) ∧ R.2.2.2.1.length ≤ 8 ∧ (∀ q ∈ R.2.2.2.1, okLaw (if R.2.2.1 = none then 1 else 2) q) ∧ R.2.2.2.2 ≤ 1540
def entAt (A : Nat → Nat → Int32) (B : Nat → Nat → Int64) (i : Nat) (E : Entry) : Prop := B 2 i = lN (c27 E.1) ∧ A 4 i = nI E.2.1 ∧ A 5 i = nI E.2.2
def rulAt (A : Nat → Nat → Int32) (i : Nat) (R : Rule) : Prop := A 6 i = nI R.1 ∧ A 7 i = nI R.2.1 ∧ A 8 i = o2i R.2.2.1 ∧ A 9 i = nI R.2.2.2.1.length ∧ ∀ k, k < R.2.2.2.1.length → A 11 (8 * i + k) = nI (lawC (R.2.2.2.1.getD k (true, 0, 0, 0)))
def dE : Entry := ([], 0, 0)
def dR : Rule := (0, 0, none, [], 0)
def entsM (A : Nat → Nat → Int32) (B : Nat → Nat → Int64) (b : Nat) (es : List Entry) : Prop := es.length ≤ 40 ∧ ∀ e, e < es.length → okE (es.getD e dE) ∧ entAt A B (b + e) (es.getD e dE)
def rulsM (A : Nat → Nat → Int32) (b : Nat) (rs : List Rule) : Prop := rs.length ≤ 30 ∧ ∀ r, r < rs.length → okR (rs.getD r dR) ∧ rulAt A (b + r) (rs.getD r dR)
def plcM (A : Nat → Nat → Int32) (rs : List Rule) : Prop := ∀ r, r < rs.length → A 10 (30 + r) = nI (rs.getD r dR).2.2.2.2
/-- what reading a text leaves as it was -/
def ftM (I : Nat → Int32) (J : Nat → Int64) (A : Nat → Nat → Int32) (B : Nat → Nat → Int64) (I' : Nat → Int32) (J' : Nat → Int64) (A' : Nat → Nat → Int32) (B' : Nat → Nat → Int64) : Prop :=
  (∀ i, i ≠ 4 → i ≠ 5 → i ≠ 6 → i ≠ 7 → i ≠ 8 → i ≠ 10 → i ≠ 11 → i ≠ 25 → i ≠ 26 → i ≠ 27 → I' i = I i) ∧ (∀ i, i ≠ 9 → J' i = J i) ∧ (∀ p i, ¬ ((p = 4 ∨ p = 5) ∧ 40 ≤ i) → ¬ (6 ≤ p ∧ p ≤ 10 ∧ 30 ≤ i) → ¬ (p = 11 ∧ 240 ≤ i) → A' p i = A p i) ∧ (∀ p i, ¬ (p = 2 ∧ 40 ≤ i) → ¬ (p = 3 ∧ 16 ≤ i) → B' p i = B p i)
theorem ftM_refl {I : Nat → Int32} {J : Nat → Int64} {A : Nat → Nat → Int32} {B : Nat → Nat → Int64} : ftM I J A B I J A B := ⟨fun _ _ _ _ _ _ _ _ _ _ _ => rfl, fun _ _ => rfl, fun _ _ _ _ _ => rfl, fun _ _ _ _ => rfl⟩
theorem ftM_trans {I I1 I2 : Nat → Int32} {J J1 J2 : Nat → Int64} {A A1 A2 : Nat → Nat → Int32} {B B1 B2 : Nat → Nat → Int64} (h : ftM I J A B I1 J1 A1 B1) (g : ftM I1 J1 A1 B1 I2 J2 A2 B2) : ftM I J A B I2 J2 A2 B2 :=
  ⟨fun i a b c d e f g1 h1 k1 l1 => by rw [g.1 i a b c d e f g1 h1 k1 l1, h.1 i a b c d e f g1 h1 k1 l1], fun i a => by rw [g.2.1 i a, h.2.1 i a], fun p i a b c => by rw [g.2.2.1 p i a b c, h.2.2.1 p i a b c], fun p i a b => by rw [g.2.2.2 p i a b, h.2.2.2 p i a b]⟩
theorem feM_ft {ec : Nat} {I I' : Nat → Int32} {J J' : Nat → Int64} {A A' : Nat → Nat → Int32} {B B' : Nat → Nat → Int64} (h : feM ec I J A B I' J' A' B') : ftM I J A B I' J' A' B' :=
  ⟨fun i a b c d e f g h1 _ k => h.1 i a b c d e f g h1 k, h.2.1, fun p i a _ _ => h.2.2.1 p i (by
    by_cases e : i = 40 + ec
    · exact Or.inl ⟨fun z => a ⟨Or.inl z, by omega⟩, fun z => a ⟨Or.inr z, by omega⟩⟩
    · exact Or.inr e), fun p i a b => h.2.2.2 p i (by
    by_cases e : i = 40 + ec
    · exact Or.inl (fun z => a ⟨z, by omega⟩)
    · exact Or.inr e) (by
    by_cases e : i < 16
    · exact Or.inr e
    · exact Or.inl (fun z => b ⟨z, by omega⟩))⟩
theorem frM_ft {rc : Nat} {I I' : Nat → Int32} {J J' : Nat → Int64} {A A' : Nat → Nat → Int32} {B B' : Nat → Nat → Int64} (h : frM rc I J A B I' J' A' B') : ftM I J A B I' J' A' B' :=
  ⟨fun i a b c d e f g _ h1 k => h.1 i a b c d e f g h1 k, h.2.1, fun p i _ b c => h.2.2.1 p i ⟨fun z => b ⟨z.1, z.2.1, by omega⟩, fun z => c ⟨z.1, by omega⟩⟩, fun p i _ b => h.2.2.2 p i (by
    by_cases e : i < 16
    · exact Or.inr e
    · exact Or.inl (fun z => b ⟨z, by omega⟩))⟩
theorem tpM_ft {t : Nat → Nat} {n : Nat} {I I' : Nat → Int32} {J J' : Nat → Int64} {A A' : Nat → Nat → Int32} {B B' : Nat → Nat → Int64} (h : ftM I J A B I' J' A' B') (ht : tpM A t n) : tpM A' t n := ⟨ht.1, fun i hi => by rw [h.2.2.1 1 i (by omega) (by omega) (by omega)]; exact ht.2 i hi⟩
