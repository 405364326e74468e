/-! ===== the class: bytes, blanks, letters, names ===== -/
abbrev wC (tgt cg fg : Value) (I : Nat → Int32) (J : Nat → Int64) (A : Nat → Nat → Int32) (B : Nat → Nat → Int64) : XW := wX (.ref 37) (.ref 48) tgt cg fg I J A B
theorem vNm32 {l : List Nat} (h : ∀ x ∈ l, 1 ≤ x ∧ x ≤ 26) : c32 l < 32 ^ l.length := by
  obtain ⟨r, rfl⟩ : ∃ r : List Nat, l = r.reverse := ⟨l.reverse, by simp⟩
  induction r with
  | nil => simp [c32]
  | cons x r ih =>
    have h1 := ih (fun y hy => h y (by simp at hy ⊢; exact Or.inl hy))
    have h2 := h x (by simp)
    simp only [List.reverse_cons, c32_snoc, List.length_append, List.length_reverse, List.length_cons, List.length_nil, Nat.pow_succ] at h1 ⊢
    omega
section C1
variable {l : Launch} {I : Nat → Int32} {J : Nat → Int64} {A : Nat → Nat → Int32} {B : Nat → Nat → Int64} {Q : Option Value → XW → Prop} {d : Nat} {t : Nat → Nat} {n : Nat} {tgt cg fg : Value}
theorem tx_v (ht : tpX A t n) {x : Int32} {k : Nat} (hx : x = nI k) (hk : k < n) : A 2 x.toNatClampNeg = sb (t k) := by
  rw [cl_of hx (by have := ht.1; omega)]; exact (ht.2 k hk).2
theorem s_isBlankAt (ht : tpX A t n) (hd : 1 ≤ d) {x : Int32} {k : Nat} (hx : x = nI k) (hk : k < n) (hQ : Q (some (.int (bI (isBl (t k))))) (wC tgt cg fg I J A B)) : xK l d 75 [.ref 1, .int x] (wC tgt cg fg I J A B) Q := by
  obtain ⟨d, rfl⟩ : ∃ e, d = e + 1 := ⟨d - 1, by omega⟩
  have hn := ht.1
  have hb := (ht.2 k hk).1
  have hv := tx_v ht hx hk
  refine e_X7_isBlankAt ⟨xin_of hx (by omega) (by omega), ?_⟩
  rw [hv]
  refine if_if (sb_eq _ hb 32 (by omega)) (fun h => ⟨Or.inr rfl, ?_⟩) (fun h => ⟨xin_of hx (by omega) (by omega), if_if (sb_eq _ hb 10 (by omega)) (fun h2 => ⟨Or.inr rfl, ?_⟩) (fun h2 => ⟨Or.inl rfl, ?_⟩)⟩)
  · rw [isBl_iff.mpr (Or.inl h)] at hQ; exact hQ
  · rw [isBl_iff.mpr (Or.inr h2)] at hQ; exact hQ
  · have : isBl (t k) = false := by
      cases q : isBl (t k) with
      | false => rfl
      | true => rcases isBl_iff.mp q with z | z <;> contradiction
    rw [this] at hQ; exact hQ
theorem s_isLetterAt (ht : tpX A t n) (hd : 1 ≤ d) {x : Int32} {k : Nat} (hx : x = nI k) (hk : k < n) (hQ : Q (some (.int (bI (isLe (t k))))) (wC tgt cg fg I J A B)) : xK l d 76 [.ref 1, .int x] (wC tgt cg fg I J A B) Q := by
  obtain ⟨d, rfl⟩ : ∃ e, d = e + 1 := ⟨d - 1, by omega⟩
  have hn := ht.1
  have hb := (ht.2 k hk).1
  have hv := tx_v ht hx hk
  have no : ¬ (97 ≤ t k ∧ t k ≤ 122) → isLe (t k) = false := fun h => by
    cases q : isLe (t k) with
    | false => rfl
    | true => exact absurd (isLe_iff.mp q) h
  refine e_X7_isLetterAt ⟨xin_of hx (by omega) (by omega), ?_⟩
  rw [hv]
  refine if_if (sb_le _ hb 97 (by omega)) (fun h => ⟨Or.inl rfl, ?_⟩) (fun h => ⟨xin_of hx (by omega) (by omega), if_if (sb_gt _ hb 122 (by omega)) (fun h2 => ⟨Or.inl rfl, ?_⟩) (fun h2 => ⟨Or.inr rfl, ?_⟩)⟩)
  · rw [no (by omega)] at hQ; exact hQ
  · rw [no (by omega)] at hQ; exact hQ
  · rw [isLe_iff.mpr (by omega)] at hQ; exact hQ
theorem s_isDigitAt (ht : tpX A t n) (hd : 1 ≤ d) {x : Int32} {k : Nat} (hx : x = nI k) (hk : k < n) (hQ : Q (some (.int (bI (isDi (t k))))) (wC tgt cg fg I J A B)) : xK l d 77 [.ref 1, .int x] (wC tgt cg fg I J A B) Q := by
  obtain ⟨d, rfl⟩ : ∃ e, d = e + 1 := ⟨d - 1, by omega⟩
  have hn := ht.1
  have hb := (ht.2 k hk).1
  have hv := tx_v ht hx hk
  have no : ¬ (48 ≤ t k ∧ t k ≤ 57) → isDi (t k) = false := fun h => by
    cases q : isDi (t k) with
    | false => rfl
    | true => exact absurd (isDi_iff.mp q) h
  refine e_X7_isDigitAt ⟨xin_of hx (by omega) (by omega), ?_⟩
  rw [hv]
  refine if_if (sb_le _ hb 48 (by omega)) (fun h => ⟨Or.inl rfl, ?_⟩) (fun h => ⟨xin_of hx (by omega) (by omega), if_if (sb_gt _ hb 57 (by omega)) (fun h2 => ⟨Or.inl rfl, ?_⟩) (fun h2 => ⟨Or.inr rfl, ?_⟩)⟩)
  · rw [no (by omega)] at hQ; exact hQ
  · rw [no (by omega)] at hQ; exact hQ
  · rw [isDi_iff.mpr (by omega)] at hQ; exact hQ
theorem s_behindBlanks (ht : tpX A t n) (hd : 2 ≤ d) (hs : I 101 = nI n) {x : Int32} {k : Nat} (hx : x = nI k) (hk : k ≤ 1541) (hQ : Q (some (.int (nI (skN (fun i => isBl (t i)) n k)))) (wC tgt cg fg I J A B)) : xK l d 78 [.ref 1, .int x] (wC tgt cg fg I J A B) Q := by
  obtain ⟨d, rfl⟩ : ∃ e, d = e + 1 := ⟨d - 1, by omega⟩
  have hn := ht.1
  subst hx
  have loop : ∀ m k, n - k = m → k ≤ 1541 → Q (some (.int (nI (skN (fun i => isBl (t i)) n k)))) (wC tgt cg fg I J A B) → xG l d 78 Q 2 [some (.ref 1), none, some (.int (nI k))] [] (wC tgt cg fg I J A B) 0 0 := by
    intro m
    induction m with
    | zero =>
      intro k hm hk hQ
      refine b_X7_behindBlanks_2 (if_le hs rfl (by omega) (by omega) (fun h => ?_) (fun h => absurd h (by omega)))
      rw [skN_end _ (by omega)] at hQ; exact hQ
    | succ m ih =>
      intro k hm hk hQ
      refine b_X7_behindBlanks_2 (if_le hs rfl (by omega) (by omega) (fun h => absurd h (by omega)) (fun h => s_isBlankAt ht (by omega) rfl (by omega) (b_X7_behindBlanks_15 (if_bI rfl (fun h1 => ?_) (fun h1 => ?_)))))
      · rw [skN_no (fun i => isBl (t i)) h1] at hQ; exact hQ
      · rw [nI_1]; exact ih (k + 1) (by omega) (by omega) (by rw [← skN_yes (fun i => isBl (t i)) (by omega) h1]; exact hQ)
  exact e_X7_behindBlanks (loop _ k rfl hk hQ)
theorem s_behindLetters (ht : tpX A t n) (hd : 2 ≤ d) (hs : I 101 = nI n) {x : Int32} {k : Nat} (hx : x = nI k) (hk : k ≤ 1541) (hQ : Q (some (.int (nI (skN (fun i => isLe (t i)) n k)))) (wC tgt cg fg I J A B)) : xK l d 79 [.ref 1, .int x] (wC tgt cg fg I J A B) Q := by
  obtain ⟨d, rfl⟩ : ∃ e, d = e + 1 := ⟨d - 1, by omega⟩
  have hn := ht.1
  subst hx
  have loop : ∀ m k, n - k = m → k ≤ 1541 → Q (some (.int (nI (skN (fun i => isLe (t i)) n k)))) (wC tgt cg fg I J A B) → xG l d 79 Q 2 [some (.ref 1), none, some (.int (nI k))] [] (wC tgt cg fg I J A B) 0 0 := by
    intro m
    induction m with
    | zero =>
      intro k hm hk hQ
      refine b_X7_behindLetters_2 (if_le hs rfl (by omega) (by omega) (fun h => ?_) (fun h => absurd h (by omega)))
      rw [skN_end _ (by omega)] at hQ; exact hQ
    | succ m ih =>
      intro k hm hk hQ
      refine b_X7_behindLetters_2 (if_le hs rfl (by omega) (by omega) (fun h => absurd h (by omega)) (fun h => s_isLetterAt ht (by omega) rfl (by omega) (b_X7_behindLetters_15 (if_bI rfl (fun h1 => ?_) (fun h1 => ?_)))))
      · rw [skN_no (fun i => isLe (t i)) h1] at hQ; exact hQ
      · rw [nI_1]; exact ih (k + 1) (by omega) (by omega) (by rw [← skN_yes (fun i => isLe (t i)) (by omega) h1]; exact hQ)
  exact e_X7_behindLetters (loop _ k rfl hk hQ)
theorem s_behindLD (ht : tpX A t n) (hd : 2 ≤ d) (hs : I 101 = nI n) {x : Int32} {k : Nat} (hx : x = nI k) (hk : k ≤ 1541) (hQ : Q (some (.int (nI (skN (fun i => isLD (t i)) n k)))) (wC tgt cg fg I J A B)) : xK l d 80 [.ref 1, .int x] (wC tgt cg fg I J A B) Q := by
  obtain ⟨d, rfl⟩ : ∃ e, d = e + 1 := ⟨d - 1, by omega⟩
  have hn := ht.1
  subst hx
  have loop : ∀ m k, n - k = m → k ≤ 1541 → Q (some (.int (nI (skN (fun i => isLD (t i)) n k)))) (wC tgt cg fg I J A B) → xG l d 80 Q 2 [some (.ref 1), none, some (.int (nI k))] [] (wC tgt cg fg I J A B) 0 0 := by
    intro m
    induction m with
    | zero =>
      intro k hm hk hQ
      refine b_X7_behindLettersAndDigits_2 (if_le hs rfl (by omega) (by omega) (fun h => ?_) (fun h => absurd h (by omega)))
      rw [skN_end _ (by omega)] at hQ; exact hQ
    | succ m ih =>
      intro k hm hk hQ
      have go : isLD (t k) = true → xG l d 80 Q 2 [some (.ref 1), none, some (.int (nI k + 1))] [] (wC tgt cg fg I J A B) 0 0 := fun h1 => by
        rw [nI_1]; exact ih (k + 1) (by omega) (by omega) (by rw [← skN_yes (fun i => isLD (t i)) (by omega) h1]; exact hQ)
      refine b_X7_behindLettersAndDigits_2 (if_le hs rfl (by omega) (by omega) (fun h => absurd h (by omega)) (fun h => s_isLetterAt ht (by omega) rfl (by omega) (b_X7_behindLettersAndDigits_15 (if_bI rfl (fun h1 => ?_) (fun h1 => go (by simp [isLD, h1]))))))
      refine s_isDigitAt ht (by omega) rfl (by omega) (b_X7_behindLettersAndDigits_23 (if_bI rfl (fun h2 => ?_) (fun h2 => go (by simp [isLD, h2]))))
      rw [skN_no (fun i => isLD (t i)) (show isLD (t k) = false by simp [isLD, h1, h2])] at hQ; exact hQ
  exact e_X7_behindLettersAndDigits (loop _ k rfl hk hQ)
/-- the number of the name between two places, 0 if there is none -/
def nmB (t : Nat → Nat) (n k e : Nat) : Nat := if k < e ∧ e ≤ k + 10 ∧ e ≤ n ∧ allLe t k e = true then c32 (ltr t k e) else 0
theorem nm32_step {c b : Nat} (h : 97 ≤ b) (hb : b < 128) {v : Int64} (hv : v = lN c) : (v <<< ((5 : Int32).toInt64 &&& 63)) + ((sb b - 97) + 1).toInt64 = lN (32 * c + (b - 96)) := by
  subst hv
  rw [sb_lo hb, show (97 : Int32) = nI 97 from rfl, sub_n h, nI_1, nI_l (by omega), show (5 : Int32) = nI 5 from rfl, wb_shl c (by omega), lN_add]
  congr 1; omega
theorem s_nameBetween (ht : tpX A t n) (hd : 2 ≤ d) (hs : I 101 = nI n) {x y : Int32} {k e : Nat} (hx : x = nI k) (hk : k ≤ 1541) (hy : y = nI e) (he : e ≤ 1541) (hQ : Q (some (.long (lN (nmB t n k e)))) (wC tgt cg fg I J A B)) : xK l d 81 [.ref 1, .int x, .int y] (wC tgt cg fg I J A B) Q := by
  obtain ⟨d, rfl⟩ : ∃ e, d = e + 1 := ⟨d - 1, by omega⟩
  have hn := ht.1
  subst hx; subst hy
  have no : ¬ (k < e ∧ e ≤ k + 10 ∧ e ≤ n ∧ allLe t k e = true) → Q (some (.long 0)) (wC tgt cg fg I J A B) := fun h => by
    unfold nmB at hQ; rw [if_neg h] at hQ; exact hQ
  refine e_X7_nameBetween (if_le rfl rfl (by omega) (by omega) (fun h => no (by omega)) (fun h => ?_))
  refine if_lt (a := 10) rfl (sub_of rfl rfl (by omega)) (by omega) (by omega) (fun h2 => no (by omega)) (fun h2 => ?_)
  refine if_le rfl hs (by omega) (by omega) (fun h3 => ?_) (fun h3 => no (by omega))
  have loop : ∀ m p (v : Int64), e - p = m → k ≤ p → p ≤ e → (∀ i, k ≤ i → i < p → isLe (t i) = true) → v = lN (c32 (ltr t k p)) → xG l d 81 Q 28 [some (.ref 1), none, some (.int (nI e)), some (.long v), none, some (.int (nI p))] [] (wC tgt cg fg I J A B) 0 0 := by
    intro m
    induction m with
    | zero =>
      intro p v hm hp hpe hall hv
      have ep : p = e := by omega
      subst ep
      refine b_X7_nameBetween_28 (if_le rfl rfl (by omega) (by omega) (fun _ => ?_) (fun h => absurd h (by omega)))
      unfold nmB at hQ
      rw [if_pos ⟨by omega, by omega, h3, allLe_iff.mpr hall⟩] at hQ
      rw [hv]; exact hQ
    | succ m ih =>
      intro p v hm hp hpe hall hv
      refine b_X7_nameBetween_28 (if_le rfl rfl (by omega) (by omega) (fun h => absurd h (by omega)) (fun _ => s_isLetterAt ht (by omega) rfl (by omega) (b_X7_nameBetween_40 (if_bI rfl (fun h1 => ?_) (fun h1 => ⟨xin_of rfl (by omega) (by omega), ?_⟩)))))
      · exact no (fun z => by have := allLe_iff.mp z.2.2.2 p hp (by omega); rw [h1] at this; cases this)
      · have hl := isLe_iff.mp h1
        rw [tx_v ht rfl (by omega), nI_1, nm32_step (by omega) (by omega) hv]
        refine ih (p + 1) _ (by omega) (by omega) (by omega) (fun i a b => ?_) (by rw [ltr_succ hp, c32_snoc])
        by_cases z : i = p
        · rw [z]; exact h1
        · exact hall i a (by omega)
  exact loop (e - k) k 0 rfl (Nat.le_refl _) (by omega) (fun i a b => absurd b (by omega)) (by simp [ltr, c32]; rfl)
end C1
