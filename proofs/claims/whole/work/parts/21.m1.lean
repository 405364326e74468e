/-! ===== the reference: bytes and blanks ===== -/
section M1
variable {l : Launch} {J : Nat → Int64} {A : Nat → Nat → Int32} {B : Nat → Nat → Int64} {Q : Option Value → XW → Prop} {d : Nat}
theorem s_isDigit {I : Nat → Int32} (hd : 1 ≤ d) {x : Int32} {b : Nat} (hx : x = nI b) (hb : b < 256) (hQ : Q (some (.int (if isDi b = true then 1 else 0))) (wM I J A B)) : xK l d 130 [.int x] (wM I J A B) Q := by
  obtain ⟨d, rfl⟩ : ∃ e, d = e + 1 := ⟨d - 1, by omega⟩
  refine e_X11_isDigit (if_lt hx (b := 48) rfl (by omega) (by omega) (fun h => ⟨Or.inl rfl, ?_⟩) (fun h => if_lt (a := 57) rfl hx (by omega) (by omega) (fun h => ⟨Or.inl rfl, ?_⟩) (fun h => ⟨Or.inr rfl, ?_⟩)))
  · rw [if_neg (by rw [isDi_iff]; omega)] at hQ; exact hQ
  · rw [if_neg (by rw [isDi_iff]; omega)] at hQ; exact hQ
  · rw [if_pos (by rw [isDi_iff]; omega)] at hQ; exact hQ
theorem s_isLetter {I : Nat → Int32} (hd : 1 ≤ d) {x : Int32} {b : Nat} (hx : x = nI b) (hb : b < 256) (hQ : Q (some (.int (if isLe b = true then 1 else 0))) (wM I J A B)) : xK l d 131 [.int x] (wM I J A B) Q := by
  obtain ⟨d, rfl⟩ : ∃ e, d = e + 1 := ⟨d - 1, by omega⟩
  refine e_X11_isLetter (if_lt hx (b := 97) rfl (by omega) (by omega) (fun h => ⟨Or.inl rfl, ?_⟩) (fun h => if_lt (a := 122) rfl hx (by omega) (by omega) (fun h => ⟨Or.inl rfl, ?_⟩) (fun h => ⟨Or.inr rfl, ?_⟩)))
  · rw [if_neg (by rw [isLe_iff]; omega)] at hQ; exact hQ
  · rw [if_neg (by rw [isLe_iff]; omega)] at hQ; exact hQ
  · rw [if_pos (by rw [isLe_iff]; omega)] at hQ; exact hQ
variable {t : Nat → Nat} {n : Nat}
theorem s_at (ht : tpM A t n) (hd : 1 ≤ d) {I : Nat → Int32} {x : Int32} {k : Nat} (hx : x = nI k) (hk : k ≤ n) (h3 : I 3 = nI n) (hQ : Q (some (.int (nI (if k < n then t k else 0)))) (wM I J A B)) : xK l d 129 [.ref 0, .int x] (wM I J A B) Q := by
  obtain ⟨d, rfl⟩ : ∃ e, d = e + 1 := ⟨d - 1, by omega⟩
  have hn := ht.1
  refine e_X11_at (if_le h3 hx (by omega) (by omega) (fun h => ?_) (fun h => ⟨xin_of hx (by omega) (by omega), ?_⟩))
  · rw [if_neg (by omega)] at hQ; exact hQ
  · rw [if_pos (by omega)] at hQ
    rw [cl_of hx (by omega), (ht.2 k (by omega)).2]
    exact hQ
theorem s_blanks (ht : tpM A t n) (hd : 1 ≤ d) {I : Nat → Int32} {k : Nat} (h3 : I 3 = nI n) (h4 : I 4 = nI k) (hk : k ≤ n)
    (hQ : Q none (wM (upd I 4 (nI (skN (fun i => isBl (t i)) n k))) J A B)) : xK l d 132 [.ref 0] (wM I J A B) Q := by
  obtain ⟨d, rfl⟩ : ∃ e, d = e + 1 := ⟨d - 1, by omega⟩
  have hn := ht.1
  have loop : ∀ m (I : Nat → Int32) k, n - k = m → I 3 = nI n → I 4 = nI k → k ≤ n → Q none (wM (upd I 4 (nI (skN (fun i => isBl (t i)) n k))) J A B) → xG l d 132 Q 0 [some (.ref 0)] [] (wM I J A B) 0 0 := by
    intro m
    induction m with
    | zero =>
      intro I k hm h3 h4 hk hQ
      refine b_X11_blanks_0 (if_le h3 h4 (by omega) (by omega) (fun h => ?_) (fun h => absurd h (by omega)))
      rw [skN_end _ (by omega), ← h4, uu_s] at hQ
      exact hQ
    | succ m ih =>
      intro I k hm h3 h4 hk hQ
      have hb := ht.2 k (by omega)
      have hv : A 1 (I 4).toNatClampNeg = nI (t k) := by rw [cl_of h4 (by omega)]; exact hb.2
      have step : isBl (t k) = true → xG l d 132 Q 0 [some (.ref 0)] [] (wM (upd I 4 (I 4 + 1)) J A B) 0 0 := fun hy =>
        ih (upd I 4 (I 4 + 1)) (k + 1) (by omega) (by rw [un_i (by decide)]; exact h3) (by rw [ue_i, h4]; exact nI_1 k) (by omega) (by rw [uu_i, ← skN_yes (fun i => isBl (t i)) (by omega) hy]; exact hQ)
      refine b_X11_blanks_0 (if_le h3 h4 (by omega) (by omega) (fun h => absurd h (by omega)) (fun h => ⟨xin_of h4 (by omega) (by omega), if_eq hv (b := 32) rfl (by omega) (by omega) (fun h => step (isBl_iff.mpr (Or.inl h))) (fun h1 => ⟨xin_of h4 (by omega) (by omega), if_eq hv (b := 10) rfl (by omega) (by omega) (fun h => step (isBl_iff.mpr (Or.inr h))) (fun h2 => ?_)⟩)⟩))
      have hno : (fun i => isBl (t i)) k = false := by
        cases h : isBl (t k) with
        | false => exact h
        | true => rcases isBl_iff.mp h with h | h <;> contradiction
      rw [skN_no (fun i => isBl (t i)) hno, ← h4, uu_s] at hQ
      exact hQ
  exact xentry xok rfl rfl (loop (n - k) I k rfl h3 h4 hk hQ)
end M1
