/-! ===== the reference: hold ===== -/
section M11
variable {l : Launch} {I : Nat → Int32} {J : Nat → Int64} {A : Nat → Nat → Int32} {B : Nat → Nat → Int64} {Q : Option Value → XW → Prop} {d : Nat}
theorem s_hold0 (hd : 1 ≤ d) {x : Int32} (hx : x = 0) (hQ : Q none (wM I J A B)) : xK l d 148 [.ref 0, .int x] (wM I J A B) Q := by
  obtain ⟨d, rfl⟩ : ∃ e, d = e + 1 := ⟨d - 1, by omega⟩
  refine e_X11_hold ?_
  rw [if_pos hx]
  exact b_X11_hold_233 hQ
set_option maxHeartbeats 2000000 in
theorem s_hold (hd : 2 ≤ d) {f : Nat → Nat → Bool} {nc : Nat} (hf : ∀ a b, a < 16 → b < 16 → A 12 (16 * a + b) = bI (f a b)) (h27 : I 27 = nI nc) (hnc : nc ≤ 16) {x : Int32} (hx : x = 1)
    (hQ : ∀ (A' : Nat → Nat → Int32) (B' : Nat → Nat → Int64), (∀ i, i < 40 → A' 4 i = A 4 (40 + i) ∧ A' 5 i = A 5 (40 + i) ∧ B' 2 i = B 2 (40 + i)) → (∀ p i, 6 ≤ p → p ≤ 9 → i < 30 → A' p i = A p (30 + i)) → (∀ i, i < 240 → A' 11 i = A 11 (240 + i)) → (∀ i, i < 16 → B' 3 i = B 3 (16 + i)) → (∀ i, i < (ordL f nc).length → A' 13 i = nI ((ordL f nc).getD i 0)) → (∀ p, p ≠ 4 → p ≠ 5 → p ≠ 6 → p ≠ 7 → p ≠ 8 → p ≠ 9 → p ≠ 11 → p ≠ 13 → A' p = A p) → (∀ p, p ≠ 2 → p ≠ 3 → B' p = B p) → Q none (wM (upd (upd (upd I 22 (I 25)) 23 (I 26)) 24 (I 27)) J A' B')) : xK l d 148 [.ref 0, .int x] (wM I J A B) Q := by
  obtain ⟨d, rfl⟩ : ∃ e, d = e + 1 := ⟨d - 1, by omega⟩
  have i24 : upd (upd (upd I 22 (I 25)) 23 (I 26)) 24 (I 27) 24 = nI nc := by rw [ue_i]; exact h27
  generalize hI1 : upd (upd (upd I 22 (I 25)) 23 (I 26)) 24 (I 27) = I1 at hQ i24
  -- categories
  have loop3 : ∀ m k (A1 : Nat → Nat → Int32) (B1 : Nat → Nat → Int64), 16 - k = m → k ≤ 16 → (∀ i, i < 40 → A1 4 i = A 4 (40 + i) ∧ A1 5 i = A 5 (40 + i) ∧ B1 2 i = B 2 (40 + i)) → (∀ p i, 6 ≤ p → p ≤ 9 → i < 30 → A1 p i = A p (30 + i)) → (∀ i, i < 240 → A1 11 i = A 11 (240 + i)) → (∀ p, p ≠ 4 → p ≠ 5 → p ≠ 6 → p ≠ 7 → p ≠ 8 → p ≠ 9 → p ≠ 11 → A1 p = A p) → (∀ p, p ≠ 2 → p ≠ 3 → B1 p = B p) → (∀ i, B1 3 i = if i < k then B 3 (16 + i) else B 3 i) →
      xG l d 148 Q 202 [some (.ref 0), none, some (.int (nI k)), none] [] (wM I1 J A1 B1) 0 0 := by
    intro m
    induction m with
    | zero =>
      intro k A1 B1 hm hk h1 h2 h3 h4 h5 h6
      have ek : k = 16 := by omega
      refine b_X11_hold_202 (if_le (a := 16) rfl rfl (by omega) (by omega) (fun _ => ?_) (fun h => absurd h (by omega)))
      refine s_arrange (by omega) (f := f) (nc := nc) (fun a b ha hb => by rw [h4 12 (by decide) (by decide) (by decide) (by decide) (by decide) (by decide) (by decide)]; exact hf a b ha hb) i24 hnc (fun L hL => ?_)
      refine b_X11_hold_233 (hQ (va_up A1 13 L) B1 (fun i hi => by rw [un_v (by decide), un_v (by decide)]; exact h1 i hi) (fun p i a b c => by rw [un_v (by omega)]; exact h2 p i a b c) (fun i hi => by rw [un_v (by decide)]; exact h3 i hi) (fun i hi => by rw [h6 i, if_pos (by omega)]) (fun i hi => by rw [ue_v]; exact hL i hi) (fun p a b c dd e ff g h => by rw [un_v h]; exact h4 p a b c dd e ff g) h5)
    | succ m ih =>
      intro k A1 B1 hm hk h1 h2 h3 h4 h5 h6
      have e16 : (16 : Int32) + nI k = nI (16 + k) := add_of rfl rfl
      refine b_X11_hold_202 (if_le (a := 16) rfl rfl (by omega) (by omega) (fun h => absurd h (by omega)) (fun _ => ⟨xin_of e16 (by omega) (by omega), xin_of rfl (by omega) (by omega), ?_⟩))
      rw [e16, cl_n (by omega), cl_n (by omega), nI_1]
      refine ih (k + 1) A1 _ (by omega) (by omega) (fun i hi => ⟨(h1 i hi).1, (h1 i hi).2.1, by rw [un_v (by decide)]; exact (h1 i hi).2.2⟩) h2 h3 h4 (fun p a b => by rw [un_v b]; exact h5 p a b) (fun i => ?_)
      rw [ue_v]
      by_cases e : i = k
      · subst e; rw [ue_l, if_pos (by omega), h6, if_neg (by omega)]
      · rw [un_l e, h6 i]
        by_cases e2 : i < k
        · rw [if_pos e2, if_pos (by omega)]
        · rw [if_neg e2, if_neg (by omega)]
  -- rules
  have loop2 : ∀ m k (A1 : Nat → Nat → Int32) (B1 : Nat → Nat → Int64), 30 - k = m → k ≤ 30 → (∀ i, i < 40 → A1 4 i = A 4 (40 + i) ∧ A1 5 i = A 5 (40 + i) ∧ B1 2 i = B 2 (40 + i)) → (∀ p i, 6 ≤ p → p ≤ 9 → A1 p i = if i < k then A p (30 + i) else A p i) → (∀ i, A1 11 i = if i < 8 * k then A 11 (240 + i) else A 11 i) → (∀ p, p ≠ 4 → p ≠ 5 → p ≠ 6 → p ≠ 7 → p ≠ 8 → p ≠ 9 → p ≠ 11 → A1 p = A p) → (∀ p, p ≠ 2 → B1 p = B p) →
      xG l d 148 Q 89 [some (.ref 0), none, some (.int (nI k)), none] [] (wM I1 J A1 B1) 0 0 := by
    intro m
    induction m with
    | zero =>
      intro k A1 B1 hm hk h1 h2 h3 h4 h5
      have ek : k = 30 := by omega
      refine b_X11_hold_89 (if_le (a := 30) rfl rfl (by omega) (by omega) (fun _ => ?_) (fun h => absurd h (by omega)))
      exact loop3 16 0 A1 B1 rfl (by omega) h1 (fun p i a b c => by rw [h2 p i a b, if_pos (by omega)]) (fun i hi => by rw [h3 i, if_pos (by omega)]) h4 (fun p a _ => h5 p a) (fun i => by rw [if_neg (by omega), h5 3 (by decide)])
    | succ m ih =>
      intro k A1 B1 hm hk h1 h2 h3 h4 h5
      have e30 : (30 : Int32) + nI k = nI (30 + k) := add_of rfl rfl
      have laws : ∀ u q (A2 : Nat → Nat → Int32), 8 - q = u → q ≤ 8 → (∀ i, i < 40 → A2 4 i = A 4 (40 + i) ∧ A2 5 i = A 5 (40 + i)) → (∀ p i, 6 ≤ p → p ≤ 9 → A2 p i = if i < k + 1 then A p (30 + i) else A p i) → (∀ i, A2 11 i = if i < 8 * k + q then A 11 (240 + i) else A 11 i) → (∀ p, p ≠ 4 → p ≠ 5 → p ≠ 6 → p ≠ 7 → p ≠ 8 → p ≠ 9 → p ≠ 11 → A2 p = A p) →
          xG l d 148 Q 157 [some (.ref 0), none, some (.int (nI k)), some (.int (nI q))] [] (wM I1 J A2 B1) 0 0 := by
        intro u
        induction u with
        | zero =>
          intro q A2 hu hq g1 g2 g3 g4
          have eq8 : q = 8 := by omega
          refine b_X11_hold_157 (if_le (a := 8) rfl rfl (by omega) (by omega) (fun _ => ?_) (fun h => absurd h (by omega)))
          rw [nI_1]
          exact ih (k + 1) A2 B1 (by omega) (by omega) (fun i hi => ⟨(g1 i hi).1, (g1 i hi).2, (h1 i hi).2.2⟩) g2 (fun i => by rw [g3 i, eq8, show 8 * k + 8 = 8 * (k + 1) by omega]) g4 h5
        | succ u ih2 =>
          intro q A2 hu hq g1 g2 g3 g4
          have e1 : (8 : Int32) * ((30 : Int32) + nI k) + nI q = nI (8 * (30 + k) + q) := add_of (mul_of rfl e30) rfl
          have e2 : (8 : Int32) * nI k + nI q = nI (8 * k + q) := add_of (mul_of rfl rfl) rfl
          refine b_X11_hold_157 (if_le (a := 8) rfl rfl (by omega) (by omega) (fun h => absurd h (by omega)) (fun _ => ⟨xin_of e1 (by omega) (by omega), xin_of e2 (by omega) (by omega), ?_⟩))
          rw [e1, e2, cl_n (by omega), cl_n (by omega), nI_1]
          refine ih2 (q + 1) _ (by omega) (by omega) (fun i hi => by rw [un_v (by decide), un_v (by decide)]; exact g1 i hi) (fun p i a b => by rw [un_v (by omega)]; exact g2 p i a b) (fun i => ?_) (fun p a b c dd e ff g => by rw [un_v g]; exact g4 p a b c dd e ff g)
          rw [ue_v]
          by_cases e : i = 8 * k + q
          · subst e; rw [ue_i, if_pos (by omega), g3, if_neg (by omega), show 8 * (30 + k) + q = 240 + (8 * k + q) by omega]
          · rw [un_i e, g3 i]
            by_cases e3 : i < 8 * k + q
            · rw [if_pos e3, if_pos (by omega)]
            · rw [if_neg e3, if_neg (by omega)]
      refine b_X11_hold_89 (if_le (a := 30) rfl rfl (by omega) (by omega) (fun h => absurd h (by omega)) (fun _ => ⟨xin_of e30 (by omega) (by omega), xin_of rfl (by omega) (by omega), xin_of e30 (by omega) (by omega), xin_of rfl (by omega) (by omega), xin_of e30 (by omega) (by omega), xin_of rfl (by omega) (by omega), xin_of e30 (by omega) (by omega), xin_of rfl (by omega) (by omega), ?_⟩))
      rw [e30, cl_n (by omega), cl_n (by omega)]
      have cp : ∀ p, 6 ≤ p → p ≤ 9 → ∀ i, upd (A1 p) k (A1 p (30 + k)) i = if i < k + 1 then A p (30 + i) else A p i := fun p a b i => by
        by_cases e : i = k
        · subst e; rw [ue_i, if_pos (by omega), h2 p _ a b, if_neg (by omega)]
        · rw [un_i e, h2 p i a b]
          by_cases e2 : i < k
          · rw [if_pos e2, if_pos (by omega)]
          · rw [if_neg e2, if_neg (by omega)]
      refine laws 8 0 _ rfl (by omega) (fun i hi => ?_) (fun p i a b => ?_) (fun i => ?_) (fun p a b c dd e ff g => ?_)
      · rw [un_v (by decide), un_v (by decide), un_v (by decide), un_v (by decide), un_v (by decide), un_v (by decide), un_v (by decide), un_v (by decide)]
        exact ⟨(h1 i hi).1, (h1 i hi).2.1⟩
      · have hp : p = 6 ∨ p = 7 ∨ p = 8 ∨ p = 9 := by omega
        rcases hp with rfl | rfl | rfl | rfl
        · rw [un_v (by decide), un_v (by decide), un_v (by decide), ue_v]; exact cp 6 a b i
        · rw [un_v (by decide), un_v (by decide), ue_v]; exact cp 7 a b i
        · rw [un_v (by decide), ue_v]; exact cp 8 a b i
        · rw [ue_v]; exact cp 9 a b i
      · rw [un_v (by decide), un_v (by decide), un_v (by decide), un_v (by decide), h3 i]; rfl
      · rw [un_v ff, un_v e, un_v dd, un_v c]; exact h4 p a b c dd e ff g
  -- entries
  have loop1 : ∀ m k (A1 : Nat → Nat → Int32) (B1 : Nat → Nat → Int64), 40 - k = m → k ≤ 40 → (∀ p i, p = 4 ∨ p = 5 → A1 p i = if i < k then A p (40 + i) else A p i) → (∀ i, B1 2 i = if i < k then B 2 (40 + i) else B 2 i) → (∀ p, p ≠ 4 → p ≠ 5 → A1 p = A p) → (∀ p, p ≠ 2 → B1 p = B p) →
      xG l d 148 Q 30 [some (.ref 0), none, some (.int (nI k)), none] [] (wM I1 J A1 B1) 0 0 := by
    intro m
    induction m with
    | zero =>
      intro k A1 B1 hm hk h1 h2 h3 h4
      have ek : k = 40 := by omega
      refine b_X11_hold_30 (if_le (a := 40) rfl rfl (by omega) (by omega) (fun _ => ?_) (fun h => absurd h (by omega)))
      exact loop2 30 0 A1 B1 rfl (by omega) (fun i hi => ⟨by rw [h1 4 i (Or.inl rfl), if_pos (by omega)], by rw [h1 5 i (Or.inr rfl), if_pos (by omega)], by rw [h2 i, if_pos (by omega)]⟩) (fun p i a b => by rw [if_neg (by omega), h3 p (by omega) (by omega)]) (fun i => by rw [if_neg (by omega), h3 11 (by decide) (by decide)]) (fun p a b _ _ _ _ _ => h3 p a b) h4
    | succ m ih =>
      intro k A1 B1 hm hk h1 h2 h3 h4
      have e40 : (40 : Int32) + nI k = nI (40 + k) := add_of rfl rfl
      refine b_X11_hold_30 (if_le (a := 40) rfl rfl (by omega) (by omega) (fun h => absurd h (by omega)) (fun _ => ⟨xin_of e40 (by omega) (by omega), xin_of rfl (by omega) (by omega), xin_of e40 (by omega) (by omega), xin_of rfl (by omega) (by omega), xin_of e40 (by omega) (by omega), xin_of rfl (by omega) (by omega), ?_⟩))
      rw [e40, cl_n (by omega), cl_n (by omega), nI_1]
      have cp : ∀ p, p = 4 ∨ p = 5 → ∀ i, upd (A1 p) k (A1 p (40 + k)) i = if i < k + 1 then A p (40 + i) else A p i := fun p hp i => by
        by_cases e : i = k
        · subst e; rw [ue_i, if_pos (by omega), h1 p _ hp, if_neg (by omega)]
        · rw [un_i e, h1 p i hp]
          by_cases e2 : i < k
          · rw [if_pos e2, if_pos (by omega)]
          · rw [if_neg e2, if_neg (by omega)]
      refine ih (k + 1) _ _ (by omega) (by omega) (fun p i hp => ?_) (fun i => ?_) (fun p a b => by rw [un_v b, un_v a]; exact h3 p a b) (fun p a => by rw [un_v a]; exact h4 p a)
      · rcases hp with rfl | rfl
        · rw [un_v (by decide), ue_v]; exact cp 4 (Or.inl rfl) i
        · rw [ue_v]; exact cp 5 (Or.inr rfl) i
      · rw [ue_v]
        by_cases e : i = k
        · subst e; rw [ue_l, if_pos (by omega), h2, if_neg (by omega)]
        · rw [un_l e, h2 i]
          by_cases e2 : i < k
          · rw [if_pos e2, if_pos (by omega)]
          · rw [if_neg e2, if_neg (by omega)]
  refine e_X11_hold ?_
  rw [if_neg (by rw [hx]; decide), hI1]
  exact loop1 40 0 A B rfl (by omega) (fun p i _ => by rw [if_neg (by omega)]) (fun i => by rw [if_neg (by omega)]) (fun _ _ _ => rfl) (fun _ _ => rfl)
end M11
