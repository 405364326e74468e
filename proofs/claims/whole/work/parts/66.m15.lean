/-! ===== the reference: adds ===== -/
theorem m1_n {k : Nat} (h : 1 ≤ k) : nI k + (-1 : Int32) = nI (k - 1) := by
  obtain ⟨k, rfl⟩ : ∃ e, k = e + 1 := ⟨k - 1, by omega⟩
  rw [← nI_add, Int32.add_assoc, show nI 1 + (-1 : Int32) = 0 by decide +kernel, Int32.add_zero, Nat.add_sub_cancel]
theorem lN_sat_add (a b : Nat) : sat a + sat b < 9223372036854775808 := by have := sat_le a; have := sat_le b; omega
section M15
variable {l : Launch} {J : Nat → Int64} {A : Nat → Nat → Int32} {B : Nat → Nat → Int64} {Q : Option Value → XW → Prop} {d : Nat} {I : Nat → Int32}
theorem s_adds (hd : 2 ≤ d) {x y : Int32} {z : Int64} {c s n : Nat} {cst : Int} {V : Nat → Vl} (hx : x = nI c) (hc : c < 225) (hy : y = nI s) (hs : s < 10000) (hz : z = lN (sat n)) (h : cM A B c V)
    (hE : V s = none → (sL V).length = 60 → Q (some (.int 0)) (wM I J A B))
    (hO : ∀ (A' : Nat → Nat → Int32) (B' : Nat → Nat → Int64), cM A' B' c (apv V [(s, n, cst)]) → fcM c A B A' B' → Q (some (.int 1)) (wM I J A' B')) : xK l d 155 [.ref 0, .int x, .int y, .long z] (wM I J A B) Q := by
  obtain ⟨d, rfl⟩ : ∃ e, d = e + 1 := ⟨d - 1, by omega⟩
  subst hx; subst hy
  have h60 := h.1
  have h17 := h.2.1
  have hone : apv V [(s, n, cst)] = va_up V s (vA (V s) (some (n, cst))) := apv_one V (s, n, cst)
  rw [hone] at hO
  refine e_X11_adds (s_find (V := V) (by omega) rfl hc rfl hs h60 h17 (fun k hk => (h.2.2 k hk).1) (fun hv => ?_) (fun v hv => ?_))
  · refine b_X11_adds_6 ?_
    rw [if_pos rfl, cl_n (by omega), h17]
    refine ⟨xin_n hc (by omega), ?_⟩
    have hE2 := hE hv
    have hgo : (sL V).length ≠ 60 → xG l d 155 Q 66 [some (.ref 0), some (.int (nI c)), some (.int (nI s)), some (.long z), none, some (.int (nI (sL V).length))] [] (wM I J A B) 0 0 := fun e => ?_
    · generalize (sL V).length = len at h60 hE2 hgo
      exact if_eq (a := len) rfl (b := 60) rfl (by omega) (by omega) (fun e => ⟨Or.inl rfl, hE2 e⟩) (fun e => ⟨xin_n hc (by omega), hgo e⟩)
    rw [hv] at hO
    obtain ⟨i1, i2⟩ := sL_insG (V := V) (v := (n, cst)) hs hv
    have hixl := sL_le (V := V) hs
    have hadd : ∀ k : Nat, (64 : Int32) * nI c + nI k = nI (64 * c + k) := fun k => add_of (mul_of (a := 64) rfl rfl) rfl
    have ins : ∀ k (A1 : Nat → Nat → Int32) (B1 : Nat → Nat → Int64), k = ix V s → (∀ j, j < k → A1 18 (64 * c + j) = A 18 (64 * c + j) ∧ B1 20 (64 * c + j) = B 20 (64 * c + j)) → (∀ j, k < j → j ≤ (sL V).length → A1 18 (64 * c + j) = A 18 (64 * c + (j - 1)) ∧ B1 20 (64 * c + j) = B 20 (64 * c + (j - 1))) → (∀ i, i < 64 * c ∨ 64 * c + (sL V).length < i → A1 18 i = A 18 i ∧ B1 20 i = B 20 i) → (∀ p, p ≠ 18 → A1 p = A p) → (∀ p, p ≠ 20 → B1 p = B p) →
        (xin ((64 : Int32) * nI c + nI k) 14400 ∧ (xin ((64 : Int32) * nI c + nI k) 14400 ∧ (xin (nI c) 225 ∧ (xin (nI c) 225 ∧ (((1 : Int32) = 0 ∨ (1 : Int32) = 1) ∧ Q (some (.int 1)) (wM I J (va_up (va_up A1 17 (upd (A1 17) (nI c).toNatClampNeg ((A1 17 (nI c).toNatClampNeg) + 1))) 18 (upd (A1 18) ((64 : Int32) * nI c + nI k).toNatClampNeg (nI s))) (va_up B1 20 (vp_updL (B1 20) ((64 : Int32) * nI c + nI k).toNatClampNeg z)))))))) := by
      intro k A1 B1 hk f1 f2 f3 f4 f5
      rw [hadd]
      refine ⟨xin_n (by omega) (by omega), xin_n (by omega) (by omega), xin_n hc (by omega), xin_n hc (by omega), Or.inr rfl, ?_⟩
      rw [cl_n (by omega), cl_n (by omega)]
      refine hO _ _ ⟨by show (sL (va_up V s (some (n, cst)))).length ≤ 60; omega, ?_, fun j hj => ?_⟩ ⟨fun p a b e => ?_, fun i hi => ?_, fun i hi => ⟨?_, ?_⟩, fun p hp => ?_⟩
      · rw [un_v (by decide), ue_v, ue_i, f4 17 (by decide), h17, nI_1]
        show nI _ = nI (sL (va_up V s (some (n, cst)))).length
        rw [i1]
      · have hj' : j < (sL V).length + 1 := by rw [← i1]; exact hj
        show _ = nI ((sL (va_up V s (some (n, cst)))).getD j 0) ∧ _ = lN (sat (wy (va_up V s (some (n, cst)) ((sL (va_up V s (some (n, cst)))).getD j 0))))
        rw [i2 j, ue_v, ue_v]
        by_cases c1 : j < ix V s
        · have g := sL_lt hs c1
          rw [if_pos c1, un_i (by omega), un_l (by omega), (f1 j (by omega)).1, (f1 j (by omega)).2, un_v (by omega)]
          exact h.2.2 j g.1
        · rw [if_neg c1]
          by_cases c2 : j = ix V s
          · rw [if_pos c2, ue_v, c2, ← hk, ue_i, ue_l]; exact ⟨rfl, hz⟩
          · have g := sL_ge hs (show ix V s ≤ j - 1 by omega) (show j - 1 < (sL V).length by omega)
            have g2 := sL_in (V := V) (show j - 1 < (sL V).length by omega)
            have g3 : (sL V).getD (j - 1) 0 ≠ s := fun q => by rw [q, hv] at g2; exact absurd g2.2 (by decide)
            rw [if_neg c2, un_v g3, un_i (by omega), un_l (by omega), (f2 j (by omega) (by omega)).1, (f2 j (by omega) (by omega)).2]
            exact h.2.2 (j - 1) (by omega)
      · rw [un_v e, un_v b]; exact f4 p e
      · rw [un_v (by decide), ue_v, un_i hi, f4 17 (by decide)]
      · rw [ue_v, un_i (by omega)]; exact (f3 i (by omega)).1
      · rw [ue_v, un_l (by omega)]; exact (f3 i (by omega)).2
      · rw [un_v hp]; exact f5 p hp
    have loop : ∀ m k (A1 : Nat → Nat → Int32) (B1 : Nat → Nat → Int64), k - ix V s < m → ix V s ≤ k → k ≤ (sL V).length → (∀ j, j < k → A1 18 (64 * c + j) = A 18 (64 * c + j) ∧ B1 20 (64 * c + j) = B 20 (64 * c + j)) → (∀ j, k < j → j ≤ (sL V).length → A1 18 (64 * c + j) = A 18 (64 * c + (j - 1)) ∧ B1 20 (64 * c + j) = B 20 (64 * c + (j - 1))) → (∀ i, i < 64 * c ∨ 64 * c + (sL V).length < i → A1 18 i = A 18 i ∧ B1 20 i = B 20 i) → (∀ p, p ≠ 18 → A1 p = A p) → (∀ p, p ≠ 20 → B1 p = B p) → xG l d 155 Q 66 [some (.ref 0), some (.int (nI c)), some (.int (nI s)), some (.long z), none, some (.int (nI k))] [] (wM I J A1 B1) 0 0 := by
      intro m
      induction m with
      | zero => intro k A1 B1 hm; omega
      | succ m ih =>
        intro k A1 B1 hm hk1 hk2 f1 f2 f3 f4 f5
        refine b_X11_adds_66 (if_le rfl (b := 0) rfl (by omega) (by omega) (fun w => ins k A1 B1 (by omega) f1 f2 f3 f4 f5) (fun w => ?_))
        have e1 : (64 : Int32) * nI c + nI k - 1 = nI (64 * c + (k - 1)) := by
          rw [hadd, show (1 : Int32) = nI 1 from rfl, sub_n (by omega), show 64 * c + k - 1 = 64 * c + (k - 1) by omega]
        rw [e1, cl_n (by omega)]
        have hin := sL_in (V := V) (show k - 1 < (sL V).length by omega)
        refine ⟨xin_n (by omega) (by omega), if_le (by rw [(f1 (k - 1) (by omega)).1]; exact (h.2.2 (k - 1) (by omega)).1) rfl (by omega) (by omega) (fun w2 => ?_) (fun w2 => ?_)⟩
        · refine ins k A1 B1 ?_ f1 f2 f3 f4 f5
          by_cases q : ix V s ≤ k - 1
          · have g := sL_ge (V := V) hs q (by omega)
            have g3 : (sL V).getD (k - 1) 0 = s := by omega
            rw [g3, hv] at hin; exact absurd hin.2 (by decide)
          · omega
        · rw [hadd, cl_n (by omega)]
          refine ⟨xin_n (by omega) (by omega), xin_n (by omega) (by omega), xin_n (by omega) (by omega), xin_n (by omega) (by omega), ?_⟩
          have hix : ix V s ≤ k - 1 := by
            by_cases q : k - 1 < ix V s
            · have := (sL_lt (V := V) hs q).2; omega
            · omega
          rw [m1_n (by omega)]
          refine ih (k - 1) _ _ (by omega) hix (by omega) (fun j hj => ?_) (fun j hj hj2 => ?_) (fun i hi => ?_) (fun p hp => by rw [un_v hp]; exact f4 p hp) (fun p hp => by rw [un_v hp]; exact f5 p hp)
          · rw [ue_v, ue_v, un_i (by omega), un_l (by omega)]; exact f1 j (by omega)
          · rw [ue_v, ue_v]
            by_cases q : j = k
            · subst q; rw [ue_i, ue_l]; exact f1 (j - 1) (by omega)
            · rw [un_i (by omega), un_l (by omega)]; exact f2 j (by omega) hj2
          · rw [ue_v, ue_v, un_i (by omega), un_l (by omega)]; exact f3 i hi
    exact loop _ (sL V).length A B (Nat.lt_succ_self _) hixl (Nat.le_refl _) (fun _ _ => ⟨rfl, rfl⟩) (fun j a b => by omega) (fun _ _ => ⟨rfl, rfl⟩) (fun _ _ => rfl) (fun _ _ => rfl)
  · have hsome : (V s).isSome = true := by rw [hv]; rfl
    obtain ⟨a1, a2⟩ := sL_at hs hsome
    have hb := h.2.2 (ix V s) a1
    rw [a2, hv] at hb
    refine b_X11_adds_6 ?_
    rw [if_neg (ne_m1 (by omega)), show (64 : Int32) * nI c + nI (ix V s) = nI (64 * c + ix V s) from add_of (mul_of (a := 64) rfl rfl) rfl, cl_n (by omega), hb.2, hz]
    refine ⟨xin_n (by omega) (by omega), s_full (by omega) (ln_add _ _) (lN_sat_add _ _) (b_X11_adds_42 ⟨xin_n (by omega) (by omega), Or.inr rfl, ?_⟩)⟩
    rw [cl_n (by omega)]
    have e2 : va_up V s (vA (V s) (some (n, cst))) = va_up V s (some (v.1 + n, min v.2 cst)) := by rw [hv]; rfl
    rw [e2] at hO
    have sm := sL_same (v := (v.1 + n, min v.2 cst)) hs hsome
    refine hO _ _ ⟨by rw [sm]; exact h60, by rw [sm]; exact h17, fun k hk => ?_⟩ ⟨fun _ _ _ _ => rfl, fun _ _ => rfl, fun i hi => ⟨rfl, ?_⟩, fun p hp => un_v hp⟩
    · rw [sm] at hk ⊢
      refine ⟨(h.2.2 k hk).1, ?_⟩
      rw [ue_v]
      by_cases e : k = ix V s
      · subst e; rw [a2, ue_v, ue_l]; show lN (sat (sat v.1 + sat n)) = lN (sat (v.1 + n)); rw [sat_add]
      · have : (sL V).getD k 0 ≠ s := fun q => e (by have := ix_at hk; rw [q] at this; exact this.symm)
        rw [un_v this, un_l (by omega)]; exact (h.2.2 k hk).2
    · rw [ue_v, un_l (by omega)]
end M15
