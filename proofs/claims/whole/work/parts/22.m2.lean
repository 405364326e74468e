/-! ===== the reference: names and tokens ===== -/
theorem skN_eq {p : Nat → Bool} {n k q : Nat} (h1 : k ≤ q) (h2 : q ≤ n) (h3 : ∀ i, k ≤ i → i < q → p i = true) (h4 : q = n ∨ p q = false) : skN p n k = q := by
  obtain ⟨m, rfl⟩ : ∃ m, q = k + m := ⟨q - k, by omega⟩
  clear h1
  induction m generalizing k with
  | zero =>
    rcases h4 with h4 | h4
    · exact skN_end p (by omega)
    · exact skN_no p h4
  | succ m ih =>
    rw [skN_yes p (by omega) (h3 k (by omega) (by omega))]
    have := ih (k := k + 1) (by omega) (fun i a b => h3 i (by omega) (by omega)) (by rw [show k + 1 + m = k + (m + 1) by omega]; exact h4)
    rw [this]; omega
theorem nm_step {c b : Nat} (h : 96 ≤ b) (hb : b < 256) {v : Int64} (hv : v = lN c) : ((27 : Int64) * v + (nI b).toInt64) - 96 = lN (27 * c + (b - 96)) := by
  subst hv
  rw [nI_l (by omega), show (27 : Int64) = lN 27 from rfl, show (96 : Int64) = lN 96 from rfl, lN_mul, lN_add, lN_sub (by omega)]
  congr 1; omega
section M2
variable {l : Launch} {J : Nat → Int64} {A : Nat → Nat → Int32} {B : Nat → Nat → Int64} {Q : Option Value → XW → Prop} {d : Nat} {t : Nat → Nat} {n : Nat}
set_option maxHeartbeats 1000000 in
theorem s_readName (ht : tpM A t n) (hd : 2 ≤ d) {I : Nat → Int32} {k : Nat} (h3 : I 3 = nI n) (h4 : I 4 = nI k) (h5 : I 5 = nI k) (hk : k < n) (hLD : isLD (t k) = true)
    (hQ : ∀ v : Int64, (nmK t n k = 2 → v = lN (c27 (ltr t k (skN (fun i => isLD (t i)) n k)))) → Q none (wM (upd (upd (upd I 8 (nI (t k) - 48)) 4 (nI (skN (fun i => isLD (t i)) n k))) 6 (nI (nmK t n k))) (va_up J 9 v) A B)) : xK l d 134 [.ref 0] (wM I J A B) Q := by
  obtain ⟨d, rfl⟩ : ∃ e, d = e + 1 := ⟨d - 1, by omega⟩
  have hn := ht.1
  have hv0 : A 1 (I 4).toNatClampNeg = nI (t k) := by rw [cl_of h4 (by omega)]; exact (ht.2 k hk).2
  generalize hI0 : upd I 8 (nI (t k) - 48) = I0 at hQ
  have h03 : I0 3 = nI n := by rw [← hI0, un_i (by decide)]; exact h3
  have h05 : I0 5 = nI k := by rw [← hI0, un_i (by decide)]; exact h5
  have h04 : I0 4 = nI k := by rw [← hI0, un_i (by decide)]; exact h4
  have ex : ∀ p (v : Int64) (g : Bool), k ≤ p → p ≤ n → (∀ i, k ≤ i → i < p → isLD (t i) = true) → (g = true ↔ ∀ i, k ≤ i → i < p → isLe (t i) = isLe (t k)) → ((∀ i, k ≤ i → i < p → isLe (t i) = true) → p ≤ k + 10 → v = lN (c27 (ltr t k p))) → (p = n ∨ isLD (t p) = false) → ∀ r : Int32, r = 0 →
      xG l d 134 Q 61 [some (.ref 0), some (.int (if isLe (t k) = true then 1 else 0)), some (.int (if g = true then 1 else 0)), none] [.int r] (wM (upd I0 4 (nI p)) (va_up J 9 v) A B) 0 0 := by
    intro p v g hkp hpn hall hg hv hst r hr
    have c4 : upd I0 4 (nI p) 4 = nI p := ue_i _ _ _
    have c5 : upd I0 4 (nI p) 5 = nI k := by rw [un_i (by decide)]; exact h05
    have he : skN (fun i => isLD (t i)) n k = p := skN_eq hkp hpn hall hst
    have hkp1 : k < p := by
      rcases Nat.lt_or_ge k p with z | z
      · exact z
      · have : p = k := by omega
        subst this
        rcases hst with h | h
        · omega
        · rw [hLD] at h; cases h
    have cs : upd I0 4 (nI p) 4 - upd I0 4 (nI p) 5 = nI (p - k) := sub_of c4 c5 hkp
    have hle : ¬ (isLe (t k) = true ∧ isDi (t k) = true) := by rw [isLe_iff, isDi_iff]; omega
    have hor : isLe (t k) = true ∨ isDi (t k) = true := by simpa [isLD] using hLD
    rw [he] at hQ
    have fin : ∀ q, nmK t n k = q → (q = 2 → v = lN (c27 (ltr t k p))) → Q none (wM (upd (upd I0 4 (nI p)) 6 (nI q)) (va_up J 9 v) A B) := fun q e h => by
      have := hQ v (by rw [e]; exact h)
      rw [e] at this; exact this
    have hq1 : (g = false ∨ (isLe (t k) = false ∧ ¬ p = k + 1) ∨ (isLe (t k) = true ∧ k + 10 < p)) → nmK t n k = 1 := by
      intro h
      unfold nmK
      rw [he, if_neg, if_neg]
      · rintro ⟨a, b⟩
        rcases h with h | h | h
        · have hg' : g = true := hg.mpr (fun i x y => by rw [show i = k by omega])
          rw [h] at hg'; cases hg'
        · exact h.2 b
        · exact hle ⟨h.1, a⟩
      · rintro ⟨a, b⟩
        rw [allLe_iff] at a
        rcases h with h | h | h
        · have hg' : g = true := hg.mpr (fun i x y => by rw [a i x y, a k (Nat.le_refl _) hkp1])
          rw [h] at hg'; cases hg'
        · rw [a k (Nat.le_refl _) hkp1] at h; cases h.1
        · omega
    refine b_X11_readName_61 (if_eq (a := 0) hr (b := 0) rfl (by omega) (by omega) (fun _ => ?_) (fun h => absurd rfl h))
    refine if_b (b := g) rfl (fun hg0 => fin 1 (hq1 (Or.inl hg0)) (fun h => by omega)) (fun hg1 => ?_)
    have hsame := hg.mp hg1
    refine if_b (b := isLe (t k)) rfl (fun hd0 => ?_) (fun hl1 => ?_)
    · refine if_le cs (b := 1) rfl (by omega) (by omega) (fun h => ?_) (fun h => fin 1 (hq1 (Or.inr (Or.inl ⟨hd0, by omega⟩))) (fun h => by omega))
      refine if_b (b := isLe (t k)) rfl (fun _ => fin 3 ?_ (fun h => by omega)) (fun h => absurd hd0 (by rw [h]; decide))
      unfold nmK
      rw [he, if_neg, if_pos]
      · exact ⟨by rcases hor with h | h; · rw [hd0] at h; cases h
                  exact h, by omega⟩
      · rintro ⟨a, -⟩
        rw [allLe_iff] at a
        have := a k (Nat.le_refl _) hkp1
        rw [hd0] at this; cases this
    · have hal : ∀ i, k ≤ i → i < p → isLe (t i) = true := fun i a b => by rw [hsame i a b]; exact hl1
      refine if_le cs (b := 10) rfl (by omega) (by omega) (fun h => ?_) (fun h => fin 1 (hq1 (Or.inr (Or.inr ⟨hl1, by omega⟩))) (fun h => by omega))
      refine if_b (b := isLe (t k)) rfl (fun h => absurd hl1 (by rw [h]; decide)) (fun _ => fin 2 ?_ (fun _ => hv hal (by omega)))
      unfold nmK
      rw [he, if_pos ⟨allLe_iff.mpr hal, by omega⟩]
  have loop : ∀ m p (v : Int64) (g : Bool), n - p = m → k ≤ p → p ≤ n → (∀ i, k ≤ i → i < p → isLD (t i) = true) → (g = true ↔ ∀ i, k ≤ i → i < p → isLe (t i) = isLe (t k)) → ((∀ i, k ≤ i → i < p → isLe (t i) = true) → p ≤ k + 10 → v = lN (c27 (ltr t k p))) →
      xG l d 134 Q 36 [some (.ref 0), some (.int (if isLe (t k) = true then 1 else 0)), some (.int (if g = true then 1 else 0)), none] [] (wM (upd I0 4 (nI p)) (va_up J 9 v) A B) 0 0 := by
    intro m
    induction m with
    | zero =>
      intro p v g hm hkp hpn hall hg hv
      have e0 : p = n := by omega
      subst e0
      have c4 : upd I0 4 (nI p) 4 = nI p := ue_i _ _ _
      have c3 : upd I0 4 (nI p) 3 = nI p := by rw [un_i (by decide)]; exact h03
      have hz : (if p < p then t p else 0) = 0 := if_neg (by omega)
      refine b_X11_readName_36 (s_at ht (by omega) c4 (by omega) c3 ?_)
      rw [hz]
      refine b_X11_readName_44 (s_isLetter (by omega) rfl (by omega) ?_)
      refine b_X11_readName_47 (if_b (b := isLe 0) rfl (fun _ => ?_) (fun h => absurd h (by decide)))
      refine s_at ht (by omega) c4 (by omega) c3 ?_
      rw [hz]
      refine b_X11_readName_58 (s_isDigit (by omega) rfl (by omega) ?_)
      exact ex p v g hkp hpn hall hg hv (Or.inl rfl) _ rfl
    | succ m ih =>
      intro p v g hm hkp hpn hall hg hv
      have c4 : upd I0 4 (nI p) 4 = nI p := ue_i _ _ _
      have c3 : upd I0 4 (nI p) 3 = nI n := by rw [un_i (by decide)]; exact h03
      have c5 : upd I0 4 (nI p) 5 = nI k := by rw [un_i (by decide)]; exact h05
      have cs : upd I0 4 (nI p) 4 - upd I0 4 (nI p) 5 = nI (p - k) := sub_of c4 c5 hkp
      have hb := ht.2 p (by omega)
      have hz : (if p < n then t p else 0) = t p := if_pos (by omega)
      have hvv : A 1 (upd I0 4 (nI p) 4).toNatClampNeg = nI (t p) := by rw [cl_of c4 (by omega)]; exact hb.2
      have eW : upd (upd I0 4 (nI p)) 4 (upd I0 4 (nI p) 4 + 1) = upd I0 4 (nI (p + 1)) := by rw [uu_i, ue_i, nI_1]
      have nxt : isLD (t p) = true → ∀ (g' : Bool) (v' : Int64), (g' = true ↔ (g = true ∧ isLe (t p) = isLe (t k))) → (p < k + 10 → v' = ((27 : Int64) * v + (nI (t p)).toInt64) - 96) →
          xG l d 134 Q 36 [some (.ref 0), some (.int (if isLe (t k) = true then 1 else 0)), some (.int (if g' = true then 1 else 0)), none] [] (wM (upd I0 4 (nI (p + 1))) (va_up J 9 v') A B) 0 0 := fun hld g' v' hg' hv' =>
        ih (p + 1) v' g' (by omega) (by omega) (by omega) (fun i a b => by
          by_cases e : i = p
          · rw [e]; exact hld
          · exact hall i a (by omega)) (by
          rw [hg', hg]
          constructor
          · rintro ⟨a, b⟩ i x y
            by_cases e : i = p
            · rw [e]; exact b
            · exact a i x (by omega)
          · intro a
            exact ⟨fun i x y => a i x (by omega), a p hkp (by omega)⟩) (fun a b => by
          have hlp := a p hkp (by omega)
          rw [hv' (by omega), nm_step (by have := isLe_iff.mp hlp; omega) hb.1 (hv (fun i x y => a i x (by omega)) (by omega)), ltr_succ hkp, c27_snoc])
      have body : isLD (t p) = true → (xin (upd I0 4 (nI p) 4) 1540 ∧ (if (if g = true then (1 : Int32) else 0) = 0 then (if (10 : Int32) ≤ (upd I0 4 (nI p) 4 - upd I0 4 (nI p) 5) then xG l d 134 Q 36 [some (.ref 0), some (.int (if isLe (t k) = true then 1 else 0)), some (.int 0), none] [] (wM (upd (upd I0 4 (nI p)) 4 (upd I0 4 (nI p) 4 + 1)) (va_up J 9 v) A B) 0 0 else xG l d 134 Q 36 [some (.ref 0), some (.int (if isLe (t k) = true then 1 else 0)), some (.int 0), none] [] (wM (upd (upd I0 4 (nI p)) 4 (upd I0 4 (nI p) 4 + 1)) (va_up (va_up J 9 v) 9 (((27 * (va_up J 9 v 9)) + (A 1 (upd I0 4 (nI p) 4).toNatClampNeg).toInt64) - 96)) A B) 0 0)
          else xK l d 131 [.int (A 1 (upd I0 4 (nI p) 4).toNatClampNeg)] (wM (upd I0 4 (nI p)) (va_up J 9 v) A B) (fun v9 w9 => xG l d 134 Q 82 [some (.ref 0), some (.int (if isLe (t k) = true then 1 else 0)), none, some (.int (A 1 (upd I0 4 (nI p) 4).toNatClampNeg))] (v9.toList ++ []) w9 0 0))) := by
        intro hld
        refine ⟨xin_of c4 (by omega) (by omega), if_b (b := g) rfl (fun hg0 => ?_) (fun hg1 => ?_)⟩
        · refine if_le (a := 10) rfl cs (by omega) (by omega) (fun h => ?_) (fun h => ?_)
          · rw [eW]; exact nxt hld false v (by rw [hg0]; simp) (fun q => by omega)
          · rw [eW, uu_v, ue_v, hvv]; exact nxt hld false _ (by rw [hg0]; simp) (fun _ => rfl)
        · rw [hvv]
          refine s_isLetter (by omega) rfl hb.1 ?_
          refine b_X11_readName_82 ?_
          by_cases e : isLe (t p) = isLe (t k)
          · rw [if_pos (by rw [e])]
            refine if_le (a := 10) rfl cs (by omega) (by omega) (fun h => ?_) (fun h => ?_)
            · rw [eW]; exact nxt hld true v (by rw [hg1]; simp [e]) (fun q => by omega)
            · rw [eW, uu_v, ue_v]; exact nxt hld true _ (by rw [hg1]; simp [e]) (fun _ => rfl)
          · rw [if_neg (by intro z; apply e; cases h1 : isLe (t p) <;> cases h2 : isLe (t k) <;> simp_all)]
            refine if_le (a := 10) rfl cs (by omega) (by omega) (fun h => ?_) (fun h => ?_)
            · rw [eW]; exact nxt hld false v (by simp [e]) (fun q => by omega)
            · rw [eW, uu_v, ue_v]; exact nxt hld false _ (by simp [e]) (fun _ => rfl)
      refine b_X11_readName_36 (s_at ht (by omega) c4 (by omega) c3 ?_)
      rw [hz]
      refine b_X11_readName_44 (s_isLetter (by omega) rfl hb.1 ?_)
      refine b_X11_readName_47 (if_b (b := isLe (t p)) rfl (fun h1 => ?_) (fun h1 => body (by simp [isLD, h1])))
      refine s_at ht (by omega) c4 (by omega) c3 ?_
      rw [hz]
      refine b_X11_readName_58 (s_isDigit (by omega) rfl hb.1 ?_)
      cases h2 : isDi (t p) with
      | false => exact ex p v g hkp hpn hall hg hv (Or.inr (by simp [isLD, h1, h2])) _ rfl
      | true => exact b_X11_readName_61 (if_b (b := true) rfl (fun h => by cases h) (fun _ => body (by simp [isLD, h2])))
  refine xentry xok rfl rfl (b_X11_readName_0 ⟨xin_of h4 (by omega) (by omega), s_isLetter (by omega) hv0 ((ht.2 k hk).1) ?_⟩)
  refine b_X11_readName_12 ⟨xin_of h4 (by omega) (by omega), ?_⟩
  rw [hv0]
  have e1 : upd I 8 (nI (t k) - 48) = upd I0 4 (nI k) := by rw [hI0, ← h04, uu_s]
  rw [e1]
  exact loop (n - k) k 0 true rfl (Nat.le_refl _) (by omega) (fun i a b => absurd b (by omega)) ⟨fun _ i a b => absurd b (by omega), fun _ => rfl⟩ (fun _ _ => by simp [ltr, c27]; rfl)
end M2
