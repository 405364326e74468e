/-! ===== what leads to what has fewer to lead to ===== -/
theorem clA_eq (f : Nat → Nat → Bool) (c : Nat) : ∀ m x y, clA c m f x y = if x < m then (f x y || (f x c && f c y)) else f x y
  | 0, x, y => by rw [if_neg (by omega)]; rfl
  | m + 1, x, y => by
    show clS c m (clA c m f) x y = _
    unfold clS
    by_cases e : x = m
    · subst e
      rw [if_pos rfl, if_pos (by omega), clA_eq f c x x y, clA_eq f c x x c, clA_eq f c x c y, if_neg (by omega), if_neg (by omega)]
      by_cases h : c < x
      · rw [if_pos h]; cases f c y <;> cases f c c <;> simp
      · rw [if_neg h]
    · rw [if_neg e, clA_eq f c m x y]
      by_cases h : x < m
      · rw [if_pos h, if_pos (by omega)]
      · rw [if_neg h, if_neg (by omega)]
theorem clA_or {f : Nat → Nat → Bool} {c x y : Nat} : clA c 16 f x y = true ↔ f x y = true ∨ (x < 16 ∧ f x c = true ∧ f c y = true) := by
  rw [clA_eq]
  by_cases h : x < 16
  · rw [if_pos h, Bool.or_eq_true, Bool.and_eq_true]
    exact ⟨fun z => z.imp_right fun z => ⟨h, z⟩, fun z => z.imp_right fun z => z.2⟩
  · rw [if_neg h]
    exact ⟨Or.inl, fun z => z.elim id fun z => absurd z.1 h⟩
theorem clC_mono {f : Nat → Nat → Bool} {x y : Nat} (h : f x y = true) : ∀ m, clC m f x y = true
  | 0 => h
  | m + 1 => clA_or.mpr (Or.inl (clC_mono h m))
theorem clC_tr {f : Nat → Nat → Bool} (hs : supp f 16) : ∀ m x a b, x < m → clC m f a x = true → clC m f x b = true → clC m f a b = true
  | 0, x, a, b, h, _, _ => by omega
  | m + 1, x, a, b, h, h1, h2 => by
    have sp := supp_C hs m
    have up : ∀ {p q : Nat}, clC m f p m = true → clC m f m q = true → clC (m + 1) f p q = true := fun {p q} u v => clA_or.mpr (Or.inr ⟨(sp _ _ u).1, u, v⟩)
    have k1 : clC m f a x = true ∨ (clC m f a m = true ∧ clC m f m x = true) := (clA_or.mp h1).imp_right fun z => z.2
    have k2 : clC m f x b = true ∨ (clC m f x m = true ∧ clC m f m b = true) := (clA_or.mp h2).imp_right fun z => z.2
    by_cases e : x = m
    · subst e
      have u : clC x f a x = true := k1.elim id fun z => z.1
      have v : clC x f x b = true := k2.elim id fun z => z.2
      exact up u v
    · rcases k1 with u | u <;> rcases k2 with v | v
      · exact clA_or.mpr (Or.inl (clC_tr hs m x a b (by omega) u v))
      · exact up (clC_tr hs m x a m (by omega) u v.1) v.2
      · exact up u.1 (clC_tr hs m x m b (by omega) u.2 v)
      · exact up u.1 v.2
theorem clC_dec {f : Nat → Nat → Bool} (hs : supp f 16) : ∀ m {a b : Nat}, clC m f a b = true → ∃ c, f a c = true ∧ (c = b ∨ clC m f c b = true)
  | 0, a, b, h => ⟨b, h, Or.inl rfl⟩
  | m + 1, a, b, h => by
    rcases clA_or.mp h with z | ⟨ha, z1, z2⟩
    · obtain ⟨c, h1, h2⟩ := clC_dec hs m z
      exact ⟨c, h1, h2.imp_right fun q => clA_or.mpr (Or.inl q)⟩
    · obtain ⟨c, h1, h2⟩ := clC_dec hs m z1
      refine ⟨c, h1, Or.inr ?_⟩
      rcases h2 with e | q
      · subst e; exact clA_or.mpr (Or.inl z2)
      · exact clA_or.mpr (Or.inr ⟨(hs _ _ h1).2, q, z2⟩)
theorem cnt_lt {p q : Nat → Bool} {l : List Nat} {a : Nat} (h : ∀ x ∈ l, p x = true → q x = true) (ha : a ∈ l) (hp : p a = false) (hq : q a = true) : l.countP p < l.countP q := by
  induction l with
  | nil => cases ha
  | cons x l ih =>
    have hm : l.countP p ≤ l.countP q := List.countP_mono_left fun y hy => h y (List.mem_cons_of_mem _ hy)
    rw [List.countP_cons, List.countP_cons]
    rcases List.mem_cons.mp ha with e | e
    · subst e; rw [if_neg (by rw [hp]; decide), if_pos hq]; omega
    · have := ih (fun y hy => h y (List.mem_cons_of_mem _ hy)) e
      have hx := h x (List.mem_cons_self ..)
      by_cases c : p x = true
      · rw [if_pos c, if_pos (hx c)]; omega
      · rw [if_neg c]; split <;> omega
theorem cl0_iff {rs : List Rule} {a b : Nat} : cl0 rs a b = true ↔ ∃ R ∈ rs, R.2.2.1 = none ∧ R.1 = a ∧ R.2.1 = b := by
  unfold cl0; rw [List.any_eq_true]; simp
theorem lpR_no {rs : List Rule} (h : rs.find? (lpR (clos rs)) = none) {R : Rule} (hR : R ∈ rs) (h1 : R.2.2.1 = none) : R.2.1 ≠ R.1 ∧ clos rs R.2.1 R.1 = false := by
  have := List.find?_eq_none.mp h R hR
  unfold lpR at this
  rw [h1] at this
  simp at this
  exact this
theorem rank_lt {rs : List Rule} {nc : Nat} (hs : ∀ R ∈ rs, R.1 < nc ∧ R.2.1 < nc) (hn : nc ≤ 16) (h : rs.find? (lpR (clos rs)) = none) {R : Rule} (hR : R ∈ rs) (h1 : R.2.2.1 = none) : cntC (clos rs) R.2.1 < cntC (clos rs) R.1 := by
  have sp0 : supp (cl0 rs) 16 := fun x y z => by have := supp_0 hs x y z; omega
  have e0 : clos rs R.1 R.2.1 = true := clC_mono (cl0_iff.mpr ⟨R, hR, h1, rfl, rfl⟩) 16
  have hf : R.2.1 < 16 := by have := (hs R hR).2; omega
  refine cnt_lt (a := R.2.1) (fun x hx hp => ?_) (List.mem_range.mpr hf) ?_ e0
  · exact clC_tr sp0 16 R.2.1 R.1 x hf e0 hp
  · cases z : clos rs R.2.1 R.2.1 with
    | false => rfl
    | true =>
      obtain ⟨c, h2, h3⟩ := clC_dec sp0 16 z
      obtain ⟨R', hR', h4, h5, h6⟩ := cl0_iff.mp h2
      have := lpR_no h hR' h4
      rw [h5, h6] at this
      rcases h3 with e | e
      · exact absurd e this.1
      · rw [show clC 16 (cl0 rs) = clos rs from rfl, this.2] at e; cases e
