/-! ===== values of signs: how many trees, the least cost; lists of additions ===== -/
abbrev Vl : Type := Option (Nat × Int)
def vA : Vl → Vl → Vl
  | none, b => b
  | some a, none => some a
  | some a, some b => some (a.1 + b.1, min a.2 b.2)
theorem vA_n (a : Vl) : vA a none = a := by cases a <;> rfl
theorem vA_z (a : Vl) : vA none a = a := by cases a <;> rfl
theorem vA_c (a b : Vl) : vA a b = vA b a := by
  cases a with
  | none => cases b <;> rfl
  | some a => cases b with
    | none => rfl
    | some b => simp only [vA]; rw [Nat.add_comm, Int.min_comm]
theorem vA_a (a b c : Vl) : vA (vA a b) c = vA a (vA b c) := by
  cases a with
  | none => rfl
  | some a => cases b with
    | none => rfl
    | some b => cases c with
      | none => rfl
      | some c => simp only [vA]; rw [Nat.add_assoc, Int.min_assoc]
theorem vA_some {a b : Vl} : (vA a b).isSome = (a.isSome || b.isSome) := by cases a <;> cases b <;> rfl
abbrev Op : Type := Nat × Nat × Int
def tot : List Op → Nat → Vl
  | [], _ => none
  | o :: L, s => if o.1 = s then vA (some o.2) (tot L s) else tot L s
theorem tot_app (L M : List Op) (s : Nat) : tot (L ++ M) s = vA (tot L s) (tot M s) := by
  induction L with
  | nil => exact (vA_z _).symm
  | cons o L ih =>
    show (if o.1 = s then vA (some o.2) (tot (L ++ M) s) else tot (L ++ M) s) = vA (if o.1 = s then vA (some o.2) (tot L s) else tot L s) (tot M s)
    rw [ih]
    by_cases h : o.1 = s
    · rw [if_pos h, if_pos h, vA_a]
    · rw [if_neg h, if_neg h]
theorem tot_none {L : List Op} {s : Nat} (h : ∀ o ∈ L, o.1 ≠ s) : tot L s = none := by
  induction L with
  | nil => rfl
  | cons o L ih =>
    show (if o.1 = s then _ else tot L s) = none
    rw [if_neg (h o (List.mem_cons_self ..))]
    exact ih fun p hp => h p (List.mem_cons_of_mem _ hp)
theorem tot_fa {α : Type} (ys : List α) (G H : α → List Op) (s : Nat) : tot (ys.flatMap fun b => G b ++ H b) s = vA (tot (ys.flatMap G) s) (tot (ys.flatMap H) s) := by
  induction ys with
  | nil => rfl
  | cons y ys ih =>
    rw [List.flatMap_cons, List.flatMap_cons, List.flatMap_cons, tot_app, tot_app, tot_app, tot_app, ih, vA_a, vA_a, ← vA_a (tot (H y) s), vA_c (tot (H y) s), vA_a]
theorem tot_swap {α β : Type} (xs : List α) (ys : List β) (F : α → β → List Op) (s : Nat) : tot (xs.flatMap fun a => ys.flatMap fun b => F a b) s = tot (ys.flatMap fun b => xs.flatMap fun a => F a b) s := by
  induction xs with
  | nil =>
    have : (ys.flatMap fun b => ([] : List α).flatMap fun a => F a b) = [] := by
      induction ys with
      | nil => rfl
      | cons y ys ih => rw [List.flatMap_cons, ih]; rfl
    rw [this]; rfl
  | cons x xs ih =>
    rw [List.flatMap_cons, tot_app, ih, ← tot_fa]
    rfl
theorem tot_cg {α : Type} {xs : List α} {F G : α → List Op} {s : Nat} (h : ∀ a ∈ xs, tot (F a) s = tot (G a) s) : tot (xs.flatMap F) s = tot (xs.flatMap G) s := by
  induction xs with
  | nil => rfl
  | cons x xs ih =>
    rw [List.flatMap_cons, List.flatMap_cons, tot_app, tot_app, h x (List.mem_cons_self ..), ih fun a ha => h a (List.mem_cons_of_mem _ ha)]
def apv (V : Nat → Vl) (L : List Op) : Nat → Vl := fun s => vA (V s) (tot L s)
theorem apv_nil (V : Nat → Vl) : apv V [] = V := by funext s; exact vA_n _
theorem apv_app (V : Nat → Vl) (L M : List Op) : apv (apv V L) M = apv V (L ++ M) := by
  funext s; show vA (vA _ _) _ = vA _ (tot (L ++ M) s); rw [tot_app, vA_a]
theorem apv_one (V : Nat → Vl) (o : Op) : apv V [o] = va_up V o.1 (vA (V o.1) (some o.2)) := by
  funext s
  show vA (V s) (if o.1 = s then vA (some o.2) none else none) = _
  by_cases h : s = o.1
  · subst h; rw [if_pos rfl, ue_v]; rfl
  · rw [if_neg (Ne.symm h), un_v h, vA_n]
theorem gD_rr {α : Type} {l r : List α} {i : Nat} (h : l.length ≤ i) (d : α) : (l ++ r).getD i d = r.getD (i - l.length) d := by simp [List.getD, List.getElem?_append_right h]
/-- the signs that have a value, in order -/
def sL (V : Nat → Vl) : List Nat := (List.range 10000).filter fun s => (V s).isSome
def lo (V : Nat → Vl) (s : Nat) : List Nat := (List.range s).filter fun s => (V s).isSome
def hi (V : Nat → Vl) (s : Nat) : List Nat := (List.range' (s + 1) (9999 - s)).filter fun s => (V s).isSome
def ix (V : Nat → Vl) (s : Nat) : Nat := (lo V s).length
theorem rng_split {s n : Nat} (h : s < n) : List.range n = List.range s ++ s :: List.range' (s + 1) (n - 1 - s) := by
  rw [List.range_eq_range', List.range_eq_range', show s :: List.range' (s + 1) (n - 1 - s) = List.range' s (n - 1 - s + 1) from (List.range'_succ ..).symm]
  have := List.range'_append_1 (s := 0) (m := s) (n := n - 1 - s + 1)
  rw [Nat.zero_add] at this
  rw [this]
  congr 1; omega
theorem sL_split (V : Nat → Vl) {s : Nat} (h : s < 10000) : sL V = lo V s ++ ((if (V s).isSome then [s] else []) ++ hi V s) := by
  unfold sL lo hi
  rw [rng_split h, List.filter_append, List.filter_cons]
  by_cases e : (V s).isSome = true
  · rw [if_pos e, if_pos e]; rfl
  · rw [if_neg e, if_neg e]; rfl
theorem sL_mem {V : Nat → Vl} {s : Nat} : s ∈ sL V ↔ s < 10000 ∧ (V s).isSome = true := by unfold sL; rw [List.mem_filter, List.mem_range]
theorem lo_up {V : Nat → Vl} {s : Nat} {v : Vl} : lo (va_up V s v) s = lo V s := by
  unfold lo
  refine List.filter_congr fun x hx => ?_
  have := List.mem_range.mp hx
  rw [un_v (by omega)]
theorem hi_up {V : Nat → Vl} {s : Nat} {v : Vl} : hi (va_up V s v) s = hi V s := by
  unfold hi
  refine List.filter_congr fun x hx => ?_
  have := List.mem_range'_1.mp hx
  rw [un_v (by omega)]
theorem sL_ins {V : Nat → Vl} {s : Nat} {v : Nat × Int} (h : s < 10000) (hn : V s = none) : sL V = lo V s ++ hi V s ∧ sL (va_up V s (some v)) = lo V s ++ s :: hi V s := by
  refine ⟨?_, ?_⟩
  · rw [sL_split V h, hn]; rfl
  · rw [sL_split _ h, lo_up, hi_up, ue_v]; rfl
theorem sL_same {V : Nat → Vl} {s : Nat} {v : Nat × Int} (h : s < 10000) (hn : (V s).isSome = true) : sL (va_up V s (some v)) = sL V := by
  rw [sL_split _ h, sL_split V h, lo_up, hi_up, ue_v, if_pos hn]; rfl
theorem sL_mono {V V' : Nat → Vl} (h : ∀ s, (V s).isSome = true → (V' s).isSome = true) : (sL V).length ≤ (sL V').length := by
  unfold sL
  rw [← List.countP_eq_length_filter, ← List.countP_eq_length_filter]
  exact List.countP_mono_left fun x _ => h x
theorem apv_mono (V : Nat → Vl) (L : List Op) {s : Nat} (h : (V s).isSome = true) : (apv V L s).isSome = true := by
  show (vA _ _).isSome = true
  rw [vA_some, h]; rfl
theorem sL_lt {V : Nat → Vl} {s k : Nat} (h : s < 10000) (hk : k < ix V s) : k < (sL V).length ∧ (sL V).getD k 0 < s := by
  rw [sL_split V h]
  have hl : k < (lo V s).length := hk
  refine ⟨by rw [List.length_append]; omega, ?_⟩
  rw [gD_l hl, gD_lt hl]
  have := List.getElem_mem hl
  unfold lo at this
  exact List.mem_range.mp (List.mem_filter.mp this).1
theorem sL_ge {V : Nat → Vl} {s k : Nat} (h : s < 10000) (hk : ix V s ≤ k) (hl : k < (sL V).length) : s ≤ (sL V).getD k 0 := by
  rw [sL_split V h] at hl ⊢
  have hk' : (lo V s).length ≤ k := hk
  rw [List.length_append] at hl
  rw [gD_rr hk', gD_lt (by omega)]
  have := List.getElem_mem (l := ((if (V s).isSome then [s] else []) ++ hi V s)) (n := k - (lo V s).length) (by omega)
  generalize ((if (V s).isSome then [s] else []) ++ hi V s)[k - (lo V s).length]'(by omega) = x at this ⊢
  rcases List.mem_append.mp this with z | z
  · by_cases e : (V s).isSome = true
    · rw [if_pos e, List.mem_singleton] at z; omega
    · rw [if_neg e] at z; cases z
  · unfold hi at z
    have := List.mem_range'_1.mp (List.mem_filter.mp z).1
    omega
theorem sL_at {V : Nat → Vl} {s : Nat} (h : s < 10000) (hs : (V s).isSome = true) : ix V s < (sL V).length ∧ (sL V).getD (ix V s) 0 = s := by
  rw [sL_split V h, if_pos hs]
  refine ⟨by simp [ix], ?_⟩
  show (lo V s ++ ([s] ++ hi V s)).getD (lo V s).length 0 = s
  rw [gD_rr (Nat.le_refl _), Nat.sub_self]; rfl
theorem sL_in {V : Nat → Vl} {k : Nat} (hk : k < (sL V).length) : (sL V).getD k 0 < 10000 ∧ (V ((sL V).getD k 0)).isSome = true := by
  rw [gD_lt hk]; exact sL_mem.mp (List.getElem_mem hk)
theorem sL_inc {V : Nat → Vl} {j k : Nat} (hj : j < k) (hk : k < (sL V).length) : (sL V).getD j 0 < (sL V).getD k 0 := by
  have hp : (sL V).Pairwise (· < ·) := List.Pairwise.filter _ List.pairwise_lt_range
  rw [gD_lt (Nat.lt_trans hj hk) 0, gD_lt hk 0]
  exact List.pairwise_iff_getElem.mp hp j k _ hk hj
theorem ix_at {V : Nat → Vl} {k : Nat} (hk : k < (sL V).length) : ix V ((sL V).getD k 0) = k := by
  have h := sL_in hk
  have h2 := sL_at h.1 h.2
  rcases Nat.lt_trichotomy (ix V ((sL V).getD k 0)) k with z | z | z
  · have := sL_inc z hk; omega
  · exact z
  · have := sL_inc z h2.1; omega
theorem sL_le {V : Nat → Vl} {s : Nat} (h : s < 10000) : ix V s ≤ (sL V).length := by
  rw [sL_split V h, List.length_append]; exact Nat.le_add_right _ _
theorem sL_insG {V : Nat → Vl} {s : Nat} {v : Nat × Int} (h : s < 10000) (hn : V s = none) : (sL (va_up V s (some v))).length = (sL V).length + 1 ∧ ∀ k, (sL (va_up V s (some v))).getD k 0 = if k < ix V s then (sL V).getD k 0 else if k = ix V s then s else (sL V).getD (k - 1) 0 := by
  obtain ⟨h1, h2⟩ := sL_ins (v := v) h hn
  rw [h2, h1]
  refine ⟨by simp [Nat.add_assoc], fun k => ?_⟩
  by_cases c : k < ix V s
  · rw [if_pos c, gD_l c, gD_l c]
  · have c' : (lo V s).length ≤ k := Nat.le_of_not_lt c
    rw [if_neg c, gD_rr c']
    by_cases e : k = ix V s
    · rw [if_pos e, e]; simp [ix]
    · have e' : k ≠ (lo V s).length := e
      rw [if_neg e, gD_rr (by omega), show k - (lo V s).length = (k - 1 - (lo V s).length) + 1 by omega]
      rfl
theorem sL_61 {V V' : Nat → Vl} {s : Nat} (h : s < 10000) (hn : V s = none) (h60 : (sL V).length = 60) (hs : (V' s).isSome = true) (hm : ∀ x, (V x).isSome = true → (V' x).isSome = true) : 61 ≤ (sL V').length := by
  have h1 := (sL_insG (v := (0, 0)) h hn).1
  have h2 : (sL (va_up V s (some (0, 0)))).length ≤ (sL V').length := sL_mono fun x hx => by
    by_cases e : x = s
    · rw [e]; exact hs
    · rw [un_v e] at hx; exact hm x hx
  omega
