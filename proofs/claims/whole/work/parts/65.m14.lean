/-! ===== the reference: long numbers, cells, adding to a cell ===== -/
theorem ln_i {n : Nat} (h : n < 9223372036854775808) : (lN n).toInt = n := Int64.toInt_ofNat_of_lt h
theorem ln_of {x : Int64} {n : Nat} (h : n < 9223372036854775808) (e : x.toInt = n) : x = lN n := Int64.toInt_inj.mp (by rw [ln_i h, e])
theorem ln_lt {a b : Nat} (ha : a < 9223372036854775808) (hb : b < 9223372036854775808) : lN a < lN b ↔ a < b := by rw [Int64.lt_iff_toInt_lt, ln_i ha, ln_i hb]; omega
theorem ln_le {a b : Nat} (ha : a < 9223372036854775808) (hb : b < 9223372036854775808) : lN a ≤ lN b ↔ a ≤ b := by rw [Int64.le_iff_toInt_le, ln_i ha, ln_i hb]; omega
theorem ln_eq {a b : Nat} (ha : a < 9223372036854775808) (hb : b < 9223372036854775808) : lN a = lN b ↔ a = b := by rw [← Int64.toInt_inj, ln_i ha, ln_i hb]; omega
theorem ln_add (a b : Nat) : lN a + lN b = lN (a + b) := (Int64.ofNat_add a b).symm
theorem ln_mul (a b : Nat) : lN a * lN b = lN (a * b) := (Int64.ofNat_mul a b).symm
theorem ln_div {a b : Nat} (ha : a < 9223372036854775808) (hb : b < 9223372036854775808) : lN a / lN b = lN (a / b) := by
  refine ln_of (Nat.lt_of_le_of_lt (Nat.div_le_self a b) ha) ?_
  rw [Int64.toInt_div_of_ne_left _ _ (by
    intro z
    have := congrArg Int64.toInt z
    rw [ln_i ha] at this
    have h2 : Int64.minValue.toInt = -9223372036854775808 := by decide +kernel
    omega), ln_i ha, ln_i hb]
  exact Int.ofNat_tdiv a b
theorem ln_sub {a b : Nat} (hab : b ≤ a) (ha : a < 9223372036854775808) : lN a - lN b = lN (a - b) := by
  refine ln_of (by omega) ?_
  rw [Int64.toInt_sub, ln_i ha, ln_i (by omega), Int.bmod_eq_of_le_mul_two (by omega) (by omega)]
  omega
theorem lg_le {x y : Int64} : lg_cmp x y ≤ 0 ↔ x ≤ y := by
  unfold lg_cmp
  rw [Int64.le_iff_toInt_le]
  by_cases h : x > y
  · rw [if_pos h]
    have := Int64.lt_iff_toInt_lt.mp h
    exact ⟨fun z => absurd z (by decide), fun z => by omega⟩
  · rw [if_neg h]
    have : x.toInt ≤ y.toInt := by
      have : ¬ y.toInt < x.toInt := fun z => h (Int64.lt_iff_toInt_lt.mpr z)
      omega
    refine ⟨fun _ => this, fun _ => ?_⟩
    split <;> decide
theorem lg_ge {x y : Int64} : (0 : Int32) ≤ lg_cmp x y ↔ y ≤ x := by
  unfold lg_cmp
  rw [Int64.le_iff_toInt_le]
  by_cases h : x > y
  · rw [if_pos h]
    have := Int64.lt_iff_toInt_lt.mp h
    exact ⟨fun _ => by omega, fun _ => by decide⟩
  · rw [if_neg h]
    have h1 : x.toInt ≤ y.toInt := by
      have : ¬ y.toInt < x.toInt := fun z => h (Int64.lt_iff_toInt_lt.mpr z)
      omega
    by_cases e : x = y
    · subst e
      exact ⟨fun _ => Int.le_refl _, fun _ => by split <;> first | decide | (rename_i z; simp at z)⟩
    · have : x.toInt ≠ y.toInt := fun z => e (Int64.toInt_inj.mp z)
      have h2 : x < y := Int64.lt_iff_toInt_lt.mpr (by omega)
      exact ⟨fun z => by
        exfalso; revert z
        first
        | (rw [if_pos h2]; decide)
        | (rw [if_neg e]; decide), fun z => by omega⟩
theorem lg_lt {x y : Int64} : lg_cmp x y < 0 ↔ x < y := by
  have h : lg_cmp x y < 0 ↔ ¬ (0 : Int32) ≤ lg_cmp x y := by rw [Int32.lt_iff_toInt_lt, Int32.le_iff_toInt_le]; omega
  rw [h, lg_ge, Int64.le_iff_toInt_le, Int64.lt_iff_toInt_lt]; omega
theorem lg_gt {x y : Int64} : (0 : Int32) < lg_cmp x y ↔ y < x := by
  have h : (0 : Int32) < lg_cmp x y ↔ ¬ lg_cmp x y ≤ 0 := by rw [Int32.lt_iff_toInt_lt, Int32.le_iff_toInt_le]; omega
  rw [h, lg_le, Int64.le_iff_toInt_le, Int64.lt_iff_toInt_lt]; omega
/-- numbers of trees stop at 10^15 -/
def sat (n : Nat) : Nat := min n 1000000000000000
theorem sat_le (n : Nat) : sat n ≤ 1000000000000000 := Nat.min_le_right _ _
theorem sat_add (a b : Nat) : sat (sat a + sat b) = sat (a + b) := by unfold sat; omega
theorem sat_id {a : Nat} (h : a ≤ 1000000000000000) : sat a = a := by unfold sat; omega
theorem sat_sat (a : Nat) : sat (sat a) = sat a := sat_id (sat_le a)
theorem sat_mul (a b : Nat) : sat (sat a * sat b) = sat (a * b) := by
  by_cases ha : a ≤ 1000000000000000
  · by_cases hb : b ≤ 1000000000000000
    · rw [sat_id ha, sat_id hb]
    · rw [sat_id ha, show sat b = 1000000000000000 by unfold sat; omega]
      cases a with
      | zero => simp
      | succ a =>
        have h1 : 1 * 1000000000000000 ≤ (a + 1) * 1000000000000000 := Nat.mul_le_mul_right _ (by omega)
        have h2 : 1 * b ≤ (a + 1) * b := Nat.mul_le_mul_right _ (by omega)
        unfold sat; omega
  · rw [show sat a = 1000000000000000 by unfold sat; omega]
    cases b with
    | zero => simp [sat]
    | succ b =>
      have h0 : 1 ≤ sat (b + 1) := by unfold sat; omega
      have h1 : 1000000000000000 * 1 ≤ 1000000000000000 * sat (b + 1) := Nat.mul_le_mul_left _ h0
      have h2 : a * 1 ≤ a * (b + 1) := Nat.mul_le_mul_left _ (by omega)
      unfold sat at *; omega
theorem sat_pos {a : Nat} (h : 1 ≤ a) : 1 ≤ sat a := by unfold sat; omega
theorem mul_big {a b : Nat} (hb : 1 ≤ b) (h : 1000000000000000 / b < a) : 1000000000000000 < a * b := by
  exact Nat.lt_mul_of_div_lt h hb
theorem mul_small {a b : Nat} (h : a ≤ 1000000000000000 / b) : a * b ≤ 1000000000000000 := by
  exact Nat.le_trans (Nat.mul_le_mul_right b h) (Nat.div_mul_le_self _ _)
def wy : Vl → Nat
  | none => 0
  | some a => a.1
def cM (A : Nat → Nat → Int32) (B : Nat → Nat → Int64) (c : Nat) (V : Nat → Vl) : Prop := (sL V).length ≤ 60 ∧ A 17 c = nI (sL V).length ∧ ∀ k, k < (sL V).length → A 18 (64 * c + k) = nI ((sL V).getD k 0) ∧ B 20 (64 * c + k) = lN (sat (wy (V ((sL V).getD k 0))))
/-- what stays when a cell is changed -/
def fcM (c : Nat) (A : Nat → Nat → Int32) (B : Nat → Nat → Int64) (A' : Nat → Nat → Int32) (B' : Nat → Nat → Int64) : Prop := (∀ p, p ≠ 14 → p ≠ 17 → p ≠ 18 → A' p = A p) ∧ (∀ i, i ≠ c → A' 17 i = A 17 i) ∧ (∀ i, i < 64 * c ∨ 64 * c + 64 ≤ i → A' 18 i = A 18 i ∧ B' 20 i = B 20 i) ∧ (∀ p, p ≠ 20 → B' p = B p)
theorem fcM_refl (c : Nat) (A : Nat → Nat → Int32) (B : Nat → Nat → Int64) : fcM c A B A B := ⟨fun _ _ _ _ => rfl, fun _ _ => rfl, fun _ _ => ⟨rfl, rfl⟩, fun _ _ => rfl⟩
theorem fcM_trans {c : Nat} {A A1 A2 : Nat → Nat → Int32} {B B1 B2 : Nat → Nat → Int64} (h : fcM c A B A1 B1) (k : fcM c A1 B1 A2 B2) : fcM c A B A2 B2 :=
  ⟨fun p a b e => (k.1 p a b e).trans (h.1 p a b e), fun i a => (k.2.1 i a).trans (h.2.1 i a), fun i a => ⟨(k.2.2.1 i a).1.trans (h.2.2.1 i a).1, (k.2.2.1 i a).2.trans (h.2.2.1 i a).2⟩, fun p a => (k.2.2.2 p a).trans (h.2.2.2 p a)⟩
theorem fcM_14 {c : Nat} {A A1 : Nat → Nat → Int32} {B : Nat → Nat → Int64} (h : ∀ p, p ≠ 14 → A1 p = A p) : fcM c A B A1 B := ⟨fun p a _ _ => h p a, fun i _ => by rw [h 17 (by decide)], fun i _ => ⟨by rw [h 18 (by decide)], rfl⟩, fun _ _ => rfl⟩
theorem cM_fr {c c' : Nat} {A A1 : Nat → Nat → Int32} {B B1 : Nat → Nat → Int64} {V : Nat → Vl} (h : cM A B c' V) (f : fcM c A B A1 B1) (hc : c' ≠ c) : cM A1 B1 c' V := by
  refine ⟨h.1, by rw [f.2.1 c' hc]; exact h.2.1, fun k hk => ?_⟩
  have := h.1
  have e := f.2.2.1 (64 * c' + k) (by omega)
  rw [e.1, e.2]; exact h.2.2 k hk
theorem cM_14 {c : Nat} {A A1 : Nat → Nat → Int32} {B : Nat → Nat → Int64} {V : Nat → Vl} (h : cM A B c V) (f : ∀ p, p ≠ 14 → A1 p = A p) : cM A1 B c V := by
  refine ⟨h.1, by rw [f 17 (by decide)]; exact h.2.1, fun k hk => ?_⟩
  rw [f 18 (by decide)]; exact h.2.2 k hk
section M14
variable {l : Launch} {J : Nat → Int64} {A : Nat → Nat → Int32} {B : Nat → Nat → Int64} {Q : Option Value → XW → Prop} {d : Nat} {I : Nat → Int32}
theorem s_full (hd : 1 ≤ d) {x : Int64} {n : Nat} (hx : x = lN n) (hn : n < 9223372036854775808) (hQ : Q (some (.long (lN (sat n)))) (wM I J A B)) : xK l d 152 [.long x] (wM I J A B) Q := by
  obtain ⟨d, rfl⟩ : ∃ e, d = e + 1 := ⟨d - 1, by omega⟩
  subst hx
  refine e_X11_full (if_if (lg_le.trans (ln_le hn (b := 1000000000000000) (by omega))) (fun h => ?_) (fun h => ?_))
  · rw [sat_id h] at hQ; exact hQ
  · rw [show sat n = 1000000000000000 by unfold sat; omega] at hQ; exact hQ
theorem s_product (hd : 2 ≤ d) {x y : Int64} {a b : Nat} (hx : x = lN (sat a)) (hy : y = lN (sat b)) (hQ : Q (some (.long (lN (sat (a * b))))) (wM I J A B)) : xK l d 153 [.long x, .long y] (wM I J A B) Q := by
  obtain ⟨d, rfl⟩ : ∃ e, d = e + 1 := ⟨d - 1, by omega⟩
  subst hx; subst hy
  rw [← sat_mul] at hQ
  have ha := sat_le a
  have hb := sat_le b
  generalize sat a = a at ha hQ
  generalize sat b = b at hb hQ
  refine e_X11_product (if_if (lg0.trans (ln_eq (b := 0) (by omega) (by omega))) (fun h => ?_) (fun h1 => if_if (lg0.trans (ln_eq (b := 0) (by omega) (by omega))) (fun h => ?_) (fun h2 => ⟨fun z => h2 ((ln_eq (b := 0) (by omega) (by omega)).mp z), ?_⟩)))
  · rw [h, Nat.zero_mul] at hQ; exact hQ
  · rw [h, Nat.mul_zero] at hQ; exact hQ
  · have hdv : (1000000000000000 : Int64) / lN b = lN (1000000000000000 / b) := ln_div (a := 1000000000000000) (by omega) (by omega)
    have hdl : 1000000000000000 / b ≤ 1000000000000000 := Nat.div_le_self _ _
    rw [hdv]
    refine if_if (lg_le.trans (ln_le (by omega) (by omega))) (fun h => ?_) (fun h => ?_)
    · have := mul_small h
      exact s_full (by omega) (ln_mul a b) (by omega) (b_X11_product_36 hQ)
    · have := mul_big (b := b) (by omega) (Nat.lt_of_not_le h)
      refine b_X11_product_36 ?_
      rw [show sat (a * b) = 1000000000000000 by unfold sat; omega] at hQ; exact hQ
theorem s_cell (hd : 1 ≤ d) {x y : Int32} {i j : Nat} (hx : x = nI i) (hy : y = nI j) (hQ : Q (some (.int (nI (15 * i + j)))) (wM I J A B)) : xK l d 151 [.int x, .int y] (wM I J A B) Q := by
  obtain ⟨d, rfl⟩ : ∃ e, d = e + 1 := ⟨d - 1, by omega⟩
  refine e_X11_cell ?_
  rw [show (15 : Int32) * x + y = nI (15 * i + j) from add_of (mul_of (a := 15) rfl hx) hy]; exact hQ
theorem div_nI {a b : Nat} (ha : a < 2147483648) (hb : b < 2147483648) : nI a / nI b = nI (a / b) := by
  have hl : a / b ≤ a := Nat.div_le_self a b
  refine Int32.toInt_inj.mp ?_
  rw [Int32.toInt_div_of_ne_left _ _ (by
    intro z
    have := congrArg Int32.toInt z
    rw [nI_toInt (by omega)] at this
    have h2 : Int32.minValue.toInt = -2147483648 := by decide +kernel
    omega), nI_toInt (by omega), nI_toInt (by omega), nI_toInt (by omega)]
  exact Int.ofNat_tdiv a b
theorem div625 (s : Nat) (h : s < 10000) : (nI s / 625 : Int32) = nI (s / 625) := div_nI (b := 625) (by omega) (by omega)
theorem mod625 {s : Nat} (h : s < 10000) : (nI s - nI s / 625 * 625 : Int32) = nI (s % 625) := by
  rw [div625 s h, show nI (s / 625) * 625 = nI (s / 625 * 625) from mul_of (b := 625) rfl rfl, sub_n (by omega)]
  congr 1; omega
theorem s_categoryOfM (hd : 1 ≤ d) {x : Int32} {s : Nat} (hx : x = nI s) (hs : s < 10000) (hQ : Q (some (.int (nI (s / 625)))) (wM I J A B)) : xK l d 156 [.int x] (wM I J A B) Q := by
  obtain ⟨d, rfl⟩ : ∃ e, d = e + 1 := ⟨d - 1, by omega⟩
  refine e_X11_categoryOf ⟨by decide, ?_⟩
  rw [hx, div625 s hs]; exact hQ
theorem s_find (hd : 1 ≤ d) {x y : Int32} {c s : Nat} {V : Nat → Vl} (hx : x = nI c) (hc : c < 225) (hy : y = nI s) (hs : s < 10000) (h60 : (sL V).length ≤ 60) (h17 : A 17 c = nI (sL V).length) (h18 : ∀ k, k < (sL V).length → A 18 (64 * c + k) = nI ((sL V).getD k 0))
    (hN : V s = none → Q (some (.int (-1))) (wM I J A B)) (hY : ∀ v, V s = some v → Q (some (.int (nI (ix V s)))) (wM I J A B)) : xK l d 154 [.ref 0, .int x, .int y] (wM I J A B) Q := by
  obtain ⟨d, rfl⟩ : ∃ e, d = e + 1 := ⟨d - 1, by omega⟩
  subst hx; subst hy
  have loop : ∀ m k, (sL V).length - k < m → k ≤ (sL V).length → (∀ j, j < k → (sL V).getD j 0 ≠ s) → xG l d 154 Q 2 [some (.ref 0), some (.int (nI c)), some (.int (nI s)), some (.int (nI k))] [] (wM I J A B) 0 0 := by
    intro m
    induction m with
    | zero => intro k h; omega
    | succ m ih =>
      intro k hm hk hno
      refine b_X11_find_2 ⟨xin_n hc (by omega), if_le (by rw [cl_n (by omega)]; exact h17) rfl (by omega) (by omega) (fun z => ?_) (fun z => ⟨xin_of (add_of (mul_of (a := 64) rfl rfl) rfl) (by omega) (by omega), ?_⟩)⟩
      · cases hv : V s with
        | none => exact hN hv
        | some v =>
          have := sL_at (V := V) hs (by rw [hv]; rfl)
          exact absurd this.2 (hno _ (by omega))
      · rw [show (64 : Int32) * nI c + nI k = nI (64 * c + k) from add_of (mul_of (a := 64) rfl rfl) rfl, cl_n (by omega)]
        have hin := sL_in z
        refine if_eq (h18 k z) rfl (by omega) (by omega) (fun e => ?_) (fun e => ?_)
        · cases hv : V s with
          | none => rw [e, hv] at hin; exact absurd hin.2 (by decide)
          | some v =>
            have := hY v hv
            have e2 := ix_at z
            rw [e] at e2; rw [e2] at this; exact this
        · rw [nI_1]
          exact ih (k + 1) (by omega) (by omega) (fun j hj => by
            by_cases q : j = k
            · rw [q]; exact e
            · exact hno j (by omega))
  exact e_X11_find (loop _ 0 (Nat.lt_succ_self _) (by omega) (fun j hj => by omega))
end M14
