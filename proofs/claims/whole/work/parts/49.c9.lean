/-! ===== what laws make: the plain functions; the class's laws at work ===== -/
def obD (q : Law) (D : Nat → Nat) : Option (Nat → Nat) :=
  if D q.2.2.1 ≠ 0 ∧ (if q.1 = true then D q.2.2.2 else q.2.2.2 + 1) ≠ 0 ∧ D q.2.2.1 ≠ (if q.1 = true then D q.2.2.2 else q.2.2.2 + 1) then none
  else some (fun i => if i = q.2.2.1 ∨ (q.1 = true ∧ i = q.2.2.2) then (if D q.2.2.1 ≠ 0 then D q.2.2.1 else (if q.1 = true then D q.2.2.2 else q.2.2.2 + 1)) else D i)
def runF (f : Nat) : List Law → (Nat → Nat) → Option (Nat → Nat)
  | [], D => some D
  | q :: ls, D => if q.2.1 = f then (match obD q D with
    | none => none
    | some D' => runF f ls D') else runF f ls D
def dig3 (a b : Nat) : Nat → Nat := fun i => if i = 1 then a else if i = 2 then b else 0
def wDig (f : Nat) (laws : List Law) (a b : Nat) : Option Nat := (runF f laws (dig3 a b)).map (fun D => D 0)
def okD (D : Nat → Nat) : Prop := ∀ i, D i ≤ 4
theorem okD_ob {q : Law} {D D' : Nat → Nat} {parts : Nat} (hp : parts ≤ 2) (hq : okLaw parts q) (h : okD D) (e : obD q D = some D') : okD D' := by
  unfold obD at e
  have h4 := hq.2.2.1
  have hdue : (if q.1 = true then D q.2.2.2 else q.2.2.2 + 1) ≤ 4 := by
    by_cases z : q.1 = true
    · rw [if_pos z]; exact h _
    · rw [if_neg z] at h4 ⊢; omega
  generalize (if q.1 = true then D q.2.2.2 else q.2.2.2 + 1) = due at e hdue
  by_cases c : D q.2.2.1 ≠ 0 ∧ due ≠ 0 ∧ D q.2.2.1 ≠ due
  · rw [if_pos c] at e; cases e
  · rw [if_neg c] at e
    injection e with e; subst e
    intro i
    have h1 := h i
    have h2 := h q.2.2.1
    show (if _ then (if _ then _ else _) else _) ≤ 4
    split
    · split
      · exact h2
      · exact hdue
    · exact h1
theorem okD_run {f parts : Nat} (hp : parts ≤ 2) : ∀ {ls : List Law} {D D' : Nat → Nat}, (∀ q ∈ ls, okLaw parts q) → okD D → runF f ls D = some D' → okD D'
  | [], D, D', _, h, e => by simp [runF] at e; subst e; exact h
  | q :: ls, D, D', hq, h, e => by
    unfold runF at e
    split at e
    · cases z : obD q D with
      | none => rw [z] at e; cases e
      | some D1 =>
        rw [z] at e
        exact okD_run hp (fun x hx => hq x (List.mem_cons_of_mem _ hx)) (okD_ob hp (hq q (List.mem_cons_self ..)) h z) e
    · exact okD_run hp (fun x hx => hq x (List.mem_cons_of_mem _ hx)) h e
theorem okD_3 {a b : Nat} (ha : a ≤ 4) (hb : b ≤ 4) : okD (dig3 a b) := by
  intro i; unfold dig3; split
  · exact ha
  · split
    · exact hb
    · omega
theorem wDig_4 {f parts : Nat} {laws : List Law} {a b v : Nat} (hp : parts ≤ 2) (hq : ∀ q ∈ laws, okLaw parts q) (ha : a ≤ 4) (hb : b ≤ 4) (h : wDig f laws a b = some v) : v ≤ 4 := by
  unfold wDig at h
  cases z : runF f laws (dig3 a b) with
  | none => rw [z] at h; cases h
  | some D => rw [z] at h; simp at h; subst h; exact okD_run hp hq (okD_3 ha hb) z 0
def digX (A : Nat → Nat → Int32) (D : Nat → Nat) : Prop := ∀ i, i < 3 → A 13 i = nI (D i)
section C9
variable {l : Launch} {J : Nat → Int64} {Q : Option Value → XW → Prop} {d : Nat} {tgt cg fg : Value} {I : Nat → Int32} {A : Nat → Nat → Int32} {B : Nat → Nat → Int64}
theorem s_areAbout (hd : 1 ≤ d) {laws : List Law} (hl : lawX I A laws) (hok : ∀ q ∈ laws, q.2.1 ≤ 3) {x : Int32} {f : Nat} (hx : x = nI f) (hf : f ≤ 3)
    (hY : (∃ q ∈ laws, q.2.1 = f) → Q (some (.int 1)) (wC tgt cg fg I J A B)) (hN : (∀ q ∈ laws, q.2.1 ≠ f) → Q (some (.int 0)) (wC tgt cg fg I J A B)) : xK l d 67 [.ref 8, .int x] (wC tgt cg fg I J A B) Q := by
  obtain ⟨d, rfl⟩ : ∃ e, d = e + 1 := ⟨d - 1, by omega⟩
  obtain ⟨h1, h2, h3⟩ := hl
  have mem : ∀ k, k < laws.length → laws.getD k (true, 0, 0, 0) ∈ laws := fun k hk => by rw [gD_lt hk]; exact List.getElem_mem hk
  have loop : ∀ m k, laws.length - k < m → k ≤ laws.length → (∀ i, i < k → (laws.getD i (true, 0, 0, 0)).2.1 ≠ f) → xG l d 67 Q 2 [some (.ref 8), some (.int x), some (.int (nI k))] [] (wC tgt cg fg I J A B) 0 0 := by
    intro m
    induction m with
    | zero => intro k hm; exact absurd hm (by omega)
    | succ m ih =>
      intro k hm hk hno
      refine b_X5_areAbout_2 (if_le h1 rfl (by omega) (by omega) (fun g => ?_) (fun g => ⟨xin_of rfl (by omega) (by omega), ?_⟩))
      · refine ⟨Or.inl rfl, hN (fun q hq => ?_)⟩
        obtain ⟨i, hi, rfl⟩ := List.getElem_of_mem hq
        rw [← gD_lt hi (true, 0, 0, 0)]; exact hno i (by omega)
      · rw [cl_of rfl (by omega)]
        refine if_eq (h3 k g).2.1 hx (by have := hok _ (mem k g); omega) (by omega) (fun e => ⟨Or.inr rfl, hY ⟨_, mem k g, e⟩⟩) (fun e => ?_)
        rw [nI_1]
        exact ih (k + 1) (by omega) (by omega) (fun i hi => by
          by_cases z : i = k
          · rw [z]; exact e
          · exact hno i (by omega))
  exact e_X5_areAbout (loop (laws.length + 1) 0 (by omega) (Nat.zero_le _) (fun i hi => absurd hi (by omega)))
set_option maxHeartbeats 4000000 in
theorem s_obeyed (hd : 1 ≤ d) {x : Int32} {k parts : Nat} {q : Law} {D : Nat → Nat} (hx : x = nI k) (hk : k < 8) (hl : lawAt A k q) (hp : parts ≤ 2) (hq : okLaw parts q) (hD : digX A D) (h4 : okD D)
    (hY : ∀ D' (A' : Nat → Nat → Int32), obD q D = some D' → digX A' D' → (∀ p, p ≠ 13 → A' p = A p) → Q (some (.int 1)) (wC tgt cg fg I J A' B)) (hN : obD q D = none → Q (some (.int 0)) (wC tgt cg fg I J A B)) : xK l d 69 [.ref 8, .int x] (wC tgt cg fg I J A B) Q := by
  obtain ⟨d, rfl⟩ : ∃ e, d = e + 1 := ⟨d - 1, by omega⟩
  obtain ⟨b, f, s, o⟩ := q
  obtain ⟨h9, h10, h11, h12⟩ := hl
  simp only at h9 h10 h11 h12
  obtain ⟨q1, q2, q3, q4⟩ := hq
  simp only at q1 q2 q3 q4
  have hs4 := h4 s
  have ho4 := h4 o
  have ds := hD s (by omega)
  have x8 : xin x 8 = True := eq_true (xin_of hx (by omega) (by omega))
  have xs : xin (nI s) 3 = True := eq_true (xin_of rfl (by omega) (by omega))
  refine e_X5_obeyed ?_
  rw [cl_of hx (by omega)]
  have cs : (nI s).toNatClampNeg = s := cl_n (by omega)
  cases b with
  | false =>
    have ho : o ≤ 3 := q3
    have c9 : (bI false = 0) = True := eq_true rfl
    have cd : (nI (o + 1) = 0) = False := eq_false (fun z => by have := (eq_n (a := o + 1) (b := 0) (by omega) (by omega)).mp z; omega)
    have fin : ∀ v : Nat, (fun i => if i = s ∨ (false = true ∧ i = o) then v else D i) = fun i => if i = s then v else D i := by intro v; funext i; simp
    unfold obD at hY hN
    simp only [Bool.false_eq_true, if_false, false_and, or_false] at hY hN
    simp only [h9, h11, h12, cs, ds, nI_1, x8, xs, c9, cd, true_and, if_true, if_false]
    by_cases m0 : D s = 0
    · have cm : (nI (D s) = 0) = True := eq_true (by rw [m0]; rfl)
      rw [if_neg (by omega)] at hY
      simp only [cm, if_true]
      refine ⟨Or.inr trivial, hY _ _ rfl (fun i hi => ?_) (fun p hp => un_v hp)⟩
      rw [ue_v]
      by_cases e : i = s
      · rw [e, ue_i, if_pos rfl, if_neg (by omega)]
      · rw [un_i e, if_neg e]; exact hD i hi
    · have cm : (nI (D s) = 0) = False := eq_false (fun z => m0 ((eq_n (a := D s) (b := 0) (by omega) (by omega)).mp z))
      by_cases e1 : D s = o + 1
      · have ce : (nI (D s) = nI (o + 1)) = True := eq_true (by rw [e1])
        rw [if_neg (by omega)] at hY
        simp only [cm, ce, if_true, if_false]
        refine ⟨Or.inr trivial, hY _ _ rfl (fun i hi => ?_) (fun p hp => un_v hp)⟩
        rw [ue_v]
        by_cases e : i = s
        · rw [e, ue_i, if_pos rfl, if_pos m0]
        · rw [un_i e, if_neg e]; exact hD i hi
      · have ce : (nI (D s) = nI (o + 1)) = False := eq_false (fun z => e1 ((eq_n (by omega) (by omega)).mp z))
        simp only [cm, ce, if_true, if_false]
        exact ⟨Or.inl trivial, hN (by rw [if_pos ⟨m0, by omega, e1⟩])⟩
  | true =>
    have ho : o ≤ parts := q3
    have do' := hD o (by omega)
    have co : (nI o).toNatClampNeg = o := cl_n (by omega)
    have xo : xin (nI o) 3 = True := eq_true (xin_of rfl (by omega) (by omega))
    have c9 : (bI true = 0) = False := eq_false (by decide)
    unfold obD at hY hN
    simp only [if_true, true_and] at hY hN
    simp only [h9, h11, h12, cs, co, ds, do', x8, xs, xo, c9, true_and, if_true, if_false]
    have post : ∀ v : Nat, digX (va_up A 13 (upd (upd (A 13) s (nI v)) o (nI v))) (fun i => if i = s ∨ i = o then v else D i) := by
      intro v i hi
      rw [ue_v]
      show _ = nI (if i = s ∨ i = o then v else D i)
      by_cases e2 : i = o
      · rw [e2, ue_i, if_pos (Or.inr rfl)]
      · rw [un_i e2]
        by_cases e : i = s
        · rw [e, ue_i, if_pos (Or.inl rfl)]
        · rw [un_i e, if_neg (by rintro (z | z) <;> contradiction)]; exact hD i hi
    by_cases m0 : D s = 0
    · have cm : (nI (D s) = 0) = True := eq_true (by rw [m0]; rfl)
      rw [if_neg (by omega)] at hY
      simp only [cm, if_true]
      refine ⟨Or.inr trivial, hY _ _ rfl ?_ (fun p hp => un_v hp)⟩
      have := post (D o)
      simp only [m0]
      exact this
    · have cm : (nI (D s) = 0) = False := eq_false (fun z => m0 ((eq_n (a := D s) (b := 0) (by omega) (by omega)).mp z))
      by_cases o0 : D o = 0
      · have cd : (nI (D o) = 0) = True := eq_true (by rw [o0]; rfl)
        rw [if_neg (by omega)] at hY
        simp only [cm, cd, if_true, if_false]
        refine ⟨Or.inr trivial, hY _ _ rfl ?_ (fun p hp => un_v hp)⟩
        have := post (D s)
        simp only [m0, ne_eq, not_false_eq_true, if_true]
        exact this
      · have cd : (nI (D o) = 0) = False := eq_false (fun z => o0 ((eq_n (a := D o) (b := 0) (by omega) (by omega)).mp z))
        by_cases e1 : D s = D o
        · have ce : (nI (D s) = nI (D o)) = True := eq_true (by rw [e1])
          rw [if_neg (by omega)] at hY
          simp only [cm, cd, ce, if_true, if_false]
          refine ⟨Or.inr trivial, hY _ _ rfl ?_ (fun p hp => un_v hp)⟩
          have := post (D s)
          simp only [m0, ne_eq, not_false_eq_true, if_true]
          exact this
        · have ce : (nI (D s) = nI (D o)) = False := eq_false (fun z => e1 ((eq_n (by omega) (by omega)).mp z))
          simp only [cm, cd, ce, if_true, if_false]
          exact ⟨Or.inl trivial, hN (by rw [if_pos ⟨m0, o0, e1⟩])⟩
end C9
