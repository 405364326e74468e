/-! ===== a cell, category by category ===== -/
theorem gP_mem {key : Nat → Nat} {n m c : Nat} : c ∈ gP key n m ↔ c < n ∧ key c < m := by
  unfold gP
  rw [List.mem_flatMap]
  constructor
  · rintro ⟨k, hk, h⟩
    rw [List.mem_filter, List.mem_range] at h
    have := List.mem_range.mp hk
    have := beq_iff_eq.mp h.2
    omega
  · rintro ⟨h1, h2⟩
    exact ⟨key c, List.mem_range.mpr h2, List.mem_filter.mpr ⟨List.mem_range.mpr h1, beq_self_eq_true _⟩⟩
theorem gP_pw (key : Nat → Nat) (n : Nat) : ∀ m, (gP key n m).Pairwise fun a b => key a ≤ key b ∧ a ≠ b
  | 0 => List.Pairwise.nil
  | m + 1 => by
    rw [gP_succ, List.pairwise_append]
    refine ⟨gP_pw key n m, ?_, fun a ha b hb => ?_⟩
    · have h1 : (List.range n).Pairwise (· < ·) := List.pairwise_lt_range
      refine List.Pairwise.imp_of_mem ?_ (List.Pairwise.filter (fun c => key c == m) h1)
      intro a b ha hb hab
      have := beq_iff_eq.mp (List.mem_filter.mp ha).2
      have := beq_iff_eq.mp (List.mem_filter.mp hb).2
      omega
    · have h1 := (gP_mem.mp ha).2
      have h2 := beq_iff_eq.mp (List.mem_filter.mp hb).2
      refine ⟨by omega, fun e => ?_⟩
      subst e; omega
theorem mem_take_of {α : Type} {l : List α} {p q : Nat} (h : p < q) (hp : p < l.length) : l[p] ∈ l.take q := by
  rw [List.mem_take_iff_getElem]
  exact ⟨p, by omega, rfl⟩
theorem gP_before {key : Nat → Nat} {n m q c : Nat} (hq : q < (gP key n m).length) (hc : c ∈ gP key n m) (hk : key c < key ((gP key n m).getD q 0)) : c ∈ (gP key n m).take q := by
  obtain ⟨p, hp, rfl⟩ := List.getElem_of_mem hc
  rw [gD_lt hq] at hk
  by_cases h : p < q
  · exact mem_take_of h hp
  · exfalso
    by_cases e : p = q
    · subst e; omega
    · have := List.pairwise_iff_getElem.mp (gP_pw key n m) q p hq hp (by omega)
      omega
theorem gP_new {key : Nat → Nat} {n m q : Nat} (hq : q < (gP key n m).length) : (gP key n m).getD q 0 ∉ (gP key n m).take q := by
  intro h
  rw [List.mem_take_iff_getElem] at h
  obtain ⟨p, hp, e⟩ := h
  rw [gD_lt hq] at e
  have := List.pairwise_iff_getElem.mp (gP_pw key n m) p q (by omega) hq (by omega)
  exact this.2 e
theorem ordL_gP (f : Nat → Nat → Bool) (nc : Nat) : ordL f nc = gP (cntC f) nc 17 := rfl
/-- the part of a cell that is made -/
def vS (S : List Nat) (V : Nat → Vl) : Nat → Vl := fun s => if s / 625 ∈ S then V s else none
/-- a grammar's own soundness -/
def gOk (g : Gram) : Prop := (∀ E ∈ g.1, okE E) ∧ (∀ R ∈ g.2.1, okR R) ∧ g.2.2.length ≤ 16 ∧ okG g
theorem gOk_rk {g : Gram} (h : gOk g) {R : Rule} (hR : R ∈ g.2.1) (h1 : R.2.2.1 = none) : cntC (clos g.2.1) R.2.1 < cntC (clos g.2.1) R.1 :=
  rank_lt (fun R hR => ⟨(h.2.2.2.2.1 R hR).1, (h.2.2.2.2.1 R hR).2.1⟩) h.2.2.1 h.2.2.2.2.2 hR h1
theorem gOk_ne {g : Gram} (h : gOk g) {R : Rule} (hR : R ∈ g.2.1) (h1 : R.2.2.1 = none) : R.2.1 ≠ R.1 := fun e => by
  have := gOk_rk h hR h1; rw [e] at this; omega
/-- a cell's equation, in full -/
theorem ch_cell {g : Gram} (h : gOk g) (o : Own) (ws : List (List Nat)) {i j : Nat} (hij : i < j) (s : Nat) : ch g o ws i j s = vA (tot (bOps g o ws (ch g o ws) i j) s) (tot (singl g.2.1 o i j (ch g o ws i j)) s) := by
  rw [ch_eq g o ws hij]
  exact cell_eq h.2.1 (fun R hR h1 => gOk_rk h hR h1) s
theorem vS_step {g : Gram} (hg : gOk g) (o : Own) (ws : List (List Nat)) {i j cc : Nat} (hij : i < j) {S : List Nat} (hcc : cc ∉ S) (hS : ∀ R ∈ g.2.1, R.2.2.1 = none → R.1 = cc → R.2.1 ∈ S) : apv (vS S (ch g o ws i j)) (fOps g o ws (ch g o ws) i j cc (vS S (ch g o ws i j))) = vS (S ++ [cc]) (ch g o ws i j) := by
  funext s
  have hin : ∀ p ∈ fOps g o ws (ch g o ws) i j cc (vS S (ch g o ws i j)), p.1 / 625 = cc := fun p hp => by
    rcases List.mem_append.mp hp with q | q
    · exact (eO_in hg.1 q).2
    · obtain ⟨R, hR, q⟩ := List.mem_flatMap.mp q
      exact (rF_in (hg.2.1 R hR) q).2
  by_cases c : s / 625 = cc
  · have e1 : vS (S ++ [cc]) (ch g o ws i j) s = ch g o ws i j s := if_pos (by rw [c]; exact List.mem_append.mpr (Or.inr (List.mem_singleton.mpr rfl)))
    have e2 : vS S (ch g o ws i j) s = none := if_neg (by rw [c]; exact hcc)
    show vA _ _ = _
    rw [e1, e2, vA_z, ch_cell hg o ws hij s]
    unfold fOps bOps
    rw [tot_app, tot_app, vA_a]
    have h1 : tot (eO g.1 o (ws.getD i []) i j cc) s = tot (if j = i + 1 then eOps g.1 o (ws.getD i []) i else []) s := by
      unfold eO eOps
      split
      · refine tot_cg fun E hE => ?_
        unfold eF
        by_cases q : E.2.1 = cc
        · rw [if_pos q]
        · rw [if_neg q]
          split
          · symm
            refine tot_none fun p hp z => ?_
            rw [List.mem_singleton] at hp; subst hp
            have := (hg.1 E hE).2.2
            unfold eSg at z; apply q; rw [← c, ← z]; omega
          · rfl
      · rfl
    rw [h1]
    congr 1
    rw [show (mids i j).flatMap (fun m => pairs g.2.1 o (ch g o ws) i j m) = (mids i j).flatMap (fun m => g.2.1.flatMap fun R => if R.2.2.1 = none then [] else jOps o R i j (ch g o ws i m) (ch g o ws m j)) from rfl, tot_swap]
    unfold singl
    rw [← tot_fa]
    refine tot_cg fun R hR => ?_
    unfold rF
    by_cases q : R.1 = cc
    · rw [if_pos q]
      by_cases z : R.2.2.1 = none
      · simp only [if_pos z]
        rw [fm_nil (fun _ _ => rfl), List.nil_append, sOps_cg (V' := ch g o ws i j)]
        intro x hx
        exact if_pos (by rw [hx]; exact hS R hR z q)
      · simp only [if_neg z]
        rw [List.append_nil]
    · rw [if_neg q]
      symm
      refine tot_none fun p hp z => ?_
      have : p.1 / 625 = R.1 := by
        rcases List.mem_append.mp hp with w | w
        · obtain ⟨m, _, w⟩ := List.mem_flatMap.mp w
          split at w
          · cases w
          · exact (jOps_in (hg.2.1 R hR) w).2
        · split at w
          · exact (sOps_in (hg.2.1 R hR) w).2
          · cases w
      rw [z, c] at this; exact q this.symm
  · rw [apv_out hin c]
    unfold vS
    by_cases q : s / 625 ∈ S
    · rw [if_pos q, if_pos (List.mem_append.mpr (Or.inl q))]
    · rw [if_neg q, if_neg]
      intro z
      rcases List.mem_append.mp z with w | w
      · exact q w
      · exact c (List.mem_singleton.mp w)
/-- what a cell holds has a category of the grammar -/
theorem ch_sup {g : Gram} (hg : gOk g) (o : Own) (ws : List (List Nat)) {i j s : Nat} (hij : i < j) (h : (ch g o ws i j s).isSome = true) : s / 625 < g.2.2.length ∧ s < 10000 := by
  rw [ch_cell hg o ws hij, vA_some, Bool.or_eq_true] at h
  rcases h with h | h
  · obtain ⟨p, hp, e⟩ := tot_some.mp h
    subst e
    unfold bOps at hp
    rcases List.mem_append.mp hp with q | q
    · split at q
      · unfold eOps at q
        obtain ⟨E, hE, q⟩ := List.mem_flatMap.mp q
        split at q
        · rw [List.mem_singleton] at q; subst q
          have := hg.1 E hE
          have h2 := hg.2.2.2.1 E hE
          have h3 := this.2.1; have h4 := this.2.2
          unfold eSg; show (625 * E.2.1 + E.2.2) / 625 < _ ∧ 625 * E.2.1 + E.2.2 < 10000
          omega
        · cases q
      · cases q
    · obtain ⟨m, _, q⟩ := List.mem_flatMap.mp q
      unfold pairs at q
      obtain ⟨R, hR, q⟩ := List.mem_flatMap.mp q
      split at q
      · cases q
      · have := jOps_in (hg.2.1 R hR) q
        rw [this.2]; exact ⟨(hg.2.2.2.2.1 R hR).1, this.1⟩
  · obtain ⟨p, hp, e⟩ := tot_some.mp h
    subst e
    unfold singl at hp
    obtain ⟨R, hR, q⟩ := List.mem_flatMap.mp hp
    split at q
    · have := sOps_in (hg.2.1 R hR) q
      rw [this.2]; exact ⟨(hg.2.2.2.2.1 R hR).1, this.1⟩
    · cases q
theorem vS_all {g : Gram} (hg : gOk g) (o : Own) (ws : List (List Nat)) {i j : Nat} (hij : i < j) : vS (ordL (clos g.2.1) g.2.2.length) (ch g o ws i j) = ch g o ws i j := by
  funext s
  unfold vS
  by_cases q : s / 625 ∈ ordL (clos g.2.1) g.2.2.length
  · rw [if_pos q]
  · rw [if_neg q]
    cases h : ch g o ws i j s with
    | none => rfl
    | some v =>
      exfalso; apply q
      rw [ordL_gP, gP_mem]
      refine ⟨(ch_sup hg o ws hij (by rw [h]; rfl)).1, ?_⟩
      have := cntC_le (clos g.2.1) (s / 625); omega
