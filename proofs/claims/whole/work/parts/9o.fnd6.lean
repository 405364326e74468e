/-! ===== the class's finder: closing nodes; a step, by number and by cost alike ===== -/
def preG (b : Bool) (g : Gram) (o : Own) (ws : List (List Nat)) (f i j c : Nat) (wt : Nat → Int) (n : Int) : Prop := if b = true then (0 ≤ n ∧ n ≤ 1000000000000000 ∧ ∃ L, preC g o ws f i j c wt L) else (∃ (w : Nat → Nat) (k : Nat), wt = (fun s => (w s : Int)) ∧ n = (k : Int) ∧ preN g o ws f i j c w k)
theorem preG_b {b : Bool} {g : Gram} {o : Own} {ws : List (List Nat)} {f i j c : Nat} {wt : Nat → Int} {n : Int} (hg : gOk g) (ho : b = true → oB o) (hj : j ≤ 14) (h : preG b g o ws f i j c wt n) : i < j ∧ c < 16 ∧ 0 ≤ n ∧ n ≤ 1000000000000000 ∧ wR b wt ∧ ∀ (R : Rule) (m : Nat), ((R.2.2.1 = none ∧ m = j) ∨ (R.2.2.1 ≠ none ∧ i < m ∧ m < j)) → wR b (wFst b R (ch g o ws m j) wt) := by
  cases b with
  | true =>
    obtain ⟨h1, h2, L, hij, _, hc, _, ⟨K, hK0, hw, hKf⟩, _⟩ : (0 ≤ n ∧ n ≤ 1000000000000000 ∧ ∃ L, preC g o ws f i j c wt L) := h
    refine ⟨hij, hc, h1, h2, ?_, fun R m hm => ?_⟩
    · show wB 450000 wt
      exact fun s => by rcases hw s with q | q; exact Or.inl q; right; omega
    · show wB 450000 (wFst true R (ch g o ws m j) wt)
      have := wFst_B (R := R) (Vb := ch g o ws m j) hw hK0 (fun q => cB_ch hg (ho rfl) ws (by rcases hm with ⟨z, _⟩ | ⟨_, _, z⟩; exact absurd z q; exact z) hj)
      exact fun s => by rcases this s with q | q; exact Or.inl q; right; omega
  | false =>
    obtain ⟨w, k, rfl, rfl, hij, hc, _, hw, hn⟩ : (∃ (w : Nat → Nat) (k : Nat), wt = (fun s => (w s : Int)) ∧ n = (k : Int) ∧ preN g o ws f i j c w k) := h
    have := sat_le (cS (ch g o ws i j) c w)
    refine ⟨hij, hc, by omega, by omega, ?_, fun R m _ => ?_⟩
    · intro s
      exact ⟨w s, by show (w s : Int) = _; rw [sat_id (hw s)]⟩
    · intro s
      exact ⟨_, wFst_N (fun _ => rfl) hw s⟩
theorem pkG_step {b : Bool} {g : Gram} (hg : gOk g) (h40 : g.1.length ≤ 40) (h30 : g.2.1.length ≤ 30) {o : Own} (ho : b = true → oB o) {ws : List (List Nat)} {f i j c : Nat} {wt : Nat → Int} {n : Int} {dep s : Nat} {n' : Int} {nds : List Nd} (h : preG b g o ws (f + 1) i j c wt n) (hpk : pk b g (ch g o ws) ws (f + 1) i j c wt n dep = some (s, n', nds)) : ∃ op n1, chG b (vO b g (ch g o ws) wt i j) (optL g ws i j c) n = some (op, n1) ∧
    ((∃ e, e < g.1.length ∧ op = ((-1 - (e : Int)), 0) ∧ s = eSg (g.1.getD e dE) ∧ n' = n1 ∧ nds = [(eSg (g.1.getD e dE), i, j, (-1 - (e : Int)), dep)]) ∨
     (∃ r R, r < g.2.1.length ∧ g.2.1.getD r dR = R ∧ op.1 = (r : Int) ∧ R.1 = c ∧
       ((∃ s1 nds1, R.2.2.1 = none ∧ op.2 = j ∧ preG b g o ws f i j R.2.1 (wFst b R (ch g o ws j j) wt) n1 ∧ pk b g (ch g o ws) ws f i j R.2.1 (wFst b R (ch g o ws j j) wt) n1 (dep + 1) = some (s1, n', nds1) ∧ s1 < 10000 ∧ mkS R s1 0 = some s ∧ nds = (s, i, j, (r : Int), dep) :: nds1) ∨
        (∃ c2 s1 n2 nds1 t nds2, R.2.2.1 = some c2 ∧ i < op.2 ∧ op.2 < j ∧ preG b g o ws f i op.2 R.2.1 (wFst b R (ch g o ws op.2 j) wt) n1 ∧ pk b g (ch g o ws) ws f i op.2 R.2.1 (wFst b R (ch g o ws op.2 j) wt) n1 (dep + 1) = some (s1, n2, nds1) ∧ s1 < 10000 ∧ (ch g o ws i op.2 s1).isSome = true ∧ s1 / 625 = R.2.1 ∧ preG b g o ws f op.2 j c2 (fun y => mkW b wt (mkS R s1 y)) n2 ∧ pk b g (ch g o ws) ws f op.2 j c2 (fun y => mkW b wt (mkS R s1 y)) n2 (dep + 1) = some (t, n', nds2) ∧ t < 10000 ∧ mkS R s1 t = some s ∧ nds = (s, i, j, (r : Int), dep) :: (nds1 ++ nds2))))) := by
  cases b with
  | true =>
    obtain ⟨h1, h2, L, hpre⟩ : (0 ≤ n ∧ n ≤ 1000000000000000 ∧ ∃ L, preC g o ws (f + 1) i j c wt L) := h
    obtain ⟨op, s', nds', hch, _, hpk', _, hcase⟩ := pkC_st hg h40 h30 (ho rfl) (pkC_ok hg h40 h30 (ho rfl) ws f) hpre n dep
    unfold pkC at hpk'
    rw [hpk] at hpk'
    obtain ⟨q1, q2, q3⟩ := tri_inj hpk'
    subst q1; subst q2; subst q3
    refine ⟨op, n', hch, ?_⟩
    rcases hcase with ⟨e, he, hop, _, _, r1, r2⟩ | ⟨r, hr, hor, hRc, h4⟩
    · exact Or.inl ⟨e, he, hop, r1, rfl, r2⟩
    · refine Or.inr ⟨r, _, hr, rfl, hor, hRc, ?_⟩
      rcases h4 with ⟨s1, nds1, k1, k2, k3, k4, k5, k6, k7⟩ | ⟨c2, s1, nds1, t, nds2, k1, k2, k3, k4, k5, k6, k7, k8, k9, k10, k11⟩
      · exact Or.inl ⟨s1, nds1, k1, k2, ⟨h1, h2, _, k3⟩, k4, k5.2.2.1, k6, k7⟩
      · exact Or.inr ⟨c2, s1, n', nds1, t, nds2, k1, k2, k3, ⟨h1, h2, _, k4⟩, k5, k6.2.2.1, k6.1, k6.2.1, ⟨h1, h2, _, k7⟩, k8, k9.2.2.1, k10, k11⟩
  | false =>
    obtain ⟨w, k, rfl, rfl, hpre⟩ : (∃ (w : Nat → Nat) (k : Nat), wt = (fun s => (w s : Int)) ∧ n = (k : Int) ∧ preN g o ws (f + 1) i j c w k) := h
    have hw := hpre.2.2.2.1
    obtain ⟨op, n1, hchm, hcase⟩ := pkN_step hg h40 h30 dep hpre
    have hwF : ∀ (R : Rule) (m : Nat), wFst false R (ch g o ws m j) (fun s => (w s : Int)) = fun x => ((sat (fT R (ch g o ws m j) w x) : Nat) : Int) := fun R m => by funext x; exact wFst_N (fun _ => rfl) hw x
    have hwO : ∀ (R : Rule) (s y : Nat), wO w (mkS R s y) ≤ 1000000000000000 := fun R s y => by
      cases mkS R s y with
      | none => exact Nat.zero_le _
      | some u => exact hw u
    have hmW : ∀ (R : Rule) (s : Nat), (fun y => mkW false (fun s => (w s : Int)) (mkS R s y)) = fun y => ((wO w (mkS R s y) : Nat) : Int) := fun R s => by
      funext y
      rw [mkW_N (fun _ => rfl) hw, sat_id (hwO R s y)]
    have hch : chG false (vO false g (ch g o ws) (fun s => (w s : Int)) i j) (optL g ws i j c) (k : Int) = some (op, ((n1 : Nat) : Int)) := by
      have hvO : ∀ op ∈ optL g ws i j c, vO false g (ch g o ws) (fun s => (w s : Int)) i j op = (vNn g o ws w i j op : Int) := fun op hop => by
        unfold vO vNn tO
        split
        · rw [sat_id (hw _)]
        · exact vlG_N (fun _ => rfl) hw
      have := chM_N (v := vNn g o ws w i j) (optL g ws i j c) k hvO
      rw [hchm] at this
      exact this
    refine ⟨op, (n1 : Int), hch, ?_⟩
    have hpk0 : pkN g o ws (f + 1) i j c w k dep = some (s, n', nds) := hpk
    rcases hcase with ⟨e, he, hop, _, _, hq⟩ | ⟨r, hr, hor, hRc, h4⟩
    · rw [hpk0] at hq
      obtain ⟨q1, q2, q3⟩ := tri_inj hq
      exact Or.inl ⟨e, he, hop, q1, q2, q3⟩
    · refine Or.inr ⟨r, _, hr, rfl, hor, hRc, ?_⟩
      generalize g.2.1.getD r dR = R at h4
      rcases h4 with ⟨s1, n2, nds1, u, k1, k2, k3, k4, k5, k6, k7⟩ | ⟨c2, s1, n2, nds1, t, n3, nds2, u, k1, k2, k3, k4, k5, k6, k7, k8, k9, k10, k11⟩
      · left
        rw [hpk0] at k7
        obtain ⟨q1, q2, q3⟩ := tri_inj k7
        subst q1; subst q2
        refine ⟨s1, nds1, k1, k2, ⟨_, n1, hwF R j, rfl, k3⟩, ?_, k5, k6, q3⟩
        rw [hwF R j]; exact k4
      · right
        rw [hpk0] at k11
        obtain ⟨q1, q2, q3⟩ := tri_inj k11
        subst q1; subst q2
        obtain ⟨s', n'', nds', z1, z2⟩ := pkN_res hg h40 h30 (dep + 1) k4
        have k5' := k5
        rw [z1] at k5'
        obtain ⟨y1, y2, y3⟩ := tri_inj k5'
        subst y1
        refine ⟨c2, s', (n2 : Int), nds1, t, nds2, k1, k2, k3, ⟨_, n1, hwF R op.2, rfl, k4⟩, ?_, k6, z2.1, z2.2.1, ⟨_, n2, hmW R s', rfl, k7⟩, ?_, k9, k10, q3⟩
        · rw [hwF R op.2]; exact k5
        · rw [hmW R s']; exact k8
/-- the first node has the sign that was found -/
theorem pk_head {b : Bool} {g : Gram} {T : Nat → Nat → Nat → Vl} {ws : List (List Nat)} : ∀ {f i j c : Nat} {wt : Nat → Int} {n : Int} {dep s : Nat} {n' : Int} {nds : List Nd}, pk b g T ws f i j c wt n dep = some (s, n', nds) → ∃ y tl, nds = (s, i, j, y, dep) :: tl
  | 0, i, j, c, wt, n, dep, s, n', nds, h => by cases h
  | f + 1, i, j, c, wt, n, dep, s, n', nds, h => by
    cases hch : chG b (vO b g T wt i j) (optL g ws i j c) n with
    | none =>
      unfold pk at h
      rw [hch] at h; cases h
    | some p =>
      obtain ⟨op, n1⟩ := p
      rw [pk_s hch] at h
      by_cases c1 : op.1 < 0
      · rw [if_pos c1] at h
        obtain ⟨q1, _, q3⟩ := tri_inj h
        exact ⟨_, _, by rw [← q3, q1]⟩
      · rw [if_neg c1] at h
        generalize g.2.1.getD op.1.toNat dR = R at h
        cases h1 : pk b g T ws f i op.2 R.2.1 (wFst b R (T op.2 j) wt) n1 (dep + 1) with
        | none => rw [h1] at h; cases h
        | some p1 =>
          obtain ⟨s1, n2, nds1⟩ := p1
          rw [h1] at h
          have h : (if R.2.2.1 = none then some ((mkS R s1 0).getD 0, n2, ((mkS R s1 0).getD 0, i, j, op.1, dep) :: nds1) else (match pk b g T ws f op.2 j (R.2.2.1.getD 0) (fun y => mkW b wt (mkS R s1 y)) n2 (dep + 1) with | none => none | some (t, n3, nds2) => some ((mkS R s1 t).getD 0, n3, ((mkS R s1 t).getD 0, i, j, op.1, dep) :: (nds1 ++ nds2)))) = some (s, n', nds) := h
          by_cases c2 : R.2.2.1 = none
          · rw [if_pos c2] at h
            obtain ⟨q1, _, q3⟩ := tri_inj h
            exact ⟨_, _, by rw [← q3, q1]⟩
          · rw [if_neg c2] at h
            cases h2 : pk b g T ws f op.2 j (R.2.2.1.getD 0) (fun y => mkW b wt (mkS R s1 y)) n2 (dep + 1) with
            | none => rw [h2] at h; cases h
            | some p2 =>
              obtain ⟨t, n3, nds2⟩ := p2
              rw [h2] at h
              obtain ⟨q1, _, q3⟩ := tri_inj h
              exact ⟨_, _, by rw [← q3, q1]⟩
/-- the head of closeNodes' loop, called out of find's iteration k -/
def CLh (l : Launch) (dC : Nat) (Q : Option Value → XW → Prop) (tgt cg : Value) (k cl s : Nat) (I : Nat → Int32) (J : Nat → Int64) (A : Nat → Nat → Int32) (B : Nat → Nat → Int64) : Prop := xG l dC 32 (fun v9 w9 => xG l (dC + 1) 21 Q 144 [some (.ref 31), none, none, none, none, some (.int (nI k)), none] (v9.toList ++ []) w9 0 0) 4 [some (.ref 31), none, some (.int (nI (cs s))), some (.int (nI cl)), none] [] (wC tgt cg (.ref 37) I J A B) 0 0
section C36
variable {l : Launch} {J : Nat → Int64} {Q : Option Value → XW → Prop} {d : Nat} {tgt cg : Value} {I : Nat → Int32} {A : Nat → Nat → Int32} {B : Nat → Nat → Int64}
/-- what closing the node at place q + 1 comes to -/
theorem cl_up (hd : 1 ≤ d) {k cl s q z z' r : Nat} {R : Rule} (hr : r < 30) (hRk : okR R) (hRZ : rulZ A r R) (h3107 : I 3107 = nI (q + 2)) (hcl : cl + q + 2 ≤ 224) (h32' : A 32 (q + 1) = nI z') (hz' : z' < 432) (h32 : A 32 q = nI z) (hz : z < 432) (h29 : A 29 z = nI r)
    (h : xG l d 32 (fun v9 w9 => xG l (d + 1) 21 Q 144 [some (.ref 31), none, none, none, none, some (.int (nI k)), none] (v9.toList ++ []) w9 0 0) 86 [some (.ref 31), none, some (.int (nI (cs s))), some (.int (nI cl)), some (.int (nI r))] [.int (bI R.2.2.1.isNone)] (wC tgt cg (.ref 37) (upd I 3107 (nI (q + 1))) J (va_up A 26 (upd (A 26) z' (nI (cs s)))) B) 0 0) : CLh l d Q tgt cg k cl s I J A B := by
  have e1 : nI (q + 2) - 1 = nI (q + 1) := by rw [show (1 : Int32) = nI 1 from rfl, sub_n (by omega)]; rfl
  have e2 : nI (q + 1) - 1 = nI q := by rw [show (1 : Int32) = nI 1 from rfl, sub_n (by omega)]; rfl
  unfold CLh
  refine b_X2_closeNodes_4 ?_
  rw [h3107, e1, e2, cl_n (a := q + 1) (by omega), cl_n (a := q) (by omega), h32', h32, cl_n (a := z') (by omega), cl_n (a := z) (by omega), h29]
  refine if_le (a := 224) rfl rfl (by omega) (by omega) (fun z1 => absurd z1 (by omega)) (fun _ => if_le (b := 0) rfl rfl (by omega) (by omega) (fun z1 => absurd z1 (by omega)) (fun _ => ⟨xin_n (by omega) (by omega), xin_n (by omega) (by omega), if_eq (b := 0) rfl rfl (by omega) (by omega) (fun z1 => absurd z1 (by omega)) (fun _ => ⟨xin_n (by omega) (by omega), xin_n (by omega) (by omega), ?_⟩)⟩))
  exact s_isSingle1 (by omega) rfl hr (by rw [un_v (by decide)]; exact hRZ.2.2.1) hRk.2.2.1 h
theorem cl_up1 (hd : 1 ≤ d) {k cl s u q z z' r : Nat} {R : Rule} (hr : r < 30) (hRk : okR R) (hRZ : rulZ A r R) (h3107 : I 3107 = nI (q + 2)) (hcl : cl + q + 2 ≤ 224) (h32' : A 32 (q + 1) = nI z') (hz' : z' < 432) (h32 : A 32 q = nI z) (hz : z < 432) (h29 : A 29 z = nI r) (h1 : R.2.2.1 = none) (hs : s < 10000) (hu : mkS R s 0 = some u)
    (h : CLh l d Q tgt cg k (cl + 1) u (upd I 3107 (nI (q + 1))) J (va_up A 26 (upd (A 26) z' (nI (cs s)))) B) : CLh l d Q tgt cg k cl s I J A B := by
  refine cl_up hd hr hRk hRZ h3107 hcl h32' hz' h32 hz h29 (b_X2_closeNodes_86 ?_)
  rw [h1]
  refine if_bI (b := true) rfl (fun e => by cases e) (fun _ => s_join (R := R) (b := 0) (by omega) rfl hr rfl hs rfl (by omega) hRk ?_ (fun _ => rfl) (b_X2_closeNodes_100 ?_))
  · unfold rulZ tabC at hRZ ⊢
    rw [un_v (by decide), un_v (by decide), un_v (by decide), un_v (by decide)]; exact hRZ
  · rw [hu, nI_1]; exact h
theorem cl_up2 (hd : 1 ≤ d) {k cl s q z z' r c2 : Nat} {R : Rule} (hr : r < 30) (hRk : okR R) (hRZ : rulZ A r R) (h3107 : I 3107 = nI (q + 2)) (hcl : cl + q + 2 ≤ 224) (h32' : A 32 (q + 1) = nI z') (hz' : z' < 432) (h32 : A 32 q = nI z) (hz : z < 432) (h29 : A 29 z = nI r) (h1 : R.2.2.1 = some c2) (h34 : A 34 q = -1)
    (h : ∀ (Q' : Option Value → XW → Prop), (∀ (I' : Nat → Int32) (J' : Nat → Int64) (A' : Nat → Nat → Int32) (B' : Nat → Nat → Int64), xG l (d + 1) 21 Q 144 [some (.ref 31), none, none, none, none, some (.int (nI k)), none] [] (wC tgt cg (.ref 37) I' J' A' B') 0 0 → Q' none (wC tgt cg (.ref 37) I' J' A' B')) → xK l d 31 [.ref 31, .int (nI (cs s))] (wC tgt cg (.ref 37) (upd I 3107 (nI (q + 1))) J (va_up A 26 (upd (A 26) z' (nI (cs s)))) B) Q') : CLh l d Q tgt cg k cl s I J A B := by
  refine cl_up hd hr hRk hRZ h3107 hcl h32' hz' h32 hz h29 (b_X2_closeNodes_86 ?_)
  have e1 : (upd I 3107 (nI (q + 1))) 3107 - 1 = nI q := by rw [ue_i, show (1 : Int32) = nI 1 from rfl, sub_n (by omega)]; rfl
  rw [h1, e1, cl_n (a := q) (by omega), un_v (show (34 : Nat) ≠ 26 by decide), h34]
  refine if_bI (b := false) rfl (fun _ => ⟨xin_n (by omega) (by omega), ?_⟩) (fun e => by cases e)
  rw [if_pos rfl]
  exact h _ (fun I' J' A' B' hw => b_X2_closeNodes_124 hw)
theorem cl_up3 (hd : 1 ≤ d) {k cl s0 s u q z z' r c2 : Nat} {R : Rule} (hr : r < 30) (hRk : okR R) (hRZ : rulZ A r R) (h3107 : I 3107 = nI (q + 2)) (hcl : cl + q + 2 ≤ 224) (h32' : A 32 (q + 1) = nI z') (hz' : z' < 432) (h32 : A 32 q = nI z) (hz : z < 432) (h29 : A 29 z = nI r) (h1 : R.2.2.1 = some c2) (h34 : A 34 q = nI (cs s0)) (hs0 : s0 < 10000) (hs : s < 10000) (hu : mkS R s0 s = some u)
    (h : CLh l d Q tgt cg k (cl + 1) u (upd I 3107 (nI (q + 1))) J (va_up A 26 (upd (A 26) z' (nI (cs s)))) B) : CLh l d Q tgt cg k cl s I J A B := by
  refine cl_up hd hr hRk hRZ h3107 hcl h32' hz' h32 hz h29 (b_X2_closeNodes_86 ?_)
  have e1 : (upd I 3107 (nI (q + 1))) 3107 - 1 = nI q := by rw [ue_i, show (1 : Int32) = nI 1 from rfl, sub_n (by omega)]; rfl
  have hcs := cs_lt hs0
  rw [h1, e1, cl_n (a := q) (by omega), un_v (show (34 : Nat) ≠ 26 by decide), h34]
  refine if_bI (b := false) rfl (fun _ => ⟨xin_n (by omega) (by omega), ?_⟩) (fun e => by cases e)
  rw [if_neg (ne_m1 (by omega))]
  refine ⟨xin_n (by omega) (by omega), s_join (R := R) (by omega) rfl hr rfl hs0 rfl hs hRk ?_ (fun q => by rw [h1] at q; cases q) (b_X2_closeNodes_146 ?_)⟩
  · unfold rulZ tabC at hRZ ⊢
    rw [un_v (by decide), un_v (by decide), un_v (by decide), un_v (by decide)]; exact hRZ
  · rw [hu, nI_1]; exact h
end C36
