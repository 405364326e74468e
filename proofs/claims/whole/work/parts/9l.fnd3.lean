/-! ===== the class's finder: choosing ===== -/
abbrev OS : Type := Option Opt × Bool × Int × Int
def ofS (b : Bool) (v : Int) (o : Opt) (S : OS) : OS := if b = true then (if v < S.2.2.2 then (some o, S.2.1, S.2.2.1, v) else S) else (if S.2.2.1 < v then (some o, true, S.2.2.1, S.2.2.2) else (S.1, S.2.1, S.2.2.1 - v, S.2.2.2))
def ruS (b : Bool) (v : Opt → Int) (L : List Opt) (S : OS) : OS := L.foldl (fun S o => if S.2.1 = true then S else ofS b (v o) o S) S
theorem ru_set {b : Bool} {v : Opt → Int} : ∀ (L : List Opt) {S : OS}, S.2.1 = true → ruS b v L S = S
  | [], S, _ => rfl
  | o :: L, S, h => by
    have e : ruS b v (o :: L) S = ruS b v L (if S.2.1 = true then S else ofS b (v o) o S) := rfl
    rw [e, if_pos h]; exact ru_set L h
theorem ru_cons {b : Bool} {v : Opt → Int} {o : Opt} {L : List Opt} {S : OS} (h : S.2.1 = false) : ruS b v (o :: L) S = ruS b v L (ofS b (v o) o S) := by
  have e : ruS b v (o :: L) S = ruS b v L (if S.2.1 = true then S else ofS b (v o) o S) := rfl
  rw [e, if_neg (by rw [h]; decide)]
theorem ru_N {v : Opt → Int} : ∀ (L : List Opt) (a : Option Opt) (n t : Int) {op : Opt} {n1 : Int}, chN v L n = some (op, n1) → ruS false v L (a, false, n, t) = (some op, true, n1, t)
  | [], a, n, t, op, n1, h => by cases h
  | o :: L, a, n, t, op, n1, h => by
    rw [ru_cons rfl]
    unfold chN at h
    have e : ofS false (v o) o (a, false, n, t) = if n < v o then (some o, true, n, t) else (a, false, n - v o, t) := rfl
    rw [e]
    by_cases c : n < v o
    · rw [if_pos c] at h ⊢
      injection h with h
      injection h with h1 h2
      subst h1; subst h2
      exact ru_set L rfl
    · rw [if_neg c] at h ⊢
      exact ru_N L a (n - v o) t h
theorem ru_C {v : Opt → Int} : ∀ (L : List Opt) (a : Option Opt) (n t : Int), ruS true v L (a, false, n, t) = ((L.foldl (fun a o => if v o < a.2 then (some o, v o) else a) (a, t)).1, false, n, (L.foldl (fun a o => if v o < a.2 then (some o, v o) else a) (a, t)).2)
  | [], a, n, t => rfl
  | o :: L, a, n, t => by
    rw [ru_cons rfl, List.foldl_cons]
    have e : ofS true (v o) o (a, false, n, t) = if v o < t then (some o, false, n, v o) else (a, false, n, t) := rfl
    rw [e]
    by_cases c : v o < t
    · rw [if_pos c, if_pos (show v o < (a, t).2 from c)]
      exact ru_C L (some o) n (v o)
    · rw [if_neg c, if_neg (show ¬ v o < (a, t).2 from c)]
      exact ru_C L a n t
theorem ru_G {b : Bool} {v : Opt → Int} {L : List Opt} {n n1 : Int} {op : Opt} (h : chG b v L n = some (op, n1)) : (ruS b v L (none, false, n, 1000000)).1 = some op ∧ (ruS b v L (none, false, n, 1000000)).2.2.1 = n1 := by
  cases b with
  | false =>
    have h : chN v L n = some (op, n1) := h
    rw [ru_N L none n 1000000 h]; exact ⟨rfl, rfl⟩
  | true =>
    have h : (chC v L).1.map (fun o => (o, n)) = some (op, n1) := h
    rw [ru_C]
    cases q : (chC v L).1 with
    | none => rw [q] at h; cases h
    | some o =>
      rw [q] at h
      injection h with h
      injection h with h1 h2
      exact ⟨by rw [← h1]; exact q, h2⟩
def oRg (S : OS) : Prop := (0 ≤ S.2.2.1 ∧ S.2.2.1 ≤ 1000000000000000) ∧ (-1000000 ≤ S.2.2.2 ∧ S.2.2.2 ≤ 1000000)
theorem oRg_of {b : Bool} {v : Int} {o : Opt} {S : OS} (h : oRg S) (hv : vR b v) : oRg (ofS b v o S) := by
  unfold oRg ofS at *
  cases b with
  | true =>
    have hv : -1000000 ≤ v ∧ v ≤ 1000000 := hv
    rw [if_pos rfl]
    split
    · exact ⟨h.1, hv⟩
    · exact h
  | false =>
    obtain ⟨n, hv⟩ : ∃ n : Nat, v = (sat n : Int) := hv
    have := sat_le n
    rw [if_neg (by decide)]
    split
    · exact h
    · exact ⟨by show 0 ≤ S.2.2.1 - v ∧ S.2.2.1 - v ≤ _; omega, h.2⟩
/-- the state of choosing, as the class holds it -/
def osM (q z : Nat) (S : OS) (I : Nat → Int32) (J : Nat → Int64) (A : Nat → Nat → Int32) : Prop := I 3111 = bI S.2.1 ∧ J 3110 = lI S.2.2.1 ∧ J 3112 = lI S.2.2.2 ∧ ∀ op, S.1 = some op → A 29 z = iC op.1 ∧ A 33 q = nI op.2
def fO (q z : Nat) (I : Nat → Int32) (J : Nat → Int64) (A : Nat → Nat → Int32) (I' : Nat → Int32) (J' : Nat → Int64) (A' : Nat → Nat → Int32) : Prop := (∀ i, i ≠ 3111 → I' i = I i) ∧ (∀ i, i ≠ 3110 → i ≠ 3112 → J' i = J i) ∧ (∀ p, p ≠ 29 → p ≠ 33 → A' p = A p) ∧ (∀ i, i ≠ z → A' 29 i = A 29 i) ∧ (∀ i, i ≠ q → A' 33 i = A 33 i)
theorem fO_refl (q z : Nat) (I : Nat → Int32) (J : Nat → Int64) (A : Nat → Nat → Int32) : fO q z I J A I J A := ⟨fun _ _ => rfl, fun _ _ _ => rfl, fun _ _ _ => rfl, fun _ _ => rfl, fun _ _ => rfl⟩
theorem fO_trans {q z : Nat} {I I1 I2 : Nat → Int32} {J J1 J2 : Nat → Int64} {A A1 A2 : Nat → Nat → Int32} (h : fO q z I J A I1 J1 A1) (k : fO q z I1 J1 A1 I2 J2 A2) : fO q z I J A I2 J2 A2 := ⟨fun i a => (k.1 i a).trans (h.1 i a), fun i a b => (k.2.1 i a b).trans (h.2.1 i a b), fun p a b => (k.2.2.1 p a b).trans (h.2.2.1 p a b), fun i a => (k.2.2.2.1 i a).trans (h.2.2.2.1 i a), fun i a => (k.2.2.2.2 i a).trans (h.2.2.2.2 i a)⟩
theorem fSt_fr {b : Bool} {g : Gram} {o : Own} {ws : List (List Nat)} {I I' : Nat → Int32} {A A' : Nat → Nat → Int32} {B B' : Nat → Nat → Int64} (h : fSt b g o ws I A B) (hI : ∀ i, i ≠ 2505 → i ≠ 3107 → i ≠ 3111 → I' i = I i) (hA : ∀ p, (p < 26 ∨ p = 31 ∨ 34 < p) → A' p = A p) (hB : ∀ p, p ≠ 35 → B' p = B p) : fSt b g o ws I' A' B' := by
  obtain ⟨h1, h2, h3, h4, h5, h6, h7, h8⟩ := h
  refine ⟨h1, h2, ?_, ?_, ?_, (hI _ (by decide) (by decide) (by decide)).trans h6, fun k hk => ⟨(h7 k hk).1, by rw [hB 15 (by decide)]; exact (h7 k hk).2⟩, h8⟩
  · unfold entC at h3 ⊢
    rw [hI 3710 (by decide) (by decide) (by decide), hA 39 (by omega), hB 38 (by decide)]; exact h3
  · unfold rulC rulZ tabC at h4 ⊢
    rw [hI 3711 (by decide) (by decide) (by decide), hA 40 (by omega), hA 41 (by omega), hA 42 (by omega), hA 44 (by omega)]; exact h4
  · intro i j a c
    have := h5 i j a c
    unfold cX rX at this ⊢
    rw [hA 20 (by omega), hA 21 (by omega), hA 23 (by omega), hA 24 (by omega), hB 22 (by decide)]; exact this
theorem fSt_fO {b : Bool} {g : Gram} {o : Own} {ws : List (List Nat)} {q z : Nat} {I I' : Nat → Int32} {J J' : Nat → Int64} {A A' : Nat → Nat → Int32} {B : Nat → Nat → Int64} (h : fSt b g o ws I A B) (f : fO q z I J A I' J' A') : fSt b g o ws I' A' B := fSt_fr h (fun i _ _ a => f.1 i a) (fun p a => f.2.2.1 p (by omega) (by omega)) (fun _ _ => rfl)
theorem curN_fO {q z i j : Nat} {I I' : Nat → Int32} {J J' : Nat → Int64} {A A' : Nat → Nat → Int32} (h : curN q z i j I A) (f : fO q z I J A I' J' A') : curN q z i j I' A' := by
  unfold curN at *
  rw [f.1 3107 (by decide), f.2.2.1 32 (by decide) (by decide), f.2.2.1 27 (by decide) (by decide), f.2.2.1 28 (by decide) (by decide)]; exact h
section C33
variable {l : Launch} {J : Nat → Int64} {Q : Option Value → XW → Prop} {d : Nat} {tgt cg fg : Value} {I : Nat → Int32} {A : Nat → Nat → Int32} {B : Nat → Nat → Int64} {b : Bool} {g : Gram} {o : Own} {ws : List (List Nat)}
theorem s_takeF (hd : 1 ≤ d) {x y : Int32} {q z i j : Nat} (hcur : curN q z i j I A) (hQ : Q none (wC tgt cg fg I J (va_up (va_up A 29 (upd (A 29) z x)) 33 (upd (A 33) q y)) B)) : xK l d 26 [.ref 31, .int x, .int y] (wC tgt cg fg I J A B) Q := by
  obtain ⟨d, rfl⟩ : ∃ e, d = e + 1 := ⟨d - 1, by omega⟩
  have hq := curN_q hcur
  obtain ⟨h1, h2, h3, h4, h5, h6⟩ := hcur
  refine e_X2_take ?_
  rw [hq, cl_n (by omega), h3, cl_n (by omega)]
  exact ⟨xin_n (by omega) (by omega), xin_n (by omega) (by omega), xin_n (by omega) (by omega), hQ⟩
theorem fO_take {q z : Nat} {x y : Int32} {I' : Nat → Int32} {J' : Nat → Int64} (hI : ∀ i, i ≠ 3111 → I' i = I i) (hJ : ∀ i, i ≠ 3110 → i ≠ 3112 → J' i = J i) : fO q z I J A I' J' (va_up (va_up A 29 (upd (A 29) z x)) 33 (upd (A 33) q y)) := by
  refine ⟨hI, hJ, fun p a b => by rw [un_v b, un_v a], fun i a => ?_, fun i a => ?_⟩
  · rw [un_v (by decide), ue_v, un_i a]
  · rw [ue_v, un_i a]
theorem s_offer (hd : 2 ≤ d) (hb : I 3109 = bI b) {x1 : Int64} {x3 x4 : Int32} {v : Int} {op : Opt} {S : OS} {q z i j : Nat} (hcur : curN q z i j I A) (hx1 : x1 = lI v) (hv : vR b v) (hx3 : x3 = iC op.1) (hx4 : x4 = nI op.2) (hS : osM q z S I J A) (hR : oRg S) (hs : S.2.1 = false)
    (hQ : ∀ (I' : Nat → Int32) (J' : Nat → Int64) (A' : Nat → Nat → Int32), osM q z (ofS b v op S) I' J' A' → fO q z I J A I' J' A' → Q none (wC tgt cg fg I' J' A' B)) : xK l d 25 [.ref 31, .long x1, .int x3, .int x4] (wC tgt cg fg I J A B) Q := by
  obtain ⟨d, rfl⟩ : ∃ e, d = e + 1 := ⟨d - 1, by omega⟩
  subst hx1; subst hx3; subst hx4
  obtain ⟨k1, k2, k3, k4⟩ := hS
  obtain ⟨r1, r2⟩ := hR
  have hvb := vR_b hv
  refine e_X2_offer (if_bI hb (fun e => ?_) (fun e => ?_))
  · subst e
    have eo : ofS false v op S = if S.2.2.1 < v then (some op, true, S.2.2.1, S.2.2.2) else (S.1, S.2.1, S.2.2.1 - v, S.2.2.2) := rfl
    rw [eo] at hQ
    rw [k2]
    refine if_if (lg_ge.trans (lI_le (by omega) (by omega) (by omega) (by omega))) (fun c => ?_) (fun c => ⟨Or.inr rfl, s_takeF (by omega) (q := q) (z := z) (i := i) (j := j) ?_ (b_X2_offer_52 ?_)⟩)
    · rw [if_neg (by omega)] at hQ
      refine hQ I _ A ⟨k1, ?_, ?_, k4⟩ ⟨fun _ _ => rfl, fun i a _ => un_v a, fun _ _ _ => rfl, fun _ _ => rfl, fun _ _ => rfl⟩
      · rw [ue_v, lI_sub]
      · rw [un_v (by decide)]; exact k3
    · unfold curN at hcur ⊢
      rw [un_i (by decide)]; exact hcur
    · rw [if_pos (by omega)] at hQ
      refine hQ _ J _ ⟨ue_i _ _ _, k2, k3, fun op' h => ?_⟩ (fO_take (fun i a => un_i a) (fun _ _ _ => rfl))
      have : op = op' := Option.some.inj h
      subst this
      exact ⟨by rw [un_v (by decide), ue_v, ue_i], by rw [ue_v, ue_i]⟩
  · subst e
    have eo : ofS true v op S = if v < S.2.2.2 then (some op, S.2.1, S.2.2.1, v) else S := rfl
    rw [eo] at hQ
    rw [k3]
    refine if_if (lg_ge.trans (lI_le (by omega) (by omega) (by omega) (by omega))) (fun c => ?_) (fun c => s_takeF (by omega) hcur (b_X2_offer_28 ?_))
    · rw [if_neg (by omega)] at hQ
      exact hQ I J A ⟨k1, k2, k3, k4⟩ (fO_refl q z I J A)
    · rw [if_pos (by omega)] at hQ
      refine hQ I _ _ ⟨k1, ?_, ue_v _ _ _, fun op' h => ?_⟩ (fO_take (fun _ _ => rfl) (fun i _ a => un_v a))
      · rw [un_v (by decide)]; exact k2
      · have : op = op' := Option.some.inj h
        subst this
        exact ⟨by rw [un_v (by decide), ue_v, ue_i], by rw [ue_v, ue_i]⟩
theorem s_tryEntries (hd : 4 ≤ d) (hS : fSt b g o ws I A B) {x1 : Int32} {x2 : Int64} {q z i j c : Nat} {wt : Nat → Int} {S SE : OS} (hx1 : x1 = nI c) (hc : c < 16) (hx2 : x2 = lN (c32 (ws.getD i []))) (hwd : vNm (ws.getD i [])) (hcur : curN q z i j I A) (hj1 : j = i + 1) (hj : j ≤ ws.length) (hwR : wR b wt) (hw : rowF B q (ch g o ws i j) c wt) (hos : osM q z S I J A) (hR : oRg S) (hru : ruS b (vO b g (ch g o ws) wt i j) (optE g (ws.getD i []) c) S = SE)
    (hQ : ∀ (I' : Nat → Int32) (J' : Nat → Int64) (A' : Nat → Nat → Int32), osM q z SE I' J' A' → oRg SE → fO q z I J A I' J' A' → Q none (wC tgt cg (.ref 37) I' J' A' B)) : xK l d 24 [.ref 31, .int x1, .long x2] (wC tgt cg (.ref 37) I J A B) Q := by
  obtain ⟨d, rfl⟩ : ∃ e, d = e + 1 := ⟨d - 1, by omega⟩
  subst hx1; subst hx2
  have hS0 := hS
  have h40 := hS.2.2.1.2.1
  have loop : ∀ m e (S1 : OS) (I1 : Nat → Int32) (J1 : Nat → Int64) (A1 : Nat → Nat → Int32), g.1.length - e < m → e ≤ g.1.length → osM q z S1 I1 J1 A1 → oRg S1 → fO q z I J A I1 J1 A1 → ruS b (vO b g (ch g o ws) wt i j) (oE g (ws.getD i []) c e) S1 = SE → xG l d 24 Q 3 [some (.ref 31), some (.int (nI c)), some (.long (lN (c32 (ws.getD i [])))), none, some (.int (nI e)), none] [] (wC tgt cg (.ref 37) I1 J1 A1 B) 0 0 := by
    intro m
    induction m with
    | zero => intro e S1 I1 J1 A1 hm; omega
    | succ m ih =>
      intro e S1 I1 J1 A1 hm he hos1 hR1 hf hru1
      have hS1 := fSt_fO hS0 hf
      have hes := hS1.2.2.1
      refine b_X2_tryEntries_3 (if_le hes.1 rfl (by omega) (by omega) (fun z1 => ?_) (fun z1 => if_bI hos1.1 (fun es => ⟨xin_n (by omega) (by omega), ?_⟩) (fun es => ?_)))
      · rw [oE_end z1] at hru1
        have : S1 = SE := hru1
        subst this
        exact hQ I1 J1 A1 hos1 hR1 hf
      · have hE1 := (hes.2.2 e z1).1
        have hEB := (hes.2.2 e z1).2
        have hin := fun (hcat : (g.1.getD e dE).1 = ws.getD i []) => ch_ent hS.1 o ws z1 hcat
        have hvE : vO b g (ch g o ws) wt i j ((-1 - (e : Int)), 0) = wt (eSg (g.1.getD e dE)) := vO_e b (ch g o ws) e 0
        rw [oE_step z1] at hru1
        generalize g.1.getD e dE = E at hE1 hEB hin hvE hru1
        have hin : Imp (E.1 = ws.getD i []) ((ch g o ws i (i + 1) (eSg E)).isSome = true) := hin
        generalize hwde : ws.getD i [] = wd at hwd hin hru1 ih ⊢
        have next : ∀ (S2 : OS) (I2 : Nat → Int32) (J2 : Nat → Int64) (A2 : Nat → Nat → Int32), osM q z S2 I2 J2 A2 → oRg S2 → fO q z I J A I2 J2 A2 → ruS b (vO b g (ch g o ws) wt i j) (oE g wd c (e + 1)) S2 = SE → xG l d 24 Q 73 [some (.ref 31), some (.int (nI c)), some (.long (lN (c32 wd))), none, some (.int (nI e)), none] [] (wC tgt cg (.ref 37) I2 J2 A2 B) 0 0 := fun S2 I2 J2 A2 k1 k2 k3 k4 => by
          refine b_X2_tryEntries_73 ?_
          rw [nI_1]
          exact ih (e + 1) S2 I2 J2 A2 (by omega) (by omega) k1 k2 k3 k4
        have hsg : eSg E < 10000 := by have := hE1.2.1; have := hE1.2.2; unfold eSg; omega
        have hsc : eSg E / 625 = E.2.1 := by have := hE1.2.2; unfold eSg; omega
        have hcl := cs_lt hsg
        have hcE := hE1.2.1
        rw [cl_n (by omega), hEB.2, shr12 (by omega), cs_cat, hsc]
        refine if_eq rfl rfl (by omega) (by omega) (fun e1 => ⟨xin_n (by omega) (by omega), if_if (show lg_cmp (B 38 e) (lN (c32 wd)) = 0 ↔ E.1 = wd from lg0.trans (by rw [hEB.1]; exact nm_eq32 hE1.1 hwd)) (fun e2 => ?_) (fun e2 => ?_)⟩) (fun e1 => ?_)
        · rw [if_pos e1, if_pos e2, List.singleton_append, ru_cons es, hvE] at hru1
          have hcur1 := curN_fO hcur hf
          have hcV := (hS1.2.2.2.2.1 i j (by omega) hj).1
          have h14 := hS.2.1
          refine s_weightOf (o := some (eSg E)) (V := ch g o ws i j) (c := c) (wt := wt) (by omega) hS1.2.2.2.2.2.1 rfl hcur1 (by omega) (by omega) hcV (fun s hs => ?_) hw (b_X2_tryEntries_65 (s_offer (op := ((-1 - (e : Int)), 0)) (by omega) hS1.2.2.2.2.2.1 hcur1 rfl (wR_v hwR _) (iC_e e).symm rfl hos1 hR1 es (fun I2 J2 A2 k1 k2 => next _ I2 J2 A2 k1 (oRg_of hR1 (wR_v hwR _)) (fO_trans hf k2) hru1)))
          have hs : eSg E = s := Option.some.inj hs
          subst hs
          exact ⟨hsg, by rw [hj1]; exact hin e2, by rw [hsc]; exact e1⟩
        · rw [if_pos e1, if_neg e2, List.nil_append] at hru1
          exact next S1 I1 J1 A1 hos1 hR1 hf hru1
        · rw [if_neg e1, List.nil_append] at hru1
          exact next S1 I1 J1 A1 hos1 hR1 hf hru1
      · rw [ru_set _ es] at hru1
        subst hru1
        exact hQ I1 J1 A1 hos1 hR1 hf
  refine e_X2_tryEntries ?_
  rw [oE_0] at hru
  exact loop _ 0 S I J A (Nat.lt_succ_self _) (by omega) hos hR (fO_refl q z I J A) hru
end C33
