/-! ===== the class's finder: find ===== -/
/-- nodes from z on; the first one's sign is not yet set -/
def ndY (A : Nat → Nat → Int32) (z : Nat) (nds : List Nd) : Prop := ∀ k, k < nds.length → (k ≠ 0 → A 26 (z + k) = nI (cs (nds.getD k dN).1)) ∧ A 27 (z + k) = nI (nds.getD k dN).2.1 ∧ A 28 (z + k) = nI (nds.getD k dN).2.2.1 ∧ A 29 (z + k) = iC (nds.getD k dN).2.2.2.1 ∧ A 30 (z + k) = nI (nds.getD k dN).2.2.2.2
def ndZ (A : Nat → Nat → Int32) (z : Nat) (nds : List Nd) : Prop := ∀ k, k < nds.length → A 26 (z + k) = nI (cs (nds.getD k dN).1) ∧ A 27 (z + k) = nI (nds.getD k dN).2.1 ∧ A 28 (z + k) = nI (nds.getD k dN).2.2.1 ∧ A 29 (z + k) = iC (nds.getD k dN).2.2.2.1 ∧ A 30 (z + k) = nI (nds.getD k dN).2.2.2.2
theorem ndZ_of {A A' : Nat → Nat → Int32} {z : Nat} {s i j dep : Nat} {y : Int} {tl : List Nd} (h : ndY A z ((s, i, j, y, dep) :: tl)) (h26 : A' 26 = upd (A 26) z (nI (cs s))) (hA : ∀ p, 27 ≤ p → p ≤ 30 → A' p = A p) : ndZ A' z ((s, i, j, y, dep) :: tl) := by
  intro k hk
  have := h k hk
  rw [h26, hA 27 (by omega) (by omega), hA 28 (by omega) (by omega), hA 29 (by omega) (by omega), hA 30 (by omega) (by omega)]
  refine ⟨?_, this.2⟩
  by_cases e : k = 0
  · subst e; rw [Nat.add_zero, ue_i]; rfl
  · rw [un_i (by omega)]; exact this.1 e
theorem ndY_cons {A : Nat → Nat → Int32} {z : Nat} {p : Nd} {L : List Nd} (h0 : A 27 z = nI p.2.1 ∧ A 28 z = nI p.2.2.1 ∧ A 29 z = iC p.2.2.2.1 ∧ A 30 z = nI p.2.2.2.2) (h : ndZ A (z + 1) L) : ndY A z (p :: L) := by
  intro k hk
  cases k with
  | zero => exact ⟨fun q => absurd rfl q, h0⟩
  | succ k =>
    have := h k (by rw [List.length_cons] at hk; omega)
    rw [show z + 1 + k = z + (k + 1) by omega] at this
    exact ⟨fun _ => this.1, this.2⟩
theorem ndZ_app {A : Nat → Nat → Int32} {z : Nat} {L M : List Nd} (h1 : ndZ A z L) (h2 : ndZ A (z + L.length) M) : ndZ A z (L ++ M) := by
  intro k hk
  by_cases c : k < L.length
  · rw [gD_l c]; exact h1 k c
  · rw [gD_rr (by omega)]
    have := h2 (k - L.length) (by rw [List.length_append] at hk; omega)
    rw [show z + L.length + (k - L.length) = z + k by omega] at this
    exact this
theorem ndZ_fr {A A' : Nat → Nat → Int32} {z y : Nat} {L : List Nd} (h : ndZ A z L) (hy : z + L.length ≤ y) (f : ∀ p x, 26 ≤ p → p ≤ 30 → x < y → A' p x = A p x) : ndZ A' z L := by
  intro k hk
  rw [f 26 _ (by omega) (by omega) (by omega), f 27 _ (by omega) (by omega) (by omega), f 28 _ (by omega) (by omega) (by omega), f 29 _ (by omega) (by omega) (by omega), f 30 _ (by omega) (by omega) (by omega)]; exact h k hk
/-- what finding at place q, from node z on, leaves as it was -/
def fX (q z : Nat) (I : Nat → Int32) (J : Nat → Int64) (A : Nat → Nat → Int32) (B : Nat → Nat → Int64) (I' : Nat → Int32) (J' : Nat → Int64) (A' : Nat → Nat → Int32) (B' : Nat → Nat → Int64) : Prop := (∀ p, (p < 26 ∨ p = 31 ∨ 34 < p) → A' p = A p) ∧ (∀ p x, 26 ≤ p → p ≤ 30 → x < z → A' p x = A p x) ∧ (∀ x, x ≤ q → A' 32 x = A 32 x) ∧ (∀ p x, 33 ≤ p → p ≤ 34 → x < q → A' p x = A p x) ∧ (∀ p, p ≠ 35 → B' p = B p) ∧ (∀ x, x < 60 * (q + 1) → B' 35 x = B 35 x) ∧ (∀ x, x ≠ 2505 → x ≠ 3107 → x ≠ 3111 → I' x = I x) ∧ (∀ x, x ≠ 3110 → x ≠ 3112 → J' x = J x)
theorem fX_trans {q z : Nat} {I I1 I2 : Nat → Int32} {J J1 J2 : Nat → Int64} {A A1 A2 : Nat → Nat → Int32} {B B1 B2 : Nat → Nat → Int64} (h : fX q z I J A B I1 J1 A1 B1) (k : fX q z I1 J1 A1 B1 I2 J2 A2 B2) : fX q z I J A B I2 J2 A2 B2 :=
  ⟨fun p a => (k.1 p a).trans (h.1 p a), fun p x a b c => (k.2.1 p x a b c).trans (h.2.1 p x a b c), fun x a => (k.2.2.1 x a).trans (h.2.2.1 x a), fun p x a b c => (k.2.2.2.1 p x a b c).trans (h.2.2.2.1 p x a b c), fun p a => (k.2.2.2.2.1 p a).trans (h.2.2.2.2.1 p a), fun x a => (k.2.2.2.2.2.1 x a).trans (h.2.2.2.2.2.1 x a), fun x a b c => (k.2.2.2.2.2.2.1 x a b c).trans (h.2.2.2.2.2.2.1 x a b c), fun x a b => (k.2.2.2.2.2.2.2 x a b).trans (h.2.2.2.2.2.2.2 x a b)⟩
theorem fX_w {q z z' : Nat} {I I1 : Nat → Int32} {J J1 : Nat → Int64} {A A1 : Nat → Nat → Int32} {B B1 : Nat → Nat → Int64} (h : fX (q + 1) z' I J A B I1 J1 A1 B1) (hz : z ≤ z') : fX q z I J A B I1 J1 A1 B1 :=
  ⟨h.1, fun p x a b c => h.2.1 p x a b (by omega), fun x a => h.2.2.1 x (by omega), fun p x a b c => h.2.2.2.1 p x a b (by omega), h.2.2.2.2.1, fun x a => h.2.2.2.2.2.1 x (by omega), h.2.2.2.2.2.2⟩
theorem fX_fO {q z : Nat} {I I1 : Nat → Int32} {J J1 : Nat → Int64} {A A1 : Nat → Nat → Int32} {B : Nat → Nat → Int64} (h : fO q z I J A I1 J1 A1) : fX q z I J A B I1 J1 A1 B :=
  ⟨fun p a => h.2.2.1 p (by omega) (by omega), fun p x a b c => by
    by_cases e : p = 29
    · subst e; exact h.2.2.2.1 x (by omega)
    · rw [h.2.2.1 p e (by omega)], fun x _ => by rw [h.2.2.1 32 (by decide) (by decide)], fun p x a b c => by
    by_cases e : p = 33
    · subst e; exact h.2.2.2.2 x (by omega)
    · rw [h.2.2.1 p (by omega) e], fun _ _ => rfl, fun _ _ => rfl, fun x _ _ c => h.1 x c, h.2.1⟩
theorem fX_ps {q z T c i j : Nat} {I I1 : Nat → Int32} {J : Nat → Int64} {A A1 : Nat → Nat → Int32} {B B1 : Nat → Nat → Int64} (h : pshd (q + 1) T c i j I A I1 A1) (hz : z ≤ T) (hB : ∀ p, p ≠ 35 → B1 p = B p) (hB35 : ∀ x, x < 60 * (q + 1) → B1 35 x = B 35 x) : fX q z I J A B I1 J A1 B1 := by
  obtain ⟨_, _, _, _, _, _, _, _, h1, h2, h3, h4⟩ := h
  exact ⟨h2, fun p x a b c => h3 p x a b (by omega), fun x a => h4 32 x (by omega) (by omega) (by omega), fun p x a b c => h4 p x (by omega) (by omega) (by omega), hB, hB35, fun x a b _ => h1 x a b, fun _ _ _ => rfl⟩
theorem fX_cl {q z z' : Nat} {I : Nat → Int32} {J : Nat → Int64} {A : Nat → Nat → Int32} {B : Nat → Nat → Int64} {x y : Int32} (hz : z ≤ z') : fX q z I J A B (upd I 3107 x) J (va_up A 26 (upd (A 26) z' y)) B := by
  refine ⟨fun p a => un_v (by omega), fun p u a b c => ?_, fun u _ => by rw [un_v (by decide)], fun p u a b c => by rw [un_v (by omega)], fun _ _ => rfl, fun _ _ => rfl, fun u _ a _ => un_i a, fun _ _ _ => rfl⟩
  by_cases e : p = 26
  · subst e; rw [ue_v, un_i (by omega)]
  · rw [un_v e]
theorem fX_34 {q z : Nat} {I : Nat → Int32} {J : Nat → Int64} {A : Nat → Nat → Int32} {B : Nat → Nat → Int64} {y : Int32} : fX q z I J A B I J (va_up A 34 (upd (A 34) q y)) B := by
  refine ⟨fun p a => un_v (by omega), fun p u a b c => by rw [un_v (by omega)], fun u _ => by rw [un_v (by decide)], fun p u a b c => ?_, fun _ _ => rfl, fun _ _ => rfl, fun _ _ _ _ => rfl, fun _ _ _ => rfl⟩
  by_cases e : p = 34
  · subst e; rw [ue_v, un_i (by omega)]
  · rw [un_v e]
theorem fSt_fX {b : Bool} {g : Gram} {o : Own} {ws : List (List Nat)} {q z : Nat} {I I' : Nat → Int32} {J J' : Nat → Int64} {A A' : Nat → Nat → Int32} {B B' : Nat → Nat → Int64} (h : fSt b g o ws I A B) (f : fX q z I J A B I' J' A' B') : fSt b g o ws I' A' B' := fSt_fr h f.2.2.2.2.2.2.1 f.1 f.2.2.2.2.1
theorem rowF_fX {q z c : Nat} {V : Nat → Vl} {wt : Nat → Int} {I I' : Nat → Int32} {J J' : Nat → Int64} {A A' : Nat → Nat → Int32} {B B' : Nat → Nat → Int64} (h : rowF B q V c wt) (h60 : (sL V).length ≤ 60) (f : fX q z I J A B I' J' A' B') : rowF B' q V c wt := fun k hk hc => by rw [f.2.2.2.2.2.1 _ (by omega)]; exact h k hk hc
theorem iC_sub (a b : Int) : iC a - iC b = iC (a - b) := (Int32.ofInt_sub a b).symm
section C37
variable {l : Launch} {Q : Option Value → XW → Prop} {d : Nat} {tgt cg : Value} {b : Bool} {g : Gram} {o : Own} {ws : List (List Nat)}
set_option maxHeartbeats 2000000 in
theorem s_findT (hd : 6 ≤ d) : ∀ (f i j c : Nat) (wt : Nat → Int) (n : Int) (q z s : Nat) (n' : Int) (nds : List Nd) (I : Nat → Int32) (J : Nat → Int64) (A : Nat → Nat → Int32) (B : Nat → Nat → Int64), preG b g o ws f i j c wt n → pk b g (ch g o ws) ws f i j c wt n q = some (s, n', nds) → j ≤ ws.length → q + 16 * (j - i - 1) + rk g c + 1 ≤ 224 → z + nds.length ≤ 432 → fSt b g o ws I A B → curN q z i j I A → I 2505 = nI (z + 1) → A 26 z = nI (4096 * c) → A 30 z = nI q → A 34 q = -1 → rowF B q (ch g o ws i j) c wt → J 3110 = lI n →
    (∀ (I' : Nat → Int32) (J' : Nat → Int64) (A' : Nat → Nat → Int32) (B' : Nat → Nat → Int64) (k cl : Nat), I' 2505 = nI (z + nds.length) → I' 3107 = nI (q + 1) → J' 3110 = lI n' → ndY A' z nds → fX q z I J A B I' J' A' B' → k + 1 = z + nds.length → cl + q + 1 ≤ 224 → CLh l d Q tgt cg k cl s I' J' A' B') → xG l (d + 1) 21 Q 75 [some (.ref 31), none, none, none, none, some (.int (nI z)), none] [] (wC tgt cg (.ref 37) I J A B) 0 0 := by
  intro f
  induction f with
  | zero => intro i j c wt n q z s n' nds I J A B hpre hpk; cases hpk
  | succ f ih =>
    intro i j c wt n q z s n' nds I J A B hpre hpk hj hdep hz hS hcur h2505 h26 h30 h34 hrow hJ K
    have hg := hS.1
    have h14 := hS.2.1
    have h40 := hS.2.2.1.2.1
    have hr30 := hS.2.2.2.1.2.1
    have ho := hS.2.2.2.2.2.2.2
    obtain ⟨hij, hc16, hn0, hn1, hwR, hwF⟩ := preG_b hg ho (Nat.le_trans hj h14) hpre
    obtain ⟨op, n1, hch, hcase⟩ := pkG_step hg h40 hr30 ho hpre hpk
    have hlen : 1 ≤ nds.length := by
      obtain ⟨y, tl, e⟩ := pk_head hpk
      rw [e]; simp
    have hcur0 := hcur
    obtain ⟨c1, c2, c3, c4, c5, c6⟩ := hcur
    have lV := (hS.2.2.2.2.1 i j hij hj).1.1
    refine b_X2_find_75 (if_le (a := 432) rfl rfl (by omega) (by omega) (fun z1 => absurd z1 (by omega)) (fun _ => if_le (b := 0) c1 rfl (by omega) (by omega) (fun z1 => absurd z1 (by omega)) (fun _ => ?_)))
    refine s_choose (by omega) hS hcur0 h26 hc16 hij hj hwR (fun r m _ hm => hwF _ m hm) hrow hJ hn0 hn1 hch (fun I1 J1 A1 hJ1 h29 h33 hfO => b_X2_find_94 ?_)
    have hfX1 : fX q z I J A B I1 J1 A1 B := fX_fO hfO
    have hS1 := fSt_fX hS hfX1
    have hcur1 := curN_fO hcur0 hfO
    have hq1 := curN_q hcur1
    have c31 := hcur1.2.2.1
    rw [hq1, cl_n (a := q) (by omega), c31, cl_n (a := z) (by omega), h29]
    refine ⟨xin_n (by omega) (by omega), xin_n (by omega) (by omega), ?_⟩
    have e27 : A1 27 z = nI i := by rw [hfO.2.2.1 27 (by decide) (by decide)]; exact c5
    have e28 : A1 28 z = nI j := by rw [hfO.2.2.1 28 (by decide) (by decide)]; exact c6
    have e30 : A1 30 z = nI q := by rw [hfO.2.2.1 30 (by decide) (by decide)]; exact h30
    have e34 : A1 34 q = -1 := by rw [hfO.2.2.1 34 (by decide) (by decide)]; exact h34
    have e2505 : I1 2505 = nI (z + 1) := (hfO.1 2505 (by decide)).trans h2505
    have e3107 : I1 3107 = nI (q + 1) := hcur1.1
    rcases hcase with ⟨e, he, hop, hs, hn', hnds⟩ | ⟨r, R, hr, hRe, hor, hRc, h4⟩
    · -- an entry
      rw [hop]
      have hop29 : A1 29 z = iC (-1 - (e : Int)) := by rw [h29, hop]
      rw [show ((-1 - (e : Int)), 0).1 = -1 - (e : Int) from rfl]
      rw [if_neg (show ¬ (0 : Int32) ≤ iC (-1 - (e : Int)) from fun q2 => absurd ((iC_le (a := 0) (b := -1 - (e : Int)) (by omega) (by omega) (by omega) (by omega)).mp q2) (by omega)), show (-1 : Int32) - iC (-1 - (e : Int)) = nI e by rw [show (-1 : Int32) = iC (-1) by decide +kernel, iC_sub, show (-1 : Int) - (-1 - (e : Int)) = (e : Int) by omega, iC_n], cl_n (a := e) (by omega), (hS1.2.2.1.2.2 e he).2.2]
      refine ⟨xin_n (by omega) (by omega), xin_n (by omega) (by omega), e_X2_closeNodes ?_⟩
      have hl1 : nds.length = 1 := by rw [hnds]; rfl
      have := K I1 J1 A1 B z 0 (by rw [hl1]; exact e2505) e3107 (by rw [hn']; exact hJ1) ?_ hfX1 (by omega) (by omega)
      · unfold CLh at this
        rw [hs] at this; exact this
      · rw [hnds]
        refine ndY_cons ⟨e27, e28, hop29, e30⟩ (fun k hk => absurd hk (by simp))
    · -- a rule
      rw [hor, iC_n, if_pos (show (0 : Int32) ≤ nI r from (le_n (a := 0) (by omega) (by omega)).mpr (Nat.zero_le _))]
      have hop29 : A1 29 z = nI r := by rw [h29, hor, iC_n]
      have hm : (R.2.2.1 = none ∧ op.2 = j) ∨ (R.2.2.1 ≠ none ∧ i < op.2 ∧ op.2 < j) := by
        rcases h4 with ⟨_, _, a, b, _⟩ | ⟨_, _, _, _, _, _, a, b, c, _⟩
        · exact Or.inl ⟨a, b⟩
        · exact Or.inr ⟨(fun q => by rw [a] at q; cases q), b, c⟩
      have hRm : R ∈ g.2.1 := by rw [← hRe]; exact getD_mem hr dR
      have hRk := hg.2.1 R hRm
      have h15f : rk g R.2.1 ≤ 15 := cnt_15 hg hRk.2.1
      have hRZof : ∀ {I2 : Nat → Int32} {A2 : Nat → Nat → Int32} {B2 : Nat → Nat → Int64}, fSt b g o ws I2 A2 B2 → rulZ A2 r R := fun h => by
        have := (h.2.2.2.1.2.2 r hr).2; rw [hRe] at this; exact this
      generalize hmm : op.2 = m at h33 hm h4
      have hrow1 : rowF B q (ch g o ws i j) R.1 wt := by rw [hRc]; exact hrow
      have hlen2 : 2 ≤ nds.length := by
        rcases h4 with ⟨s1, nds1, _, _, _, hp, _, _, e⟩ | ⟨_, s1, _, nds1, t, nds2, _, _, _, _, hp, _, _, _, _, _, _, _, e⟩
        · obtain ⟨y, tl, e2⟩ := pk_head hp
          rw [e, e2]; simp
        · obtain ⟨y, tl, e2⟩ := pk_head hp
          rw [e, e2]; simp
      have hq224 : q + 1 < 224 := by
        rcases hm with ⟨a, _⟩ | ⟨_, a, b⟩
        · have : rk g R.2.1 < rk g R.1 := gOk_rk hg hRm a
          rw [hRc] at this
          omega
        · omega
      refine s_openFirst (by omega) hS1 hcur1 hop29 hr hRe h33 hm hij hj hwR hrow1 hq224 e2505 (by omega) (fun I2 A2 B2 hps hrow2 hB2 hB235 => b_X2_find_151 ?_)
      have hfX2 : fX q z I1 J1 A1 B I2 J1 A2 B2 := fX_ps hps (by omega) hB2 hB235
      have hfX02 := fX_trans hfX1 hfX2
      have hS2 := fSt_fX hS1 hfX2
      obtain ⟨p1, p2, p3, p4, p5, p6, p7, p8, p9, p10, p11, p12⟩ := hps
      have hcur2 : curN (q + 1) (z + 1) i m I2 A2 := ⟨p2, hq224, p7, by omega, p4, p5⟩
      have hJ2 : J1 3110 = lI n1 := hJ1
      rw [nI_1]
      -- what stays known of node z
      have keep : ∀ {I3 : Nat → Int32} {J3 : Nat → Int64} {A3 : Nat → Nat → Int32} {B3 : Nat → Nat → Int64} {z3 : Nat}, z < z3 → fX (q + 1) z3 I2 J1 A2 B2 I3 J3 A3 B3 → A3 27 z = nI i ∧ A3 28 z = nI j ∧ A3 29 z = nI r ∧ A3 30 z = nI q ∧ A3 32 q = nI z ∧ A3 33 q = nI m ∧ A3 34 q = -1 := fun hz3 f3 => by
        refine ⟨?_, ?_, ?_, ?_, ?_, ?_, ?_⟩
        · rw [f3.2.1 27 z (by omega) (by omega) (by omega), p11 27 z (by omega) (by omega) (by omega)]; exact e27
        · rw [f3.2.1 28 z (by omega) (by omega) (by omega), p11 28 z (by omega) (by omega) (by omega)]; exact e28
        · rw [f3.2.1 29 z (by omega) (by omega) (by omega), p11 29 z (by omega) (by omega) (by omega)]; exact hop29
        · rw [f3.2.1 30 z (by omega) (by omega) (by omega), p11 30 z (by omega) (by omega) (by omega)]; exact e30
        · rw [f3.2.2.1 q (by omega), p12 32 q (by omega) (by omega) (by omega)]; exact c31
        · rw [f3.2.2.2.1 33 q (by omega) (by omega) (by omega), p12 33 q (by omega) (by omega) (by omega)]; exact h33
        · rw [f3.2.2.2.1 34 q (by omega) (by omega) (by omega), p12 34 q (by omega) (by omega) (by omega)]; exact e34
      rcases h4 with ⟨s1, nds1, h1, _, hpre1, hpk1, hs1, hmk, hnds⟩ | ⟨c2', s1, n2, nds1, t, nds2, h1, him, hmj, hpre1, hpk1, hs1, hsin, hscat, hpre2, hpk2, ht, hmk, hnds⟩
      · -- of one part
        have hmj : m = j := by rcases hm with ⟨_, q⟩ | ⟨q, _⟩; exact q; exact absurd h1 q
        subst hmj
        have hrk : rk g R.2.1 < rk g R.1 := gOk_rk hg hRm h1
        rw [hRc] at hrk
        have hlen3 : nds.length = nds1.length + 1 := by rw [hnds, List.length_cons]
        refine ih i m R.2.1 _ n1 (q + 1) (z + 1) s1 n' nds1 I2 J1 A2 B2 hpre1 hpk1 hj (by omega) (by omega) hS2 hcur2 p1 p3 p6 p8 hrow2 hJ2 (fun I3 J3 A3 B3 k cl g1 g2 g3 g4 g5 g6 g7 => ?_)
        obtain ⟨k1, k2, k3, k4, k5, k6, k7⟩ := keep (Nat.lt_succ_self z) g5
        have hS3 := fSt_fX hS2 g5
        have g32 : A3 32 (q + 1) = nI (z + 1) := (g5.2.2.1 (q + 1) (Nat.le_refl _)).trans p7
        obtain ⟨y, tl, ehd⟩ := pk_head hpk1
        refine cl_up1 (by omega) (by omega) hRk (hRZof hS3) g2 (by omega) g32 (by omega) k5 (by omega) k3 h1 hs1 hmk (K _ J3 _ B3 k (cl + 1) ?_ (ue_i _ _ _) g3 ?_ (fX_trans hfX02 (fX_trans (fX_w g5 (by omega)) (fX_cl (by omega)))) (by omega) (by omega))
        · rw [un_i (by decide), g1, hlen3]; congr 1; omega
        · rw [hnds]
          refine ndY_cons ⟨?_, ?_, ?_, ?_⟩ ?_
          · rw [un_v (by decide)]; exact k1
          · rw [un_v (by decide)]; exact k2
          · rw [un_v (by decide), k3]; exact (iC_n r).symm
          · rw [un_v (by decide)]; exact k4
          · rw [ehd] at g4 ⊢
            exact ndZ_of g4 (ue_v _ _ _) (fun p a b => un_v (by omega))
      · -- of two parts
        have hne : R.2.2.1 ≠ none := by rw [h1]; intro q; cases q
        have hc216 := hRk.2.2.1 c2' h1
        have h15s : rk g c2' ≤ 15 := cnt_15 hg hc216
        have hlen3 : nds.length = nds1.length + nds2.length + 1 := by rw [hnds, List.length_cons, List.length_append]
        have hmw : m ≤ ws.length := by omega
        have hl2 : 1 ≤ nds2.length := by
          obtain ⟨y, tl, e2⟩ := pk_head hpk2
          rw [e2]; simp
        refine ih i m R.2.1 _ n1 (q + 1) (z + 1) s1 n2 nds1 I2 J1 A2 B2 hpre1 hpk1 hmw (by omega) (by omega) hS2 hcur2 p1 p3 p6 p8 hrow2 hJ2 (fun I3 J3 A3 B3 k cl g1 g2 g3 g4 g5 g6 g7 => ?_)
        obtain ⟨k1, k2, k3, k4, k5, k6, k7⟩ := keep (Nat.lt_succ_self z) g5
        have hS3 := fSt_fX hS2 g5
        have g32 : A3 32 (q + 1) = nI (z + 1) := (g5.2.2.1 (q + 1) (Nat.le_refl _)).trans p7
        obtain ⟨y, tl, ehd⟩ := pk_head hpk1
        refine cl_up2 (by omega) (by omega) hRk (hRZof hS3) g2 (by omega) g32 (by omega) k5 (by omega) k3 h1 k7 (fun Q' hQ' => ?_)
        have hfX3 : fX q z I J A B (upd I3 3107 (nI (q + 1))) J3 (va_up A3 26 (upd (A3 26) (z + 1) (nI (cs s1)))) B3 := fX_trans hfX02 (fX_trans (fX_w g5 (by omega)) (fX_cl (by omega)))
        have hZ1 : ndZ (va_up A3 26 (upd (A3 26) (z + 1) (nI (cs s1)))) (z + 1) nds1 := by
          rw [ehd] at g4 ⊢
          exact ndZ_of g4 (ue_v _ _ _) (fun p a b => un_v (by omega))
        have hn26 : ∀ p, p ≠ 26 → (va_up A3 26 (upd (A3 26) (z + 1) (nI (cs s1)))) p = A3 p := fun p hp => un_v hp
        have g1' : (upd I3 3107 (nI (q + 1))) 2505 = nI (z + 1 + nds1.length) := (un_i (by decide)).trans g1
        have g2' : (upd I3 3107 (nI (q + 1))) 3107 = nI (q + 1) := ue_i _ _ _
        generalize hI4 : upd I3 3107 (nI (q + 1)) = I4 at hfX3 g1' g2' ⊢
        generalize hA4 : va_up A3 26 (upd (A3 26) (z + 1) (nI (cs s1))) = A4 at hfX3 hZ1 hn26 ⊢
        have hS4 := fSt_fX hS hfX3
        have hcur4 : curN q z i j I4 A4 := ⟨g2', by omega, by rw [hn26 32 (by decide)]; exact k5, by omega, by rw [hn26 27 (by decide)]; exact k1, by rw [hn26 28 (by decide)]; exact k2⟩
        refine s_openSecond (by omega) hS4 rfl hs1 hsin hscat hcur4 (by rw [hn26 29 (by decide)]; exact k3) hr hRe (by rw [hn26 33 (by decide)]; exact k6) h1 him hmj hj (by rw [hRc]; exact rowF_fX hrow lV hfX3) hq224 g1' (by omega) (fun I5 A5 B5 hps5 hrow5 hB5 hB535 => hQ' I5 J3 A5 B5 (b_X2_find_144 (b_X2_find_151 ?_)))
        have hfX5 : fX q z I J A B I5 J3 A5 B5 := fX_trans hfX3 (fX_trans (fX_34 (y := nI (cs s1))) (fX_ps hps5 (by omega) hB5 hB535))
        have hS5 := fSt_fX hS hfX5
        obtain ⟨r1, r2, r3, r4, r5, r6, r7, r8, r9, r10, r11, r12⟩ := hps5
        have hcur5 : curN (q + 1) (z + 1 + nds1.length) m j I5 A5 := ⟨r2, hq224, r7, by omega, r4, r5⟩
        rw [nI_1, g6]
        refine ih m j c2' _ n2 (q + 1) (z + 1 + nds1.length) t n' nds2 I5 J3 A5 B5 hpre2 hpk2 hj (by omega) (by omega) hS5 hcur5 r1 r3 r6 r8 hrow5 g3 (fun I6 J6 A6 B6 k' cl' y1 y2 y3 y4 y5 y6 y7 => ?_)
        have hS6 := fSt_fX hS5 y5
        have h34n : ∀ p, p ≠ 34 → (va_up A4 34 (upd (A4 34) q (nI (cs s1)))) p = A4 p := fun p hp => un_v hp
        have nz : ∀ p, 26 ≤ p → p ≤ 30 → ∀ x, x < z + 1 + nds1.length → A6 p x = A4 p x := fun p a b x hx => by
          rw [y5.2.1 p x a b hx, r11 p x a b (by omega), h34n p (by omega)]
        have y29 : A6 29 z = nI r := by rw [nz 29 (by omega) (by omega) z (by omega), hn26 29 (by decide)]; exact k3
        have y32 : A6 32 q = nI z := by rw [y5.2.2.1 q (by omega), r12 32 q (by omega) (by omega) (by omega), h34n 32 (by decide), hn26 32 (by decide)]; exact k5
        have y32' : A6 32 (q + 1) = nI (z + 1 + nds1.length) := (y5.2.2.1 (q + 1) (Nat.le_refl _)).trans r7
        have y34 : A6 34 q = nI (cs s1) := by rw [y5.2.2.2.1 34 q (by omega) (by omega) (by omega), r12 34 q (by omega) (by omega) (by omega), ue_v, ue_i]
        obtain ⟨y', tl', ehd'⟩ := pk_head hpk2
        refine cl_up3 (by omega) (by omega) hRk (hRZof hS6) y2 (by omega) y32' (by omega) y32 (by omega) y29 h1 y34 hs1 ht hmk (K _ J6 _ B6 k' (cl' + 1) ?_ (ue_i _ _ _) y3 ?_ (fX_trans hfX5 (fX_trans (fX_w y5 (by omega)) (fX_cl (by omega)))) (by omega) (by omega))
        · rw [un_i (by decide), y1, hlen3]; congr 1; omega
        · rw [hnds]
          refine ndY_cons ⟨?_, ?_, ?_, ?_⟩ (ndZ_app (ndZ_fr hZ1 (Nat.le_refl _) (fun p x a b hx => ?_)) ?_)
          · rw [un_v (by decide), nz 27 (by omega) (by omega) z (by omega), hn26 27 (by decide)]; exact k1
          · rw [un_v (by decide), nz 28 (by omega) (by omega) z (by omega), hn26 28 (by decide)]; exact k2
          · rw [un_v (by decide), y29]; exact (iC_n r).symm
          · rw [un_v (by decide), nz 30 (by omega) (by omega) z (by omega), hn26 30 (by decide)]; exact k4
          · by_cases e : p = 26
            · subst e; rw [ue_v, un_i (by omega), nz 26 (by omega) (by omega) x hx]
            · rw [un_v e, nz p a b x hx]
          · rw [ehd'] at y4 ⊢
            exact ndZ_of y4 (ue_v _ _ _) (fun p a b => un_v (by omega))
end C37
