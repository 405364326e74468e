/-! ===== the words of a sentence ===== -/
def skB (t : Nat → Nat) (n p : Nat) : Nat := skN (fun i => isBl (t i)) n p
def skL (t : Nat → Nat) (n p : Nat) : Nat := skN (fun i => isLe (t i)) n p
def wdC (t : Nat → Nat) (n : Nat) : Nat → Nat → List (List Nat) → List (List Nat)
  | 0, _, _ => []
  | m + 1, q, acc => if n ≤ q then acc else if skL t n q = q ∨ q + 10 < skL t n q ∨ acc.length = 14 then [] else wdC t n m (skB t n (skL t n q)) (acc ++ [ltr t q (skL t n q)])
def pWords (t : Nat → Nat) (n : Nat) : List (List Nat) := if 1500 < n then [] else wdC t n 16 (skB t n 0) []
theorem wdC_no {t : Nat → Nat} {n m q : Nat} {acc : List (List Nat)} (hq : q < n) (h : isLe (t q) = false ∨ acc.length = 14) : wdC t n m q acc = [] := by
  cases m with
  | zero => rfl
  | succ m =>
    unfold wdC
    rw [if_neg (by omega), if_pos]
    rcases h with h | h
    · exact Or.inl (skN_no _ h)
    · exact Or.inr (Or.inr h)
theorem LD_of {b : Nat} (h : isLe b = true) : isLD b = true := by unfold isLD; rw [h]; rfl
theorem LD_bl {b : Nat} (h : isLD b = true) : isBl b = false := by
  cases z : isBl b with
  | false => rfl
  | true =>
    exfalso
    rw [isBl_iff] at z
    unfold isLD at h
    rcases (Bool.or_eq_true _ _ ▸ h) with h | h
    · rw [isLe_iff] at h; omega
    · rw [isDi_iff] at h; omega
theorem skL_le (t : Nat → Nat) {n q : Nat} (h : q ≤ n) : skL t n q ≤ skN (fun i => isLD (t i)) n q := by
  apply Nat.le_of_not_lt
  intro z
  have h1 : skN (fun i => isLD (t i)) n q < n := Nat.lt_of_lt_of_le z (skN_le _ h)
  have h2 := skN_stop (fun i => isLD (t i)) h h1
  have h3 := skN_in (fun i => isLe (t i)) (n := n) (skN_ge (fun i => isLD (t i)) n q) z
  have h3' : isLe (t (skN (fun i => isLD (t i)) n q)) = true := h3
  have h2' : isLD (t (skN (fun i => isLD (t i)) n q)) = false := h2
  rw [LD_of h3'] at h2'; cases h2'
theorem skL_all {t : Nat → Nat} {n q : Nat} (h : q ≤ n) : allLe t q (skN (fun i => isLD (t i)) n q) = true ↔ skL t n q = skN (fun i => isLD (t i)) n q := by
  have hle := skL_le t h
  rw [allLe_iff]
  constructor
  · intro z
    apply Nat.le_antisymm hle
    apply Nat.le_of_not_lt
    intro w
    have h1 : skL t n q < n := Nat.lt_of_lt_of_le w (skN_le _ h)
    have h2 := skN_stop (fun i => isLe (t i)) h h1
    have h3 := z _ (skN_ge _ n q) w
    have h3' : isLe (t (skL t n q)) = true := h3
    have h2' : isLe (t (skL t n q)) = false := h2
    rw [h2'] at h3'; cases h3'
  · intro z i h1 h2
    exact skN_in (fun i => isLe (t i)) h1 (by rw [show skN (fun i => isLe (t i)) n q = skL t n q from rfl, z]; exact h2)
theorem wdC_stop {t : Nat → Nat} {n m q e : Nat} {acc : List (List Nat)} (h : skL t n q = e) (hq : q < n) (he : e < n) (hb : isBl (t e) = false) : wdC t n (m + 2) q acc = [] := by
  have hl : isLe (t e) = false := by
    have := skN_stop (fun i => isLe (t i)) (n := n) (k := q) (by omega) (by rw [show skN (fun i => isLe (t i)) n q = skL t n q from rfl, h]; exact he)
    rw [show skN (fun i => isLe (t i)) n q = skL t n q from rfl, h] at this; exact this
  unfold wdC
  rw [if_neg (by omega), h]
  split
  · rfl
  · rw [show skB t n e = e from skN_no _ hb]
    exact wdC_no he (Or.inl hl)
/-- a word as the reference takes it -/
theorem wdC_ref {t : Nat → Nat} {n m q : Nat} {acc : List (List Nat)} (hq : q < n) (hl : isLe (t q) = true) (ha : acc.length ≠ 14) : wdC t n (m + 2) q acc = if nmK t n q = 2 ∧ (n ≤ skN (fun i => isLD (t i)) n q ∨ isBl (t (skN (fun i => isLD (t i)) n q)) = true) then wdC t n (m + 1) (skB t n (skN (fun i => isLD (t i)) n q)) (acc ++ [ltr t q (skN (fun i => isLD (t i)) n q)]) else [] := by
  have hle := skL_le t (n := n) (q := q) (by omega)
  have hall := skL_all (t := t) (n := n) (q := q) (by omega)
  have hge : skN (fun i => isLD (t i)) n q ≤ n := skN_le _ (by omega)
  have hpos : q < skL t n q := by
    have := skN_yes (fun i => isLe (t i)) hq hl
    have h2 := skN_ge (fun i => isLe (t i)) n (q + 1)
    unfold skL; omega
  generalize hE : skN (fun i => isLD (t i)) n q = e at hle hall hge
  by_cases h2 : nmK t n q = 2
  · have h3 : skL t n q = e ∧ e ≤ q + 10 := by
      unfold nmK at h2
      rw [hE] at h2
      split at h2
      · rename_i w; exact ⟨hall.mp w.1, w.2⟩
      · split at h2 <;> omega
    by_cases h4 : n ≤ e ∨ isBl (t e) = true
    · rw [if_pos ⟨h2, h4⟩]
      show (if n ≤ q then _ else if _ then _ else _) = _
      rw [if_neg (by omega), h3.1, if_neg (by omega)]
    · rw [if_neg (fun w => h4 w.2)]
      have h5 : e < n := by omega
      have h6 : isBl (t e) = false := by
        cases z : isBl (t e) with
        | false => rfl
        | true => exact absurd (Or.inr z) h4
      exact wdC_stop h3.1 hq h5 h6
  · rw [if_neg (fun w => h2 w.1)]
    by_cases h3 : q + 10 < skL t n q
    · unfold wdC; rw [if_neg (by omega), if_pos (Or.inr (Or.inl h3))]
    · have h4 : skL t n q < e := by
        apply Nat.lt_of_le_of_ne hle
        intro w
        apply h2
        unfold nmK; rw [hE, if_pos ⟨hall.mpr w, by omega⟩]
      have h5 : isLD (t (skL t n q)) = true := skN_in (fun i => isLD (t i)) (n := n) (skN_ge _ n q) (by rw [hE]; exact h4)
      exact wdC_stop rfl hq (by omega) (LD_bl h5)
theorem ltr_v {t : Nat → Nat} {q e : Nat} (h : allLe t q e = true) (hl : e ≤ q + 10) : vNm (ltr t q e) := by
  refine ⟨fun x hx => ?_, by unfold ltr; rw [List.length_map, List.length_range]; omega⟩
  unfold ltr at hx
  obtain ⟨i, hi, rfl⟩ := List.mem_map.mp hx
  have := allLe_iff.mp h (q + i) (by omega) (by have := List.mem_range.mp hi; omega)
  rw [isLe_iff] at this; omega
theorem wdC_v {t : Nat → Nat} {n : Nat} : ∀ {m q : Nat} {acc : List (List Nat)}, (∀ w ∈ acc, vNm w) → acc.length ≤ 14 → (∀ w ∈ wdC t n m q acc, vNm w) ∧ (wdC t n m q acc).length ≤ 14
  | 0, q, acc, h, hl => ⟨fun w hw => (nomatch hw), by show ([] : List (List Nat)).length ≤ 14; simp⟩
  | m + 1, q, acc, h, hl => by
    unfold wdC
    split
    · exact ⟨h, hl⟩
    · split
      · exact ⟨fun w hw => (nomatch hw), by simp⟩
      · rename_i h1 h2
        refine wdC_v (fun w hw => ?_) (by simp; omega)
        rcases List.mem_append.mp hw with z | z
        · exact h w z
        · rw [List.mem_singleton] at z; subst z
          refine ltr_v (allLe_iff.mpr fun i a b => ?_) (by omega)
          exact skN_in (fun i => isLe (t i)) a b
theorem pWords_v (t : Nat → Nat) (n : Nat) : (∀ w ∈ pWords t n, vNm w) ∧ (pWords t n).length ≤ 14 := by
  unfold pWords; split
  · exact ⟨fun w hw => (nomatch hw), by simp⟩
  · exact wdC_v (fun w hw => (nomatch hw)) (by simp)
section M18
variable {l : Launch} {J : Nat → Int64} {A : Nat → Nat → Int32} {B : Nat → Nat → Int64} {Q : Option Value → XW → Prop} {d : Nat} {I : Nat → Int32} {t : Nat → Nat} {n : Nat}
theorem s_readWords (ht : tpM A t n) (hd : 3 ≤ d) (h2 : I 2 = nI n)
    (hQ : ∀ (I' : Nat → Int32) (J' : Nat → Int64) (B' : Nat → Nat → Int64), I' 2 = 0 → (∀ k, k < (pWords t n).length → B' 16 k = lN (c27 ((pWords t n).getD k []))) → (∀ i, i ≠ 2 → i ≠ 3 → i ≠ 4 → i ≠ 5 → i ≠ 6 → i ≠ 8 → I' i = I i) → (∀ i, i ≠ 9 → J' i = J i) → (∀ p, p ≠ 16 → B' p = B p) → Q (some (.int (nI (pWords t n).length))) (wM I' J' A B')) : xK l d 159 [.ref 0] (wM I J A B) Q := by
  obtain ⟨d, rfl⟩ : ∃ e, d = e + 1 := ⟨d - 1, by omega⟩
  have hn := ht.1
  have loop : ∀ m p acc (I1 : Nat → Int32) (J1 : Nat → Int64) (B1 : Nat → Nat → Int64), 14 - acc.length < m → acc.length ≤ 14 → p ≤ n → wdC t n (16 - acc.length) (skB t n p) acc = pWords t n → I1 2 = 0 → I1 3 = nI n → I1 4 = nI p → (∀ k, k < acc.length → B1 16 k = lN (c27 (acc.getD k []))) → (∀ i, i ≠ 2 → i ≠ 3 → i ≠ 4 → i ≠ 5 → i ≠ 6 → i ≠ 8 → I1 i = I i) → (∀ i, i ≠ 9 → J1 i = J i) → (∀ p, p ≠ 16 → B1 p = B p) → xG l d 159 Q 32 [some (.ref 0), some (.int (nI acc.length))] [] (wM I1 J1 A B1) 0 0 := by
    intro m
    induction m with
    | zero => intro p acc I1 J1 B1 hm; omega
    | succ m ih =>
      intro p acc I1 J1 B1 hm h14 hp hw g2 g3 g4 hB hI hJ hBf
      obtain ⟨f, hf⟩ : ∃ f, 16 - acc.length = f + 2 := ⟨14 - acc.length, by omega⟩
      rw [hf] at hw
      have hqn : skB t n p ≤ n := skN_le _ hp
      generalize hq : skB t n p = q at hw hqn
      refine b_X11_readWords_32 (s_blanks ht (by omega) g3 g4 hp (b_X11_readWords_36 ?_))
      rw [ue_i, un_i (by decide), show skN (fun i => isBl (t i)) n p = q from hq]
      have frI : ∀ i, i ≠ 2 → i ≠ 3 → i ≠ 4 → i ≠ 5 → i ≠ 6 → i ≠ 8 → upd (upd I1 4 (nI q)) 5 (nI q) i = I i := fun i a b c e f g => by rw [un_i e, un_i c]; exact hI i a b c e f g
      have fail : pWords t n = [] → ∀ (I' : Nat → Int32) (J' : Nat → Int64), I' 2 = 0 → (∀ i, i ≠ 2 → i ≠ 3 → i ≠ 4 → i ≠ 5 → i ≠ 6 → i ≠ 8 → I' i = I i) → (∀ i, i ≠ 9 → J' i = J i) → Q (some (.int 0)) (wM I' J' A B1) := by
        intro h0 I' J' k2 kI kJ
        have := hQ I' J' B1 k2 (by rw [h0]; intro k hk; cases hk) kI kJ hBf
        rw [h0] at this; exact this
      refine if_lt rfl g3 (by omega) (by omega) (fun z => ?_) (fun z => ?_)
      · refine if_eq rfl (b := 14) rfl (by omega) (by omega) (fun e => ?_) (fun e => ?_)
        · refine fail ?_ _ J1 (by rw [un_i (by decide), un_i (by decide)]; exact g2) frI hJ
          rw [← hw]; exact wdC_no z (Or.inr e)
        · rw [cl_n (by omega)]
          have hb := ht.2 q z
          refine ⟨xin_n (by omega) (by omega), s_isLetter (by omega) hb.2 hb.1 (b_X11_readWords_75 (if_b rfl (fun c => ?_) (fun c => ?_)))⟩
          · refine fail ?_ _ J1 (by rw [un_i (by decide), un_i (by decide)]; exact g2) frI hJ
            rw [← hw]; exact wdC_no z (Or.inl c)
          · rw [wdC_ref z c e] at hw
            have hge : skN (fun i => isLD (t i)) n q ≤ n := skN_le _ hqn
            refine s_readName ht (by omega) (by rw [un_i (by decide), un_i (by decide)]; exact g3) (by rw [un_i (by decide), ue_i]) (ue_i _ _ _) z (LD_of c) (fun v hv => b_X11_readWords_84 ?_)
            generalize hE : skN (fun i => isLD (t i)) n q = e at hw hge hv
            have hnm3 := nmK_ne0 t n q
            have frI2 : ∀ i, i ≠ 2 → i ≠ 3 → i ≠ 4 → i ≠ 5 → i ≠ 6 → i ≠ 8 → upd (upd (upd (upd (upd I1 4 (nI q)) 5 (nI q)) 8 (nI (t q) - 48)) 4 (nI e)) 6 (nI (nmK t n q)) i = I i := fun i a b c e f g => by rw [un_i f, un_i c, un_i g]; exact frI i a b c e f g
            have frJ2 : ∀ i, i ≠ 9 → va_up J1 9 v i = J i := fun i a => by rw [un_v a]; exact hJ i a
            have i2 : upd (upd (upd (upd (upd I1 4 (nI q)) 5 (nI q)) 8 (nI (t q) - 48)) 4 (nI e)) 6 (nI (nmK t n q)) 2 = 0 := by
              rw [un_i (by decide), un_i (by decide), un_i (by decide), un_i (by decide), un_i (by decide)]; exact g2
            have i3 : upd (upd (upd (upd (upd I1 4 (nI q)) 5 (nI q)) 8 (nI (t q) - 48)) 4 (nI e)) 6 (nI (nmK t n q)) 3 = nI n := by
              rw [un_i (by decide), un_i (by decide), un_i (by decide), un_i (by decide), un_i (by decide)]; exact g3
            have i4 : upd (upd (upd (upd (upd I1 4 (nI q)) 5 (nI q)) 8 (nI (t q) - 48)) 4 (nI e)) 6 (nI (nmK t n q)) 4 = nI e := by
              rw [un_i (by decide), ue_i]
            have i6 : upd (upd (upd (upd (upd I1 4 (nI q)) 5 (nI q)) 8 (nI (t q) - 48)) 4 (nI e)) 6 (nI (nmK t n q)) 6 = nI (nmK t n q) := ue_i _ _ _
            generalize upd (upd (upd (upd (upd I1 4 (nI q)) 5 (nI q)) 8 (nI (t q) - 48)) 4 (nI e)) 6 (nI (nmK t n q)) = I2 at frI2 i2 i3 i4 i6 ⊢
            have no : ¬ (nmK t n q = 2 ∧ (n ≤ e ∨ isBl (t e) = true)) → Q (some (.int 0)) (wM I2 (va_up J1 9 v) A B1) := fun h => by
              rw [if_neg h] at hw
              exact fail hw.symm I2 _ i2 frI2 frJ2
            have yes : nmK t n q = 2 → (n ≤ e ∨ isBl (t e) = true) → xin (nI acc.length) 14 ∧ xG l d 159 Q 32 [some (.ref 0), some (.int (nI acc.length + 1))] [] (wM I2 (va_up J1 9 v) A (va_up B1 16 (vp_updL (B1 16) (nI acc.length).toNatClampNeg (va_up J1 9 v 9)))) 0 0 := fun ha hb => by
              rw [if_pos ⟨ha, hb⟩] at hw
              refine ⟨xin_n (by omega) (by omega), ?_⟩
              rw [nI_1, show acc.length + 1 = (acc ++ [ltr t q e]).length by simp, cl_n (by omega), ue_v]
              refine ih e (acc ++ [ltr t q e]) I2 _ _ (by simp; omega) (by simp; omega) hge ?_ i2 i3 i4 (fun k hk => ?_) frI2 frJ2 (fun p hp => by rw [un_v hp]; exact hBf p hp)
              · rw [show 16 - (acc ++ [ltr t q e]).length = f + 1 by simp; omega]; exact hw
              · rw [ue_v]
                by_cases ek : k = acc.length
                · subst ek; rw [ue_l, hv ha, gD_r]
                · have hk' : k < acc.length := by simp at hk; omega
                  rw [un_l ek, gD_l hk']; exact hB k hk'
            rw [i3, i4, i6, cl_n (a := e) (by omega)]
            refine if_eq rfl (b := 2) rfl (by omega) (by omega) (fun e2 => if_le rfl rfl (by omega) (by omega) (fun ge => yes e2 (Or.inl ge)) (fun lt => ?_)) (fun e2 => no (fun w => e2 w.1))
            have hbe := ht.2 e lt
            refine ⟨xin_n (by omega) (by omega), if_eq hbe.2 (b := 32) rfl (by omega) (by omega) (fun c1 => yes e2 (Or.inr (isBl_iff.mpr (Or.inl c1)))) (fun c1 => ⟨xin_n (by omega) (by omega), if_eq hbe.2 (b := 10) rfl (by omega) (by omega) (fun c2 => yes e2 (Or.inr (isBl_iff.mpr (Or.inr c2)))) (fun c2 => no (fun w => ?_))⟩)⟩
            rcases w.2 with w | w
            · omega
            · rcases isBl_iff.mp w with w | w
              · exact c1 w
              · exact c2 w
      · have h0 : pWords t n = acc := by
          rw [← hw]; unfold wdC; rw [if_pos z]
        have := hQ (upd I1 4 (nI q)) J1 B1 (by rw [un_i (by decide)]; exact g2) (by rw [h0]; exact hB) (fun i a b c e f g => by rw [un_i c]; exact hI i a b c e f g) hJ hBf
        rw [h0] at this; exact this
  refine e_X11_readWords ?_
  rw [h2]
  refine if_le rfl (b := 1500) rfl (by omega) (by omega) (fun z => ?_) (fun z => ?_)
  · refine loop _ 0 [] _ J B (Nat.lt_succ_self _) (by simp) (by omega) ?_ ?_ ?_ ?_ (fun k hk => by cases hk) (fun i a b c _ _ _ => by rw [un_i c, un_i b, un_i a]) (fun _ _ => rfl) (fun _ _ => rfl)
    · unfold pWords; rw [if_neg (by omega)]; rfl
    · rw [un_i (by decide), un_i (by decide), ue_i]
    · rw [un_i (by decide), ue_i]
    · rw [ue_i]; rfl
  · have h0 : pWords t n = [] := by unfold pWords; rw [if_pos z]
    have := hQ (upd (upd (upd I 2 0) 3 (nI n)) 4 0) J B (by rw [un_i (by decide), un_i (by decide), ue_i]) (by rw [h0]; intro k hk; cases hk) (fun i a b c _ _ _ => by rw [un_i c, un_i b, un_i a]) (fun _ _ => rfl) (fun _ _ => rfl)
    rw [h0] at this; exact this
end M18
