/-! ===== the class: laws ===== -/
def pLaw (t : Nat → Nat) (n j parts : Nat) (b : Bool) : (Nat × Nat) ⊕ Law := sbd (pNum t n j 3 none) fun f => sbd (pNum t n (j + 1) parts none) fun s => sbd (pNum t n (j + 2) (if b = true then parts else 3) (if b = true then some s else none)) fun v => .inr (b, f, s, v)
def lawAt (A : Nat → Nat → Int32) (k : Nat) (q : Law) : Prop := A 9 k = bI q.1 ∧ A 10 k = nI q.2.1 ∧ A 11 k = nI q.2.2.1 ∧ A 12 k = nI q.2.2.2
def lawX (I : Nat → Int32) (A : Nat → Nat → Int32) (laws : List Law) : Prop := I 805 = nI laws.length ∧ laws.length ≤ 8 ∧ ∀ k, k < laws.length → lawAt A k (laws.getD k (true, 0, 0, 0))
theorem nar_b (b : Bool) : vp_nar .boolean (bI b) = bI b := by cases b <;> decide
theorem pNum_but {t : Nat → Nat} {n j m s : Nat} (h : ¬ (tK t n j = 3 ∧ tD t n j = s)) : pNum t n j m (some s) = pNum t n j m none := by
  unfold pNum
  by_cases k : tK t n j = 3
  · have e : (m < tD t n j ∨ some s = some (tD t n j)) ↔ (m < tD t n j ∨ (none : Option Nat) = some (tD t n j)) := by
      constructor
      · rintro (z | z)
        · exact Or.inl z
        · exact absurd ⟨k, ((Option.some.inj z).symm : tD t n j = s)⟩ h
      · rintro (z | z)
        · exact Or.inl z
        · cases z
    simp only [e]
  · rw [if_pos k, if_pos k]
section C7
variable {l : Launch} {J : Nat → Int64} {Q : Option Value → XW → Prop} {d : Nat} {t : Nat → Nat} {n j : Nat} {tgt cg fg : Value} {I : Nat → Int32} {A : Nat → Nat → Int32} {B : Nat → Nat → Int64}
theorem s_addLaw (hd : 1 ≤ d) {laws : List Law} (hl : lawX I A laws) (h8 : laws.length < 8) {x y z w : Int32} {q : Law} (hx : x = bI q.1) (hy : y = nI q.2.1) (hz : z = nI q.2.2.1) (hw : w = nI q.2.2.2)
    (hQ : ∀ (A' : Nat → Nat → Int32), lawX (upd I 805 (nI (laws.length + 1))) A' (laws ++ [q]) → (∀ p, p < 9 ∨ 12 < p → A' p = A p) → Q none (wC tgt cg fg (upd I 805 (nI (laws.length + 1))) J A' B)) : xK l d 66 [.ref 8, .int x, .int y, .int z, .int w] (wC tgt cg fg I J A B) Q := by
  obtain ⟨d, rfl⟩ : ∃ e, d = e + 1 := ⟨d - 1, by omega⟩
  obtain ⟨h1, h2, h3⟩ := hl
  have hin : xin (I 805) 8 := xin_of h1 (by omega) (by omega)
  refine e_X5_addLaw (if_le (a := 8) rfl h1 (by omega) (by omega) (fun g => absurd g (by omega)) (fun _ => ⟨hin, hin, hin, hin, ?_⟩))
  rw [cl_of h1 (by omega), h1, nI_1]
  refine hQ _ ⟨by rw [ue_i, List.length_append]; rfl, by rw [List.length_append]; simp; omega, fun k hk => ?_⟩ (fun p hp => ?_)
  · rw [List.length_append] at hk; simp at hk
    unfold lawAt
    rw [ue_v, un_v (show (11 : Nat) ≠ 12 by decide), ue_v, un_v (show (10 : Nat) ≠ 12 by decide), un_v (show (10 : Nat) ≠ 11 by decide), ue_v, un_v (show (9 : Nat) ≠ 12 by decide), un_v (show (9 : Nat) ≠ 11 by decide), un_v (show (9 : Nat) ≠ 10 by decide), ue_v]
    by_cases e : k = laws.length
    · subst e
      rw [ue_i, ue_i, ue_i, ue_i, gD_r, hx, nar_b]
      exact ⟨rfl, hy, hz, hw⟩
    · rw [un_i e, un_i e, un_i e, un_i e, gD_l (by omega)]
      exact h3 k (by omega)
  · rw [un_v (by omega), un_v (by omega), un_v (by omega), un_v (by omega)]
theorem s_takeLaw (h : rdX I A B t n j) (hd : 3 ≤ d) {laws : List Law} (hl : lawX I A laws) (h8 : laws.length < 8) {x y : Int32} {b : Bool} {parts : Nat} (hx : x = bI b) (hy : y = nI parts) (hp : 1 ≤ parts ∧ parts ≤ 2)
    (hE : ∀ k pl (I' : Nat → Int32), pLaw t n j parts b = .inl (k, pl) → I' 304 = nI k → I' 305 = nI pl → (∀ i, i ≠ 302 → i ≠ 304 → i ≠ 305 → I' i = I i) → Q (some (.int 0)) (wC (.ref 48) cg fg I' J A B))
    (hO : ∀ q (I' : Nat → Int32) (A' : Nat → Nat → Int32), pLaw t n j parts b = .inr q → okLaw parts q → rdX I' A' B t n (j + 3) → lawX I' A' (laws ++ [q]) → (∀ i, i ≠ 302 → i ≠ 805 → I' i = I i) → (∀ p, p < 9 ∨ 12 < p → A' p = A p) → Q (some (.int 1)) (wC (.ref 48) cg fg I' J A' B)) :
    xK l d 59 [.ref 3, .int x, .int y] (wC (.ref 48) cg fg I J A B) Q := by
  obtain ⟨d, rfl⟩ : ∃ e, d = e + 1 := ⟨d - 1, by omega⟩
  have p1 : ∀ {v : Nat} {P R : Prop}, v ≤ 3 → P → (if (0 : Int32) ≤ nI v then P else R) := fun hv hp => if_le (a := 0) rfl rfl (by omega) (by omega) (fun _ => hp) (fun z => absurd z (by omega))
  subst hx
  refine e_X4_takeLaw (s_takeDigit h (by omega) (most := 3) rfl (by omega) (fun k pl hf => ?_) (fun f hf hf3 hk => ?_))
  · refine b_X4_takeLaw_5 ?_
    rw [if_neg (by decide)]
    refine ⟨Or.inl rfl, hE k pl _ (by unfold pLaw; rw [hf]; rfl) ?_ ?_ (fun i a b c => ?_)⟩
    · rw [un_i (by decide), ue_i]
    · rw [ue_i]
    · rw [un_i c, un_i b]
  · refine b_X4_takeLaw_5 (p1 hf3 ?_)
    have h1 := rd_next h hk
    refine s_takeDigit h1 (by omega) (most := parts) hy (by omega) (fun k pl hs => ?_) (fun s hs hs3 hk1 => ?_)
    · refine b_X4_takeLaw_17 ?_
      rw [if_neg (by decide)]
      refine ⟨Or.inl rfl, hE k pl _ (by unfold pLaw; rw [hf, sbd_r, hs]; rfl) ?_ ?_ (fun i a b c => ?_)⟩
      · rw [un_i (by decide), ue_i]
      · rw [ue_i]
      · rw [un_i c, un_i b, un_i a]
    · have h2 := rd_next h1 hk1
      have hb2 := clK_b t n (tP t n (j + 1 + 1))
      have hpl : pLaw t n j parts b = sbd (pNum t n (j + 2) (if b = true then parts else 3) (if b = true then some s else none)) fun v => .inr (b, f, s, v) := by unfold pLaw; rw [hf, sbd_r, hs, sbd_r]
      -- the last number, when it is not the slot
      have last : ∀ {z : Int32} {most : Nat}, z = nI most → most = (if b = true then parts else 3) → (b = true → ¬ (tK t n (j + 2) = 3 ∧ tD t n (j + 2) = s)) → xK l d 61 [.ref 3, .int z] (wC (.ref 48) cg fg (upd (upd I 302 (nI (j + 1))) 302 (nI (j + 1 + 1))) J A B) (fun v9 w9 => xG l d 59 Q 84 [some (.ref 3), some (.int (bI b)), none, some (.int (nI f)), some (.int (nI s)), none] (v9.toList ++ []) w9 0 0) := by
        intro z most hz hmost hno
        have hm3 : most ≤ 3 := by rw [hmost]; split <;> omega
        have hpn : pNum t n (j + 2) (if b = true then parts else 3) (if b = true then some s else none) = pNum t n (j + 2) most none := by
          rw [← hmost]
          cases b with
          | false => rfl
          | true => exact pNum_but (hno rfl)
        rw [hpn] at hpl
        refine s_takeDigit h2 (by omega) (most := most) hz (by omega) (fun k pl hv => ?_) (fun v hv hv3 hk2 => ?_)
        · refine b_X4_takeLaw_84 ?_
          rw [if_neg (by decide)]
          refine ⟨Or.inl rfl, hE k pl _ (by rw [hpl, show pNum t n (j + 2) most none = .inl (k, pl) from hv]; rfl) ?_ ?_ (fun i a b c => ?_)⟩
          · rw [un_i (by decide), ue_i]
          · rw [ue_i]
          · rw [un_i c, un_i b, un_i a, un_i a]
        · have hv' : pNum t n (j + 2) most none = .inr v := hv
          rw [hv', sbd_r] at hpl
          have hv3' := pNum_3 hv'
          refine b_X4_takeLaw_84 (p1 (by omega) ?_)
          have h3 := rd_next h2 hk2
          refine s_addLaw (q := (b, f, s, v)) (by omega) (laws := laws) ⟨by rw [un_i (by decide), un_i (by decide), un_i (by decide)]; exact hl.1, hl.2⟩ h8 rfl rfl rfl rfl (fun A' hl' hA' => ?_)
          refine b_X4_takeLaw_106 ⟨Or.inr rfl, hO (b, f, s, v) _ A' hpl ⟨hf3, hs3, by show v ≤ _; rw [← hmost]; exact hv3, fun hbt e => hno hbt ⟨hv3'.1, hv3'.2.1.symm.trans e⟩⟩ ?_ hl' (fun i a c => ?_) hA'⟩
          · refine ⟨fun q hq => ?_, by rw [un_i (by decide)]; exact h3.2.1, by rw [un_i (by decide)]; exact h3.2.2.1, h3.2.2.2⟩
            rw [hA' 5 (by omega), hA' 6 (by omega)]; exact h3.1 q hq
          · rw [un_i c, un_i a, un_i a, un_i a]
      refine b_X4_takeLaw_17 (p1 (by omega) ?_)
      cases b with
      | false =>
        rw [if_pos (by decide), if_pos (by decide)]
        exact last rfl rfl (fun z => by cases z)
      | true =>
        rw [if_neg (by decide)]
        refine ⟨rd_in h2, if_eq (rd_k h2) (b := 1) rfl (by omega) (by omega) (fun e => ⟨rd_in h2, ?_⟩) (fun e => ?_)⟩
        · have k3 := ck_num.mp e
          have h9 := tkD_9 k3
          have ev : lg_cmp (B 7 ((upd (upd I 302 (nI (j + 1))) 302 (nI (j + 1 + 1))) 302).toNatClampNeg) (nI s).toInt64 = 0 ↔ tD t n (j + 2) = s := by
            rw [lg0, rd_v h2]
            show lN (clV t n (tP t n (j + 2))) = _ ↔ _
            unfold clV; rw [if_neg (by show ¬ tkK t n (tP t n (j + 2)) = 2; have : tkK t n (tP t n (j + 2)) = 3 := k3; omega), if_pos k3, nI_l (by omega), pk_lEQ (by have : tkD t n (tP t n (j + 2)) ≤ 9 := h9; omega) (by omega)]
          refine if_if ev (fun e2 => ?_) (fun e2 => ?_)
          · refine s_fail h2 (by omega) (b_X4_takeLaw_70 ⟨Or.inl rfl, hE 2 (tF t n (j + 2)) _ ?_ ?_ ?_ (fun i a b c => ?_)⟩)
            · rw [hpl, if_pos rfl, if_pos rfl]
              unfold pNum; rw [if_neg (fun z => z k3), if_pos (Or.inr (by rw [e2])), pFl_k (by show tkK t n (tP t n (j + 2)) ≠ 1; have : tkK t n (tP t n (j + 2)) = 3 := k3; omega)]; rfl
            · rw [un_i (by decide), ue_i]; rfl
            · rw [ue_i]
            · rw [un_i c, un_i b, un_i a, un_i a]
          · rw [if_neg (by decide)]
            exact last hy rfl (fun _ z => e2 z.2)
        · rw [if_neg (by decide)]
          exact last hy rfl (fun _ z => e (ck_num.mpr z.1))
end C7
