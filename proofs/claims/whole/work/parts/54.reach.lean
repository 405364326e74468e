/-! ===== the closure over the categories that there are ===== -/
def supp (f : Nat → Nat → Bool) (nc : Nat) : Prop := ∀ x y, f x y = true → x < nc ∧ y < nc
def clCn (nc : Nat) : Nat → (Nat → Nat → Bool) → Nat → Nat → Bool
  | 0, f => f
  | m + 1, f => clA m nc (clCn nc m f)
theorem supp_no {f : Nat → Nat → Bool} {nc : Nat} (h : supp f nc) {x y : Nat} (hx : nc ≤ x ∨ nc ≤ y) : f x y = false := by
  cases z : f x y with
  | false => rfl
  | true => have := h x y z; omega
theorem clS_id {f : Nat → Nat → Bool} {c a : Nat} (h : f a c = false) : clS c a f = f := by
  funext x y; unfold clS
  by_cases e : x = a
  · subst e; rw [if_pos rfl, h]; simp
  · rw [if_neg e]
theorem supp_S {f : Nat → Nat → Bool} {nc c a : Nat} (h : supp f nc) : supp (clS c a f) nc := by
  intro x y hxy
  unfold clS at hxy
  by_cases e : x = a
  · rw [if_pos e] at hxy
    rcases Bool.or_eq_true _ _ ▸ hxy with z | z
    · subst e; exact h _ _ z
    · rw [Bool.and_eq_true] at z
      have := h _ _ z.1; have := h _ _ z.2; omega
  · rw [if_neg e] at hxy; exact h _ _ hxy
theorem supp_A {f : Nat → Nat → Bool} {nc c : Nat} (h : supp f nc) : ∀ m, supp (clA c m f) nc
  | 0 => h
  | m + 1 => supp_S (supp_A h m)
theorem supp_C {f : Nat → Nat → Bool} {nc : Nat} (h : supp f nc) : ∀ m, supp (clC m f) nc
  | 0 => h
  | m + 1 => supp_A (supp_C h m) 16
theorem clA_nc {f : Nat → Nat → Bool} {nc c : Nat} (h : supp f nc) : ∀ k, clA c (nc + k) f = clA c nc f
  | 0 => rfl
  | k + 1 => by
    show clS c (nc + k) (clA c (nc + k) f) = _
    rw [clA_nc h k]
    exact clS_id (supp_no (supp_A h nc) (Or.inl (by omega)))
theorem clA_far {f : Nat → Nat → Bool} {nc c : Nat} (h : supp f nc) (hc : nc ≤ c) : ∀ m, clA c m f = f
  | 0 => rfl
  | m + 1 => by
    show clS c m (clA c m f) = f
    rw [clA_far h hc m]
    exact clS_id (supp_no h (Or.inr hc))
theorem clC_n {f : Nat → Nat → Bool} {nc : Nat} (h : supp f nc) (hn : nc ≤ 16) : ∀ m, m ≤ nc → clC m f = clCn nc m f
  | 0, _ => rfl
  | m + 1, hm => by
    show clA m 16 (clC m f) = clA m nc (clCn nc m f)
    rw [← clC_n h hn m (by omega), show (16 : Nat) = nc + (16 - nc) by omega]
    exact clA_nc (supp_C h m) _
theorem clC_far {f : Nat → Nat → Bool} {nc : Nat} (h : supp f nc) : ∀ k, clC (nc + k) f = clC nc f
  | 0 => rfl
  | k + 1 => by
    show clA (nc + k) 16 (clC (nc + k) f) = _
    rw [clC_far h k]
    exact clA_far (supp_C h nc) (by omega) 16
theorem clos_n {rs : List Rule} {nc : Nat} (h : supp (cl0 rs) nc) (hn : nc ≤ 16) : clos rs = clCn nc nc (cl0 rs) := by
  unfold clos
  rw [← clC_n h hn nc (Nat.le_refl _), show (16 : Nat) = nc + (16 - nc) by omega]
  exact clC_far h _
theorem supp_0 {rs : List Rule} {nc : Nat} (h : ∀ R ∈ rs, R.1 < nc ∧ R.2.1 < nc) : supp (cl0 rs) nc := by
  intro x y hxy
  unfold cl0 at hxy
  obtain ⟨R, hR, hq⟩ := List.any_eq_true.mp hxy
  have := h R hR
  simp at hq
  omega
def rowX (A : Nat → Nat → Int32) (f : Nat → Nat → Bool) : Prop := ∀ a, a < 16 → A 57 a = nI (msk (f a) 16)
section C14
variable {l : Launch} {J : Nat → Int64} {Q : Option Value → XW → Prop} {d : Nat} {tgt cg fg : Value} {I : Nat → Int32} {A : Nat → Nat → Int32} {B : Nat → Nat → Int64}
theorem s_fill57 (hd : 1 ≤ d) {v : Int32} (hQ : ∀ (A' : Nat → Nat → Int32), (∀ i, i < 16 → A' 57 i = v) → (∀ p, p ≠ 57 → A' p = A p) → Q none (wC tgt cg fg I J A' B)) : xK l d 194 [.ref 57, .int v] (wC tgt cg fg I J A B) Q := by
  obtain ⟨d, rfl⟩ : ∃ e, d = e + 1 := ⟨d - 1, by omega⟩
  have loop : ∀ m k (A1 : Nat → Nat → Int32), 16 - k < m → k ≤ 16 → (∀ i, i < k → A1 57 i = v) → (∀ p, p ≠ 57 → A1 p = A p) → xG l d 194 Q 5 [some (.ref 57), some (.int v), some (.int (nI k)), some (.int (Int32.ofNat 16))] [] (wC tgt cg fg I J A1 B) 0 0 := by
    intro m
    induction m with
    | zero => intro k A1 hm; exact absurd hm (by omega)
    | succ m ih =>
      intro k A1 hm hk h1 h3
      refine b_J7_fill_53178_p57_5 (if_le (a := 16) rfl rfl (by omega) (by omega) (fun g => ?_) (fun g => ⟨xin_of rfl (by omega) (by omega), ?_⟩))
      · exact hQ A1 (fun i hi => h1 i (by omega)) h3
      · rw [cl_n (by omega), nI_1]
        refine ih (k + 1) _ (by omega) (by omega) (fun i hi => ?_) (fun p hp => by rw [un_v hp]; exact h3 p hp)
        rw [ue_v]
        by_cases z : i = k
        · subst z; rw [ue_i]
        · rw [un_i z]; exact h1 i (by omega)
  exact e_J7_fill_53178_p57 (loop 17 0 A (by omega) (by omega) (fun i hi => absurd hi (by omega)) (fun _ _ => rfl))
theorem s_reaches (hd : 1 ≤ d) {x y : Int32} {a b : Nat} {f : Nat → Nat → Bool} (hf : rowX A f) (hx : x = nI a) (hy : y = nI b) (ha : a < 16) (hb : b < 16) (hQ : Q (some (.int (bI (f a b)))) (wC tgt cg fg I J A B)) : xK l d 49 [.ref 48, .int x, .int y] (wC tgt cg fg I J A B) Q := by
  obtain ⟨d, rfl⟩ : ∃ e, d = e + 1 := ⟨d - 1, by omega⟩
  refine e_X3_reaches ⟨xin_of hx (by omega) (by omega), ?_⟩
  rw [cl_of hx (by omega), hf a ha, hy]
  have hm := msk_16 (f a)
  refine if_if ((bit_n (m := msk (f a) 16) (y := b) (by omega) (by omega)).trans (by rw [msk_bit]; simp [hb] : _ ↔ f a b = false)) (fun e => ?_) (fun e => ?_)
  · rw [e] at hQ; exact ⟨Or.inl rfl, hQ⟩
  · have e : f a b = true := by simpa using e
    rw [e] at hQ; exact ⟨Or.inr rfl, hQ⟩
theorem s_closeReach (hd : 2 ≤ d) {rs : List Rule} {nc : Nat} (hr : rulX I A rs) (h12 : I 4812 = nI nc) (hnc : nc ≤ 16) (hs : ∀ R ∈ rs, R.1 < nc ∧ R.2.1 < nc)
    (hQ : ∀ (A' : Nat → Nat → Int32), rowX A' (clos rs) → (∀ p, p ≠ 57 → A' p = A p) → Q none (wC tgt cg fg I J A' B)) : xK l d 50 [.ref 48] (wC tgt cg fg I J A B) Q := by
  obtain ⟨d, rfl⟩ : ∃ e, d = e + 1 := ⟨d - 1, by omega⟩
  obtain ⟨h11, h30, h3⟩ := hr
  rw [clos_n (supp_0 hs) hnc] at hQ
  -- the ways
  have inner : ∀ m c a (A1 : Nat → Nat → Int32) (f : Nat → Nat → Bool), nc - a < m → c < nc → a ≤ nc → rowX A1 (clA c a f) → (∀ p, p ≠ 57 → A1 p = A p) → (∀ (A2 : Nat → Nat → Int32), rowX A2 (clA c nc f) → (∀ p, p ≠ 57 → A2 p = A p) → xG l d 50 Q 56 [some (.ref 48), some (.int (nI (c + 1))), none] [] (wC tgt cg fg I J A2 B) 0 0) → xG l d 50 Q 66 [some (.ref 48), some (.int (nI c)), some (.int (nI a))] [] (wC tgt cg fg I J A1 B) 0 0 := by
    intro m
    induction m with
    | zero => intro c a A1 f hm; exact absurd hm (by omega)
    | succ m ih =>
      intro c a A1 f hm hc ha hrow hA hnext
      refine b_X3_closeReach_66 (if_le h12 rfl (by omega) (by omega) (fun g => ?_) (fun g => ?_))
      · rw [nI_1]
        have e : a = nc := by omega
        subst e
        exact hnext A1 hrow hA
      · refine s_reaches (by omega) hrow rfl rfl (by omega) (by omega) (b_X3_closeReach_80 (if_bI rfl (fun e => ?_) (fun e => ?_)))
        · rw [nI_1]
          refine ih c (a + 1) A1 f (by omega) hc (by omega) ?_ hA hnext
          show rowX A1 (clS c a (clA c a f))
          rw [clS_id e]; exact hrow
        · refine ⟨xin_of rfl (by omega) (by omega), xin_of rfl (by omega) (by omega), xin_of rfl (by omega) (by omega), ?_⟩
          rw [nI_1, cl_n (by omega), cl_n (by omega)]
          refine ih c (a + 1) _ f (by omega) hc (by omega) (fun x hx => ?_) (fun p hp => by rw [un_v hp]; exact hA p hp) hnext
          show _ = nI (msk (clS c a (clA c a f) x) 16)
          rw [ue_v]
          by_cases z : x = a
          · subst z
            rw [ue_i, hrow x (by omega), hrow c (by omega), fa_or, msk_or]
            apply congrArg nI
            apply msk_cong
            intro i _
            show _ = clS c x (clA c x f) x i
            unfold clS
            rw [if_pos rfl, e]; simp
          · rw [un_i z, hrow x hx]
            apply congrArg nI
            apply msk_cong
            intro i _
            show _ = clS c a (clA c a f) x i
            unfold clS
            rw [if_neg z]
  have outer : ∀ m c (A1 : Nat → Nat → Int32), nc - c < m → c ≤ nc → rowX A1 (clCn nc c (cl0 rs)) → (∀ p, p ≠ 57 → A1 p = A p) → xG l d 50 Q 56 [some (.ref 48), some (.int (nI c)), none] [] (wC tgt cg fg I J A1 B) 0 0 := by
    intro m
    induction m with
    | zero => intro c A1 hm; exact absurd hm (by omega)
    | succ m ih =>
      intro c A1 hm hc hrow hA
      refine b_X3_closeReach_56 (if_le h12 rfl (by omega) (by omega) (fun g => ?_) (fun g => ?_))
      · have e : c = nc := by omega
        subst e
        exact hQ A1 hrow hA
      · exact inner (nc + 1) c 0 A1 _ (by omega) g (by omega) hrow hA (fun A2 h2 hA2 => ih (c + 1) A2 (by omega) (by omega) h2 hA2)
  -- the rules
  have rules : ∀ m r (A1 : Nat → Nat → Int32), rs.length - r < m → r ≤ rs.length → rowX A1 (cl0 (rs.take r)) → (∀ p, p ≠ 57 → A1 p = A p) → xG l d 50 Q 10 [some (.ref 48), some (.int (nI r)), none] [] (wC tgt cg fg I J A1 B) 0 0 := by
    intro m
    induction m with
    | zero => intro r A1 hm; exact absurd hm (by omega)
    | succ m ih =>
      intro r A1 hm hrl hrow hA
      refine b_X3_closeReach_10 (if_le h11 rfl (by omega) (by omega) (fun g => ?_) (fun g => ?_))
      · rw [List.take_of_length_le g] at hrow
        exact outer (nc + 1) 0 A1 (by omega) (by omega) hrow hA
      · obtain ⟨g1, g2, g3, g4, g5, g6⟩ := h3 r g
        have hmem : rs.getD r dR ∈ rs := by rw [gD_lt g]; exact List.getElem_mem g
        have hsr := hs _ hmem
        have htake := take_snoc rs dR g
        generalize rs.getD r dR = R at *
        refine s_isSingle2 (by omega) rfl (by omega) (o := R.2.2.1) (by rw [hA 53 (by decide)]; exact g4) g1.2.2.1 (b_X3_closeReach_23 (if_bI rfl (fun e => ?_) (fun e => ?_)))
        · rw [nI_1]
          refine ih (r + 1) A1 (by omega) (by omega) (fun a ha => ?_) hA
          rw [htake, hrow a ha]
          apply congrArg nI
          apply msk_cong
          intro i _
          rw [cl0_snoc]
          cases ho : R.2.2.1 with
          | none => rw [ho] at e; cases e
          | some c => simp
        · have ho : R.2.2.1 = none := by
            cases ho : R.2.2.1 with
            | none => rfl
            | some c => rw [ho] at e; cases e
          have e51 : A1 51 (nI r).toNatClampNeg = nI R.1 := by rw [cl_n (by omega), hA 51 (by decide)]; exact g2
          have e52 : A1 52 (nI r).toNatClampNeg = nI R.2.1 := by rw [cl_n (by omega), hA 52 (by decide)]; exact g3
          refine ⟨xin_of rfl (by omega) (by omega), xin_of e51 (by omega) (by omega), xin_of rfl (by omega) (by omega), xin_of e51 (by omega) (by omega), ?_⟩
          rw [e51, e52, cl_n (by omega), nI_1, shl1 R.2.1 (by omega), hrow R.1 (by omega), ← msk_one (show R.2.1 < 16 by omega), fa_or, msk_or]
          refine ih (r + 1) _ (by omega) (by omega) (fun a ha => ?_) (fun p hp => by rw [un_v hp]; exact hA p hp)
          rw [ue_v, htake]
          by_cases z : a = R.1
          · subst z
            rw [ue_i]
            apply congrArg nI
            apply msk_cong
            intro i _
            rw [cl0_snoc, ho]
            have : (i == R.2.1) = (R.2.1 == i) := by rw [Bool.eq_iff_iff]; simp; exact eq_comm
            rw [this]; simp
          · rw [un_i z, hrow a ha]
            apply congrArg nI
            apply msk_cong
            intro i _
            rw [cl0_snoc]
            have : (R.1 == a) = false := by simp; exact fun z2 => z z2.symm
            simp [this]
  refine e_X3_closeReach (s_fill57 (by omega) (fun A1 h1 hA => b_X3_closeReach_8 ?_))
  refine rules (rs.length + 1) 0 A1 (by omega) (by omega) (fun a ha => ?_) hA
  rw [h1 a ha]
  show nI 0 = _
  apply congrArg nI
  apply Nat.eq_of_testBit_eq
  intro i; rw [msk_bit]; simp [cl0]
end C14
