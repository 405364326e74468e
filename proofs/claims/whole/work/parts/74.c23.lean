/-! ===== the class: ranges, entries, pairs ===== -/
theorem ix_mono {V : Nat → Vl} {s s' : Nat} (h : s ≤ s') (hs : s' ≤ 10000) : ix V s ≤ ix V s' := by
  apply Nat.le_of_not_lt; intro z
  have h1 := sL_lt' (V := V) (show s ≤ 10000 by omega) z
  have h2 := sL_ge' (V := V) hs (Nat.le_refl _) h1.1
  omega
theorem cat_lt {V : Nat → Vl} {k a : Nat} (hk : k ≤ 16) (ha : a < (sL V).length) : (sL V).getD a 0 / 625 < k ↔ a < ix V (625 * k) := by
  constructor
  · intro h
    apply Nat.lt_of_not_le; intro z
    have := sL_ge' (V := V) (s := 625 * k) (by omega) z ha
    omega
  · intro h
    have := (sL_lt' (V := V) (s := 625 * k) (by omega) h).2
    omega
theorem cat_eq {V : Nat → Vl} {k a : Nat} (hk : k < 16) (ha : a < (sL V).length) : (sL V).getD a 0 / 625 = k ↔ ix V (625 * k) ≤ a ∧ a < ix V (625 * (k + 1)) := by
  have h1 := cat_lt (V := V) (k := k) (by omega) ha
  have h2 := cat_lt (V := V) (k := k + 1) (by omega) ha
  omega
theorem fm_tnil {α β : Type} {l : List α} {F : α → List β} (d : α) : ∀ {p : Nat}, (∀ k, k < p → k < l.length → F (l.getD k d) = []) → (l.take p).flatMap F = []
  | 0, _ => rfl
  | p + 1, h => by
    have ih := fm_tnil (l := l) (F := F) d (p := p) (fun k hk hl => h k (by omega) hl)
    by_cases e : p < l.length
    · rw [fm_snoc d e, ih, h p (by omega) e]; rfl
    · rw [List.take_of_length_le (by omega)] at ih ⊢; exact ih
theorem fm_tall {α β : Type} {l : List α} {F : α → List β} (d : α) {p : Nat} (h : ∀ k, p ≤ k → k < l.length → F (l.getD k d) = []) : l.flatMap F = (l.take p).flatMap F := by
  have hm : ∀ m, (l.take (p + m)).flatMap F = (l.take p).flatMap F := by
    intro m
    induction m with
    | zero => rfl
    | succ m ih =>
      by_cases e : p + m < l.length
      · rw [← Nat.add_assoc, fm_snoc d e, h (p + m) (by omega) e, List.append_nil]; exact ih
      · rw [List.take_of_length_le (by omega)] at ih ⊢; exact ih
  have := hm l.length
  rwa [List.take_of_length_le (by omega)] at this
section C23
variable {l : Launch} {J : Nat → Int64} {Q : Option Value → XW → Prop} {d : Nat} {tgt cg fg : Value} {I : Nat → Int32} {A : Nat → Nat → Int32} {B : Nat → Nat → Int64}
theorem s_setRanges (hd : 1 ≤ d) {c : Nat} {V : Nat → Vl} (hI : I 1908 = nI c) (hc : c < 105) (h : cX A B c V)
    (hQ : ∀ (A' : Nat → Nat → Int32), rX A' c V → (∀ p, p ≠ 24 → A' p = A p) → (∀ i, i < 17 * c ∨ 17 * c + 17 ≤ i → A' 24 i = A 24 i) → Q none (wC tgt cg fg I J A' B)) : xK l d 10 [.ref 19] (wC tgt cg fg I J A B) Q := by
  obtain ⟨d, rfl⟩ : ∃ e, d = e + 1 := ⟨d - 1, by omega⟩
  have h60 := h.1
  have h20 := h.2.1
  have e60 : (I 1908) * (60 : Int32) = nI (60 * c) := by rw [hI, show nI c * (60 : Int32) = nI (c * 60) from mul_of (b := 60) rfl rfl, Nat.mul_comm]
  have e17 : ∀ k, (I 1908) * (17 : Int32) + nI k = nI (17 * c + k) := fun k => by rw [hI, show nI c * (17 : Int32) = nI (c * 17) from mul_of (b := 17) rfl rfl, Nat.mul_comm, nI_add]
  have outer : ∀ m k a (A1 : Nat → Nat → Int32), 17 - k < m → k ≤ 17 → a ≤ (sL V).length → (k ≤ 16 → a ≤ ix V (625 * k)) → (∀ i, i < k → A1 24 (17 * c + i) = nI (60 * c + ix V (625 * i))) → (∀ p, p ≠ 24 → A1 p = A p) → (∀ i, i < 17 * c ∨ 17 * c + 17 ≤ i → A1 24 i = A 24 i) → xG l d 10 Q 22 [some (.ref 19), some (.int (nI (60 * c + a))), some (.int (nI (60 * c + (sL V).length))), some (.int (nI k))] [] (wC tgt cg fg I J A1 B) 0 0 := by
    intro m
    induction m with
    | zero => intro k a A1 hm; omega
    | succ m ih =>
      intro k a A1 hm hk ha hak hd1 hA hA24
      refine b_X0_setRanges_22 (if_le (a := 17) rfl rfl (by omega) (by omega) (fun z => hQ A1 (fun i hi => hd1 i (by omega)) hA hA24) (fun z => ?_))
      have hixl := sL_le' (V := V) (s := 625 * k) (by omega)
      have inner : ∀ m2 a, (sL V).length - a < m2 → a ≤ ix V (625 * k) → xG l d 10 Q 28 [some (.ref 19), some (.int (nI (60 * c + a))), some (.int (nI (60 * c + (sL V).length))), some (.int (nI k))] [] (wC tgt cg fg I J A1 B) 0 0 := by
        intro m2
        induction m2 with
        | zero => intro a hm2; omega
        | succ m2 ih2 =>
          intro a hm2 ha2
          have put : a = ix V (625 * k) → xin ((I 1908) * (17 : Int32) + nI k) 1785 ∧ xG l d 10 Q 22 [some (.ref 19), some (.int (nI (60 * c + a))), some (.int (nI (60 * c + (sL V).length))), some (.int (nI k + 1))] [] (wC tgt cg fg I J (va_up A1 24 (upd (A1 24) ((I 1908) * (17 : Int32) + nI k).toNatClampNeg (nI (60 * c + a)))) B) 0 0 := by
            intro hae
            rw [e17, cl_n (by omega), nI_1]
            refine ⟨xin_n (by omega) (by omega), ih (k + 1) a _ (by omega) (by omega) (by omega) (fun hk16 => ?_) (fun i hi => ?_) (fun p hp => by rw [un_v hp]; exact hA p hp) (fun i hi => ?_)⟩
            · rw [hae]; exact ix_mono (by omega) (by omega)
            · rw [ue_v]
              by_cases e : i = k
              · subst e; rw [ue_i, hae]
              · rw [un_i (by omega)]; exact hd1 i (by omega)
            · rw [ue_v, un_i (by omega)]; exact hA24 i hi
          refine b_X0_setRanges_28 (if_le rfl rfl (by omega) (by omega) (fun q => put (by omega)) (fun q => ⟨xin_n (by omega) (by omega), ?_⟩))
          have hin := sL_in (V := V) (show a < (sL V).length by omega)
          have hcl := cs_lt hin.1
          have hct := cat_lt (V := V) (k := k) (a := a) (by omega) (by omega)
          rw [cl_n (by omega), hA 21 (by decide), (h.2.2 a (by omega)).1, shr12 (by omega), cs_cat]
          refine if_le rfl rfl (by omega) (by omega) (fun q2 => put (by omega)) (fun q2 => ?_)
          rw [nI_1]
          exact ih2 (a + 1) (by omega) (by omega)
      exact inner _ a (Nat.lt_succ_self _) (hak (by omega))
  refine e_X0_setRanges ⟨xin_of hI hc (by omega), ?_⟩
  rw [e60, cl_of hI (by omega), h20, nI_add]
  exact outer _ 0 0 A (Nat.lt_succ_self _) (by omega) (by omega) (fun _ => by omega) (fun i hi => by omega) (fun _ _ => rfl) (fun _ _ => rfl)
theorem s_firstOf (hd : 1 ≤ d) {x y : Int32} {c k : Nat} {V : Nat → Vl} (hx : x = nI c) (hc : c < 105) (hy : y = nI k) (hk : k < 16) (h : rX A c V) (hQ : Q (some (.int (nI (60 * c + ix V (625 * k))))) (wC tgt cg fg I J A B)) : xK l d 11 [.ref 19, .int x, .int y] (wC tgt cg fg I J A B) Q := by
  obtain ⟨d, rfl⟩ : ∃ e, d = e + 1 := ⟨d - 1, by omega⟩
  have e : x * (17 : Int32) + y = nI (17 * c + k) := by rw [hx, hy, show nI c * (17 : Int32) = nI (c * 17) from mul_of (b := 17) rfl rfl, Nat.mul_comm, nI_add]
  refine e_X0_firstOf ?_
  rw [e, cl_n (by omega), h k (by omega)]
  exact ⟨xin_n (by omega) (by omega), hQ⟩
theorem s_behindLast (hd : 1 ≤ d) {x y : Int32} {c k : Nat} {V : Nat → Vl} (hx : x = nI c) (hc : c < 105) (hy : y = nI k) (hk : k < 16) (h : rX A c V) (hQ : Q (some (.int (nI (60 * c + ix V (625 * (k + 1)))))) (wC tgt cg fg I J A B)) : xK l d 12 [.ref 19, .int x, .int y] (wC tgt cg fg I J A B) Q := by
  obtain ⟨d, rfl⟩ : ∃ e, d = e + 1 := ⟨d - 1, by omega⟩
  have e : x * (17 : Int32) + y + 1 = nI (17 * c + (k + 1)) := by rw [hx, hy, show nI c * (17 : Int32) = nI (c * 17) from mul_of (b := 17) rfl rfl, Nat.mul_comm, nI_add, nI_1, Nat.add_assoc]
  refine e_X0_behindLast ?_
  rw [e, cl_n (by omega), h (k + 1) (by omega)]
  exact ⟨xin_n (by omega) (by omega), hQ⟩
theorem eOps_b {es : List Entry} {o : Own} (ho : ∀ c i j, -1 ≤ o c i j ∧ o c i j ≤ 1) {w : List Nat} {i : Nat} {p : Op} (h : p ∈ eOps es o w i) : -1 ≤ p.2.2 ∧ p.2.2 ≤ 1 := by
  unfold eOps at h
  obtain ⟨E, _, h⟩ := List.mem_flatMap.mp h
  split at h
  · rw [List.mem_singleton] at h; subst h; exact ho _ _ _
  · cases h
theorem s_addEntries (hd : 3 ≤ d) {x : Int64} {i : Nat} {es : List Entry} {D : List (Nat × Nat × Nat)} {w : List Nat} {V : Nat → Vl} (hD : drX A D) (hi : i < 14) (hI : I 1908 = nI (cx i (i + 1))) (hes : entC I A B es) (hw : vNm w) (hx : x = lN (c32 w)) (hbV : bV V) (hV : cX A B (cx i (i + 1)) V)
    (hE : ∀ (A' : Nat → Nat → Int32) (B' : Nat → Nat → Int64), 61 ≤ (sL (apv V (eOps es (oD D) w i))).length → fcX (cx i (i + 1)) A B A' B' → Q (some (.int 0)) (wC tgt (.ref 37) fg I J A' B'))
    (hO : ∀ (A' : Nat → Nat → Int32) (B' : Nat → Nat → Int64), cX A' B' (cx i (i + 1)) (apv V (eOps es (oD D) w i)) → fcX (cx i (i + 1)) A B A' B' → Q (some (.int 1)) (wC tgt (.ref 37) fg I J A' B')) : xK l d 3 [.ref 19, .long x] (wC tgt (.ref 37) fg I J A B) Q := by
  obtain ⟨d, rfl⟩ : ∃ e, d = e + 1 := ⟨d - 1, by omega⟩
  have h40 := hes.2.1
  have hc := cx_lt (show i < i + 1 by omega) (show i + 1 ≤ 14 by omega)
  generalize hcx : cx i (i + 1) = c at hI hV hE hO hc
  generalize hF : (fun E : Entry => if E.1 = w then [(eSg E, (1, oD D E.2.1 i (i + 1)))] else ([] : List Op)) = F
  have hL : eOps es (oD D) w i = es.flatMap F := by rw [← hF]; rfl
  have hLb : ∀ p ∈ es.flatMap F, -100000 ≤ p.2.2 ∧ p.2.2 ≤ 100000 := fun p hp => by
    have := eOps_b (o := oD D) (fun c i j => oD_1 D c i j) (by rw [hL]; exact hp); omega
  rw [hL] at hE hO
  have loop : ∀ m e (A1 : Nat → Nat → Int32) (B1 : Nat → Nat → Int64), es.length - e < m → e ≤ es.length → cX A1 B1 c (apv V ((es.take e).flatMap F)) → fcX c A B A1 B1 → xG l d 3 Q 2 [some (.ref 19), some (.long x), none, some (.int (nI e)), none] [] (wC tgt (.ref 37) fg I J A1 B1) 0 0 := by
    intro m
    induction m with
    | zero => intro e A1 B1 hm; omega
    | succ m ih =>
      intro e A1 B1 hm he hcm hfr
      refine b_X0_addEntries_2 (if_le hes.1 rfl (by omega) (by omega) (fun z => ⟨Or.inr rfl, hO A1 B1 ?_ hfr⟩) (fun z => ?_))
      · rw [List.take_of_length_le z] at hcm; exact hcm
      · have hE1 := (hes.2.2 e z).1
        have hEB := (hes.2.2 e z).2
        have hsn := fm_snoc (F := F) dE z
        have hat : ∀ p ∈ F (es.getD e dE), p ∈ es.flatMap F := fun p hp => fm_at dE z hp
        generalize es.getD e dE = E at hE1 hEB hsn hat
        have next : ∀ (A2 : Nat → Nat → Int32) (B2 : Nat → Nat → Int64), cX A2 B2 c (apv V ((es.take (e + 1)).flatMap F)) → fcX c A B A2 B2 → xG l d 3 Q 2 [some (.ref 19), some (.long x), none, some (.int (nI e + 1)), none] [] (wC tgt (.ref 37) fg I J A2 B2) 0 0 := by
          intro A2 B2 k1 k2
          rw [nI_1]
          exact ih (e + 1) A2 B2 (by omega) (by omega) k1 k2
        have hsg : eSg E < 10000 := by have := hE1.2.1; have := hE1.2.2; unfold eSg; omega
        have hsc : eSg E / 625 = E.2.1 := by have := hE1.2.2; unfold eSg; omega
        have hcl := cs_lt hsg
        rw [cl_n (by omega), hfr.2.2.2.2 38 (by decide), hfr.1 39 (by decide) (by decide) (by decide) (by decide), hEB.2, shr12 (by omega), cs_cat, hsc]
        refine ⟨xin_n (by omega) (by omega), if_if (show lg_cmp (B 38 e) x = 0 ↔ E.1 = w from lg0.trans (by rw [hEB.1, hx]; exact nm_eq32 hE1.1 hw)) (fun e2 => ⟨xin_n (by omega) (by omega), ?_⟩) (fun e2 => next A1 B1 ?_ hfr)⟩
        · have hop : F E = [(eSg E, (1, oD D E.2.1 i (i + 1)))] := by rw [← hF]; show (if _ then _ else _) = _; rw [if_pos e2]
          have hD1 : drX A1 D := fun a b p q => by rw [hfr.1 18 (by decide) (by decide) (by decide) (by decide)]; exact hD a b p q
          have hob := oD_1 D E.2.1 i (i + 1)
          refine s_costOfNode (by omega) hD1 rfl hE1.2.1 (by rw [hI, ← hcx]) (by omega) (by omega) (b_X0_addEntries_58 ?_)
          refine s_addTrees (s := eSg E) (n := 1) (by omega) hI hc rfl hsg rfl rfl (by omega) (by omega) (bV_apv hbV (fun p hp => hLb p (fm_take hp))) hcm (fun hn h60 => b_X0_addEntries_61 ?_) (fun A4 B4 k1 k2 => b_X0_addEntries_61 ?_)
          · rw [if_pos rfl]
            exact ⟨Or.inl rfl, hE A1 B1 (apv_61 (op := (eSg E, (1, oD D E.2.1 i (i + 1)))) h60 hn hsg (fun p hp => fm_take hp) (hat _ (by rw [hop]; exact List.mem_singleton.mpr rfl))) hfr⟩
          · rw [if_neg (by decide)]
            refine next A4 B4 ?_ (fcX_trans hfr k2)
            rw [hsn, hop, ← apv_app]; exact k1
        · rw [hsn, show F E = [] by rw [← hF]; show (if _ then _ else _) = _; rw [if_neg e2], List.append_nil]; exact hcm
  exact e_X0_addEntries (loop _ 0 A B (Nat.lt_succ_self _) (by omega) (by simpa [apv_nil] using hV) (fcX_refl c A B))
end C23
