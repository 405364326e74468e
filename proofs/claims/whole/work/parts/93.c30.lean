/-! ===== the class: pricing, slips ===== -/
theorem tot_pos : ∀ {L : List Op} {s : Nat} {v : Nat × Int}, (∀ p ∈ L, p.1 = s → 1 ≤ p.2.1) → tot L s = some v → 1 ≤ v.1
  | [], s, v, _, h => by cases h
  | o :: L, s, v, hb, h => by
    unfold tot at h
    by_cases e : o.1 = s
    · rw [if_pos e] at h
      have h0 := hb o (List.mem_cons_self ..) e
      cases z : tot L s with
      | none => rw [z] at h; injection h with h; subst h; exact h0
      | some w =>
        rw [z] at h; injection h with h; subst h
        show 1 ≤ o.2.1 + w.1
        omega
    · rw [if_neg e] at h
      exact tot_pos (fun p hp => hb p (List.mem_cons_of_mem _ hp)) h
theorem vA_pos {a b : Vl} {v : Nat × Int} (ha : ∀ v, a = some v → 1 ≤ v.1) (hb : ∀ v, b = some v → 1 ≤ v.1) (h : vA a b = some v) : 1 ≤ v.1 := by
  cases a with
  | none => exact hb v (by rw [← h, vA_z])
  | some x => cases b with
    | none => exact ha v h
    | some y =>
      injection h with h; subst h
      have h1 := ha x rfl
      show 1 ≤ x.1 + y.1
      omega
theorem ch_ps {g : Gram} (hg : gOk g) {o : Own} (ws : List (List Nat)) : ∀ w i j, i < j → j - i ≤ w → ∀ s v, ch g o ws i j s = some v → 1 ≤ v.1
  | 0, i, j, h, hw, s, v, _ => by omega
  | w + 1, i, j, h, hw, s, v, hv => by
    have ih : ∀ a b, a < b → b - a < j - i → ∀ s v, ch g o ws a b s = some v → 1 ≤ v.1 := fun a b hab hlt => ch_ps hg ws w a b hab (by omega)
    have hbo : ∀ p ∈ bOps g o ws (ch g o ws) i j, 1 ≤ p.2.1 := fun p hp => by
      unfold bOps at hp
      rcases List.mem_append.mp hp with q | q
      · split at q
        · unfold eOps at q
          obtain ⟨E, _, q⟩ := List.mem_flatMap.mp q
          split at q
          · rw [List.mem_singleton] at q; subst q; exact Nat.le_refl 1
          · cases q
        · cases q
      · obtain ⟨m, hm, q⟩ := List.mem_flatMap.mp q
        have hm := mids_mem.mp hm
        unfold pairs at q
        obtain ⟨R, hR, q⟩ := List.mem_flatMap.mp q
        split at q
        · cases q
        · obtain ⟨x, y, u, v, s, _, _, _, _, h1, h2, _, rfl⟩ := jOps_mem q
          exact Nat.mul_le_mul (ih i m hm.1 (by omega) x u h1) (ih m j hm.2 (by omega) y v h2)
    have rk : ∀ k s v, cntC (clos g.2.1) (s / 625) ≤ k → ch g o ws i j s = some v → 1 ≤ v.1 := by
      intro k
      induction k with
      | zero =>
        intro s v hc hv
        rw [ch_cell hg o ws h] at hv
        refine vA_pos (fun v hv => tot_pos (fun p hp _ => hbo p hp) hv) (fun v hv => ?_) hv
        exfalso
        obtain ⟨p, hp, e⟩ := tot_some.mp (show (tot (singl g.2.1 o i j (ch g o ws i j)) s).isSome = true by rw [hv]; rfl)
        unfold singl at hp
        obtain ⟨R, hR, hp⟩ := List.mem_flatMap.mp hp
        split at hp
        · rename_i h1
          have := gOk_rk hg hR h1
          rw [← (sOps_in (hg.2.1 R hR) hp).2, e] at this
          omega
        · cases hp
      | succ k ihk =>
        intro s v hc hv
        rw [ch_cell hg o ws h] at hv
        refine vA_pos (fun v hv => tot_pos (fun p hp _ => hbo p hp) hv) (fun v hv => tot_pos (fun p hp e => ?_) hv) hv
        unfold singl at hp
        obtain ⟨R, hR, hp⟩ := List.mem_flatMap.mp hp
        split at hp
        · rename_i h1
          have hr := gOk_rk hg hR h1
          rw [← (sOps_in (hg.2.1 R hR) hp).2, e] at hr
          obtain ⟨x, u, t, _, hx, hu, _, rfl⟩ := sOps_mem hp
          exact ihk x u (by rw [hx]; omega) hu
        · cases hp
    exact rk 16 s v (cntC_le _ _) hv
theorem ch_pos {g : Gram} (hg : gOk g) {o : Own} (ws : List (List Nat)) {i j s : Nat} {v : Nat × Int} (h : i < j) (hv : ch g o ws i j s = some v) : 1 ≤ v.1 := ch_ps hg ws (j - i) i j h (Nat.le_refl _) s v hv
theorem smW_0 {c : Nat} {V : Nat → Vl} (hp : ∀ s v, V s = some v → 1 ≤ v.1) {L : List Nat} : smW c V L = 0 ↔ ¬ ∃ s ∈ L, s / 625 = c ∧ (V s).isSome = true := by
  unfold smW
  induction L with
  | nil => exact ⟨fun _ ⟨s, h, _⟩ => absurd h (List.not_mem_nil), fun _ => rfl⟩
  | cons a L ih =>
    rw [List.map_cons, List.sum_cons, Nat.add_eq_zero_iff, ih]
    by_cases e : a / 625 = c
    · rw [if_pos e]
      cases hv : V a with
      | none =>
        constructor
        · rintro ⟨_, h⟩ ⟨s, hs, h2⟩
          rcases List.mem_cons.mp hs with q | q
          · subst q; rw [hv] at h2; exact absurd h2.2 (by decide)
          · exact h ⟨s, q, h2⟩
        · intro h; exact ⟨rfl, fun ⟨s, hs, h2⟩ => h ⟨s, List.mem_cons_of_mem _ hs, h2⟩⟩
      | some v =>
        have := hp a v hv
        constructor
        · rintro ⟨h, _⟩
          have h' : v.1 = 0 := h
          omega
        · intro h; exact absurd ⟨a, List.mem_cons_self .., e, by rw [hv]; rfl⟩ h
    · rw [if_neg e]
      constructor
      · rintro ⟨_, h⟩ ⟨s, hs, h2⟩
        rcases List.mem_cons.mp hs with q | q
        · subst q; exact e h2.1
        · exact h ⟨s, q, h2⟩
      · intro h; exact ⟨rfl, fun ⟨s, hs, h2⟩ => h ⟨s, List.mem_cons_of_mem _ hs, h2⟩⟩
theorem tr_lc {S : St} (h : stOk S) : trT S = 0 ↔ lcS S = 1000000 := by
  unfold trT lcS
  by_cases e : S.ws = []
  · rw [if_pos e, if_pos e]; exact ⟨fun _ => rfl, fun _ => rfl⟩
  · rw [if_neg e, if_neg e]
    have hl := List.length_pos_iff.mpr e
    have hb := lcT_b (c := rtC S.g) (bV_ch h.1 S.D S.ws hl h.2.1)
    have h1 := smW_0 (c := rtC S.g) (V := ch S.g (oD []) S.ws 0 S.ws.length) (fun s v hv => ch_pos h.1 S.ws hl hv) (L := sL (ch S.g (oD []) S.ws 0 S.ws.length))
    have h2 := lcF_lt (c := rtC S.g) (V := ch S.g (oD S.D) S.ws 0 S.ws.length) (L := sL (ch S.g (oD S.D) S.ws 0 S.ws.length)) (fun s v hv => by have := bV_ch h.1 S.D S.ws hl h.2.1 s v hv; omega)
    unfold rtT lcT at *
    rw [h1]
    have h3 : (∃ s ∈ sL (ch S.g (oD []) S.ws 0 S.ws.length), s / 625 = rtC S.g ∧ (ch S.g (oD []) S.ws 0 S.ws.length s).isSome = true) ↔ lcF (rtC S.g) (ch S.g (oD S.D) S.ws 0 S.ws.length) (sL (ch S.g (oD S.D) S.ws 0 S.ws.length)) < 1000000 := by
      rw [h2, sL_ch S.g (oD []) (oD S.D)]
      constructor
      · rintro ⟨s, q1, q2, q3⟩; exact ⟨s, q1, q2, by rw [eqW_some (ch_w S.g (oD S.D) (oD []) S.ws 0 S.ws.length)]; exact q3⟩
      · rintro ⟨s, q1, q2, q3⟩; exact ⟨s, q1, q2, by rw [eqW_some (ch_w S.g (oD []) (oD S.D) S.ws 0 S.ws.length)]; exact q3⟩
    rw [h3]; omega
theorem sat_0 {n : Nat} : sat n = 0 ↔ n = 0 := by unfold sat; omega
theorem lcF_cat {c : Nat} {V : Nat → Vl} (hc : c < 16) {p : Nat} (hp : p ≤ ix V (625 * c)) : lcF c V ((sL V).take p) = 1000000 := by
  have hl := sL_le' (V := V) (s := 625 * c) (by omega)
  induction p with
  | zero => rfl
  | succ p ih => rw [lcF_snoc (by omega), if_neg (by rw [cat_eq hc (by omega)]; omega)]; exact ih (by omega)
theorem lcF_all {c : Nat} {V : Nat → Vl} (hc : c < 16) : lcT c V = lcF c V ((sL V).take (ix V (625 * (c + 1)))) := by
  have hl := sL_le' (V := V) (s := 625 * (c + 1)) (by omega)
  have hm : ∀ m, ix V (625 * (c + 1)) + m ≤ (sL V).length → lcF c V ((sL V).take (ix V (625 * (c + 1)) + m)) = lcF c V ((sL V).take (ix V (625 * (c + 1)))) := by
    intro m
    induction m with
    | zero => intro _; rw [Nat.add_zero]
    | succ m ih =>
      intro h
      rw [← Nat.add_assoc, lcF_snoc (by omega), if_neg (by rw [cat_eq hc (by omega)]; omega), ih (by omega)]
  have := hm ((sL V).length - ix V (625 * (c + 1))) (by omega)
  rw [List.take_of_length_le (by omega)] at this
  exact this
section C30
variable {l : Launch} {J : Nat → Int64} {A : Nat → Nat → Int32} {B : Nat → Nat → Int64} {Q : Option Value → XW → Prop} {d : Nat} {I : Nat → Int32} {S : St} {tgt cg fg : Value}
theorem s_leastCostX (hd : 2 ≤ d) {x y : Int32} {c k : Nat} {V : Nat → Vl} (hx : x = nI c) (hc : c < 105) (hy : y = nI k) (hk : k < 16) (hbV : bV V) (h : cX A B c V) (hr : rX A c V)
    (hQ : Q (some (.int (iC (lcT k V)))) (wC tgt cg fg I J A B)) : xK l d 14 [.ref 19, .int x, .int y] (wC tgt cg fg I J A B) Q := by
  obtain ⟨d, rfl⟩ : ∃ e, d = e + 1 := ⟨d - 1, by omega⟩
  have h60 := h.1
  have hl1 := sL_le' (V := V) (s := 625 * (k + 1)) (by omega)
  have hm := ix_mono (V := V) (show 625 * k ≤ 625 * (k + 1) by omega) (by omega)
  rw [lcF_all hk] at hQ
  have loop : ∀ m p, ix V (625 * (k + 1)) - p < m → ix V (625 * k) ≤ p → p ≤ ix V (625 * (k + 1)) → xG l d 14 Q 19 [some (.ref 19), none, none, some (.int (iC (lcF k V ((sL V).take p)))), some (.int (nI (60 * c + ix V (625 * (k + 1))))), some (.int (nI (60 * c + p)))] [] (wC tgt cg fg I J A B) 0 0 := by
    intro m
    induction m with
    | zero => intro p hm; omega
    | succ m ih =>
      intro p hm1 hp0 hp1
      refine b_X0_leastCost_19 (if_le rfl rfl (by omega) (by omega) (fun z => ?_) (fun z => ⟨xin_n (by omega) (by omega), ?_⟩))
      · rw [show p = ix V (625 * (k + 1)) by omega]; exact hQ
      · have hin := sL_in (V := V) (show p < (sL V).length by omega)
        obtain ⟨v, hv⟩ := Option.isSome_iff_exists.mp hin.2
        have hs := lcF_snoc (c := k) (V := V) (show p < (sL V).length by omega)
        rw [if_pos ((cat_eq hk (by omega)).mpr ⟨hp0, by omega⟩), hv] at hs
        have hb1 := lcF_b (c := k) hbV (sL V) p
        have hb2 := hbV _ v hv
        have hcc := (h.2.2 p (by omega)).2.2
        rw [hv] at hcc
        rw [cl_n (by omega), hcc, show cy (some v) = v.2 from rfl, iC_min (by omega) (by omega) (by omega) (by omega), nI_1]
        have := ih (p + 1) (by omega) (by omega) (by omega)
        rw [hs] at this; exact this
  refine e_X0_leastCost (s_behindLast (by omega) hx hc hy hk hr (b_X0_leastCost_9 (s_firstOf (by omega) hx hc hy hk hr (b_X0_leastCost_17 ?_))))
  have := loop _ (ix V (625 * k)) (Nat.lt_succ_self _) (Nat.le_refl _) hm
  rw [lcF_cat hk (Nat.le_refl _)] at this; exact this
theorem s_priceChart (hd : 7 ≤ d) (h : xInv S I A B) (hne : S.ws ≠ []) (hQ : ∀ (cg' : Value) (I' : Nat → Int32) (A' : Nat → Nat → Int32) (B' : Nat → Nat → Int64), (cg' = cg ∨ cg' = .ref 37) → xInv S I' A' B' → chX A' B' S.g (oD S.D) S.ws → Q none (wC tgt cg' fg I' J A' B')) : xK l d 116 [.ref 0] (wC tgt cg fg I J A B) Q := by
  obtain ⟨d, rfl⟩ : ∃ e, d = e + 1 := ⟨d - 1, by omega⟩
  have hI := h
  obtain ⟨hok, ht, h101, hg, h1402, hws, h1701, hD, hpr, hch, hnd, hout, hft⟩ := h
  refine e_X10_priceChart ?_
  by_cases c : I 1702 = 0
  · rw [if_pos c]
    refine s_fillC (g := S.g) (ws := S.ws) (D := S.D) (by omega) hok.1 hok.2.1 h1402 hD hg (fun k hk => ⟨ws_v hok hk, hws k hk⟩) (fun I5 A5 B5 hno e1 e2 e3 => absurd (okCh_o (hok.2.2.2.1 hne).2) hno) (fun I5 A5 B5 hyes hcx e1 e2 e3 => b_X10_priceChart_21 ⟨Or.inr rfl, hQ _ _ A5 B5 (Or.inr rfl) ?_ hcx⟩)
    have fI : ∀ i, i ≠ 1702 → i ≠ 1908 → upd I5 1702 1 i = I i := fun i a b => by rw [un_i a]; exact e1 i b
    refine ⟨hok, ?_, by rw [fI 101 (by decide) (by decide)]; exact h101, gC_fr hg (fun i a b => fI i (by omega) (by omega)) (fun p a b => e2 p (by omega) (by omega) (by omega) (by omega)) (fun p a b => e3 p (by omega)), by rw [fI 1402 (by decide) (by decide)]; exact h1402, fun k hk => by rw [e3 15 (by decide)]; exact hws k hk, by rw [fI 1701 (by decide) (by decide)]; exact h1701, drX_fr hD (e2 18 (by decide) (by decide) (by decide) (by decide)), Or.inr (ue_i _ _ _), fun _ => ⟨⟨S.D, hcx⟩, fun _ => hcx⟩, xNd_fr hnd (fI 2505 (by decide) (by decide)) (fun p a b => e2 p (by omega) (by omega) (by omega) (by omega)), ⟨by rw [fI 10 (by decide) (by decide)]; exact hout.1, fun k hk => by rw [e2 36 (by decide) (by decide) (by decide) (by decide)]; exact hout.2 k hk⟩, by rw [fI 11 (by decide) (by decide)]; exact hft⟩
    unfold tpX at ht ⊢
    rw [e2 2 (by decide) (by decide) (by decide) (by decide)]; exact ht
  · rw [if_neg c]
    exact hQ cg I A B (Or.inl rfl) hI ((hch hne).2 (hpr.resolve_left c))
theorem x_slips (hd : 8 ≤ d) (h : xInv S I A B) (hQ : ∀ (cg' : Value) (I' : Nat → Int32) (A' : Nat → Nat → Int32) (B' : Nat → Nat → Int64), (cg' = cg ∨ cg' = .ref 37) → xInv S I' A' B' → Q (some (.int (anSlips S))) (wC tgt cg' fg I' J A' B')) : xK l d 105 [.ref 0] (wC tgt cg fg I J A B) Q := by
  obtain ⟨d, rfl⟩ : ∃ e, d = e + 1 := ⟨d - 1, by omega⟩
  have hok := h.1
  have hsat := sat_le (trT S)
  have hlc := tr_lc hok
  refine e_X10_slips (s_treeTotal (by omega) h (b_X10_slips_4 ?_))
  unfold anSlips at hQ
  have hz : sat (trT S) = 0 ↔ lcS S = 1000000 := sat_0.trans hlc
  generalize hX : sat (trT S) = X at hsat hz ⊢
  refine if_if (lg0.trans (ln_eq (b := 0) (by omega) (by omega))) (fun z => ?_) (fun z => ?_)
  · have := hQ cg I A B (Or.inl rfl) h
    rw [if_pos (hz.mp z)] at this; exact this
  · have hnl : ¬ lcS S = 1000000 := fun q => z (hz.mpr q)
    rw [if_neg hnl] at hQ
    have hne : S.ws ≠ [] := fun q => hnl (if_pos q)
    have hl := List.length_pos_iff.mpr hne
    refine s_priceChart (by omega) h hne (fun cg' I1 A1 B1 hcg hi hcx => b_X10_slips_15 ?_)
    have h14 := hok.2.1
    have hrn : 0 < S.g.2.1.length := List.length_pos_iff.mpr (hok.2.2.2.1 hne).1
    have hrt : rtC S.g < 16 := (hok.1.2.1 _ (getD_mem hrn dR)).1
    have ha0 : A1 40 0 = nI (rtC S.g) := (hi.2.2.2.1.2.1.2.2 0 hrn).2.1
    have hc0 := hcx 0 S.ws.length hl (Nat.le_refl _)
    have h1402 : I1 1402 = nI S.ws.length := hi.2.2.2.2.1
    refine s_cellOf (i := 0) (by omega) rfl h1402 (by omega) h14 (b_X10_slips_37 (s_root (by omega) ha0 (b_X10_slips_44 (s_leastCostX (by omega) rfl (cx_lt hl h14) rfl hrt (bV_ch hok.1 S.D S.ws hl h14) hc0.1 hc0.2 (b_X10_slips_47 ?_)))))
    rw [hi.2.2.2.2.2.2.1, ← iC_n, iC_add]
    have := hQ cg' I1 A1 B1 hcg hi
    rw [show lcS S = lcT (rtC S.g) (ch S.g (oD S.D) S.ws 0 S.ws.length) from if_neg hne] at this
    exact this
end C30
