/-! ===== the class: spans, the chart ===== -/
theorem oD_B (D : List (Nat × Nat × Nat)) : oB (oD D) := fun c i j => oD_1 D c i j
theorem bOps_in {g : Gram} (hg : gOk g) {o : Own} {ws : List (List Nat)} {T : Nat → Nat → Nat → Vl} {i j : Nat} {p : Op} (h : p ∈ bOps g o ws T i j) : p.1 < 10000 := by
  unfold bOps at h
  rcases List.mem_append.mp h with q | q
  · split at q
    · unfold eOps at q
      obtain ⟨E, hE, q⟩ := List.mem_flatMap.mp q
      split at q
      · rw [List.mem_singleton] at q; subst q
        have := (hg.1 E hE).2.1; have := (hg.1 E hE).2.2
        show 625 * E.2.1 + E.2.2 < 10000; omega
      · cases q
    · cases q
  · obtain ⟨m, _, q⟩ := List.mem_flatMap.mp q
    unfold pairs at q
    obtain ⟨R, hR, q⟩ := List.mem_flatMap.mp q
    split at q
    · cases q
    · exact (jOps_in (hg.2.1 R hR) q).1
def vN : Nat → Vl := fun _ => none
theorem bV_N : bV vN := fun s v h => by cases h
theorem vK_0 (g : Gram) (o : Own) (ws : List (List Nat)) (i j : Nat) : vK g o ws i j 0 = apv vN (bOps g o ws (ch g o ws) i j) := by
  unfold vK; rw [List.take_zero]; exact apv_nil _
theorem bV_K {g : Gram} (hg : gOk g) {o : Own} (ho : oB o) {ws : List (List Nat)} {i j : Nat} (hij : i < j) (hj : j ≤ 14) (k : Nat) : bV (vK g o ws i j k) := by
  unfold vK
  refine bV_apv (bV_apv bV_N (fun p hp => by have := bOps_b hg ho hij hj hp; omega)) (fun p hp => ?_)
  obtain ⟨r, _, hp⟩ := List.mem_flatMap.mp hp
  unfold sgH at hp
  split at hp
  · have := sOps_b hg ho hij hj hp; omega
  · cases hp
section C26
variable {l : Launch} {J : Nat → Int64} {Q : Option Value → XW → Prop} {d : Nat} {tgt cg fg : Value} {I : Nat → Int32} {A : Nat → Nat → Int32} {B : Nat → Nat → Int64}
theorem s_addSingles (hd : 4 ≤ d) {i j : Nat} {g : Gram} {ws : List (List Nat)} {D : List (Nat × Nat × Nat)} (hok : gOk g) (hij : i < j) (hj : j ≤ 14) (hI : I 1908 = nI (cx i j)) (hD : drX A D) (hrs : rulC I A g.2.1) (hls : lstC I A (sgL (clos g.2.1) g.2.1)) (hV : cX A B (cx i j) (vK g (oD D) ws i j 0))
    (hE : ∀ (A' : Nat → Nat → Int32) (B' : Nat → Nat → Int64), 61 ≤ (sL (ch g (oD D) ws i j)).length → fcX (cx i j) A B A' B' → Q (some (.int 0)) (wC tgt (.ref 37) fg I J A' B'))
    (hO : ∀ (A' : Nat → Nat → Int32) (B' : Nat → Nat → Int64), cX A' B' (cx i j) (ch g (oD D) ws i j) → fcX (cx i j) A B A' B' → Q (some (.int 1)) (wC tgt (.ref 37) fg I J A' B')) : xK l d 6 [.ref 19] (wC tgt (.ref 37) fg I J A B) Q := by
  obtain ⟨d, rfl⟩ : ∃ e, d = e + 1 := ⟨d - 1, by omega⟩
  have h30 := hrs.2.1
  have hll : (sgL (clos g.2.1) g.2.1).length ≤ g.2.1.length := by
    have h1 := sgL_nd g
    have h2 : (sgL (clos g.2.1) g.2.1).length ≤ (List.range g.2.1.length).length := by
      have hs := perm_of (L' := (List.range g.2.1.length).filter fun r => decide ((g.2.1.getD r dR).2.2.1 = none)) h1 (List.Pairwise.filter _ List.nodup_range) (fun r => by rw [sgL_mem hok, List.mem_filter, List.mem_range, decide_eq_true_iff])
      rw [hs.length_eq]; exact List.length_filter_le _ _
    rwa [List.length_range] at h2
  have loop : ∀ m k (A1 : Nat → Nat → Int32) (B1 : Nat → Nat → Int64), (sgL (clos g.2.1) g.2.1).length - k < m → k ≤ (sgL (clos g.2.1) g.2.1).length → cX A1 B1 (cx i j) (vK g (oD D) ws i j k) → fcX (cx i j) A B A1 B1 → xG l d 6 Q 2 [some (.ref 19), some (.int (nI k))] [] (wC tgt (.ref 37) fg I J A1 B1) 0 0 := by
    intro m
    induction m with
    | zero => intro k A1 B1 hm; omega
    | succ m ih =>
      intro k A1 B1 hm hk hcm hfr
      refine b_X0_addSingles_2 (if_le hls.1 rfl (by omega) (by omega) (fun z => ⟨Or.inr rfl, hO A1 B1 ?_ hfr⟩) (fun z => ?_))
      · rw [vK_end hok (oD D) ws hij z] at hcm; exact hcm
      · have hm1 := (sgL_mem hok).mp (getD_mem z 0)
        have hsu := vK_succ hok (oD D) ws hij z
        have hcg : sOps (oD D) (g.2.1.getD ((sgL (clos g.2.1) g.2.1).getD k 0) dR) i j (vK g (oD D) ws i j k) = sOps (oD D) (g.2.1.getD ((sgL (clos g.2.1) g.2.1).getD k 0) dR) i j (ch g (oD D) ws i j) := sOps_cg (fun s hs => vK_at hok (oD D) ws hij z hs)
        have hRm := getD_mem hm1.1 dR
        have hRA : rulZ A1 ((sgL (clos g.2.1) g.2.1).getD k 0) (g.2.1.getD ((sgL (clos g.2.1) g.2.1).getD k 0) dR) := rulZ_fr (hrs.2.2 _ hm1.1).2 (fun p h1 h2 => hfr.1 p (by omega) (by omega) (by omega) (by omega))
        rw [cl_n (by omega), hfr.1 47 (by decide) (by decide) (by decide) (by decide), hls.2 k z]
        generalize (sgL (clos g.2.1) g.2.1).getD k 0 = r at hm1 hsu hcg hRm hRA
        have hD1 : drX A1 D := fun a b p q => by rw [hfr.1 18 (by decide) (by decide) (by decide) (by decide)]; exact hD a b p q
        refine ⟨xin_n (by omega) (by omega), s_addBySingle (R := g.2.1.getD r dR) (V := vK g (oD D) ws i j k) (by omega) rfl (by omega) hij hj hI hD1 (hok.2.1 _ hRm) hRA hm1.2 (gOk_ne hok hRm hm1.2) (bV_K hok (oD_B D) hij hj k) (fun p hp => ?_) hcm (fun A2 B2 h61 k2 => b_X0_addSingles_26 ?_) (fun A2 B2 k1 k2 => b_X0_addSingles_26 ?_)⟩
        · rw [hcg] at hp
          have := sOps_b hok (oD_B D) hij hj hp; omega
        · rw [if_pos rfl]
          rw [hsu] at h61
          exact ⟨Or.inl rfl, hE A2 B2 (Nat.le_trans h61 (sL_mono fun s hs => vK_sub hok (oD D) ws hij hs)) (fcX_trans hfr k2)⟩
        · rw [if_neg (by decide), nI_1]
          rw [hsu] at k1
          exact ih (k + 1) A2 B2 (by omega) (by omega) k1 (fcX_trans hfr k2)
  exact e_X0_addSingles (loop _ 0 A B (Nat.lt_succ_self _) (by omega) hV (fcX_refl _ A B))
set_option maxHeartbeats 1000000 in
theorem s_fillSpan (hd : 5 ≤ d) {x1 x2 : Int32} {i j : Nat} {g : Gram} {ws : List (List Nat)} {D : List (Nat × Nat × Nat)} (hx1 : x1 = nI i) (hx2 : x2 = nI j) (hok : gOk g) (hij : i < j) (hj : j ≤ 14) (hD : drX A D) (hg : gC I A B g) (hw : vNm (ws.getD i [])) (hsaid : B 15 i = lN (c32 (ws.getD i [])))
    (hT : ∀ a b, i ≤ a → a < b → b ≤ j → b - a < j - i → cX A B (cx a b) (ch g (oD D) ws a b) ∧ rX A (cx a b) (ch g (oD D) ws a b))
    (hE : ∀ (A' : Nat → Nat → Int32) (B' : Nat → Nat → Int64), 61 ≤ (sL (ch g (oD D) ws i j)).length → fcX (cx i j) A B A' B' → Q (some (.int 0)) (wC tgt (.ref 37) fg (upd I 1908 (nI (cx i j))) J A' B'))
    (hO : ∀ (A' : Nat → Nat → Int32) (B' : Nat → Nat → Int64), cX A' B' (cx i j) (ch g (oD D) ws i j) → rX A' (cx i j) (ch g (oD D) ws i j) → fcX (cx i j) A B A' B' → Q (some (.int 1)) (wC tgt (.ref 37) fg (upd I 1908 (nI (cx i j))) J A' B')) : xK l d 2 [.ref 19, .int x1, .int x2] (wC tgt (.ref 37) fg I J A B) Q := by
  obtain ⟨d, rfl⟩ : ∃ e, d = e + 1 := ⟨d - 1, by omega⟩
  subst hx1; subst hx2
  have hc := cx_lt hij hj
  refine e_X0_fillSpan (s_cellOf (by omega) rfl rfl hij hj (b_X0_fillSpan_6 ⟨xin_n hc (by omega), ?_⟩))
  rw [cl_n (a := cx i j) (by omega), cl_n (a := i) (by omega)]
  have hI1 : upd I 1908 (nI (cx i j)) 1908 = nI (cx i j) := ue_i _ _ _
  have hes : entC (upd I 1908 (nI (cx i j))) A B g.1 := ⟨by rw [un_i (by decide)]; exact hg.1.1, hg.1.2⟩
  have hrs : rulC (upd I 1908 (nI (cx i j))) A g.2.1 := ⟨by rw [un_i (by decide)]; exact hg.2.1.1, hg.2.1.2⟩
  have hls : lstC (upd I 1908 (nI (cx i j))) A (sgL (clos g.2.1) g.2.1) := ⟨by rw [un_i (by decide)]; exact hg.2.2.2.1, hg.2.2.2.2⟩
  generalize upd I 1908 (nI (cx i j)) = I1 at hI1 hes hrs hls hE hO ⊢
  -- the cell is empty
  have hf0 : fcX (cx i j) A B (va_up A 20 (upd (A 20) (cx i j) 0)) B := ⟨fun p a _ _ _ => un_v a, fun k hk => by rw [ue_v, un_i hk], fun k _ => ⟨by rw [un_v (by decide)], by rw [un_v (by decide)], rfl⟩, fun k _ => by rw [un_v (by decide)], fun _ _ => rfl⟩
  have hc0 : cX (va_up A 20 (upd (A 20) (cx i j) 0)) B (cx i j) vN := by
    have hs0 : sL vN = [] := sL_nil (fun _ => rfl)
    exact ⟨by rw [hs0]; simp, by rw [hs0, ue_v, ue_i]; rfl, fun k hk => by rw [hs0] at hk; cases hk⟩
  have a15 : B 15 i = lN (c32 (ws.getD i [])) := hsaid
  have bounds := fun {p : Op} (hp : p ∈ bOps g (oD D) ws (ch g (oD D) ws) i j) => bOps_b hok (oD_B D) hij hj hp
  generalize hEO : (if j = i + 1 then eOps g.1 (oD D) (ws.getD i []) i else []) = EO
  have hbo : bOps g (oD D) ws (ch g (oD D) ws) i j = EO ++ (mids i j).flatMap fun m => pairs g.2.1 (oD D) (ch g (oD D) ws) i j m := by unfold bOps; rw [hEO]
  rw [hbo] at bounds
  have rC : ∀ {A1 : Nat → Nat → Int32} {B1 : Nat → Nat → Int64}, fcX (cx i j) A B A1 B1 → rulC I1 A1 g.2.1 := fun f => ⟨hrs.1, hrs.2.1, fun r hr => ⟨(hrs.2.2 r hr).1, rulZ_fr (hrs.2.2 r hr).2 (fun p h1 h2 => f.1 p (by omega) (by omega) (by omega) (by omega))⟩⟩
  have dC : ∀ {A1 : Nat → Nat → Int32} {B1 : Nat → Nat → Int64}, fcX (cx i j) A B A1 B1 → drX A1 D := fun f a b p q => by rw [f.1 18 (by decide) (by decide) (by decide) (by decide)]; exact hD a b p q
  -- more than sixty
  have over : ∀ {L : List Op}, (∀ p ∈ L, p ∈ bOps g (oD D) ws (ch g (oD D) ws) i j) → 61 ≤ (sL (apv vN L)).length → 61 ≤ (sL (ch g (oD D) ws i j)).length := fun hL h => by
    refine Nat.le_trans h (sL_mono fun s hs => vK_sub hok (oD D) ws hij (k := 0) ?_)
    rw [vK_0]; exact apv_sub hL hs
  have rng : ∀ (A1 : Nat → Nat → Int32) (B1 : Nat → Nat → Int64), cX A1 B1 (cx i j) (ch g (oD D) ws i j) → fcX (cx i j) A B A1 B1 → xK l d 10 [.ref 19] (wC tgt (.ref 37) fg I1 J A1 B1) (fun v9 w9 => xG l d 2 Q 103 [none, none, none, none] (v9.toList ++ []) w9 0 0) := by
    intro A1 B1 k1 k2
    refine s_setRanges (by omega) hI1 hc k1 (fun A2 hr hA hA2 => b_X0_fillSpan_103 ⟨Or.inr rfl, hO A2 B1 ?_ hr (fcX_trans k2 ⟨fun p _ _ _ a => hA p a, fun k _ => by rw [hA 20 (by decide)], fun k _ => ⟨by rw [hA 21 (by decide)], by rw [hA 23 (by decide)], rfl⟩, hA2, fun _ _ => rfl⟩)⟩)
    unfold cX at k1 ⊢
    rw [hA 20 (by decide), hA 21 (by decide), hA 23 (by decide)]; exact k1
  have hml : (mids i j).length = j - 1 - i := by unfold mids; rw [List.length_range']
  have loop : ∀ m t (A1 : Nat → Nat → Int32) (B1 : Nat → Nat → Int64), (j - 1 - i) - t < m → t ≤ j - 1 - i → cX A1 B1 (cx i j) (apv vN (EO ++ ((mids i j).take t).flatMap fun m => pairs g.2.1 (oD D) (ch g (oD D) ws) i j m)) → fcX (cx i j) A B A1 B1 → xG l d 2 Q 48 [some (.ref 19), some (.int (nI i)), some (.int (nI j)), some (.int (nI (i + 1 + t)))] [] (wC tgt (.ref 37) fg I1 J A1 B1) 0 0 := by
    intro m
    induction m with
    | zero => intro t A1 B1 hm; omega
    | succ m ih =>
      intro t A1 B1 hm ht hcm hfr
      refine b_X0_fillSpan_48 (if_le rfl rfl (by omega) (by omega) (fun z => ⟨xin_of hI1 hc (by omega), ?_⟩) (fun z => ?_))
      · rw [List.take_of_length_le (by omega), ← hbo, ← vK_0] at hcm
        rw [cl_of hI1 (by omega), hcm.2.1]
        have h60 := hcm.1
        have go : xK l d 6 [.ref 19] (wC tgt (.ref 37) fg I1 J A1 B1) (fun v9 w9 => xG l d 2 Q 94 [some (.ref 19), none, none, none] (v9.toList ++ []) w9 0 0) := by
          refine s_addSingles (ws := ws) (by omega) hok hij hj hI1 (dC hfr) (rC hfr) ⟨hls.1, fun k hk => by rw [hfr.1 47 (by decide) (by decide) (by decide) (by decide)]; exact hls.2 k hk⟩ hcm (fun A2 B2 h61 k2 => b_X0_fillSpan_94 ?_) (fun A2 B2 k1 k2 => b_X0_fillSpan_94 ?_)
          · rw [if_pos rfl]; exact ⟨Or.inl rfl, hE A2 B2 h61 (fcX_trans hfr k2)⟩
          · rw [if_neg (by decide)]; exact rng A2 B2 k1 (fcX_trans hfr k2)
        have skip : (sL (vK g (oD D) ws i j 0)).length = 0 → xK l d 10 [.ref 19] (wC tgt (.ref 37) fg I1 J A1 B1) (fun v9 w9 => xG l d 2 Q 103 [none, none, none, none] (v9.toList ++ []) w9 0 0) := fun h0 => by
          refine rng A1 B1 ?_ hfr
          have hs0 := List.length_eq_zero_iff.mp h0
          rw [vK_0] at hs0
          have hn := ch_none (oD D) ws hij hs0 (fun p hp => bOps_in hok hp)
          have hs1 : sL (ch g (oD D) ws i j) = [] := sL_nil hn
          refine ⟨by rw [hs1]; simp, ?_, fun k hk => by rw [hs1] at hk; cases hk⟩
          rw [hs1, hcm.2.1, h0]; rfl
        generalize (sL (vK g (oD D) ws i j 0)).length = n0 at h60 skip
        exact if_le (a := n0) rfl (b := 0) rfl (by omega) (by omega) (fun q => skip (by omega)) (fun _ => go)
      · have hlen : t < (mids i j).length := by omega
        have hgd : (mids i j).getD t 0 = i + 1 + t := by
          show (List.range' (i + 1) (j - 1 - i)).getD t 0 = _
          rw [gD_lt (by rw [List.length_range']; omega), List.getElem_range']; omega
        have hsnt := fm_snoc (F := fun m => pairs g.2.1 (oD D) (ch g (oD D) ws) i j m) 0 hlen
        rw [hgd] at hsnt
        have hT1 := hT i (i + 1 + t) (by omega) (by omega) (by omega) (by omega)
        have hT2 := hT (i + 1 + t) j (by omega) (by omega) (by omega) (by omega)
        have hac : cx i (i + 1 + t) ≠ cx i j := fun e => by have := cx_inj (show i < i + 1 + t by omega) hij e; omega
        have hbc : cx (i + 1 + t) j ≠ cx i j := fun e => by have := cx_inj (show i + 1 + t < j by omega) hij e; omega
        refine s_cellOf (by omega) rfl rfl (by omega) (by omega) (b_X0_fillSpan_59 (s_cellOf (by omega) rfl rfl (by omega) hj (b_X0_fillSpan_64 ?_)))
        refine s_addPairs (T := ch g (oD D) ws) (rs := g.2.1) (by omega) rfl rfl (by omega) (by omega) hj hI1 (dC hfr) (rC hfr) (cX_fr hT1.1 hfr hac) (cX_fr hT2.1 hfr hbc) (rX_fr hT1.2 hfr hac) (rX_fr hT2.2 hfr hbc) (bV_apv bV_N (fun p hp => ?_)) (fun p hp => ?_) hcm (fun A2 B2 h61 k2 => b_X0_fillSpan_67 ?_) (fun A2 B2 k1 k2 => b_X0_fillSpan_67 ?_)
        · have := bounds (p := p) (by
            rcases List.mem_append.mp hp with q | q
            · exact List.mem_append.mpr (Or.inl q)
            · exact List.mem_append.mpr (Or.inr (fm_take q)))
          omega
        · have := bounds (p := p) (List.mem_append.mpr (Or.inr (fm_at 0 hlen (by rw [hgd]; exact hp))))
          omega
        · rw [if_pos rfl]
          rw [apv_app] at h61
          refine ⟨Or.inl rfl, hE A2 B2 (over (fun p hp => ?_) h61) (fcX_trans hfr k2)⟩
          rw [hbo]
          rcases List.mem_append.mp hp with q | q
          · rcases List.mem_append.mp q with q | q
            · exact List.mem_append.mpr (Or.inl q)
            · exact List.mem_append.mpr (Or.inr (fm_take q))
          · exact List.mem_append.mpr (Or.inr (fm_at 0 hlen (by rw [hgd]; exact q)))
        · rw [if_neg (by decide), nI_1]
          refine ih (t + 1) A2 B2 (by omega) (by omega) ?_ (fcX_trans hfr k2)
          rw [hsnt, ← List.append_assoc, ← apv_app]; exact k1
  refine if_eq (b := i + 1) rfl (nI_1 i) (by omega) (by omega) (fun e => ⟨xin_n (by omega) (by omega), ?_⟩) (fun e => ?_)
  · subst e
    rw [if_pos rfl] at hEO
    refine s_addEntries (es := g.1) (w := ws.getD i []) (V := vN) (by omega) (dC hf0) (by omega) hI1 ⟨hes.1, hes.2.1, fun e he => by rw [un_v (by decide)]; exact hes.2.2 e he⟩ hw a15 bV_N hc0 (fun A2 B2 h61 k2 => b_X0_fillSpan_39 ?_) (fun A2 B2 k1 k2 => b_X0_fillSpan_39 ?_)
    · rw [if_pos rfl]
      refine ⟨Or.inl rfl, hE A2 B2 (over (fun p hp => ?_) h61) (fcX_trans hf0 k2)⟩
      rw [hbo, ← hEO]; exact List.mem_append.mpr (Or.inl hp)
    · rw [if_neg (by decide), nI_1]
      exact loop _ 0 A2 B2 (Nat.lt_succ_self _) (by omega) (by rw [← hEO]; simpa using k1) (fcX_trans hf0 k2)
  · rw [if_neg e] at hEO
    rw [nI_1]
    exact loop _ 0 _ B (Nat.lt_succ_self _) (by omega) (by rw [← hEO]; simpa [apv_nil] using hc0) hf0
/-- the chart as the class holds it -/
def chX (A : Nat → Nat → Int32) (B : Nat → Nat → Int64) (g : Gram) (o : Own) (ws : List (List Nat)) : Prop := ∀ i j, i < j → j ≤ ws.length → cX A B (cx i j) (ch g o ws i j) ∧ rX A (cx i j) (ch g o ws i j)
theorem s_fillC (hd : 6 ≤ d) {g : Gram} {ws : List (List Nat)} {D : List (Nat × Nat × Nat)} (hok : gOk g) (hl : ws.length ≤ 14) (h1402 : I 1402 = nI ws.length) (hD : drX A D) (hg : gC I A B g) (hws : ∀ k, k < ws.length → vNm (ws.getD k []) ∧ B 15 k = lN (c32 (ws.getD k [])))
    (hE : ∀ (I' : Nat → Int32) (A' : Nat → Nat → Int32) (B' : Nat → Nat → Int64), ¬ okCh g (oD D) ws → (∀ i, i ≠ 1908 → I' i = I i) → (∀ p, p ≠ 20 → p ≠ 21 → p ≠ 23 → p ≠ 24 → A' p = A p) → (∀ p, p ≠ 22 → B' p = B p) → Q (some (.int 0)) (wC tgt (.ref 37) fg I' J A' B'))
    (hO : ∀ (I' : Nat → Int32) (A' : Nat → Nat → Int32) (B' : Nat → Nat → Int64), okCh g (oD D) ws → chX A' B' g (oD D) ws → (∀ i, i ≠ 1908 → I' i = I i) → (∀ p, p ≠ 20 → p ≠ 21 → p ≠ 23 → p ≠ 24 → A' p = A p) → (∀ p, p ≠ 22 → B' p = B p) → Q (some (.int 1)) (wC tgt (.ref 37) fg I' J A' B')) : xK l d 1 [.ref 19, .ref 37] (wC tgt cg fg I J A B) Q := by
  obtain ⟨d, rfl⟩ : ∃ e, d = e + 1 := ⟨d - 1, by omega⟩
  let fr : (Nat → Int32) → (Nat → Nat → Int32) → (Nat → Nat → Int64) → Prop := fun I' A' B' => (∀ i, i ≠ 1908 → I' i = I i) ∧ (∀ p, p ≠ 20 → p ≠ 21 → p ≠ 23 → p ≠ 24 → A' p = A p) ∧ (∀ p, p ≠ 22 → B' p = B p)
  let dn : (Nat → Nat → Int32) → (Nat → Nat → Int64) → Nat → Nat → Prop := fun A' B' w i => ∀ a b, a < b → b ≤ ws.length → (b - a < w ∨ (b - a = w ∧ a < i)) → cX A' B' (cx a b) (ch g (oD D) ws a b) ∧ rX A' (cx a b) (ch g (oD D) ws a b)
  have gk : ∀ {I' A' B'}, fr I' A' B' → gC I' A' B' g := fun {I' A' B'} f => by
    obtain ⟨h1, h2, h3, h4⟩ := hg
    refine ⟨⟨by rw [f.1 3710 (by decide)]; exact h1.1, h1.2.1, fun e he => ?_⟩, ⟨by rw [f.1 3711 (by decide)]; exact h2.1, h2.2.1, fun r hr => ⟨(h2.2.2 r hr).1, rulZ_fr (h2.2.2 r hr).2 (fun p a b => f.2.1 p (by omega) (by omega) (by omega) (by omega))⟩⟩, ⟨by rw [f.1 3712 (by decide)]; exact h3.1, h3.2.1, fun c hc => ?_⟩, ⟨by rw [f.1 3713 (by decide)]; exact h4.1, fun k hk => ?_⟩⟩
    · rw [f.2.2 38 (by decide), f.2.1 39 (by decide) (by decide) (by decide) (by decide)]; exact h1.2.2 e he
    · rw [f.2.2 45 (by decide)]; exact h3.2.2 c hc
    · rw [f.2.1 47 (by decide) (by decide) (by decide) (by decide)]; exact h4.2 k hk
  have widths : ∀ m w (I' : Nat → Int32) (A' : Nat → Nat → Int32) (B' : Nat → Nat → Int64), ws.length + 1 - w < m → 1 ≤ w → w ≤ ws.length + 1 → fr I' A' B' → dn A' B' w 0 → xG l d 1 Q 7 [some (.ref 19), none, some (.int (nI w)), none] [] (wC tgt (.ref 37) fg I' J A' B') 0 0 := by
    intro m
    induction m with
    | zero => intro w I' A' B' hm; omega
    | succ m ih =>
      intro w I' A' B' hm hw1 hwl hf hdn
      refine b_X0_fill_7 (if_lt (by rw [hf.1 1402 (by decide)]; exact h1402) rfl (by omega) (by omega) (fun z => ⟨Or.inr rfl, ?_⟩) (fun z => ?_))
      · exact hO I' A' B' (fun i j a b => ((hdn i j a b (by omega)).1).1) (fun i j a b => hdn i j a b (by omega)) hf.1 hf.2.1 hf.2.2
      · have cols : ∀ m2 i (I' : Nat → Int32) (A' : Nat → Nat → Int32) (B' : Nat → Nat → Int64), ws.length - i < m2 → i ≤ ws.length → i + w ≤ ws.length + 1 → fr I' A' B' → dn A' B' w i → xG l d 1 Q 20 [some (.ref 19), none, some (.int (nI w)), some (.int (nI i))] [] (wC tgt (.ref 37) fg I' J A' B') 0 0 := by
          intro m2
          induction m2 with
          | zero => intro i I' A' B' hm2; omega
          | succ m2 ih2 =>
            intro i I' A' B' hm2 hi hiw hf hdn
            refine b_X0_fill_20 (if_lt (by rw [hf.1 1402 (by decide)]; exact h1402) (add_of rfl rfl) (by omega) (by omega) (fun y => ?_) (fun y => ?_))
            · rw [nI_1]
              exact ih (w + 1) I' A' B' (by omega) (by omega) (by omega) hf (fun a b p q r => hdn a b p q (by omega))
            · have hD1 : drX A' D := fun a b p q => by rw [hf.2.1 18 (by decide) (by decide) (by decide) (by decide)]; exact hD a b p q
              have hwi := hws i (by omega)
              have fst : ∀ {A2 : Nat → Nat → Int32} {B2 : Nat → Nat → Int64}, fcX (cx i (i + w)) A' B' A2 B2 → fr (upd I' 1908 (nI (cx i (i + w)))) A2 B2 := fun k => ⟨fun x hx => by rw [un_i hx]; exact hf.1 x hx, fun p a b c e => (k.1 p a b c e).trans (hf.2.1 p a b c e), fun p a => (k.2.2.2.2 p a).trans (hf.2.2 p a)⟩
              refine s_fillSpan (g := g) (ws := ws) (by omega) rfl (add_of rfl rfl) hok (by omega) (by omega) hD1 (gk hf) hwi.1 (by rw [hf.2.2 15 (by decide)]; exact hwi.2) (fun a b p q r s => hdn a b q (by omega) (by omega)) (fun A2 B2 h61 k2 => b_X0_fill_41 ?_) (fun A2 B2 k1 kr k2 => b_X0_fill_41 ?_)
              · rw [if_pos rfl]
                have := fst k2
                exact ⟨Or.inl rfl, hE _ A2 B2 (fun q => by have := q i (i + w) (by omega) (by omega); omega) this.1 this.2.1 this.2.2⟩
              · rw [if_neg (by decide), nI_1]
                refine ih2 (i + 1) _ A2 B2 (by omega) (by omega) (by omega) (fst k2) (fun a b p q r => ?_)
                by_cases e : a = i ∧ b = i + w
                · rw [e.1, e.2]; exact ⟨k1, kr⟩
                · have hne : cx a b ≠ cx i (i + w) := fun z => e (cx_inj p (by omega) z)
                  have := hdn a b p q (by omega)
                  exact ⟨cX_fr this.1 k2 hne, rX_fr this.2 k2 hne⟩
        exact cols _ 0 I' A' B' (Nat.lt_succ_self _) (by omega) (by omega) hf hdn
  exact e_X0_fill (widths _ 1 I A B (Nat.lt_succ_self _) (by omega) (by omega) ⟨fun _ _ => rfl, fun _ _ _ _ _ => rfl, fun _ _ => rfl⟩ (fun a b p q r => by omega))
end C26
