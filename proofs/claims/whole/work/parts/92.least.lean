/-! ===== the least cost; slips, both sides ===== -/
def lcF (c : Nat) (V : Nat → Vl) (L : List Nat) : Int := L.foldl (fun b s => if s / 625 = c then min b (dc (V s)) else b) 1000000
def lcT (c : Nat) (V : Nat → Vl) : Int := lcF c V (sL V)
theorem lcF_snoc {c : Nat} {V : Nat → Vl} {L : List Nat} {p : Nat} (h : p < L.length) : lcF c V (L.take (p + 1)) = if L.getD p 0 / 625 = c then min (lcF c V (L.take p)) (dc (V (L.getD p 0))) else lcF c V (L.take p) := by
  unfold lcF; rw [take_snoc L 0 h, List.foldl_append]; rfl
theorem lcF_b {c : Nat} {V : Nat → Vl} (hV : bV V) (L : List Nat) : ∀ p, -100000 ≤ lcF c V (L.take p) ∧ lcF c V (L.take p) ≤ 1000000
  | 0 => by rw [List.take_zero]; show -100000 ≤ (1000000 : Int) ∧ (1000000 : Int) ≤ 1000000; omega
  | p + 1 => by
    have ih := lcF_b hV L (c := c) p
    by_cases h : p < L.length
    · rw [lcF_snoc h]
      have := dc_b hV (L.getD p 0)
      split
      · omega
      · exact ih
    · rw [List.take_of_length_le (by omega)] at ih ⊢; exact ih
theorem lcT_b {c : Nat} {V : Nat → Vl} (hV : bV V) : -100000 ≤ lcT c V ∧ lcT c V ≤ 1000000 := by
  have := lcF_b (c := c) hV (sL V) (sL V).length
  rw [List.take_of_length_le (Nat.le_refl _)] at this; exact this
theorem bV_ch {g : Gram} (hg : gOk g) (D : List (Nat × Nat × Nat)) (ws : List (List Nat)) {i j : Nat} (h : i < j) (hj : j ≤ 14) : bV (ch g (oD D) ws i j) := fun s v hv => by have := ch_b hg (oD_B D) ws h hj s v hv; omega
/-- the least cost is below 10^6 just where there is a tree -/
theorem lcF_lt {c : Nat} {V : Nat → Vl} {L : List Nat} (hV : ∀ s v, V s = some v → v.2 < 1000000) : lcF c V L < 1000000 ↔ ∃ s ∈ L, s / 625 = c ∧ (V s).isSome = true := by
  unfold lcF
  have gen : ∀ (L : List Nat) (b : Int), b ≤ 1000000 → (L.foldl (fun b s => if s / 625 = c then min b (dc (V s)) else b) b < 1000000 ↔ (b < 1000000 ∨ ∃ s ∈ L, s / 625 = c ∧ (V s).isSome = true)) := by
    intro L
    induction L with
    | nil => intro b hb; exact ⟨fun h => Or.inl h, fun h => h.elim id (fun ⟨s, h, _⟩ => absurd h (List.not_mem_nil))⟩
    | cons a L ih =>
      intro b hb
      rw [List.foldl_cons, ih]
      · by_cases e : a / 625 = c
        · rw [if_pos e]
          cases hv : V a with
          | none =>
            rw [show min b (dc none) = b by show min b 1000000 = b; omega]
            constructor
            · rintro (h | ⟨s, hs, h⟩)
              · exact Or.inl h
              · exact Or.inr ⟨s, List.mem_cons_of_mem _ hs, h⟩
            · rintro (h | ⟨s, hs, h⟩)
              · exact Or.inl h
              · rcases List.mem_cons.mp hs with q | q
                · subst q; rw [hv] at h; exact absurd h.2 (by decide)
                · exact Or.inr ⟨s, q, h⟩
          | some v =>
            have := hV a v hv
            refine ⟨fun _ => Or.inr ⟨a, List.mem_cons_self .., e, by rw [hv]; rfl⟩, fun _ => Or.inl ?_⟩
            show min b v.2 < 1000000; omega
        · rw [if_neg e]
          constructor
          · rintro (h | ⟨s, hs, h⟩)
            · exact Or.inl h
            · exact Or.inr ⟨s, List.mem_cons_of_mem _ hs, h⟩
          · rintro (h | ⟨s, hs, h⟩)
            · exact Or.inl h
            · rcases List.mem_cons.mp hs with q | q
              · subst q; exact absurd h.1 e
              · exact Or.inr ⟨s, q, h⟩
      · split
        · omega
        · exact hb
  rw [gen L 1000000 (Int.le_refl _)]
  exact ⟨fun h => h.elim (fun h => absurd h (by omega)) id, Or.inr⟩
theorem fOps_b {g : Gram} (hg : gOk g) {D : List (Nat × Nat × Nat)} {ws : List (List Nat)} {i j cc : Nat} (hij : i < j) (hj : j ≤ 14) {W : Nat → Vl} (hW : ∀ R ∈ g.2.1, R.2.2.1 = none → R.1 = cc → ∀ s, s / 625 = R.2.1 → W s = ch g (oD D) ws i j s) {p : Op} (hp : p ∈ fOps g (oD D) ws (ch g (oD D) ws) i j cc W) : -100000 ≤ p.2.2 ∧ p.2.2 ≤ 100000 := by
  unfold fOps at hp
  rcases List.mem_append.mp hp with q | q
  · unfold eO at q
    split at q
    · obtain ⟨E, _, q⟩ := List.mem_flatMap.mp q
      unfold eF at q
      split at q
      · split at q
        · rw [List.mem_singleton] at q; subst q
          have := oD_1 D E.2.1 i (i + 1)
          show -100000 ≤ oD D E.2.1 i (i + 1) ∧ oD D E.2.1 i (i + 1) ≤ 100000
          omega
        · cases q
      · cases q
    · cases q
  · obtain ⟨R, hR, q⟩ := List.mem_flatMap.mp q
    unfold rF at q
    split at q
    · rename_i e
      split at q
      · rename_i e2
        rw [sOps_cg (hW R hR e2 e)] at q
        have := sOps_b hg (oD_B D) hij hj q; omega
      · rename_i e2
        have hb : p ∈ bOps g (oD D) ws (ch g (oD D) ws) i j := by
          unfold bOps
          obtain ⟨m, hm, q⟩ := List.mem_flatMap.mp q
          refine List.mem_append.mpr (Or.inr (List.mem_flatMap.mpr ⟨m, hm, ?_⟩))
          unfold pairs
          exact List.mem_flatMap.mpr ⟨R, hR, by rw [if_neg e2]; exact q⟩
        have := bOps_b hg (oD_B D) hij hj hb; omega
    · cases q
/-- every cell's costs -/
def knM (A : Nat → Nat → Int32) (g : Gram) (D : List (Nat × Nat × Nat)) (ws : List (List Nat)) : Prop := ∀ i j, i < j → j ≤ ws.length → kM A (15 * i + j) (ch g (oD D) ws i j) (ch g (oD D) ws i j)
def lcS (S : St) : Int := if S.ws = [] then 1000000 else lcT (rtC S.g) (ch S.g (oD S.D) S.ws 0 S.ws.length)
section M22
variable {l : Launch} {J : Nat → Int64} {A : Nat → Nat → Int32} {B : Nat → Nat → Int64} {Q : Option Value → XW → Prop} {d : Nat} {I : Nat → Int32} {S : St} {tgt cg fg : Value}
theorem mInv_A {A' : Nat → Nat → Int32} (h : mInv S I A B) (hA : ∀ p, p ≠ 14 → p ≠ 19 → A' p = A p) : mInv S I A' B := by
  refine mInv_t (t := S.t) (n := S.n) h ?_ h.2.2.1 (fun _ _ => rfl) (fun p hp => hA p (by unfold nA_m at hp; omega) (by unfold nA_m at hp; omega)) (fun _ _ => rfl)
  have := h.2.1
  unfold tpM at this ⊢
  rw [hA 1 (by decide) (by decide)]; exact this
set_option maxHeartbeats 1000000 in
theorem s_leastCost (hd : 6 ≤ d) (h : mInv S I A B)
    (hQ : ∀ A' : Nat → Nat → Int32, mInv S I A' B → knM A' S.g S.D S.ws → Q (some (.int (iC (lcS S)))) (wM I J A' B)) : xK l d 179 [.ref 0] (wM I J A B) Q := by
  obtain ⟨d, rfl⟩ : ∃ e, d = e + 1 := ⟨d - 1, by omega⟩
  have hI := h
  obtain ⟨hok, ht, h2, hg, h28, h32, hws, hdr, hch, hnd, hout, hft⟩ := h
  have h14 := hok.2.1
  have h40 := hok.2.2.2.2.1
  have h16 := hok.1.2.2.1
  refine e_X11_leastCost (if_eq h32 (b := 0) rfl (by omega) (by omega) (fun z => ?_) (fun z => ?_))
  · have e : S.ws = [] := List.length_eq_zero_iff.mp z
    have := hQ A hI (fun i j a b => by rw [e] at b; simp at b; omega)
    rw [show lcS S = 1000000 from if_pos e] at this; exact this
  have hne : S.ws ≠ [] := fun q => z (by rw [q]; rfl)
  have hcM : ∀ {A' : Nat → Nat → Int32}, (∀ p, p ≠ 14 → p ≠ 19 → A' p = A p) → chM A' B S.g (oD S.D) S.ws := fun f => chM_o (chM_fr (hch hne) (f 17 (by decide) (by decide)) (f 18 (by decide) (by decide)) rfl)
  have hl60 : ∀ i j, i < j → j ≤ S.ws.length → (sL (ch S.g (oD S.D) S.ws i j)).length ≤ 60 := fun i j a b => (okCh_o (o' := oD S.D) (hok.2.2.2.1 hne).2) i j a b
  let dn : (Nat → Nat → Int32) → Nat → Nat → Prop := fun A' w i => ∀ a b, a < b → b ≤ S.ws.length → (b - a < w ∨ (b - a = w ∧ a < i)) → kM A' (15 * a + b) (ch S.g (oD S.D) S.ws a b) (ch S.g (oD S.D) S.ws a b)
  -- the root
  have fin : ∀ A' : Nat → Nat → Int32, (∀ p, p ≠ 14 → p ≠ 19 → A' p = A p) → knM A' S.g S.D S.ws → ∀ m k, (sL (ch S.g (oD S.D) S.ws 0 S.ws.length)).length - k < m → k ≤ (sL (ch S.g (oD S.D) S.ws 0 S.ws.length)).length → xG l d 179 Q 136 [some (.ref 0), some (.int (iC (lcF (rtC S.g) (ch S.g (oD S.D) S.ws 0 S.ws.length) ((sL (ch S.g (oD S.D) S.ws 0 S.ws.length)).take k)))), some (.int (nI S.ws.length)), some (.int (nI k)), none] [] (wM I J A' B) 0 0 := by
    intro A' hA hkn
    have hrn : 0 < S.g.2.1.length := List.length_pos_iff.mpr (hok.2.2.2.1 hne).1
    have hrt : rtC S.g < 16 := (hok.1.2.1 _ (getD_mem hrn dR)).1
    have h6 : A' 6 0 = nI (rtC S.g) := by rw [hA 6 (by decide) (by decide)]; exact (hg.2.2.2.2.1.2 0 hrn).2.1
    have hc0 := hcM hA 0 S.ws.length (by omega) (Nat.le_refl _)
    have hk0 := hkn 0 S.ws.length (by omega) (Nat.le_refl _)
    have hbV := bV_ch hok.1 S.D S.ws (show 0 < S.ws.length by omega) h14
    rw [show 15 * 0 + S.ws.length = S.ws.length by omega] at hc0 hk0
    have hq := hQ A' (mInv_A hI hA) hkn
    rw [show lcS S = lcT (rtC S.g) (ch S.g (oD S.D) S.ws 0 S.ws.length) from if_neg hne] at hq
    unfold lcT at hq
    generalize ch S.g (oD S.D) S.ws 0 S.ws.length = V at hc0 hk0 hbV hq
    have l60 := hc0.1
    intro m
    induction m with
    | zero => intro k hm; omega
    | succ m ih =>
      intro k hm hk
      refine b_X11_leastCost_136 ⟨xin_n (by omega) (by omega), if_le (a := (sL V).length) (by rw [cl_n (by omega)]; exact hc0.2.1) rfl (by omega) (by omega) (fun z => ?_) (fun z => ?_)⟩
      · rw [List.take_of_length_le z]; exact hq
      · have hin := sL_in z
        have hs := lcF_snoc (c := rtC S.g) (V := V) z
        have hb1 := lcF_b (c := rtC S.g) hbV (sL V) k
        have hb2 := dc_b hbV ((sL V).getD k 0)
        rw [show (64 : Int32) * nI S.ws.length + nI k = nI (64 * S.ws.length + k) from add_of (mul_of (a := 64) rfl rfl) rfl, cl_n (by omega), (hc0.2.2 k z).1]
        refine ⟨xin_n (by omega) (by omega), s_categoryOfM (by omega) rfl hin.1 (b_X11_leastCost_160 ⟨by decide, ?_⟩)⟩
        rw [show A' 6 ((0 : Int32)).toNatClampNeg = nI (rtC S.g) from h6, show (64 : Int32) * nI S.ws.length + nI k = nI (64 * S.ws.length + k) from add_of (mul_of (a := 64) rfl rfl) rfl, cl_n (by omega), hk0 k z]
        refine if_eq rfl rfl (by omega) (by omega) (fun e => ⟨xin_n (by omega) (by omega), if_if (iC_le (by omega) (by omega) (by omega) (by omega)) (fun q => ?_) (fun q => ⟨xin_n (by omega) (by omega), ?_⟩)⟩) (fun e => ?_)
        · rw [if_pos e] at hs
          have := ih (k + 1) (by omega) (by omega)
          rw [hs, show min (lcF (rtC S.g) V ((sL V).take k)) (dc (V ((sL V).getD k 0))) = lcF (rtC S.g) V ((sL V).take k) by omega] at this
          rw [nI_1]; exact this
        · rw [if_pos e] at hs
          have := ih (k + 1) (by omega) (by omega)
          rw [hs, show min (lcF (rtC S.g) V ((sL V).take k)) (dc (V ((sL V).getD k 0))) = dc (V ((sL V).getD k 0)) by omega] at this
          rw [nI_1]; exact this
        · rw [if_neg e] at hs
          have := ih (k + 1) (by omega) (by omega)
          rw [hs] at this
          rw [nI_1]; exact this
  have widths : ∀ m w (A' : Nat → Nat → Int32), S.ws.length + 1 - w < m → 1 ≤ w → w ≤ S.ws.length + 1 → (∀ p, p ≠ 14 → p ≠ 19 → A' p = A p) → dn A' w 0 → xG l d 179 Q 13 [some (.ref 0), some (.int (nI w)), none, none, none] [] (wM I J A' B) 0 0 := by
    intro m
    induction m with
    | zero => intro w A' hm; omega
    | succ m ih =>
      intro w A' hm hw1 hwl hf hdn
      refine b_X11_leastCost_13 (if_lt h32 rfl (by omega) (by omega) (fun z => ?_) (fun z => ?_))
      · rw [h32]
        refine s_cell (i := 0) (by omega) rfl rfl (b_X11_leastCost_133 ?_)
        rw [show 15 * 0 + S.ws.length = S.ws.length by omega]
        have := fin A' hf (fun i j a b => hdn i j a b (by omega)) _ 0 (Nat.lt_succ_self _) (by omega)
        rw [List.take_zero] at this; exact this
      · have cols : ∀ m2 i (A' : Nat → Nat → Int32), S.ws.length - i < m2 → i ≤ S.ws.length → i + w ≤ S.ws.length + 1 → (∀ p, p ≠ 14 → p ≠ 19 → A' p = A p) → dn A' w i → xG l d 179 Q 23 [some (.ref 0), some (.int (nI w)), some (.int (nI i)), none, none] [] (wM I J A' B) 0 0 := by
          intro m2
          induction m2 with
          | zero => intro i A' hm2; omega
          | succ m2 ih2 =>
            intro i A' hm2 hi hiw hf hdn
            refine b_X11_leastCost_23 (if_lt h32 (add_of rfl rfl) (by omega) (by omega) (fun y => ?_) (fun y => ?_))
            · rw [nI_1]
              exact ih (w + 1) A' (by omega) (by omega) (by omega) hf (fun a b p q r => hdn a b p q (by omega))
            · refine s_cell (by omega) rfl (add_of rfl rfl) (b_X11_leastCost_40 ?_)
              have hVc := hl60 i (i + w) (by omega) (by omega)
              have cats : ∀ m3 k (A' : Nat → Nat → Int32), S.g.2.2.length - k < m3 → k ≤ S.g.2.2.length → (∀ p, p ≠ 14 → p ≠ 19 → A' p = A p) → dn A' w i → kM A' (15 * i + (i + w)) (ch S.g (oD S.D) S.ws i (i + w)) (vS ((ordL (clos S.g.2.1) S.g.2.2.length).take k) (ch S.g (oD S.D) S.ws i (i + w))) → xG l d 179 Q 79 [some (.ref 0), some (.int (nI w)), some (.int (nI i)), none, some (.int (nI k))] [] (wM I J A' B) 0 0 := by
                intro m3
                induction m3 with
                | zero => intro k A' hm3; omega
                | succ m3 ih3 =>
                  intro k A' hm3 hk hf hdn hcm
                  have hol : (ordL (clos S.g.2.1) S.g.2.2.length).length = S.g.2.2.length := ordL_len
                  refine b_X11_leastCost_79 (if_le hg.2.2.1 rfl (by omega) (by omega) (fun x => ?_) (fun x => ?_))
                  · rw [nI_1]
                    refine ih2 (i + 1) A' (by omega) (by omega) (by omega) hf (fun a b p q r => ?_)
                    by_cases e : a = i ∧ b = i + w
                    · rw [e.1, e.2]
                      rw [List.take_of_length_le (by omega), vS_all hok.1 (oD S.D) S.ws (by omega)] at hcm; exact hcm
                    · exact hdn a b p q (by omega)
                  · have hord : A' 13 k = nI ((ordL (clos S.g.2.1) S.g.2.2.length).getD k 0) := by
                      rw [hf 13 (by decide) (by decide)]; exact hg.2.2.2.2.2.2 k (by omega)
                    have hin := gP_mem.mp (by rw [← ordL_gP]; exact getD_mem (show k < (ordL (clos S.g.2.1) S.g.2.2.length).length by omega) 0)
                    have hne2 := gP_new (key := cntC (clos S.g.2.1)) (n := S.g.2.2.length) (m := 17) (q := k) (by rw [← ordL_gP]; omega)
                    have hbf : ∀ c, c < S.g.2.2.length → cntC (clos S.g.2.1) c < cntC (clos S.g.2.1) ((ordL (clos S.g.2.1) S.g.2.2.length).getD k 0) → c ∈ (ordL (clos S.g.2.1) S.g.2.2.length).take k := fun c h1 h2 => by
                      rw [ordL_gP]
                      refine gP_before (by rw [← ordL_gP]; omega) (gP_mem.mpr ⟨h1, ?_⟩) h2
                      have := cntC_le (clos S.g.2.1) c; omega
                    rw [← ordL_gP] at hne2
                    have hsn := take_snoc (ordL (clos S.g.2.1) S.g.2.2.length) 0 (show k < (ordL (clos S.g.2.1) S.g.2.2.length).length by omega)
                    rw [cl_n (by omega), hord]
                    generalize (ordL (clos S.g.2.1) S.g.2.2.length).getD k 0 = cc at hord hin hne2 hbf hsn ⊢
                    have hSS : ∀ R ∈ S.g.2.1, R.2.2.1 = none → R.1 = cc → R.2.1 ∈ (ordL (clos S.g.2.1) S.g.2.2.length).take k := fun R hR h1 e => hbf _ (hok.1.2.2.2.2.1 R hR).2.1 (by rw [← e]; exact gOk_rk hok.1 hR h1)
                    have hst := vS_step hok.1 (oD S.D) S.ws (show i < i + w by omega) hne2 hSS
                    have hWV : ∀ R ∈ S.g.2.1, R.2.2.1 = none → R.1 = cc → ∀ s, s / 625 = R.2.1 → vS ((ordL (clos S.g.2.1) S.g.2.2.length).take k) (ch S.g (oD S.D) S.ws i (i + w)) s = ch S.g (oD S.D) S.ws i (i + w) s := fun R hR h1 e s hs => if_pos (by rw [hs]; exact hSS R hR h1 e)
                    have hbVV := bV_ch hok.1 S.D S.ws (show i < i + w by omega) (show i + w ≤ 14 by omega)
                    refine ⟨xin_n (by omega) (by omega), ?_⟩
                    refine s_costs (g := S.g) (D := S.D) (ws := S.ws) (T := ch S.g (oD S.D) S.ws) (V := ch S.g (oD S.D) S.ws i (i + w)) (W := vS ((ordL (clos S.g.2.1) S.g.2.2.length).take k) (ch S.g (oD S.D) S.ws i (i + w))) (by omega) rfl (add_of rfl rfl) rfl (by omega) (by omega) (by omega) hg.1 hg.2.1 ?_ ⟨hg.2.2.2.2.1.1, fun r hr => ⟨(hg.2.2.2.2.1.2 r hr).1, rulAt_fr (hg.2.2.2.2.1.2 r hr).2 (fun p a b => hf p (by omega) (by omega))⟩⟩ (ws_v hok (by omega)) (hws i (by omega)) (mDr_fr hdr rfl (fun p a b => hf p (by omega) (by omega))) h40 (stD_b hok) (fun m a b => ⟨⟨hcM hf i m a (by omega), hdn i m a (by omega) (by omega)⟩, ⟨hcM hf m (i + w) b (by omega), hdn m (i + w) b (by omega) (by omega)⟩⟩) (hcM hf i (i + w) (by omega) (by omega)) (fun s v hv => ?_) hcm (fun R hR h1 e => ⟨by rw [← e]; exact gOk_ne hok.1 hR h1, hWV R hR h1 e⟩) (fun p hp => ⟨?_, fOps_b hok.1 (by omega) (by omega) hWV hp⟩) (fun A2 k1 k2 => b_X11_leastCost_103 ?_)
                    · have := hg.2.2.2.1
                      unfold entsM entAt at this ⊢
                      rw [hf 4 (by decide) (by decide), hf 5 (by decide) (by decide)]; exact this
                    · unfold vS at hv
                      split at hv
                      · exact hbVV s v hv
                      · cases hv
                    · have h1 : (apv (vS ((ordL (clos S.g.2.1) S.g.2.2.length).take k) (ch S.g (oD S.D) S.ws i (i + w))) (fOps S.g (oD S.D) S.ws (ch S.g (oD S.D) S.ws) i (i + w) cc (vS ((ordL (clos S.g.2.1) S.g.2.2.length).take k) (ch S.g (oD S.D) S.ws i (i + w)))) p.1).isSome = true := by
                        show (vA _ _).isSome = true
                        rw [vA_some, Bool.or_eq_true]; exact Or.inr (tot_some.mpr ⟨p, hp, rfl⟩)
                      rw [hst] at h1
                      unfold vS at h1
                      split at h1
                      · exact h1
                      · cases h1
                    · rw [nI_1]
                      rw [hst, ← hsn] at k1
                      refine ih3 (k + 1) A2 (by omega) (by omega) (fun p a b => (k2.1 p a b).trans (hf p a b)) (fun a b p q r => ?_) k1
                      exact kM_fr (hdn a b p q r) k2 (by omega) (hl60 a b p q)
              have init : ∀ m4 k (A' : Nat → Nat → Int32), (sL (ch S.g (oD S.D) S.ws i (i + w))).length - k < m4 → k ≤ (sL (ch S.g (oD S.D) S.ws i (i + w))).length → (∀ p, p ≠ 14 → p ≠ 19 → A' p = A p) → dn A' w i → (∀ q, q < k → A' 19 (64 * (15 * i + (i + w)) + q) = iC 1000000) → xG l d 179 Q 44 [some (.ref 0), some (.int (nI w)), some (.int (nI i)), some (.int (nI (15 * i + (i + w)))), some (.int (nI k))] [] (wM I J A' B) 0 0 := by
                intro m4
                induction m4 with
                | zero => intro k A' hm4; omega
                | succ m4 ih4 =>
                  intro k A' hm4 hk hf hdn hini
                  have hc := hcM hf i (i + w) (by omega) (by omega)
                  refine b_X11_leastCost_44 ⟨xin_n (by omega) (by omega), if_le (a := (sL (ch S.g (oD S.D) S.ws i (i + w))).length) (by rw [cl_n (by omega)]; exact hc.2.1) rfl (by omega) (by omega) (fun x => ?_) (fun x => ?_)⟩
                  · refine cats _ 0 A' (Nat.lt_succ_self _) (by omega) hf hdn (fun q hq => ?_)
                    rw [hini q (by omega)]
                    congr 1
                  · rw [show (64 : Int32) * nI (15 * i + (i + w)) + nI k = nI (64 * (15 * i + (i + w)) + k) from add_of (mul_of (a := 64) rfl rfl) rfl, cl_n (by omega), nI_1]
                    refine ⟨xin_n (by omega) (by omega), ih4 (k + 1) _ (by omega) (by omega) (fun p a b => by rw [un_v b]; exact hf p a b) (fun a b p q r => ?_) (fun q hq => ?_)⟩
                    · intro u hu
                      have := hl60 a b p q
                      rw [ue_v, un_i (by omega)]; exact hdn a b p q r u hu
                    · rw [ue_v]
                      by_cases e : q = k
                      · subst e; rw [ue_i]; rfl
                      · rw [un_i (by omega)]; exact hini q (by omega)
              exact init _ 0 A' (Nat.lt_succ_self _) (by omega) hf hdn (fun q hq => by omega)
        exact cols _ 0 A' (Nat.lt_succ_self _) (by omega) (by omega) hf hdn
  exact widths _ 1 A (Nat.lt_succ_self _) (by omega) (by omega) (fun _ _ _ => rfl) (fun a b p q r => by omega)
theorem lcS_b (h : stOk S) : -100000 ≤ lcS S ∧ lcS S ≤ 1000000 := by
  unfold lcS; split
  · omega
  · rename_i e
    exact lcT_b (bV_ch h.1 S.D S.ws (List.length_pos_iff.mpr e) h.2.1)
def anSlips (S : St) : Int32 := if lcS S = 1000000 then -1 else iC (S.D.length + lcS S)
theorem m_slips (hd : 7 ≤ d) (h : mInv S I A B) (hQ : ∀ (I' : Nat → Int32) (A' : Nat → Nat → Int32), mInv S I' A' B → Q (some (.int (anSlips S))) (wM I' J A' B)) : xK l d 180 [.ref 0] (wM I J A B) Q := by
  obtain ⟨d, rfl⟩ : ∃ e, d = e + 1 := ⟨d - 1, by omega⟩
  have hb := lcS_b h.1
  refine e_X11_slips (s_leastCost (S := S) (by omega) (mInv_0 h (fun i hi => un_i hi)) (fun A' hi hk => b_X11_slips_9 ?_))
  have hq := hQ _ A' hi
  unfold anSlips at hq
  rw [hi.2.2.2.2.2.2.2.1.1]
  by_cases e : lcS S = 1000000
  · rw [if_pos (show iC (lcS S) = 1000000 by rw [e]; rfl)]
    rw [if_pos e] at hq; exact hq
  · rw [if_neg (show ¬ iC (lcS S) = 1000000 from fun q => e (by
      have := congrArg Int32.toInt q
      rw [iC_i (by omega) (by omega), show (1000000 : Int32).toInt = 1000000 by decide +kernel] at this
      exact this)), ← iC_n, iC_add]
    rw [if_neg e] at hq; exact hq
end M22
