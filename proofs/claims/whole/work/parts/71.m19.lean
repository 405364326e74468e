/-! ===== the reference: trees, read ===== -/
def smW (c : Nat) (V : Nat → Vl) (L : List Nat) : Nat := (L.map fun s => if s / 625 = c then wy (V s) else 0).sum
def rtT (c : Nat) (V : Nat → Vl) : Nat := smW c V (sL V)
theorem smW_snoc {c : Nat} {V : Nat → Vl} {L : List Nat} {p : Nat} (h : p < L.length) : smW c V (L.take (p + 1)) = smW c V (L.take p) + (if L.getD p 0 / 625 = c then wy (V (L.getD p 0)) else 0) := by
  unfold smW; rw [take_snoc L 0 h, List.map_append, List.sum_append]; simp
def rtC (g : Gram) : Nat := (g.2.1.getD 0 dR).1
/-- every cell has room -/
def okCh (g : Gram) (o : Own) (ws : List (List Nat)) : Prop := ∀ i j, i < j → j ≤ ws.length → (sL (ch g o ws i j)).length ≤ 60
/-- the chart as the reference holds it -/
def chM (A : Nat → Nat → Int32) (B : Nat → Nat → Int64) (g : Gram) (o : Own) (ws : List (List Nat)) : Prop := ∀ i j, i < j → j ≤ ws.length → cM A B (15 * i + j) (ch g o ws i j)
theorem sL_nil {V : Nat → Vl} (h : ∀ s, V s = none) : sL V = [] := by
  unfold sL
  rw [List.filter_eq_nil_iff]
  intro s _; rw [h s]; decide
theorem ordL_len {f : Nat → Nat → Bool} {nc : Nat} : (ordL f nc).length = nc := by
  show (ordP f nc 17).length = nc
  rw [ordP_len]
  have : (List.range nc).countP (fun c => decide (cntC f c < 17)) = (List.range nc).length := by
    rw [List.countP_eq_length]
    intro c _
    have := cntC_le f c
    exact decide_eq_true (by omega)
  rw [this, List.length_range]
theorem vS_sub {S S' : List Nat} (h : ∀ x ∈ S, x ∈ S') (V : Nat → Vl) : (sL (vS S V)).length ≤ (sL (vS S' V)).length := sL_mono fun s hs => by
  unfold vS at hs ⊢
  by_cases c : s / 625 ∈ S
  · rw [if_pos c] at hs; rw [if_pos (h _ c)]; exact hs
  · rw [if_neg c] at hs; cases hs
theorem vS_le (S : List Nat) (V : Nat → Vl) : (sL (vS S V)).length ≤ (sL V).length := sL_mono fun s hs => by
  unfold vS at hs
  by_cases c : s / 625 ∈ S
  · rw [if_pos c] at hs; exact hs
  · rw [if_neg c] at hs; cases hs
section M19
variable {l : Launch} {J : Nat → Int64} {A : Nat → Nat → Int32} {B : Nat → Nat → Int64} {Q : Option Value → XW → Prop} {d : Nat} {I : Nat → Int32} {t : Nat → Nat} {n : Nat}
theorem s_trees0 (hd : 1 ≤ d) (h32 : I 32 = 0) (hQ : Q (some (.long 0)) (wM (upd I 0 0) J A B)) : xK l d 161 [.ref 0] (wM I J A B) Q := by
  obtain ⟨d, rfl⟩ : ∃ e, d = e + 1 := ⟨d - 1, by omega⟩
  refine e_X11_trees ?_
  rw [if_pos h32]; exact hQ
theorem s_trees (hd : 2 ≤ d) {nw rc : Nat} {V : Nat → Vl} (h32 : I 32 = nI nw) (h1 : 1 ≤ nw) (h14 : nw ≤ 14) (hV : cM A B nw V) (h6 : A 6 0 = nI rc) (hrc : rc < 16)
    (hQ : Q (some (.long (lN (sat (rtT rc V))))) (wM (upd I 0 0) J A B)) : xK l d 161 [.ref 0] (wM I J A B) Q := by
  obtain ⟨d, rfl⟩ : ∃ e, d = e + 1 := ⟨d - 1, by omega⟩
  have h60 := hV.1
  have loop : ∀ m k, (sL V).length - k < m → k ≤ (sL V).length → xG l d 161 Q 28 [some (.ref 0), some (.long (lN (sat (smW rc V ((sL V).take k))))), none, some (.int (nI nw)), some (.int (nI k))] [] (wM (upd I 0 0) J A B) 0 0 := by
    intro m
    induction m with
    | zero => intro k hm; omega
    | succ m ih =>
      intro k hm hk
      refine b_X11_trees_28 ⟨xin_n (by omega) (by omega), if_le (a := (sL V).length) (by rw [cl_n (by omega)]; exact hV.2.1) rfl (by omega) (by omega) (fun z => ?_) (fun z => ?_)⟩
      · rw [List.take_of_length_le z]; exact hQ
      · have hin := sL_in z
        have hcv := hV.2.2 k z
        rw [show (64 : Int32) * nI nw + nI k = nI (64 * nw + k) from add_of (mul_of (a := 64) rfl rfl) rfl, cl_n (by omega), hcv.1]
        refine ⟨xin_n (by omega) (by omega), s_categoryOfM (by omega) rfl hin.1 (b_X11_trees_54 ⟨by decide, ?_⟩)⟩
        rw [show A 6 ((0 : Int32)).toNatClampNeg = nI rc from h6, show (64 : Int32) * nI nw + nI k = nI (64 * nw + k) from add_of (mul_of (a := 64) rfl rfl) rfl, cl_n (by omega), hcv.2]
        have hs := smW_snoc (c := rc) (V := V) z
        refine if_eq rfl rfl (by omega) (by omega) (fun e => ⟨xin_n (by omega) (by omega), ?_⟩) (fun e => ?_)
        · refine s_full (by omega) (ln_add _ _) (lN_sat_add _ _) (b_X11_trees_80 ?_)
          rw [sat_add, nI_1]
          rw [if_pos e] at hs
          rw [← hs]
          exact ih (k + 1) (by omega) (by omega)
        · have hs' : smW rc V ((sL V).take (k + 1)) = smW rc V ((sL V).take k) := by rw [hs, if_neg e]; rfl
          rw [nI_1, ← hs']
          exact ih (k + 1) (by omega) (by omega)
  refine e_X11_trees ?_
  refine if_eq h32 (b := 0) rfl (by omega) (by omega) (fun z => absurd z (by omega)) (fun z => ?_)
  rw [h32]
  refine s_cell (i := 0) (by omega) rfl rfl (b_X11_trees_24 ?_)
  rw [show 15 * 0 + nw = nw by omega]
  exact loop _ 0 (Nat.lt_succ_self _) (by omega)
set_option maxHeartbeats 1000000 in
theorem s_read (ht : tpM A t n) (hd : 7 ≤ d) (h2 : I 2 = nI n) {g : Gram} {o : Own} (hg : gM I A B g) (hok : gOk g) (h28 : I 28 = 0 → g.2.1 = [])
    (hN : ∀ (I' : Nat → Int32) (J' : Nat → Int64) (B' : Nat → Nat → Int64), (pWords t n = [] ∨ g.2.1 = []) → I' 0 = 0 → I' 2 = 0 → (∀ i, i ≠ 0 → i ≠ 2 → i ≠ 3 → i ≠ 4 → i ≠ 5 → i ≠ 6 → i ≠ 8 → I' i = I i) → (∀ i, i ≠ 9 → J' i = J i) → (∀ p, p ≠ 16 → B' p = B p) → Q (some (.int (-1))) (wM I' J' A B'))
    (hE : ∀ (I' : Nat → Int32) (J' : Nat → Int64) (A' : Nat → Nat → Int32) (B' : Nat → Nat → Int64), pWords t n ≠ [] → g.2.1 ≠ [] → ¬ okCh g o (pWords t n) → I' 0 = 0 → I' 2 = 0 → I' 32 = 0 → I' 39 = 0 → I' 48 = 0 → (∀ i, i ≠ 0 → i ≠ 2 → i ≠ 3 → i ≠ 4 → i ≠ 5 → i ≠ 6 → i ≠ 8 → i ≠ 32 → i ≠ 39 → i ≠ 48 → I' i = I i) → (∀ i, i ≠ 9 → J' i = J i) → (∀ p, p ≠ 14 → p ≠ 17 → p ≠ 18 → A' p = A p) → (∀ p, p ≠ 15 → p ≠ 16 → p ≠ 20 → B' p = B p) → Q (some (.int (-2))) (wM I' J' A' B'))
    (hO : ∀ (I' : Nat → Int32) (J' : Nat → Int64) (A' : Nat → Nat → Int32) (B' : Nat → Nat → Int64), pWords t n ≠ [] → g.2.1 ≠ [] → okCh g o (pWords t n) → chM A' B' g o (pWords t n) → (∀ k, k < (pWords t n).length → B' 15 k = lN (c27 ((pWords t n).getD k []))) → I' 0 = 0 → I' 2 = 0 → I' 32 = nI (pWords t n).length → I' 39 = 0 → I' 48 = 0 → (∀ i, i ≠ 0 → i ≠ 2 → i ≠ 3 → i ≠ 4 → i ≠ 5 → i ≠ 6 → i ≠ 8 → i ≠ 32 → i ≠ 39 → i ≠ 48 → I' i = I i) → (∀ i, i ≠ 9 → J' i = J i) → (∀ p, p ≠ 14 → p ≠ 17 → p ≠ 18 → A' p = A p) → (∀ p, p ≠ 15 → p ≠ 16 → p ≠ 20 → B' p = B p) → Q (some (.int (if 0 < rtT (rtC g) (ch g o (pWords t n) 0 (pWords t n).length) then 1 else 0))) (wM I' J' A' B')) : xK l d 160 [.ref 0] (wM I J A B) Q := by
  obtain ⟨d, rfl⟩ : ∃ e, d = e + 1 := ⟨d - 1, by omega⟩
  refine e_X11_read (s_readWords (n := n) (t := t) ht (by omega) (by rw [un_i (by decide)]; exact h2) (fun I1 J1 B1 i2 hws hI1 hJ1 hB1 => b_X11_read_9 ?_))
  obtain ⟨hv, hl14⟩ := pWords_v t n
  generalize pWords t n = ws at hN hE hO hws hv hl14
  have hwv : ∀ k, k < ws.length → vNm (ws.getD k []) := fun k hk => hv _ (getD_mem hk [])
  have hI1' : ∀ i, i ≠ 0 → i ≠ 2 → i ≠ 3 → i ≠ 4 → i ≠ 5 → i ≠ 6 → i ≠ 8 → I1 i = I i := fun i z a b c e f g => by rw [hI1 i a b c e f g, un_i z]
  have i0 : I1 0 = 0 := by rw [hI1 0 (by decide) (by decide) (by decide) (by decide) (by decide) (by decide), ue_i]
  have i28 : I1 28 = I 28 := hI1' 28 (by decide) (by decide) (by decide) (by decide) (by decide) (by decide) (by decide)
  have i23 : I1 23 = nI g.2.1.length := by rw [hI1' 23 (by decide) (by decide) (by decide) (by decide) (by decide) (by decide) (by decide)]; exact hg.2.1
  have h30 := hg.2.2.2.2.1.1
  refine if_eq (a := ws.length) rfl (b := 0) rfl (by omega) (by omega) (fun z => hN I1 J1 B1 (Or.inl (List.length_eq_zero_iff.mp z)) i0 i2 hI1' hJ1 hB1) (fun z1 => ?_)
  by_cases c28 : I1 28 = 0
  · rw [if_pos c28]; exact hN I1 J1 B1 (Or.inr (h28 (by rw [← i28]; exact c28))) i0 i2 hI1' hJ1 hB1
  rw [if_neg c28]
  refine if_eq i23 (b := 0) rfl (by omega) (by omega) (fun z => hN I1 J1 B1 (Or.inr (List.length_eq_zero_iff.mp z)) i0 i2 hI1' hJ1 hB1) (fun z2 => ?_)
  have hwn : ws ≠ [] := fun q => z1 (by rw [q]; rfl)
  have hrn : g.2.1 ≠ [] := fun q => z2 (by rw [q]; rfl)
  -- the world from here on
  have hI2 : ∀ i, i ≠ 0 → i ≠ 2 → i ≠ 3 → i ≠ 4 → i ≠ 5 → i ≠ 6 → i ≠ 8 → i ≠ 32 → i ≠ 39 → i ≠ 48 → upd (upd (upd I1 32 0) 39 0) 48 0 i = I i := fun i z a b c e f g x y w => by rw [un_i w, un_i y, un_i x]; exact hI1' i z a b c e f g
  have j0 : upd (upd (upd I1 32 0) 39 0) 48 0 0 = 0 := by rw [un_i (by decide), un_i (by decide), un_i (by decide)]; exact i0
  have j2 : upd (upd (upd I1 32 0) 39 0) 48 0 2 = 0 := by rw [un_i (by decide), un_i (by decide), un_i (by decide)]; exact i2
  have j32 : upd (upd (upd I1 32 0) 39 0) 48 0 32 = 0 := by rw [un_i (by decide), un_i (by decide), ue_i]
  have j39 : upd (upd (upd I1 32 0) 39 0) 48 0 39 = 0 := by rw [un_i (by decide), ue_i]
  have j48 : upd (upd (upd I1 32 0) 39 0) 48 0 48 = 0 := ue_i _ _ _
  generalize upd (upd (upd I1 32 0) 39 0) 48 0 = I2 at hI2 j0 j2 j32 j39 j48 ⊢
  have k22 : I2 22 = nI g.1.length := by rw [hI2 22 (by decide) (by decide) (by decide) (by decide) (by decide) (by decide) (by decide) (by decide) (by decide) (by decide)]; exact hg.1
  have k23 : I2 23 = nI g.2.1.length := by rw [hI2 23 (by decide) (by decide) (by decide) (by decide) (by decide) (by decide) (by decide) (by decide) (by decide) (by decide)]; exact hg.2.1
  have k24 : I2 24 = nI g.2.2.length := by rw [hI2 24 (by decide) (by decide) (by decide) (by decide) (by decide) (by decide) (by decide) (by decide) (by decide) (by decide)]; exact hg.2.2.1
  have hc16 := hok.2.2.1
  -- what stays
  let fr : (Nat → Nat → Int32) → (Nat → Nat → Int64) → Prop := fun A' B' => (∀ p, p ≠ 14 → p ≠ 17 → p ≠ 18 → A' p = A p) ∧ (∀ p, p ≠ 20 → B' p = B1 p)
  have frc : ∀ {c A' B' A2 B2}, fr A' B' → fcM c A' B' A2 B2 → fr A2 B2 := fun h k => ⟨fun p a b c => (k.1 p a b c).trans (h.1 p a b c), fun p a => (k.2.2.2 p a).trans (h.2 p a)⟩
  have fE : ∀ {A' B'}, fr A' B' → entsM A' B' 0 g.1 := fun {A' B'} h => by
    have := hg.2.2.2.1
    unfold entsM entAt at this ⊢
    rw [h.1 4 (by decide) (by decide) (by decide), h.1 5 (by decide) (by decide) (by decide), h.2 2 (by decide), hB1 2 (by decide)]; exact this
  have fR : ∀ {A' B'}, fr A' B' → rulsM A' 0 g.2.1 := fun {A' B'} h => ⟨h30, fun r hr => ⟨(hg.2.2.2.2.1.2 r hr).1, rulAt_fr (hg.2.2.2.2.1.2 r hr).2 (fun p a b => h.1 p (by omega) (by omega) (by omega))⟩⟩
  let dn : (Nat → Nat → Int32) → (Nat → Nat → Int64) → Nat → Nat → Prop := fun A' B' w i => ∀ a b, a < b → b ≤ ws.length → (b - a < w ∨ (b - a = w ∧ a < i)) → cM A' B' (15 * a + b) (ch g o ws a b)
  have bad : ∀ {A' B' a b}, fr A' B' → a < b → b ≤ ws.length → 61 ≤ (sL (ch g o ws a b)).length → Q (some (.int (-2))) (wM I2 J1 A' B') := fun {A' B' a b} hf hab hb h61 =>
    hE I2 J1 A' B' hwn hrn (fun q => by have := q a b hab hb; omega) j0 j2 j32 j39 j48 hI2 hJ1 hf.1 (fun p a b c => (hf.2 p c).trans (hB1 p b))
  -- the end: the words are said
  have fin : ∀ m k (A' : Nat → Nat → Int32) (B' : Nat → Nat → Int64), ws.length - k < m → k ≤ ws.length → chM A' B' g o ws → (∀ i, i < k → B' 15 i = lN (c27 (ws.getD i []))) → (∀ i, i < ws.length → B' 16 i = lN (c27 (ws.getD i []))) → (∀ p, p ≠ 14 → p ≠ 17 → p ≠ 18 → A' p = A p) → (∀ p, p ≠ 15 → p ≠ 16 → p ≠ 20 → B' p = B p) → xG l d 160 Q 132 [some (.ref 0), some (.int (nI ws.length)), some (.int (nI k)), none, none] [] (wM (upd I2 32 (nI ws.length)) J1 A' B') 0 0 := by
    intro m
    induction m with
    | zero => intro k A' B' hm; omega
    | succ m ih =>
      intro k A' B' hm hk hch h15 h16 hA hB
      refine b_X11_read_132 (if_le rfl rfl (by omega) (by omega) (fun z => ?_) (fun z => ?_))
      · have e6 : A' 6 0 = nI (rtC g) := by
          rw [hA 6 (by decide) (by decide) (by decide)]
          exact (hg.2.2.2.2.1.2 0 (by omega)).2.1
        have hrt : rtC g < 16 := (hok.2.1 _ (getD_mem (show 0 < g.2.1.length by omega) dR)).1
        have hc0 := hch 0 ws.length (by omega) (Nat.le_refl _)
        rw [show 15 * 0 + ws.length = ws.length by omega] at hc0
        refine s_trees (by omega) (ue_i _ _ _) (by omega) hl14 hc0 e6 hrt (b_X11_read_159 ?_)
        have hk' : k = ws.length := by omega
        have hOO := hO (upd (upd I2 32 (nI ws.length)) 0 0) J1 A' B' hwn hrn (fun i j a b => (hch i j a b).1) hch (by rw [← hk']; exact h15) (ue_i _ _ _) (by rw [un_i (by decide), un_i (by decide)]; exact j2) (by rw [un_i (by decide), ue_i]) (by rw [un_i (by decide), un_i (by decide)]; exact j39) (by rw [un_i (by decide), un_i (by decide)]; exact j48) (fun i z a b c e f g x y w => by rw [un_i z, un_i x]; exact hI2 i z a b c e f g x y w) hJ1 hA hB
        have hsat := sat_le (rtT (rtC g) (ch g o ws 0 ws.length))
        generalize rtT (rtC g) (ch g o ws 0 ws.length) = X at hOO hsat ⊢
        refine if_if (lg_le.trans (ln_le (b := 0) (by omega) (by omega))) (fun q => ?_) (fun q => ?_)
        · rw [if_neg (by unfold sat at q; omega)] at hOO; exact hOO
        · rw [if_pos (by unfold sat at q; omega)] at hOO; exact hOO
      · rw [cl_n (by omega)]
        refine ⟨xin_n (by omega) (by omega), xin_n (by omega) (by omega), ?_⟩
        rw [nI_1]
        refine ih (k + 1) A' _ (by omega) (by omega) (fun i j a b => ?_) (fun i hi => ?_) (fun i hi => ?_) hA (fun p a b c => by rw [un_v a]; exact hB p a b c)
        · have := hch i j a b
          unfold cM at this ⊢
          rw [un_v (by decide)]; exact this
        · rw [ue_v]
          by_cases q : i = k
          · subst q; rw [ue_l]; exact h16 i (by omega)
          · rw [un_l q]; exact h15 i (by omega)
        · rw [un_v (by decide)]; exact h16 i hi
  have widths : ∀ m w (A' : Nat → Nat → Int32) (B' : Nat → Nat → Int64), ws.length + 1 - w < m → 1 ≤ w → w ≤ ws.length + 1 → fr A' B' → dn A' B' w 0 → xG l d 160 Q 47 [some (.ref 0), some (.int (nI ws.length)), some (.int (nI w)), none, none] [] (wM I2 J1 A' B') 0 0 := by
    intro m
    induction m with
    | zero => intro w A' B' hm; omega
    | succ m ih =>
      intro w A' B' hm hw1 hwl hf hdn
      refine b_X11_read_47 (if_lt rfl rfl (by omega) (by omega) (fun z => ?_) (fun z => ?_))
      · exact fin _ 0 A' B' (Nat.lt_succ_self _) (by omega) (fun i j a b => hdn i j a b (by omega)) (fun i hi => by omega) (fun i hi => by rw [hf.2 16 (by decide)]; exact hws i hi) hf.1 (fun p a b c => (hf.2 p c).trans (hB1 p b))
      · have cols : ∀ m2 i (A' : Nat → Nat → Int32) (B' : Nat → Nat → Int64), ws.length - i < m2 → i ≤ ws.length → i + w ≤ ws.length + 1 → fr A' B' → dn A' B' w i → xG l d 160 Q 54 [some (.ref 0), some (.int (nI ws.length)), some (.int (nI w)), some (.int (nI i)), none] [] (wM I2 J1 A' B') 0 0 := by
          intro m2
          induction m2 with
          | zero => intro i A' B' hm2; omega
          | succ m2 ih2 =>
            intro i A' B' hm2 hi hiw hf hdn
            refine b_X11_read_54 (if_lt rfl (add_of rfl rfl) (by omega) (by omega) (fun y => ?_) (fun y => ?_))
            · rw [nI_1]
              refine ih (w + 1) A' B' (by omega) (by omega) (by omega) hf (fun a b p q r => hdn a b p q (by omega))
            · refine s_cell (by omega) rfl (add_of rfl rfl) (b_X11_read_72 ⟨xin_n (by omega) (by omega), ?_⟩)
              rw [cl_n (by omega)]
              have cats : ∀ m3 k (A' : Nat → Nat → Int32) (B' : Nat → Nat → Int64), g.2.2.length - k < m3 → k ≤ g.2.2.length → fr A' B' → dn A' B' w i → cM A' B' (15 * i + (i + w)) (vS ((ordL (clos g.2.1) g.2.2.length).take k) (ch g o ws i (i + w))) → xG l d 160 Q 77 [some (.ref 0), some (.int (nI ws.length)), some (.int (nI w)), some (.int (nI i)), some (.int (nI k))] [] (wM I2 J1 A' B') 0 0 := by
                intro m3
                induction m3 with
                | zero => intro k A' B' hm3; omega
                | succ m3 ih3 =>
                  intro k A' B' hm3 hk hf hdn hcm
                  have hol : (ordL (clos g.2.1) g.2.2.length).length = g.2.2.length := ordL_len
                  refine b_X11_read_77 (if_le k24 rfl (by omega) (by omega) (fun x => ?_) (fun x => ?_))
                  · rw [nI_1]
                    refine ih2 (i + 1) A' B' (by omega) (by omega) (by omega) hf (fun a b p q r => ?_)
                    by_cases e : a = i ∧ b = i + w
                    · rw [e.1, e.2]
                      rw [List.take_of_length_le (by omega), vS_all hok o ws (by omega)] at hcm; exact hcm
                    · exact hdn a b p q (by omega)
                  · have hord : A' 13 k = nI ((ordL (clos g.2.1) g.2.2.length).getD k 0) := by
                      rw [hf.1 13 (by decide) (by decide) (by decide)]; exact hg.2.2.2.2.2.2 k (by omega)
                    have hin := gP_mem.mp (by rw [← ordL_gP]; exact getD_mem (show k < (ordL (clos g.2.1) g.2.2.length).length by omega) 0)
                    have hne := gP_new (key := cntC (clos g.2.1)) (n := g.2.2.length) (m := 17) (q := k) (by rw [← ordL_gP]; omega)
                    have hbf : ∀ c, c < g.2.2.length → cntC (clos g.2.1) c < cntC (clos g.2.1) ((ordL (clos g.2.1) g.2.2.length).getD k 0) → c ∈ (ordL (clos g.2.1) g.2.2.length).take k := fun c h1 h2 => by
                      rw [ordL_gP]
                      refine gP_before (by rw [← ordL_gP]; omega) (gP_mem.mpr ⟨h1, ?_⟩) h2
                      have := cntC_le (clos g.2.1) c; omega
                    rw [← ordL_gP] at hne
                    have hsn := take_snoc (ordL (clos g.2.1) g.2.2.length) 0 (show k < (ordL (clos g.2.1) g.2.2.length).length by omega)
                    rw [cl_n (by omega), hord]
                    generalize (ordL (clos g.2.1) g.2.2.length).getD k 0 = cc at hord hin hne hbf hsn ⊢
                    have hst := vS_step hok o ws (show i < i + w by omega) hne (fun R hR h1 e => hbf _ (hok.2.2.2.2.1 R hR).2.1 (by rw [← e]; exact gOk_rk hok hR h1))
                    refine ⟨xin_n (by omega) (by omega), ?_⟩
                    refine s_fills (g := g) (o := o) (ws := ws) (T := ch g o ws) (V := vS ((ordL (clos g.2.1) g.2.2.length).take k) (ch g o ws i (i + w))) (by omega) rfl (add_of rfl rfl) rfl (by omega) (by omega) (by omega) k22 k23 (fE hf) (fR hf) (hwv i (by omega)) (by rw [hf.2 16 (by decide)]; exact hws i (by omega)) (fun m a b => ⟨hdn i m a (by omega) (by omega), hdn m (i + w) b (by omega) (by omega)⟩) hcm (fun R hR h1 e => by rw [← e]; exact gOk_ne hok hR h1) (fun A2 B2 h61 k2 => b_X11_read_101 ?_) (fun A2 B2 k1 k2 => b_X11_read_101 ?_)
                    · rw [if_pos rfl]
                      rw [hst] at h61
                      exact bad (a := i) (b := i + w) (frc hf k2) (by omega) (by omega) (Nat.le_trans h61 (vS_le _ _))
                    · rw [if_neg (by decide), nI_1]
                      rw [hst, ← hsn] at k1
                      refine ih3 (k + 1) A2 B2 (by omega) (by omega) (frc hf k2) (fun a b p q r => ?_) k1
                      exact cM_fr (hdn a b p q r) k2 (by omega)
              have hvn : ∀ s, vS ((ordL (clos g.2.1) g.2.2.length).take 0) (ch g o ws i (i + w)) s = none := fun s => by
                unfold vS; rw [List.take_zero, if_neg (by simp)]
              have hs0 := sL_nil hvn
              refine cats _ 0 _ B' (Nat.lt_succ_self _) (by omega) ⟨fun p a b c => by rw [un_v b]; exact hf.1 p a b c, hf.2⟩ (fun a b p q r => ?_) ⟨by rw [hs0]; simp, by rw [hs0, ue_v, ue_i]; rfl, fun k hk => by rw [hs0] at hk; cases hk⟩
              have := hdn a b p q r
              refine ⟨this.1, ?_, fun k hk => ?_⟩
              · rw [ue_v, un_i (by omega)]; exact this.2.1
              · rw [un_v (by decide)]; exact this.2.2 k hk
        exact cols _ 0 A' B' (Nat.lt_succ_self _) (by omega) (by omega) hf hdn
  exact widths _ 1 A B1 (Nat.lt_succ_self _) (by omega) (by omega) ⟨fun _ _ _ _ => rfl, fun _ _ => rfl⟩ (fun a b p q r => by omega)
end M19
