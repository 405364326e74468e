/-! ===== by cost: one step down ===== -/
def preC (g : Gram) (o : Own) (ws : List (List Nat)) (f i j c : Nat) (wt : Nat → Int) (L : Int) : Prop := i < j ∧ j ≤ 14 ∧ c < 16 ∧ 16 * (j - i - 1) + rk g c + 1 ≤ f ∧ (∃ K : Int, 0 ≤ K ∧ wB K wt ∧ K + 600 * f ≤ 400000) ∧ isLC (ch g o ws i j) c wt L
def resC (g : Gram) (o : Own) (ws : List (List Nat)) (i j c : Nat) (wt : Nat → Int) (L : Int) (dep s : Nat) (nds : List Nd) : Prop := (ch g o ws i j s).isSome = true ∧ s / 625 = c ∧ s < 10000 ∧ wt s < 1000000 ∧ cy (ch g o ws i j s) + wt s = L ∧ nds.length ≤ 32 * (j - i - 1) + rk g c + 1 ∧ ∀ p ∈ nds, ndOk i j dep (16 * (j - i - 1) + rk g c) p
def pkC (g : Gram) (o : Own) (ws : List (List Nat)) (f i j c : Nat) (wt : Nat → Int) (n : Int) (dep : Nat) : Option (Nat × Int × List Nd) := pk true g (ch g o ws) ws f i j c wt n dep
def okC (g : Gram) (o : Own) (ws : List (List Nat)) (f : Nat) : Prop := ∀ i j c wt L n dep, preC g o ws f i j c wt L → ∃ s nds, pkC g o ws f i j c wt n dep = some (s, n, nds) ∧ resC g o ws i j c wt L dep s nds
/-- what is chosen first of the least -/
def fdC (g : Gram) (o : Own) (ws : List (List Nat)) (i j c : Nat) (wt : Nat → Int) (L : Int) (M : List Opt) : Option Opt := M.find? (fun p => decide (vO true g (ch g o ws) wt i j p = L - o c i j))
theorem pkC_st {g : Gram} (hg : gOk g) (h40 : g.1.length ≤ 40) (h30 : g.2.1.length ≤ 30) {o : Own} (ho : oB o) {ws : List (List Nat)} {f i j c : Nat} {wt : Nat → Int} {L : Int} (ih : okC g o ws f) (h : preC g o ws (f + 1) i j c wt L) (n : Int) (dep : Nat) : ∃ op s nds, chG true (vO true g (ch g o ws) wt i j) (optL g ws i j c) n = some (op, n) ∧ fdC g o ws i j c wt L (optL g ws i j c) = some op ∧ pkC g o ws (f + 1) i j c wt n dep = some (s, n, nds) ∧ resC g o ws i j c wt L dep s nds ∧
    ((∃ e, e < g.1.length ∧ op = ((-1 - (e : Int)), 0) ∧ j = i + 1 ∧ (g.1.getD e dE).2.1 = c ∧ s = eSg (g.1.getD e dE) ∧ nds = [(eSg (g.1.getD e dE), i, j, (-1 - (e : Int)), dep)]) ∨
     (∃ r, r < g.2.1.length ∧ op.1 = (r : Int) ∧ (g.2.1.getD r dR).1 = c ∧
       ((∃ s1 nds1, (g.2.1.getD r dR).2.2.1 = none ∧ op.2 = j ∧ preC g o ws f i j (g.2.1.getD r dR).2.1 (wFst true (g.2.1.getD r dR) (ch g o ws j j) wt) (L - o c i j) ∧ pkC g o ws f i j (g.2.1.getD r dR).2.1 (wFst true (g.2.1.getD r dR) (ch g o ws j j) wt) n (dep + 1) = some (s1, n, nds1) ∧ resC g o ws i j (g.2.1.getD r dR).2.1 (wFst true (g.2.1.getD r dR) (ch g o ws j j) wt) (L - o c i j) (dep + 1) s1 nds1 ∧ mkS (g.2.1.getD r dR) s1 0 = some s ∧ nds = (s, i, j, (r : Int), dep) :: nds1) ∨
        (∃ c2 s1 nds1 t nds2, (g.2.1.getD r dR).2.2.1 = some c2 ∧ i < op.2 ∧ op.2 < j ∧ preC g o ws f i op.2 (g.2.1.getD r dR).2.1 (wFst true (g.2.1.getD r dR) (ch g o ws op.2 j) wt) (L - o c i j) ∧ pkC g o ws f i op.2 (g.2.1.getD r dR).2.1 (wFst true (g.2.1.getD r dR) (ch g o ws op.2 j) wt) n (dep + 1) = some (s1, n, nds1) ∧ resC g o ws i op.2 (g.2.1.getD r dR).2.1 (wFst true (g.2.1.getD r dR) (ch g o ws op.2 j) wt) (L - o c i j) (dep + 1) s1 nds1 ∧ preC g o ws f op.2 j c2 (fun y => mkW true wt (mkS (g.2.1.getD r dR) s1 y)) (wFst true (g.2.1.getD r dR) (ch g o ws op.2 j) wt s1) ∧ pkC g o ws f op.2 j c2 (fun y => mkW true wt (mkS (g.2.1.getD r dR) s1 y)) n (dep + 1) = some (t, n, nds2) ∧ resC g o ws op.2 j c2 (fun y => mkW true wt (mkS (g.2.1.getD r dR) s1 y)) (wFst true (g.2.1.getD r dR) (ch g o ws op.2 j) wt s1) (dep + 1) t nds2 ∧ mkS (g.2.1.getD r dR) s1 t = some s ∧ nds = (s, i, j, (r : Int), dep) :: (nds1 ++ nds2))))) := by
  obtain ⟨hij, hj, hc, hf, ⟨K, hK0, hw, hKf⟩, hL⟩ := h
  have hK5 : K ≤ 500000 := by omega
  have hge := fun {op : Opt} => opt_ge (op := op) hg ho hK5 hw hij hj hL
  have hob := ho c i j
  have hLb := isLC_b (cB_ch hg ho ws hij hj) hK5 hw hL
  have hfd := chC_find (v := vO true g (ch g o ws) wt i j) (m := L - o c i j) (L := optL g ws i j c) (fun p hp => hge hp) (by omega) (opt_at hg ho hK5 hw hij hj hL)
  obtain ⟨op, hop⟩ : ∃ op, (optL g ws i j c).find? (fun p => decide (vO true g (ch g o ws) wt i j p = L - o c i j)) = some op := by
    obtain ⟨p, hp, hv⟩ := opt_at hg ho hK5 hw hij hj hL
    cases q : (optL g ws i j c).find? (fun p => decide (vO true g (ch g o ws) wt i j p = L - o c i j)) with
    | none => exact absurd (decide_eq_true hv) (List.find?_eq_none.mp q p hp)
    | some op => exact ⟨op, rfl⟩
  have hmem := List.mem_of_find?_eq_some hop
  have hval : vO true g (ch g o ws) wt i j op = L - o c i j := by have h0 := List.find?_some hop; exact of_decide_eq_true h0
  have hch : chG true (vO true g (ch g o ws) wt i j) (optL g ws i j c) n = some (op, n) := by
    unfold chG; rw [if_pos rfl, hfd, hop]; rfl
  have hdefn := pk_s (f := f) (dep := dep) hch
  have hpkC : pkC g o ws (f + 1) i j c wt n dep = pk true g (ch g o ws) ws (f + 1) i j c wt n dep := rfl
  rcases optL_in hmem with ⟨e, he, hope, hj1, hcat, hword⟩ | ⟨r, hr, hor, hRc, hsp⟩
  · -- an entry
    have hEk := hg.1 _ (getD_mem he dE)
    have hlow := lowE (o := o) hg he hj1 hcat hword
    have hsc : eSg (g.1.getD e dE) / 625 = c := by rw [← hcat]; have := hEk.2.2; unfold eSg; omega
    have hsl : eSg (g.1.getD e dE) < 10000 := by have := hEk.2.1; have := hEk.2.2; unfold eSg; omega
    rw [hope, vO_e] at hval
    have hl2 := hL.1 _ hlow.1 hsc
    refine ⟨op, eSg (g.1.getD e dE), _, hch, hop, ?_, ⟨hlow.1, hsc, hsl, by omega, by omega, ?_, ?_⟩, Or.inl ⟨e, he, hope, hj1, hcat, rfl, rfl⟩⟩
    · rw [hpkC, hdefn, hope, if_pos (show (-1 - (e : Int)) < 0 by omega), opE_e]
    · simp
    · intro p hp
      rw [List.mem_singleton] at hp; subst hp
      refine ⟨hsl, Nat.le_refl _, hij, Nat.le_refl _, ?_, ?_, Nat.le_refl _, Nat.le_add_right _ _⟩
      · show -40 ≤ (-1 - (e : Int)); omega
      · show (-1 - (e : Int)) < 30; omega
  · -- a rule
    have hRm := getD_mem hr dR
    have hRk := hg.2.1 _ hRm
    have hrt : op.1.toNat = r := by rw [hor]; omega
    have hopr : op = ((r : Int), op.2) := Prod.ext hor rfl
    rw [if_neg (by rw [hor]; omega), hrt] at hdefn
    rw [hopr, vO_r, vlC] at hval
    have hby : -40 ≤ op.1 ∧ op.1 < 30 := by rw [hor]; omega
    have hlW := fun {x : Nat} => lowW (x := x) hg ho hK5 hw hij hj hL hRm hRc hsp
    have hwF := wFst_B (R := g.2.1.getD r dR) (Vb := ch g o ws op.2 j) hw hK0 (fun q => cB_ch hg ho ws (by rcases hsp with ⟨z, _⟩ | ⟨_, _, z⟩; exact absurd z q; exact z) hj)
    generalize hRe : g.2.1.getD r dR = R at hRc hsp hRm hRk hval hdefn hlW hwF
    have hf16 := hRk.2.1
    have h15f := cnt_15 hg hf16
    have h15c := cnt_15 hg hc
    unfold rk at hf
    have him : i < op.2 ∧ op.2 ≤ j := by rcases hsp with ⟨_, q⟩ | ⟨_, q1, q2⟩ <;> omega
    have hsupA : ∀ s, (ch g o ws i op.2 s).isSome = true → s < 10000 := fun s hs => (ch_sup hg o ws him.1 hs).2
    have hL1 : isLC (ch g o ws i op.2) R.2.1 (wFst true R (ch g o ws op.2 j) wt) (L - o c i j) := by
      rw [← hval]
      exact fold_L (fun _ => Iff.rfl) hsupA (cB_ch hg ho ws him.1 (by omega)) (show K + 600 ≤ 500000 by omega) hwF (by rw [hval]; omega)
    rcases hsp with ⟨hs1, hm⟩ | ⟨hs1, hm1, hm2⟩
    · -- of one part
      rw [hm] at hdefn hL1 hwF
      have hrk := gOk_rk hg hRm hs1
      rw [hRc] at hrk
      have hpre : preC g o ws f i j R.2.1 (wFst true R (ch g o ws j j) wt) (L - o c i j) := ⟨hij, hj, hf16, by unfold rk; omega, ⟨K + 600, by omega, hwF, by omega⟩, hL1⟩
      obtain ⟨s1, nds1, k1, k2⟩ := ih i j R.2.1 _ _ n (dep + 1) hpre
      have k1' := k1
      unfold pkC at k1'
      rw [k1'] at hdefn
      have k2' := k2
      obtain ⟨q1, q2, q3, q4, q5, q6, q7⟩ := k2'
      rw [wFst_s hs1] at q4 q5
      obtain ⟨u, hu, hmu⟩ := mkW_s q4
      rw [hmu] at q4 q5
      have hlow := lowS (o := o) (ws := ws) hg hij hRm hRc hs1 q1 q2 hu
      have hui := mkS_in hRk hu
      have hl2 := hL.1 u hlow.1 (by rw [hui.2, hRc])
      unfold rk at q6 q7
      refine ⟨op, u, (u, i, j, (r : Int), dep) :: nds1, hch, hop, ?_, ⟨hlow.1, by rw [hui.2, hRc], hui.1, q4, by omega, by unfold rk; rw [List.length_cons]; omega, fun p hp => ?_⟩, Or.inr ⟨r, hr, hor, by rw [hRe]; exact hRc, by rw [hRe]; exact Or.inl ⟨s1, nds1, hs1, hm, hpre, k1, k2, hu, rfl⟩⟩⟩
      · rw [hpkC, hdefn]
        show (if R.2.2.1 = none then some ((mkS R s1 0).getD 0, n, ((mkS R s1 0).getD 0, i, j, op.1, dep) :: nds1) else _) = _
        rw [if_pos hs1, hu, hor]; rfl
      · rcases List.mem_cons.mp hp with q | q
        · subst q
          rw [hor] at hby
          exact ⟨hui.1, Nat.le_refl _, hij, Nat.le_refl _, hby.1, hby.2, Nat.le_refl _, Nat.le_add_right _ _⟩
        · unfold rk
          exact ndOk_w (q7 p q) (Nat.le_refl _) (Nat.le_refl _) (by omega) (by omega)
    · -- of two parts
      obtain ⟨c2, hc2⟩ : ∃ c2, R.2.2.1 = some c2 := by
        cases q : R.2.2.1 with
        | none => exact absurd q hs1
        | some c2 => exact ⟨c2, rfl⟩
      have hc216 := hRk.2.2.1 c2 hc2
      have h15s := cnt_15 hg hc216
      have hpre : preC g o ws f i op.2 R.2.1 (wFst true R (ch g o ws op.2 j) wt) (L - o c i j) := ⟨hm1, by omega, hf16, by unfold rk; omega, ⟨K + 600, by omega, hwF, by omega⟩, hL1⟩
      obtain ⟨s1, nds1, k1, k2⟩ := ih i op.2 R.2.1 _ _ n (dep + 1) hpre
      have k1' := k1
      unfold pkC at k1'
      rw [k1'] at hdefn
      have k2' := k2
      obtain ⟨q1, q2, q3, q4, q5, q6, q7⟩ := k2'
      have hL2 : isLC (ch g o ws op.2 j) c2 (fun y => mkW true wt (mkS R s1 y)) (wFst true R (ch g o ws op.2 j) wt s1) := by
        rw [wFst_d hs1]
        rw [wFst_d hs1] at q4
        exact fold_L (c2_iff hc2) (fun s hs => (ch_sup hg o ws hm2 hs).2) (cB_ch hg ho ws hm2 hj) hK5 (mkW_B hw _) q4
      have hpre2 : preC g o ws f op.2 j c2 (fun y => mkW true wt (mkS R s1 y)) (wFst true R (ch g o ws op.2 j) wt s1) := ⟨hm2, hj, hc216, by unfold rk; omega, ⟨K, hK0, mkW_B hw _, by omega⟩, hL2⟩
      obtain ⟨t, nds2, y1, y2⟩ := ih op.2 j c2 _ _ n (dep + 1) hpre2
      have y2' := y2
      obtain ⟨z1, z2, z3, z4, z5, z6, z7⟩ := y2'
      have z4' : mkW true wt (mkS R s1 t) < 1000000 := z4
      have z5' : cy (ch g o ws op.2 j t) + mkW true wt (mkS R s1 t) = wFst true R (ch g o ws op.2 j) wt s1 := z5
      obtain ⟨u, hu, hmu⟩ := mkW_s z4'
      rw [hmu] at z4' z5'
      have hlow := lowD (o := o) (ws := ws) hg hm1 hm2 hRm hRc hc2 q1 q2 z1 z2 hu
      have hui := mkS_in hRk hu
      have hl2 := hL.1 u hlow.1 (by rw [hui.2, hRc])
      unfold rk at q6 q7 z6 z7
      refine ⟨op, u, (u, i, j, (r : Int), dep) :: (nds1 ++ nds2), hch, hop, ?_, ⟨hlow.1, by rw [hui.2, hRc], hui.1, z4', by omega, by unfold rk; rw [List.length_cons, List.length_append]; omega, fun p hp => ?_⟩, Or.inr ⟨r, hr, hor, by rw [hRe]; exact hRc, by rw [hRe]; exact Or.inr ⟨c2, s1, nds1, t, nds2, hc2, hm1, hm2, hpre, k1, k2, hpre2, y1, y2, hu, rfl⟩⟩⟩
      · rw [hpkC, hdefn]
        have y1' := y1
        unfold pkC at y1'
        show (if R.2.2.1 = none then _ else (match pk true g (ch g o ws) ws f op.2 j (R.2.2.1.getD 0) (fun y => mkW true wt (mkS R s1 y)) n (dep + 1) with | none => none | some (t, n3, nds2) => some ((mkS R s1 t).getD 0, n3, ((mkS R s1 t).getD 0, i, j, op.1, dep) :: (nds1 ++ nds2)))) = _
        rw [if_neg hs1, hc2]
        show (match pk true g (ch g o ws) ws f op.2 j c2 (fun y => mkW true wt (mkS R s1 y)) n (dep + 1) with | none => none | some (t, n3, nds2) => some ((mkS R s1 t).getD 0, n3, ((mkS R s1 t).getD 0, i, j, op.1, dep) :: (nds1 ++ nds2))) = _
        rw [y1']
        show some ((mkS R s1 t).getD 0, n, ((mkS R s1 t).getD 0, i, j, op.1, dep) :: (nds1 ++ nds2)) = _
        rw [hu, hor]; rfl
      · rcases List.mem_cons.mp hp with q | q
        · subst q
          rw [hor] at hby
          exact ⟨hui.1, Nat.le_refl _, hij, Nat.le_refl _, hby.1, hby.2, Nat.le_refl _, Nat.le_add_right _ _⟩
        · unfold rk
          rcases List.mem_append.mp q with q | q
          · exact ndOk_w (q7 p q) (Nat.le_refl _) (by omega) (by omega) (by omega)
          · exact ndOk_w (z7 p q) (by omega) (Nat.le_refl _) (by omega) (by omega)
theorem pkC_ok {g : Gram} (hg : gOk g) (h40 : g.1.length ≤ 40) (h30 : g.2.1.length ≤ 30) {o : Own} (ho : oB o) (ws : List (List Nat)) : ∀ f, okC g o ws f
  | 0 => fun i j c wt L n dep h => absurd h.2.2.2.1 (by omega)
  | f + 1 => fun i j c wt L n dep h => by
    obtain ⟨op, s, nds, _, _, h1, h2, _⟩ := pkC_st hg h40 h30 ho (pkC_ok hg h40 h30 ho ws f) h n dep
    exact ⟨s, nds, h1, h2⟩
