/-! ===== by number: found, and within bounds ===== -/
theorem optL_in {g : Gram} {ws : List (List Nat)} {i j c : Nat} {o : Opt} (h : o ∈ optL g ws i j c) : (∃ e, e < g.1.length ∧ o = ((-1 - (e : Int)), 0) ∧ j = i + 1 ∧ (g.1.getD e dE).2.1 = c ∧ (g.1.getD e dE).1 = ws.getD i []) ∨ (∃ r, r < g.2.1.length ∧ o.1 = (r : Int) ∧ (g.2.1.getD r dR).1 = c ∧ (((g.2.1.getD r dR).2.2.1 = none ∧ o.2 = j) ∨ ((g.2.1.getD r dR).2.2.1 ≠ none ∧ i < o.2 ∧ o.2 < j))) := by
  unfold optL at h
  rcases List.mem_append.mp h with q | q
  · left
    split at q
    · rename_i e1
      unfold optE at q
      obtain ⟨e, he, q⟩ := List.mem_flatMap.mp q
      split at q
      · rename_i e2
        split at q
        · rename_i e3
          exact ⟨e, List.mem_range.mp he, List.mem_singleton.mp q, e1, e2, e3⟩
        · cases q
      · cases q
    · cases q
  · right
    unfold optR at q
    obtain ⟨r, hr, q⟩ := List.mem_flatMap.mp q
    split at q
    · rename_i e1
      split at q
      · rename_i e2
        have := List.mem_singleton.mp q
        exact ⟨r, List.mem_range.mp hr, by rw [this], e1, Or.inl ⟨e2, by rw [this]⟩⟩
      · rename_i e2
        obtain ⟨m, hm, q⟩ := List.mem_flatMap.mp q
        have := List.mem_singleton.mp q
        have hm := mids_mem.mp hm
        exact ⟨r, List.mem_range.mp hr, by rw [this], e1, Or.inr ⟨e2, by rw [this]; exact hm.1, by rw [this]; exact hm.2⟩⟩
    · cases q
def ndOk (i j dep dm : Nat) (p : Nd) : Prop := p.1 < 10000 ∧ i ≤ p.2.1 ∧ p.2.1 < p.2.2.1 ∧ p.2.2.1 ≤ j ∧ -40 ≤ p.2.2.2.1 ∧ p.2.2.2.1 < 30 ∧ dep ≤ p.2.2.2.2 ∧ p.2.2.2.2 ≤ dep + dm
theorem ndOk_w {i j i' j' dep dep' dm dm' : Nat} {p : Nd} (h : ndOk i' j' dep' dm' p) (h1 : i ≤ i') (h2 : j' ≤ j) (h3 : dep ≤ dep') (h4 : dep' + dm' ≤ dep + dm) : ndOk i j dep dm p := by
  unfold ndOk at *; omega
/-- what is made of what there is, is there -/
theorem ch_ent {g : Gram} (hg : gOk g) (o : Own) (ws : List (List Nat)) {i e : Nat} (he : e < g.1.length) (hw : (g.1.getD e dE).1 = ws.getD i []) : (ch g o ws i (i + 1) (eSg (g.1.getD e dE))).isSome = true := by
  rw [ch_cell hg o ws (by omega), vA_some, Bool.or_eq_true]
  left
  refine tot_some.mpr ⟨(eSg (g.1.getD e dE), (1, o (g.1.getD e dE).2.1 i (i + 1))), ?_, rfl⟩
  unfold bOps
  rw [if_pos rfl]
  refine List.mem_append.mpr (Or.inl ?_)
  unfold eOps
  exact fm_at dE he (by rw [if_pos hw]; exact List.mem_singleton.mpr rfl)
theorem ch_sng {g : Gram} (hg : gOk g) (o : Own) (ws : List (List Nat)) {i j x s : Nat} (hij : i < j) {R : Rule} (hR : R ∈ g.2.1) (h1 : R.2.2.1 = none) (hx : (ch g o ws i j x).isSome = true) (hc : x / 625 = R.2.1) (hs : mkS R x 0 = some s) : (ch g o ws i j s).isSome = true ∧ ∃ u, ch g o ws i j x = some u ∧ (s, (u.1, o R.1 i j + u.2)) ∈ sOps o R i j (ch g o ws i j) := by
  obtain ⟨u, hu⟩ := Option.isSome_iff_exists.mp hx
  have hop : (s, (u.1, o R.1 i j + u.2)) ∈ sOps o R i j (ch g o ws i j) := by
    unfold sOps
    refine List.mem_flatMap.mpr ⟨x, sL_mem.mpr ⟨(ch_sup hg o ws hij hx).2, hx⟩, ?_⟩
    rw [if_pos hc]
    unfold sOp
    rw [hs, hu]; exact List.mem_singleton.mpr rfl
  refine ⟨?_, u, hu, hop⟩
  rw [ch_cell hg o ws hij, vA_some, Bool.or_eq_true]
  right
  refine tot_some.mpr ⟨(s, (u.1, o R.1 i j + u.2)), ?_, rfl⟩
  unfold singl
  exact List.mem_flatMap.mpr ⟨R, hR, by rw [if_pos h1]; exact hop⟩
theorem ch_par {g : Gram} (hg : gOk g) (o : Own) (ws : List (List Nat)) {i j m x y s : Nat} (him : i < m) (hmj : m < j) {R : Rule} (hR : R ∈ g.2.1) {c2 : Nat} (h1 : R.2.2.1 = some c2) (hx : (ch g o ws i m x).isSome = true) (hcx : x / 625 = R.2.1) (hy : (ch g o ws m j y).isSome = true) (hcy : y / 625 = c2) (hs : mkS R x y = some s) : (ch g o ws i j s).isSome = true ∧ ∃ u v, ch g o ws i m x = some u ∧ ch g o ws m j y = some v ∧ (s, (u.1 * v.1, o R.1 i j + u.2 + v.2)) ∈ bOps g o ws (ch g o ws) i j := by
  obtain ⟨u, hu⟩ := Option.isSome_iff_exists.mp hx
  obtain ⟨v, hv⟩ := Option.isSome_iff_exists.mp hy
  have hop : (s, (u.1 * v.1, o R.1 i j + u.2 + v.2)) ∈ bOps g o ws (ch g o ws) i j := by
    unfold bOps
    refine List.mem_append.mpr (Or.inr (List.mem_flatMap.mpr ⟨m, mids_mem.mpr ⟨him, hmj⟩, ?_⟩))
    unfold pairs
    refine List.mem_flatMap.mpr ⟨R, hR, ?_⟩
    rw [if_neg (by rw [h1]; intro q; cases q)]
    unfold jOps
    refine List.mem_flatMap.mpr ⟨x, sL_mem.mpr ⟨(ch_sup hg o ws him hx).2, hx⟩, ?_⟩
    rw [if_pos hcx]
    refine List.mem_flatMap.mpr ⟨y, sL_mem.mpr ⟨(ch_sup hg o ws hmj hy).2, hy⟩, ?_⟩
    rw [if_pos (by rw [hcy, h1])]
    unfold pOp
    rw [hs, hu, hv]; exact List.mem_singleton.mpr rfl
  refine ⟨?_, u, v, hu, hv, hop⟩
  rw [ch_cell hg o ws (by omega), vA_some, Bool.or_eq_true]
  exact Or.inl (tot_some.mpr ⟨_, hop, rfl⟩)
theorem pk_s {b : Bool} {g : Gram} {T : Nat → Nat → Nat → Vl} {ws : List (List Nat)} {f i j c : Nat} {wt : Nat → Int} {n : Int} {dep : Nat} {op : Opt} {n1 : Int} (h : chG b (vO b g T wt i j) (optL g ws i j c) n = some (op, n1)) : pk b g T ws (f + 1) i j c wt n dep = (if op.1 < 0 then some (eSg (g.1.getD (opE op) dE), n1, [(eSg (g.1.getD (opE op) dE), i, j, op.1, dep)])
      else match pk b g T ws f i op.2 (g.2.1.getD op.1.toNat dR).2.1 (wFst b (g.2.1.getD op.1.toNat dR) (T op.2 j) wt) n1 (dep + 1) with
        | none => none
        | some (s, n2, nds) => if (g.2.1.getD op.1.toNat dR).2.2.1 = none then some ((mkS (g.2.1.getD op.1.toNat dR) s 0).getD 0, n2, ((mkS (g.2.1.getD op.1.toNat dR) s 0).getD 0, i, j, op.1, dep) :: nds)
          else match pk b g T ws f op.2 j ((g.2.1.getD op.1.toNat dR).2.2.1.getD 0) (fun y => mkW b wt (mkS (g.2.1.getD op.1.toNat dR) s y)) n2 (dep + 1) with
            | none => none
            | some (t, n3, nds2) => some ((mkS (g.2.1.getD op.1.toNat dR) s t).getD 0, n3, ((mkS (g.2.1.getD op.1.toNat dR) s t).getD 0, i, j, op.1, dep) :: (nds ++ nds2))) := by
  conv => lhs; unfold pk
  rw [h]
  rfl
theorem pkN_ok {g : Gram} (hg : gOk g) (h40 : g.1.length ≤ 40) (h30 : g.2.1.length ≤ 30) (o : Own) (ws : List (List Nat)) : ∀ f i j c (w : Nat → Nat) (n : Int) dep, i < j → c < 16 → 16 * (j - i - 1) + cntC (clos g.2.1) c + 1 ≤ f → (∀ s, w s ≤ 1000000000000000) → 0 ≤ n → n < (sat (cS (ch g o ws i j) c w) : Int) → ∃ s n' nds, pk false g (ch g o ws) ws f i j c (fun s => (w s : Int)) n dep = some (s, n', nds) ∧ (ch g o ws i j s).isSome = true ∧ s / 625 = c ∧ 0 ≤ n' ∧ n' < (w s : Int) ∧ n' ≤ n ∧ nds.length ≤ 32 * (j - i - 1) + cntC (clos g.2.1) c + 1 ∧ ∀ p ∈ nds, ndOk i j dep (16 * (j - i - 1) + cntC (clos g.2.1) c) p := by
  intro f
  induction f with
  | zero => intro i j c w n dep hij hc hf; exact absurd hf (by omega)
  | succ f ih =>
    intro i j c w n dep hij hc hf hw hn0 hn
    have hvO : ∀ op ∈ optL g ws i j c, vO false g (ch g o ws) (fun s => (w s : Int)) i j op = (sat (tO g (ch g o ws) w i j op) : Int) := fun op hop => by
      unfold vO tO
      split
      · rw [sat_id (hw _)]
      · exact vlG_N (fun _ => rfl) hw
    obtain ⟨op, n1, h1, h2, h3, h4, h5⟩ := chN_ok (optL g ws i j c) n hvO hn0 (by
      have e1 := sat_sumL (optL g ws i j c) (tO g (ch g o ws) w i j)
      rw [opt_sum hg o ws hij w] at e1
      omega)
    have hch : chG false (vO false g (ch g o ws) (fun s => (w s : Int)) i j) (optL g ws i j c) n = some (op, n1) := by
      unfold chG; rw [if_neg (by decide)]; exact h1
    have hdefn := pk_s (f := f) (dep := dep) hch
    rw [hdefn]
    rcases optL_in h2 with ⟨e, he, rfl, hj1, hcat, hword⟩ | ⟨r, hr, hor, hRc, hsp⟩
    · -- an entry
      have hEk := hg.1 _ (getD_mem he dE)
      rw [if_pos (show (-1 - (e : Int)) < 0 by omega), opE_e]
      have hv := hvO _ h2
      unfold vO at h4
      rw [if_pos (show (-1 - (e : Int)) < 0 by omega), opE_e] at h4
      have hsc : eSg (g.1.getD e dE) / 625 = c := by rw [← hcat]; have := hEk.2.2; unfold eSg; omega
      have hsl : eSg (g.1.getD e dE) < 10000 := by have := hEk.2.1; have := hEk.2.2; unfold eSg; omega
      refine ⟨_, n1, _, rfl, by rw [hj1]; exact ch_ent hg o ws he hword, hsc, h3, h4, h5, by simp, fun p hp => ?_⟩
      rw [List.mem_singleton] at hp; subst hp
      unfold ndOk
      refine ⟨hsl, Nat.le_refl _, hij, Nat.le_refl _, ?_, ?_, Nat.le_refl _, Nat.le_add_right _ _⟩
      · show -40 ≤ (-1 - (e : Int)); omega
      · show (-1 - (e : Int)) < 30; omega
    · -- a rule
      have hRm := getD_mem hr dR
      have hRk := hg.2.1 _ hRm
      have hrt : op.1.toNat = r := by rw [hor]; omega
      rw [if_neg (by rw [hor]; omega), hrt]
      unfold vO at h4
      rw [if_neg (by rw [hor]; omega), hrt] at h4
      have hby : -40 ≤ op.1 ∧ op.1 < 30 := by rw [hor]; omega
      generalize g.2.1.getD r dR = R at hRc hsp hRm hRk h4
      rw [vlG_N (fun _ => rfl) hw] at h4
      have hwF : wFst false R (ch g o ws op.2 j) (fun s => (w s : Int)) = fun x => ((sat (fT R (ch g o ws op.2 j) w x) : Nat) : Int) := by funext x; exact wFst_N (fun _ => rfl) hw x
      rw [hwF]
      have hcS : sat (vT R (ch g o ws i op.2) (ch g o ws op.2 j) w) = sat (cS (ch g o ws i op.2) R.2.1 (fun x => sat (fT R (ch g o ws op.2 j) w x))) := (sat_sM (sL (ch g o ws i op.2)) (fun x => x / 625 = R.2.1) (fun x => wy (ch g o ws i op.2 x)) (fun x => fT R (ch g o ws op.2 j) w x)).symm
      rw [hcS] at h4
      have hf16 := hRk.2.1
      have h15f := cnt_15 hg hf16
      have h15c := cnt_15 hg hc
      rcases hsp with ⟨hs1, hm⟩ | ⟨hs1, hm1, hm2⟩
      · -- of one part
        rw [hm] at h4 ⊢
        have hrk := gOk_rk hg hRm hs1
        rw [hRc] at hrk
        obtain ⟨s, n2, nds, k1, k2, k3, k4, k5, k6, k7, k8⟩ := ih i j R.2.1 (fun x => sat (fT R (ch g o ws j j) w x)) n1 (dep + 1) hij hf16 (by omega) (fun s => sat_le _) h3 h4
        rw [k1]
        show ∃ s' n' nds', (if R.2.2.1 = none then _ else _) = some (s', n', nds') ∧ _
        rw [if_pos hs1]
        unfold fT at k5
        rw [if_pos hs1] at k5
        cases hmk : mkS R s 0 with
        | none =>
          rw [hmk] at k5
          exact absurd k5 (by show ¬ n2 < ((sat 0 : Nat) : Int); have : sat 0 = 0 := rfl; omega)
        | some u =>
          rw [hmk, show wO w (some u) = w u from rfl, sat_id (hw u)] at k5
          have hu := mkS_in hRk hmk
          refine ⟨u, n2, (u, i, j, op.1, dep) :: nds, rfl, (ch_sng hg o ws hij hRm hs1 k2 k3 hmk).1, by rw [hu.2, hRc], k4, k5, by omega, by rw [List.length_cons]; omega, fun p hp => ?_⟩
          rcases List.mem_cons.mp hp with q | q
          · subst q
            exact ⟨hu.1, Nat.le_refl _, hij, Nat.le_refl _, hby.1, hby.2, Nat.le_refl _, Nat.le_add_right _ _⟩
          · exact ndOk_w (k8 p q) (Nat.le_refl _) (Nat.le_refl _) (by omega) (by omega)
      · -- of two parts
        obtain ⟨c2, hc2⟩ : ∃ c2, R.2.2.1 = some c2 := by
          cases q : R.2.2.1 with
          | none => exact absurd q hs1
          | some c2 => exact ⟨c2, rfl⟩
        have hc216 := hRk.2.2.1 c2 hc2
        have h15s := cnt_15 hg hc216
        obtain ⟨s, n2, nds, k1, k2, k3, k4, k5, k6, k7, k8⟩ := ih i op.2 R.2.1 (fun x => sat (fT R (ch g o ws op.2 j) w x)) n1 (dep + 1) hm1 hf16 (by omega) (fun s => sat_le _) h3 h4
        rw [k1]
        show ∃ s' n' nds', (if R.2.2.1 = none then _ else _) = some (s', n', nds') ∧ _
        rw [if_neg hs1, hc2]
        have hsec : fT R (ch g o ws op.2 j) w s = cS (ch g o ws op.2 j) c2 (fun y => wO w (mkS R s y)) := by
          unfold fT cS
          rw [if_neg hs1, hc2]
          refine sM_cg fun y _ => ?_
          by_cases q : y / 625 = c2
          · rw [if_pos (by rw [q]), if_pos q]
          · rw [if_neg (fun z => q (Option.some.inj z)), if_neg q]
        rw [hsec] at k5
        have hwO : ∀ y, wO w (mkS R s y) ≤ 1000000000000000 := fun y => by
          cases mkS R s y with
          | none => exact Nat.zero_le _
          | some u => exact hw u
        have hmW : (fun y => mkW false (fun s => (w s : Int)) (mkS R s y)) = fun y => ((wO w (mkS R s y) : Nat) : Int) := by
          funext y
          rw [mkW_N (fun _ => rfl) hw, sat_id (hwO y)]
        obtain ⟨t, n3, nds2, q1, q2, q3, q4, q5, q6, q7, q8⟩ := ih op.2 j c2 (fun y => wO w (mkS R s y)) n2 (dep + 1) hm2 hc216 (by omega) hwO k4 k5
        rw [hmW]
        show ∃ s' n' nds', (match pk false g (ch g o ws) ws f op.2 j c2 (fun y => ((wO w (mkS R s y) : Nat) : Int)) n2 (dep + 1) with | none => none | some (t, n3, nds2) => _) = some (s', n', nds') ∧ _
        rw [q1]
        cases hmk : mkS R s t with
        | none =>
          rw [hmk] at q5
          exact absurd q5 (by show ¬ n3 < ((0 : Nat) : Int); omega)
        | some u =>
          rw [hmk, show wO w (some u) = w u from rfl] at q5
          have hu := mkS_in hRk hmk
          refine ⟨u, n3, (u, i, j, op.1, dep) :: (nds ++ nds2), (by show some ((mkS R s t).getD 0, n3, ((mkS R s t).getD 0, i, j, op.1, dep) :: (nds ++ nds2)) = _; rw [hmk]; rfl), (ch_par hg o ws hm1 hm2 hRm hc2 k2 k3 q2 q3 hmk).1, by rw [hu.2, hRc], q4, q5, by omega, by rw [List.length_cons, List.length_append]; omega, fun p hp => ?_⟩
          rcases List.mem_cons.mp hp with z | z
          · subst z
            exact ⟨hu.1, Nat.le_refl _, hij, Nat.le_refl _, hby.1, hby.2, Nat.le_refl _, Nat.le_add_right _ _⟩
          · rcases List.mem_append.mp z with z | z
            · exact ndOk_w (k8 p z) (Nat.le_refl _) (by omega) (by omega) (by omega)
            · exact ndOk_w (q8 p z) (by omega) (Nat.le_refl _) (by omega) (by omega)
