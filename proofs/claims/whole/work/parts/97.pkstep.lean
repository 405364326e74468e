/-! ===== by number: one step down ===== -/
def rk (g : Gram) (c : Nat) : Nat := cntC (clos g.2.1) c
def preN (g : Gram) (o : Own) (ws : List (List Nat)) (f i j c : Nat) (w : Nat → Nat) (n : Nat) : Prop := i < j ∧ c < 16 ∧ 16 * (j - i - 1) + rk g c + 1 ≤ f ∧ (∀ s, w s ≤ 1000000000000000) ∧ n < sat (cS (ch g o ws i j) c w)
def resN (g : Gram) (o : Own) (ws : List (List Nat)) (i j c : Nat) (w : Nat → Nat) (n dep : Nat) (s n' : Nat) (nds : List Nd) : Prop := (ch g o ws i j s).isSome = true ∧ s / 625 = c ∧ s < 10000 ∧ n' < w s ∧ n' ≤ n ∧ nds.length ≤ 32 * (j - i - 1) + rk g c + 1 ∧ ∀ p ∈ nds, ndOk i j dep (16 * (j - i - 1) + rk g c) p
def pkN (g : Gram) (o : Own) (ws : List (List Nat)) (f i j c : Nat) (w : Nat → Nat) (n dep : Nat) : Option (Nat × Int × List Nd) := pk false g (ch g o ws) ws f i j c (fun s => (w s : Int)) (n : Int) dep
theorem pkN_res {g : Gram} (hg : gOk g) (h40 : g.1.length ≤ 40) (h30 : g.2.1.length ≤ 30) {o : Own} {ws : List (List Nat)} {f i j c : Nat} {w : Nat → Nat} {n : Nat} (dep : Nat) (h : preN g o ws f i j c w n) : ∃ s n' nds, pkN g o ws f i j c w n dep = some (s, ((n' : Nat) : Int), nds) ∧ resN g o ws i j c w n dep s n' nds := by
  obtain ⟨h1, h2, h3, h4, h5⟩ := h
  obtain ⟨s, n', nds, k1, k2, k3, k4, k5, k6, k7, k8⟩ := pkN_ok hg h40 h30 o ws f i j c w n dep h1 h2 h3 h4 (by omega) (by omega)
  refine ⟨s, n'.toNat, nds, ?_, k2, k3, (ch_sup hg o ws h1 k2).2, by omega, by omega, k7, k8⟩
  unfold pkN; rw [k1, show ((n'.toNat : Nat) : Int) = n' by omega]
def vNn (g : Gram) (o : Own) (ws : List (List Nat)) (w : Nat → Nat) (i j : Nat) (op : Opt) : Nat := sat (tO g (ch g o ws) w i j op)
def chM' (v : Opt → Nat) : List Opt → Nat → Option (Opt × Nat)
  | [], _ => none
  | o :: L, n => if n < v o then some (o, n) else chM' v L (n - v o)
theorem chM_N {v : Opt → Nat} {u : Opt → Int} : ∀ (L : List Opt) (n : Nat), (∀ o ∈ L, u o = (v o : Int)) → chN u L (n : Int) = (chM' v L n).map (fun p => (p.1, ((p.2 : Nat) : Int)))
  | [], n, _ => rfl
  | o :: L, n, h => by
    have ho := h o (List.mem_cons_self ..)
    unfold chN chM'
    by_cases e : n < v o
    · rw [if_pos (by omega), if_pos e]; rfl
    · rw [if_neg (by omega), if_neg e, show (n : Int) - u o = ((n - v o : Nat) : Int) by omega]
      exact chM_N L (n - v o) (fun p hp => h p (List.mem_cons_of_mem _ hp))
/-- what is chosen, and what it leads to -/
theorem pkN_step {g : Gram} (hg : gOk g) (h40 : g.1.length ≤ 40) (h30 : g.2.1.length ≤ 30) {o : Own} {ws : List (List Nat)} {f i j c : Nat} {w : Nat → Nat} {n : Nat} (dep : Nat) (h : preN g o ws (f + 1) i j c w n) : ∃ op n1, chM' (vNn g o ws w i j) (optL g ws i j c) n = some (op, n1) ∧
    ((∃ e, e < g.1.length ∧ op = ((-1 - (e : Int)), 0) ∧ j = i + 1 ∧ (g.1.getD e dE).2.1 = c ∧ pkN g o ws (f + 1) i j c w n dep = some (eSg (g.1.getD e dE), (n1 : Int), [(eSg (g.1.getD e dE), i, j, (-1 - (e : Int)), dep)])) ∨
     (∃ r, r < g.2.1.length ∧ op.1 = (r : Int) ∧ (g.2.1.getD r dR).1 = c ∧
       ((∃ s n2 nds u, (g.2.1.getD r dR).2.2.1 = none ∧ op.2 = j ∧ preN g o ws f i j (g.2.1.getD r dR).2.1 (fun x => sat (fT (g.2.1.getD r dR) (ch g o ws j j) w x)) n1 ∧ pkN g o ws f i j (g.2.1.getD r dR).2.1 (fun x => sat (fT (g.2.1.getD r dR) (ch g o ws j j) w x)) n1 (dep + 1) = some (s, ((n2 : Nat) : Int), nds) ∧ s < 10000 ∧ mkS (g.2.1.getD r dR) s 0 = some u ∧ pkN g o ws (f + 1) i j c w n dep = some (u, (n2 : Int), (u, i, j, (r : Int), dep) :: nds)) ∨
        (∃ c2 s n2 nds t n3 nds2 u, (g.2.1.getD r dR).2.2.1 = some c2 ∧ i < op.2 ∧ op.2 < j ∧ preN g o ws f i op.2 (g.2.1.getD r dR).2.1 (fun x => sat (fT (g.2.1.getD r dR) (ch g o ws op.2 j) w x)) n1 ∧ pkN g o ws f i op.2 (g.2.1.getD r dR).2.1 (fun x => sat (fT (g.2.1.getD r dR) (ch g o ws op.2 j) w x)) n1 (dep + 1) = some (s, ((n2 : Nat) : Int), nds) ∧ s < 10000 ∧ preN g o ws f op.2 j c2 (fun y => wO w (mkS (g.2.1.getD r dR) s y)) n2 ∧ pkN g o ws f op.2 j c2 (fun y => wO w (mkS (g.2.1.getD r dR) s y)) n2 (dep + 1) = some (t, ((n3 : Nat) : Int), nds2) ∧ t < 10000 ∧ mkS (g.2.1.getD r dR) s t = some u ∧ pkN g o ws (f + 1) i j c w n dep = some (u, (n3 : Int), (u, i, j, (r : Int), dep) :: (nds ++ nds2)))))) := by
  obtain ⟨hij, hc, hf, hw, hn⟩ := h
  have hvO : ∀ op ∈ optL g ws i j c, vO false g (ch g o ws) (fun s => (w s : Int)) i j op = (vNn g o ws w i j op : Int) := fun op hop => by
    unfold vO vNn tO
    split
    · rw [sat_id (hw _)]
    · exact vlG_N (fun _ => rfl) hw
  obtain ⟨op, n1i, h1, h2, h3, h4, h5⟩ := chN_ok (v := vO false g (ch g o ws) (fun s => (w s : Int)) i j) (t := tO g (ch g o ws) w i j) (optL g ws i j c) n hvO (by omega) (by
    have e1 := sat_sumL (optL g ws i j c) (tO g (ch g o ws) w i j)
    rw [opt_sum hg o ws hij w] at e1
    omega)
  obtain ⟨n1, rfl⟩ : ∃ k : Nat, n1i = (k : Int) := ⟨n1i.toNat, by omega⟩
  have hM := chM_N (v := vNn g o ws w i j) (optL g ws i j c) n hvO
  rw [h1] at hM
  have hM' : chM' (vNn g o ws w i j) (optL g ws i j c) n = some (op, n1) := by
    cases q : chM' (vNn g o ws w i j) (optL g ws i j c) n with
    | none => rw [q] at hM; cases hM
    | some p =>
      rw [q] at hM
      injection hM with hM
      injection hM with e1 e2
      rw [show p = (op, n1) from Prod.ext e1.symm (by show p.2 = n1; have : (n1 : Int) = (p.2 : Int) := e2; omega)]
  refine ⟨op, n1, hM', ?_⟩
  have hch : chG false (vO false g (ch g o ws) (fun s => (w s : Int)) i j) (optL g ws i j c) n = some (op, (n1 : Int)) := by
    unfold chG; rw [if_neg (by decide)]; exact h1
  have hdefn := pk_s (f := f) (dep := dep) hch
  have hpkN : pkN g o ws (f + 1) i j c w n dep = pk false g (ch g o ws) ws (f + 1) i j c (fun s => (w s : Int)) (n : Int) dep := rfl
  rcases optL_in h2 with ⟨e, he, hop, hj1, hcat, hword⟩ | ⟨r, hr, hor, hRc, hsp⟩
  · left
    refine ⟨e, he, hop, hj1, hcat, ?_⟩
    rw [hpkN, hdefn, hop, if_pos (show (-1 - (e : Int)) < 0 by omega), opE_e]
  · right
    refine ⟨r, hr, hor, hRc, ?_⟩
    have hRm := getD_mem hr dR
    have hRk := hg.2.1 _ hRm
    have hrt : op.1.toNat = r := by rw [hor]; omega
    rw [if_neg (by rw [hor]; omega), hrt] at hdefn
    unfold vO at h4
    rw [if_neg (by rw [hor]; omega), hrt] at h4
    generalize g.2.1.getD r dR = R at hRc hsp hRm hRk h4 hdefn ⊢
    rw [vlG_N (fun _ => rfl) hw] at h4
    have hwF : wFst false R (ch g o ws op.2 j) (fun s => (w s : Int)) = fun x => ((sat (fT R (ch g o ws op.2 j) w x) : Nat) : Int) := by funext x; exact wFst_N (fun _ => rfl) hw x
    rw [hwF] at hdefn
    have hcS : sat (vT R (ch g o ws i op.2) (ch g o ws op.2 j) w) = sat (cS (ch g o ws i op.2) R.2.1 (fun x => sat (fT R (ch g o ws op.2 j) w x))) := (sat_sM (sL (ch g o ws i op.2)) (fun x => x / 625 = R.2.1) (fun x => wy (ch g o ws i op.2 x)) (fun x => fT R (ch g o ws op.2 j) w x)).symm
    rw [hcS] at h4
    have hf16 := hRk.2.1
    have h15f := cnt_15 hg hf16
    have h15c := cnt_15 hg hc
    unfold rk at hf
    rcases hsp with ⟨hs1, hm⟩ | ⟨hs1, hm1, hm2⟩
    · left
      rw [hm] at h4 hdefn
      have hrk := gOk_rk hg hRm hs1
      rw [hRc] at hrk
      have hpre : preN g o ws f i j R.2.1 (fun x => sat (fT R (ch g o ws j j) w x)) n1 := ⟨hij, hf16, by unfold rk; omega, fun s => sat_le _, by omega⟩
      obtain ⟨s, n2, nds, k1, k2, k3, k4, k5, k6, k7, k8⟩ := pkN_res hg h40 h30 (dep + 1) hpre
      have k5' : n2 < sat (fT R (ch g o ws j j) w s) := k5
      unfold fT at k5'
      rw [if_pos hs1] at k5'
      unfold pkN at k1
      rw [k1] at hdefn
      cases hmk : mkS R s 0 with
      | none =>
        rw [hmk] at k5'
        exact absurd k5' (by show ¬ n2 < sat 0; have : sat 0 = 0 := rfl; omega)
      | some u =>
        refine ⟨s, n2, nds, u, hs1, hm, hpre, k1, k4, hmk, ?_⟩
        rw [hpkN, hdefn]
        show (if R.2.2.1 = none then some ((mkS R s 0).getD 0, ((n2 : Nat) : Int), ((mkS R s 0).getD 0, i, j, op.1, dep) :: nds) else _) = _
        rw [if_pos hs1, hmk, hor]; rfl
    · right
      obtain ⟨c2, hc2⟩ : ∃ c2, R.2.2.1 = some c2 := by
        cases q : R.2.2.1 with
        | none => exact absurd q hs1
        | some c2 => exact ⟨c2, rfl⟩
      have hc216 := hRk.2.2.1 c2 hc2
      have h15s := cnt_15 hg hc216
      have hpre : preN g o ws f i op.2 R.2.1 (fun x => sat (fT R (ch g o ws op.2 j) w x)) n1 := ⟨hm1, hf16, by unfold rk; omega, fun s => sat_le _, by omega⟩
      obtain ⟨s, n2, nds, k1, k2, k3, k4, k5, k6, k7, k8⟩ := pkN_res hg h40 h30 (dep + 1) hpre
      have hsec : fT R (ch g o ws op.2 j) w s = cS (ch g o ws op.2 j) c2 (fun y => wO w (mkS R s y)) := by
        unfold fT cS
        rw [if_neg hs1, hc2]
        refine sM_cg fun y _ => ?_
        by_cases q : y / 625 = c2
        · rw [if_pos (by rw [q]), if_pos q]
        · rw [if_neg (fun z => q (Option.some.inj z)), if_neg q]
      have k5' : n2 < sat (fT R (ch g o ws op.2 j) w s) := k5
      rw [hsec] at k5'
      have hwO : ∀ y, wO w (mkS R s y) ≤ 1000000000000000 := fun y => by
        cases mkS R s y with
        | none => exact Nat.zero_le _
        | some u => exact hw u
      have hmW : (fun y => mkW false (fun s => (w s : Int)) (mkS R s y)) = fun y => ((wO w (mkS R s y) : Nat) : Int) := by
        funext y
        rw [mkW_N (fun _ => rfl) hw, sat_id (hwO y)]
      have hpre2 : preN g o ws f op.2 j c2 (fun y => wO w (mkS R s y)) n2 := ⟨hm2, hc216, by unfold rk; omega, hwO, k5'⟩
      obtain ⟨t, n3, nds2, q1, q2, q3, q4, q5, q6, q7, q8⟩ := pkN_res hg h40 h30 (dep + 1) hpre2
      have q5' : n3 < wO w (mkS R s t) := q5
      unfold pkN at k1 q1
      rw [k1] at hdefn
      cases hmk : mkS R s t with
      | none =>
        rw [hmk] at q5'
        exact absurd q5' (by show ¬ n3 < 0; omega)
      | some u =>
        refine ⟨c2, s, n2, nds, t, n3, nds2, u, hc2, hm1, hm2, hpre, k1, k4, hpre2, q1, q4, hmk, ?_⟩
        rw [hpkN, hdefn]
        show (if R.2.2.1 = none then _ else (match pk false g (ch g o ws) ws f op.2 j (R.2.2.1.getD 0) (fun y => mkW false (fun s => (w s : Int)) (mkS R s y)) ((n2 : Nat) : Int) (dep + 1) with | none => none | some (t, n3, nds2) => some ((mkS R s t).getD 0, n3, ((mkS R s t).getD 0, i, j, op.1, dep) :: (nds ++ nds2)))) = _
        rw [if_neg hs1, hc2, hmW]
        show (match pk false g (ch g o ws) ws f op.2 j c2 (fun y => ((wO w (mkS R s y) : Nat) : Int)) ((n2 : Nat) : Int) (dep + 1) with | none => none | some (t, n3, nds2) => some ((mkS R s t).getD 0, n3, ((mkS R s t).getD 0, i, j, op.1, dep) :: (nds ++ nds2))) = _
        rw [q1]
        show some ((mkS R s t).getD 0, ((n3 : Nat) : Int), ((mkS R s t).getD 0, i, j, op.1, dep) :: (nds ++ nds2)) = _
        rw [hmk, hor]; rfl
