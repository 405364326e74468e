/-! ===== by number: a tree is found ===== -/
def wO (w : Nat → Nat) (o : Option Nat) : Nat := match o with
  | some s => w s
  | none => 0
def fT (R : Rule) (Vb : Nat → Vl) (w : Nat → Nat) (x : Nat) : Nat := if R.2.2.1 = none then wO w (mkS R x 0) else sM (sL Vb) (fun y => if some (y / 625) = R.2.2.1 then wy (Vb y) * wO w (mkS R x y) else 0)
def vT (R : Rule) (Va Vb : Nat → Vl) (w : Nat → Nat) : Nat := sM (sL Va) (fun x => if x / 625 = R.2.1 then wy (Va x) * fT R Vb w x else 0)
theorem sat_i (n : Nat) : ((sat n : Nat) : Int) = min (n : Int) 1000000000000000 := by unfold sat; omega
theorem eitN (a b : Nat) : eitG false (sat a : Int) (sat b : Int) = (sat (a + b) : Int) := by
  unfold eitG; rw [if_neg (by decide), ← sat_add, sat_i (sat a + sat b)]; omega
theorem bthN (a b : Nat) : bthG false (sat a : Int) (sat b : Int) = (sat (a * b) : Int) := by
  unfold bthG; rw [if_neg (by decide), ← sat_mul, sat_i (sat a * sat b), Int.natCast_mul]
theorem fold_N {L : List Nat} {c : Nat → Prop} [DecidablePred c] {a : Nat → Int} {B : Nat → Nat} (h : ∀ y ∈ L, c y → a y = (sat (B y) : Int)) (A : Nat) : L.foldl (fun t y => if c y then eitG false t (a y) else t) (sat A : Int) = (sat (A + sM L (fun y => if c y then B y else 0)) : Int) := by
  induction L generalizing A with
  | nil => rw [sM_nil, Nat.add_zero]; rfl
  | cons y L ih =>
    rw [List.foldl_cons, sM_cons]
    by_cases e : c y
    · rw [if_pos e, if_pos e, h y (List.mem_cons_self ..) e, eitN, ih (fun z hz => h z (List.mem_cons_of_mem _ hz)), Nat.add_assoc]
    · rw [if_neg e, if_neg e, ih (fun z hz => h z (List.mem_cons_of_mem _ hz)), Nat.zero_add]
theorem mkW_N {wt : Nat → Int} {w : Nat → Nat} (h : ∀ s, wt s = (w s : Int)) (hw : ∀ s, w s ≤ 1000000000000000) (o : Option Nat) : mkW false wt o = (sat (wO w o) : Int) := by
  cases o with
  | none => rfl
  | some s => show wt s = _; rw [h s, show wO w (some s) = w s from rfl, sat_id (hw s)]
theorem wFst_N {R : Rule} {Vb : Nat → Vl} {wt : Nat → Int} {w : Nat → Nat} (h : ∀ s, wt s = (w s : Int)) (hw : ∀ s, w s ≤ 1000000000000000) (x : Nat) : wFst false R Vb wt x = (sat (fT R Vb w x) : Int) := by
  unfold wFst fT
  split
  · exact mkW_N h hw _
  · unfold wFi
    have := fold_N (L := sL Vb) (c := fun y => some (y / 625) = R.2.2.1) (a := fun y => bthG false (worG false (Vb y)) (mkW false wt (mkS R x y))) (B := fun y => wy (Vb y) * wO w (mkS R x y)) (fun y _ _ => by
      show bthG false ((sat (wy (Vb y)) : Nat) : Int) (mkW false wt (mkS R x y)) = _
      rw [mkW_N h hw, bthN]) 0
    rw [Nat.zero_add] at this
    exact this
theorem vlG_N {R : Rule} {Va Vb : Nat → Vl} {wt : Nat → Int} {w : Nat → Nat} (h : ∀ s, wt s = (w s : Int)) (hw : ∀ s, w s ≤ 1000000000000000) : vlG false R Va Vb wt (sL Va) = (sat (vT R Va Vb w) : Int) := by
  unfold vlG vT
  have := fold_N (L := sL Va) (c := fun x => x / 625 = R.2.1) (a := fun x => bthG false (worG false (Va x)) (wFst false R Vb wt x)) (B := fun x => wy (Va x) * fT R Vb w x) (fun x _ _ => by
    show bthG false ((sat (wy (Va x)) : Nat) : Int) (wFst false R Vb wt x) = _
    rw [wFst_N h hw, bthN]) 0
  rw [Nat.zero_add] at this
  exact this
theorem chN_ok {v : Opt → Int} {t : Opt → Nat} : ∀ (L : List Opt) (n : Int), (∀ o ∈ L, v o = (sat (t o) : Int)) → 0 ≤ n → n < (((L.map fun o => sat (t o)).sum : Nat) : Int) → ∃ o n', chN v L n = some (o, n') ∧ o ∈ L ∧ 0 ≤ n' ∧ n' < v o ∧ n' ≤ n
  | [], n, _, h0, h => by simp at h; omega
  | o :: L, n, hv, h0, h => by
    unfold chN
    by_cases e : n < v o
    · rw [if_pos e]; exact ⟨o, n, rfl, List.mem_cons_self .., h0, e, Int.le_refl _⟩
    · rw [if_neg e]
      have ho := hv o (List.mem_cons_self ..)
      rw [List.map_cons, List.sum_cons] at h
      obtain ⟨o', n', h1, h2, h3, h4, h5⟩ := chN_ok L (n - v o) (fun p hp => hv p (List.mem_cons_of_mem _ hp)) (by omega) (by omega)
      exact ⟨o', n', h1, List.mem_cons_of_mem _ h2, h3, h4, by omega⟩
theorem sat_sumL {α : Type} (L : List α) (t : α → Nat) : sat (L.map t).sum ≤ (L.map fun o => sat (t o)).sum := by
  induction L with
  | nil => exact Nat.le_refl _
  | cons a L ih =>
    rw [List.map_cons, List.map_cons, List.sum_cons, List.sum_cons]
    unfold sat at *; omega
theorem sat_sM (L : List Nat) (c : Nat → Prop) [DecidablePred c] (a b : Nat → Nat) : sat (sM L (fun x => if c x then a x * sat (b x) else 0)) = sat (sM L (fun x => if c x then a x * b x else 0)) := by
  induction L with
  | nil => rfl
  | cons x L ih =>
    rw [sM_cons, sM_cons, ← sat_add, ih, ← sat_add (if c x then a x * b x else 0)]
    congr 2
    split
    · rw [← sat_mul (a x) (sat (b x)), sat_sat, sat_mul]
    · rfl
/-- the sum over a category is the sum over its ways to be made -/
def tO (g : Gram) (T : Nat → Nat → Nat → Vl) (w : Nat → Nat) (i j : Nat) (o : Opt) : Nat := if o.1 < 0 then w (eSg (g.1.getD (opE o) dE)) else vT (g.2.1.getD o.1.toNat dR) (T i o.2) (T o.2 j) w
theorem j_sum (o : Own) (R : Rule) (i j c : Nat) (Va Vb : Nat → Vl) (w : Nat → Nat) (hR : okR R) (hc : R.1 = c) {c2 : Nat} (h2 : R.2.2.1 = some c2) : ((jOps o R i j Va Vb).map fun p => p.2.1 * (if p.1 / 625 = c then w p.1 else 0)).sum = vT R Va Vb w := by
  unfold jOps vT sM
  rw [ls_fm]
  refine congrArg List.sum (List.map_congr_left fun x hx => ?_)
  split
  · rw [ls_fm]
    unfold fT sM
    rw [if_neg (by rw [h2]; intro q; cases q)]
    obtain ⟨a, ha⟩ := Option.isSome_iff_exists.mp (sL_mem.mp hx).2
    have hmul : ∀ (L : List Nat) (f : Nat → Nat), wy (Va x) * (L.map f).sum = (L.map fun y => wy (Va x) * f y).sum := by
      intro L f
      induction L with
      | nil => rfl
      | cons y L ih => rw [List.map_cons, List.map_cons, List.sum_cons, List.sum_cons, Nat.mul_add, ih]
    rw [hmul]
    refine congrArg List.sum (List.map_congr_left fun y hy => ?_)
    split
    · obtain ⟨b, hb⟩ := Option.isSome_iff_exists.mp (sL_mem.mp hy).2
      unfold pOp
      cases hs : mkS R x y with
      | none => show 0 = _; rw [show wO w none = 0 from rfl]; simp
      | some s =>
        rw [ha, hb]
        have := (mkS_in hR hs).2
        show ((a.1 * b.1) * (if s / 625 = c then w s else 0)) + 0 = a.1 * (b.1 * w s)
        rw [if_pos (by rw [this, hc]), Nat.add_zero, Nat.mul_assoc]
    · rw [Nat.mul_zero]; rfl
  · rfl
theorem s_sum (o : Own) (R : Rule) (i j c : Nat) (V Vb : Nat → Vl) (w : Nat → Nat) (hR : okR R) (hc : R.1 = c) (h2 : R.2.2.1 = none) : ((sOps o R i j V).map fun p => p.2.1 * (if p.1 / 625 = c then w p.1 else 0)).sum = vT R V Vb w := by
  unfold sOps vT sM
  rw [ls_fm]
  refine congrArg List.sum (List.map_congr_left fun x hx => ?_)
  split
  · unfold fT
    rw [if_pos h2]
    obtain ⟨a, ha⟩ := Option.isSome_iff_exists.mp (sL_mem.mp hx).2
    unfold sOp
    cases hs : mkS R x 0 with
    | none => show 0 = _; rw [show wO w none = 0 from rfl, Nat.mul_zero]
    | some s =>
      rw [ha]
      have := (mkS_in hR hs).2
      show a.1 * (if s / 625 = c then w s else 0) + 0 = a.1 * w s
      rw [if_pos (by rw [this, hc]), Nat.add_zero]
  · rfl
theorem ls_0 {α : Type} {L : List α} {f : α → Nat} (h : ∀ a ∈ L, f a = 0) : (L.map f).sum = 0 := by
  induction L with
  | nil => rfl
  | cons a L ih => rw [List.map_cons, List.sum_cons, h a (List.mem_cons_self ..), ih fun x hx => h x (List.mem_cons_of_mem _ hx)]
theorem ls_add {α : Type} (L : List α) (f g : α → Nat) : (L.map fun x => f x + g x).sum = (L.map f).sum + (L.map g).sum := by
  induction L with
  | nil => rfl
  | cons a L ih => rw [List.map_cons, List.map_cons, List.map_cons, List.sum_cons, List.sum_cons, List.sum_cons, ih]; omega
theorem ls_swap {α β : Type} (L : List α) (M : List β) (f : α → β → Nat) : (L.map fun a => (M.map fun b => f a b).sum).sum = (M.map fun b => (L.map fun a => f a b).sum).sum := by
  induction L with
  | nil => symm; exact ls_0 fun _ _ => rfl
  | cons a L ih =>
    rw [List.map_cons, List.sum_cons, ih, ← ls_add]
    refine congrArg List.sum (List.map_congr_left fun b _ => ?_)
    rw [List.map_cons, List.sum_cons]
theorem lst_rng {α : Type} (L : List α) (d : α) : L = (List.range L.length).map fun r => L.getD r d := by
  apply List.ext_getElem
  · simp
  · intro k h1 h2
    rw [List.getElem_map, List.getElem_range, gD_lt h1]
theorem opE_e (e : Nat) : opE ((-1 - (e : Int)), 0) = e := by unfold opE; show (-1 - (-1 - (e : Int))).toNat = e; omega
theorem opt_sum {g : Gram} (hg : gOk g) (o : Own) (ws : List (List Nat)) {i j c : Nat} (hij : i < j) (w : Nat → Nat) : ((optL g ws i j c).map (tO g (ch g o ws) w i j)).sum = cS (ch g o ws i j) c w := by
  have hV : ∀ s, ch g o ws i j s = tot (bOps g o ws (ch g o ws) i j ++ singl g.2.1 o i j (ch g o ws i j)) s := fun s => by rw [tot_app, ← ch_cell hg o ws hij s]
  have hin : ∀ p ∈ bOps g o ws (ch g o ws) i j ++ singl g.2.1 o i j (ch g o ws i j), p.1 < 10000 := fun p hp => by
    rcases List.mem_append.mp hp with q | q
    · exact bOps_in hg q
    · unfold singl at q
      obtain ⟨R, hR, q⟩ := List.mem_flatMap.mp q
      split at q
      · exact (sOps_in (hg.2.1 R hR) q).1
      · cases q
  rw [cS_rng, sM_cg (g := fun s => wy (tot (bOps g o ws (ch g o ws) i j ++ singl g.2.1 o i j (ch g o ws i j)) s) * (if s / 625 = c then w s else 0)) (fun s _ => by rw [hV s]), tot_sum hin]
  unfold optL bOps
  rw [ls_app, ls_app, ls_app, Nat.add_assoc]
  congr 1
  · -- entries
    split
    · unfold optE eOps
      rw [ls_fm, ls_fm, show (g.1.map fun E => ((if E.1 = ws.getD i [] then [(eSg E, 1, o E.2.1 i (i + 1))] else ([] : List Op)).map fun p => p.2.1 * (if p.1 / 625 = c then w p.1 else 0)).sum) = ((List.range g.1.length).map fun e => ((if (g.1.getD e dE).1 = ws.getD i [] then [(eSg (g.1.getD e dE), 1, o (g.1.getD e dE).2.1 i (i + 1))] else ([] : List Op)).map fun p => p.2.1 * (if p.1 / 625 = c then w p.1 else 0)).sum) from by
        conv => lhs; rw [lst_rng g.1 dE]
        rw [List.map_map]; rfl]
      refine congrArg List.sum (List.map_congr_left fun e he => ?_)
      have hE := hg.1 _ (getD_mem (List.mem_range.mp he) dE)
      generalize hEE : g.1.getD e dE = E at hE
      have hcat : eSg E / 625 = E.2.1 := by have := hE.2.2; unfold eSg; omega
      by_cases c1 : E.2.1 = c
      · rw [if_pos c1]
        split
        · show tO g (ch g o ws) w i j ((-1 - (e : Int)), 0) + 0 = 1 * (if eSg E / 625 = c then w (eSg E) else 0) + 0
          unfold tO
          rw [if_pos (show (-1 - (e : Int)) < 0 by omega), opE_e, hEE, if_pos (by rw [hcat]; exact c1), Nat.one_mul]
        · rfl
      · rw [if_neg c1]
        split
        · show 0 = 1 * (if eSg E / 625 = c then w (eSg E) else 0) + 0
          rw [if_neg (by rw [hcat]; exact c1)]
        · rfl
    · rfl
  · -- rules
    unfold optR
    rw [ls_fm, ls_fm]
    have hp : ((mids i j).map fun m => ((pairs g.2.1 o (ch g o ws) i j m).map fun p => p.2.1 * (if p.1 / 625 = c then w p.1 else 0)).sum).sum = ((List.range g.2.1.length).map fun r => ((mids i j).map fun m => ((if (g.2.1.getD r dR).2.2.1 = none then ([] : List Op) else jOps o (g.2.1.getD r dR) i j (ch g o ws i m) (ch g o ws m j)).map fun p => p.2.1 * (if p.1 / 625 = c then w p.1 else 0)).sum).sum).sum := by
      rw [← ls_swap]
      refine congrArg List.sum (List.map_congr_left fun m _ => ?_)
      unfold pairs
      rw [ls_fm]
      conv => lhs; rw [lst_rng g.2.1 dR]
      rw [List.map_map]; rfl
    have hs : ((singl g.2.1 o i j (ch g o ws i j)).map fun p => p.2.1 * (if p.1 / 625 = c then w p.1 else 0)).sum = ((List.range g.2.1.length).map fun r => ((if (g.2.1.getD r dR).2.2.1 = none then sOps o (g.2.1.getD r dR) i j (ch g o ws i j) else ([] : List Op)).map fun p => p.2.1 * (if p.1 / 625 = c then w p.1 else 0)).sum).sum := by
      unfold singl
      rw [ls_fm]
      conv => lhs; rw [lst_rng g.2.1 dR]
      rw [List.map_map]; rfl
    rw [hp, hs, ← ls_add]
    refine congrArg List.sum (List.map_congr_left fun r hr => ?_)
    have hR := hg.2.1 _ (getD_mem (List.mem_range.mp hr) dR)
    have hgr : ∀ m, tO g (ch g o ws) w i j ((r : Int), m) = vT (g.2.1.getD r dR) (ch g o ws i m) (ch g o ws m j) w := fun m => by
      unfold tO; rw [if_neg (show ¬ (r : Int) < 0 by omega)]; rfl
    generalize g.2.1.getD r dR = R at hR hgr
    by_cases c1 : R.1 = c
    · rw [if_pos c1]
      by_cases c2 : R.2.2.1 = none
      · simp only [if_pos c2]
        rw [s_sum o R i j c (ch g o ws i j) (ch g o ws j j) w hR c1 c2, ls_0 (L := mids i j) (f := fun m => (([] : List Op).map fun p => p.2.1 * (if p.1 / 625 = c then w p.1 else 0)).sum) (fun _ _ => rfl), Nat.zero_add]
        show tO g (ch g o ws) w i j ((r : Int), j) + 0 = _
        rw [hgr j, Nat.add_zero]
      · simp only [if_neg c2]
        obtain ⟨c3, h3⟩ : ∃ c3, R.2.2.1 = some c3 := by
          cases q : R.2.2.1 with
          | none => exact absurd q c2
          | some c3 => exact ⟨c3, rfl⟩
        rw [ls_fm]
        show _ = _ + 0
        rw [Nat.add_zero]
        refine congrArg List.sum (List.map_congr_left fun m _ => ?_)
        rw [j_sum o R i j c (ch g o ws i m) (ch g o ws m j) w hR c1 h3]
        show tO g (ch g o ws) w i j ((r : Int), m) + 0 = _
        rw [hgr m, Nat.add_zero]
    · rw [if_neg c1]
      symm
      show _ + _ = 0
      have hz : ∀ (L : List Op), (∀ p ∈ L, p.1 / 625 = R.1) → (L.map fun p => p.2.1 * (if p.1 / 625 = c then w p.1 else 0)).sum = 0 := fun L hL => ls_0 fun p hp => by rw [if_neg (by rw [hL p hp]; exact c1), Nat.mul_zero]
      rw [ls_0 (L := mids i j) (fun m _ => ?_), Nat.zero_add]
      · refine hz _ (fun p hp => ?_)
        split at hp
        · exact (sOps_in hR hp).2
        · cases hp
      · refine hz _ (fun p hp => ?_)
        split at hp
        · cases hp
        · exact (jOps_in hR hp).2
