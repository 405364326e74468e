/-! ===== a tree found by its number, or by its cost: the plain function ===== -/
def lI (v : Int) : Int64 := Int64.ofInt v
theorem lI_n (n : Nat) : lI (n : Int) = lN n := Int64.ofInt_eq_ofNat
def nthG (b : Bool) : Int := if b = true then 1000000 else 0
def bthG (b : Bool) (x y : Int) : Int := if b = true then (if 1000000 ≤ x ∨ 1000000 ≤ y then 1000000 else x + y) else min (x * y) 1000000000000000
def eitG (b : Bool) (x y : Int) : Int := if b = true then min x y else min (x + y) 1000000000000000
def worG (b : Bool) (v : Vl) : Int := if b = true then cy v else (sat (wy v) : Int)
def mkW (b : Bool) (wt : Nat → Int) (o : Option Nat) : Int := match o with
  | some s => wt s
  | none => nthG b
def wFi (b : Bool) (R : Rule) (Vb : Nat → Vl) (wt : Nat → Int) (x : Nat) (L : List Nat) : Int := L.foldl (fun t y => if some (y / 625) = R.2.2.1 then eitG b t (bthG b (worG b (Vb y)) (mkW b wt (mkS R x y))) else t) (nthG b)
def wFst (b : Bool) (R : Rule) (Vb : Nat → Vl) (wt : Nat → Int) (x : Nat) : Int := if R.2.2.1 = none then mkW b wt (mkS R x 0) else wFi b R Vb wt x (sL Vb)
def vlG (b : Bool) (R : Rule) (Va Vb : Nat → Vl) (wt : Nat → Int) (L : List Nat) : Int := L.foldl (fun t x => if x / 625 = R.2.1 then eitG b t (bthG b (worG b (Va x)) (wFst b R Vb wt x)) else t) (nthG b)
abbrev Opt : Type := Int × Nat
def optE (g : Gram) (w : List Nat) (c : Nat) : List Opt := (List.range g.1.length).flatMap fun e => if (g.1.getD e dE).2.1 = c then (if (g.1.getD e dE).1 = w then [((-1 - (e : Int)), 0)] else []) else []
def optR (g : Gram) (i j c : Nat) : List Opt := (List.range g.2.1.length).flatMap fun r => if (g.2.1.getD r dR).1 = c then (if (g.2.1.getD r dR).2.2.1 = none then [((r : Int), j)] else (mids i j).flatMap fun m => [((r : Int), m)]) else []
def optL (g : Gram) (ws : List (List Nat)) (i j c : Nat) : List Opt := (if j = i + 1 then optE g (ws.getD i []) c else []) ++ optR g i j c
def opE (o : Opt) : Nat := (-1 - o.1).toNat
def vO (b : Bool) (g : Gram) (T : Nat → Nat → Nat → Vl) (wt : Nat → Int) (i j : Nat) (o : Opt) : Int := if o.1 < 0 then wt (eSg (g.1.getD (opE o) dE)) else vlG b (g.2.1.getD o.1.toNat dR) (T i o.2) (T o.2 j) wt (sL (T i o.2))
def chN (v : Opt → Int) : List Opt → Int → Option (Opt × Int)
  | [], _ => none
  | o :: L, n => if n < v o then some (o, n) else chN v L (n - v o)
def chC (v : Opt → Int) (L : List Opt) : Option Opt × Int := L.foldl (fun a o => if v o < a.2 then (some o, v o) else a) (none, 1000000)
def chG (b : Bool) (v : Opt → Int) (L : List Opt) (n : Int) : Option (Opt × Int) := if b = true then (chC v L).1.map (fun o => (o, n)) else chN v L n
def pk (b : Bool) (g : Gram) (T : Nat → Nat → Nat → Vl) (ws : List (List Nat)) : Nat → Nat → Nat → Nat → (Nat → Int) → Int → Nat → Option (Nat × Int × List Nd)
  | 0, _, _, _, _, _, _ => none
  | f + 1, i, j, c, wt, n, dep => match chG b (vO b g T wt i j) (optL g ws i j c) n with
    | none => none
    | some (o, n1) => if o.1 < 0 then some (eSg (g.1.getD (opE o) dE), n1, [(eSg (g.1.getD (opE o) dE), i, j, o.1, dep)])
      else match pk b g T ws f i o.2 (g.2.1.getD o.1.toNat dR).2.1 (wFst b (g.2.1.getD o.1.toNat dR) (T o.2 j) wt) n1 (dep + 1) with
        | none => none
        | some (s, n2, nds) => if (g.2.1.getD o.1.toNat dR).2.2.1 = none then some ((mkS (g.2.1.getD o.1.toNat dR) s 0).getD 0, n2, ((mkS (g.2.1.getD o.1.toNat dR) s 0).getD 0, i, j, o.1, dep) :: nds)
          else match pk b g T ws f o.2 j ((g.2.1.getD o.1.toNat dR).2.2.1.getD 0) (fun y => mkW b wt (mkS (g.2.1.getD o.1.toNat dR) s y)) n2 (dep + 1) with
            | none => none
            | some (t, n3, nds2) => some ((mkS (g.2.1.getD o.1.toNat dR) s t).getD 0, n3, ((mkS (g.2.1.getD o.1.toNat dR) s t).getD 0, i, j, o.1, dep) :: (nds ++ nds2))
/-! by number: sums in plain numbers -/
def sM (L : List Nat) (f : Nat → Nat) : Nat := (L.map f).sum
theorem sM_nil (f : Nat → Nat) : sM [] f = 0 := rfl
theorem sM_cons (a : Nat) (L : List Nat) (f : Nat → Nat) : sM (a :: L) f = f a + sM L f := by unfold sM; rw [List.map_cons, List.sum_cons]
theorem sM_add (L : List Nat) (f g : Nat → Nat) : sM L (fun x => f x + g x) = sM L f + sM L g := by
  induction L with
  | nil => rfl
  | cons a L ih => rw [sM_cons, sM_cons, sM_cons, ih]; omega
theorem sM_0 {L : List Nat} {f : Nat → Nat} (h : ∀ x ∈ L, f x = 0) : sM L f = 0 := by
  induction L with
  | nil => rfl
  | cons a L ih => rw [sM_cons, h a (List.mem_cons_self ..), ih fun x hx => h x (List.mem_cons_of_mem _ hx)]
theorem sM_cg {L : List Nat} {f g : Nat → Nat} (h : ∀ x ∈ L, f x = g x) : sM L f = sM L g := by
  induction L with
  | nil => rfl
  | cons a L ih => rw [sM_cons, sM_cons, h a (List.mem_cons_self ..), ih fun x hx => h x (List.mem_cons_of_mem _ hx)]
theorem sM_one {L : List Nat} {a : Nat} {v : Nat} (hn : L.Nodup) (h : a ∈ L) : sM L (fun x => if a = x then v else 0) = v := by
  induction L with
  | nil => cases h
  | cons b L ih =>
    rw [sM_cons]
    have hb := List.nodup_cons.mp hn
    by_cases e : a = b
    · subst e
      rw [if_pos rfl, sM_0]
      · rfl
      · intro x hx; rw [if_neg (fun q => hb.1 (by rw [q]; exact hx))]
    · rw [if_neg e, ih hb.2 ((List.mem_cons.mp h).resolve_left e), Nat.zero_add]
theorem wy_vA (a b : Vl) : wy (vA a b) = wy a + wy b := by
  cases a with
  | none => rw [vA_z]; show wy b = 0 + wy b; omega
  | some x => cases b with
    | none => rfl
    | some y => rfl
/-- a sum over signs is a sum over additions -/
theorem tot_sum {L : List Op} (h : ∀ p ∈ L, p.1 < 10000) (f : Nat → Nat) : sM (List.range 10000) (fun s => wy (tot L s) * f s) = (L.map fun p => p.2.1 * f p.1).sum := by
  induction L with
  | nil => exact sM_0 fun x _ => Nat.zero_mul _
  | cons o L ih =>
    have ih := ih fun p hp => h p (List.mem_cons_of_mem _ hp)
    rw [List.map_cons, List.sum_cons, ← ih]
    have e : ∀ s, wy (tot (o :: L) s) * f s = (if o.1 = s then o.2.1 * f o.1 else 0) + wy (tot L s) * f s := fun s => by
      show wy (if o.1 = s then vA (some o.2) (tot L s) else tot L s) * f s = _
      by_cases c : o.1 = s
      · rw [if_pos c, if_pos c, wy_vA, Nat.add_mul, c]; rfl
      · rw [if_neg c, if_neg c, Nat.zero_add]
    rw [sM_cg (g := fun s => (if o.1 = s then o.2.1 * f o.1 else 0) + wy (tot L s) * f s) (fun s _ => e s), sM_add, sM_one List.nodup_range (List.mem_range.mpr (h o (List.mem_cons_self ..)))]
theorem sM_fil (L : List Nat) (p : Nat → Bool) (f : Nat → Nat) (h : ∀ x ∈ L, p x = false → f x = 0) : sM (L.filter p) f = sM L f := by
  induction L with
  | nil => rfl
  | cons a L ih =>
    have ih := ih fun x hx => h x (List.mem_cons_of_mem _ hx)
    rw [List.filter_cons]
    by_cases c : p a = true
    · rw [if_pos c, sM_cons, sM_cons, ih]
    · rw [if_neg c, sM_cons, h a (List.mem_cons_self ..) (by simpa using c), ih, Nat.zero_add]
/-- the sum over a cell's signs of a category -/
def cS (V : Nat → Vl) (c : Nat) (f : Nat → Nat) : Nat := sM (sL V) (fun s => if s / 625 = c then wy (V s) * f s else 0)
theorem cS_rng (V : Nat → Vl) (c : Nat) (f : Nat → Nat) : cS V c f = sM (List.range 10000) (fun s => wy (V s) * (if s / 625 = c then f s else 0)) := by
  unfold cS sL
  rw [sM_fil]
  · refine sM_cg fun s _ => ?_
    split
    · rfl
    · rw [Nat.mul_zero]
  · intro s _ hs
    cases hv : V s with
    | none => split <;> simp [wy]
    | some v => rw [hv] at hs; cases hs
theorem ls_app {α : Type} (L M : List α) (f : α → Nat) : ((L ++ M).map f).sum = (L.map f).sum + (M.map f).sum := by rw [List.map_append, List.sum_append]
theorem ls_fm {α β : Type} (L : List α) (F : α → List β) (f : β → Nat) : ((L.flatMap F).map f).sum = (L.map fun a => ((F a).map f).sum).sum := by
  induction L with
  | nil => rfl
  | cons a L ih => rw [List.flatMap_cons, ls_app, List.map_cons, List.sum_cons, ih]
