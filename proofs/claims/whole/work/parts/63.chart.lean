/-! ===== the chart: the plain function ===== -/
/-- what laws make of keys, what a rule makes of signs -/
def mkK (laws : List Law) (a b : Nat) : Option Nat :=
  match wDig 0 laws (dg a 0) (dg b 0), wDig 1 laws (dg a 1) (dg b 1), wDig 2 laws (dg a 2) (dg b 2), wDig 3 laws (dg a 3) (dg b 3) with
  | some x0, some x1, some x2, some x3 => some (x0 * 125 + x1 * 25 + x2 * 5 + x3)
  | _, _, _, _ => none
def mkS (R : Rule) (a b : Nat) : Option Nat := (mkK R.2.2.2.1 (a % 625) (b % 625)).map (625 * R.1 + ·)
theorem runF_ok {f : Nat} {parts : Nat} (hp : parts ≤ 2) : ∀ {laws : List Law} {D D' : Nat → Nat}, (∀ q ∈ laws, okLaw parts q) → okD D → runF f laws D = some D' → okD D'
  | [], D, D', _, h, e => by injection e with e; subst e; exact h
  | q :: ls, D, D', hq, h, e => by
    unfold runF at e
    by_cases c : q.2.1 = f
    · rw [if_pos c] at e
      cases z : obD q D with
      | none => rw [z] at e; cases e
      | some D1 => rw [z] at e; exact runF_ok hp (fun r hr => hq r (List.mem_cons_of_mem _ hr)) (okD_ob hp (hq q (List.mem_cons_self ..)) h z) e
    · rw [if_neg c] at e; exact runF_ok hp (fun r hr => hq r (List.mem_cons_of_mem _ hr)) h e
theorem wDig_le {f a b : Nat} {laws : List Law} {parts v : Nat} (hp : parts ≤ 2) (hq : ∀ q ∈ laws, okLaw parts q) (ha : a ≤ 4) (hb : b ≤ 4) (e : wDig f laws a b = some v) : v ≤ 4 := by
  unfold wDig at e
  cases z : runF f laws (dig3 a b) with
  | none => rw [z] at e; cases e
  | some D =>
    rw [z] at e; injection e with e; subst e
    refine runF_ok hp hq (fun i => ?_) z 0
    unfold dig3; split
    · exact ha
    · split
      · exact hb
      · omega
theorem dg_le (a f : Nat) : dg a f ≤ 4 := by unfold dg; have := Nat.mod_lt (a / wt f) (show 5 > 0 by omega); omega
theorem mkK_lt {laws : List Law} {a b k parts : Nat} (hp : parts ≤ 2) (hq : ∀ q ∈ laws, okLaw parts q) (e : mkK laws a b = some k) : k < 625 := by
  unfold mkK at e
  split at e
  · rename_i x0 x1 x2 x3 h0 h1 h2 h3
    injection e with e
    have := wDig_le hp hq (dg_le _ _) (dg_le _ _) h0
    have := wDig_le hp hq (dg_le _ _) (dg_le _ _) h1
    have := wDig_le hp hq (dg_le _ _) (dg_le _ _) h2
    have := wDig_le hp hq (dg_le _ _) (dg_le _ _) h3
    omega
  · cases e
theorem mkS_in {R : Rule} (hR : okR R) {a b s : Nat} (e : mkS R a b = some s) : s < 10000 ∧ s / 625 = R.1 := by
  unfold mkS at e
  cases z : mkK R.2.2.2.1 (a % 625) (b % 625) with
  | none => rw [z] at e; cases e
  | some k =>
    rw [z] at e; injection e with e
    have e' : 625 * R.1 + k = s := e
    have := mkK_lt (by split <;> omega) hR.2.2.2.2.1 z
    have := hR.1
    omega
/-- the cost of a node: category, from, to -/
abbrev Own : Type := Nat → Nat → Nat → Int
def eSg (E : Entry) : Nat := 625 * E.2.1 + E.2.2
def eOps (es : List Entry) (o : Own) (w : List Nat) (i : Nat) : List Op := es.flatMap fun E => if E.1 = w then [(eSg E, (1, o E.2.1 i (i + 1)))] else []
def pOp (own : Int) (R : Rule) (x y : Nat) (a b : Vl) : List Op := match mkS R x y, a, b with
  | some s, some a, some b => [(s, (a.1 * b.1, own + a.2 + b.2))]
  | _, _, _ => []
def jOps (o : Own) (R : Rule) (i j : Nat) (Va Vb : Nat → Vl) : List Op := (sL Va).flatMap fun x => if x / 625 = R.2.1 then ((sL Vb).flatMap fun y => if some (y / 625) = R.2.2.1 then pOp (o R.1 i j) R x y (Va x) (Vb y) else []) else []
def sOp (own : Int) (R : Rule) (x : Nat) (a : Vl) : List Op := match mkS R x 0, a with
  | some s, some a => [(s, (a.1, own + a.2))]
  | _, _ => []
def sOps (o : Own) (R : Rule) (i j : Nat) (V : Nat → Vl) : List Op := (sL V).flatMap fun x => if x / 625 = R.2.1 then sOp (o R.1 i j) R x (V x) else []
def pairs (rs : List Rule) (o : Own) (T : Nat → Nat → Nat → Vl) (i j m : Nat) : List Op := rs.flatMap fun R => if R.2.2.1 = none then [] else jOps o R i j (T i m) (T m j)
def mids (i j : Nat) : List Nat := List.range' (i + 1) (j - 1 - i)
def bOps (g : Gram) (o : Own) (ws : List (List Nat)) (T : Nat → Nat → Nat → Vl) (i j : Nat) : List Op := (if j = i + 1 then eOps g.1 o (ws.getD i []) i else []) ++ (mids i j).flatMap fun m => pairs g.2.1 o T i j m
def singl (rs : List Rule) (o : Own) (i j : Nat) (V : Nat → Vl) : List Op := rs.flatMap fun R => if R.2.2.1 = none then sOps o R i j V else []
def valF (rs : List Rule) (o : Own) (L : List Op) (i j : Nat) : Nat → Nat → Vl
  | 0 => tot L
  | k + 1 => fun s => vA (tot L s) (tot (singl rs o i j (valF rs o L i j k)) s)
def chW (g : Gram) (o : Own) (ws : List (List Nat)) : Nat → Nat → Nat → Nat → Vl
  | 0 => fun _ _ _ => none
  | w + 1 => fun i j => if j ≤ i + w then chW g o ws w i j else valF g.2.1 o (bOps g o ws (chW g o ws w) i j) i j 16
def ch (g : Gram) (o : Own) (ws : List (List Nat)) (i j : Nat) : Nat → Vl := chW g o ws (j - i) i j
theorem chW_ch (g : Gram) (o : Own) (ws : List (List Nat)) : ∀ w i j, j ≤ i + w → chW g o ws w i j = ch g o ws i j
  | 0, i, j, h => by unfold ch; rw [show j - i = 0 by omega]
  | w + 1, i, j, h => by
    by_cases e : j ≤ i + w
    · rw [← chW_ch g o ws w i j e]
      show (if j ≤ i + w then _ else _) = _
      rw [if_pos e]
    · unfold ch; rw [show j - i = w + 1 by omega]
theorem mids_mem {i j m : Nat} : m ∈ mids i j ↔ i < m ∧ m < j := by unfold mids; rw [List.mem_range'_1]; omega
theorem fm_cg {α β : Type} {l : List α} {F G : α → List β} (h : ∀ a ∈ l, F a = G a) : l.flatMap F = l.flatMap G := by
  induction l with
  | nil => rfl
  | cons x l ih => rw [List.flatMap_cons, List.flatMap_cons, h x (List.mem_cons_self ..), ih fun a ha => h a (List.mem_cons_of_mem _ ha)]
theorem bOps_cg {g : Gram} {o : Own} {ws : List (List Nat)} {T T' : Nat → Nat → Nat → Vl} {i j : Nat} (h : ∀ m, i < m → m < j → T i m = T' i m ∧ T m j = T' m j) : bOps g o ws T i j = bOps g o ws T' i j := by
  unfold bOps
  refine congrArg (_ ++ ·) (fm_cg fun m hm => ?_)
  have := mids_mem.mp hm
  have := h m this.1 this.2
  unfold pairs
  rw [this.1, this.2]
/-- a cell is made of the smaller ones -/
theorem ch_eq (g : Gram) (o : Own) (ws : List (List Nat)) {i j : Nat} (h : i < j) : ch g o ws i j = valF g.2.1 o (bOps g o ws (ch g o ws) i j) i j 16 := by
  unfold ch
  rw [show j - i = (j - i - 1) + 1 by omega]
  show (if j ≤ i + (j - i - 1) then _ else _) = _
  rw [if_neg (by omega), bOps_cg (T := chW g o ws (j - i - 1)) (T' := ch g o ws) fun m h1 h2 => ⟨chW_ch g o ws _ i m (by omega), chW_ch g o ws _ m j (by omega)⟩]
  rfl
/-- additions by single rules: only the parts' category counts -/
theorem sL_fil {V V' : Nat → Vl} {c : Nat} (h : ∀ s, s / 625 = c → V s = V' s) {F : Nat → Vl → List Op} : ((sL V).flatMap fun x => if x / 625 = c then F x (V x) else []) = ((sL V').flatMap fun x => if x / 625 = c then F x (V' x) else []) := by
  unfold sL
  generalize List.range 10000 = l
  induction l with
  | nil => rfl
  | cons a l ih =>
    rw [List.filter_cons, List.filter_cons]
    by_cases e : a / 625 = c
    · rw [h a e]
      by_cases z : (V' a).isSome = true
      · rw [if_pos z, if_pos z, List.flatMap_cons, List.flatMap_cons, if_pos e, if_pos e, ih, h a e]
      · rw [if_neg z, if_neg z]; exact ih
    · have k : ∀ (W : Nat → Vl) (M : List Nat), ((if (W a).isSome = true then a :: M else M).flatMap fun x => if x / 625 = c then F x (W x) else []) = M.flatMap fun x => if x / 625 = c then F x (W x) else [] := by
        intro W M
        by_cases z : (W a).isSome = true
        · rw [if_pos z, List.flatMap_cons, if_neg e]; rfl
        · rw [if_neg z]
      rw [k V, k V']; exact ih
theorem sOps_cg {o : Own} {R : Rule} {i j : Nat} {V V' : Nat → Vl} (h : ∀ s, s / 625 = R.2.1 → V s = V' s) : sOps o R i j V = sOps o R i j V' := sL_fil (F := fun x v => sOp (o R.1 i j) R x v) h
theorem sOps_in {o : Own} {R : Rule} {i j : Nat} {V : Nat → Vl} (hR : okR R) {p : Op} (h : p ∈ sOps o R i j V) : p.1 < 10000 ∧ p.1 / 625 = R.1 := by
  unfold sOps at h
  obtain ⟨x, hx, h⟩ := List.mem_flatMap.mp h
  by_cases e : x / 625 = R.2.1
  · rw [if_pos e] at h
    unfold sOp at h
    split at h
    · rename_i s a hs _
      rw [List.mem_singleton] at h; subst h; exact mkS_in hR hs
    · cases h
  · rw [if_neg e] at h; cases h
theorem jOps_in {o : Own} {R : Rule} {i j : Nat} {V V' : Nat → Vl} (hR : okR R) {p : Op} (h : p ∈ jOps o R i j V V') : p.1 < 10000 ∧ p.1 / 625 = R.1 := by
  unfold jOps at h
  obtain ⟨x, hx, h⟩ := List.mem_flatMap.mp h
  by_cases e : x / 625 = R.2.1
  · rw [if_pos e] at h
    obtain ⟨y, hy, h⟩ := List.mem_flatMap.mp h
    by_cases e2 : some (y / 625) = R.2.2.1
    · rw [if_pos e2] at h
      unfold pOp at h
      split at h
      · rename_i s a b hs _ _
        rw [List.mem_singleton] at h; subst h; exact mkS_in hR hs
      · cases h
    · rw [if_neg e2] at h; cases h
  · rw [if_neg e] at h; cases h
/-- rules that make another category don't count -/
theorem singl_cg {rs : List Rule} {o : Own} {i j : Nat} {V V' : Nat → Vl} {s : Nat} (hok : ∀ R ∈ rs, okR R) (h : ∀ R ∈ rs, R.2.2.1 = none → R.1 = s / 625 → ∀ x, x / 625 = R.2.1 → V x = V' x) : tot (singl rs o i j V) s = tot (singl rs o i j V') s := by
  unfold singl
  refine tot_cg fun R hR => ?_
  by_cases e : R.2.2.1 = none
  · rw [if_pos e, if_pos e]
    by_cases c : R.1 = s / 625
    · rw [sOps_cg (h R hR e c)]
    · rw [tot_none, tot_none]
      · intro p hp z; have := sOps_in (hok R hR) hp; rw [z] at this; exact c this.2.symm
      · intro p hp z; have := sOps_in (hok R hR) hp; rw [z] at this; exact c this.2.symm
  · rw [if_neg e, if_neg e]
theorem valF_st {rs : List Rule} {o : Own} {L : List Op} {i j : Nat} (hok : ∀ R ∈ rs, okR R) (hrk : ∀ R ∈ rs, R.2.2.1 = none → cntC (clos rs) R.2.1 < cntC (clos rs) R.1) : ∀ k s, cntC (clos rs) (s / 625) ≤ k → valF rs o L i j (k + 1) s = valF rs o L i j k s
  | 0, s, h => by
    show vA (tot L s) (tot (singl rs o i j _) s) = tot L s
    have : tot (singl rs o i j (valF rs o L i j 0)) s = none := by
      refine tot_none fun p hp => ?_
      unfold singl at hp
      obtain ⟨R, hR, hp⟩ := List.mem_flatMap.mp hp
      by_cases e : R.2.2.1 = none
      · rw [if_pos e] at hp
        have := sOps_in (hok R hR) hp
        have := hrk R hR e
        intro z; subst z
        rw [← (sOps_in (hok R hR) hp).2] at this
        omega
      · rw [if_neg e] at hp; cases hp
    rw [this, vA_n]
  | k + 1, s, h => by
    show vA (tot L s) (tot (singl rs o i j (valF rs o L i j (k + 1))) s) = vA (tot L s) (tot (singl rs o i j (valF rs o L i j k)) s)
    rw [singl_cg hok]
    intro R hR e c x hx
    refine valF_st hok hrk k x ?_
    have := hrk R hR e
    rw [hx]; rw [c] at this; omega
/-- a cell's equation -/
theorem cell_eq {rs : List Rule} {o : Own} {L : List Op} {i j : Nat} (hok : ∀ R ∈ rs, okR R) (hrk : ∀ R ∈ rs, R.2.2.1 = none → cntC (clos rs) R.2.1 < cntC (clos rs) R.1) (s : Nat) : valF rs o L i j 16 s = vA (tot L s) (tot (singl rs o i j (valF rs o L i j 16)) s) := by
  rw [← valF_st hok hrk 16 s (cntC_le _ _)]; rfl
