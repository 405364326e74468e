/-! ===== ways don't depend on the drawing ===== -/
def eqW (V V' : Nat → Vl) : Prop := ∀ s, (V s).map Prod.fst = (V' s).map Prod.fst
def opW (L : List Op) : List (Nat × Nat) := L.map fun p => (p.1, p.2.1)
theorem vA_w {a b a' b' : Vl} (h1 : a.map Prod.fst = a'.map Prod.fst) (h2 : b.map Prod.fst = b'.map Prod.fst) : (vA a b).map Prod.fst = (vA a' b').map Prod.fst := by
  cases a <;> cases a' <;> cases b <;> cases b' <;> simp_all [vA]
theorem tot_w : ∀ {L L' : List Op}, opW L = opW L' → ∀ s, (tot L s).map Prod.fst = (tot L' s).map Prod.fst
  | [], [], _, s => rfl
  | [], _ :: _, h, s => by cases h
  | _ :: _, [], h, s => by cases h
  | p :: L, p' :: L', h, s => by
    unfold opW at h
    rw [List.map_cons, List.map_cons] at h
    injection h with h1 h2
    have ih := tot_w (L := L) (L' := L') h2 s
    injection h1 with h3 h4
    show (if p.1 = s then vA (some p.2) (tot L s) else tot L s).map _ = (if p'.1 = s then vA (some p'.2) (tot L' s) else tot L' s).map _
    rw [h3]
    by_cases e : p'.1 = s
    · rw [if_pos e, if_pos e]
      exact vA_w (by show some p.2.1 = some p'.2.1; rw [h4]) ih
    · rw [if_neg e, if_neg e]; exact ih
theorem opW_fm {α : Type} {l : List α} {F G : α → List Op} (h : ∀ a ∈ l, opW (F a) = opW (G a)) : opW (l.flatMap F) = opW (l.flatMap G) := by
  unfold opW
  rw [List.map_flatMap, List.map_flatMap]
  exact fm_cg h
theorem eqW_some {V V' : Nat → Vl} (h : eqW V V') (s : Nat) : (V s).isSome = (V' s).isSome := by
  have := h s
  cases a : V s <;> cases b : V' s <;> simp_all
theorem sL_w {V V' : Nat → Vl} (h : eqW V V') : sL V = sL V' := by
  unfold sL
  exact List.filter_congr fun s _ => eqW_some h s
theorem opW_app (L M : List Op) : opW (L ++ M) = opW L ++ opW M := List.map_append
theorem jOps_w {o o' : Own} {R : Rule} {i j : Nat} {Va Vb Va' Vb' : Nat → Vl} (ha : eqW Va Va') (hb : eqW Vb Vb') : opW (jOps o R i j Va Vb) = opW (jOps o' R i j Va' Vb') := by
  unfold jOps
  rw [sL_w ha, sL_w hb]
  refine opW_fm fun x _ => ?_
  split
  · refine opW_fm fun y _ => ?_
    split
    · unfold pOp
      have h1 := ha x; have h2 := hb y
      cases mkS R x y with
      | none => rfl
      | some s =>
        cases c1 : Va x <;> cases c2 : Va' x <;> cases c3 : Vb y <;> cases c4 : Vb' y <;> simp_all [opW]
    · rfl
  · rfl
theorem sOps_w {o o' : Own} {R : Rule} {i j : Nat} {V V' : Nat → Vl} (h : eqW V V') : opW (sOps o R i j V) = opW (sOps o' R i j V') := by
  unfold sOps
  rw [sL_w h]
  refine opW_fm fun x _ => ?_
  split
  · unfold sOp
    have h1 := h x
    cases mkS R x 0 with
    | none => rfl
    | some s => cases c1 : V x <;> cases c2 : V' x <;> simp_all [opW]
  · rfl
theorem bOps_w {g : Gram} {o o' : Own} {ws : List (List Nat)} {T T' : Nat → Nat → Nat → Vl} {i j : Nat} (h : ∀ a b, eqW (T a b) (T' a b)) : opW (bOps g o ws T i j) = opW (bOps g o' ws T' i j) := by
  unfold bOps
  have h1 : opW (if j = i + 1 then eOps g.1 o (ws.getD i []) i else []) = opW (if j = i + 1 then eOps g.1 o' (ws.getD i []) i else []) := by
    split
    · unfold eOps
      refine opW_fm fun E _ => ?_
      split <;> rfl
    · rfl
  have h2 : opW ((mids i j).flatMap fun m => pairs g.2.1 o T i j m) = opW ((mids i j).flatMap fun m => pairs g.2.1 o' T' i j m) := by
    refine opW_fm fun m _ => ?_
    unfold pairs
    refine opW_fm fun R _ => ?_
    split
    · rfl
    · exact jOps_w (h i m) (h m j)
  rw [opW_app, opW_app, h1, h2]
theorem valF_w {rs : List Rule} {o o' : Own} {L L' : List Op} {i j : Nat} (h : opW L = opW L') : ∀ k, eqW (valF rs o L i j k) (valF rs o' L' i j k)
  | 0 => fun s => tot_w h s
  | k + 1 => fun s => by
    refine vA_w (tot_w h s) (tot_w ?_ s)
    unfold singl
    refine opW_fm fun R _ => ?_
    split
    · exact sOps_w (valF_w h k)
    · rfl
theorem chW_w (g : Gram) (o o' : Own) (ws : List (List Nat)) : ∀ w i j, eqW (chW g o ws w i j) (chW g o' ws w i j)
  | 0, i, j => fun s => rfl
  | w + 1, i, j => by
    show eqW (if j ≤ i + w then chW g o ws w i j else _) (if j ≤ i + w then chW g o' ws w i j else _)
    split
    · exact chW_w g o o' ws w i j
    · exact valF_w (bOps_w (chW_w g o o' ws w)) 16
theorem ch_w (g : Gram) (o o' : Own) (ws : List (List Nat)) (i j : Nat) : eqW (ch g o ws i j) (ch g o' ws i j) := chW_w g o o' ws _ i j
theorem sL_ch (g : Gram) (o o' : Own) (ws : List (List Nat)) (i j : Nat) : sL (ch g o ws i j) = sL (ch g o' ws i j) := sL_w (ch_w g o o' ws i j)
theorem wy_w {a b : Vl} (h : a.map Prod.fst = b.map Prod.fst) : wy a = wy b := by cases a <;> cases b <;> simp_all [wy]
theorem wy_ch (g : Gram) (o o' : Own) (ws : List (List Nat)) (i j s : Nat) : wy (ch g o ws i j s) = wy (ch g o' ws i j s) := wy_w (ch_w g o o' ws i j s)
theorem okCh_o {g : Gram} {o o' : Own} {ws : List (List Nat)} (h : okCh g o ws) : okCh g o' ws := fun i j a b => by rw [sL_ch g o' o]; exact h i j a b
theorem chM_o {A : Nat → Nat → Int32} {B : Nat → Nat → Int64} {g : Gram} {o o' : Own} {ws : List (List Nat)} (h : chM A B g o ws) : chM A B g o' ws := fun i j a b => by
  have := h i j a b
  unfold cM at this ⊢
  rw [sL_ch g o' o]
  refine ⟨this.1, this.2.1, fun k hk => ?_⟩
  rw [wy_ch g o' o]; exact this.2.2 k hk
theorem rtT_w {c : Nat} {V V' : Nat → Vl} (h : eqW V V') : rtT c V = rtT c V' := by
  unfold rtT smW
  rw [sL_w h]
  refine congrArg List.sum (List.map_congr_left fun s _ => ?_)
  rw [wy_w (h s)]
