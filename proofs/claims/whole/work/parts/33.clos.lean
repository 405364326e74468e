/-! ===== what a category leads to by rules of one part: the plain function ===== -/
def bI (b : Bool) : Int32 := if b = true then 1 else 0
theorem nar0 : vp_nar .boolean 0 = 0 := by decide +kernel
theorem nar1 : vp_nar .boolean 1 = 1 := by decide +kernel
def cl0 (rs : List Rule) (a b : Nat) : Bool := rs.any fun R => R.2.2.1 == none && (R.1 == a && R.2.1 == b)
def clS (c a : Nat) (f : Nat → Nat → Bool) : Nat → Nat → Bool := fun x y => if x = a then (f a y || (f a c && f c y)) else f x y
def clA (c : Nat) : Nat → (Nat → Nat → Bool) → Nat → Nat → Bool
  | 0, f => f
  | m + 1, f => clS c m (clA c m f)
def clC : Nat → (Nat → Nat → Bool) → Nat → Nat → Bool
  | 0, f => f
  | m + 1, f => clA m 16 (clC m f)
def clos (rs : List Rule) : Nat → Nat → Bool := clC 16 (cl0 rs)
theorem if_bI {b : Bool} {x : Int32} {P R : Prop} (hx : x = bI b) (h1 : b = false → P) (h2 : b = true → R) : if x = 0 then P else R := if_b hx h1 h2
theorem o2i_iff {o : Option Nat} (h : ∀ c, o = some c → c < 16) : o2i o = -1 ↔ o = none := by
  cases o with
  | none => exact ⟨fun _ => rfl, fun _ => rfl⟩
  | some c => exact ⟨fun z => absurd z (ne_m1 (by have := h c rfl; omega)), fun z => by cases z⟩
theorem take_snoc {α : Type} (l : List α) (d : α) {r : Nat} (h : r < l.length) : l.take (r + 1) = l.take r ++ [l.getD r d] := by
  rw [gD_lt h, List.take_succ_eq_append_getElem h]
theorem cl0_snoc (rs : List Rule) (R : Rule) (a b : Nat) : cl0 (rs ++ [R]) a b = (cl0 rs a b || (R.2.2.1 == none && (R.1 == a && R.2.1 == b))) := by simp [cl0]
