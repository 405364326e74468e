/-! ===== the judgement xWG: the machine, at a place of a method, with a world told by positions; one step is sound ===== -/
abbrev XMeth : Type := MethodName × ByteArray × Nat × Option FieldType × Bool × (Nat → Option XP) × (Nat → Option XRow) × Nat × Nat
abbrev xY (r : XMeth) : MethodName := r.1
abbrev xC (r : XMeth) : ByteArray := r.2.1
abbrev xML (r : XMeth) : Nat := r.2.2.1
abbrev xRT (r : XMeth) : Option FieldType := r.2.2.2.1
abbrev xIN (r : XMeth) : Bool := r.2.2.2.2.1
abbrev xPO (r : XMeth) : Nat → Option XP := r.2.2.2.2.2.1
abbrev xFE (r : XMeth) : Nat → Option XRow := r.2.2.2.2.2.2.1
abbrev xMC (r : XMeth) : Nat := r.2.2.2.2.2.2.2.1
abbrev xMS (r : XMeth) : Nat := r.2.2.2.2.2.2.2.2
theorem xat_eq {α : Type} : ∀ (l : List α) (i : Nat), xat l i = l[i]?
  | [], i => by simp [xat]
  | a :: r, 0 => by simp [xat]
  | a :: r, i + 1 => by simp [xat, xat_eq r i]
def rV (ad : Nat → Nat) (sa : Nat) : Value → Value
  | .ref p => .ref (ad p)
  | .retAddr _ => .ref sa
  | v => v
theorem rV_cat (ad : Nat → Nat) (sa : Nat) (v : Value) : (rV ad sa v).category = v.category := by cases v <;> rfl
def xr (ad : Nat → Nat) (sa : Nat) (cid : Nat → ClassId) : va_E → va_E
  | .inl a => .inl (cid a.1, a.2)
  | .inr o => .inr (o.1, o.2.map (rV ad sa))
def cw (ad : Nat → Nat) (sa : Nat) (cid : Nat → ClassId) (w : XW) : va_W := w.mapIdx fun k e => (ad k, xr ad sa cid e)
def xTys (cid : Nat → ClassId) : List (ClassId × FieldType) := [(cid 0, .int), (cid 1, .long), (cid 2, .byte), (cid 3, .boolean)]
theorem cw_get {ad : Nat → Nat} {sa : Nat} {cid : Nat → ClassId} {w : XW} {p : Nat} {e : va_E} (h : xat w p = some e) : (cw ad sa cid w)[p]? = some (ad p, xr ad sa cid e) := by
  rw [xat_eq] at h
  simp [cw, h]
theorem cw_set {ad : Nat → Nat} {sa : Nat} {cid : Nat → ClassId} {w : XW} (p : Nat) (e : va_E) : cw ad sa cid (w.set p e) = (cw ad sa cid w).set p (ad p, xr ad sa cid e) := by
  apply List.ext_getElem?
  intro i
  simp only [cw, List.getElem?_mapIdx, List.getElem?_set, List.length_mapIdx]
  by_cases h : p = i
  · subst h
    by_cases h2 : p < w.length <;> simp [h2]
  · simp [h]
theorem cw_push {ad : Nat → Nat} {sa : Nat} {cid : Nat → ClassId} {w : XW} (e : va_E) : cw ad sa cid (w ++ [e]) = cw ad sa cid w ++ [(ad w.length, xr ad sa cid e)] := by
  simp [cw, List.mapIdx_append]
theorem xin_in {i : Int32} {n : Nat} (h : xin i n) : vp_in i n := vp_in_iff.mpr h
/-- the locals: what is told of them is so -/
def xLv (ad : Nat → Nat) (sa : Nat) (ls : Array Slot) (nL : Nat) (L : XLs) : Prop := ls.size = nL ∧ lv_wf ls ∧ ∀ (i : Nat) (v : Value), L[i]? = some (some v) → ls[i]? = some (.val (rV ad sa v))
def xlist (ad : Nat → Nat) (sa : Nat) (L : XLs) : List (Nat × Value) := L.zipIdx.filterMap fun q => q.1.map fun v => (q.2, rV ad sa v)
theorem xlist_mem {ad : Nat → Nat} {sa : Nat} {L : XLs} {i : Nat} {v : Value} (h : L[i]? = some (some v)) : (i, rV ad sa v) ∈ xlist ad sa L := by
  refine List.mem_filterMap.mpr ⟨(some v, i), List.mk_mem_zipIdx_iff_getElem?.mpr h, rfl⟩
theorem xlist_of {ad : Nat → Nat} {sa : Nat} {L : XLs} {q : Nat × Value} (h : q ∈ xlist ad sa L) : ∃ v, L[q.1]? = some (some v) ∧ q.2 = rV ad sa v := by
  obtain ⟨⟨o, i⟩, h1, h2⟩ := List.mem_filterMap.mp h
  have h3 := List.mk_mem_zipIdx_iff_getElem?.mp h1
  cases o with
  | none => cases h2
  | some v =>
    cases h2
    exact ⟨v, h3, rfl⟩
theorem xLv.has {ad : Nat → Nat} {sa : Nat} {ls : Array Slot} {nL : Nat} {L : XLs} (h : xLv ad sa ls nL L) : lv_has ls nL (xlist ad sa L) := by
  refine ⟨h.1, h.2.1, fun q hq => ?_⟩
  obtain ⟨v, h1, h2⟩ := xlist_of hq
  rw [h2]
  exact h.2.2 _ _ h1
theorem xmask_of {m : List Bool} : ∀ {L : XLs} {i : Nat} {v : Value}, (xmask m L)[i]? = some (some v) → L[i]? = some (some v) := by
  induction m with
  | nil => intro L i v h; exact h
  | cons b m ih =>
    intro L i v h
    cases L with
    | nil => simp [xmask] at h
    | cons o r =>
      cases i with
      | zero =>
        cases b
        · simp [xmask] at h
        · simpa [xmask] using h
      | succ i =>
        simp only [xmask, List.getElem?_cons_succ] at h ⊢
        exact ih h
theorem xLv.mask {ad : Nat → Nat} {sa : Nat} {ls : Array Slot} {nL : Nat} {L : XLs} (m : List Bool) (h : xLv ad sa ls nL L) : xLv ad sa ls nL (xmask m L) := ⟨h.1, h.2.1, fun i v hv => h.2.2 i v (xmask_of hv)⟩
theorem xnl_of {o : Option Value} {v : Value} (h : xnl o = some v) : o = some v ∧ ¬ v.category = 2 := by
  unfold xnl at h
  split at h
  · cases h
  · cases h
  · refine ⟨h, ?_⟩
    subst h
    rename_i a b
    cases v <;> simp_all [Value.category]
theorem xst1_of {v : Value} : ∀ {i : Nat} {L : XLs} {j : Nat} {u : Value}, (xst1 v i L)[j]? = some (some u) → (j = i ∧ u = v) ∨ (j ≠ i ∧ L[j]? = some (some u) ∧ ¬ (j + 1 = i ∧ u.category = 2)) := by
  intro i
  induction i using Nat.strongRecOn with
  | ind i ih =>
    intro L j u h
    cases L with
    | nil => simp [xst1] at h
    | cons o r =>
      match i, ih, h with
      | 0, _, h =>
        cases j with
        | zero => simp [xst1] at h; exact Or.inl ⟨rfl, h.symm⟩
        | succ j => simp only [xst1, List.getElem?_cons_succ] at h ⊢; exact Or.inr ⟨by omega, h, by omega⟩
      | 1, ih, h =>
        cases j with
        | zero =>
          simp only [xst1, List.getElem?_cons_zero, Option.some.injEq] at h ⊢
          obtain ⟨h1, h2⟩ := xnl_of h
          exact Or.inr ⟨by omega, h1, fun q => h2 q.2⟩
        | succ j =>
          simp only [xst1, List.getElem?_cons_succ] at h ⊢
          rcases ih 0 (by omega) h with ⟨a, b⟩ | ⟨a, b, cc⟩
          · exact Or.inl ⟨by omega, b⟩
          · exact Or.inr ⟨by omega, b, fun q => cc ⟨by omega, q.2⟩⟩
      | i + 2, ih, h =>
        cases j with
        | zero =>
          simp only [xst1, List.getElem?_cons_zero] at h ⊢
          exact Or.inr ⟨by omega, h, by omega⟩
        | succ j =>
          simp only [xst1, List.getElem?_cons_succ] at h ⊢
          rcases ih (i + 1) (by omega) h with ⟨a, b⟩ | ⟨a, b, cc⟩
          · exact Or.inl ⟨by omega, b⟩
          · exact Or.inr ⟨by omega, b, fun q => cc ⟨by omega, q.2⟩⟩
theorem xst2_of {v : Value} : ∀ {i : Nat} {L : XLs} {j : Nat} {u : Value}, (xst2 v i L)[j]? = some (some u) → (j = i ∧ u = v) ∨ (j ≠ i ∧ j ≠ i + 1 ∧ L[j]? = some (some u) ∧ ¬ (j + 1 = i ∧ u.category = 2)) := by
  intro i
  induction i using Nat.strongRecOn with
  | ind i ih =>
    intro L j u h
    cases L with
    | nil => simp [xst2] at h
    | cons o r =>
      match i, ih, h with
      | 0, _, h =>
        cases r with
        | nil =>
          cases j with
          | zero => simp [xst2] at h
          | succ j => simp [xst2] at h
        | cons o2 r =>
          match j, h with
          | 0, h => simp [xst2] at h; exact Or.inl ⟨rfl, h.symm⟩
          | 1, h => simp [xst2] at h
          | j + 2, h => simp only [xst2, List.getElem?_cons_succ] at h ⊢; exact Or.inr ⟨by omega, by omega, h, by omega⟩
      | 1, ih, h =>
        cases j with
        | zero =>
          simp only [xst2, List.getElem?_cons_zero, Option.some.injEq] at h ⊢
          obtain ⟨h1, h2⟩ := xnl_of h
          exact Or.inr ⟨by omega, by omega, h1, fun q => h2 q.2⟩
        | succ j =>
          simp only [xst2, List.getElem?_cons_succ] at h ⊢
          rcases ih 0 (by omega) h with ⟨a, b⟩ | ⟨a, a2, b, cc⟩
          · exact Or.inl ⟨by omega, b⟩
          · exact Or.inr ⟨by omega, by omega, b, fun q => cc ⟨by omega, q.2⟩⟩
      | i + 2, ih, h =>
        cases j with
        | zero =>
          simp only [xst2, List.getElem?_cons_zero] at h ⊢
          exact Or.inr ⟨by omega, by omega, h, by omega⟩
        | succ j =>
          simp only [xst2, List.getElem?_cons_succ] at h ⊢
          rcases ih (i + 1) (by omega) h with ⟨a, b⟩ | ⟨a, a2, b, cc⟩
          · exact Or.inl ⟨by omega, b⟩
          · exact Or.inr ⟨by omega, by omega, b, fun q => cc ⟨by omega, q.2⟩⟩
theorem xLv.st1 {ad : Nat → Nat} {sa : Nat} {ls' : Array Slot} {nL : Nat} {L : XLs} {i : Nat} {v : Value} (h : lv_has ls' nL ((i, rV ad sa v) :: (xlist ad sa L).filter (fun q => !(q.1 == i) && !(q.1 + 1 == i && q.2.category == 2)))) : xLv ad sa ls' nL (xst1 v i L) := by
  refine ⟨h.1, h.2.1, fun j u hu => ?_⟩
  rcases xst1_of hu with ⟨rfl, rfl⟩ | ⟨a, b, cc⟩
  · exact h.2.2 (j, rV ad sa u) List.mem_cons_self
  · refine h.2.2 (j, rV ad sa u) (List.mem_cons_of_mem _ (List.mem_filter.mpr ⟨xlist_mem b, ?_⟩))
    rw [rV_cat]
    simp only [Bool.and_eq_true, Bool.not_eq_true', beq_eq_false_iff_ne, ne_eq, Bool.and_eq_false_iff]
    refine ⟨a, ?_⟩
    by_cases q : j + 1 = i
    · exact Or.inr (fun z => cc ⟨q, z⟩)
    · exact Or.inl q
theorem xLv.st2 {ad : Nat → Nat} {sa : Nat} {ls' : Array Slot} {nL : Nat} {L : XLs} {i : Nat} {v : Value} (h : lv_has ls' nL ((i, rV ad sa v) :: (xlist ad sa L).filter (fun q => !(q.1 == i) && (!(q.1 == i + 1) && !(q.1 + 1 == i && q.2.category == 2))))) : xLv ad sa ls' nL (xst2 v i L) := by
  refine ⟨h.1, h.2.1, fun j u hu => ?_⟩
  rcases xst2_of hu with ⟨rfl, rfl⟩ | ⟨a, a2, b, cc⟩
  · exact h.2.2 (j, rV ad sa u) List.mem_cons_self
  · refine h.2.2 (j, rV ad sa u) (List.mem_cons_of_mem _ (List.mem_filter.mpr ⟨xlist_mem b, ?_⟩))
    rw [rV_cat]
    simp only [Bool.and_eq_true, Bool.not_eq_true', beq_eq_false_iff_ne, ne_eq, Bool.and_eq_false_iff]
    refine ⟨a, a2, ?_⟩
    by_cases q : j + 1 = i
    · exact Or.inr (fun z => cc ⟨q, z⟩)
    · exact Or.inl q
theorem xI1_el {st : List Value} {f : Int32 → List Value → Prop} (h : xI1 st f) : ∃ x r, st = .int x :: r ∧ f x r := by
  unfold xI1 at h; split at h
  · exact ⟨_, _, rfl, h⟩
  · exact h.elim
theorem xI2_el {st : List Value} {f : Int32 → Int32 → List Value → Prop} (h : xI2 st f) : ∃ x y r, st = .int y :: .int x :: r ∧ f x y r := by
  unfold xI2 at h; split at h
  · exact ⟨_, _, _, rfl, h⟩
  · exact h.elim
theorem xJ1_el {st : List Value} {f : Int64 → List Value → Prop} (h : xJ1 st f) : ∃ x r, st = .long x :: r ∧ f x r := by
  unfold xJ1 at h; split at h
  · exact ⟨_, _, rfl, h⟩
  · exact h.elim
theorem xJ2_el {st : List Value} {f : Int64 → Int64 → List Value → Prop} (h : xJ2 st f) : ∃ x y r, st = .long y :: .long x :: r ∧ f x y r := by
  unfold xJ2 at h; split at h
  · exact ⟨_, _, _, rfl, h⟩
  · exact h.elim
theorem xJI_el {st : List Value} {f : Int64 → Int32 → List Value → Prop} (h : xJI st f) : ∃ x y r, st = .int y :: .long x :: r ∧ f x y r := by
  unfold xJI at h; split at h
  · exact ⟨_, _, _, rfl, h⟩
  · exact h.elim
theorem xP1_el {st : List Value} {f : Nat → List Value → Prop} (h : xP1 st f) : ∃ x r, st = .ref x :: r ∧ f x r := by
  unfold xP1 at h; split at h
  · exact ⟨_, _, rfl, h⟩
  · exact h.elim
theorem xIP_el {st : List Value} {f : Int32 → Nat → List Value → Prop} {g : Int32 → List Value → Prop} (h : xIP st f g) : (∃ i p r, st = .int i :: .ref p :: r ∧ f i p r) ∨ (∃ i z r, st = .int i :: .retAddr z :: r ∧ g i r) := by
  unfold xIP at h; split at h
  · exact Or.inl ⟨_, _, _, rfl, h⟩
  · exact Or.inr ⟨_, _, _, rfl, h⟩
  · exact h.elim
theorem xIIP_el {st : List Value} {f : Int32 → Int32 → Nat → List Value → Prop} (h : xIIP st f) : ∃ v i p r, st = .int v :: .int i :: .ref p :: r ∧ f v i p r := by
  unfold xIIP at h; split at h
  · exact ⟨_, _, _, _, rfl, h⟩
  · exact h.elim
theorem xJIP_el {st : List Value} {f : Int64 → Int32 → Nat → List Value → Prop} (h : xJIP st f) : ∃ v i p r, st = .long v :: .int i :: .ref p :: r ∧ f v i p r := by
  unfold xJIP at h; split at h
  · exact ⟨_, _, _, _, rfl, h⟩
  · exact h.elim
theorem xVP_el {st : List Value} {f : Value → Nat → List Value → Prop} (h : xVP st f) : ∃ v p r, st = v :: .ref p :: r ∧ f v p r := by
  unfold xVP at h; split at h
  · exact ⟨_, _, _, rfl, h⟩
  · exact h.elim
theorem xV1_el {st : List Value} {f : Value → List Value → Prop} (h : xV1 st f) : ∃ v r, st = v :: r ∧ v.category = 1 ∧ f v r := by
  unfold xV1 at h; split at h
  · exact ⟨_, _, rfl, rfl, h⟩
  · exact ⟨_, _, rfl, rfl, h⟩
  · exact h.elim
theorem xV2_el {st : List Value} {f : Value → Value → List Value → Prop} (h : xV2 st f) : ∃ u v r, st = u :: v :: r ∧ u.category = 1 ∧ v.category = 1 ∧ f u v r := by
  unfold xV2 at h; split at h
  · exact ⟨_, _, _, rfl, rfl, rfl, h⟩
  · exact h.elim
theorem xOb_el {w : XW} {p : Nat} {f : Nat → List Value → Prop} (h : xOb w p f) : ∃ ci fs, xat w p = some (.inr (ci, fs)) ∧ f ci fs := by
  unfold xOb at h; split at h
  · exact ⟨_, _, by assumption, h⟩
  · exact h.elim
theorem xAr_el {w : XW} {p : Nat} {f : Nat → Nat → (Nat → Int32) → Prop} (h : xAr w p f) : ∃ t n g, xat w p = some (.inl (t, n, .inl g)) ∧ f t n g := by
  unfold xAr at h; split at h
  · exact ⟨_, _, _, by assumption, h⟩
  · exact h.elim
theorem xAl_el {w : XW} {p : Nat} {f : Nat → Nat → (Nat → Int64) → Prop} (h : xAl w p f) : ∃ t n g, xat w p = some (.inl (t, n, .inr (.inl g))) ∧ f t n g := by
  unfold xAl at h; split at h
  · exact ⟨_, _, _, by assumption, h⟩
  · exact h.elim
theorem xLn_el {w : XW} {p : Nat} {f : Nat → Nat → Prop} (h : xLn w p f) : ∃ t n g, xat w p = some (.inl (t, n, g)) ∧ f t n := by
  unfold xLn at h; split at h
  · exact ⟨_, _, _, by assumption, h⟩
  · exact h.elim
theorem xlI_el {L : XLs} {i : Nat} {f : Int32 → Prop} (h : xlI L i f) : ∃ x, L[i]? = some (some (.int x)) ∧ f x := by
  unfold xlI at h; split at h
  · exact ⟨_, by rw [← xat_eq]; assumption, h⟩
  · exact h.elim
theorem xlJ_el {L : XLs} {i : Nat} {f : Int64 → Prop} (h : xlJ L i f) : ∃ x, L[i]? = some (some (.long x)) ∧ f x := by
  unfold xlJ at h; split at h
  · exact ⟨_, by rw [← xat_eq]; assumption, h⟩
  · exact h.elim
theorem xlP_el {L : XLs} {i : Nat} {f : Nat → Prop} (h : xlP L i f) : ∃ x, L[i]? = some (some (.ref x)) ∧ f x := by
  unfold xlP at h; split at h
  · exact ⟨_, by rw [← xat_eq]; assumption, h⟩
  · exact h.elim
theorem xif {b : Bool} {P : Prop} (h : (bif b then P else False)) : b = true ∧ P := by
  cases b
  · exact h.elim
  · exact ⟨rfl, h⟩
theorem xpo_el {o : Option XP} {k : Nat} {f : Nat → Nat → Nat → Int64 → Prop} (h : xpo o k f) : ∃ a b c z, o = some (k, a, b, c, z) ∧ f a b c z := by
  unfold xpo at h; split at h
  · obtain ⟨h1, h2⟩ := xif h
    have e := Nat.eq_of_beq_eq_true h1
    subst e
    exact ⟨_, _, _, _, rfl, h2⟩
  · exact h.elim
theorem xpo2_el {o : Option XP} {k : Nat} {f : Nat → Nat → Nat → Int64 → Prop} (h : xpo2 o k f) : ∃ kd a b c z, o = some (kd, a, b, c, z) ∧ (kd = k ∨ kd = k + 1) ∧ f a b c z := by
  unfold xpo2 at h; split at h
  · rename_i kd a b c z
    cases h1 : Nat.beq kd k
    · rw [h1] at h
      obtain ⟨h2, h3⟩ := xif h
      exact ⟨_, _, _, _, _, rfl, Or.inr (Nat.eq_of_beq_eq_true h2), h3⟩
    · rw [h1] at h
      exact ⟨_, _, _, _, _, rfl, Or.inl (Nat.eq_of_beq_eq_true h1), h⟩
  · exact h.elim
theorem xt1_el {tg : List Nat} {f : Nat → Prop} (h : xt1 tg f) : ∃ t, tg = [t] ∧ f t := by
  unfold xt1 at h; split at h
  · exact ⟨_, rfl, h⟩
  · exact h.elim
