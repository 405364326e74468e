/-! ===== by cost: the first of least cost is found ===== -/
theorem tot_le : ∀ {L : List Op} {p : Op} {v : Nat × Int}, p ∈ L → tot L p.1 = some v → v.2 ≤ p.2.2
  | [], p, v, h, _ => by cases h
  | o :: L, p, v, h, ht => by
    unfold tot at ht
    by_cases e : o.1 = p.1
    · rw [if_pos e] at ht
      have hcase : (p = o ∨ p ∈ L) := List.mem_cons.mp h
      cases z : tot L p.1 with
      | none =>
        rw [z] at ht
        injection ht with ht
        rcases hcase with q | q
        · rw [← ht, q]; exact Int.le_refl _
        · have := tot_some.mpr ⟨p, q, rfl⟩
          rw [z] at this; cases this
      | some w =>
        rw [z] at ht
        injection ht with ht
        have h3 : v.2 = min o.2.2 w.2 := by rw [← ht]
        rcases hcase with q | q
        · rw [q]; omega
        · have := tot_le q z
          omega
    · rw [if_neg e] at ht
      rcases List.mem_cons.mp h with q | q
      · exact absurd (by rw [q]) e
      · exact tot_le q ht
theorem tot_at : ∀ {L : List Op} {s : Nat} {v : Nat × Int}, tot L s = some v → ∃ p ∈ L, p.1 = s ∧ p.2.2 = v.2
  | [], s, v, h => by cases h
  | o :: L, s, v, h => by
    unfold tot at h
    by_cases e : o.1 = s
    · rw [if_pos e] at h
      cases z : tot L s with
      | none =>
        rw [z] at h; injection h with h
        exact ⟨o, List.mem_cons_self .., e, by rw [← h]⟩
      | some w =>
        obtain ⟨p, hp, h1, h2⟩ := tot_at z
        rw [z] at h; injection h with h
        have h3 : v.2 = min o.2.2 w.2 := by rw [← h]
        by_cases c : o.2.2 ≤ w.2
        · exact ⟨o, List.mem_cons_self .., e, by omega⟩
        · exact ⟨p, List.mem_cons_of_mem _ hp, h1, by omega⟩
    · rw [if_neg e] at h
      obtain ⟨p, hp, h1, h2⟩ := tot_at h
      exact ⟨p, List.mem_cons_of_mem _ hp, h1, h2⟩
def alO (g : Gram) (o : Own) (ws : List (List Nat)) (i j : Nat) : List Op := bOps g o ws (ch g o ws) i j ++ singl g.2.1 o i j (ch g o ws i j)
theorem ch_al {g : Gram} (hg : gOk g) (o : Own) (ws : List (List Nat)) {i j : Nat} (hij : i < j) (s : Nat) : ch g o ws i j s = tot (alO g o ws i j) s := by
  unfold alO; rw [tot_app, ← ch_cell hg o ws hij s]
theorem al_le {g : Gram} (hg : gOk g) (o : Own) (ws : List (List Nat)) {i j : Nat} (hij : i < j) {p : Op} (h : p ∈ alO g o ws i j) : (ch g o ws i j p.1).isSome = true ∧ cy (ch g o ws i j p.1) ≤ p.2.2 := by
  have e := ch_al hg o ws hij p.1
  have h1 := tot_some.mpr ⟨p, h, rfl⟩
  refine ⟨by rw [e]; exact h1, ?_⟩
  obtain ⟨v, hv⟩ := Option.isSome_iff_exists.mp h1
  rw [e, hv]; exact tot_le h hv
theorem al_at {g : Gram} (hg : gOk g) (o : Own) (ws : List (List Nat)) {i j : Nat} (hij : i < j) {s : Nat} (h : (ch g o ws i j s).isSome = true) : ∃ p ∈ alO g o ws i j, p.1 = s ∧ p.2.2 = cy (ch g o ws i j s) := by
  obtain ⟨v, hv⟩ := Option.isSome_iff_exists.mp h
  rw [ch_al hg o ws hij] at hv
  obtain ⟨p, h1, h2, h3⟩ := tot_at hv
  exact ⟨p, h1, h2, by rw [ch_al hg o ws hij, hv]; exact h3⟩
theorem eitC (x y : Int) : eitG true x y = min x y := if_pos rfl
theorem bthC (x y : Int) : bthG true x y = if 1000000 ≤ x ∨ 1000000 ≤ y then 1000000 else x + y := if_pos rfl
theorem bthC_f {x y : Int} (h1 : x < 1000000) (h2 : y < 1000000) : bthG true x y = x + y := by rw [bthC, if_neg (by omega)]
def mnF (c : Nat → Prop) [DecidablePred c] (a : Nat → Int) (L : List Nat) (t : Int) : Int := L.foldl (fun t y => if c y then eitG true t (a y) else t) t
theorem mnF_le (c : Nat → Prop) [DecidablePred c] (a : Nat → Int) : ∀ (L : List Nat) (t : Int), mnF c a L t ≤ t
  | [], t => Int.le_refl _
  | x :: L, t => by
    have ih := mnF_le c a L (if c x then eitG true t (a x) else t)
    have e : mnF c a (x :: L) t = mnF c a L (if c x then eitG true t (a x) else t) := rfl
    rw [e]
    split at ih
    · rename_i q
      rw [if_pos q]; rw [eitC] at ih; rw [eitC]; omega
    · rename_i q
      rw [if_neg q]; exact ih
theorem mnF_el (c : Nat → Prop) [DecidablePred c] (a : Nat → Int) : ∀ (L : List Nat) (t : Int) {x : Nat}, x ∈ L → c x → mnF c a L t ≤ a x
  | [], t, x, h, _ => by cases h
  | y :: L, t, x, h, hc => by
    have e : mnF c a (y :: L) t = mnF c a L (if c y then eitG true t (a y) else t) := rfl
    rw [e]
    rcases List.mem_cons.mp h with q | q
    · subst q
      have := mnF_le c a L (if c x then eitG true t (a x) else t)
      rw [if_pos hc, eitC] at this ⊢; omega
    · exact mnF_el c a L _ q hc
theorem mnF_at (c : Nat → Prop) [DecidablePred c] (a : Nat → Int) : ∀ (L : List Nat) (t : Int), mnF c a L t = t ∨ ∃ x ∈ L, c x ∧ mnF c a L t = a x
  | [], t => Or.inl rfl
  | y :: L, t => by
    have e : mnF c a (y :: L) t = mnF c a L (if c y then eitG true t (a y) else t) := rfl
    rw [e]
    rcases mnF_at c a L (if c y then eitG true t (a y) else t) with q | ⟨x, h1, h2, h3⟩
    · rw [q]
      by_cases hc : c y
      · rw [if_pos hc, eitC]
        by_cases z : t ≤ a y
        · left; omega
        · right; exact ⟨y, List.mem_cons_self .., hc, by omega⟩
      · rw [if_neg hc]; exact Or.inl rfl
    · exact Or.inr ⟨x, List.mem_cons_of_mem _ h1, h2, h3⟩
def wB (K : Int) (wt : Nat → Int) : Prop := ∀ s, wt s = 1000000 ∨ (-K ≤ wt s ∧ wt s ≤ K)
def cB (V : Nat → Vl) : Prop := ∀ s, -600 ≤ cy (V s) ∧ cy (V s) ≤ 600
theorem cB_ch {g : Gram} (hg : gOk g) {o : Own} (ho : oB o) (ws : List (List Nat)) {i j : Nat} (h : i < j) (hj : j ≤ 14) : cB (ch g o ws i j) := fun s => by
  cases hv : ch g o ws i j s with
  | none => exact ⟨by show -600 ≤ (0 : Int); omega, by show (0 : Int) ≤ 600; omega⟩
  | some v => exact ch_b hg ho ws h hj s v hv
/-- L is the least of cost and weight over a category -/
def isLC (V : Nat → Vl) (c : Nat) (wt : Nat → Int) (L : Int) : Prop := (∀ s, (V s).isSome = true → s / 625 = c → L ≤ cy (V s) + wt s) ∧ ∃ s, (V s).isSome = true ∧ s / 625 = c ∧ wt s < 1000000 ∧ cy (V s) + wt s = L
theorem isLC_b {V : Nat → Vl} {c : Nat} {wt : Nat → Int} {L K : Int} (hV : cB V) (hK : K ≤ 500000) (hw : wB K wt) (h : isLC V c wt L) : L ≤ K + 600 := by
  obtain ⟨s, _, _, h3, h4⟩ := h.2
  have := hV s
  rcases hw s with q | q <;> omega
theorem fold_L {V : Nat → Vl} {q : Nat → Prop} [DecidablePred q] {c : Nat} {wt : Nat → Int} {K : Int} (hq : ∀ s, q s ↔ s / 625 = c) (hs : ∀ s, (V s).isSome = true → s < 10000) (hV : cB V) (hK : K ≤ 500000) (hw : wB K wt) (h : mnF q (fun x => bthG true (cy (V x)) (wt x)) (sL V) 1000000 < 1000000) : isLC V c wt (mnF q (fun x => bthG true (cy (V x)) (wt x)) (sL V) 1000000) := by
  generalize hF : mnF q (fun x => bthG true (cy (V x)) (wt x)) (sL V) 1000000 = F at h
  have hat : ∃ x ∈ sL V, q x ∧ F = bthG true (cy (V x)) (wt x) := by
    rcases mnF_at q (fun x => bthG true (cy (V x)) (wt x)) (sL V) 1000000 with z | z
    · rw [hF] at z; omega
    · rw [hF] at z; exact z
  obtain ⟨x, hx, hqx, hFx⟩ := hat
  have hxm := sL_mem.mp hx
  have hb := hV x
  have hwx : wt x < 1000000 := by
    rcases hw x with z | z
    · rw [bthC, if_pos (by omega)] at hFx; omega
    · omega
  rw [bthC_f (by omega) hwx] at hFx
  have hFb : F ≤ K + 600 := by rcases hw x with z | z <;> omega
  refine ⟨fun s h1 h2 => ?_, x, hxm.2, (hq x).mp hqx, hwx, hFx.symm⟩
  have hbs := hV s
  rcases hw s with z | z
  · omega
  · have := mnF_el q (fun x => bthG true (cy (V x)) (wt x)) (sL V) 1000000 (sL_mem.mpr ⟨hs s h1, h1⟩) ((hq s).mpr h2)
    rw [hF] at this
    rw [← bthC_f (by omega) (by omega)]; exact this
theorem fold_ge {V : Nat → Vl} {q : Nat → Prop} [DecidablePred q] {c : Nat} {wt : Nat → Int} {m : Int} (hq : ∀ s, q s ↔ s / 625 = c) (hm : m ≤ 1000000) (h : ∀ s, (V s).isSome = true → s / 625 = c → m ≤ cy (V s) + wt s) : m ≤ mnF q (fun x => bthG true (cy (V x)) (wt x)) (sL V) 1000000 := by
  rcases mnF_at q (fun x => bthG true (cy (V x)) (wt x)) (sL V) 1000000 with z | ⟨x, hx, hqx, z⟩
  · omega
  · rw [z]
    have hxm := sL_mem.mp hx
    have := h x hxm.2 ((hq x).mp hqx)
    show m ≤ bthG true (cy (V x)) (wt x)
    rw [bthC]; split <;> omega
theorem fold_le {V : Nat → Vl} {q : Nat → Prop} [DecidablePred q] {c : Nat} {wt : Nat → Int} {s : Nat} (hq : ∀ s, q s ↔ s / 625 = c) (hs : s < 10000) (h1 : (V s).isSome = true) (h2 : s / 625 = c) (h3 : cy (V s) < 1000000) (h4 : wt s < 1000000) : mnF q (fun x => bthG true (cy (V x)) (wt x)) (sL V) 1000000 ≤ cy (V s) + wt s := by
  have := mnF_el q (fun x => bthG true (cy (V x)) (wt x)) (sL V) 1000000 (sL_mem.mpr ⟨hs, h1⟩) ((hq s).mpr h2)
  rw [← bthC_f h3 h4]; exact this
theorem vlC (R : Rule) (Va Vb : Nat → Vl) (wt : Nat → Int) : vlG true R Va Vb wt (sL Va) = mnF (fun x => x / 625 = R.2.1) (fun x => bthG true (cy (Va x)) (wFst true R Vb wt x)) (sL Va) 1000000 := rfl
theorem wFiC (R : Rule) (Vb : Nat → Vl) (wt : Nat → Int) (x : Nat) : wFi true R Vb wt x (sL Vb) = mnF (fun y => some (y / 625) = R.2.2.1) (fun y => bthG true (cy (Vb y)) (mkW true wt (mkS R x y))) (sL Vb) 1000000 := rfl
theorem mkW_B {K : Int} {wt : Nat → Int} (h : wB K wt) (f : Nat → Option Nat) : wB K (fun y => mkW true wt (f y)) := fun y => by
  show mkW true wt (f y) = 1000000 ∨ (-K ≤ mkW true wt (f y) ∧ mkW true wt (f y) ≤ K)
  cases f y with
  | none => exact Or.inl rfl
  | some s => exact h s
theorem c2_iff {R : Rule} {c2 : Nat} (h : R.2.2.1 = some c2) (s : Nat) : some (s / 625) = R.2.2.1 ↔ s / 625 = c2 := by
  rw [h]; exact ⟨fun q => Option.some.inj q, fun q => by rw [q]⟩
theorem wFst_B {K : Int} {R : Rule} {Vb : Nat → Vl} {wt : Nat → Int} (h : wB K wt) (hK : 0 ≤ K) (hV : R.2.2.1 ≠ none → cB Vb) : wB (K + 600) (wFst true R Vb wt) := fun x => by
  unfold wFst
  by_cases e : R.2.2.1 = none
  · rw [if_pos e]
    rcases mkW_B h (fun _ => mkS R x 0) x with q | q
    · exact Or.inl q
    · have q' : -K ≤ mkW true wt (mkS R x 0) ∧ mkW true wt (mkS R x 0) ≤ K := q
      right; omega
  · rw [if_neg e, wFiC]
    rcases mnF_at (fun y => some (y / 625) = R.2.2.1) (fun y => bthG true (cy (Vb y)) (mkW true wt (mkS R x y))) (sL Vb) 1000000 with z | ⟨y, _, _, z⟩
    · exact Or.inl z
    · rw [z]
      have hb := hV e y
      show bthG true (cy (Vb y)) (mkW true wt (mkS R x y)) = 1000000 ∨ (-(K + 600) ≤ bthG true (cy (Vb y)) (mkW true wt (mkS R x y)) ∧ bthG true (cy (Vb y)) (mkW true wt (mkS R x y)) ≤ K + 600)
      rcases mkW_B h (fun y => mkS R x y) y with q | q
      · have q' : mkW true wt (mkS R x y) = 1000000 := q
        left; rw [bthC, if_pos (by omega)]
      · have q' : -K ≤ mkW true wt (mkS R x y) ∧ mkW true wt (mkS R x y) ≤ K := q
        rw [bthC]
        split
        · exact Or.inl rfl
        · right; omega
/-- what a first part is worth: some second part, or none -/
theorem wFst_s {R : Rule} {Vb : Nat → Vl} {wt : Nat → Int} (h : R.2.2.1 = none) (x : Nat) : wFst true R Vb wt x = mkW true wt (mkS R x 0) := by unfold wFst; rw [if_pos h]
theorem wFst_d {R : Rule} {Vb : Nat → Vl} {wt : Nat → Int} (h : R.2.2.1 ≠ none) (x : Nat) : wFst true R Vb wt x = mnF (fun y => some (y / 625) = R.2.2.1) (fun y => bthG true (cy (Vb y)) (mkW true wt (mkS R x y))) (sL Vb) 1000000 := by unfold wFst; rw [if_neg h, wFiC]
theorem mkW_s {wt : Nat → Int} {o : Option Nat} (h : mkW true wt o < 1000000) : ∃ s, o = some s ∧ mkW true wt o = wt s := by
  cases o with
  | none => exact absurd h (by show ¬ (1000000 : Int) < 1000000; omega)
  | some s => exact ⟨s, rfl, rfl⟩
section CO
variable {g : Gram} {o : Own} {ws : List (List Nat)} {i j c : Nat} {wt : Nat → Int} {L : Int}
/-- nothing made is dearer than what it is made by -/
theorem lowE (hg : gOk g) {e : Nat} (he : e < g.1.length) (hj : j = i + 1) (hc : (g.1.getD e dE).2.1 = c) (hw : (g.1.getD e dE).1 = ws.getD i []) : (ch g o ws i j (eSg (g.1.getD e dE))).isSome = true ∧ cy (ch g o ws i j (eSg (g.1.getD e dE))) ≤ o c i j := by
  have : (eSg (g.1.getD e dE), (1, o (g.1.getD e dE).2.1 i (i + 1))) ∈ alO g o ws i j := by
    refine List.mem_append.mpr (Or.inl ?_)
    unfold bOps
    rw [if_pos hj]
    refine List.mem_append.mpr (Or.inl ?_)
    unfold eOps
    exact fm_at dE he (by rw [if_pos hw]; exact List.mem_singleton.mpr rfl)
  have := al_le hg o ws (by omega) this
  rw [hc, ← hj] at this; exact this
theorem lowS (hg : gOk g) (hij : i < j) {R : Rule} (hR : R ∈ g.2.1) (hc : R.1 = c) (h1 : R.2.2.1 = none) {x s : Nat} (hx : (ch g o ws i j x).isSome = true) (hcx : x / 625 = R.2.1) (hs : mkS R x 0 = some s) : (ch g o ws i j s).isSome = true ∧ cy (ch g o ws i j s) ≤ o c i j + cy (ch g o ws i j x) := by
  obtain ⟨_, u, hu, hop⟩ := ch_sng hg o ws hij hR h1 hx hcx hs
  have : (s, (u.1, o R.1 i j + u.2)) ∈ alO g o ws i j := by
    refine List.mem_append.mpr (Or.inr ?_)
    unfold singl
    exact List.mem_flatMap.mpr ⟨R, hR, by rw [if_pos h1]; exact hop⟩
  have := al_le hg o ws hij this
  rw [hc] at this
  rw [hu]; exact this
theorem lowD (hg : gOk g) {m : Nat} (him : i < m) (hmj : m < j) {R : Rule} (hR : R ∈ g.2.1) (hc : R.1 = c) {c2 : Nat} (h1 : R.2.2.1 = some c2) {x y s : Nat} (hx : (ch g o ws i m x).isSome = true) (hcx : x / 625 = R.2.1) (hy : (ch g o ws m j y).isSome = true) (hcy : y / 625 = c2) (hs : mkS R x y = some s) : (ch g o ws i j s).isSome = true ∧ cy (ch g o ws i j s) ≤ o c i j + cy (ch g o ws i m x) + cy (ch g o ws m j y) := by
  obtain ⟨_, u, v, hu, hv, hop⟩ := ch_par hg o ws him hmj hR h1 hx hcx hy hcy hs
  have := al_le hg o ws (by omega) (List.mem_append.mpr (Or.inl hop) : _ ∈ alO g o ws i j)
  rw [hc] at this
  rw [hu, hv]; exact this
/-- a first part with its weight is not below what is left -/
theorem lowW (hg : gOk g) (ho : oB o) {K : Int} (hK : K ≤ 500000) (hw : wB K wt) (hij : i < j) (hj : j ≤ 14) (hL : isLC (ch g o ws i j) c wt L) {R : Rule} (hR : R ∈ g.2.1) (hc : R.1 = c) {m : Nat} (hm : (R.2.2.1 = none ∧ m = j) ∨ (R.2.2.1 ≠ none ∧ i < m ∧ m < j)) {x : Nat} (hx : (ch g o ws i m x).isSome = true) (hcx : x / 625 = R.2.1) : L - o c i j ≤ cy (ch g o ws i m x) + wFst true R (ch g o ws m j) wt x := by
  have hRk := hg.2.1 R hR
  have hLb := isLC_b (cB_ch hg ho ws hij hj) hK hw hL
  have hob := ho c i j
  have hbx := cB_ch hg ho ws (i := i) (j := m) (by omega) (by omega) x
  rcases hm with ⟨h1, rfl⟩ | ⟨h1, him, hmj⟩
  · rw [wFst_s h1]
    cases hs : mkS R x 0 with
    | none => show _ ≤ _ + (1000000 : Int); omega
    | some s =>
      have h2 := lowS hg hij hR hc h1 hx hcx hs
      have h3 := hL.1 s h2.1 (by rw [(mkS_in hRk hs).2, hc])
      show _ ≤ _ + wt s
      omega
  · obtain ⟨c2, hc2⟩ : ∃ c2, R.2.2.1 = some c2 := by
      cases q : R.2.2.1 with
      | none => exact absurd q h1
      | some c2 => exact ⟨c2, rfl⟩
    rw [wFst_d h1]
    have hbb := cB_ch hg ho ws hmj hj
    rcases mnF_at (fun y => some (y / 625) = R.2.2.1) (fun y => bthG true (cy (ch g o ws m j y)) (mkW true wt (mkS R x y))) (sL (ch g o ws m j)) 1000000 with z | ⟨y, hy, hqy, z⟩
    · rw [z]; omega
    · rw [z]
      have hym := sL_mem.mp hy
      show _ ≤ _ + bthG true (cy (ch g o ws m j y)) (mkW true wt (mkS R x y))
      have hby := hbb y
      rw [bthC]
      by_cases hf : 1000000 ≤ cy (ch g o ws m j y) ∨ 1000000 ≤ mkW true wt (mkS R x y)
      · rw [if_pos hf]; omega
      · rw [if_neg hf]
        obtain ⟨s, hs, hms⟩ := mkW_s (wt := wt) (o := mkS R x y) (by omega)
        have h2 := lowD hg him hmj hR hc hc2 hx hcx hym.2 ((c2_iff hc2 y).mp hqy) hs
        have h3 := hL.1 s h2.1 (by rw [(mkS_in hRk hs).2, hc])
        rw [hms]; omega
/-- every way is at least what is left, and one is just that -/
theorem opt_ge (hg : gOk g) (ho : oB o) {K : Int} (hK : K ≤ 500000) (hw : wB K wt) (hij : i < j) (hj : j ≤ 14) (hL : isLC (ch g o ws i j) c wt L) {op : Opt} (hop : op ∈ optL g ws i j c) : L - o c i j ≤ vO true g (ch g o ws) wt i j op := by
  have hLb := isLC_b (cB_ch hg ho ws hij hj) hK hw hL
  have hob := ho c i j
  rcases optL_in hop with ⟨e, he, rfl, hj1, hcat, hword⟩ | ⟨r, hr, hor, hRc, hsp⟩
  · unfold vO
    rw [if_pos (show (-1 - (e : Int)) < 0 by omega), opE_e]
    have h2 := lowE (o := o) hg he hj1 hcat hword
    have hEk := hg.1 _ (getD_mem he dE)
    have h3 := hL.1 _ h2.1 (by rw [← hcat]; have := hEk.2.2; unfold eSg; omega)
    omega
  · unfold vO
    have hrt : op.1.toNat = r := by rw [hor]; omega
    rw [if_neg (by rw [hor]; omega), hrt, vlC]
    exact fold_ge (c := (g.2.1.getD r dR).2.1) (fun _ => Iff.rfl) (by omega) (fun x hx hcx => lowW hg ho hK hw hij hj hL (getD_mem hr dR) hRc hsp hx hcx)
theorem mem_optE {e : Nat} (he : e < g.1.length) (hj : j = i + 1) (hc : (g.1.getD e dE).2.1 = c) (hw : (g.1.getD e dE).1 = ws.getD i []) : ((-1 - (e : Int)), 0) ∈ optL g ws i j c := by
  unfold optL
  rw [if_pos hj]
  refine List.mem_append.mpr (Or.inl ?_)
  unfold optE
  exact List.mem_flatMap.mpr ⟨e, List.mem_range.mpr he, by rw [if_pos hc, if_pos hw]; exact List.mem_singleton.mpr rfl⟩
theorem mem_optR {r m : Nat} (hr : r < g.2.1.length) (hc : (g.2.1.getD r dR).1 = c) (hm : ((g.2.1.getD r dR).2.2.1 = none ∧ m = j) ∨ ((g.2.1.getD r dR).2.2.1 ≠ none ∧ i < m ∧ m < j)) : ((r : Int), m) ∈ optL g ws i j c := by
  unfold optL
  refine List.mem_append.mpr (Or.inr ?_)
  unfold optR
  refine List.mem_flatMap.mpr ⟨r, List.mem_range.mpr hr, ?_⟩
  rw [if_pos hc]
  rcases hm with ⟨h1, rfl⟩ | ⟨h1, h2, h3⟩
  · rw [if_pos h1]; exact List.mem_singleton.mpr rfl
  · rw [if_neg h1]
    exact List.mem_flatMap.mpr ⟨m, mids_mem.mpr ⟨h2, h3⟩, List.mem_singleton.mpr rfl⟩
theorem vO_r (b : Bool) (T : Nat → Nat → Nat → Vl) (r m : Nat) : vO b g T wt i j ((r : Int), m) = vlG b (g.2.1.getD r dR) (T i m) (T m j) wt (sL (T i m)) := by
  unfold vO
  rw [if_neg (show ¬ (r : Int) < 0 by omega)]; rfl
theorem vO_e (b : Bool) (T : Nat → Nat → Nat → Vl) (e m : Nat) : vO b g T wt i j ((-1 - (e : Int)), m) = wt (eSg (g.1.getD e dE)) := by
  unfold vO
  rw [if_pos (show (-1 - (e : Int)) < 0 by omega)]
  show wt (eSg (g.1.getD (-1 - (-1 - (e : Int))).toNat dE)) = _
  rw [show (-1 - (-1 - (e : Int))).toNat = e by omega]
theorem opt_at (hg : gOk g) (ho : oB o) {K : Int} (hK : K ≤ 500000) (hw : wB K wt) (hij : i < j) (hj : j ≤ 14) (hL : isLC (ch g o ws i j) c wt L) : ∃ op ∈ optL g ws i j c, vO true g (ch g o ws) wt i j op = L - o c i j := by
  obtain ⟨s, h1, h2, h3, h4⟩ := hL.2
  suffices h : ∃ op ∈ optL g ws i j c, vO true g (ch g o ws) wt i j op ≤ L - o c i j by
    obtain ⟨op, a, b⟩ := h
    have := opt_ge hg ho hK hw hij hj hL a
    exact ⟨op, a, by omega⟩
  obtain ⟨p, hp, hps, hpc⟩ := al_at hg o ws hij h1
  have hbs := cB_ch hg ho ws hij hj
  rcases List.mem_append.mp hp with q | q
  · unfold bOps at q
    rcases List.mem_append.mp q with q | q
    · split at q
      · rename_i hj1
        unfold eOps at q
        obtain ⟨E, hE, q⟩ := List.mem_flatMap.mp q
        split at q
        · rename_i hwd
          rw [List.mem_singleton] at q
          obtain ⟨e, he, hee⟩ := mem_getD hE dE
          have hEk := hg.1 _ hE
          have hps' : eSg E = s := by rw [← hps, q]
          have hcat : E.2.1 = c := by rw [← h2, ← hps']; have := hEk.2.2; unfold eSg; omega
          refine ⟨_, mem_optE he hj1 (by rw [hee]; exact hcat) (by rw [hee]; exact hwd), ?_⟩
          rw [vO_e, hee, hps']
          rw [q] at hpc
          have hpc' : o E.2.1 i (i + 1) = cy (ch g o ws i j s) := hpc
          rw [hcat, ← hj1] at hpc'
          omega
        · cases q
      · cases q
    · obtain ⟨m, hm, q⟩ := List.mem_flatMap.mp q
      have hm := mids_mem.mp hm
      unfold pairs at q
      obtain ⟨R, hR, q⟩ := List.mem_flatMap.mp q
      split at q
      · cases q
      · rename_i hd
        obtain ⟨x, y, u, v, s', hx, hy, hcx, hcy, hu, hv, hs, rfl⟩ := jOps_mem q
        have hRk := hg.2.1 R hR
        obtain ⟨r, hr, hrr⟩ := mem_getD hR dR
        have hss : s' = s := hps
        subst hss
        have hRc : R.1 = c := by rw [← h2, (mkS_in hRk hs).2]
        refine ⟨_, mem_optR hr (by rw [hrr]; exact hRc) (Or.inr ⟨by rw [hrr]; exact hd, hm.1, hm.2⟩), ?_⟩
        rw [vO_r, hrr, vlC]
        have hxm := sL_mem.mp hx
        have hym := sL_mem.mp hy
        obtain ⟨c2, hc2⟩ : ∃ c2, R.2.2.1 = some c2 := by
          cases q : R.2.2.1 with
          | none => exact absurd q hd
          | some c2 => exact ⟨c2, rfl⟩
        have hbx := cB_ch hg ho ws hm.1 (by omega) x
        have hby := cB_ch hg ho ws hm.2 hj y
        have b1 : wFst true R (ch g o ws m j) wt x ≤ cy (ch g o ws m j y) + wt s' := by
          rw [wFst_d hd]
          have := fold_le (V := ch g o ws m j) (q := fun y => some (y / 625) = R.2.2.1) (wt := fun y => mkW true wt (mkS R x y)) (c2_iff hc2) hym.1 hym.2 ((c2_iff hc2 y).mp hcy) (by omega) (by show mkW true wt (mkS R x y) < _; rw [hs]; exact h3)
          have e5 : mkW true wt (mkS R x y) = wt s' := by rw [hs]; rfl
          rw [← e5]; exact this
        have hwF := wFst_B (R := R) (Vb := ch g o ws m j) (K := 500000) (fun s => by rcases hw s with q | q; exact Or.inl q; right; omega) (by omega) (fun _ => cB_ch hg ho ws hm.2 hj) x
        have hwl : wt s' ≤ 500000 := by rcases hw s' with q | q <;> omega
        have b2 := fold_le (V := ch g o ws i m) (q := fun x => x / 625 = R.2.1) (wt := wFst true R (ch g o ws m j) wt) (fun _ => Iff.rfl) hxm.1 hxm.2 hcx (by omega) (by omega)
        have hpc' : o R.1 i j + u.2 + v.2 = cy (ch g o ws i j s') := hpc
        have e1 : cy (ch g o ws i m x) = u.2 := by rw [hu]; rfl
        have e2 : cy (ch g o ws m j y) = v.2 := by rw [hv]; rfl
        rw [hRc] at hpc'
        omega
  · unfold singl at q
    obtain ⟨R, hR, q⟩ := List.mem_flatMap.mp q
    split at q
    · rename_i hd
      obtain ⟨x, u, s', hx, hcx, hu, hs, rfl⟩ := sOps_mem q
      have hRk := hg.2.1 R hR
      obtain ⟨r, hr, hrr⟩ := mem_getD hR dR
      have hss : s' = s := hps
      subst hss
      have hRc : R.1 = c := by rw [← h2, (mkS_in hRk hs).2]
      refine ⟨_, mem_optR (m := j) hr (by rw [hrr]; exact hRc) (Or.inl ⟨by rw [hrr]; exact hd, rfl⟩), ?_⟩
      rw [vO_r, hrr, vlC]
      have hxm := sL_mem.mp hx
      have hbx := cB_ch hg ho ws hij hj x
      have b1 : wFst true R (ch g o ws j j) wt x = wt s' := by rw [wFst_s hd, hs]; rfl
      have b2 := fold_le (V := ch g o ws i j) (q := fun x => x / 625 = R.2.1) (wt := wFst true R (ch g o ws j j) wt) (fun _ => Iff.rfl) hxm.1 hxm.2 hcx (by omega) (by omega)
      have hpc' : o R.1 i j + u.2 = cy (ch g o ws i j s') := hpc
      have e1 : cy (ch g o ws i j x) = u.2 := by rw [hu]; rfl
      rw [hRc] at hpc'
      omega
    · cases q
end CO
/-- the first of the least -/
theorem chC_go {v : Opt → Int} {m : Int} : ∀ (L : List Opt) (a : Option Opt) (b : Int), (∀ p ∈ L, m ≤ v p) → (b = m → L.foldl (fun a o => if v o < a.2 then (some o, v o) else a) (a, b) = (a, b)) ∧ (m < b → (∃ p ∈ L, v p = m) → L.foldl (fun a o => if v o < a.2 then (some o, v o) else a) (a, b) = (L.find? (fun p => decide (v p = m)), m))
  | [], a, b, _ => ⟨fun _ => rfl, fun _ ⟨p, h, _⟩ => by cases h⟩
  | o :: L, a, b, h => by
    have h0 := h o (List.mem_cons_self ..)
    have ih := fun a b => chC_go L a b (fun p hp => h p (List.mem_cons_of_mem _ hp))
    rw [List.foldl_cons]
    refine ⟨fun e => ?_, fun hb hex => ?_⟩
    · rw [if_neg (show ¬ v o < (a, b).2 by show ¬ v o < b; omega)]
      exact (ih a b).1 e
    · rw [List.find?_cons]
      by_cases e : v o = m
      · rw [if_pos (show v o < (a, b).2 by show v o < b; omega), decide_eq_true e, (ih (some o) (v o)).1 e, e]
      · rw [decide_eq_false e]
        have hex' : ∃ p ∈ L, v p = m := by
          obtain ⟨p, hp, hv⟩ := hex
          rcases List.mem_cons.mp hp with q | q
          · subst q; exact absurd hv e
          · exact ⟨p, q, hv⟩
        by_cases c : v o < b
        · rw [if_pos (show v o < (a, b).2 from c)]
          exact (ih (some o) (v o)).2 (by omega) hex'
        · rw [if_neg (show ¬ v o < (a, b).2 from c)]
          exact (ih a b).2 hb hex'
theorem chC_find {v : Opt → Int} {m : Int} {L : List Opt} (h : ∀ p ∈ L, m ≤ v p) (hm : m < 1000000) (hex : ∃ p ∈ L, v p = m) : (chC v L).1 = L.find? (fun p => decide (v p = m)) := by
  unfold chC
  rw [(chC_go L none 1000000 h).2 hm hex]
