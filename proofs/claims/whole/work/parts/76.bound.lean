/-! ===== bounds of costs; the class's order of the single rules ===== -/
theorem clos_irr {rs : List Rule} {nc : Nat} (hs : ∀ R ∈ rs, R.1 < nc ∧ R.2.1 < nc) (hn : nc ≤ 16) (h : rs.find? (lpR (clos rs)) = none) (c : Nat) : clos rs c c = false := by
  have sp0 : supp (cl0 rs) 16 := fun x y z => by have := supp_0 hs x y z; omega
  cases z : clos rs c c with
  | false => rfl
  | true =>
    obtain ⟨e, h2, h3⟩ := clC_dec sp0 16 z
    obtain ⟨R', hR', h4, h5, h6⟩ := cl0_iff.mp h2
    have := lpR_no h hR' h4
    rw [h5, h6] at this
    rcases h3 with e | e
    · exact absurd e this.1
    · rw [show clC 16 (cl0 rs) = clos rs from rfl, this.2] at e; cases e
theorem cnt_15 {g : Gram} (h : gOk g) {c : Nat} (hc : c < 16) : cntC (clos g.2.1) c ≤ 15 := by
  have hi := clos_irr (fun R hR => ⟨(h.2.2.2.2.1 R hR).1, (h.2.2.2.2.1 R hR).2.1⟩) h.2.2.1 h.2.2.2.2.2 c
  have h1 : cntC (clos g.2.1) c < (List.range 16).length := by
    refine Nat.lt_of_le_of_ne List.countP_le_length (fun z => ?_)
    have := List.countP_eq_length.mp z c (List.mem_range.mpr hc)
    rw [hi] at this; cases this
  rw [List.length_range] at h1; omega
theorem pOp_mem {own : Int} {R : Rule} {x y : Nat} {a b : Vl} {p : Op} (h : p ∈ pOp own R x y a b) : ∃ u v s, a = some u ∧ b = some v ∧ mkS R x y = some s ∧ p = (s, (u.1 * v.1, own + u.2 + v.2)) := by
  unfold pOp at h
  cases hs : mkS R x y with
  | none => rw [hs] at h; cases h
  | some s =>
    cases a with
    | none => rw [hs] at h; cases h
    | some u =>
      cases b with
      | none => rw [hs] at h; cases h
      | some v => rw [hs] at h; exact ⟨u, v, s, rfl, rfl, rfl, List.mem_singleton.mp h⟩
theorem jOps_mem {o : Own} {R : Rule} {i j : Nat} {V V' : Nat → Vl} {p : Op} (h : p ∈ jOps o R i j V V') : ∃ x y u v s, x ∈ sL V ∧ y ∈ sL V' ∧ x / 625 = R.2.1 ∧ some (y / 625) = R.2.2.1 ∧ V x = some u ∧ V' y = some v ∧ mkS R x y = some s ∧ p = (s, (u.1 * v.1, o R.1 i j + u.2 + v.2)) := by
  unfold jOps at h
  obtain ⟨x, hx, h⟩ := List.mem_flatMap.mp h
  by_cases e : x / 625 = R.2.1
  · rw [if_pos e] at h
    obtain ⟨y, hy, h⟩ := List.mem_flatMap.mp h
    by_cases e2 : some (y / 625) = R.2.2.1
    · rw [if_pos e2] at h
      obtain ⟨u, v, s, h1, h2, h3, h4⟩ := pOp_mem h
      exact ⟨x, y, u, v, s, hx, hy, e, e2, h1, h2, h3, h4⟩
    · rw [if_neg e2] at h; cases h
  · rw [if_neg e] at h; cases h
theorem sOps_mem {o : Own} {R : Rule} {i j : Nat} {V : Nat → Vl} {p : Op} (h : p ∈ sOps o R i j V) : ∃ x u s, x ∈ sL V ∧ x / 625 = R.2.1 ∧ V x = some u ∧ mkS R x 0 = some s ∧ p = (s, (u.1, o R.1 i j + u.2)) := by
  unfold sOps at h
  obtain ⟨x, hx, h⟩ := List.mem_flatMap.mp h
  by_cases e : x / 625 = R.2.1
  · rw [if_pos e] at h
    unfold sOp at h
    cases hs : mkS R x 0 with
    | none => rw [hs] at h; cases h
    | some s =>
      cases hu : V x with
      | none => rw [hs, hu] at h; cases h
      | some u => rw [hs, hu] at h; exact ⟨x, u, s, hx, e, hu, hs, List.mem_singleton.mp h⟩
  · rw [if_neg e] at h; cases h
def oB (o : Own) : Prop := ∀ c i j, -1 ≤ o c i j ∧ o c i j ≤ 1
/-- costs are small -/
theorem bOps_bd {g : Gram} (hg : gOk g) {o : Own} (ho : oB o) {ws : List (List Nat)} {i j : Nat} (ih : ∀ a b, a < b → b - a < j - i → ∀ s v, ch g o ws a b s = some v → -(40 * (b - a : Int) - 20) ≤ v.2 ∧ v.2 ≤ 40 * (b - a : Int) - 20) (hij : i < j) {p : Op} (h : p ∈ bOps g o ws (ch g o ws) i j) : -(40 * (j - i : Int) - 39) ≤ p.2.2 ∧ p.2.2 ≤ 40 * (j - i : Int) - 39 := by
  unfold bOps at h
  rcases List.mem_append.mp h with q | q
  · split at q
    · have := eOps_b ho q; omega
    · cases q
  · obtain ⟨m, hm, q⟩ := List.mem_flatMap.mp q
    have hm := mids_mem.mp hm
    unfold pairs at q
    obtain ⟨R, hR, q⟩ := List.mem_flatMap.mp q
    split at q
    · cases q
    · obtain ⟨x, y, u, v, s, _, _, _, _, h1, h2, _, rfl⟩ := jOps_mem q
      have b1 := ih i m hm.1 (by omega) x u h1
      have b2 := ih m j hm.2 (by omega) y v h2
      have := ho R.1 i j
      show _ ≤ o R.1 i j + u.2 + v.2 ∧ o R.1 i j + u.2 + v.2 ≤ _
      omega
theorem ch_bd {g : Gram} (hg : gOk g) {o : Own} (ho : oB o) (ws : List (List Nat)) : ∀ w i j, i < j → j - i ≤ w → ∀ s v, ch g o ws i j s = some v → -(40 * (j - i : Int) - 20) ≤ v.2 ∧ v.2 ≤ 40 * (j - i : Int) - 20
  | 0, i, j, h, hw, s, v, _ => by omega
  | w + 1, i, j, h, hw, s, v, hv => by
    have ih : ∀ a b, a < b → b - a < j - i → ∀ s v, ch g o ws a b s = some v → -(40 * (b - a : Int) - 20) ≤ v.2 ∧ v.2 ≤ 40 * (b - a : Int) - 20 := fun a b hab hlt => ch_bd hg ho ws w a b hab (by omega)
    have rk : ∀ k s v, cntC (clos g.2.1) (s / 625) ≤ k → ch g o ws i j s = some v → -(40 * (j - i : Int) - 39 + k) ≤ v.2 ∧ v.2 ≤ 40 * (j - i : Int) - 39 + k := by
      intro k
      induction k with
      | zero =>
        intro s v hc hv
        rw [ch_cell hg o ws h] at hv
        refine vA_b (K := 40 * (j - i : Int) - 39 + (0 : Nat)) (fun v hv => tot_b (fun p hp _ => by have := bOps_bd hg ho ih h hp; omega) hv) (fun v hv => ?_) hv
        exfalso
        obtain ⟨p, hp, e⟩ := tot_some.mp (show (tot (singl g.2.1 o i j (ch g o ws i j)) s).isSome = true by rw [hv]; rfl)
        unfold singl at hp
        obtain ⟨R, hR, hp⟩ := List.mem_flatMap.mp hp
        split at hp
        · rename_i h1
          have := gOk_rk hg hR h1
          rw [← (sOps_in (hg.2.1 R hR) hp).2, e] at this
          omega
        · cases hp
      | succ k ihk =>
        intro s v hc hv
        rw [ch_cell hg o ws h] at hv
        refine vA_b (K := 40 * (j - i : Int) - 39 + ((k + 1 : Nat) : Int)) (fun v hv => tot_b (fun p hp _ => by have := bOps_bd hg ho ih h hp; omega) hv) (fun v hv => tot_b (fun p hp e => ?_) hv) hv
        unfold singl at hp
        obtain ⟨R, hR, hp⟩ := List.mem_flatMap.mp hp
        split at hp
        · rename_i h1
          have hr := gOk_rk hg hR h1
          rw [← (sOps_in (hg.2.1 R hR) hp).2, e] at hr
          obtain ⟨x, u, t, _, hx, hu, _, rfl⟩ := sOps_mem hp
          have b := ihk x u (by rw [hx]; omega) hu
          have := ho R.1 i j
          show _ ≤ o R.1 i j + u.2 ∧ o R.1 i j + u.2 ≤ _
          omega
        · cases hp
    have h16 := cntC_le (clos g.2.1) (s / 625)
    have hs := ch_sup hg o ws h (show (ch g o ws i j s).isSome = true by rw [hv]; rfl)
    have h15 := cnt_15 hg (c := s / 625) (by omega)
    have := rk 15 s v h15 hv
    omega
theorem ch_b {g : Gram} (hg : gOk g) {o : Own} (ho : oB o) (ws : List (List Nat)) {i j : Nat} (h : i < j) (hj : j ≤ 14) : ∀ s v, ch g o ws i j s = some v → -600 ≤ v.2 ∧ v.2 ≤ 600 := fun s v hv => by
  have := ch_bd hg ho ws (j - i) i j h (Nat.le_refl _) s v hv; omega
theorem bOps_b {g : Gram} (hg : gOk g) {o : Own} (ho : oB o) {ws : List (List Nat)} {i j : Nat} (h : i < j) (hj : j ≤ 14) {p : Op} (hp : p ∈ bOps g o ws (ch g o ws) i j) : -600 ≤ p.2.2 ∧ p.2.2 ≤ 600 := by
  have := bOps_bd hg ho (fun a b hab _ => ch_bd hg ho ws (b - a) a b hab (Nat.le_refl _)) h hp; omega
theorem sOps_b {g : Gram} (hg : gOk g) {o : Own} (ho : oB o) {ws : List (List Nat)} {i j : Nat} (h : i < j) (hj : j ≤ 14) {R : Rule} {p : Op} (hp : p ∈ sOps o R i j (ch g o ws i j)) : -601 ≤ p.2.2 ∧ p.2.2 ≤ 601 := by
  obtain ⟨x, u, t, _, hx, hu, _, rfl⟩ := sOps_mem hp
  have := ch_b hg ho ws h hj x u hu
  have := ho R.1 i j
  show _ ≤ o R.1 i j + u.2 ∧ o R.1 i j + u.2 ≤ _
  omega
/-- sums over the same rules -/
theorem tot_perm {α : Type} {L L' : List α} (h : L.Perm L') (H : α → List Op) (s : Nat) : tot (L.flatMap H) s = tot (L'.flatMap H) s := by
  induction h with
  | nil => rfl
  | cons x _ ih => rw [List.flatMap_cons, List.flatMap_cons, tot_app, tot_app, ih]
  | swap x y l => rw [List.flatMap_cons, List.flatMap_cons, List.flatMap_cons, List.flatMap_cons, tot_app, tot_app, tot_app, tot_app, ← vA_a, ← vA_a, vA_c (tot (H y) s)]
  | trans _ _ ih1 ih2 => rw [ih1, ih2]
theorem perm_of {L L' : List Nat} (h1 : L.Nodup) (h2 : L'.Nodup) (h : ∀ x, x ∈ L ↔ x ∈ L') : L.Perm L' := by
  induction L generalizing L' with
  | nil =>
    cases L' with
    | nil => exact List.Perm.refl _
    | cons a t => exact absurd ((h a).mpr (List.mem_cons_self ..)) (by simp)
  | cons a t ih =>
    have ha : a ∈ L' := (h a).mp (List.mem_cons_self ..)
    have hn := List.nodup_cons.mp h1
    refine List.Perm.trans (List.Perm.cons a (ih hn.2 (List.Nodup.erase a h2) (fun x => ?_))) (List.perm_cons_erase ha).symm
    rw [List.Nodup.mem_erase_iff h2, ← h x, List.mem_cons]
    constructor
    · intro hx; exact ⟨fun e => hn.1 (by rw [← e]; exact hx), Or.inr hx⟩
    · rintro ⟨h3, h4⟩; exact h4.resolve_left h3
theorem tot_fil {L : List Nat} {p : Nat → Bool} {H : Nat → List Op} {s : Nat} (h : ∀ r ∈ L, p r = false → tot (H r) s = none) : tot (L.flatMap H) s = tot ((L.filter p).flatMap H) s := by
  rw [fm_fil]
  refine tot_cg fun r hr => ?_
  by_cases c : p r = true
  · rw [if_pos c]
  · rw [if_neg c]; exact h r hr (by simpa using c)
theorem tot_same {L : List Nat} {n : Nat} {p : Nat → Bool} {H : Nat → List Op} {s : Nat} (hn : L.Nodup) (hL : ∀ r ∈ L, r < n) (hp : ∀ r, r < n → p r = true → r ∈ L) (h : ∀ r, r < n → p r = false → tot (H r) s = none) : tot (L.flatMap H) s = tot ((List.range n).flatMap H) s := by
  rw [tot_fil (p := p) (fun r hr => h r (hL r hr)), tot_fil (L := List.range n) (p := p) (fun r hr => h r (List.mem_range.mp hr))]
  refine tot_perm (perm_of (List.Pairwise.filter _ hn) (List.Pairwise.filter _ List.nodup_range) (fun x => ?_)) H s
  rw [List.mem_filter, List.mem_filter, List.mem_range]
  exact ⟨fun z => ⟨hL x z.1, z.2⟩, fun z => ⟨hp x z.1 z.2, z.2⟩⟩
def sgH (g : Gram) (o : Own) (i j : Nat) (V : Nat → Vl) (r : Nat) : List Op := if (g.2.1.getD r dR).2.2.1 = none then sOps o (g.2.1.getD r dR) i j V else []
theorem singl_rng (g : Gram) (o : Own) (i j : Nat) (V : Nat → Vl) : singl g.2.1 o i j V = (List.range g.2.1.length).flatMap (sgH g o i j V) := by
  unfold singl
  have e : g.2.1 = (List.range g.2.1.length).map fun r => g.2.1.getD r dR := by
    apply List.ext_getElem
    · simp
    · intro k h1 h2
      rw [List.getElem_map, List.getElem_range, gD_lt h1]
  conv => lhs; rw [e]
  rw [List.flatMap_map]
  rfl
theorem sgH_cat {g : Gram} (hg : gOk g) {o : Own} {i j : Nat} {V : Nat → Vl} {r : Nat} (hr : r < g.2.1.length) {p : Op} (h : p ∈ sgH g o i j V r) : p.1 < 10000 ∧ p.1 / 625 = (g.2.1.getD r dR).1 ∧ (g.2.1.getD r dR).2.2.1 = none := by
  unfold sgH at h
  split at h
  · rename_i e
    have := sOps_in (hg.2.1 _ (getD_mem hr dR)) h
    exact ⟨this.1, this.2, e⟩
  · cases h
theorem sgL_mem {g : Gram} (hg : gOk g) {r : Nat} : r ∈ sgL (clos g.2.1) g.2.1 ↔ r < g.2.1.length ∧ (g.2.1.getD r dR).2.2.1 = none := by
  unfold sgL
  rw [gP_mem]
  constructor
  · rintro ⟨h1, h2⟩
    refine ⟨h1, ?_⟩
    unfold sgK at h2
    split at h2
    · rename_i e; exact e.1
    · omega
  · rintro ⟨h1, h2⟩
    refine ⟨h1, ?_⟩
    have hm := getD_mem h1 dR
    have hr := gOk_rk hg hm h2
    have h16 : (g.2.1.getD r dR).1 < 16 := (hg.2.1 _ hm).1
    have h15 := cnt_15 hg h16
    unfold sgK
    rw [if_pos ⟨h2, by omega⟩]; omega
theorem sgL_nd (g : Gram) : (sgL (clos g.2.1) g.2.1).Nodup := List.Pairwise.imp (fun h => h.2) (gP_pw _ _ _)
/-- a cell with the first k single rules done -/
def vK (g : Gram) (o : Own) (ws : List (List Nat)) (i j k : Nat) : Nat → Vl := apv (apv (fun _ => none) (bOps g o ws (ch g o ws) i j)) (((sgL (clos g.2.1) g.2.1).take k).flatMap (sgH g o i j (ch g o ws i j)))
theorem vK_cat {g : Gram} (hg : gOk g) (o : Own) (ws : List (List Nat)) {i j k s : Nat} (hij : i < j) (h : ∀ r, r < g.2.1.length → (g.2.1.getD r dR).2.2.1 = none → (g.2.1.getD r dR).1 = s / 625 → r ∈ (sgL (clos g.2.1) g.2.1).take k) : vK g o ws i j k s = ch g o ws i j s := by
  rw [ch_cell hg o ws hij, singl_rng]
  show vA (vA none (tot _ s)) (tot _ s) = _
  rw [vA_z]
  congr 1
  refine tot_same (p := fun r => decide ((g.2.1.getD r dR).2.2.1 = none ∧ (g.2.1.getD r dR).1 = s / 625)) (List.Pairwise.sublist (List.take_sublist _ _) (sgL_nd g)) (fun r hr => ((sgL_mem hg).mp (List.mem_of_mem_take hr)).1) (fun r hr hp => ?_) (fun r hr hp => ?_)
  · have := of_decide_eq_true hp
    exact h r hr this.1 this.2
  · have hp := of_decide_eq_false hp
    refine tot_none fun p hp' e => hp ?_
    have := sgH_cat hg hr hp'
    exact ⟨this.2.2, by rw [← this.2.1, e]⟩
theorem sgK_s {f : Nat → Nat → Bool} {rs : List Rule} {r : Nat} (h1 : (rs.getD r dR).2.2.1 = none) (h2 : 1 ≤ cntC f (rs.getD r dR).1) : sgK f rs r = cntC f (rs.getD r dR).1 - 1 := if_pos ⟨h1, h2⟩
theorem vK_at {g : Gram} (hg : gOk g) (o : Own) (ws : List (List Nat)) {i j k : Nat} (hij : i < j) (hk : k < (sgL (clos g.2.1) g.2.1).length) {x : Nat} (hx : x / 625 = (g.2.1.getD ((sgL (clos g.2.1) g.2.1).getD k 0) dR).2.1) : vK g o ws i j k x = ch g o ws i j x := by
  have hm := (sgL_mem hg).mp (getD_mem hk 0)
  have hR := getD_mem hm.1 dR
  have hrk := gOk_rk hg hR hm.2
  refine vK_cat hg o ws hij (fun r hr h1 h2 => ?_)
  have hr' := getD_mem hr dR
  have hrk2 := gOk_rk hg hr' h1
  rw [h2, hx] at hrk2
  have h16 : (g.2.1.getD ((sgL (clos g.2.1) g.2.1).getD k 0) dR).1 < 16 := (hg.2.1 _ hR).1
  have h15 := cnt_15 hg h16
  refine gP_before (key := sgK (clos g.2.1) g.2.1) (n := g.2.1.length) (m := 15) hk (gP_mem.mpr ⟨hr, ?_⟩) ?_
  · rw [sgK_s h1 (by rw [h2, hx]; omega), h2, hx]; omega
  · show sgK (clos g.2.1) g.2.1 r < sgK (clos g.2.1) g.2.1 ((sgL (clos g.2.1) g.2.1).getD k 0)
    rw [sgK_s h1 (by rw [h2, hx]; omega), sgK_s hm.2 (by omega), h2, hx]; omega
theorem vK_end {g : Gram} (hg : gOk g) (o : Own) (ws : List (List Nat)) {i j k : Nat} (hij : i < j) (hk : (sgL (clos g.2.1) g.2.1).length ≤ k) : vK g o ws i j k = ch g o ws i j := by
  funext s
  refine vK_cat hg o ws hij (fun r hr h1 _ => ?_)
  rw [List.take_of_length_le hk]
  exact (sgL_mem hg).mpr ⟨hr, h1⟩
theorem vK_sub {g : Gram} (hg : gOk g) (o : Own) (ws : List (List Nat)) {i j k : Nat} (hij : i < j) {s : Nat} (h : (vK g o ws i j k s).isSome = true) : (ch g o ws i j s).isSome = true := by
  rw [← vK_end hg o ws hij (Nat.le_refl _)]
  exact apv_sub (fun p hp => by rw [List.take_of_length_le (Nat.le_refl _)]; exact fm_take hp) h
theorem vK_succ {g : Gram} (hg : gOk g) (o : Own) (ws : List (List Nat)) {i j k : Nat} (hij : i < j) (hk : k < (sgL (clos g.2.1) g.2.1).length) : apv (vK g o ws i j k) (sOps o (g.2.1.getD ((sgL (clos g.2.1) g.2.1).getD k 0) dR) i j (vK g o ws i j k)) = vK g o ws i j (k + 1) := by
  have hm := (sgL_mem hg).mp (getD_mem hk 0)
  rw [sOps_cg (fun s hs => vK_at hg o ws hij hk hs)]
  show apv (apv _ _) _ = apv _ _
  rw [apv_app, fm_snoc 0 hk]
  unfold sgH
  rw [if_pos hm.2]
theorem ch_none {g : Gram} (o : Own) (ws : List (List Nat)) {i j : Nat} (hij : i < j) (h : sL (apv (fun _ => none) (bOps g o ws (ch g o ws) i j)) = []) (hb : ∀ p ∈ bOps g o ws (ch g o ws) i j, p.1 < 10000) (s : Nat) : ch g o ws i j s = none := by
  have h0 : ∀ s, tot (bOps g o ws (ch g o ws) i j) s = none := fun s => by
    cases z : tot (bOps g o ws (ch g o ws) i j) s with
    | none => rfl
    | some v =>
      obtain ⟨p, hp, e⟩ := tot_some.mp (show (tot (bOps g o ws (ch g o ws) i j) s).isSome = true by rw [z]; rfl)
      have : s ∈ sL (apv (fun _ => none) (bOps g o ws (ch g o ws) i j)) := sL_mem.mpr ⟨by rw [← e]; exact hb p hp, by show (vA none _).isSome = true; rw [vA_z, z]; rfl⟩
      rw [h] at this; cases this
  rw [ch_eq g o ws hij]
  have hk : ∀ k s, valF g.2.1 o (bOps g o ws (ch g o ws) i j) i j k s = none := by
    intro k
    induction k with
    | zero => exact h0
    | succ k ih =>
      intro s
      show vA (tot _ s) (tot (singl g.2.1 o i j (valF g.2.1 o (bOps g o ws (ch g o ws) i j) i j k)) s) = none
      rw [h0 s, vA_z]
      refine tot_none fun p hp => ?_
      unfold singl at hp
      obtain ⟨R, _, hp⟩ := List.mem_flatMap.mp hp
      split at hp
      · unfold sOps at hp
        rw [sL_nil ih] at hp; cases hp
      · cases hp
  exact hk 16 s
