/-! ===== the reference by cost: what is wanted ===== -/
theorem dc_cy {v : Vl} (h : v.isSome = true) : dc v = cy v := by
  cases v with
  | none => cases h
  | some v => rfl
theorem iC_eq {a b : Int} (h1 : -2000000000 ≤ a) (h2 : a ≤ 2000000000) (h3 : -2000000000 ≤ b) (h4 : b ≤ 2000000000) : iC a = iC b ↔ a = b := by rw [← Int32.toInt_inj, iC_i h1 h2, iC_i h3 h4]
def gsB (R : Rule) (V Vb : Nat → Vl) (wt : Nat → Int) (L oth : Int) (s t : Nat) : Bool := if some (t / 625) = R.2.2.1 then (match mkS R s t with | some u => decide (cy (V u) + wt u = L ∧ cy (V u) = oth + cy (Vb t)) | none => false) else false
def ssB (R : Rule) (V : Nat → Vl) (wt : Nat → Int) (L oth : Int) (s : Nat) : Bool := match mkS R s 0 with | some u => decide (cy (V u) + wt u = L ∧ cy (V u) = oth) | none => false
section GS
variable {g : Gram} {o : Own} {ws : List (List Nat)} {i j : Nat} {wt : Nat → Int} {L : Int}
theorem gs_eq (hg : gOk g) (ho : oB o) {K : Int} (hK : K ≤ 500000) (hw : wB K wt) {R : Rule} (hR : R ∈ g.2.1) {m : Nat} (him : i < m) (hmj : m < j) (hj : j ≤ 14) (hL : isLC (ch g o ws i j) R.1 wt L) {c2 : Nat} (h1 : R.2.2.1 = some c2) {x y : Nat} (hx : (ch g o ws i m x).isSome = true) (hcx : x / 625 = R.2.1) (hy : (ch g o ws m j y).isSome = true) (hcy : y / 625 = c2) : gsB R (ch g o ws i j) (ch g o ws m j) wt L (o R.1 i j + cy (ch g o ws i m x)) x y = decide (o R.1 i j + cy (ch g o ws i m x) + cy (ch g o ws m j y) + mkW true wt (mkS R x y) = L) := by
  have hRk := hg.2.1 R hR
  have hLb := isLC_b (cB_ch hg ho ws (by omega) hj) hK hw hL
  have hob := ho R.1 i j
  have hbx := cB_ch hg ho ws him (by omega) x
  have hby := cB_ch hg ho ws hmj hj y
  unfold gsB
  rw [if_pos (by rw [hcy, h1])]
  cases hs : mkS R x y with
  | none =>
    show false = decide (_ + (1000000 : Int) = L)
    rw [decide_eq_false (by omega)]
  | some u =>
    have h2 := lowD hg him hmj hR rfl h1 hx hcx hy hcy hs
    have h3 := hL.1 u h2.1 (mkS_in hRk hs).2
    show decide _ = decide (_ + wt u = L)
    by_cases q : o R.1 i j + cy (ch g o ws i m x) + cy (ch g o ws m j y) + wt u = L
    · rw [decide_eq_true q, decide_eq_true (by omega)]
    · rw [decide_eq_false q, decide_eq_false (by omega)]
theorem gs_any (hg : gOk g) (ho : oB o) {K : Int} (hK : K ≤ 500000) (hw : wB K wt) {R : Rule} (hR : R ∈ g.2.1) {m : Nat} (him : i < m) (hmj : m < j) (hj : j ≤ 14) (hL : isLC (ch g o ws i j) R.1 wt L) {c2 : Nat} (h1 : R.2.2.1 = some c2) {x : Nat} (hx : (ch g o ws i m x).isSome = true) (hcx : x / 625 = R.2.1) : (sL (ch g o ws m j)).any (gsB R (ch g o ws i j) (ch g o ws m j) wt L (o R.1 i j + cy (ch g o ws i m x)) x) = decide (cy (ch g o ws i m x) + wFst true R (ch g o ws m j) wt x = L - o R.1 i j) := by
  have hLb := isLC_b (cB_ch hg ho ws (by omega) hj) hK hw hL
  have hob := ho R.1 i j
  have hbx := cB_ch hg ho ws him (by omega) x
  have hbb := cB_ch hg ho ws hmj hj
  have hne : R.2.2.1 ≠ none := by rw [h1]; intro q; cases q
  have hlow := lowW hg ho hK hw (by omega) hj hL hR rfl (Or.inr ⟨hne, him, hmj⟩) hx hcx
  have hgs := fun {y : Nat} => gs_eq (y := y) hg ho hK hw hR him hmj hj hL h1 hx hcx
  by_cases q : cy (ch g o ws i m x) + wFst true R (ch g o ws m j) wt x = L - o R.1 i j
  · rw [decide_eq_true q, List.any_eq_true]
    have hfin : wFst true R (ch g o ws m j) wt x < 1000000 := by omega
    rw [wFst_d hne] at hfin q
    rcases mnF_at (fun y => some (y / 625) = R.2.2.1) (fun y => bthG true (cy (ch g o ws m j y)) (mkW true wt (mkS R x y))) (sL (ch g o ws m j)) 1000000 with z | ⟨y, hy, hqy, z⟩
    · omega
    · have hym := sL_mem.mp hy
      have hcy := (c2_iff h1 y).mp hqy
      refine ⟨y, hy, ?_⟩
      rw [hgs hym.2 hcy]
      have hby := hbb y
      have z' : mnF (fun y => some (y / 625) = R.2.2.1) (fun y => bthG true (cy (ch g o ws m j y)) (mkW true wt (mkS R x y))) (sL (ch g o ws m j)) 1000000 = bthG true (cy (ch g o ws m j y)) (mkW true wt (mkS R x y)) := z
      rw [z'] at hfin q
      rw [bthC] at hfin q
      by_cases hf : 1000000 ≤ cy (ch g o ws m j y) ∨ 1000000 ≤ mkW true wt (mkS R x y)
      · rw [if_pos hf] at hfin; omega
      · rw [if_neg hf] at q
        exact decide_eq_true (by omega)
  · rw [decide_eq_false q]
    rw [Bool.eq_false_iff]
    intro ha
    rw [List.any_eq_true] at ha
    obtain ⟨y, hy, hb⟩ := ha
    have hym := sL_mem.mp hy
    have hcy : y / 625 = c2 := by
      unfold gsB at hb
      by_cases z : some (y / 625) = R.2.2.1
      · exact (c2_iff h1 y).mp z
      · rw [if_neg z] at hb; cases hb
    rw [hgs hym.2 hcy] at hb
    have hb := of_decide_eq_true hb
    have hby := hbb y
    have hfl := fold_le (V := ch g o ws m j) (q := fun y => some (y / 625) = R.2.2.1) (wt := fun y => mkW true wt (mkS R x y)) (c2_iff h1) hym.1 hym.2 hcy (by omega) (by show mkW true wt (mkS R x y) < _; omega)
    rw [← wFst_d hne] at hfl
    have hfl' : wFst true R (ch g o ws m j) wt x ≤ cy (ch g o ws m j y) + mkW true wt (mkS R x y) := hfl
    omega
theorem ss_eq (hg : gOk g) (ho : oB o) {K : Int} (hK : K ≤ 500000) (hw : wB K wt) {R : Rule} (hR : R ∈ g.2.1) (hij : i < j) (hj : j ≤ 14) (hL : isLC (ch g o ws i j) R.1 wt L) (h1 : R.2.2.1 = none) {x : Nat} {Vb : Nat → Vl} (hx : (ch g o ws i j x).isSome = true) (hcx : x / 625 = R.2.1) : ssB R (ch g o ws i j) wt L (o R.1 i j + cy (ch g o ws i j x)) x = decide (cy (ch g o ws i j x) + wFst true R Vb wt x = L - o R.1 i j) := by
  have hRk := hg.2.1 R hR
  have hLb := isLC_b (cB_ch hg ho ws (by omega) hj) hK hw hL
  have hob := ho R.1 i j
  have hbx := cB_ch hg ho ws hij hj x
  rw [wFst_s h1]
  unfold ssB
  cases hs : mkS R x 0 with
  | none =>
    show false = decide (_ + (1000000 : Int) = _)
    rw [decide_eq_false (by omega)]
  | some u =>
    have h2 := lowS hg hij hR rfl h1 hx hcx hs
    have h3 := hL.1 u h2.1 (mkS_in hRk hs).2
    show decide _ = decide (_ + wt u = _)
    by_cases q : cy (ch g o ws i j x) + wt u = L - o R.1 i j
    · rw [decide_eq_true q, decide_eq_true (by omega)]
    · rw [decide_eq_false q, decide_eq_false (by omega)]
end GS
def rowB (B : Nat → Nat → Int64) (row : Nat) (V : Nat → Vl) (c : Nat) (wt : Nat → Int) (L : Int) : Prop := ∀ k, k < (sL V).length → (sL V).getD k 0 / 625 = c → B 26 (64 * row + k) = (if cy (V ((sL V).getD k 0)) + wt ((sL V).getD k 0) = L then 1 else 0)
section M27
variable {l : Launch} {J : Nat → Int64} {A : Nat → Nat → Int32} {B : Nat → Nat → Int64} {Q : Option Value → XW → Prop} {d : Nat} {I : Nat → Int32}
theorem s_isWanted (hd : 2 ≤ d) {x y z v : Int32} {row c s cc : Nat} {V : Nat → Vl} {wt : Nat → Int} {L cv : Int} (hx : x = nI row) (hr : row ≤ 245) (hy : y = nI c) (hc : c < 225) (hz : z = nI s) (hs : s < 10000) (hv : v = iC cv) (hv1 : -2000000 ≤ cv) (hv2 : cv ≤ 2000000) (hV : cM A B c V) (hk : kM A c V V) (hb : cB V) (hin : (V s).isSome = true) (hcat : s / 625 = cc) (hw : rowB B row V cc wt L) (hQ : Q (some (.int (bI (decide (cy (V s) + wt s = L ∧ cy (V s) = cv))))) (wM I J A B)) : xK l d 181 [.ref 0, .int x, .int y, .int z, .int v] (wM I J A B) Q := by
  obtain ⟨d, rfl⟩ : ∃ e, d = e + 1 := ⟨d - 1, by omega⟩
  subst hx; subst hv
  have hat := sL_at hs hin
  have h60 := hV.1
  have hbs := hb s
  have hy0 := hy
  refine e_X11_isWanted (s_find (V := V) (by omega) hy hc hz hs h60 hV.2.1 (fun k hk => (hV.2.2 k hk).1) (fun hn => by rw [hn] at hin; cases hin) (fun _ _ => b_X11_isWanted_6 ?_))
  have h1 := hw _ hat.1 (by rw [hat.2]; exact hcat)
  have h2 := hk _ hat.1
  rw [hat.2] at h1 h2
  rw [dc_cy hin] at h2
  rw [hy0, if_neg (ne_m1 (by omega)), show (64 : Int32) * nI row + nI (ix V s) = nI (64 * row + ix V s) from add_of (mul_of (a := 64) rfl rfl) rfl, show (64 : Int32) * nI c + nI (ix V s) = nI (64 * c + ix V s) from add_of (mul_of (a := 64) rfl rfl) rfl, cl_n (by omega), cl_n (by omega), h1, h2]
  refine ⟨xin_n (by omega) (by omega), ?_⟩
  by_cases q : cy (V s) + wt s = L
  · rw [if_pos q, if_pos (lg0.mpr rfl)]
    refine ⟨xin_n (by omega) (by omega), if_if (iC_eq (by omega) (by omega) (by omega) (by omega)) (fun q2 => ⟨Or.inr rfl, ?_⟩) (fun q2 => ⟨Or.inl rfl, ?_⟩)⟩
    · rw [decide_eq_true ⟨q, q2⟩] at hQ; exact hQ
    · rw [decide_eq_false (fun z => q2 z.2)] at hQ; exact hQ
  · rw [if_neg q, if_neg (fun z => absurd (lg0.mp z) (by decide +kernel))]
    rw [decide_eq_false (fun z => q z.1)] at hQ
    exact ⟨Or.inl rfl, hQ⟩
theorem s_goes (hd : 4 ≤ d) {x1 x2 x3 x4 x5 x6 x7 : Int32} {r c row s b q c2 : Nat} {R : Rule} {V Vb : Nat → Vl} {wt : Nat → Int} {L oth : Int} (hx1 : x1 = nI r) (hr : r < 30) (hx2 : x2 = nI c) (hc : c < 225) (hx3 : x3 = nI row) (hrow : row ≤ 245) (hx4 : x4 = nI s) (hs : s < 10000) (hx5 : x5 = nI b) (hbb : b < 225) (hx6 : x6 = nI q) (hx7 : x7 = iC oth) (ho1 : -1000000 ≤ oth) (ho2 : oth ≤ 1000000) (hR : okR R) (hRA : rulAt A r R) (h1 : R.2.2.1 = some c2) (hV : cM A B c V) (hk : kM A c V V) (hcV : cB V) (hVb : cM A B b Vb) (hkb : kM A b Vb Vb) (hcVb : cB Vb) (hq : q < (sL Vb).length) (hin : ∀ u, (sL Vb).getD q 0 / 625 = c2 → mkS R s ((sL Vb).getD q 0) = some u → (V u).isSome = true) (hw : rowB B row V R.1 wt L)
    (hQ : ∀ A' : Nat → Nat → Int32, (∀ p, p ≠ 14 → A' p = A p) → Q (some (.int (bI (gsB R V Vb wt L oth s ((sL Vb).getD q 0))))) (wM I J A' B)) : xK l d 184 [.ref 0, .int x1, .int x2, .int x3, .int x4, .int x5, .int x6, .int x7] (wM I J A B) Q := by
  obtain ⟨d, rfl⟩ : ∃ e, d = e + 1 := ⟨d - 1, by omega⟩
  subst hx1; subst hx2; subst hx3; subst hx4; subst hx5; subst hx6; subst hx7
  have lB := hVb.1
  have hyn := sL_in hq
  have hcq := (hVb.2.2 q hq).1
  have hkq := hkb q hq
  rw [dc_cy hyn.2] at hkq
  have hby := hcVb ((sL Vb).getD q 0)
  have hc216 := hR.2.2.1 c2 h1
  have hR1 := hR.1
  generalize hy : (sL Vb).getD q 0 = y at hyn hcq hkq hby hin hQ
  refine e_X11_goes ?_
  rw [show (64 : Int32) * nI b + nI q = nI (64 * b + q) from add_of (mul_of (a := 64) rfl rfl) rfl, cl_n (by omega), hcq]
  refine ⟨xin_n (by omega) (by omega), s_categoryOfM (by omega) rfl hyn.1 (b_X11_goes_20 ⟨xin_n (by omega) (by omega), ?_⟩)⟩
  rw [cl_n (a := r) (by omega), hRA.2.2.1, h1, show o2i (some c2) = nI c2 from rfl, if_pos (show (-1 : Int32) = -1 from rfl)]
  refine if_eq rfl rfl (by omega) (by omega) (fun e4 => ⟨by decide, by decide, ?_⟩) (fun e4 => ⟨Or.inl rfl, ?_⟩)
  · rw [mod625 hs, mod625 hyn.1]
    refine s_made (by omega) rfl (by omega) rfl (mod_lt625 _) rfl (mod_lt625 _) hR hRA (fun A5 h14 => b_X11_goes_46 ?_)
    have hq5 := hQ A5 h14
    unfold gsB at hq5
    rw [if_pos (by rw [e4, h1])] at hq5
    cases hk' : mkK R.2.2.2.1 (s % 625) (y % 625) with
    | none =>
      rw [if_pos (show o2i none = -1 from rfl)]
      rw [show mkS R s y = none by unfold mkS; rw [hk']; rfl] at hq5
      exact ⟨Or.inl rfl, hq5⟩
    | some kk =>
      have hk625 := mkK_lt (by split <;> omega) hR.2.2.2.2.1 hk'
      have hmy : mkS R s y = some (625 * R.1 + kk) := by unfold mkS; rw [hk']; rfl
      have hpr := hin _ e4 hmy
      rw [hmy] at hq5
      rw [show o2i (some kk) = nI kk from rfl, if_neg (ne_m1 (by omega)), cl_n (a := r) (by omega), h14 6 (by decide), hRA.1, show (625 : Int32) * nI R.1 + nI kk = nI (625 * R.1 + kk) from add_of (mul_of (a := 625) rfl rfl) rfl, show (64 : Int32) * nI b + nI q = nI (64 * b + q) from add_of (mul_of (a := 64) rfl rfl) rfl, cl_n (by omega), h14 19 (by decide), hkq, iC_add]
      refine ⟨xin_n (by omega) (by omega), xin_n (by omega) (by omega), s_isWanted (V := V) (cc := R.1) (wt := wt) (L := L) (by omega) rfl hrow rfl hc rfl (by omega) rfl (by omega) (by omega) ?_ (kM_14 hk h14) hcV hpr (by omega) hw (b_X11_goes_93 (if_bI rfl (fun e => ⟨Or.inl rfl, ?_⟩) (fun e => ⟨Or.inr rfl, ?_⟩)))⟩
      · unfold cM at hV ⊢
        rw [h14 17 (by decide), h14 18 (by decide)]; exact hV
      · have hq6 : Q (some (.int (bI (decide (cy (V (625 * R.1 + kk)) + wt (625 * R.1 + kk) = L ∧ cy (V (625 * R.1 + kk)) = oth + cy (Vb y)))))) (wM I J A5 B) := hq5
        rw [e] at hq6; exact hq6
      · have hq6 : Q (some (.int (bI (decide (cy (V (625 * R.1 + kk)) + wt (625 * R.1 + kk) = L ∧ cy (V (625 * R.1 + kk)) = oth + cy (Vb y)))))) (wM I J A5 B) := hq5
        rw [e] at hq6; exact hq6
  · have := hQ A (fun _ _ => rfl)
    unfold gsB at this
    rw [if_neg (fun z => e4 ((c2_iff h1 y).mp z))] at this
    exact this
end M27
