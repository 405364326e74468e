/-! ===== the class's finder: small contracts ===== -/
theorem lI_i {v : Int} (h1 : -4000000000000000 ≤ v) (h2 : v ≤ 4000000000000000) : (lI v).toInt = v := Int64.toInt_ofInt_of_le (by omega) (by omega)
theorem lI_lt {a b : Int} (h1 : -4000000000000000 ≤ a) (h2 : a ≤ 4000000000000000) (h3 : -4000000000000000 ≤ b) (h4 : b ≤ 4000000000000000) : lI a < lI b ↔ a < b := by rw [Int64.lt_iff_toInt_lt, lI_i h1 h2, lI_i h3 h4]
theorem lI_le {a b : Int} (h1 : -4000000000000000 ≤ a) (h2 : a ≤ 4000000000000000) (h3 : -4000000000000000 ≤ b) (h4 : b ≤ 4000000000000000) : lI a ≤ lI b ↔ a ≤ b := by rw [Int64.le_iff_toInt_le, lI_i h1 h2, lI_i h3 h4]
theorem lI_add (a b : Int) : lI a + lI b = lI (a + b) := (Int64.ofInt_add a b).symm
theorem lI_sub (a b : Int) : lI a - lI b = lI (a - b) := (Int64.ofInt_sub a b).symm
theorem iC_long {v : Int} (h1 : -2000000000 ≤ v) (h2 : v ≤ 2000000000) : (iC v).toInt64 = lI v := by
  refine Int64.toInt_inj.mp ?_
  rw [Int32.toInt_toInt64, iC_i h1 h2, lI_i (by omega) (by omega)]
/-- values in their bounds -/
def vR (b : Bool) (x : Int) : Prop := if b = true then (-1000000 ≤ x ∧ x ≤ 1000000) else ∃ n : Nat, x = (sat n : Int)
theorem vR_b {b : Bool} {x : Int} (h : vR b x) : -4000000000000000 ≤ x ∧ x ≤ 4000000000000000 := by
  cases b with
  | true => have h : -1000000 ≤ x ∧ x ≤ 1000000 := h; omega
  | false =>
    obtain ⟨n, h⟩ : ∃ n : Nat, x = (sat n : Int) := h
    have := sat_le n
    omega
theorem vR_n (b : Bool) : vR b (nthG b) := by
  cases b with
  | true => exact ⟨by show -1000000 ≤ (1000000 : Int); omega, by show (1000000 : Int) ≤ 1000000; omega⟩
  | false => exact ⟨0, rfl⟩
theorem vR_e {b : Bool} {x y : Int} (h1 : vR b x) (h2 : vR b y) : vR b (eitG b x y) := by
  cases b with
  | true =>
    have h1 : -1000000 ≤ x ∧ x ≤ 1000000 := h1
    have h2 : -1000000 ≤ y ∧ y ≤ 1000000 := h2
    rw [eitC]
    show -1000000 ≤ min x y ∧ min x y ≤ 1000000
    omega
  | false =>
    obtain ⟨n, rfl⟩ : ∃ n : Nat, x = (sat n : Int) := h1
    obtain ⟨m, rfl⟩ : ∃ n : Nat, y = (sat n : Int) := h2
    exact ⟨n + m, eitN n m⟩
/-- weights in their bounds -/
def wR (b : Bool) (wt : Nat → Int) : Prop := if b = true then wB 450000 wt else ∀ s, ∃ n : Nat, wt s = (sat n : Int)
theorem wR_v {b : Bool} {wt : Nat → Int} (h : wR b wt) (s : Nat) : vR b (wt s) := by
  cases b with
  | true =>
    have h : wB 450000 wt := h
    show -1000000 ≤ wt s ∧ wt s ≤ 1000000
    rcases h s with q | q <;> omega
  | false => exact h s
theorem wR_m {b : Bool} {wt : Nat → Int} (h : wR b wt) (o : Option Nat) : vR b (mkW b wt o) := by
  cases o with
  | none => exact vR_n b
  | some s => exact wR_v h s
/-- what a sign's worth may be -/
def oR2 (b : Bool) (V : Nat → Vl) : Prop := if b = true then cB V else True
theorem vR_b2 {b : Bool} {V : Nat → Vl} {wt : Nat → Int} (hV : oR2 b V) (h : wR b wt) (x : Nat) (o : Option Nat) : vR b (bthG b (worG b (V x)) (mkW b wt o)) := by
  cases b with
  | true =>
    have hV : cB V := hV
    have h1 := hV x
    have h : wB 450000 wt := h
    show -1000000 ≤ bthG true (cy (V x)) (mkW true wt o) ∧ bthG true (cy (V x)) (mkW true wt o) ≤ 1000000
    rw [bthC]
    rcases mkW_B h (fun _ => o) 0 with q | q
    · have q : mkW true wt o = 1000000 := q
      rw [if_pos (by omega)]; omega
    · have q : -450000 ≤ mkW true wt o ∧ mkW true wt o ≤ 450000 := q
      split <;> omega
  | false =>
    obtain ⟨m, hm⟩ : ∃ m : Nat, mkW false wt o = (sat m : Int) := wR_m h o
    rw [hm]
    exact ⟨wy (V x) * m, bthN _ _⟩
theorem vR_b3 {b : Bool} {V : Nat → Vl} {wt : Nat → Int} (hV : oR2 b V) (h : wR b wt) (x y : Nat) : vR b (bthG b (worG b (V x)) (wt y)) := vR_b2 hV h x (some y)
/-- folds over a category's range -/
def fC (c : Nat) (f : Int → Nat → Int) (t : Int) (L : List Nat) : Int := L.foldl (fun t x => if x / 625 = c then f t x else t) t
theorem fC_snoc {c : Nat} {f : Int → Nat → Int} {t : Int} {L : List Nat} {p : Nat} (h : p < L.length) : fC c f t (L.take (p + 1)) = if L.getD p 0 / 625 = c then f (fC c f t (L.take p)) (L.getD p 0) else fC c f t (L.take p) := by
  unfold fC; rw [take_snoc L 0 h, List.foldl_append]; rfl
theorem fC_lo {V : Nat → Vl} {c : Nat} {f : Int → Nat → Int} {t : Int} (hc : c < 16) : ∀ p, p ≤ ix V (625 * c) → fC c f t ((sL V).take p) = t
  | 0, _ => rfl
  | p + 1, h => by
    have hl := sL_le' (V := V) (s := 625 * c) (by omega)
    rw [fC_snoc (by omega), if_neg (by rw [cat_eq hc (by omega)]; omega)]
    exact fC_lo hc p (by omega)
theorem fC_hi {V : Nat → Vl} {c : Nat} {f : Int → Nat → Int} {t : Int} (hc : c < 16) : fC c f t (sL V) = fC c f t ((sL V).take (ix V (625 * (c + 1)))) := by
  have hl := sL_le' (V := V) (s := 625 * (c + 1)) (by omega)
  have hm : ∀ m, ix V (625 * (c + 1)) + m ≤ (sL V).length → fC c f t ((sL V).take (ix V (625 * (c + 1)) + m)) = fC c f t ((sL V).take (ix V (625 * (c + 1)))) := by
    intro m
    induction m with
    | zero => intro _; rw [Nat.add_zero]
    | succ m ih =>
      intro h
      rw [← Nat.add_assoc, fC_snoc (by omega), if_neg (by rw [cat_eq hc (by omega)]; omega)]
      exact ih (by omega)
  have := hm ((sL V).length - ix V (625 * (c + 1))) (by omega)
  rw [List.take_of_length_le (by omega)] at this
  exact this
theorem fC_st {V : Nat → Vl} {c : Nat} {f : Int → Nat → Int} {t : Int} (hc : c < 16) {p : Nat} (hp : p < (sL V).length) (h1 : ix V (625 * c) ≤ p) (h2 : p < ix V (625 * (c + 1))) : fC c f t ((sL V).take (p + 1)) = f (fC c f t ((sL V).take p)) ((sL V).getD p 0) := by
  rw [fC_snoc hp, if_pos ((cat_eq hc hp).mpr ⟨h1, h2⟩)]
theorem fC_R {b : Bool} {c : Nat} {a : Nat → Int} (h : ∀ x, vR b (a x)) : ∀ (L : List Nat) (t : Int), vR b t → vR b (fC c (fun t x => eitG b t (a x)) t L)
  | [], t, ht => ht
  | x :: L, t, ht => by
    have e : fC c (fun t x => eitG b t (a x)) t (x :: L) = fC c (fun t x => eitG b t (a x)) (if x / 625 = c then eitG b t (a x) else t) L := rfl
    rw [e]
    refine fC_R h L _ ?_
    split
    · exact vR_e ht (h x)
    · exact ht
theorem vlG_fC (b : Bool) (R : Rule) (Va Vb : Nat → Vl) (wt : Nat → Int) : vlG b R Va Vb wt (sL Va) = fC R.2.1 (fun t x => eitG b t (bthG b (worG b (Va x)) (wFst b R Vb wt x))) (nthG b) (sL Va) := rfl
theorem wFi_fC (b : Bool) {R : Rule} {c2 : Nat} (h : R.2.2.1 = some c2) (Vb : Nat → Vl) (wt : Nat → Int) (x : Nat) (L : List Nat) : wFi b R Vb wt x L = fC c2 (fun t y => eitG b t (bthG b (worG b (Vb y)) (mkW b wt (mkS R x y)))) (nthG b) L := by
  unfold wFi fC
  have : (fun (t : Int) (y : Nat) => if some (y / 625) = R.2.2.1 then eitG b t (bthG b (worG b (Vb y)) (mkW b wt (mkS R x y))) else t) = (fun t y => if y / 625 = c2 then eitG b t (bthG b (worG b (Vb y)) (mkW b wt (mkS R x y))) else t) := by
    funext t y
    by_cases q : y / 625 = c2
    · rw [if_pos q, if_pos ((c2_iff h y).mpr q)]
    · rw [if_neg q, if_neg (fun z => q ((c2_iff h y).mp z))]
  rw [this]
section C31
variable {l : Launch} {J : Nat → Int64} {Q : Option Value → XW → Prop} {d : Nat} {tgt cg fg : Value} {I : Nat → Int32} {A : Nat → Nat → Int32} {B : Nat → Nat → Int64} {b : Bool}
theorem s_nothing (hd : 1 ≤ d) (hb : I 3109 = bI b) (hQ : Q (some (.long (lI (nthG b)))) (wC tgt cg fg I J A B)) : xK l d 34 [.ref 31] (wC tgt cg fg I J A B) Q := by
  obtain ⟨d, rfl⟩ : ∃ e, d = e + 1 := ⟨d - 1, by omega⟩
  refine e_X2_nothing (if_bI hb (fun e => ?_) (fun e => ?_))
  · rw [e] at hQ; exact hQ
  · rw [e] at hQ; exact hQ
theorem s_worthOf (hd : 1 ≤ d) (hb : I 3109 = bI b) {x : Int32} {c k : Nat} {V : Nat → Vl} (hx : x = nI (60 * c + k)) (hc : c < 105) (hV : cX A B c V) (hk : k < (sL V).length) (hbd : oR2 b V) (hQ : Q (some (.long (lI (worG b (V ((sL V).getD k 0)))))) (wC tgt cg fg I J A B)) : xK l d 33 [.ref 31, .int x] (wC tgt cg fg I J A B) Q := by
  obtain ⟨d, rfl⟩ : ∃ e, d = e + 1 := ⟨d - 1, by omega⟩
  subst hx
  have h60 := hV.1
  have h := hV.2.2 k hk
  have hcl : (nI (60 * c + k)).toNatClampNeg = 60 * c + k := cl_n (by omega)
  refine e_X2_worthOf (if_bI hb (fun e => ⟨xin_n (by omega) (by omega), ?_⟩) (fun e => ⟨xin_n (by omega) (by omega), ?_⟩))
  · subst e
    rw [hcl, h.2.1, ← lI_n]; exact hQ
  · subst e
    have hbd : cB V := hbd
    have := hbd ((sL V).getD k 0)
    rw [hcl, h.2.2, iC_long (by omega) (by omega)]; exact hQ
theorem s_bothOf (hd : 2 ≤ d) (hb : I 3109 = bI b) {x y : Int64} {u v : Int} (hx : x = lI u) (hy : y = lI v) (hu : vR b u) (hv : vR b v) (hQ : Q (some (.long (lI (bthG b u v)))) (wC tgt cg fg I J A B)) : xK l d 35 [.ref 31, .long x, .long y] (wC tgt cg fg I J A B) Q := by
  obtain ⟨d, rfl⟩ : ∃ e, d = e + 1 := ⟨d - 1, by omega⟩
  subst hx; subst hy
  refine e_X2_bothOf (if_bI hb (fun e => ?_) (fun e => ?_))
  · subst e
    obtain ⟨n, rfl⟩ : ∃ n : Nat, u = (sat n : Int) := hu
    obtain ⟨m, rfl⟩ : ∃ n : Nat, v = (sat n : Int) := hv
    refine s_productOf (by omega) (lI_n _) (lI_n _) (b_X2_bothOf_12 ?_)
    rw [bthN, lI_n] at hQ; exact hQ
  · subst e
    have hu : -1000000 ≤ u ∧ u ≤ 1000000 := hu
    have hv : -1000000 ≤ v ∧ v ≤ 1000000 := hv
    rw [bthC] at hQ
    have l6 : (1000000 : Int64) = lI 1000000 := by decide +kernel
    rw [l6]
    refine if_if (lg_ge.trans (lI_le (by omega) (by omega) (by omega) (by omega))) (fun q => ?_) (fun q => if_if (lg_lt.trans (lI_lt (by omega) (by omega) (by omega) (by omega))) (fun q2 => ?_) (fun q2 => ?_))
    · rw [if_pos (Or.inl q)] at hQ; exact hQ
    · rw [if_neg (by omega)] at hQ
      rw [lI_add]; exact hQ
    · rw [if_pos (Or.inr (by omega))] at hQ; exact hQ
theorem s_eitherOf (hd : 2 ≤ d) (hb : I 3109 = bI b) {x y : Int64} {u v : Int} (hx : x = lI u) (hy : y = lI v) (hu : vR b u) (hv : vR b v) (hQ : Q (some (.long (lI (eitG b u v)))) (wC tgt cg fg I J A B)) : xK l d 36 [.ref 31, .long x, .long y] (wC tgt cg fg I J A B) Q := by
  obtain ⟨d, rfl⟩ : ∃ e, d = e + 1 := ⟨d - 1, by omega⟩
  subst hx; subst hy
  refine e_X2_eitherOf (if_bI hb (fun e => ?_) (fun e => ?_))
  · subst e
    obtain ⟨n, rfl⟩ : ∃ n : Nat, u = (sat n : Int) := hu
    obtain ⟨m, rfl⟩ : ∃ n : Nat, v = (sat n : Int) := hv
    refine s_sumOf (by omega) (lI_n _) (lI_n _) (b_X2_eitherOf_20 ?_)
    rw [eitN, lI_n] at hQ; exact hQ
  · subst e
    have hu : -1000000 ≤ u ∧ u ≤ 1000000 := hu
    have hv : -1000000 ≤ v ∧ v ≤ 1000000 := hv
    rw [eitC] at hQ
    refine b_X2_eitherOf_20 ?_
    have : (if lI v < lI u then lI v else lI u) = lI (min u v) := by
      by_cases q : v < u
      · rw [if_pos ((lI_lt (by omega) (by omega) (by omega) (by omega)).mpr q), show min u v = v by omega]
      · rw [if_neg (fun z => q ((lI_lt (by omega) (by omega) (by omega) (by omega)).mp z)), show min u v = u by omega]
    rw [this]; exact hQ
/-- the lowest open node -/
def curN (q z i j : Nat) (I : Nat → Int32) (A : Nat → Nat → Int32) : Prop := I 3107 = nI (q + 1) ∧ q < 224 ∧ A 32 q = nI z ∧ z < 432 ∧ A 27 z = nI i ∧ A 28 z = nI j
theorem curN_q {q z i j : Nat} {I : Nat → Int32} {A : Nat → Nat → Int32} (h : curN q z i j I A) : I 3107 - 1 = nI q := by
  rw [h.1, show (1 : Int32) = nI 1 from rfl, sub_n (by omega), Nat.add_sub_cancel]
def rowF (B : Nat → Nat → Int64) (row : Nat) (V : Nat → Vl) (c : Nat) (wt : Nat → Int) : Prop := ∀ k, k < (sL V).length → (sL V).getD k 0 / 625 = c → B 35 (60 * row + k) = lI (wt ((sL V).getD k 0))
theorem s_weightOf (hd : 2 ≤ d) (hb : I 3109 = bI b) {x : Int32} {o : Option Nat} {q z i j c : Nat} {V : Nat → Vl} {wt : Nat → Int} (hx : x = o2c o) (hcur : curN q z i j I A) (hij : i < j) (hj : j ≤ 14) (hV : cX A B (cx i j) V) (hin : ∀ s, o = some s → s < 10000 ∧ (V s).isSome = true ∧ s / 625 = c) (hw : rowF B q V c wt) (hQ : Q (some (.long (lI (mkW b wt o)))) (wC tgt cg fg I J A B)) : xK l d 29 [.ref 31, .int x] (wC tgt cg fg I J A B) Q := by
  obtain ⟨d, rfl⟩ : ∃ e, d = e + 1 := ⟨d - 1, by omega⟩
  have hq := curN_q hcur
  obtain ⟨h1, h2, h3, h4, h5, h6⟩ := hcur
  have h60 := hV.1
  have hcx := cx_lt hij hj
  cases o with
  | none =>
    have hx : x = -1 := hx
    subst hx
    refine e_X2_weightOf ?_
    rw [if_neg (by decide)]
    exact s_nothing (by omega) hb (b_X2_weightOf_8 hQ)
  | some s =>
    have hx : x = nI (cs s) := hx
    obtain ⟨k1, k2, k3⟩ := hin s rfl
    have hcs := cs_lt k1
    have hat := sL_at k1 k2
    have hwx := hw _ hat.1 (by rw [hat.2]; exact k3)
    rw [hat.2] at hwx
    refine e_X2_weightOf ?_
    rw [hq, cl_n (by omega), h3, cl_n (by omega), h5, h6]
    refine if_le (a := 0) rfl hx (by omega) (by omega) (fun _ => ⟨xin_n (by omega) (by omega), xin_n (by omega) (by omega), xin_n (by omega) (by omega), s_cellOf (by omega) rfl rfl hij hj (b_X2_weightOf_42 (s_placeOf (V := V) (s := s) (by omega) rfl hcx hx (by omega) (by omega) (fun z hz => cs_lt_iff) h60 hV.2.1 (fun k hk => (hV.2.2 k hk).1) (b_X2_weightOf_52 ⟨xin_n (by omega) (by omega), ?_⟩)))⟩) (fun q => absurd q (by omega))
    rw [hq, show nI (cx i j) * (60 : Int32) = nI (cx i j * 60) from mul_of (b := 60) rfl rfl, show nI q * (60 : Int32) = nI (q * 60) from mul_of (b := 60) rfl rfl, sub_n (by omega), show 60 * cx i j + ix V s - cx i j * 60 = ix V s by omega, nI_add, cl_n (by omega), cl_n (by omega), hV.2.1]
    refine if_le rfl rfl (by omega) (by omega) (fun z => absurd z (by omega)) (fun z => ⟨xin_n (by omega) (by omega), b_X2_weightOf_97 ?_⟩)
    rw [show q * 60 + ix V s = 60 * q + ix V s by omega, hwx]; exact hQ
end C31
