/-! ===== the reference by cost: firstOf ===== -/
theorem any_snoc {L : List Nat} {f : Nat → Bool} {p : Nat} (h : p < L.length) : (L.take (p + 1)).any f = ((L.take p).any f || f (L.getD p 0)) := by
  rw [take_snoc L 0 h, List.any_append]; simp
theorem any_vl {R : Rule} {Va Vb : Nat → Vl} {wt : Nat → Int} {m0 : Int} (hV : cB Va) (hm : m0 ≤ 600000) (hlow : ∀ x, (Va x).isSome = true → x / 625 = R.2.1 → m0 ≤ cy (Va x) + wFst true R Vb wt x) : (sL Va).any (fun x => decide (x / 625 = R.2.1 ∧ cy (Va x) + wFst true R Vb wt x = m0)) = decide (vlG true R Va Vb wt (sL Va) = m0) := by
  rw [vlC]
  have hge := fold_ge (V := Va) (q := fun x => x / 625 = R.2.1) (wt := wFst true R Vb wt) (m := m0) (fun _ => Iff.rfl) (by omega) hlow
  by_cases q : mnF (fun x => x / 625 = R.2.1) (fun x => bthG true (cy (Va x)) (wFst true R Vb wt x)) (sL Va) 1000000 = m0
  · rw [decide_eq_true q, List.any_eq_true]
    rcases mnF_at (fun x => x / 625 = R.2.1) (fun x => bthG true (cy (Va x)) (wFst true R Vb wt x)) (sL Va) 1000000 with z | ⟨x, hx, hqx, z⟩
    · omega
    · refine ⟨x, hx, decide_eq_true ⟨hqx, ?_⟩⟩
      have hb := hV x
      rw [q] at z
      have z' : m0 = bthG true (cy (Va x)) (wFst true R Vb wt x) := z
      rw [bthC] at z'
      by_cases hf : 1000000 ≤ cy (Va x) ∨ 1000000 ≤ wFst true R Vb wt x
      · rw [if_pos hf] at z'; omega
      · rw [if_neg hf] at z'; omega
  · rw [decide_eq_false q, Bool.eq_false_iff]
    intro ha
    rw [List.any_eq_true] at ha
    obtain ⟨x, hx, hb⟩ := ha
    have hb := of_decide_eq_true hb
    have hxm := sL_mem.mp hx
    have hbx := hV x
    have := fold_le (V := Va) (q := fun x => x / 625 = R.2.1) (wt := wFst true R Vb wt) (fun _ => Iff.rfl) hxm.1 hxm.2 hb.1 (by omega) (by omega)
    omega
theorem shp {a t : Int32} {ab tb : Bool} {X : Prop} {G : Int32 → Int64 → Prop} (ha : a = bI ab) (ht : t = bI tb) (hX : X) (h : G (bI (ab || tb)) (if tb = true then 1 else 0)) : if t = 0 then (X ∧ (if a = 0 then (if t = 0 then G 0 0 else G 1 0) else G 1 0)) else (X ∧ (if a = 0 then (if t = 0 then G 0 1 else G 1 1) else G 1 1)) := by
  subst ha; subst ht
  cases ab <;> cases tb
  · exact ⟨hX, h⟩
  · exact ⟨hX, h⟩
  · exact ⟨hX, h⟩
  · exact ⟨hX, h⟩
def sC (g : Gram) (D : List (Nat × Nat × Nat)) (ws : List (List Nat)) (I : Nat → Int32) (A : Nat → Nat → Int32) (B : Nat → Nat → Int64) : Prop := sP g (oD D) ws I A B ∧ knM A g D ws ∧ mDr I A D ∧ D.length ≤ 40 ∧ (∀ p ∈ D, p.1 < 100000 ∧ p.2.1 < 100000 ∧ p.2.2 < 100000)
theorem sC_fr {g : Gram} {D : List (Nat × Nat × Nat)} {ws : List (List Nat)} {I I' : Nat → Int32} {A A' : Nat → Nat → Int32} {B B' : Nat → Nat → Int64} (h : sC g D ws I A B) (hI : ∀ i, i ≠ 39 → i ≠ 47 → I' i = I i) (hA : ∀ p, p ≠ 14 → (p < 21 ∨ 25 < p) → A' p = A p) (hB : ∀ p, p ≠ 26 → B' p = B p) : sC g D ws I' A' B' := by
  obtain ⟨h1, h2, h3, h4, h5⟩ := h
  refine ⟨sP_fr h1 hI hA hB, fun i j a b => ?_, mDr_fr h3 (hI 48 (by decide) (by decide)) (fun p a b => hA p (by omega) (by omega)), h4, h5⟩
  have := h2 i j a b
  unfold kM at this ⊢
  rw [hA 19 (by decide) (by omega)]; exact this
/-- the contract of first -/
def FSc (l : Launch) (g : Gram) (D : List (Nat × Nat × Nat)) (ws : List (List Nat)) (d f : Nat) : Prop := ∀ (Q : Option Value → XW → Prop) (I : Nat → Int32) (J : Nat → Int64) (A : Nat → Nat → Int32) (B : Nat → Nat → Int64) (x1 x2 x3 x4 : Int32) (i j c : Nat) (wt : Nat → Int) (L : Int) (row z s : Nat) (nds : List Nd), x1 = nI i → x2 = nI j → x3 = nI c → x4 = nI row → j ≤ ws.length → preC g (oD D) ws f i j c wt L → pkC g (oD D) ws f i j c wt 0 row = some (s, 0, nds) → row + 16 * (j - i - 1) + rk g c ≤ 240 → z + nds.length ≤ 500 → sC g D ws I A B → rowB B row (ch g (oD D) ws i j) c wt L → I 39 = nI z → (∀ (I' : Nat → Int32) (A' : Nat → Nat → Int32) (B' : Nat → Nat → Int64), I' 39 = nI (z + nds.length) → I' 47 = nI s → ndA A' z nds → fP row z I J A B I' J A' B' → Q none (wM I' J A' B')) → xK l d 182 [.ref 0, .int x1, .int x2, .int x3, .int x4] (wM I J A B) Q
section M28
variable {l : Launch} {J : Nat → Int64} {A : Nat → Nat → Int32} {B : Nat → Nat → Int64} {Q : Option Value → XW → Prop} {d : Nat} {I : Nat → Int32}
/-- which first parts are wanted, and whether one is -/
theorem s_foW0 (hd : 5 ≤ d) {i j m r row : Nat} {wt wF : Nat → Int} {L m0 own : Int} {R : Rule} {V Va Vb : Nat → Vl} {X : Nat → Bool} (hr30 : r < 30) (hij : i < j) (hj : j ≤ 14) (hm : (R.2.2.1 = none ∧ m = j) ∨ (R.2.2.1 ≠ none ∧ i < m ∧ m < j)) (hrow : row ≤ 240) (hRk : okR R) (hRA : rulAt A r R) (hcA : cM A B (15 * i + m) Va) (hkA : kM A (15 * i + m) Va Va) (hbA : cB Va) (hcV : cM A B (15 * i + j) V) (hkV : kM A (15 * i + j) V V) (hbV : cB V) (hcB : Imp (m < j) (cM A B (15 * m + j) Vb ∧ kM A (15 * m + j) Vb Vb ∧ cB Vb)) (hob : -1 ≤ own ∧ own ≤ 1) (hVV : Imp (m = j) (Va = V))
    (hsng : ∀ x s, R.2.2.1 = none → (V x).isSome = true → x / 625 = R.2.1 → mkS R x 0 = some s → (V s).isSome = true) (hss : ∀ x, R.2.2.1 = none → (V x).isSome = true → x / 625 = R.2.1 → ssB R V wt L (own + cy (V x)) x = decide (cy (V x) + wF x = m0))
    (hgs : ∀ c2 x, R.2.2.1 = some c2 → (Va x).isSome = true → x / 625 = R.2.1 → (sL Vb).any (gsB R V Vb wt L (own + cy (Va x)) x) = decide (cy (Va x) + wF x = m0)) (hpar : ∀ c2 x y s, R.2.2.1 = some c2 → (Va x).isSome = true → x / 625 = R.2.1 → (Vb y).isSome = true → y / 625 = c2 → mkS R x y = some s → (V s).isSome = true) (hrw : rowB B row V R.1 wt L) (hXx : ∀ x, X x = decide (x / 625 = R.2.1 ∧ cy (Va x) + wF x = m0)) {ab : Bool} (hab : ab = (sL Va).any X)
    (hQ : ∀ (A1 : Nat → Nat → Int32) (B1 : Nat → Nat → Int64), (∀ p, p ≠ 14 → A1 p = A p) → (∀ p, p ≠ 26 → B1 p = B p) → (∀ i, i < 64 * (row + 1) → B1 26 i = B 26 i) → rowB B1 (row + 1) Va R.2.1 wF m0 → (if bI ab = 0 then (((0 : Int32) = 0 ∨ (0 : Int32) = 1) ∧ Q (some (.int 0)) (wM I J A1 B1)) else (xK l d 166 [.ref 0, .int (nI i), .int (nI j), .int (nI r), .int (nI row)] (wM I J A1 B1) (fun v9 w9 => xG l d 183 Q 324 [some (.ref 0), some (.int (nI i)), some (.int (nI j)), some (.int (nI m)), some (.int (nI r)), some (.int (nI row)), some (.int (nI (15 * i + j))), some (.int (nI (15 * i + m))), some (.int (nI (15 * m + j))), some (.int (iC own)), some (.int (nI (row + 1))), none, none, none, none, none, none] (v9.toList ++ []) w9 0 0)))) :
    xG l d 183 Q 48 [some (.ref 0), some (.int (nI i)), some (.int (nI j)), some (.int (nI m)), some (.int (nI r)), some (.int (nI row)), some (.int (nI (15 * i + j))), some (.int (nI (15 * i + m))), some (.int (nI (15 * m + j))), some (.int (iC own)), some (.int (nI (row + 1))), some (.int 0), some (.int 0), none, none, none, none] [] (wM I J A B) 0 0 := by
  have him : i < m ∧ m ≤ j := by rcases hm with ⟨_, q⟩ | ⟨_, q1, q2⟩ <;> omega
  have lA := hcA.1
  have lV := hcV.1
  have hf16 := hRk.2.1
  have hw16 := hRk.1
  have loop : ∀ k p (A1 : Nat → Nat → Int32) (B1 : Nat → Nat → Int64), (sL Va).length - p < k → p ≤ (sL Va).length → (∀ q, q ≠ 14 → A1 q = A q) → (∀ q, q ≠ 26 → B1 q = B q) → (∀ q, q < 64 * (row + 1) → B1 26 q = B 26 q) → (∀ q, q < p → (sL Va).getD q 0 / 625 = R.2.1 → B1 26 (64 * (row + 1) + q) = (if cy (Va ((sL Va).getD q 0)) + wF ((sL Va).getD q 0) = m0 then 1 else 0)) → xG l d 183 Q 48 [some (.ref 0), some (.int (nI i)), some (.int (nI j)), some (.int (nI m)), some (.int (nI r)), some (.int (nI row)), some (.int (nI (15 * i + j))), some (.int (nI (15 * i + m))), some (.int (nI (15 * m + j))), some (.int (iC own)), some (.int (nI (row + 1))), some (.int (bI (((sL Va).take p).any X))), some (.int (nI p)), none, none, none, none] [] (wM I J A1 B1) 0 0 := by
    intro k
    induction k with
    | zero => intro p A1 B1 hk; omega
    | succ k ih =>
      intro p A1 B1 hk hp hA hB hB26 hset
      refine b_X11_firstOf_48 ⟨xin_n (by omega) (by omega), if_le (a := (sL Va).length) (by rw [cl_n (by omega), hA 17 (by decide)]; exact hcA.2.1) rfl (by omega) (by omega) (fun z => ?_) (fun z => ?_)⟩
      · have hrb : rowB B1 (row + 1) Va R.2.1 wF m0 := fun q hq hc => hset q (by omega) hc
        have h3 := hQ A1 B1 hA hB hB26 hrb
        rw [List.take_of_length_le z, ← hab]
        exact h3
      · have hin := sL_in z
        have hsn := any_snoc (f := X) z
        have hcp := hcA.2.2 p z
        have hkp := hkA p z
        rw [dc_cy hin.2] at hkp
        rw [show (64 : Int32) * nI (15 * i + m) + nI p = nI (64 * (15 * i + m) + p) from add_of (mul_of (a := 64) rfl rfl) rfl, show (64 : Int32) * nI (row + 1) + nI p = nI (64 * (row + 1) + p) from add_of (mul_of (a := 64) rfl rfl) rfl, cl_n (by omega), cl_n (by omega), hA 18 (by decide), hcp.1]
        refine ⟨xin_n (by omega) (by omega), xin_n (by omega) (by omega), ?_⟩
        generalize hBB : va_up B1 26 (vp_updL (B1 26) (64 * (row + 1) + p) 0) = B2
        have hB2 : ∀ q, q ≠ 26 → B2 q = B q := fun q hq => by rw [← hBB, un_v hq]; exact hB q hq
        have hB226 : ∀ q, q < 64 * (row + 1) → B2 26 q = B 26 q := fun q hq => by rw [← hBB, ue_v, un_l (by omega)]; exact hB26 q hq
        have hset2 : ∀ q, q < p → (sL Va).getD q 0 / 625 = R.2.1 → B2 26 (64 * (row + 1) + q) = (if cy (Va ((sL Va).getD q 0)) + wF ((sL Va).getD q 0) = m0 then 1 else 0) := fun q hq hc => by rw [← hBB, ue_v, un_l (by omega)]; exact hset q hq hc
        have hrw2 : rowB B2 row V R.1 wt L := fun q hq hc => by rw [hB226 _ (by omega)]; exact hrw q hq hc
        have hcV2 : ∀ (A3 : Nat → Nat → Int32), (∀ q, q ≠ 14 → A3 q = A q) → cM A3 B2 (15 * i + j) V := fun A3 h3 => by
          unfold cM at hcV ⊢
          rw [h3 17 (by decide), h3 18 (by decide), hB2 20 (by decide)]; exact hcV
        generalize hx : (sL Va).getD p 0 = x at hin hsn hcp hkp
        have hbx := hbA x
        rw [hXx x] at hsn
        generalize hanyp : ((sL Va).take p).any X = anyp at hsn ⊢
        -- it is known: store it and go on
        have store : ∀ (A2 : Nat → Nat → Int32) (tb : Bool), (∀ q, q ≠ 14 → A2 q = A q) → x / 625 = R.2.1 → tb = decide (cy (Va x) + wF x = m0) → xG l d 183 Q 48 [some (.ref 0), some (.int (nI i)), some (.int (nI j)), some (.int (nI m)), some (.int (nI r)), some (.int (nI row)), some (.int (nI (15 * i + j))), some (.int (nI (15 * i + m))), some (.int (nI (15 * m + j))), some (.int (iC own)), some (.int (nI (row + 1))), some (.int (bI (anyp || tb))), some (.int (nI p + 1)), none, none, none, none] [] (wM I J A2 (va_up B2 26 (vp_updL (B2 26) (64 * (row + 1) + p) (if tb = true then 1 else 0)))) 0 0 := by
          intro A2 tb hA2 hc htb
          have e1 : (anyp || tb) = ((sL Va).take (p + 1)).any X := by
            have e0 : tb = decide (x / 625 = R.2.1 ∧ cy (Va x) + wF x = m0) := by
              rw [htb]
              by_cases q : cy (Va x) + wF x = m0
              · rw [decide_eq_true q, decide_eq_true ⟨hc, q⟩]
              · rw [decide_eq_false q, decide_eq_false (fun y => q y.2)]
            rw [hsn, e0]
          rw [e1, nI_1]
          refine ih (p + 1) A2 _ (by omega) (by omega) hA2 (fun q hq => by rw [un_v hq]; exact hB2 q hq) (fun q hq => by rw [ue_v, un_l (by omega)]; exact hB226 q hq) (fun q hq hcq => ?_)
          rw [ue_v]
          by_cases e : q = p
          · subst e
            rw [ue_l, hx, htb]
            by_cases q2 : cy (Va x) + wF x = m0
            · rw [decide_eq_true q2, if_pos rfl, if_pos q2]
            · rw [decide_eq_false q2, if_neg (by decide), if_neg q2]
          · rw [un_l (by omega)]; exact hset2 q (by omega) hcq
        refine s_categoryOfM (by omega) rfl hin.1 (b_X11_firstOf_94 ⟨xin_n (by omega) (by omega), ?_⟩)
        rw [cl_n (by omega), hA 7 (by decide), hA 8 (by decide), hRA.2.1, hRA.2.2.1]
        refine if_eq rfl rfl (by omega) (by omega) (fun e => ⟨xin_n (by omega) (by omega), ?_⟩) (fun e => ?_)
        · rcases hm with ⟨h1, hmj⟩ | ⟨h1, hm1, hm2⟩
          · -- one part
            subst hmj
            have hVV : Va = V := hVV rfl
            rw [h1, if_pos (show o2i none = -1 from rfl), mod625 hin.1]
            have hsx := hss x h1 (by rw [← hVV]; exact hin.2) e
            refine ⟨by decide, s_made (b := 0) (by omega) rfl (by omega) rfl (mod_lt625 _) rfl (by omega) hRk (rulAt_fr hRA (fun p a b => hA p (by omega))) (fun A3 h14' => b_X11_firstOf_134 ?_)⟩
            have hA3 : ∀ q, q ≠ 14 → A3 q = A q := fun q hq => (h14' q hq).trans (hA q hq)
            rw [show (64 : Int32) * nI (row + 1) + nI p = nI (64 * (row + 1) + p) from add_of (mul_of (a := 64) rfl rfl) rfl, show (64 : Int32) * nI (15 * i + m) + nI p = nI (64 * (15 * i + m) + p) from add_of (mul_of (a := 64) rfl rfl) rfl, cl_n (a := 64 * (row + 1) + p) (by omega), cl_n (a := 64 * (15 * i + m) + p) (by omega)]
            cases hk' : mkK R.2.2.2.1 (x % 625) 0 with
            | none =>
              rw [if_pos (show o2i none = -1 from rfl)]
              have hmk : mkS R x 0 = none := by unfold mkS; rw [hk']; rfl
              unfold ssB at hsx
              rw [hmk] at hsx
              exact shp (G := fun fl v => xG l d 183 Q 48 [some (.ref 0), some (.int (nI i)), some (.int (nI m)), some (.int (nI m)), some (.int (nI r)), some (.int (nI row)), some (.int (nI (15 * i + m))), some (.int (nI (15 * i + m))), some (.int (nI (15 * m + m))), some (.int (iC own)), some (.int (nI (row + 1))), some (.int fl), some (.int (nI p + 1)), none, none, none, none] [] (wM I J A3 (va_up B2 26 (vp_updL (B2 26) (64 * (row + 1) + p) v))) 0 0) (ab := anyp) (tb := false) rfl rfl (xin_n (by omega) (by omega)) (store A3 false hA3 e (by rw [hVV]; exact hsx))
            | some kk =>
              have hk625 := mkK_lt (by split <;> omega) hRk.2.2.2.2.1 hk'
              have hmk : mkS R x 0 = some (625 * R.1 + kk) := by unfold mkS; rw [hk']; rfl
              have hpr : (V (625 * R.1 + kk)).isSome = true := hsng x _ h1 (by rw [← hVV]; exact hin.2) e hmk
              unfold ssB at hsx
              rw [hmk] at hsx
              rw [show o2i (some kk) = nI kk from rfl, if_neg (ne_m1 (by omega)), cl_n (a := r) (by omega), hA3 6 (by decide), hRA.1, show (625 : Int32) * nI R.1 + nI kk = nI (625 * R.1 + kk) from add_of (mul_of (a := 625) rfl rfl) rfl, hA3 19 (by decide), hkp, iC_add]
              refine ⟨xin_n (by omega) (by omega), xin_n (by omega) (by omega), s_isWanted (V := V) (cc := R.1) (wt := wt) (L := L) (by omega) rfl (by omega) rfl (by omega) rfl (by omega) rfl (by omega) (by omega) (hcV2 A3 hA3) (kM_14 hkV hA3) hbV hpr (by omega) hrw2 (b_X11_firstOf_180 ?_)⟩
              rw [show (64 : Int32) * nI (row + 1) + nI p = nI (64 * (row + 1) + p) from add_of (mul_of (a := 64) rfl rfl) rfl, cl_n (a := 64 * (row + 1) + p) (by omega)]
              have hsx' : decide (cy (V (625 * R.1 + kk)) + wt (625 * R.1 + kk) = L ∧ cy (V (625 * R.1 + kk)) = own + cy (V x)) = decide (cy (V x) + wF x = m0) := hsx
              rw [hVV, hsx']
              refine if_bI rfl (fun ef => ?_) (fun ef => ?_)
              · exact shp (G := fun fl v => xG l d 183 Q 48 [some (.ref 0), some (.int (nI i)), some (.int (nI m)), some (.int (nI m)), some (.int (nI r)), some (.int (nI row)), some (.int (nI (15 * i + m))), some (.int (nI (15 * i + m))), some (.int (nI (15 * m + m))), some (.int (iC own)), some (.int (nI (row + 1))), some (.int fl), some (.int (nI p + 1)), none, none, none, none] [] (wM I J A3 (va_up B2 26 (vp_updL (B2 26) (64 * (row + 1) + p) v))) 0 0) (ab := anyp) (tb := false) rfl rfl (xin_n (by omega) (by omega)) (store A3 false hA3 e (by rw [hVV]; exact ef.symm))
              · exact shp (G := fun fl v => xG l d 183 Q 48 [some (.ref 0), some (.int (nI i)), some (.int (nI m)), some (.int (nI m)), some (.int (nI r)), some (.int (nI row)), some (.int (nI (15 * i + m))), some (.int (nI (15 * i + m))), some (.int (nI (15 * m + m))), some (.int (iC own)), some (.int (nI (row + 1))), some (.int fl), some (.int (nI p + 1)), none, none, none, none] [] (wM I J A3 (va_up B2 26 (vp_updL (B2 26) (64 * (row + 1) + p) v))) 0 0) (ab := anyp) (tb := true) rfl rfl (xin_n (by omega) (by omega)) (store A3 true hA3 e (by rw [hVV]; exact ef.symm))
          · -- two parts
            obtain ⟨c2, hc2⟩ : ∃ c2, R.2.2.1 = some c2 := by
              cases q : R.2.2.1 with
              | none => exact absurd q h1
              | some c2 => exact ⟨c2, rfl⟩
            have hc216 := hRk.2.2.1 c2 hc2
            obtain ⟨hcB1, hkB, hbB⟩ := hcB hm2
            have lB := hcB1.1
            have hgx := hgs c2 x hc2 hin.2 e
            rw [hc2, show o2i (some c2) = nI c2 from rfl, if_neg (ne_m1 (by omega))]
            generalize hY : gsB R V Vb wt L (own + cy (Va x)) x = Y at hgx
            have hcB2 : ∀ (A3 : Nat → Nat → Int32), (∀ q, q ≠ 14 → A3 q = A q) → cM A3 B2 (15 * m + j) Vb := fun A3 h3 => by
              unfold cM at hcB1 ⊢
              rw [h3 17 (by decide), h3 18 (by decide), hB2 20 (by decide)]; exact hcB1
            have inner : ∀ k2 q (A3 : Nat → Nat → Int32), (sL Vb).length - q < k2 → q ≤ (sL Vb).length → (∀ u, u ≠ 14 → A3 u = A u) → xG l d 183 Q 196 [some (.ref 0), some (.int (nI i)), some (.int (nI j)), some (.int (nI m)), some (.int (nI r)), some (.int (nI row)), some (.int (nI (15 * i + j))), some (.int (nI (15 * i + m))), some (.int (nI (15 * m + j))), some (.int (iC own)), some (.int (nI (row + 1))), some (.int (bI anyp)), some (.int (nI p)), some (.int (nI x)), some (.int (bI (((sL Vb).take q).any Y))), some (.int (nI q)), none] [] (wM I J A3 B2) 0 0 := by
              intro k2
              induction k2 with
              | zero => intro q A3 hk2; omega
              | succ k2 ih2 =>
                intro q A3 hk2 hq hA3
                refine b_X11_firstOf_196 ⟨xin_n (by omega) (by omega), if_le (a := (sL Vb).length) (by rw [cl_n (by omega), hA3 17 (by decide)]; exact hcB1.2.1) rfl (by omega) (by omega) (fun z2 => ?_) (fun z2 => ?_)⟩
                · rw [show (64 : Int32) * nI (row + 1) + nI p = nI (64 * (row + 1) + p) from add_of (mul_of (a := 64) rfl rfl) rfl, cl_n (a := 64 * (row + 1) + p) (by omega)]
                  rw [List.take_of_length_le z2, hgx]
                  exact shp (G := fun fl v => xG l d 183 Q 48 [some (.ref 0), some (.int (nI i)), some (.int (nI j)), some (.int (nI m)), some (.int (nI r)), some (.int (nI row)), some (.int (nI (15 * i + j))), some (.int (nI (15 * i + m))), some (.int (nI (15 * m + j))), some (.int (iC own)), some (.int (nI (row + 1))), some (.int fl), some (.int (nI p + 1)), none, none, none, none] [] (wM I J A3 (va_up B2 26 (vp_updL (B2 26) (64 * (row + 1) + p) v))) 0 0) (ab := anyp) (tb := decide (cy (Va x) + wF x = m0)) rfl rfl (xin_n (by omega) (by omega)) (store A3 _ hA3 e rfl)
                · have hsq := any_snoc (f := Y) z2
                  have hyn := sL_in z2
                  refine if_bI rfl (fun ef => ?_) (fun ef => ?_)
                  · rw [show (64 : Int32) * nI (15 * i + m) + nI p = nI (64 * (15 * i + m) + p) from add_of (mul_of (a := 64) rfl rfl) rfl, cl_n (a := 64 * (15 * i + m) + p) (by omega), hA3 19 (by decide), hkp, iC_add]
                    refine ⟨xin_n (by omega) (by omega), s_goes (V := V) (Vb := Vb) (wt := wt) (L := L) (R := R) (c2 := c2) (by omega) rfl (by omega) rfl (by omega) rfl (by omega) rfl hin.1 rfl (by omega) rfl rfl (by omega) (by omega) hRk (rulAt_fr hRA (fun p a b => hA3 p (by omega))) hc2 (hcV2 A3 hA3) (kM_14 hkV hA3) hbV (hcB2 A3 hA3) (kM_14 hkB hA3) hbB z2 (fun u hcu hmu => hpar c2 x _ u hc2 hin.2 e hyn.2 hcu hmu) hrw2 (fun A5 h14' => b_X11_firstOf_245 ?_)⟩
                    have hA5 : ∀ u, u ≠ 14 → A5 u = A u := fun u hu => (h14' u hu).trans (hA3 u hu)
                    have hYq : gsB R V Vb wt L (own + cy (Va x)) x ((sL Vb).getD q 0) = Y ((sL Vb).getD q 0) := by rw [← hY]
                    rw [hYq]
                    rw [ef, Bool.false_or] at hsq
                    have hnx := ih2 (q + 1) A5 (by omega) (by omega) hA5
                    rw [hsq] at hnx
                    rw [nI_1]
                    refine if_bI rfl (fun eg => ?_) (fun eg => ?_)
                    · rw [eg] at hnx; exact hnx
                    · rw [eg] at hnx; exact hnx
                  · rw [ef, Bool.true_or] at hsq
                    have hnx := ih2 (q + 1) A3 (by omega) (by omega) hA3
                    rw [hsq] at hnx
                    rw [nI_1]; exact hnx
            exact inner _ 0 A1 (Nat.lt_succ_self _) (by omega) hA
        · have hsn' : ((sL Va).take (p + 1)).any X = anyp := by
            rw [hsn, decide_eq_false (fun y => e y.1), Bool.or_false]
          rw [← hsn', nI_1]
          refine ih (p + 1) A1 B2 (by omega) (by omega) hA hB2 hB226 (fun q hq hcq => ?_)
          by_cases e2 : q = p
          · subst e2; rw [hx] at hcq; exact absurd hcq e
          · exact hset2 q (by omega) hcq
  exact loop _ 0 A B (Nat.lt_succ_self _) (by omega) (fun _ _ => rfl) (fun _ _ => rfl) (fun _ _ => rfl) (fun q hq => by omega)
theorem s_foW (hd : 5 ≤ d) {g : Gram} {D : List (Nat × Nat × Nat)} {ws : List (List Nat)} {i j m r row : Nat} {wt : Nat → Int} {L K : Int} {R : Rule} (hsC : sC g D ws I A B) (hr : r < g.2.1.length) (hRe : g.2.1.getD r dR = R) (hij : i < j) (hj : j ≤ ws.length) (hm : (R.2.2.1 = none ∧ m = j) ∨ (R.2.2.1 ≠ none ∧ i < m ∧ m < j)) (hK : K ≤ 500000) (hw : wB K wt) (hL : isLC (ch g (oD D) ws i j) R.1 wt L) (hrow : row ≤ 240) (hrw : rowB B row (ch g (oD D) ws i j) R.1 wt L) {ab : Bool} (hab : ab = decide (vlG true R (ch g (oD D) ws i m) (ch g (oD D) ws m j) wt (sL (ch g (oD D) ws i m)) = L - oD D R.1 i j))
    (hQ : ∀ (A1 : Nat → Nat → Int32) (B1 : Nat → Nat → Int64), (∀ p, p ≠ 14 → A1 p = A p) → (∀ p, p ≠ 26 → B1 p = B p) → (∀ i, i < 64 * (row + 1) → B1 26 i = B 26 i) → rowB B1 (row + 1) (ch g (oD D) ws i m) R.2.1 (wFst true R (ch g (oD D) ws m j) wt) (L - oD D R.1 i j) → (if bI ab = 0 then (((0 : Int32) = 0 ∨ (0 : Int32) = 1) ∧ Q (some (.int 0)) (wM I J A1 B1)) else (xK l d 166 [.ref 0, .int (nI i), .int (nI j), .int (nI r), .int (nI row)] (wM I J A1 B1) (fun v9 w9 => xG l d 183 Q 324 [some (.ref 0), some (.int (nI i)), some (.int (nI j)), some (.int (nI m)), some (.int (nI r)), some (.int (nI row)), some (.int (nI (15 * i + j))), some (.int (nI (15 * i + m))), some (.int (nI (15 * m + j))), some (.int (iC (oD D R.1 i j))), some (.int (nI (row + 1))), none, none, none, none, none, none] (v9.toList ++ []) w9 0 0)))) :
    xG l d 183 Q 48 [some (.ref 0), some (.int (nI i)), some (.int (nI j)), some (.int (nI m)), some (.int (nI r)), some (.int (nI row)), some (.int (nI (15 * i + j))), some (.int (nI (15 * i + m))), some (.int (nI (15 * m + j))), some (.int (iC (oD D R.1 i j))), some (.int (nI (row + 1))), some (.int 0), some (.int 0), none, none, none, none] [] (wM I J A B) 0 0 := by
  obtain ⟨⟨hg, h22, h23, hes, hrs, h14, hsd, hch⟩, hkn, _, _, _⟩ := hsC
  have ho := oD_B D
  have hRm : R ∈ g.2.1 := by rw [← hRe]; exact getD_mem hr dR
  have hRk := hg.2.1 R hRm
  have h30 := hrs.1
  have hRA : rulAt A r R := by have := (hrs.2 r hr).2; rw [hRe, Nat.zero_add] at this; exact this
  have him : i < m ∧ m ≤ j := by rcases hm with ⟨_, q⟩ | ⟨_, q1, q2⟩ <;> omega
  have hcV := hch i j hij hj
  have hkV := hkn i j hij hj
  have hbV := cB_ch hg ho ws hij (show j ≤ 14 by omega)
  have hcA := hch i m him.1 (by omega)
  have hkA := hkn i m him.1 (by omega)
  have hbA := cB_ch hg ho ws him.1 (show m ≤ 14 by omega)
  have lA := hcA.1
  have lV := hcV.1
  have hf16 := hRk.2.1
  have hw16 := hRk.1
  have hob := ho R.1 i j
  have hLb := isLC_b hbV hK hw hL
  have hlow := fun {x : Nat} => lowW (x := x) hg ho hK hw hij (show j ≤ 14 by omega) hL hRm rfl hm
  have hany := any_vl (R := R) (Va := ch g (oD D) ws i m) (Vb := ch g (oD D) ws m j) (wt := wt) (m0 := L - oD D R.1 i j) hbA (by omega) (fun x hx hcx => hlow hx hcx)
  have hmd : ∀ c2, R.2.2.1 = some c2 → i < m ∧ m < j := fun c2 h1 => by rcases hm with ⟨q, _⟩ | ⟨_, q⟩; rw [h1] at q; cases q; exact q
  refine s_foW0 (V := ch g (oD D) ws i j) (Va := ch g (oD D) ws i m) (Vb := ch g (oD D) ws m j) (wt := wt) (wF := wFst true R (ch g (oD D) ws m j) wt) (m0 := L - oD D R.1 i j) (L := L) (R := R) (X := fun x => decide (x / 625 = R.2.1 ∧ cy (ch g (oD D) ws i m x) + wFst true R (ch g (oD D) ws m j) wt x = L - oD D R.1 i j)) hd (by omega) hij (by omega) hm hrow hRk hRA hcA hkA hbA hcV hkV hbV (fun q => ⟨hch m j q hj, hkn m j q hj, cB_ch hg ho ws q (by omega)⟩) hob (fun q => by rw [q]) (fun x s h1 h2 h3 h4 => (ch_sng hg (oD D) ws hij hRm h1 h2 h3 h4).1) (fun x h1 h2 h3 => ss_eq (Vb := ch g (oD D) ws m j) hg ho hK hw hRm hij (by omega) hL h1 h2 h3) (fun c2 x h1 h2 h3 => gs_any hg ho hK hw hRm (hmd c2 h1).1 (hmd c2 h1).2 (by omega) hL h1 h2 h3) (fun c2 x y s h1 h2 h3 h4 h5 h6 => (ch_par hg (oD D) ws (hmd c2 h1).1 (hmd c2 h1).2 hRm h1 h2 h3 h4 h5 h6).1) hrw (fun _ => rfl) (hab.trans hany.symm) hQ
end M28
