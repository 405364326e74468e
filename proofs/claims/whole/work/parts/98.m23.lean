/-! ===== the reference: picks ===== -/
def sP (g : Gram) (o : Own) (ws : List (List Nat)) (I : Nat → Int32) (A : Nat → Nat → Int32) (B : Nat → Nat → Int64) : Prop := gOk g ∧ I 22 = nI g.1.length ∧ I 23 = nI g.2.1.length ∧ entsM A B 0 g.1 ∧ rulsM A 0 g.2.1 ∧ ws.length ≤ 14 ∧ (∀ k, k < ws.length → vNm (ws.getD k []) ∧ B 15 k = lN (c27 (ws.getD k []))) ∧ chM A B g o ws
theorem sP_fr {g : Gram} {o : Own} {ws : List (List Nat)} {I I' : Nat → Int32} {A A' : Nat → Nat → Int32} {B B' : Nat → Nat → Int64} (h : sP g o ws I A B) (hI : ∀ i, i ≠ 39 → i ≠ 47 → I' i = I i) (hA : ∀ p, p ≠ 14 → (p < 21 ∨ 25 < p) → A' p = A p) (hB : ∀ p, p ≠ 26 → B' p = B p) : sP g o ws I' A' B' := by
  obtain ⟨h1, h2, h3, h4, h5, h6, h7, h8⟩ := h
  refine ⟨h1, (hI 22 (by decide) (by decide)).trans h2, (hI 23 (by decide) (by decide)).trans h3, ?_, ⟨h5.1, fun r hr => ⟨(h5.2 r hr).1, rulAt_fr (h5.2 r hr).2 (fun p a b => hA p (by omega) (by omega))⟩⟩, h6, fun k hk => ⟨(h7 k hk).1, by rw [hB 15 (by decide)]; exact (h7 k hk).2⟩, chM_fr h8 (hA 17 (by decide) (by omega)) (hA 18 (by decide) (by omega)) (hB 20 (by decide))⟩
  unfold entsM entAt at h4 ⊢
  rw [hA 4 (by decide) (by omega), hA 5 (by decide) (by omega), hB 2 (by decide)]; exact h4
def rowW (B : Nat → Nat → Int64) (row : Nat) (V : Nat → Vl) (c : Nat) (w : Nat → Nat) : Prop := ∀ k, k < (sL V).length → (sL V).getD k 0 / 625 = c → B 26 (64 * row + k) = lN (w ((sL V).getD k 0))
def ndA (A : Nat → Nat → Int32) (z : Nat) (nds : List Nd) : Prop := ∀ k, k < nds.length → A 21 (z + k) = nI (nds.getD k dN).1 ∧ A 22 (z + k) = nI (nds.getD k dN).2.1 ∧ A 23 (z + k) = nI (nds.getD k dN).2.2.1 ∧ A 24 (z + k) = iC (nds.getD k dN).2.2.2.1 ∧ A 25 (z + k) = nI (nds.getD k dN).2.2.2.2
/-- what finding leaves as it was -/
def fP (row z : Nat) (I : Nat → Int32) (J : Nat → Int64) (A : Nat → Nat → Int32) (B : Nat → Nat → Int64) (I' : Nat → Int32) (J' : Nat → Int64) (A' : Nat → Nat → Int32) (B' : Nat → Nat → Int64) : Prop := (∀ p, p ≠ 14 → (p < 21 ∨ 25 < p) → A' p = A p) ∧ (∀ p i, i < z → p ≠ 14 → A' p i = A p i) ∧ (∀ p, p ≠ 26 → B' p = B p) ∧ (∀ i, i < 64 * (row + 1) → B' 26 i = B 26 i) ∧ (∀ i, i ≠ 39 → i ≠ 47 → I' i = I i) ∧ (∀ i, i ≠ 46 → J' i = J i)
theorem fP_trans {row row' z z' : Nat} {I I1 I2 : Nat → Int32} {J J1 J2 : Nat → Int64} {A A1 A2 : Nat → Nat → Int32} {B B1 B2 : Nat → Nat → Int64} (h : fP row z I J A B I1 J1 A1 B1) (k : fP row' z' I1 J1 A1 B1 I2 J2 A2 B2) (hr : row ≤ row') (hz : z ≤ z') : fP row z I J A B I2 J2 A2 B2 :=
  ⟨fun p a b => (k.1 p a b).trans (h.1 p a b), fun p i a b => (k.2.1 p i (by omega) b).trans (h.2.1 p i a b), fun p a => (k.2.2.1 p a).trans (h.2.2.1 p a), fun i a => (k.2.2.2.1 i (by omega)).trans (h.2.2.2.1 i a), fun i a b => (k.2.2.2.2.1 i a b).trans (h.2.2.2.2.1 i a b), fun i a => (k.2.2.2.2.2 i a).trans (h.2.2.2.2.2 i a)⟩
/-- the contract of pick -/
def PKc (l : Launch) (g : Gram) (o : Own) (ws : List (List Nat)) (d f : Nat) : Prop := ∀ (Q : Option Value → XW → Prop) (I : Nat → Int32) (J : Nat → Int64) (A : Nat → Nat → Int32) (B : Nat → Nat → Int64) (x1 x2 x3 x4 : Int32) (i j c : Nat) (w : Nat → Nat) (n row z s n' : Nat) (nds : List Nd), x1 = nI i → x2 = nI j → x3 = nI c → x4 = nI row → j ≤ ws.length → preN g o ws f i j c w n → pkN g o ws f i j c w n row = some (s, ((n' : Nat) : Int), nds) → row + 16 * (j - i - 1) + rk g c ≤ 240 → z + nds.length ≤ 500 → sP g o ws I A B → rowW B row (ch g o ws i j) c w → J 46 = lN n → I 39 = nI z → (∀ (I' : Nat → Int32) (J' : Nat → Int64) (A' : Nat → Nat → Int32) (B' : Nat → Nat → Int64), I' 39 = nI (z + nds.length) → I' 47 = nI s → J' 46 = lN n' → ndA A' z nds → fP row z I J A B I' J' A' B' → Q none (wM I' J' A' B')) → xK l d 168 [.ref 0, .int x1, .int x2, .int x3, .int x4] (wM I J A B) Q
section M23
variable {l : Launch} {J : Nat → Int64} {A : Nat → Nat → Int32} {B : Nat → Nat → Int64} {Q : Option Value → XW → Prop} {d : Nat} {I : Nat → Int32}
theorem s_weighs (hd : 2 ≤ d) {x y z : Int32} {row c s cc : Nat} {V : Nat → Vl} {w : Nat → Nat} (hx : x = nI row) (hr : row ≤ 245) (hy : y = nI c) (hc : c < 225) (hz : z = nI s) (hs : s < 10000) (hV : cM A B c V) (hin : (V s).isSome = true) (hcat : s / 625 = cc) (hw : rowW B row V cc w) (hQ : Q (some (.long (lN (w s)))) (wM I J A B)) : xK l d 167 [.ref 0, .int x, .int y, .int z] (wM I J A B) Q := by
  obtain ⟨d, rfl⟩ : ∃ e, d = e + 1 := ⟨d - 1, by omega⟩
  subst hx
  have hat := sL_at hs hin
  have h60 := hV.1
  refine e_X11_weighs (s_find (V := V) (by omega) hy hc hz hs h60 hV.2.1 (fun k hk => (hV.2.2 k hk).1) (fun hn => by rw [hn] at hin; cases hin) (fun _ _ => b_X11_weighs_6 ?_))
  have := hw _ hat.1 (by rw [hat.2]; exact hcat)
  rw [hat.2] at this
  rw [if_neg (ne_m1 (by omega)), show (64 : Int32) * nI row + nI (ix V s) = nI (64 * row + ix V s) from add_of (mul_of (a := 64) rfl rfl) rfl, cl_n (by omega), this]
  exact ⟨xin_n (by omega) (by omega), hQ⟩
theorem s_nodeM (hd : 1 ≤ d) {x y u v : Int32} {z : Nat} (h39 : I 39 = nI z) (hz : z < 500) (hQ : Q (some (.int (nI z))) (wM (upd I 39 (nI (z + 1))) J (va_up (va_up (va_up (va_up A 22 (upd (A 22) z x)) 23 (upd (A 23) z y)) 24 (upd (A 24) z u)) 25 (upd (A 25) z v)) B)) : xK l d 166 [.ref 0, .int x, .int y, .int u, .int v] (wM I J A B) Q := by
  obtain ⟨d, rfl⟩ : ∃ e, d = e + 1 := ⟨d - 1, by omega⟩
  refine e_X11_node ?_
  rw [h39, cl_n (by omega), nI_1, show nI (z + 1) - 1 = nI z by rw [show (1 : Int32) = nI 1 from rfl, sub_n (by omega), Nat.add_sub_cancel]]
  exact ⟨xin_n hz (by omega), xin_n hz (by omega), xin_n hz (by omega), xin_n hz (by omega), hQ⟩
theorem sat_wO {w : Nat → Nat} (hw : ∀ s, w s ≤ 1000000000000000) (o : Option Nat) : sat (wO w o) = wO w o := by
  cases o with
  | none => rfl
  | some s => exact sat_id (hw s)
theorem sM_snoc {L : List Nat} {f : Nat → Nat} {p : Nat} (h : p < L.length) : sM (L.take (p + 1)) f = sM (L.take p) f + f (L.getD p 0) := by
  unfold sM; rw [take_snoc L 0 h, List.map_append, List.sum_append]; simp
/-- weights of the first part, and what they come to -/
theorem s_pkW (hd : 3 ≤ d) {g : Gram} {o : Own} {ws : List (List Nat)} {i j m r row n : Nat} {w : Nat → Nat} {R : Rule} (hsP : sP g o ws I A B) (hr : r < g.2.1.length) (hRe : g.2.1.getD r dR = R) (hij : i < j) (hj : j ≤ ws.length) (hm : (R.2.2.1 = none ∧ m = j) ∨ (R.2.2.1 ≠ none ∧ i < m ∧ m < j)) (hw : ∀ s, w s ≤ 1000000000000000) (hrow : row ≤ 240) (hrw : rowW B row (ch g o ws i j) R.1 w)
    (hQ : ∀ (A1 : Nat → Nat → Int32) (B1 : Nat → Nat → Int64), (∀ p, p ≠ 14 → A1 p = A p) → (∀ p, p ≠ 26 → B1 p = B p) → (∀ i, i < 64 * (row + 1) → B1 26 i = B 26 i) → rowW B1 (row + 1) (ch g o ws i m) R.2.1 (fun x => sat (fT R (ch g o ws m j) w x)) → (if lg_cmp (J 46) (lN (sat (vT R (ch g o ws i m) (ch g o ws m j) w))) < 0 then (xK l d 166 [.ref 0, .int (nI i), .int (nI j), .int (nI r), .int (nI row)] (wM I J A1 B1) (fun v9 w9 => xG l d 169 Q 365 [some (.ref 0), some (.int (nI i)), some (.int (nI j)), some (.int (nI m)), some (.int (nI r)), some (.int (nI row)), some (.int (nI (15 * i + j))), none, some (.int (nI (15 * m + j))), some (.int (nI (row + 1))), none, none, none, none, none, none, none, none, none] (v9.toList ++ []) w9 0 0)) else (((0 : Int32) = 0 ∨ (0 : Int32) = 1) ∧ Q (some (.int 0)) (wM I (va_up J 46 ((J 46) - lN (sat (vT R (ch g o ws i m) (ch g o ws m j) w)))) A1 B1)))) :
    xG l d 169 Q 33 [some (.ref 0), some (.int (nI i)), some (.int (nI j)), some (.int (nI m)), some (.int (nI r)), some (.int (nI row)), some (.int (nI (15 * i + j))), some (.int (nI (15 * i + m))), some (.int (nI (15 * m + j))), some (.int (nI (row + 1))), some (.long 0), none, some (.int 0), none, none, none, none, none, none] [] (wM I J A B) 0 0 := by
  obtain ⟨hg, h22, h23, hes, hrs, h14, hsd, hch⟩ := hsP
  have hRm : R ∈ g.2.1 := by rw [← hRe]; exact getD_mem hr dR
  have hRk := hg.2.1 R hRm
  have h30 := hrs.1
  have hRA : rulAt A r R := by have := (hrs.2 r hr).2; rw [hRe, Nat.zero_add] at this; exact this
  have him : i < m ∧ m ≤ j := by rcases hm with ⟨_, q⟩ | ⟨_, q1, q2⟩ <;> omega
  have hcV := hch i j hij hj
  have hcA := hch i m him.1 (by omega)
  have lA := hcA.1
  have hf16 := hRk.2.1
  have hw16 := hRk.1
  generalize hFT : (fun x => fT R (ch g o ws m j) w x) = F
  have hvT : vT R (ch g o ws i m) (ch g o ws m j) w = sM (sL (ch g o ws i m)) (fun x => if x / 625 = R.2.1 then wy (ch g o ws i m x) * F x else 0) := by rw [← hFT]; rfl
  rw [hvT] at hQ
  have hFx : ∀ x, fT R (ch g o ws m j) w x = F x := fun x => by rw [← hFT]
  have hQ' : ∀ (A1 : Nat → Nat → Int32) (B1 : Nat → Nat → Int64), (∀ p, p ≠ 14 → A1 p = A p) → (∀ p, p ≠ 26 → B1 p = B p) → (∀ i, i < 64 * (row + 1) → B1 26 i = B 26 i) → rowW B1 (row + 1) (ch g o ws i m) R.2.1 (fun x => sat (F x)) → _ := fun A1 B1 a b c e => hQ A1 B1 a b c (by rw [← hFT] at e; exact e)
  clear hQ
  have loop : ∀ k p (A1 : Nat → Nat → Int32) (B1 : Nat → Nat → Int64), (sL (ch g o ws i m)).length - p < k → p ≤ (sL (ch g o ws i m)).length → (∀ q, q ≠ 14 → A1 q = A q) → (∀ q, q ≠ 26 → B1 q = B q) → (∀ q, q < 64 * (row + 1) → B1 26 q = B 26 q) → (∀ q, q < p → (sL (ch g o ws i m)).getD q 0 / 625 = R.2.1 → B1 26 (64 * (row + 1) + q) = lN (sat (F ((sL (ch g o ws i m)).getD q 0)))) → xG l d 169 Q 33 [some (.ref 0), some (.int (nI i)), some (.int (nI j)), some (.int (nI m)), some (.int (nI r)), some (.int (nI row)), some (.int (nI (15 * i + j))), some (.int (nI (15 * i + m))), some (.int (nI (15 * m + j))), some (.int (nI (row + 1))), some (.long (lN (sat (sM ((sL (ch g o ws i m)).take p) (fun x => if x / 625 = R.2.1 then wy (ch g o ws i m x) * F x else 0))))), none, some (.int (nI p)), none, none, none, none, none, none] [] (wM I J A1 B1) 0 0 := by
    intro k
    induction k with
    | zero => intro p A1 B1 hk; omega
    | succ k ih =>
      intro p A1 B1 hk hp hA hB hB26 hset
      refine b_X11_picks_33 ⟨xin_n (by omega) (by omega), if_le (a := (sL (ch g o ws i m)).length) (by rw [cl_n (by omega), hA 17 (by decide)]; exact hcA.2.1) rfl (by omega) (by omega) (fun z => ?_) (fun z => ?_)⟩
      · have := hQ' A1 B1 hA hB hB26 (fun q hq hc => hset q (by omega) hc)
        rw [List.take_of_length_le z]; exact this
      · have hin := sL_in z
        have hsn := sM_snoc (f := fun x => if x / 625 = R.2.1 then wy (ch g o ws i m x) * F x else 0) z
        have hcp := hcA.2.2 p z
        rw [show (64 : Int32) * nI (15 * i + m) + nI p = nI (64 * (15 * i + m) + p) from add_of (mul_of (a := 64) rfl rfl) rfl, show (64 : Int32) * nI (row + 1) + nI p = nI (64 * (row + 1) + p) from add_of (mul_of (a := 64) rfl rfl) rfl, cl_n (by omega), cl_n (by omega), hA 18 (by decide), hcp.1]
        refine ⟨xin_n (by omega) (by omega), xin_n (by omega) (by omega), ?_⟩
        generalize hBB : va_up B1 26 (vp_updL (B1 26) (64 * (row + 1) + p) 0) = B2
        have hB2 : ∀ q, q ≠ 26 → B2 q = B q := fun q hq => by rw [← hBB, un_v hq]; exact hB q hq
        have hB226 : ∀ q, q < 64 * (row + 1) → B2 26 q = B 26 q := fun q hq => by rw [← hBB, ue_v, un_l (by omega)]; exact hB26 q hq
        have hset2 : ∀ q, q < p → (sL (ch g o ws i m)).getD q 0 / 625 = R.2.1 → B2 26 (64 * (row + 1) + q) = lN (sat (F ((sL (ch g o ws i m)).getD q 0))) := fun q hq hc => by rw [← hBB, ue_v, un_l (by omega)]; exact hset q hq hc
        generalize hx : (sL (ch g o ws i m)).getD p 0 = x at hin hsn hcp
        -- the weight is known: store it and go on
        have store : ∀ (A2 : Nat → Nat → Int32) (v : Int64), (∀ q, q ≠ 14 → A2 q = A q) → x / 625 = R.2.1 → v = lN (sat (F x)) → xK l d 153 [.long (B2 20 (64 * (15 * i + m) + p)), .long v] (wM I J A2 (va_up B2 26 (vp_updL (B2 26) (64 * (row + 1) + p) v))) (fun v9 w9 => xG l d 169 Q 320 [some (.ref 0), some (.int (nI i)), some (.int (nI j)), some (.int (nI m)), some (.int (nI r)), some (.int (nI row)), some (.int (nI (15 * i + j))), some (.int (nI (15 * i + m))), some (.int (nI (15 * m + j))), some (.int (nI (row + 1))), none, none, some (.int (nI p)), none, none, none, none, none, none] (v9.toList ++ [.long (lN (sat (sM ((sL (ch g o ws i m)).take p) (fun x => if x / 625 = R.2.1 then wy (ch g o ws i m x) * F x else 0))))]) w9 0 0) := by
          intro A2 v hA2 hc hv
          rw [if_pos hc] at hsn
          refine s_product (a := wy (ch g o ws i m x)) (b := F x) (by omega) (by rw [hB2 20 (by decide)]; exact hcp.2) hv (b_X11_picks_320 (s_full (by omega) (ln_add _ _) (lN_sat_add _ _) (b_X11_picks_324 ?_)))
          rw [sat_add, ← hsn, nI_1]
          refine ih (p + 1) A2 _ (by omega) (by omega) hA2 (fun q hq => by rw [un_v hq]; exact hB2 q hq) (fun q hq => by rw [ue_v, un_l (by omega)]; exact hB226 q hq) (fun q hq hcq => ?_)
          rw [ue_v]
          by_cases e : q = p
          · subst e; rw [ue_l, hv, hx]
          · rw [un_l (by omega)]; exact hset2 q (by omega) hcq
        refine s_categoryOfM (by omega) rfl hin.1 (b_X11_picks_79 ⟨xin_n (by omega) (by omega), ?_⟩)
        rw [cl_n (by omega), hA 7 (by decide), hA 8 (by decide), hRA.2.1, hRA.2.2.1]
        refine if_eq rfl rfl (by omega) (by omega) (fun e => ⟨xin_n (by omega) (by omega), ?_⟩) (fun e => ?_)
        · rcases hm with ⟨h1, hmj⟩ | ⟨h1, hm1, hm2⟩
          · -- one part
            subst hmj
            rw [h1, if_pos (show o2i none = -1 from rfl), mod625 hin.1]
            have hFo : F x = wO w (mkS R x 0) := by rw [← hFx x]; unfold fT; rw [if_pos h1]
            refine ⟨by decide, s_made (b := 0) (by omega) rfl (by omega) rfl (mod_lt625 _) rfl (by omega) hRk (rulAt_fr hRA (fun p a b => hA p (by omega))) (fun A3 h14' => b_X11_picks_119 ?_)⟩
            have hA3 : ∀ q, q ≠ 14 → A3 q = A q := fun q hq => (h14' q hq).trans (hA q hq)
            have go : ∀ v : Int64, v = lN (sat (F x)) → xG l d 169 Q 153 [some (.ref 0), some (.int (nI i)), some (.int (nI m)), some (.int (nI m)), some (.int (nI r)), some (.int (nI row)), some (.int (nI (15 * i + m))), some (.int (nI (15 * i + m))), some (.int (nI (15 * m + m))), some (.int (nI (row + 1))), some (.long (lN (sat (sM ((sL (ch g o ws i m)).take p) (fun x => if x / 625 = R.2.1 then wy (ch g o ws i m x) * F x else 0))))), none, some (.int (nI p)), none, none, none, none, none, none] [.long v] (wM I J A3 B2) 0 0 := fun v hv => by
              refine b_X11_picks_153 ?_
              rw [show (64 : Int32) * nI (15 * i + m) + nI p = nI (64 * (15 * i + m) + p) from add_of (mul_of (a := 64) rfl rfl) rfl, show (64 : Int32) * nI (row + 1) + nI p = nI (64 * (row + 1) + p) from add_of (mul_of (a := 64) rfl rfl) rfl, cl_n (by omega), cl_n (by omega)]
              exact ⟨xin_n (by omega) (by omega), xin_n (by omega) (by omega), store A3 v hA3 e hv⟩
            cases hk' : mkK R.2.2.2.1 (x % 625) 0 with
            | none =>
              rw [if_pos (show o2i none = -1 from rfl)]
              exact go 0 (by rw [hFo]; unfold mkS; rw [hk']; rfl)
            | some kk =>
              have hk625 := mkK_lt (by split <;> omega) hRk.2.2.2.2.1 hk'
              have hmk : mkS R x 0 = some (625 * R.1 + kk) := by unfold mkS; rw [hk']; rfl
              have hpr := ch_sng hg o ws hij hRm h1 hin.2 e hmk
              rw [show o2i (some kk) = nI kk from rfl, if_neg (ne_m1 (by omega)), cl_n (by omega), hA3 6 (by decide), hRA.1, show (625 : Int32) * nI R.1 + nI kk = nI (625 * R.1 + kk) from add_of (mul_of (a := 625) rfl rfl) rfl]
              refine ⟨xin_n (by omega) (by omega), s_weighs (V := ch g o ws i m) (cc := R.1) (w := w) (by omega) rfl (by omega) rfl (by omega) rfl (by omega) ?_ hpr.1 (by omega) (fun q hq hcq => ?_) (go _ ?_)⟩
              · unfold cM at hcV ⊢
                rw [hA3 17 (by decide), hA3 18 (by decide), hB2 20 (by decide)]; exact hcV
              · have := hcV.1
                rw [hB226 _ (by omega)]; exact hrw q hq hcq
              · rw [hFo, hmk, show wO w (some (625 * R.1 + kk)) = w (625 * R.1 + kk) from rfl, sat_id (hw _)]
          · -- two parts
            obtain ⟨c2, hc2⟩ : ∃ c2, R.2.2.1 = some c2 := by
              cases q : R.2.2.1 with
              | none => exact absurd q h1
              | some c2 => exact ⟨c2, rfl⟩
            have hc216 := hRk.2.2.1 c2 hc2
            have hcB := hch m j hm2 hj
            have lB := hcB.1
            rw [hc2, show o2i (some c2) = nI c2 from rfl, if_neg (ne_m1 (by omega))]
            have hFo : F x = sM (sL (ch g o ws m j)) (fun y => if some (y / 625) = R.2.2.1 then wy (ch g o ws m j y) * wO w (mkS R x y) else 0) := by rw [← hFx x]; unfold fT; rw [if_neg h1]
            have inner : ∀ k2 q (A3 : Nat → Nat → Int32), (sL (ch g o ws m j)).length - q < k2 → q ≤ (sL (ch g o ws m j)).length → (∀ u, u ≠ 14 → A3 u = A u) → xG l d 169 Q 161 [some (.ref 0), some (.int (nI i)), some (.int (nI j)), some (.int (nI m)), some (.int (nI r)), some (.int (nI row)), some (.int (nI (15 * i + j))), some (.int (nI (15 * i + m))), some (.int (nI (15 * m + j))), some (.int (nI (row + 1))), some (.long (lN (sat (sM ((sL (ch g o ws i m)).take p) (fun x => if x / 625 = R.2.1 then wy (ch g o ws i m x) * F x else 0))))), none, some (.int (nI p)), some (.int (nI x)), some (.long (lN (sat (sM ((sL (ch g o ws m j)).take q) (fun y => if some (y / 625) = R.2.2.1 then wy (ch g o ws m j y) * wO w (mkS R x y) else 0))))), none, some (.int (nI q)), none, none] [] (wM I J A3 B2) 0 0 := by
              intro k2
              induction k2 with
              | zero => intro q A3 hk2; omega
              | succ k2 ih2 =>
                intro q A3 hk2 hq hA3
                refine b_X11_picks_161 ⟨xin_n (by omega) (by omega), if_le (a := (sL (ch g o ws m j)).length) (by rw [cl_n (by omega), hA3 17 (by decide)]; exact hcB.2.1) rfl (by omega) (by omega) (fun z2 => ?_) (fun z2 => ?_)⟩
                · rw [show (64 : Int32) * nI (15 * i + m) + nI p = nI (64 * (15 * i + m) + p) from add_of (mul_of (a := 64) rfl rfl) rfl, show (64 : Int32) * nI (row + 1) + nI p = nI (64 * (row + 1) + p) from add_of (mul_of (a := 64) rfl rfl) rfl, cl_n (by omega), cl_n (by omega)]
                  refine ⟨xin_n (by omega) (by omega), xin_n (by omega) (by omega), store A3 _ hA3 e ?_⟩
                  rw [List.take_of_length_le z2, hFo]
                · have hyn := sL_in z2
                  have hsq := sM_snoc (f := fun y => if some (y / 625) = R.2.2.1 then wy (ch g o ws m j y) * wO w (mkS R x y) else 0) z2
                  have hcq := hcB.2.2 q z2
                  rw [show (64 : Int32) * nI (15 * m + j) + nI q = nI (64 * (15 * m + j) + q) from add_of (mul_of (a := 64) rfl rfl) rfl, cl_n (by omega), hA3 18 (by decide), hcq.1]
                  generalize hy : (sL (ch g o ws m j)).getD q 0 = y at hyn hsq hcq
                  have nxt : ∀ (A4 : Nat → Nat → Int32) (t : Nat), (∀ u, u ≠ 14 → A4 u = A u) → t = sM ((sL (ch g o ws m j)).take (q + 1)) (fun y => if some (y / 625) = R.2.2.1 then wy (ch g o ws m j y) * wO w (mkS R x y) else 0) → xG l d 169 Q 161 [some (.ref 0), some (.int (nI i)), some (.int (nI j)), some (.int (nI m)), some (.int (nI r)), some (.int (nI row)), some (.int (nI (15 * i + j))), some (.int (nI (15 * i + m))), some (.int (nI (15 * m + j))), some (.int (nI (row + 1))), some (.long (lN (sat (sM ((sL (ch g o ws i m)).take p) (fun x => if x / 625 = R.2.1 then wy (ch g o ws i m x) * F x else 0))))), none, some (.int (nI p)), some (.int (nI x)), some (.long (lN (sat t))), none, some (.int (nI q + 1)), none, none] [] (wM I J A4 B2) 0 0 := fun A4 t hA4 ht => by
                    rw [ht, nI_1]
                    exact ih2 (q + 1) A4 (by omega) (by omega) hA4
                  refine ⟨xin_n (by omega) (by omega), s_categoryOfM (by omega) rfl hyn.1 (b_X11_picks_193 ⟨xin_n (by omega) (by omega), ?_⟩)⟩
                  rw [cl_n (by omega), hA3 8 (by decide), hRA.2.2.1, hc2, show o2i (some c2) = nI c2 from rfl, if_pos (show (-1 : Int32) = -1 from rfl)]
                  refine if_eq rfl rfl (by omega) (by omega) (fun e4 => ⟨by decide, by decide, ?_⟩) (fun e4 => nxt A3 _ hA3 ?_)
                  · rw [if_pos (by rw [e4, hc2])] at hsq
                    rw [mod625 hin.1, mod625 hyn.1]
                    refine s_made (by omega) rfl (by omega) rfl (mod_lt625 _) rfl (mod_lt625 _) hRk (rulAt_fr hRA (fun p a b => hA3 p (by omega))) (fun A5 h14' => b_X11_picks_221 ?_)
                    have hA5 : ∀ u, u ≠ 14 → A5 u = A u := fun u hu => (h14' u hu).trans (hA3 u hu)
                    cases hk' : mkK R.2.2.2.1 (x % 625) (y % 625) with
                    | none =>
                      rw [if_pos (show o2i none = -1 from rfl)]
                      refine nxt A5 _ hA5 ?_
                      rw [hsq, show mkS R x y = none by unfold mkS; rw [hk']; rfl, show wO w none = 0 from rfl, Nat.mul_zero, Nat.add_zero, hc2]
                    | some kk =>
                      have hk625 := mkK_lt (by split <;> omega) hRk.2.2.2.2.1 hk'
                      have hmk : mkS R x y = some (625 * R.1 + kk) := by unfold mkS; rw [hk']; rfl
                      have hpr := ch_par hg o ws hm1 hm2 hRm hc2 hin.2 e hyn.2 e4 hmk
                      rw [show o2i (some kk) = nI kk from rfl, if_neg (ne_m1 (by omega)), cl_n (a := r) (by omega), hA5 6 (by decide), hRA.1, show (625 : Int32) * nI R.1 + nI kk = nI (625 * R.1 + kk) from add_of (mul_of (a := 625) rfl rfl) rfl, show (64 : Int32) * nI (15 * m + j) + nI q = nI (64 * (15 * m + j) + q) from add_of (mul_of (a := 64) rfl rfl) rfl, cl_n (by omega), hB2 20 (by decide), hcq.2]
                      refine ⟨xin_n (by omega) (by omega), xin_n (by omega) (by omega), s_weighs (V := ch g o ws i j) (cc := R.1) (w := w) (by omega) rfl (by omega) rfl (by omega) rfl (by omega) ?_ hpr.1 (by omega) (fun u hu hcu => ?_) (b_X11_picks_270 ?_)⟩
                      · unfold cM at hcV ⊢
                        rw [hA5 17 (by decide), hA5 18 (by decide), hB2 20 (by decide)]; exact hcV
                      · have := hcV.1
                        rw [hB226 _ (by omega)]; exact hrw u hu hcu
                      · refine s_product (a := wy (ch g o ws m j y)) (b := w (625 * R.1 + kk)) (by omega) rfl (by rw [sat_id (hw _)]) (b_X11_picks_273 (s_full (by omega) (ln_add _ _) (lN_sat_add _ _) (b_X11_picks_277 ?_)))
                        rw [sat_add]
                        refine nxt A5 _ hA5 ?_
                        rw [hsq, hmk, hc2]; rfl
                  · rw [if_neg (fun w' => e4 (by rw [hc2] at w'; exact Option.some.inj w'))] at hsq
                    rw [hsq, Nat.add_zero, hc2]
            exact inner _ 0 A1 (Nat.lt_succ_self _) (by omega) hA
        · have hsn' : sM ((sL (ch g o ws i m)).take (p + 1)) (fun x => if x / 625 = R.2.1 then wy (ch g o ws i m x) * F x else 0) = sM ((sL (ch g o ws i m)).take p) (fun x => if x / 625 = R.2.1 then wy (ch g o ws i m x) * F x else 0) := by rw [hsn, if_neg e]; rfl
          rw [← hsn', nI_1]
          refine ih (p + 1) A1 B2 (by omega) (by omega) hA hB2 hB226 (fun q hq hcq => ?_)
          by_cases e2 : q = p
          · subst e2; rw [hx] at hcq; exact absurd hcq e
          · exact hset2 q (by omega) hcq
  have := loop _ 0 A B (Nat.lt_succ_self _) (by omega) (fun _ _ => rfl) (fun _ _ => rfl) (fun _ _ => rfl) (fun q hq => by omega)
  rw [List.take_zero, sM_nil] at this
  exact this
end M23
