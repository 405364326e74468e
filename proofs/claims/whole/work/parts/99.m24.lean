/-! ===== the reference: picks, whole ===== -/
theorem ndA_cons {A : Nat → Nat → Int32} {z : Nat} {p : Nd} {L : List Nd} (h0 : A 21 z = nI p.1 ∧ A 22 z = nI p.2.1 ∧ A 23 z = nI p.2.2.1 ∧ A 24 z = iC p.2.2.2.1 ∧ A 25 z = nI p.2.2.2.2) (h : ndA A (z + 1) L) : ndA A z (p :: L) := by
  intro k hk
  cases k with
  | zero => exact h0
  | succ k =>
    have := h k (by rw [List.length_cons] at hk; omega)
    rw [show z + 1 + k = z + (k + 1) by omega] at this
    exact this
theorem ndA_app {A : Nat → Nat → Int32} {z : Nat} {L M : List Nd} (h1 : ndA A z L) (h2 : ndA A (z + L.length) M) : ndA A z (L ++ M) := by
  intro k hk
  by_cases c : k < L.length
  · rw [gD_l c]; exact h1 k c
  · rw [gD_rr (by omega)]
    have := h2 (k - L.length) (by rw [List.length_append] at hk; omega)
    rw [show z + L.length + (k - L.length) = z + k by omega] at this
    exact this
theorem ndA_fr {A A' : Nat → Nat → Int32} {z y : Nat} {L : List Nd} (h : ndA A z L) (hy : z + L.length ≤ y) (f : ∀ p i, i < y → p ≠ 14 → A' p i = A p i) : ndA A' z L := by
  intro k hk
  rw [f 21 _ (by omega) (by decide), f 22 _ (by omega) (by decide), f 23 _ (by omega) (by decide), f 24 _ (by omega) (by decide), f 25 _ (by omega) (by decide)]; exact h k hk
theorem pk_nums {row i j m a b c : Nat} (h1 : row + 16 * (j - i - 1) + c ≤ 240) (h2 : i < m) (h3 : m < j) (h4 : a ≤ 15) (h5 : b ≤ 15) : row + 1 + 16 * (m - i - 1) + a ≤ 240 ∧ row + 1 + 16 * (j - m - 1) + b ≤ 240 := by omega
theorem pk_len {n q k : Nat} (h : n - q < k + 1) (z : q < n) : n - (q + 1) < k := by omega
/-- an implication that is not looked into -/
def Imp (P Q : Prop) : Prop := P → Q
section M24
variable {l : Launch} {J : Nat → Int64} {A : Nat → Nat → Int32} {B : Nat → Nat → Int64} {Q : Option Value → XW → Prop} {d : Nat} {I : Nat → Int32}
set_option maxHeartbeats 2000000 in
theorem s_picks (hd : 3 ≤ d) {g : Gram} {o : Own} {ws : List (List Nat)} {f i j m r row n z : Nat} {w : Nat → Nat} {R : Rule} {x1 x2 x3 x4 x5 : Int32} (hx1 : x1 = nI i) (hx2 : x2 = nI j) (hx3 : x3 = nI m) (hx4 : x4 = nI r) (hx5 : x5 = nI row) (ihp : PKc l g o ws d f) (hsP : sP g o ws I A B) (hr : r < g.2.1.length) (hRe : g.2.1.getD r dR = R) (hij : i < j) (hj : j ≤ ws.length) (hm : (R.2.2.1 = none ∧ m = j) ∨ (R.2.2.1 ≠ none ∧ i < m ∧ m < j)) (hw : ∀ s, w s ≤ 1000000000000000) (hrow : row + 16 * (j - i - 1) + rk g R.1 ≤ 240) (hrw : rowW B row (ch g o ws i j) R.1 w) (h46 : J 46 = lN n) (hn : n < 9000000000000000000) (h39 : I 39 = nI z)
    {u n3 : Nat} {nA : List Nd} (hz : z + nA.length ≤ 500)
    (hsub : n < sat (vT R (ch g o ws i m) (ch g o ws m j) w) → (∃ s nds, R.2.2.1 = none ∧ preN g o ws f i j R.2.1 (fun x => sat (fT R (ch g o ws j j) w x)) n ∧ pkN g o ws f i j R.2.1 (fun x => sat (fT R (ch g o ws j j) w x)) n (row + 1) = some (s, ((n3 : Nat) : Int), nds) ∧ s < 10000 ∧ mkS R s 0 = some u ∧ nA = (u, i, j, (r : Int), row) :: nds) ∨ (∃ c2 s n2 nds t nds2, R.2.2.1 = some c2 ∧ preN g o ws f i m R.2.1 (fun x => sat (fT R (ch g o ws m j) w x)) n ∧ pkN g o ws f i m R.2.1 (fun x => sat (fT R (ch g o ws m j) w x)) n (row + 1) = some (s, ((n2 : Nat) : Int), nds) ∧ s < 10000 ∧ (ch g o ws i m s).isSome = true ∧ s / 625 = R.2.1 ∧ preN g o ws f m j c2 (fun y => wO w (mkS R s y)) n2 ∧ pkN g o ws f m j c2 (fun y => wO w (mkS R s y)) n2 (row + 1) = some (t, ((n3 : Nat) : Int), nds2) ∧ t < 10000 ∧ mkS R s t = some u ∧ nA = (u, i, j, (r : Int), row) :: (nds ++ nds2)))
    (hN : sat (vT R (ch g o ws i m) (ch g o ws m j) w) ≤ n → ∀ (J' : Nat → Int64) (A' : Nat → Nat → Int32) (B' : Nat → Nat → Int64), J' 46 = lN (n - sat (vT R (ch g o ws i m) (ch g o ws m j) w)) → fP row z I J A B I J' A' B' → Q (some (.int 0)) (wM I J' A' B'))
    (hY : n < sat (vT R (ch g o ws i m) (ch g o ws m j) w) → ∀ (I' : Nat → Int32) (J' : Nat → Int64) (A' : Nat → Nat → Int32) (B' : Nat → Nat → Int64), I' 39 = nI (z + nA.length) → I' 47 = nI u → J' 46 = lN n3 → ndA A' z nA → fP row z I J A B I' J' A' B' → Q (some (.int 1)) (wM I' J' A' B')) : xK l (d + 1) 169 [.ref 0, .int x1, .int x2, .int x3, .int x4, .int x5] (wM I J A B) Q := by
  subst hx1; subst hx2; subst hx3; subst hx4; subst hx5
  have hsP0 := hsP
  obtain ⟨hg, h22, h23, hes, hrs, h14, hsd, hch⟩ := hsP
  have hRm : R ∈ g.2.1 := by rw [← hRe]; exact getD_mem hr dR
  have hRk := hg.2.1 R hRm
  have h30 := hrs.1
  have hRA : rulAt A r R := by have := (hrs.2 r hr).2; rw [hRe, Nat.zero_add] at this; exact this
  have him : i < m ∧ m ≤ j := by rcases hm with ⟨_, q⟩ | ⟨_, q1, q2⟩ <;> omega
  have hf16 := hRk.2.1
  have hw16 := hRk.1
  have h15f : rk g R.2.1 ≤ 15 := cnt_15 hg hf16
  refine e_X11_picks (s_cell (by omega) rfl rfl (b_X11_picks_5 (s_cell (by omega) rfl rfl (b_X11_picks_12 (s_cell (by omega) rfl rfl (b_X11_picks_19 ?_))))))
  rw [nI_1]
  refine s_pkW (n := n) hd hsP0 hr hRe hij hj hm hw (by omega) hrw (fun A1 B1 hA1 hB1 hB1r hrow1 => ?_)
  have hvl := sat_le (vT R (ch g o ws i m) (ch g o ws m j) w)
  generalize hv : sat (vT R (ch g o ws i m) (ch g o ws m j) w) = v at hvl hsub hN hY
  rw [h46]
  have f1 : ∀ (J' : Nat → Int64), (∀ i, i ≠ 46 → J' i = J i) → fP row z I J A B I J' A1 B1 := fun J' hJ => ⟨fun p a _ => hA1 p a, fun p i _ a => by rw [hA1 p a], hB1, hB1r, fun _ _ _ => rfl, hJ⟩
  refine if_if (lg_lt.trans (ln_lt (by omega) (by omega))) (fun c => ?_) (fun c => ⟨Or.inl rfl, hN (by omega) _ A1 B1 (by rw [ue_v, ln_sub (by omega) (by omega)]) (f1 _ (fun i hi => un_v hi))⟩)
  have hsub2 := hsub c
  have hY2 := hY c
  clear hsub hY hN
  have hlen : 1 ≤ nA.length := by
    rcases hsub2 with ⟨s, nds, _, _, _, _, _, e⟩ | ⟨_, s, _, nds, t, nds2, _, _, _, _, _, _, _, _, _, _, e⟩ <;> (rw [e]; simp)
  refine s_nodeM (by omega) h39 (by omega) (b_X11_picks_365 ?_)
  generalize hA2e : va_up (va_up (va_up (va_up A1 22 (upd (A1 22) z (nI i))) 23 (upd (A1 23) z (nI j))) 24 (upd (A1 24) z (nI r))) 25 (upd (A1 25) z (nI row)) = A2
  have hA2o : ∀ p, p < 22 ∨ 25 < p → A2 p = A1 p := fun p hp => by rw [← hA2e, un_v (by omega), un_v (by omega), un_v (by omega), un_v (by omega)]
  have hA2z : A2 22 z = nI i ∧ A2 23 z = nI j ∧ A2 24 z = nI r ∧ A2 25 z = nI row := by
    rw [← hA2e]
    refine ⟨?_, ?_, ?_, ?_⟩
    · rw [un_v (by decide), un_v (by decide), un_v (by decide), ue_v, ue_i]
    · rw [un_v (by decide), un_v (by decide), ue_v, ue_i]
    · rw [un_v (by decide), ue_v, ue_i]
    · rw [ue_v, ue_i]
  have hA2i : ∀ p i, i < z → A2 p i = A1 p i := fun p i hi => by
    rw [← hA2e]
    by_cases e1 : p = 25
    · subst e1; rw [ue_v, un_i (by omega)]
    · rw [un_v e1]
      by_cases e2 : p = 24
      · subst e2; rw [ue_v, un_i (by omega)]
      · rw [un_v e2]
        by_cases e3 : p = 23
        · subst e3; rw [ue_v, un_i (by omega)]
        · rw [un_v e3]
          by_cases e4 : p = 22
          · subst e4; rw [ue_v, un_i (by omega)]
          · rw [un_v e4]
  have f2 : fP row z I J A B (upd I 39 (nI (z + 1))) J A2 B1 := ⟨fun p a b => (hA2o p (by omega)).trans (hA1 p a), fun p i a b => (hA2i p i a).trans (by rw [hA1 p b]), hB1, hB1r, fun i a _ => un_i a, fun _ _ => rfl⟩
  have hsP2 := sP_fr hsP0 f2.2.2.2.2.1 f2.1 f2.2.2.1
  have ra : ∀ {A' : Nat → Nat → Int32}, (∀ p, p ≠ 14 → (p < 21 ∨ 25 < p) → A' p = A p) → rulAt A' r R := fun hA' => rulAt_fr hRA (fun p a b => hA' p (by omega) (by omega))
  have hRA2 := ra f2.1
  -- the node's sign
  have fin : ∀ (I' : Nat → Int32) (J' : Nat → Int64) (A' : Nat → Nat → Int32) (B' : Nat → Nat → Int64) (L : List Nd) (kk : Nat), nA = (u, i, j, (r : Int), row) :: L → u = 625 * R.1 + kk → kk < 625 → I' 39 = nI (z + 1 + L.length) → J' 46 = lN n3 → ndA A' (z + 1) L → fP row z I J A B I' J' A' B' → (∀ p, p ≠ 14 → A' p z = A2 p z) → xG l d 169 Q 578 [some (.ref 0), none, none, none, none, none, none, none, none, none, none, none, some (.int (nI z)), none, none, none, none, none, none] [.int (nI kk), .int ((625 : Int32) * nI R.1), .int (nI z), .ref 21] (wM I' J' A' B') 0 0 := by
    intro I' J' A' B' L kk hL hu hkk e39 e46 hnd hf hzz
    refine b_X11_picks_578 ?_
    rw [cl_n (by omega), ue_i, show (625 : Int32) * nI R.1 + nI kk = nI u by rw [hu]; exact add_of (mul_of (a := 625) rfl rfl) rfl]
    refine ⟨xin_n (by omega) (by omega), xin_n (by omega) (by omega), Or.inr rfl, hY2 _ J' _ B' ?_ (ue_i _ _ _) e46 ?_ ⟨fun p a b => ?_, fun p q a b => ?_, hf.2.2.1, hf.2.2.2.1, fun q a b => ?_, hf.2.2.2.2.2⟩⟩
    · rw [un_i (by decide), e39, hL, List.length_cons, show z + 1 + L.length = z + (L.length + 1) by omega]
    · rw [hL]
      refine ndA_cons ⟨?_, ?_, ?_, ?_, ?_⟩ (fun k hk => ?_)
      · rw [ue_v, ue_i]
      · rw [un_v (by decide), hzz 22 (by decide)]; exact hA2z.1
      · rw [un_v (by decide), hzz 23 (by decide)]; exact hA2z.2.1
      · rw [un_v (by decide), hzz 24 (by decide), hA2z.2.2.1]; exact (iC_n r).symm
      · rw [un_v (by decide), hzz 25 (by decide)]; exact hA2z.2.2.2
      · have := hnd k hk
        rw [ue_v, un_i (by omega), un_v (by decide), un_v (by decide), un_v (by decide), un_v (by decide)]; exact this
    · rw [un_v (by omega)]; exact hf.1 p a b
    · by_cases e : p = 21
      · subst e; rw [ue_v, un_i (by omega)]; exact hf.2.1 21 q a b
      · rw [un_v e]; exact hf.2.1 p q a b
    · rw [un_i b]; exact hf.2.2.2.2.1 q a b
  rw [cl_n (by omega), hRA2.2.1]
  refine ⟨xin_n (by omega) (by omega), ?_⟩
  rcases hsub2 with ⟨s, nds, h1, hpre, hpk, hs, hmk, hnA⟩ | ⟨c2, s, n2, nds, t, nds2, h1, hpre, hpk, hs, hsin, hscat, hpre2, hpk2, ht, hmk, hnA⟩
  · -- one part
    have hmj : m = j := by rcases hm with ⟨_, q⟩ | ⟨q, _⟩; exact q; exact absurd h1 q
    subst hmj
    have hrk : rk g R.2.1 < rk g R.1 := gOk_rk hg hRm h1
    have hb1 : row + 1 + 16 * (m - i - 1) + rk g R.2.1 ≤ 240 := by omega
    have hlen2 : nA.length = nds.length + 1 := by rw [hnA, List.length_cons]
    refine ihp _ _ J A2 B1 _ _ _ _ i m R.2.1 _ n (row + 1) (z + 1) s n3 nds rfl rfl rfl rfl hj hpre hpk hb1 (by omega) hsP2 hrow1 h46 (ue_i _ _ _) (fun I3 J3 A3 B3 e39 e47 e46 hnd hf3 => b_X11_picks_382 ?_)
    have hf := fP_trans f2 hf3 (by omega) (by omega)
    have hRA3 := ra hf.1
    rw [cl_n (by omega), hRA3.2.2.1, h1, if_pos (show o2i none = -1 from rfl), e47, mod625 hs, show (0 : Int32) - 0 / 625 * 625 = nI 0 by decide +kernel, hRA3.1]
    refine ⟨xin_n (by omega) (by omega), xin_n (by omega) (by omega), by decide, by decide, s_made (b := 0) (by omega) rfl (by omega) rfl (mod_lt625 _) rfl (by omega) hRk hRA3 (fun A4 h14' => ?_)⟩
    unfold mkS at hmk
    rw [show (0 : Nat) % 625 = 0 from rfl] at hmk
    cases hk' : mkK R.2.2.2.1 (s % 625) 0 with
    | none => rw [hk'] at hmk; cases hmk
    | some kk =>
      rw [hk'] at hmk
      have hmk' : some (625 * R.1 + kk) = some u := hmk
      have hu : u = 625 * R.1 + kk := (Option.some.inj hmk').symm
      have hk625 := mkK_lt (by split <;> omega) hRk.2.2.2.2.1 hk'
      refine fin I3 J3 A4 B3 nds kk hnA hu hk625 e39 e46 (ndA_fr hnd (Nat.le_refl _) (fun p q _ b => by rw [h14' p b])) ⟨fun p a b => (h14' p a).trans (hf.1 p a b), fun p q a b => by rw [h14' p b]; exact hf.2.1 p q a b, hf.2.2⟩ (fun p hp => by rw [h14' p hp]; exact hf3.2.1 p z (by omega) hp)
  · -- two parts
    have hmm : i < m ∧ m < j := by rcases hm with ⟨q, _⟩ | ⟨_, q⟩; rw [h1] at q; cases q; exact q
    have hc216 := hRk.2.2.1 c2 h1
    have h15s : rk g c2 ≤ 15 := cnt_15 hg hc216
    have hlen2 : nA.length = nds.length + nds2.length + 1 := by rw [hnA, List.length_cons, List.length_append]
    obtain ⟨hb1, hb2⟩ := pk_nums hrow hmm.1 hmm.2 h15f h15s
    have hmw : m ≤ ws.length := Nat.le_trans (Nat.le_of_lt hmm.2) hj
    have hzz1 : z + 1 + nds.length ≤ 500 := by omega
    have hzz2 : z + 1 + nds.length + nds2.length ≤ 500 := by omega
    refine ihp _ (upd I 39 (nI (z + 1))) J A2 B1 (nI i) (nI m) (nI R.2.1) (nI (row + 1)) i m R.2.1 (fun x => sat (fT R (ch g o ws m j) w x)) n (row + 1) (z + 1) s n2 nds rfl rfl rfl rfl hmw hpre hpk hb1 hzz1 hsP2 hrow1 h46 (ue_i _ _ _) (fun I3 J3 A3 B3 e39 e47 e46 hnd hf3 => b_X11_picks_382 ?_)
    have hf := fP_trans f2 hf3 (by omega) (by omega)
    have hRA3 := ra hf.1
    have hsP3 := sP_fr hsP0 hf.2.2.2.2.1 hf.1 hf.2.2.1
    rw [cl_n (by omega), hRA3.2.2.1, h1, show o2i (some c2) = nI c2 from rfl, if_neg (ne_m1 (by omega)), e47]
    refine ⟨xin_n (by omega) (by omega), ?_⟩
    have hcB := hsP3.2.2.2.2.2.2.2 m j hmm.2 hj
    have hcV := hsP3.2.2.2.2.2.2.2 i j hij hj
    have lB := hcB.1
    have lV := hcV.1
    have loop : ∀ k q (A4 : Nat → Nat → Int32) (B4 : Nat → Nat → Int64), (sL (ch g o ws m j)).length - q < k → q ≤ (sL (ch g o ws m j)).length → (∀ p, p ≠ 14 → A4 p = A3 p) → (∀ p, p ≠ 26 → B4 p = B3 p) → (∀ p, p < 64 * (row + 1) → B4 26 p = B3 26 p) → (∀ p, p < q → (sL (ch g o ws m j)).getD p 0 / 625 = c2 → B4 26 (64 * (row + 1) + p) = lN (wO w (mkS R s ((sL (ch g o ws m j)).getD p 0)))) → xG l d 169 Q 405 [some (.ref 0), none, some (.int (nI j)), some (.int (nI m)), some (.int (nI r)), some (.int (nI row)), some (.int (nI (15 * i + j))), none, some (.int (nI (15 * m + j))), some (.int (nI (row + 1))), none, none, some (.int (nI z)), some (.int (nI s)), none, some (.int (nI q)), none, none, none] [] (wM I3 J3 A4 B4) 0 0 := by
      intro k
      induction k with
      | zero => intro q A4 B4 hk; omega
      | succ k ih =>
        intro q A4 B4 hk hq hA4 hB4 hB4r hset
        have hf4 : fP row z I J A B I3 J3 A4 B4 := ⟨fun p a b => (hA4 p a).trans (hf.1 p a b), fun p x a b => by rw [hA4 p b]; exact hf.2.1 p x a b, fun p a => (hB4 p a).trans (hf.2.2.1 p a), fun x a => (hB4r x a).trans (hf.2.2.2.1 x a), hf.2.2.2.2.1, hf.2.2.2.2.2⟩
        have hRA4 := ra hf4.1
        refine b_X11_picks_405 ⟨xin_n (by omega) (by omega), if_le (a := (sL (ch g o ws m j)).length) (by rw [cl_n (by omega), hA4 17 (by decide)]; exact hcB.2.1) rfl (by omega) (by omega) (fun z2 => ?_) (fun z2 => ?_)⟩
        · rw [cl_n (by omega), hRA4.2.2.1, h1, show o2i (some c2) = nI c2 from rfl]
          have hsP4 := sP_fr hsP0 hf4.2.2.2.2.1 hf4.1 hf4.2.2.1
          refine ⟨xin_n (by omega) (by omega), ihp _ I3 J3 A4 B4 (nI m) (nI j) (nI c2) (nI (row + 1)) m j c2 (fun y => wO w (mkS R s y)) n2 (row + 1) (z + 1 + nds.length) t n3 nds2 rfl rfl rfl rfl hj hpre2 hpk2 hb2 hzz2 hsP4 (fun p hp hc => hset p (by omega) hc) e46 e39 (fun I5 J5 A5 B5 g39 g47 g46 hnd5 hf5 => b_X11_picks_537 ?_)⟩
          have hf6 := fP_trans hf4 hf5 (by omega) (by omega)
          have hRA5 := ra hf6.1
          rw [cl_n (by omega), g47, mod625 hs, mod625 ht, hRA5.1]
          refine ⟨xin_n (by omega) (by omega), by decide, by decide, s_made (by omega) rfl (by omega) rfl (mod_lt625 _) rfl (mod_lt625 _) hRk hRA5 (fun A6 h14' => ?_)⟩
          unfold mkS at hmk
          cases hk' : mkK R.2.2.2.1 (s % 625) (t % 625) with
          | none => rw [hk'] at hmk; cases hmk
          | some kk =>
            rw [hk'] at hmk
            have hmk' : some (625 * R.1 + kk) = some u := hmk
            have hu : u = 625 * R.1 + kk := (Option.some.inj hmk').symm
            have hk625 := mkK_lt (by split <;> omega) hRk.2.2.2.2.1 hk'
            refine fin I5 J5 A6 B5 (nds ++ nds2) kk hnA hu hk625 (by rw [g39, List.length_append, Nat.add_assoc]) g46 (ndA_app (ndA_fr hnd (Nat.le_refl _) (fun p x a b => ?_)) (ndA_fr hnd5 (Nat.le_refl _) (fun p x _ b => by rw [h14' p b]))) ⟨fun p a b => (h14' p a).trans (hf6.1 p a b), fun p x a b => by rw [h14' p b]; exact hf6.2.1 p x a b, hf6.2.2⟩ (fun p hp => ?_)
            · rw [h14' p b, hf5.2.1 p x (by omega) b, hA4 p b]
            · rw [h14' p hp, hf5.2.1 p z (by omega) hp, hA4 p hp]; exact hf3.2.1 p z (by omega) hp
        · have hyn := sL_in z2
          have hcq := hcB.2.2 q z2
          rw [show (64 : Int32) * nI (15 * m + j) + nI q = nI (64 * (15 * m + j) + q) from add_of (mul_of (a := 64) rfl rfl) rfl, cl_n (by omega), hA4 18 (by decide), hcq.1]
          generalize hy : (sL (ch g o ws m j)).getD q 0 = y at hyn
          have put : ∀ (A5 : Nat → Nat → Int32) (v : Int64), (∀ p, p ≠ 14 → A5 p = A3 p) → (y / 625 = c2 → v = lN (wO w (mkS R s y))) → xG l d 169 Q 515 [some (.ref 0), none, some (.int (nI j)), some (.int (nI m)), some (.int (nI r)), some (.int (nI row)), some (.int (nI (15 * i + j))), none, some (.int (nI (15 * m + j))), some (.int (nI (row + 1))), none, none, some (.int (nI z)), some (.int (nI s)), none, some (.int (nI q)), none, none, none] [.long v, .int ((64 : Int32) * nI (row + 1) + nI q), .ref 26] (wM I3 J3 A5 B4) 0 0 := fun A5 v hA5 hv' => by
            refine b_X11_picks_515 ?_
            rw [show (64 : Int32) * nI (row + 1) + nI q = nI (64 * (row + 1) + q) from add_of (mul_of (a := 64) rfl rfl) rfl, cl_n (by omega), nI_1]
            refine ⟨xin_n (by omega) (by omega), ih (q + 1) A5 _ (by omega) (by omega) hA5 (fun p hp => by rw [un_v hp]; exact hB4 p hp) (fun p hp => by rw [ue_v, un_l (by omega)]; exact hB4r p hp) (fun p hp hc => ?_)⟩
            rw [ue_v]
            by_cases e : p = q
            · subst e; rw [ue_l, hy]; rw [hy] at hc; exact hv' hc
            · rw [un_l (by omega)]; exact hset p (by omega) hc
          refine ⟨xin_n (by omega) (by omega), s_categoryOfM (by omega) rfl hyn.1 (b_X11_picks_437 ⟨xin_n (by omega) (by omega), ?_⟩)⟩
          rw [cl_n (by omega), hRA4.2.2.1, h1, show o2i (some c2) = nI c2 from rfl, if_pos (show (-1 : Int32) = -1 from rfl)]
          refine if_eq rfl rfl (by omega) (by omega) (fun e4 => ⟨by decide, by decide, ?_⟩) (fun e4 => put A4 0 hA4 (fun q => absurd q e4))
          rw [mod625 hs, mod625 hyn.1]
          refine s_made (by omega) rfl (by omega) rfl (mod_lt625 _) rfl (mod_lt625 _) hRk hRA4 (fun A5 h14' => b_X11_picks_465 ?_)
          have hA5 : ∀ p, p ≠ 14 → A5 p = A3 p := fun p hp => (h14' p hp).trans (hA4 p hp)
          cases hk' : mkK R.2.2.2.1 (s % 625) (y % 625) with
          | none =>
            rw [if_pos (show o2i none = -1 from rfl)]
            exact put A5 0 hA5 (fun _ => by unfold mkS; rw [hk']; rfl)
          | some kk =>
            have hk625 := mkK_lt (by split <;> omega) hRk.2.2.2.2.1 hk'
            have hmy : mkS R s y = some (625 * R.1 + kk) := by unfold mkS; rw [hk']; rfl
            have hpr := ch_par hg o ws hmm.1 hmm.2 hRm h1 hsin hscat hyn.2 e4 hmy
            rw [show o2i (some kk) = nI kk from rfl, if_neg (ne_m1 (by omega)), cl_n (by omega), h14' 6 (by decide), hRA4.1, show (625 : Int32) * nI R.1 + nI kk = nI (625 * R.1 + kk) from add_of (mul_of (a := 625) rfl rfl) rfl]
            refine ⟨xin_n (by omega) (by omega), s_weighs (V := ch g o ws i j) (cc := R.1) (w := w) (by omega) rfl (by omega) rfl (by omega) rfl (by omega) ?_ hpr.1 (by omega) (fun p hp hcp => ?_) (put A5 _ hA5 (fun _ => by rw [hmy]; rfl))⟩
            · unfold cM at hcV ⊢
              rw [hA5 17 (by decide), hA5 18 (by decide), hB4 20 (by decide)]; exact hcV
            · rw [hB4r _ (by omega), hf.2.2.2.1 _ (by omega)]; exact hrw p hp hcp
    exact loop _ 0 A3 B3 (Nat.lt_succ_self _) (by omega) (fun _ _ => rfl) (fun _ _ => rfl) (fun _ _ => rfl) (fun p hp => by omega)
end M24
