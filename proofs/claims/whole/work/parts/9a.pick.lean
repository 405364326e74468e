/-! ===== the reference: pick ===== -/
def oE (g : Gram) (w : List Nat) (c e : Nat) : List Opt := (List.range' e (g.1.length - e)).flatMap fun e => if (g.1.getD e dE).2.1 = c then (if (g.1.getD e dE).1 = w then [((-1 - (e : Int)), 0)] else []) else []
def oM (r m j : Nat) : List Opt := (List.range' m (j - m)).flatMap fun m => [((r : Int), m)]
def oR1 (g : Gram) (i j c r : Nat) : List Opt := if (g.2.1.getD r dR).1 = c then (if (g.2.1.getD r dR).2.2.1 = none then [((r : Int), j)] else (mids i j).flatMap fun m => [((r : Int), m)]) else []
def oR (g : Gram) (i j c r : Nat) : List Opt := (List.range' r (g.2.1.length - r)).flatMap (oR1 g i j c)
theorem oE_end {g : Gram} {w : List Nat} {c e : Nat} (h : g.1.length ≤ e) : oE g w c e = [] := by unfold oE; rw [show g.1.length - e = 0 by omega]; rfl
theorem oE_step {g : Gram} {w : List Nat} {c e : Nat} (h : e < g.1.length) : oE g w c e = (if (g.1.getD e dE).2.1 = c then (if (g.1.getD e dE).1 = w then [((-1 - (e : Int)), 0)] else []) else []) ++ oE g w c (e + 1) := by
  unfold oE
  rw [show g.1.length - e = (g.1.length - (e + 1)) + 1 by omega, List.range'_succ, List.flatMap_cons]
theorem oE_0 (g : Gram) (w : List Nat) (c : Nat) : optE g w c = oE g w c 0 := by unfold optE oE; rw [Nat.sub_zero, List.range_eq_range']
theorem oR_end {g : Gram} {i j c r : Nat} (h : g.2.1.length ≤ r) : oR g i j c r = [] := by unfold oR; rw [show g.2.1.length - r = 0 by omega]; rfl
theorem oR_step {g : Gram} {i j c r : Nat} (h : r < g.2.1.length) : oR g i j c r = oR1 g i j c r ++ oR g i j c (r + 1) := by
  unfold oR
  rw [show g.2.1.length - r = (g.2.1.length - (r + 1)) + 1 by omega, List.range'_succ, List.flatMap_cons]
theorem oR_0 (g : Gram) (i j c : Nat) : optR g i j c = oR g i j c 0 := by unfold optR oR; rw [Nat.sub_zero, List.range_eq_range']; rfl
theorem oM_end {r m j : Nat} (h : j ≤ m) : oM r m j = [] := by unfold oM; rw [show j - m = 0 by omega]; rfl
theorem oM_step {r m j : Nat} (h : m < j) : oM r m j = ((r : Int), m) :: oM r (m + 1) j := by
  unfold oM
  rw [show j - m = (j - (m + 1)) + 1 by omega, List.range'_succ, List.flatMap_cons]; rfl
theorem oM_0 (r i j : Nat) : ((mids i j).flatMap fun m => [((r : Int), m)]) = oM r (i + 1) j := by unfold mids oM; rw [show j - 1 - i = j - (i + 1) by omega]
theorem iC_e (e : Nat) : iC (-1 - (e : Int)) = -1 - nI e := by rw [← iC_n, show (-1 : Int32) = iC (-1) by decide +kernel]; exact Int32.ofInt_sub _ _
theorem tri_inj {a a' : Nat} {b b' : Int} {c c' : List Nd} (h : some (a, b, c) = some (a', b', c')) : a = a' ∧ b = b' ∧ c = c' := by
  injection h with h; injection h with h1 h2; injection h2 with h2 h3; exact ⟨h1, h2, h3⟩
theorem pk_subE {g : Gram} (hg : gOk g) (h40 : g.1.length ≤ 40) (h30 : g.2.1.length ≤ 30) {o : Own} {ws : List (List Nat)} {f i j c : Nat} {w : Nat → Nat} {n dep s n' : Nat} {nds : List Nd} (hpre : preN g o ws (f + 1) i j c w n) (hpk : pkN g o ws (f + 1) i j c w n dep = some (s, ((n' : Nat) : Int), nds)) {e k : Nat} (hch : chM' (vNn g o ws w i j) (optL g ws i j c) n = some (((-1 - (e : Int)), 0), k)) : s = eSg (g.1.getD e dE) ∧ n' = k ∧ nds = [(eSg (g.1.getD e dE), i, j, (-1 - (e : Int)), dep)] := by
  obtain ⟨op, n1, h1, h2⟩ := pkN_step hg h40 h30 dep hpre
  rw [hch] at h1
  injection h1 with h1
  injection h1 with h1 h3
  subst h1; subst h3
  rcases h2 with ⟨e', _, he, _, _, hq⟩ | ⟨r, _, he, _⟩
  · have he1 : (-1 - (e : Int)) = (-1 - (e' : Int)) := congrArg Prod.fst he
    have he2 : e' = e := by omega
    subst he2
    rw [hpk] at hq
    obtain ⟨q1, q2, q3⟩ := tri_inj hq
    exact ⟨q1, by omega, q3⟩
  · have he1 : (-1 - (e : Int)) = (r : Int) := he
    omega
theorem pk_subR {g : Gram} (hg : gOk g) (h40 : g.1.length ≤ 40) (h30 : g.2.1.length ≤ 30) {o : Own} {ws : List (List Nat)} {f i j c : Nat} {w : Nat → Nat} {n dep s n' : Nat} {nds : List Nd} (hpre : preN g o ws (f + 1) i j c w n) (hpk : pkN g o ws (f + 1) i j c w n dep = some (s, ((n' : Nat) : Int), nds)) {r m k : Nat} {R : Rule} (hR : g.2.1.getD r dR = R) (hch : chM' (vNn g o ws w i j) (optL g ws i j c) n = some (((r : Int), m), k)) : (∃ s1 nds1, R.2.2.1 = none ∧ preN g o ws f i j R.2.1 (fun x => sat (fT R (ch g o ws j j) w x)) k ∧ pkN g o ws f i j R.2.1 (fun x => sat (fT R (ch g o ws j j) w x)) k (dep + 1) = some (s1, ((n' : Nat) : Int), nds1) ∧ s1 < 10000 ∧ mkS R s1 0 = some s ∧ nds = (s, i, j, (r : Int), dep) :: nds1) ∨ (∃ c2 s1 n2 nds1 t nds2, R.2.2.1 = some c2 ∧ preN g o ws f i m R.2.1 (fun x => sat (fT R (ch g o ws m j) w x)) k ∧ pkN g o ws f i m R.2.1 (fun x => sat (fT R (ch g o ws m j) w x)) k (dep + 1) = some (s1, ((n2 : Nat) : Int), nds1) ∧ s1 < 10000 ∧ (ch g o ws i m s1).isSome = true ∧ s1 / 625 = R.2.1 ∧ preN g o ws f m j c2 (fun y => wO w (mkS R s1 y)) n2 ∧ pkN g o ws f m j c2 (fun y => wO w (mkS R s1 y)) n2 (dep + 1) = some (t, ((n' : Nat) : Int), nds2) ∧ t < 10000 ∧ mkS R s1 t = some s ∧ nds = (s, i, j, (r : Int), dep) :: (nds1 ++ nds2)) := by
  obtain ⟨op, n1, h1, h2⟩ := pkN_step hg h40 h30 dep hpre
  rw [hch] at h1
  injection h1 with h1
  injection h1 with h1 h3
  subst h1; subst h3
  rcases h2 with ⟨e', _, he, _⟩ | ⟨r', hr', he, hc', h4⟩
  · have he1 : (r : Int) = (-1 - (e' : Int)) := congrArg Prod.fst he
    omega
  · have he1 : (r : Int) = (r' : Int) := he
    have he2 : r' = r := by omega
    subst he2
    rw [hR] at h4
    rcases h4 with ⟨s1, n2, nds1, u, k1, k2, k3, k4, k5, k6, k7⟩ | ⟨c2, s1, n2, nds1, t, n3, nds2, u, k1, k2, k3, k4, k5, k6, k7, k8, k9, k10, k11⟩
    · left
      rw [hpk] at k7
      obtain ⟨q1, q2, q3⟩ := tri_inj k7
      have q2' : n2 = n' := by omega
      subst q2'; subst q1
      exact ⟨s1, nds1, k1, k3, k4, k5, k6, q3⟩
    · right
      rw [hpk] at k11
      obtain ⟨q1, q2, q3⟩ := tri_inj k11
      have q2' : n3 = n' := by omega
      subst q2'; subst q1
      obtain ⟨s', n'', nds', z1, z2⟩ := pkN_res hg h40 h30 (dep + 1) k4
      have k5' := k5
      rw [z1] at k5'
      obtain ⟨y1, y2, y3⟩ := tri_inj k5'
      subst y1
      exact ⟨c2, s', n2, nds1, t, nds2, k1, k4, k5, k6, z2.1, z2.2.1, k7, k8, k9, k10, q3⟩
section M25
variable {l : Launch} {g : Gram} {o : Own} {ws : List (List Nat)}
set_option maxHeartbeats 2000000 in
theorem s_pick : ∀ f d, 2 * f + 8 ≤ d → PKc l g o ws d f := by
  intro f
  induction f with
  | zero =>
    intro d hd Q I J A B x1 x2 x3 x4 i j c w n row z s n' nds h1 h2 h3 h4 hj hpre
    have := hpre.2.2.1
    omega
  | succ f ih =>
    intro d hd Q I J A B x1 x2 x3 x4 i j c w n row z s n' nds h1 h2 h3 h4 hj hpre hpk hrow hz hsP hrw h46 h39 hQ
    obtain ⟨d, rfl⟩ : ∃ e, d = e + 2 := ⟨d - 2, by omega⟩
    have ihp := ih d (by omega)
    subst h1; subst h2; subst h3; subst h4
    have hsP0 := hsP
    obtain ⟨hg, h22, h23, hes, hrs, h14, hsd, hch⟩ := hsP
    have h40 := hes.1
    have h30 := hrs.1
    have hij := hpre.1
    have hc16 := hpre.2.1
    have hw := hpre.2.2.2.1
    have hn15 := hpre.2.2.2.2
    have hn15' := sat_le (cS (ch g o ws i j) c w)
    have hsubE := fun {e k : Nat} => pk_subE (e := e) (k := k) hg h40 h30 hpre hpk
    have hsubR := fun {r m k : Nat} {R : Rule} => pk_subR (r := r) (m := m) (k := k) (R := R) hg h40 h30 hpre hpk
    have hcV := hch i j hij hj
    have lV := hcV.1
    -- what is left to choose from leads to the same choice
    generalize hGo : chM' (vNn g o ws w i j) (optL g ws i j c) n = G at hsubE hsubR
    have hGsome : G ≠ none := by
      obtain ⟨op, n1, q1, _⟩ := pkN_step hg h40 h30 row hpre
      rw [← hGo, q1]; intro q; cases q
    have rules : ∀ m r k (J1 : Nat → Int64) (A1 : Nat → Nat → Int32) (B1 : Nat → Nat → Int64), g.2.1.length - r < m → r ≤ g.2.1.length → k ≤ n → J1 46 = lN k → fP row z I J A B I J1 A1 B1 → chM' (vNn g o ws w i j) (oR g i j c r) k = G → xG l (d + 1) 168 Q 140 [some (.ref 0), some (.int (nI i)), some (.int (nI j)), some (.int (nI c)), some (.int (nI row)), none, some (.int (nI r)), none, none, none] [] (wM I J1 A1 B1) 0 0 := by
      intro m
      induction m with
      | zero => intro r k J1 A1 B1 hm; omega
      | succ m ihm =>
        intro r k J1 A1 B1 hm hr hk hJ1 hf hG
        refine b_X11_pick_140 (if_le h23 rfl (by omega) (by omega) (fun z1 => ?_) (fun z1 => ?_))
        · rw [oR_end z1] at hG; exact absurd hG.symm hGsome
        · have hRA : rulAt A r (g.2.1.getD r dR) := by have := (hrs.2 r z1).2; rwa [Nat.zero_add] at this
          have hRk := (hrs.2 r z1).1
          have hra : ∀ {A2 : Nat → Nat → Int32}, (∀ p, p ≠ 14 → (p < 21 ∨ 25 < p) → A2 p = A p) → rulAt A2 r (g.2.1.getD r dR) := fun hA' => rulAt_fr hRA (fun p a b => hA' p (by omega) (by omega))
          rw [oR_step z1] at hG
          unfold oR1 at hG
          generalize hRe : g.2.1.getD r dR = R at hRA hRk hra hG
          have hvN : ∀ mm, vNn g o ws w i j ((r : Int), mm) = sat (vT R (ch g o ws i mm) (ch g o ws mm j) w) := fun mm => by
            unfold vNn tO
            rw [if_neg (show ¬ (r : Int) < 0 by omega), show ((r : Int), mm).1.toNat = r from by show ((r : Int)).toNat = r; omega, hRe]
          have hRA1 := hra hf.1
          have hRA10 := hRA1.1
          have hRA12 := hRA1.2.2.1
          have hRc := hRk.1
          rw [cl_n (by omega), hRA10, hRA12]
          have next : ∀ k (J2 : Nat → Int64) (A2 : Nat → Nat → Int32) (B2 : Nat → Nat → Int64), k ≤ n → J2 46 = lN k → fP row z I J A B I J2 A2 B2 → chM' (vNn g o ws w i j) (oR g i j c (r + 1)) k = G → xG l (d + 1) 168 Q 140 [some (.ref 0), some (.int (nI i)), some (.int (nI j)), some (.int (nI c)), some (.int (nI row)), none, some (.int (nI r + 1)), none, none, none] [] (wM I J2 A2 B2) 0 0 := fun k J2 A2 B2 hk hJ2 hf2 hG2 => by
            rw [nI_1]; exact ihm (r + 1) k J2 A2 B2 (by omega) (by omega) hk hJ2 hf2 hG2
          have one : ∀ mm k (J2 : Nat → Int64) (A2 : Nat → Nat → Int32) (B2 : Nat → Nat → Int64) (L : List Opt), R.1 = c → ((R.2.2.1 = none ∧ mm = j) ∨ (R.2.2.1 ≠ none ∧ i < mm ∧ mm < j)) → k ≤ n → J2 46 = lN k → fP row z I J A B I J2 A2 B2 → chM' (vNn g o ws w i j) (((r : Int), mm) :: L) k = G → (∀ k (J3 : Nat → Int64) (A3 : Nat → Nat → Int32) (B3 : Nat → Nat → Int64), k ≤ n → J3 46 = lN k → fP row z I J A B I J3 A3 B3 → chM' (vNn g o ws w i j) L k = G → xG l (d + 1) 168 Q 183 [some (.ref 0), some (.int (nI i)), some (.int (nI j)), some (.int (nI c)), some (.int (nI row)), none, some (.int (nI r)), some (.int (nI mm + 1)), none, none] [] (wM I J3 A3 B3) 0 0) → xK l (d + 1) 169 [.ref 0, .int (nI i), .int (nI j), .int (nI mm), .int (nI r), .int (nI row)] (wM I J2 A2 B2) (fun v9 w9 => xG l (d + 1) 168 Q 218 [some (.ref 0), some (.int (nI i)), some (.int (nI j)), some (.int (nI c)), some (.int (nI row)), none, some (.int (nI r)), some (.int (nI mm)), none, none] (v9.toList ++ []) w9 0 0) := by
            intro mm k J2 A2 B2 L hcc hmm hk hJ2 hf2 hG2 cont
            have hsP2 := sP_fr hsP0 hf2.2.2.2.2.1 hf2.1 hf2.2.2.1
            have hG3 : (if k < vNn g o ws w i j ((r : Int), mm) then some (((r : Int), mm), k) else chM' (vNn g o ws w i j) L (k - vNn g o ws w i j ((r : Int), mm))) = G := hG2
            rw [hvN mm] at hG3
            refine s_picks (n := k) (f := f) (w := w) (R := R) (u := s) (n3 := n') (nA := nds) (by omega) rfl rfl rfl rfl rfl ihp hsP2 z1 hRe hij hj hmm hw (by rw [hcc]; exact hrow) (fun q hq hcq => by rw [hf2.2.2.2.1 _ (by omega)]; exact hrw q hq (hcq.trans hcc)) hJ2 (by omega) h39 hz (fun hlt => ?_) (fun hge J3 A3 B3 hJ3 hf3 => b_X11_pick_218 ?_) (fun hlt I3 J3 A3 B3 e39 e47 e46 hnd hf3 => b_X11_pick_218 ?_)
            · rw [if_pos hlt] at hG3
              exact hsubR hRe hG3.symm
            · rw [if_pos rfl]
              rw [if_neg (by omega)] at hG3
              exact cont _ J3 A3 B3 (by omega) hJ3 (fP_trans hf2 hf3 (Nat.le_refl _) (Nat.le_refl _)) hG3
            · rw [if_neg (by decide)]
              exact hQ I3 J3 A3 B3 e39 e47 e46 hnd (fP_trans hf2 hf3 (Nat.le_refl _) (Nat.le_refl _))
          refine ⟨xin_n (by omega) (by omega), if_eq rfl rfl (by omega) (by omega) (fun e => ⟨xin_n (by omega) (by omega), if_if (o2i_iff hRk.2.2.1) (fun e2 => ?_) (fun e2 => ?_)⟩) (fun e => ?_)⟩
          · -- of one part
            rw [if_pos e, if_pos e2] at hG
            refine b_X11_pick_183 ⟨xin_n (by omega) (by omega), ?_⟩
            rw [cl_n (by omega), hRA12, e2, if_pos (show o2i none = -1 from rfl), nI_1]
            refine if_le rfl rfl (by omega) (by omega) (fun q => absurd q (by omega)) (fun _ => one j k J1 A1 B1 _ e (Or.inl ⟨e2, rfl⟩) hk hJ1 hf hG (fun k3 J3 A3 B3 hk3 hJ3 hf3 hG3 => b_X11_pick_183 ⟨xin_n (by omega) (by omega), ?_⟩))
            rw [cl_n (by omega), (hra hf3.1).2.2.1, e2, if_pos (show o2i none = -1 from rfl), nI_1]
            exact if_le rfl rfl (by omega) (by omega) (fun _ => next k3 J3 A3 B3 hk3 hJ3 hf3 hG3) (fun q => absurd q (by omega))
          · -- of two parts
            rw [if_pos e, if_neg e2, oM_0] at hG
            obtain ⟨c2, hc2⟩ : ∃ c2, R.2.2.1 = some c2 := by
              cases q : R.2.2.1 with
              | none => exact absurd q e2
              | some c2 => exact ⟨c2, rfl⟩
            have hc216 := hRk.2.2.1 c2 hc2
            have splits : ∀ p mm k (J2 : Nat → Int64) (A2 : Nat → Nat → Int32) (B2 : Nat → Nat → Int64), j - mm < p → i < mm → mm ≤ j → k ≤ n → J2 46 = lN k → fP row z I J A B I J2 A2 B2 → chM' (vNn g o ws w i j) (oM r mm j ++ oR g i j c (r + 1)) k = G → xG l (d + 1) 168 Q 183 [some (.ref 0), some (.int (nI i)), some (.int (nI j)), some (.int (nI c)), some (.int (nI row)), none, some (.int (nI r)), some (.int (nI mm)), none, none] [] (wM I J2 A2 B2) 0 0 := by
              intro p
              induction p with
              | zero => intro mm k J2 A2 B2 hp; omega
              | succ p ihp2 =>
                intro mm k J2 A2 B2 hp hmm0 hmm hk2 hJ2 hf2 hG2
                refine b_X11_pick_183 ⟨xin_n (by omega) (by omega), ?_⟩
                rw [cl_n (by omega), (hra hf2.1).2.2.1, hc2, show o2i (some c2) = nI c2 from rfl, if_neg (ne_m1 (by omega))]
                refine if_le rfl rfl (by omega) (by omega) (fun q => ?_) (fun q => ?_)
                · rw [oM_end q, List.nil_append] at hG2
                  exact next k J2 A2 B2 hk2 hJ2 hf2 hG2
                · rw [oM_step q, List.cons_append] at hG2
                  refine one mm k J2 A2 B2 _ e (Or.inr ⟨e2, hmm0, q⟩) hk2 hJ2 hf2 hG2 (fun k3 J3 A3 B3 hk3 hJ3 hf3 hG3 => ?_)
                  rw [nI_1]
                  exact ihp2 (mm + 1) k3 J3 A3 B3 (by omega) (by omega) (by omega) hk3 hJ3 hf3 hG3
            rw [nI_1]
            exact splits _ (i + 1) k J1 A1 B1 (Nat.lt_succ_self _) (by omega) (by omega) hk hJ1 hf hG
          · rw [if_neg e, List.nil_append] at hG
            exact next k J1 A1 B1 hk hJ1 hf hG
    have f0 : fP row z I J A B I J A B := ⟨fun _ _ _ => rfl, fun _ _ _ _ => rfl, fun _ _ => rfl, fun _ _ => rfl, fun _ _ _ => rfl, fun _ _ => rfl⟩
    have ents : ∀ m e k (J1 : Nat → Int64), g.1.length - e < m → e ≤ g.1.length → k ≤ n → J1 46 = lN k → (∀ i, i ≠ 46 → J1 i = J i) → (j ≠ i + 1 → e = 0) → chM' (vNn g o ws w i j) ((if j = i + 1 then oE g (ws.getD i []) c e else []) ++ oR g i j c 0) k = G → xG l (d + 1) 168 Q 10 [some (.ref 0), some (.int (nI i)), some (.int (nI j)), some (.int (nI c)), some (.int (nI row)), some (.int (nI (15 * i + j))), some (.int (nI e)), none, none, none] [] (wM I J1 A B) 0 0 := by
      intro m
      induction m with
      | zero => intro e k J1 hm; omega
      | succ m ihm =>
        intro e k J1 hm he hk hJ1 hJo hne hG
        have f1 : fP row z I J A B I J1 A B := ⟨fun _ _ _ => rfl, fun _ _ _ _ => rfl, fun _ _ => rfl, fun _ _ => rfl, fun _ _ _ => rfl, hJo⟩
        refine b_X11_pick_10 (if_le h22 rfl (by omega) (by omega) (fun z1 => ?_) (fun z1 => if_eq (b := i + 1) rfl (nI_1 i) (by omega) (by omega) (fun q => ?_) (fun q => ?_)))
        · refine rules _ 0 k J1 A B (Nat.lt_succ_self _) (by omega) hk hJ1 f1 ?_
          rw [oE_end z1] at hG
          rw [show (if j = i + 1 then ([] : List Opt) else []) = [] by split <;> rfl] at hG
          exact hG
        · rw [if_pos q] at hG
          have hE1 := (hes.2 e z1).1
          have hEA : entAt A B e (g.1.getD e dE) := by have := (hes.2 e z1).2; rwa [Nat.zero_add] at this
          have hin : Imp ((g.1.getD e dE).1 = ws.getD i []) ((ch g o ws i j (eSg (g.1.getD e dE))).isSome = true) := fun hwd => by rw [q]; exact ch_ent hg o ws z1 hwd
          have hsE := fun k => hsubE (e := e) (k := k)
          have hvE : vNn g o ws w i j ((-1 - (e : Int)), 0) = w (eSg (g.1.getD e dE)) := by
            unfold vNn tO
            rw [if_pos (show (-1 - (e : Int)) < 0 by omega), opE_e, sat_id (hw _)]
          rw [oE_step z1] at hG
          generalize g.1.getD e dE = E at hE1 hEA hin hsE hvE hG
          have next : ∀ k (J2 : Nat → Int64), k ≤ n → J2 46 = lN k → (∀ i, i ≠ 46 → J2 i = J i) → chM' (vNn g o ws w i j) (oE g (ws.getD i []) c (e + 1) ++ oR g i j c 0) k = G → xG l (d + 1) 168 Q 10 [some (.ref 0), some (.int (nI i)), some (.int (nI j)), some (.int (nI c)), some (.int (nI row)), some (.int (nI (15 * i + j))), some (.int (nI e + 1)), none, none, none] [] (wM I J2 A B) 0 0 := fun k J2 hk hJ2 hJo2 hG2 => by
            rw [nI_1]; exact ihm (e + 1) k J2 (by omega) (by omega) hk hJ2 hJo2 (fun hh => absurd q hh) (by rw [if_pos q]; exact hG2)
          have l1 := hE1.2.1
          have l2 := hE1.2.2
          have hwi := (hsd i (by omega)).1
          have hsaid := (hsd i (by omega)).2
          generalize hwd : ws.getD i [] = wd at hwi hsaid hin hG next
          rw [cl_n (by omega), cl_n (by omega), hEA.2.1, hEA.2.2]
          refine ⟨xin_n (by omega) (by omega), if_eq rfl rfl (by omega) (by omega) (fun e1 => ⟨xin_n (by omega) (by omega), xin_n (by omega) (by omega), if_if (show lg_cmp (B 2 e) (B 15 i) = 0 ↔ E.1 = wd from lg0.trans (by rw [hEA.1, hsaid]; exact nm_eq hE1.1 hwi)) (fun e2 => ⟨xin_n (by omega) (by omega), ?_⟩) (fun e2 => ?_)⟩) (fun e1 => ?_)⟩
          · rw [if_pos e1, if_pos e2, List.singleton_append, List.cons_append] at hG
            have hsg : eSg E < 10000 := by unfold eSg; omega
            have hsc : eSg E / 625 = c := by unfold eSg; omega
            have hG3 : (if k < vNn g o ws w i j ((-1 - (e : Int)), 0) then some (((-1 - (e : Int)), 0), k) else chM' (vNn g o ws w i j) (oE g wd c (e + 1) ++ oR g i j c 0) (k - vNn g o ws w i j ((-1 - (e : Int)), 0))) = G := hG
            rw [hvE] at hG3
            have hwb := hw (eSg E)
            rw [show (625 : Int32) * nI c + nI E.2.2 = nI (eSg E) by rw [← e1]; exact add_of (mul_of (a := 625) rfl rfl) rfl]
            refine s_weighs (V := ch g o ws i j) (cc := c) (w := w) (by omega) rfl (by omega) rfl (by omega) rfl hsg hcV (hin e2) hsc hrw (b_X11_pick_82 (if_if (show (0 : Int32) ≤ lg_cmp (J1 46) (lN (w (eSg E))) ↔ w (eSg E) ≤ k from lg_ge.trans (by rw [hJ1]; exact ln_le (by omega) (by omega))) (fun q2 => ?_) (fun q2 => ?_)))
            · rw [if_neg (by omega)] at hG3
              exact next _ _ (by omega) (by rw [ue_v, hJ1, ln_sub q2 (by omega)]) (fun i hi => (un_v hi).trans (hJo i hi)) hG3
            · rw [if_pos (by omega)] at hG3
              obtain ⟨r1, r2, r3⟩ := hsE k hG3.symm
              have hl1 : nds.length = 1 := by rw [r3]; rfl
              refine s_nodeM (by omega) h39 (by omega) (b_X11_pick_110 ⟨xin_n (by omega) (by omega), ?_⟩)
              rw [cl_n (by omega)]
              refine hQ _ J1 _ B ?_ ?_ (by rw [r2]; exact hJ1) ?_ ⟨fun p a b => ?_, fun p x a b => ?_, fun _ _ => rfl, fun _ _ => rfl, fun x a b => ?_, hJo⟩
              · rw [un_i (by decide), ue_i, hl1]
              · rw [ue_i, r1]
              · rw [r3]
                intro x hx
                have hx0 : x = 0 := by rw [List.length_singleton] at hx; omega
                subst hx0
                refine ⟨?_, ?_, ?_, ?_, ?_⟩
                · rw [ue_v]; exact ue_i _ _ _
                · rw [un_v (by decide), un_v (by decide), un_v (by decide), un_v (by decide), ue_v]; exact ue_i _ _ _
                · rw [un_v (by decide), un_v (by decide), un_v (by decide), ue_v]; exact ue_i _ _ _
                · rw [un_v (by decide), un_v (by decide), ue_v]
                  show upd _ z _ z = _
                  rw [ue_i]; exact (iC_e e).symm
                · rw [un_v (by decide), ue_v]; exact ue_i _ _ _
              · rw [un_v (by omega), un_v (by omega), un_v (by omega), un_v (by omega), un_v (by omega)]
              · by_cases c1 : p = 21
                · subst c1; rw [ue_v, un_i (by omega), un_v (by decide), un_v (by decide), un_v (by decide), un_v (by decide)]
                · rw [un_v c1]
                  by_cases c2 : p = 25
                  · subst c2; rw [ue_v, un_i (by omega)]
                  · rw [un_v c2]
                    by_cases c3 : p = 24
                    · subst c3; rw [ue_v, un_i (by omega)]
                    · rw [un_v c3]
                      by_cases c4 : p = 23
                      · subst c4; rw [ue_v, un_i (by omega)]
                      · rw [un_v c4]
                        by_cases c5 : p = 22
                        · subst c5; rw [ue_v, un_i (by omega)]
                        · rw [un_v c5]
              · rw [un_i b, un_i a]
          · rw [if_pos e1, if_neg e2, List.nil_append] at hG
            exact next k J1 hk hJ1 hJo hG
          · rw [if_neg e1, List.nil_append] at hG
            exact next k J1 hk hJ1 hJo hG
        · refine rules _ 0 k J1 A B (Nat.lt_succ_self _) (by omega) hk hJ1 f1 ?_
          rw [if_neg q] at hG; exact hG
    refine e_X11_pick (s_cell (by omega) rfl rfl (b_X11_pick_5 ?_))
    refine ents _ 0 n J (Nat.lt_succ_self _) (by omega) (Nat.le_refl _) h46 (fun _ _ => rfl) (fun _ => rfl) ?_
    rw [← hGo]
    unfold optL
    rw [oE_0, oR_0]
end M25
