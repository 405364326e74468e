/-! ===== the reference: costs ===== -/
def dc : Vl → Int
  | none => 1000000
  | some v => v.2
def kM (A : Nat → Nat → Int32) (c : Nat) (V W : Nat → Vl) : Prop := ∀ k, k < (sL V).length → A 19 (64 * c + k) = iC (dc (W ((sL V).getD k 0)))
def kcM (c : Nat) (A A' : Nat → Nat → Int32) : Prop := (∀ p, p ≠ 14 → p ≠ 19 → A' p = A p) ∧ (∀ i, i < 64 * c ∨ 64 * c + 64 ≤ i → A' 19 i = A 19 i)
theorem kcM_refl (c : Nat) (A : Nat → Nat → Int32) : kcM c A A := ⟨fun _ _ _ => rfl, fun _ _ => rfl⟩
theorem kcM_trans {c : Nat} {A A1 A2 : Nat → Nat → Int32} (h : kcM c A A1) (k : kcM c A1 A2) : kcM c A A2 := ⟨fun p a b => (k.1 p a b).trans (h.1 p a b), fun i a => (k.2 i a).trans (h.2 i a)⟩
theorem kcM_14 {c : Nat} {A A1 : Nat → Nat → Int32} (h : ∀ p, p ≠ 14 → A1 p = A p) : kcM c A A1 := ⟨fun p a _ => h p a, fun i _ => by rw [h 19 (by decide)]⟩
theorem cM_k {c c' : Nat} {A A1 : Nat → Nat → Int32} {B : Nat → Nat → Int64} {V : Nat → Vl} (h : cM A B c' V) (f : kcM c A A1) : cM A1 B c' V := by
  unfold cM at h ⊢
  rw [f.1 17 (by decide) (by decide), f.1 18 (by decide) (by decide)]; exact h
theorem kM_fr {c c' : Nat} {A A1 : Nat → Nat → Int32} {V W : Nat → Vl} (h : kM A c' V W) (f : kcM c A A1) (hc : c' ≠ c) (h60 : (sL V).length ≤ 60) : kM A1 c' V W := fun k hk => by rw [f.2 _ (by omega)]; exact h k hk
theorem kM_14 {c : Nat} {A A1 : Nat → Nat → Int32} {V W : Nat → Vl} (h : kM A c V W) (f : ∀ p, p ≠ 14 → A1 p = A p) : kM A1 c V W := fun k hk => by rw [f 19 (by decide)]; exact h k hk
theorem dc_b {W : Nat → Vl} (h : bV W) (s : Nat) : -100000 ≤ dc (W s) ∧ dc (W s) ≤ 1000000 := by
  cases hv : W s with
  | none => exact ⟨by show -100000 ≤ (1000000 : Int); omega, Int.le_refl _⟩
  | some v => have := h s v hv; exact ⟨this.1, by show v.2 ≤ 1000000; omega⟩
theorem iC_le {a b : Int} (h1 : -2000000000 ≤ a) (h2 : a ≤ 2000000000) (h3 : -2000000000 ≤ b) (h4 : b ≤ 2000000000) : iC a ≤ iC b ↔ a ≤ b := by rw [Int32.le_iff_toInt_le, iC_i h1 h2, iC_i h3 h4]
section M21
variable {l : Launch} {J : Nat → Int64} {A : Nat → Nat → Int32} {B : Nat → Nat → Int64} {Q : Option Value → XW → Prop} {d : Nat} {I : Nat → Int32}
theorem s_lowers (hd : 2 ≤ d) {x y z : Int32} {c s n : Nat} {v : Int} {V W : Nat → Vl} (hx : x = nI c) (hc : c < 225) (hy : y = nI s) (hs : s < 10000) (hz : z = iC v) (hv1 : -100000 ≤ v) (hv2 : v ≤ 100000) (hV : cM A B c V) (hin : (V s).isSome = true) (hW : bV W) (hk : kM A c V W)
    (hQ : ∀ A' : Nat → Nat → Int32, kM A' c V (apv W [(s, n, v)]) → kcM c A A' → Q none (wM I J A' B)) : xK l d 177 [.ref 0, .int x, .int y, .int z] (wM I J A B) Q := by
  obtain ⟨d, rfl⟩ : ∃ e, d = e + 1 := ⟨d - 1, by omega⟩
  subst hx; subst hy; subst hz
  have h60 := hV.1
  have hone : apv W [(s, n, v)] = va_up W s (vA (W s) (some (n, v))) := apv_one W (s, n, v)
  rw [hone] at hQ
  have hat := sL_at hs hin
  have hb := dc_b hW s
  refine e_X11_lowers (s_find (V := V) (by omega) rfl hc rfl hs h60 hV.2.1 (fun k hk => (hV.2.2 k hk).1) (fun hn => by rw [hn] at hin; cases hin) (fun _ _ => b_X11_lowers_6 ?_))
  have hix := hk _ hat.1
  rw [hat.2] at hix
  rw [show (64 : Int32) * nI c + nI (ix V s) = nI (64 * c + ix V s) from add_of (mul_of (a := 64) rfl rfl) rfl, cl_n (by omega), hix]
  have hne : ∀ k, k < (sL V).length → k ≠ ix V s → (sL V).getD k 0 ≠ s := fun k hk' e q => e (by have := ix_at hk'; rw [q] at this; exact this.symm)
  refine ⟨xin_n (by omega) (by omega), if_if (iC_le (by omega) (by omega) (by omega) (by omega)) (fun q => hQ A (fun k hk' => ?_) (kcM_refl c A)) (fun q => ⟨xin_n (by omega) (by omega), hQ _ (fun k hk' => ?_) ⟨fun p _ b => un_v b, fun i hi => by rw [ue_v, un_i (by omega)]⟩⟩)⟩
  · by_cases e : k = ix V s
    · subst e
      rw [hix, hat.2, ue_v]
      congr 1
      cases hw : W s with
      | none => rw [hw] at q; exact absurd q (by show ¬ (1000000 : Int) ≤ v; omega)
      | some w =>
        rw [hw] at q
        have q' : w.2 ≤ v := q
        show w.2 = min w.2 v
        omega
    · rw [un_v (hne k hk' e)]; exact hk k hk'
  · rw [ue_v]
    by_cases e : k = ix V s
    · subst e
      rw [ue_i, hat.2, ue_v]
      congr 1
      cases hw : W s with
      | none => rfl
      | some w =>
        rw [hw] at q
        have q' : ¬ w.2 ≤ v := q
        show v = min w.2 v
        omega
    · rw [un_i (by omega), un_v (hne k hk' e)]; exact hk k hk'
set_option maxHeartbeats 2000000 in
theorem s_costs (hd : 5 ≤ d) {x1 x2 x3 : Int32} {i j cc : Nat} {g : Gram} {D : List (Nat × Nat × Nat)} {ws : List (List Nat)} {T : Nat → Nat → Nat → Vl} {V W : Nat → Vl} (hx1 : x1 = nI i) (hx2 : x2 = nI j) (hx3 : x3 = nI cc) (hij : i < j) (hj : j ≤ 14) (hcc : cc < 16)
    (h22 : I 22 = nI g.1.length) (h23 : I 23 = nI g.2.1.length) (hes : entsM A B 0 g.1) (hrs : rulsM A 0 g.2.1) (hw : vNm (ws.getD i [])) (hsaid : B 15 i = lN (c27 (ws.getD i []))) (hD : mDr I A D) (h40 : D.length ≤ 40) (hDb : ∀ p ∈ D, p.1 < 100000 ∧ p.2.1 < 100000 ∧ p.2.2 < 100000)
    (hT : ∀ m, i < m → m < j → (cM A B (15 * i + m) (T i m) ∧ kM A (15 * i + m) (T i m) (T i m)) ∧ (cM A B (15 * m + j) (T m j) ∧ kM A (15 * m + j) (T m j) (T m j))) (hV : cM A B (15 * i + j) V) (hbW : bV W) (hk : kM A (15 * i + j) V W)
    (hnl : ∀ R ∈ g.2.1, R.2.2.1 = none → R.1 = cc → R.2.1 ≠ cc ∧ ∀ s, s / 625 = R.2.1 → W s = V s)
    (hops : ∀ p ∈ fOps g (oD D) ws T i j cc W, (V p.1).isSome = true ∧ -100000 ≤ p.2.2 ∧ p.2.2 ≤ 100000)
    (hQ : ∀ (A' : Nat → Nat → Int32), kM A' (15 * i + j) V (apv W (fOps g (oD D) ws T i j cc W)) → kcM (15 * i + j) A A' → Q none (wM I J A' B)) : xK l d 178 [.ref 0, .int x1, .int x2, .int x3] (wM I J A B) Q := by
  obtain ⟨d, rfl⟩ : ∃ e, d = e + 1 := ⟨d - 1, by omega⟩
  subst hx1; subst hx2; subst hx3
  have h40e := hes.1
  have h30 := hrs.1
  have l60 := hV.1
  have okes : ∀ E ∈ g.1, okE E := fun E hE => by obtain ⟨e, he, q⟩ := mem_getD hE dE; rw [← q]; exact (hes.2 e he).1
  generalize hw' : ws.getD i [] = w at hw hsaid
  have hfo : fOps g (oD D) ws T i j cc W = eO g.1 (oD D) w i j cc ++ g.2.1.flatMap (rF (oD D) T i j cc W) := by unfold fOps; rw [hw']
  rw [hfo] at hQ hops
  generalize hEO : eO g.1 (oD D) w i j cc = EO at hQ hops
  have oEO : ∀ p ∈ EO, p.1 < 10000 ∧ p.1 / 625 = cc := fun p hp => eO_in okes (by rw [hEO]; exact hp)
  generalize hc : 15 * i + j = c at hV hk hQ
  have hc225 : c < 225 := by omega
  have hown : oD D cc i j = oD D cc i j := rfl
  have bVd : ∀ {L : List Op}, (∀ p ∈ L, p ∈ EO ++ g.2.1.flatMap (rF (oD D) T i j cc W)) → bV (apv W L) := fun hL => bV_apv hbW (fun p hp => (hops p (hL p hp)).2)
  have rules : ∀ m r (A1 : Nat → Nat → Int32), g.2.1.length - r < m → r ≤ g.2.1.length → kM A1 c V (apv W (EO ++ (g.2.1.take r).flatMap (rF (oD D) T i j cc W))) → kcM c A A1 → xG l d 178 Q 93 [some (.ref 0), some (.int (nI i)), some (.int (nI j)), some (.int (nI cc)), some (.int (nI c)), some (.int (iC (oD D cc i j))), some (.int (nI r)), none, none, none, none, none, none, none, none] [] (wM I J A1 B) 0 0 := by
    intro m
    induction m with
    | zero => intro r A1 hm; omega
    | succ m ih =>
      intro r A1 hm hr hcm hfr
      have next : ∀ (A2 : Nat → Nat → Int32), r < g.2.1.length → kM A2 c V (apv W (EO ++ (g.2.1.take (r + 1)).flatMap (rF (oD D) T i j cc W))) → kcM c A A2 → xG l d 178 Q 93 [some (.ref 0), some (.int (nI i)), some (.int (nI j)), some (.int (nI cc)), some (.int (nI c)), some (.int (iC (oD D cc i j))), some (.int (nI r + 1)), none, none, none, none, none, none, none, none] [] (wM I J A2 B) 0 0 := by
        intro A2 h1 k1 k2
        rw [nI_1]
        exact ih (r + 1) A2 (by omega) (by omega) k1 k2
      refine b_X11_costs_93 (if_le h23 rfl (by omega) (by omega) (fun z => hQ A1 ?_ hfr) (fun z => ?_))
      · rw [List.take_of_length_le z] at hcm; exact hcm
      · have hR := (hrs.2 r z).1
        have hmem := getD_mem z dR
        have hRA : rulAt A r (g.2.1.getD r dR) := by have := (hrs.2 r z).2; rwa [Nat.zero_add] at this
        have hsn : (g.2.1.take (r + 1)).flatMap (rF (oD D) T i j cc W) = (g.2.1.take r).flatMap (rF (oD D) T i j cc W) ++ rF (oD D) T i j cc W (g.2.1.getD r dR) := fm_snoc dR z
        have hat : ∀ p ∈ rF (oD D) T i j cc W (g.2.1.getD r dR), p ∈ EO ++ g.2.1.flatMap (rF (oD D) T i j cc W) := fun p hp => List.mem_append.mpr (Or.inr (fm_at dR z hp))
        have hdone : ∀ p ∈ EO ++ (g.2.1.take r).flatMap (rF (oD D) T i j cc W), p ∈ EO ++ g.2.1.flatMap (rF (oD D) T i j cc W) := fun p hp => by
          rcases List.mem_append.mp hp with q | q
          · exact List.mem_append.mpr (Or.inl q)
          · exact List.mem_append.mpr (Or.inr (fm_take q))
        have odone : ∀ p ∈ EO ++ (g.2.1.take r).flatMap (rF (oD D) T i j cc W), p.1 / 625 = cc := fun p hp => by
          rcases List.mem_append.mp hp with q | q
          · exact (oEO p q).2
          · obtain ⟨R, hRm, q⟩ := List.mem_flatMap.mp q
            obtain ⟨e, he, q2⟩ := mem_getD (List.mem_of_mem_take hRm) dR
            exact (rF_in (by rw [← q2]; exact (hrs.2 e he).1) q).2
        have hrA : ∀ {A2 : Nat → Nat → Int32}, kcM c A A2 → rulAt A2 r (g.2.1.getD r dR) := fun f => rulAt_fr hRA (fun p h1 h2 => f.1 p (by omega) (by omega))
        have hnl' := hnl _ hmem
        generalize g.2.1.getD r dR = R at hR hmem hRA hsn hat hrA hnl'
        generalize hDn : EO ++ (g.2.1.take r).flatMap (rF (oD D) T i j cc W) = Dn at hcm hdone odone
        have hRA1 := hrA hfr
        have hf16 := hR.2.1
        have hw16 := hR.1
        rw [cl_n (by omega), hRA1.1, hRA1.2.2.1]
        refine ⟨xin_n (by omega) (by omega), if_eq rfl rfl (by omega) (by omega) (fun e => ⟨xin_n (by omega) (by omega), if_if (o2i_iff hR.2.2.1) (fun e2 => ?_) (fun e2 => ?_)⟩) (fun e => ?_)⟩
        · -- a rule of one part
          obtain ⟨hfc, hWV⟩ := hnl' e2 e
          generalize hF : (fun x : Nat => if x / 625 = R.2.1 then sOp (oD D R.1 i j) R x (V x) else []) = F
          have hrF : rF (oD D) T i j cc W R = (sL V).flatMap F := by
            unfold rF; rw [if_pos e, if_pos e2, sOps_cg hWV, ← hF]; rfl
          have ofl : ∀ p ∈ (sL V).flatMap F, p.1 / 625 = cc := fun p hp => (rF_in (T := T) (i := i) (j := j) (o := oD D) (V := W) hR (by rw [hrF]; exact hp)).2
          have single : ∀ m t (A2 : Nat → Nat → Int32), (sL V).length - t < m → t ≤ (sL V).length → kM A2 c V (apv W (Dn ++ ((sL V).take t).flatMap F)) → kcM c A A2 → xG l d 178 Q 178 [some (.ref 0), some (.int (nI i)), some (.int (nI j)), some (.int (nI cc)), some (.int (nI c)), some (.int (iC (oD D cc i j))), some (.int (nI r)), some (.int (nI j)), some (.int (nI c)), some (.int (nI (15 * j + j))), some (.int (nI t)), none, none, none, none] [] (wM I J A2 B) 0 0 := by
            intro m
            induction m with
            | zero => intro t A2 hm; omega
            | succ m ih2 =>
              intro t A2 hm ht hcm2 hfr2
              have hRA2 := hrA hfr2
              have hV2 := cM_k hV hfr2
              refine b_X11_costs_178 ⟨xin_n hc225 (by omega), if_le (a := (sL V).length) (by rw [cl_n (by omega)]; exact hV2.2.1) rfl (by omega) (by omega) (fun z2 => ?_) (fun z2 => ?_)⟩
              · rw [nI_1]
                refine b_X11_costs_136 ⟨xin_n (by omega) (by omega), ?_⟩
                rw [cl_n (by omega), hRA2.2.2.1, e2, if_pos (show o2i none = -1 from rfl), nI_1]
                refine if_le rfl rfl (by omega) (by omega) (fun _ => next A2 z ?_ hfr2) (fun q => absurd q (by omega))
                rw [hsn, hrF, ← List.append_assoc, hDn]
                rw [List.take_of_length_le z2] at hcm2; exact hcm2
              · have hin := sL_in z2
                have hsnt := fm_snoc (F := F) 0 z2
                have hatF : ∀ p ∈ F ((sL V).getD t 0), p ∈ (sL V).flatMap F := fun p hp => fm_at 0 z2 hp
                have hkx := hcm2 t z2
                rw [show (64 : Int32) * nI c + nI t = nI (64 * c + t) from add_of (mul_of (a := 64) rfl rfl) rfl, cl_n (by omega), (hV2.2.2 t z2).1]
                generalize hx : (sL V).getD t 0 = x at hin hsnt hatF hkx
                have next2 : ∀ (A3 : Nat → Nat → Int32), kM A3 c V (apv W (Dn ++ ((sL V).take (t + 1)).flatMap F)) → kcM c A A3 → xG l d 178 Q 178 [some (.ref 0), some (.int (nI i)), some (.int (nI j)), some (.int (nI cc)), some (.int (nI c)), some (.int (iC (oD D cc i j))), some (.int (nI r)), some (.int (nI j)), some (.int (nI c)), some (.int (nI (15 * j + j))), some (.int (nI t + 1)), none, none, none, none] [] (wM I J A3 B) 0 0 := by
                  intro A3 k1 k2
                  rw [nI_1]
                  exact ih2 (t + 1) A3 (by omega) (by omega) k1 k2
                have skip : F x = [] → ∀ (A3 : Nat → Nat → Int32), (∀ p, p ≠ 14 → A3 p = A2 p) → xG l d 178 Q 178 [some (.ref 0), some (.int (nI i)), some (.int (nI j)), some (.int (nI cc)), some (.int (nI c)), some (.int (iC (oD D cc i j))), some (.int (nI r)), some (.int (nI j)), some (.int (nI c)), some (.int (nI (15 * j + j))), some (.int (nI t + 1)), none, none, none, none] [] (wM I J A3 B) 0 0 := by
                  intro hnil A3 h14
                  refine next2 A3 ?_ (kcM_trans hfr2 (kcM_14 h14))
                  rw [hsnt, hnil, List.append_nil]; exact kM_14 hcm2 h14
                refine ⟨xin_n (by omega) (by omega), s_categoryOfM (by omega) rfl hin.1 (b_X11_costs_210 ⟨xin_n (by omega) (by omega), ?_⟩)⟩
                rw [cl_n (by omega), hRA2.2.1, hRA2.2.2.1, e2]
                refine if_eq rfl rfl (by omega) (by omega) (fun e3 => ⟨xin_n (by omega) (by omega), ?_⟩) (fun e3 => skip ?_ A2 (fun _ _ => rfl))
                · rw [if_pos (show o2i none = -1 from rfl), mod625 hin.1]
                  refine ⟨by decide, s_made (b := 0) (by omega) rfl (by omega) rfl (mod_lt625 _) rfl (by omega) hR hRA2 (fun A3 h14 => b_X11_costs_247 ?_)⟩
                  have hFx : F x = sOp (oD D R.1 i j) R x (V x) := by rw [← hF]; show (if _ then _ else _) = _; rw [if_pos e3]
                  cases hkk : mkK R.2.2.2.1 (x % 625) 0 with
                  | none =>
                    rw [if_pos (show o2i none = -1 from rfl)]
                    refine skip ?_ A3 h14
                    rw [hFx]; unfold sOp mkS; rw [hkk]; rfl
                  | some k =>
                    have hk625 := mkK_lt (by split <;> omega) hR.2.2.2.2.1 hkk
                    obtain ⟨v, hv⟩ := Option.isSome_iff_exists.mp hin.2
                    have hop : F x = [(625 * R.1 + k, (v.1, oD D R.1 i j + v.2))] := by
                      rw [hFx]; unfold sOp mkS; rw [hkk, hv]; rfl
                    have hWx : apv W (Dn ++ ((sL V).take t).flatMap F) x = V x := by
                      rw [apv_out (cc := cc) (fun p hp => ?_) (by omega), hWV x e3]
                      rcases List.mem_append.mp hp with q | q
                      · exact odone p q
                      · exact ofl p (fm_take q)
                    rw [hWx, hv] at hkx
                    have hmm := hops _ (hat _ (by rw [hrF]; exact hatF _ (by rw [hop]; exact List.mem_singleton.mpr rfl)))
                    rw [show o2i (some k) = nI k from rfl, if_neg (ne_m1 (by omega)), show (64 : Int32) * nI c + nI t = nI (64 * c + t) from add_of (mul_of (a := 64) rfl rfl) rfl, cl_n (by omega), h14 19 (by decide), hkx, show dc (some v) = v.2 from rfl, iC_add, ← e, show (625 : Int32) * nI R.1 + nI k = nI (625 * R.1 + k) from add_of (mul_of (a := 625) rfl rfl) rfl]
                    refine ⟨xin_n (by omega) (by omega), s_lowers (n := v.1) (by omega) rfl hc225 rfl (by omega) rfl hmm.2.1 hmm.2.2 (cM_k hV2 (kcM_14 (c := c) h14)) hmm.1 (bVd (fun p hp => ?_)) (kM_14 hcm2 h14) (fun A4 k1 k2 => b_X11_costs_285 ?_)⟩
                    · rcases List.mem_append.mp hp with q | q
                      · exact hdone p q
                      · exact hat p (by rw [hrF]; exact fm_take q)
                    · have hh := next2 A4 ?_ (kcM_trans (kcM_trans hfr2 (kcM_14 h14)) k2)
                      · rw [← e] at hh; exact hh
                      · rw [hsnt, hop, ← List.append_assoc, ← apv_app]; exact k1
                · rw [← hF]; show (if _ then _ else _) = _; rw [if_neg e3]
          refine b_X11_costs_136 ⟨xin_n (by omega) (by omega), ?_⟩
          rw [cl_n (by omega), hRA1.2.2.1, e2, if_pos (show o2i none = -1 from rfl), nI_1]
          refine if_le rfl rfl (by omega) (by omega) (fun q => absurd q (by omega)) (fun _ => s_cell (by omega) rfl rfl (b_X11_costs_165 (s_cell (by omega) rfl rfl (b_X11_costs_173 ?_))))
          rw [hc]
          exact single _ 0 A1 (Nat.lt_succ_self _) (by omega) (by simpa using hcm) hfr
        · -- a rule of two parts
          obtain ⟨c2, hc2⟩ : ∃ c2, R.2.2.1 = some c2 := by
            cases q : R.2.2.1 with
            | none => exact absurd q e2
            | some c2 => exact ⟨c2, rfl⟩
          have hc216 := hR.2.2.1 c2 hc2
          have hrF : rF (oD D) T i j cc W R = (mids i j).flatMap fun m => jOps (oD D) R i j (T i m) (T m j) := by
            unfold rF; rw [if_pos e, if_neg e2]
          have hml : (mids i j).length = j - 1 - i := by unfold mids; rw [List.length_range']
          have pairsL : ∀ m t (A2 : Nat → Nat → Int32), (j - 1 - i) - t < m → t ≤ j - 1 - i → kM A2 c V (apv W (Dn ++ ((mids i j).take t).flatMap fun m => jOps (oD D) R i j (T i m) (T m j))) → kcM c A A2 → xG l d 178 Q 136 [some (.ref 0), some (.int (nI i)), some (.int (nI j)), some (.int (nI cc)), some (.int (nI c)), some (.int (iC (oD D cc i j))), some (.int (nI r)), some (.int (nI (i + 1 + t))), none, none, none, none, none, none, none] [] (wM I J A2 B) 0 0 := by
            intro m
            induction m with
            | zero => intro t A2 hm; omega
            | succ m ih2 =>
              intro t A2 hm ht hcm2 hfr2
              have hRA2 := hrA hfr2
              refine b_X11_costs_136 ⟨xin_n (by omega) (by omega), ?_⟩
              rw [cl_n (by omega), hRA2.2.2.1, hc2, show o2i (some c2) = nI c2 from rfl, if_neg (ne_m1 (by omega))]
              refine if_le rfl rfl (by omega) (by omega) (fun z2 => next A2 z ?_ hfr2) (fun z2 => ?_)
              · rw [hsn, hrF, ← List.append_assoc, hDn]
                rw [List.take_of_length_le (by omega)] at hcm2; exact hcm2
              · have hlen : t < (mids i j).length := by omega
                have hgd : (mids i j).getD t 0 = i + 1 + t := by
                  show (List.range' (i + 1) (j - 1 - i)).getD t 0 = _
                  rw [gD_lt (by rw [List.length_range']; omega), List.getElem_range']; omega
                have hsnt := fm_snoc (F := fun m => jOps (oD D) R i j (T i m) (T m j)) 0 hlen
                rw [hgd] at hsnt
                obtain ⟨⟨cA, kA'⟩, ⟨cB, kB'⟩⟩ := hT (i + 1 + t) (by omega) (by omega)
                have atJ : ∀ p ∈ jOps (oD D) R i j (T i (i + 1 + t)) (T (i + 1 + t) j), p ∈ rF (oD D) T i j cc W R := fun p hp => by rw [hrF]; exact fm_at 0 hlen (by rw [hgd]; exact hp)
                refine s_cell (by omega) rfl rfl (b_X11_costs_165 (s_cell (by omega) rfl rfl (b_X11_costs_173 ?_)))
                have hD2 : ∀ p ∈ Dn ++ ((mids i j).take t).flatMap (fun m => jOps (oD D) R i j (T i m) (T m j)), p ∈ EO ++ g.2.1.flatMap (rF (oD D) T i j cc W) := fun p hp => by
                  rcases List.mem_append.mp hp with q | q
                  · exact hdone p q
                  · exact hat p (by rw [hrF]; exact fm_take q)
                generalize hDn2 : Dn ++ ((mids i j).take t).flatMap (fun m => jOps (oD D) R i j (T i m) (T m j)) = Dn2 at hcm2 hD2
                generalize hVa : T i (i + 1 + t) = Va at cA kA' atJ hsnt
                generalize hVb : T (i + 1 + t) j = Vb at cB kB' atJ hsnt
                generalize ha : 15 * i + (i + 1 + t) = a at cA kA'
                generalize hb : 15 * (i + 1 + t) + j = b at cB kB'
                have la := cA.1
                have lb := cB.1
                generalize hG : (fun (x y : Nat) => if some (y / 625) = R.2.2.1 then pOp (oD D R.1 i j) R x y (Va x) (Vb y) else []) = G
                generalize hF : (fun (x : Nat) => if x / 625 = R.2.1 then (sL Vb).flatMap (G x) else []) = F
                have hJ : jOps (oD D) R i j Va Vb = (sL Va).flatMap F := by rw [← hF, ← hG]; rfl
                have nextM : ∀ (A3 : Nat → Nat → Int32), kM A3 c V (apv W (Dn2 ++ (sL Va).flatMap F)) → kcM c A A3 → xG l d 178 Q 136 [some (.ref 0), some (.int (nI i)), some (.int (nI j)), some (.int (nI cc)), some (.int (nI c)), some (.int (iC (oD D cc i j))), some (.int (nI r)), some (.int (nI (i + 1 + t) + 1)), none, none, none, none, none, none, none] [] (wM I J A3 B) 0 0 := by
                  intro A3 k1 k2
                  rw [nI_1]
                  refine ih2 (t + 1) A3 (by omega) (by omega) ?_ k2
                  rw [hsnt, ← List.append_assoc, hDn2, hJ]; exact k1
                have outer : ∀ m2 p (A3 : Nat → Nat → Int32), (sL Va).length - p < m2 → p ≤ (sL Va).length → kM A3 c V (apv W (Dn2 ++ ((sL Va).take p).flatMap F)) → kcM c A A3 → xG l d 178 Q 178 [some (.ref 0), some (.int (nI i)), some (.int (nI j)), some (.int (nI cc)), some (.int (nI c)), some (.int (iC (oD D cc i j))), some (.int (nI r)), some (.int (nI (i + 1 + t))), some (.int (nI a)), some (.int (nI b)), some (.int (nI p)), none, none, none, none] [] (wM I J A3 B) 0 0 := by
                  intro m2
                  induction m2 with
                  | zero => intro p A3 hm2; omega
                  | succ m2 ih3 =>
                    intro p A3 hm2 hp hcm3 hfr3
                    have hRA3 := hrA hfr3
                    have cA3 := cM_k cA hfr3
                    refine b_X11_costs_178 ⟨xin_n (by omega) (by omega), if_le (a := (sL Va).length) (by rw [cl_n (by omega)]; exact cA3.2.1) rfl (by omega) (by omega) (fun z3 => nextM A3 ?_ hfr3) (fun z3 => ?_)⟩
                    · rw [List.take_of_length_le z3] at hcm3; exact hcm3
                    · have hin := sL_in z3
                      have hsnp := fm_snoc (F := F) 0 z3
                      have atF : ∀ q ∈ F ((sL Va).getD p 0), q ∈ (sL Va).flatMap F := fun q hq => fm_at 0 z3 hq
                      rw [show (64 : Int32) * nI a + nI p = nI (64 * a + p) from add_of (mul_of (a := 64) rfl rfl) rfl, cl_n (by omega), (cA3.2.2 p z3).1]
                      have kx : ∀ {A4 : Nat → Nat → Int32}, kcM c A A4 → A4 19 (64 * a + p) = iC (dc (Va ((sL Va).getD p 0))) := fun f => kM_fr kA' f (by omega) la p z3
                      generalize hx : (sL Va).getD p 0 = x at hin hsnp atF kx
                      have nextP : ∀ (A4 : Nat → Nat → Int32), kM A4 c V (apv W (Dn2 ++ ((sL Va).take (p + 1)).flatMap F)) → kcM c A A4 → xG l d 178 Q 178 [some (.ref 0), some (.int (nI i)), some (.int (nI j)), some (.int (nI cc)), some (.int (nI c)), some (.int (iC (oD D cc i j))), some (.int (nI r)), some (.int (nI (i + 1 + t))), some (.int (nI a)), some (.int (nI b)), some (.int (nI p + 1)), none, none, none, none] [] (wM I J A4 B) 0 0 := by
                        intro A4 k1 k2
                        rw [nI_1]
                        exact ih3 (p + 1) A4 (by omega) (by omega) k1 k2
                      refine ⟨xin_n (by omega) (by omega), s_categoryOfM (by omega) rfl hin.1 (b_X11_costs_210 ⟨xin_n (by omega) (by omega), ?_⟩)⟩
                      rw [cl_n (by omega), hRA3.2.1, hRA3.2.2.1, hc2, show o2i (some c2) = nI c2 from rfl]
                      refine if_eq rfl rfl (by omega) (by omega) (fun e3 => ⟨xin_n (by omega) (by omega), ?_⟩) (fun e3 => nextP A3 ?_ hfr3)
                      · rw [if_neg (ne_m1 (by omega))]
                        have hFx : F x = (sL Vb).flatMap (G x) := by rw [← hF]; show (if _ then _ else _) = _; rw [if_pos e3]
                        have inner : ∀ m4 q (A4 : Nat → Nat → Int32), (sL Vb).length - q < m4 → q ≤ (sL Vb).length → kM A4 c V (apv W (Dn2 ++ ((sL Va).take p).flatMap F ++ ((sL Vb).take q).flatMap (G x))) → kcM c A A4 → xG l d 178 Q 291 [some (.ref 0), some (.int (nI i)), some (.int (nI j)), some (.int (nI cc)), some (.int (nI c)), some (.int (iC (oD D cc i j))), some (.int (nI r)), some (.int (nI (i + 1 + t))), some (.int (nI a)), some (.int (nI b)), some (.int (nI p)), some (.int (nI x)), some (.int (nI q)), none, none] [] (wM I J A4 B) 0 0 := by
                          intro m4
                          induction m4 with
                          | zero => intro q A4 hm4; omega
                          | succ m4 ih4 =>
                            intro q A4 hm4 hq hcm4 hfr4
                            have hRA4 := hrA hfr4
                            have cB4 := cM_k cB hfr4
                            refine b_X11_costs_291 ⟨xin_n (by omega) (by omega), if_le (a := (sL Vb).length) (by rw [cl_n (by omega)]; exact cB4.2.1) rfl (by omega) (by omega) (fun z4 => nextP A4 ?_ hfr4) (fun z4 => ?_)⟩
                            · rw [hsnp, hFx, ← List.append_assoc]
                              rw [List.take_of_length_le z4] at hcm4; exact hcm4
                            · have hyn := sL_in z4
                              have hsnq := fm_snoc (F := G x) 0 z4
                              have atG : ∀ u ∈ G x ((sL Vb).getD q 0), u ∈ (sL Vb).flatMap (G x) := fun u hu => fm_at 0 z4 hu
                              rw [show (64 : Int32) * nI b + nI q = nI (64 * b + q) from add_of (mul_of (a := 64) rfl rfl) rfl, cl_n (by omega), (cB4.2.2 q z4).1]
                              have ky : ∀ {A5 : Nat → Nat → Int32}, kcM c A A5 → A5 19 (64 * b + q) = iC (dc (Vb ((sL Vb).getD q 0))) := fun f => kM_fr kB' f (by omega) lb q z4
                              generalize hy : (sL Vb).getD q 0 = y at hyn hsnq atG ky
                              have nextQ : ∀ (A5 : Nat → Nat → Int32), kM A5 c V (apv W (Dn2 ++ ((sL Va).take p).flatMap F ++ ((sL Vb).take (q + 1)).flatMap (G x))) → kcM c A A5 → xG l d 178 Q 407 [some (.ref 0), some (.int (nI i)), some (.int (nI j)), some (.int (nI cc)), some (.int (nI c)), some (.int (iC (oD D cc i j))), some (.int (nI r)), some (.int (nI (i + 1 + t))), some (.int (nI a)), some (.int (nI b)), some (.int (nI p)), some (.int (nI x)), some (.int (nI q)), none, none] [] (wM I J A5 B) 0 0 := by
                                intro A5 k1 k2
                                refine b_X11_costs_407 ?_
                                rw [nI_1]
                                exact ih4 (q + 1) A5 (by omega) (by omega) k1 k2
                              have skipQ : G x y = [] → ∀ (A5 : Nat → Nat → Int32), (∀ p, p ≠ 14 → A5 p = A4 p) → xG l d 178 Q 407 [some (.ref 0), some (.int (nI i)), some (.int (nI j)), some (.int (nI cc)), some (.int (nI c)), some (.int (iC (oD D cc i j))), some (.int (nI r)), some (.int (nI (i + 1 + t))), some (.int (nI a)), some (.int (nI b)), some (.int (nI p)), some (.int (nI x)), some (.int (nI q)), none, none] [] (wM I J A5 B) 0 0 := by
                                intro hnil A5 h14
                                refine nextQ A5 ?_ (kcM_trans hfr4 (kcM_14 h14))
                                rw [hsnq, hnil, List.append_nil]; exact kM_14 hcm4 h14
                              refine ⟨xin_n (by omega) (by omega), s_categoryOfM (by omega) rfl hyn.1 (b_X11_costs_323 ⟨xin_n (by omega) (by omega), ?_⟩)⟩
                              rw [cl_n (by omega), hRA4.2.2.1, hc2, show o2i (some c2) = nI c2 from rfl, if_pos (show (-1 : Int32) = -1 from rfl)]
                              refine if_eq rfl rfl (by omega) (by omega) (fun e4 => ⟨by decide, by decide, ?_⟩) (fun e4 => skipQ ?_ A4 (fun _ _ => rfl))
                              · rw [mod625 hin.1, mod625 hyn.1]
                                refine s_made (by omega) rfl (by omega) rfl (mod_lt625 _) rfl (mod_lt625 _) hR hRA4 (fun A5 h14 => b_X11_costs_351 ?_)
                                have hGxy : G x y = pOp (oD D R.1 i j) R x y (Va x) (Vb y) := by
                                  rw [← hG]; show (if _ then _ else _) = _; rw [if_pos (by rw [e4, hc2])]
                                cases hkk : mkK R.2.2.2.1 (x % 625) (y % 625) with
                                | none =>
                                  rw [if_pos (show o2i none = -1 from rfl)]
                                  refine skipQ ?_ A5 h14
                                  rw [hGxy]; unfold pOp mkS; rw [hkk]; rfl
                                | some k =>
                                  have hk625 := mkK_lt (by split <;> omega) hR.2.2.2.2.1 hkk
                                  obtain ⟨va, hva⟩ := Option.isSome_iff_exists.mp hin.2
                                  obtain ⟨vb, hvb⟩ := Option.isSome_iff_exists.mp hyn.2
                                  have hop : G x y = [(625 * R.1 + k, (va.1 * vb.1, oD D R.1 i j + va.2 + vb.2))] := by
                                    rw [hGxy]; unfold pOp mkS; rw [hkk, hva, hvb]; rfl
                                  have hfr5 := kcM_trans hfr4 (kcM_14 (c := c) h14)
                                  have k1 := kx hfr5
                                  have k2 := ky hfr5
                                  rw [hva] at k1; rw [hvb] at k2
                                  have hmm := hops _ (hat _ (atJ _ (by rw [hJ]; exact atF _ (by rw [hFx]; exact atG _ (by rw [hop]; exact List.mem_singleton.mpr rfl)))))
                                  rw [show o2i (some k) = nI k from rfl, if_neg (ne_m1 (by omega)), show (64 : Int32) * nI a + nI p = nI (64 * a + p) from add_of (mul_of (a := 64) rfl rfl) rfl, show (64 : Int32) * nI b + nI q = nI (64 * b + q) from add_of (mul_of (a := 64) rfl rfl) rfl, cl_n (by omega), cl_n (by omega), k1, k2, show dc (some va) = va.2 from rfl, show dc (some vb) = vb.2 from rfl, ← e, iC_add, iC_add, show (625 : Int32) * nI R.1 + nI k = nI (625 * R.1 + k) from add_of (mul_of (a := 625) rfl rfl) rfl]
                                  refine ⟨xin_n (by omega) (by omega), xin_n (by omega) (by omega), s_lowers (n := va.1 * vb.1) (by omega) rfl hc225 rfl (by omega) rfl hmm.2.1 hmm.2.2 (cM_k hV hfr5) hmm.1 (bVd (fun u hu => ?_)) (kM_14 hcm4 h14) (fun A6 q1 q2 => ?_)⟩
                                  · rcases List.mem_append.mp hu with w1 | w1
                                    · rcases List.mem_append.mp w1 with w2 | w2
                                      · exact hD2 u w2
                                      · exact hat u (atJ u (by rw [hJ]; exact fm_take w2))
                                    · exact hat u (atJ u (by rw [hJ]; exact atF u (by rw [hFx]; exact fm_take w1)))
                                  · have hh := nextQ A6 ?_ (kcM_trans hfr5 q2)
                                    · rw [← e] at hh; exact hh
                                    · rw [hsnq, hop, ← List.append_assoc, ← apv_app]; exact q1
                              · rw [← hG]; show (if _ then _ else _) = _; rw [if_neg]; rw [hc2]; intro w; injection w with w; exact e4 w
                        exact inner _ 0 A3 (Nat.lt_succ_self _) (by omega) (by simpa using hcm3) hfr3
                      · rw [hsnp, show F x = [] by rw [← hF]; show (if _ then _ else _) = _; rw [if_neg e3], List.append_nil]; exact hcm3
                exact outer _ 0 A2 (Nat.lt_succ_self _) (by omega) (by simpa using hcm2) hfr2
          have h0 := pairsL _ 0 A1 (Nat.lt_succ_self _) (by omega) (by simpa using hcm) hfr
          rw [nI_1]; exact h0
        · refine next A1 z ?_ hfr
          rw [hsn, show rF (oD D) T i j cc W R = [] by unfold rF; rw [if_neg e], List.append_nil, hDn]; exact hcm
  -- entries
  have toRules : ∀ (A1 : Nat → Nat → Int32), kM A1 c V (apv W EO) → kcM c A A1 → xG l d 178 Q 93 [some (.ref 0), some (.int (nI i)), some (.int (nI j)), some (.int (nI cc)), some (.int (nI c)), some (.int (iC (oD D cc i j))), some (.int 0), none, none, none, none, none, none, none, none] [] (wM I J A1 B) 0 0 := fun A1 k1 k2 => rules _ 0 A1 (Nat.lt_succ_self _) (by omega) (by simpa using k1) k2
  have ents : ∀ m e (A1 : Nat → Nat → Int32), g.1.length - e < m → e ≤ g.1.length → (j ≠ i + 1 → e = 0) → kM A1 c V (apv W (if j = i + 1 then (g.1.take e).flatMap (eF (oD D) w i cc) else [])) → kcM c A A1 → xG l d 178 Q 19 [some (.ref 0), some (.int (nI i)), some (.int (nI j)), some (.int (nI cc)), some (.int (nI c)), some (.int (iC (oD D cc i j))), some (.int (nI e)), none, none, none, none, none, none, none, none] [] (wM I J A1 B) 0 0 := by
    intro m
    induction m with
    | zero => intro e A1 hm; omega
    | succ m ih =>
      intro e A1 hm he hne hcm hfr
      refine b_X11_costs_19 (if_le h22 rfl (by omega) (by omega) (fun z => toRules A1 ?_ hfr) (fun z => if_eq (b := i + 1) rfl (nI_1 i) (by omega) (by omega) (fun q => ?_) (fun q => toRules A1 ?_ hfr)))
      · rw [← hEO]; unfold eO
        rw [List.take_of_length_le z] at hcm; exact hcm
      · rw [if_pos q] at hcm
        have hEo : EO = g.1.flatMap (eF (oD D) w i cc) := by rw [← hEO]; unfold eO; rw [if_pos q]
        have hE1 := (hes.2 e z).1
        have hEA : entAt A B e (g.1.getD e dE) := by have := (hes.2 e z).2; rwa [Nat.zero_add] at this
        have hsn : (g.1.take (e + 1)).flatMap (eF (oD D) w i cc) = (g.1.take e).flatMap (eF (oD D) w i cc) ++ eF (oD D) w i cc (g.1.getD e dE) := fm_snoc dE z
        have hat : ∀ p ∈ eF (oD D) w i cc (g.1.getD e dE), p ∈ EO ++ g.2.1.flatMap (rF (oD D) T i j cc W) := fun p hp => List.mem_append.mpr (Or.inl (by rw [hEo]; exact fm_at dE z hp))
        generalize g.1.getD e dE = E at hE1 hEA hsn hat
        have next : ∀ (A2 : Nat → Nat → Int32), kM A2 c V (apv W ((g.1.take (e + 1)).flatMap (eF (oD D) w i cc))) → kcM c A A2 → xG l d 178 Q 84 [some (.ref 0), some (.int (nI i)), some (.int (nI j)), some (.int (nI cc)), some (.int (nI c)), some (.int (iC (oD D cc i j))), some (.int (nI e)), none, none, none, none, none, none, none, none] [] (wM I J A2 B) 0 0 := by
          intro A2 k1 k2
          refine b_X11_costs_84 ?_
          rw [nI_1]
          exact ih (e + 1) A2 (by omega) (by omega) (fun hh => absurd q hh) (by rw [if_pos q]; exact k1) k2
        have l1 := hE1.2.1
        have l2 := hE1.2.2
        have a4 : A1 4 = A 4 := hfr.1 4 (by decide) (by decide)
        have a5 : A1 5 = A 5 := hfr.1 5 (by decide) (by decide)
        rw [cl_n (by omega), cl_n (by omega), a4, a5, hEA.2.1, hEA.2.2]
        refine ⟨xin_n (by omega) (by omega), if_eq rfl rfl (by omega) (by omega) (fun e1 => ⟨xin_n (by omega) (by omega), xin_n (by omega) (by omega), if_if (show lg_cmp (B 2 e) (B 15 i) = 0 ↔ E.1 = w from lg0.trans (by rw [hEA.1, hsaid]; exact nm_eq hE1.1 hw)) (fun e2 => ⟨xin_n (by omega) (by omega), ?_⟩) (fun e2 => next A1 ?_ hfr)⟩) (fun e1 => next A1 ?_ hfr)⟩
        · have hop : eF (oD D) w i cc E = [(eSg E, (1, oD D E.2.1 i (i + 1)))] := by unfold eF; rw [if_pos e1, if_pos e2]
          have hsg : eSg E < 10000 := by unfold eSg; omega
          have hmm := hops _ (hat _ (by rw [hop]; exact List.mem_singleton.mpr rfl))
          have e3 : oD D cc i j = oD D E.2.1 i (i + 1) := by rw [e1, q]
          refine s_lowers (s := eSg E) (n := 1) (v := oD D E.2.1 i (i + 1)) (by omega) rfl hc225 (by rw [← e1]; exact add_of (mul_of (a := 625) rfl rfl) rfl) hsg (by rw [e3]) hmm.2.1 hmm.2.2 (cM_k hV hfr) hmm.1 (bVd (fun p hp => List.mem_append.mpr (Or.inl (by rw [hEo]; exact fm_take hp)))) hcm (fun A4 k1 k2 => ?_)
          refine next A4 ?_ (kcM_trans hfr k2)
          rw [hsn, hop, ← apv_app]; exact k1
        · rw [hsn, show eF (oD D) w i cc E = [] by unfold eF; rw [if_pos e1, if_neg e2], List.append_nil]; exact hcm
        · rw [hsn, show eF (oD D) w i cc E = [] by unfold eF; rw [if_neg e1], List.append_nil]; exact hcm
      · rw [← hEO]; unfold eO
        rw [if_neg q] at hcm ⊢; exact hcm
  refine e_X11_costs (s_cell (by omega) rfl rfl (b_X11_costs_5 (s_ownCost (by omega) hD h40 hDb rfl rfl rfl (by omega) (by omega) (by omega) (b_X11_costs_14 ?_))))
  rw [hc]
  exact ents _ 0 A (Nat.lt_succ_self _) (by omega) (fun _ => rfl) (by simpa [apv_nil] using hk) (kcM_refl c A)
end M21
