/-! ===== the reference: fills ===== -/
theorem fm_fil {α β : Type} (l : List α) (p : α → Bool) (F : α → List β) : (l.filter p).flatMap F = l.flatMap fun x => if p x = true then F x else [] := by
  induction l with
  | nil => rfl
  | cons a l ih =>
    rw [List.filter_cons, List.flatMap_cons]
    by_cases h : p a = true
    · rw [if_pos h, if_pos h, List.flatMap_cons, ih]
    · rw [if_neg h, if_neg h, ih]; rfl
theorem fm_nil {α β : Type} {l : List α} {F : α → List β} (h : ∀ a ∈ l, F a = []) : l.flatMap F = [] := by
  induction l with
  | nil => rfl
  | cons a l ih => rw [List.flatMap_cons, h a (List.mem_cons_self ..), ih fun x hx => h x (List.mem_cons_of_mem _ hx)]; rfl
theorem sOps_rng {o : Own} {R : Rule} {i j : Nat} {V : Nat → Vl} (hf : R.2.1 < 16) : sOps o R i j V = (List.range' (625 * R.2.1) 625).flatMap fun x => sOp (o R.1 i j) R x (V x) := by
  unfold sOps sL
  rw [fm_fil]
  have e : List.range 10000 = List.range' 0 (625 * R.2.1) ++ (List.range' (625 * R.2.1) 625 ++ List.range' (625 * R.2.1 + 625) (10000 - 625 - 625 * R.2.1)) := by
    rw [List.range'_append_1]
    have := List.range'_append_1 (s := 0) (m := 625 * R.2.1) (n := 625 + (10000 - 625 - 625 * R.2.1))
    rw [Nat.zero_add] at this
    rw [this, List.range_eq_range']
    congr 1; omega
  rw [e, List.flatMap_append, List.flatMap_append, fm_nil (l := List.range' 0 (625 * R.2.1)), fm_nil (l := List.range' (625 * R.2.1 + 625) (10000 - 625 - 625 * R.2.1)), List.nil_append, List.append_nil]
  · refine fm_cg fun x hx => ?_
    have := List.mem_range'_1.mp hx
    have hc : x / 625 = R.2.1 := by omega
    cases hv : V x with
    | none => rw [if_neg (by decide)]; unfold sOp; split <;> simp_all
    | some v => rw [if_pos (by rfl), if_pos hc]
  · intro x hx
    have := List.mem_range'_1.mp hx
    split
    · rw [if_neg (by omega)]
    · rfl
  · intro x hx
    have := List.mem_range'_1.mp hx
    split
    · rw [if_neg (by omega)]
    · rfl
def eF (o : Own) (w : List Nat) (i cc : Nat) (E : Entry) : List Op := if E.2.1 = cc then (if E.1 = w then [(eSg E, (1, o E.2.1 i (i + 1)))] else []) else []
def rF (o : Own) (T : Nat → Nat → Nat → Vl) (i j cc : Nat) (V : Nat → Vl) (R : Rule) : List Op := if R.1 = cc then (if R.2.2.1 = none then sOps o R i j V else (mids i j).flatMap fun m => jOps o R i j (T i m) (T m j)) else []
def eO (es : List Entry) (o : Own) (w : List Nat) (i j cc : Nat) : List Op := if j = i + 1 then es.flatMap (eF o w i cc) else []
def fOps (g : Gram) (o : Own) (ws : List (List Nat)) (T : Nat → Nat → Nat → Vl) (i j cc : Nat) (V : Nat → Vl) : List Op := eO g.1 o (ws.getD i []) i j cc ++ g.2.1.flatMap (rF o T i j cc V)
theorem eF_in {o : Own} {w : List Nat} {i cc : Nat} {E : Entry} (hE : okE E) {p : Op} (h : p ∈ eF o w i cc E) : p.1 < 10000 ∧ p.1 / 625 = cc := by
  unfold eF at h
  split at h
  · split at h
    · rw [List.mem_singleton] at h; subst h
      have := hE.2.1; have := hE.2.2
      unfold eSg; omega
    · cases h
  · cases h
theorem rF_in {o : Own} {T : Nat → Nat → Nat → Vl} {i j cc : Nat} {V : Nat → Vl} {R : Rule} (hR : okR R) {p : Op} (h : p ∈ rF o T i j cc V R) : p.1 < 10000 ∧ p.1 / 625 = cc := by
  unfold rF at h
  split at h
  · rename_i e
    split at h
    · rw [← e]; exact sOps_in hR h
    · obtain ⟨m, _, h⟩ := List.mem_flatMap.mp h
      rw [← e]; exact jOps_in hR h
  · cases h
theorem getD_mem {α : Type} {l : List α} {i : Nat} (h : i < l.length) (d : α) : l.getD i d ∈ l := by rw [gD_lt h]; exact List.getElem_mem h
theorem mem_getD {α : Type} {l : List α} {a : α} (h : a ∈ l) (d : α) : ∃ i, i < l.length ∧ l.getD i d = a := by
  obtain ⟨i, hi, e⟩ := List.getElem_of_mem h
  exact ⟨i, hi, by rw [gD_lt hi]; exact e⟩
theorem eO_in {es : List Entry} {o : Own} {w : List Nat} {i j cc : Nat} (hes : ∀ E ∈ es, okE E) {p : Op} (h : p ∈ eO es o w i j cc) : p.1 < 10000 ∧ p.1 / 625 = cc := by
  unfold eO at h
  split at h
  · obtain ⟨E, hE, h⟩ := List.mem_flatMap.mp h
    exact eF_in (hes E hE) h
  · cases h
theorem apv_out {V : Nat → Vl} {L : List Op} {cc s : Nat} (h : ∀ p ∈ L, p.1 / 625 = cc) (hs : s / 625 ≠ cc) : apv V L s = V s := by
  show vA (V s) (tot L s) = V s
  rw [tot_none (fun p hp q => hs (by rw [← q]; exact h p hp)), vA_n]
section M17
variable {l : Launch} {J : Nat → Int64} {A : Nat → Nat → Int32} {B : Nat → Nat → Int64} {Q : Option Value → XW → Prop} {d : Nat} {I : Nat → Int32}
set_option maxHeartbeats 1000000 in
theorem s_fills (hd : 5 ≤ d) {x1 x2 x3 : Int32} {i j cc : Nat} {g : Gram} {o : Own} {ws : List (List Nat)} {T : Nat → Nat → Nat → Vl} {V : Nat → Vl} (hx1 : x1 = nI i) (hx2 : x2 = nI j) (hx3 : x3 = nI cc) (hij : i < j) (hj : j ≤ 14) (hcc : cc < 16)
    (h22 : I 22 = nI g.1.length) (h23 : I 23 = nI g.2.1.length) (hes : entsM A B 0 g.1) (hrs : rulsM A 0 g.2.1) (hw : vNm (ws.getD i [])) (hsaid : B 16 i = lN (c27 (ws.getD i [])))
    (hT : ∀ m, i < m → m < j → cM A B (15 * i + m) (T i m) ∧ cM A B (15 * m + j) (T m j)) (hV : cM A B (15 * i + j) V) (hnl : ∀ R ∈ g.2.1, R.2.2.1 = none → R.1 = cc → R.2.1 ≠ cc)
    (hE : ∀ (A' : Nat → Nat → Int32) (B' : Nat → Nat → Int64), 61 ≤ (sL (apv V (fOps g o ws T i j cc V))).length → fcM (15 * i + j) A B A' B' → Q (some (.int 0)) (wM I J A' B'))
    (hO : ∀ (A' : Nat → Nat → Int32) (B' : Nat → Nat → Int64), cM A' B' (15 * i + j) (apv V (fOps g o ws T i j cc V)) → fcM (15 * i + j) A B A' B' → Q (some (.int 1)) (wM I J A' B')) : xK l d 157 [.ref 0, .int x1, .int x2, .int x3] (wM I J A B) Q := by
  obtain ⟨d, rfl⟩ : ∃ e, d = e + 1 := ⟨d - 1, by omega⟩
  subst hx1; subst hx2; subst hx3
  have h40 := hes.1
  have h30 := hrs.1
  have okes : ∀ E ∈ g.1, okE E := fun E hE => by obtain ⟨e, he, q⟩ := mem_getD hE dE; rw [← q]; exact (hes.2 e he).1
  generalize hw' : ws.getD i [] = w at hw hsaid
  have hfo : fOps g o ws T i j cc V = eO g.1 o w i j cc ++ g.2.1.flatMap (rF o T i j cc V) := by unfold fOps; rw [hw']
  rw [hfo] at hE hO
  generalize hEO : eO g.1 o w i j cc = EO at hE hO
  have oEO : ∀ p ∈ EO, p.1 < 10000 ∧ p.1 / 625 = cc := fun p hp => eO_in okes (by rw [hEO]; exact hp)
  generalize hc : 15 * i + j = c at hV hE hO
  have hc225 : c < 225 := by omega
  -- rules
  have rules : ∀ m r (A1 : Nat → Nat → Int32) (B1 : Nat → Nat → Int64), g.2.1.length - r < m → r ≤ g.2.1.length → cM A1 B1 c (apv V (EO ++ (g.2.1.take r).flatMap (rF o T i j cc V))) → fcM c A B A1 B1 → xG l d 157 Q 88 [some (.ref 0), some (.int (nI i)), some (.int (nI j)), some (.int (nI cc)), some (.int (nI c)), some (.int (nI r)), none, none, none] [] (wM I J A1 B1) 0 0 := by
    intro m
    induction m with
    | zero => intro r A1 B1 hm; omega
    | succ m ih =>
      intro r A1 B1 hm hr hcm hfr
      have next : ∀ (A2 : Nat → Nat → Int32) (B2 : Nat → Nat → Int64), r < g.2.1.length → cM A2 B2 c (apv V (EO ++ (g.2.1.take (r + 1)).flatMap (rF o T i j cc V))) → fcM c A B A2 B2 → xG l d 157 Q 88 [some (.ref 0), some (.int (nI i)), some (.int (nI j)), some (.int (nI cc)), some (.int (nI c)), some (.int (nI r + 1)), none, none, none] [] (wM I J A2 B2) 0 0 := by
        intro A2 B2 h1 k1 k2
        rw [nI_1]
        exact ih (r + 1) A2 B2 (by omega) (by omega) k1 k2
      refine b_X11_fills_88 (if_le h23 rfl (by omega) (by omega) (fun z => ⟨Or.inr rfl, hO A1 B1 ?_ hfr⟩) (fun z => ?_))
      · rw [List.take_of_length_le z] at hcm; exact hcm
      · have hR := (hrs.2 r z).1
        have hmem := getD_mem z dR
        have hRA : rulAt A r (g.2.1.getD r dR) := by have := (hrs.2 r z).2; rwa [Nat.zero_add] at this
        have hsn : (g.2.1.take (r + 1)).flatMap (rF o T i j cc V) = (g.2.1.take r).flatMap (rF o T i j cc V) ++ rF o T i j cc V (g.2.1.getD r dR) := fm_snoc dR z
        have hat : ∀ p ∈ rF o T i j cc V (g.2.1.getD r dR), p ∈ EO ++ g.2.1.flatMap (rF o T i j cc V) := fun p hp => List.mem_append.mpr (Or.inr (fm_at dR z hp))
        have hdone : ∀ p ∈ EO ++ (g.2.1.take r).flatMap (rF o T i j cc V), p ∈ EO ++ g.2.1.flatMap (rF o T i j cc V) := fun p hp => by
          rcases List.mem_append.mp hp with q | q
          · exact List.mem_append.mpr (Or.inl q)
          · exact List.mem_append.mpr (Or.inr (fm_take q))
        have odone : ∀ p ∈ EO ++ (g.2.1.take r).flatMap (rF o T i j cc V), p.1 / 625 = cc := fun p hp => by
          rcases List.mem_append.mp hp with q | q
          · exact (oEO p q).2
          · obtain ⟨R, hRm, q⟩ := List.mem_flatMap.mp q
            obtain ⟨e, he, q2⟩ := mem_getD (List.mem_of_mem_take hRm) dR
            exact (rF_in (by rw [← q2]; exact (hrs.2 e he).1) q).2
        have hrA : ∀ {A2 : Nat → Nat → Int32} {B2 : Nat → Nat → Int64}, fcM c A B A2 B2 → rulAt A2 r (g.2.1.getD r dR) := fun f => rulAt_fr hRA (fun p h1 h2 => f.1 p (by omega) (by omega) (by omega))
        have hnl' := hnl _ hmem
        generalize g.2.1.getD r dR = R at hR hmem hRA hsn hat hrA hnl'
        generalize hD : EO ++ (g.2.1.take r).flatMap (rF o T i j cc V) = D at hcm hdone odone
        have hRA1 := hrA hfr
        have hf16 := hR.2.1
        have hw16 := hR.1
        rw [cl_n (by omega), hRA1.1, hRA1.2.1, hRA1.2.2.1]
        refine ⟨xin_n (by omega) (by omega), if_eq rfl rfl (by omega) (by omega) (fun e => ⟨xin_n (by omega) (by omega), if_if (o2i_iff hR.2.2.1) (fun e2 => ⟨xin_n (by omega) (by omega), ?_⟩) (fun e2 => ?_)⟩) (fun e => ?_)⟩
        · -- a rule of one part
          have hfc := hnl' e2 e
          have hrF : rF o T i j cc V R = (List.range' (625 * R.2.1) 625).flatMap fun x => sOp (o R.1 i j) R x (V x) := by
            unfold rF; rw [if_pos e, if_pos e2, sOps_rng hf16]
          have single : ∀ m t (A2 : Nat → Nat → Int32) (B2 : Nat → Nat → Int64), 625 - t < m → t ≤ 625 → cM A2 B2 c (apv V (D ++ ((List.range' (625 * R.2.1) 625).take t).flatMap fun x => sOp (o R.1 i j) R x (V x))) → fcM c A B A2 B2 → xG l d 157 Q 135 [some (.ref 0), some (.int (nI i)), some (.int (nI j)), some (.int (nI cc)), some (.int (nI c)), some (.int (nI r)), some (.int (nI (625 * R.2.1 + t))), none, none] [] (wM I J A2 B2) 0 0 := by
            intro m
            induction m with
            | zero => intro t A2 B2 hm; omega
            | succ m ih2 =>
              intro t A2 B2 hm ht hcm2 hfr2
              have hRA2 := hrA hfr2
              refine b_X11_fills_135 ⟨xin_n (by omega) (by omega), ?_⟩
              rw [cl_n (by omega), hRA2.2.1]
              refine if_le (a := 625 * R.2.1 + 625) (add_of (mul_of (a := 625) rfl rfl) rfl) rfl (by omega) (by omega) (fun z2 => ?_) (fun z2 => ?_)
              · refine next A2 B2 z ?_ hfr2
                have : t = 625 := by omega
                subst this
                rw [hsn, hrF, ← List.append_assoc, hD]
                rw [List.take_of_length_le (by rw [List.length_range']; omega)] at hcm2
                exact hcm2
              · have ht' : t < 625 := by omega
                have hlen : t < (List.range' (625 * R.2.1) 625).length := by rw [List.length_range']; exact ht'
                have hgd : (List.range' (625 * R.2.1) 625).getD t 0 = 625 * R.2.1 + t := by rw [gD_lt hlen, List.getElem_range']; omega
                have hsnt := fm_snoc (F := fun x => sOp (o R.1 i j) R x (V x)) 0 hlen
                rw [hgd] at hsnt
                have hat2 : ∀ p ∈ sOp (o R.1 i j) R (625 * R.2.1 + t) (V (625 * R.2.1 + t)), p ∈ rF o T i j cc V R := fun p hp => by
                  rw [hrF]; exact fm_at 0 hlen (by rw [hgd]; exact hp)
                have hVx : apv V (D ++ ((List.range' (625 * R.2.1) 625).take t).flatMap fun x => sOp (o R.1 i j) R x (V x)) (625 * R.2.1 + t) = V (625 * R.2.1 + t) := by
                  refine apv_out (cc := cc) (fun p hp => ?_) (by omega)
                  rcases List.mem_append.mp hp with q | q
                  · exact odone p q
                  · exact (rF_in (cc := cc) (T := T) (i := i) (j := j) (o := o) (V := V) hR (by rw [hrF]; exact fm_take q)).2
                have next2 : ∀ (A3 : Nat → Nat → Int32) (B3 : Nat → Nat → Int64), cM A3 B3 c (apv V (D ++ ((List.range' (625 * R.2.1) 625).take (t + 1)).flatMap fun x => sOp (o R.1 i j) R x (V x))) → fcM c A B A3 B3 → xG l d 157 Q 135 [some (.ref 0), some (.int (nI i)), some (.int (nI j)), some (.int (nI cc)), some (.int (nI c)), some (.int (nI r)), some (.int (nI (625 * R.2.1 + t) + 1)), none, none] [] (wM I J A3 B3) 0 0 := by
                  intro A3 B3 k1 k2
                  rw [nI_1]
                  exact ih2 (t + 1) A3 B3 (by omega) (by omega) k1 k2
                have skip : sOp (o R.1 i j) R (625 * R.2.1 + t) (V (625 * R.2.1 + t)) = [] → ∀ (A3 : Nat → Nat → Int32), (∀ p, p ≠ 14 → A3 p = A2 p) → xG l d 157 Q 135 [some (.ref 0), some (.int (nI i)), some (.int (nI j)), some (.int (nI cc)), some (.int (nI c)), some (.int (nI r)), some (.int (nI (625 * R.2.1 + t) + 1)), none, none] [] (wM I J A3 B2) 0 0 := by
                  intro hnil A3 h14
                  refine next2 A3 B2 ?_ (fcM_trans hfr2 (fcM_14 h14))
                  rw [hsnt, hnil, List.append_nil]; exact cM_14 hcm2 h14
                refine s_find (by omega) rfl hc225 rfl (by omega) hcm2.1 hcm2.2.1 (fun k hk => (hcm2.2.2 k hk).1) (fun hn => b_X11_fills_163 ?_) (fun v hv => b_X11_fills_163 ?_)
                · rw [if_pos rfl]
                  rw [hVx] at hn
                  refine skip ?_ A2 (fun _ _ => rfl)
                  rw [hn]; unfold sOp; split <;> simp_all
                · have hix := sL_at (V := apv V (D ++ ((List.range' (625 * R.2.1) 625).take t).flatMap fun x => sOp (o R.1 i j) R x (V x))) (s := 625 * R.2.1 + t) (by omega) (by rw [hv]; rfl)
                  have hbw := hcm2.2.2 _ hix.1
                  rw [hix.2] at hbw
                  have h60 := hcm2.1
                  rw [if_neg (ne_m1 (by omega)), mod625 (by omega)]
                  refine ⟨by decide, s_made (b := 0) (by omega) rfl (by omega) rfl (mod_lt625 _) rfl (by omega) hR hRA2 (fun A3 h14 => b_X11_fills_187 ?_)⟩
                  cases hk : mkK R.2.2.2.1 ((625 * R.2.1 + t) % 625) 0 with
                  | none =>
                    rw [if_pos (show o2i none = -1 from rfl)]
                    refine skip ?_ A3 h14
                    unfold sOp mkS; rw [hk]; rfl
                  | some k =>
                    have hk625 := mkK_lt (by split <;> omega) hR.2.2.2.2.1 hk
                    rw [show o2i (some k) = nI k from rfl]
                    rw [hVx] at hv
                    have hop : sOp (o R.1 i j) R (625 * R.2.1 + t) (V (625 * R.2.1 + t)) = [(625 * R.1 + k, (v.1, o R.1 i j + v.2))] := by
                      unfold sOp mkS; rw [hk, hv]; rfl
                    rw [hVx, hv] at hbw
                    rw [if_neg (ne_m1 (by omega)), show (64 : Int32) * nI c + nI (ix (apv V (D ++ ((List.range' (625 * R.2.1) 625).take t).flatMap fun x => sOp (o R.1 i j) R x (V x))) (625 * R.2.1 + t)) = nI (64 * c + ix (apv V (D ++ ((List.range' (625 * R.2.1) 625).take t).flatMap fun x => sOp (o R.1 i j) R x (V x))) (625 * R.2.1 + t)) from add_of (mul_of (a := 64) rfl rfl) rfl, cl_n (by omega), hbw.2, ← e, show (625 : Int32) * nI R.1 + nI k = nI (625 * R.1 + k) from add_of (mul_of (a := 625) rfl rfl) rfl]
                    refine ⟨xin_n (by omega) (by omega), s_adds (cst := o R.1 i j + v.2) (by omega) rfl hc225 rfl (by omega) rfl (cM_14 hcm2 h14) (fun hn h60 => b_X11_fills_222 ?_) (fun A4 B4 k1 k2 => b_X11_fills_222 ?_)⟩
                    · rw [if_pos rfl]
                      refine ⟨Or.inl rfl, hE A3 B2 ?_ (fcM_trans hfr2 (fcM_14 h14))⟩
                      refine apv_61 (op := (625 * R.1 + k, (v.1, o R.1 i j + v.2))) h60 hn (by show 625 * R.1 + k < 10000; omega) (fun p hp => ?_) (hat _ (hat2 _ (by rw [hop]; exact List.mem_singleton.mpr rfl)))
                      rcases List.mem_append.mp hp with q | q
                      · exact hdone p q
                      · exact hat p (by rw [hrF]; exact fm_take q)
                    · rw [if_neg (by decide)]
                      have hh := next2 A4 B4 ?_ (fcM_trans (fcM_trans hfr2 (fcM_14 h14)) k2)
                      · rw [← e] at hh; exact hh
                      · rw [hsnt, hop, ← List.append_assoc, ← apv_app]; exact k1
          have h0 := single _ 0 A1 B1 (Nat.lt_succ_self _) (by omega) (by simpa using hcm) hfr
          rw [show (625 : Int32) * nI R.2.1 = nI (625 * R.2.1 + 0) from mul_of (a := 625) rfl rfl]; exact h0
        · -- a rule of two parts
          obtain ⟨c2, hc2⟩ : ∃ c2, R.2.2.1 = some c2 := by
            cases q : R.2.2.1 with
            | none => exact absurd q e2
            | some c2 => exact ⟨c2, rfl⟩
          have hrF : rF o T i j cc V R = (mids i j).flatMap fun m => jOps o R i j (T i m) (T m j) := by
            unfold rF; rw [if_pos e, if_neg e2]
          have hml : (mids i j).length = j - 1 - i := by unfold mids; rw [List.length_range']
          have pairsL : ∀ m t (A2 : Nat → Nat → Int32) (B2 : Nat → Nat → Int64), (j - 1 - i) - t < m → t ≤ j - 1 - i → cM A2 B2 c (apv V (D ++ ((mids i j).take t).flatMap fun m => jOps o R i j (T i m) (T m j))) → fcM c A B A2 B2 → xG l d 157 Q 241 [some (.ref 0), some (.int (nI i)), some (.int (nI j)), some (.int (nI cc)), some (.int (nI c)), some (.int (nI r)), some (.int (nI (i + 1 + t))), none, none] [] (wM I J A2 B2) 0 0 := by
            intro m
            induction m with
            | zero => intro t A2 B2 hm; omega
            | succ m ih2 =>
              intro t A2 B2 hm ht hcm2 hfr2
              refine b_X11_fills_241 (if_le rfl rfl (by omega) (by omega) (fun z2 => ?_) (fun z2 => ?_))
              · refine next A2 B2 z ?_ hfr2
                rw [hsn, hrF, ← List.append_assoc, hD]
                rw [List.take_of_length_le (by omega)] at hcm2
                exact hcm2
              · have hlen : t < (mids i j).length := by omega
                have hgd : (mids i j).getD t 0 = i + 1 + t := by
                  show (List.range' (i + 1) (j - 1 - i)).getD t 0 = _
                  rw [gD_lt (by rw [List.length_range']; omega), List.getElem_range']; omega
                have hsnt := fm_snoc (F := fun m => jOps o R i j (T i m) (T m j)) 0 hlen
                rw [hgd] at hsnt
                have hTm := hT (i + 1 + t) (by omega) (by omega)
                refine s_cell (by omega) rfl rfl (b_X11_fills_256 (s_cell (by omega) rfl rfl (b_X11_fills_262 (s_joins (o := o) (i := i) (j := j) (by omega) rfl (by omega) rfl rfl rfl (by omega) (by omega) hc225 (by omega) (by omega) hR (hrA hfr2) hc2 (cM_fr hTm.1 hfr2 (by omega)) (cM_fr hTm.2 hfr2 (by omega)) hcm2 (fun A3 B3 h61 k2 => b_X11_fills_267 ?_) (fun A3 B3 k1 k2 => b_X11_fills_267 ?_)))))
                · rw [if_pos rfl]
                  refine ⟨Or.inl rfl, hE A3 B3 ?_ (fcM_trans hfr2 k2)⟩
                  refine Nat.le_trans h61 (sL_mono fun x hx => ?_)
                  rw [apv_app] at hx
                  refine apv_sub (fun p hp => ?_) hx
                  rcases List.mem_append.mp hp with q | q
                  · rcases List.mem_append.mp q with q | q
                    · exact hdone p q
                    · exact hat p (by rw [hrF]; exact fm_take q)
                  · exact hat p (by rw [hrF]; exact fm_at 0 hlen (by rw [hgd]; exact q))
                · rw [if_neg (by decide), nI_1]
                  refine ih2 (t + 1) A3 B3 (by omega) (by omega) ?_ (fcM_trans hfr2 k2)
                  rw [hsnt, ← List.append_assoc, ← apv_app]; exact k1
          have h0 := pairsL _ 0 A1 B1 (Nat.lt_succ_self _) (by omega) (by simpa using hcm) hfr
          rw [nI_1]; exact h0
        · refine next A1 B1 z ?_ hfr
          rw [hsn, show rF o T i j cc V R = [] by unfold rF; rw [if_neg e], List.append_nil, hD]; exact hcm
  -- entries
  have toRules : ∀ (A1 : Nat → Nat → Int32) (B1 : Nat → Nat → Int64), cM A1 B1 c (apv V EO) → fcM c A B A1 B1 → xG l d 157 Q 88 [some (.ref 0), some (.int (nI i)), some (.int (nI j)), some (.int (nI cc)), some (.int (nI c)), some (.int 0), none, none, none] [] (wM I J A1 B1) 0 0 := fun A1 B1 k1 k2 => rules _ 0 A1 B1 (Nat.lt_succ_self _) (by omega) (by simpa using k1) k2
  have ents : ∀ m e (A1 : Nat → Nat → Int32) (B1 : Nat → Nat → Int64), g.1.length - e < m → e ≤ g.1.length → (j ≠ i + 1 → e = 0) → cM A1 B1 c (apv V (if j = i + 1 then (g.1.take e).flatMap (eF o w i cc) else [])) → fcM c A B A1 B1 → xG l d 157 Q 10 [some (.ref 0), some (.int (nI i)), some (.int (nI j)), some (.int (nI cc)), some (.int (nI c)), some (.int (nI e)), none, none, none] [] (wM I J A1 B1) 0 0 := by
    intro m
    induction m with
    | zero => intro e A1 B1 hm; omega
    | succ m ih =>
      intro e A1 B1 hm he hne hcm hfr
      refine b_X11_fills_10 (if_le h22 rfl (by omega) (by omega) (fun z => toRules A1 B1 ?_ hfr) (fun z => if_eq (b := i + 1) rfl (nI_1 i) (by omega) (by omega) (fun q => ?_) (fun q => toRules A1 B1 ?_ hfr)))
      · rw [← hEO]; unfold eO
        rw [List.take_of_length_le z] at hcm; exact hcm
      · rw [if_pos q] at hcm
        have hEo : EO = g.1.flatMap (eF o w i cc) := by rw [← hEO]; unfold eO; rw [if_pos q]
        have hE1 := (hes.2 e z).1
        have hEA : entAt A B e (g.1.getD e dE) := by have := (hes.2 e z).2; rwa [Nat.zero_add] at this
        have hsn : (g.1.take (e + 1)).flatMap (eF o w i cc) = (g.1.take e).flatMap (eF o w i cc) ++ eF o w i cc (g.1.getD e dE) := fm_snoc dE z
        have hat : ∀ p ∈ eF o w i cc (g.1.getD e dE), p ∈ EO ++ g.2.1.flatMap (rF o T i j cc V) := fun p hp => List.mem_append.mpr (Or.inl (by rw [hEo]; exact fm_at dE z hp))
        generalize g.1.getD e dE = E at hE1 hEA hsn hat
        have next : ∀ (A2 : Nat → Nat → Int32) (B2 : Nat → Nat → Int64), cM A2 B2 c (apv V ((g.1.take (e + 1)).flatMap (eF o w i cc))) → fcM c A B A2 B2 → xG l d 157 Q 10 [some (.ref 0), some (.int (nI i)), some (.int (nI j)), some (.int (nI cc)), some (.int (nI c)), some (.int (nI e + 1)), none, none, none] [] (wM I J A2 B2) 0 0 := by
          intro A2 B2 k1 k2
          rw [nI_1]
          exact ih (e + 1) A2 B2 (by omega) (by omega) (fun hh => absurd q hh) (by rw [if_pos q]; exact k1) k2
        have l1 := hE1.2.1
        have l2 := hE1.2.2
        have b2 : B1 2 = B 2 := hfr.2.2.2 2 (by decide)
        have b16 : B1 16 = B 16 := hfr.2.2.2 16 (by decide)
        have a4 : A1 4 = A 4 := hfr.1 4 (by decide) (by decide) (by decide)
        have a5 : A1 5 = A 5 := hfr.1 5 (by decide) (by decide) (by decide)
        rw [cl_n (by omega), cl_n (by omega), a4, a5, b2, b16, hEA.2.1, hEA.2.2]
        refine ⟨xin_n (by omega) (by omega), if_eq rfl rfl (by omega) (by omega) (fun e1 => ⟨xin_n (by omega) (by omega), xin_n (by omega) (by omega), if_if (show lg_cmp (B 2 e) (B 16 i) = 0 ↔ E.1 = w from lg0.trans (by rw [hEA.1, hsaid]; exact nm_eq hE1.1 hw)) (fun e2 => ⟨xin_n (by omega) (by omega), ?_⟩) (fun e2 => next A1 B1 ?_ hfr)⟩) (fun e1 => next A1 B1 ?_ hfr)⟩
        · have hop : eF o w i cc E = [(eSg E, (1, o E.2.1 i (i + 1)))] := by unfold eF; rw [if_pos e1, if_pos e2]
          have hsg : eSg E < 10000 := by unfold eSg; omega
          refine s_adds (s := eSg E) (n := 1) (cst := o E.2.1 i (i + 1)) (by omega) rfl hc225 (by rw [← e1]; exact add_of (mul_of (a := 625) rfl rfl) rfl) hsg rfl hcm (fun hn h60 => b_X11_fills_74 ?_) (fun A4 B4 k1 k2 => b_X11_fills_74 ?_)
          · rw [if_pos rfl]
            refine ⟨Or.inl rfl, hE A1 B1 ?_ hfr⟩
            refine apv_61 (op := (eSg E, (1, o E.2.1 i (i + 1)))) h60 hn hsg (fun p hp => List.mem_append.mpr (Or.inl (by rw [hEo]; exact fm_take hp))) (hat _ (by rw [hop]; exact List.mem_singleton.mpr rfl))
          · rw [if_neg (by decide)]
            refine next A4 B4 ?_ (fcM_trans hfr k2)
            rw [hsn, hop, ← apv_app]; exact k1
        · rw [hsn, show eF o w i cc E = [] by unfold eF; rw [if_pos e1, if_neg e2], List.append_nil]; exact hcm
        · rw [hsn, show eF o w i cc E = [] by unfold eF; rw [if_neg e1], List.append_nil]; exact hcm
      · rw [← hEO]; unfold eO
        rw [if_neg q] at hcm ⊢; exact hcm
  refine e_X11_fills (s_cell (by omega) rfl rfl (b_X11_fills_5 ?_))
  rw [hc]
  exact ents _ 0 A B (Nat.lt_succ_self _) (by omega) (fun _ => rfl) (by simpa [apv_nil] using hV) (fcM_refl c A B)
end M17
