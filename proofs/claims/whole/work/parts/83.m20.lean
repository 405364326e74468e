/-! ===== the reference against the state: read and what is easy ===== -/
theorem gM_fr {I I' : Nat → Int32} {A A' : Nat → Nat → Int32} {B B' : Nat → Nat → Int64} {g : Gram} (h : gM I A B g) (hI : ∀ i, 22 ≤ i → i ≤ 24 → I' i = I i) (hA : ∀ p, 4 ≤ p → p ≤ 13 → p ≠ 12 → A' p = A p) (hB : ∀ p, 2 ≤ p → p ≤ 3 → B' p = B p) : gM I' A' B' g := by
  obtain ⟨h1, h2, h3, h4, h5, h6, h7⟩ := h
  refine ⟨by rw [hI 22 (by omega) (by omega)]; exact h1, by rw [hI 23 (by omega) (by omega)]; exact h2, by rw [hI 24 (by omega) (by omega)]; exact h3, ?_, ⟨h5.1, fun r hr => ⟨(h5.2 r hr).1, rulAt_fr (h5.2 r hr).2 (fun p a b => hA p (by omega) (by omega) (by omega))⟩⟩, ?_, fun k hk => by rw [hA 13 (by omega) (by omega) (by omega)]; exact h7 k hk⟩
  · unfold entsM entAt at h4 ⊢
    rw [hA 4 (by omega) (by omega) (by omega), hA 5 (by omega) (by omega) (by omega), hB 2 (by omega) (by omega)]; exact h4
  · unfold catO at h6 ⊢
    rw [hB 3 (by omega) (by omega)]; exact h6
theorem chM_fr {A A' : Nat → Nat → Int32} {B B' : Nat → Nat → Int64} {g : Gram} {o : Own} {ws : List (List Nat)} (h : chM A B g o ws) (h17 : A' 17 = A 17) (h18 : A' 18 = A 18) (hB : B' 20 = B 20) : chM A' B' g o ws := fun i j a b => by
  have := h i j a b
  unfold cM at this ⊢
  rw [h17, h18, hB]; exact this
theorem mNd_fr {I I' : Nat → Int32} {A A' : Nat → Nat → Int32} {nd : List Nd} (h : mNd I A nd) (hI : I' 39 = I 39) (hA : ∀ p, 21 ≤ p → p ≤ 25 → A' p = A p) : mNd I' A' nd := by
  refine ⟨by rw [hI]; exact h.1, fun k hk => ?_⟩
  rw [hA 21 (by omega) (by omega), hA 22 (by omega) (by omega), hA 23 (by omega) (by omega), hA 24 (by omega) (by omega), hA 25 (by omega) (by omega)]; exact h.2 k hk
theorem mDr_fr {I I' : Nat → Int32} {A A' : Nat → Nat → Int32} {D : List (Nat × Nat × Nat)} (h : mDr I A D) (hI : I' 48 = I 48) (hA : ∀ p, 27 ≤ p → p ≤ 29 → A' p = A p) : mDr I' A' D := by
  refine ⟨by rw [hI]; exact h.1, fun k hk => ?_⟩
  rw [hA 27 (by omega) (by omega), hA 28 (by omega) (by omega), hA 29 (by omega) (by omega)]; exact h.2 k hk
def nI_m (i : Nat) : Prop := i = 10 ∨ (22 ≤ i ∧ i ≤ 24) ∨ i = 28 ∨ i = 32 ∨ i = 39 ∨ i = 48 ∨ i = 53
def nA_m (p : Nat) : Prop := (4 ≤ p ∧ p ≤ 11) ∨ p = 13 ∨ p = 17 ∨ p = 18 ∨ (21 ≤ p ∧ p ≤ 25) ∨ (27 ≤ p ∧ p ≤ 30)
def nB_m (p : Nat) : Prop := p = 2 ∨ p = 3 ∨ p = 15 ∨ p = 20
theorem mInv_t {S : St} {I I' : Nat → Int32} {A A' : Nat → Nat → Int32} {B B' : Nat → Nat → Int64} (h : mInv S I A B) {t : Nat → Nat} {n : Nat} (ht : tpM A' t n) (hn : I' 2 = nI n) (hI : ∀ i, nI_m i → I' i = I i) (hA : ∀ p, nA_m p → A' p = A p) (hB : ∀ p, nB_m p → B' p = B p) : mInv (S.setT t n) I' A' B' := by
  obtain ⟨h0, _, _, h3, h4, h5, h6, h7, h8, h9, h10, h11⟩ := h
  refine ⟨h0, ht, hn, gM_fr h3 (fun i a b => hI i (by unfold nI_m; omega)) (fun p a b c => hA p (by unfold nA_m; omega)) (fun p a b => hB p (by unfold nB_m; omega)), fun q => h4 (by rw [← hI 28 (by unfold nI_m; omega)]; exact q), (hI _ (by unfold nI_m; omega)).trans h5, fun k hk => ?_, mDr_fr h7 (hI _ (by unfold nI_m; omega)) (fun p a b => hA p (by unfold nA_m; omega)), fun e => chM_fr (h8 e) (hA _ (by unfold nA_m; omega)) (hA _ (by unfold nA_m; omega)) (hB _ (by unfold nB_m; omega)), mNd_fr h9 (hI _ (by unfold nI_m; omega)) (fun p a b => hA p (by unfold nA_m; omega)), ⟨(hI _ (by unfold nI_m; omega)).trans h10.1, fun k hk => by rw [hA 30 (by unfold nA_m; omega)]; exact h10.2 k hk⟩, (hI _ (by unfold nI_m; omega)).trans h11⟩
  rw [hB 15 (by unfold nB_m; omega)]; exact h6 k hk
theorem mInv_0 {S : St} {I I' : Nat → Int32} {A : Nat → Nat → Int32} {B : Nat → Nat → Int64} (h : mInv S I A B) (hI : ∀ i, i ≠ 0 → I' i = I i) : mInv S I' A B :=
  mInv_t (t := S.t) (n := S.n) h h.2.1 (by rw [hI 2 (by decide)]; exact h.2.2.1) (fun i hi => hI i (by unfold nI_m at hi; omega)) (fun _ _ => rfl) (fun _ _ => rfl)
/-- a span that there is -/
def isSpB (S : St) (x y : Int32) : Prop := 0 ≤ x ∧ x < y ∧ y ≤ nI S.ws.length
theorem span_n {x y : Int32} {n : Nat} (hn : n ≤ 14) (h0 : ¬ x < 0) (h1 : ¬ y ≤ x) (h2 : ¬ nI n < y) : ∃ i j, x = nI i ∧ y = nI j ∧ i < j ∧ j ≤ n := by
  rw [Int32.lt_iff_toInt_lt] at h0 h2
  rw [Int32.le_iff_toInt_le] at h1
  rw [nI_toInt (by omega)] at h2
  rw [show (0 : Int32).toInt = 0 by decide] at h0
  refine ⟨x.toInt.toNat, y.toInt.toNat, ?_, ?_, by omega, by omega⟩
  · refine Int32.toInt_inj.mp ?_
    rw [nI_toInt (by omega)]; omega
  · refine Int32.toInt_inj.mp ?_
    rw [nI_toInt (by omega)]; omega
def spB (n : Nat) (x y : Int32) : Bool := decide (¬ x < 0) && (decide (¬ y ≤ x) && decide (¬ nI n < y))
theorem spB_n {x y : Int32} {n : Nat} (hn : n ≤ 14) (h : spB n x y = true) : ∃ i j, x = nI i ∧ y = nI j ∧ i < j ∧ j ≤ n := by
  unfold spB at h
  rw [Bool.and_eq_true, Bool.and_eq_true] at h
  exact span_n hn (of_decide_eq_true h.1) (of_decide_eq_true h.2.1) (of_decide_eq_true h.2.2)
section M20
variable {l : Launch} {J : Nat → Int64} {A : Nat → Nat → Int32} {B : Nat → Nat → Int64} {Q : Option Value → XW → Prop} {d : Nat} {I : Nat → Int32} {S : St}
theorem m_read (hd : 7 ≤ d) (h : mInv S I A B)
    (hQ : ∀ (I' : Nat → Int32) (J' : Nat → Int64) (A' : Nat → Nat → Int32) (B' : Nat → Nat → Int64), mInv (stRead S) I' A' B' → Q (some (.int (anRead S))) (wM I' J' A' B')) : xK l d 160 [.ref 0] (wM I J A B) Q := by
  have hI := h
  obtain ⟨hok, ht, h2, hg, h28, h32, hws, hdr, hch, hnd, hout, hft⟩ := h
  obtain ⟨hv, hl14⟩ := pWords_v S.t S.n
  refine s_read (t := S.t) (n := S.n) (o := oD []) ht (by omega) h2 hg hok.1 h28 (fun I' J' B' hc k0 k2 k3 k4 k5 => ?_) (fun I' J' A' B' c1 c2 c3 k0 k2 k32 k39 k48 k3 k4 k5 k6 => ?_) (fun I' J' A' B' c1 c2 c3 c4 c5 k0 k2 k32 k39 k48 k3 k4 k5 k6 => ?_)
  · have hc' : (pWords S.t S.n).length = 0 ∨ S.g.2.1.length = 0 := hc.imp (fun q => by rw [q]; rfl) (fun q => by rw [q]; rfl)
    have := hQ I' J' A B'
    unfold stRead anRead at this
    rw [if_pos hc', if_pos hc'] at this
    refine this ?_
    rw [← setT_id]
    exact mInv_t hI (tpM_0 _) k2 (fun i hi => by unfold nI_m at hi; exact k3 i (by omega) (by omega) (by omega) (by omega) (by omega) (by omega) (by omega)) (fun _ _ => rfl) (fun p hp => by unfold nB_m at hp; exact k5 p (by omega))
  all_goals
    have hnn : ¬ ((pWords S.t S.n).length = 0 ∨ S.g.2.1.length = 0) := fun q => by
      rcases q with q | q
      · exact c1 (List.length_eq_zero_iff.mp q)
      · exact c2 (List.length_eq_zero_iff.mp q)
    have fI : ∀ i, (i = 10 ∨ (22 ≤ i ∧ i ≤ 24) ∨ i = 28 ∨ i = 53) → I' i = I i := fun i hi => k3 i (by omega) (by omega) (by omega) (by omega) (by omega) (by omega) (by omega) (by omega) (by omega) (by omega)
    have hgm : gM I' A' B' S.g := gM_fr hg (fun i a b => fI i (by omega)) (fun p a b c => k5 p (by omega) (by omega) (by omega)) (fun p a b => k6 p (by omega) (by omega) (by omega))
    have hq := hQ I' J' A' B'
    unfold stRead anRead stRead at hq
    rw [if_neg hnn, if_neg hnn] at hq
  · have hob : ¬ okChB S.g (pWords S.t S.n) = true := fun q => c3 ((okChB_iff hl14).mp q)
    rw [if_neg hob, if_neg hob] at hq
    refine hq ⟨⟨hok.1, Nat.zero_le _, fun w hw => (nomatch hw), fun q => absurd rfl q, Nat.zero_le _, fun p hp => (nomatch hp), Nat.zero_le _, fun p hp => (nomatch hp), hok.2.2.2.2.2.2.2.2⟩, tpM_0 _, k2, hgm, fun q => h28 (by rw [← fI 28 (by omega)]; exact q), k32, fun k hk => (by cases hk), ⟨k48, fun k hk => (by cases hk)⟩, fun q => absurd rfl q, ⟨k39, fun k hk => (by cases hk)⟩, ⟨by rw [fI 53 (by omega)]; exact hout.1, fun k hk => by rw [k5 30 (by decide) (by decide) (by decide)]; exact hout.2 k hk⟩, by rw [fI 10 (by omega)]; exact hft⟩
  · have hob : okChB S.g (pWords S.t S.n) = true := (okChB_iff hl14).mpr c3
    rw [if_pos hob, if_pos hob] at hq
    have htr : trT (mkSt S.t 0 S.g (pWords S.t S.n) [] [] S.out S.ft) = rtT (rtC S.g) (ch S.g (oD []) (pWords S.t S.n) 0 (pWords S.t S.n).length) := if_neg c1
    rw [htr] at hq
    refine hq ⟨⟨hok.1, hl14, hv, fun _ => ⟨c2, c3⟩, Nat.zero_le _, fun p hp => (nomatch hp), Nat.zero_le _, fun p hp => (nomatch hp), hok.2.2.2.2.2.2.2.2⟩, tpM_0 _, k2, hgm, fun q => h28 (by rw [← fI 28 (by omega)]; exact q), k32, c5, ⟨k48, fun k hk => (by cases hk)⟩, fun _ => c4, ⟨k39, fun k hk => (by cases hk)⟩, ⟨by rw [fI 53 (by omega)]; exact hout.1, fun k hk => by rw [k5 30 (by decide) (by decide) (by decide)]; exact hout.2 k hk⟩, by rw [fI 10 (by omega)]; exact hft⟩
theorem m_trees (hd : 2 ≤ d) (h : mInv S I A B) (hQ : ∀ (I' : Nat → Int32), mInv S I' A B → Q (some (.long (lN (sat (trT S))))) (wM I' J A B)) : xK l d 161 [.ref 0] (wM I J A B) Q := by
  have hq := hQ (upd I 0 0) (mInv_0 h (fun i hi => un_i hi))
  obtain ⟨hok, ht, h2, hg, h28, h32, hws, hdr, hch, hnd, hout, hft⟩ := h
  by_cases e : S.ws = []
  · rw [show trT S = 0 from if_pos e] at hq
    rw [e] at h32
    exact s_trees0 (by omega) h32 hq
  · have hl : 0 < S.ws.length := List.length_pos_iff.mpr e
    have hrn : 0 < S.g.2.1.length := List.length_pos_iff.mpr (hok.2.2.2.1 e).1
    have hrt : rtC S.g < 16 := (hok.1.2.1 _ (getD_mem hrn dR)).1
    have hc0 := hch e 0 S.ws.length hl (Nat.le_refl _)
    rw [show 15 * 0 + S.ws.length = S.ws.length by omega] at hc0
    rw [show trT S = rtT (rtC S.g) (ch S.g (oD []) S.ws 0 S.ws.length) from if_neg e] at hq
    exact s_trees (by omega) h32 (by omega) hok.2.1 hc0 (hg.2.2.2.2.1.2 0 hrn).2.1 hrt hq
theorem m_fault (hd : 1 ≤ d) (h : mInv S I A B) (hQ : ∀ (I' : Nat → Int32), mInv S I' A B → Q (some (.int (nI S.ft))) (wM I' J A B)) : xK l d 149 [.ref 0] (wM I J A B) Q := by
  obtain ⟨d, rfl⟩ : ∃ e, d = e + 1 := ⟨d - 1, by omega⟩
  refine e_X11_fault ?_
  rw [h.2.2.2.2.2.2.2.2.2.2.2]
  exact hQ _ (mInv_0 h (fun i hi => un_i hi))
def stEnd (S : St) (x : Int32) : St := if x < 0 then S else if x ≤ nI S.n then S.setN x.toNatClampNeg else S
def anEnd (S : St) (x : Int32) : Int32 := if x < 0 then 0 else if x ≤ nI S.n then 1 else 0
theorem nn_eq {x : Int32} (h : ¬ x < 0) : x = nI x.toNatClampNeg := by
  rw [Int32.lt_iff_toInt_lt, show (0 : Int32).toInt = 0 by decide] at h
  have e : (x.toNatClampNeg : Int) = x.toInt := by
    have : x.toNatClampNeg = x.toInt.toNat := rfl
    omega
  have hb := Int32.toInt_lt x
  refine Int32.toInt_inj.mp ?_
  rw [nI_toInt (by omega), e]
theorem m_end (hd : 1 ≤ d) {x : Int32} (h : mInv S I A B) (hQ : ∀ (I' : Nat → Int32), mInv (stEnd S x) I' A B → Q (some (.int (anEnd S x))) (wM I' J A B)) : xK l d 128 [.ref 0, .int x] (wM I J A B) Q := by
  obtain ⟨d, rfl⟩ : ∃ e, d = e + 1 := ⟨d - 1, by omega⟩
  have h1540 := h.2.1.1
  have same := mInv_0 (I' := upd I 0 0) h (fun i hi => un_i hi)
  unfold stEnd anEnd at hQ
  refine e_X11_end ?_
  rw [h.2.2.1]
  by_cases c : x < 0
  · rw [if_pos c]
    rw [if_pos c, if_pos c] at hQ
    exact ⟨Or.inl rfl, hQ _ same⟩
  · rw [if_neg c]
    rw [if_neg c, if_neg c] at hQ
    by_cases e : x ≤ nI S.n
    · rw [if_pos e]
      rw [if_pos e, if_pos e] at hQ
      have hx := nn_eq c
      have hle : x.toNatClampNeg ≤ S.n := by
        rw [hx] at e
        have hb := Int32.toInt_lt x
        have : x.toNatClampNeg = x.toInt.toNat := rfl
        exact (le_n (by omega) (by omega)).mp e
      refine ⟨Or.inr rfl, hQ _ ?_⟩
      rw [← setT_id]
      exact mInv_t h ⟨by omega, fun i hi => h.2.1.2 i (by omega)⟩ (by rw [ue_i]; exact hx) (fun i hi => by unfold nI_m at hi; rw [un_i (by omega), un_i (by omega)]) (fun _ _ => rfl) (fun _ _ => rfl)
    · rw [if_neg e]
      rw [if_neg e, if_neg e] at hQ
      exact ⟨Or.inl rfl, hQ _ same⟩
theorem m_wipe (hd : 1 ≤ d) (h : mInv S I A B) (hQ : ∀ (I' : Nat → Int32), mInv (mkSt S.t S.n S.g S.ws [] S.nd S.out S.ft) I' A B → Q (some (.int (nI S.D.length))) (wM I' J A B)) : xK l d 175 [.ref 0] (wM I J A B) Q := by
  obtain ⟨d, rfl⟩ : ∃ e, d = e + 1 := ⟨d - 1, by omega⟩
  refine e_X11_wipe ?_
  obtain ⟨hok, ht, h2, hg, h28, h32, hws, hdr, hch, hnd, hout, hft⟩ := h
  rw [hdr.1]
  refine hQ _ ⟨⟨hok.1, hok.2.1, hok.2.2.1, hok.2.2.2.1, Nat.zero_le _, fun p hp => (nomatch hp), hok.2.2.2.2.2.2⟩, ht, ?_, gM_fr hg (fun i a b => ?_) (fun _ _ _ _ => rfl) (fun _ _ _ => rfl), ?_, ?_, hws, ⟨ue_i _ _ _, fun k hk => (by cases hk)⟩, hch, mNd_fr hnd ?_ (fun _ _ _ => rfl), ⟨?_, hout.2⟩, ?_⟩
  · rw [un_i (by decide), un_i (by decide)]; exact h2
  · rw [un_i (by omega), un_i (by omega)]
  · rw [un_i (by decide), un_i (by decide)]; exact h28
  · rw [un_i (by decide), un_i (by decide)]; exact h32
  · rw [un_i (by decide), un_i (by decide)]
  · rw [un_i (by decide), un_i (by decide)]; exact hout.1
  · rw [un_i (by decide), un_i (by decide)]; exact hft
theorem s_isCell (hd : 1 ≤ d) {x y : Int32} {n : Nat} (h32 : I 32 = nI n) (hQ : Q (some (.int (bI (spB n x y)))) (wM I J A B)) : xK l d 162 [.ref 0, .int x, .int y] (wM I J A B) Q := by
  obtain ⟨d, rfl⟩ : ∃ e, d = e + 1 := ⟨d - 1, by omega⟩
  unfold spB at hQ
  refine e_X11_isCell ?_
  rw [h32]
  by_cases c : x < 0
  · rw [if_pos c]; rw [decide_eq_false (not_not_intro c)] at hQ; exact ⟨Or.inl rfl, hQ⟩
  · rw [if_neg c]
    rw [decide_eq_true c] at hQ
    by_cases e : y ≤ x
    · rw [if_pos e]; rw [decide_eq_false (not_not_intro e)] at hQ; exact ⟨Or.inl rfl, hQ⟩
    · rw [if_neg e]
      rw [decide_eq_true e] at hQ
      by_cases f : nI n < y
      · rw [if_pos f]; rw [decide_eq_false (not_not_intro f)] at hQ; exact ⟨Or.inl rfl, hQ⟩
      · rw [if_neg f]; rw [decide_eq_true f] at hQ; exact ⟨Or.inr rfl, hQ⟩
def anSigns (S : St) (x y : Int32) : Int32 := if spB S.ws.length x y = true then nI (sL (ch S.g (oD []) S.ws x.toNatClampNeg y.toNatClampNeg)).length else -1
theorem m_signs (hd : 2 ≤ d) {x y : Int32} (h : mInv S I A B) (hQ : ∀ (I' : Nat → Int32), mInv S I' A B → Q (some (.int (anSigns S x y))) (wM I' J A B)) : xK l d 163 [.ref 0, .int x, .int y] (wM I J A B) Q := by
  obtain ⟨d, rfl⟩ : ∃ e, d = e + 1 := ⟨d - 1, by omega⟩
  have hq := hQ (upd I 0 0) (mInv_0 h (fun i hi => un_i hi))
  unfold anSigns at hq
  obtain ⟨hok, ht, h2, hg, h28, h32, hws, hdr, hch, hnd, hout, hft⟩ := h
  refine e_X11_signs (s_isCell (by omega) (by rw [un_i (by decide)]; exact h32) (b_X11_signs_11 (if_bI rfl (fun e => ?_) (fun e => ?_))))
  · rw [e, if_neg (by decide)] at hq; exact hq
  · rw [if_pos e] at hq
    obtain ⟨i, j, rfl, rfl, hij, hj⟩ := spB_n hok.2.1 e
    have h14 := hok.2.1
    rw [cl_n (by omega), cl_n (by omega)] at hq
    have hne : S.ws ≠ [] := fun q => by rw [q] at hj; simp at hj; omega
    have hc := hch hne i j hij hj
    refine s_cell (by omega) rfl rfl (b_X11_signs_23 ⟨xin_n (by omega) (by omega), ?_⟩)
    rw [cl_n (by omega), hc.2.1]; exact hq
end M20
