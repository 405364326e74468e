/-! ===== a category's name told, both sides ===== -/
theorem c27_tk {L : List Nat} {k : Nat} (h : k < L.length) : c27 (L.take (k + 1)) = 27 * c27 (L.take k) + L.getD k 0 := by rw [take_snoc L 0 h, c27_snoc]
theorem c32_tk {L : List Nat} {k : Nat} (h : k < L.length) : c32 (L.take (k + 1)) = 32 * c32 (L.take k) + L.getD k 0 := by rw [take_snoc L 0 h, c32_snoc]
theorem vNm_tk {L : List Nat} (h : vNm L) (k : Nat) : vNm (L.take k) := ⟨fun x hx => h.1 x (List.mem_of_mem_take hx), by have := h.2; rw [List.length_take]; omega⟩
theorem vNm_d {L : List Nat} (h : vNm L) {k : Nat} (hk : k < L.length) : 1 ≤ L.getD k 0 ∧ L.getD k 0 ≤ 26 := h.1 _ (getD_mem hk 0)
theorem map_gD {L : List Nat} {i : Nat} (h : i < L.length) : (L.map (96 + ·)).getD i 0 = 96 + L.getD i 0 := by
  rw [gD_lt h, gD_lt (show i < (L.map (96 + ·)).length by rw [List.length_map]; exact h), List.getElem_map]
def nmB' (S : St) (x : Int32) : Bool := decide (¬ x < 0) && decide (x < nI S.g.2.2.length)
def stNm (S : St) (x : Int32) : St := if nmB' S x = true then mkSt S.t S.n S.g S.ws S.D S.nd ((S.g.2.2.getD x.toNatClampNeg []).map (96 + ·)) S.ft else S
def anNm (S : St) (x : Int32) : Int32 := if nmB' S x = true then nI (S.g.2.2.getD x.toNatClampNeg []).length else -1
theorem nmB_n {S : St} (h : stOk S) {x : Int32} (e : nmB' S x = true) : ∃ c, x = nI c ∧ c < S.g.2.2.length := by
  unfold nmB' at e
  rw [Bool.and_eq_true] at e
  have e1 := of_decide_eq_true e.1
  have e2 := of_decide_eq_true e.2
  have hk := nn_eq e1
  have h16 := h.1.2.2.1
  refine ⟨x.toNatClampNeg, hk, ?_⟩
  rw [hk] at e2
  have hb := Int32.toInt_lt x
  have : x.toNatClampNeg = x.toInt.toNat := rfl
  exact (lt_n (by omega) (by omega)).mp e2
theorem stNm_ok {S : St} (h : stOk S) {L : List Nat} (hL : vNm L) : stOk (mkSt S.t S.n S.g S.ws S.D S.nd (L.map (96 + ·)) S.ft) := by
  refine ⟨h.1, h.2.1, h.2.2.1, h.2.2.2.1, h.2.2.2.2.1, h.2.2.2.2.2.1, h.2.2.2.2.2.2.1, h.2.2.2.2.2.2.2.1, ?_, fun b hb => ?_, rfl, h.2.2.2.2.2.2.2.2.2.2.2⟩
  · show (L.map (96 + ·)).length ≤ 10
    rw [List.length_map]; exact hL.2
  · obtain ⟨y, hy, rfl⟩ := List.mem_map.mp hb
    have := hL.1 y hy
    show 96 + y < 128; omega
theorem lN32 : ∀ v, v < 32 → (lN v).toInt32 = nI v := by decide +kernel
theorem nar96 : ∀ v, v < 27 → vp_nar .byte ((96 + nI v : Int32)).toInt8.toInt32 = nI (96 + v) := by decide +kernel
theorem shrL5 {m : Nat} (hm : m < 9223372036854775808) : lN m >>> ((5 : Int32).toInt64 &&& 63) = lN (m / 32) := by
  rw [show ((5 : Int32).toInt64 &&& 63) = lN 5 by decide +kernel]
  apply Int64.toBitVec_inj.1
  show (BitVec.ofNat 64 m).sshiftRight ((BitVec.ofNat 64 5).smod 64).toNat = BitVec.ofNat 64 (m / 32)
  have hd : m / 32 ≤ m := Nat.div_le_self _ _
  have hmsb : (BitVec.ofNat 64 m).msb = false := by
    rw [BitVec.msb_eq_decide, BitVec.toNat_ofNat, Nat.mod_eq_of_lt (by omega)]
    simp; omega
  rw [wb_sm 5 (by omega), BitVec.sshiftRight_eq_of_msb_false hmsb]
  apply BitVec.eq_of_toNat_eq
  rw [BitVec.toNat_ushiftRight, BitVec.toNat_ofNat, BitVec.toNat_ofNat, BitVec.toNat_ofNat, Nat.mod_eq_of_lt (by omega), Nat.mod_eq_of_lt (a := 5) (by omega), Nat.mod_eq_of_lt (by omega), Nat.shiftRight_eq_div_pow]
section E7
variable {l : Launch} {J : Nat → Int64} {A : Nat → Nat → Int32} {B : Nat → Nat → Int64} {Q : Option Value → XW → Prop} {d : Nat} {I : Nat → Int32} {S : St} {tgt cg fg : Value}
theorem m_name (hd : 1 ≤ d) {x : Int32} (h : mInv S I A B) (hQ : ∀ (I' : Nat → Int32) (A' : Nat → Nat → Int32), mInv (stNm S x) I' A' B → Q (some (.int (anNm S x))) (wM I' J A' B)) : xK l d 187 [.ref 0, .int x] (wM I J A B) Q := by
  obtain ⟨d, rfl⟩ : ∃ e, d = e + 1 := ⟨d - 1, by omega⟩
  have h0 := mInv_0 (I' := upd I 0 0) h (fun i hi => un_i hi)
  have h24 : I 24 = nI S.g.2.2.length := h.2.2.2.1.2.2.1
  unfold stNm anNm at hQ
  have no : nmB' S x = false → Q (some (.int (-1))) (wM (upd I 0 0) J A B) := fun e => by
    have := hQ (upd I 0 0) A
    rw [e, if_neg (by decide), if_neg (by decide)] at this
    exact this h0
  refine e_X11_name ?_
  rw [h24]
  by_cases c1 : x < 0
  · rw [if_pos c1]; refine no ?_; unfold nmB'; rw [decide_eq_false (not_not_intro c1)]; rfl
  rw [if_neg c1]
  by_cases c2 : ¬ x < nI S.g.2.2.length
  · rw [if_neg c2]; refine no ?_; unfold nmB'; rw [decide_eq_false c2]; simp
  have c2 := Classical.not_not.mp c2
  rw [if_pos c2]
  have hb : nmB' S x = true := by unfold nmB'; rw [decide_eq_true c1, decide_eq_true c2]; rfl
  rw [hb] at hQ
  rw [if_pos rfl, if_pos rfl] at hQ
  obtain ⟨c, rfl, hc⟩ := nmB_n h.1 hb
  have h16 := h.1.1.2.2.1
  have hcat := h.2.2.2.1.2.2.2.2.2.1.2 c hc
  rw [cl_n (by omega)] at hQ ⊢
  generalize S.g.2.2.getD c [] = L at hQ hcat
  have hL := hcat.1
  have hl10 := hL.2
  have hcb : ∀ k, c27 (L.take k) < 9223372036854775808 := fun k => c27_b (vNm_tk hL k)
  rw [hcat.2]
  refine ⟨xin_n (by omega) (by omega), ?_⟩
  -- writing
  have wr : ∀ m k (A1 : Nat → Nat → Int32), k < m → k ≤ L.length → (∀ i, k ≤ i → i < L.length → A1 30 i = nI (96 + L.getD i 0)) → (∀ p, p ≠ 30 → A1 p = A p) → xG l d 187 Q 60 [some (.ref 0), none, some (.long (lN (c27 (L.take k)))), none, some (.int (nI L.length)), some (.int (nI k - 1))] [] (wM (upd I 0 0) J A1 B) 0 0 := by
    intro m
    induction m with
    | zero => intro k A1 hm; omega
    | succ m ih =>
      intro k A1 hm hk hw hA
      cases k with
      | zero =>
        refine b_X11_name_60 ?_
        rw [if_pos (by decide +kernel)]
        have hq := hQ (upd (upd I 0 0) 53 (nI L.length)) A1
        refine hq ?_
        obtain ⟨hok, ht, h2, hg, h28, h32, hws, hdr, hch, hnd, hout, hft⟩ := h0
        refine ⟨stNm_ok hok hL, ?_, by rw [un_i (by decide)]; exact h2, gM_fr hg (fun i a b => un_i (by omega)) (fun p a b c => hA p (by omega)) (fun _ _ _ => rfl), by rw [un_i (by decide)]; exact h28, by rw [un_i (by decide)]; exact h32, hws, mDr_fr hdr (un_i (by decide)) (fun p a b => hA p (by omega)), fun q => chM_fr (hch q) (hA 17 (by decide)) (hA 18 (by decide)) rfl, mNd_fr hnd (un_i (by decide)) (fun p a b => hA p (by omega)), ⟨?_, fun i hi => ?_⟩, by rw [un_i (by decide)]; exact hft⟩
        · unfold tpM at ht ⊢; rw [hA 1 (by decide)]; exact ht
        · rw [ue_i]; show nI L.length = nI (L.map (96 + ·)).length; rw [List.length_map]
        · have hi' : i < L.length := by
            have : i < (L.map (96 + ·)).length := hi
            rwa [List.length_map] at this
          show A1 30 i = nI ((L.map (96 + ·)).getD i 0)
          rw [hw i (by omega) hi', map_gD hi']
      | succ k =>
        have e1 : nI (k + 1) - 1 = nI k := by rw [show (1 : Int32) = nI 1 from rfl, sub_n (by omega), Nat.add_sub_cancel]
        have hdg := vNm_d hL (show k < L.length by omega)
        have hct := c27_tk (L := L) (k := k) (by omega)
        have hb1 := hcb (k + 1)
        have hb0 := hcb k
        rw [e1]
        refine b_X11_name_60 ?_
        have hdv : lN (c27 (L.take (k + 1))) / 27 = lN (c27 (L.take k)) := by
          rw [show (27 : Int64) = lN 27 from rfl, ln_div hb1 (by omega), hct]; congr 1; omega
        have hmd : (lN (c27 (L.take (k + 1))) - lN (c27 (L.take (k + 1))) / 27 * 27).toInt32 + 96 = nI (96 + L.getD k 0) := by
          rw [hdv, show (27 : Int64) = lN 27 from rfl, ln_mul, ln_sub (by omega) hb1, show c27 (L.take (k + 1)) - c27 (L.take k) * 27 = L.getD k 0 by omega, lN32 _ (by omega), Nat.add_comm]
          exact add_of (b := 96) rfl rfl
        rw [if_neg (nn_n (by omega)), hmd, hdv, cl_n (by omega)]
        refine ⟨by decide, xin_n (by omega) (by omega), by decide, ?_⟩
        rw [show nI k + (-1 : Int32) = nI k - 1 by rw [Int32.sub_eq_add_neg]]
        refine ih k _ (by omega) (by omega) (fun i h1 h2 => ?_) (fun p hp => by rw [un_v hp]; exact hA p hp)
        rw [ue_v]
        by_cases e : i = k
        · subst e; rw [ue_i]
        · rw [un_i e]; exact hw i (by omega) h2
  have cnt : ∀ m k, k < m → k ≤ L.length → xG l d 187 Q 29 [some (.ref 0), some (.int (nI c)), some (.long (lN (c27 (L.take k)))), none, some (.int (nI (L.length - k))), none] [] (wM (upd I 0 0) J A B) 0 0 := by
    intro m
    induction m with
    | zero => intro k hm; omega
    | succ m ih =>
      intro k hm hk
      refine b_X11_name_29 (if_if (lg_le.trans (ln_le (b := 0) (hcb k) (by omega))) (fun z => ?_) (fun z => ⟨by decide, ?_⟩))
      · have hk0 : k = 0 := by
          cases k with
          | zero => rfl
          | succ k =>
            have := vNm_d hL (show k < L.length by omega)
            have := c27_tk (L := L) (k := k) (by omega)
            omega
        subst hk0
        rw [cl_n (by omega), hcat.2, Nat.sub_zero]
        refine ⟨xin_n (by omega) (by omega), ?_⟩
        have := wr _ L.length A (Nat.lt_succ_self _) (Nat.le_refl _) (fun i h1 h2 => by omega) (fun _ _ => rfl)
        rw [List.take_of_length_le (Nat.le_refl _)] at this; exact this
      · cases k with
        | zero => exact absurd (Nat.le_refl 0) z
        | succ k =>
          have hct := c27_tk (L := L) (k := k) (by omega)
          have hdg := vNm_d hL (show k < L.length by omega)
          rw [show lN (c27 (L.take (k + 1))) / 27 = lN (c27 (L.take k)) by rw [show (27 : Int64) = lN 27 from rfl, ln_div (hcb _) (by omega), hct]; congr 1; omega, nI_1, show L.length - (k + 1) + 1 = L.length - k by omega]
          exact ih k (by omega) (by omega)
  have := cnt _ L.length (Nat.lt_succ_self _) (Nat.le_refl _)
  rw [List.take_of_length_le (Nat.le_refl _), Nat.sub_self] at this
  exact this
theorem x_name (hd : 2 ≤ d) {x : Int32} (h : xInv S I A B) (hQ : ∀ (I' : Nat → Int32) (A' : Nat → Nat → Int32), xInv (stNm S x) I' A' B → Q (some (.int (anNm S x))) (wC tgt cg fg I' J A' B)) : xK l d 108 [.ref 0, .int x] (wC tgt cg fg I J A B) Q := by
  obtain ⟨d, rfl⟩ : ∃ e, d = e + 1 := ⟨d - 1, by omega⟩
  obtain ⟨d, rfl⟩ : ∃ e, d = e + 1 := ⟨d - 1, by omega⟩
  have h12 : I 3712 = nI S.g.2.2.length := h.2.2.2.1.2.2.1.1
  unfold stNm anNm at hQ
  have no : nmB' S x = false → Q (some (.int (-1))) (wC tgt cg fg I J A B) := fun e => by
    have := hQ I A
    rw [e, if_neg (by decide), if_neg (by decide)] at this
    exact this h
  refine e_X10_name ?_
  rw [h12]
  by_cases c1 : x < 0
  · rw [if_pos c1]; refine no ?_; unfold nmB'; rw [decide_eq_false (not_not_intro c1)]; rfl
  rw [if_neg c1]
  by_cases c2 : ¬ x < nI S.g.2.2.length
  · rw [if_neg c2]; refine no ?_; unfold nmB'; rw [decide_eq_false c2]; simp
  have c2 := Classical.not_not.mp c2
  rw [if_pos c2]
  have hb : nmB' S x = true := by unfold nmB'; rw [decide_eq_true c1, decide_eq_true c2]; rfl
  rw [hb] at hQ
  rw [if_pos rfl, if_pos rfl] at hQ
  obtain ⟨c, rfl, hc⟩ := nmB_n h.1 hb
  have h16 := h.1.1.2.2.1
  have hcat := h.2.2.2.1.2.2.1.2.2 c hc
  rw [cl_n (by omega)] at hQ ⊢
  generalize S.g.2.2.getD c [] = L at hQ hcat
  have hL := hcat.1
  have hl10 := hL.2
  have hcb : ∀ k, c32 (L.take k) < 9223372036854775808 := fun k => c32_b (vNm_tk hL k)
  have hsh : ∀ k, k < L.length → lN (c32 (L.take (k + 1))) >>> ((5 : Int32).toInt64 &&& 63) = lN (c32 (L.take k)) := fun k hk => by
    have hdg := vNm_d hL hk
    rw [shrL5 (hcb _), c32_tk hk]; congr 1; omega
  rw [hcat.2]
  refine ⟨xin_n (by omega) (by omega), ?_⟩
  have wr : ∀ m k (A1 : Nat → Nat → Int32), k < m → k ≤ L.length → (∀ i, k ≤ i → i < L.length → A1 36 i = nI (96 + L.getD i 0)) → (∀ p, p ≠ 36 → A1 p = A p) → xG l (d + 1) 108 Q 43 [some (.ref 0), none, some (.long (lN (c32 (L.take k)))), none, some (.int (nI k - 1))] [] (wC tgt cg fg (upd I 10 (nI L.length)) J A1 B) 0 0 := by
    intro m
    induction m with
    | zero => intro k A1 hm; omega
    | succ m ih =>
      intro k A1 hm hk hw hA
      cases k with
      | zero =>
        refine b_X10_name_43 ?_
        rw [if_pos (by decide +kernel), ue_i]
        refine hQ (upd I 10 (nI L.length)) A1 ?_
        obtain ⟨hok, ht, h101, hg, h1402, hws, h1701, hD, hpr, hch, hnd, hout, hft⟩ := h
        refine ⟨stNm_ok hok hL, ?_, by rw [un_i (by decide)]; exact h101, gC_fr hg (fun i a b => un_i (by omega)) (fun p a b => hA p (by omega)) (fun _ _ _ => rfl), by rw [un_i (by decide)]; exact h1402, hws, by rw [un_i (by decide)]; exact h1701, drX_fr hD (hA 18 (by decide)), by rw [un_i (by decide)]; exact hpr, fun q => ?_, xNd_fr hnd (un_i (by decide)) (fun p a b => hA p (by omega)), ⟨?_, fun i hi => ?_⟩, by rw [un_i (by decide)]; exact hft⟩
        · unfold tpX at ht ⊢; rw [hA 2 (by decide)]; exact ht
        · obtain ⟨⟨D', k1⟩, k2⟩ := hch q
          exact ⟨⟨D', chX_fr k1 (fun p a b => hA p (by omega)) rfl⟩, fun w => chX_fr (k2 (by rw [un_i (by decide)] at w; exact w)) (fun p a b => hA p (by omega)) rfl⟩
        · rw [ue_i]; show nI L.length = nI (L.map (96 + ·)).length; rw [List.length_map]
        · have hi' : i < L.length := by
            have : i < (L.map (96 + ·)).length := hi
            rwa [List.length_map] at this
          show A1 36 i = nI ((L.map (96 + ·)).getD i 0)
          rw [hw i (by omega) hi', map_gD hi']
      | succ k =>
        have e1 : nI (k + 1) - 1 = nI k := by rw [show (1 : Int32) = nI 1 from rfl, sub_n (by omega), Nat.add_sub_cancel]
        have hdg := vNm_d hL (show k < L.length by omega)
        have hct := c32_tk (L := L) (k := k) (by omega)
        have hb1 := hcb (k + 1)
        rw [e1]
        refine b_X10_name_43 ?_
        have hmk : lN (c32 (L.take (k + 1))) &&& 31 = lN (L.getD k 0) := by
          rw [show (31 : Int64) = lN (2 ^ 5 - 1) from rfl, wb_mask (by omega) (by omega), hct]; congr 1; omega
        rw [if_neg (nn_n (by omega)), hmk, lN32 _ (by omega), nar96 _ (by omega), hsh k (by omega), cl_n (by omega)]
        refine ⟨xin_n (by omega) (by omega), ?_⟩
        rw [show nI k + (-1 : Int32) = nI k - 1 by rw [Int32.sub_eq_add_neg]]
        refine ih k _ (by omega) (by omega) (fun i h1 h2 => ?_) (fun p hp => by rw [un_v hp]; exact hA p hp)
        rw [ue_v]
        by_cases e : i = k
        · subst e; rw [ue_i]
        · rw [un_i e]; exact hw i (by omega) h2
  have cnt : ∀ m k, k < m → k ≤ L.length → xG l d 120 (fun v9 w9 => xG l (d + 1) 108 Q 32 [some (.ref 0), none, some (.long (lN (c32 L))), none, none] (v9.toList ++ [.ref 0]) w9 0 0) 4 [none, none, some (.int (nI (L.length - k))), some (.long (lN (c32 (L.take k)))), none] [] (wC tgt cg fg I J A B) 0 0 := by
    intro m
    induction m with
    | zero => intro k hm; omega
    | succ m ih =>
      intro k hm hk
      have done : k = 0 → xG l (d + 1) 108 Q 32 [some (.ref 0), none, some (.long (lN (c32 L))), none, none] [.int (nI (L.length - k)), .ref 0] (wC tgt cg fg I J A B) 0 0 := fun hk0 => by
        subst hk0
        rw [Nat.sub_zero]
        refine b_X10_name_32 ?_
        have := wr _ L.length A (Nat.lt_succ_self _) (Nat.le_refl _) (fun i h1 h2 => by omega) (fun _ _ => rfl)
        rw [List.take_of_length_le (Nat.le_refl _)] at this; exact this
      refine b_X10_lengthOfName_4 (if_if (lg0.trans (ln_eq (b := 0) (hcb k) (by omega))) (fun z => done ?_) (fun z => ?_))
      · cases k with
        | zero => rfl
        | succ k =>
          have := vNm_d hL (show k < L.length by omega)
          have := c32_tk (L := L) (k := k) (by omega)
          omega
      · refine if_le (a := 10) rfl rfl (by omega) (by omega) (fun w => done (by omega)) (fun w => ?_)
        cases k with
        | zero => exact absurd rfl z
        | succ k =>
          rw [hsh k (by omega), nI_1, show L.length - (k + 1) + 1 = L.length - k by omega]
          exact ih k (by omega) (by omega)
  have := cnt _ L.length (Nat.lt_succ_self _) (Nat.le_refl _)
  rw [List.take_of_length_le (Nat.le_refl _), Nat.sub_self] at this
  exact e_X10_lengthOfName this
end E7
