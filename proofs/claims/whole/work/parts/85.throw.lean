/-! ===== calls that may be refused, both sides ===== -/
section E2
variable {l : Launch} {J : Nat → Int64} {A : Nat → Nat → Int32} {B : Nat → Nat → Int64} {Q : Option Value → XW → Prop} {d : Nat} {I : Nat → Int32} {S : St} {tgt cg fg : Value}
theorem s_refuse (hd : 1 ≤ d) (hQ : Q (some (.int 0)) (wM (upd I 0 1) J A B)) : xK l d 125 [.ref 0] (wM I J A B) Q := by
  obtain ⟨d, rfl⟩ : ∃ e, d = e + 1 := ⟨d - 1, by omega⟩
  exact e_X11_refuse hQ
theorem m_sign (hd : 2 ≤ d) {x y k w : Int32} (h : mInv S I A B)
    (hE : ∀ (I' : Nat → Int32), (kB60 S x y k && wB4 w) = false → mInv S I' A B → I' 0 = 1 → Q (some (.int 0)) (wM I' J A B))
    (hO : ∀ (I' : Nat → Int32), (kB60 S x y k && wB4 w) = true → mInv S I' A B → I' 0 = 0 → Q (some (.int (anSign S x y k w))) (wM I' J A B)) : xK l d 164 [.ref 0, .int x, .int y, .int k, .int w] (wM I J A B) Q := by
  obtain ⟨d, rfl⟩ : ∃ e, d = e + 1 := ⟨d - 1, by omega⟩
  have no : (kB60 S x y k && wB4 w) = false → xK l d 125 [.ref 0] (wM I J A B) (fun v9 w9 => xG l d 164 Q 42 [none, none, none, none, none, none] (v9.toList ++ []) w9 0 0) := fun e => s_refuse (by omega) (b_X11_sign_42 (hE _ e (mInv_0 h (fun i hi => un_i hi)) (ue_i _ _ _)))
  have h0 := mInv_0 (I' := upd I 0 0) h (fun i hi => un_i hi)
  obtain ⟨hok, ht, h2, hg, h28, h32, hws, hdr, hch, hnd, hout, hft⟩ := h
  have h14 := hok.2.1
  refine e_X11_sign (s_isCell (by omega) h32 (b_X11_sign_6 (if_bI rfl (fun e => no ?_) (fun e => ?_))))
  · unfold kB60; rw [e]; rfl
  · by_cases c : k < 0
    · rw [if_pos c]
      refine no ?_
      unfold kB60; rw [decide_eq_false (not_not_intro c)]; simp
    · rw [if_neg c]
      obtain ⟨i, j, rfl, rfl, hij, hj⟩ := spB_n h14 e
      have hne : S.ws ≠ [] := fun q => by rw [q] at hj; simp at hj; omega
      have hc := hch hne i j hij hj
      have h60 := hc.1
      refine s_cell (by omega) rfl rfl (b_X11_sign_23 ⟨xin_n (by omega) (by omega), ?_⟩)
      rw [cl_n (by omega), hc.2.1]
      have hkk := nn_eq c
      have hb := Int32.toInt_lt k
      have hkn : k.toNatClampNeg = k.toInt.toNat := rfl
      have hkB : kB60 S (nI i) (nI j) k = decide (k < nI (sL (ch S.g (oD []) S.ws i j)).length) := by
        unfold kB60; rw [e, decide_eq_true c, cl_n (by omega), cl_n (by omega), Bool.true_and, Bool.true_and]
      rw [hkB] at no hE hO
      have hsa : sgAt S (nI i) (nI j) k = (sL (ch S.g (oD []) S.ws i j)).getD k.toNatClampNeg 0 := by unfold sgAt; rw [cl_n (by omega), cl_n (by omega)]
      generalize hlen : (sL (ch S.g (oD []) S.ws i j)).length = len at h60 no hE hO
      generalize k.toNatClampNeg = kk at hkk hkn hsa
      have hlt : k < nI len ↔ kk < len := by rw [hkk]; exact lt_n (by omega) (by omega)
      refine if_le rfl hkk (by omega) (by omega) (fun q => no ?_) (fun q => ?_)
      · rw [decide_eq_false (fun z => by have := hlt.mp z; omega)]; rfl
      · rw [decide_eq_true (hlt.mpr q)] at no hE hO
        by_cases cw : w < 0
        · rw [if_pos cw]; refine no ?_; unfold wB4; rw [decide_eq_false (not_not_intro cw)]; rfl
        · rw [if_neg cw]
          by_cases cw4 : w ≤ 4
          · have hw : wB4 w = true := by unfold wB4; rw [decide_eq_true cw, decide_eq_true cw4]; rfl
            obtain ⟨v, rfl, hv4⟩ := w4_n hw
            rw [if_pos cw4]
            refine s_cell (by omega) rfl rfl (b_X11_sign_59 ?_)
            rw [hkk, show (64 : Int32) * nI (15 * i + j) + nI kk = nI (64 * (15 * i + j) + kk) from add_of (mul_of (a := 64) rfl rfl) rfl, cl_n (by omega), (hc.2.2 kk (by omega)).1]
            have hin := sL_in (V := ch S.g (oD []) S.ws i j) (k := kk) (by omega)
            have hq := hO (upd I 0 0) (by rw [hw]; rfl) h0 (ue_i _ _ _)
            unfold anSign at hq
            rw [hsa] at hq
            refine ⟨xin_n (by omega) (by omega), if_eq rfl (b := 0) rfl (by omega) (by omega) (fun z => ?_) (fun z => ⟨by decide, ?_⟩)⟩
            · rw [if_pos (show nI v = 0 by rw [z]; rfl)] at hq
              exact s_categoryOfM (by omega) rfl hin.1 (b_X11_sign_75 (b_X11_sign_91 hq))
            · rw [if_neg (show ¬ nI v = 0 from fun e => z ((eq_n (b := 0) (by omega) (by omega)).mp e)), cl_n (by omega)] at hq
              rw [mod625 hin.1]
              exact s_valueIn (by omega) rfl (mod_lt625 _) (show nI v - 1 = nI (v - 1) from sub_n (b := 1) (by omega)) (by omega) (b_X11_sign_91 hq)
          · rw [if_neg cw4]; refine no ?_; unfold wB4; rw [decide_eq_false cw4]; simp
theorem s_valueInX (hd : 2 ≤ d) {x y : Int32} {s f : Nat} (hx : x = nI (cs s)) (hs : s < 10000) (hy : y = nI f) (hf : f < 4) (hQ : Q (some (.int (fvO s f))) (wC tgt cg fg I J A B)) : xK l d 119 [.int x, .int y] (wC tgt cg fg I J A B) Q := by
  obtain ⟨d, rfl⟩ : ∃ e, d = e + 1 := ⟨d - 1, by omega⟩
  refine e_X10_valueIn (s_shiftOf (by omega) (b_X10_valueIn_5 ?_))
  rw [hx, hy, fv_ok hs hf]; exact hQ
theorem s_isSign (hd : 2 ≤ d) {x y k : Int32} (h : xInv S I A B) (hQ : Q (some (.int (bI (kB60 S x y k)))) (wC tgt cg fg I J A B)) : xK l d 114 [.ref 0, .int x, .int y, .int k] (wC tgt cg fg I J A B) Q := by
  obtain ⟨d, rfl⟩ : ∃ e, d = e + 1 := ⟨d - 1, by omega⟩
  have h14 := h.1.2.1
  unfold kB60 at hQ
  refine e_X10_isSign (s_isSpan (by omega) h.2.2.2.2.1 (b_X10_isSign_6 (if_bI rfl (fun e => ?_) (fun e => ?_))))
  · rw [e] at hQ; exact ⟨Or.inl rfl, hQ⟩
  · rw [e] at hQ
    by_cases c : k < 0
    · rw [if_pos c]; rw [decide_eq_false (not_not_intro c)] at hQ; exact ⟨Or.inl rfl, hQ⟩
    · rw [if_neg c]
      rw [decide_eq_true c] at hQ
      obtain ⟨i, j, rfl, rfl, hij, hj⟩ := spB_n h14 e
      have hne : S.ws ≠ [] := fun q => by rw [q] at hj; simp at hj; omega
      have hcx := cx_lt hij (show j ≤ 14 by omega)
      have hc := x_cell h hne hij hj
      have h60 := (h.1.2.2.2.1 hne).2 i j hij hj
      rw [cl_n (by omega), cl_n (by omega)] at hQ
      refine s_cellOf (by omega) rfl rfl hij (by omega) (b_X10_isSign_26 ⟨xin_n hcx (by omega), ?_⟩)
      rw [cl_n (by omega), hc.1]
      have hkk := nn_eq c
      have hb := Int32.toInt_lt k
      have hkn : k.toNatClampNeg = k.toInt.toNat := rfl
      generalize (sL (ch S.g (oD []) S.ws i j)).length = len at h60 hQ ⊢
      generalize k.toNatClampNeg = kk at hkk hkn
      have hlt : k < nI len ↔ kk < len := by rw [hkk]; exact lt_n (by omega) (by omega)
      refine if_le rfl hkk (by omega) (by omega) (fun q => ⟨Or.inl rfl, ?_⟩) (fun q => ⟨Or.inr rfl, ?_⟩)
      · rw [decide_eq_false (fun z => by have := hlt.mp z; omega)] at hQ; exact hQ
      · rw [decide_eq_true (hlt.mpr q)] at hQ; exact hQ
theorem x_sign (hd : 3 ≤ d) {x y k w : Int32} (h : xInv S I A B) (hk : kB60 S x y k = true) (hw : wB4 w = true) (hQ : Q (some (.int (anSign S x y k w))) (wC tgt cg fg I J A B)) : xK l d 99 [.ref 0, .int x, .int y, .int k, .int w] (wC tgt cg fg I J A B) Q := by
  obtain ⟨d, rfl⟩ : ∃ e, d = e + 1 := ⟨d - 1, by omega⟩
  obtain ⟨v, rfl, hv4⟩ := w4_n hw
  have h14 := h.1.2.1
  refine e_X10_sign ?_
  rw [if_neg (nn_n (by omega))]
  refine if_lt (a := 4) rfl rfl (by omega) (by omega) (fun z => absurd z (by omega)) (fun _ => s_isSign (by omega) h (b_X10_sign_18 (if_bI rfl (fun e => by rw [hk] at e; cases e) (fun _ => ?_))))
  obtain ⟨i, j, m, rfl, rfl, rfl, hij, hj, hm, hne⟩ := k60_n h.1 hk
  have hcx := cx_lt hij (show j ≤ 14 by omega)
  have hc := x_cell h hne hij hj
  have h60 := (h.1.2.2.2.1 hne).2 i j hij hj
  have hin := sL_in hm
  have hcl := cs_lt hin.1
  unfold anSign sgAt at hQ
  rw [cl_n (a := i) (by omega), cl_n (a := j) (by omega), cl_n (a := m) (by omega)] at hQ
  refine s_cellOf (by omega) rfl rfl hij (by omega) (b_X10_sign_43 ?_)
  rw [show nI (cx i j) * (60 : Int32) + nI m = nI (60 * cx i j + m) by rw [show nI (cx i j) * (60 : Int32) = nI (cx i j * 60) from mul_of (b := 60) rfl rfl, Nat.mul_comm, nI_add], cl_n (by omega), (hc.2 m hm).1, shr12 (by omega), cs_cat]
  refine ⟨xin_n (by omega) (by omega), if_eq rfl (b := 0) rfl (by omega) (by omega) (fun z => b_X10_sign_73 ?_) (fun z => ?_)⟩
  · rw [if_pos (show nI v = 0 by rw [z]; rfl)] at hQ; exact hQ
  · rw [if_neg (show ¬ nI v = 0 from fun e => z ((eq_n (b := 0) (by omega) (by omega)).mp e)), cl_n (by omega)] at hQ
    exact s_valueInX (by omega) rfl hin.1 (show nI v - 1 = nI (v - 1) from sub_n (b := 1) (by omega)) (by omega) (b_X10_sign_73 hQ)
theorem m_times (hd : 2 ≤ d) {x y k : Int32} (h : mInv S I A B)
    (hE : ∀ (I' : Nat → Int32), kB60 S x y k = false → mInv S I' A B → I' 0 = 1 → Q (some (.long 0)) (wM I' J A B))
    (hO : ∀ (I' : Nat → Int32), kB60 S x y k = true → mInv S I' A B → I' 0 = 0 → Q (some (.long (anTimes S x y k))) (wM I' J A B)) : xK l d 165 [.ref 0, .int x, .int y, .int k] (wM I J A B) Q := by
  obtain ⟨d, rfl⟩ : ∃ e, d = e + 1 := ⟨d - 1, by omega⟩
  have no : kB60 S x y k = false → xK l d 125 [.ref 0] (wM I J A B) (fun v9 w9 => xG l d 165 Q 31 [none, none, none, none] (v9.toList ++ []) w9 0 0) := fun e => s_refuse (by omega) (b_X11_times_31 (hE _ e (mInv_0 h (fun i hi => un_i hi)) (ue_i _ _ _)))
  have h0 := mInv_0 (I' := upd I 0 0) h (fun i hi => un_i hi)
  obtain ⟨hok, ht, h2, hg, h28, h32, hws, hdr, hch, hnd, hout, hft⟩ := h
  have h14 := hok.2.1
  refine e_X11_times (s_isCell (by omega) h32 (b_X11_times_6 (if_bI rfl (fun e => no ?_) (fun e => ?_))))
  · unfold kB60; rw [e]; rfl
  · by_cases c : k < 0
    · rw [if_pos c]
      refine no ?_
      unfold kB60; rw [decide_eq_false (not_not_intro c)]; simp
    · rw [if_neg c]
      obtain ⟨i, j, rfl, rfl, hij, hj⟩ := spB_n h14 e
      have hne : S.ws ≠ [] := fun q => by rw [q] at hj; simp at hj; omega
      have hc := hch hne i j hij hj
      have h60 := hc.1
      refine s_cell (by omega) rfl rfl (b_X11_times_23 ⟨xin_n (by omega) (by omega), ?_⟩)
      rw [cl_n (by omega), hc.2.1]
      have hkk := nn_eq c
      have hb := Int32.toInt_lt k
      have hkn : k.toNatClampNeg = k.toInt.toNat := rfl
      have hkB : kB60 S (nI i) (nI j) k = decide (k < nI (sL (ch S.g (oD []) S.ws i j)).length) := by
        unfold kB60; rw [e, decide_eq_true c, cl_n (by omega), cl_n (by omega), Bool.true_and, Bool.true_and]
      rw [hkB] at no hE hO
      have hta : anTimes S (nI i) (nI j) k = lN (sat (wy (ch S.g (oD []) S.ws i j ((sL (ch S.g (oD []) S.ws i j)).getD k.toNatClampNeg 0)))) := by unfold anTimes sgAt; rw [cl_n (by omega), cl_n (by omega)]
      generalize hlen : (sL (ch S.g (oD []) S.ws i j)).length = len at h60 no hE hO
      generalize k.toNatClampNeg = kk at hkk hkn hta
      have hlt : k < nI len ↔ kk < len := by rw [hkk]; exact lt_n (by omega) (by omega)
      refine if_lt hkk rfl (by omega) (by omega) (fun q => ?_) (fun q => no ?_)
      · rw [decide_eq_true (hlt.mpr q)] at hO
        refine s_cell (by omega) rfl rfl (b_X11_times_49 ?_)
        have hq := hO (upd I 0 0) rfl h0 (ue_i _ _ _)
        rw [hta] at hq
        rw [hkk, show (64 : Int32) * nI (15 * i + j) + nI kk = nI (64 * (15 * i + j) + kk) from add_of (mul_of (a := 64) rfl rfl) rfl, cl_n (by omega), (hc.2.2 kk (by omega)).2]
        exact ⟨xin_n (by omega) (by omega), hq⟩
      · rw [decide_eq_false (fun z => by have := hlt.mp z; omega)]
theorem x_times (hd : 3 ≤ d) {x y k : Int32} (h : xInv S I A B) (hk : kB60 S x y k = true) (hQ : Q (some (.long (anTimes S x y k))) (wC tgt cg fg I J A B)) : xK l d 100 [.ref 0, .int x, .int y, .int k] (wC tgt cg fg I J A B) Q := by
  obtain ⟨d, rfl⟩ : ∃ e, d = e + 1 := ⟨d - 1, by omega⟩
  have h14 := h.1.2.1
  refine e_X10_times (s_isSign (by omega) h (b_X10_times_7 (if_bI rfl (fun e => by rw [hk] at e; cases e) (fun _ => ?_))))
  obtain ⟨i, j, m, rfl, rfl, rfl, hij, hj, hm, hne⟩ := k60_n h.1 hk
  have hcx := cx_lt hij (show j ≤ 14 by omega)
  have hc := x_cell h hne hij hj
  have h60 := (h.1.2.2.2.1 hne).2 i j hij hj
  unfold anTimes sgAt at hQ
  rw [cl_n (a := i) (by omega), cl_n (a := j) (by omega), cl_n (a := m) (by omega)] at hQ
  refine s_cellOf (by omega) rfl rfl hij (by omega) (b_X10_times_32 ?_)
  rw [show nI (cx i j) * (60 : Int32) + nI m = nI (60 * cx i j + m) by rw [show nI (cx i j) * (60 : Int32) = nI (cx i j * 60) from mul_of (b := 60) rfl rfl, Nat.mul_comm, nI_add], cl_n (by omega), (hc.2 m hm).2]
  exact ⟨xin_n (by omega) (by omega), hQ⟩
theorem m_node (hd : 2 ≤ d) {x w : Int32} (h : mInv S I A B)
    (hE : ∀ (I' : Nat → Int32), (ndB S x && wB8 w) = false → mInv S I' A B → I' 0 = 1 → Q (some (.int 0)) (wM I' J A B))
    (hO : ∀ (I' : Nat → Int32), (ndB S x && wB8 w) = true → mInv S I' A B → I' 0 = 0 → Q (some (.int (anNode S x w))) (wM I' J A B)) : xK l d 171 [.ref 0, .int x, .int w] (wM I J A B) Q := by
  obtain ⟨d, rfl⟩ : ∃ e, d = e + 1 := ⟨d - 1, by omega⟩
  have no : (ndB S x && wB8 w) = false → xK l d 125 [.ref 0] (wM I J A B) (fun v9 w9 => xG l d 171 Q 26 [none, none, none] (v9.toList ++ []) w9 0 0) := fun e => s_refuse (by omega) (b_X11_node__26 (hE _ e (mInv_0 h (fun i hi => un_i hi)) (ue_i _ _ _)))
  have h0 := mInv_0 (I' := upd I 0 0) h (fun i hi => un_i hi)
  obtain ⟨hok, ht, h2, hg, h28, h32, hws, hdr, hch, hnd, hout, hft⟩ := h
  refine e_X11_node_ ?_
  rw [hnd.1]
  by_cases c1 : x < 0
  · rw [if_pos c1]; refine no ?_; unfold ndB; rw [decide_eq_false (not_not_intro c1)]; rfl
  rw [if_neg c1]
  by_cases c2 : nI S.nd.length ≤ x
  · rw [if_pos c2]; refine no ?_; unfold ndB; rw [decide_eq_false (not_not_intro c2)]; simp
  rw [if_neg c2]
  by_cases c3 : w < 0
  · rw [if_pos c3]; refine no ?_; unfold wB8; rw [decide_eq_false (not_not_intro c3)]; simp
  rw [if_neg c3]
  by_cases c4 : w ≤ 8
  · rw [if_pos c4]
    have hb : ndB S x = true := by unfold ndB; rw [decide_eq_true c1, decide_eq_true c2]; rfl
    have hw : wB8 w = true := by unfold wB8; rw [decide_eq_true c3, decide_eq_true c4]; rfl
    obtain ⟨k, rfl, hk⟩ := nd_n hok hb
    obtain ⟨v, rfl, hv8⟩ := w8_n hw
    have h432 := hok.2.2.2.2.2.2.1
    have hq := hO (upd I 0 0) (by rw [hb, hw]; rfl) h0 (ue_i _ _ _)
    have hn := hnd.2 k hk
    have hokn := hok.2.2.2.2.2.2.2.1 _ (getD_mem hk dN)
    unfold anNode at hq
    rw [cl_n (a := k) (by omega)] at hq
    rw [cl_n (a := k) (by omega), hn.1, hn.2.1, hn.2.2.1, hn.2.2.2.1, hn.2.2.2.2]
    by_cases e0 : nI v = Int32.ofInt 0
    · rw [if_pos e0]; rw [if_pos e0] at hq
      exact ⟨xin_n (by omega) (by omega), s_categoryOfM (by omega) rfl hokn.1 (b_X11_node__77 hq)⟩
    rw [if_neg e0]; rw [if_neg e0] at hq
    by_cases e1 : nI v = Int32.ofInt 0 + 1
    · rw [if_pos e1]; rw [if_pos e1] at hq; exact ⟨xin_n (by omega) (by omega), hq⟩
    rw [if_neg e1]; rw [if_neg e1] at hq
    by_cases e2 : nI v = Int32.ofInt 0 + 1 + 1
    · rw [if_pos e2]; rw [if_pos e2] at hq; exact ⟨xin_n (by omega) (by omega), hq⟩
    rw [if_neg e2]; rw [if_neg e2] at hq
    by_cases e3 : nI v = Int32.ofInt 0 + 1 + 1 + 1
    · rw [if_pos e3]; rw [if_pos e3] at hq; exact ⟨xin_n (by omega) (by omega), hq⟩
    rw [if_neg e3]; rw [if_neg e3] at hq
    by_cases e4 : nI v = Int32.ofInt 0 + 1 + 1 + 1 + 1
    · rw [if_pos e4]; rw [if_pos e4] at hq; exact ⟨xin_n (by omega) (by omega), hq⟩
    rw [if_neg e4]; rw [if_neg e4] at hq
    have h5 := w8_5 v hv8 e0 e1 e2 e3 e4
    rw [cl_n (by omega)] at hq
    rw [mod625 hokn.1]
    exact ⟨xin_n (by omega) (by omega), by decide, s_valueIn (by omega) rfl (mod_lt625 _) (show nI v - 5 = nI (v - 5) from sub_n (b := 5) (by omega)) (by omega) (b_X11_node__122 hq)⟩
  · rw [if_neg c4]; refine no ?_; unfold wB8; rw [decide_eq_false c4]; simp
theorem x_node (hd : 3 ≤ d) {x w : Int32} (h : xInv S I A B) (hb : ndB S x = true) (hw : wB8 w = true) (hQ : Q (some (.int (anNode S x w))) (wC tgt cg fg I J A B)) : xK l d 102 [.ref 0, .int x, .int w] (wC tgt cg fg I J A B) Q := by
  obtain ⟨d, rfl⟩ : ∃ e, d = e + 1 := ⟨d - 1, by omega⟩
  obtain ⟨hok, ht, h101, hg, h1402, hws, h1701, hD, hpr, hch, hnd, hout, hft⟩ := h
  obtain ⟨k, rfl, hk⟩ := nd_n hok hb
  obtain ⟨v, rfl, hv8⟩ := w8_n hw
  have h432 := hok.2.2.2.2.2.2.1
  have hn := hnd.2 k hk
  have hokn := hok.2.2.2.2.2.2.2.1 _ (getD_mem hk dN)
  have hcl := cs_lt hokn.1
  unfold anNode at hQ
  rw [cl_n (a := k) (by omega)] at hQ
  refine e_X10_node ?_
  rw [hnd.1, if_neg (nn_n (by omega)), cl_n (a := k) (by omega), hn.1, hn.2.1, hn.2.2.1, hn.2.2.2.1, hn.2.2.2.2, shr12 (by omega), cs_cat]
  refine if_le rfl rfl (by omega) (by omega) (fun z => absurd z (by omega)) (fun _ => ?_)
  rw [if_neg (nn_n (by omega))]
  refine if_le rfl (b := 8) rfl (by omega) (by omega) (fun _ => ?_) (fun z => absurd z (by omega))
  by_cases e0 : nI v = Int32.ofInt 0
  · rw [if_pos e0]; rw [if_pos e0] at hQ; exact ⟨xin_n (by omega) (by omega), hQ⟩
  rw [if_neg e0]; rw [if_neg e0] at hQ
  by_cases e1 : nI v = Int32.ofInt 0 + 1
  · rw [if_pos e1]; rw [if_pos e1] at hQ; exact ⟨xin_n (by omega) (by omega), hQ⟩
  rw [if_neg e1]; rw [if_neg e1] at hQ
  by_cases e2 : nI v = Int32.ofInt 0 + 1 + 1
  · rw [if_pos e2]; rw [if_pos e2] at hQ; exact ⟨xin_n (by omega) (by omega), hQ⟩
  rw [if_neg e2]; rw [if_neg e2] at hQ
  by_cases e3 : nI v = Int32.ofInt 0 + 1 + 1 + 1
  · rw [if_pos e3]; rw [if_pos e3] at hQ; exact ⟨xin_n (by omega) (by omega), hQ⟩
  rw [if_neg e3]; rw [if_neg e3] at hQ
  by_cases e4 : nI v = Int32.ofInt 0 + 1 + 1 + 1 + 1
  · rw [if_pos e4]; rw [if_pos e4] at hQ; exact ⟨xin_n (by omega) (by omega), hQ⟩
  rw [if_neg e4]; rw [if_neg e4] at hQ
  have h5 := w8_5 v hv8 e0 e1 e2 e3 e4
  rw [cl_n (by omega)] at hQ
  exact ⟨xin_n (by omega) (by omega), s_valueInX (by omega) rfl hokn.1 (show nI v - 5 = nI (v - 5) from sub_n (b := 5) (by omega)) (by omega) (b_X10_node_140 hQ)⟩
theorem m_octet (hd : 2 ≤ d) {x : Int32} (h : mInv S I A B)
    (hE : ∀ (I' : Nat → Int32), ocB S x = false → mInv S I' A B → I' 0 = 1 → Q (some (.int 0)) (wM I' J A B))
    (hO : ∀ (I' : Nat → Int32), ocB S x = true → mInv S I' A B → I' 0 = 0 → Q (some (.int (nI (S.out.getD x.toNatClampNeg 0)))) (wM I' J A B)) : xK l d 189 [.ref 0, .int x] (wM I J A B) Q := by
  obtain ⟨d, rfl⟩ : ∃ e, d = e + 1 := ⟨d - 1, by omega⟩
  have no : ocB S x = false → xK l d 125 [.ref 0] (wM I J A B) (fun v9 w9 => xG l d 189 Q 16 [none, none] (v9.toList ++ []) w9 0 0) := fun e => s_refuse (by omega) (b_X11_octet_16 (hE _ e (mInv_0 h (fun i hi => un_i hi)) (ue_i _ _ _)))
  have h0 := mInv_0 (I' := upd I 0 0) h (fun i hi => un_i hi)
  obtain ⟨hok, ht, h2, hg, h28, h32, hws, hdr, hch, hnd, hout, hft⟩ := h
  refine e_X11_octet ?_
  rw [hout.1]
  by_cases c1 : x < 0
  · rw [if_pos c1]; refine no ?_; unfold ocB; rw [decide_eq_false (not_not_intro c1)]; rfl
  rw [if_neg c1]
  by_cases c2 : x < nI S.out.length
  · rw [if_pos c2]
    have hb : ocB S x = true := by unfold ocB; rw [decide_eq_true c1, decide_eq_true c2]; rfl
    obtain ⟨k, rfl, hk⟩ := oc_n hok hb
    have h10 := hok.2.2.2.2.2.2.2.2.1
    have hq := hO (upd I 0 0) hb h0 (ue_i _ _ _)
    rw [cl_n (by omega)] at hq
    rw [cl_n (by omega), hout.2 k hk]
    exact ⟨xin_n (by omega) (by omega), hq⟩
  · rw [if_neg c2]; refine no ?_; unfold ocB; rw [decide_eq_false c2]; simp
theorem x_octet (hd : 1 ≤ d) {x : Int32} (h : xInv S I A B) (hb : ocB S x = true) (hQ : Q (some (.int (nI (S.out.getD x.toNatClampNeg 0)))) (wC tgt cg fg I J A B)) : xK l d 110 [.ref 0, .int x] (wC tgt cg fg I J A B) Q := by
  obtain ⟨d, rfl⟩ : ∃ e, d = e + 1 := ⟨d - 1, by omega⟩
  obtain ⟨hok, ht, h101, hg, h1402, hws, h1701, hD, hpr, hch, hnd, hout, hft⟩ := h
  obtain ⟨k, rfl, hk⟩ := oc_n hok hb
  have h10 := hok.2.2.2.2.2.2.2.2.1
  rw [cl_n (by omega)] at hQ
  refine e_X10_octet ?_
  rw [hout.1, if_neg (nn_n (by omega)), cl_n (by omega), hout.2 k hk]
  exact if_lt rfl rfl (by omega) (by omega) (fun _ => ⟨xin_n (by omega) (by omega), hQ⟩) (fun z => absurd z (by omega))
end E2
