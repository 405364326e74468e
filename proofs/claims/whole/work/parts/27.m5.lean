/-! ===== the reference: features and entries ===== -/
section M5
variable {l : Launch} {J : Nat → Int64} {A : Nat → Nat → Int32} {B : Nat → Nat → Int64} {Q : Option Value → XW → Prop} {d : Nat} {t : Nat → Nat} {n : Nat}
theorem s_valueIn {I : Nat → Int32} (hd : 1 ≤ d) {x y : Int32} {key f : Nat} (hx : x = nI key) (hk : key < 625) (hy : y = nI f) (hf : f < 4) (hQ : Q (some (.int (nI (dg key f) - 1))) (wM I J A B)) : xK l d 140 [.int x, .int y] (wM I J A B) Q := by
  obtain ⟨d, rfl⟩ : ∃ e, d = e + 1 := ⟨d - 1, by omega⟩
  refine e_X11_valueIn ⟨xin_of hy hf (by omega), ?_⟩
  rw [cl_of hy (by omega)]
  refine ⟨xfv_ne f hf, by decide, ?_⟩
  rw [hx, valueIn_ok key hk f hf]
  exact hQ
theorem s_with {I : Nat → Int32} (hd : 2 ≤ d) {x y z : Int32} {key f v : Nat} (hx : x = nI key) (hk : key < 625) (hy : y = nI f) (hf : f < 4) (hz : z = nI v) (hv : v < 4) (hQ : Q (some (.int (nI (setd key f (v + 1))))) (wM I J A B)) : xK l d 141 [.int x, .int y, .int z] (wM I J A B) Q := by
  obtain ⟨d, rfl⟩ : ∃ e, d = e + 1 := ⟨d - 1, by omega⟩
  refine e_X11_with (s_valueIn (by omega) hx hk hy hf ?_)
  refine b_X11_with_7 ⟨xin_of hy hf (by omega), ?_⟩
  rw [cl_of hy (by omega), hx, hz, with_ok key hk f hf v hv]
  exact hQ
/-- what reading an entry leaves as it was -/
def feM (ec : Nat) (I : Nat → Int32) (J : Nat → Int64) (A : Nat → Nat → Int32) (B : Nat → Nat → Int64) (I' : Nat → Int32) (J' : Nat → Int64) (A' : Nat → Nat → Int32) (B' : Nat → Nat → Int64) : Prop :=
  (∀ i, i ≠ 4 → i ≠ 5 → i ≠ 6 → i ≠ 7 → i ≠ 8 → i ≠ 10 → i ≠ 11 → i ≠ 25 → i ≠ 27 → I' i = I i) ∧ (∀ i, i ≠ 9 → J' i = J i) ∧ (∀ p i, (p ≠ 4 ∧ p ≠ 5) ∨ i ≠ 40 + ec → A' p i = A p i) ∧ (∀ p i, (p ≠ 2 ∨ i ≠ 40 + ec) → (p ≠ 3 ∨ i < 16) → B' p i = B p i)
set_option maxHeartbeats 2000000 in
theorem s_readEntry (ht : tpM A t n) (hd : 5 ≤ d) {I : Nat → Int32} {j ec : Nat} {cats : List (List Nat)} (h3 : I 3 = nI n) (htk : tkM I J t n (tP t n j)) (hc : catM I B cats) (h25 : I 25 = nI ec) (hec : ec ≤ 40)
    (hE : ∀ k pl (I' : Nat → Int32) (J' : Nat → Int64) (A' : Nat → Nat → Int32) (B' : Nat → Nat → Int64), pEnt t n j ec cats = .inl (k, pl) → I' 10 = nI k → I' 11 = nI pl → feM ec I J A B I' J' A' B' → Q (some (.int 0)) (wM I' J' A' B'))
    (hO : ∀ w c key cats' j' (I' : Nat → Int32) (J' : Nat → Int64) (A' : Nat → Nat → Int32) (B' : Nat → Nat → Int64), pEnt t n j ec cats = .inr ((w, c, key), cats', j') → ec < 40 → vNm w → c < 16 → key < 625 → tkM I' J' t n (tP t n j') → catM I' B' cats' → I' 25 = nI (ec + 1) → B' 2 (40 + ec) = lN (c27 w) → A' 4 (40 + ec) = nI c → A' 5 (40 + ec) = nI key → I' 10 = I 10 → feM ec I J A B I' J' A' B' → Q (some (.int 1)) (wM I' J' A' B')) :
    xK l d 142 [.ref 0] (wM I J A B) Q := by
  obtain ⟨d, rfl⟩ : ∃ e, d = e + 1 := ⟨d - 1, by omega⟩
  have hn := ht.1
  refine e_X11_readEntry (if_eq h25 (b := 40) rfl (by omega) (by omega) (fun h => ?_) (fun h => ?_))
  · refine s_bad (by omega) htk (k := 3) rfl ?_
    refine b_X11_readEntry_14 ⟨Or.inl rfl, hE _ _ _ _ _ _ (by unfold pEnt; rw [if_pos h]) (by rw [un_i (by decide), ue_i]) (ue_i _ _ _) ⟨fun i a b c d e f g h _ => by rw [un_i g, un_i f], fun _ _ => rfl, fun _ _ _ => rfl, fun _ _ _ _ => rfl⟩⟩
  · refine s_go ht (by omega) (p := tP t n (j + 1)) h3 htk.2.2.1 (tP_le t n (j + 1)) (fun I1 J1 k1 f1 g1 => ?_)
    refine b_X11_readEntry_19 (s_isFree (by omega) k1 ?_)
    refine b_X11_readEntry_23 (if_b (b := tFree t n (j + 1)) rfl (fun hf => ?_) (fun hf => ?_))
    · refine s_bad (by omega) k1 (k := 1) rfl ?_
      refine b_X11_readEntry_31 ⟨Or.inl rfl, hE _ _ _ _ _ _ (by unfold pEnt; rw [if_neg h, if_pos hf]) (by rw [un_i (by decide), ue_i]) (ue_i _ _ _) ⟨fun i a b c d e f g h9 _ => by rw [un_i g, un_i f, f1 i a b c d e], g1, fun _ _ _ => rfl, fun _ _ _ _ => rfl⟩⟩
    · have hk2 : tK t n (j + 1) = 2 := by simp [tFree] at hf; exact hf.1
      have i25 : I1 25 = nI ec := by rw [f1 25 (by decide) (by decide) (by decide) (by decide) (by decide)]; exact h25
      have e40 : (40 : Int32) + I1 25 = nI (40 + ec) := add_of rfl i25
      have i3 : I1 3 = nI n := by rw [f1 3 (by decide) (by decide) (by decide) (by decide) (by decide)]; exact h3
      refine ⟨xin_of e40 (by omega) (by omega), ?_⟩
      rw [e40, cl_n (by omega)]
      refine s_go ht (by omega) (p := tP t n (j + 2)) i3 k1.2.2.1 (tP_le t n (j + 2)) (fun I2 J2 k2 f2 g2 => ?_)
      generalize hB2 : va_up B 2 (vp_updL (B 2) (40 + ec) (J1 9)) = B2
      have b22 : B2 2 (40 + ec) = lN (c27 (tN t n (j + 1))) := by rw [← hB2, ue_v, ue_l]; exact k1.2.2.2.1 hk2
      have b2f : ∀ p i, p ≠ 2 ∨ i ≠ 40 + ec → B2 p i = B p i := fun p i hp => by
        rw [← hB2]
        by_cases e : p = 2
        · subst e; rw [ue_v, un_l (hp.resolve_left (fun z => z rfl))]
        · rw [un_v e]
      have i2f : ∀ i, i ≠ 4 → i ≠ 5 → i ≠ 6 → i ≠ 7 → i ≠ 8 → I2 i = I i := fun i a b c d e => by rw [f2 i a b c d e, f1 i a b c d e]
      have hc2 : catM I2 B2 cats := ⟨by rw [i2f 27 (by decide) (by decide) (by decide) (by decide) (by decide)]; exact hc.1, hc.2.1, fun c hcl => by rw [b2f 3 _ (Or.inl (by decide))]; exact hc.2.2 c hcl⟩
      refine b_X11_readEntry_54 (s_readCategory ht (by omega) (j := j + 2) (by rw [i2f 3 (by decide) (by decide) (by decide) (by decide) (by decide)]; exact h3) k2 hc2 (fun k pl hp => ?_) (fun c cats' I3 J3 B3 hp hc16 k3 c3 f3 g3 p3 q3 => ?_))
      · refine b_X11_readEntry_63 ⟨xin_of rfl (by omega) (by omega), xin_of rfl (by omega) (by omega), ?_⟩
        rw [cl_n (by omega), ue_i, if_pos rfl]
        refine ⟨Or.inl rfl, hE k pl _ _ _ _ (by unfold pEnt; rw [if_neg h, if_neg (by rw [hf]; decide), hp, sbd_l]) (by rw [un_i (by decide), ue_i]) (ue_i _ _ _) ⟨fun i a b c d e f g h9 _ => by rw [un_i g, un_i f, i2f i a b c d e], fun i hi => by rw [g2 i hi, g1 i hi], fun p i hp => ?_, fun p i hp _ => b2f p i hp⟩⟩
        by_cases e : p = 4
        · subst e; rw [ue_v, un_i (hp.resolve_left (fun z => z.1 rfl))]
        · rw [un_v e]
      · have i3f : ∀ i, i ≠ 4 → i ≠ 5 → i ≠ 6 → i ≠ 7 → i ≠ 8 → i ≠ 27 → I3 i = I i := fun i a b c d e f => by rw [f3 i a b c d e f, i2f i a b c d e]
        have b3f : ∀ p i, (p ≠ 2 ∨ i ≠ 40 + ec) → (p ≠ 3 ∨ i < 16) → B3 p i = B p i := fun p i hp hp2 => by
          by_cases e : p = 3
          · subst e; rw [q3 i (hp2.resolve_left (fun z => z rfl)), b2f 3 i (Or.inl (by decide))]
          · rw [p3 p e, b2f p i hp]
        have b32 : B3 2 (40 + ec) = lN (c27 (tN t n (j + 1))) := by rw [p3 2 (by decide)]; exact b22
        refine b_X11_readEntry_63 ⟨xin_of rfl (by omega) (by omega), xin_of rfl (by omega) (by omega), ?_⟩
        rw [cl_n (by omega), ue_i, if_neg (ne_m1 (by omega))]
        refine ⟨xin_of rfl (by omega) (by omega), ?_⟩
        have loop : ∀ m jj key (I4 : Nat → Int32) (J4 : Nat → Int64) (A4 : Nat → Nat → Int32), n - tP t n jj < m → key < 625 → tkM I4 J4 t n (tP t n jj) → A4 4 (40 + ec) = nI c → A4 5 (40 + ec) = nI key → (∀ i, i ≠ 4 → i ≠ 5 → i ≠ 6 → i ≠ 7 → i ≠ 8 → i ≠ 27 → I4 i = I i) → I4 27 = I3 27 → (∀ i, i ≠ 9 → J4 i = J i) → (∀ p i, (p ≠ 4 ∧ p ≠ 5) ∨ i ≠ 40 + ec → A4 p i = A p i) →
            (∀ k pl, pFeat t n m jj key = .inl (k, pl) → pEnt t n j ec cats = .inl (k, pl)) → (∀ key' j', pFeat t n m jj key = .inr (key', j') → pEnt t n j ec cats = .inr ((tN t n (j + 1), c, key'), cats', j')) →
            xG l d 142 Q 83 [some (.ref 0), some (.int (nI (40 + ec))), none, none] [] (wM I4 J4 A4 B3) 0 0 := by
          intro m
          induction m with
          | zero => intro jj key I4 J4 A4 hm; omega
          | succ m ih =>
            intro jj key I4 J4 A4 hm hkey k4 a44 a45 i4f i427 j4f a4f hpE hpO
            have hk5 := tkK_5 t n (tP t n jj)
            have i43 : I4 3 = nI n := by rw [i4f 3 (by decide) (by decide) (by decide) (by decide) (by decide) (by decide)]; exact h3
            have ht4 : tpM A4 t n := ⟨ht.1, fun i hi => by rw [a4f 1 i (Or.inl ⟨by decide, by decide⟩)]; exact ht.2 i hi⟩
            have m1 : ∀ v, v ≤ 9 → (nI v = (-1 : Int32) ↔ (none : Option Nat) = some v) := fun v hv => ⟨fun z => absurd z (ne_m1 (by omega)), fun z => by cases z⟩
            refine b_X11_readEntry_83 (if_eq k4.1 (b := 3) rfl (by omega) (by omega) (fun hk3 => ?_) (fun hk3 => ⟨Or.inr rfl, ?_⟩))
            · have hun := pFeat_yes (m := m) (key := key) (show tK t n jj = 3 from hk3)
              refine s_readNumber ht4 (by omega) i43 k4 (most := 3) rfl (by omega) m1 (fun k pl hp => ?_) (fun f I5 J5 hp hf3 k5 f5 g5 => ?_)
              · refine b_X11_readEntry_97 ?_
                rw [if_pos rfl]
                refine ⟨Or.inl rfl, hE k pl _ _ _ _ (hpE k pl (by rw [hun, hp, sbd_l])) (by rw [un_i (by decide), ue_i]) (ue_i _ _ _) ⟨fun i a b c d e f g h9 h10 => by rw [un_i g, un_i f, i4f i a b c d e h10], j4f, a4f, b3f⟩⟩
              · refine b_X11_readEntry_97 ?_
                rw [if_neg (ne_m1 (by omega))]
                refine s_readNumber ht4 (by omega) (j := jj + 1) (by rw [f5 3 (by decide) (by decide) (by decide) (by decide) (by decide)]; exact i43) k5 (most := 3) rfl (by omega) m1 (fun k pl hp2 => ?_) (fun v I6 J6 hp2 hv3 k6 f6 g6 => ?_)
                · refine b_X11_readEntry_111 ?_
                  rw [if_pos rfl]
                  refine ⟨Or.inl rfl, hE k pl _ _ _ _ (hpE k pl (by rw [hun, hp, sbd_r, hp2, sbd_l])) (by rw [un_i (by decide), ue_i]) (ue_i _ _ _) ⟨fun i a b c d e f g h9 h10 => by rw [un_i g, un_i f, f5 i a b c d e, i4f i a b c d e h10], fun i hi => by rw [g5 i hi, j4f i hi], a4f, b3f⟩⟩
                · refine b_X11_readEntry_111 ?_
                  rw [if_neg (ne_m1 (by omega))]
                  refine ⟨xin_of rfl (by omega) (by omega), ?_⟩
                  rw [cl_n (by omega), a45]
                  refine s_with (by omega) rfl hkey rfl (by omega) rfl (by omega) ?_
                  refine b_X11_readEntry_135 ⟨xin_of rfl (by omega) (by omega), ?_⟩
                  rw [cl_n (by omega)]
                  have hp3 := tP_lt (t := t) (n := n) (j := jj) (by show 2 ≤ tkK t n (tP t n jj); omega)
                  have hp4 := tP_lt (t := t) (n := n) (j := jj + 1) (by have := (pNum_3 hp2).1; omega)
                  refine ih (jj + 2) (setd key f (v + 1)) I6 J6 _ (by show n - tP t n (jj + 1 + 1) < m; have := tP_le t n (jj + 1 + 1); omega) (setd_lt key hkey f (by omega) (v + 1) (by omega)) k6 (by rw [un_v (by decide)]; exact a44) (by rw [ue_v, ue_i]) (fun i a b c d e f9 => by rw [f6 i a b c d e, f5 i a b c d e, i4f i a b c d e f9]) (by rw [f6 27 (by decide) (by decide) (by decide) (by decide) (by decide), f5 27 (by decide) (by decide) (by decide) (by decide) (by decide)]; exact i427) (fun i hi => by rw [g6 i hi, g5 i hi, j4f i hi]) (fun p i hpi => ?_) (fun k pl hz => hpE k pl ?_) (fun key' j' hz => hpO key' j' ?_)
                  · by_cases e : p = 5
                    · subst e
                      have hi : i ≠ 40 + ec := hpi.resolve_left (fun z => z.2 rfl)
                      rw [ue_v, un_i hi]; exact a4f 5 i (Or.inr hi)
                    · rw [un_v e]; exact a4f p i hpi
                  · rw [hun, hp, sbd_r, hp2, sbd_r]; exact hz
                  · rw [hun, hp, sbd_r, hp2, sbd_r]; exact hz
            · refine hO _ c key cats' jj _ _ _ _ (hpO key jj (pFeat_no hk3)) (by omega) (tkN_v hk2) hc16 hkey ?_ ?_ ?_ b32 a44 a45 (by rw [un_i (by decide), i4f 10 (by decide) (by decide) (by decide) (by decide) (by decide) (by decide)]) ⟨fun i a b c d e f g h9 h10 => by rw [un_i h9, i4f i a b c d e h10], j4f, a4f, b3f⟩
              · obtain ⟨z1, z2, z3, z4, z5, z6⟩ := k4
                exact ⟨by rw [un_i (by decide)]; exact z1, by rw [un_i (by decide)]; exact z2, by rw [un_i (by decide)]; exact z3, z4, fun h => by rw [un_i (by decide)]; exact z5 h, fun h => by rw [un_i (by decide)]; exact z6 h⟩
              · exact ⟨by rw [un_i (by decide), i427]; exact c3.1, c3.2⟩
              · rw [ue_i, i4f 25 (by decide) (by decide) (by decide) (by decide) (by decide) (by decide), h25]; exact nI_1 ec
        refine loop 1541 (j + 3) 0 I3 J3 _ (by omega) (by omega) k3 (by rw [un_v (by decide), ue_v, ue_i]) (by rw [ue_v, ue_i]; rfl) i3f rfl (fun i hi => by rw [g3 i hi, g2 i hi, g1 i hi]) (fun p i hpi => ?_) (fun k pl hz => ?_) (fun key' j' hz => ?_)
        · by_cases e : p = 5
          · subst e
            have hi : i ≠ 40 + ec := hpi.resolve_left (fun z => z.2 rfl)
            rw [ue_v, un_i hi]
          · rw [un_v e]
            by_cases e2 : p = 4
            · subst e2
              have hi : i ≠ 40 + ec := hpi.resolve_left (fun z => z.1 rfl)
              rw [ue_v, un_i hi]
            · rw [un_v e2]
        · unfold pEnt; rw [if_neg h, if_neg (by rw [hf]; decide), hp, sbd_r, hz]; rfl
        · unfold pEnt; rw [if_neg h, if_neg (by rw [hf]; decide), hp, sbd_r, hz]; rfl
end M5
