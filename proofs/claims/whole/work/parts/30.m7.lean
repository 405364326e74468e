/-! ===== the reference: a rule ===== -/
section M7
variable {l : Launch} {J : Nat → Int64} {A : Nat → Nat → Int32} {B : Nat → Nat → Int64} {Q : Option Value → XW → Prop} {d : Nat} {t : Nat → Nat} {n : Nat}
set_option maxHeartbeats 2000000 in
theorem s_readRule (ht : tpM A t n) (hd : 5 ≤ d) {I : Nat → Int32} {j rc : Nat} {cats : List (List Nat)} (h3 : I 3 = nI n) (htk : tkM I J t n (tP t n j)) (hc : catM I B cats) (h26 : I 26 = nI rc) (hrc : rc ≤ 30)
    (hE : ∀ k pl (I' : Nat → Int32) (J' : Nat → Int64) (A' : Nat → Nat → Int32) (B' : Nat → Nat → Int64), pRule t n j rc cats = .inl (k, pl) → I' 10 = nI k → I' 11 = nI pl → frM rc I J A B I' J' A' B' → Q (some (.int 0)) (wM I' J' A' B'))
    (hO : ∀ c1 c2 (o : Option Nat) (laws : List Law) cats' j' (I' : Nat → Int32) (J' : Nat → Int64) (A' : Nat → Nat → Int32) (B' : Nat → Nat → Int64), pRule t n j rc cats = .inr ((c1, c2, o, laws, tF t n j), cats', j') → rc < 30 → c1 < 16 → c2 < 16 → (∀ c, o = some c → c < 16) → laws.length ≤ 8 → (∀ q ∈ laws, okLaw (if o = none then 1 else 2) q) → tkM I' J' t n (tP t n j') → catM I' B' cats' → I' 26 = nI (rc + 1) → A' 6 (30 + rc) = nI c1 → A' 7 (30 + rc) = nI c2 → A' 8 (30 + rc) = o2i o → A' 9 (30 + rc) = nI laws.length → A' 10 (30 + rc) = nI (tF t n j) → (∀ k, k < laws.length → A' 11 (8 * (30 + rc) + k) = nI (lawC (laws.getD k (true, 0, 0, 0)))) → I' 10 = I 10 → frM rc I J A B I' J' A' B' → Q (some (.int 1)) (wM I' J' A' B')) :
    xK l d 143 [.ref 0] (wM I J A B) Q := by
  obtain ⟨d, rfl⟩ : ∃ e, d = e + 1 := ⟨d - 1, by omega⟩
  have hn := ht.1
  refine e_X11_readRule (if_eq h26 (b := 30) rfl (by omega) (by omega) (fun h => ?_) (fun h => ?_))
  · refine s_bad (by omega) htk (k := 3) rfl ?_
    exact b_X11_readRule_14 ⟨Or.inl rfl, hE _ _ _ _ _ _ (by unfold pRule; rw [if_pos h]) (by rw [un_i (by decide), ue_i]) (ue_i _ _ _) ⟨fun i a b c d e f g h _ => by rw [un_i g, un_i f], fun _ _ => rfl, fun _ _ _ => rfl, fun _ _ _ => rfl⟩⟩
  have e30 : (30 : Int32) + I 26 = nI (30 + rc) := add_of rfl h26
  refine ⟨xin_of e30 (by omega) (by omega), ?_⟩
  rw [e30, cl_n (by omega), htk.2.1]
  have oA0 : ∀ q i, okA rc q i → (va_up A 10 (upd (A 10) (30 + rc) (nI (tF t n j)))) q i = A q i := okA_up (by omega) (fun _ _ _ => rfl)
  have a10 : (va_up A 10 (upd (A 10) (30 + rc) (nI (tF t n j)))) 10 (30 + rc) = nI (tF t n j) := by rw [ue_v, ue_i]
  have tpo : ∀ {A1 : Nat → Nat → Int32}, (∀ q i, okA rc q i → A1 q i = A q i) → tpM A1 t n := fun h1 => ⟨hn, fun i hi => by rw [h1 1 i ⟨fun z => by omega, fun z => by omega⟩]; exact ht.2 i hi⟩
  generalize va_up A 10 (upd (A 10) (30 + rc) (nI (tF t n j))) = A1 at oA0 a10 ⊢
  refine s_go (tpo oA0) (by omega) (p := tP t n (j + 1)) h3 htk.2.2.1 (tP_le t n (j + 1)) (fun I1 J1 k1 f1 g1 => ?_)
  have hc1 : catM I1 B cats := ⟨by rw [f1 27 (by decide) (by decide) (by decide) (by decide) (by decide)]; exact hc.1, hc.2⟩
  refine b_X11_readRule_37 (s_readCategory (tpo oA0) (by omega) (j := j + 1) (by rw [f1 3 (by decide) (by decide) (by decide) (by decide) (by decide)]; exact h3) k1 hc1 (fun k pl hp => ?_) (fun c1 cats1 I2 J2 B2 hp1 hc16 k2 cc2 f2 g2 p2 q2 => ?_))
  · refine b_X11_readRule_46 ⟨xin_of rfl (by omega) (by omega), xin_of rfl (by omega) (by omega), ?_⟩
    rw [cl_n (by omega), ue_i, if_pos rfl]
    exact ⟨Or.inl rfl, hE k pl _ _ _ _ (by unfold pRule; rw [if_neg h, hp, sbd_l]) (by rw [un_i (by decide), ue_i]) (ue_i _ _ _) ⟨fun i a b c d e f g h9 _ => by rw [un_i g, un_i f, f1 i a b c d e], g1, okA_up (by omega) oA0, fun _ _ _ => rfl⟩⟩
  have I2f : ∀ i, i ≠ 4 → i ≠ 5 → i ≠ 6 → i ≠ 7 → i ≠ 8 → i ≠ 27 → I2 i = I i := fun i a b c d e f => by rw [f2 i a b c d e f, f1 i a b c d e]
  have J2f : ∀ i, i ≠ 9 → J2 i = J i := fun i a => by rw [g2 i a, g1 i a]
  have B2f : ∀ p i, p ≠ 3 ∨ i < 16 → B2 p i = B p i := fun p i hp => by
    by_cases e : p = 3
    · subst e; exact q2 i (hp.resolve_left (fun z => z rfl))
    · rw [p2 p e]
  have oA2 := okA_up (rc := rc) (p := 6) (v := nI c1) (by omega) oA0
  have a106 : (va_up A1 6 (upd (A1 6) (30 + rc) (nI c1))) 10 (30 + rc) = nI (tF t n j) := by rw [un_v (by decide)]; exact a10
  have a66 : (va_up A1 6 (upd (A1 6) (30 + rc) (nI c1))) 6 (30 + rc) = nI c1 := by rw [ue_v, ue_i]
  refine b_X11_readRule_46 ⟨xin_of rfl (by omega) (by omega), xin_of rfl (by omega) (by omega), ?_⟩
  rw [cl_n (by omega), ue_i, if_neg (ne_m1 (by omega))]
  generalize va_up A1 6 (upd (A1 6) (30 + rc) (nI c1)) = A2 at oA2 a106 a66 ⊢
  have hk5 := tkK_5 t n (tP t n (j + 2))
  have k2 : tkM I2 J2 t n (tP t n (j + 2)) := k2
  have bad1 : ¬ (tK t n (j + 2) = 4 ∧ tC t n (j + 2) = 61) → xK l d 135 [.ref 0, .int 1] (wM I2 J2 A2 B2) (fun v9 w9 => xG l d 143 Q 81 [none, none, none, none, none, none, none] (v9.toList ++ []) w9 0 0) := fun hno => by
    refine s_bad (by omega) k2 (k := 1) rfl ?_
    exact b_X11_readRule_81 ⟨Or.inl rfl, hE _ _ _ _ _ _ (by unfold pRule; rw [if_neg h, hp1, sbd_r, if_pos hno]) (by rw [un_i (by decide), ue_i]) (ue_i _ _ _) ⟨fun i a b c d e f g h9 h10 => by rw [un_i g, un_i f, I2f i a b c d e h10], J2f, oA2, B2f⟩⟩
  refine if_eq k2.1 (b := 4) rfl (by omega) (by omega) (fun e4 => ?_) (fun e4 => bad1 (fun z => e4 z.1))
  have hCb : tkC t n (tP t n (j + 2)) < 256 := by
    have e4 : tkK t n (tP t n (j + 2)) = 4 := e4
    unfold tkC
    refine (ht.2 _ ?_).1
    unfold tkK at e4
    split at e4
    · omega
    · split at e4
      · omega
      · omega
  refine if_eq (k2.2.2.2.2.2 e4) (b := 61) rfl (by omega) (by omega) (fun e61 => ?_) (fun e61 => bad1 (fun z => e61 z.2))
  have hyes : ¬ ¬ (tK t n (j + 2) = 4 ∧ tC t n (j + 2) = 61) := fun z => z ⟨e4, e61⟩
  refine s_go (tpo oA2) (by omega) (p := tP t n (j + 3)) (by rw [I2f 3 (by decide) (by decide) (by decide) (by decide) (by decide) (by decide)]; exact h3) k2.2.2.1 (tP_le t n (j + 3)) (fun I3 J3 k3 f3 g3 => ?_)
  have I3f : ∀ i, i ≠ 4 → i ≠ 5 → i ≠ 6 → i ≠ 7 → i ≠ 8 → i ≠ 27 → I3 i = I i := fun i a b c d e f => by rw [f3 i a b c d e, I2f i a b c d e f]
  have J3f : ∀ i, i ≠ 9 → J3 i = J i := fun i a => by rw [g3 i a, J2f i a]
  have hc3 : catM I3 B2 cats1 := ⟨by rw [f3 27 (by decide) (by decide) (by decide) (by decide) (by decide)]; exact cc2.1, cc2.2⟩
  refine b_X11_readRule_86 (s_readCategory (tpo oA2) (by omega) (j := j + 3) (by rw [I3f 3 (by decide) (by decide) (by decide) (by decide) (by decide) (by decide)]; exact h3) k3 hc3 (fun k pl hp => ?_) (fun c2 cats2 I4 J4 B4 hp2 hc216 k4 cc4 f4 g4 p4 q4 => ?_))
  · refine b_X11_readRule_95 ⟨xin_of rfl (by omega) (by omega), xin_of rfl (by omega) (by omega), ?_⟩
    rw [cl_n (by omega), ue_i, if_pos rfl]
    exact ⟨Or.inl rfl, hE k pl _ _ _ _ (by unfold pRule; rw [if_neg h, hp1, sbd_r, if_neg hyes, hp, sbd_l]) (by rw [un_i (by decide), ue_i]) (ue_i _ _ _) ⟨fun i a b c d e f g h9 h10 => by rw [un_i g, un_i f, I3f i a b c d e h10], J3f, okA_up (by omega) oA2, B2f⟩⟩
  have I4f : ∀ i, i ≠ 4 → i ≠ 5 → i ≠ 6 → i ≠ 7 → i ≠ 8 → i ≠ 27 → I4 i = I i := fun i a b c d e f => by rw [f4 i a b c d e f, I3f i a b c d e f]
  have J4f : ∀ i, i ≠ 9 → J4 i = J i := fun i a => by rw [g4 i a, J3f i a]
  have B4f : ∀ p i, p ≠ 3 ∨ i < 16 → B4 p i = B p i := fun p i hp => by
    by_cases e : p = 3
    · subst e; rw [q4 i (hp.resolve_left (fun z => z rfl)), B2f 3 i hp]
    · rw [p4 p e, B2f p i hp]
  have oA3 := okA_up (rc := rc) (p := 8) (v := -1) (by omega) (okA_up (rc := rc) (p := 7) (v := nI c2) (by omega) oA2)
  refine b_X11_readRule_95 ⟨xin_of rfl (by omega) (by omega), xin_of rfl (by omega) (by omega), ?_⟩
  rw [cl_n (by omega), ue_i, if_neg (ne_m1 (by omega))]
  refine ⟨xin_of rfl (by omega) (by omega), ?_⟩
  have eA : va_up (va_up A2 7 (upd (A2 7) (30 + rc) (nI c2))) 8 (upd (A2 8) (30 + rc) (-1)) = va_up (va_up A2 7 (upd (A2 7) (30 + rc) (nI c2))) 8 (upd ((va_up A2 7 (upd (A2 7) (30 + rc) (nI c2))) 8) (30 + rc) (-1)) := by rw [un_v (j := 8) (k := 7) (by decide)]
  rw [eA]
  have b10 : (va_up (va_up A2 7 (upd (A2 7) (30 + rc) (nI c2))) 8 (upd ((va_up A2 7 (upd (A2 7) (30 + rc) (nI c2))) 8) (30 + rc) (-1))) 10 (30 + rc) = nI (tF t n j) := by rw [un_v (by decide), un_v (by decide)]; exact a106
  have b6 : (va_up (va_up A2 7 (upd (A2 7) (30 + rc) (nI c2))) 8 (upd ((va_up A2 7 (upd (A2 7) (30 + rc) (nI c2))) 8) (30 + rc) (-1))) 6 (30 + rc) = nI c1 := by rw [un_v (by decide), un_v (by decide)]; exact a66
  have b7 : (va_up (va_up A2 7 (upd (A2 7) (30 + rc) (nI c2))) 8 (upd ((va_up A2 7 (upd (A2 7) (30 + rc) (nI c2))) 8) (30 + rc) (-1))) 7 (30 + rc) = nI c2 := by rw [un_v (by decide), ue_v, ue_i]
  have b8 : (va_up (va_up A2 7 (upd (A2 7) (30 + rc) (nI c2))) 8 (upd ((va_up A2 7 (upd (A2 7) (30 + rc) (nI c2))) 8) (30 + rc) (-1))) 8 (30 + rc) = -1 := by rw [ue_v, ue_i]
  generalize va_up (va_up A2 7 (upd (A2 7) (30 + rc) (nI c2))) 8 (upd ((va_up A2 7 (upd (A2 7) (30 + rc) (nI c2))) 8) (30 + rc) (-1)) = A3 at oA3 b10 b6 b7 b8 ⊢
  -- the laws, and the end
  have rest : ∀ (o : Option Nat) jj cats3 (I5 : Nat → Int32) (J5 : Nat → Int64) (A4 : Nat → Nat → Int32) (B5 : Nat → Nat → Int64), (∀ c, o = some c → c < 16) → (∀ k pl, pLaws t n (if o = none then 1 else 2) 9 jj [] = .inl (k, pl) → pRule t n j rc cats = .inl (k, pl)) → (∀ laws j', pLaws t n (if o = none then 1 else 2) 9 jj [] = .inr (laws, j') → pRule t n j rc cats = .inr ((c1, c2, o, laws, tF t n j), cats3, j')) → tkM I5 J5 t n (tP t n jj) → catM I5 B5 cats3 → (∀ i, i ≠ 4 → i ≠ 5 → i ≠ 6 → i ≠ 7 → i ≠ 8 → i ≠ 27 → I5 i = I i) → (∀ i, i ≠ 9 → J5 i = J i) → (∀ q i, okA rc q i → A4 q i = A q i) → (∀ p i, p ≠ 3 ∨ i < 16 → B5 p i = B p i) → A4 10 (30 + rc) = nI (tF t n j) → A4 6 (30 + rc) = nI c1 → A4 7 (30 + rc) = nI c2 → A4 8 (30 + rc) = o2i o →
      (xin (nI (30 + rc)) 60 ∧ xG l d 143 Q 167 [some (.ref 0), some (.int (nI (30 + rc))), some (.int (nI (if o = none then 1 else 2))), none, none, none, none] [] (wM I5 J5 (va_up A4 9 (upd (A4 9) (30 + rc) 0)) B5) 0 0) := by
    intro o jj cats3 I5 J5 A4 B5 ho hpE hpO k5 cc5 I5f J5f oA4 B5f c10 c6 c7 c8
    refine ⟨xin_of rfl (by omega) (by omega), ?_⟩
    have oA5 := okA_up (rc := rc) (p := 9) (v := 0) (by omega) oA4
    have key : ∀ {A' : Nat → Nat → Int32}, (∀ p i, (p ≠ 9 ∨ i ≠ 30 + rc) → (p ≠ 11 ∨ ¬ (8 * (30 + rc) ≤ i ∧ i < 8 * (30 + rc) + 8)) → A' p i = (va_up A4 9 (upd (A4 9) (30 + rc) 0)) p i) → (∀ q i, okA rc q i → A' q i = A q i) ∧ A' 10 (30 + rc) = nI (tF t n j) ∧ A' 6 (30 + rc) = nI c1 ∧ A' 7 (30 + rc) = nI c2 ∧ A' 8 (30 + rc) = o2i o := fun hA' => by
      refine ⟨fun q i hq => ?_, ?_, ?_, ?_, ?_⟩
      · rw [hA' q i (by by_cases e : q = 9; · exact Or.inr (fun z => hq.1 ⟨by omega, by omega, z⟩)
                        · exact Or.inl e) (by by_cases e : q = 11; · exact Or.inr (fun z => hq.2 ⟨e, z.1, z.2⟩)
                                              · exact Or.inl e)]
        exact oA5 q i hq
      · rw [hA' 10 _ (Or.inl (by decide)) (Or.inl (by decide)), un_v (by decide)]; exact c10
      · rw [hA' 6 _ (Or.inl (by decide)) (Or.inl (by decide)), un_v (by decide)]; exact c6
      · rw [hA' 7 _ (Or.inl (by decide)) (Or.inl (by decide)), un_v (by decide)]; exact c7
      · rw [hA' 8 _ (Or.inl (by decide)) (Or.inl (by decide)), un_v (by decide)]; exact c8
    refine g_laws d (by omega) (rc := rc) (by omega) (by split <;> omega) (tpo oA5) (by rw [I5f 3 (by decide) (by decide) (by decide) (by decide) (by decide) (by decide)]; exact h3) 9 jj [] I5 J5 _ rfl (by simp) k5 (by rw [ue_v, ue_i]; rfl) (fun k hk => by simp at hk) (fun q hq => by simp at hq) (fun _ _ _ _ _ _ => rfl) (fun _ _ => rfl) (fun _ _ _ _ => rfl) (fun k pl I' J' A' hp x10 x11 hI' hJ' hA' => ?_) (fun laws j' I' J' A' hp hl8 hokl k6 x9 x11 x26 hI' hJ' hA' => ?_)
    · exact hE k pl I' J' A' B5 (hpE k pl hp) x10 x11 ⟨fun i a b c d e f g h9 h10 => by rw [hI' i a b c d e f g, I5f i a b c d e h10], fun i a => by rw [hJ' i a, J5f i a], (key hA').1, B5f⟩
    · obtain ⟨z1, z2, z3, z4, z5⟩ := key hA'
      refine hO c1 c2 o laws cats3 j' I' J' A' B5 (hpO laws j' hp) (by omega) hc16 hc216 ho hl8 hokl k6 ⟨by rw [hI' 27 (by decide) (by decide) (by decide) (by decide) (by decide) (by decide)]; exact cc5.1, cc5.2⟩ ?_ z3 z4 z5 x9 z2 x11 (by rw [hI' 10 (by decide) (by decide) (by decide) (by decide) (by decide) (by decide), I5f 10 (by decide) (by decide) (by decide) (by decide) (by decide) (by decide)]) ⟨fun i a b c d e f g h9 h10 => by rw [hI' i a b c d e h9, I5f i a b c d e h10], fun i a => by rw [hJ' i a, J5f i a], z1, B5f⟩
      rw [x26, I5f 26 (by decide) (by decide) (by decide) (by decide) (by decide) (by decide), h26]; exact nI_1 rc
  refine s_isFree (by omega) k4 ?_
  refine b_X11_readRule_119 (if_b (b := tFree t n (j + 4)) rfl (fun hf => ?_) (fun hf => ?_))
  · refine ⟨xin_of rfl (by omega) (by omega), ?_⟩
    rw [cl_n (by omega), b8, if_pos rfl]
    refine rest none (j + 4) cats2 I4 J4 A3 B4 (fun c z => by cases z) (fun k pl hz => ?_) (fun laws j' hz => ?_) k4 cc4 I4f J4f oA3 B4f b10 b6 b7 b8
    · unfold pRule; rw [if_neg h, hp1, sbd_r, if_neg hyes, hp2, sbd_r, if_neg (by rw [hf]; decide)]; rw [if_pos rfl] at hz; rw [hz, sbd_l]
    · unfold pRule; rw [if_neg h, hp1, sbd_r, if_neg hyes, hp2, sbd_r, if_neg (by rw [hf]; decide)]; rw [if_pos rfl] at hz; rw [hz, sbd_r]
  · refine s_readCategory (tpo oA3) (by omega) (j := j + 4) (by rw [I4f 3 (by decide) (by decide) (by decide) (by decide) (by decide) (by decide)]; exact h3) k4 cc4 (fun k pl hp => ?_) (fun c3 cats3 I5 J5 B5 hp3 hc316 k5 cc5 f5 g5 p5 q5 => ?_)
    · refine b_X11_readRule_131 ⟨xin_of rfl (by omega) (by omega), xin_of rfl (by omega) (by omega), ?_⟩
      rw [cl_n (by omega), ue_i, if_pos rfl]
      exact ⟨Or.inl rfl, hE k pl _ _ _ _ (by unfold pRule; rw [if_neg h, hp1, sbd_r, if_neg hyes, hp2, sbd_r, if_pos hf, hp, sbd_l]) (by rw [un_i (by decide), ue_i]) (ue_i _ _ _) ⟨fun i a b c d e f g h9 h10 => by rw [un_i g, un_i f, I4f i a b c d e h10], J4f, okA_up (by omega) oA3, B4f⟩⟩
    · refine b_X11_readRule_131 ⟨xin_of rfl (by omega) (by omega), xin_of rfl (by omega) (by omega), ?_⟩
      rw [cl_n (by omega), ue_i, if_neg (ne_m1 (by omega))]
      refine ⟨xin_of rfl (by omega) (by omega), ?_⟩
      rw [if_neg (ne_m1 (by omega))]
      have eB : va_up (va_up A3 8 (upd (A3 8) (30 + rc) (nI c3))) 9 (upd (A3 9) (30 + rc) 0) = va_up (va_up A3 8 (upd (A3 8) (30 + rc) (nI c3))) 9 (upd ((va_up A3 8 (upd (A3 8) (30 + rc) (nI c3))) 9) (30 + rc) 0) := by rw [un_v (j := 9) (k := 8) (by decide)]
      rw [eB]
      refine rest (some c3) (j + 5) cats3 I5 J5 _ B5 (fun c z => by cases z; exact hc316) (fun k pl hz => ?_) (fun laws j' hz => ?_) k5 cc5 (fun i a b c d e f => by rw [f5 i a b c d e f, I4f i a b c d e f]) (fun i a => by rw [g5 i a, J4f i a]) (okA_up (by omega) oA3) (fun p i hp => ?_) (by rw [un_v (by decide)]; exact b10) (by rw [un_v (by decide)]; exact b6) (by rw [un_v (by decide)]; exact b7) (by rw [ue_v, ue_i]; rfl)
      · unfold pRule; rw [if_neg h, hp1, sbd_r, if_neg hyes, hp2, sbd_r, if_pos hf, hp3, sbd_r]; rw [if_neg (by simp)] at hz; rw [hz, sbd_l]
      · unfold pRule; rw [if_neg h, hp1, sbd_r, if_neg hyes, hp2, sbd_r, if_pos hf, hp3, sbd_r]; rw [if_neg (by simp)] at hz; rw [hz, sbd_r]
      · by_cases e : p = 3
        · subst e; rw [q5 i (hp.resolve_left (fun z => z rfl)), B4f 3 i hp]
        · rw [p5 p e, B4f p i hp]
end M7
