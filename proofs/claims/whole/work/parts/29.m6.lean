/-! ===== the reference: laws and rules ===== -/
section M6
variable {l : Launch} {J : Nat → Int64} {A : Nat → Nat → Int32} {B : Nat → Nat → Int64} {Q : Option Value → XW → Prop} {d : Nat} {t : Nat → Nat} {n : Nat}
theorem m1_none : ∀ v, v ≤ 9 → (nI v = (-1 : Int32) ↔ (none : Option Nat) = some v) := fun v hv => ⟨fun z => absurd z (ne_m1 (by omega)), fun z => by cases z⟩
theorem tkM_up {I : Nat → Int32} {J : Nat → Int64} {p k : Nat} {v : Int32} (h : tkM I J t n p) (h4 : k ≠ 4) (h5 : k ≠ 5) (h6 : k ≠ 6) (h7 : k ≠ 7) (h8 : k ≠ 8) : tkM (upd I k v) J t n p := by
  obtain ⟨z1, z2, z3, z4, z5, z6⟩ := h
  exact ⟨by rw [un_i h6.symm]; exact z1, by rw [un_i h5.symm]; exact z2, by rw [un_i h4.symm]; exact z3, z4, fun h => by rw [un_i h8.symm]; exact z5 h, fun h => by rw [un_i h7.symm]; exact z6 h⟩
set_option maxHeartbeats 2000000 in
/-- the laws of a rule, from the loop's head on -/
theorem g_laws (d : Nat) (hd : 4 ≤ d) {rc parts : Nat} (hrc : rc < 30) (hparts : 1 ≤ parts ∧ parts ≤ 2) {A0 : Nat → Nat → Int32} {I0 : Nat → Int32} {J0 : Nat → Int64} (ht0 : tpM A0 t n) (h3 : I0 3 = nI n) : ∀ m j acc (I : Nat → Int32) (J : Nat → Int64) (A : Nat → Nat → Int32), acc.length + m = 9 → acc.length ≤ 8 → tkM I J t n (tP t n j) → A 9 (30 + rc) = nI acc.length → (∀ k, k < acc.length → A 11 (8 * (30 + rc) + k) = nI (lawC (acc.getD k (true, 0, 0, 0)))) → (∀ q ∈ acc, okLaw parts q) →
    (∀ i, i ≠ 4 → i ≠ 5 → i ≠ 6 → i ≠ 7 → i ≠ 8 → I i = I0 i) → (∀ i, i ≠ 9 → J i = J0 i) → (∀ p i, (p ≠ 9 ∨ i ≠ 30 + rc) → (p ≠ 11 ∨ ¬ (8 * (30 + rc) ≤ i ∧ i < 8 * (30 + rc) + 8)) → A p i = A0 p i) →
    (∀ k pl (I' : Nat → Int32) (J' : Nat → Int64) (A' : Nat → Nat → Int32), pLaws t n parts m j acc = .inl (k, pl) → I' 10 = nI k → I' 11 = nI pl → (∀ i, i ≠ 4 → i ≠ 5 → i ≠ 6 → i ≠ 7 → i ≠ 8 → i ≠ 10 → i ≠ 11 → I' i = I0 i) → (∀ i, i ≠ 9 → J' i = J0 i) → (∀ p i, (p ≠ 9 ∨ i ≠ 30 + rc) → (p ≠ 11 ∨ ¬ (8 * (30 + rc) ≤ i ∧ i < 8 * (30 + rc) + 8)) → A' p i = A0 p i) → Q (some (.int 0)) (wM I' J' A' B)) →
    (∀ laws j' (I' : Nat → Int32) (J' : Nat → Int64) (A' : Nat → Nat → Int32), pLaws t n parts m j acc = .inr (laws, j') → laws.length ≤ 8 → (∀ q ∈ laws, okLaw parts q) → tkM I' J' t n (tP t n j') → A' 9 (30 + rc) = nI laws.length → (∀ k, k < laws.length → A' 11 (8 * (30 + rc) + k) = nI (lawC (laws.getD k (true, 0, 0, 0)))) → I' 26 = I0 26 + 1 → (∀ i, i ≠ 4 → i ≠ 5 → i ≠ 6 → i ≠ 7 → i ≠ 8 → i ≠ 26 → I' i = I0 i) → (∀ i, i ≠ 9 → J' i = J0 i) → (∀ p i, (p ≠ 9 ∨ i ≠ 30 + rc) → (p ≠ 11 ∨ ¬ (8 * (30 + rc) ≤ i ∧ i < 8 * (30 + rc) + 8)) → A' p i = A0 p i) → Q (some (.int 1)) (wM I' J' A' B)) →
    xG l d 143 Q 167 [some (.ref 0), some (.int (nI (30 + rc))), some (.int (nI parts)), none, none, none, none] [] (wM I J A B) 0 0 := by
  have hn := ht0.1
  intro m
  induction m with
  | zero => intro j acc I J A hm h8; omega
  | succ m ih =>
    intro j acc I J A hm hm8 htk ha9 ha11 hok hI hJ hA hE hO
    have ht : tpM A t n := ⟨hn, fun i hi => by rw [hA 1 i (Or.inl (by decide)) (Or.inl (by decide))]; exact ht0.2 i hi⟩
    have i3 : I 3 = nI n := by rw [hI 3 (by decide) (by decide) (by decide) (by decide) (by decide)]; exact h3
    have cA : (682484 : Int64) = lN (c27 kwA) := by rw [kw_c.2.2.1]; rfl
    have cI : (262 : Int64) = lN (c27 kwI) := by rw [kw_c.2.2.2]; rfl
    -- a law is there
    have law : ¬ (tKey t n j kwA = false ∧ tKey t n j kwI = false) → (xin (nI (30 + rc)) 60 ∧ (if (A 9 (nI (30 + rc)).toNatClampNeg) = 8 then (xK l d 135 [.ref 0, .int 3] (wM I J A B) (fun v9 w9 => xG l d 143 Q 203 [none, none, none, none, none, none, none] (v9.toList ++ []) w9 0 0)) else (xK l d 136 [.ref 0, .long 682484] (wM I J A B) (fun v9 w9 => xG l d 143 Q 211 [some (.ref 0), some (.int (nI (30 + rc))), some (.int (nI parts)), none, none, none, none] (v9.toList ++ []) w9 0 0)))) := by
      intro hk
      refine ⟨xin_of rfl (by omega) (by omega), ?_⟩
      rw [cl_n (by omega)]
      refine if_eq ha9 (b := 8) rfl (by omega) (by omega) (fun h8 => ?_) (fun h8 => ?_)
      · refine s_bad (by omega) htk (k := 3) rfl ?_
        refine b_X11_readRule_203 ⟨Or.inl rfl, hE (pFl t n j 3).1 (pFl t n j 3).2 _ _ _ (pLaws_8 hk h8) (by rw [un_i (by decide), ue_i]) (ue_i _ _ _) (fun i a b c d e f g => by rw [un_i g, un_i f, hI i a b c d e]) hJ hA⟩
      · have hun := pLaws_go (parts := parts) (m := m) hk h8
        refine s_isKey (by omega) htk kw_v.2.2.1 cA ?_
        refine b_X11_readRule_211 (s_go ht (by omega) (p := tP t n (j + 1)) i3 htk.2.2.1 (tP_le t n (j + 1)) (fun I1 J1 k1 f1 g1 => ?_))
        have i13 : I1 3 = nI n := by rw [f1 3 (by decide) (by decide) (by decide) (by decide) (by decide)]; exact i3
        have I1f : ∀ i, i ≠ 4 → i ≠ 5 → i ≠ 6 → i ≠ 7 → i ≠ 8 → I1 i = I0 i := fun i a b c d e => by rw [f1 i a b c d e, hI i a b c d e]
        have J1f : ∀ i, i ≠ 9 → J1 i = J0 i := fun i a => by rw [g1 i a, hJ i a]
        refine b_X11_readRule_216 (s_readNumber ht (by omega) (j := j + 1) i13 k1 (most := 3) rfl (by omega) m1_none (fun k pl hp => ?_) (fun f I2 J2 hp1 hf3 k2 f2 g2 => ?_))
        · refine b_X11_readRule_222 ?_
          rw [if_pos rfl]
          refine ⟨Or.inl rfl, hE k pl _ _ _ (by rw [hun, hp, sbd_l]) (by rw [un_i (by decide), ue_i]) (ue_i _ _ _) (fun i a b c d e f g => by rw [un_i g, un_i f, I1f i a b c d e]) J1f hA⟩
        have I2f : ∀ i, i ≠ 4 → i ≠ 5 → i ≠ 6 → i ≠ 7 → i ≠ 8 → I2 i = I0 i := fun i a b c d e => by rw [f2 i a b c d e, I1f i a b c d e]
        have J2f : ∀ i, i ≠ 9 → J2 i = J0 i := fun i a => by rw [g2 i a, J1f i a]
        refine b_X11_readRule_222 ?_
        rw [if_neg (ne_m1 (by omega))]
        refine s_readNumber ht (by omega) (j := j + 2) (by rw [I2f 3 (by decide) (by decide) (by decide) (by decide) (by decide)]; exact h3) k2 (most := parts) rfl (by omega) m1_none (fun k pl hp => ?_) (fun s I3 J3 hp2 hs k3 f3 g3 => ?_)
        · refine b_X11_readRule_238 ?_
          rw [if_pos rfl]
          refine ⟨Or.inl rfl, hE k pl _ _ _ (by rw [hun, hp1, sbd_r, hp, sbd_l]) (by rw [un_i (by decide), ue_i]) (ue_i _ _ _) (fun i a b c d e f g => by rw [un_i g, un_i f, I2f i a b c d e]) J2f hA⟩
        have I3f : ∀ i, i ≠ 4 → i ≠ 5 → i ≠ 6 → i ≠ 7 → i ≠ 8 → I3 i = I0 i := fun i a b c d e => by rw [f3 i a b c d e, I2f i a b c d e]
        have J3f : ∀ i, i ≠ 9 → J3 i = J0 i := fun i a => by rw [g3 i a, J2f i a]
        have i33 : I3 3 = nI n := by rw [I3f 3 (by decide) (by decide) (by decide) (by decide) (by decide)]; exact h3
        -- the third number is there
        have last : ∀ v (I4 : Nat → Int32) (J4 : Nat → Int64), pNum t n (j + 3) (if tKey t n j kwA = true then parts else 3) (if tKey t n j kwA = true then some s else none) = .inr v → v ≤ (if tKey t n j kwA = true then parts else 3) → tkM I4 J4 t n (tP t n (j + 4)) → (∀ i, i ≠ 4 → i ≠ 5 → i ≠ 6 → i ≠ 7 → i ≠ 8 → I4 i = I3 i) → (∀ i, i ≠ 9 → J4 i = J3 i) →
            xG l d 143 Q 268 [some (.ref 0), some (.int (nI (30 + rc))), some (.int (nI parts)), some (.int (if tKey t n j kwA = true then 1 else 0)), some (.int (nI f)), some (.int (nI s)), none] [.int (nI v)] (wM I4 J4 A B) 0 0 := by
          intro v I4 J4 hp3 hv k4 f4 g4
          have hv3 : v ≤ 3 := by split at hv <;> omega
          have e8 : (8 : Int32) * nI (30 + rc) + A 9 (nI (30 + rc)).toNatClampNeg = nI (8 * (30 + rc) + acc.length) := by rw [cl_n (by omega), ha9]; exact add_of (mul_of rfl rfl) rfl
          have hlen : acc.length ≤ 7 := by omega
          have hne : tKey t n j kwA = true → v ≠ s := fun ha z => by
            subst z
            unfold pNum at hp3
            rw [if_pos ha] at hp3
            split at hp3
            · cases hp3
            · split at hp3
              · cases hp3
              · rename_i g1 g2
                cases hp3
                exact g2 (Or.inr rfl)
          have fin : ∀ z : Int32, z = nI (lawC (tKey t n j kwA, f, s, v)) → (xin ((8 : Int32) * nI (30 + rc) + A 9 (nI (30 + rc)).toNatClampNeg) 480 ∧ (xin (nI (30 + rc)) 60 ∧ (xin (nI (30 + rc)) 60 ∧ (xG l d 143 Q 167 [some (.ref 0), some (.int (nI (30 + rc))), some (.int (nI parts)), none, none, none, none] [] (wM I4 J4 (va_up (va_up A 9 (upd (A 9) (nI (30 + rc)).toNatClampNeg ((A 9 (nI (30 + rc)).toNatClampNeg) + 1))) 11 (upd (A 11) ((8 : Int32) * nI (30 + rc) + A 9 (nI (30 + rc)).toNatClampNeg).toNatClampNeg z)) B) 0 0)))) := by
            intro z hz
            rw [e8]
            refine ⟨xin_of rfl (by omega) (by omega), xin_of rfl (by omega) (by omega), xin_of rfl (by omega) (by omega), ?_⟩
            rw [cl_n (by omega), cl_n (by omega), ha9, hz]
            refine ih (j + 4) (acc ++ [(tKey t n j kwA, f, s, v)]) I4 J4 _ (by rw [List.length_append]; simp; omega) (by rw [List.length_append]; simp; omega) k4 ?_ ?_ ?_ (fun i a b c d e => by rw [f4 i a b c d e, I3f i a b c d e]) (fun i a => by rw [g4 i a, J3f i a]) ?_ ?_ ?_
            · rw [un_v (by decide), ue_v, ue_i, List.length_append]; exact nI_1 _
            · intro k hk2
              rw [List.length_append] at hk2; simp at hk2
              rw [ue_v]
              by_cases e : k = acc.length
              · subst e; rw [ue_i, gD_r]
              · rw [un_i (by omega), gD_l (by omega)]; exact ha11 k (by omega)
            · intro q hq
              rcases List.mem_append.mp hq with hq | hq
              · exact hok q hq
              · simp at hq; subst hq
                exact ⟨hf3, hs, hv, hne⟩
            · intro p i hp9 hp11
              by_cases e : p = 11
              · subst e
                have hi := hp11.resolve_left (fun z => z rfl)
                rw [ue_v, un_i (by omega)]; exact hA 11 i hp9 hp11
              · rw [un_v e]
                by_cases e2 : p = 9
                · subst e2
                  have hi := hp9.resolve_left (fun z => z rfl)
                  rw [ue_v, un_i hi]; exact hA 9 i hp9 hp11
                · rw [un_v e2]; exact hA p i hp9 hp11
            · intro k pl I' J' A' hz2; exact hE k pl I' J' A' (by rw [hun, hp1, sbd_r, hp2, sbd_r, hp3, sbd_r]; exact hz2)
            · intro laws j' I' J' A' hz2; exact hO laws j' I' J' A' (by rw [hun, hp1, sbd_r, hp2, sbd_r, hp3, sbd_r]; exact hz2)
          refine b_X11_readRule_268 ?_
          rw [if_neg (ne_m1 (by omega))]
          have e1 : (64 : Int32) * nI f + (16 : Int32) * nI s + nI v = nI (64 * f + 16 * s + v) := add_of (add_of (mul_of rfl rfl) (mul_of rfl rfl)) rfl
          refine ⟨xin_of rfl (by omega) (by omega), if_b (b := tKey t n j kwA) rfl (fun ha => fin _ ?_) (fun ha => fin _ ?_)⟩
          · rw [e1]; unfold lawC; simp only [ha]; exact add_of rfl rfl
          · rw [e1]; unfold lawC; simp only [ha]; exact add_of rfl rfl
        have bad3 : ∀ k pl, pNum t n (j + 3) (if tKey t n j kwA = true then parts else 3) (if tKey t n j kwA = true then some s else none) = .inl (k, pl) → xG l d 143 Q 268 [some (.ref 0), some (.int (nI (30 + rc))), some (.int (nI parts)), some (.int (if tKey t n j kwA = true then 1 else 0)), some (.int (nI f)), some (.int (nI s)), none] [.int (-1)] (wM (upd (upd I3 10 (nI k)) 11 (nI pl)) J3 A B) 0 0 := by
          intro k pl hp
          refine b_X11_readRule_268 ?_
          rw [if_pos rfl]
          refine ⟨Or.inl rfl, hE k pl _ _ _ (by rw [hun, hp1, sbd_r, hp2, sbd_r, hp, sbd_l]) (by rw [un_i (by decide), ue_i]) (ue_i _ _ _) (fun i a b c d e f g => by rw [un_i g, un_i f, I3f i a b c d e]) J3f hA⟩
        refine b_X11_readRule_238 ?_
        rw [if_neg (ne_m1 (by omega))]
        refine if_b (b := tKey t n j kwA) rfl (fun ha => ?_) (fun ha => ?_)
        · refine s_readNumber ht (by omega) (j := j + 3) i33 k3 (most := 3) rfl (by omega) m1_none (fun k pl hp => bad3 k pl (by rw [ha]; exact hp)) (fun v I4 J4 hp hv k4 f4 g4 => last v I4 J4 (by rw [ha]; exact hp) (by rw [ha]; exact hv) k4 f4 g4)
        · refine s_readNumber ht (by omega) (j := j + 3) i33 k3 (most := parts) (but := some s) rfl (by omega) (fun v hv => by rw [eq_n (by omega) (by omega)]; exact ⟨fun z => by rw [z], fun z => (Option.some.inj z).symm⟩) (fun k pl hp => b_X11_readRule_259 (bad3 k pl (by rw [ha]; exact hp))) (fun v I4 J4 hp hv k4 f4 g4 => b_X11_readRule_259 (last v I4 J4 (by rw [ha]; exact hp) (by rw [ha]; exact hv) k4 f4 g4))
    refine b_X11_readRule_167 (s_isKey (by omega) htk kw_v.2.2.1 cA ?_)
    refine b_X11_readRule_174 (if_b (b := tKey t n j kwA) rfl (fun h1 => ?_) (fun h1 => law (fun z => by rw [h1] at z; cases z.1)))
    refine s_isKey (by omega) htk kw_v.2.2.2 cI ?_
    refine b_X11_readRule_184 (if_b (b := tKey t n j kwI) rfl (fun h2 => ⟨Or.inr rfl, ?_⟩) (fun h2 => law (fun z => by rw [h2] at z; cases z.2)))
    refine hO acc j _ _ _ (pLaws_no h1 h2) (by omega) hok (tkM_up htk (by decide) (by decide) (by decide) (by decide) (by decide)) ha9 ha11 ?_ (fun i a b c d e f => by rw [un_i f, hI i a b c d e]) hJ hA
    rw [ue_i, hI 26 (by decide) (by decide) (by decide) (by decide) (by decide)]
end M6
