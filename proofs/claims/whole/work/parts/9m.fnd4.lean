/-! ===== the class's finder: choose ===== -/
theorem vR_vl {b : Bool} {R : Rule} {Va Vb : Nat → Vl} {wt : Nat → Int} (hV : oR2 b Va) (h : wR b (wFst b R Vb wt)) : vR b (vlG b R Va Vb wt (sL Va)) := by
  rw [vlG_fC]
  exact fC_R (a := fun x => bthG b (worG b (Va x)) (wFst b R Vb wt x)) (fun x => vR_b3 hV h x x) _ _ (vR_n b)
section C34
variable {l : Launch} {J : Nat → Int64} {Q : Option Value → XW → Prop} {d : Nat} {tgt cg : Value} {I : Nat → Int32} {A : Nat → Nat → Int32} {B : Nat → Nat → Int64} {b : Bool} {g : Gram} {o : Own} {ws : List (List Nat)}
set_option maxHeartbeats 2000000 in
theorem s_choose (hd : 6 ≤ d) (hS : fSt b g o ws I A B) {q z i j c : Nat} {wt : Nat → Int} {n n1 : Int} {op : Opt} (hcur : curN q z i j I A) (h26 : A 26 z = nI (4096 * c)) (hc : c < 16) (hij : i < j) (hj : j ≤ ws.length) (hwR : wR b wt) (hwF : ∀ (r m : Nat), r < g.2.1.length → (((g.2.1.getD r dR).2.2.1 = none ∧ m = j) ∨ ((g.2.1.getD r dR).2.2.1 ≠ none ∧ i < m ∧ m < j)) → wR b (wFst b (g.2.1.getD r dR) (ch g o ws m j) wt)) (hw : rowF B q (ch g o ws i j) c wt) (hJ : J 3110 = lI n) (hn0 : 0 ≤ n) (hn1 : n ≤ 1000000000000000) (hch : chG b (vO b g (ch g o ws) wt i j) (optL g ws i j c) n = some (op, n1))
    (hQ : ∀ (I' : Nat → Int32) (J' : Nat → Int64) (A' : Nat → Nat → Int32), J' 3110 = lI n1 → A' 29 z = iC op.1 → A' 33 q = nI op.2 → fO q z I J A I' J' A' → Q none (wC tgt cg (.ref 37) I' J' A' B)) : xK l d 23 [.ref 31] (wC tgt cg (.ref 37) I J A B) Q := by
  obtain ⟨d, rfl⟩ : ∃ e, d = e + 1 := ⟨d - 1, by omega⟩
  have hS0 := hS
  have h30 := hS.2.2.2.1.2.1
  have h14 := hS.2.1
  obtain ⟨hru1, hru2⟩ := ru_G hch
  generalize hSE : ruS b (vO b g (ch g o ws) wt i j) (optL g ws i j c) (none, false, n, 1000000) = SE at hru1 hru2
  have fin : ∀ (I1 : Nat → Int32) (J1 : Nat → Int64) (A1 : Nat → Nat → Int32), osM q z SE I1 J1 A1 → fO q z I J A I1 J1 A1 → Q none (wC tgt cg (.ref 37) I1 J1 A1 B) := fun I1 J1 A1 h1 h2 => hQ I1 J1 A1 (by rw [h1.2.1, hru2]) (h1.2.2.2 op hru1).1 (h1.2.2.2 op hru1).2 h2
  have rules : ∀ m r (S1 : OS) (I1 : Nat → Int32) (J1 : Nat → Int64) (A1 : Nat → Nat → Int32), g.2.1.length - r < m → r ≤ g.2.1.length → osM q z S1 I1 J1 A1 → oRg S1 → fO q z I J A I1 J1 A1 → ruS b (vO b g (ch g o ws) wt i j) (oR g i j c r) S1 = SE → xG l d 23 Q 83 [some (.ref 31), none, some (.int (nI i)), some (.int (nI j)), some (.int (nI c)), some (.int (nI r)), none] [] (wC tgt cg (.ref 37) I1 J1 A1 B) 0 0 := by
    intro m
    induction m with
    | zero => intro r S1 I1 J1 A1 hm; omega
    | succ m ih =>
      intro r S1 I1 J1 A1 hm hr hos1 hR1 hf hru
      have hS1 := fSt_fO hS0 hf
      have hrs := hS1.2.2.2.1
      refine b_X2_choose_83 (if_le hrs.1 rfl (by omega) (by omega) (fun z1 => ?_) (fun z1 => if_bI hos1.1 (fun es => ⟨xin_n (by omega) (by omega), ?_⟩) (fun es => ?_)))
      · rw [oR_end z1] at hru
        have : S1 = SE := hru
        subst this
        exact fin I1 J1 A1 hos1 hf
      · have hRk := (hrs.2.2 r z1).1
        have hRZ := (hrs.2.2 r z1).2
        have hRZ' : ∀ {I2 : Nat → Int32} {J2 : Nat → Int64} {A2 : Nat → Nat → Int32}, fO q z I J A I2 J2 A2 → rulZ A2 r (g.2.1.getD r dR) := fun f => ((fSt_fO hS0 f).2.2.2.1.2.2 r z1).2
        rw [oR_step z1] at hru
        unfold oR1 at hru
        have hvN : ∀ mm, vO b g (ch g o ws) wt i j ((r : Int), mm) = vlG b (g.2.1.getD r dR) (ch g o ws i mm) (ch g o ws mm j) wt (sL (ch g o ws i mm)) := fun mm => vO_r b (ch g o ws) r mm
        have hwFr := fun mm => hwF r mm z1
        generalize hRe : g.2.1.getD r dR = R at hRk hRZ hRZ' hru hvN hwFr
        have hR16 := hRk.1
        have next : ∀ (S2 : OS) (I2 : Nat → Int32) (J2 : Nat → Int64) (A2 : Nat → Nat → Int32), osM q z S2 I2 J2 A2 → oRg S2 → fO q z I J A I2 J2 A2 → ruS b (vO b g (ch g o ws) wt i j) (oR g i j c (r + 1)) S2 = SE → xG l d 23 Q 83 [some (.ref 31), none, some (.int (nI i)), some (.int (nI j)), some (.int (nI c)), some (.int (nI r + 1)), none] [] (wC tgt cg (.ref 37) I2 J2 A2 B) 0 0 := fun S2 I2 J2 A2 k1 k2 k3 k4 => by
          rw [nI_1]; exact ih (r + 1) S2 I2 J2 A2 (by omega) (by omega) k1 k2 k3 k4
        rw [cl_n (by omega), hRZ.1]
        refine if_eq rfl rfl (by omega) (by omega) (fun e => ?_) (fun e => ?_)
        · rw [if_pos e] at hru
          have one : ∀ mm (S2 : OS) (I2 : Nat → Int32) (J2 : Nat → Int64) (A2 : Nat → Nat → Int32) (M : List Opt) (pc : Nat) (L : List (Option Value)), ((R.2.2.1 = none ∧ mm = j) ∨ (R.2.2.1 ≠ none ∧ i < mm ∧ mm < j)) → osM q z S2 I2 J2 A2 → oRg S2 → S2.2.1 = false → fO q z I J A I2 J2 A2 → ruS b (vO b g (ch g o ws) wt i j) (((r : Int), mm) :: M) S2 = SE → (∀ (S3 : OS) (I3 : Nat → Int32) (J3 : Nat → Int64) (A3 : Nat → Nat → Int32), osM q z S3 I3 J3 A3 → oRg S3 → fO q z I J A I3 J3 A3 → ruS b (vO b g (ch g o ws) wt i j) M S3 = SE → xG l d 23 Q pc L [] (wC tgt cg (.ref 37) I3 J3 A3 B) 0 0) → ∀ pc1 L1, (∀ (v : Int64), xK l d 25 [.ref 31, .long v, .int (nI r), .int (nI mm)] (wC tgt cg (.ref 37) I2 J2 A2 B) (fun v9 w9 => xG l d 23 Q pc L (v9.toList ++ []) w9 0 0) → xG l d 23 Q pc1 L1 ((some (Value.long v)).toList ++ [.ref 31]) (wC tgt cg (.ref 37) I2 J2 A2 B) 0 0) → xK l d 27 [.ref 31, .int (nI r), .int (nI i), .int (nI mm), .int (nI j)] (wC tgt cg (.ref 37) I2 J2 A2 B) (fun v9 w9 => xG l d 23 Q pc1 L1 (v9.toList ++ [.ref 31]) w9 0 0) := by
            intro mm S2 I2 J2 A2 M pc L hmm hos2 hR2 es2 hf2 hru3 cont pc1 L1 step
            have hS2 := fSt_fO hS0 hf2
            have hcur2 := curN_fO hcur hf2
            rw [ru_cons es2, hvN mm] at hru3
            have him : i < mm ∧ mm ≤ j := by rcases hmm with ⟨_, q⟩ | ⟨_, q1, q2⟩ <;> omega
            have hv := vR_vl (Vb := ch g o ws mm j) (wt := wt) (R := R) (fSt_o hS2 him.1 (show mm ≤ ws.length by omega)) (hwFr mm hmm)
            refine s_valueOf (by omega) hS2 rfl z1 hRe rfl rfl rfl hmm hcur2 hij hj hwR (hwFr mm hmm) (by rw [e]; exact hw) (step _ (s_offer (op := ((r : Int), mm)) (by omega) hS2.2.2.2.2.2.1 hcur2 rfl hv (iC_n r).symm rfl hos2 hR2 es2 (fun I3 J3 A3 k1 k2 => cont _ I3 J3 A3 k1 (oRg_of hR2 hv) (fO_trans hf2 k2) hru3)))
          refine s_isSingle1 (by omega) rfl (by omega) hRZ.2.2.1 hRk.2.2.1 (b_X2_choose_129 (if_bI rfl (fun e2 => ?_) (fun e2 => ?_)))
          · -- of two parts
            have hne : R.2.2.1 ≠ none := fun q => by rw [q] at e2; cases e2
            rw [if_neg hne, oM_0] at hru
            refine b_X2_choose_148 ?_
            rw [nI_1]
            have splits : ∀ p mm (S2 : OS) (I2 : Nat → Int32) (J2 : Nat → Int64) (A2 : Nat → Nat → Int32), j - mm < p → i < mm → mm ≤ j → osM q z S2 I2 J2 A2 → oRg S2 → fO q z I J A I2 J2 A2 → ruS b (vO b g (ch g o ws) wt i j) (oM r mm j ++ oR g i j c (r + 1)) S2 = SE → xG l d 23 Q 153 [some (.ref 31), none, some (.int (nI i)), some (.int (nI j)), some (.int (nI c)), some (.int (nI r)), some (.int (nI mm))] [] (wC tgt cg (.ref 37) I2 J2 A2 B) 0 0 := by
              intro p
              induction p with
              | zero => intro mm S2 I2 J2 A2 hp; omega
              | succ p ihp =>
                intro mm S2 I2 J2 A2 hp hmm0 hmm hos2 hR2 hf2 hru3
                refine b_X2_choose_153 (if_le rfl rfl (by omega) (by omega) (fun z2 => ?_) (fun z2 => if_bI hos2.1 (fun es2 => ?_) (fun es2 => ?_)))
                · rw [oM_end z2, List.nil_append] at hru3
                  exact next S2 I2 J2 A2 hos2 hR2 hf2 hru3
                · rw [oM_step z2, List.cons_append] at hru3
                  refine s_isSingle1 (by omega) rfl (by omega) (hRZ' hf2).2.2.1 hRk.2.2.1 (b_X2_choose_175 (if_bI rfl (fun _ => ?_) (fun e3 => by rw [e2] at e3; cases e3)))
                  refine one mm S2 I2 J2 A2 _ 196 _ (Or.inr ⟨hne, hmm0, z2⟩) hos2 hR2 es2 hf2 hru3 (fun S3 I3 J3 A3 k1 k2 k3 k4 => b_X2_choose_196 ?_) 189 _ (fun v h => b_X2_choose_189 h)
                  rw [nI_1]
                  exact ihp (mm + 1) S3 I3 J3 A3 (by omega) (by omega) (by omega) k1 k2 k3 k4
                · rw [ru_set _ es2] at hru3
                  exact next S2 I2 J2 A2 hos2 hR2 hf2 (by rw [ru_set _ es2]; exact hru3)
            exact splits _ (i + 1) S1 I1 J1 A1 (Nat.lt_succ_self _) (by omega) (by omega) hos1 hR1 hf hru
          · -- of one part
            have h1 : R.2.2.1 = none := by
              cases q : R.2.2.1 with
              | none => rfl
              | some c2 => rw [q] at e2; cases e2
            rw [if_pos h1, List.singleton_append] at hru
            refine one j S1 I1 J1 A1 _ 148 _ (Or.inl ⟨h1, rfl⟩) hos1 hR1 es hf hru (fun S3 I3 J3 A3 k1 k2 k3 k4 => b_X2_choose_148 (b_X2_choose_153 ?_)) 142 _ (fun v h => b_X2_choose_142 h)
            rw [nI_1]
            refine if_le rfl rfl (by omega) (by omega) (fun z2 => next S3 I3 J3 A3 k1 k2 k3 k4) (fun z2 => if_bI k1.1 (fun es2 => ?_) (fun es2 => next S3 I3 J3 A3 k1 k2 k3 k4))
            exact s_isSingle1 (by omega) rfl (by omega) (hRZ' k3).2.2.1 hRk.2.2.1 (b_X2_choose_175 (if_bI rfl (fun e3 => by rw [e2] at e3; cases e3) (fun _ => next S3 I3 J3 A3 k1 k2 k3 k4)))
        · rw [if_neg e, List.nil_append] at hru
          exact next S1 I1 J1 A1 hos1 hR1 hf hru
      · rw [ru_set _ es] at hru
        subst hru
        exact fin I1 J1 A1 hos1 hf
  have hq := curN_q hcur
  obtain ⟨c1, c2, c3, c4, c5, c6⟩ := hcur
  have hcur : curN q z i j I A := ⟨c1, c2, c3, c4, c5, c6⟩
  have h4096 : (nI (4096 * c)) >>> ((12 : Int32) &&& 31) = nI c := by rw [shr12 (by omega), show 4096 * c / 4096 = c by omega]
  refine e_X2_choose ?_
  rw [hq, cl_n (by omega), c3, cl_n (by omega), c5, c6, h26, h4096, nI_1, cl_n (by omega)]
  have l6 : (1000000 : Int64) = lI 1000000 := by decide +kernel
  rw [l6]
  have hos0 : osM q z (none, false, n, 1000000) (upd I 3111 0) (va_up J 3112 (lI 1000000)) A := ⟨ue_i _ _ _, (un_v (by decide)).trans hJ, ue_v _ _ _, fun op h => by cases h⟩
  have hR0 : oRg (none, false, n, 1000000) := ⟨⟨hn0, hn1⟩, by show -1000000 ≤ (1000000 : Int) ∧ (1000000 : Int) ≤ 1000000; omega⟩
  have hf0 : fO q z I J A (upd I 3111 0) (va_up J 3112 (lI 1000000)) A := ⟨fun i a => un_i a, fun i _ a => un_v a, fun _ _ _ => rfl, fun _ _ => rfl, fun _ _ => rfl⟩
  refine ⟨xin_n (by omega) (by omega), xin_n (by omega) (by omega), xin_n (by omega) (by omega), xin_n (by omega) (by omega), Or.inl rfl, if_eq rfl rfl (by omega) (by omega) (fun e => ⟨xin_n (by omega) (by omega), ?_⟩) (fun e => b_X2_choose_80 ?_)⟩
  · have hwd := hS.2.2.2.2.2.2.1 i (by omega)
    rw [hwd.2]
    have hSE2 : ruS b (vO b g (ch g o ws) wt i j) (oR g i j c 0) (ruS b (vO b g (ch g o ws) wt i j) (optE g (ws.getD i []) c) (none, false, n, 1000000)) = SE := by
      rw [← hSE]
      unfold optL ruS
      rw [if_pos e, oR_0, List.foldl_append]
    refine s_tryEntries (by omega) (fSt_fO hS0 hf0) rfl hc rfl hwd.1 (curN_fO hcur hf0) e hj hwR hw hos0 hR0 rfl (fun I1 J1 A1 k1 k2 k3 => b_X2_choose_80 ?_)
    exact rules _ 0 _ I1 J1 A1 (Nat.lt_succ_self _) (by omega) k1 k2 (fO_trans hf0 k3) hSE2
  · refine rules _ 0 _ _ _ A (Nat.lt_succ_self _) (by omega) hos0 hR0 hf0 ?_
    rw [← hSE]
    unfold optL
    rw [if_neg e, oR_0, List.nil_append]
end C34
