/-! ===== the reference: the next token ===== -/
def tkM (I : Nat → Int32) (J : Nat → Int64) (t : Nat → Nat) (n p : Nat) : Prop := I 6 = nI (tkK t n p) ∧ I 5 = nI (tkF t n p) ∧ I 4 = nI (tkE t n p) ∧ (tkK t n p = 2 → J 9 = lN (c27 (tkN t n p))) ∧ (tkK t n p = 3 → I 8 = nI (tkD t n p)) ∧ (tkK t n p = 4 → I 7 = nI (tkC t n p))
theorem nmK_3 {t : Nat → Nat} {n k : Nat} (h : nmK t n k = 3) : isDi (t k) = true := by
  unfold nmK at h; split at h
  · omega
  · split at h
    · rename_i h1; exact h1.1
    · omega
theorem nmK_ne0 (t : Nat → Nat) (n k : Nat) : nmK t n k = 1 ∨ nmK t n k = 2 ∨ nmK t n k = 3 := by
  unfold nmK; split
  · exact Or.inr (Or.inl rfl)
  · split
    · exact Or.inr (Or.inr rfl)
    · exact Or.inl rfl
theorem tkE_le {t : Nat → Nat} {n p : Nat} (h : p ≤ n) : tkE t n p ≤ n := by
  have hq : tqS t n p ≤ n := skN_le _ h
  unfold tkE
  split
  · exact hq
  · split
    · exact hq
    · split
      · exact skN_le _ hq
      · omega
section M3
variable {l : Launch} {J : Nat → Int64} {A : Nat → Nat → Int32} {B : Nat → Nat → Int64} {Q : Option Value → XW → Prop} {d : Nat} {t : Nat → Nat} {n : Nat}
set_option maxHeartbeats 1000000 in
theorem s_go (ht : tpM A t n) (hd : 3 ≤ d) {I : Nat → Int32} {p : Nat} (h3 : I 3 = nI n) (h4 : I 4 = nI p) (hp : p ≤ n)
    (hQ : ∀ (I' : Nat → Int32) (J' : Nat → Int64), tkM I' J' t n p → (∀ j, j ≠ 4 → j ≠ 5 → j ≠ 6 → j ≠ 7 → j ≠ 8 → I' j = I j) → (∀ j, j ≠ 9 → J' j = J j) → Q none (wM I' J' A B)) : xK l d 133 [.ref 0] (wM I J A B) Q := by
  obtain ⟨d, rfl⟩ : ∃ e, d = e + 1 := ⟨d - 1, by omega⟩
  have hn := ht.1
  refine e_X11_go (s_blanks ht (by omega) h3 h4 hp ?_)
  have hqn : tqS t n p ≤ n := skN_le _ hp
  show xG l d 133 Q 4 [some (.ref 0), none] ((none : Option Value).toList ++ []) (wM (upd I 4 (nI (tqS t n p))) J A B) 0 0
  generalize hq : tqS t n p = q at hqn
  have c4 : upd I 4 (nI q) 4 = nI q := ue_i _ _ _
  have c3 : upd I 4 (nI q) 3 = nI n := by rw [un_i (by decide)]; exact h3
  have rest : ¬ (1500 < n ∧ 1500 ≤ q) → (if upd I 4 (nI q) 4 < upd I 4 (nI q) 3 then (xin (upd I 4 (nI q) 4) 1540 ∧ (xK l d 131 [.int (A 1 (upd I 4 (nI q) 4).toNatClampNeg)] (wM (upd (upd I 4 (nI q)) 5 (upd I 4 (nI q) 4)) J A B) (fun v9 w9 => xG l d 133 Q 76 [some (.ref 0), some (.int (A 1 (upd I 4 (nI q) 4).toNatClampNeg))] (v9.toList ++ []) w9 0 0))) else (Q none (wM (upd (upd (upd I 4 (nI q)) 5 (upd I 4 (nI q) 4)) 6 0) J A B))) := by
    intro hno
    have hF : tkF t n p = q := by unfold tkF; rw [hq, if_neg hno]
    refine if_lt c4 c3 (by omega) (by omega) (fun h => ?_) (fun h => ?_)
    · have hb := ht.2 q h
      have hv : A 1 (upd I 4 (nI q) 4).toNatClampNeg = nI (t q) := by rw [cl_of c4 (by omega)]; exact hb.2
      rw [hv, c4]
      have hnm : isLD (t q) = true → xK l d 134 [.ref 0] (wM (upd (upd I 4 (nI q)) 5 (nI q)) J A B) (fun v9 w9 => xG l d 133 Q 90 [none, none] (v9.toList ++ []) w9 0 0) := by
        intro hld
        refine s_readName ht (by omega) (k := q) (by rw [un_i (by decide)]; exact c3) (by rw [un_i (by decide)]; exact c4) (ue_i _ _ _) h hld (fun v hv2 => ?_)
        have hK : tkK t n p = nmK t n q := by unfold tkK; rw [hq, if_neg hno, if_neg (by omega), if_pos hld]
        have hE : tkE t n p = skN (fun i => isLD (t i)) n q := by unfold tkE; rw [hq, if_neg hno, if_neg (by omega), if_pos hld]
        refine b_X11_go_90 (hQ _ _ ⟨?_, ?_, ?_, ?_, ?_, ?_⟩ ?_ ?_)
        · rw [ue_i, hK]
        · rw [un_i (by decide), un_i (by decide), un_i (by decide), ue_i, hF]
        · rw [un_i (by decide), ue_i, hE]
        · intro h2; rw [ue_v]; unfold tkN; rw [hq]; exact hv2 (by rw [← hK]; exact h2)
        · intro h2
          rw [un_i (by decide), un_i (by decide), ue_i]
          have := isDi_iff.mp (nmK_3 (by rw [← hK]; exact h2))
          unfold tkD; rw [hq]
          exact sub_of rfl rfl (by omega)
        · intro h2
          rcases nmK_ne0 t n q with z | z | z <;> omega
        · intro j a b cc dd ee
          rw [un_i cc, un_i a, un_i ee, un_i b, un_i a]
        · intro j a; exact un_v a
      refine ⟨xin_of rfl (by omega) (by omega), s_isLetter (by omega) rfl hb.1 ?_⟩
      refine b_X11_go_76 (if_b (b := isLe (t q)) rfl (fun h1 => ?_) (fun h1 => hnm (by simp [isLD, h1])))
      refine s_isDigit (by omega) rfl hb.1 ?_
      refine b_X11_go_83 (if_b (b := isDi (t q)) rfl (fun h2 => ?_) (fun h2 => hnm (by simp [isLD, h2])))
      have hld : ¬ isLD (t q) = true := by simp [isLD, h1, h2]
      have hE : tkE t n p = q + 1 := by unfold tkE; rw [hq, if_neg hno, if_neg (by omega), if_neg hld]
      have fin : ∀ kd : Nat, tkK t n p = kd → kd ≠ 2 → kd ≠ 3 → Q none (wM (upd (upd (upd (upd (upd I 4 (nI q)) 5 (nI q)) 4 ((upd (upd I 4 (nI q)) 5 (nI q) 4) + 1)) 6 (nI kd)) 7 (nI (t q))) J A B) := by
        intro kd hkd k2 k3
        refine hQ _ _ ⟨?_, ?_, ?_, ?_, ?_, ?_⟩ ?_ (fun _ _ => rfl)
        · rw [un_i (by decide), ue_i, hkd]
        · rw [un_i (by decide), un_i (by decide), un_i (by decide), ue_i, hF]
        · rw [un_i (by decide), un_i (by decide), ue_i, un_i (by decide), ue_i, hE]; exact nI_1 q
        · intro z; omega
        · intro z; omega
        · intro z; rw [ue_i]; unfold tkC; rw [hq]
        · intro j a b cc dd ee
          rw [un_i dd, un_i cc, un_i a, un_i b, un_i a]
      have hKK : tkK t n p = if t q = 61 ∨ t q = 59 then 4 else 1 := by unfold tkK; rw [hq, if_neg hno, if_neg (by omega), if_neg hld]
      refine if_eq (x := nI (t q)) rfl (b := 61) rfl (by omega) (by omega) (fun e => fin 4 (by rw [hKK, if_pos (Or.inl e)]) (by omega) (by omega)) (fun e1 => if_eq (x := nI (t q)) rfl (b := 59) rfl (by omega) (by omega) (fun e => fin 4 (by rw [hKK, if_pos (Or.inr e)]) (by omega) (by omega)) (fun e2 => fin 1 (by rw [hKK, if_neg (by rintro (z | z) <;> contradiction)]) (by omega) (by omega)))
    · have hK : tkK t n p = 0 := by unfold tkK; rw [hq, if_neg hno, if_pos (by omega)]
      have hE : tkE t n p = q := by unfold tkE; rw [hq, if_neg hno, if_pos (by omega)]
      refine hQ _ _ ⟨?_, ?_, ?_, ?_, ?_, ?_⟩ ?_ (fun _ _ => rfl)
      · rw [ue_i, hK]; rfl
      · rw [un_i (by decide), ue_i, c4, hF]
      · rw [un_i (by decide), un_i (by decide), ue_i, hE]
      · intro z; omega
      · intro z; omega
      · intro z; omega
      · intro j a b cc dd ee
        rw [un_i cc, un_i b, un_i a]
  refine b_X11_go_4 (if_le c3 (b := 1500) rfl (by omega) (by omega) (fun h => rest (by omega)) (fun h => if_lt c4 (b := 1500) rfl (by omega) (by omega) (fun h2 => rest (by omega)) (fun h2 => ?_)))
  have hyes : 1500 < n ∧ 1500 ≤ q := ⟨h, h2⟩
  refine hQ _ _ ⟨?_, ?_, ?_, ?_, ?_, ?_⟩ ?_ (fun _ _ => rfl)
  · rw [ue_i]; unfold tkK; rw [hq, if_pos hyes]; rfl
  · rw [un_i (by decide), ue_i]; unfold tkF; rw [hq, if_pos hyes]; rfl
  · rw [un_i (by decide), un_i (by decide), ue_i]; unfold tkE; rw [hq, if_pos hyes]
  · intro z; unfold tkK at z; rw [hq, if_pos hyes] at z; omega
  · intro z; unfold tkK at z; rw [hq, if_pos hyes] at z; omega
  · intro z; unfold tkK at z; rw [hq, if_pos hyes] at z; omega
  · intro j a b cc dd ee
    rw [un_i cc, un_i b, un_i a]
end M3
