/-! ===== the class: the reader's small steps ===== -/
theorem clN_0 {w : List Nat} : clN w = 0 ↔ isKw w = false := by
  unfold clN isKw
  by_cases h1 : w = kwW
  · simp [h1]
  by_cases h2 : w = kwR
  · simp [h2]; decide
  by_cases h3 : w = kwA
  · simp [h3]; decide
  by_cases h4 : w = kwI
  · simp [h4]; decide
  simp [h1, h2, h3, h4]
theorem kw_ne : kwW ≠ kwR ∧ kwW ≠ kwA ∧ kwW ≠ kwI ∧ kwR ≠ kwA ∧ kwR ≠ kwI ∧ kwA ≠ kwI := by decide
theorem clN_4 {w : List Nat} : clN w = 4 ↔ w = kwW := by
  unfold clN
  by_cases h1 : w = kwW
  · rw [if_pos h1]; exact ⟨fun _ => h1, fun _ => rfl⟩
  · rw [if_neg h1]; refine ⟨fun z => ?_, fun z => absurd z h1⟩
    split at z; · omega
    split at z; · omega
    split at z <;> omega
theorem clN_5 {w : List Nat} : clN w = 5 ↔ w = kwR := by
  unfold clN
  by_cases h2 : w = kwR
  · rw [h2, if_neg (fun z => kw_ne.1 z.symm), if_pos rfl]; exact ⟨fun _ => rfl, fun _ => rfl⟩
  · refine ⟨fun z => ?_, fun z => absurd z h2⟩
    split at z; · omega
    split at z; · omega
    split at z <;> omega
theorem clN_6 {w : List Nat} : clN w = 6 ↔ w = kwA := by
  unfold clN
  by_cases h2 : w = kwA
  · rw [h2, if_neg (fun z => kw_ne.2.1 z.symm), if_neg (fun z => kw_ne.2.2.2.1 z.symm), if_pos rfl]; exact ⟨fun _ => rfl, fun _ => rfl⟩
  · refine ⟨fun z => ?_, fun z => absurd z h2⟩
    split at z; · omega
    split at z; · omega
    split at z <;> omega
theorem clN_7 {w : List Nat} : clN w = 7 ↔ w = kwI := by
  unfold clN
  by_cases h2 : w = kwI
  · rw [h2, if_neg (fun z => kw_ne.2.2.1 z.symm), if_neg (fun z => kw_ne.2.2.2.2.1 z.symm), if_neg (fun z => kw_ne.2.2.2.2.2 z.symm), if_pos rfl]; exact ⟨fun _ => rfl, fun _ => rfl⟩
  · refine ⟨fun z => ?_, fun z => absurd z h2⟩
    split at z; · omega
    split at z; · omega
    split at z; · omega
    omega
theorem clN_3 (w : List Nat) : clN w = 0 ∨ 4 ≤ clN w := by
  unfold clN; split; · omega
  split; · omega
  split; · omega
  split <;> omega
/-- the class's kinds by the token's -/
theorem clK_2 {t : Nat → Nat} {n p : Nat} (h : tkK t n p = 2) : clK t n p = clN (tkN t n p) := by unfold clK; rw [if_neg (by omega), if_neg (by omega), if_pos h]
theorem clK_3 {t : Nat → Nat} {n p : Nat} (h : tkK t n p = 3) : clK t n p = 1 := by unfold clK; rw [if_neg (by omega), if_neg (by omega), if_neg (by omega), if_pos h]
theorem clK_4 {t : Nat → Nat} {n p : Nat} (h : tkK t n p = 4) : clK t n p = if tkC t n p = 61 then 2 else 3 := by unfold clK; rw [if_neg (by omega), if_neg (by omega), if_neg (by omega), if_neg (by omega)]
theorem clK_0 {t : Nat → Nat} {n p : Nat} (h : tkK t n p = 0) : clK t n p = 8 := by unfold clK; rw [if_pos h]
theorem clK_1 {t : Nat → Nat} {n p : Nat} (h : tkK t n p = 1) : clK t n p = 9 := clK_9.mpr h
theorem kK_all (t : Nat → Nat) (n p : Nat) : tkK t n p = 0 ∨ tkK t n p = 1 ∨ tkK t n p = 2 ∨ tkK t n p = 3 ∨ tkK t n p = 4 := by have := tkK_5 t n p; omega
theorem ck_ge {t : Nat → Nat} {n p : Nat} (h : clK t n p ≤ 7) : 2 ≤ tkK t n p := by
  rcases kK_all t n p with k | k | k | k | k
  · rw [clK_0 k] at h; omega
  · rw [clK_1 k] at h; omega
  all_goals omega
theorem ck_num {t : Nat → Nat} {n p : Nat} : clK t n p = 1 ↔ tkK t n p = 3 := by
  refine ⟨fun h => ?_, clK_3⟩
  rcases kK_all t n p with k | k | k | k | k
  · rw [clK_0 k] at h; omega
  · rw [clK_1 k] at h; omega
  · rw [clK_2 k] at h; have := clN_3 (tkN t n p); omega
  · exact k
  · rw [clK_4 k] at h; split at h <;> omega
theorem ck_eq {t : Nat → Nat} {n p : Nat} : clK t n p = 2 ↔ tkK t n p = 4 ∧ tkC t n p = 61 := by
  refine ⟨fun h => ?_, fun h => by rw [clK_4 h.1, if_pos h.2]⟩
  rcases kK_all t n p with k | k | k | k | k
  · rw [clK_0 k] at h; omega
  · rw [clK_1 k] at h; omega
  · rw [clK_2 k] at h; have := clN_3 (tkN t n p); omega
  · rw [clK_3 k] at h; omega
  · refine ⟨k, ?_⟩
    rw [clK_4 k] at h; split at h
    · assumption
    · omega
theorem tkC_4 {t : Nat → Nat} {n p : Nat} (h : tkK t n p = 4) : tkC t n p = 61 ∨ tkC t n p = 59 := by
  unfold tkK at h
  split at h; · omega
  split at h; · omega
  split at h
  · rcases nmK_ne0 t n (tqS t n p) with z | z | z <;> omega
  split at h
  · assumption
  · omega
theorem ck_semi {t : Nat → Nat} {n p : Nat} : clK t n p = 3 ↔ tkK t n p = 4 ∧ tkC t n p = 59 := by
  refine ⟨fun h => ?_, fun h => by rw [clK_4 h.1, if_neg (by omega)]⟩
  rcases kK_all t n p with k | k | k | k | k
  · rw [clK_0 k] at h; omega
  · rw [clK_1 k] at h; omega
  · rw [clK_2 k] at h; have := clN_3 (tkN t n p); omega
  · rw [clK_3 k] at h; omega
  · refine ⟨k, ?_⟩
    have := tkC_4 k
    rw [clK_4 k] at h; split at h <;> omega
theorem ck_name {t : Nat → Nat} {n j : Nat} : clK t n (tP t n j) = 0 ↔ tFree t n j = true := by
  unfold tFree
  rcases kK_all t n (tP t n j) with k | k | k | k | k
  · rw [clK_0 k]; simp [k]
  · rw [clK_1 k]; simp [k]
  · rw [clK_2 k, clN_0]; simp [k]
  · rw [clK_3 k]; simp [k]
  · rw [clK_4 k]; simp [k]; split <;> omega
theorem ck_key {t : Nat → Nat} {n j c : Nat} {w : List Nat} (hc : 4 ≤ c ∧ c ≤ 7) (h : ∀ v, clN v = c ↔ v = w) : clK t n (tP t n j) = c ↔ tKey t n j w = true := by
  unfold tKey
  rcases kK_all t n (tP t n j) with k | k | k | k | k
  · rw [clK_0 k]; simp [k]; omega
  · rw [clK_1 k]; simp [k]; omega
  · rw [clK_2 k, h]; simp [k]
  · rw [clK_3 k]; simp [k]; omega
  · rw [clK_4 k]; simp [k]; split <;> omega
theorem ck_end {t : Nat → Nat} {n p : Nat} : clK t n p = 8 ↔ tkK t n p = 0 := by
  refine ⟨fun h => ?_, clK_0⟩
  rcases kK_all t n p with k | k | k | k | k
  · exact k
  · rw [clK_1 k] at h; omega
  · rw [clK_2 k] at h; have := clN_b (tkN t n p); omega
  · rw [clK_3 k] at h; omega
  · rw [clK_4 k] at h; split at h <;> omega
/-- the reader stands at token j -/
def rdX (I : Nat → Int32) (A : Nat → Nat → Int32) (B : Nat → Nat → Int64) (t : Nat → Nat) (n j : Nat) : Prop := tokX A B t n (tZ t n + 1) ∧ I 404 = nI (tZ t n + 1) ∧ I 302 = nI j ∧ j ≤ tZ t n
theorem rdX_lt {I : Nat → Int32} {A : Nat → Nat → Int32} {B : Nat → Nat → Int64} {t : Nat → Nat} {n j : Nat} (h : rdX I A B t n j) (hk : 2 ≤ tkK t n (tP t n j)) : j < tZ t n := by
  rcases Nat.lt_or_ge j (tZ t n) with z | z
  · exact z
  · have e : j = tZ t n := by have := h.2.2.2; omega
    have := tZ_stop t n; rw [← e] at this
    have : tkK t n (tP t n j) ≤ 1 := this
    omega
def catX (I : Nat → Int32) (B : Nat → Nat → Int64) (cats : List (List Nat)) : Prop := I 4812 = nI cats.length ∧ cats.length ≤ 16 ∧ ∀ c, c < cats.length → vNm (cats.getD c []) ∧ B 56 c = lN (c32 (cats.getD c []))
theorem lN_i9 {v : Nat} (h : v ≤ 9) : (lN v).toInt32 = nI v := by
  have : ∀ j : Fin 10, (lN j.val).toInt32 = nI j.val := by decide +kernel
  exact this ⟨v, by omega⟩
section C3
variable {l : Launch} {J : Nat → Int64} {Q : Option Value → XW → Prop} {d : Nat} {t : Nat → Nat} {n j : Nat} {cg fg : Value} {I : Nat → Int32} {A : Nat → Nat → Int32} {B : Nat → Nat → Int64}
theorem rd_in (h : rdX I A B t n j) : xin (I 302) 1501 := xin_of h.2.2.1 (by have := h.2.2.2; have := tZ_le t n; omega) (by omega)
theorem rd_k (h : rdX I A B t n j) : A 5 (I 302).toNatClampNeg = nI (clK t n (tP t n j)) := by
  have := h.2.2.2; have := tZ_le t n
  rw [cl_of h.2.2.1 (by omega)]; exact (h.1 j (by omega)).1
theorem rd_p (h : rdX I A B t n j) : A 6 (I 302).toNatClampNeg = nI (tF t n j) := by
  have := h.2.2.2; have := tZ_le t n
  rw [cl_of h.2.2.1 (by omega)]; exact (h.1 j (by omega)).2.1
theorem rd_v (h : rdX I A B t n j) : B 7 (I 302).toNatClampNeg = lN (clV t n (tP t n j)) := by
  have := h.2.2.2; have := tZ_le t n
  rw [cl_of h.2.2.1 (by omega)]; exact (h.1 j (by omega)).2.2
theorem rd_up {i : Nat} {v : Int32} (h : rdX I A B t n j) (h1 : i ≠ 404) (h2 : i ≠ 302) : rdX (upd I i v) A B t n j := ⟨h.1, by rw [un_i (Ne.symm h1)]; exact h.2.1, by rw [un_i (Ne.symm h2)]; exact h.2.2.1, h.2.2.2⟩
theorem rd_next (h : rdX I A B t n j) (hk : 2 ≤ tkK t n (tP t n j)) : rdX (upd I 302 (nI (j + 1))) A B t n (j + 1) := ⟨h.1, by rw [un_i (by decide)]; exact h.2.1, ue_i _ _ _, by have := rdX_lt h hk; omega⟩
theorem s_advance (h : rdX I A B t n j) (hd : 1 ≤ d) (hk : 2 ≤ tkK t n (tP t n j)) (hQ : Q none (wC (.ref 48) cg fg (upd I 302 (nI (j + 1))) J A B)) : xK l d 63 [.ref 3] (wC (.ref 48) cg fg I J A B) Q := by
  obtain ⟨d, rfl⟩ : ∃ e, d = e + 1 := ⟨d - 1, by omega⟩
  have hlt := rdX_lt h hk
  have hz := tZ_le t n
  have e1 : I 302 + 1 = nI (j + 1) := by rw [h.2.2.1]; exact nI_1 j
  refine e_X4_advance (if_le h.2.1 e1 (by omega) (by omega) (fun z => absurd z (by omega)) (fun _ => ?_))
  rw [e1]; exact hQ
theorem s_fail (h : rdX I A B t n j) (hd : 1 ≤ d) {x : Int32} (hQ : Q (some (.int 0)) (wC (.ref 48) cg fg (upd (upd I 304 x) 305 (nI (tF t n j))) J A B)) : xK l d 64 [.ref 3, .int x] (wC (.ref 48) cg fg I J A B) Q := by
  obtain ⟨d, rfl⟩ : ∃ e, d = e + 1 := ⟨d - 1, by omega⟩
  refine e_X4_fail ⟨rd_in h, ?_⟩
  rw [rd_p h]; exact ⟨Or.inl rfl, hQ⟩
/-- a fault with no token's kind -/
theorem pFl_1 (t : Nat → Nat) (n j : Nat) : pFl t n j 1 = (1, tF t n j) := by unfold pFl; split <;> rfl
theorem pFl_k {k : Nat} (h : tK t n j ≠ 1) : pFl t n j k = (k, tF t n j) := by unfold pFl; rw [if_neg h]
theorem s_takeKind (h : rdX I A B t n j) (hd : 2 ≤ d) {x : Int32} {c : Nat} (hx : x = nI c) (hc : c ≤ 7) (hO : clK t n (tP t n j) = c → Q (some (.int 1)) (wC (.ref 48) cg fg (upd I 302 (nI (j + 1))) J A B)) (hE : clK t n (tP t n j) ≠ c → Q (some (.int 0)) (wC (.ref 48) cg fg (upd (upd I 304 (nI 1)) 305 (nI (tF t n j))) J A B)) : xK l d 62 [.ref 3, .int x] (wC (.ref 48) cg fg I J A B) Q := by
  obtain ⟨d, rfl⟩ : ∃ e, d = e + 1 := ⟨d - 1, by omega⟩
  have hb := clK_b t n (tP t n j)
  refine e_X4_takeKind ⟨rd_in h, if_eq (rd_k h) hx (by omega) (by omega) (fun e => ?_) (fun e => ?_)⟩
  · exact s_advance h (by omega) (ck_ge (by omega)) (b_X4_takeKind_26 ⟨Or.inr rfl, hO e⟩)
  · exact s_fail h (by omega) (b_X4_takeKind_21 ⟨Or.inl rfl, hE e⟩)
theorem s_takeDigit (h : rdX I A B t n j) (hd : 2 ≤ d) {x : Int32} {most : Nat} (hx : x = nI most) (hm : most ≤ 9)
    (hE : ∀ k pl, pNum t n j most none = .inl (k, pl) → Q (some (.int (-1))) (wC (.ref 48) cg fg (upd (upd I 304 (nI k)) 305 (nI pl)) J A B))
    (hO : ∀ v, pNum t n j most none = .inr v → v ≤ most → 2 ≤ tkK t n (tP t n j) → Q (some (.int (nI v))) (wC (.ref 48) cg fg (upd I 302 (nI (j + 1))) J A B)) : xK l d 61 [.ref 3, .int x] (wC (.ref 48) cg fg I J A B) Q := by
  obtain ⟨d, rfl⟩ : ∃ e, d = e + 1 := ⟨d - 1, by omega⟩
  have hb := clK_b t n (tP t n j)
  refine e_X4_takeDigit ⟨rd_in h, if_eq (rd_k h) (b := 1) rfl (by omega) (by omega) (fun e => ?_) (fun e => ?_)⟩
  · have k3 := ck_num.mp e
    have h9 := tkD_9 k3
    have ev : (B 7 (I 302).toNatClampNeg).toInt32 = nI (tD t n j) := by
      rw [rd_v h]; unfold clV; rw [if_neg (by omega), if_pos k3]; exact lN_i9 h9
    refine ⟨rd_in h, if_le ev hx (by show tkD t n (tP t n j) < _; omega) (by omega) (fun hle => ?_) (fun hgt => ?_)⟩
    · refine s_advance h (by omega) (by omega) (b_X4_takeDigit_55 ?_)
      rw [ev]
      refine hO _ ?_ hle (by omega)
      unfold pNum; rw [if_neg (fun z => z k3), if_neg (by rintro (z | z); · omega
                                                          · cases z)]
    · refine s_fail h (by omega) (b_X4_takeDigit_48 (hE 2 (tF t n j) ?_))
      unfold pNum; rw [if_neg (fun z => z k3), if_pos (Or.inl hgt), pFl_k (by show tkK t n (tP t n j) ≠ 1; omega)]
  · refine s_fail h (by omega) (b_X4_takeDigit_21 (hE 1 (tF t n j) ?_))
    unfold pNum; rw [if_pos (fun z => e (ck_num.mpr z)), pFl_1]
end C3
