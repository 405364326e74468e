/-! ===== the class: features ===== -/
/-- a key as the class keeps it: three bits a feature -/
def bk (key : Nat) : Nat := dg key 0 * 512 + dg key 1 * 64 + dg key 2 * 8 + dg key 3
theorem bk_set : ∀ key, key < 625 → ∀ f, f < 4 → ∀ v, v < 4 → ((nI (bk key)) &&& (((7 : Int32) <<< ((9 - (3 * nI f)) &&& 31)) ^^^ (-1))) ||| ((nI v + 1) <<< ((9 - (3 * nI f)) &&& 31)) = nI (bk (setd key f (v + 1))) := by decide +kernel
theorem bk_lt : ∀ key, key < 625 → bk key < 4096 := by decide +kernel
section C5
variable {l : Launch} {J : Nat → Int64} {Q : Option Value → XW → Prop} {d : Nat} {t : Nat → Nat} {n j : Nat} {tgt cg fg : Value} {I : Nat → Int32} {A : Nat → Nat → Int32} {B : Nat → Nat → Int64}
theorem s_shiftOf (hd : 1 ≤ d) {x : Int32} (hQ : Q (some (.int (9 - (3 * x)))) (wC tgt cg fg I J A B)) : xK l d 118 [.int x] (wC tgt cg fg I J A B) Q := by
  obtain ⟨d, rfl⟩ : ∃ e, d = e + 1 := ⟨d - 1, by omega⟩
  exact e_X10_shiftOf hQ
theorem s_takeFeatures (h : rdX I A B t n j) (hd : 3 ≤ d)
    (hE : ∀ k pl (I' : Nat → Int32), pFeat t n 1541 j 0 = .inl (k, pl) → I' 304 = nI k → I' 305 = nI pl → (∀ i, i ≠ 302 → i ≠ 304 → i ≠ 305 → I' i = I i) → Q (some (.int (-1))) (wC (.ref 48) cg fg I' J A B))
    (hO : ∀ key j' (I' : Nat → Int32), pFeat t n 1541 j 0 = .inr (key, j') → key < 625 → rdX I' A B t n j' → (∀ i, i ≠ 302 → I' i = I i) → Q (some (.int (nI (bk key)))) (wC (.ref 48) cg fg I' J A B)) :
    xK l d 56 [.ref 3] (wC (.ref 48) cg fg I J A B) Q := by
  obtain ⟨d, rfl⟩ : ∃ e, d = e + 1 := ⟨d - 1, by omega⟩
  have hz := tZ_le t n
  have p1 : ∀ {v : Nat} {P R : Prop}, v ≤ 3 → P → (if (0 : Int32) ≤ nI v then P else R) := fun hv hp => if_le (a := 0) rfl rfl (by omega) (by omega) (fun _ => hp) (fun z => absurd z (by omega))
  have loop : ∀ m x key j1 (I1 : Nat → Int32), x + m = 1541 → 2 * x ≤ j1 → pFeat t n m j1 key = pFeat t n 1541 j 0 → key < 625 → rdX I1 A B t n j1 → (∀ i, i ≠ 302 → I1 i = I i) → xG l d 56 Q 4 [some (.ref 3), some (.int (nI (bk key))), some (.int (nI x)), none, none] [] (wC (.ref 48) cg fg I1 J A B) 0 0 := by
    intro m
    induction m with
    | zero =>
      intro x key j1 I1 hm hj hp hkey h1 hI
      have := h1.2.2.2; omega
    | succ m ih =>
      intro x key j1 I1 hm hj hp hkey h1 hI
      have hj1 := h1.2.2.2
      have hb := clK_b t n (tP t n j1)
      refine b_X4_takeFeatures_4 (if_le (a := 1540) rfl rfl (by omega) (by omega) (fun z => absurd z (by omega)) (fun _ => ⟨rd_in h1, if_eq (rd_k h1) (b := 1) rfl (by omega) (by omega) (fun e => ?_) (fun e => ?_)⟩))
      · have k3 := ck_num.mp e
        rw [pFeat_yes k3] at hp
        refine s_takeDigit h1 (by omega) (most := 3) rfl (by omega) (fun k pl hf => ?_) (fun f hf hf3 hk => ?_)
        · refine b_X4_takeFeatures_32 ?_
          rw [if_neg (by decide)]
          refine hE k pl _ (by rw [← hp, hf]; rfl) ?_ ?_ (fun i a b c => ?_)
          · rw [un_i (by decide), ue_i]
          · rw [ue_i]
          · rw [un_i c, un_i b]; exact hI i a
        · refine b_X4_takeFeatures_32 (p1 hf3 ?_)
          have h2 := rd_next h1 hk
          refine s_takeDigit h2 (by omega) (most := 3) rfl (by omega) (fun k pl hv => ?_) (fun v hv hv3 hk2 => ?_)
          · refine b_X4_takeFeatures_44 ?_
            rw [if_neg (by decide)]
            refine hE k pl _ (by rw [← hp, hf, sbd_r, hv]; rfl) ?_ ?_ (fun i a b c => ?_)
            · rw [un_i (by decide), ue_i]
            · rw [ue_i]
            · rw [un_i c, un_i b, un_i a]; exact hI i a
          · refine b_X4_takeFeatures_44 (p1 hv3 (s_shiftOf (by omega) (b_X4_takeFeatures_60 (s_shiftOf (by omega) (b_X4_takeFeatures_72 ?_)))))
            rw [bk_set key hkey f (by omega) v (by omega), nI_1]
            refine ih (x + 1) _ (j1 + 2) _ (by omega) (by omega) (by rw [← hp, hf, sbd_r, hv, sbd_r]) (setd_lt key hkey f (by omega) _ (by omega)) (rd_next h2 hk2) (fun i a => ?_)
            rw [un_i a, un_i a]; exact hI i a
      · rw [pFeat_no (fun z => e (ck_num.mpr z))] at hp
        exact hO key j1 I1 hp.symm hkey h1 hI
  exact e_X4_takeFeatures (loop 1541 0 0 j I (by omega) (by omega) rfl (by omega) h (fun _ _ => rfl))
end C5
