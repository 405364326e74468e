/-! ===== the class: tokens ===== -/
section C2
variable {l : Launch} {J : Nat → Int64} {Q : Option Value → XW → Prop} {d : Nat} {t : Nat → Nat} {n : Nat} {tgt cg fg : Value}
theorem s_kindOfName {I : Nat → Int32} {A : Nat → Nat → Int32} {B : Nat → Nat → Int64} (hd : 1 ≤ d) {x : Int64} {nm : List Nat} (hx : x = lN (c32 nm)) (hv : vNm nm) (hQ : Q (some (.int (nI (clN nm)))) (wC tgt cg fg I J A B)) : xK l d 87 [.long x] (wC tgt cg fg I J A B) Q := by
  obtain ⟨d, rfl⟩ : ∃ e, d = e + 1 := ⟨d - 1, by omega⟩
  have key : ∀ {w : List Nat} {c : Int64}, vNm w → c = lN (c32 w) → (lg_cmp x c = 0 ↔ nm = w) := fun hw hc => lg0.trans (by rw [hx, hc]; exact nm_eq32 hv hw)
  unfold clN at hQ
  refine e_X8_kindOfName (if_if (key kw_v.1 (by rw [kw_c32.1]; rfl)) (fun h1 => ?_) (fun h1 => if_if (key kw_v.2.1 (by rw [kw_c32.2.1]; rfl)) (fun h2 => ?_) (fun h2 => if_if (key kw_v.2.2.1 (by rw [kw_c32.2.2.1]; rfl)) (fun h3 => ?_) (fun h3 => if_if (key kw_v.2.2.2 (by rw [kw_c32.2.2.2]; rfl)) (fun h4 => ?_) (fun h4 => ?_)))))
  · rw [if_pos h1] at hQ; exact hQ
  · rw [if_neg h1, if_pos h2] at hQ; exact hQ
  · rw [if_neg h1, if_neg h2, if_pos h3] at hQ; exact hQ
  · rw [if_neg h1, if_neg h2, if_neg h3, if_pos h4] at hQ; exact hQ
  · rw [if_neg h1, if_neg h2, if_neg h3, if_neg h4] at hQ; exact hQ
theorem s_addToken {I : Nat → Int32} {A : Nat → Nat → Int32} {B : Nat → Nat → Int64} (hd : 1 ≤ d) {s : Nat} (hs : I 404 = nI s) (hs2 : s < 1501) {x y : Int32} {v : Int64} (hQ : Q none (wC tgt cg fg (upd I 404 (nI (s + 1))) J (va_up (va_up A 5 (upd (A 5) s x)) 6 (upd (A 6) s y)) (va_up B 7 (vp_updL (B 7) s v)))) : xK l d 86 [.ref 4, .int x, .int y, .long v] (wC tgt cg fg I J A B) Q := by
  obtain ⟨d, rfl⟩ : ∃ e, d = e + 1 := ⟨d - 1, by omega⟩
  refine e_X8_addToken (if_le (a := 1501) rfl hs (by omega) (by omega) (fun h => absurd h (by omega)) (fun _ => ⟨xin_of hs (by omega) (by omega), xin_of hs (by omega) (by omega), xin_of hs (by omega) (by omega), ?_⟩))
  rw [cl_of hs (by omega), hs, nI_1]
  exact hQ
/-- the tokens with one more -/
theorem tokX_snoc {A : Nat → Nat → Int32} {B : Nat → Nat → Int64} {s : Nat} {x y : Int32} {v : Int64} (h : tokX A B t n s) (hx : x = nI (clK t n (tP t n s))) (hy : y = nI (tF t n s)) (hv : v = lN (clV t n (tP t n s))) : tokX (va_up (va_up A 5 (upd (A 5) s x)) 6 (upd (A 6) s y)) (va_up B 7 (vp_updL (B 7) s v)) t n (s + 1) := by
  intro j hj
  rw [un_v (by decide), ue_v, ue_v, ue_v]
  by_cases e : j = s
  · subst e; rw [ue_i, ue_i, ue_l]; exact ⟨hx, hy, hv⟩
  · rw [un_i e, un_i e, un_l e]; exact h j (by omega)
set_option maxHeartbeats 2000000 in
theorem s_takeToken {I : Nat → Int32} {A : Nat → Nat → Int32} {B : Nat → Nat → Int64} (ht : tpX A t n) (hd : 3 ≤ d) (h101 : I 101 = nI n) {s : Nat} (hs : I 404 = nI s) (hs2 : s < 1501) (hq : tqS t n (tP t n s) < n) (hno : ¬ (1500 < n ∧ 1500 ≤ tqS t n (tP t n s))) {x y : Int32} (hx : x = nI (tqS t n (tP t n s))) (hy : y = nI (tkE t n (tP t n s)))
    (hQ : ∀ x y v, x = nI (clK t n (tP t n s)) → y = nI (tF t n s) → v = lN (clV t n (tP t n s)) → Q none (wC tgt cg fg (upd I 404 (nI (s + 1))) J (va_up (va_up A 5 (upd (A 5) s x)) 6 (upd (A 6) s y)) (va_up B 7 (vp_updL (B 7) s v)))) : xK l d 85 [.ref 4, .int x, .int y] (wC tgt cg fg I J A B) Q := by
  obtain ⟨d, rfl⟩ : ∃ e, d = e + 1 := ⟨d - 1, by omega⟩
  have hn := ht.1
  have hpn := tP_le t n s
  have hE := tkE_le (t := t) hpn
  have hF : tF t n s = tqS t n (tP t n s) := by show tkF t n (tP t n s) = _; unfold tkF; rw [if_neg hno]
  have hKd : tkK t n (tP t n s) = if isLD (t (tqS t n (tP t n s))) = true then nmK t n (tqS t n (tP t n s)) else if t (tqS t n (tP t n s)) = 61 ∨ t (tqS t n (tP t n s)) = 59 then 4 else 1 := by unfold tkK; rw [if_neg hno, if_neg (by omega)]
  have hEd : tkE t n (tP t n s) = if isLD (t (tqS t n (tP t n s))) = true then skN (fun i => isLD (t i)) n (tqS t n (tP t n s)) else tqS t n (tP t n s) + 1 := by unfold tkE; rw [if_neg hno, if_neg (by omega)]
  have hNd : tkN t n (tP t n s) = ltr t (tqS t n (tP t n s)) (skN (fun i => isLD (t i)) n (tqS t n (tP t n s))) := rfl
  have hDd : tkD t n (tP t n s) = t (tqS t n (tP t n s)) - 48 := rfl
  have hCd : tkC t n (tP t n s) = t (tqS t n (tP t n s)) := rfl
  have hclK : clK t n (tP t n s) = if tkK t n (tP t n s) = 0 then 8 else if tkK t n (tP t n s) = 1 then 9 else if tkK t n (tP t n s) = 2 then clN (tkN t n (tP t n s)) else if tkK t n (tP t n s) = 3 then 1 else if tkC t n (tP t n s) = 61 then 2 else 3 := rfl
  have hclV : clV t n (tP t n s) = if tkK t n (tP t n s) = 2 then c32 (tkN t n (tP t n s)) else if tkK t n (tP t n s) = 3 then tkD t n (tP t n s) else 0 := rfl
  have hvNm := tkN_v (t := t) (n := n) (p := tP t n s)
  rw [← hF] at hx
  generalize clK t n (tP t n s) = ck at hclK hQ
  generalize clV t n (tP t n s) = cv at hclV hQ
  generalize tkK t n (tP t n s) = kk at hclK hclV hKd hvNm
  generalize tkE t n (tP t n s) = ee at hEd hE hy
  generalize tkN t n (tP t n s) = nn at hNd hclK hclV hvNm
  generalize tkD t n (tP t n s) = dd at hDd hclV
  generalize tkC t n (tP t n s) = cc at hCd hclK
  rw [← hF] at hq hKd hEd hNd hDd hCd
  generalize tF t n s = q at *
  have hb := (ht.2 q hq).1
  have hqe : q < ee := by
    rw [hEd]; split
    · rename_i h; rw [skN_yes (fun i => isLD (t i)) hq h]; have := skN_ge (fun i => isLD (t i)) n (q + 1); omega
    · omega
  subst hx
  refine e_X8_takeToken (s_nameBetween ht (by omega) h101 rfl (by omega) hy (by omega) ?_)
  refine b_X8_takeToken_9 ⟨xin_of rfl (by omega) (by omega), ?_⟩
  by_cases hname : q < ee ∧ ee ≤ q + 10 ∧ ee ≤ n ∧ allLe t q ee = true
  · -- a name
    have hle := allLe_iff.mp hname.2.2.2 q (Nat.le_refl _) hqe
    have hld : isLD (t q) = true := by simp [isLD, hle]
    rw [if_pos hld] at hKd hEd
    have hk2 : kk = 2 := by rw [hKd]; unfold nmK; rw [← hEd, if_pos ⟨hname.2.2.2, hname.2.1⟩]
    have hnn : nn = ltr t q ee := by rw [hNd, hEd]
    have hv := hvNm hk2
    have hnz : nn ≠ [] := by rw [hnn]; unfold ltr; intro z; have := congrArg List.length z; simp at this; omega
    have hB : nmB t n q ee = c32 nn := by unfold nmB; rw [if_pos hname, hnn]
    rw [hB]
    have hp := c32_pos hv.1 hnz
    rw [if_neg (fun z => by
      have z2 := lg0.mp z
      have z3 : lN (c32 nn) = lN 0 := z2
      rw [pk_lEQ (c32_b hv) (by omega)] at z3; omega)]
    refine s_kindOfName (by omega) rfl hv ?_
    refine b_X8_takeToken_32 (s_addToken (by omega) hs hs2 (b_X8_takeToken_37 (b_X8_takeToken_114 (hQ _ _ _ ?_ rfl ?_))))
    · rw [hclK, if_neg (by omega), if_neg (by omega), if_pos hk2]
    · rw [hclV, if_pos hk2]
  · have hB : nmB t n q ee = 0 := by unfold nmB; rw [if_neg hname]
    rw [hB, if_pos (show lg_cmp (lN 0) 0 = 0 from lg0.mpr rfl)]
    refine if_le hy (b := q + 1) (nI_1 q) (by omega) (by omega) (fun h1 => ?_) (fun h1 => ?_)
    · have he1 : ee = q + 1 := by omega
      have hnl : isLe (t q) = false := by
        cases z : isLe (t q) with
        | false => rfl
        | true => exact absurd ⟨hqe, by omega, by omega, allLe_iff.mpr (fun i a b => by rw [show i = q by omega]; exact z)⟩ hname
      have hv2 := tx_v ht (rfl : nI q = nI q) hq
      refine s_isDigitAt ht (by omega) rfl hq (b_X8_takeToken_66 (if_bI rfl (fun h2 => ?_) (fun h2 => ?_)))
      · have hnld : ¬ isLD (t q) = true := by simp [isLD, hnl, h2]
        rw [if_neg hnld] at hKd
        rw [hv2]
        refine if_if (sb_eq _ hb 61 (by omega)) (fun e => ?_) (fun e => if_if (sb_eq _ hb 59 (by omega)) (fun e2 => ?_) (fun e2 => ?_))
        · rw [if_pos (Or.inl e)] at hKd
          refine s_addToken (by omega) hs hs2 (b_X8_takeToken_114 (hQ _ _ _ ?_ rfl ?_))
          · rw [hclK, hKd, hCd, if_neg (by omega), if_neg (by omega), if_neg (by omega), if_neg (by omega), if_pos e]; rfl
          · rw [hclV, hKd, if_neg (by omega), if_neg (by omega)]; rfl
        · rw [if_pos (Or.inr e2)] at hKd
          refine s_addToken (by omega) hs hs2 (b_X8_takeToken_114 (hQ _ _ _ ?_ rfl ?_))
          · rw [hclK, hKd, hCd, if_neg (by omega), if_neg (by omega), if_neg (by omega), if_neg (by omega), if_neg e]; rfl
          · rw [hclV, hKd, if_neg (by omega), if_neg (by omega)]; rfl
        · rw [if_neg (by rintro (z | z) <;> contradiction)] at hKd
          refine s_addToken (by omega) hs hs2 (b_X8_takeToken_114 (hQ _ _ _ ?_ rfl ?_))
          · rw [hclK, hKd, if_neg (by omega), if_pos rfl]; rfl
          · rw [hclV, hKd, if_neg (by omega), if_neg (by omega)]; rfl
      · have hld : isLD (t q) = true := by simp [isLD, h2]
        rw [if_pos hld] at hKd hEd
        have hk3 : kk = 3 := by
          rw [hKd]; unfold nmK
          rw [← hEd, if_neg (fun z => by have := allLe_iff.mp z.1 q (Nat.le_refl _) hqe; rw [hnl] at this; cases this), if_pos ⟨h2, he1⟩]
        have hdi := isDi_iff.mp h2
        rw [hv2, sb_lo (by omega)]
        refine s_addToken (by omega) hs hs2 (b_X8_takeToken_81 (b_X8_takeToken_114 (hQ _ _ _ ?_ rfl ?_)))
        · rw [hclK, hk3, if_neg (by omega), if_neg (by omega), if_neg (by omega), if_pos rfl]; rfl
        · rw [hclV, hk3, if_neg (by omega), if_pos rfl, hDd, show (48 : Int32) = nI 48 from rfl, sub_n (by omega), nI_l (by omega)]
    · have hk1 : kk = 1 := by
        have hld : isLD (t q) = true := by
          cases z : isLD (t q) with
          | true => rfl
          | false => rw [if_neg (by rw [z]; decide)] at hEd; omega
        rw [if_pos hld] at hKd hEd
        rw [hKd]; unfold nmK
        rw [← hEd, if_neg (fun z => hname ⟨hqe, z.2, hE, z.1⟩), if_neg (fun z => by omega)]
      refine s_addToken (by omega) hs hs2 (b_X8_takeToken_55 (b_X8_takeToken_114 (hQ _ _ _ ?_ rfl ?_)))
      · rw [hclK, hk1, if_neg (by omega), if_pos rfl]; rfl
      · rw [hclV, hk1, if_neg (by omega), if_neg (by omega)]; rfl
set_option maxHeartbeats 2000000 in
theorem s_scan {I : Nat → Int32} {A : Nat → Nat → Int32} {B : Nat → Nat → Int64} (ht : tpX A t n) (hd : 4 ≤ d) (h101 : I 101 = nI n)
    (hQ : ∀ (A' : Nat → Nat → Int32) (B' : Nat → Nat → Int64), tokX A' B' t n (tZ t n + 1) → (∀ p, p ≠ 5 → p ≠ 6 → A' p = A p) → (∀ p, p ≠ 7 → B' p = B p) → Q none (wC tgt cg fg (upd I 404 (nI (tZ t n + 1))) J A' B')) : xK l d 84 [.ref 4] (wC tgt cg fg I J A B) Q := by
  obtain ⟨d, rfl⟩ : ∃ e, d = e + 1 := ⟨d - 1, by omega⟩
  have hn := ht.1
  have hz := tZ_le t n
  have loop : ∀ m s (A1 : Nat → Nat → Int32) (B1 : Nat → Nat → Int64), tZ t n - s < m → s ≤ tZ t n → tokX A1 B1 t n s → (∀ p, p ≠ 5 → p ≠ 6 → A1 p = A p) → (∀ p, p ≠ 7 → B1 p = B p) → xG l d 84 Q 9 [some (.ref 4), some (.int (nI (tP t n s))), some (.int (nI s)), none] [] (wC tgt cg fg (upd I 404 (nI s)) J A1 B1) 0 0 := by
    intro m
    induction m with
    | zero => intro s A1 B1 hm; exact absurd hm (by omega)
    | succ m ih =>
      intro s A1 B1 hm hs hT hA hB
      have htA : tpX A1 t n := by
        refine ⟨ht.1, fun i hi => ?_⟩
        rw [hA 2 (by decide) (by decide)]; exact ht.2 i hi
      have hpn := tP_le t n s
      have hqn : tqS t n (tP t n s) ≤ n := skN_le _ hpn
      have h101' : upd I 404 (nI s) 101 = nI n := by rw [un_i (by decide)]; exact h101
      have h404 : upd I 404 (nI s) 404 = nI s := ue_i _ _ _
      have fin : ∀ x y v, x = nI (clK t n (tP t n s)) → y = nI (tF t n s) → v = lN (clV t n (tP t n s)) → tokX (va_up (va_up A1 5 (upd (A1 5) s x)) 6 (upd (A1 6) s y)) (va_up B1 7 (vp_updL (B1 7) s v)) t n (s + 1) ∧ (∀ p, p ≠ 5 → p ≠ 6 → (va_up (va_up A1 5 (upd (A1 5) s x)) 6 (upd (A1 6) s y)) p = A p) ∧ (∀ p, p ≠ 7 → (va_up B1 7 (vp_updL (B1 7) s v)) p = B p) := by
        intro x y v hx hy hv
        refine ⟨tokX_snoc hT hx hy hv, fun p h5 h6 => ?_, fun p h7 => ?_⟩
        · rw [un_v h6, un_v h5]; exact hA p h5 h6
        · rw [un_v h7]; exact hB p h7
      have stop : tK t n s ≤ 1 → ∀ x y v, x = nI (clK t n (tP t n s)) → y = nI (tF t n s) → v = lN (clV t n (tP t n s)) → Q none (wC tgt cg fg (upd (upd I 404 (nI s)) 404 (nI (s + 1))) J (va_up (va_up A1 5 (upd (A1 5) s x)) 6 (upd (A1 6) s y)) (va_up B1 7 (vp_updL (B1 7) s v))) := by
        intro hk x y v hx hy hv
        obtain ⟨f1, f2, f3⟩ := fin x y v hx hy hv
        rw [uu_i]
        have es := tZ_eq hs hk
        rw [← es] at hQ
        exact hQ _ _ f1 f2 f3
      have hFd : tF t n s = if 1500 < n ∧ 1500 ≤ tqS t n (tP t n s) then 1500 else tqS t n (tP t n s) := rfl
      have hKd : tK t n s = if 1500 < n ∧ 1500 ≤ tqS t n (tP t n s) then 1 else if n ≤ tqS t n (tP t n s) then 0 else if isLD (t (tqS t n (tP t n s))) = true then nmK t n (tqS t n (tP t n s)) else if t (tqS t n (tP t n s)) = 61 ∨ t (tqS t n (tP t n s)) = 59 then 4 else 1 := rfl
      have go : tqS t n (tP t n s) < n → ¬ (1500 < n ∧ 1500 ≤ tqS t n (tP t n s)) → xK l d 80 [.ref 1, .int (nI (tqS t n (tP t n s)))] (wC tgt cg fg (upd I 404 (nI s)) J A1 B1) (fun v9 w9 => xG l d 84 Q 93 [some (.ref 4), none, some (.int (nI s)), some (.int (nI (tqS t n (tP t n s))))] (v9.toList ++ [.int (nI (tqS t n (tP t n s)) + 1)]) w9 0 0) := by
        intro hq hno
        refine s_behindLD htA (by omega) h101' rfl (by omega) ?_
        have hEE : tkE t n (tP t n s) ≤ n := tkE_le (t := t) hpn
        have hE : (if nI (tqS t n (tP t n s)) + 1 < nI (skN (fun i => isLD (t i)) n (tqS t n (tP t n s))) then nI (skN (fun i => isLD (t i)) n (tqS t n (tP t n s))) else nI (tqS t n (tP t n s)) + 1) = nI (tkE t n (tP t n s)) := by
          have hEd : tkE t n (tP t n s) = if isLD (t (tqS t n (tP t n s))) = true then skN (fun i => isLD (t i)) n (tqS t n (tP t n s)) else tqS t n (tP t n s) + 1 := by unfold tkE; rw [if_neg hno, if_neg (by omega)]
          have hle := skN_le (fun i => isLD (t i)) (n := n) (k := tqS t n (tP t n s)) (by omega)
          rw [hEd, nI_1, ]
          by_cases hld : isLD (t (tqS t n (tP t n s))) = true
          · rw [if_pos hld]
            have h2 := skN_ge (fun i => isLD (t i)) n (tqS t n (tP t n s) + 1)
            rw [← skN_yes (fun i => isLD (t i)) hq hld] at h2
            by_cases e : tqS t n (tP t n s) + 1 < skN (fun i => isLD (t i)) n (tqS t n (tP t n s))
            · rw [if_pos ((lt_n (by omega) (by omega)).mpr e)]
            · rw [if_neg (fun z => e ((lt_n (by omega) (by omega)).mp z)), show tqS t n (tP t n s) + 1 = skN (fun i => isLD (t i)) n (tqS t n (tP t n s)) by omega]
          · rw [if_neg hld, skN_no (fun i => isLD (t i)) (by simpa using hld), if_neg (fun z => by have := (lt_n (by omega) (by omega)).mp z; omega)]
        refine b_X8_scan_93 ?_
        rw [hE]
        refine s_takeToken htA (by omega) h101' h404 (by omega) hq hno rfl rfl (fun x y v hx hy hv => ?_)
        refine b_X8_scan_103 ⟨xin_of rfl (by omega) (by omega), ?_⟩
        rw [cl_of rfl (by omega), un_v (by decide), ue_v, ue_i, hx]
        refine if_eq (b := 9) rfl rfl (by have := clK_b t n (tP t n s); omega) (by omega) (fun h9 => ?_) (fun h9 => ?_)
        · rw [← hx]
          exact stop (by have := clK_9.mp h9; show tkK t n (tP t n s) ≤ 1; omega) x y v hx hy hv
        · rw [← hx, uu_i, nI_1]
          obtain ⟨f1, f2, f3⟩ := fin x y v hx hy hv
          have hk : 2 ≤ tK t n s := by
            have k1 : tkK t n (tP t n s) ≠ 1 := fun z => h9 (clK_9.mpr z)
            have k0 : tkK t n (tP t n s) ≠ 0 := by
              unfold tkK; rw [if_neg hno, if_neg (by omega)]
              by_cases hld : isLD (t (tqS t n (tP t n s))) = true
              · rw [if_pos hld]; unfold nmK; split
                · omega
                · split <;> omega
              · rw [if_neg hld]; split <;> omega
            show 2 ≤ tkK t n (tP t n s)
            omega
          have hlt : s < tZ t n := by
            rcases Nat.lt_or_ge s (tZ t n) with z | z
            · exact z
            · have := tZ_stop t n; rw [show tZ t n = s by omega] at this; omega
          exact ih (s + 1) _ _ (by omega) (by omega) f1 f2 f3
      have ends : n ≤ tqS t n (tP t n s) → ¬ (1500 < n ∧ 1500 ≤ tqS t n (tP t n s)) → xK l d 86 [.ref 4, .int 8, .int (upd I 404 (nI s) 101), .long 0] (wC tgt cg fg (upd I 404 (nI s)) J A1 B1) (fun v9 w9 => xG l d 84 Q 81 [none, none, none, none] (v9.toList ++ []) w9 0 0) := by
        intro hq hno
        have k0 : tkK t n (tP t n s) = 0 := by unfold tkK; rw [if_neg hno, if_pos hq]
        refine s_addToken (by omega) h404 (by omega) (b_X8_scan_81 (stop (by show tkK t n (tP t n s) ≤ 1; omega) _ _ _ ?_ ?_ ?_))
        · unfold clK; rw [if_pos k0]; rfl
        · rw [h101', hFd, if_neg hno]; exact congrArg nI (by omega)
        · unfold clV; rw [if_neg (by omega), if_neg (by omega)]; rfl
      refine b_X8_scan_9 (if_le (a := 1501) rfl rfl (by omega) (by omega) (fun h => absurd h (by omega)) (fun _ => ?_))
      refine s_behindBlanks htA (by omega) h101' rfl (by omega) (b_X8_scan_24 ?_)
      refine if_lt (a := tqS t n (tP t n s)) (b := 1500) rfl rfl (by omega) (by omega) (fun h1 => ?_) (fun h1 => ?_)
      · exact if_lt (a := tqS t n (tP t n s)) rfl h101' (by omega) (by omega) (fun h2 => go h2 (by omega)) (fun h2 => ends h2 (by omega))
      · refine if_le h101' (b := 1500) rfl (by omega) (by omega) (fun h2 => ?_) (fun h2 => ?_)
        · exact if_lt (a := tqS t n (tP t n s)) rfl h101' (by omega) (by omega) (fun h3 => go h3 (by omega)) (fun h3 => ends h3 (by omega))
        · have hyes : 1500 < n ∧ 1500 ≤ tqS t n (tP t n s) := ⟨h2, h1⟩
          have k1 : tkK t n (tP t n s) = 1 := by unfold tkK; rw [if_pos hyes]
          refine s_addToken (by omega) h404 (by omega) (b_X8_scan_55 (stop (by show tkK t n (tP t n s) ≤ 1; omega) _ _ _ ?_ ?_ ?_))
          · unfold clK; rw [if_neg (by omega), if_pos k1]; rfl
          · rw [hFd, if_pos hyes]; rfl
          · unfold clV; rw [if_neg (by omega), if_neg (by omega)]; rfl
  refine e_X8_scan ?_
  exact loop (tZ t n + 1) 0 A B (by omega) (Nat.zero_le _) (fun j hj => absurd hj (by omega)) (fun _ _ _ => rfl) (fun _ _ => rfl)
end C2
