/-! ===== the class: rules of one part, spans, the chart ===== -/
theorem ix_gap {V : Nat → Vl} {s x : Nat} (hsx : s ≤ x) (hx : x ≤ 10000) (h : ∀ y, s ≤ y → y < x → V y = none) : ix V s = ix V x := by
  have hm := ix_mono (V := V) hsx hx
  apply Nat.le_antisymm hm
  apply Nat.le_of_not_lt; intro z
  have h1 := sL_lt' (V := V) hx z
  have h2 := sL_ge' (V := V) (show s ≤ 10000 by omega) (Nat.le_refl _) h1.1
  have h3 := sL_in h1.1
  rw [h _ h2 h1.2] at h3; exact absurd h3.2 (by decide)
theorem sL_leq {V : Nat → Vl} {j k : Nat} (hj : j ≤ k) (hk : k < (sL V).length) : (sL V).getD j 0 ≤ (sL V).getD k 0 := by
  by_cases e : j = k
  · subst e; exact Nat.le_refl _
  · exact Nat.le_of_lt (sL_inc (by omega) hk)
section C25
variable {l : Launch} {J : Nat → Int64} {Q : Option Value → XW → Prop} {d : Nat} {tgt cg fg : Value} {I : Nat → Int32} {A : Nat → Nat → Int32} {B : Nat → Nat → Int64}
set_option maxHeartbeats 1000000 in
theorem s_addBySingle (hd : 3 ≤ d) {x1 : Int32} {r i j : Nat} {R : Rule} {D : List (Nat × Nat × Nat)} {V : Nat → Vl} (hx1 : x1 = nI r) (hr : r < 30) (hij : i < j) (hj : j ≤ 14) (hI : I 1908 = nI (cx i j)) (hD : drX A D) (hR : okR R) (hRA : rulZ A r R) (h1 : R.2.2.1 = none) (hne : R.2.1 ≠ R.1)
    (hbV : bV V) (hbb : ∀ p ∈ sOps (oD D) R i j V, -100000 ≤ p.2.2 ∧ p.2.2 ≤ 100000) (hV : cX A B (cx i j) V)
    (hE : ∀ (A' : Nat → Nat → Int32) (B' : Nat → Nat → Int64), 61 ≤ (sL (apv V (sOps (oD D) R i j V))).length → fcX (cx i j) A B A' B' → Q (some (.int 0)) (wC tgt (.ref 37) fg I J A' B'))
    (hO : ∀ (A' : Nat → Nat → Int32) (B' : Nat → Nat → Int64), cX A' B' (cx i j) (apv V (sOps (oD D) R i j V)) → fcX (cx i j) A B A' B' → Q (some (.int 1)) (wC tgt (.ref 37) fg I J A' B')) : xK l d 7 [.ref 19, .int x1] (wC tgt (.ref 37) fg I J A B) Q := by
  obtain ⟨d, rfl⟩ : ∃ e, d = e + 1 := ⟨d - 1, by omega⟩
  subst hx1
  have hf16 := hR.2.1
  have hw16 := hR.1
  have hc := cx_lt hij hj
  have hown := oD_1 D R.1 i j
  have a40 : A 40 (nI r).toNatClampNeg = nI R.1 := by rw [cl_n (by omega)]; exact hRA.1
  have a41 : A 41 (nI r).toNatClampNeg = nI R.2.1 := by rw [cl_n (by omega)]; exact hRA.2.1
  refine e_X0_addBySingle ⟨xin_n hr (by omega), s_costOfNode (by omega) hD a40 hw16 hI hij hj (b_X0_addBySingle_20 ⟨xin_n hr (by omega), xin_n hr (by omega), ?_⟩)⟩
  rw [a41, nI_1, shl12 _ (by omega), shl12 _ (by omega)]
  have hbh : ∀ z, cs z < 4096 * (R.2.1 + 1) ↔ z < 625 * (R.2.1 + 1) := fun z => by rw [← cs_625]; exact cs_lt_iff
  have hbl : 4096 * (R.2.1 + 1) < 100000 := by omega
  generalize 4096 * (R.2.1 + 1) = bh at hbh hbl ⊢
  generalize hcx : cx i j = c at hI hV hE hO hc
  have lV := hV.1
  generalize hF : (fun x : Nat => if x / 625 = R.2.1 then sOp (oD D R.1 i j) R x (V x) else []) = F
  have hL : sOps (oD D) R i j V = (sL V).flatMap F := by rw [← hF]; rfl
  have hoc : ∀ p ∈ (sL V).flatMap F, p.1 / 625 = R.1 := fun p hp => (sOps_in (o := oD D) (i := i) (j := j) hR (by rw [hL]; exact hp)).2
  rw [hL] at hE hO hbb
  have hP1 := sL_le' (V := V) (s := 625 * (R.2.1 + 1)) (by omega)
  have hPm := ix_mono (V := V) (show 625 * R.2.1 ≤ 625 * (R.2.1 + 1) by omega) (by omega)
  have catV : ∀ p, p < (sL V).length → ((sL V).getD p 0 / 625 = R.2.1 ↔ ix V (625 * R.2.1) ≤ p ∧ p < ix V (625 * (R.2.1 + 1))) := fun p hp => cat_eq hf16 hp
  generalize e0 : ix V (625 * R.2.1) = p0 at hPm catV
  generalize e1 : ix V (625 * (R.2.1 + 1)) = p1 at hP1 hPm catV
  have hFn : ∀ p, p < (sL V).length → ¬ (p0 ≤ p ∧ p < p1) → F ((sL V).getD p 0) = [] := fun p hp hn => by
    rw [← hF]; show (if _ then _ else _) = _
    rw [if_neg (fun w => hn ((catV p hp).mp w))]
  have loop : ∀ m p w s (A1 : Nat → Nat → Int32) (B1 : Nat → Nat → Int64), p1 - p < m → p0 ≤ p → p ≤ p1 → ((p = p0 ∧ s = 625 * R.2.1 ∧ w = 4096 * R.2.1) ∨ (p0 < p ∧ s = (sL V).getD (p - 1) 0 + 1 ∧ w = cs ((sL V).getD (p - 1) 0) + 1)) → cX A1 B1 c (apv V (((sL V).take p).flatMap F)) → fcX c A B A1 B1 → xG l d 7 Q 53 [some (.ref 19), some (.int (nI r)), some (.int (iC (oD D R.1 i j))), some (.int (nI bh)), some (.int (nI w)), some (.int (nI (p - p0))), none, none] [] (wC tgt (.ref 37) fg I J A1 B1) 0 0 := by
    intro m
    induction m with
    | zero => intro p w s A1 B1 hm; omega
    | succ m ih =>
      intro p w s A1 B1 hm hp0 hp1 hws hcm hfr
      have done : p = p1 → Q (some (.int 1)) (wC tgt (.ref 37) fg I J A1 B1) := fun e => by
        refine hO A1 B1 ?_ hfr
        rw [fm_tall (l := sL V) (F := F) 0 (p := p) (fun k hk hkl => hFn k hkl (by omega))]; exact hcm
      -- where the next sign stands
      have hs1 : 625 * R.2.1 ≤ s ∧ s ≤ 625 * (R.2.1 + 1) ∧ w < 100000 ∧ (∀ z, z < 10000 → (cs z < w ↔ z < s)) := by
        rcases hws with ⟨_, q2, q3⟩ | ⟨q1, q2, q3⟩
        · refine ⟨by omega, by omega, by omega, fun z _ => ?_⟩
          rw [q2, q3, ← cs_625]; exact cs_lt_iff
        · have hl1 : p - 1 < (sL V).length := by omega
          have := (catV (p - 1) hl1).mpr (by omega)
          have hin := sL_in hl1
          have hcl := cs_lt hin.1
          refine ⟨by omega, by omega, by omega, fun z _ => ?_⟩
          rw [q2, q3]
          have := cs_le_iff (a := z) (b := (sL V).getD (p - 1) 0)
          omega
      have hlow : ∀ k, k < p → k < (sL V).length → (sL V).getD k 0 < s := by
        intro k hk hkl
        rcases hws with ⟨q1, q2, _⟩ | ⟨q1, q2, _⟩
        · rw [q2]; exact (sL_lt' (V := V) (s := 625 * R.2.1) (by omega) (by omega)).2
        · have := sL_leq (V := V) (show k ≤ p - 1 by omega) (by omega)
          omega
      have hV1 : ∀ x, x / 625 = R.2.1 → apv V (((sL V).take p).flatMap F) x = V x := fun x hx => apv_out (cc := R.1) (fun q hq => hoc q (fm_take hq)) (by rw [hx]; exact hne)
      generalize hW : apv V (((sL V).take p).flatMap F) = V1 at hcm hV1
      have l1 := hcm.1
      refine b_X0_addBySingle_53 (if_le (a := 60) rfl rfl (by omega) (by omega) (fun z => ⟨Or.inr rfl, done (by omega)⟩) (fun z => ?_))
      refine s_placeOf (V := V1) (s := s) (by omega) hI hc rfl hs1.2.2.1 (by omega) hs1.2.2.2 l1 hcm.2.1 (fun k hk => (hcm.2.2 k hk).1) (b_X0_addBySingle_70 ⟨xin_of hI hc (by omega), ?_⟩)
      have hixl := sL_le' (V := V1) (s := s) (by omega)
      have e20 : (I 1908) * (60 : Int32) + A1 20 (I 1908).toNatClampNeg = nI (60 * c + (sL V1).length) := by rw [cl_of hI (by omega), hcm.2.1, hI, show nI c * (60 : Int32) = nI (c * 60) from mul_of (b := 60) rfl rfl, Nat.mul_comm, nI_add]
      -- is there one
      by_cases hp : p < p1
      · have hpl : p < (sL V).length := by omega
        have hcat := (catV p hpl).mpr ⟨hp0, hp⟩
        have hin := sL_in hpl
        generalize hx : (sL V).getD p 0 = x at hcat hin
        have hsx : s ≤ x := by
          rcases hws with ⟨q1, q2, _⟩ | ⟨q1, q2, _⟩
          · omega
          · have := sL_inc (V := V) (show p - 1 < p by omega) hpl
            omega
        have hgap : ix V1 s = ix V1 x := ix_gap hsx (by omega) (fun y hy1 hy2 => by
          have hyc : y / 625 = R.2.1 := by omega
          rw [hV1 y hyc]
          cases hv : V y with
          | none => rfl
          | some v =>
            exfalso
            have hy := sL_at (V := V) (s := y) (by omega) (by rw [hv]; rfl)
            have hlt : ix V y < p := by
              apply Nat.lt_of_not_le; intro q
              have := sL_leq (V := V) q hy.1
              omega
            have := hlow _ hlt hy.1
            omega)
        obtain ⟨v, hv⟩ := Option.isSome_iff_exists.mp hin.2
        have hv1 : V1 x = some v := by rw [hV1 x hcat]; exact hv
        have hat := sL_at (V := V1) (s := x) hin.1 (by rw [hv1]; rfl)
        rw [hgap]
        have hcl := cs_lt hin.1
        have hcell := hcm.2.2 _ hat.1
        rw [hat.2, hv1] at hcell
        have hb1 : cs x < bh := (hbh x).mpr (by omega)
        refine if_le e20 rfl (by omega) (by omega) (fun q => absurd q (by omega)) (fun q => ⟨xin_n (by omega) (by omega), ?_⟩)
        rw [cl_n (a := 60 * c + ix V1 x) (by omega), hcell.1]
        refine if_lt (a := cs x) (b := bh) rfl rfl (by omega) (by omega) (fun _ => ⟨xin_n (by omega) (by omega), xin_n (by omega) (by omega), ?_⟩) (fun q => absurd q (by omega))
        have hRA1 : rulZ A1 r R := rulZ_fr hRA (fun p h1 h2 => hfr.1 p (by omega) (by omega) (by omega) (by omega))
        have next : ∀ (A2 : Nat → Nat → Int32) (B2 : Nat → Nat → Int64), cX A2 B2 c (apv V (((sL V).take (p + 1)).flatMap F)) → fcX c A B A2 B2 → xG l d 7 Q 53 [some (.ref 19), some (.int (nI r)), some (.int (iC (oD D R.1 i j))), some (.int (nI bh)), some (.int (nI (cs x) + 1)), some (.int (nI (p - p0) + 1)), none, none] [] (wC tgt (.ref 37) fg I J A2 B2) 0 0 := by
          intro A2 B2 k1 k2
          rw [nI_1, nI_1, show p - p0 + 1 = (p + 1) - p0 by omega]
          refine ih (p + 1) (cs x + 1) (x + 1) A2 B2 (by omega) (by omega) (by omega) (Or.inr ⟨by omega, ?_, ?_⟩) k1 k2
          · rw [Nat.add_sub_cancel, hx]
          · rw [Nat.add_sub_cancel, hx]
        have hFx : F x = sOp (oD D R.1 i j) R x (V x) := by rw [← hF]; show (if _ then _ else _) = _; rw [if_pos hcat]
        have hsn : ((sL V).take (p + 1)).flatMap F = ((sL V).take p).flatMap F ++ F x := by rw [fm_snoc 0 hpl, hx]
        refine s_join (R := R) (b := 0) (by omega) rfl hr rfl hin.1 (show (0 : Int32) = nI (cs 0) from rfl) (by omega) hR hRA1 (fun _ => rfl) (b_X0_addBySingle_134 ?_)
        cases hk : mkS R x 0 with
        | none =>
          rw [if_pos (show o2c none < 0 by decide)]
          refine next A1 B1 ?_ hfr
          rw [hsn, hFx, show sOp (oD D R.1 i j) R x (V x) = [] by unfold sOp; rw [hk], List.append_nil, hW]; exact hcm
        | some t =>
          have ht := mkS_in hR hk
          have hclt := cs_lt ht.1
          have hop : F x = [(t, (v.1, oD D R.1 i j + v.2))] := by rw [hFx]; unfold sOp; rw [hk, hv]
          have hmem : (t, (v.1, oD D R.1 i j + v.2)) ∈ (sL V).flatMap F := fm_at 0 hpl (by rw [hx, hop]; exact List.mem_singleton.mpr rfl)
          have hcb := hbb _ hmem
          rw [show o2c (some t) = nI (cs t) from rfl, if_neg (show ¬ nI (cs t) < 0 from nn_n (by omega)), cl_n (a := 60 * c + ix V1 x) (by omega), hcell.2.2, show cy (some v) = v.2 from rfl, iC_add]
          refine ⟨xin_n (by omega) (by omega), xin_n (by omega) (by omega), ?_⟩
          refine s_addTrees (s := t) (n := v.1) (cst := oD D R.1 i j + v.2) (V := V1) (by omega) hI hc rfl ht.1 hcell.2.1 rfl hcb.1 hcb.2 (by rw [← hW]; exact bV_apv hbV (fun p hp => hbb p (fm_take hp))) hcm (fun hn h60 => b_X0_addBySingle_163 ?_) (fun A3 B3 k1 k2 => b_X0_addBySingle_163 ?_)
          · rw [if_pos rfl]
            rw [← hW] at hn h60
            exact ⟨Or.inl rfl, hE A1 B1 (apv_61 (op := (t, (v.1, oD D R.1 i j + v.2))) h60 hn ht.1 (fun o ho => fm_take ho) hmem) hfr⟩
          · rw [if_neg (by decide)]
            refine next A3 B3 ?_ (fcX_trans hfr k2)
            rw [hsn, hop, ← apv_app, hW]; exact k1
      · have hpe : p = p1 := by omega
        refine if_le e20 rfl (by omega) (by omega) (fun q => ⟨Or.inr rfl, done hpe⟩) (fun q => ⟨xin_n (by omega) (by omega), ?_⟩)
        have hin := sL_in (V := V1) (show ix V1 s < (sL V1).length by omega)
        have hge := sL_ge' (V := V1) (show s ≤ 10000 by omega) (Nat.le_refl _) (show ix V1 s < (sL V1).length by omega)
        rw [cl_n (a := 60 * c + ix V1 s) (by omega), (hcm.2.2 _ (by omega)).1]
        generalize (sL V1).getD (ix V1 s) 0 = y at hin hge
        have hcl := cs_lt hin.1
        refine if_lt (a := cs y) (b := bh) rfl rfl (by omega) (by omega) (fun q2 => ?_) (fun _ => ⟨Or.inr rfl, done hpe⟩)
        exfalso
        have q2 := (hbh y).mp q2
        have hyc : y / 625 = R.2.1 := by omega
        rw [hV1 y hyc] at hin
        have hy := sL_at (V := V) (s := y) hin.1 hin.2
        have hk := (catV _ hy.1).mp (by rw [hy.2]; exact hyc)
        have := hlow (ix V y) (by omega) hy.1
        omega
  rw [show (0 : Int32) = nI (p0 - p0) by rw [Nat.sub_self]; rfl]
  exact loop _ p0 (4096 * R.2.1) (625 * R.2.1) A B (Nat.lt_succ_self _) (Nat.le_refl _) hPm (Or.inl ⟨rfl, rfl, rfl⟩) (by rw [fm_tnil (l := sL V) (F := F) 0 (p := p0) (fun k hk hkl => hFn k hkl (by omega)), apv_nil]; exact hV) (fcX_refl c A B)
end C25
