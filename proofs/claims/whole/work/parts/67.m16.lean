/-! ===== the reference: joins ===== -/
theorem tot_some {L : List Op} {s : Nat} : (tot L s).isSome = true ↔ ∃ o ∈ L, o.1 = s := by
  induction L with
  | nil => exact ⟨fun h => (nomatch h), fun ⟨o, h, _⟩ => (nomatch h)⟩
  | cons o L ih =>
    show (if o.1 = s then vA (some o.2) (tot L s) else tot L s).isSome = true ↔ _
    by_cases e : o.1 = s
    · rw [if_pos e, vA_some]
      exact ⟨fun _ => ⟨o, List.mem_cons_self .., e⟩, fun _ => rfl⟩
    · rw [if_neg e, ih]
      constructor
      · rintro ⟨p, hp, h⟩; exact ⟨p, List.mem_cons_of_mem _ hp, h⟩
      · rintro ⟨p, hp, h⟩
        rcases List.mem_cons.mp hp with q | q
        · subst q; exact absurd h e
        · exact ⟨p, q, h⟩
theorem apv_sub {V : Nat → Vl} {L M : List Op} (h : ∀ o ∈ L, o ∈ M) {s : Nat} (k : (apv V L s).isSome = true) : (apv V M s).isSome = true := by
  show (vA _ _).isSome = true
  rw [vA_some, Bool.or_eq_true]
  rcases (Bool.or_eq_true _ _ ▸ (vA_some ▸ k : ((V s).isSome || (tot L s).isSome) = true)) with z | z
  · exact Or.inl z
  · obtain ⟨o, ho, e⟩ := tot_some.mp z
    exact Or.inr (tot_some.mpr ⟨o, h o ho, e⟩)
theorem apv_61 {V : Nat → Vl} {L M : List Op} {op : Op} (h60 : (sL (apv V L)).length = 60) (hn : apv V L op.1 = none) (hs : op.1 < 10000) (hsub : ∀ o ∈ L, o ∈ M) (hop : op ∈ M) : 61 ≤ (sL (apv V M)).length :=
  sL_61 hs hn h60 (by show (vA _ _).isSome = true; rw [vA_some, Bool.or_eq_true]; exact Or.inr (tot_some.mpr ⟨op, hop, rfl⟩)) (fun x hx => apv_sub hsub hx)
theorem fm_take {α β : Type} {l : List α} {F : α → List β} {p : Nat} {o : β} (h : o ∈ (l.take p).flatMap F) : o ∈ l.flatMap F := by
  obtain ⟨a, ha, hb⟩ := List.mem_flatMap.mp h
  exact List.mem_flatMap.mpr ⟨a, List.mem_of_mem_take ha, hb⟩
theorem fm_snoc {α β : Type} {l : List α} {F : α → List β} {p : Nat} (d : α) (h : p < l.length) : (l.take (p + 1)).flatMap F = (l.take p).flatMap F ++ F (l.getD p d) := by
  rw [take_snoc l d h, List.flatMap_append]; simp
theorem fm_at {α β : Type} {l : List α} {F : α → List β} {p : Nat} (d : α) (h : p < l.length) {o : β} (ho : o ∈ F (l.getD p d)) : o ∈ l.flatMap F := by
  refine List.mem_flatMap.mpr ⟨l.getD p d, ?_, ho⟩
  rw [gD_lt h]; exact List.getElem_mem h
theorem rulAt_fr {A A1 : Nat → Nat → Int32} {r : Nat} {R : Rule} (h : rulAt A r R) (f : ∀ p, 6 ≤ p → p ≤ 11 → A1 p = A p) : rulAt A1 r R := by
  unfold rulAt at h ⊢
  rw [f 6 (by omega) (by omega), f 7 (by omega) (by omega), f 8 (by omega) (by omega), f 9 (by omega) (by omega), f 11 (by omega) (by omega)]; exact h
theorem mod_lt625 (s : Nat) : s % 625 < 625 := Nat.mod_lt _ (by omega)
section M16
variable {l : Launch} {J : Nat → Int64} {A : Nat → Nat → Int32} {B : Nat → Nat → Int64} {Q : Option Value → XW → Prop} {d : Nat} {I : Nat → Int32}
theorem s_joins (hd : 4 ≤ d) {x1 x2 x3 x4 : Int32} {r a b c i j c2 : Nat} {R : Rule} {o : Own} {Va Vb V : Nat → Vl} (hx1 : x1 = nI r) (hr : r < 30) (hx2 : x2 = nI a) (hx3 : x3 = nI b) (hx4 : x4 = nI c) (ha : a < 225) (hb : b < 225) (hc : c < 225) (hac : a ≠ c) (hbc : b ≠ c) (hR : okR R) (hRA : rulAt A r R) (h2 : R.2.2.1 = some c2)
    (hVa : cM A B a Va) (hVb : cM A B b Vb) (hV : cM A B c V)
    (hE : ∀ (A' : Nat → Nat → Int32) (B' : Nat → Nat → Int64), 61 ≤ (sL (apv V (jOps o R i j Va Vb))).length → fcM c A B A' B' → Q (some (.int 0)) (wM I J A' B'))
    (hO : ∀ (A' : Nat → Nat → Int32) (B' : Nat → Nat → Int64), cM A' B' c (apv V (jOps o R i j Va Vb)) → fcM c A B A' B' → Q (some (.int 1)) (wM I J A' B')) : xK l d 158 [.ref 0, .int x1, .int x2, .int x3, .int x4] (wM I J A B) Q := by
  obtain ⟨d, rfl⟩ : ∃ e, d = e + 1 := ⟨d - 1, by omega⟩
  subst hx1; subst hx2; subst hx3; subst hx4
  have hc2 := hR.2.2.1 c2 h2
  have hf16 := hR.2.1
  have hw16 := hR.1
  have la := hVa.1
  have lb := hVb.1
  generalize hG : (fun (x y : Nat) => if some (y / 625) = R.2.2.1 then pOp (o R.1 i j) R x y (Va x) (Vb y) else []) = G
  generalize hF : (fun (x : Nat) => if x / 625 = R.2.1 then (sL Vb).flatMap (G x) else []) = F
  have hJ : jOps o R i j Va Vb = (sL Va).flatMap F := by rw [← hF, ← hG]; rfl
  rw [hJ] at hE hO
  have inner : ∀ p, p < (sL Va).length → (sL Va).getD p 0 / 625 = R.2.1 → (∀ (A1 : Nat → Nat → Int32) (B1 : Nat → Nat → Int64), cM A1 B1 c (apv V (((sL Va).take (p + 1)).flatMap F)) → fcM c A B A1 B1 → xG l d 158 Q 3 [some (.ref 0), some (.int (nI r)), some (.int (nI a)), some (.int (nI b)), some (.int (nI c)), some (.int (nI p + 1)), none, none, none, none] [] (wM I J A1 B1) 0 0) → ∀ m q (A1 : Nat → Nat → Int32) (B1 : Nat → Nat → Int64), (sL Vb).length - q < m → q ≤ (sL Vb).length → cM A1 B1 c (apv V (((sL Va).take p).flatMap F ++ ((sL Vb).take q).flatMap (G ((sL Va).getD p 0)))) → fcM c A B A1 B1 → xG l d 158 Q 48 [some (.ref 0), some (.int (nI r)), some (.int (nI a)), some (.int (nI b)), some (.int (nI c)), some (.int (nI p)), some (.int (nI ((sL Va).getD p 0))), some (.int (nI q)), none, none] [] (wM I J A1 B1) 0 0 := by
    intro p hp hcat hnext m
    have hFx : F ((sL Va).getD p 0) = (sL Vb).flatMap (G ((sL Va).getD p 0)) := by rw [← hF]; show (if _ then _ else _) = _; rw [if_pos hcat]
    have hin := sL_in hp
    induction m with
    | zero => intro q A1 B1 hm; omega
    | succ m ih =>
      intro q A1 B1 hm hq hcm hfr
      have hVa1 := cM_fr hVa hfr hac
      have hVb1 := cM_fr hVb hfr hbc
      have hRA1 : rulAt A1 r R := rulAt_fr hRA (fun p h1 h2 => hfr.1 p (by omega) (by omega) (by omega))
      refine b_X11_joins_48 ⟨xin_n hb (by omega), if_le (a := (sL Vb).length) (by rw [cl_n (by omega)]; exact hVb1.2.1) rfl (by omega) (by omega) (fun z => ?_) (fun z => ?_)⟩
      · refine hnext A1 B1 ?_ hfr
        rw [fm_snoc 0 hp, hFx, ← List.take_of_length_le z]; exact hcm
      · have hy := sL_in z
        rw [show (64 : Int32) * nI b + nI q = nI (64 * b + q) from add_of (mul_of (a := 64) rfl rfl) rfl, cl_n (by omega), (hVb1.2.2 q z).1]
        have next : ∀ (A2 : Nat → Nat → Int32) (B2 : Nat → Nat → Int64), cM A2 B2 c (apv V (((sL Va).take p).flatMap F ++ ((sL Vb).take (q + 1)).flatMap (G ((sL Va).getD p 0)))) → fcM c A B A2 B2 → xG l d 158 Q 48 [some (.ref 0), some (.int (nI r)), some (.int (nI a)), some (.int (nI b)), some (.int (nI c)), some (.int (nI p)), some (.int (nI ((sL Va).getD p 0))), some (.int (nI q + 1)), none, none] [] (wM I J A2 B2) 0 0 := by
          intro A2 B2 k1 k2
          rw [nI_1]
          exact ih (q + 1) A2 B2 (by omega) (by omega) k1 k2
        have skip : G ((sL Va).getD p 0) ((sL Vb).getD q 0) = [] → ∀ (A2 : Nat → Nat → Int32), (∀ p, p ≠ 14 → A2 p = A1 p) → xG l d 158 Q 48 [some (.ref 0), some (.int (nI r)), some (.int (nI a)), some (.int (nI b)), some (.int (nI c)), some (.int (nI p)), some (.int (nI ((sL Va).getD p 0))), some (.int (nI q + 1)), none, none] [] (wM I J A2 B1) 0 0 := by
          intro hnil A2 h14
          refine next A2 B1 ?_ (fcM_trans hfr (fcM_14 h14))
          rw [fm_snoc 0 z, hnil, List.append_nil]; exact cM_14 hcm h14
        refine ⟨xin_n (by omega) (by omega), s_categoryOfM (by omega) rfl hy.1 (b_X11_joins_78 ⟨xin_n (by omega) (by omega), ?_⟩)⟩
        rw [cl_n (by omega), hRA1.2.2.1, h2]
        have e8 : nI ((sL Vb).getD q 0 / 625) = o2i (some c2) ↔ (sL Vb).getD q 0 / 625 = c2 := eq_n (by omega) (by omega)
        refine if_if e8 (fun e => ⟨by decide, by decide, ?_⟩) (fun e => skip ?_ A1 (fun _ _ => rfl))
        · rw [mod625 hin.1, mod625 hy.1]
          refine s_made (by omega) rfl hr rfl (mod_lt625 _) rfl (mod_lt625 _) hR hRA1 (fun A2 h14 => b_X11_joins_107 ?_)
          have hGxy : G ((sL Va).getD p 0) ((sL Vb).getD q 0) = pOp (o R.1 i j) R ((sL Va).getD p 0) ((sL Vb).getD q 0) (Va ((sL Va).getD p 0)) (Vb ((sL Vb).getD q 0)) := by
            rw [← hG]; show (if _ then _ else _) = _; rw [if_pos (by rw [e, h2])]
          cases hk : mkK R.2.2.2.1 ((sL Va).getD p 0 % 625) ((sL Vb).getD q 0 % 625) with
          | none =>
            rw [if_pos (show o2i none = -1 from rfl)]
            refine skip ?_ A2 h14
            rw [hGxy]; unfold pOp mkS; rw [hk]; rfl
          | some k =>
            have hk625 := mkK_lt (by split <;> omega) hR.2.2.2.2.1 hk
            have hVa2 := cM_14 hVa1 h14
            have hVb2 := cM_14 hVb1 h14
            have hRA2 : rulAt A2 r R := rulAt_fr hRA1 (fun p h1 h2 => h14 p (by omega))
            obtain ⟨va, hva⟩ := Option.isSome_iff_exists.mp hin.2
            obtain ⟨vb, hvb⟩ := Option.isSome_iff_exists.mp hy.2
            have hop : G ((sL Va).getD p 0) ((sL Vb).getD q 0) = [(625 * R.1 + k, (va.1 * vb.1, o R.1 i j + va.2 + vb.2))] := by
              rw [hGxy]; unfold pOp mkS; rw [hk, hva, hvb]; rfl
            have b1 := (hVa2.2.2 p hp).2
            have b2 := (hVb2.2.2 q z).2
            rw [hva] at b1; rw [hvb] at b2
            rw [show o2i (some k) = nI k from rfl]
            rw [if_neg (ne_m1 (by omega)), cl_n (by omega), hRA2.1, show (64 : Int32) * nI a + nI p = nI (64 * a + p) from add_of (mul_of (a := 64) rfl rfl) rfl, show (64 : Int32) * nI b + nI q = nI (64 * b + q) from add_of (mul_of (a := 64) rfl rfl) rfl, cl_n (by omega), cl_n (by omega), show (625 : Int32) * nI R.1 + nI k = nI (625 * R.1 + k) from add_of (mul_of (a := 625) rfl rfl) rfl]
            refine ⟨xin_n (by omega) (by omega), xin_n (by omega) (by omega), xin_n (by omega) (by omega), s_product (by omega) b1 b2 (b_X11_joins_158 ?_)⟩
            refine s_adds (cst := o R.1 i j + va.2 + vb.2) (by omega) rfl hc rfl (by omega) rfl (cM_14 hcm h14) (fun hn h60 => b_X11_joins_161 ?_) (fun A3 B3 k1 k2 => b_X11_joins_161 ?_)
            · rw [if_pos rfl]
              refine ⟨Or.inl rfl, hE A2 B1 ?_ (fcM_trans hfr (fcM_14 h14))⟩
              refine apv_61 (op := (625 * R.1 + k, (va.1 * vb.1, o R.1 i j + va.2 + vb.2))) h60 hn (by show 625 * R.1 + k < 10000; omega) (fun o ho => ?_) (fm_at 0 hp (by rw [hFx]; exact fm_at 0 z (by rw [hop]; exact List.mem_singleton.mpr rfl)))
              rcases List.mem_append.mp ho with w | w
              · exact fm_take w
              · exact fm_at 0 hp (by rw [hFx]; exact fm_take w)
            · rw [if_neg (by decide)]
              refine next A3 B3 ?_ (fcM_trans (fcM_trans hfr (fcM_14 h14)) k2)
              rw [fm_snoc 0 z, hop, ← List.append_assoc, ← apv_app]; exact k1
        · rw [← hG]; show (if _ then _ else _) = _; rw [if_neg]; rw [h2]; intro w; injection w with w; exact e w
  have outer : ∀ m p (A1 : Nat → Nat → Int32) (B1 : Nat → Nat → Int64), (sL Va).length - p < m → p ≤ (sL Va).length → cM A1 B1 c (apv V (((sL Va).take p).flatMap F)) → fcM c A B A1 B1 → xG l d 158 Q 3 [some (.ref 0), some (.int (nI r)), some (.int (nI a)), some (.int (nI b)), some (.int (nI c)), some (.int (nI p)), none, none, none, none] [] (wM I J A1 B1) 0 0 := by
    intro m
    induction m with
    | zero => intro p A1 B1 hm; omega
    | succ m ih =>
      intro p A1 B1 hm hp hcm hfr
      have hVa1 := cM_fr hVa hfr hac
      have hRA1 : rulAt A1 r R := rulAt_fr hRA (fun p h1 h2 => hfr.1 p (by omega) (by omega) (by omega))
      refine b_X11_joins_3 ⟨xin_n ha (by omega), if_le (a := (sL Va).length) (by rw [cl_n (by omega)]; exact hVa1.2.1) rfl (by omega) (by omega) (fun z => ⟨Or.inr rfl, hO A1 B1 ?_ hfr⟩) (fun z => ?_)⟩
      · rw [← List.take_of_length_le z]; exact hcm
      · have hin := sL_in z
        rw [show (64 : Int32) * nI a + nI p = nI (64 * a + p) from add_of (mul_of (a := 64) rfl rfl) rfl, cl_n (by omega), (hVa1.2.2 p z).1]
        have next : ∀ (A2 : Nat → Nat → Int32) (B2 : Nat → Nat → Int64), cM A2 B2 c (apv V (((sL Va).take (p + 1)).flatMap F)) → fcM c A B A2 B2 → xG l d 158 Q 3 [some (.ref 0), some (.int (nI r)), some (.int (nI a)), some (.int (nI b)), some (.int (nI c)), some (.int (nI p + 1)), none, none, none, none] [] (wM I J A2 B2) 0 0 := by
          intro A2 B2 k1 k2
          rw [nI_1]
          exact ih (p + 1) A2 B2 (by omega) (by omega) k1 k2
        refine ⟨xin_n (by omega) (by omega), s_categoryOfM (by omega) rfl hin.1 (b_X11_joins_33 ⟨xin_n (by omega) (by omega), ?_⟩)⟩
        rw [cl_n (by omega), hRA1.2.1]
        refine if_eq rfl rfl (by omega) (by omega) (fun e => ?_) (fun e => ?_)
        · exact inner p z e next _ 0 A1 B1 (Nat.lt_succ_self _) (by omega) (by simpa using hcm) hfr
        · refine next A1 B1 ?_ hfr
          rw [fm_snoc 0 z, show F ((sL Va).getD p 0) = [] by rw [← hF]; show (if _ then _ else _) = _; rw [if_neg e], List.append_nil]; exact hcm
  exact e_X11_joins (outer _ 0 A B (Nat.lt_succ_self _) (by omega) (by simpa [apv_nil] using hV) (fcM_refl c A B))
end M16
