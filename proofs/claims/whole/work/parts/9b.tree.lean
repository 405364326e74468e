/-! ===== the reference: tree ===== -/
theorem cS_one (V : Nat → Vl) (c : Nat) : cS V c (fun _ => 1) = rtT c V := by
  unfold cS rtT smW sM
  refine congrArg List.sum (List.map_congr_left fun s _ => ?_)
  rw [Nat.mul_one]
def trB (S : St) (x : Int32) : Bool := decide (¬ x < 0) && (decide (¬ 999999 < x) && decide (x.toNatClampNeg < sat (trT S)))
def trPk (S : St) (k : Nat) : Option (Nat × Int × List Nd) := pkN S.g (oD []) S.ws 240 0 S.ws.length (rtC S.g) (fun _ => 1) k 0
def trN (S : St) (k : Nat) : List Nd := match trPk S k with
  | some p => p.2.2
  | none => []
def St.setNd (S : St) (nd : List Nd) : St := mkSt S.t S.n S.g S.ws S.D nd S.out S.ft
def stTr (S : St) (x : Int32) : St := if trB S x = true then S.setNd (trN S x.toNatClampNeg) else S
def anTr (S : St) (x : Int32) : Int32 := if trB S x = true then nI (trN S x.toNatClampNeg).length else -1
theorem nI_long {k : Nat} (h : k < 2147483648) : (nI k).toInt64 = lN k := by
  refine ln_of (by omega) ?_
  rw [Int32.toInt_toInt64, nI_toInt (by omega)]
theorem i32_nat {x : Int32} (h0 : ¬ x < 0) : x = nI x.toNatClampNeg ∧ x.toNatClampNeg < 2147483648 := by
  rw [Int32.lt_iff_toInt_lt, show (0 : Int32).toInt = 0 by decide] at h0
  have h1 := Int32.toInt_lt x
  have h2 : x.toNatClampNeg = x.toInt.toNat := rfl
  refine ⟨Int32.toInt_inj.mp ?_, by omega⟩
  rw [nI_toInt (by omega)]; omega
theorem okN_ndOk {ws : List (List Nat)} {dm : Nat} {p : Nd} (hdm : dm < 1000) (h : ndOk 0 ws.length 0 dm p) : okN ws p := by
  unfold ndOk at h; unfold okN; omega
theorem tr_pre {S : St} (hok : stOk S) (e : S.ws ≠ []) {k : Nat} (hk : k < sat (trT S)) : preN S.g (oD []) S.ws 240 0 S.ws.length (rtC S.g) (fun _ => 1) k := by
  have hl : 0 < S.ws.length := List.length_pos_iff.mpr e
  have h14 := hok.2.1
  have hrn : 0 < S.g.2.1.length := List.length_pos_iff.mpr (hok.2.2.2.1 e).1
  have hrt : rtC S.g < 16 := (hok.1.2.1 _ (getD_mem hrn dR)).1
  have := cnt_15 hok.1 hrt
  refine ⟨hl, hrt, by unfold rk; omega, fun _ => by show 1 ≤ 1000000000000000; omega, ?_⟩
  rw [cS_one]
  unfold trT at hk
  rw [if_neg e] at hk; exact hk
theorem tr_res {S : St} (hok : stOk S) (h40 : S.g.1.length ≤ 40) (h30 : S.g.2.1.length ≤ 30) (e : S.ws ≠ []) {k : Nat} (hk : k < sat (trT S)) : ∃ s n', trPk S k = some (s, ((n' : Nat) : Int), trN S k) ∧ (trN S k).length ≤ 432 ∧ ∀ p ∈ trN S k, okN S.ws p := by
  have hpre := tr_pre hok e hk
  have h14 := hok.2.1
  have h15 := cnt_15 hok.1 hpre.2.1
  obtain ⟨s, n', nds, h1, h2⟩ := pkN_res hok.1 h40 h30 0 hpre
  have h1' : trPk S k = some (s, ((n' : Nat) : Int), nds) := h1
  have e2 : trN S k = nds := by unfold trN; rw [h1']
  rw [e2]
  have q1 := h2.2.2.2.2.2.1
  have q2 := h2.2.2.2.2.2.2
  unfold rk at q1 q2
  exact ⟨s, n', h1', by omega, fun p hp => okN_ndOk (by omega) (q2 p hp)⟩
theorem stOk_nd {S : St} (h : stOk S) {nd : List Nd} (h1 : nd.length ≤ 432) (h2 : ∀ p ∈ nd, okN S.ws p) : stOk (S.setNd nd) := ⟨h.1, h.2.1, h.2.2.1, h.2.2.2.1, h.2.2.2.2.1, h.2.2.2.2.2.1, h1, h2, h.2.2.2.2.2.2.2.2⟩
section M26
variable {l : Launch} {J : Nat → Int64} {A : Nat → Nat → Int32} {B : Nat → Nat → Int64} {Q : Option Value → XW → Prop} {d : Nat} {I : Nat → Int32} {S : St}
theorem mInv_nd (h : mInv S I A B) {nd : List Nd} {I' : Nat → Int32} {A' : Nat → Nat → Int32} {B' : Nat → Nat → Int64} (h1 : nd.length ≤ 432) (h2 : ∀ p ∈ nd, okN S.ws p) (h39 : I' 39 = nI nd.length) (hnd : ndA A' 0 nd) (hI : ∀ i, i ≠ 39 → i ≠ 47 → i ≠ 0 → I' i = I i) (hA : ∀ p, p ≠ 14 → p ≠ 19 → (p < 21 ∨ 25 < p) → A' p = A p) (hB : ∀ p, p ≠ 26 → B' p = B p) : mInv (S.setNd nd) I' A' B' := by
  obtain ⟨k0, k1, k2, k3, k4, k5, k6, k7, k8, k9, k10, k11⟩ := h
  refine ⟨stOk_nd k0 h1 h2, ?_, (hI _ (by decide) (by decide) (by decide)).trans k2, gM_fr k3 (fun i a b => hI i (by omega) (by omega) (by omega)) (fun p a b c => hA p (by omega) (by omega) (by omega)) (fun p a b => hB p (by omega)), fun q => k4 (by rw [← hI 28 (by decide) (by decide) (by decide)]; exact q), (hI _ (by decide) (by decide) (by decide)).trans k5, fun k hk => ?_, mDr_fr k7 (hI _ (by decide) (by decide) (by decide)) (fun p a b => hA p (by omega) (by omega) (by omega)), fun e => chM_fr (k8 e) (hA _ (by decide) (by decide) (by omega)) (hA _ (by decide) (by decide) (by omega)) (hB _ (by decide)), ⟨h39, fun k hk => ?_⟩, ⟨(hI _ (by decide) (by decide) (by decide)).trans k10.1, fun k hk => by rw [hA 30 (by decide) (by decide) (by omega)]; exact k10.2 k hk⟩, (hI _ (by decide) (by decide) (by decide)).trans k11⟩
  · unfold tpM at k1 ⊢
    rw [hA 1 (by decide) (by decide) (by omega)]; exact k1
  · rw [hB 15 (by decide)]; exact k6 k hk
  · have := hnd k hk
    rw [Nat.zero_add] at this; exact this
theorem m_tree (hd : 500 ≤ d) {x : Int32} (h : mInv S I A B) (hQ : ∀ (I' : Nat → Int32) (J' : Nat → Int64) (A' : Nat → Nat → Int32) (B' : Nat → Nat → Int64), mInv (stTr S x) I' A' B' → Q (some (.int (anTr S x))) (wM I' J' A' B')) : xK l d 170 [.ref 0, .int x] (wM I J A B) Q := by
  obtain ⟨d, rfl⟩ : ∃ e, d = e + 1 := ⟨d - 1, by omega⟩
  have h0 := mInv_0 (I' := upd I 0 0) h (fun i hi => un_i hi)
  have no : ∀ I' J', trB S x = false → mInv S I' A B → Q (some (.int (-1))) (wM I' J' A B) := fun I' J' e hi => by
    have := hQ I' J' A B
    unfold stTr anTr at this
    rw [if_neg (by rw [e]; decide), if_neg (by rw [e]; decide)] at this
    exact this hi
  refine e_X11_tree ?_
  by_cases c1 : x < 0
  · rw [if_pos c1]
    exact no _ _ (by unfold trB; rw [decide_eq_false (not_not_intro c1)]; rfl) h0
  rw [if_neg c1]
  by_cases c2 : 999999 < x
  · rw [if_pos c2]
    exact no _ _ (by unfold trB; rw [decide_eq_false (p := ¬ 999999 < x) (not_not_intro c2), Bool.false_and, Bool.and_false]) h0
  rw [if_neg c2]
  obtain ⟨hxk, hk31⟩ := i32_nat c1
  have hst : Imp (trB S x = true) (stTr S x = S.setNd (trN S x.toNatClampNeg) ∧ anTr S x = nI (trN S x.toNatClampNeg).length) := fun e => by
    unfold stTr anTr; rw [if_pos e, if_pos e]; exact ⟨rfl, rfl⟩
  have hbb : trB S x = decide (x.toNatClampNeg < sat (trT S)) := by
    unfold trB; rw [decide_eq_true c1, decide_eq_true c2, Bool.true_and, Bool.true_and]
  generalize hkk : x.toNatClampNeg = k at hxk hk31 hst hbb
  have hsl := sat_le (trT S)
  refine m_trees (S := S) (by omega) h0 (fun I1 h1 => b_X11_tree_22 ?_)
  rw [hxk, nI_long (by omega)]
  refine if_if (lg_lt.trans (ln_lt (by omega) (by omega))) (fun c3 => ?_) (fun c3 => no _ _ (by rw [hbb]; exact decide_eq_false c3) h1)
  have hb1 : trB S x = true := by rw [hbb]; exact decide_eq_true c3
  clear no
  obtain ⟨hs1, hs2⟩ := hst hb1
  rw [hs1, hs2] at hQ
  have e : S.ws ≠ [] := fun q => by
    have : trT S = 0 := if_pos q
    rw [this] at c3
    exact absurd c3 (by show ¬ k < sat 0; have : sat 0 = 0 := rfl; omega)
  have h1' := h1
  obtain ⟨hok, ht, h2, hg, h28, h32, hws, hdr, hch, hnd, hout, hft⟩ := h1
  have hl : 0 < S.ws.length := List.length_pos_iff.mpr e
  have h14 := hok.2.1
  have hrn : 0 < S.g.2.1.length := List.length_pos_iff.mpr (hok.2.2.2.1 e).1
  have hrt : rtC S.g < 16 := (hok.1.2.1 _ (getD_mem hrn dR)).1
  have hpre := tr_pre hok e c3
  obtain ⟨s, n', hp1, hp2, hp3⟩ := tr_res hok hg.2.2.2.1.1 hg.2.2.2.2.1.1 e c3
  have hc0 := hch e 0 S.ws.length hl (Nat.le_refl _)
  rw [show 15 * 0 + S.ws.length = S.ws.length by omega] at hc0
  have l60 := hc0.1
  have ha6 : A 6 0 = nI (rtC S.g) := (hg.2.2.2.2.1.2 0 hrn).2.1
  have h15 := cnt_15 hok.1 hrt
  refine s_cell (i := 0) (j := S.ws.length) (by omega) rfl h32 (b_X11_tree_47 ?_)
  rw [show 15 * 0 + S.ws.length = S.ws.length by omega]
  have loop : ∀ m p (B1 : Nat → Nat → Int64), (sL (ch S.g (oD []) S.ws 0 S.ws.length)).length - p < m → p ≤ (sL (ch S.g (oD []) S.ws 0 S.ws.length)).length → (∀ q, q ≠ 26 → B1 q = B q) → (∀ q, q < p → (sL (ch S.g (oD []) S.ws 0 S.ws.length)).getD q 0 / 625 = rtC S.g → B1 26 q = lN 1) → xG l d 170 Q 50 [some (.ref 0), none, some (.int (nI S.ws.length)), some (.int (nI p))] [] (wM (upd I1 39 0) (va_up J 46 (lN k)) A B1) 0 0 := by
    intro m
    induction m with
    | zero => intro p B1 hm; omega
    | succ m ih =>
      intro p B1 hm hp hB hset
      refine b_X11_tree_50 ⟨xin_n (by omega) (by omega), if_le (a := (sL (ch S.g (oD []) S.ws 0 S.ws.length)).length) (by rw [cl_n (by omega)]; exact hc0.2.1) rfl (by omega) (by omega) (fun z => ⟨by decide, ?_⟩) (fun z => ?_)⟩
      · rw [show (0 : Int32).toNatClampNeg = 0 from rfl, ha6]
        have hsP : sP S.g (oD []) S.ws (upd I1 39 0) A B1 := by
          refine ⟨hok.1, (un_i (by decide)).trans hg.1, (un_i (by decide)).trans hg.2.1, ?_, hg.2.2.2.2.1, h14, fun q hq => ⟨ws_v hok hq, by rw [hB 15 (by decide)]; exact hws q hq⟩, chM_fr (hch e) rfl rfl (hB 20 (by decide))⟩
          have := hg.2.2.2.1
          unfold entsM entAt at this ⊢
          rw [hB 2 (by decide)]; exact this
        refine s_pick 240 d (by omega) _ (upd I1 39 0) (va_up J 46 (lN k)) A B1 0 (upd I1 39 0 32) (nI (rtC S.g)) 0 0 S.ws.length (rtC S.g) (fun _ => 1) k 0 0 s n' (trN S k) rfl ((un_i (by decide)).trans h32) rfl rfl (Nat.le_refl _) hpre hp1 (by unfold rk; omega) (by omega) hsP (fun q hq hc => ?_) (ue_v _ _ _) (ue_i _ _ _) (fun I3 J3 A3 B3 e39 e47 e46 hnd3 hf3 => b_X11_tree_116 ?_)
        · rw [Nat.mul_zero, Nat.zero_add]; exact hset q (by omega) hc
        · rw [e39, Nat.zero_add]
          refine hQ I3 J3 A3 B3 (mInv_nd h1' hp2 hp3 (by rw [e39, Nat.zero_add]) hnd3 (fun i a b _ => (hf3.2.2.2.2.1 i a b).trans (un_i a)) (fun p a _ b => hf3.1 p a b) (fun p a => (hf3.2.2.1 p a).trans (hB p a)))
      · have hin := sL_in z
        rw [show (64 : Int32) * nI S.ws.length + nI p = nI (64 * S.ws.length + p) from add_of (mul_of (a := 64) rfl rfl) rfl, cl_n (by omega), (hc0.2.2 p z).1]
        refine ⟨xin_n (by omega) (by omega), s_categoryOfM (by omega) rfl hin.1 (b_X11_tree_79 ⟨by decide, ?_⟩)⟩
        rw [show (0 : Int32).toNatClampNeg = 0 from rfl, ha6, cl_n (by omega), nI_1]
        refine if_eq rfl rfl (by omega) (by omega) (fun c => ⟨xin_n (by omega) (by omega), ih (p + 1) _ (by omega) (by omega) (fun q hq => by rw [un_v hq]; exact hB q hq) (fun q hq hc => ?_)⟩) (fun c => ⟨xin_n (by omega) (by omega), ih (p + 1) _ (by omega) (by omega) (fun q hq => by rw [un_v hq]; exact hB q hq) (fun q hq hc => ?_)⟩)
        · rw [ue_v]
          by_cases e2 : q = p
          · subst e2; rw [ue_l]; rfl
          · rw [un_l e2]; exact hset q (by omega) hc
        · rw [ue_v]
          by_cases e2 : q = p
          · subst e2; exact absurd hc c
          · rw [un_l e2]; exact hset q (by omega) hc
  exact loop _ 0 B (Nat.lt_succ_self _) (by omega) (fun _ _ => rfl) (fun q hq => by omega)
end M26
