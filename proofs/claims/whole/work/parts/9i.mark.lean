/-! ===== the reference: mark ===== -/
theorem lcF_mn (c : Nat) (V : Nat → Vl) (L : List Nat) : lcF c V L = mnF (fun s => s / 625 = c) (fun s => dc (V s)) L 1000000 := by
  unfold lcF mnF
  have : (fun (b : Int) (s : Nat) => if s / 625 = c then min b (dc (V s)) else b) = (fun t y => if y / 625 = c then eitG true t (dc (V y)) else t) := by funext b s; rw [eitC]
  rw [this]
theorem lc_isL {c : Nat} {V : Nat → Vl} (hs : ∀ s, (V s).isSome = true → s < 10000) (h : lcT c V ≠ 1000000) : isLC V c (fun _ => 0) (lcT c V) := by
  unfold lcT at h ⊢
  rw [lcF_mn] at h ⊢
  generalize hF : mnF (fun s => s / 625 = c) (fun s => dc (V s)) (sL V) 1000000 = F at h ⊢
  refine ⟨fun s h1 h2 => ?_, ?_⟩
  · have := mnF_el (fun s => s / 625 = c) (fun s => dc (V s)) (sL V) 1000000 (sL_mem.mpr ⟨hs s h1, h1⟩) h2
    rw [hF, dc_cy h1] at this
    show F ≤ cy (V s) + 0
    omega
  · rcases mnF_at (fun s => s / 625 = c) (fun s => dc (V s)) (sL V) 1000000 with z | ⟨x, hx, hqx, z⟩
    · rw [hF] at z; exact absurd z h
    · rw [hF] at z
      have hxm := sL_mem.mp hx
      have z' : F = dc (V x) := z
      rw [dc_cy hxm.2] at z'
      exact ⟨x, hxm.2, hqx, by show (0 : Int) < 1000000; omega, by show cy (V x) + 0 = F; omega⟩
def mkPk (S : St) : Option (Nat × Int × List Nd) := pkC S.g (oD S.D) S.ws 240 0 S.ws.length (rtC S.g) (fun _ => 0) 0 0
def mkN (S : St) : List Nd := match mkPk S with
  | some p => p.2.2
  | none => []
def mkB (S : St) : Bool := decide (¬ lcS S = 1000000)
def stMk (S : St) : St := if mkB S = true then S.setNd (mkN S) else S
def anMk (S : St) : Int32 := if mkB S = true then nI (mkN S).length else -1
theorem mk_ne {S : St} (h : mkB S = true) : S.ws ≠ [] ∧ lcS S = lcT (rtC S.g) (ch S.g (oD S.D) S.ws 0 S.ws.length) ∧ lcS S ≠ 1000000 := by
  have h := of_decide_eq_true h
  have e : S.ws ≠ [] := fun q => h (by unfold lcS; rw [if_pos q])
  exact ⟨e, by unfold lcS; rw [if_neg e], h⟩
theorem mk_pre {S : St} (hok : stOk S) (hb : mkB S = true) : preC S.g (oD S.D) S.ws 240 0 S.ws.length (rtC S.g) (fun _ => 0) (lcS S) := by
  obtain ⟨e, h1, h2⟩ := mk_ne hb
  have hl : 0 < S.ws.length := List.length_pos_iff.mpr e
  have h14 := hok.2.1
  have hrn : 0 < S.g.2.1.length := List.length_pos_iff.mpr (hok.2.2.2.1 e).1
  have hrt : rtC S.g < 16 := (hok.1.2.1 _ (getD_mem hrn dR)).1
  have := cnt_15 hok.1 hrt
  refine ⟨hl, h14, hrt, by unfold rk; omega, ⟨0, by omega, fun _ => Or.inr ⟨by show (-0 : Int) ≤ 0; omega, by show (0 : Int) ≤ 0; omega⟩, by omega⟩, ?_⟩
  rw [h1] at h2 ⊢
  exact lc_isL (fun s hs => (ch_sup hok.1 (oD S.D) S.ws hl hs).2) h2
theorem mk_res {S : St} (hok : stOk S) (h40 : S.g.1.length ≤ 40) (h30 : S.g.2.1.length ≤ 30) (hb : mkB S = true) : ∃ s, mkPk S = some (s, 0, mkN S) ∧ (mkN S).length ≤ 432 ∧ ∀ p ∈ mkN S, okN S.ws p := by
  have hpre := mk_pre hok hb
  have h14 := hok.2.1
  have h15 := cnt_15 hok.1 hpre.2.2.1
  obtain ⟨s, nds, h1, h2⟩ := pkC_ok hok.1 h40 h30 (oD_B S.D) S.ws 240 _ _ _ _ _ 0 0 hpre
  have h1' : mkPk S = some (s, 0, nds) := h1
  have e2 : mkN S = nds := by unfold mkN; rw [h1']
  rw [e2]
  have q1 := h2.2.2.2.2.2.1
  have q2 := h2.2.2.2.2.2.2
  unfold rk at q1 q2
  exact ⟨s, h1', by omega, fun p hp => okN_ndOk (by omega) (q2 p hp)⟩
section M31
variable {l : Launch} {J : Nat → Int64} {A : Nat → Nat → Int32} {B : Nat → Nat → Int64} {Q : Option Value → XW → Prop} {d : Nat} {I : Nat → Int32} {S : St}
theorem m_mark (hd : 500 ≤ d) (h : mInv S I A B) (hQ : ∀ (I' : Nat → Int32) (J' : Nat → Int64) (A' : Nat → Nat → Int32) (B' : Nat → Nat → Int64), mInv (stMk S) I' A' B' → Q (some (.int (anMk S))) (wM I' J' A' B')) : xK l d 185 [.ref 0] (wM I J A B) Q := by
  obtain ⟨d, rfl⟩ : ∃ e, d = e + 1 := ⟨d - 1, by omega⟩
  have hlb := lcS_b h.1
  refine e_X11_mark (s_leastCost (S := S) (by omega) (mInv_0 h (fun i hi => un_i hi)) (fun A1 hi hkn => b_X11_mark_9 ?_))
  generalize upd I 0 0 = I1 at hi
  refine if_if (show iC (lcS S) = 1000000 ↔ lcS S = 1000000 from iC_eq (b := 1000000) (by omega) (by omega) (by omega) (by omega)) (fun e => ?_) (fun e => ?_)
  · have := hQ I1 J A1 B
    have hb : mkB S = false := decide_eq_false (not_not_intro e)
    unfold stMk anMk at this
    rw [if_neg (by rw [hb]; decide), if_neg (by rw [hb]; decide)] at this
    exact this hi
  have hb : mkB S = true := decide_eq_true e
  have hst : stMk S = S.setNd (mkN S) := by unfold stMk; rw [if_pos hb]
  have han : anMk S = nI (mkN S).length := by unfold anMk; rw [if_pos hb]
  rw [hst, han] at hQ
  obtain ⟨hne, hlc, _⟩ := mk_ne hb
  have h1' := hi
  obtain ⟨hok, ht, h2, hg, h28, h32, hws, hdr, hch, hnd, hout, hft⟩ := hi
  have hl : 0 < S.ws.length := List.length_pos_iff.mpr hne
  have h14 := hok.2.1
  have hrn : 0 < S.g.2.1.length := List.length_pos_iff.mpr (hok.2.2.2.1 hne).1
  have hrt : rtC S.g < 16 := (hok.1.2.1 _ (getD_mem hrn dR)).1
  have hpre := mk_pre hok hb
  obtain ⟨s, hp1, hp2, hp3⟩ := mk_res hok hg.2.2.2.1.1 hg.2.2.2.2.1.1 hb
  have hchD : chM A1 B S.g (oD S.D) S.ws := chM_o (hch hne)
  have hc0 := hchD 0 S.ws.length hl (Nat.le_refl _)
  have hk0 := hkn 0 S.ws.length hl (Nat.le_refl _)
  rw [show 15 * 0 + S.ws.length = S.ws.length by omega] at hc0 hk0
  have hb0 := cB_ch hok.1 (oD_B S.D) S.ws hl h14
  have l60 := hc0.1
  have ha6 : A1 6 0 = nI (rtC S.g) := (hg.2.2.2.2.1.2 0 hrn).2.1
  have h15 := cnt_15 hok.1 hrt
  refine s_cell (i := 0) (j := S.ws.length) (by omega) rfl h32 (b_X11_mark_32 ?_)
  rw [show 15 * 0 + S.ws.length = S.ws.length by omega]
  have hchne := hch hne
  clear hch h28 hlc
  have loop : ∀ m p (B1 : Nat → Nat → Int64), (sL (ch S.g (oD S.D) S.ws 0 S.ws.length)).length - p < m → p ≤ (sL (ch S.g (oD S.D) S.ws 0 S.ws.length)).length → (∀ q, q ≠ 26 → B1 q = B q) → (∀ q, q < p → (sL (ch S.g (oD S.D) S.ws 0 S.ws.length)).getD q 0 / 625 = rtC S.g → B1 26 q = (if cy (ch S.g (oD S.D) S.ws 0 S.ws.length ((sL (ch S.g (oD S.D) S.ws 0 S.ws.length)).getD q 0)) + 0 = lcS S then 1 else 0)) → xG l d 185 Q 35 [some (.ref 0), some (.int (iC (lcS S))), some (.int (nI S.ws.length)), some (.int (nI p))] [] (wM (upd I1 39 0) J A1 B1) 0 0 := by
    intro m
    induction m with
    | zero => intro p B1 hm; omega
    | succ m ih =>
      intro p B1 hm hp hB hset
      refine b_X11_mark_35 ⟨xin_n (by omega) (by omega), if_le (a := (sL (ch S.g (oD S.D) S.ws 0 S.ws.length)).length) (by rw [cl_n (by omega)]; exact hc0.2.1) rfl (by omega) (by omega) (fun z => ⟨by decide, ?_⟩) (fun z => ?_)⟩
      · rw [show (0 : Int32).toNatClampNeg = 0 from rfl, ha6]
        have hsP : sP S.g (oD S.D) S.ws (upd I1 39 0) A1 B1 := by
          refine ⟨hok.1, (un_i (by decide)).trans hg.1, (un_i (by decide)).trans hg.2.1, ?_, hg.2.2.2.2.1, h14, fun q hq => ⟨ws_v hok hq, by rw [hB 15 (by decide)]; exact hws q hq⟩, chM_fr hchD rfl rfl (hB 20 (by decide))⟩
          have := hg.2.2.2.1
          unfold entsM entAt at this ⊢
          rw [hB 2 (by decide)]; exact this
        have hsC : sC S.g S.D S.ws (upd I1 39 0) A1 B1 := ⟨hsP, hkn, mDr_fr hdr (un_i (by decide)) (fun _ _ _ => rfl), hok.2.2.2.2.1, fun p hp => by have := hok.2.2.2.2.2.1 p hp; unfold okD3 at this; omega⟩
        refine s_first 240 d (by omega) _ (upd I1 39 0) J A1 B1 0 (upd I1 39 0 32) (nI (rtC S.g)) 0 0 S.ws.length (rtC S.g) (fun _ => 0) (lcS S) 0 0 s (mkN S) rfl ((un_i (by decide)).trans h32) rfl rfl (Nat.le_refl _) hpre hp1 (by unfold rk; omega) (by omega) hsC (fun q hq hc => ?_) (ue_i _ _ _) (fun I3 A3 B3 e39 e47 hnd3 hf3 => b_X11_mark_116 ?_)
        · rw [Nat.mul_zero, Nat.zero_add]; exact hset q (by omega) hc
        · rw [e39, Nat.zero_add]
          refine hQ I3 J A3 B3 (mInv_nd h1' hp2 hp3 (by rw [e39, Nat.zero_add]) hnd3 (fun i a b _ => (hf3.2.2.2.2.1 i a b).trans (un_i a)) (fun p a _ b => hf3.1 p a b) (fun p a => (hf3.2.2.1 p a).trans (hB p a)))
      · have hin := sL_in z
        have hkp := hk0 p z
        rw [dc_cy hin.2] at hkp
        have hbp := hb0 ((sL (ch S.g (oD S.D) S.ws 0 S.ws.length)).getD p 0)
        rw [show (64 : Int32) * nI S.ws.length + nI p = nI (64 * S.ws.length + p) from add_of (mul_of (a := 64) rfl rfl) rfl, cl_n (by omega), (hc0.2.2 p z).1]
        refine ⟨xin_n (by omega) (by omega), s_categoryOfM (by omega) rfl hin.1 (b_X11_mark_64 ⟨by decide, ?_⟩)⟩
        rw [show (0 : Int32).toNatClampNeg = 0 from rfl, ha6, show (64 : Int32) * nI S.ws.length + nI p = nI (64 * S.ws.length + p) from add_of (mul_of (a := 64) rfl rfl) rfl, cl_n (a := 64 * S.ws.length + p) (by omega), cl_n (a := p) (by omega), nI_1, hkp]
        have put : ∀ v : Int64, ((sL (ch S.g (oD S.D) S.ws 0 S.ws.length)).getD p 0 / 625 = rtC S.g → v = (if cy (ch S.g (oD S.D) S.ws 0 S.ws.length ((sL (ch S.g (oD S.D) S.ws 0 S.ws.length)).getD p 0)) + 0 = lcS S then 1 else 0)) → xG l d 185 Q 35 [some (.ref 0), some (.int (iC (lcS S))), some (.int (nI S.ws.length)), some (.int (nI (p + 1)))] [] (wM (upd I1 39 0) J A1 (va_up B1 26 (vp_updL (B1 26) p v))) 0 0 := fun v hv => by
          refine ih (p + 1) _ (by omega) (by omega) (fun q hq => by rw [un_v hq]; exact hB q hq) (fun q hq hc => ?_)
          rw [ue_v]
          by_cases e2 : q = p
          · subst e2; rw [ue_l]; exact hv hc
          · rw [un_l e2]; exact hset q (by omega) hc
        generalize (sL (ch S.g (oD S.D) S.ws 0 S.ws.length)).getD p 0 = x at hin hkp hbp put ⊢
        refine if_eq rfl rfl (by omega) (by omega) (fun c => ⟨xin_n (by omega) (by omega), if_if (iC_eq (by omega) (by omega) (by omega) (by omega)) (fun q => ⟨xin_n (by omega) (by omega), put 1 (fun _ => ?_)⟩) (fun q => ⟨xin_n (by omega) (by omega), put 0 (fun _ => ?_)⟩)⟩) (fun c => ⟨xin_n (by omega) (by omega), put 0 (fun q => absurd q c)⟩)
        · rw [if_pos (by omega)]
        · rw [if_neg (by omega)]
  exact loop _ 0 B (Nat.lt_succ_self _) (by omega) (fun _ _ => rfl) (fun q hq => by omega)
end M31
