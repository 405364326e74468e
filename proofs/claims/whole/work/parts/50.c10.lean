/-! ===== the class: the whole's digit, the tables of a feature ===== -/
def mkD (f : Nat) (o : Option Nat) : Int32 := match o with
  | none => -1
  | some v => nI (v * 8 ^ (3 - f))
theorem mkD_ok : ∀ f, f < 4 → ∀ v, v < 5 → (nI v) <<< ((9 - (3 * nI f)) &&& 31) = nI (v * 8 ^ (3 - f)) := by decide +kernel
theorem runF_cons (f : Nat) (q : Law) (ls : List Law) (D : Nat → Nat) : runF f (q :: ls) D = if q.2.1 = f then (match obD q D with
    | none => none
    | some D' => runF f ls D') else runF f ls D := rfl
section C10
variable {l : Launch} {J : Nat → Int64} {Q : Option Value → XW → Prop} {d : Nat} {tgt cg fg : Value} {I : Nat → Int32} {A : Nat → Nat → Int32} {B : Nat → Nat → Int64}
theorem lawX_of {A' : Nat → Nat → Int32} {laws : List Law} (h : lawX I A laws) (hA : ∀ p, p ≠ 13 → p ≠ 55 → A' p = A p) : lawX I A' laws := ⟨h.1, h.2.1, fun k hk => by
  have := h.2.2 k hk
  unfold lawAt at this ⊢
  rw [hA 9 (by decide) (by decide), hA 10 (by decide) (by decide), hA 11 (by decide) (by decide), hA 12 (by decide) (by decide)]; exact this⟩
theorem s_wholeDigit (hd : 2 ≤ d) {laws : List Law} {parts : Nat} (hl : lawX I A laws) (hp : parts ≤ 2) (hok : ∀ q ∈ laws, okLaw parts q) {x y z : Int32} {f a b : Nat} (hx : x = nI f) (hy : y = nI a) (hz : z = nI b) (hf : f ≤ 3) (ha : a ≤ 4) (hb : b ≤ 4)
    (hQ : ∀ (A' : Nat → Nat → Int32), (∀ p, p ≠ 13 → A' p = A p) → Q (some (.int (o2i (wDig f laws a b)))) (wC tgt cg fg I J A' B)) : xK l d 68 [.ref 8, .int x, .int y, .int z] (wC tgt cg fg I J A B) Q := by
  obtain ⟨d, rfl⟩ : ∃ e, d = e + 1 := ⟨d - 1, by omega⟩
  have z0 : (0 : Int32).toNatClampNeg = 0 := by decide
  have z1 : (1 : Int32).toNatClampNeg = 1 := by decide
  have z2 : (2 : Int32).toNatClampNeg = 2 := by decide
  have mem : ∀ k, k < laws.length → laws.getD k (true, 0, 0, 0) ∈ laws := fun k hk => by rw [gD_lt hk]; exact List.getElem_mem hk
  have loop : ∀ m k D (A1 : Nat → Nat → Int32), laws.length - k < m → k ≤ laws.length → digX A1 D → okD D → runF f (laws.drop k) D = runF f laws (dig3 a b) → (∀ p, p ≠ 13 → A1 p = A p) → xG l d 68 Q 24 [some (.ref 8), some (.int x), none, none, some (.int (nI k))] [] (wC tgt cg fg I J A1 B) 0 0 := by
    intro m
    induction m with
    | zero => intro k D A1 hm; exact absurd hm (by omega)
    | succ m ih =>
      intro k D A1 hm hk hD h4 hr hA
      have hl1 := lawX_of hl (A' := A1) (fun p hp _ => hA p hp)
      obtain ⟨h1, h2, h3⟩ := hl1
      refine b_X5_wholeDigit_24 (if_le h1 rfl (by omega) (by omega) (fun g => ⟨xin_of (a := 0) rfl (by omega) (by omega), ?_⟩) (fun g => ⟨xin_of rfl (by omega) (by omega), ?_⟩))
      · rw [z0, hD 0 (by omega)]
        have e : wDig f laws a b = some (D 0) := by
          unfold wDig; rw [← hr, List.drop_eq_nil_of_le g]; rfl
        have := hQ A1 hA
        rw [e] at this; exact this
      · rw [cl_of rfl (by omega)]
        have hm1 := mem k g
        have hq := hok _ hm1
        have hdrop : laws.drop k = laws.getD k (true, 0, 0, 0) :: laws.drop (k + 1) := by rw [gD_lt g]; exact List.drop_eq_getElem_cons g
        rw [hdrop, runF_cons] at hr
        refine if_eq (h3 k g).2.1 hx (by have := hq.1; omega) (by omega) (fun e => ?_) (fun e => ?_)
        · rw [if_pos e] at hr
          refine s_obeyed (by omega) rfl (by omega) (h3 k g) hp hq hD h4 (fun D' A2 ho hD2 hA2 => ?_) (fun ho => ?_)
          · refine b_X5_wholeDigit_50 ?_
            rw [if_neg (by decide), nI_1]
            rw [ho] at hr
            exact ih (k + 1) D' A2 (by omega) (by omega) hD2 (okD_ob hp hq h4 ho) hr (fun p hp => by rw [hA2 p hp]; exact hA p hp)
          · refine b_X5_wholeDigit_50 ?_
            rw [if_pos rfl]
            rw [ho] at hr
            have e : wDig f laws a b = none := by unfold wDig; rw [← hr]; rfl
            have := hQ A1 hA
            rw [e] at this; exact this
        · rw [if_neg e] at hr
          rw [nI_1]
          exact ih (k + 1) D A1 (by omega) (by omega) hD h4 hr hA
  refine e_X5_wholeDigit ⟨xin_of (a := 0) rfl (by omega) (by omega), xin_of (a := 1) rfl (by omega) (by omega), xin_of (a := 2) rfl (by omega) (by omega), ?_⟩
  rw [z0, z1, z2]
  refine loop (laws.length + 1) 0 (dig3 a b) _ (by omega) (Nat.zero_le _) (fun i hi => ?_) (okD_3 ha hb) rfl (fun p hp => un_v hp)
  rw [ue_v]
  unfold dig3
  by_cases e2 : i = 2
  · subst e2; rw [ue_i]; exact hz
  · rw [un_i e2]
    by_cases e1 : i = 1
    · subst e1; rw [ue_i]; exact hy
    · have e0 : i = 0 := by omega
      subst e0; rw [un_i e1, ue_i]; rfl
/-- the table of a feature at row R, up to the pair (a, b) -/
def tabF (A A1 : Nat → Nat → Int32) (f : Nat) (laws : List Law) (R sd a b : Nat) : Prop := (∀ a' b', a' < 5 → b' < 5 → A1 55 (R + 5 * a' + b') = if b' < sd ∧ (a' < a ∨ (a' = a ∧ b' < b)) then mkD f (wDig f laws a' b') else A 55 (R + 5 * a' + b')) ∧ (∀ i, (i < R ∨ R + 25 ≤ i) → A1 55 i = A 55 i) ∧ (∀ p, p ≠ 13 → p ≠ 55 → A1 p = A p)
theorem tabF_up {A1 A2 : Nat → Nat → Int32} {f R sd a b : Nat} {laws : List Law} (ha : a < 5) (hb : b < sd) (hs : sd ≤ 5) (h : tabF A A1 f laws R sd a b) (h2 : ∀ p, p ≠ 13 → A2 p = A1 p) {v : Int32} (hv : v = mkD f (wDig f laws a b)) : tabF A (va_up A2 55 (upd (A2 55) (R + 5 * a + b) v)) f laws R sd a (b + 1) := by
  refine ⟨fun a' b' ha' hb' => ?_, fun i hi => ?_, fun p hp hp2 => ?_⟩
  · rw [ue_v]
    by_cases e : a' = a ∧ b' = b
    · obtain ⟨rfl, rfl⟩ := e
      rw [ue_i, if_pos ⟨hb, Or.inr ⟨rfl, by omega⟩⟩]; exact hv
    · rw [un_i (by omega), h2 55 (by decide), h.1 a' b' ha' hb']
      by_cases c : b' < sd ∧ (a' < a ∨ (a' = a ∧ b' < b))
      · rw [if_pos c, if_pos (by omega)]
      · rw [if_neg c, if_neg (by omega)]
  · rw [ue_v, un_i (by omega), h2 55 (by decide)]; exact h.2.1 i hi
  · rw [un_v hp2, h2 p hp]; exact h.2.2 p hp hp2
theorem s_tabulateFeature (hd : 3 ≤ d) {laws : List Law} {parts : Nat} (hl : lawX I A laws) (hp : parts ≤ 2) (hok : ∀ q ∈ laws, okLaw parts q) {x y z : Int32} {R f sd : Nat} (hx : x = nI R) (hy : y = nI f) (hz : z = nI sd) (hR : R + 25 ≤ 3000) (hf : f ≤ 3) (hsd : 1 ≤ sd ∧ sd ≤ 5)
    (hQ : ∀ (A' : Nat → Nat → Int32), tabF A A' f laws R sd 5 0 → Q none (wC tgt cg fg I J A' B)) : xK l d 46 [.ref 48, .int x, .int y, .int z, .ref 8] (wC tgt cg fg I J A B) Q := by
  obtain ⟨d, rfl⟩ : ∃ e, d = e + 1 := ⟨d - 1, by omega⟩
  have inner : ∀ m a b (A1 : Nat → Nat → Int32), sd - b < m → a < 5 → b ≤ sd → tabF A A1 f laws R sd a b → (∀ (A2 : Nat → Nat → Int32), tabF A A2 f laws R sd (a + 1) 0 → xG l d 46 Q 3 [some (.ref 48), some (.int x), some (.int y), some (.int z), some (.ref 8), some (.int (nI (a + 1))), none, none] [] (wC tgt cg fg I J A2 B) 0 0) → xG l d 46 Q 12 [some (.ref 48), some (.int x), some (.int y), some (.int z), some (.ref 8), some (.int (nI a)), some (.int (nI b)), none] [] (wC tgt cg fg I J A1 B) 0 0 := by
    intro m
    induction m with
    | zero => intro a b A1 hm; exact absurd hm (by omega)
    | succ m ih =>
      intro a b A1 hm ha hb hT hnext
      refine b_X3_tabulateFeature_12 (if_le hz rfl (by omega) (by omega) (fun g => ?_) (fun g => ?_))
      · rw [nI_1]
        refine hnext A1 ⟨fun a' b' ha' hb' => ?_, hT.2.1, hT.2.2⟩
        rw [hT.1 a' b' ha' hb']
        by_cases c : b' < sd ∧ (a' < a ∨ (a' = a ∧ b' < b))
        · rw [if_pos c, if_pos (by omega)]
        · rw [if_neg c, if_neg (by omega)]
      · refine s_wholeDigit (by omega) (lawX_of hl hT.2.2) hp hok hy rfl rfl hf (by omega) (by omega) (fun A2 hA2 => ?_)
        have e1 : x + nI a * 5 + nI b = nI (R + 5 * a + b) := by
          rw [show nI a * 5 = nI (5 * a) from by rw [show (5 : Int32) = nI 5 from rfl, mul_of (x := nI a) rfl (y := nI 5) rfl, Nat.mul_comm], add_of hx rfl, add_of rfl rfl]
        cases hw : wDig f laws a b with
        | none =>
          refine b_X3_tabulateFeature_28 ?_
          rw [show o2i none = -1 from rfl, if_neg (by decide)]
          refine ⟨xin_of e1 (by omega) (by omega), ?_⟩
          rw [e1, cl_n (by omega), nI_1]
          exact ih a (b + 1) _ (by omega) ha (by omega) (tabF_up ha g hsd.2 hT hA2 (by rw [hw]; rfl)) hnext
        | some v =>
          have hv4 := wDig_4 hp hok (by omega : a ≤ 4) (by omega : b ≤ 4) hw
          refine b_X3_tabulateFeature_28 (if_le (a := 0) rfl (b := v) rfl (by omega) (by omega) (fun _ => ?_) (fun z => absurd z (by omega)))
          refine s_shiftOf (by omega) (b_X3_tabulateFeature_58 ⟨xin_of e1 (by omega) (by omega), ?_⟩)
          rw [e1, cl_n (by omega), nI_1]
          refine ih a (b + 1) _ (by omega) ha (by omega) (tabF_up ha g hsd.2 hT hA2 ?_) hnext
          rw [hw, hy]; exact mkD_ok f (by omega) v (by omega)
  have outer : ∀ m a (A1 : Nat → Nat → Int32), 5 - a < m → a ≤ 5 → tabF A A1 f laws R sd a 0 → xG l d 46 Q 3 [some (.ref 48), some (.int x), some (.int y), some (.int z), some (.ref 8), some (.int (nI a)), none, none] [] (wC tgt cg fg I J A1 B) 0 0 := by
    intro m
    induction m with
    | zero => intro a A1 hm; exact absurd hm (by omega)
    | succ m ih =>
      intro a A1 hm ha hT
      refine b_X3_tabulateFeature_3 (if_le (a := 5) rfl rfl (by omega) (by omega) (fun g => ?_) (fun g => ?_))
      · have e : a = 5 := by omega
        subst e; exact hQ A1 hT
      · exact inner (sd + 1) a 0 A1 (by omega) g (by omega) hT (fun A2 h2 => ih (a + 1) A2 (by omega) (by omega) h2)
  refine e_X3_tabulateFeature (outer 6 0 A (by omega) (by omega) ⟨fun a' b' _ _ => ?_, fun _ _ => rfl, fun _ _ _ => rfl⟩)
  rw [if_neg (by omega)]
end C10
