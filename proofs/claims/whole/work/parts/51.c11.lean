/-! ===== the class: the tables of a rule, a rule ===== -/
/-- the tables of rule r in made -/
def tabR (A : Nat → Nat → Int32) (r : Nat) (laws : List Law) (sd : Nat) : Prop := ∀ f a b, f < 4 → a < 5 → b < sd → A 55 (100 * r + 25 * f + 5 * a + b) = mkD f (wDig f laws a b)
theorem runF_no {f : Nat} : ∀ {laws : List Law} {D : Nat → Nat}, (∀ q ∈ laws, q.2.1 ≠ f) → runF f laws D = some D
  | [], _, _ => rfl
  | q :: ls, D, h => by
    rw [runF_cons, if_neg (h q (List.mem_cons_self ..))]
    exact runF_no (fun x hx => h x (List.mem_cons_of_mem _ hx))
theorem mkD_no {f a b : Nat} {laws : List Law} (h : ∀ q ∈ laws, q.2.1 ≠ f) : mkD f (wDig f laws a b) = 0 := by
  unfold wDig; rw [runF_no h]
  show nI (0 * 8 ^ (3 - f)) = 0
  rw [Nat.zero_mul]; rfl
section C11
variable {l : Launch} {J : Nat → Int64} {Q : Option Value → XW → Prop} {d : Nat} {tgt cg fg : Value} {I : Nat → Int32} {A : Nat → Nat → Int32} {B : Nat → Nat → Int64}
theorem s_fill55 (hd : 2 ≤ d) {x y : Int32} {R e : Nat} {v : Int32} (hx : x = nI R) (hy : y = nI e) (hR : R ≤ e) (he : e ≤ 3000)
    (hQ : ∀ (A' : Nat → Nat → Int32), (∀ i, R ≤ i → i < e → A' 55 i = v) → (∀ i, (i < R ∨ e ≤ i) → A' 55 i = A 55 i) → (∀ p, p ≠ 55 → A' p = A p) → Q none (wC tgt cg fg I J A' B)) : xK l d 195 [.ref 55, .int x, .int y, .int v] (wC tgt cg fg I J A B) Q := by
  obtain ⟨d, rfl⟩ : ∃ e, d = e + 1 := ⟨d - 1, by omega⟩
  obtain ⟨d, rfl⟩ : ∃ e, d = e + 1 := ⟨d - 1, by omega⟩
  have loop : ∀ m k (A1 : Nat → Nat → Int32), e - k < m → R ≤ k → k ≤ e → (∀ i, R ≤ i → i < k → A1 55 i = v) → (∀ i, (i < R ∨ k ≤ i) → A1 55 i = A 55 i) → (∀ p, p ≠ 55 → A1 p = A p) → xG l (d + 1) 195 Q 10 [some (.ref 55), none, some (.int y), some (.int v), some (.int (nI k))] [] (wC tgt cg fg I J A1 B) 0 0 := by
    intro m
    induction m with
    | zero => intro k A1 hm; exact absurd hm (by omega)
    | succ m ih =>
      intro k A1 hm hk1 hk2 h1 h2 h3
      refine b_J7_fill_fda19_p55_10 (if_le hy rfl (by omega) (by omega) (fun g => ?_) (fun g => ⟨xin_of rfl (by omega) (by omega), ?_⟩))
      · exact hQ A1 (fun i a b => h1 i a (by omega)) (fun i hi => h2 i (by omega)) h3
      · rw [cl_n (by omega), nI_1]
        refine ih (k + 1) _ (by omega) (by omega) (by omega) (fun i a b => ?_) (fun i hi => ?_) (fun p hp => by rw [un_v hp]; exact h3 p hp)
        · rw [ue_v]
          by_cases z : i = k
          · subst z; rw [ue_i]
          · rw [un_i z]; exact h1 i a (by omega)
        · rw [ue_v, un_i (by omega)]; exact h2 i (by omega)
  refine e_J7_fill_fda19_p55 (e_J7_rangeCheck_23922 (if_le hx hy (by omega) (by omega) (fun _ => if_le (a := 0) rfl hx (by omega) (by omega) (fun _ => if_le hy (b := 3000) rfl (by omega) (by omega) (fun _ => ?_) (fun z => absurd z (by omega))) (fun z => absurd z (by omega))) (fun z => absurd z (by omega))))
  refine b_J7_fill_fda19_p55_7 ?_
  rw [hx]
  exact loop (e + 1) R A (by omega) (by omega) (by omega) (fun i a b => absurd a (by omega)) (fun _ _ => rfl) (fun _ _ => rfl)
theorem s_isSingle2 (hd : 1 ≤ d) {x : Int32} {r : Nat} {o : Option Nat} (hx : x = nI r) (hr : r < 30) (ho : A 53 r = o2i o) (h16 : ∀ c, o = some c → c < 16) (hQ : Q (some (.int (bI o.isNone))) (wC tgt cg fg I J A B)) : xK l d 40 [.ref 48, .int x] (wC tgt cg fg I J A B) Q := by
  obtain ⟨d, rfl⟩ : ∃ e, d = e + 1 := ⟨d - 1, by omega⟩
  refine e_X3_isSingle_g2 ⟨xin_of hx (by omega) (by omega), ?_⟩
  rw [cl_of hx (by omega), ho]
  cases o with
  | none => rw [show o2i none = -1 from rfl, if_neg (by decide)]; exact ⟨Or.inr rfl, hQ⟩
  | some c =>
    have := h16 c rfl
    exact if_le (a := 0) rfl (b := c) rfl (by omega) (by omega) (fun _ => ⟨Or.inl rfl, hQ⟩) (fun z => absurd z (by omega))
theorem s_tabulate (hd : 4 ≤ d) {laws : List Law} {parts : Nat} (hl : lawX I A laws) (hp : parts ≤ 2) (hok : ∀ q ∈ laws, okLaw parts q) {x : Int32} {r : Nat} {o : Option Nat} (hx : x = nI r) (hr : r < 30) (ho : A 53 r = o2i o) (h16 : ∀ c, o = some c → c < 16)
    (hQ : ∀ (A' : Nat → Nat → Int32), tabR A' r laws (if o = none then 1 else 5) → (∀ i, (i < 100 * r ∨ 100 * r + 100 ≤ i) → A' 55 i = A 55 i) → (∀ p, p ≠ 13 → p ≠ 55 → A' p = A p) → Q none (wC tgt cg fg I J A' B)) : xK l d 45 [.ref 48, .int x, .ref 8] (wC tgt cg fg I J A B) Q := by
  obtain ⟨d, rfl⟩ : ∃ e, d = e + 1 := ⟨d - 1, by omega⟩
  have hl8 := hl.2.1
  have run : ∀ sd, (1 ≤ sd ∧ sd ≤ 5) → (∀ (A' : Nat → Nat → Int32), tabR A' r laws sd → (∀ i, (i < 100 * r ∨ 100 * r + 100 ≤ i) → A' 55 i = A 55 i) → (∀ p, p ≠ 13 → p ≠ 55 → A' p = A p) → Q none (wC tgt cg fg I J A' B)) → xG l d 45 Q 17 [some (.ref 48), some (.int x), some (.ref 8), some (.int (nI sd)), some (.int (nI 0)), none] [] (wC tgt cg fg I J A B) 0 0 := by
    intro sd hsd hQ
    have loop : ∀ m f (A1 : Nat → Nat → Int32), 4 - f < m → f ≤ 4 → (∀ f' a b, f' < f → a < 5 → b < sd → A1 55 (100 * r + 25 * f' + 5 * a + b) = mkD f' (wDig f' laws a b)) → (∀ i, (i < 100 * r ∨ 100 * r + 100 ≤ i) → A1 55 i = A 55 i) → (∀ p, p ≠ 13 → p ≠ 55 → A1 p = A p) → xG l d 45 Q 17 [some (.ref 48), some (.int x), some (.ref 8), some (.int (nI sd)), some (.int (nI f)), none] [] (wC tgt cg fg I J A1 B) 0 0 := by
      intro m
      induction m with
      | zero => intro f A1 hm; exact absurd hm (by omega)
      | succ m ih =>
        intro f A1 hm hf h1 h2 h3
        refine b_X3_tabulate_17 (if_le (a := 4) rfl rfl (by omega) (by omega) (fun g => hQ A1 (fun f' a b hf' ha hb => h1 f' a b (by omega) ha hb) h2 h3) (fun g => ?_))
        have e1 : x * 100 + nI f * 25 = nI (100 * r + 25 * f) := by
          rw [show x * 100 = nI (100 * r) from by rw [show (100 : Int32) = nI 100 from rfl, mul_of hx (y := nI 100) rfl, Nat.mul_comm], show nI f * 25 = nI (25 * f) from by rw [show (25 : Int32) = nI 25 from rfl, mul_of (x := nI f) rfl (y := nI 25) rfl, Nat.mul_comm], add_of rfl rfl]
        have e2 : x * 100 + nI f * 25 + 25 = nI (100 * r + 25 * f + 25) := by rw [e1]; exact add_of rfl rfl
        refine s_fill55 (by omega) e1 e2 (by omega) (by omega) (fun A2 a1 a2 a3 => b_X3_tabulate_50 ?_)
        have hA2 : ∀ p, p ≠ 13 → p ≠ 55 → A2 p = A p := fun p hp hp2 => by rw [a3 p hp2]; exact h3 p hp hp2
        refine s_areAbout (by omega) (lawX_of hl hA2) (fun q hq => (hok q hq).1) rfl (by omega) (fun _ => ?_) (fun hno => ?_)
        · refine b_X3_tabulate_56 ?_
          rw [if_neg (by decide)]
          refine s_tabulateFeature (by omega) (lawX_of hl hA2) hp hok e1 rfl rfl (by omega) (by omega) hsd (fun A3 hT => b_X3_tabulate_69 ?_)
          rw [nI_1]
          refine ih (f + 1) A3 (by omega) (by omega) (fun f' a b hf' ha hb => ?_) (fun i hi => ?_) (fun p hp hp2 => by rw [hT.2.2 p hp hp2]; exact hA2 p hp hp2)
          · by_cases e : f' = f
            · subst e
              rw [hT.1 a b ha (by omega), if_pos ⟨hb, Or.inl ha⟩]
            · rw [hT.2.1 _ (by omega), a2 _ (by omega)]; exact h1 f' a b (by omega) ha hb
          · rw [hT.2.1 i (by omega), a2 i (by omega)]; exact h2 i hi
        · refine b_X3_tabulate_56 ?_
          rw [if_pos rfl]
          refine b_X3_tabulate_69 ?_
          rw [nI_1]
          refine ih (f + 1) A2 (by omega) (by omega) (fun f' a b hf' ha hb => ?_) (fun i hi => ?_) hA2
          · by_cases e : f' = f
            · subst e; rw [a1 _ (by omega) (by omega), mkD_no hno]
            · rw [a2 _ (by omega)]; exact h1 f' a b (by omega) ha hb
          · rw [a2 i (by omega)]; exact h2 i hi
    exact loop 5 0 A (by omega) (by omega) (fun f' a b hf' => absurd hf' (by omega)) (fun _ _ => rfl) (fun _ _ _ => rfl)
  refine e_X3_tabulate (s_isSingle2 (by omega) hx hr ho h16 (b_X3_tabulate_5 ?_))
  cases o with
  | none =>
    rw [if_neg (by decide)]
    exact run 1 (by omega) hQ
  | some c =>
    rw [if_pos (show bI (some c).isNone = 0 from rfl)]
    exact run 5 (by omega) hQ
end C11
