/-! ===== the reference: close ===== -/
section M9
variable {l : Launch} {I : Nat → Int32} {J : Nat → Int64} {A : Nat → Nat → Int32} {B : Nat → Nat → Int64} {Q : Option Value → XW → Prop} {d : Nat}
set_option maxHeartbeats 2000000 in
theorem s_close (hd : 1 ≤ d) {rs : List Rule} (hr : rulsM A 30 rs) (h26 : I 26 = nI rs.length)
    (hQ : ∀ L : Nat → Int32, (∀ a b, a < 16 → b < 16 → L (16 * a + b) = bI (clos rs a b)) → Q none (wM I J (va_up A 12 L) B)) : xK l d 145 [.ref 0] (wM I J A B) Q := by
  obtain ⟨d, rfl⟩ : ∃ e, d = e + 1 := ⟨d - 1, by omega⟩
  have hr30 := hr.1
  -- the closure's loops
  have loopB : ∀ c a, c < 16 → a < 16 → ∀ f : Nat → Nat → Bool, (∀ L : Nat → Int32, (∀ x y, x < 16 → y < 16 → L (16 * x + y) = bI (clS c a f x y)) → xG l d 145 Q 84 [some (.ref 0), some (.int (nI c)), some (.int (nI (a + 1))), none] [] (wM I J (va_up A 12 L) B) 0 0) →
      ∀ m b (L : Nat → Int32), 16 - b = m → b ≤ 16 → (∀ x y, x < 16 → y < 16 → L (16 * x + y) = bI (if x = a ∧ y < b then clS c a f x y else f x y)) → xG l d 145 Q 92 [some (.ref 0), some (.int (nI c)), some (.int (nI a)), some (.int (nI b))] [] (wM I J (va_up A 12 L) B) 0 0 := by
    intro c a hc ha f hnext m
    induction m with
    | zero =>
      intro b L hm hb hL
      refine b_X11_close_92 (if_le (a := 16) rfl rfl (by omega) (by omega) (fun _ => ?_) (fun h => absurd h (by omega)))
      rw [nI_1]
      refine hnext L (fun x y hx hy => ?_)
      rw [hL x y hx hy]
      by_cases e : x = a
      · rw [if_pos ⟨e, by omega⟩]
      · rw [if_neg (fun z => e z.1)]; unfold clS; rw [if_neg e]
    | succ m ih =>
      intro b L hm hb hL
      have e1 : (16 : Int32) * nI a + nI c = nI (16 * a + c) := add_of (mul_of rfl rfl) rfl
      have e2 : (16 : Int32) * nI c + nI b = nI (16 * c + b) := add_of (mul_of rfl rfl) rfl
      have e3 : (16 : Int32) * nI a + nI b = nI (16 * a + b) := add_of (mul_of rfl rfl) rfl
      have v1 : (va_up A 12 L) 12 ((16 : Int32) * nI a + nI c).toNatClampNeg = bI (f a c) := by
        rw [e1, cl_n (by omega), ue_v, hL a c ha hc]
        by_cases e : c < b
        · rw [if_pos ⟨rfl, e⟩]; unfold clS; rw [if_pos rfl]; cases f a c <;> simp
        · rw [if_neg (fun z => e z.2)]
      have v2 : (va_up A 12 L) 12 ((16 : Int32) * nI c + nI b).toNatClampNeg = bI (f c b) := by
        rw [e2, cl_n (by omega), ue_v, hL c b hc (by omega), if_neg (fun z => by omega)]
      have nb : nI b + 1 = nI (b + 1) := nI_1 b
      have stay : clS c a f a b = f a b → xG l d 145 Q 92 [some (.ref 0), some (.int (nI c)), some (.int (nI a)), some (.int (nI b + 1))] [] (wM I J (va_up A 12 L) B) 0 0 := fun hs => by
        rw [nb]
        refine ih (b + 1) L (by omega) (by omega) (fun x y hx hy => ?_)
        rw [hL x y hx hy]
        by_cases e : x = a ∧ y = b
        · rw [e.1, e.2, if_neg (fun z => by omega), if_pos ⟨rfl, by omega⟩, hs]
        · by_cases e4 : x = a ∧ y < b
          · rw [if_pos e4, if_pos ⟨e4.1, by omega⟩]
          · rw [if_neg e4, if_neg (fun z => e4 ⟨z.1, by have : y ≠ b := fun q => e ⟨z.1, q⟩; omega⟩)]
      refine b_X11_close_92 (if_le (a := 16) rfl rfl (by omega) (by omega) (fun h => absurd h (by omega)) (fun _ => ⟨xin_of e1 (by omega) (by omega), ?_⟩))
      refine if_bI v1 (fun h1 => stay (by unfold clS; rw [if_pos rfl, h1]; simp)) (fun h1 => ⟨xin_of e2 (by omega) (by omega), ?_⟩)
      refine if_bI v2 (fun h2 => stay (by unfold clS; rw [if_pos rfl, h2]; simp)) (fun h2 => ⟨xin_of e3 (by omega) (by omega), ?_⟩)
      rw [uu_v, ue_v, nar1, e3, cl_n (by omega), nb]
      refine ih (b + 1) _ (by omega) (by omega) (fun x y hx hy => ?_)
      by_cases e : x = a ∧ y = b
      · rw [e.1, e.2, ue_i, if_pos ⟨rfl, by omega⟩]
        unfold clS; rw [if_pos rfl, h1, h2]; simp [bI]
      · rw [un_i (by omega), hL x y hx hy]
        by_cases e4 : x = a ∧ y < b
        · rw [if_pos e4, if_pos ⟨e4.1, by omega⟩]
        · rw [if_neg e4, if_neg (fun z => e4 ⟨z.1, by have : y ≠ b := fun q => e ⟨z.1, q⟩; omega⟩)]
  have loopA : ∀ c, c < 16 → ∀ f : Nat → Nat → Bool, (∀ L : Nat → Int32, (∀ x y, x < 16 → y < 16 → L (16 * x + y) = bI (clA c 16 f x y)) → xG l d 145 Q 76 [some (.ref 0), some (.int (nI (c + 1))), none, none] [] (wM I J (va_up A 12 L) B) 0 0) →
      ∀ m a (L : Nat → Int32), 16 - a = m → a ≤ 16 → (∀ x y, x < 16 → y < 16 → L (16 * x + y) = bI (clA c a f x y)) → xG l d 145 Q 84 [some (.ref 0), some (.int (nI c)), some (.int (nI a)), none] [] (wM I J (va_up A 12 L) B) 0 0 := by
    intro c hc f hnext m
    induction m with
    | zero =>
      intro a L hm ha hL
      have ea : a = 16 := by omega
      refine b_X11_close_84 (if_le (a := 16) rfl rfl (by omega) (by omega) (fun _ => ?_) (fun h => absurd h (by omega)))
      rw [nI_1]
      exact hnext L (fun x y hx hy => by rw [hL x y hx hy, ea])
    | succ m ih =>
      intro a L hm ha hL
      refine b_X11_close_84 (if_le (a := 16) rfl rfl (by omega) (by omega) (fun h => absurd h (by omega)) (fun _ => ?_))
      exact loopB c a hc (by omega) (clA c a f) (fun L2 hL2 => ih (a + 1) L2 (by omega) (by omega) hL2) 16 0 L rfl (by omega) (fun x y hx hy => by rw [hL x y hx hy, if_neg (fun z => by omega)])
  have loopC : ∀ m c (L : Nat → Int32), 16 - c = m → c ≤ 16 → (∀ x y, x < 16 → y < 16 → L (16 * x + y) = bI (clC c (cl0 rs) x y)) → xG l d 145 Q 76 [some (.ref 0), some (.int (nI c)), none, none] [] (wM I J (va_up A 12 L) B) 0 0 := by
    intro m
    induction m with
    | zero =>
      intro c L hm hc hL
      have ec : c = 16 := by omega
      refine b_X11_close_76 (if_le (a := 16) rfl rfl (by omega) (by omega) (fun _ => ?_) (fun h => absurd h (by omega)))
      exact hQ L (fun a b ha hb => by rw [hL a b ha hb, ec]; rfl)
    | succ m ih =>
      intro c L hm hc hL
      refine b_X11_close_76 (if_le (a := 16) rfl rfl (by omega) (by omega) (fun h => absurd h (by omega)) (fun _ => ?_))
      exact loopA c (by omega) (clC c (cl0 rs)) (fun L2 hL2 => ih (c + 1) L2 (by omega) (by omega) hL2) 16 0 L rfl (by omega) hL
  -- the rules of one part
  have loopR : ∀ m r (L : Nat → Int32), rs.length - r = m → r ≤ rs.length → (∀ x y, x < 16 → y < 16 → L (16 * x + y) = bI (cl0 (rs.take r) x y)) → xG l d 145 Q 25 [some (.ref 0), some (.int (nI (30 + r))), none, none] [] (wM I J (va_up A 12 L) B) 0 0 := by
    intro m
    induction m with
    | zero =>
      intro r L hm hrl hL
      have er : r = rs.length := by omega
      refine b_X11_close_25 (if_le (add_of (a := 30) rfl h26) rfl (by omega) (by omega) (fun _ => ?_) (fun h => absurd h (by omega)))
      exact loopC 16 0 L rfl (by omega) (fun x y hx hy => by rw [hL x y hx hy, er, List.take_length]; rfl)
    | succ m ih =>
      intro r L hm hrl hL
      obtain ⟨ok, z6, z7, z8, -, -⟩ := hr.2 r (by omega)
      obtain ⟨o1, o2, o3, -⟩ := ok
      have nr : nI (30 + r) + 1 = nI (30 + (r + 1)) := nI_1 _
      have sn := take_snoc rs dR (show r < rs.length by omega)
      generalize rs.getD r dR = R at z6 z7 z8 o1 o2 o3 sn
      have a8 : (va_up A 12 L) 8 (nI (30 + r)).toNatClampNeg = o2i R.2.2.1 := by rw [cl_n (by omega), un_v (by decide)]; exact z8
      have a6 : (va_up A 12 L) 6 (nI (30 + r)).toNatClampNeg = nI R.1 := by rw [cl_n (by omega), un_v (by decide)]; exact z6
      have a7 : (va_up A 12 L) 7 (nI (30 + r)).toNatClampNeg = nI R.2.1 := by rw [cl_n (by omega), un_v (by decide)]; exact z7
      refine b_X11_close_25 (if_le (add_of (a := 30) rfl h26) rfl (by omega) (by omega) (fun h => absurd h (by omega)) (fun _ => ⟨xin_of rfl (by omega) (by omega), ?_⟩))
      refine if_if (show (va_up A 12 L) 8 (nI (30 + r)).toNatClampNeg = -1 ↔ R.2.2.1 = none from by rw [a8]; exact o2i_iff o3) (fun ho => ⟨xin_of rfl (by omega) (by omega), xin_of rfl (by omega) (by omega), ?_⟩) (fun ho => ?_)
      · have e1 : (16 : Int32) * (va_up A 12 L) 6 (nI (30 + r)).toNatClampNeg + (va_up A 12 L) 7 (nI (30 + r)).toNatClampNeg = nI (16 * R.1 + R.2.1) := add_of (mul_of rfl a6) a7
        refine ⟨xin_of e1 (by omega) (by omega), ?_⟩
        rw [e1, cl_n (by omega), uu_v, ue_v, nar1, nr]
        refine ih (r + 1) _ (by omega) (by omega) (fun x y hx hy => ?_)
        rw [sn, cl0_snoc, ho]
        by_cases e : x = R.1 ∧ y = R.2.1
        · rw [e.1, e.2, ue_i]; simp [bI]
        · rw [un_i (by omega), hL x y hx hy]
          have : (R.1 == x && R.2.1 == y) = false := by
            cases q : (R.1 == x && R.2.1 == y) with
            | false => rfl
            | true => simp at q; exact absurd ⟨q.1.symm, q.2.symm⟩ e
          rw [this]; simp
      · rw [nr]
        refine ih (r + 1) L (by omega) (by omega) (fun x y hx hy => ?_)
        rw [sn, cl0_snoc, hL x y hx hy]
        have : (R.2.2.1 == none) = false := by
          cases q : R.2.2.1 with
          | none => exact absurd q ho
          | some c => rfl
        rw [this]; simp
  have loop0 : ∀ m k (L : Nat → Int32), 256 - k = m → k ≤ 256 → (∀ i, i < k → L i = 0) → xG l d 145 Q 2 [some (.ref 0), some (.int (nI k)), none, none] [] (wM I J (va_up A 12 L) B) 0 0 := by
    intro m
    induction m with
    | zero =>
      intro k L hm hk hL
      refine b_X11_close_2 (if_le (a := 256) rfl rfl (by omega) (by omega) (fun _ => ?_) (fun h => absurd h (by omega)))
      exact loopR rs.length 0 L rfl (by omega) (fun x y hx hy => by rw [hL _ (by omega)]; rfl)
    | succ m ih =>
      intro k L hm hk hL
      refine b_X11_close_2 (if_le (a := 256) rfl rfl (by omega) (by omega) (fun h => absurd h (by omega)) (fun _ => ⟨xin_of rfl (by omega) (by omega), ?_⟩))
      rw [uu_v, ue_v, nar0, cl_n (by omega), nI_1]
      refine ih (k + 1) _ (by omega) (by omega) (fun i hi => ?_)
      by_cases e : i = k
      · rw [e, ue_i]
      · rw [un_i e]; exact hL i (by omega)
  refine e_X11_close ?_
  have h0 := loop0 256 0 (A 12) rfl (by omega) (fun i hi => absurd hi (by omega))
  rw [uu_vs] at h0
  exact h0
end M9
