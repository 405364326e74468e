/-! ===== the reference: arrange ===== -/
section M10
variable {l : Launch} {I : Nat → Int32} {J : Nat → Int64} {A : Nat → Nat → Int32} {B : Nat → Nat → Int64} {Q : Option Value → XW → Prop} {d : Nat}
set_option maxHeartbeats 2000000 in
theorem s_arrange (hd : 1 ≤ d) {f : Nat → Nat → Bool} {nc : Nat} (hf : ∀ a b, a < 16 → b < 16 → A 12 (16 * a + b) = bI (f a b)) (h24 : I 24 = nI nc) (hnc : nc ≤ 16)
    (hQ : ∀ L : Nat → Int32, (∀ i, i < (ordL f nc).length → L i = nI ((ordL f nc).getD i 0)) → Q none (wM I J (va_up A 13 L) B)) : xK l d 146 [.ref 0] (wM I J A B) Q := by
  obtain ⟨d, rfl⟩ : ∃ e, d = e + 1 := ⟨d - 1, by omega⟩
  have loopK : ∀ m c, m ≤ 16 → c < nc → ∀ (x1 : Int32) (L : Nat → Int32), (xG l d 146 Q 26 [some (.ref 0), some (.int x1), some (.int (nI m)), some (.int (nI c)), some (.int (nI (cntC f c))), some (.int (nI 16))] [] (wM I J (va_up A 13 L) B) 0 0) →
      ∀ u b, 16 - b = u → b ≤ 16 → xG l d 146 Q 26 [some (.ref 0), some (.int x1), some (.int (nI m)), some (.int (nI c)), some (.int (nI ((List.range b).countP fun b => f c b))), some (.int (nI b))] [] (wM I J (va_up A 13 L) B) 0 0 := by
    intro m c hm hc x1 L hend u
    induction u with
    | zero =>
      intro b hu hb
      have eb : b = 16 := by omega
      subst eb; exact hend
    | succ u ih =>
      intro b hu hb
      have e1 : (16 : Int32) * nI c + nI b = nI (16 * c + b) := add_of (mul_of rfl rfl) rfl
      have v1 : (va_up A 13 L) 12 ((16 : Int32) * nI c + nI b).toNatClampNeg = bI (f c b) := by rw [e1, cl_n (by omega), un_v (by decide)]; exact hf c b (by omega) (by omega)
      have nb : nI b + 1 = nI (b + 1) := nI_1 b
      have cs : (List.range (b + 1)).countP (fun b => f c b) = (List.range b).countP (fun b => f c b) + (if f c b = true then 1 else 0) := by rw [List.range_succ, List.countP_append]; simp [List.countP_cons]
      have := ih (b + 1) (by omega) (by omega)
      rw [cs] at this
      refine b_X11_arrange_26 (if_le (a := 16) rfl rfl (by omega) (by omega) (fun h => absurd h (by omega)) (fun _ => ⟨xin_of e1 (by omega) (by omega), if_bI v1 (fun h => ?_) (fun h => ?_)⟩))
      · rw [nb]; rw [h] at this; exact this
      · rw [nb, nI_1]; rw [h] at this; exact this
  have loopC : ∀ m, m ≤ 16 → (∀ L : Nat → Int32, (∀ i, i < (ordP f nc (m + 1)).length → L i = nI ((ordP f nc (m + 1)).getD i 0)) → xG l d 146 Q 4 [some (.ref 0), some (.int (nI (ordP f nc (m + 1)).length)), some (.int (nI (m + 1))), none, none, none] [] (wM I J (va_up A 13 L) B) 0 0) →
      ∀ u c (L : Nat → Int32), nc - c = u → c ≤ nc → (∀ i, i < (ordP f nc m ++ (List.range c).filter fun x => cntC f x == m).length → L i = nI ((ordP f nc m ++ (List.range c).filter fun x => cntC f x == m).getD i 0)) →
      xG l d 146 Q 12 [some (.ref 0), some (.int (nI (ordP f nc m ++ (List.range c).filter fun x => cntC f x == m).length)), some (.int (nI m)), some (.int (nI c)), none, none] [] (wM I J (va_up A 13 L) B) 0 0 := by
    intro m hm hnext u
    induction u with
    | zero =>
      intro c L hu hc hL
      have ec : c = nc := by omega
      subst ec
      rw [← ordP_succ] at hL ⊢
      refine b_X11_arrange_12 (if_le h24 rfl (by omega) (by omega) (fun _ => ?_) (fun h => absurd h (by omega)))
      rw [nI_1]
      exact hnext L hL
    | succ u ih =>
      intro c L hu hc hL
      refine b_X11_arrange_12 (if_le h24 rfl (by omega) (by omega) (fun h => absurd h (by omega)) (fun _ => ?_))
      have hk := cntC_le f c
      refine loopK m c hm (by omega) _ L ?_ 16 0 rfl (by omega)
      have nc1 : nI c + 1 = nI (c + 1) := nI_1 c
      have fs : (List.range (c + 1)).filter (fun x => cntC f x == m) = (List.range c).filter (fun x => cntC f x == m) ++ (if cntC f c = m then [c] else []) := by
        rw [List.range_succ, List.filter_append]; congr 1
        by_cases e : cntC f c = m <;> simp [e]
      refine b_X11_arrange_26 (if_le (a := 16) rfl rfl (by omega) (by omega) (fun _ => ?_) (fun h => absurd h (by omega)))
      refine if_eq rfl rfl (by omega) (by omega) (fun e => ?_) (fun e => ?_)
      · have hroom := ord_room f (by omega) e
        have h9 := ih (c + 1)
        rw [fs, if_pos e, ← List.append_assoc] at h9
        generalize hacc : ordP f nc m ++ (List.range c).filter (fun x => cntC f x == m) = acc at hL hroom h9 ⊢
        refine ⟨xin_of rfl (by omega) (by omega), ?_⟩
        rw [uu_v, ue_v, cl_n (by omega), nc1, nI_1]
        have h8 := h9 (upd L acc.length (nI c)) (by omega) (by omega) (fun i hi => by
          rw [List.length_append] at hi; simp at hi
          by_cases z : i = acc.length
          · subst z; rw [ue_i, gD_r]
          · rw [un_i z, gD_l (by omega)]; exact hL i (by omega))
        rw [List.length_append] at h8
        exact h8
      · have h9 := ih (c + 1) L (by omega) (by omega)
        rw [fs, if_neg e, List.append_nil] at h9
        rw [nc1]
        exact h9 hL
  have loopM : ∀ u m (L : Nat → Int32), 17 - m = u → m ≤ 17 → (∀ i, i < (ordP f nc m).length → L i = nI ((ordP f nc m).getD i 0)) → xG l d 146 Q 4 [some (.ref 0), some (.int (nI (ordP f nc m).length)), some (.int (nI m)), none, none, none] [] (wM I J (va_up A 13 L) B) 0 0 := by
    intro u
    induction u with
    | zero =>
      intro m L hu hm hL
      have em : m = 17 := by omega
      subst em
      refine b_X11_arrange_4 (if_lt (a := 16) rfl rfl (by omega) (by omega) (fun _ => ?_) (fun h => absurd h (by omega)))
      exact hQ L hL
    | succ u ih =>
      intro m L hu hm hL
      refine b_X11_arrange_4 (if_lt (a := 16) rfl rfl (by omega) (by omega) (fun h => absurd h (by omega)) (fun _ => ?_))
      have h9 := loopC m (by omega) (fun L2 hL2 => ih (m + 1) L2 (by omega) (by omega) hL2) nc 0 L rfl (by omega)
      simp only [List.range_zero, List.filter_nil, List.append_nil] at h9
      exact h9 hL
  refine e_X11_arrange ?_
  have h0 := loopM 17 0 (A 13) rfl (by omega) (fun i hi => by simp [ordP] at hi)
  rw [uu_vs] at h0
  exact h0
end M10
