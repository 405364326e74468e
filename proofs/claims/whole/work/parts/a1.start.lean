/-! ===== the start: a new object on either side ===== -/
def S00 : St := mkSt (fun _ => 0) 0 ([], [], []) [] [] [] [] 0
theorem stOk_00 : stOk S00 := by
  refine ⟨⟨?_, ?_, ?_, ?_⟩, ?_, ?_, ?_, ?_, ?_, ?_, ?_, ?_, ?_, rfl, ?_⟩
  · intro E h; cases h
  · intro R h; cases h
  · exact Nat.zero_le _
  · exact ⟨(fun E h => nomatch h), (fun R h => nomatch h), rfl⟩
  · exact Nat.zero_le _
  · intro w h; cases h
  · intro h; exact absurd rfl h
  · exact Nat.zero_le _
  · intro p h; cases h
  · exact Nat.zero_le _
  · intro p h; cases h
  · exact Nat.zero_le _
  · intro p h; cases h
  · intro w h; cases h
theorem msk_00 (i j : Nat) : msk (fun c => hasB [] c i j) 16 = 0 := by
  have : (fun c => hasB [] c i j) = fun _ => false := by
    funext c
    unfold hasB
    exact decide_eq_false (fun h => by cases h)
  rw [this]; rfl
theorem xInv_00 : xInv S00 (fun _ => 0) (fun _ _ => 0) (fun _ _ => 0) := by
  refine ⟨stOk_00, ⟨Nat.zero_le _, fun i hi => absurd hi (by show ¬ i < 0; omega)⟩, rfl, ⟨⟨rfl, Nat.zero_le _, fun e he => absurd he (by show ¬ e < 0; omega)⟩, ⟨rfl, Nat.zero_le _, fun e he => absurd he (by show ¬ e < 0; omega)⟩, ⟨rfl, Nat.zero_le _, fun e he => absurd he (by show ¬ e < 0; omega)⟩, ?_⟩, rfl, fun k hk => absurd hk (by show ¬ k < 0; omega), rfl, fun i j _ _ => ?_, Or.inl rfl, fun h => absurd rfl h, ⟨rfl, fun k hk => absurd hk (by show ¬ k < 0; omega)⟩, ⟨rfl, fun k hk => absurd hk (by show ¬ k < 0; omega)⟩, rfl⟩
  · have : sgL (clos S00.g.2.1) S00.g.2.1 = [] := by
      show sgL (clos []) [] = []
      unfold sgL gP
      simp
    rw [this]
    exact ⟨rfl, fun k hk => absurd hk (by show ¬ k < 0; omega)⟩
  · show (0 : Int32) = nI (msk (fun c => hasB [] c i j) 16)
    rw [msk_00]; rfl
theorem mInv_00 : mInv S00 (fun _ => 0) (fun _ _ => 0) (fun _ _ => 0) := by
  refine ⟨stOk_00, ⟨Nat.zero_le _, fun i hi => absurd hi (by show ¬ i < 0; omega)⟩, rfl, ?_, fun _ => rfl, rfl, fun k hk => absurd hk (by show ¬ k < 0; omega), ⟨rfl, fun k hk => absurd hk (by show ¬ k < 0; omega)⟩, fun h => absurd rfl h, ⟨rfl, fun k hk => absurd hk (by show ¬ k < 0; omega)⟩, ⟨rfl, fun k hk => absurd hk (by show ¬ k < 0; omega)⟩, rfl⟩
  refine ⟨rfl, rfl, rfl, ⟨Nat.zero_le _, fun e he => absurd he (by show ¬ e < 0; omega)⟩, ⟨Nat.zero_le _, fun e he => absurd he (by show ¬ e < 0; omega)⟩, ⟨Nat.zero_le _, fun e he => absurd he (by show ¬ e < 0; omega)⟩, fun k hk => ?_⟩
  have : (ordL (clos S00.g.2.1) S00.g.2.2.length).length = 0 := by
    show (ordL (clos []) 0).length = 0
    rfl
  exact absurd hk (by omega)
