/-! ===== one step is sound ===== -/
theorem xl_of {i : Instr} {len : Nat} (n : Nat) (hn : 0 < n) (h : xln i = 0 ∨ len = xln i) (e : xln i = n) : len = n := by
  rcases h with h | h <;> omega
theorem xite_t {c : Prop} [Decidable c] {a b : Prop} (h : if c then a else b) (q : c) : a := by rw [if_pos q] at h; exact h
theorem xite_f {c : Prop} [Decidable c] {a b : Prop} (h : if c then a else b) (q : ¬ c) : b := by rw [if_neg q] at h; exact h
theorem xwv_ok {n : Nat} {v : Value} (h : xwv n v = true) {ad ad' : Nat → Nat} {sa : Nat} (e : ∀ j, j < n → ad' j = ad j) : rV ad' sa v = rV ad sa v := by
  cases v with
  | ref p =>
    have : p < n := Nat.le_of_ble_eq_true h
    simp [rV, e p this]
  | _ => rfl
theorem xws_ok {n : Nat} {ad ad' : Nat → Nat} {sa : Nat} (e : ∀ j, j < n → ad' j = ad j) : ∀ {st : List Value}, xws n st = true → st.map (rV ad' sa) = st.map (rV ad sa)
  | [], _ => rfl
  | v :: r, h => by
    simp only [xws, Bool.and_eq_true] at h
    simp only [List.map_cons, xwv_ok h.1 e, xws_ok e h.2]
theorem xwL_ok {n : Nat} {ad ad' : Nat → Nat} {sa : Nat} (e : ∀ j, j < n → ad' j = ad j) : ∀ {L : XLs}, xwL n L = true → ∀ (i : Nat) (v : Value), L[i]? = some (some v) → rV ad' sa v = rV ad sa v
  | [], _, i, v, q => by simp at q
  | none :: r, h, i, v, q => by
    cases i with
    | zero => simp at q
    | succ i => exact xwL_ok e (L := r) h i v (by simpa using q)
  | some u :: r, h, i, v, q => by
    simp only [xwL, Bool.and_eq_true] at h
    cases i with
    | zero => simp at q; subst q; exact xwv_ok h.1 e
    | succ i => exact xwL_ok e (L := r) h.2 i v (by simpa using q)
theorem xLv.ext {n : Nat} {ad ad' : Nat → Nat} {sa : Nat} {ls : Array Slot} {nL : Nat} {L : XLs} (e : ∀ j, j < n → ad' j = ad j) (h : xwL n L = true) (hl : xLv ad sa ls nL L) : xLv ad' sa ls nL L := ⟨hl.1, hl.2.1, fun i v q => by rw [xwL_ok e h i v q]; exact hl.2.2 i v q⟩
theorem xww_ok {n : Nat} {ad ad' : Nat → Nat} {sa : Nat} {cid : Nat → ClassId} (e : ∀ j, j < n → ad' j = ad j) : ∀ {w : XW}, xww n w = true → ∀ x ∈ w, xr ad' sa cid x = xr ad sa cid x
  | [], _, x, q => by cases q
  | .inl a :: r, h, x, q => by
    rcases List.mem_cons.mp q with rfl | q
    · rfl
    · exact xww_ok e (w := r) h x q
  | .inr o :: r, h, x, q => by
    simp only [xww, Bool.and_eq_true] at h
    rcases List.mem_cons.mp q with rfl | q
    · simp only [xr, xws_ok e h.1]
    · exact xww_ok e (w := r) h.2 x q
theorem cw_ext {ad ad' : Nat → Nat} {sa : Nat} {cid : Nat → ClassId} {w : XW} (e : ∀ j, j < w.length → ad' j = ad j) (h : xww w.length w = true) : cw ad' sa cid w = cw ad sa cid w := by
  apply List.ext_getElem?
  intro i
  simp only [cw, List.getElem?_mapIdx]
  cases q : w[i]? with
  | none => rfl
  | some x =>
    have hi : i < w.length := (List.getElem?_eq_some_iff.mp q).1
    simp only [Option.map_some, e i hi, xww_ok e h x (List.mem_of_getElem? q)]
theorem xnar_b {v : Int32} (h : v = 0 ∨ v = 1) : narrow .boolean (.int v) = .int v := by
  rcases h with rfl | rfl <;> decide +kernel
theorem xfit_b {v : Int32} (h : v = 0 ∨ v = 1) : fits .boolean (.int v) = true := by
  rcases h with rfl | rfl <;> decide +kernel
theorem xpd_I : parseFieldDescriptor "I" = some .int := by decide +kernel
theorem xpd_J : parseFieldDescriptor "J" = some .long := by decide +kernel
theorem xpd_Z : parseFieldDescriptor "Z" = some .boolean := by decide +kernel
theorem xfit_ok {own : String} {ini : Bool} {f : String × String × String × Bool} {tag : Nat} {v : Value} {K : Prop} {ad : Nat → Nat} {sa : Nat} (h : xfit ini tag v K) (ht : xTagOk own f tag = true) :
    K ∧ (f.2.2.2 = false ∨ (f.2.2.2 = true ∧ ini = true ∧ f.1 = own ∧ tag = 7)) ∧ ∃ ty, parseFieldDescriptor f.2.2.1 = some ty ∧ narrow ty (rV ad sa v) = rV ad sa v ∧ fits ty (rV ad sa v) = true := by
  unfold xfit at h
  split at h
  · simp only [xTagOk, Bool.and_eq_true, decide_eq_true_eq, Bool.not_eq_true'] at ht
    exact ⟨h, Or.inl ht.2, .int, by rw [ht.1]; exact xpd_I, rfl, rfl⟩
  · simp only [xTagOk, Bool.and_eq_true, decide_eq_true_eq, Bool.not_eq_true'] at ht
    exact ⟨h, Or.inl ht.2, .long, by rw [ht.1]; exact xpd_J, rfl, rfl⟩
  · simp only [xTagOk, Bool.and_eq_true, decide_eq_true_eq, Bool.not_eq_true'] at ht
    exact ⟨h.2, Or.inl ht.2, .boolean, by rw [ht.1]; exact xpd_Z, xnar_b h.1, xfit_b h.1⟩
  · simp only [xTagOk, Bool.and_eq_true, Bool.not_eq_true'] at ht
    cases q : parseFieldDescriptor f.2.2.1 with
    | none => rw [q] at ht; cases ht.1
    | some ty =>
      rw [q] at ht
      cases ty <;> first | exact ⟨h, Or.inl ht.2, _, rfl, rfl, rfl⟩ | (simp at ht)
  · simp only [xTagOk, Bool.and_eq_true, Bool.not_eq_true'] at ht
    cases q : parseFieldDescriptor f.2.2.1 with
    | none => rw [q] at ht; cases ht.1
    | some ty =>
      rw [q] at ht
      cases ty <;> first | exact ⟨h, Or.inl ht.2, _, rfl, rfl, rfl⟩ | (simp at ht)
  · simp only [xTagOk, Bool.and_eq_true, decide_eq_true_eq] at ht
    obtain ⟨hi, h⟩ := xif h
    cases q : parseFieldDescriptor f.2.2.1 with
    | none => rw [q] at ht; cases ht.1.1
    | some ty =>
      rw [q] at ht
      cases ty <;> first | exact ⟨h, Or.inr ⟨ht.1.2, hi, ht.2, rfl⟩, _, rfl, rfl, rfl⟩ | (simp at ht)
  · exact h.elim
theorem xsw_el {x : Int32} {X : Nat → Prop} {df : Nat} : ∀ {ts : List Nat} {lo : Int32}, xsw x lo X df ts → (∃ j t, ts[j]? = some t ∧ x = lo + Int32.ofNat j ∧ X t) ∨ ((∀ j, j < ts.length → x ≠ lo + Int32.ofNat j) ∧ X df)
  | [], lo, h => Or.inr ⟨fun j q => by simp at q, h⟩
  | t :: r, lo, h => by
    by_cases e : x = lo
    · exact Or.inl ⟨0, t, rfl, by rw [e]; simp, xite_t h e⟩
    · have h1 := xite_f h e
      have sh : ∀ j : Nat, lo + 1 + Int32.ofNat j = lo + Int32.ofNat (j + 1) := fun j => by
        rw [Int32.add_assoc]; congr 1
        rw [show Int32.ofNat (j + 1) = Int32.ofNat j + 1 from by simp [Int32.ofNat_add], Int32.add_comm]
      rcases xsw_el h1 with ⟨j, t', h2, h3, h4⟩ | ⟨h2, h3⟩
      · exact Or.inl ⟨j + 1, t', by simpa using h2, by rw [h3]; exact sh j, h4⟩
      · refine Or.inr ⟨fun j q => ?_, h3⟩
        cases j with
        | zero => intro z; exact e (by rw [z]; simp)
        | succ j =>
          rw [← sh j]
          exact h2 j (by simpa using q)
theorem xof_int {lo : Int} {j : Nat} (h0 : 0 ≤ lo) (h1 : lo + j < 2000) : (Int32.ofInt lo + Int32.ofNat j).toInt = lo + j := by
  obtain ⟨a, rfl⟩ := Int.eq_ofNat_of_zero_le h0
  have e : Int32.ofInt (a : Int) = Int32.ofNat a := by first | rfl | (apply Int32.toBitVec_inj.mp; simp) | (apply Int32.toBitVec_inj.mp; exact BitVec.ofInt_natCast ..)
  rw [e, ← Int32.ofNat_add]
  have h2 : (a + j : Nat) < 2000 := by omega
  have := nI_toInt (n := a + j) (by omega)
  unfold nI at this
  rw [this]; simp
section XA
variable {p : Program} {l : Launch} {e : Env} {R : Room} {s : State} {m : MethodId} {args : Array Value} {below : List Frame} {meth : Method} {c : Code} {H : Heap} {locs : List Loc} {cells slots : Nat} {QQ : State → Prop}
theorem xafter {pc : Nat} {ls : Array Slot} {rest st0 : List Value} {a : Array Value} {A A1 : Nat → Prop} {mc ms n1 mc' sa : Nat} {ad : Nat → Nat} {cid : Nat → ClassId} {D : va_G} {cl : List vw_C} {Q : Option Value → XW → Prop}
    (hr : va_Run p l e R s m args below meth c H locs cells slots mc ms (F0 m pc ls st0) rest (xQc ad n1 mc' sa cid D cl A1 Q a) A1) (hS : va_S A s.heap H locs) (hA : ∀ q, A1 q → A q)
    (kk : ∀ (v : Option Value) (w' : XW) (ad' : Nat → Nat) (H1 : Heap) (locs1 : List Loc), Q v w' → (∀ j : Nat, j < n1 → ad' j = ad j) → (mc' = 0 → ad' = ad) → n1 ≤ w'.length → va_P D cl (cw ad' sa cid w') H1 → va_D A (cw ad' sa cid w') → va_S A s.heap H1 locs1 →
      W p l e R s m args below meth c H1 locs1 (cells + mc) (slots + ms) QQ (F0 m (pc + 3) ls ((v.map (rV ad' sa)).toList ++ rest))) : W p l e R s m args below meth c H locs cells slots QQ (F0 m pc ls st0) := by
  intro T hT X
  obtain ⟨v, st₀, t, T', L, h0, X', hL, e1, e2, ⟨⟨v', w', ad', a1, a2, a3, hv, hq, hp, hd⟩, hz, hk⟩, st⟩ := hr T hT X
  cases hv
  rw [h0] at hz hk
  obtain ⟨t2, b1, b2⟩ := kk v' w' ad' T'.heap (locs ++ L) hq a1 a2 a3 (by rw [e1]; exact hp) (hd.weaken (fun _ _ _ z => hA _ z))
    ⟨Nat.le_trans hS.1 (by rw [e1]; exact hz), fun q h1 h2 => by rw [e1, hk q (Nat.lt_of_lt_of_le h1 hS.1) (fun z => h2 (hA q z))]; exact hS.2.1 q h1 h2, fun q hq => by
      rcases List.mem_append.mp hq with h | h
      · exact hS.2.2 q h
      · exact hA _ (hL q h)⟩ T' rfl X'
  exact ⟨t2, st t2 b1, b2⟩
end XA
