/-! ===== runs and entries ===== -/
section XR
variable {l : Launch} {TB NW : List Cond} {cl : List vw_C} {df : Nat → List Value} {al : Nat → Nat × Nat} {mR : Nat → XMeth}
theorem xWG.unmask {d k : Nat} {Ret : Option Value → XW → Prop} {pc : Nat} {L : XLs} {st : List Value} {w : XW} {nc ns : Nat} (m : List Bool) (h : xWG l TB NW cl mR d k Ret pc (xmask m L) st w nc ns) : xWG l TB NW cl mR d k Ret pc L st w nc ns :=
  fun p e s m' args below meth c A D cid ad0 n0 sa ad H locs ls fx had hnc hn0 hP hD hS hl => h p e s m' args below meth c A D cid ad0 n0 sa ad H locs ls fx had hnc hn0 hP hD hS (hl.mask m)
theorem xrun_sound (OK : xOK TB NW cl df al mR) {d k : Nat} {Ret : Option Value → XW → Prop} {X : Nat → XLs → List Value → XW → Nat → Nat → Prop}
    (hX : ∀ pc L st w nc ns, X pc L st w nc ns → xWG l TB NW cl mR d k Ret pc L st w nc ns) (stops : List Nat) : ∀ (n pc : Nat) (L : XLs) (st : List Value) (w : XW) (nc ns : Nat),
    xrun (xML (mR k)) (xPO (mR k)) (xRT (mR k)) (xIN (mR k)) (xMC (mR k)) (xMS (mR k)) df al (xcl l TB NW cl mR d) Ret (xFE (mR k)) stops X n pc L st w nc ns → xWG l TB NW cl mR d k Ret pc L st w nc ns := by
  intro n
  induction n with
  | zero => intro pc L st w nc ns h; exact False.elim h
  | succ n ih =>
    intro pc L st w nc ns h
    unfold xrun at h
    cases hm : xmem pc stops with
    | true =>
      rw [hm] at h
      exact xWG.unmask _ (hX _ _ _ _ _ _ h)
    | false =>
      rw [hm] at h
      exact xstep OK ih h
/-- a stretch: from a place on, up to places where the judgement is taken over -/
theorem xgo (OK : xOK TB NW cl df al mR) {d k : Nat} {Ret : Option Value → XW → Prop} (stops : List Nat) (n : Nat) {pc : Nat} {L : XLs} {st : List Value} {w : XW} {nc ns : Nat}
    (h : xF (xML (mR k)) (xPO (mR k)) (xRT (mR k)) (xIN (mR k)) (xMC (mR k)) (xMS (mR k)) df al (xcl l TB NW cl mR d) Ret (xFE (mR k)) (xrun (xML (mR k)) (xPO (mR k)) (xRT (mR k)) (xIN (mR k)) (xMC (mR k)) (xMS (mR k)) df al (xcl l TB NW cl mR d) Ret (xFE (mR k)) stops (xWG l TB NW cl mR d k Ret) n) pc L st w nc ns) : xWG l TB NW cl mR d k Ret pc L st w nc ns :=
  xstep OK (xrun_sound OK (fun _ _ _ _ _ _ h => h) stops n) h
def xargs : List Value → XLs
  | [] => []
  | v :: r => bif Nat.beq v.category 2 then some v :: none :: xargs r else some v :: xargs r
def xent (n : Nat) (args : List Value) : XLs := xargs args ++ List.replicate (n - (xargs args).length) none
theorem xargs_mem {ad : Nat → Nat} {sa : Nat} : ∀ (args : List Value) (o i : Nat) (v : Value), (xargs args)[i]? = some (some v) → (o + i, rV ad sa v) ∈ lv_args o (args.map (rV ad sa)) := by
  intro args
  induction args with
  | nil => intro o i v h; simp [xargs] at h
  | cons u r ih =>
    intro o i v h
    simp only [xargs] at h
    simp only [List.map_cons, lv_args, rV_cat]
    cases hc : Nat.beq u.category 2 with
    | true =>
      have e := Nat.eq_of_beq_eq_true hc
      rw [hc] at h
      simp only [cond_true] at h
      rw [if_pos e]
      match i, h with
      | 0, h => simp at h; subst h; exact List.mem_cons_self
      | 1, h => simp at h
      | i + 2, h =>
        refine List.mem_cons_of_mem _ ?_
        have := ih (o + 2) i v (by simpa using h)
        rwa [show o + (i + 2) = o + 2 + i by omega]
    | false =>
      have e : ¬ u.category = 2 := Nat.ne_of_beq_eq_false hc
      rw [hc] at h
      simp only [cond_false] at h
      rw [if_neg e]
      match i, h with
      | 0, h => simp at h; subst h; exact List.mem_cons_self
      | i + 1, h =>
        refine List.mem_cons_of_mem _ ?_
        have := ih (o + 1) i v (by simpa using h)
        rwa [show o + (i + 1) = o + 1 + i by omega]
theorem xlg_len (vs : List Value) : (lg_sl vs).length = xcat vs := by
  induction vs with
  | nil => rfl
  | cons v r ih =>
    have e : (lg_sl (v :: r)).length = (if v.category = 2 then [Slot.val v, .second] else [.val v]).length + (lg_sl r).length := by simp [lg_sl]
    rw [e, ih]
    rcases lv_cat v with h | h <;> simp [h, xcat]
theorem xcat_map (ad : Nat → Nat) (sa : Nat) (vs : List Value) : xcat (vs.map (rV ad sa)) = xcat vs := by
  induction vs with
  | nil => rfl
  | cons v r ih => simp only [List.map_cons, xcat, rV_cat, ih]
theorem xentry (OK : xOK TB NW cl df al mR) {d k : Nat} {args : List Value} {w : XW} {Q : Option Value → XW → Prop} {L : XLs} (hL : xent (xML (mR k)) args = L) (hc : Nat.ble (xcat args) (xML (mR k)) = true) (h : xWG l TB NW cl mR d k Q 0 L [] w 0 0) : xXC l TB NW cl mR d k args w Q := by
  intro dC dI cid ad sa sz
  obtain ⟨hrow, hpool, hgood, hnest, hmeth, hcl, hob⟩ := OK
  obtain ⟨hcode, hinit, hmh, hplain, hml40, hin, hal⟩ := hmeth k
  refine Met.ofW (cc := xC (mR k)) (maxL := xML (mR k)) (ret := xRT (mR k)) hplain rfl ?_
  intro p e s m args' below meth c s₁ B hml hv
  obtain ⟨rfl, hsz, hP, hK, hD0, hN, hSt⟩ := hv
  have hts := atoms_spec (ws := xWs TB (mR k)) B.pre
  have hown : s.vm.findClass (xY (mR k)).cls = some m.cls := findClass_of_methodNamed B.named
  subst hsz
  have hD := hD0.self (sz := s.heap.size)
  rw [lg_entry_eq]
  have hl := lv_entry (args.map (rV ad sa)) (n := xML (mR k)) (by rw [xlg_len, xcat_map]; exact Nat.le_of_ble_eq_true hc)
  refine h p e s m _ below meth c (va_A (cw ad sa cid w) s.heap.size) (dC, dI) cid ad w.length sa ad s.heap [] _ ⟨B.exec, B.bytes, B.returns, hml, hown, hts, B.notSynchronized, (name_of_methodNamed B.named B.method).1, hN, hK, fun q z => Or.inr z, hSt⟩ (fun _ _ => rfl) (fun _ => rfl) (Nat.le_refl _) hP hD va_S.rf ?_
  refine ⟨hl.1, hl.2.1, fun i v hi => ?_⟩
  subst hL
  unfold xent at hi
  by_cases hlt : i < (xargs args).length
  · rw [List.getElem?_append_left hlt] at hi
    have := hl.2.2 _ (xargs_mem (ad := ad) (sa := sa) args 0 i v hi)
    simpa using this
  · rw [List.getElem?_append_right (by omega)] at hi
    rw [List.getElem?_replicate] at hi
    split at hi <;> cases hi
end XR
