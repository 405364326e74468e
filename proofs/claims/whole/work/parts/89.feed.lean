/-! ===== feeding the tape, both sides ===== -/
def bt (x : Int32) (k : Nat) : Nat := x.toBitVec.toNat / 2 ^ k % 256
theorem bt_lt (x : Int32) (k : Nat) : bt x k < 256 := Nat.mod_lt _ (by omega)
theorem i32_of (x : Int32) : x = nI x.toBitVec.toNat := by
  apply Int32.toBitVec_inj.1
  show x.toBitVec = BitVec.ofNat 32 x.toBitVec.toNat
  simp
theorem u32_c : ∀ k, k < 32 → ((nI k).toUInt32 &&& Int32.toUInt32 31) = UInt32.ofNat k := by decide +kernel
theorem ushr_n {m k : Nat} (hm : m < 4294967296) (hk : k < 32) : ((nI m).toUInt32 >>> ((nI k).toUInt32 &&& Int32.toUInt32 31)).toInt32 = nI (m / 2 ^ k) := by
  rw [u32_c k hk]
  apply Int32.toBitVec_inj.1
  apply BitVec.eq_of_toNat_eq
  show ((nI m).toUInt32 >>> UInt32.ofNat k).toNat = (BitVec.ofNat 32 _).toNat
  have h1 : (UInt32.ofNat k).toNat = k := by
    show (BitVec.ofNat 32 k).toNat = k
    rw [BitVec.toNat_ofNat, Nat.mod_eq_of_lt (by omega)]
  have h2 : (nI m).toUInt32.toNat = m := by
    show (BitVec.ofNat 32 m).toNat = m
    rw [BitVec.toNat_ofNat, Nat.mod_eq_of_lt (by omega)]
  rw [UInt32.toNat_shiftRight, h1, h2, Nat.mod_eq_of_lt hk, Nat.shiftRight_eq_div_pow, BitVec.toNat_ofNat, Nat.mod_eq_of_lt (Nat.lt_of_le_of_lt (Nat.div_le_self _ _) hm)]
theorem bt_m (x : Int32) {k : Nat} (hk : k < 32) : (x.toUInt32 >>> ((nI k).toUInt32 &&& Int32.toUInt32 31)).toInt32 &&& 255 = nI (bt x k) := by
  have h := ushr_n (m := x.toBitVec.toNat) (k := k) x.toBitVec.isLt hk
  rw [← i32_of x] at h
  rw [h]
  exact fa_mask _ 8
theorem sb_8 : ∀ b, b < 256 → vp_nar .byte (Int8.ofNat b).toInt32 = sb b := by decide +kernel
theorem shr_8 (x : Int32) {k : Nat} (hk : k ≤ 24) : (x >>> (nI k &&& 31)).toInt8 = Int8.ofNat (bt x k) := by
  rw [and31 k (by omega)]
  apply Int8.toBitVec_inj.1
  show ((x.toBitVec).sshiftRight ((BitVec.ofNat 32 k).smod 32).toNat).signExtend 8 = BitVec.ofNat 8 (bt x k)
  rw [smod32 k (by omega), BitVec.toNat_ofNat, Nat.mod_eq_of_lt (show k < 2 ^ 32 by omega)]
  apply BitVec.eq_of_getLsbD_eq
  intro i hi
  rw [BitVec.getLsbD_signExtend, BitVec.getLsbD_sshiftRight, BitVec.getLsbD_ofNat]
  unfold bt
  rw [show (256 : Nat) = 2 ^ 8 from rfl, Nat.testBit_mod_two_pow, Nat.testBit_div_two_pow]
  simp [hi, show i < 32 by omega, show ¬ 32 ≤ i by omega, show k + i < 32 by omega, Nat.add_comm]
  rfl
theorem bt_x (x : Int32) {k : Nat} (hk : k ≤ 24) : vp_nar .byte ((x >>> (nI k &&& 31)).toInt8.toInt32) = sb (bt x k) := by
  rw [shr_8 x hk]; exact sb_8 _ (bt_lt x k)
def t4 (t : Nat → Nat) (n : Nat) (x : Int32) : Nat → Nat := va_up (va_up (va_up (va_up t n (bt x 24)) (n + 1) (bt x 16)) (n + 2) (bt x 8)) (n + 3) (bt x 0)
theorem tpM_up {A : Nat → Nat → Int32} {t : Nat → Nat} {n b : Nat} (h : tpM A t n) (hn : n < 1540) (hb : b < 256) : tpM (va_up A 1 (upd (A 1) n (nI b))) (va_up t n b) (n + 1) := by
  refine ⟨by omega, fun i hi => ?_⟩
  rw [ue_v]
  by_cases e : i = n
  · subst e; rw [ue_v, ue_i]; exact ⟨hb, rfl⟩
  · rw [un_v e, un_i e]; exact h.2 i (by omega)
theorem tpX_up {A : Nat → Nat → Int32} {t : Nat → Nat} {n b : Nat} (h : tpX A t n) (hn : n < 1540) (hb : b < 256) : tpX (va_up A 2 (upd (A 2) n (sb b))) (va_up t n b) (n + 1) := by
  refine ⟨by omega, fun i hi => ?_⟩
  rw [ue_v]
  by_cases e : i = n
  · subst e; rw [ue_v, ue_i]; exact ⟨hb, rfl⟩
  · rw [un_v e, un_i e]; exact h.2 i (by omega)
def fdB (S : St) : Bool := decide (S.n + 20 ≤ 1540)
def fdT (t : Nat → Nat) (n : Nat) (a b c d e : Int32) : Nat → Nat := t4 (t4 (t4 (t4 (t4 t n a) (n + 4) b) (n + 8) c) (n + 12) d) (n + 16) e
def stFd (S : St) (a b c d e : Int32) : St := if fdB S = true then S.setT (fdT S.t S.n a b c d e) (S.n + 20) else S
def anFd (S : St) : Int32 := if fdB S = true then nI (S.n + 20) else -1
section E6
variable {l : Launch} {J : Nat → Int64} {A : Nat → Nat → Int32} {B : Nat → Nat → Int64} {Q : Option Value → XW → Prop} {d : Nat} {I : Nat → Int32} {S : St} {tgt cg fg : Value}
theorem s_come (hd : 1 ≤ d) {t : Nat → Nat} {n : Nat} {x : Int32} (ht : tpM A t n) (h2 : I 2 = nI n) (hn : n + 4 ≤ 1540) (hQ : ∀ (I' : Nat → Int32) (A' : Nat → Nat → Int32), tpM A' (t4 t n x) (n + 4) → I' 2 = nI (n + 4) → (∀ i, i ≠ 2 → I' i = I i) → (∀ p, p ≠ 1 → A' p = A p) → Q none (wM I' J A' B)) : xK l d 126 [.ref 0, .int x] (wM I J A B) Q := by
  obtain ⟨d, rfl⟩ : ∃ e, d = e + 1 := ⟨d - 1, by omega⟩
  have step : ∀ {k k' n : Nat} {t : Nat → Nat} {I1 : Nat → Int32} {A1 : Nat → Nat → Int32}, tpM A1 t n → I1 2 = nI n → n < 1540 → k < 32 → nI k + (-8 : Int32) = nI k' → xG l d 126 Q 3 [some (.ref 0), some (.int x), some (.int (nI k'))] [] (wM (upd I1 2 (nI (n + 1))) J (va_up A1 1 (upd (A1 1) n (nI (bt x k)))) B) 0 0 → xG l d 126 Q 3 [some (.ref 0), some (.int x), some (.int (nI k))] [] (wM I1 J A1 B) 0 0 := fun {k k' n t I1 A1} h1 h2 h3 h4 h5 h6 => by
    refine b_X11_come_3 ?_
    rw [if_neg (nn_n (by omega)), h2, nI_1, cl_n (by omega), bt_m x h4, h5]
    exact ⟨xin_n h3 (by omega), h6⟩
  refine e_X11_come (step (k := 24) (k' := 16) ht h2 (by omega) (by omega) (by decide +kernel) (step (k := 16) (k' := 8) (tpM_up ht (by omega) (bt_lt _ _)) (ue_i _ _ _) (by omega) (by omega) (by decide +kernel) (step (k := 8) (k' := 0) (tpM_up (tpM_up ht (by omega) (bt_lt _ _)) (by omega) (bt_lt _ _)) (ue_i _ _ _) (by omega) (by omega) (by decide +kernel) ?_)))
  refine b_X11_come_3 ?_
  rw [if_neg (nn_n (by omega)), ue_i, nI_1, cl_n (by omega), bt_m x (by omega)]
  refine ⟨xin_n (by omega) (by omega), b_X11_come_3 ?_⟩
  rw [if_pos (by decide +kernel)]
  refine hQ _ _ (tpM_up (tpM_up (tpM_up (tpM_up ht (by omega) (bt_lt _ _)) (by omega) (bt_lt _ _)) (by omega) (bt_lt _ _)) (by omega) (bt_lt _ _)) (ue_i _ _ _) (fun i hi => by rw [un_i hi, un_i hi, un_i hi, un_i hi]) (fun p hp => by rw [un_v hp, un_v hp, un_v hp, un_v hp])
theorem s_addNumber (hd : 1 ≤ d) {t : Nat → Nat} {n : Nat} {x : Int32} (ht : tpX A t n) (h2 : I 101 = nI n) (hn : n + 4 ≤ 1540) (hQ : ∀ (I' : Nat → Int32) (A' : Nat → Nat → Int32), tpX A' (t4 t n x) (n + 4) → I' 101 = nI (n + 4) → (∀ i, i ≠ 101 → I' i = I i) → (∀ p, p ≠ 2 → A' p = A p) → Q none (wC tgt cg fg I' J A' B)) : xK l d 74 [.ref 1, .int x] (wC tgt cg fg I J A B) Q := by
  obtain ⟨d, rfl⟩ : ∃ e, d = e + 1 := ⟨d - 1, by omega⟩
  have step : ∀ {k k' n : Nat} {t : Nat → Nat} {I1 : Nat → Int32} {A1 : Nat → Nat → Int32}, tpX A1 t n → I1 101 = nI n → n < 1540 → k ≤ 24 → nI k + (-8 : Int32) = nI k' → xG l d 74 Q 3 [some (.ref 1), some (.int x), some (.int (nI k'))] [] (wC tgt cg fg (upd I1 101 (nI (n + 1))) J (va_up A1 2 (upd (A1 2) n (sb (bt x k)))) B) 0 0 → xG l d 74 Q 3 [some (.ref 1), some (.int x), some (.int (nI k))] [] (wC tgt cg fg I1 J A1 B) 0 0 := fun {k k' n t I1 A1} h1 h2 h3 h4 h5 h6 => by
    refine b_X7_addNumber_3 ?_
    rw [if_neg (nn_n (by omega)), h2, nI_1, cl_n (by omega), bt_x x h4, h5]
    exact if_le (a := 1540) rfl rfl (by omega) (by omega) (fun z => absurd z (by omega)) (fun _ => ⟨xin_n h3 (by omega), h6⟩)
  refine e_X7_addNumber (step (k := 24) (k' := 16) ht h2 (by omega) (by omega) (by decide +kernel) (step (k := 16) (k' := 8) (tpX_up ht (by omega) (bt_lt _ _)) (ue_i _ _ _) (by omega) (by omega) (by decide +kernel) (step (k := 8) (k' := 0) (tpX_up (tpX_up ht (by omega) (bt_lt _ _)) (by omega) (bt_lt _ _)) (ue_i _ _ _) (by omega) (by omega) (by decide +kernel) ?_)))
  refine b_X7_addNumber_3 ?_
  rw [if_neg (nn_n (by omega)), ue_i, nI_1, cl_n (by omega), bt_x x (by omega)]
  refine if_le (a := 1540) rfl rfl (by omega) (by omega) (fun z => absurd z (by omega)) (fun _ => ⟨xin_n (by omega) (by omega), b_X7_addNumber_3 ?_⟩)
  rw [if_pos (by decide +kernel)]
  refine hQ _ _ (tpX_up (tpX_up (tpX_up (tpX_up ht (by omega) (bt_lt _ _)) (by omega) (bt_lt _ _)) (by omega) (bt_lt _ _)) (by omega) (bt_lt _ _)) (ue_i _ _ _) (fun i hi => by rw [un_i hi, un_i hi, un_i hi, un_i hi]) (fun p hp => by rw [un_v hp, un_v hp, un_v hp, un_v hp])
theorem m_feed (hd : 2 ≤ d) {a b c e f : Int32} (h : mInv S I A B) (hQ : ∀ (I' : Nat → Int32) (A' : Nat → Nat → Int32), mInv (stFd S a b c e f) I' A' B → Q (some (.int (anFd S))) (wM I' J A' B)) : xK l d 127 [.ref 0, .int a, .int b, .int c, .int e, .int f] (wM I J A B) Q := by
  obtain ⟨d, rfl⟩ : ∃ e, d = e + 1 := ⟨d - 1, by omega⟩
  have hn := h.2.1.1
  unfold stFd anFd fdB at hQ
  refine e_X11_feed (if_le (a := S.n + 20) (b := 1540) (by rw [h.2.2.1]; exact add_of (b := 20) rfl rfl) rfl (by omega) (by omega) (fun z => ?_) (fun z => ?_))
  · rw [decide_eq_true z, if_pos rfl, if_pos rfl] at hQ
    refine s_come (by omega) (t := S.t) (n := S.n) h.2.1 (by rw [un_i (by decide)]; exact h.2.2.1) (by omega) (fun I1 A1 t1 n1 i1 a1 => b_X11_feed_25 (s_come (by omega) t1 n1 (by omega) (fun I2 A2 t2 n2 i2 a2 => b_X11_feed_30 (s_come (by omega) t2 n2 (by omega) (fun I3 A3 t3 n3 i3 a3 => b_X11_feed_35 (s_come (by omega) t3 n3 (by omega) (fun I4 A4 t4 n4 i4 a4 => b_X11_feed_41 (s_come (by omega) t4 n4 (by omega) (fun I5 A5 t5 n5 i5 a5 => b_X11_feed_47 ?_)))))))))
    rw [n5]
    refine hQ I5 A5 (mInv_t h t5 n5 (fun i hi => ?_) (fun p hp => ?_) (fun _ _ => rfl))
    · unfold nI_m at hi
      rw [i5 i (by omega), i4 i (by omega), i3 i (by omega), i2 i (by omega), i1 i (by omega), un_i (by omega)]
    · unfold nA_m at hp
      rw [a5 p (by omega), a4 p (by omega), a3 p (by omega), a2 p (by omega), a1 p (by omega)]
  · rw [decide_eq_false (by omega), if_neg (by decide), if_neg (by decide)] at hQ
    exact hQ _ A (mInv_0 h (fun i hi => un_i hi))
theorem x_feed (hd : 2 ≤ d) {a b c e f : Int32} (h : xInv S I A B) (hQ : ∀ (I' : Nat → Int32) (A' : Nat → Nat → Int32), xInv (stFd S a b c e f) I' A' B → Q (some (.int (anFd S))) (wC tgt cg fg I' J A' B)) : xK l d 92 [.ref 0, .int a, .int b, .int c, .int e, .int f] (wC tgt cg fg I J A B) Q := by
  obtain ⟨d, rfl⟩ : ∃ e, d = e + 1 := ⟨d - 1, by omega⟩
  have hn := h.2.1.1
  unfold stFd anFd fdB at hQ
  refine e_X10_feed (if_le (a := S.n + 20) (b := 1540) (by rw [h.2.2.1]; exact add_of (b := 20) rfl rfl) rfl (by omega) (by omega) (fun z => ?_) (fun z => ?_))
  · rw [decide_eq_true z, if_pos rfl, if_pos rfl] at hQ
    refine s_addNumber (by omega) (t := S.t) (n := S.n) h.2.1 h.2.2.1 (by omega) (fun I1 A1 t1 n1 i1 a1 => b_X10_feed_26 (s_addNumber (by omega) t1 n1 (by omega) (fun I2 A2 t2 n2 i2 a2 => b_X10_feed_34 (s_addNumber (by omega) t2 n2 (by omega) (fun I3 A3 t3 n3 i3 a3 => b_X10_feed_42 (s_addNumber (by omega) t3 n3 (by omega) (fun I4 A4 t4 n4 i4 a4 => b_X10_feed_51 (s_addNumber (by omega) t4 n4 (by omega) (fun I5 A5 t5 n5 i5 a5 => b_X10_feed_60 ?_)))))))))
    rw [n5]
    refine hQ I5 A5 (xInv_t h t5 n5 (fun i hi => ?_) (fun p hp => ?_) (fun _ _ => rfl))
    · unfold kI at hi
      rw [i5 i (by omega), i4 i (by omega), i3 i (by omega), i2 i (by omega), i1 i (by omega)]
    · unfold kA at hp
      rw [a5 p (by omega), a4 p (by omega), a3 p (by omega), a2 p (by omega), a1 p (by omega)]
  · rw [decide_eq_false (by omega), if_neg (by decide), if_neg (by decide)] at hQ
    exact hQ I A h
end E6
