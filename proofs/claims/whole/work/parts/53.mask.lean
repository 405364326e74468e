/-! ===== bit masks of sixteen ===== -/
theorem and31 : ∀ y, y < 32 → nI y &&& 31 = nI y := by decide +kernel
theorem smod32 : ∀ y, y < 32 → (BitVec.ofNat 32 y).smod 32 = BitVec.ofNat 32 y := by decide +kernel
theorem shr_n {m y : Nat} (hm : m < 2147483648) (hy : y < 32) : nI m >>> (nI y &&& 31) = nI (m / 2 ^ y) := by
  rw [and31 y hy]
  apply Int32.toBitVec_inj.1
  show (BitVec.ofNat 32 m).sshiftRight ((BitVec.ofNat 32 y).smod 32).toNat = BitVec.ofNat 32 (m / 2 ^ y)
  have hd : m / 2 ^ y ≤ m := Nat.div_le_self _ _
  have hmsb : (BitVec.ofNat 32 m).msb = false := by
    rw [BitVec.msb_eq_decide, BitVec.toNat_ofNat, Nat.mod_eq_of_lt (by omega)]
    simp; omega
  rw [smod32 y hy, BitVec.sshiftRight_eq_of_msb_false hmsb]
  apply BitVec.eq_of_toNat_eq
  rw [BitVec.toNat_ushiftRight, BitVec.toNat_ofNat, BitVec.toNat_ofNat, BitVec.toNat_ofNat, Nat.mod_eq_of_lt (by omega), Nat.mod_eq_of_lt (a := y) (by omega), Nat.mod_eq_of_lt (by omega), Nat.shiftRight_eq_div_pow]
theorem bit_n {m y : Nat} (hm : m < 2147483648) (hy : y < 32) : (nI m >>> (nI y &&& 31)) &&& 1 = 0 ↔ m.testBit y = false := by
  rw [shr_n hm hy]
  have h := fa_bit (n := m / 2 ^ y) (j := 0) (by decide)
  rw [Nat.testBit_div_two_pow, Nat.zero_add] at h
  exact h
theorem shl1 : ∀ y, y < 16 → (1 : Int32) <<< (nI y &&& 31) = nI (2 ^ y) := by decide +kernel
def msk (p : Nat → Bool) : Nat → Nat
  | 0 => 0
  | k + 1 => msk p k + if p k = true then 2 ^ k else 0
theorem msk_lt (p : Nat → Bool) : ∀ k, msk p k < 2 ^ k
  | 0 => Nat.one_pos
  | k + 1 => by
    have := msk_lt p k
    unfold msk
    rw [Nat.pow_succ]
    split <;> omega
theorem msk_bit (p : Nat → Bool) : ∀ k i, (msk p k).testBit i = (decide (i < k) && p i)
  | 0, i => by simp [msk]
  | k + 1, i => by
    have h1 := msk_bit p k
    have h2 := msk_lt p k
    unfold msk
    by_cases hp : p k = true
    · rw [if_pos hp, Nat.add_comm, show 2 ^ k = 2 ^ k * 1 by omega, Nat.two_pow_add_eq_or_of_lt h2, Nat.testBit_or, h1, Nat.mul_one, Nat.testBit_two_pow]
      by_cases e : k = i
      · subst e; simp [hp]
      · have : (decide (i < k + 1)) = decide (i < k) := by simp; omega
        simp [e, this]
    · rw [if_neg hp, Nat.add_zero, h1]
      by_cases e : i = k
      · subst e; simp [hp]
      · have : (decide (i < k + 1)) = decide (i < k) := by simp; omega
        rw [this]
theorem msk_or (p q : Nat → Bool) (k : Nat) : msk p k ||| msk q k = msk (fun i => p i || q i) k := by
  apply Nat.eq_of_testBit_eq
  intro i
  rw [Nat.testBit_or, msk_bit, msk_bit, msk_bit]
  cases decide (i < k) <;> simp
theorem msk_one {k c : Nat} (h : c < k) : msk (fun i => i == c) k = 2 ^ c := by
  apply Nat.eq_of_testBit_eq
  intro i
  rw [msk_bit, Nat.testBit_two_pow]
  by_cases e : i = c
  · subst e; simp [h]
  · have : ¬ c = i := fun z => e z.symm
    simp [e, this]
theorem msk_cong {p q : Nat → Bool} : ∀ {k}, (∀ i, i < k → p i = q i) → msk p k = msk q k
  | 0, _ => rfl
  | k + 1, h => by unfold msk; rw [msk_cong (fun i hi => h i (by omega)), h k (by omega)]
theorem msk_16 (p : Nat → Bool) : msk p 16 < 65536 := msk_lt p 16
