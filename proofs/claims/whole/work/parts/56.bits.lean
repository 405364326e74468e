/-! ===== Integer.bitCount of sixteen bits ===== -/
def ush (x k : Int32) : Int32 := (x.toUInt32 >>> (k.toUInt32 &&& Int32.toUInt32 31)).toInt32
theorem ush_c : ∀ k, k < 32 → ((nI k).toUInt32 &&& Int32.toUInt32 31) = UInt32.ofNat k := by decide +kernel
theorem ush_n {m k : Nat} (hm : m < 2147483648) (hk : k < 32) : ush (nI m) (nI k) = nI (m / 2 ^ k) := by
  unfold ush
  rw [ush_c k hk]
  apply Int32.toBitVec_inj.1
  apply BitVec.eq_of_toNat_eq
  show ((nI m).toUInt32 >>> UInt32.ofNat k).toNat = (BitVec.ofNat 32 _).toNat
  have h1 : (UInt32.ofNat k).toNat = k := by
    show (BitVec.ofNat 32 k).toNat = k
    rw [BitVec.toNat_ofNat, Nat.mod_eq_of_lt (by omega)]
  have h2 : (nI m).toUInt32.toNat = m := by
    show (BitVec.ofNat 32 m).toNat = m
    rw [BitVec.toNat_ofNat, Nat.mod_eq_of_lt (by omega)]
  have hd : m / 2 ^ k ≤ m := Nat.div_le_self _ _
  rw [UInt32.toNat_shiftRight, h1, h2, Nat.mod_eq_of_lt hk, Nat.shiftRight_eq_div_pow, BitVec.toNat_ofNat, Nat.mod_eq_of_lt (by omega)]
def bc1 (x : Int32) : Int32 := x - (ush x 1 &&& 1431655765)
def bc2 (x : Int32) : Int32 := (x &&& 858993459) + (ush x 2 &&& 858993459)
def bc3 (x : Int32) : Int32 := (x + ush x 4) &&& 252645135
def bc4 (x : Int32) : Int32 := x + ush x 8
def bc5 (x : Int32) : Int32 := x + ush x 16
def bcI (x : Int32) : Int32 := bc5 (bc4 (bc3 (bc2 (bc1 x)))) &&& 63
def bn1 (m : Nat) : Nat := m - (m / 2 &&& 1431655765)
def bn2 (m : Nat) : Nat := (m &&& 858993459) + (m / 4 &&& 858993459)
def bn3 (m : Nat) : Nat := (m + m / 16) &&& 252645135
def bn4 (m : Nat) : Nat := m + m / 256
def bn5 (m : Nat) : Nat := m + m / 65536
def bcN (m : Nat) : Nat := bn5 (bn4 (bn3 (bn2 (bn1 m)))) &&& 63
theorem bc_N {m : Nat} (hm : m < 65536) : bcI (nI m) = nI (bcN m) := by
  have a1 : m / 2 &&& 1431655765 ≤ m / 2 := Nat.and_le_left
  have b1 : bn1 m ≤ m := by unfold bn1; omega
  have e1 : bc1 (nI m) = nI (bn1 m) := by
    unfold bc1 bn1
    rw [show ush (nI m) 1 = nI (m / 2) from ush_n (k := 1) (by omega) (by omega), show (1431655765 : Int32) = nI 1431655765 from rfl, fa_and, sub_n (by omega)]
  have a2 : bn1 m &&& 858993459 ≤ bn1 m := Nat.and_le_left
  have a3 : bn1 m / 4 &&& 858993459 ≤ bn1 m / 4 := Nat.and_le_left
  have b2 : bn2 (bn1 m) ≤ 2 * m := by show (bn1 m &&& 858993459) + (bn1 m / 4 &&& 858993459) ≤ _; omega
  have e2 : bc2 (nI (bn1 m)) = nI (bn2 (bn1 m)) := by
    show (nI (bn1 m) &&& 858993459) + (ush (nI (bn1 m)) 2 &&& 858993459) = nI ((bn1 m &&& 858993459) + (bn1 m / 4 &&& 858993459))
    rw [show ush (nI (bn1 m)) 2 = nI (bn1 m / 4) from ush_n (k := 2) (by omega) (by omega), show (858993459 : Int32) = nI 858993459 from rfl, fa_and, fa_and, add_of rfl rfl]
  generalize hq : bn2 (bn1 m) = q at *
  have a4 : (q + q / 16) &&& 252645135 ≤ q + q / 16 := Nat.and_le_left
  have b3 : bn3 q ≤ 4 * m := by show (q + q / 16) &&& 252645135 ≤ _; omega
  have e3 : bc3 (nI q) = nI (bn3 q) := by
    show (nI q + ush (nI q) 4) &&& 252645135 = nI ((q + q / 16) &&& 252645135)
    rw [show ush (nI q) 4 = nI (q / 16) from ush_n (k := 4) (by omega) (by omega), show (252645135 : Int32) = nI 252645135 from rfl, add_of rfl rfl, fa_and]
  generalize hr : bn3 q = r at *
  have b4 : bn4 r ≤ 8 * m := by show r + r / 256 ≤ _; omega
  have e4 : bc4 (nI r) = nI (bn4 r) := by
    show nI r + ush (nI r) 8 = nI (r + r / 256)
    rw [show ush (nI r) 8 = nI (r / 256) from ush_n (k := 8) (by omega) (by omega), add_of rfl rfl]
  have e5 : bc5 (nI (bn4 r)) = nI (bn5 (bn4 r)) := by
    show nI (bn4 r) + ush (nI (bn4 r)) 16 = nI (bn4 r + bn4 r / 65536)
    rw [show ush (nI (bn4 r)) 16 = nI (bn4 r / 65536) from ush_n (k := 16) (by omega) (by omega), add_of rfl rfl]
  unfold bcI bcN
  rw [e1, e2, e3, e4, e5, show (63 : Int32) = nI 63 from rfl, fa_and, hq, hr]
def pcN (m : Nat) : Nat → Nat
  | 0 => 0
  | k + 1 => pcN m k + m / 2 ^ k % 2
theorem pcN_msk {p : Nat → Bool} {K : Nat} : ∀ k, k ≤ K → pcN (msk p K) k = (List.range k).countP p
  | 0, _ => rfl
  | k + 1, h => by
    rw [List.range_succ, List.countP_append]
    show pcN (msk p K) k + msk p K / 2 ^ k % 2 = _
    rw [pcN_msk k (by omega)]
    have h1 := msk_bit p K k
    rw [Nat.testBit_eq_decide_div_mod_eq] at h1
    have h2 : decide (k < K) = true := by simp; omega
    rw [h2, Bool.true_and] at h1
    cases hp : p k with
    | true => rw [hp] at h1; simp at h1; simp [hp, h1]
    | false => rw [hp] at h1; simp at h1; simp [hp, h1]
