/-! ===== Integer.bitCount of sixteen bits: byte by byte ===== -/
theorem and_split {x y X Y : Nat} (hy : y < 256) (hY : Y < 256) : (256 * x + y) &&& (256 * X + Y) = 256 * (x &&& X) + (y &&& Y) := by
  have h1 : ((256 * x + y) &&& (256 * X + Y)) / 2 ^ 8 = x &&& X := by
    rw [Nat.and_div_two_pow, show (256 * x + y) / 2 ^ 8 = x by omega, show (256 * X + Y) / 2 ^ 8 = X by omega]
  have h2 : ((256 * x + y) &&& (256 * X + Y)) % 2 ^ 8 = y &&& Y := by
    rw [Nat.and_mod_two_pow, show (256 * x + y) % 2 ^ 8 = y by omega, show (256 * X + Y) % 2 ^ 8 = Y by omega]
  omega
def c1 (b : Nat) : Nat := b - (b / 2 &&& 85)
def c2 (b : Nat) : Nat := (b &&& 51) + (b / 4 &&& 51)
def c3 (b : Nat) : Nat := (b + b / 16) &&& 15
theorem d_1 : ∀ a, a < 256 → a / 2 &&& 5592405 = a / 2 &&& 85 ∧ a / 2 &&& 85 ≤ a := by decide +kernel
theorem d_1b : ∀ x, x < 2 → ∀ b, b < 256 → (128 * x + b / 2) &&& 85 = b / 2 &&& 85 := by decide +kernel
theorem d_2 : ∀ a, a < 256 → a &&& 3355443 = a &&& 51 ∧ a / 4 &&& 3355443 = a / 4 &&& 51 := by decide +kernel
theorem d_2b : ∀ x, x < 4 → ∀ b, b < 256 → (64 * x + b / 4) &&& 51 = b / 4 &&& 51 := by decide +kernel
theorem d_3 : ∀ a, a < 256 → a &&& 986895 = a &&& 15 := by decide +kernel
theorem d_q : ∀ a, a < 256 → c1 a < 256 ∧ c2 (c1 a) ≤ 68 ∧ c2 (c1 a) % 16 ≤ 4 ∧ c3 (c2 (c1 a)) ≤ 8 := by decide +kernel
theorem d_p : ∀ a, a < 256 → c3 (c2 (c1 a)) = pcN a 8 := by decide +kernel
theorem bn_1 {a b : Nat} (ha : a < 256) (hb : b < 256) : bn1 (256 * a + b) = 256 * c1 a + c1 b := by
  unfold bn1 c1
  rw [show (256 * a + b) / 2 = 256 * (a / 2) + (128 * (a % 2) + b / 2) by omega, show (1431655765 : Nat) = 256 * 5592405 + 85 by omega, and_split (by omega) (by omega), d_1b (a % 2) (by omega) b hb, (d_1 a ha).1]
  have h1 := (d_1 a ha).2
  have h2 := (d_1 b hb).2
  omega
theorem bn_2 {a b : Nat} (ha : a < 256) (hb : b < 256) : bn2 (256 * a + b) = 256 * c2 a + c2 b := by
  unfold bn2 c2
  rw [show (256 * a + b) / 4 = 256 * (a / 4) + (64 * (a % 4) + b / 4) by omega, show (858993459 : Nat) = 256 * 3355443 + 51 by omega, and_split (by omega) (by omega), and_split (by omega) (by omega), d_2b (a % 4) (by omega) b hb, (d_2 a ha).1, (d_2 a ha).2]
  omega
theorem bn_3 {a b : Nat} (ha : a ≤ 68) (hb : b ≤ 68) (ha4 : a % 16 ≤ 4) : bn3 (256 * a + b) = 256 * c3 a + c3 b := by
  unfold bn3 c3
  rw [show 256 * a + b + (256 * a + b) / 16 = 256 * (a + a / 16) + (b + 16 * (a % 16) + b / 16) by omega, show (252645135 : Nat) = 256 * 986895 + 15 by omega, and_split (by omega) (by omega), d_3 (a + a / 16) (by omega)]
  have e1 : ∀ v : Nat, v &&& 15 = v % 16 := fun v => Nat.and_two_pow_sub_one_eq_mod v 4
  rw [e1, e1, e1]
  omega
theorem pc_lo {a b : Nat} : ∀ k, k ≤ 8 → pcN (256 * a + b) k = pcN b k
  | 0, _ => rfl
  | k + 1, hk => by
    show pcN (256 * a + b) k + (256 * a + b) / 2 ^ k % 2 = pcN b k + b / 2 ^ k % 2
    rw [pc_lo k (by omega)]
    have e : 256 * a + b = 2 ^ k * (2 * (2 ^ (7 - k) * a)) + b := by
      have h : (256 : Nat) = 2 ^ k * (2 * 2 ^ (7 - k)) := by
        rw [← Nat.pow_succ', ← Nat.pow_add, show k + (7 - k + 1) = 8 by omega]
      conv => lhs; rw [h]
      rw [Nat.mul_assoc, Nat.mul_assoc]
    rw [e, Nat.mul_add_div (Nat.two_pow_pos k)]
    omega
theorem pc_hi {a b : Nat} (hb : b < 256) : ∀ k, pcN (256 * a + b) (8 + k) = pcN b 8 + pcN a k
  | 0 => pc_lo 8 (by omega)
  | k + 1 => by
    show pcN (256 * a + b) (8 + k) + (256 * a + b) / 2 ^ (8 + k) % 2 = pcN b 8 + (pcN a k + a / 2 ^ k % 2)
    rw [pc_hi hb k, Nat.pow_add, ← Nat.div_div_eq_div_mul, show (256 * a + b) / 2 ^ 8 = a by omega]
    omega
theorem bc_pc {m : Nat} (h : m < 65536) : bcN m = pcN m 16 := by
  obtain ⟨a, b, ha, hb, rfl⟩ : ∃ a b, a < 256 ∧ b < 256 ∧ m = 256 * a + b := ⟨m / 256, m % 256, by omega, by omega, by omega⟩
  have qa := d_q a ha
  have qb := d_q b hb
  unfold bcN
  rw [bn_1 ha hb, bn_2 qa.1 qb.1, bn_3 qa.2.1 qb.2.1 qa.2.2.1]
  have e1 : ∀ v : Nat, v &&& 63 = v % 64 := fun v => Nat.and_two_pow_sub_one_eq_mod v 6
  have hp : pcN (256 * a + b) 16 = pcN a 8 + pcN b 8 := by rw [show (16 : Nat) = 8 + 8 from rfl, pc_hi hb 8]; omega
  rw [e1, hp, ← d_p a ha, ← d_p b hb]
  have h1 := qa.2.2.2
  have h2 := qb.2.2.2
  generalize c3 (c2 (c1 a)) = P at *
  generalize c3 (c2 (c1 b)) = S at *
  unfold bn4 bn5
  rw [show (256 * P + S) / 256 = P by omega, show (256 * P + S + P) / 65536 = 0 by omega]
  omega
section C16
variable {l : Launch} {J : Nat → Int64} {Q : Option Value → XW → Prop} {d : Nat} {tgt cg fg : Value} {I : Nat → Int32} {A : Nat → Nat → Int32} {B : Nat → Nat → Int64}
theorem s_bitCount (hd : 1 ≤ d) {x : Int32} {f : Nat → Nat → Bool} {c : Nat} (hx : x = nI (msk (f c) 16)) (hQ : Q (some (.int (nI (cntC f c)))) (wC tgt cg fg I J A B)) : xK l d 191 [.int x] (wC tgt cg fg I J A B) Q := by
  obtain ⟨d, rfl⟩ : ∃ e, d = e + 1 := ⟨d - 1, by omega⟩
  refine e_J6_bitCount_0f7a4 ?_
  show Q (some (.int (bcI x))) _
  rw [hx, bc_N (msk_16 _), bc_pc (msk_16 _), pcN_msk 16 (Nat.le_refl _)]
  exact hQ
end C16
