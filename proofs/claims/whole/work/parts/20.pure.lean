/-! ===== plain facts for the contracts ===== -/
theorem uu_i (f : Nat → Int32) (k : Nat) (a b : Int32) : upd (upd f k a) k b = upd f k b := by
  funext j; unfold upd; by_cases h : j = k <;> simp [h]
theorem uu_s (f : Nat → Int32) (k : Nat) : upd f k (f k) = f := by
  funext j; unfold upd; by_cases h : j = k <;> simp [h]
theorem uu_v {α : Type} (f : Nat → α) (k : Nat) (a b : α) : va_up (va_up f k a) k b = va_up f k b := by
  funext j; unfold va_up; by_cases h : j = k <;> simp [h]
theorem uu_vs {α : Type} (f : Nat → α) (k : Nat) : va_up f k (f k) = f := by
  funext j; unfold va_up; by_cases h : j = k <;> simp [h]
theorem ue_i (f : Nat → Int32) (k : Nat) (a : Int32) : upd f k a k = a := by simp [upd]
theorem un_i {f : Nat → Int32} {j k : Nat} {a : Int32} (h : j ≠ k) : upd f k a j = f j := by simp [upd, h]
theorem ue_v {α : Type} (f : Nat → α) (k : Nat) (a : α) : va_up f k a k = a := by simp [va_up]
theorem un_v {α : Type} {f : Nat → α} {j k : Nat} {a : α} (h : j ≠ k) : va_up f k a j = f j := by simp [va_up, h]
theorem ue_l (f : Nat → Int64) (k : Nat) (a : Int64) : vp_updL f k a k = a := by simp [vp_updL]
theorem un_l {f : Nat → Int64} {j k : Nat} {a : Int64} (h : j ≠ k) : vp_updL f k a j = f j := by simp [vp_updL, h]
/-- two updates at unlike places -/
theorem uc_i (f : Nat → Int32) {j k : Nat} (a b : Int32) (h : j ≠ k) : upd (upd f j a) k b = upd (upd f k b) j a := by
  funext i; unfold upd; by_cases h1 : i = k <;> by_cases h2 : i = j <;> simp_all
theorem li_n (n : Nat) : (OfNat.ofNat n : Int32) = nI n := rfl
theorem ll_n (n : Nat) : (OfNat.ofNat n : Int64) = lN n := rfl
theorem xin_n {i n : Nat} (h : i < n) (hn : n < 2147483648) : xin (nI i) n := by
  refine ⟨?_, ?_⟩ <;> rw [nI_toInt (by omega)] <;> omega
theorem xin_lt {i n : Nat} (hi : i < 2147483648) (h : xin (nI i) n) : i < n := by
  have := h.2; rw [nI_toInt (by omega)] at this; omega
theorem le_n {a b : Nat} (ha : a < 2147483648) (hb : b < 2147483648) : nI a ≤ nI b ↔ a ≤ b := nI_leI (by omega) (by omega)
theorem lt_n {a b : Nat} (ha : a < 2147483648) (hb : b < 2147483648) : nI a < nI b ↔ a < b := nI_ltI (by omega) (by omega)
theorem eq_n {a b : Nat} (ha : a < 2147483648) (hb : b < 2147483648) : nI a = nI b ↔ a = b := nI_eq (by omega) (by omega)
theorem cl_n {a : Nat} (ha : a < 2147483648) : (nI a).toNatClampNeg = a := nI_clamp (by omega)
theorem neg1_toInt : (-1 : Int32).toInt = -1 := by decide +kernel
theorem ne_m1 {a : Nat} (ha : a < 2147483648) : nI a ≠ -1 := by
  intro h
  have := congrArg Int32.toInt h
  rw [nI_toInt (by omega), neg1_toInt] at this
  omega
theorem nn_n {a : Nat} (ha : a < 2147483648) : ¬ nI a < 0 := nI_pos (by omega)
theorem sub_n {a b : Nat} (h : b ≤ a) : nI a - nI b = nI (a - b) := pk_sub h
/-- how far a run goes on from k, of m places at most -/
def skA (p : Nat → Bool) : Nat → Nat → Nat
  | 0, k => k
  | m + 1, k => if p k = true then skA p m (k + 1) else k
theorem skA_ge (p : Nat → Bool) : ∀ m k, k ≤ skA p m k
  | 0, k => Nat.le_refl k
  | m + 1, k => by
    unfold skA; split
    · exact Nat.le_trans (by omega) (skA_ge p m (k + 1))
    · exact Nat.le_refl k
theorem skA_le (p : Nat → Bool) : ∀ m k, skA p m k ≤ k + m
  | 0, k => Nat.le_refl k
  | m + 1, k => by
    unfold skA; split
    · have := skA_le p m (k + 1); omega
    · omega
theorem skA_in (p : Nat → Bool) : ∀ m k j, k ≤ j → j < skA p m k → p j = true
  | 0, k, j, h1, h2 => by simp [skA] at h2; omega
  | m + 1, k, j, h1, h2 => by
    unfold skA at h2
    by_cases h : p k = true
    · rw [if_pos h] at h2
      by_cases e : j = k
      · rw [e]; exact h
      · exact skA_in p m (k + 1) j (by omega) h2
    · rw [if_neg h] at h2; omega
theorem skA_stop (p : Nat → Bool) : ∀ m k, skA p m k < k + m → p (skA p m k) = false
  | 0, k, h => by simp [skA] at h
  | m + 1, k, h => by
    unfold skA at h ⊢
    by_cases e : p k = true
    · rw [if_pos e] at h ⊢
      exact skA_stop p m (k + 1) (by omega)
    · rw [if_neg e] at h ⊢
      simpa using e
/-- behind the run that goes on from k, in n places -/
def skN (p : Nat → Bool) (n k : Nat) : Nat := skA p (n - k) k
theorem skN_ge (p : Nat → Bool) (n k : Nat) : k ≤ skN p n k := skA_ge p _ k
theorem skN_le (p : Nat → Bool) {n k : Nat} (h : k ≤ n) : skN p n k ≤ n := by have := skA_le p (n - k) k; unfold skN; omega
theorem skN_stop (p : Nat → Bool) {n k : Nat} (h : k ≤ n) (h2 : skN p n k < n) : p (skN p n k) = false := skA_stop p _ k (by unfold skN at h2; omega)
theorem skN_in (p : Nat → Bool) {n k j : Nat} (h1 : k ≤ j) (h2 : j < skN p n k) : p j = true := skA_in p _ k j h1 h2
theorem skN_yes (p : Nat → Bool) {n k : Nat} (h : k < n) (e : p k = true) : skN p n k = skN p n (k + 1) := by
  unfold skN
  rw [show n - k = (n - (k + 1)) + 1 by omega]
  conv => lhs; unfold skA
  rw [if_pos e]
theorem skN_no (p : Nat → Bool) {n k : Nat} (e : p k = false) : skN p n k = k := by
  unfold skN
  cases h : n - k with
  | zero => rfl
  | succ m => unfold skA; rw [if_neg (by rw [e]; decide)]
theorem skN_end (p : Nat → Bool) {n k : Nat} (h : n ≤ k) : skN p n k = k := by
  unfold skN; rw [show n - k = 0 by omega]; rfl
/-- kinds of bytes -/
def isBl (b : Nat) : Bool := b == 32 || b == 10
def isLe (b : Nat) : Bool := Nat.ble 97 b && Nat.ble b 122
def isDi (b : Nat) : Bool := Nat.ble 48 b && Nat.ble b 57
theorem isBl_iff {b : Nat} : isBl b = true ↔ b = 32 ∨ b = 10 := by simp [isBl]
theorem isLe_iff {b : Nat} : isLe b = true ↔ 97 ≤ b ∧ b ≤ 122 := by simp [isLe, Nat.ble_eq]
theorem isDi_iff {b : Nat} : isDi b = true ↔ 48 ≤ b ∧ b ≤ 57 := by simp [isDi, Nat.ble_eq]
/-- a byte of the class: signed -/
def sb (b : Nat) : Int32 := if b < 128 then nI b else nI b - 256
theorem sb_eq : ∀ b, b < 256 → ∀ c, c < 128 → (sb b = nI c ↔ b = c) := by decide +kernel
theorem sb_le : ∀ b, b < 256 → ∀ c, c < 128 → (sb b < nI c ↔ (b < c ∨ 128 ≤ b)) := by decide +kernel
theorem sb_gt : ∀ b, b < 256 → ∀ c, c < 128 → (nI c < sb b ↔ (c < b ∧ b < 128)) := by decide +kernel
theorem sb_lo {b : Nat} (h : b < 128) : sb b = nI b := if_pos h
/-- the reference's tape of n bytes t; the class's -/
def tpM (A : Nat → Nat → Int32) (t : Nat → Nat) (n : Nat) : Prop := n ≤ 1540 ∧ ∀ i, i < n → t i < 256 ∧ A 1 i = nI (t i)
def tpX (A : Nat → Nat → Int32) (t : Nat → Nat) (n : Nat) : Prop := n ≤ 1540 ∧ ∀ i, i < n → t i < 256 ∧ A 2 i = sb (t i)
/-- a test, by what it says of the numbers behind it -/
theorem if_le {x y : Int32} {a b : Nat} {P R : Prop} (hx : x = nI a) (hy : y = nI b) (ha : a < 2147483648) (hb : b < 2147483648) (h1 : a ≤ b → P) (h2 : b < a → R) : if x ≤ y then P else R := by
  subst hx; subst hy
  by_cases h : a ≤ b
  · rw [if_pos ((le_n ha hb).mpr h)]; exact h1 h
  · rw [if_neg (fun q => h ((le_n ha hb).mp q))]; exact h2 (by omega)
theorem if_lt {x y : Int32} {a b : Nat} {P R : Prop} (hx : x = nI a) (hy : y = nI b) (ha : a < 2147483648) (hb : b < 2147483648) (h1 : a < b → P) (h2 : b ≤ a → R) : if x < y then P else R := by
  subst hx; subst hy
  by_cases h : a < b
  · rw [if_pos ((lt_n ha hb).mpr h)]; exact h1 h
  · rw [if_neg (fun q => h ((lt_n ha hb).mp q))]; exact h2 (by omega)
theorem if_eq {x y : Int32} {a b : Nat} {P R : Prop} (hx : x = nI a) (hy : y = nI b) (ha : a < 2147483648) (hb : b < 2147483648) (h1 : a = b → P) (h2 : a ≠ b → R) : if x = y then P else R := by
  subst hx; subst hy
  by_cases h : a = b
  · rw [if_pos ((eq_n ha hb).mpr h)]; exact h1 h
  · rw [if_neg (fun q => h ((eq_n ha hb).mp q))]; exact h2 h
theorem if_if {c P1 : Prop} [Decidable c] {P R : Prop} (e : c ↔ P1) (h1 : P1 → P) (h2 : ¬ P1 → R) : if c then P else R := by
  by_cases h : c
  · rw [if_pos h]; exact h1 (e.mp h)
  · rw [if_neg h]; exact h2 (fun q => h (e.mpr q))
theorem if_b {b : Bool} {x : Int32} {P R : Prop} (hx : x = (if b = true then 1 else 0)) (h1 : b = false → P) (h2 : b = true → R) : if x = 0 then P else R := by
  subst hx
  cases b
  · rw [if_pos (by rfl)]; exact h1 rfl
  · rw [if_neg (by decide)]; exact h2 rfl
theorem xin_of {x : Int32} {a n : Nat} (hx : x = nI a) (h : a < n) (hn : n < 2147483648) : xin x n := by subst hx; exact xin_n h hn
theorem cl_of {x : Int32} {a : Nat} (hx : x = nI a) (h : a < 2147483648) : x.toNatClampNeg = a := by subst hx; exact cl_n h
theorem add_of {x y : Int32} {a b : Nat} (hx : x = nI a) (hy : y = nI b) : x + y = nI (a + b) := by subst hx; subst hy; exact nI_add a b
theorem mul_of {x y : Int32} {a b : Nat} (hx : x = nI a) (hy : y = nI b) : x * y = nI (a * b) := by subst hx; subst hy; exact pk_mul a b
theorem sub_of {x y : Int32} {a b : Nat} (hx : x = nI a) (hy : y = nI b) (h : b ≤ a) : x - y = nI (a - b) := by subst hx; subst hy; exact pk_sub h
/-- names: letters 1 to 26, as the reference and as the class write them into one number -/
def c27 (l : List Nat) : Nat := l.foldl (fun a x => 27 * a + x) 0
def c32 (l : List Nat) : Nat := l.foldl (fun a x => 32 * a + x) 0
/-- bytes from k to e - 1, as letters -/
def ltr (t : Nat → Nat) (k e : Nat) : List Nat := (List.range (e - k)).map fun i => t (k + i) - 96
def isLD (b : Nat) : Bool := isLe b || isDi b
def allLe (t : Nat → Nat) (k e : Nat) : Bool := (List.range (e - k)).all fun i => isLe (t (k + i))
/-- of the run of letters and digits that begins at k: 2 a name, 3 a number, 1 none -/
def nmK (t : Nat → Nat) (n k : Nat) : Nat := if allLe t k (skN (fun i => isLD (t i)) n k) = true ∧ skN (fun i => isLD (t i)) n k ≤ k + 10 then 2 else if isDi (t k) = true ∧ skN (fun i => isLD (t i)) n k = k + 1 then 3 else 1
theorem allLe_iff {t : Nat → Nat} {k e : Nat} : allLe t k e = true ↔ ∀ i, k ≤ i → i < e → isLe (t i) = true := by
  unfold allLe
  rw [List.all_eq_true]
  constructor
  · intro h i h1 h2
    have := h (i - k) (List.mem_range.mpr (by omega))
    rwa [show k + (i - k) = i by omega] at this
  · intro h i hi
    have := List.mem_range.mp hi
    exact h (k + i) (by omega) (by omega)
theorem ltr_succ {t : Nat → Nat} {k e : Nat} (h : k ≤ e) : ltr t k (e + 1) = ltr t k e ++ [t e - 96] := by
  unfold ltr
  rw [show e + 1 - k = (e - k) + 1 by omega, List.range_succ, List.map_append]
  simp [show k + (e - k) = e by omega]
theorem c27_snoc (l : List Nat) (x : Nat) : c27 (l ++ [x]) = 27 * c27 l + x := by simp [c27]
theorem c32_snoc (l : List Nat) (x : Nat) : c32 (l ++ [x]) = 32 * c32 l + x := by simp [c32]
/-- the token from p on -/
def tqS (t : Nat → Nat) (n p : Nat) : Nat := skN (fun i => isBl (t i)) n p
def tkK (t : Nat → Nat) (n p : Nat) : Nat := if 1500 < n ∧ 1500 ≤ tqS t n p then 1 else if n ≤ tqS t n p then 0 else if isLD (t (tqS t n p)) = true then nmK t n (tqS t n p) else if t (tqS t n p) = 61 ∨ t (tqS t n p) = 59 then 4 else 1
def tkF (t : Nat → Nat) (n p : Nat) : Nat := if 1500 < n ∧ 1500 ≤ tqS t n p then 1500 else tqS t n p
def tkE (t : Nat → Nat) (n p : Nat) : Nat := if 1500 < n ∧ 1500 ≤ tqS t n p then tqS t n p else if n ≤ tqS t n p then tqS t n p else if isLD (t (tqS t n p)) = true then skN (fun i => isLD (t i)) n (tqS t n p) else tqS t n p + 1
def tkN (t : Nat → Nat) (n p : Nat) : List Nat := ltr t (tqS t n p) (skN (fun i => isLD (t i)) n (tqS t n p))
def tkD (t : Nat → Nat) (n p : Nat) : Nat := t (tqS t n p) - 48
def tkC (t : Nat → Nat) (n p : Nat) : Nat := t (tqS t n p)
