/-! ===== the class: signs, the current grammar, joining ===== -/
/-- a sign as the class writes it -/
def cs (s : Nat) : Nat := sgC (s / 625) (s % 625)
theorem bk_step : ∀ a, a < 624 → bk a < bk (a + 1) := by decide +kernel
theorem bk_mono {a b : Nat} (h : a < b) (hb : b < 625) : bk a < bk b := by
  induction b with
  | zero => omega
  | succ b ih =>
    have := bk_step b (by omega)
    by_cases e : a = b
    · subst e; exact this
    · have := ih (by omega) (by omega); omega
theorem cs_lt {a : Nat} (h : a < 10000) : cs a < 65536 := by
  have := bk_lt (a % 625) (Nat.mod_lt _ (by omega))
  unfold cs sgC; omega
theorem cs_mono {a b : Nat} (h : a < b) : cs a < cs b := by
  have h1 := bk_lt (a % 625) (Nat.mod_lt _ (by omega))
  have h2 := bk_lt (b % 625) (Nat.mod_lt _ (by omega))
  unfold cs sgC
  by_cases e : a / 625 = b / 625
  · have := bk_mono (a := a % 625) (b := b % 625) (by omega) (Nat.mod_lt _ (by omega))
    omega
  · omega
theorem cs_lt_iff {a b : Nat} : cs a < cs b ↔ a < b := by
  constructor
  · intro h
    rcases Nat.lt_trichotomy a b with z | z | z
    · exact z
    · subst z; omega
    · have := cs_mono z; omega
  · exact cs_mono
theorem cs_le_iff {a b : Nat} : cs a ≤ cs b ↔ a ≤ b := by
  have := cs_lt_iff (a := b) (b := a); omega
theorem cs_eq {a b : Nat} : cs a = cs b ↔ a = b := by
  have := cs_lt_iff (a := b) (b := a); have := cs_lt_iff (a := a) (b := b); omega
theorem cs_cat (a : Nat) : cs a / 4096 = a / 625 := by
  have := bk_lt (a % 625) (Nat.mod_lt _ (by omega))
  unfold cs sgC; omega
theorem cs_625 (c : Nat) : cs (625 * c) = 4096 * c := by
  unfold cs sgC
  rw [show 625 * c % 625 = 0 by omega, show 625 * c / 625 = c by omega, show bk 0 = 0 by decide]; rfl
theorem cs_mk {c k : Nat} (h : k < 625) : cs (625 * c + k) = sgC c k := by
  unfold cs; rw [show (625 * c + k) / 625 = c by omega, show (625 * c + k) % 625 = k by omega]
theorem shl12 : ∀ c, c < 17 → (nI c) <<< ((12 : Int32) &&& 31) = nI (4096 * c) := by decide +kernel
theorem shr12 {m : Nat} (h : m < 2147483648) : (nI m) >>> ((12 : Int32) &&& 31) = nI (m / 4096) := shr_n (y := 12) h (by omega)
theorem cs_bits {a : Nat} (h : a < 10000) : ((nI (cs a)) >>> ((9 : Int32) &&& 31)) &&& 7 = nI (dg (a % 625) 0) ∧ ((nI (cs a)) >>> ((6 : Int32) &&& 31)) &&& 7 = nI (dg (a % 625) 1) ∧ ((nI (cs a)) >>> ((3 : Int32) &&& 31)) &&& 7 = nI (dg (a % 625) 2) ∧ (nI (cs a)) &&& 7 = nI (dg (a % 625) 3) := by
  have hl := cs_lt h
  have e : ∀ f, dg (a % 625) f ≤ 4 := fun f => dg_le _ _
  have h0 := e 0; have h1 := e 1; have h2 := e 2; have h3 := e 3
  have hc : cs a = 4096 * (a / 625) + (dg (a % 625) 0 * 512 + dg (a % 625) 1 * 64 + dg (a % 625) 2 * 8 + dg (a % 625) 3) := rfl
  generalize dg (a % 625) 0 = d0 at *
  generalize dg (a % 625) 1 = d1 at *
  generalize dg (a % 625) 2 = d2 at *
  generalize dg (a % 625) 3 = d3 at *
  generalize cs a = x at *
  have m7 : ∀ n : Nat, nI n &&& (7 : Int32) = nI (n % 8) := fun n => fa_mask n 3
  refine ⟨?_, ?_, ?_, ?_⟩
  · rw [show (9 : Int32) = nI 9 from rfl, shr_n (by omega) (by omega), m7]; congr 1; omega
  · rw [show (6 : Int32) = nI 6 from rfl, shr_n (by omega) (by omega), m7]; congr 1; omega
  · rw [show (3 : Int32) = nI 3 from rfl, shr_n (by omega) (by omega), m7]; congr 1; omega
  · rw [m7]; congr 1; omega
theorem or_m1 (x : Int32) : x ||| (-1 : Int32) = -1 ∧ (-1 : Int32) ||| x = -1 := by
  refine ⟨?_, ?_⟩ <;> (apply Int32.toBitVec_inj.1; rw [Int32.toBitVec_or, show (-1 : Int32).toBitVec = BitVec.allOnes 32 by decide +kernel]; first | exact BitVec.or_allOnes | exact BitVec.allOnes_or)
theorem or4 : ∀ a, a < 5 → ∀ b, b < 5 → ∀ c, c < 5 → ∀ d, d < 5 → ((nI (a * 8 ^ (3 - 0)) ||| nI (b * 8 ^ (3 - 1))) ||| nI (c * 8 ^ (3 - 2))) ||| nI (d * 8 ^ (3 - 3)) = nI (bk (a * 125 + b * 25 + c * 5 + d)) := by decide +kernel
/-- the class's current grammar, at 37 -/
def entC (I : Nat → Int32) (A : Nat → Nat → Int32) (B : Nat → Nat → Int64) (es : List Entry) : Prop := I 3710 = nI es.length ∧ es.length ≤ 40 ∧ ∀ e, e < es.length → okE (es.getD e dE) ∧ B 38 e = lN (c32 (es.getD e dE).1) ∧ A 39 e = nI (cs (eSg (es.getD e dE)))
def tabC (A : Nat → Nat → Int32) (r : Nat) (laws : List Law) (sd : Nat) : Prop := ∀ f a b, f < 4 → a < 5 → b < sd → A 44 (100 * r + 25 * f + 5 * a + b) = mkD f (wDig f laws a b)
def rulZ (A : Nat → Nat → Int32) (r : Nat) (R : Rule) : Prop := A 40 r = nI R.1 ∧ A 41 r = nI R.2.1 ∧ A 42 r = o2i R.2.2.1 ∧ tabC A r R.2.2.2.1 (if R.2.2.1 = none then 1 else 5)
def rulC (I : Nat → Int32) (A : Nat → Nat → Int32) (rs : List Rule) : Prop := I 3711 = nI rs.length ∧ rs.length ≤ 30 ∧ ∀ r, r < rs.length → okR (rs.getD r dR) ∧ rulZ A r (rs.getD r dR)
def catC (I : Nat → Int32) (B : Nat → Nat → Int64) (cats : List (List Nat)) : Prop := I 3712 = nI cats.length ∧ cats.length ≤ 16 ∧ ∀ c, c < cats.length → vNm (cats.getD c []) ∧ B 45 c = lN (c32 (cats.getD c []))
def lstC (I : Nat → Int32) (A : Nat → Nat → Int32) (L : List Nat) : Prop := I 3713 = nI L.length ∧ ∀ i, i < L.length → A 47 i = nI (L.getD i 0)
def gC (I : Nat → Int32) (A : Nat → Nat → Int32) (B : Nat → Nat → Int64) (g : Gram) : Prop := entC I A B g.1 ∧ rulC I A g.2.1 ∧ catC I B g.2.2 ∧ lstC I A (sgL (clos g.2.1) g.2.1)
/-- the two grammars exchanged -/
def swI (I : Nat → Int32) : Nat → Int32 := fun i => if 3700 ≤ i ∧ i < 3800 then I (i + 1100) else if 4800 ≤ i ∧ i < 4900 then I (i - 1100) else I i
def swA {α : Type} (A : Nat → α) : Nat → α := fun p => if 37 ≤ p ∧ p < 48 then A (p + 11) else if 48 ≤ p ∧ p < 59 then A (p - 11) else A p
theorem gX_gC {I : Nat → Int32} {A : Nat → Nat → Int32} {B : Nat → Nat → Int64} {g : Gram} (h : gX I A B g) : gC (swI I) (swA A) (swA B) g := by
  obtain ⟨h1, h2, h3, h4⟩ := h
  refine ⟨⟨h1.1, h1.2.1, fun e he => ?_⟩, ⟨h2.1, h2.2.1, fun r hr => ⟨(h2.2.2 r hr).1, ?_⟩⟩, ⟨h3.1, h3.2.1, h3.2.2⟩, ⟨h4.1, h4.2⟩⟩
  · have := h1.2.2 e he
    refine ⟨this.1, this.2.1, ?_⟩
    unfold eSg
    rw [cs_mk this.1.2.2]; exact this.2.2
  · have := (h2.2.2 r hr).2
    exact ⟨this.1, this.2.1, this.2.2.1, this.2.2.2.2⟩
section C21
variable {l : Launch} {J : Nat → Int64} {Q : Option Value → XW → Prop} {d : Nat} {tgt cg fg : Value} {I : Nat → Int32} {A : Nat → Nat → Int32} {B : Nat → Nat → Int64}
theorem s_sumOf (hd : 1 ≤ d) {x y : Int64} {a b : Nat} (hx : x = lN (sat a)) (hy : y = lN (sat b)) (hQ : Q (some (.long (lN (sat (a + b))))) (wC tgt cg fg I J A B)) : xK l d 121 [.long x, .long y] (wC tgt cg fg I J A B) Q := by
  obtain ⟨d, rfl⟩ : ∃ e, d = e + 1 := ⟨d - 1, by omega⟩
  subst hx; subst hy
  rw [← sat_add] at hQ
  have ha := sat_le a
  have hb := sat_le b
  generalize sat a = a at ha hQ
  generalize sat b = b at hb hQ
  have hs : (1000000000000000 : Int64) - lN b = lN (1000000000000000 - b) := ln_sub (a := 1000000000000000) hb (by omega)
  refine e_X10_sumOf (if_if (P1 := 1000000000000000 - b ≤ a) (lg_ge.trans ?_) (fun h => ?_) (fun h => ?_))
  · rw [hs]; exact ln_le (by omega) (by omega)
  · rw [show sat (a + b) = 1000000000000000 by unfold sat; omega] at hQ; exact hQ
  · rw [sat_id (by omega)] at hQ; rw [ln_add]; exact hQ
theorem s_productOf (hd : 1 ≤ d) {x y : Int64} {a b : Nat} (hx : x = lN (sat a)) (hy : y = lN (sat b)) (hQ : Q (some (.long (lN (sat (a * b))))) (wC tgt cg fg I J A B)) : xK l d 122 [.long x, .long y] (wC tgt cg fg I J A B) Q := by
  obtain ⟨d, rfl⟩ : ∃ e, d = e + 1 := ⟨d - 1, by omega⟩
  subst hx; subst hy
  rw [← sat_mul] at hQ
  have ha := sat_le a
  have hb := sat_le b
  generalize sat a = a at ha hQ
  generalize sat b = b at hb hQ
  refine e_X10_productOf (if_if (lg_le.trans (ln_le (b := 0) (by omega) (by omega))) (fun h => ?_) (fun h1 => if_if (lg_gt.trans (ln_lt (a := 0) (by omega) (by omega))) (fun h2 => ⟨fun z => by have := (ln_eq (b := 0) (by omega) (by omega)).mp z; omega, ?_⟩) (fun h => ?_)))
  · rw [show a = 0 by omega, Nat.zero_mul] at hQ; exact hQ
  · have hdv : (1000000000000000 : Int64) / lN b = lN (1000000000000000 / b) := ln_div (a := 1000000000000000) (by omega) (by omega)
    have hdl : 1000000000000000 / b ≤ 1000000000000000 := Nat.div_le_self _ _
    rw [hdv]
    refine if_if (lg_le.trans (ln_le (by omega) (by omega))) (fun h => ?_) (fun h => ?_)
    · have := mul_small h
      rw [sat_id this] at hQ
      rw [ln_mul]; exact hQ
    · have := mul_big (b := b) (by omega) (Nat.lt_of_not_le h)
      rw [show sat (a * b) = 1000000000000000 by unfold sat; omega] at hQ; exact hQ
  · rw [show b = 0 by omega, Nat.mul_zero] at hQ; exact hQ
def cx (i j : Nat) : Nat := j * (j - 1) / 2 + i
theorem cx_tri : ∀ j, j < 15 → j * (j - 1) / 2 ≤ 91 ∧ (j * (j - 1) / 2) + j = (j + 1) * (j + 1 - 1) / 2 := by decide
theorem cx_step {j k : Nat} (h : j < k) : j * (j - 1) / 2 + j ≤ k * (k - 1) / 2 := by
  have e : j * (j - 1) + 2 * j = (j + 1) * j := by
    cases j with
    | zero => rfl
    | succ j => simp only [Nat.add_sub_cancel]; rw [Nat.add_mul (j + 1) 1, Nat.mul_succ (j + 1)]; omega
  have h2 : (j + 1) * j ≤ k * (k - 1) := Nat.mul_le_mul h (by omega)
  omega
theorem cx_lt {i j : Nat} (h : i < j) (hj : j ≤ 14) : cx i j < 105 := by
  have := (cx_tri j (by omega)).1
  unfold cx; omega
theorem cx_inj {i j a b : Nat} (h : i < j) (h2 : a < b) (e : cx i j = cx a b) : i = a ∧ j = b := by
  unfold cx at e
  rcases Nat.lt_trichotomy j b with z | z | z
  · have := cx_step z; omega
  · subst z; omega
  · have := cx_step z; omega
theorem cx_ok : ∀ i, i < 15 → ∀ j, j < 15 → (1 ≤ j) → ((nI j * (nI j - 1)) >>> ((1 : Int32) &&& 31)) + nI i = nI (cx i j) := by decide +kernel
theorem s_cellOf (hd : 1 ≤ d) {x y : Int32} {i j : Nat} (hx : x = nI i) (hy : y = nI j) (hij : i < j) (hj : j ≤ 14) (hQ : Q (some (.int (nI (cx i j)))) (wC tgt cg fg I J A B)) : xK l d 117 [.int x, .int y] (wC tgt cg fg I J A B) Q := by
  obtain ⟨d, rfl⟩ : ∃ e, d = e + 1 := ⟨d - 1, by omega⟩
  refine e_X10_cellOf ?_
  rw [hx, hy, cx_ok i (by omega) j (by omega) (by omega)]; exact hQ
theorem s_isSingle1 (hd : 1 ≤ d) {x : Int32} {r : Nat} {o : Option Nat} (hx : x = nI r) (hr : r < 30) (ho : A 42 r = o2i o) (h16 : ∀ c, o = some c → c < 16) (hQ : Q (some (.int (bI o.isNone))) (wC tgt cg fg I J A B)) : xK l d 40 [.ref 37, .int x] (wC tgt cg fg I J A B) Q := by
  obtain ⟨d, rfl⟩ : ∃ e, d = e + 1 := ⟨d - 1, by omega⟩
  refine e_X3_isSingle_g1 ⟨xin_of hx (by omega) (by omega), ?_⟩
  rw [cl_of hx (by omega), ho]
  cases o with
  | none => rw [show o2i none = -1 from rfl, if_neg (by decide)]; exact ⟨Or.inr rfl, hQ⟩
  | some c =>
    have := h16 c rfl
    exact if_le (a := 0) rfl (b := c) rfl (by omega) (by omega) (fun _ => ⟨Or.inl rfl, hQ⟩) (fun z => absurd z (by omega))
theorem s_root (hd : 1 ≤ d) {rc : Nat} (h : A 40 0 = nI rc) (hQ : Q (some (.int (nI rc))) (wC tgt cg fg I J A B)) : xK l d 39 [.ref 37] (wC tgt cg fg I J A B) Q := by
  obtain ⟨d, rfl⟩ : ∃ e, d = e + 1 := ⟨d - 1, by omega⟩
  refine e_X3_root ⟨by decide, ?_⟩
  rw [show A 40 ((0 : Int32)).toNatClampNeg = nI rc from h]; exact hQ
/-- a made sign, as the class gives it -/
def o2c (o : Option Nat) : Int32 := match o with
  | none => -1
  | some s => nI (cs s)
theorem mkD_v {f v : Nat} : mkD f (some v) = nI (v * 8 ^ (3 - f)) := rfl
theorem s_join (hd : 1 ≤ d) {x y z : Int32} {r a b : Nat} {R : Rule} (hx : x = nI r) (hr : r < 30) (hy : y = nI (cs a)) (ha : a < 10000) (hz : z = nI (cs b)) (hb : b < 10000) (hR : okR R) (hA : rulZ A r R) (h1 : R.2.2.1 = none → b = 0)
    (hQ : Q (some (.int (o2c (mkS R a b)))) (wC tgt cg fg I J A B)) : xK l d 47 [.ref 37, .int x, .int y, .int z] (wC tgt cg fg I J A B) Q := by
  obtain ⟨d, rfl⟩ : ∃ e, d = e + 1 := ⟨d - 1, by omega⟩
  subst hx; subst hy; subst hz
  obtain ⟨a0, a1, a2, a3⟩ := cs_bits ha
  obtain ⟨b0, b1, b2, b3⟩ := cs_bits hb
  have hw16 := hR.1
  have la : ∀ f, dg (a % 625) f ≤ 4 := fun f => dg_le _ _
  have lb : ∀ f, dg (b % 625) f < (if R.2.2.1 = none then 1 else 5) := fun f => by
    split
    · rename_i e; rw [h1 e, Nat.zero_mod, dg_0]; omega
    · have := dg_le (b % 625) f; omega
  have lb4 : ∀ f, dg (b % 625) f ≤ 4 := fun f => dg_le _ _
  have ht : ∀ f, f < 4 → A 44 (100 * r + 25 * f + 5 * dg (a % 625) f + dg (b % 625) f) = mkD f (wDig f R.2.2.2.1 (dg (a % 625) f) (dg (b % 625) f)) := fun f hf => hA.2.2.2 f _ _ hf (by have := la f; omega) (lb f)
  have i0 : nI r * 100 + nI (dg (a % 625) 0) * 5 + nI (dg (b % 625) 0) = nI (100 * r + 25 * 0 + 5 * dg (a % 625) 0 + dg (b % 625) 0) := by
    rw [show nI r * (100 : Int32) = nI (r * 100) from mul_of (b := 100) rfl rfl, show nI (dg (a % 625) 0) * (5 : Int32) = nI (dg (a % 625) 0 * 5) from mul_of (b := 5) rfl rfl, nI_add, nI_add]; congr 1; omega
  have i1 : nI r * 100 + 25 + nI (dg (a % 625) 1) * 5 + nI (dg (b % 625) 1) = nI (100 * r + 25 * 1 + 5 * dg (a % 625) 1 + dg (b % 625) 1) := by
    rw [show nI r * (100 : Int32) = nI (r * 100) from mul_of (b := 100) rfl rfl, show nI (dg (a % 625) 1) * (5 : Int32) = nI (dg (a % 625) 1 * 5) from mul_of (b := 5) rfl rfl, show (25 : Int32) = nI 25 from rfl, nI_add, nI_add, nI_add]; congr 1; omega
  have i2 : nI r * 100 + 50 + nI (dg (a % 625) 2) * 5 + nI (dg (b % 625) 2) = nI (100 * r + 25 * 2 + 5 * dg (a % 625) 2 + dg (b % 625) 2) := by
    rw [show nI r * (100 : Int32) = nI (r * 100) from mul_of (b := 100) rfl rfl, show nI (dg (a % 625) 2) * (5 : Int32) = nI (dg (a % 625) 2 * 5) from mul_of (b := 5) rfl rfl, show (50 : Int32) = nI 50 from rfl, nI_add, nI_add, nI_add]; congr 1; omega
  have i3 : nI r * 100 + 75 + nI (dg (a % 625) 3) * 5 + nI (dg (b % 625) 3) = nI (100 * r + 25 * 3 + 5 * dg (a % 625) 3 + dg (b % 625) 3) := by
    rw [show nI r * (100 : Int32) = nI (r * 100) from mul_of (b := 100) rfl rfl, show nI (dg (a % 625) 3) * (5 : Int32) = nI (dg (a % 625) 3 * 5) from mul_of (b := 5) rfl rfl, show (75 : Int32) = nI 75 from rfl, nI_add, nI_add, nI_add]; congr 1; omega
  have l0 := la 0; have l1 := la 1; have l2 := la 2; have l3 := la 3
  have m0 := lb4 0; have m1 := lb4 1; have m2 := lb4 2; have m3 := lb4 3
  refine e_X3_join ?_
  rw [a0, a1, a2, a3, b0, b1, b2, b3, i0, i1, i2, i3, cl_n (a := 100 * r + 25 * 0 + 5 * dg (a % 625) 0 + dg (b % 625) 0) (by omega), cl_n (a := 100 * r + 25 * 1 + 5 * dg (a % 625) 1 + dg (b % 625) 1) (by omega), cl_n (a := 100 * r + 25 * 2 + 5 * dg (a % 625) 2 + dg (b % 625) 2) (by omega), cl_n (a := 100 * r + 25 * 3 + 5 * dg (a % 625) 3 + dg (b % 625) 3) (by omega), ht 0 (by omega), ht 1 (by omega), ht 2 (by omega), ht 3 (by omega), cl_n (a := r) (by omega), hA.1]
  refine ⟨xin_n (by omega) (by omega), xin_n (by omega) (by omega), xin_n (by omega) (by omega), xin_n (by omega) (by omega), ?_⟩
  have hp : (if R.2.2.1 = none then 1 else 2) ≤ 2 := by split <;> omega
  have hql := hR.2.2.2.2.1
  have w4 : ∀ {f v : Nat}, wDig f R.2.2.2.1 (dg (a % 625) f) (dg (b % 625) f) = some v → v ≤ 4 := fun h => wDig_le hp hql (dg_le _ _) (dg_le _ _) h
  unfold mkS mkK at hQ
  have no : ∀ x : Int32, x = -1 → Q (some (.int (-1))) (wC tgt cg fg I J A B) → (if (0 : Int32) ≤ x then (xin (nI r) 30 ∧ Q (some (.int ((nI R.1 <<< ((12 : Int32) &&& 31)) ||| x))) (wC tgt cg fg I J A B)) else Q (some (.int (-1))) (wC tgt cg fg I J A B)) := fun x hx hq => by
    subst hx; rw [if_neg (by decide)]; exact hq
  cases e0 : wDig 0 R.2.2.2.1 (dg (a % 625) 0) (dg (b % 625) 0) with
  | none =>
    rw [e0] at hQ
    exact no _ (by rw [show mkD 0 none = -1 from rfl, (or_m1 _).2, (or_m1 _).2, (or_m1 _).2]) hQ
  | some v0 =>
    cases e1 : wDig 1 R.2.2.2.1 (dg (a % 625) 1) (dg (b % 625) 1) with
    | none =>
      rw [e0, e1] at hQ
      exact no _ (by rw [show mkD 1 none = -1 from rfl, (or_m1 _).1, (or_m1 _).2, (or_m1 _).2]) hQ
    | some v1 =>
      cases e2 : wDig 2 R.2.2.2.1 (dg (a % 625) 2) (dg (b % 625) 2) with
      | none =>
        rw [e0, e1, e2] at hQ
        exact no _ (by rw [show mkD 2 none = -1 from rfl, (or_m1 _).1, (or_m1 _).2]) hQ
      | some v2 =>
        cases e3 : wDig 3 R.2.2.2.1 (dg (a % 625) 3) (dg (b % 625) 3) with
        | none =>
          rw [e0, e1, e2, e3] at hQ
          exact no _ (by rw [show mkD 3 none = -1 from rfl, (or_m1 _).1]) hQ
        | some v3 =>
          rw [e0, e1, e2, e3] at hQ
          have k0 := w4 e0; have k1 := w4 e1; have k2 := w4 e2; have k3 := w4 e3
          have hQ' : Q (some (.int (nI (cs (625 * R.1 + (v0 * 125 + v1 * 25 + v2 * 5 + v3)))))) (wC tgt cg fg I J A B) := hQ
          rw [cs_mk (by omega)] at hQ'
          rw [mkD_v, mkD_v, mkD_v, mkD_v, or4 v0 (by omega) v1 (by omega) v2 (by omega) v3 (by omega), sgC_ok hw16 (by omega)]
          have hbl := bk_lt (v0 * 125 + v1 * 25 + v2 * 5 + v3) (by omega)
          exact if_le (a := 0) rfl rfl (by omega) (by omega) (fun _ => ⟨xin_n (by omega) (by omega), hQ'⟩) (fun z => absurd z (by omega))
end C21
