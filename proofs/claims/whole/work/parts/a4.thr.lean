/-! ===== the four methods of the class that throw: their refused calls ===== -/
abbrev xGX (l : Launch) (XC : XCt) (d k : Nat) (Ret : Option Value → XW → Prop) (pc : Nat) (L : XLs) (st : List Value) (w : XW) (nc ns : Nat) : Prop := xWGX l xTB xNW vwCl mR XC d k Ret pc L st w nc ns
theorem xgoRX {l : Launch} {XC : XCt} {d k : Nat} {y : MethodName} {c : ByteArray} {ml : Nat} {ret : Option FieldType} {ini : Bool} {po : Nat → Option XP} {fe : Nat → Option XRow} {mc ms : Nat} (hr : mR k = (y, c, ml, ret, ini, po, fe, mc, ms)) {Ret : Option Value → XW → Prop} (stops : List Nat) (n : Nat) {pc : Nat} {L : XLs} {st : List Value} {w : XW} {nc ns : Nat}
    (h : xF ml po ret ini 1 6 xdf xal (xcl l xTB xNW vwCl mR d) Ret fe (xrun ml po ret ini 1 6 xdf xal (xcl l xTB xNW vwCl mR d) Ret fe stops (xWGX l xTB xNW vwCl mR XC d k Ret) n) pc L st w nc ns) : xGX l XC d k Ret pc L st w nc ns := by
  have h9 := xgoX (l := l) (XC := XC) (d := d) (k := k) (Ret := Ret) xok stops n (pc := pc) (L := L) (st := st) (w := w) (nc := nc) (ns := ns)
  rw [hr] at h9
  exact h9 h
def thE : String := "java/util/NoSuchElementException"
def thN : List String := ["java/lang/RuntimeException", "java/lang/Exception"]
/-- thrown, and the world is as it was -/
def XCw (w : XW) : XCt := fun A D cid ad sa E st t => E = thE ∧ va_P D vwCl (cw ad sa cid w) t.heap ∧ va_D A (cw ad sa cid w) ∧ va_F A st t
def thX : List Cond := (thA "TreeSchool" 148 thE 13 prog_22_method_4_code thN).filter vx_no
theorem th_tbl : ∀ w ∈ Cond.classLink "TreeSchool" 144 thE :: Cond.initialized thE :: thX, (w ∈ lw_tbl ∧ goodWord w = true) ∨ w ∈ thW := by decide +kernel
theorem th_ot : ∀ w ∈ Cond.classLink "TreeSchool" 144 thE :: Cond.initialized thE :: thX, vx_ot w = true := by decide +kernel
theorem th_on : ∀ w ∈ thW, w.onTables = true := by decide +kernel
theorem th_fit : Bundle.fit thE = true ∧ ∀ n ∈ thN, Bundle.fit n = true := by decide +kernel
section TH
variable {l : Launch} {d k pc : Nat} {Ret : Option Value → XW → Prop} {L : XLs} {w : XW}
theorem thr_at {is : Nat} {text : String} (hl : l.stackTraces = false) (hd : 6 ≤ d) (hk : (xY (mR k)).cls = "TreeSchool") (hs : ∀ (A : Nat → Prop) (s : State) (H : Heap), TF A s H → ∃ a, vk_R "TreeSchool" is text a s)
    (d0 : decode (xC (mR k)) pc = .ok (.new 144, 3)) (d3 : decode (xC (mR k)) (pc + 3) = .ok (.dup, 1)) (d4 : decode (xC (mR k)) (pc + 4) = .ok (.ldc is, 2)) (d6 : decode (xC (mR k)) (pc + 6) = .ok (.invokespecial 148, 3)) (d9 : decode (xC (mR k)) (pc + 9) = .ok (.athrow, 1)) :
    xGX l (XCw w) d k Ret pc L [] w 0 0 := by
  intro p e s m args below meth c A D cid ad0 n0 sa ad H locs ls fx had hnc hn0 hP hD hS hlv
  obtain ⟨⟨hx, hb, hr, hml, hown, hts, hlocks, hname, hnw, hK, hA, hst⟩, hTF, htab⟩ := fx
  have e0 := hnc rfl
  subst e0
  have hT : ∀ w ∈ xTB, w.before args s = true := fun w q => hts w (List.mem_cons_of_mem _ q)
  have hw : ∀ w ∈ Cond.classLink "TreeSchool" 144 thE :: Cond.initialized thE :: thX, w.before args s = true := fun w q => by
    rcases th_tbl w q with z | z
    · exact hT w (xmT z.1 z.2)
    · exact va_Nw.use (th_on w z) (hTF.2.2.2.2.2 w z)
  obtain ⟨a, ha⟩ := hs _ _ _ hTF
  rw [hk] at hown
  refine ythrow (own := "TreeSchool") (cls := thE) (text := text) (names := thN) (ik := 144) (is := is) (ic := 148) (sa := a) (A := A) (ix := 13) (rx := prog_22_method_4_code) hx hb hl (by decide +kernel) (by decide +kernel) (by decide +kernel) (by decide +kernel) hown th_fit.1 th_fit.2 (hw _ List.mem_cons_self) (hw _ (List.mem_cons_of_mem _ List.mem_cons_self)) ha (fun w q => hw w (List.mem_cons_of_mem _ (List.mem_cons_of_mem _ q)))
    th_ot hTF.1 hTF.2.1 hS (by rw [hlv.1, hml]) d0 d3 d4 d6 d9 (fun x q => (htab x q).elim) (by show 2 + 3 < d + 1; omega) (by show 0 + (13 * (2 + 1) + 43) ≤ 60 * (d + 1); omega) (Nat.le_refl 1) (Nat.le_refl 6) hlocks (fun t _ z1 z2 => ⟨rfl, hP.kept (fun k q hk => z2 _ (hP k q hk).lt), hD, Nat.le_trans hS.1 z1, fun q y1 y2 => ?_⟩) hS.2.2 (Nat.le_refl 1) (Nat.le_refl 6)
  rw [z2 q (Nat.lt_of_lt_of_le y1 hS.1)]
  exact hS.2.1 q y1 y2
/-- a refused call: it throws, and the world is as it was -/
def xTh (l : Launch) (d k : Nat) (args : List Value) (w : XW) : Prop :=
  ∀ (dC : Nat → ClassId) (dI : Nat → Nat → Nat) (cid : Nat → ClassId) (ad : Nat → Nat) (sa sz : Nat), vx_Met l (xY (mR k)) (xWs xTB (mR k)) (xRoomX d)
    (va_Pc (args.map (rV ad sa)) (fun U => U.heap.size = sz ∧ va_P (dC, dI) vwCl (cw ad sa cid w) U.heap ∧ va_K (dC, dI) vwCl (xTys cid) U ∧ va_D (fun _ => True) (cw ad sa cid w) ∧ (∀ z ∈ xNW, va_Nw z U) ∧ xStat sa (va_A (cw ad sa cid w) sz) U U.heap ∧ TF (va_A (cw ad sa cid w) sz) U U.heap))
    (xQc ad w.length 1 sa cid (dC, dI) vwCl (va_A (cw ad sa cid w) sz) (fun _ _ => False)) (XCw w (va_A (cw ad sa cid w) sz) (dC, dI) cid ad sa) 1 6 (va_A (cw ad sa cid w) sz)
end TH
section TS
variable {l : Launch} {d : Nat} {S : St} {tgt cg fg : Value} {I : Nat → Int32} {J : Nat → Int64} {A : Nat → Nat → Int32} {B : Nat → Nat → Int64}
set_option maxRecDepth 40000 in
theorem t_sign_18 (hl : l.stackTraces = false) (hd : 6 ≤ d) {x1 x2 x3 x4 r : Int32} (hr : r = 0) : xGX l (XCw (wC tgt cg fg I J A B)) d 99 (fun _ _ => False) 18 [some (.ref 0), some (.int x1), some (.int x2), some (.int x3), some (.int x4), none] [.int r] (wC tgt cg fg I J A B) 0 0 := by
  refine xgoRX mr_99 [18, 21, 31] 10 ?_
  show if (r : Int32) = 0 then xGX l (XCw (wC tgt cg fg I J A B)) d 99 (fun _ _ => False) 21 _ [] (wC tgt cg fg I J A B) 0 0 else _
  rw [if_pos hr]
  exact thr_at (is := 146) (text := "no such sign") hl hd rfl (fun _ _ _ q => q.2.2.1) (by decide +kernel) (by decide +kernel) (by decide +kernel) (by decide +kernel) (by decide +kernel)
set_option maxRecDepth 40000 in
theorem t_sign (hl : l.stackTraces = false) (hd : 6 ≤ d) {x y k w : Int32} (h : xInv S I A B) (hb : (kB60 S x y k && wB4 w) = false) : xTh l d 99 [.ref 0, .int x, .int y, .int k, .int w] (wC tgt cg fg I J A B) := by
  refine fun dC dI cid ad sa sz => xentryX xok rfl rfl ?_ dC dI cid ad sa sz
  refine xgoRX mr_99 [18, 21, 31] 13 ?_
  show if (w : Int32) < 0 then xGX l (XCw (wC tgt cg fg I J A B)) d 99 (fun _ _ => False) 21 _ [] (wC tgt cg fg I J A B) 0 0 else (if (4 : Int32) < w then xGX l (XCw (wC tgt cg fg I J A B)) d 99 (fun _ _ => False) 21 _ [] (wC tgt cg fg I J A B) 0 0 else (xK l d 114 [.ref 0, .int x, .int y, .int k] (wC tgt cg fg I J A B) (fun v9 w9 => xGX l (XCw (wC tgt cg fg I J A B)) d 99 (fun _ _ => False) 18 [some (.ref 0), some (.int x), some (.int y), some (.int k), some (.int w), none] (v9.toList ++ []) w9 0 0)))
  by_cases h1 : w < 0
  · rw [if_pos h1]
    exact thr_at (is := 146) (text := "no such sign") hl hd rfl (fun _ _ _ q => q.2.2.1) (by decide +kernel) (by decide +kernel) (by decide +kernel) (by decide +kernel) (by decide +kernel)
  · rw [if_neg h1]
    by_cases h2 : (4 : Int32) < w
    · rw [if_pos h2]
      exact thr_at (is := 146) (text := "no such sign") hl hd rfl (fun _ _ _ q => q.2.2.1) (by decide +kernel) (by decide +kernel) (by decide +kernel) (by decide +kernel) (by decide +kernel)
    · rw [if_neg h2]
      have h4 : wB4 w = true := by
        unfold wB4
        rw [decide_eq_true h1, decide_eq_true (Int32.not_lt.mp h2)]; rfl
      rw [h4, Bool.and_true] at hb
      exact s_isSign (by omega) h (t_sign_18 hl hd (by rw [hb]; rfl))
set_option maxRecDepth 40000 in
theorem t_times_7 (hl : l.stackTraces = false) (hd : 6 ≤ d) {x1 x2 x3 r : Int32} (hr : r = 0) : xGX l (XCw (wC tgt cg fg I J A B)) d 100 (fun _ _ => False) 7 [some (.ref 0), some (.int x1), some (.int x2), some (.int x3)] [.int r] (wC tgt cg fg I J A B) 0 0 := by
  refine xgoRX mr_100 [7, 10, 20] 10 ?_
  show if (r : Int32) = 0 then xGX l (XCw (wC tgt cg fg I J A B)) d 100 (fun _ _ => False) 10 _ [] (wC tgt cg fg I J A B) 0 0 else _
  rw [if_pos hr]
  exact thr_at (is := 146) (text := "no such sign") hl hd rfl (fun _ _ _ q => q.2.2.1) (by decide +kernel) (by decide +kernel) (by decide +kernel) (by decide +kernel) (by decide +kernel)
set_option maxRecDepth 40000 in
theorem t_times (hl : l.stackTraces = false) (hd : 6 ≤ d) {x y k : Int32} (h : xInv S I A B) (hb : kB60 S x y k = false) : xTh l d 100 [.ref 0, .int x, .int y, .int k] (wC tgt cg fg I J A B) := by
  refine fun dC dI cid ad sa sz => xentryX xok rfl rfl ?_ dC dI cid ad sa sz
  refine xgoRX mr_100 [7, 10, 20] 8 ?_
  show xK l d 114 [.ref 0, .int x, .int y, .int k] (wC tgt cg fg I J A B) (fun v9 w9 => xGX l (XCw (wC tgt cg fg I J A B)) d 100 (fun _ _ => False) 7 [some (.ref 0), some (.int x), some (.int y), some (.int k)] (v9.toList ++ []) w9 0 0)
  exact s_isSign (by omega) h (t_times_7 hl hd (by rw [hb]; rfl))
set_option maxRecDepth 40000 in
theorem t_node (hl : l.stackTraces = false) (hd : 6 ≤ d) {x w : Int32} (h : xInv S I A B) (hb : (ndB S x && wB8 w) = false) : xTh l d 102 [.ref 0, .int x, .int w] (wC tgt cg fg I J A B) := by
  refine fun dC dI cid ad sa sz => xentryX xok rfl rfl ?_ dC dI cid ad sa sz
  obtain ⟨hok, ht, h101, hg, h1402, hws, h1701, hD, hpr, hch, hnd, hout, hft⟩ := h
  have h5 := hnd.1
  refine xgoRX mr_102 [25, 35] 26 ?_
  show if (x : Int32) < 0 then xGX l (XCw (wC tgt cg fg I J A B)) d 102 (fun _ _ => False) 25 _ [] (wC tgt cg fg I J A B) 0 0 else (if (I 2505 : Int32) ≤ x then xGX l (XCw (wC tgt cg fg I J A B)) d 102 (fun _ _ => False) 25 _ [] (wC tgt cg fg I J A B) 0 0 else (if (w : Int32) < 0 then xGX l (XCw (wC tgt cg fg I J A B)) d 102 (fun _ _ => False) 25 _ [] (wC tgt cg fg I J A B) 0 0 else (if (w : Int32) ≤ 8 then _ else xGX l (XCw (wC tgt cg fg I J A B)) d 102 (fun _ _ => False) 25 _ [] (wC tgt cg fg I J A B) 0 0)))
  by_cases h1 : x < 0
  · rw [if_pos h1]
    exact thr_at (is := 166) (text := "no such node") hl hd rfl (fun _ _ _ q => q.2.2.2.1) (by decide +kernel) (by decide +kernel) (by decide +kernel) (by decide +kernel) (by decide +kernel)
  · rw [if_neg h1]
    by_cases h2 : I 2505 ≤ x
    · rw [if_pos h2]
      exact thr_at (is := 166) (text := "no such node") hl hd rfl (fun _ _ _ q => q.2.2.2.1) (by decide +kernel) (by decide +kernel) (by decide +kernel) (by decide +kernel) (by decide +kernel)
    · rw [if_neg h2]
      by_cases h3 : w < 0
      · rw [if_pos h3]
        exact thr_at (is := 166) (text := "no such node") hl hd rfl (fun _ _ _ q => q.2.2.2.1) (by decide +kernel) (by decide +kernel) (by decide +kernel) (by decide +kernel) (by decide +kernel)
      · rw [if_neg h3]
        by_cases h4 : w ≤ 8
        · exfalso
          rw [h5] at h2
          unfold ndB wB8 at hb
          rw [decide_eq_true h1, decide_eq_true h2, decide_eq_true h3, decide_eq_true h4] at hb
          cases hb
        · rw [if_neg h4]
          exact thr_at (is := 166) (text := "no such node") hl hd rfl (fun _ _ _ q => q.2.2.2.1) (by decide +kernel) (by decide +kernel) (by decide +kernel) (by decide +kernel) (by decide +kernel)
set_option maxRecDepth 40000 in
theorem t_octet (hl : l.stackTraces = false) (hd : 6 ≤ d) {x : Int32} (h : xInv S I A B) (hb : ocB S x = false) : xTh l d 110 [.ref 0, .int x] (wC tgt cg fg I J A B) := by
  refine fun dC dI cid ad sa sz => xentryX xok rfl rfl ?_ dC dI cid ad sa sz
  obtain ⟨hok, ht, h101, hg, h1402, hws, h1701, hD, hpr, hch, hnd, hout, hft⟩ := h
  have h5 := hout.1
  refine xgoRX mr_110 [12, 22] 13 ?_
  show if (x : Int32) < 0 then xGX l (XCw (wC tgt cg fg I J A B)) d 110 (fun _ _ => False) 12 _ [] (wC tgt cg fg I J A B) 0 0 else (if (x : Int32) < I 10 then _ else xGX l (XCw (wC tgt cg fg I J A B)) d 110 (fun _ _ => False) 12 _ [] (wC tgt cg fg I J A B) 0 0)
  by_cases h1 : x < 0
  · rw [if_pos h1]
    exact thr_at (is := 214) (text := "no such byte") hl hd rfl (fun _ _ _ q => q.2.2.2.2.1) (by decide +kernel) (by decide +kernel) (by decide +kernel) (by decide +kernel) (by decide +kernel)
  · rw [if_neg h1]
    by_cases h2 : x < I 10
    · exfalso
      rw [h5] at h2
      unfold ocB at hb
      rw [decide_eq_true h1, decide_eq_true h2] at hb
      cases hb
    · rw [if_neg h2]
      exact thr_at (is := 214) (text := "no such byte") hl hd rfl (fun _ _ _ q => q.2.2.2.2.1) (by decide +kernel) (by decide +kernel) (by decide +kernel) (by decide +kernel) (by decide +kernel)
end TS
