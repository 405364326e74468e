/-! ===== printed by program: the law's plain cases ===== -/
def lw0 (b ax am qo i : Nat) : List (Nat × Value) := [(4, .int (nI i)), (3, .ref qo), (2, .ref am), (1, .ref ax), (0, .ref b)]
section LP
variable {p : Program} {l : Launch} {e : Env} {s : State} {m : MethodId} {below : List Frame} {meth : Method} {c : Code} {b L : Nat} {xs : Nat → Int32} {D : va_G} {cid : Nat → ClassId} {sa : Nat} {H : Heap} {locs : List Loc} {nc ns : Nat} {QQ : State → Prop}
set_option maxHeartbeats 4000000 in
set_option maxRecDepth 100000 in
theorem lc_0 (C : lwC l p s m meth c b L xs D cid sa) {S : St} {T0 : Int32 → Prop} {Z : Int64 → Prop} {ax am qo i : Nat} (hV : lwV s D cid sa S S T0 Z ax am qo H locs) {ls : Array Slot} (hl : lv_has ls 8 (lw0 b ax am qo i)) (hi : i + 6 ≤ L) (hL : L ≤ 3072) (hnc : nc + 1 ≤ 601024) (hns : ns + 6 ≤ 7293033)
    (kk : ∀ (S' : St) (T1 : Int32 → Prop) (Z1 : Int64 → Prop) (H1 : Heap) (locs1 : List Loc) (ls1 : Array Slot), lwV s D cid sa S' S' T1 Z1 ax am qo H1 locs1 → lv_has ls1 8 (lw0 b ax am qo i) → W p l e room_1 s m #[Value.ref b] below meth c H1 locs1 (nc + 1) (ns + 6) QQ (F0 m 796 ls1 [])) :
    W p l e room_1 s m #[Value.ref b] below meth c H locs nc ns QQ (F0 m 136 ls []) := by
  have hx := C.1.1
  have hb := C.1.2.1
  refine lv_aload_n hx hb dL_law_136 rfl (lv_at hl 3 rfl) ?_
  refine lw_arg C hV hl (i := i) (List.mem_of_getElem? (i := 4) rfl) (List.mem_of_getElem? (i := 0) rfl) hi hL (j := 1) (by decide) dL_law_137 dL_law_138 dL_law_140 (by decide) dL_law_141 dL_law_142 ?_
  refine lw_arg C hV hl (i := i) (List.mem_of_getElem? (i := 4) rfl) (List.mem_of_getElem? (i := 0) rfl) hi hL (j := 2) (by decide) dL_law_143 dL_law_144 dL_law_146 (by decide) dL_law_147 dL_law_148 ?_
  refine lw_arg C hV hl (i := i) (List.mem_of_getElem? (i := 4) rfl) (List.mem_of_getElem? (i := 0) rfl) hi hL (j := 3) (by decide) dL_law_149 dL_law_150 dL_law_152 (by decide) dL_law_153 dL_law_154 ?_
  refine lw_arg C hV hl (i := i) (List.mem_of_getElem? (i := 4) rfl) (List.mem_of_getElem? (i := 0) rfl) hi hL (j := 4) (by decide) dL_law_155 dL_law_156 dL_law_158 (by decide) dL_law_159 dL_law_160 ?_
  refine lw_arg C hV hl (i := i) (List.mem_of_getElem? (i := 4) rfl) (List.mem_of_getElem? (i := 0) rfl) hi hL (j := 5) (by decide) dL_law_161 dL_law_162 dL_law_164 (by decide) dL_law_165 dL_law_166 ?_
  refine lw_cx C hV hl.1 (k := 92) (n := 5) (index := 31) (av := [.int (xs (i + 1)), .int (xs (i + 2)), .int (xs (i + 3)), .int (xs (i + 4)), .int (xs (i + 5))]) (v := .int (anFd S)) (S' := stFd S (xs (i + 1)) (xs (i + 2)) (xs (i + 3)) (xs (i + 4)) (xs (i + 5))) (rest := []) (fun tgt cg fg I J A B h => x_feed (by omega) h (fun _ _ h9 => QX_1 h9)) (fun _ _ => rfl) (fun _ _ => rfl) ⟨rfl, rfl⟩ rfl ⟨(xmT (tm2 (List.mem_of_getElem? (i := 163) rfl)) rfl), (xmT (tm2 (List.mem_of_getElem? (i := 164) rfl)) rfl), (xmT (tm2 (List.mem_of_getElem? (i := 165) rfl)) rfl)⟩ rfl (by decide +kernel) dL_law_167 (Nat.le_of_ble_eq_true rfl) (by omega) (by omega) (fun H1 locs1 hV1 => ?_)
  refine lv_aload_n hx hb dL_law_170 rfl (lv_at hl 2 rfl) ?_
  refine lw_arg C hV1 hl (i := i) (List.mem_of_getElem? (i := 4) rfl) (List.mem_of_getElem? (i := 0) rfl) hi hL (j := 1) (by decide) dL_law_171 dL_law_172 dL_law_174 (by decide) dL_law_175 dL_law_176 ?_
  refine lw_arg C hV1 hl (i := i) (List.mem_of_getElem? (i := 4) rfl) (List.mem_of_getElem? (i := 0) rfl) hi hL (j := 2) (by decide) dL_law_177 dL_law_178 dL_law_180 (by decide) dL_law_181 dL_law_182 ?_
  refine lw_arg C hV1 hl (i := i) (List.mem_of_getElem? (i := 4) rfl) (List.mem_of_getElem? (i := 0) rfl) hi hL (j := 3) (by decide) dL_law_183 dL_law_184 dL_law_186 (by decide) dL_law_187 dL_law_188 ?_
  refine lw_arg C hV1 hl (i := i) (List.mem_of_getElem? (i := 4) rfl) (List.mem_of_getElem? (i := 0) rfl) hi hL (j := 4) (by decide) dL_law_189 dL_law_190 dL_law_192 (by decide) dL_law_193 dL_law_194 ?_
  refine lw_arg C hV1 hl (i := i) (List.mem_of_getElem? (i := 4) rfl) (List.mem_of_getElem? (i := 0) rfl) hi hL (j := 5) (by decide) dL_law_195 dL_law_196 dL_law_198 (by decide) dL_law_199 dL_law_200 ?_
  refine lw_cm C hV1 hl.1 (k := 127) (n := 5) (index := 35) (av := [.int (xs (i + 1)), .int (xs (i + 2)), .int (xs (i + 3)), .int (xs (i + 4)), .int (xs (i + 5))]) (v := .int (anFd S)) (S' := stFd S (xs (i + 1)) (xs (i + 2)) (xs (i + 3)) (xs (i + 4)) (xs (i + 5))) (T1 := fun _ => True) (rest := [.int (anFd S)]) (fun I J A B h _ => m_feed (by omega) h (fun _ _ h9 => QM_1 h9 trivial)) (fun _ _ => rfl) (fun _ _ => rfl) ⟨rfl, rfl⟩ rfl ⟨(xmT (tm5 (List.mem_of_getElem? (i := 199) rfl)) rfl), (xmT (tm5 (List.mem_of_getElem? (i := 200) rfl)) rfl), (xmT (tm5 (List.mem_of_getElem? (i := 201) rfl)) rfl)⟩ rfl (by decide +kernel) dL_law_201 (Nat.le_of_ble_eq_true rfl) (by omega) (by omega) (fun H2 locs2 hV2 => ?_)
  refine lv_icmp_eq (tgt := 796) hx hb dL_law_204 (by decide) (fun _ => ?_) (fun h => absurd rfl h)
  refine W.widen (k := nc + 1) (n := ns + 6) (by omega) (by omega) ?_
  exact kk _ _ _ _ _ _ hV2 hl
set_option maxHeartbeats 4000000 in
set_option maxRecDepth 100000 in
theorem lc_1 (C : lwC l p s m meth c b L xs D cid sa) {S : St} {T0 : Int32 → Prop} {Z : Int64 → Prop} {ax am qo i : Nat} (hV : lwV s D cid sa S S T0 Z ax am qo H locs) {ls : Array Slot} (hl : lv_has ls 8 (lw0 b ax am qo i)) (hi : i + 6 ≤ L) (hL : L ≤ 3072) (hnc : nc + 1 ≤ 601024) (hns : ns + 6 ≤ 7293033)
    (kk : ∀ (S' : St) (T1 : Int32 → Prop) (Z1 : Int64 → Prop) (H1 : Heap) (locs1 : List Loc) (ls1 : Array Slot), lwV s D cid sa S' S' T1 Z1 ax am qo H1 locs1 → lv_has ls1 8 (lw0 b ax am qo i) → W p l e room_1 s m #[Value.ref b] below meth c H1 locs1 (nc + 1) (ns + 6) QQ (F0 m 796 ls1 [])) :
    W p l e room_1 s m #[Value.ref b] below meth c H locs nc ns QQ (F0 m 209 ls []) := by
  have hx := C.1.1
  have hb := C.1.2.1
  refine lv_aload_n hx hb dL_law_209 rfl (lv_at hl 3 rfl) ?_
  refine lw_arg C hV hl (i := i) (List.mem_of_getElem? (i := 4) rfl) (List.mem_of_getElem? (i := 0) rfl) hi hL (j := 1) (by decide) dL_law_210 dL_law_211 dL_law_213 (by decide) dL_law_214 dL_law_215 ?_
  refine lw_cx C hV hl.1 (k := 93) (n := 1) (index := 36) (av := [.int (xs (i + 1))]) (v := .int (anEnd S (xs (i + 1)))) (S' := stEnd S (xs (i + 1))) (rest := []) (fun tgt cg fg I J A B h => x_end (by omega) h (fun _ h9 => QX_1 h9)) (fun _ _ => rfl) (fun _ _ => rfl) ⟨rfl, rfl⟩ rfl ⟨(xmT (tm2 (List.mem_of_getElem? (i := 171) rfl)) rfl), (xmT (tm2 (List.mem_of_getElem? (i := 172) rfl)) rfl), (xmT (tm2 (List.mem_of_getElem? (i := 173) rfl)) rfl)⟩ rfl (by decide +kernel) dL_law_216 (Nat.le_of_ble_eq_true rfl) (by omega) (by omega) (fun H1 locs1 hV1 => ?_)
  refine lv_aload_n hx hb dL_law_219 rfl (lv_at hl 2 rfl) ?_
  refine lw_arg C hV1 hl (i := i) (List.mem_of_getElem? (i := 4) rfl) (List.mem_of_getElem? (i := 0) rfl) hi hL (j := 1) (by decide) dL_law_220 dL_law_221 dL_law_223 (by decide) dL_law_224 dL_law_225 ?_
  refine lw_cm C hV1 hl.1 (k := 128) (n := 1) (index := 40) (av := [.int (xs (i + 1))]) (v := .int (anEnd S (xs (i + 1)))) (S' := stEnd S (xs (i + 1))) (T1 := fun _ => True) (rest := [.int (anEnd S (xs (i + 1)))]) (fun I J A B h _ => m_end (by omega) h (fun _ h9 => QM_1 h9 trivial)) (fun _ _ => rfl) (fun _ _ => rfl) ⟨rfl, rfl⟩ rfl ⟨(xmT (tm5 (List.mem_of_getElem? (i := 207) rfl)) rfl), (xmT (tm5 (List.mem_of_getElem? (i := 208) rfl)) rfl), (xmT (tm5 (List.mem_of_getElem? (i := 209) rfl)) rfl)⟩ rfl (by decide +kernel) dL_law_226 (Nat.le_of_ble_eq_true rfl) (by omega) (by omega) (fun H2 locs2 hV2 => ?_)
  refine lv_icmp_eq (tgt := 796) hx hb dL_law_229 (by decide) (fun _ => ?_) (fun h => absurd rfl h)
  refine W.widen (k := nc + 1) (n := ns + 6) (by omega) (by omega) ?_
  exact kk _ _ _ _ _ _ hV2 hl
set_option maxHeartbeats 4000000 in
set_option maxRecDepth 100000 in
theorem lc_2 (C : lwC l p s m meth c b L xs D cid sa) {S : St} {T0 : Int32 → Prop} {Z : Int64 → Prop} {ax am qo i : Nat} (hV : lwV s D cid sa S S T0 Z ax am qo H locs) {ls : Array Slot} (hl : lv_has ls 8 (lw0 b ax am qo i)) (hi : i + 6 ≤ L) (hL : L ≤ 3072) (hnc : nc + 1 ≤ 601024) (hns : ns + 6 ≤ 7293033)
    (kk : ∀ (S' : St) (T1 : Int32 → Prop) (Z1 : Int64 → Prop) (H1 : Heap) (locs1 : List Loc) (ls1 : Array Slot), lwV s D cid sa S' S' T1 Z1 ax am qo H1 locs1 → lv_has ls1 8 (lw0 b ax am qo i) → W p l e room_1 s m #[Value.ref b] below meth c H1 locs1 (nc + 1) (ns + 6) QQ (F0 m 796 ls1 [])) :
    W p l e room_1 s m #[Value.ref b] below meth c H locs nc ns QQ (F0 m 234 ls []) := by
  have hx := C.1.1
  have hb := C.1.2.1
  refine lv_aload_n hx hb dL_law_234 rfl (lv_at hl 3 rfl) ?_
  refine lw_cx C hV hl.1 (k := 94) (n := 0) (index := 41) (av := []) (v := .int (anGr S)) (S' := stGr S) (rest := []) (fun tgt cg fg I J A B h => x_grammar (by omega) h (fun _ _ _ h9 => QX_1 h9) (fun _ _ _ h9 => QX_2 h9)) (fun _ _ => rfl) (fun _ _ => rfl) ⟨rfl, rfl⟩ rfl ⟨(xmT (tm2 (List.mem_of_getElem? (i := 175) rfl)) rfl), (xmT (tm2 (List.mem_of_getElem? (i := 176) rfl)) rfl), (xmT (tm2 (List.mem_of_getElem? (i := 177) rfl)) rfl)⟩ rfl (by decide +kernel) dL_law_235 (Nat.le_of_ble_eq_true rfl) (by omega) (by omega) (fun H1 locs1 hV1 => ?_)
  refine lv_aload_n hx hb dL_law_238 rfl (lv_at hl 2 rfl) ?_
  refine lw_cm C hV1 hl.1 (k := 147) (n := 0) (index := 45) (av := []) (v := .int (anGr S)) (S' := stGr S) (T1 := fun _ => True) (rest := [.int (anGr S)]) (fun I J A B h _ => m_grammar (by omega) h (fun _ _ _ _ h9 => QM_1 h9 trivial)) (fun _ _ => rfl) (fun _ _ => rfl) ⟨rfl, rfl⟩ rfl ⟨(xmT (tm5 (List.mem_of_getElem? (i := 211) rfl)) rfl), (xmT (tm5 (List.mem_of_getElem? (i := 212) rfl)) rfl), (xmT (tm5 (List.mem_of_getElem? (i := 213) rfl)) rfl)⟩ rfl (by decide +kernel) dL_law_239 (Nat.le_of_ble_eq_true rfl) (by omega) (by omega) (fun H2 locs2 hV2 => ?_)
  refine lv_icmp_eq (tgt := 796) hx hb dL_law_242 (by decide) (fun _ => ?_) (fun h => absurd rfl h)
  refine W.widen (k := nc + 1) (n := ns + 6) (by omega) (by omega) ?_
  exact kk _ _ _ _ _ _ hV2 hl
set_option maxHeartbeats 4000000 in
set_option maxRecDepth 100000 in
theorem lc_3 (C : lwC l p s m meth c b L xs D cid sa) {S : St} {T0 : Int32 → Prop} {Z : Int64 → Prop} {ax am qo i : Nat} (hV : lwV s D cid sa S S T0 Z ax am qo H locs) {ls : Array Slot} (hl : lv_has ls 8 (lw0 b ax am qo i)) (hi : i + 6 ≤ L) (hL : L ≤ 3072) (hnc : nc + 1 ≤ 601024) (hns : ns + 6 ≤ 7293033)
    (kk : ∀ (S' : St) (T1 : Int32 → Prop) (Z1 : Int64 → Prop) (H1 : Heap) (locs1 : List Loc) (ls1 : Array Slot), lwV s D cid sa S' S' T1 Z1 ax am qo H1 locs1 → lv_has ls1 8 (lw0 b ax am qo i) → W p l e room_1 s m #[Value.ref b] below meth c H1 locs1 (nc + 1) (ns + 6) QQ (F0 m 796 ls1 [])) :
    W p l e room_1 s m #[Value.ref b] below meth c H locs nc ns QQ (F0 m 247 ls []) := by
  have hx := C.1.1
  have hb := C.1.2.1
  refine lv_aload_n hx hb dL_law_247 rfl (lv_at hl 3 rfl) ?_
  refine lw_cx C hV hl.1 (k := 95) (n := 0) (index := 46) (av := []) (v := .int (nI S.ft)) (S' := S) (rest := []) (fun tgt cg fg I J A B h => x_fault (by omega) h (QX_1 h)) (fun _ _ => rfl) (fun _ _ => rfl) ⟨rfl, rfl⟩ rfl ⟨(xmT (tm3 (List.mem_of_getElem? (i := 122) rfl)) rfl), (xmT (tm3 (List.mem_of_getElem? (i := 123) rfl)) rfl), (xmT (tm3 (List.mem_of_getElem? (i := 124) rfl)) rfl)⟩ rfl (by decide +kernel) dL_law_248 (Nat.le_of_ble_eq_true rfl) (by omega) (by omega) (fun H1 locs1 hV1 => ?_)
  refine lv_aload_n hx hb dL_law_251 rfl (lv_at hl 2 rfl) ?_
  refine lw_cm C hV1 hl.1 (k := 149) (n := 0) (index := 49) (av := []) (v := .int (nI S.ft)) (S' := S) (T1 := fun _ => True) (rest := [.int (nI S.ft)]) (fun I J A B h _ => m_fault (by omega) h (fun _ h9 => QM_1 h9 trivial)) (fun _ _ => rfl) (fun _ _ => rfl) ⟨rfl, rfl⟩ rfl ⟨(xmT (tm6 (List.mem_of_getElem? (i := 59) rfl)) rfl), (xmT (tm6 (List.mem_of_getElem? (i := 60) rfl)) rfl), (xmT (tm6 (List.mem_of_getElem? (i := 61) rfl)) rfl)⟩ rfl (by decide +kernel) dL_law_252 (Nat.le_of_ble_eq_true rfl) (by omega) (by omega) (fun H2 locs2 hV2 => ?_)
  refine lv_icmp_eq (tgt := 796) hx hb dL_law_255 (by decide) (fun _ => ?_) (fun h => absurd rfl h)
  refine W.widen (k := nc + 1) (n := ns + 6) (by omega) (by omega) ?_
  exact kk _ _ _ _ _ _ hV2 hl
set_option maxHeartbeats 4000000 in
set_option maxRecDepth 100000 in
theorem lc_4 (C : lwC l p s m meth c b L xs D cid sa) {S : St} {T0 : Int32 → Prop} {Z : Int64 → Prop} {ax am qo i : Nat} (hV : lwV s D cid sa S S T0 Z ax am qo H locs) {ls : Array Slot} (hl : lv_has ls 8 (lw0 b ax am qo i)) (hi : i + 6 ≤ L) (hL : L ≤ 3072) (hnc : nc + 1 ≤ 601024) (hns : ns + 6 ≤ 7293033)
    (kk : ∀ (S' : St) (T1 : Int32 → Prop) (Z1 : Int64 → Prop) (H1 : Heap) (locs1 : List Loc) (ls1 : Array Slot), lwV s D cid sa S' S' T1 Z1 ax am qo H1 locs1 → lv_has ls1 8 (lw0 b ax am qo i) → W p l e room_1 s m #[Value.ref b] below meth c H1 locs1 (nc + 1) (ns + 6) QQ (F0 m 796 ls1 [])) :
    W p l e room_1 s m #[Value.ref b] below meth c H locs nc ns QQ (F0 m 260 ls []) := by
  have hx := C.1.1
  have hb := C.1.2.1
  refine lv_aload_n hx hb dL_law_260 rfl (lv_at hl 3 rfl) ?_
  refine lw_cx C hV hl.1 (k := 96) (n := 0) (index := 50) (av := []) (v := .int (anRead S)) (S' := stRead S) (rest := []) (fun tgt cg fg I J A B h => x_read (by omega) h (fun _ _ _ _ _ h9 => QX_1 h9)) (fun _ _ => rfl) (fun _ _ => rfl) ⟨rfl, rfl⟩ rfl ⟨(xmT (tm3 (List.mem_of_getElem? (i := 126) rfl)) rfl), (xmT (tm3 (List.mem_of_getElem? (i := 127) rfl)) rfl), (xmT (tm3 (List.mem_of_getElem? (i := 128) rfl)) rfl)⟩ rfl (by decide +kernel) dL_law_261 (Nat.le_of_ble_eq_true rfl) (by omega) (by omega) (fun H1 locs1 hV1 => ?_)
  refine lv_aload_n hx hb dL_law_264 rfl (lv_at hl 2 rfl) ?_
  refine lw_cm C hV1 hl.1 (k := 160) (n := 0) (index := 53) (av := []) (v := .int (anRead S)) (S' := stRead S) (T1 := fun _ => True) (rest := [.int (anRead S)]) (fun I J A B h _ => m_read (by omega) h (fun _ _ _ _ h9 => QM_1 h9 trivial)) (fun _ _ => rfl) (fun _ _ => rfl) ⟨rfl, rfl⟩ rfl ⟨(xmT (tm6 (List.mem_of_getElem? (i := 63) rfl)) rfl), (xmT (tm6 (List.mem_of_getElem? (i := 64) rfl)) rfl), (xmT (tm6 (List.mem_of_getElem? (i := 65) rfl)) rfl)⟩ rfl (by decide +kernel) dL_law_265 (Nat.le_of_ble_eq_true rfl) (by omega) (by omega) (fun H2 locs2 hV2 => ?_)
  refine lv_icmp_eq (tgt := 796) hx hb dL_law_268 (by decide) (fun _ => ?_) (fun h => absurd rfl h)
  refine W.widen (k := nc + 1) (n := ns + 6) (by omega) (by omega) ?_
  exact kk _ _ _ _ _ _ hV2 hl
set_option maxHeartbeats 4000000 in
set_option maxRecDepth 100000 in
theorem lc_5 (C : lwC l p s m meth c b L xs D cid sa) {S : St} {T0 : Int32 → Prop} {Z : Int64 → Prop} {ax am qo i : Nat} (hV : lwV s D cid sa S S T0 Z ax am qo H locs) {ls : Array Slot} (hl : lv_has ls 8 (lw0 b ax am qo i)) (hi : i + 6 ≤ L) (hL : L ≤ 3072) (hnc : nc + 1 ≤ 601024) (hns : ns + 6 ≤ 7293033)
    (kk : ∀ (S' : St) (T1 : Int32 → Prop) (Z1 : Int64 → Prop) (H1 : Heap) (locs1 : List Loc) (ls1 : Array Slot), lwV s D cid sa S' S' T1 Z1 ax am qo H1 locs1 → lv_has ls1 8 (lw0 b ax am qo i) → W p l e room_1 s m #[Value.ref b] below meth c H1 locs1 (nc + 1) (ns + 6) QQ (F0 m 796 ls1 [])) :
    W p l e room_1 s m #[Value.ref b] below meth c H locs nc ns QQ (F0 m 273 ls []) := by
  have hx := C.1.1
  have hb := C.1.2.1
  refine lv_aload_n hx hb dL_law_273 rfl (lv_at hl 3 rfl) ?_
  refine lw_cx C hV hl.1 (k := 97) (n := 0) (index := 54) (av := []) (v := .long (lN (sat (trT S)))) (S' := S) (rest := []) (fun tgt cg fg I J A B h => x_trees (by omega) h (QX_1 h)) (fun _ _ => rfl) (fun _ _ => rfl) ⟨rfl, rfl⟩ rfl ⟨(xmT (tm3 (List.mem_of_getElem? (i := 234) rfl)) rfl), (xmT (tm3 (List.mem_of_getElem? (i := 235) rfl)) rfl), (xmT (tm3 (List.mem_of_getElem? (i := 236) rfl)) rfl)⟩ rfl (by decide +kernel) dL_law_274 (Nat.le_of_ble_eq_true rfl) (by omega) (by omega) (fun H1 locs1 hV1 => ?_)
  refine lv_aload_n hx hb dL_law_277 rfl (lv_at hl 2 rfl) ?_
  refine lw_cm C hV1 hl.1 (k := 161) (n := 0) (index := 58) (av := []) (v := .long (lN (sat (trT S)))) (S' := S) (T1 := fun _ => True) (rest := [.long (lN (sat (trT S)))]) (fun I J A B h _ => m_trees (by omega) h (fun _ h9 => QM_1 h9 trivial)) (fun _ _ => rfl) (fun _ _ => rfl) ⟨rfl, rfl⟩ rfl ⟨(xmT (tm6 (List.mem_of_getElem? (i := 108) rfl)) rfl), (xmT (tm6 (List.mem_of_getElem? (i := 105) rfl)) rfl), (xmT (tm6 (List.mem_of_getElem? (i := 106) rfl)) rfl)⟩ rfl (by decide +kernel) dL_law_278 (Nat.le_of_ble_eq_true rfl) (by omega) (by omega) (fun H2 locs2 hV2 => ?_)
  refine W.lcmp hx hb dL_law_281 ?_
  refine lv_if_eq (tgt := 796) hx hb dL_law_282 (by decide) (fun _ => ?_) (fun h => absurd ((lg_cmp_eq _ _).mpr rfl) h)
  refine W.widen (k := nc + 1) (n := ns + 6) (by omega) (by omega) ?_
  exact kk _ _ _ _ _ _ hV2 hl
set_option maxHeartbeats 4000000 in
set_option maxRecDepth 100000 in
theorem lc_6 (C : lwC l p s m meth c b L xs D cid sa) {S : St} {T0 : Int32 → Prop} {Z : Int64 → Prop} {ax am qo i : Nat} (hV : lwV s D cid sa S S T0 Z ax am qo H locs) {ls : Array Slot} (hl : lv_has ls 8 (lw0 b ax am qo i)) (hi : i + 6 ≤ L) (hL : L ≤ 3072) (hnc : nc + 1 ≤ 601024) (hns : ns + 6 ≤ 7293033)
    (kk : ∀ (S' : St) (T1 : Int32 → Prop) (Z1 : Int64 → Prop) (H1 : Heap) (locs1 : List Loc) (ls1 : Array Slot), lwV s D cid sa S' S' T1 Z1 ax am qo H1 locs1 → lv_has ls1 8 (lw0 b ax am qo i) → W p l e room_1 s m #[Value.ref b] below meth c H1 locs1 (nc + 1) (ns + 6) QQ (F0 m 796 ls1 [])) :
    W p l e room_1 s m #[Value.ref b] below meth c H locs nc ns QQ (F0 m 287 ls []) := by
  have hx := C.1.1
  have hb := C.1.2.1
  refine lv_aload_n hx hb dL_law_287 rfl (lv_at hl 3 rfl) ?_
  refine lw_arg C hV hl (i := i) (List.mem_of_getElem? (i := 4) rfl) (List.mem_of_getElem? (i := 0) rfl) hi hL (j := 1) (by decide) dL_law_288 dL_law_289 dL_law_291 (by decide) dL_law_292 dL_law_293 ?_
  refine lw_arg C hV hl (i := i) (List.mem_of_getElem? (i := 4) rfl) (List.mem_of_getElem? (i := 0) rfl) hi hL (j := 2) (by decide) dL_law_294 dL_law_295 dL_law_297 (by decide) dL_law_298 dL_law_299 ?_
  refine lw_cx C hV hl.1 (k := 98) (n := 2) (index := 59) (av := [.int (xs (i + 1)), .int (xs (i + 2))]) (v := .int (anSigns S (xs (i + 1)) (xs (i + 2)))) (S' := S) (rest := []) (fun tgt cg fg I J A B h => x_signs (by omega) h (QX_1 h)) (fun _ _ => rfl) (fun _ _ => rfl) ⟨rfl, rfl⟩ rfl ⟨(xmT (tm3 (List.mem_of_getElem? (i := 238) rfl)) rfl), (xmT (tm3 (List.mem_of_getElem? (i := 239) rfl)) rfl), (xmT (tm4 (List.mem_of_getElem? (i := 0) rfl)) rfl)⟩ rfl (by decide +kernel) dL_law_300 (Nat.le_of_ble_eq_true rfl) (by omega) (by omega) (fun H1 locs1 hV1 => ?_)
  refine lv_aload_n hx hb dL_law_303 rfl (lv_at hl 2 rfl) ?_
  refine lw_arg C hV1 hl (i := i) (List.mem_of_getElem? (i := 4) rfl) (List.mem_of_getElem? (i := 0) rfl) hi hL (j := 1) (by decide) dL_law_304 dL_law_305 dL_law_307 (by decide) dL_law_308 dL_law_309 ?_
  refine lw_arg C hV1 hl (i := i) (List.mem_of_getElem? (i := 4) rfl) (List.mem_of_getElem? (i := 0) rfl) hi hL (j := 2) (by decide) dL_law_310 dL_law_311 dL_law_313 (by decide) dL_law_314 dL_law_315 ?_
  refine lw_cm C hV1 hl.1 (k := 163) (n := 2) (index := 62) (av := [.int (xs (i + 1)), .int (xs (i + 2))]) (v := .int (anSigns S (xs (i + 1)) (xs (i + 2)))) (S' := S) (T1 := fun _ => True) (rest := [.int (anSigns S (xs (i + 1)) (xs (i + 2)))]) (fun I J A B h _ => m_signs (by omega) h (fun _ h9 => QM_1 h9 trivial)) (fun _ _ => rfl) (fun _ _ => rfl) ⟨rfl, rfl⟩ rfl ⟨(xmT (tm6 (List.mem_of_getElem? (i := 109) rfl)) rfl), (xmT (tm6 (List.mem_of_getElem? (i := 110) rfl)) rfl), (xmT (tm6 (List.mem_of_getElem? (i := 111) rfl)) rfl)⟩ rfl (by decide +kernel) dL_law_316 (Nat.le_of_ble_eq_true rfl) (by omega) (by omega) (fun H2 locs2 hV2 => ?_)
  refine lv_icmp_eq (tgt := 796) hx hb dL_law_319 (by decide) (fun _ => ?_) (fun h => absurd rfl h)
  refine W.widen (k := nc + 1) (n := ns + 6) (by omega) (by omega) ?_
  exact kk _ _ _ _ _ _ hV2 hl
set_option maxHeartbeats 4000000 in
set_option maxRecDepth 100000 in
theorem lc_9 (C : lwC l p s m meth c b L xs D cid sa) {S : St} {T0 : Int32 → Prop} {Z : Int64 → Prop} {ax am qo i : Nat} (hV : lwV s D cid sa S S T0 Z ax am qo H locs) {ls : Array Slot} (hl : lv_has ls 8 (lw0 b ax am qo i)) (hi : i + 6 ≤ L) (hL : L ≤ 3072) (hnc : nc + 1 ≤ 601024) (hns : ns + 6 ≤ 7293033)
    (kk : ∀ (S' : St) (T1 : Int32 → Prop) (Z1 : Int64 → Prop) (H1 : Heap) (locs1 : List Loc) (ls1 : Array Slot), lwV s D cid sa S' S' T1 Z1 ax am qo H1 locs1 → lv_has ls1 8 (lw0 b ax am qo i) → W p l e room_1 s m #[Value.ref b] below meth c H1 locs1 (nc + 1) (ns + 6) QQ (F0 m 796 ls1 [])) :
    W p l e room_1 s m #[Value.ref b] below meth c H locs nc ns QQ (F0 m 495 ls []) := by
  have hx := C.1.1
  have hb := C.1.2.1
  refine lv_aload_n hx hb dL_law_495 rfl (lv_at hl 3 rfl) ?_
  refine lw_arg C hV hl (i := i) (List.mem_of_getElem? (i := 4) rfl) (List.mem_of_getElem? (i := 0) rfl) hi hL (j := 1) (by decide) dL_law_496 dL_law_497 dL_law_499 (by decide) dL_law_500 dL_law_501 ?_
  refine lw_cx C hV hl.1 (k := 101) (n := 1) (index := 76) (av := [.int (xs (i + 1))]) (v := .int (anTr S (xs (i + 1)))) (S' := stTr S (xs (i + 1))) (rest := []) (fun tgt cg fg I J A B h => x_tree (by omega) h (fun _ _ _ _ _ _ h9 => QX_1 h9)) (fun _ _ => rfl) (fun _ _ => rfl) ⟨rfl, rfl⟩ rfl ⟨(xmT (tm4 (List.mem_of_getElem? (i := 6) rfl)) rfl), (xmT (tm4 (List.mem_of_getElem? (i := 7) rfl)) rfl), (xmT (tm4 (List.mem_of_getElem? (i := 8) rfl)) rfl)⟩ rfl (by decide +kernel) dL_law_502 (Nat.le_of_ble_eq_true rfl) (by omega) (by omega) (fun H1 locs1 hV1 => ?_)
  refine lv_aload_n hx hb dL_law_505 rfl (lv_at hl 2 rfl) ?_
  refine lw_arg C hV1 hl (i := i) (List.mem_of_getElem? (i := 4) rfl) (List.mem_of_getElem? (i := 0) rfl) hi hL (j := 1) (by decide) dL_law_506 dL_law_507 dL_law_509 (by decide) dL_law_510 dL_law_511 ?_
  refine lw_cm C hV1 hl.1 (k := 170) (n := 1) (index := 79) (av := [.int (xs (i + 1))]) (v := .int (anTr S (xs (i + 1)))) (S' := stTr S (xs (i + 1))) (T1 := fun _ => True) (rest := [.int (anTr S (xs (i + 1)))]) (fun I J A B h _ => m_tree (by omega) h (fun _ _ _ _ h9 => QM_1 h9 trivial)) (fun _ _ => rfl) (fun _ _ => rfl) ⟨rfl, rfl⟩ rfl ⟨(xmT (tm6 (List.mem_of_getElem? (i := 129) rfl)) rfl), (xmT (tm6 (List.mem_of_getElem? (i := 130) rfl)) rfl), (xmT (tm6 (List.mem_of_getElem? (i := 131) rfl)) rfl)⟩ rfl (by decide +kernel) dL_law_512 (Nat.le_of_ble_eq_true rfl) (by omega) (by omega) (fun H2 locs2 hV2 => ?_)
  refine lv_icmp_eq (tgt := 796) hx hb dL_law_515 (by decide) (fun _ => ?_) (fun h => absurd rfl h)
  refine W.widen (k := nc + 1) (n := ns + 6) (by omega) (by omega) ?_
  exact kk _ _ _ _ _ _ hV2 hl
set_option maxHeartbeats 4000000 in
set_option maxRecDepth 100000 in
theorem lc_11 (C : lwC l p s m meth c b L xs D cid sa) {S : St} {T0 : Int32 → Prop} {Z : Int64 → Prop} {ax am qo i : Nat} (hV : lwV s D cid sa S S T0 Z ax am qo H locs) {ls : Array Slot} (hl : lv_has ls 8 (lw0 b ax am qo i)) (hi : i + 6 ≤ L) (hL : L ≤ 3072) (hnc : nc + 1 ≤ 601024) (hns : ns + 6 ≤ 7293033)
    (kk : ∀ (S' : St) (T1 : Int32 → Prop) (Z1 : Int64 → Prop) (H1 : Heap) (locs1 : List Loc) (ls1 : Array Slot), lwV s D cid sa S' S' T1 Z1 ax am qo H1 locs1 → lv_has ls1 8 (lw0 b ax am qo i) → W p l e room_1 s m #[Value.ref b] below meth c H1 locs1 (nc + 1) (ns + 6) QQ (F0 m 796 ls1 [])) :
    W p l e room_1 s m #[Value.ref b] below meth c H locs nc ns QQ (F0 m 588 ls []) := by
  have hx := C.1.1
  have hb := C.1.2.1
  refine lv_aload_n hx hb dL_law_588 rfl (lv_at hl 3 rfl) ?_
  refine lw_arg C hV hl (i := i) (List.mem_of_getElem? (i := 4) rfl) (List.mem_of_getElem? (i := 0) rfl) hi hL (j := 1) (by decide) dL_law_589 dL_law_590 dL_law_592 (by decide) dL_law_593 dL_law_594 ?_
  refine lw_arg C hV hl (i := i) (List.mem_of_getElem? (i := 4) rfl) (List.mem_of_getElem? (i := 0) rfl) hi hL (j := 2) (by decide) dL_law_595 dL_law_596 dL_law_598 (by decide) dL_law_599 dL_law_600 ?_
  refine lw_cx C hV hl.1 (k := 103) (n := 2) (index := 84) (av := [.int (xs (i + 1)), .int (xs (i + 2))]) (v := .int (bI (brB S (xs (i + 1)) (xs (i + 2))))) (S' := stBr S (xs (i + 1)) (xs (i + 2))) (rest := []) (fun tgt cg fg I J A B h => x_bracket (by omega) h (fun _ _ h9 => QX_1 h9)) (fun _ _ => rfl) (fun _ _ => rfl) ⟨rfl, rfl⟩ rfl ⟨(xmT (tm4 (List.mem_of_getElem? (i := 95) rfl)) rfl), (xmT (tm4 (List.mem_of_getElem? (i := 96) rfl)) rfl), (xmT (tm4 (List.mem_of_getElem? (i := 97) rfl)) rfl)⟩ rfl (by decide +kernel) dL_law_601 (Nat.le_of_ble_eq_true rfl) (by omega) (by omega) (fun H1 locs1 hV1 => ?_)
  refine lv_aload_n hx hb dL_law_604 rfl (lv_at hl 2 rfl) ?_
  refine lw_arg C hV1 hl (i := i) (List.mem_of_getElem? (i := 4) rfl) (List.mem_of_getElem? (i := 0) rfl) hi hL (j := 1) (by decide) dL_law_605 dL_law_606 dL_law_608 (by decide) dL_law_609 dL_law_610 ?_
  refine lw_arg C hV1 hl (i := i) (List.mem_of_getElem? (i := 4) rfl) (List.mem_of_getElem? (i := 0) rfl) hi hL (j := 2) (by decide) dL_law_611 dL_law_612 dL_law_614 (by decide) dL_law_615 dL_law_616 ?_
  refine lw_cm C hV1 hl.1 (k := 174) (n := 2) (index := 88) (av := [.int (xs (i + 1)), .int (xs (i + 2))]) (v := .int (bI (brB S (xs (i + 1)) (xs (i + 2))))) (S' := stBr S (xs (i + 1)) (xs (i + 2))) (T1 := fun _ => True) (rest := [.int (bI (brB S (xs (i + 1)) (xs (i + 2))))]) (fun I J A B h _ => m_bracket (by omega) h (fun _ _ _ h9 => QM_1 h9 trivial)) (fun _ _ => rfl) (fun _ _ => rfl) ⟨rfl, rfl⟩ rfl ⟨(xmT (tm6 (List.mem_of_getElem? (i := 154) rfl)) rfl), (xmT (tm6 (List.mem_of_getElem? (i := 155) rfl)) rfl), (xmT (tm6 (List.mem_of_getElem? (i := 156) rfl)) rfl)⟩ rfl (by decide +kernel) dL_law_617 (Nat.le_of_ble_eq_true rfl) (by omega) (by omega) (fun H2 locs2 hV2 => ?_)
  refine lv_icmp_eq (tgt := 796) hx hb dL_law_620 (by decide) (fun _ => ?_) (fun h => absurd rfl h)
  refine W.widen (k := nc + 1) (n := ns + 6) (by omega) (by omega) ?_
  exact kk _ _ _ _ _ _ hV2 hl
set_option maxHeartbeats 4000000 in
set_option maxRecDepth 100000 in
theorem lc_12 (C : lwC l p s m meth c b L xs D cid sa) {S : St} {T0 : Int32 → Prop} {Z : Int64 → Prop} {ax am qo i : Nat} (hV : lwV s D cid sa S S T0 Z ax am qo H locs) {ls : Array Slot} (hl : lv_has ls 8 (lw0 b ax am qo i)) (hi : i + 6 ≤ L) (hL : L ≤ 3072) (hnc : nc + 1 ≤ 601024) (hns : ns + 6 ≤ 7293033)
    (kk : ∀ (S' : St) (T1 : Int32 → Prop) (Z1 : Int64 → Prop) (H1 : Heap) (locs1 : List Loc) (ls1 : Array Slot), lwV s D cid sa S' S' T1 Z1 ax am qo H1 locs1 → lv_has ls1 8 (lw0 b ax am qo i) → W p l e room_1 s m #[Value.ref b] below meth c H1 locs1 (nc + 1) (ns + 6) QQ (F0 m 796 ls1 [])) :
    W p l e room_1 s m #[Value.ref b] below meth c H locs nc ns QQ (F0 m 625 ls []) := by
  have hx := C.1.1
  have hb := C.1.2.1
  refine lv_aload_n hx hb dL_law_625 rfl (lv_at hl 3 rfl) ?_
  refine lw_cx C hV hl.1 (k := 104) (n := 0) (index := 89) (av := []) (v := .int (nI S.D.length)) (S' := mkSt S.t S.n S.g S.ws [] S.nd S.out S.ft) (rest := []) (fun tgt cg fg I J A B h => x_wipe (by omega) h (fun _ _ h9 => QX_1 h9)) (fun _ _ => rfl) (fun _ _ => rfl) ⟨rfl, rfl⟩ rfl ⟨(xmT (tm4 (List.mem_of_getElem? (i := 115) rfl)) rfl), (xmT (tm4 (List.mem_of_getElem? (i := 116) rfl)) rfl), (xmT (tm4 (List.mem_of_getElem? (i := 117) rfl)) rfl)⟩ rfl (by decide +kernel) dL_law_626 (Nat.le_of_ble_eq_true rfl) (by omega) (by omega) (fun H1 locs1 hV1 => ?_)
  refine lv_aload_n hx hb dL_law_629 rfl (lv_at hl 2 rfl) ?_
  refine lw_cm C hV1 hl.1 (k := 175) (n := 0) (index := 92) (av := []) (v := .int (nI S.D.length)) (S' := mkSt S.t S.n S.g S.ws [] S.nd S.out S.ft) (T1 := fun _ => True) (rest := [.int (nI S.D.length)]) (fun I J A B h _ => m_wipe (by omega) h (fun _ h9 => QM_1 h9 trivial)) (fun _ _ => rfl) (fun _ _ => rfl) ⟨rfl, rfl⟩ rfl ⟨(xmT (tm6 (List.mem_of_getElem? (i := 166) rfl)) rfl), (xmT (tm6 (List.mem_of_getElem? (i := 167) rfl)) rfl), (xmT (tm6 (List.mem_of_getElem? (i := 168) rfl)) rfl)⟩ rfl (by decide +kernel) dL_law_630 (Nat.le_of_ble_eq_true rfl) (by omega) (by omega) (fun H2 locs2 hV2 => ?_)
  refine lv_icmp_eq (tgt := 796) hx hb dL_law_633 (by decide) (fun _ => ?_) (fun h => absurd rfl h)
  refine W.widen (k := nc + 1) (n := ns + 6) (by omega) (by omega) ?_
  exact kk _ _ _ _ _ _ hV2 hl
set_option maxHeartbeats 4000000 in
set_option maxRecDepth 100000 in
theorem lc_13 (C : lwC l p s m meth c b L xs D cid sa) {S : St} {T0 : Int32 → Prop} {Z : Int64 → Prop} {ax am qo i : Nat} (hV : lwV s D cid sa S S T0 Z ax am qo H locs) {ls : Array Slot} (hl : lv_has ls 8 (lw0 b ax am qo i)) (hi : i + 6 ≤ L) (hL : L ≤ 3072) (hnc : nc + 1 ≤ 601024) (hns : ns + 6 ≤ 7293033)
    (kk : ∀ (S' : St) (T1 : Int32 → Prop) (Z1 : Int64 → Prop) (H1 : Heap) (locs1 : List Loc) (ls1 : Array Slot), lwV s D cid sa S' S' T1 Z1 ax am qo H1 locs1 → lv_has ls1 8 (lw0 b ax am qo i) → W p l e room_1 s m #[Value.ref b] below meth c H1 locs1 (nc + 1) (ns + 6) QQ (F0 m 796 ls1 [])) :
    W p l e room_1 s m #[Value.ref b] below meth c H locs nc ns QQ (F0 m 638 ls []) := by
  have hx := C.1.1
  have hb := C.1.2.1
  refine lv_aload_n hx hb dL_law_638 rfl (lv_at hl 3 rfl) ?_
  refine lw_cx C hV hl.1 (k := 105) (n := 0) (index := 93) (av := []) (v := .int (anSlips S)) (S' := S) (rest := []) (fun tgt cg fg I J A B h => x_slips (by omega) h (fun _ _ _ _ _ h9 => QX_1 h9)) (fun _ _ => rfl) (fun _ _ => rfl) ⟨rfl, rfl⟩ rfl ⟨(xmT (tm4 (List.mem_of_getElem? (i := 119) rfl)) rfl), (xmT (tm4 (List.mem_of_getElem? (i := 120) rfl)) rfl), (xmT (tm4 (List.mem_of_getElem? (i := 121) rfl)) rfl)⟩ rfl (by decide +kernel) dL_law_639 (Nat.le_of_ble_eq_true rfl) (by omega) (by omega) (fun H1 locs1 hV1 => ?_)
  refine lv_aload_n hx hb dL_law_642 rfl (lv_at hl 2 rfl) ?_
  refine lw_cm C hV1 hl.1 (k := 180) (n := 0) (index := 96) (av := []) (v := .int (anSlips S)) (S' := S) (T1 := fun _ => True) (rest := [.int (anSlips S)]) (fun I J A B h _ => m_slips (by omega) h (fun _ _ h9 => QM_1 h9 trivial)) (fun _ _ => rfl) (fun _ _ => rfl) ⟨rfl, rfl⟩ rfl ⟨(xmT (tm6 (List.mem_of_getElem? (i := 170) rfl)) rfl), (xmT (tm6 (List.mem_of_getElem? (i := 171) rfl)) rfl), (xmT (tm6 (List.mem_of_getElem? (i := 172) rfl)) rfl)⟩ rfl (by decide +kernel) dL_law_643 (Nat.le_of_ble_eq_true rfl) (by omega) (by omega) (fun H2 locs2 hV2 => ?_)
  refine lv_icmp_eq (tgt := 796) hx hb dL_law_646 (by decide) (fun _ => ?_) (fun h => absurd rfl h)
  refine W.widen (k := nc + 1) (n := ns + 6) (by omega) (by omega) ?_
  exact kk _ _ _ _ _ _ hV2 hl
set_option maxHeartbeats 4000000 in
set_option maxRecDepth 100000 in
theorem lc_14 (C : lwC l p s m meth c b L xs D cid sa) {S : St} {T0 : Int32 → Prop} {Z : Int64 → Prop} {ax am qo i : Nat} (hV : lwV s D cid sa S S T0 Z ax am qo H locs) {ls : Array Slot} (hl : lv_has ls 8 (lw0 b ax am qo i)) (hi : i + 6 ≤ L) (hL : L ≤ 3072) (hnc : nc + 1 ≤ 601024) (hns : ns + 6 ≤ 7293033)
    (kk : ∀ (S' : St) (T1 : Int32 → Prop) (Z1 : Int64 → Prop) (H1 : Heap) (locs1 : List Loc) (ls1 : Array Slot), lwV s D cid sa S' S' T1 Z1 ax am qo H1 locs1 → lv_has ls1 8 (lw0 b ax am qo i) → W p l e room_1 s m #[Value.ref b] below meth c H1 locs1 (nc + 1) (ns + 6) QQ (F0 m 796 ls1 [])) :
    W p l e room_1 s m #[Value.ref b] below meth c H locs nc ns QQ (F0 m 651 ls []) := by
  have hx := C.1.1
  have hb := C.1.2.1
  refine lv_aload_n hx hb dL_law_651 rfl (lv_at hl 3 rfl) ?_
  refine lw_cx C hV hl.1 (k := 106) (n := 0) (index := 97) (av := []) (v := .int (anMk S)) (S' := stMk S) (rest := []) (fun tgt cg fg I J A B h => x_mark (by omega) h (fun _ _ _ _ _ _ _ _ h9 => QX_1 h9)) (fun _ _ => rfl) (fun _ _ => rfl) ⟨rfl, rfl⟩ rfl ⟨(xmT (tm4 (List.mem_of_getElem? (i := 132) rfl)) rfl), (xmT (tm4 (List.mem_of_getElem? (i := 133) rfl)) rfl), (xmT (tm4 (List.mem_of_getElem? (i := 134) rfl)) rfl)⟩ rfl (by decide +kernel) dL_law_652 (Nat.le_of_ble_eq_true rfl) (by omega) (by omega) (fun H1 locs1 hV1 => ?_)
  refine lv_aload_n hx hb dL_law_655 rfl (lv_at hl 2 rfl) ?_
  refine lw_cm C hV1 hl.1 (k := 185) (n := 0) (index := 100) (av := []) (v := .int (anMk S)) (S' := stMk S) (T1 := fun _ => True) (rest := [.int (anMk S)]) (fun I J A B h _ => m_mark (by omega) h (fun _ _ _ _ h9 => QM_1 h9 trivial)) (fun _ _ => rfl) (fun _ _ => rfl) ⟨rfl, rfl⟩ rfl ⟨(xmT (tm6 (List.mem_of_getElem? (i := 191) rfl)) rfl), (xmT (tm6 (List.mem_of_getElem? (i := 192) rfl)) rfl), (xmT (tm6 (List.mem_of_getElem? (i := 193) rfl)) rfl)⟩ rfl (by decide +kernel) dL_law_656 (Nat.le_of_ble_eq_true rfl) (by omega) (by omega) (fun H2 locs2 hV2 => ?_)
  refine lv_icmp_eq (tgt := 796) hx hb dL_law_659 (by decide) (fun _ => ?_) (fun h => absurd rfl h)
  refine W.widen (k := nc + 1) (n := ns + 6) (by omega) (by omega) ?_
  exact kk _ _ _ _ _ _ hV2 hl
set_option maxHeartbeats 4000000 in
set_option maxRecDepth 100000 in
theorem lc_15 (C : lwC l p s m meth c b L xs D cid sa) {S : St} {T0 : Int32 → Prop} {Z : Int64 → Prop} {ax am qo i : Nat} (hV : lwV s D cid sa S S T0 Z ax am qo H locs) {ls : Array Slot} (hl : lv_has ls 8 (lw0 b ax am qo i)) (hi : i + 6 ≤ L) (hL : L ≤ 3072) (hnc : nc + 1 ≤ 601024) (hns : ns + 6 ≤ 7293033)
    (kk : ∀ (S' : St) (T1 : Int32 → Prop) (Z1 : Int64 → Prop) (H1 : Heap) (locs1 : List Loc) (ls1 : Array Slot), lwV s D cid sa S' S' T1 Z1 ax am qo H1 locs1 → lv_has ls1 8 (lw0 b ax am qo i) → W p l e room_1 s m #[Value.ref b] below meth c H1 locs1 (nc + 1) (ns + 6) QQ (F0 m 796 ls1 [])) :
    W p l e room_1 s m #[Value.ref b] below meth c H locs nc ns QQ (F0 m 664 ls []) := by
  have hx := C.1.1
  have hb := C.1.2.1
  refine lv_aload_n hx hb dL_law_664 rfl (lv_at hl 3 rfl) ?_
  refine lw_cx C hV hl.1 (k := 107) (n := 0) (index := 101) (av := []) (v := .int (anHeld S)) (S' := S) (rest := []) (fun tgt cg fg I J A B h => x_held (by omega) h (QX_1 h)) (fun _ _ => rfl) (fun _ _ => rfl) ⟨rfl, rfl⟩ rfl ⟨(xmT (tm4 (List.mem_of_getElem? (i := 136) rfl)) rfl), (xmT (tm4 (List.mem_of_getElem? (i := 137) rfl)) rfl), (xmT (tm4 (List.mem_of_getElem? (i := 138) rfl)) rfl)⟩ rfl (by decide +kernel) dL_law_665 (Nat.le_of_ble_eq_true rfl) (by omega) (by omega) (fun H1 locs1 hV1 => ?_)
  refine lv_aload_n hx hb dL_law_668 rfl (lv_at hl 2 rfl) ?_
  refine lw_cm C hV1 hl.1 (k := 186) (n := 0) (index := 104) (av := []) (v := .int (anHeld S)) (S' := S) (T1 := fun _ => True) (rest := [.int (anHeld S)]) (fun I J A B h _ => m_held (by omega) h (fun _ h9 => QM_1 h9 trivial)) (fun _ _ => rfl) (fun _ _ => rfl) ⟨rfl, rfl⟩ rfl ⟨(xmT (tm6 (List.mem_of_getElem? (i := 211) rfl)) rfl), (xmT (tm6 (List.mem_of_getElem? (i := 212) rfl)) rfl), (xmT (tm6 (List.mem_of_getElem? (i := 213) rfl)) rfl)⟩ rfl (by decide +kernel) dL_law_669 (Nat.le_of_ble_eq_true rfl) (by omega) (by omega) (fun H2 locs2 hV2 => ?_)
  refine lv_icmp_eq (tgt := 796) hx hb dL_law_672 (by decide) (fun _ => ?_) (fun h => absurd rfl h)
  refine W.widen (k := nc + 1) (n := ns + 6) (by omega) (by omega) ?_
  exact kk _ _ _ _ _ _ hV2 hl
set_option maxHeartbeats 4000000 in
set_option maxRecDepth 100000 in
theorem lc_16 (C : lwC l p s m meth c b L xs D cid sa) {S : St} {T0 : Int32 → Prop} {Z : Int64 → Prop} {ax am qo i : Nat} (hV : lwV s D cid sa S S T0 Z ax am qo H locs) {ls : Array Slot} (hl : lv_has ls 8 (lw0 b ax am qo i)) (hi : i + 6 ≤ L) (hL : L ≤ 3072) (hnc : nc + 1 ≤ 601024) (hns : ns + 6 ≤ 7293033)
    (kk : ∀ (S' : St) (T1 : Int32 → Prop) (Z1 : Int64 → Prop) (H1 : Heap) (locs1 : List Loc) (ls1 : Array Slot), lwV s D cid sa S' S' T1 Z1 ax am qo H1 locs1 → lv_has ls1 8 (lw0 b ax am qo i) → W p l e room_1 s m #[Value.ref b] below meth c H1 locs1 (nc + 1) (ns + 6) QQ (F0 m 796 ls1 [])) :
    W p l e room_1 s m #[Value.ref b] below meth c H locs nc ns QQ (F0 m 677 ls []) := by
  have hx := C.1.1
  have hb := C.1.2.1
  refine lv_aload_n hx hb dL_law_677 rfl (lv_at hl 3 rfl) ?_
  refine lw_arg C hV hl (i := i) (List.mem_of_getElem? (i := 4) rfl) (List.mem_of_getElem? (i := 0) rfl) hi hL (j := 1) (by decide) dL_law_678 dL_law_679 dL_law_681 (by decide) dL_law_682 dL_law_683 ?_
  refine lw_cx C hV hl.1 (k := 108) (n := 1) (index := 105) (av := [.int (xs (i + 1))]) (v := .int (anNm S (xs (i + 1)))) (S' := stNm S (xs (i + 1))) (rest := []) (fun tgt cg fg I J A B h => x_name (by omega) h (fun _ _ h9 => QX_1 h9)) (fun _ _ => rfl) (fun _ _ => rfl) ⟨rfl, rfl⟩ rfl ⟨(xmT (tm4 (List.mem_of_getElem? (i := 146) rfl)) rfl), (xmT (tm4 (List.mem_of_getElem? (i := 147) rfl)) rfl), (xmT (tm4 (List.mem_of_getElem? (i := 148) rfl)) rfl)⟩ rfl (by decide +kernel) dL_law_684 (Nat.le_of_ble_eq_true rfl) (by omega) (by omega) (fun H1 locs1 hV1 => ?_)
  refine lv_aload_n hx hb dL_law_687 rfl (lv_at hl 2 rfl) ?_
  refine lw_arg C hV1 hl (i := i) (List.mem_of_getElem? (i := 4) rfl) (List.mem_of_getElem? (i := 0) rfl) hi hL (j := 1) (by decide) dL_law_688 dL_law_689 dL_law_691 (by decide) dL_law_692 dL_law_693 ?_
  refine lw_cm C hV1 hl.1 (k := 187) (n := 1) (index := 108) (av := [.int (xs (i + 1))]) (v := .int (anNm S (xs (i + 1)))) (S' := stNm S (xs (i + 1))) (T1 := fun _ => True) (rest := [.int (anNm S (xs (i + 1)))]) (fun I J A B h _ => m_name (by omega) h (fun _ _ h9 => QM_1 h9 trivial)) (fun _ _ => rfl) (fun _ _ => rfl) ⟨rfl, rfl⟩ rfl ⟨(xmT (tm6 (List.mem_of_getElem? (i := 215) rfl)) rfl), (xmT (tm6 (List.mem_of_getElem? (i := 216) rfl)) rfl), (xmT (tm6 (List.mem_of_getElem? (i := 217) rfl)) rfl)⟩ rfl (by decide +kernel) dL_law_694 (Nat.le_of_ble_eq_true rfl) (by omega) (by omega) (fun H2 locs2 hV2 => ?_)
  refine lv_icmp_eq (tgt := 796) hx hb dL_law_697 (by decide) (fun _ => ?_) (fun h => absurd rfl h)
  refine W.widen (k := nc + 1) (n := ns + 6) (by omega) (by omega) ?_
  exact kk _ _ _ _ _ _ hV2 hl
set_option maxHeartbeats 4000000 in
set_option maxRecDepth 100000 in
theorem lc_17 (C : lwC l p s m meth c b L xs D cid sa) {S : St} {T0 : Int32 → Prop} {Z : Int64 → Prop} {ax am qo i : Nat} (hV : lwV s D cid sa S S T0 Z ax am qo H locs) {ls : Array Slot} (hl : lv_has ls 8 (lw0 b ax am qo i)) (hi : i + 6 ≤ L) (hL : L ≤ 3072) (hnc : nc + 1 ≤ 601024) (hns : ns + 6 ≤ 7293033)
    (kk : ∀ (S' : St) (T1 : Int32 → Prop) (Z1 : Int64 → Prop) (H1 : Heap) (locs1 : List Loc) (ls1 : Array Slot), lwV s D cid sa S' S' T1 Z1 ax am qo H1 locs1 → lv_has ls1 8 (lw0 b ax am qo i) → W p l e room_1 s m #[Value.ref b] below meth c H1 locs1 (nc + 1) (ns + 6) QQ (F0 m 796 ls1 [])) :
    W p l e room_1 s m #[Value.ref b] below meth c H locs nc ns QQ (F0 m 702 ls []) := by
  have hx := C.1.1
  have hb := C.1.2.1
  refine lv_aload_n hx hb dL_law_702 rfl (lv_at hl 3 rfl) ?_
  refine lw_cx C hV hl.1 (k := 109) (n := 0) (index := 109) (av := []) (v := .int (anCat S)) (S' := S.setN 0) (rest := []) (fun tgt cg fg I J A B h => x_category (by omega) h (fun _ h9 => QX_1 h9)) (fun _ _ => rfl) (fun _ _ => rfl) ⟨rfl, rfl⟩ rfl ⟨(xmT (tm4 (List.mem_of_getElem? (i := 154) rfl)) rfl), (xmT (tm4 (List.mem_of_getElem? (i := 155) rfl)) rfl), (xmT (tm4 (List.mem_of_getElem? (i := 156) rfl)) rfl)⟩ rfl (by decide +kernel) dL_law_703 (Nat.le_of_ble_eq_true rfl) (by omega) (by omega) (fun H1 locs1 hV1 => ?_)
  refine lv_aload_n hx hb dL_law_706 rfl (lv_at hl 2 rfl) ?_
  refine lw_cm C hV1 hl.1 (k := 188) (n := 0) (index := 112) (av := []) (v := .int (anCat S)) (S' := S.setN 0) (T1 := fun _ => True) (rest := [.int (anCat S)]) (fun I J A B h _ => m_category (by omega) h (fun _ _ h9 => QM_1 h9 trivial)) (fun _ _ => rfl) (fun _ _ => rfl) ⟨rfl, rfl⟩ rfl ⟨(xmT (tm6 (List.mem_of_getElem? (i := 219) rfl)) rfl), (xmT (tm6 (List.mem_of_getElem? (i := 220) rfl)) rfl), (xmT (tm6 (List.mem_of_getElem? (i := 221) rfl)) rfl)⟩ rfl (by decide +kernel) dL_law_707 (Nat.le_of_ble_eq_true rfl) (by omega) (by omega) (fun H2 locs2 hV2 => ?_)
  refine lv_icmp_eq (tgt := 796) hx hb dL_law_710 (by decide) (fun _ => ?_) (fun h => absurd rfl h)
  refine W.widen (k := nc + 1) (n := ns + 6) (by omega) (by omega) ?_
  exact kk _ _ _ _ _ _ hV2 hl
set_option maxHeartbeats 4000000 in
set_option maxRecDepth 100000 in
theorem lc_19 (C : lwC l p s m meth c b L xs D cid sa) {S : St} {T0 : Int32 → Prop} {Z : Int64 → Prop} {ax am qo i : Nat} (hV : lwV s D cid sa S S T0 Z ax am qo H locs) {ls : Array Slot} (hl : lv_has ls 8 (lw0 b ax am qo i)) (hi : i + 6 ≤ L) (hL : L ≤ 3072) (hnc : nc + 1 ≤ 601024) (hns : ns + 6 ≤ 7293033)
    (kk : ∀ (S' : St) (T1 : Int32 → Prop) (Z1 : Int64 → Prop) (H1 : Heap) (locs1 : List Loc) (ls1 : Array Slot), lwV s D cid sa S' S' T1 Z1 ax am qo H1 locs1 → lv_has ls1 8 (lw0 b ax am qo i) → W p l e room_1 s m #[Value.ref b] below meth c H1 locs1 (nc + 1) (ns + 6) QQ (F0 m 796 ls1 [])) :
    W p l e room_1 s m #[Value.ref b] below meth c H locs nc ns QQ (F0 m 771 ls []) := by
  have hx := C.1.1
  have hb := C.1.2.1
  refine lv_aload_n hx hb dL_law_771 rfl (lv_at hl 3 rfl) ?_
  refine lw_arg C hV hl (i := i) (List.mem_of_getElem? (i := 4) rfl) (List.mem_of_getElem? (i := 0) rfl) hi hL (j := 1) (by decide) dL_law_772 dL_law_773 dL_law_775 (by decide) dL_law_776 dL_law_777 ?_
  refine lw_cx C hV hl.1 (k := 111) (n := 1) (index := 117) (av := [.int (xs (i + 1))]) (v := .int (anCount S (xs (i + 1)))) (S' := S) (rest := []) (fun tgt cg fg I J A B h => x_count (by omega) h (QX_1 h)) (fun _ _ => rfl) (fun _ _ => rfl) ⟨rfl, rfl⟩ rfl ⟨(xmT (tm4 (List.mem_of_getElem? (i := 158) rfl)) rfl), (xmT (tm4 (List.mem_of_getElem? (i := 159) rfl)) rfl), (xmT (tm4 (List.mem_of_getElem? (i := 160) rfl)) rfl)⟩ rfl (by decide +kernel) dL_law_778 (Nat.le_of_ble_eq_true rfl) (by omega) (by omega) (fun H1 locs1 hV1 => ?_)
  refine lv_aload_n hx hb dL_law_781 rfl (lv_at hl 2 rfl) ?_
  refine lw_arg C hV1 hl (i := i) (List.mem_of_getElem? (i := 4) rfl) (List.mem_of_getElem? (i := 0) rfl) hi hL (j := 1) (by decide) dL_law_782 dL_law_783 dL_law_785 (by decide) dL_law_786 dL_law_787 ?_
  refine lw_cm C hV1 hl.1 (k := 190) (n := 1) (index := 120) (av := [.int (xs (i + 1))]) (v := .int (anCount S (xs (i + 1)))) (S' := S) (T1 := fun _ => True) (rest := [.int (anCount S (xs (i + 1)))]) (fun I J A B h _ => m_count (by omega) h (fun _ h9 => QM_1 h9 trivial)) (fun _ _ => rfl) (fun _ _ => rfl) ⟨rfl, rfl⟩ rfl ⟨(xmT (tm6 (List.mem_of_getElem? (i := 227) rfl)) rfl), (xmT (tm6 (List.mem_of_getElem? (i := 228) rfl)) rfl), (xmT (tm6 (List.mem_of_getElem? (i := 229) rfl)) rfl)⟩ rfl (by decide +kernel) dL_law_788 (Nat.le_of_ble_eq_true rfl) (by omega) (by omega) (fun H2 locs2 hV2 => ?_)
  refine lv_icmp_eq (tgt := 796) hx hb dL_law_791 (by decide) (fun _ => ?_) (fun h => absurd rfl h)
  refine W.widen (k := nc + 1) (n := ns + 6) (by omega) (by omega) ?_
  exact kk _ _ _ _ _ _ hV2 hl
end LP
