/-! ===== printed by program: the law's cases with a helper, and its loop ===== -/
theorem hvI_0 {ok : Bool} (h : hvI ok = 0) : ok = true := by
  cases ok with
  | true => rfl
  | false => exact absurd h (by decide)
section LH
variable {p : Program} {l : Launch} {e : Env} {s : State} {m : MethodId} {below : List Frame} {meth : Method} {c : Code} {b L : Nat} {xs : Nat → Int32} {D : va_G} {cid : Nat → ClassId} {sa : Nat} {H : Heap} {locs : List Loc} {nc ns : Nat} {QQ : State → Prop}
set_option maxHeartbeats 4000000 in
set_option maxRecDepth 100000 in
theorem lc_7 (C : lwC l p s m meth c b L xs D cid sa) {S : St} {T0 : Int32 → Prop} {Z : Int64 → Prop} {ax am qo i : Nat} (hV : lwV s D cid sa S S T0 Z ax am qo H locs) {ls : Array Slot} (hl : lv_has ls 8 (lw0 b ax am qo i)) (hi : i + 6 ≤ L) (hL : L ≤ 3072) (hnc : nc + 1 ≤ 601024) (hns : ns + 6 ≤ 7293033)
    (kk : ∀ (S' : St) (T1 : Int32 → Prop) (Z1 : Int64 → Prop) (H1 : Heap) (locs1 : List Loc) (ls1 : Array Slot), lwV s D cid sa S' S' T1 Z1 ax am qo H1 locs1 → lv_has ls1 8 (lw0 b ax am qo i) → W p l e room_1 s m #[Value.ref b] below meth c H1 locs1 (nc + 1) (ns + 6) QQ (F0 m 796 ls1 [])) :
    W p l e room_1 s m #[Value.ref b] below meth c H locs nc ns QQ (F0 m 324 ls []) := by
  have hx := C.1.1
  have hb := C.1.2.1
  obtain ⟨ok, hok⟩ : ∃ ok : Bool, (kB60 S (xs (i + 1)) (xs (i + 2)) (xs (i + 3)) && wB4 (xs (i + 4))) = ok := ⟨_, rfl⟩
  obtain ⟨an, han⟩ : ∃ an : Int32, (if ok = true then anSign S (xs (i + 1)) (xs (i + 2)) (xs (i + 3)) (xs (i + 4)) else 0) = an := ⟨_, rfl⟩
  refine lv_aload_n hx hb dL_law_324 rfl (lv_at hl 3 rfl) ?_
  refine lw_arg C hV hl (i := i) (List.mem_of_getElem? (i := 4) rfl) (List.mem_of_getElem? (i := 0) rfl) hi hL (j := 1) (by decide) dL_law_325 dL_law_326 dL_law_328 (by decide) dL_law_329 dL_law_330 ?_
  refine lw_arg C hV hl (i := i) (List.mem_of_getElem? (i := 4) rfl) (List.mem_of_getElem? (i := 0) rfl) hi hL (j := 2) (by decide) dL_law_331 dL_law_332 dL_law_334 (by decide) dL_law_335 dL_law_336 ?_
  refine lw_arg C hV hl (i := i) (List.mem_of_getElem? (i := 4) rfl) (List.mem_of_getElem? (i := 0) rfl) hi hL (j := 3) (by decide) dL_law_337 dL_law_338 dL_law_340 (by decide) dL_law_341 dL_law_342 ?_
  refine lw_arg C hV hl (i := i) (List.mem_of_getElem? (i := 4) rfl) (List.mem_of_getElem? (i := 0) rfl) hi hL (j := 4) (by decide) dL_law_343 dL_law_344 dL_law_346 (by decide) dL_law_347 dL_law_348 ?_
  refine lv_aload_n hx hb dL_law_349 rfl (lv_at hl 1 rfl) ?_
  refine lw_ch C hV hl.1 (y := yL_sign) (bytes := cL_sign) (ml := 7) (n := 6) (index := 63) (hh := [(0, 14, 17, 13)]) (av := [.int (xs (i + 1)), .int (xs (i + 2)), .int (xs (i + 3)), .int (xs (i + 4))]) (ok := ok) (z := (anSign S (xs (i + 1)) (xs (i + 2)) (xs (i + 3)) (xs (i + 4))).toInt64) (rest := []) (fun tgt cg fg I J A B h dC dI cid ad sa sz qo O => by rw [← hok]; exact h_sign C.2.1 h dC dI cid ad sa sz qo O) (by decide) rfl (tm4 (List.mem_of_getElem? (i := 164) rfl)) ⟨(xmT (tm4 (List.mem_of_getElem? (i := 162) rfl)) rfl), (xmT (tm4 (List.mem_of_getElem? (i := 163) rfl)) rfl), (xmT (tm1 (List.mem_of_getElem? (i := 0) rfl)) rfl)⟩ rfl rfl (by decide +kernel) dL_law_350 (Nat.le_of_ble_eq_true rfl) hnc hns (fun H1 locs1 hV1 => ?_)
  refine lv_istore hx hb dL_law_353 hl (by decide) rfl (fun ls1 hl1 => ?_)
  have hl1 : lv_has ls1 8 ((5, .int (hvI ok)) :: lw0 b ax am qo i) := hl1
  refine lv_aload_n hx hb dL_law_355 rfl (lv_at hl1 3 rfl) ?_
  refine lw_arg C hV1 hl1 (i := i) (List.mem_of_getElem? (i := 5) rfl) (List.mem_of_getElem? (i := 1) rfl) hi hL (j := 1) (by decide) dL_law_356 dL_law_357 dL_law_359 (by decide) dL_law_360 dL_law_361 ?_
  refine lw_arg C hV1 hl1 (i := i) (List.mem_of_getElem? (i := 5) rfl) (List.mem_of_getElem? (i := 1) rfl) hi hL (j := 2) (by decide) dL_law_362 dL_law_363 dL_law_365 (by decide) dL_law_366 dL_law_367 ?_
  refine lw_arg C hV1 hl1 (i := i) (List.mem_of_getElem? (i := 5) rfl) (List.mem_of_getElem? (i := 1) rfl) hi hL (j := 3) (by decide) dL_law_368 dL_law_369 dL_law_371 (by decide) dL_law_372 dL_law_373 ?_
  refine lw_arg C hV1 hl1 (i := i) (List.mem_of_getElem? (i := 5) rfl) (List.mem_of_getElem? (i := 1) rfl) hi hL (j := 4) (by decide) dL_law_374 dL_law_375 dL_law_377 (by decide) dL_law_378 dL_law_379 ?_
  refine lw_cm C hV1 hl1.1 (k := 164) (n := 4) (index := 68) (av := [.int (xs (i + 1)), .int (xs (i + 2)), .int (xs (i + 3)), .int (xs (i + 4))]) (v := .int an) (S' := S) (T1 := fun t => t = hvI ok) (rest := []) (fun I J A B h _ => m_sign (by omega) h (fun I9 e h9 t9 => by
      rw [hok] at e; subst e; subst han; exact ⟨rfl, I9, _, _, _, h9, t9, rfl⟩) (fun I9 e h9 t9 => by
      rw [hok] at e; subst e; subst han; exact ⟨rfl, I9, _, _, _, h9, t9, rfl⟩)) (fun _ _ => rfl) (fun _ _ => rfl) ⟨rfl, rfl⟩ rfl ⟨(xmT (tm6 (List.mem_of_getElem? (i := 117) rfl)) rfl), (xmT (tm6 (List.mem_of_getElem? (i := 118) rfl)) rfl), (xmT (tm6 (List.mem_of_getElem? (i := 119) rfl)) rfl)⟩ rfl (by decide +kernel) dL_law_380 (Nat.le_of_ble_eq_true rfl) (by omega) (by omega) (fun H2 locs2 hV2 => ?_)
  refine lv_istore hx hb dL_law_383 hl1 (by decide) rfl (fun ls2 hl2 => ?_)
  have hl2 : lv_has ls2 8 ((6, .int an) :: (5, .int (hvI ok)) :: lw0 b ax am qo i) := hl2
  refine lv_aload_n hx hb dL_law_385 rfl (lv_at hl2 4 rfl) ?_
  refine lw_cm C hV2 hl2.1 (k := 124) (n := 0) (index := 69) (av := []) (v := .int (hvI ok)) (S' := S) (T1 := fun t => t = hvI ok) (rest := []) (fun I J A B h ht => e_X11_thrown (d := 599) (by
      have ht : I 0 = hvI ok := ht
      rw [ht]; exact ⟨rfl, I, J, A, B, h, ht, rfl⟩)) (fun _ _ => rfl) (fun _ _ => rfl) ⟨rfl, rfl⟩ rfl ⟨(xmT (tm5 (List.mem_of_getElem? (i := 195) rfl)) rfl), (xmT (tm5 (List.mem_of_getElem? (i := 196) rfl)) rfl), (xmT (tm5 (List.mem_of_getElem? (i := 197) rfl)) rfl)⟩ rfl (by decide +kernel) dL_law_386 (Nat.le_of_ble_eq_true rfl) (by omega) (by omega) (fun H3 locs3 hV3 => ?_)
  refine lv_iload hx hb dL_law_389 (lv_at hl2 1 rfl) ?_
  refine lv_icmp_eq (tgt := 396) hx hb dL_law_391 (by decide) (fun _ => ?_) (fun h => absurd rfl h)
  refine lv_iload hx hb dL_law_396 (lv_at hl2 1 rfl) ?_
  have hend : lv_has ls2 8 (lw0 b ax am qo i) := ⟨hl2.1, hl2.2.1, fun q hq => hl2.2.2 q (List.mem_cons_of_mem _ (List.mem_cons_of_mem _ hq))⟩
  refine lv_if_ne (tgt := 413) hx hb dL_law_398 (by decide) (fun _ => lv_goto (tgt := 796) hx hb dL_law_413 (by decide) (kk _ _ _ _ _ _ hV3 hend)) (fun h0 => ?_)
  have hT := hvI_0 h0
  refine lv_aload_n hx hb dL_law_401 rfl (lv_at hl2 3 rfl) ?_
  refine lv_iconst (v := 0) hx hb dL_law_402 (by decide) ?_
  refine lw_out C hV3 dL_law_403 (fun u hu => ?_)
  have hu : u = (anSign S (xs (i + 1)) (xs (i + 2)) (xs (i + 3)) (xs (i + 4))).toInt64 := hu hT
  rw [if_pos hT] at han
  refine lv_iload hx hb dL_law_404 (lv_at hl2 0 rfl) ?_
  refine lv_i2l hx hb dL_law_406 rfl ?_
  refine W.lcmp hx hb dL_law_407 ?_
  refine lv_if_eq (tgt := 413) hx hb dL_law_408 (by decide) (fun _ => lv_goto (tgt := 796) hx hb dL_law_413 (by decide) (kk _ _ _ _ _ _ hV3 hend)) (fun h => absurd ((lg_cmp_eq _ _).mpr (by rw [hu, ← han])) h)
set_option maxHeartbeats 4000000 in
set_option maxRecDepth 100000 in
theorem lc_8 (C : lwC l p s m meth c b L xs D cid sa) {S : St} {T0 : Int32 → Prop} {Z : Int64 → Prop} {ax am qo i : Nat} (hV : lwV s D cid sa S S T0 Z ax am qo H locs) {ls : Array Slot} (hl : lv_has ls 8 (lw0 b ax am qo i)) (hi : i + 6 ≤ L) (hL : L ≤ 3072) (hnc : nc + 1 ≤ 601024) (hns : ns + 6 ≤ 7293033)
    (kk : ∀ (S' : St) (T1 : Int32 → Prop) (Z1 : Int64 → Prop) (H1 : Heap) (locs1 : List Loc) (ls1 : Array Slot), lwV s D cid sa S' S' T1 Z1 ax am qo H1 locs1 → lv_has ls1 8 (lw0 b ax am qo i) → W p l e room_1 s m #[Value.ref b] below meth c H1 locs1 (nc + 1) (ns + 6) QQ (F0 m 796 ls1 [])) :
    W p l e room_1 s m #[Value.ref b] below meth c H locs nc ns QQ (F0 m 416 ls []) := by
  have hx := C.1.1
  have hb := C.1.2.1
  obtain ⟨ok, hok⟩ : ∃ ok : Bool, (kB60 S (xs (i + 1)) (xs (i + 2)) (xs (i + 3))) = ok := ⟨_, rfl⟩
  obtain ⟨an, han⟩ : ∃ an : Int64, (if ok = true then anTimes S (xs (i + 1)) (xs (i + 2)) (xs (i + 3)) else 0) = an := ⟨_, rfl⟩
  refine lv_aload_n hx hb dL_law_416 rfl (lv_at hl 3 rfl) ?_
  refine lw_arg C hV hl (i := i) (List.mem_of_getElem? (i := 4) rfl) (List.mem_of_getElem? (i := 0) rfl) hi hL (j := 1) (by decide) dL_law_417 dL_law_418 dL_law_420 (by decide) dL_law_421 dL_law_422 ?_
  refine lw_arg C hV hl (i := i) (List.mem_of_getElem? (i := 4) rfl) (List.mem_of_getElem? (i := 0) rfl) hi hL (j := 2) (by decide) dL_law_423 dL_law_424 dL_law_426 (by decide) dL_law_427 dL_law_428 ?_
  refine lw_arg C hV hl (i := i) (List.mem_of_getElem? (i := 4) rfl) (List.mem_of_getElem? (i := 0) rfl) hi hL (j := 3) (by decide) dL_law_429 dL_law_430 dL_law_432 (by decide) dL_law_433 dL_law_434 ?_
  refine lv_aload_n hx hb dL_law_435 rfl (lv_at hl 1 rfl) ?_
  refine lw_ch C hV hl.1 (y := yL_times) (bytes := cL_times) (ml := 6) (n := 5) (index := 72) (hh := [(0, 11, 14, 13)]) (av := [.int (xs (i + 1)), .int (xs (i + 2)), .int (xs (i + 3))]) (ok := ok) (z := (anTimes S (xs (i + 1)) (xs (i + 2)) (xs (i + 3)))) (rest := []) (fun tgt cg fg I J A B h dC dI cid ad sa sz qo O => by rw [← hok]; exact h_times C.2.1 h dC dI cid ad sa sz qo O) (by decide) rfl (tm5 (List.mem_of_getElem? (i := 5) rfl)) ⟨(xmT (tm5 (List.mem_of_getElem? (i := 3) rfl)) rfl), (xmT (tm5 (List.mem_of_getElem? (i := 4) rfl)) rfl), (xmT (tm1 (List.mem_of_getElem? (i := 0) rfl)) rfl)⟩ rfl rfl (by decide +kernel) dL_law_436 (Nat.le_of_ble_eq_true rfl) hnc hns (fun H1 locs1 hV1 => ?_)
  refine lv_istore hx hb dL_law_439 hl (by decide) rfl (fun ls1 hl1 => ?_)
  have hl1 : lv_has ls1 8 ((5, .int (hvI ok)) :: lw0 b ax am qo i) := hl1
  refine lv_aload_n hx hb dL_law_441 rfl (lv_at hl1 3 rfl) ?_
  refine lw_arg C hV1 hl1 (i := i) (List.mem_of_getElem? (i := 5) rfl) (List.mem_of_getElem? (i := 1) rfl) hi hL (j := 1) (by decide) dL_law_442 dL_law_443 dL_law_445 (by decide) dL_law_446 dL_law_447 ?_
  refine lw_arg C hV1 hl1 (i := i) (List.mem_of_getElem? (i := 5) rfl) (List.mem_of_getElem? (i := 1) rfl) hi hL (j := 2) (by decide) dL_law_448 dL_law_449 dL_law_451 (by decide) dL_law_452 dL_law_453 ?_
  refine lw_arg C hV1 hl1 (i := i) (List.mem_of_getElem? (i := 5) rfl) (List.mem_of_getElem? (i := 1) rfl) hi hL (j := 3) (by decide) dL_law_454 dL_law_455 dL_law_457 (by decide) dL_law_458 dL_law_459 ?_
  refine lw_cm C hV1 hl1.1 (k := 165) (n := 3) (index := 75) (av := [.int (xs (i + 1)), .int (xs (i + 2)), .int (xs (i + 3))]) (v := .long an) (S' := S) (T1 := fun t => t = hvI ok) (rest := []) (fun I J A B h _ => m_times (by omega) h (fun I9 e h9 t9 => by
      rw [hok] at e; subst e; subst han; exact ⟨rfl, I9, _, _, _, h9, t9, rfl⟩) (fun I9 e h9 t9 => by
      rw [hok] at e; subst e; subst han; exact ⟨rfl, I9, _, _, _, h9, t9, rfl⟩)) (fun _ _ => rfl) (fun _ _ => rfl) ⟨rfl, rfl⟩ rfl ⟨(xmT (tm6 (List.mem_of_getElem? (i := 125) rfl)) rfl), (xmT (tm6 (List.mem_of_getElem? (i := 126) rfl)) rfl), (xmT (tm6 (List.mem_of_getElem? (i := 127) rfl)) rfl)⟩ rfl (by decide +kernel) dL_law_460 (Nat.le_of_ble_eq_true rfl) (by omega) (by omega) (fun H2 locs2 hV2 => ?_)
  refine lv_lstore hx hb dL_law_463 hl1 (by decide) rfl (fun ls2 hl2 => ?_)
  have hl2 : lv_has ls2 8 ((6, .long an) :: (5, .int (hvI ok)) :: lw0 b ax am qo i) := hl2
  refine lv_aload_n hx hb dL_law_465 rfl (lv_at hl2 4 rfl) ?_
  refine lw_cm C hV2 hl2.1 (k := 124) (n := 0) (index := 69) (av := []) (v := .int (hvI ok)) (S' := S) (T1 := fun t => t = hvI ok) (rest := []) (fun I J A B h ht => e_X11_thrown (d := 599) (by
      have ht : I 0 = hvI ok := ht
      rw [ht]; exact ⟨rfl, I, J, A, B, h, ht, rfl⟩)) (fun _ _ => rfl) (fun _ _ => rfl) ⟨rfl, rfl⟩ rfl ⟨(xmT (tm5 (List.mem_of_getElem? (i := 195) rfl)) rfl), (xmT (tm5 (List.mem_of_getElem? (i := 196) rfl)) rfl), (xmT (tm5 (List.mem_of_getElem? (i := 197) rfl)) rfl)⟩ rfl (by decide +kernel) dL_law_466 (Nat.le_of_ble_eq_true rfl) (by omega) (by omega) (fun H3 locs3 hV3 => ?_)
  refine lv_iload hx hb dL_law_469 (lv_at hl2 1 rfl) ?_
  refine lv_icmp_eq (tgt := 476) hx hb dL_law_471 (by decide) (fun _ => ?_) (fun h => absurd rfl h)
  refine lv_iload hx hb dL_law_476 (lv_at hl2 1 rfl) ?_
  have hend : lv_has ls2 8 (lw0 b ax am qo i) := ⟨hl2.1, hl2.2.1, fun q hq => hl2.2.2 q (List.mem_cons_of_mem _ (List.mem_cons_of_mem _ hq))⟩
  refine lv_if_ne (tgt := 492) hx hb dL_law_478 (by decide) (fun _ => lv_goto (tgt := 796) hx hb dL_law_492 (by decide) (kk _ _ _ _ _ _ hV3 hend)) (fun h0 => ?_)
  have hT := hvI_0 h0
  refine lv_aload_n hx hb dL_law_481 rfl (lv_at hl2 3 rfl) ?_
  refine lv_iconst (v := 0) hx hb dL_law_482 (by decide) ?_
  refine lw_out C hV3 dL_law_483 (fun u hu => ?_)
  have hu : u = (anTimes S (xs (i + 1)) (xs (i + 2)) (xs (i + 3))) := hu hT
  rw [if_pos hT] at han
  refine lv_lload hx hb dL_law_484 (lv_at hl2 0 rfl) ?_
  refine W.lcmp hx hb dL_law_486 ?_
  refine lv_if_eq (tgt := 492) hx hb dL_law_487 (by decide) (fun _ => lv_goto (tgt := 796) hx hb dL_law_492 (by decide) (kk _ _ _ _ _ _ hV3 hend)) (fun h => absurd ((lg_cmp_eq _ _).mpr (by rw [hu, ← han])) h)
set_option maxHeartbeats 4000000 in
set_option maxRecDepth 100000 in
theorem lc_10 (C : lwC l p s m meth c b L xs D cid sa) {S : St} {T0 : Int32 → Prop} {Z : Int64 → Prop} {ax am qo i : Nat} (hV : lwV s D cid sa S S T0 Z ax am qo H locs) {ls : Array Slot} (hl : lv_has ls 8 (lw0 b ax am qo i)) (hi : i + 6 ≤ L) (hL : L ≤ 3072) (hnc : nc + 1 ≤ 601024) (hns : ns + 6 ≤ 7293033)
    (kk : ∀ (S' : St) (T1 : Int32 → Prop) (Z1 : Int64 → Prop) (H1 : Heap) (locs1 : List Loc) (ls1 : Array Slot), lwV s D cid sa S' S' T1 Z1 ax am qo H1 locs1 → lv_has ls1 8 (lw0 b ax am qo i) → W p l e room_1 s m #[Value.ref b] below meth c H1 locs1 (nc + 1) (ns + 6) QQ (F0 m 796 ls1 [])) :
    W p l e room_1 s m #[Value.ref b] below meth c H locs nc ns QQ (F0 m 520 ls []) := by
  have hx := C.1.1
  have hb := C.1.2.1
  obtain ⟨ok, hok⟩ : ∃ ok : Bool, (ndB S (xs (i + 1)) && wB8 (xs (i + 2))) = ok := ⟨_, rfl⟩
  obtain ⟨an, han⟩ : ∃ an : Int32, (if ok = true then anNode S (xs (i + 1)) (xs (i + 2)) else 0) = an := ⟨_, rfl⟩
  refine lv_aload_n hx hb dL_law_520 rfl (lv_at hl 3 rfl) ?_
  refine lw_arg C hV hl (i := i) (List.mem_of_getElem? (i := 4) rfl) (List.mem_of_getElem? (i := 0) rfl) hi hL (j := 1) (by decide) dL_law_521 dL_law_522 dL_law_524 (by decide) dL_law_525 dL_law_526 ?_
  refine lw_arg C hV hl (i := i) (List.mem_of_getElem? (i := 4) rfl) (List.mem_of_getElem? (i := 0) rfl) hi hL (j := 2) (by decide) dL_law_527 dL_law_528 dL_law_530 (by decide) dL_law_531 dL_law_532 ?_
  refine lv_aload_n hx hb dL_law_533 rfl (lv_at hl 1 rfl) ?_
  refine lw_ch C hV hl.1 (y := yL_node) (bytes := cL_node) (ml := 5) (n := 4) (index := 80) (hh := [(0, 10, 13, 13)]) (av := [.int (xs (i + 1)), .int (xs (i + 2))]) (ok := ok) (z := (anNode S (xs (i + 1)) (xs (i + 2))).toInt64) (rest := []) (fun tgt cg fg I J A B h dC dI cid ad sa sz qo O => by rw [← hok]; exact h_node C.2.1 h dC dI cid ad sa sz qo O) (by decide) rfl (tm5 (List.mem_of_getElem? (i := 12) rfl)) ⟨(xmT (tm5 (List.mem_of_getElem? (i := 10) rfl)) rfl), (xmT (tm5 (List.mem_of_getElem? (i := 11) rfl)) rfl), (xmT (tm1 (List.mem_of_getElem? (i := 0) rfl)) rfl)⟩ rfl rfl (by decide +kernel) dL_law_534 (Nat.le_of_ble_eq_true rfl) hnc hns (fun H1 locs1 hV1 => ?_)
  refine lv_istore hx hb dL_law_537 hl (by decide) rfl (fun ls1 hl1 => ?_)
  have hl1 : lv_has ls1 8 ((5, .int (hvI ok)) :: lw0 b ax am qo i) := hl1
  refine lv_aload_n hx hb dL_law_539 rfl (lv_at hl1 3 rfl) ?_
  refine lw_arg C hV1 hl1 (i := i) (List.mem_of_getElem? (i := 5) rfl) (List.mem_of_getElem? (i := 1) rfl) hi hL (j := 1) (by decide) dL_law_540 dL_law_541 dL_law_543 (by decide) dL_law_544 dL_law_545 ?_
  refine lw_arg C hV1 hl1 (i := i) (List.mem_of_getElem? (i := 5) rfl) (List.mem_of_getElem? (i := 1) rfl) hi hL (j := 2) (by decide) dL_law_546 dL_law_547 dL_law_549 (by decide) dL_law_550 dL_law_551 ?_
  refine lw_cm C hV1 hl1.1 (k := 171) (n := 2) (index := 83) (av := [.int (xs (i + 1)), .int (xs (i + 2))]) (v := .int an) (S' := S) (T1 := fun t => t = hvI ok) (rest := []) (fun I J A B h _ => m_node (by omega) h (fun I9 e h9 t9 => by
      rw [hok] at e; subst e; subst han; exact ⟨rfl, I9, _, _, _, h9, t9, rfl⟩) (fun I9 e h9 t9 => by
      rw [hok] at e; subst e; subst han; exact ⟨rfl, I9, _, _, _, h9, t9, rfl⟩)) (fun _ _ => rfl) (fun _ _ => rfl) ⟨rfl, rfl⟩ rfl ⟨(xmT (tm6 (List.mem_of_getElem? (i := 150) rfl)) rfl), (xmT (tm6 (List.mem_of_getElem? (i := 151) rfl)) rfl), (xmT (tm6 (List.mem_of_getElem? (i := 152) rfl)) rfl)⟩ rfl (by decide +kernel) dL_law_552 (Nat.le_of_ble_eq_true rfl) (by omega) (by omega) (fun H2 locs2 hV2 => ?_)
  refine lv_istore hx hb dL_law_555 hl1 (by decide) rfl (fun ls2 hl2 => ?_)
  have hl2 : lv_has ls2 8 ((6, .int an) :: (5, .int (hvI ok)) :: lw0 b ax am qo i) := hl2
  refine lv_aload_n hx hb dL_law_557 rfl (lv_at hl2 4 rfl) ?_
  refine lw_cm C hV2 hl2.1 (k := 124) (n := 0) (index := 69) (av := []) (v := .int (hvI ok)) (S' := S) (T1 := fun t => t = hvI ok) (rest := []) (fun I J A B h ht => e_X11_thrown (d := 599) (by
      have ht : I 0 = hvI ok := ht
      rw [ht]; exact ⟨rfl, I, J, A, B, h, ht, rfl⟩)) (fun _ _ => rfl) (fun _ _ => rfl) ⟨rfl, rfl⟩ rfl ⟨(xmT (tm5 (List.mem_of_getElem? (i := 195) rfl)) rfl), (xmT (tm5 (List.mem_of_getElem? (i := 196) rfl)) rfl), (xmT (tm5 (List.mem_of_getElem? (i := 197) rfl)) rfl)⟩ rfl (by decide +kernel) dL_law_558 (Nat.le_of_ble_eq_true rfl) (by omega) (by omega) (fun H3 locs3 hV3 => ?_)
  refine lv_iload hx hb dL_law_561 (lv_at hl2 1 rfl) ?_
  refine lv_icmp_eq (tgt := 568) hx hb dL_law_563 (by decide) (fun _ => ?_) (fun h => absurd rfl h)
  refine lv_iload hx hb dL_law_568 (lv_at hl2 1 rfl) ?_
  have hend : lv_has ls2 8 (lw0 b ax am qo i) := ⟨hl2.1, hl2.2.1, fun q hq => hl2.2.2 q (List.mem_cons_of_mem _ (List.mem_cons_of_mem _ hq))⟩
  refine lv_if_ne (tgt := 585) hx hb dL_law_570 (by decide) (fun _ => lv_goto (tgt := 796) hx hb dL_law_585 (by decide) (kk _ _ _ _ _ _ hV3 hend)) (fun h0 => ?_)
  have hT := hvI_0 h0
  refine lv_aload_n hx hb dL_law_573 rfl (lv_at hl2 3 rfl) ?_
  refine lv_iconst (v := 0) hx hb dL_law_574 (by decide) ?_
  refine lw_out C hV3 dL_law_575 (fun u hu => ?_)
  have hu : u = (anNode S (xs (i + 1)) (xs (i + 2))).toInt64 := hu hT
  rw [if_pos hT] at han
  refine lv_iload hx hb dL_law_576 (lv_at hl2 0 rfl) ?_
  refine lv_i2l hx hb dL_law_578 rfl ?_
  refine W.lcmp hx hb dL_law_579 ?_
  refine lv_if_eq (tgt := 585) hx hb dL_law_580 (by decide) (fun _ => lv_goto (tgt := 796) hx hb dL_law_585 (by decide) (kk _ _ _ _ _ _ hV3 hend)) (fun h => absurd ((lg_cmp_eq _ _).mpr (by rw [hu, ← han])) h)
set_option maxHeartbeats 4000000 in
set_option maxRecDepth 100000 in
theorem lc_18 (C : lwC l p s m meth c b L xs D cid sa) {S : St} {T0 : Int32 → Prop} {Z : Int64 → Prop} {ax am qo i : Nat} (hV : lwV s D cid sa S S T0 Z ax am qo H locs) {ls : Array Slot} (hl : lv_has ls 8 (lw0 b ax am qo i)) (hi : i + 6 ≤ L) (hL : L ≤ 3072) (hnc : nc + 1 ≤ 601024) (hns : ns + 6 ≤ 7293033)
    (kk : ∀ (S' : St) (T1 : Int32 → Prop) (Z1 : Int64 → Prop) (H1 : Heap) (locs1 : List Loc) (ls1 : Array Slot), lwV s D cid sa S' S' T1 Z1 ax am qo H1 locs1 → lv_has ls1 8 (lw0 b ax am qo i) → W p l e room_1 s m #[Value.ref b] below meth c H1 locs1 (nc + 1) (ns + 6) QQ (F0 m 796 ls1 [])) :
    W p l e room_1 s m #[Value.ref b] below meth c H locs nc ns QQ (F0 m 715 ls []) := by
  have hx := C.1.1
  have hb := C.1.2.1
  obtain ⟨ok, hok⟩ : ∃ ok : Bool, (ocB S (xs (i + 1))) = ok := ⟨_, rfl⟩
  obtain ⟨an, han⟩ : ∃ an : Int32, (if ok = true then nI (S.out.getD (xs (i + 1)).toNatClampNeg 0) else 0) = an := ⟨_, rfl⟩
  refine lv_aload_n hx hb dL_law_715 rfl (lv_at hl 3 rfl) ?_
  refine lw_arg C hV hl (i := i) (List.mem_of_getElem? (i := 4) rfl) (List.mem_of_getElem? (i := 0) rfl) hi hL (j := 1) (by decide) dL_law_716 dL_law_717 dL_law_719 (by decide) dL_law_720 dL_law_721 ?_
  refine lv_aload_n hx hb dL_law_722 rfl (lv_at hl 1 rfl) ?_
  refine lw_ch C hV hl.1 (y := yL_octet) (bytes := cL_octet) (ml := 4) (n := 3) (index := 113) (hh := [(0, 9, 12, 13)]) (av := [.int (xs (i + 1))]) (ok := ok) (z := (nI (S.out.getD (xs (i + 1)).toNatClampNeg 0)).toInt64) (rest := []) (fun tgt cg fg I J A B h dC dI cid ad sa sz qo O => by rw [← hok]; exact h_octet C.2.1 h dC dI cid ad sa sz qo O) (by decide) rfl (tm5 (List.mem_of_getElem? (i := 20) rfl)) ⟨(xmT (tm5 (List.mem_of_getElem? (i := 18) rfl)) rfl), (xmT (tm5 (List.mem_of_getElem? (i := 19) rfl)) rfl), (xmT (tm1 (List.mem_of_getElem? (i := 0) rfl)) rfl)⟩ rfl rfl (by decide +kernel) dL_law_723 (Nat.le_of_ble_eq_true rfl) hnc hns (fun H1 locs1 hV1 => ?_)
  refine lv_istore hx hb dL_law_726 hl (by decide) rfl (fun ls1 hl1 => ?_)
  have hl1 : lv_has ls1 8 ((5, .int (hvI ok)) :: lw0 b ax am qo i) := hl1
  refine lv_aload_n hx hb dL_law_728 rfl (lv_at hl1 3 rfl) ?_
  refine lw_arg C hV1 hl1 (i := i) (List.mem_of_getElem? (i := 5) rfl) (List.mem_of_getElem? (i := 1) rfl) hi hL (j := 1) (by decide) dL_law_729 dL_law_730 dL_law_732 (by decide) dL_law_733 dL_law_734 ?_
  refine lw_cm C hV1 hl1.1 (k := 189) (n := 1) (index := 116) (av := [.int (xs (i + 1))]) (v := .int an) (S' := S) (T1 := fun t => t = hvI ok) (rest := []) (fun I J A B h _ => m_octet (by omega) h (fun I9 e h9 t9 => by
      rw [hok] at e; subst e; subst han; exact ⟨rfl, I9, _, _, _, h9, t9, rfl⟩) (fun I9 e h9 t9 => by
      rw [hok] at e; subst e; subst han; exact ⟨rfl, I9, _, _, _, h9, t9, rfl⟩)) (fun _ _ => rfl) (fun _ _ => rfl) ⟨rfl, rfl⟩ rfl ⟨(xmT (tm6 (List.mem_of_getElem? (i := 223) rfl)) rfl), (xmT (tm6 (List.mem_of_getElem? (i := 224) rfl)) rfl), (xmT (tm6 (List.mem_of_getElem? (i := 225) rfl)) rfl)⟩ rfl (by decide +kernel) dL_law_735 (Nat.le_of_ble_eq_true rfl) (by omega) (by omega) (fun H2 locs2 hV2 => ?_)
  refine lv_istore hx hb dL_law_738 hl1 (by decide) rfl (fun ls2 hl2 => ?_)
  have hl2 : lv_has ls2 8 ((6, .int an) :: (5, .int (hvI ok)) :: lw0 b ax am qo i) := hl2
  refine lv_aload_n hx hb dL_law_740 rfl (lv_at hl2 4 rfl) ?_
  refine lw_cm C hV2 hl2.1 (k := 124) (n := 0) (index := 69) (av := []) (v := .int (hvI ok)) (S' := S) (T1 := fun t => t = hvI ok) (rest := []) (fun I J A B h ht => e_X11_thrown (d := 599) (by
      have ht : I 0 = hvI ok := ht
      rw [ht]; exact ⟨rfl, I, J, A, B, h, ht, rfl⟩)) (fun _ _ => rfl) (fun _ _ => rfl) ⟨rfl, rfl⟩ rfl ⟨(xmT (tm5 (List.mem_of_getElem? (i := 195) rfl)) rfl), (xmT (tm5 (List.mem_of_getElem? (i := 196) rfl)) rfl), (xmT (tm5 (List.mem_of_getElem? (i := 197) rfl)) rfl)⟩ rfl (by decide +kernel) dL_law_741 (Nat.le_of_ble_eq_true rfl) (by omega) (by omega) (fun H3 locs3 hV3 => ?_)
  refine lv_iload hx hb dL_law_744 (lv_at hl2 1 rfl) ?_
  refine lv_icmp_eq (tgt := 751) hx hb dL_law_746 (by decide) (fun _ => ?_) (fun h => absurd rfl h)
  refine lv_iload hx hb dL_law_751 (lv_at hl2 1 rfl) ?_
  have hend : lv_has ls2 8 (lw0 b ax am qo i) := ⟨hl2.1, hl2.2.1, fun q hq => hl2.2.2 q (List.mem_cons_of_mem _ (List.mem_cons_of_mem _ hq))⟩
  refine lv_if_ne (tgt := 768) hx hb dL_law_753 (by decide) (fun _ => lv_goto (tgt := 796) hx hb dL_law_768 (by decide) (kk _ _ _ _ _ _ hV3 hend)) (fun h0 => ?_)
  have hT := hvI_0 h0
  refine lv_aload_n hx hb dL_law_756 rfl (lv_at hl2 3 rfl) ?_
  refine lv_iconst (v := 0) hx hb dL_law_757 (by decide) ?_
  refine lw_out C hV3 dL_law_758 (fun u hu => ?_)
  have hu : u = (nI (S.out.getD (xs (i + 1)).toNatClampNeg 0)).toInt64 := hu hT
  rw [if_pos hT] at han
  refine lv_iload hx hb dL_law_759 (lv_at hl2 0 rfl) ?_
  refine lv_i2l hx hb dL_law_761 rfl ?_
  refine W.lcmp hx hb dL_law_762 ?_
  refine lv_if_eq (tgt := 768) hx hb dL_law_763 (by decide) (fun _ => lv_goto (tgt := 796) hx hb dL_law_768 (by decide) (kk _ _ _ _ _ _ hV3 hend)) (fun h => absurd ((lg_cmp_eq _ _).mpr (by rw [hu, ← han])) h)
theorem tsw (x : Int32) : (∃ k : Nat, k < 20 ∧ x = nI k) ∨ (x.toInt < 0 ∨ 19 < x.toInt) := by
  by_cases h : x.toInt < 0 ∨ 19 < x.toInt
  · exact Or.inr h
  · refine Or.inl ⟨x.toInt.toNat, by omega, Int32.toInt_inj.mp ?_⟩
    rw [nI_toInt (by omega)]; omega
theorem lw_len {i : Nat} (hL : L ≤ 3072) (hi : i ≤ L) (h : ¬ Int32.ofNat L - 6 < nI i) : i + 6 ≤ L := by
  have h : ¬ nI L - nI 6 < nI i := h
  by_cases h6 : 6 ≤ L
  · rw [sub_n h6, lt_n (by omega) (by omega)] at h; omega
  · exfalso
    apply h
    have hz : ∀ a : Nat, a < 6 → nI a - nI 6 < 0 := by decide
    have h1 := hz L (by omega)
    have h2 := nI_pos' (n := i) (by omega)
    exact Int32.lt_of_lt_of_le h1 h2
set_option maxHeartbeats 4000000 in
set_option maxRecDepth 100000 in
theorem lw_loop (C : lwC l p s m meth c b L xs D cid sa) (hL : L ≤ 3072) : ∀ (n i : Nat), i ≤ L → L + 1 ≤ i + n → ∀ (S : St) (T0 : Int32 → Prop) (Z : Int64 → Prop) (ax am qo : Nat) (H : Heap) (locs : List Loc), lwV s D cid sa S S T0 Z ax am qo H locs → ∀ (ls : Array Slot), lv_has ls 8 (lw0 b ax am qo i) →
    W p l e room_1 s m #[Value.ref b] below meth c H locs (1000 + i) (130000 + i) (lw_Z below #[Value.ref b] s) (F0 m 23 ls []) := by
  intro n
  induction n with
  | zero =>
    intro i h1 h2
    exact absurd h2 (by omega)
  | succ n ih =>
    intro i hi hin S T0 Z ax am qo H locs hV ls hl
    have C0 := C
    obtain ⟨⟨hx, hb, hr, hml, hown, hts, hX, hbl, hlocks, hgv⟩, hst, hK, hSt, hN, hTF⟩ := C0
    have hS : va_S (fun q : Nat => s.heap.size ≤ q) s.heap H locs := by
      obtain ⟨ad1, ad2, tgt, cg, fg, I, J, A, B, I', J', A', B', O, -, -, -, -, -, -, -, -, hS⟩ := hV
      exact hS
    have hbA : ¬ (fun q : Nat => s.heap.size ≤ q) b := Nat.not_le.mpr hbl
    refine lv_iload hx hb dL_law_23 (lv_at hl 0 rfl) ?_
    refine lv_aload_n hx hb dL_law_25 rfl (lv_at hl 4 rfl) ?_
    refine va_slen hx hb hX hbl hbA hS dL_law_26 ?_
    refine lv_bipush (v := 6) hx hb dL_law_27 (by decide) ?_
    refine lv_isub hx hb dL_law_29 ?_
    refine lv_icmp_gt (tgt := 802) hx hb dL_law_30 (by decide) (fun _ => ?_) (fun hle => ?_)
    · refine lv_iconst (v := 1) hx hb dL_law_802 (by decide) ?_
      refine va_forget (fun q hq => hS.2.2 q hq) ?_
      refine W.widen (k := 601024) (n := 7293033) (by omega) (by omega) ?_
      exact lw_ret hx hb hr hlocks dL_law_803
    · have hi6 := lw_len hL hi hle
      refine lv_aload_n hx hb dL_law_33 rfl (lv_at hl 4 rfl) ?_
      refine lv_iload hx hb dL_law_34 (lv_at hl 0 rfl) ?_
      refine va_sld hx hb hX hbl hbA hS (i := nI i) ?_ dL_law_36 ?_
      · rintro (h | h)
        · exact nI_pos (by omega) h
        · rw [nI_clamp (by omega)] at h; omega
      refine lv_bipush (v := 31) hx hb dL_law_37 (by decide) ?_
      refine lv_iand hx hb dL_law_39 ?_
      have kk : ∀ (S' : St) (T1 : Int32 → Prop) (Z1 : Int64 → Prop) (H1 : Heap) (locs1 : List Loc) (ls1 : Array Slot), lwV s D cid sa S' S' T1 Z1 ax am qo H1 locs1 → lv_has ls1 8 (lw0 b ax am qo i) → W p l e room_1 s m #[Value.ref b] below meth c H1 locs1 (1000 + i + 1) (130000 + i + 6) (lw_Z below #[Value.ref b] s) (F0 m 796 ls1 []) := by
        intro S' T1 Z1 H1 locs1 ls1 hV1 hl1
        refine lv_iinc hx hb dL_law_796 hl1 (k := 0) rfl (v := nI (i + 6)) (by rw [← nI_add]; rfl) (by decide) rfl (fun ls2 hl2 => ?_)
        refine lv_goto (tgt := 23) hx hb dL_law_799 (by decide) ?_
        refine W.widen (k := 1000 + (i + 6)) (n := 130000 + (i + 6)) (by omega) (by omega) ?_
        exact ih (i + 6) (by omega) (by omega) S' T1 Z1 ax am qo H1 locs1 hV1 ls2 hl2
      have hnc : 1000 + i + 1 ≤ 601024 := by omega
      have hns : 130000 + i + 6 ≤ 7293033 := by omega
      rcases tsw (xs (nI i).toNatClampNeg &&& 31) with ⟨k, hk, ek⟩ | h
      · rw [ek]
        match k, hk with
        | 0, _ => exact lv_tableIn (tgt := 136) hx hb dL_law_40 (by decide) (by decide) rfl (by decide) (lc_0 C hV hl hi6 hL hnc hns kk)
        | 1, _ => exact lv_tableIn (tgt := 209) hx hb dL_law_40 (by decide) (by decide) rfl (by decide) (lc_1 C hV hl hi6 hL hnc hns kk)
        | 2, _ => exact lv_tableIn (tgt := 234) hx hb dL_law_40 (by decide) (by decide) rfl (by decide) (lc_2 C hV hl hi6 hL hnc hns kk)
        | 3, _ => exact lv_tableIn (tgt := 247) hx hb dL_law_40 (by decide) (by decide) rfl (by decide) (lc_3 C hV hl hi6 hL hnc hns kk)
        | 4, _ => exact lv_tableIn (tgt := 260) hx hb dL_law_40 (by decide) (by decide) rfl (by decide) (lc_4 C hV hl hi6 hL hnc hns kk)
        | 5, _ => exact lv_tableIn (tgt := 273) hx hb dL_law_40 (by decide) (by decide) rfl (by decide) (lc_5 C hV hl hi6 hL hnc hns kk)
        | 6, _ => exact lv_tableIn (tgt := 287) hx hb dL_law_40 (by decide) (by decide) rfl (by decide) (lc_6 C hV hl hi6 hL hnc hns kk)
        | 7, _ => exact lv_tableIn (tgt := 324) hx hb dL_law_40 (by decide) (by decide) rfl (by decide) (lc_7 C hV hl hi6 hL hnc hns kk)
        | 8, _ => exact lv_tableIn (tgt := 416) hx hb dL_law_40 (by decide) (by decide) rfl (by decide) (lc_8 C hV hl hi6 hL hnc hns kk)
        | 9, _ => exact lv_tableIn (tgt := 495) hx hb dL_law_40 (by decide) (by decide) rfl (by decide) (lc_9 C hV hl hi6 hL hnc hns kk)
        | 10, _ => exact lv_tableIn (tgt := 520) hx hb dL_law_40 (by decide) (by decide) rfl (by decide) (lc_10 C hV hl hi6 hL hnc hns kk)
        | 11, _ => exact lv_tableIn (tgt := 588) hx hb dL_law_40 (by decide) (by decide) rfl (by decide) (lc_11 C hV hl hi6 hL hnc hns kk)
        | 12, _ => exact lv_tableIn (tgt := 625) hx hb dL_law_40 (by decide) (by decide) rfl (by decide) (lc_12 C hV hl hi6 hL hnc hns kk)
        | 13, _ => exact lv_tableIn (tgt := 638) hx hb dL_law_40 (by decide) (by decide) rfl (by decide) (lc_13 C hV hl hi6 hL hnc hns kk)
        | 14, _ => exact lv_tableIn (tgt := 651) hx hb dL_law_40 (by decide) (by decide) rfl (by decide) (lc_14 C hV hl hi6 hL hnc hns kk)
        | 15, _ => exact lv_tableIn (tgt := 664) hx hb dL_law_40 (by decide) (by decide) rfl (by decide) (lc_15 C hV hl hi6 hL hnc hns kk)
        | 16, _ => exact lv_tableIn (tgt := 677) hx hb dL_law_40 (by decide) (by decide) rfl (by decide) (lc_16 C hV hl hi6 hL hnc hns kk)
        | 17, _ => exact lv_tableIn (tgt := 702) hx hb dL_law_40 (by decide) (by decide) rfl (by decide) (lc_17 C hV hl hi6 hL hnc hns kk)
        | 18, _ => exact lv_tableIn (tgt := 715) hx hb dL_law_40 (by decide) (by decide) rfl (by decide) (lc_18 C hV hl hi6 hL hnc hns kk)
        | 19, _ => exact lv_tableIn (tgt := 771) hx hb dL_law_40 (by decide) (by decide) rfl (by decide) (lc_19 C hV hl hi6 hL hnc hns kk)
        | k + 20, hk => exact absurd hk (by omega)
      · refine lv_tableOut (tgt := 796) hx hb dL_law_40 h (by decide) ?_
        refine W.widen (k := 1000 + i + 1) (n := 130000 + i + 6) (by omega) (by omega) ?_
        exact kk _ _ _ _ _ _ hV hl
end LH
