theorem q103 : (Cond.methodLink RX1 38 yX1_weigh) ∈ lwg := lwgR 103 (by decide +kernel) (by decide +kernel)
theorem q104 : (Cond.instanceMethod yX1_weigh) ∈ lwg := lwgR 104 (by decide +kernel) (by decide +kernel)
theorem q105 : (Cond.selects RX1 yX1_weigh yX1_weigh) ∈ lwg := lwgR 105 (by decide +kernel) (by decide +kernel)
theorem q106 : (Cond.code yX1_weigh cX1_weigh 8 none) ∈ lwg := lwgR 106 (by decide +kernel) (by decide +kernel)
theorem q127 : (Cond.static yX2_worldsOfFact) ∈ lwg := lwgR 127 (by decide +kernel) (by decide +kernel)
theorem q128 : (Cond.code yX2_worldsOfFact cX2_worldsOfFact 1 (some .long)) ∈ lwg := lwgR 128 (by decide +kernel) (by decide +kernel)
theorem q129 : (Cond.methodLink RX2 80 yX2_isFact) ∈ lwg := lwgR 129 (by decide +kernel) (by decide +kernel)
theorem q132 : (Cond.fieldLink RX2 315 "NightdeskRota" "WORLDS_OF_FACT" "[J") ∈ lwg := lwgR 132 (by decide +kernel) (by decide +kernel)
theorem q164 : (Cond.methodLink RX1 87 yX1_knownTogether) ∈ lwg := lwgR 164 (by decide +kernel) (by decide +kernel)
theorem q166 : (Cond.instanceMethod yX1_knownTogether) ∈ lwg := lwgR 166 (by decide +kernel) (by decide +kernel)
theorem q167 : (Cond.code yX1_knownTogether cX1_knownTogether 11 (some .long)) ∈ lwg := lwgR 167 (by decide +kernel) (by decide +kernel)
theorem q18 : (Cond.initialized "java/lang/Math") ∈ lwg := lwgR 18 (by decide +kernel) (by decide +kernel)
theorem q21 : (Cond.initialized "java/lang/System") ∈ lwg := lwgR 21 (by decide +kernel) (by decide +kernel)
theorem q428 : (Cond.instanceMethod yX0_builtDeep) ∈ lwg := lwgR 428 (by decide +kernel) (by decide +kernel)
theorem q429 : (Cond.selects RX0 yX0_builtDeep yX0_builtDeep) ∈ lwg := lwgR 429 (by decide +kernel) (by decide +kernel)
theorem q430 : (Cond.code yX0_builtDeep cX0_builtDeep 2 (some .int)) ∈ lwg := lwgR 430 (by decide +kernel) (by decide +kernel)
theorem q467 : (Cond.methodLink RX1 42 arraycopyName) ∈ lwg := lwgR 467 (by decide +kernel) (by decide +kernel)
theorem q468 : (Cond.static arraycopyName) ∈ lwg := lwgR 468 (by decide +kernel) (by decide +kernel)
theorem q469 : (Cond.native arraycopyName) ∈ lwg := lwgR 469 (by decide +kernel) (by decide +kernel)
theorem q536 : (Cond.instanceMethod yX0_isFull) ∈ lwg := lwgR 536 (by decide +kernel) (by decide +kernel)
theorem q537 : (Cond.selects RX0 yX0_isFull yX0_isFull) ∈ lwg := lwgR 537 (by decide +kernel) (by decide +kernel)
theorem q538 : (Cond.code yX0_isFull cX0_isFull 1 (some .boolean)) ∈ lwg := lwgR 538 (by decide +kernel) (by decide +kernel)
theorem q559 : (Cond.methodLink RX0 55 yX0_isFull) ∈ lwg := lwgR 559 (by decide +kernel) (by decide +kernel)
theorem q560 : (Cond.methodLink RX0 59 yX0_builtDeep) ∈ lwg := lwgR 560 (by decide +kernel) (by decide +kernel)
theorem q561 : (Cond.methodLink RX0 63 Lib.Math.max.name) ∈ lwg := lwgR 561 (by decide +kernel) (by decide +kernel)
theorem q562 : (Cond.static Lib.Math.max.name) ∈ lwg := lwgR 562 (by decide +kernel) (by decide +kernel)
theorem q563 : (Cond.code Lib.Math.max.name Lib.Math.max.code 2 (some .int)) ∈ lwg := lwgR 563 (by decide +kernel) (by decide +kernel)
theorem q564 : (Cond.methodLink RX0 69 yX0_names) ∈ lwg := lwgR 564 (by decide +kernel) (by decide +kernel)
theorem q565 : (Cond.static yX0_names) ∈ lwg := lwgR 565 (by decide +kernel) (by decide +kernel)
theorem q566 : (Cond.code yX0_names cX0_names 3 (some .boolean)) ∈ lwg := lwgR 566 (by decide +kernel) (by decide +kernel)
theorem q578 : (Cond.methodLink RX2 92 yX2_worldsOfFact) ∈ lwg := lwgR 578 (by decide +kernel) (by decide +kernel)
theorem q628 : (Cond.static yX2_turned) ∈ lwg := lwgR 628 (by decide +kernel) (by decide +kernel)
theorem q629 : (Cond.code yX2_turned cX2_turned 6 (some .long)) ∈ lwg := lwgR 629 (by decide +kernel) (by decide +kernel)
theorem q96 : (Cond.methodLink RX1 32 yX0_everySentence) ∈ lwg := lwgR 96 (by decide +kernel) (by decide +kernel)
theorem q97 : (Cond.instanceMethod yX0_everySentence) ∈ lwg := lwgR 97 (by decide +kernel) (by decide +kernel)
theorem q98 : (Cond.selects RX0 yX0_everySentence yX0_everySentence) ∈ lwg := lwgR 98 (by decide +kernel) (by decide +kernel)
theorem q99 : (Cond.code yX0_everySentence cX0_everySentence 1 (some .long)) ∈ lwg := lwgR 99 (by decide +kernel) (by decide +kernel)
theorem n126 : (Cond.methodLinkNest RX1 73 yX2_worldsOfFact "NightdeskRota") ∈ lwn := lwnR 126 (by decide +kernel) rfl
theorem n474 : (Cond.methodLinkNest RX1 48 yX2_isGuard "NightdeskRota") ∈ lwn := lwnR 474 (by decide +kernel) rfl
theorem n626 : (Cond.methodLinkNest RX1 56 yX2_isFact "NightdeskRota") ∈ lwn := lwnR 626 (by decide +kernel) rfl
theorem n627 : (Cond.methodLinkNest RX1 59 yX2_turned "NightdeskRota") ∈ lwn := lwnR 627 (by decide +kernel) rfl
theorem qs3 : (Cond.selects RX1 yX1_knownTogether yX1_knownTogether) ∈ lwg := lwgL 3 (by decide +kernel) (by decide +kernel)
theorem dX2_worldsOfFact_0 : decode cX2_worldsOfFact 0 = .ok (.iload_n 0, 1) := by decide +kernel
theorem dX2_worldsOfFact_1 : decode cX2_worldsOfFact 1 = .ok (.invokestatic 80, 3) := by decide +kernel
theorem dX2_worldsOfFact_4 : decode cX2_worldsOfFact 4 = .ok (.ifCond .eq 11, 3) := by decide +kernel
theorem dX2_worldsOfFact_7 : decode cX2_worldsOfFact 7 = .ok (.getstatic 315, 3) := by decide +kernel
theorem dX2_worldsOfFact_10 : decode cX2_worldsOfFact 10 = .ok (.iload_n 0, 1) := by decide +kernel
theorem dX2_worldsOfFact_11 : decode cX2_worldsOfFact 11 = .ok (.laload, 1) := by decide +kernel
theorem dX2_worldsOfFact_12 : decode cX2_worldsOfFact 12 = .ok (.goto 4, 3) := by decide +kernel
theorem dX2_worldsOfFact_15 : decode cX2_worldsOfFact 15 = .ok (.lconst 0, 1) := by decide +kernel
theorem dX2_worldsOfFact_16 : decode cX2_worldsOfFact 16 = .ok (.lreturn, 1) := by decide +kernel
def wX2_worldsOfFact (post : Int64 → Prop) (p1 : Int32) : Prop :=
  wX2_isFact (fun r_1 : Int32 =>
    ((r_1 = 0) →
      post (0 : Int64)
    ) ∧ (¬ (r_1 = 0) →
      vp_in p1 6 ∧
      post (wof p1.toNatClampNeg)
    )
    ) p1
abbrev wl_X2_worldsOfFact : List Cond := .code yX2_worldsOfFact cX2_worldsOfFact 1 (some .long) :: lwg
abbrev rm_X2_worldsOfFact : Room := { frames := 1, cells := 0, slots := 0, locals := 20 }
set_option maxHeartbeats 4000000 in
set_option maxRecDepth 100000 in
theorem kX2_worldsOfFact {post : Int64 → Prop} (l : Launch) (G : GT) (p1 : Int32) (h : wX2_worldsOfFact post p1) : Met l yX2_worldsOfFact wl_X2_worldsOfFact rm_X2_worldsOfFact (va_Pc [.int p1] (fun U => PP G [] U.heap ∧ KK G U ∧ ZZ (fun _ => False) U U.heap)) (vp_Sl post) 0 0 (fun _ => False) := by
  refine Met.ofW (cc := cX2_worldsOfFact) (maxL := 1) (ret := (some .long)) (by decide) rfl ?_
  intro p e s m args below meth c s₁ B hml hv
  obtain ⟨rfl, hP, hKK, hZ⟩ := hv
  obtain ⟨hK, hN, hR, hFW, hNC⟩ := id hKK
  have hx := B.exec
  have hb := B.bytes
  have hr := B.returns
  have hts0 := atoms_spec (ws := wl_X2_worldsOfFact) B.pre
  have hts : ∀ w ∈ lwg, w.before ([.int p1] : List Value).toArray s = true := fun w hw => hts0 w (List.mem_cons_of_mem _ hw)
  have hown : s.vm.findClass RX2 = some m.cls := findClass_of_methodNamed B.named
  have hlocks := B.notSynchronized
  have hS : va_S (fun _ => False) s.heap s.heap [] := va_S.rf
  obtain ⟨⟨zt, hZ1, hT1⟩, hZ2⟩ := id hZ
  have hP : PP G [] s.heap := hP
  have hl := lv_entry ([.int p1]) (n := 1) (Nat.le_of_ble_eq_true rfl)
  rw [lg_entry_eq]
  generalize (lg_sl ([.int p1]) ++ List.replicate (1 - (lg_sl ([.int p1])).length) Slot.unset).toArray = ls at hl ⊢
  have hl : lv_has ls 1 [(0, .int p1)] := hl
  refine lv_iload_n hx hb dX2_worldsOfFact_0 rfl (lv_at hl 0 rfl) ?_
  have hPc := hP
  refine rdI (va_runS (As := [.int p1]) (rest := []) ⟨hx, hb, hml, hown, hts⟩ (kX2_isFact l G p1 h) (va_cwS 1 hts (gdS q129 q130 q1 q131) rfl rfl rfl (by decide +kernel) ⟨Nat.le_of_ble_eq_true rfl, Nat.le_of_ble_eq_true rfl⟩) (preS hPc hKK) rfl rfl hl.1 rfl (lv_room (Nat.le_of_ble_eq_true rfl)) dX2_worldsOfFact_1 ⟨Nat.zero_le _, Nat.zero_le _⟩) (fun r_1 h => ?_)
  refine lv_if_eq (tgt := 15) hx hb dX2_worldsOfFact_4 (by decide) (fun hc => ?_) (fun hc => ?_)
  · have h := h.1 hc
    refine lv_lconst (v := 0) hx hb dX2_worldsOfFact_15 (by decide) ?_
    exact W.lret (v := (0 : Int64)) hx hb hr (fun t ht _ => ⟨_, rfl, h, ht⟩) (fun _ hq => absurd hq List.not_mem_nil) dX2_worldsOfFact_16
  · have h := h.2 hc
    refine va_gets hx hb hZ1 hS hown (hts _ q132) (fun _ h9 => h9) dX2_worldsOfFact_7 ?_
    refine lv_iload_n hx hb dX2_worldsOfFact_10 rfl (lv_at hl 0 rfl) ?_
    obtain ⟨hin, h⟩ := h
    refine va_tl hx hb hT1 hS hin (v := .long (wof p1.toNatClampNeg)) rfl dX2_worldsOfFact_11 ?_
    refine lv_goto (tgt := 16) hx hb dX2_worldsOfFact_12 (by decide) ?_
    exact W.lret (v := (wof p1.toNatClampNeg)) hx hb hr (fun t ht _ => ⟨_, rfl, h, ht⟩) (fun _ hq => absurd hq List.not_mem_nil) dX2_worldsOfFact_16
theorem dX2_turned_0 : decode cX2_turned 0 = .ok (.iload_n 2, 1) := by decide +kernel
theorem dX2_turned_1 : decode cX2_turned 1 = .ok (.invokestatic 92, 3) := by decide +kernel
theorem dX2_turned_4 : decode cX2_turned 4 = .ok (.lstore_n 3, 1) := by decide +kernel
theorem dX2_turned_5 : decode cX2_turned 5 = .ok (.iconst 1, 1) := by decide +kernel
theorem dX2_turned_6 : decode cX2_turned 6 = .ok (.iload_n 2, 1) := by decide +kernel
theorem dX2_turned_7 : decode cX2_turned 7 = .ok (.ishl, 1) := by decide +kernel
theorem dX2_turned_8 : decode cX2_turned 8 = .ok (.istore 5, 2) := by decide +kernel
theorem dX2_turned_10 : decode cX2_turned 10 = .ok (.lload_n 0, 1) := by decide +kernel
theorem dX2_turned_11 : decode cX2_turned 11 = .ok (.lload_n 3, 1) := by decide +kernel
theorem dX2_turned_12 : decode cX2_turned 12 = .ok (.land, 1) := by decide +kernel
theorem dX2_turned_13 : decode cX2_turned 13 = .ok (.iload 5, 2) := by decide +kernel
theorem dX2_turned_15 : decode cX2_turned 15 = .ok (.lushr, 1) := by decide +kernel
theorem dX2_turned_16 : decode cX2_turned 16 = .ok (.lload_n 0, 1) := by decide +kernel
theorem dX2_turned_17 : decode cX2_turned 17 = .ok (.lload_n 3, 1) := by decide +kernel
theorem dX2_turned_18 : decode cX2_turned 18 = .ok (.ldc2_w 319, 3) := by decide +kernel
theorem dX2_turned_21 : decode cX2_turned 21 = .ok (.lxor, 1) := by decide +kernel
theorem dX2_turned_22 : decode cX2_turned 22 = .ok (.land, 1) := by decide +kernel
theorem dX2_turned_23 : decode cX2_turned 23 = .ok (.iload 5, 2) := by decide +kernel
theorem dX2_turned_25 : decode cX2_turned 25 = .ok (.lshl, 1) := by decide +kernel
theorem dX2_turned_26 : decode cX2_turned 26 = .ok (.lor, 1) := by decide +kernel
theorem dX2_turned_27 : decode cX2_turned 27 = .ok (.lreturn, 1) := by decide +kernel
def wX2_turned (post : Int64 → Prop) (p1 : Int64) (p2 : Int32) : Prop :=
  wX2_worldsOfFact (fun r_1 : Int64 =>
    post ((jLushr (p1 &&& r_1) ((1 : Int32) <<< (p2 &&& 31))) ||| (jLshl (p1 &&& (r_1 ^^^ (-1 : Int64))) ((1 : Int32) <<< (p2 &&& 31))))
    ) p2
abbrev wl_X2_turned : List Cond := .code yX2_turned cX2_turned 6 (some .long) :: lwg
abbrev rm_X2_turned : Room := { frames := 2, cells := 0, slots := 0, locals := 40 }
set_option maxHeartbeats 4000000 in
set_option maxRecDepth 100000 in
theorem kX2_turned {post : Int64 → Prop} (l : Launch) (G : GT) (p1 : Int64) (p2 : Int32) (h : wX2_turned post p1 p2) : Met l yX2_turned wl_X2_turned rm_X2_turned (va_Pc [.long p1, .int p2] (fun U => PP G [] U.heap ∧ KK G U ∧ ZZ (fun _ => False) U U.heap)) (vp_Sl post) 0 0 (fun _ => False) := by
  refine Met.ofW (cc := cX2_turned) (maxL := 6) (ret := (some .long)) (by decide) rfl ?_
  intro p e s m args below meth c s₁ B hml hv
  obtain ⟨rfl, hP, hKK, hZ⟩ := hv
  obtain ⟨hK, hN, hR, hFW, hNC⟩ := id hKK
  have hx := B.exec
  have hb := B.bytes
  have hr := B.returns
  have hts0 := atoms_spec (ws := wl_X2_turned) B.pre
  have hts : ∀ w ∈ lwg, w.before ([.long p1, .int p2] : List Value).toArray s = true := fun w hw => hts0 w (List.mem_cons_of_mem _ hw)
  have hown : s.vm.findClass RX2 = some m.cls := findClass_of_methodNamed B.named
  have hlocks := B.notSynchronized
  have hS : va_S (fun _ => False) s.heap s.heap [] := va_S.rf
  obtain ⟨⟨zt, hZ1, hT1⟩, hZ2⟩ := id hZ
  have hP : PP G [] s.heap := hP
  have hl := lv_entry ([.long p1, .int p2]) (n := 6) (Nat.le_of_ble_eq_true rfl)
  rw [lg_entry_eq]
  generalize (lg_sl ([.long p1, .int p2]) ++ List.replicate (6 - (lg_sl ([.long p1, .int p2])).length) Slot.unset).toArray = ls at hl ⊢
  have hl : lv_has ls 6 [(0, .long p1), (2, .int p2)] := hl
  refine lv_iload_n hx hb dX2_turned_0 rfl (lv_at hl 1 rfl) ?_
  have hPc := hP
  have hZc : ZZ (fun _ => False) s _ := (hZ.kept hS.2.1).narrow (fun _ h => False.elim h)
  refine rdL (va_runS (As := [.int p2]) (rest := []) ⟨hx, hb, hml, hown, hts⟩ (kX2_worldsOfFact l G p2 h) (va_cwS 1 hts (gdS q578 q127 q1 q128) rfl rfl rfl (by decide +kernel) ⟨Nat.le_of_ble_eq_true rfl, Nat.le_of_ble_eq_true rfl⟩) (preSz hPc hKK hZc) rfl rfl hl.1 rfl (lv_room (Nat.le_of_ble_eq_true rfl)) dX2_turned_1 ⟨Nat.zero_le _, Nat.zero_le _⟩) (fun r_1 h => ?_)
  refine lv_lstore_n hx hb dX2_turned_4 rfl hl (Nat.le_of_ble_eq_true rfl) rfl (fun ls hl => ?_)
  have hl : lv_has ls 6 [(3, .long r_1), (0, .long p1), (2, .int p2)] := hl
  refine lv_iconst (v := 1) hx hb dX2_turned_5 (by decide) ?_
  refine lv_iload_n hx hb dX2_turned_6 rfl (lv_at hl 2 rfl) ?_
  refine lv_ishl hx hb dX2_turned_7 ?_
  refine lv_istore hx hb dX2_turned_8 hl (Nat.le_of_ble_eq_true rfl) rfl (fun ls hl => ?_)
  have hl : lv_has ls 6 [(5, .int ((1 : Int32) <<< (p2 &&& 31))), (3, .long r_1), (0, .long p1), (2, .int p2)] := hl
  refine lv_lload_n hx hb dX2_turned_10 rfl (lv_at hl 2 rfl) ?_
  refine lv_lload_n hx hb dX2_turned_11 rfl (lv_at hl 1 rfl) ?_
  refine lv_land hx hb dX2_turned_12 ?_
  refine lv_iload hx hb dX2_turned_13 (lv_at hl 0 rfl) ?_
  refine lv_lushr (v := (jLushr (p1 &&& r_1) ((1 : Int32) <<< (p2 &&& 31)))) hx hb dX2_turned_15 rfl ?_
  refine lv_lload_n hx hb dX2_turned_16 rfl (lv_at hl 2 rfl) ?_
  refine lv_lload_n hx hb dX2_turned_17 rfl (lv_at hl 1 rfl) ?_
  refine lv_ldc2 hx hb hown (hts _ q175) dX2_turned_18 ?_
  refine lv_lxor hx hb dX2_turned_21 ?_
  refine lv_land hx hb dX2_turned_22 ?_
  refine lv_iload hx hb dX2_turned_23 (lv_at hl 0 rfl) ?_
  refine lv_lshl (v := (jLshl (p1 &&& (r_1 ^^^ (-1 : Int64))) ((1 : Int32) <<< (p2 &&& 31)))) hx hb dX2_turned_25 rfl ?_
  refine lv_lor hx hb dX2_turned_26 ?_
  exact W.lret (v := ((jLushr (p1 &&& r_1) ((1 : Int32) <<< (p2 &&& 31))) ||| (jLshl (p1 &&& (r_1 ^^^ (-1 : Int64))) ((1 : Int32) <<< (p2 &&& 31))))) hx hb hr (fun t ht _ => ⟨_, rfl, h, ht⟩) (fun _ hq => absurd hq List.not_mem_nil) dX2_turned_27
theorem dX1_factsSettledFor_0 : decode cX1_factsSettledFor 0 = .ok (.aload_n 0, 1) := by decide +kernel
theorem dX1_factsSettledFor_1 : decode cX1_factsSettledFor 1 = .ok (.iload_n 1, 1) := by decide +kernel
theorem dX1_factsSettledFor_2 : decode cX1_factsSettledFor 2 = .ok (.aload_n 0, 1) := by decide +kernel
theorem dX1_factsSettledFor_3 : decode cX1_factsSettledFor 3 = .ok (.getfield 22, 3) := by decide +kernel
theorem dX1_factsSettledFor_6 : decode cX1_factsSettledFor 6 = .ok (.invokevirtual 93, 3) := by decide +kernel
theorem dX1_factsSettledFor_9 : decode cX1_factsSettledFor 9 = .ok (.lstore_n 2, 1) := by decide +kernel
theorem dX1_factsSettledFor_10 : decode cX1_factsSettledFor 10 = .ok (.iconst 0, 1) := by decide +kernel
theorem dX1_factsSettledFor_11 : decode cX1_factsSettledFor 11 = .ok (.istore 4, 2) := by decide +kernel
theorem dX1_factsSettledFor_13 : decode cX1_factsSettledFor 13 = .ok (.iconst 0, 1) := by decide +kernel
theorem dX1_factsSettledFor_14 : decode cX1_factsSettledFor 14 = .ok (.istore 5, 2) := by decide +kernel
theorem dX1_factsSettledFor_16 : decode cX1_factsSettledFor 16 = .ok (.iload 5, 2) := by decide +kernel
theorem dX1_factsSettledFor_18 : decode cX1_factsSettledFor 18 = .ok (.bipush 6, 2) := by decide +kernel
theorem dX1_factsSettledFor_20 : decode cX1_factsSettledFor 20 = .ok (.if_icmp .ge 47, 3) := by decide +kernel
theorem dX1_factsSettledFor_23 : decode cX1_factsSettledFor 23 = .ok (.iload 5, 2) := by decide +kernel
theorem dX1_factsSettledFor_25 : decode cX1_factsSettledFor 25 = .ok (.invokestatic 73, 3) := by decide +kernel
theorem dX1_factsSettledFor_28 : decode cX1_factsSettledFor 28 = .ok (.lstore 6, 2) := by decide +kernel
theorem dX1_factsSettledFor_30 : decode cX1_factsSettledFor 30 = .ok (.lload_n 2, 1) := by decide +kernel
theorem dX1_factsSettledFor_31 : decode cX1_factsSettledFor 31 = .ok (.lload 6, 2) := by decide +kernel
theorem dX1_factsSettledFor_33 : decode cX1_factsSettledFor 33 = .ok (.invokestatic 110, 3) := by decide +kernel
theorem dX1_factsSettledFor_36 : decode cX1_factsSettledFor 36 = .ok (.ifCond .ne 16, 3) := by decide +kernel
theorem dX1_factsSettledFor_39 : decode cX1_factsSettledFor 39 = .ok (.lload_n 2, 1) := by decide +kernel
theorem dX1_factsSettledFor_40 : decode cX1_factsSettledFor 40 = .ok (.lload 6, 2) := by decide +kernel
theorem dX1_factsSettledFor_42 : decode cX1_factsSettledFor 42 = .ok (.ldc2_w 26, 3) := by decide +kernel
theorem dX1_factsSettledFor_45 : decode cX1_factsSettledFor 45 = .ok (.lxor, 1) := by decide +kernel
theorem dX1_factsSettledFor_46 : decode cX1_factsSettledFor 46 = .ok (.invokestatic 110, 3) := by decide +kernel
theorem dX1_factsSettledFor_49 : decode cX1_factsSettledFor 49 = .ok (.ifCond .eq 12, 3) := by decide +kernel
theorem dX1_factsSettledFor_52 : decode cX1_factsSettledFor 52 = .ok (.iload 4, 2) := by decide +kernel
theorem dX1_factsSettledFor_54 : decode cX1_factsSettledFor 54 = .ok (.iconst 1, 1) := by decide +kernel
theorem dX1_factsSettledFor_55 : decode cX1_factsSettledFor 55 = .ok (.iload 5, 2) := by decide +kernel
theorem dX1_factsSettledFor_57 : decode cX1_factsSettledFor 57 = .ok (.ishl, 1) := by decide +kernel
theorem dX1_factsSettledFor_58 : decode cX1_factsSettledFor 58 = .ok (.ior, 1) := by decide +kernel
theorem dX1_factsSettledFor_59 : decode cX1_factsSettledFor 59 = .ok (.istore 4, 2) := by decide +kernel
theorem dX1_factsSettledFor_61 : decode cX1_factsSettledFor 61 = .ok (.iinc 5 1, 3) := by decide +kernel
theorem dX1_factsSettledFor_64 : decode cX1_factsSettledFor 64 = .ok (.goto (-48), 3) := by decide +kernel
theorem dX1_factsSettledFor_67 : decode cX1_factsSettledFor 67 = .ok (.iload 4, 2) := by decide +kernel
theorem dX1_factsSettledFor_69 : decode cX1_factsSettledFor 69 = .ok (.ireturn, 1) := by decide +kernel
def wX1_factsSettledFor_L16 (post : Int32 → Prop) (K67 : Int32 → Int32 → Prop) (r_1 : Int64) : Nat → Int32 → Int32 → Prop
  | 0, _, _ => False
  | n+1, i4, i5 =>
    (((6 : Int32) ≤ i5) →
      K67 i4 i5
    ) ∧ (¬ ((6 : Int32) ≤ i5) →
      wX2_worldsOfFact (fun r_2 : Int64 =>
        wX2_isWithin (fun r_3 : Int32 =>
          ((¬ r_3 = 0) →
            wX1_factsSettledFor_L16 post K67 r_1 n (i4 ||| ((1 : Int32) <<< (i5 &&& 31))) (i5 + 1)
          ) ∧ ((r_3 = 0) →
            wX2_isWithin (fun r_4 : Int32 =>
              ((r_4 = 0) →
                wX1_factsSettledFor_L16 post K67 r_1 n i4 (i5 + 1)
              ) ∧ (¬ (r_4 = 0) →
                wX1_factsSettledFor_L16 post K67 r_1 n (i4 ||| ((1 : Int32) <<< (i5 &&& 31))) (i5 + 1)
              )
              ) r_1 (r_2 ^^^ (-1 : Int64))
          )
          ) r_1 r_2
        ) i5
    )
def wX1_factsSettledFor (post : Int32 → Prop) (dk : Nat → Int64) (op : Int64) (re : Int32) (p1 : Int32) : Prop :=
  wX1_cell (fun r_1 : Int64 =>
    ∃ nF, wX1_factsSettledFor_L16 post
      (fun i4 i5 =>
        post i4
      )
      r_1 nF (0 : Int32) (0 : Int32)
    ) dk op p1 re
abbrev wl_X1_factsSettledFor : List Cond := .code yX1_factsSettledFor cX1_factsSettledFor 8 (some .int) :: lwg
abbrev rm_X1_factsSettledFor : Room := { frames := 2, cells := 0, slots := 0, locals := 40 }
set_option maxHeartbeats 4000000 in
set_option maxRecDepth 100000 in
theorem kX1_factsSettledFor {post : Int32 → Prop} (l : Launch) (G : GT) (s0 : Nat) (s1 : Nat) (s2 : Nat) (b0 : Nat) (b1 : Nat) (b2 : Nat) (b3 : Nat) (b4 : Nat) (b5 : Nat) (b6 : Nat) (dk : Nat → Int64) (wg : Nat → Int64) (op : Int64) (re : Int32) (kf : Nat → Int32) (ff : Nat → Int32) (sf : Nat → Int32) (df : Nat → Int32) (pf : Nat → Int64) (gf : Nat → Int64) (bn : Int32) (p1 : Int32) (h : wX1_factsSettledFor post dk op re p1) : Met l yX1_factsSettledFor wl_X1_factsSettledFor rm_X1_factsSettledFor (va_Pc [.ref s0, .int p1] (fun U => PP G [(s0, .inr (4, [.ref b0, .ref s1, .ref s2, .long op, .int re])), (s1, .inl (G.2 1, 384, .inr (.inl dk))), (s2, .inl (G.2 1, 40, .inr (.inl wg))), (b0, .inr (3, [.ref b1, .ref b2, .ref b3, .ref b4, .ref b5, .ref b6, .int bn])), (b1, .inl (G.2 0, 40, .inl kf)), (b2, .inl (G.2 0, 40, .inl ff)), (b3, .inl (G.2 0, 40, .inl sf)), (b4, .inl (G.2 0, 40, .inl df)), (b5, .inl (G.2 1, 40, .inr (.inl pf))), (b6, .inl (G.2 1, 6, .inr (.inl gf)))] U.heap ∧ KK G U ∧ ZZ (fun _ => False) U U.heap)) (vp_Si post) 0 0 (fun _ => False) := by
  refine Met.ofW (cc := cX1_factsSettledFor) (maxL := 8) (ret := (some .int)) (by decide) rfl ?_
  intro p e s m args below meth c s₁ B hml hv
  obtain ⟨rfl, hP, hKK, hZ⟩ := hv
  obtain ⟨hK, hN, hR, hFW, hNC⟩ := id hKK
  have hx := B.exec
  have hb := B.bytes
  have hr := B.returns
  have hts0 := atoms_spec (ws := wl_X1_factsSettledFor) B.pre
  have hts : ∀ w ∈ lwg, w.before ([.ref s0, .int p1] : List Value).toArray s = true := fun w hw => hts0 w (List.mem_cons_of_mem _ hw)
  have hown : s.vm.findClass RX1 = some m.cls := findClass_of_methodNamed B.named
  have hlocks := B.notSynchronized
  have hS : va_S (fun _ => False) s.heap s.heap [] := va_S.rf
  obtain ⟨⟨zt, hZ1, hT1⟩, hZ2⟩ := id hZ
  have hP : PP G [(s0, .inr (4, [.ref b0, .ref s1, .ref s2, .long op, .int re])), (s1, .inl (G.2 1, 384, .inr (.inl dk))), (s2, .inl (G.2 1, 40, .inr (.inl wg))), (b0, .inr (3, [.ref b1, .ref b2, .ref b3, .ref b4, .ref b5, .ref b6, .int bn])), (b1, .inl (G.2 0, 40, .inl kf)), (b2, .inl (G.2 0, 40, .inl ff)), (b3, .inl (G.2 0, 40, .inl sf)), (b4, .inl (G.2 0, 40, .inl df)), (b5, .inl (G.2 1, 40, .inr (.inl pf))), (b6, .inl (G.2 1, 6, .inr (.inl gf)))] s.heap := hP
  have hl := lv_entry ([.ref s0, .int p1]) (n := 8) (Nat.le_of_ble_eq_true rfl)
  rw [lg_entry_eq]
  generalize (lg_sl ([.ref s0, .int p1]) ++ List.replicate (8 - (lg_sl ([.ref s0, .int p1])).length) Slot.unset).toArray = ls at hl ⊢
  have hl : lv_has ls 8 [(0, .ref s0), (1, .int p1)] := hl
  have loop16 : ∀ (K67 : Int32 → Int32 → Prop) (r_1 : Int64), True → (∀ (i4 : Int32) (i5 : Int32) (ls : Array Slot), lv_has ls 8 [(0, .ref s0), (1, .int p1), (2, .long r_1), (4, .int i4), (5, .int i5)] → K67 i4 i5 → W p l e (headSpec (wl_X1_factsSettledFor) rm_X1_factsSettledFor).room s m ([.ref s0, .int p1] : List Value).toArray below meth c s.heap [] 0 0 (MQ below (vp_Si post) ([.ref s0, .int p1] : List Value).toArray s 0 0 (fun _ => False)) (F0 m 67 ls [])) → ∀ (n : Nat) (i4 : Int32) (i5 : Int32) (ls : Array Slot), lv_has ls 8 [(0, .ref s0), (1, .int p1), (2, .long r_1), (4, .int i4), (5, .int i5)] → wX1_factsSettledFor_L16 post K67 r_1 n i4 i5 → W p l e (headSpec (wl_X1_factsSettledFor) rm_X1_factsSettledFor).room s m ([.ref s0, .int p1] : List Value).toArray below meth c s.heap [] 0 0 (MQ below (vp_Si post) ([.ref s0, .int p1] : List Value).toArray s 0 0 (fun _ => False)) (F0 m 16 ls []) := by
    intro K67 r_1 _ hexit67 n
    induction n with
    | zero => intro i4 i5 ls hl h; exact False.elim h
    | succ n ih =>
      intro i4 i5 ls hl h
      refine lv_iload hx hb dX1_factsSettledFor_16 (lv_at hl 4 rfl) ?_
      refine lv_bipush (v := 6) hx hb dX1_factsSettledFor_18 (by decide) ?_
      refine lv_icmp_ge (tgt := 67) hx hb dX1_factsSettledFor_20 (by decide) (fun hc => ?_) (fun hc => ?_)
      · have h := h.1 hc
        have hl := lv_sub (l' := [(0, .ref s0), (1, .int p1), (2, .long r_1), (4, .int i4), (5, .int i5)]) hl [0, 1, 2, 3, 4] rfl
        exact hexit67 _ _ ls hl h
      · have h := h.2 hc
        refine lv_iload hx hb dX1_factsSettledFor_23 (lv_at hl 4 rfl) ?_
        have hPc := va_P.sub (ws' := []) hP [] rfl
        have hZc : ZZ (fun _ => False) s _ := (hZ.kept hS.2.1).narrow (fun _ h => False.elim h)
        refine rdL (va_runSN (As := [.int i5]) (rest := []) ⟨hx, hb, hml, hown, hts⟩ (kX2_worldsOfFact l G i5 h) ⟨va_cnB 1 hts (gdC q128) rfl rfl rfl (hN _ n126) (hts _ q1) (by decide +kernel) ⟨Nat.le_of_ble_eq_true rfl, Nat.le_of_ble_eq_true rfl⟩, hts _ q127, trivial⟩ (preSz hPc hKK hZc) rfl rfl hl.1 rfl (lv_room (Nat.le_of_ble_eq_true rfl)) dX1_factsSettledFor_25 ⟨Nat.zero_le _, Nat.zero_le _⟩) (fun r_2 h => ?_)
        refine lv_lstore hx hb dX1_factsSettledFor_28 hl (Nat.le_of_ble_eq_true rfl) rfl (fun ls hl => ?_)
        have hl : lv_has ls 8 [(6, .long r_2), (0, .ref s0), (1, .int p1), (2, .long r_1), (4, .int i4), (5, .int i5)] := hl
        refine lv_lload_n hx hb dX1_factsSettledFor_30 rfl (lv_at hl 3 rfl) ?_
        refine lv_lload hx hb dX1_factsSettledFor_31 (lv_at hl 0 rfl) ?_
        have hPc := va_P.sub (ws' := []) hP [] rfl
        refine rdI (va_runSN (As := [.long r_1, .long r_2]) (rest := []) ⟨hx, hb, hml, hown, hts⟩ (kX2_isWithin l G r_1 r_2 h) ⟨va_cnB 2 hts (gdC q174) rfl rfl rfl (hN _ n172) (hts _ q1) (by decide +kernel) ⟨Nat.le_of_ble_eq_true rfl, Nat.le_of_ble_eq_true rfl⟩, hts _ q173, trivial⟩ (preS hPc hKK) rfl rfl hl.1 rfl (lv_room (Nat.le_of_ble_eq_true rfl)) dX1_factsSettledFor_33 ⟨Nat.zero_le _, Nat.zero_le _⟩) (fun r_3 h => ?_)
        refine lv_if_ne (tgt := 52) hx hb dX1_factsSettledFor_36 (by decide) (fun hc => ?_) (fun hc => ?_)
        · have h := h.1 hc
          refine lv_iload hx hb dX1_factsSettledFor_52 (lv_at hl 4 rfl) ?_
          refine lv_iconst (v := 1) hx hb dX1_factsSettledFor_54 (by decide) ?_
          refine lv_iload hx hb dX1_factsSettledFor_55 (lv_at hl 5 rfl) ?_
          refine lv_ishl hx hb dX1_factsSettledFor_57 ?_
          refine lv_ior hx hb dX1_factsSettledFor_58 ?_
          refine lv_istore hx hb dX1_factsSettledFor_59 hl (Nat.le_of_ble_eq_true rfl) rfl (fun ls hl => ?_)
          have hl : lv_has ls 8 [(4, .int (i4 ||| ((1 : Int32) <<< (i5 &&& 31)))), (6, .long r_2), (0, .ref s0), (1, .int p1), (2, .long r_1), (5, .int i5)] := hl
          refine lv_iinc (v := (i5 + 1)) hx hb dX1_factsSettledFor_61 hl (k := 5) rfl (by rw [show Int32.ofInt 1 = 1 from by decide]) (Nat.le_of_ble_eq_true rfl) rfl (fun ls hl => ?_)
          have hl : lv_has ls 8 [(5, .int (i5 + 1)), (4, .int (i4 ||| ((1 : Int32) <<< (i5 &&& 31)))), (6, .long r_2), (0, .ref s0), (1, .int p1), (2, .long r_1)] := hl
          refine lv_goto (tgt := 16) hx hb dX1_factsSettledFor_64 (by decide) ?_
          have hl := lv_sub (l' := [(0, .ref s0), (1, .int p1), (2, .long r_1), (4, .int (i4 ||| ((1 : Int32) <<< (i5 &&& 31)))), (5, .int (i5 + 1))]) hl [3, 4, 5, 1, 0] rfl
          exact ih _ _ ls hl h
        · have h := h.2 hc
          refine lv_lload_n hx hb dX1_factsSettledFor_39 rfl (lv_at hl 3 rfl) ?_
          refine lv_lload hx hb dX1_factsSettledFor_40 (lv_at hl 0 rfl) ?_
          refine lv_ldc2 hx hb hown (hts _ q95) dX1_factsSettledFor_42 ?_
          refine lv_lxor hx hb dX1_factsSettledFor_45 ?_
          have hPc := va_P.sub (ws' := []) hP [] rfl
          refine rdI (va_runSN (As := [.long r_1, .long (r_2 ^^^ (-1 : Int64))]) (rest := []) ⟨hx, hb, hml, hown, hts⟩ (kX2_isWithin l G r_1 (r_2 ^^^ (-1 : Int64)) h) ⟨va_cnB 2 hts (gdC q174) rfl rfl rfl (hN _ n172) (hts _ q1) (by decide +kernel) ⟨Nat.le_of_ble_eq_true rfl, Nat.le_of_ble_eq_true rfl⟩, hts _ q173, trivial⟩ (preS hPc hKK) rfl rfl hl.1 rfl (lv_room (Nat.le_of_ble_eq_true rfl)) dX1_factsSettledFor_46 ⟨Nat.zero_le _, Nat.zero_le _⟩) (fun r_4 h => ?_)
          refine lv_if_eq (tgt := 61) hx hb dX1_factsSettledFor_49 (by decide) (fun hc => ?_) (fun hc => ?_)
          · have h := h.1 hc
            refine lv_iinc (v := (i5 + 1)) hx hb dX1_factsSettledFor_61 hl (k := 5) rfl (by rw [show Int32.ofInt 1 = 1 from by decide]) (Nat.le_of_ble_eq_true rfl) rfl (fun ls hl => ?_)
            have hl : lv_has ls 8 [(5, .int (i5 + 1)), (6, .long r_2), (0, .ref s0), (1, .int p1), (2, .long r_1), (4, .int i4)] := hl
            refine lv_goto (tgt := 16) hx hb dX1_factsSettledFor_64 (by decide) ?_
            have hl := lv_sub (l' := [(0, .ref s0), (1, .int p1), (2, .long r_1), (4, .int i4), (5, .int (i5 + 1))]) hl [2, 3, 4, 5, 0] rfl
            exact ih _ _ ls hl h
          · have h := h.2 hc
            refine lv_iload hx hb dX1_factsSettledFor_52 (lv_at hl 4 rfl) ?_
            refine lv_iconst (v := 1) hx hb dX1_factsSettledFor_54 (by decide) ?_
            refine lv_iload hx hb dX1_factsSettledFor_55 (lv_at hl 5 rfl) ?_
            refine lv_ishl hx hb dX1_factsSettledFor_57 ?_
            refine lv_ior hx hb dX1_factsSettledFor_58 ?_
            refine lv_istore hx hb dX1_factsSettledFor_59 hl (Nat.le_of_ble_eq_true rfl) rfl (fun ls hl => ?_)
            have hl : lv_has ls 8 [(4, .int (i4 ||| ((1 : Int32) <<< (i5 &&& 31)))), (6, .long r_2), (0, .ref s0), (1, .int p1), (2, .long r_1), (5, .int i5)] := hl
            refine lv_iinc (v := (i5 + 1)) hx hb dX1_factsSettledFor_61 hl (k := 5) rfl (by rw [show Int32.ofInt 1 = 1 from by decide]) (Nat.le_of_ble_eq_true rfl) rfl (fun ls hl => ?_)
            have hl : lv_has ls 8 [(5, .int (i5 + 1)), (4, .int (i4 ||| ((1 : Int32) <<< (i5 &&& 31)))), (6, .long r_2), (0, .ref s0), (1, .int p1), (2, .long r_1)] := hl
            refine lv_goto (tgt := 16) hx hb dX1_factsSettledFor_64 (by decide) ?_
            have hl := lv_sub (l' := [(0, .ref s0), (1, .int p1), (2, .long r_1), (4, .int (i4 ||| ((1 : Int32) <<< (i5 &&& 31)))), (5, .int (i5 + 1))]) hl [3, 4, 5, 1, 0] rfl
            exact ih _ _ ls hl h
  refine lv_aload_n hx hb dX1_factsSettledFor_0 rfl (lv_at hl 0 rfl) ?_
  refine lv_iload_n hx hb dX1_factsSettledFor_1 rfl (lv_at hl 1 rfl) ?_
  refine lv_aload_n hx hb dX1_factsSettledFor_2 rfl (lv_at hl 0 rfl) ?_
  refine va_get (D := G.1) (ci := 4) (v := .int re) (C := RX1) (T := TX1) (N := 5) hx hb hts igX1 hown hK hP 0 rfl rfl 4 (by decide) (hts _ q78) (fun _ h9 => h9) rfl dX1_factsSettledFor_3 ?_
  have hPc := hP
  refine rdL (va_runV (C := RX1) (As := [.int p1, .int re]) (rest := []) ⟨hx, hb, hml, hown, hts⟩ (kX1_cell l G s0 s1 s2 b0 b1 b2 b3 b4 b5 b6 dk wg op re kf ff sf df pf gf bn p1 re h) (cwV 2 hts (gdV q156 q157 q158 q3 q159) rfl rfl rfl (by decide +kernel) ⟨Nat.le_of_ble_eq_true rfl, Nat.le_of_ble_eq_true rfl⟩) (preV hPc hKK (va_recv hK hPc (ci := 4) (q0 := 0) rfl rfl)) rfl rfl hl.1 rfl (lv_room (Nat.le_of_ble_eq_true rfl)) dX1_factsSettledFor_6 ⟨Nat.zero_le _, Nat.zero_le _⟩) (fun r_1 h => ?_)
  refine lv_lstore_n hx hb dX1_factsSettledFor_9 rfl hl (Nat.le_of_ble_eq_true rfl) rfl (fun ls hl => ?_)
  have hl : lv_has ls 8 [(2, .long r_1), (0, .ref s0), (1, .int p1)] := hl
  refine lv_iconst (v := 0) hx hb dX1_factsSettledFor_10 (by decide) ?_
  refine lv_istore hx hb dX1_factsSettledFor_11 hl (Nat.le_of_ble_eq_true rfl) rfl (fun ls hl => ?_)
  have hl : lv_has ls 8 [(4, .int (0 : Int32)), (2, .long r_1), (0, .ref s0), (1, .int p1)] := hl
  refine lv_iconst (v := 0) hx hb dX1_factsSettledFor_13 (by decide) ?_
  refine lv_istore hx hb dX1_factsSettledFor_14 hl (Nat.le_of_ble_eq_true rfl) rfl (fun ls hl => ?_)
  have hl : lv_has ls 8 [(5, .int (0 : Int32)), (4, .int (0 : Int32)), (2, .long r_1), (0, .ref s0), (1, .int p1)] := hl
  have hl := lv_sub (l' := [(0, .ref s0), (1, .int p1), (2, .long r_1), (4, .int (0 : Int32)), (5, .int (0 : Int32))]) hl [3, 4, 2, 1, 0] rfl
  obtain ⟨nF, h⟩ := h
  refine loop16 _ r_1 trivial ?_ nF (0 : Int32) (0 : Int32) _ hl h
  · intro i4 i5 ls hl h
    refine lv_iload hx hb dX1_factsSettledFor_67 (lv_at hl 3 rfl) ?_
    exact W.iret (v := i4) hx hb hr (fun t ht _ => ⟨_, rfl, h, ht⟩) (fun _ hq => absurd hq List.not_mem_nil) dX1_factsSettledFor_69
theorem dX1_keepOnly_0 : decode cX1_keepOnly 0 = .ok (.aload_n 0, 1) := by decide +kernel
theorem dX1_keepOnly_1 : decode cX1_keepOnly 1 = .ok (.dup, 1) := by decide +kernel
theorem dX1_keepOnly_2 : decode cX1_keepOnly 2 = .ok (.getfield 28, 3) := by decide +kernel
theorem dX1_keepOnly_5 : decode cX1_keepOnly 5 = .ok (.lload_n 1, 1) := by decide +kernel
theorem dX1_keepOnly_6 : decode cX1_keepOnly 6 = .ok (.land, 1) := by decide +kernel
theorem dX1_keepOnly_7 : decode cX1_keepOnly 7 = .ok (.putfield 28, 3) := by decide +kernel
theorem dX1_keepOnly_10 : decode cX1_keepOnly 10 = .ok (.return_, 1) := by decide +kernel
def wX1_keepOnly (post : Int64 → Prop) (op : Int64) (p1 : Int64) : Prop :=
  post (op &&& p1)
abbrev wl_X1_keepOnly : List Cond := .code yX1_keepOnly cX1_keepOnly 3 none :: lwg
abbrev rm_X1_keepOnly : Room := { frames := 0, cells := 0, slots := 0, locals := 0 }
set_option maxHeartbeats 4000000 in
set_option maxRecDepth 100000 in
theorem kX1_keepOnly {post : Int64 → Prop} (l : Launch) (G : GT) (s0 : Nat) (s1 : Nat) (s2 : Nat) (b0 : Nat) (b1 : Nat) (b2 : Nat) (b3 : Nat) (b4 : Nat) (b5 : Nat) (b6 : Nat) (dk : Nat → Int64) (wg : Nat → Int64) (op : Int64) (re : Int32) (kf : Nat → Int32) (ff : Nat → Int32) (sf : Nat → Int32) (df : Nat → Int32) (pf : Nat → Int64) (gf : Nat → Int64) (bn : Int32) (p1 : Int64) (sz : Nat) (h : wX1_keepOnly post op p1) : Met l yX1_keepOnly wl_X1_keepOnly rm_X1_keepOnly (va_Pc [.ref s0, .long p1] (fun U => U.heap.size = sz ∧ PP G [(s0, .inr (4, [.ref b0, .ref s1, .ref s2, .long op, .int re])), (s1, .inl (G.2 1, 384, .inr (.inl dk))), (s2, .inl (G.2 1, 40, .inr (.inl wg))), (b0, .inr (3, [.ref b1, .ref b2, .ref b3, .ref b4, .ref b5, .ref b6, .int bn])), (b1, .inl (G.2 0, 40, .inl kf)), (b2, .inl (G.2 0, 40, .inl ff)), (b3, .inl (G.2 0, 40, .inl sf)), (b4, .inl (G.2 0, 40, .inl df)), (b5, .inl (G.2 1, 40, .inr (.inl pf))), (b6, .inl (G.2 1, 6, .inr (.inl gf)))] U.heap ∧ KK G U ∧ va_D (fun _ => True) [(s0, .inr (4, [.ref b0, .ref s1, .ref s2, .long op, .int re])), (s1, .inl (G.2 1, 384, .inr (.inl dk))), (s2, .inl (G.2 1, 40, .inr (.inl wg))), (b0, .inr (3, [.ref b1, .ref b2, .ref b3, .ref b4, .ref b5, .ref b6, .int bn])), (b1, .inl (G.2 0, 40, .inl kf)), (b2, .inl (G.2 0, 40, .inl ff)), (b3, .inl (G.2 0, 40, .inl sf)), (b4, .inl (G.2 0, 40, .inl df)), (b5, .inl (G.2 1, 40, .inr (.inl pf))), (b6, .inl (G.2 1, 6, .inr (.inl gf)))])) (va_Qv post (fun u t => PP G [(s0, .inr (4, [.ref b0, .ref s1, .ref s2, .long u, .int re])), (s1, .inl (G.2 1, 384, .inr (.inl dk))), (s2, .inl (G.2 1, 40, .inr (.inl wg))), (b0, .inr (3, [.ref b1, .ref b2, .ref b3, .ref b4, .ref b5, .ref b6, .int bn])), (b1, .inl (G.2 0, 40, .inl kf)), (b2, .inl (G.2 0, 40, .inl ff)), (b3, .inl (G.2 0, 40, .inl sf)), (b4, .inl (G.2 0, 40, .inl df)), (b5, .inl (G.2 1, 40, .inr (.inl pf))), (b6, .inl (G.2 1, 6, .inr (.inl gf)))] t.heap ∧ va_D (va_A [(s0, .inr (4, [.ref b0, .ref s1, .ref s2, .long op, .int re])), (s1, .inl (G.2 1, 384, .inr (.inl dk))), (s2, .inl (G.2 1, 40, .inr (.inl wg))), (b0, .inr (3, [.ref b1, .ref b2, .ref b3, .ref b4, .ref b5, .ref b6, .int bn])), (b1, .inl (G.2 0, 40, .inl kf)), (b2, .inl (G.2 0, 40, .inl ff)), (b3, .inl (G.2 0, 40, .inl sf)), (b4, .inl (G.2 0, 40, .inl df)), (b5, .inl (G.2 1, 40, .inr (.inl pf))), (b6, .inl (G.2 1, 6, .inr (.inl gf)))] sz) [(s0, .inr (4, [.ref b0, .ref s1, .ref s2, .long u, .int re])), (s1, .inl (G.2 1, 384, .inr (.inl dk))), (s2, .inl (G.2 1, 40, .inr (.inl wg))), (b0, .inr (3, [.ref b1, .ref b2, .ref b3, .ref b4, .ref b5, .ref b6, .int bn])), (b1, .inl (G.2 0, 40, .inl kf)), (b2, .inl (G.2 0, 40, .inl ff)), (b3, .inl (G.2 0, 40, .inl sf)), (b4, .inl (G.2 0, 40, .inl df)), (b5, .inl (G.2 1, 40, .inr (.inl pf))), (b6, .inl (G.2 1, 6, .inr (.inl gf)))]) (va_A [(s0, .inr (4, [.ref b0, .ref s1, .ref s2, .long op, .int re])), (s1, .inl (G.2 1, 384, .inr (.inl dk))), (s2, .inl (G.2 1, 40, .inr (.inl wg))), (b0, .inr (3, [.ref b1, .ref b2, .ref b3, .ref b4, .ref b5, .ref b6, .int bn])), (b1, .inl (G.2 0, 40, .inl kf)), (b2, .inl (G.2 0, 40, .inl ff)), (b3, .inl (G.2 0, 40, .inl sf)), (b4, .inl (G.2 0, 40, .inl df)), (b5, .inl (G.2 1, 40, .inr (.inl pf))), (b6, .inl (G.2 1, 6, .inr (.inl gf)))] sz)) 0 0 (va_A [(s0, .inr (4, [.ref b0, .ref s1, .ref s2, .long op, .int re])), (s1, .inl (G.2 1, 384, .inr (.inl dk))), (s2, .inl (G.2 1, 40, .inr (.inl wg))), (b0, .inr (3, [.ref b1, .ref b2, .ref b3, .ref b4, .ref b5, .ref b6, .int bn])), (b1, .inl (G.2 0, 40, .inl kf)), (b2, .inl (G.2 0, 40, .inl ff)), (b3, .inl (G.2 0, 40, .inl sf)), (b4, .inl (G.2 0, 40, .inl df)), (b5, .inl (G.2 1, 40, .inr (.inl pf))), (b6, .inl (G.2 1, 6, .inr (.inl gf)))] sz) := by
  refine Met.ofW (cc := cX1_keepOnly) (maxL := 3) (ret := none) (by decide) rfl ?_
  intro p e s m args below meth c s₁ B hml hv
  obtain ⟨rfl, hsz, hP, hKK, hD0⟩ := hv
  obtain ⟨hK, hN, hR, hFW, hNC⟩ := id hKK
  have hx := B.exec
  have hb := B.bytes
  have hr := B.returns
  have hts0 := atoms_spec (ws := wl_X1_keepOnly) B.pre
  have hts : ∀ w ∈ lwg, w.before ([.ref s0, .long p1] : List Value).toArray s = true := fun w hw => hts0 w (List.mem_cons_of_mem _ hw)
  have hown : s.vm.findClass RX1 = some m.cls := findClass_of_methodNamed B.named
  have hlocks := B.notSynchronized
  subst hsz
  have hD := hD0.self (sz := s.heap.size)
  generalize hAe : va_A [(s0, .inr (4, [.ref b0, .ref s1, .ref s2, .long op, .int re])), (s1, .inl (G.2 1, 384, .inr (.inl dk))), (s2, .inl (G.2 1, 40, .inr (.inl wg))), (b0, .inr (3, [.ref b1, .ref b2, .ref b3, .ref b4, .ref b5, .ref b6, .int bn])), (b1, .inl (G.2 0, 40, .inl kf)), (b2, .inl (G.2 0, 40, .inl ff)), (b3, .inl (G.2 0, 40, .inl sf)), (b4, .inl (G.2 0, 40, .inl df)), (b5, .inl (G.2 1, 40, .inr (.inl pf))), (b6, .inl (G.2 1, 6, .inr (.inl gf)))] s.heap.size = A at hD ⊢
  have hA : ∀ q : Nat, s.heap.size ≤ q → A q := fun q h => by rw [← hAe]; exact Or.inr h
  have hS : va_S A s.heap s.heap [] := va_S.rf
  obtain ⟨QC, hQC⟩ : ∃ Z, Z = (va_Qv post (fun u t => PP G [(s0, .inr (4, [.ref b0, .ref s1, .ref s2, .long u, .int re])), (s1, .inl (G.2 1, 384, .inr (.inl dk))), (s2, .inl (G.2 1, 40, .inr (.inl wg))), (b0, .inr (3, [.ref b1, .ref b2, .ref b3, .ref b4, .ref b5, .ref b6, .int bn])), (b1, .inl (G.2 0, 40, .inl kf)), (b2, .inl (G.2 0, 40, .inl ff)), (b3, .inl (G.2 0, 40, .inl sf)), (b4, .inl (G.2 0, 40, .inl df)), (b5, .inl (G.2 1, 40, .inr (.inl pf))), (b6, .inl (G.2 1, 6, .inr (.inl gf)))] t.heap ∧ va_D A [(s0, .inr (4, [.ref b0, .ref s1, .ref s2, .long u, .int re])), (s1, .inl (G.2 1, 384, .inr (.inl dk))), (s2, .inl (G.2 1, 40, .inr (.inl wg))), (b0, .inr (3, [.ref b1, .ref b2, .ref b3, .ref b4, .ref b5, .ref b6, .int bn])), (b1, .inl (G.2 0, 40, .inl kf)), (b2, .inl (G.2 0, 40, .inl ff)), (b3, .inl (G.2 0, 40, .inl sf)), (b4, .inl (G.2 0, 40, .inl df)), (b5, .inl (G.2 1, 40, .inr (.inl pf))), (b6, .inl (G.2 1, 6, .inr (.inl gf)))]) A) := ⟨_, rfl⟩
  rw [← hQC]
  have hP : PP G [(s0, .inr (4, [.ref b0, .ref s1, .ref s2, .long op, .int re])), (s1, .inl (G.2 1, 384, .inr (.inl dk))), (s2, .inl (G.2 1, 40, .inr (.inl wg))), (b0, .inr (3, [.ref b1, .ref b2, .ref b3, .ref b4, .ref b5, .ref b6, .int bn])), (b1, .inl (G.2 0, 40, .inl kf)), (b2, .inl (G.2 0, 40, .inl ff)), (b3, .inl (G.2 0, 40, .inl sf)), (b4, .inl (G.2 0, 40, .inl df)), (b5, .inl (G.2 1, 40, .inr (.inl pf))), (b6, .inl (G.2 1, 6, .inr (.inl gf)))] s.heap := hP
  have hl := lv_entry ([.ref s0, .long p1]) (n := 3) (Nat.le_of_ble_eq_true rfl)
  rw [lg_entry_eq]
  generalize (lg_sl ([.ref s0, .long p1]) ++ List.replicate (3 - (lg_sl ([.ref s0, .long p1])).length) Slot.unset).toArray = ls at hl ⊢
  have hl : lv_has ls 3 [(0, .ref s0), (1, .long p1)] := hl
  refine lv_aload_n hx hb dX1_keepOnly_0 rfl (lv_at hl 0 rfl) ?_
  refine lv_dup hx hb dX1_keepOnly_1 rfl ?_
  refine va_get (D := G.1) (ci := 4) (v := .long op) (C := RX1) (T := TX1) (N := 5) hx hb hts igX1 hown hK hP 0 rfl rfl 3 (by decide) (hts _ q76) (fun _ h9 => h9) rfl dX1_keepOnly_2 ?_
  refine lv_lload_n hx hb dX1_keepOnly_5 rfl (lv_at hl 1 rfl) ?_
  refine lv_land hx hb dX1_keepOnly_6 ?_
  refine va_put (D := G.1) (ci := 4) (v := .long (op &&& p1)) (ty := .long) (C := RX1) (T := TX1) (N := 5) hx hb hts igX1 tyX1 tyX1_ok nmX1 hown hK hP hD hS 0 rfl rfl 3 (by decide) (hts _ q76) (fun _ h9 => h9) rfl (by decide +kernel) rfl rfl (Nat.le_of_ble_eq_true rfl) dX1_keepOnly_7 (fun H locs hP hD hS => ?_)
  have hP : PP G [(s0, .inr (4, [.ref b0, .ref s1, .ref s2, .long (op &&& p1), .int re])), (s1, .inl (G.2 1, 384, .inr (.inl dk))), (s2, .inl (G.2 1, 40, .inr (.inl wg))), (b0, .inr (3, [.ref b1, .ref b2, .ref b3, .ref b4, .ref b5, .ref b6, .int bn])), (b1, .inl (G.2 0, 40, .inl kf)), (b2, .inl (G.2 0, 40, .inl ff)), (b3, .inl (G.2 0, 40, .inl sf)), (b4, .inl (G.2 0, 40, .inl df)), (b5, .inl (G.2 1, 40, .inr (.inl pf))), (b6, .inl (G.2 1, 6, .inr (.inl gf)))] H := hP
  have hD : va_D A [(s0, .inr (4, [.ref b0, .ref s1, .ref s2, .long (op &&& p1), .int re])), (s1, .inl (G.2 1, 384, .inr (.inl dk))), (s2, .inl (G.2 1, 40, .inr (.inl wg))), (b0, .inr (3, [.ref b1, .ref b2, .ref b3, .ref b4, .ref b5, .ref b6, .int bn])), (b1, .inl (G.2 0, 40, .inl kf)), (b2, .inl (G.2 0, 40, .inl ff)), (b3, .inl (G.2 0, 40, .inl sf)), (b4, .inl (G.2 0, 40, .inl df)), (b5, .inl (G.2 1, 40, .inr (.inl pf))), (b6, .inl (G.2 1, 6, .inr (.inl gf)))] := hD
  subst hQC; exact W.vret hx hb hr (fun t ht hW => ⟨⟨(op &&& p1), rfl, h, by rw [ht]; exact hP, hD⟩, hS.F ht⟩) hS.2.2 dX1_keepOnly_10
theorem dX1_tellApart_0 : decode cX1_tellApart 0 = .ok (.iload_n 1, 1) := by decide +kernel
theorem dX1_tellApart_1 : decode cX1_tellApart 1 = .ok (.invokestatic 48, 3) := by decide +kernel
theorem dX1_tellApart_4 : decode cX1_tellApart 4 = .ok (.ifCond .ne 4, 3) := by decide +kernel
theorem dX1_tellApart_7 : decode cX1_tellApart 7 = .ok (.return_, 1) := by decide +kernel
theorem dX1_tellApart_8 : decode cX1_tellApart 8 = .ok (.iconst 0, 1) := by decide +kernel
theorem dX1_tellApart_9 : decode cX1_tellApart 9 = .ok (.istore 4, 2) := by decide +kernel
theorem dX1_tellApart_11 : decode cX1_tellApart 11 = .ok (.iload 4, 2) := by decide +kernel
theorem dX1_tellApart_13 : decode cX1_tellApart 13 = .ok (.bipush 64, 2) := by decide +kernel
theorem dX1_tellApart_15 : decode cX1_tellApart 15 = .ok (.if_icmp .ge 42, 3) := by decide +kernel
theorem dX1_tellApart_18 : decode cX1_tellApart 18 = .ok (.aload_n 0, 1) := by decide +kernel
theorem dX1_tellApart_19 : decode cX1_tellApart 19 = .ok (.getfield 9, 3) := by decide +kernel
theorem dX1_tellApart_22 : decode cX1_tellApart 22 = .ok (.iload_n 1, 1) := by decide +kernel
theorem dX1_tellApart_23 : decode cX1_tellApart 23 = .ok (.bipush 64, 2) := by decide +kernel
theorem dX1_tellApart_25 : decode cX1_tellApart 25 = .ok (.imul, 1) := by decide +kernel
theorem dX1_tellApart_26 : decode cX1_tellApart 26 = .ok (.iload 4, 2) := by decide +kernel
theorem dX1_tellApart_28 : decode cX1_tellApart 28 = .ok (.iadd, 1) := by decide +kernel
theorem dX1_tellApart_29 : decode cX1_tellApart 29 = .ok (.dup2, 1) := by decide +kernel
theorem dX1_tellApart_30 : decode cX1_tellApart 30 = .ok (.laload, 1) := by decide +kernel
theorem dX1_tellApart_31 : decode cX1_tellApart 31 = .ok (.lload_n 2, 1) := by decide +kernel
theorem dX1_tellApart_32 : decode cX1_tellApart 32 = .ok (.iload 4, 2) := by decide +kernel
theorem dX1_tellApart_34 : decode cX1_tellApart 34 = .ok (.invokestatic 52, 3) := by decide +kernel
theorem dX1_tellApart_37 : decode cX1_tellApart 37 = .ok (.ifCond .eq 7, 3) := by decide +kernel
theorem dX1_tellApart_40 : decode cX1_tellApart 40 = .ok (.lload_n 2, 1) := by decide +kernel
theorem dX1_tellApart_41 : decode cX1_tellApart 41 = .ok (.goto 8, 3) := by decide +kernel
theorem dX1_tellApart_44 : decode cX1_tellApart 44 = .ok (.lload_n 2, 1) := by decide +kernel
theorem dX1_tellApart_45 : decode cX1_tellApart 45 = .ok (.ldc2_w 26, 3) := by decide +kernel
theorem dX1_tellApart_48 : decode cX1_tellApart 48 = .ok (.lxor, 1) := by decide +kernel
theorem dX1_tellApart_49 : decode cX1_tellApart 49 = .ok (.land, 1) := by decide +kernel
theorem dX1_tellApart_50 : decode cX1_tellApart 50 = .ok (.lastore, 1) := by decide +kernel
theorem dX1_tellApart_51 : decode cX1_tellApart 51 = .ok (.iinc 4 1, 3) := by decide +kernel
theorem dX1_tellApart_54 : decode cX1_tellApart 54 = .ok (.goto (-43), 3) := by decide +kernel
theorem dX1_tellApart_57 : decode cX1_tellApart 57 = .ok (.return_, 1) := by decide +kernel
def wX1_tellApart_L11 (post : (Nat → Int64) → Prop) (K57 : Int32 → (Nat → Int64) → Prop) (p1 : Int32) (p2 : Int64) : Nat → Int32 → (Nat → Int64) → Prop
  | 0, _, _ => False
  | n+1, i4, dk' =>
    (((64 : Int32) ≤ i4) →
      K57 i4 dk'
    ) ∧ (¬ ((64 : Int32) ≤ i4) →
      vp_in ((p1 * (64 : Int32)) + i4) 384 ∧
      wX2_has (fun r_2 : Int32 =>
        ((r_2 = 0) →
          vp_in ((p1 * (64 : Int32)) + i4) 384 ∧
          wX1_tellApart_L11 post K57 p1 p2 n (i4 + 1) (vp_updL dk' ((p1 * (64 : Int32)) + i4).toNatClampNeg ((dk' ((p1 * (64 : Int32)) + i4).toNatClampNeg) &&& (p2 ^^^ (-1 : Int64))))
        ) ∧ (¬ (r_2 = 0) →
          vp_in ((p1 * (64 : Int32)) + i4) 384 ∧
          wX1_tellApart_L11 post K57 p1 p2 n (i4 + 1) (vp_updL dk' ((p1 * (64 : Int32)) + i4).toNatClampNeg ((dk' ((p1 * (64 : Int32)) + i4).toNatClampNeg) &&& p2))
        )
        ) p2 i4
    )
def wX1_tellApart (post : (Nat → Int64) → Prop) (dk : Nat → Int64) (p1 : Int32) (p2 : Int64) : Prop :=
  wX2_isGuard (fun r_1 : Int32 =>
    ((¬ r_1 = 0) →
      ∃ nF, wX1_tellApart_L11 post
        (fun i4 dk' =>
          post dk'
        )
        p1 p2 nF (0 : Int32) dk
    ) ∧ ((r_1 = 0) →
      post dk
    )
    ) p1
abbrev wl_X1_tellApart : List Cond := .code yX1_tellApart cX1_tellApart 5 none :: lwg
abbrev rm_X1_tellApart : Room := { frames := 1, cells := 0, slots := 0, locals := 22 }
set_option maxHeartbeats 4000000 in
set_option maxRecDepth 100000 in
theorem kX1_tellApart {post : (Nat → Int64) → Prop} (l : Launch) (G : GT) (s0 : Nat) (s1 : Nat) (s2 : Nat) (b0 : Nat) (b1 : Nat) (b2 : Nat) (b3 : Nat) (b4 : Nat) (b5 : Nat) (b6 : Nat) (dk : Nat → Int64) (wg : Nat → Int64) (op : Int64) (re : Int32) (kf : Nat → Int32) (ff : Nat → Int32) (sf : Nat → Int32) (df : Nat → Int32) (pf : Nat → Int64) (gf : Nat → Int64) (bn : Int32) (p1 : Int32) (p2 : Int64) (sz : Nat) (h : wX1_tellApart post dk p1 p2) : Met l yX1_tellApart wl_X1_tellApart rm_X1_tellApart (va_Pc [.ref s0, .int p1, .long p2] (fun U => U.heap.size = sz ∧ PP G [(s0, .inr (4, [.ref b0, .ref s1, .ref s2, .long op, .int re])), (s1, .inl (G.2 1, 384, .inr (.inl dk))), (s2, .inl (G.2 1, 40, .inr (.inl wg))), (b0, .inr (3, [.ref b1, .ref b2, .ref b3, .ref b4, .ref b5, .ref b6, .int bn])), (b1, .inl (G.2 0, 40, .inl kf)), (b2, .inl (G.2 0, 40, .inl ff)), (b3, .inl (G.2 0, 40, .inl sf)), (b4, .inl (G.2 0, 40, .inl df)), (b5, .inl (G.2 1, 40, .inr (.inl pf))), (b6, .inl (G.2 1, 6, .inr (.inl gf)))] U.heap ∧ KK G U ∧ va_D (fun _ => True) [(s0, .inr (4, [.ref b0, .ref s1, .ref s2, .long op, .int re])), (s1, .inl (G.2 1, 384, .inr (.inl dk))), (s2, .inl (G.2 1, 40, .inr (.inl wg))), (b0, .inr (3, [.ref b1, .ref b2, .ref b3, .ref b4, .ref b5, .ref b6, .int bn])), (b1, .inl (G.2 0, 40, .inl kf)), (b2, .inl (G.2 0, 40, .inl ff)), (b3, .inl (G.2 0, 40, .inl sf)), (b4, .inl (G.2 0, 40, .inl df)), (b5, .inl (G.2 1, 40, .inr (.inl pf))), (b6, .inl (G.2 1, 6, .inr (.inl gf)))])) (va_Qv post (fun u t => PP G [(s0, .inr (4, [.ref b0, .ref s1, .ref s2, .long op, .int re])), (s1, .inl (G.2 1, 384, .inr (.inl u))), (s2, .inl (G.2 1, 40, .inr (.inl wg))), (b0, .inr (3, [.ref b1, .ref b2, .ref b3, .ref b4, .ref b5, .ref b6, .int bn])), (b1, .inl (G.2 0, 40, .inl kf)), (b2, .inl (G.2 0, 40, .inl ff)), (b3, .inl (G.2 0, 40, .inl sf)), (b4, .inl (G.2 0, 40, .inl df)), (b5, .inl (G.2 1, 40, .inr (.inl pf))), (b6, .inl (G.2 1, 6, .inr (.inl gf)))] t.heap ∧ va_D (va_A [(s0, .inr (4, [.ref b0, .ref s1, .ref s2, .long op, .int re])), (s1, .inl (G.2 1, 384, .inr (.inl dk))), (s2, .inl (G.2 1, 40, .inr (.inl wg))), (b0, .inr (3, [.ref b1, .ref b2, .ref b3, .ref b4, .ref b5, .ref b6, .int bn])), (b1, .inl (G.2 0, 40, .inl kf)), (b2, .inl (G.2 0, 40, .inl ff)), (b3, .inl (G.2 0, 40, .inl sf)), (b4, .inl (G.2 0, 40, .inl df)), (b5, .inl (G.2 1, 40, .inr (.inl pf))), (b6, .inl (G.2 1, 6, .inr (.inl gf)))] sz) [(s0, .inr (4, [.ref b0, .ref s1, .ref s2, .long op, .int re])), (s1, .inl (G.2 1, 384, .inr (.inl u))), (s2, .inl (G.2 1, 40, .inr (.inl wg))), (b0, .inr (3, [.ref b1, .ref b2, .ref b3, .ref b4, .ref b5, .ref b6, .int bn])), (b1, .inl (G.2 0, 40, .inl kf)), (b2, .inl (G.2 0, 40, .inl ff)), (b3, .inl (G.2 0, 40, .inl sf)), (b4, .inl (G.2 0, 40, .inl df)), (b5, .inl (G.2 1, 40, .inr (.inl pf))), (b6, .inl (G.2 1, 6, .inr (.inl gf)))]) (va_A [(s0, .inr (4, [.ref b0, .ref s1, .ref s2, .long op, .int re])), (s1, .inl (G.2 1, 384, .inr (.inl dk))), (s2, .inl (G.2 1, 40, .inr (.inl wg))), (b0, .inr (3, [.ref b1, .ref b2, .ref b3, .ref b4, .ref b5, .ref b6, .int bn])), (b1, .inl (G.2 0, 40, .inl kf)), (b2, .inl (G.2 0, 40, .inl ff)), (b3, .inl (G.2 0, 40, .inl sf)), (b4, .inl (G.2 0, 40, .inl df)), (b5, .inl (G.2 1, 40, .inr (.inl pf))), (b6, .inl (G.2 1, 6, .inr (.inl gf)))] sz)) 0 0 (va_A [(s0, .inr (4, [.ref b0, .ref s1, .ref s2, .long op, .int re])), (s1, .inl (G.2 1, 384, .inr (.inl dk))), (s2, .inl (G.2 1, 40, .inr (.inl wg))), (b0, .inr (3, [.ref b1, .ref b2, .ref b3, .ref b4, .ref b5, .ref b6, .int bn])), (b1, .inl (G.2 0, 40, .inl kf)), (b2, .inl (G.2 0, 40, .inl ff)), (b3, .inl (G.2 0, 40, .inl sf)), (b4, .inl (G.2 0, 40, .inl df)), (b5, .inl (G.2 1, 40, .inr (.inl pf))), (b6, .inl (G.2 1, 6, .inr (.inl gf)))] sz) := by
  refine Met.ofW (cc := cX1_tellApart) (maxL := 5) (ret := none) (by decide) rfl ?_
  intro p e s m args below meth c s₁ B hml hv
  obtain ⟨rfl, hsz, hP, hKK, hD0⟩ := hv
  obtain ⟨hK, hN, hR, hFW, hNC⟩ := id hKK
  have hx := B.exec
  have hb := B.bytes
  have hr := B.returns
  have hts0 := atoms_spec (ws := wl_X1_tellApart) B.pre
  have hts : ∀ w ∈ lwg, w.before ([.ref s0, .int p1, .long p2] : List Value).toArray s = true := fun w hw => hts0 w (List.mem_cons_of_mem _ hw)
  have hown : s.vm.findClass RX1 = some m.cls := findClass_of_methodNamed B.named
  have hlocks := B.notSynchronized
  subst hsz
  have hD := hD0.self (sz := s.heap.size)
  generalize hAe : va_A [(s0, .inr (4, [.ref b0, .ref s1, .ref s2, .long op, .int re])), (s1, .inl (G.2 1, 384, .inr (.inl dk))), (s2, .inl (G.2 1, 40, .inr (.inl wg))), (b0, .inr (3, [.ref b1, .ref b2, .ref b3, .ref b4, .ref b5, .ref b6, .int bn])), (b1, .inl (G.2 0, 40, .inl kf)), (b2, .inl (G.2 0, 40, .inl ff)), (b3, .inl (G.2 0, 40, .inl sf)), (b4, .inl (G.2 0, 40, .inl df)), (b5, .inl (G.2 1, 40, .inr (.inl pf))), (b6, .inl (G.2 1, 6, .inr (.inl gf)))] s.heap.size = A at hD ⊢
  have hA : ∀ q : Nat, s.heap.size ≤ q → A q := fun q h => by rw [← hAe]; exact Or.inr h
  have hS : va_S A s.heap s.heap [] := va_S.rf
  obtain ⟨QC, hQC⟩ : ∃ Z, Z = (va_Qv post (fun u t => PP G [(s0, .inr (4, [.ref b0, .ref s1, .ref s2, .long op, .int re])), (s1, .inl (G.2 1, 384, .inr (.inl u))), (s2, .inl (G.2 1, 40, .inr (.inl wg))), (b0, .inr (3, [.ref b1, .ref b2, .ref b3, .ref b4, .ref b5, .ref b6, .int bn])), (b1, .inl (G.2 0, 40, .inl kf)), (b2, .inl (G.2 0, 40, .inl ff)), (b3, .inl (G.2 0, 40, .inl sf)), (b4, .inl (G.2 0, 40, .inl df)), (b5, .inl (G.2 1, 40, .inr (.inl pf))), (b6, .inl (G.2 1, 6, .inr (.inl gf)))] t.heap ∧ va_D A [(s0, .inr (4, [.ref b0, .ref s1, .ref s2, .long op, .int re])), (s1, .inl (G.2 1, 384, .inr (.inl u))), (s2, .inl (G.2 1, 40, .inr (.inl wg))), (b0, .inr (3, [.ref b1, .ref b2, .ref b3, .ref b4, .ref b5, .ref b6, .int bn])), (b1, .inl (G.2 0, 40, .inl kf)), (b2, .inl (G.2 0, 40, .inl ff)), (b3, .inl (G.2 0, 40, .inl sf)), (b4, .inl (G.2 0, 40, .inl df)), (b5, .inl (G.2 1, 40, .inr (.inl pf))), (b6, .inl (G.2 1, 6, .inr (.inl gf)))]) A) := ⟨_, rfl⟩
  rw [← hQC]
  have hP : PP G [(s0, .inr (4, [.ref b0, .ref s1, .ref s2, .long op, .int re])), (s1, .inl (G.2 1, 384, .inr (.inl dk))), (s2, .inl (G.2 1, 40, .inr (.inl wg))), (b0, .inr (3, [.ref b1, .ref b2, .ref b3, .ref b4, .ref b5, .ref b6, .int bn])), (b1, .inl (G.2 0, 40, .inl kf)), (b2, .inl (G.2 0, 40, .inl ff)), (b3, .inl (G.2 0, 40, .inl sf)), (b4, .inl (G.2 0, 40, .inl df)), (b5, .inl (G.2 1, 40, .inr (.inl pf))), (b6, .inl (G.2 1, 6, .inr (.inl gf)))] s.heap := hP
  have hl := lv_entry ([.ref s0, .int p1, .long p2]) (n := 5) (Nat.le_of_ble_eq_true rfl)
  rw [lg_entry_eq]
  generalize (lg_sl ([.ref s0, .int p1, .long p2]) ++ List.replicate (5 - (lg_sl ([.ref s0, .int p1, .long p2])).length) Slot.unset).toArray = ls at hl ⊢
  have hl : lv_has ls 5 [(0, .ref s0), (1, .int p1), (2, .long p2)] := hl
  have loop11 : ∀ (K57 : Int32 → (Nat → Int64) → Prop), True → (∀ (i4 : Int32) (dk' : Nat → Int64) (ls : Array Slot) (H : Heap) (locs : List Loc), lv_has ls 5 [(0, .ref s0), (1, .int p1), (2, .long p2), (4, .int i4)] → PP G [(s0, .inr (4, [.ref b0, .ref s1, .ref s2, .long op, .int re])), (s1, .inl (G.2 1, 384, .inr (.inl dk'))), (s2, .inl (G.2 1, 40, .inr (.inl wg))), (b0, .inr (3, [.ref b1, .ref b2, .ref b3, .ref b4, .ref b5, .ref b6, .int bn])), (b1, .inl (G.2 0, 40, .inl kf)), (b2, .inl (G.2 0, 40, .inl ff)), (b3, .inl (G.2 0, 40, .inl sf)), (b4, .inl (G.2 0, 40, .inl df)), (b5, .inl (G.2 1, 40, .inr (.inl pf))), (b6, .inl (G.2 1, 6, .inr (.inl gf)))] H → va_D A [(s0, .inr (4, [.ref b0, .ref s1, .ref s2, .long op, .int re])), (s1, .inl (G.2 1, 384, .inr (.inl dk'))), (s2, .inl (G.2 1, 40, .inr (.inl wg))), (b0, .inr (3, [.ref b1, .ref b2, .ref b3, .ref b4, .ref b5, .ref b6, .int bn])), (b1, .inl (G.2 0, 40, .inl kf)), (b2, .inl (G.2 0, 40, .inl ff)), (b3, .inl (G.2 0, 40, .inl sf)), (b4, .inl (G.2 0, 40, .inl df)), (b5, .inl (G.2 1, 40, .inr (.inl pf))), (b6, .inl (G.2 1, 6, .inr (.inl gf)))] → va_S A s.heap H locs → K57 i4 dk' → W p l e (headSpec (wl_X1_tellApart) rm_X1_tellApart).room s m ([.ref s0, .int p1, .long p2] : List Value).toArray below meth c H locs 0 0 (MQ below QC ([.ref s0, .int p1, .long p2] : List Value).toArray s 0 0 A) (F0 m 57 ls [])) → ∀ (n : Nat) (i4 : Int32) (dk' : Nat → Int64) (ls : Array Slot) (H : Heap) (locs : List Loc), lv_has ls 5 [(0, .ref s0), (1, .int p1), (2, .long p2), (4, .int i4)] → PP G [(s0, .inr (4, [.ref b0, .ref s1, .ref s2, .long op, .int re])), (s1, .inl (G.2 1, 384, .inr (.inl dk'))), (s2, .inl (G.2 1, 40, .inr (.inl wg))), (b0, .inr (3, [.ref b1, .ref b2, .ref b3, .ref b4, .ref b5, .ref b6, .int bn])), (b1, .inl (G.2 0, 40, .inl kf)), (b2, .inl (G.2 0, 40, .inl ff)), (b3, .inl (G.2 0, 40, .inl sf)), (b4, .inl (G.2 0, 40, .inl df)), (b5, .inl (G.2 1, 40, .inr (.inl pf))), (b6, .inl (G.2 1, 6, .inr (.inl gf)))] H → va_D A [(s0, .inr (4, [.ref b0, .ref s1, .ref s2, .long op, .int re])), (s1, .inl (G.2 1, 384, .inr (.inl dk'))), (s2, .inl (G.2 1, 40, .inr (.inl wg))), (b0, .inr (3, [.ref b1, .ref b2, .ref b3, .ref b4, .ref b5, .ref b6, .int bn])), (b1, .inl (G.2 0, 40, .inl kf)), (b2, .inl (G.2 0, 40, .inl ff)), (b3, .inl (G.2 0, 40, .inl sf)), (b4, .inl (G.2 0, 40, .inl df)), (b5, .inl (G.2 1, 40, .inr (.inl pf))), (b6, .inl (G.2 1, 6, .inr (.inl gf)))] → va_S A s.heap H locs → wX1_tellApart_L11 post K57 p1 p2 n i4 dk' → W p l e (headSpec (wl_X1_tellApart) rm_X1_tellApart).room s m ([.ref s0, .int p1, .long p2] : List Value).toArray below meth c H locs 0 0 (MQ below QC ([.ref s0, .int p1, .long p2] : List Value).toArray s 0 0 A) (F0 m 11 ls []) := by
    intro K57 _ hexit57 n
    induction n with
    | zero => intro i4 dk' ls H locs hl hP hD hS h; exact False.elim h
    | succ n ih =>
      intro i4 dk' ls H locs hl hP hD hS h
      refine lv_iload hx hb dX1_tellApart_11 (lv_at hl 3 rfl) ?_
      refine lv_bipush (v := 64) hx hb dX1_tellApart_13 (by decide) ?_
      refine lv_icmp_ge (tgt := 57) hx hb dX1_tellApart_15 (by decide) (fun hc => ?_) (fun hc => ?_)
      · have h := h.1 hc
        have hl := lv_sub (l' := [(0, .ref s0), (1, .int p1), (2, .long p2), (4, .int i4)]) hl [0, 1, 2, 3] rfl
        exact hexit57 _ _ ls H locs hl hP hD hS h
      · have h := h.2 hc
        refine lv_aload_n hx hb dX1_tellApart_18 rfl (lv_at hl 0 rfl) ?_
        refine va_get (D := G.1) (ci := 4) (v := .ref s1) (C := RX1) (T := TX1) (N := 5) hx hb hts igX1 hown hK hP 0 rfl rfl 1 (by decide) (hts _ q74) (fun _ h9 => h9) rfl dX1_tellApart_19 ?_
        refine lv_iload_n hx hb dX1_tellApart_22 rfl (lv_at hl 1 rfl) ?_
        refine lv_bipush (v := 64) hx hb dX1_tellApart_23 (by decide) ?_
        refine lv_imul hx hb dX1_tellApart_25 ?_
        refine lv_iload hx hb dX1_tellApart_26 (lv_at hl 3 rfl) ?_
        refine lv_iadd hx hb dX1_tellApart_28 ?_
        refine lv_dup2_11 hx hb dX1_tellApart_29 rfl rfl ?_
        obtain ⟨hin, h⟩ := h
        refine va_lald (D := G.1) hx hb hK hP 1 1 rfl rfl hin dX1_tellApart_30 ?_
        refine lv_lload_n hx hb dX1_tellApart_31 rfl (lv_at hl 2 rfl) ?_
        refine lv_iload hx hb dX1_tellApart_32 (lv_at hl 3 rfl) ?_
        have hPc := va_P.sub (ws' := []) hP [] rfl
        refine rdI (va_runSN (As := [.long p2, .int i4]) (rest := [.long (dk' ((p1 * (64 : Int32)) + i4).toNatClampNeg), .int ((p1 * (64 : Int32)) + i4), .ref s1]) ⟨hx, hb, hml, hown, hts⟩ (kX2_has l G p2 i4 h) ⟨va_cnB 2 hts (gdC q109) rfl rfl rfl (hN _ n107) (hts _ q1) (by decide +kernel) ⟨Nat.le_of_ble_eq_true rfl, Nat.le_of_ble_eq_true rfl⟩, hts _ q108, trivial⟩ (preS hPc hKK) rfl rfl hl.1 rfl (lv_room (Nat.le_of_ble_eq_true rfl)) dX1_tellApart_34 ⟨Nat.zero_le _, Nat.zero_le _⟩) (fun r_2 h => ?_)
        refine lv_if_eq (tgt := 44) hx hb dX1_tellApart_37 (by decide) (fun hc => ?_) (fun hc => ?_)
        · have h := h.1 hc
          refine lv_lload_n hx hb dX1_tellApart_44 rfl (lv_at hl 2 rfl) ?_
          refine lv_ldc2 hx hb hown (hts _ q95) dX1_tellApart_45 ?_
          refine lv_lxor hx hb dX1_tellApart_48 ?_
          refine lv_land hx hb dX1_tellApart_49 ?_
          obtain ⟨hin, h⟩ := h
          refine va_last (D := G.1) hx hb hK hP hD hS 1 1 rfl rfl hin dX1_tellApart_50 (fun H locs hP hD hS => ?_)
          have hP : PP G [(s0, .inr (4, [.ref b0, .ref s1, .ref s2, .long op, .int re])), (s1, .inl (G.2 1, 384, .inr (.inl (vp_updL dk' ((p1 * (64 : Int32)) + i4).toNatClampNeg ((dk' ((p1 * (64 : Int32)) + i4).toNatClampNeg) &&& (p2 ^^^ (-1 : Int64))))))), (s2, .inl (G.2 1, 40, .inr (.inl wg))), (b0, .inr (3, [.ref b1, .ref b2, .ref b3, .ref b4, .ref b5, .ref b6, .int bn])), (b1, .inl (G.2 0, 40, .inl kf)), (b2, .inl (G.2 0, 40, .inl ff)), (b3, .inl (G.2 0, 40, .inl sf)), (b4, .inl (G.2 0, 40, .inl df)), (b5, .inl (G.2 1, 40, .inr (.inl pf))), (b6, .inl (G.2 1, 6, .inr (.inl gf)))] H := hP
          have hD : va_D A [(s0, .inr (4, [.ref b0, .ref s1, .ref s2, .long op, .int re])), (s1, .inl (G.2 1, 384, .inr (.inl (vp_updL dk' ((p1 * (64 : Int32)) + i4).toNatClampNeg ((dk' ((p1 * (64 : Int32)) + i4).toNatClampNeg) &&& (p2 ^^^ (-1 : Int64))))))), (s2, .inl (G.2 1, 40, .inr (.inl wg))), (b0, .inr (3, [.ref b1, .ref b2, .ref b3, .ref b4, .ref b5, .ref b6, .int bn])), (b1, .inl (G.2 0, 40, .inl kf)), (b2, .inl (G.2 0, 40, .inl ff)), (b3, .inl (G.2 0, 40, .inl sf)), (b4, .inl (G.2 0, 40, .inl df)), (b5, .inl (G.2 1, 40, .inr (.inl pf))), (b6, .inl (G.2 1, 6, .inr (.inl gf)))] := hD
          refine lv_iinc (v := (i4 + 1)) hx hb dX1_tellApart_51 hl (k := 3) rfl (by rw [show Int32.ofInt 1 = 1 from by decide]) (Nat.le_of_ble_eq_true rfl) rfl (fun ls hl => ?_)
          have hl : lv_has ls 5 [(4, .int (i4 + 1)), (0, .ref s0), (1, .int p1), (2, .long p2)] := hl
          refine lv_goto (tgt := 11) hx hb dX1_tellApart_54 (by decide) ?_
          have hl := lv_sub (l' := [(0, .ref s0), (1, .int p1), (2, .long p2), (4, .int (i4 + 1))]) hl [1, 2, 3, 0] rfl
          exact ih _ _ ls H locs hl hP hD hS h
        · have h := h.2 hc
          refine lv_lload_n hx hb dX1_tellApart_40 rfl (lv_at hl 2 rfl) ?_
          refine lv_goto (tgt := 49) hx hb dX1_tellApart_41 (by decide) ?_
          refine lv_land hx hb dX1_tellApart_49 ?_
          obtain ⟨hin, h⟩ := h
          refine va_last (D := G.1) hx hb hK hP hD hS 1 1 rfl rfl hin dX1_tellApart_50 (fun H locs hP hD hS => ?_)
          have hP : PP G [(s0, .inr (4, [.ref b0, .ref s1, .ref s2, .long op, .int re])), (s1, .inl (G.2 1, 384, .inr (.inl (vp_updL dk' ((p1 * (64 : Int32)) + i4).toNatClampNeg ((dk' ((p1 * (64 : Int32)) + i4).toNatClampNeg) &&& p2))))), (s2, .inl (G.2 1, 40, .inr (.inl wg))), (b0, .inr (3, [.ref b1, .ref b2, .ref b3, .ref b4, .ref b5, .ref b6, .int bn])), (b1, .inl (G.2 0, 40, .inl kf)), (b2, .inl (G.2 0, 40, .inl ff)), (b3, .inl (G.2 0, 40, .inl sf)), (b4, .inl (G.2 0, 40, .inl df)), (b5, .inl (G.2 1, 40, .inr (.inl pf))), (b6, .inl (G.2 1, 6, .inr (.inl gf)))] H := hP
          have hD : va_D A [(s0, .inr (4, [.ref b0, .ref s1, .ref s2, .long op, .int re])), (s1, .inl (G.2 1, 384, .inr (.inl (vp_updL dk' ((p1 * (64 : Int32)) + i4).toNatClampNeg ((dk' ((p1 * (64 : Int32)) + i4).toNatClampNeg) &&& p2))))), (s2, .inl (G.2 1, 40, .inr (.inl wg))), (b0, .inr (3, [.ref b1, .ref b2, .ref b3, .ref b4, .ref b5, .ref b6, .int bn])), (b1, .inl (G.2 0, 40, .inl kf)), (b2, .inl (G.2 0, 40, .inl ff)), (b3, .inl (G.2 0, 40, .inl sf)), (b4, .inl (G.2 0, 40, .inl df)), (b5, .inl (G.2 1, 40, .inr (.inl pf))), (b6, .inl (G.2 1, 6, .inr (.inl gf)))] := hD
          refine lv_iinc (v := (i4 + 1)) hx hb dX1_tellApart_51 hl (k := 3) rfl (by rw [show Int32.ofInt 1 = 1 from by decide]) (Nat.le_of_ble_eq_true rfl) rfl (fun ls hl => ?_)
          have hl : lv_has ls 5 [(4, .int (i4 + 1)), (0, .ref s0), (1, .int p1), (2, .long p2)] := hl
          refine lv_goto (tgt := 11) hx hb dX1_tellApart_54 (by decide) ?_
          have hl := lv_sub (l' := [(0, .ref s0), (1, .int p1), (2, .long p2), (4, .int (i4 + 1))]) hl [1, 2, 3, 0] rfl
          exact ih _ _ ls H locs hl hP hD hS h
  refine lv_iload_n hx hb dX1_tellApart_0 rfl (lv_at hl 1 rfl) ?_
  have hPc := va_P.sub (ws' := []) hP [] rfl
  refine rdI (va_runSN (As := [.int p1]) (rest := []) ⟨hx, hb, hml, hown, hts⟩ (kX2_isGuard l G p1 h) ⟨va_cnB 1 hts (gdC q348) rfl rfl rfl (hN _ n474) (hts _ q1) (by decide +kernel) ⟨Nat.le_of_ble_eq_true rfl, Nat.le_of_ble_eq_true rfl⟩, hts _ q347, trivial⟩ (preS hPc hKK) rfl rfl hl.1 rfl (lv_room (Nat.le_of_ble_eq_true rfl)) dX1_tellApart_1 ⟨Nat.zero_le _, Nat.zero_le _⟩) (fun r_1 h => ?_)
  refine lv_if_ne (tgt := 8) hx hb dX1_tellApart_4 (by decide) (fun hc => ?_) (fun hc => ?_)
  · have h := h.1 hc
    refine lv_iconst (v := 0) hx hb dX1_tellApart_8 (by decide) ?_
    refine lv_istore hx hb dX1_tellApart_9 hl (Nat.le_of_ble_eq_true rfl) rfl (fun ls hl => ?_)
    have hl : lv_has ls 5 [(4, .int (0 : Int32)), (0, .ref s0), (1, .int p1), (2, .long p2)] := hl
    have hl := lv_sub (l' := [(0, .ref s0), (1, .int p1), (2, .long p2), (4, .int (0 : Int32))]) hl [1, 2, 3, 0] rfl
    obtain ⟨nF, h⟩ := h
    refine loop11 _ trivial ?_ nF (0 : Int32) dk _ _ _ hl hP hD hS h
    · intro i4 dk' ls H locs hl hP hD hS h
      subst hQC; exact W.vret hx hb hr (fun t ht hW => ⟨⟨dk', rfl, h, by rw [ht]; exact hP, hD⟩, hS.F ht⟩) hS.2.2 dX1_tellApart_57
  · have h := h.2 hc
    subst hQC; exact W.vret hx hb hr (fun t ht hW => ⟨⟨dk, rfl, h, by rw [ht]; exact hP, hD⟩, hS.F ht⟩) hS.2.2 dX1_tellApart_7
theorem dX1_passOn_0 : decode cX1_passOn 0 = .ok (.iload_n 1, 1) := by decide +kernel
theorem dX1_passOn_1 : decode cX1_passOn 1 = .ok (.invokestatic 48, 3) := by decide +kernel
theorem dX1_passOn_4 : decode cX1_passOn 4 = .ok (.ifCond .eq 10, 3) := by decide +kernel
theorem dX1_passOn_7 : decode cX1_passOn 7 = .ok (.iload_n 2, 1) := by decide +kernel
theorem dX1_passOn_8 : decode cX1_passOn 8 = .ok (.invokestatic 48, 3) := by decide +kernel
theorem dX1_passOn_11 : decode cX1_passOn 11 = .ok (.ifCond .ne 5, 3) := by decide +kernel
theorem dX1_passOn_14 : decode cX1_passOn 14 = .ok (.iconst 0, 1) := by decide +kernel
theorem dX1_passOn_15 : decode cX1_passOn 15 = .ok (.ireturn, 1) := by decide +kernel
theorem dX1_passOn_16 : decode cX1_passOn 16 = .ok (.lconst 0, 1) := by decide +kernel
theorem dX1_passOn_17 : decode cX1_passOn 17 = .ok (.lstore_n 3, 1) := by decide +kernel
theorem dX1_passOn_18 : decode cX1_passOn 18 = .ok (.iconst 0, 1) := by decide +kernel
theorem dX1_passOn_19 : decode cX1_passOn 19 = .ok (.istore 5, 2) := by decide +kernel
theorem dX1_passOn_21 : decode cX1_passOn 21 = .ok (.iload 5, 2) := by decide +kernel
theorem dX1_passOn_23 : decode cX1_passOn 23 = .ok (.bipush 64, 2) := by decide +kernel
theorem dX1_passOn_25 : decode cX1_passOn 25 = .ok (.if_icmp .ge 78, 3) := by decide +kernel
theorem dX1_passOn_28 : decode cX1_passOn 28 = .ok (.aload_n 0, 1) := by decide +kernel
theorem dX1_passOn_29 : decode cX1_passOn 29 = .ok (.getfield 9, 3) := by decide +kernel
theorem dX1_passOn_32 : decode cX1_passOn 32 = .ok (.iload_n 2, 1) := by decide +kernel
theorem dX1_passOn_33 : decode cX1_passOn 33 = .ok (.bipush 64, 2) := by decide +kernel
theorem dX1_passOn_35 : decode cX1_passOn 35 = .ok (.imul, 1) := by decide +kernel
theorem dX1_passOn_36 : decode cX1_passOn 36 = .ok (.iload 5, 2) := by decide +kernel
theorem dX1_passOn_38 : decode cX1_passOn 38 = .ok (.iadd, 1) := by decide +kernel
theorem dX1_passOn_39 : decode cX1_passOn 39 = .ok (.laload, 1) := by decide +kernel
theorem dX1_passOn_40 : decode cX1_passOn 40 = .ok (.lstore 6, 2) := by decide +kernel
theorem dX1_passOn_42 : decode cX1_passOn 42 = .ok (.lload 6, 2) := by decide +kernel
theorem dX1_passOn_44 : decode cX1_passOn 44 = .ok (.aload_n 0, 1) := by decide +kernel
theorem dX1_passOn_45 : decode cX1_passOn 45 = .ok (.getfield 9, 3) := by decide +kernel
theorem dX1_passOn_48 : decode cX1_passOn 48 = .ok (.iload_n 1, 1) := by decide +kernel
theorem dX1_passOn_49 : decode cX1_passOn 49 = .ok (.bipush 64, 2) := by decide +kernel
theorem dX1_passOn_51 : decode cX1_passOn 51 = .ok (.imul, 1) := by decide +kernel
theorem dX1_passOn_52 : decode cX1_passOn 52 = .ok (.iload 5, 2) := by decide +kernel
theorem dX1_passOn_54 : decode cX1_passOn 54 = .ok (.iadd, 1) := by decide +kernel
theorem dX1_passOn_55 : decode cX1_passOn 55 = .ok (.laload, 1) := by decide +kernel
theorem dX1_passOn_56 : decode cX1_passOn 56 = .ok (.land, 1) := by decide +kernel
theorem dX1_passOn_57 : decode cX1_passOn 57 = .ok (.lstore 8, 2) := by decide +kernel
theorem dX1_passOn_59 : decode cX1_passOn 59 = .ok (.aload_n 0, 1) := by decide +kernel
theorem dX1_passOn_60 : decode cX1_passOn 60 = .ok (.getfield 9, 3) := by decide +kernel
theorem dX1_passOn_63 : decode cX1_passOn 63 = .ok (.iload_n 2, 1) := by decide +kernel
theorem dX1_passOn_64 : decode cX1_passOn 64 = .ok (.bipush 64, 2) := by decide +kernel
theorem dX1_passOn_66 : decode cX1_passOn 66 = .ok (.imul, 1) := by decide +kernel
theorem dX1_passOn_67 : decode cX1_passOn 67 = .ok (.iload 5, 2) := by decide +kernel
theorem dX1_passOn_69 : decode cX1_passOn 69 = .ok (.iadd, 1) := by decide +kernel
theorem dX1_passOn_70 : decode cX1_passOn 70 = .ok (.lload 8, 2) := by decide +kernel
theorem dX1_passOn_72 : decode cX1_passOn 72 = .ok (.lastore, 1) := by decide +kernel
theorem dX1_passOn_73 : decode cX1_passOn 73 = .ok (.aload_n 0, 1) := by decide +kernel
theorem dX1_passOn_74 : decode cX1_passOn 74 = .ok (.getfield 28, 3) := by decide +kernel
theorem dX1_passOn_77 : decode cX1_passOn 77 = .ok (.iload 5, 2) := by decide +kernel
theorem dX1_passOn_79 : decode cX1_passOn 79 = .ok (.invokestatic 52, 3) := by decide +kernel
theorem dX1_passOn_82 : decode cX1_passOn 82 = .ok (.ifCond .eq 15, 3) := by decide +kernel
theorem dX1_passOn_85 : decode cX1_passOn 85 = .ok (.lload_n 3, 1) := by decide +kernel
theorem dX1_passOn_86 : decode cX1_passOn 86 = .ok (.lload 6, 2) := by decide +kernel
theorem dX1_passOn_88 : decode cX1_passOn 88 = .ok (.lload 8, 2) := by decide +kernel
theorem dX1_passOn_90 : decode cX1_passOn 90 = .ok (.ldc2_w 26, 3) := by decide +kernel
theorem dX1_passOn_93 : decode cX1_passOn 93 = .ok (.lxor, 1) := by decide +kernel
theorem dX1_passOn_94 : decode cX1_passOn 94 = .ok (.land, 1) := by decide +kernel
theorem dX1_passOn_95 : decode cX1_passOn 95 = .ok (.lor, 1) := by decide +kernel
theorem dX1_passOn_96 : decode cX1_passOn 96 = .ok (.lstore_n 3, 1) := by decide +kernel
theorem dX1_passOn_97 : decode cX1_passOn 97 = .ok (.iinc 5 1, 3) := by decide +kernel
theorem dX1_passOn_100 : decode cX1_passOn 100 = .ok (.goto (-79), 3) := by decide +kernel
theorem dX1_passOn_103 : decode cX1_passOn 103 = .ok (.lload_n 3, 1) := by decide +kernel
theorem dX1_passOn_104 : decode cX1_passOn 104 = .ok (.aload_n 0, 1) := by decide +kernel
theorem dX1_passOn_105 : decode cX1_passOn 105 = .ok (.getfield 28, 3) := by decide +kernel
theorem dX1_passOn_108 : decode cX1_passOn 108 = .ok (.land, 1) := by decide +kernel
theorem dX1_passOn_109 : decode cX1_passOn 109 = .ok (.lconst 0, 1) := by decide +kernel
theorem dX1_passOn_110 : decode cX1_passOn 110 = .ok (.lcmp, 1) := by decide +kernel
theorem dX1_passOn_111 : decode cX1_passOn 111 = .ok (.ifCond .eq 7, 3) := by decide +kernel
theorem dX1_passOn_114 : decode cX1_passOn 114 = .ok (.iconst 1, 1) := by decide +kernel
theorem dX1_passOn_115 : decode cX1_passOn 115 = .ok (.goto 4, 3) := by decide +kernel
theorem dX1_passOn_118 : decode cX1_passOn 118 = .ok (.iconst 0, 1) := by decide +kernel
theorem dX1_passOn_119 : decode cX1_passOn 119 = .ok (.ireturn, 1) := by decide +kernel
def wX1_passOn_L21 (post : Int32 → (Nat → Int64) → Prop) (K103 : Int64 → Int32 → (Nat → Int64) → Prop) (op : Int64) (p1 : Int32) (p2 : Int32) : Nat → Int64 → Int32 → (Nat → Int64) → Prop
  | 0, _, _, _ => False
  | n+1, i3, i5, dk' =>
    (((64 : Int32) ≤ i5) →
      K103 i3 i5 dk'
    ) ∧ (¬ ((64 : Int32) ≤ i5) →
      vp_in ((p2 * (64 : Int32)) + i5) 384 ∧
      ∀ x_1 : Int64, x_1 = (dk' ((p2 * (64 : Int32)) + i5).toNatClampNeg) →
      vp_in ((p1 * (64 : Int32)) + i5) 384 ∧
      ∀ x_2 : Int64, x_2 = (x_1 &&& (dk' ((p1 * (64 : Int32)) + i5).toNatClampNeg)) →
      vp_in ((p2 * (64 : Int32)) + i5) 384 ∧
      wX2_has (fun r_3 : Int32 =>
        ((r_3 = 0) →
          wX1_passOn_L21 post K103 op p1 p2 n i3 (i5 + 1) (vp_updL dk' ((p2 * (64 : Int32)) + i5).toNatClampNeg x_2)
        ) ∧ (¬ (r_3 = 0) →
          ∀ x_3 : Int64, x_3 = (i3 ||| (x_1 &&& (x_2 ^^^ (-1 : Int64)))) →
          wX1_passOn_L21 post K103 op p1 p2 n x_3 (i5 + 1) (vp_updL dk' ((p2 * (64 : Int32)) + i5).toNatClampNeg x_2)
        )
        ) op i5
    )
def wX1_passOn (post : Int32 → (Nat → Int64) → Prop) (dk : Nat → Int64) (op : Int64) (p1 : Int32) (p2 : Int32) : Prop :=
  wX2_isGuard (fun r_1 : Int32 =>
    ((r_1 = 0) →
      post (0 : Int32) dk
    ) ∧ (¬ (r_1 = 0) →
      wX2_isGuard (fun r_2 : Int32 =>
        ((¬ r_2 = 0) →
          ∃ nF, wX1_passOn_L21 post
            (fun i3 i5 dk' =>
              (((lg_cmp (i3 &&& op) (0 : Int64)) = 0) →
                post (0 : Int32) dk'
              ) ∧ (¬ ((lg_cmp (i3 &&& op) (0 : Int64)) = 0) →
                post (1 : Int32) dk'
              )
            )
            op p1 p2 nF (0 : Int64) (0 : Int32) dk
        ) ∧ ((r_2 = 0) →
          post (0 : Int32) dk
        )
        ) p2
    )
    ) p1
abbrev wl_X1_passOn : List Cond := .code yX1_passOn cX1_passOn 10 (some .boolean) :: lwg
abbrev rm_X1_passOn : Room := { frames := 1, cells := 0, slots := 0, locals := 22 }
set_option maxHeartbeats 4000000 in
set_option maxRecDepth 100000 in
theorem kX1_passOn {post : Int32 → (Nat → Int64) → Prop} (l : Launch) (G : GT) (s0 : Nat) (s1 : Nat) (s2 : Nat) (b0 : Nat) (b1 : Nat) (b2 : Nat) (b3 : Nat) (b4 : Nat) (b5 : Nat) (b6 : Nat) (dk : Nat → Int64) (wg : Nat → Int64) (op : Int64) (re : Int32) (kf : Nat → Int32) (ff : Nat → Int32) (sf : Nat → Int32) (df : Nat → Int32) (pf : Nat → Int64) (gf : Nat → Int64) (bn : Int32) (p1 : Int32) (p2 : Int32) (sz : Nat) (h : wX1_passOn post dk op p1 p2) : Met l yX1_passOn wl_X1_passOn rm_X1_passOn (va_Pc [.ref s0, .int p1, .int p2] (fun U => U.heap.size = sz ∧ PP G [(s0, .inr (4, [.ref b0, .ref s1, .ref s2, .long op, .int re])), (s1, .inl (G.2 1, 384, .inr (.inl dk))), (s2, .inl (G.2 1, 40, .inr (.inl wg))), (b0, .inr (3, [.ref b1, .ref b2, .ref b3, .ref b4, .ref b5, .ref b6, .int bn])), (b1, .inl (G.2 0, 40, .inl kf)), (b2, .inl (G.2 0, 40, .inl ff)), (b3, .inl (G.2 0, 40, .inl sf)), (b4, .inl (G.2 0, 40, .inl df)), (b5, .inl (G.2 1, 40, .inr (.inl pf))), (b6, .inl (G.2 1, 6, .inr (.inl gf)))] U.heap ∧ KK G U ∧ va_D (fun _ => True) [(s0, .inr (4, [.ref b0, .ref s1, .ref s2, .long op, .int re])), (s1, .inl (G.2 1, 384, .inr (.inl dk))), (s2, .inl (G.2 1, 40, .inr (.inl wg))), (b0, .inr (3, [.ref b1, .ref b2, .ref b3, .ref b4, .ref b5, .ref b6, .int bn])), (b1, .inl (G.2 0, 40, .inl kf)), (b2, .inl (G.2 0, 40, .inl ff)), (b3, .inl (G.2 0, 40, .inl sf)), (b4, .inl (G.2 0, 40, .inl df)), (b5, .inl (G.2 1, 40, .inr (.inl pf))), (b6, .inl (G.2 1, 6, .inr (.inl gf)))])) (va_Qi post (fun u t => PP G [(s0, .inr (4, [.ref b0, .ref s1, .ref s2, .long op, .int re])), (s1, .inl (G.2 1, 384, .inr (.inl u))), (s2, .inl (G.2 1, 40, .inr (.inl wg))), (b0, .inr (3, [.ref b1, .ref b2, .ref b3, .ref b4, .ref b5, .ref b6, .int bn])), (b1, .inl (G.2 0, 40, .inl kf)), (b2, .inl (G.2 0, 40, .inl ff)), (b3, .inl (G.2 0, 40, .inl sf)), (b4, .inl (G.2 0, 40, .inl df)), (b5, .inl (G.2 1, 40, .inr (.inl pf))), (b6, .inl (G.2 1, 6, .inr (.inl gf)))] t.heap ∧ va_D (va_A [(s0, .inr (4, [.ref b0, .ref s1, .ref s2, .long op, .int re])), (s1, .inl (G.2 1, 384, .inr (.inl dk))), (s2, .inl (G.2 1, 40, .inr (.inl wg))), (b0, .inr (3, [.ref b1, .ref b2, .ref b3, .ref b4, .ref b5, .ref b6, .int bn])), (b1, .inl (G.2 0, 40, .inl kf)), (b2, .inl (G.2 0, 40, .inl ff)), (b3, .inl (G.2 0, 40, .inl sf)), (b4, .inl (G.2 0, 40, .inl df)), (b5, .inl (G.2 1, 40, .inr (.inl pf))), (b6, .inl (G.2 1, 6, .inr (.inl gf)))] sz) [(s0, .inr (4, [.ref b0, .ref s1, .ref s2, .long op, .int re])), (s1, .inl (G.2 1, 384, .inr (.inl u))), (s2, .inl (G.2 1, 40, .inr (.inl wg))), (b0, .inr (3, [.ref b1, .ref b2, .ref b3, .ref b4, .ref b5, .ref b6, .int bn])), (b1, .inl (G.2 0, 40, .inl kf)), (b2, .inl (G.2 0, 40, .inl ff)), (b3, .inl (G.2 0, 40, .inl sf)), (b4, .inl (G.2 0, 40, .inl df)), (b5, .inl (G.2 1, 40, .inr (.inl pf))), (b6, .inl (G.2 1, 6, .inr (.inl gf)))]) (va_A [(s0, .inr (4, [.ref b0, .ref s1, .ref s2, .long op, .int re])), (s1, .inl (G.2 1, 384, .inr (.inl dk))), (s2, .inl (G.2 1, 40, .inr (.inl wg))), (b0, .inr (3, [.ref b1, .ref b2, .ref b3, .ref b4, .ref b5, .ref b6, .int bn])), (b1, .inl (G.2 0, 40, .inl kf)), (b2, .inl (G.2 0, 40, .inl ff)), (b3, .inl (G.2 0, 40, .inl sf)), (b4, .inl (G.2 0, 40, .inl df)), (b5, .inl (G.2 1, 40, .inr (.inl pf))), (b6, .inl (G.2 1, 6, .inr (.inl gf)))] sz)) 0 0 (va_A [(s0, .inr (4, [.ref b0, .ref s1, .ref s2, .long op, .int re])), (s1, .inl (G.2 1, 384, .inr (.inl dk))), (s2, .inl (G.2 1, 40, .inr (.inl wg))), (b0, .inr (3, [.ref b1, .ref b2, .ref b3, .ref b4, .ref b5, .ref b6, .int bn])), (b1, .inl (G.2 0, 40, .inl kf)), (b2, .inl (G.2 0, 40, .inl ff)), (b3, .inl (G.2 0, 40, .inl sf)), (b4, .inl (G.2 0, 40, .inl df)), (b5, .inl (G.2 1, 40, .inr (.inl pf))), (b6, .inl (G.2 1, 6, .inr (.inl gf)))] sz) := by
  refine Met.ofW (cc := cX1_passOn) (maxL := 10) (ret := (some .boolean)) (by decide) rfl ?_
  intro p e s m args below meth c s₁ B hml hv
  obtain ⟨rfl, hsz, hP, hKK, hD0⟩ := hv
  obtain ⟨hK, hN, hR, hFW, hNC⟩ := id hKK
  have hx := B.exec
  have hb := B.bytes
  have hr := B.returns
  have hts0 := atoms_spec (ws := wl_X1_passOn) B.pre
  have hts : ∀ w ∈ lwg, w.before ([.ref s0, .int p1, .int p2] : List Value).toArray s = true := fun w hw => hts0 w (List.mem_cons_of_mem _ hw)
  have hown : s.vm.findClass RX1 = some m.cls := findClass_of_methodNamed B.named
  have hlocks := B.notSynchronized
  subst hsz
  have hD := hD0.self (sz := s.heap.size)
  generalize hAe : va_A [(s0, .inr (4, [.ref b0, .ref s1, .ref s2, .long op, .int re])), (s1, .inl (G.2 1, 384, .inr (.inl dk))), (s2, .inl (G.2 1, 40, .inr (.inl wg))), (b0, .inr (3, [.ref b1, .ref b2, .ref b3, .ref b4, .ref b5, .ref b6, .int bn])), (b1, .inl (G.2 0, 40, .inl kf)), (b2, .inl (G.2 0, 40, .inl ff)), (b3, .inl (G.2 0, 40, .inl sf)), (b4, .inl (G.2 0, 40, .inl df)), (b5, .inl (G.2 1, 40, .inr (.inl pf))), (b6, .inl (G.2 1, 6, .inr (.inl gf)))] s.heap.size = A at hD ⊢
  have hA : ∀ q : Nat, s.heap.size ≤ q → A q := fun q h => by rw [← hAe]; exact Or.inr h
  have hS : va_S A s.heap s.heap [] := va_S.rf
  obtain ⟨QC, hQC⟩ : ∃ Z, Z = (va_Qi post (fun u t => PP G [(s0, .inr (4, [.ref b0, .ref s1, .ref s2, .long op, .int re])), (s1, .inl (G.2 1, 384, .inr (.inl u))), (s2, .inl (G.2 1, 40, .inr (.inl wg))), (b0, .inr (3, [.ref b1, .ref b2, .ref b3, .ref b4, .ref b5, .ref b6, .int bn])), (b1, .inl (G.2 0, 40, .inl kf)), (b2, .inl (G.2 0, 40, .inl ff)), (b3, .inl (G.2 0, 40, .inl sf)), (b4, .inl (G.2 0, 40, .inl df)), (b5, .inl (G.2 1, 40, .inr (.inl pf))), (b6, .inl (G.2 1, 6, .inr (.inl gf)))] t.heap ∧ va_D A [(s0, .inr (4, [.ref b0, .ref s1, .ref s2, .long op, .int re])), (s1, .inl (G.2 1, 384, .inr (.inl u))), (s2, .inl (G.2 1, 40, .inr (.inl wg))), (b0, .inr (3, [.ref b1, .ref b2, .ref b3, .ref b4, .ref b5, .ref b6, .int bn])), (b1, .inl (G.2 0, 40, .inl kf)), (b2, .inl (G.2 0, 40, .inl ff)), (b3, .inl (G.2 0, 40, .inl sf)), (b4, .inl (G.2 0, 40, .inl df)), (b5, .inl (G.2 1, 40, .inr (.inl pf))), (b6, .inl (G.2 1, 6, .inr (.inl gf)))]) A) := ⟨_, rfl⟩
  rw [← hQC]
  have hP : PP G [(s0, .inr (4, [.ref b0, .ref s1, .ref s2, .long op, .int re])), (s1, .inl (G.2 1, 384, .inr (.inl dk))), (s2, .inl (G.2 1, 40, .inr (.inl wg))), (b0, .inr (3, [.ref b1, .ref b2, .ref b3, .ref b4, .ref b5, .ref b6, .int bn])), (b1, .inl (G.2 0, 40, .inl kf)), (b2, .inl (G.2 0, 40, .inl ff)), (b3, .inl (G.2 0, 40, .inl sf)), (b4, .inl (G.2 0, 40, .inl df)), (b5, .inl (G.2 1, 40, .inr (.inl pf))), (b6, .inl (G.2 1, 6, .inr (.inl gf)))] s.heap := hP
  have hl := lv_entry ([.ref s0, .int p1, .int p2]) (n := 10) (Nat.le_of_ble_eq_true rfl)
  rw [lg_entry_eq]
  generalize (lg_sl ([.ref s0, .int p1, .int p2]) ++ List.replicate (10 - (lg_sl ([.ref s0, .int p1, .int p2])).length) Slot.unset).toArray = ls at hl ⊢
  have hl : lv_has ls 10 [(0, .ref s0), (1, .int p1), (2, .int p2)] := hl
  have loop21 : ∀ (K103 : Int64 → Int32 → (Nat → Int64) → Prop), True → (∀ (i3 : Int64) (i5 : Int32) (dk' : Nat → Int64) (ls : Array Slot) (H : Heap) (locs : List Loc), lv_has ls 10 [(0, .ref s0), (1, .int p1), (2, .int p2), (3, .long i3), (5, .int i5)] → PP G [(s0, .inr (4, [.ref b0, .ref s1, .ref s2, .long op, .int re])), (s1, .inl (G.2 1, 384, .inr (.inl dk'))), (s2, .inl (G.2 1, 40, .inr (.inl wg))), (b0, .inr (3, [.ref b1, .ref b2, .ref b3, .ref b4, .ref b5, .ref b6, .int bn])), (b1, .inl (G.2 0, 40, .inl kf)), (b2, .inl (G.2 0, 40, .inl ff)), (b3, .inl (G.2 0, 40, .inl sf)), (b4, .inl (G.2 0, 40, .inl df)), (b5, .inl (G.2 1, 40, .inr (.inl pf))), (b6, .inl (G.2 1, 6, .inr (.inl gf)))] H → va_D A [(s0, .inr (4, [.ref b0, .ref s1, .ref s2, .long op, .int re])), (s1, .inl (G.2 1, 384, .inr (.inl dk'))), (s2, .inl (G.2 1, 40, .inr (.inl wg))), (b0, .inr (3, [.ref b1, .ref b2, .ref b3, .ref b4, .ref b5, .ref b6, .int bn])), (b1, .inl (G.2 0, 40, .inl kf)), (b2, .inl (G.2 0, 40, .inl ff)), (b3, .inl (G.2 0, 40, .inl sf)), (b4, .inl (G.2 0, 40, .inl df)), (b5, .inl (G.2 1, 40, .inr (.inl pf))), (b6, .inl (G.2 1, 6, .inr (.inl gf)))] → va_S A s.heap H locs → K103 i3 i5 dk' → W p l e (headSpec (wl_X1_passOn) rm_X1_passOn).room s m ([.ref s0, .int p1, .int p2] : List Value).toArray below meth c H locs 0 0 (MQ below QC ([.ref s0, .int p1, .int p2] : List Value).toArray s 0 0 A) (F0 m 103 ls [])) → ∀ (n : Nat) (i3 : Int64) (i5 : Int32) (dk' : Nat → Int64) (ls : Array Slot) (H : Heap) (locs : List Loc), lv_has ls 10 [(0, .ref s0), (1, .int p1), (2, .int p2), (3, .long i3), (5, .int i5)] → PP G [(s0, .inr (4, [.ref b0, .ref s1, .ref s2, .long op, .int re])), (s1, .inl (G.2 1, 384, .inr (.inl dk'))), (s2, .inl (G.2 1, 40, .inr (.inl wg))), (b0, .inr (3, [.ref b1, .ref b2, .ref b3, .ref b4, .ref b5, .ref b6, .int bn])), (b1, .inl (G.2 0, 40, .inl kf)), (b2, .inl (G.2 0, 40, .inl ff)), (b3, .inl (G.2 0, 40, .inl sf)), (b4, .inl (G.2 0, 40, .inl df)), (b5, .inl (G.2 1, 40, .inr (.inl pf))), (b6, .inl (G.2 1, 6, .inr (.inl gf)))] H → va_D A [(s0, .inr (4, [.ref b0, .ref s1, .ref s2, .long op, .int re])), (s1, .inl (G.2 1, 384, .inr (.inl dk'))), (s2, .inl (G.2 1, 40, .inr (.inl wg))), (b0, .inr (3, [.ref b1, .ref b2, .ref b3, .ref b4, .ref b5, .ref b6, .int bn])), (b1, .inl (G.2 0, 40, .inl kf)), (b2, .inl (G.2 0, 40, .inl ff)), (b3, .inl (G.2 0, 40, .inl sf)), (b4, .inl (G.2 0, 40, .inl df)), (b5, .inl (G.2 1, 40, .inr (.inl pf))), (b6, .inl (G.2 1, 6, .inr (.inl gf)))] → va_S A s.heap H locs → wX1_passOn_L21 post K103 op p1 p2 n i3 i5 dk' → W p l e (headSpec (wl_X1_passOn) rm_X1_passOn).room s m ([.ref s0, .int p1, .int p2] : List Value).toArray below meth c H locs 0 0 (MQ below QC ([.ref s0, .int p1, .int p2] : List Value).toArray s 0 0 A) (F0 m 21 ls []) := by
    intro K103 _ hexit103 n
    induction n with
    | zero => intro i3 i5 dk' ls H locs hl hP hD hS h; exact False.elim h
    | succ n ih =>
      intro i3 i5 dk' ls H locs hl hP hD hS h
      refine lv_iload hx hb dX1_passOn_21 (lv_at hl 4 rfl) ?_
      refine lv_bipush (v := 64) hx hb dX1_passOn_23 (by decide) ?_
      refine lv_icmp_ge (tgt := 103) hx hb dX1_passOn_25 (by decide) (fun hc => ?_) (fun hc => ?_)
      · have h := h.1 hc
        have hl := lv_sub (l' := [(0, .ref s0), (1, .int p1), (2, .int p2), (3, .long i3), (5, .int i5)]) hl [0, 1, 2, 3, 4] rfl
        exact hexit103 _ _ _ ls H locs hl hP hD hS h
      · have h := h.2 hc
        refine lv_aload_n hx hb dX1_passOn_28 rfl (lv_at hl 0 rfl) ?_
        refine va_get (D := G.1) (ci := 4) (v := .ref s1) (C := RX1) (T := TX1) (N := 5) hx hb hts igX1 hown hK hP 0 rfl rfl 1 (by decide) (hts _ q74) (fun _ h9 => h9) rfl dX1_passOn_29 ?_
        refine lv_iload_n hx hb dX1_passOn_32 rfl (lv_at hl 2 rfl) ?_
        refine lv_bipush (v := 64) hx hb dX1_passOn_33 (by decide) ?_
        refine lv_imul hx hb dX1_passOn_35 ?_
        refine lv_iload hx hb dX1_passOn_36 (lv_at hl 4 rfl) ?_
        refine lv_iadd hx hb dX1_passOn_38 ?_
        obtain ⟨hin, h⟩ := h
        refine va_lald (D := G.1) hx hb hK hP 1 1 rfl rfl hin dX1_passOn_39 ?_
        refine lv_topl (fun x_1 ex_1 => ?_)
        have h := h x_1 ex_1
        refine lv_lstore hx hb dX1_passOn_40 hl (Nat.le_of_ble_eq_true rfl) rfl (fun ls hl => ?_)
        have hl : lv_has ls 10 [(6, .long x_1), (0, .ref s0), (1, .int p1), (2, .int p2), (3, .long i3), (5, .int i5)] := hl
        refine lv_lload hx hb dX1_passOn_42 (lv_at hl 0 rfl) ?_
        refine lv_aload_n hx hb dX1_passOn_44 rfl (lv_at hl 1 rfl) ?_
        refine va_get (D := G.1) (ci := 4) (v := .ref s1) (C := RX1) (T := TX1) (N := 5) hx hb hts igX1 hown hK hP 0 rfl rfl 1 (by decide) (hts _ q74) (fun _ h9 => h9) rfl dX1_passOn_45 ?_
        refine lv_iload_n hx hb dX1_passOn_48 rfl (lv_at hl 2 rfl) ?_
        refine lv_bipush (v := 64) hx hb dX1_passOn_49 (by decide) ?_
        refine lv_imul hx hb dX1_passOn_51 ?_
        refine lv_iload hx hb dX1_passOn_52 (lv_at hl 5 rfl) ?_
        refine lv_iadd hx hb dX1_passOn_54 ?_
        obtain ⟨hin, h⟩ := h
        refine va_lald (D := G.1) hx hb hK hP 1 1 rfl rfl hin dX1_passOn_55 ?_
        refine lv_land hx hb dX1_passOn_56 ?_
        refine lv_topl (fun x_2 ex_2 => ?_)
        have h := h x_2 ex_2
        refine lv_lstore hx hb dX1_passOn_57 hl (Nat.le_of_ble_eq_true rfl) rfl (fun ls hl => ?_)
        have hl : lv_has ls 10 [(8, .long x_2), (6, .long x_1), (0, .ref s0), (1, .int p1), (2, .int p2), (3, .long i3), (5, .int i5)] := hl
        refine lv_aload_n hx hb dX1_passOn_59 rfl (lv_at hl 2 rfl) ?_
        refine va_get (D := G.1) (ci := 4) (v := .ref s1) (C := RX1) (T := TX1) (N := 5) hx hb hts igX1 hown hK hP 0 rfl rfl 1 (by decide) (hts _ q74) (fun _ h9 => h9) rfl dX1_passOn_60 ?_
        refine lv_iload_n hx hb dX1_passOn_63 rfl (lv_at hl 4 rfl) ?_
        refine lv_bipush (v := 64) hx hb dX1_passOn_64 (by decide) ?_
        refine lv_imul hx hb dX1_passOn_66 ?_
        refine lv_iload hx hb dX1_passOn_67 (lv_at hl 6 rfl) ?_
        refine lv_iadd hx hb dX1_passOn_69 ?_
        refine lv_lload hx hb dX1_passOn_70 (lv_at hl 0 rfl) ?_
        obtain ⟨hin, h⟩ := h
        refine va_last (D := G.1) hx hb hK hP hD hS 1 1 rfl rfl hin dX1_passOn_72 (fun H locs hP hD hS => ?_)
        have hP : PP G [(s0, .inr (4, [.ref b0, .ref s1, .ref s2, .long op, .int re])), (s1, .inl (G.2 1, 384, .inr (.inl (vp_updL dk' ((p2 * (64 : Int32)) + i5).toNatClampNeg x_2)))), (s2, .inl (G.2 1, 40, .inr (.inl wg))), (b0, .inr (3, [.ref b1, .ref b2, .ref b3, .ref b4, .ref b5, .ref b6, .int bn])), (b1, .inl (G.2 0, 40, .inl kf)), (b2, .inl (G.2 0, 40, .inl ff)), (b3, .inl (G.2 0, 40, .inl sf)), (b4, .inl (G.2 0, 40, .inl df)), (b5, .inl (G.2 1, 40, .inr (.inl pf))), (b6, .inl (G.2 1, 6, .inr (.inl gf)))] H := hP
        have hD : va_D A [(s0, .inr (4, [.ref b0, .ref s1, .ref s2, .long op, .int re])), (s1, .inl (G.2 1, 384, .inr (.inl (vp_updL dk' ((p2 * (64 : Int32)) + i5).toNatClampNeg x_2)))), (s2, .inl (G.2 1, 40, .inr (.inl wg))), (b0, .inr (3, [.ref b1, .ref b2, .ref b3, .ref b4, .ref b5, .ref b6, .int bn])), (b1, .inl (G.2 0, 40, .inl kf)), (b2, .inl (G.2 0, 40, .inl ff)), (b3, .inl (G.2 0, 40, .inl sf)), (b4, .inl (G.2 0, 40, .inl df)), (b5, .inl (G.2 1, 40, .inr (.inl pf))), (b6, .inl (G.2 1, 6, .inr (.inl gf)))] := hD
        refine lv_aload_n hx hb dX1_passOn_73 rfl (lv_at hl 2 rfl) ?_
        refine va_get (D := G.1) (ci := 4) (v := .long op) (C := RX1) (T := TX1) (N := 5) hx hb hts igX1 hown hK hP 0 rfl rfl 3 (by decide) (hts _ q76) (fun _ h9 => h9) rfl dX1_passOn_74 ?_
        refine lv_iload hx hb dX1_passOn_77 (lv_at hl 6 rfl) ?_
        have hPc := va_P.sub (ws' := []) hP [] rfl
        refine rdI (va_runSN (As := [.long op, .int i5]) (rest := []) ⟨hx, hb, hml, hown, hts⟩ (kX2_has l G op i5 h) ⟨va_cnB 2 hts (gdC q109) rfl rfl rfl (hN _ n107) (hts _ q1) (by decide +kernel) ⟨Nat.le_of_ble_eq_true rfl, Nat.le_of_ble_eq_true rfl⟩, hts _ q108, trivial⟩ (preS hPc hKK) rfl rfl hl.1 rfl (lv_room (Nat.le_of_ble_eq_true rfl)) dX1_passOn_79 ⟨Nat.zero_le _, Nat.zero_le _⟩) (fun r_3 h => ?_)
        refine lv_if_eq (tgt := 97) hx hb dX1_passOn_82 (by decide) (fun hc => ?_) (fun hc => ?_)
        · have h := h.1 hc
          refine lv_iinc (v := (i5 + 1)) hx hb dX1_passOn_97 hl (k := 6) rfl (by rw [show Int32.ofInt 1 = 1 from by decide]) (Nat.le_of_ble_eq_true rfl) rfl (fun ls hl => ?_)
          have hl : lv_has ls 10 [(5, .int (i5 + 1)), (8, .long x_2), (6, .long x_1), (0, .ref s0), (1, .int p1), (2, .int p2), (3, .long i3)] := hl
          refine lv_goto (tgt := 21) hx hb dX1_passOn_100 (by decide) ?_
          have hl := lv_sub (l' := [(0, .ref s0), (1, .int p1), (2, .int p2), (3, .long i3), (5, .int (i5 + 1))]) hl [3, 4, 5, 6, 0] rfl
          exact ih _ _ _ ls H locs hl hP hD hS h
        · have h := h.2 hc
          refine lv_lload_n hx hb dX1_passOn_85 rfl (lv_at hl 5 rfl) ?_
          refine lv_lload hx hb dX1_passOn_86 (lv_at hl 1 rfl) ?_
          refine lv_lload hx hb dX1_passOn_88 (lv_at hl 0 rfl) ?_
          refine lv_ldc2 hx hb hown (hts _ q95) dX1_passOn_90 ?_
          refine lv_lxor hx hb dX1_passOn_93 ?_
          refine lv_land hx hb dX1_passOn_94 ?_
          refine lv_lor hx hb dX1_passOn_95 ?_
          refine lv_topl (fun x_3 ex_3 => ?_)
          have h := h x_3 ex_3
          refine lv_lstore_n hx hb dX1_passOn_96 rfl hl (Nat.le_of_ble_eq_true rfl) rfl (fun ls hl => ?_)
          have hl : lv_has ls 10 [(3, .long x_3), (8, .long x_2), (6, .long x_1), (0, .ref s0), (1, .int p1), (2, .int p2), (5, .int i5)] := hl
          refine lv_iinc (v := (i5 + 1)) hx hb dX1_passOn_97 hl (k := 6) rfl (by rw [show Int32.ofInt 1 = 1 from by decide]) (Nat.le_of_ble_eq_true rfl) rfl (fun ls hl => ?_)
          have hl : lv_has ls 10 [(5, .int (i5 + 1)), (3, .long x_3), (8, .long x_2), (6, .long x_1), (0, .ref s0), (1, .int p1), (2, .int p2)] := hl
          refine lv_goto (tgt := 21) hx hb dX1_passOn_100 (by decide) ?_
          have hl := lv_sub (l' := [(0, .ref s0), (1, .int p1), (2, .int p2), (3, .long x_3), (5, .int (i5 + 1))]) hl [4, 5, 6, 1, 0] rfl
          exact ih _ _ _ ls H locs hl hP hD hS h
  refine lv_iload_n hx hb dX1_passOn_0 rfl (lv_at hl 1 rfl) ?_
  have hPc := va_P.sub (ws' := []) hP [] rfl
  refine rdI (va_runSN (As := [.int p1]) (rest := []) ⟨hx, hb, hml, hown, hts⟩ (kX2_isGuard l G p1 h) ⟨va_cnB 1 hts (gdC q348) rfl rfl rfl (hN _ n474) (hts _ q1) (by decide +kernel) ⟨Nat.le_of_ble_eq_true rfl, Nat.le_of_ble_eq_true rfl⟩, hts _ q347, trivial⟩ (preS hPc hKK) rfl rfl hl.1 rfl (lv_room (Nat.le_of_ble_eq_true rfl)) dX1_passOn_1 ⟨Nat.zero_le _, Nat.zero_le _⟩) (fun r_1 h => ?_)
  refine lv_if_eq (tgt := 14) hx hb dX1_passOn_4 (by decide) (fun hc => ?_) (fun hc => ?_)
  · have h := h.1 hc
    refine lv_iconst (v := 0) hx hb dX1_passOn_14 (by decide) ?_
    subst hQC; exact W.zret (v := (0 : Int32)) hx hb hr (by decide) (fun t ht hW => ⟨⟨_, dk, rfl, h, by rw [ht]; exact hP, hD⟩, hS.F ht⟩) hS.2.2 dX1_passOn_15
  · have h := h.2 hc
    refine lv_iload_n hx hb dX1_passOn_7 rfl (lv_at hl 2 rfl) ?_
    have hPc := va_P.sub (ws' := []) hP [] rfl
    refine rdI (va_runSN (As := [.int p2]) (rest := []) ⟨hx, hb, hml, hown, hts⟩ (kX2_isGuard l G p2 h) ⟨va_cnB 1 hts (gdC q348) rfl rfl rfl (hN _ n474) (hts _ q1) (by decide +kernel) ⟨Nat.le_of_ble_eq_true rfl, Nat.le_of_ble_eq_true rfl⟩, hts _ q347, trivial⟩ (preS hPc hKK) rfl rfl hl.1 rfl (lv_room (Nat.le_of_ble_eq_true rfl)) dX1_passOn_8 ⟨Nat.zero_le _, Nat.zero_le _⟩) (fun r_2 h => ?_)
    refine lv_if_ne (tgt := 16) hx hb dX1_passOn_11 (by decide) (fun hc => ?_) (fun hc => ?_)
    · have h := h.1 hc
      refine lv_lconst (v := 0) hx hb dX1_passOn_16 (by decide) ?_
      refine lv_lstore_n hx hb dX1_passOn_17 rfl hl (Nat.le_of_ble_eq_true rfl) rfl (fun ls hl => ?_)
      have hl : lv_has ls 10 [(3, .long (0 : Int64)), (0, .ref s0), (1, .int p1), (2, .int p2)] := hl
      refine lv_iconst (v := 0) hx hb dX1_passOn_18 (by decide) ?_
      refine lv_istore hx hb dX1_passOn_19 hl (Nat.le_of_ble_eq_true rfl) rfl (fun ls hl => ?_)
      have hl : lv_has ls 10 [(5, .int (0 : Int32)), (3, .long (0 : Int64)), (0, .ref s0), (1, .int p1), (2, .int p2)] := hl
      have hl := lv_sub (l' := [(0, .ref s0), (1, .int p1), (2, .int p2), (3, .long (0 : Int64)), (5, .int (0 : Int32))]) hl [2, 3, 4, 1, 0] rfl
      obtain ⟨nF, h⟩ := h
      refine loop21 _ trivial ?_ nF (0 : Int64) (0 : Int32) dk _ _ _ hl hP hD hS h
      · intro i3 i5 dk' ls H locs hl hP hD hS h
        refine lv_lload_n hx hb dX1_passOn_103 rfl (lv_at hl 3 rfl) ?_
        refine lv_aload_n hx hb dX1_passOn_104 rfl (lv_at hl 0 rfl) ?_
        refine va_get (D := G.1) (ci := 4) (v := .long op) (C := RX1) (T := TX1) (N := 5) hx hb hts igX1 hown hK hP 0 rfl rfl 3 (by decide) (hts _ q76) (fun _ h9 => h9) rfl dX1_passOn_105 ?_
        refine lv_land hx hb dX1_passOn_108 ?_
        refine lv_lconst (v := 0) hx hb dX1_passOn_109 (by decide) ?_
        refine W.lcmp hx hb dX1_passOn_110 ?_
        refine lv_if_eq (tgt := 118) hx hb dX1_passOn_111 (by decide) (fun hc => ?_) (fun hc => ?_)
        · have h := h.1 hc
          refine lv_iconst (v := 0) hx hb dX1_passOn_118 (by decide) ?_
          subst hQC; exact W.zret (v := (0 : Int32)) hx hb hr (by decide) (fun t ht hW => ⟨⟨_, dk', rfl, h, by rw [ht]; exact hP, hD⟩, hS.F ht⟩) hS.2.2 dX1_passOn_119
        · have h := h.2 hc
          refine lv_iconst (v := 1) hx hb dX1_passOn_114 (by decide) ?_
          refine lv_goto (tgt := 119) hx hb dX1_passOn_115 (by decide) ?_
          subst hQC; exact W.zret (v := (1 : Int32)) hx hb hr (by decide) (fun t ht hW => ⟨⟨_, dk', rfl, h, by rw [ht]; exact hP, hD⟩, hS.F ht⟩) hS.2.2 dX1_passOn_119
    · have h := h.2 hc
      refine lv_iconst (v := 0) hx hb dX1_passOn_14 (by decide) ?_
      subst hQC; exact W.zret (v := (0 : Int32)) hx hb hr (by decide) (fun t ht hW => ⟨⟨_, dk, rfl, h, by rw [ht]; exact hP, hD⟩, hS.F ht⟩) hS.2.2 dX1_passOn_15
theorem dX1_turn_0 : decode cX1_turn 0 = .ok (.iload_n 1, 1) := by decide +kernel
theorem dX1_turn_1 : decode cX1_turn 1 = .ok (.invokestatic 56, 3) := by decide +kernel
theorem dX1_turn_4 : decode cX1_turn 4 = .ok (.ifCond .ne 4, 3) := by decide +kernel
theorem dX1_turn_7 : decode cX1_turn 7 = .ok (.return_, 1) := by decide +kernel
theorem dX1_turn_8 : decode cX1_turn 8 = .ok (.iconst 1, 1) := by decide +kernel
theorem dX1_turn_9 : decode cX1_turn 9 = .ok (.iload_n 1, 1) := by decide +kernel
theorem dX1_turn_10 : decode cX1_turn 10 = .ok (.ishl, 1) := by decide +kernel
theorem dX1_turn_11 : decode cX1_turn 11 = .ok (.istore_n 2, 1) := by decide +kernel
theorem dX1_turn_12 : decode cX1_turn 12 = .ok (.aload_n 0, 1) := by decide +kernel
theorem dX1_turn_13 : decode cX1_turn 13 = .ok (.dup, 1) := by decide +kernel
theorem dX1_turn_14 : decode cX1_turn 14 = .ok (.getfield 22, 3) := by decide +kernel
theorem dX1_turn_17 : decode cX1_turn 17 = .ok (.iload_n 2, 1) := by decide +kernel
theorem dX1_turn_18 : decode cX1_turn 18 = .ok (.ixor, 1) := by decide +kernel
theorem dX1_turn_19 : decode cX1_turn 19 = .ok (.putfield 22, 3) := by decide +kernel
theorem dX1_turn_22 : decode cX1_turn 22 = .ok (.aload_n 0, 1) := by decide +kernel
theorem dX1_turn_23 : decode cX1_turn 23 = .ok (.aload_n 0, 1) := by decide +kernel
theorem dX1_turn_24 : decode cX1_turn 24 = .ok (.getfield 28, 3) := by decide +kernel
theorem dX1_turn_27 : decode cX1_turn 27 = .ok (.iload_n 1, 1) := by decide +kernel
theorem dX1_turn_28 : decode cX1_turn 28 = .ok (.invokestatic 59, 3) := by decide +kernel
theorem dX1_turn_31 : decode cX1_turn 31 = .ok (.putfield 28, 3) := by decide +kernel
theorem dX1_turn_34 : decode cX1_turn 34 = .ok (.iconst 0, 1) := by decide +kernel
theorem dX1_turn_35 : decode cX1_turn 35 = .ok (.istore_n 3, 1) := by decide +kernel
theorem dX1_turn_36 : decode cX1_turn 36 = .ok (.iload_n 3, 1) := by decide +kernel
theorem dX1_turn_37 : decode cX1_turn 37 = .ok (.bipush 6, 2) := by decide +kernel
theorem dX1_turn_39 : decode cX1_turn 39 = .ok (.if_icmp .ge 92, 3) := by decide +kernel
theorem dX1_turn_42 : decode cX1_turn 42 = .ok (.iconst 0, 1) := by decide +kernel
theorem dX1_turn_43 : decode cX1_turn 43 = .ok (.istore 4, 2) := by decide +kernel
theorem dX1_turn_45 : decode cX1_turn 45 = .ok (.iload 4, 2) := by decide +kernel
theorem dX1_turn_47 : decode cX1_turn 47 = .ok (.bipush 64, 2) := by decide +kernel
theorem dX1_turn_49 : decode cX1_turn 49 = .ok (.if_icmp .ge 76, 3) := by decide +kernel
theorem dX1_turn_52 : decode cX1_turn 52 = .ok (.iload 4, 2) := by decide +kernel
theorem dX1_turn_54 : decode cX1_turn 54 = .ok (.iload_n 2, 1) := by decide +kernel
theorem dX1_turn_55 : decode cX1_turn 55 = .ok (.iand, 1) := by decide +kernel
theorem dX1_turn_56 : decode cX1_turn 56 = .ok (.ifCond .ne 63, 3) := by decide +kernel
theorem dX1_turn_59 : decode cX1_turn 59 = .ok (.iload_n 3, 1) := by decide +kernel
theorem dX1_turn_60 : decode cX1_turn 60 = .ok (.bipush 64, 2) := by decide +kernel
theorem dX1_turn_62 : decode cX1_turn 62 = .ok (.imul, 1) := by decide +kernel
theorem dX1_turn_63 : decode cX1_turn 63 = .ok (.iload 4, 2) := by decide +kernel
theorem dX1_turn_65 : decode cX1_turn 65 = .ok (.iadd, 1) := by decide +kernel
theorem dX1_turn_66 : decode cX1_turn 66 = .ok (.istore 5, 2) := by decide +kernel
theorem dX1_turn_68 : decode cX1_turn 68 = .ok (.iload_n 3, 1) := by decide +kernel
theorem dX1_turn_69 : decode cX1_turn 69 = .ok (.bipush 64, 2) := by decide +kernel
theorem dX1_turn_71 : decode cX1_turn 71 = .ok (.imul, 1) := by decide +kernel
theorem dX1_turn_72 : decode cX1_turn 72 = .ok (.iload 4, 2) := by decide +kernel
theorem dX1_turn_74 : decode cX1_turn 74 = .ok (.iload_n 2, 1) := by decide +kernel
theorem dX1_turn_75 : decode cX1_turn 75 = .ok (.ior, 1) := by decide +kernel
theorem dX1_turn_76 : decode cX1_turn 76 = .ok (.iadd, 1) := by decide +kernel
theorem dX1_turn_77 : decode cX1_turn 77 = .ok (.istore 6, 2) := by decide +kernel
theorem dX1_turn_79 : decode cX1_turn 79 = .ok (.aload_n 0, 1) := by decide +kernel
theorem dX1_turn_80 : decode cX1_turn 80 = .ok (.getfield 9, 3) := by decide +kernel
theorem dX1_turn_83 : decode cX1_turn 83 = .ok (.iload 5, 2) := by decide +kernel
theorem dX1_turn_85 : decode cX1_turn 85 = .ok (.laload, 1) := by decide +kernel
theorem dX1_turn_86 : decode cX1_turn 86 = .ok (.iload_n 1, 1) := by decide +kernel
theorem dX1_turn_87 : decode cX1_turn 87 = .ok (.invokestatic 59, 3) := by decide +kernel
theorem dX1_turn_90 : decode cX1_turn 90 = .ok (.lstore 7, 2) := by decide +kernel
theorem dX1_turn_92 : decode cX1_turn 92 = .ok (.aload_n 0, 1) := by decide +kernel
theorem dX1_turn_93 : decode cX1_turn 93 = .ok (.getfield 9, 3) := by decide +kernel
theorem dX1_turn_96 : decode cX1_turn 96 = .ok (.iload 5, 2) := by decide +kernel
theorem dX1_turn_98 : decode cX1_turn 98 = .ok (.aload_n 0, 1) := by decide +kernel
theorem dX1_turn_99 : decode cX1_turn 99 = .ok (.getfield 9, 3) := by decide +kernel
theorem dX1_turn_102 : decode cX1_turn 102 = .ok (.iload 6, 2) := by decide +kernel
theorem dX1_turn_104 : decode cX1_turn 104 = .ok (.laload, 1) := by decide +kernel
theorem dX1_turn_105 : decode cX1_turn 105 = .ok (.iload_n 1, 1) := by decide +kernel
theorem dX1_turn_106 : decode cX1_turn 106 = .ok (.invokestatic 59, 3) := by decide +kernel
theorem dX1_turn_109 : decode cX1_turn 109 = .ok (.lastore, 1) := by decide +kernel
theorem dX1_turn_110 : decode cX1_turn 110 = .ok (.aload_n 0, 1) := by decide +kernel
theorem dX1_turn_111 : decode cX1_turn 111 = .ok (.getfield 9, 3) := by decide +kernel
theorem dX1_turn_114 : decode cX1_turn 114 = .ok (.iload 6, 2) := by decide +kernel
theorem dX1_turn_116 : decode cX1_turn 116 = .ok (.lload 7, 2) := by decide +kernel
theorem dX1_turn_118 : decode cX1_turn 118 = .ok (.lastore, 1) := by decide +kernel
theorem dX1_turn_119 : decode cX1_turn 119 = .ok (.iinc 4 1, 3) := by decide +kernel
theorem dX1_turn_122 : decode cX1_turn 122 = .ok (.goto (-77), 3) := by decide +kernel
theorem dX1_turn_125 : decode cX1_turn 125 = .ok (.iinc 3 1, 3) := by decide +kernel
theorem dX1_turn_128 : decode cX1_turn 128 = .ok (.goto (-92), 3) := by decide +kernel
theorem dX1_turn_131 : decode cX1_turn 131 = .ok (.return_, 1) := by decide +kernel
def wX1_turn_L45 (post : (Nat → Int64) × Int64 × Int32 → Prop) (K125 : Int32 → (Nat → Int64) → Prop) (p1 : Int32) (i3 : Int32) : Nat → Int32 → (Nat → Int64) → Prop
  | 0, _, _ => False
  | n+1, i4, dk' =>
    (((64 : Int32) ≤ i4) →
      K125 i4 dk'
    ) ∧ (¬ ((64 : Int32) ≤ i4) →
      ((¬ (i4 &&& ((1 : Int32) <<< (p1 &&& 31))) = 0) →
        wX1_turn_L45 post K125 p1 i3 n (i4 + 1) dk'
      ) ∧ (((i4 &&& ((1 : Int32) <<< (p1 &&& 31))) = 0) →
        ∀ x_1 : Int32, x_1 = ((i3 * (64 : Int32)) + (i4 ||| ((1 : Int32) <<< (p1 &&& 31)))) →
        vp_in ((i3 * (64 : Int32)) + i4) 384 ∧
        wX2_turned (fun r_3 : Int64 =>
          vp_in x_1 384 ∧
          wX2_turned (fun r_4 : Int64 =>
            vp_in ((i3 * (64 : Int32)) + i4) 384 ∧
            vp_in x_1 384 ∧
            wX1_turn_L45 post K125 p1 i3 n (i4 + 1) (vp_updL (vp_updL dk' ((i3 * (64 : Int32)) + i4).toNatClampNeg r_4) x_1.toNatClampNeg r_3)
            ) (dk' x_1.toNatClampNeg) p1
          ) (dk' ((i3 * (64 : Int32)) + i4).toNatClampNeg) p1
      )
    )
def wX1_turn_L36 (post : (Nat → Int64) × Int64 × Int32 → Prop) (K131 : Int32 → (Nat → Int64) → Prop) (p1 : Int32) : Nat → Int32 → (Nat → Int64) → Prop
  | 0, _, _ => False
  | n+1, i3, dk' =>
    (((6 : Int32) ≤ i3) →
      K131 i3 dk'
    ) ∧ (¬ ((6 : Int32) ≤ i3) →
      ∃ nF, wX1_turn_L45 post
        (fun i4 dk' =>
          wX1_turn_L36 post K131 p1 n (i3 + 1) dk'
        )
        p1 i3 nF (0 : Int32) dk'
    )
def wX1_turn (post : (Nat → Int64) × Int64 × Int32 → Prop) (dk : Nat → Int64) (op : Int64) (re : Int32) (p1 : Int32) : Prop :=
  wX2_isFact (fun r_1 : Int32 =>
    ((¬ r_1 = 0) →
      wX2_turned (fun r_2 : Int64 =>
        ∃ nF, wX1_turn_L36 post
          (fun i3 dk' =>
            post (dk', r_2, (re ^^^ ((1 : Int32) <<< (p1 &&& 31))))
          )
          p1 nF (0 : Int32) dk
        ) op p1
    ) ∧ ((r_1 = 0) →
      post (dk, op, re)
    )
    ) p1
abbrev wl_X1_turn : List Cond := .code yX1_turn cX1_turn 9 none :: lwg
abbrev rm_X1_turn : Room := { frames := 3, cells := 0, slots := 0, locals := 65 }
set_option maxHeartbeats 4000000 in
set_option maxRecDepth 100000 in
theorem kX1_turn {post : (Nat → Int64) × Int64 × Int32 → Prop} (l : Launch) (G : GT) (s0 : Nat) (s1 : Nat) (s2 : Nat) (b0 : Nat) (b1 : Nat) (b2 : Nat) (b3 : Nat) (b4 : Nat) (b5 : Nat) (b6 : Nat) (dk : Nat → Int64) (wg : Nat → Int64) (op : Int64) (re : Int32) (kf : Nat → Int32) (ff : Nat → Int32) (sf : Nat → Int32) (df : Nat → Int32) (pf : Nat → Int64) (gf : Nat → Int64) (bn : Int32) (p1 : Int32) (sz : Nat) (h : wX1_turn post dk op re p1) : Met l yX1_turn wl_X1_turn rm_X1_turn (va_Pc [.ref s0, .int p1] (fun U => U.heap.size = sz ∧ PP G [(s0, .inr (4, [.ref b0, .ref s1, .ref s2, .long op, .int re])), (s1, .inl (G.2 1, 384, .inr (.inl dk))), (s2, .inl (G.2 1, 40, .inr (.inl wg))), (b0, .inr (3, [.ref b1, .ref b2, .ref b3, .ref b4, .ref b5, .ref b6, .int bn])), (b1, .inl (G.2 0, 40, .inl kf)), (b2, .inl (G.2 0, 40, .inl ff)), (b3, .inl (G.2 0, 40, .inl sf)), (b4, .inl (G.2 0, 40, .inl df)), (b5, .inl (G.2 1, 40, .inr (.inl pf))), (b6, .inl (G.2 1, 6, .inr (.inl gf)))] U.heap ∧ KK G U ∧ va_D (fun _ => True) [(s0, .inr (4, [.ref b0, .ref s1, .ref s2, .long op, .int re])), (s1, .inl (G.2 1, 384, .inr (.inl dk))), (s2, .inl (G.2 1, 40, .inr (.inl wg))), (b0, .inr (3, [.ref b1, .ref b2, .ref b3, .ref b4, .ref b5, .ref b6, .int bn])), (b1, .inl (G.2 0, 40, .inl kf)), (b2, .inl (G.2 0, 40, .inl ff)), (b3, .inl (G.2 0, 40, .inl sf)), (b4, .inl (G.2 0, 40, .inl df)), (b5, .inl (G.2 1, 40, .inr (.inl pf))), (b6, .inl (G.2 1, 6, .inr (.inl gf)))] ∧ ZZ (va_A [(s0, .inr (4, [.ref b0, .ref s1, .ref s2, .long op, .int re])), (s1, .inl (G.2 1, 384, .inr (.inl dk))), (s2, .inl (G.2 1, 40, .inr (.inl wg))), (b0, .inr (3, [.ref b1, .ref b2, .ref b3, .ref b4, .ref b5, .ref b6, .int bn])), (b1, .inl (G.2 0, 40, .inl kf)), (b2, .inl (G.2 0, 40, .inl ff)), (b3, .inl (G.2 0, 40, .inl sf)), (b4, .inl (G.2 0, 40, .inl df)), (b5, .inl (G.2 1, 40, .inr (.inl pf))), (b6, .inl (G.2 1, 6, .inr (.inl gf)))] sz) U U.heap)) (va_Qv post (fun u t => PP G [(s0, .inr (4, [.ref b0, .ref s1, .ref s2, .long (u.2.1), .int (u.2.2)])), (s1, .inl (G.2 1, 384, .inr (.inl (u.1)))), (s2, .inl (G.2 1, 40, .inr (.inl wg))), (b0, .inr (3, [.ref b1, .ref b2, .ref b3, .ref b4, .ref b5, .ref b6, .int bn])), (b1, .inl (G.2 0, 40, .inl kf)), (b2, .inl (G.2 0, 40, .inl ff)), (b3, .inl (G.2 0, 40, .inl sf)), (b4, .inl (G.2 0, 40, .inl df)), (b5, .inl (G.2 1, 40, .inr (.inl pf))), (b6, .inl (G.2 1, 6, .inr (.inl gf)))] t.heap ∧ va_D (va_A [(s0, .inr (4, [.ref b0, .ref s1, .ref s2, .long op, .int re])), (s1, .inl (G.2 1, 384, .inr (.inl dk))), (s2, .inl (G.2 1, 40, .inr (.inl wg))), (b0, .inr (3, [.ref b1, .ref b2, .ref b3, .ref b4, .ref b5, .ref b6, .int bn])), (b1, .inl (G.2 0, 40, .inl kf)), (b2, .inl (G.2 0, 40, .inl ff)), (b3, .inl (G.2 0, 40, .inl sf)), (b4, .inl (G.2 0, 40, .inl df)), (b5, .inl (G.2 1, 40, .inr (.inl pf))), (b6, .inl (G.2 1, 6, .inr (.inl gf)))] sz) [(s0, .inr (4, [.ref b0, .ref s1, .ref s2, .long (u.2.1), .int (u.2.2)])), (s1, .inl (G.2 1, 384, .inr (.inl (u.1)))), (s2, .inl (G.2 1, 40, .inr (.inl wg))), (b0, .inr (3, [.ref b1, .ref b2, .ref b3, .ref b4, .ref b5, .ref b6, .int bn])), (b1, .inl (G.2 0, 40, .inl kf)), (b2, .inl (G.2 0, 40, .inl ff)), (b3, .inl (G.2 0, 40, .inl sf)), (b4, .inl (G.2 0, 40, .inl df)), (b5, .inl (G.2 1, 40, .inr (.inl pf))), (b6, .inl (G.2 1, 6, .inr (.inl gf)))]) (va_A [(s0, .inr (4, [.ref b0, .ref s1, .ref s2, .long op, .int re])), (s1, .inl (G.2 1, 384, .inr (.inl dk))), (s2, .inl (G.2 1, 40, .inr (.inl wg))), (b0, .inr (3, [.ref b1, .ref b2, .ref b3, .ref b4, .ref b5, .ref b6, .int bn])), (b1, .inl (G.2 0, 40, .inl kf)), (b2, .inl (G.2 0, 40, .inl ff)), (b3, .inl (G.2 0, 40, .inl sf)), (b4, .inl (G.2 0, 40, .inl df)), (b5, .inl (G.2 1, 40, .inr (.inl pf))), (b6, .inl (G.2 1, 6, .inr (.inl gf)))] sz)) 0 0 (va_A [(s0, .inr (4, [.ref b0, .ref s1, .ref s2, .long op, .int re])), (s1, .inl (G.2 1, 384, .inr (.inl dk))), (s2, .inl (G.2 1, 40, .inr (.inl wg))), (b0, .inr (3, [.ref b1, .ref b2, .ref b3, .ref b4, .ref b5, .ref b6, .int bn])), (b1, .inl (G.2 0, 40, .inl kf)), (b2, .inl (G.2 0, 40, .inl ff)), (b3, .inl (G.2 0, 40, .inl sf)), (b4, .inl (G.2 0, 40, .inl df)), (b5, .inl (G.2 1, 40, .inr (.inl pf))), (b6, .inl (G.2 1, 6, .inr (.inl gf)))] sz) := by
  refine Met.ofW (cc := cX1_turn) (maxL := 9) (ret := none) (by decide) rfl ?_
  intro p e s m args below meth c s₁ B hml hv
  obtain ⟨rfl, hsz, hP, hKK, hD0, hZ⟩ := hv
  obtain ⟨hK, hN, hR, hFW, hNC⟩ := id hKK
  have hx := B.exec
  have hb := B.bytes
  have hr := B.returns
  have hts0 := atoms_spec (ws := wl_X1_turn) B.pre
  have hts : ∀ w ∈ lwg, w.before ([.ref s0, .int p1] : List Value).toArray s = true := fun w hw => hts0 w (List.mem_cons_of_mem _ hw)
  have hown : s.vm.findClass RX1 = some m.cls := findClass_of_methodNamed B.named
  have hlocks := B.notSynchronized
  subst hsz
  have hD := hD0.self (sz := s.heap.size)
  generalize hAe : va_A [(s0, .inr (4, [.ref b0, .ref s1, .ref s2, .long op, .int re])), (s1, .inl (G.2 1, 384, .inr (.inl dk))), (s2, .inl (G.2 1, 40, .inr (.inl wg))), (b0, .inr (3, [.ref b1, .ref b2, .ref b3, .ref b4, .ref b5, .ref b6, .int bn])), (b1, .inl (G.2 0, 40, .inl kf)), (b2, .inl (G.2 0, 40, .inl ff)), (b3, .inl (G.2 0, 40, .inl sf)), (b4, .inl (G.2 0, 40, .inl df)), (b5, .inl (G.2 1, 40, .inr (.inl pf))), (b6, .inl (G.2 1, 6, .inr (.inl gf)))] s.heap.size = A at hD hZ ⊢
  have hA : ∀ q : Nat, s.heap.size ≤ q → A q := fun q h => by rw [← hAe]; exact Or.inr h
  have hS : va_S A s.heap s.heap [] := va_S.rf
  obtain ⟨QC, hQC⟩ : ∃ Z, Z = (va_Qv post (fun u t => PP G [(s0, .inr (4, [.ref b0, .ref s1, .ref s2, .long (u.2.1), .int (u.2.2)])), (s1, .inl (G.2 1, 384, .inr (.inl (u.1)))), (s2, .inl (G.2 1, 40, .inr (.inl wg))), (b0, .inr (3, [.ref b1, .ref b2, .ref b3, .ref b4, .ref b5, .ref b6, .int bn])), (b1, .inl (G.2 0, 40, .inl kf)), (b2, .inl (G.2 0, 40, .inl ff)), (b3, .inl (G.2 0, 40, .inl sf)), (b4, .inl (G.2 0, 40, .inl df)), (b5, .inl (G.2 1, 40, .inr (.inl pf))), (b6, .inl (G.2 1, 6, .inr (.inl gf)))] t.heap ∧ va_D A [(s0, .inr (4, [.ref b0, .ref s1, .ref s2, .long (u.2.1), .int (u.2.2)])), (s1, .inl (G.2 1, 384, .inr (.inl (u.1)))), (s2, .inl (G.2 1, 40, .inr (.inl wg))), (b0, .inr (3, [.ref b1, .ref b2, .ref b3, .ref b4, .ref b5, .ref b6, .int bn])), (b1, .inl (G.2 0, 40, .inl kf)), (b2, .inl (G.2 0, 40, .inl ff)), (b3, .inl (G.2 0, 40, .inl sf)), (b4, .inl (G.2 0, 40, .inl df)), (b5, .inl (G.2 1, 40, .inr (.inl pf))), (b6, .inl (G.2 1, 6, .inr (.inl gf)))]) A) := ⟨_, rfl⟩
  rw [← hQC]
  obtain ⟨⟨zt, hZ1, hT1⟩, hZ2⟩ := id hZ
  have hP : PP G [(s0, .inr (4, [.ref b0, .ref s1, .ref s2, .long op, .int re])), (s1, .inl (G.2 1, 384, .inr (.inl dk))), (s2, .inl (G.2 1, 40, .inr (.inl wg))), (b0, .inr (3, [.ref b1, .ref b2, .ref b3, .ref b4, .ref b5, .ref b6, .int bn])), (b1, .inl (G.2 0, 40, .inl kf)), (b2, .inl (G.2 0, 40, .inl ff)), (b3, .inl (G.2 0, 40, .inl sf)), (b4, .inl (G.2 0, 40, .inl df)), (b5, .inl (G.2 1, 40, .inr (.inl pf))), (b6, .inl (G.2 1, 6, .inr (.inl gf)))] s.heap := hP
  have hl := lv_entry ([.ref s0, .int p1]) (n := 9) (Nat.le_of_ble_eq_true rfl)
  rw [lg_entry_eq]
  generalize (lg_sl ([.ref s0, .int p1]) ++ List.replicate (9 - (lg_sl ([.ref s0, .int p1])).length) Slot.unset).toArray = ls at hl ⊢
  have hl : lv_has ls 9 [(0, .ref s0), (1, .int p1)] := hl
  have loop45 : ∀ (K125 : Int32 → (Nat → Int64) → Prop) (r_2 : Int64) (i3 : Int32), True → (∀ (i4 : Int32) (dk' : Nat → Int64) (ls : Array Slot) (H : Heap) (locs : List Loc), lv_has ls 9 [(0, .ref s0), (1, .int p1), (2, .int ((1 : Int32) <<< (p1 &&& 31))), (3, .int i3), (4, .int i4)] → PP G [(s0, .inr (4, [.ref b0, .ref s1, .ref s2, .long r_2, .int (re ^^^ ((1 : Int32) <<< (p1 &&& 31)))])), (s1, .inl (G.2 1, 384, .inr (.inl dk'))), (s2, .inl (G.2 1, 40, .inr (.inl wg))), (b0, .inr (3, [.ref b1, .ref b2, .ref b3, .ref b4, .ref b5, .ref b6, .int bn])), (b1, .inl (G.2 0, 40, .inl kf)), (b2, .inl (G.2 0, 40, .inl ff)), (b3, .inl (G.2 0, 40, .inl sf)), (b4, .inl (G.2 0, 40, .inl df)), (b5, .inl (G.2 1, 40, .inr (.inl pf))), (b6, .inl (G.2 1, 6, .inr (.inl gf)))] H → va_D A [(s0, .inr (4, [.ref b0, .ref s1, .ref s2, .long r_2, .int (re ^^^ ((1 : Int32) <<< (p1 &&& 31)))])), (s1, .inl (G.2 1, 384, .inr (.inl dk'))), (s2, .inl (G.2 1, 40, .inr (.inl wg))), (b0, .inr (3, [.ref b1, .ref b2, .ref b3, .ref b4, .ref b5, .ref b6, .int bn])), (b1, .inl (G.2 0, 40, .inl kf)), (b2, .inl (G.2 0, 40, .inl ff)), (b3, .inl (G.2 0, 40, .inl sf)), (b4, .inl (G.2 0, 40, .inl df)), (b5, .inl (G.2 1, 40, .inr (.inl pf))), (b6, .inl (G.2 1, 6, .inr (.inl gf)))] → va_S A s.heap H locs → K125 i4 dk' → W p l e (headSpec (wl_X1_turn) rm_X1_turn).room s m ([.ref s0, .int p1] : List Value).toArray below meth c H locs 0 0 (MQ below QC ([.ref s0, .int p1] : List Value).toArray s 0 0 A) (F0 m 125 ls [])) → ∀ (n : Nat) (i4 : Int32) (dk' : Nat → Int64) (ls : Array Slot) (H : Heap) (locs : List Loc), lv_has ls 9 [(0, .ref s0), (1, .int p1), (2, .int ((1 : Int32) <<< (p1 &&& 31))), (3, .int i3), (4, .int i4)] → PP G [(s0, .inr (4, [.ref b0, .ref s1, .ref s2, .long r_2, .int (re ^^^ ((1 : Int32) <<< (p1 &&& 31)))])), (s1, .inl (G.2 1, 384, .inr (.inl dk'))), (s2, .inl (G.2 1, 40, .inr (.inl wg))), (b0, .inr (3, [.ref b1, .ref b2, .ref b3, .ref b4, .ref b5, .ref b6, .int bn])), (b1, .inl (G.2 0, 40, .inl kf)), (b2, .inl (G.2 0, 40, .inl ff)), (b3, .inl (G.2 0, 40, .inl sf)), (b4, .inl (G.2 0, 40, .inl df)), (b5, .inl (G.2 1, 40, .inr (.inl pf))), (b6, .inl (G.2 1, 6, .inr (.inl gf)))] H → va_D A [(s0, .inr (4, [.ref b0, .ref s1, .ref s2, .long r_2, .int (re ^^^ ((1 : Int32) <<< (p1 &&& 31)))])), (s1, .inl (G.2 1, 384, .inr (.inl dk'))), (s2, .inl (G.2 1, 40, .inr (.inl wg))), (b0, .inr (3, [.ref b1, .ref b2, .ref b3, .ref b4, .ref b5, .ref b6, .int bn])), (b1, .inl (G.2 0, 40, .inl kf)), (b2, .inl (G.2 0, 40, .inl ff)), (b3, .inl (G.2 0, 40, .inl sf)), (b4, .inl (G.2 0, 40, .inl df)), (b5, .inl (G.2 1, 40, .inr (.inl pf))), (b6, .inl (G.2 1, 6, .inr (.inl gf)))] → va_S A s.heap H locs → wX1_turn_L45 post K125 p1 i3 n i4 dk' → W p l e (headSpec (wl_X1_turn) rm_X1_turn).room s m ([.ref s0, .int p1] : List Value).toArray below meth c H locs 0 0 (MQ below QC ([.ref s0, .int p1] : List Value).toArray s 0 0 A) (F0 m 45 ls []) := by
    intro K125 r_2 i3 _ hexit125 n
    induction n with
    | zero => intro i4 dk' ls H locs hl hP hD hS h; exact False.elim h
    | succ n ih =>
      intro i4 dk' ls H locs hl hP hD hS h
      refine lv_iload hx hb dX1_turn_45 (lv_at hl 4 rfl) ?_
      refine lv_bipush (v := 64) hx hb dX1_turn_47 (by decide) ?_
      refine lv_icmp_ge (tgt := 125) hx hb dX1_turn_49 (by decide) (fun hc => ?_) (fun hc => ?_)
      · have h := h.1 hc
        have hl := lv_sub (l' := [(0, .ref s0), (1, .int p1), (2, .int ((1 : Int32) <<< (p1 &&& 31))), (3, .int i3), (4, .int i4)]) hl [0, 1, 2, 3, 4] rfl
        exact hexit125 _ _ ls H locs hl hP hD hS h
      · have h := h.2 hc
        refine lv_iload hx hb dX1_turn_52 (lv_at hl 4 rfl) ?_
        refine lv_iload_n hx hb dX1_turn_54 rfl (lv_at hl 2 rfl) ?_
        refine lv_iand hx hb dX1_turn_55 ?_
        refine lv_if_ne (tgt := 119) hx hb dX1_turn_56 (by decide) (fun hc => ?_) (fun hc => ?_)
        · have h := h.1 hc
          refine lv_iinc (v := (i4 + 1)) hx hb dX1_turn_119 hl (k := 4) rfl (by rw [show Int32.ofInt 1 = 1 from by decide]) (Nat.le_of_ble_eq_true rfl) rfl (fun ls hl => ?_)
          have hl : lv_has ls 9 [(4, .int (i4 + 1)), (0, .ref s0), (1, .int p1), (2, .int ((1 : Int32) <<< (p1 &&& 31))), (3, .int i3)] := hl
          refine lv_goto (tgt := 45) hx hb dX1_turn_122 (by decide) ?_
          have hl := lv_sub (l' := [(0, .ref s0), (1, .int p1), (2, .int ((1 : Int32) <<< (p1 &&& 31))), (3, .int i3), (4, .int (i4 + 1))]) hl [1, 2, 3, 4, 0] rfl
          exact ih _ _ ls H locs hl hP hD hS h
        · have h := h.2 hc
          refine lv_iload_n hx hb dX1_turn_59 rfl (lv_at hl 3 rfl) ?_
          refine lv_bipush (v := 64) hx hb dX1_turn_60 (by decide) ?_
          refine lv_imul hx hb dX1_turn_62 ?_
          refine lv_iload hx hb dX1_turn_63 (lv_at hl 4 rfl) ?_
          refine lv_iadd hx hb dX1_turn_65 ?_
          refine lv_istore hx hb dX1_turn_66 hl (Nat.le_of_ble_eq_true rfl) rfl (fun ls hl => ?_)
          have hl : lv_has ls 9 [(5, .int ((i3 * (64 : Int32)) + i4)), (0, .ref s0), (1, .int p1), (2, .int ((1 : Int32) <<< (p1 &&& 31))), (3, .int i3), (4, .int i4)] := hl
          refine lv_iload_n hx hb dX1_turn_68 rfl (lv_at hl 4 rfl) ?_
          refine lv_bipush (v := 64) hx hb dX1_turn_69 (by decide) ?_
          refine lv_imul hx hb dX1_turn_71 ?_
          refine lv_iload hx hb dX1_turn_72 (lv_at hl 5 rfl) ?_
          refine lv_iload_n hx hb dX1_turn_74 rfl (lv_at hl 3 rfl) ?_
          refine lv_ior hx hb dX1_turn_75 ?_
          refine lv_iadd hx hb dX1_turn_76 ?_
          refine lv_topi (fun x_1 ex_1 => ?_)
          have h := h x_1 ex_1
          refine lv_istore hx hb dX1_turn_77 hl (Nat.le_of_ble_eq_true rfl) rfl (fun ls hl => ?_)
          have hl : lv_has ls 9 [(6, .int x_1), (5, .int ((i3 * (64 : Int32)) + i4)), (0, .ref s0), (1, .int p1), (2, .int ((1 : Int32) <<< (p1 &&& 31))), (3, .int i3), (4, .int i4)] := hl
          refine lv_aload_n hx hb dX1_turn_79 rfl (lv_at hl 2 rfl) ?_
          refine va_get (D := G.1) (ci := 4) (v := .ref s1) (C := RX1) (T := TX1) (N := 5) hx hb hts igX1 hown hK hP 0 rfl rfl 1 (by decide) (hts _ q74) (fun _ h9 => h9) rfl dX1_turn_80 ?_
          refine lv_iload hx hb dX1_turn_83 (lv_at hl 1 rfl) ?_
          obtain ⟨hin, h⟩ := h
          refine va_lald (D := G.1) hx hb hK hP 1 1 rfl rfl hin dX1_turn_85 ?_
          refine lv_iload_n hx hb dX1_turn_86 rfl (lv_at hl 3 rfl) ?_
          have hPc := va_P.sub (ws' := []) hP [] rfl
          have hZc : ZZ (fun _ => False) s _ := (hZ.kept hS.2.1).narrow (fun _ h => False.elim h)
          refine rdL (va_runSN (As := [.long (dk' ((i3 * (64 : Int32)) + i4).toNatClampNeg), .int p1]) (rest := []) ⟨hx, hb, hml, hown, hts⟩ (kX2_turned l G (dk' ((i3 * (64 : Int32)) + i4).toNatClampNeg) p1 h) ⟨va_cnB 2 hts (gdC q629) rfl rfl rfl (hN _ n627) (hts _ q1) (by decide +kernel) ⟨Nat.le_of_ble_eq_true rfl, Nat.le_of_ble_eq_true rfl⟩, hts _ q628, trivial⟩ (preSz hPc hKK hZc) rfl rfl hl.1 rfl (lv_room (Nat.le_of_ble_eq_true rfl)) dX1_turn_87 ⟨Nat.zero_le _, Nat.zero_le _⟩) (fun r_3 h => ?_)
          refine lv_lstore hx hb dX1_turn_90 hl (Nat.le_of_ble_eq_true rfl) rfl (fun ls hl => ?_)
          have hl : lv_has ls 9 [(7, .long r_3), (6, .int x_1), (5, .int ((i3 * (64 : Int32)) + i4)), (0, .ref s0), (1, .int p1), (2, .int ((1 : Int32) <<< (p1 &&& 31))), (3, .int i3), (4, .int i4)] := hl
          refine lv_aload_n hx hb dX1_turn_92 rfl (lv_at hl 3 rfl) ?_
          refine va_get (D := G.1) (ci := 4) (v := .ref s1) (C := RX1) (T := TX1) (N := 5) hx hb hts igX1 hown hK hP 0 rfl rfl 1 (by decide) (hts _ q74) (fun _ h9 => h9) rfl dX1_turn_93 ?_
          refine lv_iload hx hb dX1_turn_96 (lv_at hl 2 rfl) ?_
          refine lv_aload_n hx hb dX1_turn_98 rfl (lv_at hl 3 rfl) ?_
          refine va_get (D := G.1) (ci := 4) (v := .ref s1) (C := RX1) (T := TX1) (N := 5) hx hb hts igX1 hown hK hP 0 rfl rfl 1 (by decide) (hts _ q74) (fun _ h9 => h9) rfl dX1_turn_99 ?_
          refine lv_iload hx hb dX1_turn_102 (lv_at hl 1 rfl) ?_
          obtain ⟨hin, h⟩ := h
          refine va_lald (D := G.1) hx hb hK hP 1 1 rfl rfl hin dX1_turn_104 ?_
          refine lv_iload_n hx hb dX1_turn_105 rfl (lv_at hl 4 rfl) ?_
          have hPc := va_P.sub (ws' := []) hP [] rfl
          have hZc : ZZ (fun _ => False) s _ := (hZ.kept hS.2.1).narrow (fun _ h => False.elim h)
          refine rdL (va_runSN (As := [.long (dk' x_1.toNatClampNeg), .int p1]) (rest := [.int ((i3 * (64 : Int32)) + i4), .ref s1]) ⟨hx, hb, hml, hown, hts⟩ (kX2_turned l G (dk' x_1.toNatClampNeg) p1 h) ⟨va_cnB 2 hts (gdC q629) rfl rfl rfl (hN _ n627) (hts _ q1) (by decide +kernel) ⟨Nat.le_of_ble_eq_true rfl, Nat.le_of_ble_eq_true rfl⟩, hts _ q628, trivial⟩ (preSz hPc hKK hZc) rfl rfl hl.1 rfl (lv_room (Nat.le_of_ble_eq_true rfl)) dX1_turn_106 ⟨Nat.zero_le _, Nat.zero_le _⟩) (fun r_4 h => ?_)
          obtain ⟨hin, h⟩ := h
          refine va_last (D := G.1) hx hb hK hP hD hS 1 1 rfl rfl hin dX1_turn_109 (fun H locs hP hD hS => ?_)
          have hP : PP G [(s0, .inr (4, [.ref b0, .ref s1, .ref s2, .long r_2, .int (re ^^^ ((1 : Int32) <<< (p1 &&& 31)))])), (s1, .inl (G.2 1, 384, .inr (.inl (vp_updL dk' ((i3 * (64 : Int32)) + i4).toNatClampNeg r_4)))), (s2, .inl (G.2 1, 40, .inr (.inl wg))), (b0, .inr (3, [.ref b1, .ref b2, .ref b3, .ref b4, .ref b5, .ref b6, .int bn])), (b1, .inl (G.2 0, 40, .inl kf)), (b2, .inl (G.2 0, 40, .inl ff)), (b3, .inl (G.2 0, 40, .inl sf)), (b4, .inl (G.2 0, 40, .inl df)), (b5, .inl (G.2 1, 40, .inr (.inl pf))), (b6, .inl (G.2 1, 6, .inr (.inl gf)))] H := hP
          have hD : va_D A [(s0, .inr (4, [.ref b0, .ref s1, .ref s2, .long r_2, .int (re ^^^ ((1 : Int32) <<< (p1 &&& 31)))])), (s1, .inl (G.2 1, 384, .inr (.inl (vp_updL dk' ((i3 * (64 : Int32)) + i4).toNatClampNeg r_4)))), (s2, .inl (G.2 1, 40, .inr (.inl wg))), (b0, .inr (3, [.ref b1, .ref b2, .ref b3, .ref b4, .ref b5, .ref b6, .int bn])), (b1, .inl (G.2 0, 40, .inl kf)), (b2, .inl (G.2 0, 40, .inl ff)), (b3, .inl (G.2 0, 40, .inl sf)), (b4, .inl (G.2 0, 40, .inl df)), (b5, .inl (G.2 1, 40, .inr (.inl pf))), (b6, .inl (G.2 1, 6, .inr (.inl gf)))] := hD
          refine lv_aload_n hx hb dX1_turn_110 rfl (lv_at hl 3 rfl) ?_
          refine va_get (D := G.1) (ci := 4) (v := .ref s1) (C := RX1) (T := TX1) (N := 5) hx hb hts igX1 hown hK hP 0 rfl rfl 1 (by decide) (hts _ q74) (fun _ h9 => h9) rfl dX1_turn_111 ?_
          refine lv_iload hx hb dX1_turn_114 (lv_at hl 1 rfl) ?_
          refine lv_lload hx hb dX1_turn_116 (lv_at hl 0 rfl) ?_
          obtain ⟨hin, h⟩ := h
          refine va_last (D := G.1) hx hb hK hP hD hS 1 1 rfl rfl hin dX1_turn_118 (fun H locs hP hD hS => ?_)
          have hP : PP G [(s0, .inr (4, [.ref b0, .ref s1, .ref s2, .long r_2, .int (re ^^^ ((1 : Int32) <<< (p1 &&& 31)))])), (s1, .inl (G.2 1, 384, .inr (.inl (vp_updL (vp_updL dk' ((i3 * (64 : Int32)) + i4).toNatClampNeg r_4) x_1.toNatClampNeg r_3)))), (s2, .inl (G.2 1, 40, .inr (.inl wg))), (b0, .inr (3, [.ref b1, .ref b2, .ref b3, .ref b4, .ref b5, .ref b6, .int bn])), (b1, .inl (G.2 0, 40, .inl kf)), (b2, .inl (G.2 0, 40, .inl ff)), (b3, .inl (G.2 0, 40, .inl sf)), (b4, .inl (G.2 0, 40, .inl df)), (b5, .inl (G.2 1, 40, .inr (.inl pf))), (b6, .inl (G.2 1, 6, .inr (.inl gf)))] H := hP
          have hD : va_D A [(s0, .inr (4, [.ref b0, .ref s1, .ref s2, .long r_2, .int (re ^^^ ((1 : Int32) <<< (p1 &&& 31)))])), (s1, .inl (G.2 1, 384, .inr (.inl (vp_updL (vp_updL dk' ((i3 * (64 : Int32)) + i4).toNatClampNeg r_4) x_1.toNatClampNeg r_3)))), (s2, .inl (G.2 1, 40, .inr (.inl wg))), (b0, .inr (3, [.ref b1, .ref b2, .ref b3, .ref b4, .ref b5, .ref b6, .int bn])), (b1, .inl (G.2 0, 40, .inl kf)), (b2, .inl (G.2 0, 40, .inl ff)), (b3, .inl (G.2 0, 40, .inl sf)), (b4, .inl (G.2 0, 40, .inl df)), (b5, .inl (G.2 1, 40, .inr (.inl pf))), (b6, .inl (G.2 1, 6, .inr (.inl gf)))] := hD
          refine lv_iinc (v := (i4 + 1)) hx hb dX1_turn_119 hl (k := 7) rfl (by rw [show Int32.ofInt 1 = 1 from by decide]) (Nat.le_of_ble_eq_true rfl) rfl (fun ls hl => ?_)
          have hl : lv_has ls 9 [(4, .int (i4 + 1)), (7, .long r_3), (6, .int x_1), (5, .int ((i3 * (64 : Int32)) + i4)), (0, .ref s0), (1, .int p1), (2, .int ((1 : Int32) <<< (p1 &&& 31))), (3, .int i3)] := hl
          refine lv_goto (tgt := 45) hx hb dX1_turn_122 (by decide) ?_
          have hl := lv_sub (l' := [(0, .ref s0), (1, .int p1), (2, .int ((1 : Int32) <<< (p1 &&& 31))), (3, .int i3), (4, .int (i4 + 1))]) hl [4, 5, 6, 7, 0] rfl
          exact ih _ _ ls H locs hl hP hD hS h
  have loop36 : ∀ (K131 : Int32 → (Nat → Int64) → Prop) (r_2 : Int64), True → (∀ (i3 : Int32) (dk' : Nat → Int64) (ls : Array Slot) (H : Heap) (locs : List Loc), lv_has ls 9 [(0, .ref s0), (1, .int p1), (2, .int ((1 : Int32) <<< (p1 &&& 31))), (3, .int i3)] → PP G [(s0, .inr (4, [.ref b0, .ref s1, .ref s2, .long r_2, .int (re ^^^ ((1 : Int32) <<< (p1 &&& 31)))])), (s1, .inl (G.2 1, 384, .inr (.inl dk'))), (s2, .inl (G.2 1, 40, .inr (.inl wg))), (b0, .inr (3, [.ref b1, .ref b2, .ref b3, .ref b4, .ref b5, .ref b6, .int bn])), (b1, .inl (G.2 0, 40, .inl kf)), (b2, .inl (G.2 0, 40, .inl ff)), (b3, .inl (G.2 0, 40, .inl sf)), (b4, .inl (G.2 0, 40, .inl df)), (b5, .inl (G.2 1, 40, .inr (.inl pf))), (b6, .inl (G.2 1, 6, .inr (.inl gf)))] H → va_D A [(s0, .inr (4, [.ref b0, .ref s1, .ref s2, .long r_2, .int (re ^^^ ((1 : Int32) <<< (p1 &&& 31)))])), (s1, .inl (G.2 1, 384, .inr (.inl dk'))), (s2, .inl (G.2 1, 40, .inr (.inl wg))), (b0, .inr (3, [.ref b1, .ref b2, .ref b3, .ref b4, .ref b5, .ref b6, .int bn])), (b1, .inl (G.2 0, 40, .inl kf)), (b2, .inl (G.2 0, 40, .inl ff)), (b3, .inl (G.2 0, 40, .inl sf)), (b4, .inl (G.2 0, 40, .inl df)), (b5, .inl (G.2 1, 40, .inr (.inl pf))), (b6, .inl (G.2 1, 6, .inr (.inl gf)))] → va_S A s.heap H locs → K131 i3 dk' → W p l e (headSpec (wl_X1_turn) rm_X1_turn).room s m ([.ref s0, .int p1] : List Value).toArray below meth c H locs 0 0 (MQ below QC ([.ref s0, .int p1] : List Value).toArray s 0 0 A) (F0 m 131 ls [])) → ∀ (n : Nat) (i3 : Int32) (dk' : Nat → Int64) (ls : Array Slot) (H : Heap) (locs : List Loc), lv_has ls 9 [(0, .ref s0), (1, .int p1), (2, .int ((1 : Int32) <<< (p1 &&& 31))), (3, .int i3)] → PP G [(s0, .inr (4, [.ref b0, .ref s1, .ref s2, .long r_2, .int (re ^^^ ((1 : Int32) <<< (p1 &&& 31)))])), (s1, .inl (G.2 1, 384, .inr (.inl dk'))), (s2, .inl (G.2 1, 40, .inr (.inl wg))), (b0, .inr (3, [.ref b1, .ref b2, .ref b3, .ref b4, .ref b5, .ref b6, .int bn])), (b1, .inl (G.2 0, 40, .inl kf)), (b2, .inl (G.2 0, 40, .inl ff)), (b3, .inl (G.2 0, 40, .inl sf)), (b4, .inl (G.2 0, 40, .inl df)), (b5, .inl (G.2 1, 40, .inr (.inl pf))), (b6, .inl (G.2 1, 6, .inr (.inl gf)))] H → va_D A [(s0, .inr (4, [.ref b0, .ref s1, .ref s2, .long r_2, .int (re ^^^ ((1 : Int32) <<< (p1 &&& 31)))])), (s1, .inl (G.2 1, 384, .inr (.inl dk'))), (s2, .inl (G.2 1, 40, .inr (.inl wg))), (b0, .inr (3, [.ref b1, .ref b2, .ref b3, .ref b4, .ref b5, .ref b6, .int bn])), (b1, .inl (G.2 0, 40, .inl kf)), (b2, .inl (G.2 0, 40, .inl ff)), (b3, .inl (G.2 0, 40, .inl sf)), (b4, .inl (G.2 0, 40, .inl df)), (b5, .inl (G.2 1, 40, .inr (.inl pf))), (b6, .inl (G.2 1, 6, .inr (.inl gf)))] → va_S A s.heap H locs → wX1_turn_L36 post K131 p1 n i3 dk' → W p l e (headSpec (wl_X1_turn) rm_X1_turn).room s m ([.ref s0, .int p1] : List Value).toArray below meth c H locs 0 0 (MQ below QC ([.ref s0, .int p1] : List Value).toArray s 0 0 A) (F0 m 36 ls []) := by
    intro K131 r_2 _ hexit131 n
    induction n with
    | zero => intro i3 dk' ls H locs hl hP hD hS h; exact False.elim h
    | succ n ih =>
      intro i3 dk' ls H locs hl hP hD hS h
      refine lv_iload_n hx hb dX1_turn_36 rfl (lv_at hl 3 rfl) ?_
      refine lv_bipush (v := 6) hx hb dX1_turn_37 (by decide) ?_
      refine lv_icmp_ge (tgt := 131) hx hb dX1_turn_39 (by decide) (fun hc => ?_) (fun hc => ?_)
      · have h := h.1 hc
        have hl := lv_sub (l' := [(0, .ref s0), (1, .int p1), (2, .int ((1 : Int32) <<< (p1 &&& 31))), (3, .int i3)]) hl [0, 1, 2, 3] rfl
        exact hexit131 _ _ ls H locs hl hP hD hS h
      · have h := h.2 hc
        refine lv_iconst (v := 0) hx hb dX1_turn_42 (by decide) ?_
        refine lv_istore hx hb dX1_turn_43 hl (Nat.le_of_ble_eq_true rfl) rfl (fun ls hl => ?_)
        have hl : lv_has ls 9 [(4, .int (0 : Int32)), (0, .ref s0), (1, .int p1), (2, .int ((1 : Int32) <<< (p1 &&& 31))), (3, .int i3)] := hl
        have hl := lv_sub (l' := [(0, .ref s0), (1, .int p1), (2, .int ((1 : Int32) <<< (p1 &&& 31))), (3, .int i3), (4, .int (0 : Int32))]) hl [1, 2, 3, 4, 0] rfl
        obtain ⟨nF, h⟩ := h
        refine loop45 _ r_2 i3 trivial ?_ nF (0 : Int32) dk' _ _ _ hl hP hD hS h
        · intro i4 dk' ls H locs hl hP hD hS h
          refine lv_iinc (v := (i3 + 1)) hx hb dX1_turn_125 hl (k := 3) rfl (by rw [show Int32.ofInt 1 = 1 from by decide]) (Nat.le_of_ble_eq_true rfl) rfl (fun ls hl => ?_)
          have hl : lv_has ls 9 [(3, .int (i3 + 1)), (0, .ref s0), (1, .int p1), (2, .int ((1 : Int32) <<< (p1 &&& 31))), (4, .int i4)] := hl
          refine lv_goto (tgt := 36) hx hb dX1_turn_128 (by decide) ?_
          have hl := lv_sub (l' := [(0, .ref s0), (1, .int p1), (2, .int ((1 : Int32) <<< (p1 &&& 31))), (3, .int (i3 + 1))]) hl [1, 2, 3, 0] rfl
          exact ih _ _ ls H locs hl hP hD hS h
  refine lv_iload_n hx hb dX1_turn_0 rfl (lv_at hl 1 rfl) ?_
  have hPc := va_P.sub (ws' := []) hP [] rfl
  refine rdI (va_runSN (As := [.int p1]) (rest := []) ⟨hx, hb, hml, hown, hts⟩ (kX2_isFact l G p1 h) ⟨va_cnB 1 hts (gdC q131) rfl rfl rfl (hN _ n626) (hts _ q1) (by decide +kernel) ⟨Nat.le_of_ble_eq_true rfl, Nat.le_of_ble_eq_true rfl⟩, hts _ q130, trivial⟩ (preS hPc hKK) rfl rfl hl.1 rfl (lv_room (Nat.le_of_ble_eq_true rfl)) dX1_turn_1 ⟨Nat.zero_le _, Nat.zero_le _⟩) (fun r_1 h => ?_)
  refine lv_if_ne (tgt := 8) hx hb dX1_turn_4 (by decide) (fun hc => ?_) (fun hc => ?_)
  · have h := h.1 hc
    refine lv_iconst (v := 1) hx hb dX1_turn_8 (by decide) ?_
    refine lv_iload_n hx hb dX1_turn_9 rfl (lv_at hl 1 rfl) ?_
    refine lv_ishl hx hb dX1_turn_10 ?_
    refine lv_istore_n hx hb dX1_turn_11 rfl hl (Nat.le_of_ble_eq_true rfl) rfl (fun ls hl => ?_)
    have hl : lv_has ls 9 [(2, .int ((1 : Int32) <<< (p1 &&& 31))), (0, .ref s0), (1, .int p1)] := hl
    refine lv_aload_n hx hb dX1_turn_12 rfl (lv_at hl 1 rfl) ?_
    refine lv_dup hx hb dX1_turn_13 rfl ?_
    refine va_get (D := G.1) (ci := 4) (v := .int re) (C := RX1) (T := TX1) (N := 5) hx hb hts igX1 hown hK hP 0 rfl rfl 4 (by decide) (hts _ q78) (fun _ h9 => h9) rfl dX1_turn_14 ?_
    refine lv_iload_n hx hb dX1_turn_17 rfl (lv_at hl 0 rfl) ?_
    refine lv_ixor hx hb dX1_turn_18 ?_
    refine va_put (D := G.1) (ci := 4) (v := .int (re ^^^ ((1 : Int32) <<< (p1 &&& 31)))) (ty := .int) (C := RX1) (T := TX1) (N := 5) hx hb hts igX1 tyX1 tyX1_ok nmX1 hown hK hP hD hS 0 rfl rfl 4 (by decide) (hts _ q78) (fun _ h9 => h9) rfl (by decide +kernel) rfl rfl (Nat.le_of_ble_eq_true rfl) dX1_turn_19 (fun H locs hP hD hS => ?_)
    have hP : PP G [(s0, .inr (4, [.ref b0, .ref s1, .ref s2, .long op, .int (re ^^^ ((1 : Int32) <<< (p1 &&& 31)))])), (s1, .inl (G.2 1, 384, .inr (.inl dk))), (s2, .inl (G.2 1, 40, .inr (.inl wg))), (b0, .inr (3, [.ref b1, .ref b2, .ref b3, .ref b4, .ref b5, .ref b6, .int bn])), (b1, .inl (G.2 0, 40, .inl kf)), (b2, .inl (G.2 0, 40, .inl ff)), (b3, .inl (G.2 0, 40, .inl sf)), (b4, .inl (G.2 0, 40, .inl df)), (b5, .inl (G.2 1, 40, .inr (.inl pf))), (b6, .inl (G.2 1, 6, .inr (.inl gf)))] H := hP
    have hD : va_D A [(s0, .inr (4, [.ref b0, .ref s1, .ref s2, .long op, .int (re ^^^ ((1 : Int32) <<< (p1 &&& 31)))])), (s1, .inl (G.2 1, 384, .inr (.inl dk))), (s2, .inl (G.2 1, 40, .inr (.inl wg))), (b0, .inr (3, [.ref b1, .ref b2, .ref b3, .ref b4, .ref b5, .ref b6, .int bn])), (b1, .inl (G.2 0, 40, .inl kf)), (b2, .inl (G.2 0, 40, .inl ff)), (b3, .inl (G.2 0, 40, .inl sf)), (b4, .inl (G.2 0, 40, .inl df)), (b5, .inl (G.2 1, 40, .inr (.inl pf))), (b6, .inl (G.2 1, 6, .inr (.inl gf)))] := hD
    refine lv_aload_n hx hb dX1_turn_22 rfl (lv_at hl 1 rfl) ?_
    refine lv_aload_n hx hb dX1_turn_23 rfl (lv_at hl 1 rfl) ?_
    refine va_get (D := G.1) (ci := 4) (v := .long op) (C := RX1) (T := TX1) (N := 5) hx hb hts igX1 hown hK hP 0 rfl rfl 3 (by decide) (hts _ q76) (fun _ h9 => h9) rfl dX1_turn_24 ?_
    refine lv_iload_n hx hb dX1_turn_27 rfl (lv_at hl 2 rfl) ?_
    have hPc := va_P.sub (ws' := []) hP [] rfl
    have hZc : ZZ (fun _ => False) s _ := (hZ.kept hS.2.1).narrow (fun _ h => False.elim h)
    refine rdL (va_runSN (As := [.long op, .int p1]) (rest := [.ref s0]) ⟨hx, hb, hml, hown, hts⟩ (kX2_turned l G op p1 h) ⟨va_cnB 2 hts (gdC q629) rfl rfl rfl (hN _ n627) (hts _ q1) (by decide +kernel) ⟨Nat.le_of_ble_eq_true rfl, Nat.le_of_ble_eq_true rfl⟩, hts _ q628, trivial⟩ (preSz hPc hKK hZc) rfl rfl hl.1 rfl (lv_room (Nat.le_of_ble_eq_true rfl)) dX1_turn_28 ⟨Nat.zero_le _, Nat.zero_le _⟩) (fun r_2 h => ?_)
    refine va_put (D := G.1) (ci := 4) (v := .long r_2) (ty := .long) (C := RX1) (T := TX1) (N := 5) hx hb hts igX1 tyX1 tyX1_ok nmX1 hown hK hP hD hS 0 rfl rfl 3 (by decide) (hts _ q76) (fun _ h9 => h9) rfl (by decide +kernel) rfl rfl (Nat.le_of_ble_eq_true rfl) dX1_turn_31 (fun H locs hP hD hS => ?_)
    have hP : PP G [(s0, .inr (4, [.ref b0, .ref s1, .ref s2, .long r_2, .int (re ^^^ ((1 : Int32) <<< (p1 &&& 31)))])), (s1, .inl (G.2 1, 384, .inr (.inl dk))), (s2, .inl (G.2 1, 40, .inr (.inl wg))), (b0, .inr (3, [.ref b1, .ref b2, .ref b3, .ref b4, .ref b5, .ref b6, .int bn])), (b1, .inl (G.2 0, 40, .inl kf)), (b2, .inl (G.2 0, 40, .inl ff)), (b3, .inl (G.2 0, 40, .inl sf)), (b4, .inl (G.2 0, 40, .inl df)), (b5, .inl (G.2 1, 40, .inr (.inl pf))), (b6, .inl (G.2 1, 6, .inr (.inl gf)))] H := hP
    have hD : va_D A [(s0, .inr (4, [.ref b0, .ref s1, .ref s2, .long r_2, .int (re ^^^ ((1 : Int32) <<< (p1 &&& 31)))])), (s1, .inl (G.2 1, 384, .inr (.inl dk))), (s2, .inl (G.2 1, 40, .inr (.inl wg))), (b0, .inr (3, [.ref b1, .ref b2, .ref b3, .ref b4, .ref b5, .ref b6, .int bn])), (b1, .inl (G.2 0, 40, .inl kf)), (b2, .inl (G.2 0, 40, .inl ff)), (b3, .inl (G.2 0, 40, .inl sf)), (b4, .inl (G.2 0, 40, .inl df)), (b5, .inl (G.2 1, 40, .inr (.inl pf))), (b6, .inl (G.2 1, 6, .inr (.inl gf)))] := hD
    refine lv_iconst (v := 0) hx hb dX1_turn_34 (by decide) ?_
    refine lv_istore_n hx hb dX1_turn_35 rfl hl (Nat.le_of_ble_eq_true rfl) rfl (fun ls hl => ?_)
    have hl : lv_has ls 9 [(3, .int (0 : Int32)), (2, .int ((1 : Int32) <<< (p1 &&& 31))), (0, .ref s0), (1, .int p1)] := hl
    have hl := lv_sub (l' := [(0, .ref s0), (1, .int p1), (2, .int ((1 : Int32) <<< (p1 &&& 31))), (3, .int (0 : Int32))]) hl [2, 3, 1, 0] rfl
    obtain ⟨nF, h⟩ := h
    refine loop36 _ r_2 trivial ?_ nF (0 : Int32) dk _ _ _ hl hP hD hS h
    · intro i3 dk' ls H locs hl hP hD hS h
      subst hQC; exact W.vret hx hb hr (fun t ht hW => ⟨⟨(dk', r_2, (re ^^^ ((1 : Int32) <<< (p1 &&& 31)))), rfl, h, by rw [ht]; exact hP, hD⟩, hS.F ht⟩) hS.2.2 dX1_turn_131
  · have h := h.2 hc
    subst hQC; exact W.vret hx hb hr (fun t ht hW => ⟨⟨(dk, op, re), rfl, h, by rw [ht]; exact hP, hD⟩, hS.F ht⟩) hS.2.2 dX1_turn_7
theorem dX1_weigh_0 : decode cX1_weigh 0 = .ok (.iconst 0, 1) := by decide +kernel
theorem dX1_weigh_1 : decode cX1_weigh 1 = .ok (.istore_n 3, 1) := by decide +kernel
theorem dX1_weigh_2 : decode cX1_weigh 2 = .ok (.iload_n 3, 1) := by decide +kernel
theorem dX1_weigh_3 : decode cX1_weigh 3 = .ok (.bipush 40, 2) := by decide +kernel
theorem dX1_weigh_5 : decode cX1_weigh 5 = .ok (.if_icmp .ge 249, 3) := by decide +kernel
theorem dX1_weigh_8 : decode cX1_weigh 8 = .ok (.lload_n 1, 1) := by decide +kernel
theorem dX1_weigh_9 : decode cX1_weigh 9 = .ok (.iload_n 3, 1) := by decide +kernel
theorem dX1_weigh_10 : decode cX1_weigh 10 = .ok (.invokestatic 52, 3) := by decide +kernel
theorem dX1_weigh_13 : decode cX1_weigh 13 = .ok (.ifCond .ne 6, 3) := by decide +kernel
theorem dX1_weigh_16 : decode cX1_weigh 16 = .ok (.goto 232, 3) := by decide +kernel
theorem dX1_weigh_19 : decode cX1_weigh 19 = .ok (.aload_n 0, 1) := by decide +kernel
theorem dX1_weigh_20 : decode cX1_weigh 20 = .ok (.getfield 18, 3) := by decide +kernel
theorem dX1_weigh_23 : decode cX1_weigh 23 = .ok (.iload_n 3, 1) := by decide +kernel
theorem dX1_weigh_24 : decode cX1_weigh 24 = .ok (.invokevirtual 63, 3) := by decide +kernel
theorem dX1_weigh_27 : decode cX1_weigh 27 = .ok (.istore 4, 2) := by decide +kernel
theorem dX1_weigh_29 : decode cX1_weigh 29 = .ok (.aload_n 0, 1) := by decide +kernel
theorem dX1_weigh_30 : decode cX1_weigh 30 = .ok (.getfield 18, 3) := by decide +kernel
theorem dX1_weigh_33 : decode cX1_weigh 33 = .ok (.iload_n 3, 1) := by decide +kernel
theorem dX1_weigh_34 : decode cX1_weigh 34 = .ok (.invokevirtual 67, 3) := by decide +kernel
theorem dX1_weigh_37 : decode cX1_weigh 37 = .ok (.istore 5, 2) := by decide +kernel
theorem dX1_weigh_39 : decode cX1_weigh 39 = .ok (.lconst 0, 1) := by decide +kernel
theorem dX1_weigh_40 : decode cX1_weigh 40 = .ok (.lstore 6, 2) := by decide +kernel
theorem dX1_weigh_42 : decode cX1_weigh 42 = .ok (.aload_n 0, 1) := by decide +kernel
theorem dX1_weigh_43 : decode cX1_weigh 43 = .ok (.getfield 18, 3) := by decide +kernel
theorem dX1_weigh_46 : decode cX1_weigh 46 = .ok (.iload_n 3, 1) := by decide +kernel
theorem dX1_weigh_47 : decode cX1_weigh 47 = .ok (.invokevirtual 70, 3) := by decide +kernel
theorem dX1_weigh_50 : decode cX1_weigh 50 = .ok (.tableswitch 185 0 7 #[46, 56, 71, 89, 107, 126, 143, 168], 46) := by decide +kernel
theorem dX1_weigh_96 : decode cX1_weigh 96 = .ok (.iload 4, 2) := by decide +kernel
theorem dX1_weigh_98 : decode cX1_weigh 98 = .ok (.invokestatic 73, 3) := by decide +kernel
theorem dX1_weigh_101 : decode cX1_weigh 101 = .ok (.lstore 6, 2) := by decide +kernel
theorem dX1_weigh_103 : decode cX1_weigh 103 = .ok (.goto 132, 3) := by decide +kernel
theorem dX1_weigh_106 : decode cX1_weigh 106 = .ok (.aload_n 0, 1) := by decide +kernel
theorem dX1_weigh_107 : decode cX1_weigh 107 = .ok (.iload 4, 2) := by decide +kernel
theorem dX1_weigh_109 : decode cX1_weigh 109 = .ok (.invokevirtual 77, 3) := by decide +kernel
theorem dX1_weigh_112 : decode cX1_weigh 112 = .ok (.ldc2_w 26, 3) := by decide +kernel
theorem dX1_weigh_115 : decode cX1_weigh 115 = .ok (.lxor, 1) := by decide +kernel
theorem dX1_weigh_116 : decode cX1_weigh 116 = .ok (.lstore 6, 2) := by decide +kernel
theorem dX1_weigh_118 : decode cX1_weigh 118 = .ok (.goto 117, 3) := by decide +kernel
theorem dX1_weigh_121 : decode cX1_weigh 121 = .ok (.aload_n 0, 1) := by decide +kernel
theorem dX1_weigh_122 : decode cX1_weigh 122 = .ok (.iload 4, 2) := by decide +kernel
theorem dX1_weigh_124 : decode cX1_weigh 124 = .ok (.invokevirtual 77, 3) := by decide +kernel
theorem dX1_weigh_127 : decode cX1_weigh 127 = .ok (.aload_n 0, 1) := by decide +kernel
theorem dX1_weigh_128 : decode cX1_weigh 128 = .ok (.iload 5, 2) := by decide +kernel
theorem dX1_weigh_130 : decode cX1_weigh 130 = .ok (.invokevirtual 77, 3) := by decide +kernel
theorem dX1_weigh_133 : decode cX1_weigh 133 = .ok (.land, 1) := by decide +kernel
theorem dX1_weigh_134 : decode cX1_weigh 134 = .ok (.lstore 6, 2) := by decide +kernel
theorem dX1_weigh_136 : decode cX1_weigh 136 = .ok (.goto 99, 3) := by decide +kernel
theorem dX1_weigh_139 : decode cX1_weigh 139 = .ok (.aload_n 0, 1) := by decide +kernel
theorem dX1_weigh_140 : decode cX1_weigh 140 = .ok (.iload 4, 2) := by decide +kernel
theorem dX1_weigh_142 : decode cX1_weigh 142 = .ok (.invokevirtual 77, 3) := by decide +kernel
theorem dX1_weigh_145 : decode cX1_weigh 145 = .ok (.aload_n 0, 1) := by decide +kernel
theorem dX1_weigh_146 : decode cX1_weigh 146 = .ok (.iload 5, 2) := by decide +kernel
theorem dX1_weigh_148 : decode cX1_weigh 148 = .ok (.invokevirtual 77, 3) := by decide +kernel
theorem dX1_weigh_151 : decode cX1_weigh 151 = .ok (.lor, 1) := by decide +kernel
theorem dX1_weigh_152 : decode cX1_weigh 152 = .ok (.lstore 6, 2) := by decide +kernel
theorem dX1_weigh_154 : decode cX1_weigh 154 = .ok (.goto 81, 3) := by decide +kernel
theorem dX1_weigh_157 : decode cX1_weigh 157 = .ok (.aload_n 0, 1) := by decide +kernel
theorem dX1_weigh_158 : decode cX1_weigh 158 = .ok (.iconst 1, 1) := by decide +kernel
theorem dX1_weigh_159 : decode cX1_weigh 159 = .ok (.iload 4, 2) := by decide +kernel
theorem dX1_weigh_161 : decode cX1_weigh 161 = .ok (.ishl, 1) := by decide +kernel
theorem dX1_weigh_162 : decode cX1_weigh 162 = .ok (.aload_n 0, 1) := by decide +kernel
theorem dX1_weigh_163 : decode cX1_weigh 163 = .ok (.iload 5, 2) := by decide +kernel
theorem dX1_weigh_165 : decode cX1_weigh 165 = .ok (.invokevirtual 77, 3) := by decide +kernel
theorem dX1_weigh_168 : decode cX1_weigh 168 = .ok (.invokevirtual 80, 3) := by decide +kernel
theorem dX1_weigh_171 : decode cX1_weigh 171 = .ok (.lstore 6, 2) := by decide +kernel
theorem dX1_weigh_173 : decode cX1_weigh 173 = .ok (.goto 62, 3) := by decide +kernel
theorem dX1_weigh_176 : decode cX1_weigh 176 = .ok (.aload_n 0, 1) := by decide +kernel
theorem dX1_weigh_177 : decode cX1_weigh 177 = .ok (.iload 4, 2) := by decide +kernel
theorem dX1_weigh_179 : decode cX1_weigh 179 = .ok (.aload_n 0, 1) := by decide +kernel
theorem dX1_weigh_180 : decode cX1_weigh 180 = .ok (.iload 5, 2) := by decide +kernel
theorem dX1_weigh_182 : decode cX1_weigh 182 = .ok (.invokevirtual 77, 3) := by decide +kernel
theorem dX1_weigh_185 : decode cX1_weigh 185 = .ok (.invokevirtual 80, 3) := by decide +kernel
theorem dX1_weigh_188 : decode cX1_weigh 188 = .ok (.lstore 6, 2) := by decide +kernel
theorem dX1_weigh_190 : decode cX1_weigh 190 = .ok (.goto 45, 3) := by decide +kernel
theorem dX1_weigh_193 : decode cX1_weigh 193 = .ok (.aload_n 0, 1) := by decide +kernel
theorem dX1_weigh_194 : decode cX1_weigh 194 = .ok (.iload 4, 2) := by decide +kernel
theorem dX1_weigh_196 : decode cX1_weigh 196 = .ok (.aload_n 0, 1) := by decide +kernel
theorem dX1_weigh_197 : decode cX1_weigh 197 = .ok (.iload 5, 2) := by decide +kernel
theorem dX1_weigh_199 : decode cX1_weigh 199 = .ok (.invokevirtual 77, 3) := by decide +kernel
theorem dX1_weigh_202 : decode cX1_weigh 202 = .ok (.ldc2_w 26, 3) := by decide +kernel
theorem dX1_weigh_205 : decode cX1_weigh 205 = .ok (.lxor, 1) := by decide +kernel
theorem dX1_weigh_206 : decode cX1_weigh 206 = .ok (.invokevirtual 84, 3) := by decide +kernel
theorem dX1_weigh_209 : decode cX1_weigh 209 = .ok (.ldc2_w 26, 3) := by decide +kernel
theorem dX1_weigh_212 : decode cX1_weigh 212 = .ok (.lxor, 1) := by decide +kernel
theorem dX1_weigh_213 : decode cX1_weigh 213 = .ok (.lstore 6, 2) := by decide +kernel
theorem dX1_weigh_215 : decode cX1_weigh 215 = .ok (.goto 20, 3) := by decide +kernel
theorem dX1_weigh_218 : decode cX1_weigh 218 = .ok (.aload_n 0, 1) := by decide +kernel
theorem dX1_weigh_219 : decode cX1_weigh 219 = .ok (.iload 4, 2) := by decide +kernel
theorem dX1_weigh_221 : decode cX1_weigh 221 = .ok (.aload_n 0, 1) := by decide +kernel
theorem dX1_weigh_222 : decode cX1_weigh 222 = .ok (.iload 5, 2) := by decide +kernel
theorem dX1_weigh_224 : decode cX1_weigh 224 = .ok (.invokevirtual 77, 3) := by decide +kernel
theorem dX1_weigh_227 : decode cX1_weigh 227 = .ok (.invokevirtual 87, 3) := by decide +kernel
theorem dX1_weigh_230 : decode cX1_weigh 230 = .ok (.lstore 6, 2) := by decide +kernel
theorem dX1_weigh_232 : decode cX1_weigh 232 = .ok (.goto 3, 3) := by decide +kernel
theorem dX1_weigh_235 : decode cX1_weigh 235 = .ok (.aload_n 0, 1) := by decide +kernel
theorem dX1_weigh_236 : decode cX1_weigh 236 = .ok (.getfield 15, 3) := by decide +kernel
theorem dX1_weigh_239 : decode cX1_weigh 239 = .ok (.iload_n 3, 1) := by decide +kernel
theorem dX1_weigh_240 : decode cX1_weigh 240 = .ok (.lload 6, 2) := by decide +kernel
theorem dX1_weigh_242 : decode cX1_weigh 242 = .ok (.aload_n 0, 1) := by decide +kernel
theorem dX1_weigh_243 : decode cX1_weigh 243 = .ok (.getfield 28, 3) := by decide +kernel
theorem dX1_weigh_246 : decode cX1_weigh 246 = .ok (.land, 1) := by decide +kernel
theorem dX1_weigh_247 : decode cX1_weigh 247 = .ok (.lastore, 1) := by decide +kernel
theorem dX1_weigh_248 : decode cX1_weigh 248 = .ok (.iinc 3 1, 3) := by decide +kernel
theorem dX1_weigh_251 : decode cX1_weigh 251 = .ok (.goto (-249), 3) := by decide +kernel
theorem dX1_weigh_254 : decode cX1_weigh 254 = .ok (.return_, 1) := by decide +kernel
def wX1_weigh_L2 (post : (Nat → Int64) → Prop) (K254 : Int32 → (Nat → Int64) → Prop) (dk : Nat → Int64) (op : Int64) (kf : Nat → Int32) (ff : Nat → Int32) (sf : Nat → Int32) (bn : Int32) (p1 : Int64) : Nat → Int32 → (Nat → Int64) → Prop
  | 0, _, _ => False
  | n+1, i3, wg' =>
    (((40 : Int32) ≤ i3) →
      K254 i3 wg'
    ) ∧ (¬ ((40 : Int32) ≤ i3) →
      wX2_has (fun r_1 : Int32 =>
        ((¬ r_1 = 0) →
          wX0_firstOf (fun r_2 : Int32 =>
            wX0_secondOf (fun r_3 : Int32 =>
              wX0_kindOf (fun r_4 : Int32 =>
                (r_4 = 0 →
                  wX2_worldsOfFact (fun r_5 : Int64 =>
                    vp_in i3 40 ∧
                    wX1_weigh_L2 post K254 dk op kf ff sf bn p1 n (i3 + 1) (vp_updL wg' i3.toNatClampNeg (r_5 &&& op))
                    ) r_2
                ) ∧ (¬ r_4 = 0 →
                (r_4 = 1 →
                  wX1_worldsOf (fun r_6 : Int64 =>
                    vp_in i3 40 ∧
                    wX1_weigh_L2 post K254 dk op kf ff sf bn p1 n (i3 + 1) (vp_updL wg' i3.toNatClampNeg ((r_6 ^^^ (-1 : Int64)) &&& op))
                    ) wg' bn r_2
                ) ∧ (¬ r_4 = 1 →
                (r_4 = 2 →
                  wX1_worldsOf (fun r_7 : Int64 =>
                    wX1_worldsOf (fun r_8 : Int64 =>
                      vp_in i3 40 ∧
                      wX1_weigh_L2 post K254 dk op kf ff sf bn p1 n (i3 + 1) (vp_updL wg' i3.toNatClampNeg ((r_7 &&& r_8) &&& op))
                      ) wg' bn r_3
                    ) wg' bn r_2
                ) ∧ (¬ r_4 = 2 →
                (r_4 = 3 →
                  wX1_worldsOf (fun r_9 : Int64 =>
                    wX1_worldsOf (fun r_10 : Int64 =>
                      vp_in i3 40 ∧
                      wX1_weigh_L2 post K254 dk op kf ff sf bn p1 n (i3 + 1) (vp_updL wg' i3.toNatClampNeg ((r_9 ||| r_10) &&& op))
                      ) wg' bn r_3
                    ) wg' bn r_2
                ) ∧ (¬ r_4 = 3 →
                (r_4 = 4 →
                  wX1_worldsOf (fun r_11 : Int64 =>
                    wX1_knownToAll (fun r_12 : Int64 =>
                      vp_in i3 40 ∧
                      wX1_weigh_L2 post K254 dk op kf ff sf bn p1 n (i3 + 1) (vp_updL wg' i3.toNatClampNeg (r_12 &&& op))
                      ) dk op ((1 : Int32) <<< (r_2 &&& 31)) r_11
                    ) wg' bn r_3
                ) ∧ (¬ r_4 = 4 →
                (r_4 = 5 →
                  wX1_worldsOf (fun r_13 : Int64 =>
                    wX1_knownToAll (fun r_14 : Int64 =>
                      vp_in i3 40 ∧
                      wX1_weigh_L2 post K254 dk op kf ff sf bn p1 n (i3 + 1) (vp_updL wg' i3.toNatClampNeg (r_14 &&& op))
                      ) dk op r_2 r_13
                    ) wg' bn r_3
                ) ∧ (¬ r_4 = 5 →
                (r_4 = 6 →
                  wX1_worldsOf (fun r_15 : Int64 =>
                    wX1_reached (fun r_16 : Int64 =>
                      vp_in i3 40 ∧
                      wX1_weigh_L2 post K254 dk op kf ff sf bn p1 n (i3 + 1) (vp_updL wg' i3.toNatClampNeg ((r_16 ^^^ (-1 : Int64)) &&& op))
                      ) dk op r_2 (r_15 ^^^ (-1 : Int64))
                    ) wg' bn r_3
                ) ∧ (¬ r_4 = 6 →
                (r_4 = 7 →
                  wX1_worldsOf (fun r_17 : Int64 =>
                    wX1_knownTogether (fun r_18 : Int64 =>
                      vp_in i3 40 ∧
                      wX1_weigh_L2 post K254 dk op kf ff sf bn p1 n (i3 + 1) (vp_updL wg' i3.toNatClampNeg (r_18 &&& op))
                      ) dk op r_2 r_17
                    ) wg' bn r_3
                ) ∧ (¬ r_4 = 7 →
                  vp_in i3 40 ∧
                  wX1_weigh_L2 post K254 dk op kf ff sf bn p1 n (i3 + 1) (vp_updL wg' i3.toNatClampNeg ((0 : Int64) &&& op))
                ))))))))
                ) kf bn i3
              ) sf bn i3
            ) ff bn i3
        ) ∧ ((r_1 = 0) →
          wX1_weigh_L2 post K254 dk op kf ff sf bn p1 n (i3 + 1) wg'
        )
        ) p1 i3
    )
def wX1_weigh (post : (Nat → Int64) → Prop) (dk : Nat → Int64) (wg : Nat → Int64) (op : Int64) (kf : Nat → Int32) (ff : Nat → Int32) (sf : Nat → Int32) (bn : Int32) (p1 : Int64) : Prop :=
  ∃ nF, wX1_weigh_L2 post
    (fun i3 wg' =>
      post wg'
    )
    dk op kf ff sf bn p1 nF (0 : Int32) wg
abbrev wl_X1_weigh : List Cond := .code yX1_weigh cX1_weigh 8 none :: lwg
abbrev rm_X1_weigh : Room := { frames := 4, cells := 0, slots := 0, locals := 101 }
set_option maxHeartbeats 4000000 in
set_option maxRecDepth 100000 in
theorem kX1_weigh {post : (Nat → Int64) → Prop} (l : Launch) (G : GT) (s0 : Nat) (s1 : Nat) (s2 : Nat) (b0 : Nat) (b1 : Nat) (b2 : Nat) (b3 : Nat) (b4 : Nat) (b5 : Nat) (b6 : Nat) (dk : Nat → Int64) (wg : Nat → Int64) (op : Int64) (re : Int32) (kf : Nat → Int32) (ff : Nat → Int32) (sf : Nat → Int32) (df : Nat → Int32) (pf : Nat → Int64) (gf : Nat → Int64) (bn : Int32) (p1 : Int64) (sz : Nat) (h : wX1_weigh post dk wg op kf ff sf bn p1) : Met l yX1_weigh wl_X1_weigh rm_X1_weigh (va_Pc [.ref s0, .long p1] (fun U => U.heap.size = sz ∧ PP G [(s0, .inr (4, [.ref b0, .ref s1, .ref s2, .long op, .int re])), (s1, .inl (G.2 1, 384, .inr (.inl dk))), (s2, .inl (G.2 1, 40, .inr (.inl wg))), (b0, .inr (3, [.ref b1, .ref b2, .ref b3, .ref b4, .ref b5, .ref b6, .int bn])), (b1, .inl (G.2 0, 40, .inl kf)), (b2, .inl (G.2 0, 40, .inl ff)), (b3, .inl (G.2 0, 40, .inl sf)), (b4, .inl (G.2 0, 40, .inl df)), (b5, .inl (G.2 1, 40, .inr (.inl pf))), (b6, .inl (G.2 1, 6, .inr (.inl gf)))] U.heap ∧ KK G U ∧ va_D (fun _ => True) [(s0, .inr (4, [.ref b0, .ref s1, .ref s2, .long op, .int re])), (s1, .inl (G.2 1, 384, .inr (.inl dk))), (s2, .inl (G.2 1, 40, .inr (.inl wg))), (b0, .inr (3, [.ref b1, .ref b2, .ref b3, .ref b4, .ref b5, .ref b6, .int bn])), (b1, .inl (G.2 0, 40, .inl kf)), (b2, .inl (G.2 0, 40, .inl ff)), (b3, .inl (G.2 0, 40, .inl sf)), (b4, .inl (G.2 0, 40, .inl df)), (b5, .inl (G.2 1, 40, .inr (.inl pf))), (b6, .inl (G.2 1, 6, .inr (.inl gf)))] ∧ ZZ (va_A [(s0, .inr (4, [.ref b0, .ref s1, .ref s2, .long op, .int re])), (s1, .inl (G.2 1, 384, .inr (.inl dk))), (s2, .inl (G.2 1, 40, .inr (.inl wg))), (b0, .inr (3, [.ref b1, .ref b2, .ref b3, .ref b4, .ref b5, .ref b6, .int bn])), (b1, .inl (G.2 0, 40, .inl kf)), (b2, .inl (G.2 0, 40, .inl ff)), (b3, .inl (G.2 0, 40, .inl sf)), (b4, .inl (G.2 0, 40, .inl df)), (b5, .inl (G.2 1, 40, .inr (.inl pf))), (b6, .inl (G.2 1, 6, .inr (.inl gf)))] sz) U U.heap)) (va_Qv post (fun u t => PP G [(s0, .inr (4, [.ref b0, .ref s1, .ref s2, .long op, .int re])), (s1, .inl (G.2 1, 384, .inr (.inl dk))), (s2, .inl (G.2 1, 40, .inr (.inl u))), (b0, .inr (3, [.ref b1, .ref b2, .ref b3, .ref b4, .ref b5, .ref b6, .int bn])), (b1, .inl (G.2 0, 40, .inl kf)), (b2, .inl (G.2 0, 40, .inl ff)), (b3, .inl (G.2 0, 40, .inl sf)), (b4, .inl (G.2 0, 40, .inl df)), (b5, .inl (G.2 1, 40, .inr (.inl pf))), (b6, .inl (G.2 1, 6, .inr (.inl gf)))] t.heap ∧ va_D (va_A [(s0, .inr (4, [.ref b0, .ref s1, .ref s2, .long op, .int re])), (s1, .inl (G.2 1, 384, .inr (.inl dk))), (s2, .inl (G.2 1, 40, .inr (.inl wg))), (b0, .inr (3, [.ref b1, .ref b2, .ref b3, .ref b4, .ref b5, .ref b6, .int bn])), (b1, .inl (G.2 0, 40, .inl kf)), (b2, .inl (G.2 0, 40, .inl ff)), (b3, .inl (G.2 0, 40, .inl sf)), (b4, .inl (G.2 0, 40, .inl df)), (b5, .inl (G.2 1, 40, .inr (.inl pf))), (b6, .inl (G.2 1, 6, .inr (.inl gf)))] sz) [(s0, .inr (4, [.ref b0, .ref s1, .ref s2, .long op, .int re])), (s1, .inl (G.2 1, 384, .inr (.inl dk))), (s2, .inl (G.2 1, 40, .inr (.inl u))), (b0, .inr (3, [.ref b1, .ref b2, .ref b3, .ref b4, .ref b5, .ref b6, .int bn])), (b1, .inl (G.2 0, 40, .inl kf)), (b2, .inl (G.2 0, 40, .inl ff)), (b3, .inl (G.2 0, 40, .inl sf)), (b4, .inl (G.2 0, 40, .inl df)), (b5, .inl (G.2 1, 40, .inr (.inl pf))), (b6, .inl (G.2 1, 6, .inr (.inl gf)))]) (va_A [(s0, .inr (4, [.ref b0, .ref s1, .ref s2, .long op, .int re])), (s1, .inl (G.2 1, 384, .inr (.inl dk))), (s2, .inl (G.2 1, 40, .inr (.inl wg))), (b0, .inr (3, [.ref b1, .ref b2, .ref b3, .ref b4, .ref b5, .ref b6, .int bn])), (b1, .inl (G.2 0, 40, .inl kf)), (b2, .inl (G.2 0, 40, .inl ff)), (b3, .inl (G.2 0, 40, .inl sf)), (b4, .inl (G.2 0, 40, .inl df)), (b5, .inl (G.2 1, 40, .inr (.inl pf))), (b6, .inl (G.2 1, 6, .inr (.inl gf)))] sz)) 0 0 (va_A [(s0, .inr (4, [.ref b0, .ref s1, .ref s2, .long op, .int re])), (s1, .inl (G.2 1, 384, .inr (.inl dk))), (s2, .inl (G.2 1, 40, .inr (.inl wg))), (b0, .inr (3, [.ref b1, .ref b2, .ref b3, .ref b4, .ref b5, .ref b6, .int bn])), (b1, .inl (G.2 0, 40, .inl kf)), (b2, .inl (G.2 0, 40, .inl ff)), (b3, .inl (G.2 0, 40, .inl sf)), (b4, .inl (G.2 0, 40, .inl df)), (b5, .inl (G.2 1, 40, .inr (.inl pf))), (b6, .inl (G.2 1, 6, .inr (.inl gf)))] sz) := by
  refine Met.ofW (cc := cX1_weigh) (maxL := 8) (ret := none) (by decide) rfl ?_
  intro p e s m args below meth c s₁ B hml hv
  obtain ⟨rfl, hsz, hP, hKK, hD0, hZ⟩ := hv
  obtain ⟨hK, hN, hR, hFW, hNC⟩ := id hKK
  have hx := B.exec
  have hb := B.bytes
  have hr := B.returns
  have hts0 := atoms_spec (ws := wl_X1_weigh) B.pre
  have hts : ∀ w ∈ lwg, w.before ([.ref s0, .long p1] : List Value).toArray s = true := fun w hw => hts0 w (List.mem_cons_of_mem _ hw)
  have hown : s.vm.findClass RX1 = some m.cls := findClass_of_methodNamed B.named
  have hlocks := B.notSynchronized
  subst hsz
  have hD := hD0.self (sz := s.heap.size)
  generalize hAe : va_A [(s0, .inr (4, [.ref b0, .ref s1, .ref s2, .long op, .int re])), (s1, .inl (G.2 1, 384, .inr (.inl dk))), (s2, .inl (G.2 1, 40, .inr (.inl wg))), (b0, .inr (3, [.ref b1, .ref b2, .ref b3, .ref b4, .ref b5, .ref b6, .int bn])), (b1, .inl (G.2 0, 40, .inl kf)), (b2, .inl (G.2 0, 40, .inl ff)), (b3, .inl (G.2 0, 40, .inl sf)), (b4, .inl (G.2 0, 40, .inl df)), (b5, .inl (G.2 1, 40, .inr (.inl pf))), (b6, .inl (G.2 1, 6, .inr (.inl gf)))] s.heap.size = A at hD hZ ⊢
  have hA : ∀ q : Nat, s.heap.size ≤ q → A q := fun q h => by rw [← hAe]; exact Or.inr h
  have hS : va_S A s.heap s.heap [] := va_S.rf
  obtain ⟨QC, hQC⟩ : ∃ Z, Z = (va_Qv post (fun u t => PP G [(s0, .inr (4, [.ref b0, .ref s1, .ref s2, .long op, .int re])), (s1, .inl (G.2 1, 384, .inr (.inl dk))), (s2, .inl (G.2 1, 40, .inr (.inl u))), (b0, .inr (3, [.ref b1, .ref b2, .ref b3, .ref b4, .ref b5, .ref b6, .int bn])), (b1, .inl (G.2 0, 40, .inl kf)), (b2, .inl (G.2 0, 40, .inl ff)), (b3, .inl (G.2 0, 40, .inl sf)), (b4, .inl (G.2 0, 40, .inl df)), (b5, .inl (G.2 1, 40, .inr (.inl pf))), (b6, .inl (G.2 1, 6, .inr (.inl gf)))] t.heap ∧ va_D A [(s0, .inr (4, [.ref b0, .ref s1, .ref s2, .long op, .int re])), (s1, .inl (G.2 1, 384, .inr (.inl dk))), (s2, .inl (G.2 1, 40, .inr (.inl u))), (b0, .inr (3, [.ref b1, .ref b2, .ref b3, .ref b4, .ref b5, .ref b6, .int bn])), (b1, .inl (G.2 0, 40, .inl kf)), (b2, .inl (G.2 0, 40, .inl ff)), (b3, .inl (G.2 0, 40, .inl sf)), (b4, .inl (G.2 0, 40, .inl df)), (b5, .inl (G.2 1, 40, .inr (.inl pf))), (b6, .inl (G.2 1, 6, .inr (.inl gf)))]) A) := ⟨_, rfl⟩
  rw [← hQC]
  obtain ⟨⟨zt, hZ1, hT1⟩, hZ2⟩ := id hZ
  have hP : PP G [(s0, .inr (4, [.ref b0, .ref s1, .ref s2, .long op, .int re])), (s1, .inl (G.2 1, 384, .inr (.inl dk))), (s2, .inl (G.2 1, 40, .inr (.inl wg))), (b0, .inr (3, [.ref b1, .ref b2, .ref b3, .ref b4, .ref b5, .ref b6, .int bn])), (b1, .inl (G.2 0, 40, .inl kf)), (b2, .inl (G.2 0, 40, .inl ff)), (b3, .inl (G.2 0, 40, .inl sf)), (b4, .inl (G.2 0, 40, .inl df)), (b5, .inl (G.2 1, 40, .inr (.inl pf))), (b6, .inl (G.2 1, 6, .inr (.inl gf)))] s.heap := hP
  have hl := lv_entry ([.ref s0, .long p1]) (n := 8) (Nat.le_of_ble_eq_true rfl)
  rw [lg_entry_eq]
  generalize (lg_sl ([.ref s0, .long p1]) ++ List.replicate (8 - (lg_sl ([.ref s0, .long p1])).length) Slot.unset).toArray = ls at hl ⊢
  have hl : lv_has ls 8 [(0, .ref s0), (1, .long p1)] := hl
  have loop2 : ∀ (K254 : Int32 → (Nat → Int64) → Prop), True → (∀ (i3 : Int32) (wg' : Nat → Int64) (ls : Array Slot) (H : Heap) (locs : List Loc), lv_has ls 8 [(0, .ref s0), (1, .long p1), (3, .int i3)] → PP G [(s0, .inr (4, [.ref b0, .ref s1, .ref s2, .long op, .int re])), (s1, .inl (G.2 1, 384, .inr (.inl dk))), (s2, .inl (G.2 1, 40, .inr (.inl wg'))), (b0, .inr (3, [.ref b1, .ref b2, .ref b3, .ref b4, .ref b5, .ref b6, .int bn])), (b1, .inl (G.2 0, 40, .inl kf)), (b2, .inl (G.2 0, 40, .inl ff)), (b3, .inl (G.2 0, 40, .inl sf)), (b4, .inl (G.2 0, 40, .inl df)), (b5, .inl (G.2 1, 40, .inr (.inl pf))), (b6, .inl (G.2 1, 6, .inr (.inl gf)))] H → va_D A [(s0, .inr (4, [.ref b0, .ref s1, .ref s2, .long op, .int re])), (s1, .inl (G.2 1, 384, .inr (.inl dk))), (s2, .inl (G.2 1, 40, .inr (.inl wg'))), (b0, .inr (3, [.ref b1, .ref b2, .ref b3, .ref b4, .ref b5, .ref b6, .int bn])), (b1, .inl (G.2 0, 40, .inl kf)), (b2, .inl (G.2 0, 40, .inl ff)), (b3, .inl (G.2 0, 40, .inl sf)), (b4, .inl (G.2 0, 40, .inl df)), (b5, .inl (G.2 1, 40, .inr (.inl pf))), (b6, .inl (G.2 1, 6, .inr (.inl gf)))] → va_S A s.heap H locs → K254 i3 wg' → W p l e (headSpec (wl_X1_weigh) rm_X1_weigh).room s m ([.ref s0, .long p1] : List Value).toArray below meth c H locs 0 0 (MQ below QC ([.ref s0, .long p1] : List Value).toArray s 0 0 A) (F0 m 254 ls [])) → ∀ (n : Nat) (i3 : Int32) (wg' : Nat → Int64) (ls : Array Slot) (H : Heap) (locs : List Loc), lv_has ls 8 [(0, .ref s0), (1, .long p1), (3, .int i3)] → PP G [(s0, .inr (4, [.ref b0, .ref s1, .ref s2, .long op, .int re])), (s1, .inl (G.2 1, 384, .inr (.inl dk))), (s2, .inl (G.2 1, 40, .inr (.inl wg'))), (b0, .inr (3, [.ref b1, .ref b2, .ref b3, .ref b4, .ref b5, .ref b6, .int bn])), (b1, .inl (G.2 0, 40, .inl kf)), (b2, .inl (G.2 0, 40, .inl ff)), (b3, .inl (G.2 0, 40, .inl sf)), (b4, .inl (G.2 0, 40, .inl df)), (b5, .inl (G.2 1, 40, .inr (.inl pf))), (b6, .inl (G.2 1, 6, .inr (.inl gf)))] H → va_D A [(s0, .inr (4, [.ref b0, .ref s1, .ref s2, .long op, .int re])), (s1, .inl (G.2 1, 384, .inr (.inl dk))), (s2, .inl (G.2 1, 40, .inr (.inl wg'))), (b0, .inr (3, [.ref b1, .ref b2, .ref b3, .ref b4, .ref b5, .ref b6, .int bn])), (b1, .inl (G.2 0, 40, .inl kf)), (b2, .inl (G.2 0, 40, .inl ff)), (b3, .inl (G.2 0, 40, .inl sf)), (b4, .inl (G.2 0, 40, .inl df)), (b5, .inl (G.2 1, 40, .inr (.inl pf))), (b6, .inl (G.2 1, 6, .inr (.inl gf)))] → va_S A s.heap H locs → wX1_weigh_L2 post K254 dk op kf ff sf bn p1 n i3 wg' → W p l e (headSpec (wl_X1_weigh) rm_X1_weigh).room s m ([.ref s0, .long p1] : List Value).toArray below meth c H locs 0 0 (MQ below QC ([.ref s0, .long p1] : List Value).toArray s 0 0 A) (F0 m 2 ls []) := by
    intro K254 _ hexit254 n
    induction n with
    | zero => intro i3 wg' ls H locs hl hP hD hS h; exact False.elim h
    | succ n ih =>
      intro i3 wg' ls H locs hl hP hD hS h
      refine lv_iload_n hx hb dX1_weigh_2 rfl (lv_at hl 2 rfl) ?_
      refine lv_bipush (v := 40) hx hb dX1_weigh_3 (by decide) ?_
      refine lv_icmp_ge (tgt := 254) hx hb dX1_weigh_5 (by decide) (fun hc => ?_) (fun hc => ?_)
      · have h := h.1 hc
        have hl := lv_sub (l' := [(0, .ref s0), (1, .long p1), (3, .int i3)]) hl [0, 1, 2] rfl
        exact hexit254 _ _ ls H locs hl hP hD hS h
      · have h := h.2 hc
        refine lv_lload_n hx hb dX1_weigh_8 rfl (lv_at hl 1 rfl) ?_
        refine lv_iload_n hx hb dX1_weigh_9 rfl (lv_at hl 2 rfl) ?_
        have hPc := va_P.sub (ws' := []) hP [] rfl
        refine rdI (va_runSN (As := [.long p1, .int i3]) (rest := []) ⟨hx, hb, hml, hown, hts⟩ (kX2_has l G p1 i3 h) ⟨va_cnB 2 hts (gdC q109) rfl rfl rfl (hN _ n107) (hts _ q1) (by decide +kernel) ⟨Nat.le_of_ble_eq_true rfl, Nat.le_of_ble_eq_true rfl⟩, hts _ q108, trivial⟩ (preS hPc hKK) rfl rfl hl.1 rfl (lv_room (Nat.le_of_ble_eq_true rfl)) dX1_weigh_10 ⟨Nat.zero_le _, Nat.zero_le _⟩) (fun r_1 h => ?_)
        refine lv_if_ne (tgt := 19) hx hb dX1_weigh_13 (by decide) (fun hc => ?_) (fun hc => ?_)
        · have h := h.1 hc
          refine lv_aload_n hx hb dX1_weigh_19 rfl (lv_at hl 0 rfl) ?_
          refine va_get (D := G.1) (ci := 4) (v := .ref b0) (C := RX1) (T := TX1) (N := 5) hx hb hts igX1 hown hK hP 0 rfl rfl 0 (by decide) (hts _ q73) (fun _ h9 => h9) rfl dX1_weigh_20 ?_
          refine lv_iload_n hx hb dX1_weigh_23 rfl (lv_at hl 2 rfl) ?_
          have hPc := va_P.sub (ws' := [(b0, .inr (3, [.ref b1, .ref b2, .ref b3, .ref b4, .ref b5, .ref b6, .int bn])), (b1, .inl (G.2 0, 40, .inl kf)), (b2, .inl (G.2 0, 40, .inl ff)), (b3, .inl (G.2 0, 40, .inl sf)), (b4, .inl (G.2 0, 40, .inl df)), (b5, .inl (G.2 1, 40, .inr (.inl pf))), (b6, .inl (G.2 1, 6, .inr (.inl gf)))]) hP [3, 4, 5, 6, 7, 8, 9] rfl
          refine rdI (va_runV (C := RX0) (As := [.int i3]) (rest := []) ⟨hx, hb, hml, hown, hts⟩ (kX0_firstOf l G b0 b1 b2 b3 b4 b5 b6 kf ff sf df pf gf bn i3 h) (cwV 1 hts (gdV q110 q111 q112 q2 q113) rfl rfl rfl (by decide +kernel) ⟨Nat.le_of_ble_eq_true rfl, Nat.le_of_ble_eq_true rfl⟩) (preV hPc hKK (va_recv hK hPc (ci := 3) (q0 := 0) rfl rfl)) rfl rfl hl.1 rfl (lv_room (Nat.le_of_ble_eq_true rfl)) dX1_weigh_24 ⟨Nat.zero_le _, Nat.zero_le _⟩) (fun r_2 h => ?_)
          refine lv_istore hx hb dX1_weigh_27 hl (Nat.le_of_ble_eq_true rfl) rfl (fun ls hl => ?_)
          have hl : lv_has ls 8 [(4, .int r_2), (0, .ref s0), (1, .long p1), (3, .int i3)] := hl
          refine lv_aload_n hx hb dX1_weigh_29 rfl (lv_at hl 1 rfl) ?_
          refine va_get (D := G.1) (ci := 4) (v := .ref b0) (C := RX1) (T := TX1) (N := 5) hx hb hts igX1 hown hK hP 0 rfl rfl 0 (by decide) (hts _ q73) (fun _ h9 => h9) rfl dX1_weigh_30 ?_
          refine lv_iload_n hx hb dX1_weigh_33 rfl (lv_at hl 3 rfl) ?_
          have hPc := va_P.sub (ws' := [(b0, .inr (3, [.ref b1, .ref b2, .ref b3, .ref b4, .ref b5, .ref b6, .int bn])), (b1, .inl (G.2 0, 40, .inl kf)), (b2, .inl (G.2 0, 40, .inl ff)), (b3, .inl (G.2 0, 40, .inl sf)), (b4, .inl (G.2 0, 40, .inl df)), (b5, .inl (G.2 1, 40, .inr (.inl pf))), (b6, .inl (G.2 1, 6, .inr (.inl gf)))]) hP [3, 4, 5, 6, 7, 8, 9] rfl
          refine rdI (va_runV (C := RX0) (As := [.int i3]) (rest := []) ⟨hx, hb, hml, hown, hts⟩ (kX0_secondOf l G b0 b1 b2 b3 b4 b5 b6 kf ff sf df pf gf bn i3 h) (cwV 1 hts (gdV q118 q119 q120 q2 q121) rfl rfl rfl (by decide +kernel) ⟨Nat.le_of_ble_eq_true rfl, Nat.le_of_ble_eq_true rfl⟩) (preV hPc hKK (va_recv hK hPc (ci := 3) (q0 := 0) rfl rfl)) rfl rfl hl.1 rfl (lv_room (Nat.le_of_ble_eq_true rfl)) dX1_weigh_34 ⟨Nat.zero_le _, Nat.zero_le _⟩) (fun r_3 h => ?_)
          refine lv_istore hx hb dX1_weigh_37 hl (Nat.le_of_ble_eq_true rfl) rfl (fun ls hl => ?_)
          have hl : lv_has ls 8 [(5, .int r_3), (4, .int r_2), (0, .ref s0), (1, .long p1), (3, .int i3)] := hl
          refine lv_lconst (v := 0) hx hb dX1_weigh_39 (by decide) ?_
          refine lv_lstore hx hb dX1_weigh_40 hl (Nat.le_of_ble_eq_true rfl) rfl (fun ls hl => ?_)
          have hl : lv_has ls 8 [(6, .long (0 : Int64)), (5, .int r_3), (4, .int r_2), (0, .ref s0), (1, .long p1), (3, .int i3)] := hl
          refine lv_aload_n hx hb dX1_weigh_42 rfl (lv_at hl 3 rfl) ?_
          refine va_get (D := G.1) (ci := 4) (v := .ref b0) (C := RX1) (T := TX1) (N := 5) hx hb hts igX1 hown hK hP 0 rfl rfl 0 (by decide) (hts _ q73) (fun _ h9 => h9) rfl dX1_weigh_43 ?_
          refine lv_iload_n hx hb dX1_weigh_46 rfl (lv_at hl 5 rfl) ?_
          have hPc := va_P.sub (ws' := [(b0, .inr (3, [.ref b1, .ref b2, .ref b3, .ref b4, .ref b5, .ref b6, .int bn])), (b1, .inl (G.2 0, 40, .inl kf)), (b2, .inl (G.2 0, 40, .inl ff)), (b3, .inl (G.2 0, 40, .inl sf)), (b4, .inl (G.2 0, 40, .inl df)), (b5, .inl (G.2 1, 40, .inr (.inl pf))), (b6, .inl (G.2 1, 6, .inr (.inl gf)))]) hP [3, 4, 5, 6, 7, 8, 9] rfl
          refine rdI (va_runV (C := RX0) (As := [.int i3]) (rest := []) ⟨hx, hb, hml, hown, hts⟩ (kX0_kindOf l G b0 b1 b2 b3 b4 b5 b6 kf ff sf df pf gf bn i3 h) (cwV 1 hts (gdV q122 q123 q124 q2 q125) rfl rfl rfl (by decide +kernel) ⟨Nat.le_of_ble_eq_true rfl, Nat.le_of_ble_eq_true rfl⟩) (preV hPc hKK (va_recv hK hPc (ci := 3) (q0 := 0) rfl rfl)) rfl rfl hl.1 rfl (lv_room (Nat.le_of_ble_eq_true rfl)) dX1_weigh_47 ⟨Nat.zero_le _, Nat.zero_le _⟩) (fun r_4 h => ?_)
          by_cases hc0 : r_4 = 0
          · have h := h.1 hc0
            refine lv_tableIn (tgt := 96) hx hb dX1_weigh_50 (by rw [hc0]; decide) (by rw [hc0]; decide) (by rw [hc0]; rfl) (by decide) ?_
            refine lv_iload hx hb dX1_weigh_96 (lv_at hl 2 rfl) ?_
            have hPc := va_P.sub (ws' := []) hP [] rfl
            have hZc : ZZ (fun _ => False) s _ := (hZ.kept hS.2.1).narrow (fun _ h => False.elim h)
            refine rdL (va_runSN (As := [.int r_2]) (rest := []) ⟨hx, hb, hml, hown, hts⟩ (kX2_worldsOfFact l G r_2 h) ⟨va_cnB 1 hts (gdC q128) rfl rfl rfl (hN _ n126) (hts _ q1) (by decide +kernel) ⟨Nat.le_of_ble_eq_true rfl, Nat.le_of_ble_eq_true rfl⟩, hts _ q127, trivial⟩ (preSz hPc hKK hZc) rfl rfl hl.1 rfl (lv_room (Nat.le_of_ble_eq_true rfl)) dX1_weigh_98 ⟨Nat.zero_le _, Nat.zero_le _⟩) (fun r_5 h => ?_)
            refine lv_lstore hx hb dX1_weigh_101 hl (Nat.le_of_ble_eq_true rfl) rfl (fun ls hl => ?_)
            have hl : lv_has ls 8 [(6, .long r_5), (5, .int r_3), (4, .int r_2), (0, .ref s0), (1, .long p1), (3, .int i3)] := hl
            refine lv_goto (tgt := 235) hx hb dX1_weigh_103 (by decide) ?_
            refine lv_aload_n hx hb dX1_weigh_235 rfl (lv_at hl 3 rfl) ?_
            refine va_get (D := G.1) (ci := 4) (v := .ref s2) (C := RX1) (T := TX1) (N := 5) hx hb hts igX1 hown hK hP 0 rfl rfl 2 (by decide) (hts _ q75) (fun _ h9 => h9) rfl dX1_weigh_236 ?_
            refine lv_iload_n hx hb dX1_weigh_239 rfl (lv_at hl 5 rfl) ?_
            refine lv_lload hx hb dX1_weigh_240 (lv_at hl 0 rfl) ?_
            refine lv_aload_n hx hb dX1_weigh_242 rfl (lv_at hl 3 rfl) ?_
            refine va_get (D := G.1) (ci := 4) (v := .long op) (C := RX1) (T := TX1) (N := 5) hx hb hts igX1 hown hK hP 0 rfl rfl 3 (by decide) (hts _ q76) (fun _ h9 => h9) rfl dX1_weigh_243 ?_
            refine lv_land hx hb dX1_weigh_246 ?_
            obtain ⟨hin, h⟩ := h
            refine va_last (D := G.1) hx hb hK hP hD hS 2 1 rfl rfl hin dX1_weigh_247 (fun H locs hP hD hS => ?_)
            have hP : PP G [(s0, .inr (4, [.ref b0, .ref s1, .ref s2, .long op, .int re])), (s1, .inl (G.2 1, 384, .inr (.inl dk))), (s2, .inl (G.2 1, 40, .inr (.inl (vp_updL wg' i3.toNatClampNeg (r_5 &&& op))))), (b0, .inr (3, [.ref b1, .ref b2, .ref b3, .ref b4, .ref b5, .ref b6, .int bn])), (b1, .inl (G.2 0, 40, .inl kf)), (b2, .inl (G.2 0, 40, .inl ff)), (b3, .inl (G.2 0, 40, .inl sf)), (b4, .inl (G.2 0, 40, .inl df)), (b5, .inl (G.2 1, 40, .inr (.inl pf))), (b6, .inl (G.2 1, 6, .inr (.inl gf)))] H := hP
            have hD : va_D A [(s0, .inr (4, [.ref b0, .ref s1, .ref s2, .long op, .int re])), (s1, .inl (G.2 1, 384, .inr (.inl dk))), (s2, .inl (G.2 1, 40, .inr (.inl (vp_updL wg' i3.toNatClampNeg (r_5 &&& op))))), (b0, .inr (3, [.ref b1, .ref b2, .ref b3, .ref b4, .ref b5, .ref b6, .int bn])), (b1, .inl (G.2 0, 40, .inl kf)), (b2, .inl (G.2 0, 40, .inl ff)), (b3, .inl (G.2 0, 40, .inl sf)), (b4, .inl (G.2 0, 40, .inl df)), (b5, .inl (G.2 1, 40, .inr (.inl pf))), (b6, .inl (G.2 1, 6, .inr (.inl gf)))] := hD
            refine lv_iinc (v := (i3 + 1)) hx hb dX1_weigh_248 hl (k := 5) rfl (by rw [show Int32.ofInt 1 = 1 from by decide]) (Nat.le_of_ble_eq_true rfl) rfl (fun ls hl => ?_)
            have hl : lv_has ls 8 [(3, .int (i3 + 1)), (6, .long r_5), (5, .int r_3), (4, .int r_2), (0, .ref s0), (1, .long p1)] := hl
            refine lv_goto (tgt := 2) hx hb dX1_weigh_251 (by decide) ?_
            have hl := lv_sub (l' := [(0, .ref s0), (1, .long p1), (3, .int (i3 + 1))]) hl [4, 5, 0] rfl
            exact ih _ _ ls H locs hl hP hD hS h
          have h := h.2 hc0
          by_cases hc1 : r_4 = 1
          · have h := h.1 hc1
            refine lv_tableIn (tgt := 106) hx hb dX1_weigh_50 (by rw [hc1]; decide) (by rw [hc1]; decide) (by rw [hc1]; rfl) (by decide) ?_
            refine lv_aload_n hx hb dX1_weigh_106 rfl (lv_at hl 3 rfl) ?_
            refine lv_iload hx hb dX1_weigh_107 (lv_at hl 2 rfl) ?_
            have hPc := hP
            refine rdL (va_runV (C := RX1) (As := [.int r_2]) (rest := []) ⟨hx, hb, hml, hown, hts⟩ (kX1_worldsOf l G s0 s1 s2 b0 b1 b2 b3 b4 b5 b6 dk wg' op re kf ff sf df pf gf bn r_2 h) (cwV 1 hts (gdV q134 q135 q136 q3 q137) rfl rfl rfl (by decide +kernel) ⟨Nat.le_of_ble_eq_true rfl, Nat.le_of_ble_eq_true rfl⟩) (preV hPc hKK (va_recv hK hPc (ci := 4) (q0 := 0) rfl rfl)) rfl rfl hl.1 rfl (lv_room (Nat.le_of_ble_eq_true rfl)) dX1_weigh_109 ⟨Nat.zero_le _, Nat.zero_le _⟩) (fun r_6 h => ?_)
            refine lv_ldc2 hx hb hown (hts _ q95) dX1_weigh_112 ?_
            refine lv_lxor hx hb dX1_weigh_115 ?_
            refine lv_lstore hx hb dX1_weigh_116 hl (Nat.le_of_ble_eq_true rfl) rfl (fun ls hl => ?_)
            have hl : lv_has ls 8 [(6, .long (r_6 ^^^ (-1 : Int64))), (5, .int r_3), (4, .int r_2), (0, .ref s0), (1, .long p1), (3, .int i3)] := hl
            refine lv_goto (tgt := 235) hx hb dX1_weigh_118 (by decide) ?_
            refine lv_aload_n hx hb dX1_weigh_235 rfl (lv_at hl 3 rfl) ?_
            refine va_get (D := G.1) (ci := 4) (v := .ref s2) (C := RX1) (T := TX1) (N := 5) hx hb hts igX1 hown hK hP 0 rfl rfl 2 (by decide) (hts _ q75) (fun _ h9 => h9) rfl dX1_weigh_236 ?_
            refine lv_iload_n hx hb dX1_weigh_239 rfl (lv_at hl 5 rfl) ?_
            refine lv_lload hx hb dX1_weigh_240 (lv_at hl 0 rfl) ?_
            refine lv_aload_n hx hb dX1_weigh_242 rfl (lv_at hl 3 rfl) ?_
            refine va_get (D := G.1) (ci := 4) (v := .long op) (C := RX1) (T := TX1) (N := 5) hx hb hts igX1 hown hK hP 0 rfl rfl 3 (by decide) (hts _ q76) (fun _ h9 => h9) rfl dX1_weigh_243 ?_
            refine lv_land hx hb dX1_weigh_246 ?_
            obtain ⟨hin, h⟩ := h
            refine va_last (D := G.1) hx hb hK hP hD hS 2 1 rfl rfl hin dX1_weigh_247 (fun H locs hP hD hS => ?_)
            have hP : PP G [(s0, .inr (4, [.ref b0, .ref s1, .ref s2, .long op, .int re])), (s1, .inl (G.2 1, 384, .inr (.inl dk))), (s2, .inl (G.2 1, 40, .inr (.inl (vp_updL wg' i3.toNatClampNeg ((r_6 ^^^ (-1 : Int64)) &&& op))))), (b0, .inr (3, [.ref b1, .ref b2, .ref b3, .ref b4, .ref b5, .ref b6, .int bn])), (b1, .inl (G.2 0, 40, .inl kf)), (b2, .inl (G.2 0, 40, .inl ff)), (b3, .inl (G.2 0, 40, .inl sf)), (b4, .inl (G.2 0, 40, .inl df)), (b5, .inl (G.2 1, 40, .inr (.inl pf))), (b6, .inl (G.2 1, 6, .inr (.inl gf)))] H := hP
            have hD : va_D A [(s0, .inr (4, [.ref b0, .ref s1, .ref s2, .long op, .int re])), (s1, .inl (G.2 1, 384, .inr (.inl dk))), (s2, .inl (G.2 1, 40, .inr (.inl (vp_updL wg' i3.toNatClampNeg ((r_6 ^^^ (-1 : Int64)) &&& op))))), (b0, .inr (3, [.ref b1, .ref b2, .ref b3, .ref b4, .ref b5, .ref b6, .int bn])), (b1, .inl (G.2 0, 40, .inl kf)), (b2, .inl (G.2 0, 40, .inl ff)), (b3, .inl (G.2 0, 40, .inl sf)), (b4, .inl (G.2 0, 40, .inl df)), (b5, .inl (G.2 1, 40, .inr (.inl pf))), (b6, .inl (G.2 1, 6, .inr (.inl gf)))] := hD
            refine lv_iinc (v := (i3 + 1)) hx hb dX1_weigh_248 hl (k := 5) rfl (by rw [show Int32.ofInt 1 = 1 from by decide]) (Nat.le_of_ble_eq_true rfl) rfl (fun ls hl => ?_)
            have hl : lv_has ls 8 [(3, .int (i3 + 1)), (6, .long (r_6 ^^^ (-1 : Int64))), (5, .int r_3), (4, .int r_2), (0, .ref s0), (1, .long p1)] := hl
            refine lv_goto (tgt := 2) hx hb dX1_weigh_251 (by decide) ?_
            have hl := lv_sub (l' := [(0, .ref s0), (1, .long p1), (3, .int (i3 + 1))]) hl [4, 5, 0] rfl
            exact ih _ _ ls H locs hl hP hD hS h
          have h := h.2 hc1
          by_cases hc2 : r_4 = 2
          · have h := h.1 hc2
            refine lv_tableIn (tgt := 121) hx hb dX1_weigh_50 (by rw [hc2]; decide) (by rw [hc2]; decide) (by rw [hc2]; rfl) (by decide) ?_
            refine lv_aload_n hx hb dX1_weigh_121 rfl (lv_at hl 3 rfl) ?_
            refine lv_iload hx hb dX1_weigh_122 (lv_at hl 2 rfl) ?_
            have hPc := hP
            refine rdL (va_runV (C := RX1) (As := [.int r_2]) (rest := []) ⟨hx, hb, hml, hown, hts⟩ (kX1_worldsOf l G s0 s1 s2 b0 b1 b2 b3 b4 b5 b6 dk wg' op re kf ff sf df pf gf bn r_2 h) (cwV 1 hts (gdV q134 q135 q136 q3 q137) rfl rfl rfl (by decide +kernel) ⟨Nat.le_of_ble_eq_true rfl, Nat.le_of_ble_eq_true rfl⟩) (preV hPc hKK (va_recv hK hPc (ci := 4) (q0 := 0) rfl rfl)) rfl rfl hl.1 rfl (lv_room (Nat.le_of_ble_eq_true rfl)) dX1_weigh_124 ⟨Nat.zero_le _, Nat.zero_le _⟩) (fun r_7 h => ?_)
            refine lv_aload_n hx hb dX1_weigh_127 rfl (lv_at hl 3 rfl) ?_
            refine lv_iload hx hb dX1_weigh_128 (lv_at hl 1 rfl) ?_
            have hPc := hP
            refine rdL (va_runV (C := RX1) (As := [.int r_3]) (rest := [.long r_7]) ⟨hx, hb, hml, hown, hts⟩ (kX1_worldsOf l G s0 s1 s2 b0 b1 b2 b3 b4 b5 b6 dk wg' op re kf ff sf df pf gf bn r_3 h) (cwV 1 hts (gdV q134 q135 q136 q3 q137) rfl rfl rfl (by decide +kernel) ⟨Nat.le_of_ble_eq_true rfl, Nat.le_of_ble_eq_true rfl⟩) (preV hPc hKK (va_recv hK hPc (ci := 4) (q0 := 0) rfl rfl)) rfl rfl hl.1 rfl (lv_room (Nat.le_of_ble_eq_true rfl)) dX1_weigh_130 ⟨Nat.zero_le _, Nat.zero_le _⟩) (fun r_8 h => ?_)
            refine lv_land hx hb dX1_weigh_133 ?_
            refine lv_lstore hx hb dX1_weigh_134 hl (Nat.le_of_ble_eq_true rfl) rfl (fun ls hl => ?_)
            have hl : lv_has ls 8 [(6, .long (r_7 &&& r_8)), (5, .int r_3), (4, .int r_2), (0, .ref s0), (1, .long p1), (3, .int i3)] := hl
            refine lv_goto (tgt := 235) hx hb dX1_weigh_136 (by decide) ?_
            refine lv_aload_n hx hb dX1_weigh_235 rfl (lv_at hl 3 rfl) ?_
            refine va_get (D := G.1) (ci := 4) (v := .ref s2) (C := RX1) (T := TX1) (N := 5) hx hb hts igX1 hown hK hP 0 rfl rfl 2 (by decide) (hts _ q75) (fun _ h9 => h9) rfl dX1_weigh_236 ?_
            refine lv_iload_n hx hb dX1_weigh_239 rfl (lv_at hl 5 rfl) ?_
            refine lv_lload hx hb dX1_weigh_240 (lv_at hl 0 rfl) ?_
            refine lv_aload_n hx hb dX1_weigh_242 rfl (lv_at hl 3 rfl) ?_
            refine va_get (D := G.1) (ci := 4) (v := .long op) (C := RX1) (T := TX1) (N := 5) hx hb hts igX1 hown hK hP 0 rfl rfl 3 (by decide) (hts _ q76) (fun _ h9 => h9) rfl dX1_weigh_243 ?_
            refine lv_land hx hb dX1_weigh_246 ?_
            obtain ⟨hin, h⟩ := h
            refine va_last (D := G.1) hx hb hK hP hD hS 2 1 rfl rfl hin dX1_weigh_247 (fun H locs hP hD hS => ?_)
            have hP : PP G [(s0, .inr (4, [.ref b0, .ref s1, .ref s2, .long op, .int re])), (s1, .inl (G.2 1, 384, .inr (.inl dk))), (s2, .inl (G.2 1, 40, .inr (.inl (vp_updL wg' i3.toNatClampNeg ((r_7 &&& r_8) &&& op))))), (b0, .inr (3, [.ref b1, .ref b2, .ref b3, .ref b4, .ref b5, .ref b6, .int bn])), (b1, .inl (G.2 0, 40, .inl kf)), (b2, .inl (G.2 0, 40, .inl ff)), (b3, .inl (G.2 0, 40, .inl sf)), (b4, .inl (G.2 0, 40, .inl df)), (b5, .inl (G.2 1, 40, .inr (.inl pf))), (b6, .inl (G.2 1, 6, .inr (.inl gf)))] H := hP
            have hD : va_D A [(s0, .inr (4, [.ref b0, .ref s1, .ref s2, .long op, .int re])), (s1, .inl (G.2 1, 384, .inr (.inl dk))), (s2, .inl (G.2 1, 40, .inr (.inl (vp_updL wg' i3.toNatClampNeg ((r_7 &&& r_8) &&& op))))), (b0, .inr (3, [.ref b1, .ref b2, .ref b3, .ref b4, .ref b5, .ref b6, .int bn])), (b1, .inl (G.2 0, 40, .inl kf)), (b2, .inl (G.2 0, 40, .inl ff)), (b3, .inl (G.2 0, 40, .inl sf)), (b4, .inl (G.2 0, 40, .inl df)), (b5, .inl (G.2 1, 40, .inr (.inl pf))), (b6, .inl (G.2 1, 6, .inr (.inl gf)))] := hD
            refine lv_iinc (v := (i3 + 1)) hx hb dX1_weigh_248 hl (k := 5) rfl (by rw [show Int32.ofInt 1 = 1 from by decide]) (Nat.le_of_ble_eq_true rfl) rfl (fun ls hl => ?_)
            have hl : lv_has ls 8 [(3, .int (i3 + 1)), (6, .long (r_7 &&& r_8)), (5, .int r_3), (4, .int r_2), (0, .ref s0), (1, .long p1)] := hl
            refine lv_goto (tgt := 2) hx hb dX1_weigh_251 (by decide) ?_
            have hl := lv_sub (l' := [(0, .ref s0), (1, .long p1), (3, .int (i3 + 1))]) hl [4, 5, 0] rfl
            exact ih _ _ ls H locs hl hP hD hS h
          have h := h.2 hc2
          by_cases hc3 : r_4 = 3
          · have h := h.1 hc3
            refine lv_tableIn (tgt := 139) hx hb dX1_weigh_50 (by rw [hc3]; decide) (by rw [hc3]; decide) (by rw [hc3]; rfl) (by decide) ?_
            refine lv_aload_n hx hb dX1_weigh_139 rfl (lv_at hl 3 rfl) ?_
            refine lv_iload hx hb dX1_weigh_140 (lv_at hl 2 rfl) ?_
            have hPc := hP
            refine rdL (va_runV (C := RX1) (As := [.int r_2]) (rest := []) ⟨hx, hb, hml, hown, hts⟩ (kX1_worldsOf l G s0 s1 s2 b0 b1 b2 b3 b4 b5 b6 dk wg' op re kf ff sf df pf gf bn r_2 h) (cwV 1 hts (gdV q134 q135 q136 q3 q137) rfl rfl rfl (by decide +kernel) ⟨Nat.le_of_ble_eq_true rfl, Nat.le_of_ble_eq_true rfl⟩) (preV hPc hKK (va_recv hK hPc (ci := 4) (q0 := 0) rfl rfl)) rfl rfl hl.1 rfl (lv_room (Nat.le_of_ble_eq_true rfl)) dX1_weigh_142 ⟨Nat.zero_le _, Nat.zero_le _⟩) (fun r_9 h => ?_)
            refine lv_aload_n hx hb dX1_weigh_145 rfl (lv_at hl 3 rfl) ?_
            refine lv_iload hx hb dX1_weigh_146 (lv_at hl 1 rfl) ?_
            have hPc := hP
            refine rdL (va_runV (C := RX1) (As := [.int r_3]) (rest := [.long r_9]) ⟨hx, hb, hml, hown, hts⟩ (kX1_worldsOf l G s0 s1 s2 b0 b1 b2 b3 b4 b5 b6 dk wg' op re kf ff sf df pf gf bn r_3 h) (cwV 1 hts (gdV q134 q135 q136 q3 q137) rfl rfl rfl (by decide +kernel) ⟨Nat.le_of_ble_eq_true rfl, Nat.le_of_ble_eq_true rfl⟩) (preV hPc hKK (va_recv hK hPc (ci := 4) (q0 := 0) rfl rfl)) rfl rfl hl.1 rfl (lv_room (Nat.le_of_ble_eq_true rfl)) dX1_weigh_148 ⟨Nat.zero_le _, Nat.zero_le _⟩) (fun r_10 h => ?_)
            refine lv_lor hx hb dX1_weigh_151 ?_
            refine lv_lstore hx hb dX1_weigh_152 hl (Nat.le_of_ble_eq_true rfl) rfl (fun ls hl => ?_)
            have hl : lv_has ls 8 [(6, .long (r_9 ||| r_10)), (5, .int r_3), (4, .int r_2), (0, .ref s0), (1, .long p1), (3, .int i3)] := hl
            refine lv_goto (tgt := 235) hx hb dX1_weigh_154 (by decide) ?_
            refine lv_aload_n hx hb dX1_weigh_235 rfl (lv_at hl 3 rfl) ?_
            refine va_get (D := G.1) (ci := 4) (v := .ref s2) (C := RX1) (T := TX1) (N := 5) hx hb hts igX1 hown hK hP 0 rfl rfl 2 (by decide) (hts _ q75) (fun _ h9 => h9) rfl dX1_weigh_236 ?_
            refine lv_iload_n hx hb dX1_weigh_239 rfl (lv_at hl 5 rfl) ?_
            refine lv_lload hx hb dX1_weigh_240 (lv_at hl 0 rfl) ?_
            refine lv_aload_n hx hb dX1_weigh_242 rfl (lv_at hl 3 rfl) ?_
            refine va_get (D := G.1) (ci := 4) (v := .long op) (C := RX1) (T := TX1) (N := 5) hx hb hts igX1 hown hK hP 0 rfl rfl 3 (by decide) (hts _ q76) (fun _ h9 => h9) rfl dX1_weigh_243 ?_
            refine lv_land hx hb dX1_weigh_246 ?_
            obtain ⟨hin, h⟩ := h
            refine va_last (D := G.1) hx hb hK hP hD hS 2 1 rfl rfl hin dX1_weigh_247 (fun H locs hP hD hS => ?_)
            have hP : PP G [(s0, .inr (4, [.ref b0, .ref s1, .ref s2, .long op, .int re])), (s1, .inl (G.2 1, 384, .inr (.inl dk))), (s2, .inl (G.2 1, 40, .inr (.inl (vp_updL wg' i3.toNatClampNeg ((r_9 ||| r_10) &&& op))))), (b0, .inr (3, [.ref b1, .ref b2, .ref b3, .ref b4, .ref b5, .ref b6, .int bn])), (b1, .inl (G.2 0, 40, .inl kf)), (b2, .inl (G.2 0, 40, .inl ff)), (b3, .inl (G.2 0, 40, .inl sf)), (b4, .inl (G.2 0, 40, .inl df)), (b5, .inl (G.2 1, 40, .inr (.inl pf))), (b6, .inl (G.2 1, 6, .inr (.inl gf)))] H := hP
            have hD : va_D A [(s0, .inr (4, [.ref b0, .ref s1, .ref s2, .long op, .int re])), (s1, .inl (G.2 1, 384, .inr (.inl dk))), (s2, .inl (G.2 1, 40, .inr (.inl (vp_updL wg' i3.toNatClampNeg ((r_9 ||| r_10) &&& op))))), (b0, .inr (3, [.ref b1, .ref b2, .ref b3, .ref b4, .ref b5, .ref b6, .int bn])), (b1, .inl (G.2 0, 40, .inl kf)), (b2, .inl (G.2 0, 40, .inl ff)), (b3, .inl (G.2 0, 40, .inl sf)), (b4, .inl (G.2 0, 40, .inl df)), (b5, .inl (G.2 1, 40, .inr (.inl pf))), (b6, .inl (G.2 1, 6, .inr (.inl gf)))] := hD
            refine lv_iinc (v := (i3 + 1)) hx hb dX1_weigh_248 hl (k := 5) rfl (by rw [show Int32.ofInt 1 = 1 from by decide]) (Nat.le_of_ble_eq_true rfl) rfl (fun ls hl => ?_)
            have hl : lv_has ls 8 [(3, .int (i3 + 1)), (6, .long (r_9 ||| r_10)), (5, .int r_3), (4, .int r_2), (0, .ref s0), (1, .long p1)] := hl
            refine lv_goto (tgt := 2) hx hb dX1_weigh_251 (by decide) ?_
            have hl := lv_sub (l' := [(0, .ref s0), (1, .long p1), (3, .int (i3 + 1))]) hl [4, 5, 0] rfl
            exact ih _ _ ls H locs hl hP hD hS h
          have h := h.2 hc3
          by_cases hc4 : r_4 = 4
          · have h := h.1 hc4
            refine lv_tableIn (tgt := 157) hx hb dX1_weigh_50 (by rw [hc4]; decide) (by rw [hc4]; decide) (by rw [hc4]; rfl) (by decide) ?_
            refine lv_aload_n hx hb dX1_weigh_157 rfl (lv_at hl 3 rfl) ?_
            refine lv_iconst (v := 1) hx hb dX1_weigh_158 (by decide) ?_
            refine lv_iload hx hb dX1_weigh_159 (lv_at hl 2 rfl) ?_
            refine lv_ishl hx hb dX1_weigh_161 ?_
            refine lv_aload_n hx hb dX1_weigh_162 rfl (lv_at hl 3 rfl) ?_
            refine lv_iload hx hb dX1_weigh_163 (lv_at hl 1 rfl) ?_
            have hPc := hP
            refine rdL (va_runV (C := RX1) (As := [.int r_3]) (rest := [.int ((1 : Int32) <<< (r_2 &&& 31)), .ref s0]) ⟨hx, hb, hml, hown, hts⟩ (kX1_worldsOf l G s0 s1 s2 b0 b1 b2 b3 b4 b5 b6 dk wg' op re kf ff sf df pf gf bn r_3 h) (cwV 1 hts (gdV q134 q135 q136 q3 q137) rfl rfl rfl (by decide +kernel) ⟨Nat.le_of_ble_eq_true rfl, Nat.le_of_ble_eq_true rfl⟩) (preV hPc hKK (va_recv hK hPc (ci := 4) (q0 := 0) rfl rfl)) rfl rfl hl.1 rfl (lv_room (Nat.le_of_ble_eq_true rfl)) dX1_weigh_165 ⟨Nat.zero_le _, Nat.zero_le _⟩) (fun r_11 h => ?_)
            have hPc := hP
            refine rdL (va_runV (C := RX1) (As := [.int ((1 : Int32) <<< (r_2 &&& 31)), .long r_11]) (rest := []) ⟨hx, hb, hml, hown, hts⟩ (kX1_knownToAll l G s0 s1 s2 b0 b1 b2 b3 b4 b5 b6 dk wg' op re kf ff sf df pf gf bn ((1 : Int32) <<< (r_2 &&& 31)) r_11 h) (cwV 2 hts (gdV q139 q141 qs0 q3 q142) rfl rfl rfl (by decide +kernel) ⟨Nat.le_of_ble_eq_true rfl, Nat.le_of_ble_eq_true rfl⟩) (preV hPc hKK (va_recv hK hPc (ci := 4) (q0 := 0) rfl rfl)) rfl rfl hl.1 rfl (lv_room (Nat.le_of_ble_eq_true rfl)) dX1_weigh_168 ⟨Nat.zero_le _, Nat.zero_le _⟩) (fun r_12 h => ?_)
            refine lv_lstore hx hb dX1_weigh_171 hl (Nat.le_of_ble_eq_true rfl) rfl (fun ls hl => ?_)
            have hl : lv_has ls 8 [(6, .long r_12), (5, .int r_3), (4, .int r_2), (0, .ref s0), (1, .long p1), (3, .int i3)] := hl
            refine lv_goto (tgt := 235) hx hb dX1_weigh_173 (by decide) ?_
            refine lv_aload_n hx hb dX1_weigh_235 rfl (lv_at hl 3 rfl) ?_
            refine va_get (D := G.1) (ci := 4) (v := .ref s2) (C := RX1) (T := TX1) (N := 5) hx hb hts igX1 hown hK hP 0 rfl rfl 2 (by decide) (hts _ q75) (fun _ h9 => h9) rfl dX1_weigh_236 ?_
            refine lv_iload_n hx hb dX1_weigh_239 rfl (lv_at hl 5 rfl) ?_
            refine lv_lload hx hb dX1_weigh_240 (lv_at hl 0 rfl) ?_
            refine lv_aload_n hx hb dX1_weigh_242 rfl (lv_at hl 3 rfl) ?_
            refine va_get (D := G.1) (ci := 4) (v := .long op) (C := RX1) (T := TX1) (N := 5) hx hb hts igX1 hown hK hP 0 rfl rfl 3 (by decide) (hts _ q76) (fun _ h9 => h9) rfl dX1_weigh_243 ?_
            refine lv_land hx hb dX1_weigh_246 ?_
            obtain ⟨hin, h⟩ := h
            refine va_last (D := G.1) hx hb hK hP hD hS 2 1 rfl rfl hin dX1_weigh_247 (fun H locs hP hD hS => ?_)
            have hP : PP G [(s0, .inr (4, [.ref b0, .ref s1, .ref s2, .long op, .int re])), (s1, .inl (G.2 1, 384, .inr (.inl dk))), (s2, .inl (G.2 1, 40, .inr (.inl (vp_updL wg' i3.toNatClampNeg (r_12 &&& op))))), (b0, .inr (3, [.ref b1, .ref b2, .ref b3, .ref b4, .ref b5, .ref b6, .int bn])), (b1, .inl (G.2 0, 40, .inl kf)), (b2, .inl (G.2 0, 40, .inl ff)), (b3, .inl (G.2 0, 40, .inl sf)), (b4, .inl (G.2 0, 40, .inl df)), (b5, .inl (G.2 1, 40, .inr (.inl pf))), (b6, .inl (G.2 1, 6, .inr (.inl gf)))] H := hP
            have hD : va_D A [(s0, .inr (4, [.ref b0, .ref s1, .ref s2, .long op, .int re])), (s1, .inl (G.2 1, 384, .inr (.inl dk))), (s2, .inl (G.2 1, 40, .inr (.inl (vp_updL wg' i3.toNatClampNeg (r_12 &&& op))))), (b0, .inr (3, [.ref b1, .ref b2, .ref b3, .ref b4, .ref b5, .ref b6, .int bn])), (b1, .inl (G.2 0, 40, .inl kf)), (b2, .inl (G.2 0, 40, .inl ff)), (b3, .inl (G.2 0, 40, .inl sf)), (b4, .inl (G.2 0, 40, .inl df)), (b5, .inl (G.2 1, 40, .inr (.inl pf))), (b6, .inl (G.2 1, 6, .inr (.inl gf)))] := hD
            refine lv_iinc (v := (i3 + 1)) hx hb dX1_weigh_248 hl (k := 5) rfl (by rw [show Int32.ofInt 1 = 1 from by decide]) (Nat.le_of_ble_eq_true rfl) rfl (fun ls hl => ?_)
            have hl : lv_has ls 8 [(3, .int (i3 + 1)), (6, .long r_12), (5, .int r_3), (4, .int r_2), (0, .ref s0), (1, .long p1)] := hl
            refine lv_goto (tgt := 2) hx hb dX1_weigh_251 (by decide) ?_
            have hl := lv_sub (l' := [(0, .ref s0), (1, .long p1), (3, .int (i3 + 1))]) hl [4, 5, 0] rfl
            exact ih _ _ ls H locs hl hP hD hS h
          have h := h.2 hc4
          by_cases hc5 : r_4 = 5
          · have h := h.1 hc5
            refine lv_tableIn (tgt := 176) hx hb dX1_weigh_50 (by rw [hc5]; decide) (by rw [hc5]; decide) (by rw [hc5]; rfl) (by decide) ?_
            refine lv_aload_n hx hb dX1_weigh_176 rfl (lv_at hl 3 rfl) ?_
            refine lv_iload hx hb dX1_weigh_177 (lv_at hl 2 rfl) ?_
            refine lv_aload_n hx hb dX1_weigh_179 rfl (lv_at hl 3 rfl) ?_
            refine lv_iload hx hb dX1_weigh_180 (lv_at hl 1 rfl) ?_
            have hPc := hP
            refine rdL (va_runV (C := RX1) (As := [.int r_3]) (rest := [.int r_2, .ref s0]) ⟨hx, hb, hml, hown, hts⟩ (kX1_worldsOf l G s0 s1 s2 b0 b1 b2 b3 b4 b5 b6 dk wg' op re kf ff sf df pf gf bn r_3 h) (cwV 1 hts (gdV q134 q135 q136 q3 q137) rfl rfl rfl (by decide +kernel) ⟨Nat.le_of_ble_eq_true rfl, Nat.le_of_ble_eq_true rfl⟩) (preV hPc hKK (va_recv hK hPc (ci := 4) (q0 := 0) rfl rfl)) rfl rfl hl.1 rfl (lv_room (Nat.le_of_ble_eq_true rfl)) dX1_weigh_182 ⟨Nat.zero_le _, Nat.zero_le _⟩) (fun r_13 h => ?_)
            have hPc := hP
            refine rdL (va_runV (C := RX1) (As := [.int r_2, .long r_13]) (rest := []) ⟨hx, hb, hml, hown, hts⟩ (kX1_knownToAll l G s0 s1 s2 b0 b1 b2 b3 b4 b5 b6 dk wg' op re kf ff sf df pf gf bn r_2 r_13 h) (cwV 2 hts (gdV q139 q141 qs0 q3 q142) rfl rfl rfl (by decide +kernel) ⟨Nat.le_of_ble_eq_true rfl, Nat.le_of_ble_eq_true rfl⟩) (preV hPc hKK (va_recv hK hPc (ci := 4) (q0 := 0) rfl rfl)) rfl rfl hl.1 rfl (lv_room (Nat.le_of_ble_eq_true rfl)) dX1_weigh_185 ⟨Nat.zero_le _, Nat.zero_le _⟩) (fun r_14 h => ?_)
            refine lv_lstore hx hb dX1_weigh_188 hl (Nat.le_of_ble_eq_true rfl) rfl (fun ls hl => ?_)
            have hl : lv_has ls 8 [(6, .long r_14), (5, .int r_3), (4, .int r_2), (0, .ref s0), (1, .long p1), (3, .int i3)] := hl
            refine lv_goto (tgt := 235) hx hb dX1_weigh_190 (by decide) ?_
            refine lv_aload_n hx hb dX1_weigh_235 rfl (lv_at hl 3 rfl) ?_
            refine va_get (D := G.1) (ci := 4) (v := .ref s2) (C := RX1) (T := TX1) (N := 5) hx hb hts igX1 hown hK hP 0 rfl rfl 2 (by decide) (hts _ q75) (fun _ h9 => h9) rfl dX1_weigh_236 ?_
            refine lv_iload_n hx hb dX1_weigh_239 rfl (lv_at hl 5 rfl) ?_
            refine lv_lload hx hb dX1_weigh_240 (lv_at hl 0 rfl) ?_
            refine lv_aload_n hx hb dX1_weigh_242 rfl (lv_at hl 3 rfl) ?_
            refine va_get (D := G.1) (ci := 4) (v := .long op) (C := RX1) (T := TX1) (N := 5) hx hb hts igX1 hown hK hP 0 rfl rfl 3 (by decide) (hts _ q76) (fun _ h9 => h9) rfl dX1_weigh_243 ?_
            refine lv_land hx hb dX1_weigh_246 ?_
            obtain ⟨hin, h⟩ := h
            refine va_last (D := G.1) hx hb hK hP hD hS 2 1 rfl rfl hin dX1_weigh_247 (fun H locs hP hD hS => ?_)
            have hP : PP G [(s0, .inr (4, [.ref b0, .ref s1, .ref s2, .long op, .int re])), (s1, .inl (G.2 1, 384, .inr (.inl dk))), (s2, .inl (G.2 1, 40, .inr (.inl (vp_updL wg' i3.toNatClampNeg (r_14 &&& op))))), (b0, .inr (3, [.ref b1, .ref b2, .ref b3, .ref b4, .ref b5, .ref b6, .int bn])), (b1, .inl (G.2 0, 40, .inl kf)), (b2, .inl (G.2 0, 40, .inl ff)), (b3, .inl (G.2 0, 40, .inl sf)), (b4, .inl (G.2 0, 40, .inl df)), (b5, .inl (G.2 1, 40, .inr (.inl pf))), (b6, .inl (G.2 1, 6, .inr (.inl gf)))] H := hP
            have hD : va_D A [(s0, .inr (4, [.ref b0, .ref s1, .ref s2, .long op, .int re])), (s1, .inl (G.2 1, 384, .inr (.inl dk))), (s2, .inl (G.2 1, 40, .inr (.inl (vp_updL wg' i3.toNatClampNeg (r_14 &&& op))))), (b0, .inr (3, [.ref b1, .ref b2, .ref b3, .ref b4, .ref b5, .ref b6, .int bn])), (b1, .inl (G.2 0, 40, .inl kf)), (b2, .inl (G.2 0, 40, .inl ff)), (b3, .inl (G.2 0, 40, .inl sf)), (b4, .inl (G.2 0, 40, .inl df)), (b5, .inl (G.2 1, 40, .inr (.inl pf))), (b6, .inl (G.2 1, 6, .inr (.inl gf)))] := hD
            refine lv_iinc (v := (i3 + 1)) hx hb dX1_weigh_248 hl (k := 5) rfl (by rw [show Int32.ofInt 1 = 1 from by decide]) (Nat.le_of_ble_eq_true rfl) rfl (fun ls hl => ?_)
            have hl : lv_has ls 8 [(3, .int (i3 + 1)), (6, .long r_14), (5, .int r_3), (4, .int r_2), (0, .ref s0), (1, .long p1)] := hl
            refine lv_goto (tgt := 2) hx hb dX1_weigh_251 (by decide) ?_
            have hl := lv_sub (l' := [(0, .ref s0), (1, .long p1), (3, .int (i3 + 1))]) hl [4, 5, 0] rfl
            exact ih _ _ ls H locs hl hP hD hS h
          have h := h.2 hc5
          by_cases hc6 : r_4 = 6
          · have h := h.1 hc6
            refine lv_tableIn (tgt := 193) hx hb dX1_weigh_50 (by rw [hc6]; decide) (by rw [hc6]; decide) (by rw [hc6]; rfl) (by decide) ?_
            refine lv_aload_n hx hb dX1_weigh_193 rfl (lv_at hl 3 rfl) ?_
            refine lv_iload hx hb dX1_weigh_194 (lv_at hl 2 rfl) ?_
            refine lv_aload_n hx hb dX1_weigh_196 rfl (lv_at hl 3 rfl) ?_
            refine lv_iload hx hb dX1_weigh_197 (lv_at hl 1 rfl) ?_
            have hPc := hP
            refine rdL (va_runV (C := RX1) (As := [.int r_3]) (rest := [.int r_2, .ref s0]) ⟨hx, hb, hml, hown, hts⟩ (kX1_worldsOf l G s0 s1 s2 b0 b1 b2 b3 b4 b5 b6 dk wg' op re kf ff sf df pf gf bn r_3 h) (cwV 1 hts (gdV q134 q135 q136 q3 q137) rfl rfl rfl (by decide +kernel) ⟨Nat.le_of_ble_eq_true rfl, Nat.le_of_ble_eq_true rfl⟩) (preV hPc hKK (va_recv hK hPc (ci := 4) (q0 := 0) rfl rfl)) rfl rfl hl.1 rfl (lv_room (Nat.le_of_ble_eq_true rfl)) dX1_weigh_199 ⟨Nat.zero_le _, Nat.zero_le _⟩) (fun r_15 h => ?_)
            refine lv_ldc2 hx hb hown (hts _ q95) dX1_weigh_202 ?_
            refine lv_lxor hx hb dX1_weigh_205 ?_
            have hPc := hP
            refine rdL (va_runV (C := RX1) (As := [.int r_2, .long (r_15 ^^^ (-1 : Int64))]) (rest := []) ⟨hx, hb, hml, hown, hts⟩ (kX1_reached l G s0 s1 s2 b0 b1 b2 b3 b4 b5 b6 dk wg' op re kf ff sf df pf gf bn r_2 (r_15 ^^^ (-1 : Int64)) h) (cwV 2 hts (gdV q160 q162 qs2 q3 q163) rfl rfl rfl (by decide +kernel) ⟨Nat.le_of_ble_eq_true rfl, Nat.le_of_ble_eq_true rfl⟩) (preV hPc hKK (va_recv hK hPc (ci := 4) (q0 := 0) rfl rfl)) rfl rfl hl.1 rfl (lv_room (Nat.le_of_ble_eq_true rfl)) dX1_weigh_206 ⟨Nat.zero_le _, Nat.zero_le _⟩) (fun r_16 h => ?_)
            refine lv_ldc2 hx hb hown (hts _ q95) dX1_weigh_209 ?_
            refine lv_lxor hx hb dX1_weigh_212 ?_
            refine lv_lstore hx hb dX1_weigh_213 hl (Nat.le_of_ble_eq_true rfl) rfl (fun ls hl => ?_)
            have hl : lv_has ls 8 [(6, .long (r_16 ^^^ (-1 : Int64))), (5, .int r_3), (4, .int r_2), (0, .ref s0), (1, .long p1), (3, .int i3)] := hl
            refine lv_goto (tgt := 235) hx hb dX1_weigh_215 (by decide) ?_
            refine lv_aload_n hx hb dX1_weigh_235 rfl (lv_at hl 3 rfl) ?_
            refine va_get (D := G.1) (ci := 4) (v := .ref s2) (C := RX1) (T := TX1) (N := 5) hx hb hts igX1 hown hK hP 0 rfl rfl 2 (by decide) (hts _ q75) (fun _ h9 => h9) rfl dX1_weigh_236 ?_
            refine lv_iload_n hx hb dX1_weigh_239 rfl (lv_at hl 5 rfl) ?_
            refine lv_lload hx hb dX1_weigh_240 (lv_at hl 0 rfl) ?_
            refine lv_aload_n hx hb dX1_weigh_242 rfl (lv_at hl 3 rfl) ?_
            refine va_get (D := G.1) (ci := 4) (v := .long op) (C := RX1) (T := TX1) (N := 5) hx hb hts igX1 hown hK hP 0 rfl rfl 3 (by decide) (hts _ q76) (fun _ h9 => h9) rfl dX1_weigh_243 ?_
            refine lv_land hx hb dX1_weigh_246 ?_
            obtain ⟨hin, h⟩ := h
            refine va_last (D := G.1) hx hb hK hP hD hS 2 1 rfl rfl hin dX1_weigh_247 (fun H locs hP hD hS => ?_)
            have hP : PP G [(s0, .inr (4, [.ref b0, .ref s1, .ref s2, .long op, .int re])), (s1, .inl (G.2 1, 384, .inr (.inl dk))), (s2, .inl (G.2 1, 40, .inr (.inl (vp_updL wg' i3.toNatClampNeg ((r_16 ^^^ (-1 : Int64)) &&& op))))), (b0, .inr (3, [.ref b1, .ref b2, .ref b3, .ref b4, .ref b5, .ref b6, .int bn])), (b1, .inl (G.2 0, 40, .inl kf)), (b2, .inl (G.2 0, 40, .inl ff)), (b3, .inl (G.2 0, 40, .inl sf)), (b4, .inl (G.2 0, 40, .inl df)), (b5, .inl (G.2 1, 40, .inr (.inl pf))), (b6, .inl (G.2 1, 6, .inr (.inl gf)))] H := hP
            have hD : va_D A [(s0, .inr (4, [.ref b0, .ref s1, .ref s2, .long op, .int re])), (s1, .inl (G.2 1, 384, .inr (.inl dk))), (s2, .inl (G.2 1, 40, .inr (.inl (vp_updL wg' i3.toNatClampNeg ((r_16 ^^^ (-1 : Int64)) &&& op))))), (b0, .inr (3, [.ref b1, .ref b2, .ref b3, .ref b4, .ref b5, .ref b6, .int bn])), (b1, .inl (G.2 0, 40, .inl kf)), (b2, .inl (G.2 0, 40, .inl ff)), (b3, .inl (G.2 0, 40, .inl sf)), (b4, .inl (G.2 0, 40, .inl df)), (b5, .inl (G.2 1, 40, .inr (.inl pf))), (b6, .inl (G.2 1, 6, .inr (.inl gf)))] := hD
            refine lv_iinc (v := (i3 + 1)) hx hb dX1_weigh_248 hl (k := 5) rfl (by rw [show Int32.ofInt 1 = 1 from by decide]) (Nat.le_of_ble_eq_true rfl) rfl (fun ls hl => ?_)
            have hl : lv_has ls 8 [(3, .int (i3 + 1)), (6, .long (r_16 ^^^ (-1 : Int64))), (5, .int r_3), (4, .int r_2), (0, .ref s0), (1, .long p1)] := hl
            refine lv_goto (tgt := 2) hx hb dX1_weigh_251 (by decide) ?_
            have hl := lv_sub (l' := [(0, .ref s0), (1, .long p1), (3, .int (i3 + 1))]) hl [4, 5, 0] rfl
            exact ih _ _ ls H locs hl hP hD hS h
          have h := h.2 hc6
          by_cases hc7 : r_4 = 7
          · have h := h.1 hc7
            refine lv_tableIn (tgt := 218) hx hb dX1_weigh_50 (by rw [hc7]; decide) (by rw [hc7]; decide) (by rw [hc7]; rfl) (by decide) ?_
            refine lv_aload_n hx hb dX1_weigh_218 rfl (lv_at hl 3 rfl) ?_
            refine lv_iload hx hb dX1_weigh_219 (lv_at hl 2 rfl) ?_
            refine lv_aload_n hx hb dX1_weigh_221 rfl (lv_at hl 3 rfl) ?_
            refine lv_iload hx hb dX1_weigh_222 (lv_at hl 1 rfl) ?_
            have hPc := hP
            refine rdL (va_runV (C := RX1) (As := [.int r_3]) (rest := [.int r_2, .ref s0]) ⟨hx, hb, hml, hown, hts⟩ (kX1_worldsOf l G s0 s1 s2 b0 b1 b2 b3 b4 b5 b6 dk wg' op re kf ff sf df pf gf bn r_3 h) (cwV 1 hts (gdV q134 q135 q136 q3 q137) rfl rfl rfl (by decide +kernel) ⟨Nat.le_of_ble_eq_true rfl, Nat.le_of_ble_eq_true rfl⟩) (preV hPc hKK (va_recv hK hPc (ci := 4) (q0 := 0) rfl rfl)) rfl rfl hl.1 rfl (lv_room (Nat.le_of_ble_eq_true rfl)) dX1_weigh_224 ⟨Nat.zero_le _, Nat.zero_le _⟩) (fun r_17 h => ?_)
            have hPc := hP
            refine rdL (va_runV (C := RX1) (As := [.int r_2, .long r_17]) (rest := []) ⟨hx, hb, hml, hown, hts⟩ (kX1_knownTogether l G s0 s1 s2 b0 b1 b2 b3 b4 b5 b6 dk wg' op re kf ff sf df pf gf bn r_2 r_17 h) (cwV 2 hts (gdV q164 q166 qs3 q3 q167) rfl rfl rfl (by decide +kernel) ⟨Nat.le_of_ble_eq_true rfl, Nat.le_of_ble_eq_true rfl⟩) (preV hPc hKK (va_recv hK hPc (ci := 4) (q0 := 0) rfl rfl)) rfl rfl hl.1 rfl (lv_room (Nat.le_of_ble_eq_true rfl)) dX1_weigh_227 ⟨Nat.zero_le _, Nat.zero_le _⟩) (fun r_18 h => ?_)
            refine lv_lstore hx hb dX1_weigh_230 hl (Nat.le_of_ble_eq_true rfl) rfl (fun ls hl => ?_)
            have hl : lv_has ls 8 [(6, .long r_18), (5, .int r_3), (4, .int r_2), (0, .ref s0), (1, .long p1), (3, .int i3)] := hl
            refine lv_goto (tgt := 235) hx hb dX1_weigh_232 (by decide) ?_
            refine lv_aload_n hx hb dX1_weigh_235 rfl (lv_at hl 3 rfl) ?_
            refine va_get (D := G.1) (ci := 4) (v := .ref s2) (C := RX1) (T := TX1) (N := 5) hx hb hts igX1 hown hK hP 0 rfl rfl 2 (by decide) (hts _ q75) (fun _ h9 => h9) rfl dX1_weigh_236 ?_
            refine lv_iload_n hx hb dX1_weigh_239 rfl (lv_at hl 5 rfl) ?_
            refine lv_lload hx hb dX1_weigh_240 (lv_at hl 0 rfl) ?_
            refine lv_aload_n hx hb dX1_weigh_242 rfl (lv_at hl 3 rfl) ?_
            refine va_get (D := G.1) (ci := 4) (v := .long op) (C := RX1) (T := TX1) (N := 5) hx hb hts igX1 hown hK hP 0 rfl rfl 3 (by decide) (hts _ q76) (fun _ h9 => h9) rfl dX1_weigh_243 ?_
            refine lv_land hx hb dX1_weigh_246 ?_
            obtain ⟨hin, h⟩ := h
            refine va_last (D := G.1) hx hb hK hP hD hS 2 1 rfl rfl hin dX1_weigh_247 (fun H locs hP hD hS => ?_)
            have hP : PP G [(s0, .inr (4, [.ref b0, .ref s1, .ref s2, .long op, .int re])), (s1, .inl (G.2 1, 384, .inr (.inl dk))), (s2, .inl (G.2 1, 40, .inr (.inl (vp_updL wg' i3.toNatClampNeg (r_18 &&& op))))), (b0, .inr (3, [.ref b1, .ref b2, .ref b3, .ref b4, .ref b5, .ref b6, .int bn])), (b1, .inl (G.2 0, 40, .inl kf)), (b2, .inl (G.2 0, 40, .inl ff)), (b3, .inl (G.2 0, 40, .inl sf)), (b4, .inl (G.2 0, 40, .inl df)), (b5, .inl (G.2 1, 40, .inr (.inl pf))), (b6, .inl (G.2 1, 6, .inr (.inl gf)))] H := hP
            have hD : va_D A [(s0, .inr (4, [.ref b0, .ref s1, .ref s2, .long op, .int re])), (s1, .inl (G.2 1, 384, .inr (.inl dk))), (s2, .inl (G.2 1, 40, .inr (.inl (vp_updL wg' i3.toNatClampNeg (r_18 &&& op))))), (b0, .inr (3, [.ref b1, .ref b2, .ref b3, .ref b4, .ref b5, .ref b6, .int bn])), (b1, .inl (G.2 0, 40, .inl kf)), (b2, .inl (G.2 0, 40, .inl ff)), (b3, .inl (G.2 0, 40, .inl sf)), (b4, .inl (G.2 0, 40, .inl df)), (b5, .inl (G.2 1, 40, .inr (.inl pf))), (b6, .inl (G.2 1, 6, .inr (.inl gf)))] := hD
            refine lv_iinc (v := (i3 + 1)) hx hb dX1_weigh_248 hl (k := 5) rfl (by rw [show Int32.ofInt 1 = 1 from by decide]) (Nat.le_of_ble_eq_true rfl) rfl (fun ls hl => ?_)
            have hl : lv_has ls 8 [(3, .int (i3 + 1)), (6, .long r_18), (5, .int r_3), (4, .int r_2), (0, .ref s0), (1, .long p1)] := hl
            refine lv_goto (tgt := 2) hx hb dX1_weigh_251 (by decide) ?_
            have hl := lv_sub (l' := [(0, .ref s0), (1, .long p1), (3, .int (i3 + 1))]) hl [4, 5, 0] rfl
            exact ih _ _ ls H locs hl hP hD hS h
          have h := h.2 hc7
          refine lv_tableOut (tgt := 235) hx hb dX1_weigh_50 (tsw_0_7 hc0 hc1 hc2 hc3 hc4 hc5 hc6 hc7) (by decide) ?_
          refine lv_aload_n hx hb dX1_weigh_235 rfl (lv_at hl 3 rfl) ?_
          refine va_get (D := G.1) (ci := 4) (v := .ref s2) (C := RX1) (T := TX1) (N := 5) hx hb hts igX1 hown hK hP 0 rfl rfl 2 (by decide) (hts _ q75) (fun _ h9 => h9) rfl dX1_weigh_236 ?_
          refine lv_iload_n hx hb dX1_weigh_239 rfl (lv_at hl 5 rfl) ?_
          refine lv_lload hx hb dX1_weigh_240 (lv_at hl 0 rfl) ?_
          refine lv_aload_n hx hb dX1_weigh_242 rfl (lv_at hl 3 rfl) ?_
          refine va_get (D := G.1) (ci := 4) (v := .long op) (C := RX1) (T := TX1) (N := 5) hx hb hts igX1 hown hK hP 0 rfl rfl 3 (by decide) (hts _ q76) (fun _ h9 => h9) rfl dX1_weigh_243 ?_
          refine lv_land hx hb dX1_weigh_246 ?_
          obtain ⟨hin, h⟩ := h
          refine va_last (D := G.1) hx hb hK hP hD hS 2 1 rfl rfl hin dX1_weigh_247 (fun H locs hP hD hS => ?_)
          have hP : PP G [(s0, .inr (4, [.ref b0, .ref s1, .ref s2, .long op, .int re])), (s1, .inl (G.2 1, 384, .inr (.inl dk))), (s2, .inl (G.2 1, 40, .inr (.inl (vp_updL wg' i3.toNatClampNeg ((0 : Int64) &&& op))))), (b0, .inr (3, [.ref b1, .ref b2, .ref b3, .ref b4, .ref b5, .ref b6, .int bn])), (b1, .inl (G.2 0, 40, .inl kf)), (b2, .inl (G.2 0, 40, .inl ff)), (b3, .inl (G.2 0, 40, .inl sf)), (b4, .inl (G.2 0, 40, .inl df)), (b5, .inl (G.2 1, 40, .inr (.inl pf))), (b6, .inl (G.2 1, 6, .inr (.inl gf)))] H := hP
          have hD : va_D A [(s0, .inr (4, [.ref b0, .ref s1, .ref s2, .long op, .int re])), (s1, .inl (G.2 1, 384, .inr (.inl dk))), (s2, .inl (G.2 1, 40, .inr (.inl (vp_updL wg' i3.toNatClampNeg ((0 : Int64) &&& op))))), (b0, .inr (3, [.ref b1, .ref b2, .ref b3, .ref b4, .ref b5, .ref b6, .int bn])), (b1, .inl (G.2 0, 40, .inl kf)), (b2, .inl (G.2 0, 40, .inl ff)), (b3, .inl (G.2 0, 40, .inl sf)), (b4, .inl (G.2 0, 40, .inl df)), (b5, .inl (G.2 1, 40, .inr (.inl pf))), (b6, .inl (G.2 1, 6, .inr (.inl gf)))] := hD
          refine lv_iinc (v := (i3 + 1)) hx hb dX1_weigh_248 hl (k := 5) rfl (by rw [show Int32.ofInt 1 = 1 from by decide]) (Nat.le_of_ble_eq_true rfl) rfl (fun ls hl => ?_)
          have hl : lv_has ls 8 [(3, .int (i3 + 1)), (6, .long (0 : Int64)), (5, .int r_3), (4, .int r_2), (0, .ref s0), (1, .long p1)] := hl
          refine lv_goto (tgt := 2) hx hb dX1_weigh_251 (by decide) ?_
          have hl := lv_sub (l' := [(0, .ref s0), (1, .long p1), (3, .int (i3 + 1))]) hl [4, 5, 0] rfl
          exact ih _ _ ls H locs hl hP hD hS h
        · have h := h.2 hc
          refine lv_goto (tgt := 248) hx hb dX1_weigh_16 (by decide) ?_
          refine lv_iinc (v := (i3 + 1)) hx hb dX1_weigh_248 hl (k := 2) rfl (by rw [show Int32.ofInt 1 = 1 from by decide]) (Nat.le_of_ble_eq_true rfl) rfl (fun ls hl => ?_)
          have hl : lv_has ls 8 [(3, .int (i3 + 1)), (0, .ref s0), (1, .long p1)] := hl
          refine lv_goto (tgt := 2) hx hb dX1_weigh_251 (by decide) ?_
          have hl := lv_sub (l' := [(0, .ref s0), (1, .long p1), (3, .int (i3 + 1))]) hl [1, 2, 0] rfl
          exact ih _ _ ls H locs hl hP hD hS h
  refine lv_iconst (v := 0) hx hb dX1_weigh_0 (by decide) ?_
  refine lv_istore_n hx hb dX1_weigh_1 rfl hl (Nat.le_of_ble_eq_true rfl) rfl (fun ls hl => ?_)
  have hl : lv_has ls 8 [(3, .int (0 : Int32)), (0, .ref s0), (1, .long p1)] := hl
  have hl := lv_sub (l' := [(0, .ref s0), (1, .long p1), (3, .int (0 : Int32))]) hl [1, 2, 0] rfl
  obtain ⟨nF, h⟩ := h
  refine loop2 _ trivial ?_ nF (0 : Int32) wg _ _ _ hl hP hD hS h
  · intro i3 wg' ls H locs hl hP hD hS h
    subst hQC; exact W.vret hx hb hr (fun t ht hW => ⟨⟨wg', rfl, h, by rw [ht]; exact hP, hD⟩, hS.F ht⟩) hS.2.2 dX1_weigh_254
theorem dX1_restart_0 : decode cX1_restart 0 = .ok (.aload_n 0, 1) := by decide +kernel
theorem dX1_restart_1 : decode cX1_restart 1 = .ok (.iload_n 1, 1) := by decide +kernel
theorem dX1_restart_2 : decode cX1_restart 2 = .ok (.putfield 22, 3) := by decide +kernel
theorem dX1_restart_5 : decode cX1_restart 5 = .ok (.aload_n 0, 1) := by decide +kernel
theorem dX1_restart_6 : decode cX1_restart 6 = .ok (.ldc2_w 26, 3) := by decide +kernel
theorem dX1_restart_9 : decode cX1_restart 9 = .ok (.putfield 28, 3) := by decide +kernel
theorem dX1_restart_12 : decode cX1_restart 12 = .ok (.iconst 0, 1) := by decide +kernel
theorem dX1_restart_13 : decode cX1_restart 13 = .ok (.istore_n 2, 1) := by decide +kernel
theorem dX1_restart_14 : decode cX1_restart 14 = .ok (.iload_n 2, 1) := by decide +kernel
theorem dX1_restart_15 : decode cX1_restart 15 = .ok (.sipush 384, 3) := by decide +kernel
theorem dX1_restart_18 : decode cX1_restart 18 = .ok (.if_icmp .ge 18, 3) := by decide +kernel
theorem dX1_restart_21 : decode cX1_restart 21 = .ok (.aload_n 0, 1) := by decide +kernel
theorem dX1_restart_22 : decode cX1_restart 22 = .ok (.getfield 9, 3) := by decide +kernel
theorem dX1_restart_25 : decode cX1_restart 25 = .ok (.iload_n 2, 1) := by decide +kernel
theorem dX1_restart_26 : decode cX1_restart 26 = .ok (.ldc2_w 26, 3) := by decide +kernel
theorem dX1_restart_29 : decode cX1_restart 29 = .ok (.lastore, 1) := by decide +kernel
theorem dX1_restart_30 : decode cX1_restart 30 = .ok (.iinc 2 1, 3) := by decide +kernel
theorem dX1_restart_33 : decode cX1_restart 33 = .ok (.goto (-19), 3) := by decide +kernel
theorem dX1_restart_36 : decode cX1_restart 36 = .ok (.aload_n 0, 1) := by decide +kernel
theorem dX1_restart_37 : decode cX1_restart 37 = .ok (.aload_n 0, 1) := by decide +kernel
theorem dX1_restart_38 : decode cX1_restart 38 = .ok (.getfield 18, 3) := by decide +kernel
theorem dX1_restart_41 : decode cX1_restart 41 = .ok (.invokevirtual 32, 3) := by decide +kernel
theorem dX1_restart_44 : decode cX1_restart 44 = .ok (.invokevirtual 38, 3) := by decide +kernel
theorem dX1_restart_47 : decode cX1_restart 47 = .ok (.return_, 1) := by decide +kernel
def wX1_restart_L14 (post : (Nat → Int64) × (Nat → Int64) × Int64 × Int32 → Prop) (K36 : Int32 → (Nat → Int64) → Prop) : Nat → Int32 → (Nat → Int64) → Prop
  | 0, _, _ => False
  | n+1, i2, dk' =>
    (((384 : Int32) ≤ i2) →
      K36 i2 dk'
    ) ∧ (¬ ((384 : Int32) ≤ i2) →
      vp_in i2 384 ∧
      wX1_restart_L14 post K36 n (i2 + 1) (vp_updL dk' i2.toNatClampNeg (-1 : Int64))
    )
def wX1_restart (post : (Nat → Int64) × (Nat → Int64) × Int64 × Int32 → Prop) (dk : Nat → Int64) (wg : Nat → Int64) (op : Int64) (re : Int32) (kf : Nat → Int32) (ff : Nat → Int32) (sf : Nat → Int32) (bn : Int32) (p1 : Int32) : Prop :=
  ∃ nF, wX1_restart_L14 post
    (fun i2 dk' =>
      wX0_everySentence (fun r_1 : Int64 =>
        wX1_weigh (fun (wg_1 : Nat → Int64) =>
          post (dk', wg_1, (-1 : Int64), p1)
          ) dk' wg (-1 : Int64) kf ff sf bn r_1
        ) bn
    )
     nF (0 : Int32) dk
abbrev wl_X1_restart : List Cond := .code yX1_restart cX1_restart 3 none :: lwg
abbrev rm_X1_restart : Room := { frames := 5, cells := 0, slots := 0, locals := 128 }
set_option maxHeartbeats 4000000 in
set_option maxRecDepth 100000 in
theorem kX1_restart {post : (Nat → Int64) × (Nat → Int64) × Int64 × Int32 → Prop} (l : Launch) (G : GT) (s0 : Nat) (s1 : Nat) (s2 : Nat) (b0 : Nat) (b1 : Nat) (b2 : Nat) (b3 : Nat) (b4 : Nat) (b5 : Nat) (b6 : Nat) (dk : Nat → Int64) (wg : Nat → Int64) (op : Int64) (re : Int32) (kf : Nat → Int32) (ff : Nat → Int32) (sf : Nat → Int32) (df : Nat → Int32) (pf : Nat → Int64) (gf : Nat → Int64) (bn : Int32) (p1 : Int32) (sz : Nat) (h : wX1_restart post dk wg op re kf ff sf bn p1) : Met l yX1_restart wl_X1_restart rm_X1_restart (va_Pc [.ref s0, .int p1] (fun U => U.heap.size = sz ∧ PP G [(s0, .inr (4, [.ref b0, .ref s1, .ref s2, .long op, .int re])), (s1, .inl (G.2 1, 384, .inr (.inl dk))), (s2, .inl (G.2 1, 40, .inr (.inl wg))), (b0, .inr (3, [.ref b1, .ref b2, .ref b3, .ref b4, .ref b5, .ref b6, .int bn])), (b1, .inl (G.2 0, 40, .inl kf)), (b2, .inl (G.2 0, 40, .inl ff)), (b3, .inl (G.2 0, 40, .inl sf)), (b4, .inl (G.2 0, 40, .inl df)), (b5, .inl (G.2 1, 40, .inr (.inl pf))), (b6, .inl (G.2 1, 6, .inr (.inl gf)))] U.heap ∧ KK G U ∧ va_D (fun _ => True) [(s0, .inr (4, [.ref b0, .ref s1, .ref s2, .long op, .int re])), (s1, .inl (G.2 1, 384, .inr (.inl dk))), (s2, .inl (G.2 1, 40, .inr (.inl wg))), (b0, .inr (3, [.ref b1, .ref b2, .ref b3, .ref b4, .ref b5, .ref b6, .int bn])), (b1, .inl (G.2 0, 40, .inl kf)), (b2, .inl (G.2 0, 40, .inl ff)), (b3, .inl (G.2 0, 40, .inl sf)), (b4, .inl (G.2 0, 40, .inl df)), (b5, .inl (G.2 1, 40, .inr (.inl pf))), (b6, .inl (G.2 1, 6, .inr (.inl gf)))] ∧ ZZ (va_A [(s0, .inr (4, [.ref b0, .ref s1, .ref s2, .long op, .int re])), (s1, .inl (G.2 1, 384, .inr (.inl dk))), (s2, .inl (G.2 1, 40, .inr (.inl wg))), (b0, .inr (3, [.ref b1, .ref b2, .ref b3, .ref b4, .ref b5, .ref b6, .int bn])), (b1, .inl (G.2 0, 40, .inl kf)), (b2, .inl (G.2 0, 40, .inl ff)), (b3, .inl (G.2 0, 40, .inl sf)), (b4, .inl (G.2 0, 40, .inl df)), (b5, .inl (G.2 1, 40, .inr (.inl pf))), (b6, .inl (G.2 1, 6, .inr (.inl gf)))] sz) U U.heap)) (va_Qv post (fun u t => PP G [(s0, .inr (4, [.ref b0, .ref s1, .ref s2, .long (u.2.2.1), .int (u.2.2.2)])), (s1, .inl (G.2 1, 384, .inr (.inl (u.1)))), (s2, .inl (G.2 1, 40, .inr (.inl (u.2.1)))), (b0, .inr (3, [.ref b1, .ref b2, .ref b3, .ref b4, .ref b5, .ref b6, .int bn])), (b1, .inl (G.2 0, 40, .inl kf)), (b2, .inl (G.2 0, 40, .inl ff)), (b3, .inl (G.2 0, 40, .inl sf)), (b4, .inl (G.2 0, 40, .inl df)), (b5, .inl (G.2 1, 40, .inr (.inl pf))), (b6, .inl (G.2 1, 6, .inr (.inl gf)))] t.heap ∧ va_D (va_A [(s0, .inr (4, [.ref b0, .ref s1, .ref s2, .long op, .int re])), (s1, .inl (G.2 1, 384, .inr (.inl dk))), (s2, .inl (G.2 1, 40, .inr (.inl wg))), (b0, .inr (3, [.ref b1, .ref b2, .ref b3, .ref b4, .ref b5, .ref b6, .int bn])), (b1, .inl (G.2 0, 40, .inl kf)), (b2, .inl (G.2 0, 40, .inl ff)), (b3, .inl (G.2 0, 40, .inl sf)), (b4, .inl (G.2 0, 40, .inl df)), (b5, .inl (G.2 1, 40, .inr (.inl pf))), (b6, .inl (G.2 1, 6, .inr (.inl gf)))] sz) [(s0, .inr (4, [.ref b0, .ref s1, .ref s2, .long (u.2.2.1), .int (u.2.2.2)])), (s1, .inl (G.2 1, 384, .inr (.inl (u.1)))), (s2, .inl (G.2 1, 40, .inr (.inl (u.2.1)))), (b0, .inr (3, [.ref b1, .ref b2, .ref b3, .ref b4, .ref b5, .ref b6, .int bn])), (b1, .inl (G.2 0, 40, .inl kf)), (b2, .inl (G.2 0, 40, .inl ff)), (b3, .inl (G.2 0, 40, .inl sf)), (b4, .inl (G.2 0, 40, .inl df)), (b5, .inl (G.2 1, 40, .inr (.inl pf))), (b6, .inl (G.2 1, 6, .inr (.inl gf)))]) (va_A [(s0, .inr (4, [.ref b0, .ref s1, .ref s2, .long op, .int re])), (s1, .inl (G.2 1, 384, .inr (.inl dk))), (s2, .inl (G.2 1, 40, .inr (.inl wg))), (b0, .inr (3, [.ref b1, .ref b2, .ref b3, .ref b4, .ref b5, .ref b6, .int bn])), (b1, .inl (G.2 0, 40, .inl kf)), (b2, .inl (G.2 0, 40, .inl ff)), (b3, .inl (G.2 0, 40, .inl sf)), (b4, .inl (G.2 0, 40, .inl df)), (b5, .inl (G.2 1, 40, .inr (.inl pf))), (b6, .inl (G.2 1, 6, .inr (.inl gf)))] sz)) 0 0 (va_A [(s0, .inr (4, [.ref b0, .ref s1, .ref s2, .long op, .int re])), (s1, .inl (G.2 1, 384, .inr (.inl dk))), (s2, .inl (G.2 1, 40, .inr (.inl wg))), (b0, .inr (3, [.ref b1, .ref b2, .ref b3, .ref b4, .ref b5, .ref b6, .int bn])), (b1, .inl (G.2 0, 40, .inl kf)), (b2, .inl (G.2 0, 40, .inl ff)), (b3, .inl (G.2 0, 40, .inl sf)), (b4, .inl (G.2 0, 40, .inl df)), (b5, .inl (G.2 1, 40, .inr (.inl pf))), (b6, .inl (G.2 1, 6, .inr (.inl gf)))] sz) := by
  refine Met.ofW (cc := cX1_restart) (maxL := 3) (ret := none) (by decide) rfl ?_
  intro p e s m args below meth c s₁ B hml hv
  obtain ⟨rfl, hsz, hP, hKK, hD0, hZ⟩ := hv
  obtain ⟨hK, hN, hR, hFW, hNC⟩ := id hKK
  have hx := B.exec
  have hb := B.bytes
  have hr := B.returns
  have hts0 := atoms_spec (ws := wl_X1_restart) B.pre
  have hts : ∀ w ∈ lwg, w.before ([.ref s0, .int p1] : List Value).toArray s = true := fun w hw => hts0 w (List.mem_cons_of_mem _ hw)
  have hown : s.vm.findClass RX1 = some m.cls := findClass_of_methodNamed B.named
  have hlocks := B.notSynchronized
  subst hsz
  have hD := hD0.self (sz := s.heap.size)
  generalize hAe : va_A [(s0, .inr (4, [.ref b0, .ref s1, .ref s2, .long op, .int re])), (s1, .inl (G.2 1, 384, .inr (.inl dk))), (s2, .inl (G.2 1, 40, .inr (.inl wg))), (b0, .inr (3, [.ref b1, .ref b2, .ref b3, .ref b4, .ref b5, .ref b6, .int bn])), (b1, .inl (G.2 0, 40, .inl kf)), (b2, .inl (G.2 0, 40, .inl ff)), (b3, .inl (G.2 0, 40, .inl sf)), (b4, .inl (G.2 0, 40, .inl df)), (b5, .inl (G.2 1, 40, .inr (.inl pf))), (b6, .inl (G.2 1, 6, .inr (.inl gf)))] s.heap.size = A at hD hZ ⊢
  have hA : ∀ q : Nat, s.heap.size ≤ q → A q := fun q h => by rw [← hAe]; exact Or.inr h
  have hS : va_S A s.heap s.heap [] := va_S.rf
  obtain ⟨QC, hQC⟩ : ∃ Z, Z = (va_Qv post (fun u t => PP G [(s0, .inr (4, [.ref b0, .ref s1, .ref s2, .long (u.2.2.1), .int (u.2.2.2)])), (s1, .inl (G.2 1, 384, .inr (.inl (u.1)))), (s2, .inl (G.2 1, 40, .inr (.inl (u.2.1)))), (b0, .inr (3, [.ref b1, .ref b2, .ref b3, .ref b4, .ref b5, .ref b6, .int bn])), (b1, .inl (G.2 0, 40, .inl kf)), (b2, .inl (G.2 0, 40, .inl ff)), (b3, .inl (G.2 0, 40, .inl sf)), (b4, .inl (G.2 0, 40, .inl df)), (b5, .inl (G.2 1, 40, .inr (.inl pf))), (b6, .inl (G.2 1, 6, .inr (.inl gf)))] t.heap ∧ va_D A [(s0, .inr (4, [.ref b0, .ref s1, .ref s2, .long (u.2.2.1), .int (u.2.2.2)])), (s1, .inl (G.2 1, 384, .inr (.inl (u.1)))), (s2, .inl (G.2 1, 40, .inr (.inl (u.2.1)))), (b0, .inr (3, [.ref b1, .ref b2, .ref b3, .ref b4, .ref b5, .ref b6, .int bn])), (b1, .inl (G.2 0, 40, .inl kf)), (b2, .inl (G.2 0, 40, .inl ff)), (b3, .inl (G.2 0, 40, .inl sf)), (b4, .inl (G.2 0, 40, .inl df)), (b5, .inl (G.2 1, 40, .inr (.inl pf))), (b6, .inl (G.2 1, 6, .inr (.inl gf)))]) A) := ⟨_, rfl⟩
  rw [← hQC]
  obtain ⟨⟨zt, hZ1, hT1⟩, hZ2⟩ := id hZ
  have hP : PP G [(s0, .inr (4, [.ref b0, .ref s1, .ref s2, .long op, .int re])), (s1, .inl (G.2 1, 384, .inr (.inl dk))), (s2, .inl (G.2 1, 40, .inr (.inl wg))), (b0, .inr (3, [.ref b1, .ref b2, .ref b3, .ref b4, .ref b5, .ref b6, .int bn])), (b1, .inl (G.2 0, 40, .inl kf)), (b2, .inl (G.2 0, 40, .inl ff)), (b3, .inl (G.2 0, 40, .inl sf)), (b4, .inl (G.2 0, 40, .inl df)), (b5, .inl (G.2 1, 40, .inr (.inl pf))), (b6, .inl (G.2 1, 6, .inr (.inl gf)))] s.heap := hP
  have hl := lv_entry ([.ref s0, .int p1]) (n := 3) (Nat.le_of_ble_eq_true rfl)
  rw [lg_entry_eq]
  generalize (lg_sl ([.ref s0, .int p1]) ++ List.replicate (3 - (lg_sl ([.ref s0, .int p1])).length) Slot.unset).toArray = ls at hl ⊢
  have hl : lv_has ls 3 [(0, .ref s0), (1, .int p1)] := hl
  have loop14 : ∀ (K36 : Int32 → (Nat → Int64) → Prop), True → (∀ (i2 : Int32) (dk' : Nat → Int64) (ls : Array Slot) (H : Heap) (locs : List Loc), lv_has ls 3 [(0, .ref s0), (1, .int p1), (2, .int i2)] → PP G [(s0, .inr (4, [.ref b0, .ref s1, .ref s2, .long (-1 : Int64), .int p1])), (s1, .inl (G.2 1, 384, .inr (.inl dk'))), (s2, .inl (G.2 1, 40, .inr (.inl wg))), (b0, .inr (3, [.ref b1, .ref b2, .ref b3, .ref b4, .ref b5, .ref b6, .int bn])), (b1, .inl (G.2 0, 40, .inl kf)), (b2, .inl (G.2 0, 40, .inl ff)), (b3, .inl (G.2 0, 40, .inl sf)), (b4, .inl (G.2 0, 40, .inl df)), (b5, .inl (G.2 1, 40, .inr (.inl pf))), (b6, .inl (G.2 1, 6, .inr (.inl gf)))] H → va_D A [(s0, .inr (4, [.ref b0, .ref s1, .ref s2, .long (-1 : Int64), .int p1])), (s1, .inl (G.2 1, 384, .inr (.inl dk'))), (s2, .inl (G.2 1, 40, .inr (.inl wg))), (b0, .inr (3, [.ref b1, .ref b2, .ref b3, .ref b4, .ref b5, .ref b6, .int bn])), (b1, .inl (G.2 0, 40, .inl kf)), (b2, .inl (G.2 0, 40, .inl ff)), (b3, .inl (G.2 0, 40, .inl sf)), (b4, .inl (G.2 0, 40, .inl df)), (b5, .inl (G.2 1, 40, .inr (.inl pf))), (b6, .inl (G.2 1, 6, .inr (.inl gf)))] → va_S A s.heap H locs → K36 i2 dk' → W p l e (headSpec (wl_X1_restart) rm_X1_restart).room s m ([.ref s0, .int p1] : List Value).toArray below meth c H locs 0 0 (MQ below QC ([.ref s0, .int p1] : List Value).toArray s 0 0 A) (F0 m 36 ls [])) → ∀ (n : Nat) (i2 : Int32) (dk' : Nat → Int64) (ls : Array Slot) (H : Heap) (locs : List Loc), lv_has ls 3 [(0, .ref s0), (1, .int p1), (2, .int i2)] → PP G [(s0, .inr (4, [.ref b0, .ref s1, .ref s2, .long (-1 : Int64), .int p1])), (s1, .inl (G.2 1, 384, .inr (.inl dk'))), (s2, .inl (G.2 1, 40, .inr (.inl wg))), (b0, .inr (3, [.ref b1, .ref b2, .ref b3, .ref b4, .ref b5, .ref b6, .int bn])), (b1, .inl (G.2 0, 40, .inl kf)), (b2, .inl (G.2 0, 40, .inl ff)), (b3, .inl (G.2 0, 40, .inl sf)), (b4, .inl (G.2 0, 40, .inl df)), (b5, .inl (G.2 1, 40, .inr (.inl pf))), (b6, .inl (G.2 1, 6, .inr (.inl gf)))] H → va_D A [(s0, .inr (4, [.ref b0, .ref s1, .ref s2, .long (-1 : Int64), .int p1])), (s1, .inl (G.2 1, 384, .inr (.inl dk'))), (s2, .inl (G.2 1, 40, .inr (.inl wg))), (b0, .inr (3, [.ref b1, .ref b2, .ref b3, .ref b4, .ref b5, .ref b6, .int bn])), (b1, .inl (G.2 0, 40, .inl kf)), (b2, .inl (G.2 0, 40, .inl ff)), (b3, .inl (G.2 0, 40, .inl sf)), (b4, .inl (G.2 0, 40, .inl df)), (b5, .inl (G.2 1, 40, .inr (.inl pf))), (b6, .inl (G.2 1, 6, .inr (.inl gf)))] → va_S A s.heap H locs → wX1_restart_L14 post K36 n i2 dk' → W p l e (headSpec (wl_X1_restart) rm_X1_restart).room s m ([.ref s0, .int p1] : List Value).toArray below meth c H locs 0 0 (MQ below QC ([.ref s0, .int p1] : List Value).toArray s 0 0 A) (F0 m 14 ls []) := by
    intro K36 _ hexit36 n
    induction n with
    | zero => intro i2 dk' ls H locs hl hP hD hS h; exact False.elim h
    | succ n ih =>
      intro i2 dk' ls H locs hl hP hD hS h
      refine lv_iload_n hx hb dX1_restart_14 rfl (lv_at hl 2 rfl) ?_
      refine lv_sipush (v := 384) hx hb dX1_restart_15 (by decide) ?_
      refine lv_icmp_ge (tgt := 36) hx hb dX1_restart_18 (by decide) (fun hc => ?_) (fun hc => ?_)
      · have h := h.1 hc
        have hl := lv_sub (l' := [(0, .ref s0), (1, .int p1), (2, .int i2)]) hl [0, 1, 2] rfl
        exact hexit36 _ _ ls H locs hl hP hD hS h
      · have h := h.2 hc
        refine lv_aload_n hx hb dX1_restart_21 rfl (lv_at hl 0 rfl) ?_
        refine va_get (D := G.1) (ci := 4) (v := .ref s1) (C := RX1) (T := TX1) (N := 5) hx hb hts igX1 hown hK hP 0 rfl rfl 1 (by decide) (hts _ q74) (fun _ h9 => h9) rfl dX1_restart_22 ?_
        refine lv_iload_n hx hb dX1_restart_25 rfl (lv_at hl 2 rfl) ?_
        refine lv_ldc2 hx hb hown (hts _ q95) dX1_restart_26 ?_
        obtain ⟨hin, h⟩ := h
        refine va_last (D := G.1) hx hb hK hP hD hS 1 1 rfl rfl hin dX1_restart_29 (fun H locs hP hD hS => ?_)
        have hP : PP G [(s0, .inr (4, [.ref b0, .ref s1, .ref s2, .long (-1 : Int64), .int p1])), (s1, .inl (G.2 1, 384, .inr (.inl (vp_updL dk' i2.toNatClampNeg (-1 : Int64))))), (s2, .inl (G.2 1, 40, .inr (.inl wg))), (b0, .inr (3, [.ref b1, .ref b2, .ref b3, .ref b4, .ref b5, .ref b6, .int bn])), (b1, .inl (G.2 0, 40, .inl kf)), (b2, .inl (G.2 0, 40, .inl ff)), (b3, .inl (G.2 0, 40, .inl sf)), (b4, .inl (G.2 0, 40, .inl df)), (b5, .inl (G.2 1, 40, .inr (.inl pf))), (b6, .inl (G.2 1, 6, .inr (.inl gf)))] H := hP
        have hD : va_D A [(s0, .inr (4, [.ref b0, .ref s1, .ref s2, .long (-1 : Int64), .int p1])), (s1, .inl (G.2 1, 384, .inr (.inl (vp_updL dk' i2.toNatClampNeg (-1 : Int64))))), (s2, .inl (G.2 1, 40, .inr (.inl wg))), (b0, .inr (3, [.ref b1, .ref b2, .ref b3, .ref b4, .ref b5, .ref b6, .int bn])), (b1, .inl (G.2 0, 40, .inl kf)), (b2, .inl (G.2 0, 40, .inl ff)), (b3, .inl (G.2 0, 40, .inl sf)), (b4, .inl (G.2 0, 40, .inl df)), (b5, .inl (G.2 1, 40, .inr (.inl pf))), (b6, .inl (G.2 1, 6, .inr (.inl gf)))] := hD
        refine lv_iinc (v := (i2 + 1)) hx hb dX1_restart_30 hl (k := 2) rfl (by rw [show Int32.ofInt 1 = 1 from by decide]) (Nat.le_of_ble_eq_true rfl) rfl (fun ls hl => ?_)
        have hl : lv_has ls 3 [(2, .int (i2 + 1)), (0, .ref s0), (1, .int p1)] := hl
        refine lv_goto (tgt := 14) hx hb dX1_restart_33 (by decide) ?_
        have hl := lv_sub (l' := [(0, .ref s0), (1, .int p1), (2, .int (i2 + 1))]) hl [1, 2, 0] rfl
        exact ih _ _ ls H locs hl hP hD hS h
  refine lv_aload_n hx hb dX1_restart_0 rfl (lv_at hl 0 rfl) ?_
  refine lv_iload_n hx hb dX1_restart_1 rfl (lv_at hl 1 rfl) ?_
  refine va_put (D := G.1) (ci := 4) (v := .int p1) (ty := .int) (C := RX1) (T := TX1) (N := 5) hx hb hts igX1 tyX1 tyX1_ok nmX1 hown hK hP hD hS 0 rfl rfl 4 (by decide) (hts _ q78) (fun _ h9 => h9) rfl (by decide +kernel) rfl rfl (Nat.le_of_ble_eq_true rfl) dX1_restart_2 (fun H locs hP hD hS => ?_)
  have hP : PP G [(s0, .inr (4, [.ref b0, .ref s1, .ref s2, .long op, .int p1])), (s1, .inl (G.2 1, 384, .inr (.inl dk))), (s2, .inl (G.2 1, 40, .inr (.inl wg))), (b0, .inr (3, [.ref b1, .ref b2, .ref b3, .ref b4, .ref b5, .ref b6, .int bn])), (b1, .inl (G.2 0, 40, .inl kf)), (b2, .inl (G.2 0, 40, .inl ff)), (b3, .inl (G.2 0, 40, .inl sf)), (b4, .inl (G.2 0, 40, .inl df)), (b5, .inl (G.2 1, 40, .inr (.inl pf))), (b6, .inl (G.2 1, 6, .inr (.inl gf)))] H := hP
  have hD : va_D A [(s0, .inr (4, [.ref b0, .ref s1, .ref s2, .long op, .int p1])), (s1, .inl (G.2 1, 384, .inr (.inl dk))), (s2, .inl (G.2 1, 40, .inr (.inl wg))), (b0, .inr (3, [.ref b1, .ref b2, .ref b3, .ref b4, .ref b5, .ref b6, .int bn])), (b1, .inl (G.2 0, 40, .inl kf)), (b2, .inl (G.2 0, 40, .inl ff)), (b3, .inl (G.2 0, 40, .inl sf)), (b4, .inl (G.2 0, 40, .inl df)), (b5, .inl (G.2 1, 40, .inr (.inl pf))), (b6, .inl (G.2 1, 6, .inr (.inl gf)))] := hD
  refine lv_aload_n hx hb dX1_restart_5 rfl (lv_at hl 0 rfl) ?_
  refine lv_ldc2 hx hb hown (hts _ q95) dX1_restart_6 ?_
  refine va_put (D := G.1) (ci := 4) (v := .long (-1 : Int64)) (ty := .long) (C := RX1) (T := TX1) (N := 5) hx hb hts igX1 tyX1 tyX1_ok nmX1 hown hK hP hD hS 0 rfl rfl 3 (by decide) (hts _ q76) (fun _ h9 => h9) rfl (by decide +kernel) rfl rfl (Nat.le_of_ble_eq_true rfl) dX1_restart_9 (fun H locs hP hD hS => ?_)
  have hP : PP G [(s0, .inr (4, [.ref b0, .ref s1, .ref s2, .long (-1 : Int64), .int p1])), (s1, .inl (G.2 1, 384, .inr (.inl dk))), (s2, .inl (G.2 1, 40, .inr (.inl wg))), (b0, .inr (3, [.ref b1, .ref b2, .ref b3, .ref b4, .ref b5, .ref b6, .int bn])), (b1, .inl (G.2 0, 40, .inl kf)), (b2, .inl (G.2 0, 40, .inl ff)), (b3, .inl (G.2 0, 40, .inl sf)), (b4, .inl (G.2 0, 40, .inl df)), (b5, .inl (G.2 1, 40, .inr (.inl pf))), (b6, .inl (G.2 1, 6, .inr (.inl gf)))] H := hP
  have hD : va_D A [(s0, .inr (4, [.ref b0, .ref s1, .ref s2, .long (-1 : Int64), .int p1])), (s1, .inl (G.2 1, 384, .inr (.inl dk))), (s2, .inl (G.2 1, 40, .inr (.inl wg))), (b0, .inr (3, [.ref b1, .ref b2, .ref b3, .ref b4, .ref b5, .ref b6, .int bn])), (b1, .inl (G.2 0, 40, .inl kf)), (b2, .inl (G.2 0, 40, .inl ff)), (b3, .inl (G.2 0, 40, .inl sf)), (b4, .inl (G.2 0, 40, .inl df)), (b5, .inl (G.2 1, 40, .inr (.inl pf))), (b6, .inl (G.2 1, 6, .inr (.inl gf)))] := hD
  refine lv_iconst (v := 0) hx hb dX1_restart_12 (by decide) ?_
  refine lv_istore_n hx hb dX1_restart_13 rfl hl (Nat.le_of_ble_eq_true rfl) rfl (fun ls hl => ?_)
  have hl : lv_has ls 3 [(2, .int (0 : Int32)), (0, .ref s0), (1, .int p1)] := hl
  have hl := lv_sub (l' := [(0, .ref s0), (1, .int p1), (2, .int (0 : Int32))]) hl [1, 2, 0] rfl
  obtain ⟨nF, h⟩ := h
  refine loop14 _ trivial ?_ nF (0 : Int32) dk _ _ _ hl hP hD hS h
  · intro i2 dk' ls H locs hl hP hD hS h
    refine lv_aload_n hx hb dX1_restart_36 rfl (lv_at hl 0 rfl) ?_
    refine lv_aload_n hx hb dX1_restart_37 rfl (lv_at hl 0 rfl) ?_
    refine va_get (D := G.1) (ci := 4) (v := .ref b0) (C := RX1) (T := TX1) (N := 5) hx hb hts igX1 hown hK hP 0 rfl rfl 0 (by decide) (hts _ q73) (fun _ h9 => h9) rfl dX1_restart_38 ?_
    have hPc := va_P.sub (ws' := [(b0, .inr (3, [.ref b1, .ref b2, .ref b3, .ref b4, .ref b5, .ref b6, .int bn])), (b1, .inl (G.2 0, 40, .inl kf)), (b2, .inl (G.2 0, 40, .inl ff)), (b3, .inl (G.2 0, 40, .inl sf)), (b4, .inl (G.2 0, 40, .inl df)), (b5, .inl (G.2 1, 40, .inr (.inl pf))), (b6, .inl (G.2 1, 6, .inr (.inl gf)))]) hP [3, 4, 5, 6, 7, 8, 9] rfl
    refine rdL (va_runV (C := RX0) (As := []) (rest := [.ref s0]) ⟨hx, hb, hml, hown, hts⟩ (kX0_everySentence l G b0 b1 b2 b3 b4 b5 b6 kf ff sf df pf gf bn h) (cwV 0 hts (gdV q96 q97 q98 q2 q99) rfl rfl rfl (by decide +kernel) ⟨Nat.le_of_ble_eq_true rfl, Nat.le_of_ble_eq_true rfl⟩) (preV hPc hKK (va_recv hK hPc (ci := 3) (q0 := 0) rfl rfl)) rfl rfl hl.1 rfl (lv_room (Nat.le_of_ble_eq_true rfl)) dX1_restart_41 ⟨Nat.zero_le _, Nat.zero_le _⟩) (fun r_1 h => ?_)
    have hPc := hP
    have hDc := hD.sub (ws' := [(s0, .inr (4, [.ref b0, .ref s1, .ref s2, .long (-1 : Int64), .int p1])), (s1, .inl (G.2 1, 384, .inr (.inl dk'))), (s2, .inl (G.2 1, 40, .inr (.inl wg))), (b0, .inr (3, [.ref b1, .ref b2, .ref b3, .ref b4, .ref b5, .ref b6, .int bn])), (b1, .inl (G.2 0, 40, .inl kf)), (b2, .inl (G.2 0, 40, .inl ff)), (b3, .inl (G.2 0, 40, .inl sf)), (b4, .inl (G.2 0, 40, .inl df)), (b5, .inl (G.2 1, 40, .inr (.inl pf))), (b6, .inl (G.2 1, 6, .inr (.inl gf)))]) [0, 1, 2, 3, 4, 5, 6, 7, 8, 9] (by decide) rfl
    have hFc := va_free (wc := [(s0, .inr (4, [.ref b0, .ref s1, .ref s2, .long (-1 : Int64), .int p1])), (s1, .inl (G.2 1, 384, .inr (.inl dk'))), (s2, .inl (G.2 1, 40, .inr (.inl wg))), (b0, .inr (3, [.ref b1, .ref b2, .ref b3, .ref b4, .ref b5, .ref b6, .int bn])), (b1, .inl (G.2 0, 40, .inl kf)), (b2, .inl (G.2 0, 40, .inl ff)), (b3, .inl (G.2 0, 40, .inl sf)), (b4, .inl (G.2 0, 40, .inl df)), (b5, .inl (G.2 1, 40, .inr (.inl pf))), (b6, .inl (G.2 1, 6, .inr (.inl gf)))]) hD hS hA [0, 1, 2, 3, 4, 5, 6, 7, 8, 9] rfl
    have hZc := (hZ.kept hS.2.1).narrow hFc
    refine va_callv (va_runV (C := RX1) (As := [.long r_1]) (rest := []) ⟨hx, hb, hml, hown, hts⟩ (kX1_weigh l G s0 s1 s2 b0 b1 b2 b3 b4 b5 b6 dk' wg (-1 : Int64) p1 kf ff sf df pf gf bn r_1 _ h) (cwV 1 hts (gdV q103 q104 q105 q3 q106) rfl rfl rfl (by decide +kernel) ⟨Nat.le_of_ble_eq_true rfl, Nat.le_of_ble_eq_true rfl⟩) (preVwz hPc hKK hDc hZc (va_recv hK hPc (ci := 4) (q0 := 0) rfl rfl)) rfl rfl hl.1 rfl (lv_room (Nat.le_of_ble_eq_true rfl)) dX1_restart_44 ⟨Nat.zero_le _, Nat.zero_le _⟩) hS (fun q _ h => hFc q h) hFc (fun u t H1 locs ht hvm h hB hz1 hk1 hS => ?_)
    obtain ⟨wg_1, rfl⟩ : ∃ z, z = u := ⟨_, rfl⟩
    obtain ⟨hP1, hD1⟩ := hB
    rw [ht] at hP1
    have hP := hP1
    have hD : va_D A [(s0, .inr (4, [.ref b0, .ref s1, .ref s2, .long (-1 : Int64), .int p1])), (s1, .inl (G.2 1, 384, .inr (.inl dk'))), (s2, .inl (G.2 1, 40, .inr (.inl wg_1))), (b0, .inr (3, [.ref b1, .ref b2, .ref b3, .ref b4, .ref b5, .ref b6, .int bn])), (b1, .inl (G.2 0, 40, .inl kf)), (b2, .inl (G.2 0, 40, .inl ff)), (b3, .inl (G.2 0, 40, .inl sf)), (b4, .inl (G.2 0, 40, .inl df)), (b5, .inl (G.2 1, 40, .inr (.inl pf))), (b6, .inl (G.2 1, 6, .inr (.inl gf)))] := hD1.weaken (fun _ _ _ h => hFc _ h)
    generalize H1 = H at hP hS ⊢
    have hP : PP G [(s0, .inr (4, [.ref b0, .ref s1, .ref s2, .long (-1 : Int64), .int p1])), (s1, .inl (G.2 1, 384, .inr (.inl dk'))), (s2, .inl (G.2 1, 40, .inr (.inl wg_1))), (b0, .inr (3, [.ref b1, .ref b2, .ref b3, .ref b4, .ref b5, .ref b6, .int bn])), (b1, .inl (G.2 0, 40, .inl kf)), (b2, .inl (G.2 0, 40, .inl ff)), (b3, .inl (G.2 0, 40, .inl sf)), (b4, .inl (G.2 0, 40, .inl df)), (b5, .inl (G.2 1, 40, .inr (.inl pf))), (b6, .inl (G.2 1, 6, .inr (.inl gf)))] H := hP
    subst hQC; exact W.vret hx hb hr (fun t ht hW => ⟨⟨(dk', wg_1, (-1 : Int64), p1), rfl, h, by rw [ht]; exact hP, hD⟩, hS.F ht⟩) hS.2.2 dX1_restart_47
theorem dX1_copyFrom_0 : decode cX1_copyFrom 0 = .ok (.aload_n 0, 1) := by decide +kernel
theorem dX1_copyFrom_1 : decode cX1_copyFrom 1 = .ok (.aload_n 1, 1) := by decide +kernel
theorem dX1_copyFrom_2 : decode cX1_copyFrom 2 = .ok (.getfield 22, 3) := by decide +kernel
theorem dX1_copyFrom_5 : decode cX1_copyFrom 5 = .ok (.putfield 22, 3) := by decide +kernel
theorem dX1_copyFrom_8 : decode cX1_copyFrom 8 = .ok (.aload_n 0, 1) := by decide +kernel
theorem dX1_copyFrom_9 : decode cX1_copyFrom 9 = .ok (.aload_n 1, 1) := by decide +kernel
theorem dX1_copyFrom_10 : decode cX1_copyFrom 10 = .ok (.getfield 28, 3) := by decide +kernel
theorem dX1_copyFrom_13 : decode cX1_copyFrom 13 = .ok (.putfield 28, 3) := by decide +kernel
theorem dX1_copyFrom_16 : decode cX1_copyFrom 16 = .ok (.aload_n 1, 1) := by decide +kernel
theorem dX1_copyFrom_17 : decode cX1_copyFrom 17 = .ok (.getfield 9, 3) := by decide +kernel
theorem dX1_copyFrom_20 : decode cX1_copyFrom 20 = .ok (.iconst 0, 1) := by decide +kernel
theorem dX1_copyFrom_21 : decode cX1_copyFrom 21 = .ok (.aload_n 0, 1) := by decide +kernel
theorem dX1_copyFrom_22 : decode cX1_copyFrom 22 = .ok (.getfield 9, 3) := by decide +kernel
theorem dX1_copyFrom_25 : decode cX1_copyFrom 25 = .ok (.iconst 0, 1) := by decide +kernel
theorem dX1_copyFrom_26 : decode cX1_copyFrom 26 = .ok (.sipush 384, 3) := by decide +kernel
theorem dX1_copyFrom_29 : decode cX1_copyFrom 29 = .ok (.invokestatic 42, 3) := by decide +kernel
theorem dX1_copyFrom_32 : decode cX1_copyFrom 32 = .ok (.aload_n 1, 1) := by decide +kernel
theorem dX1_copyFrom_33 : decode cX1_copyFrom 33 = .ok (.getfield 15, 3) := by decide +kernel
theorem dX1_copyFrom_36 : decode cX1_copyFrom 36 = .ok (.iconst 0, 1) := by decide +kernel
theorem dX1_copyFrom_37 : decode cX1_copyFrom 37 = .ok (.aload_n 0, 1) := by decide +kernel
theorem dX1_copyFrom_38 : decode cX1_copyFrom 38 = .ok (.getfield 15, 3) := by decide +kernel
theorem dX1_copyFrom_41 : decode cX1_copyFrom 41 = .ok (.iconst 0, 1) := by decide +kernel
theorem dX1_copyFrom_42 : decode cX1_copyFrom 42 = .ok (.bipush 40, 2) := by decide +kernel
theorem dX1_copyFrom_44 : decode cX1_copyFrom 44 = .ok (.invokestatic 42, 3) := by decide +kernel
theorem dX1_copyFrom_47 : decode cX1_copyFrom 47 = .ok (.return_, 1) := by decide +kernel
def wX1_copyFrom (post : (Nat → Int64) × (Nat → Int64) × Int64 × Int32 → Prop) (dk : Nat → Int64) (wg : Nat → Int64) (op : Int64) (re : Int32) (ek : Nat → Int64) (xg : Nat → Int64) (oq : Int64) (rf : Int32) : Prop :=
  post ((va_cpy ek dk (0 : Int32).toNatClampNeg (0 : Int32).toNatClampNeg (384 : Int32).toNatClampNeg), (va_cpy xg wg (0 : Int32).toNatClampNeg (0 : Int32).toNatClampNeg (40 : Int32).toNatClampNeg), oq, rf)
abbrev wl_X1_copyFrom : List Cond := .code yX1_copyFrom cX1_copyFrom 2 none :: lwg
abbrev rm_X1_copyFrom : Room := { frames := 1, cells := 0, slots := 0, locals := 64 }
set_option maxHeartbeats 4000000 in
set_option maxRecDepth 100000 in
theorem kX1_copyFrom {post : (Nat → Int64) × (Nat → Int64) × Int64 × Int32 → Prop} (l : Launch) (G : GT) (s0 : Nat) (s1 : Nat) (s2 : Nat) (b0 : Nat) (c0 : Nat) (t0 : Nat) (t1 : Nat) (t2 : Nat) (dk : Nat → Int64) (wg : Nat → Int64) (op : Int64) (re : Int32) (ek : Nat → Int64) (xg : Nat → Int64) (oq : Int64) (rf : Int32) (sz : Nat) (h : wX1_copyFrom post dk wg op re ek xg oq rf) : Met l yX1_copyFrom wl_X1_copyFrom rm_X1_copyFrom (va_Pc [.ref s0, .ref t0] (fun U => U.heap.size = sz ∧ PP G [(s0, .inr (4, [.ref b0, .ref s1, .ref s2, .long op, .int re])), (s1, .inl (G.2 1, 384, .inr (.inl dk))), (s2, .inl (G.2 1, 40, .inr (.inl wg))), (t0, .inr (4, [.ref c0, .ref t1, .ref t2, .long oq, .int rf])), (t1, .inl (G.2 1, 384, .inr (.inl ek))), (t2, .inl (G.2 1, 40, .inr (.inl xg)))] U.heap ∧ KK G U ∧ va_D (fun _ => True) [(s0, .inr (4, [.ref b0, .ref s1, .ref s2, .long op, .int re])), (s1, .inl (G.2 1, 384, .inr (.inl dk))), (s2, .inl (G.2 1, 40, .inr (.inl wg))), (t0, .inr (4, [.ref c0, .ref t1, .ref t2, .long oq, .int rf])), (t1, .inl (G.2 1, 384, .inr (.inl ek))), (t2, .inl (G.2 1, 40, .inr (.inl xg)))])) (va_Qv post (fun u t => PP G [(s0, .inr (4, [.ref b0, .ref s1, .ref s2, .long (u.2.2.1), .int (u.2.2.2)])), (s1, .inl (G.2 1, 384, .inr (.inl (u.1)))), (s2, .inl (G.2 1, 40, .inr (.inl (u.2.1)))), (t0, .inr (4, [.ref c0, .ref t1, .ref t2, .long oq, .int rf])), (t1, .inl (G.2 1, 384, .inr (.inl ek))), (t2, .inl (G.2 1, 40, .inr (.inl xg)))] t.heap ∧ va_D (va_A [(s0, .inr (4, [.ref b0, .ref s1, .ref s2, .long op, .int re])), (s1, .inl (G.2 1, 384, .inr (.inl dk))), (s2, .inl (G.2 1, 40, .inr (.inl wg))), (t0, .inr (4, [.ref c0, .ref t1, .ref t2, .long oq, .int rf])), (t1, .inl (G.2 1, 384, .inr (.inl ek))), (t2, .inl (G.2 1, 40, .inr (.inl xg)))] sz) [(s0, .inr (4, [.ref b0, .ref s1, .ref s2, .long (u.2.2.1), .int (u.2.2.2)])), (s1, .inl (G.2 1, 384, .inr (.inl (u.1)))), (s2, .inl (G.2 1, 40, .inr (.inl (u.2.1)))), (t0, .inr (4, [.ref c0, .ref t1, .ref t2, .long oq, .int rf])), (t1, .inl (G.2 1, 384, .inr (.inl ek))), (t2, .inl (G.2 1, 40, .inr (.inl xg)))]) (va_A [(s0, .inr (4, [.ref b0, .ref s1, .ref s2, .long op, .int re])), (s1, .inl (G.2 1, 384, .inr (.inl dk))), (s2, .inl (G.2 1, 40, .inr (.inl wg))), (t0, .inr (4, [.ref c0, .ref t1, .ref t2, .long oq, .int rf])), (t1, .inl (G.2 1, 384, .inr (.inl ek))), (t2, .inl (G.2 1, 40, .inr (.inl xg)))] sz)) 0 0 (va_A [(s0, .inr (4, [.ref b0, .ref s1, .ref s2, .long op, .int re])), (s1, .inl (G.2 1, 384, .inr (.inl dk))), (s2, .inl (G.2 1, 40, .inr (.inl wg))), (t0, .inr (4, [.ref c0, .ref t1, .ref t2, .long oq, .int rf])), (t1, .inl (G.2 1, 384, .inr (.inl ek))), (t2, .inl (G.2 1, 40, .inr (.inl xg)))] sz) := by
  refine Met.ofW (cc := cX1_copyFrom) (maxL := 2) (ret := none) (by decide) rfl ?_
  intro p e s m args below meth c s₁ B hml hv
  obtain ⟨rfl, hsz, hP, hKK, hD0⟩ := hv
  obtain ⟨hK, hN, hR, hFW, hNC⟩ := id hKK
  have hx := B.exec
  have hb := B.bytes
  have hr := B.returns
  have hts0 := atoms_spec (ws := wl_X1_copyFrom) B.pre
  have hts : ∀ w ∈ lwg, w.before ([.ref s0, .ref t0] : List Value).toArray s = true := fun w hw => hts0 w (List.mem_cons_of_mem _ hw)
  have hown : s.vm.findClass RX1 = some m.cls := findClass_of_methodNamed B.named
  have hlocks := B.notSynchronized
  subst hsz
  have hD := hD0.self (sz := s.heap.size)
  generalize hAe : va_A [(s0, .inr (4, [.ref b0, .ref s1, .ref s2, .long op, .int re])), (s1, .inl (G.2 1, 384, .inr (.inl dk))), (s2, .inl (G.2 1, 40, .inr (.inl wg))), (t0, .inr (4, [.ref c0, .ref t1, .ref t2, .long oq, .int rf])), (t1, .inl (G.2 1, 384, .inr (.inl ek))), (t2, .inl (G.2 1, 40, .inr (.inl xg)))] s.heap.size = A at hD ⊢
  have hA : ∀ q : Nat, s.heap.size ≤ q → A q := fun q h => by rw [← hAe]; exact Or.inr h
  have hS : va_S A s.heap s.heap [] := va_S.rf
  obtain ⟨QC, hQC⟩ : ∃ Z, Z = (va_Qv post (fun u t => PP G [(s0, .inr (4, [.ref b0, .ref s1, .ref s2, .long (u.2.2.1), .int (u.2.2.2)])), (s1, .inl (G.2 1, 384, .inr (.inl (u.1)))), (s2, .inl (G.2 1, 40, .inr (.inl (u.2.1)))), (t0, .inr (4, [.ref c0, .ref t1, .ref t2, .long oq, .int rf])), (t1, .inl (G.2 1, 384, .inr (.inl ek))), (t2, .inl (G.2 1, 40, .inr (.inl xg)))] t.heap ∧ va_D A [(s0, .inr (4, [.ref b0, .ref s1, .ref s2, .long (u.2.2.1), .int (u.2.2.2)])), (s1, .inl (G.2 1, 384, .inr (.inl (u.1)))), (s2, .inl (G.2 1, 40, .inr (.inl (u.2.1)))), (t0, .inr (4, [.ref c0, .ref t1, .ref t2, .long oq, .int rf])), (t1, .inl (G.2 1, 384, .inr (.inl ek))), (t2, .inl (G.2 1, 40, .inr (.inl xg)))]) A) := ⟨_, rfl⟩
  rw [← hQC]
  have hP : PP G [(s0, .inr (4, [.ref b0, .ref s1, .ref s2, .long op, .int re])), (s1, .inl (G.2 1, 384, .inr (.inl dk))), (s2, .inl (G.2 1, 40, .inr (.inl wg))), (t0, .inr (4, [.ref c0, .ref t1, .ref t2, .long oq, .int rf])), (t1, .inl (G.2 1, 384, .inr (.inl ek))), (t2, .inl (G.2 1, 40, .inr (.inl xg)))] s.heap := hP
  have hl := lv_entry ([.ref s0, .ref t0]) (n := 2) (Nat.le_of_ble_eq_true rfl)
  rw [lg_entry_eq]
  generalize (lg_sl ([.ref s0, .ref t0]) ++ List.replicate (2 - (lg_sl ([.ref s0, .ref t0])).length) Slot.unset).toArray = ls at hl ⊢
  have hl : lv_has ls 2 [(0, .ref s0), (1, .ref t0)] := hl
  refine lv_aload_n hx hb dX1_copyFrom_0 rfl (lv_at hl 0 rfl) ?_
  refine lv_aload_n hx hb dX1_copyFrom_1 rfl (lv_at hl 1 rfl) ?_
  refine va_get (D := G.1) (ci := 4) (v := .int rf) (C := RX1) (T := TX1) (N := 5) hx hb hts igX1 hown hK hP 3 rfl rfl 4 (by decide) (hts _ q78) (fun _ h9 => h9) rfl dX1_copyFrom_2 ?_
  refine va_put (D := G.1) (ci := 4) (v := .int rf) (ty := .int) (C := RX1) (T := TX1) (N := 5) hx hb hts igX1 tyX1 tyX1_ok nmX1 hown hK hP hD hS 0 rfl rfl 4 (by decide) (hts _ q78) (fun _ h9 => h9) rfl (by decide +kernel) rfl rfl (Nat.le_of_ble_eq_true rfl) dX1_copyFrom_5 (fun H locs hP hD hS => ?_)
  have hP : PP G [(s0, .inr (4, [.ref b0, .ref s1, .ref s2, .long op, .int rf])), (s1, .inl (G.2 1, 384, .inr (.inl dk))), (s2, .inl (G.2 1, 40, .inr (.inl wg))), (t0, .inr (4, [.ref c0, .ref t1, .ref t2, .long oq, .int rf])), (t1, .inl (G.2 1, 384, .inr (.inl ek))), (t2, .inl (G.2 1, 40, .inr (.inl xg)))] H := hP
  have hD : va_D A [(s0, .inr (4, [.ref b0, .ref s1, .ref s2, .long op, .int rf])), (s1, .inl (G.2 1, 384, .inr (.inl dk))), (s2, .inl (G.2 1, 40, .inr (.inl wg))), (t0, .inr (4, [.ref c0, .ref t1, .ref t2, .long oq, .int rf])), (t1, .inl (G.2 1, 384, .inr (.inl ek))), (t2, .inl (G.2 1, 40, .inr (.inl xg)))] := hD
  refine lv_aload_n hx hb dX1_copyFrom_8 rfl (lv_at hl 0 rfl) ?_
  refine lv_aload_n hx hb dX1_copyFrom_9 rfl (lv_at hl 1 rfl) ?_
  refine va_get (D := G.1) (ci := 4) (v := .long oq) (C := RX1) (T := TX1) (N := 5) hx hb hts igX1 hown hK hP 3 rfl rfl 3 (by decide) (hts _ q76) (fun _ h9 => h9) rfl dX1_copyFrom_10 ?_
  refine va_put (D := G.1) (ci := 4) (v := .long oq) (ty := .long) (C := RX1) (T := TX1) (N := 5) hx hb hts igX1 tyX1 tyX1_ok nmX1 hown hK hP hD hS 0 rfl rfl 3 (by decide) (hts _ q76) (fun _ h9 => h9) rfl (by decide +kernel) rfl rfl (Nat.le_of_ble_eq_true rfl) dX1_copyFrom_13 (fun H locs hP hD hS => ?_)
  have hP : PP G [(s0, .inr (4, [.ref b0, .ref s1, .ref s2, .long oq, .int rf])), (s1, .inl (G.2 1, 384, .inr (.inl dk))), (s2, .inl (G.2 1, 40, .inr (.inl wg))), (t0, .inr (4, [.ref c0, .ref t1, .ref t2, .long oq, .int rf])), (t1, .inl (G.2 1, 384, .inr (.inl ek))), (t2, .inl (G.2 1, 40, .inr (.inl xg)))] H := hP
  have hD : va_D A [(s0, .inr (4, [.ref b0, .ref s1, .ref s2, .long oq, .int rf])), (s1, .inl (G.2 1, 384, .inr (.inl dk))), (s2, .inl (G.2 1, 40, .inr (.inl wg))), (t0, .inr (4, [.ref c0, .ref t1, .ref t2, .long oq, .int rf])), (t1, .inl (G.2 1, 384, .inr (.inl ek))), (t2, .inl (G.2 1, 40, .inr (.inl xg)))] := hD
  refine lv_aload_n hx hb dX1_copyFrom_16 rfl (lv_at hl 1 rfl) ?_
  refine va_get (D := G.1) (ci := 4) (v := .ref t1) (C := RX1) (T := TX1) (N := 5) hx hb hts igX1 hown hK hP 3 rfl rfl 1 (by decide) (hts _ q74) (fun _ h9 => h9) rfl dX1_copyFrom_17 ?_
  refine lv_iconst (v := 0) hx hb dX1_copyFrom_20 (by decide) ?_
  refine lv_aload_n hx hb dX1_copyFrom_21 rfl (lv_at hl 0 rfl) ?_
  refine va_get (D := G.1) (ci := 4) (v := .ref s1) (C := RX1) (T := TX1) (N := 5) hx hb hts igX1 hown hK hP 0 rfl rfl 1 (by decide) (hts _ q74) (fun _ h9 => h9) rfl dX1_copyFrom_22 ?_
  refine lv_iconst (v := 0) hx hb dX1_copyFrom_25 (by decide) ?_
  refine lv_sipush (v := 384) hx hb dX1_copyFrom_26 (by decide) ?_
  refine va_copyl (D := G.1) hx hb (by rw [hml]; exact hl.1.symm) hown (hts _ q467) (hts _ q469) (hts _ q468) (hts _ q21) hK hP hD hS 4 1 1 1 rfl rfl rfl rfl rfl (by decide) (by decide) (by decide) (by decide) (by decide) (fun _ _ => rfl) (Nat.le_of_ble_eq_true rfl) (Nat.le_of_ble_eq_true rfl) dX1_copyFrom_29 (fun H locs hP hD hS => ?_)
  have hP : PP G [(s0, .inr (4, [.ref b0, .ref s1, .ref s2, .long oq, .int rf])), (s1, .inl (G.2 1, 384, .inr (.inl (va_cpy ek dk (0 : Int32).toNatClampNeg (0 : Int32).toNatClampNeg (384 : Int32).toNatClampNeg)))), (s2, .inl (G.2 1, 40, .inr (.inl wg))), (t0, .inr (4, [.ref c0, .ref t1, .ref t2, .long oq, .int rf])), (t1, .inl (G.2 1, 384, .inr (.inl ek))), (t2, .inl (G.2 1, 40, .inr (.inl xg)))] H := hP
  have hD : va_D A [(s0, .inr (4, [.ref b0, .ref s1, .ref s2, .long oq, .int rf])), (s1, .inl (G.2 1, 384, .inr (.inl (va_cpy ek dk (0 : Int32).toNatClampNeg (0 : Int32).toNatClampNeg (384 : Int32).toNatClampNeg)))), (s2, .inl (G.2 1, 40, .inr (.inl wg))), (t0, .inr (4, [.ref c0, .ref t1, .ref t2, .long oq, .int rf])), (t1, .inl (G.2 1, 384, .inr (.inl ek))), (t2, .inl (G.2 1, 40, .inr (.inl xg)))] := hD
  refine lv_aload_n hx hb dX1_copyFrom_32 rfl (lv_at hl 1 rfl) ?_
  refine va_get (D := G.1) (ci := 4) (v := .ref t2) (C := RX1) (T := TX1) (N := 5) hx hb hts igX1 hown hK hP 3 rfl rfl 2 (by decide) (hts _ q75) (fun _ h9 => h9) rfl dX1_copyFrom_33 ?_
  refine lv_iconst (v := 0) hx hb dX1_copyFrom_36 (by decide) ?_
  refine lv_aload_n hx hb dX1_copyFrom_37 rfl (lv_at hl 0 rfl) ?_
  refine va_get (D := G.1) (ci := 4) (v := .ref s2) (C := RX1) (T := TX1) (N := 5) hx hb hts igX1 hown hK hP 0 rfl rfl 2 (by decide) (hts _ q75) (fun _ h9 => h9) rfl dX1_copyFrom_38 ?_
  refine lv_iconst (v := 0) hx hb dX1_copyFrom_41 (by decide) ?_
  refine lv_bipush (v := 40) hx hb dX1_copyFrom_42 (by decide) ?_
  refine va_copyl (D := G.1) hx hb (by rw [hml]; exact hl.1.symm) hown (hts _ q467) (hts _ q469) (hts _ q468) (hts _ q21) hK hP hD hS 5 2 1 1 rfl rfl rfl rfl rfl (by decide) (by decide) (by decide) (by decide) (by decide) (fun _ _ => rfl) (Nat.le_of_ble_eq_true rfl) (Nat.le_of_ble_eq_true rfl) dX1_copyFrom_44 (fun H locs hP hD hS => ?_)
  have hP : PP G [(s0, .inr (4, [.ref b0, .ref s1, .ref s2, .long oq, .int rf])), (s1, .inl (G.2 1, 384, .inr (.inl (va_cpy ek dk (0 : Int32).toNatClampNeg (0 : Int32).toNatClampNeg (384 : Int32).toNatClampNeg)))), (s2, .inl (G.2 1, 40, .inr (.inl (va_cpy xg wg (0 : Int32).toNatClampNeg (0 : Int32).toNatClampNeg (40 : Int32).toNatClampNeg)))), (t0, .inr (4, [.ref c0, .ref t1, .ref t2, .long oq, .int rf])), (t1, .inl (G.2 1, 384, .inr (.inl ek))), (t2, .inl (G.2 1, 40, .inr (.inl xg)))] H := hP
  have hD : va_D A [(s0, .inr (4, [.ref b0, .ref s1, .ref s2, .long oq, .int rf])), (s1, .inl (G.2 1, 384, .inr (.inl (va_cpy ek dk (0 : Int32).toNatClampNeg (0 : Int32).toNatClampNeg (384 : Int32).toNatClampNeg)))), (s2, .inl (G.2 1, 40, .inr (.inl (va_cpy xg wg (0 : Int32).toNatClampNeg (0 : Int32).toNatClampNeg (40 : Int32).toNatClampNeg)))), (t0, .inr (4, [.ref c0, .ref t1, .ref t2, .long oq, .int rf])), (t1, .inl (G.2 1, 384, .inr (.inl ek))), (t2, .inl (G.2 1, 40, .inr (.inl xg)))] := hD
  subst hQC; exact W.vret hx hb hr (fun t ht hW => ⟨⟨((va_cpy ek dk (0 : Int32).toNatClampNeg (0 : Int32).toNatClampNeg (384 : Int32).toNatClampNeg), (va_cpy xg wg (0 : Int32).toNatClampNeg (0 : Int32).toNatClampNeg (40 : Int32).toNatClampNeg), oq, rf), rfl, h, by rw [ht]; exact hP, hD⟩, hS.F ht⟩) hS.2.2 dX1_copyFrom_47
theorem dX0_add_0 : decode cX0_add 0 = .ok (.aload_n 0, 1) := by decide +kernel
theorem dX0_add_1 : decode cX0_add 1 = .ok (.invokevirtual 55, 3) := by decide +kernel
theorem dX0_add_4 : decode cX0_add 4 = .ok (.ifCond .eq 5, 3) := by decide +kernel
theorem dX0_add_7 : decode cX0_add 7 = .ok (.iconst (-1), 1) := by decide +kernel
theorem dX0_add_8 : decode cX0_add 8 = .ok (.ireturn, 1) := by decide +kernel
theorem dX0_add_9 : decode cX0_add 9 = .ok (.aload_n 0, 1) := by decide +kernel
theorem dX0_add_10 : decode cX0_add 10 = .ok (.getfield 31, 3) := by decide +kernel
theorem dX0_add_13 : decode cX0_add 13 = .ok (.istore 4, 2) := by decide +kernel
theorem dX0_add_15 : decode cX0_add 15 = .ok (.iload_n 1, 1) := by decide +kernel
theorem dX0_add_16 : decode cX0_add 16 = .ok (.iconst 1, 1) := by decide +kernel
theorem dX0_add_17 : decode cX0_add 17 = .ok (.if_icmp .eq 13, 3) := by decide +kernel
theorem dX0_add_20 : decode cX0_add 20 = .ok (.iload_n 1, 1) := by decide +kernel
theorem dX0_add_21 : decode cX0_add 21 = .ok (.iconst 2, 1) := by decide +kernel
theorem dX0_add_22 : decode cX0_add 22 = .ok (.if_icmp .eq 8, 3) := by decide +kernel
theorem dX0_add_25 : decode cX0_add 25 = .ok (.iload_n 1, 1) := by decide +kernel
theorem dX0_add_26 : decode cX0_add 26 = .ok (.iconst 3, 1) := by decide +kernel
theorem dX0_add_27 : decode cX0_add 27 = .ok (.if_icmp .ne 7, 3) := by decide +kernel
theorem dX0_add_30 : decode cX0_add 30 = .ok (.iconst 1, 1) := by decide +kernel
theorem dX0_add_31 : decode cX0_add 31 = .ok (.goto 4, 3) := by decide +kernel
theorem dX0_add_34 : decode cX0_add 34 = .ok (.iconst 0, 1) := by decide +kernel
theorem dX0_add_35 : decode cX0_add 35 = .ok (.istore 5, 2) := by decide +kernel
theorem dX0_add_37 : decode cX0_add 37 = .ok (.iload_n 1, 1) := by decide +kernel
theorem dX0_add_38 : decode cX0_add 38 = .ok (.iconst 2, 1) := by decide +kernel
theorem dX0_add_39 : decode cX0_add 39 = .ok (.if_icmp .lt 7, 3) := by decide +kernel
theorem dX0_add_42 : decode cX0_add 42 = .ok (.iconst 1, 1) := by decide +kernel
theorem dX0_add_43 : decode cX0_add 43 = .ok (.goto 4, 3) := by decide +kernel
theorem dX0_add_46 : decode cX0_add 46 = .ok (.iconst 0, 1) := by decide +kernel
theorem dX0_add_47 : decode cX0_add 47 = .ok (.istore 6, 2) := by decide +kernel
theorem dX0_add_49 : decode cX0_add 49 = .ok (.aload_n 0, 1) := by decide +kernel
theorem dX0_add_50 : decode cX0_add 50 = .ok (.getfield 9, 3) := by decide +kernel
theorem dX0_add_53 : decode cX0_add 53 = .ok (.iload 4, 2) := by decide +kernel
theorem dX0_add_55 : decode cX0_add 55 = .ok (.iload_n 1, 1) := by decide +kernel
theorem dX0_add_56 : decode cX0_add 56 = .ok (.iastore, 1) := by decide +kernel
theorem dX0_add_57 : decode cX0_add 57 = .ok (.aload_n 0, 1) := by decide +kernel
theorem dX0_add_58 : decode cX0_add 58 = .ok (.getfield 15, 3) := by decide +kernel
theorem dX0_add_61 : decode cX0_add 61 = .ok (.iload 4, 2) := by decide +kernel
theorem dX0_add_63 : decode cX0_add 63 = .ok (.iload_n 2, 1) := by decide +kernel
theorem dX0_add_64 : decode cX0_add 64 = .ok (.iastore, 1) := by decide +kernel
theorem dX0_add_65 : decode cX0_add 65 = .ok (.aload_n 0, 1) := by decide +kernel
theorem dX0_add_66 : decode cX0_add 66 = .ok (.getfield 18, 3) := by decide +kernel
theorem dX0_add_69 : decode cX0_add 69 = .ok (.iload 4, 2) := by decide +kernel
theorem dX0_add_71 : decode cX0_add 71 = .ok (.iload_n 3, 1) := by decide +kernel
theorem dX0_add_72 : decode cX0_add 72 = .ok (.iastore, 1) := by decide +kernel
theorem dX0_add_73 : decode cX0_add 73 = .ok (.iload 5, 2) := by decide +kernel
theorem dX0_add_75 : decode cX0_add 75 = .ok (.ifCond .eq 11, 3) := by decide +kernel
theorem dX0_add_78 : decode cX0_add 78 = .ok (.aload_n 0, 1) := by decide +kernel
theorem dX0_add_79 : decode cX0_add 79 = .ok (.iload_n 2, 1) := by decide +kernel
theorem dX0_add_80 : decode cX0_add 80 = .ok (.invokevirtual 59, 3) := by decide +kernel
theorem dX0_add_83 : decode cX0_add 83 = .ok (.goto 4, 3) := by decide +kernel
theorem dX0_add_86 : decode cX0_add 86 = .ok (.iconst (-1), 1) := by decide +kernel
theorem dX0_add_87 : decode cX0_add 87 = .ok (.iload 6, 2) := by decide +kernel
theorem dX0_add_89 : decode cX0_add 89 = .ok (.ifCond .eq 11, 3) := by decide +kernel
theorem dX0_add_92 : decode cX0_add 92 = .ok (.aload_n 0, 1) := by decide +kernel
theorem dX0_add_93 : decode cX0_add 93 = .ok (.iload_n 3, 1) := by decide +kernel
theorem dX0_add_94 : decode cX0_add 94 = .ok (.invokevirtual 59, 3) := by decide +kernel
theorem dX0_add_97 : decode cX0_add 97 = .ok (.goto 4, 3) := by decide +kernel
theorem dX0_add_100 : decode cX0_add 100 = .ok (.iconst (-1), 1) := by decide +kernel
theorem dX0_add_101 : decode cX0_add 101 = .ok (.invokestatic 63, 3) := by decide +kernel
theorem dX0_add_104 : decode cX0_add 104 = .ok (.istore 7, 2) := by decide +kernel
theorem dX0_add_106 : decode cX0_add 106 = .ok (.aload_n 0, 1) := by decide +kernel
theorem dX0_add_107 : decode cX0_add 107 = .ok (.getfield 21, 3) := by decide +kernel
theorem dX0_add_110 : decode cX0_add 110 = .ok (.iload 4, 2) := by decide +kernel
theorem dX0_add_112 : decode cX0_add 112 = .ok (.iload 7, 2) := by decide +kernel
theorem dX0_add_114 : decode cX0_add 114 = .ok (.iconst 1, 1) := by decide +kernel
theorem dX0_add_115 : decode cX0_add 115 = .ok (.iadd, 1) := by decide +kernel
theorem dX0_add_116 : decode cX0_add 116 = .ok (.iastore, 1) := by decide +kernel
theorem dX0_add_117 : decode cX0_add 117 = .ok (.aload_n 0, 1) := by decide +kernel
theorem dX0_add_118 : decode cX0_add 118 = .ok (.getfield 24, 3) := by decide +kernel
theorem dX0_add_121 : decode cX0_add 121 = .ok (.iload 4, 2) := by decide +kernel
theorem dX0_add_123 : decode cX0_add 123 = .ok (.iload 4, 2) := by decide +kernel
theorem dX0_add_125 : decode cX0_add 125 = .ok (.invokestatic 35, 3) := by decide +kernel
theorem dX0_add_128 : decode cX0_add 128 = .ok (.iload 5, 2) := by decide +kernel
theorem dX0_add_130 : decode cX0_add 130 = .ok (.ifCond .eq 11, 3) := by decide +kernel
theorem dX0_add_133 : decode cX0_add 133 = .ok (.aload_n 0, 1) := by decide +kernel
theorem dX0_add_134 : decode cX0_add 134 = .ok (.iload_n 2, 1) := by decide +kernel
theorem dX0_add_135 : decode cX0_add 135 = .ok (.invokevirtual 46, 3) := by decide +kernel
theorem dX0_add_138 : decode cX0_add 138 = .ok (.goto 4, 3) := by decide +kernel
theorem dX0_add_141 : decode cX0_add 141 = .ok (.lconst 0, 1) := by decide +kernel
theorem dX0_add_142 : decode cX0_add 142 = .ok (.lor, 1) := by decide +kernel
theorem dX0_add_143 : decode cX0_add 143 = .ok (.iload 6, 2) := by decide +kernel
theorem dX0_add_145 : decode cX0_add 145 = .ok (.ifCond .eq 11, 3) := by decide +kernel
theorem dX0_add_148 : decode cX0_add 148 = .ok (.aload_n 0, 1) := by decide +kernel
theorem dX0_add_149 : decode cX0_add 149 = .ok (.iload_n 3, 1) := by decide +kernel
theorem dX0_add_150 : decode cX0_add 150 = .ok (.invokevirtual 46, 3) := by decide +kernel
theorem dX0_add_153 : decode cX0_add 153 = .ok (.goto 4, 3) := by decide +kernel
theorem dX0_add_156 : decode cX0_add 156 = .ok (.lconst 0, 1) := by decide +kernel
theorem dX0_add_157 : decode cX0_add 157 = .ok (.lor, 1) := by decide +kernel
theorem dX0_add_158 : decode cX0_add 158 = .ok (.lastore, 1) := by decide +kernel
theorem dX0_add_159 : decode cX0_add 159 = .ok (.iconst 0, 1) := by decide +kernel
theorem dX0_add_160 : decode cX0_add 160 = .ok (.istore 8, 2) := by decide +kernel
theorem dX0_add_162 : decode cX0_add 162 = .ok (.iload 8, 2) := by decide +kernel
theorem dX0_add_164 : decode cX0_add 164 = .ok (.bipush 6, 2) := by decide +kernel
theorem dX0_add_166 : decode cX0_add 166 = .ok (.if_icmp .ge 54, 3) := by decide +kernel
theorem dX0_add_169 : decode cX0_add 169 = .ok (.iload_n 1, 1) := by decide +kernel
theorem dX0_add_170 : decode cX0_add 170 = .ok (.iload_n 2, 1) := by decide +kernel
theorem dX0_add_171 : decode cX0_add 171 = .ok (.iload 8, 2) := by decide +kernel
theorem dX0_add_173 : decode cX0_add 173 = .ok (.invokestatic 69, 3) := by decide +kernel
theorem dX0_add_176 : decode cX0_add 176 = .ok (.ifCond .ne 23, 3) := by decide +kernel
theorem dX0_add_179 : decode cX0_add 179 = .ok (.aload_n 0, 1) := by decide +kernel
theorem dX0_add_180 : decode cX0_add 180 = .ok (.getfield 24, 3) := by decide +kernel
theorem dX0_add_183 : decode cX0_add 183 = .ok (.iload 4, 2) := by decide +kernel
theorem dX0_add_185 : decode cX0_add 185 = .ok (.laload, 1) := by decide +kernel
theorem dX0_add_186 : decode cX0_add 186 = .ok (.aload_n 0, 1) := by decide +kernel
theorem dX0_add_187 : decode cX0_add 187 = .ok (.getfield 28, 3) := by decide +kernel
theorem dX0_add_190 : decode cX0_add 190 = .ok (.iload 8, 2) := by decide +kernel
theorem dX0_add_192 : decode cX0_add 192 = .ok (.laload, 1) := by decide +kernel
theorem dX0_add_193 : decode cX0_add 193 = .ok (.land, 1) := by decide +kernel
theorem dX0_add_194 : decode cX0_add 194 = .ok (.lconst 0, 1) := by decide +kernel
theorem dX0_add_195 : decode cX0_add 195 = .ok (.lcmp, 1) := by decide +kernel
theorem dX0_add_196 : decode cX0_add 196 = .ok (.ifCond .eq 18, 3) := by decide +kernel
theorem dX0_add_199 : decode cX0_add 199 = .ok (.aload_n 0, 1) := by decide +kernel
theorem dX0_add_200 : decode cX0_add 200 = .ok (.getfield 28, 3) := by decide +kernel
theorem dX0_add_203 : decode cX0_add 203 = .ok (.iload 8, 2) := by decide +kernel
theorem dX0_add_205 : decode cX0_add 205 = .ok (.dup2, 1) := by decide +kernel
theorem dX0_add_206 : decode cX0_add 206 = .ok (.laload, 1) := by decide +kernel
theorem dX0_add_207 : decode cX0_add 207 = .ok (.iload 4, 2) := by decide +kernel
theorem dX0_add_209 : decode cX0_add 209 = .ok (.invokestatic 35, 3) := by decide +kernel
theorem dX0_add_212 : decode cX0_add 212 = .ok (.lor, 1) := by decide +kernel
theorem dX0_add_213 : decode cX0_add 213 = .ok (.lastore, 1) := by decide +kernel
theorem dX0_add_214 : decode cX0_add 214 = .ok (.iinc 8 1, 3) := by decide +kernel
theorem dX0_add_217 : decode cX0_add 217 = .ok (.goto (-55), 3) := by decide +kernel
theorem dX0_add_220 : decode cX0_add 220 = .ok (.aload_n 0, 1) := by decide +kernel
theorem dX0_add_221 : decode cX0_add 221 = .ok (.dup, 1) := by decide +kernel
theorem dX0_add_222 : decode cX0_add 222 = .ok (.getfield 31, 3) := by decide +kernel
theorem dX0_add_225 : decode cX0_add 225 = .ok (.iconst 1, 1) := by decide +kernel
theorem dX0_add_226 : decode cX0_add 226 = .ok (.iadd, 1) := by decide +kernel
theorem dX0_add_227 : decode cX0_add 227 = .ok (.putfield 31, 3) := by decide +kernel
theorem dX0_add_230 : decode cX0_add 230 = .ok (.iload 4, 2) := by decide +kernel
theorem dX0_add_232 : decode cX0_add 232 = .ok (.ireturn, 1) := by decide +kernel
def wX0_add_L162 (post : Int32 → (Nat → Int32) × (Nat → Int32) × (Nat → Int32) × (Nat → Int32) × (Nat → Int64) × (Nat → Int64) × Int32 → Prop) (K220 : Int32 → (Nat → Int64) → Prop) (bn : Int32) (p1 : Int32) (p2 : Int32) (pf' : Nat → Int64) : Nat → Int32 → (Nat → Int64) → Prop
  | 0, _, _ => False
  | n+1, i8, gf' =>
    (((6 : Int32) ≤ i8) →
      K220 i8 gf'
    ) ∧ (¬ ((6 : Int32) ≤ i8) →
      wX0_names (fun r_3 : Int32 =>
        ((¬ r_3 = 0) →
          vp_in i8 6 ∧
          wX2_setOf (fun r_4 : Int64 =>
            vp_in i8 6 ∧
            wX0_add_L162 post K220 bn p1 p2 pf' n (i8 + 1) (vp_updL gf' i8.toNatClampNeg ((gf' i8.toNatClampNeg) ||| r_4))
            ) bn
        ) ∧ ((r_3 = 0) →
          vp_in bn 40 ∧
          vp_in i8 6 ∧
          (((lg_cmp ((pf' bn.toNatClampNeg) &&& (gf' i8.toNatClampNeg)) (0 : Int64)) = 0) →
            wX0_add_L162 post K220 bn p1 p2 pf' n (i8 + 1) gf'
          ) ∧ (¬ ((lg_cmp ((pf' bn.toNatClampNeg) &&& (gf' i8.toNatClampNeg)) (0 : Int64)) = 0) →
            vp_in i8 6 ∧
            wX2_setOf (fun r_5 : Int64 =>
              vp_in i8 6 ∧
              wX0_add_L162 post K220 bn p1 p2 pf' n (i8 + 1) (vp_updL gf' i8.toNatClampNeg ((gf' i8.toNatClampNeg) ||| r_5))
              ) bn
          )
        )
        ) p1 p2 i8
    )
def wX0_add_C159 (post : Int32 → (Nat → Int32) × (Nat → Int32) × (Nat → Int32) × (Nat → Int32) × (Nat → Int64) × (Nat → Int64) × Int32 → Prop) (kf : Nat → Int32) (ff : Nat → Int32) (sf : Nat → Int32) (df : Nat → Int32) (gf : Nat → Int64) (bn : Int32) (p1 : Int32) (p2 : Int32) (p3 : Int32) (i7 : Int32) (pf' : Nat → Int64) : Prop :=
  ∃ nF, wX0_add_L162 post
    (fun i8 gf' =>
      post bn ((upd kf bn.toNatClampNeg p1), (upd ff bn.toNatClampNeg p2), (upd sf bn.toNatClampNeg p3), (upd df bn.toNatClampNeg (i7 + (1 : Int32))), pf', gf', (bn + (1 : Int32)))
    )
    bn p1 p2 pf' nF (0 : Int32) gf
def wX0_add_C106 (post : Int32 → (Nat → Int32) × (Nat → Int32) × (Nat → Int32) × (Nat → Int32) × (Nat → Int64) × (Nat → Int64) × Int32 → Prop) (kf : Nat → Int32) (ff : Nat → Int32) (sf : Nat → Int32) (df : Nat → Int32) (pf : Nat → Int64) (gf : Nat → Int64) (bn : Int32) (p1 : Int32) (p2 : Int32) (p3 : Int32) (i5 : Int32) (i6 : Int32) (i7 : Int32) : Prop :=
  vp_in bn 40 ∧
  wX2_setOf (fun r_2 : Int64 =>
    ((i5 = 0) →
      ((i6 = 0) →
        vp_in bn 40 ∧
        wX0_add_C159 post kf ff sf df gf bn p1 p2 p3 i7 (vp_updL pf bn.toNatClampNeg ((r_2 ||| (0 : Int64)) ||| (0 : Int64)))
      ) ∧ (¬ (i6 = 0) →
        wX0_partsOf (fun r_6 : Int64 =>
          vp_in bn 40 ∧
          wX0_add_C159 post kf ff sf df gf bn p1 p2 p3 i7 (vp_updL pf bn.toNatClampNeg ((r_2 ||| (0 : Int64)) ||| r_6))
          ) pf bn p3
      )
    ) ∧ (¬ (i5 = 0) →
      wX0_partsOf (fun r_7 : Int64 =>
        ((i6 = 0) →
          vp_in bn 40 ∧
          wX0_add_C159 post kf ff sf df gf bn p1 p2 p3 i7 (vp_updL pf bn.toNatClampNeg ((r_2 ||| r_7) ||| (0 : Int64)))
        ) ∧ (¬ (i6 = 0) →
          wX0_partsOf (fun r_8 : Int64 =>
            vp_in bn 40 ∧
            wX0_add_C159 post kf ff sf df gf bn p1 p2 p3 i7 (vp_updL pf bn.toNatClampNeg ((r_2 ||| r_7) ||| r_8))
            ) pf bn p3
        )
        ) pf bn p2
    )
    ) bn
def wX0_add_C49 (post : Int32 → (Nat → Int32) × (Nat → Int32) × (Nat → Int32) × (Nat → Int32) × (Nat → Int64) × (Nat → Int64) × Int32 → Prop) (kf : Nat → Int32) (ff : Nat → Int32) (sf : Nat → Int32) (df : Nat → Int32) (pf : Nat → Int64) (gf : Nat → Int64) (bn : Int32) (p1 : Int32) (p2 : Int32) (p3 : Int32) (i5 : Int32) (i6 : Int32) : Prop :=
  vp_in bn 40 ∧
  vp_in bn 40 ∧
  vp_in bn 40 ∧
  ((i5 = 0) →
    ((i6 = 0) →
      ∀ x_1 : Int32, x_1 = (if (-1 : Int32) < (-1 : Int32) then (-1 : Int32) else (-1 : Int32)) →
      wX0_add_C106 post kf ff sf df pf gf bn p1 p2 p3 i5 i6 x_1
    ) ∧ (¬ (i6 = 0) →
      wX0_builtDeep (fun r_9 : Int32 =>
        ∀ x_2 : Int32, x_2 = (if (-1 : Int32) < r_9 then r_9 else (-1 : Int32)) →
        wX0_add_C106 post kf ff sf df pf gf bn p1 p2 p3 i5 i6 x_2
        ) df bn p3
    )
  ) ∧ (¬ (i5 = 0) →
    wX0_builtDeep (fun r_10 : Int32 =>
      ((i6 = 0) →
        ∀ x_3 : Int32, x_3 = (if r_10 < (-1 : Int32) then (-1 : Int32) else r_10) →
        wX0_add_C106 post kf ff sf df pf gf bn p1 p2 p3 i5 i6 x_3
      ) ∧ (¬ (i6 = 0) →
        wX0_builtDeep (fun r_11 : Int32 =>
          wX0_add_C106 post kf ff sf df pf gf bn p1 p2 p3 i5 i6 (if r_10 < r_11 then r_11 else r_10)
          ) df bn p3
      )
      ) df bn p2
  )
def wX0_add_C37 (post : Int32 → (Nat → Int32) × (Nat → Int32) × (Nat → Int32) × (Nat → Int32) × (Nat → Int64) × (Nat → Int64) × Int32 → Prop) (kf : Nat → Int32) (ff : Nat → Int32) (sf : Nat → Int32) (df : Nat → Int32) (pf : Nat → Int64) (gf : Nat → Int64) (bn : Int32) (p1 : Int32) (p2 : Int32) (p3 : Int32) (i5 : Int32) : Prop :=
  ((p1 < (2 : Int32)) →
    wX0_add_C49 post kf ff sf df pf gf bn p1 p2 p3 i5 (0 : Int32)
  ) ∧ (¬ (p1 < (2 : Int32)) →
    wX0_add_C49 post kf ff sf df pf gf bn p1 p2 p3 i5 (1 : Int32)
  )
def wX0_add (post : Int32 → (Nat → Int32) × (Nat → Int32) × (Nat → Int32) × (Nat → Int32) × (Nat → Int64) × (Nat → Int64) × Int32 → Prop) (kf : Nat → Int32) (ff : Nat → Int32) (sf : Nat → Int32) (df : Nat → Int32) (pf : Nat → Int64) (gf : Nat → Int64) (bn : Int32) (p1 : Int32) (p2 : Int32) (p3 : Int32) : Prop :=
  wX0_isFull (fun r_1 : Int32 =>
    ((r_1 = 0) →
      ((p1 = (1 : Int32)) →
        wX0_add_C37 post kf ff sf df pf gf bn p1 p2 p3 (1 : Int32)
      ) ∧ (¬ (p1 = (1 : Int32)) →
        ((p1 = (2 : Int32)) →
          wX0_add_C37 post kf ff sf df pf gf bn p1 p2 p3 (1 : Int32)
        ) ∧ (¬ (p1 = (2 : Int32)) →
          ((¬ p1 = (3 : Int32)) →
            wX0_add_C37 post kf ff sf df pf gf bn p1 p2 p3 (0 : Int32)
          ) ∧ ((p1 = (3 : Int32)) →
            wX0_add_C37 post kf ff sf df pf gf bn p1 p2 p3 (1 : Int32)
          )
        )
      )
    ) ∧ (¬ (r_1 = 0) →
      post (-1 : Int32) (kf, ff, sf, df, pf, gf, bn)
    )
    ) bn
abbrev wl_X0_add : List Cond := .code yX0_add cX0_add 9 (some .int) :: lwg
abbrev rm_X0_add : Room := { frames := 2, cells := 0, slots := 0, locals := 44 }
set_option maxHeartbeats 4000000 in
set_option maxRecDepth 100000 in
theorem kX0_add {post : Int32 → (Nat → Int32) × (Nat → Int32) × (Nat → Int32) × (Nat → Int32) × (Nat → Int64) × (Nat → Int64) × Int32 → Prop} (l : Launch) (G : GT) (b0 : Nat) (b1 : Nat) (b2 : Nat) (b3 : Nat) (b4 : Nat) (b5 : Nat) (b6 : Nat) (kf : Nat → Int32) (ff : Nat → Int32) (sf : Nat → Int32) (df : Nat → Int32) (pf : Nat → Int64) (gf : Nat → Int64) (bn : Int32) (p1 : Int32) (p2 : Int32) (p3 : Int32) (sz : Nat) (h : wX0_add post kf ff sf df pf gf bn p1 p2 p3) : Met l yX0_add wl_X0_add rm_X0_add (va_Pc [.ref b0, .int p1, .int p2, .int p3] (fun U => U.heap.size = sz ∧ PP G [(b0, .inr (3, [.ref b1, .ref b2, .ref b3, .ref b4, .ref b5, .ref b6, .int bn])), (b1, .inl (G.2 0, 40, .inl kf)), (b2, .inl (G.2 0, 40, .inl ff)), (b3, .inl (G.2 0, 40, .inl sf)), (b4, .inl (G.2 0, 40, .inl df)), (b5, .inl (G.2 1, 40, .inr (.inl pf))), (b6, .inl (G.2 1, 6, .inr (.inl gf)))] U.heap ∧ KK G U ∧ va_D (fun _ => True) [(b0, .inr (3, [.ref b1, .ref b2, .ref b3, .ref b4, .ref b5, .ref b6, .int bn])), (b1, .inl (G.2 0, 40, .inl kf)), (b2, .inl (G.2 0, 40, .inl ff)), (b3, .inl (G.2 0, 40, .inl sf)), (b4, .inl (G.2 0, 40, .inl df)), (b5, .inl (G.2 1, 40, .inr (.inl pf))), (b6, .inl (G.2 1, 6, .inr (.inl gf)))])) (va_Qi post (fun u t => PP G [(b0, .inr (3, [.ref b1, .ref b2, .ref b3, .ref b4, .ref b5, .ref b6, .int (u.2.2.2.2.2.2)])), (b1, .inl (G.2 0, 40, .inl (u.1))), (b2, .inl (G.2 0, 40, .inl (u.2.1))), (b3, .inl (G.2 0, 40, .inl (u.2.2.1))), (b4, .inl (G.2 0, 40, .inl (u.2.2.2.1))), (b5, .inl (G.2 1, 40, .inr (.inl (u.2.2.2.2.1)))), (b6, .inl (G.2 1, 6, .inr (.inl (u.2.2.2.2.2.1))))] t.heap ∧ va_D (va_A [(b0, .inr (3, [.ref b1, .ref b2, .ref b3, .ref b4, .ref b5, .ref b6, .int bn])), (b1, .inl (G.2 0, 40, .inl kf)), (b2, .inl (G.2 0, 40, .inl ff)), (b3, .inl (G.2 0, 40, .inl sf)), (b4, .inl (G.2 0, 40, .inl df)), (b5, .inl (G.2 1, 40, .inr (.inl pf))), (b6, .inl (G.2 1, 6, .inr (.inl gf)))] sz) [(b0, .inr (3, [.ref b1, .ref b2, .ref b3, .ref b4, .ref b5, .ref b6, .int (u.2.2.2.2.2.2)])), (b1, .inl (G.2 0, 40, .inl (u.1))), (b2, .inl (G.2 0, 40, .inl (u.2.1))), (b3, .inl (G.2 0, 40, .inl (u.2.2.1))), (b4, .inl (G.2 0, 40, .inl (u.2.2.2.1))), (b5, .inl (G.2 1, 40, .inr (.inl (u.2.2.2.2.1)))), (b6, .inl (G.2 1, 6, .inr (.inl (u.2.2.2.2.2.1))))]) (va_A [(b0, .inr (3, [.ref b1, .ref b2, .ref b3, .ref b4, .ref b5, .ref b6, .int bn])), (b1, .inl (G.2 0, 40, .inl kf)), (b2, .inl (G.2 0, 40, .inl ff)), (b3, .inl (G.2 0, 40, .inl sf)), (b4, .inl (G.2 0, 40, .inl df)), (b5, .inl (G.2 1, 40, .inr (.inl pf))), (b6, .inl (G.2 1, 6, .inr (.inl gf)))] sz)) 0 0 (va_A [(b0, .inr (3, [.ref b1, .ref b2, .ref b3, .ref b4, .ref b5, .ref b6, .int bn])), (b1, .inl (G.2 0, 40, .inl kf)), (b2, .inl (G.2 0, 40, .inl ff)), (b3, .inl (G.2 0, 40, .inl sf)), (b4, .inl (G.2 0, 40, .inl df)), (b5, .inl (G.2 1, 40, .inr (.inl pf))), (b6, .inl (G.2 1, 6, .inr (.inl gf)))] sz) := by
  refine Met.ofW (cc := cX0_add) (maxL := 9) (ret := (some .int)) (by decide) rfl ?_
  intro p e s m args below meth c s₁ B hml hv
  obtain ⟨rfl, hsz, hP, hKK, hD0⟩ := hv
  obtain ⟨hK, hN, hR, hFW, hNC⟩ := id hKK
  have hx := B.exec
  have hb := B.bytes
  have hr := B.returns
  have hts0 := atoms_spec (ws := wl_X0_add) B.pre
  have hts : ∀ w ∈ lwg, w.before ([.ref b0, .int p1, .int p2, .int p3] : List Value).toArray s = true := fun w hw => hts0 w (List.mem_cons_of_mem _ hw)
  have hown : s.vm.findClass RX0 = some m.cls := findClass_of_methodNamed B.named
  have hlocks := B.notSynchronized
  subst hsz
  have hD := hD0.self (sz := s.heap.size)
  generalize hAe : va_A [(b0, .inr (3, [.ref b1, .ref b2, .ref b3, .ref b4, .ref b5, .ref b6, .int bn])), (b1, .inl (G.2 0, 40, .inl kf)), (b2, .inl (G.2 0, 40, .inl ff)), (b3, .inl (G.2 0, 40, .inl sf)), (b4, .inl (G.2 0, 40, .inl df)), (b5, .inl (G.2 1, 40, .inr (.inl pf))), (b6, .inl (G.2 1, 6, .inr (.inl gf)))] s.heap.size = A at hD ⊢
  have hA : ∀ q : Nat, s.heap.size ≤ q → A q := fun q h => by rw [← hAe]; exact Or.inr h
  have hS : va_S A s.heap s.heap [] := va_S.rf
  obtain ⟨QC, hQC⟩ : ∃ Z, Z = (va_Qi post (fun u t => PP G [(b0, .inr (3, [.ref b1, .ref b2, .ref b3, .ref b4, .ref b5, .ref b6, .int (u.2.2.2.2.2.2)])), (b1, .inl (G.2 0, 40, .inl (u.1))), (b2, .inl (G.2 0, 40, .inl (u.2.1))), (b3, .inl (G.2 0, 40, .inl (u.2.2.1))), (b4, .inl (G.2 0, 40, .inl (u.2.2.2.1))), (b5, .inl (G.2 1, 40, .inr (.inl (u.2.2.2.2.1)))), (b6, .inl (G.2 1, 6, .inr (.inl (u.2.2.2.2.2.1))))] t.heap ∧ va_D A [(b0, .inr (3, [.ref b1, .ref b2, .ref b3, .ref b4, .ref b5, .ref b6, .int (u.2.2.2.2.2.2)])), (b1, .inl (G.2 0, 40, .inl (u.1))), (b2, .inl (G.2 0, 40, .inl (u.2.1))), (b3, .inl (G.2 0, 40, .inl (u.2.2.1))), (b4, .inl (G.2 0, 40, .inl (u.2.2.2.1))), (b5, .inl (G.2 1, 40, .inr (.inl (u.2.2.2.2.1)))), (b6, .inl (G.2 1, 6, .inr (.inl (u.2.2.2.2.2.1))))]) A) := ⟨_, rfl⟩
  rw [← hQC]
  have hP : PP G [(b0, .inr (3, [.ref b1, .ref b2, .ref b3, .ref b4, .ref b5, .ref b6, .int bn])), (b1, .inl (G.2 0, 40, .inl kf)), (b2, .inl (G.2 0, 40, .inl ff)), (b3, .inl (G.2 0, 40, .inl sf)), (b4, .inl (G.2 0, 40, .inl df)), (b5, .inl (G.2 1, 40, .inr (.inl pf))), (b6, .inl (G.2 1, 6, .inr (.inl gf)))] s.heap := hP
  have hl := lv_entry ([.ref b0, .int p1, .int p2, .int p3]) (n := 9) (Nat.le_of_ble_eq_true rfl)
  rw [lg_entry_eq]
  generalize (lg_sl ([.ref b0, .int p1, .int p2, .int p3]) ++ List.replicate (9 - (lg_sl ([.ref b0, .int p1, .int p2, .int p3])).length) Slot.unset).toArray = ls at hl ⊢
  have hl : lv_has ls 9 [(0, .ref b0), (1, .int p1), (2, .int p2), (3, .int p3)] := hl
  have loop162 : ∀ (K220 : Int32 → (Nat → Int64) → Prop) (i5 : Int32) (i6 : Int32) (i7 : Int32) (pf' : Nat → Int64), True → (∀ (i8 : Int32) (gf' : Nat → Int64) (ls : Array Slot) (H : Heap) (locs : List Loc), lv_has ls 9 [(0, .ref b0), (1, .int p1), (2, .int p2), (3, .int p3), (4, .int bn), (5, .int i5), (6, .int i6), (7, .int i7), (8, .int i8)] → PP G [(b0, .inr (3, [.ref b1, .ref b2, .ref b3, .ref b4, .ref b5, .ref b6, .int bn])), (b1, .inl (G.2 0, 40, .inl (upd kf bn.toNatClampNeg p1))), (b2, .inl (G.2 0, 40, .inl (upd ff bn.toNatClampNeg p2))), (b3, .inl (G.2 0, 40, .inl (upd sf bn.toNatClampNeg p3))), (b4, .inl (G.2 0, 40, .inl (upd df bn.toNatClampNeg (i7 + (1 : Int32))))), (b5, .inl (G.2 1, 40, .inr (.inl pf'))), (b6, .inl (G.2 1, 6, .inr (.inl gf')))] H → va_D A [(b0, .inr (3, [.ref b1, .ref b2, .ref b3, .ref b4, .ref b5, .ref b6, .int bn])), (b1, .inl (G.2 0, 40, .inl (upd kf bn.toNatClampNeg p1))), (b2, .inl (G.2 0, 40, .inl (upd ff bn.toNatClampNeg p2))), (b3, .inl (G.2 0, 40, .inl (upd sf bn.toNatClampNeg p3))), (b4, .inl (G.2 0, 40, .inl (upd df bn.toNatClampNeg (i7 + (1 : Int32))))), (b5, .inl (G.2 1, 40, .inr (.inl pf'))), (b6, .inl (G.2 1, 6, .inr (.inl gf')))] → va_S A s.heap H locs → K220 i8 gf' → W p l e (headSpec (wl_X0_add) rm_X0_add).room s m ([.ref b0, .int p1, .int p2, .int p3] : List Value).toArray below meth c H locs 0 0 (MQ below QC ([.ref b0, .int p1, .int p2, .int p3] : List Value).toArray s 0 0 A) (F0 m 220 ls [])) → ∀ (n : Nat) (i8 : Int32) (gf' : Nat → Int64) (ls : Array Slot) (H : Heap) (locs : List Loc), lv_has ls 9 [(0, .ref b0), (1, .int p1), (2, .int p2), (3, .int p3), (4, .int bn), (5, .int i5), (6, .int i6), (7, .int i7), (8, .int i8)] → PP G [(b0, .inr (3, [.ref b1, .ref b2, .ref b3, .ref b4, .ref b5, .ref b6, .int bn])), (b1, .inl (G.2 0, 40, .inl (upd kf bn.toNatClampNeg p1))), (b2, .inl (G.2 0, 40, .inl (upd ff bn.toNatClampNeg p2))), (b3, .inl (G.2 0, 40, .inl (upd sf bn.toNatClampNeg p3))), (b4, .inl (G.2 0, 40, .inl (upd df bn.toNatClampNeg (i7 + (1 : Int32))))), (b5, .inl (G.2 1, 40, .inr (.inl pf'))), (b6, .inl (G.2 1, 6, .inr (.inl gf')))] H → va_D A [(b0, .inr (3, [.ref b1, .ref b2, .ref b3, .ref b4, .ref b5, .ref b6, .int bn])), (b1, .inl (G.2 0, 40, .inl (upd kf bn.toNatClampNeg p1))), (b2, .inl (G.2 0, 40, .inl (upd ff bn.toNatClampNeg p2))), (b3, .inl (G.2 0, 40, .inl (upd sf bn.toNatClampNeg p3))), (b4, .inl (G.2 0, 40, .inl (upd df bn.toNatClampNeg (i7 + (1 : Int32))))), (b5, .inl (G.2 1, 40, .inr (.inl pf'))), (b6, .inl (G.2 1, 6, .inr (.inl gf')))] → va_S A s.heap H locs → wX0_add_L162 post K220 bn p1 p2 pf' n i8 gf' → W p l e (headSpec (wl_X0_add) rm_X0_add).room s m ([.ref b0, .int p1, .int p2, .int p3] : List Value).toArray below meth c H locs 0 0 (MQ below QC ([.ref b0, .int p1, .int p2, .int p3] : List Value).toArray s 0 0 A) (F0 m 162 ls []) := by
    intro K220 i5 i6 i7 pf' _ hexit220 n
    induction n with
    | zero => intro i8 gf' ls H locs hl hP hD hS h; exact False.elim h
    | succ n ih =>
      intro i8 gf' ls H locs hl hP hD hS h
      refine lv_iload hx hb dX0_add_162 (lv_at hl 8 rfl) ?_
      refine lv_bipush (v := 6) hx hb dX0_add_164 (by decide) ?_
      refine lv_icmp_ge (tgt := 220) hx hb dX0_add_166 (by decide) (fun hc => ?_) (fun hc => ?_)
      · have h := h.1 hc
        have hl := lv_sub (l' := [(0, .ref b0), (1, .int p1), (2, .int p2), (3, .int p3), (4, .int bn), (5, .int i5), (6, .int i6), (7, .int i7), (8, .int i8)]) hl [0, 1, 2, 3, 4, 5, 6, 7, 8] rfl
        exact hexit220 _ _ ls H locs hl hP hD hS h
      · have h := h.2 hc
        refine lv_iload_n hx hb dX0_add_169 rfl (lv_at hl 1 rfl) ?_
        refine lv_iload_n hx hb dX0_add_170 rfl (lv_at hl 2 rfl) ?_
        refine lv_iload hx hb dX0_add_171 (lv_at hl 8 rfl) ?_
        have hPc := va_P.sub (ws' := []) hP [] rfl
        refine rdI (va_runS (As := [.int p1, .int p2, .int i8]) (rest := []) ⟨hx, hb, hml, hown, hts⟩ (kX0_names l G p1 p2 i8 h) (va_cwS 3 hts (gdS q564 q565 q2 q566) rfl rfl rfl (by decide +kernel) ⟨Nat.le_of_ble_eq_true rfl, Nat.le_of_ble_eq_true rfl⟩) (preS hPc hKK) rfl rfl hl.1 rfl (lv_room (Nat.le_of_ble_eq_true rfl)) dX0_add_173 ⟨Nat.zero_le _, Nat.zero_le _⟩) (fun r_3 h => ?_)
        refine lv_if_ne (tgt := 199) hx hb dX0_add_176 (by decide) (fun hc => ?_) (fun hc => ?_)
        · have h := h.1 hc
          refine lv_aload_n hx hb dX0_add_199 rfl (lv_at hl 0 rfl) ?_
          refine va_get (D := G.1) (ci := 3) (v := .ref b6) (C := RX0) (T := TX0) (N := 7) hx hb hts igX0 hown hK hP 0 rfl rfl 5 (by decide) (hts _ q48) (fun _ h9 => h9) rfl dX0_add_200 ?_
          refine lv_iload hx hb dX0_add_203 (lv_at hl 8 rfl) ?_
          refine lv_dup2_11 hx hb dX0_add_205 rfl rfl ?_
          obtain ⟨hin, h⟩ := h
          refine va_lald (D := G.1) hx hb hK hP 6 1 rfl rfl hin dX0_add_206 ?_
          refine lv_iload hx hb dX0_add_207 (lv_at hl 4 rfl) ?_
          have hPc := va_P.sub (ws' := []) hP [] rfl
          refine rdL (va_runSN (As := [.int bn]) (rest := [.long (gf' i8.toNatClampNeg), .int i8, .ref b6]) ⟨hx, hb, hml, hown, hts⟩ (kX2_setOf l G bn h) ⟨va_cnB 1 hts (gdC q102) rfl rfl rfl (hN _ n100) (hts _ q1) (by decide +kernel) ⟨Nat.le_of_ble_eq_true rfl, Nat.le_of_ble_eq_true rfl⟩, hts _ q101, trivial⟩ (preS hPc hKK) rfl rfl hl.1 rfl (lv_room (Nat.le_of_ble_eq_true rfl)) dX0_add_209 ⟨Nat.zero_le _, Nat.zero_le _⟩) (fun r_4 h => ?_)
          refine lv_lor hx hb dX0_add_212 ?_
          obtain ⟨hin, h⟩ := h
          refine va_last (D := G.1) hx hb hK hP hD hS 6 1 rfl rfl hin dX0_add_213 (fun H locs hP hD hS => ?_)
          have hP : PP G [(b0, .inr (3, [.ref b1, .ref b2, .ref b3, .ref b4, .ref b5, .ref b6, .int bn])), (b1, .inl (G.2 0, 40, .inl (upd kf bn.toNatClampNeg p1))), (b2, .inl (G.2 0, 40, .inl (upd ff bn.toNatClampNeg p2))), (b3, .inl (G.2 0, 40, .inl (upd sf bn.toNatClampNeg p3))), (b4, .inl (G.2 0, 40, .inl (upd df bn.toNatClampNeg (i7 + (1 : Int32))))), (b5, .inl (G.2 1, 40, .inr (.inl pf'))), (b6, .inl (G.2 1, 6, .inr (.inl (vp_updL gf' i8.toNatClampNeg ((gf' i8.toNatClampNeg) ||| r_4)))))] H := hP
          have hD : va_D A [(b0, .inr (3, [.ref b1, .ref b2, .ref b3, .ref b4, .ref b5, .ref b6, .int bn])), (b1, .inl (G.2 0, 40, .inl (upd kf bn.toNatClampNeg p1))), (b2, .inl (G.2 0, 40, .inl (upd ff bn.toNatClampNeg p2))), (b3, .inl (G.2 0, 40, .inl (upd sf bn.toNatClampNeg p3))), (b4, .inl (G.2 0, 40, .inl (upd df bn.toNatClampNeg (i7 + (1 : Int32))))), (b5, .inl (G.2 1, 40, .inr (.inl pf'))), (b6, .inl (G.2 1, 6, .inr (.inl (vp_updL gf' i8.toNatClampNeg ((gf' i8.toNatClampNeg) ||| r_4)))))] := hD
          refine lv_iinc (v := (i8 + 1)) hx hb dX0_add_214 hl (k := 8) rfl (by rw [show Int32.ofInt 1 = 1 from by decide]) (Nat.le_of_ble_eq_true rfl) rfl (fun ls hl => ?_)
          have hl : lv_has ls 9 [(8, .int (i8 + 1)), (0, .ref b0), (1, .int p1), (2, .int p2), (3, .int p3), (4, .int bn), (5, .int i5), (6, .int i6), (7, .int i7)] := hl
          refine lv_goto (tgt := 162) hx hb dX0_add_217 (by decide) ?_
          have hl := lv_sub (l' := [(0, .ref b0), (1, .int p1), (2, .int p2), (3, .int p3), (4, .int bn), (5, .int i5), (6, .int i6), (7, .int i7), (8, .int (i8 + 1))]) hl [1, 2, 3, 4, 5, 6, 7, 8, 0] rfl
          exact ih _ _ ls H locs hl hP hD hS h
        · have h := h.2 hc
          refine lv_aload_n hx hb dX0_add_179 rfl (lv_at hl 0 rfl) ?_
          refine va_get (D := G.1) (ci := 3) (v := .ref b5) (C := RX0) (T := TX0) (N := 7) hx hb hts igX0 hown hK hP 0 rfl rfl 4 (by decide) (hts _ q47) (fun _ h9 => h9) rfl dX0_add_180 ?_
          refine lv_iload hx hb dX0_add_183 (lv_at hl 4 rfl) ?_
          obtain ⟨hin, h⟩ := h
          refine va_lald (D := G.1) hx hb hK hP 5 1 rfl rfl hin dX0_add_185 ?_
          refine lv_aload_n hx hb dX0_add_186 rfl (lv_at hl 0 rfl) ?_
          refine va_get (D := G.1) (ci := 3) (v := .ref b6) (C := RX0) (T := TX0) (N := 7) hx hb hts igX0 hown hK hP 0 rfl rfl 5 (by decide) (hts _ q48) (fun _ h9 => h9) rfl dX0_add_187 ?_
          refine lv_iload hx hb dX0_add_190 (lv_at hl 8 rfl) ?_
          obtain ⟨hin, h⟩ := h
          refine va_lald (D := G.1) hx hb hK hP 6 1 rfl rfl hin dX0_add_192 ?_
          refine lv_land hx hb dX0_add_193 ?_
          refine lv_lconst (v := 0) hx hb dX0_add_194 (by decide) ?_
          refine W.lcmp hx hb dX0_add_195 ?_
          refine lv_if_eq (tgt := 214) hx hb dX0_add_196 (by decide) (fun hc => ?_) (fun hc => ?_)
          · have h := h.1 hc
            refine lv_iinc (v := (i8 + 1)) hx hb dX0_add_214 hl (k := 8) rfl (by rw [show Int32.ofInt 1 = 1 from by decide]) (Nat.le_of_ble_eq_true rfl) rfl (fun ls hl => ?_)
            have hl : lv_has ls 9 [(8, .int (i8 + 1)), (0, .ref b0), (1, .int p1), (2, .int p2), (3, .int p3), (4, .int bn), (5, .int i5), (6, .int i6), (7, .int i7)] := hl
            refine lv_goto (tgt := 162) hx hb dX0_add_217 (by decide) ?_
            have hl := lv_sub (l' := [(0, .ref b0), (1, .int p1), (2, .int p2), (3, .int p3), (4, .int bn), (5, .int i5), (6, .int i6), (7, .int i7), (8, .int (i8 + 1))]) hl [1, 2, 3, 4, 5, 6, 7, 8, 0] rfl
            exact ih _ _ ls H locs hl hP hD hS h
          · have h := h.2 hc
            refine lv_aload_n hx hb dX0_add_199 rfl (lv_at hl 0 rfl) ?_
            refine va_get (D := G.1) (ci := 3) (v := .ref b6) (C := RX0) (T := TX0) (N := 7) hx hb hts igX0 hown hK hP 0 rfl rfl 5 (by decide) (hts _ q48) (fun _ h9 => h9) rfl dX0_add_200 ?_
            refine lv_iload hx hb dX0_add_203 (lv_at hl 8 rfl) ?_
            refine lv_dup2_11 hx hb dX0_add_205 rfl rfl ?_
            obtain ⟨hin, h⟩ := h
            refine va_lald (D := G.1) hx hb hK hP 6 1 rfl rfl hin dX0_add_206 ?_
            refine lv_iload hx hb dX0_add_207 (lv_at hl 4 rfl) ?_
            have hPc := va_P.sub (ws' := []) hP [] rfl
            refine rdL (va_runSN (As := [.int bn]) (rest := [.long (gf' i8.toNatClampNeg), .int i8, .ref b6]) ⟨hx, hb, hml, hown, hts⟩ (kX2_setOf l G bn h) ⟨va_cnB 1 hts (gdC q102) rfl rfl rfl (hN _ n100) (hts _ q1) (by decide +kernel) ⟨Nat.le_of_ble_eq_true rfl, Nat.le_of_ble_eq_true rfl⟩, hts _ q101, trivial⟩ (preS hPc hKK) rfl rfl hl.1 rfl (lv_room (Nat.le_of_ble_eq_true rfl)) dX0_add_209 ⟨Nat.zero_le _, Nat.zero_le _⟩) (fun r_5 h => ?_)
            refine lv_lor hx hb dX0_add_212 ?_
            obtain ⟨hin, h⟩ := h
            refine va_last (D := G.1) hx hb hK hP hD hS 6 1 rfl rfl hin dX0_add_213 (fun H locs hP hD hS => ?_)
            have hP : PP G [(b0, .inr (3, [.ref b1, .ref b2, .ref b3, .ref b4, .ref b5, .ref b6, .int bn])), (b1, .inl (G.2 0, 40, .inl (upd kf bn.toNatClampNeg p1))), (b2, .inl (G.2 0, 40, .inl (upd ff bn.toNatClampNeg p2))), (b3, .inl (G.2 0, 40, .inl (upd sf bn.toNatClampNeg p3))), (b4, .inl (G.2 0, 40, .inl (upd df bn.toNatClampNeg (i7 + (1 : Int32))))), (b5, .inl (G.2 1, 40, .inr (.inl pf'))), (b6, .inl (G.2 1, 6, .inr (.inl (vp_updL gf' i8.toNatClampNeg ((gf' i8.toNatClampNeg) ||| r_5)))))] H := hP
            have hD : va_D A [(b0, .inr (3, [.ref b1, .ref b2, .ref b3, .ref b4, .ref b5, .ref b6, .int bn])), (b1, .inl (G.2 0, 40, .inl (upd kf bn.toNatClampNeg p1))), (b2, .inl (G.2 0, 40, .inl (upd ff bn.toNatClampNeg p2))), (b3, .inl (G.2 0, 40, .inl (upd sf bn.toNatClampNeg p3))), (b4, .inl (G.2 0, 40, .inl (upd df bn.toNatClampNeg (i7 + (1 : Int32))))), (b5, .inl (G.2 1, 40, .inr (.inl pf'))), (b6, .inl (G.2 1, 6, .inr (.inl (vp_updL gf' i8.toNatClampNeg ((gf' i8.toNatClampNeg) ||| r_5)))))] := hD
            refine lv_iinc (v := (i8 + 1)) hx hb dX0_add_214 hl (k := 8) rfl (by rw [show Int32.ofInt 1 = 1 from by decide]) (Nat.le_of_ble_eq_true rfl) rfl (fun ls hl => ?_)
            have hl : lv_has ls 9 [(8, .int (i8 + 1)), (0, .ref b0), (1, .int p1), (2, .int p2), (3, .int p3), (4, .int bn), (5, .int i5), (6, .int i6), (7, .int i7)] := hl
            refine lv_goto (tgt := 162) hx hb dX0_add_217 (by decide) ?_
            have hl := lv_sub (l' := [(0, .ref b0), (1, .int p1), (2, .int p2), (3, .int p3), (4, .int bn), (5, .int i5), (6, .int i6), (7, .int i7), (8, .int (i8 + 1))]) hl [1, 2, 3, 4, 5, 6, 7, 8, 0] rfl
            exact ih _ _ ls H locs hl hP hD hS h
  have cut159 : ∀ (i5 : Int32) (i6 : Int32) (i7 : Int32) (pf' : Nat → Int64) (ls : Array Slot) (H : Heap) (locs : List Loc), lv_has ls 9 [(0, .ref b0), (1, .int p1), (2, .int p2), (3, .int p3), (4, .int bn), (5, .int i5), (6, .int i6), (7, .int i7)] → PP G [(b0, .inr (3, [.ref b1, .ref b2, .ref b3, .ref b4, .ref b5, .ref b6, .int bn])), (b1, .inl (G.2 0, 40, .inl (upd kf bn.toNatClampNeg p1))), (b2, .inl (G.2 0, 40, .inl (upd ff bn.toNatClampNeg p2))), (b3, .inl (G.2 0, 40, .inl (upd sf bn.toNatClampNeg p3))), (b4, .inl (G.2 0, 40, .inl (upd df bn.toNatClampNeg (i7 + (1 : Int32))))), (b5, .inl (G.2 1, 40, .inr (.inl pf'))), (b6, .inl (G.2 1, 6, .inr (.inl gf)))] H → va_D A [(b0, .inr (3, [.ref b1, .ref b2, .ref b3, .ref b4, .ref b5, .ref b6, .int bn])), (b1, .inl (G.2 0, 40, .inl (upd kf bn.toNatClampNeg p1))), (b2, .inl (G.2 0, 40, .inl (upd ff bn.toNatClampNeg p2))), (b3, .inl (G.2 0, 40, .inl (upd sf bn.toNatClampNeg p3))), (b4, .inl (G.2 0, 40, .inl (upd df bn.toNatClampNeg (i7 + (1 : Int32))))), (b5, .inl (G.2 1, 40, .inr (.inl pf'))), (b6, .inl (G.2 1, 6, .inr (.inl gf)))] → va_S A s.heap H locs → wX0_add_C159 post kf ff sf df gf bn p1 p2 p3 i7 pf' → W p l e (headSpec (wl_X0_add) rm_X0_add).room s m ([.ref b0, .int p1, .int p2, .int p3] : List Value).toArray below meth c H locs 0 0 (MQ below QC ([.ref b0, .int p1, .int p2, .int p3] : List Value).toArray s 0 0 A) (F0 m 159 ls []) := by
    intro i5 i6 i7 pf' ls H locs hl hP hD hS h
    refine lv_iconst (v := 0) hx hb dX0_add_159 (by decide) ?_
    refine lv_istore hx hb dX0_add_160 hl (Nat.le_of_ble_eq_true rfl) rfl (fun ls hl => ?_)
    have hl : lv_has ls 9 [(8, .int (0 : Int32)), (0, .ref b0), (1, .int p1), (2, .int p2), (3, .int p3), (4, .int bn), (5, .int i5), (6, .int i6), (7, .int i7)] := hl
    have hl := lv_sub (l' := [(0, .ref b0), (1, .int p1), (2, .int p2), (3, .int p3), (4, .int bn), (5, .int i5), (6, .int i6), (7, .int i7), (8, .int (0 : Int32))]) hl [1, 2, 3, 4, 5, 6, 7, 8, 0] rfl
    obtain ⟨nF, h⟩ := h
    refine loop162 _ i5 i6 i7 pf' trivial ?_ nF (0 : Int32) gf _ _ _ hl hP hD hS h
    · intro i8 gf' ls H locs hl hP hD hS h
      refine lv_aload_n hx hb dX0_add_220 rfl (lv_at hl 0 rfl) ?_
      refine lv_dup hx hb dX0_add_221 rfl ?_
      refine va_get (D := G.1) (ci := 3) (v := .int bn) (C := RX0) (T := TX0) (N := 7) hx hb hts igX0 hown hK hP 0 rfl rfl 6 (by decide) (hts _ q49) (fun _ h9 => h9) rfl dX0_add_222 ?_
      refine lv_iconst (v := 1) hx hb dX0_add_225 (by decide) ?_
      refine lv_iadd hx hb dX0_add_226 ?_
      refine va_put (D := G.1) (ci := 3) (v := .int (bn + (1 : Int32))) (ty := .int) (C := RX0) (T := TX0) (N := 7) hx hb hts igX0 tyX0 tyX0_ok nmX0 hown hK hP hD hS 0 rfl rfl 6 (by decide) (hts _ q49) (fun _ h9 => h9) rfl (by decide +kernel) rfl rfl (Nat.le_of_ble_eq_true rfl) dX0_add_227 (fun H locs hP hD hS => ?_)
      have hP : PP G [(b0, .inr (3, [.ref b1, .ref b2, .ref b3, .ref b4, .ref b5, .ref b6, .int (bn + (1 : Int32))])), (b1, .inl (G.2 0, 40, .inl (upd kf bn.toNatClampNeg p1))), (b2, .inl (G.2 0, 40, .inl (upd ff bn.toNatClampNeg p2))), (b3, .inl (G.2 0, 40, .inl (upd sf bn.toNatClampNeg p3))), (b4, .inl (G.2 0, 40, .inl (upd df bn.toNatClampNeg (i7 + (1 : Int32))))), (b5, .inl (G.2 1, 40, .inr (.inl pf'))), (b6, .inl (G.2 1, 6, .inr (.inl gf')))] H := hP
      have hD : va_D A [(b0, .inr (3, [.ref b1, .ref b2, .ref b3, .ref b4, .ref b5, .ref b6, .int (bn + (1 : Int32))])), (b1, .inl (G.2 0, 40, .inl (upd kf bn.toNatClampNeg p1))), (b2, .inl (G.2 0, 40, .inl (upd ff bn.toNatClampNeg p2))), (b3, .inl (G.2 0, 40, .inl (upd sf bn.toNatClampNeg p3))), (b4, .inl (G.2 0, 40, .inl (upd df bn.toNatClampNeg (i7 + (1 : Int32))))), (b5, .inl (G.2 1, 40, .inr (.inl pf'))), (b6, .inl (G.2 1, 6, .inr (.inl gf')))] := hD
      refine lv_iload hx hb dX0_add_230 (lv_at hl 4 rfl) ?_
      subst hQC; exact W.iret (v := bn) hx hb hr (fun t ht hW => ⟨⟨_, ((upd kf bn.toNatClampNeg p1), (upd ff bn.toNatClampNeg p2), (upd sf bn.toNatClampNeg p3), (upd df bn.toNatClampNeg (i7 + (1 : Int32))), pf', gf', (bn + (1 : Int32))), rfl, h, by rw [ht]; exact hP, hD⟩, hS.F ht⟩) hS.2.2 dX0_add_232
  have cut106 : ∀ (i5 : Int32) (i6 : Int32) (i7 : Int32) (ls : Array Slot) (H : Heap) (locs : List Loc), lv_has ls 9 [(0, .ref b0), (1, .int p1), (2, .int p2), (3, .int p3), (4, .int bn), (5, .int i5), (6, .int i6), (7, .int i7)] → PP G [(b0, .inr (3, [.ref b1, .ref b2, .ref b3, .ref b4, .ref b5, .ref b6, .int bn])), (b1, .inl (G.2 0, 40, .inl (upd kf bn.toNatClampNeg p1))), (b2, .inl (G.2 0, 40, .inl (upd ff bn.toNatClampNeg p2))), (b3, .inl (G.2 0, 40, .inl (upd sf bn.toNatClampNeg p3))), (b4, .inl (G.2 0, 40, .inl df)), (b5, .inl (G.2 1, 40, .inr (.inl pf))), (b6, .inl (G.2 1, 6, .inr (.inl gf)))] H → va_D A [(b0, .inr (3, [.ref b1, .ref b2, .ref b3, .ref b4, .ref b5, .ref b6, .int bn])), (b1, .inl (G.2 0, 40, .inl (upd kf bn.toNatClampNeg p1))), (b2, .inl (G.2 0, 40, .inl (upd ff bn.toNatClampNeg p2))), (b3, .inl (G.2 0, 40, .inl (upd sf bn.toNatClampNeg p3))), (b4, .inl (G.2 0, 40, .inl df)), (b5, .inl (G.2 1, 40, .inr (.inl pf))), (b6, .inl (G.2 1, 6, .inr (.inl gf)))] → va_S A s.heap H locs → wX0_add_C106 post kf ff sf df pf gf bn p1 p2 p3 i5 i6 i7 → W p l e (headSpec (wl_X0_add) rm_X0_add).room s m ([.ref b0, .int p1, .int p2, .int p3] : List Value).toArray below meth c H locs 0 0 (MQ below QC ([.ref b0, .int p1, .int p2, .int p3] : List Value).toArray s 0 0 A) (F0 m 106 ls []) := by
    intro i5 i6 i7 ls H locs hl hP hD hS h
    refine lv_aload_n hx hb dX0_add_106 rfl (lv_at hl 0 rfl) ?_
    refine va_get (D := G.1) (ci := 3) (v := .ref b4) (C := RX0) (T := TX0) (N := 7) hx hb hts igX0 hown hK hP 0 rfl rfl 3 (by decide) (hts _ q46) (fun _ h9 => h9) rfl dX0_add_107 ?_
    refine lv_iload hx hb dX0_add_110 (lv_at hl 4 rfl) ?_
    refine lv_iload hx hb dX0_add_112 (lv_at hl 7 rfl) ?_
    refine lv_iconst (v := 1) hx hb dX0_add_114 (by decide) ?_
    refine lv_iadd hx hb dX0_add_115 ?_
    obtain ⟨hin, h⟩ := h
    refine va_iast (D := G.1) hx hb hK hP hD hS 4 0 rfl rfl hin dX0_add_116 (fun H locs hP hD hS => ?_)
    have hP : PP G [(b0, .inr (3, [.ref b1, .ref b2, .ref b3, .ref b4, .ref b5, .ref b6, .int bn])), (b1, .inl (G.2 0, 40, .inl (upd kf bn.toNatClampNeg p1))), (b2, .inl (G.2 0, 40, .inl (upd ff bn.toNatClampNeg p2))), (b3, .inl (G.2 0, 40, .inl (upd sf bn.toNatClampNeg p3))), (b4, .inl (G.2 0, 40, .inl (upd df bn.toNatClampNeg (i7 + (1 : Int32))))), (b5, .inl (G.2 1, 40, .inr (.inl pf))), (b6, .inl (G.2 1, 6, .inr (.inl gf)))] H := hP
    have hD : va_D A [(b0, .inr (3, [.ref b1, .ref b2, .ref b3, .ref b4, .ref b5, .ref b6, .int bn])), (b1, .inl (G.2 0, 40, .inl (upd kf bn.toNatClampNeg p1))), (b2, .inl (G.2 0, 40, .inl (upd ff bn.toNatClampNeg p2))), (b3, .inl (G.2 0, 40, .inl (upd sf bn.toNatClampNeg p3))), (b4, .inl (G.2 0, 40, .inl (upd df bn.toNatClampNeg (i7 + (1 : Int32))))), (b5, .inl (G.2 1, 40, .inr (.inl pf))), (b6, .inl (G.2 1, 6, .inr (.inl gf)))] := hD
    refine lv_aload_n hx hb dX0_add_117 rfl (lv_at hl 0 rfl) ?_
    refine va_get (D := G.1) (ci := 3) (v := .ref b5) (C := RX0) (T := TX0) (N := 7) hx hb hts igX0 hown hK hP 0 rfl rfl 4 (by decide) (hts _ q47) (fun _ h9 => h9) rfl dX0_add_118 ?_
    refine lv_iload hx hb dX0_add_121 (lv_at hl 4 rfl) ?_
    refine lv_iload hx hb dX0_add_123 (lv_at hl 4 rfl) ?_
    have hPc := va_P.sub (ws' := []) hP [] rfl
    refine rdL (va_runSN (As := [.int bn]) (rest := [.int bn, .ref b5]) ⟨hx, hb, hml, hown, hts⟩ (kX2_setOf l G bn h) ⟨va_cnB 1 hts (gdC q102) rfl rfl rfl (hN _ n100) (hts _ q1) (by decide +kernel) ⟨Nat.le_of_ble_eq_true rfl, Nat.le_of_ble_eq_true rfl⟩, hts _ q101, trivial⟩ (preS hPc hKK) rfl rfl hl.1 rfl (lv_room (Nat.le_of_ble_eq_true rfl)) dX0_add_125 ⟨Nat.zero_le _, Nat.zero_le _⟩) (fun r_2 h => ?_)
    refine lv_iload hx hb dX0_add_128 (lv_at hl 5 rfl) ?_
    refine lv_if_eq (tgt := 141) hx hb dX0_add_130 (by decide) (fun hc => ?_) (fun hc => ?_)
    · have h := h.1 hc
      refine lv_lconst (v := 0) hx hb dX0_add_141 (by decide) ?_
      refine lv_lor hx hb dX0_add_142 ?_
      refine lv_iload hx hb dX0_add_143 (lv_at hl 6 rfl) ?_
      refine lv_if_eq (tgt := 156) hx hb dX0_add_145 (by decide) (fun hc => ?_) (fun hc => ?_)
      · have h := h.1 hc
        refine lv_lconst (v := 0) hx hb dX0_add_156 (by decide) ?_
        refine lv_lor hx hb dX0_add_157 ?_
        obtain ⟨hin, h⟩ := h
        refine va_last (D := G.1) hx hb hK hP hD hS 5 1 rfl rfl hin dX0_add_158 (fun H locs hP hD hS => ?_)
        have hP : PP G [(b0, .inr (3, [.ref b1, .ref b2, .ref b3, .ref b4, .ref b5, .ref b6, .int bn])), (b1, .inl (G.2 0, 40, .inl (upd kf bn.toNatClampNeg p1))), (b2, .inl (G.2 0, 40, .inl (upd ff bn.toNatClampNeg p2))), (b3, .inl (G.2 0, 40, .inl (upd sf bn.toNatClampNeg p3))), (b4, .inl (G.2 0, 40, .inl (upd df bn.toNatClampNeg (i7 + (1 : Int32))))), (b5, .inl (G.2 1, 40, .inr (.inl (vp_updL pf bn.toNatClampNeg ((r_2 ||| (0 : Int64)) ||| (0 : Int64)))))), (b6, .inl (G.2 1, 6, .inr (.inl gf)))] H := hP
        have hD : va_D A [(b0, .inr (3, [.ref b1, .ref b2, .ref b3, .ref b4, .ref b5, .ref b6, .int bn])), (b1, .inl (G.2 0, 40, .inl (upd kf bn.toNatClampNeg p1))), (b2, .inl (G.2 0, 40, .inl (upd ff bn.toNatClampNeg p2))), (b3, .inl (G.2 0, 40, .inl (upd sf bn.toNatClampNeg p3))), (b4, .inl (G.2 0, 40, .inl (upd df bn.toNatClampNeg (i7 + (1 : Int32))))), (b5, .inl (G.2 1, 40, .inr (.inl (vp_updL pf bn.toNatClampNeg ((r_2 ||| (0 : Int64)) ||| (0 : Int64)))))), (b6, .inl (G.2 1, 6, .inr (.inl gf)))] := hD
        have hl := lv_sub (l' := [(0, .ref b0), (1, .int p1), (2, .int p2), (3, .int p3), (4, .int bn), (5, .int i5), (6, .int i6), (7, .int i7)]) hl [0, 1, 2, 3, 4, 5, 6, 7] rfl
        exact cut159 i5 i6 i7 (vp_updL pf bn.toNatClampNeg ((r_2 ||| (0 : Int64)) ||| (0 : Int64))) _ _ _ hl hP hD hS h
      · have h := h.2 hc
        refine lv_aload_n hx hb dX0_add_148 rfl (lv_at hl 0 rfl) ?_
        refine lv_iload_n hx hb dX0_add_149 rfl (lv_at hl 3 rfl) ?_
        have hPc := hP
        refine rdL (va_runV (C := RX0) (As := [.int p3]) (rest := [.long (r_2 ||| (0 : Int64)), .int bn, .ref b5]) ⟨hx, hb, hml, hown, hts⟩ (kX0_partsOf l G b0 b1 b2 b3 b4 b5 b6 (upd kf bn.toNatClampNeg p1) (upd ff bn.toNatClampNeg p2) (upd sf bn.toNatClampNeg p3) (upd df bn.toNatClampNeg (i7 + (1 : Int32))) pf gf bn p3 h) (cwV 1 hts (gdV q459 q460 q461 q2 q462) rfl rfl rfl (by decide +kernel) ⟨Nat.le_of_ble_eq_true rfl, Nat.le_of_ble_eq_true rfl⟩) (preV hPc hKK (va_recv hK hPc (ci := 3) (q0 := 0) rfl rfl)) rfl rfl hl.1 rfl (lv_room (Nat.le_of_ble_eq_true rfl)) dX0_add_150 ⟨Nat.zero_le _, Nat.zero_le _⟩) (fun r_6 h => ?_)
        refine lv_goto (tgt := 157) hx hb dX0_add_153 (by decide) ?_
        refine lv_lor hx hb dX0_add_157 ?_
        obtain ⟨hin, h⟩ := h
        refine va_last (D := G.1) hx hb hK hP hD hS 5 1 rfl rfl hin dX0_add_158 (fun H locs hP hD hS => ?_)
        have hP : PP G [(b0, .inr (3, [.ref b1, .ref b2, .ref b3, .ref b4, .ref b5, .ref b6, .int bn])), (b1, .inl (G.2 0, 40, .inl (upd kf bn.toNatClampNeg p1))), (b2, .inl (G.2 0, 40, .inl (upd ff bn.toNatClampNeg p2))), (b3, .inl (G.2 0, 40, .inl (upd sf bn.toNatClampNeg p3))), (b4, .inl (G.2 0, 40, .inl (upd df bn.toNatClampNeg (i7 + (1 : Int32))))), (b5, .inl (G.2 1, 40, .inr (.inl (vp_updL pf bn.toNatClampNeg ((r_2 ||| (0 : Int64)) ||| r_6))))), (b6, .inl (G.2 1, 6, .inr (.inl gf)))] H := hP
        have hD : va_D A [(b0, .inr (3, [.ref b1, .ref b2, .ref b3, .ref b4, .ref b5, .ref b6, .int bn])), (b1, .inl (G.2 0, 40, .inl (upd kf bn.toNatClampNeg p1))), (b2, .inl (G.2 0, 40, .inl (upd ff bn.toNatClampNeg p2))), (b3, .inl (G.2 0, 40, .inl (upd sf bn.toNatClampNeg p3))), (b4, .inl (G.2 0, 40, .inl (upd df bn.toNatClampNeg (i7 + (1 : Int32))))), (b5, .inl (G.2 1, 40, .inr (.inl (vp_updL pf bn.toNatClampNeg ((r_2 ||| (0 : Int64)) ||| r_6))))), (b6, .inl (G.2 1, 6, .inr (.inl gf)))] := hD
        have hl := lv_sub (l' := [(0, .ref b0), (1, .int p1), (2, .int p2), (3, .int p3), (4, .int bn), (5, .int i5), (6, .int i6), (7, .int i7)]) hl [0, 1, 2, 3, 4, 5, 6, 7] rfl
        exact cut159 i5 i6 i7 (vp_updL pf bn.toNatClampNeg ((r_2 ||| (0 : Int64)) ||| r_6)) _ _ _ hl hP hD hS h
    · have h := h.2 hc
      refine lv_aload_n hx hb dX0_add_133 rfl (lv_at hl 0 rfl) ?_
      refine lv_iload_n hx hb dX0_add_134 rfl (lv_at hl 2 rfl) ?_
      have hPc := hP
      refine rdL (va_runV (C := RX0) (As := [.int p2]) (rest := [.long r_2, .int bn, .ref b5]) ⟨hx, hb, hml, hown, hts⟩ (kX0_partsOf l G b0 b1 b2 b3 b4 b5 b6 (upd kf bn.toNatClampNeg p1) (upd ff bn.toNatClampNeg p2) (upd sf bn.toNatClampNeg p3) (upd df bn.toNatClampNeg (i7 + (1 : Int32))) pf gf bn p2 h) (cwV 1 hts (gdV q459 q460 q461 q2 q462) rfl rfl rfl (by decide +kernel) ⟨Nat.le_of_ble_eq_true rfl, Nat.le_of_ble_eq_true rfl⟩) (preV hPc hKK (va_recv hK hPc (ci := 3) (q0 := 0) rfl rfl)) rfl rfl hl.1 rfl (lv_room (Nat.le_of_ble_eq_true rfl)) dX0_add_135 ⟨Nat.zero_le _, Nat.zero_le _⟩) (fun r_7 h => ?_)
      refine lv_goto (tgt := 142) hx hb dX0_add_138 (by decide) ?_
      refine lv_lor hx hb dX0_add_142 ?_
      refine lv_iload hx hb dX0_add_143 (lv_at hl 6 rfl) ?_
      refine lv_if_eq (tgt := 156) hx hb dX0_add_145 (by decide) (fun hc => ?_) (fun hc => ?_)
      · have h := h.1 hc
        refine lv_lconst (v := 0) hx hb dX0_add_156 (by decide) ?_
        refine lv_lor hx hb dX0_add_157 ?_
        obtain ⟨hin, h⟩ := h
        refine va_last (D := G.1) hx hb hK hP hD hS 5 1 rfl rfl hin dX0_add_158 (fun H locs hP hD hS => ?_)
        have hP : PP G [(b0, .inr (3, [.ref b1, .ref b2, .ref b3, .ref b4, .ref b5, .ref b6, .int bn])), (b1, .inl (G.2 0, 40, .inl (upd kf bn.toNatClampNeg p1))), (b2, .inl (G.2 0, 40, .inl (upd ff bn.toNatClampNeg p2))), (b3, .inl (G.2 0, 40, .inl (upd sf bn.toNatClampNeg p3))), (b4, .inl (G.2 0, 40, .inl (upd df bn.toNatClampNeg (i7 + (1 : Int32))))), (b5, .inl (G.2 1, 40, .inr (.inl (vp_updL pf bn.toNatClampNeg ((r_2 ||| r_7) ||| (0 : Int64)))))), (b6, .inl (G.2 1, 6, .inr (.inl gf)))] H := hP
        have hD : va_D A [(b0, .inr (3, [.ref b1, .ref b2, .ref b3, .ref b4, .ref b5, .ref b6, .int bn])), (b1, .inl (G.2 0, 40, .inl (upd kf bn.toNatClampNeg p1))), (b2, .inl (G.2 0, 40, .inl (upd ff bn.toNatClampNeg p2))), (b3, .inl (G.2 0, 40, .inl (upd sf bn.toNatClampNeg p3))), (b4, .inl (G.2 0, 40, .inl (upd df bn.toNatClampNeg (i7 + (1 : Int32))))), (b5, .inl (G.2 1, 40, .inr (.inl (vp_updL pf bn.toNatClampNeg ((r_2 ||| r_7) ||| (0 : Int64)))))), (b6, .inl (G.2 1, 6, .inr (.inl gf)))] := hD
        have hl := lv_sub (l' := [(0, .ref b0), (1, .int p1), (2, .int p2), (3, .int p3), (4, .int bn), (5, .int i5), (6, .int i6), (7, .int i7)]) hl [0, 1, 2, 3, 4, 5, 6, 7] rfl
        exact cut159 i5 i6 i7 (vp_updL pf bn.toNatClampNeg ((r_2 ||| r_7) ||| (0 : Int64))) _ _ _ hl hP hD hS h
      · have h := h.2 hc
        refine lv_aload_n hx hb dX0_add_148 rfl (lv_at hl 0 rfl) ?_
        refine lv_iload_n hx hb dX0_add_149 rfl (lv_at hl 3 rfl) ?_
        have hPc := hP
        refine rdL (va_runV (C := RX0) (As := [.int p3]) (rest := [.long (r_2 ||| r_7), .int bn, .ref b5]) ⟨hx, hb, hml, hown, hts⟩ (kX0_partsOf l G b0 b1 b2 b3 b4 b5 b6 (upd kf bn.toNatClampNeg p1) (upd ff bn.toNatClampNeg p2) (upd sf bn.toNatClampNeg p3) (upd df bn.toNatClampNeg (i7 + (1 : Int32))) pf gf bn p3 h) (cwV 1 hts (gdV q459 q460 q461 q2 q462) rfl rfl rfl (by decide +kernel) ⟨Nat.le_of_ble_eq_true rfl, Nat.le_of_ble_eq_true rfl⟩) (preV hPc hKK (va_recv hK hPc (ci := 3) (q0 := 0) rfl rfl)) rfl rfl hl.1 rfl (lv_room (Nat.le_of_ble_eq_true rfl)) dX0_add_150 ⟨Nat.zero_le _, Nat.zero_le _⟩) (fun r_8 h => ?_)
        refine lv_goto (tgt := 157) hx hb dX0_add_153 (by decide) ?_
        refine lv_lor hx hb dX0_add_157 ?_
        obtain ⟨hin, h⟩ := h
        refine va_last (D := G.1) hx hb hK hP hD hS 5 1 rfl rfl hin dX0_add_158 (fun H locs hP hD hS => ?_)
        have hP : PP G [(b0, .inr (3, [.ref b1, .ref b2, .ref b3, .ref b4, .ref b5, .ref b6, .int bn])), (b1, .inl (G.2 0, 40, .inl (upd kf bn.toNatClampNeg p1))), (b2, .inl (G.2 0, 40, .inl (upd ff bn.toNatClampNeg p2))), (b3, .inl (G.2 0, 40, .inl (upd sf bn.toNatClampNeg p3))), (b4, .inl (G.2 0, 40, .inl (upd df bn.toNatClampNeg (i7 + (1 : Int32))))), (b5, .inl (G.2 1, 40, .inr (.inl (vp_updL pf bn.toNatClampNeg ((r_2 ||| r_7) ||| r_8))))), (b6, .inl (G.2 1, 6, .inr (.inl gf)))] H := hP
        have hD : va_D A [(b0, .inr (3, [.ref b1, .ref b2, .ref b3, .ref b4, .ref b5, .ref b6, .int bn])), (b1, .inl (G.2 0, 40, .inl (upd kf bn.toNatClampNeg p1))), (b2, .inl (G.2 0, 40, .inl (upd ff bn.toNatClampNeg p2))), (b3, .inl (G.2 0, 40, .inl (upd sf bn.toNatClampNeg p3))), (b4, .inl (G.2 0, 40, .inl (upd df bn.toNatClampNeg (i7 + (1 : Int32))))), (b5, .inl (G.2 1, 40, .inr (.inl (vp_updL pf bn.toNatClampNeg ((r_2 ||| r_7) ||| r_8))))), (b6, .inl (G.2 1, 6, .inr (.inl gf)))] := hD
        have hl := lv_sub (l' := [(0, .ref b0), (1, .int p1), (2, .int p2), (3, .int p3), (4, .int bn), (5, .int i5), (6, .int i6), (7, .int i7)]) hl [0, 1, 2, 3, 4, 5, 6, 7] rfl
        exact cut159 i5 i6 i7 (vp_updL pf bn.toNatClampNeg ((r_2 ||| r_7) ||| r_8)) _ _ _ hl hP hD hS h
  have cut49 : ∀ (i5 : Int32) (i6 : Int32) (ls : Array Slot) (H : Heap) (locs : List Loc), lv_has ls 9 [(0, .ref b0), (1, .int p1), (2, .int p2), (3, .int p3), (4, .int bn), (5, .int i5), (6, .int i6)] → PP G [(b0, .inr (3, [.ref b1, .ref b2, .ref b3, .ref b4, .ref b5, .ref b6, .int bn])), (b1, .inl (G.2 0, 40, .inl kf)), (b2, .inl (G.2 0, 40, .inl ff)), (b3, .inl (G.2 0, 40, .inl sf)), (b4, .inl (G.2 0, 40, .inl df)), (b5, .inl (G.2 1, 40, .inr (.inl pf))), (b6, .inl (G.2 1, 6, .inr (.inl gf)))] H → va_D A [(b0, .inr (3, [.ref b1, .ref b2, .ref b3, .ref b4, .ref b5, .ref b6, .int bn])), (b1, .inl (G.2 0, 40, .inl kf)), (b2, .inl (G.2 0, 40, .inl ff)), (b3, .inl (G.2 0, 40, .inl sf)), (b4, .inl (G.2 0, 40, .inl df)), (b5, .inl (G.2 1, 40, .inr (.inl pf))), (b6, .inl (G.2 1, 6, .inr (.inl gf)))] → va_S A s.heap H locs → wX0_add_C49 post kf ff sf df pf gf bn p1 p2 p3 i5 i6 → W p l e (headSpec (wl_X0_add) rm_X0_add).room s m ([.ref b0, .int p1, .int p2, .int p3] : List Value).toArray below meth c H locs 0 0 (MQ below QC ([.ref b0, .int p1, .int p2, .int p3] : List Value).toArray s 0 0 A) (F0 m 49 ls []) := by
    intro i5 i6 ls H locs hl hP hD hS h
    refine lv_aload_n hx hb dX0_add_49 rfl (lv_at hl 0 rfl) ?_
    refine va_get (D := G.1) (ci := 3) (v := .ref b1) (C := RX0) (T := TX0) (N := 7) hx hb hts igX0 hown hK hP 0 rfl rfl 0 (by decide) (hts _ q43) (fun _ h9 => h9) rfl dX0_add_50 ?_
    refine lv_iload hx hb dX0_add_53 (lv_at hl 4 rfl) ?_
    refine lv_iload_n hx hb dX0_add_55 rfl (lv_at hl 1 rfl) ?_
    obtain ⟨hin, h⟩ := h
    refine va_iast (D := G.1) hx hb hK hP hD hS 1 0 rfl rfl hin dX0_add_56 (fun H locs hP hD hS => ?_)
    have hP : PP G [(b0, .inr (3, [.ref b1, .ref b2, .ref b3, .ref b4, .ref b5, .ref b6, .int bn])), (b1, .inl (G.2 0, 40, .inl (upd kf bn.toNatClampNeg p1))), (b2, .inl (G.2 0, 40, .inl ff)), (b3, .inl (G.2 0, 40, .inl sf)), (b4, .inl (G.2 0, 40, .inl df)), (b5, .inl (G.2 1, 40, .inr (.inl pf))), (b6, .inl (G.2 1, 6, .inr (.inl gf)))] H := hP
    have hD : va_D A [(b0, .inr (3, [.ref b1, .ref b2, .ref b3, .ref b4, .ref b5, .ref b6, .int bn])), (b1, .inl (G.2 0, 40, .inl (upd kf bn.toNatClampNeg p1))), (b2, .inl (G.2 0, 40, .inl ff)), (b3, .inl (G.2 0, 40, .inl sf)), (b4, .inl (G.2 0, 40, .inl df)), (b5, .inl (G.2 1, 40, .inr (.inl pf))), (b6, .inl (G.2 1, 6, .inr (.inl gf)))] := hD
    refine lv_aload_n hx hb dX0_add_57 rfl (lv_at hl 0 rfl) ?_
    refine va_get (D := G.1) (ci := 3) (v := .ref b2) (C := RX0) (T := TX0) (N := 7) hx hb hts igX0 hown hK hP 0 rfl rfl 1 (by decide) (hts _ q44) (fun _ h9 => h9) rfl dX0_add_58 ?_
    refine lv_iload hx hb dX0_add_61 (lv_at hl 4 rfl) ?_
    refine lv_iload_n hx hb dX0_add_63 rfl (lv_at hl 2 rfl) ?_
    obtain ⟨hin, h⟩ := h
    refine va_iast (D := G.1) hx hb hK hP hD hS 2 0 rfl rfl hin dX0_add_64 (fun H locs hP hD hS => ?_)
    have hP : PP G [(b0, .inr (3, [.ref b1, .ref b2, .ref b3, .ref b4, .ref b5, .ref b6, .int bn])), (b1, .inl (G.2 0, 40, .inl (upd kf bn.toNatClampNeg p1))), (b2, .inl (G.2 0, 40, .inl (upd ff bn.toNatClampNeg p2))), (b3, .inl (G.2 0, 40, .inl sf)), (b4, .inl (G.2 0, 40, .inl df)), (b5, .inl (G.2 1, 40, .inr (.inl pf))), (b6, .inl (G.2 1, 6, .inr (.inl gf)))] H := hP
    have hD : va_D A [(b0, .inr (3, [.ref b1, .ref b2, .ref b3, .ref b4, .ref b5, .ref b6, .int bn])), (b1, .inl (G.2 0, 40, .inl (upd kf bn.toNatClampNeg p1))), (b2, .inl (G.2 0, 40, .inl (upd ff bn.toNatClampNeg p2))), (b3, .inl (G.2 0, 40, .inl sf)), (b4, .inl (G.2 0, 40, .inl df)), (b5, .inl (G.2 1, 40, .inr (.inl pf))), (b6, .inl (G.2 1, 6, .inr (.inl gf)))] := hD
    refine lv_aload_n hx hb dX0_add_65 rfl (lv_at hl 0 rfl) ?_
    refine va_get (D := G.1) (ci := 3) (v := .ref b3) (C := RX0) (T := TX0) (N := 7) hx hb hts igX0 hown hK hP 0 rfl rfl 2 (by decide) (hts _ q45) (fun _ h9 => h9) rfl dX0_add_66 ?_
    refine lv_iload hx hb dX0_add_69 (lv_at hl 4 rfl) ?_
    refine lv_iload_n hx hb dX0_add_71 rfl (lv_at hl 3 rfl) ?_
    obtain ⟨hin, h⟩ := h
    refine va_iast (D := G.1) hx hb hK hP hD hS 3 0 rfl rfl hin dX0_add_72 (fun H locs hP hD hS => ?_)
    have hP : PP G [(b0, .inr (3, [.ref b1, .ref b2, .ref b3, .ref b4, .ref b5, .ref b6, .int bn])), (b1, .inl (G.2 0, 40, .inl (upd kf bn.toNatClampNeg p1))), (b2, .inl (G.2 0, 40, .inl (upd ff bn.toNatClampNeg p2))), (b3, .inl (G.2 0, 40, .inl (upd sf bn.toNatClampNeg p3))), (b4, .inl (G.2 0, 40, .inl df)), (b5, .inl (G.2 1, 40, .inr (.inl pf))), (b6, .inl (G.2 1, 6, .inr (.inl gf)))] H := hP
    have hD : va_D A [(b0, .inr (3, [.ref b1, .ref b2, .ref b3, .ref b4, .ref b5, .ref b6, .int bn])), (b1, .inl (G.2 0, 40, .inl (upd kf bn.toNatClampNeg p1))), (b2, .inl (G.2 0, 40, .inl (upd ff bn.toNatClampNeg p2))), (b3, .inl (G.2 0, 40, .inl (upd sf bn.toNatClampNeg p3))), (b4, .inl (G.2 0, 40, .inl df)), (b5, .inl (G.2 1, 40, .inr (.inl pf))), (b6, .inl (G.2 1, 6, .inr (.inl gf)))] := hD
    refine lv_iload hx hb dX0_add_73 (lv_at hl 5 rfl) ?_
    refine lv_if_eq (tgt := 86) hx hb dX0_add_75 (by decide) (fun hc => ?_) (fun hc => ?_)
    · have h := h.1 hc
      refine lv_iconst (v := (-1)) hx hb dX0_add_86 (by decide) ?_
      refine lv_iload hx hb dX0_add_87 (lv_at hl 6 rfl) ?_
      refine lv_if_eq (tgt := 100) hx hb dX0_add_89 (by decide) (fun hc => ?_) (fun hc => ?_)
      · have h := h.1 hc
        refine lv_iconst (v := (-1)) hx hb dX0_add_100 (by decide) ?_
        refine va_mmax hx hb (by rw [hml]; exact hl.1.symm) hown (hts _ q561) (hts _ q562) (hts _ q18) (hts _ q563) (Nat.le_of_ble_eq_true rfl) (Nat.le_of_ble_eq_true rfl) (Nat.zero_le _) (Nat.zero_le _) dX0_add_101 ?_
        refine lv_topi (fun x_1 ex_1 => ?_)
        have h := h x_1 ex_1
        refine lv_istore hx hb dX0_add_104 hl (Nat.le_of_ble_eq_true rfl) rfl (fun ls hl => ?_)
        have hl : lv_has ls 9 [(7, .int x_1), (0, .ref b0), (1, .int p1), (2, .int p2), (3, .int p3), (4, .int bn), (5, .int i5), (6, .int i6)] := hl
        have hl := lv_sub (l' := [(0, .ref b0), (1, .int p1), (2, .int p2), (3, .int p3), (4, .int bn), (5, .int i5), (6, .int i6), (7, .int x_1)]) hl [1, 2, 3, 4, 5, 6, 7, 0] rfl
        exact cut106 i5 i6 x_1 _ _ _ hl hP hD hS h
      · have h := h.2 hc
        refine lv_aload_n hx hb dX0_add_92 rfl (lv_at hl 0 rfl) ?_
        refine lv_iload_n hx hb dX0_add_93 rfl (lv_at hl 3 rfl) ?_
        have hPc := hP
        refine rdI (va_runV (C := RX0) (As := [.int p3]) (rest := [.int (-1 : Int32)]) ⟨hx, hb, hml, hown, hts⟩ (kX0_builtDeep l G b0 b1 b2 b3 b4 b5 b6 (upd kf bn.toNatClampNeg p1) (upd ff bn.toNatClampNeg p2) (upd sf bn.toNatClampNeg p3) df pf gf bn p3 h) (cwV 1 hts (gdV q560 q428 q429 q2 q430) rfl rfl rfl (by decide +kernel) ⟨Nat.le_of_ble_eq_true rfl, Nat.le_of_ble_eq_true rfl⟩) (preV hPc hKK (va_recv hK hPc (ci := 3) (q0 := 0) rfl rfl)) rfl rfl hl.1 rfl (lv_room (Nat.le_of_ble_eq_true rfl)) dX0_add_94 ⟨Nat.zero_le _, Nat.zero_le _⟩) (fun r_9 h => ?_)
        refine lv_goto (tgt := 101) hx hb dX0_add_97 (by decide) ?_
        refine va_mmax hx hb (by rw [hml]; exact hl.1.symm) hown (hts _ q561) (hts _ q562) (hts _ q18) (hts _ q563) (Nat.le_of_ble_eq_true rfl) (Nat.le_of_ble_eq_true rfl) (Nat.zero_le _) (Nat.zero_le _) dX0_add_101 ?_
        refine lv_topi (fun x_2 ex_2 => ?_)
        have h := h x_2 ex_2
        refine lv_istore hx hb dX0_add_104 hl (Nat.le_of_ble_eq_true rfl) rfl (fun ls hl => ?_)
        have hl : lv_has ls 9 [(7, .int x_2), (0, .ref b0), (1, .int p1), (2, .int p2), (3, .int p3), (4, .int bn), (5, .int i5), (6, .int i6)] := hl
        have hl := lv_sub (l' := [(0, .ref b0), (1, .int p1), (2, .int p2), (3, .int p3), (4, .int bn), (5, .int i5), (6, .int i6), (7, .int x_2)]) hl [1, 2, 3, 4, 5, 6, 7, 0] rfl
        exact cut106 i5 i6 x_2 _ _ _ hl hP hD hS h
    · have h := h.2 hc
      refine lv_aload_n hx hb dX0_add_78 rfl (lv_at hl 0 rfl) ?_
      refine lv_iload_n hx hb dX0_add_79 rfl (lv_at hl 2 rfl) ?_
      have hPc := hP
      refine rdI (va_runV (C := RX0) (As := [.int p2]) (rest := []) ⟨hx, hb, hml, hown, hts⟩ (kX0_builtDeep l G b0 b1 b2 b3 b4 b5 b6 (upd kf bn.toNatClampNeg p1) (upd ff bn.toNatClampNeg p2) (upd sf bn.toNatClampNeg p3) df pf gf bn p2 h) (cwV 1 hts (gdV q560 q428 q429 q2 q430) rfl rfl rfl (by decide +kernel) ⟨Nat.le_of_ble_eq_true rfl, Nat.le_of_ble_eq_true rfl⟩) (preV hPc hKK (va_recv hK hPc (ci := 3) (q0 := 0) rfl rfl)) rfl rfl hl.1 rfl (lv_room (Nat.le_of_ble_eq_true rfl)) dX0_add_80 ⟨Nat.zero_le _, Nat.zero_le _⟩) (fun r_10 h => ?_)
      refine lv_goto (tgt := 87) hx hb dX0_add_83 (by decide) ?_
      refine lv_iload hx hb dX0_add_87 (lv_at hl 6 rfl) ?_
      refine lv_if_eq (tgt := 100) hx hb dX0_add_89 (by decide) (fun hc => ?_) (fun hc => ?_)
      · have h := h.1 hc
        refine lv_iconst (v := (-1)) hx hb dX0_add_100 (by decide) ?_
        refine va_mmax hx hb (by rw [hml]; exact hl.1.symm) hown (hts _ q561) (hts _ q562) (hts _ q18) (hts _ q563) (Nat.le_of_ble_eq_true rfl) (Nat.le_of_ble_eq_true rfl) (Nat.zero_le _) (Nat.zero_le _) dX0_add_101 ?_
        refine lv_topi (fun x_3 ex_3 => ?_)
        have h := h x_3 ex_3
        refine lv_istore hx hb dX0_add_104 hl (Nat.le_of_ble_eq_true rfl) rfl (fun ls hl => ?_)
        have hl : lv_has ls 9 [(7, .int x_3), (0, .ref b0), (1, .int p1), (2, .int p2), (3, .int p3), (4, .int bn), (5, .int i5), (6, .int i6)] := hl
        have hl := lv_sub (l' := [(0, .ref b0), (1, .int p1), (2, .int p2), (3, .int p3), (4, .int bn), (5, .int i5), (6, .int i6), (7, .int x_3)]) hl [1, 2, 3, 4, 5, 6, 7, 0] rfl
        exact cut106 i5 i6 x_3 _ _ _ hl hP hD hS h
      · have h := h.2 hc
        refine lv_aload_n hx hb dX0_add_92 rfl (lv_at hl 0 rfl) ?_
        refine lv_iload_n hx hb dX0_add_93 rfl (lv_at hl 3 rfl) ?_
        have hPc := hP
        refine rdI (va_runV (C := RX0) (As := [.int p3]) (rest := [.int r_10]) ⟨hx, hb, hml, hown, hts⟩ (kX0_builtDeep l G b0 b1 b2 b3 b4 b5 b6 (upd kf bn.toNatClampNeg p1) (upd ff bn.toNatClampNeg p2) (upd sf bn.toNatClampNeg p3) df pf gf bn p3 h) (cwV 1 hts (gdV q560 q428 q429 q2 q430) rfl rfl rfl (by decide +kernel) ⟨Nat.le_of_ble_eq_true rfl, Nat.le_of_ble_eq_true rfl⟩) (preV hPc hKK (va_recv hK hPc (ci := 3) (q0 := 0) rfl rfl)) rfl rfl hl.1 rfl (lv_room (Nat.le_of_ble_eq_true rfl)) dX0_add_94 ⟨Nat.zero_le _, Nat.zero_le _⟩) (fun r_11 h => ?_)
        refine lv_goto (tgt := 101) hx hb dX0_add_97 (by decide) ?_
        refine va_mmax hx hb (by rw [hml]; exact hl.1.symm) hown (hts _ q561) (hts _ q562) (hts _ q18) (hts _ q563) (Nat.le_of_ble_eq_true rfl) (Nat.le_of_ble_eq_true rfl) (Nat.zero_le _) (Nat.zero_le _) dX0_add_101 ?_
        refine lv_istore hx hb dX0_add_104 hl (Nat.le_of_ble_eq_true rfl) rfl (fun ls hl => ?_)
        have hl : lv_has ls 9 [(7, .int (if r_10 < r_11 then r_11 else r_10)), (0, .ref b0), (1, .int p1), (2, .int p2), (3, .int p3), (4, .int bn), (5, .int i5), (6, .int i6)] := hl
        have hl := lv_sub (l' := [(0, .ref b0), (1, .int p1), (2, .int p2), (3, .int p3), (4, .int bn), (5, .int i5), (6, .int i6), (7, .int (if r_10 < r_11 then r_11 else r_10))]) hl [1, 2, 3, 4, 5, 6, 7, 0] rfl
        exact cut106 i5 i6 (if r_10 < r_11 then r_11 else r_10) _ _ _ hl hP hD hS h
  have cut37 : ∀ (i5 : Int32) (ls : Array Slot) (H : Heap) (locs : List Loc), lv_has ls 9 [(0, .ref b0), (1, .int p1), (2, .int p2), (3, .int p3), (4, .int bn), (5, .int i5)] → PP G [(b0, .inr (3, [.ref b1, .ref b2, .ref b3, .ref b4, .ref b5, .ref b6, .int bn])), (b1, .inl (G.2 0, 40, .inl kf)), (b2, .inl (G.2 0, 40, .inl ff)), (b3, .inl (G.2 0, 40, .inl sf)), (b4, .inl (G.2 0, 40, .inl df)), (b5, .inl (G.2 1, 40, .inr (.inl pf))), (b6, .inl (G.2 1, 6, .inr (.inl gf)))] H → va_D A [(b0, .inr (3, [.ref b1, .ref b2, .ref b3, .ref b4, .ref b5, .ref b6, .int bn])), (b1, .inl (G.2 0, 40, .inl kf)), (b2, .inl (G.2 0, 40, .inl ff)), (b3, .inl (G.2 0, 40, .inl sf)), (b4, .inl (G.2 0, 40, .inl df)), (b5, .inl (G.2 1, 40, .inr (.inl pf))), (b6, .inl (G.2 1, 6, .inr (.inl gf)))] → va_S A s.heap H locs → wX0_add_C37 post kf ff sf df pf gf bn p1 p2 p3 i5 → W p l e (headSpec (wl_X0_add) rm_X0_add).room s m ([.ref b0, .int p1, .int p2, .int p3] : List Value).toArray below meth c H locs 0 0 (MQ below QC ([.ref b0, .int p1, .int p2, .int p3] : List Value).toArray s 0 0 A) (F0 m 37 ls []) := by
    intro i5 ls H locs hl hP hD hS h
    refine lv_iload_n hx hb dX0_add_37 rfl (lv_at hl 1 rfl) ?_
    refine lv_iconst (v := 2) hx hb dX0_add_38 (by decide) ?_
    refine lv_icmp_lt (tgt := 46) hx hb dX0_add_39 (by decide) (fun hc => ?_) (fun hc => ?_)
    · have h := h.1 hc
      refine lv_iconst (v := 0) hx hb dX0_add_46 (by decide) ?_
      refine lv_istore hx hb dX0_add_47 hl (Nat.le_of_ble_eq_true rfl) rfl (fun ls hl => ?_)
      have hl : lv_has ls 9 [(6, .int (0 : Int32)), (0, .ref b0), (1, .int p1), (2, .int p2), (3, .int p3), (4, .int bn), (5, .int i5)] := hl
      have hl := lv_sub (l' := [(0, .ref b0), (1, .int p1), (2, .int p2), (3, .int p3), (4, .int bn), (5, .int i5), (6, .int (0 : Int32))]) hl [1, 2, 3, 4, 5, 6, 0] rfl
      exact cut49 i5 (0 : Int32) _ _ _ hl hP hD hS h
    · have h := h.2 hc
      refine lv_iconst (v := 1) hx hb dX0_add_42 (by decide) ?_
      refine lv_goto (tgt := 47) hx hb dX0_add_43 (by decide) ?_
      refine lv_istore hx hb dX0_add_47 hl (Nat.le_of_ble_eq_true rfl) rfl (fun ls hl => ?_)
      have hl : lv_has ls 9 [(6, .int (1 : Int32)), (0, .ref b0), (1, .int p1), (2, .int p2), (3, .int p3), (4, .int bn), (5, .int i5)] := hl
      have hl := lv_sub (l' := [(0, .ref b0), (1, .int p1), (2, .int p2), (3, .int p3), (4, .int bn), (5, .int i5), (6, .int (1 : Int32))]) hl [1, 2, 3, 4, 5, 6, 0] rfl
      exact cut49 i5 (1 : Int32) _ _ _ hl hP hD hS h
  refine lv_aload_n hx hb dX0_add_0 rfl (lv_at hl 0 rfl) ?_
  have hPc := hP
  refine rdI (va_runV (C := RX0) (As := []) (rest := []) ⟨hx, hb, hml, hown, hts⟩ (kX0_isFull l G b0 b1 b2 b3 b4 b5 b6 kf ff sf df pf gf bn h) (cwV 0 hts (gdV q559 q536 q537 q2 q538) rfl rfl rfl (by decide +kernel) ⟨Nat.le_of_ble_eq_true rfl, Nat.le_of_ble_eq_true rfl⟩) (preV hPc hKK (va_recv hK hPc (ci := 3) (q0 := 0) rfl rfl)) rfl rfl hl.1 rfl (lv_room (Nat.le_of_ble_eq_true rfl)) dX0_add_1 ⟨Nat.zero_le _, Nat.zero_le _⟩) (fun r_1 h => ?_)
  refine lv_if_eq (tgt := 9) hx hb dX0_add_4 (by decide) (fun hc => ?_) (fun hc => ?_)
  · have h := h.1 hc
    refine lv_aload_n hx hb dX0_add_9 rfl (lv_at hl 0 rfl) ?_
    refine va_get (D := G.1) (ci := 3) (v := .int bn) (C := RX0) (T := TX0) (N := 7) hx hb hts igX0 hown hK hP 0 rfl rfl 6 (by decide) (hts _ q49) (fun _ h9 => h9) rfl dX0_add_10 ?_
    refine lv_istore hx hb dX0_add_13 hl (Nat.le_of_ble_eq_true rfl) rfl (fun ls hl => ?_)
    have hl : lv_has ls 9 [(4, .int bn), (0, .ref b0), (1, .int p1), (2, .int p2), (3, .int p3)] := hl
    refine lv_iload_n hx hb dX0_add_15 rfl (lv_at hl 2 rfl) ?_
    refine lv_iconst (v := 1) hx hb dX0_add_16 (by decide) ?_
    refine lv_icmp_eq (tgt := 30) hx hb dX0_add_17 (by decide) (fun hc => ?_) (fun hc => ?_)
    · have h := h.1 hc
      refine lv_iconst (v := 1) hx hb dX0_add_30 (by decide) ?_
      refine lv_goto (tgt := 35) hx hb dX0_add_31 (by decide) ?_
      refine lv_istore hx hb dX0_add_35 hl (Nat.le_of_ble_eq_true rfl) rfl (fun ls hl => ?_)
      have hl : lv_has ls 9 [(5, .int (1 : Int32)), (4, .int bn), (0, .ref b0), (1, .int p1), (2, .int p2), (3, .int p3)] := hl
      have hl := lv_sub (l' := [(0, .ref b0), (1, .int p1), (2, .int p2), (3, .int p3), (4, .int bn), (5, .int (1 : Int32))]) hl [2, 3, 4, 5, 1, 0] rfl
      exact cut37 (1 : Int32) _ _ _ hl hP hD hS h
    · have h := h.2 hc
      refine lv_iload_n hx hb dX0_add_20 rfl (lv_at hl 2 rfl) ?_
      refine lv_iconst (v := 2) hx hb dX0_add_21 (by decide) ?_
      refine lv_icmp_eq (tgt := 30) hx hb dX0_add_22 (by decide) (fun hc => ?_) (fun hc => ?_)
      · have h := h.1 hc
        refine lv_iconst (v := 1) hx hb dX0_add_30 (by decide) ?_
        refine lv_goto (tgt := 35) hx hb dX0_add_31 (by decide) ?_
        refine lv_istore hx hb dX0_add_35 hl (Nat.le_of_ble_eq_true rfl) rfl (fun ls hl => ?_)
        have hl : lv_has ls 9 [(5, .int (1 : Int32)), (4, .int bn), (0, .ref b0), (1, .int p1), (2, .int p2), (3, .int p3)] := hl
        have hl := lv_sub (l' := [(0, .ref b0), (1, .int p1), (2, .int p2), (3, .int p3), (4, .int bn), (5, .int (1 : Int32))]) hl [2, 3, 4, 5, 1, 0] rfl
        exact cut37 (1 : Int32) _ _ _ hl hP hD hS h
      · have h := h.2 hc
        refine lv_iload_n hx hb dX0_add_25 rfl (lv_at hl 2 rfl) ?_
        refine lv_iconst (v := 3) hx hb dX0_add_26 (by decide) ?_
        refine lv_icmp_ne (tgt := 34) hx hb dX0_add_27 (by decide) (fun hc => ?_) (fun hc => ?_)
        · have h := h.1 hc
          refine lv_iconst (v := 0) hx hb dX0_add_34 (by decide) ?_
          refine lv_istore hx hb dX0_add_35 hl (Nat.le_of_ble_eq_true rfl) rfl (fun ls hl => ?_)
          have hl : lv_has ls 9 [(5, .int (0 : Int32)), (4, .int bn), (0, .ref b0), (1, .int p1), (2, .int p2), (3, .int p3)] := hl
          have hl := lv_sub (l' := [(0, .ref b0), (1, .int p1), (2, .int p2), (3, .int p3), (4, .int bn), (5, .int (0 : Int32))]) hl [2, 3, 4, 5, 1, 0] rfl
          exact cut37 (0 : Int32) _ _ _ hl hP hD hS h
        · have h := h.2 hc
          refine lv_iconst (v := 1) hx hb dX0_add_30 (by decide) ?_
          refine lv_goto (tgt := 35) hx hb dX0_add_31 (by decide) ?_
          refine lv_istore hx hb dX0_add_35 hl (Nat.le_of_ble_eq_true rfl) rfl (fun ls hl => ?_)
          have hl : lv_has ls 9 [(5, .int (1 : Int32)), (4, .int bn), (0, .ref b0), (1, .int p1), (2, .int p2), (3, .int p3)] := hl
          have hl := lv_sub (l' := [(0, .ref b0), (1, .int p1), (2, .int p2), (3, .int p3), (4, .int bn), (5, .int (1 : Int32))]) hl [2, 3, 4, 5, 1, 0] rfl
          exact cut37 (1 : Int32) _ _ _ hl hP hD hS h
  · have h := h.2 hc
    refine lv_iconst (v := (-1)) hx hb dX0_add_7 (by decide) ?_
    subst hQC; exact W.iret (v := (-1 : Int32)) hx hb hr (fun t ht hW => ⟨⟨_, (kf, ff, sf, df, pf, gf, bn), rfl, h, by rw [ht]; exact hP, hD⟩, hS.F ht⟩) hS.2.2 dX0_add_8
