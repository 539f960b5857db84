theorem q1006 : (Cond.fieldLink RX4 127 "NightdeskRotaModel" "real" "I") ∈ lwg := lwgR 1006 (by decide +kernel) (by decide +kernel)
theorem q1007 : (Cond.fieldLink RX4 9 "NightdeskRotaModel" "possible" "J") ∈ lwg := lwgR 1007 (by decide +kernel) (by decide +kernel)
theorem q1008 : (Cond.fieldLink RX4 17 "NightdeskRotaModel" "desks" "[[I") ∈ lwg := lwgR 1008 (by decide +kernel) (by decide +kernel)
theorem q1012 : (Cond.fieldLink RX4 79 "NightdeskRotaModel" "stamp" "I") ∈ lwg := lwgR 1012 (by decide +kernel) (by decide +kernel)
theorem q1013 : (Cond.fieldLink RX4 31 "NightdeskRotaModel" "stamps" "[I") ∈ lwg := lwgR 1013 (by decide +kernel) (by decide +kernel)
theorem q1014 : (Cond.fieldLink RX4 34 "NightdeskRotaModel" "firsts" "[I") ∈ lwg := lwgR 1014 (by decide +kernel) (by decide +kernel)
theorem q1015 : (Cond.fieldLink RX4 37 "NightdeskRotaModel" "joined" "[I") ∈ lwg := lwgR 1015 (by decide +kernel) (by decide +kernel)
theorem q1016 : (Cond.fieldLink RX4 40 "NightdeskRotaModel" "row" "[I") ∈ lwg := lwgR 1016 (by decide +kernel) (by decide +kernel)
theorem q1060 : (Cond.methodLink RX4 119 yX4_in) ∈ lwg := lwgR 1060 (by decide +kernel) (by decide +kernel)
theorem q1061 : (Cond.static yX4_in) ∈ lwg := lwgR 1061 (by decide +kernel) (by decide +kernel)
theorem q1062 : (Cond.code yX4_in cX4_in 3 (some .boolean)) ∈ lwg := lwgR 1062 (by decide +kernel) (by decide +kernel)
theorem q1111 : (Cond.methodLink RX4 70 yX4_has) ∈ lwg := lwgR 1111 (by decide +kernel) (by decide +kernel)
theorem q1112 : (Cond.static yX4_has) ∈ lwg := lwgR 1112 (by decide +kernel) (by decide +kernel)
theorem q1113 : (Cond.code yX4_has cX4_has 2 (some .boolean)) ∈ lwg := lwgR 1113 (by decide +kernel) (by decide +kernel)
theorem q1114 : (Cond.methodLink RX4 73 yX4_known) ∈ lwg := lwgR 1114 (by decide +kernel) (by decide +kernel)
theorem q1116 : (Cond.instanceMethod yX4_known) ∈ lwg := lwgR 1116 (by decide +kernel) (by decide +kernel)
theorem q1117 : (Cond.code yX4_known cX4_known 4 (some .long)) ∈ lwg := lwgR 1117 (by decide +kernel) (by decide +kernel)
theorem q1118 : (Cond.methodLink RX4 66 yX4_known_) ∈ lwg := lwgR 1118 (by decide +kernel) (by decide +kernel)
theorem q1120 : (Cond.instanceMethod yX4_known_) ∈ lwg := lwgR 1120 (by decide +kernel) (by decide +kernel)
theorem q1121 : (Cond.code yX4_known_ cX4_known_ 9 (some .long)) ∈ lwg := lwgR 1121 (by decide +kernel) (by decide +kernel)
theorem q1122 : (Cond.methodLink RX4 58 yX4_has_) ∈ lwg := lwgR 1122 (by decide +kernel) (by decide +kernel)
theorem q1123 : (Cond.static yX4_has_) ∈ lwg := lwgR 1123 (by decide +kernel) (by decide +kernel)
theorem q1124 : (Cond.code yX4_has_ cX4_has_ 3 (some .boolean)) ∈ lwg := lwgR 1124 (by decide +kernel) (by decide +kernel)
theorem q1125 : (Cond.methodLink RX4 76 yX4_knownByAll) ∈ lwg := lwgR 1125 (by decide +kernel) (by decide +kernel)
theorem q1127 : (Cond.instanceMethod yX4_knownByAll) ∈ lwg := lwgR 1127 (by decide +kernel) (by decide +kernel)
theorem q1128 : (Cond.code yX4_knownByAll cX4_knownByAll 7 (some .long)) ∈ lwg := lwgR 1128 (by decide +kernel) (by decide +kernel)
theorem q1137 : (Cond.methodLink RX4 82 yX4_join) ∈ lwg := lwgR 1137 (by decide +kernel) (by decide +kernel)
theorem q1139 : (Cond.instanceMethod yX4_join) ∈ lwg := lwgR 1139 (by decide +kernel) (by decide +kernel)
theorem q1140 : (Cond.code yX4_join cX4_join 6 none) ∈ lwg := lwgR 1140 (by decide +kernel) (by decide +kernel)
theorem q1223 : (Cond.methodLink RX4 62 yX4_part) ∈ lwg := lwgR 1223 (by decide +kernel) (by decide +kernel)
theorem q1225 : (Cond.instanceMethod yX4_part) ∈ lwg := lwgR 1225 (by decide +kernel) (by decide +kernel)
theorem q1226 : (Cond.code yX4_part cX4_part 6 (some .long)) ∈ lwg := lwgR 1226 (by decide +kernel) (by decide +kernel)
theorem q1293 : (Cond.methodLink RX4 190 yX4_size) ∈ lwg := lwgR 1293 (by decide +kernel) (by decide +kernel)
theorem q1294 : (Cond.static yX4_size) ∈ lwg := lwgR 1294 (by decide +kernel) (by decide +kernel)
theorem q1295 : (Cond.code yX4_size cX4_size 3 (some .int)) ∈ lwg := lwgR 1295 (by decide +kernel) (by decide +kernel)
theorem q1300 : (Cond.methodLink RX4 192 yX4_knowsTogether) ∈ lwg := lwgR 1300 (by decide +kernel) (by decide +kernel)
theorem q1302 : (Cond.instanceMethod yX4_knowsTogether) ∈ lwg := lwgR 1302 (by decide +kernel) (by decide +kernel)
theorem q1303 : (Cond.code yX4_knowsTogether cX4_knowsTogether 7 (some .boolean)) ∈ lwg := lwgR 1303 (by decide +kernel) (by decide +kernel)
theorem q6 : (Cond.initialized RX4) ∈ lwg := lwgR 6 (by decide +kernel) (by decide +kernel)
theorem q976 : (Cond.constantLong RX4 7 (-1)) ∈ lwg := lwgR 976 (by decide +kernel) (by decide +kernel)
theorem qs14 : (Cond.selects RX4 yX4_known yX4_known) ∈ lwg := lwgL 14 (by decide +kernel) (by decide +kernel)
theorem qs15 : (Cond.selects RX4 yX4_known_ yX4_known_) ∈ lwg := lwgL 15 (by decide +kernel) (by decide +kernel)
theorem qs16 : (Cond.selects RX4 yX4_knownByAll yX4_knownByAll) ∈ lwg := lwgL 16 (by decide +kernel) (by decide +kernel)
theorem qs19 : (Cond.selects RX4 yX4_join yX4_join) ∈ lwg := lwgL 19 (by decide +kernel) (by decide +kernel)
theorem qs27 : (Cond.selects RX4 yX4_part yX4_part) ∈ lwg := lwgL 27 (by decide +kernel) (by decide +kernel)
theorem qs35 : (Cond.selects RX4 yX4_knowsTogether yX4_knowsTogether) ∈ lwg := lwgL 35 (by decide +kernel) (by decide +kernel)
theorem dX4_in_0 : decode cX4_in 0 = .ok (.iload_n 0, 1) := by decide +kernel
theorem dX4_in_1 : decode cX4_in 1 = .ok (.iload_n 1, 1) := by decide +kernel
theorem dX4_in_2 : decode cX4_in 2 = .ok (.if_icmp .lt 12, 3) := by decide +kernel
theorem dX4_in_5 : decode cX4_in 5 = .ok (.iload_n 0, 1) := by decide +kernel
theorem dX4_in_6 : decode cX4_in 6 = .ok (.iload_n 2, 1) := by decide +kernel
theorem dX4_in_7 : decode cX4_in 7 = .ok (.if_icmp .gt 7, 3) := by decide +kernel
theorem dX4_in_10 : decode cX4_in 10 = .ok (.iconst 1, 1) := by decide +kernel
theorem dX4_in_11 : decode cX4_in 11 = .ok (.goto 4, 3) := by decide +kernel
theorem dX4_in_14 : decode cX4_in 14 = .ok (.iconst 0, 1) := by decide +kernel
theorem dX4_in_15 : decode cX4_in 15 = .ok (.ireturn, 1) := by decide +kernel
def wX4_in (post : Int32 → Prop) (p1 : Int32) (p2 : Int32) (p3 : Int32) : Prop :=
  ((p1 < p2) →
    post (0 : Int32)
  ) ∧ (¬ (p1 < p2) →
    ((p3 < p1) →
      post (0 : Int32)
    ) ∧ (¬ (p3 < p1) →
      post (1 : Int32)
    )
  )
abbrev wl_X4_in : List Cond := .code yX4_in cX4_in 3 (some .boolean) :: lwg
abbrev rm_X4_in : Room := { frames := 0, cells := 0, slots := 0, locals := 0 }
set_option maxHeartbeats 4000000 in
set_option maxRecDepth 100000 in
theorem kX4_in {post : Int32 → Prop} (l : Launch) (G : GT) (p1 : Int32) (p2 : Int32) (p3 : Int32) (h : wX4_in post p1 p2 p3) : Met l yX4_in wl_X4_in rm_X4_in (va_Pc [.int p1, .int p2, .int p3] (fun U => PP G [] U.heap ∧ KK G U)) (vp_Si post) 0 0 (fun _ => False) := by
  refine Met.ofW (cc := cX4_in) (maxL := 3) (ret := (some .boolean)) (by decide) rfl ?_
  intro p e s m args below meth c s₁ B hml hv
  obtain ⟨rfl, hP, hKK⟩ := hv
  obtain ⟨hK, hN, hR, hFW, hNC⟩ := id hKK
  have hx := B.exec
  have hb := B.bytes
  have hr := B.returns
  have hts0 := atoms_spec (ws := wl_X4_in) B.pre
  have hts : ∀ w ∈ lwg, w.before ([.int p1, .int p2, .int p3] : List Value).toArray s = true := fun w hw => hts0 w (List.mem_cons_of_mem _ hw)
  have hown : s.vm.findClass RX4 = some m.cls := findClass_of_methodNamed B.named
  have hlocks := B.notSynchronized
  have hP : PP G [] s.heap := hP
  have hl := lv_entry ([.int p1, .int p2, .int p3]) (n := 3) (Nat.le_of_ble_eq_true rfl)
  rw [lg_entry_eq]
  generalize (lg_sl ([.int p1, .int p2, .int p3]) ++ List.replicate (3 - (lg_sl ([.int p1, .int p2, .int p3])).length) Slot.unset).toArray = ls at hl ⊢
  have hl : lv_has ls 3 [(0, .int p1), (1, .int p2), (2, .int p3)] := hl
  refine lv_iload_n hx hb dX4_in_0 rfl (lv_at hl 0 rfl) ?_
  refine lv_iload_n hx hb dX4_in_1 rfl (lv_at hl 1 rfl) ?_
  refine lv_icmp_lt (tgt := 14) hx hb dX4_in_2 (by decide) (fun hc => ?_) (fun hc => ?_)
  · have h := h.1 hc
    refine lv_iconst (v := 0) hx hb dX4_in_14 (by decide) ?_
    exact W.zret (v := (0 : Int32)) hx hb hr (by decide) (fun t ht _ => ⟨_, rfl, h, ht⟩) (fun _ hq => absurd hq List.not_mem_nil) dX4_in_15
  · have h := h.2 hc
    refine lv_iload_n hx hb dX4_in_5 rfl (lv_at hl 0 rfl) ?_
    refine lv_iload_n hx hb dX4_in_6 rfl (lv_at hl 2 rfl) ?_
    refine lv_icmp_gt (tgt := 14) hx hb dX4_in_7 (by decide) (fun hc => ?_) (fun hc => ?_)
    · have h := h.1 hc
      refine lv_iconst (v := 0) hx hb dX4_in_14 (by decide) ?_
      exact W.zret (v := (0 : Int32)) hx hb hr (by decide) (fun t ht _ => ⟨_, rfl, h, ht⟩) (fun _ hq => absurd hq List.not_mem_nil) dX4_in_15
    · have h := h.2 hc
      refine lv_iconst (v := 1) hx hb dX4_in_10 (by decide) ?_
      refine lv_goto (tgt := 15) hx hb dX4_in_11 (by decide) ?_
      exact W.zret (v := (1 : Int32)) hx hb hr (by decide) (fun t ht _ => ⟨_, rfl, h, ht⟩) (fun _ hq => absurd hq List.not_mem_nil) dX4_in_15
theorem dX4_has_0 : decode cX4_has 0 = .ok (.iload_n 0, 1) := by decide +kernel
theorem dX4_has_1 : decode cX4_has 1 = .ok (.iload_n 1, 1) := by decide +kernel
theorem dX4_has_2 : decode cX4_has 2 = .ok (.ishr, 1) := by decide +kernel
theorem dX4_has_3 : decode cX4_has 3 = .ok (.iconst 1, 1) := by decide +kernel
theorem dX4_has_4 : decode cX4_has 4 = .ok (.iand, 1) := by decide +kernel
theorem dX4_has_5 : decode cX4_has 5 = .ok (.iconst 1, 1) := by decide +kernel
theorem dX4_has_6 : decode cX4_has 6 = .ok (.if_icmp .ne 7, 3) := by decide +kernel
theorem dX4_has_9 : decode cX4_has 9 = .ok (.iconst 1, 1) := by decide +kernel
theorem dX4_has_10 : decode cX4_has 10 = .ok (.goto 4, 3) := by decide +kernel
theorem dX4_has_13 : decode cX4_has 13 = .ok (.iconst 0, 1) := by decide +kernel
theorem dX4_has_14 : decode cX4_has 14 = .ok (.ireturn, 1) := by decide +kernel
def wX4_has (post : Int32 → Prop) (p1 : Int32) (p2 : Int32) : Prop :=
  ((¬ ((p1 >>> (p2 &&& 31)) &&& (1 : Int32)) = (1 : Int32)) →
    post (0 : Int32)
  ) ∧ ((((p1 >>> (p2 &&& 31)) &&& (1 : Int32)) = (1 : Int32)) →
    post (1 : Int32)
  )
abbrev wl_X4_has : List Cond := .code yX4_has cX4_has 2 (some .boolean) :: lwg
abbrev rm_X4_has : Room := { frames := 0, cells := 0, slots := 0, locals := 0 }
set_option maxHeartbeats 4000000 in
set_option maxRecDepth 100000 in
theorem kX4_has {post : Int32 → Prop} (l : Launch) (G : GT) (p1 : Int32) (p2 : Int32) (h : wX4_has post p1 p2) : Met l yX4_has wl_X4_has rm_X4_has (va_Pc [.int p1, .int p2] (fun U => PP G [] U.heap ∧ KK G U)) (vp_Si post) 0 0 (fun _ => False) := by
  refine Met.ofW (cc := cX4_has) (maxL := 2) (ret := (some .boolean)) (by decide) rfl ?_
  intro p e s m args below meth c s₁ B hml hv
  obtain ⟨rfl, hP, hKK⟩ := hv
  obtain ⟨hK, hN, hR, hFW, hNC⟩ := id hKK
  have hx := B.exec
  have hb := B.bytes
  have hr := B.returns
  have hts0 := atoms_spec (ws := wl_X4_has) B.pre
  have hts : ∀ w ∈ lwg, w.before ([.int p1, .int p2] : List Value).toArray s = true := fun w hw => hts0 w (List.mem_cons_of_mem _ hw)
  have hown : s.vm.findClass RX4 = some m.cls := findClass_of_methodNamed B.named
  have hlocks := B.notSynchronized
  have hP : PP G [] s.heap := hP
  have hl := lv_entry ([.int p1, .int p2]) (n := 2) (Nat.le_of_ble_eq_true rfl)
  rw [lg_entry_eq]
  generalize (lg_sl ([.int p1, .int p2]) ++ List.replicate (2 - (lg_sl ([.int p1, .int p2])).length) Slot.unset).toArray = ls at hl ⊢
  have hl : lv_has ls 2 [(0, .int p1), (1, .int p2)] := hl
  refine lv_iload_n hx hb dX4_has_0 rfl (lv_at hl 0 rfl) ?_
  refine lv_iload_n hx hb dX4_has_1 rfl (lv_at hl 1 rfl) ?_
  refine lv_ishr hx hb dX4_has_2 ?_
  refine lv_iconst (v := 1) hx hb dX4_has_3 (by decide) ?_
  refine lv_iand hx hb dX4_has_4 ?_
  refine lv_iconst (v := 1) hx hb dX4_has_5 (by decide) ?_
  refine lv_icmp_ne (tgt := 13) hx hb dX4_has_6 (by decide) (fun hc => ?_) (fun hc => ?_)
  · have h := h.1 hc
    refine lv_iconst (v := 0) hx hb dX4_has_13 (by decide) ?_
    exact W.zret (v := (0 : Int32)) hx hb hr (by decide) (fun t ht _ => ⟨_, rfl, h, ht⟩) (fun _ hq => absurd hq List.not_mem_nil) dX4_has_14
  · have h := h.2 hc
    refine lv_iconst (v := 1) hx hb dX4_has_9 (by decide) ?_
    refine lv_goto (tgt := 14) hx hb dX4_has_10 (by decide) ?_
    exact W.zret (v := (1 : Int32)) hx hb hr (by decide) (fun t ht _ => ⟨_, rfl, h, ht⟩) (fun _ hq => absurd hq List.not_mem_nil) dX4_has_14
theorem dX4_has__0 : decode cX4_has_ 0 = .ok (.lload_n 0, 1) := by decide +kernel
theorem dX4_has__1 : decode cX4_has_ 1 = .ok (.iload_n 2, 1) := by decide +kernel
theorem dX4_has__2 : decode cX4_has_ 2 = .ok (.lushr, 1) := by decide +kernel
theorem dX4_has__3 : decode cX4_has_ 3 = .ok (.lconst 1, 1) := by decide +kernel
theorem dX4_has__4 : decode cX4_has_ 4 = .ok (.land, 1) := by decide +kernel
theorem dX4_has__5 : decode cX4_has_ 5 = .ok (.lconst 1, 1) := by decide +kernel
theorem dX4_has__6 : decode cX4_has_ 6 = .ok (.lcmp, 1) := by decide +kernel
theorem dX4_has__7 : decode cX4_has_ 7 = .ok (.ifCond .ne 7, 3) := by decide +kernel
theorem dX4_has__10 : decode cX4_has_ 10 = .ok (.iconst 1, 1) := by decide +kernel
theorem dX4_has__11 : decode cX4_has_ 11 = .ok (.goto 4, 3) := by decide +kernel
theorem dX4_has__14 : decode cX4_has_ 14 = .ok (.iconst 0, 1) := by decide +kernel
theorem dX4_has__15 : decode cX4_has_ 15 = .ok (.ireturn, 1) := by decide +kernel
def wX4_has_ (post : Int32 → Prop) (p1 : Int64) (p2 : Int32) : Prop :=
  ((¬ (lg_cmp ((jLushr p1 p2) &&& (1 : Int64)) (1 : Int64)) = 0) →
    post (0 : Int32)
  ) ∧ (((lg_cmp ((jLushr p1 p2) &&& (1 : Int64)) (1 : Int64)) = 0) →
    post (1 : Int32)
  )
abbrev wl_X4_has_ : List Cond := .code yX4_has_ cX4_has_ 3 (some .boolean) :: lwg
abbrev rm_X4_has_ : Room := { frames := 0, cells := 0, slots := 0, locals := 0 }
set_option maxHeartbeats 4000000 in
set_option maxRecDepth 100000 in
theorem kX4_has_ {post : Int32 → Prop} (l : Launch) (G : GT) (p1 : Int64) (p2 : Int32) (h : wX4_has_ post p1 p2) : Met l yX4_has_ wl_X4_has_ rm_X4_has_ (va_Pc [.long p1, .int p2] (fun U => PP G [] U.heap ∧ KK G U)) (vp_Si post) 0 0 (fun _ => False) := by
  refine Met.ofW (cc := cX4_has_) (maxL := 3) (ret := (some .boolean)) (by decide) rfl ?_
  intro p e s m args below meth c s₁ B hml hv
  obtain ⟨rfl, hP, hKK⟩ := hv
  obtain ⟨hK, hN, hR, hFW, hNC⟩ := id hKK
  have hx := B.exec
  have hb := B.bytes
  have hr := B.returns
  have hts0 := atoms_spec (ws := wl_X4_has_) B.pre
  have hts : ∀ w ∈ lwg, w.before ([.long p1, .int p2] : List Value).toArray s = true := fun w hw => hts0 w (List.mem_cons_of_mem _ hw)
  have hown : s.vm.findClass RX4 = some m.cls := findClass_of_methodNamed B.named
  have hlocks := B.notSynchronized
  have hP : PP G [] s.heap := hP
  have hl := lv_entry ([.long p1, .int p2]) (n := 3) (Nat.le_of_ble_eq_true rfl)
  rw [lg_entry_eq]
  generalize (lg_sl ([.long p1, .int p2]) ++ List.replicate (3 - (lg_sl ([.long p1, .int p2])).length) Slot.unset).toArray = ls at hl ⊢
  have hl : lv_has ls 3 [(0, .long p1), (2, .int p2)] := hl
  refine lv_lload_n hx hb dX4_has__0 rfl (lv_at hl 0 rfl) ?_
  refine lv_iload_n hx hb dX4_has__1 rfl (lv_at hl 1 rfl) ?_
  refine lv_lushr (v := (jLushr p1 p2)) hx hb dX4_has__2 rfl ?_
  refine lv_lconst (v := 1) hx hb dX4_has__3 (by decide) ?_
  refine lv_land hx hb dX4_has__4 ?_
  refine lv_lconst (v := 1) hx hb dX4_has__5 (by decide) ?_
  refine W.lcmp hx hb dX4_has__6 ?_
  refine lv_if_ne (tgt := 14) hx hb dX4_has__7 (by decide) (fun hc => ?_) (fun hc => ?_)
  · have h := h.1 hc
    refine lv_iconst (v := 0) hx hb dX4_has__14 (by decide) ?_
    exact W.zret (v := (0 : Int32)) hx hb hr (by decide) (fun t ht _ => ⟨_, rfl, h, ht⟩) (fun _ hq => absurd hq List.not_mem_nil) dX4_has__15
  · have h := h.2 hc
    refine lv_iconst (v := 1) hx hb dX4_has__10 (by decide) ?_
    refine lv_goto (tgt := 15) hx hb dX4_has__11 (by decide) ?_
    exact W.zret (v := (1 : Int32)) hx hb hr (by decide) (fun t ht _ => ⟨_, rfl, h, ht⟩) (fun _ hq => absurd hq List.not_mem_nil) dX4_has__15
theorem dX4_size_0 : decode cX4_size 0 = .ok (.iconst 0, 1) := by decide +kernel
theorem dX4_size_1 : decode cX4_size 1 = .ok (.istore_n 1, 1) := by decide +kernel
theorem dX4_size_2 : decode cX4_size 2 = .ok (.iload_n 0, 1) := by decide +kernel
theorem dX4_size_3 : decode cX4_size 3 = .ok (.istore_n 2, 1) := by decide +kernel
theorem dX4_size_4 : decode cX4_size 4 = .ok (.iload_n 2, 1) := by decide +kernel
theorem dX4_size_5 : decode cX4_size 5 = .ok (.ifCond .le 16, 3) := by decide +kernel
theorem dX4_size_8 : decode cX4_size 8 = .ok (.iload_n 1, 1) := by decide +kernel
theorem dX4_size_9 : decode cX4_size 9 = .ok (.iload_n 2, 1) := by decide +kernel
theorem dX4_size_10 : decode cX4_size 10 = .ok (.iconst 2, 1) := by decide +kernel
theorem dX4_size_11 : decode cX4_size 11 = .ok (.irem, 1) := by decide +kernel
theorem dX4_size_12 : decode cX4_size 12 = .ok (.iadd, 1) := by decide +kernel
theorem dX4_size_13 : decode cX4_size 13 = .ok (.istore_n 1, 1) := by decide +kernel
theorem dX4_size_14 : decode cX4_size 14 = .ok (.iload_n 2, 1) := by decide +kernel
theorem dX4_size_15 : decode cX4_size 15 = .ok (.iconst 2, 1) := by decide +kernel
theorem dX4_size_16 : decode cX4_size 16 = .ok (.idiv, 1) := by decide +kernel
theorem dX4_size_17 : decode cX4_size 17 = .ok (.istore_n 2, 1) := by decide +kernel
theorem dX4_size_18 : decode cX4_size 18 = .ok (.goto (-14), 3) := by decide +kernel
theorem dX4_size_21 : decode cX4_size 21 = .ok (.iload_n 1, 1) := by decide +kernel
theorem dX4_size_22 : decode cX4_size 22 = .ok (.ireturn, 1) := by decide +kernel
def wX4_size_L4 (post : Int32 → Prop) (K21 : Int32 → Int32 → Prop) : Nat → Int32 → Int32 → Prop
  | 0, _, _ => False
  | n+1, i1, i2 =>
    ((i2 ≤ 0) →
      K21 i1 i2
    ) ∧ (¬ (i2 ≤ 0) →
      ∀ x_1 : Int32, x_1 = (i1 + (i2 - i2 / (2 : Int32) * (2 : Int32))) →
      wX4_size_L4 post K21 n x_1 (i2 / (2 : Int32))
    )
def wX4_size (post : Int32 → Prop) (p1 : Int32) : Prop :=
  ∃ nF, wX4_size_L4 post
    (fun i1 i2 =>
      post i1
    )
     nF (0 : Int32) p1
abbrev wl_X4_size : List Cond := .code yX4_size cX4_size 3 (some .int) :: lwg
abbrev rm_X4_size : Room := { frames := 0, cells := 0, slots := 0, locals := 0 }
set_option maxHeartbeats 4000000 in
set_option maxRecDepth 100000 in
theorem kX4_size {post : Int32 → Prop} (l : Launch) (G : GT) (p1 : Int32) (h : wX4_size post p1) : Met l yX4_size wl_X4_size rm_X4_size (va_Pc [.int p1] (fun U => PP G [] U.heap ∧ KK G U)) (vp_Si post) 0 0 (fun _ => False) := by
  refine Met.ofW (cc := cX4_size) (maxL := 3) (ret := (some .int)) (by decide) rfl ?_
  intro p e s m args below meth c s₁ B hml hv
  obtain ⟨rfl, hP, hKK⟩ := hv
  obtain ⟨hK, hN, hR, hFW, hNC⟩ := id hKK
  have hx := B.exec
  have hb := B.bytes
  have hr := B.returns
  have hts0 := atoms_spec (ws := wl_X4_size) B.pre
  have hts : ∀ w ∈ lwg, w.before ([.int p1] : List Value).toArray s = true := fun w hw => hts0 w (List.mem_cons_of_mem _ hw)
  have hown : s.vm.findClass RX4 = some m.cls := findClass_of_methodNamed B.named
  have hlocks := B.notSynchronized
  have hP : PP G [] s.heap := hP
  have hl := lv_entry ([.int p1]) (n := 3) (Nat.le_of_ble_eq_true rfl)
  rw [lg_entry_eq]
  generalize (lg_sl ([.int p1]) ++ List.replicate (3 - (lg_sl ([.int p1])).length) Slot.unset).toArray = ls at hl ⊢
  have hl : lv_has ls 3 [(0, .int p1)] := hl
  have loop4 : ∀ (K21 : Int32 → Int32 → Prop), True → (∀ (i1 : Int32) (i2 : Int32) (ls : Array Slot), lv_has ls 3 [(0, .int p1), (1, .int i1), (2, .int i2)] → K21 i1 i2 → W p l e (headSpec (wl_X4_size) rm_X4_size).room s m ([.int p1] : List Value).toArray below meth c s.heap [] 0 0 (MQ below (vp_Si post) ([.int p1] : List Value).toArray s 0 0 (fun _ => False)) (F0 m 21 ls [])) → ∀ (n : Nat) (i1 : Int32) (i2 : Int32) (ls : Array Slot), lv_has ls 3 [(0, .int p1), (1, .int i1), (2, .int i2)] → wX4_size_L4 post K21 n i1 i2 → W p l e (headSpec (wl_X4_size) rm_X4_size).room s m ([.int p1] : List Value).toArray below meth c s.heap [] 0 0 (MQ below (vp_Si post) ([.int p1] : List Value).toArray s 0 0 (fun _ => False)) (F0 m 4 ls []) := by
    intro K21 _ hexit21 n
    induction n with
    | zero => intro i1 i2 ls hl h; exact False.elim h
    | succ n ih =>
      intro i1 i2 ls hl h
      refine lv_iload_n hx hb dX4_size_4 rfl (lv_at hl 2 rfl) ?_
      refine lv_if_le (tgt := 21) hx hb dX4_size_5 (by decide) (fun hc => ?_) (fun hc => ?_)
      · have h := h.1 hc
        have hl := lv_sub (l' := [(0, .int p1), (1, .int i1), (2, .int i2)]) hl [0, 1, 2] rfl
        exact hexit21 _ _ ls hl h
      · have h := h.2 hc
        refine lv_iload_n hx hb dX4_size_8 rfl (lv_at hl 1 rfl) ?_
        refine lv_iload_n hx hb dX4_size_9 rfl (lv_at hl 2 rfl) ?_
        refine lv_iconst (v := 2) hx hb dX4_size_10 (by decide) ?_
        refine lv_irem hx hb dX4_size_11 (by decide) ?_
        refine lv_iadd hx hb dX4_size_12 ?_
        refine lv_topi (fun x_1 ex_1 => ?_)
        have h := h x_1 ex_1
        refine lv_istore_n hx hb dX4_size_13 rfl hl (Nat.le_of_ble_eq_true rfl) rfl (fun ls hl => ?_)
        have hl : lv_has ls 3 [(1, .int x_1), (0, .int p1), (2, .int i2)] := hl
        refine lv_iload_n hx hb dX4_size_14 rfl (lv_at hl 2 rfl) ?_
        refine lv_iconst (v := 2) hx hb dX4_size_15 (by decide) ?_
        refine lv_idiv hx hb dX4_size_16 (by decide) ?_
        refine lv_istore_n hx hb dX4_size_17 rfl hl (Nat.le_of_ble_eq_true rfl) rfl (fun ls hl => ?_)
        have hl : lv_has ls 3 [(2, .int (i2 / (2 : Int32))), (1, .int x_1), (0, .int p1)] := hl
        refine lv_goto (tgt := 4) hx hb dX4_size_18 (by decide) ?_
        have hl := lv_sub (l' := [(0, .int p1), (1, .int x_1), (2, .int (i2 / (2 : Int32)))]) hl [2, 1, 0] rfl
        exact ih _ _ ls hl h
  refine lv_iconst (v := 0) hx hb dX4_size_0 (by decide) ?_
  refine lv_istore_n hx hb dX4_size_1 rfl hl (Nat.le_of_ble_eq_true rfl) rfl (fun ls hl => ?_)
  have hl : lv_has ls 3 [(1, .int (0 : Int32)), (0, .int p1)] := hl
  refine lv_iload_n hx hb dX4_size_2 rfl (lv_at hl 1 rfl) ?_
  refine lv_istore_n hx hb dX4_size_3 rfl hl (Nat.le_of_ble_eq_true rfl) rfl (fun ls hl => ?_)
  have hl : lv_has ls 3 [(2, .int p1), (1, .int (0 : Int32)), (0, .int p1)] := hl
  have hl := lv_sub (l' := [(0, .int p1), (1, .int (0 : Int32)), (2, .int p1)]) hl [2, 1, 0] rfl
  obtain ⟨nF, h⟩ := h
  refine loop4 _ trivial ?_ nF (0 : Int32) p1 _ hl h
  · intro i1 i2 ls hl h
    refine lv_iload_n hx hb dX4_size_21 rfl (lv_at hl 1 rfl) ?_
    exact W.iret (v := i1) hx hb hr (fun t ht _ => ⟨_, rfl, h, ht⟩) (fun _ hq => absurd hq List.not_mem_nil) dX4_size_22
theorem dX4_size__0 : decode cX4_size_ 0 = .ok (.iconst 0, 1) := by decide +kernel
theorem dX4_size__1 : decode cX4_size_ 1 = .ok (.istore_n 2, 1) := by decide +kernel
theorem dX4_size__2 : decode cX4_size_ 2 = .ok (.lload_n 0, 1) := by decide +kernel
theorem dX4_size__3 : decode cX4_size_ 3 = .ok (.lstore_n 3, 1) := by decide +kernel
theorem dX4_size__4 : decode cX4_size_ 4 = .ok (.lload_n 3, 1) := by decide +kernel
theorem dX4_size__5 : decode cX4_size_ 5 = .ok (.lconst 0, 1) := by decide +kernel
theorem dX4_size__6 : decode cX4_size_ 6 = .ok (.lcmp, 1) := by decide +kernel
theorem dX4_size__7 : decode cX4_size_ 7 = .ok (.ifCond .eq 15, 3) := by decide +kernel
theorem dX4_size__10 : decode cX4_size_ 10 = .ok (.iinc 2 1, 3) := by decide +kernel
theorem dX4_size__13 : decode cX4_size_ 13 = .ok (.lload_n 3, 1) := by decide +kernel
theorem dX4_size__14 : decode cX4_size_ 14 = .ok (.lload_n 3, 1) := by decide +kernel
theorem dX4_size__15 : decode cX4_size_ 15 = .ok (.lconst 1, 1) := by decide +kernel
theorem dX4_size__16 : decode cX4_size_ 16 = .ok (.lsub, 1) := by decide +kernel
theorem dX4_size__17 : decode cX4_size_ 17 = .ok (.land, 1) := by decide +kernel
theorem dX4_size__18 : decode cX4_size_ 18 = .ok (.lstore_n 3, 1) := by decide +kernel
theorem dX4_size__19 : decode cX4_size_ 19 = .ok (.goto (-15), 3) := by decide +kernel
theorem dX4_size__22 : decode cX4_size_ 22 = .ok (.iload_n 2, 1) := by decide +kernel
theorem dX4_size__23 : decode cX4_size_ 23 = .ok (.ireturn, 1) := by decide +kernel
def wX4_size__L4 (post : Int32 → Prop) (K22 : Int32 → Int64 → Prop) : Nat → Int32 → Int64 → Prop
  | 0, _, _ => False
  | n+1, i2, i3 =>
    (((lg_cmp i3 (0 : Int64)) = 0) →
      K22 i2 i3
    ) ∧ (¬ ((lg_cmp i3 (0 : Int64)) = 0) →
      wX4_size__L4 post K22 n (i2 + 1) (i3 &&& (i3 - (1 : Int64)))
    )
def wX4_size_ (post : Int32 → Prop) (p1 : Int64) : Prop :=
  ∃ nF, wX4_size__L4 post
    (fun i2 i3 =>
      post i2
    )
     nF (0 : Int32) p1
abbrev wl_X4_size_ : List Cond := .code yX4_size_ cX4_size_ 5 (some .int) :: lwg
abbrev rm_X4_size_ : Room := { frames := 0, cells := 0, slots := 0, locals := 0 }
set_option maxHeartbeats 4000000 in
set_option maxRecDepth 100000 in
theorem kX4_size_ {post : Int32 → Prop} (l : Launch) (G : GT) (p1 : Int64) (h : wX4_size_ post p1) : Met l yX4_size_ wl_X4_size_ rm_X4_size_ (va_Pc [.long p1] (fun U => PP G [] U.heap ∧ KK G U)) (vp_Si post) 0 0 (fun _ => False) := by
  refine Met.ofW (cc := cX4_size_) (maxL := 5) (ret := (some .int)) (by decide) rfl ?_
  intro p e s m args below meth c s₁ B hml hv
  obtain ⟨rfl, hP, hKK⟩ := hv
  obtain ⟨hK, hN, hR, hFW, hNC⟩ := id hKK
  have hx := B.exec
  have hb := B.bytes
  have hr := B.returns
  have hts0 := atoms_spec (ws := wl_X4_size_) B.pre
  have hts : ∀ w ∈ lwg, w.before ([.long p1] : List Value).toArray s = true := fun w hw => hts0 w (List.mem_cons_of_mem _ hw)
  have hown : s.vm.findClass RX4 = some m.cls := findClass_of_methodNamed B.named
  have hlocks := B.notSynchronized
  have hP : PP G [] s.heap := hP
  have hl := lv_entry ([.long p1]) (n := 5) (Nat.le_of_ble_eq_true rfl)
  rw [lg_entry_eq]
  generalize (lg_sl ([.long p1]) ++ List.replicate (5 - (lg_sl ([.long p1])).length) Slot.unset).toArray = ls at hl ⊢
  have hl : lv_has ls 5 [(0, .long p1)] := hl
  have loop4 : ∀ (K22 : Int32 → Int64 → Prop), True → (∀ (i2 : Int32) (i3 : Int64) (ls : Array Slot), lv_has ls 5 [(0, .long p1), (2, .int i2), (3, .long i3)] → K22 i2 i3 → W p l e (headSpec (wl_X4_size_) rm_X4_size_).room s m ([.long p1] : List Value).toArray below meth c s.heap [] 0 0 (MQ below (vp_Si post) ([.long p1] : List Value).toArray s 0 0 (fun _ => False)) (F0 m 22 ls [])) → ∀ (n : Nat) (i2 : Int32) (i3 : Int64) (ls : Array Slot), lv_has ls 5 [(0, .long p1), (2, .int i2), (3, .long i3)] → wX4_size__L4 post K22 n i2 i3 → W p l e (headSpec (wl_X4_size_) rm_X4_size_).room s m ([.long p1] : List Value).toArray below meth c s.heap [] 0 0 (MQ below (vp_Si post) ([.long p1] : List Value).toArray s 0 0 (fun _ => False)) (F0 m 4 ls []) := by
    intro K22 _ hexit22 n
    induction n with
    | zero => intro i2 i3 ls hl h; exact False.elim h
    | succ n ih =>
      intro i2 i3 ls hl h
      refine lv_lload_n hx hb dX4_size__4 rfl (lv_at hl 2 rfl) ?_
      refine lv_lconst (v := 0) hx hb dX4_size__5 (by decide) ?_
      refine W.lcmp hx hb dX4_size__6 ?_
      refine lv_if_eq (tgt := 22) hx hb dX4_size__7 (by decide) (fun hc => ?_) (fun hc => ?_)
      · have h := h.1 hc
        have hl := lv_sub (l' := [(0, .long p1), (2, .int i2), (3, .long i3)]) hl [0, 1, 2] rfl
        exact hexit22 _ _ ls hl h
      · have h := h.2 hc
        refine lv_iinc (v := (i2 + 1)) hx hb dX4_size__10 hl (k := 1) rfl (by rw [show Int32.ofInt 1 = 1 from by decide]) (Nat.le_of_ble_eq_true rfl) rfl (fun ls hl => ?_)
        have hl : lv_has ls 5 [(2, .int (i2 + 1)), (0, .long p1), (3, .long i3)] := hl
        refine lv_lload_n hx hb dX4_size__13 rfl (lv_at hl 2 rfl) ?_
        refine lv_lload_n hx hb dX4_size__14 rfl (lv_at hl 2 rfl) ?_
        refine lv_lconst (v := 1) hx hb dX4_size__15 (by decide) ?_
        refine lv_lsub hx hb dX4_size__16 ?_
        refine lv_land hx hb dX4_size__17 ?_
        refine lv_lstore_n hx hb dX4_size__18 rfl hl (Nat.le_of_ble_eq_true rfl) rfl (fun ls hl => ?_)
        have hl : lv_has ls 5 [(3, .long (i3 &&& (i3 - (1 : Int64)))), (2, .int (i2 + 1)), (0, .long p1)] := hl
        refine lv_goto (tgt := 4) hx hb dX4_size__19 (by decide) ?_
        have hl := lv_sub (l' := [(0, .long p1), (2, .int (i2 + 1)), (3, .long (i3 &&& (i3 - (1 : Int64))))]) hl [2, 1, 0] rfl
        exact ih _ _ ls hl h
  refine lv_iconst (v := 0) hx hb dX4_size__0 (by decide) ?_
  refine lv_istore_n hx hb dX4_size__1 rfl hl (Nat.le_of_ble_eq_true rfl) rfl (fun ls hl => ?_)
  have hl : lv_has ls 5 [(2, .int (0 : Int32)), (0, .long p1)] := hl
  refine lv_lload_n hx hb dX4_size__2 rfl (lv_at hl 1 rfl) ?_
  refine lv_lstore_n hx hb dX4_size__3 rfl hl (Nat.le_of_ble_eq_true rfl) rfl (fun ls hl => ?_)
  have hl : lv_has ls 5 [(3, .long p1), (2, .int (0 : Int32)), (0, .long p1)] := hl
  have hl := lv_sub (l' := [(0, .long p1), (2, .int (0 : Int32)), (3, .long p1)]) hl [2, 1, 0] rfl
  obtain ⟨nF, h⟩ := h
  refine loop4 _ trivial ?_ nF (0 : Int32) p1 _ hl h
  · intro i2 i3 ls hl h
    refine lv_iload_n hx hb dX4_size__22 rfl (lv_at hl 1 rfl) ?_
    exact W.iret (v := i2) hx hb hr (fun t ht _ => ⟨_, rfl, h, ht⟩) (fun _ hq => absurd hq List.not_mem_nil) dX4_size__23
theorem dX4_isGuard_0 : decode cX4_isGuard 0 = .ok (.iload_n 0, 1) := by decide +kernel
theorem dX4_isGuard_1 : decode cX4_isGuard 1 = .ok (.iconst 0, 1) := by decide +kernel
theorem dX4_isGuard_2 : decode cX4_isGuard 2 = .ok (.iconst 5, 1) := by decide +kernel
theorem dX4_isGuard_3 : decode cX4_isGuard 3 = .ok (.invokestatic 119, 3) := by decide +kernel
theorem dX4_isGuard_6 : decode cX4_isGuard 6 = .ok (.ireturn, 1) := by decide +kernel
def wX4_isGuard (post : Int32 → Prop) (p1 : Int32) : Prop :=
  wX4_in (fun r_1 : Int32 =>
    vZ r_1 ∧
    post r_1
    ) p1 (0 : Int32) (5 : Int32)
abbrev wl_X4_isGuard : List Cond := .code yX4_isGuard cX4_isGuard 1 (some .boolean) :: lwg
abbrev rm_X4_isGuard : Room := { frames := 1, cells := 0, slots := 0, locals := 22 }
set_option maxHeartbeats 4000000 in
set_option maxRecDepth 100000 in
theorem kX4_isGuard {post : Int32 → Prop} (l : Launch) (G : GT) (p1 : Int32) (h : wX4_isGuard post p1) : Met l yX4_isGuard wl_X4_isGuard rm_X4_isGuard (va_Pc [.int p1] (fun U => PP G [] U.heap ∧ KK G U)) (vp_Si post) 0 0 (fun _ => False) := by
  refine Met.ofW (cc := cX4_isGuard) (maxL := 1) (ret := (some .boolean)) (by decide) rfl ?_
  intro p e s m args below meth c s₁ B hml hv
  obtain ⟨rfl, hP, hKK⟩ := hv
  obtain ⟨hK, hN, hR, hFW, hNC⟩ := id hKK
  have hx := B.exec
  have hb := B.bytes
  have hr := B.returns
  have hts0 := atoms_spec (ws := wl_X4_isGuard) B.pre
  have hts : ∀ w ∈ lwg, w.before ([.int p1] : List Value).toArray s = true := fun w hw => hts0 w (List.mem_cons_of_mem _ hw)
  have hown : s.vm.findClass RX4 = some m.cls := findClass_of_methodNamed B.named
  have hlocks := B.notSynchronized
  have hP : PP G [] s.heap := hP
  have hl := lv_entry ([.int p1]) (n := 1) (Nat.le_of_ble_eq_true rfl)
  rw [lg_entry_eq]
  generalize (lg_sl ([.int p1]) ++ List.replicate (1 - (lg_sl ([.int p1])).length) Slot.unset).toArray = ls at hl ⊢
  have hl : lv_has ls 1 [(0, .int p1)] := hl
  refine lv_iload_n hx hb dX4_isGuard_0 rfl (lv_at hl 0 rfl) ?_
  refine lv_iconst (v := 0) hx hb dX4_isGuard_1 (by decide) ?_
  refine lv_iconst (v := 5) hx hb dX4_isGuard_2 (by decide) ?_
  have hPc := hP
  refine rdI (va_runS (As := [.int p1, .int (0 : Int32), .int (5 : Int32)]) (rest := []) ⟨hx, hb, hml, hown, hts⟩ (kX4_in l G p1 (0 : Int32) (5 : Int32) h) (va_cwS 3 hts (gdS q1060 q1061 q6 q1062) rfl rfl rfl (by decide +kernel) ⟨Nat.le_of_ble_eq_true rfl, Nat.le_of_ble_eq_true rfl⟩) (preS hPc hKK) rfl rfl hl.1 rfl (lv_room (Nat.le_of_ble_eq_true rfl)) dX4_isGuard_3 ⟨Nat.zero_le _, Nat.zero_le _⟩) (fun r_1 h => ?_)
  obtain ⟨hz, h⟩ := h
  exact W.zret (v := r_1) hx hb hr (vZn hz) (fun t ht _ => ⟨_, rfl, h, ht⟩) (fun _ hq => absurd hq List.not_mem_nil) dX4_isGuard_6
theorem dX4_isSet_0 : decode cX4_isSet 0 = .ok (.iload_n 0, 1) := by decide +kernel
theorem dX4_isSet_1 : decode cX4_isSet 1 = .ok (.iconst 1, 1) := by decide +kernel
theorem dX4_isSet_2 : decode cX4_isSet 2 = .ok (.bipush 63, 2) := by decide +kernel
theorem dX4_isSet_4 : decode cX4_isSet 4 = .ok (.invokestatic 119, 3) := by decide +kernel
theorem dX4_isSet_7 : decode cX4_isSet 7 = .ok (.ireturn, 1) := by decide +kernel
def wX4_isSet (post : Int32 → Prop) (p1 : Int32) : Prop :=
  wX4_in (fun r_1 : Int32 =>
    vZ r_1 ∧
    post r_1
    ) p1 (1 : Int32) (63 : Int32)
abbrev wl_X4_isSet : List Cond := .code yX4_isSet cX4_isSet 1 (some .boolean) :: lwg
abbrev rm_X4_isSet : Room := { frames := 1, cells := 0, slots := 0, locals := 22 }
set_option maxHeartbeats 4000000 in
set_option maxRecDepth 100000 in
theorem kX4_isSet {post : Int32 → Prop} (l : Launch) (G : GT) (p1 : Int32) (h : wX4_isSet post p1) : Met l yX4_isSet wl_X4_isSet rm_X4_isSet (va_Pc [.int p1] (fun U => PP G [] U.heap ∧ KK G U)) (vp_Si post) 0 0 (fun _ => False) := by
  refine Met.ofW (cc := cX4_isSet) (maxL := 1) (ret := (some .boolean)) (by decide) rfl ?_
  intro p e s m args below meth c s₁ B hml hv
  obtain ⟨rfl, hP, hKK⟩ := hv
  obtain ⟨hK, hN, hR, hFW, hNC⟩ := id hKK
  have hx := B.exec
  have hb := B.bytes
  have hr := B.returns
  have hts0 := atoms_spec (ws := wl_X4_isSet) B.pre
  have hts : ∀ w ∈ lwg, w.before ([.int p1] : List Value).toArray s = true := fun w hw => hts0 w (List.mem_cons_of_mem _ hw)
  have hown : s.vm.findClass RX4 = some m.cls := findClass_of_methodNamed B.named
  have hlocks := B.notSynchronized
  have hP : PP G [] s.heap := hP
  have hl := lv_entry ([.int p1]) (n := 1) (Nat.le_of_ble_eq_true rfl)
  rw [lg_entry_eq]
  generalize (lg_sl ([.int p1]) ++ List.replicate (1 - (lg_sl ([.int p1])).length) Slot.unset).toArray = ls at hl ⊢
  have hl : lv_has ls 1 [(0, .int p1)] := hl
  refine lv_iload_n hx hb dX4_isSet_0 rfl (lv_at hl 0 rfl) ?_
  refine lv_iconst (v := 1) hx hb dX4_isSet_1 (by decide) ?_
  refine lv_bipush (v := 63) hx hb dX4_isSet_2 (by decide) ?_
  have hPc := hP
  refine rdI (va_runS (As := [.int p1, .int (1 : Int32), .int (63 : Int32)]) (rest := []) ⟨hx, hb, hml, hown, hts⟩ (kX4_in l G p1 (1 : Int32) (63 : Int32) h) (va_cwS 3 hts (gdS q1060 q1061 q6 q1062) rfl rfl rfl (by decide +kernel) ⟨Nat.le_of_ble_eq_true rfl, Nat.le_of_ble_eq_true rfl⟩) (preS hPc hKK) rfl rfl hl.1 rfl (lv_room (Nat.le_of_ble_eq_true rfl)) dX4_isSet_4 ⟨Nat.zero_le _, Nat.zero_le _⟩) (fun r_1 h => ?_)
  obtain ⟨hz, h⟩ := h
  exact W.zret (v := r_1) hx hb hr (vZn hz) (fun t ht _ => ⟨_, rfl, h, ht⟩) (fun _ hq => absurd hq List.not_mem_nil) dX4_isSet_7
theorem dX4_turned_0 : decode cX4_turned 0 = .ok (.lconst 0, 1) := by decide +kernel
theorem dX4_turned_1 : decode cX4_turned 1 = .ok (.lstore_n 3, 1) := by decide +kernel
theorem dX4_turned_2 : decode cX4_turned 2 = .ok (.iconst 0, 1) := by decide +kernel
theorem dX4_turned_3 : decode cX4_turned 3 = .ok (.istore 5, 2) := by decide +kernel
theorem dX4_turned_5 : decode cX4_turned 5 = .ok (.iload 5, 2) := by decide +kernel
theorem dX4_turned_7 : decode cX4_turned 7 = .ok (.bipush 64, 2) := by decide +kernel
theorem dX4_turned_9 : decode cX4_turned 9 = .ok (.if_icmp .ge 33, 3) := by decide +kernel
theorem dX4_turned_12 : decode cX4_turned 12 = .ok (.lload_n 3, 1) := by decide +kernel
theorem dX4_turned_13 : decode cX4_turned 13 = .ok (.lload_n 0, 1) := by decide +kernel
theorem dX4_turned_14 : decode cX4_turned 14 = .ok (.iload 5, 2) := by decide +kernel
theorem dX4_turned_16 : decode cX4_turned 16 = .ok (.invokestatic 58, 3) := by decide +kernel
theorem dX4_turned_19 : decode cX4_turned 19 = .ok (.ifCond .eq 14, 3) := by decide +kernel
theorem dX4_turned_22 : decode cX4_turned 22 = .ok (.lconst 1, 1) := by decide +kernel
theorem dX4_turned_23 : decode cX4_turned 23 = .ok (.iload 5, 2) := by decide +kernel
theorem dX4_turned_25 : decode cX4_turned 25 = .ok (.iconst 1, 1) := by decide +kernel
theorem dX4_turned_26 : decode cX4_turned 26 = .ok (.iload_n 2, 1) := by decide +kernel
theorem dX4_turned_27 : decode cX4_turned 27 = .ok (.ishl, 1) := by decide +kernel
theorem dX4_turned_28 : decode cX4_turned 28 = .ok (.ixor, 1) := by decide +kernel
theorem dX4_turned_29 : decode cX4_turned 29 = .ok (.lshl, 1) := by decide +kernel
theorem dX4_turned_30 : decode cX4_turned 30 = .ok (.goto 4, 3) := by decide +kernel
theorem dX4_turned_33 : decode cX4_turned 33 = .ok (.lconst 0, 1) := by decide +kernel
theorem dX4_turned_34 : decode cX4_turned 34 = .ok (.lor, 1) := by decide +kernel
theorem dX4_turned_35 : decode cX4_turned 35 = .ok (.lstore_n 3, 1) := by decide +kernel
theorem dX4_turned_36 : decode cX4_turned 36 = .ok (.iinc 5 1, 3) := by decide +kernel
theorem dX4_turned_39 : decode cX4_turned 39 = .ok (.goto (-34), 3) := by decide +kernel
theorem dX4_turned_42 : decode cX4_turned 42 = .ok (.lload_n 3, 1) := by decide +kernel
theorem dX4_turned_43 : decode cX4_turned 43 = .ok (.lreturn, 1) := by decide +kernel
def wX4_turned_L5 (post : Int64 → Prop) (K42 : Int64 → Int32 → Prop) (p1 : Int64) (p2 : Int32) : Nat → Int64 → Int32 → Prop
  | 0, _, _ => False
  | n+1, i3, i5 =>
    (((64 : Int32) ≤ i5) →
      K42 i3 i5
    ) ∧ (¬ ((64 : Int32) ≤ i5) →
      wX4_has_ (fun r_1 : Int32 =>
        ((r_1 = 0) →
          wX4_turned_L5 post K42 p1 p2 n (i3 ||| (0 : Int64)) (i5 + 1)
        ) ∧ (¬ (r_1 = 0) →
          ∀ x_1 : Int64, x_1 = (i3 ||| (jLshl (1 : Int64) (i5 ^^^ ((1 : Int32) <<< (p2 &&& 31))))) →
          wX4_turned_L5 post K42 p1 p2 n x_1 (i5 + 1)
        )
        ) p1 i5
    )
def wX4_turned (post : Int64 → Prop) (p1 : Int64) (p2 : Int32) : Prop :=
  ∃ nF, wX4_turned_L5 post
    (fun i3 i5 =>
      post i3
    )
    p1 p2 nF (0 : Int64) (0 : Int32)
abbrev wl_X4_turned : List Cond := .code yX4_turned cX4_turned 6 (some .long) :: lwg
abbrev rm_X4_turned : Room := { frames := 1, cells := 0, slots := 0, locals := 22 }
set_option maxHeartbeats 4000000 in
set_option maxRecDepth 100000 in
theorem kX4_turned {post : Int64 → Prop} (l : Launch) (G : GT) (p1 : Int64) (p2 : Int32) (h : wX4_turned post p1 p2) : Met l yX4_turned wl_X4_turned rm_X4_turned (va_Pc [.long p1, .int p2] (fun U => PP G [] U.heap ∧ KK G U)) (vp_Sl post) 0 0 (fun _ => False) := by
  refine Met.ofW (cc := cX4_turned) (maxL := 6) (ret := (some .long)) (by decide) rfl ?_
  intro p e s m args below meth c s₁ B hml hv
  obtain ⟨rfl, hP, hKK⟩ := hv
  obtain ⟨hK, hN, hR, hFW, hNC⟩ := id hKK
  have hx := B.exec
  have hb := B.bytes
  have hr := B.returns
  have hts0 := atoms_spec (ws := wl_X4_turned) B.pre
  have hts : ∀ w ∈ lwg, w.before ([.long p1, .int p2] : List Value).toArray s = true := fun w hw => hts0 w (List.mem_cons_of_mem _ hw)
  have hown : s.vm.findClass RX4 = some m.cls := findClass_of_methodNamed B.named
  have hlocks := B.notSynchronized
  have hP : PP G [] s.heap := hP
  have hl := lv_entry ([.long p1, .int p2]) (n := 6) (Nat.le_of_ble_eq_true rfl)
  rw [lg_entry_eq]
  generalize (lg_sl ([.long p1, .int p2]) ++ List.replicate (6 - (lg_sl ([.long p1, .int p2])).length) Slot.unset).toArray = ls at hl ⊢
  have hl : lv_has ls 6 [(0, .long p1), (2, .int p2)] := hl
  have loop5 : ∀ (K42 : Int64 → Int32 → Prop), True → (∀ (i3 : Int64) (i5 : Int32) (ls : Array Slot), lv_has ls 6 [(0, .long p1), (2, .int p2), (3, .long i3), (5, .int i5)] → K42 i3 i5 → W p l e (headSpec (wl_X4_turned) rm_X4_turned).room s m ([.long p1, .int p2] : List Value).toArray below meth c s.heap [] 0 0 (MQ below (vp_Sl post) ([.long p1, .int p2] : List Value).toArray s 0 0 (fun _ => False)) (F0 m 42 ls [])) → ∀ (n : Nat) (i3 : Int64) (i5 : Int32) (ls : Array Slot), lv_has ls 6 [(0, .long p1), (2, .int p2), (3, .long i3), (5, .int i5)] → wX4_turned_L5 post K42 p1 p2 n i3 i5 → W p l e (headSpec (wl_X4_turned) rm_X4_turned).room s m ([.long p1, .int p2] : List Value).toArray below meth c s.heap [] 0 0 (MQ below (vp_Sl post) ([.long p1, .int p2] : List Value).toArray s 0 0 (fun _ => False)) (F0 m 5 ls []) := by
    intro K42 _ hexit42 n
    induction n with
    | zero => intro i3 i5 ls hl h; exact False.elim h
    | succ n ih =>
      intro i3 i5 ls hl h
      refine lv_iload hx hb dX4_turned_5 (lv_at hl 3 rfl) ?_
      refine lv_bipush (v := 64) hx hb dX4_turned_7 (by decide) ?_
      refine lv_icmp_ge (tgt := 42) hx hb dX4_turned_9 (by decide) (fun hc => ?_) (fun hc => ?_)
      · have h := h.1 hc
        have hl := lv_sub (l' := [(0, .long p1), (2, .int p2), (3, .long i3), (5, .int i5)]) hl [0, 1, 2, 3] rfl
        exact hexit42 _ _ ls hl h
      · have h := h.2 hc
        refine lv_lload_n hx hb dX4_turned_12 rfl (lv_at hl 2 rfl) ?_
        refine lv_lload_n hx hb dX4_turned_13 rfl (lv_at hl 0 rfl) ?_
        refine lv_iload hx hb dX4_turned_14 (lv_at hl 3 rfl) ?_
        have hPc := hP
        refine rdI (va_runS (As := [.long p1, .int i5]) (rest := [.long i3]) ⟨hx, hb, hml, hown, hts⟩ (kX4_has_ l G p1 i5 h) (va_cwS 2 hts (gdS q1122 q1123 q6 q1124) rfl rfl rfl (by decide +kernel) ⟨Nat.le_of_ble_eq_true rfl, Nat.le_of_ble_eq_true rfl⟩) (preS hPc hKK) rfl rfl hl.1 rfl (lv_room (Nat.le_of_ble_eq_true rfl)) dX4_turned_16 ⟨Nat.zero_le _, Nat.zero_le _⟩) (fun r_1 h => ?_)
        refine lv_if_eq (tgt := 33) hx hb dX4_turned_19 (by decide) (fun hc => ?_) (fun hc => ?_)
        · have h := h.1 hc
          refine lv_lconst (v := 0) hx hb dX4_turned_33 (by decide) ?_
          refine lv_lor hx hb dX4_turned_34 ?_
          refine lv_lstore_n hx hb dX4_turned_35 rfl hl (Nat.le_of_ble_eq_true rfl) rfl (fun ls hl => ?_)
          have hl : lv_has ls 6 [(3, .long (i3 ||| (0 : Int64))), (0, .long p1), (2, .int p2), (5, .int i5)] := hl
          refine lv_iinc (v := (i5 + 1)) hx hb dX4_turned_36 hl (k := 3) rfl (by rw [show Int32.ofInt 1 = 1 from by decide]) (Nat.le_of_ble_eq_true rfl) rfl (fun ls hl => ?_)
          have hl : lv_has ls 6 [(5, .int (i5 + 1)), (3, .long (i3 ||| (0 : Int64))), (0, .long p1), (2, .int p2)] := hl
          refine lv_goto (tgt := 5) hx hb dX4_turned_39 (by decide) ?_
          have hl := lv_sub (l' := [(0, .long p1), (2, .int p2), (3, .long (i3 ||| (0 : Int64))), (5, .int (i5 + 1))]) hl [2, 3, 1, 0] rfl
          exact ih _ _ ls hl h
        · have h := h.2 hc
          refine lv_lconst (v := 1) hx hb dX4_turned_22 (by decide) ?_
          refine lv_iload hx hb dX4_turned_23 (lv_at hl 3 rfl) ?_
          refine lv_iconst (v := 1) hx hb dX4_turned_25 (by decide) ?_
          refine lv_iload_n hx hb dX4_turned_26 rfl (lv_at hl 1 rfl) ?_
          refine lv_ishl hx hb dX4_turned_27 ?_
          refine lv_ixor hx hb dX4_turned_28 ?_
          refine lv_lshl (v := (jLshl (1 : Int64) (i5 ^^^ ((1 : Int32) <<< (p2 &&& 31))))) hx hb dX4_turned_29 rfl ?_
          refine lv_goto (tgt := 34) hx hb dX4_turned_30 (by decide) ?_
          refine lv_lor hx hb dX4_turned_34 ?_
          refine lv_topl (fun x_1 ex_1 => ?_)
          have h := h x_1 ex_1
          refine lv_lstore_n hx hb dX4_turned_35 rfl hl (Nat.le_of_ble_eq_true rfl) rfl (fun ls hl => ?_)
          have hl : lv_has ls 6 [(3, .long x_1), (0, .long p1), (2, .int p2), (5, .int i5)] := hl
          refine lv_iinc (v := (i5 + 1)) hx hb dX4_turned_36 hl (k := 3) rfl (by rw [show Int32.ofInt 1 = 1 from by decide]) (Nat.le_of_ble_eq_true rfl) rfl (fun ls hl => ?_)
          have hl : lv_has ls 6 [(5, .int (i5 + 1)), (3, .long x_1), (0, .long p1), (2, .int p2)] := hl
          refine lv_goto (tgt := 5) hx hb dX4_turned_39 (by decide) ?_
          have hl := lv_sub (l' := [(0, .long p1), (2, .int p2), (3, .long x_1), (5, .int (i5 + 1))]) hl [2, 3, 1, 0] rfl
          exact ih _ _ ls hl h
  refine lv_lconst (v := 0) hx hb dX4_turned_0 (by decide) ?_
  refine lv_lstore_n hx hb dX4_turned_1 rfl hl (Nat.le_of_ble_eq_true rfl) rfl (fun ls hl => ?_)
  have hl : lv_has ls 6 [(3, .long (0 : Int64)), (0, .long p1), (2, .int p2)] := hl
  refine lv_iconst (v := 0) hx hb dX4_turned_2 (by decide) ?_
  refine lv_istore hx hb dX4_turned_3 hl (Nat.le_of_ble_eq_true rfl) rfl (fun ls hl => ?_)
  have hl : lv_has ls 6 [(5, .int (0 : Int32)), (3, .long (0 : Int64)), (0, .long p1), (2, .int p2)] := hl
  have hl := lv_sub (l' := [(0, .long p1), (2, .int p2), (3, .long (0 : Int64)), (5, .int (0 : Int32))]) hl [2, 3, 1, 0] rfl
  obtain ⟨nF, h⟩ := h
  refine loop5 _ trivial ?_ nF (0 : Int64) (0 : Int32) _ hl h
  · intro i3 i5 ls hl h
    refine lv_lload_n hx hb dX4_turned_42 rfl (lv_at hl 2 rfl) ?_
    exact W.lret (v := i3) hx hb hr (fun t ht _ => ⟨_, rfl, h, ht⟩) (fun _ hq => absurd hq List.not_mem_nil) dX4_turned_43
theorem dX4_part_0 : decode cX4_part 0 = .ok (.lconst 0, 1) := by decide +kernel
theorem dX4_part_1 : decode cX4_part 1 = .ok (.lstore_n 3, 1) := by decide +kernel
theorem dX4_part_2 : decode cX4_part 2 = .ok (.iconst 0, 1) := by decide +kernel
theorem dX4_part_3 : decode cX4_part 3 = .ok (.istore 5, 2) := by decide +kernel
theorem dX4_part_5 : decode cX4_part 5 = .ok (.iload 5, 2) := by decide +kernel
theorem dX4_part_7 : decode cX4_part 7 = .ok (.bipush 64, 2) := by decide +kernel
theorem dX4_part_9 : decode cX4_part 9 = .ok (.if_icmp .ge 40, 3) := by decide +kernel
theorem dX4_part_12 : decode cX4_part 12 = .ok (.lload_n 3, 1) := by decide +kernel
theorem dX4_part_13 : decode cX4_part 13 = .ok (.aload_n 0, 1) := by decide +kernel
theorem dX4_part_14 : decode cX4_part 14 = .ok (.getfield 17, 3) := by decide +kernel
theorem dX4_part_17 : decode cX4_part 17 = .ok (.iload_n 1, 1) := by decide +kernel
theorem dX4_part_18 : decode cX4_part 18 = .ok (.aaload, 1) := by decide +kernel
theorem dX4_part_19 : decode cX4_part 19 = .ok (.iload 5, 2) := by decide +kernel
theorem dX4_part_21 : decode cX4_part 21 = .ok (.iaload, 1) := by decide +kernel
theorem dX4_part_22 : decode cX4_part 22 = .ok (.aload_n 0, 1) := by decide +kernel
theorem dX4_part_23 : decode cX4_part 23 = .ok (.getfield 17, 3) := by decide +kernel
theorem dX4_part_26 : decode cX4_part 26 = .ok (.iload_n 1, 1) := by decide +kernel
theorem dX4_part_27 : decode cX4_part 27 = .ok (.aaload, 1) := by decide +kernel
theorem dX4_part_28 : decode cX4_part 28 = .ok (.iload_n 2, 1) := by decide +kernel
theorem dX4_part_29 : decode cX4_part 29 = .ok (.iaload, 1) := by decide +kernel
theorem dX4_part_30 : decode cX4_part 30 = .ok (.if_icmp .ne 10, 3) := by decide +kernel
theorem dX4_part_33 : decode cX4_part 33 = .ok (.lconst 1, 1) := by decide +kernel
theorem dX4_part_34 : decode cX4_part 34 = .ok (.iload 5, 2) := by decide +kernel
theorem dX4_part_36 : decode cX4_part 36 = .ok (.lshl, 1) := by decide +kernel
theorem dX4_part_37 : decode cX4_part 37 = .ok (.goto 4, 3) := by decide +kernel
theorem dX4_part_40 : decode cX4_part 40 = .ok (.lconst 0, 1) := by decide +kernel
theorem dX4_part_41 : decode cX4_part 41 = .ok (.lor, 1) := by decide +kernel
theorem dX4_part_42 : decode cX4_part 42 = .ok (.lstore_n 3, 1) := by decide +kernel
theorem dX4_part_43 : decode cX4_part 43 = .ok (.iinc 5 1, 3) := by decide +kernel
theorem dX4_part_46 : decode cX4_part 46 = .ok (.goto (-41), 3) := by decide +kernel
theorem dX4_part_49 : decode cX4_part 49 = .ok (.lload_n 3, 1) := by decide +kernel
theorem dX4_part_50 : decode cX4_part 50 = .ok (.lreturn, 1) := by decide +kernel
def wX4_part_L5 (post : Int64 → Prop) (K49 : Int64 → Int32 → Prop) (DD : Nat → Nat → Int32) (p1 : Int32) (p2 : Int32) : Nat → Int64 → Int32 → Prop
  | 0, _, _ => False
  | n+1, i3, i5 =>
    (((64 : Int32) ≤ i5) →
      K49 i3 i5
    ) ∧ (¬ ((64 : Int32) ≤ i5) →
      vp_in p1 6 ∧
      vp_in i5 64 ∧
      vp_in p1 6 ∧
      vp_in p2 64 ∧
      ((¬ (DD (p1.toNatClampNeg) i5.toNatClampNeg) = (DD (p1.toNatClampNeg) p2.toNatClampNeg)) →
        wX4_part_L5 post K49 DD p1 p2 n (i3 ||| (0 : Int64)) (i5 + 1)
      ) ∧ (((DD (p1.toNatClampNeg) i5.toNatClampNeg) = (DD (p1.toNatClampNeg) p2.toNatClampNeg)) →
        wX4_part_L5 post K49 DD p1 p2 n (i3 ||| (jLshl (1 : Int64) i5)) (i5 + 1)
      )
    )
def wX4_part (post : Int64 → Prop) (DD : Nat → Nat → Int32) (p1 : Int32) (p2 : Int32) : Prop :=
  ∃ nF, wX4_part_L5 post
    (fun i3 i5 =>
      post i3
    )
    DD p1 p2 nF (0 : Int64) (0 : Int32)
abbrev wl_X4_part : List Cond := .code yX4_part cX4_part 6 (some .long) :: lwg
abbrev rm_X4_part : Room := { frames := 0, cells := 0, slots := 0, locals := 0 }
set_option maxHeartbeats 4000000 in
set_option maxRecDepth 100000 in
theorem kX4_part {post : Int64 → Prop} (l : Launch) (G : GT) (m0 : Nat) (dO : Nat) (sl : Nat) (ct0 : Nat) (st0 : Nat) (fs0 : Nat) (jn0 : Nat) (rw0 : Nat) (fd0 : Nat) (af0 : Nat) (kO : Nat) (dr : Nat → Nat) (kr : Nat → Nat) (sa : Nat → Nat) (th : Int32) (mr : Int32) (po : Int64) (mf : Int32) (sp : Int32) (DD : Nat → Nat → Int32) (ctf : Nat → Int32) (stf : Nat → Int32) (fsf : Nat → Int32) (jnf : Nat → Int32) (rwf : Nat → Int32) (fdf : Nat → Int64) (aff : Nat → Int32) (KP : Nat → Nat → Int32) (sn : Nat) (sq : Nat → Nat → Int32) (p1 : Int32) (p2 : Int32) (h : wX4_part post DD p1 p2) : Met l yX4_part wl_X4_part rm_X4_part (va_Pc [.ref m0, .int p1, .int p2] (fun U => PP G [(m0, .inr (7, [.int th, .int mr, .long po, .ref dO, .ref sl, .ref ct0, .int mf, .int sp, .ref st0, .ref fs0, .ref jn0, .ref rw0, .ref fd0, .ref af0, .ref kO])), (dO, .inl (G.2 4, 6, .inr (.inr (.inr (.inr (fun k => if k < 6 then some (dr k) else none)))))), (dr 0, .inl (G.2 0, 64, .inl (DD 0))), (dr 1, .inl (G.2 0, 64, .inl (DD 1))), (dr 2, .inl (G.2 0, 64, .inl (DD 2))), (dr 3, .inl (G.2 0, 64, .inl (DD 3))), (dr 4, .inl (G.2 0, 64, .inl (DD 4))), (dr 5, .inl (G.2 0, 64, .inl (DD 5))), (ct0, .inl (G.2 0, 6, .inl ctf)), (st0, .inl (G.2 0, 4096, .inl stf)), (fs0, .inl (G.2 0, 4096, .inl fsf)), (jn0, .inl (G.2 0, 64, .inl jnf)), (rw0, .inl (G.2 0, 64, .inl rwf)), (fd0, .inl (G.2 1, 40, .inr (.inl fdf))), (af0, .inl (G.2 3, 40, .inl aff)), (kO, .inl (G.2 4, 4, .inr (.inr (.inr (.inr (fun k => if k < 4 then some (kr k) else none)))))), (kr 0, .inl (G.2 0, 64, .inl (KP 0))), (kr 1, .inl (G.2 0, 64, .inl (KP 1))), (kr 2, .inl (G.2 0, 64, .inl (KP 2))), (kr 3, .inl (G.2 0, 64, .inl (KP 3)))] U.heap ∧ KK G U)) (vp_Sl post) 0 0 (fun _ => False) := by
  refine Met.ofW (cc := cX4_part) (maxL := 6) (ret := (some .long)) (by decide) rfl ?_
  intro p e s m args below meth c s₁ B hml hv
  obtain ⟨rfl, hP, hKK⟩ := hv
  obtain ⟨hK, hN, hR, hFW, hNC⟩ := id hKK
  have hx := B.exec
  have hb := B.bytes
  have hr := B.returns
  have hts0 := atoms_spec (ws := wl_X4_part) B.pre
  have hts : ∀ w ∈ lwg, w.before ([.ref m0, .int p1, .int p2] : List Value).toArray s = true := fun w hw => hts0 w (List.mem_cons_of_mem _ hw)
  have hown : s.vm.findClass RX4 = some m.cls := findClass_of_methodNamed B.named
  have hlocks := B.notSynchronized
  have hP : PP G [(m0, .inr (7, [.int th, .int mr, .long po, .ref dO, .ref sl, .ref ct0, .int mf, .int sp, .ref st0, .ref fs0, .ref jn0, .ref rw0, .ref fd0, .ref af0, .ref kO])), (dO, .inl (G.2 4, 6, .inr (.inr (.inr (.inr (fun k => if k < 6 then some (dr k) else none)))))), (dr 0, .inl (G.2 0, 64, .inl (DD 0))), (dr 1, .inl (G.2 0, 64, .inl (DD 1))), (dr 2, .inl (G.2 0, 64, .inl (DD 2))), (dr 3, .inl (G.2 0, 64, .inl (DD 3))), (dr 4, .inl (G.2 0, 64, .inl (DD 4))), (dr 5, .inl (G.2 0, 64, .inl (DD 5))), (ct0, .inl (G.2 0, 6, .inl ctf)), (st0, .inl (G.2 0, 4096, .inl stf)), (fs0, .inl (G.2 0, 4096, .inl fsf)), (jn0, .inl (G.2 0, 64, .inl jnf)), (rw0, .inl (G.2 0, 64, .inl rwf)), (fd0, .inl (G.2 1, 40, .inr (.inl fdf))), (af0, .inl (G.2 3, 40, .inl aff)), (kO, .inl (G.2 4, 4, .inr (.inr (.inr (.inr (fun k => if k < 4 then some (kr k) else none)))))), (kr 0, .inl (G.2 0, 64, .inl (KP 0))), (kr 1, .inl (G.2 0, 64, .inl (KP 1))), (kr 2, .inl (G.2 0, 64, .inl (KP 2))), (kr 3, .inl (G.2 0, 64, .inl (KP 3)))] s.heap := hP
  have hl := lv_entry ([.ref m0, .int p1, .int p2]) (n := 6) (Nat.le_of_ble_eq_true rfl)
  rw [lg_entry_eq]
  generalize (lg_sl ([.ref m0, .int p1, .int p2]) ++ List.replicate (6 - (lg_sl ([.ref m0, .int p1, .int p2])).length) Slot.unset).toArray = ls at hl ⊢
  have hl : lv_has ls 6 [(0, .ref m0), (1, .int p1), (2, .int p2)] := hl
  have loop5 : ∀ (K49 : Int64 → Int32 → Prop), True → (∀ (i3 : Int64) (i5 : Int32) (ls : Array Slot), lv_has ls 6 [(0, .ref m0), (1, .int p1), (2, .int p2), (3, .long i3), (5, .int i5)] → K49 i3 i5 → W p l e (headSpec (wl_X4_part) rm_X4_part).room s m ([.ref m0, .int p1, .int p2] : List Value).toArray below meth c s.heap [] 0 0 (MQ below (vp_Sl post) ([.ref m0, .int p1, .int p2] : List Value).toArray s 0 0 (fun _ => False)) (F0 m 49 ls [])) → ∀ (n : Nat) (i3 : Int64) (i5 : Int32) (ls : Array Slot), lv_has ls 6 [(0, .ref m0), (1, .int p1), (2, .int p2), (3, .long i3), (5, .int i5)] → wX4_part_L5 post K49 DD p1 p2 n i3 i5 → W p l e (headSpec (wl_X4_part) rm_X4_part).room s m ([.ref m0, .int p1, .int p2] : List Value).toArray below meth c s.heap [] 0 0 (MQ below (vp_Sl post) ([.ref m0, .int p1, .int p2] : List Value).toArray s 0 0 (fun _ => False)) (F0 m 5 ls []) := by
    intro K49 _ hexit49 n
    induction n with
    | zero => intro i3 i5 ls hl h; exact False.elim h
    | succ n ih =>
      intro i3 i5 ls hl h
      refine lv_iload hx hb dX4_part_5 (lv_at hl 4 rfl) ?_
      refine lv_bipush (v := 64) hx hb dX4_part_7 (by decide) ?_
      refine lv_icmp_ge (tgt := 49) hx hb dX4_part_9 (by decide) (fun hc => ?_) (fun hc => ?_)
      · have h := h.1 hc
        have hl := lv_sub (l' := [(0, .ref m0), (1, .int p1), (2, .int p2), (3, .long i3), (5, .int i5)]) hl [0, 1, 2, 3, 4] rfl
        exact hexit49 _ _ ls hl h
      · have h := h.2 hc
        refine lv_lload_n hx hb dX4_part_12 rfl (lv_at hl 3 rfl) ?_
        refine lv_aload_n hx hb dX4_part_13 rfl (lv_at hl 0 rfl) ?_
        refine va_get (D := G.1) (ci := 7) (v := .ref dO) (C := RX4) (T := TX4) (N := 15) hx hb hts igX4 hown hK hP 0 rfl rfl 3 (by decide) (hts _ q1008) (fun _ h9 => h9) rfl dX4_part_14 ?_
        refine lv_iload_n hx hb dX4_part_17 rfl (lv_at hl 1 rfl) ?_
        obtain ⟨hin, h⟩ := h
        have hf_1 : p1.toNatClampNeg < 6 := vpLt hin
        refine va_aldA (b := dr (p1.toNatClampNeg)) hx hb hK hP 1 4 rfl rfl hin (if_pos hf_1) dX4_part_18 ?_
        refine lv_iload hx hb dX4_part_19 (lv_at hl 4 rfl) ?_
        obtain ⟨hin, h⟩ := h
        refine va_iald (D := G.1) (f := DD (p1.toNatClampNeg)) hx hb hK hP (2 + (p1.toNatClampNeg)) 0 (famget6 (pre := [(m0, .inr (7, [.int th, .int mr, .long po, .ref dO, .ref sl, .ref ct0, .int mf, .int sp, .ref st0, .ref fs0, .ref jn0, .ref rw0, .ref fd0, .ref af0, .ref kO])), (dO, .inl (G.2 4, 6, .inr (.inr (.inr (.inr (fun k => if k < 6 then some (dr k) else none))))))]) (post := [(ct0, .inl (G.2 0, 6, .inl ctf)), (st0, .inl (G.2 0, 4096, .inl stf)), (fs0, .inl (G.2 0, 4096, .inl fsf)), (jn0, .inl (G.2 0, 64, .inl jnf)), (rw0, .inl (G.2 0, 64, .inl rwf)), (fd0, .inl (G.2 1, 40, .inr (.inl fdf))), (af0, .inl (G.2 3, 40, .inl aff)), (kO, .inl (G.2 4, 4, .inr (.inr (.inr (.inr (fun k => if k < 4 then some (kr k) else none)))))), (kr 0, .inl (G.2 0, 64, .inl (KP 0))), (kr 1, .inl (G.2 0, 64, .inl (KP 1))), (kr 2, .inl (G.2 0, 64, .inl (KP 2))), (kr 3, .inl (G.2 0, 64, .inl (KP 3)))]) (fun j => (dr j, .inl (G.2 0, 64, .inl (DD j)))) hf_1) rfl hin dX4_part_21 ?_
        refine lv_aload_n hx hb dX4_part_22 rfl (lv_at hl 0 rfl) ?_
        refine va_get (D := G.1) (ci := 7) (v := .ref dO) (C := RX4) (T := TX4) (N := 15) hx hb hts igX4 hown hK hP 0 rfl rfl 3 (by decide) (hts _ q1008) (fun _ h9 => h9) rfl dX4_part_23 ?_
        refine lv_iload_n hx hb dX4_part_26 rfl (lv_at hl 1 rfl) ?_
        obtain ⟨hin, h⟩ := h
        have hf_2 : p1.toNatClampNeg < 6 := vpLt hin
        refine va_aldA (b := dr (p1.toNatClampNeg)) hx hb hK hP 1 4 rfl rfl hin (if_pos hf_1) dX4_part_27 ?_
        refine lv_iload_n hx hb dX4_part_28 rfl (lv_at hl 2 rfl) ?_
        obtain ⟨hin, h⟩ := h
        refine va_iald (D := G.1) (f := DD (p1.toNatClampNeg)) hx hb hK hP (2 + (p1.toNatClampNeg)) 0 (famget6 (pre := [(m0, .inr (7, [.int th, .int mr, .long po, .ref dO, .ref sl, .ref ct0, .int mf, .int sp, .ref st0, .ref fs0, .ref jn0, .ref rw0, .ref fd0, .ref af0, .ref kO])), (dO, .inl (G.2 4, 6, .inr (.inr (.inr (.inr (fun k => if k < 6 then some (dr k) else none))))))]) (post := [(ct0, .inl (G.2 0, 6, .inl ctf)), (st0, .inl (G.2 0, 4096, .inl stf)), (fs0, .inl (G.2 0, 4096, .inl fsf)), (jn0, .inl (G.2 0, 64, .inl jnf)), (rw0, .inl (G.2 0, 64, .inl rwf)), (fd0, .inl (G.2 1, 40, .inr (.inl fdf))), (af0, .inl (G.2 3, 40, .inl aff)), (kO, .inl (G.2 4, 4, .inr (.inr (.inr (.inr (fun k => if k < 4 then some (kr k) else none)))))), (kr 0, .inl (G.2 0, 64, .inl (KP 0))), (kr 1, .inl (G.2 0, 64, .inl (KP 1))), (kr 2, .inl (G.2 0, 64, .inl (KP 2))), (kr 3, .inl (G.2 0, 64, .inl (KP 3)))]) (fun j => (dr j, .inl (G.2 0, 64, .inl (DD j)))) hf_1) rfl hin dX4_part_29 ?_
        refine lv_icmp_ne (tgt := 40) hx hb dX4_part_30 (by decide) (fun hc => ?_) (fun hc => ?_)
        · have h := h.1 hc
          refine lv_lconst (v := 0) hx hb dX4_part_40 (by decide) ?_
          refine lv_lor hx hb dX4_part_41 ?_
          refine lv_lstore_n hx hb dX4_part_42 rfl hl (Nat.le_of_ble_eq_true rfl) rfl (fun ls hl => ?_)
          have hl : lv_has ls 6 [(3, .long (i3 ||| (0 : Int64))), (0, .ref m0), (1, .int p1), (2, .int p2), (5, .int i5)] := hl
          refine lv_iinc (v := (i5 + 1)) hx hb dX4_part_43 hl (k := 4) rfl (by rw [show Int32.ofInt 1 = 1 from by decide]) (Nat.le_of_ble_eq_true rfl) rfl (fun ls hl => ?_)
          have hl : lv_has ls 6 [(5, .int (i5 + 1)), (3, .long (i3 ||| (0 : Int64))), (0, .ref m0), (1, .int p1), (2, .int p2)] := hl
          refine lv_goto (tgt := 5) hx hb dX4_part_46 (by decide) ?_
          have hl := lv_sub (l' := [(0, .ref m0), (1, .int p1), (2, .int p2), (3, .long (i3 ||| (0 : Int64))), (5, .int (i5 + 1))]) hl [2, 3, 4, 1, 0] rfl
          exact ih _ _ ls hl h
        · have h := h.2 hc
          refine lv_lconst (v := 1) hx hb dX4_part_33 (by decide) ?_
          refine lv_iload hx hb dX4_part_34 (lv_at hl 4 rfl) ?_
          refine lv_lshl (v := (jLshl (1 : Int64) i5)) hx hb dX4_part_36 rfl ?_
          refine lv_goto (tgt := 41) hx hb dX4_part_37 (by decide) ?_
          refine lv_lor hx hb dX4_part_41 ?_
          refine lv_lstore_n hx hb dX4_part_42 rfl hl (Nat.le_of_ble_eq_true rfl) rfl (fun ls hl => ?_)
          have hl : lv_has ls 6 [(3, .long (i3 ||| (jLshl (1 : Int64) i5))), (0, .ref m0), (1, .int p1), (2, .int p2), (5, .int i5)] := hl
          refine lv_iinc (v := (i5 + 1)) hx hb dX4_part_43 hl (k := 4) rfl (by rw [show Int32.ofInt 1 = 1 from by decide]) (Nat.le_of_ble_eq_true rfl) rfl (fun ls hl => ?_)
          have hl : lv_has ls 6 [(5, .int (i5 + 1)), (3, .long (i3 ||| (jLshl (1 : Int64) i5))), (0, .ref m0), (1, .int p1), (2, .int p2)] := hl
          refine lv_goto (tgt := 5) hx hb dX4_part_46 (by decide) ?_
          have hl := lv_sub (l' := [(0, .ref m0), (1, .int p1), (2, .int p2), (3, .long (i3 ||| (jLshl (1 : Int64) i5))), (5, .int (i5 + 1))]) hl [2, 3, 4, 1, 0] rfl
          exact ih _ _ ls hl h
  refine lv_lconst (v := 0) hx hb dX4_part_0 (by decide) ?_
  refine lv_lstore_n hx hb dX4_part_1 rfl hl (Nat.le_of_ble_eq_true rfl) rfl (fun ls hl => ?_)
  have hl : lv_has ls 6 [(3, .long (0 : Int64)), (0, .ref m0), (1, .int p1), (2, .int p2)] := hl
  refine lv_iconst (v := 0) hx hb dX4_part_2 (by decide) ?_
  refine lv_istore hx hb dX4_part_3 hl (Nat.le_of_ble_eq_true rfl) rfl (fun ls hl => ?_)
  have hl : lv_has ls 6 [(5, .int (0 : Int32)), (3, .long (0 : Int64)), (0, .ref m0), (1, .int p1), (2, .int p2)] := hl
  have hl := lv_sub (l' := [(0, .ref m0), (1, .int p1), (2, .int p2), (3, .long (0 : Int64)), (5, .int (0 : Int32))]) hl [2, 3, 4, 1, 0] rfl
  obtain ⟨nF, h⟩ := h
  refine loop5 _ trivial ?_ nF (0 : Int64) (0 : Int32) _ hl h
  · intro i3 i5 ls hl h
    refine lv_lload_n hx hb dX4_part_49 rfl (lv_at hl 3 rfl) ?_
    exact W.lret (v := i3) hx hb hr (fun t ht _ => ⟨_, rfl, h, ht⟩) (fun _ hq => absurd hq List.not_mem_nil) dX4_part_50
theorem dX4_alikeNow_0 : decode cX4_alikeNow 0 = .ok (.aload_n 0, 1) := by decide +kernel
theorem dX4_alikeNow_1 : decode cX4_alikeNow 1 = .ok (.getfield 9, 3) := by decide +kernel
theorem dX4_alikeNow_4 : decode cX4_alikeNow 4 = .ok (.iload_n 2, 1) := by decide +kernel
theorem dX4_alikeNow_5 : decode cX4_alikeNow 5 = .ok (.invokestatic 58, 3) := by decide +kernel
theorem dX4_alikeNow_8 : decode cX4_alikeNow 8 = .ok (.ifCond .eq 17, 3) := by decide +kernel
theorem dX4_alikeNow_11 : decode cX4_alikeNow 11 = .ok (.aload_n 0, 1) := by decide +kernel
theorem dX4_alikeNow_12 : decode cX4_alikeNow 12 = .ok (.iload_n 1, 1) := by decide +kernel
theorem dX4_alikeNow_13 : decode cX4_alikeNow 13 = .ok (.iload_n 2, 1) := by decide +kernel
theorem dX4_alikeNow_14 : decode cX4_alikeNow 14 = .ok (.invokevirtual 62, 3) := by decide +kernel
theorem dX4_alikeNow_17 : decode cX4_alikeNow 17 = .ok (.aload_n 0, 1) := by decide +kernel
theorem dX4_alikeNow_18 : decode cX4_alikeNow 18 = .ok (.getfield 9, 3) := by decide +kernel
theorem dX4_alikeNow_21 : decode cX4_alikeNow 21 = .ok (.land, 1) := by decide +kernel
theorem dX4_alikeNow_22 : decode cX4_alikeNow 22 = .ok (.goto 4, 3) := by decide +kernel
theorem dX4_alikeNow_25 : decode cX4_alikeNow 25 = .ok (.lconst 0, 1) := by decide +kernel
theorem dX4_alikeNow_26 : decode cX4_alikeNow 26 = .ok (.lreturn, 1) := by decide +kernel
def wX4_alikeNow (post : Int64 → Prop) (po : Int64) (DD : Nat → Nat → Int32) (p1 : Int32) (p2 : Int32) : Prop :=
  wX4_has_ (fun r_1 : Int32 =>
    ((r_1 = 0) →
      post (0 : Int64)
    ) ∧ (¬ (r_1 = 0) →
      wX4_part (fun r_2 : Int64 =>
        post (r_2 &&& po)
        ) DD p1 p2
    )
    ) po p2
abbrev wl_X4_alikeNow : List Cond := .code yX4_alikeNow cX4_alikeNow 3 (some .long) :: lwg
abbrev rm_X4_alikeNow : Room := { frames := 1, cells := 0, slots := 0, locals := 25 }
set_option maxHeartbeats 4000000 in
set_option maxRecDepth 100000 in
theorem kX4_alikeNow {post : Int64 → Prop} (l : Launch) (G : GT) (m0 : Nat) (dO : Nat) (sl : Nat) (ct0 : Nat) (st0 : Nat) (fs0 : Nat) (jn0 : Nat) (rw0 : Nat) (fd0 : Nat) (af0 : Nat) (kO : Nat) (dr : Nat → Nat) (kr : Nat → Nat) (sa : Nat → Nat) (th : Int32) (mr : Int32) (po : Int64) (mf : Int32) (sp : Int32) (DD : Nat → Nat → Int32) (ctf : Nat → Int32) (stf : Nat → Int32) (fsf : Nat → Int32) (jnf : Nat → Int32) (rwf : Nat → Int32) (fdf : Nat → Int64) (aff : Nat → Int32) (KP : Nat → Nat → Int32) (sn : Nat) (sq : Nat → Nat → Int32) (p1 : Int32) (p2 : Int32) (h : wX4_alikeNow post po DD p1 p2) : Met l yX4_alikeNow wl_X4_alikeNow rm_X4_alikeNow (va_Pc [.ref m0, .int p1, .int p2] (fun U => PP G [(m0, .inr (7, [.int th, .int mr, .long po, .ref dO, .ref sl, .ref ct0, .int mf, .int sp, .ref st0, .ref fs0, .ref jn0, .ref rw0, .ref fd0, .ref af0, .ref kO])), (dO, .inl (G.2 4, 6, .inr (.inr (.inr (.inr (fun k => if k < 6 then some (dr k) else none)))))), (dr 0, .inl (G.2 0, 64, .inl (DD 0))), (dr 1, .inl (G.2 0, 64, .inl (DD 1))), (dr 2, .inl (G.2 0, 64, .inl (DD 2))), (dr 3, .inl (G.2 0, 64, .inl (DD 3))), (dr 4, .inl (G.2 0, 64, .inl (DD 4))), (dr 5, .inl (G.2 0, 64, .inl (DD 5))), (ct0, .inl (G.2 0, 6, .inl ctf)), (st0, .inl (G.2 0, 4096, .inl stf)), (fs0, .inl (G.2 0, 4096, .inl fsf)), (jn0, .inl (G.2 0, 64, .inl jnf)), (rw0, .inl (G.2 0, 64, .inl rwf)), (fd0, .inl (G.2 1, 40, .inr (.inl fdf))), (af0, .inl (G.2 3, 40, .inl aff)), (kO, .inl (G.2 4, 4, .inr (.inr (.inr (.inr (fun k => if k < 4 then some (kr k) else none)))))), (kr 0, .inl (G.2 0, 64, .inl (KP 0))), (kr 1, .inl (G.2 0, 64, .inl (KP 1))), (kr 2, .inl (G.2 0, 64, .inl (KP 2))), (kr 3, .inl (G.2 0, 64, .inl (KP 3)))] U.heap ∧ KK G U)) (vp_Sl post) 0 0 (fun _ => False) := by
  refine Met.ofW (cc := cX4_alikeNow) (maxL := 3) (ret := (some .long)) (by decide) rfl ?_
  intro p e s m args below meth c s₁ B hml hv
  obtain ⟨rfl, hP, hKK⟩ := hv
  obtain ⟨hK, hN, hR, hFW, hNC⟩ := id hKK
  have hx := B.exec
  have hb := B.bytes
  have hr := B.returns
  have hts0 := atoms_spec (ws := wl_X4_alikeNow) B.pre
  have hts : ∀ w ∈ lwg, w.before ([.ref m0, .int p1, .int p2] : List Value).toArray s = true := fun w hw => hts0 w (List.mem_cons_of_mem _ hw)
  have hown : s.vm.findClass RX4 = some m.cls := findClass_of_methodNamed B.named
  have hlocks := B.notSynchronized
  have hP : PP G [(m0, .inr (7, [.int th, .int mr, .long po, .ref dO, .ref sl, .ref ct0, .int mf, .int sp, .ref st0, .ref fs0, .ref jn0, .ref rw0, .ref fd0, .ref af0, .ref kO])), (dO, .inl (G.2 4, 6, .inr (.inr (.inr (.inr (fun k => if k < 6 then some (dr k) else none)))))), (dr 0, .inl (G.2 0, 64, .inl (DD 0))), (dr 1, .inl (G.2 0, 64, .inl (DD 1))), (dr 2, .inl (G.2 0, 64, .inl (DD 2))), (dr 3, .inl (G.2 0, 64, .inl (DD 3))), (dr 4, .inl (G.2 0, 64, .inl (DD 4))), (dr 5, .inl (G.2 0, 64, .inl (DD 5))), (ct0, .inl (G.2 0, 6, .inl ctf)), (st0, .inl (G.2 0, 4096, .inl stf)), (fs0, .inl (G.2 0, 4096, .inl fsf)), (jn0, .inl (G.2 0, 64, .inl jnf)), (rw0, .inl (G.2 0, 64, .inl rwf)), (fd0, .inl (G.2 1, 40, .inr (.inl fdf))), (af0, .inl (G.2 3, 40, .inl aff)), (kO, .inl (G.2 4, 4, .inr (.inr (.inr (.inr (fun k => if k < 4 then some (kr k) else none)))))), (kr 0, .inl (G.2 0, 64, .inl (KP 0))), (kr 1, .inl (G.2 0, 64, .inl (KP 1))), (kr 2, .inl (G.2 0, 64, .inl (KP 2))), (kr 3, .inl (G.2 0, 64, .inl (KP 3)))] s.heap := hP
  have hl := lv_entry ([.ref m0, .int p1, .int p2]) (n := 3) (Nat.le_of_ble_eq_true rfl)
  rw [lg_entry_eq]
  generalize (lg_sl ([.ref m0, .int p1, .int p2]) ++ List.replicate (3 - (lg_sl ([.ref m0, .int p1, .int p2])).length) Slot.unset).toArray = ls at hl ⊢
  have hl : lv_has ls 3 [(0, .ref m0), (1, .int p1), (2, .int p2)] := hl
  refine lv_aload_n hx hb dX4_alikeNow_0 rfl (lv_at hl 0 rfl) ?_
  refine va_get (D := G.1) (ci := 7) (v := .long po) (C := RX4) (T := TX4) (N := 15) hx hb hts igX4 hown hK hP 0 rfl rfl 2 (by decide) (hts _ q1007) (fun _ h9 => h9) rfl dX4_alikeNow_1 ?_
  refine lv_iload_n hx hb dX4_alikeNow_4 rfl (lv_at hl 2 rfl) ?_
  have hPc := va_P.sub (ws' := []) hP [] rfl
  refine rdI (va_runS (As := [.long po, .int p2]) (rest := []) ⟨hx, hb, hml, hown, hts⟩ (kX4_has_ l G po p2 h) (va_cwS 2 hts (gdS q1122 q1123 q6 q1124) rfl rfl rfl (by decide +kernel) ⟨Nat.le_of_ble_eq_true rfl, Nat.le_of_ble_eq_true rfl⟩) (preS hPc hKK) rfl rfl hl.1 rfl (lv_room (Nat.le_of_ble_eq_true rfl)) dX4_alikeNow_5 ⟨Nat.zero_le _, Nat.zero_le _⟩) (fun r_1 h => ?_)
  refine lv_if_eq (tgt := 25) hx hb dX4_alikeNow_8 (by decide) (fun hc => ?_) (fun hc => ?_)
  · have h := h.1 hc
    refine lv_lconst (v := 0) hx hb dX4_alikeNow_25 (by decide) ?_
    exact W.lret (v := (0 : Int64)) hx hb hr (fun t ht _ => ⟨_, rfl, h, ht⟩) (fun _ hq => absurd hq List.not_mem_nil) dX4_alikeNow_26
  · have h := h.2 hc
    refine lv_aload_n hx hb dX4_alikeNow_11 rfl (lv_at hl 0 rfl) ?_
    refine lv_iload_n hx hb dX4_alikeNow_12 rfl (lv_at hl 1 rfl) ?_
    refine lv_iload_n hx hb dX4_alikeNow_13 rfl (lv_at hl 2 rfl) ?_
    have hPc := hP
    refine rdL (va_runV (C := RX4) (As := [.int p1, .int p2]) (rest := []) ⟨hx, hb, hml, hown, hts⟩ (kX4_part l G m0 dO sl ct0 st0 fs0 jn0 rw0 fd0 af0 kO dr kr sa th mr po mf sp DD ctf stf fsf jnf rwf fdf aff KP sn sq p1 p2 h) (cwV 2 hts (gdV q1223 q1225 qs27 q6 q1226) rfl rfl rfl (by decide +kernel) ⟨Nat.le_of_ble_eq_true rfl, Nat.le_of_ble_eq_true rfl⟩) (preV hPc hKK (va_recv hK hPc (ci := 7) (q0 := 0) rfl rfl)) rfl rfl hl.1 rfl (lv_room (Nat.le_of_ble_eq_true rfl)) dX4_alikeNow_14 ⟨Nat.zero_le _, Nat.zero_le _⟩) (fun r_2 h => ?_)
    refine lv_aload_n hx hb dX4_alikeNow_17 rfl (lv_at hl 0 rfl) ?_
    refine va_get (D := G.1) (ci := 7) (v := .long po) (C := RX4) (T := TX4) (N := 15) hx hb hts igX4 hown hK hP 0 rfl rfl 2 (by decide) (hts _ q1007) (fun _ h9 => h9) rfl dX4_alikeNow_18 ?_
    refine lv_land hx hb dX4_alikeNow_21 ?_
    refine lv_goto (tgt := 26) hx hb dX4_alikeNow_22 (by decide) ?_
    exact W.lret (v := (r_2 &&& po)) hx hb hr (fun t ht _ => ⟨_, rfl, h, ht⟩) (fun _ hq => absurd hq List.not_mem_nil) dX4_alikeNow_26
theorem dX4_known__0 : decode cX4_known_ 0 = .ok (.lconst 0, 1) := by decide +kernel
theorem dX4_known__1 : decode cX4_known_ 1 = .ok (.lstore 4, 2) := by decide +kernel
theorem dX4_known__3 : decode cX4_known_ 3 = .ok (.iconst 0, 1) := by decide +kernel
theorem dX4_known__4 : decode cX4_known_ 4 = .ok (.istore 6, 2) := by decide +kernel
theorem dX4_known__6 : decode cX4_known_ 6 = .ok (.iload 6, 2) := by decide +kernel
theorem dX4_known__8 : decode cX4_known_ 8 = .ok (.bipush 64, 2) := by decide +kernel
theorem dX4_known__10 : decode cX4_known_ 10 = .ok (.if_icmp .ge 38, 3) := by decide +kernel
theorem dX4_known__13 : decode cX4_known_ 13 = .ok (.aload_n 0, 1) := by decide +kernel
theorem dX4_known__14 : decode cX4_known_ 14 = .ok (.getfield 9, 3) := by decide +kernel
theorem dX4_known__17 : decode cX4_known_ 17 = .ok (.lload_n 2, 1) := by decide +kernel
theorem dX4_known__18 : decode cX4_known_ 18 = .ok (.ldc2_w 7, 3) := by decide +kernel
theorem dX4_known__21 : decode cX4_known_ 21 = .ok (.lxor, 1) := by decide +kernel
theorem dX4_known__22 : decode cX4_known_ 22 = .ok (.land, 1) := by decide +kernel
theorem dX4_known__23 : decode cX4_known_ 23 = .ok (.iload 6, 2) := by decide +kernel
theorem dX4_known__25 : decode cX4_known_ 25 = .ok (.invokestatic 58, 3) := by decide +kernel
theorem dX4_known__28 : decode cX4_known_ 28 = .ok (.ifCond .eq 14, 3) := by decide +kernel
theorem dX4_known__31 : decode cX4_known_ 31 = .ok (.lload 4, 2) := by decide +kernel
theorem dX4_known__33 : decode cX4_known_ 33 = .ok (.lconst 1, 1) := by decide +kernel
theorem dX4_known__34 : decode cX4_known_ 34 = .ok (.aload_n 1, 1) := by decide +kernel
theorem dX4_known__35 : decode cX4_known_ 35 = .ok (.iload 6, 2) := by decide +kernel
theorem dX4_known__37 : decode cX4_known_ 37 = .ok (.iaload, 1) := by decide +kernel
theorem dX4_known__38 : decode cX4_known_ 38 = .ok (.lshl, 1) := by decide +kernel
theorem dX4_known__39 : decode cX4_known_ 39 = .ok (.lor, 1) := by decide +kernel
theorem dX4_known__40 : decode cX4_known_ 40 = .ok (.lstore 4, 2) := by decide +kernel
theorem dX4_known__42 : decode cX4_known_ 42 = .ok (.iinc 6 1, 3) := by decide +kernel
theorem dX4_known__45 : decode cX4_known_ 45 = .ok (.goto (-39), 3) := by decide +kernel
theorem dX4_known__48 : decode cX4_known_ 48 = .ok (.lconst 0, 1) := by decide +kernel
theorem dX4_known__49 : decode cX4_known_ 49 = .ok (.lstore 6, 2) := by decide +kernel
theorem dX4_known__51 : decode cX4_known_ 51 = .ok (.iconst 0, 1) := by decide +kernel
theorem dX4_known__52 : decode cX4_known_ 52 = .ok (.istore 8, 2) := by decide +kernel
theorem dX4_known__54 : decode cX4_known_ 54 = .ok (.iload 8, 2) := by decide +kernel
theorem dX4_known__56 : decode cX4_known_ 56 = .ok (.bipush 64, 2) := by decide +kernel
theorem dX4_known__58 : decode cX4_known_ 58 = .ok (.if_icmp .ge 42, 3) := by decide +kernel
theorem dX4_known__61 : decode cX4_known_ 61 = .ok (.aload_n 0, 1) := by decide +kernel
theorem dX4_known__62 : decode cX4_known_ 62 = .ok (.getfield 9, 3) := by decide +kernel
theorem dX4_known__65 : decode cX4_known_ 65 = .ok (.iload 8, 2) := by decide +kernel
theorem dX4_known__67 : decode cX4_known_ 67 = .ok (.invokestatic 58, 3) := by decide +kernel
theorem dX4_known__70 : decode cX4_known_ 70 = .ok (.ifCond .eq 24, 3) := by decide +kernel
theorem dX4_known__73 : decode cX4_known_ 73 = .ok (.lload 4, 2) := by decide +kernel
theorem dX4_known__75 : decode cX4_known_ 75 = .ok (.aload_n 1, 1) := by decide +kernel
theorem dX4_known__76 : decode cX4_known_ 76 = .ok (.iload 8, 2) := by decide +kernel
theorem dX4_known__78 : decode cX4_known_ 78 = .ok (.iaload, 1) := by decide +kernel
theorem dX4_known__79 : decode cX4_known_ 79 = .ok (.invokestatic 58, 3) := by decide +kernel
theorem dX4_known__82 : decode cX4_known_ 82 = .ok (.ifCond .ne 12, 3) := by decide +kernel
theorem dX4_known__85 : decode cX4_known_ 85 = .ok (.lload 6, 2) := by decide +kernel
theorem dX4_known__87 : decode cX4_known_ 87 = .ok (.lconst 1, 1) := by decide +kernel
theorem dX4_known__88 : decode cX4_known_ 88 = .ok (.iload 8, 2) := by decide +kernel
theorem dX4_known__90 : decode cX4_known_ 90 = .ok (.lshl, 1) := by decide +kernel
theorem dX4_known__91 : decode cX4_known_ 91 = .ok (.lor, 1) := by decide +kernel
theorem dX4_known__92 : decode cX4_known_ 92 = .ok (.lstore 6, 2) := by decide +kernel
theorem dX4_known__94 : decode cX4_known_ 94 = .ok (.iinc 8 1, 3) := by decide +kernel
theorem dX4_known__97 : decode cX4_known_ 97 = .ok (.goto (-43), 3) := by decide +kernel
theorem dX4_known__100 : decode cX4_known_ 100 = .ok (.lload 6, 2) := by decide +kernel
theorem dX4_known__102 : decode cX4_known_ 102 = .ok (.lreturn, 1) := by decide +kernel
def wX4_known_D_L6 (post : Int64 → Prop) (K48 : Int64 → Int32 → Prop) (po : Int64) (DD : Nat → Nat → Int32) (g : Nat) (p2 : Int64) : Nat → Int64 → Int32 → Prop
  | 0, _, _ => False
  | n+1, i4, i6 =>
    (((64 : Int32) ≤ i6) →
      K48 i4 i6
    ) ∧ (¬ ((64 : Int32) ≤ i6) →
      wX4_has_ (fun r_1 : Int32 =>
        ((r_1 = 0) →
          wX4_known_D_L6 post K48 po DD g p2 n i4 (i6 + 1)
        ) ∧ (¬ (r_1 = 0) →
          vp_in i6 64 ∧
          ∀ x_1 : Int64, x_1 = (i4 ||| (jLshl (1 : Int64) (DD g i6.toNatClampNeg))) →
          wX4_known_D_L6 post K48 po DD g p2 n x_1 (i6 + 1)
        )
        ) (po &&& (p2 ^^^ (-1 : Int64))) i6
    )
def wX4_known_D_L54 (post : Int64 → Prop) (K100 : Int64 → Int32 → Prop) (po : Int64) (DD : Nat → Nat → Int32) (g : Nat) (i4 : Int64) : Nat → Int64 → Int32 → Prop
  | 0, _, _ => False
  | n+1, i6', i8 =>
    (((64 : Int32) ≤ i8) →
      K100 i6' i8
    ) ∧ (¬ ((64 : Int32) ≤ i8) →
      wX4_has_ (fun r_2 : Int32 =>
        ((r_2 = 0) →
          wX4_known_D_L54 post K100 po DD g i4 n i6' (i8 + 1)
        ) ∧ (¬ (r_2 = 0) →
          vp_in i8 64 ∧
          wX4_has_ (fun r_3 : Int32 =>
            ((¬ r_3 = 0) →
              wX4_known_D_L54 post K100 po DD g i4 n i6' (i8 + 1)
            ) ∧ ((r_3 = 0) →
              wX4_known_D_L54 post K100 po DD g i4 n (i6' ||| (jLshl (1 : Int64) i8)) (i8 + 1)
            )
            ) i4 (DD g i8.toNatClampNeg)
        )
        ) po i8
    )
def wX4_known_D (post : Int64 → Prop) (g : Nat) (po : Int64) (DD : Nat → Nat → Int32) (p2 : Int64) : Prop :=
  ∃ nF, wX4_known_D_L6 post
    (fun i4 i6 =>
      ∃ nF, wX4_known_D_L54 post
        (fun i6' i8 =>
          post i6'
        )
        po DD g i4 nF (0 : Int64) (0 : Int32)
    )
    po DD g p2 nF (0 : Int64) (0 : Int32)
abbrev wl_X4_known_D : List Cond := .code yX4_known_ cX4_known_ 9 (some .long) :: lwg
abbrev rm_X4_known_D : Room := { frames := 1, cells := 0, slots := 0, locals := 22 }
set_option maxHeartbeats 4000000 in
set_option maxRecDepth 100000 in
theorem kX4_known_D {post : Int64 → Prop} (l : Launch) (G : GT) (m0 : Nat) (dO : Nat) (sl : Nat) (ct0 : Nat) (st0 : Nat) (fs0 : Nat) (jn0 : Nat) (rw0 : Nat) (fd0 : Nat) (af0 : Nat) (kO : Nat) (dr : Nat → Nat) (kr : Nat → Nat) (sa : Nat → Nat) (g : Nat) (th : Int32) (mr : Int32) (po : Int64) (mf : Int32) (sp : Int32) (DD : Nat → Nat → Int32) (ctf : Nat → Int32) (stf : Nat → Int32) (fsf : Nat → Int32) (jnf : Nat → Int32) (rwf : Nat → Int32) (fdf : Nat → Int64) (aff : Nat → Int32) (KP : Nat → Nat → Int32) (sn : Nat) (sq : Nat → Nat → Int32) (p2 : Int64) (hg : g < 6) (h : wX4_known_D post g po DD p2) : Met l yX4_known_ wl_X4_known_D rm_X4_known_D (va_Pc [.ref m0, .ref (dr g), .long p2] (fun U => PP G [(m0, .inr (7, [.int th, .int mr, .long po, .ref dO, .ref sl, .ref ct0, .int mf, .int sp, .ref st0, .ref fs0, .ref jn0, .ref rw0, .ref fd0, .ref af0, .ref kO])), (dO, .inl (G.2 4, 6, .inr (.inr (.inr (.inr (fun k => if k < 6 then some (dr k) else none)))))), (dr 0, .inl (G.2 0, 64, .inl (DD 0))), (dr 1, .inl (G.2 0, 64, .inl (DD 1))), (dr 2, .inl (G.2 0, 64, .inl (DD 2))), (dr 3, .inl (G.2 0, 64, .inl (DD 3))), (dr 4, .inl (G.2 0, 64, .inl (DD 4))), (dr 5, .inl (G.2 0, 64, .inl (DD 5))), (ct0, .inl (G.2 0, 6, .inl ctf)), (st0, .inl (G.2 0, 4096, .inl stf)), (fs0, .inl (G.2 0, 4096, .inl fsf)), (jn0, .inl (G.2 0, 64, .inl jnf)), (rw0, .inl (G.2 0, 64, .inl rwf)), (fd0, .inl (G.2 1, 40, .inr (.inl fdf))), (af0, .inl (G.2 3, 40, .inl aff)), (kO, .inl (G.2 4, 4, .inr (.inr (.inr (.inr (fun k => if k < 4 then some (kr k) else none)))))), (kr 0, .inl (G.2 0, 64, .inl (KP 0))), (kr 1, .inl (G.2 0, 64, .inl (KP 1))), (kr 2, .inl (G.2 0, 64, .inl (KP 2))), (kr 3, .inl (G.2 0, 64, .inl (KP 3)))] U.heap ∧ KK G U)) (vp_Sl post) 0 0 (fun _ => False) := by
  refine Met.ofW (cc := cX4_known_) (maxL := 9) (ret := (some .long)) (by decide) rfl ?_
  intro p e s m args below meth c s₁ B hml hv
  obtain ⟨rfl, hP, hKK⟩ := hv
  obtain ⟨hK, hN, hR, hFW, hNC⟩ := id hKK
  have hx := B.exec
  have hb := B.bytes
  have hr := B.returns
  have hts0 := atoms_spec (ws := wl_X4_known_D) B.pre
  have hts : ∀ w ∈ lwg, w.before ([.ref m0, .ref (dr g), .long p2] : List Value).toArray s = true := fun w hw => hts0 w (List.mem_cons_of_mem _ hw)
  have hown : s.vm.findClass RX4 = some m.cls := findClass_of_methodNamed B.named
  have hlocks := B.notSynchronized
  have hP : PP G [(m0, .inr (7, [.int th, .int mr, .long po, .ref dO, .ref sl, .ref ct0, .int mf, .int sp, .ref st0, .ref fs0, .ref jn0, .ref rw0, .ref fd0, .ref af0, .ref kO])), (dO, .inl (G.2 4, 6, .inr (.inr (.inr (.inr (fun k => if k < 6 then some (dr k) else none)))))), (dr 0, .inl (G.2 0, 64, .inl (DD 0))), (dr 1, .inl (G.2 0, 64, .inl (DD 1))), (dr 2, .inl (G.2 0, 64, .inl (DD 2))), (dr 3, .inl (G.2 0, 64, .inl (DD 3))), (dr 4, .inl (G.2 0, 64, .inl (DD 4))), (dr 5, .inl (G.2 0, 64, .inl (DD 5))), (ct0, .inl (G.2 0, 6, .inl ctf)), (st0, .inl (G.2 0, 4096, .inl stf)), (fs0, .inl (G.2 0, 4096, .inl fsf)), (jn0, .inl (G.2 0, 64, .inl jnf)), (rw0, .inl (G.2 0, 64, .inl rwf)), (fd0, .inl (G.2 1, 40, .inr (.inl fdf))), (af0, .inl (G.2 3, 40, .inl aff)), (kO, .inl (G.2 4, 4, .inr (.inr (.inr (.inr (fun k => if k < 4 then some (kr k) else none)))))), (kr 0, .inl (G.2 0, 64, .inl (KP 0))), (kr 1, .inl (G.2 0, 64, .inl (KP 1))), (kr 2, .inl (G.2 0, 64, .inl (KP 2))), (kr 3, .inl (G.2 0, 64, .inl (KP 3)))] s.heap := hP
  have hl := lv_entry ([.ref m0, .ref (dr g), .long p2]) (n := 9) (Nat.le_of_ble_eq_true rfl)
  rw [lg_entry_eq]
  generalize (lg_sl ([.ref m0, .ref (dr g), .long p2]) ++ List.replicate (9 - (lg_sl ([.ref m0, .ref (dr g), .long p2])).length) Slot.unset).toArray = ls at hl ⊢
  have hl : lv_has ls 9 [(0, .ref m0), (1, .ref (dr g)), (2, .long p2)] := hl
  have loop6 : ∀ (K48 : Int64 → Int32 → Prop), True → (∀ (i4 : Int64) (i6 : Int32) (ls : Array Slot), lv_has ls 9 [(0, .ref m0), (1, .ref (dr g)), (2, .long p2), (4, .long i4), (6, .int i6)] → K48 i4 i6 → W p l e (headSpec (wl_X4_known_D) rm_X4_known_D).room s m ([.ref m0, .ref (dr g), .long p2] : List Value).toArray below meth c s.heap [] 0 0 (MQ below (vp_Sl post) ([.ref m0, .ref (dr g), .long p2] : List Value).toArray s 0 0 (fun _ => False)) (F0 m 48 ls [])) → ∀ (n : Nat) (i4 : Int64) (i6 : Int32) (ls : Array Slot), lv_has ls 9 [(0, .ref m0), (1, .ref (dr g)), (2, .long p2), (4, .long i4), (6, .int i6)] → wX4_known_D_L6 post K48 po DD g p2 n i4 i6 → W p l e (headSpec (wl_X4_known_D) rm_X4_known_D).room s m ([.ref m0, .ref (dr g), .long p2] : List Value).toArray below meth c s.heap [] 0 0 (MQ below (vp_Sl post) ([.ref m0, .ref (dr g), .long p2] : List Value).toArray s 0 0 (fun _ => False)) (F0 m 6 ls []) := by
    intro K48 _ hexit48 n
    induction n with
    | zero => intro i4 i6 ls hl h; exact False.elim h
    | succ n ih =>
      intro i4 i6 ls hl h
      refine lv_iload hx hb dX4_known__6 (lv_at hl 4 rfl) ?_
      refine lv_bipush (v := 64) hx hb dX4_known__8 (by decide) ?_
      refine lv_icmp_ge (tgt := 48) hx hb dX4_known__10 (by decide) (fun hc => ?_) (fun hc => ?_)
      · have h := h.1 hc
        have hl := lv_sub (l' := [(0, .ref m0), (1, .ref (dr g)), (2, .long p2), (4, .long i4), (6, .int i6)]) hl [0, 1, 2, 3, 4] rfl
        exact hexit48 _ _ ls hl h
      · have h := h.2 hc
        refine lv_aload_n hx hb dX4_known__13 rfl (lv_at hl 0 rfl) ?_
        refine va_get (D := G.1) (ci := 7) (v := .long po) (C := RX4) (T := TX4) (N := 15) hx hb hts igX4 hown hK hP 0 rfl rfl 2 (by decide) (hts _ q1007) (fun _ h9 => h9) rfl dX4_known__14 ?_
        refine lv_lload_n hx hb dX4_known__17 rfl (lv_at hl 2 rfl) ?_
        refine lv_ldc2 hx hb hown (hts _ q976) dX4_known__18 ?_
        refine lv_lxor hx hb dX4_known__21 ?_
        refine lv_land hx hb dX4_known__22 ?_
        refine lv_iload hx hb dX4_known__23 (lv_at hl 4 rfl) ?_
        have hPc := va_P.sub (ws' := []) hP [] rfl
        refine rdI (va_runS (As := [.long (po &&& (p2 ^^^ (-1 : Int64))), .int i6]) (rest := []) ⟨hx, hb, hml, hown, hts⟩ (kX4_has_ l G (po &&& (p2 ^^^ (-1 : Int64))) i6 h) (va_cwS 2 hts (gdS q1122 q1123 q6 q1124) rfl rfl rfl (by decide +kernel) ⟨Nat.le_of_ble_eq_true rfl, Nat.le_of_ble_eq_true rfl⟩) (preS hPc hKK) rfl rfl hl.1 rfl (lv_room (Nat.le_of_ble_eq_true rfl)) dX4_known__25 ⟨Nat.zero_le _, Nat.zero_le _⟩) (fun r_1 h => ?_)
        refine lv_if_eq (tgt := 42) hx hb dX4_known__28 (by decide) (fun hc => ?_) (fun hc => ?_)
        · have h := h.1 hc
          refine lv_iinc (v := (i6 + 1)) hx hb dX4_known__42 hl (k := 4) rfl (by rw [show Int32.ofInt 1 = 1 from by decide]) (Nat.le_of_ble_eq_true rfl) rfl (fun ls hl => ?_)
          have hl : lv_has ls 9 [(6, .int (i6 + 1)), (0, .ref m0), (1, .ref (dr g)), (2, .long p2), (4, .long i4)] := hl
          refine lv_goto (tgt := 6) hx hb dX4_known__45 (by decide) ?_
          have hl := lv_sub (l' := [(0, .ref m0), (1, .ref (dr g)), (2, .long p2), (4, .long i4), (6, .int (i6 + 1))]) hl [1, 2, 3, 4, 0] rfl
          exact ih _ _ ls hl h
        · have h := h.2 hc
          refine lv_lload hx hb dX4_known__31 (lv_at hl 3 rfl) ?_
          refine lv_lconst (v := 1) hx hb dX4_known__33 (by decide) ?_
          refine lv_aload_n hx hb dX4_known__34 rfl (lv_at hl 1 rfl) ?_
          refine lv_iload hx hb dX4_known__35 (lv_at hl 4 rfl) ?_
          obtain ⟨hin, h⟩ := h
          refine va_iald (D := G.1) (f := DD g) hx hb hK hP (2 + g) 0 (famget6 (pre := [(m0, .inr (7, [.int th, .int mr, .long po, .ref dO, .ref sl, .ref ct0, .int mf, .int sp, .ref st0, .ref fs0, .ref jn0, .ref rw0, .ref fd0, .ref af0, .ref kO])), (dO, .inl (G.2 4, 6, .inr (.inr (.inr (.inr (fun k => if k < 6 then some (dr k) else none))))))]) (post := [(ct0, .inl (G.2 0, 6, .inl ctf)), (st0, .inl (G.2 0, 4096, .inl stf)), (fs0, .inl (G.2 0, 4096, .inl fsf)), (jn0, .inl (G.2 0, 64, .inl jnf)), (rw0, .inl (G.2 0, 64, .inl rwf)), (fd0, .inl (G.2 1, 40, .inr (.inl fdf))), (af0, .inl (G.2 3, 40, .inl aff)), (kO, .inl (G.2 4, 4, .inr (.inr (.inr (.inr (fun k => if k < 4 then some (kr k) else none)))))), (kr 0, .inl (G.2 0, 64, .inl (KP 0))), (kr 1, .inl (G.2 0, 64, .inl (KP 1))), (kr 2, .inl (G.2 0, 64, .inl (KP 2))), (kr 3, .inl (G.2 0, 64, .inl (KP 3)))]) (fun j => (dr j, .inl (G.2 0, 64, .inl (DD j)))) hg) rfl hin dX4_known__37 ?_
          refine lv_lshl (v := (jLshl (1 : Int64) (DD g i6.toNatClampNeg))) hx hb dX4_known__38 rfl ?_
          refine lv_lor hx hb dX4_known__39 ?_
          refine lv_topl (fun x_1 ex_1 => ?_)
          have h := h x_1 ex_1
          refine lv_lstore hx hb dX4_known__40 hl (Nat.le_of_ble_eq_true rfl) rfl (fun ls hl => ?_)
          have hl : lv_has ls 9 [(4, .long x_1), (0, .ref m0), (1, .ref (dr g)), (2, .long p2), (6, .int i6)] := hl
          refine lv_iinc (v := (i6 + 1)) hx hb dX4_known__42 hl (k := 4) rfl (by rw [show Int32.ofInt 1 = 1 from by decide]) (Nat.le_of_ble_eq_true rfl) rfl (fun ls hl => ?_)
          have hl : lv_has ls 9 [(6, .int (i6 + 1)), (4, .long x_1), (0, .ref m0), (1, .ref (dr g)), (2, .long p2)] := hl
          refine lv_goto (tgt := 6) hx hb dX4_known__45 (by decide) ?_
          have hl := lv_sub (l' := [(0, .ref m0), (1, .ref (dr g)), (2, .long p2), (4, .long x_1), (6, .int (i6 + 1))]) hl [2, 3, 4, 1, 0] rfl
          exact ih _ _ ls hl h
  have loop54 : ∀ (K100 : Int64 → Int32 → Prop) (i4 : Int64), True → (∀ (i6' : Int64) (i8 : Int32) (ls : Array Slot), lv_has ls 9 [(0, .ref m0), (1, .ref (dr g)), (2, .long p2), (4, .long i4), (6, .long i6'), (8, .int i8)] → K100 i6' i8 → W p l e (headSpec (wl_X4_known_D) rm_X4_known_D).room s m ([.ref m0, .ref (dr g), .long p2] : List Value).toArray below meth c s.heap [] 0 0 (MQ below (vp_Sl post) ([.ref m0, .ref (dr g), .long p2] : List Value).toArray s 0 0 (fun _ => False)) (F0 m 100 ls [])) → ∀ (n : Nat) (i6' : Int64) (i8 : Int32) (ls : Array Slot), lv_has ls 9 [(0, .ref m0), (1, .ref (dr g)), (2, .long p2), (4, .long i4), (6, .long i6'), (8, .int i8)] → wX4_known_D_L54 post K100 po DD g i4 n i6' i8 → W p l e (headSpec (wl_X4_known_D) rm_X4_known_D).room s m ([.ref m0, .ref (dr g), .long p2] : List Value).toArray below meth c s.heap [] 0 0 (MQ below (vp_Sl post) ([.ref m0, .ref (dr g), .long p2] : List Value).toArray s 0 0 (fun _ => False)) (F0 m 54 ls []) := by
    intro K100 i4 _ hexit100 n
    induction n with
    | zero => intro i6' i8 ls hl h; exact False.elim h
    | succ n ih =>
      intro i6' i8 ls hl h
      refine lv_iload hx hb dX4_known__54 (lv_at hl 5 rfl) ?_
      refine lv_bipush (v := 64) hx hb dX4_known__56 (by decide) ?_
      refine lv_icmp_ge (tgt := 100) hx hb dX4_known__58 (by decide) (fun hc => ?_) (fun hc => ?_)
      · have h := h.1 hc
        have hl := lv_sub (l' := [(0, .ref m0), (1, .ref (dr g)), (2, .long p2), (4, .long i4), (6, .long i6'), (8, .int i8)]) hl [0, 1, 2, 3, 4, 5] rfl
        exact hexit100 _ _ ls hl h
      · have h := h.2 hc
        refine lv_aload_n hx hb dX4_known__61 rfl (lv_at hl 0 rfl) ?_
        refine va_get (D := G.1) (ci := 7) (v := .long po) (C := RX4) (T := TX4) (N := 15) hx hb hts igX4 hown hK hP 0 rfl rfl 2 (by decide) (hts _ q1007) (fun _ h9 => h9) rfl dX4_known__62 ?_
        refine lv_iload hx hb dX4_known__65 (lv_at hl 5 rfl) ?_
        have hPc := va_P.sub (ws' := []) hP [] rfl
        refine rdI (va_runS (As := [.long po, .int i8]) (rest := []) ⟨hx, hb, hml, hown, hts⟩ (kX4_has_ l G po i8 h) (va_cwS 2 hts (gdS q1122 q1123 q6 q1124) rfl rfl rfl (by decide +kernel) ⟨Nat.le_of_ble_eq_true rfl, Nat.le_of_ble_eq_true rfl⟩) (preS hPc hKK) rfl rfl hl.1 rfl (lv_room (Nat.le_of_ble_eq_true rfl)) dX4_known__67 ⟨Nat.zero_le _, Nat.zero_le _⟩) (fun r_2 h => ?_)
        refine lv_if_eq (tgt := 94) hx hb dX4_known__70 (by decide) (fun hc => ?_) (fun hc => ?_)
        · have h := h.1 hc
          refine lv_iinc (v := (i8 + 1)) hx hb dX4_known__94 hl (k := 5) rfl (by rw [show Int32.ofInt 1 = 1 from by decide]) (Nat.le_of_ble_eq_true rfl) rfl (fun ls hl => ?_)
          have hl : lv_has ls 9 [(8, .int (i8 + 1)), (0, .ref m0), (1, .ref (dr g)), (2, .long p2), (4, .long i4), (6, .long i6')] := hl
          refine lv_goto (tgt := 54) hx hb dX4_known__97 (by decide) ?_
          have hl := lv_sub (l' := [(0, .ref m0), (1, .ref (dr g)), (2, .long p2), (4, .long i4), (6, .long i6'), (8, .int (i8 + 1))]) hl [1, 2, 3, 4, 5, 0] rfl
          exact ih _ _ ls hl h
        · have h := h.2 hc
          refine lv_lload hx hb dX4_known__73 (lv_at hl 3 rfl) ?_
          refine lv_aload_n hx hb dX4_known__75 rfl (lv_at hl 1 rfl) ?_
          refine lv_iload hx hb dX4_known__76 (lv_at hl 5 rfl) ?_
          obtain ⟨hin, h⟩ := h
          refine va_iald (D := G.1) (f := DD g) hx hb hK hP (2 + g) 0 (famget6 (pre := [(m0, .inr (7, [.int th, .int mr, .long po, .ref dO, .ref sl, .ref ct0, .int mf, .int sp, .ref st0, .ref fs0, .ref jn0, .ref rw0, .ref fd0, .ref af0, .ref kO])), (dO, .inl (G.2 4, 6, .inr (.inr (.inr (.inr (fun k => if k < 6 then some (dr k) else none))))))]) (post := [(ct0, .inl (G.2 0, 6, .inl ctf)), (st0, .inl (G.2 0, 4096, .inl stf)), (fs0, .inl (G.2 0, 4096, .inl fsf)), (jn0, .inl (G.2 0, 64, .inl jnf)), (rw0, .inl (G.2 0, 64, .inl rwf)), (fd0, .inl (G.2 1, 40, .inr (.inl fdf))), (af0, .inl (G.2 3, 40, .inl aff)), (kO, .inl (G.2 4, 4, .inr (.inr (.inr (.inr (fun k => if k < 4 then some (kr k) else none)))))), (kr 0, .inl (G.2 0, 64, .inl (KP 0))), (kr 1, .inl (G.2 0, 64, .inl (KP 1))), (kr 2, .inl (G.2 0, 64, .inl (KP 2))), (kr 3, .inl (G.2 0, 64, .inl (KP 3)))]) (fun j => (dr j, .inl (G.2 0, 64, .inl (DD j)))) hg) rfl hin dX4_known__78 ?_
          have hPc := va_P.sub (ws' := []) hP [] rfl
          refine rdI (va_runS (As := [.long i4, .int (DD g i8.toNatClampNeg)]) (rest := []) ⟨hx, hb, hml, hown, hts⟩ (kX4_has_ l G i4 (DD g i8.toNatClampNeg) h) (va_cwS 2 hts (gdS q1122 q1123 q6 q1124) rfl rfl rfl (by decide +kernel) ⟨Nat.le_of_ble_eq_true rfl, Nat.le_of_ble_eq_true rfl⟩) (preS hPc hKK) rfl rfl hl.1 rfl (lv_room (Nat.le_of_ble_eq_true rfl)) dX4_known__79 ⟨Nat.zero_le _, Nat.zero_le _⟩) (fun r_3 h => ?_)
          refine lv_if_ne (tgt := 94) hx hb dX4_known__82 (by decide) (fun hc => ?_) (fun hc => ?_)
          · have h := h.1 hc
            refine lv_iinc (v := (i8 + 1)) hx hb dX4_known__94 hl (k := 5) rfl (by rw [show Int32.ofInt 1 = 1 from by decide]) (Nat.le_of_ble_eq_true rfl) rfl (fun ls hl => ?_)
            have hl : lv_has ls 9 [(8, .int (i8 + 1)), (0, .ref m0), (1, .ref (dr g)), (2, .long p2), (4, .long i4), (6, .long i6')] := hl
            refine lv_goto (tgt := 54) hx hb dX4_known__97 (by decide) ?_
            have hl := lv_sub (l' := [(0, .ref m0), (1, .ref (dr g)), (2, .long p2), (4, .long i4), (6, .long i6'), (8, .int (i8 + 1))]) hl [1, 2, 3, 4, 5, 0] rfl
            exact ih _ _ ls hl h
          · have h := h.2 hc
            refine lv_lload hx hb dX4_known__85 (lv_at hl 4 rfl) ?_
            refine lv_lconst (v := 1) hx hb dX4_known__87 (by decide) ?_
            refine lv_iload hx hb dX4_known__88 (lv_at hl 5 rfl) ?_
            refine lv_lshl (v := (jLshl (1 : Int64) i8)) hx hb dX4_known__90 rfl ?_
            refine lv_lor hx hb dX4_known__91 ?_
            refine lv_lstore hx hb dX4_known__92 hl (Nat.le_of_ble_eq_true rfl) rfl (fun ls hl => ?_)
            have hl : lv_has ls 9 [(6, .long (i6' ||| (jLshl (1 : Int64) i8))), (0, .ref m0), (1, .ref (dr g)), (2, .long p2), (4, .long i4), (8, .int i8)] := hl
            refine lv_iinc (v := (i8 + 1)) hx hb dX4_known__94 hl (k := 5) rfl (by rw [show Int32.ofInt 1 = 1 from by decide]) (Nat.le_of_ble_eq_true rfl) rfl (fun ls hl => ?_)
            have hl : lv_has ls 9 [(8, .int (i8 + 1)), (6, .long (i6' ||| (jLshl (1 : Int64) i8))), (0, .ref m0), (1, .ref (dr g)), (2, .long p2), (4, .long i4)] := hl
            refine lv_goto (tgt := 54) hx hb dX4_known__97 (by decide) ?_
            have hl := lv_sub (l' := [(0, .ref m0), (1, .ref (dr g)), (2, .long p2), (4, .long i4), (6, .long (i6' ||| (jLshl (1 : Int64) i8))), (8, .int (i8 + 1))]) hl [2, 3, 4, 5, 1, 0] rfl
            exact ih _ _ ls hl h
  refine lv_lconst (v := 0) hx hb dX4_known__0 (by decide) ?_
  refine lv_lstore hx hb dX4_known__1 hl (Nat.le_of_ble_eq_true rfl) rfl (fun ls hl => ?_)
  have hl : lv_has ls 9 [(4, .long (0 : Int64)), (0, .ref m0), (1, .ref (dr g)), (2, .long p2)] := hl
  refine lv_iconst (v := 0) hx hb dX4_known__3 (by decide) ?_
  refine lv_istore hx hb dX4_known__4 hl (Nat.le_of_ble_eq_true rfl) rfl (fun ls hl => ?_)
  have hl : lv_has ls 9 [(6, .int (0 : Int32)), (4, .long (0 : Int64)), (0, .ref m0), (1, .ref (dr g)), (2, .long p2)] := hl
  have hl := lv_sub (l' := [(0, .ref m0), (1, .ref (dr g)), (2, .long p2), (4, .long (0 : Int64)), (6, .int (0 : Int32))]) hl [2, 3, 4, 1, 0] rfl
  obtain ⟨nF, h⟩ := h
  refine loop6 _ trivial ?_ nF (0 : Int64) (0 : Int32) _ hl h
  · intro i4 i6 ls hl h
    refine lv_lconst (v := 0) hx hb dX4_known__48 (by decide) ?_
    refine lv_lstore hx hb dX4_known__49 hl (Nat.le_of_ble_eq_true rfl) rfl (fun ls hl => ?_)
    have hl : lv_has ls 9 [(6, .long (0 : Int64)), (0, .ref m0), (1, .ref (dr g)), (2, .long p2), (4, .long i4)] := hl
    refine lv_iconst (v := 0) hx hb dX4_known__51 (by decide) ?_
    refine lv_istore hx hb dX4_known__52 hl (Nat.le_of_ble_eq_true rfl) rfl (fun ls hl => ?_)
    have hl : lv_has ls 9 [(8, .int (0 : Int32)), (6, .long (0 : Int64)), (0, .ref m0), (1, .ref (dr g)), (2, .long p2), (4, .long i4)] := hl
    have hl := lv_sub (l' := [(0, .ref m0), (1, .ref (dr g)), (2, .long p2), (4, .long i4), (6, .long (0 : Int64)), (8, .int (0 : Int32))]) hl [2, 3, 4, 5, 1, 0] rfl
    obtain ⟨nF, h⟩ := h
    refine loop54 _ i4 trivial ?_ nF (0 : Int64) (0 : Int32) _ hl h
    · intro i6' i8 ls hl h
      refine lv_lload hx hb dX4_known__100 (lv_at hl 4 rfl) ?_
      exact W.lret (v := i6') hx hb hr (fun t ht _ => ⟨_, rfl, h, ht⟩) (fun _ hq => absurd hq List.not_mem_nil) dX4_known__102
def wX4_known_R_L6 (post : Int64 → Prop) (K48 : Int64 → Int32 → Prop) (po : Int64) (rwf : Nat → Int32) (p2 : Int64) : Nat → Int64 → Int32 → Prop
  | 0, _, _ => False
  | n+1, i4, i6 =>
    (((64 : Int32) ≤ i6) →
      K48 i4 i6
    ) ∧ (¬ ((64 : Int32) ≤ i6) →
      wX4_has_ (fun r_1 : Int32 =>
        ((r_1 = 0) →
          wX4_known_R_L6 post K48 po rwf p2 n i4 (i6 + 1)
        ) ∧ (¬ (r_1 = 0) →
          vp_in i6 64 ∧
          ∀ x_1 : Int64, x_1 = (i4 ||| (jLshl (1 : Int64) (rwf i6.toNatClampNeg))) →
          wX4_known_R_L6 post K48 po rwf p2 n x_1 (i6 + 1)
        )
        ) (po &&& (p2 ^^^ (-1 : Int64))) i6
    )
def wX4_known_R_L54 (post : Int64 → Prop) (K100 : Int64 → Int32 → Prop) (po : Int64) (rwf : Nat → Int32) (i4 : Int64) : Nat → Int64 → Int32 → Prop
  | 0, _, _ => False
  | n+1, i6', i8 =>
    (((64 : Int32) ≤ i8) →
      K100 i6' i8
    ) ∧ (¬ ((64 : Int32) ≤ i8) →
      wX4_has_ (fun r_2 : Int32 =>
        ((r_2 = 0) →
          wX4_known_R_L54 post K100 po rwf i4 n i6' (i8 + 1)
        ) ∧ (¬ (r_2 = 0) →
          vp_in i8 64 ∧
          wX4_has_ (fun r_3 : Int32 =>
            ((¬ r_3 = 0) →
              wX4_known_R_L54 post K100 po rwf i4 n i6' (i8 + 1)
            ) ∧ ((r_3 = 0) →
              wX4_known_R_L54 post K100 po rwf i4 n (i6' ||| (jLshl (1 : Int64) i8)) (i8 + 1)
            )
            ) i4 (rwf i8.toNatClampNeg)
        )
        ) po i8
    )
def wX4_known_R (post : Int64 → Prop) (po : Int64) (rwf : Nat → Int32) (p2 : Int64) : Prop :=
  ∃ nF, wX4_known_R_L6 post
    (fun i4 i6 =>
      ∃ nF, wX4_known_R_L54 post
        (fun i6' i8 =>
          post i6'
        )
        po rwf i4 nF (0 : Int64) (0 : Int32)
    )
    po rwf p2 nF (0 : Int64) (0 : Int32)
abbrev wl_X4_known_R : List Cond := .code yX4_known_ cX4_known_ 9 (some .long) :: lwg
abbrev rm_X4_known_R : Room := { frames := 1, cells := 0, slots := 0, locals := 22 }
set_option maxHeartbeats 4000000 in
set_option maxRecDepth 100000 in
theorem kX4_known_R {post : Int64 → Prop} (l : Launch) (G : GT) (m0 : Nat) (dO : Nat) (sl : Nat) (ct0 : Nat) (st0 : Nat) (fs0 : Nat) (jn0 : Nat) (rw0 : Nat) (fd0 : Nat) (af0 : Nat) (kO : Nat) (dr : Nat → Nat) (kr : Nat → Nat) (sa : Nat → Nat) (th : Int32) (mr : Int32) (po : Int64) (mf : Int32) (sp : Int32) (DD : Nat → Nat → Int32) (ctf : Nat → Int32) (stf : Nat → Int32) (fsf : Nat → Int32) (jnf : Nat → Int32) (rwf : Nat → Int32) (fdf : Nat → Int64) (aff : Nat → Int32) (KP : Nat → Nat → Int32) (sn : Nat) (sq : Nat → Nat → Int32) (p2 : Int64) (h : wX4_known_R post po rwf p2) : Met l yX4_known_ wl_X4_known_R rm_X4_known_R (va_Pc [.ref m0, .ref rw0, .long p2] (fun U => PP G [(m0, .inr (7, [.int th, .int mr, .long po, .ref dO, .ref sl, .ref ct0, .int mf, .int sp, .ref st0, .ref fs0, .ref jn0, .ref rw0, .ref fd0, .ref af0, .ref kO])), (dO, .inl (G.2 4, 6, .inr (.inr (.inr (.inr (fun k => if k < 6 then some (dr k) else none)))))), (dr 0, .inl (G.2 0, 64, .inl (DD 0))), (dr 1, .inl (G.2 0, 64, .inl (DD 1))), (dr 2, .inl (G.2 0, 64, .inl (DD 2))), (dr 3, .inl (G.2 0, 64, .inl (DD 3))), (dr 4, .inl (G.2 0, 64, .inl (DD 4))), (dr 5, .inl (G.2 0, 64, .inl (DD 5))), (ct0, .inl (G.2 0, 6, .inl ctf)), (st0, .inl (G.2 0, 4096, .inl stf)), (fs0, .inl (G.2 0, 4096, .inl fsf)), (jn0, .inl (G.2 0, 64, .inl jnf)), (rw0, .inl (G.2 0, 64, .inl rwf)), (fd0, .inl (G.2 1, 40, .inr (.inl fdf))), (af0, .inl (G.2 3, 40, .inl aff)), (kO, .inl (G.2 4, 4, .inr (.inr (.inr (.inr (fun k => if k < 4 then some (kr k) else none)))))), (kr 0, .inl (G.2 0, 64, .inl (KP 0))), (kr 1, .inl (G.2 0, 64, .inl (KP 1))), (kr 2, .inl (G.2 0, 64, .inl (KP 2))), (kr 3, .inl (G.2 0, 64, .inl (KP 3)))] U.heap ∧ KK G U)) (vp_Sl post) 0 0 (fun _ => False) := by
  refine Met.ofW (cc := cX4_known_) (maxL := 9) (ret := (some .long)) (by decide) rfl ?_
  intro p e s m args below meth c s₁ B hml hv
  obtain ⟨rfl, hP, hKK⟩ := hv
  obtain ⟨hK, hN, hR, hFW, hNC⟩ := id hKK
  have hx := B.exec
  have hb := B.bytes
  have hr := B.returns
  have hts0 := atoms_spec (ws := wl_X4_known_R) B.pre
  have hts : ∀ w ∈ lwg, w.before ([.ref m0, .ref rw0, .long p2] : List Value).toArray s = true := fun w hw => hts0 w (List.mem_cons_of_mem _ hw)
  have hown : s.vm.findClass RX4 = some m.cls := findClass_of_methodNamed B.named
  have hlocks := B.notSynchronized
  have hP : PP G [(m0, .inr (7, [.int th, .int mr, .long po, .ref dO, .ref sl, .ref ct0, .int mf, .int sp, .ref st0, .ref fs0, .ref jn0, .ref rw0, .ref fd0, .ref af0, .ref kO])), (dO, .inl (G.2 4, 6, .inr (.inr (.inr (.inr (fun k => if k < 6 then some (dr k) else none)))))), (dr 0, .inl (G.2 0, 64, .inl (DD 0))), (dr 1, .inl (G.2 0, 64, .inl (DD 1))), (dr 2, .inl (G.2 0, 64, .inl (DD 2))), (dr 3, .inl (G.2 0, 64, .inl (DD 3))), (dr 4, .inl (G.2 0, 64, .inl (DD 4))), (dr 5, .inl (G.2 0, 64, .inl (DD 5))), (ct0, .inl (G.2 0, 6, .inl ctf)), (st0, .inl (G.2 0, 4096, .inl stf)), (fs0, .inl (G.2 0, 4096, .inl fsf)), (jn0, .inl (G.2 0, 64, .inl jnf)), (rw0, .inl (G.2 0, 64, .inl rwf)), (fd0, .inl (G.2 1, 40, .inr (.inl fdf))), (af0, .inl (G.2 3, 40, .inl aff)), (kO, .inl (G.2 4, 4, .inr (.inr (.inr (.inr (fun k => if k < 4 then some (kr k) else none)))))), (kr 0, .inl (G.2 0, 64, .inl (KP 0))), (kr 1, .inl (G.2 0, 64, .inl (KP 1))), (kr 2, .inl (G.2 0, 64, .inl (KP 2))), (kr 3, .inl (G.2 0, 64, .inl (KP 3)))] s.heap := hP
  have hl := lv_entry ([.ref m0, .ref rw0, .long p2]) (n := 9) (Nat.le_of_ble_eq_true rfl)
  rw [lg_entry_eq]
  generalize (lg_sl ([.ref m0, .ref rw0, .long p2]) ++ List.replicate (9 - (lg_sl ([.ref m0, .ref rw0, .long p2])).length) Slot.unset).toArray = ls at hl ⊢
  have hl : lv_has ls 9 [(0, .ref m0), (1, .ref rw0), (2, .long p2)] := hl
  have loop6 : ∀ (K48 : Int64 → Int32 → Prop), True → (∀ (i4 : Int64) (i6 : Int32) (ls : Array Slot), lv_has ls 9 [(0, .ref m0), (1, .ref rw0), (2, .long p2), (4, .long i4), (6, .int i6)] → K48 i4 i6 → W p l e (headSpec (wl_X4_known_R) rm_X4_known_R).room s m ([.ref m0, .ref rw0, .long p2] : List Value).toArray below meth c s.heap [] 0 0 (MQ below (vp_Sl post) ([.ref m0, .ref rw0, .long p2] : List Value).toArray s 0 0 (fun _ => False)) (F0 m 48 ls [])) → ∀ (n : Nat) (i4 : Int64) (i6 : Int32) (ls : Array Slot), lv_has ls 9 [(0, .ref m0), (1, .ref rw0), (2, .long p2), (4, .long i4), (6, .int i6)] → wX4_known_R_L6 post K48 po rwf p2 n i4 i6 → W p l e (headSpec (wl_X4_known_R) rm_X4_known_R).room s m ([.ref m0, .ref rw0, .long p2] : List Value).toArray below meth c s.heap [] 0 0 (MQ below (vp_Sl post) ([.ref m0, .ref rw0, .long p2] : List Value).toArray s 0 0 (fun _ => False)) (F0 m 6 ls []) := by
    intro K48 _ hexit48 n
    induction n with
    | zero => intro i4 i6 ls hl h; exact False.elim h
    | succ n ih =>
      intro i4 i6 ls hl h
      refine lv_iload hx hb dX4_known__6 (lv_at hl 4 rfl) ?_
      refine lv_bipush (v := 64) hx hb dX4_known__8 (by decide) ?_
      refine lv_icmp_ge (tgt := 48) hx hb dX4_known__10 (by decide) (fun hc => ?_) (fun hc => ?_)
      · have h := h.1 hc
        have hl := lv_sub (l' := [(0, .ref m0), (1, .ref rw0), (2, .long p2), (4, .long i4), (6, .int i6)]) hl [0, 1, 2, 3, 4] rfl
        exact hexit48 _ _ ls hl h
      · have h := h.2 hc
        refine lv_aload_n hx hb dX4_known__13 rfl (lv_at hl 0 rfl) ?_
        refine va_get (D := G.1) (ci := 7) (v := .long po) (C := RX4) (T := TX4) (N := 15) hx hb hts igX4 hown hK hP 0 rfl rfl 2 (by decide) (hts _ q1007) (fun _ h9 => h9) rfl dX4_known__14 ?_
        refine lv_lload_n hx hb dX4_known__17 rfl (lv_at hl 2 rfl) ?_
        refine lv_ldc2 hx hb hown (hts _ q976) dX4_known__18 ?_
        refine lv_lxor hx hb dX4_known__21 ?_
        refine lv_land hx hb dX4_known__22 ?_
        refine lv_iload hx hb dX4_known__23 (lv_at hl 4 rfl) ?_
        have hPc := va_P.sub (ws' := []) hP [] rfl
        refine rdI (va_runS (As := [.long (po &&& (p2 ^^^ (-1 : Int64))), .int i6]) (rest := []) ⟨hx, hb, hml, hown, hts⟩ (kX4_has_ l G (po &&& (p2 ^^^ (-1 : Int64))) i6 h) (va_cwS 2 hts (gdS q1122 q1123 q6 q1124) rfl rfl rfl (by decide +kernel) ⟨Nat.le_of_ble_eq_true rfl, Nat.le_of_ble_eq_true rfl⟩) (preS hPc hKK) rfl rfl hl.1 rfl (lv_room (Nat.le_of_ble_eq_true rfl)) dX4_known__25 ⟨Nat.zero_le _, Nat.zero_le _⟩) (fun r_1 h => ?_)
        refine lv_if_eq (tgt := 42) hx hb dX4_known__28 (by decide) (fun hc => ?_) (fun hc => ?_)
        · have h := h.1 hc
          refine lv_iinc (v := (i6 + 1)) hx hb dX4_known__42 hl (k := 4) rfl (by rw [show Int32.ofInt 1 = 1 from by decide]) (Nat.le_of_ble_eq_true rfl) rfl (fun ls hl => ?_)
          have hl : lv_has ls 9 [(6, .int (i6 + 1)), (0, .ref m0), (1, .ref rw0), (2, .long p2), (4, .long i4)] := hl
          refine lv_goto (tgt := 6) hx hb dX4_known__45 (by decide) ?_
          have hl := lv_sub (l' := [(0, .ref m0), (1, .ref rw0), (2, .long p2), (4, .long i4), (6, .int (i6 + 1))]) hl [1, 2, 3, 4, 0] rfl
          exact ih _ _ ls hl h
        · have h := h.2 hc
          refine lv_lload hx hb dX4_known__31 (lv_at hl 3 rfl) ?_
          refine lv_lconst (v := 1) hx hb dX4_known__33 (by decide) ?_
          refine lv_aload_n hx hb dX4_known__34 rfl (lv_at hl 1 rfl) ?_
          refine lv_iload hx hb dX4_known__35 (lv_at hl 4 rfl) ?_
          obtain ⟨hin, h⟩ := h
          refine va_iald (D := G.1) hx hb hK hP 12 0 rfl rfl hin dX4_known__37 ?_
          refine lv_lshl (v := (jLshl (1 : Int64) (rwf i6.toNatClampNeg))) hx hb dX4_known__38 rfl ?_
          refine lv_lor hx hb dX4_known__39 ?_
          refine lv_topl (fun x_1 ex_1 => ?_)
          have h := h x_1 ex_1
          refine lv_lstore hx hb dX4_known__40 hl (Nat.le_of_ble_eq_true rfl) rfl (fun ls hl => ?_)
          have hl : lv_has ls 9 [(4, .long x_1), (0, .ref m0), (1, .ref rw0), (2, .long p2), (6, .int i6)] := hl
          refine lv_iinc (v := (i6 + 1)) hx hb dX4_known__42 hl (k := 4) rfl (by rw [show Int32.ofInt 1 = 1 from by decide]) (Nat.le_of_ble_eq_true rfl) rfl (fun ls hl => ?_)
          have hl : lv_has ls 9 [(6, .int (i6 + 1)), (4, .long x_1), (0, .ref m0), (1, .ref rw0), (2, .long p2)] := hl
          refine lv_goto (tgt := 6) hx hb dX4_known__45 (by decide) ?_
          have hl := lv_sub (l' := [(0, .ref m0), (1, .ref rw0), (2, .long p2), (4, .long x_1), (6, .int (i6 + 1))]) hl [2, 3, 4, 1, 0] rfl
          exact ih _ _ ls hl h
  have loop54 : ∀ (K100 : Int64 → Int32 → Prop) (i4 : Int64), True → (∀ (i6' : Int64) (i8 : Int32) (ls : Array Slot), lv_has ls 9 [(0, .ref m0), (1, .ref rw0), (2, .long p2), (4, .long i4), (6, .long i6'), (8, .int i8)] → K100 i6' i8 → W p l e (headSpec (wl_X4_known_R) rm_X4_known_R).room s m ([.ref m0, .ref rw0, .long p2] : List Value).toArray below meth c s.heap [] 0 0 (MQ below (vp_Sl post) ([.ref m0, .ref rw0, .long p2] : List Value).toArray s 0 0 (fun _ => False)) (F0 m 100 ls [])) → ∀ (n : Nat) (i6' : Int64) (i8 : Int32) (ls : Array Slot), lv_has ls 9 [(0, .ref m0), (1, .ref rw0), (2, .long p2), (4, .long i4), (6, .long i6'), (8, .int i8)] → wX4_known_R_L54 post K100 po rwf i4 n i6' i8 → W p l e (headSpec (wl_X4_known_R) rm_X4_known_R).room s m ([.ref m0, .ref rw0, .long p2] : List Value).toArray below meth c s.heap [] 0 0 (MQ below (vp_Sl post) ([.ref m0, .ref rw0, .long p2] : List Value).toArray s 0 0 (fun _ => False)) (F0 m 54 ls []) := by
    intro K100 i4 _ hexit100 n
    induction n with
    | zero => intro i6' i8 ls hl h; exact False.elim h
    | succ n ih =>
      intro i6' i8 ls hl h
      refine lv_iload hx hb dX4_known__54 (lv_at hl 5 rfl) ?_
      refine lv_bipush (v := 64) hx hb dX4_known__56 (by decide) ?_
      refine lv_icmp_ge (tgt := 100) hx hb dX4_known__58 (by decide) (fun hc => ?_) (fun hc => ?_)
      · have h := h.1 hc
        have hl := lv_sub (l' := [(0, .ref m0), (1, .ref rw0), (2, .long p2), (4, .long i4), (6, .long i6'), (8, .int i8)]) hl [0, 1, 2, 3, 4, 5] rfl
        exact hexit100 _ _ ls hl h
      · have h := h.2 hc
        refine lv_aload_n hx hb dX4_known__61 rfl (lv_at hl 0 rfl) ?_
        refine va_get (D := G.1) (ci := 7) (v := .long po) (C := RX4) (T := TX4) (N := 15) hx hb hts igX4 hown hK hP 0 rfl rfl 2 (by decide) (hts _ q1007) (fun _ h9 => h9) rfl dX4_known__62 ?_
        refine lv_iload hx hb dX4_known__65 (lv_at hl 5 rfl) ?_
        have hPc := va_P.sub (ws' := []) hP [] rfl
        refine rdI (va_runS (As := [.long po, .int i8]) (rest := []) ⟨hx, hb, hml, hown, hts⟩ (kX4_has_ l G po i8 h) (va_cwS 2 hts (gdS q1122 q1123 q6 q1124) rfl rfl rfl (by decide +kernel) ⟨Nat.le_of_ble_eq_true rfl, Nat.le_of_ble_eq_true rfl⟩) (preS hPc hKK) rfl rfl hl.1 rfl (lv_room (Nat.le_of_ble_eq_true rfl)) dX4_known__67 ⟨Nat.zero_le _, Nat.zero_le _⟩) (fun r_2 h => ?_)
        refine lv_if_eq (tgt := 94) hx hb dX4_known__70 (by decide) (fun hc => ?_) (fun hc => ?_)
        · have h := h.1 hc
          refine lv_iinc (v := (i8 + 1)) hx hb dX4_known__94 hl (k := 5) rfl (by rw [show Int32.ofInt 1 = 1 from by decide]) (Nat.le_of_ble_eq_true rfl) rfl (fun ls hl => ?_)
          have hl : lv_has ls 9 [(8, .int (i8 + 1)), (0, .ref m0), (1, .ref rw0), (2, .long p2), (4, .long i4), (6, .long i6')] := hl
          refine lv_goto (tgt := 54) hx hb dX4_known__97 (by decide) ?_
          have hl := lv_sub (l' := [(0, .ref m0), (1, .ref rw0), (2, .long p2), (4, .long i4), (6, .long i6'), (8, .int (i8 + 1))]) hl [1, 2, 3, 4, 5, 0] rfl
          exact ih _ _ ls hl h
        · have h := h.2 hc
          refine lv_lload hx hb dX4_known__73 (lv_at hl 3 rfl) ?_
          refine lv_aload_n hx hb dX4_known__75 rfl (lv_at hl 1 rfl) ?_
          refine lv_iload hx hb dX4_known__76 (lv_at hl 5 rfl) ?_
          obtain ⟨hin, h⟩ := h
          refine va_iald (D := G.1) hx hb hK hP 12 0 rfl rfl hin dX4_known__78 ?_
          have hPc := va_P.sub (ws' := []) hP [] rfl
          refine rdI (va_runS (As := [.long i4, .int (rwf i8.toNatClampNeg)]) (rest := []) ⟨hx, hb, hml, hown, hts⟩ (kX4_has_ l G i4 (rwf i8.toNatClampNeg) h) (va_cwS 2 hts (gdS q1122 q1123 q6 q1124) rfl rfl rfl (by decide +kernel) ⟨Nat.le_of_ble_eq_true rfl, Nat.le_of_ble_eq_true rfl⟩) (preS hPc hKK) rfl rfl hl.1 rfl (lv_room (Nat.le_of_ble_eq_true rfl)) dX4_known__79 ⟨Nat.zero_le _, Nat.zero_le _⟩) (fun r_3 h => ?_)
          refine lv_if_ne (tgt := 94) hx hb dX4_known__82 (by decide) (fun hc => ?_) (fun hc => ?_)
          · have h := h.1 hc
            refine lv_iinc (v := (i8 + 1)) hx hb dX4_known__94 hl (k := 5) rfl (by rw [show Int32.ofInt 1 = 1 from by decide]) (Nat.le_of_ble_eq_true rfl) rfl (fun ls hl => ?_)
            have hl : lv_has ls 9 [(8, .int (i8 + 1)), (0, .ref m0), (1, .ref rw0), (2, .long p2), (4, .long i4), (6, .long i6')] := hl
            refine lv_goto (tgt := 54) hx hb dX4_known__97 (by decide) ?_
            have hl := lv_sub (l' := [(0, .ref m0), (1, .ref rw0), (2, .long p2), (4, .long i4), (6, .long i6'), (8, .int (i8 + 1))]) hl [1, 2, 3, 4, 5, 0] rfl
            exact ih _ _ ls hl h
          · have h := h.2 hc
            refine lv_lload hx hb dX4_known__85 (lv_at hl 4 rfl) ?_
            refine lv_lconst (v := 1) hx hb dX4_known__87 (by decide) ?_
            refine lv_iload hx hb dX4_known__88 (lv_at hl 5 rfl) ?_
            refine lv_lshl (v := (jLshl (1 : Int64) i8)) hx hb dX4_known__90 rfl ?_
            refine lv_lor hx hb dX4_known__91 ?_
            refine lv_lstore hx hb dX4_known__92 hl (Nat.le_of_ble_eq_true rfl) rfl (fun ls hl => ?_)
            have hl : lv_has ls 9 [(6, .long (i6' ||| (jLshl (1 : Int64) i8))), (0, .ref m0), (1, .ref rw0), (2, .long p2), (4, .long i4), (8, .int i8)] := hl
            refine lv_iinc (v := (i8 + 1)) hx hb dX4_known__94 hl (k := 5) rfl (by rw [show Int32.ofInt 1 = 1 from by decide]) (Nat.le_of_ble_eq_true rfl) rfl (fun ls hl => ?_)
            have hl : lv_has ls 9 [(8, .int (i8 + 1)), (6, .long (i6' ||| (jLshl (1 : Int64) i8))), (0, .ref m0), (1, .ref rw0), (2, .long p2), (4, .long i4)] := hl
            refine lv_goto (tgt := 54) hx hb dX4_known__97 (by decide) ?_
            have hl := lv_sub (l' := [(0, .ref m0), (1, .ref rw0), (2, .long p2), (4, .long i4), (6, .long (i6' ||| (jLshl (1 : Int64) i8))), (8, .int (i8 + 1))]) hl [2, 3, 4, 5, 1, 0] rfl
            exact ih _ _ ls hl h
  refine lv_lconst (v := 0) hx hb dX4_known__0 (by decide) ?_
  refine lv_lstore hx hb dX4_known__1 hl (Nat.le_of_ble_eq_true rfl) rfl (fun ls hl => ?_)
  have hl : lv_has ls 9 [(4, .long (0 : Int64)), (0, .ref m0), (1, .ref rw0), (2, .long p2)] := hl
  refine lv_iconst (v := 0) hx hb dX4_known__3 (by decide) ?_
  refine lv_istore hx hb dX4_known__4 hl (Nat.le_of_ble_eq_true rfl) rfl (fun ls hl => ?_)
  have hl : lv_has ls 9 [(6, .int (0 : Int32)), (4, .long (0 : Int64)), (0, .ref m0), (1, .ref rw0), (2, .long p2)] := hl
  have hl := lv_sub (l' := [(0, .ref m0), (1, .ref rw0), (2, .long p2), (4, .long (0 : Int64)), (6, .int (0 : Int32))]) hl [2, 3, 4, 1, 0] rfl
  obtain ⟨nF, h⟩ := h
  refine loop6 _ trivial ?_ nF (0 : Int64) (0 : Int32) _ hl h
  · intro i4 i6 ls hl h
    refine lv_lconst (v := 0) hx hb dX4_known__48 (by decide) ?_
    refine lv_lstore hx hb dX4_known__49 hl (Nat.le_of_ble_eq_true rfl) rfl (fun ls hl => ?_)
    have hl : lv_has ls 9 [(6, .long (0 : Int64)), (0, .ref m0), (1, .ref rw0), (2, .long p2), (4, .long i4)] := hl
    refine lv_iconst (v := 0) hx hb dX4_known__51 (by decide) ?_
    refine lv_istore hx hb dX4_known__52 hl (Nat.le_of_ble_eq_true rfl) rfl (fun ls hl => ?_)
    have hl : lv_has ls 9 [(8, .int (0 : Int32)), (6, .long (0 : Int64)), (0, .ref m0), (1, .ref rw0), (2, .long p2), (4, .long i4)] := hl
    have hl := lv_sub (l' := [(0, .ref m0), (1, .ref rw0), (2, .long p2), (4, .long i4), (6, .long (0 : Int64)), (8, .int (0 : Int32))]) hl [2, 3, 4, 5, 1, 0] rfl
    obtain ⟨nF, h⟩ := h
    refine loop54 _ i4 trivial ?_ nF (0 : Int64) (0 : Int32) _ hl h
    · intro i6' i8 ls hl h
      refine lv_lload hx hb dX4_known__100 (lv_at hl 4 rfl) ?_
      exact W.lret (v := i6') hx hb hr (fun t ht _ => ⟨_, rfl, h, ht⟩) (fun _ hq => absurd hq List.not_mem_nil) dX4_known__102
theorem dX4_known_0 : decode cX4_known 0 = .ok (.aload_n 0, 1) := by decide +kernel
theorem dX4_known_1 : decode cX4_known 1 = .ok (.aload_n 0, 1) := by decide +kernel
theorem dX4_known_2 : decode cX4_known 2 = .ok (.getfield 17, 3) := by decide +kernel
theorem dX4_known_5 : decode cX4_known 5 = .ok (.iload_n 1, 1) := by decide +kernel
theorem dX4_known_6 : decode cX4_known 6 = .ok (.aaload, 1) := by decide +kernel
theorem dX4_known_7 : decode cX4_known 7 = .ok (.lload_n 2, 1) := by decide +kernel
theorem dX4_known_8 : decode cX4_known 8 = .ok (.invokevirtual 66, 3) := by decide +kernel
theorem dX4_known_11 : decode cX4_known 11 = .ok (.lreturn, 1) := by decide +kernel
def wX4_known (post : Int64 → Prop) (po : Int64) (DD : Nat → Nat → Int32) (p1 : Int32) (p2 : Int64) : Prop :=
  vp_in p1 6 ∧
  wX4_known_D (fun r_1 : Int64 =>
    post r_1
    ) (p1.toNatClampNeg) po DD p2
abbrev wl_X4_known : List Cond := .code yX4_known cX4_known 4 (some .long) :: lwg
abbrev rm_X4_known : Room := { frames := 2, cells := 0, slots := 0, locals := 50 }
set_option maxHeartbeats 4000000 in
set_option maxRecDepth 100000 in
theorem kX4_known {post : Int64 → Prop} (l : Launch) (G : GT) (m0 : Nat) (dO : Nat) (sl : Nat) (ct0 : Nat) (st0 : Nat) (fs0 : Nat) (jn0 : Nat) (rw0 : Nat) (fd0 : Nat) (af0 : Nat) (kO : Nat) (dr : Nat → Nat) (kr : Nat → Nat) (sa : Nat → Nat) (th : Int32) (mr : Int32) (po : Int64) (mf : Int32) (sp : Int32) (DD : Nat → Nat → Int32) (ctf : Nat → Int32) (stf : Nat → Int32) (fsf : Nat → Int32) (jnf : Nat → Int32) (rwf : Nat → Int32) (fdf : Nat → Int64) (aff : Nat → Int32) (KP : Nat → Nat → Int32) (sn : Nat) (sq : Nat → Nat → Int32) (p1 : Int32) (p2 : Int64) (h : wX4_known post po DD p1 p2) : Met l yX4_known wl_X4_known rm_X4_known (va_Pc [.ref m0, .int p1, .long p2] (fun U => PP G [(m0, .inr (7, [.int th, .int mr, .long po, .ref dO, .ref sl, .ref ct0, .int mf, .int sp, .ref st0, .ref fs0, .ref jn0, .ref rw0, .ref fd0, .ref af0, .ref kO])), (dO, .inl (G.2 4, 6, .inr (.inr (.inr (.inr (fun k => if k < 6 then some (dr k) else none)))))), (dr 0, .inl (G.2 0, 64, .inl (DD 0))), (dr 1, .inl (G.2 0, 64, .inl (DD 1))), (dr 2, .inl (G.2 0, 64, .inl (DD 2))), (dr 3, .inl (G.2 0, 64, .inl (DD 3))), (dr 4, .inl (G.2 0, 64, .inl (DD 4))), (dr 5, .inl (G.2 0, 64, .inl (DD 5))), (ct0, .inl (G.2 0, 6, .inl ctf)), (st0, .inl (G.2 0, 4096, .inl stf)), (fs0, .inl (G.2 0, 4096, .inl fsf)), (jn0, .inl (G.2 0, 64, .inl jnf)), (rw0, .inl (G.2 0, 64, .inl rwf)), (fd0, .inl (G.2 1, 40, .inr (.inl fdf))), (af0, .inl (G.2 3, 40, .inl aff)), (kO, .inl (G.2 4, 4, .inr (.inr (.inr (.inr (fun k => if k < 4 then some (kr k) else none)))))), (kr 0, .inl (G.2 0, 64, .inl (KP 0))), (kr 1, .inl (G.2 0, 64, .inl (KP 1))), (kr 2, .inl (G.2 0, 64, .inl (KP 2))), (kr 3, .inl (G.2 0, 64, .inl (KP 3)))] U.heap ∧ KK G U)) (vp_Sl post) 0 0 (fun _ => False) := by
  refine Met.ofW (cc := cX4_known) (maxL := 4) (ret := (some .long)) (by decide) rfl ?_
  intro p e s m args below meth c s₁ B hml hv
  obtain ⟨rfl, hP, hKK⟩ := hv
  obtain ⟨hK, hN, hR, hFW, hNC⟩ := id hKK
  have hx := B.exec
  have hb := B.bytes
  have hr := B.returns
  have hts0 := atoms_spec (ws := wl_X4_known) B.pre
  have hts : ∀ w ∈ lwg, w.before ([.ref m0, .int p1, .long p2] : List Value).toArray s = true := fun w hw => hts0 w (List.mem_cons_of_mem _ hw)
  have hown : s.vm.findClass RX4 = some m.cls := findClass_of_methodNamed B.named
  have hlocks := B.notSynchronized
  have hP : PP G [(m0, .inr (7, [.int th, .int mr, .long po, .ref dO, .ref sl, .ref ct0, .int mf, .int sp, .ref st0, .ref fs0, .ref jn0, .ref rw0, .ref fd0, .ref af0, .ref kO])), (dO, .inl (G.2 4, 6, .inr (.inr (.inr (.inr (fun k => if k < 6 then some (dr k) else none)))))), (dr 0, .inl (G.2 0, 64, .inl (DD 0))), (dr 1, .inl (G.2 0, 64, .inl (DD 1))), (dr 2, .inl (G.2 0, 64, .inl (DD 2))), (dr 3, .inl (G.2 0, 64, .inl (DD 3))), (dr 4, .inl (G.2 0, 64, .inl (DD 4))), (dr 5, .inl (G.2 0, 64, .inl (DD 5))), (ct0, .inl (G.2 0, 6, .inl ctf)), (st0, .inl (G.2 0, 4096, .inl stf)), (fs0, .inl (G.2 0, 4096, .inl fsf)), (jn0, .inl (G.2 0, 64, .inl jnf)), (rw0, .inl (G.2 0, 64, .inl rwf)), (fd0, .inl (G.2 1, 40, .inr (.inl fdf))), (af0, .inl (G.2 3, 40, .inl aff)), (kO, .inl (G.2 4, 4, .inr (.inr (.inr (.inr (fun k => if k < 4 then some (kr k) else none)))))), (kr 0, .inl (G.2 0, 64, .inl (KP 0))), (kr 1, .inl (G.2 0, 64, .inl (KP 1))), (kr 2, .inl (G.2 0, 64, .inl (KP 2))), (kr 3, .inl (G.2 0, 64, .inl (KP 3)))] s.heap := hP
  have hl := lv_entry ([.ref m0, .int p1, .long p2]) (n := 4) (Nat.le_of_ble_eq_true rfl)
  rw [lg_entry_eq]
  generalize (lg_sl ([.ref m0, .int p1, .long p2]) ++ List.replicate (4 - (lg_sl ([.ref m0, .int p1, .long p2])).length) Slot.unset).toArray = ls at hl ⊢
  have hl : lv_has ls 4 [(0, .ref m0), (1, .int p1), (2, .long p2)] := hl
  refine lv_aload_n hx hb dX4_known_0 rfl (lv_at hl 0 rfl) ?_
  refine lv_aload_n hx hb dX4_known_1 rfl (lv_at hl 0 rfl) ?_
  refine va_get (D := G.1) (ci := 7) (v := .ref dO) (C := RX4) (T := TX4) (N := 15) hx hb hts igX4 hown hK hP 0 rfl rfl 3 (by decide) (hts _ q1008) (fun _ h9 => h9) rfl dX4_known_2 ?_
  refine lv_iload_n hx hb dX4_known_5 rfl (lv_at hl 1 rfl) ?_
  obtain ⟨hin, h⟩ := h
  have hf_1 : p1.toNatClampNeg < 6 := vpLt hin
  refine va_aldA (b := dr (p1.toNatClampNeg)) hx hb hK hP 1 4 rfl rfl hin (if_pos hf_1) dX4_known_6 ?_
  refine lv_lload_n hx hb dX4_known_7 rfl (lv_at hl 2 rfl) ?_
  have hPc := hP
  refine rdL (va_runV (C := RX4) (As := [.ref (dr (p1.toNatClampNeg)), .long p2]) (rest := []) ⟨hx, hb, hml, hown, hts⟩ (kX4_known_D l G m0 dO sl ct0 st0 fs0 jn0 rw0 fd0 af0 kO dr kr sa (p1.toNatClampNeg) th mr po mf sp DD ctf stf fsf jnf rwf fdf aff KP sn sq p2 hf_1 h) (cwV 2 hts (gdV q1118 q1120 qs15 q6 q1121) rfl rfl rfl (by decide +kernel) ⟨Nat.le_of_ble_eq_true rfl, Nat.le_of_ble_eq_true rfl⟩) (preV hPc hKK (va_recv hK hPc (ci := 7) (q0 := 0) rfl rfl)) rfl rfl hl.1 rfl (lv_room (Nat.le_of_ble_eq_true rfl)) dX4_known_8 ⟨Nat.zero_le _, Nat.zero_le _⟩) (fun r_1 h => ?_)
  exact W.lret (v := r_1) hx hb hr (fun t ht _ => ⟨_, rfl, h, ht⟩) (fun _ hq => absurd hq List.not_mem_nil) dX4_known_11
theorem dX4_knownByAll_0 : decode cX4_knownByAll 0 = .ok (.aload_n 0, 1) := by decide +kernel
theorem dX4_knownByAll_1 : decode cX4_knownByAll 1 = .ok (.getfield 9, 3) := by decide +kernel
theorem dX4_knownByAll_4 : decode cX4_knownByAll 4 = .ok (.lstore 4, 2) := by decide +kernel
theorem dX4_knownByAll_6 : decode cX4_knownByAll 6 = .ok (.iconst 0, 1) := by decide +kernel
theorem dX4_knownByAll_7 : decode cX4_knownByAll 7 = .ok (.istore 6, 2) := by decide +kernel
theorem dX4_knownByAll_9 : decode cX4_knownByAll 9 = .ok (.iload 6, 2) := by decide +kernel
theorem dX4_knownByAll_11 : decode cX4_knownByAll 11 = .ok (.bipush 6, 2) := by decide +kernel
theorem dX4_knownByAll_13 : decode cX4_knownByAll 13 = .ok (.if_icmp .ge 36, 3) := by decide +kernel
theorem dX4_knownByAll_16 : decode cX4_knownByAll 16 = .ok (.lload 4, 2) := by decide +kernel
theorem dX4_knownByAll_18 : decode cX4_knownByAll 18 = .ok (.iload_n 1, 1) := by decide +kernel
theorem dX4_knownByAll_19 : decode cX4_knownByAll 19 = .ok (.iload 6, 2) := by decide +kernel
theorem dX4_knownByAll_21 : decode cX4_knownByAll 21 = .ok (.invokestatic 70, 3) := by decide +kernel
theorem dX4_knownByAll_24 : decode cX4_knownByAll 24 = .ok (.ifCond .eq 13, 3) := by decide +kernel
theorem dX4_knownByAll_27 : decode cX4_knownByAll 27 = .ok (.aload_n 0, 1) := by decide +kernel
theorem dX4_knownByAll_28 : decode cX4_knownByAll 28 = .ok (.iload 6, 2) := by decide +kernel
theorem dX4_knownByAll_30 : decode cX4_knownByAll 30 = .ok (.lload_n 2, 1) := by decide +kernel
theorem dX4_knownByAll_31 : decode cX4_knownByAll 31 = .ok (.invokevirtual 73, 3) := by decide +kernel
theorem dX4_knownByAll_34 : decode cX4_knownByAll 34 = .ok (.goto 6, 3) := by decide +kernel
theorem dX4_knownByAll_37 : decode cX4_knownByAll 37 = .ok (.ldc2_w 7, 3) := by decide +kernel
theorem dX4_knownByAll_40 : decode cX4_knownByAll 40 = .ok (.land, 1) := by decide +kernel
theorem dX4_knownByAll_41 : decode cX4_knownByAll 41 = .ok (.lstore 4, 2) := by decide +kernel
theorem dX4_knownByAll_43 : decode cX4_knownByAll 43 = .ok (.iinc 6 1, 3) := by decide +kernel
theorem dX4_knownByAll_46 : decode cX4_knownByAll 46 = .ok (.goto (-37), 3) := by decide +kernel
theorem dX4_knownByAll_49 : decode cX4_knownByAll 49 = .ok (.lload 4, 2) := by decide +kernel
theorem dX4_knownByAll_51 : decode cX4_knownByAll 51 = .ok (.lreturn, 1) := by decide +kernel
def wX4_knownByAll_L9 (post : Int64 → Prop) (K49 : Int64 → Int32 → Prop) (po : Int64) (DD : Nat → Nat → Int32) (p1 : Int32) (p2 : Int64) : Nat → Int64 → Int32 → Prop
  | 0, _, _ => False
  | n+1, i4, i6 =>
    (((6 : Int32) ≤ i6) →
      K49 i4 i6
    ) ∧ (¬ ((6 : Int32) ≤ i6) →
      wX4_has (fun r_1 : Int32 =>
        ((r_1 = 0) →
          wX4_knownByAll_L9 post K49 po DD p1 p2 n (i4 &&& (-1 : Int64)) (i6 + 1)
        ) ∧ (¬ (r_1 = 0) →
          wX4_known (fun r_2 : Int64 =>
            wX4_knownByAll_L9 post K49 po DD p1 p2 n (i4 &&& r_2) (i6 + 1)
            ) po DD i6 p2
        )
        ) p1 i6
    )
def wX4_knownByAll (post : Int64 → Prop) (po : Int64) (DD : Nat → Nat → Int32) (p1 : Int32) (p2 : Int64) : Prop :=
  ∃ nF, wX4_knownByAll_L9 post
    (fun i4 i6 =>
      post i4
    )
    po DD p1 p2 nF po (0 : Int32)
abbrev wl_X4_knownByAll : List Cond := .code yX4_knownByAll cX4_knownByAll 7 (some .long) :: lwg
abbrev rm_X4_knownByAll : Room := { frames := 3, cells := 0, slots := 0, locals := 73 }
set_option maxHeartbeats 4000000 in
set_option maxRecDepth 100000 in
theorem kX4_knownByAll {post : Int64 → Prop} (l : Launch) (G : GT) (m0 : Nat) (dO : Nat) (sl : Nat) (ct0 : Nat) (st0 : Nat) (fs0 : Nat) (jn0 : Nat) (rw0 : Nat) (fd0 : Nat) (af0 : Nat) (kO : Nat) (dr : Nat → Nat) (kr : Nat → Nat) (sa : Nat → Nat) (th : Int32) (mr : Int32) (po : Int64) (mf : Int32) (sp : Int32) (DD : Nat → Nat → Int32) (ctf : Nat → Int32) (stf : Nat → Int32) (fsf : Nat → Int32) (jnf : Nat → Int32) (rwf : Nat → Int32) (fdf : Nat → Int64) (aff : Nat → Int32) (KP : Nat → Nat → Int32) (sn : Nat) (sq : Nat → Nat → Int32) (p1 : Int32) (p2 : Int64) (h : wX4_knownByAll post po DD p1 p2) : Met l yX4_knownByAll wl_X4_knownByAll rm_X4_knownByAll (va_Pc [.ref m0, .int p1, .long p2] (fun U => PP G [(m0, .inr (7, [.int th, .int mr, .long po, .ref dO, .ref sl, .ref ct0, .int mf, .int sp, .ref st0, .ref fs0, .ref jn0, .ref rw0, .ref fd0, .ref af0, .ref kO])), (dO, .inl (G.2 4, 6, .inr (.inr (.inr (.inr (fun k => if k < 6 then some (dr k) else none)))))), (dr 0, .inl (G.2 0, 64, .inl (DD 0))), (dr 1, .inl (G.2 0, 64, .inl (DD 1))), (dr 2, .inl (G.2 0, 64, .inl (DD 2))), (dr 3, .inl (G.2 0, 64, .inl (DD 3))), (dr 4, .inl (G.2 0, 64, .inl (DD 4))), (dr 5, .inl (G.2 0, 64, .inl (DD 5))), (ct0, .inl (G.2 0, 6, .inl ctf)), (st0, .inl (G.2 0, 4096, .inl stf)), (fs0, .inl (G.2 0, 4096, .inl fsf)), (jn0, .inl (G.2 0, 64, .inl jnf)), (rw0, .inl (G.2 0, 64, .inl rwf)), (fd0, .inl (G.2 1, 40, .inr (.inl fdf))), (af0, .inl (G.2 3, 40, .inl aff)), (kO, .inl (G.2 4, 4, .inr (.inr (.inr (.inr (fun k => if k < 4 then some (kr k) else none)))))), (kr 0, .inl (G.2 0, 64, .inl (KP 0))), (kr 1, .inl (G.2 0, 64, .inl (KP 1))), (kr 2, .inl (G.2 0, 64, .inl (KP 2))), (kr 3, .inl (G.2 0, 64, .inl (KP 3)))] U.heap ∧ KK G U)) (vp_Sl post) 0 0 (fun _ => False) := by
  refine Met.ofW (cc := cX4_knownByAll) (maxL := 7) (ret := (some .long)) (by decide) rfl ?_
  intro p e s m args below meth c s₁ B hml hv
  obtain ⟨rfl, hP, hKK⟩ := hv
  obtain ⟨hK, hN, hR, hFW, hNC⟩ := id hKK
  have hx := B.exec
  have hb := B.bytes
  have hr := B.returns
  have hts0 := atoms_spec (ws := wl_X4_knownByAll) B.pre
  have hts : ∀ w ∈ lwg, w.before ([.ref m0, .int p1, .long p2] : List Value).toArray s = true := fun w hw => hts0 w (List.mem_cons_of_mem _ hw)
  have hown : s.vm.findClass RX4 = some m.cls := findClass_of_methodNamed B.named
  have hlocks := B.notSynchronized
  have hP : PP G [(m0, .inr (7, [.int th, .int mr, .long po, .ref dO, .ref sl, .ref ct0, .int mf, .int sp, .ref st0, .ref fs0, .ref jn0, .ref rw0, .ref fd0, .ref af0, .ref kO])), (dO, .inl (G.2 4, 6, .inr (.inr (.inr (.inr (fun k => if k < 6 then some (dr k) else none)))))), (dr 0, .inl (G.2 0, 64, .inl (DD 0))), (dr 1, .inl (G.2 0, 64, .inl (DD 1))), (dr 2, .inl (G.2 0, 64, .inl (DD 2))), (dr 3, .inl (G.2 0, 64, .inl (DD 3))), (dr 4, .inl (G.2 0, 64, .inl (DD 4))), (dr 5, .inl (G.2 0, 64, .inl (DD 5))), (ct0, .inl (G.2 0, 6, .inl ctf)), (st0, .inl (G.2 0, 4096, .inl stf)), (fs0, .inl (G.2 0, 4096, .inl fsf)), (jn0, .inl (G.2 0, 64, .inl jnf)), (rw0, .inl (G.2 0, 64, .inl rwf)), (fd0, .inl (G.2 1, 40, .inr (.inl fdf))), (af0, .inl (G.2 3, 40, .inl aff)), (kO, .inl (G.2 4, 4, .inr (.inr (.inr (.inr (fun k => if k < 4 then some (kr k) else none)))))), (kr 0, .inl (G.2 0, 64, .inl (KP 0))), (kr 1, .inl (G.2 0, 64, .inl (KP 1))), (kr 2, .inl (G.2 0, 64, .inl (KP 2))), (kr 3, .inl (G.2 0, 64, .inl (KP 3)))] s.heap := hP
  have hl := lv_entry ([.ref m0, .int p1, .long p2]) (n := 7) (Nat.le_of_ble_eq_true rfl)
  rw [lg_entry_eq]
  generalize (lg_sl ([.ref m0, .int p1, .long p2]) ++ List.replicate (7 - (lg_sl ([.ref m0, .int p1, .long p2])).length) Slot.unset).toArray = ls at hl ⊢
  have hl : lv_has ls 7 [(0, .ref m0), (1, .int p1), (2, .long p2)] := hl
  have loop9 : ∀ (K49 : Int64 → Int32 → Prop), True → (∀ (i4 : Int64) (i6 : Int32) (ls : Array Slot), lv_has ls 7 [(0, .ref m0), (1, .int p1), (2, .long p2), (4, .long i4), (6, .int i6)] → K49 i4 i6 → W p l e (headSpec (wl_X4_knownByAll) rm_X4_knownByAll).room s m ([.ref m0, .int p1, .long p2] : List Value).toArray below meth c s.heap [] 0 0 (MQ below (vp_Sl post) ([.ref m0, .int p1, .long p2] : List Value).toArray s 0 0 (fun _ => False)) (F0 m 49 ls [])) → ∀ (n : Nat) (i4 : Int64) (i6 : Int32) (ls : Array Slot), lv_has ls 7 [(0, .ref m0), (1, .int p1), (2, .long p2), (4, .long i4), (6, .int i6)] → wX4_knownByAll_L9 post K49 po DD p1 p2 n i4 i6 → W p l e (headSpec (wl_X4_knownByAll) rm_X4_knownByAll).room s m ([.ref m0, .int p1, .long p2] : List Value).toArray below meth c s.heap [] 0 0 (MQ below (vp_Sl post) ([.ref m0, .int p1, .long p2] : List Value).toArray s 0 0 (fun _ => False)) (F0 m 9 ls []) := by
    intro K49 _ hexit49 n
    induction n with
    | zero => intro i4 i6 ls hl h; exact False.elim h
    | succ n ih =>
      intro i4 i6 ls hl h
      refine lv_iload hx hb dX4_knownByAll_9 (lv_at hl 4 rfl) ?_
      refine lv_bipush (v := 6) hx hb dX4_knownByAll_11 (by decide) ?_
      refine lv_icmp_ge (tgt := 49) hx hb dX4_knownByAll_13 (by decide) (fun hc => ?_) (fun hc => ?_)
      · have h := h.1 hc
        have hl := lv_sub (l' := [(0, .ref m0), (1, .int p1), (2, .long p2), (4, .long i4), (6, .int i6)]) hl [0, 1, 2, 3, 4] rfl
        exact hexit49 _ _ ls hl h
      · have h := h.2 hc
        refine lv_lload hx hb dX4_knownByAll_16 (lv_at hl 3 rfl) ?_
        refine lv_iload_n hx hb dX4_knownByAll_18 rfl (lv_at hl 1 rfl) ?_
        refine lv_iload hx hb dX4_knownByAll_19 (lv_at hl 4 rfl) ?_
        have hPc := va_P.sub (ws' := []) hP [] rfl
        refine rdI (va_runS (As := [.int p1, .int i6]) (rest := [.long i4]) ⟨hx, hb, hml, hown, hts⟩ (kX4_has l G p1 i6 h) (va_cwS 2 hts (gdS q1111 q1112 q6 q1113) rfl rfl rfl (by decide +kernel) ⟨Nat.le_of_ble_eq_true rfl, Nat.le_of_ble_eq_true rfl⟩) (preS hPc hKK) rfl rfl hl.1 rfl (lv_room (Nat.le_of_ble_eq_true rfl)) dX4_knownByAll_21 ⟨Nat.zero_le _, Nat.zero_le _⟩) (fun r_1 h => ?_)
        refine lv_if_eq (tgt := 37) hx hb dX4_knownByAll_24 (by decide) (fun hc => ?_) (fun hc => ?_)
        · have h := h.1 hc
          refine lv_ldc2 hx hb hown (hts _ q976) dX4_knownByAll_37 ?_
          refine lv_land hx hb dX4_knownByAll_40 ?_
          refine lv_lstore hx hb dX4_knownByAll_41 hl (Nat.le_of_ble_eq_true rfl) rfl (fun ls hl => ?_)
          have hl : lv_has ls 7 [(4, .long (i4 &&& (-1 : Int64))), (0, .ref m0), (1, .int p1), (2, .long p2), (6, .int i6)] := hl
          refine lv_iinc (v := (i6 + 1)) hx hb dX4_knownByAll_43 hl (k := 4) rfl (by rw [show Int32.ofInt 1 = 1 from by decide]) (Nat.le_of_ble_eq_true rfl) rfl (fun ls hl => ?_)
          have hl : lv_has ls 7 [(6, .int (i6 + 1)), (4, .long (i4 &&& (-1 : Int64))), (0, .ref m0), (1, .int p1), (2, .long p2)] := hl
          refine lv_goto (tgt := 9) hx hb dX4_knownByAll_46 (by decide) ?_
          have hl := lv_sub (l' := [(0, .ref m0), (1, .int p1), (2, .long p2), (4, .long (i4 &&& (-1 : Int64))), (6, .int (i6 + 1))]) hl [2, 3, 4, 1, 0] rfl
          exact ih _ _ ls hl h
        · have h := h.2 hc
          refine lv_aload_n hx hb dX4_knownByAll_27 rfl (lv_at hl 0 rfl) ?_
          refine lv_iload hx hb dX4_knownByAll_28 (lv_at hl 4 rfl) ?_
          refine lv_lload_n hx hb dX4_knownByAll_30 rfl (lv_at hl 2 rfl) ?_
          have hPc := hP
          refine rdL (va_runV (C := RX4) (As := [.int i6, .long p2]) (rest := [.long i4]) ⟨hx, hb, hml, hown, hts⟩ (kX4_known l G m0 dO sl ct0 st0 fs0 jn0 rw0 fd0 af0 kO dr kr sa th mr po mf sp DD ctf stf fsf jnf rwf fdf aff KP sn sq i6 p2 h) (cwV 2 hts (gdV q1114 q1116 qs14 q6 q1117) rfl rfl rfl (by decide +kernel) ⟨Nat.le_of_ble_eq_true rfl, Nat.le_of_ble_eq_true rfl⟩) (preV hPc hKK (va_recv hK hPc (ci := 7) (q0 := 0) rfl rfl)) rfl rfl hl.1 rfl (lv_room (Nat.le_of_ble_eq_true rfl)) dX4_knownByAll_31 ⟨Nat.zero_le _, Nat.zero_le _⟩) (fun r_2 h => ?_)
          refine lv_goto (tgt := 40) hx hb dX4_knownByAll_34 (by decide) ?_
          refine lv_land hx hb dX4_knownByAll_40 ?_
          refine lv_lstore hx hb dX4_knownByAll_41 hl (Nat.le_of_ble_eq_true rfl) rfl (fun ls hl => ?_)
          have hl : lv_has ls 7 [(4, .long (i4 &&& r_2)), (0, .ref m0), (1, .int p1), (2, .long p2), (6, .int i6)] := hl
          refine lv_iinc (v := (i6 + 1)) hx hb dX4_knownByAll_43 hl (k := 4) rfl (by rw [show Int32.ofInt 1 = 1 from by decide]) (Nat.le_of_ble_eq_true rfl) rfl (fun ls hl => ?_)
          have hl : lv_has ls 7 [(6, .int (i6 + 1)), (4, .long (i4 &&& r_2)), (0, .ref m0), (1, .int p1), (2, .long p2)] := hl
          refine lv_goto (tgt := 9) hx hb dX4_knownByAll_46 (by decide) ?_
          have hl := lv_sub (l' := [(0, .ref m0), (1, .int p1), (2, .long p2), (4, .long (i4 &&& r_2)), (6, .int (i6 + 1))]) hl [2, 3, 4, 1, 0] rfl
          exact ih _ _ ls hl h
  refine lv_aload_n hx hb dX4_knownByAll_0 rfl (lv_at hl 0 rfl) ?_
  refine va_get (D := G.1) (ci := 7) (v := .long po) (C := RX4) (T := TX4) (N := 15) hx hb hts igX4 hown hK hP 0 rfl rfl 2 (by decide) (hts _ q1007) (fun _ h9 => h9) rfl dX4_knownByAll_1 ?_
  refine lv_lstore hx hb dX4_knownByAll_4 hl (Nat.le_of_ble_eq_true rfl) rfl (fun ls hl => ?_)
  have hl : lv_has ls 7 [(4, .long po), (0, .ref m0), (1, .int p1), (2, .long p2)] := hl
  refine lv_iconst (v := 0) hx hb dX4_knownByAll_6 (by decide) ?_
  refine lv_istore hx hb dX4_knownByAll_7 hl (Nat.le_of_ble_eq_true rfl) rfl (fun ls hl => ?_)
  have hl : lv_has ls 7 [(6, .int (0 : Int32)), (4, .long po), (0, .ref m0), (1, .int p1), (2, .long p2)] := hl
  have hl := lv_sub (l' := [(0, .ref m0), (1, .int p1), (2, .long p2), (4, .long po), (6, .int (0 : Int32))]) hl [2, 3, 4, 1, 0] rfl
  obtain ⟨nF, h⟩ := h
  refine loop9 _ trivial ?_ nF po (0 : Int32) _ hl h
  · intro i4 i6 ls hl h
    refine lv_lload hx hb dX4_knownByAll_49 (lv_at hl 3 rfl) ?_
    exact W.lret (v := i4) hx hb hr (fun t ht _ => ⟨_, rfl, h, ht⟩) (fun _ hq => absurd hq List.not_mem_nil) dX4_knownByAll_51
theorem dX4_common_0 : decode cX4_common 0 = .ok (.lload_n 2, 1) := by decide +kernel
theorem dX4_common_1 : decode cX4_common 1 = .ok (.lstore 4, 2) := by decide +kernel
theorem dX4_common_3 : decode cX4_common 3 = .ok (.lload 4, 2) := by decide +kernel
theorem dX4_common_5 : decode cX4_common 5 = .ok (.ldc2_w 7, 3) := by decide +kernel
theorem dX4_common_8 : decode cX4_common 8 = .ok (.lxor, 1) := by decide +kernel
theorem dX4_common_9 : decode cX4_common 9 = .ok (.lstore 6, 2) := by decide +kernel
theorem dX4_common_11 : decode cX4_common 11 = .ok (.lload 4, 2) := by decide +kernel
theorem dX4_common_13 : decode cX4_common 13 = .ok (.lload 6, 2) := by decide +kernel
theorem dX4_common_15 : decode cX4_common 15 = .ok (.lcmp, 1) := by decide +kernel
theorem dX4_common_16 : decode cX4_common 16 = .ok (.ifCond .eq 22, 3) := by decide +kernel
theorem dX4_common_19 : decode cX4_common 19 = .ok (.lload 4, 2) := by decide +kernel
theorem dX4_common_21 : decode cX4_common 21 = .ok (.lstore 6, 2) := by decide +kernel
theorem dX4_common_23 : decode cX4_common 23 = .ok (.lload 4, 2) := by decide +kernel
theorem dX4_common_25 : decode cX4_common 25 = .ok (.aload_n 0, 1) := by decide +kernel
theorem dX4_common_26 : decode cX4_common 26 = .ok (.iload_n 1, 1) := by decide +kernel
theorem dX4_common_27 : decode cX4_common 27 = .ok (.lload 4, 2) := by decide +kernel
theorem dX4_common_29 : decode cX4_common 29 = .ok (.invokevirtual 76, 3) := by decide +kernel
theorem dX4_common_32 : decode cX4_common 32 = .ok (.land, 1) := by decide +kernel
theorem dX4_common_33 : decode cX4_common 33 = .ok (.lstore 4, 2) := by decide +kernel
theorem dX4_common_35 : decode cX4_common 35 = .ok (.goto (-24), 3) := by decide +kernel
theorem dX4_common_38 : decode cX4_common 38 = .ok (.lload 4, 2) := by decide +kernel
theorem dX4_common_40 : decode cX4_common 40 = .ok (.lreturn, 1) := by decide +kernel
def wX4_common_L11 (post : Int64 → Prop) (K38 : Int64 → Int64 → Prop) (po : Int64) (DD : Nat → Nat → Int32) (p1 : Int32) : Nat → Int64 → Int64 → Prop
  | 0, _, _ => False
  | n+1, i4, i6 =>
    (((lg_cmp i4 i6) = 0) →
      K38 i4 i6
    ) ∧ (¬ ((lg_cmp i4 i6) = 0) →
      wX4_knownByAll (fun r_1 : Int64 =>
        wX4_common_L11 post K38 po DD p1 n (i4 &&& r_1) i4
        ) po DD p1 i4
    )
def wX4_common (post : Int64 → Prop) (po : Int64) (DD : Nat → Nat → Int32) (p1 : Int32) (p2 : Int64) : Prop :=
  ∃ nF, wX4_common_L11 post
    (fun i4 i6 =>
      post i4
    )
    po DD p1 nF p2 (p2 ^^^ (-1 : Int64))
abbrev wl_X4_common : List Cond := .code yX4_common cX4_common 8 (some .long) :: lwg
abbrev rm_X4_common : Room := { frames := 4, cells := 0, slots := 0, locals := 99 }
set_option maxHeartbeats 4000000 in
set_option maxRecDepth 100000 in
theorem kX4_common {post : Int64 → Prop} (l : Launch) (G : GT) (m0 : Nat) (dO : Nat) (sl : Nat) (ct0 : Nat) (st0 : Nat) (fs0 : Nat) (jn0 : Nat) (rw0 : Nat) (fd0 : Nat) (af0 : Nat) (kO : Nat) (dr : Nat → Nat) (kr : Nat → Nat) (sa : Nat → Nat) (th : Int32) (mr : Int32) (po : Int64) (mf : Int32) (sp : Int32) (DD : Nat → Nat → Int32) (ctf : Nat → Int32) (stf : Nat → Int32) (fsf : Nat → Int32) (jnf : Nat → Int32) (rwf : Nat → Int32) (fdf : Nat → Int64) (aff : Nat → Int32) (KP : Nat → Nat → Int32) (sn : Nat) (sq : Nat → Nat → Int32) (p1 : Int32) (p2 : Int64) (h : wX4_common post po DD p1 p2) : Met l yX4_common wl_X4_common rm_X4_common (va_Pc [.ref m0, .int p1, .long p2] (fun U => PP G [(m0, .inr (7, [.int th, .int mr, .long po, .ref dO, .ref sl, .ref ct0, .int mf, .int sp, .ref st0, .ref fs0, .ref jn0, .ref rw0, .ref fd0, .ref af0, .ref kO])), (dO, .inl (G.2 4, 6, .inr (.inr (.inr (.inr (fun k => if k < 6 then some (dr k) else none)))))), (dr 0, .inl (G.2 0, 64, .inl (DD 0))), (dr 1, .inl (G.2 0, 64, .inl (DD 1))), (dr 2, .inl (G.2 0, 64, .inl (DD 2))), (dr 3, .inl (G.2 0, 64, .inl (DD 3))), (dr 4, .inl (G.2 0, 64, .inl (DD 4))), (dr 5, .inl (G.2 0, 64, .inl (DD 5))), (ct0, .inl (G.2 0, 6, .inl ctf)), (st0, .inl (G.2 0, 4096, .inl stf)), (fs0, .inl (G.2 0, 4096, .inl fsf)), (jn0, .inl (G.2 0, 64, .inl jnf)), (rw0, .inl (G.2 0, 64, .inl rwf)), (fd0, .inl (G.2 1, 40, .inr (.inl fdf))), (af0, .inl (G.2 3, 40, .inl aff)), (kO, .inl (G.2 4, 4, .inr (.inr (.inr (.inr (fun k => if k < 4 then some (kr k) else none)))))), (kr 0, .inl (G.2 0, 64, .inl (KP 0))), (kr 1, .inl (G.2 0, 64, .inl (KP 1))), (kr 2, .inl (G.2 0, 64, .inl (KP 2))), (kr 3, .inl (G.2 0, 64, .inl (KP 3)))] U.heap ∧ KK G U)) (vp_Sl post) 0 0 (fun _ => False) := by
  refine Met.ofW (cc := cX4_common) (maxL := 8) (ret := (some .long)) (by decide) rfl ?_
  intro p e s m args below meth c s₁ B hml hv
  obtain ⟨rfl, hP, hKK⟩ := hv
  obtain ⟨hK, hN, hR, hFW, hNC⟩ := id hKK
  have hx := B.exec
  have hb := B.bytes
  have hr := B.returns
  have hts0 := atoms_spec (ws := wl_X4_common) B.pre
  have hts : ∀ w ∈ lwg, w.before ([.ref m0, .int p1, .long p2] : List Value).toArray s = true := fun w hw => hts0 w (List.mem_cons_of_mem _ hw)
  have hown : s.vm.findClass RX4 = some m.cls := findClass_of_methodNamed B.named
  have hlocks := B.notSynchronized
  have hP : PP G [(m0, .inr (7, [.int th, .int mr, .long po, .ref dO, .ref sl, .ref ct0, .int mf, .int sp, .ref st0, .ref fs0, .ref jn0, .ref rw0, .ref fd0, .ref af0, .ref kO])), (dO, .inl (G.2 4, 6, .inr (.inr (.inr (.inr (fun k => if k < 6 then some (dr k) else none)))))), (dr 0, .inl (G.2 0, 64, .inl (DD 0))), (dr 1, .inl (G.2 0, 64, .inl (DD 1))), (dr 2, .inl (G.2 0, 64, .inl (DD 2))), (dr 3, .inl (G.2 0, 64, .inl (DD 3))), (dr 4, .inl (G.2 0, 64, .inl (DD 4))), (dr 5, .inl (G.2 0, 64, .inl (DD 5))), (ct0, .inl (G.2 0, 6, .inl ctf)), (st0, .inl (G.2 0, 4096, .inl stf)), (fs0, .inl (G.2 0, 4096, .inl fsf)), (jn0, .inl (G.2 0, 64, .inl jnf)), (rw0, .inl (G.2 0, 64, .inl rwf)), (fd0, .inl (G.2 1, 40, .inr (.inl fdf))), (af0, .inl (G.2 3, 40, .inl aff)), (kO, .inl (G.2 4, 4, .inr (.inr (.inr (.inr (fun k => if k < 4 then some (kr k) else none)))))), (kr 0, .inl (G.2 0, 64, .inl (KP 0))), (kr 1, .inl (G.2 0, 64, .inl (KP 1))), (kr 2, .inl (G.2 0, 64, .inl (KP 2))), (kr 3, .inl (G.2 0, 64, .inl (KP 3)))] s.heap := hP
  have hl := lv_entry ([.ref m0, .int p1, .long p2]) (n := 8) (Nat.le_of_ble_eq_true rfl)
  rw [lg_entry_eq]
  generalize (lg_sl ([.ref m0, .int p1, .long p2]) ++ List.replicate (8 - (lg_sl ([.ref m0, .int p1, .long p2])).length) Slot.unset).toArray = ls at hl ⊢
  have hl : lv_has ls 8 [(0, .ref m0), (1, .int p1), (2, .long p2)] := hl
  have loop11 : ∀ (K38 : Int64 → Int64 → Prop), True → (∀ (i4 : Int64) (i6 : Int64) (ls : Array Slot), lv_has ls 8 [(0, .ref m0), (1, .int p1), (2, .long p2), (4, .long i4), (6, .long i6)] → K38 i4 i6 → W p l e (headSpec (wl_X4_common) rm_X4_common).room s m ([.ref m0, .int p1, .long p2] : List Value).toArray below meth c s.heap [] 0 0 (MQ below (vp_Sl post) ([.ref m0, .int p1, .long p2] : List Value).toArray s 0 0 (fun _ => False)) (F0 m 38 ls [])) → ∀ (n : Nat) (i4 : Int64) (i6 : Int64) (ls : Array Slot), lv_has ls 8 [(0, .ref m0), (1, .int p1), (2, .long p2), (4, .long i4), (6, .long i6)] → wX4_common_L11 post K38 po DD p1 n i4 i6 → W p l e (headSpec (wl_X4_common) rm_X4_common).room s m ([.ref m0, .int p1, .long p2] : List Value).toArray below meth c s.heap [] 0 0 (MQ below (vp_Sl post) ([.ref m0, .int p1, .long p2] : List Value).toArray s 0 0 (fun _ => False)) (F0 m 11 ls []) := by
    intro K38 _ hexit38 n
    induction n with
    | zero => intro i4 i6 ls hl h; exact False.elim h
    | succ n ih =>
      intro i4 i6 ls hl h
      refine lv_lload hx hb dX4_common_11 (lv_at hl 3 rfl) ?_
      refine lv_lload hx hb dX4_common_13 (lv_at hl 4 rfl) ?_
      refine W.lcmp hx hb dX4_common_15 ?_
      refine lv_if_eq (tgt := 38) hx hb dX4_common_16 (by decide) (fun hc => ?_) (fun hc => ?_)
      · have h := h.1 hc
        have hl := lv_sub (l' := [(0, .ref m0), (1, .int p1), (2, .long p2), (4, .long i4), (6, .long i6)]) hl [0, 1, 2, 3, 4] rfl
        exact hexit38 _ _ ls hl h
      · have h := h.2 hc
        refine lv_lload hx hb dX4_common_19 (lv_at hl 3 rfl) ?_
        refine lv_lstore hx hb dX4_common_21 hl (Nat.le_of_ble_eq_true rfl) rfl (fun ls hl => ?_)
        have hl : lv_has ls 8 [(6, .long i4), (0, .ref m0), (1, .int p1), (2, .long p2), (4, .long i4)] := hl
        refine lv_lload hx hb dX4_common_23 (lv_at hl 4 rfl) ?_
        refine lv_aload_n hx hb dX4_common_25 rfl (lv_at hl 1 rfl) ?_
        refine lv_iload_n hx hb dX4_common_26 rfl (lv_at hl 2 rfl) ?_
        refine lv_lload hx hb dX4_common_27 (lv_at hl 4 rfl) ?_
        have hPc := hP
        refine rdL (va_runV (C := RX4) (As := [.int p1, .long i4]) (rest := [.long i4]) ⟨hx, hb, hml, hown, hts⟩ (kX4_knownByAll l G m0 dO sl ct0 st0 fs0 jn0 rw0 fd0 af0 kO dr kr sa th mr po mf sp DD ctf stf fsf jnf rwf fdf aff KP sn sq p1 i4 h) (cwV 2 hts (gdV q1125 q1127 qs16 q6 q1128) rfl rfl rfl (by decide +kernel) ⟨Nat.le_of_ble_eq_true rfl, Nat.le_of_ble_eq_true rfl⟩) (preV hPc hKK (va_recv hK hPc (ci := 7) (q0 := 0) rfl rfl)) rfl rfl hl.1 rfl (lv_room (Nat.le_of_ble_eq_true rfl)) dX4_common_29 ⟨Nat.zero_le _, Nat.zero_le _⟩) (fun r_1 h => ?_)
        refine lv_land hx hb dX4_common_32 ?_
        refine lv_lstore hx hb dX4_common_33 hl (Nat.le_of_ble_eq_true rfl) rfl (fun ls hl => ?_)
        have hl : lv_has ls 8 [(4, .long (i4 &&& r_1)), (6, .long i4), (0, .ref m0), (1, .int p1), (2, .long p2)] := hl
        refine lv_goto (tgt := 11) hx hb dX4_common_35 (by decide) ?_
        have hl := lv_sub (l' := [(0, .ref m0), (1, .int p1), (2, .long p2), (4, .long (i4 &&& r_1)), (6, .long i4)]) hl [2, 3, 4, 0, 1] rfl
        exact ih _ _ ls hl h
  refine lv_lload_n hx hb dX4_common_0 rfl (lv_at hl 2 rfl) ?_
  refine lv_lstore hx hb dX4_common_1 hl (Nat.le_of_ble_eq_true rfl) rfl (fun ls hl => ?_)
  have hl : lv_has ls 8 [(4, .long p2), (0, .ref m0), (1, .int p1), (2, .long p2)] := hl
  refine lv_lload hx hb dX4_common_3 (lv_at hl 0 rfl) ?_
  refine lv_ldc2 hx hb hown (hts _ q976) dX4_common_5 ?_
  refine lv_lxor hx hb dX4_common_8 ?_
  refine lv_lstore hx hb dX4_common_9 hl (Nat.le_of_ble_eq_true rfl) rfl (fun ls hl => ?_)
  have hl : lv_has ls 8 [(6, .long (p2 ^^^ (-1 : Int64))), (4, .long p2), (0, .ref m0), (1, .int p1), (2, .long p2)] := hl
  have hl := lv_sub (l' := [(0, .ref m0), (1, .int p1), (2, .long p2), (4, .long p2), (6, .long (p2 ^^^ (-1 : Int64)))]) hl [2, 3, 4, 1, 0] rfl
  obtain ⟨nF, h⟩ := h
  refine loop11 _ trivial ?_ nF p2 (p2 ^^^ (-1 : Int64)) _ hl h
  · intro i4 i6 ls hl h
    refine lv_lload hx hb dX4_common_38 (lv_at hl 3 rfl) ?_
    exact W.lret (v := i4) hx hb hr (fun t ht _ => ⟨_, rfl, h, ht⟩) (fun _ hq => absurd hq List.not_mem_nil) dX4_common_40
theorem dX4_join_0 : decode cX4_join 0 = .ok (.aload_n 0, 1) := by decide +kernel
theorem dX4_join_1 : decode cX4_join 1 = .ok (.dup, 1) := by decide +kernel
theorem dX4_join_2 : decode cX4_join 2 = .ok (.getfield 79, 3) := by decide +kernel
theorem dX4_join_5 : decode cX4_join 5 = .ok (.iconst 1, 1) := by decide +kernel
theorem dX4_join_6 : decode cX4_join 6 = .ok (.iadd, 1) := by decide +kernel
theorem dX4_join_7 : decode cX4_join 7 = .ok (.putfield 79, 3) := by decide +kernel
theorem dX4_join_10 : decode cX4_join 10 = .ok (.iconst 0, 1) := by decide +kernel
theorem dX4_join_11 : decode cX4_join 11 = .ok (.istore 4, 2) := by decide +kernel
theorem dX4_join_13 : decode cX4_join 13 = .ok (.iload 4, 2) := by decide +kernel
theorem dX4_join_15 : decode cX4_join 15 = .ok (.bipush 64, 2) := by decide +kernel
theorem dX4_join_17 : decode cX4_join 17 = .ok (.if_icmp .ge 71, 3) := by decide +kernel
theorem dX4_join_20 : decode cX4_join 20 = .ok (.aload_n 1, 1) := by decide +kernel
theorem dX4_join_21 : decode cX4_join 21 = .ok (.iload 4, 2) := by decide +kernel
theorem dX4_join_23 : decode cX4_join 23 = .ok (.iaload, 1) := by decide +kernel
theorem dX4_join_24 : decode cX4_join 24 = .ok (.bipush 64, 2) := by decide +kernel
theorem dX4_join_26 : decode cX4_join 26 = .ok (.imul, 1) := by decide +kernel
theorem dX4_join_27 : decode cX4_join 27 = .ok (.aload_n 2, 1) := by decide +kernel
theorem dX4_join_28 : decode cX4_join 28 = .ok (.iload 4, 2) := by decide +kernel
theorem dX4_join_30 : decode cX4_join 30 = .ok (.iaload, 1) := by decide +kernel
theorem dX4_join_31 : decode cX4_join 31 = .ok (.iadd, 1) := by decide +kernel
theorem dX4_join_32 : decode cX4_join 32 = .ok (.istore 5, 2) := by decide +kernel
theorem dX4_join_34 : decode cX4_join 34 = .ok (.aload_n 0, 1) := by decide +kernel
theorem dX4_join_35 : decode cX4_join 35 = .ok (.getfield 31, 3) := by decide +kernel
theorem dX4_join_38 : decode cX4_join 38 = .ok (.iload 5, 2) := by decide +kernel
theorem dX4_join_40 : decode cX4_join 40 = .ok (.iaload, 1) := by decide +kernel
theorem dX4_join_41 : decode cX4_join 41 = .ok (.aload_n 0, 1) := by decide +kernel
theorem dX4_join_42 : decode cX4_join 42 = .ok (.getfield 79, 3) := by decide +kernel
theorem dX4_join_45 : decode cX4_join 45 = .ok (.if_icmp .eq 23, 3) := by decide +kernel
theorem dX4_join_48 : decode cX4_join 48 = .ok (.aload_n 0, 1) := by decide +kernel
theorem dX4_join_49 : decode cX4_join 49 = .ok (.getfield 31, 3) := by decide +kernel
theorem dX4_join_52 : decode cX4_join 52 = .ok (.iload 5, 2) := by decide +kernel
theorem dX4_join_54 : decode cX4_join 54 = .ok (.aload_n 0, 1) := by decide +kernel
theorem dX4_join_55 : decode cX4_join 55 = .ok (.getfield 79, 3) := by decide +kernel
theorem dX4_join_58 : decode cX4_join 58 = .ok (.iastore, 1) := by decide +kernel
theorem dX4_join_59 : decode cX4_join 59 = .ok (.aload_n 0, 1) := by decide +kernel
theorem dX4_join_60 : decode cX4_join 60 = .ok (.getfield 34, 3) := by decide +kernel
theorem dX4_join_63 : decode cX4_join 63 = .ok (.iload 5, 2) := by decide +kernel
theorem dX4_join_65 : decode cX4_join 65 = .ok (.iload 4, 2) := by decide +kernel
theorem dX4_join_67 : decode cX4_join 67 = .ok (.iastore, 1) := by decide +kernel
theorem dX4_join_68 : decode cX4_join 68 = .ok (.aload_n 0, 1) := by decide +kernel
theorem dX4_join_69 : decode cX4_join 69 = .ok (.getfield 37, 3) := by decide +kernel
theorem dX4_join_72 : decode cX4_join 72 = .ok (.iload 4, 2) := by decide +kernel
theorem dX4_join_74 : decode cX4_join 74 = .ok (.aload_n 0, 1) := by decide +kernel
theorem dX4_join_75 : decode cX4_join 75 = .ok (.getfield 34, 3) := by decide +kernel
theorem dX4_join_78 : decode cX4_join 78 = .ok (.iload 5, 2) := by decide +kernel
theorem dX4_join_80 : decode cX4_join 80 = .ok (.iaload, 1) := by decide +kernel
theorem dX4_join_81 : decode cX4_join 81 = .ok (.iastore, 1) := by decide +kernel
theorem dX4_join_82 : decode cX4_join 82 = .ok (.iinc 4 1, 3) := by decide +kernel
theorem dX4_join_85 : decode cX4_join 85 = .ok (.goto (-72), 3) := by decide +kernel
theorem dX4_join_88 : decode cX4_join 88 = .ok (.iconst 0, 1) := by decide +kernel
theorem dX4_join_89 : decode cX4_join 89 = .ok (.istore 4, 2) := by decide +kernel
theorem dX4_join_91 : decode cX4_join 91 = .ok (.iload 4, 2) := by decide +kernel
theorem dX4_join_93 : decode cX4_join 93 = .ok (.bipush 64, 2) := by decide +kernel
theorem dX4_join_95 : decode cX4_join 95 = .ok (.if_icmp .ge 20, 3) := by decide +kernel
theorem dX4_join_98 : decode cX4_join 98 = .ok (.aload_n 3, 1) := by decide +kernel
theorem dX4_join_99 : decode cX4_join 99 = .ok (.iload 4, 2) := by decide +kernel
theorem dX4_join_101 : decode cX4_join 101 = .ok (.aload_n 0, 1) := by decide +kernel
theorem dX4_join_102 : decode cX4_join 102 = .ok (.getfield 37, 3) := by decide +kernel
theorem dX4_join_105 : decode cX4_join 105 = .ok (.iload 4, 2) := by decide +kernel
theorem dX4_join_107 : decode cX4_join 107 = .ok (.iaload, 1) := by decide +kernel
theorem dX4_join_108 : decode cX4_join 108 = .ok (.iastore, 1) := by decide +kernel
theorem dX4_join_109 : decode cX4_join 109 = .ok (.iinc 4 1, 3) := by decide +kernel
theorem dX4_join_112 : decode cX4_join 112 = .ok (.goto (-21), 3) := by decide +kernel
theorem dX4_join_115 : decode cX4_join 115 = .ok (.return_, 1) := by decide +kernel
def wX4_joinR_L13 (post : Int32 × (Nat → Int32) × (Nat → Int32) × (Nat → Int32) × (Nat → Int32) → Prop) (K88 : Int32 → (Nat → Int32) → (Nat → Int32) → (Nat → Int32) → Prop) (sp : Int32) (DD : Nat → Nat → Int32) (rwf : Nat → Int32) (g : Nat) : Nat → Int32 → (Nat → Int32) → (Nat → Int32) → (Nat → Int32) → Prop
  | 0, _, _, _, _ => False
  | n+1, i4, stf', fsf', jnf' =>
    (((64 : Int32) ≤ i4) →
      K88 i4 stf' fsf' jnf'
    ) ∧ (¬ ((64 : Int32) ≤ i4) →
      vp_in i4 64 ∧
      vp_in i4 64 ∧
      ∀ x_1 : Int32, x_1 = (((rwf i4.toNatClampNeg) * (64 : Int32)) + (DD g i4.toNatClampNeg)) →
      vp_in x_1 4096 ∧
      (((stf' x_1.toNatClampNeg) = (sp + (1 : Int32))) →
        vp_in x_1 4096 ∧
        vp_in i4 64 ∧
        wX4_joinR_L13 post K88 sp DD rwf g n (i4 + 1) stf' fsf' (upd jnf' i4.toNatClampNeg (fsf' x_1.toNatClampNeg))
      ) ∧ (¬ ((stf' x_1.toNatClampNeg) = (sp + (1 : Int32))) →
        vp_in x_1 4096 ∧
        vp_in x_1 4096 ∧
        vp_in x_1 4096 ∧
        vp_in i4 64 ∧
        wX4_joinR_L13 post K88 sp DD rwf g n (i4 + 1) (upd stf' x_1.toNatClampNeg (sp + (1 : Int32))) (upd fsf' x_1.toNatClampNeg i4) (upd jnf' i4.toNatClampNeg ((upd fsf' x_1.toNatClampNeg i4) x_1.toNatClampNeg))
      )
    )
def wX4_joinR_L91 (post : Int32 × (Nat → Int32) × (Nat → Int32) × (Nat → Int32) × (Nat → Int32) → Prop) (K115 : Int32 → (Nat → Int32) → Prop) (jnf' : Nat → Int32) : Nat → Int32 → (Nat → Int32) → Prop
  | 0, _, _ => False
  | n+1, i4, rwf' =>
    (((64 : Int32) ≤ i4) →
      K115 i4 rwf'
    ) ∧ (¬ ((64 : Int32) ≤ i4) →
      vp_in i4 64 ∧
      vp_in i4 64 ∧
      wX4_joinR_L91 post K115 jnf' n (i4 + 1) (upd rwf' i4.toNatClampNeg (jnf' i4.toNatClampNeg))
    )
def wX4_joinR (post : Int32 × (Nat → Int32) × (Nat → Int32) × (Nat → Int32) × (Nat → Int32) → Prop) (g : Nat) (sp : Int32) (DD : Nat → Nat → Int32) (stf : Nat → Int32) (fsf : Nat → Int32) (jnf : Nat → Int32) (rwf : Nat → Int32) : Prop :=
  ∃ nF, wX4_joinR_L13 post
    (fun i4 stf' fsf' jnf' =>
      ∃ nF, wX4_joinR_L91 post
        (fun i4 rwf' =>
          post ((sp + (1 : Int32)), stf', fsf', jnf', rwf')
        )
        jnf' nF (0 : Int32) rwf
    )
    sp DD rwf g nF (0 : Int32) stf fsf jnf
abbrev wl_X4_joinR : List Cond := .code yX4_join cX4_join 6 none :: lwg
abbrev rm_X4_joinR : Room := { frames := 0, cells := 0, slots := 0, locals := 0 }
set_option maxHeartbeats 4000000 in
set_option maxRecDepth 100000 in
theorem kX4_joinR {post : Int32 × (Nat → Int32) × (Nat → Int32) × (Nat → Int32) × (Nat → Int32) → Prop} (l : Launch) (G : GT) (m0 : Nat) (dO : Nat) (sl : Nat) (ct0 : Nat) (st0 : Nat) (fs0 : Nat) (jn0 : Nat) (rw0 : Nat) (fd0 : Nat) (af0 : Nat) (kO : Nat) (dr : Nat → Nat) (kr : Nat → Nat) (sa : Nat → Nat) (g : Nat) (th : Int32) (mr : Int32) (po : Int64) (mf : Int32) (sp : Int32) (DD : Nat → Nat → Int32) (ctf : Nat → Int32) (stf : Nat → Int32) (fsf : Nat → Int32) (jnf : Nat → Int32) (rwf : Nat → Int32) (fdf : Nat → Int64) (aff : Nat → Int32) (KP : Nat → Nat → Int32) (sn : Nat) (sq : Nat → Nat → Int32) (hg : g < 6) (sz : Nat) (h : wX4_joinR post g sp DD stf fsf jnf rwf) : Met l yX4_join wl_X4_joinR rm_X4_joinR (va_Pc [.ref m0, .ref rw0, .ref (dr g), .ref rw0] (fun U => U.heap.size = sz ∧ PP G [(m0, .inr (7, [.int th, .int mr, .long po, .ref dO, .ref sl, .ref ct0, .int mf, .int sp, .ref st0, .ref fs0, .ref jn0, .ref rw0, .ref fd0, .ref af0, .ref kO])), (dO, .inl (G.2 4, 6, .inr (.inr (.inr (.inr (fun k => if k < 6 then some (dr k) else none)))))), (dr 0, .inl (G.2 0, 64, .inl (DD 0))), (dr 1, .inl (G.2 0, 64, .inl (DD 1))), (dr 2, .inl (G.2 0, 64, .inl (DD 2))), (dr 3, .inl (G.2 0, 64, .inl (DD 3))), (dr 4, .inl (G.2 0, 64, .inl (DD 4))), (dr 5, .inl (G.2 0, 64, .inl (DD 5))), (ct0, .inl (G.2 0, 6, .inl ctf)), (st0, .inl (G.2 0, 4096, .inl stf)), (fs0, .inl (G.2 0, 4096, .inl fsf)), (jn0, .inl (G.2 0, 64, .inl jnf)), (rw0, .inl (G.2 0, 64, .inl rwf)), (fd0, .inl (G.2 1, 40, .inr (.inl fdf))), (af0, .inl (G.2 3, 40, .inl aff)), (kO, .inl (G.2 4, 4, .inr (.inr (.inr (.inr (fun k => if k < 4 then some (kr k) else none)))))), (kr 0, .inl (G.2 0, 64, .inl (KP 0))), (kr 1, .inl (G.2 0, 64, .inl (KP 1))), (kr 2, .inl (G.2 0, 64, .inl (KP 2))), (kr 3, .inl (G.2 0, 64, .inl (KP 3)))] U.heap ∧ KK G U ∧ va_D (fun _ => True) [(m0, .inr (7, [.int th, .int mr, .long po, .ref dO, .ref sl, .ref ct0, .int mf, .int sp, .ref st0, .ref fs0, .ref jn0, .ref rw0, .ref fd0, .ref af0, .ref kO])), (dO, .inl (G.2 4, 6, .inr (.inr (.inr (.inr (fun k => if k < 6 then some (dr k) else none)))))), (dr 0, .inl (G.2 0, 64, .inl (DD 0))), (dr 1, .inl (G.2 0, 64, .inl (DD 1))), (dr 2, .inl (G.2 0, 64, .inl (DD 2))), (dr 3, .inl (G.2 0, 64, .inl (DD 3))), (dr 4, .inl (G.2 0, 64, .inl (DD 4))), (dr 5, .inl (G.2 0, 64, .inl (DD 5))), (ct0, .inl (G.2 0, 6, .inl ctf)), (st0, .inl (G.2 0, 4096, .inl stf)), (fs0, .inl (G.2 0, 4096, .inl fsf)), (jn0, .inl (G.2 0, 64, .inl jnf)), (rw0, .inl (G.2 0, 64, .inl rwf)), (fd0, .inl (G.2 1, 40, .inr (.inl fdf))), (af0, .inl (G.2 3, 40, .inl aff)), (kO, .inl (G.2 4, 4, .inr (.inr (.inr (.inr (fun k => if k < 4 then some (kr k) else none)))))), (kr 0, .inl (G.2 0, 64, .inl (KP 0))), (kr 1, .inl (G.2 0, 64, .inl (KP 1))), (kr 2, .inl (G.2 0, 64, .inl (KP 2))), (kr 3, .inl (G.2 0, 64, .inl (KP 3)))])) (va_Qv post (fun u t => PP G [(m0, .inr (7, [.int th, .int mr, .long po, .ref dO, .ref sl, .ref ct0, .int mf, .int (u.1), .ref st0, .ref fs0, .ref jn0, .ref rw0, .ref fd0, .ref af0, .ref kO])), (dO, .inl (G.2 4, 6, .inr (.inr (.inr (.inr (fun k => if k < 6 then some (dr k) else none)))))), (dr 0, .inl (G.2 0, 64, .inl (DD 0))), (dr 1, .inl (G.2 0, 64, .inl (DD 1))), (dr 2, .inl (G.2 0, 64, .inl (DD 2))), (dr 3, .inl (G.2 0, 64, .inl (DD 3))), (dr 4, .inl (G.2 0, 64, .inl (DD 4))), (dr 5, .inl (G.2 0, 64, .inl (DD 5))), (ct0, .inl (G.2 0, 6, .inl ctf)), (st0, .inl (G.2 0, 4096, .inl (u.2.1))), (fs0, .inl (G.2 0, 4096, .inl (u.2.2.1))), (jn0, .inl (G.2 0, 64, .inl (u.2.2.2.1))), (rw0, .inl (G.2 0, 64, .inl (u.2.2.2.2))), (fd0, .inl (G.2 1, 40, .inr (.inl fdf))), (af0, .inl (G.2 3, 40, .inl aff)), (kO, .inl (G.2 4, 4, .inr (.inr (.inr (.inr (fun k => if k < 4 then some (kr k) else none)))))), (kr 0, .inl (G.2 0, 64, .inl (KP 0))), (kr 1, .inl (G.2 0, 64, .inl (KP 1))), (kr 2, .inl (G.2 0, 64, .inl (KP 2))), (kr 3, .inl (G.2 0, 64, .inl (KP 3)))] t.heap ∧ va_D (va_A [(m0, .inr (7, [.int th, .int mr, .long po, .ref dO, .ref sl, .ref ct0, .int mf, .int sp, .ref st0, .ref fs0, .ref jn0, .ref rw0, .ref fd0, .ref af0, .ref kO])), (dO, .inl (G.2 4, 6, .inr (.inr (.inr (.inr (fun k => if k < 6 then some (dr k) else none)))))), (dr 0, .inl (G.2 0, 64, .inl (DD 0))), (dr 1, .inl (G.2 0, 64, .inl (DD 1))), (dr 2, .inl (G.2 0, 64, .inl (DD 2))), (dr 3, .inl (G.2 0, 64, .inl (DD 3))), (dr 4, .inl (G.2 0, 64, .inl (DD 4))), (dr 5, .inl (G.2 0, 64, .inl (DD 5))), (ct0, .inl (G.2 0, 6, .inl ctf)), (st0, .inl (G.2 0, 4096, .inl stf)), (fs0, .inl (G.2 0, 4096, .inl fsf)), (jn0, .inl (G.2 0, 64, .inl jnf)), (rw0, .inl (G.2 0, 64, .inl rwf)), (fd0, .inl (G.2 1, 40, .inr (.inl fdf))), (af0, .inl (G.2 3, 40, .inl aff)), (kO, .inl (G.2 4, 4, .inr (.inr (.inr (.inr (fun k => if k < 4 then some (kr k) else none)))))), (kr 0, .inl (G.2 0, 64, .inl (KP 0))), (kr 1, .inl (G.2 0, 64, .inl (KP 1))), (kr 2, .inl (G.2 0, 64, .inl (KP 2))), (kr 3, .inl (G.2 0, 64, .inl (KP 3)))] sz) [(m0, .inr (7, [.int th, .int mr, .long po, .ref dO, .ref sl, .ref ct0, .int mf, .int (u.1), .ref st0, .ref fs0, .ref jn0, .ref rw0, .ref fd0, .ref af0, .ref kO])), (dO, .inl (G.2 4, 6, .inr (.inr (.inr (.inr (fun k => if k < 6 then some (dr k) else none)))))), (dr 0, .inl (G.2 0, 64, .inl (DD 0))), (dr 1, .inl (G.2 0, 64, .inl (DD 1))), (dr 2, .inl (G.2 0, 64, .inl (DD 2))), (dr 3, .inl (G.2 0, 64, .inl (DD 3))), (dr 4, .inl (G.2 0, 64, .inl (DD 4))), (dr 5, .inl (G.2 0, 64, .inl (DD 5))), (ct0, .inl (G.2 0, 6, .inl ctf)), (st0, .inl (G.2 0, 4096, .inl (u.2.1))), (fs0, .inl (G.2 0, 4096, .inl (u.2.2.1))), (jn0, .inl (G.2 0, 64, .inl (u.2.2.2.1))), (rw0, .inl (G.2 0, 64, .inl (u.2.2.2.2))), (fd0, .inl (G.2 1, 40, .inr (.inl fdf))), (af0, .inl (G.2 3, 40, .inl aff)), (kO, .inl (G.2 4, 4, .inr (.inr (.inr (.inr (fun k => if k < 4 then some (kr k) else none)))))), (kr 0, .inl (G.2 0, 64, .inl (KP 0))), (kr 1, .inl (G.2 0, 64, .inl (KP 1))), (kr 2, .inl (G.2 0, 64, .inl (KP 2))), (kr 3, .inl (G.2 0, 64, .inl (KP 3)))]) (va_A [(m0, .inr (7, [.int th, .int mr, .long po, .ref dO, .ref sl, .ref ct0, .int mf, .int sp, .ref st0, .ref fs0, .ref jn0, .ref rw0, .ref fd0, .ref af0, .ref kO])), (dO, .inl (G.2 4, 6, .inr (.inr (.inr (.inr (fun k => if k < 6 then some (dr k) else none)))))), (dr 0, .inl (G.2 0, 64, .inl (DD 0))), (dr 1, .inl (G.2 0, 64, .inl (DD 1))), (dr 2, .inl (G.2 0, 64, .inl (DD 2))), (dr 3, .inl (G.2 0, 64, .inl (DD 3))), (dr 4, .inl (G.2 0, 64, .inl (DD 4))), (dr 5, .inl (G.2 0, 64, .inl (DD 5))), (ct0, .inl (G.2 0, 6, .inl ctf)), (st0, .inl (G.2 0, 4096, .inl stf)), (fs0, .inl (G.2 0, 4096, .inl fsf)), (jn0, .inl (G.2 0, 64, .inl jnf)), (rw0, .inl (G.2 0, 64, .inl rwf)), (fd0, .inl (G.2 1, 40, .inr (.inl fdf))), (af0, .inl (G.2 3, 40, .inl aff)), (kO, .inl (G.2 4, 4, .inr (.inr (.inr (.inr (fun k => if k < 4 then some (kr k) else none)))))), (kr 0, .inl (G.2 0, 64, .inl (KP 0))), (kr 1, .inl (G.2 0, 64, .inl (KP 1))), (kr 2, .inl (G.2 0, 64, .inl (KP 2))), (kr 3, .inl (G.2 0, 64, .inl (KP 3)))] sz)) 0 0 (va_A [(m0, .inr (7, [.int th, .int mr, .long po, .ref dO, .ref sl, .ref ct0, .int mf, .int sp, .ref st0, .ref fs0, .ref jn0, .ref rw0, .ref fd0, .ref af0, .ref kO])), (dO, .inl (G.2 4, 6, .inr (.inr (.inr (.inr (fun k => if k < 6 then some (dr k) else none)))))), (dr 0, .inl (G.2 0, 64, .inl (DD 0))), (dr 1, .inl (G.2 0, 64, .inl (DD 1))), (dr 2, .inl (G.2 0, 64, .inl (DD 2))), (dr 3, .inl (G.2 0, 64, .inl (DD 3))), (dr 4, .inl (G.2 0, 64, .inl (DD 4))), (dr 5, .inl (G.2 0, 64, .inl (DD 5))), (ct0, .inl (G.2 0, 6, .inl ctf)), (st0, .inl (G.2 0, 4096, .inl stf)), (fs0, .inl (G.2 0, 4096, .inl fsf)), (jn0, .inl (G.2 0, 64, .inl jnf)), (rw0, .inl (G.2 0, 64, .inl rwf)), (fd0, .inl (G.2 1, 40, .inr (.inl fdf))), (af0, .inl (G.2 3, 40, .inl aff)), (kO, .inl (G.2 4, 4, .inr (.inr (.inr (.inr (fun k => if k < 4 then some (kr k) else none)))))), (kr 0, .inl (G.2 0, 64, .inl (KP 0))), (kr 1, .inl (G.2 0, 64, .inl (KP 1))), (kr 2, .inl (G.2 0, 64, .inl (KP 2))), (kr 3, .inl (G.2 0, 64, .inl (KP 3)))] sz) := by
  refine Met.ofW (cc := cX4_join) (maxL := 6) (ret := none) (by decide) rfl ?_
  intro p e s m args below meth c s₁ B hml hv
  obtain ⟨rfl, hsz, hP, hKK, hD0⟩ := hv
  obtain ⟨hK, hN, hR, hFW, hNC⟩ := id hKK
  have hx := B.exec
  have hb := B.bytes
  have hr := B.returns
  have hts0 := atoms_spec (ws := wl_X4_joinR) B.pre
  have hts : ∀ w ∈ lwg, w.before ([.ref m0, .ref rw0, .ref (dr g), .ref rw0] : List Value).toArray s = true := fun w hw => hts0 w (List.mem_cons_of_mem _ hw)
  have hown : s.vm.findClass RX4 = some m.cls := findClass_of_methodNamed B.named
  have hlocks := B.notSynchronized
  subst hsz
  have hD := hD0.self (sz := s.heap.size)
  generalize hAe : va_A [(m0, .inr (7, [.int th, .int mr, .long po, .ref dO, .ref sl, .ref ct0, .int mf, .int sp, .ref st0, .ref fs0, .ref jn0, .ref rw0, .ref fd0, .ref af0, .ref kO])), (dO, .inl (G.2 4, 6, .inr (.inr (.inr (.inr (fun k => if k < 6 then some (dr k) else none)))))), (dr 0, .inl (G.2 0, 64, .inl (DD 0))), (dr 1, .inl (G.2 0, 64, .inl (DD 1))), (dr 2, .inl (G.2 0, 64, .inl (DD 2))), (dr 3, .inl (G.2 0, 64, .inl (DD 3))), (dr 4, .inl (G.2 0, 64, .inl (DD 4))), (dr 5, .inl (G.2 0, 64, .inl (DD 5))), (ct0, .inl (G.2 0, 6, .inl ctf)), (st0, .inl (G.2 0, 4096, .inl stf)), (fs0, .inl (G.2 0, 4096, .inl fsf)), (jn0, .inl (G.2 0, 64, .inl jnf)), (rw0, .inl (G.2 0, 64, .inl rwf)), (fd0, .inl (G.2 1, 40, .inr (.inl fdf))), (af0, .inl (G.2 3, 40, .inl aff)), (kO, .inl (G.2 4, 4, .inr (.inr (.inr (.inr (fun k => if k < 4 then some (kr k) else none)))))), (kr 0, .inl (G.2 0, 64, .inl (KP 0))), (kr 1, .inl (G.2 0, 64, .inl (KP 1))), (kr 2, .inl (G.2 0, 64, .inl (KP 2))), (kr 3, .inl (G.2 0, 64, .inl (KP 3)))] s.heap.size = A at hD ⊢
  have hA : ∀ q : Nat, s.heap.size ≤ q → A q := fun q h => by rw [← hAe]; exact Or.inr h
  have hS : va_S A s.heap s.heap [] := va_S.rf
  obtain ⟨QC, hQC⟩ : ∃ Z, Z = (va_Qv post (fun u t => PP G [(m0, .inr (7, [.int th, .int mr, .long po, .ref dO, .ref sl, .ref ct0, .int mf, .int (u.1), .ref st0, .ref fs0, .ref jn0, .ref rw0, .ref fd0, .ref af0, .ref kO])), (dO, .inl (G.2 4, 6, .inr (.inr (.inr (.inr (fun k => if k < 6 then some (dr k) else none)))))), (dr 0, .inl (G.2 0, 64, .inl (DD 0))), (dr 1, .inl (G.2 0, 64, .inl (DD 1))), (dr 2, .inl (G.2 0, 64, .inl (DD 2))), (dr 3, .inl (G.2 0, 64, .inl (DD 3))), (dr 4, .inl (G.2 0, 64, .inl (DD 4))), (dr 5, .inl (G.2 0, 64, .inl (DD 5))), (ct0, .inl (G.2 0, 6, .inl ctf)), (st0, .inl (G.2 0, 4096, .inl (u.2.1))), (fs0, .inl (G.2 0, 4096, .inl (u.2.2.1))), (jn0, .inl (G.2 0, 64, .inl (u.2.2.2.1))), (rw0, .inl (G.2 0, 64, .inl (u.2.2.2.2))), (fd0, .inl (G.2 1, 40, .inr (.inl fdf))), (af0, .inl (G.2 3, 40, .inl aff)), (kO, .inl (G.2 4, 4, .inr (.inr (.inr (.inr (fun k => if k < 4 then some (kr k) else none)))))), (kr 0, .inl (G.2 0, 64, .inl (KP 0))), (kr 1, .inl (G.2 0, 64, .inl (KP 1))), (kr 2, .inl (G.2 0, 64, .inl (KP 2))), (kr 3, .inl (G.2 0, 64, .inl (KP 3)))] t.heap ∧ va_D A [(m0, .inr (7, [.int th, .int mr, .long po, .ref dO, .ref sl, .ref ct0, .int mf, .int (u.1), .ref st0, .ref fs0, .ref jn0, .ref rw0, .ref fd0, .ref af0, .ref kO])), (dO, .inl (G.2 4, 6, .inr (.inr (.inr (.inr (fun k => if k < 6 then some (dr k) else none)))))), (dr 0, .inl (G.2 0, 64, .inl (DD 0))), (dr 1, .inl (G.2 0, 64, .inl (DD 1))), (dr 2, .inl (G.2 0, 64, .inl (DD 2))), (dr 3, .inl (G.2 0, 64, .inl (DD 3))), (dr 4, .inl (G.2 0, 64, .inl (DD 4))), (dr 5, .inl (G.2 0, 64, .inl (DD 5))), (ct0, .inl (G.2 0, 6, .inl ctf)), (st0, .inl (G.2 0, 4096, .inl (u.2.1))), (fs0, .inl (G.2 0, 4096, .inl (u.2.2.1))), (jn0, .inl (G.2 0, 64, .inl (u.2.2.2.1))), (rw0, .inl (G.2 0, 64, .inl (u.2.2.2.2))), (fd0, .inl (G.2 1, 40, .inr (.inl fdf))), (af0, .inl (G.2 3, 40, .inl aff)), (kO, .inl (G.2 4, 4, .inr (.inr (.inr (.inr (fun k => if k < 4 then some (kr k) else none)))))), (kr 0, .inl (G.2 0, 64, .inl (KP 0))), (kr 1, .inl (G.2 0, 64, .inl (KP 1))), (kr 2, .inl (G.2 0, 64, .inl (KP 2))), (kr 3, .inl (G.2 0, 64, .inl (KP 3)))]) A) := ⟨_, rfl⟩
  rw [← hQC]
  have hP : PP G [(m0, .inr (7, [.int th, .int mr, .long po, .ref dO, .ref sl, .ref ct0, .int mf, .int sp, .ref st0, .ref fs0, .ref jn0, .ref rw0, .ref fd0, .ref af0, .ref kO])), (dO, .inl (G.2 4, 6, .inr (.inr (.inr (.inr (fun k => if k < 6 then some (dr k) else none)))))), (dr 0, .inl (G.2 0, 64, .inl (DD 0))), (dr 1, .inl (G.2 0, 64, .inl (DD 1))), (dr 2, .inl (G.2 0, 64, .inl (DD 2))), (dr 3, .inl (G.2 0, 64, .inl (DD 3))), (dr 4, .inl (G.2 0, 64, .inl (DD 4))), (dr 5, .inl (G.2 0, 64, .inl (DD 5))), (ct0, .inl (G.2 0, 6, .inl ctf)), (st0, .inl (G.2 0, 4096, .inl stf)), (fs0, .inl (G.2 0, 4096, .inl fsf)), (jn0, .inl (G.2 0, 64, .inl jnf)), (rw0, .inl (G.2 0, 64, .inl rwf)), (fd0, .inl (G.2 1, 40, .inr (.inl fdf))), (af0, .inl (G.2 3, 40, .inl aff)), (kO, .inl (G.2 4, 4, .inr (.inr (.inr (.inr (fun k => if k < 4 then some (kr k) else none)))))), (kr 0, .inl (G.2 0, 64, .inl (KP 0))), (kr 1, .inl (G.2 0, 64, .inl (KP 1))), (kr 2, .inl (G.2 0, 64, .inl (KP 2))), (kr 3, .inl (G.2 0, 64, .inl (KP 3)))] s.heap := hP
  have hl := lv_entry ([.ref m0, .ref rw0, .ref (dr g), .ref rw0]) (n := 6) (Nat.le_of_ble_eq_true rfl)
  rw [lg_entry_eq]
  generalize (lg_sl ([.ref m0, .ref rw0, .ref (dr g), .ref rw0]) ++ List.replicate (6 - (lg_sl ([.ref m0, .ref rw0, .ref (dr g), .ref rw0])).length) Slot.unset).toArray = ls at hl ⊢
  have hl : lv_has ls 6 [(0, .ref m0), (1, .ref rw0), (2, .ref (dr g)), (3, .ref rw0)] := hl
  have loop13 : ∀ (K88 : Int32 → (Nat → Int32) → (Nat → Int32) → (Nat → Int32) → Prop), True → (∀ (i4 : Int32) (stf' : Nat → Int32) (fsf' : Nat → Int32) (jnf' : Nat → Int32) (ls : Array Slot) (H : Heap) (locs : List Loc), lv_has ls 6 [(0, .ref m0), (1, .ref rw0), (2, .ref (dr g)), (3, .ref rw0), (4, .int i4)] → PP G [(m0, .inr (7, [.int th, .int mr, .long po, .ref dO, .ref sl, .ref ct0, .int mf, .int (sp + (1 : Int32)), .ref st0, .ref fs0, .ref jn0, .ref rw0, .ref fd0, .ref af0, .ref kO])), (dO, .inl (G.2 4, 6, .inr (.inr (.inr (.inr (fun k => if k < 6 then some (dr k) else none)))))), (dr 0, .inl (G.2 0, 64, .inl (DD 0))), (dr 1, .inl (G.2 0, 64, .inl (DD 1))), (dr 2, .inl (G.2 0, 64, .inl (DD 2))), (dr 3, .inl (G.2 0, 64, .inl (DD 3))), (dr 4, .inl (G.2 0, 64, .inl (DD 4))), (dr 5, .inl (G.2 0, 64, .inl (DD 5))), (ct0, .inl (G.2 0, 6, .inl ctf)), (st0, .inl (G.2 0, 4096, .inl stf')), (fs0, .inl (G.2 0, 4096, .inl fsf')), (jn0, .inl (G.2 0, 64, .inl jnf')), (rw0, .inl (G.2 0, 64, .inl rwf)), (fd0, .inl (G.2 1, 40, .inr (.inl fdf))), (af0, .inl (G.2 3, 40, .inl aff)), (kO, .inl (G.2 4, 4, .inr (.inr (.inr (.inr (fun k => if k < 4 then some (kr k) else none)))))), (kr 0, .inl (G.2 0, 64, .inl (KP 0))), (kr 1, .inl (G.2 0, 64, .inl (KP 1))), (kr 2, .inl (G.2 0, 64, .inl (KP 2))), (kr 3, .inl (G.2 0, 64, .inl (KP 3)))] H → va_D A [(m0, .inr (7, [.int th, .int mr, .long po, .ref dO, .ref sl, .ref ct0, .int mf, .int (sp + (1 : Int32)), .ref st0, .ref fs0, .ref jn0, .ref rw0, .ref fd0, .ref af0, .ref kO])), (dO, .inl (G.2 4, 6, .inr (.inr (.inr (.inr (fun k => if k < 6 then some (dr k) else none)))))), (dr 0, .inl (G.2 0, 64, .inl (DD 0))), (dr 1, .inl (G.2 0, 64, .inl (DD 1))), (dr 2, .inl (G.2 0, 64, .inl (DD 2))), (dr 3, .inl (G.2 0, 64, .inl (DD 3))), (dr 4, .inl (G.2 0, 64, .inl (DD 4))), (dr 5, .inl (G.2 0, 64, .inl (DD 5))), (ct0, .inl (G.2 0, 6, .inl ctf)), (st0, .inl (G.2 0, 4096, .inl stf')), (fs0, .inl (G.2 0, 4096, .inl fsf')), (jn0, .inl (G.2 0, 64, .inl jnf')), (rw0, .inl (G.2 0, 64, .inl rwf)), (fd0, .inl (G.2 1, 40, .inr (.inl fdf))), (af0, .inl (G.2 3, 40, .inl aff)), (kO, .inl (G.2 4, 4, .inr (.inr (.inr (.inr (fun k => if k < 4 then some (kr k) else none)))))), (kr 0, .inl (G.2 0, 64, .inl (KP 0))), (kr 1, .inl (G.2 0, 64, .inl (KP 1))), (kr 2, .inl (G.2 0, 64, .inl (KP 2))), (kr 3, .inl (G.2 0, 64, .inl (KP 3)))] → va_S A s.heap H locs → K88 i4 stf' fsf' jnf' → W p l e (headSpec (wl_X4_joinR) rm_X4_joinR).room s m ([.ref m0, .ref rw0, .ref (dr g), .ref rw0] : List Value).toArray below meth c H locs 0 0 (MQ below QC ([.ref m0, .ref rw0, .ref (dr g), .ref rw0] : List Value).toArray s 0 0 A) (F0 m 88 ls [])) → ∀ (n : Nat) (i4 : Int32) (stf' : Nat → Int32) (fsf' : Nat → Int32) (jnf' : Nat → Int32) (ls : Array Slot) (H : Heap) (locs : List Loc), lv_has ls 6 [(0, .ref m0), (1, .ref rw0), (2, .ref (dr g)), (3, .ref rw0), (4, .int i4)] → PP G [(m0, .inr (7, [.int th, .int mr, .long po, .ref dO, .ref sl, .ref ct0, .int mf, .int (sp + (1 : Int32)), .ref st0, .ref fs0, .ref jn0, .ref rw0, .ref fd0, .ref af0, .ref kO])), (dO, .inl (G.2 4, 6, .inr (.inr (.inr (.inr (fun k => if k < 6 then some (dr k) else none)))))), (dr 0, .inl (G.2 0, 64, .inl (DD 0))), (dr 1, .inl (G.2 0, 64, .inl (DD 1))), (dr 2, .inl (G.2 0, 64, .inl (DD 2))), (dr 3, .inl (G.2 0, 64, .inl (DD 3))), (dr 4, .inl (G.2 0, 64, .inl (DD 4))), (dr 5, .inl (G.2 0, 64, .inl (DD 5))), (ct0, .inl (G.2 0, 6, .inl ctf)), (st0, .inl (G.2 0, 4096, .inl stf')), (fs0, .inl (G.2 0, 4096, .inl fsf')), (jn0, .inl (G.2 0, 64, .inl jnf')), (rw0, .inl (G.2 0, 64, .inl rwf)), (fd0, .inl (G.2 1, 40, .inr (.inl fdf))), (af0, .inl (G.2 3, 40, .inl aff)), (kO, .inl (G.2 4, 4, .inr (.inr (.inr (.inr (fun k => if k < 4 then some (kr k) else none)))))), (kr 0, .inl (G.2 0, 64, .inl (KP 0))), (kr 1, .inl (G.2 0, 64, .inl (KP 1))), (kr 2, .inl (G.2 0, 64, .inl (KP 2))), (kr 3, .inl (G.2 0, 64, .inl (KP 3)))] H → va_D A [(m0, .inr (7, [.int th, .int mr, .long po, .ref dO, .ref sl, .ref ct0, .int mf, .int (sp + (1 : Int32)), .ref st0, .ref fs0, .ref jn0, .ref rw0, .ref fd0, .ref af0, .ref kO])), (dO, .inl (G.2 4, 6, .inr (.inr (.inr (.inr (fun k => if k < 6 then some (dr k) else none)))))), (dr 0, .inl (G.2 0, 64, .inl (DD 0))), (dr 1, .inl (G.2 0, 64, .inl (DD 1))), (dr 2, .inl (G.2 0, 64, .inl (DD 2))), (dr 3, .inl (G.2 0, 64, .inl (DD 3))), (dr 4, .inl (G.2 0, 64, .inl (DD 4))), (dr 5, .inl (G.2 0, 64, .inl (DD 5))), (ct0, .inl (G.2 0, 6, .inl ctf)), (st0, .inl (G.2 0, 4096, .inl stf')), (fs0, .inl (G.2 0, 4096, .inl fsf')), (jn0, .inl (G.2 0, 64, .inl jnf')), (rw0, .inl (G.2 0, 64, .inl rwf)), (fd0, .inl (G.2 1, 40, .inr (.inl fdf))), (af0, .inl (G.2 3, 40, .inl aff)), (kO, .inl (G.2 4, 4, .inr (.inr (.inr (.inr (fun k => if k < 4 then some (kr k) else none)))))), (kr 0, .inl (G.2 0, 64, .inl (KP 0))), (kr 1, .inl (G.2 0, 64, .inl (KP 1))), (kr 2, .inl (G.2 0, 64, .inl (KP 2))), (kr 3, .inl (G.2 0, 64, .inl (KP 3)))] → va_S A s.heap H locs → wX4_joinR_L13 post K88 sp DD rwf g n i4 stf' fsf' jnf' → W p l e (headSpec (wl_X4_joinR) rm_X4_joinR).room s m ([.ref m0, .ref rw0, .ref (dr g), .ref rw0] : List Value).toArray below meth c H locs 0 0 (MQ below QC ([.ref m0, .ref rw0, .ref (dr g), .ref rw0] : List Value).toArray s 0 0 A) (F0 m 13 ls []) := by
    intro K88 _ hexit88 n
    induction n with
    | zero => intro i4 stf' fsf' jnf' ls H locs hl hP hD hS h; exact False.elim h
    | succ n ih =>
      intro i4 stf' fsf' jnf' ls H locs hl hP hD hS h
      refine lv_iload hx hb dX4_join_13 (lv_at hl 4 rfl) ?_
      refine lv_bipush (v := 64) hx hb dX4_join_15 (by decide) ?_
      refine lv_icmp_ge (tgt := 88) hx hb dX4_join_17 (by decide) (fun hc => ?_) (fun hc => ?_)
      · have h := h.1 hc
        have hl := lv_sub (l' := [(0, .ref m0), (1, .ref rw0), (2, .ref (dr g)), (3, .ref rw0), (4, .int i4)]) hl [0, 1, 2, 3, 4] rfl
        exact hexit88 _ _ _ _ ls H locs hl hP hD hS h
      · have h := h.2 hc
        refine lv_aload_n hx hb dX4_join_20 rfl (lv_at hl 1 rfl) ?_
        refine lv_iload hx hb dX4_join_21 (lv_at hl 4 rfl) ?_
        obtain ⟨hin, h⟩ := h
        refine va_iald (D := G.1) hx hb hK hP 12 0 rfl rfl hin dX4_join_23 ?_
        refine lv_bipush (v := 64) hx hb dX4_join_24 (by decide) ?_
        refine lv_imul hx hb dX4_join_26 ?_
        refine lv_aload_n hx hb dX4_join_27 rfl (lv_at hl 2 rfl) ?_
        refine lv_iload hx hb dX4_join_28 (lv_at hl 4 rfl) ?_
        obtain ⟨hin, h⟩ := h
        refine va_iald (D := G.1) (f := DD g) hx hb hK hP (2 + g) 0 (famget6 (pre := [(m0, .inr (7, [.int th, .int mr, .long po, .ref dO, .ref sl, .ref ct0, .int mf, .int (sp + (1 : Int32)), .ref st0, .ref fs0, .ref jn0, .ref rw0, .ref fd0, .ref af0, .ref kO])), (dO, .inl (G.2 4, 6, .inr (.inr (.inr (.inr (fun k => if k < 6 then some (dr k) else none))))))]) (post := [(ct0, .inl (G.2 0, 6, .inl ctf)), (st0, .inl (G.2 0, 4096, .inl stf')), (fs0, .inl (G.2 0, 4096, .inl fsf')), (jn0, .inl (G.2 0, 64, .inl jnf')), (rw0, .inl (G.2 0, 64, .inl rwf)), (fd0, .inl (G.2 1, 40, .inr (.inl fdf))), (af0, .inl (G.2 3, 40, .inl aff)), (kO, .inl (G.2 4, 4, .inr (.inr (.inr (.inr (fun k => if k < 4 then some (kr k) else none)))))), (kr 0, .inl (G.2 0, 64, .inl (KP 0))), (kr 1, .inl (G.2 0, 64, .inl (KP 1))), (kr 2, .inl (G.2 0, 64, .inl (KP 2))), (kr 3, .inl (G.2 0, 64, .inl (KP 3)))]) (fun j => (dr j, .inl (G.2 0, 64, .inl (DD j)))) hg) rfl hin dX4_join_30 ?_
        refine lv_iadd hx hb dX4_join_31 ?_
        refine lv_topi (fun x_1 ex_1 => ?_)
        have h := h x_1 ex_1
        refine lv_istore hx hb dX4_join_32 hl (Nat.le_of_ble_eq_true rfl) rfl (fun ls hl => ?_)
        have hl : lv_has ls 6 [(5, .int x_1), (0, .ref m0), (1, .ref rw0), (2, .ref (dr g)), (3, .ref rw0), (4, .int i4)] := hl
        refine lv_aload_n hx hb dX4_join_34 rfl (lv_at hl 1 rfl) ?_
        refine va_get (D := G.1) (ci := 7) (v := .ref st0) (C := RX4) (T := TX4) (N := 15) hx hb hts igX4 hown hK hP 0 rfl rfl 8 (by decide) (hts _ q1013) (fun _ h9 => h9) rfl dX4_join_35 ?_
        refine lv_iload hx hb dX4_join_38 (lv_at hl 0 rfl) ?_
        obtain ⟨hin, h⟩ := h
        refine va_iald (D := G.1) hx hb hK hP 9 0 rfl rfl hin dX4_join_40 ?_
        refine lv_aload_n hx hb dX4_join_41 rfl (lv_at hl 1 rfl) ?_
        refine va_get (D := G.1) (ci := 7) (v := .int (sp + (1 : Int32))) (C := RX4) (T := TX4) (N := 15) hx hb hts igX4 hown hK hP 0 rfl rfl 7 (by decide) (hts _ q1012) (fun _ h9 => h9) rfl dX4_join_42 ?_
        refine lv_icmp_eq (tgt := 68) hx hb dX4_join_45 (by decide) (fun hc => ?_) (fun hc => ?_)
        · have h := h.1 hc
          refine lv_aload_n hx hb dX4_join_68 rfl (lv_at hl 1 rfl) ?_
          refine va_get (D := G.1) (ci := 7) (v := .ref jn0) (C := RX4) (T := TX4) (N := 15) hx hb hts igX4 hown hK hP 0 rfl rfl 10 (by decide) (hts _ q1015) (fun _ h9 => h9) rfl dX4_join_69 ?_
          refine lv_iload hx hb dX4_join_72 (lv_at hl 5 rfl) ?_
          refine lv_aload_n hx hb dX4_join_74 rfl (lv_at hl 1 rfl) ?_
          refine va_get (D := G.1) (ci := 7) (v := .ref fs0) (C := RX4) (T := TX4) (N := 15) hx hb hts igX4 hown hK hP 0 rfl rfl 9 (by decide) (hts _ q1014) (fun _ h9 => h9) rfl dX4_join_75 ?_
          refine lv_iload hx hb dX4_join_78 (lv_at hl 0 rfl) ?_
          obtain ⟨hin, h⟩ := h
          refine va_iald (D := G.1) hx hb hK hP 10 0 rfl rfl hin dX4_join_80 ?_
          obtain ⟨hin, h⟩ := h
          refine va_iast (D := G.1) hx hb hK hP hD hS 11 0 rfl rfl hin dX4_join_81 (fun H locs hP hD hS => ?_)
          have hP : PP G [(m0, .inr (7, [.int th, .int mr, .long po, .ref dO, .ref sl, .ref ct0, .int mf, .int (sp + (1 : Int32)), .ref st0, .ref fs0, .ref jn0, .ref rw0, .ref fd0, .ref af0, .ref kO])), (dO, .inl (G.2 4, 6, .inr (.inr (.inr (.inr (fun k => if k < 6 then some (dr k) else none)))))), (dr 0, .inl (G.2 0, 64, .inl (DD 0))), (dr 1, .inl (G.2 0, 64, .inl (DD 1))), (dr 2, .inl (G.2 0, 64, .inl (DD 2))), (dr 3, .inl (G.2 0, 64, .inl (DD 3))), (dr 4, .inl (G.2 0, 64, .inl (DD 4))), (dr 5, .inl (G.2 0, 64, .inl (DD 5))), (ct0, .inl (G.2 0, 6, .inl ctf)), (st0, .inl (G.2 0, 4096, .inl stf')), (fs0, .inl (G.2 0, 4096, .inl fsf')), (jn0, .inl (G.2 0, 64, .inl (upd jnf' i4.toNatClampNeg (fsf' x_1.toNatClampNeg)))), (rw0, .inl (G.2 0, 64, .inl rwf)), (fd0, .inl (G.2 1, 40, .inr (.inl fdf))), (af0, .inl (G.2 3, 40, .inl aff)), (kO, .inl (G.2 4, 4, .inr (.inr (.inr (.inr (fun k => if k < 4 then some (kr k) else none)))))), (kr 0, .inl (G.2 0, 64, .inl (KP 0))), (kr 1, .inl (G.2 0, 64, .inl (KP 1))), (kr 2, .inl (G.2 0, 64, .inl (KP 2))), (kr 3, .inl (G.2 0, 64, .inl (KP 3)))] H := hP
          have hD : va_D A [(m0, .inr (7, [.int th, .int mr, .long po, .ref dO, .ref sl, .ref ct0, .int mf, .int (sp + (1 : Int32)), .ref st0, .ref fs0, .ref jn0, .ref rw0, .ref fd0, .ref af0, .ref kO])), (dO, .inl (G.2 4, 6, .inr (.inr (.inr (.inr (fun k => if k < 6 then some (dr k) else none)))))), (dr 0, .inl (G.2 0, 64, .inl (DD 0))), (dr 1, .inl (G.2 0, 64, .inl (DD 1))), (dr 2, .inl (G.2 0, 64, .inl (DD 2))), (dr 3, .inl (G.2 0, 64, .inl (DD 3))), (dr 4, .inl (G.2 0, 64, .inl (DD 4))), (dr 5, .inl (G.2 0, 64, .inl (DD 5))), (ct0, .inl (G.2 0, 6, .inl ctf)), (st0, .inl (G.2 0, 4096, .inl stf')), (fs0, .inl (G.2 0, 4096, .inl fsf')), (jn0, .inl (G.2 0, 64, .inl (upd jnf' i4.toNatClampNeg (fsf' x_1.toNatClampNeg)))), (rw0, .inl (G.2 0, 64, .inl rwf)), (fd0, .inl (G.2 1, 40, .inr (.inl fdf))), (af0, .inl (G.2 3, 40, .inl aff)), (kO, .inl (G.2 4, 4, .inr (.inr (.inr (.inr (fun k => if k < 4 then some (kr k) else none)))))), (kr 0, .inl (G.2 0, 64, .inl (KP 0))), (kr 1, .inl (G.2 0, 64, .inl (KP 1))), (kr 2, .inl (G.2 0, 64, .inl (KP 2))), (kr 3, .inl (G.2 0, 64, .inl (KP 3)))] := hD
          refine lv_iinc (v := (i4 + 1)) hx hb dX4_join_82 hl (k := 5) rfl (by rw [show Int32.ofInt 1 = 1 from by decide]) (Nat.le_of_ble_eq_true rfl) rfl (fun ls hl => ?_)
          have hl : lv_has ls 6 [(4, .int (i4 + 1)), (5, .int x_1), (0, .ref m0), (1, .ref rw0), (2, .ref (dr g)), (3, .ref rw0)] := hl
          refine lv_goto (tgt := 13) hx hb dX4_join_85 (by decide) ?_
          have hl := lv_sub (l' := [(0, .ref m0), (1, .ref rw0), (2, .ref (dr g)), (3, .ref rw0), (4, .int (i4 + 1))]) hl [2, 3, 4, 5, 0] rfl
          exact ih _ _ _ _ ls H locs hl hP hD hS h
        · have h := h.2 hc
          refine lv_aload_n hx hb dX4_join_48 rfl (lv_at hl 1 rfl) ?_
          refine va_get (D := G.1) (ci := 7) (v := .ref st0) (C := RX4) (T := TX4) (N := 15) hx hb hts igX4 hown hK hP 0 rfl rfl 8 (by decide) (hts _ q1013) (fun _ h9 => h9) rfl dX4_join_49 ?_
          refine lv_iload hx hb dX4_join_52 (lv_at hl 0 rfl) ?_
          refine lv_aload_n hx hb dX4_join_54 rfl (lv_at hl 1 rfl) ?_
          refine va_get (D := G.1) (ci := 7) (v := .int (sp + (1 : Int32))) (C := RX4) (T := TX4) (N := 15) hx hb hts igX4 hown hK hP 0 rfl rfl 7 (by decide) (hts _ q1012) (fun _ h9 => h9) rfl dX4_join_55 ?_
          obtain ⟨hin, h⟩ := h
          refine va_iast (D := G.1) hx hb hK hP hD hS 9 0 rfl rfl hin dX4_join_58 (fun H locs hP hD hS => ?_)
          have hP : PP G [(m0, .inr (7, [.int th, .int mr, .long po, .ref dO, .ref sl, .ref ct0, .int mf, .int (sp + (1 : Int32)), .ref st0, .ref fs0, .ref jn0, .ref rw0, .ref fd0, .ref af0, .ref kO])), (dO, .inl (G.2 4, 6, .inr (.inr (.inr (.inr (fun k => if k < 6 then some (dr k) else none)))))), (dr 0, .inl (G.2 0, 64, .inl (DD 0))), (dr 1, .inl (G.2 0, 64, .inl (DD 1))), (dr 2, .inl (G.2 0, 64, .inl (DD 2))), (dr 3, .inl (G.2 0, 64, .inl (DD 3))), (dr 4, .inl (G.2 0, 64, .inl (DD 4))), (dr 5, .inl (G.2 0, 64, .inl (DD 5))), (ct0, .inl (G.2 0, 6, .inl ctf)), (st0, .inl (G.2 0, 4096, .inl (upd stf' x_1.toNatClampNeg (sp + (1 : Int32))))), (fs0, .inl (G.2 0, 4096, .inl fsf')), (jn0, .inl (G.2 0, 64, .inl jnf')), (rw0, .inl (G.2 0, 64, .inl rwf)), (fd0, .inl (G.2 1, 40, .inr (.inl fdf))), (af0, .inl (G.2 3, 40, .inl aff)), (kO, .inl (G.2 4, 4, .inr (.inr (.inr (.inr (fun k => if k < 4 then some (kr k) else none)))))), (kr 0, .inl (G.2 0, 64, .inl (KP 0))), (kr 1, .inl (G.2 0, 64, .inl (KP 1))), (kr 2, .inl (G.2 0, 64, .inl (KP 2))), (kr 3, .inl (G.2 0, 64, .inl (KP 3)))] H := hP
          have hD : va_D A [(m0, .inr (7, [.int th, .int mr, .long po, .ref dO, .ref sl, .ref ct0, .int mf, .int (sp + (1 : Int32)), .ref st0, .ref fs0, .ref jn0, .ref rw0, .ref fd0, .ref af0, .ref kO])), (dO, .inl (G.2 4, 6, .inr (.inr (.inr (.inr (fun k => if k < 6 then some (dr k) else none)))))), (dr 0, .inl (G.2 0, 64, .inl (DD 0))), (dr 1, .inl (G.2 0, 64, .inl (DD 1))), (dr 2, .inl (G.2 0, 64, .inl (DD 2))), (dr 3, .inl (G.2 0, 64, .inl (DD 3))), (dr 4, .inl (G.2 0, 64, .inl (DD 4))), (dr 5, .inl (G.2 0, 64, .inl (DD 5))), (ct0, .inl (G.2 0, 6, .inl ctf)), (st0, .inl (G.2 0, 4096, .inl (upd stf' x_1.toNatClampNeg (sp + (1 : Int32))))), (fs0, .inl (G.2 0, 4096, .inl fsf')), (jn0, .inl (G.2 0, 64, .inl jnf')), (rw0, .inl (G.2 0, 64, .inl rwf)), (fd0, .inl (G.2 1, 40, .inr (.inl fdf))), (af0, .inl (G.2 3, 40, .inl aff)), (kO, .inl (G.2 4, 4, .inr (.inr (.inr (.inr (fun k => if k < 4 then some (kr k) else none)))))), (kr 0, .inl (G.2 0, 64, .inl (KP 0))), (kr 1, .inl (G.2 0, 64, .inl (KP 1))), (kr 2, .inl (G.2 0, 64, .inl (KP 2))), (kr 3, .inl (G.2 0, 64, .inl (KP 3)))] := hD
          refine lv_aload_n hx hb dX4_join_59 rfl (lv_at hl 1 rfl) ?_
          refine va_get (D := G.1) (ci := 7) (v := .ref fs0) (C := RX4) (T := TX4) (N := 15) hx hb hts igX4 hown hK hP 0 rfl rfl 9 (by decide) (hts _ q1014) (fun _ h9 => h9) rfl dX4_join_60 ?_
          refine lv_iload hx hb dX4_join_63 (lv_at hl 0 rfl) ?_
          refine lv_iload hx hb dX4_join_65 (lv_at hl 5 rfl) ?_
          obtain ⟨hin, h⟩ := h
          refine va_iast (D := G.1) hx hb hK hP hD hS 10 0 rfl rfl hin dX4_join_67 (fun H locs hP hD hS => ?_)
          have hP : PP G [(m0, .inr (7, [.int th, .int mr, .long po, .ref dO, .ref sl, .ref ct0, .int mf, .int (sp + (1 : Int32)), .ref st0, .ref fs0, .ref jn0, .ref rw0, .ref fd0, .ref af0, .ref kO])), (dO, .inl (G.2 4, 6, .inr (.inr (.inr (.inr (fun k => if k < 6 then some (dr k) else none)))))), (dr 0, .inl (G.2 0, 64, .inl (DD 0))), (dr 1, .inl (G.2 0, 64, .inl (DD 1))), (dr 2, .inl (G.2 0, 64, .inl (DD 2))), (dr 3, .inl (G.2 0, 64, .inl (DD 3))), (dr 4, .inl (G.2 0, 64, .inl (DD 4))), (dr 5, .inl (G.2 0, 64, .inl (DD 5))), (ct0, .inl (G.2 0, 6, .inl ctf)), (st0, .inl (G.2 0, 4096, .inl (upd stf' x_1.toNatClampNeg (sp + (1 : Int32))))), (fs0, .inl (G.2 0, 4096, .inl (upd fsf' x_1.toNatClampNeg i4))), (jn0, .inl (G.2 0, 64, .inl jnf')), (rw0, .inl (G.2 0, 64, .inl rwf)), (fd0, .inl (G.2 1, 40, .inr (.inl fdf))), (af0, .inl (G.2 3, 40, .inl aff)), (kO, .inl (G.2 4, 4, .inr (.inr (.inr (.inr (fun k => if k < 4 then some (kr k) else none)))))), (kr 0, .inl (G.2 0, 64, .inl (KP 0))), (kr 1, .inl (G.2 0, 64, .inl (KP 1))), (kr 2, .inl (G.2 0, 64, .inl (KP 2))), (kr 3, .inl (G.2 0, 64, .inl (KP 3)))] H := hP
          have hD : va_D A [(m0, .inr (7, [.int th, .int mr, .long po, .ref dO, .ref sl, .ref ct0, .int mf, .int (sp + (1 : Int32)), .ref st0, .ref fs0, .ref jn0, .ref rw0, .ref fd0, .ref af0, .ref kO])), (dO, .inl (G.2 4, 6, .inr (.inr (.inr (.inr (fun k => if k < 6 then some (dr k) else none)))))), (dr 0, .inl (G.2 0, 64, .inl (DD 0))), (dr 1, .inl (G.2 0, 64, .inl (DD 1))), (dr 2, .inl (G.2 0, 64, .inl (DD 2))), (dr 3, .inl (G.2 0, 64, .inl (DD 3))), (dr 4, .inl (G.2 0, 64, .inl (DD 4))), (dr 5, .inl (G.2 0, 64, .inl (DD 5))), (ct0, .inl (G.2 0, 6, .inl ctf)), (st0, .inl (G.2 0, 4096, .inl (upd stf' x_1.toNatClampNeg (sp + (1 : Int32))))), (fs0, .inl (G.2 0, 4096, .inl (upd fsf' x_1.toNatClampNeg i4))), (jn0, .inl (G.2 0, 64, .inl jnf')), (rw0, .inl (G.2 0, 64, .inl rwf)), (fd0, .inl (G.2 1, 40, .inr (.inl fdf))), (af0, .inl (G.2 3, 40, .inl aff)), (kO, .inl (G.2 4, 4, .inr (.inr (.inr (.inr (fun k => if k < 4 then some (kr k) else none)))))), (kr 0, .inl (G.2 0, 64, .inl (KP 0))), (kr 1, .inl (G.2 0, 64, .inl (KP 1))), (kr 2, .inl (G.2 0, 64, .inl (KP 2))), (kr 3, .inl (G.2 0, 64, .inl (KP 3)))] := hD
          refine lv_aload_n hx hb dX4_join_68 rfl (lv_at hl 1 rfl) ?_
          refine va_get (D := G.1) (ci := 7) (v := .ref jn0) (C := RX4) (T := TX4) (N := 15) hx hb hts igX4 hown hK hP 0 rfl rfl 10 (by decide) (hts _ q1015) (fun _ h9 => h9) rfl dX4_join_69 ?_
          refine lv_iload hx hb dX4_join_72 (lv_at hl 5 rfl) ?_
          refine lv_aload_n hx hb dX4_join_74 rfl (lv_at hl 1 rfl) ?_
          refine va_get (D := G.1) (ci := 7) (v := .ref fs0) (C := RX4) (T := TX4) (N := 15) hx hb hts igX4 hown hK hP 0 rfl rfl 9 (by decide) (hts _ q1014) (fun _ h9 => h9) rfl dX4_join_75 ?_
          refine lv_iload hx hb dX4_join_78 (lv_at hl 0 rfl) ?_
          obtain ⟨hin, h⟩ := h
          refine va_iald (D := G.1) hx hb hK hP 10 0 rfl rfl hin dX4_join_80 ?_
          obtain ⟨hin, h⟩ := h
          refine va_iast (D := G.1) hx hb hK hP hD hS 11 0 rfl rfl hin dX4_join_81 (fun H locs hP hD hS => ?_)
          have hP : PP G [(m0, .inr (7, [.int th, .int mr, .long po, .ref dO, .ref sl, .ref ct0, .int mf, .int (sp + (1 : Int32)), .ref st0, .ref fs0, .ref jn0, .ref rw0, .ref fd0, .ref af0, .ref kO])), (dO, .inl (G.2 4, 6, .inr (.inr (.inr (.inr (fun k => if k < 6 then some (dr k) else none)))))), (dr 0, .inl (G.2 0, 64, .inl (DD 0))), (dr 1, .inl (G.2 0, 64, .inl (DD 1))), (dr 2, .inl (G.2 0, 64, .inl (DD 2))), (dr 3, .inl (G.2 0, 64, .inl (DD 3))), (dr 4, .inl (G.2 0, 64, .inl (DD 4))), (dr 5, .inl (G.2 0, 64, .inl (DD 5))), (ct0, .inl (G.2 0, 6, .inl ctf)), (st0, .inl (G.2 0, 4096, .inl (upd stf' x_1.toNatClampNeg (sp + (1 : Int32))))), (fs0, .inl (G.2 0, 4096, .inl (upd fsf' x_1.toNatClampNeg i4))), (jn0, .inl (G.2 0, 64, .inl (upd jnf' i4.toNatClampNeg ((upd fsf' x_1.toNatClampNeg i4) x_1.toNatClampNeg)))), (rw0, .inl (G.2 0, 64, .inl rwf)), (fd0, .inl (G.2 1, 40, .inr (.inl fdf))), (af0, .inl (G.2 3, 40, .inl aff)), (kO, .inl (G.2 4, 4, .inr (.inr (.inr (.inr (fun k => if k < 4 then some (kr k) else none)))))), (kr 0, .inl (G.2 0, 64, .inl (KP 0))), (kr 1, .inl (G.2 0, 64, .inl (KP 1))), (kr 2, .inl (G.2 0, 64, .inl (KP 2))), (kr 3, .inl (G.2 0, 64, .inl (KP 3)))] H := hP
          have hD : va_D A [(m0, .inr (7, [.int th, .int mr, .long po, .ref dO, .ref sl, .ref ct0, .int mf, .int (sp + (1 : Int32)), .ref st0, .ref fs0, .ref jn0, .ref rw0, .ref fd0, .ref af0, .ref kO])), (dO, .inl (G.2 4, 6, .inr (.inr (.inr (.inr (fun k => if k < 6 then some (dr k) else none)))))), (dr 0, .inl (G.2 0, 64, .inl (DD 0))), (dr 1, .inl (G.2 0, 64, .inl (DD 1))), (dr 2, .inl (G.2 0, 64, .inl (DD 2))), (dr 3, .inl (G.2 0, 64, .inl (DD 3))), (dr 4, .inl (G.2 0, 64, .inl (DD 4))), (dr 5, .inl (G.2 0, 64, .inl (DD 5))), (ct0, .inl (G.2 0, 6, .inl ctf)), (st0, .inl (G.2 0, 4096, .inl (upd stf' x_1.toNatClampNeg (sp + (1 : Int32))))), (fs0, .inl (G.2 0, 4096, .inl (upd fsf' x_1.toNatClampNeg i4))), (jn0, .inl (G.2 0, 64, .inl (upd jnf' i4.toNatClampNeg ((upd fsf' x_1.toNatClampNeg i4) x_1.toNatClampNeg)))), (rw0, .inl (G.2 0, 64, .inl rwf)), (fd0, .inl (G.2 1, 40, .inr (.inl fdf))), (af0, .inl (G.2 3, 40, .inl aff)), (kO, .inl (G.2 4, 4, .inr (.inr (.inr (.inr (fun k => if k < 4 then some (kr k) else none)))))), (kr 0, .inl (G.2 0, 64, .inl (KP 0))), (kr 1, .inl (G.2 0, 64, .inl (KP 1))), (kr 2, .inl (G.2 0, 64, .inl (KP 2))), (kr 3, .inl (G.2 0, 64, .inl (KP 3)))] := hD
          refine lv_iinc (v := (i4 + 1)) hx hb dX4_join_82 hl (k := 5) rfl (by rw [show Int32.ofInt 1 = 1 from by decide]) (Nat.le_of_ble_eq_true rfl) rfl (fun ls hl => ?_)
          have hl : lv_has ls 6 [(4, .int (i4 + 1)), (5, .int x_1), (0, .ref m0), (1, .ref rw0), (2, .ref (dr g)), (3, .ref rw0)] := hl
          refine lv_goto (tgt := 13) hx hb dX4_join_85 (by decide) ?_
          have hl := lv_sub (l' := [(0, .ref m0), (1, .ref rw0), (2, .ref (dr g)), (3, .ref rw0), (4, .int (i4 + 1))]) hl [2, 3, 4, 5, 0] rfl
          exact ih _ _ _ _ ls H locs hl hP hD hS h
  have loop91 : ∀ (K115 : Int32 → (Nat → Int32) → Prop) (stf' : Nat → Int32) (fsf' : Nat → Int32) (jnf' : Nat → Int32), True → (∀ (i4 : Int32) (rwf' : Nat → Int32) (ls : Array Slot) (H : Heap) (locs : List Loc), lv_has ls 6 [(0, .ref m0), (1, .ref rw0), (2, .ref (dr g)), (3, .ref rw0), (4, .int i4)] → PP G [(m0, .inr (7, [.int th, .int mr, .long po, .ref dO, .ref sl, .ref ct0, .int mf, .int (sp + (1 : Int32)), .ref st0, .ref fs0, .ref jn0, .ref rw0, .ref fd0, .ref af0, .ref kO])), (dO, .inl (G.2 4, 6, .inr (.inr (.inr (.inr (fun k => if k < 6 then some (dr k) else none)))))), (dr 0, .inl (G.2 0, 64, .inl (DD 0))), (dr 1, .inl (G.2 0, 64, .inl (DD 1))), (dr 2, .inl (G.2 0, 64, .inl (DD 2))), (dr 3, .inl (G.2 0, 64, .inl (DD 3))), (dr 4, .inl (G.2 0, 64, .inl (DD 4))), (dr 5, .inl (G.2 0, 64, .inl (DD 5))), (ct0, .inl (G.2 0, 6, .inl ctf)), (st0, .inl (G.2 0, 4096, .inl stf')), (fs0, .inl (G.2 0, 4096, .inl fsf')), (jn0, .inl (G.2 0, 64, .inl jnf')), (rw0, .inl (G.2 0, 64, .inl rwf')), (fd0, .inl (G.2 1, 40, .inr (.inl fdf))), (af0, .inl (G.2 3, 40, .inl aff)), (kO, .inl (G.2 4, 4, .inr (.inr (.inr (.inr (fun k => if k < 4 then some (kr k) else none)))))), (kr 0, .inl (G.2 0, 64, .inl (KP 0))), (kr 1, .inl (G.2 0, 64, .inl (KP 1))), (kr 2, .inl (G.2 0, 64, .inl (KP 2))), (kr 3, .inl (G.2 0, 64, .inl (KP 3)))] H → va_D A [(m0, .inr (7, [.int th, .int mr, .long po, .ref dO, .ref sl, .ref ct0, .int mf, .int (sp + (1 : Int32)), .ref st0, .ref fs0, .ref jn0, .ref rw0, .ref fd0, .ref af0, .ref kO])), (dO, .inl (G.2 4, 6, .inr (.inr (.inr (.inr (fun k => if k < 6 then some (dr k) else none)))))), (dr 0, .inl (G.2 0, 64, .inl (DD 0))), (dr 1, .inl (G.2 0, 64, .inl (DD 1))), (dr 2, .inl (G.2 0, 64, .inl (DD 2))), (dr 3, .inl (G.2 0, 64, .inl (DD 3))), (dr 4, .inl (G.2 0, 64, .inl (DD 4))), (dr 5, .inl (G.2 0, 64, .inl (DD 5))), (ct0, .inl (G.2 0, 6, .inl ctf)), (st0, .inl (G.2 0, 4096, .inl stf')), (fs0, .inl (G.2 0, 4096, .inl fsf')), (jn0, .inl (G.2 0, 64, .inl jnf')), (rw0, .inl (G.2 0, 64, .inl rwf')), (fd0, .inl (G.2 1, 40, .inr (.inl fdf))), (af0, .inl (G.2 3, 40, .inl aff)), (kO, .inl (G.2 4, 4, .inr (.inr (.inr (.inr (fun k => if k < 4 then some (kr k) else none)))))), (kr 0, .inl (G.2 0, 64, .inl (KP 0))), (kr 1, .inl (G.2 0, 64, .inl (KP 1))), (kr 2, .inl (G.2 0, 64, .inl (KP 2))), (kr 3, .inl (G.2 0, 64, .inl (KP 3)))] → va_S A s.heap H locs → K115 i4 rwf' → W p l e (headSpec (wl_X4_joinR) rm_X4_joinR).room s m ([.ref m0, .ref rw0, .ref (dr g), .ref rw0] : List Value).toArray below meth c H locs 0 0 (MQ below QC ([.ref m0, .ref rw0, .ref (dr g), .ref rw0] : List Value).toArray s 0 0 A) (F0 m 115 ls [])) → ∀ (n : Nat) (i4 : Int32) (rwf' : Nat → Int32) (ls : Array Slot) (H : Heap) (locs : List Loc), lv_has ls 6 [(0, .ref m0), (1, .ref rw0), (2, .ref (dr g)), (3, .ref rw0), (4, .int i4)] → PP G [(m0, .inr (7, [.int th, .int mr, .long po, .ref dO, .ref sl, .ref ct0, .int mf, .int (sp + (1 : Int32)), .ref st0, .ref fs0, .ref jn0, .ref rw0, .ref fd0, .ref af0, .ref kO])), (dO, .inl (G.2 4, 6, .inr (.inr (.inr (.inr (fun k => if k < 6 then some (dr k) else none)))))), (dr 0, .inl (G.2 0, 64, .inl (DD 0))), (dr 1, .inl (G.2 0, 64, .inl (DD 1))), (dr 2, .inl (G.2 0, 64, .inl (DD 2))), (dr 3, .inl (G.2 0, 64, .inl (DD 3))), (dr 4, .inl (G.2 0, 64, .inl (DD 4))), (dr 5, .inl (G.2 0, 64, .inl (DD 5))), (ct0, .inl (G.2 0, 6, .inl ctf)), (st0, .inl (G.2 0, 4096, .inl stf')), (fs0, .inl (G.2 0, 4096, .inl fsf')), (jn0, .inl (G.2 0, 64, .inl jnf')), (rw0, .inl (G.2 0, 64, .inl rwf')), (fd0, .inl (G.2 1, 40, .inr (.inl fdf))), (af0, .inl (G.2 3, 40, .inl aff)), (kO, .inl (G.2 4, 4, .inr (.inr (.inr (.inr (fun k => if k < 4 then some (kr k) else none)))))), (kr 0, .inl (G.2 0, 64, .inl (KP 0))), (kr 1, .inl (G.2 0, 64, .inl (KP 1))), (kr 2, .inl (G.2 0, 64, .inl (KP 2))), (kr 3, .inl (G.2 0, 64, .inl (KP 3)))] H → va_D A [(m0, .inr (7, [.int th, .int mr, .long po, .ref dO, .ref sl, .ref ct0, .int mf, .int (sp + (1 : Int32)), .ref st0, .ref fs0, .ref jn0, .ref rw0, .ref fd0, .ref af0, .ref kO])), (dO, .inl (G.2 4, 6, .inr (.inr (.inr (.inr (fun k => if k < 6 then some (dr k) else none)))))), (dr 0, .inl (G.2 0, 64, .inl (DD 0))), (dr 1, .inl (G.2 0, 64, .inl (DD 1))), (dr 2, .inl (G.2 0, 64, .inl (DD 2))), (dr 3, .inl (G.2 0, 64, .inl (DD 3))), (dr 4, .inl (G.2 0, 64, .inl (DD 4))), (dr 5, .inl (G.2 0, 64, .inl (DD 5))), (ct0, .inl (G.2 0, 6, .inl ctf)), (st0, .inl (G.2 0, 4096, .inl stf')), (fs0, .inl (G.2 0, 4096, .inl fsf')), (jn0, .inl (G.2 0, 64, .inl jnf')), (rw0, .inl (G.2 0, 64, .inl rwf')), (fd0, .inl (G.2 1, 40, .inr (.inl fdf))), (af0, .inl (G.2 3, 40, .inl aff)), (kO, .inl (G.2 4, 4, .inr (.inr (.inr (.inr (fun k => if k < 4 then some (kr k) else none)))))), (kr 0, .inl (G.2 0, 64, .inl (KP 0))), (kr 1, .inl (G.2 0, 64, .inl (KP 1))), (kr 2, .inl (G.2 0, 64, .inl (KP 2))), (kr 3, .inl (G.2 0, 64, .inl (KP 3)))] → va_S A s.heap H locs → wX4_joinR_L91 post K115 jnf' n i4 rwf' → W p l e (headSpec (wl_X4_joinR) rm_X4_joinR).room s m ([.ref m0, .ref rw0, .ref (dr g), .ref rw0] : List Value).toArray below meth c H locs 0 0 (MQ below QC ([.ref m0, .ref rw0, .ref (dr g), .ref rw0] : List Value).toArray s 0 0 A) (F0 m 91 ls []) := by
    intro K115 stf' fsf' jnf' _ hexit115 n
    induction n with
    | zero => intro i4 rwf' ls H locs hl hP hD hS h; exact False.elim h
    | succ n ih =>
      intro i4 rwf' ls H locs hl hP hD hS h
      refine lv_iload hx hb dX4_join_91 (lv_at hl 4 rfl) ?_
      refine lv_bipush (v := 64) hx hb dX4_join_93 (by decide) ?_
      refine lv_icmp_ge (tgt := 115) hx hb dX4_join_95 (by decide) (fun hc => ?_) (fun hc => ?_)
      · have h := h.1 hc
        have hl := lv_sub (l' := [(0, .ref m0), (1, .ref rw0), (2, .ref (dr g)), (3, .ref rw0), (4, .int i4)]) hl [0, 1, 2, 3, 4] rfl
        exact hexit115 _ _ ls H locs hl hP hD hS h
      · have h := h.2 hc
        refine lv_aload_n hx hb dX4_join_98 rfl (lv_at hl 3 rfl) ?_
        refine lv_iload hx hb dX4_join_99 (lv_at hl 4 rfl) ?_
        refine lv_aload_n hx hb dX4_join_101 rfl (lv_at hl 0 rfl) ?_
        refine va_get (D := G.1) (ci := 7) (v := .ref jn0) (C := RX4) (T := TX4) (N := 15) hx hb hts igX4 hown hK hP 0 rfl rfl 10 (by decide) (hts _ q1015) (fun _ h9 => h9) rfl dX4_join_102 ?_
        refine lv_iload hx hb dX4_join_105 (lv_at hl 4 rfl) ?_
        obtain ⟨hin, h⟩ := h
        refine va_iald (D := G.1) hx hb hK hP 11 0 rfl rfl hin dX4_join_107 ?_
        obtain ⟨hin, h⟩ := h
        refine va_iast (D := G.1) hx hb hK hP hD hS 12 0 rfl rfl hin dX4_join_108 (fun H locs hP hD hS => ?_)
        have hP : PP G [(m0, .inr (7, [.int th, .int mr, .long po, .ref dO, .ref sl, .ref ct0, .int mf, .int (sp + (1 : Int32)), .ref st0, .ref fs0, .ref jn0, .ref rw0, .ref fd0, .ref af0, .ref kO])), (dO, .inl (G.2 4, 6, .inr (.inr (.inr (.inr (fun k => if k < 6 then some (dr k) else none)))))), (dr 0, .inl (G.2 0, 64, .inl (DD 0))), (dr 1, .inl (G.2 0, 64, .inl (DD 1))), (dr 2, .inl (G.2 0, 64, .inl (DD 2))), (dr 3, .inl (G.2 0, 64, .inl (DD 3))), (dr 4, .inl (G.2 0, 64, .inl (DD 4))), (dr 5, .inl (G.2 0, 64, .inl (DD 5))), (ct0, .inl (G.2 0, 6, .inl ctf)), (st0, .inl (G.2 0, 4096, .inl stf')), (fs0, .inl (G.2 0, 4096, .inl fsf')), (jn0, .inl (G.2 0, 64, .inl jnf')), (rw0, .inl (G.2 0, 64, .inl (upd rwf' i4.toNatClampNeg (jnf' i4.toNatClampNeg)))), (fd0, .inl (G.2 1, 40, .inr (.inl fdf))), (af0, .inl (G.2 3, 40, .inl aff)), (kO, .inl (G.2 4, 4, .inr (.inr (.inr (.inr (fun k => if k < 4 then some (kr k) else none)))))), (kr 0, .inl (G.2 0, 64, .inl (KP 0))), (kr 1, .inl (G.2 0, 64, .inl (KP 1))), (kr 2, .inl (G.2 0, 64, .inl (KP 2))), (kr 3, .inl (G.2 0, 64, .inl (KP 3)))] H := hP
        have hD : va_D A [(m0, .inr (7, [.int th, .int mr, .long po, .ref dO, .ref sl, .ref ct0, .int mf, .int (sp + (1 : Int32)), .ref st0, .ref fs0, .ref jn0, .ref rw0, .ref fd0, .ref af0, .ref kO])), (dO, .inl (G.2 4, 6, .inr (.inr (.inr (.inr (fun k => if k < 6 then some (dr k) else none)))))), (dr 0, .inl (G.2 0, 64, .inl (DD 0))), (dr 1, .inl (G.2 0, 64, .inl (DD 1))), (dr 2, .inl (G.2 0, 64, .inl (DD 2))), (dr 3, .inl (G.2 0, 64, .inl (DD 3))), (dr 4, .inl (G.2 0, 64, .inl (DD 4))), (dr 5, .inl (G.2 0, 64, .inl (DD 5))), (ct0, .inl (G.2 0, 6, .inl ctf)), (st0, .inl (G.2 0, 4096, .inl stf')), (fs0, .inl (G.2 0, 4096, .inl fsf')), (jn0, .inl (G.2 0, 64, .inl jnf')), (rw0, .inl (G.2 0, 64, .inl (upd rwf' i4.toNatClampNeg (jnf' i4.toNatClampNeg)))), (fd0, .inl (G.2 1, 40, .inr (.inl fdf))), (af0, .inl (G.2 3, 40, .inl aff)), (kO, .inl (G.2 4, 4, .inr (.inr (.inr (.inr (fun k => if k < 4 then some (kr k) else none)))))), (kr 0, .inl (G.2 0, 64, .inl (KP 0))), (kr 1, .inl (G.2 0, 64, .inl (KP 1))), (kr 2, .inl (G.2 0, 64, .inl (KP 2))), (kr 3, .inl (G.2 0, 64, .inl (KP 3)))] := hD
        refine lv_iinc (v := (i4 + 1)) hx hb dX4_join_109 hl (k := 4) rfl (by rw [show Int32.ofInt 1 = 1 from by decide]) (Nat.le_of_ble_eq_true rfl) rfl (fun ls hl => ?_)
        have hl : lv_has ls 6 [(4, .int (i4 + 1)), (0, .ref m0), (1, .ref rw0), (2, .ref (dr g)), (3, .ref rw0)] := hl
        refine lv_goto (tgt := 91) hx hb dX4_join_112 (by decide) ?_
        have hl := lv_sub (l' := [(0, .ref m0), (1, .ref rw0), (2, .ref (dr g)), (3, .ref rw0), (4, .int (i4 + 1))]) hl [1, 2, 3, 4, 0] rfl
        exact ih _ _ ls H locs hl hP hD hS h
  refine lv_aload_n hx hb dX4_join_0 rfl (lv_at hl 0 rfl) ?_
  refine lv_dup hx hb dX4_join_1 rfl ?_
  refine va_get (D := G.1) (ci := 7) (v := .int sp) (C := RX4) (T := TX4) (N := 15) hx hb hts igX4 hown hK hP 0 rfl rfl 7 (by decide) (hts _ q1012) (fun _ h9 => h9) rfl dX4_join_2 ?_
  refine lv_iconst (v := 1) hx hb dX4_join_5 (by decide) ?_
  refine lv_iadd hx hb dX4_join_6 ?_
  refine va_put (D := G.1) (ci := 7) (v := .int (sp + (1 : Int32))) (ty := .int) (C := RX4) (T := TX4) (N := 15) hx hb hts igX4 tyX4 tyX4_ok nmX4 hown hK hP hD hS 0 rfl rfl 7 (by decide) (hts _ q1012) (fun _ h9 => h9) rfl (by decide +kernel) rfl rfl (Nat.le_of_ble_eq_true rfl) dX4_join_7 (fun H locs hP hD hS => ?_)
  have hP : PP G [(m0, .inr (7, [.int th, .int mr, .long po, .ref dO, .ref sl, .ref ct0, .int mf, .int (sp + (1 : Int32)), .ref st0, .ref fs0, .ref jn0, .ref rw0, .ref fd0, .ref af0, .ref kO])), (dO, .inl (G.2 4, 6, .inr (.inr (.inr (.inr (fun k => if k < 6 then some (dr k) else none)))))), (dr 0, .inl (G.2 0, 64, .inl (DD 0))), (dr 1, .inl (G.2 0, 64, .inl (DD 1))), (dr 2, .inl (G.2 0, 64, .inl (DD 2))), (dr 3, .inl (G.2 0, 64, .inl (DD 3))), (dr 4, .inl (G.2 0, 64, .inl (DD 4))), (dr 5, .inl (G.2 0, 64, .inl (DD 5))), (ct0, .inl (G.2 0, 6, .inl ctf)), (st0, .inl (G.2 0, 4096, .inl stf)), (fs0, .inl (G.2 0, 4096, .inl fsf)), (jn0, .inl (G.2 0, 64, .inl jnf)), (rw0, .inl (G.2 0, 64, .inl rwf)), (fd0, .inl (G.2 1, 40, .inr (.inl fdf))), (af0, .inl (G.2 3, 40, .inl aff)), (kO, .inl (G.2 4, 4, .inr (.inr (.inr (.inr (fun k => if k < 4 then some (kr k) else none)))))), (kr 0, .inl (G.2 0, 64, .inl (KP 0))), (kr 1, .inl (G.2 0, 64, .inl (KP 1))), (kr 2, .inl (G.2 0, 64, .inl (KP 2))), (kr 3, .inl (G.2 0, 64, .inl (KP 3)))] H := hP
  have hD : va_D A [(m0, .inr (7, [.int th, .int mr, .long po, .ref dO, .ref sl, .ref ct0, .int mf, .int (sp + (1 : Int32)), .ref st0, .ref fs0, .ref jn0, .ref rw0, .ref fd0, .ref af0, .ref kO])), (dO, .inl (G.2 4, 6, .inr (.inr (.inr (.inr (fun k => if k < 6 then some (dr k) else none)))))), (dr 0, .inl (G.2 0, 64, .inl (DD 0))), (dr 1, .inl (G.2 0, 64, .inl (DD 1))), (dr 2, .inl (G.2 0, 64, .inl (DD 2))), (dr 3, .inl (G.2 0, 64, .inl (DD 3))), (dr 4, .inl (G.2 0, 64, .inl (DD 4))), (dr 5, .inl (G.2 0, 64, .inl (DD 5))), (ct0, .inl (G.2 0, 6, .inl ctf)), (st0, .inl (G.2 0, 4096, .inl stf)), (fs0, .inl (G.2 0, 4096, .inl fsf)), (jn0, .inl (G.2 0, 64, .inl jnf)), (rw0, .inl (G.2 0, 64, .inl rwf)), (fd0, .inl (G.2 1, 40, .inr (.inl fdf))), (af0, .inl (G.2 3, 40, .inl aff)), (kO, .inl (G.2 4, 4, .inr (.inr (.inr (.inr (fun k => if k < 4 then some (kr k) else none)))))), (kr 0, .inl (G.2 0, 64, .inl (KP 0))), (kr 1, .inl (G.2 0, 64, .inl (KP 1))), (kr 2, .inl (G.2 0, 64, .inl (KP 2))), (kr 3, .inl (G.2 0, 64, .inl (KP 3)))] := hD
  refine lv_iconst (v := 0) hx hb dX4_join_10 (by decide) ?_
  refine lv_istore hx hb dX4_join_11 hl (Nat.le_of_ble_eq_true rfl) rfl (fun ls hl => ?_)
  have hl : lv_has ls 6 [(4, .int (0 : Int32)), (0, .ref m0), (1, .ref rw0), (2, .ref (dr g)), (3, .ref rw0)] := hl
  have hl := lv_sub (l' := [(0, .ref m0), (1, .ref rw0), (2, .ref (dr g)), (3, .ref rw0), (4, .int (0 : Int32))]) hl [1, 2, 3, 4, 0] rfl
  obtain ⟨nF, h⟩ := h
  refine loop13 _ trivial ?_ nF (0 : Int32) stf fsf jnf _ _ _ hl hP hD hS h
  · intro i4 stf' fsf' jnf' ls H locs hl hP hD hS h
    refine lv_iconst (v := 0) hx hb dX4_join_88 (by decide) ?_
    refine lv_istore hx hb dX4_join_89 hl (Nat.le_of_ble_eq_true rfl) rfl (fun ls hl => ?_)
    have hl : lv_has ls 6 [(4, .int (0 : Int32)), (0, .ref m0), (1, .ref rw0), (2, .ref (dr g)), (3, .ref rw0)] := hl
    have hl := lv_sub (l' := [(0, .ref m0), (1, .ref rw0), (2, .ref (dr g)), (3, .ref rw0), (4, .int (0 : Int32))]) hl [1, 2, 3, 4, 0] rfl
    obtain ⟨nF, h⟩ := h
    refine loop91 _ stf' fsf' jnf' trivial ?_ nF (0 : Int32) rwf _ _ _ hl hP hD hS h
    · intro i4 rwf' ls H locs hl hP hD hS h
      subst hQC; exact W.vret hx hb hr (fun t ht hW => ⟨⟨((sp + (1 : Int32)), stf', fsf', jnf', rwf'), rfl, h, by rw [ht]; exact hP, hD⟩, hS.F ht⟩) hS.2.2 dX4_join_115
def wX4_joinK_L13 (post : Int32 × (Nat → Int32) × (Nat → Int32) × (Nat → Int32) × (Nat → Nat → Int32) → Prop) (K88 : Int32 → (Nat → Int32) → (Nat → Int32) → (Nat → Int32) → Prop) (sp : Int32) (DD : Nat → Nat → Int32) (KP : Nat → Nat → Int32) (lv : Nat) (gf : Nat) : Nat → Int32 → (Nat → Int32) → (Nat → Int32) → (Nat → Int32) → Prop
  | 0, _, _, _, _ => False
  | n+1, i4, stf', fsf', jnf' =>
    (((64 : Int32) ≤ i4) →
      K88 i4 stf' fsf' jnf'
    ) ∧ (¬ ((64 : Int32) ≤ i4) →
      vp_in i4 64 ∧
      vp_in i4 64 ∧
      ∀ x_1 : Int32, x_1 = (((KP lv i4.toNatClampNeg) * (64 : Int32)) + (DD gf i4.toNatClampNeg)) →
      vp_in x_1 4096 ∧
      (((stf' x_1.toNatClampNeg) = (sp + (1 : Int32))) →
        vp_in x_1 4096 ∧
        vp_in i4 64 ∧
        wX4_joinK_L13 post K88 sp DD KP lv gf n (i4 + 1) stf' fsf' (upd jnf' i4.toNatClampNeg (fsf' x_1.toNatClampNeg))
      ) ∧ (¬ ((stf' x_1.toNatClampNeg) = (sp + (1 : Int32))) →
        vp_in x_1 4096 ∧
        vp_in x_1 4096 ∧
        vp_in x_1 4096 ∧
        vp_in i4 64 ∧
        wX4_joinK_L13 post K88 sp DD KP lv gf n (i4 + 1) (upd stf' x_1.toNatClampNeg (sp + (1 : Int32))) (upd fsf' x_1.toNatClampNeg i4) (upd jnf' i4.toNatClampNeg ((upd fsf' x_1.toNatClampNeg i4) x_1.toNatClampNeg))
      )
    )
def wX4_joinK_L91 (post : Int32 × (Nat → Int32) × (Nat → Int32) × (Nat → Int32) × (Nat → Nat → Int32) → Prop) (K115 : Int32 → (Nat → Nat → Int32) → Prop) (gt : Nat) (jnf' : Nat → Int32) : Nat → Int32 → (Nat → Nat → Int32) → Prop
  | 0, _, _ => False
  | n+1, i4, DD' =>
    (((64 : Int32) ≤ i4) →
      K115 i4 DD'
    ) ∧ (¬ ((64 : Int32) ≤ i4) →
      vp_in i4 64 ∧
      vp_in i4 64 ∧
      wX4_joinK_L91 post K115 gt jnf' n (i4 + 1) (vf_upd DD' gt (upd (DD' gt) i4.toNatClampNeg (jnf' i4.toNatClampNeg)))
    )
def wX4_joinK (post : Int32 × (Nat → Int32) × (Nat → Int32) × (Nat → Int32) × (Nat → Nat → Int32) → Prop) (lv : Nat) (gf : Nat) (gt : Nat) (sp : Int32) (DD : Nat → Nat → Int32) (stf : Nat → Int32) (fsf : Nat → Int32) (jnf : Nat → Int32) (KP : Nat → Nat → Int32) : Prop :=
  ∃ nF, wX4_joinK_L13 post
    (fun i4 stf' fsf' jnf' =>
      ∃ nF, wX4_joinK_L91 post
        (fun i4 DD' =>
          post ((sp + (1 : Int32)), stf', fsf', jnf', DD')
        )
        gt jnf' nF (0 : Int32) DD
    )
    sp DD KP lv gf nF (0 : Int32) stf fsf jnf
abbrev wl_X4_joinK : List Cond := .code yX4_join cX4_join 6 none :: lwg
abbrev rm_X4_joinK : Room := { frames := 0, cells := 0, slots := 0, locals := 0 }
set_option maxHeartbeats 4000000 in
set_option maxRecDepth 100000 in
theorem kX4_joinK {post : Int32 × (Nat → Int32) × (Nat → Int32) × (Nat → Int32) × (Nat → Nat → Int32) → Prop} (l : Launch) (G : GT) (m0 : Nat) (dO : Nat) (sl : Nat) (ct0 : Nat) (st0 : Nat) (fs0 : Nat) (jn0 : Nat) (rw0 : Nat) (fd0 : Nat) (af0 : Nat) (kO : Nat) (dr : Nat → Nat) (kr : Nat → Nat) (sa : Nat → Nat) (lv : Nat) (gf : Nat) (gt : Nat) (th : Int32) (mr : Int32) (po : Int64) (mf : Int32) (sp : Int32) (DD : Nat → Nat → Int32) (ctf : Nat → Int32) (stf : Nat → Int32) (fsf : Nat → Int32) (jnf : Nat → Int32) (rwf : Nat → Int32) (fdf : Nat → Int64) (aff : Nat → Int32) (KP : Nat → Nat → Int32) (sn : Nat) (sq : Nat → Nat → Int32) (hl_ : lv < 4) (hgf : gf < 6) (hgt : gt < 6) (sz : Nat) (h : wX4_joinK post lv gf gt sp DD stf fsf jnf KP) : Met l yX4_join wl_X4_joinK rm_X4_joinK (va_Pc [.ref m0, .ref (kr lv), .ref (dr gf), .ref (dr gt)] (fun U => U.heap.size = sz ∧ PP G [(m0, .inr (7, [.int th, .int mr, .long po, .ref dO, .ref sl, .ref ct0, .int mf, .int sp, .ref st0, .ref fs0, .ref jn0, .ref rw0, .ref fd0, .ref af0, .ref kO])), (dO, .inl (G.2 4, 6, .inr (.inr (.inr (.inr (fun k => if k < 6 then some (dr k) else none)))))), (dr 0, .inl (G.2 0, 64, .inl (DD 0))), (dr 1, .inl (G.2 0, 64, .inl (DD 1))), (dr 2, .inl (G.2 0, 64, .inl (DD 2))), (dr 3, .inl (G.2 0, 64, .inl (DD 3))), (dr 4, .inl (G.2 0, 64, .inl (DD 4))), (dr 5, .inl (G.2 0, 64, .inl (DD 5))), (ct0, .inl (G.2 0, 6, .inl ctf)), (st0, .inl (G.2 0, 4096, .inl stf)), (fs0, .inl (G.2 0, 4096, .inl fsf)), (jn0, .inl (G.2 0, 64, .inl jnf)), (rw0, .inl (G.2 0, 64, .inl rwf)), (fd0, .inl (G.2 1, 40, .inr (.inl fdf))), (af0, .inl (G.2 3, 40, .inl aff)), (kO, .inl (G.2 4, 4, .inr (.inr (.inr (.inr (fun k => if k < 4 then some (kr k) else none)))))), (kr 0, .inl (G.2 0, 64, .inl (KP 0))), (kr 1, .inl (G.2 0, 64, .inl (KP 1))), (kr 2, .inl (G.2 0, 64, .inl (KP 2))), (kr 3, .inl (G.2 0, 64, .inl (KP 3)))] U.heap ∧ KK G U ∧ va_D (fun _ => True) [(m0, .inr (7, [.int th, .int mr, .long po, .ref dO, .ref sl, .ref ct0, .int mf, .int sp, .ref st0, .ref fs0, .ref jn0, .ref rw0, .ref fd0, .ref af0, .ref kO])), (dO, .inl (G.2 4, 6, .inr (.inr (.inr (.inr (fun k => if k < 6 then some (dr k) else none)))))), (dr 0, .inl (G.2 0, 64, .inl (DD 0))), (dr 1, .inl (G.2 0, 64, .inl (DD 1))), (dr 2, .inl (G.2 0, 64, .inl (DD 2))), (dr 3, .inl (G.2 0, 64, .inl (DD 3))), (dr 4, .inl (G.2 0, 64, .inl (DD 4))), (dr 5, .inl (G.2 0, 64, .inl (DD 5))), (ct0, .inl (G.2 0, 6, .inl ctf)), (st0, .inl (G.2 0, 4096, .inl stf)), (fs0, .inl (G.2 0, 4096, .inl fsf)), (jn0, .inl (G.2 0, 64, .inl jnf)), (rw0, .inl (G.2 0, 64, .inl rwf)), (fd0, .inl (G.2 1, 40, .inr (.inl fdf))), (af0, .inl (G.2 3, 40, .inl aff)), (kO, .inl (G.2 4, 4, .inr (.inr (.inr (.inr (fun k => if k < 4 then some (kr k) else none)))))), (kr 0, .inl (G.2 0, 64, .inl (KP 0))), (kr 1, .inl (G.2 0, 64, .inl (KP 1))), (kr 2, .inl (G.2 0, 64, .inl (KP 2))), (kr 3, .inl (G.2 0, 64, .inl (KP 3)))])) (va_Qv post (fun u t => PP G [(m0, .inr (7, [.int th, .int mr, .long po, .ref dO, .ref sl, .ref ct0, .int mf, .int (u.1), .ref st0, .ref fs0, .ref jn0, .ref rw0, .ref fd0, .ref af0, .ref kO])), (dO, .inl (G.2 4, 6, .inr (.inr (.inr (.inr (fun k => if k < 6 then some (dr k) else none)))))), (dr 0, .inl (G.2 0, 64, .inl ((u.2.2.2.2) 0))), (dr 1, .inl (G.2 0, 64, .inl ((u.2.2.2.2) 1))), (dr 2, .inl (G.2 0, 64, .inl ((u.2.2.2.2) 2))), (dr 3, .inl (G.2 0, 64, .inl ((u.2.2.2.2) 3))), (dr 4, .inl (G.2 0, 64, .inl ((u.2.2.2.2) 4))), (dr 5, .inl (G.2 0, 64, .inl ((u.2.2.2.2) 5))), (ct0, .inl (G.2 0, 6, .inl ctf)), (st0, .inl (G.2 0, 4096, .inl (u.2.1))), (fs0, .inl (G.2 0, 4096, .inl (u.2.2.1))), (jn0, .inl (G.2 0, 64, .inl (u.2.2.2.1))), (rw0, .inl (G.2 0, 64, .inl rwf)), (fd0, .inl (G.2 1, 40, .inr (.inl fdf))), (af0, .inl (G.2 3, 40, .inl aff)), (kO, .inl (G.2 4, 4, .inr (.inr (.inr (.inr (fun k => if k < 4 then some (kr k) else none)))))), (kr 0, .inl (G.2 0, 64, .inl (KP 0))), (kr 1, .inl (G.2 0, 64, .inl (KP 1))), (kr 2, .inl (G.2 0, 64, .inl (KP 2))), (kr 3, .inl (G.2 0, 64, .inl (KP 3)))] t.heap ∧ va_D (va_A [(m0, .inr (7, [.int th, .int mr, .long po, .ref dO, .ref sl, .ref ct0, .int mf, .int sp, .ref st0, .ref fs0, .ref jn0, .ref rw0, .ref fd0, .ref af0, .ref kO])), (dO, .inl (G.2 4, 6, .inr (.inr (.inr (.inr (fun k => if k < 6 then some (dr k) else none)))))), (dr 0, .inl (G.2 0, 64, .inl (DD 0))), (dr 1, .inl (G.2 0, 64, .inl (DD 1))), (dr 2, .inl (G.2 0, 64, .inl (DD 2))), (dr 3, .inl (G.2 0, 64, .inl (DD 3))), (dr 4, .inl (G.2 0, 64, .inl (DD 4))), (dr 5, .inl (G.2 0, 64, .inl (DD 5))), (ct0, .inl (G.2 0, 6, .inl ctf)), (st0, .inl (G.2 0, 4096, .inl stf)), (fs0, .inl (G.2 0, 4096, .inl fsf)), (jn0, .inl (G.2 0, 64, .inl jnf)), (rw0, .inl (G.2 0, 64, .inl rwf)), (fd0, .inl (G.2 1, 40, .inr (.inl fdf))), (af0, .inl (G.2 3, 40, .inl aff)), (kO, .inl (G.2 4, 4, .inr (.inr (.inr (.inr (fun k => if k < 4 then some (kr k) else none)))))), (kr 0, .inl (G.2 0, 64, .inl (KP 0))), (kr 1, .inl (G.2 0, 64, .inl (KP 1))), (kr 2, .inl (G.2 0, 64, .inl (KP 2))), (kr 3, .inl (G.2 0, 64, .inl (KP 3)))] sz) [(m0, .inr (7, [.int th, .int mr, .long po, .ref dO, .ref sl, .ref ct0, .int mf, .int (u.1), .ref st0, .ref fs0, .ref jn0, .ref rw0, .ref fd0, .ref af0, .ref kO])), (dO, .inl (G.2 4, 6, .inr (.inr (.inr (.inr (fun k => if k < 6 then some (dr k) else none)))))), (dr 0, .inl (G.2 0, 64, .inl ((u.2.2.2.2) 0))), (dr 1, .inl (G.2 0, 64, .inl ((u.2.2.2.2) 1))), (dr 2, .inl (G.2 0, 64, .inl ((u.2.2.2.2) 2))), (dr 3, .inl (G.2 0, 64, .inl ((u.2.2.2.2) 3))), (dr 4, .inl (G.2 0, 64, .inl ((u.2.2.2.2) 4))), (dr 5, .inl (G.2 0, 64, .inl ((u.2.2.2.2) 5))), (ct0, .inl (G.2 0, 6, .inl ctf)), (st0, .inl (G.2 0, 4096, .inl (u.2.1))), (fs0, .inl (G.2 0, 4096, .inl (u.2.2.1))), (jn0, .inl (G.2 0, 64, .inl (u.2.2.2.1))), (rw0, .inl (G.2 0, 64, .inl rwf)), (fd0, .inl (G.2 1, 40, .inr (.inl fdf))), (af0, .inl (G.2 3, 40, .inl aff)), (kO, .inl (G.2 4, 4, .inr (.inr (.inr (.inr (fun k => if k < 4 then some (kr k) else none)))))), (kr 0, .inl (G.2 0, 64, .inl (KP 0))), (kr 1, .inl (G.2 0, 64, .inl (KP 1))), (kr 2, .inl (G.2 0, 64, .inl (KP 2))), (kr 3, .inl (G.2 0, 64, .inl (KP 3)))]) (va_A [(m0, .inr (7, [.int th, .int mr, .long po, .ref dO, .ref sl, .ref ct0, .int mf, .int sp, .ref st0, .ref fs0, .ref jn0, .ref rw0, .ref fd0, .ref af0, .ref kO])), (dO, .inl (G.2 4, 6, .inr (.inr (.inr (.inr (fun k => if k < 6 then some (dr k) else none)))))), (dr 0, .inl (G.2 0, 64, .inl (DD 0))), (dr 1, .inl (G.2 0, 64, .inl (DD 1))), (dr 2, .inl (G.2 0, 64, .inl (DD 2))), (dr 3, .inl (G.2 0, 64, .inl (DD 3))), (dr 4, .inl (G.2 0, 64, .inl (DD 4))), (dr 5, .inl (G.2 0, 64, .inl (DD 5))), (ct0, .inl (G.2 0, 6, .inl ctf)), (st0, .inl (G.2 0, 4096, .inl stf)), (fs0, .inl (G.2 0, 4096, .inl fsf)), (jn0, .inl (G.2 0, 64, .inl jnf)), (rw0, .inl (G.2 0, 64, .inl rwf)), (fd0, .inl (G.2 1, 40, .inr (.inl fdf))), (af0, .inl (G.2 3, 40, .inl aff)), (kO, .inl (G.2 4, 4, .inr (.inr (.inr (.inr (fun k => if k < 4 then some (kr k) else none)))))), (kr 0, .inl (G.2 0, 64, .inl (KP 0))), (kr 1, .inl (G.2 0, 64, .inl (KP 1))), (kr 2, .inl (G.2 0, 64, .inl (KP 2))), (kr 3, .inl (G.2 0, 64, .inl (KP 3)))] sz)) 0 0 (va_A [(m0, .inr (7, [.int th, .int mr, .long po, .ref dO, .ref sl, .ref ct0, .int mf, .int sp, .ref st0, .ref fs0, .ref jn0, .ref rw0, .ref fd0, .ref af0, .ref kO])), (dO, .inl (G.2 4, 6, .inr (.inr (.inr (.inr (fun k => if k < 6 then some (dr k) else none)))))), (dr 0, .inl (G.2 0, 64, .inl (DD 0))), (dr 1, .inl (G.2 0, 64, .inl (DD 1))), (dr 2, .inl (G.2 0, 64, .inl (DD 2))), (dr 3, .inl (G.2 0, 64, .inl (DD 3))), (dr 4, .inl (G.2 0, 64, .inl (DD 4))), (dr 5, .inl (G.2 0, 64, .inl (DD 5))), (ct0, .inl (G.2 0, 6, .inl ctf)), (st0, .inl (G.2 0, 4096, .inl stf)), (fs0, .inl (G.2 0, 4096, .inl fsf)), (jn0, .inl (G.2 0, 64, .inl jnf)), (rw0, .inl (G.2 0, 64, .inl rwf)), (fd0, .inl (G.2 1, 40, .inr (.inl fdf))), (af0, .inl (G.2 3, 40, .inl aff)), (kO, .inl (G.2 4, 4, .inr (.inr (.inr (.inr (fun k => if k < 4 then some (kr k) else none)))))), (kr 0, .inl (G.2 0, 64, .inl (KP 0))), (kr 1, .inl (G.2 0, 64, .inl (KP 1))), (kr 2, .inl (G.2 0, 64, .inl (KP 2))), (kr 3, .inl (G.2 0, 64, .inl (KP 3)))] sz) := by
  refine Met.ofW (cc := cX4_join) (maxL := 6) (ret := none) (by decide) rfl ?_
  intro p e s m args below meth c s₁ B hml hv
  obtain ⟨rfl, hsz, hP, hKK, hD0⟩ := hv
  obtain ⟨hK, hN, hR, hFW, hNC⟩ := id hKK
  have hx := B.exec
  have hb := B.bytes
  have hr := B.returns
  have hts0 := atoms_spec (ws := wl_X4_joinK) B.pre
  have hts : ∀ w ∈ lwg, w.before ([.ref m0, .ref (kr lv), .ref (dr gf), .ref (dr gt)] : List Value).toArray s = true := fun w hw => hts0 w (List.mem_cons_of_mem _ hw)
  have hown : s.vm.findClass RX4 = some m.cls := findClass_of_methodNamed B.named
  have hlocks := B.notSynchronized
  subst hsz
  have hD := hD0.self (sz := s.heap.size)
  generalize hAe : va_A [(m0, .inr (7, [.int th, .int mr, .long po, .ref dO, .ref sl, .ref ct0, .int mf, .int sp, .ref st0, .ref fs0, .ref jn0, .ref rw0, .ref fd0, .ref af0, .ref kO])), (dO, .inl (G.2 4, 6, .inr (.inr (.inr (.inr (fun k => if k < 6 then some (dr k) else none)))))), (dr 0, .inl (G.2 0, 64, .inl (DD 0))), (dr 1, .inl (G.2 0, 64, .inl (DD 1))), (dr 2, .inl (G.2 0, 64, .inl (DD 2))), (dr 3, .inl (G.2 0, 64, .inl (DD 3))), (dr 4, .inl (G.2 0, 64, .inl (DD 4))), (dr 5, .inl (G.2 0, 64, .inl (DD 5))), (ct0, .inl (G.2 0, 6, .inl ctf)), (st0, .inl (G.2 0, 4096, .inl stf)), (fs0, .inl (G.2 0, 4096, .inl fsf)), (jn0, .inl (G.2 0, 64, .inl jnf)), (rw0, .inl (G.2 0, 64, .inl rwf)), (fd0, .inl (G.2 1, 40, .inr (.inl fdf))), (af0, .inl (G.2 3, 40, .inl aff)), (kO, .inl (G.2 4, 4, .inr (.inr (.inr (.inr (fun k => if k < 4 then some (kr k) else none)))))), (kr 0, .inl (G.2 0, 64, .inl (KP 0))), (kr 1, .inl (G.2 0, 64, .inl (KP 1))), (kr 2, .inl (G.2 0, 64, .inl (KP 2))), (kr 3, .inl (G.2 0, 64, .inl (KP 3)))] s.heap.size = A at hD ⊢
  have hA : ∀ q : Nat, s.heap.size ≤ q → A q := fun q h => by rw [← hAe]; exact Or.inr h
  have hS : va_S A s.heap s.heap [] := va_S.rf
  obtain ⟨QC, hQC⟩ : ∃ Z, Z = (va_Qv post (fun u t => PP G [(m0, .inr (7, [.int th, .int mr, .long po, .ref dO, .ref sl, .ref ct0, .int mf, .int (u.1), .ref st0, .ref fs0, .ref jn0, .ref rw0, .ref fd0, .ref af0, .ref kO])), (dO, .inl (G.2 4, 6, .inr (.inr (.inr (.inr (fun k => if k < 6 then some (dr k) else none)))))), (dr 0, .inl (G.2 0, 64, .inl ((u.2.2.2.2) 0))), (dr 1, .inl (G.2 0, 64, .inl ((u.2.2.2.2) 1))), (dr 2, .inl (G.2 0, 64, .inl ((u.2.2.2.2) 2))), (dr 3, .inl (G.2 0, 64, .inl ((u.2.2.2.2) 3))), (dr 4, .inl (G.2 0, 64, .inl ((u.2.2.2.2) 4))), (dr 5, .inl (G.2 0, 64, .inl ((u.2.2.2.2) 5))), (ct0, .inl (G.2 0, 6, .inl ctf)), (st0, .inl (G.2 0, 4096, .inl (u.2.1))), (fs0, .inl (G.2 0, 4096, .inl (u.2.2.1))), (jn0, .inl (G.2 0, 64, .inl (u.2.2.2.1))), (rw0, .inl (G.2 0, 64, .inl rwf)), (fd0, .inl (G.2 1, 40, .inr (.inl fdf))), (af0, .inl (G.2 3, 40, .inl aff)), (kO, .inl (G.2 4, 4, .inr (.inr (.inr (.inr (fun k => if k < 4 then some (kr k) else none)))))), (kr 0, .inl (G.2 0, 64, .inl (KP 0))), (kr 1, .inl (G.2 0, 64, .inl (KP 1))), (kr 2, .inl (G.2 0, 64, .inl (KP 2))), (kr 3, .inl (G.2 0, 64, .inl (KP 3)))] t.heap ∧ va_D A [(m0, .inr (7, [.int th, .int mr, .long po, .ref dO, .ref sl, .ref ct0, .int mf, .int (u.1), .ref st0, .ref fs0, .ref jn0, .ref rw0, .ref fd0, .ref af0, .ref kO])), (dO, .inl (G.2 4, 6, .inr (.inr (.inr (.inr (fun k => if k < 6 then some (dr k) else none)))))), (dr 0, .inl (G.2 0, 64, .inl ((u.2.2.2.2) 0))), (dr 1, .inl (G.2 0, 64, .inl ((u.2.2.2.2) 1))), (dr 2, .inl (G.2 0, 64, .inl ((u.2.2.2.2) 2))), (dr 3, .inl (G.2 0, 64, .inl ((u.2.2.2.2) 3))), (dr 4, .inl (G.2 0, 64, .inl ((u.2.2.2.2) 4))), (dr 5, .inl (G.2 0, 64, .inl ((u.2.2.2.2) 5))), (ct0, .inl (G.2 0, 6, .inl ctf)), (st0, .inl (G.2 0, 4096, .inl (u.2.1))), (fs0, .inl (G.2 0, 4096, .inl (u.2.2.1))), (jn0, .inl (G.2 0, 64, .inl (u.2.2.2.1))), (rw0, .inl (G.2 0, 64, .inl rwf)), (fd0, .inl (G.2 1, 40, .inr (.inl fdf))), (af0, .inl (G.2 3, 40, .inl aff)), (kO, .inl (G.2 4, 4, .inr (.inr (.inr (.inr (fun k => if k < 4 then some (kr k) else none)))))), (kr 0, .inl (G.2 0, 64, .inl (KP 0))), (kr 1, .inl (G.2 0, 64, .inl (KP 1))), (kr 2, .inl (G.2 0, 64, .inl (KP 2))), (kr 3, .inl (G.2 0, 64, .inl (KP 3)))]) A) := ⟨_, rfl⟩
  rw [← hQC]
  have hP : PP G [(m0, .inr (7, [.int th, .int mr, .long po, .ref dO, .ref sl, .ref ct0, .int mf, .int sp, .ref st0, .ref fs0, .ref jn0, .ref rw0, .ref fd0, .ref af0, .ref kO])), (dO, .inl (G.2 4, 6, .inr (.inr (.inr (.inr (fun k => if k < 6 then some (dr k) else none)))))), (dr 0, .inl (G.2 0, 64, .inl (DD 0))), (dr 1, .inl (G.2 0, 64, .inl (DD 1))), (dr 2, .inl (G.2 0, 64, .inl (DD 2))), (dr 3, .inl (G.2 0, 64, .inl (DD 3))), (dr 4, .inl (G.2 0, 64, .inl (DD 4))), (dr 5, .inl (G.2 0, 64, .inl (DD 5))), (ct0, .inl (G.2 0, 6, .inl ctf)), (st0, .inl (G.2 0, 4096, .inl stf)), (fs0, .inl (G.2 0, 4096, .inl fsf)), (jn0, .inl (G.2 0, 64, .inl jnf)), (rw0, .inl (G.2 0, 64, .inl rwf)), (fd0, .inl (G.2 1, 40, .inr (.inl fdf))), (af0, .inl (G.2 3, 40, .inl aff)), (kO, .inl (G.2 4, 4, .inr (.inr (.inr (.inr (fun k => if k < 4 then some (kr k) else none)))))), (kr 0, .inl (G.2 0, 64, .inl (KP 0))), (kr 1, .inl (G.2 0, 64, .inl (KP 1))), (kr 2, .inl (G.2 0, 64, .inl (KP 2))), (kr 3, .inl (G.2 0, 64, .inl (KP 3)))] s.heap := hP
  have hl := lv_entry ([.ref m0, .ref (kr lv), .ref (dr gf), .ref (dr gt)]) (n := 6) (Nat.le_of_ble_eq_true rfl)
  rw [lg_entry_eq]
  generalize (lg_sl ([.ref m0, .ref (kr lv), .ref (dr gf), .ref (dr gt)]) ++ List.replicate (6 - (lg_sl ([.ref m0, .ref (kr lv), .ref (dr gf), .ref (dr gt)])).length) Slot.unset).toArray = ls at hl ⊢
  have hl : lv_has ls 6 [(0, .ref m0), (1, .ref (kr lv)), (2, .ref (dr gf)), (3, .ref (dr gt))] := hl
  have loop13 : ∀ (K88 : Int32 → (Nat → Int32) → (Nat → Int32) → (Nat → Int32) → Prop), True → (∀ (i4 : Int32) (stf' : Nat → Int32) (fsf' : Nat → Int32) (jnf' : Nat → Int32) (ls : Array Slot) (H : Heap) (locs : List Loc), lv_has ls 6 [(0, .ref m0), (1, .ref (kr lv)), (2, .ref (dr gf)), (3, .ref (dr gt)), (4, .int i4)] → PP G [(m0, .inr (7, [.int th, .int mr, .long po, .ref dO, .ref sl, .ref ct0, .int mf, .int (sp + (1 : Int32)), .ref st0, .ref fs0, .ref jn0, .ref rw0, .ref fd0, .ref af0, .ref kO])), (dO, .inl (G.2 4, 6, .inr (.inr (.inr (.inr (fun k => if k < 6 then some (dr k) else none)))))), (dr 0, .inl (G.2 0, 64, .inl (DD 0))), (dr 1, .inl (G.2 0, 64, .inl (DD 1))), (dr 2, .inl (G.2 0, 64, .inl (DD 2))), (dr 3, .inl (G.2 0, 64, .inl (DD 3))), (dr 4, .inl (G.2 0, 64, .inl (DD 4))), (dr 5, .inl (G.2 0, 64, .inl (DD 5))), (ct0, .inl (G.2 0, 6, .inl ctf)), (st0, .inl (G.2 0, 4096, .inl stf')), (fs0, .inl (G.2 0, 4096, .inl fsf')), (jn0, .inl (G.2 0, 64, .inl jnf')), (rw0, .inl (G.2 0, 64, .inl rwf)), (fd0, .inl (G.2 1, 40, .inr (.inl fdf))), (af0, .inl (G.2 3, 40, .inl aff)), (kO, .inl (G.2 4, 4, .inr (.inr (.inr (.inr (fun k => if k < 4 then some (kr k) else none)))))), (kr 0, .inl (G.2 0, 64, .inl (KP 0))), (kr 1, .inl (G.2 0, 64, .inl (KP 1))), (kr 2, .inl (G.2 0, 64, .inl (KP 2))), (kr 3, .inl (G.2 0, 64, .inl (KP 3)))] H → va_D A [(m0, .inr (7, [.int th, .int mr, .long po, .ref dO, .ref sl, .ref ct0, .int mf, .int (sp + (1 : Int32)), .ref st0, .ref fs0, .ref jn0, .ref rw0, .ref fd0, .ref af0, .ref kO])), (dO, .inl (G.2 4, 6, .inr (.inr (.inr (.inr (fun k => if k < 6 then some (dr k) else none)))))), (dr 0, .inl (G.2 0, 64, .inl (DD 0))), (dr 1, .inl (G.2 0, 64, .inl (DD 1))), (dr 2, .inl (G.2 0, 64, .inl (DD 2))), (dr 3, .inl (G.2 0, 64, .inl (DD 3))), (dr 4, .inl (G.2 0, 64, .inl (DD 4))), (dr 5, .inl (G.2 0, 64, .inl (DD 5))), (ct0, .inl (G.2 0, 6, .inl ctf)), (st0, .inl (G.2 0, 4096, .inl stf')), (fs0, .inl (G.2 0, 4096, .inl fsf')), (jn0, .inl (G.2 0, 64, .inl jnf')), (rw0, .inl (G.2 0, 64, .inl rwf)), (fd0, .inl (G.2 1, 40, .inr (.inl fdf))), (af0, .inl (G.2 3, 40, .inl aff)), (kO, .inl (G.2 4, 4, .inr (.inr (.inr (.inr (fun k => if k < 4 then some (kr k) else none)))))), (kr 0, .inl (G.2 0, 64, .inl (KP 0))), (kr 1, .inl (G.2 0, 64, .inl (KP 1))), (kr 2, .inl (G.2 0, 64, .inl (KP 2))), (kr 3, .inl (G.2 0, 64, .inl (KP 3)))] → va_S A s.heap H locs → K88 i4 stf' fsf' jnf' → W p l e (headSpec (wl_X4_joinK) rm_X4_joinK).room s m ([.ref m0, .ref (kr lv), .ref (dr gf), .ref (dr gt)] : List Value).toArray below meth c H locs 0 0 (MQ below QC ([.ref m0, .ref (kr lv), .ref (dr gf), .ref (dr gt)] : List Value).toArray s 0 0 A) (F0 m 88 ls [])) → ∀ (n : Nat) (i4 : Int32) (stf' : Nat → Int32) (fsf' : Nat → Int32) (jnf' : Nat → Int32) (ls : Array Slot) (H : Heap) (locs : List Loc), lv_has ls 6 [(0, .ref m0), (1, .ref (kr lv)), (2, .ref (dr gf)), (3, .ref (dr gt)), (4, .int i4)] → PP G [(m0, .inr (7, [.int th, .int mr, .long po, .ref dO, .ref sl, .ref ct0, .int mf, .int (sp + (1 : Int32)), .ref st0, .ref fs0, .ref jn0, .ref rw0, .ref fd0, .ref af0, .ref kO])), (dO, .inl (G.2 4, 6, .inr (.inr (.inr (.inr (fun k => if k < 6 then some (dr k) else none)))))), (dr 0, .inl (G.2 0, 64, .inl (DD 0))), (dr 1, .inl (G.2 0, 64, .inl (DD 1))), (dr 2, .inl (G.2 0, 64, .inl (DD 2))), (dr 3, .inl (G.2 0, 64, .inl (DD 3))), (dr 4, .inl (G.2 0, 64, .inl (DD 4))), (dr 5, .inl (G.2 0, 64, .inl (DD 5))), (ct0, .inl (G.2 0, 6, .inl ctf)), (st0, .inl (G.2 0, 4096, .inl stf')), (fs0, .inl (G.2 0, 4096, .inl fsf')), (jn0, .inl (G.2 0, 64, .inl jnf')), (rw0, .inl (G.2 0, 64, .inl rwf)), (fd0, .inl (G.2 1, 40, .inr (.inl fdf))), (af0, .inl (G.2 3, 40, .inl aff)), (kO, .inl (G.2 4, 4, .inr (.inr (.inr (.inr (fun k => if k < 4 then some (kr k) else none)))))), (kr 0, .inl (G.2 0, 64, .inl (KP 0))), (kr 1, .inl (G.2 0, 64, .inl (KP 1))), (kr 2, .inl (G.2 0, 64, .inl (KP 2))), (kr 3, .inl (G.2 0, 64, .inl (KP 3)))] H → va_D A [(m0, .inr (7, [.int th, .int mr, .long po, .ref dO, .ref sl, .ref ct0, .int mf, .int (sp + (1 : Int32)), .ref st0, .ref fs0, .ref jn0, .ref rw0, .ref fd0, .ref af0, .ref kO])), (dO, .inl (G.2 4, 6, .inr (.inr (.inr (.inr (fun k => if k < 6 then some (dr k) else none)))))), (dr 0, .inl (G.2 0, 64, .inl (DD 0))), (dr 1, .inl (G.2 0, 64, .inl (DD 1))), (dr 2, .inl (G.2 0, 64, .inl (DD 2))), (dr 3, .inl (G.2 0, 64, .inl (DD 3))), (dr 4, .inl (G.2 0, 64, .inl (DD 4))), (dr 5, .inl (G.2 0, 64, .inl (DD 5))), (ct0, .inl (G.2 0, 6, .inl ctf)), (st0, .inl (G.2 0, 4096, .inl stf')), (fs0, .inl (G.2 0, 4096, .inl fsf')), (jn0, .inl (G.2 0, 64, .inl jnf')), (rw0, .inl (G.2 0, 64, .inl rwf)), (fd0, .inl (G.2 1, 40, .inr (.inl fdf))), (af0, .inl (G.2 3, 40, .inl aff)), (kO, .inl (G.2 4, 4, .inr (.inr (.inr (.inr (fun k => if k < 4 then some (kr k) else none)))))), (kr 0, .inl (G.2 0, 64, .inl (KP 0))), (kr 1, .inl (G.2 0, 64, .inl (KP 1))), (kr 2, .inl (G.2 0, 64, .inl (KP 2))), (kr 3, .inl (G.2 0, 64, .inl (KP 3)))] → va_S A s.heap H locs → wX4_joinK_L13 post K88 sp DD KP lv gf n i4 stf' fsf' jnf' → W p l e (headSpec (wl_X4_joinK) rm_X4_joinK).room s m ([.ref m0, .ref (kr lv), .ref (dr gf), .ref (dr gt)] : List Value).toArray below meth c H locs 0 0 (MQ below QC ([.ref m0, .ref (kr lv), .ref (dr gf), .ref (dr gt)] : List Value).toArray s 0 0 A) (F0 m 13 ls []) := by
    intro K88 _ hexit88 n
    induction n with
    | zero => intro i4 stf' fsf' jnf' ls H locs hl hP hD hS h; exact False.elim h
    | succ n ih =>
      intro i4 stf' fsf' jnf' ls H locs hl hP hD hS h
      refine lv_iload hx hb dX4_join_13 (lv_at hl 4 rfl) ?_
      refine lv_bipush (v := 64) hx hb dX4_join_15 (by decide) ?_
      refine lv_icmp_ge (tgt := 88) hx hb dX4_join_17 (by decide) (fun hc => ?_) (fun hc => ?_)
      · have h := h.1 hc
        have hl := lv_sub (l' := [(0, .ref m0), (1, .ref (kr lv)), (2, .ref (dr gf)), (3, .ref (dr gt)), (4, .int i4)]) hl [0, 1, 2, 3, 4] rfl
        exact hexit88 _ _ _ _ ls H locs hl hP hD hS h
      · have h := h.2 hc
        refine lv_aload_n hx hb dX4_join_20 rfl (lv_at hl 1 rfl) ?_
        refine lv_iload hx hb dX4_join_21 (lv_at hl 4 rfl) ?_
        obtain ⟨hin, h⟩ := h
        refine va_iald (D := G.1) (f := KP lv) hx hb hK hP (16 + lv) 0 (famget4 (pre := [(m0, .inr (7, [.int th, .int mr, .long po, .ref dO, .ref sl, .ref ct0, .int mf, .int (sp + (1 : Int32)), .ref st0, .ref fs0, .ref jn0, .ref rw0, .ref fd0, .ref af0, .ref kO])), (dO, .inl (G.2 4, 6, .inr (.inr (.inr (.inr (fun k => if k < 6 then some (dr k) else none)))))), (dr 0, .inl (G.2 0, 64, .inl (DD 0))), (dr 1, .inl (G.2 0, 64, .inl (DD 1))), (dr 2, .inl (G.2 0, 64, .inl (DD 2))), (dr 3, .inl (G.2 0, 64, .inl (DD 3))), (dr 4, .inl (G.2 0, 64, .inl (DD 4))), (dr 5, .inl (G.2 0, 64, .inl (DD 5))), (ct0, .inl (G.2 0, 6, .inl ctf)), (st0, .inl (G.2 0, 4096, .inl stf')), (fs0, .inl (G.2 0, 4096, .inl fsf')), (jn0, .inl (G.2 0, 64, .inl jnf')), (rw0, .inl (G.2 0, 64, .inl rwf)), (fd0, .inl (G.2 1, 40, .inr (.inl fdf))), (af0, .inl (G.2 3, 40, .inl aff)), (kO, .inl (G.2 4, 4, .inr (.inr (.inr (.inr (fun k => if k < 4 then some (kr k) else none))))))]) (post := []) (fun j => (kr j, .inl (G.2 0, 64, .inl (KP j)))) hl_) rfl hin dX4_join_23 ?_
        refine lv_bipush (v := 64) hx hb dX4_join_24 (by decide) ?_
        refine lv_imul hx hb dX4_join_26 ?_
        refine lv_aload_n hx hb dX4_join_27 rfl (lv_at hl 2 rfl) ?_
        refine lv_iload hx hb dX4_join_28 (lv_at hl 4 rfl) ?_
        obtain ⟨hin, h⟩ := h
        refine va_iald (D := G.1) (f := DD gf) hx hb hK hP (2 + gf) 0 (famget6 (pre := [(m0, .inr (7, [.int th, .int mr, .long po, .ref dO, .ref sl, .ref ct0, .int mf, .int (sp + (1 : Int32)), .ref st0, .ref fs0, .ref jn0, .ref rw0, .ref fd0, .ref af0, .ref kO])), (dO, .inl (G.2 4, 6, .inr (.inr (.inr (.inr (fun k => if k < 6 then some (dr k) else none))))))]) (post := [(ct0, .inl (G.2 0, 6, .inl ctf)), (st0, .inl (G.2 0, 4096, .inl stf')), (fs0, .inl (G.2 0, 4096, .inl fsf')), (jn0, .inl (G.2 0, 64, .inl jnf')), (rw0, .inl (G.2 0, 64, .inl rwf)), (fd0, .inl (G.2 1, 40, .inr (.inl fdf))), (af0, .inl (G.2 3, 40, .inl aff)), (kO, .inl (G.2 4, 4, .inr (.inr (.inr (.inr (fun k => if k < 4 then some (kr k) else none)))))), (kr 0, .inl (G.2 0, 64, .inl (KP 0))), (kr 1, .inl (G.2 0, 64, .inl (KP 1))), (kr 2, .inl (G.2 0, 64, .inl (KP 2))), (kr 3, .inl (G.2 0, 64, .inl (KP 3)))]) (fun j => (dr j, .inl (G.2 0, 64, .inl (DD j)))) hgf) rfl hin dX4_join_30 ?_
        refine lv_iadd hx hb dX4_join_31 ?_
        refine lv_topi (fun x_1 ex_1 => ?_)
        have h := h x_1 ex_1
        refine lv_istore hx hb dX4_join_32 hl (Nat.le_of_ble_eq_true rfl) rfl (fun ls hl => ?_)
        have hl : lv_has ls 6 [(5, .int x_1), (0, .ref m0), (1, .ref (kr lv)), (2, .ref (dr gf)), (3, .ref (dr gt)), (4, .int i4)] := hl
        refine lv_aload_n hx hb dX4_join_34 rfl (lv_at hl 1 rfl) ?_
        refine va_get (D := G.1) (ci := 7) (v := .ref st0) (C := RX4) (T := TX4) (N := 15) hx hb hts igX4 hown hK hP 0 rfl rfl 8 (by decide) (hts _ q1013) (fun _ h9 => h9) rfl dX4_join_35 ?_
        refine lv_iload hx hb dX4_join_38 (lv_at hl 0 rfl) ?_
        obtain ⟨hin, h⟩ := h
        refine va_iald (D := G.1) hx hb hK hP 9 0 rfl rfl hin dX4_join_40 ?_
        refine lv_aload_n hx hb dX4_join_41 rfl (lv_at hl 1 rfl) ?_
        refine va_get (D := G.1) (ci := 7) (v := .int (sp + (1 : Int32))) (C := RX4) (T := TX4) (N := 15) hx hb hts igX4 hown hK hP 0 rfl rfl 7 (by decide) (hts _ q1012) (fun _ h9 => h9) rfl dX4_join_42 ?_
        refine lv_icmp_eq (tgt := 68) hx hb dX4_join_45 (by decide) (fun hc => ?_) (fun hc => ?_)
        · have h := h.1 hc
          refine lv_aload_n hx hb dX4_join_68 rfl (lv_at hl 1 rfl) ?_
          refine va_get (D := G.1) (ci := 7) (v := .ref jn0) (C := RX4) (T := TX4) (N := 15) hx hb hts igX4 hown hK hP 0 rfl rfl 10 (by decide) (hts _ q1015) (fun _ h9 => h9) rfl dX4_join_69 ?_
          refine lv_iload hx hb dX4_join_72 (lv_at hl 5 rfl) ?_
          refine lv_aload_n hx hb dX4_join_74 rfl (lv_at hl 1 rfl) ?_
          refine va_get (D := G.1) (ci := 7) (v := .ref fs0) (C := RX4) (T := TX4) (N := 15) hx hb hts igX4 hown hK hP 0 rfl rfl 9 (by decide) (hts _ q1014) (fun _ h9 => h9) rfl dX4_join_75 ?_
          refine lv_iload hx hb dX4_join_78 (lv_at hl 0 rfl) ?_
          obtain ⟨hin, h⟩ := h
          refine va_iald (D := G.1) hx hb hK hP 10 0 rfl rfl hin dX4_join_80 ?_
          obtain ⟨hin, h⟩ := h
          refine va_iast (D := G.1) hx hb hK hP hD hS 11 0 rfl rfl hin dX4_join_81 (fun H locs hP hD hS => ?_)
          have hP : PP G [(m0, .inr (7, [.int th, .int mr, .long po, .ref dO, .ref sl, .ref ct0, .int mf, .int (sp + (1 : Int32)), .ref st0, .ref fs0, .ref jn0, .ref rw0, .ref fd0, .ref af0, .ref kO])), (dO, .inl (G.2 4, 6, .inr (.inr (.inr (.inr (fun k => if k < 6 then some (dr k) else none)))))), (dr 0, .inl (G.2 0, 64, .inl (DD 0))), (dr 1, .inl (G.2 0, 64, .inl (DD 1))), (dr 2, .inl (G.2 0, 64, .inl (DD 2))), (dr 3, .inl (G.2 0, 64, .inl (DD 3))), (dr 4, .inl (G.2 0, 64, .inl (DD 4))), (dr 5, .inl (G.2 0, 64, .inl (DD 5))), (ct0, .inl (G.2 0, 6, .inl ctf)), (st0, .inl (G.2 0, 4096, .inl stf')), (fs0, .inl (G.2 0, 4096, .inl fsf')), (jn0, .inl (G.2 0, 64, .inl (upd jnf' i4.toNatClampNeg (fsf' x_1.toNatClampNeg)))), (rw0, .inl (G.2 0, 64, .inl rwf)), (fd0, .inl (G.2 1, 40, .inr (.inl fdf))), (af0, .inl (G.2 3, 40, .inl aff)), (kO, .inl (G.2 4, 4, .inr (.inr (.inr (.inr (fun k => if k < 4 then some (kr k) else none)))))), (kr 0, .inl (G.2 0, 64, .inl (KP 0))), (kr 1, .inl (G.2 0, 64, .inl (KP 1))), (kr 2, .inl (G.2 0, 64, .inl (KP 2))), (kr 3, .inl (G.2 0, 64, .inl (KP 3)))] H := hP
          have hD : va_D A [(m0, .inr (7, [.int th, .int mr, .long po, .ref dO, .ref sl, .ref ct0, .int mf, .int (sp + (1 : Int32)), .ref st0, .ref fs0, .ref jn0, .ref rw0, .ref fd0, .ref af0, .ref kO])), (dO, .inl (G.2 4, 6, .inr (.inr (.inr (.inr (fun k => if k < 6 then some (dr k) else none)))))), (dr 0, .inl (G.2 0, 64, .inl (DD 0))), (dr 1, .inl (G.2 0, 64, .inl (DD 1))), (dr 2, .inl (G.2 0, 64, .inl (DD 2))), (dr 3, .inl (G.2 0, 64, .inl (DD 3))), (dr 4, .inl (G.2 0, 64, .inl (DD 4))), (dr 5, .inl (G.2 0, 64, .inl (DD 5))), (ct0, .inl (G.2 0, 6, .inl ctf)), (st0, .inl (G.2 0, 4096, .inl stf')), (fs0, .inl (G.2 0, 4096, .inl fsf')), (jn0, .inl (G.2 0, 64, .inl (upd jnf' i4.toNatClampNeg (fsf' x_1.toNatClampNeg)))), (rw0, .inl (G.2 0, 64, .inl rwf)), (fd0, .inl (G.2 1, 40, .inr (.inl fdf))), (af0, .inl (G.2 3, 40, .inl aff)), (kO, .inl (G.2 4, 4, .inr (.inr (.inr (.inr (fun k => if k < 4 then some (kr k) else none)))))), (kr 0, .inl (G.2 0, 64, .inl (KP 0))), (kr 1, .inl (G.2 0, 64, .inl (KP 1))), (kr 2, .inl (G.2 0, 64, .inl (KP 2))), (kr 3, .inl (G.2 0, 64, .inl (KP 3)))] := hD
          refine lv_iinc (v := (i4 + 1)) hx hb dX4_join_82 hl (k := 5) rfl (by rw [show Int32.ofInt 1 = 1 from by decide]) (Nat.le_of_ble_eq_true rfl) rfl (fun ls hl => ?_)
          have hl : lv_has ls 6 [(4, .int (i4 + 1)), (5, .int x_1), (0, .ref m0), (1, .ref (kr lv)), (2, .ref (dr gf)), (3, .ref (dr gt))] := hl
          refine lv_goto (tgt := 13) hx hb dX4_join_85 (by decide) ?_
          have hl := lv_sub (l' := [(0, .ref m0), (1, .ref (kr lv)), (2, .ref (dr gf)), (3, .ref (dr gt)), (4, .int (i4 + 1))]) hl [2, 3, 4, 5, 0] rfl
          exact ih _ _ _ _ ls H locs hl hP hD hS h
        · have h := h.2 hc
          refine lv_aload_n hx hb dX4_join_48 rfl (lv_at hl 1 rfl) ?_
          refine va_get (D := G.1) (ci := 7) (v := .ref st0) (C := RX4) (T := TX4) (N := 15) hx hb hts igX4 hown hK hP 0 rfl rfl 8 (by decide) (hts _ q1013) (fun _ h9 => h9) rfl dX4_join_49 ?_
          refine lv_iload hx hb dX4_join_52 (lv_at hl 0 rfl) ?_
          refine lv_aload_n hx hb dX4_join_54 rfl (lv_at hl 1 rfl) ?_
          refine va_get (D := G.1) (ci := 7) (v := .int (sp + (1 : Int32))) (C := RX4) (T := TX4) (N := 15) hx hb hts igX4 hown hK hP 0 rfl rfl 7 (by decide) (hts _ q1012) (fun _ h9 => h9) rfl dX4_join_55 ?_
          obtain ⟨hin, h⟩ := h
          refine va_iast (D := G.1) hx hb hK hP hD hS 9 0 rfl rfl hin dX4_join_58 (fun H locs hP hD hS => ?_)
          have hP : PP G [(m0, .inr (7, [.int th, .int mr, .long po, .ref dO, .ref sl, .ref ct0, .int mf, .int (sp + (1 : Int32)), .ref st0, .ref fs0, .ref jn0, .ref rw0, .ref fd0, .ref af0, .ref kO])), (dO, .inl (G.2 4, 6, .inr (.inr (.inr (.inr (fun k => if k < 6 then some (dr k) else none)))))), (dr 0, .inl (G.2 0, 64, .inl (DD 0))), (dr 1, .inl (G.2 0, 64, .inl (DD 1))), (dr 2, .inl (G.2 0, 64, .inl (DD 2))), (dr 3, .inl (G.2 0, 64, .inl (DD 3))), (dr 4, .inl (G.2 0, 64, .inl (DD 4))), (dr 5, .inl (G.2 0, 64, .inl (DD 5))), (ct0, .inl (G.2 0, 6, .inl ctf)), (st0, .inl (G.2 0, 4096, .inl (upd stf' x_1.toNatClampNeg (sp + (1 : Int32))))), (fs0, .inl (G.2 0, 4096, .inl fsf')), (jn0, .inl (G.2 0, 64, .inl jnf')), (rw0, .inl (G.2 0, 64, .inl rwf)), (fd0, .inl (G.2 1, 40, .inr (.inl fdf))), (af0, .inl (G.2 3, 40, .inl aff)), (kO, .inl (G.2 4, 4, .inr (.inr (.inr (.inr (fun k => if k < 4 then some (kr k) else none)))))), (kr 0, .inl (G.2 0, 64, .inl (KP 0))), (kr 1, .inl (G.2 0, 64, .inl (KP 1))), (kr 2, .inl (G.2 0, 64, .inl (KP 2))), (kr 3, .inl (G.2 0, 64, .inl (KP 3)))] H := hP
          have hD : va_D A [(m0, .inr (7, [.int th, .int mr, .long po, .ref dO, .ref sl, .ref ct0, .int mf, .int (sp + (1 : Int32)), .ref st0, .ref fs0, .ref jn0, .ref rw0, .ref fd0, .ref af0, .ref kO])), (dO, .inl (G.2 4, 6, .inr (.inr (.inr (.inr (fun k => if k < 6 then some (dr k) else none)))))), (dr 0, .inl (G.2 0, 64, .inl (DD 0))), (dr 1, .inl (G.2 0, 64, .inl (DD 1))), (dr 2, .inl (G.2 0, 64, .inl (DD 2))), (dr 3, .inl (G.2 0, 64, .inl (DD 3))), (dr 4, .inl (G.2 0, 64, .inl (DD 4))), (dr 5, .inl (G.2 0, 64, .inl (DD 5))), (ct0, .inl (G.2 0, 6, .inl ctf)), (st0, .inl (G.2 0, 4096, .inl (upd stf' x_1.toNatClampNeg (sp + (1 : Int32))))), (fs0, .inl (G.2 0, 4096, .inl fsf')), (jn0, .inl (G.2 0, 64, .inl jnf')), (rw0, .inl (G.2 0, 64, .inl rwf)), (fd0, .inl (G.2 1, 40, .inr (.inl fdf))), (af0, .inl (G.2 3, 40, .inl aff)), (kO, .inl (G.2 4, 4, .inr (.inr (.inr (.inr (fun k => if k < 4 then some (kr k) else none)))))), (kr 0, .inl (G.2 0, 64, .inl (KP 0))), (kr 1, .inl (G.2 0, 64, .inl (KP 1))), (kr 2, .inl (G.2 0, 64, .inl (KP 2))), (kr 3, .inl (G.2 0, 64, .inl (KP 3)))] := hD
          refine lv_aload_n hx hb dX4_join_59 rfl (lv_at hl 1 rfl) ?_
          refine va_get (D := G.1) (ci := 7) (v := .ref fs0) (C := RX4) (T := TX4) (N := 15) hx hb hts igX4 hown hK hP 0 rfl rfl 9 (by decide) (hts _ q1014) (fun _ h9 => h9) rfl dX4_join_60 ?_
          refine lv_iload hx hb dX4_join_63 (lv_at hl 0 rfl) ?_
          refine lv_iload hx hb dX4_join_65 (lv_at hl 5 rfl) ?_
          obtain ⟨hin, h⟩ := h
          refine va_iast (D := G.1) hx hb hK hP hD hS 10 0 rfl rfl hin dX4_join_67 (fun H locs hP hD hS => ?_)
          have hP : PP G [(m0, .inr (7, [.int th, .int mr, .long po, .ref dO, .ref sl, .ref ct0, .int mf, .int (sp + (1 : Int32)), .ref st0, .ref fs0, .ref jn0, .ref rw0, .ref fd0, .ref af0, .ref kO])), (dO, .inl (G.2 4, 6, .inr (.inr (.inr (.inr (fun k => if k < 6 then some (dr k) else none)))))), (dr 0, .inl (G.2 0, 64, .inl (DD 0))), (dr 1, .inl (G.2 0, 64, .inl (DD 1))), (dr 2, .inl (G.2 0, 64, .inl (DD 2))), (dr 3, .inl (G.2 0, 64, .inl (DD 3))), (dr 4, .inl (G.2 0, 64, .inl (DD 4))), (dr 5, .inl (G.2 0, 64, .inl (DD 5))), (ct0, .inl (G.2 0, 6, .inl ctf)), (st0, .inl (G.2 0, 4096, .inl (upd stf' x_1.toNatClampNeg (sp + (1 : Int32))))), (fs0, .inl (G.2 0, 4096, .inl (upd fsf' x_1.toNatClampNeg i4))), (jn0, .inl (G.2 0, 64, .inl jnf')), (rw0, .inl (G.2 0, 64, .inl rwf)), (fd0, .inl (G.2 1, 40, .inr (.inl fdf))), (af0, .inl (G.2 3, 40, .inl aff)), (kO, .inl (G.2 4, 4, .inr (.inr (.inr (.inr (fun k => if k < 4 then some (kr k) else none)))))), (kr 0, .inl (G.2 0, 64, .inl (KP 0))), (kr 1, .inl (G.2 0, 64, .inl (KP 1))), (kr 2, .inl (G.2 0, 64, .inl (KP 2))), (kr 3, .inl (G.2 0, 64, .inl (KP 3)))] H := hP
          have hD : va_D A [(m0, .inr (7, [.int th, .int mr, .long po, .ref dO, .ref sl, .ref ct0, .int mf, .int (sp + (1 : Int32)), .ref st0, .ref fs0, .ref jn0, .ref rw0, .ref fd0, .ref af0, .ref kO])), (dO, .inl (G.2 4, 6, .inr (.inr (.inr (.inr (fun k => if k < 6 then some (dr k) else none)))))), (dr 0, .inl (G.2 0, 64, .inl (DD 0))), (dr 1, .inl (G.2 0, 64, .inl (DD 1))), (dr 2, .inl (G.2 0, 64, .inl (DD 2))), (dr 3, .inl (G.2 0, 64, .inl (DD 3))), (dr 4, .inl (G.2 0, 64, .inl (DD 4))), (dr 5, .inl (G.2 0, 64, .inl (DD 5))), (ct0, .inl (G.2 0, 6, .inl ctf)), (st0, .inl (G.2 0, 4096, .inl (upd stf' x_1.toNatClampNeg (sp + (1 : Int32))))), (fs0, .inl (G.2 0, 4096, .inl (upd fsf' x_1.toNatClampNeg i4))), (jn0, .inl (G.2 0, 64, .inl jnf')), (rw0, .inl (G.2 0, 64, .inl rwf)), (fd0, .inl (G.2 1, 40, .inr (.inl fdf))), (af0, .inl (G.2 3, 40, .inl aff)), (kO, .inl (G.2 4, 4, .inr (.inr (.inr (.inr (fun k => if k < 4 then some (kr k) else none)))))), (kr 0, .inl (G.2 0, 64, .inl (KP 0))), (kr 1, .inl (G.2 0, 64, .inl (KP 1))), (kr 2, .inl (G.2 0, 64, .inl (KP 2))), (kr 3, .inl (G.2 0, 64, .inl (KP 3)))] := hD
          refine lv_aload_n hx hb dX4_join_68 rfl (lv_at hl 1 rfl) ?_
          refine va_get (D := G.1) (ci := 7) (v := .ref jn0) (C := RX4) (T := TX4) (N := 15) hx hb hts igX4 hown hK hP 0 rfl rfl 10 (by decide) (hts _ q1015) (fun _ h9 => h9) rfl dX4_join_69 ?_
          refine lv_iload hx hb dX4_join_72 (lv_at hl 5 rfl) ?_
          refine lv_aload_n hx hb dX4_join_74 rfl (lv_at hl 1 rfl) ?_
          refine va_get (D := G.1) (ci := 7) (v := .ref fs0) (C := RX4) (T := TX4) (N := 15) hx hb hts igX4 hown hK hP 0 rfl rfl 9 (by decide) (hts _ q1014) (fun _ h9 => h9) rfl dX4_join_75 ?_
          refine lv_iload hx hb dX4_join_78 (lv_at hl 0 rfl) ?_
          obtain ⟨hin, h⟩ := h
          refine va_iald (D := G.1) hx hb hK hP 10 0 rfl rfl hin dX4_join_80 ?_
          obtain ⟨hin, h⟩ := h
          refine va_iast (D := G.1) hx hb hK hP hD hS 11 0 rfl rfl hin dX4_join_81 (fun H locs hP hD hS => ?_)
          have hP : PP G [(m0, .inr (7, [.int th, .int mr, .long po, .ref dO, .ref sl, .ref ct0, .int mf, .int (sp + (1 : Int32)), .ref st0, .ref fs0, .ref jn0, .ref rw0, .ref fd0, .ref af0, .ref kO])), (dO, .inl (G.2 4, 6, .inr (.inr (.inr (.inr (fun k => if k < 6 then some (dr k) else none)))))), (dr 0, .inl (G.2 0, 64, .inl (DD 0))), (dr 1, .inl (G.2 0, 64, .inl (DD 1))), (dr 2, .inl (G.2 0, 64, .inl (DD 2))), (dr 3, .inl (G.2 0, 64, .inl (DD 3))), (dr 4, .inl (G.2 0, 64, .inl (DD 4))), (dr 5, .inl (G.2 0, 64, .inl (DD 5))), (ct0, .inl (G.2 0, 6, .inl ctf)), (st0, .inl (G.2 0, 4096, .inl (upd stf' x_1.toNatClampNeg (sp + (1 : Int32))))), (fs0, .inl (G.2 0, 4096, .inl (upd fsf' x_1.toNatClampNeg i4))), (jn0, .inl (G.2 0, 64, .inl (upd jnf' i4.toNatClampNeg ((upd fsf' x_1.toNatClampNeg i4) x_1.toNatClampNeg)))), (rw0, .inl (G.2 0, 64, .inl rwf)), (fd0, .inl (G.2 1, 40, .inr (.inl fdf))), (af0, .inl (G.2 3, 40, .inl aff)), (kO, .inl (G.2 4, 4, .inr (.inr (.inr (.inr (fun k => if k < 4 then some (kr k) else none)))))), (kr 0, .inl (G.2 0, 64, .inl (KP 0))), (kr 1, .inl (G.2 0, 64, .inl (KP 1))), (kr 2, .inl (G.2 0, 64, .inl (KP 2))), (kr 3, .inl (G.2 0, 64, .inl (KP 3)))] H := hP
          have hD : va_D A [(m0, .inr (7, [.int th, .int mr, .long po, .ref dO, .ref sl, .ref ct0, .int mf, .int (sp + (1 : Int32)), .ref st0, .ref fs0, .ref jn0, .ref rw0, .ref fd0, .ref af0, .ref kO])), (dO, .inl (G.2 4, 6, .inr (.inr (.inr (.inr (fun k => if k < 6 then some (dr k) else none)))))), (dr 0, .inl (G.2 0, 64, .inl (DD 0))), (dr 1, .inl (G.2 0, 64, .inl (DD 1))), (dr 2, .inl (G.2 0, 64, .inl (DD 2))), (dr 3, .inl (G.2 0, 64, .inl (DD 3))), (dr 4, .inl (G.2 0, 64, .inl (DD 4))), (dr 5, .inl (G.2 0, 64, .inl (DD 5))), (ct0, .inl (G.2 0, 6, .inl ctf)), (st0, .inl (G.2 0, 4096, .inl (upd stf' x_1.toNatClampNeg (sp + (1 : Int32))))), (fs0, .inl (G.2 0, 4096, .inl (upd fsf' x_1.toNatClampNeg i4))), (jn0, .inl (G.2 0, 64, .inl (upd jnf' i4.toNatClampNeg ((upd fsf' x_1.toNatClampNeg i4) x_1.toNatClampNeg)))), (rw0, .inl (G.2 0, 64, .inl rwf)), (fd0, .inl (G.2 1, 40, .inr (.inl fdf))), (af0, .inl (G.2 3, 40, .inl aff)), (kO, .inl (G.2 4, 4, .inr (.inr (.inr (.inr (fun k => if k < 4 then some (kr k) else none)))))), (kr 0, .inl (G.2 0, 64, .inl (KP 0))), (kr 1, .inl (G.2 0, 64, .inl (KP 1))), (kr 2, .inl (G.2 0, 64, .inl (KP 2))), (kr 3, .inl (G.2 0, 64, .inl (KP 3)))] := hD
          refine lv_iinc (v := (i4 + 1)) hx hb dX4_join_82 hl (k := 5) rfl (by rw [show Int32.ofInt 1 = 1 from by decide]) (Nat.le_of_ble_eq_true rfl) rfl (fun ls hl => ?_)
          have hl : lv_has ls 6 [(4, .int (i4 + 1)), (5, .int x_1), (0, .ref m0), (1, .ref (kr lv)), (2, .ref (dr gf)), (3, .ref (dr gt))] := hl
          refine lv_goto (tgt := 13) hx hb dX4_join_85 (by decide) ?_
          have hl := lv_sub (l' := [(0, .ref m0), (1, .ref (kr lv)), (2, .ref (dr gf)), (3, .ref (dr gt)), (4, .int (i4 + 1))]) hl [2, 3, 4, 5, 0] rfl
          exact ih _ _ _ _ ls H locs hl hP hD hS h
  have loop91 : ∀ (K115 : Int32 → (Nat → Nat → Int32) → Prop) (stf' : Nat → Int32) (fsf' : Nat → Int32) (jnf' : Nat → Int32), True → (∀ (i4 : Int32) (DD' : Nat → Nat → Int32) (ls : Array Slot) (H : Heap) (locs : List Loc), lv_has ls 6 [(0, .ref m0), (1, .ref (kr lv)), (2, .ref (dr gf)), (3, .ref (dr gt)), (4, .int i4)] → PP G [(m0, .inr (7, [.int th, .int mr, .long po, .ref dO, .ref sl, .ref ct0, .int mf, .int (sp + (1 : Int32)), .ref st0, .ref fs0, .ref jn0, .ref rw0, .ref fd0, .ref af0, .ref kO])), (dO, .inl (G.2 4, 6, .inr (.inr (.inr (.inr (fun k => if k < 6 then some (dr k) else none)))))), (dr 0, .inl (G.2 0, 64, .inl (DD' 0))), (dr 1, .inl (G.2 0, 64, .inl (DD' 1))), (dr 2, .inl (G.2 0, 64, .inl (DD' 2))), (dr 3, .inl (G.2 0, 64, .inl (DD' 3))), (dr 4, .inl (G.2 0, 64, .inl (DD' 4))), (dr 5, .inl (G.2 0, 64, .inl (DD' 5))), (ct0, .inl (G.2 0, 6, .inl ctf)), (st0, .inl (G.2 0, 4096, .inl stf')), (fs0, .inl (G.2 0, 4096, .inl fsf')), (jn0, .inl (G.2 0, 64, .inl jnf')), (rw0, .inl (G.2 0, 64, .inl rwf)), (fd0, .inl (G.2 1, 40, .inr (.inl fdf))), (af0, .inl (G.2 3, 40, .inl aff)), (kO, .inl (G.2 4, 4, .inr (.inr (.inr (.inr (fun k => if k < 4 then some (kr k) else none)))))), (kr 0, .inl (G.2 0, 64, .inl (KP 0))), (kr 1, .inl (G.2 0, 64, .inl (KP 1))), (kr 2, .inl (G.2 0, 64, .inl (KP 2))), (kr 3, .inl (G.2 0, 64, .inl (KP 3)))] H → va_D A [(m0, .inr (7, [.int th, .int mr, .long po, .ref dO, .ref sl, .ref ct0, .int mf, .int (sp + (1 : Int32)), .ref st0, .ref fs0, .ref jn0, .ref rw0, .ref fd0, .ref af0, .ref kO])), (dO, .inl (G.2 4, 6, .inr (.inr (.inr (.inr (fun k => if k < 6 then some (dr k) else none)))))), (dr 0, .inl (G.2 0, 64, .inl (DD' 0))), (dr 1, .inl (G.2 0, 64, .inl (DD' 1))), (dr 2, .inl (G.2 0, 64, .inl (DD' 2))), (dr 3, .inl (G.2 0, 64, .inl (DD' 3))), (dr 4, .inl (G.2 0, 64, .inl (DD' 4))), (dr 5, .inl (G.2 0, 64, .inl (DD' 5))), (ct0, .inl (G.2 0, 6, .inl ctf)), (st0, .inl (G.2 0, 4096, .inl stf')), (fs0, .inl (G.2 0, 4096, .inl fsf')), (jn0, .inl (G.2 0, 64, .inl jnf')), (rw0, .inl (G.2 0, 64, .inl rwf)), (fd0, .inl (G.2 1, 40, .inr (.inl fdf))), (af0, .inl (G.2 3, 40, .inl aff)), (kO, .inl (G.2 4, 4, .inr (.inr (.inr (.inr (fun k => if k < 4 then some (kr k) else none)))))), (kr 0, .inl (G.2 0, 64, .inl (KP 0))), (kr 1, .inl (G.2 0, 64, .inl (KP 1))), (kr 2, .inl (G.2 0, 64, .inl (KP 2))), (kr 3, .inl (G.2 0, 64, .inl (KP 3)))] → va_S A s.heap H locs → K115 i4 DD' → W p l e (headSpec (wl_X4_joinK) rm_X4_joinK).room s m ([.ref m0, .ref (kr lv), .ref (dr gf), .ref (dr gt)] : List Value).toArray below meth c H locs 0 0 (MQ below QC ([.ref m0, .ref (kr lv), .ref (dr gf), .ref (dr gt)] : List Value).toArray s 0 0 A) (F0 m 115 ls [])) → ∀ (n : Nat) (i4 : Int32) (DD' : Nat → Nat → Int32) (ls : Array Slot) (H : Heap) (locs : List Loc), lv_has ls 6 [(0, .ref m0), (1, .ref (kr lv)), (2, .ref (dr gf)), (3, .ref (dr gt)), (4, .int i4)] → PP G [(m0, .inr (7, [.int th, .int mr, .long po, .ref dO, .ref sl, .ref ct0, .int mf, .int (sp + (1 : Int32)), .ref st0, .ref fs0, .ref jn0, .ref rw0, .ref fd0, .ref af0, .ref kO])), (dO, .inl (G.2 4, 6, .inr (.inr (.inr (.inr (fun k => if k < 6 then some (dr k) else none)))))), (dr 0, .inl (G.2 0, 64, .inl (DD' 0))), (dr 1, .inl (G.2 0, 64, .inl (DD' 1))), (dr 2, .inl (G.2 0, 64, .inl (DD' 2))), (dr 3, .inl (G.2 0, 64, .inl (DD' 3))), (dr 4, .inl (G.2 0, 64, .inl (DD' 4))), (dr 5, .inl (G.2 0, 64, .inl (DD' 5))), (ct0, .inl (G.2 0, 6, .inl ctf)), (st0, .inl (G.2 0, 4096, .inl stf')), (fs0, .inl (G.2 0, 4096, .inl fsf')), (jn0, .inl (G.2 0, 64, .inl jnf')), (rw0, .inl (G.2 0, 64, .inl rwf)), (fd0, .inl (G.2 1, 40, .inr (.inl fdf))), (af0, .inl (G.2 3, 40, .inl aff)), (kO, .inl (G.2 4, 4, .inr (.inr (.inr (.inr (fun k => if k < 4 then some (kr k) else none)))))), (kr 0, .inl (G.2 0, 64, .inl (KP 0))), (kr 1, .inl (G.2 0, 64, .inl (KP 1))), (kr 2, .inl (G.2 0, 64, .inl (KP 2))), (kr 3, .inl (G.2 0, 64, .inl (KP 3)))] H → va_D A [(m0, .inr (7, [.int th, .int mr, .long po, .ref dO, .ref sl, .ref ct0, .int mf, .int (sp + (1 : Int32)), .ref st0, .ref fs0, .ref jn0, .ref rw0, .ref fd0, .ref af0, .ref kO])), (dO, .inl (G.2 4, 6, .inr (.inr (.inr (.inr (fun k => if k < 6 then some (dr k) else none)))))), (dr 0, .inl (G.2 0, 64, .inl (DD' 0))), (dr 1, .inl (G.2 0, 64, .inl (DD' 1))), (dr 2, .inl (G.2 0, 64, .inl (DD' 2))), (dr 3, .inl (G.2 0, 64, .inl (DD' 3))), (dr 4, .inl (G.2 0, 64, .inl (DD' 4))), (dr 5, .inl (G.2 0, 64, .inl (DD' 5))), (ct0, .inl (G.2 0, 6, .inl ctf)), (st0, .inl (G.2 0, 4096, .inl stf')), (fs0, .inl (G.2 0, 4096, .inl fsf')), (jn0, .inl (G.2 0, 64, .inl jnf')), (rw0, .inl (G.2 0, 64, .inl rwf)), (fd0, .inl (G.2 1, 40, .inr (.inl fdf))), (af0, .inl (G.2 3, 40, .inl aff)), (kO, .inl (G.2 4, 4, .inr (.inr (.inr (.inr (fun k => if k < 4 then some (kr k) else none)))))), (kr 0, .inl (G.2 0, 64, .inl (KP 0))), (kr 1, .inl (G.2 0, 64, .inl (KP 1))), (kr 2, .inl (G.2 0, 64, .inl (KP 2))), (kr 3, .inl (G.2 0, 64, .inl (KP 3)))] → va_S A s.heap H locs → wX4_joinK_L91 post K115 gt jnf' n i4 DD' → W p l e (headSpec (wl_X4_joinK) rm_X4_joinK).room s m ([.ref m0, .ref (kr lv), .ref (dr gf), .ref (dr gt)] : List Value).toArray below meth c H locs 0 0 (MQ below QC ([.ref m0, .ref (kr lv), .ref (dr gf), .ref (dr gt)] : List Value).toArray s 0 0 A) (F0 m 91 ls []) := by
    intro K115 stf' fsf' jnf' _ hexit115 n
    induction n with
    | zero => intro i4 DD' ls H locs hl hP hD hS h; exact False.elim h
    | succ n ih =>
      intro i4 DD' ls H locs hl hP hD hS h
      refine lv_iload hx hb dX4_join_91 (lv_at hl 4 rfl) ?_
      refine lv_bipush (v := 64) hx hb dX4_join_93 (by decide) ?_
      refine lv_icmp_ge (tgt := 115) hx hb dX4_join_95 (by decide) (fun hc => ?_) (fun hc => ?_)
      · have h := h.1 hc
        have hl := lv_sub (l' := [(0, .ref m0), (1, .ref (kr lv)), (2, .ref (dr gf)), (3, .ref (dr gt)), (4, .int i4)]) hl [0, 1, 2, 3, 4] rfl
        exact hexit115 _ _ ls H locs hl hP hD hS h
      · have h := h.2 hc
        refine lv_aload_n hx hb dX4_join_98 rfl (lv_at hl 3 rfl) ?_
        refine lv_iload hx hb dX4_join_99 (lv_at hl 4 rfl) ?_
        refine lv_aload_n hx hb dX4_join_101 rfl (lv_at hl 0 rfl) ?_
        refine va_get (D := G.1) (ci := 7) (v := .ref jn0) (C := RX4) (T := TX4) (N := 15) hx hb hts igX4 hown hK hP 0 rfl rfl 10 (by decide) (hts _ q1015) (fun _ h9 => h9) rfl dX4_join_102 ?_
        refine lv_iload hx hb dX4_join_105 (lv_at hl 4 rfl) ?_
        obtain ⟨hin, h⟩ := h
        refine va_iald (D := G.1) hx hb hK hP 11 0 rfl rfl hin dX4_join_107 ?_
        obtain ⟨hin, h⟩ := h
        refine va_iast (D := G.1) (f := DD' gt) hx hb hK hP hD hS (2 + gt) 0 (famget6 (pre := [(m0, .inr (7, [.int th, .int mr, .long po, .ref dO, .ref sl, .ref ct0, .int mf, .int (sp + (1 : Int32)), .ref st0, .ref fs0, .ref jn0, .ref rw0, .ref fd0, .ref af0, .ref kO])), (dO, .inl (G.2 4, 6, .inr (.inr (.inr (.inr (fun k => if k < 6 then some (dr k) else none))))))]) (post := [(ct0, .inl (G.2 0, 6, .inl ctf)), (st0, .inl (G.2 0, 4096, .inl stf')), (fs0, .inl (G.2 0, 4096, .inl fsf')), (jn0, .inl (G.2 0, 64, .inl jnf')), (rw0, .inl (G.2 0, 64, .inl rwf)), (fd0, .inl (G.2 1, 40, .inr (.inl fdf))), (af0, .inl (G.2 3, 40, .inl aff)), (kO, .inl (G.2 4, 4, .inr (.inr (.inr (.inr (fun k => if k < 4 then some (kr k) else none)))))), (kr 0, .inl (G.2 0, 64, .inl (KP 0))), (kr 1, .inl (G.2 0, 64, .inl (KP 1))), (kr 2, .inl (G.2 0, 64, .inl (KP 2))), (kr 3, .inl (G.2 0, 64, .inl (KP 3)))]) (fun j => (dr j, .inl (G.2 0, 64, .inl (DD' j)))) hgt) rfl hin dX4_join_108 (fun H locs hP hD hS => ?_)
        have eW : ([(m0, .inr (7, [.int th, .int mr, .long po, .ref dO, .ref sl, .ref ct0, .int mf, .int (sp + (1 : Int32)), .ref st0, .ref fs0, .ref jn0, .ref rw0, .ref fd0, .ref af0, .ref kO])), (dO, .inl (G.2 4, 6, .inr (.inr (.inr (.inr (fun k => if k < 6 then some (dr k) else none)))))), (dr 0, .inl (G.2 0, 64, .inl (DD' 0))), (dr 1, .inl (G.2 0, 64, .inl (DD' 1))), (dr 2, .inl (G.2 0, 64, .inl (DD' 2))), (dr 3, .inl (G.2 0, 64, .inl (DD' 3))), (dr 4, .inl (G.2 0, 64, .inl (DD' 4))), (dr 5, .inl (G.2 0, 64, .inl (DD' 5))), (ct0, .inl (G.2 0, 6, .inl ctf)), (st0, .inl (G.2 0, 4096, .inl stf')), (fs0, .inl (G.2 0, 4096, .inl fsf')), (jn0, .inl (G.2 0, 64, .inl jnf')), (rw0, .inl (G.2 0, 64, .inl rwf)), (fd0, .inl (G.2 1, 40, .inr (.inl fdf))), (af0, .inl (G.2 3, 40, .inl aff)), (kO, .inl (G.2 4, 4, .inr (.inr (.inr (.inr (fun k => if k < 4 then some (kr k) else none)))))), (kr 0, .inl (G.2 0, 64, .inl (KP 0))), (kr 1, .inl (G.2 0, 64, .inl (KP 1))), (kr 2, .inl (G.2 0, 64, .inl (KP 2))), (kr 3, .inl (G.2 0, 64, .inl (KP 3)))] : va_W).set (2 + gt) (dr gt, .inl (G.2 0, 64, .inl (upd (DD' gt) i4.toNatClampNeg (jnf' i4.toNatClampNeg)))) = [(m0, .inr (7, [.int th, .int mr, .long po, .ref dO, .ref sl, .ref ct0, .int mf, .int (sp + (1 : Int32)), .ref st0, .ref fs0, .ref jn0, .ref rw0, .ref fd0, .ref af0, .ref kO])), (dO, .inl (G.2 4, 6, .inr (.inr (.inr (.inr (fun k => if k < 6 then some (dr k) else none)))))), (dr 0, .inl (G.2 0, 64, .inl ((vf_upd DD' gt (upd (DD' gt) i4.toNatClampNeg (jnf' i4.toNatClampNeg))) 0))), (dr 1, .inl (G.2 0, 64, .inl ((vf_upd DD' gt (upd (DD' gt) i4.toNatClampNeg (jnf' i4.toNatClampNeg))) 1))), (dr 2, .inl (G.2 0, 64, .inl ((vf_upd DD' gt (upd (DD' gt) i4.toNatClampNeg (jnf' i4.toNatClampNeg))) 2))), (dr 3, .inl (G.2 0, 64, .inl ((vf_upd DD' gt (upd (DD' gt) i4.toNatClampNeg (jnf' i4.toNatClampNeg))) 3))), (dr 4, .inl (G.2 0, 64, .inl ((vf_upd DD' gt (upd (DD' gt) i4.toNatClampNeg (jnf' i4.toNatClampNeg))) 4))), (dr 5, .inl (G.2 0, 64, .inl ((vf_upd DD' gt (upd (DD' gt) i4.toNatClampNeg (jnf' i4.toNatClampNeg))) 5))), (ct0, .inl (G.2 0, 6, .inl ctf)), (st0, .inl (G.2 0, 4096, .inl stf')), (fs0, .inl (G.2 0, 4096, .inl fsf')), (jn0, .inl (G.2 0, 64, .inl jnf')), (rw0, .inl (G.2 0, 64, .inl rwf)), (fd0, .inl (G.2 1, 40, .inr (.inl fdf))), (af0, .inl (G.2 3, 40, .inl aff)), (kO, .inl (G.2 4, 4, .inr (.inr (.inr (.inr (fun k => if k < 4 then some (kr k) else none)))))), (kr 0, .inl (G.2 0, 64, .inl (KP 0))), (kr 1, .inl (G.2 0, 64, .inl (KP 1))), (kr 2, .inl (G.2 0, 64, .inl (KP 2))), (kr 3, .inl (G.2 0, 64, .inl (KP 3)))] := famset6 (G := G) (pre := [(m0, .inr (7, [.int th, .int mr, .long po, .ref dO, .ref sl, .ref ct0, .int mf, .int (sp + (1 : Int32)), .ref st0, .ref fs0, .ref jn0, .ref rw0, .ref fd0, .ref af0, .ref kO])), (dO, .inl (G.2 4, 6, .inr (.inr (.inr (.inr (fun k => if k < 6 then some (dr k) else none))))))]) (post := [(ct0, .inl (G.2 0, 6, .inl ctf)), (st0, .inl (G.2 0, 4096, .inl stf')), (fs0, .inl (G.2 0, 4096, .inl fsf')), (jn0, .inl (G.2 0, 64, .inl jnf')), (rw0, .inl (G.2 0, 64, .inl rwf)), (fd0, .inl (G.2 1, 40, .inr (.inl fdf))), (af0, .inl (G.2 3, 40, .inl aff)), (kO, .inl (G.2 4, 4, .inr (.inr (.inr (.inr (fun k => if k < 4 then some (kr k) else none)))))), (kr 0, .inl (G.2 0, 64, .inl (KP 0))), (kr 1, .inl (G.2 0, 64, .inl (KP 1))), (kr 2, .inl (G.2 0, 64, .inl (KP 2))), (kr 3, .inl (G.2 0, 64, .inl (KP 3)))]) (dr := dr) (D := DD') hgt (upd (DD' gt) i4.toNatClampNeg (jnf' i4.toNatClampNeg))
        rw [eW] at hP hD
        have hP : PP G [(m0, .inr (7, [.int th, .int mr, .long po, .ref dO, .ref sl, .ref ct0, .int mf, .int (sp + (1 : Int32)), .ref st0, .ref fs0, .ref jn0, .ref rw0, .ref fd0, .ref af0, .ref kO])), (dO, .inl (G.2 4, 6, .inr (.inr (.inr (.inr (fun k => if k < 6 then some (dr k) else none)))))), (dr 0, .inl (G.2 0, 64, .inl ((vf_upd DD' gt (upd (DD' gt) i4.toNatClampNeg (jnf' i4.toNatClampNeg))) 0))), (dr 1, .inl (G.2 0, 64, .inl ((vf_upd DD' gt (upd (DD' gt) i4.toNatClampNeg (jnf' i4.toNatClampNeg))) 1))), (dr 2, .inl (G.2 0, 64, .inl ((vf_upd DD' gt (upd (DD' gt) i4.toNatClampNeg (jnf' i4.toNatClampNeg))) 2))), (dr 3, .inl (G.2 0, 64, .inl ((vf_upd DD' gt (upd (DD' gt) i4.toNatClampNeg (jnf' i4.toNatClampNeg))) 3))), (dr 4, .inl (G.2 0, 64, .inl ((vf_upd DD' gt (upd (DD' gt) i4.toNatClampNeg (jnf' i4.toNatClampNeg))) 4))), (dr 5, .inl (G.2 0, 64, .inl ((vf_upd DD' gt (upd (DD' gt) i4.toNatClampNeg (jnf' i4.toNatClampNeg))) 5))), (ct0, .inl (G.2 0, 6, .inl ctf)), (st0, .inl (G.2 0, 4096, .inl stf')), (fs0, .inl (G.2 0, 4096, .inl fsf')), (jn0, .inl (G.2 0, 64, .inl jnf')), (rw0, .inl (G.2 0, 64, .inl rwf)), (fd0, .inl (G.2 1, 40, .inr (.inl fdf))), (af0, .inl (G.2 3, 40, .inl aff)), (kO, .inl (G.2 4, 4, .inr (.inr (.inr (.inr (fun k => if k < 4 then some (kr k) else none)))))), (kr 0, .inl (G.2 0, 64, .inl (KP 0))), (kr 1, .inl (G.2 0, 64, .inl (KP 1))), (kr 2, .inl (G.2 0, 64, .inl (KP 2))), (kr 3, .inl (G.2 0, 64, .inl (KP 3)))] H := hP
        have hD : va_D A [(m0, .inr (7, [.int th, .int mr, .long po, .ref dO, .ref sl, .ref ct0, .int mf, .int (sp + (1 : Int32)), .ref st0, .ref fs0, .ref jn0, .ref rw0, .ref fd0, .ref af0, .ref kO])), (dO, .inl (G.2 4, 6, .inr (.inr (.inr (.inr (fun k => if k < 6 then some (dr k) else none)))))), (dr 0, .inl (G.2 0, 64, .inl ((vf_upd DD' gt (upd (DD' gt) i4.toNatClampNeg (jnf' i4.toNatClampNeg))) 0))), (dr 1, .inl (G.2 0, 64, .inl ((vf_upd DD' gt (upd (DD' gt) i4.toNatClampNeg (jnf' i4.toNatClampNeg))) 1))), (dr 2, .inl (G.2 0, 64, .inl ((vf_upd DD' gt (upd (DD' gt) i4.toNatClampNeg (jnf' i4.toNatClampNeg))) 2))), (dr 3, .inl (G.2 0, 64, .inl ((vf_upd DD' gt (upd (DD' gt) i4.toNatClampNeg (jnf' i4.toNatClampNeg))) 3))), (dr 4, .inl (G.2 0, 64, .inl ((vf_upd DD' gt (upd (DD' gt) i4.toNatClampNeg (jnf' i4.toNatClampNeg))) 4))), (dr 5, .inl (G.2 0, 64, .inl ((vf_upd DD' gt (upd (DD' gt) i4.toNatClampNeg (jnf' i4.toNatClampNeg))) 5))), (ct0, .inl (G.2 0, 6, .inl ctf)), (st0, .inl (G.2 0, 4096, .inl stf')), (fs0, .inl (G.2 0, 4096, .inl fsf')), (jn0, .inl (G.2 0, 64, .inl jnf')), (rw0, .inl (G.2 0, 64, .inl rwf)), (fd0, .inl (G.2 1, 40, .inr (.inl fdf))), (af0, .inl (G.2 3, 40, .inl aff)), (kO, .inl (G.2 4, 4, .inr (.inr (.inr (.inr (fun k => if k < 4 then some (kr k) else none)))))), (kr 0, .inl (G.2 0, 64, .inl (KP 0))), (kr 1, .inl (G.2 0, 64, .inl (KP 1))), (kr 2, .inl (G.2 0, 64, .inl (KP 2))), (kr 3, .inl (G.2 0, 64, .inl (KP 3)))] := hD
        refine lv_iinc (v := (i4 + 1)) hx hb dX4_join_109 hl (k := 4) rfl (by rw [show Int32.ofInt 1 = 1 from by decide]) (Nat.le_of_ble_eq_true rfl) rfl (fun ls hl => ?_)
        have hl : lv_has ls 6 [(4, .int (i4 + 1)), (0, .ref m0), (1, .ref (kr lv)), (2, .ref (dr gf)), (3, .ref (dr gt))] := hl
        refine lv_goto (tgt := 91) hx hb dX4_join_112 (by decide) ?_
        have hl := lv_sub (l' := [(0, .ref m0), (1, .ref (kr lv)), (2, .ref (dr gf)), (3, .ref (dr gt)), (4, .int (i4 + 1))]) hl [1, 2, 3, 4, 0] rfl
        exact ih _ _ ls H locs hl hP hD hS h
  refine lv_aload_n hx hb dX4_join_0 rfl (lv_at hl 0 rfl) ?_
  refine lv_dup hx hb dX4_join_1 rfl ?_
  refine va_get (D := G.1) (ci := 7) (v := .int sp) (C := RX4) (T := TX4) (N := 15) hx hb hts igX4 hown hK hP 0 rfl rfl 7 (by decide) (hts _ q1012) (fun _ h9 => h9) rfl dX4_join_2 ?_
  refine lv_iconst (v := 1) hx hb dX4_join_5 (by decide) ?_
  refine lv_iadd hx hb dX4_join_6 ?_
  refine va_put (D := G.1) (ci := 7) (v := .int (sp + (1 : Int32))) (ty := .int) (C := RX4) (T := TX4) (N := 15) hx hb hts igX4 tyX4 tyX4_ok nmX4 hown hK hP hD hS 0 rfl rfl 7 (by decide) (hts _ q1012) (fun _ h9 => h9) rfl (by decide +kernel) rfl rfl (Nat.le_of_ble_eq_true rfl) dX4_join_7 (fun H locs hP hD hS => ?_)
  have hP : PP G [(m0, .inr (7, [.int th, .int mr, .long po, .ref dO, .ref sl, .ref ct0, .int mf, .int (sp + (1 : Int32)), .ref st0, .ref fs0, .ref jn0, .ref rw0, .ref fd0, .ref af0, .ref kO])), (dO, .inl (G.2 4, 6, .inr (.inr (.inr (.inr (fun k => if k < 6 then some (dr k) else none)))))), (dr 0, .inl (G.2 0, 64, .inl (DD 0))), (dr 1, .inl (G.2 0, 64, .inl (DD 1))), (dr 2, .inl (G.2 0, 64, .inl (DD 2))), (dr 3, .inl (G.2 0, 64, .inl (DD 3))), (dr 4, .inl (G.2 0, 64, .inl (DD 4))), (dr 5, .inl (G.2 0, 64, .inl (DD 5))), (ct0, .inl (G.2 0, 6, .inl ctf)), (st0, .inl (G.2 0, 4096, .inl stf)), (fs0, .inl (G.2 0, 4096, .inl fsf)), (jn0, .inl (G.2 0, 64, .inl jnf)), (rw0, .inl (G.2 0, 64, .inl rwf)), (fd0, .inl (G.2 1, 40, .inr (.inl fdf))), (af0, .inl (G.2 3, 40, .inl aff)), (kO, .inl (G.2 4, 4, .inr (.inr (.inr (.inr (fun k => if k < 4 then some (kr k) else none)))))), (kr 0, .inl (G.2 0, 64, .inl (KP 0))), (kr 1, .inl (G.2 0, 64, .inl (KP 1))), (kr 2, .inl (G.2 0, 64, .inl (KP 2))), (kr 3, .inl (G.2 0, 64, .inl (KP 3)))] H := hP
  have hD : va_D A [(m0, .inr (7, [.int th, .int mr, .long po, .ref dO, .ref sl, .ref ct0, .int mf, .int (sp + (1 : Int32)), .ref st0, .ref fs0, .ref jn0, .ref rw0, .ref fd0, .ref af0, .ref kO])), (dO, .inl (G.2 4, 6, .inr (.inr (.inr (.inr (fun k => if k < 6 then some (dr k) else none)))))), (dr 0, .inl (G.2 0, 64, .inl (DD 0))), (dr 1, .inl (G.2 0, 64, .inl (DD 1))), (dr 2, .inl (G.2 0, 64, .inl (DD 2))), (dr 3, .inl (G.2 0, 64, .inl (DD 3))), (dr 4, .inl (G.2 0, 64, .inl (DD 4))), (dr 5, .inl (G.2 0, 64, .inl (DD 5))), (ct0, .inl (G.2 0, 6, .inl ctf)), (st0, .inl (G.2 0, 4096, .inl stf)), (fs0, .inl (G.2 0, 4096, .inl fsf)), (jn0, .inl (G.2 0, 64, .inl jnf)), (rw0, .inl (G.2 0, 64, .inl rwf)), (fd0, .inl (G.2 1, 40, .inr (.inl fdf))), (af0, .inl (G.2 3, 40, .inl aff)), (kO, .inl (G.2 4, 4, .inr (.inr (.inr (.inr (fun k => if k < 4 then some (kr k) else none)))))), (kr 0, .inl (G.2 0, 64, .inl (KP 0))), (kr 1, .inl (G.2 0, 64, .inl (KP 1))), (kr 2, .inl (G.2 0, 64, .inl (KP 2))), (kr 3, .inl (G.2 0, 64, .inl (KP 3)))] := hD
  refine lv_iconst (v := 0) hx hb dX4_join_10 (by decide) ?_
  refine lv_istore hx hb dX4_join_11 hl (Nat.le_of_ble_eq_true rfl) rfl (fun ls hl => ?_)
  have hl : lv_has ls 6 [(4, .int (0 : Int32)), (0, .ref m0), (1, .ref (kr lv)), (2, .ref (dr gf)), (3, .ref (dr gt))] := hl
  have hl := lv_sub (l' := [(0, .ref m0), (1, .ref (kr lv)), (2, .ref (dr gf)), (3, .ref (dr gt)), (4, .int (0 : Int32))]) hl [1, 2, 3, 4, 0] rfl
  obtain ⟨nF, h⟩ := h
  refine loop13 _ trivial ?_ nF (0 : Int32) stf fsf jnf _ _ _ hl hP hD hS h
  · intro i4 stf' fsf' jnf' ls H locs hl hP hD hS h
    refine lv_iconst (v := 0) hx hb dX4_join_88 (by decide) ?_
    refine lv_istore hx hb dX4_join_89 hl (Nat.le_of_ble_eq_true rfl) rfl (fun ls hl => ?_)
    have hl : lv_has ls 6 [(4, .int (0 : Int32)), (0, .ref m0), (1, .ref (kr lv)), (2, .ref (dr gf)), (3, .ref (dr gt))] := hl
    have hl := lv_sub (l' := [(0, .ref m0), (1, .ref (kr lv)), (2, .ref (dr gf)), (3, .ref (dr gt)), (4, .int (0 : Int32))]) hl [1, 2, 3, 4, 0] rfl
    obtain ⟨nF, h⟩ := h
    refine loop91 _ stf' fsf' jnf' trivial ?_ nF (0 : Int32) DD _ _ _ hl hP hD hS h
    · intro i4 DD' ls H locs hl hP hD hS h
      subst hQC; exact W.vret hx hb hr (fun t ht hW => ⟨⟨((sp + (1 : Int32)), stf', fsf', jnf', DD'), rfl, h, by rw [ht]; exact hP, hD⟩, hS.F ht⟩) hS.2.2 dX4_join_115
theorem dX4_together_0 : decode cX4_together 0 = .ok (.iconst 0, 1) := by decide +kernel
theorem dX4_together_1 : decode cX4_together 1 = .ok (.istore 4, 2) := by decide +kernel
theorem dX4_together_3 : decode cX4_together 3 = .ok (.iload 4, 2) := by decide +kernel
theorem dX4_together_5 : decode cX4_together 5 = .ok (.bipush 64, 2) := by decide +kernel
theorem dX4_together_7 : decode cX4_together 7 = .ok (.if_icmp .ge 17, 3) := by decide +kernel
theorem dX4_together_10 : decode cX4_together 10 = .ok (.aload_n 0, 1) := by decide +kernel
theorem dX4_together_11 : decode cX4_together 11 = .ok (.getfield 40, 3) := by decide +kernel
theorem dX4_together_14 : decode cX4_together 14 = .ok (.iload 4, 2) := by decide +kernel
theorem dX4_together_16 : decode cX4_together 16 = .ok (.iconst 0, 1) := by decide +kernel
theorem dX4_together_17 : decode cX4_together 17 = .ok (.iastore, 1) := by decide +kernel
theorem dX4_together_18 : decode cX4_together 18 = .ok (.iinc 4 1, 3) := by decide +kernel
theorem dX4_together_21 : decode cX4_together 21 = .ok (.goto (-18), 3) := by decide +kernel
theorem dX4_together_24 : decode cX4_together 24 = .ok (.iconst 0, 1) := by decide +kernel
theorem dX4_together_25 : decode cX4_together 25 = .ok (.istore 4, 2) := by decide +kernel
theorem dX4_together_27 : decode cX4_together 27 = .ok (.iload 4, 2) := by decide +kernel
theorem dX4_together_29 : decode cX4_together 29 = .ok (.bipush 6, 2) := by decide +kernel
theorem dX4_together_31 : decode cX4_together 31 = .ok (.if_icmp .ge 37, 3) := by decide +kernel
theorem dX4_together_34 : decode cX4_together 34 = .ok (.iload_n 1, 1) := by decide +kernel
theorem dX4_together_35 : decode cX4_together 35 = .ok (.iload 4, 2) := by decide +kernel
theorem dX4_together_37 : decode cX4_together 37 = .ok (.invokestatic 70, 3) := by decide +kernel
theorem dX4_together_40 : decode cX4_together 40 = .ok (.ifCond .eq 22, 3) := by decide +kernel
theorem dX4_together_43 : decode cX4_together 43 = .ok (.aload_n 0, 1) := by decide +kernel
theorem dX4_together_44 : decode cX4_together 44 = .ok (.aload_n 0, 1) := by decide +kernel
theorem dX4_together_45 : decode cX4_together 45 = .ok (.getfield 40, 3) := by decide +kernel
theorem dX4_together_48 : decode cX4_together 48 = .ok (.aload_n 0, 1) := by decide +kernel
theorem dX4_together_49 : decode cX4_together 49 = .ok (.getfield 17, 3) := by decide +kernel
theorem dX4_together_52 : decode cX4_together 52 = .ok (.iload 4, 2) := by decide +kernel
theorem dX4_together_54 : decode cX4_together 54 = .ok (.aaload, 1) := by decide +kernel
theorem dX4_together_55 : decode cX4_together 55 = .ok (.aload_n 0, 1) := by decide +kernel
theorem dX4_together_56 : decode cX4_together 56 = .ok (.getfield 40, 3) := by decide +kernel
theorem dX4_together_59 : decode cX4_together 59 = .ok (.invokevirtual 82, 3) := by decide +kernel
theorem dX4_together_62 : decode cX4_together 62 = .ok (.iinc 4 1, 3) := by decide +kernel
theorem dX4_together_65 : decode cX4_together 65 = .ok (.goto (-38), 3) := by decide +kernel
theorem dX4_together_68 : decode cX4_together 68 = .ok (.aload_n 0, 1) := by decide +kernel
theorem dX4_together_69 : decode cX4_together 69 = .ok (.aload_n 0, 1) := by decide +kernel
theorem dX4_together_70 : decode cX4_together 70 = .ok (.getfield 40, 3) := by decide +kernel
theorem dX4_together_73 : decode cX4_together 73 = .ok (.lload_n 2, 1) := by decide +kernel
theorem dX4_together_74 : decode cX4_together 74 = .ok (.invokevirtual 66, 3) := by decide +kernel
theorem dX4_together_77 : decode cX4_together 77 = .ok (.lreturn, 1) := by decide +kernel
def wX4_together_L3 (post : Int64 → Int32 × (Nat → Int32) × (Nat → Int32) × (Nat → Int32) × (Nat → Int32) → Prop) (K24 : Int32 → (Nat → Int32) → Prop) : Nat → Int32 → (Nat → Int32) → Prop
  | 0, _, _ => False
  | n+1, i4, rwf' =>
    (((64 : Int32) ≤ i4) →
      K24 i4 rwf'
    ) ∧ (¬ ((64 : Int32) ≤ i4) →
      vp_in i4 64 ∧
      wX4_together_L3 post K24 n (i4 + 1) (upd rwf' i4.toNatClampNeg (0 : Int32))
    )
def wX4_together_L27 (post : Int64 → Int32 × (Nat → Int32) × (Nat → Int32) × (Nat → Int32) × (Nat → Int32) → Prop) (K68 : Int32 → Int32 → (Nat → Int32) → (Nat → Int32) → (Nat → Int32) → (Nat → Int32) → Prop) (DD : Nat → Nat → Int32) (p1 : Int32) : Nat → Int32 → Int32 → (Nat → Int32) → (Nat → Int32) → (Nat → Int32) → (Nat → Int32) → Prop
  | 0, _, _, _, _, _, _ => False
  | n+1, i4, sp', stf', fsf', jnf', rwf' =>
    (((6 : Int32) ≤ i4) →
      K68 i4 sp' stf' fsf' jnf' rwf'
    ) ∧ (¬ ((6 : Int32) ≤ i4) →
      wX4_has (fun r_1 : Int32 =>
        ((r_1 = 0) →
          wX4_together_L27 post K68 DD p1 n (i4 + 1) sp' stf' fsf' jnf' rwf'
        ) ∧ (¬ (r_1 = 0) →
          vp_in i4 6 ∧
          wX4_joinR (fun (z_1 : Int32 × (Nat → Int32) × (Nat → Int32) × (Nat → Int32) × (Nat → Int32)) =>
            wX4_together_L27 post K68 DD p1 n (i4 + 1) z_1.1 z_1.2.1 z_1.2.2.1 z_1.2.2.2.1 z_1.2.2.2.2
            ) (i4.toNatClampNeg) sp' DD stf' fsf' jnf' rwf'
        )
        ) p1 i4
    )
def wX4_together (post : Int64 → Int32 × (Nat → Int32) × (Nat → Int32) × (Nat → Int32) × (Nat → Int32) → Prop) (po : Int64) (sp : Int32) (DD : Nat → Nat → Int32) (stf : Nat → Int32) (fsf : Nat → Int32) (jnf : Nat → Int32) (rwf : Nat → Int32) (p1 : Int32) (p2 : Int64) : Prop :=
  ∃ nF, wX4_together_L3 post
    (fun i4 rwf' =>
      ∃ nF, wX4_together_L27 post
        (fun i4 sp' stf' fsf' jnf' rwf' =>
          wX4_known_R (fun r_3 : Int64 =>
            post r_3 (sp', stf', fsf', jnf', rwf')
            ) po rwf' p2
        )
        DD p1 nF (0 : Int32) sp stf fsf jnf rwf'
    )
     nF (0 : Int32) rwf
abbrev wl_X4_together : List Cond := .code yX4_together cX4_together 5 (some .long) :: lwg
abbrev rm_X4_together : Room := { frames := 2, cells := 0, slots := 0, locals := 50 }
set_option maxHeartbeats 4000000 in
set_option maxRecDepth 100000 in
theorem kX4_together {post : Int64 → Int32 × (Nat → Int32) × (Nat → Int32) × (Nat → Int32) × (Nat → Int32) → Prop} (l : Launch) (G : GT) (m0 : Nat) (dO : Nat) (sl : Nat) (ct0 : Nat) (st0 : Nat) (fs0 : Nat) (jn0 : Nat) (rw0 : Nat) (fd0 : Nat) (af0 : Nat) (kO : Nat) (dr : Nat → Nat) (kr : Nat → Nat) (sa : Nat → Nat) (th : Int32) (mr : Int32) (po : Int64) (mf : Int32) (sp : Int32) (DD : Nat → Nat → Int32) (ctf : Nat → Int32) (stf : Nat → Int32) (fsf : Nat → Int32) (jnf : Nat → Int32) (rwf : Nat → Int32) (fdf : Nat → Int64) (aff : Nat → Int32) (KP : Nat → Nat → Int32) (sn : Nat) (sq : Nat → Nat → Int32) (p1 : Int32) (p2 : Int64) (sz : Nat) (h : wX4_together post po sp DD stf fsf jnf rwf p1 p2) : Met l yX4_together wl_X4_together rm_X4_together (va_Pc [.ref m0, .int p1, .long p2] (fun U => U.heap.size = sz ∧ PP G [(m0, .inr (7, [.int th, .int mr, .long po, .ref dO, .ref sl, .ref ct0, .int mf, .int sp, .ref st0, .ref fs0, .ref jn0, .ref rw0, .ref fd0, .ref af0, .ref kO])), (dO, .inl (G.2 4, 6, .inr (.inr (.inr (.inr (fun k => if k < 6 then some (dr k) else none)))))), (dr 0, .inl (G.2 0, 64, .inl (DD 0))), (dr 1, .inl (G.2 0, 64, .inl (DD 1))), (dr 2, .inl (G.2 0, 64, .inl (DD 2))), (dr 3, .inl (G.2 0, 64, .inl (DD 3))), (dr 4, .inl (G.2 0, 64, .inl (DD 4))), (dr 5, .inl (G.2 0, 64, .inl (DD 5))), (ct0, .inl (G.2 0, 6, .inl ctf)), (st0, .inl (G.2 0, 4096, .inl stf)), (fs0, .inl (G.2 0, 4096, .inl fsf)), (jn0, .inl (G.2 0, 64, .inl jnf)), (rw0, .inl (G.2 0, 64, .inl rwf)), (fd0, .inl (G.2 1, 40, .inr (.inl fdf))), (af0, .inl (G.2 3, 40, .inl aff)), (kO, .inl (G.2 4, 4, .inr (.inr (.inr (.inr (fun k => if k < 4 then some (kr k) else none)))))), (kr 0, .inl (G.2 0, 64, .inl (KP 0))), (kr 1, .inl (G.2 0, 64, .inl (KP 1))), (kr 2, .inl (G.2 0, 64, .inl (KP 2))), (kr 3, .inl (G.2 0, 64, .inl (KP 3)))] U.heap ∧ KK G U ∧ va_D (fun _ => True) [(m0, .inr (7, [.int th, .int mr, .long po, .ref dO, .ref sl, .ref ct0, .int mf, .int sp, .ref st0, .ref fs0, .ref jn0, .ref rw0, .ref fd0, .ref af0, .ref kO])), (dO, .inl (G.2 4, 6, .inr (.inr (.inr (.inr (fun k => if k < 6 then some (dr k) else none)))))), (dr 0, .inl (G.2 0, 64, .inl (DD 0))), (dr 1, .inl (G.2 0, 64, .inl (DD 1))), (dr 2, .inl (G.2 0, 64, .inl (DD 2))), (dr 3, .inl (G.2 0, 64, .inl (DD 3))), (dr 4, .inl (G.2 0, 64, .inl (DD 4))), (dr 5, .inl (G.2 0, 64, .inl (DD 5))), (ct0, .inl (G.2 0, 6, .inl ctf)), (st0, .inl (G.2 0, 4096, .inl stf)), (fs0, .inl (G.2 0, 4096, .inl fsf)), (jn0, .inl (G.2 0, 64, .inl jnf)), (rw0, .inl (G.2 0, 64, .inl rwf)), (fd0, .inl (G.2 1, 40, .inr (.inl fdf))), (af0, .inl (G.2 3, 40, .inl aff)), (kO, .inl (G.2 4, 4, .inr (.inr (.inr (.inr (fun k => if k < 4 then some (kr k) else none)))))), (kr 0, .inl (G.2 0, 64, .inl (KP 0))), (kr 1, .inl (G.2 0, 64, .inl (KP 1))), (kr 2, .inl (G.2 0, 64, .inl (KP 2))), (kr 3, .inl (G.2 0, 64, .inl (KP 3)))])) (va_Ql post (fun u t => PP G [(m0, .inr (7, [.int th, .int mr, .long po, .ref dO, .ref sl, .ref ct0, .int mf, .int (u.1), .ref st0, .ref fs0, .ref jn0, .ref rw0, .ref fd0, .ref af0, .ref kO])), (dO, .inl (G.2 4, 6, .inr (.inr (.inr (.inr (fun k => if k < 6 then some (dr k) else none)))))), (dr 0, .inl (G.2 0, 64, .inl (DD 0))), (dr 1, .inl (G.2 0, 64, .inl (DD 1))), (dr 2, .inl (G.2 0, 64, .inl (DD 2))), (dr 3, .inl (G.2 0, 64, .inl (DD 3))), (dr 4, .inl (G.2 0, 64, .inl (DD 4))), (dr 5, .inl (G.2 0, 64, .inl (DD 5))), (ct0, .inl (G.2 0, 6, .inl ctf)), (st0, .inl (G.2 0, 4096, .inl (u.2.1))), (fs0, .inl (G.2 0, 4096, .inl (u.2.2.1))), (jn0, .inl (G.2 0, 64, .inl (u.2.2.2.1))), (rw0, .inl (G.2 0, 64, .inl (u.2.2.2.2))), (fd0, .inl (G.2 1, 40, .inr (.inl fdf))), (af0, .inl (G.2 3, 40, .inl aff)), (kO, .inl (G.2 4, 4, .inr (.inr (.inr (.inr (fun k => if k < 4 then some (kr k) else none)))))), (kr 0, .inl (G.2 0, 64, .inl (KP 0))), (kr 1, .inl (G.2 0, 64, .inl (KP 1))), (kr 2, .inl (G.2 0, 64, .inl (KP 2))), (kr 3, .inl (G.2 0, 64, .inl (KP 3)))] t.heap ∧ va_D (va_A [(m0, .inr (7, [.int th, .int mr, .long po, .ref dO, .ref sl, .ref ct0, .int mf, .int sp, .ref st0, .ref fs0, .ref jn0, .ref rw0, .ref fd0, .ref af0, .ref kO])), (dO, .inl (G.2 4, 6, .inr (.inr (.inr (.inr (fun k => if k < 6 then some (dr k) else none)))))), (dr 0, .inl (G.2 0, 64, .inl (DD 0))), (dr 1, .inl (G.2 0, 64, .inl (DD 1))), (dr 2, .inl (G.2 0, 64, .inl (DD 2))), (dr 3, .inl (G.2 0, 64, .inl (DD 3))), (dr 4, .inl (G.2 0, 64, .inl (DD 4))), (dr 5, .inl (G.2 0, 64, .inl (DD 5))), (ct0, .inl (G.2 0, 6, .inl ctf)), (st0, .inl (G.2 0, 4096, .inl stf)), (fs0, .inl (G.2 0, 4096, .inl fsf)), (jn0, .inl (G.2 0, 64, .inl jnf)), (rw0, .inl (G.2 0, 64, .inl rwf)), (fd0, .inl (G.2 1, 40, .inr (.inl fdf))), (af0, .inl (G.2 3, 40, .inl aff)), (kO, .inl (G.2 4, 4, .inr (.inr (.inr (.inr (fun k => if k < 4 then some (kr k) else none)))))), (kr 0, .inl (G.2 0, 64, .inl (KP 0))), (kr 1, .inl (G.2 0, 64, .inl (KP 1))), (kr 2, .inl (G.2 0, 64, .inl (KP 2))), (kr 3, .inl (G.2 0, 64, .inl (KP 3)))] sz) [(m0, .inr (7, [.int th, .int mr, .long po, .ref dO, .ref sl, .ref ct0, .int mf, .int (u.1), .ref st0, .ref fs0, .ref jn0, .ref rw0, .ref fd0, .ref af0, .ref kO])), (dO, .inl (G.2 4, 6, .inr (.inr (.inr (.inr (fun k => if k < 6 then some (dr k) else none)))))), (dr 0, .inl (G.2 0, 64, .inl (DD 0))), (dr 1, .inl (G.2 0, 64, .inl (DD 1))), (dr 2, .inl (G.2 0, 64, .inl (DD 2))), (dr 3, .inl (G.2 0, 64, .inl (DD 3))), (dr 4, .inl (G.2 0, 64, .inl (DD 4))), (dr 5, .inl (G.2 0, 64, .inl (DD 5))), (ct0, .inl (G.2 0, 6, .inl ctf)), (st0, .inl (G.2 0, 4096, .inl (u.2.1))), (fs0, .inl (G.2 0, 4096, .inl (u.2.2.1))), (jn0, .inl (G.2 0, 64, .inl (u.2.2.2.1))), (rw0, .inl (G.2 0, 64, .inl (u.2.2.2.2))), (fd0, .inl (G.2 1, 40, .inr (.inl fdf))), (af0, .inl (G.2 3, 40, .inl aff)), (kO, .inl (G.2 4, 4, .inr (.inr (.inr (.inr (fun k => if k < 4 then some (kr k) else none)))))), (kr 0, .inl (G.2 0, 64, .inl (KP 0))), (kr 1, .inl (G.2 0, 64, .inl (KP 1))), (kr 2, .inl (G.2 0, 64, .inl (KP 2))), (kr 3, .inl (G.2 0, 64, .inl (KP 3)))]) (va_A [(m0, .inr (7, [.int th, .int mr, .long po, .ref dO, .ref sl, .ref ct0, .int mf, .int sp, .ref st0, .ref fs0, .ref jn0, .ref rw0, .ref fd0, .ref af0, .ref kO])), (dO, .inl (G.2 4, 6, .inr (.inr (.inr (.inr (fun k => if k < 6 then some (dr k) else none)))))), (dr 0, .inl (G.2 0, 64, .inl (DD 0))), (dr 1, .inl (G.2 0, 64, .inl (DD 1))), (dr 2, .inl (G.2 0, 64, .inl (DD 2))), (dr 3, .inl (G.2 0, 64, .inl (DD 3))), (dr 4, .inl (G.2 0, 64, .inl (DD 4))), (dr 5, .inl (G.2 0, 64, .inl (DD 5))), (ct0, .inl (G.2 0, 6, .inl ctf)), (st0, .inl (G.2 0, 4096, .inl stf)), (fs0, .inl (G.2 0, 4096, .inl fsf)), (jn0, .inl (G.2 0, 64, .inl jnf)), (rw0, .inl (G.2 0, 64, .inl rwf)), (fd0, .inl (G.2 1, 40, .inr (.inl fdf))), (af0, .inl (G.2 3, 40, .inl aff)), (kO, .inl (G.2 4, 4, .inr (.inr (.inr (.inr (fun k => if k < 4 then some (kr k) else none)))))), (kr 0, .inl (G.2 0, 64, .inl (KP 0))), (kr 1, .inl (G.2 0, 64, .inl (KP 1))), (kr 2, .inl (G.2 0, 64, .inl (KP 2))), (kr 3, .inl (G.2 0, 64, .inl (KP 3)))] sz)) 0 0 (va_A [(m0, .inr (7, [.int th, .int mr, .long po, .ref dO, .ref sl, .ref ct0, .int mf, .int sp, .ref st0, .ref fs0, .ref jn0, .ref rw0, .ref fd0, .ref af0, .ref kO])), (dO, .inl (G.2 4, 6, .inr (.inr (.inr (.inr (fun k => if k < 6 then some (dr k) else none)))))), (dr 0, .inl (G.2 0, 64, .inl (DD 0))), (dr 1, .inl (G.2 0, 64, .inl (DD 1))), (dr 2, .inl (G.2 0, 64, .inl (DD 2))), (dr 3, .inl (G.2 0, 64, .inl (DD 3))), (dr 4, .inl (G.2 0, 64, .inl (DD 4))), (dr 5, .inl (G.2 0, 64, .inl (DD 5))), (ct0, .inl (G.2 0, 6, .inl ctf)), (st0, .inl (G.2 0, 4096, .inl stf)), (fs0, .inl (G.2 0, 4096, .inl fsf)), (jn0, .inl (G.2 0, 64, .inl jnf)), (rw0, .inl (G.2 0, 64, .inl rwf)), (fd0, .inl (G.2 1, 40, .inr (.inl fdf))), (af0, .inl (G.2 3, 40, .inl aff)), (kO, .inl (G.2 4, 4, .inr (.inr (.inr (.inr (fun k => if k < 4 then some (kr k) else none)))))), (kr 0, .inl (G.2 0, 64, .inl (KP 0))), (kr 1, .inl (G.2 0, 64, .inl (KP 1))), (kr 2, .inl (G.2 0, 64, .inl (KP 2))), (kr 3, .inl (G.2 0, 64, .inl (KP 3)))] sz) := by
  refine Met.ofW (cc := cX4_together) (maxL := 5) (ret := (some .long)) (by decide) rfl ?_
  intro p e s m args below meth c s₁ B hml hv
  obtain ⟨rfl, hsz, hP, hKK, hD0⟩ := hv
  obtain ⟨hK, hN, hR, hFW, hNC⟩ := id hKK
  have hx := B.exec
  have hb := B.bytes
  have hr := B.returns
  have hts0 := atoms_spec (ws := wl_X4_together) B.pre
  have hts : ∀ w ∈ lwg, w.before ([.ref m0, .int p1, .long p2] : List Value).toArray s = true := fun w hw => hts0 w (List.mem_cons_of_mem _ hw)
  have hown : s.vm.findClass RX4 = some m.cls := findClass_of_methodNamed B.named
  have hlocks := B.notSynchronized
  subst hsz
  have hD := hD0.self (sz := s.heap.size)
  generalize hAe : va_A [(m0, .inr (7, [.int th, .int mr, .long po, .ref dO, .ref sl, .ref ct0, .int mf, .int sp, .ref st0, .ref fs0, .ref jn0, .ref rw0, .ref fd0, .ref af0, .ref kO])), (dO, .inl (G.2 4, 6, .inr (.inr (.inr (.inr (fun k => if k < 6 then some (dr k) else none)))))), (dr 0, .inl (G.2 0, 64, .inl (DD 0))), (dr 1, .inl (G.2 0, 64, .inl (DD 1))), (dr 2, .inl (G.2 0, 64, .inl (DD 2))), (dr 3, .inl (G.2 0, 64, .inl (DD 3))), (dr 4, .inl (G.2 0, 64, .inl (DD 4))), (dr 5, .inl (G.2 0, 64, .inl (DD 5))), (ct0, .inl (G.2 0, 6, .inl ctf)), (st0, .inl (G.2 0, 4096, .inl stf)), (fs0, .inl (G.2 0, 4096, .inl fsf)), (jn0, .inl (G.2 0, 64, .inl jnf)), (rw0, .inl (G.2 0, 64, .inl rwf)), (fd0, .inl (G.2 1, 40, .inr (.inl fdf))), (af0, .inl (G.2 3, 40, .inl aff)), (kO, .inl (G.2 4, 4, .inr (.inr (.inr (.inr (fun k => if k < 4 then some (kr k) else none)))))), (kr 0, .inl (G.2 0, 64, .inl (KP 0))), (kr 1, .inl (G.2 0, 64, .inl (KP 1))), (kr 2, .inl (G.2 0, 64, .inl (KP 2))), (kr 3, .inl (G.2 0, 64, .inl (KP 3)))] s.heap.size = A at hD ⊢
  have hA : ∀ q : Nat, s.heap.size ≤ q → A q := fun q h => by rw [← hAe]; exact Or.inr h
  have hS : va_S A s.heap s.heap [] := va_S.rf
  obtain ⟨QC, hQC⟩ : ∃ Z, Z = (va_Ql post (fun u t => PP G [(m0, .inr (7, [.int th, .int mr, .long po, .ref dO, .ref sl, .ref ct0, .int mf, .int (u.1), .ref st0, .ref fs0, .ref jn0, .ref rw0, .ref fd0, .ref af0, .ref kO])), (dO, .inl (G.2 4, 6, .inr (.inr (.inr (.inr (fun k => if k < 6 then some (dr k) else none)))))), (dr 0, .inl (G.2 0, 64, .inl (DD 0))), (dr 1, .inl (G.2 0, 64, .inl (DD 1))), (dr 2, .inl (G.2 0, 64, .inl (DD 2))), (dr 3, .inl (G.2 0, 64, .inl (DD 3))), (dr 4, .inl (G.2 0, 64, .inl (DD 4))), (dr 5, .inl (G.2 0, 64, .inl (DD 5))), (ct0, .inl (G.2 0, 6, .inl ctf)), (st0, .inl (G.2 0, 4096, .inl (u.2.1))), (fs0, .inl (G.2 0, 4096, .inl (u.2.2.1))), (jn0, .inl (G.2 0, 64, .inl (u.2.2.2.1))), (rw0, .inl (G.2 0, 64, .inl (u.2.2.2.2))), (fd0, .inl (G.2 1, 40, .inr (.inl fdf))), (af0, .inl (G.2 3, 40, .inl aff)), (kO, .inl (G.2 4, 4, .inr (.inr (.inr (.inr (fun k => if k < 4 then some (kr k) else none)))))), (kr 0, .inl (G.2 0, 64, .inl (KP 0))), (kr 1, .inl (G.2 0, 64, .inl (KP 1))), (kr 2, .inl (G.2 0, 64, .inl (KP 2))), (kr 3, .inl (G.2 0, 64, .inl (KP 3)))] t.heap ∧ va_D A [(m0, .inr (7, [.int th, .int mr, .long po, .ref dO, .ref sl, .ref ct0, .int mf, .int (u.1), .ref st0, .ref fs0, .ref jn0, .ref rw0, .ref fd0, .ref af0, .ref kO])), (dO, .inl (G.2 4, 6, .inr (.inr (.inr (.inr (fun k => if k < 6 then some (dr k) else none)))))), (dr 0, .inl (G.2 0, 64, .inl (DD 0))), (dr 1, .inl (G.2 0, 64, .inl (DD 1))), (dr 2, .inl (G.2 0, 64, .inl (DD 2))), (dr 3, .inl (G.2 0, 64, .inl (DD 3))), (dr 4, .inl (G.2 0, 64, .inl (DD 4))), (dr 5, .inl (G.2 0, 64, .inl (DD 5))), (ct0, .inl (G.2 0, 6, .inl ctf)), (st0, .inl (G.2 0, 4096, .inl (u.2.1))), (fs0, .inl (G.2 0, 4096, .inl (u.2.2.1))), (jn0, .inl (G.2 0, 64, .inl (u.2.2.2.1))), (rw0, .inl (G.2 0, 64, .inl (u.2.2.2.2))), (fd0, .inl (G.2 1, 40, .inr (.inl fdf))), (af0, .inl (G.2 3, 40, .inl aff)), (kO, .inl (G.2 4, 4, .inr (.inr (.inr (.inr (fun k => if k < 4 then some (kr k) else none)))))), (kr 0, .inl (G.2 0, 64, .inl (KP 0))), (kr 1, .inl (G.2 0, 64, .inl (KP 1))), (kr 2, .inl (G.2 0, 64, .inl (KP 2))), (kr 3, .inl (G.2 0, 64, .inl (KP 3)))]) A) := ⟨_, rfl⟩
  rw [← hQC]
  have hP : PP G [(m0, .inr (7, [.int th, .int mr, .long po, .ref dO, .ref sl, .ref ct0, .int mf, .int sp, .ref st0, .ref fs0, .ref jn0, .ref rw0, .ref fd0, .ref af0, .ref kO])), (dO, .inl (G.2 4, 6, .inr (.inr (.inr (.inr (fun k => if k < 6 then some (dr k) else none)))))), (dr 0, .inl (G.2 0, 64, .inl (DD 0))), (dr 1, .inl (G.2 0, 64, .inl (DD 1))), (dr 2, .inl (G.2 0, 64, .inl (DD 2))), (dr 3, .inl (G.2 0, 64, .inl (DD 3))), (dr 4, .inl (G.2 0, 64, .inl (DD 4))), (dr 5, .inl (G.2 0, 64, .inl (DD 5))), (ct0, .inl (G.2 0, 6, .inl ctf)), (st0, .inl (G.2 0, 4096, .inl stf)), (fs0, .inl (G.2 0, 4096, .inl fsf)), (jn0, .inl (G.2 0, 64, .inl jnf)), (rw0, .inl (G.2 0, 64, .inl rwf)), (fd0, .inl (G.2 1, 40, .inr (.inl fdf))), (af0, .inl (G.2 3, 40, .inl aff)), (kO, .inl (G.2 4, 4, .inr (.inr (.inr (.inr (fun k => if k < 4 then some (kr k) else none)))))), (kr 0, .inl (G.2 0, 64, .inl (KP 0))), (kr 1, .inl (G.2 0, 64, .inl (KP 1))), (kr 2, .inl (G.2 0, 64, .inl (KP 2))), (kr 3, .inl (G.2 0, 64, .inl (KP 3)))] s.heap := hP
  have hl := lv_entry ([.ref m0, .int p1, .long p2]) (n := 5) (Nat.le_of_ble_eq_true rfl)
  rw [lg_entry_eq]
  generalize (lg_sl ([.ref m0, .int p1, .long p2]) ++ List.replicate (5 - (lg_sl ([.ref m0, .int p1, .long p2])).length) Slot.unset).toArray = ls at hl ⊢
  have hl : lv_has ls 5 [(0, .ref m0), (1, .int p1), (2, .long p2)] := hl
  have loop3 : ∀ (K24 : Int32 → (Nat → Int32) → Prop), True → (∀ (i4 : Int32) (rwf' : Nat → Int32) (ls : Array Slot) (H : Heap) (locs : List Loc), lv_has ls 5 [(0, .ref m0), (1, .int p1), (2, .long p2), (4, .int i4)] → PP G [(m0, .inr (7, [.int th, .int mr, .long po, .ref dO, .ref sl, .ref ct0, .int mf, .int sp, .ref st0, .ref fs0, .ref jn0, .ref rw0, .ref fd0, .ref af0, .ref kO])), (dO, .inl (G.2 4, 6, .inr (.inr (.inr (.inr (fun k => if k < 6 then some (dr k) else none)))))), (dr 0, .inl (G.2 0, 64, .inl (DD 0))), (dr 1, .inl (G.2 0, 64, .inl (DD 1))), (dr 2, .inl (G.2 0, 64, .inl (DD 2))), (dr 3, .inl (G.2 0, 64, .inl (DD 3))), (dr 4, .inl (G.2 0, 64, .inl (DD 4))), (dr 5, .inl (G.2 0, 64, .inl (DD 5))), (ct0, .inl (G.2 0, 6, .inl ctf)), (st0, .inl (G.2 0, 4096, .inl stf)), (fs0, .inl (G.2 0, 4096, .inl fsf)), (jn0, .inl (G.2 0, 64, .inl jnf)), (rw0, .inl (G.2 0, 64, .inl rwf')), (fd0, .inl (G.2 1, 40, .inr (.inl fdf))), (af0, .inl (G.2 3, 40, .inl aff)), (kO, .inl (G.2 4, 4, .inr (.inr (.inr (.inr (fun k => if k < 4 then some (kr k) else none)))))), (kr 0, .inl (G.2 0, 64, .inl (KP 0))), (kr 1, .inl (G.2 0, 64, .inl (KP 1))), (kr 2, .inl (G.2 0, 64, .inl (KP 2))), (kr 3, .inl (G.2 0, 64, .inl (KP 3)))] H → va_D A [(m0, .inr (7, [.int th, .int mr, .long po, .ref dO, .ref sl, .ref ct0, .int mf, .int sp, .ref st0, .ref fs0, .ref jn0, .ref rw0, .ref fd0, .ref af0, .ref kO])), (dO, .inl (G.2 4, 6, .inr (.inr (.inr (.inr (fun k => if k < 6 then some (dr k) else none)))))), (dr 0, .inl (G.2 0, 64, .inl (DD 0))), (dr 1, .inl (G.2 0, 64, .inl (DD 1))), (dr 2, .inl (G.2 0, 64, .inl (DD 2))), (dr 3, .inl (G.2 0, 64, .inl (DD 3))), (dr 4, .inl (G.2 0, 64, .inl (DD 4))), (dr 5, .inl (G.2 0, 64, .inl (DD 5))), (ct0, .inl (G.2 0, 6, .inl ctf)), (st0, .inl (G.2 0, 4096, .inl stf)), (fs0, .inl (G.2 0, 4096, .inl fsf)), (jn0, .inl (G.2 0, 64, .inl jnf)), (rw0, .inl (G.2 0, 64, .inl rwf')), (fd0, .inl (G.2 1, 40, .inr (.inl fdf))), (af0, .inl (G.2 3, 40, .inl aff)), (kO, .inl (G.2 4, 4, .inr (.inr (.inr (.inr (fun k => if k < 4 then some (kr k) else none)))))), (kr 0, .inl (G.2 0, 64, .inl (KP 0))), (kr 1, .inl (G.2 0, 64, .inl (KP 1))), (kr 2, .inl (G.2 0, 64, .inl (KP 2))), (kr 3, .inl (G.2 0, 64, .inl (KP 3)))] → va_S A s.heap H locs → K24 i4 rwf' → W p l e (headSpec (wl_X4_together) rm_X4_together).room s m ([.ref m0, .int p1, .long p2] : List Value).toArray below meth c H locs 0 0 (MQ below QC ([.ref m0, .int p1, .long p2] : List Value).toArray s 0 0 A) (F0 m 24 ls [])) → ∀ (n : Nat) (i4 : Int32) (rwf' : Nat → Int32) (ls : Array Slot) (H : Heap) (locs : List Loc), lv_has ls 5 [(0, .ref m0), (1, .int p1), (2, .long p2), (4, .int i4)] → PP G [(m0, .inr (7, [.int th, .int mr, .long po, .ref dO, .ref sl, .ref ct0, .int mf, .int sp, .ref st0, .ref fs0, .ref jn0, .ref rw0, .ref fd0, .ref af0, .ref kO])), (dO, .inl (G.2 4, 6, .inr (.inr (.inr (.inr (fun k => if k < 6 then some (dr k) else none)))))), (dr 0, .inl (G.2 0, 64, .inl (DD 0))), (dr 1, .inl (G.2 0, 64, .inl (DD 1))), (dr 2, .inl (G.2 0, 64, .inl (DD 2))), (dr 3, .inl (G.2 0, 64, .inl (DD 3))), (dr 4, .inl (G.2 0, 64, .inl (DD 4))), (dr 5, .inl (G.2 0, 64, .inl (DD 5))), (ct0, .inl (G.2 0, 6, .inl ctf)), (st0, .inl (G.2 0, 4096, .inl stf)), (fs0, .inl (G.2 0, 4096, .inl fsf)), (jn0, .inl (G.2 0, 64, .inl jnf)), (rw0, .inl (G.2 0, 64, .inl rwf')), (fd0, .inl (G.2 1, 40, .inr (.inl fdf))), (af0, .inl (G.2 3, 40, .inl aff)), (kO, .inl (G.2 4, 4, .inr (.inr (.inr (.inr (fun k => if k < 4 then some (kr k) else none)))))), (kr 0, .inl (G.2 0, 64, .inl (KP 0))), (kr 1, .inl (G.2 0, 64, .inl (KP 1))), (kr 2, .inl (G.2 0, 64, .inl (KP 2))), (kr 3, .inl (G.2 0, 64, .inl (KP 3)))] H → va_D A [(m0, .inr (7, [.int th, .int mr, .long po, .ref dO, .ref sl, .ref ct0, .int mf, .int sp, .ref st0, .ref fs0, .ref jn0, .ref rw0, .ref fd0, .ref af0, .ref kO])), (dO, .inl (G.2 4, 6, .inr (.inr (.inr (.inr (fun k => if k < 6 then some (dr k) else none)))))), (dr 0, .inl (G.2 0, 64, .inl (DD 0))), (dr 1, .inl (G.2 0, 64, .inl (DD 1))), (dr 2, .inl (G.2 0, 64, .inl (DD 2))), (dr 3, .inl (G.2 0, 64, .inl (DD 3))), (dr 4, .inl (G.2 0, 64, .inl (DD 4))), (dr 5, .inl (G.2 0, 64, .inl (DD 5))), (ct0, .inl (G.2 0, 6, .inl ctf)), (st0, .inl (G.2 0, 4096, .inl stf)), (fs0, .inl (G.2 0, 4096, .inl fsf)), (jn0, .inl (G.2 0, 64, .inl jnf)), (rw0, .inl (G.2 0, 64, .inl rwf')), (fd0, .inl (G.2 1, 40, .inr (.inl fdf))), (af0, .inl (G.2 3, 40, .inl aff)), (kO, .inl (G.2 4, 4, .inr (.inr (.inr (.inr (fun k => if k < 4 then some (kr k) else none)))))), (kr 0, .inl (G.2 0, 64, .inl (KP 0))), (kr 1, .inl (G.2 0, 64, .inl (KP 1))), (kr 2, .inl (G.2 0, 64, .inl (KP 2))), (kr 3, .inl (G.2 0, 64, .inl (KP 3)))] → va_S A s.heap H locs → wX4_together_L3 post K24 n i4 rwf' → W p l e (headSpec (wl_X4_together) rm_X4_together).room s m ([.ref m0, .int p1, .long p2] : List Value).toArray below meth c H locs 0 0 (MQ below QC ([.ref m0, .int p1, .long p2] : List Value).toArray s 0 0 A) (F0 m 3 ls []) := by
    intro K24 _ hexit24 n
    induction n with
    | zero => intro i4 rwf' ls H locs hl hP hD hS h; exact False.elim h
    | succ n ih =>
      intro i4 rwf' ls H locs hl hP hD hS h
      refine lv_iload hx hb dX4_together_3 (lv_at hl 3 rfl) ?_
      refine lv_bipush (v := 64) hx hb dX4_together_5 (by decide) ?_
      refine lv_icmp_ge (tgt := 24) hx hb dX4_together_7 (by decide) (fun hc => ?_) (fun hc => ?_)
      · have h := h.1 hc
        have hl := lv_sub (l' := [(0, .ref m0), (1, .int p1), (2, .long p2), (4, .int i4)]) hl [0, 1, 2, 3] rfl
        exact hexit24 _ _ ls H locs hl hP hD hS h
      · have h := h.2 hc
        refine lv_aload_n hx hb dX4_together_10 rfl (lv_at hl 0 rfl) ?_
        refine va_get (D := G.1) (ci := 7) (v := .ref rw0) (C := RX4) (T := TX4) (N := 15) hx hb hts igX4 hown hK hP 0 rfl rfl 11 (by decide) (hts _ q1016) (fun _ h9 => h9) rfl dX4_together_11 ?_
        refine lv_iload hx hb dX4_together_14 (lv_at hl 3 rfl) ?_
        refine lv_iconst (v := 0) hx hb dX4_together_16 (by decide) ?_
        obtain ⟨hin, h⟩ := h
        refine va_iast (D := G.1) hx hb hK hP hD hS 12 0 rfl rfl hin dX4_together_17 (fun H locs hP hD hS => ?_)
        have hP : PP G [(m0, .inr (7, [.int th, .int mr, .long po, .ref dO, .ref sl, .ref ct0, .int mf, .int sp, .ref st0, .ref fs0, .ref jn0, .ref rw0, .ref fd0, .ref af0, .ref kO])), (dO, .inl (G.2 4, 6, .inr (.inr (.inr (.inr (fun k => if k < 6 then some (dr k) else none)))))), (dr 0, .inl (G.2 0, 64, .inl (DD 0))), (dr 1, .inl (G.2 0, 64, .inl (DD 1))), (dr 2, .inl (G.2 0, 64, .inl (DD 2))), (dr 3, .inl (G.2 0, 64, .inl (DD 3))), (dr 4, .inl (G.2 0, 64, .inl (DD 4))), (dr 5, .inl (G.2 0, 64, .inl (DD 5))), (ct0, .inl (G.2 0, 6, .inl ctf)), (st0, .inl (G.2 0, 4096, .inl stf)), (fs0, .inl (G.2 0, 4096, .inl fsf)), (jn0, .inl (G.2 0, 64, .inl jnf)), (rw0, .inl (G.2 0, 64, .inl (upd rwf' i4.toNatClampNeg (0 : Int32)))), (fd0, .inl (G.2 1, 40, .inr (.inl fdf))), (af0, .inl (G.2 3, 40, .inl aff)), (kO, .inl (G.2 4, 4, .inr (.inr (.inr (.inr (fun k => if k < 4 then some (kr k) else none)))))), (kr 0, .inl (G.2 0, 64, .inl (KP 0))), (kr 1, .inl (G.2 0, 64, .inl (KP 1))), (kr 2, .inl (G.2 0, 64, .inl (KP 2))), (kr 3, .inl (G.2 0, 64, .inl (KP 3)))] H := hP
        have hD : va_D A [(m0, .inr (7, [.int th, .int mr, .long po, .ref dO, .ref sl, .ref ct0, .int mf, .int sp, .ref st0, .ref fs0, .ref jn0, .ref rw0, .ref fd0, .ref af0, .ref kO])), (dO, .inl (G.2 4, 6, .inr (.inr (.inr (.inr (fun k => if k < 6 then some (dr k) else none)))))), (dr 0, .inl (G.2 0, 64, .inl (DD 0))), (dr 1, .inl (G.2 0, 64, .inl (DD 1))), (dr 2, .inl (G.2 0, 64, .inl (DD 2))), (dr 3, .inl (G.2 0, 64, .inl (DD 3))), (dr 4, .inl (G.2 0, 64, .inl (DD 4))), (dr 5, .inl (G.2 0, 64, .inl (DD 5))), (ct0, .inl (G.2 0, 6, .inl ctf)), (st0, .inl (G.2 0, 4096, .inl stf)), (fs0, .inl (G.2 0, 4096, .inl fsf)), (jn0, .inl (G.2 0, 64, .inl jnf)), (rw0, .inl (G.2 0, 64, .inl (upd rwf' i4.toNatClampNeg (0 : Int32)))), (fd0, .inl (G.2 1, 40, .inr (.inl fdf))), (af0, .inl (G.2 3, 40, .inl aff)), (kO, .inl (G.2 4, 4, .inr (.inr (.inr (.inr (fun k => if k < 4 then some (kr k) else none)))))), (kr 0, .inl (G.2 0, 64, .inl (KP 0))), (kr 1, .inl (G.2 0, 64, .inl (KP 1))), (kr 2, .inl (G.2 0, 64, .inl (KP 2))), (kr 3, .inl (G.2 0, 64, .inl (KP 3)))] := hD
        refine lv_iinc (v := (i4 + 1)) hx hb dX4_together_18 hl (k := 3) rfl (by rw [show Int32.ofInt 1 = 1 from by decide]) (Nat.le_of_ble_eq_true rfl) rfl (fun ls hl => ?_)
        have hl : lv_has ls 5 [(4, .int (i4 + 1)), (0, .ref m0), (1, .int p1), (2, .long p2)] := hl
        refine lv_goto (tgt := 3) hx hb dX4_together_21 (by decide) ?_
        have hl := lv_sub (l' := [(0, .ref m0), (1, .int p1), (2, .long p2), (4, .int (i4 + 1))]) hl [1, 2, 3, 0] rfl
        exact ih _ _ ls H locs hl hP hD hS h
  have loop27 : ∀ (K68 : Int32 → Int32 → (Nat → Int32) → (Nat → Int32) → (Nat → Int32) → (Nat → Int32) → Prop), True → (∀ (i4 : Int32) (sp' : Int32) (stf' : Nat → Int32) (fsf' : Nat → Int32) (jnf' : Nat → Int32) (rwf' : Nat → Int32) (ls : Array Slot) (H : Heap) (locs : List Loc), lv_has ls 5 [(0, .ref m0), (1, .int p1), (2, .long p2), (4, .int i4)] → PP G [(m0, .inr (7, [.int th, .int mr, .long po, .ref dO, .ref sl, .ref ct0, .int mf, .int sp', .ref st0, .ref fs0, .ref jn0, .ref rw0, .ref fd0, .ref af0, .ref kO])), (dO, .inl (G.2 4, 6, .inr (.inr (.inr (.inr (fun k => if k < 6 then some (dr k) else none)))))), (dr 0, .inl (G.2 0, 64, .inl (DD 0))), (dr 1, .inl (G.2 0, 64, .inl (DD 1))), (dr 2, .inl (G.2 0, 64, .inl (DD 2))), (dr 3, .inl (G.2 0, 64, .inl (DD 3))), (dr 4, .inl (G.2 0, 64, .inl (DD 4))), (dr 5, .inl (G.2 0, 64, .inl (DD 5))), (ct0, .inl (G.2 0, 6, .inl ctf)), (st0, .inl (G.2 0, 4096, .inl stf')), (fs0, .inl (G.2 0, 4096, .inl fsf')), (jn0, .inl (G.2 0, 64, .inl jnf')), (rw0, .inl (G.2 0, 64, .inl rwf')), (fd0, .inl (G.2 1, 40, .inr (.inl fdf))), (af0, .inl (G.2 3, 40, .inl aff)), (kO, .inl (G.2 4, 4, .inr (.inr (.inr (.inr (fun k => if k < 4 then some (kr k) else none)))))), (kr 0, .inl (G.2 0, 64, .inl (KP 0))), (kr 1, .inl (G.2 0, 64, .inl (KP 1))), (kr 2, .inl (G.2 0, 64, .inl (KP 2))), (kr 3, .inl (G.2 0, 64, .inl (KP 3)))] H → va_D A [(m0, .inr (7, [.int th, .int mr, .long po, .ref dO, .ref sl, .ref ct0, .int mf, .int sp', .ref st0, .ref fs0, .ref jn0, .ref rw0, .ref fd0, .ref af0, .ref kO])), (dO, .inl (G.2 4, 6, .inr (.inr (.inr (.inr (fun k => if k < 6 then some (dr k) else none)))))), (dr 0, .inl (G.2 0, 64, .inl (DD 0))), (dr 1, .inl (G.2 0, 64, .inl (DD 1))), (dr 2, .inl (G.2 0, 64, .inl (DD 2))), (dr 3, .inl (G.2 0, 64, .inl (DD 3))), (dr 4, .inl (G.2 0, 64, .inl (DD 4))), (dr 5, .inl (G.2 0, 64, .inl (DD 5))), (ct0, .inl (G.2 0, 6, .inl ctf)), (st0, .inl (G.2 0, 4096, .inl stf')), (fs0, .inl (G.2 0, 4096, .inl fsf')), (jn0, .inl (G.2 0, 64, .inl jnf')), (rw0, .inl (G.2 0, 64, .inl rwf')), (fd0, .inl (G.2 1, 40, .inr (.inl fdf))), (af0, .inl (G.2 3, 40, .inl aff)), (kO, .inl (G.2 4, 4, .inr (.inr (.inr (.inr (fun k => if k < 4 then some (kr k) else none)))))), (kr 0, .inl (G.2 0, 64, .inl (KP 0))), (kr 1, .inl (G.2 0, 64, .inl (KP 1))), (kr 2, .inl (G.2 0, 64, .inl (KP 2))), (kr 3, .inl (G.2 0, 64, .inl (KP 3)))] → va_S A s.heap H locs → K68 i4 sp' stf' fsf' jnf' rwf' → W p l e (headSpec (wl_X4_together) rm_X4_together).room s m ([.ref m0, .int p1, .long p2] : List Value).toArray below meth c H locs 0 0 (MQ below QC ([.ref m0, .int p1, .long p2] : List Value).toArray s 0 0 A) (F0 m 68 ls [])) → ∀ (n : Nat) (i4 : Int32) (sp' : Int32) (stf' : Nat → Int32) (fsf' : Nat → Int32) (jnf' : Nat → Int32) (rwf' : Nat → Int32) (ls : Array Slot) (H : Heap) (locs : List Loc), lv_has ls 5 [(0, .ref m0), (1, .int p1), (2, .long p2), (4, .int i4)] → PP G [(m0, .inr (7, [.int th, .int mr, .long po, .ref dO, .ref sl, .ref ct0, .int mf, .int sp', .ref st0, .ref fs0, .ref jn0, .ref rw0, .ref fd0, .ref af0, .ref kO])), (dO, .inl (G.2 4, 6, .inr (.inr (.inr (.inr (fun k => if k < 6 then some (dr k) else none)))))), (dr 0, .inl (G.2 0, 64, .inl (DD 0))), (dr 1, .inl (G.2 0, 64, .inl (DD 1))), (dr 2, .inl (G.2 0, 64, .inl (DD 2))), (dr 3, .inl (G.2 0, 64, .inl (DD 3))), (dr 4, .inl (G.2 0, 64, .inl (DD 4))), (dr 5, .inl (G.2 0, 64, .inl (DD 5))), (ct0, .inl (G.2 0, 6, .inl ctf)), (st0, .inl (G.2 0, 4096, .inl stf')), (fs0, .inl (G.2 0, 4096, .inl fsf')), (jn0, .inl (G.2 0, 64, .inl jnf')), (rw0, .inl (G.2 0, 64, .inl rwf')), (fd0, .inl (G.2 1, 40, .inr (.inl fdf))), (af0, .inl (G.2 3, 40, .inl aff)), (kO, .inl (G.2 4, 4, .inr (.inr (.inr (.inr (fun k => if k < 4 then some (kr k) else none)))))), (kr 0, .inl (G.2 0, 64, .inl (KP 0))), (kr 1, .inl (G.2 0, 64, .inl (KP 1))), (kr 2, .inl (G.2 0, 64, .inl (KP 2))), (kr 3, .inl (G.2 0, 64, .inl (KP 3)))] H → va_D A [(m0, .inr (7, [.int th, .int mr, .long po, .ref dO, .ref sl, .ref ct0, .int mf, .int sp', .ref st0, .ref fs0, .ref jn0, .ref rw0, .ref fd0, .ref af0, .ref kO])), (dO, .inl (G.2 4, 6, .inr (.inr (.inr (.inr (fun k => if k < 6 then some (dr k) else none)))))), (dr 0, .inl (G.2 0, 64, .inl (DD 0))), (dr 1, .inl (G.2 0, 64, .inl (DD 1))), (dr 2, .inl (G.2 0, 64, .inl (DD 2))), (dr 3, .inl (G.2 0, 64, .inl (DD 3))), (dr 4, .inl (G.2 0, 64, .inl (DD 4))), (dr 5, .inl (G.2 0, 64, .inl (DD 5))), (ct0, .inl (G.2 0, 6, .inl ctf)), (st0, .inl (G.2 0, 4096, .inl stf')), (fs0, .inl (G.2 0, 4096, .inl fsf')), (jn0, .inl (G.2 0, 64, .inl jnf')), (rw0, .inl (G.2 0, 64, .inl rwf')), (fd0, .inl (G.2 1, 40, .inr (.inl fdf))), (af0, .inl (G.2 3, 40, .inl aff)), (kO, .inl (G.2 4, 4, .inr (.inr (.inr (.inr (fun k => if k < 4 then some (kr k) else none)))))), (kr 0, .inl (G.2 0, 64, .inl (KP 0))), (kr 1, .inl (G.2 0, 64, .inl (KP 1))), (kr 2, .inl (G.2 0, 64, .inl (KP 2))), (kr 3, .inl (G.2 0, 64, .inl (KP 3)))] → va_S A s.heap H locs → wX4_together_L27 post K68 DD p1 n i4 sp' stf' fsf' jnf' rwf' → W p l e (headSpec (wl_X4_together) rm_X4_together).room s m ([.ref m0, .int p1, .long p2] : List Value).toArray below meth c H locs 0 0 (MQ below QC ([.ref m0, .int p1, .long p2] : List Value).toArray s 0 0 A) (F0 m 27 ls []) := by
    intro K68 _ hexit68 n
    induction n with
    | zero => intro i4 sp' stf' fsf' jnf' rwf' ls H locs hl hP hD hS h; exact False.elim h
    | succ n ih =>
      intro i4 sp' stf' fsf' jnf' rwf' ls H locs hl hP hD hS h
      refine lv_iload hx hb dX4_together_27 (lv_at hl 3 rfl) ?_
      refine lv_bipush (v := 6) hx hb dX4_together_29 (by decide) ?_
      refine lv_icmp_ge (tgt := 68) hx hb dX4_together_31 (by decide) (fun hc => ?_) (fun hc => ?_)
      · have h := h.1 hc
        have hl := lv_sub (l' := [(0, .ref m0), (1, .int p1), (2, .long p2), (4, .int i4)]) hl [0, 1, 2, 3] rfl
        exact hexit68 _ _ _ _ _ _ ls H locs hl hP hD hS h
      · have h := h.2 hc
        refine lv_iload_n hx hb dX4_together_34 rfl (lv_at hl 1 rfl) ?_
        refine lv_iload hx hb dX4_together_35 (lv_at hl 3 rfl) ?_
        have hPc := va_P.sub (ws' := []) hP [] rfl
        refine rdI (va_runS (As := [.int p1, .int i4]) (rest := []) ⟨hx, hb, hml, hown, hts⟩ (kX4_has l G p1 i4 h) (va_cwS 2 hts (gdS q1111 q1112 q6 q1113) rfl rfl rfl (by decide +kernel) ⟨Nat.le_of_ble_eq_true rfl, Nat.le_of_ble_eq_true rfl⟩) (preS hPc hKK) rfl rfl hl.1 rfl (lv_room (Nat.le_of_ble_eq_true rfl)) dX4_together_37 ⟨Nat.zero_le _, Nat.zero_le _⟩) (fun r_1 h => ?_)
        refine lv_if_eq (tgt := 62) hx hb dX4_together_40 (by decide) (fun hc => ?_) (fun hc => ?_)
        · have h := h.1 hc
          refine lv_iinc (v := (i4 + 1)) hx hb dX4_together_62 hl (k := 3) rfl (by rw [show Int32.ofInt 1 = 1 from by decide]) (Nat.le_of_ble_eq_true rfl) rfl (fun ls hl => ?_)
          have hl : lv_has ls 5 [(4, .int (i4 + 1)), (0, .ref m0), (1, .int p1), (2, .long p2)] := hl
          refine lv_goto (tgt := 27) hx hb dX4_together_65 (by decide) ?_
          have hl := lv_sub (l' := [(0, .ref m0), (1, .int p1), (2, .long p2), (4, .int (i4 + 1))]) hl [1, 2, 3, 0] rfl
          exact ih _ _ _ _ _ _ ls H locs hl hP hD hS h
        · have h := h.2 hc
          refine lv_aload_n hx hb dX4_together_43 rfl (lv_at hl 0 rfl) ?_
          refine lv_aload_n hx hb dX4_together_44 rfl (lv_at hl 0 rfl) ?_
          refine va_get (D := G.1) (ci := 7) (v := .ref rw0) (C := RX4) (T := TX4) (N := 15) hx hb hts igX4 hown hK hP 0 rfl rfl 11 (by decide) (hts _ q1016) (fun _ h9 => h9) rfl dX4_together_45 ?_
          refine lv_aload_n hx hb dX4_together_48 rfl (lv_at hl 0 rfl) ?_
          refine va_get (D := G.1) (ci := 7) (v := .ref dO) (C := RX4) (T := TX4) (N := 15) hx hb hts igX4 hown hK hP 0 rfl rfl 3 (by decide) (hts _ q1008) (fun _ h9 => h9) rfl dX4_together_49 ?_
          refine lv_iload hx hb dX4_together_52 (lv_at hl 3 rfl) ?_
          obtain ⟨hin, h⟩ := h
          have hf_1 : i4.toNatClampNeg < 6 := vpLt hin
          refine va_aldA (b := dr (i4.toNatClampNeg)) hx hb hK hP 1 4 rfl rfl hin (if_pos hf_1) dX4_together_54 ?_
          refine lv_aload_n hx hb dX4_together_55 rfl (lv_at hl 0 rfl) ?_
          refine va_get (D := G.1) (ci := 7) (v := .ref rw0) (C := RX4) (T := TX4) (N := 15) hx hb hts igX4 hown hK hP 0 rfl rfl 11 (by decide) (hts _ q1016) (fun _ h9 => h9) rfl dX4_together_56 ?_
          have hPc := hP
          have hDc := hD.sub (ws' := [(m0, .inr (7, [.int th, .int mr, .long po, .ref dO, .ref sl, .ref ct0, .int mf, .int sp', .ref st0, .ref fs0, .ref jn0, .ref rw0, .ref fd0, .ref af0, .ref kO])), (dO, .inl (G.2 4, 6, .inr (.inr (.inr (.inr (fun k => if k < 6 then some (dr k) else none)))))), (dr 0, .inl (G.2 0, 64, .inl (DD 0))), (dr 1, .inl (G.2 0, 64, .inl (DD 1))), (dr 2, .inl (G.2 0, 64, .inl (DD 2))), (dr 3, .inl (G.2 0, 64, .inl (DD 3))), (dr 4, .inl (G.2 0, 64, .inl (DD 4))), (dr 5, .inl (G.2 0, 64, .inl (DD 5))), (ct0, .inl (G.2 0, 6, .inl ctf)), (st0, .inl (G.2 0, 4096, .inl stf')), (fs0, .inl (G.2 0, 4096, .inl fsf')), (jn0, .inl (G.2 0, 64, .inl jnf')), (rw0, .inl (G.2 0, 64, .inl rwf')), (fd0, .inl (G.2 1, 40, .inr (.inl fdf))), (af0, .inl (G.2 3, 40, .inl aff)), (kO, .inl (G.2 4, 4, .inr (.inr (.inr (.inr (fun k => if k < 4 then some (kr k) else none)))))), (kr 0, .inl (G.2 0, 64, .inl (KP 0))), (kr 1, .inl (G.2 0, 64, .inl (KP 1))), (kr 2, .inl (G.2 0, 64, .inl (KP 2))), (kr 3, .inl (G.2 0, 64, .inl (KP 3)))]) [0, 1, 2, 3, 4, 5, 6, 7, 8, 9, 10, 11, 12, 13, 14, 15, 16, 17, 18, 19] (by decide) rfl
          have hFc := va_free (wc := [(m0, .inr (7, [.int th, .int mr, .long po, .ref dO, .ref sl, .ref ct0, .int mf, .int sp', .ref st0, .ref fs0, .ref jn0, .ref rw0, .ref fd0, .ref af0, .ref kO])), (dO, .inl (G.2 4, 6, .inr (.inr (.inr (.inr (fun k => if k < 6 then some (dr k) else none)))))), (dr 0, .inl (G.2 0, 64, .inl (DD 0))), (dr 1, .inl (G.2 0, 64, .inl (DD 1))), (dr 2, .inl (G.2 0, 64, .inl (DD 2))), (dr 3, .inl (G.2 0, 64, .inl (DD 3))), (dr 4, .inl (G.2 0, 64, .inl (DD 4))), (dr 5, .inl (G.2 0, 64, .inl (DD 5))), (ct0, .inl (G.2 0, 6, .inl ctf)), (st0, .inl (G.2 0, 4096, .inl stf')), (fs0, .inl (G.2 0, 4096, .inl fsf')), (jn0, .inl (G.2 0, 64, .inl jnf')), (rw0, .inl (G.2 0, 64, .inl rwf')), (fd0, .inl (G.2 1, 40, .inr (.inl fdf))), (af0, .inl (G.2 3, 40, .inl aff)), (kO, .inl (G.2 4, 4, .inr (.inr (.inr (.inr (fun k => if k < 4 then some (kr k) else none)))))), (kr 0, .inl (G.2 0, 64, .inl (KP 0))), (kr 1, .inl (G.2 0, 64, .inl (KP 1))), (kr 2, .inl (G.2 0, 64, .inl (KP 2))), (kr 3, .inl (G.2 0, 64, .inl (KP 3)))]) hD hS hA [0, 1, 2, 3, 4, 5, 6, 7, 8, 9, 10, 11, 12, 13, 14, 15, 16, 17, 18, 19] rfl
          refine va_callv (va_runV (C := RX4) (As := [.ref rw0, .ref (dr (i4.toNatClampNeg)), .ref rw0]) (rest := []) ⟨hx, hb, hml, hown, hts⟩ (kX4_joinR l G m0 dO sl ct0 st0 fs0 jn0 rw0 fd0 af0 kO dr kr sa (i4.toNatClampNeg) th mr po mf sp' DD ctf stf' fsf' jnf' rwf' fdf aff KP sn sq hf_1 _ h) (cwV 3 hts (gdV q1137 q1139 qs19 q6 q1140) rfl rfl rfl (by decide +kernel) ⟨Nat.le_of_ble_eq_true rfl, Nat.le_of_ble_eq_true rfl⟩) (preVw hPc hKK hDc (va_recv hK hPc (ci := 7) (q0 := 0) rfl rfl)) rfl rfl hl.1 rfl (lv_room (Nat.le_of_ble_eq_true rfl)) dX4_together_59 ⟨Nat.zero_le _, Nat.zero_le _⟩) hS (fun q _ h => hFc q h) hFc (fun u t H1 locs ht hvm h hB hz1 hk1 hS => ?_)
          obtain ⟨sp_1, stf_1, fsf_1, jnf_1, rwf_1⟩ := u
          obtain ⟨hP1, hD1⟩ := hB
          rw [ht] at hP1
          have hP := hP1
          have hD : va_D A [(m0, .inr (7, [.int th, .int mr, .long po, .ref dO, .ref sl, .ref ct0, .int mf, .int sp_1, .ref st0, .ref fs0, .ref jn0, .ref rw0, .ref fd0, .ref af0, .ref kO])), (dO, .inl (G.2 4, 6, .inr (.inr (.inr (.inr (fun k => if k < 6 then some (dr k) else none)))))), (dr 0, .inl (G.2 0, 64, .inl (DD 0))), (dr 1, .inl (G.2 0, 64, .inl (DD 1))), (dr 2, .inl (G.2 0, 64, .inl (DD 2))), (dr 3, .inl (G.2 0, 64, .inl (DD 3))), (dr 4, .inl (G.2 0, 64, .inl (DD 4))), (dr 5, .inl (G.2 0, 64, .inl (DD 5))), (ct0, .inl (G.2 0, 6, .inl ctf)), (st0, .inl (G.2 0, 4096, .inl stf_1)), (fs0, .inl (G.2 0, 4096, .inl fsf_1)), (jn0, .inl (G.2 0, 64, .inl jnf_1)), (rw0, .inl (G.2 0, 64, .inl rwf_1)), (fd0, .inl (G.2 1, 40, .inr (.inl fdf))), (af0, .inl (G.2 3, 40, .inl aff)), (kO, .inl (G.2 4, 4, .inr (.inr (.inr (.inr (fun k => if k < 4 then some (kr k) else none)))))), (kr 0, .inl (G.2 0, 64, .inl (KP 0))), (kr 1, .inl (G.2 0, 64, .inl (KP 1))), (kr 2, .inl (G.2 0, 64, .inl (KP 2))), (kr 3, .inl (G.2 0, 64, .inl (KP 3)))] := hD1.weaken (fun _ _ _ h => hFc _ h)
          generalize H1 = H at hP hS ⊢
          have hP : PP G [(m0, .inr (7, [.int th, .int mr, .long po, .ref dO, .ref sl, .ref ct0, .int mf, .int sp_1, .ref st0, .ref fs0, .ref jn0, .ref rw0, .ref fd0, .ref af0, .ref kO])), (dO, .inl (G.2 4, 6, .inr (.inr (.inr (.inr (fun k => if k < 6 then some (dr k) else none)))))), (dr 0, .inl (G.2 0, 64, .inl (DD 0))), (dr 1, .inl (G.2 0, 64, .inl (DD 1))), (dr 2, .inl (G.2 0, 64, .inl (DD 2))), (dr 3, .inl (G.2 0, 64, .inl (DD 3))), (dr 4, .inl (G.2 0, 64, .inl (DD 4))), (dr 5, .inl (G.2 0, 64, .inl (DD 5))), (ct0, .inl (G.2 0, 6, .inl ctf)), (st0, .inl (G.2 0, 4096, .inl stf_1)), (fs0, .inl (G.2 0, 4096, .inl fsf_1)), (jn0, .inl (G.2 0, 64, .inl jnf_1)), (rw0, .inl (G.2 0, 64, .inl rwf_1)), (fd0, .inl (G.2 1, 40, .inr (.inl fdf))), (af0, .inl (G.2 3, 40, .inl aff)), (kO, .inl (G.2 4, 4, .inr (.inr (.inr (.inr (fun k => if k < 4 then some (kr k) else none)))))), (kr 0, .inl (G.2 0, 64, .inl (KP 0))), (kr 1, .inl (G.2 0, 64, .inl (KP 1))), (kr 2, .inl (G.2 0, 64, .inl (KP 2))), (kr 3, .inl (G.2 0, 64, .inl (KP 3)))] H := hP
          refine lv_iinc (v := (i4 + 1)) hx hb dX4_together_62 hl (k := 3) rfl (by rw [show Int32.ofInt 1 = 1 from by decide]) (Nat.le_of_ble_eq_true rfl) rfl (fun ls hl => ?_)
          have hl : lv_has ls 5 [(4, .int (i4 + 1)), (0, .ref m0), (1, .int p1), (2, .long p2)] := hl
          refine lv_goto (tgt := 27) hx hb dX4_together_65 (by decide) ?_
          have hl := lv_sub (l' := [(0, .ref m0), (1, .int p1), (2, .long p2), (4, .int (i4 + 1))]) hl [1, 2, 3, 0] rfl
          exact ih _ _ _ _ _ _ ls H locs hl hP hD hS h
  refine lv_iconst (v := 0) hx hb dX4_together_0 (by decide) ?_
  refine lv_istore hx hb dX4_together_1 hl (Nat.le_of_ble_eq_true rfl) rfl (fun ls hl => ?_)
  have hl : lv_has ls 5 [(4, .int (0 : Int32)), (0, .ref m0), (1, .int p1), (2, .long p2)] := hl
  have hl := lv_sub (l' := [(0, .ref m0), (1, .int p1), (2, .long p2), (4, .int (0 : Int32))]) hl [1, 2, 3, 0] rfl
  obtain ⟨nF, h⟩ := h
  refine loop3 _ trivial ?_ nF (0 : Int32) rwf _ _ _ hl hP hD hS h
  · intro i4 rwf' ls H locs hl hP hD hS h
    refine lv_iconst (v := 0) hx hb dX4_together_24 (by decide) ?_
    refine lv_istore hx hb dX4_together_25 hl (Nat.le_of_ble_eq_true rfl) rfl (fun ls hl => ?_)
    have hl : lv_has ls 5 [(4, .int (0 : Int32)), (0, .ref m0), (1, .int p1), (2, .long p2)] := hl
    have hl := lv_sub (l' := [(0, .ref m0), (1, .int p1), (2, .long p2), (4, .int (0 : Int32))]) hl [1, 2, 3, 0] rfl
    obtain ⟨nF, h⟩ := h
    refine loop27 _ trivial ?_ nF (0 : Int32) sp stf fsf jnf rwf' _ _ _ hl hP hD hS h
    · intro i4 sp' stf' fsf' jnf' rwf' ls H locs hl hP hD hS h
      refine lv_aload_n hx hb dX4_together_68 rfl (lv_at hl 0 rfl) ?_
      refine lv_aload_n hx hb dX4_together_69 rfl (lv_at hl 0 rfl) ?_
      refine va_get (D := G.1) (ci := 7) (v := .ref rw0) (C := RX4) (T := TX4) (N := 15) hx hb hts igX4 hown hK hP 0 rfl rfl 11 (by decide) (hts _ q1016) (fun _ h9 => h9) rfl dX4_together_70 ?_
      refine lv_lload_n hx hb dX4_together_73 rfl (lv_at hl 2 rfl) ?_
      have hPc := hP
      refine rdL (va_runV (C := RX4) (As := [.ref rw0, .long p2]) (rest := []) ⟨hx, hb, hml, hown, hts⟩ (kX4_known_R l G m0 dO sl ct0 st0 fs0 jn0 rw0 fd0 af0 kO dr kr sa th mr po mf sp' DD ctf stf' fsf' jnf' rwf' fdf aff KP sn sq p2 h) (cwV 2 hts (gdV q1118 q1120 qs15 q6 q1121) rfl rfl rfl (by decide +kernel) ⟨Nat.le_of_ble_eq_true rfl, Nat.le_of_ble_eq_true rfl⟩) (preV hPc hKK (va_recv hK hPc (ci := 7) (q0 := 0) rfl rfl)) rfl rfl hl.1 rfl (lv_room (Nat.le_of_ble_eq_true rfl)) dX4_together_74 ⟨Nat.zero_le _, Nat.zero_le _⟩) (fun r_3 h => ?_)
      subst hQC; exact W.lret (v := r_3) hx hb hr (fun t ht hW => ⟨⟨_, (sp', stf', fsf', jnf', rwf'), rfl, h, by rw [ht]; exact hP, hD⟩, hS.F ht⟩) hS.2.2 dX4_together_77
theorem dX4_fact_0 : decode cX4_fact 0 = .ok (.lconst 0, 1) := by decide +kernel
theorem dX4_fact_1 : decode cX4_fact 1 = .ok (.lstore_n 2, 1) := by decide +kernel
theorem dX4_fact_2 : decode cX4_fact 2 = .ok (.iconst 0, 1) := by decide +kernel
theorem dX4_fact_3 : decode cX4_fact 3 = .ok (.istore 4, 2) := by decide +kernel
theorem dX4_fact_5 : decode cX4_fact 5 = .ok (.iload 4, 2) := by decide +kernel
theorem dX4_fact_7 : decode cX4_fact 7 = .ok (.bipush 64, 2) := by decide +kernel
theorem dX4_fact_9 : decode cX4_fact 9 = .ok (.if_icmp .ge 29, 3) := by decide +kernel
theorem dX4_fact_12 : decode cX4_fact 12 = .ok (.lload_n 2, 1) := by decide +kernel
theorem dX4_fact_13 : decode cX4_fact 13 = .ok (.iload 4, 2) := by decide +kernel
theorem dX4_fact_15 : decode cX4_fact 15 = .ok (.iload_n 1, 1) := by decide +kernel
theorem dX4_fact_16 : decode cX4_fact 16 = .ok (.invokestatic 70, 3) := by decide +kernel
theorem dX4_fact_19 : decode cX4_fact 19 = .ok (.ifCond .eq 10, 3) := by decide +kernel
theorem dX4_fact_22 : decode cX4_fact 22 = .ok (.lconst 1, 1) := by decide +kernel
theorem dX4_fact_23 : decode cX4_fact 23 = .ok (.iload 4, 2) := by decide +kernel
theorem dX4_fact_25 : decode cX4_fact 25 = .ok (.lshl, 1) := by decide +kernel
theorem dX4_fact_26 : decode cX4_fact 26 = .ok (.goto 4, 3) := by decide +kernel
theorem dX4_fact_29 : decode cX4_fact 29 = .ok (.lconst 0, 1) := by decide +kernel
theorem dX4_fact_30 : decode cX4_fact 30 = .ok (.lor, 1) := by decide +kernel
theorem dX4_fact_31 : decode cX4_fact 31 = .ok (.lstore_n 2, 1) := by decide +kernel
theorem dX4_fact_32 : decode cX4_fact 32 = .ok (.iinc 4 1, 3) := by decide +kernel
theorem dX4_fact_35 : decode cX4_fact 35 = .ok (.goto (-30), 3) := by decide +kernel
theorem dX4_fact_38 : decode cX4_fact 38 = .ok (.lload_n 2, 1) := by decide +kernel
theorem dX4_fact_39 : decode cX4_fact 39 = .ok (.aload_n 0, 1) := by decide +kernel
theorem dX4_fact_40 : decode cX4_fact 40 = .ok (.getfield 9, 3) := by decide +kernel
theorem dX4_fact_43 : decode cX4_fact 43 = .ok (.land, 1) := by decide +kernel
theorem dX4_fact_44 : decode cX4_fact 44 = .ok (.lreturn, 1) := by decide +kernel
def wX4_fact_L5 (post : Int64 → Prop) (K38 : Int64 → Int32 → Prop) (p1 : Int32) : Nat → Int64 → Int32 → Prop
  | 0, _, _ => False
  | n+1, i2, i4 =>
    (((64 : Int32) ≤ i4) →
      K38 i2 i4
    ) ∧ (¬ ((64 : Int32) ≤ i4) →
      wX4_has (fun r_1 : Int32 =>
        ((r_1 = 0) →
          wX4_fact_L5 post K38 p1 n (i2 ||| (0 : Int64)) (i4 + 1)
        ) ∧ (¬ (r_1 = 0) →
          wX4_fact_L5 post K38 p1 n (i2 ||| (jLshl (1 : Int64) i4)) (i4 + 1)
        )
        ) i4 p1
    )
def wX4_fact (post : Int64 → Prop) (po : Int64) (p1 : Int32) : Prop :=
  ∃ nF, wX4_fact_L5 post
    (fun i2 i4 =>
      post (i2 &&& po)
    )
    p1 nF (0 : Int64) (0 : Int32)
abbrev wl_X4_fact : List Cond := .code yX4_fact cX4_fact 5 (some .long) :: lwg
abbrev rm_X4_fact : Room := { frames := 1, cells := 0, slots := 0, locals := 21 }
set_option maxHeartbeats 4000000 in
set_option maxRecDepth 100000 in
theorem kX4_fact {post : Int64 → Prop} (l : Launch) (G : GT) (m0 : Nat) (dO : Nat) (sl : Nat) (ct0 : Nat) (st0 : Nat) (fs0 : Nat) (jn0 : Nat) (rw0 : Nat) (fd0 : Nat) (af0 : Nat) (kO : Nat) (dr : Nat → Nat) (kr : Nat → Nat) (sa : Nat → Nat) (th : Int32) (mr : Int32) (po : Int64) (mf : Int32) (sp : Int32) (DD : Nat → Nat → Int32) (ctf : Nat → Int32) (stf : Nat → Int32) (fsf : Nat → Int32) (jnf : Nat → Int32) (rwf : Nat → Int32) (fdf : Nat → Int64) (aff : Nat → Int32) (KP : Nat → Nat → Int32) (sn : Nat) (sq : Nat → Nat → Int32) (p1 : Int32) (h : wX4_fact post po p1) : Met l yX4_fact wl_X4_fact rm_X4_fact (va_Pc [.ref m0, .int p1] (fun U => PP G [(m0, .inr (7, [.int th, .int mr, .long po, .ref dO, .ref sl, .ref ct0, .int mf, .int sp, .ref st0, .ref fs0, .ref jn0, .ref rw0, .ref fd0, .ref af0, .ref kO])), (dO, .inl (G.2 4, 6, .inr (.inr (.inr (.inr (fun k => if k < 6 then some (dr k) else none)))))), (dr 0, .inl (G.2 0, 64, .inl (DD 0))), (dr 1, .inl (G.2 0, 64, .inl (DD 1))), (dr 2, .inl (G.2 0, 64, .inl (DD 2))), (dr 3, .inl (G.2 0, 64, .inl (DD 3))), (dr 4, .inl (G.2 0, 64, .inl (DD 4))), (dr 5, .inl (G.2 0, 64, .inl (DD 5))), (ct0, .inl (G.2 0, 6, .inl ctf)), (st0, .inl (G.2 0, 4096, .inl stf)), (fs0, .inl (G.2 0, 4096, .inl fsf)), (jn0, .inl (G.2 0, 64, .inl jnf)), (rw0, .inl (G.2 0, 64, .inl rwf)), (fd0, .inl (G.2 1, 40, .inr (.inl fdf))), (af0, .inl (G.2 3, 40, .inl aff)), (kO, .inl (G.2 4, 4, .inr (.inr (.inr (.inr (fun k => if k < 4 then some (kr k) else none)))))), (kr 0, .inl (G.2 0, 64, .inl (KP 0))), (kr 1, .inl (G.2 0, 64, .inl (KP 1))), (kr 2, .inl (G.2 0, 64, .inl (KP 2))), (kr 3, .inl (G.2 0, 64, .inl (KP 3)))] U.heap ∧ KK G U)) (vp_Sl post) 0 0 (fun _ => False) := by
  refine Met.ofW (cc := cX4_fact) (maxL := 5) (ret := (some .long)) (by decide) rfl ?_
  intro p e s m args below meth c s₁ B hml hv
  obtain ⟨rfl, hP, hKK⟩ := hv
  obtain ⟨hK, hN, hR, hFW, hNC⟩ := id hKK
  have hx := B.exec
  have hb := B.bytes
  have hr := B.returns
  have hts0 := atoms_spec (ws := wl_X4_fact) B.pre
  have hts : ∀ w ∈ lwg, w.before ([.ref m0, .int p1] : List Value).toArray s = true := fun w hw => hts0 w (List.mem_cons_of_mem _ hw)
  have hown : s.vm.findClass RX4 = some m.cls := findClass_of_methodNamed B.named
  have hlocks := B.notSynchronized
  have hP : PP G [(m0, .inr (7, [.int th, .int mr, .long po, .ref dO, .ref sl, .ref ct0, .int mf, .int sp, .ref st0, .ref fs0, .ref jn0, .ref rw0, .ref fd0, .ref af0, .ref kO])), (dO, .inl (G.2 4, 6, .inr (.inr (.inr (.inr (fun k => if k < 6 then some (dr k) else none)))))), (dr 0, .inl (G.2 0, 64, .inl (DD 0))), (dr 1, .inl (G.2 0, 64, .inl (DD 1))), (dr 2, .inl (G.2 0, 64, .inl (DD 2))), (dr 3, .inl (G.2 0, 64, .inl (DD 3))), (dr 4, .inl (G.2 0, 64, .inl (DD 4))), (dr 5, .inl (G.2 0, 64, .inl (DD 5))), (ct0, .inl (G.2 0, 6, .inl ctf)), (st0, .inl (G.2 0, 4096, .inl stf)), (fs0, .inl (G.2 0, 4096, .inl fsf)), (jn0, .inl (G.2 0, 64, .inl jnf)), (rw0, .inl (G.2 0, 64, .inl rwf)), (fd0, .inl (G.2 1, 40, .inr (.inl fdf))), (af0, .inl (G.2 3, 40, .inl aff)), (kO, .inl (G.2 4, 4, .inr (.inr (.inr (.inr (fun k => if k < 4 then some (kr k) else none)))))), (kr 0, .inl (G.2 0, 64, .inl (KP 0))), (kr 1, .inl (G.2 0, 64, .inl (KP 1))), (kr 2, .inl (G.2 0, 64, .inl (KP 2))), (kr 3, .inl (G.2 0, 64, .inl (KP 3)))] s.heap := hP
  have hl := lv_entry ([.ref m0, .int p1]) (n := 5) (Nat.le_of_ble_eq_true rfl)
  rw [lg_entry_eq]
  generalize (lg_sl ([.ref m0, .int p1]) ++ List.replicate (5 - (lg_sl ([.ref m0, .int p1])).length) Slot.unset).toArray = ls at hl ⊢
  have hl : lv_has ls 5 [(0, .ref m0), (1, .int p1)] := hl
  have loop5 : ∀ (K38 : Int64 → Int32 → Prop), True → (∀ (i2 : Int64) (i4 : Int32) (ls : Array Slot), lv_has ls 5 [(0, .ref m0), (1, .int p1), (2, .long i2), (4, .int i4)] → K38 i2 i4 → W p l e (headSpec (wl_X4_fact) rm_X4_fact).room s m ([.ref m0, .int p1] : List Value).toArray below meth c s.heap [] 0 0 (MQ below (vp_Sl post) ([.ref m0, .int p1] : List Value).toArray s 0 0 (fun _ => False)) (F0 m 38 ls [])) → ∀ (n : Nat) (i2 : Int64) (i4 : Int32) (ls : Array Slot), lv_has ls 5 [(0, .ref m0), (1, .int p1), (2, .long i2), (4, .int i4)] → wX4_fact_L5 post K38 p1 n i2 i4 → W p l e (headSpec (wl_X4_fact) rm_X4_fact).room s m ([.ref m0, .int p1] : List Value).toArray below meth c s.heap [] 0 0 (MQ below (vp_Sl post) ([.ref m0, .int p1] : List Value).toArray s 0 0 (fun _ => False)) (F0 m 5 ls []) := by
    intro K38 _ hexit38 n
    induction n with
    | zero => intro i2 i4 ls hl h; exact False.elim h
    | succ n ih =>
      intro i2 i4 ls hl h
      refine lv_iload hx hb dX4_fact_5 (lv_at hl 3 rfl) ?_
      refine lv_bipush (v := 64) hx hb dX4_fact_7 (by decide) ?_
      refine lv_icmp_ge (tgt := 38) hx hb dX4_fact_9 (by decide) (fun hc => ?_) (fun hc => ?_)
      · have h := h.1 hc
        have hl := lv_sub (l' := [(0, .ref m0), (1, .int p1), (2, .long i2), (4, .int i4)]) hl [0, 1, 2, 3] rfl
        exact hexit38 _ _ ls hl h
      · have h := h.2 hc
        refine lv_lload_n hx hb dX4_fact_12 rfl (lv_at hl 2 rfl) ?_
        refine lv_iload hx hb dX4_fact_13 (lv_at hl 3 rfl) ?_
        refine lv_iload_n hx hb dX4_fact_15 rfl (lv_at hl 1 rfl) ?_
        have hPc := va_P.sub (ws' := []) hP [] rfl
        refine rdI (va_runS (As := [.int i4, .int p1]) (rest := [.long i2]) ⟨hx, hb, hml, hown, hts⟩ (kX4_has l G i4 p1 h) (va_cwS 2 hts (gdS q1111 q1112 q6 q1113) rfl rfl rfl (by decide +kernel) ⟨Nat.le_of_ble_eq_true rfl, Nat.le_of_ble_eq_true rfl⟩) (preS hPc hKK) rfl rfl hl.1 rfl (lv_room (Nat.le_of_ble_eq_true rfl)) dX4_fact_16 ⟨Nat.zero_le _, Nat.zero_le _⟩) (fun r_1 h => ?_)
        refine lv_if_eq (tgt := 29) hx hb dX4_fact_19 (by decide) (fun hc => ?_) (fun hc => ?_)
        · have h := h.1 hc
          refine lv_lconst (v := 0) hx hb dX4_fact_29 (by decide) ?_
          refine lv_lor hx hb dX4_fact_30 ?_
          refine lv_lstore_n hx hb dX4_fact_31 rfl hl (Nat.le_of_ble_eq_true rfl) rfl (fun ls hl => ?_)
          have hl : lv_has ls 5 [(2, .long (i2 ||| (0 : Int64))), (0, .ref m0), (1, .int p1), (4, .int i4)] := hl
          refine lv_iinc (v := (i4 + 1)) hx hb dX4_fact_32 hl (k := 3) rfl (by rw [show Int32.ofInt 1 = 1 from by decide]) (Nat.le_of_ble_eq_true rfl) rfl (fun ls hl => ?_)
          have hl : lv_has ls 5 [(4, .int (i4 + 1)), (2, .long (i2 ||| (0 : Int64))), (0, .ref m0), (1, .int p1)] := hl
          refine lv_goto (tgt := 5) hx hb dX4_fact_35 (by decide) ?_
          have hl := lv_sub (l' := [(0, .ref m0), (1, .int p1), (2, .long (i2 ||| (0 : Int64))), (4, .int (i4 + 1))]) hl [2, 3, 1, 0] rfl
          exact ih _ _ ls hl h
        · have h := h.2 hc
          refine lv_lconst (v := 1) hx hb dX4_fact_22 (by decide) ?_
          refine lv_iload hx hb dX4_fact_23 (lv_at hl 3 rfl) ?_
          refine lv_lshl (v := (jLshl (1 : Int64) i4)) hx hb dX4_fact_25 rfl ?_
          refine lv_goto (tgt := 30) hx hb dX4_fact_26 (by decide) ?_
          refine lv_lor hx hb dX4_fact_30 ?_
          refine lv_lstore_n hx hb dX4_fact_31 rfl hl (Nat.le_of_ble_eq_true rfl) rfl (fun ls hl => ?_)
          have hl : lv_has ls 5 [(2, .long (i2 ||| (jLshl (1 : Int64) i4))), (0, .ref m0), (1, .int p1), (4, .int i4)] := hl
          refine lv_iinc (v := (i4 + 1)) hx hb dX4_fact_32 hl (k := 3) rfl (by rw [show Int32.ofInt 1 = 1 from by decide]) (Nat.le_of_ble_eq_true rfl) rfl (fun ls hl => ?_)
          have hl : lv_has ls 5 [(4, .int (i4 + 1)), (2, .long (i2 ||| (jLshl (1 : Int64) i4))), (0, .ref m0), (1, .int p1)] := hl
          refine lv_goto (tgt := 5) hx hb dX4_fact_35 (by decide) ?_
          have hl := lv_sub (l' := [(0, .ref m0), (1, .int p1), (2, .long (i2 ||| (jLshl (1 : Int64) i4))), (4, .int (i4 + 1))]) hl [2, 3, 1, 0] rfl
          exact ih _ _ ls hl h
  refine lv_lconst (v := 0) hx hb dX4_fact_0 (by decide) ?_
  refine lv_lstore_n hx hb dX4_fact_1 rfl hl (Nat.le_of_ble_eq_true rfl) rfl (fun ls hl => ?_)
  have hl : lv_has ls 5 [(2, .long (0 : Int64)), (0, .ref m0), (1, .int p1)] := hl
  refine lv_iconst (v := 0) hx hb dX4_fact_2 (by decide) ?_
  refine lv_istore hx hb dX4_fact_3 hl (Nat.le_of_ble_eq_true rfl) rfl (fun ls hl => ?_)
  have hl : lv_has ls 5 [(4, .int (0 : Int32)), (2, .long (0 : Int64)), (0, .ref m0), (1, .int p1)] := hl
  have hl := lv_sub (l' := [(0, .ref m0), (1, .int p1), (2, .long (0 : Int64)), (4, .int (0 : Int32))]) hl [2, 3, 1, 0] rfl
  obtain ⟨nF, h⟩ := h
  refine loop5 _ trivial ?_ nF (0 : Int64) (0 : Int32) _ hl h
  · intro i2 i4 ls hl h
    refine lv_lload_n hx hb dX4_fact_38 rfl (lv_at hl 2 rfl) ?_
    refine lv_aload_n hx hb dX4_fact_39 rfl (lv_at hl 0 rfl) ?_
    refine va_get (D := G.1) (ci := 7) (v := .long po) (C := RX4) (T := TX4) (N := 15) hx hb hts igX4 hown hK hP 0 rfl rfl 2 (by decide) (hts _ q1007) (fun _ h9 => h9) rfl dX4_fact_40 ?_
    refine lv_land hx hb dX4_fact_43 ?_
    exact W.lret (v := (i2 &&& po)) hx hb hr (fun t ht _ => ⟨_, rfl, h, ht⟩) (fun _ hq => absurd hq List.not_mem_nil) dX4_fact_44
theorem dX4_asked_0 : decode cX4_asked 0 = .ok (.aload_n 0, 1) := by decide +kernel
theorem dX4_asked_1 : decode cX4_asked 1 = .ok (.getfield 9, 3) := by decide +kernel
theorem dX4_asked_4 : decode cX4_asked 4 = .ok (.lstore 4, 2) := by decide +kernel
theorem dX4_asked_6 : decode cX4_asked 6 = .ok (.iconst 0, 1) := by decide +kernel
theorem dX4_asked_7 : decode cX4_asked 7 = .ok (.istore 6, 2) := by decide +kernel
theorem dX4_asked_9 : decode cX4_asked 9 = .ok (.iload 6, 2) := by decide +kernel
theorem dX4_asked_11 : decode cX4_asked 11 = .ok (.bipush 6, 2) := by decide +kernel
theorem dX4_asked_13 : decode cX4_asked 13 = .ok (.if_icmp .ge 58, 3) := by decide +kernel
theorem dX4_asked_16 : decode cX4_asked 16 = .ok (.iload_n 1, 1) := by decide +kernel
theorem dX4_asked_17 : decode cX4_asked 17 = .ok (.iload 6, 2) := by decide +kernel
theorem dX4_asked_19 : decode cX4_asked 19 = .ok (.invokestatic 70, 3) := by decide +kernel
theorem dX4_asked_22 : decode cX4_asked 22 = .ok (.ifCond .ne 6, 3) := by decide +kernel
theorem dX4_asked_25 : decode cX4_asked 25 = .ok (.goto 40, 3) := by decide +kernel
theorem dX4_asked_28 : decode cX4_asked 28 = .ok (.aload_n 0, 1) := by decide +kernel
theorem dX4_asked_29 : decode cX4_asked 29 = .ok (.iload 6, 2) := by decide +kernel
theorem dX4_asked_31 : decode cX4_asked 31 = .ok (.lload_n 2, 1) := by decide +kernel
theorem dX4_asked_32 : decode cX4_asked 32 = .ok (.invokevirtual 73, 3) := by decide +kernel
theorem dX4_asked_35 : decode cX4_asked 35 = .ok (.lstore 7, 2) := by decide +kernel
theorem dX4_asked_37 : decode cX4_asked 37 = .ok (.lload 4, 2) := by decide +kernel
theorem dX4_asked_39 : decode cX4_asked 39 = .ok (.lload 7, 2) := by decide +kernel
theorem dX4_asked_41 : decode cX4_asked 41 = .ok (.aload_n 0, 1) := by decide +kernel
theorem dX4_asked_42 : decode cX4_asked 42 = .ok (.getfield 127, 3) := by decide +kernel
theorem dX4_asked_45 : decode cX4_asked 45 = .ok (.invokestatic 58, 3) := by decide +kernel
theorem dX4_asked_48 : decode cX4_asked 48 = .ok (.ifCond .eq 8, 3) := by decide +kernel
theorem dX4_asked_51 : decode cX4_asked 51 = .ok (.lload 7, 2) := by decide +kernel
theorem dX4_asked_53 : decode cX4_asked 53 = .ok (.goto 9, 3) := by decide +kernel
theorem dX4_asked_56 : decode cX4_asked 56 = .ok (.lload 7, 2) := by decide +kernel
theorem dX4_asked_58 : decode cX4_asked 58 = .ok (.ldc2_w 7, 3) := by decide +kernel
theorem dX4_asked_61 : decode cX4_asked 61 = .ok (.lxor, 1) := by decide +kernel
theorem dX4_asked_62 : decode cX4_asked 62 = .ok (.land, 1) := by decide +kernel
theorem dX4_asked_63 : decode cX4_asked 63 = .ok (.lstore 4, 2) := by decide +kernel
theorem dX4_asked_65 : decode cX4_asked 65 = .ok (.iinc 6 1, 3) := by decide +kernel
theorem dX4_asked_68 : decode cX4_asked 68 = .ok (.goto (-59), 3) := by decide +kernel
theorem dX4_asked_71 : decode cX4_asked 71 = .ok (.lload 4, 2) := by decide +kernel
theorem dX4_asked_73 : decode cX4_asked 73 = .ok (.lreturn, 1) := by decide +kernel
def wX4_asked_L9 (post : Int64 → Prop) (K71 : Int64 → Int32 → Prop) (mr : Int32) (po : Int64) (DD : Nat → Nat → Int32) (p1 : Int32) (p2 : Int64) : Nat → Int64 → Int32 → Prop
  | 0, _, _ => False
  | n+1, i4, i6 =>
    (((6 : Int32) ≤ i6) →
      K71 i4 i6
    ) ∧ (¬ ((6 : Int32) ≤ i6) →
      wX4_has (fun r_1 : Int32 =>
        ((¬ r_1 = 0) →
          wX4_known (fun r_2 : Int64 =>
            wX4_has_ (fun r_3 : Int32 =>
              ((r_3 = 0) →
                wX4_asked_L9 post K71 mr po DD p1 p2 n (i4 &&& (r_2 ^^^ (-1 : Int64))) (i6 + 1)
              ) ∧ (¬ (r_3 = 0) →
                wX4_asked_L9 post K71 mr po DD p1 p2 n (i4 &&& r_2) (i6 + 1)
              )
              ) r_2 mr
            ) po DD i6 p2
        ) ∧ ((r_1 = 0) →
          wX4_asked_L9 post K71 mr po DD p1 p2 n i4 (i6 + 1)
        )
        ) p1 i6
    )
def wX4_asked (post : Int64 → Prop) (mr : Int32) (po : Int64) (DD : Nat → Nat → Int32) (p1 : Int32) (p2 : Int64) : Prop :=
  ∃ nF, wX4_asked_L9 post
    (fun i4 i6 =>
      post i4
    )
    mr po DD p1 p2 nF po (0 : Int32)
abbrev wl_X4_asked : List Cond := .code yX4_asked cX4_asked 9 (some .long) :: lwg
abbrev rm_X4_asked : Room := { frames := 3, cells := 0, slots := 0, locals := 73 }
set_option maxHeartbeats 4000000 in
set_option maxRecDepth 100000 in
theorem kX4_asked {post : Int64 → Prop} (l : Launch) (G : GT) (m0 : Nat) (dO : Nat) (sl : Nat) (ct0 : Nat) (st0 : Nat) (fs0 : Nat) (jn0 : Nat) (rw0 : Nat) (fd0 : Nat) (af0 : Nat) (kO : Nat) (dr : Nat → Nat) (kr : Nat → Nat) (sa : Nat → Nat) (th : Int32) (mr : Int32) (po : Int64) (mf : Int32) (sp : Int32) (DD : Nat → Nat → Int32) (ctf : Nat → Int32) (stf : Nat → Int32) (fsf : Nat → Int32) (jnf : Nat → Int32) (rwf : Nat → Int32) (fdf : Nat → Int64) (aff : Nat → Int32) (KP : Nat → Nat → Int32) (sn : Nat) (sq : Nat → Nat → Int32) (p1 : Int32) (p2 : Int64) (h : wX4_asked post mr po DD p1 p2) : Met l yX4_asked wl_X4_asked rm_X4_asked (va_Pc [.ref m0, .int p1, .long p2] (fun U => PP G [(m0, .inr (7, [.int th, .int mr, .long po, .ref dO, .ref sl, .ref ct0, .int mf, .int sp, .ref st0, .ref fs0, .ref jn0, .ref rw0, .ref fd0, .ref af0, .ref kO])), (dO, .inl (G.2 4, 6, .inr (.inr (.inr (.inr (fun k => if k < 6 then some (dr k) else none)))))), (dr 0, .inl (G.2 0, 64, .inl (DD 0))), (dr 1, .inl (G.2 0, 64, .inl (DD 1))), (dr 2, .inl (G.2 0, 64, .inl (DD 2))), (dr 3, .inl (G.2 0, 64, .inl (DD 3))), (dr 4, .inl (G.2 0, 64, .inl (DD 4))), (dr 5, .inl (G.2 0, 64, .inl (DD 5))), (ct0, .inl (G.2 0, 6, .inl ctf)), (st0, .inl (G.2 0, 4096, .inl stf)), (fs0, .inl (G.2 0, 4096, .inl fsf)), (jn0, .inl (G.2 0, 64, .inl jnf)), (rw0, .inl (G.2 0, 64, .inl rwf)), (fd0, .inl (G.2 1, 40, .inr (.inl fdf))), (af0, .inl (G.2 3, 40, .inl aff)), (kO, .inl (G.2 4, 4, .inr (.inr (.inr (.inr (fun k => if k < 4 then some (kr k) else none)))))), (kr 0, .inl (G.2 0, 64, .inl (KP 0))), (kr 1, .inl (G.2 0, 64, .inl (KP 1))), (kr 2, .inl (G.2 0, 64, .inl (KP 2))), (kr 3, .inl (G.2 0, 64, .inl (KP 3)))] U.heap ∧ KK G U)) (vp_Sl post) 0 0 (fun _ => False) := by
  refine Met.ofW (cc := cX4_asked) (maxL := 9) (ret := (some .long)) (by decide) rfl ?_
  intro p e s m args below meth c s₁ B hml hv
  obtain ⟨rfl, hP, hKK⟩ := hv
  obtain ⟨hK, hN, hR, hFW, hNC⟩ := id hKK
  have hx := B.exec
  have hb := B.bytes
  have hr := B.returns
  have hts0 := atoms_spec (ws := wl_X4_asked) B.pre
  have hts : ∀ w ∈ lwg, w.before ([.ref m0, .int p1, .long p2] : List Value).toArray s = true := fun w hw => hts0 w (List.mem_cons_of_mem _ hw)
  have hown : s.vm.findClass RX4 = some m.cls := findClass_of_methodNamed B.named
  have hlocks := B.notSynchronized
  have hP : PP G [(m0, .inr (7, [.int th, .int mr, .long po, .ref dO, .ref sl, .ref ct0, .int mf, .int sp, .ref st0, .ref fs0, .ref jn0, .ref rw0, .ref fd0, .ref af0, .ref kO])), (dO, .inl (G.2 4, 6, .inr (.inr (.inr (.inr (fun k => if k < 6 then some (dr k) else none)))))), (dr 0, .inl (G.2 0, 64, .inl (DD 0))), (dr 1, .inl (G.2 0, 64, .inl (DD 1))), (dr 2, .inl (G.2 0, 64, .inl (DD 2))), (dr 3, .inl (G.2 0, 64, .inl (DD 3))), (dr 4, .inl (G.2 0, 64, .inl (DD 4))), (dr 5, .inl (G.2 0, 64, .inl (DD 5))), (ct0, .inl (G.2 0, 6, .inl ctf)), (st0, .inl (G.2 0, 4096, .inl stf)), (fs0, .inl (G.2 0, 4096, .inl fsf)), (jn0, .inl (G.2 0, 64, .inl jnf)), (rw0, .inl (G.2 0, 64, .inl rwf)), (fd0, .inl (G.2 1, 40, .inr (.inl fdf))), (af0, .inl (G.2 3, 40, .inl aff)), (kO, .inl (G.2 4, 4, .inr (.inr (.inr (.inr (fun k => if k < 4 then some (kr k) else none)))))), (kr 0, .inl (G.2 0, 64, .inl (KP 0))), (kr 1, .inl (G.2 0, 64, .inl (KP 1))), (kr 2, .inl (G.2 0, 64, .inl (KP 2))), (kr 3, .inl (G.2 0, 64, .inl (KP 3)))] s.heap := hP
  have hl := lv_entry ([.ref m0, .int p1, .long p2]) (n := 9) (Nat.le_of_ble_eq_true rfl)
  rw [lg_entry_eq]
  generalize (lg_sl ([.ref m0, .int p1, .long p2]) ++ List.replicate (9 - (lg_sl ([.ref m0, .int p1, .long p2])).length) Slot.unset).toArray = ls at hl ⊢
  have hl : lv_has ls 9 [(0, .ref m0), (1, .int p1), (2, .long p2)] := hl
  have loop9 : ∀ (K71 : Int64 → Int32 → Prop), True → (∀ (i4 : Int64) (i6 : Int32) (ls : Array Slot), lv_has ls 9 [(0, .ref m0), (1, .int p1), (2, .long p2), (4, .long i4), (6, .int i6)] → K71 i4 i6 → W p l e (headSpec (wl_X4_asked) rm_X4_asked).room s m ([.ref m0, .int p1, .long p2] : List Value).toArray below meth c s.heap [] 0 0 (MQ below (vp_Sl post) ([.ref m0, .int p1, .long p2] : List Value).toArray s 0 0 (fun _ => False)) (F0 m 71 ls [])) → ∀ (n : Nat) (i4 : Int64) (i6 : Int32) (ls : Array Slot), lv_has ls 9 [(0, .ref m0), (1, .int p1), (2, .long p2), (4, .long i4), (6, .int i6)] → wX4_asked_L9 post K71 mr po DD p1 p2 n i4 i6 → W p l e (headSpec (wl_X4_asked) rm_X4_asked).room s m ([.ref m0, .int p1, .long p2] : List Value).toArray below meth c s.heap [] 0 0 (MQ below (vp_Sl post) ([.ref m0, .int p1, .long p2] : List Value).toArray s 0 0 (fun _ => False)) (F0 m 9 ls []) := by
    intro K71 _ hexit71 n
    induction n with
    | zero => intro i4 i6 ls hl h; exact False.elim h
    | succ n ih =>
      intro i4 i6 ls hl h
      refine lv_iload hx hb dX4_asked_9 (lv_at hl 4 rfl) ?_
      refine lv_bipush (v := 6) hx hb dX4_asked_11 (by decide) ?_
      refine lv_icmp_ge (tgt := 71) hx hb dX4_asked_13 (by decide) (fun hc => ?_) (fun hc => ?_)
      · have h := h.1 hc
        have hl := lv_sub (l' := [(0, .ref m0), (1, .int p1), (2, .long p2), (4, .long i4), (6, .int i6)]) hl [0, 1, 2, 3, 4] rfl
        exact hexit71 _ _ ls hl h
      · have h := h.2 hc
        refine lv_iload_n hx hb dX4_asked_16 rfl (lv_at hl 1 rfl) ?_
        refine lv_iload hx hb dX4_asked_17 (lv_at hl 4 rfl) ?_
        have hPc := va_P.sub (ws' := []) hP [] rfl
        refine rdI (va_runS (As := [.int p1, .int i6]) (rest := []) ⟨hx, hb, hml, hown, hts⟩ (kX4_has l G p1 i6 h) (va_cwS 2 hts (gdS q1111 q1112 q6 q1113) rfl rfl rfl (by decide +kernel) ⟨Nat.le_of_ble_eq_true rfl, Nat.le_of_ble_eq_true rfl⟩) (preS hPc hKK) rfl rfl hl.1 rfl (lv_room (Nat.le_of_ble_eq_true rfl)) dX4_asked_19 ⟨Nat.zero_le _, Nat.zero_le _⟩) (fun r_1 h => ?_)
        refine lv_if_ne (tgt := 28) hx hb dX4_asked_22 (by decide) (fun hc => ?_) (fun hc => ?_)
        · have h := h.1 hc
          refine lv_aload_n hx hb dX4_asked_28 rfl (lv_at hl 0 rfl) ?_
          refine lv_iload hx hb dX4_asked_29 (lv_at hl 4 rfl) ?_
          refine lv_lload_n hx hb dX4_asked_31 rfl (lv_at hl 2 rfl) ?_
          have hPc := hP
          refine rdL (va_runV (C := RX4) (As := [.int i6, .long p2]) (rest := []) ⟨hx, hb, hml, hown, hts⟩ (kX4_known l G m0 dO sl ct0 st0 fs0 jn0 rw0 fd0 af0 kO dr kr sa th mr po mf sp DD ctf stf fsf jnf rwf fdf aff KP sn sq i6 p2 h) (cwV 2 hts (gdV q1114 q1116 qs14 q6 q1117) rfl rfl rfl (by decide +kernel) ⟨Nat.le_of_ble_eq_true rfl, Nat.le_of_ble_eq_true rfl⟩) (preV hPc hKK (va_recv hK hPc (ci := 7) (q0 := 0) rfl rfl)) rfl rfl hl.1 rfl (lv_room (Nat.le_of_ble_eq_true rfl)) dX4_asked_32 ⟨Nat.zero_le _, Nat.zero_le _⟩) (fun r_2 h => ?_)
          refine lv_lstore hx hb dX4_asked_35 hl (Nat.le_of_ble_eq_true rfl) rfl (fun ls hl => ?_)
          have hl : lv_has ls 9 [(7, .long r_2), (0, .ref m0), (1, .int p1), (2, .long p2), (4, .long i4), (6, .int i6)] := hl
          refine lv_lload hx hb dX4_asked_37 (lv_at hl 4 rfl) ?_
          refine lv_lload hx hb dX4_asked_39 (lv_at hl 0 rfl) ?_
          refine lv_aload_n hx hb dX4_asked_41 rfl (lv_at hl 1 rfl) ?_
          refine va_get (D := G.1) (ci := 7) (v := .int mr) (C := RX4) (T := TX4) (N := 15) hx hb hts igX4 hown hK hP 0 rfl rfl 1 (by decide) (hts _ q1006) (fun _ h9 => h9) rfl dX4_asked_42 ?_
          have hPc := va_P.sub (ws' := []) hP [] rfl
          refine rdI (va_runS (As := [.long r_2, .int mr]) (rest := [.long i4]) ⟨hx, hb, hml, hown, hts⟩ (kX4_has_ l G r_2 mr h) (va_cwS 2 hts (gdS q1122 q1123 q6 q1124) rfl rfl rfl (by decide +kernel) ⟨Nat.le_of_ble_eq_true rfl, Nat.le_of_ble_eq_true rfl⟩) (preS hPc hKK) rfl rfl hl.1 rfl (lv_room (Nat.le_of_ble_eq_true rfl)) dX4_asked_45 ⟨Nat.zero_le _, Nat.zero_le _⟩) (fun r_3 h => ?_)
          refine lv_if_eq (tgt := 56) hx hb dX4_asked_48 (by decide) (fun hc => ?_) (fun hc => ?_)
          · have h := h.1 hc
            refine lv_lload hx hb dX4_asked_56 (lv_at hl 0 rfl) ?_
            refine lv_ldc2 hx hb hown (hts _ q976) dX4_asked_58 ?_
            refine lv_lxor hx hb dX4_asked_61 ?_
            refine lv_land hx hb dX4_asked_62 ?_
            refine lv_lstore hx hb dX4_asked_63 hl (Nat.le_of_ble_eq_true rfl) rfl (fun ls hl => ?_)
            have hl : lv_has ls 9 [(4, .long (i4 &&& (r_2 ^^^ (-1 : Int64)))), (7, .long r_2), (0, .ref m0), (1, .int p1), (2, .long p2), (6, .int i6)] := hl
            refine lv_iinc (v := (i6 + 1)) hx hb dX4_asked_65 hl (k := 5) rfl (by rw [show Int32.ofInt 1 = 1 from by decide]) (Nat.le_of_ble_eq_true rfl) rfl (fun ls hl => ?_)
            have hl : lv_has ls 9 [(6, .int (i6 + 1)), (4, .long (i4 &&& (r_2 ^^^ (-1 : Int64)))), (7, .long r_2), (0, .ref m0), (1, .int p1), (2, .long p2)] := hl
            refine lv_goto (tgt := 9) hx hb dX4_asked_68 (by decide) ?_
            have hl := lv_sub (l' := [(0, .ref m0), (1, .int p1), (2, .long p2), (4, .long (i4 &&& (r_2 ^^^ (-1 : Int64)))), (6, .int (i6 + 1))]) hl [3, 4, 5, 1, 0] rfl
            exact ih _ _ ls hl h
          · have h := h.2 hc
            refine lv_lload hx hb dX4_asked_51 (lv_at hl 0 rfl) ?_
            refine lv_goto (tgt := 62) hx hb dX4_asked_53 (by decide) ?_
            refine lv_land hx hb dX4_asked_62 ?_
            refine lv_lstore hx hb dX4_asked_63 hl (Nat.le_of_ble_eq_true rfl) rfl (fun ls hl => ?_)
            have hl : lv_has ls 9 [(4, .long (i4 &&& r_2)), (7, .long r_2), (0, .ref m0), (1, .int p1), (2, .long p2), (6, .int i6)] := hl
            refine lv_iinc (v := (i6 + 1)) hx hb dX4_asked_65 hl (k := 5) rfl (by rw [show Int32.ofInt 1 = 1 from by decide]) (Nat.le_of_ble_eq_true rfl) rfl (fun ls hl => ?_)
            have hl : lv_has ls 9 [(6, .int (i6 + 1)), (4, .long (i4 &&& r_2)), (7, .long r_2), (0, .ref m0), (1, .int p1), (2, .long p2)] := hl
            refine lv_goto (tgt := 9) hx hb dX4_asked_68 (by decide) ?_
            have hl := lv_sub (l' := [(0, .ref m0), (1, .int p1), (2, .long p2), (4, .long (i4 &&& r_2)), (6, .int (i6 + 1))]) hl [3, 4, 5, 1, 0] rfl
            exact ih _ _ ls hl h
        · have h := h.2 hc
          refine lv_goto (tgt := 65) hx hb dX4_asked_25 (by decide) ?_
          refine lv_iinc (v := (i6 + 1)) hx hb dX4_asked_65 hl (k := 4) rfl (by rw [show Int32.ofInt 1 = 1 from by decide]) (Nat.le_of_ble_eq_true rfl) rfl (fun ls hl => ?_)
          have hl : lv_has ls 9 [(6, .int (i6 + 1)), (0, .ref m0), (1, .int p1), (2, .long p2), (4, .long i4)] := hl
          refine lv_goto (tgt := 9) hx hb dX4_asked_68 (by decide) ?_
          have hl := lv_sub (l' := [(0, .ref m0), (1, .int p1), (2, .long p2), (4, .long i4), (6, .int (i6 + 1))]) hl [1, 2, 3, 4, 0] rfl
          exact ih _ _ ls hl h
  refine lv_aload_n hx hb dX4_asked_0 rfl (lv_at hl 0 rfl) ?_
  refine va_get (D := G.1) (ci := 7) (v := .long po) (C := RX4) (T := TX4) (N := 15) hx hb hts igX4 hown hK hP 0 rfl rfl 2 (by decide) (hts _ q1007) (fun _ h9 => h9) rfl dX4_asked_1 ?_
  refine lv_lstore hx hb dX4_asked_4 hl (Nat.le_of_ble_eq_true rfl) rfl (fun ls hl => ?_)
  have hl : lv_has ls 9 [(4, .long po), (0, .ref m0), (1, .int p1), (2, .long p2)] := hl
  refine lv_iconst (v := 0) hx hb dX4_asked_6 (by decide) ?_
  refine lv_istore hx hb dX4_asked_7 hl (Nat.le_of_ble_eq_true rfl) rfl (fun ls hl => ?_)
  have hl : lv_has ls 9 [(6, .int (0 : Int32)), (4, .long po), (0, .ref m0), (1, .int p1), (2, .long p2)] := hl
  have hl := lv_sub (l' := [(0, .ref m0), (1, .int p1), (2, .long p2), (4, .long po), (6, .int (0 : Int32))]) hl [2, 3, 4, 1, 0] rfl
  obtain ⟨nF, h⟩ := h
  refine loop9 _ trivial ?_ nF po (0 : Int32) _ hl h
  · intro i4 i6 ls hl h
    refine lv_lload hx hb dX4_asked_71 (lv_at hl 3 rfl) ?_
    exact W.lret (v := i4) hx hb hr (fun t ht _ => ⟨_, rfl, h, ht⟩) (fun _ hq => absurd hq List.not_mem_nil) dX4_asked_73
theorem dX4_who_0 : decode cX4_who 0 = .ok (.iconst 0, 1) := by decide +kernel
theorem dX4_who_1 : decode cX4_who 1 = .ok (.istore 5, 2) := by decide +kernel
theorem dX4_who_3 : decode cX4_who 3 = .ok (.iconst 0, 1) := by decide +kernel
theorem dX4_who_4 : decode cX4_who 4 = .ok (.istore 6, 2) := by decide +kernel
theorem dX4_who_6 : decode cX4_who 6 = .ok (.iload 6, 2) := by decide +kernel
theorem dX4_who_8 : decode cX4_who 8 = .ok (.bipush 6, 2) := by decide +kernel
theorem dX4_who_10 : decode cX4_who 10 = .ok (.if_icmp .ge 46, 3) := by decide +kernel
theorem dX4_who_13 : decode cX4_who 13 = .ok (.iload 5, 2) := by decide +kernel
theorem dX4_who_15 : decode cX4_who 15 = .ok (.iload_n 1, 1) := by decide +kernel
theorem dX4_who_16 : decode cX4_who 16 = .ok (.iload 6, 2) := by decide +kernel
theorem dX4_who_18 : decode cX4_who 18 = .ok (.invokestatic 70, 3) := by decide +kernel
theorem dX4_who_21 : decode cX4_who 21 = .ok (.ifCond .eq 25, 3) := by decide +kernel
theorem dX4_who_24 : decode cX4_who 24 = .ok (.aload_n 0, 1) := by decide +kernel
theorem dX4_who_25 : decode cX4_who 25 = .ok (.iload 6, 2) := by decide +kernel
theorem dX4_who_27 : decode cX4_who 27 = .ok (.lload_n 2, 1) := by decide +kernel
theorem dX4_who_28 : decode cX4_who 28 = .ok (.invokevirtual 73, 3) := by decide +kernel
theorem dX4_who_31 : decode cX4_who 31 = .ok (.iload 4, 2) := by decide +kernel
theorem dX4_who_33 : decode cX4_who 33 = .ok (.invokestatic 58, 3) := by decide +kernel
theorem dX4_who_36 : decode cX4_who 36 = .ok (.ifCond .eq 10, 3) := by decide +kernel
theorem dX4_who_39 : decode cX4_who 39 = .ok (.iconst 1, 1) := by decide +kernel
theorem dX4_who_40 : decode cX4_who 40 = .ok (.iload 6, 2) := by decide +kernel
theorem dX4_who_42 : decode cX4_who 42 = .ok (.ishl, 1) := by decide +kernel
theorem dX4_who_43 : decode cX4_who 43 = .ok (.goto 4, 3) := by decide +kernel
theorem dX4_who_46 : decode cX4_who 46 = .ok (.iconst 0, 1) := by decide +kernel
theorem dX4_who_47 : decode cX4_who 47 = .ok (.ior, 1) := by decide +kernel
theorem dX4_who_48 : decode cX4_who 48 = .ok (.istore 5, 2) := by decide +kernel
theorem dX4_who_50 : decode cX4_who 50 = .ok (.iinc 6 1, 3) := by decide +kernel
theorem dX4_who_53 : decode cX4_who 53 = .ok (.goto (-47), 3) := by decide +kernel
theorem dX4_who_56 : decode cX4_who 56 = .ok (.iload 5, 2) := by decide +kernel
theorem dX4_who_58 : decode cX4_who 58 = .ok (.ireturn, 1) := by decide +kernel
def wX4_who_L6 (post : Int32 → Prop) (K56 : Int32 → Int32 → Prop) (po : Int64) (DD : Nat → Nat → Int32) (p1 : Int32) (p2 : Int64) (p3 : Int32) : Nat → Int32 → Int32 → Prop
  | 0, _, _ => False
  | n+1, i5, i6 =>
    (((6 : Int32) ≤ i6) →
      K56 i5 i6
    ) ∧ (¬ ((6 : Int32) ≤ i6) →
      wX4_has (fun r_1 : Int32 =>
        ((r_1 = 0) →
          wX4_who_L6 post K56 po DD p1 p2 p3 n (i5 ||| (0 : Int32)) (i6 + 1)
        ) ∧ (¬ (r_1 = 0) →
          wX4_known (fun r_2 : Int64 =>
            wX4_has_ (fun r_3 : Int32 =>
              ((r_3 = 0) →
                wX4_who_L6 post K56 po DD p1 p2 p3 n (i5 ||| (0 : Int32)) (i6 + 1)
              ) ∧ (¬ (r_3 = 0) →
                wX4_who_L6 post K56 po DD p1 p2 p3 n (i5 ||| ((1 : Int32) <<< (i6 &&& 31))) (i6 + 1)
              )
              ) r_2 p3
            ) po DD i6 p2
        )
        ) p1 i6
    )
def wX4_who (post : Int32 → Prop) (po : Int64) (DD : Nat → Nat → Int32) (p1 : Int32) (p2 : Int64) (p3 : Int32) : Prop :=
  ∃ nF, wX4_who_L6 post
    (fun i5 i6 =>
      post i5
    )
    po DD p1 p2 p3 nF (0 : Int32) (0 : Int32)
abbrev wl_X4_who : List Cond := .code yX4_who cX4_who 7 (some .int) :: lwg
abbrev rm_X4_who : Room := { frames := 3, cells := 0, slots := 0, locals := 73 }
set_option maxHeartbeats 4000000 in
set_option maxRecDepth 100000 in
theorem kX4_who {post : Int32 → Prop} (l : Launch) (G : GT) (m0 : Nat) (dO : Nat) (sl : Nat) (ct0 : Nat) (st0 : Nat) (fs0 : Nat) (jn0 : Nat) (rw0 : Nat) (fd0 : Nat) (af0 : Nat) (kO : Nat) (dr : Nat → Nat) (kr : Nat → Nat) (sa : Nat → Nat) (th : Int32) (mr : Int32) (po : Int64) (mf : Int32) (sp : Int32) (DD : Nat → Nat → Int32) (ctf : Nat → Int32) (stf : Nat → Int32) (fsf : Nat → Int32) (jnf : Nat → Int32) (rwf : Nat → Int32) (fdf : Nat → Int64) (aff : Nat → Int32) (KP : Nat → Nat → Int32) (sn : Nat) (sq : Nat → Nat → Int32) (p1 : Int32) (p2 : Int64) (p3 : Int32) (h : wX4_who post po DD p1 p2 p3) : Met l yX4_who wl_X4_who rm_X4_who (va_Pc [.ref m0, .int p1, .long p2, .int p3] (fun U => PP G [(m0, .inr (7, [.int th, .int mr, .long po, .ref dO, .ref sl, .ref ct0, .int mf, .int sp, .ref st0, .ref fs0, .ref jn0, .ref rw0, .ref fd0, .ref af0, .ref kO])), (dO, .inl (G.2 4, 6, .inr (.inr (.inr (.inr (fun k => if k < 6 then some (dr k) else none)))))), (dr 0, .inl (G.2 0, 64, .inl (DD 0))), (dr 1, .inl (G.2 0, 64, .inl (DD 1))), (dr 2, .inl (G.2 0, 64, .inl (DD 2))), (dr 3, .inl (G.2 0, 64, .inl (DD 3))), (dr 4, .inl (G.2 0, 64, .inl (DD 4))), (dr 5, .inl (G.2 0, 64, .inl (DD 5))), (ct0, .inl (G.2 0, 6, .inl ctf)), (st0, .inl (G.2 0, 4096, .inl stf)), (fs0, .inl (G.2 0, 4096, .inl fsf)), (jn0, .inl (G.2 0, 64, .inl jnf)), (rw0, .inl (G.2 0, 64, .inl rwf)), (fd0, .inl (G.2 1, 40, .inr (.inl fdf))), (af0, .inl (G.2 3, 40, .inl aff)), (kO, .inl (G.2 4, 4, .inr (.inr (.inr (.inr (fun k => if k < 4 then some (kr k) else none)))))), (kr 0, .inl (G.2 0, 64, .inl (KP 0))), (kr 1, .inl (G.2 0, 64, .inl (KP 1))), (kr 2, .inl (G.2 0, 64, .inl (KP 2))), (kr 3, .inl (G.2 0, 64, .inl (KP 3)))] U.heap ∧ KK G U)) (vp_Si post) 0 0 (fun _ => False) := by
  refine Met.ofW (cc := cX4_who) (maxL := 7) (ret := (some .int)) (by decide) rfl ?_
  intro p e s m args below meth c s₁ B hml hv
  obtain ⟨rfl, hP, hKK⟩ := hv
  obtain ⟨hK, hN, hR, hFW, hNC⟩ := id hKK
  have hx := B.exec
  have hb := B.bytes
  have hr := B.returns
  have hts0 := atoms_spec (ws := wl_X4_who) B.pre
  have hts : ∀ w ∈ lwg, w.before ([.ref m0, .int p1, .long p2, .int p3] : List Value).toArray s = true := fun w hw => hts0 w (List.mem_cons_of_mem _ hw)
  have hown : s.vm.findClass RX4 = some m.cls := findClass_of_methodNamed B.named
  have hlocks := B.notSynchronized
  have hP : PP G [(m0, .inr (7, [.int th, .int mr, .long po, .ref dO, .ref sl, .ref ct0, .int mf, .int sp, .ref st0, .ref fs0, .ref jn0, .ref rw0, .ref fd0, .ref af0, .ref kO])), (dO, .inl (G.2 4, 6, .inr (.inr (.inr (.inr (fun k => if k < 6 then some (dr k) else none)))))), (dr 0, .inl (G.2 0, 64, .inl (DD 0))), (dr 1, .inl (G.2 0, 64, .inl (DD 1))), (dr 2, .inl (G.2 0, 64, .inl (DD 2))), (dr 3, .inl (G.2 0, 64, .inl (DD 3))), (dr 4, .inl (G.2 0, 64, .inl (DD 4))), (dr 5, .inl (G.2 0, 64, .inl (DD 5))), (ct0, .inl (G.2 0, 6, .inl ctf)), (st0, .inl (G.2 0, 4096, .inl stf)), (fs0, .inl (G.2 0, 4096, .inl fsf)), (jn0, .inl (G.2 0, 64, .inl jnf)), (rw0, .inl (G.2 0, 64, .inl rwf)), (fd0, .inl (G.2 1, 40, .inr (.inl fdf))), (af0, .inl (G.2 3, 40, .inl aff)), (kO, .inl (G.2 4, 4, .inr (.inr (.inr (.inr (fun k => if k < 4 then some (kr k) else none)))))), (kr 0, .inl (G.2 0, 64, .inl (KP 0))), (kr 1, .inl (G.2 0, 64, .inl (KP 1))), (kr 2, .inl (G.2 0, 64, .inl (KP 2))), (kr 3, .inl (G.2 0, 64, .inl (KP 3)))] s.heap := hP
  have hl := lv_entry ([.ref m0, .int p1, .long p2, .int p3]) (n := 7) (Nat.le_of_ble_eq_true rfl)
  rw [lg_entry_eq]
  generalize (lg_sl ([.ref m0, .int p1, .long p2, .int p3]) ++ List.replicate (7 - (lg_sl ([.ref m0, .int p1, .long p2, .int p3])).length) Slot.unset).toArray = ls at hl ⊢
  have hl : lv_has ls 7 [(0, .ref m0), (1, .int p1), (2, .long p2), (4, .int p3)] := hl
  have loop6 : ∀ (K56 : Int32 → Int32 → Prop), True → (∀ (i5 : Int32) (i6 : Int32) (ls : Array Slot), lv_has ls 7 [(0, .ref m0), (1, .int p1), (2, .long p2), (4, .int p3), (5, .int i5), (6, .int i6)] → K56 i5 i6 → W p l e (headSpec (wl_X4_who) rm_X4_who).room s m ([.ref m0, .int p1, .long p2, .int p3] : List Value).toArray below meth c s.heap [] 0 0 (MQ below (vp_Si post) ([.ref m0, .int p1, .long p2, .int p3] : List Value).toArray s 0 0 (fun _ => False)) (F0 m 56 ls [])) → ∀ (n : Nat) (i5 : Int32) (i6 : Int32) (ls : Array Slot), lv_has ls 7 [(0, .ref m0), (1, .int p1), (2, .long p2), (4, .int p3), (5, .int i5), (6, .int i6)] → wX4_who_L6 post K56 po DD p1 p2 p3 n i5 i6 → W p l e (headSpec (wl_X4_who) rm_X4_who).room s m ([.ref m0, .int p1, .long p2, .int p3] : List Value).toArray below meth c s.heap [] 0 0 (MQ below (vp_Si post) ([.ref m0, .int p1, .long p2, .int p3] : List Value).toArray s 0 0 (fun _ => False)) (F0 m 6 ls []) := by
    intro K56 _ hexit56 n
    induction n with
    | zero => intro i5 i6 ls hl h; exact False.elim h
    | succ n ih =>
      intro i5 i6 ls hl h
      refine lv_iload hx hb dX4_who_6 (lv_at hl 5 rfl) ?_
      refine lv_bipush (v := 6) hx hb dX4_who_8 (by decide) ?_
      refine lv_icmp_ge (tgt := 56) hx hb dX4_who_10 (by decide) (fun hc => ?_) (fun hc => ?_)
      · have h := h.1 hc
        have hl := lv_sub (l' := [(0, .ref m0), (1, .int p1), (2, .long p2), (4, .int p3), (5, .int i5), (6, .int i6)]) hl [0, 1, 2, 3, 4, 5] rfl
        exact hexit56 _ _ ls hl h
      · have h := h.2 hc
        refine lv_iload hx hb dX4_who_13 (lv_at hl 4 rfl) ?_
        refine lv_iload_n hx hb dX4_who_15 rfl (lv_at hl 1 rfl) ?_
        refine lv_iload hx hb dX4_who_16 (lv_at hl 5 rfl) ?_
        have hPc := va_P.sub (ws' := []) hP [] rfl
        refine rdI (va_runS (As := [.int p1, .int i6]) (rest := [.int i5]) ⟨hx, hb, hml, hown, hts⟩ (kX4_has l G p1 i6 h) (va_cwS 2 hts (gdS q1111 q1112 q6 q1113) rfl rfl rfl (by decide +kernel) ⟨Nat.le_of_ble_eq_true rfl, Nat.le_of_ble_eq_true rfl⟩) (preS hPc hKK) rfl rfl hl.1 rfl (lv_room (Nat.le_of_ble_eq_true rfl)) dX4_who_18 ⟨Nat.zero_le _, Nat.zero_le _⟩) (fun r_1 h => ?_)
        refine lv_if_eq (tgt := 46) hx hb dX4_who_21 (by decide) (fun hc => ?_) (fun hc => ?_)
        · have h := h.1 hc
          refine lv_iconst (v := 0) hx hb dX4_who_46 (by decide) ?_
          refine lv_ior hx hb dX4_who_47 ?_
          refine lv_istore hx hb dX4_who_48 hl (Nat.le_of_ble_eq_true rfl) rfl (fun ls hl => ?_)
          have hl : lv_has ls 7 [(5, .int (i5 ||| (0 : Int32))), (0, .ref m0), (1, .int p1), (2, .long p2), (4, .int p3), (6, .int i6)] := hl
          refine lv_iinc (v := (i6 + 1)) hx hb dX4_who_50 hl (k := 5) rfl (by rw [show Int32.ofInt 1 = 1 from by decide]) (Nat.le_of_ble_eq_true rfl) rfl (fun ls hl => ?_)
          have hl : lv_has ls 7 [(6, .int (i6 + 1)), (5, .int (i5 ||| (0 : Int32))), (0, .ref m0), (1, .int p1), (2, .long p2), (4, .int p3)] := hl
          refine lv_goto (tgt := 6) hx hb dX4_who_53 (by decide) ?_
          have hl := lv_sub (l' := [(0, .ref m0), (1, .int p1), (2, .long p2), (4, .int p3), (5, .int (i5 ||| (0 : Int32))), (6, .int (i6 + 1))]) hl [2, 3, 4, 5, 1, 0] rfl
          exact ih _ _ ls hl h
        · have h := h.2 hc
          refine lv_aload_n hx hb dX4_who_24 rfl (lv_at hl 0 rfl) ?_
          refine lv_iload hx hb dX4_who_25 (lv_at hl 5 rfl) ?_
          refine lv_lload_n hx hb dX4_who_27 rfl (lv_at hl 2 rfl) ?_
          have hPc := hP
          refine rdL (va_runV (C := RX4) (As := [.int i6, .long p2]) (rest := [.int i5]) ⟨hx, hb, hml, hown, hts⟩ (kX4_known l G m0 dO sl ct0 st0 fs0 jn0 rw0 fd0 af0 kO dr kr sa th mr po mf sp DD ctf stf fsf jnf rwf fdf aff KP sn sq i6 p2 h) (cwV 2 hts (gdV q1114 q1116 qs14 q6 q1117) rfl rfl rfl (by decide +kernel) ⟨Nat.le_of_ble_eq_true rfl, Nat.le_of_ble_eq_true rfl⟩) (preV hPc hKK (va_recv hK hPc (ci := 7) (q0 := 0) rfl rfl)) rfl rfl hl.1 rfl (lv_room (Nat.le_of_ble_eq_true rfl)) dX4_who_28 ⟨Nat.zero_le _, Nat.zero_le _⟩) (fun r_2 h => ?_)
          refine lv_iload hx hb dX4_who_31 (lv_at hl 3 rfl) ?_
          have hPc := va_P.sub (ws' := []) hP [] rfl
          refine rdI (va_runS (As := [.long r_2, .int p3]) (rest := [.int i5]) ⟨hx, hb, hml, hown, hts⟩ (kX4_has_ l G r_2 p3 h) (va_cwS 2 hts (gdS q1122 q1123 q6 q1124) rfl rfl rfl (by decide +kernel) ⟨Nat.le_of_ble_eq_true rfl, Nat.le_of_ble_eq_true rfl⟩) (preS hPc hKK) rfl rfl hl.1 rfl (lv_room (Nat.le_of_ble_eq_true rfl)) dX4_who_33 ⟨Nat.zero_le _, Nat.zero_le _⟩) (fun r_3 h => ?_)
          refine lv_if_eq (tgt := 46) hx hb dX4_who_36 (by decide) (fun hc => ?_) (fun hc => ?_)
          · have h := h.1 hc
            refine lv_iconst (v := 0) hx hb dX4_who_46 (by decide) ?_
            refine lv_ior hx hb dX4_who_47 ?_
            refine lv_istore hx hb dX4_who_48 hl (Nat.le_of_ble_eq_true rfl) rfl (fun ls hl => ?_)
            have hl : lv_has ls 7 [(5, .int (i5 ||| (0 : Int32))), (0, .ref m0), (1, .int p1), (2, .long p2), (4, .int p3), (6, .int i6)] := hl
            refine lv_iinc (v := (i6 + 1)) hx hb dX4_who_50 hl (k := 5) rfl (by rw [show Int32.ofInt 1 = 1 from by decide]) (Nat.le_of_ble_eq_true rfl) rfl (fun ls hl => ?_)
            have hl : lv_has ls 7 [(6, .int (i6 + 1)), (5, .int (i5 ||| (0 : Int32))), (0, .ref m0), (1, .int p1), (2, .long p2), (4, .int p3)] := hl
            refine lv_goto (tgt := 6) hx hb dX4_who_53 (by decide) ?_
            have hl := lv_sub (l' := [(0, .ref m0), (1, .int p1), (2, .long p2), (4, .int p3), (5, .int (i5 ||| (0 : Int32))), (6, .int (i6 + 1))]) hl [2, 3, 4, 5, 1, 0] rfl
            exact ih _ _ ls hl h
          · have h := h.2 hc
            refine lv_iconst (v := 1) hx hb dX4_who_39 (by decide) ?_
            refine lv_iload hx hb dX4_who_40 (lv_at hl 5 rfl) ?_
            refine lv_ishl hx hb dX4_who_42 ?_
            refine lv_goto (tgt := 47) hx hb dX4_who_43 (by decide) ?_
            refine lv_ior hx hb dX4_who_47 ?_
            refine lv_istore hx hb dX4_who_48 hl (Nat.le_of_ble_eq_true rfl) rfl (fun ls hl => ?_)
            have hl : lv_has ls 7 [(5, .int (i5 ||| ((1 : Int32) <<< (i6 &&& 31)))), (0, .ref m0), (1, .int p1), (2, .long p2), (4, .int p3), (6, .int i6)] := hl
            refine lv_iinc (v := (i6 + 1)) hx hb dX4_who_50 hl (k := 5) rfl (by rw [show Int32.ofInt 1 = 1 from by decide]) (Nat.le_of_ble_eq_true rfl) rfl (fun ls hl => ?_)
            have hl : lv_has ls 7 [(6, .int (i6 + 1)), (5, .int (i5 ||| ((1 : Int32) <<< (i6 &&& 31)))), (0, .ref m0), (1, .int p1), (2, .long p2), (4, .int p3)] := hl
            refine lv_goto (tgt := 6) hx hb dX4_who_53 (by decide) ?_
            have hl := lv_sub (l' := [(0, .ref m0), (1, .int p1), (2, .long p2), (4, .int p3), (5, .int (i5 ||| ((1 : Int32) <<< (i6 &&& 31)))), (6, .int (i6 + 1))]) hl [2, 3, 4, 5, 1, 0] rfl
            exact ih _ _ ls hl h
  refine lv_iconst (v := 0) hx hb dX4_who_0 (by decide) ?_
  refine lv_istore hx hb dX4_who_1 hl (Nat.le_of_ble_eq_true rfl) rfl (fun ls hl => ?_)
  have hl : lv_has ls 7 [(5, .int (0 : Int32)), (0, .ref m0), (1, .int p1), (2, .long p2), (4, .int p3)] := hl
  refine lv_iconst (v := 0) hx hb dX4_who_3 (by decide) ?_
  refine lv_istore hx hb dX4_who_4 hl (Nat.le_of_ble_eq_true rfl) rfl (fun ls hl => ?_)
  have hl : lv_has ls 7 [(6, .int (0 : Int32)), (5, .int (0 : Int32)), (0, .ref m0), (1, .int p1), (2, .long p2), (4, .int p3)] := hl
  have hl := lv_sub (l' := [(0, .ref m0), (1, .int p1), (2, .long p2), (4, .int p3), (5, .int (0 : Int32)), (6, .int (0 : Int32))]) hl [2, 3, 4, 5, 1, 0] rfl
  obtain ⟨nF, h⟩ := h
  refine loop6 _ trivial ?_ nF (0 : Int32) (0 : Int32) _ hl h
  · intro i5 i6 ls hl h
    refine lv_iload hx hb dX4_who_56 (lv_at hl 4 rfl) ?_
    exact W.iret (v := i5) hx hb hr (fun t ht _ => ⟨_, rfl, h, ht⟩) (fun _ hq => absurd hq List.not_mem_nil) dX4_who_58
theorem dX4_knowsTogether_0 : decode cX4_knowsTogether 0 = .ok (.iconst 0, 1) := by decide +kernel
theorem dX4_knowsTogether_1 : decode cX4_knowsTogether 1 = .ok (.istore 4, 2) := by decide +kernel
theorem dX4_knowsTogether_3 : decode cX4_knowsTogether 3 = .ok (.iload 4, 2) := by decide +kernel
theorem dX4_knowsTogether_5 : decode cX4_knowsTogether 5 = .ok (.bipush 64, 2) := by decide +kernel
theorem dX4_knowsTogether_7 : decode cX4_knowsTogether 7 = .ok (.if_icmp .ge 100, 3) := by decide +kernel
theorem dX4_knowsTogether_10 : decode cX4_knowsTogether 10 = .ok (.aload_n 0, 1) := by decide +kernel
theorem dX4_knowsTogether_11 : decode cX4_knowsTogether 11 = .ok (.getfield 9, 3) := by decide +kernel
theorem dX4_knowsTogether_14 : decode cX4_knowsTogether 14 = .ok (.lload_n 2, 1) := by decide +kernel
theorem dX4_knowsTogether_15 : decode cX4_knowsTogether 15 = .ok (.ldc2_w 7, 3) := by decide +kernel
theorem dX4_knowsTogether_18 : decode cX4_knowsTogether 18 = .ok (.lxor, 1) := by decide +kernel
theorem dX4_knowsTogether_19 : decode cX4_knowsTogether 19 = .ok (.land, 1) := by decide +kernel
theorem dX4_knowsTogether_20 : decode cX4_knowsTogether 20 = .ok (.iload 4, 2) := by decide +kernel
theorem dX4_knowsTogether_22 : decode cX4_knowsTogether 22 = .ok (.invokestatic 58, 3) := by decide +kernel
theorem dX4_knowsTogether_25 : decode cX4_knowsTogether 25 = .ok (.ifCond .ne 6, 3) := by decide +kernel
theorem dX4_knowsTogether_28 : decode cX4_knowsTogether 28 = .ok (.goto 73, 3) := by decide +kernel
theorem dX4_knowsTogether_31 : decode cX4_knowsTogether 31 = .ok (.iconst 1, 1) := by decide +kernel
theorem dX4_knowsTogether_32 : decode cX4_knowsTogether 32 = .ok (.istore 5, 2) := by decide +kernel
theorem dX4_knowsTogether_34 : decode cX4_knowsTogether 34 = .ok (.iconst 0, 1) := by decide +kernel
theorem dX4_knowsTogether_35 : decode cX4_knowsTogether 35 = .ok (.istore 6, 2) := by decide +kernel
theorem dX4_knowsTogether_37 : decode cX4_knowsTogether 37 = .ok (.iload 6, 2) := by decide +kernel
theorem dX4_knowsTogether_39 : decode cX4_knowsTogether 39 = .ok (.bipush 6, 2) := by decide +kernel
theorem dX4_knowsTogether_41 : decode cX4_knowsTogether 41 = .ok (.if_icmp .ge 53, 3) := by decide +kernel
theorem dX4_knowsTogether_44 : decode cX4_knowsTogether 44 = .ok (.iload 5, 2) := by decide +kernel
theorem dX4_knowsTogether_46 : decode cX4_knowsTogether 46 = .ok (.iload_n 1, 1) := by decide +kernel
theorem dX4_knowsTogether_47 : decode cX4_knowsTogether 47 = .ok (.iload 6, 2) := by decide +kernel
theorem dX4_knowsTogether_49 : decode cX4_knowsTogether 49 = .ok (.invokestatic 70, 3) := by decide +kernel
theorem dX4_knowsTogether_52 : decode cX4_knowsTogether 52 = .ok (.ifCond .eq 28, 3) := by decide +kernel
theorem dX4_knowsTogether_55 : decode cX4_knowsTogether 55 = .ok (.aload_n 0, 1) := by decide +kernel
theorem dX4_knowsTogether_56 : decode cX4_knowsTogether 56 = .ok (.getfield 17, 3) := by decide +kernel
theorem dX4_knowsTogether_59 : decode cX4_knowsTogether 59 = .ok (.iload 6, 2) := by decide +kernel
theorem dX4_knowsTogether_61 : decode cX4_knowsTogether 61 = .ok (.aaload, 1) := by decide +kernel
theorem dX4_knowsTogether_62 : decode cX4_knowsTogether 62 = .ok (.aload_n 0, 1) := by decide +kernel
theorem dX4_knowsTogether_63 : decode cX4_knowsTogether 63 = .ok (.getfield 127, 3) := by decide +kernel
theorem dX4_knowsTogether_66 : decode cX4_knowsTogether 66 = .ok (.iaload, 1) := by decide +kernel
theorem dX4_knowsTogether_67 : decode cX4_knowsTogether 67 = .ok (.aload_n 0, 1) := by decide +kernel
theorem dX4_knowsTogether_68 : decode cX4_knowsTogether 68 = .ok (.getfield 17, 3) := by decide +kernel
theorem dX4_knowsTogether_71 : decode cX4_knowsTogether 71 = .ok (.iload 6, 2) := by decide +kernel
theorem dX4_knowsTogether_73 : decode cX4_knowsTogether 73 = .ok (.aaload, 1) := by decide +kernel
theorem dX4_knowsTogether_74 : decode cX4_knowsTogether 74 = .ok (.iload 4, 2) := by decide +kernel
theorem dX4_knowsTogether_76 : decode cX4_knowsTogether 76 = .ok (.iaload, 1) := by decide +kernel
theorem dX4_knowsTogether_77 : decode cX4_knowsTogether 77 = .ok (.if_icmp .ne 7, 3) := by decide +kernel
theorem dX4_knowsTogether_80 : decode cX4_knowsTogether 80 = .ok (.iconst 1, 1) := by decide +kernel
theorem dX4_knowsTogether_81 : decode cX4_knowsTogether 81 = .ok (.goto 4, 3) := by decide +kernel
theorem dX4_knowsTogether_84 : decode cX4_knowsTogether 84 = .ok (.iconst 0, 1) := by decide +kernel
theorem dX4_knowsTogether_85 : decode cX4_knowsTogether 85 = .ok (.iand, 1) := by decide +kernel
theorem dX4_knowsTogether_86 : decode cX4_knowsTogether 86 = .ok (.istore 5, 2) := by decide +kernel
theorem dX4_knowsTogether_88 : decode cX4_knowsTogether 88 = .ok (.iinc 6 1, 3) := by decide +kernel
theorem dX4_knowsTogether_91 : decode cX4_knowsTogether 91 = .ok (.goto (-54), 3) := by decide +kernel
theorem dX4_knowsTogether_94 : decode cX4_knowsTogether 94 = .ok (.iload 5, 2) := by decide +kernel
theorem dX4_knowsTogether_96 : decode cX4_knowsTogether 96 = .ok (.ifCond .eq 5, 3) := by decide +kernel
theorem dX4_knowsTogether_99 : decode cX4_knowsTogether 99 = .ok (.iconst 0, 1) := by decide +kernel
theorem dX4_knowsTogether_100 : decode cX4_knowsTogether 100 = .ok (.ireturn, 1) := by decide +kernel
theorem dX4_knowsTogether_101 : decode cX4_knowsTogether 101 = .ok (.iinc 4 1, 3) := by decide +kernel
theorem dX4_knowsTogether_104 : decode cX4_knowsTogether 104 = .ok (.goto (-101), 3) := by decide +kernel
theorem dX4_knowsTogether_107 : decode cX4_knowsTogether 107 = .ok (.iconst 1, 1) := by decide +kernel
theorem dX4_knowsTogether_108 : decode cX4_knowsTogether 108 = .ok (.ireturn, 1) := by decide +kernel
def wX4_knowsTogether_L37 (post : Int32 → Prop) (K94 : Int32 → Int32 → Prop) (mr : Int32) (DD : Nat → Nat → Int32) (p1 : Int32) (i4 : Int32) : Nat → Int32 → Int32 → Prop
  | 0, _, _ => False
  | n+1, i5, i6 =>
    (((6 : Int32) ≤ i6) →
      K94 i5 i6
    ) ∧ (¬ ((6 : Int32) ≤ i6) →
      wX4_has (fun r_2 : Int32 =>
        ((r_2 = 0) →
          wX4_knowsTogether_L37 post K94 mr DD p1 i4 n (i5 &&& (1 : Int32)) (i6 + 1)
        ) ∧ (¬ (r_2 = 0) →
          vp_in i6 6 ∧
          vp_in mr 64 ∧
          vp_in i6 6 ∧
          vp_in i4 64 ∧
          ((¬ (DD (i6.toNatClampNeg) mr.toNatClampNeg) = (DD (i6.toNatClampNeg) i4.toNatClampNeg)) →
            wX4_knowsTogether_L37 post K94 mr DD p1 i4 n (i5 &&& (0 : Int32)) (i6 + 1)
          ) ∧ (((DD (i6.toNatClampNeg) mr.toNatClampNeg) = (DD (i6.toNatClampNeg) i4.toNatClampNeg)) →
            wX4_knowsTogether_L37 post K94 mr DD p1 i4 n (i5 &&& (1 : Int32)) (i6 + 1)
          )
        )
        ) p1 i6
    )
def wX4_knowsTogether_L3 (post : Int32 → Prop) (K107 : Int32 → Prop) (mr : Int32) (po : Int64) (DD : Nat → Nat → Int32) (p1 : Int32) (p2 : Int64) : Nat → Int32 → Prop
  | 0, _ => False
  | n+1, i4 =>
    (((64 : Int32) ≤ i4) →
      K107 i4
    ) ∧ (¬ ((64 : Int32) ≤ i4) →
      wX4_has_ (fun r_1 : Int32 =>
        ((¬ r_1 = 0) →
          ∃ nF, wX4_knowsTogether_L37 post
            (fun i5 i6 =>
              ((i5 = 0) →
                wX4_knowsTogether_L3 post K107 mr po DD p1 p2 n (i4 + 1)
              ) ∧ (¬ (i5 = 0) →
                post (0 : Int32)
              )
            )
            mr DD p1 i4 nF (1 : Int32) (0 : Int32)
        ) ∧ ((r_1 = 0) →
          wX4_knowsTogether_L3 post K107 mr po DD p1 p2 n (i4 + 1)
        )
        ) (po &&& (p2 ^^^ (-1 : Int64))) i4
    )
def wX4_knowsTogether (post : Int32 → Prop) (mr : Int32) (po : Int64) (DD : Nat → Nat → Int32) (p1 : Int32) (p2 : Int64) : Prop :=
  ∃ nF, wX4_knowsTogether_L3 post
    (fun i4 =>
      post (1 : Int32)
    )
    mr po DD p1 p2 nF (0 : Int32)
abbrev wl_X4_knowsTogether : List Cond := .code yX4_knowsTogether cX4_knowsTogether 7 (some .boolean) :: lwg
abbrev rm_X4_knowsTogether : Room := { frames := 1, cells := 0, slots := 0, locals := 22 }
set_option maxHeartbeats 4000000 in
set_option maxRecDepth 100000 in
theorem kX4_knowsTogether {post : Int32 → Prop} (l : Launch) (G : GT) (m0 : Nat) (dO : Nat) (sl : Nat) (ct0 : Nat) (st0 : Nat) (fs0 : Nat) (jn0 : Nat) (rw0 : Nat) (fd0 : Nat) (af0 : Nat) (kO : Nat) (dr : Nat → Nat) (kr : Nat → Nat) (sa : Nat → Nat) (th : Int32) (mr : Int32) (po : Int64) (mf : Int32) (sp : Int32) (DD : Nat → Nat → Int32) (ctf : Nat → Int32) (stf : Nat → Int32) (fsf : Nat → Int32) (jnf : Nat → Int32) (rwf : Nat → Int32) (fdf : Nat → Int64) (aff : Nat → Int32) (KP : Nat → Nat → Int32) (sn : Nat) (sq : Nat → Nat → Int32) (p1 : Int32) (p2 : Int64) (h : wX4_knowsTogether post mr po DD p1 p2) : Met l yX4_knowsTogether wl_X4_knowsTogether rm_X4_knowsTogether (va_Pc [.ref m0, .int p1, .long p2] (fun U => PP G [(m0, .inr (7, [.int th, .int mr, .long po, .ref dO, .ref sl, .ref ct0, .int mf, .int sp, .ref st0, .ref fs0, .ref jn0, .ref rw0, .ref fd0, .ref af0, .ref kO])), (dO, .inl (G.2 4, 6, .inr (.inr (.inr (.inr (fun k => if k < 6 then some (dr k) else none)))))), (dr 0, .inl (G.2 0, 64, .inl (DD 0))), (dr 1, .inl (G.2 0, 64, .inl (DD 1))), (dr 2, .inl (G.2 0, 64, .inl (DD 2))), (dr 3, .inl (G.2 0, 64, .inl (DD 3))), (dr 4, .inl (G.2 0, 64, .inl (DD 4))), (dr 5, .inl (G.2 0, 64, .inl (DD 5))), (ct0, .inl (G.2 0, 6, .inl ctf)), (st0, .inl (G.2 0, 4096, .inl stf)), (fs0, .inl (G.2 0, 4096, .inl fsf)), (jn0, .inl (G.2 0, 64, .inl jnf)), (rw0, .inl (G.2 0, 64, .inl rwf)), (fd0, .inl (G.2 1, 40, .inr (.inl fdf))), (af0, .inl (G.2 3, 40, .inl aff)), (kO, .inl (G.2 4, 4, .inr (.inr (.inr (.inr (fun k => if k < 4 then some (kr k) else none)))))), (kr 0, .inl (G.2 0, 64, .inl (KP 0))), (kr 1, .inl (G.2 0, 64, .inl (KP 1))), (kr 2, .inl (G.2 0, 64, .inl (KP 2))), (kr 3, .inl (G.2 0, 64, .inl (KP 3)))] U.heap ∧ KK G U)) (vp_Si post) 0 0 (fun _ => False) := by
  refine Met.ofW (cc := cX4_knowsTogether) (maxL := 7) (ret := (some .boolean)) (by decide) rfl ?_
  intro p e s m args below meth c s₁ B hml hv
  obtain ⟨rfl, hP, hKK⟩ := hv
  obtain ⟨hK, hN, hR, hFW, hNC⟩ := id hKK
  have hx := B.exec
  have hb := B.bytes
  have hr := B.returns
  have hts0 := atoms_spec (ws := wl_X4_knowsTogether) B.pre
  have hts : ∀ w ∈ lwg, w.before ([.ref m0, .int p1, .long p2] : List Value).toArray s = true := fun w hw => hts0 w (List.mem_cons_of_mem _ hw)
  have hown : s.vm.findClass RX4 = some m.cls := findClass_of_methodNamed B.named
  have hlocks := B.notSynchronized
  have hP : PP G [(m0, .inr (7, [.int th, .int mr, .long po, .ref dO, .ref sl, .ref ct0, .int mf, .int sp, .ref st0, .ref fs0, .ref jn0, .ref rw0, .ref fd0, .ref af0, .ref kO])), (dO, .inl (G.2 4, 6, .inr (.inr (.inr (.inr (fun k => if k < 6 then some (dr k) else none)))))), (dr 0, .inl (G.2 0, 64, .inl (DD 0))), (dr 1, .inl (G.2 0, 64, .inl (DD 1))), (dr 2, .inl (G.2 0, 64, .inl (DD 2))), (dr 3, .inl (G.2 0, 64, .inl (DD 3))), (dr 4, .inl (G.2 0, 64, .inl (DD 4))), (dr 5, .inl (G.2 0, 64, .inl (DD 5))), (ct0, .inl (G.2 0, 6, .inl ctf)), (st0, .inl (G.2 0, 4096, .inl stf)), (fs0, .inl (G.2 0, 4096, .inl fsf)), (jn0, .inl (G.2 0, 64, .inl jnf)), (rw0, .inl (G.2 0, 64, .inl rwf)), (fd0, .inl (G.2 1, 40, .inr (.inl fdf))), (af0, .inl (G.2 3, 40, .inl aff)), (kO, .inl (G.2 4, 4, .inr (.inr (.inr (.inr (fun k => if k < 4 then some (kr k) else none)))))), (kr 0, .inl (G.2 0, 64, .inl (KP 0))), (kr 1, .inl (G.2 0, 64, .inl (KP 1))), (kr 2, .inl (G.2 0, 64, .inl (KP 2))), (kr 3, .inl (G.2 0, 64, .inl (KP 3)))] s.heap := hP
  have hl := lv_entry ([.ref m0, .int p1, .long p2]) (n := 7) (Nat.le_of_ble_eq_true rfl)
  rw [lg_entry_eq]
  generalize (lg_sl ([.ref m0, .int p1, .long p2]) ++ List.replicate (7 - (lg_sl ([.ref m0, .int p1, .long p2])).length) Slot.unset).toArray = ls at hl ⊢
  have hl : lv_has ls 7 [(0, .ref m0), (1, .int p1), (2, .long p2)] := hl
  have loop37 : ∀ (K94 : Int32 → Int32 → Prop) (i4 : Int32), True → (∀ (i5 : Int32) (i6 : Int32) (ls : Array Slot), lv_has ls 7 [(0, .ref m0), (1, .int p1), (2, .long p2), (4, .int i4), (5, .int i5), (6, .int i6)] → K94 i5 i6 → W p l e (headSpec (wl_X4_knowsTogether) rm_X4_knowsTogether).room s m ([.ref m0, .int p1, .long p2] : List Value).toArray below meth c s.heap [] 0 0 (MQ below (vp_Si post) ([.ref m0, .int p1, .long p2] : List Value).toArray s 0 0 (fun _ => False)) (F0 m 94 ls [])) → ∀ (n : Nat) (i5 : Int32) (i6 : Int32) (ls : Array Slot), lv_has ls 7 [(0, .ref m0), (1, .int p1), (2, .long p2), (4, .int i4), (5, .int i5), (6, .int i6)] → wX4_knowsTogether_L37 post K94 mr DD p1 i4 n i5 i6 → W p l e (headSpec (wl_X4_knowsTogether) rm_X4_knowsTogether).room s m ([.ref m0, .int p1, .long p2] : List Value).toArray below meth c s.heap [] 0 0 (MQ below (vp_Si post) ([.ref m0, .int p1, .long p2] : List Value).toArray s 0 0 (fun _ => False)) (F0 m 37 ls []) := by
    intro K94 i4 _ hexit94 n
    induction n with
    | zero => intro i5 i6 ls hl h; exact False.elim h
    | succ n ih =>
      intro i5 i6 ls hl h
      refine lv_iload hx hb dX4_knowsTogether_37 (lv_at hl 5 rfl) ?_
      refine lv_bipush (v := 6) hx hb dX4_knowsTogether_39 (by decide) ?_
      refine lv_icmp_ge (tgt := 94) hx hb dX4_knowsTogether_41 (by decide) (fun hc => ?_) (fun hc => ?_)
      · have h := h.1 hc
        have hl := lv_sub (l' := [(0, .ref m0), (1, .int p1), (2, .long p2), (4, .int i4), (5, .int i5), (6, .int i6)]) hl [0, 1, 2, 3, 4, 5] rfl
        exact hexit94 _ _ ls hl h
      · have h := h.2 hc
        refine lv_iload hx hb dX4_knowsTogether_44 (lv_at hl 4 rfl) ?_
        refine lv_iload_n hx hb dX4_knowsTogether_46 rfl (lv_at hl 1 rfl) ?_
        refine lv_iload hx hb dX4_knowsTogether_47 (lv_at hl 5 rfl) ?_
        have hPc := va_P.sub (ws' := []) hP [] rfl
        refine rdI (va_runS (As := [.int p1, .int i6]) (rest := [.int i5]) ⟨hx, hb, hml, hown, hts⟩ (kX4_has l G p1 i6 h) (va_cwS 2 hts (gdS q1111 q1112 q6 q1113) rfl rfl rfl (by decide +kernel) ⟨Nat.le_of_ble_eq_true rfl, Nat.le_of_ble_eq_true rfl⟩) (preS hPc hKK) rfl rfl hl.1 rfl (lv_room (Nat.le_of_ble_eq_true rfl)) dX4_knowsTogether_49 ⟨Nat.zero_le _, Nat.zero_le _⟩) (fun r_2 h => ?_)
        refine lv_if_eq (tgt := 80) hx hb dX4_knowsTogether_52 (by decide) (fun hc => ?_) (fun hc => ?_)
        · have h := h.1 hc
          refine lv_iconst (v := 1) hx hb dX4_knowsTogether_80 (by decide) ?_
          refine lv_goto (tgt := 85) hx hb dX4_knowsTogether_81 (by decide) ?_
          refine lv_iand hx hb dX4_knowsTogether_85 ?_
          refine lv_istore hx hb dX4_knowsTogether_86 hl (Nat.le_of_ble_eq_true rfl) rfl (fun ls hl => ?_)
          have hl : lv_has ls 7 [(5, .int (i5 &&& (1 : Int32))), (0, .ref m0), (1, .int p1), (2, .long p2), (4, .int i4), (6, .int i6)] := hl
          refine lv_iinc (v := (i6 + 1)) hx hb dX4_knowsTogether_88 hl (k := 5) rfl (by rw [show Int32.ofInt 1 = 1 from by decide]) (Nat.le_of_ble_eq_true rfl) rfl (fun ls hl => ?_)
          have hl : lv_has ls 7 [(6, .int (i6 + 1)), (5, .int (i5 &&& (1 : Int32))), (0, .ref m0), (1, .int p1), (2, .long p2), (4, .int i4)] := hl
          refine lv_goto (tgt := 37) hx hb dX4_knowsTogether_91 (by decide) ?_
          have hl := lv_sub (l' := [(0, .ref m0), (1, .int p1), (2, .long p2), (4, .int i4), (5, .int (i5 &&& (1 : Int32))), (6, .int (i6 + 1))]) hl [2, 3, 4, 5, 1, 0] rfl
          exact ih _ _ ls hl h
        · have h := h.2 hc
          refine lv_aload_n hx hb dX4_knowsTogether_55 rfl (lv_at hl 0 rfl) ?_
          refine va_get (D := G.1) (ci := 7) (v := .ref dO) (C := RX4) (T := TX4) (N := 15) hx hb hts igX4 hown hK hP 0 rfl rfl 3 (by decide) (hts _ q1008) (fun _ h9 => h9) rfl dX4_knowsTogether_56 ?_
          refine lv_iload hx hb dX4_knowsTogether_59 (lv_at hl 5 rfl) ?_
          obtain ⟨hin, h⟩ := h
          have hf_1 : i6.toNatClampNeg < 6 := vpLt hin
          refine va_aldA (b := dr (i6.toNatClampNeg)) hx hb hK hP 1 4 rfl rfl hin (if_pos hf_1) dX4_knowsTogether_61 ?_
          refine lv_aload_n hx hb dX4_knowsTogether_62 rfl (lv_at hl 0 rfl) ?_
          refine va_get (D := G.1) (ci := 7) (v := .int mr) (C := RX4) (T := TX4) (N := 15) hx hb hts igX4 hown hK hP 0 rfl rfl 1 (by decide) (hts _ q1006) (fun _ h9 => h9) rfl dX4_knowsTogether_63 ?_
          obtain ⟨hin, h⟩ := h
          refine va_iald (D := G.1) (f := DD (i6.toNatClampNeg)) hx hb hK hP (2 + (i6.toNatClampNeg)) 0 (famget6 (pre := [(m0, .inr (7, [.int th, .int mr, .long po, .ref dO, .ref sl, .ref ct0, .int mf, .int sp, .ref st0, .ref fs0, .ref jn0, .ref rw0, .ref fd0, .ref af0, .ref kO])), (dO, .inl (G.2 4, 6, .inr (.inr (.inr (.inr (fun k => if k < 6 then some (dr k) else none))))))]) (post := [(ct0, .inl (G.2 0, 6, .inl ctf)), (st0, .inl (G.2 0, 4096, .inl stf)), (fs0, .inl (G.2 0, 4096, .inl fsf)), (jn0, .inl (G.2 0, 64, .inl jnf)), (rw0, .inl (G.2 0, 64, .inl rwf)), (fd0, .inl (G.2 1, 40, .inr (.inl fdf))), (af0, .inl (G.2 3, 40, .inl aff)), (kO, .inl (G.2 4, 4, .inr (.inr (.inr (.inr (fun k => if k < 4 then some (kr k) else none)))))), (kr 0, .inl (G.2 0, 64, .inl (KP 0))), (kr 1, .inl (G.2 0, 64, .inl (KP 1))), (kr 2, .inl (G.2 0, 64, .inl (KP 2))), (kr 3, .inl (G.2 0, 64, .inl (KP 3)))]) (fun j => (dr j, .inl (G.2 0, 64, .inl (DD j)))) hf_1) rfl hin dX4_knowsTogether_66 ?_
          refine lv_aload_n hx hb dX4_knowsTogether_67 rfl (lv_at hl 0 rfl) ?_
          refine va_get (D := G.1) (ci := 7) (v := .ref dO) (C := RX4) (T := TX4) (N := 15) hx hb hts igX4 hown hK hP 0 rfl rfl 3 (by decide) (hts _ q1008) (fun _ h9 => h9) rfl dX4_knowsTogether_68 ?_
          refine lv_iload hx hb dX4_knowsTogether_71 (lv_at hl 5 rfl) ?_
          obtain ⟨hin, h⟩ := h
          have hf_2 : i6.toNatClampNeg < 6 := vpLt hin
          refine va_aldA (b := dr (i6.toNatClampNeg)) hx hb hK hP 1 4 rfl rfl hin (if_pos hf_1) dX4_knowsTogether_73 ?_
          refine lv_iload hx hb dX4_knowsTogether_74 (lv_at hl 3 rfl) ?_
          obtain ⟨hin, h⟩ := h
          refine va_iald (D := G.1) (f := DD (i6.toNatClampNeg)) hx hb hK hP (2 + (i6.toNatClampNeg)) 0 (famget6 (pre := [(m0, .inr (7, [.int th, .int mr, .long po, .ref dO, .ref sl, .ref ct0, .int mf, .int sp, .ref st0, .ref fs0, .ref jn0, .ref rw0, .ref fd0, .ref af0, .ref kO])), (dO, .inl (G.2 4, 6, .inr (.inr (.inr (.inr (fun k => if k < 6 then some (dr k) else none))))))]) (post := [(ct0, .inl (G.2 0, 6, .inl ctf)), (st0, .inl (G.2 0, 4096, .inl stf)), (fs0, .inl (G.2 0, 4096, .inl fsf)), (jn0, .inl (G.2 0, 64, .inl jnf)), (rw0, .inl (G.2 0, 64, .inl rwf)), (fd0, .inl (G.2 1, 40, .inr (.inl fdf))), (af0, .inl (G.2 3, 40, .inl aff)), (kO, .inl (G.2 4, 4, .inr (.inr (.inr (.inr (fun k => if k < 4 then some (kr k) else none)))))), (kr 0, .inl (G.2 0, 64, .inl (KP 0))), (kr 1, .inl (G.2 0, 64, .inl (KP 1))), (kr 2, .inl (G.2 0, 64, .inl (KP 2))), (kr 3, .inl (G.2 0, 64, .inl (KP 3)))]) (fun j => (dr j, .inl (G.2 0, 64, .inl (DD j)))) hf_1) rfl hin dX4_knowsTogether_76 ?_
          refine lv_icmp_ne (tgt := 84) hx hb dX4_knowsTogether_77 (by decide) (fun hc => ?_) (fun hc => ?_)
          · have h := h.1 hc
            refine lv_iconst (v := 0) hx hb dX4_knowsTogether_84 (by decide) ?_
            refine lv_iand hx hb dX4_knowsTogether_85 ?_
            refine lv_istore hx hb dX4_knowsTogether_86 hl (Nat.le_of_ble_eq_true rfl) rfl (fun ls hl => ?_)
            have hl : lv_has ls 7 [(5, .int (i5 &&& (0 : Int32))), (0, .ref m0), (1, .int p1), (2, .long p2), (4, .int i4), (6, .int i6)] := hl
            refine lv_iinc (v := (i6 + 1)) hx hb dX4_knowsTogether_88 hl (k := 5) rfl (by rw [show Int32.ofInt 1 = 1 from by decide]) (Nat.le_of_ble_eq_true rfl) rfl (fun ls hl => ?_)
            have hl : lv_has ls 7 [(6, .int (i6 + 1)), (5, .int (i5 &&& (0 : Int32))), (0, .ref m0), (1, .int p1), (2, .long p2), (4, .int i4)] := hl
            refine lv_goto (tgt := 37) hx hb dX4_knowsTogether_91 (by decide) ?_
            have hl := lv_sub (l' := [(0, .ref m0), (1, .int p1), (2, .long p2), (4, .int i4), (5, .int (i5 &&& (0 : Int32))), (6, .int (i6 + 1))]) hl [2, 3, 4, 5, 1, 0] rfl
            exact ih _ _ ls hl h
          · have h := h.2 hc
            refine lv_iconst (v := 1) hx hb dX4_knowsTogether_80 (by decide) ?_
            refine lv_goto (tgt := 85) hx hb dX4_knowsTogether_81 (by decide) ?_
            refine lv_iand hx hb dX4_knowsTogether_85 ?_
            refine lv_istore hx hb dX4_knowsTogether_86 hl (Nat.le_of_ble_eq_true rfl) rfl (fun ls hl => ?_)
            have hl : lv_has ls 7 [(5, .int (i5 &&& (1 : Int32))), (0, .ref m0), (1, .int p1), (2, .long p2), (4, .int i4), (6, .int i6)] := hl
            refine lv_iinc (v := (i6 + 1)) hx hb dX4_knowsTogether_88 hl (k := 5) rfl (by rw [show Int32.ofInt 1 = 1 from by decide]) (Nat.le_of_ble_eq_true rfl) rfl (fun ls hl => ?_)
            have hl : lv_has ls 7 [(6, .int (i6 + 1)), (5, .int (i5 &&& (1 : Int32))), (0, .ref m0), (1, .int p1), (2, .long p2), (4, .int i4)] := hl
            refine lv_goto (tgt := 37) hx hb dX4_knowsTogether_91 (by decide) ?_
            have hl := lv_sub (l' := [(0, .ref m0), (1, .int p1), (2, .long p2), (4, .int i4), (5, .int (i5 &&& (1 : Int32))), (6, .int (i6 + 1))]) hl [2, 3, 4, 5, 1, 0] rfl
            exact ih _ _ ls hl h
  have loop3 : ∀ (K107 : Int32 → Prop), True → (∀ (i4 : Int32) (ls : Array Slot), lv_has ls 7 [(0, .ref m0), (1, .int p1), (2, .long p2), (4, .int i4)] → K107 i4 → W p l e (headSpec (wl_X4_knowsTogether) rm_X4_knowsTogether).room s m ([.ref m0, .int p1, .long p2] : List Value).toArray below meth c s.heap [] 0 0 (MQ below (vp_Si post) ([.ref m0, .int p1, .long p2] : List Value).toArray s 0 0 (fun _ => False)) (F0 m 107 ls [])) → ∀ (n : Nat) (i4 : Int32) (ls : Array Slot), lv_has ls 7 [(0, .ref m0), (1, .int p1), (2, .long p2), (4, .int i4)] → wX4_knowsTogether_L3 post K107 mr po DD p1 p2 n i4 → W p l e (headSpec (wl_X4_knowsTogether) rm_X4_knowsTogether).room s m ([.ref m0, .int p1, .long p2] : List Value).toArray below meth c s.heap [] 0 0 (MQ below (vp_Si post) ([.ref m0, .int p1, .long p2] : List Value).toArray s 0 0 (fun _ => False)) (F0 m 3 ls []) := by
    intro K107 _ hexit107 n
    induction n with
    | zero => intro i4 ls hl h; exact False.elim h
    | succ n ih =>
      intro i4 ls hl h
      refine lv_iload hx hb dX4_knowsTogether_3 (lv_at hl 3 rfl) ?_
      refine lv_bipush (v := 64) hx hb dX4_knowsTogether_5 (by decide) ?_
      refine lv_icmp_ge (tgt := 107) hx hb dX4_knowsTogether_7 (by decide) (fun hc => ?_) (fun hc => ?_)
      · have h := h.1 hc
        have hl := lv_sub (l' := [(0, .ref m0), (1, .int p1), (2, .long p2), (4, .int i4)]) hl [0, 1, 2, 3] rfl
        exact hexit107 _ ls hl h
      · have h := h.2 hc
        refine lv_aload_n hx hb dX4_knowsTogether_10 rfl (lv_at hl 0 rfl) ?_
        refine va_get (D := G.1) (ci := 7) (v := .long po) (C := RX4) (T := TX4) (N := 15) hx hb hts igX4 hown hK hP 0 rfl rfl 2 (by decide) (hts _ q1007) (fun _ h9 => h9) rfl dX4_knowsTogether_11 ?_
        refine lv_lload_n hx hb dX4_knowsTogether_14 rfl (lv_at hl 2 rfl) ?_
        refine lv_ldc2 hx hb hown (hts _ q976) dX4_knowsTogether_15 ?_
        refine lv_lxor hx hb dX4_knowsTogether_18 ?_
        refine lv_land hx hb dX4_knowsTogether_19 ?_
        refine lv_iload hx hb dX4_knowsTogether_20 (lv_at hl 3 rfl) ?_
        have hPc := va_P.sub (ws' := []) hP [] rfl
        refine rdI (va_runS (As := [.long (po &&& (p2 ^^^ (-1 : Int64))), .int i4]) (rest := []) ⟨hx, hb, hml, hown, hts⟩ (kX4_has_ l G (po &&& (p2 ^^^ (-1 : Int64))) i4 h) (va_cwS 2 hts (gdS q1122 q1123 q6 q1124) rfl rfl rfl (by decide +kernel) ⟨Nat.le_of_ble_eq_true rfl, Nat.le_of_ble_eq_true rfl⟩) (preS hPc hKK) rfl rfl hl.1 rfl (lv_room (Nat.le_of_ble_eq_true rfl)) dX4_knowsTogether_22 ⟨Nat.zero_le _, Nat.zero_le _⟩) (fun r_1 h => ?_)
        refine lv_if_ne (tgt := 31) hx hb dX4_knowsTogether_25 (by decide) (fun hc => ?_) (fun hc => ?_)
        · have h := h.1 hc
          refine lv_iconst (v := 1) hx hb dX4_knowsTogether_31 (by decide) ?_
          refine lv_istore hx hb dX4_knowsTogether_32 hl (Nat.le_of_ble_eq_true rfl) rfl (fun ls hl => ?_)
          have hl : lv_has ls 7 [(5, .int (1 : Int32)), (0, .ref m0), (1, .int p1), (2, .long p2), (4, .int i4)] := hl
          refine lv_iconst (v := 0) hx hb dX4_knowsTogether_34 (by decide) ?_
          refine lv_istore hx hb dX4_knowsTogether_35 hl (Nat.le_of_ble_eq_true rfl) rfl (fun ls hl => ?_)
          have hl : lv_has ls 7 [(6, .int (0 : Int32)), (5, .int (1 : Int32)), (0, .ref m0), (1, .int p1), (2, .long p2), (4, .int i4)] := hl
          have hl := lv_sub (l' := [(0, .ref m0), (1, .int p1), (2, .long p2), (4, .int i4), (5, .int (1 : Int32)), (6, .int (0 : Int32))]) hl [2, 3, 4, 5, 1, 0] rfl
          obtain ⟨nF, h⟩ := h
          refine loop37 _ i4 trivial ?_ nF (1 : Int32) (0 : Int32) _ hl h
          · intro i5 i6 ls hl h
            refine lv_iload hx hb dX4_knowsTogether_94 (lv_at hl 4 rfl) ?_
            refine lv_if_eq (tgt := 101) hx hb dX4_knowsTogether_96 (by decide) (fun hc => ?_) (fun hc => ?_)
            · have h := h.1 hc
              refine lv_iinc (v := (i4 + 1)) hx hb dX4_knowsTogether_101 hl (k := 3) rfl (by rw [show Int32.ofInt 1 = 1 from by decide]) (Nat.le_of_ble_eq_true rfl) rfl (fun ls hl => ?_)
              have hl : lv_has ls 7 [(4, .int (i4 + 1)), (0, .ref m0), (1, .int p1), (2, .long p2), (5, .int i5), (6, .int i6)] := hl
              refine lv_goto (tgt := 3) hx hb dX4_knowsTogether_104 (by decide) ?_
              have hl := lv_sub (l' := [(0, .ref m0), (1, .int p1), (2, .long p2), (4, .int (i4 + 1))]) hl [1, 2, 3, 0] rfl
              exact ih _ ls hl h
            · have h := h.2 hc
              refine lv_iconst (v := 0) hx hb dX4_knowsTogether_99 (by decide) ?_
              exact W.zret (v := (0 : Int32)) hx hb hr (by decide) (fun t ht _ => ⟨_, rfl, h, ht⟩) (fun _ hq => absurd hq List.not_mem_nil) dX4_knowsTogether_100
        · have h := h.2 hc
          refine lv_goto (tgt := 101) hx hb dX4_knowsTogether_28 (by decide) ?_
          refine lv_iinc (v := (i4 + 1)) hx hb dX4_knowsTogether_101 hl (k := 3) rfl (by rw [show Int32.ofInt 1 = 1 from by decide]) (Nat.le_of_ble_eq_true rfl) rfl (fun ls hl => ?_)
          have hl : lv_has ls 7 [(4, .int (i4 + 1)), (0, .ref m0), (1, .int p1), (2, .long p2)] := hl
          refine lv_goto (tgt := 3) hx hb dX4_knowsTogether_104 (by decide) ?_
          have hl := lv_sub (l' := [(0, .ref m0), (1, .int p1), (2, .long p2), (4, .int (i4 + 1))]) hl [1, 2, 3, 0] rfl
          exact ih _ ls hl h
  refine lv_iconst (v := 0) hx hb dX4_knowsTogether_0 (by decide) ?_
  refine lv_istore hx hb dX4_knowsTogether_1 hl (Nat.le_of_ble_eq_true rfl) rfl (fun ls hl => ?_)
  have hl : lv_has ls 7 [(4, .int (0 : Int32)), (0, .ref m0), (1, .int p1), (2, .long p2)] := hl
  have hl := lv_sub (l' := [(0, .ref m0), (1, .int p1), (2, .long p2), (4, .int (0 : Int32))]) hl [1, 2, 3, 0] rfl
  obtain ⟨nF, h⟩ := h
  refine loop3 _ trivial ?_ nF (0 : Int32) _ hl h
  · intro i4 ls hl h
    refine lv_iconst (v := 1) hx hb dX4_knowsTogether_107 (by decide) ?_
    exact W.zret (v := (1 : Int32)) hx hb hr (by decide) (fun t ht _ => ⟨_, rfl, h, ht⟩) (fun _ hq => absurd hq List.not_mem_nil) dX4_knowsTogether_108
theorem dX4_few_0 : decode cX4_few 0 = .ok (.iconst (-1), 1) := by decide +kernel
theorem dX4_few_1 : decode cX4_few 1 = .ok (.istore_n 3, 1) := by decide +kernel
theorem dX4_few_2 : decode cX4_few 2 = .ok (.iconst 1, 1) := by decide +kernel
theorem dX4_few_3 : decode cX4_few 3 = .ok (.istore 4, 2) := by decide +kernel
theorem dX4_few_5 : decode cX4_few 5 = .ok (.iload 4, 2) := by decide +kernel
theorem dX4_few_7 : decode cX4_few 7 = .ok (.bipush 63, 2) := by decide +kernel
theorem dX4_few_9 : decode cX4_few 9 = .ok (.if_icmp .gt 39, 3) := by decide +kernel
theorem dX4_few_12 : decode cX4_few 12 = .ok (.iload_n 3, 1) := by decide +kernel
theorem dX4_few_13 : decode cX4_few 13 = .ok (.iconst (-1), 1) := by decide +kernel
theorem dX4_few_14 : decode cX4_few 14 = .ok (.if_icmp .eq 15, 3) := by decide +kernel
theorem dX4_few_17 : decode cX4_few 17 = .ok (.iload 4, 2) := by decide +kernel
theorem dX4_few_19 : decode cX4_few 19 = .ok (.invokestatic 190, 3) := by decide +kernel
theorem dX4_few_22 : decode cX4_few 22 = .ok (.iload_n 3, 1) := by decide +kernel
theorem dX4_few_23 : decode cX4_few 23 = .ok (.invokestatic 190, 3) := by decide +kernel
theorem dX4_few_26 : decode cX4_few 26 = .ok (.if_icmp .ge 16, 3) := by decide +kernel
theorem dX4_few_29 : decode cX4_few 29 = .ok (.aload_n 0, 1) := by decide +kernel
theorem dX4_few_30 : decode cX4_few 30 = .ok (.iload 4, 2) := by decide +kernel
theorem dX4_few_32 : decode cX4_few 32 = .ok (.lload_n 1, 1) := by decide +kernel
theorem dX4_few_33 : decode cX4_few 33 = .ok (.invokevirtual 192, 3) := by decide +kernel
theorem dX4_few_36 : decode cX4_few 36 = .ok (.ifCond .eq 6, 3) := by decide +kernel
theorem dX4_few_39 : decode cX4_few 39 = .ok (.iload 4, 2) := by decide +kernel
theorem dX4_few_41 : decode cX4_few 41 = .ok (.istore_n 3, 1) := by decide +kernel
theorem dX4_few_42 : decode cX4_few 42 = .ok (.iinc 4 1, 3) := by decide +kernel
theorem dX4_few_45 : decode cX4_few 45 = .ok (.goto (-40), 3) := by decide +kernel
theorem dX4_few_48 : decode cX4_few 48 = .ok (.iload_n 3, 1) := by decide +kernel
theorem dX4_few_49 : decode cX4_few 49 = .ok (.ireturn, 1) := by decide +kernel
def wX4_few_L5 (post : Int32 → Prop) (K48 : Int32 → Int32 → Prop) (mr : Int32) (po : Int64) (DD : Nat → Nat → Int32) (p1 : Int64) : Nat → Int32 → Int32 → Prop
  | 0, _, _ => False
  | n+1, i3, i4 =>
    (((63 : Int32) < i4) →
      K48 i3 i4
    ) ∧ (¬ ((63 : Int32) < i4) →
      ((i3 = (-1 : Int32)) →
        wX4_knowsTogether (fun r_1 : Int32 =>
          ((r_1 = 0) →
            wX4_few_L5 post K48 mr po DD p1 n i3 (i4 + 1)
          ) ∧ (¬ (r_1 = 0) →
            wX4_few_L5 post K48 mr po DD p1 n i4 (i4 + 1)
          )
          ) mr po DD i4 p1
      ) ∧ (¬ (i3 = (-1 : Int32)) →
        wX4_size (fun r_2 : Int32 =>
          wX4_size (fun r_3 : Int32 =>
            ((r_3 ≤ r_2) →
              wX4_few_L5 post K48 mr po DD p1 n i3 (i4 + 1)
            ) ∧ (¬ (r_3 ≤ r_2) →
              wX4_knowsTogether (fun r_4 : Int32 =>
                ((r_4 = 0) →
                  wX4_few_L5 post K48 mr po DD p1 n i3 (i4 + 1)
                ) ∧ (¬ (r_4 = 0) →
                  wX4_few_L5 post K48 mr po DD p1 n i4 (i4 + 1)
                )
                ) mr po DD i4 p1
            )
            ) i3
          ) i4
      )
    )
def wX4_few (post : Int32 → Prop) (mr : Int32) (po : Int64) (DD : Nat → Nat → Int32) (p1 : Int64) : Prop :=
  ∃ nF, wX4_few_L5 post
    (fun i3 i4 =>
      post i3
    )
    mr po DD p1 nF (-1 : Int32) (1 : Int32)
abbrev wl_X4_few : List Cond := .code yX4_few cX4_few 5 (some .int) :: lwg
abbrev rm_X4_few : Room := { frames := 2, cells := 0, slots := 0, locals := 48 }
set_option maxHeartbeats 4000000 in
set_option maxRecDepth 100000 in
theorem kX4_few {post : Int32 → Prop} (l : Launch) (G : GT) (m0 : Nat) (dO : Nat) (sl : Nat) (ct0 : Nat) (st0 : Nat) (fs0 : Nat) (jn0 : Nat) (rw0 : Nat) (fd0 : Nat) (af0 : Nat) (kO : Nat) (dr : Nat → Nat) (kr : Nat → Nat) (sa : Nat → Nat) (th : Int32) (mr : Int32) (po : Int64) (mf : Int32) (sp : Int32) (DD : Nat → Nat → Int32) (ctf : Nat → Int32) (stf : Nat → Int32) (fsf : Nat → Int32) (jnf : Nat → Int32) (rwf : Nat → Int32) (fdf : Nat → Int64) (aff : Nat → Int32) (KP : Nat → Nat → Int32) (sn : Nat) (sq : Nat → Nat → Int32) (p1 : Int64) (h : wX4_few post mr po DD p1) : Met l yX4_few wl_X4_few rm_X4_few (va_Pc [.ref m0, .long p1] (fun U => PP G [(m0, .inr (7, [.int th, .int mr, .long po, .ref dO, .ref sl, .ref ct0, .int mf, .int sp, .ref st0, .ref fs0, .ref jn0, .ref rw0, .ref fd0, .ref af0, .ref kO])), (dO, .inl (G.2 4, 6, .inr (.inr (.inr (.inr (fun k => if k < 6 then some (dr k) else none)))))), (dr 0, .inl (G.2 0, 64, .inl (DD 0))), (dr 1, .inl (G.2 0, 64, .inl (DD 1))), (dr 2, .inl (G.2 0, 64, .inl (DD 2))), (dr 3, .inl (G.2 0, 64, .inl (DD 3))), (dr 4, .inl (G.2 0, 64, .inl (DD 4))), (dr 5, .inl (G.2 0, 64, .inl (DD 5))), (ct0, .inl (G.2 0, 6, .inl ctf)), (st0, .inl (G.2 0, 4096, .inl stf)), (fs0, .inl (G.2 0, 4096, .inl fsf)), (jn0, .inl (G.2 0, 64, .inl jnf)), (rw0, .inl (G.2 0, 64, .inl rwf)), (fd0, .inl (G.2 1, 40, .inr (.inl fdf))), (af0, .inl (G.2 3, 40, .inl aff)), (kO, .inl (G.2 4, 4, .inr (.inr (.inr (.inr (fun k => if k < 4 then some (kr k) else none)))))), (kr 0, .inl (G.2 0, 64, .inl (KP 0))), (kr 1, .inl (G.2 0, 64, .inl (KP 1))), (kr 2, .inl (G.2 0, 64, .inl (KP 2))), (kr 3, .inl (G.2 0, 64, .inl (KP 3)))] U.heap ∧ KK G U)) (vp_Si post) 0 0 (fun _ => False) := by
  refine Met.ofW (cc := cX4_few) (maxL := 5) (ret := (some .int)) (by decide) rfl ?_
  intro p e s m args below meth c s₁ B hml hv
  obtain ⟨rfl, hP, hKK⟩ := hv
  obtain ⟨hK, hN, hR, hFW, hNC⟩ := id hKK
  have hx := B.exec
  have hb := B.bytes
  have hr := B.returns
  have hts0 := atoms_spec (ws := wl_X4_few) B.pre
  have hts : ∀ w ∈ lwg, w.before ([.ref m0, .long p1] : List Value).toArray s = true := fun w hw => hts0 w (List.mem_cons_of_mem _ hw)
  have hown : s.vm.findClass RX4 = some m.cls := findClass_of_methodNamed B.named
  have hlocks := B.notSynchronized
  have hP : PP G [(m0, .inr (7, [.int th, .int mr, .long po, .ref dO, .ref sl, .ref ct0, .int mf, .int sp, .ref st0, .ref fs0, .ref jn0, .ref rw0, .ref fd0, .ref af0, .ref kO])), (dO, .inl (G.2 4, 6, .inr (.inr (.inr (.inr (fun k => if k < 6 then some (dr k) else none)))))), (dr 0, .inl (G.2 0, 64, .inl (DD 0))), (dr 1, .inl (G.2 0, 64, .inl (DD 1))), (dr 2, .inl (G.2 0, 64, .inl (DD 2))), (dr 3, .inl (G.2 0, 64, .inl (DD 3))), (dr 4, .inl (G.2 0, 64, .inl (DD 4))), (dr 5, .inl (G.2 0, 64, .inl (DD 5))), (ct0, .inl (G.2 0, 6, .inl ctf)), (st0, .inl (G.2 0, 4096, .inl stf)), (fs0, .inl (G.2 0, 4096, .inl fsf)), (jn0, .inl (G.2 0, 64, .inl jnf)), (rw0, .inl (G.2 0, 64, .inl rwf)), (fd0, .inl (G.2 1, 40, .inr (.inl fdf))), (af0, .inl (G.2 3, 40, .inl aff)), (kO, .inl (G.2 4, 4, .inr (.inr (.inr (.inr (fun k => if k < 4 then some (kr k) else none)))))), (kr 0, .inl (G.2 0, 64, .inl (KP 0))), (kr 1, .inl (G.2 0, 64, .inl (KP 1))), (kr 2, .inl (G.2 0, 64, .inl (KP 2))), (kr 3, .inl (G.2 0, 64, .inl (KP 3)))] s.heap := hP
  have hl := lv_entry ([.ref m0, .long p1]) (n := 5) (Nat.le_of_ble_eq_true rfl)
  rw [lg_entry_eq]
  generalize (lg_sl ([.ref m0, .long p1]) ++ List.replicate (5 - (lg_sl ([.ref m0, .long p1])).length) Slot.unset).toArray = ls at hl ⊢
  have hl : lv_has ls 5 [(0, .ref m0), (1, .long p1)] := hl
  have loop5 : ∀ (K48 : Int32 → Int32 → Prop), True → (∀ (i3 : Int32) (i4 : Int32) (ls : Array Slot), lv_has ls 5 [(0, .ref m0), (1, .long p1), (3, .int i3), (4, .int i4)] → K48 i3 i4 → W p l e (headSpec (wl_X4_few) rm_X4_few).room s m ([.ref m0, .long p1] : List Value).toArray below meth c s.heap [] 0 0 (MQ below (vp_Si post) ([.ref m0, .long p1] : List Value).toArray s 0 0 (fun _ => False)) (F0 m 48 ls [])) → ∀ (n : Nat) (i3 : Int32) (i4 : Int32) (ls : Array Slot), lv_has ls 5 [(0, .ref m0), (1, .long p1), (3, .int i3), (4, .int i4)] → wX4_few_L5 post K48 mr po DD p1 n i3 i4 → W p l e (headSpec (wl_X4_few) rm_X4_few).room s m ([.ref m0, .long p1] : List Value).toArray below meth c s.heap [] 0 0 (MQ below (vp_Si post) ([.ref m0, .long p1] : List Value).toArray s 0 0 (fun _ => False)) (F0 m 5 ls []) := by
    intro K48 _ hexit48 n
    induction n with
    | zero => intro i3 i4 ls hl h; exact False.elim h
    | succ n ih =>
      intro i3 i4 ls hl h
      refine lv_iload hx hb dX4_few_5 (lv_at hl 3 rfl) ?_
      refine lv_bipush (v := 63) hx hb dX4_few_7 (by decide) ?_
      refine lv_icmp_gt (tgt := 48) hx hb dX4_few_9 (by decide) (fun hc => ?_) (fun hc => ?_)
      · have h := h.1 hc
        have hl := lv_sub (l' := [(0, .ref m0), (1, .long p1), (3, .int i3), (4, .int i4)]) hl [0, 1, 2, 3] rfl
        exact hexit48 _ _ ls hl h
      · have h := h.2 hc
        refine lv_iload_n hx hb dX4_few_12 rfl (lv_at hl 2 rfl) ?_
        refine lv_iconst (v := (-1)) hx hb dX4_few_13 (by decide) ?_
        refine lv_icmp_eq (tgt := 29) hx hb dX4_few_14 (by decide) (fun hc => ?_) (fun hc => ?_)
        · have h := h.1 hc
          refine lv_aload_n hx hb dX4_few_29 rfl (lv_at hl 0 rfl) ?_
          refine lv_iload hx hb dX4_few_30 (lv_at hl 3 rfl) ?_
          refine lv_lload_n hx hb dX4_few_32 rfl (lv_at hl 1 rfl) ?_
          have hPc := hP
          refine rdI (va_runV (C := RX4) (As := [.int i4, .long p1]) (rest := []) ⟨hx, hb, hml, hown, hts⟩ (kX4_knowsTogether l G m0 dO sl ct0 st0 fs0 jn0 rw0 fd0 af0 kO dr kr sa th mr po mf sp DD ctf stf fsf jnf rwf fdf aff KP sn sq i4 p1 h) (cwV 2 hts (gdV q1300 q1302 qs35 q6 q1303) rfl rfl rfl (by decide +kernel) ⟨Nat.le_of_ble_eq_true rfl, Nat.le_of_ble_eq_true rfl⟩) (preV hPc hKK (va_recv hK hPc (ci := 7) (q0 := 0) rfl rfl)) rfl rfl hl.1 rfl (lv_room (Nat.le_of_ble_eq_true rfl)) dX4_few_33 ⟨Nat.zero_le _, Nat.zero_le _⟩) (fun r_1 h => ?_)
          refine lv_if_eq (tgt := 42) hx hb dX4_few_36 (by decide) (fun hc => ?_) (fun hc => ?_)
          · have h := h.1 hc
            refine lv_iinc (v := (i4 + 1)) hx hb dX4_few_42 hl (k := 3) rfl (by rw [show Int32.ofInt 1 = 1 from by decide]) (Nat.le_of_ble_eq_true rfl) rfl (fun ls hl => ?_)
            have hl : lv_has ls 5 [(4, .int (i4 + 1)), (0, .ref m0), (1, .long p1), (3, .int i3)] := hl
            refine lv_goto (tgt := 5) hx hb dX4_few_45 (by decide) ?_
            have hl := lv_sub (l' := [(0, .ref m0), (1, .long p1), (3, .int i3), (4, .int (i4 + 1))]) hl [1, 2, 3, 0] rfl
            exact ih _ _ ls hl h
          · have h := h.2 hc
            refine lv_iload hx hb dX4_few_39 (lv_at hl 3 rfl) ?_
            refine lv_istore_n hx hb dX4_few_41 rfl hl (Nat.le_of_ble_eq_true rfl) rfl (fun ls hl => ?_)
            have hl : lv_has ls 5 [(3, .int i4), (0, .ref m0), (1, .long p1), (4, .int i4)] := hl
            refine lv_iinc (v := (i4 + 1)) hx hb dX4_few_42 hl (k := 3) rfl (by rw [show Int32.ofInt 1 = 1 from by decide]) (Nat.le_of_ble_eq_true rfl) rfl (fun ls hl => ?_)
            have hl : lv_has ls 5 [(4, .int (i4 + 1)), (3, .int i4), (0, .ref m0), (1, .long p1)] := hl
            refine lv_goto (tgt := 5) hx hb dX4_few_45 (by decide) ?_
            have hl := lv_sub (l' := [(0, .ref m0), (1, .long p1), (3, .int i4), (4, .int (i4 + 1))]) hl [2, 3, 1, 0] rfl
            exact ih _ _ ls hl h
        · have h := h.2 hc
          refine lv_iload hx hb dX4_few_17 (lv_at hl 3 rfl) ?_
          have hPc := va_P.sub (ws' := []) hP [] rfl
          refine rdI (va_runS (As := [.int i4]) (rest := []) ⟨hx, hb, hml, hown, hts⟩ (kX4_size l G i4 h) (va_cwS 1 hts (gdS q1293 q1294 q6 q1295) rfl rfl rfl (by decide +kernel) ⟨Nat.le_of_ble_eq_true rfl, Nat.le_of_ble_eq_true rfl⟩) (preS hPc hKK) rfl rfl hl.1 rfl (lv_room (Nat.le_of_ble_eq_true rfl)) dX4_few_19 ⟨Nat.zero_le _, Nat.zero_le _⟩) (fun r_2 h => ?_)
          refine lv_iload_n hx hb dX4_few_22 rfl (lv_at hl 2 rfl) ?_
          have hPc := va_P.sub (ws' := []) hP [] rfl
          refine rdI (va_runS (As := [.int i3]) (rest := [.int r_2]) ⟨hx, hb, hml, hown, hts⟩ (kX4_size l G i3 h) (va_cwS 1 hts (gdS q1293 q1294 q6 q1295) rfl rfl rfl (by decide +kernel) ⟨Nat.le_of_ble_eq_true rfl, Nat.le_of_ble_eq_true rfl⟩) (preS hPc hKK) rfl rfl hl.1 rfl (lv_room (Nat.le_of_ble_eq_true rfl)) dX4_few_23 ⟨Nat.zero_le _, Nat.zero_le _⟩) (fun r_3 h => ?_)
          refine lv_icmp_ge (tgt := 42) hx hb dX4_few_26 (by decide) (fun hc => ?_) (fun hc => ?_)
          · have h := h.1 hc
            refine lv_iinc (v := (i4 + 1)) hx hb dX4_few_42 hl (k := 3) rfl (by rw [show Int32.ofInt 1 = 1 from by decide]) (Nat.le_of_ble_eq_true rfl) rfl (fun ls hl => ?_)
            have hl : lv_has ls 5 [(4, .int (i4 + 1)), (0, .ref m0), (1, .long p1), (3, .int i3)] := hl
            refine lv_goto (tgt := 5) hx hb dX4_few_45 (by decide) ?_
            have hl := lv_sub (l' := [(0, .ref m0), (1, .long p1), (3, .int i3), (4, .int (i4 + 1))]) hl [1, 2, 3, 0] rfl
            exact ih _ _ ls hl h
          · have h := h.2 hc
            refine lv_aload_n hx hb dX4_few_29 rfl (lv_at hl 0 rfl) ?_
            refine lv_iload hx hb dX4_few_30 (lv_at hl 3 rfl) ?_
            refine lv_lload_n hx hb dX4_few_32 rfl (lv_at hl 1 rfl) ?_
            have hPc := hP
            refine rdI (va_runV (C := RX4) (As := [.int i4, .long p1]) (rest := []) ⟨hx, hb, hml, hown, hts⟩ (kX4_knowsTogether l G m0 dO sl ct0 st0 fs0 jn0 rw0 fd0 af0 kO dr kr sa th mr po mf sp DD ctf stf fsf jnf rwf fdf aff KP sn sq i4 p1 h) (cwV 2 hts (gdV q1300 q1302 qs35 q6 q1303) rfl rfl rfl (by decide +kernel) ⟨Nat.le_of_ble_eq_true rfl, Nat.le_of_ble_eq_true rfl⟩) (preV hPc hKK (va_recv hK hPc (ci := 7) (q0 := 0) rfl rfl)) rfl rfl hl.1 rfl (lv_room (Nat.le_of_ble_eq_true rfl)) dX4_few_33 ⟨Nat.zero_le _, Nat.zero_le _⟩) (fun r_4 h => ?_)
            refine lv_if_eq (tgt := 42) hx hb dX4_few_36 (by decide) (fun hc => ?_) (fun hc => ?_)
            · have h := h.1 hc
              refine lv_iinc (v := (i4 + 1)) hx hb dX4_few_42 hl (k := 3) rfl (by rw [show Int32.ofInt 1 = 1 from by decide]) (Nat.le_of_ble_eq_true rfl) rfl (fun ls hl => ?_)
              have hl : lv_has ls 5 [(4, .int (i4 + 1)), (0, .ref m0), (1, .long p1), (3, .int i3)] := hl
              refine lv_goto (tgt := 5) hx hb dX4_few_45 (by decide) ?_
              have hl := lv_sub (l' := [(0, .ref m0), (1, .long p1), (3, .int i3), (4, .int (i4 + 1))]) hl [1, 2, 3, 0] rfl
              exact ih _ _ ls hl h
            · have h := h.2 hc
              refine lv_iload hx hb dX4_few_39 (lv_at hl 3 rfl) ?_
              refine lv_istore_n hx hb dX4_few_41 rfl hl (Nat.le_of_ble_eq_true rfl) rfl (fun ls hl => ?_)
              have hl : lv_has ls 5 [(3, .int i4), (0, .ref m0), (1, .long p1), (4, .int i4)] := hl
              refine lv_iinc (v := (i4 + 1)) hx hb dX4_few_42 hl (k := 3) rfl (by rw [show Int32.ofInt 1 = 1 from by decide]) (Nat.le_of_ble_eq_true rfl) rfl (fun ls hl => ?_)
              have hl : lv_has ls 5 [(4, .int (i4 + 1)), (3, .int i4), (0, .ref m0), (1, .long p1)] := hl
              refine lv_goto (tgt := 5) hx hb dX4_few_45 (by decide) ?_
              have hl := lv_sub (l' := [(0, .ref m0), (1, .long p1), (3, .int i4), (4, .int (i4 + 1))]) hl [2, 3, 1, 0] rfl
              exact ih _ _ ls hl h
  refine lv_iconst (v := (-1)) hx hb dX4_few_0 (by decide) ?_
  refine lv_istore_n hx hb dX4_few_1 rfl hl (Nat.le_of_ble_eq_true rfl) rfl (fun ls hl => ?_)
  have hl : lv_has ls 5 [(3, .int (-1 : Int32)), (0, .ref m0), (1, .long p1)] := hl
  refine lv_iconst (v := 1) hx hb dX4_few_2 (by decide) ?_
  refine lv_istore hx hb dX4_few_3 hl (Nat.le_of_ble_eq_true rfl) rfl (fun ls hl => ?_)
  have hl : lv_has ls 5 [(4, .int (1 : Int32)), (3, .int (-1 : Int32)), (0, .ref m0), (1, .long p1)] := hl
  have hl := lv_sub (l' := [(0, .ref m0), (1, .long p1), (3, .int (-1 : Int32)), (4, .int (1 : Int32))]) hl [2, 3, 1, 0] rfl
  obtain ⟨nF, h⟩ := h
  refine loop5 _ trivial ?_ nF (-1 : Int32) (1 : Int32) _ hl h
  · intro i3 i4 ls hl h
    refine lv_iload_n hx hb dX4_few_48 rfl (lv_at hl 2 rfl) ?_
    exact W.iret (v := i3) hx hb hr (fun t ht _ => ⟨_, rfl, h, ht⟩) (fun _ hq => absurd hq List.not_mem_nil) dX4_few_49
theorem dX4_isFiner_0 : decode cX4_isFiner 0 = .ok (.iconst 0, 1) := by decide +kernel
theorem dX4_isFiner_1 : decode cX4_isFiner 1 = .ok (.istore_n 3, 1) := by decide +kernel
theorem dX4_isFiner_2 : decode cX4_isFiner 2 = .ok (.iload_n 3, 1) := by decide +kernel
theorem dX4_isFiner_3 : decode cX4_isFiner 3 = .ok (.bipush 64, 2) := by decide +kernel
theorem dX4_isFiner_5 : decode cX4_isFiner 5 = .ok (.if_icmp .ge 89, 3) := by decide +kernel
theorem dX4_isFiner_8 : decode cX4_isFiner 8 = .ok (.iconst 0, 1) := by decide +kernel
theorem dX4_isFiner_9 : decode cX4_isFiner 9 = .ok (.istore 4, 2) := by decide +kernel
theorem dX4_isFiner_11 : decode cX4_isFiner 11 = .ok (.iload 4, 2) := by decide +kernel
theorem dX4_isFiner_13 : decode cX4_isFiner 13 = .ok (.iload_n 3, 1) := by decide +kernel
theorem dX4_isFiner_14 : decode cX4_isFiner 14 = .ok (.if_icmp .ge 74, 3) := by decide +kernel
theorem dX4_isFiner_17 : decode cX4_isFiner 17 = .ok (.aload_n 0, 1) := by decide +kernel
theorem dX4_isFiner_18 : decode cX4_isFiner 18 = .ok (.getfield 9, 3) := by decide +kernel
theorem dX4_isFiner_21 : decode cX4_isFiner 21 = .ok (.iload_n 3, 1) := by decide +kernel
theorem dX4_isFiner_22 : decode cX4_isFiner 22 = .ok (.invokestatic 58, 3) := by decide +kernel
theorem dX4_isFiner_25 : decode cX4_isFiner 25 = .ok (.ifCond .eq 57, 3) := by decide +kernel
theorem dX4_isFiner_28 : decode cX4_isFiner 28 = .ok (.aload_n 0, 1) := by decide +kernel
theorem dX4_isFiner_29 : decode cX4_isFiner 29 = .ok (.getfield 9, 3) := by decide +kernel
theorem dX4_isFiner_32 : decode cX4_isFiner 32 = .ok (.iload 4, 2) := by decide +kernel
theorem dX4_isFiner_34 : decode cX4_isFiner 34 = .ok (.invokestatic 58, 3) := by decide +kernel
theorem dX4_isFiner_37 : decode cX4_isFiner 37 = .ok (.ifCond .eq 45, 3) := by decide +kernel
theorem dX4_isFiner_40 : decode cX4_isFiner 40 = .ok (.aload_n 0, 1) := by decide +kernel
theorem dX4_isFiner_41 : decode cX4_isFiner 41 = .ok (.getfield 17, 3) := by decide +kernel
theorem dX4_isFiner_44 : decode cX4_isFiner 44 = .ok (.iload_n 1, 1) := by decide +kernel
theorem dX4_isFiner_45 : decode cX4_isFiner 45 = .ok (.aaload, 1) := by decide +kernel
theorem dX4_isFiner_46 : decode cX4_isFiner 46 = .ok (.iload_n 3, 1) := by decide +kernel
theorem dX4_isFiner_47 : decode cX4_isFiner 47 = .ok (.iaload, 1) := by decide +kernel
theorem dX4_isFiner_48 : decode cX4_isFiner 48 = .ok (.aload_n 0, 1) := by decide +kernel
theorem dX4_isFiner_49 : decode cX4_isFiner 49 = .ok (.getfield 17, 3) := by decide +kernel
theorem dX4_isFiner_52 : decode cX4_isFiner 52 = .ok (.iload_n 1, 1) := by decide +kernel
theorem dX4_isFiner_53 : decode cX4_isFiner 53 = .ok (.aaload, 1) := by decide +kernel
theorem dX4_isFiner_54 : decode cX4_isFiner 54 = .ok (.iload 4, 2) := by decide +kernel
theorem dX4_isFiner_56 : decode cX4_isFiner 56 = .ok (.iaload, 1) := by decide +kernel
theorem dX4_isFiner_57 : decode cX4_isFiner 57 = .ok (.if_icmp .ne 25, 3) := by decide +kernel
theorem dX4_isFiner_60 : decode cX4_isFiner 60 = .ok (.aload_n 0, 1) := by decide +kernel
theorem dX4_isFiner_61 : decode cX4_isFiner 61 = .ok (.getfield 17, 3) := by decide +kernel
theorem dX4_isFiner_64 : decode cX4_isFiner 64 = .ok (.iload_n 2, 1) := by decide +kernel
theorem dX4_isFiner_65 : decode cX4_isFiner 65 = .ok (.aaload, 1) := by decide +kernel
theorem dX4_isFiner_66 : decode cX4_isFiner 66 = .ok (.iload_n 3, 1) := by decide +kernel
theorem dX4_isFiner_67 : decode cX4_isFiner 67 = .ok (.iaload, 1) := by decide +kernel
theorem dX4_isFiner_68 : decode cX4_isFiner 68 = .ok (.aload_n 0, 1) := by decide +kernel
theorem dX4_isFiner_69 : decode cX4_isFiner 69 = .ok (.getfield 17, 3) := by decide +kernel
theorem dX4_isFiner_72 : decode cX4_isFiner 72 = .ok (.iload_n 2, 1) := by decide +kernel
theorem dX4_isFiner_73 : decode cX4_isFiner 73 = .ok (.aaload, 1) := by decide +kernel
theorem dX4_isFiner_74 : decode cX4_isFiner 74 = .ok (.iload 4, 2) := by decide +kernel
theorem dX4_isFiner_76 : decode cX4_isFiner 76 = .ok (.iaload, 1) := by decide +kernel
theorem dX4_isFiner_77 : decode cX4_isFiner 77 = .ok (.if_icmp .eq 5, 3) := by decide +kernel
theorem dX4_isFiner_80 : decode cX4_isFiner 80 = .ok (.iconst 0, 1) := by decide +kernel
theorem dX4_isFiner_81 : decode cX4_isFiner 81 = .ok (.ireturn, 1) := by decide +kernel
theorem dX4_isFiner_82 : decode cX4_isFiner 82 = .ok (.iinc 4 1, 3) := by decide +kernel
theorem dX4_isFiner_85 : decode cX4_isFiner 85 = .ok (.goto (-74), 3) := by decide +kernel
theorem dX4_isFiner_88 : decode cX4_isFiner 88 = .ok (.iinc 3 1, 3) := by decide +kernel
theorem dX4_isFiner_91 : decode cX4_isFiner 91 = .ok (.goto (-89), 3) := by decide +kernel
theorem dX4_isFiner_94 : decode cX4_isFiner 94 = .ok (.iconst 1, 1) := by decide +kernel
theorem dX4_isFiner_95 : decode cX4_isFiner 95 = .ok (.ireturn, 1) := by decide +kernel
def wX4_isFiner_L11 (post : Int32 → Prop) (K88 : Int32 → Prop) (po : Int64) (DD : Nat → Nat → Int32) (p1 : Int32) (p2 : Int32) (i3 : Int32) : Nat → Int32 → Prop
  | 0, _ => False
  | n+1, i4 =>
    ((i3 ≤ i4) →
      K88 i4
    ) ∧ (¬ (i3 ≤ i4) →
      wX4_has_ (fun r_1 : Int32 =>
        ((r_1 = 0) →
          wX4_isFiner_L11 post K88 po DD p1 p2 i3 n (i4 + 1)
        ) ∧ (¬ (r_1 = 0) →
          wX4_has_ (fun r_2 : Int32 =>
            ((r_2 = 0) →
              wX4_isFiner_L11 post K88 po DD p1 p2 i3 n (i4 + 1)
            ) ∧ (¬ (r_2 = 0) →
              vp_in p1 6 ∧
              vp_in i3 64 ∧
              vp_in p1 6 ∧
              vp_in i4 64 ∧
              ((¬ (DD (p1.toNatClampNeg) i3.toNatClampNeg) = (DD (p1.toNatClampNeg) i4.toNatClampNeg)) →
                wX4_isFiner_L11 post K88 po DD p1 p2 i3 n (i4 + 1)
              ) ∧ (((DD (p1.toNatClampNeg) i3.toNatClampNeg) = (DD (p1.toNatClampNeg) i4.toNatClampNeg)) →
                vp_in p2 6 ∧
                vp_in i3 64 ∧
                vp_in p2 6 ∧
                vp_in i4 64 ∧
                (((DD (p2.toNatClampNeg) i3.toNatClampNeg) = (DD (p2.toNatClampNeg) i4.toNatClampNeg)) →
                  wX4_isFiner_L11 post K88 po DD p1 p2 i3 n (i4 + 1)
                ) ∧ (¬ ((DD (p2.toNatClampNeg) i3.toNatClampNeg) = (DD (p2.toNatClampNeg) i4.toNatClampNeg)) →
                  post (0 : Int32)
                )
              )
            )
            ) po i4
        )
        ) po i3
    )
def wX4_isFiner_L2 (post : Int32 → Prop) (K94 : Int32 → Prop) (po : Int64) (DD : Nat → Nat → Int32) (p1 : Int32) (p2 : Int32) : Nat → Int32 → Prop
  | 0, _ => False
  | n+1, i3 =>
    (((64 : Int32) ≤ i3) →
      K94 i3
    ) ∧ (¬ ((64 : Int32) ≤ i3) →
      ∃ nF, wX4_isFiner_L11 post
        (fun i4 =>
          wX4_isFiner_L2 post K94 po DD p1 p2 n (i3 + 1)
        )
        po DD p1 p2 i3 nF (0 : Int32)
    )
def wX4_isFiner (post : Int32 → Prop) (po : Int64) (DD : Nat → Nat → Int32) (p1 : Int32) (p2 : Int32) : Prop :=
  ∃ nF, wX4_isFiner_L2 post
    (fun i3 =>
      post (1 : Int32)
    )
    po DD p1 p2 nF (0 : Int32)
abbrev wl_X4_isFiner : List Cond := .code yX4_isFiner cX4_isFiner 5 (some .boolean) :: lwg
abbrev rm_X4_isFiner : Room := { frames := 1, cells := 0, slots := 0, locals := 22 }
set_option maxHeartbeats 4000000 in
set_option maxRecDepth 100000 in
theorem kX4_isFiner {post : Int32 → Prop} (l : Launch) (G : GT) (m0 : Nat) (dO : Nat) (sl : Nat) (ct0 : Nat) (st0 : Nat) (fs0 : Nat) (jn0 : Nat) (rw0 : Nat) (fd0 : Nat) (af0 : Nat) (kO : Nat) (dr : Nat → Nat) (kr : Nat → Nat) (sa : Nat → Nat) (th : Int32) (mr : Int32) (po : Int64) (mf : Int32) (sp : Int32) (DD : Nat → Nat → Int32) (ctf : Nat → Int32) (stf : Nat → Int32) (fsf : Nat → Int32) (jnf : Nat → Int32) (rwf : Nat → Int32) (fdf : Nat → Int64) (aff : Nat → Int32) (KP : Nat → Nat → Int32) (sn : Nat) (sq : Nat → Nat → Int32) (p1 : Int32) (p2 : Int32) (h : wX4_isFiner post po DD p1 p2) : Met l yX4_isFiner wl_X4_isFiner rm_X4_isFiner (va_Pc [.ref m0, .int p1, .int p2] (fun U => PP G [(m0, .inr (7, [.int th, .int mr, .long po, .ref dO, .ref sl, .ref ct0, .int mf, .int sp, .ref st0, .ref fs0, .ref jn0, .ref rw0, .ref fd0, .ref af0, .ref kO])), (dO, .inl (G.2 4, 6, .inr (.inr (.inr (.inr (fun k => if k < 6 then some (dr k) else none)))))), (dr 0, .inl (G.2 0, 64, .inl (DD 0))), (dr 1, .inl (G.2 0, 64, .inl (DD 1))), (dr 2, .inl (G.2 0, 64, .inl (DD 2))), (dr 3, .inl (G.2 0, 64, .inl (DD 3))), (dr 4, .inl (G.2 0, 64, .inl (DD 4))), (dr 5, .inl (G.2 0, 64, .inl (DD 5))), (ct0, .inl (G.2 0, 6, .inl ctf)), (st0, .inl (G.2 0, 4096, .inl stf)), (fs0, .inl (G.2 0, 4096, .inl fsf)), (jn0, .inl (G.2 0, 64, .inl jnf)), (rw0, .inl (G.2 0, 64, .inl rwf)), (fd0, .inl (G.2 1, 40, .inr (.inl fdf))), (af0, .inl (G.2 3, 40, .inl aff)), (kO, .inl (G.2 4, 4, .inr (.inr (.inr (.inr (fun k => if k < 4 then some (kr k) else none)))))), (kr 0, .inl (G.2 0, 64, .inl (KP 0))), (kr 1, .inl (G.2 0, 64, .inl (KP 1))), (kr 2, .inl (G.2 0, 64, .inl (KP 2))), (kr 3, .inl (G.2 0, 64, .inl (KP 3)))] U.heap ∧ KK G U)) (vp_Si post) 0 0 (fun _ => False) := by
  refine Met.ofW (cc := cX4_isFiner) (maxL := 5) (ret := (some .boolean)) (by decide) rfl ?_
  intro p e s m args below meth c s₁ B hml hv
  obtain ⟨rfl, hP, hKK⟩ := hv
  obtain ⟨hK, hN, hR, hFW, hNC⟩ := id hKK
  have hx := B.exec
  have hb := B.bytes
  have hr := B.returns
  have hts0 := atoms_spec (ws := wl_X4_isFiner) B.pre
  have hts : ∀ w ∈ lwg, w.before ([.ref m0, .int p1, .int p2] : List Value).toArray s = true := fun w hw => hts0 w (List.mem_cons_of_mem _ hw)
  have hown : s.vm.findClass RX4 = some m.cls := findClass_of_methodNamed B.named
  have hlocks := B.notSynchronized
  have hP : PP G [(m0, .inr (7, [.int th, .int mr, .long po, .ref dO, .ref sl, .ref ct0, .int mf, .int sp, .ref st0, .ref fs0, .ref jn0, .ref rw0, .ref fd0, .ref af0, .ref kO])), (dO, .inl (G.2 4, 6, .inr (.inr (.inr (.inr (fun k => if k < 6 then some (dr k) else none)))))), (dr 0, .inl (G.2 0, 64, .inl (DD 0))), (dr 1, .inl (G.2 0, 64, .inl (DD 1))), (dr 2, .inl (G.2 0, 64, .inl (DD 2))), (dr 3, .inl (G.2 0, 64, .inl (DD 3))), (dr 4, .inl (G.2 0, 64, .inl (DD 4))), (dr 5, .inl (G.2 0, 64, .inl (DD 5))), (ct0, .inl (G.2 0, 6, .inl ctf)), (st0, .inl (G.2 0, 4096, .inl stf)), (fs0, .inl (G.2 0, 4096, .inl fsf)), (jn0, .inl (G.2 0, 64, .inl jnf)), (rw0, .inl (G.2 0, 64, .inl rwf)), (fd0, .inl (G.2 1, 40, .inr (.inl fdf))), (af0, .inl (G.2 3, 40, .inl aff)), (kO, .inl (G.2 4, 4, .inr (.inr (.inr (.inr (fun k => if k < 4 then some (kr k) else none)))))), (kr 0, .inl (G.2 0, 64, .inl (KP 0))), (kr 1, .inl (G.2 0, 64, .inl (KP 1))), (kr 2, .inl (G.2 0, 64, .inl (KP 2))), (kr 3, .inl (G.2 0, 64, .inl (KP 3)))] s.heap := hP
  have hl := lv_entry ([.ref m0, .int p1, .int p2]) (n := 5) (Nat.le_of_ble_eq_true rfl)
  rw [lg_entry_eq]
  generalize (lg_sl ([.ref m0, .int p1, .int p2]) ++ List.replicate (5 - (lg_sl ([.ref m0, .int p1, .int p2])).length) Slot.unset).toArray = ls at hl ⊢
  have hl : lv_has ls 5 [(0, .ref m0), (1, .int p1), (2, .int p2)] := hl
  have loop11 : ∀ (K88 : Int32 → Prop) (i3 : Int32), True → (∀ (i4 : Int32) (ls : Array Slot), lv_has ls 5 [(0, .ref m0), (1, .int p1), (2, .int p2), (3, .int i3), (4, .int i4)] → K88 i4 → W p l e (headSpec (wl_X4_isFiner) rm_X4_isFiner).room s m ([.ref m0, .int p1, .int p2] : List Value).toArray below meth c s.heap [] 0 0 (MQ below (vp_Si post) ([.ref m0, .int p1, .int p2] : List Value).toArray s 0 0 (fun _ => False)) (F0 m 88 ls [])) → ∀ (n : Nat) (i4 : Int32) (ls : Array Slot), lv_has ls 5 [(0, .ref m0), (1, .int p1), (2, .int p2), (3, .int i3), (4, .int i4)] → wX4_isFiner_L11 post K88 po DD p1 p2 i3 n i4 → W p l e (headSpec (wl_X4_isFiner) rm_X4_isFiner).room s m ([.ref m0, .int p1, .int p2] : List Value).toArray below meth c s.heap [] 0 0 (MQ below (vp_Si post) ([.ref m0, .int p1, .int p2] : List Value).toArray s 0 0 (fun _ => False)) (F0 m 11 ls []) := by
    intro K88 i3 _ hexit88 n
    induction n with
    | zero => intro i4 ls hl h; exact False.elim h
    | succ n ih =>
      intro i4 ls hl h
      refine lv_iload hx hb dX4_isFiner_11 (lv_at hl 4 rfl) ?_
      refine lv_iload_n hx hb dX4_isFiner_13 rfl (lv_at hl 3 rfl) ?_
      refine lv_icmp_ge (tgt := 88) hx hb dX4_isFiner_14 (by decide) (fun hc => ?_) (fun hc => ?_)
      · have h := h.1 hc
        have hl := lv_sub (l' := [(0, .ref m0), (1, .int p1), (2, .int p2), (3, .int i3), (4, .int i4)]) hl [0, 1, 2, 3, 4] rfl
        exact hexit88 _ ls hl h
      · have h := h.2 hc
        refine lv_aload_n hx hb dX4_isFiner_17 rfl (lv_at hl 0 rfl) ?_
        refine va_get (D := G.1) (ci := 7) (v := .long po) (C := RX4) (T := TX4) (N := 15) hx hb hts igX4 hown hK hP 0 rfl rfl 2 (by decide) (hts _ q1007) (fun _ h9 => h9) rfl dX4_isFiner_18 ?_
        refine lv_iload_n hx hb dX4_isFiner_21 rfl (lv_at hl 3 rfl) ?_
        have hPc := va_P.sub (ws' := []) hP [] rfl
        refine rdI (va_runS (As := [.long po, .int i3]) (rest := []) ⟨hx, hb, hml, hown, hts⟩ (kX4_has_ l G po i3 h) (va_cwS 2 hts (gdS q1122 q1123 q6 q1124) rfl rfl rfl (by decide +kernel) ⟨Nat.le_of_ble_eq_true rfl, Nat.le_of_ble_eq_true rfl⟩) (preS hPc hKK) rfl rfl hl.1 rfl (lv_room (Nat.le_of_ble_eq_true rfl)) dX4_isFiner_22 ⟨Nat.zero_le _, Nat.zero_le _⟩) (fun r_1 h => ?_)
        refine lv_if_eq (tgt := 82) hx hb dX4_isFiner_25 (by decide) (fun hc => ?_) (fun hc => ?_)
        · have h := h.1 hc
          refine lv_iinc (v := (i4 + 1)) hx hb dX4_isFiner_82 hl (k := 4) rfl (by rw [show Int32.ofInt 1 = 1 from by decide]) (Nat.le_of_ble_eq_true rfl) rfl (fun ls hl => ?_)
          have hl : lv_has ls 5 [(4, .int (i4 + 1)), (0, .ref m0), (1, .int p1), (2, .int p2), (3, .int i3)] := hl
          refine lv_goto (tgt := 11) hx hb dX4_isFiner_85 (by decide) ?_
          have hl := lv_sub (l' := [(0, .ref m0), (1, .int p1), (2, .int p2), (3, .int i3), (4, .int (i4 + 1))]) hl [1, 2, 3, 4, 0] rfl
          exact ih _ ls hl h
        · have h := h.2 hc
          refine lv_aload_n hx hb dX4_isFiner_28 rfl (lv_at hl 0 rfl) ?_
          refine va_get (D := G.1) (ci := 7) (v := .long po) (C := RX4) (T := TX4) (N := 15) hx hb hts igX4 hown hK hP 0 rfl rfl 2 (by decide) (hts _ q1007) (fun _ h9 => h9) rfl dX4_isFiner_29 ?_
          refine lv_iload hx hb dX4_isFiner_32 (lv_at hl 4 rfl) ?_
          have hPc := va_P.sub (ws' := []) hP [] rfl
          refine rdI (va_runS (As := [.long po, .int i4]) (rest := []) ⟨hx, hb, hml, hown, hts⟩ (kX4_has_ l G po i4 h) (va_cwS 2 hts (gdS q1122 q1123 q6 q1124) rfl rfl rfl (by decide +kernel) ⟨Nat.le_of_ble_eq_true rfl, Nat.le_of_ble_eq_true rfl⟩) (preS hPc hKK) rfl rfl hl.1 rfl (lv_room (Nat.le_of_ble_eq_true rfl)) dX4_isFiner_34 ⟨Nat.zero_le _, Nat.zero_le _⟩) (fun r_2 h => ?_)
          refine lv_if_eq (tgt := 82) hx hb dX4_isFiner_37 (by decide) (fun hc => ?_) (fun hc => ?_)
          · have h := h.1 hc
            refine lv_iinc (v := (i4 + 1)) hx hb dX4_isFiner_82 hl (k := 4) rfl (by rw [show Int32.ofInt 1 = 1 from by decide]) (Nat.le_of_ble_eq_true rfl) rfl (fun ls hl => ?_)
            have hl : lv_has ls 5 [(4, .int (i4 + 1)), (0, .ref m0), (1, .int p1), (2, .int p2), (3, .int i3)] := hl
            refine lv_goto (tgt := 11) hx hb dX4_isFiner_85 (by decide) ?_
            have hl := lv_sub (l' := [(0, .ref m0), (1, .int p1), (2, .int p2), (3, .int i3), (4, .int (i4 + 1))]) hl [1, 2, 3, 4, 0] rfl
            exact ih _ ls hl h
          · have h := h.2 hc
            refine lv_aload_n hx hb dX4_isFiner_40 rfl (lv_at hl 0 rfl) ?_
            refine va_get (D := G.1) (ci := 7) (v := .ref dO) (C := RX4) (T := TX4) (N := 15) hx hb hts igX4 hown hK hP 0 rfl rfl 3 (by decide) (hts _ q1008) (fun _ h9 => h9) rfl dX4_isFiner_41 ?_
            refine lv_iload_n hx hb dX4_isFiner_44 rfl (lv_at hl 1 rfl) ?_
            obtain ⟨hin, h⟩ := h
            have hf_1 : p1.toNatClampNeg < 6 := vpLt hin
            refine va_aldA (b := dr (p1.toNatClampNeg)) hx hb hK hP 1 4 rfl rfl hin (if_pos hf_1) dX4_isFiner_45 ?_
            refine lv_iload_n hx hb dX4_isFiner_46 rfl (lv_at hl 3 rfl) ?_
            obtain ⟨hin, h⟩ := h
            refine va_iald (D := G.1) (f := DD (p1.toNatClampNeg)) hx hb hK hP (2 + (p1.toNatClampNeg)) 0 (famget6 (pre := [(m0, .inr (7, [.int th, .int mr, .long po, .ref dO, .ref sl, .ref ct0, .int mf, .int sp, .ref st0, .ref fs0, .ref jn0, .ref rw0, .ref fd0, .ref af0, .ref kO])), (dO, .inl (G.2 4, 6, .inr (.inr (.inr (.inr (fun k => if k < 6 then some (dr k) else none))))))]) (post := [(ct0, .inl (G.2 0, 6, .inl ctf)), (st0, .inl (G.2 0, 4096, .inl stf)), (fs0, .inl (G.2 0, 4096, .inl fsf)), (jn0, .inl (G.2 0, 64, .inl jnf)), (rw0, .inl (G.2 0, 64, .inl rwf)), (fd0, .inl (G.2 1, 40, .inr (.inl fdf))), (af0, .inl (G.2 3, 40, .inl aff)), (kO, .inl (G.2 4, 4, .inr (.inr (.inr (.inr (fun k => if k < 4 then some (kr k) else none)))))), (kr 0, .inl (G.2 0, 64, .inl (KP 0))), (kr 1, .inl (G.2 0, 64, .inl (KP 1))), (kr 2, .inl (G.2 0, 64, .inl (KP 2))), (kr 3, .inl (G.2 0, 64, .inl (KP 3)))]) (fun j => (dr j, .inl (G.2 0, 64, .inl (DD j)))) hf_1) rfl hin dX4_isFiner_47 ?_
            refine lv_aload_n hx hb dX4_isFiner_48 rfl (lv_at hl 0 rfl) ?_
            refine va_get (D := G.1) (ci := 7) (v := .ref dO) (C := RX4) (T := TX4) (N := 15) hx hb hts igX4 hown hK hP 0 rfl rfl 3 (by decide) (hts _ q1008) (fun _ h9 => h9) rfl dX4_isFiner_49 ?_
            refine lv_iload_n hx hb dX4_isFiner_52 rfl (lv_at hl 1 rfl) ?_
            obtain ⟨hin, h⟩ := h
            have hf_2 : p1.toNatClampNeg < 6 := vpLt hin
            refine va_aldA (b := dr (p1.toNatClampNeg)) hx hb hK hP 1 4 rfl rfl hin (if_pos hf_1) dX4_isFiner_53 ?_
            refine lv_iload hx hb dX4_isFiner_54 (lv_at hl 4 rfl) ?_
            obtain ⟨hin, h⟩ := h
            refine va_iald (D := G.1) (f := DD (p1.toNatClampNeg)) hx hb hK hP (2 + (p1.toNatClampNeg)) 0 (famget6 (pre := [(m0, .inr (7, [.int th, .int mr, .long po, .ref dO, .ref sl, .ref ct0, .int mf, .int sp, .ref st0, .ref fs0, .ref jn0, .ref rw0, .ref fd0, .ref af0, .ref kO])), (dO, .inl (G.2 4, 6, .inr (.inr (.inr (.inr (fun k => if k < 6 then some (dr k) else none))))))]) (post := [(ct0, .inl (G.2 0, 6, .inl ctf)), (st0, .inl (G.2 0, 4096, .inl stf)), (fs0, .inl (G.2 0, 4096, .inl fsf)), (jn0, .inl (G.2 0, 64, .inl jnf)), (rw0, .inl (G.2 0, 64, .inl rwf)), (fd0, .inl (G.2 1, 40, .inr (.inl fdf))), (af0, .inl (G.2 3, 40, .inl aff)), (kO, .inl (G.2 4, 4, .inr (.inr (.inr (.inr (fun k => if k < 4 then some (kr k) else none)))))), (kr 0, .inl (G.2 0, 64, .inl (KP 0))), (kr 1, .inl (G.2 0, 64, .inl (KP 1))), (kr 2, .inl (G.2 0, 64, .inl (KP 2))), (kr 3, .inl (G.2 0, 64, .inl (KP 3)))]) (fun j => (dr j, .inl (G.2 0, 64, .inl (DD j)))) hf_1) rfl hin dX4_isFiner_56 ?_
            refine lv_icmp_ne (tgt := 82) hx hb dX4_isFiner_57 (by decide) (fun hc => ?_) (fun hc => ?_)
            · have h := h.1 hc
              refine lv_iinc (v := (i4 + 1)) hx hb dX4_isFiner_82 hl (k := 4) rfl (by rw [show Int32.ofInt 1 = 1 from by decide]) (Nat.le_of_ble_eq_true rfl) rfl (fun ls hl => ?_)
              have hl : lv_has ls 5 [(4, .int (i4 + 1)), (0, .ref m0), (1, .int p1), (2, .int p2), (3, .int i3)] := hl
              refine lv_goto (tgt := 11) hx hb dX4_isFiner_85 (by decide) ?_
              have hl := lv_sub (l' := [(0, .ref m0), (1, .int p1), (2, .int p2), (3, .int i3), (4, .int (i4 + 1))]) hl [1, 2, 3, 4, 0] rfl
              exact ih _ ls hl h
            · have h := h.2 hc
              refine lv_aload_n hx hb dX4_isFiner_60 rfl (lv_at hl 0 rfl) ?_
              refine va_get (D := G.1) (ci := 7) (v := .ref dO) (C := RX4) (T := TX4) (N := 15) hx hb hts igX4 hown hK hP 0 rfl rfl 3 (by decide) (hts _ q1008) (fun _ h9 => h9) rfl dX4_isFiner_61 ?_
              refine lv_iload_n hx hb dX4_isFiner_64 rfl (lv_at hl 2 rfl) ?_
              obtain ⟨hin, h⟩ := h
              have hf_3 : p2.toNatClampNeg < 6 := vpLt hin
              refine va_aldA (b := dr (p2.toNatClampNeg)) hx hb hK hP 1 4 rfl rfl hin (if_pos hf_3) dX4_isFiner_65 ?_
              refine lv_iload_n hx hb dX4_isFiner_66 rfl (lv_at hl 3 rfl) ?_
              obtain ⟨hin, h⟩ := h
              refine va_iald (D := G.1) (f := DD (p2.toNatClampNeg)) hx hb hK hP (2 + (p2.toNatClampNeg)) 0 (famget6 (pre := [(m0, .inr (7, [.int th, .int mr, .long po, .ref dO, .ref sl, .ref ct0, .int mf, .int sp, .ref st0, .ref fs0, .ref jn0, .ref rw0, .ref fd0, .ref af0, .ref kO])), (dO, .inl (G.2 4, 6, .inr (.inr (.inr (.inr (fun k => if k < 6 then some (dr k) else none))))))]) (post := [(ct0, .inl (G.2 0, 6, .inl ctf)), (st0, .inl (G.2 0, 4096, .inl stf)), (fs0, .inl (G.2 0, 4096, .inl fsf)), (jn0, .inl (G.2 0, 64, .inl jnf)), (rw0, .inl (G.2 0, 64, .inl rwf)), (fd0, .inl (G.2 1, 40, .inr (.inl fdf))), (af0, .inl (G.2 3, 40, .inl aff)), (kO, .inl (G.2 4, 4, .inr (.inr (.inr (.inr (fun k => if k < 4 then some (kr k) else none)))))), (kr 0, .inl (G.2 0, 64, .inl (KP 0))), (kr 1, .inl (G.2 0, 64, .inl (KP 1))), (kr 2, .inl (G.2 0, 64, .inl (KP 2))), (kr 3, .inl (G.2 0, 64, .inl (KP 3)))]) (fun j => (dr j, .inl (G.2 0, 64, .inl (DD j)))) hf_3) rfl hin dX4_isFiner_67 ?_
              refine lv_aload_n hx hb dX4_isFiner_68 rfl (lv_at hl 0 rfl) ?_
              refine va_get (D := G.1) (ci := 7) (v := .ref dO) (C := RX4) (T := TX4) (N := 15) hx hb hts igX4 hown hK hP 0 rfl rfl 3 (by decide) (hts _ q1008) (fun _ h9 => h9) rfl dX4_isFiner_69 ?_
              refine lv_iload_n hx hb dX4_isFiner_72 rfl (lv_at hl 2 rfl) ?_
              obtain ⟨hin, h⟩ := h
              have hf_4 : p2.toNatClampNeg < 6 := vpLt hin
              refine va_aldA (b := dr (p2.toNatClampNeg)) hx hb hK hP 1 4 rfl rfl hin (if_pos hf_3) dX4_isFiner_73 ?_
              refine lv_iload hx hb dX4_isFiner_74 (lv_at hl 4 rfl) ?_
              obtain ⟨hin, h⟩ := h
              refine va_iald (D := G.1) (f := DD (p2.toNatClampNeg)) hx hb hK hP (2 + (p2.toNatClampNeg)) 0 (famget6 (pre := [(m0, .inr (7, [.int th, .int mr, .long po, .ref dO, .ref sl, .ref ct0, .int mf, .int sp, .ref st0, .ref fs0, .ref jn0, .ref rw0, .ref fd0, .ref af0, .ref kO])), (dO, .inl (G.2 4, 6, .inr (.inr (.inr (.inr (fun k => if k < 6 then some (dr k) else none))))))]) (post := [(ct0, .inl (G.2 0, 6, .inl ctf)), (st0, .inl (G.2 0, 4096, .inl stf)), (fs0, .inl (G.2 0, 4096, .inl fsf)), (jn0, .inl (G.2 0, 64, .inl jnf)), (rw0, .inl (G.2 0, 64, .inl rwf)), (fd0, .inl (G.2 1, 40, .inr (.inl fdf))), (af0, .inl (G.2 3, 40, .inl aff)), (kO, .inl (G.2 4, 4, .inr (.inr (.inr (.inr (fun k => if k < 4 then some (kr k) else none)))))), (kr 0, .inl (G.2 0, 64, .inl (KP 0))), (kr 1, .inl (G.2 0, 64, .inl (KP 1))), (kr 2, .inl (G.2 0, 64, .inl (KP 2))), (kr 3, .inl (G.2 0, 64, .inl (KP 3)))]) (fun j => (dr j, .inl (G.2 0, 64, .inl (DD j)))) hf_3) rfl hin dX4_isFiner_76 ?_
              refine lv_icmp_eq (tgt := 82) hx hb dX4_isFiner_77 (by decide) (fun hc => ?_) (fun hc => ?_)
              · have h := h.1 hc
                refine lv_iinc (v := (i4 + 1)) hx hb dX4_isFiner_82 hl (k := 4) rfl (by rw [show Int32.ofInt 1 = 1 from by decide]) (Nat.le_of_ble_eq_true rfl) rfl (fun ls hl => ?_)
                have hl : lv_has ls 5 [(4, .int (i4 + 1)), (0, .ref m0), (1, .int p1), (2, .int p2), (3, .int i3)] := hl
                refine lv_goto (tgt := 11) hx hb dX4_isFiner_85 (by decide) ?_
                have hl := lv_sub (l' := [(0, .ref m0), (1, .int p1), (2, .int p2), (3, .int i3), (4, .int (i4 + 1))]) hl [1, 2, 3, 4, 0] rfl
                exact ih _ ls hl h
              · have h := h.2 hc
                refine lv_iconst (v := 0) hx hb dX4_isFiner_80 (by decide) ?_
                exact W.zret (v := (0 : Int32)) hx hb hr (by decide) (fun t ht _ => ⟨_, rfl, h, ht⟩) (fun _ hq => absurd hq List.not_mem_nil) dX4_isFiner_81
  have loop2 : ∀ (K94 : Int32 → Prop), True → (∀ (i3 : Int32) (ls : Array Slot), lv_has ls 5 [(0, .ref m0), (1, .int p1), (2, .int p2), (3, .int i3)] → K94 i3 → W p l e (headSpec (wl_X4_isFiner) rm_X4_isFiner).room s m ([.ref m0, .int p1, .int p2] : List Value).toArray below meth c s.heap [] 0 0 (MQ below (vp_Si post) ([.ref m0, .int p1, .int p2] : List Value).toArray s 0 0 (fun _ => False)) (F0 m 94 ls [])) → ∀ (n : Nat) (i3 : Int32) (ls : Array Slot), lv_has ls 5 [(0, .ref m0), (1, .int p1), (2, .int p2), (3, .int i3)] → wX4_isFiner_L2 post K94 po DD p1 p2 n i3 → W p l e (headSpec (wl_X4_isFiner) rm_X4_isFiner).room s m ([.ref m0, .int p1, .int p2] : List Value).toArray below meth c s.heap [] 0 0 (MQ below (vp_Si post) ([.ref m0, .int p1, .int p2] : List Value).toArray s 0 0 (fun _ => False)) (F0 m 2 ls []) := by
    intro K94 _ hexit94 n
    induction n with
    | zero => intro i3 ls hl h; exact False.elim h
    | succ n ih =>
      intro i3 ls hl h
      refine lv_iload_n hx hb dX4_isFiner_2 rfl (lv_at hl 3 rfl) ?_
      refine lv_bipush (v := 64) hx hb dX4_isFiner_3 (by decide) ?_
      refine lv_icmp_ge (tgt := 94) hx hb dX4_isFiner_5 (by decide) (fun hc => ?_) (fun hc => ?_)
      · have h := h.1 hc
        have hl := lv_sub (l' := [(0, .ref m0), (1, .int p1), (2, .int p2), (3, .int i3)]) hl [0, 1, 2, 3] rfl
        exact hexit94 _ ls hl h
      · have h := h.2 hc
        refine lv_iconst (v := 0) hx hb dX4_isFiner_8 (by decide) ?_
        refine lv_istore hx hb dX4_isFiner_9 hl (Nat.le_of_ble_eq_true rfl) rfl (fun ls hl => ?_)
        have hl : lv_has ls 5 [(4, .int (0 : Int32)), (0, .ref m0), (1, .int p1), (2, .int p2), (3, .int i3)] := hl
        have hl := lv_sub (l' := [(0, .ref m0), (1, .int p1), (2, .int p2), (3, .int i3), (4, .int (0 : Int32))]) hl [1, 2, 3, 4, 0] rfl
        obtain ⟨nF, h⟩ := h
        refine loop11 _ i3 trivial ?_ nF (0 : Int32) _ hl h
        · intro i4 ls hl h
          refine lv_iinc (v := (i3 + 1)) hx hb dX4_isFiner_88 hl (k := 3) rfl (by rw [show Int32.ofInt 1 = 1 from by decide]) (Nat.le_of_ble_eq_true rfl) rfl (fun ls hl => ?_)
          have hl : lv_has ls 5 [(3, .int (i3 + 1)), (0, .ref m0), (1, .int p1), (2, .int p2), (4, .int i4)] := hl
          refine lv_goto (tgt := 2) hx hb dX4_isFiner_91 (by decide) ?_
          have hl := lv_sub (l' := [(0, .ref m0), (1, .int p1), (2, .int p2), (3, .int (i3 + 1))]) hl [1, 2, 3, 0] rfl
          exact ih _ ls hl h
  refine lv_iconst (v := 0) hx hb dX4_isFiner_0 (by decide) ?_
  refine lv_istore_n hx hb dX4_isFiner_1 rfl hl (Nat.le_of_ble_eq_true rfl) rfl (fun ls hl => ?_)
  have hl : lv_has ls 5 [(3, .int (0 : Int32)), (0, .ref m0), (1, .int p1), (2, .int p2)] := hl
  have hl := lv_sub (l' := [(0, .ref m0), (1, .int p1), (2, .int p2), (3, .int (0 : Int32))]) hl [1, 2, 3, 0] rfl
  obtain ⟨nF, h⟩ := h
  refine loop2 _ trivial ?_ nF (0 : Int32) _ hl h
  · intro i3 ls hl h
    refine lv_iconst (v := 1) hx hb dX4_isFiner_94 (by decide) ?_
    exact W.zret (v := (1 : Int32)) hx hb hr (by decide) (fun t ht _ => ⟨_, rfl, h, ht⟩) (fun _ hq => absurd hq List.not_mem_nil) dX4_isFiner_95
theorem dX4_depthNow_0 : decode cX4_depthNow 0 = .ok (.lload_n 2, 1) := by decide +kernel
theorem dX4_depthNow_1 : decode cX4_depthNow 1 = .ok (.aload_n 0, 1) := by decide +kernel
theorem dX4_depthNow_2 : decode cX4_depthNow 2 = .ok (.getfield 127, 3) := by decide +kernel
theorem dX4_depthNow_5 : decode cX4_depthNow 5 = .ok (.invokestatic 58, 3) := by decide +kernel
theorem dX4_depthNow_8 : decode cX4_depthNow 8 = .ok (.ifCond .ne 5, 3) := by decide +kernel
theorem dX4_depthNow_11 : decode cX4_depthNow 11 = .ok (.iconst (-1), 1) := by decide +kernel
theorem dX4_depthNow_12 : decode cX4_depthNow 12 = .ok (.ireturn, 1) := by decide +kernel
theorem dX4_depthNow_13 : decode cX4_depthNow 13 = .ok (.lload_n 2, 1) := by decide +kernel
theorem dX4_depthNow_14 : decode cX4_depthNow 14 = .ok (.lstore 4, 2) := by decide +kernel
theorem dX4_depthNow_16 : decode cX4_depthNow 16 = .ok (.iconst 0, 1) := by decide +kernel
theorem dX4_depthNow_17 : decode cX4_depthNow 17 = .ok (.istore 6, 2) := by decide +kernel
theorem dX4_depthNow_19 : decode cX4_depthNow 19 = .ok (.aload_n 0, 1) := by decide +kernel
theorem dX4_depthNow_20 : decode cX4_depthNow 20 = .ok (.iload_n 1, 1) := by decide +kernel
theorem dX4_depthNow_21 : decode cX4_depthNow 21 = .ok (.lload 4, 2) := by decide +kernel
theorem dX4_depthNow_23 : decode cX4_depthNow 23 = .ok (.invokevirtual 76, 3) := by decide +kernel
theorem dX4_depthNow_26 : decode cX4_depthNow 26 = .ok (.lstore 7, 2) := by decide +kernel
theorem dX4_depthNow_28 : decode cX4_depthNow 28 = .ok (.lload 7, 2) := by decide +kernel
theorem dX4_depthNow_30 : decode cX4_depthNow 30 = .ok (.aload_n 0, 1) := by decide +kernel
theorem dX4_depthNow_31 : decode cX4_depthNow 31 = .ok (.getfield 127, 3) := by decide +kernel
theorem dX4_depthNow_34 : decode cX4_depthNow 34 = .ok (.invokestatic 58, 3) := by decide +kernel
theorem dX4_depthNow_37 : decode cX4_depthNow 37 = .ok (.ifCond .ne 6, 3) := by decide +kernel
theorem dX4_depthNow_40 : decode cX4_depthNow 40 = .ok (.iload 6, 2) := by decide +kernel
theorem dX4_depthNow_42 : decode cX4_depthNow 42 = .ok (.ireturn, 1) := by decide +kernel
theorem dX4_depthNow_43 : decode cX4_depthNow 43 = .ok (.lload 7, 2) := by decide +kernel
theorem dX4_depthNow_45 : decode cX4_depthNow 45 = .ok (.lload 4, 2) := by decide +kernel
theorem dX4_depthNow_47 : decode cX4_depthNow 47 = .ok (.lcmp, 1) := by decide +kernel
theorem dX4_depthNow_48 : decode cX4_depthNow 48 = .ok (.ifCond .ne 6, 3) := by decide +kernel
theorem dX4_depthNow_51 : decode cX4_depthNow 51 = .ok (.bipush 99, 2) := by decide +kernel
theorem dX4_depthNow_53 : decode cX4_depthNow 53 = .ok (.ireturn, 1) := by decide +kernel
theorem dX4_depthNow_54 : decode cX4_depthNow 54 = .ok (.lload 7, 2) := by decide +kernel
theorem dX4_depthNow_56 : decode cX4_depthNow 56 = .ok (.lstore 4, 2) := by decide +kernel
theorem dX4_depthNow_58 : decode cX4_depthNow 58 = .ok (.iinc 6 1, 3) := by decide +kernel
theorem dX4_depthNow_61 : decode cX4_depthNow 61 = .ok (.goto (-42), 3) := by decide +kernel
def wX4_depthNow_L19 (post : Int32 → Prop) (mr : Int32) (po : Int64) (DD : Nat → Nat → Int32) (p1 : Int32) : Nat → Int64 → Int32 → Prop
  | 0, _, _ => False
  | n+1, i4, i6 =>
    wX4_knownByAll (fun r_2 : Int64 =>
      wX4_has_ (fun r_3 : Int32 =>
        ((¬ r_3 = 0) →
          ((¬ (lg_cmp r_2 i4) = 0) →
            wX4_depthNow_L19 post mr po DD p1 n r_2 (i6 + 1)
          ) ∧ (((lg_cmp r_2 i4) = 0) →
            post (99 : Int32)
          )
        ) ∧ ((r_3 = 0) →
          post i6
        )
        ) r_2 mr
      ) po DD p1 i4
def wX4_depthNow (post : Int32 → Prop) (mr : Int32) (po : Int64) (DD : Nat → Nat → Int32) (p1 : Int32) (p2 : Int64) : Prop :=
  wX4_has_ (fun r_1 : Int32 =>
    ((¬ r_1 = 0) →
      ∃ nF, wX4_depthNow_L19 post
        mr po DD p1 nF p2 (0 : Int32)
    ) ∧ ((r_1 = 0) →
      post (-1 : Int32)
    )
    ) p2 mr
abbrev wl_X4_depthNow : List Cond := .code yX4_depthNow cX4_depthNow 9 (some .int) :: lwg
abbrev rm_X4_depthNow : Room := { frames := 4, cells := 0, slots := 0, locals := 99 }
set_option maxHeartbeats 4000000 in
set_option maxRecDepth 100000 in
theorem kX4_depthNow {post : Int32 → Prop} (l : Launch) (G : GT) (m0 : Nat) (dO : Nat) (sl : Nat) (ct0 : Nat) (st0 : Nat) (fs0 : Nat) (jn0 : Nat) (rw0 : Nat) (fd0 : Nat) (af0 : Nat) (kO : Nat) (dr : Nat → Nat) (kr : Nat → Nat) (sa : Nat → Nat) (th : Int32) (mr : Int32) (po : Int64) (mf : Int32) (sp : Int32) (DD : Nat → Nat → Int32) (ctf : Nat → Int32) (stf : Nat → Int32) (fsf : Nat → Int32) (jnf : Nat → Int32) (rwf : Nat → Int32) (fdf : Nat → Int64) (aff : Nat → Int32) (KP : Nat → Nat → Int32) (sn : Nat) (sq : Nat → Nat → Int32) (p1 : Int32) (p2 : Int64) (h : wX4_depthNow post mr po DD p1 p2) : Met l yX4_depthNow wl_X4_depthNow rm_X4_depthNow (va_Pc [.ref m0, .int p1, .long p2] (fun U => PP G [(m0, .inr (7, [.int th, .int mr, .long po, .ref dO, .ref sl, .ref ct0, .int mf, .int sp, .ref st0, .ref fs0, .ref jn0, .ref rw0, .ref fd0, .ref af0, .ref kO])), (dO, .inl (G.2 4, 6, .inr (.inr (.inr (.inr (fun k => if k < 6 then some (dr k) else none)))))), (dr 0, .inl (G.2 0, 64, .inl (DD 0))), (dr 1, .inl (G.2 0, 64, .inl (DD 1))), (dr 2, .inl (G.2 0, 64, .inl (DD 2))), (dr 3, .inl (G.2 0, 64, .inl (DD 3))), (dr 4, .inl (G.2 0, 64, .inl (DD 4))), (dr 5, .inl (G.2 0, 64, .inl (DD 5))), (ct0, .inl (G.2 0, 6, .inl ctf)), (st0, .inl (G.2 0, 4096, .inl stf)), (fs0, .inl (G.2 0, 4096, .inl fsf)), (jn0, .inl (G.2 0, 64, .inl jnf)), (rw0, .inl (G.2 0, 64, .inl rwf)), (fd0, .inl (G.2 1, 40, .inr (.inl fdf))), (af0, .inl (G.2 3, 40, .inl aff)), (kO, .inl (G.2 4, 4, .inr (.inr (.inr (.inr (fun k => if k < 4 then some (kr k) else none)))))), (kr 0, .inl (G.2 0, 64, .inl (KP 0))), (kr 1, .inl (G.2 0, 64, .inl (KP 1))), (kr 2, .inl (G.2 0, 64, .inl (KP 2))), (kr 3, .inl (G.2 0, 64, .inl (KP 3)))] U.heap ∧ KK G U)) (vp_Si post) 0 0 (fun _ => False) := by
  refine Met.ofW (cc := cX4_depthNow) (maxL := 9) (ret := (some .int)) (by decide) rfl ?_
  intro p e s m args below meth c s₁ B hml hv
  obtain ⟨rfl, hP, hKK⟩ := hv
  obtain ⟨hK, hN, hR, hFW, hNC⟩ := id hKK
  have hx := B.exec
  have hb := B.bytes
  have hr := B.returns
  have hts0 := atoms_spec (ws := wl_X4_depthNow) B.pre
  have hts : ∀ w ∈ lwg, w.before ([.ref m0, .int p1, .long p2] : List Value).toArray s = true := fun w hw => hts0 w (List.mem_cons_of_mem _ hw)
  have hown : s.vm.findClass RX4 = some m.cls := findClass_of_methodNamed B.named
  have hlocks := B.notSynchronized
  have hP : PP G [(m0, .inr (7, [.int th, .int mr, .long po, .ref dO, .ref sl, .ref ct0, .int mf, .int sp, .ref st0, .ref fs0, .ref jn0, .ref rw0, .ref fd0, .ref af0, .ref kO])), (dO, .inl (G.2 4, 6, .inr (.inr (.inr (.inr (fun k => if k < 6 then some (dr k) else none)))))), (dr 0, .inl (G.2 0, 64, .inl (DD 0))), (dr 1, .inl (G.2 0, 64, .inl (DD 1))), (dr 2, .inl (G.2 0, 64, .inl (DD 2))), (dr 3, .inl (G.2 0, 64, .inl (DD 3))), (dr 4, .inl (G.2 0, 64, .inl (DD 4))), (dr 5, .inl (G.2 0, 64, .inl (DD 5))), (ct0, .inl (G.2 0, 6, .inl ctf)), (st0, .inl (G.2 0, 4096, .inl stf)), (fs0, .inl (G.2 0, 4096, .inl fsf)), (jn0, .inl (G.2 0, 64, .inl jnf)), (rw0, .inl (G.2 0, 64, .inl rwf)), (fd0, .inl (G.2 1, 40, .inr (.inl fdf))), (af0, .inl (G.2 3, 40, .inl aff)), (kO, .inl (G.2 4, 4, .inr (.inr (.inr (.inr (fun k => if k < 4 then some (kr k) else none)))))), (kr 0, .inl (G.2 0, 64, .inl (KP 0))), (kr 1, .inl (G.2 0, 64, .inl (KP 1))), (kr 2, .inl (G.2 0, 64, .inl (KP 2))), (kr 3, .inl (G.2 0, 64, .inl (KP 3)))] s.heap := hP
  have hl := lv_entry ([.ref m0, .int p1, .long p2]) (n := 9) (Nat.le_of_ble_eq_true rfl)
  rw [lg_entry_eq]
  generalize (lg_sl ([.ref m0, .int p1, .long p2]) ++ List.replicate (9 - (lg_sl ([.ref m0, .int p1, .long p2])).length) Slot.unset).toArray = ls at hl ⊢
  have hl : lv_has ls 9 [(0, .ref m0), (1, .int p1), (2, .long p2)] := hl
  have loop19 : True → ∀ (n : Nat) (i4 : Int64) (i6 : Int32) (ls : Array Slot), lv_has ls 9 [(0, .ref m0), (1, .int p1), (2, .long p2), (4, .long i4), (6, .int i6)] → wX4_depthNow_L19 post mr po DD p1 n i4 i6 → W p l e (headSpec (wl_X4_depthNow) rm_X4_depthNow).room s m ([.ref m0, .int p1, .long p2] : List Value).toArray below meth c s.heap [] 0 0 (MQ below (vp_Si post) ([.ref m0, .int p1, .long p2] : List Value).toArray s 0 0 (fun _ => False)) (F0 m 19 ls []) := by
    intro  _  n
    induction n with
    | zero => intro i4 i6 ls hl h; exact False.elim h
    | succ n ih =>
      intro i4 i6 ls hl h
      refine lv_aload_n hx hb dX4_depthNow_19 rfl (lv_at hl 0 rfl) ?_
      refine lv_iload_n hx hb dX4_depthNow_20 rfl (lv_at hl 1 rfl) ?_
      refine lv_lload hx hb dX4_depthNow_21 (lv_at hl 3 rfl) ?_
      have hPc := hP
      refine rdL (va_runV (C := RX4) (As := [.int p1, .long i4]) (rest := []) ⟨hx, hb, hml, hown, hts⟩ (kX4_knownByAll l G m0 dO sl ct0 st0 fs0 jn0 rw0 fd0 af0 kO dr kr sa th mr po mf sp DD ctf stf fsf jnf rwf fdf aff KP sn sq p1 i4 h) (cwV 2 hts (gdV q1125 q1127 qs16 q6 q1128) rfl rfl rfl (by decide +kernel) ⟨Nat.le_of_ble_eq_true rfl, Nat.le_of_ble_eq_true rfl⟩) (preV hPc hKK (va_recv hK hPc (ci := 7) (q0 := 0) rfl rfl)) rfl rfl hl.1 rfl (lv_room (Nat.le_of_ble_eq_true rfl)) dX4_depthNow_23 ⟨Nat.zero_le _, Nat.zero_le _⟩) (fun r_2 h => ?_)
      refine lv_lstore hx hb dX4_depthNow_26 hl (Nat.le_of_ble_eq_true rfl) rfl (fun ls hl => ?_)
      have hl : lv_has ls 9 [(7, .long r_2), (0, .ref m0), (1, .int p1), (2, .long p2), (4, .long i4), (6, .int i6)] := hl
      refine lv_lload hx hb dX4_depthNow_28 (lv_at hl 0 rfl) ?_
      refine lv_aload_n hx hb dX4_depthNow_30 rfl (lv_at hl 1 rfl) ?_
      refine va_get (D := G.1) (ci := 7) (v := .int mr) (C := RX4) (T := TX4) (N := 15) hx hb hts igX4 hown hK hP 0 rfl rfl 1 (by decide) (hts _ q1006) (fun _ h9 => h9) rfl dX4_depthNow_31 ?_
      have hPc := va_P.sub (ws' := []) hP [] rfl
      refine rdI (va_runS (As := [.long r_2, .int mr]) (rest := []) ⟨hx, hb, hml, hown, hts⟩ (kX4_has_ l G r_2 mr h) (va_cwS 2 hts (gdS q1122 q1123 q6 q1124) rfl rfl rfl (by decide +kernel) ⟨Nat.le_of_ble_eq_true rfl, Nat.le_of_ble_eq_true rfl⟩) (preS hPc hKK) rfl rfl hl.1 rfl (lv_room (Nat.le_of_ble_eq_true rfl)) dX4_depthNow_34 ⟨Nat.zero_le _, Nat.zero_le _⟩) (fun r_3 h => ?_)
      refine lv_if_ne (tgt := 43) hx hb dX4_depthNow_37 (by decide) (fun hc => ?_) (fun hc => ?_)
      · have h := h.1 hc
        refine lv_lload hx hb dX4_depthNow_43 (lv_at hl 0 rfl) ?_
        refine lv_lload hx hb dX4_depthNow_45 (lv_at hl 4 rfl) ?_
        refine W.lcmp hx hb dX4_depthNow_47 ?_
        refine lv_if_ne (tgt := 54) hx hb dX4_depthNow_48 (by decide) (fun hc => ?_) (fun hc => ?_)
        · have h := h.1 hc
          refine lv_lload hx hb dX4_depthNow_54 (lv_at hl 0 rfl) ?_
          refine lv_lstore hx hb dX4_depthNow_56 hl (Nat.le_of_ble_eq_true rfl) rfl (fun ls hl => ?_)
          have hl : lv_has ls 9 [(4, .long r_2), (7, .long r_2), (0, .ref m0), (1, .int p1), (2, .long p2), (6, .int i6)] := hl
          refine lv_iinc (v := (i6 + 1)) hx hb dX4_depthNow_58 hl (k := 5) rfl (by rw [show Int32.ofInt 1 = 1 from by decide]) (Nat.le_of_ble_eq_true rfl) rfl (fun ls hl => ?_)
          have hl : lv_has ls 9 [(6, .int (i6 + 1)), (4, .long r_2), (7, .long r_2), (0, .ref m0), (1, .int p1), (2, .long p2)] := hl
          refine lv_goto (tgt := 19) hx hb dX4_depthNow_61 (by decide) ?_
          have hl := lv_sub (l' := [(0, .ref m0), (1, .int p1), (2, .long p2), (4, .long r_2), (6, .int (i6 + 1))]) hl [3, 4, 5, 1, 0] rfl
          exact ih _ _ ls hl h
        · have h := h.2 hc
          refine lv_bipush (v := 99) hx hb dX4_depthNow_51 (by decide) ?_
          exact W.iret (v := (99 : Int32)) hx hb hr (fun t ht _ => ⟨_, rfl, h, ht⟩) (fun _ hq => absurd hq List.not_mem_nil) dX4_depthNow_53
      · have h := h.2 hc
        refine lv_iload hx hb dX4_depthNow_40 (lv_at hl 5 rfl) ?_
        exact W.iret (v := i6) hx hb hr (fun t ht _ => ⟨_, rfl, h, ht⟩) (fun _ hq => absurd hq List.not_mem_nil) dX4_depthNow_42
  refine lv_lload_n hx hb dX4_depthNow_0 rfl (lv_at hl 2 rfl) ?_
  refine lv_aload_n hx hb dX4_depthNow_1 rfl (lv_at hl 0 rfl) ?_
  refine va_get (D := G.1) (ci := 7) (v := .int mr) (C := RX4) (T := TX4) (N := 15) hx hb hts igX4 hown hK hP 0 rfl rfl 1 (by decide) (hts _ q1006) (fun _ h9 => h9) rfl dX4_depthNow_2 ?_
  have hPc := va_P.sub (ws' := []) hP [] rfl
  refine rdI (va_runS (As := [.long p2, .int mr]) (rest := []) ⟨hx, hb, hml, hown, hts⟩ (kX4_has_ l G p2 mr h) (va_cwS 2 hts (gdS q1122 q1123 q6 q1124) rfl rfl rfl (by decide +kernel) ⟨Nat.le_of_ble_eq_true rfl, Nat.le_of_ble_eq_true rfl⟩) (preS hPc hKK) rfl rfl hl.1 rfl (lv_room (Nat.le_of_ble_eq_true rfl)) dX4_depthNow_5 ⟨Nat.zero_le _, Nat.zero_le _⟩) (fun r_1 h => ?_)
  refine lv_if_ne (tgt := 13) hx hb dX4_depthNow_8 (by decide) (fun hc => ?_) (fun hc => ?_)
  · have h := h.1 hc
    refine lv_lload_n hx hb dX4_depthNow_13 rfl (lv_at hl 2 rfl) ?_
    refine lv_lstore hx hb dX4_depthNow_14 hl (Nat.le_of_ble_eq_true rfl) rfl (fun ls hl => ?_)
    have hl : lv_has ls 9 [(4, .long p2), (0, .ref m0), (1, .int p1), (2, .long p2)] := hl
    refine lv_iconst (v := 0) hx hb dX4_depthNow_16 (by decide) ?_
    refine lv_istore hx hb dX4_depthNow_17 hl (Nat.le_of_ble_eq_true rfl) rfl (fun ls hl => ?_)
    have hl : lv_has ls 9 [(6, .int (0 : Int32)), (4, .long p2), (0, .ref m0), (1, .int p1), (2, .long p2)] := hl
    have hl := lv_sub (l' := [(0, .ref m0), (1, .int p1), (2, .long p2), (4, .long p2), (6, .int (0 : Int32))]) hl [2, 3, 4, 1, 0] rfl
    obtain ⟨nF, h⟩ := h
    refine loop19  trivial  nF p2 (0 : Int32) _ hl h
  · have h := h.2 hc
    refine lv_iconst (v := (-1)) hx hb dX4_depthNow_11 (by decide) ?_
    exact W.iret (v := (-1 : Int32)) hx hb hr (fun t ht _ => ⟨_, rfl, h, ht⟩) (fun _ hq => absurd hq List.not_mem_nil) dX4_depthNow_12
theorem dX4_restore_0 : decode cX4_restore 0 = .ok (.iconst 0, 1) := by decide +kernel
theorem dX4_restore_1 : decode cX4_restore 1 = .ok (.istore_n 3, 1) := by decide +kernel
theorem dX4_restore_2 : decode cX4_restore 2 = .ok (.iload_n 3, 1) := by decide +kernel
theorem dX4_restore_3 : decode cX4_restore 3 = .ok (.bipush 64, 2) := by decide +kernel
theorem dX4_restore_5 : decode cX4_restore 5 = .ok (.if_icmp .ge 20, 3) := by decide +kernel
theorem dX4_restore_8 : decode cX4_restore 8 = .ok (.aload_n 0, 1) := by decide +kernel
theorem dX4_restore_9 : decode cX4_restore 9 = .ok (.getfield 17, 3) := by decide +kernel
theorem dX4_restore_12 : decode cX4_restore 12 = .ok (.iload_n 1, 1) := by decide +kernel
theorem dX4_restore_13 : decode cX4_restore 13 = .ok (.aaload, 1) := by decide +kernel
theorem dX4_restore_14 : decode cX4_restore 14 = .ok (.iload_n 3, 1) := by decide +kernel
theorem dX4_restore_15 : decode cX4_restore 15 = .ok (.aload_n 2, 1) := by decide +kernel
theorem dX4_restore_16 : decode cX4_restore 16 = .ok (.iload_n 3, 1) := by decide +kernel
theorem dX4_restore_17 : decode cX4_restore 17 = .ok (.iaload, 1) := by decide +kernel
theorem dX4_restore_18 : decode cX4_restore 18 = .ok (.iastore, 1) := by decide +kernel
theorem dX4_restore_19 : decode cX4_restore 19 = .ok (.iinc 3 1, 3) := by decide +kernel
theorem dX4_restore_22 : decode cX4_restore 22 = .ok (.goto (-20), 3) := by decide +kernel
theorem dX4_restore_25 : decode cX4_restore 25 = .ok (.return_, 1) := by decide +kernel
def wX4_restoreK_L2 (post : (Nat → Nat → Int32) → Prop) (K25 : Int32 → (Nat → Nat → Int32) → Prop) (KP : Nat → Nat → Int32) (lv : Nat) (p1 : Int32) : Nat → Int32 → (Nat → Nat → Int32) → Prop
  | 0, _, _ => False
  | n+1, i3, DD' =>
    (((64 : Int32) ≤ i3) →
      K25 i3 DD'
    ) ∧ (¬ ((64 : Int32) ≤ i3) →
      vp_in p1 6 ∧
      vp_in i3 64 ∧
      vp_in i3 64 ∧
      wX4_restoreK_L2 post K25 KP lv p1 n (i3 + 1) (vf_upd DD' (p1.toNatClampNeg) (upd (DD' (p1.toNatClampNeg)) i3.toNatClampNeg (KP lv i3.toNatClampNeg)))
    )
def wX4_restoreK (post : (Nat → Nat → Int32) → Prop) (lv : Nat) (DD : Nat → Nat → Int32) (KP : Nat → Nat → Int32) (p1 : Int32) : Prop :=
  ∃ nF, wX4_restoreK_L2 post
    (fun i3 DD' =>
      post DD'
    )
    KP lv p1 nF (0 : Int32) DD
abbrev wl_X4_restoreK : List Cond := .code yX4_restore cX4_restore 4 none :: lwg
abbrev rm_X4_restoreK : Room := { frames := 0, cells := 0, slots := 0, locals := 0 }
set_option maxHeartbeats 4000000 in
set_option maxRecDepth 100000 in
theorem kX4_restoreK {post : (Nat → Nat → Int32) → Prop} (l : Launch) (G : GT) (m0 : Nat) (dO : Nat) (sl : Nat) (ct0 : Nat) (st0 : Nat) (fs0 : Nat) (jn0 : Nat) (rw0 : Nat) (fd0 : Nat) (af0 : Nat) (kO : Nat) (dr : Nat → Nat) (kr : Nat → Nat) (sa : Nat → Nat) (lv : Nat) (th : Int32) (mr : Int32) (po : Int64) (mf : Int32) (sp : Int32) (DD : Nat → Nat → Int32) (ctf : Nat → Int32) (stf : Nat → Int32) (fsf : Nat → Int32) (jnf : Nat → Int32) (rwf : Nat → Int32) (fdf : Nat → Int64) (aff : Nat → Int32) (KP : Nat → Nat → Int32) (sn : Nat) (sq : Nat → Nat → Int32) (p1 : Int32) (hl_ : lv < 4) (sz : Nat) (h : wX4_restoreK post lv DD KP p1) : Met l yX4_restore wl_X4_restoreK rm_X4_restoreK (va_Pc [.ref m0, .int p1, .ref (kr lv)] (fun U => U.heap.size = sz ∧ PP G [(m0, .inr (7, [.int th, .int mr, .long po, .ref dO, .ref sl, .ref ct0, .int mf, .int sp, .ref st0, .ref fs0, .ref jn0, .ref rw0, .ref fd0, .ref af0, .ref kO])), (dO, .inl (G.2 4, 6, .inr (.inr (.inr (.inr (fun k => if k < 6 then some (dr k) else none)))))), (dr 0, .inl (G.2 0, 64, .inl (DD 0))), (dr 1, .inl (G.2 0, 64, .inl (DD 1))), (dr 2, .inl (G.2 0, 64, .inl (DD 2))), (dr 3, .inl (G.2 0, 64, .inl (DD 3))), (dr 4, .inl (G.2 0, 64, .inl (DD 4))), (dr 5, .inl (G.2 0, 64, .inl (DD 5))), (ct0, .inl (G.2 0, 6, .inl ctf)), (st0, .inl (G.2 0, 4096, .inl stf)), (fs0, .inl (G.2 0, 4096, .inl fsf)), (jn0, .inl (G.2 0, 64, .inl jnf)), (rw0, .inl (G.2 0, 64, .inl rwf)), (fd0, .inl (G.2 1, 40, .inr (.inl fdf))), (af0, .inl (G.2 3, 40, .inl aff)), (kO, .inl (G.2 4, 4, .inr (.inr (.inr (.inr (fun k => if k < 4 then some (kr k) else none)))))), (kr 0, .inl (G.2 0, 64, .inl (KP 0))), (kr 1, .inl (G.2 0, 64, .inl (KP 1))), (kr 2, .inl (G.2 0, 64, .inl (KP 2))), (kr 3, .inl (G.2 0, 64, .inl (KP 3)))] U.heap ∧ KK G U ∧ va_D (fun _ => True) [(m0, .inr (7, [.int th, .int mr, .long po, .ref dO, .ref sl, .ref ct0, .int mf, .int sp, .ref st0, .ref fs0, .ref jn0, .ref rw0, .ref fd0, .ref af0, .ref kO])), (dO, .inl (G.2 4, 6, .inr (.inr (.inr (.inr (fun k => if k < 6 then some (dr k) else none)))))), (dr 0, .inl (G.2 0, 64, .inl (DD 0))), (dr 1, .inl (G.2 0, 64, .inl (DD 1))), (dr 2, .inl (G.2 0, 64, .inl (DD 2))), (dr 3, .inl (G.2 0, 64, .inl (DD 3))), (dr 4, .inl (G.2 0, 64, .inl (DD 4))), (dr 5, .inl (G.2 0, 64, .inl (DD 5))), (ct0, .inl (G.2 0, 6, .inl ctf)), (st0, .inl (G.2 0, 4096, .inl stf)), (fs0, .inl (G.2 0, 4096, .inl fsf)), (jn0, .inl (G.2 0, 64, .inl jnf)), (rw0, .inl (G.2 0, 64, .inl rwf)), (fd0, .inl (G.2 1, 40, .inr (.inl fdf))), (af0, .inl (G.2 3, 40, .inl aff)), (kO, .inl (G.2 4, 4, .inr (.inr (.inr (.inr (fun k => if k < 4 then some (kr k) else none)))))), (kr 0, .inl (G.2 0, 64, .inl (KP 0))), (kr 1, .inl (G.2 0, 64, .inl (KP 1))), (kr 2, .inl (G.2 0, 64, .inl (KP 2))), (kr 3, .inl (G.2 0, 64, .inl (KP 3)))])) (va_Qv post (fun u t => PP G [(m0, .inr (7, [.int th, .int mr, .long po, .ref dO, .ref sl, .ref ct0, .int mf, .int sp, .ref st0, .ref fs0, .ref jn0, .ref rw0, .ref fd0, .ref af0, .ref kO])), (dO, .inl (G.2 4, 6, .inr (.inr (.inr (.inr (fun k => if k < 6 then some (dr k) else none)))))), (dr 0, .inl (G.2 0, 64, .inl (u 0))), (dr 1, .inl (G.2 0, 64, .inl (u 1))), (dr 2, .inl (G.2 0, 64, .inl (u 2))), (dr 3, .inl (G.2 0, 64, .inl (u 3))), (dr 4, .inl (G.2 0, 64, .inl (u 4))), (dr 5, .inl (G.2 0, 64, .inl (u 5))), (ct0, .inl (G.2 0, 6, .inl ctf)), (st0, .inl (G.2 0, 4096, .inl stf)), (fs0, .inl (G.2 0, 4096, .inl fsf)), (jn0, .inl (G.2 0, 64, .inl jnf)), (rw0, .inl (G.2 0, 64, .inl rwf)), (fd0, .inl (G.2 1, 40, .inr (.inl fdf))), (af0, .inl (G.2 3, 40, .inl aff)), (kO, .inl (G.2 4, 4, .inr (.inr (.inr (.inr (fun k => if k < 4 then some (kr k) else none)))))), (kr 0, .inl (G.2 0, 64, .inl (KP 0))), (kr 1, .inl (G.2 0, 64, .inl (KP 1))), (kr 2, .inl (G.2 0, 64, .inl (KP 2))), (kr 3, .inl (G.2 0, 64, .inl (KP 3)))] t.heap ∧ va_D (va_A [(m0, .inr (7, [.int th, .int mr, .long po, .ref dO, .ref sl, .ref ct0, .int mf, .int sp, .ref st0, .ref fs0, .ref jn0, .ref rw0, .ref fd0, .ref af0, .ref kO])), (dO, .inl (G.2 4, 6, .inr (.inr (.inr (.inr (fun k => if k < 6 then some (dr k) else none)))))), (dr 0, .inl (G.2 0, 64, .inl (DD 0))), (dr 1, .inl (G.2 0, 64, .inl (DD 1))), (dr 2, .inl (G.2 0, 64, .inl (DD 2))), (dr 3, .inl (G.2 0, 64, .inl (DD 3))), (dr 4, .inl (G.2 0, 64, .inl (DD 4))), (dr 5, .inl (G.2 0, 64, .inl (DD 5))), (ct0, .inl (G.2 0, 6, .inl ctf)), (st0, .inl (G.2 0, 4096, .inl stf)), (fs0, .inl (G.2 0, 4096, .inl fsf)), (jn0, .inl (G.2 0, 64, .inl jnf)), (rw0, .inl (G.2 0, 64, .inl rwf)), (fd0, .inl (G.2 1, 40, .inr (.inl fdf))), (af0, .inl (G.2 3, 40, .inl aff)), (kO, .inl (G.2 4, 4, .inr (.inr (.inr (.inr (fun k => if k < 4 then some (kr k) else none)))))), (kr 0, .inl (G.2 0, 64, .inl (KP 0))), (kr 1, .inl (G.2 0, 64, .inl (KP 1))), (kr 2, .inl (G.2 0, 64, .inl (KP 2))), (kr 3, .inl (G.2 0, 64, .inl (KP 3)))] sz) [(m0, .inr (7, [.int th, .int mr, .long po, .ref dO, .ref sl, .ref ct0, .int mf, .int sp, .ref st0, .ref fs0, .ref jn0, .ref rw0, .ref fd0, .ref af0, .ref kO])), (dO, .inl (G.2 4, 6, .inr (.inr (.inr (.inr (fun k => if k < 6 then some (dr k) else none)))))), (dr 0, .inl (G.2 0, 64, .inl (u 0))), (dr 1, .inl (G.2 0, 64, .inl (u 1))), (dr 2, .inl (G.2 0, 64, .inl (u 2))), (dr 3, .inl (G.2 0, 64, .inl (u 3))), (dr 4, .inl (G.2 0, 64, .inl (u 4))), (dr 5, .inl (G.2 0, 64, .inl (u 5))), (ct0, .inl (G.2 0, 6, .inl ctf)), (st0, .inl (G.2 0, 4096, .inl stf)), (fs0, .inl (G.2 0, 4096, .inl fsf)), (jn0, .inl (G.2 0, 64, .inl jnf)), (rw0, .inl (G.2 0, 64, .inl rwf)), (fd0, .inl (G.2 1, 40, .inr (.inl fdf))), (af0, .inl (G.2 3, 40, .inl aff)), (kO, .inl (G.2 4, 4, .inr (.inr (.inr (.inr (fun k => if k < 4 then some (kr k) else none)))))), (kr 0, .inl (G.2 0, 64, .inl (KP 0))), (kr 1, .inl (G.2 0, 64, .inl (KP 1))), (kr 2, .inl (G.2 0, 64, .inl (KP 2))), (kr 3, .inl (G.2 0, 64, .inl (KP 3)))]) (va_A [(m0, .inr (7, [.int th, .int mr, .long po, .ref dO, .ref sl, .ref ct0, .int mf, .int sp, .ref st0, .ref fs0, .ref jn0, .ref rw0, .ref fd0, .ref af0, .ref kO])), (dO, .inl (G.2 4, 6, .inr (.inr (.inr (.inr (fun k => if k < 6 then some (dr k) else none)))))), (dr 0, .inl (G.2 0, 64, .inl (DD 0))), (dr 1, .inl (G.2 0, 64, .inl (DD 1))), (dr 2, .inl (G.2 0, 64, .inl (DD 2))), (dr 3, .inl (G.2 0, 64, .inl (DD 3))), (dr 4, .inl (G.2 0, 64, .inl (DD 4))), (dr 5, .inl (G.2 0, 64, .inl (DD 5))), (ct0, .inl (G.2 0, 6, .inl ctf)), (st0, .inl (G.2 0, 4096, .inl stf)), (fs0, .inl (G.2 0, 4096, .inl fsf)), (jn0, .inl (G.2 0, 64, .inl jnf)), (rw0, .inl (G.2 0, 64, .inl rwf)), (fd0, .inl (G.2 1, 40, .inr (.inl fdf))), (af0, .inl (G.2 3, 40, .inl aff)), (kO, .inl (G.2 4, 4, .inr (.inr (.inr (.inr (fun k => if k < 4 then some (kr k) else none)))))), (kr 0, .inl (G.2 0, 64, .inl (KP 0))), (kr 1, .inl (G.2 0, 64, .inl (KP 1))), (kr 2, .inl (G.2 0, 64, .inl (KP 2))), (kr 3, .inl (G.2 0, 64, .inl (KP 3)))] sz)) 0 0 (va_A [(m0, .inr (7, [.int th, .int mr, .long po, .ref dO, .ref sl, .ref ct0, .int mf, .int sp, .ref st0, .ref fs0, .ref jn0, .ref rw0, .ref fd0, .ref af0, .ref kO])), (dO, .inl (G.2 4, 6, .inr (.inr (.inr (.inr (fun k => if k < 6 then some (dr k) else none)))))), (dr 0, .inl (G.2 0, 64, .inl (DD 0))), (dr 1, .inl (G.2 0, 64, .inl (DD 1))), (dr 2, .inl (G.2 0, 64, .inl (DD 2))), (dr 3, .inl (G.2 0, 64, .inl (DD 3))), (dr 4, .inl (G.2 0, 64, .inl (DD 4))), (dr 5, .inl (G.2 0, 64, .inl (DD 5))), (ct0, .inl (G.2 0, 6, .inl ctf)), (st0, .inl (G.2 0, 4096, .inl stf)), (fs0, .inl (G.2 0, 4096, .inl fsf)), (jn0, .inl (G.2 0, 64, .inl jnf)), (rw0, .inl (G.2 0, 64, .inl rwf)), (fd0, .inl (G.2 1, 40, .inr (.inl fdf))), (af0, .inl (G.2 3, 40, .inl aff)), (kO, .inl (G.2 4, 4, .inr (.inr (.inr (.inr (fun k => if k < 4 then some (kr k) else none)))))), (kr 0, .inl (G.2 0, 64, .inl (KP 0))), (kr 1, .inl (G.2 0, 64, .inl (KP 1))), (kr 2, .inl (G.2 0, 64, .inl (KP 2))), (kr 3, .inl (G.2 0, 64, .inl (KP 3)))] sz) := by
  refine Met.ofW (cc := cX4_restore) (maxL := 4) (ret := none) (by decide) rfl ?_
  intro p e s m args below meth c s₁ B hml hv
  obtain ⟨rfl, hsz, hP, hKK, hD0⟩ := hv
  obtain ⟨hK, hN, hR, hFW, hNC⟩ := id hKK
  have hx := B.exec
  have hb := B.bytes
  have hr := B.returns
  have hts0 := atoms_spec (ws := wl_X4_restoreK) B.pre
  have hts : ∀ w ∈ lwg, w.before ([.ref m0, .int p1, .ref (kr lv)] : List Value).toArray s = true := fun w hw => hts0 w (List.mem_cons_of_mem _ hw)
  have hown : s.vm.findClass RX4 = some m.cls := findClass_of_methodNamed B.named
  have hlocks := B.notSynchronized
  subst hsz
  have hD := hD0.self (sz := s.heap.size)
  generalize hAe : va_A [(m0, .inr (7, [.int th, .int mr, .long po, .ref dO, .ref sl, .ref ct0, .int mf, .int sp, .ref st0, .ref fs0, .ref jn0, .ref rw0, .ref fd0, .ref af0, .ref kO])), (dO, .inl (G.2 4, 6, .inr (.inr (.inr (.inr (fun k => if k < 6 then some (dr k) else none)))))), (dr 0, .inl (G.2 0, 64, .inl (DD 0))), (dr 1, .inl (G.2 0, 64, .inl (DD 1))), (dr 2, .inl (G.2 0, 64, .inl (DD 2))), (dr 3, .inl (G.2 0, 64, .inl (DD 3))), (dr 4, .inl (G.2 0, 64, .inl (DD 4))), (dr 5, .inl (G.2 0, 64, .inl (DD 5))), (ct0, .inl (G.2 0, 6, .inl ctf)), (st0, .inl (G.2 0, 4096, .inl stf)), (fs0, .inl (G.2 0, 4096, .inl fsf)), (jn0, .inl (G.2 0, 64, .inl jnf)), (rw0, .inl (G.2 0, 64, .inl rwf)), (fd0, .inl (G.2 1, 40, .inr (.inl fdf))), (af0, .inl (G.2 3, 40, .inl aff)), (kO, .inl (G.2 4, 4, .inr (.inr (.inr (.inr (fun k => if k < 4 then some (kr k) else none)))))), (kr 0, .inl (G.2 0, 64, .inl (KP 0))), (kr 1, .inl (G.2 0, 64, .inl (KP 1))), (kr 2, .inl (G.2 0, 64, .inl (KP 2))), (kr 3, .inl (G.2 0, 64, .inl (KP 3)))] s.heap.size = A at hD ⊢
  have hA : ∀ q : Nat, s.heap.size ≤ q → A q := fun q h => by rw [← hAe]; exact Or.inr h
  have hS : va_S A s.heap s.heap [] := va_S.rf
  obtain ⟨QC, hQC⟩ : ∃ Z, Z = (va_Qv post (fun u t => PP G [(m0, .inr (7, [.int th, .int mr, .long po, .ref dO, .ref sl, .ref ct0, .int mf, .int sp, .ref st0, .ref fs0, .ref jn0, .ref rw0, .ref fd0, .ref af0, .ref kO])), (dO, .inl (G.2 4, 6, .inr (.inr (.inr (.inr (fun k => if k < 6 then some (dr k) else none)))))), (dr 0, .inl (G.2 0, 64, .inl (u 0))), (dr 1, .inl (G.2 0, 64, .inl (u 1))), (dr 2, .inl (G.2 0, 64, .inl (u 2))), (dr 3, .inl (G.2 0, 64, .inl (u 3))), (dr 4, .inl (G.2 0, 64, .inl (u 4))), (dr 5, .inl (G.2 0, 64, .inl (u 5))), (ct0, .inl (G.2 0, 6, .inl ctf)), (st0, .inl (G.2 0, 4096, .inl stf)), (fs0, .inl (G.2 0, 4096, .inl fsf)), (jn0, .inl (G.2 0, 64, .inl jnf)), (rw0, .inl (G.2 0, 64, .inl rwf)), (fd0, .inl (G.2 1, 40, .inr (.inl fdf))), (af0, .inl (G.2 3, 40, .inl aff)), (kO, .inl (G.2 4, 4, .inr (.inr (.inr (.inr (fun k => if k < 4 then some (kr k) else none)))))), (kr 0, .inl (G.2 0, 64, .inl (KP 0))), (kr 1, .inl (G.2 0, 64, .inl (KP 1))), (kr 2, .inl (G.2 0, 64, .inl (KP 2))), (kr 3, .inl (G.2 0, 64, .inl (KP 3)))] t.heap ∧ va_D A [(m0, .inr (7, [.int th, .int mr, .long po, .ref dO, .ref sl, .ref ct0, .int mf, .int sp, .ref st0, .ref fs0, .ref jn0, .ref rw0, .ref fd0, .ref af0, .ref kO])), (dO, .inl (G.2 4, 6, .inr (.inr (.inr (.inr (fun k => if k < 6 then some (dr k) else none)))))), (dr 0, .inl (G.2 0, 64, .inl (u 0))), (dr 1, .inl (G.2 0, 64, .inl (u 1))), (dr 2, .inl (G.2 0, 64, .inl (u 2))), (dr 3, .inl (G.2 0, 64, .inl (u 3))), (dr 4, .inl (G.2 0, 64, .inl (u 4))), (dr 5, .inl (G.2 0, 64, .inl (u 5))), (ct0, .inl (G.2 0, 6, .inl ctf)), (st0, .inl (G.2 0, 4096, .inl stf)), (fs0, .inl (G.2 0, 4096, .inl fsf)), (jn0, .inl (G.2 0, 64, .inl jnf)), (rw0, .inl (G.2 0, 64, .inl rwf)), (fd0, .inl (G.2 1, 40, .inr (.inl fdf))), (af0, .inl (G.2 3, 40, .inl aff)), (kO, .inl (G.2 4, 4, .inr (.inr (.inr (.inr (fun k => if k < 4 then some (kr k) else none)))))), (kr 0, .inl (G.2 0, 64, .inl (KP 0))), (kr 1, .inl (G.2 0, 64, .inl (KP 1))), (kr 2, .inl (G.2 0, 64, .inl (KP 2))), (kr 3, .inl (G.2 0, 64, .inl (KP 3)))]) A) := ⟨_, rfl⟩
  rw [← hQC]
  have hP : PP G [(m0, .inr (7, [.int th, .int mr, .long po, .ref dO, .ref sl, .ref ct0, .int mf, .int sp, .ref st0, .ref fs0, .ref jn0, .ref rw0, .ref fd0, .ref af0, .ref kO])), (dO, .inl (G.2 4, 6, .inr (.inr (.inr (.inr (fun k => if k < 6 then some (dr k) else none)))))), (dr 0, .inl (G.2 0, 64, .inl (DD 0))), (dr 1, .inl (G.2 0, 64, .inl (DD 1))), (dr 2, .inl (G.2 0, 64, .inl (DD 2))), (dr 3, .inl (G.2 0, 64, .inl (DD 3))), (dr 4, .inl (G.2 0, 64, .inl (DD 4))), (dr 5, .inl (G.2 0, 64, .inl (DD 5))), (ct0, .inl (G.2 0, 6, .inl ctf)), (st0, .inl (G.2 0, 4096, .inl stf)), (fs0, .inl (G.2 0, 4096, .inl fsf)), (jn0, .inl (G.2 0, 64, .inl jnf)), (rw0, .inl (G.2 0, 64, .inl rwf)), (fd0, .inl (G.2 1, 40, .inr (.inl fdf))), (af0, .inl (G.2 3, 40, .inl aff)), (kO, .inl (G.2 4, 4, .inr (.inr (.inr (.inr (fun k => if k < 4 then some (kr k) else none)))))), (kr 0, .inl (G.2 0, 64, .inl (KP 0))), (kr 1, .inl (G.2 0, 64, .inl (KP 1))), (kr 2, .inl (G.2 0, 64, .inl (KP 2))), (kr 3, .inl (G.2 0, 64, .inl (KP 3)))] s.heap := hP
  have hl := lv_entry ([.ref m0, .int p1, .ref (kr lv)]) (n := 4) (Nat.le_of_ble_eq_true rfl)
  rw [lg_entry_eq]
  generalize (lg_sl ([.ref m0, .int p1, .ref (kr lv)]) ++ List.replicate (4 - (lg_sl ([.ref m0, .int p1, .ref (kr lv)])).length) Slot.unset).toArray = ls at hl ⊢
  have hl : lv_has ls 4 [(0, .ref m0), (1, .int p1), (2, .ref (kr lv))] := hl
  have loop2 : ∀ (K25 : Int32 → (Nat → Nat → Int32) → Prop), True → (∀ (i3 : Int32) (DD' : Nat → Nat → Int32) (ls : Array Slot) (H : Heap) (locs : List Loc), lv_has ls 4 [(0, .ref m0), (1, .int p1), (2, .ref (kr lv)), (3, .int i3)] → PP G [(m0, .inr (7, [.int th, .int mr, .long po, .ref dO, .ref sl, .ref ct0, .int mf, .int sp, .ref st0, .ref fs0, .ref jn0, .ref rw0, .ref fd0, .ref af0, .ref kO])), (dO, .inl (G.2 4, 6, .inr (.inr (.inr (.inr (fun k => if k < 6 then some (dr k) else none)))))), (dr 0, .inl (G.2 0, 64, .inl (DD' 0))), (dr 1, .inl (G.2 0, 64, .inl (DD' 1))), (dr 2, .inl (G.2 0, 64, .inl (DD' 2))), (dr 3, .inl (G.2 0, 64, .inl (DD' 3))), (dr 4, .inl (G.2 0, 64, .inl (DD' 4))), (dr 5, .inl (G.2 0, 64, .inl (DD' 5))), (ct0, .inl (G.2 0, 6, .inl ctf)), (st0, .inl (G.2 0, 4096, .inl stf)), (fs0, .inl (G.2 0, 4096, .inl fsf)), (jn0, .inl (G.2 0, 64, .inl jnf)), (rw0, .inl (G.2 0, 64, .inl rwf)), (fd0, .inl (G.2 1, 40, .inr (.inl fdf))), (af0, .inl (G.2 3, 40, .inl aff)), (kO, .inl (G.2 4, 4, .inr (.inr (.inr (.inr (fun k => if k < 4 then some (kr k) else none)))))), (kr 0, .inl (G.2 0, 64, .inl (KP 0))), (kr 1, .inl (G.2 0, 64, .inl (KP 1))), (kr 2, .inl (G.2 0, 64, .inl (KP 2))), (kr 3, .inl (G.2 0, 64, .inl (KP 3)))] H → va_D A [(m0, .inr (7, [.int th, .int mr, .long po, .ref dO, .ref sl, .ref ct0, .int mf, .int sp, .ref st0, .ref fs0, .ref jn0, .ref rw0, .ref fd0, .ref af0, .ref kO])), (dO, .inl (G.2 4, 6, .inr (.inr (.inr (.inr (fun k => if k < 6 then some (dr k) else none)))))), (dr 0, .inl (G.2 0, 64, .inl (DD' 0))), (dr 1, .inl (G.2 0, 64, .inl (DD' 1))), (dr 2, .inl (G.2 0, 64, .inl (DD' 2))), (dr 3, .inl (G.2 0, 64, .inl (DD' 3))), (dr 4, .inl (G.2 0, 64, .inl (DD' 4))), (dr 5, .inl (G.2 0, 64, .inl (DD' 5))), (ct0, .inl (G.2 0, 6, .inl ctf)), (st0, .inl (G.2 0, 4096, .inl stf)), (fs0, .inl (G.2 0, 4096, .inl fsf)), (jn0, .inl (G.2 0, 64, .inl jnf)), (rw0, .inl (G.2 0, 64, .inl rwf)), (fd0, .inl (G.2 1, 40, .inr (.inl fdf))), (af0, .inl (G.2 3, 40, .inl aff)), (kO, .inl (G.2 4, 4, .inr (.inr (.inr (.inr (fun k => if k < 4 then some (kr k) else none)))))), (kr 0, .inl (G.2 0, 64, .inl (KP 0))), (kr 1, .inl (G.2 0, 64, .inl (KP 1))), (kr 2, .inl (G.2 0, 64, .inl (KP 2))), (kr 3, .inl (G.2 0, 64, .inl (KP 3)))] → va_S A s.heap H locs → K25 i3 DD' → W p l e (headSpec (wl_X4_restoreK) rm_X4_restoreK).room s m ([.ref m0, .int p1, .ref (kr lv)] : List Value).toArray below meth c H locs 0 0 (MQ below QC ([.ref m0, .int p1, .ref (kr lv)] : List Value).toArray s 0 0 A) (F0 m 25 ls [])) → ∀ (n : Nat) (i3 : Int32) (DD' : Nat → Nat → Int32) (ls : Array Slot) (H : Heap) (locs : List Loc), lv_has ls 4 [(0, .ref m0), (1, .int p1), (2, .ref (kr lv)), (3, .int i3)] → PP G [(m0, .inr (7, [.int th, .int mr, .long po, .ref dO, .ref sl, .ref ct0, .int mf, .int sp, .ref st0, .ref fs0, .ref jn0, .ref rw0, .ref fd0, .ref af0, .ref kO])), (dO, .inl (G.2 4, 6, .inr (.inr (.inr (.inr (fun k => if k < 6 then some (dr k) else none)))))), (dr 0, .inl (G.2 0, 64, .inl (DD' 0))), (dr 1, .inl (G.2 0, 64, .inl (DD' 1))), (dr 2, .inl (G.2 0, 64, .inl (DD' 2))), (dr 3, .inl (G.2 0, 64, .inl (DD' 3))), (dr 4, .inl (G.2 0, 64, .inl (DD' 4))), (dr 5, .inl (G.2 0, 64, .inl (DD' 5))), (ct0, .inl (G.2 0, 6, .inl ctf)), (st0, .inl (G.2 0, 4096, .inl stf)), (fs0, .inl (G.2 0, 4096, .inl fsf)), (jn0, .inl (G.2 0, 64, .inl jnf)), (rw0, .inl (G.2 0, 64, .inl rwf)), (fd0, .inl (G.2 1, 40, .inr (.inl fdf))), (af0, .inl (G.2 3, 40, .inl aff)), (kO, .inl (G.2 4, 4, .inr (.inr (.inr (.inr (fun k => if k < 4 then some (kr k) else none)))))), (kr 0, .inl (G.2 0, 64, .inl (KP 0))), (kr 1, .inl (G.2 0, 64, .inl (KP 1))), (kr 2, .inl (G.2 0, 64, .inl (KP 2))), (kr 3, .inl (G.2 0, 64, .inl (KP 3)))] H → va_D A [(m0, .inr (7, [.int th, .int mr, .long po, .ref dO, .ref sl, .ref ct0, .int mf, .int sp, .ref st0, .ref fs0, .ref jn0, .ref rw0, .ref fd0, .ref af0, .ref kO])), (dO, .inl (G.2 4, 6, .inr (.inr (.inr (.inr (fun k => if k < 6 then some (dr k) else none)))))), (dr 0, .inl (G.2 0, 64, .inl (DD' 0))), (dr 1, .inl (G.2 0, 64, .inl (DD' 1))), (dr 2, .inl (G.2 0, 64, .inl (DD' 2))), (dr 3, .inl (G.2 0, 64, .inl (DD' 3))), (dr 4, .inl (G.2 0, 64, .inl (DD' 4))), (dr 5, .inl (G.2 0, 64, .inl (DD' 5))), (ct0, .inl (G.2 0, 6, .inl ctf)), (st0, .inl (G.2 0, 4096, .inl stf)), (fs0, .inl (G.2 0, 4096, .inl fsf)), (jn0, .inl (G.2 0, 64, .inl jnf)), (rw0, .inl (G.2 0, 64, .inl rwf)), (fd0, .inl (G.2 1, 40, .inr (.inl fdf))), (af0, .inl (G.2 3, 40, .inl aff)), (kO, .inl (G.2 4, 4, .inr (.inr (.inr (.inr (fun k => if k < 4 then some (kr k) else none)))))), (kr 0, .inl (G.2 0, 64, .inl (KP 0))), (kr 1, .inl (G.2 0, 64, .inl (KP 1))), (kr 2, .inl (G.2 0, 64, .inl (KP 2))), (kr 3, .inl (G.2 0, 64, .inl (KP 3)))] → va_S A s.heap H locs → wX4_restoreK_L2 post K25 KP lv p1 n i3 DD' → W p l e (headSpec (wl_X4_restoreK) rm_X4_restoreK).room s m ([.ref m0, .int p1, .ref (kr lv)] : List Value).toArray below meth c H locs 0 0 (MQ below QC ([.ref m0, .int p1, .ref (kr lv)] : List Value).toArray s 0 0 A) (F0 m 2 ls []) := by
    intro K25 _ hexit25 n
    induction n with
    | zero => intro i3 DD' ls H locs hl hP hD hS h; exact False.elim h
    | succ n ih =>
      intro i3 DD' ls H locs hl hP hD hS h
      refine lv_iload_n hx hb dX4_restore_2 rfl (lv_at hl 3 rfl) ?_
      refine lv_bipush (v := 64) hx hb dX4_restore_3 (by decide) ?_
      refine lv_icmp_ge (tgt := 25) hx hb dX4_restore_5 (by decide) (fun hc => ?_) (fun hc => ?_)
      · have h := h.1 hc
        have hl := lv_sub (l' := [(0, .ref m0), (1, .int p1), (2, .ref (kr lv)), (3, .int i3)]) hl [0, 1, 2, 3] rfl
        exact hexit25 _ _ ls H locs hl hP hD hS h
      · have h := h.2 hc
        refine lv_aload_n hx hb dX4_restore_8 rfl (lv_at hl 0 rfl) ?_
        refine va_get (D := G.1) (ci := 7) (v := .ref dO) (C := RX4) (T := TX4) (N := 15) hx hb hts igX4 hown hK hP 0 rfl rfl 3 (by decide) (hts _ q1008) (fun _ h9 => h9) rfl dX4_restore_9 ?_
        refine lv_iload_n hx hb dX4_restore_12 rfl (lv_at hl 1 rfl) ?_
        obtain ⟨hin, h⟩ := h
        have hf_1 : p1.toNatClampNeg < 6 := vpLt hin
        refine va_aldA (b := dr (p1.toNatClampNeg)) hx hb hK hP 1 4 rfl rfl hin (if_pos hf_1) dX4_restore_13 ?_
        refine lv_iload_n hx hb dX4_restore_14 rfl (lv_at hl 3 rfl) ?_
        refine lv_aload_n hx hb dX4_restore_15 rfl (lv_at hl 2 rfl) ?_
        refine lv_iload_n hx hb dX4_restore_16 rfl (lv_at hl 3 rfl) ?_
        obtain ⟨hin, h⟩ := h
        refine va_iald (D := G.1) (f := KP lv) hx hb hK hP (16 + lv) 0 (famget4 (pre := [(m0, .inr (7, [.int th, .int mr, .long po, .ref dO, .ref sl, .ref ct0, .int mf, .int sp, .ref st0, .ref fs0, .ref jn0, .ref rw0, .ref fd0, .ref af0, .ref kO])), (dO, .inl (G.2 4, 6, .inr (.inr (.inr (.inr (fun k => if k < 6 then some (dr k) else none)))))), (dr 0, .inl (G.2 0, 64, .inl (DD' 0))), (dr 1, .inl (G.2 0, 64, .inl (DD' 1))), (dr 2, .inl (G.2 0, 64, .inl (DD' 2))), (dr 3, .inl (G.2 0, 64, .inl (DD' 3))), (dr 4, .inl (G.2 0, 64, .inl (DD' 4))), (dr 5, .inl (G.2 0, 64, .inl (DD' 5))), (ct0, .inl (G.2 0, 6, .inl ctf)), (st0, .inl (G.2 0, 4096, .inl stf)), (fs0, .inl (G.2 0, 4096, .inl fsf)), (jn0, .inl (G.2 0, 64, .inl jnf)), (rw0, .inl (G.2 0, 64, .inl rwf)), (fd0, .inl (G.2 1, 40, .inr (.inl fdf))), (af0, .inl (G.2 3, 40, .inl aff)), (kO, .inl (G.2 4, 4, .inr (.inr (.inr (.inr (fun k => if k < 4 then some (kr k) else none))))))]) (post := []) (fun j => (kr j, .inl (G.2 0, 64, .inl (KP j)))) hl_) rfl hin dX4_restore_17 ?_
        obtain ⟨hin, h⟩ := h
        refine va_iast (D := G.1) (f := DD' (p1.toNatClampNeg)) hx hb hK hP hD hS (2 + (p1.toNatClampNeg)) 0 (famget6 (pre := [(m0, .inr (7, [.int th, .int mr, .long po, .ref dO, .ref sl, .ref ct0, .int mf, .int sp, .ref st0, .ref fs0, .ref jn0, .ref rw0, .ref fd0, .ref af0, .ref kO])), (dO, .inl (G.2 4, 6, .inr (.inr (.inr (.inr (fun k => if k < 6 then some (dr k) else none))))))]) (post := [(ct0, .inl (G.2 0, 6, .inl ctf)), (st0, .inl (G.2 0, 4096, .inl stf)), (fs0, .inl (G.2 0, 4096, .inl fsf)), (jn0, .inl (G.2 0, 64, .inl jnf)), (rw0, .inl (G.2 0, 64, .inl rwf)), (fd0, .inl (G.2 1, 40, .inr (.inl fdf))), (af0, .inl (G.2 3, 40, .inl aff)), (kO, .inl (G.2 4, 4, .inr (.inr (.inr (.inr (fun k => if k < 4 then some (kr k) else none)))))), (kr 0, .inl (G.2 0, 64, .inl (KP 0))), (kr 1, .inl (G.2 0, 64, .inl (KP 1))), (kr 2, .inl (G.2 0, 64, .inl (KP 2))), (kr 3, .inl (G.2 0, 64, .inl (KP 3)))]) (fun j => (dr j, .inl (G.2 0, 64, .inl (DD' j)))) hf_1) rfl hin dX4_restore_18 (fun H locs hP hD hS => ?_)
        have eW : ([(m0, .inr (7, [.int th, .int mr, .long po, .ref dO, .ref sl, .ref ct0, .int mf, .int sp, .ref st0, .ref fs0, .ref jn0, .ref rw0, .ref fd0, .ref af0, .ref kO])), (dO, .inl (G.2 4, 6, .inr (.inr (.inr (.inr (fun k => if k < 6 then some (dr k) else none)))))), (dr 0, .inl (G.2 0, 64, .inl (DD' 0))), (dr 1, .inl (G.2 0, 64, .inl (DD' 1))), (dr 2, .inl (G.2 0, 64, .inl (DD' 2))), (dr 3, .inl (G.2 0, 64, .inl (DD' 3))), (dr 4, .inl (G.2 0, 64, .inl (DD' 4))), (dr 5, .inl (G.2 0, 64, .inl (DD' 5))), (ct0, .inl (G.2 0, 6, .inl ctf)), (st0, .inl (G.2 0, 4096, .inl stf)), (fs0, .inl (G.2 0, 4096, .inl fsf)), (jn0, .inl (G.2 0, 64, .inl jnf)), (rw0, .inl (G.2 0, 64, .inl rwf)), (fd0, .inl (G.2 1, 40, .inr (.inl fdf))), (af0, .inl (G.2 3, 40, .inl aff)), (kO, .inl (G.2 4, 4, .inr (.inr (.inr (.inr (fun k => if k < 4 then some (kr k) else none)))))), (kr 0, .inl (G.2 0, 64, .inl (KP 0))), (kr 1, .inl (G.2 0, 64, .inl (KP 1))), (kr 2, .inl (G.2 0, 64, .inl (KP 2))), (kr 3, .inl (G.2 0, 64, .inl (KP 3)))] : va_W).set (2 + (p1.toNatClampNeg)) (dr (p1.toNatClampNeg), .inl (G.2 0, 64, .inl (upd (DD' (p1.toNatClampNeg)) i3.toNatClampNeg (KP lv i3.toNatClampNeg)))) = [(m0, .inr (7, [.int th, .int mr, .long po, .ref dO, .ref sl, .ref ct0, .int mf, .int sp, .ref st0, .ref fs0, .ref jn0, .ref rw0, .ref fd0, .ref af0, .ref kO])), (dO, .inl (G.2 4, 6, .inr (.inr (.inr (.inr (fun k => if k < 6 then some (dr k) else none)))))), (dr 0, .inl (G.2 0, 64, .inl ((vf_upd DD' (p1.toNatClampNeg) (upd (DD' (p1.toNatClampNeg)) i3.toNatClampNeg (KP lv i3.toNatClampNeg))) 0))), (dr 1, .inl (G.2 0, 64, .inl ((vf_upd DD' (p1.toNatClampNeg) (upd (DD' (p1.toNatClampNeg)) i3.toNatClampNeg (KP lv i3.toNatClampNeg))) 1))), (dr 2, .inl (G.2 0, 64, .inl ((vf_upd DD' (p1.toNatClampNeg) (upd (DD' (p1.toNatClampNeg)) i3.toNatClampNeg (KP lv i3.toNatClampNeg))) 2))), (dr 3, .inl (G.2 0, 64, .inl ((vf_upd DD' (p1.toNatClampNeg) (upd (DD' (p1.toNatClampNeg)) i3.toNatClampNeg (KP lv i3.toNatClampNeg))) 3))), (dr 4, .inl (G.2 0, 64, .inl ((vf_upd DD' (p1.toNatClampNeg) (upd (DD' (p1.toNatClampNeg)) i3.toNatClampNeg (KP lv i3.toNatClampNeg))) 4))), (dr 5, .inl (G.2 0, 64, .inl ((vf_upd DD' (p1.toNatClampNeg) (upd (DD' (p1.toNatClampNeg)) i3.toNatClampNeg (KP lv i3.toNatClampNeg))) 5))), (ct0, .inl (G.2 0, 6, .inl ctf)), (st0, .inl (G.2 0, 4096, .inl stf)), (fs0, .inl (G.2 0, 4096, .inl fsf)), (jn0, .inl (G.2 0, 64, .inl jnf)), (rw0, .inl (G.2 0, 64, .inl rwf)), (fd0, .inl (G.2 1, 40, .inr (.inl fdf))), (af0, .inl (G.2 3, 40, .inl aff)), (kO, .inl (G.2 4, 4, .inr (.inr (.inr (.inr (fun k => if k < 4 then some (kr k) else none)))))), (kr 0, .inl (G.2 0, 64, .inl (KP 0))), (kr 1, .inl (G.2 0, 64, .inl (KP 1))), (kr 2, .inl (G.2 0, 64, .inl (KP 2))), (kr 3, .inl (G.2 0, 64, .inl (KP 3)))] := famset6 (G := G) (pre := [(m0, .inr (7, [.int th, .int mr, .long po, .ref dO, .ref sl, .ref ct0, .int mf, .int sp, .ref st0, .ref fs0, .ref jn0, .ref rw0, .ref fd0, .ref af0, .ref kO])), (dO, .inl (G.2 4, 6, .inr (.inr (.inr (.inr (fun k => if k < 6 then some (dr k) else none))))))]) (post := [(ct0, .inl (G.2 0, 6, .inl ctf)), (st0, .inl (G.2 0, 4096, .inl stf)), (fs0, .inl (G.2 0, 4096, .inl fsf)), (jn0, .inl (G.2 0, 64, .inl jnf)), (rw0, .inl (G.2 0, 64, .inl rwf)), (fd0, .inl (G.2 1, 40, .inr (.inl fdf))), (af0, .inl (G.2 3, 40, .inl aff)), (kO, .inl (G.2 4, 4, .inr (.inr (.inr (.inr (fun k => if k < 4 then some (kr k) else none)))))), (kr 0, .inl (G.2 0, 64, .inl (KP 0))), (kr 1, .inl (G.2 0, 64, .inl (KP 1))), (kr 2, .inl (G.2 0, 64, .inl (KP 2))), (kr 3, .inl (G.2 0, 64, .inl (KP 3)))]) (dr := dr) (D := DD') hf_1 (upd (DD' (p1.toNatClampNeg)) i3.toNatClampNeg (KP lv i3.toNatClampNeg))
        rw [eW] at hP hD
        have hP : PP G [(m0, .inr (7, [.int th, .int mr, .long po, .ref dO, .ref sl, .ref ct0, .int mf, .int sp, .ref st0, .ref fs0, .ref jn0, .ref rw0, .ref fd0, .ref af0, .ref kO])), (dO, .inl (G.2 4, 6, .inr (.inr (.inr (.inr (fun k => if k < 6 then some (dr k) else none)))))), (dr 0, .inl (G.2 0, 64, .inl ((vf_upd DD' (p1.toNatClampNeg) (upd (DD' (p1.toNatClampNeg)) i3.toNatClampNeg (KP lv i3.toNatClampNeg))) 0))), (dr 1, .inl (G.2 0, 64, .inl ((vf_upd DD' (p1.toNatClampNeg) (upd (DD' (p1.toNatClampNeg)) i3.toNatClampNeg (KP lv i3.toNatClampNeg))) 1))), (dr 2, .inl (G.2 0, 64, .inl ((vf_upd DD' (p1.toNatClampNeg) (upd (DD' (p1.toNatClampNeg)) i3.toNatClampNeg (KP lv i3.toNatClampNeg))) 2))), (dr 3, .inl (G.2 0, 64, .inl ((vf_upd DD' (p1.toNatClampNeg) (upd (DD' (p1.toNatClampNeg)) i3.toNatClampNeg (KP lv i3.toNatClampNeg))) 3))), (dr 4, .inl (G.2 0, 64, .inl ((vf_upd DD' (p1.toNatClampNeg) (upd (DD' (p1.toNatClampNeg)) i3.toNatClampNeg (KP lv i3.toNatClampNeg))) 4))), (dr 5, .inl (G.2 0, 64, .inl ((vf_upd DD' (p1.toNatClampNeg) (upd (DD' (p1.toNatClampNeg)) i3.toNatClampNeg (KP lv i3.toNatClampNeg))) 5))), (ct0, .inl (G.2 0, 6, .inl ctf)), (st0, .inl (G.2 0, 4096, .inl stf)), (fs0, .inl (G.2 0, 4096, .inl fsf)), (jn0, .inl (G.2 0, 64, .inl jnf)), (rw0, .inl (G.2 0, 64, .inl rwf)), (fd0, .inl (G.2 1, 40, .inr (.inl fdf))), (af0, .inl (G.2 3, 40, .inl aff)), (kO, .inl (G.2 4, 4, .inr (.inr (.inr (.inr (fun k => if k < 4 then some (kr k) else none)))))), (kr 0, .inl (G.2 0, 64, .inl (KP 0))), (kr 1, .inl (G.2 0, 64, .inl (KP 1))), (kr 2, .inl (G.2 0, 64, .inl (KP 2))), (kr 3, .inl (G.2 0, 64, .inl (KP 3)))] H := hP
        have hD : va_D A [(m0, .inr (7, [.int th, .int mr, .long po, .ref dO, .ref sl, .ref ct0, .int mf, .int sp, .ref st0, .ref fs0, .ref jn0, .ref rw0, .ref fd0, .ref af0, .ref kO])), (dO, .inl (G.2 4, 6, .inr (.inr (.inr (.inr (fun k => if k < 6 then some (dr k) else none)))))), (dr 0, .inl (G.2 0, 64, .inl ((vf_upd DD' (p1.toNatClampNeg) (upd (DD' (p1.toNatClampNeg)) i3.toNatClampNeg (KP lv i3.toNatClampNeg))) 0))), (dr 1, .inl (G.2 0, 64, .inl ((vf_upd DD' (p1.toNatClampNeg) (upd (DD' (p1.toNatClampNeg)) i3.toNatClampNeg (KP lv i3.toNatClampNeg))) 1))), (dr 2, .inl (G.2 0, 64, .inl ((vf_upd DD' (p1.toNatClampNeg) (upd (DD' (p1.toNatClampNeg)) i3.toNatClampNeg (KP lv i3.toNatClampNeg))) 2))), (dr 3, .inl (G.2 0, 64, .inl ((vf_upd DD' (p1.toNatClampNeg) (upd (DD' (p1.toNatClampNeg)) i3.toNatClampNeg (KP lv i3.toNatClampNeg))) 3))), (dr 4, .inl (G.2 0, 64, .inl ((vf_upd DD' (p1.toNatClampNeg) (upd (DD' (p1.toNatClampNeg)) i3.toNatClampNeg (KP lv i3.toNatClampNeg))) 4))), (dr 5, .inl (G.2 0, 64, .inl ((vf_upd DD' (p1.toNatClampNeg) (upd (DD' (p1.toNatClampNeg)) i3.toNatClampNeg (KP lv i3.toNatClampNeg))) 5))), (ct0, .inl (G.2 0, 6, .inl ctf)), (st0, .inl (G.2 0, 4096, .inl stf)), (fs0, .inl (G.2 0, 4096, .inl fsf)), (jn0, .inl (G.2 0, 64, .inl jnf)), (rw0, .inl (G.2 0, 64, .inl rwf)), (fd0, .inl (G.2 1, 40, .inr (.inl fdf))), (af0, .inl (G.2 3, 40, .inl aff)), (kO, .inl (G.2 4, 4, .inr (.inr (.inr (.inr (fun k => if k < 4 then some (kr k) else none)))))), (kr 0, .inl (G.2 0, 64, .inl (KP 0))), (kr 1, .inl (G.2 0, 64, .inl (KP 1))), (kr 2, .inl (G.2 0, 64, .inl (KP 2))), (kr 3, .inl (G.2 0, 64, .inl (KP 3)))] := hD
        refine lv_iinc (v := (i3 + 1)) hx hb dX4_restore_19 hl (k := 3) rfl (by rw [show Int32.ofInt 1 = 1 from by decide]) (Nat.le_of_ble_eq_true rfl) rfl (fun ls hl => ?_)
        have hl : lv_has ls 4 [(3, .int (i3 + 1)), (0, .ref m0), (1, .int p1), (2, .ref (kr lv))] := hl
        refine lv_goto (tgt := 2) hx hb dX4_restore_22 (by decide) ?_
        have hl := lv_sub (l' := [(0, .ref m0), (1, .int p1), (2, .ref (kr lv)), (3, .int (i3 + 1))]) hl [1, 2, 3, 0] rfl
        exact ih _ _ ls H locs hl hP hD hS h
  refine lv_iconst (v := 0) hx hb dX4_restore_0 (by decide) ?_
  refine lv_istore_n hx hb dX4_restore_1 rfl hl (Nat.le_of_ble_eq_true rfl) rfl (fun ls hl => ?_)
  have hl : lv_has ls 4 [(3, .int (0 : Int32)), (0, .ref m0), (1, .int p1), (2, .ref (kr lv))] := hl
  have hl := lv_sub (l' := [(0, .ref m0), (1, .int p1), (2, .ref (kr lv)), (3, .int (0 : Int32))]) hl [1, 2, 3, 0] rfl
  obtain ⟨nF, h⟩ := h
  refine loop2 _ trivial ?_ nF (0 : Int32) DD _ _ _ hl hP hD hS h
  · intro i3 DD' ls H locs hl hP hD hS h
    subst hQC; exact W.vret hx hb hr (fun t ht hW => ⟨⟨DD', rfl, h, by rw [ht]; exact hP, hD⟩, hS.F ht⟩) hS.2.2 dX4_restore_25
