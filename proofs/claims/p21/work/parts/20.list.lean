theorem q1076 : (Cond.selects RJx4a65c xSize yJx4a65c_size_8abf5) ∈ lwg := lwgR 1076 (by decide +kernel) (by decide +kernel)
theorem q1078 : (Cond.instanceMethod yJx4a65c_size_8abf5) ∈ lwg := lwgR 1078 (by decide +kernel) (by decide +kernel)
theorem q1080 : (Cond.code yJx4a65c_size_8abf5 cJx4a65c_size_8abf5 1 (some .int)) ∈ lwg := lwgR 1080 (by decide +kernel) (by decide +kernel)
theorem q1089 : (Cond.selects RJx4a65c xGet yJx4a65c_get_915e3) ∈ lwg := lwgR 1089 (by decide +kernel) (by decide +kernel)
theorem q1091 : (Cond.instanceMethod yJx4a65c_get_915e3) ∈ lwg := lwgR 1091 (by decide +kernel) (by decide +kernel)
theorem q1093 : (Cond.code yJx4a65c_get_915e3 cJx4a65c_get_915e3 2 (some (.object "java/lang/Object"))) ∈ lwg := lwgR 1093 (by decide +kernel) (by decide +kernel)
theorem q1094 : (Cond.methodLink RJx4a65c 118 yJ15_checkIndex_7cf53) ∈ lwg := lwgR 1094 (by decide +kernel) (by decide +kernel)
theorem q1095 : (Cond.static yJ15_checkIndex_7cf53) ∈ lwg := lwgR 1095 (by decide +kernel) (by decide +kernel)
theorem q1096 : (Cond.code yJ15_checkIndex_7cf53 cJ15_checkIndex_7cf53 2 (some .int)) ∈ lwg := lwgR 1096 (by decide +kernel) (by decide +kernel)
theorem q1097 : (Cond.methodLink RJ15 105 yJ3_checkIndex_8e157) ∈ lwg := lwgR 1097 (by decide +kernel) (by decide +kernel)
theorem q1098 : (Cond.methodLink RJx4a65c 123 yJx4a65c_elementData_915e3) ∈ lwg := lwgR 1098 (by decide +kernel) (by decide +kernel)
theorem q1099 : (Cond.instanceMethod yJx4a65c_elementData_915e3) ∈ lwg := lwgR 1099 (by decide +kernel) (by decide +kernel)
theorem q1100 : (Cond.selects RJx4a65c yJx4a65c_elementData_915e3 yJx4a65c_elementData_915e3) ∈ lwg := lwgR 1100 (by decide +kernel) (by decide +kernel)
theorem q1101 : (Cond.code yJx4a65c_elementData_915e3 cJx4a65c_elementData_915e3 2 (some (.object "java/lang/Object"))) ∈ lwg := lwgR 1101 (by decide +kernel) (by decide +kernel)
theorem q15 : (Cond.initialized RJ15) ∈ lwg := lwgR 15 (by decide +kernel) (by decide +kernel)
theorem q16 : (Cond.initialized RJ3) ∈ lwg := lwgR 16 (by decide +kernel) (by decide +kernel)
theorem q800 : (Cond.static yJ3_checkIndex_8e157) ∈ lwg := lwgR 800 (by decide +kernel) (by decide +kernel)
theorem q801 : (Cond.code yJ3_checkIndex_8e157 cJ3_checkIndex_8e157 3 (some .int)) ∈ lwg := lwgR 801 (by decide +kernel) (by decide +kernel)
theorem q9 : (Cond.initialized RJx4a65c) ∈ lwg := lwgR 9 (by decide +kernel) (by decide +kernel)
theorem q993 : (Cond.fieldLink RJx4a65c 9 "java/util/ArrayList" "elementData" "[Ljava/lang/Object;") ∈ lwg := lwgR 993 (by decide +kernel) (by decide +kernel)
theorem q994 : (Cond.fieldLink RJx4a65c 48 "java/util/ArrayList" "size" "I") ∈ lwg := lwgR 994 (by decide +kernel) (by decide +kernel)
theorem dJ3_checkIndex_8e157_0 : decode cJ3_checkIndex_8e157 0 = .ok (.iload_n 0, 1) := by decide +kernel
theorem dJ3_checkIndex_8e157_1 : decode cJ3_checkIndex_8e157 1 = .ok (.ifCond .lt 8, 3) := by decide +kernel
theorem dJ3_checkIndex_8e157_4 : decode cJ3_checkIndex_8e157 4 = .ok (.iload_n 0, 1) := by decide +kernel
theorem dJ3_checkIndex_8e157_5 : decode cJ3_checkIndex_8e157 5 = .ok (.iload_n 1, 1) := by decide +kernel
theorem dJ3_checkIndex_8e157_6 : decode cJ3_checkIndex_8e157 6 = .ok (.if_icmp .lt 10, 3) := by decide +kernel
theorem dJ3_checkIndex_8e157_9 : decode cJ3_checkIndex_8e157 9 = .ok (.aload_n 2, 1) := by decide +kernel
theorem dJ3_checkIndex_8e157_10 : decode cJ3_checkIndex_8e157 10 = .ok (.iload_n 0, 1) := by decide +kernel
theorem dJ3_checkIndex_8e157_11 : decode cJ3_checkIndex_8e157 11 = .ok (.iload_n 1, 1) := by decide +kernel
theorem dJ3_checkIndex_8e157_12 : decode cJ3_checkIndex_8e157 12 = .ok (.invokestatic 95, 3) := by decide +kernel
theorem dJ3_checkIndex_8e157_15 : decode cJ3_checkIndex_8e157 15 = .ok (.athrow, 1) := by decide +kernel
theorem dJ3_checkIndex_8e157_16 : decode cJ3_checkIndex_8e157 16 = .ok (.iload_n 0, 1) := by decide +kernel
theorem dJ3_checkIndex_8e157_17 : decode cJ3_checkIndex_8e157 17 = .ok (.ireturn, 1) := by decide +kernel
def wnJ3_checkIndex_8e157 (post : Int32 → Prop) (p1 : Int32) (p2 : Int32) : Prop :=
  ((p1 < 0) →
    False
  ) ∧ (¬ (p1 < 0) →
    ((p1 < p2) →
      post p1
    ) ∧ (¬ (p1 < p2) →
      False
    )
  )
abbrev wl_nJ3_checkIndex_8e157 : List Cond := .code yJ3_checkIndex_8e157 cJ3_checkIndex_8e157 3 (some .int) :: lwg
abbrev rm_nJ3_checkIndex_8e157 : Room := { frames := 0, cells := 0, slots := 0, locals := 0 }
set_option maxHeartbeats 4000000 in
set_option maxRecDepth 100000 in
theorem knJ3_checkIndex_8e157 {post : Int32 → Prop} (l : Launch) (G : GT) (p1 : Int32) (p2 : Int32) (h : wnJ3_checkIndex_8e157 post p1 p2) : Met l yJ3_checkIndex_8e157 wl_nJ3_checkIndex_8e157 rm_nJ3_checkIndex_8e157 (va_Pc [.int p1, .int p2, .null] (fun U => PP G [] U.heap ∧ KK G U)) (vp_Si post) 0 0 (fun _ => False) := by
  refine Met.ofW (cc := cJ3_checkIndex_8e157) (maxL := 3) (ret := (some .int)) (by decide) rfl ?_
  intro p e s m args below meth c s₁ B hml hv
  obtain ⟨rfl, hP, hKK⟩ := hv
  obtain ⟨hK, hN, hR, hFW, hNC⟩ := id hKK
  have hx := B.exec
  have hb := B.bytes
  have hr := B.returns
  have hts0 := atoms_spec (ws := wl_nJ3_checkIndex_8e157) B.pre
  have hts : ∀ w ∈ lwg, w.before ([.int p1, .int p2, .null] : List Value).toArray s = true := fun w hw => hts0 w (List.mem_cons_of_mem _ hw)
  have hown : s.vm.findClass RJ3 = some m.cls := findClass_of_methodNamed B.named
  have hlocks := B.notSynchronized
  have hP : PP G [] s.heap := hP
  have hl := lv_entry ([.int p1, .int p2, .null]) (n := 3) (Nat.le_of_ble_eq_true rfl)
  rw [lg_entry_eq]
  generalize (lg_sl ([.int p1, .int p2, .null]) ++ List.replicate (3 - (lg_sl ([.int p1, .int p2, .null])).length) Slot.unset).toArray = ls at hl ⊢
  have hl : lv_has ls 3 [(0, .int p1), (1, .int p2), (2, .null)] := hl
  refine lv_iload_n hx hb dJ3_checkIndex_8e157_0 rfl (lv_at hl 0 rfl) ?_
  refine lv_if_lt (tgt := 9) hx hb dJ3_checkIndex_8e157_1 (by decide) (fun hc => ?_) (fun hc => ?_)
  · have h := h.1 hc
    refine lv_aload_nN hx hb dJ3_checkIndex_8e157_9 rfl (lv_at hl 2 rfl) ?_
    refine lv_iload_n hx hb dJ3_checkIndex_8e157_10 rfl (lv_at hl 0 rfl) ?_
    refine lv_iload_n hx hb dJ3_checkIndex_8e157_11 rfl (lv_at hl 1 rfl) ?_
    exact False.elim h
  · have h := h.2 hc
    refine lv_iload_n hx hb dJ3_checkIndex_8e157_4 rfl (lv_at hl 0 rfl) ?_
    refine lv_iload_n hx hb dJ3_checkIndex_8e157_5 rfl (lv_at hl 1 rfl) ?_
    refine lv_icmp_lt (tgt := 16) hx hb dJ3_checkIndex_8e157_6 (by decide) (fun hc => ?_) (fun hc => ?_)
    · have h := h.1 hc
      refine lv_iload_n hx hb dJ3_checkIndex_8e157_16 rfl (lv_at hl 0 rfl) ?_
      exact W.iret (v := p1) hx hb hr (fun t ht _ => ⟨_, rfl, h, ht⟩) (fun _ hq => absurd hq List.not_mem_nil) dJ3_checkIndex_8e157_17
    · have h := h.2 hc
      refine lv_aload_nN hx hb dJ3_checkIndex_8e157_9 rfl (lv_at hl 2 rfl) ?_
      refine lv_iload_n hx hb dJ3_checkIndex_8e157_10 rfl (lv_at hl 0 rfl) ?_
      refine lv_iload_n hx hb dJ3_checkIndex_8e157_11 rfl (lv_at hl 1 rfl) ?_
      exact False.elim h
theorem dJ15_checkIndex_7cf53_0 : decode cJ15_checkIndex_7cf53 0 = .ok (.iload_n 0, 1) := by decide +kernel
theorem dJ15_checkIndex_7cf53_1 : decode cJ15_checkIndex_7cf53 1 = .ok (.iload_n 1, 1) := by decide +kernel
theorem dJ15_checkIndex_7cf53_2 : decode cJ15_checkIndex_7cf53 2 = .ok (.aconst_null, 1) := by decide +kernel
theorem dJ15_checkIndex_7cf53_3 : decode cJ15_checkIndex_7cf53 3 = .ok (.invokestatic 105, 3) := by decide +kernel
theorem dJ15_checkIndex_7cf53_6 : decode cJ15_checkIndex_7cf53 6 = .ok (.ireturn, 1) := by decide +kernel
def wJ15_checkIndex_7cf53 (post : Int32 → Prop) (p1 : Int32) (p2 : Int32) : Prop :=
  wnJ3_checkIndex_8e157 (fun r_1 : Int32 =>
    post r_1
    ) p1 p2
abbrev wl_J15_checkIndex_7cf53 : List Cond := .code yJ15_checkIndex_7cf53 cJ15_checkIndex_7cf53 2 (some .int) :: lwg
abbrev rm_J15_checkIndex_7cf53 : Room := { frames := 1, cells := 0, slots := 0, locals := 22 }
set_option maxHeartbeats 4000000 in
set_option maxRecDepth 100000 in
theorem kJ15_checkIndex_7cf53 {post : Int32 → Prop} (l : Launch) (G : GT) (p1 : Int32) (p2 : Int32) (h : wJ15_checkIndex_7cf53 post p1 p2) : Met l yJ15_checkIndex_7cf53 wl_J15_checkIndex_7cf53 rm_J15_checkIndex_7cf53 (va_Pc [.int p1, .int p2] (fun U => PP G [] U.heap ∧ KK G U)) (vp_Si post) 0 0 (fun _ => False) := by
  refine Met.ofW (cc := cJ15_checkIndex_7cf53) (maxL := 2) (ret := (some .int)) (by decide) rfl ?_
  intro p e s m args below meth c s₁ B hml hv
  obtain ⟨rfl, hP, hKK⟩ := hv
  obtain ⟨hK, hN, hR, hFW, hNC⟩ := id hKK
  have hx := B.exec
  have hb := B.bytes
  have hr := B.returns
  have hts0 := atoms_spec (ws := wl_J15_checkIndex_7cf53) B.pre
  have hts : ∀ w ∈ lwg, w.before ([.int p1, .int p2] : List Value).toArray s = true := fun w hw => hts0 w (List.mem_cons_of_mem _ hw)
  have hown : s.vm.findClass RJ15 = some m.cls := findClass_of_methodNamed B.named
  have hlocks := B.notSynchronized
  have hP : PP G [] s.heap := hP
  have hl := lv_entry ([.int p1, .int p2]) (n := 2) (Nat.le_of_ble_eq_true rfl)
  rw [lg_entry_eq]
  generalize (lg_sl ([.int p1, .int p2]) ++ List.replicate (2 - (lg_sl ([.int p1, .int p2])).length) Slot.unset).toArray = ls at hl ⊢
  have hl : lv_has ls 2 [(0, .int p1), (1, .int p2)] := hl
  refine lv_iload_n hx hb dJ15_checkIndex_7cf53_0 rfl (lv_at hl 0 rfl) ?_
  refine lv_iload_n hx hb dJ15_checkIndex_7cf53_1 rfl (lv_at hl 1 rfl) ?_
  refine lv_null hx hb dJ15_checkIndex_7cf53_2 ?_
  have hPc := hP
  refine rdI (va_runS (As := [.int p1, .int p2, .null]) (rest := []) ⟨hx, hb, hml, hown, hts⟩ (knJ3_checkIndex_8e157 l G p1 p2 h) (va_cwS 3 hts (gdS q1097 q800 q16 q801) rfl rfl rfl (by decide +kernel) ⟨Nat.le_of_ble_eq_true rfl, Nat.le_of_ble_eq_true rfl⟩) (preS hPc hKK) rfl rfl hl.1 rfl (lv_room (Nat.le_of_ble_eq_true rfl)) dJ15_checkIndex_7cf53_3 ⟨Nat.zero_le _, Nat.zero_le _⟩) (fun r_1 h => ?_)
  exact W.iret (v := r_1) hx hb hr (fun t ht _ => ⟨_, rfl, h, ht⟩) (fun _ hq => absurd hq List.not_mem_nil) dJ15_checkIndex_7cf53_6
theorem dJx4a65c_size_8abf5_0 : decode cJx4a65c_size_8abf5 0 = .ok (.aload_n 0, 1) := by decide +kernel
theorem dJx4a65c_size_8abf5_1 : decode cJx4a65c_size_8abf5 1 = .ok (.getfield 48, 3) := by decide +kernel
theorem dJx4a65c_size_8abf5_4 : decode cJx4a65c_size_8abf5 4 = .ok (.ireturn, 1) := by decide +kernel
def wJx4a65c_size_8abf5 (post : Int32 → Prop) (ln : Int32) : Prop :=
  post ln
abbrev wl_Jx4a65c_size_8abf5 : List Cond := .code yJx4a65c_size_8abf5 cJx4a65c_size_8abf5 1 (some .int) :: lwg
abbrev rm_Jx4a65c_size_8abf5 : Room := { frames := 0, cells := 0, slots := 0, locals := 0 }
set_option maxHeartbeats 4000000 in
set_option maxRecDepth 100000 in
theorem kJx4a65c_size_8abf5 {post : Int32 → Prop} (l : Launch) (G : GT) (l0 : Nat) (e0 : Nat) (lm : Int32) (ln : Int32) (h : wJx4a65c_size_8abf5 post ln) : Met l yJx4a65c_size_8abf5 wl_Jx4a65c_size_8abf5 rm_Jx4a65c_size_8abf5 (va_Pc [.ref l0] (fun U => PP G [(l0, .inr (2, [.int lm, .ref e0, .int ln]))] U.heap ∧ KK G U)) (vp_Si post) 0 0 (fun _ => False) := by
  refine Met.ofW (cc := cJx4a65c_size_8abf5) (maxL := 1) (ret := (some .int)) (by decide) rfl ?_
  intro p e s m args below meth c s₁ B hml hv
  obtain ⟨rfl, hP, hKK⟩ := hv
  obtain ⟨hK, hN, hR, hFW, hNC⟩ := id hKK
  have hx := B.exec
  have hb := B.bytes
  have hr := B.returns
  have hts0 := atoms_spec (ws := wl_Jx4a65c_size_8abf5) B.pre
  have hts : ∀ w ∈ lwg, w.before ([.ref l0] : List Value).toArray s = true := fun w hw => hts0 w (List.mem_cons_of_mem _ hw)
  have hown : s.vm.findClass RJx4a65c = some m.cls := findClass_of_methodNamed B.named
  have hlocks := B.notSynchronized
  have hP : PP G [(l0, .inr (2, [.int lm, .ref e0, .int ln]))] s.heap := hP
  have hl := lv_entry ([.ref l0]) (n := 1) (Nat.le_of_ble_eq_true rfl)
  rw [lg_entry_eq]
  generalize (lg_sl ([.ref l0]) ++ List.replicate (1 - (lg_sl ([.ref l0])).length) Slot.unset).toArray = ls at hl ⊢
  have hl : lv_has ls 1 [(0, .ref l0)] := hl
  refine lv_aload_n hx hb dJx4a65c_size_8abf5_0 rfl (lv_at hl 0 rfl) ?_
  refine va_get (D := G.1) (ci := 2) (v := .int ln) (C := RJx4a65c) (T := TJx4a65c) (N := 3) hx hb hts igJx4a65c hown hK hP 0 rfl rfl 2 (by decide) (hts _ q994) (fun _ h9 => h9) rfl dJx4a65c_size_8abf5_1 ?_
  exact W.iret (v := ln) hx hb hr (fun t ht _ => ⟨_, rfl, h, ht⟩) (fun _ hq => absurd hq List.not_mem_nil) dJx4a65c_size_8abf5_4
theorem dJx4a65c_elementData_915e3_0 : decode cJx4a65c_elementData_915e3 0 = .ok (.aload_n 0, 1) := by decide +kernel
theorem dJx4a65c_elementData_915e3_1 : decode cJx4a65c_elementData_915e3 1 = .ok (.getfield 9, 3) := by decide +kernel
theorem dJx4a65c_elementData_915e3_4 : decode cJx4a65c_elementData_915e3 4 = .ok (.iload_n 1, 1) := by decide +kernel
theorem dJx4a65c_elementData_915e3_5 : decode cJx4a65c_elementData_915e3 5 = .ok (.aaload, 1) := by decide +kernel
theorem dJx4a65c_elementData_915e3_6 : decode cJx4a65c_elementData_915e3 6 = .ok (.areturn, 1) := by decide +kernel
def wJx4a65c_elementData_915e3 (post : Option Nat → Prop) (cap : Nat) (ef : Nat → Option Nat) (p1 : Int32) : Prop :=
  vp_in p1 cap ∧
  post (ef p1.toNatClampNeg)
abbrev wl_Jx4a65c_elementData_915e3 : List Cond := .code yJx4a65c_elementData_915e3 cJx4a65c_elementData_915e3 2 (some (.object "java/lang/Object")) :: lwg
abbrev rm_Jx4a65c_elementData_915e3 : Room := { frames := 0, cells := 0, slots := 0, locals := 0 }
set_option maxHeartbeats 4000000 in
set_option maxRecDepth 100000 in
theorem kJx4a65c_elementData_915e3 {post : Option Nat → Prop} (l : Launch) (G : GT) (l0 : Nat) (e0 : Nat) (lm : Int32) (ln : Int32) (cap : Nat) (ef : Nat → Option Nat) (p1 : Int32) (h : wJx4a65c_elementData_915e3 post cap ef p1) : Met l yJx4a65c_elementData_915e3 wl_Jx4a65c_elementData_915e3 rm_Jx4a65c_elementData_915e3 (va_Pc [.ref l0, .int p1] (fun U => PP G [(l0, .inr (2, [.int lm, .ref e0, .int ln])), (e0, .inl (G.2 5, cap, .inr (.inr (.inr (.inr ef)))))] U.heap ∧ KK G U)) (va_Sq post) 0 0 (fun _ => False) := by
  refine Met.ofW (cc := cJx4a65c_elementData_915e3) (maxL := 2) (ret := (some (.object "java/lang/Object"))) (by decide) rfl ?_
  intro p e s m args below meth c s₁ B hml hv
  obtain ⟨rfl, hP, hKK⟩ := hv
  obtain ⟨hK, hN, hR, hFW, hNC⟩ := id hKK
  have hx := B.exec
  have hb := B.bytes
  have hr := B.returns
  have hts0 := atoms_spec (ws := wl_Jx4a65c_elementData_915e3) B.pre
  have hts : ∀ w ∈ lwg, w.before ([.ref l0, .int p1] : List Value).toArray s = true := fun w hw => hts0 w (List.mem_cons_of_mem _ hw)
  have hown : s.vm.findClass RJx4a65c = some m.cls := findClass_of_methodNamed B.named
  have hlocks := B.notSynchronized
  have hP : PP G [(l0, .inr (2, [.int lm, .ref e0, .int ln])), (e0, .inl (G.2 5, cap, .inr (.inr (.inr (.inr ef)))))] s.heap := hP
  have hl := lv_entry ([.ref l0, .int p1]) (n := 2) (Nat.le_of_ble_eq_true rfl)
  rw [lg_entry_eq]
  generalize (lg_sl ([.ref l0, .int p1]) ++ List.replicate (2 - (lg_sl ([.ref l0, .int p1])).length) Slot.unset).toArray = ls at hl ⊢
  have hl : lv_has ls 2 [(0, .ref l0), (1, .int p1)] := hl
  refine lv_aload_n hx hb dJx4a65c_elementData_915e3_0 rfl (lv_at hl 0 rfl) ?_
  refine va_get (D := G.1) (ci := 2) (v := .ref e0) (C := RJx4a65c) (T := TJx4a65c) (N := 3) hx hb hts igJx4a65c hown hK hP 0 rfl rfl 1 (by decide) (hts _ q993) (fun _ h9 => h9) rfl dJx4a65c_elementData_915e3_1 ?_
  refine lv_iload_n hx hb dJx4a65c_elementData_915e3_4 rfl (lv_at hl 1 rfl) ?_
  obtain ⟨hin, h⟩ := h
  refine va_aldq (D := G.1) hx hb hK hP 1 5 rfl rfl hin dJx4a65c_elementData_915e3_5 ?_
  exact W.aret (v := va_rf (ef p1.toNatClampNeg)) hx hb hr (by first | exact Or.inl ⟨_, rfl⟩ | exact Or.inr ⟨_, rfl⟩) (rfOr _) (fun t ht _ => ⟨_, rfl, h, ht⟩) (fun _ hq => absurd hq List.not_mem_nil) dJx4a65c_elementData_915e3_6
theorem dJx4a65c_get_915e3_0 : decode cJx4a65c_get_915e3 0 = .ok (.iload_n 1, 1) := by decide +kernel
theorem dJx4a65c_get_915e3_1 : decode cJx4a65c_get_915e3 1 = .ok (.aload_n 0, 1) := by decide +kernel
theorem dJx4a65c_get_915e3_2 : decode cJx4a65c_get_915e3 2 = .ok (.getfield 48, 3) := by decide +kernel
theorem dJx4a65c_get_915e3_5 : decode cJx4a65c_get_915e3 5 = .ok (.invokestatic 118, 3) := by decide +kernel
theorem dJx4a65c_get_915e3_8 : decode cJx4a65c_get_915e3 8 = .ok (.pop, 1) := by decide +kernel
theorem dJx4a65c_get_915e3_9 : decode cJx4a65c_get_915e3 9 = .ok (.aload_n 0, 1) := by decide +kernel
theorem dJx4a65c_get_915e3_10 : decode cJx4a65c_get_915e3 10 = .ok (.iload_n 1, 1) := by decide +kernel
theorem dJx4a65c_get_915e3_11 : decode cJx4a65c_get_915e3 11 = .ok (.invokevirtual 123, 3) := by decide +kernel
theorem dJx4a65c_get_915e3_14 : decode cJx4a65c_get_915e3 14 = .ok (.areturn, 1) := by decide +kernel
def wJx4a65c_get_915e3 (post : Option Nat → Prop) (ln : Int32) (cap : Nat) (ef : Nat → Option Nat) (p1 : Int32) : Prop :=
  wJ15_checkIndex_7cf53 (fun r_1 : Int32 =>
    wJx4a65c_elementData_915e3 (fun r_2 : Option Nat =>
      post r_2
      ) cap ef p1
    ) p1 ln
abbrev wl_Jx4a65c_get_915e3 : List Cond := .code yJx4a65c_get_915e3 cJx4a65c_get_915e3 2 (some (.object "java/lang/Object")) :: lwg
abbrev rm_Jx4a65c_get_915e3 : Room := { frames := 2, cells := 0, slots := 0, locals := 43 }
set_option maxHeartbeats 4000000 in
set_option maxRecDepth 100000 in
theorem kJx4a65c_get_915e3 {post : Option Nat → Prop} (l : Launch) (G : GT) (l0 : Nat) (e0 : Nat) (lm : Int32) (ln : Int32) (cap : Nat) (ef : Nat → Option Nat) (p1 : Int32) (h : wJx4a65c_get_915e3 post ln cap ef p1) : Met l yJx4a65c_get_915e3 wl_Jx4a65c_get_915e3 rm_Jx4a65c_get_915e3 (va_Pc [.ref l0, .int p1] (fun U => PP G [(l0, .inr (2, [.int lm, .ref e0, .int ln])), (e0, .inl (G.2 5, cap, .inr (.inr (.inr (.inr ef)))))] U.heap ∧ KK G U)) (va_Sq post) 0 0 (fun _ => False) := by
  refine Met.ofW (cc := cJx4a65c_get_915e3) (maxL := 2) (ret := (some (.object "java/lang/Object"))) (by decide) rfl ?_
  intro p e s m args below meth c s₁ B hml hv
  obtain ⟨rfl, hP, hKK⟩ := hv
  obtain ⟨hK, hN, hR, hFW, hNC⟩ := id hKK
  have hx := B.exec
  have hb := B.bytes
  have hr := B.returns
  have hts0 := atoms_spec (ws := wl_Jx4a65c_get_915e3) B.pre
  have hts : ∀ w ∈ lwg, w.before ([.ref l0, .int p1] : List Value).toArray s = true := fun w hw => hts0 w (List.mem_cons_of_mem _ hw)
  have hown : s.vm.findClass RJx4a65c = some m.cls := findClass_of_methodNamed B.named
  have hlocks := B.notSynchronized
  have hP : PP G [(l0, .inr (2, [.int lm, .ref e0, .int ln])), (e0, .inl (G.2 5, cap, .inr (.inr (.inr (.inr ef)))))] s.heap := hP
  have hl := lv_entry ([.ref l0, .int p1]) (n := 2) (Nat.le_of_ble_eq_true rfl)
  rw [lg_entry_eq]
  generalize (lg_sl ([.ref l0, .int p1]) ++ List.replicate (2 - (lg_sl ([.ref l0, .int p1])).length) Slot.unset).toArray = ls at hl ⊢
  have hl : lv_has ls 2 [(0, .ref l0), (1, .int p1)] := hl
  refine lv_iload_n hx hb dJx4a65c_get_915e3_0 rfl (lv_at hl 1 rfl) ?_
  refine lv_aload_n hx hb dJx4a65c_get_915e3_1 rfl (lv_at hl 0 rfl) ?_
  refine va_get (D := G.1) (ci := 2) (v := .int ln) (C := RJx4a65c) (T := TJx4a65c) (N := 3) hx hb hts igJx4a65c hown hK hP 0 rfl rfl 2 (by decide) (hts _ q994) (fun _ h9 => h9) rfl dJx4a65c_get_915e3_2 ?_
  have hPc := va_P.sub (ws' := []) hP [] rfl
  refine rdI (va_runS (As := [.int p1, .int ln]) (rest := []) ⟨hx, hb, hml, hown, hts⟩ (kJ15_checkIndex_7cf53 l G p1 ln h) (va_cwS 2 hts (gdS q1094 q1095 q15 q1096) rfl rfl rfl (by decide +kernel) ⟨Nat.le_of_ble_eq_true rfl, Nat.le_of_ble_eq_true rfl⟩) (preS hPc hKK) rfl rfl hl.1 rfl (lv_room (Nat.le_of_ble_eq_true rfl)) dJx4a65c_get_915e3_5 ⟨Nat.zero_le _, Nat.zero_le _⟩) (fun r_1 h => ?_)
  refine lv_pop hx hb dJx4a65c_get_915e3_8 rfl ?_
  refine lv_aload_n hx hb dJx4a65c_get_915e3_9 rfl (lv_at hl 0 rfl) ?_
  refine lv_iload_n hx hb dJx4a65c_get_915e3_10 rfl (lv_at hl 1 rfl) ?_
  have hPc := hP
  refine rdQ (va_runV (C := RJx4a65c) (As := [.int p1]) (rest := []) ⟨hx, hb, hml, hown, hts⟩ (kJx4a65c_elementData_915e3 l G l0 e0 lm ln cap ef p1 h) (cwV 1 hts (gdV q1098 q1099 q1100 q9 q1101) rfl rfl rfl (by decide +kernel) ⟨Nat.le_of_ble_eq_true rfl, Nat.le_of_ble_eq_true rfl⟩) (preV hPc hKK (va_recv hK hPc (ci := 2) (q0 := 0) rfl rfl)) rfl rfl hl.1 rfl (lv_room (Nat.le_of_ble_eq_true rfl)) dJx4a65c_get_915e3_11 ⟨Nat.zero_le _, Nat.zero_le _⟩) (fun r_2 h => ?_)
  exact W.aret (v := va_rf r_2) hx hb hr (by first | exact Or.inl ⟨_, rfl⟩ | exact Or.inr ⟨_, rfl⟩) (rfOr _) (fun t ht _ => ⟨_, rfl, h, ht⟩) (fun _ hq => absurd hq List.not_mem_nil) dJx4a65c_get_915e3_14
section LST
variable {p : Program} {l : Launch} {e : Env} {R : Room} {s : State} {m : MethodId} {args : Array Value} {below : List Frame} {meth : Method} {c : Code} {H : Heap} {locs : List Loc} {cells slots : Nat} {Q : State → Prop} {pc : Nat} {ls : Array Slot} {rest st0 : List Value} {a : Array Value}
theorem gdF {own C : String} {idx : Nat} {x y : MethodName} {c : Cond} (h1 : Cond.methodLink own idx x ∈ lwg) (h2 : Cond.selects C x y ∈ lwg) (h3 : Cond.instanceMethod y ∈ lwg) (h4 : Cond.initialized y.cls ∈ lwg) (h5 : c ∈ lwg) : GoodIn lwg (va_wsF own idx C x y (c :: lwg)) := gdI (fun w hw => by
  rcases List.mem_append.mp hw with h | h
  · simp only [List.mem_cons, List.not_mem_nil, or_false] at h
    rcases h with rfl | rfl | rfl | rfl
    · exact h1
    · exact h2
    · exact h3
    · exact h4
  · exact (List.mem_cons.mp h).elim (fun e => e ▸ h5) id)
theorem nIclamp {i : Int32} (h : ¬ i < 0) : nI i.toNatClampNeg = i := by
  apply Int32.toInt_inj.mp
  have h1 : (0 : Int) ≤ i.toInt := by
    have h2 : ¬ i.toInt < (0 : Int32).toInt := fun q => h (Int32.lt_iff_toInt_lt.mpr q)
    rw [show (0 : Int32).toInt = 0 by decide] at h2
    omega
  have h3 : i.toInt < 2 ^ 31 := i.toInt_lt
  have h4 : i.toNatClampNeg = i.toInt.toNat := rfl
  rw [nI_toInt (by rw [h4]; omega), h4]
  omega
theorem sizeWp {ln : Int32} {post : Int32 → Prop} (h : post ln) : wJx4a65c_size_8abf5 post ln := h
theorem getWp {ln : Int32} {n cap : Nat} {ef : Nat → Option Nat} {post : Option Nat → Prop} {i : Int32} (hln : ln = nI n) (hn : n ≤ cap) (hcap : cap < 2 ^ 31) (hi : vp_in i n) (h : post (ef i.toNatClampNeg)) : wJx4a65c_get_915e3 post ln cap ef i := by
  have h0 : ¬ i < 0 := fun q => hi (Or.inl q)
  have h1 : i < ln := by
    have h2 := vpLt hi
    rw [hln, ← show nI i.toNatClampNeg = i from nIclamp h0]
    exact nI_lt h2 (by omega)
  exact ⟨fun q => absurd q h0, fun _ => ⟨fun _ => ⟨fun q => hi (q.elim Or.inl (fun q => Or.inr (Nat.le_trans hn q))), h⟩, fun q => absurd h1 q⟩⟩
theorem listSize {cc : ByteArray} {nL count : Nat} {own : String} {index : Nat} {G : GT} {sl sn : Nat} {sa : Nat → Nat} {sq : Nat → Nat → Int32} {A : Nat → Prop} {H0 : Heap} (hSS : SS G sl sn sa sq A s H0) (hq : ∀ a : Nat, a < H0.size → ¬ A a → H[a]? = H0[a]?) (S : CallFix p m c cc nL s args lwg own) (hKK : KK G s) (hK : va_K G.1 vwCl (TY G) s) (hl : Cond.methodLink own index xSize ∈ lwg) (hsize : ls.size = nL) (hW : 2 * (F0 m pc ls (Value.ref sl :: rest)).monitorRoom + (rest.map fun v => v.category).sum ≤ 8) (hRf : 5 ≤ R.frames) (hRl : 120 ≤ R.locals) (hdg : decode cc pc = .ok (.invokeinterface index count, 5))
    (kk : W p l e R s m args below meth c H locs cells slots Q (F0 m (pc + 5) ls (.int (nI sn) :: rest))) (hf : cells ≤ R.cells ∧ slots ≤ R.slots := by first | exact ⟨Nat.zero_le _, Nat.zero_le _⟩ | exact ⟨Nat.le_of_ble_eq_true rfl, Nat.le_of_ble_eq_true rfl⟩) : W p l e R s m args below meth c H locs cells slots Q (F0 m pc ls (.ref sl :: rest)) := by
  obtain ⟨ed, mcn, ⟨hC, h2⟩, h3⟩ := hSS.kept hq
  refine va_csFi (post := fun r => r = nI sn) (va_runF (C := RJx4a65c) (x := xSize) (As := []) (rest := rest) (hK.1 2 _ rfl).2 S (kJx4a65c_size_8abf5 l G sl ed mcn (nI sn) rfl) (va_cwF 0 S.2.2.2.2 (gdF hl q1076 q1078 q9 q1080) rfl rfl rfl hKK.2.2.2.1.1 (by decide +kernel) ⟨Nat.le_trans (by decide) hRf, Nat.le_trans (by decide) hRl⟩) (preV hC hKK (va_recv hK hC (ci := 2) (q0 := 0) rfl rfl)) rfl rfl hsize rfl hW hdg hf) (fun r hr => ?_)
  rw [hr]
  exact kk
theorem listGet {cc : ByteArray} {nL count : Nat} {own : String} {index : Nat} {G : GT} {sl sn : Nat} {sa : Nat → Nat} {sq : Nat → Nat → Int32} {A : Nat → Prop} {H0 : Heap} (hSS : SS G sl sn sa sq A s H0) (hq : ∀ a : Nat, a < H0.size → ¬ A a → H[a]? = H0[a]?) {i : Int32} (hi : vp_in i sn) (S : CallFix p m c cc nL s args lwg own) (hKK : KK G s) (hK : va_K G.1 vwCl (TY G) s) (hl : Cond.methodLink own index xGet ∈ lwg) (hsize : ls.size = nL) (hW : 2 * (F0 m pc ls (.int i :: Value.ref sl :: rest)).monitorRoom + (rest.map fun v => v.category).sum ≤ 8) (hRf : 5 ≤ R.frames) (hRl : 120 ≤ R.locals) (hdg : decode cc pc = .ok (.invokeinterface index count, 5))
    (kk : W p l e R s m args below meth c H locs cells slots Q (F0 m (pc + 5) ls (.ref (sa i.toNatClampNeg) :: rest))) (hf : cells ≤ R.cells ∧ slots ≤ R.slots := by first | exact ⟨Nat.zero_le _, Nat.zero_le _⟩ | exact ⟨Nat.le_of_ble_eq_true rfl, Nat.le_of_ble_eq_true rfl⟩) : W p l e R s m args below meth c H locs cells slots Q (F0 m pc ls (.int i :: .ref sl :: rest)) := by
  obtain ⟨ed, mcn, ⟨hC1, h2⟩, h3, h4, h5⟩ := hSS.kept hq
  obtain ⟨cap, ef, ⟨hC2, h8⟩, h9, h6, h7⟩ := h5 (Nat.lt_of_le_of_lt (Nat.zero_le _) (vpLt hi))
  have hC := va_P.app hC1 hC2
  refine va_csFq (post := fun r => r = some (sa i.toNatClampNeg)) (va_runF (C := RJx4a65c) (x := xGet) (As := [.int i]) (rest := rest) (hK.1 2 _ rfl).2 S (kJx4a65c_get_915e3 l G sl ed mcn (nI sn) cap ef i (getWp rfl h6 h7 hi (h9 _ (vpLt hi)))) (va_cwF 1 S.2.2.2.2 (gdF hl q1089 q1091 q9 q1093) rfl rfl rfl hKK.2.2.2.1.2.1 (by decide +kernel) ⟨Nat.le_trans (by decide) hRf, Nat.le_trans (by decide) hRl⟩) (preV hC hKK (va_recv hK hC (ci := 2) (q0 := 0) rfl rfl)) rfl rfl hsize rfl hW hdg hf) (fun r hr => ?_)
  rw [hr]
  exact kk
end LST

