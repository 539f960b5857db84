theorem q1370 : (Cond.methodLink RJ0 492 yJ0_isLatin1_aae02) ∈ lwg := lwgR 1370 (by decide +kernel) (by decide +kernel)
theorem q1371 : (Cond.instanceMethod yJ0_isLatin1_aae02) ∈ lwg := lwgR 1371 (by decide +kernel) (by decide +kernel)
theorem q1372 : (Cond.selects RJ0 yJ0_isLatin1_aae02 yJ0_isLatin1_aae02) ∈ lwg := lwgR 1372 (by decide +kernel) (by decide +kernel)
theorem q1373 : (Cond.code yJ0_isLatin1_aae02 cJ0_isLatin1_aae02 1 (some .boolean)) ∈ lwg := lwgR 1373 (by decide +kernel) (by decide +kernel)
theorem q1374 : (Cond.methodLink RJ0 495 yJ1_charAt_3b067) ∈ lwg := lwgR 1374 (by decide +kernel) (by decide +kernel)
theorem q1375 : (Cond.static yJ1_charAt_3b067) ∈ lwg := lwgR 1375 (by decide +kernel) (by decide +kernel)
theorem q1376 : (Cond.code yJ1_charAt_3b067 cJ1_charAt_3b067 2 (some .char)) ∈ lwg := lwgR 1376 (by decide +kernel) (by decide +kernel)
theorem q1377 : (Cond.methodLink RJ1 9 yJ0_checkIndex_df160) ∈ lwg := lwgR 1377 (by decide +kernel) (by decide +kernel)
theorem q25 : (Cond.initialized RJ4) ∈ lwg := lwgR 25 (by decide +kernel) (by decide +kernel)
theorem q679 : (Cond.methodLink RJ4 1 yJ5_init_d00df) ∈ lwg := lwgR 679 (by decide +kernel) (by decide +kernel)
theorem q680 : (Cond.instanceMethod yJ5_init_d00df) ∈ lwg := lwgR 680 (by decide +kernel) (by decide +kernel)
theorem q681 : (Cond.code yJ5_init_d00df cJ5_init_d00df 2 none) ∈ lwg := lwgR 681 (by decide +kernel) (by decide +kernel)
theorem q682 : (Cond.methodLink RJ5 3 objectInit) ∈ lwg := lwgR 682 (by decide +kernel) (by decide +kernel)
theorem q776 : (Cond.fieldLink RJ0 1053 "jdk/internal/util/Preconditions" "SIOOBE_FORMATTER" "Ljava/util/function/BiFunction;") ∈ lwg := lwgR 776 (by decide +kernel) (by decide +kernel)
theorem q797 : (Cond.static yJ0_checkIndex_df160) ∈ lwg := lwgR 797 (by decide +kernel) (by decide +kernel)
theorem q798 : (Cond.code yJ0_checkIndex_df160 cJ0_checkIndex_df160 2 none) ∈ lwg := lwgR 798 (by decide +kernel) (by decide +kernel)
theorem q799 : (Cond.methodLink RJ0 1059 yJ3_checkIndex_8e157) ∈ lwg := lwgR 799 (by decide +kernel) (by decide +kernel)
theorem q843 : (Cond.classLink RJ4 18 "java/lang/String") ∈ lwg := lwgR 843 (by decide +kernel) (by decide +kernel)
theorem q844 : (Cond.instantiable "java/lang/String" 4) ∈ lwg := lwgR 844 (by decide +kernel) (by decide +kernel)
theorem q845 : (Cond.methodLink RJ4 137 yJ0_init_81219) ∈ lwg := lwgR 845 (by decide +kernel) (by decide +kernel)
theorem q846 : (Cond.instanceMethod yJ0_init_81219) ∈ lwg := lwgR 846 (by decide +kernel) (by decide +kernel)
theorem q847 : (Cond.code yJ0_init_81219 cJ0_init_81219 2 none) ∈ lwg := lwgR 847 (by decide +kernel) (by decide +kernel)
theorem q848 : (Cond.methodLink RJ0 489 yJ0_init_db425) ∈ lwg := lwgR 848 (by decide +kernel) (by decide +kernel)
theorem q849 : (Cond.instanceMethod yJ0_init_db425) ∈ lwg := lwgR 849 (by decide +kernel) (by decide +kernel)
theorem q850 : (Cond.code yJ0_init_db425 cJ0_init_db425 5 none) ∈ lwg := lwgR 850 (by decide +kernel) (by decide +kernel)
theorem q851 : (Cond.methodLink RJ0 1 objectInit) ∈ lwg := lwgR 851 (by decide +kernel) (by decide +kernel)
theorem q852 : (Cond.methodLink RJ0 552 yJ5_getValue_6d5f1) ∈ lwg := lwgR 852 (by decide +kernel) (by decide +kernel)
theorem q853 : (Cond.instanceMethod yJ5_getValue_6d5f1) ∈ lwg := lwgR 853 (by decide +kernel) (by decide +kernel)
theorem q854 : (Cond.sameMethod RJ5 RJ5 "getValue" "()[B") ∈ lwg := lwgR 854 (by decide +kernel) (by decide +kernel)
theorem q855 : (Cond.selects RJ4 yJ5_getValue_6d5f1 yJ5_getValue_6d5f1) ∈ lwg := lwgR 855 (by decide +kernel) (by decide +kernel)
theorem q856 : (Cond.code yJ5_getValue_6d5f1 cJ5_getValue_6d5f1 1 (some (.array .byte))) ∈ lwg := lwgR 856 (by decide +kernel) (by decide +kernel)
theorem q857 : (Cond.methodLink RJ0 549 yJ5_length_8abf5) ∈ lwg := lwgR 857 (by decide +kernel) (by decide +kernel)
theorem q858 : (Cond.instanceMethod yJ5_length_8abf5) ∈ lwg := lwgR 858 (by decide +kernel) (by decide +kernel)
theorem q859 : (Cond.sameMethod RJ5 RJ5 "length" "()I") ∈ lwg := lwgR 859 (by decide +kernel) (by decide +kernel)
theorem q860 : (Cond.selects RJ4 yJ5_length_8abf5 yJ4_length_8abf5) ∈ lwg := lwgR 860 (by decide +kernel) (by decide +kernel)
theorem q861 : (Cond.instanceMethod yJ4_length_8abf5) ∈ lwg := lwgR 861 (by decide +kernel) (by decide +kernel)
theorem q862 : (Cond.code yJ4_length_8abf5 cJ4_length_8abf5 1 (some .int)) ∈ lwg := lwgR 862 (by decide +kernel) (by decide +kernel)
theorem q863 : (Cond.methodLink RJ4 343 yJ5_length_8abf5) ∈ lwg := lwgR 863 (by decide +kernel) (by decide +kernel)
theorem q864 : (Cond.code yJ5_length_8abf5 cJ5_length_8abf5 1 (some .int)) ∈ lwg := lwgR 864 (by decide +kernel) (by decide +kernel)
theorem q865 : (Cond.methodLink RJ0 1047 yJ5_isLatin1_aae02) ∈ lwg := lwgR 865 (by decide +kernel) (by decide +kernel)
theorem q866 : (Cond.methodLink RJ0 54 yJ7_copyOfRange_39247) ∈ lwg := lwgR 866 (by decide +kernel) (by decide +kernel)
theorem q867 : (Cond.static yJ7_copyOfRange_39247) ∈ lwg := lwgR 867 (by decide +kernel) (by decide +kernel)
theorem q868 : (Cond.code yJ7_copyOfRange_39247 cJ7_copyOfRange_39247 3 (some (.array .byte))) ∈ lwg := lwgR 868 (by decide +kernel) (by decide +kernel)
theorem q869 : (Cond.methodLink RJ7 339 yJ7_copyOfRangeByte_39247) ∈ lwg := lwgR 869 (by decide +kernel) (by decide +kernel)
theorem q870 : (Cond.static yJ7_copyOfRangeByte_39247) ∈ lwg := lwgR 870 (by decide +kernel) (by decide +kernel)
theorem q871 : (Cond.code yJ7_copyOfRangeByte_39247 cJ7_copyOfRangeByte_39247 5 (some (.array .byte))) ∈ lwg := lwgR 871 (by decide +kernel) (by decide +kernel)
theorem q872 : (Cond.methodLink RJ7 343 yJ7_checkLength_df160) ∈ lwg := lwgR 872 (by decide +kernel) (by decide +kernel)
theorem q873 : (Cond.static yJ7_checkLength_df160) ∈ lwg := lwgR 873 (by decide +kernel) (by decide +kernel)
theorem q874 : (Cond.code yJ7_checkLength_df160 cJ7_checkLength_df160 2 none) ∈ lwg := lwgR 874 (by decide +kernel) (by decide +kernel)
theorem dJ5_init_d00df_0 : decode cJ5_init_d00df 0 = .ok (.aload_n 0, 1) := by decide +kernel
theorem dJ5_init_d00df_1 : decode cJ5_init_d00df 1 = .ok (.invokespecial 3, 3) := by decide +kernel
theorem dJ5_init_d00df_4 : decode cJ5_init_d00df 4 = .ok (.getstatic 18, 3) := by decide +kernel
theorem dJ5_init_d00df_7 : decode cJ5_init_d00df 7 = .ok (.ifCond .eq 18, 3) := by decide +kernel
theorem dJ5_init_d00df_10 : decode cJ5_init_d00df 10 = .ok (.aload_n 0, 1) := by decide +kernel
theorem dJ5_init_d00df_11 : decode cJ5_init_d00df 11 = .ok (.iload_n 1, 1) := by decide +kernel
theorem dJ5_init_d00df_12 : decode cJ5_init_d00df 12 = .ok (.newarray .byte, 2) := by decide +kernel
theorem dJ5_init_d00df_14 : decode cJ5_init_d00df 14 = .ok (.putfield 15, 3) := by decide +kernel
theorem dJ5_init_d00df_17 : decode cJ5_init_d00df 17 = .ok (.aload_n 0, 1) := by decide +kernel
theorem dJ5_init_d00df_18 : decode cJ5_init_d00df 18 = .ok (.iconst 0, 1) := by decide +kernel
theorem dJ5_init_d00df_19 : decode cJ5_init_d00df 19 = .ok (.putfield 22, 3) := by decide +kernel
theorem dJ5_init_d00df_22 : decode cJ5_init_d00df 22 = .ok (.goto 16, 3) := by decide +kernel
theorem dJ5_init_d00df_25 : decode cJ5_init_d00df 25 = .ok (.aload_n 0, 1) := by decide +kernel
theorem dJ5_init_d00df_26 : decode cJ5_init_d00df 26 = .ok (.iload_n 1, 1) := by decide +kernel
theorem dJ5_init_d00df_27 : decode cJ5_init_d00df 27 = .ok (.invokestatic 26, 3) := by decide +kernel
theorem dJ5_init_d00df_30 : decode cJ5_init_d00df 30 = .ok (.putfield 15, 3) := by decide +kernel
theorem dJ5_init_d00df_33 : decode cJ5_init_d00df 33 = .ok (.aload_n 0, 1) := by decide +kernel
theorem dJ5_init_d00df_34 : decode cJ5_init_d00df 34 = .ok (.iconst 1, 1) := by decide +kernel
theorem dJ5_init_d00df_35 : decode cJ5_init_d00df 35 = .ok (.putfield 22, 3) := by decide +kernel
theorem dJ5_init_d00df_38 : decode cJ5_init_d00df 38 = .ok (.return_, 1) := by decide +kernel
def wnJ5_init_d00df (post : Nat → Prop) : Prop :=
  ∀ q_1 : Nat,
  post q_1
abbrev wl_nJ5_init_d00df : List Cond := .code yJ5_init_d00df cJ5_init_d00df 2 none :: lwg
abbrev rm_nJ5_init_d00df : Room := { frames := 1, cells := 1, slots := 16, locals := 40 }
set_option maxHeartbeats 4000000 in
set_option maxRecDepth 100000 in
theorem knJ5_init_d00df {post : Nat → Prop} (l : Launch) (G : GT) (t0 : Nat) (sz : Nat) (h : wnJ5_init_d00df post ) : Met l yJ5_init_d00df wl_nJ5_init_d00df rm_nJ5_init_d00df (va_Pc [.ref t0, .int (16 : Int32)] (fun U => U.heap.size = sz ∧ PP G [(t0, .inr (1, [.null, .int (0 : Int32), .int (0 : Int32), .int (0 : Int32)]))] U.heap ∧ KK G U ∧ va_D (fun _ => True) [(t0, .inr (1, [.null, .int (0 : Int32), .int (0 : Int32), .int (0 : Int32)]))] ∧ JJ G (va_A [(t0, .inr (1, [.null, .int (0 : Int32), .int (0 : Int32), .int (0 : Int32)]))] sz) U U.heap)) (va_Qv post (fun u t => PP G [(t0, .inr (1, [.ref u, .int (0 : Int32), .int (0 : Int32), .int (0 : Int32)])), (u, .inl (G.2 2, 16, .inl (fun _ => (0 : Int32))))] t.heap ∧ va_D (va_A [(t0, .inr (1, [.null, .int (0 : Int32), .int (0 : Int32), .int (0 : Int32)]))] sz) [(t0, .inr (1, [.ref u, .int (0 : Int32), .int (0 : Int32), .int (0 : Int32)])), (u, .inl (G.2 2, 16, .inl (fun _ => (0 : Int32))))]) (va_A [(t0, .inr (1, [.null, .int (0 : Int32), .int (0 : Int32), .int (0 : Int32)]))] sz)) 1 16 (va_A [(t0, .inr (1, [.null, .int (0 : Int32), .int (0 : Int32), .int (0 : Int32)]))] sz) := by
  refine Met.ofW (cc := cJ5_init_d00df) (maxL := 2) (ret := none) (by decide) rfl ?_
  intro p e s m args below meth c s₁ B hml hv
  obtain ⟨rfl, hsz, hP, hKK, hD0, hJ⟩ := hv
  obtain ⟨hK, hN, hR, hFW, hNC⟩ := id hKK
  have hx := B.exec
  have hb := B.bytes
  have hr := B.returns
  have hts0 := atoms_spec (ws := wl_nJ5_init_d00df) B.pre
  have hts : ∀ w ∈ lwg, w.before ([.ref t0, .int (16 : Int32)] : List Value).toArray s = true := fun w hw => hts0 w (List.mem_cons_of_mem _ hw)
  have hown : s.vm.findClass RJ5 = some m.cls := findClass_of_methodNamed B.named
  have hlocks := B.notSynchronized
  have hin : meth.name = "<init>" := (name_of_methodNamed B.named B.method).1
  subst hsz
  have hD := hD0.self (sz := s.heap.size)
  generalize hAe : va_A [(t0, .inr (1, [.null, .int (0 : Int32), .int (0 : Int32), .int (0 : Int32)]))] s.heap.size = A at hD hJ ⊢
  have hA : ∀ q : Nat, s.heap.size ≤ q → A q := fun q h => by rw [← hAe]; exact Or.inr h
  have hS : va_S A s.heap s.heap [] := va_S.rf
  obtain ⟨QC, hQC⟩ : ∃ Z, Z = (va_Qv post (fun u t => PP G [(t0, .inr (1, [.ref u, .int (0 : Int32), .int (0 : Int32), .int (0 : Int32)])), (u, .inl (G.2 2, 16, .inl (fun _ => (0 : Int32))))] t.heap ∧ va_D A [(t0, .inr (1, [.ref u, .int (0 : Int32), .int (0 : Int32), .int (0 : Int32)])), (u, .inl (G.2 2, 16, .inl (fun _ => (0 : Int32))))]) A) := ⟨_, rfl⟩
  rw [← hQC]
  obtain ⟨jE, hjE⟩ := hJ.2.1
  obtain ⟨jT, hjT1, hjT2⟩ := hJ.2.2.1
  obtain ⟨jO, hjO1, hjO2⟩ := hJ.2.2.2.1
  obtain ⟨jS, hjS⟩ := hJ.2.2.2.2.1
  have hP : PP G [(t0, .inr (1, [.null, .int (0 : Int32), .int (0 : Int32), .int (0 : Int32)]))] s.heap := hP
  have hl := lv_entry ([.ref t0, .int (16 : Int32)]) (n := 2) (Nat.le_of_ble_eq_true rfl)
  rw [lg_entry_eq]
  generalize (lg_sl ([.ref t0, .int (16 : Int32)]) ++ List.replicate (2 - (lg_sl ([.ref t0, .int (16 : Int32)])).length) Slot.unset).toArray = ls at hl ⊢
  have hl : lv_has ls 2 [(0, .ref t0), (1, .int (16 : Int32))] := hl
  refine lv_aload_n hx hb dJ5_init_d00df_0 rfl (lv_at hl 0 rfl) ?_
  refine W.objInit hx hb hown (hts _ q682) (hts _ q35) (hts _ q36) rfl (hl.1.trans hml.symm) rfl dJ5_init_d00df_1 (Nat.le_of_ble_eq_true rfl) (Nat.le_of_ble_eq_true rfl) ?_
  refine W.eq (g2 := F0 m 4 ls []) rfl ?_
  refine va_gets hx hb hJ.1 hS hown (hts _ q683) (fun _ h9 => h9) dJ5_init_d00df_4 ?_
  refine lv_if_eq (tgt := 25) hx hb dJ5_init_d00df_7 (by decide) (fun hc => absurd hc (by decide)) (fun _ => ?_)
  refine lv_aload_n hx hb dJ5_init_d00df_10 rfl (lv_at hl 0 rfl) ?_
  refine lv_iload_n hx hb dJ5_init_d00df_11 rfl (lv_at hl 1 rfl) ?_
  refine va_newa (D := G.1) (atype := .byte) (N' := 16) (a0 := (16, .inl (fun _ => 0))) hx hb (hts _ q340) rfl hK hP hD hS hA (fun _ => rfl) (by decide) (by decide) (Nat.le_of_ble_eq_true rfl) (Nat.le_of_ble_eq_true rfl) (Nat.le_of_ble_eq_true rfl) dJ5_init_d00df_12 (fun q_1 cA H hK2 hP hD hS => ?_)
  obtain rfl : cA = G.2 2 := Option.some.inj ((hK2.2 6 _ rfl).2.symm.trans (hK.2 2 _ rfl).2)
  refine W.widen (k := 1) (n := 16) (Nat.le_of_ble_eq_true rfl) (Nat.le_of_ble_eq_true rfl) ?_
  have hP : PP G [(t0, .inr (1, [.null, .int (0 : Int32), .int (0 : Int32), .int (0 : Int32)])), (q_1, .inl (G.2 2, 16, .inl (fun _ => (0 : Int32))))] H := hP
  have hD : va_D A [(t0, .inr (1, [.null, .int (0 : Int32), .int (0 : Int32), .int (0 : Int32)])), (q_1, .inl (G.2 2, 16, .inl (fun _ => (0 : Int32))))] := hD
  have h := h q_1
  refine va_put (D := G.1) (ci := 1) (v := .ref q_1) (ty := .array .byte) (C := RJ4) (T := TJ4) (N := 4) hx hb hts igJ4 tyJ4 tyJ4_ok nmJ4 hown hK hP hD hS 0 rfl rfl 0 (by decide) (hts _ q692) (fun _ h9 => h9) rfl (by decide +kernel) rfl rfl (Nat.le_of_ble_eq_true rfl) dJ5_init_d00df_14 (fun H locs hP hD hS => ?_)
  have hP : PP G [(t0, .inr (1, [.ref q_1, .int (0 : Int32), .int (0 : Int32), .int (0 : Int32)])), (q_1, .inl (G.2 2, 16, .inl (fun _ => (0 : Int32))))] H := hP
  have hD : va_D A [(t0, .inr (1, [.ref q_1, .int (0 : Int32), .int (0 : Int32), .int (0 : Int32)])), (q_1, .inl (G.2 2, 16, .inl (fun _ => (0 : Int32))))] := hD
  refine lv_aload_n hx hb dJ5_init_d00df_17 rfl (lv_at hl 0 rfl) ?_
  refine lv_iconst (v := 0) hx hb dJ5_init_d00df_18 (by decide) ?_
  refine va_put (D := G.1) (ci := 1) (v := .int (0 : Int32)) (ty := .byte) (C := RJ4) (T := TJ4) (N := 4) hx hb hts igJ4 tyJ4 tyJ4_ok nmJ4 hown hK hP hD hS 0 rfl rfl 1 (by decide) (hts _ q693) (fun _ h9 => h9) rfl (by decide +kernel) rfl rfl (Nat.le_of_ble_eq_true rfl) dJ5_init_d00df_19 (fun H locs hP hD hS => ?_)
  have hP : PP G [(t0, .inr (1, [.ref q_1, .int (0 : Int32), .int (0 : Int32), .int (0 : Int32)])), (q_1, .inl (G.2 2, 16, .inl (fun _ => (0 : Int32))))] H := hP
  have hD : va_D A [(t0, .inr (1, [.ref q_1, .int (0 : Int32), .int (0 : Int32), .int (0 : Int32)])), (q_1, .inl (G.2 2, 16, .inl (fun _ => (0 : Int32))))] := hD
  refine lv_goto (tgt := 38) hx hb dJ5_init_d00df_22 (by decide) ?_
  subst hQC; exact W.vret hx hb hr (fun t ht hW => ⟨⟨q_1, rfl, h, by rw [ht]; exact hP, hD⟩, hS.F ht⟩) hS.2.2 dJ5_init_d00df_38
theorem dJ4_init_da8c8_0 : decode cJ4_init_da8c8 0 = .ok (.aload_n 0, 1) := by decide +kernel
theorem dJ4_init_da8c8_1 : decode cJ4_init_da8c8 1 = .ok (.bipush 16, 2) := by decide +kernel
theorem dJ4_init_da8c8_3 : decode cJ4_init_da8c8 3 = .ok (.invokespecial 1, 3) := by decide +kernel
theorem dJ4_init_da8c8_6 : decode cJ4_init_da8c8 6 = .ok (.return_, 1) := by decide +kernel
def wnJ4_init_da8c8 (post : Nat → Prop) : Prop :=
  wnJ5_init_d00df (fun (a_1 : Nat) =>
    post a_1
    ) 
abbrev wl_nJ4_init_da8c8 : List Cond := .code yJ4_init_da8c8 cJ4_init_da8c8 1 none :: lwg
abbrev rm_nJ4_init_da8c8 : Room := { frames := 2, cells := 1, slots := 16, locals := 61 }
set_option maxHeartbeats 4000000 in
set_option maxRecDepth 100000 in
theorem knJ4_init_da8c8 {post : Nat → Prop} (l : Launch) (G : GT) (t0 : Nat) (sz : Nat) (h : wnJ4_init_da8c8 post ) : Met l yJ4_init_da8c8 wl_nJ4_init_da8c8 rm_nJ4_init_da8c8 (va_Pc [.ref t0] (fun U => U.heap.size = sz ∧ PP G [(t0, .inr (1, [.null, .int (0 : Int32), .int (0 : Int32), .int (0 : Int32)]))] U.heap ∧ KK G U ∧ va_D (fun _ => True) [(t0, .inr (1, [.null, .int (0 : Int32), .int (0 : Int32), .int (0 : Int32)]))] ∧ JJ G (va_A [(t0, .inr (1, [.null, .int (0 : Int32), .int (0 : Int32), .int (0 : Int32)]))] sz) U U.heap)) (va_Qv post (fun u t => PP G [(t0, .inr (1, [.ref u, .int (0 : Int32), .int (0 : Int32), .int (0 : Int32)])), (u, .inl (G.2 2, 16, .inl (fun _ => (0 : Int32))))] t.heap ∧ va_D (va_A [(t0, .inr (1, [.null, .int (0 : Int32), .int (0 : Int32), .int (0 : Int32)]))] sz) [(t0, .inr (1, [.ref u, .int (0 : Int32), .int (0 : Int32), .int (0 : Int32)])), (u, .inl (G.2 2, 16, .inl (fun _ => (0 : Int32))))]) (va_A [(t0, .inr (1, [.null, .int (0 : Int32), .int (0 : Int32), .int (0 : Int32)]))] sz)) 1 16 (va_A [(t0, .inr (1, [.null, .int (0 : Int32), .int (0 : Int32), .int (0 : Int32)]))] sz) := by
  refine Met.ofW (cc := cJ4_init_da8c8) (maxL := 1) (ret := none) (by decide) rfl ?_
  intro p e s m args below meth c s₁ B hml hv
  obtain ⟨rfl, hsz, hP, hKK, hD0, hJ⟩ := hv
  obtain ⟨hK, hN, hR, hFW, hNC⟩ := id hKK
  have hx := B.exec
  have hb := B.bytes
  have hr := B.returns
  have hts0 := atoms_spec (ws := wl_nJ4_init_da8c8) B.pre
  have hts : ∀ w ∈ lwg, w.before ([.ref t0] : List Value).toArray s = true := fun w hw => hts0 w (List.mem_cons_of_mem _ hw)
  have hown : s.vm.findClass RJ4 = some m.cls := findClass_of_methodNamed B.named
  have hlocks := B.notSynchronized
  have hin : meth.name = "<init>" := (name_of_methodNamed B.named B.method).1
  subst hsz
  have hD := hD0.self (sz := s.heap.size)
  generalize hAe : va_A [(t0, .inr (1, [.null, .int (0 : Int32), .int (0 : Int32), .int (0 : Int32)]))] s.heap.size = A at hD hJ ⊢
  have hA : ∀ q : Nat, s.heap.size ≤ q → A q := fun q h => by rw [← hAe]; exact Or.inr h
  have hS : va_S A s.heap s.heap [] := va_S.rf
  obtain ⟨QC, hQC⟩ : ∃ Z, Z = (va_Qv post (fun u t => PP G [(t0, .inr (1, [.ref u, .int (0 : Int32), .int (0 : Int32), .int (0 : Int32)])), (u, .inl (G.2 2, 16, .inl (fun _ => (0 : Int32))))] t.heap ∧ va_D A [(t0, .inr (1, [.ref u, .int (0 : Int32), .int (0 : Int32), .int (0 : Int32)])), (u, .inl (G.2 2, 16, .inl (fun _ => (0 : Int32))))]) A) := ⟨_, rfl⟩
  rw [← hQC]
  obtain ⟨jE, hjE⟩ := hJ.2.1
  obtain ⟨jT, hjT1, hjT2⟩ := hJ.2.2.1
  obtain ⟨jO, hjO1, hjO2⟩ := hJ.2.2.2.1
  obtain ⟨jS, hjS⟩ := hJ.2.2.2.2.1
  have hP : PP G [(t0, .inr (1, [.null, .int (0 : Int32), .int (0 : Int32), .int (0 : Int32)]))] s.heap := hP
  have hl := lv_entry ([.ref t0]) (n := 1) (Nat.le_of_ble_eq_true rfl)
  rw [lg_entry_eq]
  generalize (lg_sl ([.ref t0]) ++ List.replicate (1 - (lg_sl ([.ref t0])).length) Slot.unset).toArray = ls at hl ⊢
  have hl : lv_has ls 1 [(0, .ref t0)] := hl
  refine lv_aload_n hx hb dJ4_init_da8c8_0 rfl (lv_at hl 0 rfl) ?_
  refine lv_bipush (v := 16) hx hb dJ4_init_da8c8_1 (by decide) ?_
  have hPc := hP
  have hDc := hD.sub (ws' := [(t0, .inr (1, [.null, .int (0 : Int32), .int (0 : Int32), .int (0 : Int32)]))]) [0] (by decide) rfl
  have hFc := va_free (wc := [(t0, .inr (1, [.null, .int (0 : Int32), .int (0 : Int32), .int (0 : Int32)]))]) hD hS hA [0] rfl
  have hJc := (hJ.kept hS.2.1).narrow hFc
  refine va_callv (va_runI (As := [.int (16 : Int32)]) (rest := []) ⟨hx, hb, hml, hown, hts⟩ (knJ5_init_d00df l G t0 _ h) (cwI 1 hts (gdC q681) rfl rfl rfl (hts _ q24) (hts _ q679) (hts _ q680) rfl (by decide +kernel) ⟨Nat.le_of_ble_eq_true rfl, Nat.le_of_ble_eq_true rfl⟩) (preSwj hPc hKK hDc hJc) rfl rfl hl.1 rfl (lv_room (Nat.le_of_ble_eq_true rfl)) dJ4_init_da8c8_3 ⟨Nat.le_of_ble_eq_true rfl, Nat.le_of_ble_eq_true rfl⟩) hS (fun q _ h => hFc q h) hFc (fun u t H1 locs ht hvm h hB hz1 hk1 hS => ?_)
  obtain ⟨a_1, rfl⟩ : ∃ z, z = u := ⟨_, rfl⟩
  obtain ⟨hP1, hD1⟩ := hB
  rw [ht] at hP1
  have hP := hP1
  have hD : va_D A [(t0, .inr (1, [.ref a_1, .int (0 : Int32), .int (0 : Int32), .int (0 : Int32)])), (a_1, .inl (G.2 2, 16, .inl (fun _ => (0 : Int32))))] := hD1.weaken (fun _ _ _ h => hFc _ h)
  generalize H1 = H at hP hS ⊢
  have hP : PP G [(t0, .inr (1, [.ref a_1, .int (0 : Int32), .int (0 : Int32), .int (0 : Int32)])), (a_1, .inl (G.2 2, 16, .inl (fun _ => (0 : Int32))))] H := hP
  subst hQC; exact W.vret hx hb hr (fun t ht hW => ⟨⟨a_1, rfl, h, by rw [ht]; exact hP, hD⟩, hS.F ht⟩) hS.2.2 dJ4_init_da8c8_6
theorem dJ5_length_8abf5_0 : decode cJ5_length_8abf5 0 = .ok (.aload_n 0, 1) := by decide +kernel
theorem dJ5_length_8abf5_1 : decode cJ5_length_8abf5 1 = .ok (.getfield 79, 3) := by decide +kernel
theorem dJ5_length_8abf5_4 : decode cJ5_length_8abf5 4 = .ok (.ireturn, 1) := by decide +kernel
def wJ5_length_8abf5 (post : Int32 → Prop) (wc : Int32) : Prop :=
  post wc
abbrev wl_J5_length_8abf5 : List Cond := .code yJ5_length_8abf5 cJ5_length_8abf5 1 (some .int) :: lwg
abbrev rm_J5_length_8abf5 : Room := { frames := 0, cells := 0, slots := 0, locals := 0 }
set_option maxHeartbeats 4000000 in
set_option maxRecDepth 100000 in
theorem kJ5_length_8abf5 {post : Int32 → Prop} (l : Launch) (G : GT) (wb : Nat) (wv : Nat) (wc : Int32) (h : wJ5_length_8abf5 post wc) : Met l yJ5_length_8abf5 wl_J5_length_8abf5 rm_J5_length_8abf5 (va_Pc [.ref wb] (fun U => PP G [(wb, .inr (1, [.ref wv, .int (0 : Int32), .int (0 : Int32), .int wc]))] U.heap ∧ KK G U)) (vp_Si post) 0 0 (fun _ => False) := by
  refine Met.ofW (cc := cJ5_length_8abf5) (maxL := 1) (ret := (some .int)) (by decide) rfl ?_
  intro p e s m args below meth c s₁ B hml hv
  obtain ⟨rfl, hP, hKK⟩ := hv
  obtain ⟨hK, hN, hR, hFW, hNC⟩ := id hKK
  have hx := B.exec
  have hb := B.bytes
  have hr := B.returns
  have hts0 := atoms_spec (ws := wl_J5_length_8abf5) B.pre
  have hts : ∀ w ∈ lwg, w.before ([.ref wb] : List Value).toArray s = true := fun w hw => hts0 w (List.mem_cons_of_mem _ hw)
  have hown : s.vm.findClass RJ5 = some m.cls := findClass_of_methodNamed B.named
  have hlocks := B.notSynchronized
  have hP : PP G [(wb, .inr (1, [.ref wv, .int (0 : Int32), .int (0 : Int32), .int wc]))] s.heap := hP
  have hl := lv_entry ([.ref wb]) (n := 1) (Nat.le_of_ble_eq_true rfl)
  rw [lg_entry_eq]
  generalize (lg_sl ([.ref wb]) ++ List.replicate (1 - (lg_sl ([.ref wb])).length) Slot.unset).toArray = ls at hl ⊢
  have hl : lv_has ls 1 [(0, .ref wb)] := hl
  refine lv_aload_n hx hb dJ5_length_8abf5_0 rfl (lv_at hl 0 rfl) ?_
  refine va_get (D := G.1) (ci := 1) (v := .int wc) (C := RJ4) (T := TJ4) (N := 4) hx hb hts igJ4 hown hK hP 0 rfl rfl 3 (by decide) (hts _ q695) (fun _ h9 => h9) rfl dJ5_length_8abf5_1 ?_
  exact W.iret (v := wc) hx hb hr (fun t ht _ => ⟨_, rfl, h, ht⟩) (fun _ hq => absurd hq List.not_mem_nil) dJ5_length_8abf5_4
theorem dJ4_length_8abf5_0 : decode cJ4_length_8abf5 0 = .ok (.aload_n 0, 1) := by decide +kernel
theorem dJ4_length_8abf5_1 : decode cJ4_length_8abf5 1 = .ok (.invokespecial 343, 3) := by decide +kernel
theorem dJ4_length_8abf5_4 : decode cJ4_length_8abf5 4 = .ok (.ireturn, 1) := by decide +kernel
def wJ4_length_8abf5 (post : Int32 → Prop) (wc : Int32) : Prop :=
  wJ5_length_8abf5 (fun r_1 : Int32 =>
    post r_1
    ) wc
abbrev wl_J4_length_8abf5 : List Cond := .code yJ4_length_8abf5 cJ4_length_8abf5 1 (some .int) :: lwg
abbrev rm_J4_length_8abf5 : Room := { frames := 1, cells := 0, slots := 0, locals := 20 }
set_option maxHeartbeats 4000000 in
set_option maxRecDepth 100000 in
theorem kJ4_length_8abf5 {post : Int32 → Prop} (l : Launch) (G : GT) (wb : Nat) (wv : Nat) (wc : Int32) (h : wJ4_length_8abf5 post wc) : Met l yJ4_length_8abf5 wl_J4_length_8abf5 rm_J4_length_8abf5 (va_Pc [.ref wb] (fun U => PP G [(wb, .inr (1, [.ref wv, .int (0 : Int32), .int (0 : Int32), .int wc]))] U.heap ∧ KK G U)) (vp_Si post) 0 0 (fun _ => False) := by
  refine Met.ofW (cc := cJ4_length_8abf5) (maxL := 1) (ret := (some .int)) (by decide) rfl ?_
  intro p e s m args below meth c s₁ B hml hv
  obtain ⟨rfl, hP, hKK⟩ := hv
  obtain ⟨hK, hN, hR, hFW, hNC⟩ := id hKK
  have hx := B.exec
  have hb := B.bytes
  have hr := B.returns
  have hts0 := atoms_spec (ws := wl_J4_length_8abf5) B.pre
  have hts : ∀ w ∈ lwg, w.before ([.ref wb] : List Value).toArray s = true := fun w hw => hts0 w (List.mem_cons_of_mem _ hw)
  have hown : s.vm.findClass RJ4 = some m.cls := findClass_of_methodNamed B.named
  have hlocks := B.notSynchronized
  have hP : PP G [(wb, .inr (1, [.ref wv, .int (0 : Int32), .int (0 : Int32), .int wc]))] s.heap := hP
  have hl := lv_entry ([.ref wb]) (n := 1) (Nat.le_of_ble_eq_true rfl)
  rw [lg_entry_eq]
  generalize (lg_sl ([.ref wb]) ++ List.replicate (1 - (lg_sl ([.ref wb])).length) Slot.unset).toArray = ls at hl ⊢
  have hl : lv_has ls 1 [(0, .ref wb)] := hl
  refine lv_aload_n hx hb dJ4_length_8abf5_0 rfl (lv_at hl 0 rfl) ?_
  have hPc := hP
  refine rdI (va_runSU (C := RJ4) (As := []) (rest := []) (hK.1 1 _ rfl).2 ⟨hx, hb, hml, hown, hts⟩ (kJ5_length_8abf5 l G wb wv wc h) (va_cwSU 0 hts (gdSU q863 q859 q704 q858 q24 q864) rfl rfl rfl (by decide +kernel) ⟨Nat.le_of_ble_eq_true rfl, Nat.le_of_ble_eq_true rfl⟩) (preV hPc hKK (va_recv hK hPc (ci := 1) (q0 := 0) rfl rfl)) rfl rfl hl.1 rfl (lv_room (Nat.le_of_ble_eq_true rfl)) dJ4_length_8abf5_1 ⟨Nat.zero_le _, Nat.zero_le _⟩) (fun r_1 h => ?_)
  exact W.iret (v := r_1) hx hb hr (fun t ht _ => ⟨_, rfl, h, ht⟩) (fun _ hq => absurd hq List.not_mem_nil) dJ4_length_8abf5_4
theorem dJ5_getValue_6d5f1_0 : decode cJ5_getValue_6d5f1 0 = .ok (.aload_n 0, 1) := by decide +kernel
theorem dJ5_getValue_6d5f1_1 : decode cJ5_getValue_6d5f1 1 = .ok (.getfield 15, 3) := by decide +kernel
theorem dJ5_getValue_6d5f1_4 : decode cJ5_getValue_6d5f1 4 = .ok (.areturn, 1) := by decide +kernel
def wJ5_getValue_6d5f1 (post : Unit → Prop) : Prop :=
  post ()
abbrev wl_J5_getValue_6d5f1 : List Cond := .code yJ5_getValue_6d5f1 cJ5_getValue_6d5f1 1 (some (.array .byte)) :: lwg
abbrev rm_J5_getValue_6d5f1 : Room := { frames := 0, cells := 0, slots := 0, locals := 0 }
set_option maxHeartbeats 4000000 in
set_option maxRecDepth 100000 in
theorem kJ5_getValue_6d5f1 {post : Unit → Prop} (l : Launch) (G : GT) (wb : Nat) (wv : Nat) (wc : Int32) (sz : Nat) (h : wJ5_getValue_6d5f1 post ) : Met l yJ5_getValue_6d5f1 wl_J5_getValue_6d5f1 rm_J5_getValue_6d5f1 (va_Pc [.ref wb] (fun U => U.heap.size = sz ∧ PP G [(wb, .inr (1, [.ref wv, .int (0 : Int32), .int (0 : Int32), .int wc]))] U.heap ∧ KK G U ∧ va_D (fun _ => True) [(wb, .inr (1, [.ref wv, .int (0 : Int32), .int (0 : Int32), .int wc]))])) (va_Qr post (fun u ra t => ra = wv ∧ PP G [(wb, .inr (1, [.ref wv, .int (0 : Int32), .int (0 : Int32), .int wc]))] t.heap ∧ va_D (va_A [(wb, .inr (1, [.ref wv, .int (0 : Int32), .int (0 : Int32), .int wc]))] sz) [(wb, .inr (1, [.ref wv, .int (0 : Int32), .int (0 : Int32), .int wc]))]) (va_A [(wb, .inr (1, [.ref wv, .int (0 : Int32), .int (0 : Int32), .int wc]))] sz)) 0 0 (va_A [(wb, .inr (1, [.ref wv, .int (0 : Int32), .int (0 : Int32), .int wc]))] sz) := by
  refine Met.ofW (cc := cJ5_getValue_6d5f1) (maxL := 1) (ret := (some (.array .byte))) (by decide) rfl ?_
  intro p e s m args below meth c s₁ B hml hv
  obtain ⟨rfl, hsz, hP, hKK, hD0⟩ := hv
  obtain ⟨hK, hN, hR, hFW, hNC⟩ := id hKK
  have hx := B.exec
  have hb := B.bytes
  have hr := B.returns
  have hts0 := atoms_spec (ws := wl_J5_getValue_6d5f1) B.pre
  have hts : ∀ w ∈ lwg, w.before ([.ref wb] : List Value).toArray s = true := fun w hw => hts0 w (List.mem_cons_of_mem _ hw)
  have hown : s.vm.findClass RJ5 = some m.cls := findClass_of_methodNamed B.named
  have hlocks := B.notSynchronized
  subst hsz
  have hD := hD0.self (sz := s.heap.size)
  generalize hAe : va_A [(wb, .inr (1, [.ref wv, .int (0 : Int32), .int (0 : Int32), .int wc]))] s.heap.size = A at hD ⊢
  have hA : ∀ q : Nat, s.heap.size ≤ q → A q := fun q h => by rw [← hAe]; exact Or.inr h
  have hS : va_S A s.heap s.heap [] := va_S.rf
  obtain ⟨QC, hQC⟩ : ∃ Z, Z = (va_Qr post (fun u ra t => ra = wv ∧ PP G [(wb, .inr (1, [.ref wv, .int (0 : Int32), .int (0 : Int32), .int wc]))] t.heap ∧ va_D A [(wb, .inr (1, [.ref wv, .int (0 : Int32), .int (0 : Int32), .int wc]))]) A) := ⟨_, rfl⟩
  rw [← hQC]
  have hP : PP G [(wb, .inr (1, [.ref wv, .int (0 : Int32), .int (0 : Int32), .int wc]))] s.heap := hP
  have hl := lv_entry ([.ref wb]) (n := 1) (Nat.le_of_ble_eq_true rfl)
  rw [lg_entry_eq]
  generalize (lg_sl ([.ref wb]) ++ List.replicate (1 - (lg_sl ([.ref wb])).length) Slot.unset).toArray = ls at hl ⊢
  have hl : lv_has ls 1 [(0, .ref wb)] := hl
  refine lv_aload_n hx hb dJ5_getValue_6d5f1_0 rfl (lv_at hl 0 rfl) ?_
  refine va_get (D := G.1) (ci := 1) (v := .ref wv) (C := RJ4) (T := TJ4) (N := 4) hx hb hts igJ4 hown hK hP 0 rfl rfl 0 (by decide) (hts _ q692) (fun _ h9 => h9) rfl dJ5_getValue_6d5f1_1 ?_
  subst hQC; exact W.aret (v := .ref wv) hx hb hr (by first | exact Or.inl ⟨_, rfl⟩ | exact Or.inr ⟨_, rfl⟩) (Or.inr ⟨_, rfl⟩) (fun t ht hW => ⟨⟨(), wv, rfl, h, rfl, by rw [ht]; exact hP, hD⟩, hS.F ht⟩) hS.2.2 dJ5_getValue_6d5f1_4
theorem dJ7_checkLength_df160_0 : decode cJ7_checkLength_df160 0 = .ok (.iload_n 1, 1) := by decide +kernel
theorem dJ7_checkLength_df160_1 : decode cJ7_checkLength_df160 1 = .ok (.iload_n 0, 1) := by decide +kernel
theorem dJ7_checkLength_df160_2 : decode cJ7_checkLength_df160 2 = .ok (.if_icmp .ge 35, 3) := by decide +kernel
theorem dJ7_checkLength_df160_5 : decode cJ7_checkLength_df160 5 = .ok (.new 43, 3) := by decide +kernel
theorem dJ7_checkLength_df160_8 : decode cJ7_checkLength_df160 8 = .ok (.dup, 1) := by decide +kernel
theorem dJ7_checkLength_df160_9 : decode cJ7_checkLength_df160 9 = .ok (.new 45, 3) := by decide +kernel
theorem dJ7_checkLength_df160_12 : decode cJ7_checkLength_df160 12 = .ok (.dup, 1) := by decide +kernel
theorem dJ7_checkLength_df160_13 : decode cJ7_checkLength_df160 13 = .ok (.invokespecial 47, 3) := by decide +kernel
theorem dJ7_checkLength_df160_16 : decode cJ7_checkLength_df160 16 = .ok (.iload_n 0, 1) := by decide +kernel
theorem dJ7_checkLength_df160_17 : decode cJ7_checkLength_df160 17 = .ok (.invokevirtual 54, 3) := by decide +kernel
theorem dJ7_checkLength_df160_20 : decode cJ7_checkLength_df160 20 = .ok (.ldc_w 337, 3) := by decide +kernel
theorem dJ7_checkLength_df160_23 : decode cJ7_checkLength_df160 23 = .ok (.invokevirtual 50, 3) := by decide +kernel
theorem dJ7_checkLength_df160_26 : decode cJ7_checkLength_df160 26 = .ok (.iload_n 1, 1) := by decide +kernel
theorem dJ7_checkLength_df160_27 : decode cJ7_checkLength_df160 27 = .ok (.invokevirtual 54, 3) := by decide +kernel
theorem dJ7_checkLength_df160_30 : decode cJ7_checkLength_df160 30 = .ok (.invokevirtual 61, 3) := by decide +kernel
theorem dJ7_checkLength_df160_33 : decode cJ7_checkLength_df160 33 = .ok (.invokespecial 65, 3) := by decide +kernel
theorem dJ7_checkLength_df160_36 : decode cJ7_checkLength_df160 36 = .ok (.athrow, 1) := by decide +kernel
theorem dJ7_checkLength_df160_37 : decode cJ7_checkLength_df160 37 = .ok (.return_, 1) := by decide +kernel
def wnJ7_checkLength_df160 (post : Unit → Prop) (p1 : Int32) (p2 : Int32) : Prop :=
  ((p1 ≤ p2) →
    post ()
  ) ∧ (¬ (p1 ≤ p2) →
    False
  )
abbrev wl_nJ7_checkLength_df160 : List Cond := .code yJ7_checkLength_df160 cJ7_checkLength_df160 2 none :: lwg
abbrev rm_nJ7_checkLength_df160 : Room := { frames := 0, cells := 0, slots := 0, locals := 0 }
set_option maxHeartbeats 4000000 in
set_option maxRecDepth 100000 in
theorem knJ7_checkLength_df160 {post : Unit → Prop} (l : Launch) (G : GT) (p1 : Int32) (p2 : Int32) (h : wnJ7_checkLength_df160 post p1 p2) : Met l yJ7_checkLength_df160 wl_nJ7_checkLength_df160 rm_nJ7_checkLength_df160 (va_Pc [.int p1, .int p2] (fun U => PP G [] U.heap ∧ KK G U)) (va_Sv post) 0 0 (fun _ => False) := by
  refine Met.ofW (cc := cJ7_checkLength_df160) (maxL := 2) (ret := none) (by decide) rfl ?_
  intro p e s m args below meth c s₁ B hml hv
  obtain ⟨rfl, hP, hKK⟩ := hv
  obtain ⟨hK, hN, hR, hFW, hNC⟩ := id hKK
  have hx := B.exec
  have hb := B.bytes
  have hr := B.returns
  have hts0 := atoms_spec (ws := wl_nJ7_checkLength_df160) B.pre
  have hts : ∀ w ∈ lwg, w.before ([.int p1, .int p2] : List Value).toArray s = true := fun w hw => hts0 w (List.mem_cons_of_mem _ hw)
  have hown : s.vm.findClass RJ7 = some m.cls := findClass_of_methodNamed B.named
  have hlocks := B.notSynchronized
  have hP : PP G [] s.heap := hP
  have hl := lv_entry ([.int p1, .int p2]) (n := 2) (Nat.le_of_ble_eq_true rfl)
  rw [lg_entry_eq]
  generalize (lg_sl ([.int p1, .int p2]) ++ List.replicate (2 - (lg_sl ([.int p1, .int p2])).length) Slot.unset).toArray = ls at hl ⊢
  have hl : lv_has ls 2 [(0, .int p1), (1, .int p2)] := hl
  refine lv_iload_n hx hb dJ7_checkLength_df160_0 rfl (lv_at hl 1 rfl) ?_
  refine lv_iload_n hx hb dJ7_checkLength_df160_1 rfl (lv_at hl 0 rfl) ?_
  refine lv_icmp_ge (tgt := 37) hx hb dJ7_checkLength_df160_2 (by decide) (fun hc => ?_) (fun hc => ?_)
  · have h := h.1 hc
    exact W.vret hx hb hr (fun t ht _ => ⟨rfl, h, ht⟩) (fun _ hq => absurd hq List.not_mem_nil) dJ7_checkLength_df160_37
  · have h := h.2 hc
    exact False.elim h
theorem dJ7_copyOfRangeByte_39247_0 : decode cJ7_copyOfRangeByte_39247 0 = .ok (.iload_n 1, 1) := by decide +kernel
theorem dJ7_copyOfRangeByte_39247_1 : decode cJ7_copyOfRangeByte_39247 1 = .ok (.iload_n 2, 1) := by decide +kernel
theorem dJ7_copyOfRangeByte_39247_2 : decode cJ7_copyOfRangeByte_39247 2 = .ok (.invokestatic 343, 3) := by decide +kernel
theorem dJ7_copyOfRangeByte_39247_5 : decode cJ7_copyOfRangeByte_39247 5 = .ok (.iload_n 2, 1) := by decide +kernel
theorem dJ7_copyOfRangeByte_39247_6 : decode cJ7_copyOfRangeByte_39247 6 = .ok (.iload_n 1, 1) := by decide +kernel
theorem dJ7_copyOfRangeByte_39247_7 : decode cJ7_copyOfRangeByte_39247 7 = .ok (.isub, 1) := by decide +kernel
theorem dJ7_copyOfRangeByte_39247_8 : decode cJ7_copyOfRangeByte_39247 8 = .ok (.istore_n 3, 1) := by decide +kernel
theorem dJ7_copyOfRangeByte_39247_9 : decode cJ7_copyOfRangeByte_39247 9 = .ok (.iload_n 3, 1) := by decide +kernel
theorem dJ7_copyOfRangeByte_39247_10 : decode cJ7_copyOfRangeByte_39247 10 = .ok (.newarray .byte, 2) := by decide +kernel
theorem dJ7_copyOfRangeByte_39247_12 : decode cJ7_copyOfRangeByte_39247 12 = .ok (.astore 4, 2) := by decide +kernel
theorem dJ7_copyOfRangeByte_39247_14 : decode cJ7_copyOfRangeByte_39247 14 = .ok (.aload_n 0, 1) := by decide +kernel
theorem dJ7_copyOfRangeByte_39247_15 : decode cJ7_copyOfRangeByte_39247 15 = .ok (.iload_n 1, 1) := by decide +kernel
theorem dJ7_copyOfRangeByte_39247_16 : decode cJ7_copyOfRangeByte_39247 16 = .ok (.aload 4, 2) := by decide +kernel
theorem dJ7_copyOfRangeByte_39247_18 : decode cJ7_copyOfRangeByte_39247 18 = .ok (.iconst 0, 1) := by decide +kernel
theorem dJ7_copyOfRangeByte_39247_19 : decode cJ7_copyOfRangeByte_39247 19 = .ok (.aload_n 0, 1) := by decide +kernel
theorem dJ7_copyOfRangeByte_39247_20 : decode cJ7_copyOfRangeByte_39247 20 = .ok (.arraylength, 1) := by decide +kernel
theorem dJ7_copyOfRangeByte_39247_21 : decode cJ7_copyOfRangeByte_39247 21 = .ok (.iload_n 1, 1) := by decide +kernel
theorem dJ7_copyOfRangeByte_39247_22 : decode cJ7_copyOfRangeByte_39247 22 = .ok (.isub, 1) := by decide +kernel
theorem dJ7_copyOfRangeByte_39247_23 : decode cJ7_copyOfRangeByte_39247 23 = .ok (.iload_n 3, 1) := by decide +kernel
theorem dJ7_copyOfRangeByte_39247_24 : decode cJ7_copyOfRangeByte_39247 24 = .ok (.invokestatic 304, 3) := by decide +kernel
theorem dJ7_copyOfRangeByte_39247_27 : decode cJ7_copyOfRangeByte_39247 27 = .ok (.invokestatic 150, 3) := by decide +kernel
theorem dJ7_copyOfRangeByte_39247_30 : decode cJ7_copyOfRangeByte_39247 30 = .ok (.aload 4, 2) := by decide +kernel
theorem dJ7_copyOfRangeByte_39247_32 : decode cJ7_copyOfRangeByte_39247 32 = .ok (.areturn, 1) := by decide +kernel
def wnJ7_copyOfRangeByte_39247 (post : Nat × (Nat → Int32) → Prop) (yn : Nat) (yf : Nat → Int32) (mcb : Nat) (msb : Nat) (p2 : Int32) (p3 : Int32) : Prop :=
  wnJ7_checkLength_df160 (fun _ =>
    (¬ (p3 - p2) < 0 ∧ (p3 - p2).toNatClampNeg ≤ 65536) ∧
    ((0 + 1) ≤ mcb ∧ (0 + (p3 - p2).toNatClampNeg) ≤ msb) ∧
    (¬ p2 < 0 ∧ ¬ (0 : Int32) < 0 ∧ ¬ (if (p3 - p2) < ((nI yn) - p2) then (p3 - p2) else ((nI yn) - p2)) < 0 ∧ p2.toNatClampNeg + (if (p3 - p2) < ((nI yn) - p2) then (p3 - p2) else ((nI yn) - p2)).toNatClampNeg ≤ yn ∧ (0 : Int32).toNatClampNeg + (if (p3 - p2) < ((nI yn) - p2) then (p3 - p2) else ((nI yn) - p2)).toNatClampNeg ≤ (p3 - p2).toNatClampNeg ∧ ∀ i : Nat, i < (if (p3 - p2) < ((nI yn) - p2) then (p3 - p2) else ((nI yn) - p2)).toNatClampNeg → FB (yf (p2.toNatClampNeg + i))) ∧
    ((0 + 1) ≤ mcb ∧ (0 + (p3 - p2).toNatClampNeg) ≤ msb) ∧
    post ((p3 - p2).toNatClampNeg, (va_cpy yf (fun _ => (0 : Int32)) p2.toNatClampNeg (0 : Int32).toNatClampNeg (if (p3 - p2) < ((nI yn) - p2) then (p3 - p2) else ((nI yn) - p2)).toNatClampNeg))
    ) p2 p3
abbrev wl_nJ7_copyOfRangeByte_39247 : List Cond := .code yJ7_copyOfRangeByte_39247 cJ7_copyOfRangeByte_39247 5 (some (.array .byte)) :: lwg
abbrev rm_nJ7_copyOfRangeByte_39247 (mcb msb : Nat) : Room := { frames := 1, cells := mcb, slots := msb, locals := 64 }
set_option maxHeartbeats 4000000 in
set_option maxRecDepth 100000 in
theorem knJ7_copyOfRangeByte_39247 {post : Nat × (Nat → Int32) → Prop} (l : Launch) (G : GT) (y0 : Nat) (yn : Nat) (yf : Nat → Int32) (mcb : Nat) (msb : Nat) (p2 : Int32) (p3 : Int32) (sz : Nat) (h : wnJ7_copyOfRangeByte_39247 post yn yf mcb msb p2 p3) : Met l yJ7_copyOfRangeByte_39247 wl_nJ7_copyOfRangeByte_39247 (rm_nJ7_copyOfRangeByte_39247 mcb msb) (va_Pc [.ref y0, .int p2, .int p3] (fun U => U.heap.size = sz ∧ PP G [(y0, .inl (G.2 2, yn, .inl yf))] U.heap ∧ KK G U ∧ va_D (fun _ => True) [(y0, .inl (G.2 2, yn, .inl yf))])) (va_Qr post (fun u ra t => PP G [(y0, .inl (G.2 2, yn, .inl yf)), (ra, .inl (G.2 2, u.1, .inl (u.2)))] t.heap ∧ va_D (va_A [(y0, .inl (G.2 2, yn, .inl yf))] sz) [(y0, .inl (G.2 2, yn, .inl yf)), (ra, .inl (G.2 2, u.1, .inl (u.2)))]) (va_A [(y0, .inl (G.2 2, yn, .inl yf))] sz)) mcb msb (va_A [(y0, .inl (G.2 2, yn, .inl yf))] sz) := by
  refine Met.ofW (cc := cJ7_copyOfRangeByte_39247) (maxL := 5) (ret := (some (.array .byte))) (by decide) rfl ?_
  intro p e s m args below meth c s₁ B hml hv
  obtain ⟨rfl, hsz, hP, hKK, hD0⟩ := hv
  obtain ⟨hK, hN, hR, hFW, hNC⟩ := id hKK
  have hx := B.exec
  have hb := B.bytes
  have hr := B.returns
  have hts0 := atoms_spec (ws := wl_nJ7_copyOfRangeByte_39247) B.pre
  have hts : ∀ w ∈ lwg, w.before ([.ref y0, .int p2, .int p3] : List Value).toArray s = true := fun w hw => hts0 w (List.mem_cons_of_mem _ hw)
  have hown : s.vm.findClass RJ7 = some m.cls := findClass_of_methodNamed B.named
  have hlocks := B.notSynchronized
  subst hsz
  have hD := hD0.self (sz := s.heap.size)
  generalize hAe : va_A [(y0, .inl (G.2 2, yn, .inl yf))] s.heap.size = A at hD ⊢
  have hA : ∀ q : Nat, s.heap.size ≤ q → A q := fun q h => by rw [← hAe]; exact Or.inr h
  have hS : va_S A s.heap s.heap [] := va_S.rf
  obtain ⟨QC, hQC⟩ : ∃ Z, Z = (va_Qr post (fun u ra t => PP G [(y0, .inl (G.2 2, yn, .inl yf)), (ra, .inl (G.2 2, u.1, .inl (u.2)))] t.heap ∧ va_D A [(y0, .inl (G.2 2, yn, .inl yf)), (ra, .inl (G.2 2, u.1, .inl (u.2)))]) A) := ⟨_, rfl⟩
  rw [← hQC]
  have hP : PP G [(y0, .inl (G.2 2, yn, .inl yf))] s.heap := hP
  have hl := lv_entry ([.ref y0, .int p2, .int p3]) (n := 5) (Nat.le_of_ble_eq_true rfl)
  rw [lg_entry_eq]
  generalize (lg_sl ([.ref y0, .int p2, .int p3]) ++ List.replicate (5 - (lg_sl ([.ref y0, .int p2, .int p3])).length) Slot.unset).toArray = ls at hl ⊢
  have hl : lv_has ls 5 [(0, .ref y0), (1, .int p2), (2, .int p3)] := hl
  refine lv_iload_n hx hb dJ7_copyOfRangeByte_39247_0 rfl (lv_at hl 1 rfl) ?_
  refine lv_iload_n hx hb dJ7_copyOfRangeByte_39247_1 rfl (lv_at hl 2 rfl) ?_
  have hPc := va_P.sub (ws' := []) hP [] rfl
  refine rdV (va_runS (As := [.int p2, .int p3]) (rest := []) ⟨hx, hb, hml, hown, hts⟩ (knJ7_checkLength_df160 l G p2 p3 h) (va_cwS 2 hts (gdS q872 q873 q20 q874) rfl rfl rfl (by decide +kernel) ⟨Nat.le_of_ble_eq_true rfl, Nat.le_of_ble_eq_true rfl⟩) (preS hPc hKK) rfl rfl hl.1 rfl (lv_room (Nat.le_of_ble_eq_true rfl)) dJ7_copyOfRangeByte_39247_2 ⟨Nat.zero_le _, Nat.zero_le _⟩) (fun  h => ?_)
  refine lv_iload_n hx hb dJ7_copyOfRangeByte_39247_5 rfl (lv_at hl 2 rfl) ?_
  refine lv_iload_n hx hb dJ7_copyOfRangeByte_39247_6 rfl (lv_at hl 1 rfl) ?_
  refine lv_isub hx hb dJ7_copyOfRangeByte_39247_7 ?_
  refine lv_istore_n hx hb dJ7_copyOfRangeByte_39247_8 rfl hl (Nat.le_of_ble_eq_true rfl) rfl (fun ls hl => ?_)
  have hl : lv_has ls 5 [(3, .int (p3 - p2)), (0, .ref y0), (1, .int p2), (2, .int p3)] := hl
  refine lv_iload_n hx hb dJ7_copyOfRangeByte_39247_9 rfl (lv_at hl 0 rfl) ?_
  obtain ⟨⟨hn0, hn40⟩, h⟩ := h
  obtain ⟨⟨hq_1, hq_2⟩, h⟩ := h
  refine va_newa (D := G.1) (atype := .byte) (N' := (p3 - p2).toNatClampNeg) (a0 := ((p3 - p2).toNatClampNeg, .inl (fun _ => 0))) hx hb (hts _ q340) rfl hK hP hD hS hA (fun _ => rfl) hn0 rfl (Nat.le_trans (Nat.mul_le_mul_right _ hn40) (by decide)) hq_1 hq_2 dJ7_copyOfRangeByte_39247_10 (fun q_1 cA H hK2 hP hD hS => ?_)
  obtain rfl : cA = G.2 2 := Option.some.inj ((hK2.2 6 _ rfl).2.symm.trans (hK.2 2 _ rfl).2)
  have hP : PP G [(y0, .inl (G.2 2, yn, .inl yf)), (q_1, .inl (G.2 2, (p3 - p2).toNatClampNeg, .inl (fun _ => (0 : Int32))))] H := hP
  have hD : va_D A [(y0, .inl (G.2 2, yn, .inl yf)), (q_1, .inl (G.2 2, (p3 - p2).toNatClampNeg, .inl (fun _ => (0 : Int32))))] := hD
  refine lv_astore hx hb dJ7_copyOfRangeByte_39247_12 hl (Nat.le_of_ble_eq_true rfl) rfl (fun ls hl => ?_)
  have hl : lv_has ls 5 [(4, .ref q_1), (3, .int (p3 - p2)), (0, .ref y0), (1, .int p2), (2, .int p3)] := hl
  refine lv_aload_n hx hb dJ7_copyOfRangeByte_39247_14 rfl (lv_at hl 2 rfl) ?_
  refine lv_iload_n hx hb dJ7_copyOfRangeByte_39247_15 rfl (lv_at hl 3 rfl) ?_
  refine lv_aload hx hb dJ7_copyOfRangeByte_39247_16 (lv_at hl 0 rfl) ?_
  refine lv_iconst (v := 0) hx hb dJ7_copyOfRangeByte_39247_18 (by decide) ?_
  refine lv_aload_n hx hb dJ7_copyOfRangeByte_39247_19 rfl (lv_at hl 2 rfl) ?_
  refine va_alen (D := G.1) (v := (nI yn)) hx hb hK hP 0 2 rfl rfl rfl dJ7_copyOfRangeByte_39247_20 ?_
  refine lv_iload_n hx hb dJ7_copyOfRangeByte_39247_21 rfl (lv_at hl 3 rfl) ?_
  refine lv_isub hx hb dJ7_copyOfRangeByte_39247_22 ?_
  refine lv_iload_n hx hb dJ7_copyOfRangeByte_39247_23 rfl (lv_at hl 1 rfl) ?_
  refine va_mmin hx hb (by rw [hml]; exact hl.1.symm) hown (hts _ q745) (hts _ q746) (hts _ q18) (hts _ q747) (Nat.le_of_ble_eq_true rfl) (Nat.le_of_ble_eq_true rfl) hq_1 hq_2 dJ7_copyOfRangeByte_39247_24 ?_
  obtain ⟨⟨ha1, ha2, ha3, ha4, ha5, ha6⟩, h⟩ := h
  refine va_copyi (D := G.1) hx hb (by rw [hml]; exact hl.1.symm) hown (hts _ q748) (hts _ q469) (hts _ q468) (hts _ q21) hK hP hD hS 0 1 2 2 rfl rfl rfl rfl (by decide) ha1 ha2 ha3 ha4 ha5 (fun i hi => ha6 i hi) (Nat.le_of_ble_eq_true rfl) (Nat.le_of_ble_eq_true rfl) dJ7_copyOfRangeByte_39247_27 (fun H locs hP hD hS => ?_)
  have hP : PP G [(y0, .inl (G.2 2, yn, .inl yf)), (q_1, .inl (G.2 2, (p3 - p2).toNatClampNeg, .inl (va_cpy yf (fun _ => (0 : Int32)) p2.toNatClampNeg (0 : Int32).toNatClampNeg (if (p3 - p2) < ((nI yn) - p2) then (p3 - p2) else ((nI yn) - p2)).toNatClampNeg)))] H := hP
  have hD : va_D A [(y0, .inl (G.2 2, yn, .inl yf)), (q_1, .inl (G.2 2, (p3 - p2).toNatClampNeg, .inl (va_cpy yf (fun _ => (0 : Int32)) p2.toNatClampNeg (0 : Int32).toNatClampNeg (if (p3 - p2) < ((nI yn) - p2) then (p3 - p2) else ((nI yn) - p2)).toNatClampNeg)))] := hD
  refine lv_aload hx hb dJ7_copyOfRangeByte_39247_30 (lv_at hl 0 rfl) ?_
  obtain ⟨⟨hw1, hw2⟩, h⟩ := h
  refine W.widen (k := mcb) (n := msb) hw1 hw2 ?_
  subst hQC; exact W.aret (v := .ref q_1) hx hb hr (by first | exact Or.inl ⟨_, rfl⟩ | exact Or.inr ⟨_, rfl⟩) (Or.inr ⟨_, rfl⟩) (fun t ht hW => ⟨⟨((p3 - p2).toNatClampNeg, (va_cpy yf (fun _ => (0 : Int32)) p2.toNatClampNeg (0 : Int32).toNatClampNeg (if (p3 - p2) < ((nI yn) - p2) then (p3 - p2) else ((nI yn) - p2)).toNatClampNeg)), q_1, rfl, h, by rw [ht]; exact hP, hD⟩, hS.F ht⟩) hS.2.2 dJ7_copyOfRangeByte_39247_32
theorem dJ7_copyOfRange_39247_0 : decode cJ7_copyOfRange_39247 0 = .ok (.iload_n 1, 1) := by decide +kernel
theorem dJ7_copyOfRange_39247_1 : decode cJ7_copyOfRange_39247 1 = .ok (.ifCond .ne 9, 3) := by decide +kernel
theorem dJ7_copyOfRange_39247_4 : decode cJ7_copyOfRange_39247 4 = .ok (.iload_n 2, 1) := by decide +kernel
theorem dJ7_copyOfRange_39247_5 : decode cJ7_copyOfRange_39247 5 = .ok (.aload_n 0, 1) := by decide +kernel
theorem dJ7_copyOfRange_39247_6 : decode cJ7_copyOfRange_39247 6 = .ok (.arraylength, 1) := by decide +kernel
theorem dJ7_copyOfRange_39247_7 : decode cJ7_copyOfRange_39247 7 = .ok (.if_icmp .eq 10, 3) := by decide +kernel
theorem dJ7_copyOfRange_39247_10 : decode cJ7_copyOfRange_39247 10 = .ok (.aload_n 0, 1) := by decide +kernel
theorem dJ7_copyOfRange_39247_11 : decode cJ7_copyOfRange_39247 11 = .ok (.iload_n 1, 1) := by decide +kernel
theorem dJ7_copyOfRange_39247_12 : decode cJ7_copyOfRange_39247 12 = .ok (.iload_n 2, 1) := by decide +kernel
theorem dJ7_copyOfRange_39247_13 : decode cJ7_copyOfRange_39247 13 = .ok (.invokestatic 339, 3) := by decide +kernel
theorem dJ7_copyOfRange_39247_16 : decode cJ7_copyOfRange_39247 16 = .ok (.areturn, 1) := by decide +kernel
theorem dJ7_copyOfRange_39247_17 : decode cJ7_copyOfRange_39247 17 = .ok (.aload_n 0, 1) := by decide +kernel
theorem dJ7_copyOfRange_39247_18 : decode cJ7_copyOfRange_39247 18 = .ok (.invokevirtual 310, 3) := by decide +kernel
theorem dJ7_copyOfRange_39247_21 : decode cJ7_copyOfRange_39247 21 = .ok (.checkcast 311, 3) := by decide +kernel
theorem dJ7_copyOfRange_39247_24 : decode cJ7_copyOfRange_39247 24 = .ok (.areturn, 1) := by decide +kernel
def wnJ7_copyOfRange_39247 (post : Nat × (Nat → Int32) → Prop) (yn : Nat) (yf : Nat → Int32) (mcb : Nat) (msb : Nat) (p2 : Int32) (p3 : Int32) : Prop :=
  ((¬ p2 = 0) →
    ∃ b_1 b_2 : Nat,
    ((0 + b_1) ≤ mcb ∧ (0 + b_2) ≤ msb) ∧
    wnJ7_copyOfRangeByte_39247 (fun (z_1 : Nat × (Nat → Int32)) =>
      ((0 + b_1) ≤ mcb ∧ (0 + b_2) ≤ msb) ∧
      post (z_1.1, z_1.2)
      ) yn yf b_1 b_2 p2 p3
  ) ∧ ((p2 = 0) →
    ((p3 = (nI yn)) →
      (∀ i : Nat, i < yn → FB (yf i)) ∧
      ((0 + 1) ≤ mcb ∧ (0 + yn) ≤ msb) ∧
      ((0 + 1) ≤ mcb ∧ (0 + yn) ≤ msb) ∧
      post (yn, yf)
    ) ∧ (¬ (p3 = (nI yn)) →
      ∃ b_3 b_4 : Nat,
      ((0 + b_3) ≤ mcb ∧ (0 + b_4) ≤ msb) ∧
      wnJ7_copyOfRangeByte_39247 (fun (z_2 : Nat × (Nat → Int32)) =>
        ((0 + b_3) ≤ mcb ∧ (0 + b_4) ≤ msb) ∧
        post (z_2.1, z_2.2)
        ) yn yf b_3 b_4 p2 p3
    )
  )
abbrev wl_nJ7_copyOfRange_39247 : List Cond := .code yJ7_copyOfRange_39247 cJ7_copyOfRange_39247 3 (some (.array .byte)) :: lwg
abbrev rm_nJ7_copyOfRange_39247 (mcb msb : Nat) : Room := { frames := 2, cells := mcb, slots := msb, locals := 88 }
set_option maxHeartbeats 4000000 in
set_option maxRecDepth 100000 in
theorem knJ7_copyOfRange_39247 {post : Nat × (Nat → Int32) → Prop} (l : Launch) (G : GT) (y0 : Nat) (yn : Nat) (yf : Nat → Int32) (mcb : Nat) (msb : Nat) (p2 : Int32) (p3 : Int32) (sz : Nat) (h : wnJ7_copyOfRange_39247 post yn yf mcb msb p2 p3) : Met l yJ7_copyOfRange_39247 wl_nJ7_copyOfRange_39247 (rm_nJ7_copyOfRange_39247 mcb msb) (va_Pc [.ref y0, .int p2, .int p3] (fun U => U.heap.size = sz ∧ PP G [(y0, .inl (G.2 2, yn, .inl yf))] U.heap ∧ KK G U ∧ va_D (fun _ => True) [(y0, .inl (G.2 2, yn, .inl yf))])) (va_Qr post (fun u ra t => PP G [(y0, .inl (G.2 2, yn, .inl yf)), (ra, .inl (G.2 2, u.1, .inl (u.2)))] t.heap ∧ va_D (va_A [(y0, .inl (G.2 2, yn, .inl yf))] sz) [(y0, .inl (G.2 2, yn, .inl yf)), (ra, .inl (G.2 2, u.1, .inl (u.2)))]) (va_A [(y0, .inl (G.2 2, yn, .inl yf))] sz)) mcb msb (va_A [(y0, .inl (G.2 2, yn, .inl yf))] sz) := by
  refine Met.ofW (cc := cJ7_copyOfRange_39247) (maxL := 3) (ret := (some (.array .byte))) (by decide) rfl ?_
  intro p e s m args below meth c s₁ B hml hv
  obtain ⟨rfl, hsz, hP, hKK, hD0⟩ := hv
  obtain ⟨hK, hN, hR, hFW, hNC⟩ := id hKK
  have hx := B.exec
  have hb := B.bytes
  have hr := B.returns
  have hts0 := atoms_spec (ws := wl_nJ7_copyOfRange_39247) B.pre
  have hts : ∀ w ∈ lwg, w.before ([.ref y0, .int p2, .int p3] : List Value).toArray s = true := fun w hw => hts0 w (List.mem_cons_of_mem _ hw)
  have hown : s.vm.findClass RJ7 = some m.cls := findClass_of_methodNamed B.named
  have hlocks := B.notSynchronized
  subst hsz
  have hD := hD0.self (sz := s.heap.size)
  generalize hAe : va_A [(y0, .inl (G.2 2, yn, .inl yf))] s.heap.size = A at hD ⊢
  have hA : ∀ q : Nat, s.heap.size ≤ q → A q := fun q h => by rw [← hAe]; exact Or.inr h
  have hS : va_S A s.heap s.heap [] := va_S.rf
  obtain ⟨QC, hQC⟩ : ∃ Z, Z = (va_Qr post (fun u ra t => PP G [(y0, .inl (G.2 2, yn, .inl yf)), (ra, .inl (G.2 2, u.1, .inl (u.2)))] t.heap ∧ va_D A [(y0, .inl (G.2 2, yn, .inl yf)), (ra, .inl (G.2 2, u.1, .inl (u.2)))]) A) := ⟨_, rfl⟩
  rw [← hQC]
  have hP : PP G [(y0, .inl (G.2 2, yn, .inl yf))] s.heap := hP
  have hl := lv_entry ([.ref y0, .int p2, .int p3]) (n := 3) (Nat.le_of_ble_eq_true rfl)
  rw [lg_entry_eq]
  generalize (lg_sl ([.ref y0, .int p2, .int p3]) ++ List.replicate (3 - (lg_sl ([.ref y0, .int p2, .int p3])).length) Slot.unset).toArray = ls at hl ⊢
  have hl : lv_has ls 3 [(0, .ref y0), (1, .int p2), (2, .int p3)] := hl
  refine lv_iload_n hx hb dJ7_copyOfRange_39247_0 rfl (lv_at hl 1 rfl) ?_
  refine lv_if_ne (tgt := 10) hx hb dJ7_copyOfRange_39247_1 (by decide) (fun hc => ?_) (fun hc => ?_)
  · have h := h.1 hc
    refine lv_aload_n hx hb dJ7_copyOfRange_39247_10 rfl (lv_at hl 0 rfl) ?_
    refine lv_iload_n hx hb dJ7_copyOfRange_39247_11 rfl (lv_at hl 1 rfl) ?_
    refine lv_iload_n hx hb dJ7_copyOfRange_39247_12 rfl (lv_at hl 2 rfl) ?_
    obtain ⟨b_1, b_2, h⟩ := h
    obtain ⟨⟨hq_1, hq_2⟩, h⟩ := h
    have hPc := hP
    have hDc := hD.sub (ws' := [(y0, .inl (G.2 2, yn, .inl yf))]) [0] (by decide) rfl
    have hFc := va_free (wc := [(y0, .inl (G.2 2, yn, .inl yf))]) hD hS hA [0] rfl
    refine va_callr (va_runS (As := [.ref y0, .int p2, .int p3]) (rest := []) ⟨hx, hb, hml, hown, hts⟩ (knJ7_copyOfRangeByte_39247 l G y0 yn yf b_1 b_2 p2 p3 _ h) (va_cwS 3 hts (gdS q869 q870 q20 q871) rfl rfl rfl (by decide +kernel) ⟨Nat.le_of_ble_eq_true rfl, Nat.le_of_ble_eq_true rfl⟩) (preSw hPc hKK hDc) rfl rfl hl.1 rfl (lv_room (Nat.le_of_ble_eq_true rfl)) dJ7_copyOfRange_39247_13 ⟨hq_1, hq_2⟩) hS (fun q _ h => hFc q h) hFc (fun u ra t H1 locs ht hvm h hB hz1 hk1 hS => ?_)
    obtain ⟨c_1, c_2⟩ := u
    obtain ⟨na_1, rfl⟩ : ∃ z, z = ra := ⟨_, rfl⟩
    obtain ⟨hP1, hD1⟩ := hB
    rw [ht] at hP1
    have hP := hP1
    have hD : va_D A [(y0, .inl (G.2 2, yn, .inl yf)), (na_1, .inl (G.2 2, c_1, .inl c_2))] := hD1.weaken (fun _ _ _ h => hFc _ h)
    generalize H1 = H at hP hS ⊢
    have hP : PP G [(y0, .inl (G.2 2, yn, .inl yf)), (na_1, .inl (G.2 2, c_1, .inl c_2))] H := hP
    obtain ⟨⟨hw1, hw2⟩, h⟩ := h
    refine W.widen (k := mcb) (n := msb) hw1 hw2 ?_
    subst hQC; exact W.aret (v := .ref na_1) hx hb hr (by first | exact Or.inl ⟨_, rfl⟩ | exact Or.inr ⟨_, rfl⟩) (Or.inr ⟨_, rfl⟩) (fun t ht hW => ⟨⟨(c_1, c_2), na_1, rfl, h, by rw [ht]; exact hP, hD⟩, hS.F ht⟩) hS.2.2 dJ7_copyOfRange_39247_16
  · have h := h.2 hc
    refine lv_iload_n hx hb dJ7_copyOfRange_39247_4 rfl (lv_at hl 2 rfl) ?_
    refine lv_aload_n hx hb dJ7_copyOfRange_39247_5 rfl (lv_at hl 0 rfl) ?_
    refine va_alen (D := G.1) (v := (nI yn)) hx hb hK hP 0 2 rfl rfl rfl dJ7_copyOfRange_39247_6 ?_
    refine lv_icmp_eq (tgt := 17) hx hb dJ7_copyOfRange_39247_7 (by decide) (fun hc => ?_) (fun hc => ?_)
    · have h := h.1 hc
      refine lv_aload_n hx hb dJ7_copyOfRange_39247_17 rfl (lv_at hl 0 rfl) ?_
      obtain ⟨hfb, h⟩ := h
      obtain ⟨⟨hq_3, hq_4⟩, h⟩ := h
      refine va_clone (D := G.1) hx hb (by rw [hml]; exact hl.1.symm) hown (hts _ q738) (hts _ q739) (hts _ q740) (hts _ q741) (hts _ q742) (hN _ n743) hK hP hD hS hA 0 2 rfl rfl (hK.2 2 _ rfl).2 (fitsB hfb) (Nat.le_of_ble_eq_true rfl) (Nat.le_of_ble_eq_true rfl) hq_3 hq_4 dJ7_copyOfRange_39247_18 (fun q_1 H hK2 hP hD hS => ?_)
      have hP : PP G [(y0, .inl (G.2 2, yn, .inl yf)), (q_1, .inl (G.2 2, yn, .inl yf))] H := hP
      have hD : va_D A [(y0, .inl (G.2 2, yn, .inl yf)), (q_1, .inl (G.2 2, yn, .inl yf))] := hD
      refine va_castA (D := G.1) (cl := vwCl) hx hb hown (hts _ q744) hP 1 rfl (hK.2 2 _ rfl).2 dJ7_copyOfRange_39247_21 ?_
      obtain ⟨⟨hw1, hw2⟩, h⟩ := h
      refine W.widen (k := mcb) (n := msb) hw1 hw2 ?_
      subst hQC; exact W.aret (v := .ref q_1) hx hb hr (by first | exact Or.inl ⟨_, rfl⟩ | exact Or.inr ⟨_, rfl⟩) (Or.inr ⟨_, rfl⟩) (fun t ht hW => ⟨⟨(yn, yf), q_1, rfl, h, by rw [ht]; exact hP, hD⟩, hS.F ht⟩) hS.2.2 dJ7_copyOfRange_39247_24
    · have h := h.2 hc
      refine lv_aload_n hx hb dJ7_copyOfRange_39247_10 rfl (lv_at hl 0 rfl) ?_
      refine lv_iload_n hx hb dJ7_copyOfRange_39247_11 rfl (lv_at hl 1 rfl) ?_
      refine lv_iload_n hx hb dJ7_copyOfRange_39247_12 rfl (lv_at hl 2 rfl) ?_
      obtain ⟨b_3, b_4, h⟩ := h
      obtain ⟨⟨hq_5, hq_6⟩, h⟩ := h
      have hPc := hP
      have hDc := hD.sub (ws' := [(y0, .inl (G.2 2, yn, .inl yf))]) [0] (by decide) rfl
      have hFc := va_free (wc := [(y0, .inl (G.2 2, yn, .inl yf))]) hD hS hA [0] rfl
      refine va_callr (va_runS (As := [.ref y0, .int p2, .int p3]) (rest := []) ⟨hx, hb, hml, hown, hts⟩ (knJ7_copyOfRangeByte_39247 l G y0 yn yf b_3 b_4 p2 p3 _ h) (va_cwS 3 hts (gdS q869 q870 q20 q871) rfl rfl rfl (by decide +kernel) ⟨Nat.le_of_ble_eq_true rfl, Nat.le_of_ble_eq_true rfl⟩) (preSw hPc hKK hDc) rfl rfl hl.1 rfl (lv_room (Nat.le_of_ble_eq_true rfl)) dJ7_copyOfRange_39247_13 ⟨hq_5, hq_6⟩) hS (fun q _ h => hFc q h) hFc (fun u ra t H1 locs ht hvm h hB hz1 hk1 hS => ?_)
      obtain ⟨c_3, c_4⟩ := u
      obtain ⟨na_2, rfl⟩ : ∃ z, z = ra := ⟨_, rfl⟩
      obtain ⟨hP1, hD1⟩ := hB
      rw [ht] at hP1
      have hP := hP1
      have hD : va_D A [(y0, .inl (G.2 2, yn, .inl yf)), (na_2, .inl (G.2 2, c_3, .inl c_4))] := hD1.weaken (fun _ _ _ h => hFc _ h)
      generalize H1 = H at hP hS ⊢
      have hP : PP G [(y0, .inl (G.2 2, yn, .inl yf)), (na_2, .inl (G.2 2, c_3, .inl c_4))] H := hP
      obtain ⟨⟨hw1, hw2⟩, h⟩ := h
      refine W.widen (k := mcb) (n := msb) hw1 hw2 ?_
      subst hQC; exact W.aret (v := .ref na_2) hx hb hr (by first | exact Or.inl ⟨_, rfl⟩ | exact Or.inr ⟨_, rfl⟩) (Or.inr ⟨_, rfl⟩) (fun t ht hW => ⟨⟨(c_3, c_4), na_2, rfl, h, by rw [ht]; exact hP, hD⟩, hS.F ht⟩) hS.2.2 dJ7_copyOfRange_39247_16
theorem dJ0_init_db425_0 : decode cJ0_init_db425 0 = .ok (.aload_n 0, 1) := by decide +kernel
theorem dJ0_init_db425_1 : decode cJ0_init_db425 1 = .ok (.invokespecial 1, 3) := by decide +kernel
theorem dJ0_init_db425_4 : decode cJ0_init_db425 4 = .ok (.aload_n 1, 1) := by decide +kernel
theorem dJ0_init_db425_5 : decode cJ0_init_db425 5 = .ok (.invokevirtual 552, 3) := by decide +kernel
theorem dJ0_init_db425_8 : decode cJ0_init_db425 8 = .ok (.astore_n 3, 1) := by decide +kernel
theorem dJ0_init_db425_9 : decode cJ0_init_db425 9 = .ok (.aload_n 1, 1) := by decide +kernel
theorem dJ0_init_db425_10 : decode cJ0_init_db425 10 = .ok (.invokevirtual 549, 3) := by decide +kernel
theorem dJ0_init_db425_13 : decode cJ0_init_db425 13 = .ok (.istore 4, 2) := by decide +kernel
theorem dJ0_init_db425_15 : decode cJ0_init_db425 15 = .ok (.aload_n 1, 1) := by decide +kernel
theorem dJ0_init_db425_16 : decode cJ0_init_db425 16 = .ok (.invokevirtual 1047, 3) := by decide +kernel
theorem dJ0_init_db425_19 : decode cJ0_init_db425 19 = .ok (.ifCond .eq 22, 3) := by decide +kernel
theorem dJ0_init_db425_22 : decode cJ0_init_db425 22 = .ok (.aload_n 0, 1) := by decide +kernel
theorem dJ0_init_db425_23 : decode cJ0_init_db425 23 = .ok (.iconst 0, 1) := by decide +kernel
theorem dJ0_init_db425_24 : decode cJ0_init_db425 24 = .ok (.putfield 15, 3) := by decide +kernel
theorem dJ0_init_db425_27 : decode cJ0_init_db425 27 = .ok (.aload_n 0, 1) := by decide +kernel
theorem dJ0_init_db425_28 : decode cJ0_init_db425 28 = .ok (.aload_n 3, 1) := by decide +kernel
theorem dJ0_init_db425_29 : decode cJ0_init_db425 29 = .ok (.iconst 0, 1) := by decide +kernel
theorem dJ0_init_db425_30 : decode cJ0_init_db425 30 = .ok (.iload 4, 2) := by decide +kernel
theorem dJ0_init_db425_32 : decode cJ0_init_db425 32 = .ok (.invokestatic 54, 3) := by decide +kernel
theorem dJ0_init_db425_35 : decode cJ0_init_db425 35 = .ok (.putfield 9, 3) := by decide +kernel
theorem dJ0_init_db425_38 : decode cJ0_init_db425 38 = .ok (.goto 59, 3) := by decide +kernel
theorem dJ0_init_db425_41 : decode cJ0_init_db425 41 = .ok (.getstatic 38, 3) := by decide +kernel
theorem dJ0_init_db425_44 : decode cJ0_init_db425 44 = .ok (.ifCond .eq 35, 3) := by decide +kernel
theorem dJ0_init_db425_47 : decode cJ0_init_db425 47 = .ok (.aload_n 1, 1) := by decide +kernel
theorem dJ0_init_db425_48 : decode cJ0_init_db425 48 = .ok (.getfield 1048, 3) := by decide +kernel
theorem dJ0_init_db425_51 : decode cJ0_init_db425 51 = .ok (.ifCond .eq 28, 3) := by decide +kernel
theorem dJ0_init_db425_54 : decode cJ0_init_db425 54 = .ok (.aload_n 0, 1) := by decide +kernel
theorem dJ0_init_db425_55 : decode cJ0_init_db425 55 = .ok (.aload_n 3, 1) := by decide +kernel
theorem dJ0_init_db425_56 : decode cJ0_init_db425 56 = .ok (.iconst 0, 1) := by decide +kernel
theorem dJ0_init_db425_57 : decode cJ0_init_db425 57 = .ok (.iload 4, 2) := by decide +kernel
theorem dJ0_init_db425_59 : decode cJ0_init_db425 59 = .ok (.invokestatic 1051, 3) := by decide +kernel
theorem dJ0_init_db425_62 : decode cJ0_init_db425 62 = .ok (.putfield 9, 3) := by decide +kernel
theorem dJ0_init_db425_65 : decode cJ0_init_db425 65 = .ok (.aload_n 0, 1) := by decide +kernel
theorem dJ0_init_db425_66 : decode cJ0_init_db425 66 = .ok (.aload_n 0, 1) := by decide +kernel
theorem dJ0_init_db425_67 : decode cJ0_init_db425 67 = .ok (.getfield 9, 3) := by decide +kernel
theorem dJ0_init_db425_70 : decode cJ0_init_db425 70 = .ok (.iload 4, 2) := by decide +kernel
theorem dJ0_init_db425_72 : decode cJ0_init_db425 72 = .ok (.invokestatic 47, 3) := by decide +kernel
theorem dJ0_init_db425_75 : decode cJ0_init_db425 75 = .ok (.putfield 15, 3) := by decide +kernel
theorem dJ0_init_db425_78 : decode cJ0_init_db425 78 = .ok (.return_, 1) := by decide +kernel
theorem dJ0_init_db425_79 : decode cJ0_init_db425 79 = .ok (.aload_n 0, 1) := by decide +kernel
theorem dJ0_init_db425_80 : decode cJ0_init_db425 80 = .ok (.iconst 1, 1) := by decide +kernel
theorem dJ0_init_db425_81 : decode cJ0_init_db425 81 = .ok (.putfield 15, 3) := by decide +kernel
theorem dJ0_init_db425_84 : decode cJ0_init_db425 84 = .ok (.aload_n 0, 1) := by decide +kernel
theorem dJ0_init_db425_85 : decode cJ0_init_db425 85 = .ok (.aload_n 3, 1) := by decide +kernel
theorem dJ0_init_db425_86 : decode cJ0_init_db425 86 = .ok (.iconst 0, 1) := by decide +kernel
theorem dJ0_init_db425_87 : decode cJ0_init_db425 87 = .ok (.iload 4, 2) := by decide +kernel
theorem dJ0_init_db425_89 : decode cJ0_init_db425 89 = .ok (.iconst 1, 1) := by decide +kernel
theorem dJ0_init_db425_90 : decode cJ0_init_db425 90 = .ok (.ishl, 1) := by decide +kernel
theorem dJ0_init_db425_91 : decode cJ0_init_db425 91 = .ok (.invokestatic 54, 3) := by decide +kernel
theorem dJ0_init_db425_94 : decode cJ0_init_db425 94 = .ok (.putfield 9, 3) := by decide +kernel
theorem dJ0_init_db425_97 : decode cJ0_init_db425 97 = .ok (.return_, 1) := by decide +kernel
def wnJ0_init_db425 (post : Nat × (Nat → Int32) → Prop) (wc : Int32) (wn : Nat) (wf : Nat → Int32) (mcb : Nat) (msb : Nat) : Prop :=
  wJ5_getValue_6d5f1 (fun (_ : Unit) =>
    wJ4_length_8abf5 (fun r_2 : Int32 =>
      ∃ b_1 b_2 : Nat,
      ((0 + b_1) ≤ mcb ∧ (0 + b_2) ≤ msb) ∧
      wnJ7_copyOfRange_39247 (fun (z_1 : Nat × (Nat → Int32)) =>
        ((0 + b_1) ≤ mcb ∧ (0 + b_2) ≤ msb) ∧
        post (z_1.1, z_1.2)
        ) wn wf b_1 b_2 (0 : Int32) r_2
      ) wc
    ) 
abbrev wl_nJ0_init_db425 : List Cond := .code yJ0_init_db425 cJ0_init_db425 5 none :: lwg
abbrev rm_nJ0_init_db425 (mcb msb : Nat) : Room := { frames := 3, cells := mcb, slots := msb, locals := 110 }
set_option maxHeartbeats 4000000 in
set_option maxRecDepth 100000 in
theorem knJ0_init_db425 {post : Nat × (Nat → Int32) → Prop} (l : Launch) (G : GT) (t0 : Nat) (wb : Nat) (wv : Nat) (wc : Int32) (wn : Nat) (wf : Nat → Int32) (mcb : Nat) (msb : Nat) (sz : Nat) (h : wnJ0_init_db425 post wc wn wf mcb msb) : Met l yJ0_init_db425 wl_nJ0_init_db425 (rm_nJ0_init_db425 mcb msb) (va_Pc [.ref t0, .ref wb, .null] (fun U => U.heap.size = sz ∧ PP G [(t0, .inr (0, [.null, .int (0 : Int32), .int (0 : Int32), .int (0 : Int32)])), (wb, .inr (1, [.ref wv, .int (0 : Int32), .int (0 : Int32), .int wc])), (wv, .inl (G.2 2, wn, .inl wf))] U.heap ∧ KK G U ∧ va_D (fun _ => True) [(t0, .inr (0, [.null, .int (0 : Int32), .int (0 : Int32), .int (0 : Int32)])), (wb, .inr (1, [.ref wv, .int (0 : Int32), .int (0 : Int32), .int wc])), (wv, .inl (G.2 2, wn, .inl wf))] ∧ JJ G (va_A [(t0, .inr (0, [.null, .int (0 : Int32), .int (0 : Int32), .int (0 : Int32)])), (wb, .inr (1, [.ref wv, .int (0 : Int32), .int (0 : Int32), .int wc])), (wv, .inl (G.2 2, wn, .inl wf))] sz) U U.heap)) (va_Qv post (fun u t => ∃ na_1E : Nat, PP G [(t0, .inr (0, [.ref na_1E, .int (0 : Int32), .int (0 : Int32), .int (0 : Int32)])), (wb, .inr (1, [.ref wv, .int (0 : Int32), .int (0 : Int32), .int wc])), (wv, .inl (G.2 2, wn, .inl wf)), (na_1E, .inl (G.2 2, u.1, .inl u.2))] t.heap ∧ va_D (va_A [(t0, .inr (0, [.null, .int (0 : Int32), .int (0 : Int32), .int (0 : Int32)])), (wb, .inr (1, [.ref wv, .int (0 : Int32), .int (0 : Int32), .int wc])), (wv, .inl (G.2 2, wn, .inl wf))] sz) [(t0, .inr (0, [.ref na_1E, .int (0 : Int32), .int (0 : Int32), .int (0 : Int32)])), (wb, .inr (1, [.ref wv, .int (0 : Int32), .int (0 : Int32), .int wc])), (wv, .inl (G.2 2, wn, .inl wf)), (na_1E, .inl (G.2 2, u.1, .inl u.2))]) (va_A [(t0, .inr (0, [.null, .int (0 : Int32), .int (0 : Int32), .int (0 : Int32)])), (wb, .inr (1, [.ref wv, .int (0 : Int32), .int (0 : Int32), .int wc])), (wv, .inl (G.2 2, wn, .inl wf))] sz)) mcb msb (va_A [(t0, .inr (0, [.null, .int (0 : Int32), .int (0 : Int32), .int (0 : Int32)])), (wb, .inr (1, [.ref wv, .int (0 : Int32), .int (0 : Int32), .int wc])), (wv, .inl (G.2 2, wn, .inl wf))] sz) := by
  refine Met.ofW (cc := cJ0_init_db425) (maxL := 5) (ret := none) (by decide) rfl ?_
  intro p e s m args below meth c s₁ B hml hv
  obtain ⟨rfl, hsz, hP, hKK, hD0, hJ⟩ := hv
  obtain ⟨hK, hN, hR, hFW, hNC⟩ := id hKK
  have hx := B.exec
  have hb := B.bytes
  have hr := B.returns
  have hts0 := atoms_spec (ws := wl_nJ0_init_db425) B.pre
  have hts : ∀ w ∈ lwg, w.before ([.ref t0, .ref wb, .null] : List Value).toArray s = true := fun w hw => hts0 w (List.mem_cons_of_mem _ hw)
  have hown : s.vm.findClass RJ0 = some m.cls := findClass_of_methodNamed B.named
  have hlocks := B.notSynchronized
  have hin : meth.name = "<init>" := (name_of_methodNamed B.named B.method).1
  subst hsz
  have hD := hD0.self (sz := s.heap.size)
  generalize hAe : va_A [(t0, .inr (0, [.null, .int (0 : Int32), .int (0 : Int32), .int (0 : Int32)])), (wb, .inr (1, [.ref wv, .int (0 : Int32), .int (0 : Int32), .int wc])), (wv, .inl (G.2 2, wn, .inl wf))] s.heap.size = A at hD hJ ⊢
  have hA : ∀ q : Nat, s.heap.size ≤ q → A q := fun q h => by rw [← hAe]; exact Or.inr h
  have hS : va_S A s.heap s.heap [] := va_S.rf
  obtain ⟨QC, hQC⟩ : ∃ Z, Z = (va_Qv post (fun u t => ∃ na_1E : Nat, PP G [(t0, .inr (0, [.ref na_1E, .int (0 : Int32), .int (0 : Int32), .int (0 : Int32)])), (wb, .inr (1, [.ref wv, .int (0 : Int32), .int (0 : Int32), .int wc])), (wv, .inl (G.2 2, wn, .inl wf)), (na_1E, .inl (G.2 2, u.1, .inl u.2))] t.heap ∧ va_D A [(t0, .inr (0, [.ref na_1E, .int (0 : Int32), .int (0 : Int32), .int (0 : Int32)])), (wb, .inr (1, [.ref wv, .int (0 : Int32), .int (0 : Int32), .int wc])), (wv, .inl (G.2 2, wn, .inl wf)), (na_1E, .inl (G.2 2, u.1, .inl u.2))]) A) := ⟨_, rfl⟩
  rw [← hQC]
  obtain ⟨jE, hjE⟩ := hJ.2.1
  obtain ⟨jT, hjT1, hjT2⟩ := hJ.2.2.1
  obtain ⟨jO, hjO1, hjO2⟩ := hJ.2.2.2.1
  obtain ⟨jS, hjS⟩ := hJ.2.2.2.2.1
  have hP : PP G [(t0, .inr (0, [.null, .int (0 : Int32), .int (0 : Int32), .int (0 : Int32)])), (wb, .inr (1, [.ref wv, .int (0 : Int32), .int (0 : Int32), .int wc])), (wv, .inl (G.2 2, wn, .inl wf))] s.heap := hP
  have hl := lv_entry ([.ref t0, .ref wb, .null]) (n := 5) (Nat.le_of_ble_eq_true rfl)
  rw [lg_entry_eq]
  generalize (lg_sl ([.ref t0, .ref wb, .null]) ++ List.replicate (5 - (lg_sl ([.ref t0, .ref wb, .null])).length) Slot.unset).toArray = ls at hl ⊢
  have hl : lv_has ls 5 [(0, .ref t0), (1, .ref wb), (2, .null)] := hl
  refine lv_aload_n hx hb dJ0_init_db425_0 rfl (lv_at hl 0 rfl) ?_
  refine W.objInit hx hb hown (hts _ q851) (hts _ q35) (hts _ q36) rfl (hl.1.trans hml.symm) rfl dJ0_init_db425_1 (Nat.le_of_ble_eq_true rfl) (Nat.le_of_ble_eq_true rfl) ?_
  refine W.eq (g2 := F0 m 4 ls []) rfl ?_
  refine lv_aload_n hx hb dJ0_init_db425_4 rfl (lv_at hl 1 rfl) ?_
  have hPc := va_P.sub (ws' := [(wb, .inr (1, [.ref wv, .int (0 : Int32), .int (0 : Int32), .int wc]))]) hP [1] rfl
  have hDc := hD.sub (ws' := [(wb, .inr (1, [.ref wv, .int (0 : Int32), .int (0 : Int32), .int wc]))]) [1] (by decide) rfl
  have hFc := va_free (wc := [(wb, .inr (1, [.ref wv, .int (0 : Int32), .int (0 : Int32), .int wc]))]) hD hS hA [1] rfl
  refine va_callr (va_runU (C := RJ4) (As := []) (rest := []) ⟨hx, hb, hml, hown, hts⟩ (kJ5_getValue_6d5f1 l G wb wv wc _ h) (va_cwU 0 hts (gdU q852 q854 q855 q853 q24 q856) rfl rfl rfl rfl (by decide +kernel) ⟨Nat.le_of_ble_eq_true rfl, Nat.le_of_ble_eq_true rfl⟩) (preVw hPc hKK hDc (va_recv hK hPc (ci := 1) (q0 := 0) rfl rfl)) rfl rfl hl.1 rfl (lv_room (Nat.le_of_ble_eq_true rfl)) dJ0_init_db425_5 ⟨Nat.zero_le _, Nat.zero_le _⟩) hS (fun q _ h => hFc q h) hFc (fun u ra t H1 locs ht hvm h hB hz1 hk1 hS => ?_)
  obtain ⟨era, hB⟩ := hB
  rw [era]
  obtain ⟨hP1, hD1⟩ := hB
  rw [ht] at hP1
  obtain ⟨hP, hD⟩ := va_join (wr := [(t0, .inr (0, [.null, .int (0 : Int32), .int (0 : Int32), .int (0 : Int32)])), (wv, .inl (G.2 2, wn, .inl wf))]) (w1 := [(wb, .inr (1, [.ref wv, .int (0 : Int32), .int (0 : Int32), .int wc]))]) hP hD [1] [0, 2] rfl rfl (by decide) (by decide) hk1 hFc hP1 hD1
  generalize H1 = H at hP hS ⊢
  have hP : PP G [(t0, .inr (0, [.null, .int (0 : Int32), .int (0 : Int32), .int (0 : Int32)])), (wb, .inr (1, [.ref wv, .int (0 : Int32), .int (0 : Int32), .int wc])), (wv, .inl (G.2 2, wn, .inl wf))] H := va_P.sub hP [0, 2, 1] rfl
  have hD : va_D A [(t0, .inr (0, [.null, .int (0 : Int32), .int (0 : Int32), .int (0 : Int32)])), (wb, .inr (1, [.ref wv, .int (0 : Int32), .int (0 : Int32), .int wc])), (wv, .inl (G.2 2, wn, .inl wf))] := hD.sub [0, 2, 1] (by decide) rfl
  refine lv_astore_n hx hb dJ0_init_db425_8 rfl hl (Nat.le_of_ble_eq_true rfl) rfl (fun ls hl => ?_)
  have hl : lv_has ls 5 [(3, .ref wv), (0, .ref t0), (1, .ref wb), (2, .null)] := hl
  refine lv_aload_n hx hb dJ0_init_db425_9 rfl (lv_at hl 2 rfl) ?_
  have hPc := va_P.sub (ws' := [(wb, .inr (1, [.ref wv, .int (0 : Int32), .int (0 : Int32), .int wc]))]) hP [1] rfl
  refine rdI (va_runU (C := RJ4) (As := []) (rest := []) ⟨hx, hb, hml, hown, hts⟩ (kJ4_length_8abf5 l G wb wv wc h) (va_cwO 0 hts (gdO q857 q859 q858 q860 q861 q25 q862) rfl rfl rfl q864 (by decide +kernel) ⟨Nat.le_of_ble_eq_true rfl, Nat.le_of_ble_eq_true rfl⟩) (preV hPc hKK (va_recv hK hPc (ci := 1) (q0 := 0) rfl rfl)) rfl rfl hl.1 rfl (lv_room (Nat.le_of_ble_eq_true rfl)) dJ0_init_db425_10 ⟨Nat.zero_le _, Nat.zero_le _⟩) (fun r_2 h => ?_)
  refine lv_istore hx hb dJ0_init_db425_13 hl (Nat.le_of_ble_eq_true rfl) rfl (fun ls hl => ?_)
  have hl : lv_has ls 5 [(4, .int r_2), (3, .ref wv), (0, .ref t0), (1, .ref wb), (2, .null)] := hl
  refine lv_aload_n hx hb dJ0_init_db425_15 rfl (lv_at hl 3 rfl) ?_
  have hPc := va_P.sub (ws' := [(wb, .inr (1, [.ref wv, .int (0 : Int32), .int (0 : Int32), .int wc]))]) hP [1] rfl
  have hJc : JJ G (fun _ => False) s _ := (hJ.kept hS.2.1).narrow (fun _ h => False.elim h)
  refine rdI (va_runU (C := RJ4) (As := []) (rest := []) ⟨hx, hb, hml, hown, hts⟩ (kJ5_isLatin1_aae02 (post := fun r => r = (1 : Int32)) l G wb wv wc rfl) (va_cwU 0 hts (gdU q865 q751 q752 q750 q24 q753) rfl rfl rfl rfl (by decide +kernel) ⟨Nat.le_of_ble_eq_true rfl, Nat.le_of_ble_eq_true rfl⟩) (preVj hPc hKK hJc (va_recv hK hPc (ci := 1) (q0 := 0) rfl rfl)) rfl rfl hl.1 rfl (lv_room (Nat.le_of_ble_eq_true rfl)) dJ0_init_db425_16 ⟨Nat.zero_le _, Nat.zero_le _⟩) (fun r_3 er => ?_)
  subst er
  refine lv_if_eq (tgt := 41) hx hb dJ0_init_db425_19 (by decide) (fun hc => absurd hc (by decide)) (fun _ => ?_)
  refine lv_aload_n hx hb dJ0_init_db425_22 rfl (lv_at hl 2 rfl) ?_
  refine lv_iconst (v := 0) hx hb dJ0_init_db425_23 (by decide) ?_
  refine va_putF (D := G.1) (ci := 0) (v := .int (0 : Int32)) (ty := .byte) (C := RJ0) (T := TJ0) (N := 4) hx hb hts igJ0 tyJ0 tyJ0_ok nmJ0 hown hK hP hD hS 0 rfl rfl 1 (by decide) (hts _ q934) (fun _ h9 => h9) rfl hin rfl (by decide +kernel) rfl rfl (Nat.le_of_ble_eq_true rfl) dJ0_init_db425_24 (fun H locs hP hD hS => ?_)
  have hP : PP G [(t0, .inr (0, [.null, .int (0 : Int32), .int (0 : Int32), .int (0 : Int32)])), (wb, .inr (1, [.ref wv, .int (0 : Int32), .int (0 : Int32), .int wc])), (wv, .inl (G.2 2, wn, .inl wf))] H := hP
  have hD : va_D A [(t0, .inr (0, [.null, .int (0 : Int32), .int (0 : Int32), .int (0 : Int32)])), (wb, .inr (1, [.ref wv, .int (0 : Int32), .int (0 : Int32), .int wc])), (wv, .inl (G.2 2, wn, .inl wf))] := hD
  refine lv_aload_n hx hb dJ0_init_db425_27 rfl (lv_at hl 2 rfl) ?_
  refine lv_aload_n hx hb dJ0_init_db425_28 rfl (lv_at hl 1 rfl) ?_
  refine lv_iconst (v := 0) hx hb dJ0_init_db425_29 (by decide) ?_
  refine lv_iload hx hb dJ0_init_db425_30 (lv_at hl 0 rfl) ?_
  obtain ⟨b_1, b_2, h⟩ := h
  obtain ⟨⟨hq_1, hq_2⟩, h⟩ := h
  have hPc := va_P.sub (ws' := [(wv, .inl (G.2 2, wn, .inl wf))]) hP [2] rfl
  have hDc := hD.sub (ws' := [(wv, .inl (G.2 2, wn, .inl wf))]) [2] (by decide) rfl
  have hFc := va_free (wc := [(wv, .inl (G.2 2, wn, .inl wf))]) hD hS hA [2] rfl
  refine va_callr (va_runS (As := [.ref wv, .int (0 : Int32), .int r_2]) (rest := [.ref t0]) ⟨hx, hb, hml, hown, hts⟩ (knJ7_copyOfRange_39247 l G wv wn wf b_1 b_2 (0 : Int32) r_2 _ h) (va_cwS 3 hts (gdS q866 q867 q20 q868) rfl rfl rfl (by decide +kernel) ⟨Nat.le_of_ble_eq_true rfl, Nat.le_of_ble_eq_true rfl⟩) (preSw hPc hKK hDc) rfl rfl hl.1 rfl (lv_room (Nat.le_of_ble_eq_true rfl)) dJ0_init_db425_32 ⟨hq_1, hq_2⟩) hS (fun q _ h => hFc q h) hFc (fun u ra t H1 locs ht hvm h hB hz1 hk1 hS => ?_)
  obtain ⟨c_1, c_2⟩ := u
  obtain ⟨na_1, rfl⟩ : ∃ z, z = ra := ⟨_, rfl⟩
  obtain ⟨hP1, hD1⟩ := hB
  rw [ht] at hP1
  obtain ⟨hP, hD⟩ := va_join (wr := [(t0, .inr (0, [.null, .int (0 : Int32), .int (0 : Int32), .int (0 : Int32)])), (wb, .inr (1, [.ref wv, .int (0 : Int32), .int (0 : Int32), .int wc]))]) (w1 := [(wv, .inl (G.2 2, wn, .inl wf)), (na_1, .inl (G.2 2, c_1, .inl c_2))]) hP hD [2] [0, 1] rfl rfl (by decide) (by decide) hk1 hFc hP1 hD1
  generalize H1 = H at hP hS ⊢
  have hP : PP G [(t0, .inr (0, [.null, .int (0 : Int32), .int (0 : Int32), .int (0 : Int32)])), (wb, .inr (1, [.ref wv, .int (0 : Int32), .int (0 : Int32), .int wc])), (wv, .inl (G.2 2, wn, .inl wf)), (na_1, .inl (G.2 2, c_1, .inl c_2))] H := va_P.sub hP [0, 1, 2, 3] rfl
  have hD : va_D A [(t0, .inr (0, [.null, .int (0 : Int32), .int (0 : Int32), .int (0 : Int32)])), (wb, .inr (1, [.ref wv, .int (0 : Int32), .int (0 : Int32), .int wc])), (wv, .inl (G.2 2, wn, .inl wf)), (na_1, .inl (G.2 2, c_1, .inl c_2))] := hD.sub [0, 1, 2, 3] (by decide) rfl
  refine va_putF (D := G.1) (ci := 0) (v := .ref na_1) (ty := .array .byte) (C := RJ0) (T := TJ0) (N := 4) hx hb hts igJ0 tyJ0 tyJ0_ok nmJ0 hown hK hP hD hS 0 rfl rfl 0 (by decide) (hts _ q933) (fun _ h9 => h9) rfl hin rfl (by decide +kernel) rfl rfl (Nat.le_of_ble_eq_true rfl) dJ0_init_db425_35 (fun H locs hP hD hS => ?_)
  have hP : PP G [(t0, .inr (0, [.ref na_1, .int (0 : Int32), .int (0 : Int32), .int (0 : Int32)])), (wb, .inr (1, [.ref wv, .int (0 : Int32), .int (0 : Int32), .int wc])), (wv, .inl (G.2 2, wn, .inl wf)), (na_1, .inl (G.2 2, c_1, .inl c_2))] H := hP
  have hD : va_D A [(t0, .inr (0, [.ref na_1, .int (0 : Int32), .int (0 : Int32), .int (0 : Int32)])), (wb, .inr (1, [.ref wv, .int (0 : Int32), .int (0 : Int32), .int wc])), (wv, .inl (G.2 2, wn, .inl wf)), (na_1, .inl (G.2 2, c_1, .inl c_2))] := hD
  refine lv_goto (tgt := 97) hx hb dJ0_init_db425_38 (by decide) ?_
  obtain ⟨⟨hw1, hw2⟩, h⟩ := h
  refine W.widen (k := mcb) (n := msb) hw1 hw2 ?_
  subst hQC; exact W.vret hx hb hr (fun t ht hW => ⟨⟨(c_1, c_2), rfl, h, na_1, by rw [ht]; exact hP, hD⟩, hS.F ht⟩) hS.2.2 dJ0_init_db425_97
theorem dJ0_init_81219_0 : decode cJ0_init_81219 0 = .ok (.aload_n 0, 1) := by decide +kernel
theorem dJ0_init_81219_1 : decode cJ0_init_81219 1 = .ok (.aload_n 1, 1) := by decide +kernel
theorem dJ0_init_81219_2 : decode cJ0_init_81219 2 = .ok (.aconst_null, 1) := by decide +kernel
theorem dJ0_init_81219_3 : decode cJ0_init_81219 3 = .ok (.invokespecial 489, 3) := by decide +kernel
theorem dJ0_init_81219_6 : decode cJ0_init_81219 6 = .ok (.return_, 1) := by decide +kernel
def wnJ0_init_81219 (post : Nat × (Nat → Int32) → Prop) (wc : Int32) (wn : Nat) (wf : Nat → Int32) (mcb : Nat) (msb : Nat) : Prop :=
  ∃ b_1 b_2 : Nat,
  ((0 + b_1) ≤ mcb ∧ (0 + b_2) ≤ msb) ∧
  wnJ0_init_db425 (fun (z_1 : Nat × (Nat → Int32)) =>
    ((0 + b_1) ≤ mcb ∧ (0 + b_2) ≤ msb) ∧
    post (z_1.1, z_1.2)
    ) wc wn wf b_1 b_2
abbrev wl_nJ0_init_81219 : List Cond := .code yJ0_init_81219 cJ0_init_81219 2 none :: lwg
abbrev rm_nJ0_init_81219 (mcb msb : Nat) : Room := { frames := 4, cells := mcb, slots := msb, locals := 134 }
set_option maxHeartbeats 4000000 in
set_option maxRecDepth 100000 in
theorem knJ0_init_81219 {post : Nat × (Nat → Int32) → Prop} (l : Launch) (G : GT) (t0 : Nat) (wb : Nat) (wv : Nat) (wc : Int32) (wn : Nat) (wf : Nat → Int32) (mcb : Nat) (msb : Nat) (sz : Nat) (h : wnJ0_init_81219 post wc wn wf mcb msb) : Met l yJ0_init_81219 wl_nJ0_init_81219 (rm_nJ0_init_81219 mcb msb) (va_Pc [.ref t0, .ref wb] (fun U => U.heap.size = sz ∧ PP G [(t0, .inr (0, [.null, .int (0 : Int32), .int (0 : Int32), .int (0 : Int32)])), (wb, .inr (1, [.ref wv, .int (0 : Int32), .int (0 : Int32), .int wc])), (wv, .inl (G.2 2, wn, .inl wf))] U.heap ∧ KK G U ∧ va_D (fun _ => True) [(t0, .inr (0, [.null, .int (0 : Int32), .int (0 : Int32), .int (0 : Int32)])), (wb, .inr (1, [.ref wv, .int (0 : Int32), .int (0 : Int32), .int wc])), (wv, .inl (G.2 2, wn, .inl wf))] ∧ JJ G (va_A [(t0, .inr (0, [.null, .int (0 : Int32), .int (0 : Int32), .int (0 : Int32)])), (wb, .inr (1, [.ref wv, .int (0 : Int32), .int (0 : Int32), .int wc])), (wv, .inl (G.2 2, wn, .inl wf))] sz) U U.heap)) (va_Qv post (fun u t => ∃ na_1E : Nat, PP G [(t0, .inr (0, [.ref na_1E, .int (0 : Int32), .int (0 : Int32), .int (0 : Int32)])), (wb, .inr (1, [.ref wv, .int (0 : Int32), .int (0 : Int32), .int wc])), (wv, .inl (G.2 2, wn, .inl wf)), (na_1E, .inl (G.2 2, u.1, .inl u.2))] t.heap ∧ va_D (va_A [(t0, .inr (0, [.null, .int (0 : Int32), .int (0 : Int32), .int (0 : Int32)])), (wb, .inr (1, [.ref wv, .int (0 : Int32), .int (0 : Int32), .int wc])), (wv, .inl (G.2 2, wn, .inl wf))] sz) [(t0, .inr (0, [.ref na_1E, .int (0 : Int32), .int (0 : Int32), .int (0 : Int32)])), (wb, .inr (1, [.ref wv, .int (0 : Int32), .int (0 : Int32), .int wc])), (wv, .inl (G.2 2, wn, .inl wf)), (na_1E, .inl (G.2 2, u.1, .inl u.2))]) (va_A [(t0, .inr (0, [.null, .int (0 : Int32), .int (0 : Int32), .int (0 : Int32)])), (wb, .inr (1, [.ref wv, .int (0 : Int32), .int (0 : Int32), .int wc])), (wv, .inl (G.2 2, wn, .inl wf))] sz)) mcb msb (va_A [(t0, .inr (0, [.null, .int (0 : Int32), .int (0 : Int32), .int (0 : Int32)])), (wb, .inr (1, [.ref wv, .int (0 : Int32), .int (0 : Int32), .int wc])), (wv, .inl (G.2 2, wn, .inl wf))] sz) := by
  refine Met.ofW (cc := cJ0_init_81219) (maxL := 2) (ret := none) (by decide) rfl ?_
  intro p e s m args below meth c s₁ B hml hv
  obtain ⟨rfl, hsz, hP, hKK, hD0, hJ⟩ := hv
  obtain ⟨hK, hN, hR, hFW, hNC⟩ := id hKK
  have hx := B.exec
  have hb := B.bytes
  have hr := B.returns
  have hts0 := atoms_spec (ws := wl_nJ0_init_81219) B.pre
  have hts : ∀ w ∈ lwg, w.before ([.ref t0, .ref wb] : List Value).toArray s = true := fun w hw => hts0 w (List.mem_cons_of_mem _ hw)
  have hown : s.vm.findClass RJ0 = some m.cls := findClass_of_methodNamed B.named
  have hlocks := B.notSynchronized
  have hin : meth.name = "<init>" := (name_of_methodNamed B.named B.method).1
  subst hsz
  have hD := hD0.self (sz := s.heap.size)
  generalize hAe : va_A [(t0, .inr (0, [.null, .int (0 : Int32), .int (0 : Int32), .int (0 : Int32)])), (wb, .inr (1, [.ref wv, .int (0 : Int32), .int (0 : Int32), .int wc])), (wv, .inl (G.2 2, wn, .inl wf))] s.heap.size = A at hD hJ ⊢
  have hA : ∀ q : Nat, s.heap.size ≤ q → A q := fun q h => by rw [← hAe]; exact Or.inr h
  have hS : va_S A s.heap s.heap [] := va_S.rf
  obtain ⟨QC, hQC⟩ : ∃ Z, Z = (va_Qv post (fun u t => ∃ na_1E : Nat, PP G [(t0, .inr (0, [.ref na_1E, .int (0 : Int32), .int (0 : Int32), .int (0 : Int32)])), (wb, .inr (1, [.ref wv, .int (0 : Int32), .int (0 : Int32), .int wc])), (wv, .inl (G.2 2, wn, .inl wf)), (na_1E, .inl (G.2 2, u.1, .inl u.2))] t.heap ∧ va_D A [(t0, .inr (0, [.ref na_1E, .int (0 : Int32), .int (0 : Int32), .int (0 : Int32)])), (wb, .inr (1, [.ref wv, .int (0 : Int32), .int (0 : Int32), .int wc])), (wv, .inl (G.2 2, wn, .inl wf)), (na_1E, .inl (G.2 2, u.1, .inl u.2))]) A) := ⟨_, rfl⟩
  rw [← hQC]
  obtain ⟨jE, hjE⟩ := hJ.2.1
  obtain ⟨jT, hjT1, hjT2⟩ := hJ.2.2.1
  obtain ⟨jO, hjO1, hjO2⟩ := hJ.2.2.2.1
  obtain ⟨jS, hjS⟩ := hJ.2.2.2.2.1
  have hP : PP G [(t0, .inr (0, [.null, .int (0 : Int32), .int (0 : Int32), .int (0 : Int32)])), (wb, .inr (1, [.ref wv, .int (0 : Int32), .int (0 : Int32), .int wc])), (wv, .inl (G.2 2, wn, .inl wf))] s.heap := hP
  have hl := lv_entry ([.ref t0, .ref wb]) (n := 2) (Nat.le_of_ble_eq_true rfl)
  rw [lg_entry_eq]
  generalize (lg_sl ([.ref t0, .ref wb]) ++ List.replicate (2 - (lg_sl ([.ref t0, .ref wb])).length) Slot.unset).toArray = ls at hl ⊢
  have hl : lv_has ls 2 [(0, .ref t0), (1, .ref wb)] := hl
  refine lv_aload_n hx hb dJ0_init_81219_0 rfl (lv_at hl 0 rfl) ?_
  refine lv_aload_n hx hb dJ0_init_81219_1 rfl (lv_at hl 1 rfl) ?_
  refine lv_null hx hb dJ0_init_81219_2 ?_
  obtain ⟨b_1, b_2, h⟩ := h
  obtain ⟨⟨hq_1, hq_2⟩, h⟩ := h
  have hPc := hP
  have hDc := hD.sub (ws' := [(t0, .inr (0, [.null, .int (0 : Int32), .int (0 : Int32), .int (0 : Int32)])), (wb, .inr (1, [.ref wv, .int (0 : Int32), .int (0 : Int32), .int wc])), (wv, .inl (G.2 2, wn, .inl wf))]) [0, 1, 2] (by decide) rfl
  have hFc := va_free (wc := [(t0, .inr (0, [.null, .int (0 : Int32), .int (0 : Int32), .int (0 : Int32)])), (wb, .inr (1, [.ref wv, .int (0 : Int32), .int (0 : Int32), .int wc])), (wv, .inl (G.2 2, wn, .inl wf))]) hD hS hA [0, 1, 2] rfl
  have hJc := (hJ.kept hS.2.1).narrow hFc
  refine va_callv (va_runI (As := [.ref wb, .null]) (rest := []) ⟨hx, hb, hml, hown, hts⟩ (knJ0_init_db425 l G t0 wb wv wc wn wf b_1 b_2 _ h) (cwI 2 hts (gdC q850) rfl rfl rfl (hts _ q26) (hts _ q848) (hts _ q849) rfl (by decide +kernel) ⟨Nat.le_of_ble_eq_true rfl, Nat.le_of_ble_eq_true rfl⟩) (preSwj hPc hKK hDc hJc) rfl rfl hl.1 rfl (lv_room (Nat.le_of_ble_eq_true rfl)) dJ0_init_81219_3 ⟨hq_1, hq_2⟩) hS (fun q _ h => hFc q h) hFc (fun u t H1 locs ht hvm h hB hz1 hk1 hS => ?_)
  obtain ⟨a_1, c_1⟩ := u
  obtain ⟨na_1, hB⟩ := hB
  obtain ⟨hP1, hD1⟩ := hB
  rw [ht] at hP1
  have hP := hP1
  have hD : va_D A [(t0, .inr (0, [.ref na_1, .int (0 : Int32), .int (0 : Int32), .int (0 : Int32)])), (wb, .inr (1, [.ref wv, .int (0 : Int32), .int (0 : Int32), .int wc])), (wv, .inl (G.2 2, wn, .inl wf)), (na_1, .inl (G.2 2, a_1, .inl c_1))] := hD1.weaken (fun _ _ _ h => hFc _ h)
  generalize H1 = H at hP hS ⊢
  have hP : PP G [(t0, .inr (0, [.ref na_1, .int (0 : Int32), .int (0 : Int32), .int (0 : Int32)])), (wb, .inr (1, [.ref wv, .int (0 : Int32), .int (0 : Int32), .int wc])), (wv, .inl (G.2 2, wn, .inl wf)), (na_1, .inl (G.2 2, a_1, .inl c_1))] H := hP
  obtain ⟨⟨hw1, hw2⟩, h⟩ := h
  refine W.widen (k := mcb) (n := msb) hw1 hw2 ?_
  subst hQC; exact W.vret hx hb hr (fun t ht hW => ⟨⟨(a_1, c_1), rfl, h, na_1, by rw [ht]; exact hP, hD⟩, hS.F ht⟩) hS.2.2 dJ0_init_81219_6
theorem dJ4_toString_0e30d_0 : decode cJ4_toString_0e30d 0 = .ok (.new 18, 3) := by decide +kernel
theorem dJ4_toString_0e30d_3 : decode cJ4_toString_0e30d 3 = .ok (.dup, 1) := by decide +kernel
theorem dJ4_toString_0e30d_4 : decode cJ4_toString_0e30d 4 = .ok (.aload_n 0, 1) := by decide +kernel
theorem dJ4_toString_0e30d_5 : decode cJ4_toString_0e30d 5 = .ok (.invokespecial 137, 3) := by decide +kernel
theorem dJ4_toString_0e30d_8 : decode cJ4_toString_0e30d 8 = .ok (.areturn, 1) := by decide +kernel
def wnJ4_toString_0e30d (post : Nat × (Nat → Int32) → Prop) (wc : Int32) (wn : Nat) (wf : Nat → Int32) (mcb : Nat) (msb : Nat) : Prop :=
  ((0 + 1) ≤ mcb ∧ (0 + 4) ≤ msb) ∧
  ∃ b_1 b_2 : Nat,
  (((0 + 1) + b_1) ≤ mcb ∧ ((0 + 4) + b_2) ≤ msb) ∧
  wnJ0_init_81219 (fun (z_1 : Nat × (Nat → Int32)) =>
    (((0 + 1) + b_1) ≤ mcb ∧ ((0 + 4) + b_2) ≤ msb) ∧
    post (z_1.1, z_1.2)
    ) wc wn wf b_1 b_2
abbrev wl_nJ4_toString_0e30d : List Cond := .code yJ4_toString_0e30d cJ4_toString_0e30d 1 (some (.object "java/lang/String")) :: lwg
abbrev rm_nJ4_toString_0e30d (mcb msb : Nat) : Room := { frames := 5, cells := mcb, slots := msb, locals := 155 }
set_option maxHeartbeats 4000000 in
set_option maxRecDepth 100000 in
theorem knJ4_toString_0e30d {post : Nat × (Nat → Int32) → Prop} (l : Launch) (G : GT) (wb : Nat) (wv : Nat) (wc : Int32) (wn : Nat) (wf : Nat → Int32) (mcb : Nat) (msb : Nat) (sz : Nat) (h : wnJ4_toString_0e30d post wc wn wf mcb msb) : Met l yJ4_toString_0e30d wl_nJ4_toString_0e30d (rm_nJ4_toString_0e30d mcb msb) (va_Pc [.ref wb] (fun U => U.heap.size = sz ∧ PP G [(wb, .inr (1, [.ref wv, .int (0 : Int32), .int (0 : Int32), .int wc])), (wv, .inl (G.2 2, wn, .inl wf))] U.heap ∧ KK G U ∧ va_D (fun _ => True) [(wb, .inr (1, [.ref wv, .int (0 : Int32), .int (0 : Int32), .int wc])), (wv, .inl (G.2 2, wn, .inl wf))] ∧ JJ G (va_A [(wb, .inr (1, [.ref wv, .int (0 : Int32), .int (0 : Int32), .int wc])), (wv, .inl (G.2 2, wn, .inl wf))] sz) U U.heap)) (va_Qr post (fun u ra t => ∃ ndE : Nat, PP G [(wb, .inr (1, [.ref wv, .int (0 : Int32), .int (0 : Int32), .int wc])), (wv, .inl (G.2 2, wn, .inl wf)), (ra, .inr (0, [.ref ndE, .int (0 : Int32), .int (0 : Int32), .int (0 : Int32)])), (ndE, .inl (G.2 2, u.1, .inl (u.2)))] t.heap ∧ va_D (va_A [(wb, .inr (1, [.ref wv, .int (0 : Int32), .int (0 : Int32), .int wc])), (wv, .inl (G.2 2, wn, .inl wf))] sz) [(wb, .inr (1, [.ref wv, .int (0 : Int32), .int (0 : Int32), .int wc])), (wv, .inl (G.2 2, wn, .inl wf)), (ra, .inr (0, [.ref ndE, .int (0 : Int32), .int (0 : Int32), .int (0 : Int32)])), (ndE, .inl (G.2 2, u.1, .inl (u.2)))]) (va_A [(wb, .inr (1, [.ref wv, .int (0 : Int32), .int (0 : Int32), .int wc])), (wv, .inl (G.2 2, wn, .inl wf))] sz)) mcb msb (va_A [(wb, .inr (1, [.ref wv, .int (0 : Int32), .int (0 : Int32), .int wc])), (wv, .inl (G.2 2, wn, .inl wf))] sz) := by
  refine Met.ofW (cc := cJ4_toString_0e30d) (maxL := 1) (ret := (some (.object "java/lang/String"))) (by decide) rfl ?_
  intro p e s m args below meth c s₁ B hml hv
  obtain ⟨rfl, hsz, hP, hKK, hD0, hJ⟩ := hv
  obtain ⟨hK, hN, hR, hFW, hNC⟩ := id hKK
  have hx := B.exec
  have hb := B.bytes
  have hr := B.returns
  have hts0 := atoms_spec (ws := wl_nJ4_toString_0e30d) B.pre
  have hts : ∀ w ∈ lwg, w.before ([.ref wb] : List Value).toArray s = true := fun w hw => hts0 w (List.mem_cons_of_mem _ hw)
  have hown : s.vm.findClass RJ4 = some m.cls := findClass_of_methodNamed B.named
  have hlocks := B.notSynchronized
  subst hsz
  have hD := hD0.self (sz := s.heap.size)
  generalize hAe : va_A [(wb, .inr (1, [.ref wv, .int (0 : Int32), .int (0 : Int32), .int wc])), (wv, .inl (G.2 2, wn, .inl wf))] s.heap.size = A at hD hJ ⊢
  have hA : ∀ q : Nat, s.heap.size ≤ q → A q := fun q h => by rw [← hAe]; exact Or.inr h
  have hS : va_S A s.heap s.heap [] := va_S.rf
  obtain ⟨QC, hQC⟩ : ∃ Z, Z = (va_Qr post (fun u ra t => ∃ ndE : Nat, PP G [(wb, .inr (1, [.ref wv, .int (0 : Int32), .int (0 : Int32), .int wc])), (wv, .inl (G.2 2, wn, .inl wf)), (ra, .inr (0, [.ref ndE, .int (0 : Int32), .int (0 : Int32), .int (0 : Int32)])), (ndE, .inl (G.2 2, u.1, .inl (u.2)))] t.heap ∧ va_D A [(wb, .inr (1, [.ref wv, .int (0 : Int32), .int (0 : Int32), .int wc])), (wv, .inl (G.2 2, wn, .inl wf)), (ra, .inr (0, [.ref ndE, .int (0 : Int32), .int (0 : Int32), .int (0 : Int32)])), (ndE, .inl (G.2 2, u.1, .inl (u.2)))]) A) := ⟨_, rfl⟩
  rw [← hQC]
  obtain ⟨jE, hjE⟩ := hJ.2.1
  obtain ⟨jT, hjT1, hjT2⟩ := hJ.2.2.1
  obtain ⟨jO, hjO1, hjO2⟩ := hJ.2.2.2.1
  obtain ⟨jS, hjS⟩ := hJ.2.2.2.2.1
  have hP : PP G [(wb, .inr (1, [.ref wv, .int (0 : Int32), .int (0 : Int32), .int wc])), (wv, .inl (G.2 2, wn, .inl wf))] s.heap := hP
  have hl := lv_entry ([.ref wb]) (n := 1) (Nat.le_of_ble_eq_true rfl)
  rw [lg_entry_eq]
  generalize (lg_sl ([.ref wb]) ++ List.replicate (1 - (lg_sl ([.ref wb])).length) Slot.unset).toArray = ls at hl ⊢
  have hl : lv_has ls 1 [(0, .ref wb)] := hl
  obtain ⟨⟨hq_1, hq_2⟩, h⟩ := h
  refine va_new (D := G.1) (ci := 0) (fs := [.null, .int (0 : Int32), .int (0 : Int32), .int (0 : Int32)]) (C := RJ0) (T := TJ0) (N := 4) hx hb hts igJ0 tyJ0 tyJ0_ok hown (hts _ q843) (hts _ q844) (hts _ q26) hK hP hD hS hA rfl (fun j hj => by rcases (show j = 0 ∨ j = 1 ∨ j = 2 ∨ j = 3 by omega) with rfl | rfl | rfl | rfl <;> rfl) hq_1 hq_2 dJ4_toString_0e30d_0 (fun q_1 H hP hD hS => ?_)
  have hP : PP G [(wb, .inr (1, [.ref wv, .int (0 : Int32), .int (0 : Int32), .int wc])), (wv, .inl (G.2 2, wn, .inl wf)), (q_1, .inr (0, [.null, .int (0 : Int32), .int (0 : Int32), .int (0 : Int32)]))] H := hP
  have hD : va_D A [(wb, .inr (1, [.ref wv, .int (0 : Int32), .int (0 : Int32), .int wc])), (wv, .inl (G.2 2, wn, .inl wf)), (q_1, .inr (0, [.null, .int (0 : Int32), .int (0 : Int32), .int (0 : Int32)]))] := hD
  refine lv_dup hx hb dJ4_toString_0e30d_3 rfl ?_
  refine lv_aload_n hx hb dJ4_toString_0e30d_4 rfl (lv_at hl 0 rfl) ?_
  obtain ⟨b_1, b_2, h⟩ := h
  obtain ⟨⟨hq_3, hq_4⟩, h⟩ := h
  have hPc := va_P.sub (ws' := [(q_1, .inr (0, [.null, .int (0 : Int32), .int (0 : Int32), .int (0 : Int32)])), (wb, .inr (1, [.ref wv, .int (0 : Int32), .int (0 : Int32), .int wc])), (wv, .inl (G.2 2, wn, .inl wf))]) hP [2, 0, 1] rfl
  have hDc := hD.sub (ws' := [(q_1, .inr (0, [.null, .int (0 : Int32), .int (0 : Int32), .int (0 : Int32)])), (wb, .inr (1, [.ref wv, .int (0 : Int32), .int (0 : Int32), .int wc])), (wv, .inl (G.2 2, wn, .inl wf))]) [2, 0, 1] (by decide) rfl
  have hFc := va_free (wc := [(q_1, .inr (0, [.null, .int (0 : Int32), .int (0 : Int32), .int (0 : Int32)])), (wb, .inr (1, [.ref wv, .int (0 : Int32), .int (0 : Int32), .int wc])), (wv, .inl (G.2 2, wn, .inl wf))]) hD hS hA [2, 0, 1] rfl
  have hJc := (hJ.kept hS.2.1).narrow hFc
  refine va_callv (va_runI (As := [.ref wb]) (rest := [.ref q_1]) ⟨hx, hb, hml, hown, hts⟩ (knJ0_init_81219 l G q_1 wb wv wc wn wf b_1 b_2 _ h) (cwI 1 hts (gdC q847) rfl rfl rfl (hts _ q26) (hts _ q845) (hts _ q846) rfl (by decide +kernel) ⟨Nat.le_of_ble_eq_true rfl, Nat.le_of_ble_eq_true rfl⟩) (preSwj hPc hKK hDc hJc) rfl rfl hl.1 rfl (lv_room (Nat.le_of_ble_eq_true rfl)) dJ4_toString_0e30d_5 ⟨hq_3, hq_4⟩) hS (fun q _ h => hFc q h) hFc (fun u t H1 locs ht hvm h hB hz1 hk1 hS => ?_)
  obtain ⟨a_1, c_1⟩ := u
  obtain ⟨na_1, hB⟩ := hB
  obtain ⟨hP1, hD1⟩ := hB
  rw [ht] at hP1
  obtain ⟨hP, hD⟩ := va_join (wr := []) (w1 := [(q_1, .inr (0, [.ref na_1, .int (0 : Int32), .int (0 : Int32), .int (0 : Int32)])), (wb, .inr (1, [.ref wv, .int (0 : Int32), .int (0 : Int32), .int wc])), (wv, .inl (G.2 2, wn, .inl wf)), (na_1, .inl (G.2 2, a_1, .inl c_1))]) hP hD [2, 0, 1] [] rfl rfl (by decide) (by decide) hk1 hFc hP1 hD1
  generalize H1 = H at hP hS ⊢
  have hP : PP G [(wb, .inr (1, [.ref wv, .int (0 : Int32), .int (0 : Int32), .int wc])), (wv, .inl (G.2 2, wn, .inl wf)), (q_1, .inr (0, [.ref na_1, .int (0 : Int32), .int (0 : Int32), .int (0 : Int32)])), (na_1, .inl (G.2 2, a_1, .inl c_1))] H := va_P.sub hP [1, 2, 0, 3] rfl
  have hD : va_D A [(wb, .inr (1, [.ref wv, .int (0 : Int32), .int (0 : Int32), .int wc])), (wv, .inl (G.2 2, wn, .inl wf)), (q_1, .inr (0, [.ref na_1, .int (0 : Int32), .int (0 : Int32), .int (0 : Int32)])), (na_1, .inl (G.2 2, a_1, .inl c_1))] := hD.sub [1, 2, 0, 3] (by decide) rfl
  obtain ⟨⟨hw1, hw2⟩, h⟩ := h
  refine W.widen (k := mcb) (n := msb) hw1 hw2 ?_
  subst hQC; exact W.aret (v := .ref q_1) hx hb hr (by first | exact Or.inl ⟨_, rfl⟩ | exact Or.inr ⟨_, rfl⟩) (Or.inr ⟨_, rfl⟩) (fun t ht hW => ⟨⟨(a_1, c_1), q_1, rfl, h, na_1, by rw [ht]; exact hP, hD⟩, hS.F ht⟩) hS.2.2 dJ4_toString_0e30d_8
def wnJ3_checkIndex_8e157A (post : Int32 → Prop) (p1 : Int32) (p2 : Int32) : Prop :=
  ((p1 < 0) →
    False
  ) ∧ (¬ (p1 < 0) →
    ((p1 < p2) →
      post p1
    ) ∧ (¬ (p1 < p2) →
      False
    )
  )
abbrev wl_nJ3_checkIndex_8e157A : List Cond := .code yJ3_checkIndex_8e157 cJ3_checkIndex_8e157 3 (some .int) :: lwg
abbrev rm_nJ3_checkIndex_8e157A : Room := { frames := 0, cells := 0, slots := 0, locals := 0 }
set_option maxHeartbeats 4000000 in
set_option maxRecDepth 100000 in
theorem knJ3_checkIndex_8e157A {post : Int32 → Prop} (l : Launch) (G : GT) (fa : Nat) (p1 : Int32) (p2 : Int32) (h : wnJ3_checkIndex_8e157A post p1 p2) : Met l yJ3_checkIndex_8e157 wl_nJ3_checkIndex_8e157A rm_nJ3_checkIndex_8e157A (va_Pc [.int p1, .int p2, .ref fa] (fun U => PP G [] U.heap ∧ KK G U)) (vp_Si post) 0 0 (fun _ => False) := by
  refine Met.ofW (cc := cJ3_checkIndex_8e157) (maxL := 3) (ret := (some .int)) (by decide) rfl ?_
  intro p e s m args below meth c s₁ B hml hv
  obtain ⟨rfl, hP, hKK⟩ := hv
  obtain ⟨hK, hN, hR, hFW, hNC⟩ := id hKK
  have hx := B.exec
  have hb := B.bytes
  have hr := B.returns
  have hts0 := atoms_spec (ws := wl_nJ3_checkIndex_8e157A) B.pre
  have hts : ∀ w ∈ lwg, w.before ([.int p1, .int p2, .ref fa] : List Value).toArray s = true := fun w hw => hts0 w (List.mem_cons_of_mem _ hw)
  have hown : s.vm.findClass RJ3 = some m.cls := findClass_of_methodNamed B.named
  have hlocks := B.notSynchronized
  have hP : PP G [] s.heap := hP
  have hl := lv_entry ([.int p1, .int p2, .ref fa]) (n := 3) (Nat.le_of_ble_eq_true rfl)
  rw [lg_entry_eq]
  generalize (lg_sl ([.int p1, .int p2, .ref fa]) ++ List.replicate (3 - (lg_sl ([.int p1, .int p2, .ref fa])).length) Slot.unset).toArray = ls at hl ⊢
  have hl : lv_has ls 3 [(0, .int p1), (1, .int p2), (2, .ref fa)] := hl
  refine lv_iload_n hx hb dJ3_checkIndex_8e157_0 rfl (lv_at hl 0 rfl) ?_
  refine lv_if_lt (tgt := 9) hx hb dJ3_checkIndex_8e157_1 (by decide) (fun hc => ?_) (fun hc => ?_)
  · have h := h.1 hc
    refine lv_aload_n hx hb dJ3_checkIndex_8e157_9 rfl (lv_at hl 2 rfl) ?_
    refine lv_iload_n hx hb dJ3_checkIndex_8e157_10 rfl (lv_at hl 0 rfl) ?_
    refine lv_iload_n hx hb dJ3_checkIndex_8e157_11 rfl (lv_at hl 1 rfl) ?_
    exact False.elim h
  · have h := h.2 hc
    refine lv_iload_n hx hb dJ3_checkIndex_8e157_4 rfl (lv_at hl 0 rfl) ?_
    refine lv_iload_n hx hb dJ3_checkIndex_8e157_5 rfl (lv_at hl 1 rfl) ?_
    refine lv_icmp_lt (tgt := 16) hx hb dJ3_checkIndex_8e157_6 (by decide) (fun hc => ?_) (fun hc => ?_)
    · have h := h.1 hc
      refine lv_iload_n hx hb dJ3_checkIndex_8e157_16 rfl (lv_at hl 0 rfl) ?_
      exact W.iret (v := p1) hx hb hr (fun t ht _ => ⟨_, rfl, h, ht⟩) (fun _ hq => absurd hq List.not_mem_nil) dJ3_checkIndex_8e157_17
    · have h := h.2 hc
      refine lv_aload_n hx hb dJ3_checkIndex_8e157_9 rfl (lv_at hl 2 rfl) ?_
      refine lv_iload_n hx hb dJ3_checkIndex_8e157_10 rfl (lv_at hl 0 rfl) ?_
      refine lv_iload_n hx hb dJ3_checkIndex_8e157_11 rfl (lv_at hl 1 rfl) ?_
      exact False.elim h
def wnJ3_checkIndex_8e157V (post : Int32 → Prop) (p1 : Int32) (p2 : Int32) : Prop :=
  ((p1 < 0) →
    False
  ) ∧ (¬ (p1 < 0) →
    ((p1 < p2) →
      post p1
    ) ∧ (¬ (p1 < p2) →
      False
    )
  )
abbrev wl_nJ3_checkIndex_8e157V : List Cond := .code yJ3_checkIndex_8e157 cJ3_checkIndex_8e157 3 (some .int) :: lwg
abbrev rm_nJ3_checkIndex_8e157V : Room := { frames := 0, cells := 0, slots := 0, locals := 0 }
set_option maxHeartbeats 4000000 in
set_option maxRecDepth 100000 in
theorem knJ3_checkIndex_8e157V {post : Int32 → Prop} (l : Launch) (G : GT) (fo : Option Nat) (p1 : Int32) (p2 : Int32) (h : wnJ3_checkIndex_8e157V post p1 p2) : Met l yJ3_checkIndex_8e157 wl_nJ3_checkIndex_8e157V rm_nJ3_checkIndex_8e157V (va_Pc [.int p1, .int p2, va_rf fo] (fun U => PP G [] U.heap ∧ KK G U)) (vp_Si post) 0 0 (fun _ => False) := by
  cases fo with
  | none => exact knJ3_checkIndex_8e157 l G p1 p2 h
  | some fa => exact knJ3_checkIndex_8e157A l G fa p1 p2 h
theorem dJ0_checkIndex_df160_0 : decode cJ0_checkIndex_df160 0 = .ok (.iload_n 0, 1) := by decide +kernel
theorem dJ0_checkIndex_df160_1 : decode cJ0_checkIndex_df160 1 = .ok (.iload_n 1, 1) := by decide +kernel
theorem dJ0_checkIndex_df160_2 : decode cJ0_checkIndex_df160 2 = .ok (.getstatic 1053, 3) := by decide +kernel
theorem dJ0_checkIndex_df160_5 : decode cJ0_checkIndex_df160 5 = .ok (.invokestatic 1059, 3) := by decide +kernel
theorem dJ0_checkIndex_df160_8 : decode cJ0_checkIndex_df160 8 = .ok (.pop, 1) := by decide +kernel
theorem dJ0_checkIndex_df160_9 : decode cJ0_checkIndex_df160 9 = .ok (.return_, 1) := by decide +kernel
def wnJ0_checkIndex_df160 (post : Unit → Prop) (p1 : Int32) (p2 : Int32) : Prop :=
  wnJ3_checkIndex_8e157V (fun r_1 : Int32 =>
    post ()
    ) p1 p2
abbrev wl_nJ0_checkIndex_df160 : List Cond := .code yJ0_checkIndex_df160 cJ0_checkIndex_df160 2 none :: lwg
abbrev rm_nJ0_checkIndex_df160 : Room := { frames := 1, cells := 0, slots := 0, locals := 22 }
set_option maxHeartbeats 4000000 in
set_option maxRecDepth 100000 in
theorem knJ0_checkIndex_df160 {post : Unit → Prop} (l : Launch) (G : GT) (p1 : Int32) (p2 : Int32) (h : wnJ0_checkIndex_df160 post p1 p2) : Met l yJ0_checkIndex_df160 wl_nJ0_checkIndex_df160 rm_nJ0_checkIndex_df160 (va_Pc [.int p1, .int p2] (fun U => PP G [] U.heap ∧ KK G U ∧ JJ G (fun _ => False) U U.heap)) (va_Sv post) 0 0 (fun _ => False) := by
  refine Met.ofW (cc := cJ0_checkIndex_df160) (maxL := 2) (ret := none) (by decide) rfl ?_
  intro p e s m args below meth c s₁ B hml hv
  obtain ⟨rfl, hP, hKK, hJ⟩ := hv
  obtain ⟨hK, hN, hR, hFW, hNC⟩ := id hKK
  have hx := B.exec
  have hb := B.bytes
  have hr := B.returns
  have hts0 := atoms_spec (ws := wl_nJ0_checkIndex_df160) B.pre
  have hts : ∀ w ∈ lwg, w.before ([.int p1, .int p2] : List Value).toArray s = true := fun w hw => hts0 w (List.mem_cons_of_mem _ hw)
  have hown : s.vm.findClass RJ0 = some m.cls := findClass_of_methodNamed B.named
  have hlocks := B.notSynchronized
  obtain ⟨jE, hjE⟩ := hJ.2.1
  obtain ⟨jT, hjT1, hjT2⟩ := hJ.2.2.1
  obtain ⟨jO, hjO1, hjO2⟩ := hJ.2.2.2.1
  obtain ⟨jS, hjS⟩ := hJ.2.2.2.2.1
  have hS : va_S (fun _ => False) s.heap s.heap [] := va_S.rf
  have hP : PP G [] s.heap := hP
  have hl := lv_entry ([.int p1, .int p2]) (n := 2) (Nat.le_of_ble_eq_true rfl)
  rw [lg_entry_eq]
  generalize (lg_sl ([.int p1, .int p2]) ++ List.replicate (2 - (lg_sl ([.int p1, .int p2])).length) Slot.unset).toArray = ls at hl ⊢
  have hl : lv_has ls 2 [(0, .int p1), (1, .int p2)] := hl
  refine lv_iload_n hx hb dJ0_checkIndex_df160_0 rfl (lv_at hl 0 rfl) ?_
  refine lv_iload_n hx hb dJ0_checkIndex_df160_1 rfl (lv_at hl 1 rfl) ?_
  refine va_gets hx hb hjS hS hown (hts _ q776) (fun _ h9 => h9) dJ0_checkIndex_df160_2 ?_
  have hPc := hP
  refine rdI (va_runS (As := [.int p1, .int p2, va_rf jS]) (rest := []) ⟨hx, hb, hml, hown, hts⟩ (knJ3_checkIndex_8e157V l G jS p1 p2 h) (va_cwS 3 hts (gdS q799 q800 q16 q801) rfl rfl rfl (by decide +kernel) ⟨Nat.le_of_ble_eq_true rfl, Nat.le_of_ble_eq_true rfl⟩) (preS hPc hKK) rfl rfl hl.1 rfl (lv_room (Nat.le_of_ble_eq_true rfl)) dJ0_checkIndex_df160_5 ⟨Nat.zero_le _, Nat.zero_le _⟩) (fun r_1 h => ?_)
  refine lv_pop hx hb dJ0_checkIndex_df160_8 rfl ?_
  exact W.vret hx hb hr (fun t ht _ => ⟨rfl, h, ht⟩) (fun _ hq => absurd hq List.not_mem_nil) dJ0_checkIndex_df160_9
theorem dJ1_charAt_3b067_0 : decode cJ1_charAt_3b067 0 = .ok (.iload_n 1, 1) := by decide +kernel
theorem dJ1_charAt_3b067_1 : decode cJ1_charAt_3b067 1 = .ok (.aload_n 0, 1) := by decide +kernel
theorem dJ1_charAt_3b067_2 : decode cJ1_charAt_3b067 2 = .ok (.arraylength, 1) := by decide +kernel
theorem dJ1_charAt_3b067_3 : decode cJ1_charAt_3b067 3 = .ok (.invokestatic 9, 3) := by decide +kernel
theorem dJ1_charAt_3b067_6 : decode cJ1_charAt_3b067 6 = .ok (.aload_n 0, 1) := by decide +kernel
theorem dJ1_charAt_3b067_7 : decode cJ1_charAt_3b067 7 = .ok (.iload_n 1, 1) := by decide +kernel
theorem dJ1_charAt_3b067_8 : decode cJ1_charAt_3b067 8 = .ok (.baload, 1) := by decide +kernel
theorem dJ1_charAt_3b067_9 : decode cJ1_charAt_3b067 9 = .ok (.sipush 255, 3) := by decide +kernel
theorem dJ1_charAt_3b067_12 : decode cJ1_charAt_3b067 12 = .ok (.iand, 1) := by decide +kernel
theorem dJ1_charAt_3b067_13 : decode cJ1_charAt_3b067 13 = .ok (.i2c, 1) := by decide +kernel
theorem dJ1_charAt_3b067_14 : decode cJ1_charAt_3b067 14 = .ok (.ireturn, 1) := by decide +kernel
def wnJ1_charAt_3b067 (post : Int32 → Prop) (tn : Nat) (tf : Nat → Int32) (p2 : Int32) : Prop :=
  wnJ0_checkIndex_df160 (fun _ =>
    vp_in p2 tn ∧
    narrow .char (.int ((((tf p2.toNatClampNeg) &&& (255 : Int32)).toUInt32 % 65536).toInt32)) = .int ((((tf p2.toNatClampNeg) &&& (255 : Int32)).toUInt32 % 65536).toInt32) ∧
    post ((((tf p2.toNatClampNeg) &&& (255 : Int32)).toUInt32 % 65536).toInt32)
    ) p2 (nI tn)
abbrev wl_nJ1_charAt_3b067 : List Cond := .code yJ1_charAt_3b067 cJ1_charAt_3b067 2 (some .char) :: lwg
abbrev rm_nJ1_charAt_3b067 : Room := { frames := 2, cells := 0, slots := 0, locals := 43 }
set_option maxHeartbeats 4000000 in
set_option maxRecDepth 100000 in
theorem knJ1_charAt_3b067 {post : Int32 → Prop} (l : Launch) (G : GT) (ta : Nat) (td : Nat) (tn : Nat) (tf : Nat → Int32) (p2 : Int32) (h : wnJ1_charAt_3b067 post tn tf p2) : Met l yJ1_charAt_3b067 wl_nJ1_charAt_3b067 rm_nJ1_charAt_3b067 (va_Pc [.ref td, .int p2] (fun U => PP G [] U.heap ∧ KK G U ∧ JJ G (fun _ => False) U U.heap ∧ ST ta td tn tf (fun _ => False) U U.heap)) (vp_Si post) 0 0 (fun _ => False) := by
  refine Met.ofW (cc := cJ1_charAt_3b067) (maxL := 2) (ret := (some .char)) (by decide) rfl ?_
  intro p e s m args below meth c s₁ B hml hv
  obtain ⟨rfl, hP, hKK, hJ, hTt⟩ := hv
  obtain ⟨hK, hN, hR, hFW, hNC⟩ := id hKK
  have hx := B.exec
  have hb := B.bytes
  have hr := B.returns
  have hts0 := atoms_spec (ws := wl_nJ1_charAt_3b067) B.pre
  have hts : ∀ w ∈ lwg, w.before ([.ref td, .int p2] : List Value).toArray s = true := fun w hw => hts0 w (List.mem_cons_of_mem _ hw)
  have hown : s.vm.findClass RJ1 = some m.cls := findClass_of_methodNamed B.named
  have hlocks := B.notSynchronized
  obtain ⟨jE, hjE⟩ := hJ.2.1
  obtain ⟨jT, hjT1, hjT2⟩ := hJ.2.2.1
  obtain ⟨jO, hjO1, hjO2⟩ := hJ.2.2.2.1
  obtain ⟨jS, hjS⟩ := hJ.2.2.2.2.1
  have hS : va_S (fun _ => False) s.heap s.heap [] := va_S.rf
  have hP : PP G [] s.heap := hP
  have hl := lv_entry ([.ref td, .int p2]) (n := 2) (Nat.le_of_ble_eq_true rfl)
  rw [lg_entry_eq]
  generalize (lg_sl ([.ref td, .int p2]) ++ List.replicate (2 - (lg_sl ([.ref td, .int p2])).length) Slot.unset).toArray = ls at hl ⊢
  have hl : lv_has ls 2 [(0, .ref td), (1, .int p2)] := hl
  refine lv_iload_n hx hb dJ1_charAt_3b067_0 rfl (lv_at hl 1 rfl) ?_
  refine lv_aload_n hx hb dJ1_charAt_3b067_1 rfl (lv_at hl 0 rfl) ?_
  refine va_tlen hx hb hTt.2.2.2 hS (v := nI tn) rfl dJ1_charAt_3b067_2 ?_
  have hPc := hP
  have hJc : JJ G (fun _ => False) s _ := (hJ.kept hS.2.1).narrow (fun _ h => False.elim h)
  refine rdV (va_runS (As := [.int p2, .int (nI tn)]) (rest := []) ⟨hx, hb, hml, hown, hts⟩ (knJ0_checkIndex_df160 l G p2 (nI tn) h) (va_cwS 2 hts (gdS q1377 q797 q26 q798) rfl rfl rfl (by decide +kernel) ⟨Nat.le_of_ble_eq_true rfl, Nat.le_of_ble_eq_true rfl⟩) (preSj hPc hKK hJc) rfl rfl hl.1 rfl (lv_room (Nat.le_of_ble_eq_true rfl)) dJ1_charAt_3b067_3 ⟨Nat.zero_le _, Nat.zero_le _⟩) (fun  h => ?_)
  refine lv_aload_n hx hb dJ1_charAt_3b067_6 rfl (lv_at hl 0 rfl) ?_
  refine lv_iload_n hx hb dJ1_charAt_3b067_7 rfl (lv_at hl 1 rfl) ?_
  obtain ⟨hin, h⟩ := h
  refine va_tb hx hb hTt.2.2.2 hS hin (v := .int (tf p2.toNatClampNeg)) rfl dJ1_charAt_3b067_8 ?_
  refine lv_sipush (v := 255) hx hb dJ1_charAt_3b067_9 (by decide) ?_
  refine lv_iand hx hb dJ1_charAt_3b067_12 ?_
  refine lv_i2c (v := ((((tf p2.toNatClampNeg) &&& (255 : Int32)).toUInt32 % 65536).toInt32)) hx hb dJ1_charAt_3b067_13 rfl ?_
  obtain ⟨hz, h⟩ := h
  exact W.zret (v := ((((tf p2.toNatClampNeg) &&& (255 : Int32)).toUInt32 % 65536).toInt32)) hx hb hr hz (fun t ht _ => ⟨_, rfl, h, ht⟩) (fun _ hq => absurd hq List.not_mem_nil) dJ1_charAt_3b067_14
theorem dJ0_charAt_5068e_0 : decode cJ0_charAt_5068e 0 = .ok (.aload_n 0, 1) := by decide +kernel
theorem dJ0_charAt_5068e_1 : decode cJ0_charAt_5068e 1 = .ok (.invokevirtual 492, 3) := by decide +kernel
theorem dJ0_charAt_5068e_4 : decode cJ0_charAt_5068e 4 = .ok (.ifCond .eq 12, 3) := by decide +kernel
theorem dJ0_charAt_5068e_7 : decode cJ0_charAt_5068e 7 = .ok (.aload_n 0, 1) := by decide +kernel
theorem dJ0_charAt_5068e_8 : decode cJ0_charAt_5068e 8 = .ok (.getfield 9, 3) := by decide +kernel
theorem dJ0_charAt_5068e_11 : decode cJ0_charAt_5068e 11 = .ok (.iload_n 1, 1) := by decide +kernel
theorem dJ0_charAt_5068e_12 : decode cJ0_charAt_5068e 12 = .ok (.invokestatic 495, 3) := by decide +kernel
theorem dJ0_charAt_5068e_15 : decode cJ0_charAt_5068e 15 = .ok (.ireturn, 1) := by decide +kernel
theorem dJ0_charAt_5068e_16 : decode cJ0_charAt_5068e 16 = .ok (.aload_n 0, 1) := by decide +kernel
theorem dJ0_charAt_5068e_17 : decode cJ0_charAt_5068e 17 = .ok (.getfield 9, 3) := by decide +kernel
theorem dJ0_charAt_5068e_20 : decode cJ0_charAt_5068e 20 = .ok (.iload_n 1, 1) := by decide +kernel
theorem dJ0_charAt_5068e_21 : decode cJ0_charAt_5068e 21 = .ok (.invokestatic 498, 3) := by decide +kernel
theorem dJ0_charAt_5068e_24 : decode cJ0_charAt_5068e 24 = .ok (.ireturn, 1) := by decide +kernel
def wnJ0_charAt_5068e (post : Int32 → Prop) (tn : Nat) (tf : Nat → Int32) (p1 : Int32) : Prop :=
  wnJ1_charAt_3b067 (fun r_2 : Int32 =>
    narrow .char (.int r_2) = .int r_2 ∧
    post r_2
    ) tn tf p1
abbrev wl_nJ0_charAt_5068e : List Cond := .code yJ0_charAt_5068e cJ0_charAt_5068e 2 (some .char) :: lwg
abbrev rm_nJ0_charAt_5068e : Room := { frames := 3, cells := 0, slots := 0, locals := 64 }
set_option maxHeartbeats 4000000 in
set_option maxRecDepth 100000 in
theorem knJ0_charAt_5068e {post : Int32 → Prop} (l : Launch) (G : GT) (ta : Nat) (td : Nat) (tn : Nat) (tf : Nat → Int32) (p1 : Int32) (h : wnJ0_charAt_5068e post tn tf p1) : Met l yJ0_charAt_5068e wl_nJ0_charAt_5068e rm_nJ0_charAt_5068e (va_Pc [.ref ta, .int p1] (fun U => PP G [] U.heap ∧ KK G U ∧ JJ G (fun _ => False) U U.heap ∧ ST ta td tn tf (fun _ => False) U U.heap)) (vp_Si post) 0 0 (fun _ => False) := by
  refine Met.ofW (cc := cJ0_charAt_5068e) (maxL := 2) (ret := (some .char)) (by decide) rfl ?_
  intro p e s m args below meth c s₁ B hml hv
  obtain ⟨rfl, hP, hKK, hJ, hTt⟩ := hv
  obtain ⟨hK, hN, hR, hFW, hNC⟩ := id hKK
  have hx := B.exec
  have hb := B.bytes
  have hr := B.returns
  have hts0 := atoms_spec (ws := wl_nJ0_charAt_5068e) B.pre
  have hts : ∀ w ∈ lwg, w.before ([.ref ta, .int p1] : List Value).toArray s = true := fun w hw => hts0 w (List.mem_cons_of_mem _ hw)
  have hown : s.vm.findClass RJ0 = some m.cls := findClass_of_methodNamed B.named
  have hlocks := B.notSynchronized
  obtain ⟨jE, hjE⟩ := hJ.2.1
  obtain ⟨jT, hjT1, hjT2⟩ := hJ.2.2.1
  obtain ⟨jO, hjO1, hjO2⟩ := hJ.2.2.2.1
  obtain ⟨jS, hjS⟩ := hJ.2.2.2.2.1
  have hS : va_S (fun _ => False) s.heap s.heap [] := va_S.rf
  have hP : PP G [] s.heap := hP
  have hl := lv_entry ([.ref ta, .int p1]) (n := 2) (Nat.le_of_ble_eq_true rfl)
  rw [lg_entry_eq]
  generalize (lg_sl ([.ref ta, .int p1]) ++ List.replicate (2 - (lg_sl ([.ref ta, .int p1])).length) Slot.unset).toArray = ls at hl ⊢
  have hl : lv_has ls 2 [(0, .ref ta), (1, .int p1)] := hl
  refine lv_aload_n hx hb dJ0_charAt_5068e_0 rfl (lv_at hl 0 rfl) ?_
  have hPc := hP
  have hJc : JJ G (fun _ => False) s _ := (hJ.kept hS.2.1).narrow (fun _ h => False.elim h)
  have hTc := (hTt.kept hS.2.1).narrow (fun _ (h : False) => False.elim h)
  refine rdI (va_runV (C := RJ0) (As := []) (rest := []) ⟨hx, hb, hml, hown, hts⟩ (kJ0_isLatin1_aae02 (post := fun r => r = (1 : Int32)) l G ta td tn tf rfl) (cwV 0 hts (gdV q1370 q1371 q1372 q26 q1373) rfl rfl rfl (by decide +kernel) ⟨Nat.le_of_ble_eq_true rfl, Nat.le_of_ble_eq_true rfl⟩) (preVjt hPc hKK hJc hTc hTc.recv) rfl rfl hl.1 rfl (lv_room (Nat.le_of_ble_eq_true rfl)) dJ0_charAt_5068e_1 ⟨Nat.zero_le _, Nat.zero_le _⟩) (fun r_1 er => ?_)
  subst er
  refine lv_if_eq (tgt := 16) hx hb dJ0_charAt_5068e_4 (by decide) (fun hc => absurd hc (by decide)) (fun _ => ?_)
  refine lv_aload_n hx hb dJ0_charAt_5068e_7 rfl (lv_at hl 0 rfl) ?_
  refine vk_getf hx hb hTt.2.2.1 hS hown (hts _ q933) (fun _ h9 => h9) dJ0_charAt_5068e_8 ?_
  refine lv_iload_n hx hb dJ0_charAt_5068e_11 rfl (lv_at hl 1 rfl) ?_
  have hPc := hP
  have hJc : JJ G (fun _ => False) s _ := (hJ.kept hS.2.1).narrow (fun _ h => False.elim h)
  have hTc := (hTt.kept hS.2.1).narrow (fun _ (h : False) => False.elim h)
  refine rdI (va_runS (As := [.ref td, .int p1]) (rest := []) ⟨hx, hb, hml, hown, hts⟩ (knJ1_charAt_3b067 l G ta td tn tf p1 h) (va_cwS 2 hts (gdS q1374 q1375 q28 q1376) rfl rfl rfl (by decide +kernel) ⟨Nat.le_of_ble_eq_true rfl, Nat.le_of_ble_eq_true rfl⟩) (preSjt hPc hKK hJc hTc) rfl rfl hl.1 rfl (lv_room (Nat.le_of_ble_eq_true rfl)) dJ0_charAt_5068e_12 ⟨Nat.zero_le _, Nat.zero_le _⟩) (fun r_2 h => ?_)
  obtain ⟨hz, h⟩ := h
  exact W.zret (v := r_2) hx hb hr hz (fun t ht _ => ⟨_, rfl, h, ht⟩) (fun _ hq => absurd hq List.not_mem_nil) dJ0_charAt_5068e_15
