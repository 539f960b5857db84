theorem q1010 : (Cond.fieldLink RX4 27 "NightdeskRotaModel" "counts" "[I") ∈ lwg := lwgR 1010 (by decide +kernel) (by decide +kernel)
theorem q1011 : (Cond.fieldLink RX4 187 "NightdeskRotaModel" "refused" "I") ∈ lwg := lwgR 1011 (by decide +kernel) (by decide +kernel)
theorem q1141 : (Cond.methodLink RX4 133 yX4_trueIn) ∈ lwg := lwgR 1141 (by decide +kernel) (by decide +kernel)
theorem q1142 : (Cond.static yX4_trueIn) ∈ lwg := lwgR 1142 (by decide +kernel) (by decide +kernel)
theorem q1143 : (Cond.code yX4_trueIn cX4_trueIn 8 (some .int)) ∈ lwg := lwgR 1143 (by decide +kernel) (by decide +kernel)
theorem q1158 : (Cond.methodLink RX4 147 yX4_built) ∈ lwg := lwgR 1158 (by decide +kernel) (by decide +kernel)
theorem q1160 : (Cond.instanceMethod yX4_built) ∈ lwg := lwgR 1160 (by decide +kernel) (by decide +kernel)
theorem q1161 : (Cond.code yX4_built cX4_built 2 (some .int)) ∈ lwg := lwgR 1161 (by decide +kernel) (by decide +kernel)
theorem q1227 : (Cond.methodLink RX4 166 yX4_size_) ∈ lwg := lwgR 1227 (by decide +kernel) (by decide +kernel)
theorem q1228 : (Cond.static yX4_size_) ∈ lwg := lwgR 1228 (by decide +kernel) (by decide +kernel)
theorem q1229 : (Cond.code yX4_size_ cX4_size_ 5 (some .int)) ∈ lwg := lwgR 1229 (by decide +kernel) (by decide +kernel)
theorem q1258 : (Cond.methodLink RX4 176 yX4_who) ∈ lwg := lwgR 1258 (by decide +kernel) (by decide +kernel)
theorem q1260 : (Cond.instanceMethod yX4_who) ∈ lwg := lwgR 1260 (by decide +kernel) (by decide +kernel)
theorem q1261 : (Cond.code yX4_who cX4_who 7 (some .int)) ∈ lwg := lwgR 1261 (by decide +kernel) (by decide +kernel)
theorem q1262 : (Cond.methodLink RX4 180 yX4_asked) ∈ lwg := lwgR 1262 (by decide +kernel) (by decide +kernel)
theorem q1264 : (Cond.instanceMethod yX4_asked) ∈ lwg := lwgR 1264 (by decide +kernel) (by decide +kernel)
theorem q1265 : (Cond.code yX4_asked cX4_asked 9 (some .long)) ∈ lwg := lwgR 1265 (by decide +kernel) (by decide +kernel)
theorem q1296 : (Cond.methodLink RX4 196 yX4_few) ∈ lwg := lwgR 1296 (by decide +kernel) (by decide +kernel)
theorem q1298 : (Cond.instanceMethod yX4_few) ∈ lwg := lwgR 1298 (by decide +kernel) (by decide +kernel)
theorem q1299 : (Cond.code yX4_few cX4_few 5 (some .int)) ∈ lwg := lwgR 1299 (by decide +kernel) (by decide +kernel)
theorem q1316 : (Cond.methodLink RX4 203 yX4_knows) ∈ lwg := lwgR 1316 (by decide +kernel) (by decide +kernel)
theorem q1318 : (Cond.instanceMethod yX4_knows) ∈ lwg := lwgR 1318 (by decide +kernel) (by decide +kernel)
theorem q1319 : (Cond.code yX4_knows cX4_knows 9 (some .int)) ∈ lwg := lwgR 1319 (by decide +kernel) (by decide +kernel)
theorem q1320 : (Cond.methodLink RX4 207 yX4_isFiner) ∈ lwg := lwgR 1320 (by decide +kernel) (by decide +kernel)
theorem q1322 : (Cond.instanceMethod yX4_isFiner) ∈ lwg := lwgR 1322 (by decide +kernel) (by decide +kernel)
theorem q1323 : (Cond.code yX4_isFiner cX4_isFiner 5 (some .boolean)) ∈ lwg := lwgR 1323 (by decide +kernel) (by decide +kernel)
theorem qs21 : (Cond.selects RX4 yX4_built yX4_built) ∈ lwg := lwgL 21 (by decide +kernel) (by decide +kernel)
theorem qs31 : (Cond.selects RX4 yX4_who yX4_who) ∈ lwg := lwgL 31 (by decide +kernel) (by decide +kernel)
theorem qs32 : (Cond.selects RX4 yX4_asked yX4_asked) ∈ lwg := lwgL 32 (by decide +kernel) (by decide +kernel)
theorem qs34 : (Cond.selects RX4 yX4_few yX4_few) ∈ lwg := lwgL 34 (by decide +kernel) (by decide +kernel)
theorem qs37 : (Cond.selects RX4 yX4_knows yX4_knows) ∈ lwg := lwgL 37 (by decide +kernel) (by decide +kernel)
theorem qs38 : (Cond.selects RX4 yX4_isFiner yX4_isFiner) ∈ lwg := lwgL 38 (by decide +kernel) (by decide +kernel)
theorem tsw_0_3 {x : Int32} (h0 : ¬ x = 0) (h1 : ¬ x = 1) (h2 : ¬ x = 2) (h3 : ¬ x = 3) : x.toInt < 0 ∨ 3 < x.toInt := by
  have e0 : x.toInt ≠ 0 := fun e => h0 (Int32.toInt_inj.mp (e.trans (by decide)))
  have e1 : x.toInt ≠ 1 := fun e => h1 (Int32.toInt_inj.mp (e.trans (by decide)))
  have e2 : x.toInt ≠ 2 := fun e => h2 (Int32.toInt_inj.mp (e.trans (by decide)))
  have e3 : x.toInt ≠ 3 := fun e => h3 (Int32.toInt_inj.mp (e.trans (by decide)))
  omega
theorem tsw_0_8 {x : Int32} (h0 : ¬ x = 0) (h1 : ¬ x = 1) (h2 : ¬ x = 2) (h3 : ¬ x = 3) (h4 : ¬ x = 4) (h5 : ¬ x = 5) (h6 : ¬ x = 6) (h7 : ¬ x = 7) (h8 : ¬ x = 8) : x.toInt < 0 ∨ 8 < x.toInt := by
  have e0 : x.toInt ≠ 0 := fun e => h0 (Int32.toInt_inj.mp (e.trans (by decide)))
  have e1 : x.toInt ≠ 1 := fun e => h1 (Int32.toInt_inj.mp (e.trans (by decide)))
  have e2 : x.toInt ≠ 2 := fun e => h2 (Int32.toInt_inj.mp (e.trans (by decide)))
  have e3 : x.toInt ≠ 3 := fun e => h3 (Int32.toInt_inj.mp (e.trans (by decide)))
  have e4 : x.toInt ≠ 4 := fun e => h4 (Int32.toInt_inj.mp (e.trans (by decide)))
  have e5 : x.toInt ≠ 5 := fun e => h5 (Int32.toInt_inj.mp (e.trans (by decide)))
  have e6 : x.toInt ≠ 6 := fun e => h6 (Int32.toInt_inj.mp (e.trans (by decide)))
  have e7 : x.toInt ≠ 7 := fun e => h7 (Int32.toInt_inj.mp (e.trans (by decide)))
  have e8 : x.toInt ≠ 8 := fun e => h8 (Int32.toInt_inj.mp (e.trans (by decide)))
  omega
theorem dX4_trueIn_0 : decode cX4_trueIn 0 = .ok (.iconst 0, 1) := by decide +kernel
theorem dX4_trueIn_1 : decode cX4_trueIn 1 = .ok (.istore_n 2, 1) := by decide +kernel
theorem dX4_trueIn_2 : decode cX4_trueIn 2 = .ok (.aload_n 0, 1) := by decide +kernel
theorem dX4_trueIn_3 : decode cX4_trueIn 3 = .ok (.astore_n 3, 1) := by decide +kernel
theorem dX4_trueIn_4 : decode cX4_trueIn 4 = .ok (.aload_n 3, 1) := by decide +kernel
theorem dX4_trueIn_5 : decode cX4_trueIn 5 = .ok (.arraylength, 1) := by decide +kernel
theorem dX4_trueIn_6 : decode cX4_trueIn 6 = .ok (.istore 4, 2) := by decide +kernel
theorem dX4_trueIn_8 : decode cX4_trueIn 8 = .ok (.iconst 0, 1) := by decide +kernel
theorem dX4_trueIn_9 : decode cX4_trueIn 9 = .ok (.istore 5, 2) := by decide +kernel
theorem dX4_trueIn_11 : decode cX4_trueIn 11 = .ok (.iload 5, 2) := by decide +kernel
theorem dX4_trueIn_13 : decode cX4_trueIn 13 = .ok (.iload 4, 2) := by decide +kernel
theorem dX4_trueIn_15 : decode cX4_trueIn 15 = .ok (.if_icmp .ge 32, 3) := by decide +kernel
theorem dX4_trueIn_18 : decode cX4_trueIn 18 = .ok (.aload_n 3, 1) := by decide +kernel
theorem dX4_trueIn_19 : decode cX4_trueIn 19 = .ok (.iload 5, 2) := by decide +kernel
theorem dX4_trueIn_21 : decode cX4_trueIn 21 = .ok (.laload, 1) := by decide +kernel
theorem dX4_trueIn_22 : decode cX4_trueIn 22 = .ok (.lstore 6, 2) := by decide +kernel
theorem dX4_trueIn_24 : decode cX4_trueIn 24 = .ok (.iload_n 2, 1) := by decide +kernel
theorem dX4_trueIn_25 : decode cX4_trueIn 25 = .ok (.lload 6, 2) := by decide +kernel
theorem dX4_trueIn_27 : decode cX4_trueIn 27 = .ok (.iload_n 1, 1) := by decide +kernel
theorem dX4_trueIn_28 : decode cX4_trueIn 28 = .ok (.invokestatic 58, 3) := by decide +kernel
theorem dX4_trueIn_31 : decode cX4_trueIn 31 = .ok (.ifCond .eq 7, 3) := by decide +kernel
theorem dX4_trueIn_34 : decode cX4_trueIn 34 = .ok (.iconst 1, 1) := by decide +kernel
theorem dX4_trueIn_35 : decode cX4_trueIn 35 = .ok (.goto 4, 3) := by decide +kernel
theorem dX4_trueIn_38 : decode cX4_trueIn 38 = .ok (.iconst 0, 1) := by decide +kernel
theorem dX4_trueIn_39 : decode cX4_trueIn 39 = .ok (.iadd, 1) := by decide +kernel
theorem dX4_trueIn_40 : decode cX4_trueIn 40 = .ok (.istore_n 2, 1) := by decide +kernel
theorem dX4_trueIn_41 : decode cX4_trueIn 41 = .ok (.iinc 5 1, 3) := by decide +kernel
theorem dX4_trueIn_44 : decode cX4_trueIn 44 = .ok (.goto (-33), 3) := by decide +kernel
theorem dX4_trueIn_47 : decode cX4_trueIn 47 = .ok (.iload_n 2, 1) := by decide +kernel
theorem dX4_trueIn_48 : decode cX4_trueIn 48 = .ok (.ireturn, 1) := by decide +kernel
def wX4_trueIn_L11 (post : Int32 → Prop) (K47 : Int32 → Int32 → Prop) (yn : Nat) (yf : Nat → Int64) (p2 : Int32) : Nat → Int32 → Int32 → Prop
  | 0, _, _ => False
  | n+1, i2, i5 =>
    (((nI yn) ≤ i5) →
      K47 i2 i5
    ) ∧ (¬ ((nI yn) ≤ i5) →
      vp_in i5 yn ∧
      wX4_has_ (fun r_1 : Int32 =>
        ((r_1 = 0) →
          wX4_trueIn_L11 post K47 yn yf p2 n (i2 + (0 : Int32)) (i5 + 1)
        ) ∧ (¬ (r_1 = 0) →
          wX4_trueIn_L11 post K47 yn yf p2 n (i2 + (1 : Int32)) (i5 + 1)
        )
        ) (yf i5.toNatClampNeg) p2
    )
def wX4_trueIn (post : Int32 → Prop) (yn : Nat) (yf : Nat → Int64) (p2 : Int32) : Prop :=
  ∃ nF, wX4_trueIn_L11 post
    (fun i2 i5 =>
      post i2
    )
    yn yf p2 nF (0 : Int32) (0 : Int32)
abbrev wl_X4_trueIn : List Cond := .code yX4_trueIn cX4_trueIn 8 (some .int) :: lwg
abbrev rm_X4_trueIn : Room := { frames := 1, cells := 0, slots := 0, locals := 22 }
set_option maxHeartbeats 4000000 in
set_option maxRecDepth 100000 in
theorem kX4_trueIn {post : Int32 → Prop} (l : Launch) (G : GT) (y0 : Nat) (yn : Nat) (yf : Nat → Int64) (p2 : Int32) (h : wX4_trueIn post yn yf p2) : Met l yX4_trueIn wl_X4_trueIn rm_X4_trueIn (va_Pc [.ref y0, .int p2] (fun U => PP G [(y0, .inl (G.2 1, yn, .inr (.inl yf)))] U.heap ∧ KK G U)) (vp_Si post) 0 0 (fun _ => False) := by
  refine Met.ofW (cc := cX4_trueIn) (maxL := 8) (ret := (some .int)) (by decide) rfl ?_
  intro p e s m args below meth c s₁ B hml hv
  obtain ⟨rfl, hP, hKK⟩ := hv
  obtain ⟨hK, hN, hR, hFW, hNC⟩ := id hKK
  have hx := B.exec
  have hb := B.bytes
  have hr := B.returns
  have hts0 := atoms_spec (ws := wl_X4_trueIn) B.pre
  have hts : ∀ w ∈ lwg, w.before ([.ref y0, .int p2] : List Value).toArray s = true := fun w hw => hts0 w (List.mem_cons_of_mem _ hw)
  have hown : s.vm.findClass RX4 = some m.cls := findClass_of_methodNamed B.named
  have hlocks := B.notSynchronized
  have hP : PP G [(y0, .inl (G.2 1, yn, .inr (.inl yf)))] s.heap := hP
  have hl := lv_entry ([.ref y0, .int p2]) (n := 8) (Nat.le_of_ble_eq_true rfl)
  rw [lg_entry_eq]
  generalize (lg_sl ([.ref y0, .int p2]) ++ List.replicate (8 - (lg_sl ([.ref y0, .int p2])).length) Slot.unset).toArray = ls at hl ⊢
  have hl : lv_has ls 8 [(0, .ref y0), (1, .int p2)] := hl
  have loop11 : ∀ (K47 : Int32 → Int32 → Prop), True → (∀ (i2 : Int32) (i5 : Int32) (ls : Array Slot), lv_has ls 8 [(0, .ref y0), (1, .int p2), (2, .int i2), (3, .ref y0), (4, .int (nI yn)), (5, .int i5)] → K47 i2 i5 → W p l e (headSpec (wl_X4_trueIn) rm_X4_trueIn).room s m ([.ref y0, .int p2] : List Value).toArray below meth c s.heap [] 0 0 (MQ below (vp_Si post) ([.ref y0, .int p2] : List Value).toArray s 0 0 (fun _ => False)) (F0 m 47 ls [])) → ∀ (n : Nat) (i2 : Int32) (i5 : Int32) (ls : Array Slot), lv_has ls 8 [(0, .ref y0), (1, .int p2), (2, .int i2), (3, .ref y0), (4, .int (nI yn)), (5, .int i5)] → wX4_trueIn_L11 post K47 yn yf p2 n i2 i5 → W p l e (headSpec (wl_X4_trueIn) rm_X4_trueIn).room s m ([.ref y0, .int p2] : List Value).toArray below meth c s.heap [] 0 0 (MQ below (vp_Si post) ([.ref y0, .int p2] : List Value).toArray s 0 0 (fun _ => False)) (F0 m 11 ls []) := by
    intro K47 _ hexit47 n
    induction n with
    | zero => intro i2 i5 ls hl h; exact False.elim h
    | succ n ih =>
      intro i2 i5 ls hl h
      refine lv_iload hx hb dX4_trueIn_11 (lv_at hl 5 rfl) ?_
      refine lv_iload hx hb dX4_trueIn_13 (lv_at hl 4 rfl) ?_
      refine lv_icmp_ge (tgt := 47) hx hb dX4_trueIn_15 (by decide) (fun hc => ?_) (fun hc => ?_)
      · have h := h.1 hc
        have hl := lv_sub (l' := [(0, .ref y0), (1, .int p2), (2, .int i2), (3, .ref y0), (4, .int (nI yn)), (5, .int i5)]) hl [0, 1, 2, 3, 4, 5] rfl
        exact hexit47 _ _ ls hl h
      · have h := h.2 hc
        refine lv_aload_n hx hb dX4_trueIn_18 rfl (lv_at hl 3 rfl) ?_
        refine lv_iload hx hb dX4_trueIn_19 (lv_at hl 5 rfl) ?_
        obtain ⟨hin, h⟩ := h
        refine va_lald (D := G.1) hx hb hK hP 0 1 rfl rfl hin dX4_trueIn_21 ?_
        refine lv_lstore hx hb dX4_trueIn_22 hl (Nat.le_of_ble_eq_true rfl) rfl (fun ls hl => ?_)
        have hl : lv_has ls 8 [(6, .long (yf i5.toNatClampNeg)), (0, .ref y0), (1, .int p2), (2, .int i2), (3, .ref y0), (4, .int (nI yn)), (5, .int i5)] := hl
        refine lv_iload_n hx hb dX4_trueIn_24 rfl (lv_at hl 3 rfl) ?_
        refine lv_lload hx hb dX4_trueIn_25 (lv_at hl 0 rfl) ?_
        refine lv_iload_n hx hb dX4_trueIn_27 rfl (lv_at hl 2 rfl) ?_
        have hPc := va_P.sub (ws' := []) hP [] rfl
        refine rdI (va_runS (As := [.long (yf i5.toNatClampNeg), .int p2]) (rest := [.int i2]) ⟨hx, hb, hml, hown, hts⟩ (kX4_has_ l G (yf i5.toNatClampNeg) p2 h) (va_cwS 2 hts (gdS q1122 q1123 q6 q1124) rfl rfl rfl (by decide +kernel) ⟨Nat.le_of_ble_eq_true rfl, Nat.le_of_ble_eq_true rfl⟩) (preS hPc hKK) rfl rfl hl.1 rfl (lv_room (Nat.le_of_ble_eq_true rfl)) dX4_trueIn_28 ⟨Nat.zero_le _, Nat.zero_le _⟩) (fun r_1 h => ?_)
        refine lv_if_eq (tgt := 38) hx hb dX4_trueIn_31 (by decide) (fun hc => ?_) (fun hc => ?_)
        · have h := h.1 hc
          refine lv_iconst (v := 0) hx hb dX4_trueIn_38 (by decide) ?_
          refine lv_iadd hx hb dX4_trueIn_39 ?_
          refine lv_istore_n hx hb dX4_trueIn_40 rfl hl (Nat.le_of_ble_eq_true rfl) rfl (fun ls hl => ?_)
          have hl : lv_has ls 8 [(2, .int (i2 + (0 : Int32))), (6, .long (yf i5.toNatClampNeg)), (0, .ref y0), (1, .int p2), (3, .ref y0), (4, .int (nI yn)), (5, .int i5)] := hl
          refine lv_iinc (v := (i5 + 1)) hx hb dX4_trueIn_41 hl (k := 6) rfl (by rw [show Int32.ofInt 1 = 1 from by decide]) (Nat.le_of_ble_eq_true rfl) rfl (fun ls hl => ?_)
          have hl : lv_has ls 8 [(5, .int (i5 + 1)), (2, .int (i2 + (0 : Int32))), (6, .long (yf i5.toNatClampNeg)), (0, .ref y0), (1, .int p2), (3, .ref y0), (4, .int (nI yn))] := hl
          refine lv_goto (tgt := 11) hx hb dX4_trueIn_44 (by decide) ?_
          have hl := lv_sub (l' := [(0, .ref y0), (1, .int p2), (2, .int (i2 + (0 : Int32))), (3, .ref y0), (4, .int (nI yn)), (5, .int (i5 + 1))]) hl [3, 4, 1, 5, 6, 0] rfl
          exact ih _ _ ls hl h
        · have h := h.2 hc
          refine lv_iconst (v := 1) hx hb dX4_trueIn_34 (by decide) ?_
          refine lv_goto (tgt := 39) hx hb dX4_trueIn_35 (by decide) ?_
          refine lv_iadd hx hb dX4_trueIn_39 ?_
          refine lv_istore_n hx hb dX4_trueIn_40 rfl hl (Nat.le_of_ble_eq_true rfl) rfl (fun ls hl => ?_)
          have hl : lv_has ls 8 [(2, .int (i2 + (1 : Int32))), (6, .long (yf i5.toNatClampNeg)), (0, .ref y0), (1, .int p2), (3, .ref y0), (4, .int (nI yn)), (5, .int i5)] := hl
          refine lv_iinc (v := (i5 + 1)) hx hb dX4_trueIn_41 hl (k := 6) rfl (by rw [show Int32.ofInt 1 = 1 from by decide]) (Nat.le_of_ble_eq_true rfl) rfl (fun ls hl => ?_)
          have hl : lv_has ls 8 [(5, .int (i5 + 1)), (2, .int (i2 + (1 : Int32))), (6, .long (yf i5.toNatClampNeg)), (0, .ref y0), (1, .int p2), (3, .ref y0), (4, .int (nI yn))] := hl
          refine lv_goto (tgt := 11) hx hb dX4_trueIn_44 (by decide) ?_
          have hl := lv_sub (l' := [(0, .ref y0), (1, .int p2), (2, .int (i2 + (1 : Int32))), (3, .ref y0), (4, .int (nI yn)), (5, .int (i5 + 1))]) hl [3, 4, 1, 5, 6, 0] rfl
          exact ih _ _ ls hl h
  refine lv_iconst (v := 0) hx hb dX4_trueIn_0 (by decide) ?_
  refine lv_istore_n hx hb dX4_trueIn_1 rfl hl (Nat.le_of_ble_eq_true rfl) rfl (fun ls hl => ?_)
  have hl : lv_has ls 8 [(2, .int (0 : Int32)), (0, .ref y0), (1, .int p2)] := hl
  refine lv_aload_n hx hb dX4_trueIn_2 rfl (lv_at hl 1 rfl) ?_
  refine lv_astore_n hx hb dX4_trueIn_3 rfl hl (Nat.le_of_ble_eq_true rfl) rfl (fun ls hl => ?_)
  have hl : lv_has ls 8 [(3, .ref y0), (2, .int (0 : Int32)), (0, .ref y0), (1, .int p2)] := hl
  refine lv_aload_n hx hb dX4_trueIn_4 rfl (lv_at hl 0 rfl) ?_
  refine va_alen (D := G.1) (v := (nI yn)) hx hb hK hP 0 1 rfl rfl rfl dX4_trueIn_5 ?_
  refine lv_istore hx hb dX4_trueIn_6 hl (Nat.le_of_ble_eq_true rfl) rfl (fun ls hl => ?_)
  have hl : lv_has ls 8 [(4, .int (nI yn)), (3, .ref y0), (2, .int (0 : Int32)), (0, .ref y0), (1, .int p2)] := hl
  refine lv_iconst (v := 0) hx hb dX4_trueIn_8 (by decide) ?_
  refine lv_istore hx hb dX4_trueIn_9 hl (Nat.le_of_ble_eq_true rfl) rfl (fun ls hl => ?_)
  have hl : lv_has ls 8 [(5, .int (0 : Int32)), (4, .int (nI yn)), (3, .ref y0), (2, .int (0 : Int32)), (0, .ref y0), (1, .int p2)] := hl
  have hl := lv_sub (l' := [(0, .ref y0), (1, .int p2), (2, .int (0 : Int32)), (3, .ref y0), (4, .int (nI yn)), (5, .int (0 : Int32))]) hl [4, 5, 3, 2, 1, 0] rfl
  obtain ⟨nF, h⟩ := h
  refine loop11 _ trivial ?_ nF (0 : Int32) (0 : Int32) _ hl h
  · intro i2 i5 ls hl h
    refine lv_iload_n hx hb dX4_trueIn_47 rfl (lv_at hl 2 rfl) ?_
    exact W.iret (v := i2) hx hb hr (fun t ht _ => ⟨_, rfl, h, ht⟩) (fun _ hq => absurd hq List.not_mem_nil) dX4_trueIn_48
theorem dX4_knows_0 : decode cX4_knows 0 = .ok (.iconst 0, 1) := by decide +kernel
theorem dX4_knows_1 : decode cX4_knows 1 = .ok (.istore_n 3, 1) := by decide +kernel
theorem dX4_knows_2 : decode cX4_knows 2 = .ok (.aload_n 2, 1) := by decide +kernel
theorem dX4_knows_3 : decode cX4_knows 3 = .ok (.astore 4, 2) := by decide +kernel
theorem dX4_knows_5 : decode cX4_knows 5 = .ok (.aload 4, 2) := by decide +kernel
theorem dX4_knows_7 : decode cX4_knows 7 = .ok (.arraylength, 1) := by decide +kernel
theorem dX4_knows_8 : decode cX4_knows 8 = .ok (.istore 5, 2) := by decide +kernel
theorem dX4_knows_10 : decode cX4_knows 10 = .ok (.iconst 0, 1) := by decide +kernel
theorem dX4_knows_11 : decode cX4_knows 11 = .ok (.istore 6, 2) := by decide +kernel
theorem dX4_knows_13 : decode cX4_knows 13 = .ok (.iload 6, 2) := by decide +kernel
theorem dX4_knows_15 : decode cX4_knows 15 = .ok (.iload 5, 2) := by decide +kernel
theorem dX4_knows_17 : decode cX4_knows 17 = .ok (.if_icmp .ge 45, 3) := by decide +kernel
theorem dX4_knows_20 : decode cX4_knows 20 = .ok (.aload 4, 2) := by decide +kernel
theorem dX4_knows_22 : decode cX4_knows 22 = .ok (.iload 6, 2) := by decide +kernel
theorem dX4_knows_24 : decode cX4_knows 24 = .ok (.laload, 1) := by decide +kernel
theorem dX4_knows_25 : decode cX4_knows 25 = .ok (.lstore 7, 2) := by decide +kernel
theorem dX4_knows_27 : decode cX4_knows 27 = .ok (.iload_n 3, 1) := by decide +kernel
theorem dX4_knows_28 : decode cX4_knows 28 = .ok (.aload_n 0, 1) := by decide +kernel
theorem dX4_knows_29 : decode cX4_knows 29 = .ok (.iload_n 1, 1) := by decide +kernel
theorem dX4_knows_30 : decode cX4_knows 30 = .ok (.aload_n 0, 1) := by decide +kernel
theorem dX4_knows_31 : decode cX4_knows 31 = .ok (.getfield 127, 3) := by decide +kernel
theorem dX4_knows_34 : decode cX4_knows 34 = .ok (.invokevirtual 163, 3) := by decide +kernel
theorem dX4_knows_37 : decode cX4_knows 37 = .ok (.lload 7, 2) := by decide +kernel
theorem dX4_knows_39 : decode cX4_knows 39 = .ok (.ldc2_w 7, 3) := by decide +kernel
theorem dX4_knows_42 : decode cX4_knows 42 = .ok (.lxor, 1) := by decide +kernel
theorem dX4_knows_43 : decode cX4_knows 43 = .ok (.land, 1) := by decide +kernel
theorem dX4_knows_44 : decode cX4_knows 44 = .ok (.lconst 0, 1) := by decide +kernel
theorem dX4_knows_45 : decode cX4_knows 45 = .ok (.lcmp, 1) := by decide +kernel
theorem dX4_knows_46 : decode cX4_knows 46 = .ok (.ifCond .ne 7, 3) := by decide +kernel
theorem dX4_knows_49 : decode cX4_knows 49 = .ok (.iconst 1, 1) := by decide +kernel
theorem dX4_knows_50 : decode cX4_knows 50 = .ok (.goto 4, 3) := by decide +kernel
theorem dX4_knows_53 : decode cX4_knows 53 = .ok (.iconst 0, 1) := by decide +kernel
theorem dX4_knows_54 : decode cX4_knows 54 = .ok (.iadd, 1) := by decide +kernel
theorem dX4_knows_55 : decode cX4_knows 55 = .ok (.istore_n 3, 1) := by decide +kernel
theorem dX4_knows_56 : decode cX4_knows 56 = .ok (.iinc 6 1, 3) := by decide +kernel
theorem dX4_knows_59 : decode cX4_knows 59 = .ok (.goto (-46), 3) := by decide +kernel
theorem dX4_knows_62 : decode cX4_knows 62 = .ok (.iload_n 3, 1) := by decide +kernel
theorem dX4_knows_63 : decode cX4_knows 63 = .ok (.ireturn, 1) := by decide +kernel
def wX4_knows_L13 (post : Int32 → Prop) (K62 : Int32 → Int32 → Prop) (mr : Int32) (po : Int64) (DD : Nat → Nat → Int32) (yn : Nat) (yf : Nat → Int64) (p1 : Int32) : Nat → Int32 → Int32 → Prop
  | 0, _, _ => False
  | n+1, i3, i6 =>
    (((nI yn) ≤ i6) →
      K62 i3 i6
    ) ∧ (¬ ((nI yn) ≤ i6) →
      vp_in i6 yn ∧
      wX4_alikeNow (fun r_1 : Int64 =>
        ((¬ (lg_cmp (r_1 &&& ((yf i6.toNatClampNeg) ^^^ (-1 : Int64))) (0 : Int64)) = 0) →
          wX4_knows_L13 post K62 mr po DD yn yf p1 n (i3 + (0 : Int32)) (i6 + 1)
        ) ∧ (((lg_cmp (r_1 &&& ((yf i6.toNatClampNeg) ^^^ (-1 : Int64))) (0 : Int64)) = 0) →
          wX4_knows_L13 post K62 mr po DD yn yf p1 n (i3 + (1 : Int32)) (i6 + 1)
        )
        ) po DD p1 mr
    )
def wX4_knows (post : Int32 → Prop) (mr : Int32) (po : Int64) (DD : Nat → Nat → Int32) (yn : Nat) (yf : Nat → Int64) (p1 : Int32) : Prop :=
  ∃ nF, wX4_knows_L13 post
    (fun i3 i6 =>
      post i3
    )
    mr po DD yn yf p1 nF (0 : Int32) (0 : Int32)
abbrev wl_X4_knows : List Cond := .code yX4_knows cX4_knows 9 (some .int) :: lwg
abbrev rm_X4_knows : Room := { frames := 2, cells := 0, slots := 0, locals := 47 }
set_option maxHeartbeats 4000000 in
set_option maxRecDepth 100000 in
theorem kX4_knows {post : Int32 → Prop} (l : Launch) (G : GT) (m0 : Nat) (dO : Nat) (sl : Nat) (ct0 : Nat) (st0 : Nat) (fs0 : Nat) (jn0 : Nat) (rw0 : Nat) (fd0 : Nat) (af0 : Nat) (kO : Nat) (dr : Nat → Nat) (kr : Nat → Nat) (sa : Nat → Nat) (y0 : Nat) (th : Int32) (mr : Int32) (po : Int64) (mf : Int32) (sp : Int32) (DD : Nat → Nat → Int32) (ctf : Nat → Int32) (stf : Nat → Int32) (fsf : Nat → Int32) (jnf : Nat → Int32) (rwf : Nat → Int32) (fdf : Nat → Int64) (aff : Nat → Int32) (KP : Nat → Nat → Int32) (sn : Nat) (sq : Nat → Nat → Int32) (yn : Nat) (yf : Nat → Int64) (p1 : Int32) (h : wX4_knows post mr po DD yn yf p1) : Met l yX4_knows wl_X4_knows rm_X4_knows (va_Pc [.ref m0, .int p1, .ref y0] (fun U => PP G [(m0, .inr (7, [.int th, .int mr, .long po, .ref dO, .ref sl, .ref ct0, .int mf, .int sp, .ref st0, .ref fs0, .ref jn0, .ref rw0, .ref fd0, .ref af0, .ref kO])), (dO, .inl (G.2 4, 6, .inr (.inr (.inr (.inr (fun k => if k < 6 then some (dr k) else none)))))), (dr 0, .inl (G.2 0, 64, .inl (DD 0))), (dr 1, .inl (G.2 0, 64, .inl (DD 1))), (dr 2, .inl (G.2 0, 64, .inl (DD 2))), (dr 3, .inl (G.2 0, 64, .inl (DD 3))), (dr 4, .inl (G.2 0, 64, .inl (DD 4))), (dr 5, .inl (G.2 0, 64, .inl (DD 5))), (ct0, .inl (G.2 0, 6, .inl ctf)), (st0, .inl (G.2 0, 4096, .inl stf)), (fs0, .inl (G.2 0, 4096, .inl fsf)), (jn0, .inl (G.2 0, 64, .inl jnf)), (rw0, .inl (G.2 0, 64, .inl rwf)), (fd0, .inl (G.2 1, 40, .inr (.inl fdf))), (af0, .inl (G.2 3, 40, .inl aff)), (kO, .inl (G.2 4, 4, .inr (.inr (.inr (.inr (fun k => if k < 4 then some (kr k) else none)))))), (kr 0, .inl (G.2 0, 64, .inl (KP 0))), (kr 1, .inl (G.2 0, 64, .inl (KP 1))), (kr 2, .inl (G.2 0, 64, .inl (KP 2))), (kr 3, .inl (G.2 0, 64, .inl (KP 3))), (y0, .inl (G.2 1, yn, .inr (.inl yf)))] U.heap ∧ KK G U)) (vp_Si post) 0 0 (fun _ => False) := by
  refine Met.ofW (cc := cX4_knows) (maxL := 9) (ret := (some .int)) (by decide) rfl ?_
  intro p e s m args below meth c s₁ B hml hv
  obtain ⟨rfl, hP, hKK⟩ := hv
  obtain ⟨hK, hN, hR, hFW, hNC⟩ := id hKK
  have hx := B.exec
  have hb := B.bytes
  have hr := B.returns
  have hts0 := atoms_spec (ws := wl_X4_knows) B.pre
  have hts : ∀ w ∈ lwg, w.before ([.ref m0, .int p1, .ref y0] : List Value).toArray s = true := fun w hw => hts0 w (List.mem_cons_of_mem _ hw)
  have hown : s.vm.findClass RX4 = some m.cls := findClass_of_methodNamed B.named
  have hlocks := B.notSynchronized
  have hP : PP G [(m0, .inr (7, [.int th, .int mr, .long po, .ref dO, .ref sl, .ref ct0, .int mf, .int sp, .ref st0, .ref fs0, .ref jn0, .ref rw0, .ref fd0, .ref af0, .ref kO])), (dO, .inl (G.2 4, 6, .inr (.inr (.inr (.inr (fun k => if k < 6 then some (dr k) else none)))))), (dr 0, .inl (G.2 0, 64, .inl (DD 0))), (dr 1, .inl (G.2 0, 64, .inl (DD 1))), (dr 2, .inl (G.2 0, 64, .inl (DD 2))), (dr 3, .inl (G.2 0, 64, .inl (DD 3))), (dr 4, .inl (G.2 0, 64, .inl (DD 4))), (dr 5, .inl (G.2 0, 64, .inl (DD 5))), (ct0, .inl (G.2 0, 6, .inl ctf)), (st0, .inl (G.2 0, 4096, .inl stf)), (fs0, .inl (G.2 0, 4096, .inl fsf)), (jn0, .inl (G.2 0, 64, .inl jnf)), (rw0, .inl (G.2 0, 64, .inl rwf)), (fd0, .inl (G.2 1, 40, .inr (.inl fdf))), (af0, .inl (G.2 3, 40, .inl aff)), (kO, .inl (G.2 4, 4, .inr (.inr (.inr (.inr (fun k => if k < 4 then some (kr k) else none)))))), (kr 0, .inl (G.2 0, 64, .inl (KP 0))), (kr 1, .inl (G.2 0, 64, .inl (KP 1))), (kr 2, .inl (G.2 0, 64, .inl (KP 2))), (kr 3, .inl (G.2 0, 64, .inl (KP 3))), (y0, .inl (G.2 1, yn, .inr (.inl yf)))] s.heap := hP
  have hl := lv_entry ([.ref m0, .int p1, .ref y0]) (n := 9) (Nat.le_of_ble_eq_true rfl)
  rw [lg_entry_eq]
  generalize (lg_sl ([.ref m0, .int p1, .ref y0]) ++ List.replicate (9 - (lg_sl ([.ref m0, .int p1, .ref y0])).length) Slot.unset).toArray = ls at hl ⊢
  have hl : lv_has ls 9 [(0, .ref m0), (1, .int p1), (2, .ref y0)] := hl
  have loop13 : ∀ (K62 : Int32 → Int32 → Prop), True → (∀ (i3 : Int32) (i6 : Int32) (ls : Array Slot), lv_has ls 9 [(0, .ref m0), (1, .int p1), (2, .ref y0), (3, .int i3), (4, .ref y0), (5, .int (nI yn)), (6, .int i6)] → K62 i3 i6 → W p l e (headSpec (wl_X4_knows) rm_X4_knows).room s m ([.ref m0, .int p1, .ref y0] : List Value).toArray below meth c s.heap [] 0 0 (MQ below (vp_Si post) ([.ref m0, .int p1, .ref y0] : List Value).toArray s 0 0 (fun _ => False)) (F0 m 62 ls [])) → ∀ (n : Nat) (i3 : Int32) (i6 : Int32) (ls : Array Slot), lv_has ls 9 [(0, .ref m0), (1, .int p1), (2, .ref y0), (3, .int i3), (4, .ref y0), (5, .int (nI yn)), (6, .int i6)] → wX4_knows_L13 post K62 mr po DD yn yf p1 n i3 i6 → W p l e (headSpec (wl_X4_knows) rm_X4_knows).room s m ([.ref m0, .int p1, .ref y0] : List Value).toArray below meth c s.heap [] 0 0 (MQ below (vp_Si post) ([.ref m0, .int p1, .ref y0] : List Value).toArray s 0 0 (fun _ => False)) (F0 m 13 ls []) := by
    intro K62 _ hexit62 n
    induction n with
    | zero => intro i3 i6 ls hl h; exact False.elim h
    | succ n ih =>
      intro i3 i6 ls hl h
      refine lv_iload hx hb dX4_knows_13 (lv_at hl 6 rfl) ?_
      refine lv_iload hx hb dX4_knows_15 (lv_at hl 5 rfl) ?_
      refine lv_icmp_ge (tgt := 62) hx hb dX4_knows_17 (by decide) (fun hc => ?_) (fun hc => ?_)
      · have h := h.1 hc
        have hl := lv_sub (l' := [(0, .ref m0), (1, .int p1), (2, .ref y0), (3, .int i3), (4, .ref y0), (5, .int (nI yn)), (6, .int i6)]) hl [0, 1, 2, 3, 4, 5, 6] rfl
        exact hexit62 _ _ ls hl h
      · have h := h.2 hc
        refine lv_aload hx hb dX4_knows_20 (lv_at hl 4 rfl) ?_
        refine lv_iload hx hb dX4_knows_22 (lv_at hl 6 rfl) ?_
        obtain ⟨hin, h⟩ := h
        refine va_lald (D := G.1) hx hb hK hP 20 1 rfl rfl hin dX4_knows_24 ?_
        refine lv_lstore hx hb dX4_knows_25 hl (Nat.le_of_ble_eq_true rfl) rfl (fun ls hl => ?_)
        have hl : lv_has ls 9 [(7, .long (yf i6.toNatClampNeg)), (0, .ref m0), (1, .int p1), (2, .ref y0), (3, .int i3), (4, .ref y0), (5, .int (nI yn)), (6, .int i6)] := hl
        refine lv_iload_n hx hb dX4_knows_27 rfl (lv_at hl 4 rfl) ?_
        refine lv_aload_n hx hb dX4_knows_28 rfl (lv_at hl 1 rfl) ?_
        refine lv_iload_n hx hb dX4_knows_29 rfl (lv_at hl 2 rfl) ?_
        refine lv_aload_n hx hb dX4_knows_30 rfl (lv_at hl 1 rfl) ?_
        refine va_get (D := G.1) (ci := 7) (v := .int mr) (C := RX4) (T := TX4) (N := 15) hx hb hts igX4 hown hK hP 0 rfl rfl 1 (by decide) (hts _ q1006) (fun _ h9 => h9) rfl dX4_knows_31 ?_
        have hPc := va_P.sub (ws' := [(m0, .inr (7, [.int th, .int mr, .long po, .ref dO, .ref sl, .ref ct0, .int mf, .int sp, .ref st0, .ref fs0, .ref jn0, .ref rw0, .ref fd0, .ref af0, .ref kO])), (dO, .inl (G.2 4, 6, .inr (.inr (.inr (.inr (fun k => if k < 6 then some (dr k) else none)))))), (dr 0, .inl (G.2 0, 64, .inl (DD 0))), (dr 1, .inl (G.2 0, 64, .inl (DD 1))), (dr 2, .inl (G.2 0, 64, .inl (DD 2))), (dr 3, .inl (G.2 0, 64, .inl (DD 3))), (dr 4, .inl (G.2 0, 64, .inl (DD 4))), (dr 5, .inl (G.2 0, 64, .inl (DD 5))), (ct0, .inl (G.2 0, 6, .inl ctf)), (st0, .inl (G.2 0, 4096, .inl stf)), (fs0, .inl (G.2 0, 4096, .inl fsf)), (jn0, .inl (G.2 0, 64, .inl jnf)), (rw0, .inl (G.2 0, 64, .inl rwf)), (fd0, .inl (G.2 1, 40, .inr (.inl fdf))), (af0, .inl (G.2 3, 40, .inl aff)), (kO, .inl (G.2 4, 4, .inr (.inr (.inr (.inr (fun k => if k < 4 then some (kr k) else none)))))), (kr 0, .inl (G.2 0, 64, .inl (KP 0))), (kr 1, .inl (G.2 0, 64, .inl (KP 1))), (kr 2, .inl (G.2 0, 64, .inl (KP 2))), (kr 3, .inl (G.2 0, 64, .inl (KP 3)))]) hP [0, 1, 2, 3, 4, 5, 6, 7, 8, 9, 10, 11, 12, 13, 14, 15, 16, 17, 18, 19] rfl
        refine rdL (va_runV (C := RX4) (As := [.int p1, .int mr]) (rest := [.int i3]) ⟨hx, hb, hml, hown, hts⟩ (kX4_alikeNow l G m0 dO sl ct0 st0 fs0 jn0 rw0 fd0 af0 kO dr kr sa th mr po mf sp DD ctf stf fsf jnf rwf fdf aff KP sn sq p1 mr h) (cwV 2 hts (gdV q1219 q1221 qs26 q6 q1222) rfl rfl rfl (by decide +kernel) ⟨Nat.le_of_ble_eq_true rfl, Nat.le_of_ble_eq_true rfl⟩) (preV hPc hKK (va_recv hK hPc (ci := 7) (q0 := 0) rfl rfl)) rfl rfl hl.1 rfl (lv_room (Nat.le_of_ble_eq_true rfl)) dX4_knows_34 ⟨Nat.zero_le _, Nat.zero_le _⟩) (fun r_1 h => ?_)
        refine lv_lload hx hb dX4_knows_37 (lv_at hl 0 rfl) ?_
        refine lv_ldc2 hx hb hown (hts _ q976) dX4_knows_39 ?_
        refine lv_lxor hx hb dX4_knows_42 ?_
        refine lv_land hx hb dX4_knows_43 ?_
        refine lv_lconst (v := 0) hx hb dX4_knows_44 (by decide) ?_
        refine W.lcmp hx hb dX4_knows_45 ?_
        refine lv_if_ne (tgt := 53) hx hb dX4_knows_46 (by decide) (fun hc => ?_) (fun hc => ?_)
        · have h := h.1 hc
          refine lv_iconst (v := 0) hx hb dX4_knows_53 (by decide) ?_
          refine lv_iadd hx hb dX4_knows_54 ?_
          refine lv_istore_n hx hb dX4_knows_55 rfl hl (Nat.le_of_ble_eq_true rfl) rfl (fun ls hl => ?_)
          have hl : lv_has ls 9 [(3, .int (i3 + (0 : Int32))), (7, .long (yf i6.toNatClampNeg)), (0, .ref m0), (1, .int p1), (2, .ref y0), (4, .ref y0), (5, .int (nI yn)), (6, .int i6)] := hl
          refine lv_iinc (v := (i6 + 1)) hx hb dX4_knows_56 hl (k := 7) rfl (by rw [show Int32.ofInt 1 = 1 from by decide]) (Nat.le_of_ble_eq_true rfl) rfl (fun ls hl => ?_)
          have hl : lv_has ls 9 [(6, .int (i6 + 1)), (3, .int (i3 + (0 : Int32))), (7, .long (yf i6.toNatClampNeg)), (0, .ref m0), (1, .int p1), (2, .ref y0), (4, .ref y0), (5, .int (nI yn))] := hl
          refine lv_goto (tgt := 13) hx hb dX4_knows_59 (by decide) ?_
          have hl := lv_sub (l' := [(0, .ref m0), (1, .int p1), (2, .ref y0), (3, .int (i3 + (0 : Int32))), (4, .ref y0), (5, .int (nI yn)), (6, .int (i6 + 1))]) hl [3, 4, 5, 1, 6, 7, 0] rfl
          exact ih _ _ ls hl h
        · have h := h.2 hc
          refine lv_iconst (v := 1) hx hb dX4_knows_49 (by decide) ?_
          refine lv_goto (tgt := 54) hx hb dX4_knows_50 (by decide) ?_
          refine lv_iadd hx hb dX4_knows_54 ?_
          refine lv_istore_n hx hb dX4_knows_55 rfl hl (Nat.le_of_ble_eq_true rfl) rfl (fun ls hl => ?_)
          have hl : lv_has ls 9 [(3, .int (i3 + (1 : Int32))), (7, .long (yf i6.toNatClampNeg)), (0, .ref m0), (1, .int p1), (2, .ref y0), (4, .ref y0), (5, .int (nI yn)), (6, .int i6)] := hl
          refine lv_iinc (v := (i6 + 1)) hx hb dX4_knows_56 hl (k := 7) rfl (by rw [show Int32.ofInt 1 = 1 from by decide]) (Nat.le_of_ble_eq_true rfl) rfl (fun ls hl => ?_)
          have hl : lv_has ls 9 [(6, .int (i6 + 1)), (3, .int (i3 + (1 : Int32))), (7, .long (yf i6.toNatClampNeg)), (0, .ref m0), (1, .int p1), (2, .ref y0), (4, .ref y0), (5, .int (nI yn))] := hl
          refine lv_goto (tgt := 13) hx hb dX4_knows_59 (by decide) ?_
          have hl := lv_sub (l' := [(0, .ref m0), (1, .int p1), (2, .ref y0), (3, .int (i3 + (1 : Int32))), (4, .ref y0), (5, .int (nI yn)), (6, .int (i6 + 1))]) hl [3, 4, 5, 1, 6, 7, 0] rfl
          exact ih _ _ ls hl h
  refine lv_iconst (v := 0) hx hb dX4_knows_0 (by decide) ?_
  refine lv_istore_n hx hb dX4_knows_1 rfl hl (Nat.le_of_ble_eq_true rfl) rfl (fun ls hl => ?_)
  have hl : lv_has ls 9 [(3, .int (0 : Int32)), (0, .ref m0), (1, .int p1), (2, .ref y0)] := hl
  refine lv_aload_n hx hb dX4_knows_2 rfl (lv_at hl 3 rfl) ?_
  refine lv_astore hx hb dX4_knows_3 hl (Nat.le_of_ble_eq_true rfl) rfl (fun ls hl => ?_)
  have hl : lv_has ls 9 [(4, .ref y0), (3, .int (0 : Int32)), (0, .ref m0), (1, .int p1), (2, .ref y0)] := hl
  refine lv_aload hx hb dX4_knows_5 (lv_at hl 0 rfl) ?_
  refine va_alen (D := G.1) (v := (nI yn)) hx hb hK hP 20 1 rfl rfl rfl dX4_knows_7 ?_
  refine lv_istore hx hb dX4_knows_8 hl (Nat.le_of_ble_eq_true rfl) rfl (fun ls hl => ?_)
  have hl : lv_has ls 9 [(5, .int (nI yn)), (4, .ref y0), (3, .int (0 : Int32)), (0, .ref m0), (1, .int p1), (2, .ref y0)] := hl
  refine lv_iconst (v := 0) hx hb dX4_knows_10 (by decide) ?_
  refine lv_istore hx hb dX4_knows_11 hl (Nat.le_of_ble_eq_true rfl) rfl (fun ls hl => ?_)
  have hl : lv_has ls 9 [(6, .int (0 : Int32)), (5, .int (nI yn)), (4, .ref y0), (3, .int (0 : Int32)), (0, .ref m0), (1, .int p1), (2, .ref y0)] := hl
  have hl := lv_sub (l' := [(0, .ref m0), (1, .int p1), (2, .ref y0), (3, .int (0 : Int32)), (4, .ref y0), (5, .int (nI yn)), (6, .int (0 : Int32))]) hl [4, 5, 6, 3, 2, 1, 0] rfl
  obtain ⟨nF, h⟩ := h
  refine loop13 _ trivial ?_ nF (0 : Int32) (0 : Int32) _ hl h
  · intro i3 i6 ls hl h
    refine lv_iload_n hx hb dX4_knows_62 rfl (lv_at hl 3 rfl) ?_
    exact W.iret (v := i3) hx hb hr (fun t ht _ => ⟨_, rfl, h, ht⟩) (fun _ hq => absurd hq List.not_mem_nil) dX4_knows_63
theorem dX4_witNow_0 : decode cX4_witNow 0 = .ok (.aload_n 2, 1) := by decide +kernel
theorem dX4_witNow_1 : decode cX4_witNow 1 = .ok (.arraylength, 1) := by decide +kernel
theorem dX4_witNow_2 : decode cX4_witNow 2 = .ok (.ifCond .ne 7, 3) := by decide +kernel
theorem dX4_witNow_5 : decode cX4_witNow 5 = .ok (.dconst 0, 1) := by decide +kernel
theorem dX4_witNow_6 : decode cX4_witNow 6 = .ok (.goto 14, 3) := by decide +kernel
theorem dX4_witNow_9 : decode cX4_witNow 9 = .ok (.aload_n 0, 1) := by decide +kernel
theorem dX4_witNow_10 : decode cX4_witNow 10 = .ok (.iload_n 1, 1) := by decide +kernel
theorem dX4_witNow_11 : decode cX4_witNow 11 = .ok (.aload_n 2, 1) := by decide +kernel
theorem dX4_witNow_12 : decode cX4_witNow 12 = .ok (.invokevirtual 203, 3) := by decide +kernel
theorem dX4_witNow_15 : decode cX4_witNow 15 = .ok (.i2d, 1) := by decide +kernel
theorem dX4_witNow_16 : decode cX4_witNow 16 = .ok (.aload_n 2, 1) := by decide +kernel
theorem dX4_witNow_17 : decode cX4_witNow 17 = .ok (.arraylength, 1) := by decide +kernel
theorem dX4_witNow_18 : decode cX4_witNow 18 = .ok (.i2d, 1) := by decide +kernel
theorem dX4_witNow_19 : decode cX4_witNow 19 = .ok (.ddiv, 1) := by decide +kernel
theorem dX4_witNow_20 : decode cX4_witNow 20 = .ok (.dreturn, 1) := by decide +kernel
def wX4_witNow (post : UInt64 → Prop) (mr : Int32) (po : Int64) (DD : Nat → Nat → Int32) (yn : Nat) (yf : Nat → Int64) (p1 : Int32) : Prop :=
  ((¬ (nI yn) = 0) →
    wX4_knows (fun r_1 : Int32 =>
      vf_n64 (FP.ddiv (FP.i2d r_1) (FP.i2d (nI yn))) ∧
      post (FP.ddiv (FP.i2d r_1) (FP.i2d (nI yn)))
      ) mr po DD yn yf p1
  ) ∧ (((nI yn) = 0) →
    post (FP.dconst0)
  )
abbrev wl_X4_witNow : List Cond := .code yX4_witNow cX4_witNow 3 (some .double) :: lwg
abbrev rm_X4_witNow : Room := { frames := 3, cells := 0, slots := 0, locals := 75 }
set_option maxHeartbeats 4000000 in
set_option maxRecDepth 100000 in
theorem kX4_witNow {post : UInt64 → Prop} (l : Launch) (G : GT) (m0 : Nat) (dO : Nat) (sl : Nat) (ct0 : Nat) (st0 : Nat) (fs0 : Nat) (jn0 : Nat) (rw0 : Nat) (fd0 : Nat) (af0 : Nat) (kO : Nat) (dr : Nat → Nat) (kr : Nat → Nat) (sa : Nat → Nat) (y0 : Nat) (th : Int32) (mr : Int32) (po : Int64) (mf : Int32) (sp : Int32) (DD : Nat → Nat → Int32) (ctf : Nat → Int32) (stf : Nat → Int32) (fsf : Nat → Int32) (jnf : Nat → Int32) (rwf : Nat → Int32) (fdf : Nat → Int64) (aff : Nat → Int32) (KP : Nat → Nat → Int32) (sn : Nat) (sq : Nat → Nat → Int32) (yn : Nat) (yf : Nat → Int64) (p1 : Int32) (h : wX4_witNow post mr po DD yn yf p1) : Met l yX4_witNow wl_X4_witNow rm_X4_witNow (va_Pc [.ref m0, .int p1, .ref y0] (fun U => PP G [(m0, .inr (7, [.int th, .int mr, .long po, .ref dO, .ref sl, .ref ct0, .int mf, .int sp, .ref st0, .ref fs0, .ref jn0, .ref rw0, .ref fd0, .ref af0, .ref kO])), (dO, .inl (G.2 4, 6, .inr (.inr (.inr (.inr (fun k => if k < 6 then some (dr k) else none)))))), (dr 0, .inl (G.2 0, 64, .inl (DD 0))), (dr 1, .inl (G.2 0, 64, .inl (DD 1))), (dr 2, .inl (G.2 0, 64, .inl (DD 2))), (dr 3, .inl (G.2 0, 64, .inl (DD 3))), (dr 4, .inl (G.2 0, 64, .inl (DD 4))), (dr 5, .inl (G.2 0, 64, .inl (DD 5))), (ct0, .inl (G.2 0, 6, .inl ctf)), (st0, .inl (G.2 0, 4096, .inl stf)), (fs0, .inl (G.2 0, 4096, .inl fsf)), (jn0, .inl (G.2 0, 64, .inl jnf)), (rw0, .inl (G.2 0, 64, .inl rwf)), (fd0, .inl (G.2 1, 40, .inr (.inl fdf))), (af0, .inl (G.2 3, 40, .inl aff)), (kO, .inl (G.2 4, 4, .inr (.inr (.inr (.inr (fun k => if k < 4 then some (kr k) else none)))))), (kr 0, .inl (G.2 0, 64, .inl (KP 0))), (kr 1, .inl (G.2 0, 64, .inl (KP 1))), (kr 2, .inl (G.2 0, 64, .inl (KP 2))), (kr 3, .inl (G.2 0, 64, .inl (KP 3))), (y0, .inl (G.2 1, yn, .inr (.inl yf)))] U.heap ∧ KK G U)) (vp_Sd post) 0 0 (fun _ => False) := by
  refine Met.ofW (cc := cX4_witNow) (maxL := 3) (ret := (some .double)) (by decide) rfl ?_
  intro p e s m args below meth c s₁ B hml hv
  obtain ⟨rfl, hP, hKK⟩ := hv
  obtain ⟨hK, hN, hR, hFW, hNC⟩ := id hKK
  have hx := B.exec
  have hb := B.bytes
  have hr := B.returns
  have hts0 := atoms_spec (ws := wl_X4_witNow) B.pre
  have hts : ∀ w ∈ lwg, w.before ([.ref m0, .int p1, .ref y0] : List Value).toArray s = true := fun w hw => hts0 w (List.mem_cons_of_mem _ hw)
  have hown : s.vm.findClass RX4 = some m.cls := findClass_of_methodNamed B.named
  have hlocks := B.notSynchronized
  have hP : PP G [(m0, .inr (7, [.int th, .int mr, .long po, .ref dO, .ref sl, .ref ct0, .int mf, .int sp, .ref st0, .ref fs0, .ref jn0, .ref rw0, .ref fd0, .ref af0, .ref kO])), (dO, .inl (G.2 4, 6, .inr (.inr (.inr (.inr (fun k => if k < 6 then some (dr k) else none)))))), (dr 0, .inl (G.2 0, 64, .inl (DD 0))), (dr 1, .inl (G.2 0, 64, .inl (DD 1))), (dr 2, .inl (G.2 0, 64, .inl (DD 2))), (dr 3, .inl (G.2 0, 64, .inl (DD 3))), (dr 4, .inl (G.2 0, 64, .inl (DD 4))), (dr 5, .inl (G.2 0, 64, .inl (DD 5))), (ct0, .inl (G.2 0, 6, .inl ctf)), (st0, .inl (G.2 0, 4096, .inl stf)), (fs0, .inl (G.2 0, 4096, .inl fsf)), (jn0, .inl (G.2 0, 64, .inl jnf)), (rw0, .inl (G.2 0, 64, .inl rwf)), (fd0, .inl (G.2 1, 40, .inr (.inl fdf))), (af0, .inl (G.2 3, 40, .inl aff)), (kO, .inl (G.2 4, 4, .inr (.inr (.inr (.inr (fun k => if k < 4 then some (kr k) else none)))))), (kr 0, .inl (G.2 0, 64, .inl (KP 0))), (kr 1, .inl (G.2 0, 64, .inl (KP 1))), (kr 2, .inl (G.2 0, 64, .inl (KP 2))), (kr 3, .inl (G.2 0, 64, .inl (KP 3))), (y0, .inl (G.2 1, yn, .inr (.inl yf)))] s.heap := hP
  have hl := lv_entry ([.ref m0, .int p1, .ref y0]) (n := 3) (Nat.le_of_ble_eq_true rfl)
  rw [lg_entry_eq]
  generalize (lg_sl ([.ref m0, .int p1, .ref y0]) ++ List.replicate (3 - (lg_sl ([.ref m0, .int p1, .ref y0])).length) Slot.unset).toArray = ls at hl ⊢
  have hl : lv_has ls 3 [(0, .ref m0), (1, .int p1), (2, .ref y0)] := hl
  refine lv_aload_n hx hb dX4_witNow_0 rfl (lv_at hl 2 rfl) ?_
  refine va_alen (D := G.1) (v := (nI yn)) hx hb hK hP 20 1 rfl rfl rfl dX4_witNow_1 ?_
  refine lv_if_ne (tgt := 9) hx hb dX4_witNow_2 (by decide) (fun hc => ?_) (fun hc => ?_)
  · have h := h.1 hc
    refine lv_aload_n hx hb dX4_witNow_9 rfl (lv_at hl 0 rfl) ?_
    refine lv_iload_n hx hb dX4_witNow_10 rfl (lv_at hl 1 rfl) ?_
    refine lv_aload_n hx hb dX4_witNow_11 rfl (lv_at hl 2 rfl) ?_
    have hPc := hP
    refine rdI (va_runV (C := RX4) (As := [.int p1, .ref y0]) (rest := []) ⟨hx, hb, hml, hown, hts⟩ (kX4_knows l G m0 dO sl ct0 st0 fs0 jn0 rw0 fd0 af0 kO dr kr sa y0 th mr po mf sp DD ctf stf fsf jnf rwf fdf aff KP sn sq yn yf p1 h) (cwV 2 hts (gdV q1316 q1318 qs37 q6 q1319) rfl rfl rfl (by decide +kernel) ⟨Nat.le_of_ble_eq_true rfl, Nat.le_of_ble_eq_true rfl⟩) (preV hPc hKK (va_recv hK hPc (ci := 7) (q0 := 0) rfl rfl)) rfl rfl hl.1 rfl (lv_room (Nat.le_of_ble_eq_true rfl)) dX4_witNow_12 ⟨Nat.zero_le _, Nat.zero_le _⟩) (fun r_1 h => ?_)
    refine lv_i2d hx hb dX4_witNow_15 ?_
    refine lv_aload_n hx hb dX4_witNow_16 rfl (lv_at hl 2 rfl) ?_
    refine va_alen (D := G.1) (v := (nI yn)) hx hb hK hP 20 1 rfl rfl rfl dX4_witNow_17 ?_
    refine lv_i2d hx hb dX4_witNow_18 ?_
    obtain ⟨hnn, h⟩ := h
    refine lv_ddiv hx hb dX4_witNow_19 hnn ?_
    exact W.dret (v := (FP.ddiv (FP.i2d r_1) (FP.i2d (nI yn)))) hx hb hr (fun t ht _ => ⟨_, rfl, h, ht⟩) (fun _ hq => absurd hq List.not_mem_nil) dX4_witNow_20
  · have h := h.2 hc
    refine lv_dconst0 hx hb dX4_witNow_5 ?_
    refine lv_goto (tgt := 20) hx hb dX4_witNow_6 (by decide) ?_
    exact W.dret (v := FP.dconst0) hx hb hr (fun t ht _ => ⟨_, rfl, h, ht⟩) (fun _ hq => absurd hq List.not_mem_nil) dX4_witNow_20
theorem dX4_nightNow_0 : decode cX4_nightNow 0 = .ok (.iconst 0, 1) := by decide +kernel
theorem dX4_nightNow_1 : decode cX4_nightNow 1 = .ok (.istore_n 3, 1) := by decide +kernel
theorem dX4_nightNow_2 : decode cX4_nightNow 2 = .ok (.iload_n 1, 1) := by decide +kernel
theorem dX4_nightNow_3 : decode cX4_nightNow 3 = .ok (.tableswitch 214 0 12 #[65, 70, 78, 88, 97, 214, 214, 214, 214, 214, 214, 156, 209], 65) := by decide +kernel
theorem dX4_nightNow_68 : decode cX4_nightNow 68 = .ok (.aload_n 0, 1) := by decide +kernel
theorem dX4_nightNow_69 : decode cX4_nightNow 69 = .ok (.getfield 127, 3) := by decide +kernel
theorem dX4_nightNow_72 : decode cX4_nightNow 72 = .ok (.ireturn, 1) := by decide +kernel
theorem dX4_nightNow_73 : decode cX4_nightNow 73 = .ok (.aload_n 0, 1) := by decide +kernel
theorem dX4_nightNow_74 : decode cX4_nightNow 74 = .ok (.getfield 9, 3) := by decide +kernel
theorem dX4_nightNow_77 : decode cX4_nightNow 77 = .ok (.invokestatic 166, 3) := by decide +kernel
theorem dX4_nightNow_80 : decode cX4_nightNow 80 = .ok (.ireturn, 1) := by decide +kernel
theorem dX4_nightNow_81 : decode cX4_nightNow 81 = .ok (.aload_n 0, 1) := by decide +kernel
theorem dX4_nightNow_82 : decode cX4_nightNow 82 = .ok (.getfield 23, 3) := by decide +kernel
theorem dX4_nightNow_85 : decode cX4_nightNow 85 = .ok (.invokeinterface 107 1, 5) := by decide +kernel
theorem dX4_nightNow_90 : decode cX4_nightNow 90 = .ok (.ireturn, 1) := by decide +kernel
theorem dX4_nightNow_91 : decode cX4_nightNow 91 = .ok (.aload_n 2, 1) := by decide +kernel
theorem dX4_nightNow_92 : decode cX4_nightNow 92 = .ok (.aload_n 0, 1) := by decide +kernel
theorem dX4_nightNow_93 : decode cX4_nightNow 93 = .ok (.getfield 127, 3) := by decide +kernel
theorem dX4_nightNow_96 : decode cX4_nightNow 96 = .ok (.invokestatic 133, 3) := by decide +kernel
theorem dX4_nightNow_99 : decode cX4_nightNow 99 = .ok (.ireturn, 1) := by decide +kernel
theorem dX4_nightNow_100 : decode cX4_nightNow 100 = .ok (.aload_n 2, 1) := by decide +kernel
theorem dX4_nightNow_101 : decode cX4_nightNow 101 = .ok (.astore 4, 2) := by decide +kernel
theorem dX4_nightNow_103 : decode cX4_nightNow 103 = .ok (.aload 4, 2) := by decide +kernel
theorem dX4_nightNow_105 : decode cX4_nightNow 105 = .ok (.arraylength, 1) := by decide +kernel
theorem dX4_nightNow_106 : decode cX4_nightNow 106 = .ok (.istore 5, 2) := by decide +kernel
theorem dX4_nightNow_108 : decode cX4_nightNow 108 = .ok (.iconst 0, 1) := by decide +kernel
theorem dX4_nightNow_109 : decode cX4_nightNow 109 = .ok (.istore 6, 2) := by decide +kernel
theorem dX4_nightNow_111 : decode cX4_nightNow 111 = .ok (.iload 6, 2) := by decide +kernel
theorem dX4_nightNow_113 : decode cX4_nightNow 113 = .ok (.iload 5, 2) := by decide +kernel
theorem dX4_nightNow_115 : decode cX4_nightNow 115 = .ok (.if_icmp .ge 42, 3) := by decide +kernel
theorem dX4_nightNow_118 : decode cX4_nightNow 118 = .ok (.aload 4, 2) := by decide +kernel
theorem dX4_nightNow_120 : decode cX4_nightNow 120 = .ok (.iload 6, 2) := by decide +kernel
theorem dX4_nightNow_122 : decode cX4_nightNow 122 = .ok (.laload, 1) := by decide +kernel
theorem dX4_nightNow_123 : decode cX4_nightNow 123 = .ok (.lstore 7, 2) := by decide +kernel
theorem dX4_nightNow_125 : decode cX4_nightNow 125 = .ok (.iload_n 3, 1) := by decide +kernel
theorem dX4_nightNow_126 : decode cX4_nightNow 126 = .ok (.aload_n 0, 1) := by decide +kernel
theorem dX4_nightNow_127 : decode cX4_nightNow 127 = .ok (.bipush 63, 2) := by decide +kernel
theorem dX4_nightNow_129 : decode cX4_nightNow 129 = .ok (.lload 7, 2) := by decide +kernel
theorem dX4_nightNow_131 : decode cX4_nightNow 131 = .ok (.invokevirtual 90, 3) := by decide +kernel
theorem dX4_nightNow_134 : decode cX4_nightNow 134 = .ok (.aload_n 0, 1) := by decide +kernel
theorem dX4_nightNow_135 : decode cX4_nightNow 135 = .ok (.getfield 127, 3) := by decide +kernel
theorem dX4_nightNow_138 : decode cX4_nightNow 138 = .ok (.invokestatic 58, 3) := by decide +kernel
theorem dX4_nightNow_141 : decode cX4_nightNow 141 = .ok (.ifCond .eq 7, 3) := by decide +kernel
theorem dX4_nightNow_144 : decode cX4_nightNow 144 = .ok (.iconst 1, 1) := by decide +kernel
theorem dX4_nightNow_145 : decode cX4_nightNow 145 = .ok (.goto 4, 3) := by decide +kernel
theorem dX4_nightNow_148 : decode cX4_nightNow 148 = .ok (.iconst 0, 1) := by decide +kernel
theorem dX4_nightNow_149 : decode cX4_nightNow 149 = .ok (.iadd, 1) := by decide +kernel
theorem dX4_nightNow_150 : decode cX4_nightNow 150 = .ok (.istore_n 3, 1) := by decide +kernel
theorem dX4_nightNow_151 : decode cX4_nightNow 151 = .ok (.iinc 6 1, 3) := by decide +kernel
theorem dX4_nightNow_154 : decode cX4_nightNow 154 = .ok (.goto (-43), 3) := by decide +kernel
theorem dX4_nightNow_157 : decode cX4_nightNow 157 = .ok (.iload_n 3, 1) := by decide +kernel
theorem dX4_nightNow_158 : decode cX4_nightNow 158 = .ok (.ireturn, 1) := by decide +kernel
theorem dX4_nightNow_159 : decode cX4_nightNow 159 = .ok (.iconst 1, 1) := by decide +kernel
theorem dX4_nightNow_160 : decode cX4_nightNow 160 = .ok (.istore 4, 2) := by decide +kernel
theorem dX4_nightNow_162 : decode cX4_nightNow 162 = .ok (.iload 4, 2) := by decide +kernel
theorem dX4_nightNow_164 : decode cX4_nightNow 164 = .ok (.bipush 6, 2) := by decide +kernel
theorem dX4_nightNow_166 : decode cX4_nightNow 166 = .ok (.if_icmp .ge 44, 3) := by decide +kernel
theorem dX4_nightNow_169 : decode cX4_nightNow 169 = .ok (.aload_n 0, 1) := by decide +kernel
theorem dX4_nightNow_170 : decode cX4_nightNow 170 = .ok (.iload 4, 2) := by decide +kernel
theorem dX4_nightNow_172 : decode cX4_nightNow 172 = .ok (.aload_n 0, 1) := by decide +kernel
theorem dX4_nightNow_173 : decode cX4_nightNow 173 = .ok (.getfield 127, 3) := by decide +kernel
theorem dX4_nightNow_176 : decode cX4_nightNow 176 = .ok (.invokevirtual 163, 3) := by decide +kernel
theorem dX4_nightNow_179 : decode cX4_nightNow 179 = .ok (.invokestatic 166, 3) := by decide +kernel
theorem dX4_nightNow_182 : decode cX4_nightNow 182 = .ok (.aload_n 0, 1) := by decide +kernel
theorem dX4_nightNow_183 : decode cX4_nightNow 183 = .ok (.iload_n 3, 1) := by decide +kernel
theorem dX4_nightNow_184 : decode cX4_nightNow 184 = .ok (.aload_n 0, 1) := by decide +kernel
theorem dX4_nightNow_185 : decode cX4_nightNow 185 = .ok (.getfield 127, 3) := by decide +kernel
theorem dX4_nightNow_188 : decode cX4_nightNow 188 = .ok (.invokevirtual 163, 3) := by decide +kernel
theorem dX4_nightNow_191 : decode cX4_nightNow 191 = .ok (.invokestatic 166, 3) := by decide +kernel
theorem dX4_nightNow_194 : decode cX4_nightNow 194 = .ok (.if_icmp .ge 8, 3) := by decide +kernel
theorem dX4_nightNow_197 : decode cX4_nightNow 197 = .ok (.iload 4, 2) := by decide +kernel
theorem dX4_nightNow_199 : decode cX4_nightNow 199 = .ok (.goto 4, 3) := by decide +kernel
theorem dX4_nightNow_202 : decode cX4_nightNow 202 = .ok (.iload_n 3, 1) := by decide +kernel
theorem dX4_nightNow_203 : decode cX4_nightNow 203 = .ok (.istore_n 3, 1) := by decide +kernel
theorem dX4_nightNow_204 : decode cX4_nightNow 204 = .ok (.iinc 4 1, 3) := by decide +kernel
theorem dX4_nightNow_207 : decode cX4_nightNow 207 = .ok (.goto (-45), 3) := by decide +kernel
theorem dX4_nightNow_210 : decode cX4_nightNow 210 = .ok (.iload_n 3, 1) := by decide +kernel
theorem dX4_nightNow_211 : decode cX4_nightNow 211 = .ok (.ireturn, 1) := by decide +kernel
theorem dX4_nightNow_212 : decode cX4_nightNow 212 = .ok (.aload_n 0, 1) := by decide +kernel
theorem dX4_nightNow_213 : decode cX4_nightNow 213 = .ok (.getfield 187, 3) := by decide +kernel
theorem dX4_nightNow_216 : decode cX4_nightNow 216 = .ok (.ireturn, 1) := by decide +kernel
theorem dX4_nightNow_217 : decode cX4_nightNow 217 = .ok (.aload_n 0, 1) := by decide +kernel
theorem dX4_nightNow_218 : decode cX4_nightNow 218 = .ok (.getfield 27, 3) := by decide +kernel
theorem dX4_nightNow_221 : decode cX4_nightNow 221 = .ok (.iload_n 1, 1) := by decide +kernel
theorem dX4_nightNow_222 : decode cX4_nightNow 222 = .ok (.iconst 5, 1) := by decide +kernel
theorem dX4_nightNow_223 : decode cX4_nightNow 223 = .ok (.isub, 1) := by decide +kernel
theorem dX4_nightNow_224 : decode cX4_nightNow 224 = .ok (.iaload, 1) := by decide +kernel
theorem dX4_nightNow_225 : decode cX4_nightNow 225 = .ok (.ireturn, 1) := by decide +kernel
def wX4_nightNow_L111 (post : Int32 → Prop) (K157 : Int32 → Int32 → Prop) (mr : Int32) (po : Int64) (DD : Nat → Nat → Int32) (yn : Nat) (yf : Nat → Int64) : Nat → Int32 → Int32 → Prop
  | 0, _, _ => False
  | n+1, i3, i6 =>
    (((nI yn) ≤ i6) →
      K157 i3 i6
    ) ∧ (¬ ((nI yn) ≤ i6) →
      vp_in i6 yn ∧
      wX4_common (fun r_3 : Int64 =>
        wX4_has_ (fun r_4 : Int32 =>
          ((r_4 = 0) →
            wX4_nightNow_L111 post K157 mr po DD yn yf n (i3 + (0 : Int32)) (i6 + 1)
          ) ∧ (¬ (r_4 = 0) →
            wX4_nightNow_L111 post K157 mr po DD yn yf n (i3 + (1 : Int32)) (i6 + 1)
          )
          ) r_3 mr
        ) po DD (63 : Int32) (yf i6.toNatClampNeg)
    )
def wX4_nightNow_L162 (post : Int32 → Prop) (K210 : Int32 → Int32 → Prop) (mr : Int32) (po : Int64) (DD : Nat → Nat → Int32) : Nat → Int32 → Int32 → Prop
  | 0, _, _ => False
  | n+1, i3, i4 =>
    (((6 : Int32) ≤ i4) →
      K210 i3 i4
    ) ∧ (¬ ((6 : Int32) ≤ i4) →
      wX4_alikeNow (fun r_5 : Int64 =>
        wX4_size_ (fun r_6 : Int32 =>
          wX4_alikeNow (fun r_7 : Int64 =>
            wX4_size_ (fun r_8 : Int32 =>
              ((r_8 ≤ r_6) →
                wX4_nightNow_L162 post K210 mr po DD n i3 (i4 + 1)
              ) ∧ (¬ (r_8 ≤ r_6) →
                wX4_nightNow_L162 post K210 mr po DD n i4 (i4 + 1)
              )
              ) r_7
            ) po DD i3 mr
          ) r_5
        ) po DD i4 mr
    )
def wX4_nightNow (post : Int32 → Prop) (mr : Int32) (po : Int64) (mf : Int32) (DD : Nat → Nat → Int32) (ctf : Nat → Int32) (sn : Nat) (yn : Nat) (yf : Nat → Int64) (p1 : Int32) : Prop :=
  (p1 = 0 →
    post mr
  ) ∧ (¬ p1 = 0 →
  (p1 = 1 →
    wX4_size_ (fun r_1 : Int32 =>
      post r_1
      ) po
  ) ∧ (¬ p1 = 1 →
  (p1 = 2 →
    post (nI sn)
  ) ∧ (¬ p1 = 2 →
  (p1 = 3 →
    wX4_trueIn (fun r_2 : Int32 =>
      post r_2
      ) yn yf mr
  ) ∧ (¬ p1 = 3 →
  (p1 = 4 →
    ∃ nF, wX4_nightNow_L111 post
      (fun i3 i6 =>
        post i3
      )
      mr po DD yn yf nF (0 : Int32) (0 : Int32)
  ) ∧ (¬ p1 = 4 →
  (p1 = 5 →
    vp_in (p1 - (5 : Int32)) 6 ∧
    post (ctf (p1 - (5 : Int32)).toNatClampNeg)
  ) ∧ (¬ p1 = 5 →
  (p1 = 6 →
    vp_in (p1 - (5 : Int32)) 6 ∧
    post (ctf (p1 - (5 : Int32)).toNatClampNeg)
  ) ∧ (¬ p1 = 6 →
  (p1 = 7 →
    vp_in (p1 - (5 : Int32)) 6 ∧
    post (ctf (p1 - (5 : Int32)).toNatClampNeg)
  ) ∧ (¬ p1 = 7 →
  (p1 = 8 →
    vp_in (p1 - (5 : Int32)) 6 ∧
    post (ctf (p1 - (5 : Int32)).toNatClampNeg)
  ) ∧ (¬ p1 = 8 →
  (p1 = 9 →
    vp_in (p1 - (5 : Int32)) 6 ∧
    post (ctf (p1 - (5 : Int32)).toNatClampNeg)
  ) ∧ (¬ p1 = 9 →
  (p1 = 10 →
    vp_in (p1 - (5 : Int32)) 6 ∧
    post (ctf (p1 - (5 : Int32)).toNatClampNeg)
  ) ∧ (¬ p1 = 10 →
  (p1 = 11 →
    ∃ nF, wX4_nightNow_L162 post
      (fun i3 i4 =>
        post i3
      )
      mr po DD nF (0 : Int32) (1 : Int32)
  ) ∧ (¬ p1 = 11 →
  (p1 = 12 →
    post mf
  ) ∧ (¬ p1 = 12 →
    vp_in (p1 - (5 : Int32)) 6 ∧
    post (ctf (p1 - (5 : Int32)).toNatClampNeg)
  )))))))))))))
abbrev wl_X4_nightNow : List Cond := .code yX4_nightNow cX4_nightNow 9 (some .int) :: lwg
abbrev rm_X4_nightNow : Room := { frames := 6, cells := 0, slots := 0, locals := 140 }
set_option maxHeartbeats 4000000 in
set_option maxRecDepth 100000 in
theorem kX4_nightNow {post : Int32 → Prop} (l : Launch) (G : GT) (m0 : Nat) (dO : Nat) (sl : Nat) (ct0 : Nat) (st0 : Nat) (fs0 : Nat) (jn0 : Nat) (rw0 : Nat) (fd0 : Nat) (af0 : Nat) (kO : Nat) (dr : Nat → Nat) (kr : Nat → Nat) (sa : Nat → Nat) (y0 : Nat) (th : Int32) (mr : Int32) (po : Int64) (mf : Int32) (sp : Int32) (DD : Nat → Nat → Int32) (ctf : Nat → Int32) (stf : Nat → Int32) (fsf : Nat → Int32) (jnf : Nat → Int32) (rwf : Nat → Int32) (fdf : Nat → Int64) (aff : Nat → Int32) (KP : Nat → Nat → Int32) (sn : Nat) (sq : Nat → Nat → Int32) (yn : Nat) (yf : Nat → Int64) (p1 : Int32) (h : wX4_nightNow post mr po mf DD ctf sn yn yf p1) : Met l yX4_nightNow wl_X4_nightNow rm_X4_nightNow (va_Pc [.ref m0, .int p1, .ref y0] (fun U => PP G [(m0, .inr (7, [.int th, .int mr, .long po, .ref dO, .ref sl, .ref ct0, .int mf, .int sp, .ref st0, .ref fs0, .ref jn0, .ref rw0, .ref fd0, .ref af0, .ref kO])), (dO, .inl (G.2 4, 6, .inr (.inr (.inr (.inr (fun k => if k < 6 then some (dr k) else none)))))), (dr 0, .inl (G.2 0, 64, .inl (DD 0))), (dr 1, .inl (G.2 0, 64, .inl (DD 1))), (dr 2, .inl (G.2 0, 64, .inl (DD 2))), (dr 3, .inl (G.2 0, 64, .inl (DD 3))), (dr 4, .inl (G.2 0, 64, .inl (DD 4))), (dr 5, .inl (G.2 0, 64, .inl (DD 5))), (ct0, .inl (G.2 0, 6, .inl ctf)), (st0, .inl (G.2 0, 4096, .inl stf)), (fs0, .inl (G.2 0, 4096, .inl fsf)), (jn0, .inl (G.2 0, 64, .inl jnf)), (rw0, .inl (G.2 0, 64, .inl rwf)), (fd0, .inl (G.2 1, 40, .inr (.inl fdf))), (af0, .inl (G.2 3, 40, .inl aff)), (kO, .inl (G.2 4, 4, .inr (.inr (.inr (.inr (fun k => if k < 4 then some (kr k) else none)))))), (kr 0, .inl (G.2 0, 64, .inl (KP 0))), (kr 1, .inl (G.2 0, 64, .inl (KP 1))), (kr 2, .inl (G.2 0, 64, .inl (KP 2))), (kr 3, .inl (G.2 0, 64, .inl (KP 3))), (y0, .inl (G.2 1, yn, .inr (.inl yf)))] U.heap ∧ KK G U ∧ SS G sl sn sa sq (fun _ => False) U U.heap)) (vp_Si post) 0 0 (fun _ => False) := by
  refine Met.ofW (cc := cX4_nightNow) (maxL := 9) (ret := (some .int)) (by decide) rfl ?_
  intro p e s m args below meth c s₁ B hml hv
  obtain ⟨rfl, hP, hKK, hSS⟩ := hv
  obtain ⟨hK, hN, hR, hFW, hNC⟩ := id hKK
  have hx := B.exec
  have hb := B.bytes
  have hr := B.returns
  have hts0 := atoms_spec (ws := wl_X4_nightNow) B.pre
  have hts : ∀ w ∈ lwg, w.before ([.ref m0, .int p1, .ref y0] : List Value).toArray s = true := fun w hw => hts0 w (List.mem_cons_of_mem _ hw)
  have hown : s.vm.findClass RX4 = some m.cls := findClass_of_methodNamed B.named
  have hlocks := B.notSynchronized
  have hS : va_S (fun _ => False) s.heap s.heap [] := va_S.rf
  have hP : PP G [(m0, .inr (7, [.int th, .int mr, .long po, .ref dO, .ref sl, .ref ct0, .int mf, .int sp, .ref st0, .ref fs0, .ref jn0, .ref rw0, .ref fd0, .ref af0, .ref kO])), (dO, .inl (G.2 4, 6, .inr (.inr (.inr (.inr (fun k => if k < 6 then some (dr k) else none)))))), (dr 0, .inl (G.2 0, 64, .inl (DD 0))), (dr 1, .inl (G.2 0, 64, .inl (DD 1))), (dr 2, .inl (G.2 0, 64, .inl (DD 2))), (dr 3, .inl (G.2 0, 64, .inl (DD 3))), (dr 4, .inl (G.2 0, 64, .inl (DD 4))), (dr 5, .inl (G.2 0, 64, .inl (DD 5))), (ct0, .inl (G.2 0, 6, .inl ctf)), (st0, .inl (G.2 0, 4096, .inl stf)), (fs0, .inl (G.2 0, 4096, .inl fsf)), (jn0, .inl (G.2 0, 64, .inl jnf)), (rw0, .inl (G.2 0, 64, .inl rwf)), (fd0, .inl (G.2 1, 40, .inr (.inl fdf))), (af0, .inl (G.2 3, 40, .inl aff)), (kO, .inl (G.2 4, 4, .inr (.inr (.inr (.inr (fun k => if k < 4 then some (kr k) else none)))))), (kr 0, .inl (G.2 0, 64, .inl (KP 0))), (kr 1, .inl (G.2 0, 64, .inl (KP 1))), (kr 2, .inl (G.2 0, 64, .inl (KP 2))), (kr 3, .inl (G.2 0, 64, .inl (KP 3))), (y0, .inl (G.2 1, yn, .inr (.inl yf)))] s.heap := hP
  have hl := lv_entry ([.ref m0, .int p1, .ref y0]) (n := 9) (Nat.le_of_ble_eq_true rfl)
  rw [lg_entry_eq]
  generalize (lg_sl ([.ref m0, .int p1, .ref y0]) ++ List.replicate (9 - (lg_sl ([.ref m0, .int p1, .ref y0])).length) Slot.unset).toArray = ls at hl ⊢
  have hl : lv_has ls 9 [(0, .ref m0), (1, .int p1), (2, .ref y0)] := hl
  have loop111 : ∀ (K157 : Int32 → Int32 → Prop), True → (∀ (i3 : Int32) (i6 : Int32) (ls : Array Slot), lv_has ls 9 [(0, .ref m0), (1, .int p1), (2, .ref y0), (3, .int i3), (4, .ref y0), (5, .int (nI yn)), (6, .int i6)] → K157 i3 i6 → W p l e (headSpec (wl_X4_nightNow) rm_X4_nightNow).room s m ([.ref m0, .int p1, .ref y0] : List Value).toArray below meth c s.heap [] 0 0 (MQ below (vp_Si post) ([.ref m0, .int p1, .ref y0] : List Value).toArray s 0 0 (fun _ => False)) (F0 m 157 ls [])) → ∀ (n : Nat) (i3 : Int32) (i6 : Int32) (ls : Array Slot), lv_has ls 9 [(0, .ref m0), (1, .int p1), (2, .ref y0), (3, .int i3), (4, .ref y0), (5, .int (nI yn)), (6, .int i6)] → wX4_nightNow_L111 post K157 mr po DD yn yf n i3 i6 → W p l e (headSpec (wl_X4_nightNow) rm_X4_nightNow).room s m ([.ref m0, .int p1, .ref y0] : List Value).toArray below meth c s.heap [] 0 0 (MQ below (vp_Si post) ([.ref m0, .int p1, .ref y0] : List Value).toArray s 0 0 (fun _ => False)) (F0 m 111 ls []) := by
    intro K157 _ hexit157 n
    induction n with
    | zero => intro i3 i6 ls hl h; exact False.elim h
    | succ n ih =>
      intro i3 i6 ls hl h
      refine lv_iload hx hb dX4_nightNow_111 (lv_at hl 6 rfl) ?_
      refine lv_iload hx hb dX4_nightNow_113 (lv_at hl 5 rfl) ?_
      refine lv_icmp_ge (tgt := 157) hx hb dX4_nightNow_115 (by decide) (fun hc => ?_) (fun hc => ?_)
      · have h := h.1 hc
        have hl := lv_sub (l' := [(0, .ref m0), (1, .int p1), (2, .ref y0), (3, .int i3), (4, .ref y0), (5, .int (nI yn)), (6, .int i6)]) hl [0, 1, 2, 3, 4, 5, 6] rfl
        exact hexit157 _ _ ls hl h
      · have h := h.2 hc
        refine lv_aload hx hb dX4_nightNow_118 (lv_at hl 4 rfl) ?_
        refine lv_iload hx hb dX4_nightNow_120 (lv_at hl 6 rfl) ?_
        obtain ⟨hin, h⟩ := h
        refine va_lald (D := G.1) hx hb hK hP 20 1 rfl rfl hin dX4_nightNow_122 ?_
        refine lv_lstore hx hb dX4_nightNow_123 hl (Nat.le_of_ble_eq_true rfl) rfl (fun ls hl => ?_)
        have hl : lv_has ls 9 [(7, .long (yf i6.toNatClampNeg)), (0, .ref m0), (1, .int p1), (2, .ref y0), (3, .int i3), (4, .ref y0), (5, .int (nI yn)), (6, .int i6)] := hl
        refine lv_iload_n hx hb dX4_nightNow_125 rfl (lv_at hl 4 rfl) ?_
        refine lv_aload_n hx hb dX4_nightNow_126 rfl (lv_at hl 1 rfl) ?_
        refine lv_bipush (v := 63) hx hb dX4_nightNow_127 (by decide) ?_
        refine lv_lload hx hb dX4_nightNow_129 (lv_at hl 0 rfl) ?_
        have hPc := va_P.sub (ws' := [(m0, .inr (7, [.int th, .int mr, .long po, .ref dO, .ref sl, .ref ct0, .int mf, .int sp, .ref st0, .ref fs0, .ref jn0, .ref rw0, .ref fd0, .ref af0, .ref kO])), (dO, .inl (G.2 4, 6, .inr (.inr (.inr (.inr (fun k => if k < 6 then some (dr k) else none)))))), (dr 0, .inl (G.2 0, 64, .inl (DD 0))), (dr 1, .inl (G.2 0, 64, .inl (DD 1))), (dr 2, .inl (G.2 0, 64, .inl (DD 2))), (dr 3, .inl (G.2 0, 64, .inl (DD 3))), (dr 4, .inl (G.2 0, 64, .inl (DD 4))), (dr 5, .inl (G.2 0, 64, .inl (DD 5))), (ct0, .inl (G.2 0, 6, .inl ctf)), (st0, .inl (G.2 0, 4096, .inl stf)), (fs0, .inl (G.2 0, 4096, .inl fsf)), (jn0, .inl (G.2 0, 64, .inl jnf)), (rw0, .inl (G.2 0, 64, .inl rwf)), (fd0, .inl (G.2 1, 40, .inr (.inl fdf))), (af0, .inl (G.2 3, 40, .inl aff)), (kO, .inl (G.2 4, 4, .inr (.inr (.inr (.inr (fun k => if k < 4 then some (kr k) else none)))))), (kr 0, .inl (G.2 0, 64, .inl (KP 0))), (kr 1, .inl (G.2 0, 64, .inl (KP 1))), (kr 2, .inl (G.2 0, 64, .inl (KP 2))), (kr 3, .inl (G.2 0, 64, .inl (KP 3)))]) hP [0, 1, 2, 3, 4, 5, 6, 7, 8, 9, 10, 11, 12, 13, 14, 15, 16, 17, 18, 19] rfl
        refine rdL (va_runV (C := RX4) (As := [.int (63 : Int32), .long (yf i6.toNatClampNeg)]) (rest := [.int i3]) ⟨hx, hb, hml, hown, hts⟩ (kX4_common l G m0 dO sl ct0 st0 fs0 jn0 rw0 fd0 af0 kO dr kr sa th mr po mf sp DD ctf stf fsf jnf rwf fdf aff KP sn sq (63 : Int32) (yf i6.toNatClampNeg) h) (cwV 2 hts (gdV q1129 q1131 qs17 q6 q1132) rfl rfl rfl (by decide +kernel) ⟨Nat.le_of_ble_eq_true rfl, Nat.le_of_ble_eq_true rfl⟩) (preV hPc hKK (va_recv hK hPc (ci := 7) (q0 := 0) rfl rfl)) rfl rfl hl.1 rfl (lv_room (Nat.le_of_ble_eq_true rfl)) dX4_nightNow_131 ⟨Nat.zero_le _, Nat.zero_le _⟩) (fun r_3 h => ?_)
        refine lv_aload_n hx hb dX4_nightNow_134 rfl (lv_at hl 1 rfl) ?_
        refine va_get (D := G.1) (ci := 7) (v := .int mr) (C := RX4) (T := TX4) (N := 15) hx hb hts igX4 hown hK hP 0 rfl rfl 1 (by decide) (hts _ q1006) (fun _ h9 => h9) rfl dX4_nightNow_135 ?_
        have hPc := va_P.sub (ws' := []) hP [] rfl
        refine rdI (va_runS (As := [.long r_3, .int mr]) (rest := [.int i3]) ⟨hx, hb, hml, hown, hts⟩ (kX4_has_ l G r_3 mr h) (va_cwS 2 hts (gdS q1122 q1123 q6 q1124) rfl rfl rfl (by decide +kernel) ⟨Nat.le_of_ble_eq_true rfl, Nat.le_of_ble_eq_true rfl⟩) (preS hPc hKK) rfl rfl hl.1 rfl (lv_room (Nat.le_of_ble_eq_true rfl)) dX4_nightNow_138 ⟨Nat.zero_le _, Nat.zero_le _⟩) (fun r_4 h => ?_)
        refine lv_if_eq (tgt := 148) hx hb dX4_nightNow_141 (by decide) (fun hc => ?_) (fun hc => ?_)
        · have h := h.1 hc
          refine lv_iconst (v := 0) hx hb dX4_nightNow_148 (by decide) ?_
          refine lv_iadd hx hb dX4_nightNow_149 ?_
          refine lv_istore_n hx hb dX4_nightNow_150 rfl hl (Nat.le_of_ble_eq_true rfl) rfl (fun ls hl => ?_)
          have hl : lv_has ls 9 [(3, .int (i3 + (0 : Int32))), (7, .long (yf i6.toNatClampNeg)), (0, .ref m0), (1, .int p1), (2, .ref y0), (4, .ref y0), (5, .int (nI yn)), (6, .int i6)] := hl
          refine lv_iinc (v := (i6 + 1)) hx hb dX4_nightNow_151 hl (k := 7) rfl (by rw [show Int32.ofInt 1 = 1 from by decide]) (Nat.le_of_ble_eq_true rfl) rfl (fun ls hl => ?_)
          have hl : lv_has ls 9 [(6, .int (i6 + 1)), (3, .int (i3 + (0 : Int32))), (7, .long (yf i6.toNatClampNeg)), (0, .ref m0), (1, .int p1), (2, .ref y0), (4, .ref y0), (5, .int (nI yn))] := hl
          refine lv_goto (tgt := 111) hx hb dX4_nightNow_154 (by decide) ?_
          have hl := lv_sub (l' := [(0, .ref m0), (1, .int p1), (2, .ref y0), (3, .int (i3 + (0 : Int32))), (4, .ref y0), (5, .int (nI yn)), (6, .int (i6 + 1))]) hl [3, 4, 5, 1, 6, 7, 0] rfl
          exact ih _ _ ls hl h
        · have h := h.2 hc
          refine lv_iconst (v := 1) hx hb dX4_nightNow_144 (by decide) ?_
          refine lv_goto (tgt := 149) hx hb dX4_nightNow_145 (by decide) ?_
          refine lv_iadd hx hb dX4_nightNow_149 ?_
          refine lv_istore_n hx hb dX4_nightNow_150 rfl hl (Nat.le_of_ble_eq_true rfl) rfl (fun ls hl => ?_)
          have hl : lv_has ls 9 [(3, .int (i3 + (1 : Int32))), (7, .long (yf i6.toNatClampNeg)), (0, .ref m0), (1, .int p1), (2, .ref y0), (4, .ref y0), (5, .int (nI yn)), (6, .int i6)] := hl
          refine lv_iinc (v := (i6 + 1)) hx hb dX4_nightNow_151 hl (k := 7) rfl (by rw [show Int32.ofInt 1 = 1 from by decide]) (Nat.le_of_ble_eq_true rfl) rfl (fun ls hl => ?_)
          have hl : lv_has ls 9 [(6, .int (i6 + 1)), (3, .int (i3 + (1 : Int32))), (7, .long (yf i6.toNatClampNeg)), (0, .ref m0), (1, .int p1), (2, .ref y0), (4, .ref y0), (5, .int (nI yn))] := hl
          refine lv_goto (tgt := 111) hx hb dX4_nightNow_154 (by decide) ?_
          have hl := lv_sub (l' := [(0, .ref m0), (1, .int p1), (2, .ref y0), (3, .int (i3 + (1 : Int32))), (4, .ref y0), (5, .int (nI yn)), (6, .int (i6 + 1))]) hl [3, 4, 5, 1, 6, 7, 0] rfl
          exact ih _ _ ls hl h
  have loop162 : ∀ (K210 : Int32 → Int32 → Prop), True → (∀ (i3 : Int32) (i4 : Int32) (ls : Array Slot), lv_has ls 9 [(0, .ref m0), (1, .int p1), (2, .ref y0), (3, .int i3), (4, .int i4)] → K210 i3 i4 → W p l e (headSpec (wl_X4_nightNow) rm_X4_nightNow).room s m ([.ref m0, .int p1, .ref y0] : List Value).toArray below meth c s.heap [] 0 0 (MQ below (vp_Si post) ([.ref m0, .int p1, .ref y0] : List Value).toArray s 0 0 (fun _ => False)) (F0 m 210 ls [])) → ∀ (n : Nat) (i3 : Int32) (i4 : Int32) (ls : Array Slot), lv_has ls 9 [(0, .ref m0), (1, .int p1), (2, .ref y0), (3, .int i3), (4, .int i4)] → wX4_nightNow_L162 post K210 mr po DD n i3 i4 → W p l e (headSpec (wl_X4_nightNow) rm_X4_nightNow).room s m ([.ref m0, .int p1, .ref y0] : List Value).toArray below meth c s.heap [] 0 0 (MQ below (vp_Si post) ([.ref m0, .int p1, .ref y0] : List Value).toArray s 0 0 (fun _ => False)) (F0 m 162 ls []) := by
    intro K210 _ hexit210 n
    induction n with
    | zero => intro i3 i4 ls hl h; exact False.elim h
    | succ n ih =>
      intro i3 i4 ls hl h
      refine lv_iload hx hb dX4_nightNow_162 (lv_at hl 4 rfl) ?_
      refine lv_bipush (v := 6) hx hb dX4_nightNow_164 (by decide) ?_
      refine lv_icmp_ge (tgt := 210) hx hb dX4_nightNow_166 (by decide) (fun hc => ?_) (fun hc => ?_)
      · have h := h.1 hc
        have hl := lv_sub (l' := [(0, .ref m0), (1, .int p1), (2, .ref y0), (3, .int i3), (4, .int i4)]) hl [0, 1, 2, 3, 4] rfl
        exact hexit210 _ _ ls hl h
      · have h := h.2 hc
        refine lv_aload_n hx hb dX4_nightNow_169 rfl (lv_at hl 0 rfl) ?_
        refine lv_iload hx hb dX4_nightNow_170 (lv_at hl 4 rfl) ?_
        refine lv_aload_n hx hb dX4_nightNow_172 rfl (lv_at hl 0 rfl) ?_
        refine va_get (D := G.1) (ci := 7) (v := .int mr) (C := RX4) (T := TX4) (N := 15) hx hb hts igX4 hown hK hP 0 rfl rfl 1 (by decide) (hts _ q1006) (fun _ h9 => h9) rfl dX4_nightNow_173 ?_
        have hPc := va_P.sub (ws' := [(m0, .inr (7, [.int th, .int mr, .long po, .ref dO, .ref sl, .ref ct0, .int mf, .int sp, .ref st0, .ref fs0, .ref jn0, .ref rw0, .ref fd0, .ref af0, .ref kO])), (dO, .inl (G.2 4, 6, .inr (.inr (.inr (.inr (fun k => if k < 6 then some (dr k) else none)))))), (dr 0, .inl (G.2 0, 64, .inl (DD 0))), (dr 1, .inl (G.2 0, 64, .inl (DD 1))), (dr 2, .inl (G.2 0, 64, .inl (DD 2))), (dr 3, .inl (G.2 0, 64, .inl (DD 3))), (dr 4, .inl (G.2 0, 64, .inl (DD 4))), (dr 5, .inl (G.2 0, 64, .inl (DD 5))), (ct0, .inl (G.2 0, 6, .inl ctf)), (st0, .inl (G.2 0, 4096, .inl stf)), (fs0, .inl (G.2 0, 4096, .inl fsf)), (jn0, .inl (G.2 0, 64, .inl jnf)), (rw0, .inl (G.2 0, 64, .inl rwf)), (fd0, .inl (G.2 1, 40, .inr (.inl fdf))), (af0, .inl (G.2 3, 40, .inl aff)), (kO, .inl (G.2 4, 4, .inr (.inr (.inr (.inr (fun k => if k < 4 then some (kr k) else none)))))), (kr 0, .inl (G.2 0, 64, .inl (KP 0))), (kr 1, .inl (G.2 0, 64, .inl (KP 1))), (kr 2, .inl (G.2 0, 64, .inl (KP 2))), (kr 3, .inl (G.2 0, 64, .inl (KP 3)))]) hP [0, 1, 2, 3, 4, 5, 6, 7, 8, 9, 10, 11, 12, 13, 14, 15, 16, 17, 18, 19] rfl
        refine rdL (va_runV (C := RX4) (As := [.int i4, .int mr]) (rest := []) ⟨hx, hb, hml, hown, hts⟩ (kX4_alikeNow l G m0 dO sl ct0 st0 fs0 jn0 rw0 fd0 af0 kO dr kr sa th mr po mf sp DD ctf stf fsf jnf rwf fdf aff KP sn sq i4 mr h) (cwV 2 hts (gdV q1219 q1221 qs26 q6 q1222) rfl rfl rfl (by decide +kernel) ⟨Nat.le_of_ble_eq_true rfl, Nat.le_of_ble_eq_true rfl⟩) (preV hPc hKK (va_recv hK hPc (ci := 7) (q0 := 0) rfl rfl)) rfl rfl hl.1 rfl (lv_room (Nat.le_of_ble_eq_true rfl)) dX4_nightNow_176 ⟨Nat.zero_le _, Nat.zero_le _⟩) (fun r_5 h => ?_)
        have hPc := va_P.sub (ws' := []) hP [] rfl
        refine rdI (va_runS (As := [.long r_5]) (rest := []) ⟨hx, hb, hml, hown, hts⟩ (kX4_size_ l G r_5 h) (va_cwS 1 hts (gdS q1227 q1228 q6 q1229) rfl rfl rfl (by decide +kernel) ⟨Nat.le_of_ble_eq_true rfl, Nat.le_of_ble_eq_true rfl⟩) (preS hPc hKK) rfl rfl hl.1 rfl (lv_room (Nat.le_of_ble_eq_true rfl)) dX4_nightNow_179 ⟨Nat.zero_le _, Nat.zero_le _⟩) (fun r_6 h => ?_)
        refine lv_aload_n hx hb dX4_nightNow_182 rfl (lv_at hl 0 rfl) ?_
        refine lv_iload_n hx hb dX4_nightNow_183 rfl (lv_at hl 3 rfl) ?_
        refine lv_aload_n hx hb dX4_nightNow_184 rfl (lv_at hl 0 rfl) ?_
        refine va_get (D := G.1) (ci := 7) (v := .int mr) (C := RX4) (T := TX4) (N := 15) hx hb hts igX4 hown hK hP 0 rfl rfl 1 (by decide) (hts _ q1006) (fun _ h9 => h9) rfl dX4_nightNow_185 ?_
        have hPc := va_P.sub (ws' := [(m0, .inr (7, [.int th, .int mr, .long po, .ref dO, .ref sl, .ref ct0, .int mf, .int sp, .ref st0, .ref fs0, .ref jn0, .ref rw0, .ref fd0, .ref af0, .ref kO])), (dO, .inl (G.2 4, 6, .inr (.inr (.inr (.inr (fun k => if k < 6 then some (dr k) else none)))))), (dr 0, .inl (G.2 0, 64, .inl (DD 0))), (dr 1, .inl (G.2 0, 64, .inl (DD 1))), (dr 2, .inl (G.2 0, 64, .inl (DD 2))), (dr 3, .inl (G.2 0, 64, .inl (DD 3))), (dr 4, .inl (G.2 0, 64, .inl (DD 4))), (dr 5, .inl (G.2 0, 64, .inl (DD 5))), (ct0, .inl (G.2 0, 6, .inl ctf)), (st0, .inl (G.2 0, 4096, .inl stf)), (fs0, .inl (G.2 0, 4096, .inl fsf)), (jn0, .inl (G.2 0, 64, .inl jnf)), (rw0, .inl (G.2 0, 64, .inl rwf)), (fd0, .inl (G.2 1, 40, .inr (.inl fdf))), (af0, .inl (G.2 3, 40, .inl aff)), (kO, .inl (G.2 4, 4, .inr (.inr (.inr (.inr (fun k => if k < 4 then some (kr k) else none)))))), (kr 0, .inl (G.2 0, 64, .inl (KP 0))), (kr 1, .inl (G.2 0, 64, .inl (KP 1))), (kr 2, .inl (G.2 0, 64, .inl (KP 2))), (kr 3, .inl (G.2 0, 64, .inl (KP 3)))]) hP [0, 1, 2, 3, 4, 5, 6, 7, 8, 9, 10, 11, 12, 13, 14, 15, 16, 17, 18, 19] rfl
        refine rdL (va_runV (C := RX4) (As := [.int i3, .int mr]) (rest := [.int r_6]) ⟨hx, hb, hml, hown, hts⟩ (kX4_alikeNow l G m0 dO sl ct0 st0 fs0 jn0 rw0 fd0 af0 kO dr kr sa th mr po mf sp DD ctf stf fsf jnf rwf fdf aff KP sn sq i3 mr h) (cwV 2 hts (gdV q1219 q1221 qs26 q6 q1222) rfl rfl rfl (by decide +kernel) ⟨Nat.le_of_ble_eq_true rfl, Nat.le_of_ble_eq_true rfl⟩) (preV hPc hKK (va_recv hK hPc (ci := 7) (q0 := 0) rfl rfl)) rfl rfl hl.1 rfl (lv_room (Nat.le_of_ble_eq_true rfl)) dX4_nightNow_188 ⟨Nat.zero_le _, Nat.zero_le _⟩) (fun r_7 h => ?_)
        have hPc := va_P.sub (ws' := []) hP [] rfl
        refine rdI (va_runS (As := [.long r_7]) (rest := [.int r_6]) ⟨hx, hb, hml, hown, hts⟩ (kX4_size_ l G r_7 h) (va_cwS 1 hts (gdS q1227 q1228 q6 q1229) rfl rfl rfl (by decide +kernel) ⟨Nat.le_of_ble_eq_true rfl, Nat.le_of_ble_eq_true rfl⟩) (preS hPc hKK) rfl rfl hl.1 rfl (lv_room (Nat.le_of_ble_eq_true rfl)) dX4_nightNow_191 ⟨Nat.zero_le _, Nat.zero_le _⟩) (fun r_8 h => ?_)
        refine lv_icmp_ge (tgt := 202) hx hb dX4_nightNow_194 (by decide) (fun hc => ?_) (fun hc => ?_)
        · have h := h.1 hc
          refine lv_iload_n hx hb dX4_nightNow_202 rfl (lv_at hl 3 rfl) ?_
          refine lv_istore_n hx hb dX4_nightNow_203 rfl hl (Nat.le_of_ble_eq_true rfl) rfl (fun ls hl => ?_)
          have hl : lv_has ls 9 [(3, .int i3), (0, .ref m0), (1, .int p1), (2, .ref y0), (4, .int i4)] := hl
          refine lv_iinc (v := (i4 + 1)) hx hb dX4_nightNow_204 hl (k := 4) rfl (by rw [show Int32.ofInt 1 = 1 from by decide]) (Nat.le_of_ble_eq_true rfl) rfl (fun ls hl => ?_)
          have hl : lv_has ls 9 [(4, .int (i4 + 1)), (3, .int i3), (0, .ref m0), (1, .int p1), (2, .ref y0)] := hl
          refine lv_goto (tgt := 162) hx hb dX4_nightNow_207 (by decide) ?_
          have hl := lv_sub (l' := [(0, .ref m0), (1, .int p1), (2, .ref y0), (3, .int i3), (4, .int (i4 + 1))]) hl [2, 3, 4, 1, 0] rfl
          exact ih _ _ ls hl h
        · have h := h.2 hc
          refine lv_iload hx hb dX4_nightNow_197 (lv_at hl 4 rfl) ?_
          refine lv_goto (tgt := 203) hx hb dX4_nightNow_199 (by decide) ?_
          refine lv_istore_n hx hb dX4_nightNow_203 rfl hl (Nat.le_of_ble_eq_true rfl) rfl (fun ls hl => ?_)
          have hl : lv_has ls 9 [(3, .int i4), (0, .ref m0), (1, .int p1), (2, .ref y0), (4, .int i4)] := hl
          refine lv_iinc (v := (i4 + 1)) hx hb dX4_nightNow_204 hl (k := 4) rfl (by rw [show Int32.ofInt 1 = 1 from by decide]) (Nat.le_of_ble_eq_true rfl) rfl (fun ls hl => ?_)
          have hl : lv_has ls 9 [(4, .int (i4 + 1)), (3, .int i4), (0, .ref m0), (1, .int p1), (2, .ref y0)] := hl
          refine lv_goto (tgt := 162) hx hb dX4_nightNow_207 (by decide) ?_
          have hl := lv_sub (l' := [(0, .ref m0), (1, .int p1), (2, .ref y0), (3, .int i4), (4, .int (i4 + 1))]) hl [2, 3, 4, 1, 0] rfl
          exact ih _ _ ls hl h
  refine lv_iconst (v := 0) hx hb dX4_nightNow_0 (by decide) ?_
  refine lv_istore_n hx hb dX4_nightNow_1 rfl hl (Nat.le_of_ble_eq_true rfl) rfl (fun ls hl => ?_)
  have hl : lv_has ls 9 [(3, .int (0 : Int32)), (0, .ref m0), (1, .int p1), (2, .ref y0)] := hl
  refine lv_iload_n hx hb dX4_nightNow_2 rfl (lv_at hl 2 rfl) ?_
  by_cases hc0 : p1 = 0
  · have h := h.1 hc0
    refine lv_tableIn (tgt := 68) hx hb dX4_nightNow_3 (by rw [hc0]; decide) (by rw [hc0]; decide) (by rw [hc0]; rfl) (by decide) ?_
    refine lv_aload_n hx hb dX4_nightNow_68 rfl (lv_at hl 1 rfl) ?_
    refine va_get (D := G.1) (ci := 7) (v := .int mr) (C := RX4) (T := TX4) (N := 15) hx hb hts igX4 hown hK hP 0 rfl rfl 1 (by decide) (hts _ q1006) (fun _ h9 => h9) rfl dX4_nightNow_69 ?_
    exact W.iret (v := mr) hx hb hr (fun t ht _ => ⟨_, rfl, h, ht⟩) (fun _ hq => absurd hq List.not_mem_nil) dX4_nightNow_72
  have h := h.2 hc0
  by_cases hc1 : p1 = 1
  · have h := h.1 hc1
    refine lv_tableIn (tgt := 73) hx hb dX4_nightNow_3 (by rw [hc1]; decide) (by rw [hc1]; decide) (by rw [hc1]; rfl) (by decide) ?_
    refine lv_aload_n hx hb dX4_nightNow_73 rfl (lv_at hl 1 rfl) ?_
    refine va_get (D := G.1) (ci := 7) (v := .long po) (C := RX4) (T := TX4) (N := 15) hx hb hts igX4 hown hK hP 0 rfl rfl 2 (by decide) (hts _ q1007) (fun _ h9 => h9) rfl dX4_nightNow_74 ?_
    have hPc := va_P.sub (ws' := []) hP [] rfl
    refine rdI (va_runS (As := [.long po]) (rest := []) ⟨hx, hb, hml, hown, hts⟩ (kX4_size_ l G po h) (va_cwS 1 hts (gdS q1227 q1228 q6 q1229) rfl rfl rfl (by decide +kernel) ⟨Nat.le_of_ble_eq_true rfl, Nat.le_of_ble_eq_true rfl⟩) (preS hPc hKK) rfl rfl hl.1 rfl (lv_room (Nat.le_of_ble_eq_true rfl)) dX4_nightNow_77 ⟨Nat.zero_le _, Nat.zero_le _⟩) (fun r_1 h => ?_)
    exact W.iret (v := r_1) hx hb hr (fun t ht _ => ⟨_, rfl, h, ht⟩) (fun _ hq => absurd hq List.not_mem_nil) dX4_nightNow_80
  have h := h.2 hc1
  by_cases hc2 : p1 = 2
  · have h := h.1 hc2
    refine lv_tableIn (tgt := 81) hx hb dX4_nightNow_3 (by rw [hc2]; decide) (by rw [hc2]; decide) (by rw [hc2]; rfl) (by decide) ?_
    refine lv_aload_n hx hb dX4_nightNow_81 rfl (lv_at hl 1 rfl) ?_
    refine va_get (D := G.1) (ci := 7) (v := .ref sl) (C := RX4) (T := TX4) (N := 15) hx hb hts igX4 hown hK hP 0 rfl rfl 4 (by decide) (hts _ q1009) (fun _ h9 => h9) rfl dX4_nightNow_82 ?_
    refine listSize (rest := []) hSS hS.2.1 ⟨hx, hb, hml, hown, hts⟩ hKK hK q1072 hl.1 (lv_room (Nat.le_of_ble_eq_true rfl)) (Nat.le_of_ble_eq_true rfl) (Nat.le_of_ble_eq_true rfl) dX4_nightNow_85 ?_
    exact W.iret (v := (nI sn)) hx hb hr (fun t ht _ => ⟨_, rfl, h, ht⟩) (fun _ hq => absurd hq List.not_mem_nil) dX4_nightNow_90
  have h := h.2 hc2
  by_cases hc3 : p1 = 3
  · have h := h.1 hc3
    refine lv_tableIn (tgt := 91) hx hb dX4_nightNow_3 (by rw [hc3]; decide) (by rw [hc3]; decide) (by rw [hc3]; rfl) (by decide) ?_
    refine lv_aload_n hx hb dX4_nightNow_91 rfl (lv_at hl 3 rfl) ?_
    refine lv_aload_n hx hb dX4_nightNow_92 rfl (lv_at hl 1 rfl) ?_
    refine va_get (D := G.1) (ci := 7) (v := .int mr) (C := RX4) (T := TX4) (N := 15) hx hb hts igX4 hown hK hP 0 rfl rfl 1 (by decide) (hts _ q1006) (fun _ h9 => h9) rfl dX4_nightNow_93 ?_
    have hPc := va_P.sub (ws' := [(y0, .inl (G.2 1, yn, .inr (.inl yf)))]) hP [20] rfl
    refine rdI (va_runS (As := [.ref y0, .int mr]) (rest := []) ⟨hx, hb, hml, hown, hts⟩ (kX4_trueIn l G y0 yn yf mr h) (va_cwS 2 hts (gdS q1141 q1142 q6 q1143) rfl rfl rfl (by decide +kernel) ⟨Nat.le_of_ble_eq_true rfl, Nat.le_of_ble_eq_true rfl⟩) (preS hPc hKK) rfl rfl hl.1 rfl (lv_room (Nat.le_of_ble_eq_true rfl)) dX4_nightNow_96 ⟨Nat.zero_le _, Nat.zero_le _⟩) (fun r_2 h => ?_)
    exact W.iret (v := r_2) hx hb hr (fun t ht _ => ⟨_, rfl, h, ht⟩) (fun _ hq => absurd hq List.not_mem_nil) dX4_nightNow_99
  have h := h.2 hc3
  by_cases hc4 : p1 = 4
  · have h := h.1 hc4
    refine lv_tableIn (tgt := 100) hx hb dX4_nightNow_3 (by rw [hc4]; decide) (by rw [hc4]; decide) (by rw [hc4]; rfl) (by decide) ?_
    refine lv_aload_n hx hb dX4_nightNow_100 rfl (lv_at hl 3 rfl) ?_
    refine lv_astore hx hb dX4_nightNow_101 hl (Nat.le_of_ble_eq_true rfl) rfl (fun ls hl => ?_)
    have hl : lv_has ls 9 [(4, .ref y0), (3, .int (0 : Int32)), (0, .ref m0), (1, .int p1), (2, .ref y0)] := hl
    refine lv_aload hx hb dX4_nightNow_103 (lv_at hl 0 rfl) ?_
    refine va_alen (D := G.1) (v := (nI yn)) hx hb hK hP 20 1 rfl rfl rfl dX4_nightNow_105 ?_
    refine lv_istore hx hb dX4_nightNow_106 hl (Nat.le_of_ble_eq_true rfl) rfl (fun ls hl => ?_)
    have hl : lv_has ls 9 [(5, .int (nI yn)), (4, .ref y0), (3, .int (0 : Int32)), (0, .ref m0), (1, .int p1), (2, .ref y0)] := hl
    refine lv_iconst (v := 0) hx hb dX4_nightNow_108 (by decide) ?_
    refine lv_istore hx hb dX4_nightNow_109 hl (Nat.le_of_ble_eq_true rfl) rfl (fun ls hl => ?_)
    have hl : lv_has ls 9 [(6, .int (0 : Int32)), (5, .int (nI yn)), (4, .ref y0), (3, .int (0 : Int32)), (0, .ref m0), (1, .int p1), (2, .ref y0)] := hl
    have hl := lv_sub (l' := [(0, .ref m0), (1, .int p1), (2, .ref y0), (3, .int (0 : Int32)), (4, .ref y0), (5, .int (nI yn)), (6, .int (0 : Int32))]) hl [4, 5, 6, 3, 2, 1, 0] rfl
    obtain ⟨nF, h⟩ := h
    refine loop111 _ trivial ?_ nF (0 : Int32) (0 : Int32) _ hl h
    · intro i3 i6 ls hl h
      refine lv_iload_n hx hb dX4_nightNow_157 rfl (lv_at hl 3 rfl) ?_
      exact W.iret (v := i3) hx hb hr (fun t ht _ => ⟨_, rfl, h, ht⟩) (fun _ hq => absurd hq List.not_mem_nil) dX4_nightNow_158
  have h := h.2 hc4
  by_cases hc5 : p1 = 5
  · have h := h.1 hc5
    refine lv_tableIn (tgt := 217) hx hb dX4_nightNow_3 (by rw [hc5]; decide) (by rw [hc5]; decide) (by rw [hc5]; rfl) (by decide) ?_
    refine lv_aload_n hx hb dX4_nightNow_217 rfl (lv_at hl 1 rfl) ?_
    refine va_get (D := G.1) (ci := 7) (v := .ref ct0) (C := RX4) (T := TX4) (N := 15) hx hb hts igX4 hown hK hP 0 rfl rfl 5 (by decide) (hts _ q1010) (fun _ h9 => h9) rfl dX4_nightNow_218 ?_
    refine lv_iload_n hx hb dX4_nightNow_221 rfl (lv_at hl 2 rfl) ?_
    refine lv_iconst (v := 5) hx hb dX4_nightNow_222 (by decide) ?_
    refine lv_isub hx hb dX4_nightNow_223 ?_
    obtain ⟨hin, h⟩ := h
    refine va_iald (D := G.1) hx hb hK hP 8 0 rfl rfl hin dX4_nightNow_224 ?_
    exact W.iret (v := (ctf (p1 - (5 : Int32)).toNatClampNeg)) hx hb hr (fun t ht _ => ⟨_, rfl, h, ht⟩) (fun _ hq => absurd hq List.not_mem_nil) dX4_nightNow_225
  have h := h.2 hc5
  by_cases hc6 : p1 = 6
  · have h := h.1 hc6
    refine lv_tableIn (tgt := 217) hx hb dX4_nightNow_3 (by rw [hc6]; decide) (by rw [hc6]; decide) (by rw [hc6]; rfl) (by decide) ?_
    refine lv_aload_n hx hb dX4_nightNow_217 rfl (lv_at hl 1 rfl) ?_
    refine va_get (D := G.1) (ci := 7) (v := .ref ct0) (C := RX4) (T := TX4) (N := 15) hx hb hts igX4 hown hK hP 0 rfl rfl 5 (by decide) (hts _ q1010) (fun _ h9 => h9) rfl dX4_nightNow_218 ?_
    refine lv_iload_n hx hb dX4_nightNow_221 rfl (lv_at hl 2 rfl) ?_
    refine lv_iconst (v := 5) hx hb dX4_nightNow_222 (by decide) ?_
    refine lv_isub hx hb dX4_nightNow_223 ?_
    obtain ⟨hin, h⟩ := h
    refine va_iald (D := G.1) hx hb hK hP 8 0 rfl rfl hin dX4_nightNow_224 ?_
    exact W.iret (v := (ctf (p1 - (5 : Int32)).toNatClampNeg)) hx hb hr (fun t ht _ => ⟨_, rfl, h, ht⟩) (fun _ hq => absurd hq List.not_mem_nil) dX4_nightNow_225
  have h := h.2 hc6
  by_cases hc7 : p1 = 7
  · have h := h.1 hc7
    refine lv_tableIn (tgt := 217) hx hb dX4_nightNow_3 (by rw [hc7]; decide) (by rw [hc7]; decide) (by rw [hc7]; rfl) (by decide) ?_
    refine lv_aload_n hx hb dX4_nightNow_217 rfl (lv_at hl 1 rfl) ?_
    refine va_get (D := G.1) (ci := 7) (v := .ref ct0) (C := RX4) (T := TX4) (N := 15) hx hb hts igX4 hown hK hP 0 rfl rfl 5 (by decide) (hts _ q1010) (fun _ h9 => h9) rfl dX4_nightNow_218 ?_
    refine lv_iload_n hx hb dX4_nightNow_221 rfl (lv_at hl 2 rfl) ?_
    refine lv_iconst (v := 5) hx hb dX4_nightNow_222 (by decide) ?_
    refine lv_isub hx hb dX4_nightNow_223 ?_
    obtain ⟨hin, h⟩ := h
    refine va_iald (D := G.1) hx hb hK hP 8 0 rfl rfl hin dX4_nightNow_224 ?_
    exact W.iret (v := (ctf (p1 - (5 : Int32)).toNatClampNeg)) hx hb hr (fun t ht _ => ⟨_, rfl, h, ht⟩) (fun _ hq => absurd hq List.not_mem_nil) dX4_nightNow_225
  have h := h.2 hc7
  by_cases hc8 : p1 = 8
  · have h := h.1 hc8
    refine lv_tableIn (tgt := 217) hx hb dX4_nightNow_3 (by rw [hc8]; decide) (by rw [hc8]; decide) (by rw [hc8]; rfl) (by decide) ?_
    refine lv_aload_n hx hb dX4_nightNow_217 rfl (lv_at hl 1 rfl) ?_
    refine va_get (D := G.1) (ci := 7) (v := .ref ct0) (C := RX4) (T := TX4) (N := 15) hx hb hts igX4 hown hK hP 0 rfl rfl 5 (by decide) (hts _ q1010) (fun _ h9 => h9) rfl dX4_nightNow_218 ?_
    refine lv_iload_n hx hb dX4_nightNow_221 rfl (lv_at hl 2 rfl) ?_
    refine lv_iconst (v := 5) hx hb dX4_nightNow_222 (by decide) ?_
    refine lv_isub hx hb dX4_nightNow_223 ?_
    obtain ⟨hin, h⟩ := h
    refine va_iald (D := G.1) hx hb hK hP 8 0 rfl rfl hin dX4_nightNow_224 ?_
    exact W.iret (v := (ctf (p1 - (5 : Int32)).toNatClampNeg)) hx hb hr (fun t ht _ => ⟨_, rfl, h, ht⟩) (fun _ hq => absurd hq List.not_mem_nil) dX4_nightNow_225
  have h := h.2 hc8
  by_cases hc9 : p1 = 9
  · have h := h.1 hc9
    refine lv_tableIn (tgt := 217) hx hb dX4_nightNow_3 (by rw [hc9]; decide) (by rw [hc9]; decide) (by rw [hc9]; rfl) (by decide) ?_
    refine lv_aload_n hx hb dX4_nightNow_217 rfl (lv_at hl 1 rfl) ?_
    refine va_get (D := G.1) (ci := 7) (v := .ref ct0) (C := RX4) (T := TX4) (N := 15) hx hb hts igX4 hown hK hP 0 rfl rfl 5 (by decide) (hts _ q1010) (fun _ h9 => h9) rfl dX4_nightNow_218 ?_
    refine lv_iload_n hx hb dX4_nightNow_221 rfl (lv_at hl 2 rfl) ?_
    refine lv_iconst (v := 5) hx hb dX4_nightNow_222 (by decide) ?_
    refine lv_isub hx hb dX4_nightNow_223 ?_
    obtain ⟨hin, h⟩ := h
    refine va_iald (D := G.1) hx hb hK hP 8 0 rfl rfl hin dX4_nightNow_224 ?_
    exact W.iret (v := (ctf (p1 - (5 : Int32)).toNatClampNeg)) hx hb hr (fun t ht _ => ⟨_, rfl, h, ht⟩) (fun _ hq => absurd hq List.not_mem_nil) dX4_nightNow_225
  have h := h.2 hc9
  by_cases hc10 : p1 = 10
  · have h := h.1 hc10
    refine lv_tableIn (tgt := 217) hx hb dX4_nightNow_3 (by rw [hc10]; decide) (by rw [hc10]; decide) (by rw [hc10]; rfl) (by decide) ?_
    refine lv_aload_n hx hb dX4_nightNow_217 rfl (lv_at hl 1 rfl) ?_
    refine va_get (D := G.1) (ci := 7) (v := .ref ct0) (C := RX4) (T := TX4) (N := 15) hx hb hts igX4 hown hK hP 0 rfl rfl 5 (by decide) (hts _ q1010) (fun _ h9 => h9) rfl dX4_nightNow_218 ?_
    refine lv_iload_n hx hb dX4_nightNow_221 rfl (lv_at hl 2 rfl) ?_
    refine lv_iconst (v := 5) hx hb dX4_nightNow_222 (by decide) ?_
    refine lv_isub hx hb dX4_nightNow_223 ?_
    obtain ⟨hin, h⟩ := h
    refine va_iald (D := G.1) hx hb hK hP 8 0 rfl rfl hin dX4_nightNow_224 ?_
    exact W.iret (v := (ctf (p1 - (5 : Int32)).toNatClampNeg)) hx hb hr (fun t ht _ => ⟨_, rfl, h, ht⟩) (fun _ hq => absurd hq List.not_mem_nil) dX4_nightNow_225
  have h := h.2 hc10
  by_cases hc11 : p1 = 11
  · have h := h.1 hc11
    refine lv_tableIn (tgt := 159) hx hb dX4_nightNow_3 (by rw [hc11]; decide) (by rw [hc11]; decide) (by rw [hc11]; rfl) (by decide) ?_
    refine lv_iconst (v := 1) hx hb dX4_nightNow_159 (by decide) ?_
    refine lv_istore hx hb dX4_nightNow_160 hl (Nat.le_of_ble_eq_true rfl) rfl (fun ls hl => ?_)
    have hl : lv_has ls 9 [(4, .int (1 : Int32)), (3, .int (0 : Int32)), (0, .ref m0), (1, .int p1), (2, .ref y0)] := hl
    have hl := lv_sub (l' := [(0, .ref m0), (1, .int p1), (2, .ref y0), (3, .int (0 : Int32)), (4, .int (1 : Int32))]) hl [2, 3, 4, 1, 0] rfl
    obtain ⟨nF, h⟩ := h
    refine loop162 _ trivial ?_ nF (0 : Int32) (1 : Int32) _ hl h
    · intro i3 i4 ls hl h
      refine lv_iload_n hx hb dX4_nightNow_210 rfl (lv_at hl 3 rfl) ?_
      exact W.iret (v := i3) hx hb hr (fun t ht _ => ⟨_, rfl, h, ht⟩) (fun _ hq => absurd hq List.not_mem_nil) dX4_nightNow_211
  have h := h.2 hc11
  by_cases hc12 : p1 = 12
  · have h := h.1 hc12
    refine lv_tableIn (tgt := 212) hx hb dX4_nightNow_3 (by rw [hc12]; decide) (by rw [hc12]; decide) (by rw [hc12]; rfl) (by decide) ?_
    refine lv_aload_n hx hb dX4_nightNow_212 rfl (lv_at hl 1 rfl) ?_
    refine va_get (D := G.1) (ci := 7) (v := .int mf) (C := RX4) (T := TX4) (N := 15) hx hb hts igX4 hown hK hP 0 rfl rfl 6 (by decide) (hts _ q1011) (fun _ h9 => h9) rfl dX4_nightNow_213 ?_
    exact W.iret (v := mf) hx hb hr (fun t ht _ => ⟨_, rfl, h, ht⟩) (fun _ hq => absurd hq List.not_mem_nil) dX4_nightNow_216
  have h := h.2 hc12
  refine lv_tableOut (tgt := 217) hx hb dX4_nightNow_3 (tsw_0_12 hc0 hc1 hc2 hc3 hc4 hc5 hc6 hc7 hc8 hc9 hc10 hc11 hc12) (by decide) ?_
  refine lv_aload_n hx hb dX4_nightNow_217 rfl (lv_at hl 1 rfl) ?_
  refine va_get (D := G.1) (ci := 7) (v := .ref ct0) (C := RX4) (T := TX4) (N := 15) hx hb hts igX4 hown hK hP 0 rfl rfl 5 (by decide) (hts _ q1010) (fun _ h9 => h9) rfl dX4_nightNow_218 ?_
  refine lv_iload_n hx hb dX4_nightNow_221 rfl (lv_at hl 2 rfl) ?_
  refine lv_iconst (v := 5) hx hb dX4_nightNow_222 (by decide) ?_
  refine lv_isub hx hb dX4_nightNow_223 ?_
  obtain ⟨hin, h⟩ := h
  refine va_iald (D := G.1) hx hb hK hP 8 0 rfl rfl hin dX4_nightNow_224 ?_
  exact W.iret (v := (ctf (p1 - (5 : Int32)).toNatClampNeg)) hx hb hr (fun t ht _ => ⟨_, rfl, h, ht⟩) (fun _ hq => absurd hq List.not_mem_nil) dX4_nightNow_225
theorem dX4_guardNow_0 : decode cX4_guardNow 0 = .ok (.iconst 0, 1) := by decide +kernel
theorem dX4_guardNow_1 : decode cX4_guardNow 1 = .ok (.istore 4, 2) := by decide +kernel
theorem dX4_guardNow_3 : decode cX4_guardNow 3 = .ok (.aload_n 0, 1) := by decide +kernel
theorem dX4_guardNow_4 : decode cX4_guardNow 4 = .ok (.iload_n 1, 1) := by decide +kernel
theorem dX4_guardNow_5 : decode cX4_guardNow 5 = .ok (.aload_n 0, 1) := by decide +kernel
theorem dX4_guardNow_6 : decode cX4_guardNow 6 = .ok (.getfield 127, 3) := by decide +kernel
theorem dX4_guardNow_9 : decode cX4_guardNow 9 = .ok (.invokevirtual 163, 3) := by decide +kernel
theorem dX4_guardNow_12 : decode cX4_guardNow 12 = .ok (.lstore 5, 2) := by decide +kernel
theorem dX4_guardNow_14 : decode cX4_guardNow 14 = .ok (.iload_n 2, 1) := by decide +kernel
theorem dX4_guardNow_15 : decode cX4_guardNow 15 = .ok (.tableswitch 163 0 3 #[29, 86, 92, 156], 29) := by decide +kernel
theorem dX4_guardNow_44 : decode cX4_guardNow 44 = .ok (.lconst 0, 1) := by decide +kernel
theorem dX4_guardNow_45 : decode cX4_guardNow 45 = .ok (.lstore 7, 2) := by decide +kernel
theorem dX4_guardNow_47 : decode cX4_guardNow 47 = .ok (.iconst 0, 1) := by decide +kernel
theorem dX4_guardNow_48 : decode cX4_guardNow 48 = .ok (.istore 9, 2) := by decide +kernel
theorem dX4_guardNow_50 : decode cX4_guardNow 50 = .ok (.iload 9, 2) := by decide +kernel
theorem dX4_guardNow_52 : decode cX4_guardNow 52 = .ok (.bipush 64, 2) := by decide +kernel
theorem dX4_guardNow_54 : decode cX4_guardNow 54 = .ok (.if_icmp .ge 41, 3) := by decide +kernel
theorem dX4_guardNow_57 : decode cX4_guardNow 57 = .ok (.lload 7, 2) := by decide +kernel
theorem dX4_guardNow_59 : decode cX4_guardNow 59 = .ok (.aload_n 0, 1) := by decide +kernel
theorem dX4_guardNow_60 : decode cX4_guardNow 60 = .ok (.getfield 9, 3) := by decide +kernel
theorem dX4_guardNow_63 : decode cX4_guardNow 63 = .ok (.iload 9, 2) := by decide +kernel
theorem dX4_guardNow_65 : decode cX4_guardNow 65 = .ok (.invokestatic 58, 3) := by decide +kernel
theorem dX4_guardNow_68 : decode cX4_guardNow 68 = .ok (.ifCond .eq 17, 3) := by decide +kernel
theorem dX4_guardNow_71 : decode cX4_guardNow 71 = .ok (.lconst 1, 1) := by decide +kernel
theorem dX4_guardNow_72 : decode cX4_guardNow 72 = .ok (.aload_n 0, 1) := by decide +kernel
theorem dX4_guardNow_73 : decode cX4_guardNow 73 = .ok (.getfield 17, 3) := by decide +kernel
theorem dX4_guardNow_76 : decode cX4_guardNow 76 = .ok (.iload_n 1, 1) := by decide +kernel
theorem dX4_guardNow_77 : decode cX4_guardNow 77 = .ok (.aaload, 1) := by decide +kernel
theorem dX4_guardNow_78 : decode cX4_guardNow 78 = .ok (.iload 9, 2) := by decide +kernel
theorem dX4_guardNow_80 : decode cX4_guardNow 80 = .ok (.iaload, 1) := by decide +kernel
theorem dX4_guardNow_81 : decode cX4_guardNow 81 = .ok (.lshl, 1) := by decide +kernel
theorem dX4_guardNow_82 : decode cX4_guardNow 82 = .ok (.goto 4, 3) := by decide +kernel
theorem dX4_guardNow_85 : decode cX4_guardNow 85 = .ok (.lconst 0, 1) := by decide +kernel
theorem dX4_guardNow_86 : decode cX4_guardNow 86 = .ok (.lor, 1) := by decide +kernel
theorem dX4_guardNow_87 : decode cX4_guardNow 87 = .ok (.lstore 7, 2) := by decide +kernel
theorem dX4_guardNow_89 : decode cX4_guardNow 89 = .ok (.iinc 9 1, 3) := by decide +kernel
theorem dX4_guardNow_92 : decode cX4_guardNow 92 = .ok (.goto (-42), 3) := by decide +kernel
theorem dX4_guardNow_95 : decode cX4_guardNow 95 = .ok (.lload 7, 2) := by decide +kernel
theorem dX4_guardNow_97 : decode cX4_guardNow 97 = .ok (.invokestatic 166, 3) := by decide +kernel
theorem dX4_guardNow_100 : decode cX4_guardNow 100 = .ok (.ireturn, 1) := by decide +kernel
theorem dX4_guardNow_101 : decode cX4_guardNow 101 = .ok (.lload 5, 2) := by decide +kernel
theorem dX4_guardNow_103 : decode cX4_guardNow 103 = .ok (.invokestatic 166, 3) := by decide +kernel
theorem dX4_guardNow_106 : decode cX4_guardNow 106 = .ok (.ireturn, 1) := by decide +kernel
theorem dX4_guardNow_107 : decode cX4_guardNow 107 = .ok (.iconst 0, 1) := by decide +kernel
theorem dX4_guardNow_108 : decode cX4_guardNow 108 = .ok (.istore 7, 2) := by decide +kernel
theorem dX4_guardNow_110 : decode cX4_guardNow 110 = .ok (.iload 7, 2) := by decide +kernel
theorem dX4_guardNow_112 : decode cX4_guardNow 112 = .ok (.bipush 6, 2) := by decide +kernel
theorem dX4_guardNow_114 : decode cX4_guardNow 114 = .ok (.if_icmp .ge 54, 3) := by decide +kernel
theorem dX4_guardNow_117 : decode cX4_guardNow 117 = .ok (.iload 4, 2) := by decide +kernel
theorem dX4_guardNow_119 : decode cX4_guardNow 119 = .ok (.lload 5, 2) := by decide +kernel
theorem dX4_guardNow_121 : decode cX4_guardNow 121 = .ok (.aload_n 0, 1) := by decide +kernel
theorem dX4_guardNow_122 : decode cX4_guardNow 122 = .ok (.iload 7, 2) := by decide +kernel
theorem dX4_guardNow_124 : decode cX4_guardNow 124 = .ok (.invokevirtual 86, 3) := by decide +kernel
theorem dX4_guardNow_127 : decode cX4_guardNow 127 = .ok (.land, 1) := by decide +kernel
theorem dX4_guardNow_128 : decode cX4_guardNow 128 = .ok (.lconst 0, 1) := by decide +kernel
theorem dX4_guardNow_129 : decode cX4_guardNow 129 = .ok (.lcmp, 1) := by decide +kernel
theorem dX4_guardNow_130 : decode cX4_guardNow 130 = .ok (.ifCond .eq 21, 3) := by decide +kernel
theorem dX4_guardNow_133 : decode cX4_guardNow 133 = .ok (.lload 5, 2) := by decide +kernel
theorem dX4_guardNow_135 : decode cX4_guardNow 135 = .ok (.aload_n 0, 1) := by decide +kernel
theorem dX4_guardNow_136 : decode cX4_guardNow 136 = .ok (.iload 7, 2) := by decide +kernel
theorem dX4_guardNow_138 : decode cX4_guardNow 138 = .ok (.invokevirtual 86, 3) := by decide +kernel
theorem dX4_guardNow_141 : decode cX4_guardNow 141 = .ok (.ldc2_w 7, 3) := by decide +kernel
theorem dX4_guardNow_144 : decode cX4_guardNow 144 = .ok (.lxor, 1) := by decide +kernel
theorem dX4_guardNow_145 : decode cX4_guardNow 145 = .ok (.land, 1) := by decide +kernel
theorem dX4_guardNow_146 : decode cX4_guardNow 146 = .ok (.lconst 0, 1) := by decide +kernel
theorem dX4_guardNow_147 : decode cX4_guardNow 147 = .ok (.lcmp, 1) := by decide +kernel
theorem dX4_guardNow_148 : decode cX4_guardNow 148 = .ok (.ifCond .ne 10, 3) := by decide +kernel
theorem dX4_guardNow_151 : decode cX4_guardNow 151 = .ok (.iconst 1, 1) := by decide +kernel
theorem dX4_guardNow_152 : decode cX4_guardNow 152 = .ok (.iload 7, 2) := by decide +kernel
theorem dX4_guardNow_154 : decode cX4_guardNow 154 = .ok (.ishl, 1) := by decide +kernel
theorem dX4_guardNow_155 : decode cX4_guardNow 155 = .ok (.goto 4, 3) := by decide +kernel
theorem dX4_guardNow_158 : decode cX4_guardNow 158 = .ok (.iconst 0, 1) := by decide +kernel
theorem dX4_guardNow_159 : decode cX4_guardNow 159 = .ok (.ior, 1) := by decide +kernel
theorem dX4_guardNow_160 : decode cX4_guardNow 160 = .ok (.istore 4, 2) := by decide +kernel
theorem dX4_guardNow_162 : decode cX4_guardNow 162 = .ok (.iinc 7 1, 3) := by decide +kernel
theorem dX4_guardNow_165 : decode cX4_guardNow 165 = .ok (.goto (-55), 3) := by decide +kernel
theorem dX4_guardNow_168 : decode cX4_guardNow 168 = .ok (.iload 4, 2) := by decide +kernel
theorem dX4_guardNow_170 : decode cX4_guardNow 170 = .ok (.ireturn, 1) := by decide +kernel
theorem dX4_guardNow_171 : decode cX4_guardNow 171 = .ok (.aload_n 0, 1) := by decide +kernel
theorem dX4_guardNow_172 : decode cX4_guardNow 172 = .ok (.iload_n 1, 1) := by decide +kernel
theorem dX4_guardNow_173 : decode cX4_guardNow 173 = .ok (.aload_n 3, 1) := by decide +kernel
theorem dX4_guardNow_174 : decode cX4_guardNow 174 = .ok (.invokevirtual 203, 3) := by decide +kernel
theorem dX4_guardNow_177 : decode cX4_guardNow 177 = .ok (.ireturn, 1) := by decide +kernel
theorem dX4_guardNow_178 : decode cX4_guardNow 178 = .ok (.iconst 0, 1) := by decide +kernel
theorem dX4_guardNow_179 : decode cX4_guardNow 179 = .ok (.istore 7, 2) := by decide +kernel
theorem dX4_guardNow_181 : decode cX4_guardNow 181 = .ok (.iload 7, 2) := by decide +kernel
theorem dX4_guardNow_183 : decode cX4_guardNow 183 = .ok (.bipush 6, 2) := by decide +kernel
theorem dX4_guardNow_185 : decode cX4_guardNow 185 = .ok (.if_icmp .ge 32, 3) := by decide +kernel
theorem dX4_guardNow_188 : decode cX4_guardNow 188 = .ok (.iload 4, 2) := by decide +kernel
theorem dX4_guardNow_190 : decode cX4_guardNow 190 = .ok (.aload_n 0, 1) := by decide +kernel
theorem dX4_guardNow_191 : decode cX4_guardNow 191 = .ok (.iload 7, 2) := by decide +kernel
theorem dX4_guardNow_193 : decode cX4_guardNow 193 = .ok (.iload_n 1, 1) := by decide +kernel
theorem dX4_guardNow_194 : decode cX4_guardNow 194 = .ok (.invokevirtual 207, 3) := by decide +kernel
theorem dX4_guardNow_197 : decode cX4_guardNow 197 = .ok (.ifCond .eq 10, 3) := by decide +kernel
theorem dX4_guardNow_200 : decode cX4_guardNow 200 = .ok (.iconst 1, 1) := by decide +kernel
theorem dX4_guardNow_201 : decode cX4_guardNow 201 = .ok (.iload 7, 2) := by decide +kernel
theorem dX4_guardNow_203 : decode cX4_guardNow 203 = .ok (.ishl, 1) := by decide +kernel
theorem dX4_guardNow_204 : decode cX4_guardNow 204 = .ok (.goto 4, 3) := by decide +kernel
theorem dX4_guardNow_207 : decode cX4_guardNow 207 = .ok (.iconst 0, 1) := by decide +kernel
theorem dX4_guardNow_208 : decode cX4_guardNow 208 = .ok (.ior, 1) := by decide +kernel
theorem dX4_guardNow_209 : decode cX4_guardNow 209 = .ok (.istore 4, 2) := by decide +kernel
theorem dX4_guardNow_211 : decode cX4_guardNow 211 = .ok (.iinc 7 1, 3) := by decide +kernel
theorem dX4_guardNow_214 : decode cX4_guardNow 214 = .ok (.goto (-33), 3) := by decide +kernel
theorem dX4_guardNow_217 : decode cX4_guardNow 217 = .ok (.iload 4, 2) := by decide +kernel
theorem dX4_guardNow_219 : decode cX4_guardNow 219 = .ok (.ireturn, 1) := by decide +kernel
def wX4_guardNow_L50 (post : Int32 → Prop) (K95 : Int64 → Int32 → Prop) (po : Int64) (DD : Nat → Nat → Int32) (p1 : Int32) : Nat → Int64 → Int32 → Prop
  | 0, _, _ => False
  | n+1, i7, i9 =>
    (((64 : Int32) ≤ i9) →
      K95 i7 i9
    ) ∧ (¬ ((64 : Int32) ≤ i9) →
      wX4_has_ (fun r_2 : Int32 =>
        ((r_2 = 0) →
          wX4_guardNow_L50 post K95 po DD p1 n (i7 ||| (0 : Int64)) (i9 + 1)
        ) ∧ (¬ (r_2 = 0) →
          vp_in p1 6 ∧
          vp_in i9 64 ∧
          ∀ x_1 : Int64, x_1 = (i7 ||| (jLshl (1 : Int64) (DD (p1.toNatClampNeg) i9.toNatClampNeg))) →
          wX4_guardNow_L50 post K95 po DD p1 n x_1 (i9 + 1)
        )
        ) po i9
    )
def wX4_guardNow_L110 (post : Int32 → Prop) (K168 : Int32 → Int32 → Prop) (po : Int64) (r_1 : Int64) : Nat → Int32 → Int32 → Prop
  | 0, _, _ => False
  | n+1, i4, i7' =>
    (((6 : Int32) ≤ i7') →
      K168 i4 i7'
    ) ∧ (¬ ((6 : Int32) ≤ i7') →
      wX4_fact (fun r_5 : Int64 =>
        (((lg_cmp (r_1 &&& r_5) (0 : Int64)) = 0) →
          wX4_guardNow_L110 post K168 po r_1 n (i4 ||| ((1 : Int32) <<< (i7' &&& 31))) (i7' + 1)
        ) ∧ (¬ ((lg_cmp (r_1 &&& r_5) (0 : Int64)) = 0) →
          wX4_fact (fun r_6 : Int64 =>
            ((¬ (lg_cmp (r_1 &&& (r_6 ^^^ (-1 : Int64))) (0 : Int64)) = 0) →
              wX4_guardNow_L110 post K168 po r_1 n (i4 ||| (0 : Int32)) (i7' + 1)
            ) ∧ (((lg_cmp (r_1 &&& (r_6 ^^^ (-1 : Int64))) (0 : Int64)) = 0) →
              wX4_guardNow_L110 post K168 po r_1 n (i4 ||| ((1 : Int32) <<< (i7' &&& 31))) (i7' + 1)
            )
            ) po i7'
        )
        ) po i7'
    )
def wX4_guardNow_L181 (post : Int32 → Prop) (K217 : Int32 → Int32 → Prop) (po : Int64) (DD : Nat → Nat → Int32) (p1 : Int32) : Nat → Int32 → Int32 → Prop
  | 0, _, _ => False
  | n+1, i4, i7' =>
    (((6 : Int32) ≤ i7') →
      K217 i4 i7'
    ) ∧ (¬ ((6 : Int32) ≤ i7') →
      wX4_isFiner (fun r_8 : Int32 =>
        ((r_8 = 0) →
          wX4_guardNow_L181 post K217 po DD p1 n (i4 ||| (0 : Int32)) (i7' + 1)
        ) ∧ (¬ (r_8 = 0) →
          wX4_guardNow_L181 post K217 po DD p1 n (i4 ||| ((1 : Int32) <<< (i7' &&& 31))) (i7' + 1)
        )
        ) po DD i7' p1
    )
def wX4_guardNow (post : Int32 → Prop) (mr : Int32) (po : Int64) (DD : Nat → Nat → Int32) (yn : Nat) (yf : Nat → Int64) (p1 : Int32) (p2 : Int32) : Prop :=
  wX4_alikeNow (fun r_1 : Int64 =>
    (p2 = 0 →
      ∃ nF, wX4_guardNow_L50 post
        (fun i7 i9 =>
          wX4_size_ (fun r_3 : Int32 =>
            post r_3
            ) i7
        )
        po DD p1 nF (0 : Int64) (0 : Int32)
    ) ∧ (¬ p2 = 0 →
    (p2 = 1 →
      wX4_size_ (fun r_4 : Int32 =>
        post r_4
        ) r_1
    ) ∧ (¬ p2 = 1 →
    (p2 = 2 →
      ∃ nF, wX4_guardNow_L110 post
        (fun i4 i7' =>
          post i4
        )
        po r_1 nF (0 : Int32) (0 : Int32)
    ) ∧ (¬ p2 = 2 →
    (p2 = 3 →
      wX4_knows (fun r_7 : Int32 =>
        post r_7
        ) mr po DD yn yf p1
    ) ∧ (¬ p2 = 3 →
      ∃ nF, wX4_guardNow_L181 post
        (fun i4 i7' =>
          post i4
        )
        po DD p1 nF (0 : Int32) (0 : Int32)
    ))))
    ) po DD p1 mr
abbrev wl_X4_guardNow : List Cond := .code yX4_guardNow cX4_guardNow 10 (some .int) :: lwg
abbrev rm_X4_guardNow : Room := { frames := 3, cells := 0, slots := 0, locals := 75 }
set_option maxHeartbeats 4000000 in
set_option maxRecDepth 100000 in
theorem kX4_guardNow {post : Int32 → Prop} (l : Launch) (G : GT) (m0 : Nat) (dO : Nat) (sl : Nat) (ct0 : Nat) (st0 : Nat) (fs0 : Nat) (jn0 : Nat) (rw0 : Nat) (fd0 : Nat) (af0 : Nat) (kO : Nat) (dr : Nat → Nat) (kr : Nat → Nat) (sa : Nat → Nat) (y0 : Nat) (th : Int32) (mr : Int32) (po : Int64) (mf : Int32) (sp : Int32) (DD : Nat → Nat → Int32) (ctf : Nat → Int32) (stf : Nat → Int32) (fsf : Nat → Int32) (jnf : Nat → Int32) (rwf : Nat → Int32) (fdf : Nat → Int64) (aff : Nat → Int32) (KP : Nat → Nat → Int32) (sn : Nat) (sq : Nat → Nat → Int32) (yn : Nat) (yf : Nat → Int64) (p1 : Int32) (p2 : Int32) (h : wX4_guardNow post mr po DD yn yf p1 p2) : Met l yX4_guardNow wl_X4_guardNow rm_X4_guardNow (va_Pc [.ref m0, .int p1, .int p2, .ref y0] (fun U => PP G [(m0, .inr (7, [.int th, .int mr, .long po, .ref dO, .ref sl, .ref ct0, .int mf, .int sp, .ref st0, .ref fs0, .ref jn0, .ref rw0, .ref fd0, .ref af0, .ref kO])), (dO, .inl (G.2 4, 6, .inr (.inr (.inr (.inr (fun k => if k < 6 then some (dr k) else none)))))), (dr 0, .inl (G.2 0, 64, .inl (DD 0))), (dr 1, .inl (G.2 0, 64, .inl (DD 1))), (dr 2, .inl (G.2 0, 64, .inl (DD 2))), (dr 3, .inl (G.2 0, 64, .inl (DD 3))), (dr 4, .inl (G.2 0, 64, .inl (DD 4))), (dr 5, .inl (G.2 0, 64, .inl (DD 5))), (ct0, .inl (G.2 0, 6, .inl ctf)), (st0, .inl (G.2 0, 4096, .inl stf)), (fs0, .inl (G.2 0, 4096, .inl fsf)), (jn0, .inl (G.2 0, 64, .inl jnf)), (rw0, .inl (G.2 0, 64, .inl rwf)), (fd0, .inl (G.2 1, 40, .inr (.inl fdf))), (af0, .inl (G.2 3, 40, .inl aff)), (kO, .inl (G.2 4, 4, .inr (.inr (.inr (.inr (fun k => if k < 4 then some (kr k) else none)))))), (kr 0, .inl (G.2 0, 64, .inl (KP 0))), (kr 1, .inl (G.2 0, 64, .inl (KP 1))), (kr 2, .inl (G.2 0, 64, .inl (KP 2))), (kr 3, .inl (G.2 0, 64, .inl (KP 3))), (y0, .inl (G.2 1, yn, .inr (.inl yf)))] U.heap ∧ KK G U)) (vp_Si post) 0 0 (fun _ => False) := by
  refine Met.ofW (cc := cX4_guardNow) (maxL := 10) (ret := (some .int)) (by decide) rfl ?_
  intro p e s m args below meth c s₁ B hml hv
  obtain ⟨rfl, hP, hKK⟩ := hv
  obtain ⟨hK, hN, hR, hFW, hNC⟩ := id hKK
  have hx := B.exec
  have hb := B.bytes
  have hr := B.returns
  have hts0 := atoms_spec (ws := wl_X4_guardNow) B.pre
  have hts : ∀ w ∈ lwg, w.before ([.ref m0, .int p1, .int p2, .ref y0] : List Value).toArray s = true := fun w hw => hts0 w (List.mem_cons_of_mem _ hw)
  have hown : s.vm.findClass RX4 = some m.cls := findClass_of_methodNamed B.named
  have hlocks := B.notSynchronized
  have hP : PP G [(m0, .inr (7, [.int th, .int mr, .long po, .ref dO, .ref sl, .ref ct0, .int mf, .int sp, .ref st0, .ref fs0, .ref jn0, .ref rw0, .ref fd0, .ref af0, .ref kO])), (dO, .inl (G.2 4, 6, .inr (.inr (.inr (.inr (fun k => if k < 6 then some (dr k) else none)))))), (dr 0, .inl (G.2 0, 64, .inl (DD 0))), (dr 1, .inl (G.2 0, 64, .inl (DD 1))), (dr 2, .inl (G.2 0, 64, .inl (DD 2))), (dr 3, .inl (G.2 0, 64, .inl (DD 3))), (dr 4, .inl (G.2 0, 64, .inl (DD 4))), (dr 5, .inl (G.2 0, 64, .inl (DD 5))), (ct0, .inl (G.2 0, 6, .inl ctf)), (st0, .inl (G.2 0, 4096, .inl stf)), (fs0, .inl (G.2 0, 4096, .inl fsf)), (jn0, .inl (G.2 0, 64, .inl jnf)), (rw0, .inl (G.2 0, 64, .inl rwf)), (fd0, .inl (G.2 1, 40, .inr (.inl fdf))), (af0, .inl (G.2 3, 40, .inl aff)), (kO, .inl (G.2 4, 4, .inr (.inr (.inr (.inr (fun k => if k < 4 then some (kr k) else none)))))), (kr 0, .inl (G.2 0, 64, .inl (KP 0))), (kr 1, .inl (G.2 0, 64, .inl (KP 1))), (kr 2, .inl (G.2 0, 64, .inl (KP 2))), (kr 3, .inl (G.2 0, 64, .inl (KP 3))), (y0, .inl (G.2 1, yn, .inr (.inl yf)))] s.heap := hP
  have hl := lv_entry ([.ref m0, .int p1, .int p2, .ref y0]) (n := 10) (Nat.le_of_ble_eq_true rfl)
  rw [lg_entry_eq]
  generalize (lg_sl ([.ref m0, .int p1, .int p2, .ref y0]) ++ List.replicate (10 - (lg_sl ([.ref m0, .int p1, .int p2, .ref y0])).length) Slot.unset).toArray = ls at hl ⊢
  have hl : lv_has ls 10 [(0, .ref m0), (1, .int p1), (2, .int p2), (3, .ref y0)] := hl
  have loop50 : ∀ (K95 : Int64 → Int32 → Prop) (r_1 : Int64), True → (∀ (i7 : Int64) (i9 : Int32) (ls : Array Slot), lv_has ls 10 [(0, .ref m0), (1, .int p1), (2, .int p2), (3, .ref y0), (4, .int (0 : Int32)), (5, .long r_1), (7, .long i7), (9, .int i9)] → K95 i7 i9 → W p l e (headSpec (wl_X4_guardNow) rm_X4_guardNow).room s m ([.ref m0, .int p1, .int p2, .ref y0] : List Value).toArray below meth c s.heap [] 0 0 (MQ below (vp_Si post) ([.ref m0, .int p1, .int p2, .ref y0] : List Value).toArray s 0 0 (fun _ => False)) (F0 m 95 ls [])) → ∀ (n : Nat) (i7 : Int64) (i9 : Int32) (ls : Array Slot), lv_has ls 10 [(0, .ref m0), (1, .int p1), (2, .int p2), (3, .ref y0), (4, .int (0 : Int32)), (5, .long r_1), (7, .long i7), (9, .int i9)] → wX4_guardNow_L50 post K95 po DD p1 n i7 i9 → W p l e (headSpec (wl_X4_guardNow) rm_X4_guardNow).room s m ([.ref m0, .int p1, .int p2, .ref y0] : List Value).toArray below meth c s.heap [] 0 0 (MQ below (vp_Si post) ([.ref m0, .int p1, .int p2, .ref y0] : List Value).toArray s 0 0 (fun _ => False)) (F0 m 50 ls []) := by
    intro K95 r_1 _ hexit95 n
    induction n with
    | zero => intro i7 i9 ls hl h; exact False.elim h
    | succ n ih =>
      intro i7 i9 ls hl h
      refine lv_iload hx hb dX4_guardNow_50 (lv_at hl 7 rfl) ?_
      refine lv_bipush (v := 64) hx hb dX4_guardNow_52 (by decide) ?_
      refine lv_icmp_ge (tgt := 95) hx hb dX4_guardNow_54 (by decide) (fun hc => ?_) (fun hc => ?_)
      · have h := h.1 hc
        have hl := lv_sub (l' := [(0, .ref m0), (1, .int p1), (2, .int p2), (3, .ref y0), (4, .int (0 : Int32)), (5, .long r_1), (7, .long i7), (9, .int i9)]) hl [0, 1, 2, 3, 4, 5, 6, 7] rfl
        exact hexit95 _ _ ls hl h
      · have h := h.2 hc
        refine lv_lload hx hb dX4_guardNow_57 (lv_at hl 6 rfl) ?_
        refine lv_aload_n hx hb dX4_guardNow_59 rfl (lv_at hl 0 rfl) ?_
        refine va_get (D := G.1) (ci := 7) (v := .long po) (C := RX4) (T := TX4) (N := 15) hx hb hts igX4 hown hK hP 0 rfl rfl 2 (by decide) (hts _ q1007) (fun _ h9 => h9) rfl dX4_guardNow_60 ?_
        refine lv_iload hx hb dX4_guardNow_63 (lv_at hl 7 rfl) ?_
        have hPc := va_P.sub (ws' := []) hP [] rfl
        refine rdI (va_runS (As := [.long po, .int i9]) (rest := [.long i7]) ⟨hx, hb, hml, hown, hts⟩ (kX4_has_ l G po i9 h) (va_cwS 2 hts (gdS q1122 q1123 q6 q1124) rfl rfl rfl (by decide +kernel) ⟨Nat.le_of_ble_eq_true rfl, Nat.le_of_ble_eq_true rfl⟩) (preS hPc hKK) rfl rfl hl.1 rfl (lv_room (Nat.le_of_ble_eq_true rfl)) dX4_guardNow_65 ⟨Nat.zero_le _, Nat.zero_le _⟩) (fun r_2 h => ?_)
        refine lv_if_eq (tgt := 85) hx hb dX4_guardNow_68 (by decide) (fun hc => ?_) (fun hc => ?_)
        · have h := h.1 hc
          refine lv_lconst (v := 0) hx hb dX4_guardNow_85 (by decide) ?_
          refine lv_lor hx hb dX4_guardNow_86 ?_
          refine lv_lstore hx hb dX4_guardNow_87 hl (Nat.le_of_ble_eq_true rfl) rfl (fun ls hl => ?_)
          have hl : lv_has ls 10 [(7, .long (i7 ||| (0 : Int64))), (0, .ref m0), (1, .int p1), (2, .int p2), (3, .ref y0), (4, .int (0 : Int32)), (5, .long r_1), (9, .int i9)] := hl
          refine lv_iinc (v := (i9 + 1)) hx hb dX4_guardNow_89 hl (k := 7) rfl (by rw [show Int32.ofInt 1 = 1 from by decide]) (Nat.le_of_ble_eq_true rfl) rfl (fun ls hl => ?_)
          have hl : lv_has ls 10 [(9, .int (i9 + 1)), (7, .long (i7 ||| (0 : Int64))), (0, .ref m0), (1, .int p1), (2, .int p2), (3, .ref y0), (4, .int (0 : Int32)), (5, .long r_1)] := hl
          refine lv_goto (tgt := 50) hx hb dX4_guardNow_92 (by decide) ?_
          have hl := lv_sub (l' := [(0, .ref m0), (1, .int p1), (2, .int p2), (3, .ref y0), (4, .int (0 : Int32)), (5, .long r_1), (7, .long (i7 ||| (0 : Int64))), (9, .int (i9 + 1))]) hl [2, 3, 4, 5, 6, 7, 1, 0] rfl
          exact ih _ _ ls hl h
        · have h := h.2 hc
          refine lv_lconst (v := 1) hx hb dX4_guardNow_71 (by decide) ?_
          refine lv_aload_n hx hb dX4_guardNow_72 rfl (lv_at hl 0 rfl) ?_
          refine va_get (D := G.1) (ci := 7) (v := .ref dO) (C := RX4) (T := TX4) (N := 15) hx hb hts igX4 hown hK hP 0 rfl rfl 3 (by decide) (hts _ q1008) (fun _ h9 => h9) rfl dX4_guardNow_73 ?_
          refine lv_iload_n hx hb dX4_guardNow_76 rfl (lv_at hl 1 rfl) ?_
          obtain ⟨hin, h⟩ := h
          have hf_1 : p1.toNatClampNeg < 6 := vpLt hin
          refine va_aldA (b := dr (p1.toNatClampNeg)) hx hb hK hP 1 4 rfl rfl hin (if_pos hf_1) dX4_guardNow_77 ?_
          refine lv_iload hx hb dX4_guardNow_78 (lv_at hl 7 rfl) ?_
          obtain ⟨hin, h⟩ := h
          refine va_iald (D := G.1) (f := DD (p1.toNatClampNeg)) hx hb hK hP (2 + (p1.toNatClampNeg)) 0 (famget6 (pre := [(m0, .inr (7, [.int th, .int mr, .long po, .ref dO, .ref sl, .ref ct0, .int mf, .int sp, .ref st0, .ref fs0, .ref jn0, .ref rw0, .ref fd0, .ref af0, .ref kO])), (dO, .inl (G.2 4, 6, .inr (.inr (.inr (.inr (fun k => if k < 6 then some (dr k) else none))))))]) (post := [(ct0, .inl (G.2 0, 6, .inl ctf)), (st0, .inl (G.2 0, 4096, .inl stf)), (fs0, .inl (G.2 0, 4096, .inl fsf)), (jn0, .inl (G.2 0, 64, .inl jnf)), (rw0, .inl (G.2 0, 64, .inl rwf)), (fd0, .inl (G.2 1, 40, .inr (.inl fdf))), (af0, .inl (G.2 3, 40, .inl aff)), (kO, .inl (G.2 4, 4, .inr (.inr (.inr (.inr (fun k => if k < 4 then some (kr k) else none)))))), (kr 0, .inl (G.2 0, 64, .inl (KP 0))), (kr 1, .inl (G.2 0, 64, .inl (KP 1))), (kr 2, .inl (G.2 0, 64, .inl (KP 2))), (kr 3, .inl (G.2 0, 64, .inl (KP 3))), (y0, .inl (G.2 1, yn, .inr (.inl yf)))]) (fun j => (dr j, .inl (G.2 0, 64, .inl (DD j)))) hf_1) rfl hin dX4_guardNow_80 ?_
          refine lv_lshl (v := (jLshl (1 : Int64) (DD (p1.toNatClampNeg) i9.toNatClampNeg))) hx hb dX4_guardNow_81 rfl ?_
          refine lv_goto (tgt := 86) hx hb dX4_guardNow_82 (by decide) ?_
          refine lv_lor hx hb dX4_guardNow_86 ?_
          refine lv_topl (fun x_1 ex_1 => ?_)
          have h := h x_1 ex_1
          refine lv_lstore hx hb dX4_guardNow_87 hl (Nat.le_of_ble_eq_true rfl) rfl (fun ls hl => ?_)
          have hl : lv_has ls 10 [(7, .long x_1), (0, .ref m0), (1, .int p1), (2, .int p2), (3, .ref y0), (4, .int (0 : Int32)), (5, .long r_1), (9, .int i9)] := hl
          refine lv_iinc (v := (i9 + 1)) hx hb dX4_guardNow_89 hl (k := 7) rfl (by rw [show Int32.ofInt 1 = 1 from by decide]) (Nat.le_of_ble_eq_true rfl) rfl (fun ls hl => ?_)
          have hl : lv_has ls 10 [(9, .int (i9 + 1)), (7, .long x_1), (0, .ref m0), (1, .int p1), (2, .int p2), (3, .ref y0), (4, .int (0 : Int32)), (5, .long r_1)] := hl
          refine lv_goto (tgt := 50) hx hb dX4_guardNow_92 (by decide) ?_
          have hl := lv_sub (l' := [(0, .ref m0), (1, .int p1), (2, .int p2), (3, .ref y0), (4, .int (0 : Int32)), (5, .long r_1), (7, .long x_1), (9, .int (i9 + 1))]) hl [2, 3, 4, 5, 6, 7, 1, 0] rfl
          exact ih _ _ ls hl h
  have loop110 : ∀ (K168 : Int32 → Int32 → Prop) (r_1 : Int64), True → (∀ (i4 : Int32) (i7' : Int32) (ls : Array Slot), lv_has ls 10 [(0, .ref m0), (1, .int p1), (2, .int p2), (3, .ref y0), (4, .int i4), (5, .long r_1), (7, .int i7')] → K168 i4 i7' → W p l e (headSpec (wl_X4_guardNow) rm_X4_guardNow).room s m ([.ref m0, .int p1, .int p2, .ref y0] : List Value).toArray below meth c s.heap [] 0 0 (MQ below (vp_Si post) ([.ref m0, .int p1, .int p2, .ref y0] : List Value).toArray s 0 0 (fun _ => False)) (F0 m 168 ls [])) → ∀ (n : Nat) (i4 : Int32) (i7' : Int32) (ls : Array Slot), lv_has ls 10 [(0, .ref m0), (1, .int p1), (2, .int p2), (3, .ref y0), (4, .int i4), (5, .long r_1), (7, .int i7')] → wX4_guardNow_L110 post K168 po r_1 n i4 i7' → W p l e (headSpec (wl_X4_guardNow) rm_X4_guardNow).room s m ([.ref m0, .int p1, .int p2, .ref y0] : List Value).toArray below meth c s.heap [] 0 0 (MQ below (vp_Si post) ([.ref m0, .int p1, .int p2, .ref y0] : List Value).toArray s 0 0 (fun _ => False)) (F0 m 110 ls []) := by
    intro K168 r_1 _ hexit168 n
    induction n with
    | zero => intro i4 i7' ls hl h; exact False.elim h
    | succ n ih =>
      intro i4 i7' ls hl h
      refine lv_iload hx hb dX4_guardNow_110 (lv_at hl 6 rfl) ?_
      refine lv_bipush (v := 6) hx hb dX4_guardNow_112 (by decide) ?_
      refine lv_icmp_ge (tgt := 168) hx hb dX4_guardNow_114 (by decide) (fun hc => ?_) (fun hc => ?_)
      · have h := h.1 hc
        have hl := lv_sub (l' := [(0, .ref m0), (1, .int p1), (2, .int p2), (3, .ref y0), (4, .int i4), (5, .long r_1), (7, .int i7')]) hl [0, 1, 2, 3, 4, 5, 6] rfl
        exact hexit168 _ _ ls hl h
      · have h := h.2 hc
        refine lv_iload hx hb dX4_guardNow_117 (lv_at hl 4 rfl) ?_
        refine lv_lload hx hb dX4_guardNow_119 (lv_at hl 5 rfl) ?_
        refine lv_aload_n hx hb dX4_guardNow_121 rfl (lv_at hl 0 rfl) ?_
        refine lv_iload hx hb dX4_guardNow_122 (lv_at hl 6 rfl) ?_
        have hPc := va_P.sub (ws' := [(m0, .inr (7, [.int th, .int mr, .long po, .ref dO, .ref sl, .ref ct0, .int mf, .int sp, .ref st0, .ref fs0, .ref jn0, .ref rw0, .ref fd0, .ref af0, .ref kO])), (dO, .inl (G.2 4, 6, .inr (.inr (.inr (.inr (fun k => if k < 6 then some (dr k) else none)))))), (dr 0, .inl (G.2 0, 64, .inl (DD 0))), (dr 1, .inl (G.2 0, 64, .inl (DD 1))), (dr 2, .inl (G.2 0, 64, .inl (DD 2))), (dr 3, .inl (G.2 0, 64, .inl (DD 3))), (dr 4, .inl (G.2 0, 64, .inl (DD 4))), (dr 5, .inl (G.2 0, 64, .inl (DD 5))), (ct0, .inl (G.2 0, 6, .inl ctf)), (st0, .inl (G.2 0, 4096, .inl stf)), (fs0, .inl (G.2 0, 4096, .inl fsf)), (jn0, .inl (G.2 0, 64, .inl jnf)), (rw0, .inl (G.2 0, 64, .inl rwf)), (fd0, .inl (G.2 1, 40, .inr (.inl fdf))), (af0, .inl (G.2 3, 40, .inl aff)), (kO, .inl (G.2 4, 4, .inr (.inr (.inr (.inr (fun k => if k < 4 then some (kr k) else none)))))), (kr 0, .inl (G.2 0, 64, .inl (KP 0))), (kr 1, .inl (G.2 0, 64, .inl (KP 1))), (kr 2, .inl (G.2 0, 64, .inl (KP 2))), (kr 3, .inl (G.2 0, 64, .inl (KP 3)))]) hP [0, 1, 2, 3, 4, 5, 6, 7, 8, 9, 10, 11, 12, 13, 14, 15, 16, 17, 18, 19] rfl
        refine rdL (va_runV (C := RX4) (As := [.int i7']) (rest := [.long r_1, .int i4]) ⟨hx, hb, hml, hown, hts⟩ (kX4_fact l G m0 dO sl ct0 st0 fs0 jn0 rw0 fd0 af0 kO dr kr sa th mr po mf sp DD ctf stf fsf jnf rwf fdf aff KP sn sq i7' h) (cwV 1 hts (gdV q1107 q1109 qs13 q6 q1110) rfl rfl rfl (by decide +kernel) ⟨Nat.le_of_ble_eq_true rfl, Nat.le_of_ble_eq_true rfl⟩) (preV hPc hKK (va_recv hK hPc (ci := 7) (q0 := 0) rfl rfl)) rfl rfl hl.1 rfl (lv_room (Nat.le_of_ble_eq_true rfl)) dX4_guardNow_124 ⟨Nat.zero_le _, Nat.zero_le _⟩) (fun r_5 h => ?_)
        refine lv_land hx hb dX4_guardNow_127 ?_
        refine lv_lconst (v := 0) hx hb dX4_guardNow_128 (by decide) ?_
        refine W.lcmp hx hb dX4_guardNow_129 ?_
        refine lv_if_eq (tgt := 151) hx hb dX4_guardNow_130 (by decide) (fun hc => ?_) (fun hc => ?_)
        · have h := h.1 hc
          refine lv_iconst (v := 1) hx hb dX4_guardNow_151 (by decide) ?_
          refine lv_iload hx hb dX4_guardNow_152 (lv_at hl 6 rfl) ?_
          refine lv_ishl hx hb dX4_guardNow_154 ?_
          refine lv_goto (tgt := 159) hx hb dX4_guardNow_155 (by decide) ?_
          refine lv_ior hx hb dX4_guardNow_159 ?_
          refine lv_istore hx hb dX4_guardNow_160 hl (Nat.le_of_ble_eq_true rfl) rfl (fun ls hl => ?_)
          have hl : lv_has ls 10 [(4, .int (i4 ||| ((1 : Int32) <<< (i7' &&& 31)))), (0, .ref m0), (1, .int p1), (2, .int p2), (3, .ref y0), (5, .long r_1), (7, .int i7')] := hl
          refine lv_iinc (v := (i7' + 1)) hx hb dX4_guardNow_162 hl (k := 6) rfl (by rw [show Int32.ofInt 1 = 1 from by decide]) (Nat.le_of_ble_eq_true rfl) rfl (fun ls hl => ?_)
          have hl : lv_has ls 10 [(7, .int (i7' + 1)), (4, .int (i4 ||| ((1 : Int32) <<< (i7' &&& 31)))), (0, .ref m0), (1, .int p1), (2, .int p2), (3, .ref y0), (5, .long r_1)] := hl
          refine lv_goto (tgt := 110) hx hb dX4_guardNow_165 (by decide) ?_
          have hl := lv_sub (l' := [(0, .ref m0), (1, .int p1), (2, .int p2), (3, .ref y0), (4, .int (i4 ||| ((1 : Int32) <<< (i7' &&& 31)))), (5, .long r_1), (7, .int (i7' + 1))]) hl [2, 3, 4, 5, 1, 6, 0] rfl
          exact ih _ _ ls hl h
        · have h := h.2 hc
          refine lv_lload hx hb dX4_guardNow_133 (lv_at hl 5 rfl) ?_
          refine lv_aload_n hx hb dX4_guardNow_135 rfl (lv_at hl 0 rfl) ?_
          refine lv_iload hx hb dX4_guardNow_136 (lv_at hl 6 rfl) ?_
          have hPc := va_P.sub (ws' := [(m0, .inr (7, [.int th, .int mr, .long po, .ref dO, .ref sl, .ref ct0, .int mf, .int sp, .ref st0, .ref fs0, .ref jn0, .ref rw0, .ref fd0, .ref af0, .ref kO])), (dO, .inl (G.2 4, 6, .inr (.inr (.inr (.inr (fun k => if k < 6 then some (dr k) else none)))))), (dr 0, .inl (G.2 0, 64, .inl (DD 0))), (dr 1, .inl (G.2 0, 64, .inl (DD 1))), (dr 2, .inl (G.2 0, 64, .inl (DD 2))), (dr 3, .inl (G.2 0, 64, .inl (DD 3))), (dr 4, .inl (G.2 0, 64, .inl (DD 4))), (dr 5, .inl (G.2 0, 64, .inl (DD 5))), (ct0, .inl (G.2 0, 6, .inl ctf)), (st0, .inl (G.2 0, 4096, .inl stf)), (fs0, .inl (G.2 0, 4096, .inl fsf)), (jn0, .inl (G.2 0, 64, .inl jnf)), (rw0, .inl (G.2 0, 64, .inl rwf)), (fd0, .inl (G.2 1, 40, .inr (.inl fdf))), (af0, .inl (G.2 3, 40, .inl aff)), (kO, .inl (G.2 4, 4, .inr (.inr (.inr (.inr (fun k => if k < 4 then some (kr k) else none)))))), (kr 0, .inl (G.2 0, 64, .inl (KP 0))), (kr 1, .inl (G.2 0, 64, .inl (KP 1))), (kr 2, .inl (G.2 0, 64, .inl (KP 2))), (kr 3, .inl (G.2 0, 64, .inl (KP 3)))]) hP [0, 1, 2, 3, 4, 5, 6, 7, 8, 9, 10, 11, 12, 13, 14, 15, 16, 17, 18, 19] rfl
          refine rdL (va_runV (C := RX4) (As := [.int i7']) (rest := [.long r_1, .int i4]) ⟨hx, hb, hml, hown, hts⟩ (kX4_fact l G m0 dO sl ct0 st0 fs0 jn0 rw0 fd0 af0 kO dr kr sa th mr po mf sp DD ctf stf fsf jnf rwf fdf aff KP sn sq i7' h) (cwV 1 hts (gdV q1107 q1109 qs13 q6 q1110) rfl rfl rfl (by decide +kernel) ⟨Nat.le_of_ble_eq_true rfl, Nat.le_of_ble_eq_true rfl⟩) (preV hPc hKK (va_recv hK hPc (ci := 7) (q0 := 0) rfl rfl)) rfl rfl hl.1 rfl (lv_room (Nat.le_of_ble_eq_true rfl)) dX4_guardNow_138 ⟨Nat.zero_le _, Nat.zero_le _⟩) (fun r_6 h => ?_)
          refine lv_ldc2 hx hb hown (hts _ q976) dX4_guardNow_141 ?_
          refine lv_lxor hx hb dX4_guardNow_144 ?_
          refine lv_land hx hb dX4_guardNow_145 ?_
          refine lv_lconst (v := 0) hx hb dX4_guardNow_146 (by decide) ?_
          refine W.lcmp hx hb dX4_guardNow_147 ?_
          refine lv_if_ne (tgt := 158) hx hb dX4_guardNow_148 (by decide) (fun hc => ?_) (fun hc => ?_)
          · have h := h.1 hc
            refine lv_iconst (v := 0) hx hb dX4_guardNow_158 (by decide) ?_
            refine lv_ior hx hb dX4_guardNow_159 ?_
            refine lv_istore hx hb dX4_guardNow_160 hl (Nat.le_of_ble_eq_true rfl) rfl (fun ls hl => ?_)
            have hl : lv_has ls 10 [(4, .int (i4 ||| (0 : Int32))), (0, .ref m0), (1, .int p1), (2, .int p2), (3, .ref y0), (5, .long r_1), (7, .int i7')] := hl
            refine lv_iinc (v := (i7' + 1)) hx hb dX4_guardNow_162 hl (k := 6) rfl (by rw [show Int32.ofInt 1 = 1 from by decide]) (Nat.le_of_ble_eq_true rfl) rfl (fun ls hl => ?_)
            have hl : lv_has ls 10 [(7, .int (i7' + 1)), (4, .int (i4 ||| (0 : Int32))), (0, .ref m0), (1, .int p1), (2, .int p2), (3, .ref y0), (5, .long r_1)] := hl
            refine lv_goto (tgt := 110) hx hb dX4_guardNow_165 (by decide) ?_
            have hl := lv_sub (l' := [(0, .ref m0), (1, .int p1), (2, .int p2), (3, .ref y0), (4, .int (i4 ||| (0 : Int32))), (5, .long r_1), (7, .int (i7' + 1))]) hl [2, 3, 4, 5, 1, 6, 0] rfl
            exact ih _ _ ls hl h
          · have h := h.2 hc
            refine lv_iconst (v := 1) hx hb dX4_guardNow_151 (by decide) ?_
            refine lv_iload hx hb dX4_guardNow_152 (lv_at hl 6 rfl) ?_
            refine lv_ishl hx hb dX4_guardNow_154 ?_
            refine lv_goto (tgt := 159) hx hb dX4_guardNow_155 (by decide) ?_
            refine lv_ior hx hb dX4_guardNow_159 ?_
            refine lv_istore hx hb dX4_guardNow_160 hl (Nat.le_of_ble_eq_true rfl) rfl (fun ls hl => ?_)
            have hl : lv_has ls 10 [(4, .int (i4 ||| ((1 : Int32) <<< (i7' &&& 31)))), (0, .ref m0), (1, .int p1), (2, .int p2), (3, .ref y0), (5, .long r_1), (7, .int i7')] := hl
            refine lv_iinc (v := (i7' + 1)) hx hb dX4_guardNow_162 hl (k := 6) rfl (by rw [show Int32.ofInt 1 = 1 from by decide]) (Nat.le_of_ble_eq_true rfl) rfl (fun ls hl => ?_)
            have hl : lv_has ls 10 [(7, .int (i7' + 1)), (4, .int (i4 ||| ((1 : Int32) <<< (i7' &&& 31)))), (0, .ref m0), (1, .int p1), (2, .int p2), (3, .ref y0), (5, .long r_1)] := hl
            refine lv_goto (tgt := 110) hx hb dX4_guardNow_165 (by decide) ?_
            have hl := lv_sub (l' := [(0, .ref m0), (1, .int p1), (2, .int p2), (3, .ref y0), (4, .int (i4 ||| ((1 : Int32) <<< (i7' &&& 31)))), (5, .long r_1), (7, .int (i7' + 1))]) hl [2, 3, 4, 5, 1, 6, 0] rfl
            exact ih _ _ ls hl h
  have loop181 : ∀ (K217 : Int32 → Int32 → Prop) (r_1 : Int64), True → (∀ (i4 : Int32) (i7' : Int32) (ls : Array Slot), lv_has ls 10 [(0, .ref m0), (1, .int p1), (2, .int p2), (3, .ref y0), (4, .int i4), (5, .long r_1), (7, .int i7')] → K217 i4 i7' → W p l e (headSpec (wl_X4_guardNow) rm_X4_guardNow).room s m ([.ref m0, .int p1, .int p2, .ref y0] : List Value).toArray below meth c s.heap [] 0 0 (MQ below (vp_Si post) ([.ref m0, .int p1, .int p2, .ref y0] : List Value).toArray s 0 0 (fun _ => False)) (F0 m 217 ls [])) → ∀ (n : Nat) (i4 : Int32) (i7' : Int32) (ls : Array Slot), lv_has ls 10 [(0, .ref m0), (1, .int p1), (2, .int p2), (3, .ref y0), (4, .int i4), (5, .long r_1), (7, .int i7')] → wX4_guardNow_L181 post K217 po DD p1 n i4 i7' → W p l e (headSpec (wl_X4_guardNow) rm_X4_guardNow).room s m ([.ref m0, .int p1, .int p2, .ref y0] : List Value).toArray below meth c s.heap [] 0 0 (MQ below (vp_Si post) ([.ref m0, .int p1, .int p2, .ref y0] : List Value).toArray s 0 0 (fun _ => False)) (F0 m 181 ls []) := by
    intro K217 r_1 _ hexit217 n
    induction n with
    | zero => intro i4 i7' ls hl h; exact False.elim h
    | succ n ih =>
      intro i4 i7' ls hl h
      refine lv_iload hx hb dX4_guardNow_181 (lv_at hl 6 rfl) ?_
      refine lv_bipush (v := 6) hx hb dX4_guardNow_183 (by decide) ?_
      refine lv_icmp_ge (tgt := 217) hx hb dX4_guardNow_185 (by decide) (fun hc => ?_) (fun hc => ?_)
      · have h := h.1 hc
        have hl := lv_sub (l' := [(0, .ref m0), (1, .int p1), (2, .int p2), (3, .ref y0), (4, .int i4), (5, .long r_1), (7, .int i7')]) hl [0, 1, 2, 3, 4, 5, 6] rfl
        exact hexit217 _ _ ls hl h
      · have h := h.2 hc
        refine lv_iload hx hb dX4_guardNow_188 (lv_at hl 4 rfl) ?_
        refine lv_aload_n hx hb dX4_guardNow_190 rfl (lv_at hl 0 rfl) ?_
        refine lv_iload hx hb dX4_guardNow_191 (lv_at hl 6 rfl) ?_
        refine lv_iload_n hx hb dX4_guardNow_193 rfl (lv_at hl 1 rfl) ?_
        have hPc := va_P.sub (ws' := [(m0, .inr (7, [.int th, .int mr, .long po, .ref dO, .ref sl, .ref ct0, .int mf, .int sp, .ref st0, .ref fs0, .ref jn0, .ref rw0, .ref fd0, .ref af0, .ref kO])), (dO, .inl (G.2 4, 6, .inr (.inr (.inr (.inr (fun k => if k < 6 then some (dr k) else none)))))), (dr 0, .inl (G.2 0, 64, .inl (DD 0))), (dr 1, .inl (G.2 0, 64, .inl (DD 1))), (dr 2, .inl (G.2 0, 64, .inl (DD 2))), (dr 3, .inl (G.2 0, 64, .inl (DD 3))), (dr 4, .inl (G.2 0, 64, .inl (DD 4))), (dr 5, .inl (G.2 0, 64, .inl (DD 5))), (ct0, .inl (G.2 0, 6, .inl ctf)), (st0, .inl (G.2 0, 4096, .inl stf)), (fs0, .inl (G.2 0, 4096, .inl fsf)), (jn0, .inl (G.2 0, 64, .inl jnf)), (rw0, .inl (G.2 0, 64, .inl rwf)), (fd0, .inl (G.2 1, 40, .inr (.inl fdf))), (af0, .inl (G.2 3, 40, .inl aff)), (kO, .inl (G.2 4, 4, .inr (.inr (.inr (.inr (fun k => if k < 4 then some (kr k) else none)))))), (kr 0, .inl (G.2 0, 64, .inl (KP 0))), (kr 1, .inl (G.2 0, 64, .inl (KP 1))), (kr 2, .inl (G.2 0, 64, .inl (KP 2))), (kr 3, .inl (G.2 0, 64, .inl (KP 3)))]) hP [0, 1, 2, 3, 4, 5, 6, 7, 8, 9, 10, 11, 12, 13, 14, 15, 16, 17, 18, 19] rfl
        refine rdI (va_runV (C := RX4) (As := [.int i7', .int p1]) (rest := [.int i4]) ⟨hx, hb, hml, hown, hts⟩ (kX4_isFiner l G m0 dO sl ct0 st0 fs0 jn0 rw0 fd0 af0 kO dr kr sa th mr po mf sp DD ctf stf fsf jnf rwf fdf aff KP sn sq i7' p1 h) (cwV 2 hts (gdV q1320 q1322 qs38 q6 q1323) rfl rfl rfl (by decide +kernel) ⟨Nat.le_of_ble_eq_true rfl, Nat.le_of_ble_eq_true rfl⟩) (preV hPc hKK (va_recv hK hPc (ci := 7) (q0 := 0) rfl rfl)) rfl rfl hl.1 rfl (lv_room (Nat.le_of_ble_eq_true rfl)) dX4_guardNow_194 ⟨Nat.zero_le _, Nat.zero_le _⟩) (fun r_8 h => ?_)
        refine lv_if_eq (tgt := 207) hx hb dX4_guardNow_197 (by decide) (fun hc => ?_) (fun hc => ?_)
        · have h := h.1 hc
          refine lv_iconst (v := 0) hx hb dX4_guardNow_207 (by decide) ?_
          refine lv_ior hx hb dX4_guardNow_208 ?_
          refine lv_istore hx hb dX4_guardNow_209 hl (Nat.le_of_ble_eq_true rfl) rfl (fun ls hl => ?_)
          have hl : lv_has ls 10 [(4, .int (i4 ||| (0 : Int32))), (0, .ref m0), (1, .int p1), (2, .int p2), (3, .ref y0), (5, .long r_1), (7, .int i7')] := hl
          refine lv_iinc (v := (i7' + 1)) hx hb dX4_guardNow_211 hl (k := 6) rfl (by rw [show Int32.ofInt 1 = 1 from by decide]) (Nat.le_of_ble_eq_true rfl) rfl (fun ls hl => ?_)
          have hl : lv_has ls 10 [(7, .int (i7' + 1)), (4, .int (i4 ||| (0 : Int32))), (0, .ref m0), (1, .int p1), (2, .int p2), (3, .ref y0), (5, .long r_1)] := hl
          refine lv_goto (tgt := 181) hx hb dX4_guardNow_214 (by decide) ?_
          have hl := lv_sub (l' := [(0, .ref m0), (1, .int p1), (2, .int p2), (3, .ref y0), (4, .int (i4 ||| (0 : Int32))), (5, .long r_1), (7, .int (i7' + 1))]) hl [2, 3, 4, 5, 1, 6, 0] rfl
          exact ih _ _ ls hl h
        · have h := h.2 hc
          refine lv_iconst (v := 1) hx hb dX4_guardNow_200 (by decide) ?_
          refine lv_iload hx hb dX4_guardNow_201 (lv_at hl 6 rfl) ?_
          refine lv_ishl hx hb dX4_guardNow_203 ?_
          refine lv_goto (tgt := 208) hx hb dX4_guardNow_204 (by decide) ?_
          refine lv_ior hx hb dX4_guardNow_208 ?_
          refine lv_istore hx hb dX4_guardNow_209 hl (Nat.le_of_ble_eq_true rfl) rfl (fun ls hl => ?_)
          have hl : lv_has ls 10 [(4, .int (i4 ||| ((1 : Int32) <<< (i7' &&& 31)))), (0, .ref m0), (1, .int p1), (2, .int p2), (3, .ref y0), (5, .long r_1), (7, .int i7')] := hl
          refine lv_iinc (v := (i7' + 1)) hx hb dX4_guardNow_211 hl (k := 6) rfl (by rw [show Int32.ofInt 1 = 1 from by decide]) (Nat.le_of_ble_eq_true rfl) rfl (fun ls hl => ?_)
          have hl : lv_has ls 10 [(7, .int (i7' + 1)), (4, .int (i4 ||| ((1 : Int32) <<< (i7' &&& 31)))), (0, .ref m0), (1, .int p1), (2, .int p2), (3, .ref y0), (5, .long r_1)] := hl
          refine lv_goto (tgt := 181) hx hb dX4_guardNow_214 (by decide) ?_
          have hl := lv_sub (l' := [(0, .ref m0), (1, .int p1), (2, .int p2), (3, .ref y0), (4, .int (i4 ||| ((1 : Int32) <<< (i7' &&& 31)))), (5, .long r_1), (7, .int (i7' + 1))]) hl [2, 3, 4, 5, 1, 6, 0] rfl
          exact ih _ _ ls hl h
  refine lv_iconst (v := 0) hx hb dX4_guardNow_0 (by decide) ?_
  refine lv_istore hx hb dX4_guardNow_1 hl (Nat.le_of_ble_eq_true rfl) rfl (fun ls hl => ?_)
  have hl : lv_has ls 10 [(4, .int (0 : Int32)), (0, .ref m0), (1, .int p1), (2, .int p2), (3, .ref y0)] := hl
  refine lv_aload_n hx hb dX4_guardNow_3 rfl (lv_at hl 1 rfl) ?_
  refine lv_iload_n hx hb dX4_guardNow_4 rfl (lv_at hl 2 rfl) ?_
  refine lv_aload_n hx hb dX4_guardNow_5 rfl (lv_at hl 1 rfl) ?_
  refine va_get (D := G.1) (ci := 7) (v := .int mr) (C := RX4) (T := TX4) (N := 15) hx hb hts igX4 hown hK hP 0 rfl rfl 1 (by decide) (hts _ q1006) (fun _ h9 => h9) rfl dX4_guardNow_6 ?_
  have hPc := va_P.sub (ws' := [(m0, .inr (7, [.int th, .int mr, .long po, .ref dO, .ref sl, .ref ct0, .int mf, .int sp, .ref st0, .ref fs0, .ref jn0, .ref rw0, .ref fd0, .ref af0, .ref kO])), (dO, .inl (G.2 4, 6, .inr (.inr (.inr (.inr (fun k => if k < 6 then some (dr k) else none)))))), (dr 0, .inl (G.2 0, 64, .inl (DD 0))), (dr 1, .inl (G.2 0, 64, .inl (DD 1))), (dr 2, .inl (G.2 0, 64, .inl (DD 2))), (dr 3, .inl (G.2 0, 64, .inl (DD 3))), (dr 4, .inl (G.2 0, 64, .inl (DD 4))), (dr 5, .inl (G.2 0, 64, .inl (DD 5))), (ct0, .inl (G.2 0, 6, .inl ctf)), (st0, .inl (G.2 0, 4096, .inl stf)), (fs0, .inl (G.2 0, 4096, .inl fsf)), (jn0, .inl (G.2 0, 64, .inl jnf)), (rw0, .inl (G.2 0, 64, .inl rwf)), (fd0, .inl (G.2 1, 40, .inr (.inl fdf))), (af0, .inl (G.2 3, 40, .inl aff)), (kO, .inl (G.2 4, 4, .inr (.inr (.inr (.inr (fun k => if k < 4 then some (kr k) else none)))))), (kr 0, .inl (G.2 0, 64, .inl (KP 0))), (kr 1, .inl (G.2 0, 64, .inl (KP 1))), (kr 2, .inl (G.2 0, 64, .inl (KP 2))), (kr 3, .inl (G.2 0, 64, .inl (KP 3)))]) hP [0, 1, 2, 3, 4, 5, 6, 7, 8, 9, 10, 11, 12, 13, 14, 15, 16, 17, 18, 19] rfl
  refine rdL (va_runV (C := RX4) (As := [.int p1, .int mr]) (rest := []) ⟨hx, hb, hml, hown, hts⟩ (kX4_alikeNow l G m0 dO sl ct0 st0 fs0 jn0 rw0 fd0 af0 kO dr kr sa th mr po mf sp DD ctf stf fsf jnf rwf fdf aff KP sn sq p1 mr h) (cwV 2 hts (gdV q1219 q1221 qs26 q6 q1222) rfl rfl rfl (by decide +kernel) ⟨Nat.le_of_ble_eq_true rfl, Nat.le_of_ble_eq_true rfl⟩) (preV hPc hKK (va_recv hK hPc (ci := 7) (q0 := 0) rfl rfl)) rfl rfl hl.1 rfl (lv_room (Nat.le_of_ble_eq_true rfl)) dX4_guardNow_9 ⟨Nat.zero_le _, Nat.zero_le _⟩) (fun r_1 h => ?_)
  refine lv_lstore hx hb dX4_guardNow_12 hl (Nat.le_of_ble_eq_true rfl) rfl (fun ls hl => ?_)
  have hl : lv_has ls 10 [(5, .long r_1), (4, .int (0 : Int32)), (0, .ref m0), (1, .int p1), (2, .int p2), (3, .ref y0)] := hl
  refine lv_iload_n hx hb dX4_guardNow_14 rfl (lv_at hl 4 rfl) ?_
  by_cases hc0 : p2 = 0
  · have h := h.1 hc0
    refine lv_tableIn (tgt := 44) hx hb dX4_guardNow_15 (by rw [hc0]; decide) (by rw [hc0]; decide) (by rw [hc0]; rfl) (by decide) ?_
    refine lv_lconst (v := 0) hx hb dX4_guardNow_44 (by decide) ?_
    refine lv_lstore hx hb dX4_guardNow_45 hl (Nat.le_of_ble_eq_true rfl) rfl (fun ls hl => ?_)
    have hl : lv_has ls 10 [(7, .long (0 : Int64)), (5, .long r_1), (4, .int (0 : Int32)), (0, .ref m0), (1, .int p1), (2, .int p2), (3, .ref y0)] := hl
    refine lv_iconst (v := 0) hx hb dX4_guardNow_47 (by decide) ?_
    refine lv_istore hx hb dX4_guardNow_48 hl (Nat.le_of_ble_eq_true rfl) rfl (fun ls hl => ?_)
    have hl : lv_has ls 10 [(9, .int (0 : Int32)), (7, .long (0 : Int64)), (5, .long r_1), (4, .int (0 : Int32)), (0, .ref m0), (1, .int p1), (2, .int p2), (3, .ref y0)] := hl
    have hl := lv_sub (l' := [(0, .ref m0), (1, .int p1), (2, .int p2), (3, .ref y0), (4, .int (0 : Int32)), (5, .long r_1), (7, .long (0 : Int64)), (9, .int (0 : Int32))]) hl [4, 5, 6, 7, 3, 2, 1, 0] rfl
    obtain ⟨nF, h⟩ := h
    refine loop50 _ r_1 trivial ?_ nF (0 : Int64) (0 : Int32) _ hl h
    · intro i7 i9 ls hl h
      refine lv_lload hx hb dX4_guardNow_95 (lv_at hl 6 rfl) ?_
      have hPc := va_P.sub (ws' := []) hP [] rfl
      refine rdI (va_runS (As := [.long i7]) (rest := []) ⟨hx, hb, hml, hown, hts⟩ (kX4_size_ l G i7 h) (va_cwS 1 hts (gdS q1227 q1228 q6 q1229) rfl rfl rfl (by decide +kernel) ⟨Nat.le_of_ble_eq_true rfl, Nat.le_of_ble_eq_true rfl⟩) (preS hPc hKK) rfl rfl hl.1 rfl (lv_room (Nat.le_of_ble_eq_true rfl)) dX4_guardNow_97 ⟨Nat.zero_le _, Nat.zero_le _⟩) (fun r_3 h => ?_)
      exact W.iret (v := r_3) hx hb hr (fun t ht _ => ⟨_, rfl, h, ht⟩) (fun _ hq => absurd hq List.not_mem_nil) dX4_guardNow_100
  have h := h.2 hc0
  by_cases hc1 : p2 = 1
  · have h := h.1 hc1
    refine lv_tableIn (tgt := 101) hx hb dX4_guardNow_15 (by rw [hc1]; decide) (by rw [hc1]; decide) (by rw [hc1]; rfl) (by decide) ?_
    refine lv_lload hx hb dX4_guardNow_101 (lv_at hl 0 rfl) ?_
    have hPc := va_P.sub (ws' := []) hP [] rfl
    refine rdI (va_runS (As := [.long r_1]) (rest := []) ⟨hx, hb, hml, hown, hts⟩ (kX4_size_ l G r_1 h) (va_cwS 1 hts (gdS q1227 q1228 q6 q1229) rfl rfl rfl (by decide +kernel) ⟨Nat.le_of_ble_eq_true rfl, Nat.le_of_ble_eq_true rfl⟩) (preS hPc hKK) rfl rfl hl.1 rfl (lv_room (Nat.le_of_ble_eq_true rfl)) dX4_guardNow_103 ⟨Nat.zero_le _, Nat.zero_le _⟩) (fun r_4 h => ?_)
    exact W.iret (v := r_4) hx hb hr (fun t ht _ => ⟨_, rfl, h, ht⟩) (fun _ hq => absurd hq List.not_mem_nil) dX4_guardNow_106
  have h := h.2 hc1
  by_cases hc2 : p2 = 2
  · have h := h.1 hc2
    refine lv_tableIn (tgt := 107) hx hb dX4_guardNow_15 (by rw [hc2]; decide) (by rw [hc2]; decide) (by rw [hc2]; rfl) (by decide) ?_
    refine lv_iconst (v := 0) hx hb dX4_guardNow_107 (by decide) ?_
    refine lv_istore hx hb dX4_guardNow_108 hl (Nat.le_of_ble_eq_true rfl) rfl (fun ls hl => ?_)
    have hl : lv_has ls 10 [(7, .int (0 : Int32)), (5, .long r_1), (4, .int (0 : Int32)), (0, .ref m0), (1, .int p1), (2, .int p2), (3, .ref y0)] := hl
    have hl := lv_sub (l' := [(0, .ref m0), (1, .int p1), (2, .int p2), (3, .ref y0), (4, .int (0 : Int32)), (5, .long r_1), (7, .int (0 : Int32))]) hl [3, 4, 5, 6, 2, 1, 0] rfl
    obtain ⟨nF, h⟩ := h
    refine loop110 _ r_1 trivial ?_ nF (0 : Int32) (0 : Int32) _ hl h
    · intro i4 i7' ls hl h
      refine lv_iload hx hb dX4_guardNow_168 (lv_at hl 4 rfl) ?_
      exact W.iret (v := i4) hx hb hr (fun t ht _ => ⟨_, rfl, h, ht⟩) (fun _ hq => absurd hq List.not_mem_nil) dX4_guardNow_170
  have h := h.2 hc2
  by_cases hc3 : p2 = 3
  · have h := h.1 hc3
    refine lv_tableIn (tgt := 171) hx hb dX4_guardNow_15 (by rw [hc3]; decide) (by rw [hc3]; decide) (by rw [hc3]; rfl) (by decide) ?_
    refine lv_aload_n hx hb dX4_guardNow_171 rfl (lv_at hl 2 rfl) ?_
    refine lv_iload_n hx hb dX4_guardNow_172 rfl (lv_at hl 3 rfl) ?_
    refine lv_aload_n hx hb dX4_guardNow_173 rfl (lv_at hl 5 rfl) ?_
    have hPc := hP
    refine rdI (va_runV (C := RX4) (As := [.int p1, .ref y0]) (rest := []) ⟨hx, hb, hml, hown, hts⟩ (kX4_knows l G m0 dO sl ct0 st0 fs0 jn0 rw0 fd0 af0 kO dr kr sa y0 th mr po mf sp DD ctf stf fsf jnf rwf fdf aff KP sn sq yn yf p1 h) (cwV 2 hts (gdV q1316 q1318 qs37 q6 q1319) rfl rfl rfl (by decide +kernel) ⟨Nat.le_of_ble_eq_true rfl, Nat.le_of_ble_eq_true rfl⟩) (preV hPc hKK (va_recv hK hPc (ci := 7) (q0 := 0) rfl rfl)) rfl rfl hl.1 rfl (lv_room (Nat.le_of_ble_eq_true rfl)) dX4_guardNow_174 ⟨Nat.zero_le _, Nat.zero_le _⟩) (fun r_7 h => ?_)
    exact W.iret (v := r_7) hx hb hr (fun t ht _ => ⟨_, rfl, h, ht⟩) (fun _ hq => absurd hq List.not_mem_nil) dX4_guardNow_177
  have h := h.2 hc3
  refine lv_tableOut (tgt := 178) hx hb dX4_guardNow_15 (tsw_0_3 hc0 hc1 hc2 hc3) (by decide) ?_
  refine lv_iconst (v := 0) hx hb dX4_guardNow_178 (by decide) ?_
  refine lv_istore hx hb dX4_guardNow_179 hl (Nat.le_of_ble_eq_true rfl) rfl (fun ls hl => ?_)
  have hl : lv_has ls 10 [(7, .int (0 : Int32)), (5, .long r_1), (4, .int (0 : Int32)), (0, .ref m0), (1, .int p1), (2, .int p2), (3, .ref y0)] := hl
  have hl := lv_sub (l' := [(0, .ref m0), (1, .int p1), (2, .int p2), (3, .ref y0), (4, .int (0 : Int32)), (5, .long r_1), (7, .int (0 : Int32))]) hl [3, 4, 5, 6, 2, 1, 0] rfl
  obtain ⟨nF, h⟩ := h
  refine loop181 _ r_1 trivial ?_ nF (0 : Int32) (0 : Int32) _ hl h
  · intro i4 i7' ls hl h
    refine lv_iload hx hb dX4_guardNow_217 (lv_at hl 4 rfl) ?_
    exact W.iret (v := i4) hx hb hr (fun t ht _ => ⟨_, rfl, h, ht⟩) (fun _ hq => absurd hq List.not_mem_nil) dX4_guardNow_219
theorem dX4_isSoundNow_0 : decode cX4_isSoundNow 0 = .ok (.aload_n 0, 1) := by decide +kernel
theorem dX4_isSoundNow_1 : decode cX4_isSoundNow 1 = .ok (.getfield 9, 3) := by decide +kernel
theorem dX4_isSoundNow_4 : decode cX4_isSoundNow 4 = .ok (.aload_n 0, 1) := by decide +kernel
theorem dX4_isSoundNow_5 : decode cX4_isSoundNow 5 = .ok (.getfield 127, 3) := by decide +kernel
theorem dX4_isSoundNow_8 : decode cX4_isSoundNow 8 = .ok (.invokestatic 58, 3) := by decide +kernel
theorem dX4_isSoundNow_11 : decode cX4_isSoundNow 11 = .ok (.ifCond .ne 5, 3) := by decide +kernel
theorem dX4_isSoundNow_14 : decode cX4_isSoundNow 14 = .ok (.iconst 0, 1) := by decide +kernel
theorem dX4_isSoundNow_15 : decode cX4_isSoundNow 15 = .ok (.ireturn, 1) := by decide +kernel
theorem dX4_isSoundNow_16 : decode cX4_isSoundNow 16 = .ok (.iconst 0, 1) := by decide +kernel
theorem dX4_isSoundNow_17 : decode cX4_isSoundNow 17 = .ok (.istore_n 2, 1) := by decide +kernel
theorem dX4_isSoundNow_18 : decode cX4_isSoundNow 18 = .ok (.iload_n 2, 1) := by decide +kernel
theorem dX4_isSoundNow_19 : decode cX4_isSoundNow 19 = .ok (.aload_n 1, 1) := by decide +kernel
theorem dX4_isSoundNow_20 : decode cX4_isSoundNow 20 = .ok (.arraylength, 1) := by decide +kernel
theorem dX4_isSoundNow_21 : decode cX4_isSoundNow 21 = .ok (.if_icmp .ge 144, 3) := by decide +kernel
theorem dX4_isSoundNow_24 : decode cX4_isSoundNow 24 = .ok (.iconst 0, 1) := by decide +kernel
theorem dX4_isSoundNow_25 : decode cX4_isSoundNow 25 = .ok (.istore_n 3, 1) := by decide +kernel
theorem dX4_isSoundNow_26 : decode cX4_isSoundNow 26 = .ok (.iload_n 3, 1) := by decide +kernel
theorem dX4_isSoundNow_27 : decode cX4_isSoundNow 27 = .ok (.bipush 6, 2) := by decide +kernel
theorem dX4_isSoundNow_29 : decode cX4_isSoundNow 29 = .ok (.if_icmp .ge 130, 3) := by decide +kernel
theorem dX4_isSoundNow_32 : decode cX4_isSoundNow 32 = .ok (.aload_n 0, 1) := by decide +kernel
theorem dX4_isSoundNow_33 : decode cX4_isSoundNow 33 = .ok (.iload_n 3, 1) := by decide +kernel
theorem dX4_isSoundNow_34 : decode cX4_isSoundNow 34 = .ok (.aload_n 1, 1) := by decide +kernel
theorem dX4_isSoundNow_35 : decode cX4_isSoundNow 35 = .ok (.iload_n 2, 1) := by decide +kernel
theorem dX4_isSoundNow_36 : decode cX4_isSoundNow 36 = .ok (.laload, 1) := by decide +kernel
theorem dX4_isSoundNow_37 : decode cX4_isSoundNow 37 = .ok (.invokevirtual 73, 3) := by decide +kernel
theorem dX4_isSoundNow_40 : decode cX4_isSoundNow 40 = .ok (.lstore 4, 2) := by decide +kernel
theorem dX4_isSoundNow_42 : decode cX4_isSoundNow 42 = .ok (.lload 4, 2) := by decide +kernel
theorem dX4_isSoundNow_44 : decode cX4_isSoundNow 44 = .ok (.aload_n 1, 1) := by decide +kernel
theorem dX4_isSoundNow_45 : decode cX4_isSoundNow 45 = .ok (.iload_n 2, 1) := by decide +kernel
theorem dX4_isSoundNow_46 : decode cX4_isSoundNow 46 = .ok (.laload, 1) := by decide +kernel
theorem dX4_isSoundNow_47 : decode cX4_isSoundNow 47 = .ok (.ldc2_w 7, 3) := by decide +kernel
theorem dX4_isSoundNow_50 : decode cX4_isSoundNow 50 = .ok (.lxor, 1) := by decide +kernel
theorem dX4_isSoundNow_51 : decode cX4_isSoundNow 51 = .ok (.land, 1) := by decide +kernel
theorem dX4_isSoundNow_52 : decode cX4_isSoundNow 52 = .ok (.lconst 0, 1) := by decide +kernel
theorem dX4_isSoundNow_53 : decode cX4_isSoundNow 53 = .ok (.lcmp, 1) := by decide +kernel
theorem dX4_isSoundNow_54 : decode cX4_isSoundNow 54 = .ok (.ifCond .ne 28, 3) := by decide +kernel
theorem dX4_isSoundNow_57 : decode cX4_isSoundNow 57 = .ok (.lload 4, 2) := by decide +kernel
theorem dX4_isSoundNow_59 : decode cX4_isSoundNow 59 = .ok (.aload_n 0, 1) := by decide +kernel
theorem dX4_isSoundNow_60 : decode cX4_isSoundNow 60 = .ok (.getfield 127, 3) := by decide +kernel
theorem dX4_isSoundNow_63 : decode cX4_isSoundNow 63 = .ok (.invokestatic 58, 3) := by decide +kernel
theorem dX4_isSoundNow_66 : decode cX4_isSoundNow 66 = .ok (.ifCond .eq 18, 3) := by decide +kernel
theorem dX4_isSoundNow_69 : decode cX4_isSoundNow 69 = .ok (.aload_n 0, 1) := by decide +kernel
theorem dX4_isSoundNow_70 : decode cX4_isSoundNow 70 = .ok (.iconst 1, 1) := by decide +kernel
theorem dX4_isSoundNow_71 : decode cX4_isSoundNow 71 = .ok (.iload_n 3, 1) := by decide +kernel
theorem dX4_isSoundNow_72 : decode cX4_isSoundNow 72 = .ok (.ishl, 1) := by decide +kernel
theorem dX4_isSoundNow_73 : decode cX4_isSoundNow 73 = .ok (.aload_n 1, 1) := by decide +kernel
theorem dX4_isSoundNow_74 : decode cX4_isSoundNow 74 = .ok (.iload_n 2, 1) := by decide +kernel
theorem dX4_isSoundNow_75 : decode cX4_isSoundNow 75 = .ok (.laload, 1) := by decide +kernel
theorem dX4_isSoundNow_76 : decode cX4_isSoundNow 76 = .ok (.invokevirtual 192, 3) := by decide +kernel
theorem dX4_isSoundNow_79 : decode cX4_isSoundNow 79 = .ok (.ifCond .ne 5, 3) := by decide +kernel
theorem dX4_isSoundNow_82 : decode cX4_isSoundNow 82 = .ok (.iconst 0, 1) := by decide +kernel
theorem dX4_isSoundNow_83 : decode cX4_isSoundNow 83 = .ok (.ireturn, 1) := by decide +kernel
theorem dX4_isSoundNow_84 : decode cX4_isSoundNow 84 = .ok (.aload_n 0, 1) := by decide +kernel
theorem dX4_isSoundNow_85 : decode cX4_isSoundNow 85 = .ok (.getfield 23, 3) := by decide +kernel
theorem dX4_isSoundNow_88 : decode cX4_isSoundNow 88 = .ok (.iload_n 2, 1) := by decide +kernel
theorem dX4_isSoundNow_89 : decode cX4_isSoundNow 89 = .ok (.invokeinterface 96 2, 5) := by decide +kernel
theorem dX4_isSoundNow_94 : decode cX4_isSoundNow 94 = .ok (.checkcast 102, 3) := by decide +kernel
theorem dX4_isSoundNow_97 : decode cX4_isSoundNow 97 = .ok (.astore 6, 2) := by decide +kernel
theorem dX4_isSoundNow_99 : decode cX4_isSoundNow 99 = .ok (.aload 6, 2) := by decide +kernel
theorem dX4_isSoundNow_101 : decode cX4_isSoundNow 101 = .ok (.iconst 0, 1) := by decide +kernel
theorem dX4_isSoundNow_102 : decode cX4_isSoundNow 102 = .ok (.iaload, 1) := by decide +kernel
theorem dX4_isSoundNow_103 : decode cX4_isSoundNow 103 = .ok (.iconst 4, 1) := by decide +kernel
theorem dX4_isSoundNow_104 : decode cX4_isSoundNow 104 = .ok (.if_icmp .le 49, 3) := by decide +kernel
theorem dX4_isSoundNow_107 : decode cX4_isSoundNow 107 = .ok (.aload 6, 2) := by decide +kernel
theorem dX4_isSoundNow_109 : decode cX4_isSoundNow 109 = .ok (.iconst 0, 1) := by decide +kernel
theorem dX4_isSoundNow_110 : decode cX4_isSoundNow 110 = .ok (.iaload, 1) := by decide +kernel
theorem dX4_isSoundNow_111 : decode cX4_isSoundNow 111 = .ok (.bipush 7, 2) := by decide +kernel
theorem dX4_isSoundNow_113 : decode cX4_isSoundNow 113 = .ok (.if_icmp .ge 40, 3) := by decide +kernel
theorem dX4_isSoundNow_116 : decode cX4_isSoundNow 116 = .ok (.aload 6, 2) := by decide +kernel
theorem dX4_isSoundNow_118 : decode cX4_isSoundNow 118 = .ok (.iconst 1, 1) := by decide +kernel
theorem dX4_isSoundNow_119 : decode cX4_isSoundNow 119 = .ok (.iaload, 1) := by decide +kernel
theorem dX4_isSoundNow_120 : decode cX4_isSoundNow 120 = .ok (.iload_n 3, 1) := by decide +kernel
theorem dX4_isSoundNow_121 : decode cX4_isSoundNow 121 = .ok (.invokestatic 70, 3) := by decide +kernel
theorem dX4_isSoundNow_124 : decode cX4_isSoundNow 124 = .ok (.ifCond .eq 29, 3) := by decide +kernel
theorem dX4_isSoundNow_127 : decode cX4_isSoundNow 127 = .ok (.aload_n 1, 1) := by decide +kernel
theorem dX4_isSoundNow_128 : decode cX4_isSoundNow 128 = .ok (.iload_n 2, 1) := by decide +kernel
theorem dX4_isSoundNow_129 : decode cX4_isSoundNow 129 = .ok (.laload, 1) := by decide +kernel
theorem dX4_isSoundNow_130 : decode cX4_isSoundNow 130 = .ok (.aload_n 0, 1) := by decide +kernel
theorem dX4_isSoundNow_131 : decode cX4_isSoundNow 131 = .ok (.iload_n 3, 1) := by decide +kernel
theorem dX4_isSoundNow_132 : decode cX4_isSoundNow 132 = .ok (.aload_n 1, 1) := by decide +kernel
theorem dX4_isSoundNow_133 : decode cX4_isSoundNow 133 = .ok (.aload 6, 2) := by decide +kernel
theorem dX4_isSoundNow_135 : decode cX4_isSoundNow 135 = .ok (.iconst 2, 1) := by decide +kernel
theorem dX4_isSoundNow_136 : decode cX4_isSoundNow 136 = .ok (.iaload, 1) := by decide +kernel
theorem dX4_isSoundNow_137 : decode cX4_isSoundNow 137 = .ok (.laload, 1) := by decide +kernel
theorem dX4_isSoundNow_138 : decode cX4_isSoundNow 138 = .ok (.invokevirtual 73, 3) := by decide +kernel
theorem dX4_isSoundNow_141 : decode cX4_isSoundNow 141 = .ok (.ldc2_w 7, 3) := by decide +kernel
theorem dX4_isSoundNow_144 : decode cX4_isSoundNow 144 = .ok (.lxor, 1) := by decide +kernel
theorem dX4_isSoundNow_145 : decode cX4_isSoundNow 145 = .ok (.land, 1) := by decide +kernel
theorem dX4_isSoundNow_146 : decode cX4_isSoundNow 146 = .ok (.lconst 0, 1) := by decide +kernel
theorem dX4_isSoundNow_147 : decode cX4_isSoundNow 147 = .ok (.lcmp, 1) := by decide +kernel
theorem dX4_isSoundNow_148 : decode cX4_isSoundNow 148 = .ok (.ifCond .eq 5, 3) := by decide +kernel
theorem dX4_isSoundNow_151 : decode cX4_isSoundNow 151 = .ok (.iconst 0, 1) := by decide +kernel
theorem dX4_isSoundNow_152 : decode cX4_isSoundNow 152 = .ok (.ireturn, 1) := by decide +kernel
theorem dX4_isSoundNow_153 : decode cX4_isSoundNow 153 = .ok (.iinc 3 1, 3) := by decide +kernel
theorem dX4_isSoundNow_156 : decode cX4_isSoundNow 156 = .ok (.goto (-130), 3) := by decide +kernel
theorem dX4_isSoundNow_159 : decode cX4_isSoundNow 159 = .ok (.iinc 2 1, 3) := by decide +kernel
theorem dX4_isSoundNow_162 : decode cX4_isSoundNow 162 = .ok (.goto (-144), 3) := by decide +kernel
theorem dX4_isSoundNow_165 : decode cX4_isSoundNow 165 = .ok (.iconst 1, 1) := by decide +kernel
theorem dX4_isSoundNow_166 : decode cX4_isSoundNow 166 = .ok (.ireturn, 1) := by decide +kernel
def wX4_isSoundNow_L26 (post : Int32 → Prop) (K159 : Int32 → Prop) (mr : Int32) (po : Int64) (DD : Nat → Nat → Int32) (sn : Nat) (sq : Nat → Nat → Int32) (yn : Nat) (yf : Nat → Int64) (i2 : Int32) : Nat → Int32 → Prop
  | 0, _ => False
  | n+1, i3 =>
    (((6 : Int32) ≤ i3) →
      K159 i3
    ) ∧ (¬ ((6 : Int32) ≤ i3) →
      vp_in i2 yn ∧
      wX4_known (fun r_2 : Int64 =>
        vp_in i2 yn ∧
        ((¬ (lg_cmp (r_2 &&& ((yf i2.toNatClampNeg) ^^^ (-1 : Int64))) (0 : Int64)) = 0) →
          post (0 : Int32)
        ) ∧ (((lg_cmp (r_2 &&& ((yf i2.toNatClampNeg) ^^^ (-1 : Int64))) (0 : Int64)) = 0) →
          wX4_has_ (fun r_3 : Int32 =>
            ((r_3 = 0) →
              vp_in i2 sn ∧
              (((sq (i2.toNatClampNeg) (0 : Int32).toNatClampNeg) ≤ (4 : Int32)) →
                wX4_isSoundNow_L26 post K159 mr po DD sn sq yn yf i2 n (i3 + 1)
              ) ∧ (¬ ((sq (i2.toNatClampNeg) (0 : Int32).toNatClampNeg) ≤ (4 : Int32)) →
                (((7 : Int32) ≤ (sq (i2.toNatClampNeg) (0 : Int32).toNatClampNeg)) →
                  wX4_isSoundNow_L26 post K159 mr po DD sn sq yn yf i2 n (i3 + 1)
                ) ∧ (¬ ((7 : Int32) ≤ (sq (i2.toNatClampNeg) (0 : Int32).toNatClampNeg)) →
                  wX4_has (fun r_4 : Int32 =>
                    ((r_4 = 0) →
                      wX4_isSoundNow_L26 post K159 mr po DD sn sq yn yf i2 n (i3 + 1)
                    ) ∧ (¬ (r_4 = 0) →
                      vp_in i2 yn ∧
                      vp_in (sq (i2.toNatClampNeg) (2 : Int32).toNatClampNeg) yn ∧
                      wX4_known (fun r_5 : Int64 =>
                        (((lg_cmp ((yf i2.toNatClampNeg) &&& (r_5 ^^^ (-1 : Int64))) (0 : Int64)) = 0) →
                          wX4_isSoundNow_L26 post K159 mr po DD sn sq yn yf i2 n (i3 + 1)
                        ) ∧ (¬ ((lg_cmp ((yf i2.toNatClampNeg) &&& (r_5 ^^^ (-1 : Int64))) (0 : Int64)) = 0) →
                          post (0 : Int32)
                        )
                        ) po DD i3 (yf (sq (i2.toNatClampNeg) (2 : Int32).toNatClampNeg).toNatClampNeg)
                    )
                    ) (sq (i2.toNatClampNeg) (1 : Int32).toNatClampNeg) i3
                )
              )
            ) ∧ (¬ (r_3 = 0) →
              vp_in i2 yn ∧
              wX4_knowsTogether (fun r_6 : Int32 =>
                ((¬ r_6 = 0) →
                  vp_in i2 sn ∧
                  (((sq (i2.toNatClampNeg) (0 : Int32).toNatClampNeg) ≤ (4 : Int32)) →
                    wX4_isSoundNow_L26 post K159 mr po DD sn sq yn yf i2 n (i3 + 1)
                  ) ∧ (¬ ((sq (i2.toNatClampNeg) (0 : Int32).toNatClampNeg) ≤ (4 : Int32)) →
                    (((7 : Int32) ≤ (sq (i2.toNatClampNeg) (0 : Int32).toNatClampNeg)) →
                      wX4_isSoundNow_L26 post K159 mr po DD sn sq yn yf i2 n (i3 + 1)
                    ) ∧ (¬ ((7 : Int32) ≤ (sq (i2.toNatClampNeg) (0 : Int32).toNatClampNeg)) →
                      wX4_has (fun r_7 : Int32 =>
                        ((r_7 = 0) →
                          wX4_isSoundNow_L26 post K159 mr po DD sn sq yn yf i2 n (i3 + 1)
                        ) ∧ (¬ (r_7 = 0) →
                          vp_in i2 yn ∧
                          vp_in (sq (i2.toNatClampNeg) (2 : Int32).toNatClampNeg) yn ∧
                          wX4_known (fun r_8 : Int64 =>
                            (((lg_cmp ((yf i2.toNatClampNeg) &&& (r_8 ^^^ (-1 : Int64))) (0 : Int64)) = 0) →
                              wX4_isSoundNow_L26 post K159 mr po DD sn sq yn yf i2 n (i3 + 1)
                            ) ∧ (¬ ((lg_cmp ((yf i2.toNatClampNeg) &&& (r_8 ^^^ (-1 : Int64))) (0 : Int64)) = 0) →
                              post (0 : Int32)
                            )
                            ) po DD i3 (yf (sq (i2.toNatClampNeg) (2 : Int32).toNatClampNeg).toNatClampNeg)
                        )
                        ) (sq (i2.toNatClampNeg) (1 : Int32).toNatClampNeg) i3
                    )
                  )
                ) ∧ ((r_6 = 0) →
                  post (0 : Int32)
                )
                ) mr po DD ((1 : Int32) <<< (i3 &&& 31)) (yf i2.toNatClampNeg)
            )
            ) r_2 mr
        )
        ) po DD i3 (yf i2.toNatClampNeg)
    )
def wX4_isSoundNow_L18 (post : Int32 → Prop) (K165 : Int32 → Prop) (mr : Int32) (po : Int64) (DD : Nat → Nat → Int32) (sn : Nat) (sq : Nat → Nat → Int32) (yn : Nat) (yf : Nat → Int64) : Nat → Int32 → Prop
  | 0, _ => False
  | n+1, i2 =>
    (((nI yn) ≤ i2) →
      K165 i2
    ) ∧ (¬ ((nI yn) ≤ i2) →
      ∃ nF, wX4_isSoundNow_L26 post
        (fun i3 =>
          wX4_isSoundNow_L18 post K165 mr po DD sn sq yn yf n (i2 + 1)
        )
        mr po DD sn sq yn yf i2 nF (0 : Int32)
    )
def wX4_isSoundNow (post : Int32 → Prop) (mr : Int32) (po : Int64) (DD : Nat → Nat → Int32) (sn : Nat) (sq : Nat → Nat → Int32) (yn : Nat) (yf : Nat → Int64) : Prop :=
  wX4_has_ (fun r_1 : Int32 =>
    ((¬ r_1 = 0) →
      ∃ nF, wX4_isSoundNow_L18 post
        (fun i2 =>
          post (1 : Int32)
        )
        mr po DD sn sq yn yf nF (0 : Int32)
    ) ∧ ((r_1 = 0) →
      post (0 : Int32)
    )
    ) po mr
abbrev wl_X4_isSoundNow : List Cond := .code yX4_isSoundNow cX4_isSoundNow 7 (some .boolean) :: lwg
abbrev rm_X4_isSoundNow : Room := { frames := 6, cells := 0, slots := 0, locals := 140 }
set_option maxHeartbeats 4000000 in
set_option maxRecDepth 100000 in
theorem kX4_isSoundNow {post : Int32 → Prop} (l : Launch) (G : GT) (m0 : Nat) (dO : Nat) (sl : Nat) (ct0 : Nat) (st0 : Nat) (fs0 : Nat) (jn0 : Nat) (rw0 : Nat) (fd0 : Nat) (af0 : Nat) (kO : Nat) (dr : Nat → Nat) (kr : Nat → Nat) (sa : Nat → Nat) (y0 : Nat) (th : Int32) (mr : Int32) (po : Int64) (mf : Int32) (sp : Int32) (DD : Nat → Nat → Int32) (ctf : Nat → Int32) (stf : Nat → Int32) (fsf : Nat → Int32) (jnf : Nat → Int32) (rwf : Nat → Int32) (fdf : Nat → Int64) (aff : Nat → Int32) (KP : Nat → Nat → Int32) (sn : Nat) (sq : Nat → Nat → Int32) (yn : Nat) (yf : Nat → Int64) (h : wX4_isSoundNow post mr po DD sn sq yn yf) : Met l yX4_isSoundNow wl_X4_isSoundNow rm_X4_isSoundNow (va_Pc [.ref m0, .ref y0] (fun U => PP G [(m0, .inr (7, [.int th, .int mr, .long po, .ref dO, .ref sl, .ref ct0, .int mf, .int sp, .ref st0, .ref fs0, .ref jn0, .ref rw0, .ref fd0, .ref af0, .ref kO])), (dO, .inl (G.2 4, 6, .inr (.inr (.inr (.inr (fun k => if k < 6 then some (dr k) else none)))))), (dr 0, .inl (G.2 0, 64, .inl (DD 0))), (dr 1, .inl (G.2 0, 64, .inl (DD 1))), (dr 2, .inl (G.2 0, 64, .inl (DD 2))), (dr 3, .inl (G.2 0, 64, .inl (DD 3))), (dr 4, .inl (G.2 0, 64, .inl (DD 4))), (dr 5, .inl (G.2 0, 64, .inl (DD 5))), (ct0, .inl (G.2 0, 6, .inl ctf)), (st0, .inl (G.2 0, 4096, .inl stf)), (fs0, .inl (G.2 0, 4096, .inl fsf)), (jn0, .inl (G.2 0, 64, .inl jnf)), (rw0, .inl (G.2 0, 64, .inl rwf)), (fd0, .inl (G.2 1, 40, .inr (.inl fdf))), (af0, .inl (G.2 3, 40, .inl aff)), (kO, .inl (G.2 4, 4, .inr (.inr (.inr (.inr (fun k => if k < 4 then some (kr k) else none)))))), (kr 0, .inl (G.2 0, 64, .inl (KP 0))), (kr 1, .inl (G.2 0, 64, .inl (KP 1))), (kr 2, .inl (G.2 0, 64, .inl (KP 2))), (kr 3, .inl (G.2 0, 64, .inl (KP 3))), (y0, .inl (G.2 1, yn, .inr (.inl yf)))] U.heap ∧ KK G U ∧ SS G sl sn sa sq (fun _ => False) U U.heap)) (vp_Si post) 0 0 (fun _ => False) := by
  refine Met.ofW (cc := cX4_isSoundNow) (maxL := 7) (ret := (some .boolean)) (by decide) rfl ?_
  intro p e s m args below meth c s₁ B hml hv
  obtain ⟨rfl, hP, hKK, hSS⟩ := hv
  obtain ⟨hK, hN, hR, hFW, hNC⟩ := id hKK
  have hx := B.exec
  have hb := B.bytes
  have hr := B.returns
  have hts0 := atoms_spec (ws := wl_X4_isSoundNow) B.pre
  have hts : ∀ w ∈ lwg, w.before ([.ref m0, .ref y0] : List Value).toArray s = true := fun w hw => hts0 w (List.mem_cons_of_mem _ hw)
  have hown : s.vm.findClass RX4 = some m.cls := findClass_of_methodNamed B.named
  have hlocks := B.notSynchronized
  have hS : va_S (fun _ => False) s.heap s.heap [] := va_S.rf
  have hP : PP G [(m0, .inr (7, [.int th, .int mr, .long po, .ref dO, .ref sl, .ref ct0, .int mf, .int sp, .ref st0, .ref fs0, .ref jn0, .ref rw0, .ref fd0, .ref af0, .ref kO])), (dO, .inl (G.2 4, 6, .inr (.inr (.inr (.inr (fun k => if k < 6 then some (dr k) else none)))))), (dr 0, .inl (G.2 0, 64, .inl (DD 0))), (dr 1, .inl (G.2 0, 64, .inl (DD 1))), (dr 2, .inl (G.2 0, 64, .inl (DD 2))), (dr 3, .inl (G.2 0, 64, .inl (DD 3))), (dr 4, .inl (G.2 0, 64, .inl (DD 4))), (dr 5, .inl (G.2 0, 64, .inl (DD 5))), (ct0, .inl (G.2 0, 6, .inl ctf)), (st0, .inl (G.2 0, 4096, .inl stf)), (fs0, .inl (G.2 0, 4096, .inl fsf)), (jn0, .inl (G.2 0, 64, .inl jnf)), (rw0, .inl (G.2 0, 64, .inl rwf)), (fd0, .inl (G.2 1, 40, .inr (.inl fdf))), (af0, .inl (G.2 3, 40, .inl aff)), (kO, .inl (G.2 4, 4, .inr (.inr (.inr (.inr (fun k => if k < 4 then some (kr k) else none)))))), (kr 0, .inl (G.2 0, 64, .inl (KP 0))), (kr 1, .inl (G.2 0, 64, .inl (KP 1))), (kr 2, .inl (G.2 0, 64, .inl (KP 2))), (kr 3, .inl (G.2 0, 64, .inl (KP 3))), (y0, .inl (G.2 1, yn, .inr (.inl yf)))] s.heap := hP
  have hl := lv_entry ([.ref m0, .ref y0]) (n := 7) (Nat.le_of_ble_eq_true rfl)
  rw [lg_entry_eq]
  generalize (lg_sl ([.ref m0, .ref y0]) ++ List.replicate (7 - (lg_sl ([.ref m0, .ref y0])).length) Slot.unset).toArray = ls at hl ⊢
  have hl : lv_has ls 7 [(0, .ref m0), (1, .ref y0)] := hl
  have loop26 : ∀ (K159 : Int32 → Prop) (i2 : Int32), True → (∀ (i3 : Int32) (ls : Array Slot), lv_has ls 7 [(0, .ref m0), (1, .ref y0), (2, .int i2), (3, .int i3)] → K159 i3 → W p l e (headSpec (wl_X4_isSoundNow) rm_X4_isSoundNow).room s m ([.ref m0, .ref y0] : List Value).toArray below meth c s.heap [] 0 0 (MQ below (vp_Si post) ([.ref m0, .ref y0] : List Value).toArray s 0 0 (fun _ => False)) (F0 m 159 ls [])) → ∀ (n : Nat) (i3 : Int32) (ls : Array Slot), lv_has ls 7 [(0, .ref m0), (1, .ref y0), (2, .int i2), (3, .int i3)] → wX4_isSoundNow_L26 post K159 mr po DD sn sq yn yf i2 n i3 → W p l e (headSpec (wl_X4_isSoundNow) rm_X4_isSoundNow).room s m ([.ref m0, .ref y0] : List Value).toArray below meth c s.heap [] 0 0 (MQ below (vp_Si post) ([.ref m0, .ref y0] : List Value).toArray s 0 0 (fun _ => False)) (F0 m 26 ls []) := by
    intro K159 i2 _ hexit159 n
    induction n with
    | zero => intro i3 ls hl h; exact False.elim h
    | succ n ih =>
      intro i3 ls hl h
      refine lv_iload_n hx hb dX4_isSoundNow_26 rfl (lv_at hl 3 rfl) ?_
      refine lv_bipush (v := 6) hx hb dX4_isSoundNow_27 (by decide) ?_
      refine lv_icmp_ge (tgt := 159) hx hb dX4_isSoundNow_29 (by decide) (fun hc => ?_) (fun hc => ?_)
      · have h := h.1 hc
        have hl := lv_sub (l' := [(0, .ref m0), (1, .ref y0), (2, .int i2), (3, .int i3)]) hl [0, 1, 2, 3] rfl
        exact hexit159 _ ls hl h
      · have h := h.2 hc
        refine lv_aload_n hx hb dX4_isSoundNow_32 rfl (lv_at hl 0 rfl) ?_
        refine lv_iload_n hx hb dX4_isSoundNow_33 rfl (lv_at hl 3 rfl) ?_
        refine lv_aload_n hx hb dX4_isSoundNow_34 rfl (lv_at hl 1 rfl) ?_
        refine lv_iload_n hx hb dX4_isSoundNow_35 rfl (lv_at hl 2 rfl) ?_
        obtain ⟨hin, h⟩ := h
        refine va_lald (D := G.1) hx hb hK hP 20 1 rfl rfl hin dX4_isSoundNow_36 ?_
        have hPc := va_P.sub (ws' := [(m0, .inr (7, [.int th, .int mr, .long po, .ref dO, .ref sl, .ref ct0, .int mf, .int sp, .ref st0, .ref fs0, .ref jn0, .ref rw0, .ref fd0, .ref af0, .ref kO])), (dO, .inl (G.2 4, 6, .inr (.inr (.inr (.inr (fun k => if k < 6 then some (dr k) else none)))))), (dr 0, .inl (G.2 0, 64, .inl (DD 0))), (dr 1, .inl (G.2 0, 64, .inl (DD 1))), (dr 2, .inl (G.2 0, 64, .inl (DD 2))), (dr 3, .inl (G.2 0, 64, .inl (DD 3))), (dr 4, .inl (G.2 0, 64, .inl (DD 4))), (dr 5, .inl (G.2 0, 64, .inl (DD 5))), (ct0, .inl (G.2 0, 6, .inl ctf)), (st0, .inl (G.2 0, 4096, .inl stf)), (fs0, .inl (G.2 0, 4096, .inl fsf)), (jn0, .inl (G.2 0, 64, .inl jnf)), (rw0, .inl (G.2 0, 64, .inl rwf)), (fd0, .inl (G.2 1, 40, .inr (.inl fdf))), (af0, .inl (G.2 3, 40, .inl aff)), (kO, .inl (G.2 4, 4, .inr (.inr (.inr (.inr (fun k => if k < 4 then some (kr k) else none)))))), (kr 0, .inl (G.2 0, 64, .inl (KP 0))), (kr 1, .inl (G.2 0, 64, .inl (KP 1))), (kr 2, .inl (G.2 0, 64, .inl (KP 2))), (kr 3, .inl (G.2 0, 64, .inl (KP 3)))]) hP [0, 1, 2, 3, 4, 5, 6, 7, 8, 9, 10, 11, 12, 13, 14, 15, 16, 17, 18, 19] rfl
        refine rdL (va_runV (C := RX4) (As := [.int i3, .long (yf i2.toNatClampNeg)]) (rest := []) ⟨hx, hb, hml, hown, hts⟩ (kX4_known l G m0 dO sl ct0 st0 fs0 jn0 rw0 fd0 af0 kO dr kr sa th mr po mf sp DD ctf stf fsf jnf rwf fdf aff KP sn sq i3 (yf i2.toNatClampNeg) h) (cwV 2 hts (gdV q1114 q1116 qs14 q6 q1117) rfl rfl rfl (by decide +kernel) ⟨Nat.le_of_ble_eq_true rfl, Nat.le_of_ble_eq_true rfl⟩) (preV hPc hKK (va_recv hK hPc (ci := 7) (q0 := 0) rfl rfl)) rfl rfl hl.1 rfl (lv_room (Nat.le_of_ble_eq_true rfl)) dX4_isSoundNow_37 ⟨Nat.zero_le _, Nat.zero_le _⟩) (fun r_2 h => ?_)
        refine lv_lstore hx hb dX4_isSoundNow_40 hl (Nat.le_of_ble_eq_true rfl) rfl (fun ls hl => ?_)
        have hl : lv_has ls 7 [(4, .long r_2), (0, .ref m0), (1, .ref y0), (2, .int i2), (3, .int i3)] := hl
        refine lv_lload hx hb dX4_isSoundNow_42 (lv_at hl 0 rfl) ?_
        refine lv_aload_n hx hb dX4_isSoundNow_44 rfl (lv_at hl 2 rfl) ?_
        refine lv_iload_n hx hb dX4_isSoundNow_45 rfl (lv_at hl 3 rfl) ?_
        obtain ⟨hin, h⟩ := h
        refine va_lald (D := G.1) hx hb hK hP 20 1 rfl rfl hin dX4_isSoundNow_46 ?_
        refine lv_ldc2 hx hb hown (hts _ q976) dX4_isSoundNow_47 ?_
        refine lv_lxor hx hb dX4_isSoundNow_50 ?_
        refine lv_land hx hb dX4_isSoundNow_51 ?_
        refine lv_lconst (v := 0) hx hb dX4_isSoundNow_52 (by decide) ?_
        refine W.lcmp hx hb dX4_isSoundNow_53 ?_
        refine lv_if_ne (tgt := 82) hx hb dX4_isSoundNow_54 (by decide) (fun hc => ?_) (fun hc => ?_)
        · have h := h.1 hc
          refine lv_iconst (v := 0) hx hb dX4_isSoundNow_82 (by decide) ?_
          exact W.zret (v := (0 : Int32)) hx hb hr (by decide) (fun t ht _ => ⟨_, rfl, h, ht⟩) (fun _ hq => absurd hq List.not_mem_nil) dX4_isSoundNow_83
        · have h := h.2 hc
          refine lv_lload hx hb dX4_isSoundNow_57 (lv_at hl 0 rfl) ?_
          refine lv_aload_n hx hb dX4_isSoundNow_59 rfl (lv_at hl 1 rfl) ?_
          refine va_get (D := G.1) (ci := 7) (v := .int mr) (C := RX4) (T := TX4) (N := 15) hx hb hts igX4 hown hK hP 0 rfl rfl 1 (by decide) (hts _ q1006) (fun _ h9 => h9) rfl dX4_isSoundNow_60 ?_
          have hPc := va_P.sub (ws' := []) hP [] rfl
          refine rdI (va_runS (As := [.long r_2, .int mr]) (rest := []) ⟨hx, hb, hml, hown, hts⟩ (kX4_has_ l G r_2 mr h) (va_cwS 2 hts (gdS q1122 q1123 q6 q1124) rfl rfl rfl (by decide +kernel) ⟨Nat.le_of_ble_eq_true rfl, Nat.le_of_ble_eq_true rfl⟩) (preS hPc hKK) rfl rfl hl.1 rfl (lv_room (Nat.le_of_ble_eq_true rfl)) dX4_isSoundNow_63 ⟨Nat.zero_le _, Nat.zero_le _⟩) (fun r_3 h => ?_)
          refine lv_if_eq (tgt := 84) hx hb dX4_isSoundNow_66 (by decide) (fun hc => ?_) (fun hc => ?_)
          · have h := h.1 hc
            refine lv_aload_n hx hb dX4_isSoundNow_84 rfl (lv_at hl 1 rfl) ?_
            refine va_get (D := G.1) (ci := 7) (v := .ref sl) (C := RX4) (T := TX4) (N := 15) hx hb hts igX4 hown hK hP 0 rfl rfl 4 (by decide) (hts _ q1009) (fun _ h9 => h9) rfl dX4_isSoundNow_85 ?_
            refine lv_iload_n hx hb dX4_isSoundNow_88 rfl (lv_at hl 3 rfl) ?_
            obtain ⟨hin, h⟩ := h
            have hf_1 : i2.toNatClampNeg < sn := vpLt hin
            refine listGet (rest := []) hSS hS.2.1 hin ⟨hx, hb, hml, hown, hts⟩ hKK hK q1086 hl.1 (lv_room (Nat.le_of_ble_eq_true rfl)) (Nat.le_of_ble_eq_true rfl) (Nat.le_of_ble_eq_true rfl) dX4_isSoundNow_89 ?_
            refine va_castA (D := G.1) (cl := vwCl) hx hb hown (hts _ q1102) (hSS.row hf_1 hS.2.1) 0 rfl ((hK.2 0 _ rfl).2) dX4_isSoundNow_94 ?_
            refine lv_astore hx hb dX4_isSoundNow_97 hl (Nat.le_of_ble_eq_true rfl) rfl (fun ls hl => ?_)
            have hl : lv_has ls 7 [(6, .ref (sa i2.toNatClampNeg)), (4, .long r_2), (0, .ref m0), (1, .ref y0), (2, .int i2), (3, .int i3)] := hl
            refine lv_aload hx hb dX4_isSoundNow_99 (lv_at hl 0 rfl) ?_
            refine lv_iconst (v := 0) hx hb dX4_isSoundNow_101 (by decide) ?_
            have hin : vp_in (0 : Int32) 4 := show ¬ ((0 : Int32) < 0 ∨ 4 ≤ ((0 : Int32)).toNatClampNeg) from by decide
            refine va_iald (D := G.1) hx hb hK (hSS.row hf_1 hS.2.1) 0 0 rfl rfl hin dX4_isSoundNow_102 ?_
            refine lv_iconst (v := 4) hx hb dX4_isSoundNow_103 (by decide) ?_
            refine lv_icmp_le (tgt := 153) hx hb dX4_isSoundNow_104 (by decide) (fun hc => ?_) (fun hc => ?_)
            · have h := h.1 hc
              refine lv_iinc (v := (i3 + 1)) hx hb dX4_isSoundNow_153 hl (k := 5) rfl (by rw [show Int32.ofInt 1 = 1 from by decide]) (Nat.le_of_ble_eq_true rfl) rfl (fun ls hl => ?_)
              have hl : lv_has ls 7 [(3, .int (i3 + 1)), (6, .ref (sa i2.toNatClampNeg)), (4, .long r_2), (0, .ref m0), (1, .ref y0), (2, .int i2)] := hl
              refine lv_goto (tgt := 26) hx hb dX4_isSoundNow_156 (by decide) ?_
              have hl := lv_sub (l' := [(0, .ref m0), (1, .ref y0), (2, .int i2), (3, .int (i3 + 1))]) hl [3, 4, 5, 0] rfl
              exact ih _ ls hl h
            · have h := h.2 hc
              refine lv_aload hx hb dX4_isSoundNow_107 (lv_at hl 0 rfl) ?_
              refine lv_iconst (v := 0) hx hb dX4_isSoundNow_109 (by decide) ?_
              have hin : vp_in (0 : Int32) 4 := show ¬ ((0 : Int32) < 0 ∨ 4 ≤ ((0 : Int32)).toNatClampNeg) from by decide
              refine va_iald (D := G.1) hx hb hK (hSS.row hf_1 hS.2.1) 0 0 rfl rfl hin dX4_isSoundNow_110 ?_
              refine lv_bipush (v := 7) hx hb dX4_isSoundNow_111 (by decide) ?_
              refine lv_icmp_ge (tgt := 153) hx hb dX4_isSoundNow_113 (by decide) (fun hc => ?_) (fun hc => ?_)
              · have h := h.1 hc
                refine lv_iinc (v := (i3 + 1)) hx hb dX4_isSoundNow_153 hl (k := 5) rfl (by rw [show Int32.ofInt 1 = 1 from by decide]) (Nat.le_of_ble_eq_true rfl) rfl (fun ls hl => ?_)
                have hl : lv_has ls 7 [(3, .int (i3 + 1)), (6, .ref (sa i2.toNatClampNeg)), (4, .long r_2), (0, .ref m0), (1, .ref y0), (2, .int i2)] := hl
                refine lv_goto (tgt := 26) hx hb dX4_isSoundNow_156 (by decide) ?_
                have hl := lv_sub (l' := [(0, .ref m0), (1, .ref y0), (2, .int i2), (3, .int (i3 + 1))]) hl [3, 4, 5, 0] rfl
                exact ih _ ls hl h
              · have h := h.2 hc
                refine lv_aload hx hb dX4_isSoundNow_116 (lv_at hl 0 rfl) ?_
                refine lv_iconst (v := 1) hx hb dX4_isSoundNow_118 (by decide) ?_
                have hin : vp_in (1 : Int32) 4 := show ¬ ((1 : Int32) < 0 ∨ 4 ≤ ((1 : Int32)).toNatClampNeg) from by decide
                refine va_iald (D := G.1) hx hb hK (hSS.row hf_1 hS.2.1) 0 0 rfl rfl hin dX4_isSoundNow_119 ?_
                refine lv_iload_n hx hb dX4_isSoundNow_120 rfl (lv_at hl 5 rfl) ?_
                have hPc := va_P.sub (ws' := []) hP [] rfl
                refine rdI (va_runS (As := [.int (sq (i2.toNatClampNeg) (1 : Int32).toNatClampNeg), .int i3]) (rest := []) ⟨hx, hb, hml, hown, hts⟩ (kX4_has l G (sq (i2.toNatClampNeg) (1 : Int32).toNatClampNeg) i3 h) (va_cwS 2 hts (gdS q1111 q1112 q6 q1113) rfl rfl rfl (by decide +kernel) ⟨Nat.le_of_ble_eq_true rfl, Nat.le_of_ble_eq_true rfl⟩) (preS hPc hKK) rfl rfl hl.1 rfl (lv_room (Nat.le_of_ble_eq_true rfl)) dX4_isSoundNow_121 ⟨Nat.zero_le _, Nat.zero_le _⟩) (fun r_4 h => ?_)
                refine lv_if_eq (tgt := 153) hx hb dX4_isSoundNow_124 (by decide) (fun hc => ?_) (fun hc => ?_)
                · have h := h.1 hc
                  refine lv_iinc (v := (i3 + 1)) hx hb dX4_isSoundNow_153 hl (k := 5) rfl (by rw [show Int32.ofInt 1 = 1 from by decide]) (Nat.le_of_ble_eq_true rfl) rfl (fun ls hl => ?_)
                  have hl : lv_has ls 7 [(3, .int (i3 + 1)), (6, .ref (sa i2.toNatClampNeg)), (4, .long r_2), (0, .ref m0), (1, .ref y0), (2, .int i2)] := hl
                  refine lv_goto (tgt := 26) hx hb dX4_isSoundNow_156 (by decide) ?_
                  have hl := lv_sub (l' := [(0, .ref m0), (1, .ref y0), (2, .int i2), (3, .int (i3 + 1))]) hl [3, 4, 5, 0] rfl
                  exact ih _ ls hl h
                · have h := h.2 hc
                  refine lv_aload_n hx hb dX4_isSoundNow_127 rfl (lv_at hl 3 rfl) ?_
                  refine lv_iload_n hx hb dX4_isSoundNow_128 rfl (lv_at hl 4 rfl) ?_
                  obtain ⟨hin, h⟩ := h
                  refine va_lald (D := G.1) hx hb hK hP 20 1 rfl rfl hin dX4_isSoundNow_129 ?_
                  refine lv_aload_n hx hb dX4_isSoundNow_130 rfl (lv_at hl 2 rfl) ?_
                  refine lv_iload_n hx hb dX4_isSoundNow_131 rfl (lv_at hl 5 rfl) ?_
                  refine lv_aload_n hx hb dX4_isSoundNow_132 rfl (lv_at hl 3 rfl) ?_
                  refine lv_aload hx hb dX4_isSoundNow_133 (lv_at hl 0 rfl) ?_
                  refine lv_iconst (v := 2) hx hb dX4_isSoundNow_135 (by decide) ?_
                  have hin : vp_in (2 : Int32) 4 := show ¬ ((2 : Int32) < 0 ∨ 4 ≤ ((2 : Int32)).toNatClampNeg) from by decide
                  refine va_iald (D := G.1) hx hb hK (hSS.row hf_1 hS.2.1) 0 0 rfl rfl hin dX4_isSoundNow_136 ?_
                  obtain ⟨hin, h⟩ := h
                  refine va_lald (D := G.1) hx hb hK hP 20 1 rfl rfl hin dX4_isSoundNow_137 ?_
                  have hPc := va_P.sub (ws' := [(m0, .inr (7, [.int th, .int mr, .long po, .ref dO, .ref sl, .ref ct0, .int mf, .int sp, .ref st0, .ref fs0, .ref jn0, .ref rw0, .ref fd0, .ref af0, .ref kO])), (dO, .inl (G.2 4, 6, .inr (.inr (.inr (.inr (fun k => if k < 6 then some (dr k) else none)))))), (dr 0, .inl (G.2 0, 64, .inl (DD 0))), (dr 1, .inl (G.2 0, 64, .inl (DD 1))), (dr 2, .inl (G.2 0, 64, .inl (DD 2))), (dr 3, .inl (G.2 0, 64, .inl (DD 3))), (dr 4, .inl (G.2 0, 64, .inl (DD 4))), (dr 5, .inl (G.2 0, 64, .inl (DD 5))), (ct0, .inl (G.2 0, 6, .inl ctf)), (st0, .inl (G.2 0, 4096, .inl stf)), (fs0, .inl (G.2 0, 4096, .inl fsf)), (jn0, .inl (G.2 0, 64, .inl jnf)), (rw0, .inl (G.2 0, 64, .inl rwf)), (fd0, .inl (G.2 1, 40, .inr (.inl fdf))), (af0, .inl (G.2 3, 40, .inl aff)), (kO, .inl (G.2 4, 4, .inr (.inr (.inr (.inr (fun k => if k < 4 then some (kr k) else none)))))), (kr 0, .inl (G.2 0, 64, .inl (KP 0))), (kr 1, .inl (G.2 0, 64, .inl (KP 1))), (kr 2, .inl (G.2 0, 64, .inl (KP 2))), (kr 3, .inl (G.2 0, 64, .inl (KP 3)))]) hP [0, 1, 2, 3, 4, 5, 6, 7, 8, 9, 10, 11, 12, 13, 14, 15, 16, 17, 18, 19] rfl
                  refine rdL (va_runV (C := RX4) (As := [.int i3, .long (yf (sq (i2.toNatClampNeg) (2 : Int32).toNatClampNeg).toNatClampNeg)]) (rest := [.long (yf i2.toNatClampNeg)]) ⟨hx, hb, hml, hown, hts⟩ (kX4_known l G m0 dO sl ct0 st0 fs0 jn0 rw0 fd0 af0 kO dr kr sa th mr po mf sp DD ctf stf fsf jnf rwf fdf aff KP sn sq i3 (yf (sq (i2.toNatClampNeg) (2 : Int32).toNatClampNeg).toNatClampNeg) h) (cwV 2 hts (gdV q1114 q1116 qs14 q6 q1117) rfl rfl rfl (by decide +kernel) ⟨Nat.le_of_ble_eq_true rfl, Nat.le_of_ble_eq_true rfl⟩) (preV hPc hKK (va_recv hK hPc (ci := 7) (q0 := 0) rfl rfl)) rfl rfl hl.1 rfl (lv_room (Nat.le_of_ble_eq_true rfl)) dX4_isSoundNow_138 ⟨Nat.zero_le _, Nat.zero_le _⟩) (fun r_5 h => ?_)
                  refine lv_ldc2 hx hb hown (hts _ q976) dX4_isSoundNow_141 ?_
                  refine lv_lxor hx hb dX4_isSoundNow_144 ?_
                  refine lv_land hx hb dX4_isSoundNow_145 ?_
                  refine lv_lconst (v := 0) hx hb dX4_isSoundNow_146 (by decide) ?_
                  refine W.lcmp hx hb dX4_isSoundNow_147 ?_
                  refine lv_if_eq (tgt := 153) hx hb dX4_isSoundNow_148 (by decide) (fun hc => ?_) (fun hc => ?_)
                  · have h := h.1 hc
                    refine lv_iinc (v := (i3 + 1)) hx hb dX4_isSoundNow_153 hl (k := 5) rfl (by rw [show Int32.ofInt 1 = 1 from by decide]) (Nat.le_of_ble_eq_true rfl) rfl (fun ls hl => ?_)
                    have hl : lv_has ls 7 [(3, .int (i3 + 1)), (6, .ref (sa i2.toNatClampNeg)), (4, .long r_2), (0, .ref m0), (1, .ref y0), (2, .int i2)] := hl
                    refine lv_goto (tgt := 26) hx hb dX4_isSoundNow_156 (by decide) ?_
                    have hl := lv_sub (l' := [(0, .ref m0), (1, .ref y0), (2, .int i2), (3, .int (i3 + 1))]) hl [3, 4, 5, 0] rfl
                    exact ih _ ls hl h
                  · have h := h.2 hc
                    refine lv_iconst (v := 0) hx hb dX4_isSoundNow_151 (by decide) ?_
                    exact W.zret (v := (0 : Int32)) hx hb hr (by decide) (fun t ht _ => ⟨_, rfl, h, ht⟩) (fun _ hq => absurd hq List.not_mem_nil) dX4_isSoundNow_152
          · have h := h.2 hc
            refine lv_aload_n hx hb dX4_isSoundNow_69 rfl (lv_at hl 1 rfl) ?_
            refine lv_iconst (v := 1) hx hb dX4_isSoundNow_70 (by decide) ?_
            refine lv_iload_n hx hb dX4_isSoundNow_71 rfl (lv_at hl 4 rfl) ?_
            refine lv_ishl hx hb dX4_isSoundNow_72 ?_
            refine lv_aload_n hx hb dX4_isSoundNow_73 rfl (lv_at hl 2 rfl) ?_
            refine lv_iload_n hx hb dX4_isSoundNow_74 rfl (lv_at hl 3 rfl) ?_
            obtain ⟨hin, h⟩ := h
            refine va_lald (D := G.1) hx hb hK hP 20 1 rfl rfl hin dX4_isSoundNow_75 ?_
            have hPc := va_P.sub (ws' := [(m0, .inr (7, [.int th, .int mr, .long po, .ref dO, .ref sl, .ref ct0, .int mf, .int sp, .ref st0, .ref fs0, .ref jn0, .ref rw0, .ref fd0, .ref af0, .ref kO])), (dO, .inl (G.2 4, 6, .inr (.inr (.inr (.inr (fun k => if k < 6 then some (dr k) else none)))))), (dr 0, .inl (G.2 0, 64, .inl (DD 0))), (dr 1, .inl (G.2 0, 64, .inl (DD 1))), (dr 2, .inl (G.2 0, 64, .inl (DD 2))), (dr 3, .inl (G.2 0, 64, .inl (DD 3))), (dr 4, .inl (G.2 0, 64, .inl (DD 4))), (dr 5, .inl (G.2 0, 64, .inl (DD 5))), (ct0, .inl (G.2 0, 6, .inl ctf)), (st0, .inl (G.2 0, 4096, .inl stf)), (fs0, .inl (G.2 0, 4096, .inl fsf)), (jn0, .inl (G.2 0, 64, .inl jnf)), (rw0, .inl (G.2 0, 64, .inl rwf)), (fd0, .inl (G.2 1, 40, .inr (.inl fdf))), (af0, .inl (G.2 3, 40, .inl aff)), (kO, .inl (G.2 4, 4, .inr (.inr (.inr (.inr (fun k => if k < 4 then some (kr k) else none)))))), (kr 0, .inl (G.2 0, 64, .inl (KP 0))), (kr 1, .inl (G.2 0, 64, .inl (KP 1))), (kr 2, .inl (G.2 0, 64, .inl (KP 2))), (kr 3, .inl (G.2 0, 64, .inl (KP 3)))]) hP [0, 1, 2, 3, 4, 5, 6, 7, 8, 9, 10, 11, 12, 13, 14, 15, 16, 17, 18, 19] rfl
            refine rdI (va_runV (C := RX4) (As := [.int ((1 : Int32) <<< (i3 &&& 31)), .long (yf i2.toNatClampNeg)]) (rest := []) ⟨hx, hb, hml, hown, hts⟩ (kX4_knowsTogether l G m0 dO sl ct0 st0 fs0 jn0 rw0 fd0 af0 kO dr kr sa th mr po mf sp DD ctf stf fsf jnf rwf fdf aff KP sn sq ((1 : Int32) <<< (i3 &&& 31)) (yf i2.toNatClampNeg) h) (cwV 2 hts (gdV q1300 q1302 qs35 q6 q1303) rfl rfl rfl (by decide +kernel) ⟨Nat.le_of_ble_eq_true rfl, Nat.le_of_ble_eq_true rfl⟩) (preV hPc hKK (va_recv hK hPc (ci := 7) (q0 := 0) rfl rfl)) rfl rfl hl.1 rfl (lv_room (Nat.le_of_ble_eq_true rfl)) dX4_isSoundNow_76 ⟨Nat.zero_le _, Nat.zero_le _⟩) (fun r_6 h => ?_)
            refine lv_if_ne (tgt := 84) hx hb dX4_isSoundNow_79 (by decide) (fun hc => ?_) (fun hc => ?_)
            · have h := h.1 hc
              refine lv_aload_n hx hb dX4_isSoundNow_84 rfl (lv_at hl 1 rfl) ?_
              refine va_get (D := G.1) (ci := 7) (v := .ref sl) (C := RX4) (T := TX4) (N := 15) hx hb hts igX4 hown hK hP 0 rfl rfl 4 (by decide) (hts _ q1009) (fun _ h9 => h9) rfl dX4_isSoundNow_85 ?_
              refine lv_iload_n hx hb dX4_isSoundNow_88 rfl (lv_at hl 3 rfl) ?_
              obtain ⟨hin, h⟩ := h
              have hf_2 : i2.toNatClampNeg < sn := vpLt hin
              refine listGet (rest := []) hSS hS.2.1 hin ⟨hx, hb, hml, hown, hts⟩ hKK hK q1086 hl.1 (lv_room (Nat.le_of_ble_eq_true rfl)) (Nat.le_of_ble_eq_true rfl) (Nat.le_of_ble_eq_true rfl) dX4_isSoundNow_89 ?_
              refine va_castA (D := G.1) (cl := vwCl) hx hb hown (hts _ q1102) (hSS.row hf_2 hS.2.1) 0 rfl ((hK.2 0 _ rfl).2) dX4_isSoundNow_94 ?_
              refine lv_astore hx hb dX4_isSoundNow_97 hl (Nat.le_of_ble_eq_true rfl) rfl (fun ls hl => ?_)
              have hl : lv_has ls 7 [(6, .ref (sa i2.toNatClampNeg)), (4, .long r_2), (0, .ref m0), (1, .ref y0), (2, .int i2), (3, .int i3)] := hl
              refine lv_aload hx hb dX4_isSoundNow_99 (lv_at hl 0 rfl) ?_
              refine lv_iconst (v := 0) hx hb dX4_isSoundNow_101 (by decide) ?_
              have hin : vp_in (0 : Int32) 4 := show ¬ ((0 : Int32) < 0 ∨ 4 ≤ ((0 : Int32)).toNatClampNeg) from by decide
              refine va_iald (D := G.1) hx hb hK (hSS.row hf_2 hS.2.1) 0 0 rfl rfl hin dX4_isSoundNow_102 ?_
              refine lv_iconst (v := 4) hx hb dX4_isSoundNow_103 (by decide) ?_
              refine lv_icmp_le (tgt := 153) hx hb dX4_isSoundNow_104 (by decide) (fun hc => ?_) (fun hc => ?_)
              · have h := h.1 hc
                refine lv_iinc (v := (i3 + 1)) hx hb dX4_isSoundNow_153 hl (k := 5) rfl (by rw [show Int32.ofInt 1 = 1 from by decide]) (Nat.le_of_ble_eq_true rfl) rfl (fun ls hl => ?_)
                have hl : lv_has ls 7 [(3, .int (i3 + 1)), (6, .ref (sa i2.toNatClampNeg)), (4, .long r_2), (0, .ref m0), (1, .ref y0), (2, .int i2)] := hl
                refine lv_goto (tgt := 26) hx hb dX4_isSoundNow_156 (by decide) ?_
                have hl := lv_sub (l' := [(0, .ref m0), (1, .ref y0), (2, .int i2), (3, .int (i3 + 1))]) hl [3, 4, 5, 0] rfl
                exact ih _ ls hl h
              · have h := h.2 hc
                refine lv_aload hx hb dX4_isSoundNow_107 (lv_at hl 0 rfl) ?_
                refine lv_iconst (v := 0) hx hb dX4_isSoundNow_109 (by decide) ?_
                have hin : vp_in (0 : Int32) 4 := show ¬ ((0 : Int32) < 0 ∨ 4 ≤ ((0 : Int32)).toNatClampNeg) from by decide
                refine va_iald (D := G.1) hx hb hK (hSS.row hf_2 hS.2.1) 0 0 rfl rfl hin dX4_isSoundNow_110 ?_
                refine lv_bipush (v := 7) hx hb dX4_isSoundNow_111 (by decide) ?_
                refine lv_icmp_ge (tgt := 153) hx hb dX4_isSoundNow_113 (by decide) (fun hc => ?_) (fun hc => ?_)
                · have h := h.1 hc
                  refine lv_iinc (v := (i3 + 1)) hx hb dX4_isSoundNow_153 hl (k := 5) rfl (by rw [show Int32.ofInt 1 = 1 from by decide]) (Nat.le_of_ble_eq_true rfl) rfl (fun ls hl => ?_)
                  have hl : lv_has ls 7 [(3, .int (i3 + 1)), (6, .ref (sa i2.toNatClampNeg)), (4, .long r_2), (0, .ref m0), (1, .ref y0), (2, .int i2)] := hl
                  refine lv_goto (tgt := 26) hx hb dX4_isSoundNow_156 (by decide) ?_
                  have hl := lv_sub (l' := [(0, .ref m0), (1, .ref y0), (2, .int i2), (3, .int (i3 + 1))]) hl [3, 4, 5, 0] rfl
                  exact ih _ ls hl h
                · have h := h.2 hc
                  refine lv_aload hx hb dX4_isSoundNow_116 (lv_at hl 0 rfl) ?_
                  refine lv_iconst (v := 1) hx hb dX4_isSoundNow_118 (by decide) ?_
                  have hin : vp_in (1 : Int32) 4 := show ¬ ((1 : Int32) < 0 ∨ 4 ≤ ((1 : Int32)).toNatClampNeg) from by decide
                  refine va_iald (D := G.1) hx hb hK (hSS.row hf_2 hS.2.1) 0 0 rfl rfl hin dX4_isSoundNow_119 ?_
                  refine lv_iload_n hx hb dX4_isSoundNow_120 rfl (lv_at hl 5 rfl) ?_
                  have hPc := va_P.sub (ws' := []) hP [] rfl
                  refine rdI (va_runS (As := [.int (sq (i2.toNatClampNeg) (1 : Int32).toNatClampNeg), .int i3]) (rest := []) ⟨hx, hb, hml, hown, hts⟩ (kX4_has l G (sq (i2.toNatClampNeg) (1 : Int32).toNatClampNeg) i3 h) (va_cwS 2 hts (gdS q1111 q1112 q6 q1113) rfl rfl rfl (by decide +kernel) ⟨Nat.le_of_ble_eq_true rfl, Nat.le_of_ble_eq_true rfl⟩) (preS hPc hKK) rfl rfl hl.1 rfl (lv_room (Nat.le_of_ble_eq_true rfl)) dX4_isSoundNow_121 ⟨Nat.zero_le _, Nat.zero_le _⟩) (fun r_7 h => ?_)
                  refine lv_if_eq (tgt := 153) hx hb dX4_isSoundNow_124 (by decide) (fun hc => ?_) (fun hc => ?_)
                  · have h := h.1 hc
                    refine lv_iinc (v := (i3 + 1)) hx hb dX4_isSoundNow_153 hl (k := 5) rfl (by rw [show Int32.ofInt 1 = 1 from by decide]) (Nat.le_of_ble_eq_true rfl) rfl (fun ls hl => ?_)
                    have hl : lv_has ls 7 [(3, .int (i3 + 1)), (6, .ref (sa i2.toNatClampNeg)), (4, .long r_2), (0, .ref m0), (1, .ref y0), (2, .int i2)] := hl
                    refine lv_goto (tgt := 26) hx hb dX4_isSoundNow_156 (by decide) ?_
                    have hl := lv_sub (l' := [(0, .ref m0), (1, .ref y0), (2, .int i2), (3, .int (i3 + 1))]) hl [3, 4, 5, 0] rfl
                    exact ih _ ls hl h
                  · have h := h.2 hc
                    refine lv_aload_n hx hb dX4_isSoundNow_127 rfl (lv_at hl 3 rfl) ?_
                    refine lv_iload_n hx hb dX4_isSoundNow_128 rfl (lv_at hl 4 rfl) ?_
                    obtain ⟨hin, h⟩ := h
                    refine va_lald (D := G.1) hx hb hK hP 20 1 rfl rfl hin dX4_isSoundNow_129 ?_
                    refine lv_aload_n hx hb dX4_isSoundNow_130 rfl (lv_at hl 2 rfl) ?_
                    refine lv_iload_n hx hb dX4_isSoundNow_131 rfl (lv_at hl 5 rfl) ?_
                    refine lv_aload_n hx hb dX4_isSoundNow_132 rfl (lv_at hl 3 rfl) ?_
                    refine lv_aload hx hb dX4_isSoundNow_133 (lv_at hl 0 rfl) ?_
                    refine lv_iconst (v := 2) hx hb dX4_isSoundNow_135 (by decide) ?_
                    have hin : vp_in (2 : Int32) 4 := show ¬ ((2 : Int32) < 0 ∨ 4 ≤ ((2 : Int32)).toNatClampNeg) from by decide
                    refine va_iald (D := G.1) hx hb hK (hSS.row hf_2 hS.2.1) 0 0 rfl rfl hin dX4_isSoundNow_136 ?_
                    obtain ⟨hin, h⟩ := h
                    refine va_lald (D := G.1) hx hb hK hP 20 1 rfl rfl hin dX4_isSoundNow_137 ?_
                    have hPc := va_P.sub (ws' := [(m0, .inr (7, [.int th, .int mr, .long po, .ref dO, .ref sl, .ref ct0, .int mf, .int sp, .ref st0, .ref fs0, .ref jn0, .ref rw0, .ref fd0, .ref af0, .ref kO])), (dO, .inl (G.2 4, 6, .inr (.inr (.inr (.inr (fun k => if k < 6 then some (dr k) else none)))))), (dr 0, .inl (G.2 0, 64, .inl (DD 0))), (dr 1, .inl (G.2 0, 64, .inl (DD 1))), (dr 2, .inl (G.2 0, 64, .inl (DD 2))), (dr 3, .inl (G.2 0, 64, .inl (DD 3))), (dr 4, .inl (G.2 0, 64, .inl (DD 4))), (dr 5, .inl (G.2 0, 64, .inl (DD 5))), (ct0, .inl (G.2 0, 6, .inl ctf)), (st0, .inl (G.2 0, 4096, .inl stf)), (fs0, .inl (G.2 0, 4096, .inl fsf)), (jn0, .inl (G.2 0, 64, .inl jnf)), (rw0, .inl (G.2 0, 64, .inl rwf)), (fd0, .inl (G.2 1, 40, .inr (.inl fdf))), (af0, .inl (G.2 3, 40, .inl aff)), (kO, .inl (G.2 4, 4, .inr (.inr (.inr (.inr (fun k => if k < 4 then some (kr k) else none)))))), (kr 0, .inl (G.2 0, 64, .inl (KP 0))), (kr 1, .inl (G.2 0, 64, .inl (KP 1))), (kr 2, .inl (G.2 0, 64, .inl (KP 2))), (kr 3, .inl (G.2 0, 64, .inl (KP 3)))]) hP [0, 1, 2, 3, 4, 5, 6, 7, 8, 9, 10, 11, 12, 13, 14, 15, 16, 17, 18, 19] rfl
                    refine rdL (va_runV (C := RX4) (As := [.int i3, .long (yf (sq (i2.toNatClampNeg) (2 : Int32).toNatClampNeg).toNatClampNeg)]) (rest := [.long (yf i2.toNatClampNeg)]) ⟨hx, hb, hml, hown, hts⟩ (kX4_known l G m0 dO sl ct0 st0 fs0 jn0 rw0 fd0 af0 kO dr kr sa th mr po mf sp DD ctf stf fsf jnf rwf fdf aff KP sn sq i3 (yf (sq (i2.toNatClampNeg) (2 : Int32).toNatClampNeg).toNatClampNeg) h) (cwV 2 hts (gdV q1114 q1116 qs14 q6 q1117) rfl rfl rfl (by decide +kernel) ⟨Nat.le_of_ble_eq_true rfl, Nat.le_of_ble_eq_true rfl⟩) (preV hPc hKK (va_recv hK hPc (ci := 7) (q0 := 0) rfl rfl)) rfl rfl hl.1 rfl (lv_room (Nat.le_of_ble_eq_true rfl)) dX4_isSoundNow_138 ⟨Nat.zero_le _, Nat.zero_le _⟩) (fun r_8 h => ?_)
                    refine lv_ldc2 hx hb hown (hts _ q976) dX4_isSoundNow_141 ?_
                    refine lv_lxor hx hb dX4_isSoundNow_144 ?_
                    refine lv_land hx hb dX4_isSoundNow_145 ?_
                    refine lv_lconst (v := 0) hx hb dX4_isSoundNow_146 (by decide) ?_
                    refine W.lcmp hx hb dX4_isSoundNow_147 ?_
                    refine lv_if_eq (tgt := 153) hx hb dX4_isSoundNow_148 (by decide) (fun hc => ?_) (fun hc => ?_)
                    · have h := h.1 hc
                      refine lv_iinc (v := (i3 + 1)) hx hb dX4_isSoundNow_153 hl (k := 5) rfl (by rw [show Int32.ofInt 1 = 1 from by decide]) (Nat.le_of_ble_eq_true rfl) rfl (fun ls hl => ?_)
                      have hl : lv_has ls 7 [(3, .int (i3 + 1)), (6, .ref (sa i2.toNatClampNeg)), (4, .long r_2), (0, .ref m0), (1, .ref y0), (2, .int i2)] := hl
                      refine lv_goto (tgt := 26) hx hb dX4_isSoundNow_156 (by decide) ?_
                      have hl := lv_sub (l' := [(0, .ref m0), (1, .ref y0), (2, .int i2), (3, .int (i3 + 1))]) hl [3, 4, 5, 0] rfl
                      exact ih _ ls hl h
                    · have h := h.2 hc
                      refine lv_iconst (v := 0) hx hb dX4_isSoundNow_151 (by decide) ?_
                      exact W.zret (v := (0 : Int32)) hx hb hr (by decide) (fun t ht _ => ⟨_, rfl, h, ht⟩) (fun _ hq => absurd hq List.not_mem_nil) dX4_isSoundNow_152
            · have h := h.2 hc
              refine lv_iconst (v := 0) hx hb dX4_isSoundNow_82 (by decide) ?_
              exact W.zret (v := (0 : Int32)) hx hb hr (by decide) (fun t ht _ => ⟨_, rfl, h, ht⟩) (fun _ hq => absurd hq List.not_mem_nil) dX4_isSoundNow_83
  have loop18 : ∀ (K165 : Int32 → Prop), True → (∀ (i2 : Int32) (ls : Array Slot), lv_has ls 7 [(0, .ref m0), (1, .ref y0), (2, .int i2)] → K165 i2 → W p l e (headSpec (wl_X4_isSoundNow) rm_X4_isSoundNow).room s m ([.ref m0, .ref y0] : List Value).toArray below meth c s.heap [] 0 0 (MQ below (vp_Si post) ([.ref m0, .ref y0] : List Value).toArray s 0 0 (fun _ => False)) (F0 m 165 ls [])) → ∀ (n : Nat) (i2 : Int32) (ls : Array Slot), lv_has ls 7 [(0, .ref m0), (1, .ref y0), (2, .int i2)] → wX4_isSoundNow_L18 post K165 mr po DD sn sq yn yf n i2 → W p l e (headSpec (wl_X4_isSoundNow) rm_X4_isSoundNow).room s m ([.ref m0, .ref y0] : List Value).toArray below meth c s.heap [] 0 0 (MQ below (vp_Si post) ([.ref m0, .ref y0] : List Value).toArray s 0 0 (fun _ => False)) (F0 m 18 ls []) := by
    intro K165 _ hexit165 n
    induction n with
    | zero => intro i2 ls hl h; exact False.elim h
    | succ n ih =>
      intro i2 ls hl h
      refine lv_iload_n hx hb dX4_isSoundNow_18 rfl (lv_at hl 2 rfl) ?_
      refine lv_aload_n hx hb dX4_isSoundNow_19 rfl (lv_at hl 1 rfl) ?_
      refine va_alen (D := G.1) (v := (nI yn)) hx hb hK hP 20 1 rfl rfl rfl dX4_isSoundNow_20 ?_
      refine lv_icmp_ge (tgt := 165) hx hb dX4_isSoundNow_21 (by decide) (fun hc => ?_) (fun hc => ?_)
      · have h := h.1 hc
        have hl := lv_sub (l' := [(0, .ref m0), (1, .ref y0), (2, .int i2)]) hl [0, 1, 2] rfl
        exact hexit165 _ ls hl h
      · have h := h.2 hc
        refine lv_iconst (v := 0) hx hb dX4_isSoundNow_24 (by decide) ?_
        refine lv_istore_n hx hb dX4_isSoundNow_25 rfl hl (Nat.le_of_ble_eq_true rfl) rfl (fun ls hl => ?_)
        have hl : lv_has ls 7 [(3, .int (0 : Int32)), (0, .ref m0), (1, .ref y0), (2, .int i2)] := hl
        have hl := lv_sub (l' := [(0, .ref m0), (1, .ref y0), (2, .int i2), (3, .int (0 : Int32))]) hl [1, 2, 3, 0] rfl
        obtain ⟨nF, h⟩ := h
        refine loop26 _ i2 trivial ?_ nF (0 : Int32) _ hl h
        · intro i3 ls hl h
          refine lv_iinc (v := (i2 + 1)) hx hb dX4_isSoundNow_159 hl (k := 2) rfl (by rw [show Int32.ofInt 1 = 1 from by decide]) (Nat.le_of_ble_eq_true rfl) rfl (fun ls hl => ?_)
          have hl : lv_has ls 7 [(2, .int (i2 + 1)), (0, .ref m0), (1, .ref y0), (3, .int i3)] := hl
          refine lv_goto (tgt := 18) hx hb dX4_isSoundNow_162 (by decide) ?_
          have hl := lv_sub (l' := [(0, .ref m0), (1, .ref y0), (2, .int (i2 + 1))]) hl [1, 2, 0] rfl
          exact ih _ ls hl h
  refine lv_aload_n hx hb dX4_isSoundNow_0 rfl (lv_at hl 0 rfl) ?_
  refine va_get (D := G.1) (ci := 7) (v := .long po) (C := RX4) (T := TX4) (N := 15) hx hb hts igX4 hown hK hP 0 rfl rfl 2 (by decide) (hts _ q1007) (fun _ h9 => h9) rfl dX4_isSoundNow_1 ?_
  refine lv_aload_n hx hb dX4_isSoundNow_4 rfl (lv_at hl 0 rfl) ?_
  refine va_get (D := G.1) (ci := 7) (v := .int mr) (C := RX4) (T := TX4) (N := 15) hx hb hts igX4 hown hK hP 0 rfl rfl 1 (by decide) (hts _ q1006) (fun _ h9 => h9) rfl dX4_isSoundNow_5 ?_
  have hPc := va_P.sub (ws' := []) hP [] rfl
  refine rdI (va_runS (As := [.long po, .int mr]) (rest := []) ⟨hx, hb, hml, hown, hts⟩ (kX4_has_ l G po mr h) (va_cwS 2 hts (gdS q1122 q1123 q6 q1124) rfl rfl rfl (by decide +kernel) ⟨Nat.le_of_ble_eq_true rfl, Nat.le_of_ble_eq_true rfl⟩) (preS hPc hKK) rfl rfl hl.1 rfl (lv_room (Nat.le_of_ble_eq_true rfl)) dX4_isSoundNow_8 ⟨Nat.zero_le _, Nat.zero_le _⟩) (fun r_1 h => ?_)
  refine lv_if_ne (tgt := 16) hx hb dX4_isSoundNow_11 (by decide) (fun hc => ?_) (fun hc => ?_)
  · have h := h.1 hc
    refine lv_iconst (v := 0) hx hb dX4_isSoundNow_16 (by decide) ?_
    refine lv_istore_n hx hb dX4_isSoundNow_17 rfl hl (Nat.le_of_ble_eq_true rfl) rfl (fun ls hl => ?_)
    have hl : lv_has ls 7 [(2, .int (0 : Int32)), (0, .ref m0), (1, .ref y0)] := hl
    have hl := lv_sub (l' := [(0, .ref m0), (1, .ref y0), (2, .int (0 : Int32))]) hl [1, 2, 0] rfl
    obtain ⟨nF, h⟩ := h
    refine loop18 _ trivial ?_ nF (0 : Int32) _ hl h
    · intro i2 ls hl h
      refine lv_iconst (v := 1) hx hb dX4_isSoundNow_165 (by decide) ?_
      exact W.zret (v := (1 : Int32)) hx hb hr (by decide) (fun t ht _ => ⟨_, rfl, h, ht⟩) (fun _ hq => absurd hq List.not_mem_nil) dX4_isSoundNow_166
  · have h := h.2 hc
    refine lv_iconst (v := 0) hx hb dX4_isSoundNow_14 (by decide) ?_
    exact W.zret (v := (0 : Int32)) hx hb hr (by decide) (fun t ht _ => ⟨_, rfl, h, ht⟩) (fun _ hq => absurd hq List.not_mem_nil) dX4_isSoundNow_15
theorem dX4_ofNow_0 : decode cX4_ofNow 0 = .ok (.aload_n 0, 1) := by decide +kernel
theorem dX4_ofNow_1 : decode cX4_ofNow 1 = .ok (.getfield 23, 3) := by decide +kernel
theorem dX4_ofNow_4 : decode cX4_ofNow 4 = .ok (.iload_n 1, 1) := by decide +kernel
theorem dX4_ofNow_5 : decode cX4_ofNow 5 = .ok (.invokeinterface 96 2, 5) := by decide +kernel
theorem dX4_ofNow_10 : decode cX4_ofNow 10 = .ok (.checkcast 102, 3) := by decide +kernel
theorem dX4_ofNow_13 : decode cX4_ofNow 13 = .ok (.astore 5, 2) := by decide +kernel
theorem dX4_ofNow_15 : decode cX4_ofNow 15 = .ok (.iload_n 2, 1) := by decide +kernel
theorem dX4_ofNow_16 : decode cX4_ofNow 16 = .ok (.tableswitch 135 0 8 #[52, 52, 52, 57, 62, 79, 94, 106, 129], 52) := by decide +kernel
theorem dX4_ofNow_68 : decode cX4_ofNow 68 = .ok (.aload 5, 2) := by decide +kernel
theorem dX4_ofNow_70 : decode cX4_ofNow 70 = .ok (.iload_n 2, 1) := by decide +kernel
theorem dX4_ofNow_71 : decode cX4_ofNow 71 = .ok (.iaload, 1) := by decide +kernel
theorem dX4_ofNow_72 : decode cX4_ofNow 72 = .ok (.ireturn, 1) := by decide +kernel
theorem dX4_ofNow_73 : decode cX4_ofNow 73 = .ok (.lload_n 3, 1) := by decide +kernel
theorem dX4_ofNow_74 : decode cX4_ofNow 74 = .ok (.invokestatic 166, 3) := by decide +kernel
theorem dX4_ofNow_77 : decode cX4_ofNow 77 = .ok (.ireturn, 1) := by decide +kernel
theorem dX4_ofNow_78 : decode cX4_ofNow 78 = .ok (.lload_n 3, 1) := by decide +kernel
theorem dX4_ofNow_79 : decode cX4_ofNow 79 = .ok (.aload_n 0, 1) := by decide +kernel
theorem dX4_ofNow_80 : decode cX4_ofNow 80 = .ok (.getfield 127, 3) := by decide +kernel
theorem dX4_ofNow_83 : decode cX4_ofNow 83 = .ok (.invokestatic 58, 3) := by decide +kernel
theorem dX4_ofNow_86 : decode cX4_ofNow 86 = .ok (.ifCond .eq 7, 3) := by decide +kernel
theorem dX4_ofNow_89 : decode cX4_ofNow 89 = .ok (.iconst 1, 1) := by decide +kernel
theorem dX4_ofNow_90 : decode cX4_ofNow 90 = .ok (.goto 4, 3) := by decide +kernel
theorem dX4_ofNow_93 : decode cX4_ofNow 93 = .ok (.iconst 0, 1) := by decide +kernel
theorem dX4_ofNow_94 : decode cX4_ofNow 94 = .ok (.ireturn, 1) := by decide +kernel
theorem dX4_ofNow_95 : decode cX4_ofNow 95 = .ok (.aload_n 0, 1) := by decide +kernel
theorem dX4_ofNow_96 : decode cX4_ofNow 96 = .ok (.bipush 63, 2) := by decide +kernel
theorem dX4_ofNow_98 : decode cX4_ofNow 98 = .ok (.lload_n 3, 1) := by decide +kernel
theorem dX4_ofNow_99 : decode cX4_ofNow 99 = .ok (.aload_n 0, 1) := by decide +kernel
theorem dX4_ofNow_100 : decode cX4_ofNow 100 = .ok (.getfield 127, 3) := by decide +kernel
theorem dX4_ofNow_103 : decode cX4_ofNow 103 = .ok (.invokevirtual 176, 3) := by decide +kernel
theorem dX4_ofNow_106 : decode cX4_ofNow 106 = .ok (.invokestatic 190, 3) := by decide +kernel
theorem dX4_ofNow_109 : decode cX4_ofNow 109 = .ok (.ireturn, 1) := by decide +kernel
theorem dX4_ofNow_110 : decode cX4_ofNow 110 = .ok (.aload_n 0, 1) := by decide +kernel
theorem dX4_ofNow_111 : decode cX4_ofNow 111 = .ok (.bipush 63, 2) := by decide +kernel
theorem dX4_ofNow_113 : decode cX4_ofNow 113 = .ok (.lload_n 3, 1) := by decide +kernel
theorem dX4_ofNow_114 : decode cX4_ofNow 114 = .ok (.aload_n 0, 1) := by decide +kernel
theorem dX4_ofNow_115 : decode cX4_ofNow 115 = .ok (.getfield 127, 3) := by decide +kernel
theorem dX4_ofNow_118 : decode cX4_ofNow 118 = .ok (.invokevirtual 176, 3) := by decide +kernel
theorem dX4_ofNow_121 : decode cX4_ofNow 121 = .ok (.ireturn, 1) := by decide +kernel
theorem dX4_ofNow_122 : decode cX4_ofNow 122 = .ok (.aload_n 0, 1) := by decide +kernel
theorem dX4_ofNow_123 : decode cX4_ofNow 123 = .ok (.bipush 63, 2) := by decide +kernel
theorem dX4_ofNow_125 : decode cX4_ofNow 125 = .ok (.lload_n 3, 1) := by decide +kernel
theorem dX4_ofNow_126 : decode cX4_ofNow 126 = .ok (.invokevirtual 90, 3) := by decide +kernel
theorem dX4_ofNow_129 : decode cX4_ofNow 129 = .ok (.aload_n 0, 1) := by decide +kernel
theorem dX4_ofNow_130 : decode cX4_ofNow 130 = .ok (.getfield 127, 3) := by decide +kernel
theorem dX4_ofNow_133 : decode cX4_ofNow 133 = .ok (.invokestatic 58, 3) := by decide +kernel
theorem dX4_ofNow_136 : decode cX4_ofNow 136 = .ok (.ifCond .eq 7, 3) := by decide +kernel
theorem dX4_ofNow_139 : decode cX4_ofNow 139 = .ok (.iconst 1, 1) := by decide +kernel
theorem dX4_ofNow_140 : decode cX4_ofNow 140 = .ok (.goto 4, 3) := by decide +kernel
theorem dX4_ofNow_143 : decode cX4_ofNow 143 = .ok (.iconst 0, 1) := by decide +kernel
theorem dX4_ofNow_144 : decode cX4_ofNow 144 = .ok (.ireturn, 1) := by decide +kernel
theorem dX4_ofNow_145 : decode cX4_ofNow 145 = .ok (.aload_n 0, 1) := by decide +kernel
theorem dX4_ofNow_146 : decode cX4_ofNow 146 = .ok (.lload_n 3, 1) := by decide +kernel
theorem dX4_ofNow_147 : decode cX4_ofNow 147 = .ok (.invokevirtual 196, 3) := by decide +kernel
theorem dX4_ofNow_150 : decode cX4_ofNow 150 = .ok (.ireturn, 1) := by decide +kernel
theorem dX4_ofNow_151 : decode cX4_ofNow 151 = .ok (.aload_n 0, 1) := by decide +kernel
theorem dX4_ofNow_152 : decode cX4_ofNow 152 = .ok (.iload_n 1, 1) := by decide +kernel
theorem dX4_ofNow_153 : decode cX4_ofNow 153 = .ok (.invokevirtual 147, 3) := by decide +kernel
theorem dX4_ofNow_156 : decode cX4_ofNow 156 = .ok (.ireturn, 1) := by decide +kernel
def wX4_ofNow (post : Int32 → Prop) (mr : Int32) (po : Int64) (DD : Nat → Nat → Int32) (sn : Nat) (sq : Nat → Nat → Int32) (p1 : Int32) (p2 : Int32) (p3 : Int64) : Prop :=
  vp_in p1 sn ∧
  (p2 = 0 →
    vp_in p2 4 ∧
    post (sq (p1.toNatClampNeg) p2.toNatClampNeg)
  ) ∧ (¬ p2 = 0 →
  (p2 = 1 →
    vp_in p2 4 ∧
    post (sq (p1.toNatClampNeg) p2.toNatClampNeg)
  ) ∧ (¬ p2 = 1 →
  (p2 = 2 →
    vp_in p2 4 ∧
    post (sq (p1.toNatClampNeg) p2.toNatClampNeg)
  ) ∧ (¬ p2 = 2 →
  (p2 = 3 →
    wX4_size_ (fun r_1 : Int32 =>
      post r_1
      ) p3
  ) ∧ (¬ p2 = 3 →
  (p2 = 4 →
    wX4_has_ (fun r_2 : Int32 =>
      ((r_2 = 0) →
        post (0 : Int32)
      ) ∧ (¬ (r_2 = 0) →
        post (1 : Int32)
      )
      ) p3 mr
  ) ∧ (¬ p2 = 4 →
  (p2 = 5 →
    wX4_who (fun r_3 : Int32 =>
      wX4_size (fun r_4 : Int32 =>
        post r_4
        ) r_3
      ) po DD (63 : Int32) p3 mr
  ) ∧ (¬ p2 = 5 →
  (p2 = 6 →
    wX4_who (fun r_5 : Int32 =>
      post r_5
      ) po DD (63 : Int32) p3 mr
  ) ∧ (¬ p2 = 6 →
  (p2 = 7 →
    wX4_common (fun r_6 : Int64 =>
      wX4_has_ (fun r_7 : Int32 =>
        ((r_7 = 0) →
          post (0 : Int32)
        ) ∧ (¬ (r_7 = 0) →
          post (1 : Int32)
        )
        ) r_6 mr
      ) po DD (63 : Int32) p3
  ) ∧ (¬ p2 = 7 →
  (p2 = 8 →
    wX4_few (fun r_8 : Int32 =>
      post r_8
      ) mr po DD p3
  ) ∧ (¬ p2 = 8 →
    wX4_built (fun r_9 : Int32 =>
      post r_9
      ) sn sq p1
  )))))))))
abbrev wl_X4_ofNow : List Cond := .code yX4_ofNow cX4_ofNow 6 (some .int) :: lwg
abbrev rm_X4_ofNow : Room := { frames := 7, cells := 0, slots := 0, locals := 161 }
set_option maxHeartbeats 4000000 in
set_option maxRecDepth 100000 in
theorem kX4_ofNow {post : Int32 → Prop} (l : Launch) (G : GT) (m0 : Nat) (dO : Nat) (sl : Nat) (ct0 : Nat) (st0 : Nat) (fs0 : Nat) (jn0 : Nat) (rw0 : Nat) (fd0 : Nat) (af0 : Nat) (kO : Nat) (dr : Nat → Nat) (kr : Nat → Nat) (sa : Nat → Nat) (th : Int32) (mr : Int32) (po : Int64) (mf : Int32) (sp : Int32) (DD : Nat → Nat → Int32) (ctf : Nat → Int32) (stf : Nat → Int32) (fsf : Nat → Int32) (jnf : Nat → Int32) (rwf : Nat → Int32) (fdf : Nat → Int64) (aff : Nat → Int32) (KP : Nat → Nat → Int32) (sn : Nat) (sq : Nat → Nat → Int32) (p1 : Int32) (p2 : Int32) (p3 : Int64) (h : wX4_ofNow post mr po DD sn sq p1 p2 p3) : Met l yX4_ofNow wl_X4_ofNow rm_X4_ofNow (va_Pc [.ref m0, .int p1, .int p2, .long p3] (fun U => PP G [(m0, .inr (7, [.int th, .int mr, .long po, .ref dO, .ref sl, .ref ct0, .int mf, .int sp, .ref st0, .ref fs0, .ref jn0, .ref rw0, .ref fd0, .ref af0, .ref kO])), (dO, .inl (G.2 4, 6, .inr (.inr (.inr (.inr (fun k => if k < 6 then some (dr k) else none)))))), (dr 0, .inl (G.2 0, 64, .inl (DD 0))), (dr 1, .inl (G.2 0, 64, .inl (DD 1))), (dr 2, .inl (G.2 0, 64, .inl (DD 2))), (dr 3, .inl (G.2 0, 64, .inl (DD 3))), (dr 4, .inl (G.2 0, 64, .inl (DD 4))), (dr 5, .inl (G.2 0, 64, .inl (DD 5))), (ct0, .inl (G.2 0, 6, .inl ctf)), (st0, .inl (G.2 0, 4096, .inl stf)), (fs0, .inl (G.2 0, 4096, .inl fsf)), (jn0, .inl (G.2 0, 64, .inl jnf)), (rw0, .inl (G.2 0, 64, .inl rwf)), (fd0, .inl (G.2 1, 40, .inr (.inl fdf))), (af0, .inl (G.2 3, 40, .inl aff)), (kO, .inl (G.2 4, 4, .inr (.inr (.inr (.inr (fun k => if k < 4 then some (kr k) else none)))))), (kr 0, .inl (G.2 0, 64, .inl (KP 0))), (kr 1, .inl (G.2 0, 64, .inl (KP 1))), (kr 2, .inl (G.2 0, 64, .inl (KP 2))), (kr 3, .inl (G.2 0, 64, .inl (KP 3)))] U.heap ∧ KK G U ∧ SS G sl sn sa sq (fun _ => False) U U.heap)) (vp_Si post) 0 0 (fun _ => False) := by
  refine Met.ofW (cc := cX4_ofNow) (maxL := 6) (ret := (some .int)) (by decide) rfl ?_
  intro p e s m args below meth c s₁ B hml hv
  obtain ⟨rfl, hP, hKK, hSS⟩ := hv
  obtain ⟨hK, hN, hR, hFW, hNC⟩ := id hKK
  have hx := B.exec
  have hb := B.bytes
  have hr := B.returns
  have hts0 := atoms_spec (ws := wl_X4_ofNow) B.pre
  have hts : ∀ w ∈ lwg, w.before ([.ref m0, .int p1, .int p2, .long p3] : List Value).toArray s = true := fun w hw => hts0 w (List.mem_cons_of_mem _ hw)
  have hown : s.vm.findClass RX4 = some m.cls := findClass_of_methodNamed B.named
  have hlocks := B.notSynchronized
  have hS : va_S (fun _ => False) s.heap s.heap [] := va_S.rf
  have hP : PP G [(m0, .inr (7, [.int th, .int mr, .long po, .ref dO, .ref sl, .ref ct0, .int mf, .int sp, .ref st0, .ref fs0, .ref jn0, .ref rw0, .ref fd0, .ref af0, .ref kO])), (dO, .inl (G.2 4, 6, .inr (.inr (.inr (.inr (fun k => if k < 6 then some (dr k) else none)))))), (dr 0, .inl (G.2 0, 64, .inl (DD 0))), (dr 1, .inl (G.2 0, 64, .inl (DD 1))), (dr 2, .inl (G.2 0, 64, .inl (DD 2))), (dr 3, .inl (G.2 0, 64, .inl (DD 3))), (dr 4, .inl (G.2 0, 64, .inl (DD 4))), (dr 5, .inl (G.2 0, 64, .inl (DD 5))), (ct0, .inl (G.2 0, 6, .inl ctf)), (st0, .inl (G.2 0, 4096, .inl stf)), (fs0, .inl (G.2 0, 4096, .inl fsf)), (jn0, .inl (G.2 0, 64, .inl jnf)), (rw0, .inl (G.2 0, 64, .inl rwf)), (fd0, .inl (G.2 1, 40, .inr (.inl fdf))), (af0, .inl (G.2 3, 40, .inl aff)), (kO, .inl (G.2 4, 4, .inr (.inr (.inr (.inr (fun k => if k < 4 then some (kr k) else none)))))), (kr 0, .inl (G.2 0, 64, .inl (KP 0))), (kr 1, .inl (G.2 0, 64, .inl (KP 1))), (kr 2, .inl (G.2 0, 64, .inl (KP 2))), (kr 3, .inl (G.2 0, 64, .inl (KP 3)))] s.heap := hP
  have hl := lv_entry ([.ref m0, .int p1, .int p2, .long p3]) (n := 6) (Nat.le_of_ble_eq_true rfl)
  rw [lg_entry_eq]
  generalize (lg_sl ([.ref m0, .int p1, .int p2, .long p3]) ++ List.replicate (6 - (lg_sl ([.ref m0, .int p1, .int p2, .long p3])).length) Slot.unset).toArray = ls at hl ⊢
  have hl : lv_has ls 6 [(0, .ref m0), (1, .int p1), (2, .int p2), (3, .long p3)] := hl
  refine lv_aload_n hx hb dX4_ofNow_0 rfl (lv_at hl 0 rfl) ?_
  refine va_get (D := G.1) (ci := 7) (v := .ref sl) (C := RX4) (T := TX4) (N := 15) hx hb hts igX4 hown hK hP 0 rfl rfl 4 (by decide) (hts _ q1009) (fun _ h9 => h9) rfl dX4_ofNow_1 ?_
  refine lv_iload_n hx hb dX4_ofNow_4 rfl (lv_at hl 1 rfl) ?_
  obtain ⟨hin, h⟩ := h
  have hf_1 : p1.toNatClampNeg < sn := vpLt hin
  refine listGet (rest := []) hSS hS.2.1 hin ⟨hx, hb, hml, hown, hts⟩ hKK hK q1086 hl.1 (lv_room (Nat.le_of_ble_eq_true rfl)) (Nat.le_of_ble_eq_true rfl) (Nat.le_of_ble_eq_true rfl) dX4_ofNow_5 ?_
  refine va_castA (D := G.1) (cl := vwCl) hx hb hown (hts _ q1102) (hSS.row hf_1 hS.2.1) 0 rfl ((hK.2 0 _ rfl).2) dX4_ofNow_10 ?_
  refine lv_astore hx hb dX4_ofNow_13 hl (Nat.le_of_ble_eq_true rfl) rfl (fun ls hl => ?_)
  have hl : lv_has ls 6 [(5, .ref (sa p1.toNatClampNeg)), (0, .ref m0), (1, .int p1), (2, .int p2), (3, .long p3)] := hl
  refine lv_iload_n hx hb dX4_ofNow_15 rfl (lv_at hl 3 rfl) ?_
  by_cases hc0 : p2 = 0
  · have h := h.1 hc0
    refine lv_tableIn (tgt := 68) hx hb dX4_ofNow_16 (by rw [hc0]; decide) (by rw [hc0]; decide) (by rw [hc0]; rfl) (by decide) ?_
    refine lv_aload hx hb dX4_ofNow_68 (lv_at hl 0 rfl) ?_
    refine lv_iload_n hx hb dX4_ofNow_70 rfl (lv_at hl 3 rfl) ?_
    obtain ⟨hin, h⟩ := h
    refine va_iald (D := G.1) hx hb hK (hSS.row hf_1 hS.2.1) 0 0 rfl rfl hin dX4_ofNow_71 ?_
    exact W.iret (v := (sq (p1.toNatClampNeg) p2.toNatClampNeg)) hx hb hr (fun t ht _ => ⟨_, rfl, h, ht⟩) (fun _ hq => absurd hq List.not_mem_nil) dX4_ofNow_72
  have h := h.2 hc0
  by_cases hc1 : p2 = 1
  · have h := h.1 hc1
    refine lv_tableIn (tgt := 68) hx hb dX4_ofNow_16 (by rw [hc1]; decide) (by rw [hc1]; decide) (by rw [hc1]; rfl) (by decide) ?_
    refine lv_aload hx hb dX4_ofNow_68 (lv_at hl 0 rfl) ?_
    refine lv_iload_n hx hb dX4_ofNow_70 rfl (lv_at hl 3 rfl) ?_
    obtain ⟨hin, h⟩ := h
    refine va_iald (D := G.1) hx hb hK (hSS.row hf_1 hS.2.1) 0 0 rfl rfl hin dX4_ofNow_71 ?_
    exact W.iret (v := (sq (p1.toNatClampNeg) p2.toNatClampNeg)) hx hb hr (fun t ht _ => ⟨_, rfl, h, ht⟩) (fun _ hq => absurd hq List.not_mem_nil) dX4_ofNow_72
  have h := h.2 hc1
  by_cases hc2 : p2 = 2
  · have h := h.1 hc2
    refine lv_tableIn (tgt := 68) hx hb dX4_ofNow_16 (by rw [hc2]; decide) (by rw [hc2]; decide) (by rw [hc2]; rfl) (by decide) ?_
    refine lv_aload hx hb dX4_ofNow_68 (lv_at hl 0 rfl) ?_
    refine lv_iload_n hx hb dX4_ofNow_70 rfl (lv_at hl 3 rfl) ?_
    obtain ⟨hin, h⟩ := h
    refine va_iald (D := G.1) hx hb hK (hSS.row hf_1 hS.2.1) 0 0 rfl rfl hin dX4_ofNow_71 ?_
    exact W.iret (v := (sq (p1.toNatClampNeg) p2.toNatClampNeg)) hx hb hr (fun t ht _ => ⟨_, rfl, h, ht⟩) (fun _ hq => absurd hq List.not_mem_nil) dX4_ofNow_72
  have h := h.2 hc2
  by_cases hc3 : p2 = 3
  · have h := h.1 hc3
    refine lv_tableIn (tgt := 73) hx hb dX4_ofNow_16 (by rw [hc3]; decide) (by rw [hc3]; decide) (by rw [hc3]; rfl) (by decide) ?_
    refine lv_lload_n hx hb dX4_ofNow_73 rfl (lv_at hl 4 rfl) ?_
    have hPc := va_P.sub (ws' := []) hP [] rfl
    refine rdI (va_runS (As := [.long p3]) (rest := []) ⟨hx, hb, hml, hown, hts⟩ (kX4_size_ l G p3 h) (va_cwS 1 hts (gdS q1227 q1228 q6 q1229) rfl rfl rfl (by decide +kernel) ⟨Nat.le_of_ble_eq_true rfl, Nat.le_of_ble_eq_true rfl⟩) (preS hPc hKK) rfl rfl hl.1 rfl (lv_room (Nat.le_of_ble_eq_true rfl)) dX4_ofNow_74 ⟨Nat.zero_le _, Nat.zero_le _⟩) (fun r_1 h => ?_)
    exact W.iret (v := r_1) hx hb hr (fun t ht _ => ⟨_, rfl, h, ht⟩) (fun _ hq => absurd hq List.not_mem_nil) dX4_ofNow_77
  have h := h.2 hc3
  by_cases hc4 : p2 = 4
  · have h := h.1 hc4
    refine lv_tableIn (tgt := 78) hx hb dX4_ofNow_16 (by rw [hc4]; decide) (by rw [hc4]; decide) (by rw [hc4]; rfl) (by decide) ?_
    refine lv_lload_n hx hb dX4_ofNow_78 rfl (lv_at hl 4 rfl) ?_
    refine lv_aload_n hx hb dX4_ofNow_79 rfl (lv_at hl 1 rfl) ?_
    refine va_get (D := G.1) (ci := 7) (v := .int mr) (C := RX4) (T := TX4) (N := 15) hx hb hts igX4 hown hK hP 0 rfl rfl 1 (by decide) (hts _ q1006) (fun _ h9 => h9) rfl dX4_ofNow_80 ?_
    have hPc := va_P.sub (ws' := []) hP [] rfl
    refine rdI (va_runS (As := [.long p3, .int mr]) (rest := []) ⟨hx, hb, hml, hown, hts⟩ (kX4_has_ l G p3 mr h) (va_cwS 2 hts (gdS q1122 q1123 q6 q1124) rfl rfl rfl (by decide +kernel) ⟨Nat.le_of_ble_eq_true rfl, Nat.le_of_ble_eq_true rfl⟩) (preS hPc hKK) rfl rfl hl.1 rfl (lv_room (Nat.le_of_ble_eq_true rfl)) dX4_ofNow_83 ⟨Nat.zero_le _, Nat.zero_le _⟩) (fun r_2 h => ?_)
    refine lv_if_eq (tgt := 93) hx hb dX4_ofNow_86 (by decide) (fun hc => ?_) (fun hc => ?_)
    · have h := h.1 hc
      refine lv_iconst (v := 0) hx hb dX4_ofNow_93 (by decide) ?_
      exact W.iret (v := (0 : Int32)) hx hb hr (fun t ht _ => ⟨_, rfl, h, ht⟩) (fun _ hq => absurd hq List.not_mem_nil) dX4_ofNow_94
    · have h := h.2 hc
      refine lv_iconst (v := 1) hx hb dX4_ofNow_89 (by decide) ?_
      refine lv_goto (tgt := 94) hx hb dX4_ofNow_90 (by decide) ?_
      exact W.iret (v := (1 : Int32)) hx hb hr (fun t ht _ => ⟨_, rfl, h, ht⟩) (fun _ hq => absurd hq List.not_mem_nil) dX4_ofNow_94
  have h := h.2 hc4
  by_cases hc5 : p2 = 5
  · have h := h.1 hc5
    refine lv_tableIn (tgt := 95) hx hb dX4_ofNow_16 (by rw [hc5]; decide) (by rw [hc5]; decide) (by rw [hc5]; rfl) (by decide) ?_
    refine lv_aload_n hx hb dX4_ofNow_95 rfl (lv_at hl 1 rfl) ?_
    refine lv_bipush (v := 63) hx hb dX4_ofNow_96 (by decide) ?_
    refine lv_lload_n hx hb dX4_ofNow_98 rfl (lv_at hl 4 rfl) ?_
    refine lv_aload_n hx hb dX4_ofNow_99 rfl (lv_at hl 1 rfl) ?_
    refine va_get (D := G.1) (ci := 7) (v := .int mr) (C := RX4) (T := TX4) (N := 15) hx hb hts igX4 hown hK hP 0 rfl rfl 1 (by decide) (hts _ q1006) (fun _ h9 => h9) rfl dX4_ofNow_100 ?_
    have hPc := hP
    refine rdI (va_runV (C := RX4) (As := [.int (63 : Int32), .long p3, .int mr]) (rest := []) ⟨hx, hb, hml, hown, hts⟩ (kX4_who l G m0 dO sl ct0 st0 fs0 jn0 rw0 fd0 af0 kO dr kr sa th mr po mf sp DD ctf stf fsf jnf rwf fdf aff KP sn sq (63 : Int32) p3 mr h) (cwV 3 hts (gdV q1258 q1260 qs31 q6 q1261) rfl rfl rfl (by decide +kernel) ⟨Nat.le_of_ble_eq_true rfl, Nat.le_of_ble_eq_true rfl⟩) (preV hPc hKK (va_recv hK hPc (ci := 7) (q0 := 0) rfl rfl)) rfl rfl hl.1 rfl (lv_room (Nat.le_of_ble_eq_true rfl)) dX4_ofNow_103 ⟨Nat.zero_le _, Nat.zero_le _⟩) (fun r_3 h => ?_)
    have hPc := va_P.sub (ws' := []) hP [] rfl
    refine rdI (va_runS (As := [.int r_3]) (rest := []) ⟨hx, hb, hml, hown, hts⟩ (kX4_size l G r_3 h) (va_cwS 1 hts (gdS q1293 q1294 q6 q1295) rfl rfl rfl (by decide +kernel) ⟨Nat.le_of_ble_eq_true rfl, Nat.le_of_ble_eq_true rfl⟩) (preS hPc hKK) rfl rfl hl.1 rfl (lv_room (Nat.le_of_ble_eq_true rfl)) dX4_ofNow_106 ⟨Nat.zero_le _, Nat.zero_le _⟩) (fun r_4 h => ?_)
    exact W.iret (v := r_4) hx hb hr (fun t ht _ => ⟨_, rfl, h, ht⟩) (fun _ hq => absurd hq List.not_mem_nil) dX4_ofNow_109
  have h := h.2 hc5
  by_cases hc6 : p2 = 6
  · have h := h.1 hc6
    refine lv_tableIn (tgt := 110) hx hb dX4_ofNow_16 (by rw [hc6]; decide) (by rw [hc6]; decide) (by rw [hc6]; rfl) (by decide) ?_
    refine lv_aload_n hx hb dX4_ofNow_110 rfl (lv_at hl 1 rfl) ?_
    refine lv_bipush (v := 63) hx hb dX4_ofNow_111 (by decide) ?_
    refine lv_lload_n hx hb dX4_ofNow_113 rfl (lv_at hl 4 rfl) ?_
    refine lv_aload_n hx hb dX4_ofNow_114 rfl (lv_at hl 1 rfl) ?_
    refine va_get (D := G.1) (ci := 7) (v := .int mr) (C := RX4) (T := TX4) (N := 15) hx hb hts igX4 hown hK hP 0 rfl rfl 1 (by decide) (hts _ q1006) (fun _ h9 => h9) rfl dX4_ofNow_115 ?_
    have hPc := hP
    refine rdI (va_runV (C := RX4) (As := [.int (63 : Int32), .long p3, .int mr]) (rest := []) ⟨hx, hb, hml, hown, hts⟩ (kX4_who l G m0 dO sl ct0 st0 fs0 jn0 rw0 fd0 af0 kO dr kr sa th mr po mf sp DD ctf stf fsf jnf rwf fdf aff KP sn sq (63 : Int32) p3 mr h) (cwV 3 hts (gdV q1258 q1260 qs31 q6 q1261) rfl rfl rfl (by decide +kernel) ⟨Nat.le_of_ble_eq_true rfl, Nat.le_of_ble_eq_true rfl⟩) (preV hPc hKK (va_recv hK hPc (ci := 7) (q0 := 0) rfl rfl)) rfl rfl hl.1 rfl (lv_room (Nat.le_of_ble_eq_true rfl)) dX4_ofNow_118 ⟨Nat.zero_le _, Nat.zero_le _⟩) (fun r_5 h => ?_)
    exact W.iret (v := r_5) hx hb hr (fun t ht _ => ⟨_, rfl, h, ht⟩) (fun _ hq => absurd hq List.not_mem_nil) dX4_ofNow_121
  have h := h.2 hc6
  by_cases hc7 : p2 = 7
  · have h := h.1 hc7
    refine lv_tableIn (tgt := 122) hx hb dX4_ofNow_16 (by rw [hc7]; decide) (by rw [hc7]; decide) (by rw [hc7]; rfl) (by decide) ?_
    refine lv_aload_n hx hb dX4_ofNow_122 rfl (lv_at hl 1 rfl) ?_
    refine lv_bipush (v := 63) hx hb dX4_ofNow_123 (by decide) ?_
    refine lv_lload_n hx hb dX4_ofNow_125 rfl (lv_at hl 4 rfl) ?_
    have hPc := hP
    refine rdL (va_runV (C := RX4) (As := [.int (63 : Int32), .long p3]) (rest := []) ⟨hx, hb, hml, hown, hts⟩ (kX4_common l G m0 dO sl ct0 st0 fs0 jn0 rw0 fd0 af0 kO dr kr sa th mr po mf sp DD ctf stf fsf jnf rwf fdf aff KP sn sq (63 : Int32) p3 h) (cwV 2 hts (gdV q1129 q1131 qs17 q6 q1132) rfl rfl rfl (by decide +kernel) ⟨Nat.le_of_ble_eq_true rfl, Nat.le_of_ble_eq_true rfl⟩) (preV hPc hKK (va_recv hK hPc (ci := 7) (q0 := 0) rfl rfl)) rfl rfl hl.1 rfl (lv_room (Nat.le_of_ble_eq_true rfl)) dX4_ofNow_126 ⟨Nat.zero_le _, Nat.zero_le _⟩) (fun r_6 h => ?_)
    refine lv_aload_n hx hb dX4_ofNow_129 rfl (lv_at hl 1 rfl) ?_
    refine va_get (D := G.1) (ci := 7) (v := .int mr) (C := RX4) (T := TX4) (N := 15) hx hb hts igX4 hown hK hP 0 rfl rfl 1 (by decide) (hts _ q1006) (fun _ h9 => h9) rfl dX4_ofNow_130 ?_
    have hPc := va_P.sub (ws' := []) hP [] rfl
    refine rdI (va_runS (As := [.long r_6, .int mr]) (rest := []) ⟨hx, hb, hml, hown, hts⟩ (kX4_has_ l G r_6 mr h) (va_cwS 2 hts (gdS q1122 q1123 q6 q1124) rfl rfl rfl (by decide +kernel) ⟨Nat.le_of_ble_eq_true rfl, Nat.le_of_ble_eq_true rfl⟩) (preS hPc hKK) rfl rfl hl.1 rfl (lv_room (Nat.le_of_ble_eq_true rfl)) dX4_ofNow_133 ⟨Nat.zero_le _, Nat.zero_le _⟩) (fun r_7 h => ?_)
    refine lv_if_eq (tgt := 143) hx hb dX4_ofNow_136 (by decide) (fun hc => ?_) (fun hc => ?_)
    · have h := h.1 hc
      refine lv_iconst (v := 0) hx hb dX4_ofNow_143 (by decide) ?_
      exact W.iret (v := (0 : Int32)) hx hb hr (fun t ht _ => ⟨_, rfl, h, ht⟩) (fun _ hq => absurd hq List.not_mem_nil) dX4_ofNow_144
    · have h := h.2 hc
      refine lv_iconst (v := 1) hx hb dX4_ofNow_139 (by decide) ?_
      refine lv_goto (tgt := 144) hx hb dX4_ofNow_140 (by decide) ?_
      exact W.iret (v := (1 : Int32)) hx hb hr (fun t ht _ => ⟨_, rfl, h, ht⟩) (fun _ hq => absurd hq List.not_mem_nil) dX4_ofNow_144
  have h := h.2 hc7
  by_cases hc8 : p2 = 8
  · have h := h.1 hc8
    refine lv_tableIn (tgt := 145) hx hb dX4_ofNow_16 (by rw [hc8]; decide) (by rw [hc8]; decide) (by rw [hc8]; rfl) (by decide) ?_
    refine lv_aload_n hx hb dX4_ofNow_145 rfl (lv_at hl 1 rfl) ?_
    refine lv_lload_n hx hb dX4_ofNow_146 rfl (lv_at hl 4 rfl) ?_
    have hPc := hP
    refine rdI (va_runV (C := RX4) (As := [.long p3]) (rest := []) ⟨hx, hb, hml, hown, hts⟩ (kX4_few l G m0 dO sl ct0 st0 fs0 jn0 rw0 fd0 af0 kO dr kr sa th mr po mf sp DD ctf stf fsf jnf rwf fdf aff KP sn sq p3 h) (cwV 1 hts (gdV q1296 q1298 qs34 q6 q1299) rfl rfl rfl (by decide +kernel) ⟨Nat.le_of_ble_eq_true rfl, Nat.le_of_ble_eq_true rfl⟩) (preV hPc hKK (va_recv hK hPc (ci := 7) (q0 := 0) rfl rfl)) rfl rfl hl.1 rfl (lv_room (Nat.le_of_ble_eq_true rfl)) dX4_ofNow_147 ⟨Nat.zero_le _, Nat.zero_le _⟩) (fun r_8 h => ?_)
    exact W.iret (v := r_8) hx hb hr (fun t ht _ => ⟨_, rfl, h, ht⟩) (fun _ hq => absurd hq List.not_mem_nil) dX4_ofNow_150
  have h := h.2 hc8
  refine lv_tableOut (tgt := 151) hx hb dX4_ofNow_16 (tsw_0_8 hc0 hc1 hc2 hc3 hc4 hc5 hc6 hc7 hc8) (by decide) ?_
  refine lv_aload_n hx hb dX4_ofNow_151 rfl (lv_at hl 1 rfl) ?_
  refine lv_iload_n hx hb dX4_ofNow_152 rfl (lv_at hl 2 rfl) ?_
  have hPc := hP
  have hSSc : SS G sl sn sa sq (fun _ => False) s _ := (hSS.kept hS.2.1).narrow (fun _ h => False.elim h)
  refine rdI (va_runV (C := RX4) (As := [.int p1]) (rest := []) ⟨hx, hb, hml, hown, hts⟩ (kX4_built l G m0 dO sl ct0 st0 fs0 jn0 rw0 fd0 af0 kO dr kr sa th mr po mf sp DD ctf stf fsf jnf rwf fdf aff KP sn sq p1 h) (cwV 1 hts (gdV q1158 q1160 qs21 q6 q1161) rfl rfl rfl (by decide +kernel) ⟨Nat.le_of_ble_eq_true rfl, Nat.le_of_ble_eq_true rfl⟩) (preVs hPc hKK hSSc (va_recv hK hPc (ci := 7) (q0 := 0) rfl rfl)) rfl rfl hl.1 rfl (lv_room (Nat.le_of_ble_eq_true rfl)) dX4_ofNow_153 ⟨Nat.zero_le _, Nat.zero_le _⟩) (fun r_9 h => ?_)
  exact W.iret (v := r_9) hx hb hr (fun t ht _ => ⟨_, rfl, h, ht⟩) (fun _ hq => absurd hq List.not_mem_nil) dX4_ofNow_156
theorem dX4_roundsNow_0 : decode cX4_roundsNow 0 = .ok (.aload_n 0, 1) := by decide +kernel
theorem dX4_roundsNow_1 : decode cX4_roundsNow 1 = .ok (.getfield 9, 3) := by decide +kernel
theorem dX4_roundsNow_4 : decode cX4_roundsNow 4 = .ok (.lstore_n 3, 1) := by decide +kernel
theorem dX4_roundsNow_5 : decode cX4_roundsNow 5 = .ok (.iconst 0, 1) := by decide +kernel
theorem dX4_roundsNow_6 : decode cX4_roundsNow 6 = .ok (.istore 5, 2) := by decide +kernel
theorem dX4_roundsNow_8 : decode cX4_roundsNow 8 = .ok (.aload_n 0, 1) := by decide +kernel
theorem dX4_roundsNow_9 : decode cX4_roundsNow 9 = .ok (.iload_n 2, 1) := by decide +kernel
theorem dX4_roundsNow_10 : decode cX4_roundsNow 10 = .ok (.invokevirtual 169, 3) := by decide +kernel
theorem dX4_roundsNow_13 : decode cX4_roundsNow 13 = .ok (.lstore 6, 2) := by decide +kernel
theorem dX4_roundsNow_15 : decode cX4_roundsNow 15 = .ok (.aload_n 0, 1) := by decide +kernel
theorem dX4_roundsNow_16 : decode cX4_roundsNow 16 = .ok (.iload_n 1, 1) := by decide +kernel
theorem dX4_roundsNow_17 : decode cX4_roundsNow 17 = .ok (.lload 6, 2) := by decide +kernel
theorem dX4_roundsNow_19 : decode cX4_roundsNow 19 = .ok (.aload_n 0, 1) := by decide +kernel
theorem dX4_roundsNow_20 : decode cX4_roundsNow 20 = .ok (.getfield 127, 3) := by decide +kernel
theorem dX4_roundsNow_23 : decode cX4_roundsNow 23 = .ok (.invokevirtual 176, 3) := by decide +kernel
theorem dX4_roundsNow_26 : decode cX4_roundsNow 26 = .ok (.ifCond .eq 6, 3) := by decide +kernel
theorem dX4_roundsNow_29 : decode cX4_roundsNow 29 = .ok (.goto 40, 3) := by decide +kernel
theorem dX4_roundsNow_32 : decode cX4_roundsNow 32 = .ok (.aload_n 0, 1) := by decide +kernel
theorem dX4_roundsNow_33 : decode cX4_roundsNow 33 = .ok (.iload_n 1, 1) := by decide +kernel
theorem dX4_roundsNow_34 : decode cX4_roundsNow 34 = .ok (.lload 6, 2) := by decide +kernel
theorem dX4_roundsNow_36 : decode cX4_roundsNow 36 = .ok (.invokevirtual 180, 3) := by decide +kernel
theorem dX4_roundsNow_39 : decode cX4_roundsNow 39 = .ok (.lstore 8, 2) := by decide +kernel
theorem dX4_roundsNow_41 : decode cX4_roundsNow 41 = .ok (.lload 8, 2) := by decide +kernel
theorem dX4_roundsNow_43 : decode cX4_roundsNow 43 = .ok (.aload_n 0, 1) := by decide +kernel
theorem dX4_roundsNow_44 : decode cX4_roundsNow 44 = .ok (.getfield 9, 3) := by decide +kernel
theorem dX4_roundsNow_47 : decode cX4_roundsNow 47 = .ok (.lcmp, 1) := by decide +kernel
theorem dX4_roundsNow_48 : decode cX4_roundsNow 48 = .ok (.ifCond .ne 9, 3) := by decide +kernel
theorem dX4_roundsNow_51 : decode cX4_roundsNow 51 = .ok (.iconst (-1), 1) := by decide +kernel
theorem dX4_roundsNow_52 : decode cX4_roundsNow 52 = .ok (.istore 5, 2) := by decide +kernel
theorem dX4_roundsNow_54 : decode cX4_roundsNow 54 = .ok (.goto 15, 3) := by decide +kernel
theorem dX4_roundsNow_57 : decode cX4_roundsNow 57 = .ok (.aload_n 0, 1) := by decide +kernel
theorem dX4_roundsNow_58 : decode cX4_roundsNow 58 = .ok (.lload 8, 2) := by decide +kernel
theorem dX4_roundsNow_60 : decode cX4_roundsNow 60 = .ok (.putfield 9, 3) := by decide +kernel
theorem dX4_roundsNow_63 : decode cX4_roundsNow 63 = .ok (.iinc 5 1, 3) := by decide +kernel
theorem dX4_roundsNow_66 : decode cX4_roundsNow 66 = .ok (.goto (-58), 3) := by decide +kernel
theorem dX4_roundsNow_69 : decode cX4_roundsNow 69 = .ok (.aload_n 0, 1) := by decide +kernel
theorem dX4_roundsNow_70 : decode cX4_roundsNow 70 = .ok (.lload_n 3, 1) := by decide +kernel
theorem dX4_roundsNow_71 : decode cX4_roundsNow 71 = .ok (.putfield 9, 3) := by decide +kernel
theorem dX4_roundsNow_74 : decode cX4_roundsNow 74 = .ok (.iload 5, 2) := by decide +kernel
theorem dX4_roundsNow_76 : decode cX4_roundsNow 76 = .ok (.ireturn, 1) := by decide +kernel
def wX4_roundsNow_L8 (post : Int32 → Int32 × (Nat → Int32) × (Nat → Int32) × (Nat → Int32) × (Nat → Int32) × (Nat → Int64) × (Nat → Int32) × Int64 → Prop) (K69 : Int32 → Int32 → (Nat → Int32) → (Nat → Int32) → (Nat → Int32) → (Nat → Int32) → (Nat → Int64) → (Nat → Int32) → Int64 → Prop) (th : Int32) (mr : Int32) (mf : Int32) (DD : Nat → Nat → Int32) (ctf : Nat → Int32) (KP : Nat → Nat → Int32) (sn : Nat) (sq : Nat → Nat → Int32) (p1 : Int32) (p2 : Int32) : Nat → Int32 → Int32 → (Nat → Int32) → (Nat → Int32) → (Nat → Int32) → (Nat → Int32) → (Nat → Int64) → (Nat → Int32) → Int64 → Prop
  | 0, _, _, _, _, _, _, _, _, _ => False
  | n+1, i5, sp', stf', fsf', jnf', rwf', fdf', aff', po' =>
    wX4_truthNow (fun (r_1 : Int64) (z_1 : Int32 × (Nat → Int32) × (Nat → Int32) × (Nat → Int32) × (Nat → Int32) × (Nat → Int64) × (Nat → Int32)) =>
      wX4_who (fun r_2 : Int32 =>
        ((r_2 = 0) →
          wX4_asked (fun r_3 : Int64 =>
            ((¬ (lg_cmp r_3 po') = 0) →
              wX4_roundsNow_L8 post K69 th mr mf DD ctf KP sn sq p1 p2 n (i5 + 1) z_1.1 z_1.2.1 z_1.2.2.1 z_1.2.2.2.1 z_1.2.2.2.2.1 z_1.2.2.2.2.2.1 z_1.2.2.2.2.2.2 r_3
            ) ∧ (((lg_cmp r_3 po') = 0) →
              K69 (-1 : Int32) z_1.1 z_1.2.1 z_1.2.2.1 z_1.2.2.2.1 z_1.2.2.2.2.1 z_1.2.2.2.2.2.1 z_1.2.2.2.2.2.2 po'
            )
            ) mr po' DD p1 r_1
        ) ∧ (¬ (r_2 = 0) →
          K69 i5 z_1.1 z_1.2.1 z_1.2.2.1 z_1.2.2.2.1 z_1.2.2.2.2.1 z_1.2.2.2.2.2.1 z_1.2.2.2.2.2.2 po'
        )
        ) po' DD p1 r_1 mr
      ) th mr po' mf sp' DD ctf stf' fsf' jnf' rwf' fdf' aff' KP sn sq p2
def wX4_roundsNow (post : Int32 → Int32 × (Nat → Int32) × (Nat → Int32) × (Nat → Int32) × (Nat → Int32) × (Nat → Int64) × (Nat → Int32) × Int64 → Prop) (th : Int32) (mr : Int32) (po : Int64) (mf : Int32) (sp : Int32) (DD : Nat → Nat → Int32) (ctf : Nat → Int32) (stf : Nat → Int32) (fsf : Nat → Int32) (jnf : Nat → Int32) (rwf : Nat → Int32) (fdf : Nat → Int64) (aff : Nat → Int32) (KP : Nat → Nat → Int32) (sn : Nat) (sq : Nat → Nat → Int32) (p1 : Int32) (p2 : Int32) : Prop :=
  ∃ nF, wX4_roundsNow_L8 post
    (fun i5 sp' stf' fsf' jnf' rwf' fdf' aff' po' =>
      post i5 (sp', stf', fsf', jnf', rwf', fdf', aff', po)
    )
    th mr mf DD ctf KP sn sq p1 p2 nF (0 : Int32) sp stf fsf jnf rwf fdf aff po
abbrev wl_X4_roundsNow : List Cond := .code yX4_roundsNow cX4_roundsNow 10 (some .int) :: lwg
abbrev rm_X4_roundsNow : Room := { frames := 49, cells := 0, slots := 0, locals := 1178 }
set_option maxHeartbeats 4000000 in
set_option maxRecDepth 100000 in
theorem kX4_roundsNow {post : Int32 → Int32 × (Nat → Int32) × (Nat → Int32) × (Nat → Int32) × (Nat → Int32) × (Nat → Int64) × (Nat → Int32) × Int64 → Prop} (l : Launch) (G : GT) (m0 : Nat) (dO : Nat) (sl : Nat) (ct0 : Nat) (st0 : Nat) (fs0 : Nat) (jn0 : Nat) (rw0 : Nat) (fd0 : Nat) (af0 : Nat) (kO : Nat) (dr : Nat → Nat) (kr : Nat → Nat) (sa : Nat → Nat) (th : Int32) (mr : Int32) (po : Int64) (mf : Int32) (sp : Int32) (DD : Nat → Nat → Int32) (ctf : Nat → Int32) (stf : Nat → Int32) (fsf : Nat → Int32) (jnf : Nat → Int32) (rwf : Nat → Int32) (fdf : Nat → Int64) (aff : Nat → Int32) (KP : Nat → Nat → Int32) (sn : Nat) (sq : Nat → Nat → Int32) (p1 : Int32) (p2 : Int32) (sz : Nat) (h : wX4_roundsNow post th mr po mf sp DD ctf stf fsf jnf rwf fdf aff KP sn sq p1 p2) : Met l yX4_roundsNow wl_X4_roundsNow rm_X4_roundsNow (va_Pc [.ref m0, .int p1, .int p2] (fun U => U.heap.size = sz ∧ PP G [(m0, .inr (7, [.int th, .int mr, .long po, .ref dO, .ref sl, .ref ct0, .int mf, .int sp, .ref st0, .ref fs0, .ref jn0, .ref rw0, .ref fd0, .ref af0, .ref kO])), (dO, .inl (G.2 4, 6, .inr (.inr (.inr (.inr (fun k => if k < 6 then some (dr k) else none)))))), (dr 0, .inl (G.2 0, 64, .inl (DD 0))), (dr 1, .inl (G.2 0, 64, .inl (DD 1))), (dr 2, .inl (G.2 0, 64, .inl (DD 2))), (dr 3, .inl (G.2 0, 64, .inl (DD 3))), (dr 4, .inl (G.2 0, 64, .inl (DD 4))), (dr 5, .inl (G.2 0, 64, .inl (DD 5))), (ct0, .inl (G.2 0, 6, .inl ctf)), (st0, .inl (G.2 0, 4096, .inl stf)), (fs0, .inl (G.2 0, 4096, .inl fsf)), (jn0, .inl (G.2 0, 64, .inl jnf)), (rw0, .inl (G.2 0, 64, .inl rwf)), (fd0, .inl (G.2 1, 40, .inr (.inl fdf))), (af0, .inl (G.2 3, 40, .inl aff)), (kO, .inl (G.2 4, 4, .inr (.inr (.inr (.inr (fun k => if k < 4 then some (kr k) else none)))))), (kr 0, .inl (G.2 0, 64, .inl (KP 0))), (kr 1, .inl (G.2 0, 64, .inl (KP 1))), (kr 2, .inl (G.2 0, 64, .inl (KP 2))), (kr 3, .inl (G.2 0, 64, .inl (KP 3)))] U.heap ∧ KK G U ∧ va_D (fun _ => True) [(m0, .inr (7, [.int th, .int mr, .long po, .ref dO, .ref sl, .ref ct0, .int mf, .int sp, .ref st0, .ref fs0, .ref jn0, .ref rw0, .ref fd0, .ref af0, .ref kO])), (dO, .inl (G.2 4, 6, .inr (.inr (.inr (.inr (fun k => if k < 6 then some (dr k) else none)))))), (dr 0, .inl (G.2 0, 64, .inl (DD 0))), (dr 1, .inl (G.2 0, 64, .inl (DD 1))), (dr 2, .inl (G.2 0, 64, .inl (DD 2))), (dr 3, .inl (G.2 0, 64, .inl (DD 3))), (dr 4, .inl (G.2 0, 64, .inl (DD 4))), (dr 5, .inl (G.2 0, 64, .inl (DD 5))), (ct0, .inl (G.2 0, 6, .inl ctf)), (st0, .inl (G.2 0, 4096, .inl stf)), (fs0, .inl (G.2 0, 4096, .inl fsf)), (jn0, .inl (G.2 0, 64, .inl jnf)), (rw0, .inl (G.2 0, 64, .inl rwf)), (fd0, .inl (G.2 1, 40, .inr (.inl fdf))), (af0, .inl (G.2 3, 40, .inl aff)), (kO, .inl (G.2 4, 4, .inr (.inr (.inr (.inr (fun k => if k < 4 then some (kr k) else none)))))), (kr 0, .inl (G.2 0, 64, .inl (KP 0))), (kr 1, .inl (G.2 0, 64, .inl (KP 1))), (kr 2, .inl (G.2 0, 64, .inl (KP 2))), (kr 3, .inl (G.2 0, 64, .inl (KP 3)))] ∧ SS G sl sn sa sq (va_A [(m0, .inr (7, [.int th, .int mr, .long po, .ref dO, .ref sl, .ref ct0, .int mf, .int sp, .ref st0, .ref fs0, .ref jn0, .ref rw0, .ref fd0, .ref af0, .ref kO])), (dO, .inl (G.2 4, 6, .inr (.inr (.inr (.inr (fun k => if k < 6 then some (dr k) else none)))))), (dr 0, .inl (G.2 0, 64, .inl (DD 0))), (dr 1, .inl (G.2 0, 64, .inl (DD 1))), (dr 2, .inl (G.2 0, 64, .inl (DD 2))), (dr 3, .inl (G.2 0, 64, .inl (DD 3))), (dr 4, .inl (G.2 0, 64, .inl (DD 4))), (dr 5, .inl (G.2 0, 64, .inl (DD 5))), (ct0, .inl (G.2 0, 6, .inl ctf)), (st0, .inl (G.2 0, 4096, .inl stf)), (fs0, .inl (G.2 0, 4096, .inl fsf)), (jn0, .inl (G.2 0, 64, .inl jnf)), (rw0, .inl (G.2 0, 64, .inl rwf)), (fd0, .inl (G.2 1, 40, .inr (.inl fdf))), (af0, .inl (G.2 3, 40, .inl aff)), (kO, .inl (G.2 4, 4, .inr (.inr (.inr (.inr (fun k => if k < 4 then some (kr k) else none)))))), (kr 0, .inl (G.2 0, 64, .inl (KP 0))), (kr 1, .inl (G.2 0, 64, .inl (KP 1))), (kr 2, .inl (G.2 0, 64, .inl (KP 2))), (kr 3, .inl (G.2 0, 64, .inl (KP 3)))] sz) U U.heap)) (va_Qi post (fun u t => PP G [(m0, .inr (7, [.int th, .int mr, .long (u.2.2.2.2.2.2.2), .ref dO, .ref sl, .ref ct0, .int mf, .int (u.1), .ref st0, .ref fs0, .ref jn0, .ref rw0, .ref fd0, .ref af0, .ref kO])), (dO, .inl (G.2 4, 6, .inr (.inr (.inr (.inr (fun k => if k < 6 then some (dr k) else none)))))), (dr 0, .inl (G.2 0, 64, .inl (DD 0))), (dr 1, .inl (G.2 0, 64, .inl (DD 1))), (dr 2, .inl (G.2 0, 64, .inl (DD 2))), (dr 3, .inl (G.2 0, 64, .inl (DD 3))), (dr 4, .inl (G.2 0, 64, .inl (DD 4))), (dr 5, .inl (G.2 0, 64, .inl (DD 5))), (ct0, .inl (G.2 0, 6, .inl ctf)), (st0, .inl (G.2 0, 4096, .inl (u.2.1))), (fs0, .inl (G.2 0, 4096, .inl (u.2.2.1))), (jn0, .inl (G.2 0, 64, .inl (u.2.2.2.1))), (rw0, .inl (G.2 0, 64, .inl (u.2.2.2.2.1))), (fd0, .inl (G.2 1, 40, .inr (.inl (u.2.2.2.2.2.1)))), (af0, .inl (G.2 3, 40, .inl (u.2.2.2.2.2.2.1))), (kO, .inl (G.2 4, 4, .inr (.inr (.inr (.inr (fun k => if k < 4 then some (kr k) else none)))))), (kr 0, .inl (G.2 0, 64, .inl (KP 0))), (kr 1, .inl (G.2 0, 64, .inl (KP 1))), (kr 2, .inl (G.2 0, 64, .inl (KP 2))), (kr 3, .inl (G.2 0, 64, .inl (KP 3)))] t.heap ∧ va_D (va_A [(m0, .inr (7, [.int th, .int mr, .long po, .ref dO, .ref sl, .ref ct0, .int mf, .int sp, .ref st0, .ref fs0, .ref jn0, .ref rw0, .ref fd0, .ref af0, .ref kO])), (dO, .inl (G.2 4, 6, .inr (.inr (.inr (.inr (fun k => if k < 6 then some (dr k) else none)))))), (dr 0, .inl (G.2 0, 64, .inl (DD 0))), (dr 1, .inl (G.2 0, 64, .inl (DD 1))), (dr 2, .inl (G.2 0, 64, .inl (DD 2))), (dr 3, .inl (G.2 0, 64, .inl (DD 3))), (dr 4, .inl (G.2 0, 64, .inl (DD 4))), (dr 5, .inl (G.2 0, 64, .inl (DD 5))), (ct0, .inl (G.2 0, 6, .inl ctf)), (st0, .inl (G.2 0, 4096, .inl stf)), (fs0, .inl (G.2 0, 4096, .inl fsf)), (jn0, .inl (G.2 0, 64, .inl jnf)), (rw0, .inl (G.2 0, 64, .inl rwf)), (fd0, .inl (G.2 1, 40, .inr (.inl fdf))), (af0, .inl (G.2 3, 40, .inl aff)), (kO, .inl (G.2 4, 4, .inr (.inr (.inr (.inr (fun k => if k < 4 then some (kr k) else none)))))), (kr 0, .inl (G.2 0, 64, .inl (KP 0))), (kr 1, .inl (G.2 0, 64, .inl (KP 1))), (kr 2, .inl (G.2 0, 64, .inl (KP 2))), (kr 3, .inl (G.2 0, 64, .inl (KP 3)))] sz) [(m0, .inr (7, [.int th, .int mr, .long (u.2.2.2.2.2.2.2), .ref dO, .ref sl, .ref ct0, .int mf, .int (u.1), .ref st0, .ref fs0, .ref jn0, .ref rw0, .ref fd0, .ref af0, .ref kO])), (dO, .inl (G.2 4, 6, .inr (.inr (.inr (.inr (fun k => if k < 6 then some (dr k) else none)))))), (dr 0, .inl (G.2 0, 64, .inl (DD 0))), (dr 1, .inl (G.2 0, 64, .inl (DD 1))), (dr 2, .inl (G.2 0, 64, .inl (DD 2))), (dr 3, .inl (G.2 0, 64, .inl (DD 3))), (dr 4, .inl (G.2 0, 64, .inl (DD 4))), (dr 5, .inl (G.2 0, 64, .inl (DD 5))), (ct0, .inl (G.2 0, 6, .inl ctf)), (st0, .inl (G.2 0, 4096, .inl (u.2.1))), (fs0, .inl (G.2 0, 4096, .inl (u.2.2.1))), (jn0, .inl (G.2 0, 64, .inl (u.2.2.2.1))), (rw0, .inl (G.2 0, 64, .inl (u.2.2.2.2.1))), (fd0, .inl (G.2 1, 40, .inr (.inl (u.2.2.2.2.2.1)))), (af0, .inl (G.2 3, 40, .inl (u.2.2.2.2.2.2.1))), (kO, .inl (G.2 4, 4, .inr (.inr (.inr (.inr (fun k => if k < 4 then some (kr k) else none)))))), (kr 0, .inl (G.2 0, 64, .inl (KP 0))), (kr 1, .inl (G.2 0, 64, .inl (KP 1))), (kr 2, .inl (G.2 0, 64, .inl (KP 2))), (kr 3, .inl (G.2 0, 64, .inl (KP 3)))]) (va_A [(m0, .inr (7, [.int th, .int mr, .long po, .ref dO, .ref sl, .ref ct0, .int mf, .int sp, .ref st0, .ref fs0, .ref jn0, .ref rw0, .ref fd0, .ref af0, .ref kO])), (dO, .inl (G.2 4, 6, .inr (.inr (.inr (.inr (fun k => if k < 6 then some (dr k) else none)))))), (dr 0, .inl (G.2 0, 64, .inl (DD 0))), (dr 1, .inl (G.2 0, 64, .inl (DD 1))), (dr 2, .inl (G.2 0, 64, .inl (DD 2))), (dr 3, .inl (G.2 0, 64, .inl (DD 3))), (dr 4, .inl (G.2 0, 64, .inl (DD 4))), (dr 5, .inl (G.2 0, 64, .inl (DD 5))), (ct0, .inl (G.2 0, 6, .inl ctf)), (st0, .inl (G.2 0, 4096, .inl stf)), (fs0, .inl (G.2 0, 4096, .inl fsf)), (jn0, .inl (G.2 0, 64, .inl jnf)), (rw0, .inl (G.2 0, 64, .inl rwf)), (fd0, .inl (G.2 1, 40, .inr (.inl fdf))), (af0, .inl (G.2 3, 40, .inl aff)), (kO, .inl (G.2 4, 4, .inr (.inr (.inr (.inr (fun k => if k < 4 then some (kr k) else none)))))), (kr 0, .inl (G.2 0, 64, .inl (KP 0))), (kr 1, .inl (G.2 0, 64, .inl (KP 1))), (kr 2, .inl (G.2 0, 64, .inl (KP 2))), (kr 3, .inl (G.2 0, 64, .inl (KP 3)))] sz)) 0 0 (va_A [(m0, .inr (7, [.int th, .int mr, .long po, .ref dO, .ref sl, .ref ct0, .int mf, .int sp, .ref st0, .ref fs0, .ref jn0, .ref rw0, .ref fd0, .ref af0, .ref kO])), (dO, .inl (G.2 4, 6, .inr (.inr (.inr (.inr (fun k => if k < 6 then some (dr k) else none)))))), (dr 0, .inl (G.2 0, 64, .inl (DD 0))), (dr 1, .inl (G.2 0, 64, .inl (DD 1))), (dr 2, .inl (G.2 0, 64, .inl (DD 2))), (dr 3, .inl (G.2 0, 64, .inl (DD 3))), (dr 4, .inl (G.2 0, 64, .inl (DD 4))), (dr 5, .inl (G.2 0, 64, .inl (DD 5))), (ct0, .inl (G.2 0, 6, .inl ctf)), (st0, .inl (G.2 0, 4096, .inl stf)), (fs0, .inl (G.2 0, 4096, .inl fsf)), (jn0, .inl (G.2 0, 64, .inl jnf)), (rw0, .inl (G.2 0, 64, .inl rwf)), (fd0, .inl (G.2 1, 40, .inr (.inl fdf))), (af0, .inl (G.2 3, 40, .inl aff)), (kO, .inl (G.2 4, 4, .inr (.inr (.inr (.inr (fun k => if k < 4 then some (kr k) else none)))))), (kr 0, .inl (G.2 0, 64, .inl (KP 0))), (kr 1, .inl (G.2 0, 64, .inl (KP 1))), (kr 2, .inl (G.2 0, 64, .inl (KP 2))), (kr 3, .inl (G.2 0, 64, .inl (KP 3)))] sz) := by
  refine Met.ofW (cc := cX4_roundsNow) (maxL := 10) (ret := (some .int)) (by decide) rfl ?_
  intro p e s m args below meth c s₁ B hml hv
  obtain ⟨rfl, hsz, hP, hKK, hD0, hSS⟩ := hv
  obtain ⟨hK, hN, hR, hFW, hNC⟩ := id hKK
  have hx := B.exec
  have hb := B.bytes
  have hr := B.returns
  have hts0 := atoms_spec (ws := wl_X4_roundsNow) B.pre
  have hts : ∀ w ∈ lwg, w.before ([.ref m0, .int p1, .int p2] : List Value).toArray s = true := fun w hw => hts0 w (List.mem_cons_of_mem _ hw)
  have hown : s.vm.findClass RX4 = some m.cls := findClass_of_methodNamed B.named
  have hlocks := B.notSynchronized
  subst hsz
  have hD := hD0.self (sz := s.heap.size)
  generalize hAe : va_A [(m0, .inr (7, [.int th, .int mr, .long po, .ref dO, .ref sl, .ref ct0, .int mf, .int sp, .ref st0, .ref fs0, .ref jn0, .ref rw0, .ref fd0, .ref af0, .ref kO])), (dO, .inl (G.2 4, 6, .inr (.inr (.inr (.inr (fun k => if k < 6 then some (dr k) else none)))))), (dr 0, .inl (G.2 0, 64, .inl (DD 0))), (dr 1, .inl (G.2 0, 64, .inl (DD 1))), (dr 2, .inl (G.2 0, 64, .inl (DD 2))), (dr 3, .inl (G.2 0, 64, .inl (DD 3))), (dr 4, .inl (G.2 0, 64, .inl (DD 4))), (dr 5, .inl (G.2 0, 64, .inl (DD 5))), (ct0, .inl (G.2 0, 6, .inl ctf)), (st0, .inl (G.2 0, 4096, .inl stf)), (fs0, .inl (G.2 0, 4096, .inl fsf)), (jn0, .inl (G.2 0, 64, .inl jnf)), (rw0, .inl (G.2 0, 64, .inl rwf)), (fd0, .inl (G.2 1, 40, .inr (.inl fdf))), (af0, .inl (G.2 3, 40, .inl aff)), (kO, .inl (G.2 4, 4, .inr (.inr (.inr (.inr (fun k => if k < 4 then some (kr k) else none)))))), (kr 0, .inl (G.2 0, 64, .inl (KP 0))), (kr 1, .inl (G.2 0, 64, .inl (KP 1))), (kr 2, .inl (G.2 0, 64, .inl (KP 2))), (kr 3, .inl (G.2 0, 64, .inl (KP 3)))] s.heap.size = A at hD hSS ⊢
  have hA : ∀ q : Nat, s.heap.size ≤ q → A q := fun q h => by rw [← hAe]; exact Or.inr h
  have hS : va_S A s.heap s.heap [] := va_S.rf
  obtain ⟨QC, hQC⟩ : ∃ Z, Z = (va_Qi post (fun u t => PP G [(m0, .inr (7, [.int th, .int mr, .long (u.2.2.2.2.2.2.2), .ref dO, .ref sl, .ref ct0, .int mf, .int (u.1), .ref st0, .ref fs0, .ref jn0, .ref rw0, .ref fd0, .ref af0, .ref kO])), (dO, .inl (G.2 4, 6, .inr (.inr (.inr (.inr (fun k => if k < 6 then some (dr k) else none)))))), (dr 0, .inl (G.2 0, 64, .inl (DD 0))), (dr 1, .inl (G.2 0, 64, .inl (DD 1))), (dr 2, .inl (G.2 0, 64, .inl (DD 2))), (dr 3, .inl (G.2 0, 64, .inl (DD 3))), (dr 4, .inl (G.2 0, 64, .inl (DD 4))), (dr 5, .inl (G.2 0, 64, .inl (DD 5))), (ct0, .inl (G.2 0, 6, .inl ctf)), (st0, .inl (G.2 0, 4096, .inl (u.2.1))), (fs0, .inl (G.2 0, 4096, .inl (u.2.2.1))), (jn0, .inl (G.2 0, 64, .inl (u.2.2.2.1))), (rw0, .inl (G.2 0, 64, .inl (u.2.2.2.2.1))), (fd0, .inl (G.2 1, 40, .inr (.inl (u.2.2.2.2.2.1)))), (af0, .inl (G.2 3, 40, .inl (u.2.2.2.2.2.2.1))), (kO, .inl (G.2 4, 4, .inr (.inr (.inr (.inr (fun k => if k < 4 then some (kr k) else none)))))), (kr 0, .inl (G.2 0, 64, .inl (KP 0))), (kr 1, .inl (G.2 0, 64, .inl (KP 1))), (kr 2, .inl (G.2 0, 64, .inl (KP 2))), (kr 3, .inl (G.2 0, 64, .inl (KP 3)))] t.heap ∧ va_D A [(m0, .inr (7, [.int th, .int mr, .long (u.2.2.2.2.2.2.2), .ref dO, .ref sl, .ref ct0, .int mf, .int (u.1), .ref st0, .ref fs0, .ref jn0, .ref rw0, .ref fd0, .ref af0, .ref kO])), (dO, .inl (G.2 4, 6, .inr (.inr (.inr (.inr (fun k => if k < 6 then some (dr k) else none)))))), (dr 0, .inl (G.2 0, 64, .inl (DD 0))), (dr 1, .inl (G.2 0, 64, .inl (DD 1))), (dr 2, .inl (G.2 0, 64, .inl (DD 2))), (dr 3, .inl (G.2 0, 64, .inl (DD 3))), (dr 4, .inl (G.2 0, 64, .inl (DD 4))), (dr 5, .inl (G.2 0, 64, .inl (DD 5))), (ct0, .inl (G.2 0, 6, .inl ctf)), (st0, .inl (G.2 0, 4096, .inl (u.2.1))), (fs0, .inl (G.2 0, 4096, .inl (u.2.2.1))), (jn0, .inl (G.2 0, 64, .inl (u.2.2.2.1))), (rw0, .inl (G.2 0, 64, .inl (u.2.2.2.2.1))), (fd0, .inl (G.2 1, 40, .inr (.inl (u.2.2.2.2.2.1)))), (af0, .inl (G.2 3, 40, .inl (u.2.2.2.2.2.2.1))), (kO, .inl (G.2 4, 4, .inr (.inr (.inr (.inr (fun k => if k < 4 then some (kr k) else none)))))), (kr 0, .inl (G.2 0, 64, .inl (KP 0))), (kr 1, .inl (G.2 0, 64, .inl (KP 1))), (kr 2, .inl (G.2 0, 64, .inl (KP 2))), (kr 3, .inl (G.2 0, 64, .inl (KP 3)))]) A) := ⟨_, rfl⟩
  rw [← hQC]
  have hP : PP G [(m0, .inr (7, [.int th, .int mr, .long po, .ref dO, .ref sl, .ref ct0, .int mf, .int sp, .ref st0, .ref fs0, .ref jn0, .ref rw0, .ref fd0, .ref af0, .ref kO])), (dO, .inl (G.2 4, 6, .inr (.inr (.inr (.inr (fun k => if k < 6 then some (dr k) else none)))))), (dr 0, .inl (G.2 0, 64, .inl (DD 0))), (dr 1, .inl (G.2 0, 64, .inl (DD 1))), (dr 2, .inl (G.2 0, 64, .inl (DD 2))), (dr 3, .inl (G.2 0, 64, .inl (DD 3))), (dr 4, .inl (G.2 0, 64, .inl (DD 4))), (dr 5, .inl (G.2 0, 64, .inl (DD 5))), (ct0, .inl (G.2 0, 6, .inl ctf)), (st0, .inl (G.2 0, 4096, .inl stf)), (fs0, .inl (G.2 0, 4096, .inl fsf)), (jn0, .inl (G.2 0, 64, .inl jnf)), (rw0, .inl (G.2 0, 64, .inl rwf)), (fd0, .inl (G.2 1, 40, .inr (.inl fdf))), (af0, .inl (G.2 3, 40, .inl aff)), (kO, .inl (G.2 4, 4, .inr (.inr (.inr (.inr (fun k => if k < 4 then some (kr k) else none)))))), (kr 0, .inl (G.2 0, 64, .inl (KP 0))), (kr 1, .inl (G.2 0, 64, .inl (KP 1))), (kr 2, .inl (G.2 0, 64, .inl (KP 2))), (kr 3, .inl (G.2 0, 64, .inl (KP 3)))] s.heap := hP
  have hl := lv_entry ([.ref m0, .int p1, .int p2]) (n := 10) (Nat.le_of_ble_eq_true rfl)
  rw [lg_entry_eq]
  generalize (lg_sl ([.ref m0, .int p1, .int p2]) ++ List.replicate (10 - (lg_sl ([.ref m0, .int p1, .int p2])).length) Slot.unset).toArray = ls at hl ⊢
  have hl : lv_has ls 10 [(0, .ref m0), (1, .int p1), (2, .int p2)] := hl
  have loop8 : ∀ (K69 : Int32 → Int32 → (Nat → Int32) → (Nat → Int32) → (Nat → Int32) → (Nat → Int32) → (Nat → Int64) → (Nat → Int32) → Int64 → Prop), True → (∀ (i5 : Int32) (sp' : Int32) (stf' : Nat → Int32) (fsf' : Nat → Int32) (jnf' : Nat → Int32) (rwf' : Nat → Int32) (fdf' : Nat → Int64) (aff' : Nat → Int32) (po' : Int64) (ls : Array Slot) (H : Heap) (locs : List Loc), lv_has ls 10 [(0, .ref m0), (1, .int p1), (2, .int p2), (3, .long po), (5, .int i5)] → PP G [(m0, .inr (7, [.int th, .int mr, .long po', .ref dO, .ref sl, .ref ct0, .int mf, .int sp', .ref st0, .ref fs0, .ref jn0, .ref rw0, .ref fd0, .ref af0, .ref kO])), (dO, .inl (G.2 4, 6, .inr (.inr (.inr (.inr (fun k => if k < 6 then some (dr k) else none)))))), (dr 0, .inl (G.2 0, 64, .inl (DD 0))), (dr 1, .inl (G.2 0, 64, .inl (DD 1))), (dr 2, .inl (G.2 0, 64, .inl (DD 2))), (dr 3, .inl (G.2 0, 64, .inl (DD 3))), (dr 4, .inl (G.2 0, 64, .inl (DD 4))), (dr 5, .inl (G.2 0, 64, .inl (DD 5))), (ct0, .inl (G.2 0, 6, .inl ctf)), (st0, .inl (G.2 0, 4096, .inl stf')), (fs0, .inl (G.2 0, 4096, .inl fsf')), (jn0, .inl (G.2 0, 64, .inl jnf')), (rw0, .inl (G.2 0, 64, .inl rwf')), (fd0, .inl (G.2 1, 40, .inr (.inl fdf'))), (af0, .inl (G.2 3, 40, .inl aff')), (kO, .inl (G.2 4, 4, .inr (.inr (.inr (.inr (fun k => if k < 4 then some (kr k) else none)))))), (kr 0, .inl (G.2 0, 64, .inl (KP 0))), (kr 1, .inl (G.2 0, 64, .inl (KP 1))), (kr 2, .inl (G.2 0, 64, .inl (KP 2))), (kr 3, .inl (G.2 0, 64, .inl (KP 3)))] H → va_D A [(m0, .inr (7, [.int th, .int mr, .long po', .ref dO, .ref sl, .ref ct0, .int mf, .int sp', .ref st0, .ref fs0, .ref jn0, .ref rw0, .ref fd0, .ref af0, .ref kO])), (dO, .inl (G.2 4, 6, .inr (.inr (.inr (.inr (fun k => if k < 6 then some (dr k) else none)))))), (dr 0, .inl (G.2 0, 64, .inl (DD 0))), (dr 1, .inl (G.2 0, 64, .inl (DD 1))), (dr 2, .inl (G.2 0, 64, .inl (DD 2))), (dr 3, .inl (G.2 0, 64, .inl (DD 3))), (dr 4, .inl (G.2 0, 64, .inl (DD 4))), (dr 5, .inl (G.2 0, 64, .inl (DD 5))), (ct0, .inl (G.2 0, 6, .inl ctf)), (st0, .inl (G.2 0, 4096, .inl stf')), (fs0, .inl (G.2 0, 4096, .inl fsf')), (jn0, .inl (G.2 0, 64, .inl jnf')), (rw0, .inl (G.2 0, 64, .inl rwf')), (fd0, .inl (G.2 1, 40, .inr (.inl fdf'))), (af0, .inl (G.2 3, 40, .inl aff')), (kO, .inl (G.2 4, 4, .inr (.inr (.inr (.inr (fun k => if k < 4 then some (kr k) else none)))))), (kr 0, .inl (G.2 0, 64, .inl (KP 0))), (kr 1, .inl (G.2 0, 64, .inl (KP 1))), (kr 2, .inl (G.2 0, 64, .inl (KP 2))), (kr 3, .inl (G.2 0, 64, .inl (KP 3)))] → va_S A s.heap H locs → K69 i5 sp' stf' fsf' jnf' rwf' fdf' aff' po' → W p l e (headSpec (wl_X4_roundsNow) rm_X4_roundsNow).room s m ([.ref m0, .int p1, .int p2] : List Value).toArray below meth c H locs 0 0 (MQ below QC ([.ref m0, .int p1, .int p2] : List Value).toArray s 0 0 A) (F0 m 69 ls [])) → ∀ (n : Nat) (i5 : Int32) (sp' : Int32) (stf' : Nat → Int32) (fsf' : Nat → Int32) (jnf' : Nat → Int32) (rwf' : Nat → Int32) (fdf' : Nat → Int64) (aff' : Nat → Int32) (po' : Int64) (ls : Array Slot) (H : Heap) (locs : List Loc), lv_has ls 10 [(0, .ref m0), (1, .int p1), (2, .int p2), (3, .long po), (5, .int i5)] → PP G [(m0, .inr (7, [.int th, .int mr, .long po', .ref dO, .ref sl, .ref ct0, .int mf, .int sp', .ref st0, .ref fs0, .ref jn0, .ref rw0, .ref fd0, .ref af0, .ref kO])), (dO, .inl (G.2 4, 6, .inr (.inr (.inr (.inr (fun k => if k < 6 then some (dr k) else none)))))), (dr 0, .inl (G.2 0, 64, .inl (DD 0))), (dr 1, .inl (G.2 0, 64, .inl (DD 1))), (dr 2, .inl (G.2 0, 64, .inl (DD 2))), (dr 3, .inl (G.2 0, 64, .inl (DD 3))), (dr 4, .inl (G.2 0, 64, .inl (DD 4))), (dr 5, .inl (G.2 0, 64, .inl (DD 5))), (ct0, .inl (G.2 0, 6, .inl ctf)), (st0, .inl (G.2 0, 4096, .inl stf')), (fs0, .inl (G.2 0, 4096, .inl fsf')), (jn0, .inl (G.2 0, 64, .inl jnf')), (rw0, .inl (G.2 0, 64, .inl rwf')), (fd0, .inl (G.2 1, 40, .inr (.inl fdf'))), (af0, .inl (G.2 3, 40, .inl aff')), (kO, .inl (G.2 4, 4, .inr (.inr (.inr (.inr (fun k => if k < 4 then some (kr k) else none)))))), (kr 0, .inl (G.2 0, 64, .inl (KP 0))), (kr 1, .inl (G.2 0, 64, .inl (KP 1))), (kr 2, .inl (G.2 0, 64, .inl (KP 2))), (kr 3, .inl (G.2 0, 64, .inl (KP 3)))] H → va_D A [(m0, .inr (7, [.int th, .int mr, .long po', .ref dO, .ref sl, .ref ct0, .int mf, .int sp', .ref st0, .ref fs0, .ref jn0, .ref rw0, .ref fd0, .ref af0, .ref kO])), (dO, .inl (G.2 4, 6, .inr (.inr (.inr (.inr (fun k => if k < 6 then some (dr k) else none)))))), (dr 0, .inl (G.2 0, 64, .inl (DD 0))), (dr 1, .inl (G.2 0, 64, .inl (DD 1))), (dr 2, .inl (G.2 0, 64, .inl (DD 2))), (dr 3, .inl (G.2 0, 64, .inl (DD 3))), (dr 4, .inl (G.2 0, 64, .inl (DD 4))), (dr 5, .inl (G.2 0, 64, .inl (DD 5))), (ct0, .inl (G.2 0, 6, .inl ctf)), (st0, .inl (G.2 0, 4096, .inl stf')), (fs0, .inl (G.2 0, 4096, .inl fsf')), (jn0, .inl (G.2 0, 64, .inl jnf')), (rw0, .inl (G.2 0, 64, .inl rwf')), (fd0, .inl (G.2 1, 40, .inr (.inl fdf'))), (af0, .inl (G.2 3, 40, .inl aff')), (kO, .inl (G.2 4, 4, .inr (.inr (.inr (.inr (fun k => if k < 4 then some (kr k) else none)))))), (kr 0, .inl (G.2 0, 64, .inl (KP 0))), (kr 1, .inl (G.2 0, 64, .inl (KP 1))), (kr 2, .inl (G.2 0, 64, .inl (KP 2))), (kr 3, .inl (G.2 0, 64, .inl (KP 3)))] → va_S A s.heap H locs → wX4_roundsNow_L8 post K69 th mr mf DD ctf KP sn sq p1 p2 n i5 sp' stf' fsf' jnf' rwf' fdf' aff' po' → W p l e (headSpec (wl_X4_roundsNow) rm_X4_roundsNow).room s m ([.ref m0, .int p1, .int p2] : List Value).toArray below meth c H locs 0 0 (MQ below QC ([.ref m0, .int p1, .int p2] : List Value).toArray s 0 0 A) (F0 m 8 ls []) := by
    intro K69 _ hexit69 n
    induction n with
    | zero => intro i5 sp' stf' fsf' jnf' rwf' fdf' aff' po' ls H locs hl hP hD hS h; exact False.elim h
    | succ n ih =>
      intro i5 sp' stf' fsf' jnf' rwf' fdf' aff' po' ls H locs hl hP hD hS h
      refine lv_aload_n hx hb dX4_roundsNow_8 rfl (lv_at hl 0 rfl) ?_
      refine lv_iload_n hx hb dX4_roundsNow_9 rfl (lv_at hl 2 rfl) ?_
      have hPc := hP
      have hDc := hD.sub (ws' := [(m0, .inr (7, [.int th, .int mr, .long po', .ref dO, .ref sl, .ref ct0, .int mf, .int sp', .ref st0, .ref fs0, .ref jn0, .ref rw0, .ref fd0, .ref af0, .ref kO])), (dO, .inl (G.2 4, 6, .inr (.inr (.inr (.inr (fun k => if k < 6 then some (dr k) else none)))))), (dr 0, .inl (G.2 0, 64, .inl (DD 0))), (dr 1, .inl (G.2 0, 64, .inl (DD 1))), (dr 2, .inl (G.2 0, 64, .inl (DD 2))), (dr 3, .inl (G.2 0, 64, .inl (DD 3))), (dr 4, .inl (G.2 0, 64, .inl (DD 4))), (dr 5, .inl (G.2 0, 64, .inl (DD 5))), (ct0, .inl (G.2 0, 6, .inl ctf)), (st0, .inl (G.2 0, 4096, .inl stf')), (fs0, .inl (G.2 0, 4096, .inl fsf')), (jn0, .inl (G.2 0, 64, .inl jnf')), (rw0, .inl (G.2 0, 64, .inl rwf')), (fd0, .inl (G.2 1, 40, .inr (.inl fdf'))), (af0, .inl (G.2 3, 40, .inl aff')), (kO, .inl (G.2 4, 4, .inr (.inr (.inr (.inr (fun k => if k < 4 then some (kr k) else none)))))), (kr 0, .inl (G.2 0, 64, .inl (KP 0))), (kr 1, .inl (G.2 0, 64, .inl (KP 1))), (kr 2, .inl (G.2 0, 64, .inl (KP 2))), (kr 3, .inl (G.2 0, 64, .inl (KP 3)))]) [0, 1, 2, 3, 4, 5, 6, 7, 8, 9, 10, 11, 12, 13, 14, 15, 16, 17, 18, 19] (by decide) rfl
      have hFc := va_free (wc := [(m0, .inr (7, [.int th, .int mr, .long po', .ref dO, .ref sl, .ref ct0, .int mf, .int sp', .ref st0, .ref fs0, .ref jn0, .ref rw0, .ref fd0, .ref af0, .ref kO])), (dO, .inl (G.2 4, 6, .inr (.inr (.inr (.inr (fun k => if k < 6 then some (dr k) else none)))))), (dr 0, .inl (G.2 0, 64, .inl (DD 0))), (dr 1, .inl (G.2 0, 64, .inl (DD 1))), (dr 2, .inl (G.2 0, 64, .inl (DD 2))), (dr 3, .inl (G.2 0, 64, .inl (DD 3))), (dr 4, .inl (G.2 0, 64, .inl (DD 4))), (dr 5, .inl (G.2 0, 64, .inl (DD 5))), (ct0, .inl (G.2 0, 6, .inl ctf)), (st0, .inl (G.2 0, 4096, .inl stf')), (fs0, .inl (G.2 0, 4096, .inl fsf')), (jn0, .inl (G.2 0, 64, .inl jnf')), (rw0, .inl (G.2 0, 64, .inl rwf')), (fd0, .inl (G.2 1, 40, .inr (.inl fdf'))), (af0, .inl (G.2 3, 40, .inl aff')), (kO, .inl (G.2 4, 4, .inr (.inr (.inr (.inr (fun k => if k < 4 then some (kr k) else none)))))), (kr 0, .inl (G.2 0, 64, .inl (KP 0))), (kr 1, .inl (G.2 0, 64, .inl (KP 1))), (kr 2, .inl (G.2 0, 64, .inl (KP 2))), (kr 3, .inl (G.2 0, 64, .inl (KP 3)))]) hD hS hA [0, 1, 2, 3, 4, 5, 6, 7, 8, 9, 10, 11, 12, 13, 14, 15, 16, 17, 18, 19] rfl
      have hSSc := (hSS.kept hS.2.1).narrow hFc
      refine va_calll (va_runV (C := RX4) (As := [.int p2]) (rest := []) ⟨hx, hb, hml, hown, hts⟩ (kX4_truthNow l G m0 dO sl ct0 st0 fs0 jn0 rw0 fd0 af0 kO dr kr sa th mr po' mf sp' DD ctf stf' fsf' jnf' rwf' fdf' aff' KP sn sq p2 _ h) (cwV 1 hts (gdV q1234 q1236 qs28 q6 q1237) rfl rfl rfl (by decide +kernel) ⟨Nat.le_of_ble_eq_true rfl, Nat.le_of_ble_eq_true rfl⟩) (preVws hPc hKK hDc hSSc (va_recv hK hPc (ci := 7) (q0 := 0) rfl rfl)) rfl rfl hl.1 rfl (lv_room (Nat.le_of_ble_eq_true rfl)) dX4_roundsNow_10 ⟨Nat.zero_le _, Nat.zero_le _⟩) hS (fun q _ h => hFc q h) hFc (fun r_1 u t H1 locs ht hvm h hB hz1 hk1 hS => ?_)
      obtain ⟨sp_1, stf_1, fsf_1, jnf_1, rwf_1, fdf_1, aff_1⟩ := u
      obtain ⟨hP1, hD1⟩ := hB
      rw [ht] at hP1
      have hP := hP1
      have hD : va_D A [(m0, .inr (7, [.int th, .int mr, .long po', .ref dO, .ref sl, .ref ct0, .int mf, .int sp_1, .ref st0, .ref fs0, .ref jn0, .ref rw0, .ref fd0, .ref af0, .ref kO])), (dO, .inl (G.2 4, 6, .inr (.inr (.inr (.inr (fun k => if k < 6 then some (dr k) else none)))))), (dr 0, .inl (G.2 0, 64, .inl (DD 0))), (dr 1, .inl (G.2 0, 64, .inl (DD 1))), (dr 2, .inl (G.2 0, 64, .inl (DD 2))), (dr 3, .inl (G.2 0, 64, .inl (DD 3))), (dr 4, .inl (G.2 0, 64, .inl (DD 4))), (dr 5, .inl (G.2 0, 64, .inl (DD 5))), (ct0, .inl (G.2 0, 6, .inl ctf)), (st0, .inl (G.2 0, 4096, .inl stf_1)), (fs0, .inl (G.2 0, 4096, .inl fsf_1)), (jn0, .inl (G.2 0, 64, .inl jnf_1)), (rw0, .inl (G.2 0, 64, .inl rwf_1)), (fd0, .inl (G.2 1, 40, .inr (.inl fdf_1))), (af0, .inl (G.2 3, 40, .inl aff_1)), (kO, .inl (G.2 4, 4, .inr (.inr (.inr (.inr (fun k => if k < 4 then some (kr k) else none)))))), (kr 0, .inl (G.2 0, 64, .inl (KP 0))), (kr 1, .inl (G.2 0, 64, .inl (KP 1))), (kr 2, .inl (G.2 0, 64, .inl (KP 2))), (kr 3, .inl (G.2 0, 64, .inl (KP 3)))] := hD1.weaken (fun _ _ _ h => hFc _ h)
      generalize H1 = H at hP hS ⊢
      have hP : PP G [(m0, .inr (7, [.int th, .int mr, .long po', .ref dO, .ref sl, .ref ct0, .int mf, .int sp_1, .ref st0, .ref fs0, .ref jn0, .ref rw0, .ref fd0, .ref af0, .ref kO])), (dO, .inl (G.2 4, 6, .inr (.inr (.inr (.inr (fun k => if k < 6 then some (dr k) else none)))))), (dr 0, .inl (G.2 0, 64, .inl (DD 0))), (dr 1, .inl (G.2 0, 64, .inl (DD 1))), (dr 2, .inl (G.2 0, 64, .inl (DD 2))), (dr 3, .inl (G.2 0, 64, .inl (DD 3))), (dr 4, .inl (G.2 0, 64, .inl (DD 4))), (dr 5, .inl (G.2 0, 64, .inl (DD 5))), (ct0, .inl (G.2 0, 6, .inl ctf)), (st0, .inl (G.2 0, 4096, .inl stf_1)), (fs0, .inl (G.2 0, 4096, .inl fsf_1)), (jn0, .inl (G.2 0, 64, .inl jnf_1)), (rw0, .inl (G.2 0, 64, .inl rwf_1)), (fd0, .inl (G.2 1, 40, .inr (.inl fdf_1))), (af0, .inl (G.2 3, 40, .inl aff_1)), (kO, .inl (G.2 4, 4, .inr (.inr (.inr (.inr (fun k => if k < 4 then some (kr k) else none)))))), (kr 0, .inl (G.2 0, 64, .inl (KP 0))), (kr 1, .inl (G.2 0, 64, .inl (KP 1))), (kr 2, .inl (G.2 0, 64, .inl (KP 2))), (kr 3, .inl (G.2 0, 64, .inl (KP 3)))] H := hP
      refine lv_lstore hx hb dX4_roundsNow_13 hl (Nat.le_of_ble_eq_true rfl) rfl (fun ls hl => ?_)
      have hl : lv_has ls 10 [(6, .long r_1), (0, .ref m0), (1, .int p1), (2, .int p2), (3, .long po), (5, .int i5)] := hl
      refine lv_aload_n hx hb dX4_roundsNow_15 rfl (lv_at hl 1 rfl) ?_
      refine lv_iload_n hx hb dX4_roundsNow_16 rfl (lv_at hl 2 rfl) ?_
      refine lv_lload hx hb dX4_roundsNow_17 (lv_at hl 0 rfl) ?_
      refine lv_aload_n hx hb dX4_roundsNow_19 rfl (lv_at hl 1 rfl) ?_
      refine va_get (D := G.1) (ci := 7) (v := .int mr) (C := RX4) (T := TX4) (N := 15) hx hb hts igX4 hown hK hP 0 rfl rfl 1 (by decide) (hts _ q1006) (fun _ h9 => h9) rfl dX4_roundsNow_20 ?_
      have hPc := hP
      refine rdI (va_runV (C := RX4) (As := [.int p1, .long r_1, .int mr]) (rest := []) ⟨hx, hb, hml, hown, hts⟩ (kX4_who l G m0 dO sl ct0 st0 fs0 jn0 rw0 fd0 af0 kO dr kr sa th mr po' mf sp_1 DD ctf stf_1 fsf_1 jnf_1 rwf_1 fdf_1 aff_1 KP sn sq p1 r_1 mr h) (cwV 3 hts (gdV q1258 q1260 qs31 q6 q1261) rfl rfl rfl (by decide +kernel) ⟨Nat.le_of_ble_eq_true rfl, Nat.le_of_ble_eq_true rfl⟩) (preV hPc hKK (va_recv hK hPc (ci := 7) (q0 := 0) rfl rfl)) rfl rfl hl.1 rfl (lv_room (Nat.le_of_ble_eq_true rfl)) dX4_roundsNow_23 ⟨Nat.zero_le _, Nat.zero_le _⟩) (fun r_2 h => ?_)
      refine lv_if_eq (tgt := 32) hx hb dX4_roundsNow_26 (by decide) (fun hc => ?_) (fun hc => ?_)
      · have h := h.1 hc
        refine lv_aload_n hx hb dX4_roundsNow_32 rfl (lv_at hl 1 rfl) ?_
        refine lv_iload_n hx hb dX4_roundsNow_33 rfl (lv_at hl 2 rfl) ?_
        refine lv_lload hx hb dX4_roundsNow_34 (lv_at hl 0 rfl) ?_
        have hPc := hP
        refine rdL (va_runV (C := RX4) (As := [.int p1, .long r_1]) (rest := []) ⟨hx, hb, hml, hown, hts⟩ (kX4_asked l G m0 dO sl ct0 st0 fs0 jn0 rw0 fd0 af0 kO dr kr sa th mr po' mf sp_1 DD ctf stf_1 fsf_1 jnf_1 rwf_1 fdf_1 aff_1 KP sn sq p1 r_1 h) (cwV 2 hts (gdV q1262 q1264 qs32 q6 q1265) rfl rfl rfl (by decide +kernel) ⟨Nat.le_of_ble_eq_true rfl, Nat.le_of_ble_eq_true rfl⟩) (preV hPc hKK (va_recv hK hPc (ci := 7) (q0 := 0) rfl rfl)) rfl rfl hl.1 rfl (lv_room (Nat.le_of_ble_eq_true rfl)) dX4_roundsNow_36 ⟨Nat.zero_le _, Nat.zero_le _⟩) (fun r_3 h => ?_)
        refine lv_lstore hx hb dX4_roundsNow_39 hl (Nat.le_of_ble_eq_true rfl) rfl (fun ls hl => ?_)
        have hl : lv_has ls 10 [(8, .long r_3), (6, .long r_1), (0, .ref m0), (1, .int p1), (2, .int p2), (3, .long po), (5, .int i5)] := hl
        refine lv_lload hx hb dX4_roundsNow_41 (lv_at hl 0 rfl) ?_
        refine lv_aload_n hx hb dX4_roundsNow_43 rfl (lv_at hl 2 rfl) ?_
        refine va_get (D := G.1) (ci := 7) (v := .long po') (C := RX4) (T := TX4) (N := 15) hx hb hts igX4 hown hK hP 0 rfl rfl 2 (by decide) (hts _ q1007) (fun _ h9 => h9) rfl dX4_roundsNow_44 ?_
        refine W.lcmp hx hb dX4_roundsNow_47 ?_
        refine lv_if_ne (tgt := 57) hx hb dX4_roundsNow_48 (by decide) (fun hc => ?_) (fun hc => ?_)
        · have h := h.1 hc
          refine lv_aload_n hx hb dX4_roundsNow_57 rfl (lv_at hl 2 rfl) ?_
          refine lv_lload hx hb dX4_roundsNow_58 (lv_at hl 0 rfl) ?_
          refine va_put (D := G.1) (ci := 7) (v := .long r_3) (ty := .long) (C := RX4) (T := TX4) (N := 15) hx hb hts igX4 tyX4 tyX4_ok nmX4 hown hK hP hD hS 0 rfl rfl 2 (by decide) (hts _ q1007) (fun _ h9 => h9) rfl (by decide +kernel) rfl rfl (Nat.le_of_ble_eq_true rfl) dX4_roundsNow_60 (fun H locs hP hD hS => ?_)
          have hP : PP G [(m0, .inr (7, [.int th, .int mr, .long r_3, .ref dO, .ref sl, .ref ct0, .int mf, .int sp_1, .ref st0, .ref fs0, .ref jn0, .ref rw0, .ref fd0, .ref af0, .ref kO])), (dO, .inl (G.2 4, 6, .inr (.inr (.inr (.inr (fun k => if k < 6 then some (dr k) else none)))))), (dr 0, .inl (G.2 0, 64, .inl (DD 0))), (dr 1, .inl (G.2 0, 64, .inl (DD 1))), (dr 2, .inl (G.2 0, 64, .inl (DD 2))), (dr 3, .inl (G.2 0, 64, .inl (DD 3))), (dr 4, .inl (G.2 0, 64, .inl (DD 4))), (dr 5, .inl (G.2 0, 64, .inl (DD 5))), (ct0, .inl (G.2 0, 6, .inl ctf)), (st0, .inl (G.2 0, 4096, .inl stf_1)), (fs0, .inl (G.2 0, 4096, .inl fsf_1)), (jn0, .inl (G.2 0, 64, .inl jnf_1)), (rw0, .inl (G.2 0, 64, .inl rwf_1)), (fd0, .inl (G.2 1, 40, .inr (.inl fdf_1))), (af0, .inl (G.2 3, 40, .inl aff_1)), (kO, .inl (G.2 4, 4, .inr (.inr (.inr (.inr (fun k => if k < 4 then some (kr k) else none)))))), (kr 0, .inl (G.2 0, 64, .inl (KP 0))), (kr 1, .inl (G.2 0, 64, .inl (KP 1))), (kr 2, .inl (G.2 0, 64, .inl (KP 2))), (kr 3, .inl (G.2 0, 64, .inl (KP 3)))] H := hP
          have hD : va_D A [(m0, .inr (7, [.int th, .int mr, .long r_3, .ref dO, .ref sl, .ref ct0, .int mf, .int sp_1, .ref st0, .ref fs0, .ref jn0, .ref rw0, .ref fd0, .ref af0, .ref kO])), (dO, .inl (G.2 4, 6, .inr (.inr (.inr (.inr (fun k => if k < 6 then some (dr k) else none)))))), (dr 0, .inl (G.2 0, 64, .inl (DD 0))), (dr 1, .inl (G.2 0, 64, .inl (DD 1))), (dr 2, .inl (G.2 0, 64, .inl (DD 2))), (dr 3, .inl (G.2 0, 64, .inl (DD 3))), (dr 4, .inl (G.2 0, 64, .inl (DD 4))), (dr 5, .inl (G.2 0, 64, .inl (DD 5))), (ct0, .inl (G.2 0, 6, .inl ctf)), (st0, .inl (G.2 0, 4096, .inl stf_1)), (fs0, .inl (G.2 0, 4096, .inl fsf_1)), (jn0, .inl (G.2 0, 64, .inl jnf_1)), (rw0, .inl (G.2 0, 64, .inl rwf_1)), (fd0, .inl (G.2 1, 40, .inr (.inl fdf_1))), (af0, .inl (G.2 3, 40, .inl aff_1)), (kO, .inl (G.2 4, 4, .inr (.inr (.inr (.inr (fun k => if k < 4 then some (kr k) else none)))))), (kr 0, .inl (G.2 0, 64, .inl (KP 0))), (kr 1, .inl (G.2 0, 64, .inl (KP 1))), (kr 2, .inl (G.2 0, 64, .inl (KP 2))), (kr 3, .inl (G.2 0, 64, .inl (KP 3)))] := hD
          refine lv_iinc (v := (i5 + 1)) hx hb dX4_roundsNow_63 hl (k := 6) rfl (by rw [show Int32.ofInt 1 = 1 from by decide]) (Nat.le_of_ble_eq_true rfl) rfl (fun ls hl => ?_)
          have hl : lv_has ls 10 [(5, .int (i5 + 1)), (8, .long r_3), (6, .long r_1), (0, .ref m0), (1, .int p1), (2, .int p2), (3, .long po)] := hl
          refine lv_goto (tgt := 8) hx hb dX4_roundsNow_66 (by decide) ?_
          have hl := lv_sub (l' := [(0, .ref m0), (1, .int p1), (2, .int p2), (3, .long po), (5, .int (i5 + 1))]) hl [3, 4, 5, 6, 0] rfl
          exact ih _ _ _ _ _ _ _ _ _ ls H locs hl hP hD hS h
        · have h := h.2 hc
          refine lv_iconst (v := (-1)) hx hb dX4_roundsNow_51 (by decide) ?_
          refine lv_istore hx hb dX4_roundsNow_52 hl (Nat.le_of_ble_eq_true rfl) rfl (fun ls hl => ?_)
          have hl : lv_has ls 10 [(5, .int (-1 : Int32)), (8, .long r_3), (6, .long r_1), (0, .ref m0), (1, .int p1), (2, .int p2), (3, .long po)] := hl
          refine lv_goto (tgt := 69) hx hb dX4_roundsNow_54 (by decide) ?_
          have hl := lv_sub (l' := [(0, .ref m0), (1, .int p1), (2, .int p2), (3, .long po), (5, .int (-1 : Int32))]) hl [3, 4, 5, 6, 0] rfl
          exact hexit69 _ _ _ _ _ _ _ _ _ ls H locs hl hP hD hS h
      · have h := h.2 hc
        refine lv_goto (tgt := 69) hx hb dX4_roundsNow_29 (by decide) ?_
        have hl := lv_sub (l' := [(0, .ref m0), (1, .int p1), (2, .int p2), (3, .long po), (5, .int i5)]) hl [1, 2, 3, 4, 5] rfl
        exact hexit69 _ _ _ _ _ _ _ _ _ ls H locs hl hP hD hS h
  refine lv_aload_n hx hb dX4_roundsNow_0 rfl (lv_at hl 0 rfl) ?_
  refine va_get (D := G.1) (ci := 7) (v := .long po) (C := RX4) (T := TX4) (N := 15) hx hb hts igX4 hown hK hP 0 rfl rfl 2 (by decide) (hts _ q1007) (fun _ h9 => h9) rfl dX4_roundsNow_1 ?_
  refine lv_lstore_n hx hb dX4_roundsNow_4 rfl hl (Nat.le_of_ble_eq_true rfl) rfl (fun ls hl => ?_)
  have hl : lv_has ls 10 [(3, .long po), (0, .ref m0), (1, .int p1), (2, .int p2)] := hl
  refine lv_iconst (v := 0) hx hb dX4_roundsNow_5 (by decide) ?_
  refine lv_istore hx hb dX4_roundsNow_6 hl (Nat.le_of_ble_eq_true rfl) rfl (fun ls hl => ?_)
  have hl : lv_has ls 10 [(5, .int (0 : Int32)), (3, .long po), (0, .ref m0), (1, .int p1), (2, .int p2)] := hl
  have hl := lv_sub (l' := [(0, .ref m0), (1, .int p1), (2, .int p2), (3, .long po), (5, .int (0 : Int32))]) hl [2, 3, 4, 1, 0] rfl
  obtain ⟨nF, h⟩ := h
  refine loop8 _ trivial ?_ nF (0 : Int32) sp stf fsf jnf rwf fdf aff po _ _ _ hl hP hD hS h
  · intro i5 sp' stf' fsf' jnf' rwf' fdf' aff' po' ls H locs hl hP hD hS h
    refine lv_aload_n hx hb dX4_roundsNow_69 rfl (lv_at hl 0 rfl) ?_
    refine lv_lload_n hx hb dX4_roundsNow_70 rfl (lv_at hl 3 rfl) ?_
    refine va_put (D := G.1) (ci := 7) (v := .long po) (ty := .long) (C := RX4) (T := TX4) (N := 15) hx hb hts igX4 tyX4 tyX4_ok nmX4 hown hK hP hD hS 0 rfl rfl 2 (by decide) (hts _ q1007) (fun _ h9 => h9) rfl (by decide +kernel) rfl rfl (Nat.le_of_ble_eq_true rfl) dX4_roundsNow_71 (fun H locs hP hD hS => ?_)
    have hP : PP G [(m0, .inr (7, [.int th, .int mr, .long po, .ref dO, .ref sl, .ref ct0, .int mf, .int sp', .ref st0, .ref fs0, .ref jn0, .ref rw0, .ref fd0, .ref af0, .ref kO])), (dO, .inl (G.2 4, 6, .inr (.inr (.inr (.inr (fun k => if k < 6 then some (dr k) else none)))))), (dr 0, .inl (G.2 0, 64, .inl (DD 0))), (dr 1, .inl (G.2 0, 64, .inl (DD 1))), (dr 2, .inl (G.2 0, 64, .inl (DD 2))), (dr 3, .inl (G.2 0, 64, .inl (DD 3))), (dr 4, .inl (G.2 0, 64, .inl (DD 4))), (dr 5, .inl (G.2 0, 64, .inl (DD 5))), (ct0, .inl (G.2 0, 6, .inl ctf)), (st0, .inl (G.2 0, 4096, .inl stf')), (fs0, .inl (G.2 0, 4096, .inl fsf')), (jn0, .inl (G.2 0, 64, .inl jnf')), (rw0, .inl (G.2 0, 64, .inl rwf')), (fd0, .inl (G.2 1, 40, .inr (.inl fdf'))), (af0, .inl (G.2 3, 40, .inl aff')), (kO, .inl (G.2 4, 4, .inr (.inr (.inr (.inr (fun k => if k < 4 then some (kr k) else none)))))), (kr 0, .inl (G.2 0, 64, .inl (KP 0))), (kr 1, .inl (G.2 0, 64, .inl (KP 1))), (kr 2, .inl (G.2 0, 64, .inl (KP 2))), (kr 3, .inl (G.2 0, 64, .inl (KP 3)))] H := hP
    have hD : va_D A [(m0, .inr (7, [.int th, .int mr, .long po, .ref dO, .ref sl, .ref ct0, .int mf, .int sp', .ref st0, .ref fs0, .ref jn0, .ref rw0, .ref fd0, .ref af0, .ref kO])), (dO, .inl (G.2 4, 6, .inr (.inr (.inr (.inr (fun k => if k < 6 then some (dr k) else none)))))), (dr 0, .inl (G.2 0, 64, .inl (DD 0))), (dr 1, .inl (G.2 0, 64, .inl (DD 1))), (dr 2, .inl (G.2 0, 64, .inl (DD 2))), (dr 3, .inl (G.2 0, 64, .inl (DD 3))), (dr 4, .inl (G.2 0, 64, .inl (DD 4))), (dr 5, .inl (G.2 0, 64, .inl (DD 5))), (ct0, .inl (G.2 0, 6, .inl ctf)), (st0, .inl (G.2 0, 4096, .inl stf')), (fs0, .inl (G.2 0, 4096, .inl fsf')), (jn0, .inl (G.2 0, 64, .inl jnf')), (rw0, .inl (G.2 0, 64, .inl rwf')), (fd0, .inl (G.2 1, 40, .inr (.inl fdf'))), (af0, .inl (G.2 3, 40, .inl aff')), (kO, .inl (G.2 4, 4, .inr (.inr (.inr (.inr (fun k => if k < 4 then some (kr k) else none)))))), (kr 0, .inl (G.2 0, 64, .inl (KP 0))), (kr 1, .inl (G.2 0, 64, .inl (KP 1))), (kr 2, .inl (G.2 0, 64, .inl (KP 2))), (kr 3, .inl (G.2 0, 64, .inl (KP 3)))] := hD
    refine lv_iload hx hb dX4_roundsNow_74 (lv_at hl 4 rfl) ?_
    subst hQC; exact W.iret (v := i5) hx hb hr (fun t ht hW => ⟨⟨_, (sp', stf', fsf', jnf', rwf', fdf', aff', po), rfl, h, by rw [ht]; exact hP, hD⟩, hS.F ht⟩) hS.2.2 dX4_roundsNow_76
